/-! Normal forms: numbers as nI k; what a heap is read for behind a write; loops. -/
theorem vpT {i N : Nat} (h : i < N) (hN : N < 2 ^ 31) : vp_in (nI i) N = True := eq_true (vp_in_nI h hN)
theorem nleT {a b : Nat} (h : a ≤ b) : (a ≤ b) = True := eq_true h
theorem nleF {a b : Nat} (h : b < a) : (a ≤ b) = False := eq_false (by omega)
theorem nltT {a b : Nat} (h : a < b) : (a < b) = True := eq_true h
theorem nltF {a b : Nat} (h : b ≤ a) : (a < b) = False := eq_false (by omega)
theorem neqT {a b : Nat} (h : a = b) : (a = b) = True := eq_true h
theorem neqF {a b : Nat} (h : a ≠ b) : (a = b) = False := eq_false h
theorem kIi {F : Int32 → hp → Prop} {X : Nat → hp → Prop} {r : Int32} {h : hp} : kI F X (.inl (some (.int r))) h = F r h := rfl
theorem kLi {F : Int64 → hp → Prop} {X : Nat → hp → Prop} {r : Int64} {h : hp} : kL F X (.inl (some (.long r))) h = F r h := rfl
theorem kRi {F : Nat → hp → Prop} {X : Nat → hp → Prop} {r : Nat} {h : hp} : kR F X (.inl (some (.ref r))) h = F r h := rfl
theorem kVi {F : hp → Prop} {X : Nat → hp → Prop} {h : hp} : kV F X (.inl none) h = F h := rfl
theorem kIx {F : Int32 → hp → Prop} {X : Nat → hp → Prop} {e : Nat} {h : hp} : kI F X (.inr e) h = X e h := rfl
theorem kVx {F : hp → Prop} {X : Nat → hp → Prop} {e : Nat} {h : hp} : kV F X (.inr e) h = X e h := rfl
theorem divN {a b : Nat} (hb : 0 < b) (ha : a < 2 ^ 31) (hb2 : b < 2 ^ 31) : nI a / nI b = nI (a / b) := by
  have hq : a / b < 2 ^ 31 := Nat.lt_of_le_of_lt (Nat.div_le_self _ _) ha
  refine Int32.toInt_inj.mp ?_
  rw [Int32.toInt_div, nI_toInt ha, nI_toInt hb2, nI_toInt hq]
  have e : (a : Int).tdiv (b : Int) = ((a / b : Nat) : Int) := rfl
  rw [e]
  generalize a / b = q at hq
  exact Int.bmod_eq_of_le (by omega) (by omega)
theorem subN {a b : Nat} (h : b ≤ a) : nI a - nI b = nI (a - b) := by
  have : nI a = nI (a - b) + nI b := by rw [nI_add]; congr 1; omega
  rw [this, Int32.add_sub_cancel]
theorem mI1 {a : Nat} (h : 0 < a) : nI a + (-1) = nI (a - 1) := by
  have : nI a + (-1) = nI a - nI 1 := by rw [Int32.sub_eq_add_neg]; rfl
  rw [this, subN h]
theorem wrH {α : Type} {f : Nat → Nat → α} {a i b j : Nat} {v : α} (h : b = a) (h2 : j = i) : wr f a i v b j = v := by subst h; subst h2; exact wr_at
theorem wrM1 {α : Type} {f : Nat → Nat → α} {a i b : Nat} {v : α} (h : b ≠ a) : wr f a i v b = f b := wr_row h
theorem wrM2 {α : Type} {f : Nat → Nat → α} {a i b j : Nat} {v : α} (h : j ≠ i) : wr f a i v b j = f b j := wr_ne (fun q => h q.2)
theorem wrowH {α : Type} {f : Nat → Nat → α} {a b : Nat} {r : Nat → α} (h : b = a) : wrow f a r b = r := by subst h; exact wrow_at
theorem wrowM {α : Type} {f : Nat → Nat → α} {a b : Nat} {r : Nat → α} (h : b ≠ a) : wrow f a r b = f b := wrow_ne h
theorem bI0 {p : Bool} : (bI p = nI 0) = (p = false) := by cases p <;> simp [bI, nI]
theorem bI1 {p : Bool} : (bI p = nI 1) = (p = true) := by cases p <;> simp [bI, nI]
theorem iteT {α : Type} {a b : α} {i : Decidable True} : @ite α True i a b = a := if_pos trivial
theorem iteF {α : Type} {a b : α} {i : Decidable False} : @ite α False i a b = b := if_neg (fun h => h)
theorem bI_t : bI true = nI 1 := rfl
theorem bI_f : bI false = nI 0 := rfl
theorem bI_d (p : Prop) [Decidable p] : bI (decide p) = if p then nI 1 else nI 0 := by by_cases h : p <;> simp [h, bI, nI]
/-- what the layouts say, for simp -/
theorem LB_ {L : hL} {b : Nat} (h : LB L b) :
  L.1 b = 2 ∧ (L.2.2.1 b 1 = some (b + 1) ∧ L.2.2.1 b 2 = some (b + 2) ∧ L.2.2.1 b 3 = some (b + 3) ∧ L.2.2.1 b 4 = some (b + 4) ∧ L.2.2.1 b 5 = some (b + 5) ∧ L.2.2.1 b 6 = some (b + 6) ∧ L.2.2.1 b 7 = some (b + 7) ∧ L.2.2.1 b 9 = some (b + 8) ∧ L.2.2.1 b 10 = some (b + 9) ∧ L.2.2.1 b 15 = some (b + 10) ∧ L.2.2.1 b 16 = some (b + 11) ∧ L.2.2.1 b 17 = some (b + 12)) ∧
  (L.1 (b + 1) = 20 ∧ L.1 (b + 2) = 20 ∧ L.1 (b + 3) = 20 ∧ L.1 (b + 4) = 20 ∧ L.1 (b + 5) = 20 ∧ L.1 (b + 6) = 20 ∧ L.1 (b + 7) = 20 ∧ L.1 (b + 8) = 20 ∧ L.1 (b + 9) = 20 ∧ L.1 (b + 10) = 20 ∧ L.1 (b + 11) = 20 ∧ L.1 (b + 12) = 20) ∧
  (L.2.1 (b + 1) = 10 ∧ L.2.1 (b + 2) = 10 ∧ L.2.1 (b + 3) = 10 ∧ L.2.1 (b + 4) = 10 ∧ L.2.1 (b + 5) = 10 ∧ L.2.1 (b + 6) = 10 ∧ L.2.1 (b + 7) = 64 ∧ L.2.1 (b + 8) = 4 ∧ L.2.1 (b + 9) = 4 ∧ L.2.1 (b + 10) = 20 ∧ L.2.1 (b + 11) = 20 ∧ L.2.1 (b + 12) = 20) := h
theorem LT_ {L : hL} {t b : Nat} (h : LT L t b) :
  (L.1 t = 8 ∧ L.2.2.1 t 0 = some b ∧ L.2.2.1 t 1 = some (t + 1) ∧ L.2.2.1 t 2 = some (t + 2) ∧ L.2.2.1 t 3 = some (t + 3)) ∧ (L.1 (t + 1) = 20 ∧ L.1 (t + 2) = 20 ∧ L.1 (t + 3) = 20) ∧ (L.2.1 (t + 1) = 10 ∧ L.2.1 (t + 2) = 10 ∧ L.2.1 (t + 3) = 88) := h
theorem LM_ {L : hL} {m : Nat} (h : LM L m) :
  (L.1 m = 10 ∧ L.2.2.1 m 1 = some (m + 1) ∧ L.2.2.1 m 2 = some (m + 2) ∧ L.2.2.1 m 3 = some (m + 3) ∧ L.2.2.1 m 4 = some (m + 4) ∧ L.2.2.1 m 6 = some (m + 5) ∧ L.2.2.1 m 17 = some (m + 6) ∧ L.2.2.1 m 18 = some (m + 7) ∧ L.2.2.1 m 19 = some (m + 8) ∧ L.2.2.1 m 28 = some (m + 9)) ∧
  (L.1 (m + 1) = 20 ∧ L.1 (m + 2) = 20 ∧ L.1 (m + 3) = 20 ∧ L.1 (m + 4) = 20 ∧ L.1 (m + 5) = 21 ∧ L.1 (m + 6) = 20 ∧ L.1 (m + 7) = 20 ∧ L.1 (m + 8) = 20 ∧ L.1 (m + 9) = 21) ∧
  (L.2.1 (m + 1) = 189 ∧ L.2.1 (m + 2) = 189 ∧ L.2.1 (m + 3) = 189 ∧ L.2.1 (m + 4) = 3024 ∧ L.2.1 (m + 5) = 500 ∧ L.2.1 (m + 6) = 10 ∧ L.2.1 (m + 7) = 10 ∧ L.2.1 (m + 8) = 10 ∧ L.2.1 (m + 9) = 200) := h
section LOOPS
variable {C : calls} {co : kcode} {hh : hndl} {Q : oc → hp → Prop} {pc n : Nat} {h : hp}
/-- a loop that changes locals alone -/
theorem lq (l : Nat → lvs) (step : ∀ i, i < n → Wp C co hh Q (pc, l (i + 1), [], h) → Wp C co hh Q (pc, l i, [], h)) (fin : Wp C co hh Q (pc, l n, [], h)) : Wp C co hh Q (pc, l 0, [], h) :=
  loop0 (P := fun i => Wp C co hh Q (pc, l i, [], h)) step fin
/-- and keeps a fact -/
theorem lqP (P : Nat → Prop) (l : Nat → lvs) (p0 : P 0) (step : ∀ i, i < n → P i → (P (i + 1) → Wp C co hh Q (pc, l (i + 1), [], h)) → Wp C co hh Q (pc, l i, [], h)) (fin : P n → Wp C co hh Q (pc, l n, [], h)) : Wp C co hh Q (pc, l 0, [], h) :=
  loop0 (P := fun i => P i → Wp C co hh Q (pc, l i, [], h)) (fun i hi ih p => step i hi p ih) fin p0
/-- from i0 on -/
theorem lqF {i0 : Nat} (h0 : i0 ≤ n) (P : Nat → Prop) (l : Nat → lvs) (p0 : P i0) (step : ∀ i, i0 ≤ i → i < n → P i → (P (i + 1) → Wp C co hh Q (pc, l (i + 1), [], h)) → Wp C co hh Q (pc, l i, [], h)) (fin : P n → Wp C co hh Q (pc, l n, [], h)) : Wp C co hh Q (pc, l i0, [], h) :=
  loopN (P := fun i => i0 ≤ i → P i → Wp C co hh Q (pc, l i, [], h)) (fun i hi ih q p => step i q hi p (ih (by omega))) (fun _ => fin) i0 h0 (Nat.le_refl _) p0
/-- any loop -/
theorem lg (Inv : Nat → lvs → hp → Prop) (step : ∀ i, i < n → (∀ l h, Inv (i + 1) l h → Wp C co hh Q (pc, l, [], h)) → ∀ l h, Inv i l h → Wp C co hh Q (pc, l, [], h)) (fin : ∀ l h, Inv n l h → Wp C co hh Q (pc, l, [], h)) {i0 : Nat} (h0 : i0 ≤ n) : ∀ l h, Inv i0 l h → Wp C co hh Q (pc, l, [], h) :=
  loopN (P := fun i => ∀ l h, Inv i l h → Wp C co hh Q (pc, l, [], h)) step fin i0 h0
end LOOPS
/-- how many of the first n -/
def cntB (p : Nat → Bool) : Nat → Nat
  | 0 => 0
  | k + 1 => cntB p k + (if p k then 1 else 0)
theorem cntB_le {p : Nat → Bool} : ∀ {n : Nat}, cntB p n ≤ n
  | 0 => Nat.le_refl _
  | n + 1 => by unfold cntB; have := cntB_le (p := p) (n := n); split <;> omega
theorem cntB_t {p : Nat → Bool} {k : Nat} (h : p k = true) : cntB p (k + 1) = cntB p k + 1 := by simp [cntB, h]
theorem cntB_f {p : Nat → Bool} {k : Nat} (h : p k = false) : cntB p (k + 1) = cntB p k := by simp [cntB, h]
theorem cntB_congr {p q : Nat → Bool} : ∀ {n : Nat}, (∀ j, j < n → p j = q j) → cntB p n = cntB q n
  | 0, _ => rfl
  | n + 1, h => by unfold cntB; rw [cntB_congr (fun j hj => h j (by omega)), h n (by omega)]

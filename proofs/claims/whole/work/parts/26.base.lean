/-! deps: q00 q01 q02 q03 q04 q05 q06 q07 q08 q09 q10 -/
/-! What the smaller machine's heaps look like behind the constructors; boards. -/
theorem loopN {P : Nat → Prop} {n : Nat} (h : ∀ i, i < n → P (i + 1) → P i) (hn : P n) : ∀ i, i ≤ n → P i := by
  have : ∀ m i, i + m = n → P i := by
    intro m
    induction m with
    | zero => intro i hi; rw [Nat.add_zero] at hi; rw [hi]; exact hn
    | succ m ih => intro i hi; exact h i (by omega) (ih (i + 1) (by omega))
  intro i hi
  exact this (n - i) i (by omega)
theorem loop0 {P : Nat → Prop} {n : Nat} (h : ∀ i, i < n → P (i + 1) → P i) (hn : P n) : P 0 := loopN h hn 0 (Nat.zero_le _)
abbrev tl : Type := Nat × Nat × Bool
/-- an int row at a, n long -/
def LI (L : hL) (a n : Nat) : Prop := L.1 a = 20 ∧ L.2.1 a = n
/-- a board at b, its rows behind it -/
def LB (L : hL) (b : Nat) : Prop :=
  L.1 b = 2 ∧ (L.2.2.1 b 1 = some (b + 1) ∧ L.2.2.1 b 2 = some (b + 2) ∧ L.2.2.1 b 3 = some (b + 3) ∧ L.2.2.1 b 4 = some (b + 4) ∧ L.2.2.1 b 5 = some (b + 5) ∧ L.2.2.1 b 6 = some (b + 6) ∧ L.2.2.1 b 7 = some (b + 7) ∧ L.2.2.1 b 9 = some (b + 8) ∧ L.2.2.1 b 10 = some (b + 9) ∧ L.2.2.1 b 15 = some (b + 10) ∧ L.2.2.1 b 16 = some (b + 11) ∧ L.2.2.1 b 17 = some (b + 12)) ∧
  (L.1 (b + 1) = 20 ∧ L.1 (b + 2) = 20 ∧ L.1 (b + 3) = 20 ∧ L.1 (b + 4) = 20 ∧ L.1 (b + 5) = 20 ∧ L.1 (b + 6) = 20 ∧ L.1 (b + 7) = 20 ∧ L.1 (b + 8) = 20 ∧ L.1 (b + 9) = 20 ∧ L.1 (b + 10) = 20 ∧ L.1 (b + 11) = 20 ∧ L.1 (b + 12) = 20) ∧
  (L.2.1 (b + 1) = 10 ∧ L.2.1 (b + 2) = 10 ∧ L.2.1 (b + 3) = 10 ∧ L.2.1 (b + 4) = 10 ∧ L.2.1 (b + 5) = 10 ∧ L.2.1 (b + 6) = 10 ∧ L.2.1 (b + 7) = 64 ∧ L.2.1 (b + 8) = 4 ∧ L.2.1 (b + 9) = 4 ∧ L.2.1 (b + 10) = 20 ∧ L.2.1 (b + 11) = 20 ∧ L.2.1 (b + 12) = 20)
/-- a timetable at t over the board b -/
def LT (L : hL) (t b : Nat) : Prop :=
  (L.1 t = 8 ∧ L.2.2.1 t 0 = some b ∧ L.2.2.1 t 1 = some (t + 1) ∧ L.2.2.1 t 2 = some (t + 2) ∧ L.2.2.1 t 3 = some (t + 3)) ∧ (L.1 (t + 1) = 20 ∧ L.1 (t + 2) = 20 ∧ L.1 (t + 3) = 20) ∧ (L.2.1 (t + 1) = 10 ∧ L.2.1 (t + 2) = 10 ∧ L.2.1 (t + 3) = 88)
/-- what a board says: its fields, its rows -/
abbrev rw1 : Type := Nat → Int32
abbrev BS : Type := rw1 × rw1 × rw1 × rw1 × rw1 × rw1 × rw1 × rw1 × rw1 × rw1 × rw1 × rw1 × rw1
def bd (I : Nat → Nat → Int32) (b : Nat) : BS := (I b, I (b + 1), I (b + 2), I (b + 3), I (b + 4), I (b + 5), I (b + 6), I (b + 7), I (b + 8), I (b + 9), I (b + 10), I (b + 11), I (b + 12))
abbrev bF (S : BS) : rw1 := S.1
abbrev bSo (S : BS) : rw1 := S.2.1
abbrev bRe (S : BS) : rw1 := S.2.2.1
abbrev bLa (S : BS) : rw1 := S.2.2.2.1
abbrev bWe (S : BS) : rw1 := S.2.2.2.2.1
abbrev bHu (S : BS) : rw1 := S.2.2.2.2.2.1
abbrev bOr (S : BS) : rw1 := S.2.2.2.2.2.2.1
abbrev bGa (S : BS) : rw1 := S.2.2.2.2.2.2.2.1
abbrev bSF (S : BS) : rw1 := S.2.2.2.2.2.2.2.2.1
abbrev bST (S : BS) : rw1 := S.2.2.2.2.2.2.2.2.2.1
abbrev bDo (S : BS) : rw1 := S.2.2.2.2.2.2.2.2.2.2.1
abbrev bDS (S : BS) : rw1 := S.2.2.2.2.2.2.2.2.2.2.2.1
abbrev bDW (S : BS) : rw1 := S.2.2.2.2.2.2.2.2.2.2.2.2
/-- a row's first n entries are numbers below m -/
def small (f : rw1) (n m : Nat) : Prop := ∀ k, k < n → ∃ s, s < m ∧ f k = nI s
/-- counts and indices of a board -/
def BI (S : BS) (n sn dn : Nat) : Prop := (bF S 0 = nI n ∧ n ≤ 10) ∧ (bF S 8 = nI sn ∧ sn ≤ 4) ∧ (bF S 14 = nI dn ∧ dn ≤ 20) ∧ small (bSo S) n 8 ∧ small (bOr S) n n ∧ small (bDo S) dn 8
/-- nothing of the board at b is different in I2 -/
theorem bd_same {I I2 : Nat → Nat → Int32} {b : Nat} (h : ∀ a, b ≤ a → a ≤ b + 12 → I2 a = I a) : bd I2 b = bd I b := by
  unfold bd
  rw [h b (by omega) (by omega), h (b + 1) (by omega) (by omega), h (b + 2) (by omega) (by omega), h (b + 3) (by omega) (by omega), h (b + 4) (by omega) (by omega), h (b + 5) (by omega) (by omega), h (b + 6) (by omega) (by omega), h (b + 7) (by omega) (by omega), h (b + 8) (by omega) (by omega), h (b + 9) (by omega) (by omega), h (b + 10) (by omega) (by omega), h (b + 11) (by omega) (by omega), h (b + 12) (by omega) (by omega)]
theorem wr_at {α : Type} {f : Nat → Nat → α} {a i : Nat} {v : α} : wr f a i v a i = v := by simp [wr]
theorem wr_ne {α : Type} {f : Nat → Nat → α} {a i b j : Nat} {v : α} (h : ¬ (b = a ∧ j = i)) : wr f a i v b j = f b j := by simp [wr, h]
theorem wr_row {α : Type} {f : Nat → Nat → α} {a i b : Nat} {v : α} (h : b ≠ a) : wr f a i v b = f b := by
  funext j
  simp [wr, h]
theorem wrow_at {α : Type} {f : Nat → Nat → α} {a : Nat} {r : Nat → α} : wrow f a r a = r := by simp [wrow]
theorem wrow_ne {α : Type} {f : Nat → Nat → α} {a b : Nat} {r : Nat → α} (h : b ≠ a) : wrow f a r b = f b := by simp [wrow, h]
/-- the greater one, as the code has it -/
def mx (a b : Int32) : Int32 := if a < b then b else a
/-- through one span -/
def hop (S : BS) (i : Nat) (t : Int32) : Int32 := if bSF S i ≤ t ∧ t < bST S i then bST S i else t
/-- through the first i spans -/
def pass (S : BS) : Nat → Int32 → Int32
  | 0, t => t
  | i + 1, t => hop S i (pass S i t)
/-- r rounds through all n spans -/
def rounds (S : BS) (n : Nat) : Nat → Int32 → Int32
  | 0, t => t
  | r + 1, t => pass S n (rounds S n r t)
section BOARD
variable {d : Nat} {L : hL} {I : Nat → Nat → Int32} {J : Nat → Nat → Int64} {t : tl} {b n sn dn : Nat} {F : Int32 → hp → Prop} {X : Nat → hp → Prop}
theorem sp_gapOf {x y : Nat} (hB : LB L b) (hx : x < 8) (hy : y < 8) (k : F (bGa (bd I b) (x * 8 + y)) (L, I, J, t)) : cal (d + 1) 19 [.ref b, .int (nI x), .int (nI y)] (L, I, J, t) (kI F X) := by
  obtain ⟨b0, ⟨-, -, -, -, -, -, r7, -⟩, ⟨-, -, -, -, -, -, k7, -⟩, ⟨-, -, -, -, -, -, n7, -⟩⟩ := hB
  have e : nI x * 8 + nI y = nI (x * 8 + y) := by
    rw [show (8 : Int32) = nI 8 from rfl, pk_mul, nI_add]
  refine e19 (q19_0 (b_2 := b + 7) b0 r7 k7 (by show vp_in _ (L.2.1 (b + 7)); rw [e, n7]; exact vp_in_nI (by omega) (by decide)) ?_)
  show F (I (b + 7) (nI x * 8 + nI y).toNatClampNeg) (L, I, J, t)
  rw [e, nI_clamp (by omega)]
  exact k
theorem sp_openFrom {x : Int32} (hB : LB L b) (hI : BI (bd I b) n sn dn) (k : F (rounds (bd I b) sn sn x) (L, I, J, t)) : cal (d + 1) 22 [.ref b, .int x] (L, I, J, t) (kI F X) := by
  obtain ⟨b0, ⟨-, -, -, -, -, -, -, r8, r9, -⟩, ⟨-, -, -, -, -, -, -, k8, k9, -⟩, ⟨-, -, -, -, -, -, -, n8, n9, -⟩⟩ := hB
  have hsn : I b 8 = nI sn := hI.2.1.1
  have hs4 := hI.2.1.2
  refine e22 (q22_0 ?_)
  have outer : ∀ l4, Wp (cal d) kc_22 [] (kI F X) (4, [some (.ref b), some (.int x), some (.int (rounds (bd I b) sn 0 x)), some (.int (nI 0)), l4], [], (L, I, J, t)) := by
    refine loop0 (P := fun r => ∀ l4, Wp (cal d) kc_22 [] (kI F X) (4, [some (.ref b), some (.int x), some (.int (rounds (bd I b) sn r x)), some (.int (nI r)), l4], [], (L, I, J, t))) (n := sn) (fun r hr ih l4 => ?_) (fun l4 => ?_)
    · refine q22_4 b0 (fun h => absurd h ?_) (fun _ => q22_12 ?_)
      · show ¬ I b 8 ≤ nI r
        rw [hsn]
        exact nI_ge hr (by omega)
      refine loop0 (P := fun i => Wp (cal d) kc_22 [] (kI F X) (15, [some (.ref b), some (.int x), some (.int (pass (bd I b) i (rounds (bd I b) sn r x))), some (.int (nI r)), some (.int (nI i))], [], (L, I, J, t))) (n := sn) (fun i hi ih2 => ?_) ?_
      · refine q22_15 b0 (fun h => absurd h ?_) (fun _ => ?_)
        · show ¬ I b 8 ≤ nI i
          rw [hsn]
          exact nI_ge hi (by omega)
        rw [nI_succ] at ih2
        have c8 : vp_in (nI i) (L.2.1 (b + 8)) := by rw [n8]; exact vp_in_nI (by omega) (by decide)
        have c9 : vp_in (nI i) (L.2.1 (b + 9)) := by rw [n9]; exact vp_in_nI (by omega) (by decide)
        have e8 : (nI i).toNatClampNeg = i := nI_clamp (by omega)
        refine q22_24 b0 r8 k8 c8 (fun h => q22_54 ?_) (fun h => ?_)
        · dsimp only at h
          rw [e8] at h
          rw [show pass (bd I b) (i + 1) (rounds (bd I b) sn r x) = pass (bd I b) i (rounds (bd I b) sn r x) from if_neg (fun q => Int32.not_le.mpr h q.1)] at ih2
          exact ih2
        · dsimp only at h
          rw [e8] at h
          refine q22_35 b0 r9 k9 c9 (fun h2 => q22_54 ?_) (fun h2 => q22_46 b0 r9 k9 c9 (q22_54 ?_))
          · dsimp only at h2
            rw [e8] at h2
            rw [show pass (bd I b) (i + 1) (rounds (bd I b) sn r x) = pass (bd I b) i (rounds (bd I b) sn r x) from if_neg (fun q => Int32.not_lt.mpr h2 q.2)] at ih2
            exact ih2
          · dsimp only at h2
            rw [e8] at h2
            rw [show pass (bd I b) (i + 1) (rounds (bd I b) sn r x) = bST (bd I b) i from if_pos ⟨Int32.not_lt.mp h, Int32.not_le.mp h2⟩] at ih2
            rw [e8]
            exact ih2
      · refine q22_15 b0 (fun _ => q22_60 ?_) (fun h => absurd ?_ h)
        · rw [nI_succ] at ih
          exact ih _
        · show I b 8 ≤ nI sn
          rw [hsn]
          exact nI_le (Nat.le_refl _) (by omega)
    · refine q22_4 b0 (fun _ => q22_66 k) (fun h => absurd ?_ h)
      show I b 8 ≤ nI sn
      rw [hsn]
      exact nI_le (Nat.le_refl _) (by omega)
  exact outer _
end BOARD

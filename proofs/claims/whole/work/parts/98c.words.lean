/-! Words, numbers and sorts, as both readers read them. -/
def wl (k : Nat) : Nat := [3, 6, 5, 5, 6, 5, 6].getD k 0
def wb (k i : Nat) : Int32 := nI ((([[103, 97, 112], [108, 101, 97, 118, 101, 115], [108, 97, 110, 100, 115], [99, 114, 97, 102, 116], [99, 108, 111, 115, 101, 100], [115, 104, 105, 102, 116], [102, 114, 101, 101, 122, 101]] : List (List Nat)).getD k []).getD i 0)
theorem wl6 : ∀ k, k < 7 → wl k ≤ 6 := by decide
theorem wb_l : ∀ k, k < 7 → ∀ i, i < wl k → nI 97 ≤ wb k i ∧ wb k i ≤ nI 122 := by decide
/-- where the words lie -/
def WS (L : hL) (I : Nat → Nat → Int32) (x : Nat) : Prop := ∀ k, k < 7 → L.1 (L.2.2.2 k) = 40 ∧ L.2.1 (L.2.2.2 k) = wl k ∧ L.2.2.2 k < x ∧ ∀ i, i < wl k → I (L.2.2.2 k) i = wb k i
theorem WS.fr {L : hL} {I I2 : Nat → Nat → Int32} {x : Nat} (h : WS L I x) (hs : ∀ a, a < x → I2 a = I a) : WS L I2 x := fun k hk => ⟨(h k hk).1, (h k hk).2.1, (h k hk).2.2.1, fun i hi => by rw [hs _ (h k hk).2.2.1]; exact (h k hk).2.2.2 i hi⟩
def iw (B : Nat → Int32) (P : PS) (k : Nat) : Bool := decide (P.1 = 0 ∧ P.2.2.1 - P.2.1 = wl k) && allB (fun i => decide (B (P.2.1 + i) = wb k i)) (wl k)
def pk5 (a : Nat → Nat) : Nat → Nat
  | 0 => 0
  | n + 1 => pk5 a n * 32 + a n
theorem pk5_lt {a : Nat → Nat} : ∀ {n : Nat}, (∀ i, i < n → a i < 32) → pk5 a n < 32 ^ n
  | 0, _ => Nat.one_pos
  | n + 1, h => by
    have h1 := pk5_lt (n := n) fun i hi => h i (by omega)
    have h2 := h n (by omega)
    unfold pk5
    rw [Nat.pow_succ]
    omega
theorem pk5_inj {a b : Nat → Nat} : ∀ {n : Nat}, (∀ i, i < n → a i < 32 ∧ b i < 32) → pk5 a n = pk5 b n → ∀ i, i < n → a i = b i
  | 0, _, _, i, hi => by omega
  | n + 1, h, e, i, hi => by
    have e : pk5 a n * 32 + a n = pk5 b n * 32 + b n := e
    have hn := h n (by omega)
    by_cases q : i = n
    · rw [q]; omega
    · exact pk5_inj (n := n) (fun i hi => h i (by omega)) (by omega) i (by omega)
theorem wd_step {p c : Nat} (hp : p < 2 ^ 40) (h1 : 97 ≤ c) (h2 : c ≤ 122) : Int64.ofNat p * 32 + (nI c).toInt64 - 97 + 1 = Int64.ofNat (p * 32 + (c - 96)) := by
  refine Int64.toInt_inj.mp ?_
  have e32 : (32 : Int64).toInt = 32 := by decide
  have e97 : (97 : Int64).toInt = 97 := by decide
  have e1 : (1 : Int64).toInt = 1 := by decide
  rw [Int64.toInt_add, Int64.toInt_sub, Int64.toInt_add, Int64.toInt_mul, Int32.toInt_toInt64, nIi (by omega), Int64.toInt_ofNat_of_lt (by omega), Int64.toInt_ofNat_of_lt (by omega), e32, e97, e1]
  rw [Int.bmod_eq_of_le (n := (p : Int) * 32) (by omega) (by omega)]
  rw [Int.bmod_eq_of_le (n := (p : Int) * 32 + c) (by omega) (by omega)]
  rw [Int.bmod_eq_of_le (n := (p : Int) * 32 + c - 97) (by omega) (by omega)]
  rw [Int.bmod_eq_of_le (by omega) (by omega)]
  omega
/-- letters as numbers -/
def ltr (b : Int32) : Nat := b.toNatClampNeg - 96
theorem ltr_of {b : Int32} (h : nI 97 ≤ b ∧ b ≤ nI 122) : ∃ c, 97 ≤ c ∧ c ≤ 122 ∧ b = nI c ∧ ltr b = c - 96 := by
  obtain ⟨c, hc, e⟩ := i_le (by decide) (Int32.le_trans (show nI 0 ≤ nI 97 by decide) h.1) h.2
  refine ⟨c, ?_, hc, e, by unfold ltr; rw [e, nI_clamp (by omega)]⟩
  have := h.1
  rw [e] at this
  exact (nI_leI (by decide) (by omega)).mp this
theorem ltr_lt {b : Int32} (h : nI 97 ≤ b ∧ b ≤ nI 122) : ltr b < 32 := by
  obtain ⟨c, h1, h2, e, e2⟩ := ltr_of h
  omega
theorem tk_0 {b : Int32} (h : tk b = 0) : nI 97 ≤ b ∧ b ≤ nI 122 := by
  unfold tk at h
  split at h
  · cases h
  · split at h
    · assumption
    · split at h
      · cases h
      · split at h <;> cases h
def wsp (k : Nat) : Nat → Int64
  | 0 => 0
  | i + 1 => wsp k i * 32 + (wb k i).toInt64 - 97 + 1
theorem wd_pk {B : Nat → Int32} {s : Nat} : ∀ {n : Nat}, n ≤ 6 → (∀ i, i < n → nI 97 ≤ B (s + i) ∧ B (s + i) ≤ nI 122) → wd B s n = Int64.ofNat (pk5 (fun i => ltr (B (s + i))) n)
  | 0, _, _ => rfl
  | n + 1, h, hb => by
    have ih := wd_pk (B := B) (s := s) (n := n) (by omega) fun i hi => hb i (by omega)
    obtain ⟨c, h1, h2, e, e2⟩ := ltr_of (hb n (by omega))
    have hl := pk5_lt (a := fun i => ltr (B (s + i))) (n := n) fun i hi => ltr_lt (hb i (by omega))
    have : 32 ^ n ≤ 32 ^ 6 := Nat.pow_le_pow_right (by decide) (by omega)
    show (if n < 8 then wd B s n * 32 + (B (s + n)).toInt64 - 97 + 1 else wd B s n) = _
    rw [if_pos (by omega), ih, e, wd_step (by omega) h1 h2]
    congr 1
    show _ = pk5 _ n * 32 + ltr (B (s + n))
    rw [e2]
theorem wsp_pk {k : Nat} (hk : k < 7) : ∀ {n : Nat}, n ≤ wl k → wsp k n = Int64.ofNat (pk5 (fun i => ltr (wb k i)) n)
  | 0, _ => rfl
  | n + 1, h => by
    have h6 := wl6 k hk
    have ih := wsp_pk hk (n := n) (by omega)
    obtain ⟨c, h1, h2, e, e2⟩ := ltr_of (wb_l k hk n (by omega))
    have hl := pk5_lt (a := fun i => ltr (wb k i)) (n := n) fun i hi => ltr_lt (wb_l k hk i (by omega))
    have : 32 ^ n ≤ 32 ^ 6 := Nat.pow_le_pow_right (by decide) (by omega)
    show wsp k n * 32 + (wb k n).toInt64 - 97 + 1 = _
    rw [ih, e, wd_step (by omega) h1 h2]
    congr 1
    show _ = pk5 _ n * 32 + ltr (wb k n)
    rw [e2]
theorem pk_cong {a b : Nat → Int32} {n : Nat} (h : ∀ i, i < n → a i = b i) : pk5 (fun i => ltr (a i)) n = pk5 (fun i => ltr (b i)) n := by
  induction n with
  | zero =>
    show (0 : Nat) = 0
    exact Eq.refl _
  | succ n ih =>
    have e1 := ih fun i hi => h i (by omega)
    have e2 := h n (by omega)
    show pk5 (fun i => ltr (a i)) n * 32 + ltr (a n) = pk5 (fun i => ltr (b i)) n * 32 + ltr (b n)
    rw [e1, e2]
theorem J_inj {p q : Nat} (hp : p < 2 ^ 62) (hq : q < 2 ^ 62) (h : Int64.ofNat p = Int64.ofNat q) : p = q := by
  have e1 := Int64.toInt_ofNat_of_lt (n := p) (by omega)
  have e2 := Int64.toInt_ofNat_of_lt (n := q) (by omega)
  rw [h, e2] at e1
  omega
theorem lg0 {y z : Int64} : (lg_cmp y z = nI 0) ↔ y = z := lg_cmp_eq y z
theorem ltr_inj {b b' : Int32} (h : nI 97 ≤ b ∧ b ≤ nI 122) (h' : nI 97 ≤ b' ∧ b' ≤ nI 122) (e : ltr b = ltr b') : b = b' := by
  obtain ⟨c, a1, a2, a3, a4⟩ := ltr_of h
  obtain ⟨c', b1, b2, b3, b4⟩ := ltr_of h'
  have : c = c' := by omega
  rw [a3, b3, this]
theorem pk_key {a b : Nat → Int32} {n : Nat} (hn : n ≤ 6) (ha : ∀ i, i < n → nI 97 ≤ a i ∧ a i ≤ nI 122) (hb : ∀ i, i < n → nI 97 ≤ b i ∧ b i ≤ nI 122) : (lg_cmp (Int64.ofNat (pk5 (fun i => ltr (a i)) n)) (Int64.ofNat (pk5 (fun i => ltr (b i)) n)) = nI 0) ↔ allB (fun i => decide (a i = b i)) n = true := by
  have l1 := pk5_lt (a := fun i => ltr (a i)) (n := n) fun i hi => ltr_lt (ha i hi)
  have l2 := pk5_lt (a := fun i => ltr (b i)) (n := n) fun i hi => ltr_lt (hb i hi)
  have l6 : 32 ^ n ≤ 2 ^ 62 := Nat.le_trans (Nat.pow_le_pow_right (by decide) hn) (by decide)
  rw [lg0, allB_iff]
  refine ⟨fun e i hi => decide_eq_true ?_, fun e => ?_⟩
  · have e2 := J_inj (Nat.lt_of_lt_of_le l1 l6) (Nat.lt_of_lt_of_le l2 l6) e
    exact ltr_inj (ha i hi) (hb i hi) (pk5_inj (fun i hi => ⟨ltr_lt (ha i hi), ltr_lt (hb i hi)⟩) e2 i hi)
  · rw [pk_cong (a := a) (b := b) fun i hi => of_decide_eq_true (e i hi)]
theorem mtk_eq {k c : Nat} (hk : k ≤ 5) (hk4 : k ≠ 4) (hc : c ≤ 5) (hc4 : c ≠ 4) : (mtk k = mtk c) = (k = c) := by
  have : ∀ k, k < 6 → k ≠ 4 → ∀ c, c < 6 → c ≠ 4 → (mtk k = mtk c ↔ k = c) := by decide
  exact propext (this k (by omega) hk4 c (by omega) hc4)
theorem mtk0 : mtk 0 = 1001 := if_pos rfl
theorem mtk1 : mtk 1 = 1000 := by unfold mtk; rw [if_neg (by decide), if_pos rfl]
theorem mtk2 : mtk 2 = 59 := by unfold mtk; rw [if_neg (by decide), if_neg (by decide), if_pos rfl]
theorem mtk3 : mtk 3 = 1003 := by unfold mtk; rw [if_neg (by decide), if_neg (by decide), if_neg (by decide), if_pos rfl]
theorem bI01 (b : Bool) : bI b = nI 0 ∨ bI b = nI 1 := by
  cases b with
  | false => exact Or.inl rfl
  | true => exact Or.inr rfl
/-- kinds of tokens are never blanks -/
def PB (P : PS) : Prop := P.1 ≠ 4
theorem PB_lex {B : Nat → Int32} {N p : Nat} (h : p ≤ N) : PB (lex B N p) := by
  obtain ⟨a1, a2, a3, a4⟩ := rN_prop (B := B) (c := 4) h
  unfold lex PB
  split
  · rename_i q
    exact fun w => a4 ⟨q, w⟩
  · exact fun w => absurd (show (3 : Nat) = 4 from w) (by decide)
def OKP (B : Nat → Int32) (N : Nat) (P : PS) : Prop := PW B N P ∧ PB P
theorem okp_pst {B : Nat → Int32} {N : Nat} {P : PS} (h : OKP B N P) : OKP B N (pst B N P) := by
  refine ⟨PW_pst h.1, ?_⟩
  unfold pst
  split
  · exact PB_lex h.1.2.1
  · exact h.2
theorem okp_rfs {B : Nat → Int32} {N k : Nat} {P : PS} (h : OKP B N P) (hk : k ≤ 3) : OKP B N (rfs P k) := by
  refine ⟨PW_rfs h.1 hk, ?_⟩
  unfold rfs
  split
  · exact h.2
  · exact h.2
theorem OKP.pst {B : Nat → Int32} {N : Nat} {P : PS} (h : OKP B N P) : OKP B N (pst B N P) := okp_pst h
theorem OKP.rfs {B : Nat → Int32} {N k : Nat} {P : PS} (h : OKP B N P) (hk : k ≤ 3) : OKP B N (rfs P k) := okp_rfs h hk
def nmE (P : PS) (lo hi : Nat) : PS := if P.1 = 1 then (if P.2.2.2.1 < lo ∨ hi < P.2.2.2.1 then rfs P 2 else P) else rfs P 1
def nmP (B : Nat → Int32) (N : Nat) (P : PS) (lo hi : Nat) : PS := pst B N (nmE P lo hi)
section WORDS
variable {I : Nat → Nat → Int32} {J : Nat → Nat → Int64} {L : hL} {x N : Nat} {B : Nat → Int32} {P : PS} {t : tl} {F : Int32 → hp → Prop} {G : hp → Prop} {X : Nat → hp → Prop} {d : Nat}
--facts LK_ hK, LM_ hK.m
theorem sp_isWord {w : Nat} (hK : LK L x) (hW : WS L I x) (hB : ∀ j, j < N → I (x + 56) j = B j) (hN : N ≤ 500) (hC : CR I x N P) (hP : OKP B N P) (hw : w < 7) (k : F (bI (iw B P w)) (L, I, J, t)) : cal (d + 1) 68 [.ref (x + 57), .ref (L.2.2.2 w)] (L, I, J, t) (kI F X) := by
  obtain ⟨w1, w2, w3, w4⟩ := hW w hw
  have h6 := wl6 w hw
  obtain ⟨p1, p2, p3, -⟩ := hP.1
  refine e68 (t68_0 ?_)
  unfold iw at k
  by_cases q0 : P.1 = 0
  · by_cases q1 : P.2.2.1 - P.2.1 = wl w
    · rw [decide_eq_true ⟨q0, q1⟩, Bool.true_and] at k
      simp (disch := omega) only [vpT, nI_leI, nI_ltI, nI_eq, nleT, nleF, nltT, nltF, neqT, neqF, nI_add, pk_mul, subN, divN, nI_clamp, mI1, wrH, wrM1, wrM2, wrowH, wrowM, bI0, bI1, kIi, kVi, kRi, kLi, kIx, kVx, Option.some.injEq, exists_eq_left', true_and, and_true, true_implies, false_implies, implies_true, not_true_eq_false, not_false_eq_true, true_or, or_true, false_or, or_false, forall_eq, iteT, iteF, LK_ hK, LM_ hK.m, hC.2.2.1, q0, hC.2.1, hC.2.2.2.1, w1, w2, q1]
      refine lqP (n := wl w) (fun i => allB (fun j => decide (B (P.2.1 + j) = wb w j)) i = true) (fun i => [some (.ref (x + 57)), some (.ref (L.2.2.2 w)), some (.int (nI i))]) rfl (fun i hi ha ih => t68_27 ?_) (fun ha => t68_27 ?_)
      · have eB : I (x + 56) (P.2.1 + i) = B (P.2.1 + i) := hB _ (by omega)
        simp (disch := omega) only [vpT, nI_leI, nI_ltI, nI_eq, nleT, nleF, nltT, nltF, neqT, neqF, nI_add, pk_mul, subN, divN, nI_clamp, mI1, wrH, wrM1, wrM2, wrowH, wrowM, bI0, bI1, kIi, kVi, kRi, kLi, kIx, kVx, Option.some.injEq, exists_eq_left', true_and, and_true, true_implies, false_implies, implies_true, not_true_eq_false, not_false_eq_true, true_or, or_true, false_or, or_false, forall_eq, iteT, iteF, LK_ hK, LM_ hK.m, w1, w2, hC.2.2.2.1, eB, w4 i hi]
        refine ⟨fun e => ih ?_, fun e => ?_⟩
        · show (allB _ i && decide (B (P.2.1 + i) = wb w i)) = true
          rw [ha, decide_eq_true e]
          rfl
        · have : allB (fun j => decide (B (P.2.1 + j) = wb w j)) (wl w) = false := by
            cases q : allB (fun j => decide (B (P.2.1 + j) = wb w j)) (wl w) with
            | false => rfl
            | true => exact absurd (of_decide_eq_true (allB_iff.mp q i hi)) e
          rw [this] at k
          exact k
      · rw [ha] at k
        simp (disch := omega) only [vpT, nI_leI, nI_ltI, nI_eq, nleT, nleF, nltT, nltF, neqT, neqF, nI_add, pk_mul, subN, divN, nI_clamp, mI1, wrH, wrM1, wrM2, wrowH, wrowM, bI0, bI1, kIi, kVi, kRi, kLi, kIx, kVx, Option.some.injEq, exists_eq_left', true_and, and_true, true_implies, false_implies, implies_true, not_true_eq_false, not_false_eq_true, true_or, or_true, false_or, or_false, forall_eq, iteT, iteF, LK_ hK, LM_ hK.m, w1, w2]
        exact k
    · rw [decide_eq_false (fun e => q1 e.2), Bool.false_and] at k
      simp (disch := omega) only [vpT, nI_leI, nI_ltI, nI_eq, nleT, nleF, nltT, nltF, neqT, neqF, nI_add, pk_mul, subN, divN, nI_clamp, mI1, wrH, wrM1, wrM2, wrowH, wrowM, bI0, bI1, kIi, kVi, kRi, kLi, kIx, kVx, Option.some.injEq, exists_eq_left', true_and, and_true, true_implies, false_implies, implies_true, not_true_eq_false, not_false_eq_true, true_or, or_true, false_or, or_false, forall_eq, iteT, iteF, LK_ hK, LM_ hK.m, hC.2.2.1, q0, hC.2.1, hC.2.2.2.1, w1, w2]
      exact k
  · rw [decide_eq_false (fun e => q0 e.1), Bool.false_and] at k
    simp (disch := omega) only [vpT, nI_leI, nI_ltI, nI_eq, nleT, nleF, nltT, nltF, neqT, neqF, nI_add, pk_mul, subN, divN, nI_clamp, mI1, wrH, wrM1, wrM2, wrowH, wrowM, bI0, bI1, kIi, kVi, kRi, kLi, kIx, kVx, Option.some.injEq, exists_eq_left', true_and, and_true, true_implies, false_implies, implies_true, not_true_eq_false, not_false_eq_true, true_or, or_true, false_or, or_false, forall_eq, iteT, iteF, LK_ hK, LM_ hK.m, hC.2.2.1]
    exact k
theorem mp_spelled {F : Int64 → hp → Prop} {w : Nat} (hW : WS L I x) (hw : w < 7) (k : F (wsp w (wl w)) (L, I, J, t)) : cal (d + 1) 188 [.ref (L.2.2.2 w)] (L, I, J, t) (kL F X) := by
  obtain ⟨w1, w2, w3, w4⟩ := hW w hw
  have h6 := wl6 w hw
  refine e188 (t188_0 ?_)
  refine lq (n := wl w) (fun i => [some (.ref (L.2.2.2 w)), some (.long (wsp w i)), none, some (.int (nI i))]) (fun i hi ih => t188_4 ?_) (t188_4 ?_)
  · simp (disch := omega) only [vpT, nI_leI, nI_ltI, nI_eq, nleT, nleF, nltT, nltF, neqT, neqF, nI_add, pk_mul, subN, divN, nI_clamp, mI1, wrH, wrM1, wrM2, wrowH, wrowM, bI0, bI1, kIi, kVi, kRi, kLi, kIx, kVx, Option.some.injEq, exists_eq_left', true_and, and_true, true_implies, false_implies, implies_true, not_true_eq_false, not_false_eq_true, true_or, or_true, false_or, or_false, forall_eq, iteT, iteF, w1, w2, w4 i hi]
    exact ih
  · simp (disch := omega) only [vpT, nI_leI, nI_ltI, nI_eq, nleT, nleF, nltT, nltF, neqT, neqF, nI_add, pk_mul, subN, divN, nI_clamp, mI1, wrH, wrM1, wrM2, wrowH, wrowM, bI0, bI1, kIi, kVi, kRi, kLi, kIx, kVx, Option.some.injEq, exists_eq_left', true_and, and_true, true_implies, false_implies, implies_true, not_true_eq_false, not_false_eq_true, true_or, or_true, false_or, or_false, forall_eq, iteT, iteF, w1, w2]
    exact k
theorem mp_isWord {w : Nat} (hK : LK L x) (hW : WS L I x) (hM : MR I J B (x + 271) N P) (hP : OKP B N P) (hN : N ≤ 500) (hw : w < 7) (k : F (bI (iw B P w)) (L, I, J, t)) : cal (d + 2) 187 [.ref (x + 271), .ref (L.2.2.2 w)] (L, I, J, t) (kI F X) := by
  obtain ⟨w1, w2, w3, w4⟩ := hW w hw
  have h6 := wl6 w hw
  obtain ⟨p1, p2, p3, p4, p5, -⟩ := hP.1
  obtain ⟨c8, c9, c10, c11, c12, c13, c15, c16⟩ := hM
  have hm := mtk_lt (k := P.1)
  refine e187 (t187_0 ?_)
  unfold iw at k
  by_cases q0 : P.1 = 0
  · have e11 : I (x + 271) 11 = nI 1001 := by rw [c11, q0, mtk0]
    obtain ⟨e13, e14⟩ := c13 q0
    by_cases q1 : P.2.2.1 - P.2.1 = wl w
    · rw [decide_eq_true ⟨q0, q1⟩, Bool.true_and] at k
      rw [q1] at e13 e14
      simp (disch := omega) only [vpT, nI_leI, nI_ltI, nI_eq, nleT, nleF, nltT, nltF, neqT, neqF, nI_add, pk_mul, subN, divN, nI_clamp, mI1, wrH, wrM1, wrM2, wrowH, wrowM, bI0, bI1, kIi, kVi, kRi, kLi, kIx, kVx, Option.some.injEq, exists_eq_left', true_and, and_true, true_implies, false_implies, implies_true, not_true_eq_false, not_false_eq_true, true_or, or_true, false_or, or_false, forall_eq, iteT, iteF, LK_ hK, LM_ hK.m, e11, e13, w1, w2]
      refine mp_spelled hW hw (t187_29 ?_)
      have hb : ∀ i, i < wl w → nI 97 ≤ B (P.2.1 + i) ∧ B (P.2.1 + i) ≤ nI 122 := fun i hi => tk_0 (p5 q0 _ (by omega) (by omega))
      rw [e14, wd_pk h6 hb, wsp_pk hw (Nat.le_refl _)]
      have l1 := pk5_lt (a := fun i => ltr (B (P.2.1 + i))) (n := wl w) fun i hi => ltr_lt (hb i hi)
      have l2 := pk5_lt (a := fun i => ltr (wb w i)) (n := wl w) fun i hi => ltr_lt (wb_l w hw i hi)
      have l6 : 32 ^ wl w ≤ 32 ^ 6 := Nat.pow_le_pow_right (by decide) h6
      have key : (lg_cmp (Int64.ofNat (pk5 (fun i => ltr (B (P.2.1 + i))) (wl w))) (Int64.ofNat (pk5 (fun i => ltr (wb w i)) (wl w))) = nI 0) ↔ allB (fun i => decide (B (P.2.1 + i) = wb w i)) (wl w) = true := pk_key (a := fun i => B (P.2.1 + i)) (b := fun i => wb w i) h6 hb (wb_l w hw)
      refine ⟨fun q => ?_, fun q => ?_⟩
      · have : allB (fun i => decide (B (P.2.1 + i) = wb w i)) (wl w) = false := by
          cases a : allB (fun i => decide (B (P.2.1 + i) = wb w i)) (wl w) with
          | false => rfl
          | true => exact absurd (key.mpr a) q
        rw [this] at k
        exact k
      · rw [key.mp q] at k
        exact k
    · rw [decide_eq_false (fun e => q1 e.2), Bool.false_and] at k
      simp (disch := omega) only [vpT, nI_leI, nI_ltI, nI_eq, nleT, nleF, nltT, nltF, neqT, neqF, nI_add, pk_mul, subN, divN, nI_clamp, mI1, wrH, wrM1, wrM2, wrowH, wrowM, bI0, bI1, kIi, kVi, kRi, kLi, kIx, kVx, Option.some.injEq, exists_eq_left', true_and, and_true, true_implies, false_implies, implies_true, not_true_eq_false, not_false_eq_true, true_or, or_true, false_or, or_false, forall_eq, iteT, iteF, LK_ hK, LM_ hK.m, e11, e13, w1, w2]
      exact k
  · have n11 : mtk P.1 ≠ 1001 := fun e => q0 ((mtk_eq (c := 0) p3 hP.2 (by decide) (by decide)).mp (e.trans mtk0.symm))
    rw [decide_eq_false (fun e => q0 e.1), Bool.false_and] at k
    simp (disch := omega) only [vpT, nI_leI, nI_ltI, nI_eq, nleT, nleF, nltT, nltF, neqT, neqF, nI_add, pk_mul, subN, divN, nI_clamp, mI1, wrH, wrM1, wrM2, wrowH, wrowM, bI0, bI1, kIi, kVi, kRi, kLi, kIx, kVx, Option.some.injEq, exists_eq_left', true_and, and_true, true_implies, false_implies, implies_true, not_true_eq_false, not_false_eq_true, true_or, or_true, false_or, or_false, forall_eq, iteT, iteF, LK_ hK, LM_ hK.m, c11]
    exact k
theorem sp_refuse {c : Nat} (hK : LK L x) (hC : CR I x N P) (hP : OKP B N P) (k : ∀ I2, same I I2 (fun a => a = x + 57) → CR I2 x N (rfs P c) → G (L, I2, J, t)) : cal (d + 1) 72 [.ref (x + 57), .int (nI c)] (L, I, J, t) (kV G X) := by
  obtain ⟨c2, c3, c4, c5, c6, c7, c8⟩ := hC
  have p4 := hP.1.2.2.2.1
  refine e72 (t72_0 ?_)
  by_cases f0 : P.2.2.2.2.1 = 0
  · rw [show rfs P c = (P.1, P.2.1, P.2.2.1, P.2.2.2.1, c, P.2.1) from if_pos f0] at k
    rw [f0] at c7
    simp (disch := omega) only [vpT, nI_leI, nI_ltI, nI_eq, nleT, nleF, nltT, nltF, neqT, neqF, nI_add, pk_mul, subN, divN, nI_clamp, mI1, wrH, wrM1, wrM2, wrowH, wrowM, bI0, bI1, kIi, kVi, kRi, kLi, kIx, kVx, Option.some.injEq, exists_eq_left', true_and, and_true, true_implies, false_implies, implies_true, not_true_eq_false, not_false_eq_true, true_or, or_true, false_or, or_false, forall_eq, iteT, iteF, LK_ hK, LM_ hK.m, c7, c5]
    refine k _ (fun a ha => by rw [wrM1 ha, wrM1 ha]) ⟨by simp (disch := omega) only [vpT, nI_leI, nI_ltI, nI_eq, nleT, nleF, nltT, nltF, neqT, neqF, nI_add, pk_mul, subN, divN, nI_clamp, mI1, wrH, wrM1, wrM2, wrowH, wrowM, bI0, bI1, kIi, kVi, kRi, kLi, kIx, kVx, Option.some.injEq, exists_eq_left', true_and, and_true, true_implies, false_implies, implies_true, not_true_eq_false, not_false_eq_true, true_or, or_true, false_or, or_false, forall_eq, iteT, iteF, LK_ hK, LM_ hK.m]; exact c2, by simp (disch := omega) only [vpT, nI_leI, nI_ltI, nI_eq, nleT, nleF, nltT, nltF, neqT, neqF, nI_add, pk_mul, subN, divN, nI_clamp, mI1, wrH, wrM1, wrM2, wrowH, wrowM, bI0, bI1, kIi, kVi, kRi, kLi, kIx, kVx, Option.some.injEq, exists_eq_left', true_and, and_true, true_implies, false_implies, implies_true, not_true_eq_false, not_false_eq_true, true_or, or_true, false_or, or_false, forall_eq, iteT, iteF, LK_ hK, LM_ hK.m]; exact c3, by simp (disch := omega) only [vpT, nI_leI, nI_ltI, nI_eq, nleT, nleF, nltT, nltF, neqT, neqF, nI_add, pk_mul, subN, divN, nI_clamp, mI1, wrH, wrM1, wrM2, wrowH, wrowM, bI0, bI1, kIi, kVi, kRi, kLi, kIx, kVx, Option.some.injEq, exists_eq_left', true_and, and_true, true_implies, false_implies, implies_true, not_true_eq_false, not_false_eq_true, true_or, or_true, false_or, or_false, forall_eq, iteT, iteF, LK_ hK, LM_ hK.m]; exact c4, by simp (disch := omega) only [vpT, nI_leI, nI_ltI, nI_eq, nleT, nleF, nltT, nltF, neqT, neqF, nI_add, pk_mul, subN, divN, nI_clamp, mI1, wrH, wrM1, wrM2, wrowH, wrowM, bI0, bI1, kIi, kVi, kRi, kLi, kIx, kVx, Option.some.injEq, exists_eq_left', true_and, and_true, true_implies, false_implies, implies_true, not_true_eq_false, not_false_eq_true, true_or, or_true, false_or, or_false, forall_eq, iteT, iteF, LK_ hK, LM_ hK.m]; exact c5, fun q => by simp (disch := omega) only [vpT, nI_leI, nI_ltI, nI_eq, nleT, nleF, nltT, nltF, neqT, neqF, nI_add, pk_mul, subN, divN, nI_clamp, mI1, wrH, wrM1, wrM2, wrowH, wrowM, bI0, bI1, kIi, kVi, kRi, kLi, kIx, kVx, Option.some.injEq, exists_eq_left', true_and, and_true, true_implies, false_implies, implies_true, not_true_eq_false, not_false_eq_true, true_or, or_true, false_or, or_false, forall_eq, iteT, iteF, LK_ hK, LM_ hK.m]; exact c6 q, by simp (disch := omega) only [vpT, nI_leI, nI_ltI, nI_eq, nleT, nleF, nltT, nltF, neqT, neqF, nI_add, pk_mul, subN, divN, nI_clamp, mI1, wrH, wrM1, wrM2, wrowH, wrowM, bI0, bI1, kIi, kVi, kRi, kLi, kIx, kVx, Option.some.injEq, exists_eq_left', true_and, and_true, true_implies, false_implies, implies_true, not_true_eq_false, not_false_eq_true, true_or, or_true, false_or, or_false, forall_eq, iteT, iteF, LK_ hK, LM_ hK.m], fun _ => by simp (disch := omega) only [vpT, nI_leI, nI_ltI, nI_eq, nleT, nleF, nltT, nltF, neqT, neqF, nI_add, pk_mul, subN, divN, nI_clamp, mI1, wrH, wrM1, wrM2, wrowH, wrowM, bI0, bI1, kIi, kVi, kRi, kLi, kIx, kVx, Option.some.injEq, exists_eq_left', true_and, and_true, true_implies, false_implies, implies_true, not_true_eq_false, not_false_eq_true, true_or, or_true, false_or, or_false, forall_eq, iteT, iteF, LK_ hK, LM_ hK.m]⟩
  · rw [show rfs P c = P from if_neg f0] at k
    simp (disch := omega) only [vpT, nI_leI, nI_ltI, nI_eq, nleT, nleF, nltT, nltF, neqT, neqF, nI_add, pk_mul, subN, divN, nI_clamp, mI1, wrH, wrM1, wrM2, wrowH, wrowM, bI0, bI1, kIi, kVi, kRi, kLi, kIx, kVx, Option.some.injEq, exists_eq_left', true_and, and_true, true_implies, false_implies, implies_true, not_true_eq_false, not_false_eq_true, true_or, or_true, false_or, or_false, forall_eq, iteT, iteF, LK_ hK, LM_ hK.m, c7]
    exact k I same.rf ⟨c2, c3, c4, c5, c6, c7, c8⟩
theorem mp_fine (hK : LK L x) (hM : MR I J B (x + 271) N P) (hP : OKP B N P) (k : F (bI (decide (P.2.2.2.2.1 = 0))) (L, I, J, t)) : cal (d + 1) 185 [.ref (x + 271)] (L, I, J, t) (kI F X) := by
  have p4 := hP.1.2.2.2.1
  have c15 := hM.2.2.2.2.2.2.1
  refine e185 (t185_0 ?_)
  by_cases f0 : P.2.2.2.2.1 = 0
  · rw [decide_eq_true f0] at k
    rw [f0] at c15
    simp (disch := omega) only [vpT, nI_leI, nI_ltI, nI_eq, nleT, nleF, nltT, nltF, neqT, neqF, nI_add, pk_mul, subN, divN, nI_clamp, mI1, wrH, wrM1, wrM2, wrowH, wrowM, bI0, bI1, kIi, kVi, kRi, kLi, kIx, kVx, Option.some.injEq, exists_eq_left', true_and, and_true, true_implies, false_implies, implies_true, not_true_eq_false, not_false_eq_true, true_or, or_true, false_or, or_false, forall_eq, iteT, iteF, LK_ hK, LM_ hK.m, c15]
    exact k
  · rw [decide_eq_false f0] at k
    simp (disch := omega) only [vpT, nI_leI, nI_ltI, nI_eq, nleT, nleF, nltT, nltF, neqT, neqF, nI_add, pk_mul, subN, divN, nI_clamp, mI1, wrH, wrM1, wrM2, wrowH, wrowM, bI0, bI1, kIi, kVi, kRi, kLi, kIx, kVx, Option.some.injEq, exists_eq_left', true_and, and_true, true_implies, false_implies, implies_true, not_true_eq_false, not_false_eq_true, true_or, or_true, false_or, or_false, forall_eq, iteT, iteF, LK_ hK, LM_ hK.m, c15]
    exact k
theorem MR.rf1 {c : Nat} (hM : MR I J B (x + 271) N P) (f0 : P.2.2.2.2.1 = 0) (hc : c ≠ 0) : MR (wr (wr I (x + 271) 15 (nI c)) (x + 271) 16 (nI P.2.1)) J B (x + 271) N (rfs P c) := by
  obtain ⟨c8, c9, c10, c11, c12, c13, c15, c16⟩ := hM
  rw [show rfs P c = (P.1, P.2.1, P.2.2.1, P.2.2.2.1, c, P.2.1) from if_pos f0]
  refine ⟨?_, ?_, ?_, ?_, fun q => ?_, fun q => ⟨?_, (c13 q).2⟩, ?_, ?_⟩
  · rw [wrM2 (by omega), wrM2 (by omega)]; exact c8
  · rw [wrM2 (by omega), wrM2 (by omega)]; exact c9
  · rw [wrM2 (by omega), wrM2 (by omega)]; exact c10
  · rw [wrM2 (by omega), wrM2 (by omega)]; exact c11
  · rw [wrM2 (by omega), wrM2 (by omega)]; exact c12 q
  · rw [wrM2 (by omega), wrM2 (by omega)]; exact (c13 q).1
  · rw [wrM2 (by omega)]; exact wrH rfl rfl
  · show _ = if c = 0 then _ else _
    rw [if_neg hc]
    exact wrH rfl rfl
theorem mp_check {b : Bool} {c : Nat} (hK : LK L x) (hM : MR I J B (x + 271) N P) (hP : OKP B N P) (hc : c ≠ 0) (hc3 : c ≤ 3) (k : ∀ I2, same I I2 (fun a => a = x + 271) → (∀ j, j ≠ 15 → j ≠ 16 → I2 (x + 271) j = I (x + 271) j) → MR I2 J B (x + 271) N (if b then P else rfs P c) → F (bI (decide ((if b then P else rfs P c).2.2.2.2.1 = 0))) (L, I2, J, t)) : cal (d + 2) 190 [.ref (x + 271), .int (bI b), .int (nI c)] (L, I, J, t) (kI F X) := by
  have last : ∀ I2 y1 y2 Q, MR I2 J B (x + 271) N Q → OKP B N Q → F (bI (decide (Q.2.2.2.2.1 = 0))) (L, I2, J, t) → cal (d + 1) 185 [.ref (x + 271)] (L, I2, J, t) (kI (fun r h2 => Wp (cal (d + 1)) kc_190 [] (kI F X) (28, [some (.ref (x + 271)), some (.int y1), some (.int y2)], [.int r], h2)) (fun e h2 => kI F X (.inr e) h2)) := fun I2 y1 y2 Q hQ hO kk => mp_fine hK hQ hO (t190_28 ⟨bI01 _, kk⟩)
  refine e190 (t190_0 ?_)
  simp (disch := omega) only [vpT, nI_leI, nI_ltI, nI_eq, nleT, nleF, nltT, nltF, neqT, neqF, nI_add, pk_mul, subN, divN, nI_clamp, mI1, wrH, wrM1, wrM2, wrowH, wrowM, bI0, bI1, kIi, kVi, kRi, kLi, kIx, kVx, Option.some.injEq, exists_eq_left', true_and, and_true, true_implies, false_implies, implies_true, not_true_eq_false, not_false_eq_true, true_or, or_true, false_or, or_false, forall_eq, iteT, iteF, LK_ hK, LM_ hK.m]
  refine mp_fine hK hM hP (t190_4 ?_)
  by_cases f0 : P.2.2.2.2.1 = 0
  · rw [decide_eq_true f0, bI_t]
    cases b with
    | true =>
      rw [if_pos rfl] at k
      simp (disch := omega) only [vpT, nI_leI, nI_ltI, nI_eq, nleT, nleF, nltT, nltF, neqT, neqF, nI_add, pk_mul, subN, divN, nI_clamp, mI1, wrH, wrM1, wrM2, wrowH, wrowM, bI0, bI1, kIi, kVi, kRi, kLi, kIx, kVx, Option.some.injEq, exists_eq_left', true_and, and_true, true_implies, false_implies, implies_true, not_true_eq_false, not_false_eq_true, true_or, or_true, false_or, or_false, forall_eq, iteT, iteF, LK_ hK, LM_ hK.m, bI_t]
      exact last I _ _ P hM hP (k I same.rf (fun _ _ _ => rfl) hM)
    | false =>
      rw [if_neg (by decide)] at k
      simp (disch := omega) only [vpT, nI_leI, nI_ltI, nI_eq, nleT, nleF, nltT, nltF, neqT, neqF, nI_add, pk_mul, subN, divN, nI_clamp, mI1, wrH, wrM1, wrM2, wrowH, wrowM, bI0, bI1, kIi, kVi, kRi, kLi, kIx, kVx, Option.some.injEq, exists_eq_left', true_and, and_true, true_implies, false_implies, implies_true, not_true_eq_false, not_false_eq_true, true_or, or_true, false_or, or_false, forall_eq, iteT, iteF, LK_ hK, LM_ hK.m, bI_f, hM.2.2.1]
      exact last _ _ _ _ (hM.rf1 f0 hc) (hP.rfs hc3) (k _ (fun a ha => by rw [wrM1 ha, wrM1 ha]) (fun j j1 j2 => by rw [wrM2 j2, wrM2 j1]) (hM.rf1 f0 hc))
  · have er : (if b then P else rfs P c) = P := by
      split
      · rfl
      · exact if_neg f0
    rw [er] at k
    rw [decide_eq_false f0, bI_f]
    simp (disch := omega) only [vpT, nI_leI, nI_ltI, nI_eq, nleT, nleF, nltT, nltF, neqT, neqF, nI_add, pk_mul, subN, divN, nI_clamp, mI1, wrH, wrM1, wrM2, wrowH, wrowM, bI0, bI1, kIi, kVi, kRi, kLi, kIx, kVx, Option.some.injEq, exists_eq_left', true_and, and_true, true_implies, false_implies, implies_true, not_true_eq_false, not_false_eq_true, true_or, or_true, false_or, or_false, forall_eq, iteT, iteF, LK_ hK, LM_ hK.m]
    exact last I _ _ P hM hP (k I same.rf (fun _ _ _ => rfl) hM)
end WORDS

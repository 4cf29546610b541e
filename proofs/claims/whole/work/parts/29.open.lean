/-! deps: lay -/
/-! Open times: the rounds come to rest. -/
section OPEN
variable {S : BS} {n : Nat} {x y : Int32}
theorem hop_ge {i : Nat} : x ≤ hop S i x := by
  unfold hop
  split
  · rename_i h
    exact Int32.le_of_lt h.2
  · exact Int32.le_refl x
theorem hop_mv {i : Nat} (h : bSF S i ≤ x ∧ x < bST S i) : hop S i x = bST S i := if_pos h
theorem hop_st {i : Nat} (h : ¬ (bSF S i ≤ x ∧ x < bST S i)) : hop S i x = x := if_neg h
theorem pass_ge : ∀ {k : Nat}, x ≤ pass S k x
  | 0 => Int32.le_refl x
  | k + 1 => Int32.le_trans (pass_ge (k := k)) hop_ge
theorem pass_le {j : Nat} : ∀ {k : Nat}, j ≤ k → pass S j x ≤ pass S k x
  | 0, h => by
    have : j = 0 := by omega
    rw [this]; exact Int32.le_refl _
  | k + 1, h => by
    by_cases e : j = k + 1
    · rw [e]; exact Int32.le_refl _
    · exact Int32.le_trans (pass_le (k := k) (by omega)) hop_ge
theorem le_antisymm' (h1 : x ≤ y) (h2 : y ≤ x) : x = y := by
  rw [Int32.le_iff_toInt_le] at h1 h2
  exact Int32.toInt_inj.mp (by omega)
/-- a pass that moves nothing finds every span shut to it -/
theorem pass_fix : ∀ {k : Nat}, pass S k x = x ↔ ∀ i, i < k → ¬ (bSF S i ≤ x ∧ x < bST S i)
  | 0 => ⟨fun _ i h => absurd h (Nat.not_lt_zero _), fun _ => rfl⟩
  | k + 1 => by
    constructor
    · intro h
      have h1 : pass S k x = x := le_antisymm' (by
        have := pass_le (S := S) (x := x) (j := k) (k := k + 1) (by omega)
        rw [h] at this
        exact this) pass_ge
      intro i hi
      by_cases e : i = k
      · subst e
        intro hc
        have h2 : pass S (i + 1) x = bST S i := by
          show hop S i (pass S i x) = _
          rw [h1]
          exact hop_mv hc
        rw [h] at h2
        rw [← h2] at hc
        exact Int32.lt_irrefl hc.2
      · exact (pass_fix.mp h1) i (by omega)
    · intro h
      show hop S k (pass S k x) = x
      rw [pass_fix.mpr (fun i hi => h i (by omega))]
      exact hop_st (h k (by omega))
/-- how many spans end behind x -/
def cnt (S : BS) (x : Int32) : Nat → Nat
  | 0 => 0
  | k + 1 => cnt S x k + if x < bST S k then 1 else 0
theorem cnt_le : ∀ {k : Nat}, cnt S x k ≤ k
  | 0 => Nat.le_refl _
  | k + 1 => by
    have := cnt_le (k := k)
    unfold cnt
    split <;> omega
theorem cnt_mono (h : x ≤ y) : ∀ {k : Nat}, cnt S y k ≤ cnt S x k
  | 0 => Nat.le_refl _
  | k + 1 => by
    have := cnt_mono h (k := k)
    unfold cnt
    by_cases e : y < bST S k
    · rw [if_pos e, if_pos (Int32.lt_of_le_of_lt h e)]
      omega
    · rw [if_neg e]
      omega
theorem cnt_lt (h : x ≤ y) : ∀ {k i : Nat}, i < k → x < bST S i → bST S i ≤ y → cnt S y k < cnt S x k
  | 0, i, hi, _, _ => absurd hi (Nat.not_lt_zero _)
  | k + 1, i, hi, h1, h2 => by
    unfold cnt
    by_cases e : i = k
    · subst e
      have := cnt_mono (S := S) h (k := i)
      rw [if_pos h1, if_neg (Int32.not_lt.mpr h2)]
      omega
    · have := cnt_lt h (k := k) (i := i) (by omega) h1 h2
      by_cases e2 : y < bST S k
      · rw [if_pos e2, if_pos (Int32.lt_of_le_of_lt h e2)]
        omega
      · rw [if_neg e2]
        omega
theorem cnt_pass (h : ¬ pass S n x = x) : cnt S (pass S n x) n < cnt S x n := by
  have : ∃ i, i < n ∧ ¬ pass S (i + 1) x = pass S i x := by
    refine Classical.byContradiction fun hc => h ?_
    have : ∀ k, k ≤ n → pass S k x = x := by
      intro k
      induction k with
      | zero => intro _; rfl
      | succ k ih =>
        intro hk
        have e : pass S (k + 1) x = pass S k x := Classical.byContradiction fun q => hc ⟨k, by omega, q⟩
        rw [e]
        exact ih (by omega)
    exact this n (Nat.le_refl _)
  obtain ⟨i, hi, hne⟩ := this
  have hin : bSF S i ≤ pass S i x ∧ pass S i x < bST S i := Classical.byContradiction fun q => hne (hop_st q)
  have e : pass S (i + 1) x = bST S i := hop_mv hin
  refine cnt_lt pass_ge hi (Int32.lt_of_le_of_lt pass_ge hin.2) ?_
  rw [← e]
  exact pass_le (by omega)
theorem rounds_fix {r : Nat} (h : pass S n (rounds S n r x) = rounds S n r x) : ∀ {m : Nat}, r ≤ m → rounds S n m x = rounds S n r x
  | 0, hm => by
    have : r = 0 := by omega
    rw [this]
  | m + 1, hm => by
    by_cases e : r = m + 1
    · rw [e]
    · show pass S n (rounds S n m x) = _
      rw [rounds_fix h (m := m) (by omega), h]
/-- as many rounds as there are spans are enough -/
theorem rounds_rest : pass S n (rounds S n n x) = rounds S n n x := by
  refine Classical.byContradiction fun hc => ?_
  have : ∀ r, r ≤ n → cnt S (rounds S n r x) n + r ≤ n := by
    intro r
    induction r with
    | zero => intro _; have := cnt_le (S := S) (x := rounds S n 0 x) (k := n); omega
    | succ r ih =>
      intro hr
      have h1 := ih (by omega)
      have h2 : ¬ pass S n (rounds S n r x) = rounds S n r x := by
        intro q
        refine hc ?_
        rw [rounds_fix q (m := n) (by omega)]
        exact q
      have h3 := cnt_pass h2
      show cnt S (pass S n (rounds S n r x)) n + (r + 1) ≤ n
      omega
  have h1 := this n (Nat.le_refl _)
  have h2 := cnt_pass hc
  omega
theorem rounds_is {r : Nat} (h : pass S n (rounds S n r x) = rounds S n r x) : rounds S n r x = rounds S n n x := by
  by_cases e : r ≤ n
  · exact (rounds_fix h e).symm
  · exact rounds_fix rounds_rest (by omega)
end OPEN
/-- the model's object at m, its rows behind it -/
def LM (L : hL) (m : Nat) : Prop :=
  (L.1 m = 10 ∧ L.2.2.1 m 1 = some (m + 1) ∧ L.2.2.1 m 2 = some (m + 2) ∧ L.2.2.1 m 3 = some (m + 3) ∧ L.2.2.1 m 4 = some (m + 4) ∧ L.2.2.1 m 6 = some (m + 5) ∧ L.2.2.1 m 17 = some (m + 6) ∧ L.2.2.1 m 18 = some (m + 7) ∧ L.2.2.1 m 19 = some (m + 8) ∧ L.2.2.1 m 28 = some (m + 9)) ∧
  (L.1 (m + 1) = 20 ∧ L.1 (m + 2) = 20 ∧ L.1 (m + 3) = 20 ∧ L.1 (m + 4) = 20 ∧ L.1 (m + 5) = 21 ∧ L.1 (m + 6) = 20 ∧ L.1 (m + 7) = 20 ∧ L.1 (m + 8) = 20 ∧ L.1 (m + 9) = 21) ∧
  (L.2.1 (m + 1) = 189 ∧ L.2.1 (m + 2) = 189 ∧ L.2.1 (m + 3) = 189 ∧ L.2.1 (m + 4) = 3024 ∧ L.2.1 (m + 5) = 500 ∧ L.2.1 (m + 6) = 10 ∧ L.2.1 (m + 7) = 10 ∧ L.2.1 (m + 8) = 10 ∧ L.2.1 (m + 9) = 200)
/-- the model's row says what a board says -/
def Rel (r : rw1) (S : BS) (n sn dn : Nat) : Prop :=
  (r 0 = nI n ∧ r 1 = bF S 13 ∧ r 2 = bF S 11 ∧ r 3 = bF S 12 ∧ r 4 = nI sn ∧ r 5 = nI dn) ∧
  (∀ k, k < n → r (6 + 4 * k) = bSo S k ∧ r (6 + 4 * k + 1) = bRe S k ∧ r (6 + 4 * k + 2) = bLa S k ∧ r (6 + 4 * k + 3) = bWe S k ∧ r (46 + k) = bOr S k) ∧
  (∀ k, k < 64 → r (56 + k) = bGa S k) ∧
  (∀ k, k < sn → r (120 + 2 * k) = bSF S k ∧ r (120 + 2 * k + 1) = bST S k) ∧
  (∀ i, i < dn → r (128 + 3 * i) = bDo S (dn - 1 - i) ∧ r (128 + 3 * i + 1) = bDS S (dn - 1 - i) ∧ r (128 + 3 * i + 2) = bDW S (dn - 1 - i)) ∧
  ∃ w, w < 1024 ∧ r 188 = nI w ∧ ∀ k, k < n → bHu S k = nI (w / 2 ^ k % 2)
section MODEL
variable {d : Nat} {L : hL} {I : Nat → Nat → Int32} {J : Nat → Nat → Int64} {t : tl} {m n sn dn : Nat} {S : BS} {F : Int32 → hp → Prop} {X : Nat → hp → Prop}
theorem mp_openFrom {x : Int32} (hM : LM L m) (hR : Rel (I (m + 1)) S n sn dn) (hI : BI S n sn dn) (k : F (opn S x) (L, I, J, t)) : cal (d + 1) 201 [.ref m, .int x] (L, I, J, t) (kI F X) := by
  obtain ⟨⟨m0, r1, -⟩, ⟨k1, -⟩, ⟨n1, -⟩⟩ := hM
  have hs4 := hI.2.1.2
  have hsn : I (m + 1) 4 = nI sn := hR.1.2.2.2.2.1
  have hop : opn S x = rounds S sn sn x := by
    unfold opn
    rw [show (bF S 8).toNatClampNeg = sn by rw [hI.2.1.1]; exact nI_clamp (by omega)]
  refine e201 (q201_0 ?_)
  have main : ∀ c r l4, cnt S (rounds S sn r x) sn ≤ c → Wp (cal d) kc_201 [] (kI F X) (4, [some (.ref m), some (.int x), some (.int (rounds S sn r x)), some (.int 1), l4], [], (L, I, J, t)) := by
    intro c
    induction c using Nat.strongRecOn with
    | ind c ih =>
      intro r l4 hc
      refine q201_4 (fun h => absurd h (by decide)) (fun _ => q201_8 ?_)
      have inner : Wp (cal d) kc_201 [] (kI F X) (13, [some (.ref m), some (.int x), some (.int (pass S 0 (rounds S sn r x))), some (.int (if pass S 0 (rounds S sn r x) = rounds S sn r x then 0 else 1)), some (.int (nI 0))], [], (L, I, J, t)) := by
        refine loop0 (P := fun i => Wp (cal d) kc_201 [] (kI F X) (13, [some (.ref m), some (.int x), some (.int (pass S i (rounds S sn r x))), some (.int (if pass S i (rounds S sn r x) = rounds S sn r x then 0 else 1)), some (.int (nI i))], [], (L, I, J, t))) (n := sn) (fun i hi ih2 => ?_) ?_
        · obtain ⟨eF, eT⟩ := hR.2.2.2.1 i hi
          have e1 : 120 + 2 * nI i = nI (120 + 2 * i) := by rw [show (2 : Int32) = nI 2 from rfl, show (120 : Int32) = nI 120 from rfl, pk_mul, nI_add]
          have e2 : 120 + 2 * nI i + 1 = nI (120 + 2 * i + 1) := by rw [e1, nI_1]
          have c1 : (120 + 2 * nI i).toNatClampNeg = 120 + 2 * i := by rw [e1, nI_clamp (by omega)]
          have c2 : (120 + 2 * nI i + 1).toNatClampNeg = 120 + 2 * i + 1 := by rw [e2, nI_clamp (by omega)]
          have v1 : vp_in (120 + 2 * nI i) (L.2.1 (m + 1)) := by rw [n1, e1]; exact vp_in_nI (by omega) (by decide)
          have v2 : vp_in (120 + 2 * nI i + 1) (L.2.1 (m + 1)) := by rw [n1, e2]; exact vp_in_nI (by omega) (by decide)
          rw [nI_succ] at ih2
          have stay : ¬ (bSF S i ≤ pass S i (rounds S sn r x) ∧ pass S i (rounds S sn r x) < bST S i) → Wp (cal d) kc_201 [] (kI F X) (75, [some (.ref m), some (.int x), some (.int (pass S i (rounds S sn r x))), some (.int (if pass S i (rounds S sn r x) = rounds S sn r x then 0 else 1)), some (.int (nI i))], [], (L, I, J, t)) := by
            intro h
            rw [show pass S (i + 1) (rounds S sn r x) = pass S i (rounds S sn r x) from hop_st h] at ih2
            exact q201_75 ih2
          refine q201_13 m0 r1 k1 (by show vp_in 4 (L.2.1 (m + 1)); rw [n1]; exact vp_in_nI (n := 4) (by decide) (by decide)) (fun h => absurd h ?_) (fun _ => q201_24 m0 r1 k1 v1 (fun h => stay ?_) (fun h => q201_40 m0 r1 k1 v2 (fun h2 => stay ?_) (fun h2 => q201_58 m0 r1 k1 v2 (q201_75 ?_))))
          · show ¬ I (m + 1) 4 ≤ nI i
            rw [hsn]
            exact nI_ge hi (by omega)
          · dsimp only at h
            rw [c1, eF] at h
            exact fun q => Int32.not_le.mpr h q.1
          · dsimp only at h2
            rw [c2, eT] at h2
            exact fun q => Int32.not_lt.mpr h2 q.2
          · dsimp only at h h2 ⊢
            rw [c1, eF] at h
            rw [c2, eT] at h2
            rw [c2, eT]
            have hin : bSF S i ≤ pass S i (rounds S sn r x) ∧ pass S i (rounds S sn r x) < bST S i := ⟨Int32.not_lt.mp h, Int32.not_le.mp h2⟩
            have e3 : pass S (i + 1) (rounds S sn r x) = bST S i := hop_mv hin
            rw [e3, if_neg (fun q => by
              rw [q] at hin
              exact Int32.lt_irrefl (Int32.lt_of_le_of_lt pass_ge hin.2))] at ih2
            exact ih2
        · refine q201_13 m0 r1 k1 (by show vp_in 4 (L.2.1 (m + 1)); rw [n1]; exact vp_in_nI (n := 4) (by decide) (by decide)) (fun _ => q201_81 ?_) (fun h => absurd ?_ h)
          · by_cases e : pass S sn (rounds S sn r x) = rounds S sn r x
            · rw [if_pos e]
              refine q201_4 (fun _ => q201_84 ?_) (fun h => absurd rfl h)
              rw [e, rounds_is e, ← hop]
              exact k
            · rw [if_neg e]
              have hlt := cnt_pass e
              exact ih (cnt S (pass S sn (rounds S sn r x)) sn) (by omega) (r + 1) _ (Nat.le_refl _)
          · show I (m + 1) 4 ≤ nI sn
            rw [hsn]
            exact nI_le (Nat.le_refl _) (by omega)
      rw [show pass S 0 (rounds S sn r x) = rounds S sn r x from rfl, if_pos rfl] at inner
      exact inner
  exact main _ 0 _ (Nat.le_refl _)
end MODEL

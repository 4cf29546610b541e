/-! The model: allowed, places, crooked and turned ones, held by. -/
section MODEL2
variable {d : Nat} {L : hL} {I : Nat → Nat → Int32} {J : Nat → Nat → Int64} {t : tl} {m n sn dn T sh : Nat} {S : BS} {o : Nat → Nat} {F : Int32 → hp → Prop} {G : hp → Prop} {X : Nat → hp → Prop}
--facts LM_ hM
theorem mp_isNear {c p : Nat} (hM : LM L m) (hR : Rel (I (m + 1)) S n sn dn) (hI : BI S n sn dn) (hV : BV S n sn dn T) (hc : c < n) (hp : p ≤ 10) (hs : sh ≤ 3) (k : F (bI (near S n sh c p)) (L, I, J, t)) : cal (d + 3) 205 [.ref m, .int (nI c), .int (nI p), .int (nI sh)] (L, I, J, t) (kI F X) := by
  have hn := hI.1.2
  refine e205 (t205_0 ?_)
  simp (disch := omega) only [vpT, nI_leI, nI_ltI, nI_eq, nleT, nleF, nltT, nltF, neqT, neqF, nI_add, pk_mul, subN, divN, nI_clamp, mI1, wrH, wrM1, wrM2, wrowH, wrowM, bI0, bI1, kIi, kVi, kRi, kLi, kIx, kVx, Option.some.injEq, exists_eq_left', true_and, and_true, true_implies, false_implies, implies_true, not_true_eq_false, not_false_eq_true, true_or, or_true, false_or, or_false, forall_eq, iteT, iteF, LM_ hM]
  refine mp_rankOf hM hR hI hV hc (t205_6 ?_)
  have hrl := rk_lt (S := S) hc
  have c0 : (nI 0 ≤ nI p - nI (rk S n c)) = (rk S n c ≤ p) := by
    have e1 : (nI p - nI (rk S n c)).toInt = (p : Int) - rk S n c := by
      rw [Int32.toInt_sub, nI_toInt (by omega), nI_toInt (by omega)]
      exact Int.bmod_eq_of_le (by omega) (by omega)
    rw [Int32.le_iff_toInt_le, e1, nI_toInt (by omega)]
    exact propext ⟨fun h => by omega, fun h => by omega⟩
  simp (disch := omega) only [c0, sublt, sublt2, kIi]
  refine ⟨fun h => ⟨fun h1 => ?_, fun h1 => ?_⟩, fun h => ⟨fun h1 => ?_, fun h1 => ?_⟩⟩
  · rw [show near S n sh c p = false from decide_eq_false (by omega)] at k; exact k
  · rw [show near S n sh c p = true from decide_eq_true (by omega)] at k; exact k
  · rw [show near S n sh c p = false from decide_eq_false (by omega)] at k; exact k
  · rw [show near S n sh c p = true from decide_eq_true (by omega)] at k; exact k
theorem mp_isAllowed {f : Nat} (hM : LM L m) (hR : Rel (I (m + 1)) S n sn dn) (hI : BI S n sn dn) (hV : BV S n sn dn T) (hsh : bF S 11 = nI sh) (hs3 : sh ≤ 3) (hol : ∀ j, j < n → bOr S j = nI (ordN S j) ∧ ordN S j < n) (ho : ∀ j, j < n → o j < n) (hL : ROW (I (m + 6)) o n) (hf : f ≤ 10) (k : F (bI (alw S n f o)) (L, I, J, t)) : cal (d + 4) 204 [.ref m, .int (nI f)] (L, I, J, t) (kI F X) := by
  have hn := hI.1.2
  have hsN : shN S = sh := by unfold shN; rw [hsh, nI_clamp (by omega)]
  refine e204 (t204_0 ?_)
  refine lqP (n := n) (fun i => allB (fun k => if k < f then decide (o k = ordN S k) else near S n (shN S) (o k) k) i = true) (fun i => [some (.ref m), some (.int (nI f)), some (.int (nI i))]) rfl (fun i hi hd ih => t204_2 ?_) (fun hd => t204_2 ?_)
  · have hoi := ho i hi
    have e2 : I (m + 1) (46 + i) = nI (ordN S i) := (hR.2.1 i hi).2.2.2.2.trans (hol i hi).1
    have h2 := (hol i hi).2
    have e3 : I (m + 1) 2 = nI sh := hR.1.2.2.1.trans hsh
    have step : ∀ b : Bool, (if i < f then decide (o i = ordN S i) else near S n (shN S) (o i) i) = b → (b = true → allB (fun k => if k < f then decide (o k = ordN S k) else near S n (shN S) (o k) k) (i + 1) = true) ∧ (b = false → alw S n f o = false) := fun b hb => ⟨fun q => by unfold allB; rw [hd, hb, q]; rfl, fun q => allB_f hi (hb.trans q)⟩
    simp (disch := omega) only [vpT, nI_leI, nI_ltI, nI_eq, nleT, nleF, nltT, nltF, neqT, neqF, nI_add, pk_mul, subN, divN, nI_clamp, mI1, wrH, wrM1, wrM2, wrowH, wrowM, bI0, bI1, kIi, kVi, kRi, kLi, kIx, kVx, Option.some.injEq, exists_eq_left', true_and, and_true, true_implies, false_implies, implies_true, not_true_eq_false, not_false_eq_true, true_or, or_true, false_or, or_false, forall_eq, iteT, iteF, LM_ hM, hR.1.1, hL i hi, e2, e3]
    refine ⟨fun h => ?_, fun h => ⟨fun h1 => ih ?_, fun h1 => ?_⟩⟩
    · refine mp_isNear hM hR hI hV hoi (by omega) hs3 (t204_55 ?_)
      simp (disch := omega) only [vpT, nI_leI, nI_ltI, nI_eq, nleT, nleF, nltT, nltF, neqT, neqF, nI_add, pk_mul, subN, divN, nI_clamp, mI1, wrH, wrM1, wrM2, wrowH, wrowM, bI0, bI1, kIi, kVi, kRi, kLi, kIx, kVx, Option.some.injEq, exists_eq_left', true_and, and_true, true_implies, false_implies, implies_true, not_true_eq_false, not_false_eq_true, true_or, or_true, false_or, or_false, forall_eq, iteT, iteF, LM_ hM]
      rw [if_neg (by omega)] at step
      refine ⟨fun h1 => ih ((step _ rfl).1 (by rw [hsN]; exact btf h1)), fun h1 => ?_⟩
      rw [(step _ rfl).2 (by rw [hsN]; exact h1)] at k
      exact k
    · rw [if_pos (by omega)] at step
      exact (step _ rfl).1 (decide_eq_true h1)
    · rw [if_pos (by omega)] at step
      rw [(step _ rfl).2 (decide_eq_false h1)] at k
      exact k
  · simp (disch := omega) only [vpT, nI_leI, nI_ltI, nI_eq, nleT, nleF, nltT, nltF, neqT, neqF, nI_add, pk_mul, subN, divN, nI_clamp, mI1, wrH, wrM1, wrM2, wrowH, wrowM, bI0, bI1, kIi, kVi, kRi, kLi, kIx, kVx, Option.some.injEq, exists_eq_left', true_and, and_true, true_implies, false_implies, implies_true, not_true_eq_false, not_false_eq_true, true_or, or_true, false_or, or_false, forall_eq, iteT, iteF, LM_ hM, hR.1.1]
    rw [show alw S n f o = true from hd] at k
    exact k
theorem mp_placeOf {c p : Nat} (hM : LM L m) (hR : Rel (I (m + 1)) S n sn dn) (hI : BI S n sn dn) (hP : PI S n) (hol : ∀ j, j < n → bOr S j = nI (ordN S j) ∧ ordN S j < n) (hp : p < n) (hc : ordN S p = c) (k : F (nI p) (L, I, J, t)) : cal (d + 1) 214 [.ref m, .int (nI c)] (L, I, J, t) (kI F X) := by
  have hn := hI.1.2
  have hcn : c < n := by rw [← hc]; exact (hol p hp).2
  refine e214 (t214_0 ?_)
  refine lqP (n := n) (fun i => i ≤ p) (fun i => [some (.ref m), some (.int (nI c)), some (.int (nI i))]) (by omega) (fun i hi hip ih => t214_2 ?_) (fun h => by omega)
  have e2 : I (m + 1) (46 + i) = nI (ordN S i) := (hR.2.1 i hi).2.2.2.2.trans (hol i hi).1
  have h2 := (hol i hi).2
  simp (disch := omega) only [vpT, nI_leI, nI_ltI, nI_eq, nleT, nleF, nltT, nltF, neqT, neqF, nI_add, pk_mul, subN, divN, nI_clamp, mI1, wrH, wrM1, wrM2, wrowH, wrowM, bI0, bI1, kIi, kVi, kRi, kLi, kIx, kVx, Option.some.injEq, exists_eq_left', true_and, and_true, true_implies, false_implies, implies_true, not_true_eq_false, not_false_eq_true, true_or, or_true, false_or, or_false, forall_eq, iteT, iteF, LM_ hM, e2]
  refine ⟨fun h => ?_, fun h => ih ?_⟩
  · rw [show i = p from hP i p hi hp (by omega)]; exact k
  · have : i ≠ p := fun e => h (by rw [e]; exact hc)
    omega
theorem mp_crooked {f : Bool} (hM : LM L m) (hR : Rel (I (m + 1)) S n sn dn) (k : F (if f then fst1 (crk S) 512 0 else nI (cntB (crk S) 512)) (L, I, J, t)) : cal (d + 2) 210 [.ref m, .int (bI f)] (L, I, J, t) (kI F X) := by
  refine e210 (t210_0 ?_)
  refine lg (n := 512) (fun i l h => ∃ l4 l5 l6 v, l = [some (.ref m), some (.int (bI f)), some (.int v), some (.int (nI i)), l4, l5, l6] ∧ h = (L, I, J, t) ∧ (f = false → v = nI (cntB (crk S) i)) ∧ (f = true → fst1 (crk S) 512 0 = fst1 (crk S) (512 - i) i)) ?_ ?_ (Nat.zero_le _) _ _ ⟨_, _, _, _, rfl, rfl, fun _ => rfl, fun _ => rfl⟩
  · rintro i hi ih _ _ ⟨l4, l5, l6, v, rfl, rfl, h1, h2⟩
    refine t210_4 ?_
    rw [remN (a := i) (b := 8) (by omega) (by omega) (by omega), divN (a := i) (b := 8) (by omega) (by omega) (by omega), divN (a := i) (b := 64) (by omega) (by omega) (by omega), remN (a := i / 8) (b := 8) (by omega) (by omega) (by omega)]
    simp (disch := omega) only [vpT, nI_leI, nI_ltI, nI_eq, nleT, nleF, nltT, nltF, neqT, neqF, nI_add, pk_mul, subN, divN, nI_clamp, mI1, wrH, wrM1, wrM2, wrowH, wrowM, bI0, bI1, kIi, kVi, kRi, kLi, kIx, kVx, Option.some.injEq, exists_eq_left', true_and, and_true, true_implies, false_implies, implies_true, not_true_eq_false, not_false_eq_true, true_or, or_true, false_or, or_false, forall_eq, iteT, iteF, LM_ hM]
    refine mp_gapOf hM hR (by omega) (by omega) (t210_40 ?_)
    simp (disch := omega) only [vpT, nI_leI, nI_ltI, nI_eq, nleT, nleF, nltT, nltF, neqT, neqF, nI_add, pk_mul, subN, divN, nI_clamp, mI1, wrH, wrM1, wrM2, wrowH, wrowM, bI0, bI1, kIi, kVi, kRi, kLi, kIx, kVx, Option.some.injEq, exists_eq_left', true_and, and_true, true_implies, false_implies, implies_true, not_true_eq_false, not_false_eq_true, true_or, or_true, false_or, or_false, forall_eq, iteT, iteF, LM_ hM]
    refine mp_gapOf hM hR (by omega) (by omega) (t210_48 ?_)
    simp (disch := omega) only [vpT, nI_leI, nI_ltI, nI_eq, nleT, nleF, nltT, nltF, neqT, neqF, nI_add, pk_mul, subN, divN, nI_clamp, mI1, wrH, wrM1, wrM2, wrowH, wrowM, bI0, bI1, kIi, kVi, kRi, kLi, kIx, kVx, Option.some.injEq, exists_eq_left', true_and, and_true, true_implies, false_implies, implies_true, not_true_eq_false, not_false_eq_true, true_or, or_true, false_or, or_false, forall_eq, iteT, iteF, LM_ hM]
    refine mp_gapOf hM hR (by omega) (by omega) (t210_56 ?_)
    simp (disch := omega) only [vpT, nI_leI, nI_ltI, nI_eq, nleT, nleF, nltT, nltF, neqT, neqF, nI_add, pk_mul, subN, divN, nI_clamp, mI1, wrH, wrM1, wrM2, wrowH, wrowM, bI0, bI1, kIi, kVi, kRi, kLi, kIx, kVx, Option.some.injEq, exists_eq_left', true_and, and_true, true_implies, false_implies, implies_true, not_true_eq_false, not_false_eq_true, true_or, or_true, false_or, or_false, forall_eq, iteT, iteF, LM_ hM]
    have e2 : fst1 (crk S) (512 - i) i = if crk S i then nI i else fst1 (crk S) (512 - (i + 1)) (i + 1) := by
      rw [show 512 - i = 512 - (i + 1) + 1 by omega]; rfl
    have ec : ∀ b : Bool, decide (bGa S (i / 64 * 8 + i % 8) ≤ bGa S (i / 64 * 8 + i / 8 % 8) + bGa S (i / 8 % 8 * 8 + i % 8)) = b → crk S i = !b := fun b hb => by unfold crk; rw [hb]
    refine ⟨fun h => ?_, fun h => ⟨fun h3 => ?_, fun h3 => ?_⟩⟩
    · have hc := ec true (decide_eq_true h)
      exact ih _ _ ⟨_, _, _, v, rfl, rfl, fun q => by rw [cntB_f hc]; exact h1 q, fun q => by rw [h2 q, e2, hc]; rfl⟩
    · have hc := ec false (decide_eq_false h)
      refine ih _ _ ⟨_, _, _, _, rfl, rfl, fun q => by rw [cntB_t hc, h1 q, nI_add], fun q => by rw [h3] at q; cases q⟩
    · have hc := ec false (decide_eq_false h)
      rw [if_pos (btf h3), h2 (btf h3), e2, if_pos (show crk S i = true from hc)] at k
      exact k
  · rintro _ _ ⟨l4, l5, l6, v, rfl, rfl, h1, h2⟩
    refine t210_4 ?_
    simp (disch := omega) only [vpT, nI_leI, nI_ltI, nI_eq, nleT, nleF, nltT, nltF, neqT, neqF, nI_add, pk_mul, subN, divN, nI_clamp, mI1, wrH, wrM1, wrM2, wrowH, wrowM, bI0, bI1, kIi, kVi, kRi, kLi, kIx, kVx, Option.some.injEq, exists_eq_left', true_and, and_true, true_implies, false_implies, implies_true, not_true_eq_false, not_false_eq_true, true_or, or_true, false_or, or_false, forall_eq, iteT, iteF, LM_ hM]
    refine ⟨fun h3 => ?_, fun h3 => ?_⟩
    · rw [h3] at k; rw [h1 h3]; exact k
    · rw [if_pos (btf h3), h2 (btf h3)] at k; exact k
/-- couples, summed the other way -/
theorem couples {P : Nat → Nat → Bool} : ∀ {n : Nat}, sumN (fun q => cntB (fun p => decide (q < p) && P q p) n) n = sumN (fun p => cntB (fun q => P q p) p) n := by
  have one : ∀ n m, sumN (fun q => cntB (fun p => decide (q < p) && P q p) (n + 1)) m = sumN (fun q => cntB (fun p => decide (q < p) && P q p) n) m + cntB (fun q => decide (q < n) && P q n) m := by
    intro n m
    induction m with
    | zero => rfl
    | succ m ih =>
      show sumN (fun q => cntB (fun p => decide (q < p) && P q p) (n + 1)) m + (cntB (fun p => decide (m < p) && P m p) n + (if (decide (m < n) && P m n) = true then 1 else 0)) = sumN (fun q => cntB (fun p => decide (q < p) && P q p) n) m + cntB (fun p => decide (m < p) && P m p) n + (cntB (fun q => decide (q < n) && P q n) m + (if (decide (m < n) && P m n) = true then 1 else 0))
      rw [ih]
      exact Nat.add_add_add_comm _ _ _ _
  have zero : ∀ n, cntB (fun p => decide (n < p) && P n p) n = 0 := by
    intro n
    have : ∀ j, j ≤ n → cntB (fun p => decide (n < p) && P n p) j = 0 := by
      intro j
      induction j with
      | zero => intro _; rfl
      | succ j ih => intro h; rw [cntB_f (by rw [decide_eq_false (by omega)]; rfl)]; exact ih (by omega)
    exact this n (Nat.le_refl _)
  intro n
  induction n with
  | zero => rfl
  | succ n ih =>
    show sumN (fun q => cntB (fun p => decide (q < p) && P q p) (n + 1)) n + cntB (fun p => decide (n < p) && P n p) (n + 1) = sumN _ n + cntB _ n
    rw [one, ih, cntB_f (p := fun p => decide (n < p) && P n p) (k := n) (by rw [decide_eq_false (by omega)]; rfl), zero, Nat.add_zero]
    congr 1
    exact cntB_congr fun j hj => by rw [decide_eq_true hj]; rfl
theorem trn_sum : ∀ {p : Nat}, trn S o p = sumN (fun p => cntB (fun q => ahd S (o p) (o q)) p) p
  | 0 => rfl
  | p + 1 => by unfold trn sumN; rw [trn_sum]
theorem sumN_le {g : Nat → Nat} {B : Nat} (h : ∀ c, g c ≤ B) : ∀ {m : Nat}, sumN g m ≤ m * B
  | 0 => Nat.zero_le _
  | m + 1 => by have := sumN_le h (m := m); have := h m; unfold sumN; rw [Nat.succ_mul]; omega
theorem mp_turned (hM : LM L m) (hR : Rel (I (m + 1)) S n sn dn) (hI : BI S n sn dn) (hV : BV S n sn dn T) (hol : ∀ j, j < n → bOr S j = nI (ordN S j) ∧ ordN S j < n) (k : F (nI (trn S (ordN S) n)) (L, I, J, t)) : cal (d + 3) 211 [.ref m] (L, I, J, t) (kI F X) := by
  have hn := hI.1.2
  have hu := RelHU hR
  rw [trn_sum, ← couples (P := fun q p => ahd S (ordN S p) (ordN S q))] at k
  have e2 : ∀ i, i < n → I (m + 1) (46 + i) = nI (ordN S i) := fun i hi => (hR.2.1 i hi).2.2.2.2.trans (hol i hi).1
  refine e211 (t211_0 ?_)
  refine lg (n := n) (fun i l h => ∃ l3, l = [some (.ref m), some (.int (nI (sumN (fun q => cntB (fun p => decide (q < p) && ahd S (ordN S p) (ordN S q)) n) i))), some (.int (nI i)), l3] ∧ h = (L, I, J, t)) ?_ ?_ (Nat.zero_le _) _ _ ⟨_, rfl, rfl⟩
  · rintro i hi ih _ _ ⟨l3, rfl, rfl⟩
    refine t211_4 ?_
    simp (disch := omega) only [vpT, nI_leI, nI_ltI, nI_eq, nleT, nleF, nltT, nltF, neqT, neqF, nI_add, pk_mul, subN, divN, nI_clamp, mI1, wrH, wrM1, wrM2, wrowH, wrowM, bI0, bI1, kIi, kVi, kRi, kLi, kIx, kVx, Option.some.injEq, exists_eq_left', true_and, and_true, true_implies, false_implies, implies_true, not_true_eq_false, not_false_eq_true, true_or, or_true, false_or, or_false, forall_eq, iteT, iteF, LM_ hM, hR.1.1]
    have hz : cntB (fun p => decide (i < p) && ahd S (ordN S p) (ordN S i)) (i + 1) = 0 := by
      have : ∀ j, j ≤ i + 1 → cntB (fun p => decide (i < p) && ahd S (ordN S p) (ordN S i)) j = 0 := by
        intro j
        induction j with
        | zero => intro _; rfl
        | succ j ih => intro h; rw [cntB_f (by rw [decide_eq_false (by omega)]; rfl)]; exact ih (by omega)
      exact this _ (Nat.le_refl _)
    have es : sumN (fun q => cntB (fun p => decide (q < p) && ahd S (ordN S p) (ordN S q)) n) (i + 1) = sumN (fun q => cntB (fun p => decide (q < p) && ahd S (ordN S p) (ordN S q)) n) i + cntB (fun p => decide (i < p) && ahd S (ordN S p) (ordN S i)) n := rfl
    generalize sumN (fun q => cntB (fun p => decide (q < p) && ahd S (ordN S p) (ordN S q)) n) i = s at es
    refine lg (n := n) (fun j l h => l = [some (.ref m), some (.int (nI (s + cntB (fun p => decide (i < p) && ahd S (ordN S p) (ordN S i)) j))), some (.int (nI i)), some (.int (nI j))] ∧ h = (L, I, J, t) ∧ i < j) ?_ ?_ (show i + 1 ≤ n by omega) _ _ ⟨by rw [hz]; rfl, rfl, by omega⟩
    · rintro j hj ihj _ _ ⟨rfl, rfl, hij⟩
      refine t211_18 ?_
      simp (disch := omega) only [vpT, nI_leI, nI_ltI, nI_eq, nleT, nleF, nltT, nltF, neqT, neqF, nI_add, pk_mul, subN, divN, nI_clamp, mI1, wrH, wrM1, wrM2, wrowH, wrowM, bI0, bI1, kIi, kVi, kRi, kLi, kIx, kVx, Option.some.injEq, exists_eq_left', true_and, and_true, true_implies, false_implies, implies_true, not_true_eq_false, not_false_eq_true, true_or, or_true, false_or, or_false, forall_eq, iteT, iteF, LM_ hM, hR.1.1, e2]
      refine mp_rankOf hM hR hI hV (hol i hi).2 (t211_42 ?_)
      simp (disch := omega) only [vpT, nI_leI, nI_ltI, nI_eq, nleT, nleF, nltT, nltF, neqT, neqF, nI_add, pk_mul, subN, divN, nI_clamp, mI1, wrH, wrM1, wrM2, wrowH, wrowM, bI0, bI1, kIi, kVi, kRi, kLi, kIx, kVx, Option.some.injEq, exists_eq_left', true_and, and_true, true_implies, false_implies, implies_true, not_true_eq_false, not_false_eq_true, true_or, or_true, false_or, or_false, forall_eq, iteT, iteF, LM_ hM, e2]
      refine mp_rankOf hM hR hI hV (hol j hj).2 (t211_55 ?_)
      have r1 := rk_lt (S := S) (hol i hi).2
      have r2 := rk_lt (S := S) (hol j hj).2
      have hiff := rk_lt_iff hu (hol j hj).2 (hol i hi).2
      simp (disch := omega) only [vpT, nI_leI, nI_ltI, nI_eq, nleT, nleF, nltT, nltF, neqT, neqF, nI_add, pk_mul, subN, divN, nI_clamp, mI1, wrH, wrM1, wrM2, wrowH, wrowM, bI0, bI1, kIi, kVi, kRi, kLi, kIx, kVx, Option.some.injEq, exists_eq_left', true_and, and_true, true_implies, false_implies, implies_true, not_true_eq_false, not_false_eq_true, true_or, or_true, false_or, or_false, forall_eq, iteT, iteF, LM_ hM]
      refine ⟨fun h => ihj _ _ ⟨?_, rfl, by omega⟩, fun h => ihj _ _ ⟨?_, rfl, by omega⟩⟩
      · rw [cntB_f (p := fun p => decide (i < p) && ahd S (ordN S p) (ordN S i)) (k := j) (by
          rw [decide_eq_true hij, Bool.true_and]
          cases e : ahd S (ordN S j) (ordN S i) with
          | false => rfl
          | true => have := hiff.mpr e; omega)]
        rfl
      · rw [cntB_t (p := fun p => decide (i < p) && ahd S (ordN S p) (ordN S i)) (k := j) (by
          rw [decide_eq_true hij, Bool.true_and]
          exact hiff.mp (by omega))]
        rfl
    · rintro _ _ ⟨rfl, rfl, hij⟩
      refine t211_18 ?_
      simp (disch := omega) only [vpT, nI_leI, nI_ltI, nI_eq, nleT, nleF, nltT, nltF, neqT, neqF, nI_add, pk_mul, subN, divN, nI_clamp, mI1, wrH, wrM1, wrM2, wrowH, wrowM, bI0, bI1, kIi, kVi, kRi, kLi, kIx, kVx, Option.some.injEq, exists_eq_left', true_and, and_true, true_implies, false_implies, implies_true, not_true_eq_false, not_false_eq_true, true_or, or_true, false_or, or_false, forall_eq, iteT, iteF, LM_ hM, hR.1.1]
      exact ih _ _ ⟨_, by rw [es], rfl⟩
  · rintro _ _ ⟨l3, rfl, rfl⟩
    refine t211_4 ?_
    simp (disch := omega) only [vpT, nI_leI, nI_ltI, nI_eq, nleT, nleF, nltT, nltF, neqT, neqF, nI_add, pk_mul, subN, divN, nI_clamp, mI1, wrH, wrM1, wrM2, wrowH, wrowM, bI0, bI1, kIi, kVi, kRi, kLi, kIx, kVx, Option.some.injEq, exists_eq_left', true_and, and_true, true_implies, false_implies, implies_true, not_true_eq_false, not_false_eq_true, true_or, or_true, false_or, or_false, forall_eq, iteT, iteF, LM_ hM, hR.1.1]
    exact k
theorem mp_isClosed {x : Int32} (hM : LM L m) (hR : Rel (I (m + 1)) S n sn dn) (hI : BI S n sn dn) (k : F (bI (!decide (opn S x = x))) (L, I, J, t)) : cal (d + 2) 216 [.ref m, .int x] (L, I, J, t) (kI F X) := by
  refine e216 (t216_0 ?_)
  simp (disch := omega) only [vpT, nI_leI, nI_ltI, nI_eq, nleT, nleF, nltT, nltF, neqT, neqF, nI_add, pk_mul, subN, divN, nI_clamp, mI1, wrH, wrM1, wrM2, wrowH, wrowM, bI0, bI1, kIi, kVi, kRi, kLi, kIx, kVx, Option.some.injEq, exists_eq_left', true_and, and_true, true_implies, false_implies, implies_true, not_true_eq_false, not_false_eq_true, true_or, or_true, false_or, or_false, forall_eq, iteT, iteF, LM_ hM]
  refine mp_openFrom hM hR hI (t216_5 ?_)
  simp (disch := omega) only [vpT, nI_leI, nI_ltI, nI_eq, nleT, nleF, nltT, nltF, neqT, neqF, nI_add, pk_mul, subN, divN, nI_clamp, mI1, wrH, wrM1, wrM2, wrowH, wrowM, bI0, bI1, kIi, kVi, kRi, kLi, kIx, kVx, Option.some.injEq, exists_eq_left', true_and, and_true, true_implies, false_implies, implies_true, not_true_eq_false, not_false_eq_true, true_or, or_true, false_or, or_false, forall_eq, iteT, iteF, LM_ hM]
  refine ⟨fun h => ?_, fun h => ?_⟩
  · rw [decide_eq_true h] at k; exact k
  · rw [decide_eq_false h] at k; exact k
theorem mp_heldBy {p : Nat} (hM : LM L m) (hR : Rel (I (m + 1)) S n sn dn) (hI : BI S n sn dn) (ho : ∀ j, j < n → o j < n) (hL : ML I m S o n) (hp : p < n) (k : F (hby S o dn p) (L, I, J, t)) : cal (d + 3) 215 [.ref m, .int (nI p)] (L, I, J, t) (kI F X) := by
  have hn := hI.1.2
  have hd20 := hI.2.2.1.2
  have hop := ho p hp
  obtain ⟨z, hz, ez⟩ := hI.2.2.2.1 (o p) hop
  have ezc : (bSo S (o p)).toNatClampNeg = z := by rw [ez, nI_clamp (by omega)]
  have hdn : I (m + 1) 5 = nI dn := hR.1.2.2.2.2.2
  have hnow : I (m + 1) 1 = bF S 13 := hR.1.2.1
  refine e215 (t215_0 ?_)
  simp (disch := omega) only [vpT, nI_leI, nI_ltI, nI_eq, nleT, nleF, nltT, nltF, neqT, neqF, nI_add, pk_mul, subN, divN, nI_clamp, mI1, wrH, wrM1, wrM2, wrowH, wrowM, bI0, bI1, kIi, kVi, kRi, kLi, kIx, kVx, Option.some.injEq, exists_eq_left', true_and, and_true, true_implies, false_implies, implies_true, not_true_eq_false, not_false_eq_true, true_or, or_true, false_or, or_false, forall_eq, iteT, iteF, LM_ hM, hL.1 p hp, hL.2 p hp]
  refine mp_ofCraft (w := 0) hM (by omega) (by decide) (t215_20 ?_)
  rw [show I (m + 1) (6 + 4 * o p + 0) = nI z from (hR.2.1 _ hop).1.trans ez]
  simp (disch := omega) only [vpT, nI_leI, nI_ltI, nI_eq, nleT, nleF, nltT, nltF, neqT, neqF, nI_add, pk_mul, subN, divN, nI_clamp, mI1, wrH, wrM1, wrM2, wrowH, wrowM, bI0, bI1, kIi, kVi, kRi, kLi, kIx, kVx, Option.some.injEq, exists_eq_left', true_and, and_true, true_implies, false_implies, implies_true, not_true_eq_false, not_false_eq_true, true_or, or_true, false_or, or_false, forall_eq, iteT, iteF, LM_ hM]
  refine mp_ofCraft (w := 1) hM (by omega) (by decide) (t215_29 ?_)
  rw [(hR.2.1 _ hop).2.1]
  unfold hby at k
  rw [ezc] at k
  generalize hsl : slt S o p = s at k
  simp (disch := omega) only [vpT, nI_leI, nI_ltI, nI_eq, nleT, nleF, nltT, nltF, neqT, neqF, nI_add, pk_mul, subN, divN, nI_clamp, mI1, wrH, wrM1, wrM2, wrowH, wrowM, bI0, bI1, kIi, kVi, kRi, kLi, kIx, kVx, Option.some.injEq, exists_eq_left', true_and, and_true, true_implies, false_implies, implies_true, not_true_eq_false, not_false_eq_true, true_or, or_true, false_or, or_false, forall_eq, iteT, iteF, LM_ hM, hnow]
  refine ⟨fun h1 => ?_, fun h1 => ⟨fun h2 => ?_, fun h2 => ?_⟩⟩
  · rw [if_pos (Or.inl h1)] at k; exact k
  · rw [if_neg (fun q => q.elim h1 h2)] at k
    refine mp_isClosed hM hR hI (t215_52 ?_)
    simp (disch := omega) only [vpT, nI_leI, nI_ltI, nI_eq, nleT, nleF, nltT, nltF, neqT, neqF, nI_add, pk_mul, subN, divN, nI_clamp, mI1, wrH, wrM1, wrM2, wrowH, wrowM, bI0, bI1, kIi, kVi, kRi, kLi, kIx, kVx, Option.some.injEq, exists_eq_left', true_and, and_true, true_implies, false_implies, implies_true, not_true_eq_false, not_false_eq_true, true_or, or_true, false_or, or_false, forall_eq, iteT, iteF, LM_ hM]
    have down : ∀ q, q ≤ p → lst1 (hbP S o z s) o p = lst1 (hbP S o z s) o q → F (lst1 (hbP S o z s) o p) (L, I, J, t) → Wp (cal (d + 2)) kc_215 [] (kI F X) (125, [some (.ref m), some (.int (nI p)), some (.int (nI (o p))), some (.int s), some (.int (nI z)), some (.int (nI q - nI 1))], [], (L, I, J, t)) := by
      intro q
      induction q with
      | zero =>
        intro _ he kk
        refine t215_125 ?_
        simp only [show (nI 0 - nI 1 < nI 0) = True from eq_true (by decide), show (nI 0 ≤ nI 0 - nI 1) = False from eq_false (by decide), true_implies, false_implies, not_true_eq_false, not_false_eq_true, true_and, and_true, kIi]
        rw [he] at kk
        exact kk
      | succ q ih =>
        intro hq he kk
        refine t215_125 ?_
        have hoq := ho q (by omega)
        obtain ⟨zq, hzq, ezq⟩ := hI.2.2.2.1 (o q) hoq
        simp (disch := omega) only [vpT, nI_leI, nI_ltI, nI_eq, nleT, nleF, nltT, nltF, neqT, neqF, nI_add, pk_mul, subN, divN, nI_clamp, mI1, wrH, wrM1, wrM2, wrowH, wrowM, bI0, bI1, kIi, kVi, kRi, kLi, kIx, kVx, Option.some.injEq, exists_eq_left', true_and, and_true, true_implies, false_implies, implies_true, not_true_eq_false, not_false_eq_true, true_or, or_true, false_or, or_false, forall_eq, iteT, iteF, LM_ hM, show q + 1 - 1 = q by omega, hL.1 q (by omega), hL.2 q (by omega)]
        refine mp_ofCraft (w := 0) hM (by omega) (by decide) (t215_150 ?_)
        rw [show I (m + 1) (6 + 4 * o q + 0) = nI zq from (hR.2.1 _ hoq).1.trans ezq]
        simp (disch := omega) only [vpT, nI_leI, nI_ltI, nI_eq, nleT, nleF, nltT, nltF, neqT, neqF, nI_add, pk_mul, subN, divN, nI_clamp, mI1, wrH, wrM1, wrM2, wrowH, wrowM, bI0, bI1, kIi, kVi, kRi, kLi, kIx, kVx, Option.some.injEq, exists_eq_left', true_and, and_true, true_implies, false_implies, implies_true, not_true_eq_false, not_false_eq_true, true_or, or_true, false_or, or_false, forall_eq, iteT, iteF, LM_ hM]
        refine mp_gapOf hM hR hzq hz (t215_155 ?_)
        simp (disch := omega) only [vpT, nI_leI, nI_ltI, nI_eq, nleT, nleF, nltT, nltF, neqT, neqF, nI_add, pk_mul, subN, divN, nI_clamp, mI1, wrH, wrM1, wrM2, wrowH, wrowM, bI0, bI1, kIi, kVi, kRi, kLi, kIx, kVx, Option.some.injEq, exists_eq_left', true_and, and_true, true_implies, false_implies, implies_true, not_true_eq_false, not_false_eq_true, true_or, or_true, false_or, or_false, forall_eq, iteT, iteF, LM_ hM, mIm, hL.1 q (by omega)]
        have hbe : hbP S o z s q = decide (slt S o q + bGa S (zq * 8 + z) = s) := by unfold hbP; rw [ezq, nI_clamp (by omega)]
        have hl1 : lst1 (hbP S o z s) o (q + 1) = if hbP S o z s q then nI (o q) else lst1 (hbP S o z s) o q := rfl
        refine ⟨fun h5 => ?_, fun h5 => ih (by omega) ?_ kk⟩
        · rw [he, hl1, hbe, decide_eq_true h5] at kk
          exact kk
        · rw [he, hl1, hbe, decide_eq_false h5]; rfl
    refine ⟨fun h3 => ?_, fun h3 => ?_⟩
    · have h3' : opn S (s - nI 1) = s - nI 1 := by simpa using h3
      rw [if_pos h3'] at k
      refine lqP (n := dn) (fun i => ∀ j, j < i → hbD S z s (dn - 1 - j) = false) (fun i => [some (.ref m), some (.int (nI p)), some (.int (nI (o p))), some (.int s), some (.int (nI z)), some (.int (nI i))]) (fun j hj => by omega) (fun i hi hd ih => t215_61 ?_) (fun hd => t215_61 ?_)
      · obtain ⟨w1, w2, -⟩ := hR.2.2.2.2.1 i hi
        obtain ⟨zi, hzi, ezi⟩ := hI.2.2.2.2.2 (dn - 1 - i) (by omega)
        simp (disch := omega) only [vpT, nI_leI, nI_ltI, nI_eq, nleT, nleF, nltT, nltF, neqT, neqF, nI_add, pk_mul, subN, divN, nI_clamp, mI1, wrH, wrM1, wrM2, wrowH, wrowM, bI0, bI1, kIi, kVi, kRi, kLi, kIx, kVx, Option.some.injEq, exists_eq_left', true_and, and_true, true_implies, false_implies, implies_true, not_true_eq_false, not_false_eq_true, true_or, or_true, false_or, or_false, forall_eq, iteT, iteF, LM_ hM, hdn, w2, w1.trans ezi]
        refine mp_gapOf hM hR hzi hz (t215_106 ?_)
        simp (disch := omega) only [vpT, nI_leI, nI_ltI, nI_eq, nleT, nleF, nltT, nltF, neqT, neqF, nI_add, pk_mul, subN, divN, nI_clamp, mI1, wrH, wrM1, wrM2, wrowH, wrowM, bI0, bI1, kIi, kVi, kRi, kLi, kIx, kVx, Option.some.injEq, exists_eq_left', true_and, and_true, true_implies, false_implies, implies_true, not_true_eq_false, not_false_eq_true, true_or, or_true, false_or, or_false, forall_eq, iteT, iteF, LM_ hM]
        have hbe : hbD S z s (dn - 1 - i) = decide (bDS S (dn - 1 - i) + bGa S (zi * 8 + z) = s) := by unfold hbD; rw [ezi, nI_clamp (by omega)]
        refine ⟨fun h5 => ih fun j hj => ?_, fun h5 => ?_⟩
        · by_cases e : j = i
          · rw [e, hbe, decide_eq_false h5]
          · exact hd j (by omega)
        · rw [show anyB (hbD S z s) dn = true from anyB_iff.mpr ⟨dn - 1 - i, by omega, by rw [hbe]; exact decide_eq_true h5⟩] at k
          exact k
      · simp (disch := omega) only [vpT, nI_leI, nI_ltI, nI_eq, nleT, nleF, nltT, nltF, neqT, neqF, nI_add, pk_mul, subN, divN, nI_clamp, mI1, wrH, wrM1, wrM2, wrowH, wrowM, bI0, bI1, kIi, kVi, kRi, kLi, kIx, kVx, Option.some.injEq, exists_eq_left', true_and, and_true, true_implies, false_implies, implies_true, not_true_eq_false, not_false_eq_true, true_or, or_true, false_or, or_false, forall_eq, iteT, iteF, LM_ hM, hdn]
        have : anyB (hbD S z s) dn = false := by
          cases e : anyB (hbD S z s) dn with
          | false => rfl
          | true =>
            obtain ⟨j, hj, q⟩ := anyB_iff.mp e
            have := hd (dn - 1 - j) (by omega)
            rw [show dn - 1 - (dn - 1 - j) = j by omega, q] at this
            cases this
        rw [this] at k
        exact down p (Nat.le_refl _) rfl k
    · have h3' : ¬ opn S (s - nI 1) = s - nI 1 := by simpa using h3
      rw [if_neg h3'] at k
      exact k
  · rw [if_pos (Or.inr h2)] at k; exact k
end MODEL2

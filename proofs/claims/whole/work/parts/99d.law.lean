/-! The law's cases. -/
def NX (I0 : Nat → Nat → Int32) (L : hL) (x b i z l : Nat) (Q : oc → hp → Prop) : Prop := ∀ I J z' l' ex l5 l6, ST I0 I x → z' ≤ z + 1 → l' ≤ l + 6 → Wp (cal 60) kc_273 [] Q (2351, [some (.ref b), some (.ref x), some (.ref (x + 271)), some (.ref (x + 281)), some (.int (nI i)), l5, l6], [], (L, I, J, z', l', ex))
/-- the script's place -/
def SC (L : hL) (x b Ls i : Nat) : Prop := L.1 b = 30 ∧ L.2.1 b = Ls ∧ b < x ∧ Ls ≤ 3072 ∧ i + 6 ≤ Ls
theorem lg_self (y : Int64) : (lg_cmp y y = nI 0) = True := eq_true ((lg_cmp_eq y y).mpr rfl)
section CASES
variable {I0 I : Nat → Nat → Int32} {J : Nat → Nat → Int64} {L : hL} {x b Ls i z l : Nat} {ex : Bool} {Q : oc → hp → Prop} {c : Int32} {h2 : hp} {l5 l6 : Option Value}
theorem c284 (hK : LK L x) (hc : SC L x b Ls i) (hq : WQ I0 L x 179 20 [.int (I0 b (i + 1))] Int32.toInt64 z l ex c h2) (nx : NX I0 L x b i z l Q) : Wp (cal 60) kc_273 [] Q (284, [some (.ref b), some (.ref x), some (.ref (x + 271)), some (.ref (x + 281)), some (.int (nI i)), l5, l6], [.int c], h2) := by
  obtain ⟨h30, hLs, hbx, hL, hi⟩ := hc
  rcases hq with ⟨rfl, r, I2, J0, rfl, lo, hm⟩ | ⟨q, hq, rfl, I2, J0, rfl, lo, hm⟩
  · have eb := lo b hbx
    refine t273_284 ?_
    simp (disch := omega) only [h30, hLs, eb, vpT, nI_add, nI_clamp, LM_ hK.m, true_and]
    refine kI_mono (hm _) (fun r2 h3 hf => ?_) (fun _ _ hf => hf.elim)
    obtain ⟨rfl, I3, J3, rfl, m0, mJ, hS⟩ := hf
    refine t273_296 ?_
    simp only [LM_ hK.m, true_and]
    refine e172 (t172_0 ?_)
    simp only [LM_ hK.m, true_and, m0, kIi]
    refine t273_302 ?_
    have e281 : J3 (x + 281) 0 = Int32.toInt64 r2 := by rw [mJ]; exact wrH rfl rfl
    simp (disch := omega) only [LK_ hK, vpT, nI_clamp, e281, lg_self, true_and, and_true, true_implies, not_true_eq_false, false_implies, forall_const]
    exact nx I3 J3 z l ex _ _ hS (by omega) (by omega)
  · have eb := lo b hbx
    refine t273_284 ?_
    simp (disch := omega) only [h30, hLs, eb, vpT, nI_add, nI_clamp, LM_ hK.m, true_and]
    refine kI_mono (hm _) (fun r2 h3 hf => ?_) (fun _ _ hf => hf.elim)
    obtain ⟨-, I3, J3, rfl, m0, mJ, hS⟩ := hf
    refine t273_296 ?_
    simp only [LM_ hK.m, true_and]
    refine e172 (t172_0 ?_)
    simp only [LM_ hK.m, true_and, m0, kIi]
    refine t273_302 ?_
    have nq : (nI q = nI 0) = False := by rcases hq with rfl | rfl <;> exact eq_false (by decide)
    simp only [nq, true_and, and_true, true_implies, not_true_eq_false, not_false_eq_true, false_implies, forall_const]
    exact nx I3 J3 (z + 1) (l + 6) false _ _ hS (by omega) (by omega)
theorem c353 (hK : LK L x) (hc : SC L x b Ls i) (hq : WQ I0 L x 194 20 [.int (I0 b (i + 1))] Int32.toInt64 z l ex c h2) (nx : NX I0 L x b i z l Q) : Wp (cal 60) kc_273 [] Q (353, [some (.ref b), some (.ref x), some (.ref (x + 271)), some (.ref (x + 281)), some (.int (nI i)), l5, l6], [.int c], h2) := by
  obtain ⟨h30, hLs, hbx, hL, hi⟩ := hc
  rcases hq with ⟨rfl, r, I2, J0, rfl, lo, hm⟩ | ⟨q, hq, rfl, I2, J0, rfl, lo, hm⟩
  · have eb := lo b hbx
    refine t273_353 ?_
    simp (disch := omega) only [h30, hLs, eb, vpT, nI_add, nI_clamp, LM_ hK.m, true_and]
    refine kI_mono (hm _) (fun r2 h3 hf => ?_) (fun _ _ hf => hf.elim)
    obtain ⟨rfl, I3, J3, rfl, m0, mJ, hS⟩ := hf
    refine t273_365 ?_
    simp only [LM_ hK.m, true_and]
    refine e172 (t172_0 ?_)
    simp only [LM_ hK.m, true_and, m0, kIi]
    refine t273_371 ?_
    have e281 : J3 (x + 281) 0 = Int32.toInt64 r2 := by rw [mJ]; exact wrH rfl rfl
    simp (disch := omega) only [LK_ hK, vpT, nI_clamp, e281, lg_self, true_and, and_true, true_implies, not_true_eq_false, false_implies, forall_const]
    exact nx I3 J3 z l ex _ _ hS (by omega) (by omega)
  · have eb := lo b hbx
    refine t273_353 ?_
    simp (disch := omega) only [h30, hLs, eb, vpT, nI_add, nI_clamp, LM_ hK.m, true_and]
    refine kI_mono (hm _) (fun r2 h3 hf => ?_) (fun _ _ hf => hf.elim)
    obtain ⟨-, I3, J3, rfl, m0, mJ, hS⟩ := hf
    refine t273_365 ?_
    simp only [LM_ hK.m, true_and]
    refine e172 (t172_0 ?_)
    simp only [LM_ hK.m, true_and, m0, kIi]
    refine t273_371 ?_
    have nq : (nI q = nI 0) = False := by rcases hq with rfl | rfl <;> exact eq_false (by decide)
    simp only [nq, true_and, and_true, true_implies, not_true_eq_false, not_false_eq_true, false_implies, forall_const]
    exact nx I3 J3 (z + 1) (l + 6) false _ _ hS (by omega) (by omega)
theorem c415 (hK : LK L x) (hc : SC L x b Ls i) (hq : WQ I0 L x 212 20 [.int (I0 b (i + 1)), .int (I0 b (i + 2))] Int32.toInt64 z l ex c h2) (nx : NX I0 L x b i z l Q) : Wp (cal 60) kc_273 [] Q (415, [some (.ref b), some (.ref x), some (.ref (x + 271)), some (.ref (x + 281)), some (.int (nI i)), l5, l6], [.int c], h2) := by
  obtain ⟨h30, hLs, hbx, hL, hi⟩ := hc
  rcases hq with ⟨rfl, r, I2, J0, rfl, lo, hm⟩ | ⟨q, hq, rfl, I2, J0, rfl, lo, hm⟩
  · have eb := lo b hbx
    refine t273_415 ?_
    simp (disch := omega) only [h30, hLs, eb, vpT, nI_add, nI_clamp, LM_ hK.m, true_and]
    refine kI_mono (hm _) (fun r2 h3 hf => ?_) (fun _ _ hf => hf.elim)
    obtain ⟨rfl, I3, J3, rfl, m0, mJ, hS⟩ := hf
    refine t273_433 ?_
    simp only [LM_ hK.m, true_and]
    refine e172 (t172_0 ?_)
    simp only [LM_ hK.m, true_and, m0, kIi]
    refine t273_439 ?_
    have e281 : J3 (x + 281) 0 = Int32.toInt64 r2 := by rw [mJ]; exact wrH rfl rfl
    simp (disch := omega) only [LK_ hK, vpT, nI_clamp, e281, lg_self, true_and, and_true, true_implies, not_true_eq_false, false_implies, forall_const]
    exact nx I3 J3 z l ex _ _ hS (by omega) (by omega)
  · have eb := lo b hbx
    refine t273_415 ?_
    simp (disch := omega) only [h30, hLs, eb, vpT, nI_add, nI_clamp, LM_ hK.m, true_and]
    refine kI_mono (hm _) (fun r2 h3 hf => ?_) (fun _ _ hf => hf.elim)
    obtain ⟨-, I3, J3, rfl, m0, mJ, hS⟩ := hf
    refine t273_433 ?_
    simp only [LM_ hK.m, true_and]
    refine e172 (t172_0 ?_)
    simp only [LM_ hK.m, true_and, m0, kIi]
    refine t273_439 ?_
    have nq : (nI q = nI 0) = False := by rcases hq with rfl | rfl <;> exact eq_false (by decide)
    simp only [nq, true_and, and_true, true_implies, not_true_eq_false, not_false_eq_true, false_implies, forall_const]
    exact nx I3 J3 (z + 1) (l + 6) false _ _ hS (by omega) (by omega)
theorem c477 (hK : LK L x) (hc : SC L x b Ls i) (hq : WQ I0 L x 218 20 [.int (I0 b (i + 1))] Int32.toInt64 z l ex c h2) (nx : NX I0 L x b i z l Q) : Wp (cal 60) kc_273 [] Q (477, [some (.ref b), some (.ref x), some (.ref (x + 271)), some (.ref (x + 281)), some (.int (nI i)), l5, l6], [.int c], h2) := by
  obtain ⟨h30, hLs, hbx, hL, hi⟩ := hc
  rcases hq with ⟨rfl, r, I2, J0, rfl, lo, hm⟩ | ⟨q, hq, rfl, I2, J0, rfl, lo, hm⟩
  · have eb := lo b hbx
    refine t273_477 ?_
    simp (disch := omega) only [h30, hLs, eb, vpT, nI_add, nI_clamp, LM_ hK.m, true_and]
    refine kI_mono (hm _) (fun r2 h3 hf => ?_) (fun _ _ hf => hf.elim)
    obtain ⟨rfl, I3, J3, rfl, m0, mJ, hS⟩ := hf
    refine t273_489 ?_
    simp only [LM_ hK.m, true_and]
    refine e172 (t172_0 ?_)
    simp only [LM_ hK.m, true_and, m0, kIi]
    refine t273_495 ?_
    have e281 : J3 (x + 281) 0 = Int32.toInt64 r2 := by rw [mJ]; exact wrH rfl rfl
    simp (disch := omega) only [LK_ hK, vpT, nI_clamp, e281, lg_self, true_and, and_true, true_implies, not_true_eq_false, false_implies, forall_const]
    exact nx I3 J3 z l ex _ _ hS (by omega) (by omega)
  · have eb := lo b hbx
    refine t273_477 ?_
    simp (disch := omega) only [h30, hLs, eb, vpT, nI_add, nI_clamp, LM_ hK.m, true_and]
    refine kI_mono (hm _) (fun r2 h3 hf => ?_) (fun _ _ hf => hf.elim)
    obtain ⟨-, I3, J3, rfl, m0, mJ, hS⟩ := hf
    refine t273_489 ?_
    simp only [LM_ hK.m, true_and]
    refine e172 (t172_0 ?_)
    simp only [LM_ hK.m, true_and, m0, kIi]
    refine t273_495 ?_
    have nq : (nI q = nI 0) = False := by rcases hq with rfl | rfl <;> exact eq_false (by decide)
    simp only [nq, true_and, and_true, true_implies, not_true_eq_false, not_false_eq_true, false_implies, forall_const]
    exact nx I3 J3 (z + 1) (l + 6) false _ _ hS (by omega) (by omega)
theorem c539 (hK : LK L x) (hc : SC L x b Ls i) (hq : WQ I0 L x 219 20 [.int (I0 b (i + 1)), .int (I0 b (i + 2))] Int32.toInt64 z l ex c h2) (nx : NX I0 L x b i z l Q) : Wp (cal 60) kc_273 [] Q (539, [some (.ref b), some (.ref x), some (.ref (x + 271)), some (.ref (x + 281)), some (.int (nI i)), l5, l6], [.int c], h2) := by
  obtain ⟨h30, hLs, hbx, hL, hi⟩ := hc
  rcases hq with ⟨rfl, r, I2, J0, rfl, lo, hm⟩ | ⟨q, hq, rfl, I2, J0, rfl, lo, hm⟩
  · have eb := lo b hbx
    refine t273_539 ?_
    simp (disch := omega) only [h30, hLs, eb, vpT, nI_add, nI_clamp, LM_ hK.m, true_and]
    refine kI_mono (hm _) (fun r2 h3 hf => ?_) (fun _ _ hf => hf.elim)
    obtain ⟨rfl, I3, J3, rfl, m0, mJ, hS⟩ := hf
    refine t273_557 ?_
    simp only [LM_ hK.m, true_and]
    refine e172 (t172_0 ?_)
    simp only [LM_ hK.m, true_and, m0, kIi]
    refine t273_563 ?_
    have e281 : J3 (x + 281) 0 = Int32.toInt64 r2 := by rw [mJ]; exact wrH rfl rfl
    simp (disch := omega) only [LK_ hK, vpT, nI_clamp, e281, lg_self, true_and, and_true, true_implies, not_true_eq_false, false_implies, forall_const]
    exact nx I3 J3 z l ex _ _ hS (by omega) (by omega)
  · have eb := lo b hbx
    refine t273_539 ?_
    simp (disch := omega) only [h30, hLs, eb, vpT, nI_add, nI_clamp, LM_ hK.m, true_and]
    refine kI_mono (hm _) (fun r2 h3 hf => ?_) (fun _ _ hf => hf.elim)
    obtain ⟨-, I3, J3, rfl, m0, mJ, hS⟩ := hf
    refine t273_557 ?_
    simp only [LM_ hK.m, true_and]
    refine e172 (t172_0 ?_)
    simp only [LM_ hK.m, true_and, m0, kIi]
    refine t273_563 ?_
    have nq : (nI q = nI 0) = False := by rcases hq with rfl | rfl <;> exact eq_false (by decide)
    simp only [nq, true_and, and_true, true_implies, not_true_eq_false, not_false_eq_true, false_implies, forall_const]
    exact nx I3 J3 (z + 1) (l + 6) false _ _ hS (by omega) (by omega)
theorem c615 {pb : Int32} (hK : LK L x) (hc : SC L x b Ls i) (hpb : pb = if I0 b (i + 2) = nI 0 then nI 0 else nI 1) (hq : WQ I0 L x 221 20 [.int (I0 b (i + 1)), .int pb] Int32.toInt64 z l ex c h2) (nx : NX I0 L x b i z l Q) : Wp (cal 60) kc_273 [] Q (615, [some (.ref b), some (.ref x), some (.ref (x + 271)), some (.ref (x + 281)), some (.int (nI i)), l5, l6], [.int c], h2) := by
  obtain ⟨h30, hLs, hbx, hL, hi⟩ := hc
  rcases hq with ⟨rfl, r, I2, J0, rfl, lo, hm⟩ | ⟨q, hq, rfl, I2, J0, rfl, lo, hm⟩
  · have eb := lo b hbx
    refine t273_615 ?_
    by_cases w : I0 b (i + 2) = nI 0
    · rw [if_pos w] at hpb
      subst hpb
      simp (disch := omega) only [h30, hLs, eb, vpT, nI_add, nI_clamp, LM_ hK.m, true_and, and_true, w, true_implies, not_true_eq_false, not_false_eq_true, false_implies]
      refine kI_mono (hm _) (fun r2 h3 hf => ?_) (fun _ _ hf => hf.elim)
      obtain ⟨rfl, I3, J3, rfl, m0, mJ, hS⟩ := hf
      refine t273_641 ?_
      simp only [LM_ hK.m, true_and]
      refine e172 (t172_0 ?_)
      simp only [LM_ hK.m, true_and, m0, kIi]
      refine t273_647 ?_
      have e281 : J3 (x + 281) 0 = Int32.toInt64 r2 := by rw [mJ]; exact wrH rfl rfl
      simp (disch := omega) only [LK_ hK, vpT, nI_clamp, e281, lg_self, true_and, and_true, true_implies, not_true_eq_false, false_implies, forall_const]
      exact nx I3 J3 z l ex _ _ hS (by omega) (by omega)
    · rw [if_neg w] at hpb
      subst hpb
      simp (disch := omega) only [h30, hLs, eb, vpT, nI_add, nI_clamp, LM_ hK.m, true_and, and_true, w, true_implies, not_true_eq_false, not_false_eq_true, false_implies]
      refine kI_mono (hm _) (fun r2 h3 hf => ?_) (fun _ _ hf => hf.elim)
      obtain ⟨rfl, I3, J3, rfl, m0, mJ, hS⟩ := hf
      refine t273_641 ?_
      simp only [LM_ hK.m, true_and]
      refine e172 (t172_0 ?_)
      simp only [LM_ hK.m, true_and, m0, kIi]
      refine t273_647 ?_
      have e281 : J3 (x + 281) 0 = Int32.toInt64 r2 := by rw [mJ]; exact wrH rfl rfl
      simp (disch := omega) only [LK_ hK, vpT, nI_clamp, e281, lg_self, true_and, and_true, true_implies, not_true_eq_false, false_implies, forall_const]
      exact nx I3 J3 z l ex _ _ hS (by omega) (by omega)
  · have eb := lo b hbx
    refine t273_615 ?_
    by_cases w : I0 b (i + 2) = nI 0
    · rw [if_pos w] at hpb
      subst hpb
      simp (disch := omega) only [h30, hLs, eb, vpT, nI_add, nI_clamp, LM_ hK.m, true_and, and_true, w, true_implies, not_true_eq_false, not_false_eq_true, false_implies]
      refine kI_mono (hm _) (fun r2 h3 hf => ?_) (fun _ _ hf => hf.elim)
      obtain ⟨-, I3, J3, rfl, m0, mJ, hS⟩ := hf
      refine t273_641 ?_
      simp only [LM_ hK.m, true_and]
      refine e172 (t172_0 ?_)
      simp only [LM_ hK.m, true_and, m0, kIi]
      refine t273_647 ?_
      have nq : (nI q = nI 0) = False := by rcases hq with rfl | rfl <;> exact eq_false (by decide)
      simp only [nq, true_and, and_true, true_implies, not_true_eq_false, not_false_eq_true, false_implies, forall_const]
      exact nx I3 J3 (z + 1) (l + 6) false _ _ hS (by omega) (by omega)
    · rw [if_neg w] at hpb
      subst hpb
      simp (disch := omega) only [h30, hLs, eb, vpT, nI_add, nI_clamp, LM_ hK.m, true_and, and_true, w, true_implies, not_true_eq_false, not_false_eq_true, false_implies]
      refine kI_mono (hm _) (fun r2 h3 hf => ?_) (fun _ _ hf => hf.elim)
      obtain ⟨-, I3, J3, rfl, m0, mJ, hS⟩ := hf
      refine t273_641 ?_
      simp only [LM_ hK.m, true_and]
      refine e172 (t172_0 ?_)
      simp only [LM_ hK.m, true_and, m0, kIi]
      refine t273_647 ?_
      have nq : (nI q = nI 0) = False := by rcases hq with rfl | rfl <;> exact eq_false (by decide)
      simp only [nq, true_and, and_true, true_implies, not_true_eq_false, not_false_eq_true, false_implies, forall_const]
      exact nx I3 J3 (z + 1) (l + 6) false _ _ hS (by omega) (by omega)
theorem c703 (hK : LK L x) (hc : SC L x b Ls i) (hq : WQ I0 L x 222 20 [.int (I0 b (i + 1)), .int (I0 b (i + 2)), .int (I0 b (i + 3)), .int (I0 b (i + 4))] Int32.toInt64 z l ex c h2) (nx : NX I0 L x b i z l Q) : Wp (cal 60) kc_273 [] Q (703, [some (.ref b), some (.ref x), some (.ref (x + 271)), some (.ref (x + 281)), some (.int (nI i)), l5, l6], [.int c], h2) := by
  obtain ⟨h30, hLs, hbx, hL, hi⟩ := hc
  rcases hq with ⟨rfl, r, I2, J0, rfl, lo, hm⟩ | ⟨q, hq, rfl, I2, J0, rfl, lo, hm⟩
  · have eb := lo b hbx
    refine t273_703 ?_
    simp (disch := omega) only [h30, hLs, eb, vpT, nI_add, nI_clamp, LM_ hK.m, true_and]
    refine kI_mono (hm _) (fun r2 h3 hf => ?_) (fun _ _ hf => hf.elim)
    obtain ⟨rfl, I3, J3, rfl, m0, mJ, hS⟩ := hf
    refine t273_733 ?_
    simp only [LM_ hK.m, true_and]
    refine e172 (t172_0 ?_)
    simp only [LM_ hK.m, true_and, m0, kIi]
    refine t273_739 ?_
    have e281 : J3 (x + 281) 0 = Int32.toInt64 r2 := by rw [mJ]; exact wrH rfl rfl
    simp (disch := omega) only [LK_ hK, vpT, nI_clamp, e281, lg_self, true_and, and_true, true_implies, not_true_eq_false, false_implies, forall_const]
    exact nx I3 J3 z l ex _ _ hS (by omega) (by omega)
  · have eb := lo b hbx
    refine t273_703 ?_
    simp (disch := omega) only [h30, hLs, eb, vpT, nI_add, nI_clamp, LM_ hK.m, true_and]
    refine kI_mono (hm _) (fun r2 h3 hf => ?_) (fun _ _ hf => hf.elim)
    obtain ⟨-, I3, J3, rfl, m0, mJ, hS⟩ := hf
    refine t273_733 ?_
    simp only [LM_ hK.m, true_and]
    refine e172 (t172_0 ?_)
    simp only [LM_ hK.m, true_and, m0, kIi]
    refine t273_739 ?_
    have nq : (nI q = nI 0) = False := by rcases hq with rfl | rfl <;> exact eq_false (by decide)
    simp only [nq, true_and, and_true, true_implies, not_true_eq_false, not_false_eq_true, false_implies, forall_const]
    exact nx I3 J3 (z + 1) (l + 6) false _ _ hS (by omega) (by omega)
theorem c777 (hK : LK L x) (hc : SC L x b Ls i) (hq : WQ I0 L x 224 20 [.int (I0 b (i + 1))] Int32.toInt64 z l ex c h2) (nx : NX I0 L x b i z l Q) : Wp (cal 60) kc_273 [] Q (777, [some (.ref b), some (.ref x), some (.ref (x + 271)), some (.ref (x + 281)), some (.int (nI i)), l5, l6], [.int c], h2) := by
  obtain ⟨h30, hLs, hbx, hL, hi⟩ := hc
  rcases hq with ⟨rfl, r, I2, J0, rfl, lo, hm⟩ | ⟨q, hq, rfl, I2, J0, rfl, lo, hm⟩
  · have eb := lo b hbx
    refine t273_777 ?_
    simp (disch := omega) only [h30, hLs, eb, vpT, nI_add, nI_clamp, LM_ hK.m, true_and]
    refine kI_mono (hm _) (fun r2 h3 hf => ?_) (fun _ _ hf => hf.elim)
    obtain ⟨rfl, I3, J3, rfl, m0, mJ, hS⟩ := hf
    refine t273_789 ?_
    simp only [LM_ hK.m, true_and]
    refine e172 (t172_0 ?_)
    simp only [LM_ hK.m, true_and, m0, kIi]
    refine t273_795 ?_
    have e281 : J3 (x + 281) 0 = Int32.toInt64 r2 := by rw [mJ]; exact wrH rfl rfl
    simp (disch := omega) only [LK_ hK, vpT, nI_clamp, e281, lg_self, true_and, and_true, true_implies, not_true_eq_false, false_implies, forall_const]
    exact nx I3 J3 z l ex _ _ hS (by omega) (by omega)
  · have eb := lo b hbx
    refine t273_777 ?_
    simp (disch := omega) only [h30, hLs, eb, vpT, nI_add, nI_clamp, LM_ hK.m, true_and]
    refine kI_mono (hm _) (fun r2 h3 hf => ?_) (fun _ _ hf => hf.elim)
    obtain ⟨-, I3, J3, rfl, m0, mJ, hS⟩ := hf
    refine t273_789 ?_
    simp only [LM_ hK.m, true_and]
    refine e172 (t172_0 ?_)
    simp only [LM_ hK.m, true_and, m0, kIi]
    refine t273_795 ?_
    have nq : (nI q = nI 0) = False := by rcases hq with rfl | rfl <;> exact eq_false (by decide)
    simp only [nq, true_and, and_true, true_implies, not_true_eq_false, not_false_eq_true, false_implies, forall_const]
    exact nx I3 J3 (z + 1) (l + 6) false _ _ hS (by omega) (by omega)
theorem c845 (hK : LK L x) (hc : SC L x b Ls i) (hq : WQ I0 L x 226 20 [.int (I0 b (i + 1)), .int (I0 b (i + 2)), .int (I0 b (i + 3))] Int32.toInt64 z l ex c h2) (nx : NX I0 L x b i z l Q) : Wp (cal 60) kc_273 [] Q (845, [some (.ref b), some (.ref x), some (.ref (x + 271)), some (.ref (x + 281)), some (.int (nI i)), l5, l6], [.int c], h2) := by
  obtain ⟨h30, hLs, hbx, hL, hi⟩ := hc
  rcases hq with ⟨rfl, r, I2, J0, rfl, lo, hm⟩ | ⟨q, hq, rfl, I2, J0, rfl, lo, hm⟩
  · have eb := lo b hbx
    refine t273_845 ?_
    simp (disch := omega) only [h30, hLs, eb, vpT, nI_add, nI_clamp, LM_ hK.m, true_and]
    refine kI_mono (hm _) (fun r2 h3 hf => ?_) (fun _ _ hf => hf.elim)
    obtain ⟨rfl, I3, J3, rfl, m0, mJ, hS⟩ := hf
    refine t273_869 ?_
    simp only [LM_ hK.m, true_and]
    refine e172 (t172_0 ?_)
    simp only [LM_ hK.m, true_and, m0, kIi]
    refine t273_875 ?_
    have e281 : J3 (x + 281) 0 = Int32.toInt64 r2 := by rw [mJ]; exact wrH rfl rfl
    simp (disch := omega) only [LK_ hK, vpT, nI_clamp, e281, lg_self, true_and, and_true, true_implies, not_true_eq_false, false_implies, forall_const]
    exact nx I3 J3 z l ex _ _ hS (by omega) (by omega)
  · have eb := lo b hbx
    refine t273_845 ?_
    simp (disch := omega) only [h30, hLs, eb, vpT, nI_add, nI_clamp, LM_ hK.m, true_and]
    refine kI_mono (hm _) (fun r2 h3 hf => ?_) (fun _ _ hf => hf.elim)
    obtain ⟨-, I3, J3, rfl, m0, mJ, hS⟩ := hf
    refine t273_869 ?_
    simp only [LM_ hK.m, true_and]
    refine e172 (t172_0 ?_)
    simp only [LM_ hK.m, true_and, m0, kIi]
    refine t273_875 ?_
    have nq : (nI q = nI 0) = False := by rcases hq with rfl | rfl <;> exact eq_false (by decide)
    simp only [nq, true_and, and_true, true_implies, not_true_eq_false, not_false_eq_true, false_implies, forall_const]
    exact nx I3 J3 (z + 1) (l + 6) false _ _ hS (by omega) (by omega)
theorem c925 (hK : LK L x) (hc : SC L x b Ls i) (hq : WQ I0 L x 227 20 [.int (I0 b (i + 1)), .int (I0 b (i + 2)), .int (I0 b (i + 3))] Int32.toInt64 z l ex c h2) (nx : NX I0 L x b i z l Q) : Wp (cal 60) kc_273 [] Q (925, [some (.ref b), some (.ref x), some (.ref (x + 271)), some (.ref (x + 281)), some (.int (nI i)), l5, l6], [.int c], h2) := by
  obtain ⟨h30, hLs, hbx, hL, hi⟩ := hc
  rcases hq with ⟨rfl, r, I2, J0, rfl, lo, hm⟩ | ⟨q, hq, rfl, I2, J0, rfl, lo, hm⟩
  · have eb := lo b hbx
    refine t273_925 ?_
    simp (disch := omega) only [h30, hLs, eb, vpT, nI_add, nI_clamp, LM_ hK.m, true_and]
    refine kI_mono (hm _) (fun r2 h3 hf => ?_) (fun _ _ hf => hf.elim)
    obtain ⟨rfl, I3, J3, rfl, m0, mJ, hS⟩ := hf
    refine t273_949 ?_
    simp only [LM_ hK.m, true_and]
    refine e172 (t172_0 ?_)
    simp only [LM_ hK.m, true_and, m0, kIi]
    refine t273_955 ?_
    have e281 : J3 (x + 281) 0 = Int32.toInt64 r2 := by rw [mJ]; exact wrH rfl rfl
    simp (disch := omega) only [LK_ hK, vpT, nI_clamp, e281, lg_self, true_and, and_true, true_implies, not_true_eq_false, false_implies, forall_const]
    exact nx I3 J3 z l ex _ _ hS (by omega) (by omega)
  · have eb := lo b hbx
    refine t273_925 ?_
    simp (disch := omega) only [h30, hLs, eb, vpT, nI_add, nI_clamp, LM_ hK.m, true_and]
    refine kI_mono (hm _) (fun r2 h3 hf => ?_) (fun _ _ hf => hf.elim)
    obtain ⟨-, I3, J3, rfl, m0, mJ, hS⟩ := hf
    refine t273_949 ?_
    simp only [LM_ hK.m, true_and]
    refine e172 (t172_0 ?_)
    simp only [LM_ hK.m, true_and, m0, kIi]
    refine t273_955 ?_
    have nq : (nI q = nI 0) = False := by rcases hq with rfl | rfl <;> exact eq_false (by decide)
    simp only [nq, true_and, and_true, true_implies, not_true_eq_false, not_false_eq_true, false_implies, forall_const]
    exact nx I3 J3 (z + 1) (l + 6) false _ _ hS (by omega) (by omega)
theorem c1007 {pb : Int32} (hK : LK L x) (hc : SC L x b Ls i) (hpb : pb = if I0 b (i + 1) = nI 0 then nI 0 else nI 1) (hq : WQ I0 L x 228 20 [.int pb, .int (I0 b (i + 2))] Int32.toInt64 z l ex c h2) (nx : NX I0 L x b i z l Q) : Wp (cal 60) kc_273 [] Q (1007, [some (.ref b), some (.ref x), some (.ref (x + 271)), some (.ref (x + 281)), some (.int (nI i)), l5, l6], [.int c], h2) := by
  obtain ⟨h30, hLs, hbx, hL, hi⟩ := hc
  rcases hq with ⟨rfl, r, I2, J0, rfl, lo, hm⟩ | ⟨q, hq, rfl, I2, J0, rfl, lo, hm⟩
  · have eb := lo b hbx
    refine t273_1007 ?_
    by_cases w : I0 b (i + 1) = nI 0
    · rw [if_pos w] at hpb
      subst hpb
      simp (disch := omega) only [h30, hLs, eb, vpT, nI_add, nI_clamp, LM_ hK.m, true_and, and_true, w, true_implies, not_true_eq_false, not_false_eq_true, false_implies]
      refine t273_1024 ?_
      simp (disch := omega) only [h30, hLs, eb, vpT, nI_add, nI_clamp, LM_ hK.m, true_and]
      refine kI_mono (hm _) (fun r2 h3 hf => ?_) (fun _ _ hf => hf.elim)
      obtain ⟨rfl, I3, J3, rfl, m0, mJ, hS⟩ := hf
      refine t273_1033 ?_
      simp only [LM_ hK.m, true_and]
      refine e172 (t172_0 ?_)
      simp only [LM_ hK.m, true_and, m0, kIi]
      refine t273_1039 ?_
      have e281 : J3 (x + 281) 0 = Int32.toInt64 r2 := by rw [mJ]; exact wrH rfl rfl
      simp (disch := omega) only [LK_ hK, vpT, nI_clamp, e281, lg_self, true_and, and_true, true_implies, not_true_eq_false, false_implies, forall_const]
      exact nx I3 J3 z l ex _ _ hS (by omega) (by omega)
    · rw [if_neg w] at hpb
      subst hpb
      simp (disch := omega) only [h30, hLs, eb, vpT, nI_add, nI_clamp, LM_ hK.m, true_and, and_true, w, true_implies, not_true_eq_false, not_false_eq_true, false_implies]
      refine t273_1024 ?_
      simp (disch := omega) only [h30, hLs, eb, vpT, nI_add, nI_clamp, LM_ hK.m, true_and]
      refine kI_mono (hm _) (fun r2 h3 hf => ?_) (fun _ _ hf => hf.elim)
      obtain ⟨rfl, I3, J3, rfl, m0, mJ, hS⟩ := hf
      refine t273_1033 ?_
      simp only [LM_ hK.m, true_and]
      refine e172 (t172_0 ?_)
      simp only [LM_ hK.m, true_and, m0, kIi]
      refine t273_1039 ?_
      have e281 : J3 (x + 281) 0 = Int32.toInt64 r2 := by rw [mJ]; exact wrH rfl rfl
      simp (disch := omega) only [LK_ hK, vpT, nI_clamp, e281, lg_self, true_and, and_true, true_implies, not_true_eq_false, false_implies, forall_const]
      exact nx I3 J3 z l ex _ _ hS (by omega) (by omega)
  · have eb := lo b hbx
    refine t273_1007 ?_
    by_cases w : I0 b (i + 1) = nI 0
    · rw [if_pos w] at hpb
      subst hpb
      simp (disch := omega) only [h30, hLs, eb, vpT, nI_add, nI_clamp, LM_ hK.m, true_and, and_true, w, true_implies, not_true_eq_false, not_false_eq_true, false_implies]
      refine t273_1024 ?_
      simp (disch := omega) only [h30, hLs, eb, vpT, nI_add, nI_clamp, LM_ hK.m, true_and]
      refine kI_mono (hm _) (fun r2 h3 hf => ?_) (fun _ _ hf => hf.elim)
      obtain ⟨-, I3, J3, rfl, m0, mJ, hS⟩ := hf
      refine t273_1033 ?_
      simp only [LM_ hK.m, true_and]
      refine e172 (t172_0 ?_)
      simp only [LM_ hK.m, true_and, m0, kIi]
      refine t273_1039 ?_
      have nq : (nI q = nI 0) = False := by rcases hq with rfl | rfl <;> exact eq_false (by decide)
      simp only [nq, true_and, and_true, true_implies, not_true_eq_false, not_false_eq_true, false_implies, forall_const]
      exact nx I3 J3 (z + 1) (l + 6) false _ _ hS (by omega) (by omega)
    · rw [if_neg w] at hpb
      subst hpb
      simp (disch := omega) only [h30, hLs, eb, vpT, nI_add, nI_clamp, LM_ hK.m, true_and, and_true, w, true_implies, not_true_eq_false, not_false_eq_true, false_implies]
      refine t273_1024 ?_
      simp (disch := omega) only [h30, hLs, eb, vpT, nI_add, nI_clamp, LM_ hK.m, true_and]
      refine kI_mono (hm _) (fun r2 h3 hf => ?_) (fun _ _ hf => hf.elim)
      obtain ⟨-, I3, J3, rfl, m0, mJ, hS⟩ := hf
      refine t273_1033 ?_
      simp only [LM_ hK.m, true_and]
      refine e172 (t172_0 ?_)
      simp only [LM_ hK.m, true_and, m0, kIi]
      refine t273_1039 ?_
      have nq : (nI q = nI 0) = False := by rcases hq with rfl | rfl <;> exact eq_false (by decide)
      simp only [nq, true_and, and_true, true_implies, not_true_eq_false, not_false_eq_true, false_implies, forall_const]
      exact nx I3 J3 (z + 1) (l + 6) false _ _ hS (by omega) (by omega)
theorem c1083 (hK : LK L x) (hc : SC L x b Ls i) (hq : WQ I0 L x 263 20 [.int (I0 b (i + 1)), .int (I0 b (i + 2))] Int32.toInt64 z l ex c h2) (nx : NX I0 L x b i z l Q) : Wp (cal 60) kc_273 [] Q (1083, [some (.ref b), some (.ref x), some (.ref (x + 271)), some (.ref (x + 281)), some (.int (nI i)), l5, l6], [.int c], h2) := by
  obtain ⟨h30, hLs, hbx, hL, hi⟩ := hc
  rcases hq with ⟨rfl, r, I2, J0, rfl, lo, hm⟩ | ⟨q, hq, rfl, I2, J0, rfl, lo, hm⟩
  · have eb := lo b hbx
    refine t273_1083 ?_
    simp (disch := omega) only [h30, hLs, eb, vpT, nI_add, nI_clamp, LM_ hK.m, true_and]
    refine kI_mono (hm _) (fun r2 h3 hf => ?_) (fun _ _ hf => hf.elim)
    obtain ⟨rfl, I3, J3, rfl, m0, mJ, hS⟩ := hf
    refine t273_1101 ?_
    simp only [LM_ hK.m, true_and]
    refine e172 (t172_0 ?_)
    simp only [LM_ hK.m, true_and, m0, kIi]
    refine t273_1107 ?_
    have e281 : J3 (x + 281) 0 = Int32.toInt64 r2 := by rw [mJ]; exact wrH rfl rfl
    simp (disch := omega) only [LK_ hK, vpT, nI_clamp, e281, lg_self, true_and, and_true, true_implies, not_true_eq_false, false_implies, forall_const]
    exact nx I3 J3 z l ex _ _ hS (by omega) (by omega)
  · have eb := lo b hbx
    refine t273_1083 ?_
    simp (disch := omega) only [h30, hLs, eb, vpT, nI_add, nI_clamp, LM_ hK.m, true_and]
    refine kI_mono (hm _) (fun r2 h3 hf => ?_) (fun _ _ hf => hf.elim)
    obtain ⟨-, I3, J3, rfl, m0, mJ, hS⟩ := hf
    refine t273_1101 ?_
    simp only [LM_ hK.m, true_and]
    refine e172 (t172_0 ?_)
    simp only [LM_ hK.m, true_and, m0, kIi]
    refine t273_1107 ?_
    have nq : (nI q = nI 0) = False := by rcases hq with rfl | rfl <;> exact eq_false (by decide)
    simp only [nq, true_and, and_true, true_implies, not_true_eq_false, not_false_eq_true, false_implies, forall_const]
    exact nx I3 J3 (z + 1) (l + 6) false _ _ hS (by omega) (by omega)
theorem c1151 (hK : LK L x) (hc : SC L x b Ls i) (hq : WQ I0 L x 264 20 [.int (I0 b (i + 1)), .int (I0 b (i + 2))] Int32.toInt64 z l ex c h2) (nx : NX I0 L x b i z l Q) : Wp (cal 60) kc_273 [] Q (1151, [some (.ref b), some (.ref x), some (.ref (x + 271)), some (.ref (x + 281)), some (.int (nI i)), l5, l6], [.int c], h2) := by
  obtain ⟨h30, hLs, hbx, hL, hi⟩ := hc
  rcases hq with ⟨rfl, r, I2, J0, rfl, lo, hm⟩ | ⟨q, hq, rfl, I2, J0, rfl, lo, hm⟩
  · have eb := lo b hbx
    refine t273_1151 ?_
    simp (disch := omega) only [h30, hLs, eb, vpT, nI_add, nI_clamp, LM_ hK.m, true_and]
    refine kI_mono (hm _) (fun r2 h3 hf => ?_) (fun _ _ hf => hf.elim)
    obtain ⟨rfl, I3, J3, rfl, m0, mJ, hS⟩ := hf
    refine t273_1169 ?_
    simp only [LM_ hK.m, true_and]
    refine e172 (t172_0 ?_)
    simp only [LM_ hK.m, true_and, m0, kIi]
    refine t273_1175 ?_
    have e281 : J3 (x + 281) 0 = Int32.toInt64 r2 := by rw [mJ]; exact wrH rfl rfl
    simp (disch := omega) only [LK_ hK, vpT, nI_clamp, e281, lg_self, true_and, and_true, true_implies, not_true_eq_false, false_implies, forall_const]
    exact nx I3 J3 z l ex _ _ hS (by omega) (by omega)
  · have eb := lo b hbx
    refine t273_1151 ?_
    simp (disch := omega) only [h30, hLs, eb, vpT, nI_add, nI_clamp, LM_ hK.m, true_and]
    refine kI_mono (hm _) (fun r2 h3 hf => ?_) (fun _ _ hf => hf.elim)
    obtain ⟨-, I3, J3, rfl, m0, mJ, hS⟩ := hf
    refine t273_1169 ?_
    simp only [LM_ hK.m, true_and]
    refine e172 (t172_0 ?_)
    simp only [LM_ hK.m, true_and, m0, kIi]
    refine t273_1175 ?_
    have nq : (nI q = nI 0) = False := by rcases hq with rfl | rfl <;> exact eq_false (by decide)
    simp only [nq, true_and, and_true, true_implies, not_true_eq_false, not_false_eq_true, false_implies, forall_const]
    exact nx I3 J3 (z + 1) (l + 6) false _ _ hS (by omega) (by omega)
theorem c1213 (hK : LK L x) (hc : SC L x b Ls i) (hq : WQ I0 L x 265 20 [.int (I0 b (i + 1))] Int32.toInt64 z l ex c h2) (nx : NX I0 L x b i z l Q) : Wp (cal 60) kc_273 [] Q (1213, [some (.ref b), some (.ref x), some (.ref (x + 271)), some (.ref (x + 281)), some (.int (nI i)), l5, l6], [.int c], h2) := by
  obtain ⟨h30, hLs, hbx, hL, hi⟩ := hc
  rcases hq with ⟨rfl, r, I2, J0, rfl, lo, hm⟩ | ⟨q, hq, rfl, I2, J0, rfl, lo, hm⟩
  · have eb := lo b hbx
    refine t273_1213 ?_
    simp (disch := omega) only [h30, hLs, eb, vpT, nI_add, nI_clamp, LM_ hK.m, true_and]
    refine kI_mono (hm _) (fun r2 h3 hf => ?_) (fun _ _ hf => hf.elim)
    obtain ⟨rfl, I3, J3, rfl, m0, mJ, hS⟩ := hf
    refine t273_1225 ?_
    simp only [LM_ hK.m, true_and]
    refine e172 (t172_0 ?_)
    simp only [LM_ hK.m, true_and, m0, kIi]
    refine t273_1231 ?_
    have e281 : J3 (x + 281) 0 = Int32.toInt64 r2 := by rw [mJ]; exact wrH rfl rfl
    simp (disch := omega) only [LK_ hK, vpT, nI_clamp, e281, lg_self, true_and, and_true, true_implies, not_true_eq_false, false_implies, forall_const]
    exact nx I3 J3 z l ex _ _ hS (by omega) (by omega)
  · have eb := lo b hbx
    refine t273_1213 ?_
    simp (disch := omega) only [h30, hLs, eb, vpT, nI_add, nI_clamp, LM_ hK.m, true_and]
    refine kI_mono (hm _) (fun r2 h3 hf => ?_) (fun _ _ hf => hf.elim)
    obtain ⟨-, I3, J3, rfl, m0, mJ, hS⟩ := hf
    refine t273_1225 ?_
    simp only [LM_ hK.m, true_and]
    refine e172 (t172_0 ?_)
    simp only [LM_ hK.m, true_and, m0, kIi]
    refine t273_1231 ?_
    have nq : (nI q = nI 0) = False := by rcases hq with rfl | rfl <;> exact eq_false (by decide)
    simp only [nq, true_and, and_true, true_implies, not_true_eq_false, not_false_eq_true, false_implies, forall_const]
    exact nx I3 J3 (z + 1) (l + 6) false _ _ hS (by omega) (by omega)
theorem c1275 (hK : LK L x) (hc : SC L x b Ls i) (hq : WQ I0 L x 266 20 [.int (I0 b (i + 1)), .int (I0 b (i + 2))] Int32.toInt64 z l ex c h2) (nx : NX I0 L x b i z l Q) : Wp (cal 60) kc_273 [] Q (1275, [some (.ref b), some (.ref x), some (.ref (x + 271)), some (.ref (x + 281)), some (.int (nI i)), l5, l6], [.int c], h2) := by
  obtain ⟨h30, hLs, hbx, hL, hi⟩ := hc
  rcases hq with ⟨rfl, r, I2, J0, rfl, lo, hm⟩ | ⟨q, hq, rfl, I2, J0, rfl, lo, hm⟩
  · have eb := lo b hbx
    refine t273_1275 ?_
    simp (disch := omega) only [h30, hLs, eb, vpT, nI_add, nI_clamp, LM_ hK.m, true_and]
    refine kI_mono (hm _) (fun r2 h3 hf => ?_) (fun _ _ hf => hf.elim)
    obtain ⟨rfl, I3, J3, rfl, m0, mJ, hS⟩ := hf
    refine t273_1293 ?_
    simp only [LM_ hK.m, true_and]
    refine e172 (t172_0 ?_)
    simp only [LM_ hK.m, true_and, m0, kIi]
    refine t273_1299 ?_
    have e281 : J3 (x + 281) 0 = Int32.toInt64 r2 := by rw [mJ]; exact wrH rfl rfl
    simp (disch := omega) only [LK_ hK, vpT, nI_clamp, e281, lg_self, true_and, and_true, true_implies, not_true_eq_false, false_implies, forall_const]
    exact nx I3 J3 z l ex _ _ hS (by omega) (by omega)
  · have eb := lo b hbx
    refine t273_1275 ?_
    simp (disch := omega) only [h30, hLs, eb, vpT, nI_add, nI_clamp, LM_ hK.m, true_and]
    refine kI_mono (hm _) (fun r2 h3 hf => ?_) (fun _ _ hf => hf.elim)
    obtain ⟨-, I3, J3, rfl, m0, mJ, hS⟩ := hf
    refine t273_1293 ?_
    simp only [LM_ hK.m, true_and]
    refine e172 (t172_0 ?_)
    simp only [LM_ hK.m, true_and, m0, kIi]
    refine t273_1299 ?_
    have nq : (nI q = nI 0) = False := by rcases hq with rfl | rfl <;> exact eq_false (by decide)
    simp only [nq, true_and, and_true, true_implies, not_true_eq_false, not_false_eq_true, false_implies, forall_const]
    exact nx I3 J3 (z + 1) (l + 6) false _ _ hS (by omega) (by omega)
theorem c1355 (hK : LK L x) (hc : SC L x b Ls i) (hq : WQ I0 L x 269 20 [.int (I0 b (i + 1)), .int (I0 b (i + 2)), .int (I0 b (i + 3)), .int (I0 b (i + 4))] Int32.toInt64 z l ex c h2) (nx : NX I0 L x b i z l Q) : Wp (cal 60) kc_273 [] Q (1355, [some (.ref b), some (.ref x), some (.ref (x + 271)), some (.ref (x + 281)), some (.int (nI i)), l5, l6], [.int c], h2) := by
  obtain ⟨h30, hLs, hbx, hL, hi⟩ := hc
  rcases hq with ⟨rfl, r, I2, J0, rfl, lo, hm⟩ | ⟨q, hq, rfl, I2, J0, rfl, lo, hm⟩
  · have eb := lo b hbx
    refine t273_1355 ?_
    simp (disch := omega) only [h30, hLs, eb, vpT, nI_add, nI_clamp, LM_ hK.m, true_and]
    refine kI_mono (hm _) (fun r2 h3 hf => ?_) (fun _ _ hf => hf.elim)
    obtain ⟨rfl, I3, J3, rfl, m0, mJ, hS⟩ := hf
    refine t273_1385 ?_
    simp only [LM_ hK.m, true_and]
    refine e172 (t172_0 ?_)
    simp only [LM_ hK.m, true_and, m0, kIi]
    refine t273_1391 ?_
    have e281 : J3 (x + 281) 0 = Int32.toInt64 r2 := by rw [mJ]; exact wrH rfl rfl
    simp (disch := omega) only [LK_ hK, vpT, nI_clamp, e281, lg_self, true_and, and_true, true_implies, not_true_eq_false, false_implies, forall_const]
    exact nx I3 J3 z l ex _ _ hS (by omega) (by omega)
  · have eb := lo b hbx
    refine t273_1355 ?_
    simp (disch := omega) only [h30, hLs, eb, vpT, nI_add, nI_clamp, LM_ hK.m, true_and]
    refine kI_mono (hm _) (fun r2 h3 hf => ?_) (fun _ _ hf => hf.elim)
    obtain ⟨-, I3, J3, rfl, m0, mJ, hS⟩ := hf
    refine t273_1385 ?_
    simp only [LM_ hK.m, true_and]
    refine e172 (t172_0 ?_)
    simp only [LM_ hK.m, true_and, m0, kIi]
    refine t273_1391 ?_
    have nq : (nI q = nI 0) = False := by rcases hq with rfl | rfl <;> exact eq_false (by decide)
    simp only [nq, true_and, and_true, true_implies, not_true_eq_false, not_false_eq_true, false_implies, forall_const]
    exact nx I3 J3 (z + 1) (l + 6) false _ _ hS (by omega) (by omega)
theorem c1429 (hK : LK L x) (hc : SC L x b Ls i) (hq : WQ I0 L x 229 20 [.int (I0 b (i + 1))] Int32.toInt64 z l ex c h2) (nx : NX I0 L x b i z l Q) : Wp (cal 60) kc_273 [] Q (1429, [some (.ref b), some (.ref x), some (.ref (x + 271)), some (.ref (x + 281)), some (.int (nI i)), l5, l6], [.int c], h2) := by
  obtain ⟨h30, hLs, hbx, hL, hi⟩ := hc
  rcases hq with ⟨rfl, r, I2, J0, rfl, lo, hm⟩ | ⟨q, hq, rfl, I2, J0, rfl, lo, hm⟩
  · have eb := lo b hbx
    refine t273_1429 ?_
    simp (disch := omega) only [h30, hLs, eb, vpT, nI_add, nI_clamp, LM_ hK.m, true_and]
    refine kI_mono (hm _) (fun r2 h3 hf => ?_) (fun _ _ hf => hf.elim)
    obtain ⟨rfl, I3, J3, rfl, m0, mJ, hS⟩ := hf
    refine t273_1441 ?_
    simp only [LM_ hK.m, true_and]
    refine e172 (t172_0 ?_)
    simp only [LM_ hK.m, true_and, m0, kIi]
    refine t273_1447 ?_
    have e281 : J3 (x + 281) 0 = Int32.toInt64 r2 := by rw [mJ]; exact wrH rfl rfl
    simp (disch := omega) only [LK_ hK, vpT, nI_clamp, e281, lg_self, true_and, and_true, true_implies, not_true_eq_false, false_implies, forall_const]
    exact nx I3 J3 z l ex _ _ hS (by omega) (by omega)
  · have eb := lo b hbx
    refine t273_1429 ?_
    simp (disch := omega) only [h30, hLs, eb, vpT, nI_add, nI_clamp, LM_ hK.m, true_and]
    refine kI_mono (hm _) (fun r2 h3 hf => ?_) (fun _ _ hf => hf.elim)
    obtain ⟨-, I3, J3, rfl, m0, mJ, hS⟩ := hf
    refine t273_1441 ?_
    simp only [LM_ hK.m, true_and]
    refine e172 (t172_0 ?_)
    simp only [LM_ hK.m, true_and, m0, kIi]
    refine t273_1447 ?_
    have nq : (nI q = nI 0) = False := by rcases hq with rfl | rfl <;> exact eq_false (by decide)
    simp only [nq, true_and, and_true, true_implies, not_true_eq_false, not_false_eq_true, false_implies, forall_const]
    exact nx I3 J3 (z + 1) (l + 6) false _ _ hS (by omega) (by omega)
theorem c1491 (hK : LK L x) (hc : SC L x b Ls i) (hq : WQ I0 L x 234 20 [.int (I0 b (i + 1)), .int (I0 b (i + 2))] Int32.toInt64 z l ex c h2) (nx : NX I0 L x b i z l Q) : Wp (cal 60) kc_273 [] Q (1491, [some (.ref b), some (.ref x), some (.ref (x + 271)), some (.ref (x + 281)), some (.int (nI i)), l5, l6], [.int c], h2) := by
  obtain ⟨h30, hLs, hbx, hL, hi⟩ := hc
  rcases hq with ⟨rfl, r, I2, J0, rfl, lo, hm⟩ | ⟨q, hq, rfl, I2, J0, rfl, lo, hm⟩
  · have eb := lo b hbx
    refine t273_1491 ?_
    simp (disch := omega) only [h30, hLs, eb, vpT, nI_add, nI_clamp, LM_ hK.m, true_and]
    refine kI_mono (hm _) (fun r2 h3 hf => ?_) (fun _ _ hf => hf.elim)
    obtain ⟨rfl, I3, J3, rfl, m0, mJ, hS⟩ := hf
    refine t273_1509 ?_
    simp only [LM_ hK.m, true_and]
    refine e172 (t172_0 ?_)
    simp only [LM_ hK.m, true_and, m0, kIi]
    refine t273_1515 ?_
    have e281 : J3 (x + 281) 0 = Int32.toInt64 r2 := by rw [mJ]; exact wrH rfl rfl
    simp (disch := omega) only [LK_ hK, vpT, nI_clamp, e281, lg_self, true_and, and_true, true_implies, not_true_eq_false, false_implies, forall_const]
    exact nx I3 J3 z l ex _ _ hS (by omega) (by omega)
  · have eb := lo b hbx
    refine t273_1491 ?_
    simp (disch := omega) only [h30, hLs, eb, vpT, nI_add, nI_clamp, LM_ hK.m, true_and]
    refine kI_mono (hm _) (fun r2 h3 hf => ?_) (fun _ _ hf => hf.elim)
    obtain ⟨-, I3, J3, rfl, m0, mJ, hS⟩ := hf
    refine t273_1509 ?_
    simp only [LM_ hK.m, true_and]
    refine e172 (t172_0 ?_)
    simp only [LM_ hK.m, true_and, m0, kIi]
    refine t273_1515 ?_
    have nq : (nI q = nI 0) = False := by rcases hq with rfl | rfl <;> exact eq_false (by decide)
    simp only [nq, true_and, and_true, true_implies, not_true_eq_false, not_false_eq_true, false_implies, forall_const]
    exact nx I3 J3 (z + 1) (l + 6) false _ _ hS (by omega) (by omega)
theorem c1594 (hK : LK L x) (hc : SC L x b Ls i) (hq : WQ I0 L x 236 20 [.int (I0 b (i + 1))] Int32.toInt64 z l ex c h2) (nx : NX I0 L x b i z l Q) : Wp (cal 60) kc_273 [] Q (1594, [some (.ref b), some (.ref x), some (.ref (x + 271)), some (.ref (x + 281)), some (.int (nI i)), l5, l6], [.int c], h2) := by
  obtain ⟨h30, hLs, hbx, hL, hi⟩ := hc
  rcases hq with ⟨rfl, r, I2, J0, rfl, lo, hm⟩ | ⟨q, hq, rfl, I2, J0, rfl, lo, hm⟩
  · have eb := lo b hbx
    refine t273_1594 ?_
    simp (disch := omega) only [h30, hLs, eb, vpT, nI_add, nI_clamp, LM_ hK.m, true_and]
    refine kI_mono (hm _) (fun r2 h3 hf => ?_) (fun _ _ hf => hf.elim)
    obtain ⟨rfl, I3, J3, rfl, m0, mJ, hS⟩ := hf
    refine t273_1606 ?_
    simp only [LM_ hK.m, true_and]
    refine e172 (t172_0 ?_)
    simp only [LM_ hK.m, true_and, m0, kIi]
    refine t273_1612 ?_
    have e281 : J3 (x + 281) 0 = Int32.toInt64 r2 := by rw [mJ]; exact wrH rfl rfl
    simp (disch := omega) only [LK_ hK, vpT, nI_clamp, e281, lg_self, true_and, and_true, true_implies, not_true_eq_false, false_implies, forall_const]
    exact nx I3 J3 z l ex _ _ hS (by omega) (by omega)
  · have eb := lo b hbx
    refine t273_1594 ?_
    simp (disch := omega) only [h30, hLs, eb, vpT, nI_add, nI_clamp, LM_ hK.m, true_and]
    refine kI_mono (hm _) (fun r2 h3 hf => ?_) (fun _ _ hf => hf.elim)
    obtain ⟨-, I3, J3, rfl, m0, mJ, hS⟩ := hf
    refine t273_1606 ?_
    simp only [LM_ hK.m, true_and]
    refine e172 (t172_0 ?_)
    simp only [LM_ hK.m, true_and, m0, kIi]
    refine t273_1612 ?_
    have nq : (nI q = nI 0) = False := by rcases hq with rfl | rfl <;> exact eq_false (by decide)
    simp only [nq, true_and, and_true, true_implies, not_true_eq_false, not_false_eq_true, false_implies, forall_const]
    exact nx I3 J3 (z + 1) (l + 6) false _ _ hS (by omega) (by omega)
theorem c1650 (hK : LK L x) (hc : SC L x b Ls i) (hq : WQ I0 L x 237 20 [.int (I0 b (i + 1))] Int32.toInt64 z l ex c h2) (nx : NX I0 L x b i z l Q) : Wp (cal 60) kc_273 [] Q (1650, [some (.ref b), some (.ref x), some (.ref (x + 271)), some (.ref (x + 281)), some (.int (nI i)), l5, l6], [.int c], h2) := by
  obtain ⟨h30, hLs, hbx, hL, hi⟩ := hc
  rcases hq with ⟨rfl, r, I2, J0, rfl, lo, hm⟩ | ⟨q, hq, rfl, I2, J0, rfl, lo, hm⟩
  · have eb := lo b hbx
    refine t273_1650 ?_
    simp (disch := omega) only [h30, hLs, eb, vpT, nI_add, nI_clamp, LM_ hK.m, true_and]
    refine kI_mono (hm _) (fun r2 h3 hf => ?_) (fun _ _ hf => hf.elim)
    obtain ⟨rfl, I3, J3, rfl, m0, mJ, hS⟩ := hf
    refine t273_1662 ?_
    simp only [LM_ hK.m, true_and]
    refine e172 (t172_0 ?_)
    simp only [LM_ hK.m, true_and, m0, kIi]
    refine t273_1668 ?_
    have e281 : J3 (x + 281) 0 = Int32.toInt64 r2 := by rw [mJ]; exact wrH rfl rfl
    simp (disch := omega) only [LK_ hK, vpT, nI_clamp, e281, lg_self, true_and, and_true, true_implies, not_true_eq_false, false_implies, forall_const]
    exact nx I3 J3 z l ex _ _ hS (by omega) (by omega)
  · have eb := lo b hbx
    refine t273_1650 ?_
    simp (disch := omega) only [h30, hLs, eb, vpT, nI_add, nI_clamp, LM_ hK.m, true_and]
    refine kI_mono (hm _) (fun r2 h3 hf => ?_) (fun _ _ hf => hf.elim)
    obtain ⟨-, I3, J3, rfl, m0, mJ, hS⟩ := hf
    refine t273_1662 ?_
    simp only [LM_ hK.m, true_and]
    refine e172 (t172_0 ?_)
    simp only [LM_ hK.m, true_and, m0, kIi]
    refine t273_1668 ?_
    have nq : (nI q = nI 0) = False := by rcases hq with rfl | rfl <;> exact eq_false (by decide)
    simp only [nq, true_and, and_true, true_implies, not_true_eq_false, not_false_eq_true, false_implies, forall_const]
    exact nx I3 J3 (z + 1) (l + 6) false _ _ hS (by omega) (by omega)
theorem c1741 {y : Int64} (hK : LK L x) (hc : SC L x b Ls i) (hy : y = ((I0 b (i + 1)).toInt64 <<< ((nI 32).toInt64 &&& 63) ||| (I0 b (i + 2)).toInt64 &&& 4294967295)) (hq : WQ I0 L x 239 20 [.long y, .int (I0 b (i + 3))] Int32.toInt64 z l ex c h2) (nx : NX I0 L x b i z l Q) : Wp (cal 60) kc_273 [] Q (1741, [some (.ref b), some (.ref x), some (.ref (x + 271)), some (.ref (x + 281)), some (.int (nI i)), l5, l6], [.int c], h2) := by
  obtain ⟨h30, hLs, hbx, hL, hi⟩ := hc
  rcases hq with ⟨rfl, r, I2, J0, rfl, lo, hm⟩ | ⟨q, hq, rfl, I2, J0, rfl, lo, hm⟩
  · have eb := lo b hbx
    refine t273_1741 ?_
    subst hy
    simp (disch := omega) only [h30, hLs, eb, vpT, nI_add, nI_clamp, LM_ hK.m, true_and]
    refine kI_mono (hm _) (fun r2 h3 hf => ?_) (fun _ _ hf => hf.elim)
    obtain ⟨rfl, I3, J3, rfl, m0, mJ, hS⟩ := hf
    refine t273_1775 ?_
    simp only [LM_ hK.m, true_and]
    refine e172 (t172_0 ?_)
    simp only [LM_ hK.m, true_and, m0, kIi]
    refine t273_1781 ?_
    have e281 : J3 (x + 281) 0 = Int32.toInt64 r2 := by rw [mJ]; exact wrH rfl rfl
    simp (disch := omega) only [LK_ hK, vpT, nI_clamp, e281, lg_self, true_and, and_true, true_implies, not_true_eq_false, false_implies, forall_const]
    exact nx I3 J3 z l ex _ _ hS (by omega) (by omega)
  · have eb := lo b hbx
    refine t273_1741 ?_
    subst hy
    simp (disch := omega) only [h30, hLs, eb, vpT, nI_add, nI_clamp, LM_ hK.m, true_and]
    refine kI_mono (hm _) (fun r2 h3 hf => ?_) (fun _ _ hf => hf.elim)
    obtain ⟨-, I3, J3, rfl, m0, mJ, hS⟩ := hf
    refine t273_1775 ?_
    simp only [LM_ hK.m, true_and]
    refine e172 (t172_0 ?_)
    simp only [LM_ hK.m, true_and, m0, kIi]
    refine t273_1781 ?_
    have nq : (nI q = nI 0) = False := by rcases hq with rfl | rfl <;> exact eq_false (by decide)
    simp only [nq, true_and, and_true, true_implies, not_true_eq_false, not_false_eq_true, false_implies, forall_const]
    exact nx I3 J3 (z + 1) (l + 6) false _ _ hS (by omega) (by omega)
theorem c1835 {y : Int64} (hK : LK L x) (hc : SC L x b Ls i) (hy : y = ((I0 b (i + 1)).toInt64 <<< ((nI 32).toInt64 &&& 63) ||| (I0 b (i + 2)).toInt64 &&& 4294967295)) (hq : WQ I0 L x 241 20 [.long y] (fun r => if r = nI 0 then 0 else 1) z l ex c h2) (nx : NX I0 L x b i z l Q) : Wp (cal 60) kc_273 [] Q (1835, [some (.ref b), some (.ref x), some (.ref (x + 271)), some (.ref (x + 281)), some (.int (nI i)), l5, l6], [.int c], h2) := by
  obtain ⟨h30, hLs, hbx, hL, hi⟩ := hc
  rcases hq with ⟨rfl, r, I2, J0, rfl, lo, hm⟩ | ⟨q, hq, rfl, I2, J0, rfl, lo, hm⟩
  · have eb := lo b hbx
    refine t273_1835 ?_
    subst hy
    simp (disch := omega) only [h30, hLs, eb, vpT, nI_add, nI_clamp, LM_ hK.m, true_and]
    refine kI_mono (hm _) (fun r2 h3 hf => ?_) (fun _ _ hf => hf.elim)
    obtain ⟨rfl, I3, J3, rfl, m0, mJ, hS⟩ := hf
    refine t273_1863 ?_
    simp only [LM_ hK.m, true_and]
    refine e172 (t172_0 ?_)
    simp only [LM_ hK.m, true_and, m0, kIi]
    refine t273_1869 ?_
    have e281 : J3 (x + 281) 0 = if r2 = nI 0 then 0 else 1 := by rw [mJ]; exact wrH rfl rfl
    by_cases v : r2 = nI 0
    · rw [if_pos v] at e281
      simp (disch := omega) only [LK_ hK, vpT, nI_clamp, e281, v, true_and, and_true, true_implies, not_true_eq_false, false_implies, forall_const]
      refine t273_1894 ?_
      simp only [lg_self, true_implies, not_true_eq_false, false_implies, and_true]
      exact nx I3 J3 z l ex _ _ hS (by omega) (by omega)
    · rw [if_neg v] at e281
      simp (disch := omega) only [LK_ hK, vpT, nI_clamp, e281, v, true_and, and_true, true_implies, not_true_eq_false, not_false_eq_true, false_implies, forall_const]
      refine t273_1894 ?_
      simp only [lg_self, true_implies, not_true_eq_false, false_implies, and_true]
      exact nx I3 J3 z l ex _ _ hS (by omega) (by omega)
  · have eb := lo b hbx
    refine t273_1835 ?_
    subst hy
    simp (disch := omega) only [h30, hLs, eb, vpT, nI_add, nI_clamp, LM_ hK.m, true_and]
    refine kI_mono (hm _) (fun r2 h3 hf => ?_) (fun _ _ hf => hf.elim)
    obtain ⟨-, I3, J3, rfl, m0, mJ, hS⟩ := hf
    refine t273_1863 ?_
    simp only [LM_ hK.m, true_and]
    refine e172 (t172_0 ?_)
    simp only [LM_ hK.m, true_and, m0, kIi]
    refine t273_1869 ?_
    have nq : (nI q = nI 0) = False := by rcases hq with rfl | rfl <;> exact eq_false (by decide)
    simp only [nq, true_and, and_true, true_implies, not_true_eq_false, not_false_eq_true, false_implies, forall_const]
    exact nx I3 J3 (z + 1) (l + 6) false _ _ hS (by omega) (by omega)
theorem c1914 (hK : LK L x) (hc : SC L x b Ls i) (hq : WQ I0 L x 242 20 [.int (I0 b (i + 1))] Int32.toInt64 z l ex c h2) (nx : NX I0 L x b i z l Q) : Wp (cal 60) kc_273 [] Q (1914, [some (.ref b), some (.ref x), some (.ref (x + 271)), some (.ref (x + 281)), some (.int (nI i)), l5, l6], [.int c], h2) := by
  obtain ⟨h30, hLs, hbx, hL, hi⟩ := hc
  rcases hq with ⟨rfl, r, I2, J0, rfl, lo, hm⟩ | ⟨q, hq, rfl, I2, J0, rfl, lo, hm⟩
  · have eb := lo b hbx
    refine t273_1914 ?_
    simp (disch := omega) only [h30, hLs, eb, vpT, nI_add, nI_clamp, LM_ hK.m, true_and]
    refine kI_mono (hm _) (fun r2 h3 hf => ?_) (fun _ _ hf => hf.elim)
    obtain ⟨rfl, I3, J3, rfl, m0, mJ, hS⟩ := hf
    refine t273_1926 ?_
    simp only [LM_ hK.m, true_and]
    refine e172 (t172_0 ?_)
    simp only [LM_ hK.m, true_and, m0, kIi]
    refine t273_1932 ?_
    have e281 : J3 (x + 281) 0 = Int32.toInt64 r2 := by rw [mJ]; exact wrH rfl rfl
    simp (disch := omega) only [LK_ hK, vpT, nI_clamp, e281, lg_self, true_and, and_true, true_implies, not_true_eq_false, false_implies, forall_const]
    exact nx I3 J3 z l ex _ _ hS (by omega) (by omega)
  · have eb := lo b hbx
    refine t273_1914 ?_
    simp (disch := omega) only [h30, hLs, eb, vpT, nI_add, nI_clamp, LM_ hK.m, true_and]
    refine kI_mono (hm _) (fun r2 h3 hf => ?_) (fun _ _ hf => hf.elim)
    obtain ⟨-, I3, J3, rfl, m0, mJ, hS⟩ := hf
    refine t273_1926 ?_
    simp only [LM_ hK.m, true_and]
    refine e172 (t172_0 ?_)
    simp only [LM_ hK.m, true_and, m0, kIi]
    refine t273_1932 ?_
    have nq : (nI q = nI 0) = False := by rcases hq with rfl | rfl <;> exact eq_false (by decide)
    simp only [nq, true_and, and_true, true_implies, not_true_eq_false, not_false_eq_true, false_implies, forall_const]
    exact nx I3 J3 (z + 1) (l + 6) false _ _ hS (by omega) (by omega)
theorem c1989 (hK : LK L x) (hc : SC L x b Ls i) (hq : WQ I0 L x 249 20 [.int (I0 b (i + 1)), .int (I0 b (i + 2))] Int32.toInt64 z l ex c h2) (nx : NX I0 L x b i z l Q) : Wp (cal 60) kc_273 [] Q (1989, [some (.ref b), some (.ref x), some (.ref (x + 271)), some (.ref (x + 281)), some (.int (nI i)), l5, l6], [.int c], h2) := by
  obtain ⟨h30, hLs, hbx, hL, hi⟩ := hc
  rcases hq with ⟨rfl, r, I2, J0, rfl, lo, hm⟩ | ⟨q, hq, rfl, I2, J0, rfl, lo, hm⟩
  · have eb := lo b hbx
    refine t273_1989 ?_
    simp (disch := omega) only [h30, hLs, eb, vpT, nI_add, nI_clamp, LM_ hK.m, true_and]
    refine kI_mono (hm _) (fun r2 h3 hf => ?_) (fun _ _ hf => hf.elim)
    obtain ⟨rfl, I3, J3, rfl, m0, mJ, hS⟩ := hf
    refine t273_2007 ?_
    simp only [LM_ hK.m, true_and]
    refine e172 (t172_0 ?_)
    simp only [LM_ hK.m, true_and, m0, kIi]
    refine t273_2013 ?_
    have e281 : J3 (x + 281) 0 = Int32.toInt64 r2 := by rw [mJ]; exact wrH rfl rfl
    simp (disch := omega) only [LK_ hK, vpT, nI_clamp, e281, lg_self, true_and, and_true, true_implies, not_true_eq_false, false_implies, forall_const]
    exact nx I3 J3 z l ex _ _ hS (by omega) (by omega)
  · have eb := lo b hbx
    refine t273_1989 ?_
    simp (disch := omega) only [h30, hLs, eb, vpT, nI_add, nI_clamp, LM_ hK.m, true_and]
    refine kI_mono (hm _) (fun r2 h3 hf => ?_) (fun _ _ hf => hf.elim)
    obtain ⟨-, I3, J3, rfl, m0, mJ, hS⟩ := hf
    refine t273_2007 ?_
    simp only [LM_ hK.m, true_and]
    refine e172 (t172_0 ?_)
    simp only [LM_ hK.m, true_and, m0, kIi]
    refine t273_2013 ?_
    have nq : (nI q = nI 0) = False := by rcases hq with rfl | rfl <;> exact eq_false (by decide)
    simp only [nq, true_and, and_true, true_implies, not_true_eq_false, not_false_eq_true, false_implies, forall_const]
    exact nx I3 J3 (z + 1) (l + 6) false _ _ hS (by omega) (by omega)
theorem c2051 (hK : LK L x) (hc : SC L x b Ls i) (hq : WQ I0 L x 251 20 [.int (I0 b (i + 1))] Int32.toInt64 z l ex c h2) (nx : NX I0 L x b i z l Q) : Wp (cal 60) kc_273 [] Q (2051, [some (.ref b), some (.ref x), some (.ref (x + 271)), some (.ref (x + 281)), some (.int (nI i)), l5, l6], [.int c], h2) := by
  obtain ⟨h30, hLs, hbx, hL, hi⟩ := hc
  rcases hq with ⟨rfl, r, I2, J0, rfl, lo, hm⟩ | ⟨q, hq, rfl, I2, J0, rfl, lo, hm⟩
  · have eb := lo b hbx
    refine t273_2051 ?_
    simp (disch := omega) only [h30, hLs, eb, vpT, nI_add, nI_clamp, LM_ hK.m, true_and]
    refine kI_mono (hm _) (fun r2 h3 hf => ?_) (fun _ _ hf => hf.elim)
    obtain ⟨rfl, I3, J3, rfl, m0, mJ, hS⟩ := hf
    refine t273_2063 ?_
    simp only [LM_ hK.m, true_and]
    refine e172 (t172_0 ?_)
    simp only [LM_ hK.m, true_and, m0, kIi]
    refine t273_2069 ?_
    have e281 : J3 (x + 281) 0 = Int32.toInt64 r2 := by rw [mJ]; exact wrH rfl rfl
    simp (disch := omega) only [LK_ hK, vpT, nI_clamp, e281, lg_self, true_and, and_true, true_implies, not_true_eq_false, false_implies, forall_const]
    exact nx I3 J3 z l ex _ _ hS (by omega) (by omega)
  · have eb := lo b hbx
    refine t273_2051 ?_
    simp (disch := omega) only [h30, hLs, eb, vpT, nI_add, nI_clamp, LM_ hK.m, true_and]
    refine kI_mono (hm _) (fun r2 h3 hf => ?_) (fun _ _ hf => hf.elim)
    obtain ⟨-, I3, J3, rfl, m0, mJ, hS⟩ := hf
    refine t273_2063 ?_
    simp only [LM_ hK.m, true_and]
    refine e172 (t172_0 ?_)
    simp only [LM_ hK.m, true_and, m0, kIi]
    refine t273_2069 ?_
    have nq : (nI q = nI 0) = False := by rcases hq with rfl | rfl <;> exact eq_false (by decide)
    simp only [nq, true_and, and_true, true_implies, not_true_eq_false, not_false_eq_true, false_implies, forall_const]
    exact nx I3 J3 (z + 1) (l + 6) false _ _ hS (by omega) (by omega)
theorem c2113 (hK : LK L x) (hc : SC L x b Ls i) (hq : WQ I0 L x 254 20 [.int (I0 b (i + 1)), .int (I0 b (i + 2))] Int32.toInt64 z l ex c h2) (nx : NX I0 L x b i z l Q) : Wp (cal 60) kc_273 [] Q (2113, [some (.ref b), some (.ref x), some (.ref (x + 271)), some (.ref (x + 281)), some (.int (nI i)), l5, l6], [.int c], h2) := by
  obtain ⟨h30, hLs, hbx, hL, hi⟩ := hc
  rcases hq with ⟨rfl, r, I2, J0, rfl, lo, hm⟩ | ⟨q, hq, rfl, I2, J0, rfl, lo, hm⟩
  · have eb := lo b hbx
    refine t273_2113 ?_
    simp (disch := omega) only [h30, hLs, eb, vpT, nI_add, nI_clamp, LM_ hK.m, true_and]
    refine kI_mono (hm _) (fun r2 h3 hf => ?_) (fun _ _ hf => hf.elim)
    obtain ⟨rfl, I3, J3, rfl, m0, mJ, hS⟩ := hf
    refine t273_2131 ?_
    simp only [LM_ hK.m, true_and]
    refine e172 (t172_0 ?_)
    simp only [LM_ hK.m, true_and, m0, kIi]
    refine t273_2137 ?_
    have e281 : J3 (x + 281) 0 = Int32.toInt64 r2 := by rw [mJ]; exact wrH rfl rfl
    simp (disch := omega) only [LK_ hK, vpT, nI_clamp, e281, lg_self, true_and, and_true, true_implies, not_true_eq_false, false_implies, forall_const]
    exact nx I3 J3 z l ex _ _ hS (by omega) (by omega)
  · have eb := lo b hbx
    refine t273_2113 ?_
    simp (disch := omega) only [h30, hLs, eb, vpT, nI_add, nI_clamp, LM_ hK.m, true_and]
    refine kI_mono (hm _) (fun r2 h3 hf => ?_) (fun _ _ hf => hf.elim)
    obtain ⟨-, I3, J3, rfl, m0, mJ, hS⟩ := hf
    refine t273_2131 ?_
    simp only [LM_ hK.m, true_and]
    refine e172 (t172_0 ?_)
    simp only [LM_ hK.m, true_and, m0, kIi]
    refine t273_2137 ?_
    have nq : (nI q = nI 0) = False := by rcases hq with rfl | rfl <;> exact eq_false (by decide)
    simp only [nq, true_and, and_true, true_implies, not_true_eq_false, not_false_eq_true, false_implies, forall_const]
    exact nx I3 J3 (z + 1) (l + 6) false _ _ hS (by omega) (by omega)
theorem c2181 (hK : LK L x) (hc : SC L x b Ls i) (hq : WQ I0 L x 255 20 [.int (I0 b (i + 1)), .int (I0 b (i + 2))] Int32.toInt64 z l ex c h2) (nx : NX I0 L x b i z l Q) : Wp (cal 60) kc_273 [] Q (2181, [some (.ref b), some (.ref x), some (.ref (x + 271)), some (.ref (x + 281)), some (.int (nI i)), l5, l6], [.int c], h2) := by
  obtain ⟨h30, hLs, hbx, hL, hi⟩ := hc
  rcases hq with ⟨rfl, r, I2, J0, rfl, lo, hm⟩ | ⟨q, hq, rfl, I2, J0, rfl, lo, hm⟩
  · have eb := lo b hbx
    refine t273_2181 ?_
    simp (disch := omega) only [h30, hLs, eb, vpT, nI_add, nI_clamp, LM_ hK.m, true_and]
    refine kI_mono (hm _) (fun r2 h3 hf => ?_) (fun _ _ hf => hf.elim)
    obtain ⟨rfl, I3, J3, rfl, m0, mJ, hS⟩ := hf
    refine t273_2199 ?_
    simp only [LM_ hK.m, true_and]
    refine e172 (t172_0 ?_)
    simp only [LM_ hK.m, true_and, m0, kIi]
    refine t273_2205 ?_
    have e281 : J3 (x + 281) 0 = Int32.toInt64 r2 := by rw [mJ]; exact wrH rfl rfl
    simp (disch := omega) only [LK_ hK, vpT, nI_clamp, e281, lg_self, true_and, and_true, true_implies, not_true_eq_false, false_implies, forall_const]
    exact nx I3 J3 z l ex _ _ hS (by omega) (by omega)
  · have eb := lo b hbx
    refine t273_2181 ?_
    simp (disch := omega) only [h30, hLs, eb, vpT, nI_add, nI_clamp, LM_ hK.m, true_and]
    refine kI_mono (hm _) (fun r2 h3 hf => ?_) (fun _ _ hf => hf.elim)
    obtain ⟨-, I3, J3, rfl, m0, mJ, hS⟩ := hf
    refine t273_2199 ?_
    simp only [LM_ hK.m, true_and]
    refine e172 (t172_0 ?_)
    simp only [LM_ hK.m, true_and, m0, kIi]
    refine t273_2205 ?_
    have nq : (nI q = nI 0) = False := by rcases hq with rfl | rfl <;> exact eq_false (by decide)
    simp only [nq, true_and, and_true, true_implies, not_true_eq_false, not_false_eq_true, false_implies, forall_const]
    exact nx I3 J3 (z + 1) (l + 6) false _ _ hS (by omega) (by omega)
theorem c2249 (hK : LK L x) (hc : SC L x b Ls i) (hq : WQ I0 L x 258 20 [.int (I0 b (i + 1)), .int (I0 b (i + 2))] Int32.toInt64 z l ex c h2) (nx : NX I0 L x b i z l Q) : Wp (cal 60) kc_273 [] Q (2249, [some (.ref b), some (.ref x), some (.ref (x + 271)), some (.ref (x + 281)), some (.int (nI i)), l5, l6], [.int c], h2) := by
  obtain ⟨h30, hLs, hbx, hL, hi⟩ := hc
  rcases hq with ⟨rfl, r, I2, J0, rfl, lo, hm⟩ | ⟨q, hq, rfl, I2, J0, rfl, lo, hm⟩
  · have eb := lo b hbx
    refine t273_2249 ?_
    simp (disch := omega) only [h30, hLs, eb, vpT, nI_add, nI_clamp, LM_ hK.m, true_and]
    refine kI_mono (hm _) (fun r2 h3 hf => ?_) (fun _ _ hf => hf.elim)
    obtain ⟨rfl, I3, J3, rfl, m0, mJ, hS⟩ := hf
    refine t273_2267 ?_
    simp only [LM_ hK.m, true_and]
    refine e172 (t172_0 ?_)
    simp only [LM_ hK.m, true_and, m0, kIi]
    refine t273_2273 ?_
    have e281 : J3 (x + 281) 0 = Int32.toInt64 r2 := by rw [mJ]; exact wrH rfl rfl
    simp (disch := omega) only [LK_ hK, vpT, nI_clamp, e281, lg_self, true_and, and_true, true_implies, not_true_eq_false, false_implies, forall_const]
    exact nx I3 J3 z l ex _ _ hS (by omega) (by omega)
  · have eb := lo b hbx
    refine t273_2249 ?_
    simp (disch := omega) only [h30, hLs, eb, vpT, nI_add, nI_clamp, LM_ hK.m, true_and]
    refine kI_mono (hm _) (fun r2 h3 hf => ?_) (fun _ _ hf => hf.elim)
    obtain ⟨-, I3, J3, rfl, m0, mJ, hS⟩ := hf
    refine t273_2267 ?_
    simp only [LM_ hK.m, true_and]
    refine e172 (t172_0 ?_)
    simp only [LM_ hK.m, true_and, m0, kIi]
    refine t273_2273 ?_
    have nq : (nI q = nI 0) = False := by rcases hq with rfl | rfl <;> exact eq_false (by decide)
    simp only [nq, true_and, and_true, true_implies, not_true_eq_false, not_false_eq_true, false_implies, forall_const]
    exact nx I3 J3 (z + 1) (l + 6) false _ _ hS (by omega) (by omega)
theorem c234 {r : Int32} (hK : LK L x) (hc : SC L x b Ls i) (hq : MD I0 L x 177 20 [.int (I0 b (i + 1)), .int (I0 b (i + 2)), .int (I0 b (i + 3)), .int (I0 b (i + 4)), .int (I0 b (i + 5))] (fun r2 => r2 = r) 0 (z, l, ex) h2) (nx : NX I0 L x b i z l Q) : Wp (cal 60) kc_273 [] Q (234, [some (.ref b), some (.ref x), some (.ref (x + 271)), some (.ref (x + 281)), some (.int (nI i)), l5, l6], [.int r], h2) := by
  obtain ⟨h30, hLs, hbx, hL, hi⟩ := hc
  obtain ⟨I2, J0, rfl, lo, hm⟩ := hq
  have eb := lo b hbx
  refine t273_234 ?_
  simp (disch := omega) only [h30, hLs, eb, vpT, nI_add, nI_clamp, LM_ hK.m, true_and]
  refine kI_mono (hm _) (fun r2 h3 hf => ?_) (fun _ _ hf => hf.elim)
  obtain ⟨rfl, I3, J3, rfl, m0, mJ, hS⟩ := hf
  refine t273_268 ⟨fun _ => nx I3 J3 z l ex _ _ hS (by omega) (by omega), fun q => absurd rfl q⟩
theorem c333 {r : Int32} (hK : LK L x) (hc : SC L x b Ls i) (hq : MD I0 L x 193 20 [] (fun r2 => r2 = r) 0 (z, l, ex) h2) (nx : NX I0 L x b i z l Q) : Wp (cal 60) kc_273 [] Q (333, [some (.ref b), some (.ref x), some (.ref (x + 271)), some (.ref (x + 281)), some (.int (nI i)), l5, l6], [.int r], h2) := by
  obtain ⟨h30, hLs, hbx, hL, hi⟩ := hc
  obtain ⟨I2, J0, rfl, lo, hm⟩ := hq
  have eb := lo b hbx
  refine t273_333 ?_
  simp (disch := omega) only [h30, hLs, eb, vpT, nI_add, nI_clamp, LM_ hK.m, true_and]
  refine kI_mono (hm _) (fun r2 h3 hf => ?_) (fun _ _ hf => hf.elim)
  obtain ⟨rfl, I3, J3, rfl, m0, mJ, hS⟩ := hf
  refine t273_337 ⟨fun _ => nx I3 J3 z l ex _ _ hS (by omega) (by omega), fun q => absurd rfl q⟩
theorem c1560 {r : Int32} {pb : Int32} (hK : LK L x) (hc : SC L x b Ls i) (hpb : pb = if I0 b (i + 1) = nI 0 then nI 0 else nI 1) (hq : MD I0 L x 235 20 [.int pb] (fun r2 => r2 = r) 0 (z, l, ex) h2) (nx : NX I0 L x b i z l Q) : Wp (cal 60) kc_273 [] Q (1560, [some (.ref b), some (.ref x), some (.ref (x + 271)), some (.ref (x + 281)), some (.int (nI i)), l5, l6], [.int r], h2) := by
  obtain ⟨h30, hLs, hbx, hL, hi⟩ := hc
  obtain ⟨I2, J0, rfl, lo, hm⟩ := hq
  have eb := lo b hbx
  refine t273_1560 ?_
  by_cases w : I0 b (i + 1) = nI 0
  · rw [if_pos w] at hpb
    subst hpb
    simp (disch := omega) only [h30, hLs, eb, vpT, nI_add, nI_clamp, LM_ hK.m, true_and, and_true, w, true_implies, not_true_eq_false, not_false_eq_true, false_implies]
    refine kI_mono (hm _) (fun r2 h3 hf => ?_) (fun _ _ hf => hf.elim)
    obtain ⟨rfl, I3, J3, rfl, m0, mJ, hS⟩ := hf
    refine t273_1578 ⟨fun _ => nx I3 J3 z l ex _ _ hS (by omega) (by omega), fun q => absurd rfl q⟩
  · rw [if_neg w] at hpb
    subst hpb
    simp (disch := omega) only [h30, hLs, eb, vpT, nI_add, nI_clamp, LM_ hK.m, true_and, and_true, w, true_implies, not_true_eq_false, not_false_eq_true, false_implies]
    refine kI_mono (hm _) (fun r2 h3 hf => ?_) (fun _ _ hf => hf.elim)
    obtain ⟨rfl, I3, J3, rfl, m0, mJ, hS⟩ := hf
    refine t273_1578 ⟨fun _ => nx I3 J3 z l ex _ _ hS (by omega) (by omega), fun q => absurd rfl q⟩
theorem c1699 {r : Int32} (hK : LK L x) (hc : SC L x b Ls i) (hq : MD I0 L x 238 20 [] (fun r2 => r2 = r) 0 (z, l, ex) h2) (nx : NX I0 L x b i z l Q) : Wp (cal 60) kc_273 [] Q (1699, [some (.ref b), some (.ref x), some (.ref (x + 271)), some (.ref (x + 281)), some (.int (nI i)), l5, l6], [.int r], h2) := by
  obtain ⟨h30, hLs, hbx, hL, hi⟩ := hc
  obtain ⟨I2, J0, rfl, lo, hm⟩ := hq
  have eb := lo b hbx
  refine t273_1699 ?_
  simp (disch := omega) only [h30, hLs, eb, vpT, nI_add, nI_clamp, LM_ hK.m, true_and]
  refine kI_mono (hm _) (fun r2 h3 hf => ?_) (fun _ _ hf => hf.elim)
  obtain ⟨rfl, I3, J3, rfl, m0, mJ, hS⟩ := hf
  refine t273_1703 ⟨fun _ => nx I3 J3 z l ex _ _ hS (by omega) (by omega), fun q => absurd rfl q⟩
theorem c1963 {r : Int32} (hK : LK L x) (hc : SC L x b Ls i) (hq : MD I0 L x 246 20 [] (fun r2 => r2 = r) 0 (z, l, ex) h2) (nx : NX I0 L x b i z l Q) : Wp (cal 60) kc_273 [] Q (1963, [some (.ref b), some (.ref x), some (.ref (x + 271)), some (.ref (x + 281)), some (.int (nI i)), l5, l6], [.int r], h2) := by
  obtain ⟨h30, hLs, hbx, hL, hi⟩ := hc
  obtain ⟨I2, J0, rfl, lo, hm⟩ := hq
  have eb := lo b hbx
  refine t273_1963 ?_
  simp (disch := omega) only [h30, hLs, eb, vpT, nI_add, nI_clamp, LM_ hK.m, true_and]
  refine kI_mono (hm _) (fun r2 h3 hf => ?_) (fun _ _ hf => hf.elim)
  obtain ⟨rfl, I3, J3, rfl, m0, mJ, hS⟩ := hf
  refine t273_1967 ⟨fun _ => nx I3 J3 z l ex _ _ hS (by omega) (by omega), fun q => absurd rfl q⟩
theorem c2304 {r : Int32} (hK : LK L x) (hc : SC L x b Ls i) (hq : MD I0 L x 176 20 [] (fun r2 => r2 = r) 0 (z, l, ex) h2) (nx : NX I0 L x b i z l Q) : Wp (cal 60) kc_273 [] Q (2304, [some (.ref b), some (.ref x), some (.ref (x + 271)), some (.ref (x + 281)), some (.int (nI i)), l5, l6], [.int r], h2) := by
  obtain ⟨h30, hLs, hbx, hL, hi⟩ := hc
  obtain ⟨I2, J0, rfl, lo, hm⟩ := hq
  have eb := lo b hbx
  refine t273_2304 ?_
  simp (disch := omega) only [h30, hLs, eb, vpT, nI_add, nI_clamp, LM_ hK.m, true_and]
  refine kI_mono (hm _) (fun r2 h3 hf => ?_) (fun _ _ hf => hf.elim)
  obtain ⟨rfl, I3, J3, rfl, m0, mJ, hS⟩ := hf
  refine t273_2308 ⟨fun _ => nx I3 J3 z l ex _ _ hS (by omega) (by omega), fun q => absurd rfl q⟩
theorem c2317 {r : Int32} (hK : LK L x) (hc : SC L x b Ls i) (hq : MD I0 L x 259 20 [] (fun r2 => r2 = r) 0 (z, l, ex) h2) (nx : NX I0 L x b i z l Q) : Wp (cal 60) kc_273 [] Q (2317, [some (.ref b), some (.ref x), some (.ref (x + 271)), some (.ref (x + 281)), some (.int (nI i)), l5, l6], [.int r], h2) := by
  obtain ⟨h30, hLs, hbx, hL, hi⟩ := hc
  obtain ⟨I2, J0, rfl, lo, hm⟩ := hq
  have eb := lo b hbx
  refine t273_2317 ?_
  simp (disch := omega) only [h30, hLs, eb, vpT, nI_add, nI_clamp, LM_ hK.m, true_and]
  refine kI_mono (hm _) (fun r2 h3 hf => ?_) (fun _ _ hf => hf.elim)
  obtain ⟨rfl, I3, J3, rfl, m0, mJ, hS⟩ := hf
  refine t273_2321 ⟨fun _ => nx I3 J3 z l ex _ _ hS (by omega) (by omega), fun q => absurd rfl q⟩
theorem c2336 {r : Int32} (hK : LK L x) (hc : SC L x b Ls i) (hq : MD I0 L x 262 20 [.int (I0 b (i + 1))] (fun r2 => r2 = r) 0 (z, l, ex) h2) (nx : NX I0 L x b i z l Q) : Wp (cal 60) kc_273 [] Q (2336, [some (.ref b), some (.ref x), some (.ref (x + 271)), some (.ref (x + 281)), some (.int (nI i)), l5, l6], [.int r], h2) := by
  obtain ⟨h30, hLs, hbx, hL, hi⟩ := hc
  obtain ⟨I2, J0, rfl, lo, hm⟩ := hq
  have eb := lo b hbx
  refine t273_2336 ?_
  simp (disch := omega) only [h30, hLs, eb, vpT, nI_add, nI_clamp, LM_ hK.m, true_and]
  refine kI_mono (hm _) (fun r2 h3 hf => ?_) (fun _ _ hf => hf.elim)
  obtain ⟨rfl, I3, J3, rfl, m0, mJ, hS⟩ := hf
  refine t273_2346 ⟨fun _ => nx I3 J3 z l ex _ _ hS (by omega) (by omega), fun q => absurd rfl q⟩
theorem law_step (hK : LK L x) (hc : SC L x b Ls i) (hW : WS L I0 x) (hS : ST I0 I x) (nx : NX I0 L x b i z l Q) : Wp (cal 60) kc_273 [] Q (23, [some (.ref b), some (.ref x), some (.ref (x + 271)), some (.ref (x + 281)), some (.int (nI i)), l5, l6], [], (L, I, J, z, l, ex)) := by
  have hc0 := hc
  obtain ⟨h30, hLs, hbx, hL, hi⟩ := hc
  obtain ⟨n, sn, dn, ac, fi, tp, sd, h⟩ := hS
  have eb : I b = I0 b := h.2.2.2.2 b hbx
  have e6 : (nI Ls - nI 6 < nI i) = False := by rw [subN (by omega), nI_ltI (by omega) (by omega)]; exact eq_false (by omega)
  refine t273_23 ?_
  simp (disch := omega) only [h30, hLs, eb, e6, vpT, nI_add, nI_clamp, LK_ hK, true_and, and_true, true_implies, false_implies, not_false_eq_true, or_true, true_or]
  refine ⟨fun _ => kI_mono (P_feed (d := 20) (e := 20) hK h) (fun _ _ hq => c234 hK hc0 hq nx) (fun q h2 hm => hm.elim (fun w => n9 w.2.1) (fun w => n9 w.2.1)), fun _ => ?_⟩
  refine ⟨fun _ => kI_mono (wq61 (d := 19) (e := 20) hK (P_board hK hW h)) (fun _ _ hq => c284 hK hc0 hq nx) (fun _ _ hf => hf.elim), fun _ => ?_⟩
  refine ⟨fun _ => kI_mono (P_fault (d := 20) (e := 20) hK h) (fun _ _ hq => c333 hK hc0 hq nx) (fun q h2 hm => hm.elim (fun w => n9 w.2.1) (fun w => n9 w.2.1)), fun _ => ?_⟩
  refine ⟨fun _ => kI_mono (wq81 (d := 19) (e := 20) hK (P_count hK h)) (fun _ _ hq => c353 hK hc0 hq nx) (fun _ _ hf => hf.elim), fun _ => ?_⟩
  refine ⟨fun _ => kI_mono (wq88 (d := 19) (e := 20) hK (P_craft hK h)) (fun _ _ hq => c415 hK hc0 hq nx) (fun _ _ hf => hf.elim), fun _ => ?_⟩
  refine ⟨fun _ => kI_mono (wq95 (d := 19) (e := 20) hK (P_planned hK h)) (fun _ _ hq => c477 hK hc0 hq nx) (fun _ _ hf => hf.elim), fun _ => ?_⟩
  refine ⟨fun _ => kI_mono (wq97 (d := 19) (e := 20) hK (P_gap hK h)) (fun _ _ hq => c539 hK hc0 hq nx) (fun _ _ hf => hf.elim), fun _ => ?_⟩
  refine ⟨fun _ => ?_, fun _ => ?_⟩
  · by_cases w : I0 b (i + 2) = nI 0
    · simp (disch := omega) only [w, true_implies, not_true_eq_false, not_false_eq_true, false_implies, and_true, true_and]
      refine t273_611 ?_
      exact kI_mono (wq99 (d := 19) (e := 20) hK (P_closed (en := false) hK h)) (fun _ _ hq => c615 (pb := nI 0) hK hc0 (by rw [if_pos w]) hq nx) (fun _ _ hf => hf.elim)
    · simp (disch := omega) only [w, true_implies, not_true_eq_false, not_false_eq_true, false_implies, and_true, true_and]
      refine t273_611 ?_
      exact kI_mono (wq99 (d := 19) (e := 20) hK (P_closed (en := true) hK h)) (fun _ _ hq => c615 (pb := nI 1) hK hc0 (by rw [if_neg w]) hq nx) (fun _ _ hf => hf.elim)
  refine ⟨fun _ => kI_mono (wq101 (d := 19) (e := 20) hK (P_come hK h)) (fun _ _ hq => c703 hK hc0 hq nx) (fun _ _ hf => hf.elim), fun _ => ?_⟩
  refine ⟨fun _ => kI_mono (wq103 (d := 19) (e := 20) hK (P_go hK h)) (fun _ _ hq => c777 hK hc0 hq nx) (fun _ _ hf => hf.elim), fun _ => ?_⟩
  refine ⟨fun _ => kI_mono (wq107 (d := 19) (e := 20) hK (P_change hK h)) (fun _ _ hq => c845 hK hc0 hq nx) (fun _ _ hf => hf.elim), fun _ => ?_⟩
  refine ⟨fun _ => kI_mono (wq111 (d := 19) (e := 20) hK (P_part hK h)) (fun _ _ hq => c925 hK hc0 hq nx) (fun _ _ hf => hf.elim), fun _ => ?_⟩
  refine ⟨fun _ => ?_, fun _ => ?_⟩
  · by_cases w : I0 b (i + 1) = nI 0
    · simp (disch := omega) only [w, true_implies, not_true_eq_false, not_false_eq_true, false_implies, and_true, true_and]
      refine t273_997 ?_
      simp (disch := omega) only [h30, hLs, eb, vpT, nI_add, nI_clamp, true_and]
      exact kI_mono (wq113 (d := 19) (e := 20) hK (P_rule (fr := false) hK h)) (fun _ _ hq => c1007 (pb := nI 0) hK hc0 (by rw [if_pos w]) hq nx) (fun _ _ hf => hf.elim)
    · simp (disch := omega) only [w, true_implies, not_true_eq_false, not_false_eq_true, false_implies, and_true, true_and]
      refine t273_997 ?_
      simp (disch := omega) only [h30, hLs, eb, vpT, nI_add, nI_clamp, true_and]
      exact kI_mono (wq113 (d := 19) (e := 20) hK (P_rule (fr := true) hK h)) (fun _ _ hq => c1007 (pb := nI 1) hK hc0 (by rw [if_neg w]) hq nx) (fun _ _ hf => hf.elim)
  refine ⟨fun _ => kI_mono (wq115 (d := 19) (e := 20) hK (P_hurry hK h)) (fun _ _ hq => c1083 hK hc0 hq nx) (fun _ _ hf => hf.elim), fun _ => ?_⟩
  refine ⟨fun _ => kI_mono (wq117 (d := 19) (e := 20) hK (P_close hK h)) (fun _ _ hq => c1151 hK hc0 hq nx) (fun _ _ hf => hf.elim), fun _ => ?_⟩
  refine ⟨fun _ => kI_mono (wq119 (d := 19) (e := 20) hK (P_open hK h)) (fun _ _ hq => c1213 hK hc0 hq nx) (fun _ _ hf => hf.elim), fun _ => ?_⟩
  refine ⟨fun _ => kI_mono (wq122 (d := 19) (e := 20) hK (P_loss hK h)) (fun _ _ hq => c1275 hK hc0 hq nx) (fun _ _ hf => hf.elim), fun _ => ?_⟩
  refine ⟨fun _ => kI_mono (wq129 (d := 19) (e := 20) hK (P_day hK h)) (fun _ _ hq => c1355 hK hc0 hq nx) (fun _ _ hf => hf.elim), fun _ => ?_⟩
  refine ⟨fun _ => kI_mono (wq140 (d := 19) (e := 20) hK (P_best hK h)) (fun _ _ hq => c1429 hK hc0 hq nx) (fun _ _ hf => hf.elim), fun _ => ?_⟩
  refine ⟨fun _ => kI_mono (wq142 (d := 19) (e := 20) hK (P_bestAt hK h)) (fun _ _ hq => c1491 hK hc0 hq nx) (fun _ _ hf => hf.elim), fun _ => ?_⟩
  refine ⟨fun _ => ?_, fun _ => ?_⟩
  · by_cases w : I0 b (i + 1) = nI 0
    · simp (disch := omega) only [w, true_implies, not_true_eq_false, not_false_eq_true, false_implies, and_true, true_and]
      exact kI_mono (P_ways (d := 20) (e := 20) (hd := false) hK h) (fun _ _ hq => c1560 (pb := nI 0) hK hc0 (by rw [if_pos w]) hq nx) (fun q h2 hm => hm.elim (fun w => n9 w.2.1) (fun w => n9 w.2.1))
    · simp (disch := omega) only [w, true_implies, not_true_eq_false, not_false_eq_true, false_implies, and_true, true_and]
      exact kI_mono (P_ways (d := 20) (e := 20) (hd := true) hK h) (fun _ _ hq => c1560 (pb := nI 1) hK hc0 (by rw [if_neg w]) hq nx) (fun q h2 hm => hm.elim (fun w => n9 w.2.1) (fun w => n9 w.2.1))
  refine ⟨fun _ => kI_mono (wq144 (d := 19) (e := 20) hK (P_worth hK h)) (fun _ _ hq => c1594 hK hc0 hq nx) (fun _ _ hf => hf.elim), fun _ => ?_⟩
  refine ⟨fun _ => kI_mono (wq146 (d := 19) (e := 20) hK (P_plan hK h)) (fun _ _ hq => c1650 hK hc0 hq nx) (fun _ _ hf => hf.elim), fun _ => ?_⟩
  refine ⟨fun _ => kI_mono (P_byRanks (d := 20) (e := 20) hK h) (fun _ _ hq => c1699 hK hc0 hq nx) (fun q h2 hm => hm.elim (fun w => n9 w.2.1) (fun w => n9 w.2.1)), fun _ => ?_⟩
  refine ⟨fun _ => kI_mono (wq148 (d := 19) (e := 20) hK (P_told hK h)) (fun _ _ hq => c1741 hK hc0 rfl hq nx) (fun _ _ hf => hf.elim), fun _ => ?_⟩
  refine ⟨fun _ => kI_mono (wq151 (d := 19) (e := 20) hK (P_tell hK h)) (fun _ _ hq => c1835 hK hc0 rfl hq nx) (fun _ _ hf => hf.elim), fun _ => ?_⟩
  refine ⟨fun _ => kI_mono (wq153 (d := 19) (e := 20) hK (P_putIn hK h)) (fun _ _ hq => c1914 hK hc0 hq nx) (fun _ _ hf => hf.elim), fun _ => ?_⟩
  refine ⟨fun _ => kI_mono (P_trade (d := 20) (e := 20) hK h) (fun _ _ hq => c1963 hK hc0 hq nx) (fun q h2 hm => hm.elim (fun w => n9 w.2.1) (fun w => n9 w.2.1)), fun _ => ?_⟩
  refine ⟨fun _ => kI_mono (wq155 (d := 19) (e := 20) hK (P_around hK h)) (fun _ _ hq => c1989 hK hc0 hq nx) (fun _ _ hf => hf.elim), fun _ => ?_⟩
  refine ⟨fun _ => kI_mono (wq157 (d := 19) (e := 20) hK (P_goOn hK h)) (fun _ _ hq => c2051 hK hc0 hq nx) (fun _ _ hf => hf.elim), fun _ => ?_⟩
  refine ⟨fun _ => kI_mono (wq159 (d := 19) (e := 20) hK (P_done hK h)) (fun _ _ hq => c2113 hK hc0 hq nx) (fun _ _ hf => hf.elim), fun _ => ?_⟩
  refine ⟨fun _ => kI_mono (wq161 (d := 19) (e := 20) hK (P_hole hK h)) (fun _ _ hq => c2181 hK hc0 hq nx) (fun _ _ hf => hf.elim), fun _ => ?_⟩
  refine ⟨fun _ => kI_mono (wq166 (d := 19) (e := 20) hK (P_sorted hK h)) (fun _ _ hq => c2249 hK hc0 hq nx) (fun _ _ hf => hf.elim), fun _ => ?_⟩
  refine ⟨fun _ => kI_mono (P_undo (d := 20) (e := 20) hK h) (fun _ _ hq => c2304 hK hc0 hq nx) (fun q h2 hm => hm.elim (fun w => n9 w.2.1) (fun w => n9 w.2.1)), fun _ => ?_⟩
  refine ⟨fun _ => kI_mono (P_say (d := 20) (e := 20) hK h) (fun _ _ hq => c2317 hK hc0 hq nx) (fun q h2 hm => hm.elim (fun w => n9 w.2.1) (fun w => n9 w.2.1)), fun _ => ?_⟩
  refine ⟨fun _ => kI_mono (P_said (d := 20) (e := 20) hK h) (fun _ _ hq => c2336 hK hc0 hq nx) (fun q h2 hm => hm.elim (fun w => n9 w.2.1) (fun w => n9 w.2.1)), fun _ => ?_⟩
  exact nx I J z l ex _ _ ⟨n, sn, dn, ac, fi, tp, sd, h⟩ (by omega) (by omega)
end CASES

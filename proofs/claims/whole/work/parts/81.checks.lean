/-! The class's checks, small ones. -/
section CHECKS
variable {d : Nat} {L : hL} {I : Nat → Nat → Int32} {J : Nat → Nat → Int64} {z l : Nat} {ex : Bool} {A : Nat} {F : Int32 → hp → Prop} {G : hp → Prop} {N : Nat → hp → Prop} {X : Nat → hp → Prop} {x lo hi : Int32} {t : tl}
theorem sp_checkArgument (kx : ¬ (lo ≤ x ∧ x ≤ hi) → X 0 (L, I, J, z + 1, l + 6, false)) (k : lo ≤ x → x ≤ hi → G (L, I, J, z, l, ex)) : cal (d + 1) 63 [.int x, .int lo, .int hi] (L, I, J, z, l, ex) (kV G X) := by
  refine e63 (t63_0 ?_)
  simp (disch := omega) only [vpT, nI_leI, nI_ltI, nI_eq, nleT, nleF, nltT, nltF, neqT, neqF, nI_add, pk_mul, subN, divN, nI_clamp, mI1, wrH, wrM1, wrM2, wrowH, wrowM, bI0, bI1, kIi, kVi, kRi, kLi, kIx, kVx, Option.some.injEq, exists_eq_left', true_and, and_true, true_implies, false_implies, implies_true, not_true_eq_false, not_false_eq_true, true_or, or_true, false_or, or_false, forall_eq, iteT, iteF]
  refine ⟨fun h => kx fun q => Int32.not_le.mpr h q.1, fun h => ⟨fun h2 => k (Int32.not_lt.mp h) h2, fun h2 => kx fun q => h2 q.2⟩⟩
theorem sp_checkElement (kx : ¬ (nI 0 ≤ x ∧ x < hi) → X 1 (L, I, J, z + 1, l + 6, false)) (k : nI 0 ≤ x → x < hi → G (L, I, J, z, l, ex)) : cal (d + 1) 83 [.int x, .int hi] (L, I, J, z, l, ex) (kV G X) := by
  refine e83 (t83_0 ?_)
  simp (disch := omega) only [vpT, nI_leI, nI_ltI, nI_eq, nleT, nleF, nltT, nltF, neqT, neqF, nI_add, pk_mul, subN, divN, nI_clamp, mI1, wrH, wrM1, wrM2, wrowH, wrowM, bI0, bI1, kIi, kVi, kRi, kLi, kIx, kVx, Option.some.injEq, exists_eq_left', true_and, and_true, true_implies, false_implies, implies_true, not_true_eq_false, not_false_eq_true, true_or, or_true, false_or, or_false, forall_eq, iteT, iteF]
  refine ⟨fun h => kx fun q => Int32.not_le.mpr h q.1, fun h => ⟨fun h2 => k (Int32.not_lt.mp h) h2, fun h2 => kx fun q => h2 q.2⟩⟩
theorem sp_bit {p : Bool} {h : hp} (k : F (bI p) h) : cal (d + 1) 74 [.int (bI p)] h (kI F X) := by
  refine e74 (t74_0 ?_)
  simp (disch := omega) only [vpT, nI_leI, nI_ltI, nI_eq, nleT, nleF, nltT, nltF, neqT, neqF, nI_add, pk_mul, subN, divN, nI_clamp, mI1, wrH, wrM1, wrM2, wrowH, wrowM, bI0, bI1, kIi, kVi, kRi, kLi, kIx, kVx, Option.some.injEq, exists_eq_left', true_and, and_true, true_implies, false_implies, implies_true, not_true_eq_false, not_false_eq_true, true_or, or_true, false_or, or_false, forall_eq, iteT, iteF]
  refine ⟨fun q => ?_, fun q => ?_⟩
  · rw [q] at k; exact k
  · rw [btf q] at k; exact k
theorem sp_forget (hA : LA L A) (k : G (L, wr I A 2 (nI 0), J, t)) : cal (d + 1) 80 [.ref A] (L, I, J, t) (kV G X) := by
  refine e80 (t80_0 ?_)
  simp (disch := omega) only [vpT, nI_leI, nI_ltI, nI_eq, nleT, nleF, nltT, nltF, neqT, neqF, nI_add, pk_mul, subN, divN, nI_clamp, mI1, wrH, wrM1, wrM2, wrowH, wrowM, bI0, bI1, kIi, kVi, kRi, kLi, kIx, kVx, Option.some.injEq, exists_eq_left', true_and, and_true, true_implies, false_implies, implies_true, not_true_eq_false, not_false_eq_true, true_or, or_true, false_or, or_false, forall_eq, iteT, iteF, hA.1]
  exact k
end CHECKS

/-! The class's search: going deeper. -/
def Pre (S : BS) (n f sh : Nat) (hd : Bool) (k : Nat) (o : Nat → Nat) : Prop := (∀ j, j < k → o j < n) ∧ (∀ i j, i < k → j < k → o i = o j → i = j) ∧ (∀ j, j < k → if j < f then o j = ordN S j else near S n sh (o j) j = true) ∧ (hd = true → ∀ j, j < k → slt S o j ≤ bLa S (o j))
section DEEP
variable {S : BS} {n f sh k c : Nat} {hd : Bool} {o o' : Nat → Nat} {C : (Nat → Nat) → Int32} {L0 L1 L2 : Int32} {f0 f1 f2 : rw1}
theorem Pre.leaf (h : Pre S n f sh hd n o) : Leaf S n f sh hd o := h
theorem Pre.up (h : Pre S n f sh hd k o) (hc : c < n) (hu : usd o k c = false) (hn : if k < f then c = ordN S k else near S n sh c k = true) (hs : hd = true → slt S (upk o k c) k ≤ bLa S c) : Pre S n f sh hd (k + 1) (upk o k c) := by
  obtain ⟨h1, h2, h3, h4⟩ := h
  have ne : ∀ j, j < k + 1 → j ≠ k → j < k := fun j h1 h2 => by omega
  refine ⟨fun j hj => ?_, fun i j hi hj e => ?_, fun j hj => ?_, fun q j hj => ?_⟩
  · by_cases e : j = k
    · rw [e, upk_e]; exact hc
    · rw [upk_n e]; exact h1 j (ne j hj e)
  · by_cases ei : i = k <;> by_cases ej : j = k
    · omega
    · rw [ei, upk_e, upk_n ej] at e
      exact absurd e.symm (usd_f.mp hu j (ne j hj ej))
    · rw [ej, upk_e, upk_n ei] at e
      exact absurd e (usd_f.mp hu i (ne i hi ei))
    · rw [upk_n ei, upk_n ej] at e
      exact h2 i j (ne i hi ei) (ne j hj ej) e
  · by_cases e : j = k
    · rw [e, upk_e]; exact hn
    · rw [upk_n e]; exact h3 j (ne j hj e)
  · by_cases e : j = k
    · rw [e, upk_e]; exact hs q
    · rw [upk_n e, slt_congr (o' := o) (fun i hi => upk_n (by omega))]; exact h4 q j (ne j hj e)
/-- none with c at place k -/
theorem Bst.skip (hc : ∀ o', Sub S n f sh hd k o o' → o' k ≠ c) (h : Bst (fun o' => Sub S n f sh hd k o o' ∧ o' k < c) C n L0 f0 L1 f1) : Bst (fun o' => Sub S n f sh hd k o o' ∧ o' k < c + 1) C n L0 f0 L1 f1 :=
  h.iff fun o' => ⟨fun q => ⟨q.1, by omega⟩, fun q => ⟨q.1, by have := hc o' q.1; omega⟩⟩
theorem Bst.child (hk : k < n) (h1 : Bst (fun o' => Sub S n f sh hd k o o' ∧ o' k < c) C n L0 f0 L1 f1) (h2 : Bst (Sub S n f sh hd (k + 1) (upk o k c)) C n L1 f1 L2 f2) : Bst (fun o' => Sub S n f sh hd k o o' ∧ o' k < c + 1) C n L0 f0 L2 f2 := by
  refine (h1.seq h2 fun a b ha hb => ?_).iff fun o' => ⟨fun q => ?_, fun q => ?_⟩
  · have e : b k = c := (hb.2 k (by omega)).trans upk_e
    refine Or.inr ⟨k, hk, fun i hi => ?_, by rw [e]; exact ha.2⟩
    rw [ha.1.2 i hi, hb.2 i (by omega), upk_n (by omega)]
  · rcases q with q | q
    · exact ⟨q.1, by omega⟩
    · refine ⟨⟨q.1, fun j hj => (q.2 j (by omega)).trans (upk_n (by omega))⟩, ?_⟩
      have e : o' k = c := (q.2 k (by omega)).trans upk_e
      omega
  · by_cases e : o' k = c
    · refine Or.inr ⟨q.1.1, fun j hj => ?_⟩
      by_cases ej : j = k
      · rw [ej, e, upk_e]
      · rw [upk_n ej]; exact q.1.2 j (by omega)
    · exact Or.inl ⟨q.1, by omega⟩
theorem Bst.none : Bst (fun o' => Sub S n f sh hd k o o' ∧ o' k < 0) C n L0 f0 L0 f0 := Bst.no fun o' q => absurd q.2 (Nat.not_lt_zero _)
theorem Bst.full (hk : k < n) (h : Bst (fun o' => Sub S n f sh hd k o o' ∧ o' k < n) C n L0 f0 L1 f1) : Bst (Sub S n f sh hd k o) C n L0 f0 L1 f1 :=
  h.iff fun o' => ⟨fun q => q.1, fun q => ⟨q, q.1.1 k hk⟩⟩
theorem Sub.used (hk : k < n) (hu : usd o k c = true) (h : Sub S n f sh hd k o o') : o' k ≠ c := by
  obtain ⟨j, hj, e⟩ := usd_iff.mp hu
  intro q
  have := h.1.2.1 k j hk (by omega) (by rw [q, h.2 j hj, e])
  omega
theorem Sub.near (hk : k < n) (hf : f ≤ k) (hn : near S n sh c k = false) (h : Sub S n f sh hd k o o') : o' k ≠ c := by
  intro q
  have := h.1.2.2.1 k hk
  rw [if_neg (by omega), q, hn] at this
  cases this
theorem Sub.pressed {pc : Nat} (hk : k < n) (hf : f ≤ k) (hp : pc < n) (hu : usd o k pc = false) (hr : rk S n pc + sh = k) (hc : c ≠ pc) (h : Sub S n f sh hd k o o') : o' k ≠ c := by
  intro q
  have h2 : Sub S n f sh hd (k + 1) (upk o k c) o' := ⟨h.1, fun j hj => by
    by_cases ej : j = k
    · rw [ej, q, upk_e]
    · rw [upk_n ej]; exact h.2 j (by omega)⟩
  have := h2.late (by omega) hp (by
    rw [usd_succ, upk_e, usd_congr (o' := o) (fun j hj => upk_n (by omega)), hu, decide_eq_false (fun q => hc q.symm)]
    rfl)
  omega
theorem Sub.lateSlot (hk : k < n) (hs : ¬ slt S (upk o k c) k ≤ bLa S c) (h : Sub S n f sh true k o o') : o' k ≠ c := by
  intro q
  have := h.1.2.2.2 rfl k hk
  rw [q, slt_congr (o' := upk o k c) (fun i hi => ?_)] at this
  · exact hs this
  · by_cases ei : i = k
    · rw [ei, q, upk_e]
    · rw [upk_n ei]; exact h.2 i (by omega)
theorem lst_pre {s : Nat} (h : ∀ j, j < k → o' j = o j) : lst S o' k s = lst S o k s := lst_congr h s
theorem sn1_pre (h : ∀ j, j < k → o' j = o j) : sn1 S o' k c = sn1 S o k c := by unfold sn1; rw [lst_pre h]
theorem atl_pre {y : Int32} (h : ∀ j, j < k → o' j = o j) : ∀ {m : Nat}, atl S o' y k m = atl S o y k m
  | 0 => cst_congr h
  | m + 1 => by unfold atl; rw [usd_congr h, atl_pre h, sn1_pre h]
theorem Sub.hope {n' : Nat} (h : Sub S n f sh true k o o') (hh : hpl S o k n = true) : False := by
  obtain ⟨c, hc, q⟩ := anyB_iff.mp hh
  rw [Bool.and_eq_true] at q
  have hu : usd o k c = false := by have := q.1; revert this; cases usd o k c <;> simp
  have hs : ¬ sn1 S o k c ≤ bLa S c := by have := q.2; revert this; simp
  obtain ⟨j, hj, e⟩ := h.1.at hc
  have hjk : k ≤ j := Nat.le_of_not_lt fun q => usd_f.mp hu j q (by rw [← h.2 j q]; exact e)
  have h1 := sn1_le (S := S) (o := o') hjk
  have h2 := h.1.2.2.2 rfl j hj
  rw [e] at h1 h2
  rw [sn1_pre h.2] at h1
  exact hs (Int32.le_trans h1 h2)
end DEEP
/-- what the search writes -/
abbrev sa (r : Nat) : Nat → Prop := fun a => a = r + 15 ∨ a = r + 18 ∨ r + 19 < a ∧ a ≤ r + 19 + 3
section DEEP2
variable {d : Nat} {L : hL} {J : Nat → Nat → Int64} {t : tl} {r n sn dn sh f T : Nat} {S : BS} {y : Int32} {X : Nat → hp → Prop}
--facts hR.1, LB_ hR.b, LT_ hR.t, LT_ hR.s
theorem sp_goDeeper (hR : LR L r) (hI : BI S n sn dn) (hV : BV S n sn dn T) (hu : HU S n) (hsh : bF S 11 = nI sh) (hs3 : sh ≤ 3) : ∀ m k, k + m = n → f ≤ k → ∀ (I : Nat → Nat → Int32) (o : Nat → Nat) (x : Int32) (G : hp → Prop), bd I (r + 2) = S → SE I r S n → I (r + 15) 5 = y → Tab I (r + 19) S o k → Pre S n f sh true k o → MK x (usd o k) →
    (∀ I2, same I I2 (sa r) → (∀ j, j ≠ 6 → I2 (r + 15) j = I (r + 15) j) → Tab I2 (r + 19) S o k → Bst (Sub S n f sh true k o) (fun o => cst S o y n) n (I (r + 15) 6) (I (r + 18)) (I2 (r + 15) 6) (I2 (r + 18)) → G (L, I2, J, t)) →
    cal (d + m + 4) 126 [.ref (r + 15), .int (nI k), .int x, .int (cst S o y k)] (L, I, J, t) (kV G X) := by
  have hn := hI.1.2
  have first : ∀ m k, k + m = n → ∀ (I : Nat → Nat → Int32) (o : Nat → Nat) (x : Int32) (G : hp → Prop), bd I (r + 2) = S → I (r + 15) 5 = y → Tab I (r + 19) S o k → MK x (usd o k) →
      (∀ I2, same I I2 (sa r) → (∀ j, j ≠ 6 → I2 (r + 15) j = I (r + 15) j) → Tab I2 (r + 19) S o k → Bst (Sub S n f sh true k o) (fun o => cst S o y n) n (I (r + 15) 6) (I (r + 18)) (I2 (r + 15) 6) (I2 (r + 18)) → G (L, I2, J, t)) →
      (∀ l4 l5 l6, hpl S o k n = false → atl S o y k n < I (r + 15) 6 → Wp (cal (d + m + 3)) kc_126 [] (kV G X) (7, [some (.ref (r + 15)), some (.int (nI k)), some (.int x), some (.int (cst S o y k)), l4, l5, l6], [.int (atl S o y k n)], (L, I, J, t))) → (∀ o', Sub S n f sh true k o o' → hpl S o k n = false → atl S o y k n ≤ cst S o' y n) →
      cal (d + m + 4) 126 [.ref (r + 15), .int (nI k), .int x, .int (cst S o y k)] (L, I, J, t) (kV G X) := by
    intro m k hk I o x G hb hy hT hm K go low
    refine e126 (t126_0 ?_)
    simp (disch := omega) only [vpT, nI_leI, nI_ltI, nI_eq, nleT, nleF, nltT, nltF, neqT, neqF, nI_add, pk_mul, subN, divN, nI_clamp, mI1, wrH, wrM1, wrM2, wrowH, wrowM, bI0, bI1, kIi, kVi, kRi, kLi, kIx, kVx, Option.some.injEq, exists_eq_left', true_and, and_true, true_implies, false_implies, implies_true, not_true_eq_false, not_false_eq_true, true_or, or_true, false_or, or_false, forall_eq, iteT, iteF, hR.1, LB_ hR.b, LT_ hR.t, LT_ hR.s]
    have e : cst S o y k = cst (bd I (r + 2)) o y k := by rw [hb]
    rw [e]
    refine sp_atLeast (n := n) (sn := sn) (dn := dn) (o := o) hR (by rw [hb]; exact hI) hy (by omega) (by rw [hb]; exact hT) hm ?_
    rw [hb]
    have stop : ∀ v l4 l5 l6, ¬ v < I (r + 15) 6 → (∀ o', Sub S n f sh true k o o' → I (r + 15) 6 ≤ cst S o' y n) → Wp (cal (d + m + 3)) kc_126 [] (kV G X) (7, [some (.ref (r + 15)), some (.int (nI k)), some (.int x), some (.int (cst S o y k)), l4, l5, l6], [.int v], (L, I, J, t)) := by
      intro v l4 l5 l6 hv hall
      refine t126_7 ?_
      rw [show (v < (L, I, J, t).2.1 (r + 15) 6) = False from eq_false hv]
      simp (disch := omega) only [vpT, nI_leI, nI_ltI, nI_eq, nleT, nleF, nltT, nltF, neqT, neqF, nI_add, pk_mul, subN, divN, nI_clamp, mI1, wrH, wrM1, wrM2, wrowH, wrowM, bI0, bI1, kIi, kVi, kRi, kLi, kIx, kVx, Option.some.injEq, exists_eq_left', true_and, and_true, true_implies, false_implies, implies_true, not_true_eq_false, not_false_eq_true, true_or, or_true, false_or, or_false, forall_eq, iteT, iteF, hR.1, LB_ hR.b, LT_ hR.t, LT_ hR.s]
      exact K I same.rf (fun _ _ => rfl) hT (Or.inl ⟨rfl, fun _ _ => rfl, hall⟩)
    cases hh : hpl S o k n with
    | true =>
      rw [if_pos rfl]
      refine stop _ _ _ _ ?_ (fun o' q => (q.hope (n' := 0) hh).elim)
      rw [Int32.lt_iff_toInt_lt, nI_toInt (by omega)]
      have := Int32.toInt_lt (I (r + 15) 6)
      omega
    | false =>
      rw [if_neg (by decide)]
      by_cases hlt : atl S o y k n < I (r + 15) 6
      · exact go _ _ _ hh hlt
      · exact stop _ _ _ _ hlt fun o' q => Int32.le_trans (Int32.not_lt.mp hlt) (low o' q hh)
  intro m
  induction m with
  | zero =>
    intro k hk hfk I o x G hb hE hy hT hpre hm K
    have hkn : k = n := by omega
    subst hkn
    have i0 : I (r + 2) 0 = nI k := by
      have := hI.1.1
      rw [← hb] at this
      exact this
    have hall : ∀ c, c < k → usd o k c = true := fun c hc => usd_iff.mpr (pigeon hpre.1 hpre.2.1 c hc)
    have hat : ∀ m, m ≤ k → atl S o y k m = cst S o y k := by
      intro m
      induction m with
      | zero => intro _; rfl
      | succ m ih => intro h; unfold atl; rw [hall m (by omega)]; exact ih (by omega)
    refine first 0 k hk I o x G hb hy hT hm K (fun l4 l5 l6 _ hlt => ?_) (fun o' q _ => ?_)
    · rw [hat k (Nat.le_refl _)] at hlt ⊢
      refine t126_7 ?_
      rw [show (cst S o y k < (L, I, J, t).2.1 (r + 15) 6) = True from eq_true hlt]
      simp (disch := omega) only [vpT, nI_leI, nI_ltI, nI_eq, nleT, nleF, nltT, nltF, neqT, neqF, nI_add, pk_mul, subN, divN, nI_clamp, mI1, wrH, wrM1, wrM2, wrowH, wrowM, bI0, bI1, kIi, kVi, kRi, kLi, kIx, kVx, Option.some.injEq, exists_eq_left', true_and, and_true, true_implies, false_implies, implies_true, not_true_eq_false, not_false_eq_true, true_or, or_true, false_or, or_false, forall_eq, iteT, iteF, hR.1, LB_ hR.b, LT_ hR.t, LT_ hR.s, i0]
      have fr : ∀ j, j < k → va_cpy (I (r + 19 + 1)) (I (r + 18)) 0 0 10 j = nI (o j) := fun j hj => by
        rw [sb_cpy0 (by omega)]; exact (hT.1 j hj).1
      refine K _ (fun a ha => ?_) (fun j hj => ?_) ?_ (Or.inr ⟨o, ⟨hpre.leaf, fun _ _ => rfl⟩, hlt, ?_, ?_, fun o' q => ?_⟩)
      · have : a ≠ r + 15 ∧ a ≠ r + 18 := ⟨fun q => ha (Or.inl q), fun q => ha (Or.inr (Or.inl q))⟩
        simp (disch := omega) only [vpT, nI_leI, nI_ltI, nI_eq, nleT, nleF, nltT, nltF, neqT, neqF, nI_add, pk_mul, subN, divN, nI_clamp, mI1, wrH, wrM1, wrM2, wrowH, wrowM, bI0, bI1, kIi, kVi, kRi, kLi, kIx, kVx, Option.some.injEq, exists_eq_left', true_and, and_true, true_implies, false_implies, implies_true, not_true_eq_false, not_false_eq_true, true_or, or_true, false_or, or_false, forall_eq, iteT, iteF, hR.1, LB_ hR.b, LT_ hR.t, LT_ hR.s]
      · simp (disch := omega) only [vpT, nI_leI, nI_ltI, nI_eq, nleT, nleF, nltT, nltF, neqT, neqF, nI_add, pk_mul, subN, divN, nI_clamp, mI1, wrH, wrM1, wrM2, wrowH, wrowM, bI0, bI1, kIi, kVi, kRi, kLi, kIx, kVx, Option.some.injEq, exists_eq_left', true_and, and_true, true_implies, false_implies, implies_true, not_true_eq_false, not_false_eq_true, true_or, or_true, false_or, or_false, forall_eq, iteT, iteF, hR.1, LB_ hR.b, LT_ hR.t, LT_ hR.s]
      · exact hT.same (A := fun a => a = r + 15 ∨ a = r + 18) (fun a ha => by
          have : a ≠ r + 15 ∧ a ≠ r + 18 := ⟨fun q => ha (Or.inl q), fun q => ha (Or.inr q)⟩
          simp (disch := omega) only [vpT, nI_leI, nI_ltI, nI_eq, nleT, nleF, nltT, nltF, neqT, neqF, nI_add, pk_mul, subN, divN, nI_clamp, mI1, wrH, wrM1, wrM2, wrowH, wrowM, bI0, bI1, kIi, kVi, kRi, kLi, kIx, kVx, Option.some.injEq, exists_eq_left', true_and, and_true, true_implies, false_implies, implies_true, not_true_eq_false, not_false_eq_true, true_or, or_true, false_or, or_false, forall_eq, iteT, iteF, hR.1, LB_ hR.b, LT_ hR.t, LT_ hR.s]) (fun a h1 h2 => by omega)
      · simp (disch := omega) only [vpT, nI_leI, nI_ltI, nI_eq, nleT, nleF, nltT, nltF, neqT, neqF, nI_add, pk_mul, subN, divN, nI_clamp, mI1, wrH, wrM1, wrM2, wrowH, wrowM, bI0, bI1, kIi, kVi, kRi, kLi, kIx, kVx, Option.some.injEq, exists_eq_left', true_and, and_true, true_implies, false_implies, implies_true, not_true_eq_false, not_false_eq_true, true_or, or_true, false_or, or_false, forall_eq, iteT, iteF, hR.1, LB_ hR.b, LT_ hR.t, LT_ hR.s]
      · intro j hj
        simp (disch := omega) only [vpT, nI_leI, nI_ltI, nI_eq, nleT, nleF, nltT, nltF, neqT, neqF, nI_add, pk_mul, subN, divN, nI_clamp, mI1, wrH, wrM1, wrM2, wrowH, wrowM, bI0, bI1, kIi, kVi, kRi, kLi, kIx, kVx, Option.some.injEq, exists_eq_left', true_and, and_true, true_implies, false_implies, implies_true, not_true_eq_false, not_false_eq_true, true_or, or_true, false_or, or_false, forall_eq, iteT, iteF, hR.1, LB_ hR.b, LT_ hR.t, LT_ hR.s]
        exact fr j hj
      · have e : cst S o' y k = cst S o y k := cst_congr q.2
        exact ⟨by show cst S o y k ≤ cst S o' y k; rw [e]; exact Int32.le_refl _, fun _ => Or.inl fun j hj => (q.2 j hj).symm⟩
    · rw [hat k (Nat.le_refl _), cst_congr (o := o') q.2]
      exact Int32.le_refl _
  | succ m ih =>
    intro k hk hfk I o x G hb hE hy hT hpre hm K
    have hkn : k < n := by omega
    have i0 : I (r + 2) 0 = nI n := by
      have := hI.1.1
      rw [← hb] at this
      exact this
    refine first (m + 1) k hk I o x G hb hy hT hm K (fun l4 l5 l6 _ hlt => ?_) (fun o' q _ => by
      rw [← atl_pre q.2]
      exact atl_low hI hV (by omega) q.1.1 q.1.2.1)
    refine t126_7 ?_
    rw [show (atl S o y k n < (L, I, J, t).2.1 (r + 15) 6) = True from eq_true hlt]
    simp (disch := omega) only [vpT, nI_leI, nI_ltI, nI_eq, nleT, nleF, nltT, nltF, neqT, neqF, nI_add, pk_mul, subN, divN, nI_clamp, mI1, wrH, wrM1, wrM2, wrowH, wrowM, bI0, bI1, kIi, kVi, kRi, kLi, kIx, kVx, Option.some.injEq, exists_eq_left', true_and, and_true, true_implies, false_implies, implies_true, not_true_eq_false, not_false_eq_true, true_or, or_true, false_or, or_false, forall_eq, iteT, iteF, hR.1, LB_ hR.b, LT_ hR.t, LT_ hR.s, i0]
    refine sp_pressedAt (n := n) (sn := sn) (dn := dn) (sh := sh) hR (by rw [hb]; exact hI) (by rw [hb]; exact hsh) hs3 (by rw [hb]; exact hu) (by rw [hb]; exact hE) hm (by omega) fun v hv => t126_62 ?_
    rw [hb] at hv
    refine lg (n := n) (fun c l h => ∃ I2 l6, l = [some (.ref (r + 15)), some (.int (nI k)), some (.int x), some (.int (cst S o y k)), some (.int v), some (.int (nI c)), l6] ∧ h = (L, I2, J, t) ∧ same I I2 (sa r) ∧ (∀ j, j ≠ 6 → I2 (r + 15) j = I (r + 15) j) ∧ Tab I2 (r + 19) S o k ∧ Bst (fun o' => Sub S n f sh true k o o' ∧ o' k < c) (fun o => cst S o y n) n (I (r + 15) 6) (I (r + 18)) (I2 (r + 15) 6) (I2 (r + 18))) ?_ ?_ (Nat.zero_le _) _ _ ⟨I, _, rfl, rfl, same.rf, fun _ _ => rfl, hT, Bst.none⟩
    · rintro c hc ihc _ _ ⟨I2, l6, rfl, rfl, hs, hf2, hT2, hB⟩
      have hb2 : bd I2 (r + 2) = S := (hs.bd (fun a h1 h2 => by omega)).trans hb
      have i2 : I2 (r + 2) 0 = nI n := by rw [hs _ (by omega)]; exact i0
      have hE2 : SE I2 r S n := hE.same hs (by omega) (by omega)
      have skip : (∀ o', Sub S n f sh true k o o' → o' k ≠ c) → ∀ I3 l6, same I2 I3 (sa r) → (∀ j, j ≠ 6 → I3 (r + 15) j = I2 (r + 15) j) → Tab I3 (r + 19) S o k → I3 (r + 15) 6 = I2 (r + 15) 6 → I3 (r + 18) = I2 (r + 18) → Wp (cal (d + (m + 1) + 3)) kc_126 [] (kV G X) (159, [some (.ref (r + 15)), some (.int (nI k)), some (.int x), some (.int (cst S o y k)), some (.int v), some (.int (nI c)), l6], [], (L, I3, J, t)) := by
        intro hno I3 l6 hs3' hf3 hT3 e6 e18
        refine t126_159 ?_
        simp (disch := omega) only [vpT, nI_leI, nI_ltI, nI_eq, nleT, nleF, nltT, nltF, neqT, neqF, nI_add, pk_mul, subN, divN, nI_clamp, mI1, wrH, wrM1, wrM2, wrowH, wrowM, bI0, bI1, kIi, kVi, kRi, kLi, kIx, kVx, Option.some.injEq, exists_eq_left', true_and, and_true, true_implies, false_implies, implies_true, not_true_eq_false, not_false_eq_true, true_or, or_true, false_or, or_false, forall_eq, iteT, iteF, hR.1, LB_ hR.b, LT_ hR.t, LT_ hR.s]
        refine ihc _ _ ⟨I3, _, rfl, rfl, hs.tr hs3', fun j hj => (hf3 j hj).trans (hf2 j hj), hT3, ?_⟩
        rw [e6, e18]
        exact hB.skip hno
      refine t126_67 ?_
      simp (disch := omega) only [vpT, nI_leI, nI_ltI, nI_eq, nleT, nleF, nltT, nltF, neqT, neqF, nI_add, pk_mul, subN, divN, nI_clamp, mI1, wrH, wrM1, wrM2, wrowH, wrowM, bI0, bI1, kIi, kVi, kRi, kLi, kIx, kVx, Option.some.injEq, exists_eq_left', true_and, and_true, true_implies, false_implies, implies_true, not_true_eq_false, not_false_eq_true, true_or, or_true, false_or, or_false, forall_eq, iteT, iteF, hR.1, LB_ hR.b, LT_ hR.t, LT_ hR.s, i2]
      refine sp_isIn hm (by omega) (t126_85 ?_)
      simp (disch := omega) only [vpT, nI_leI, nI_ltI, nI_eq, nleT, nleF, nltT, nltF, neqT, neqF, nI_add, pk_mul, subN, divN, nI_clamp, mI1, wrH, wrM1, wrM2, wrowH, wrowM, bI0, bI1, kIi, kVi, kRi, kLi, kIx, kVx, Option.some.injEq, exists_eq_left', true_and, and_true, true_implies, false_implies, implies_true, not_true_eq_false, not_false_eq_true, true_or, or_true, false_or, or_false, forall_eq, iteT, iteF, hR.1, LB_ hR.b, LT_ hR.t, LT_ hR.s]
      refine ⟨fun h => skip (fun o' q => q.used hkn (btf h)) I2 _ same.rf (fun _ _ => rfl) hT2 rfl rfl, fun huc => ?_⟩
      refine sp_sisNear (n := n) (sn := sn) (dn := dn) (sh := sh) hR (by rw [hb2]; exact hI) (by rw [hb2]; exact hsh) hs3 (by rw [hb2]; exact hE2) hc (by omega) (t126_97 ?_)
      rw [hb2]
      simp (disch := omega) only [vpT, nI_leI, nI_ltI, nI_eq, nleT, nleF, nltT, nltF, neqT, neqF, nI_add, pk_mul, subN, divN, nI_clamp, mI1, wrH, wrM1, wrM2, wrowH, wrowM, bI0, bI1, kIi, kVi, kRi, kLi, kIx, kVx, Option.some.injEq, exists_eq_left', true_and, and_true, true_implies, false_implies, implies_true, not_true_eq_false, not_false_eq_true, true_or, or_true, false_or, or_false, forall_eq, iteT, iteF, hR.1, LB_ hR.b, LT_ hR.t, LT_ hR.s]
      refine ⟨fun h => ?_, fun h => skip (fun o' q => ?_) I2 _ same.rf (fun _ _ => rfl) hT2 rfl rfl⟩
      · have hnear : near S n sh c k = true := by
          have h' := btf h
          rcases hv with ⟨hv1, -⟩ | ⟨pc, hpc, hv1, hv2, hv3⟩
          · rw [if_pos hv1] at h'; exact h'
          · have hne : ¬ v = -1 := by
              rw [hv1]
              have : ∀ q, q < 10 → ¬ nI q = -1 := by decide
              exact this pc (by omega)
            rw [if_neg hne, hv1] at h'
            have e : c = pc := (nI_eq (by omega) (by omega)).mp (of_decide_eq_true h')
            rw [e]
            exact decide_eq_true (by omega)
        have hTu : Tab I2 (r + 19) (bd I2 (r + 2)) (upk o k c) k := by rw [hb2]; exact hT2.congr upk_lt
        refine sp_put (n := n) (sn := sn) (dn := dn) (o := upk o k c) hR.s hR.b (by omega) (by rw [hb2]; exact hI) (by omega) hc upk_e hTu fun I3 hs3' hT3 => t126_113 ?_
        rw [hb2] at hT3 ⊢
        have hTo : Tab I3 (r + 19) S o k := (hT3.less (by omega)).congr fun j hj => upk_n (by omega)
        have hs3a : same I2 I3 (sa r) := hs3'.up fun a h => Or.inr (Or.inr h)
        have e15 : I3 (r + 15) = I2 (r + 15) := hs3' _ (by omega)
        have e18 : I3 (r + 18) = I2 (r + 18) := hs3' _ (by omega)
        have e3 : I3 (r + 2 + 3) c = bLa S c := by rw [hs3' _ (by omega), ← hb2]; rfl
        have ey : I3 (r + 15) 5 = y := by rw [e15, hf2 5 (by decide)]; exact hy
        simp (disch := omega) only [vpT, nI_leI, nI_ltI, nI_eq, nleT, nleF, nltT, nltF, neqT, neqF, nI_add, pk_mul, subN, divN, nI_clamp, mI1, wrH, wrM1, wrM2, wrowH, wrowM, bI0, bI1, kIi, kVi, kRi, kLi, kIx, kVx, Option.some.injEq, exists_eq_left', true_and, and_true, true_implies, false_implies, implies_true, not_true_eq_false, not_false_eq_true, true_or, or_true, false_or, or_false, forall_eq, iteT, iteF, hR.1, LB_ hR.b, LT_ hR.t, LT_ hR.s, e3, ey]
        refine ⟨fun h1 => skip (fun o' q => q.lateSlot hkn (Int32.not_le.mpr h1)) I3 _ hs3a (fun j _ => congrFun e15 j) hTo (congrFun e15 6) e18, fun h1 => ?_⟩
        refine sp_costWith hR.s hR.b (by omega) (t126_156 ?_)
        have hb3 : bd I3 (r + 2) = S := (hs3'.bd (fun a h1 h2 => by omega)).trans hb2
        rw [hb3]
        have ec : cw S y (cst S o y k) c (slt S (upk o k c) k) = cst S (upk o k c) y (k + 1) := by
          show _ = cw S y (cst S (upk o k c) y k) (upk o k c k) (slt S (upk o k c) k)
          rw [upk_e, cst_congr (o := upk o k c) (o' := o) (fun j hj => upk_n (by omega))]
        simp (disch := omega) only [vpT, nI_leI, nI_ltI, nI_eq, nleT, nleF, nltT, nltF, neqT, neqF, nI_add, pk_mul, subN, divN, nI_clamp, mI1, wrH, wrM1, wrM2, wrowH, wrowM, bI0, bI1, kIi, kVi, kRi, kLi, kIx, kVx, Option.some.injEq, exists_eq_left', true_and, and_true, true_implies, false_implies, implies_true, not_true_eq_false, not_false_eq_true, true_or, or_true, false_or, or_false, forall_eq, iteT, iteF, hR.1, LB_ hR.b, LT_ hR.t, LT_ hR.s, ec]
        refine ih (k + 1) (by omega) (by omega) I3 (upk o k c) _ _ hb3 (hE2.same hs3' (by omega) (by omega)) ey hT3 (hpre.up hc huc (by rw [if_neg (by omega)]; exact hnear) (fun _ => Int32.not_lt.mp h1)) ((MK_or hm (by omega)).congr' ?_) fun I4 hs4 hf4 hT4 hB4 => ?_
        · intro e _
          rw [usd_succ, upk_e, usd_congr (o' := o) (fun j hj => upk_n (by omega))]
        · refine t126_159 ?_
          simp (disch := omega) only [vpT, nI_leI, nI_ltI, nI_eq, nleT, nleF, nltT, nltF, neqT, neqF, nI_add, pk_mul, subN, divN, nI_clamp, mI1, wrH, wrM1, wrM2, wrowH, wrowM, bI0, bI1, kIi, kVi, kRi, kLi, kIx, kVx, Option.some.injEq, exists_eq_left', true_and, and_true, true_implies, false_implies, implies_true, not_true_eq_false, not_false_eq_true, true_or, or_true, false_or, or_false, forall_eq, iteT, iteF, hR.1, LB_ hR.b, LT_ hR.t, LT_ hR.s]
          rw [congrFun e15 6, e18] at hB4
          refine ihc _ _ ⟨I4, _, rfl, rfl, (hs.tr hs3a).tr hs4, fun j hj => by rw [hf4 j hj, e15]; exact hf2 j hj, (hT4.less (by omega)).congr fun j hj => upk_n (by omega), hB.child hkn hB4⟩
      · rcases hv with ⟨hv1, -⟩ | ⟨pc, hpc, hv1, hv2, hv3⟩
        · rw [if_pos hv1] at h
          exact q.near hkn hfk h
        · have hne : ¬ v = -1 := by
            rw [hv1]
            have : ∀ q, q < 10 → ¬ nI q = -1 := by decide
            exact this pc (by omega)
          rw [if_neg hne, hv1] at h
          have e : c ≠ pc := fun q => by
            rw [q, decide_eq_true rfl] at h
            cases h
          exact q.pressed hkn hfk hpc hv2 hv3 e
    · rintro _ _ ⟨I2, l6, rfl, rfl, hs, hf2, hT2, hB⟩
      have i2 : I2 (r + 2) 0 = nI n := by rw [hs _ (by omega)]; exact i0
      refine t126_67 ?_
      simp (disch := omega) only [vpT, nI_leI, nI_ltI, nI_eq, nleT, nleF, nltT, nltF, neqT, neqF, nI_add, pk_mul, subN, divN, nI_clamp, mI1, wrH, wrM1, wrM2, wrowH, wrowM, bI0, bI1, kIi, kVi, kRi, kLi, kIx, kVx, Option.some.injEq, exists_eq_left', true_and, and_true, true_implies, false_implies, implies_true, not_true_eq_false, not_false_eq_true, true_or, or_true, false_or, or_false, forall_eq, iteT, iteF, hR.1, LB_ hR.b, LT_ hR.t, LT_ hR.s, i2]
      exact K I2 hs hf2 hT2 (hB.full hkn)
end DEEP2

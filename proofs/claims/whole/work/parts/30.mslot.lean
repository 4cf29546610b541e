/-! deps: open -/
/-! The model's slots. -/
theorem mx_le {a b y : Int32} : mx a b ≤ y ↔ a ≤ y ∧ b ≤ y := by
  unfold mx
  split
  · rename_i h
    exact ⟨fun q => ⟨Int32.le_trans (Int32.le_of_lt h) q, q⟩, fun q => q.2⟩
  · rename_i h
    exact ⟨fun q => ⟨q, Int32.le_trans (Int32.not_lt.mp h) q⟩, fun q => q.1⟩
theorem mx2_le {a b y : Int32} : mx2 a b ≤ y ↔ a ≤ y ∧ b ≤ y := by
  unfold mx2
  split
  · rename_i h
    exact ⟨fun q => ⟨Int32.le_trans h q, q⟩, fun q => q.2⟩
  · rename_i h
    exact ⟨fun q => ⟨q, Int32.le_trans (Int32.le_of_lt (Int32.not_le.mp h)) q⟩, fun q => q.1⟩
theorem le_ext {a b : Int32} (h : ∀ y, a ≤ y ↔ b ≤ y) : a = b := le_antisymm' ((h b).mpr (Int32.le_refl _)) ((h a).mp (Int32.le_refl _))
theorem mx_mx2 (a b : Int32) : mx a b = mx2 a b := le_ext fun y => by rw [mx_le, mx2_le]
theorem mx2_comm (a b : Int32) : mx2 a b = mx2 b a := le_ext fun y => by rw [mx2_le, mx2_le]; exact ⟨fun q => ⟨q.2, q.1⟩, fun q => ⟨q.2, q.1⟩⟩
section MSLOT
variable {S : BS} {o : Nat → Nat}
theorem dn0_le {s : Nat} {y : Int32} : ∀ {i : Nat}, dn0 S s i ≤ y ↔ bF S 13 ≤ y ∧ ∀ j, j < i → bDS S j + bGa S ((bDo S j).toNatClampNeg * 8 + s) ≤ y
  | 0 => ⟨fun h => ⟨h, fun j hj => absurd hj (Nat.not_lt_zero _)⟩, fun h => h.1⟩
  | i + 1 => by
    show mx _ _ ≤ y ↔ _
    rw [mx_le, dn0_le]
    exact ⟨fun h => ⟨h.1.1, fun j hj => by
      by_cases e : j = i
      · rw [e]; exact h.2
      · exact h.1.2 j (by omega)⟩, fun h => ⟨⟨h.1, fun j hj => h.2 j (by omega)⟩, h.2 i (by omega)⟩⟩
theorem lst_le {s : Nat} {y : Int32} : ∀ {k : Nat}, lst S o k s ≤ y ↔ dn0 S s (bF S 14).toNatClampNeg ≤ y ∧ ∀ j, j < k → slt S o j + bGa S ((bSo S (o j)).toNatClampNeg * 8 + s) ≤ y
  | 0 => ⟨fun h => ⟨h, fun j hj => absurd hj (Nat.not_lt_zero _)⟩, fun h => h.1⟩
  | k + 1 => by
    show mx2 (slt S o k + _) _ ≤ y ↔ _
    rw [mx2_le, lst_le]
    exact ⟨fun h => ⟨h.2.1, fun j hj => by
      by_cases e : j = k
      · rw [e]; exact h.1
      · exact h.2.2 j (by omega)⟩, fun h => ⟨h.2 k (by omega), h.1, fun j hj => h.2 j (by omega)⟩⟩
variable {d : Nat} {L : hL} {I : Nat → Nat → Int32} {J : Nat → Nat → Int64} {t : tl} {m n sn dn : Nat} {F : Int32 → hp → Prop} {G : hp → Prop} {X : Nat → hp → Prop}
theorem mp_ofCraft {c w : Nat} (hM : LM L m) (hc : c < 10) (hw : w < 4) (k : F (I (m + 1) (6 + 4 * c + w)) (L, I, J, t)) : cal (d + 1) 199 [.ref m, .int (nI c), .int (nI w)] (L, I, J, t) (kI F X) := by
  obtain ⟨⟨m0, r1, -⟩, ⟨k1, -⟩, ⟨n1, -⟩⟩ := hM
  have e1 : 6 + 4 * nI c + nI w = nI (6 + 4 * c + w) := by rw [show (6 : Int32) = nI 6 from rfl, show (4 : Int32) = nI 4 from rfl, pk_mul, nI_add, nI_add]
  refine e199 (q199_0 m0 r1 k1 (by show vp_in (6 + 4 * nI c + nI w) (L.2.1 (m + 1)); rw [n1, e1]; exact vp_in_nI (by omega) (by decide)) ?_)
  dsimp only
  rw [e1, nI_clamp (by omega)]
  exact k
theorem mp_gapOf {x y : Nat} (hM : LM L m) (hR : Rel (I (m + 1)) S n sn dn) (hx : x < 8) (hy : y < 8) (k : F (bGa S (x * 8 + y)) (L, I, J, t)) : cal (d + 1) 200 [.ref m, .int (nI x), .int (nI y)] (L, I, J, t) (kI F X) := by
  obtain ⟨⟨m0, r1, -⟩, ⟨k1, -⟩, ⟨n1, -⟩⟩ := hM
  have e1 : 56 + 8 * nI x + nI y = nI (56 + (x * 8 + y)) := by rw [show (56 : Int32) = nI 56 from rfl, show (8 : Int32) = nI 8 from rfl, pk_mul, nI_add, nI_add]; congr 1; omega
  refine e200 (q200_0 m0 r1 k1 (by show vp_in (56 + 8 * nI x + nI y) (L.2.1 (m + 1)); rw [n1, e1]; exact vp_in_nI (by omega) (by decide)) ?_)
  dsimp only
  rw [e1, nI_clamp (by omega), hR.2.2.1 _ (by omega)]
  exact k
theorem mp_slotAt {p : Nat} (hM : LM L m) (hR : Rel (I (m + 1)) S n sn dn) (hI : BI S n sn dn) (hp : p < n) (ho : ∀ j, j ≤ p → I (m + 6) j = nI (o j) ∧ o j < n) (hs : ∀ j, j < p → I (m + 7) j = slt S o j) (k : F (slt S o p) (L, I, J, t)) : cal (d + 2) 198 [.ref m, .int (nI p)] (L, I, J, t) (kI F X) := by
  have hM0 := hM
  obtain ⟨⟨m0, r1, -, -, -, -, r6, r7, -⟩, ⟨k1, -, -, -, -, k6, k7, -⟩, ⟨n1, -, -, -, -, n6, n7, -⟩⟩ := hM
  have hn := hI.1.2
  have hd20 := hI.2.2.1.2
  obtain ⟨eo, ho1⟩ := ho p (Nat.le_refl _)
  obtain ⟨rs, rr, -, -, -⟩ := hR.2.1 (o p) ho1
  obtain ⟨z, hz, ez⟩ := hI.2.2.2.1 (o p) ho1
  have hdn : I (m + 1) 5 = nI dn := hR.1.2.2.2.2.2
  have hnow : I (m + 1) 1 = bF S 13 := hR.1.2.1
  have ezc : (bSo S (o p)).toNatClampNeg = z := by rw [ez, nI_clamp (by omega)]
  have e2 : slt S o p = opn S (mx2 (bRe S (o p)) (lst S o p z)) := by unfold slt; rw [ezc]
  have fin : ∀ v x5, (∀ y, v ≤ y ↔ mx2 (bRe S (o p)) (lst S o p z) ≤ y) → Wp (cal (d + 1)) kc_198 [] (kI F X) (139, [some (.ref m), some (.int (nI p)), some (.int (nI (o p))), some (.int (nI z)), some (.int v), some (.int x5)], [], (L, I, J, t)) := by
    intro v x5 hv
    refine q198_139 m0 (mp_openFrom hM0 hR hI (q198_145 ?_))
    rw [le_ext hv, ← e2]
    exact k
  have e1 : (nI p).toNatClampNeg = p := nI_clamp (by omega)
  have go3 : ∀ v, (∀ y, v ≤ y ↔ (bRe S (o p) ≤ y ∧ dn0 S z dn ≤ y) ∧ ∀ j, j < 0 → slt S o j + bGa S ((bSo S (o j)).toNatClampNeg * 8 + z) ≤ y) → Wp (cal (d + 1)) kc_198 [] (kI F X) (95, [some (.ref m), some (.int (nI p)), some (.int (nI (o p))), some (.int (nI z)), some (.int v), some (.int (nI 0))], [], (L, I, J, t)) := by
    refine loop0 (P := fun i => ∀ v, (∀ y, v ≤ y ↔ (bRe S (o p) ≤ y ∧ dn0 S z dn ≤ y) ∧ ∀ j, j < i → slt S o j + bGa S ((bSo S (o j)).toNatClampNeg * 8 + z) ≤ y) → Wp (cal (d + 1)) kc_198 [] (kI F X) (95, [some (.ref m), some (.int (nI p)), some (.int (nI (o p))), some (.int (nI z)), some (.int v), some (.int (nI i))], [], (L, I, J, t))) (n := p) (fun i hi ih v hv => ?_) (fun v hv => ?_)
    · obtain ⟨eoi, hoi⟩ := ho i (by omega)
      obtain ⟨zi, hzi, ezi⟩ := hI.2.2.2.1 (o i) hoi
      have ei : (nI i).toNatClampNeg = i := nI_clamp (by omega)
      refine q198_95 (fun h => absurd h (nI_ge hi (by omega))) (fun _ => q198_101 m0 r7 k7 (by show vp_in _ (L.2.1 (m + 7)); rw [n7]; exact vp_in_nI (by omega) (by decide)) r6 k6 (by show vp_in _ (L.2.1 (m + 6)); rw [n6]; exact vp_in_nI (by omega) (by decide)) ?_)
      dsimp only
      rw [ei, eoi, hs i hi]
      refine mp_ofCraft (w := 0) hM0 (by omega) (by decide) (q198_123 m0 ?_)
      rw [show I (m + 1) (6 + 4 * o i + 0) = nI zi from (hR.2.1 (o i) hoi).1.trans ezi]
      refine mp_gapOf hM0 hR hzi hz (q198_127 ?_)
      have := ih (mx v (slt S o i + bGa S (zi * 8 + z))) (fun y => by
        rw [mx_le, hv]
        constructor
        · intro h
          refine ⟨h.1.1, fun j hj => ?_⟩
          by_cases e : j = i
          · subst e; rw [ezi, nI_clamp (by omega)]; exact h.2
          · exact h.1.2 j (by omega)
        · intro h
          refine ⟨⟨h.1, fun j hj => h.2 j (by omega)⟩, ?_⟩
          have := h.2 i (by omega)
          rw [ezi, nI_clamp (by omega)] at this
          exact this)
      rw [nI_succ] at this
      exact this
    · refine q198_95 (fun _ => fin _ _ fun y => ?_) (fun h => absurd (nI_le (Nat.le_refl _) (by omega)) h)
      rw [hv, mx2_le, lst_le, show (bF S 14).toNatClampNeg = dn by rw [hI.2.2.1.1]; exact nI_clamp (by omega)]
      exact ⟨fun h => ⟨h.1.1, h.1.2, h.2⟩, fun h => ⟨⟨h.1, h.2.1⟩, h.2.2⟩⟩
  have go2 : ∀ v, (∀ y, v ≤ y ↔ (bRe S (o p) ≤ y ∧ bF S 13 ≤ y) ∧ ∀ j, j < 0 → bDS S (dn - 1 - j) + bGa S ((bDo S (dn - 1 - j)).toNatClampNeg * 8 + z) ≤ y) → Wp (cal (d + 1)) kc_198 [] (kI F X) (34, [some (.ref m), some (.int (nI p)), some (.int (nI (o p))), some (.int (nI z)), some (.int v), some (.int (nI 0))], [], (L, I, J, t)) := by
    refine loop0 (P := fun i => ∀ v, (∀ y, v ≤ y ↔ (bRe S (o p) ≤ y ∧ bF S 13 ≤ y) ∧ ∀ j, j < i → bDS S (dn - 1 - j) + bGa S ((bDo S (dn - 1 - j)).toNatClampNeg * 8 + z) ≤ y) → Wp (cal (d + 1)) kc_198 [] (kI F X) (34, [some (.ref m), some (.int (nI p)), some (.int (nI (o p))), some (.int (nI z)), some (.int v), some (.int (nI i))], [], (L, I, J, t))) (n := dn) (fun i hi ih v hv => ?_) (fun v hv => ?_)
    · obtain ⟨w1, w2, -⟩ := hR.2.2.2.2.1 i hi
      obtain ⟨zi, hzi, ezi⟩ := hI.2.2.2.2.2 (dn - 1 - i) (by omega)
      have x1 : 128 + 3 * nI i = nI (128 + 3 * i) := by rw [show (128 : Int32) = nI 128 from rfl, show (3 : Int32) = nI 3 from rfl, pk_mul, nI_add]
      have x2 : 128 + 3 * nI i + 1 = nI (128 + 3 * i + 1) := by rw [x1, nI_1]
      have c1 : (128 + 3 * nI i).toNatClampNeg = 128 + 3 * i := by rw [x1, nI_clamp (by omega)]
      have c2 : (128 + 3 * nI i + 1).toNatClampNeg = 128 + 3 * i + 1 := by rw [x2, nI_clamp (by omega)]
      refine q198_34 m0 r1 k1 (by show vp_in 5 (L.2.1 (m + 1)); rw [n1]; exact vp_in_nI (n := 5) (by decide) (by decide)) (fun h => absurd h ?_) (fun _ => q198_45 m0 r1 k1 (by show vp_in (128 + 3 * nI i + 1) (L.2.1 (m + 1)); rw [n1, x2]; exact vp_in_nI (by omega) (by decide)) (by show vp_in (128 + 3 * nI i) (L.2.1 (m + 1)); rw [n1, x1]; exact vp_in_nI (by omega) (by decide)) ?_)
      · show ¬ I (m + 1) 5 ≤ nI i
        rw [hdn]
        exact nI_ge hi (by omega)
      dsimp only
      rw [c1, c2, w1, w2, ezi]
      refine mp_gapOf hM0 hR hzi hz (q198_80 ?_)
      have := ih (mx v (bDS S (dn - 1 - i) + bGa S (zi * 8 + z))) (fun y => by
        rw [mx_le, hv]
        constructor
        · intro h
          refine ⟨h.1.1, fun j hj => ?_⟩
          by_cases e : j = i
          · subst e; rw [ezi, nI_clamp (by omega)]; exact h.2
          · exact h.1.2 j (by omega)
        · intro h
          refine ⟨⟨h.1, fun j hj => h.2 j (by omega)⟩, ?_⟩
          have := h.2 i (by omega)
          rw [ezi, nI_clamp (by omega)] at this
          exact this)
      rw [nI_succ] at this
      exact this
    · refine q198_34 m0 r1 k1 (by show vp_in 5 (L.2.1 (m + 1)); rw [n1]; exact vp_in_nI (n := 5) (by decide) (by decide)) (fun _ => q198_92 (go3 _ fun y => ?_)) (fun h => absurd ?_ h)
      · rw [hv, dn0_le]
        constructor
        · intro h
          refine ⟨⟨h.1.1, h.1.2, fun j hj => ?_⟩, fun j hj => absurd hj (Nat.not_lt_zero _)⟩
          have := h.2 (dn - 1 - j) (by omega)
          rw [show dn - 1 - (dn - 1 - j) = j by omega] at this
          exact this
        · intro h
          exact ⟨⟨h.1.1, h.1.2.1⟩, fun j hj => h.1.2.2 _ (by omega)⟩
      · show I (m + 1) 5 ≤ nI dn
        rw [hdn]
        exact nI_le (Nat.le_refl _) (by omega)
  refine e198 (q198_0 m0 r6 k6 (by show vp_in _ (L.2.1 (m + 6)); rw [n6]; exact vp_in_nI (by omega) (by decide)) ?_)
  dsimp only
  rw [e1, eo]
  refine mp_ofCraft (w := 0) hM0 (by omega) (by decide) (q198_13 m0 (mp_ofCraft (w := 1) hM0 (by omega) (by decide) (q198_20 m0 r1 k1 (by show vp_in 1 (L.2.1 (m + 1)); rw [n1]; exact vp_in_nI (n := 1) (by decide) (by decide)) ?_)))
  rw [show I (m + 1) (6 + 4 * o p + 0) = nI z from rs.trans ez, rr]
  refine go2 _ fun y => ?_
  show mx (bRe S (o p)) (I (m + 1) 1) ≤ y ↔ _
  rw [hnow, mx_le]
  exact ⟨fun h => ⟨h, fun j hj => absurd hj (Nat.not_lt_zero _)⟩, fun h => h.1⟩
end MSLOT

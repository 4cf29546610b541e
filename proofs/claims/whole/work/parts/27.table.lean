/-! deps: base -/
/-! Timetables of the class. -/
/-- entries other than those of A are as they were -/
def same (I I2 : Nat → Nat → Int32) (A : Nat → Prop) : Prop := ∀ a, ¬ A a → I2 a = I a
theorem same.rf {I : Nat → Nat → Int32} {A : Nat → Prop} : same I I A := fun _ _ => rfl
theorem same.tr {I I2 I3 : Nat → Nat → Int32} {A : Nat → Prop} (x : same I I2 A) (y : same I2 I3 A) : same I I3 A := fun a h => (y a h).trans (x a h)
theorem same.up {I I2 : Nat → Nat → Int32} {A B : Nat → Prop} (x : same I I2 A) (h : ∀ a, A a → B a) : same I I2 B := fun a q => x a (fun z => q (h a z))
theorem same.bd {I I2 : Nat → Nat → Int32} {A : Nat → Prop} {b : Nat} (x : same I I2 A) (h : ∀ a, b ≤ a → a ≤ b + 12 → ¬ A a) : bd I2 b = bd I b := bd_same fun a h1 h2 => x a (h a h1 h2)
/-- what those done leave to a sort, the first i of them -/
def dn0 (S : BS) (s : Nat) : Nat → Int32
  | 0 => bF S 13
  | i + 1 => mx (dn0 S s i) (bDS S i + bGa S ((bDo S i).toNatClampNeg * 8 + s))
/-- the open time from one on -/
def opn (S : BS) (t : Int32) : Int32 := rounds S (bF S 8).toNatClampNeg (bF S 8).toNatClampNeg t
/-- the later one, as put() has it -/
def mx2 (a b : Int32) : Int32 := if a ≤ b then b else a
/-- what the first k of an order leave to a sort; o gives the craft of each place -/
def lst (S : BS) (o : Nat → Nat) : Nat → Nat → Int32
  | 0, s => dn0 S s (bF S 14).toNatClampNeg
  | k + 1, s => mx2 (opn S (mx2 (bRe S (o k)) (lst S o k (bSo S (o k)).toNatClampNeg)) + bGa S ((bSo S (o k)).toNatClampNeg * 8 + s)) (lst S o k s)
/-- the slot of the one at place k -/
def slt (S : BS) (o : Nat → Nat) (k : Nat) : Int32 := opn S (mx2 (bRe S (o k)) (lst S o k (bSo S (o k)).toNatClampNeg))
section TABLE
variable {d : Nat} {L : hL} {I : Nat → Nat → Int32} {J : Nat → Nat → Int64} {t : tl} {b n sn dn q : Nat} {F : Int32 → hp → Prop} {G : hp → Prop} {X : Nat → hp → Prop}
theorem bi_sn (h : BI (bd I b) n sn dn) : (bF (bd I b) 8).toNatClampNeg = sn := by rw [h.2.1.1]; exact nI_clamp (by have := h.2.1.2; omega)
theorem bi_dn (h : BI (bd I b) n sn dn) : (bF (bd I b) 14).toNatClampNeg = dn := by rw [h.2.2.1.1]; exact nI_clamp (by have := h.2.2.1.2; omega)
theorem sp_open {x : Int32} (hB : LB L b) (hI : BI (bd I b) n sn dn) (k : F (opn (bd I b) x) (L, I, J, t)) : cal (d + 1) 22 [.ref b, .int x] (L, I, J, t) (kI F X) := by
  refine sp_openFrom hB hI ?_
  unfold opn at k
  rw [bi_sn hI] at k
  exact k
theorem sp_begin (hT : LT L q b) (hB : LB L b) (hq : q + 3 < b ∨ b + 12 < q) (hI : BI (bd I b) n sn dn) (k : ∀ I2, same I I2 (fun a => a = q + 3) → (∀ s, s < 8 → I2 (q + 3) s = dn0 (bd I b) s dn) → G (L, I2, J, t)) : cal (d + 2) 18 [.ref q] (L, I, J, t) (kV G X) := by
  obtain ⟨⟨t0, tb, -, -, t3⟩, ⟨-, -, u3⟩, ⟨-, -, v3⟩⟩ := hT
  have hB0 := hB
  obtain ⟨b0, ⟨-, -, -, -, -, -, -, -, -, r10, r11, -⟩, ⟨-, -, -, -, -, -, -, -, -, k10, k11, -⟩, ⟨-, -, -, -, -, -, -, -, -, n10, n11, -⟩⟩ := hB
  have hdn := hI.2.2.1.2
  refine e18 (q18_0 ?_)
  have main : ∀ I2 l2 l3, same I I2 (fun a => a = q + 3) → (∀ s, s < 0 → I2 (q + 3) s = dn0 (bd I b) s dn) → Wp (cal (d + 1)) kc_18 [] (kV G X) (2, [some (.ref q), some (.int (nI 0)), l2, l3], [], (L, I2, J, t)) := by
    refine loop0 (P := fun s => ∀ I2 l2 l3, same I I2 (fun a => a = q + 3) → (∀ s', s' < s → I2 (q + 3) s' = dn0 (bd I b) s' dn) → Wp (cal (d + 1)) kc_18 [] (kV G X) (2, [some (.ref q), some (.int (nI s)), l2, l3], [], (L, I2, J, t))) (n := 8) (fun s hs ih I2 l2 l3 hsm hdone => ?_) (fun I2 l2 l3 hsm hdone => ?_)
    · have hbd : bd I2 b = bd I b := hsm.bd (fun a h1 h2 => by omega)
      have hI2 : BI (bd I2 b) n sn dn := by rw [hbd]; exact hI
      have hnow : I2 b 13 = bF (bd I b) 13 := by rw [← hbd]; rfl
      have hdc : I2 b 14 = nI dn := hI2.2.2.1.1
      refine q18_2 (fun h => absurd h (nI_ge hs (by decide))) (fun _ => q18_8 t0 tb b0 ?_)
      have inner : Wp (cal (d + 1)) kc_18 [] (kV G X) (18, [some (.ref q), some (.int (nI s)), some (.int (dn0 (bd I b) s 0)), some (.int (nI 0))], [], (L, I2, J, t)) := by
        refine loop0 (P := fun i => Wp (cal (d + 1)) kc_18 [] (kV G X) (18, [some (.ref q), some (.int (nI s)), some (.int (dn0 (bd I b) s i)), some (.int (nI i))], [], (L, I2, J, t))) (n := dn) (fun i hi ih2 => ?_) ?_
        · obtain ⟨z, hz, ez⟩ := hI2.2.2.2.2.2 i hi
          refine q18_18 t0 tb b0 (fun h => absurd h ?_) (fun _ => q18_29 t0 tb b0 r11 k11 (by show vp_in _ (L.2.1 (b + 11)); rw [n11]; exact vp_in_nI (by omega) (by decide)) r10 k10 (by show vp_in _ (L.2.1 (b + 10)); rw [n10]; exact vp_in_nI (by omega) (by decide)) ?_)
          · show ¬ I2 b 14 ≤ nI i
            rw [hdc]
            exact nI_ge hi (by omega)
          have e1 : (nI i).toNatClampNeg = i := nI_clamp (by omega)
          show cal (d + 1) 19 [.ref b, .int (I2 (b + 10) (nI i).toNatClampNeg), .int (nI s)] (L, I2, J, t) _
          rw [e1, show I2 (b + 10) i = nI z from ez]
          refine sp_gapOf hB0 hz hs (q18_56 ?_)
          rw [nI_succ] at ih2
          have e2 : dn0 (bd I b) s (i + 1) = (if dn0 (bd I b) s i < I2 (b + 11) i + bGa (bd I2 b) (z * 8 + s) then I2 (b + 11) i + bGa (bd I2 b) (z * 8 + s) else dn0 (bd I b) s i) := by
            show mx _ _ = _
            rw [← hbd, show bDo (bd I2 b) i = nI z from ez, nI_clamp (by omega)]
            rfl
          rw [e2] at ih2
          exact ih2
        · refine q18_18 t0 tb b0 (fun _ => q18_67 t0 t3 u3 (by show vp_in _ (L.2.1 (q + 3)); rw [v3]; exact vp_in_nI (by omega) (by decide)) ?_) (fun h => absurd ?_ h)
          · have e1 : (nI s).toNatClampNeg = s := nI_clamp (by omega)
            have := ih (wr I2 (q + 3) s (dn0 (bd I b) s dn)) (some (.int (dn0 (bd I b) s dn))) (some (.int (nI dn))) (fun a ha => by rw [wr_row (by exact ha)]; exact hsm a ha) (fun s' hs' => by
              by_cases e : s' = s
              · subst e; rw [wr_at]
              · rw [wr_ne (by omega)]; exact hdone s' (by omega))
            rw [nI_succ] at this
            show Wp (cal (d + 1)) kc_18 [] (kV G X) (2, [some (.ref q), some (.int (nI s + 1)), some (.int (dn0 (bd I b) s dn)), some (.int (nI dn))], [], (L, wr I2 (q + 3) (nI s).toNatClampNeg (dn0 (bd I b) s dn), J, t))
            rw [e1]
            exact this
          · show I2 b 14 ≤ nI dn
            rw [hdc]
            exact nI_le (Nat.le_refl _) (by omega)
      show Wp (cal (d + 1)) kc_18 [] (kV G X) (18, [some (.ref q), some (.int (nI s)), some (.int (I2 b 13)), some (.int 0)], [], (L, I2, J, t))
      rw [hnow]
      exact inner
    · exact q18_2 (fun _ => q18_80 (k I2 hsm hdone)) (fun h => absurd (nI_le (Nat.le_refl 8) (by decide)) h)
  exact main I _ _ same.rf (fun s h => absurd h (Nat.not_lt_zero _))
/-- the first k places are laid: who stands there, the slots, what they leave -/
def Tab (I : Nat → Nat → Int32) (q : Nat) (S : BS) (o : Nat → Nat) (k : Nat) : Prop := (∀ j, j < k → I (q + 1) j = nI (o j) ∧ I (q + 2) j = slt S o j) ∧ ∀ j, j ≤ k → ∀ s, s < 8 → I (q + 3) (j * 8 + s) = lst S o j s
theorem lst_congr {S : BS} {o o' : Nat → Nat} : ∀ {k : Nat}, (∀ j, j < k → o j = o' j) → ∀ s, lst S o k s = lst S o' k s
  | 0, _, s => rfl
  | k + 1, h, s => by
    unfold lst
    rw [h k (by omega), lst_congr (fun j hj => h j (by omega)) s, lst_congr (fun j hj => h j (by omega)) (bSo S (o' k)).toNatClampNeg]
theorem slt_congr {S : BS} {o o' : Nat → Nat} {k : Nat} (h : ∀ j, j ≤ k → o j = o' j) : slt S o k = slt S o' k := by
  unfold slt
  rw [h k (Nat.le_refl _), lst_congr (fun j hj => h j (by omega))]
theorem Tab.congr {S : BS} {o o' : Nat → Nat} {k : Nat} (h : ∀ j, j < k → o j = o' j) (x : Tab I q S o k) : Tab I q S o' k :=
  ⟨fun j hj => ⟨by rw [← h j hj]; exact (x.1 j hj).1, by rw [← slt_congr (fun i hi => h i (by omega))]; exact (x.1 j hj).2⟩, fun j hj s hs => by rw [← lst_congr (fun i hi => h i (by omega))]; exact x.2 j hj s hs⟩
theorem Tab.less {S : BS} {o : Nat → Nat} {k k' : Nat} (h : k' ≤ k) (x : Tab I q S o k) : Tab I q S o k' := ⟨fun j hj => x.1 j (by omega), fun j hj => x.2 j (by omega)⟩
theorem Tab.same {S : BS} {o : Nat → Nat} {k : Nat} {I2 : Nat → Nat → Int32} {A : Nat → Prop} (x : Tab I q S o k) (h : same I I2 A) (hA : ∀ a, q < a → a ≤ q + 3 → ¬ A a) : Tab I2 q S o k := by
  unfold Tab
  rw [h (q + 1) (hA _ (by omega) (by omega)), h (q + 2) (hA _ (by omega) (by omega)), h (q + 3) (hA _ (by omega) (by omega))]
  exact x
theorem sp_soonest {o : Nat → Nat} {p c : Nat} (hT : LT L q b) (hB : LB L b) (hI : BI (bd I b) n sn dn) (hp : p ≤ 10) (hc : c < n) (hTab : Tab I q (bd I b) o p) (k : F (mx2 (bRe (bd I b) c) (lst (bd I b) o p (bSo (bd I b) c).toNatClampNeg)) (L, I, J, t)) : cal (d + 1) 21 [.ref q, .int (nI p), .int (nI c)] (L, I, J, t) (kI F X) := by
  obtain ⟨⟨t0, tb, -, -, t3⟩, ⟨-, -, u3⟩, ⟨-, -, v3⟩⟩ := hT
  obtain ⟨b0, ⟨r1, r2, -⟩, ⟨k1, k2, -⟩, ⟨n1, n2, -⟩⟩ := hB
  have hn := hI.1.2
  obtain ⟨z, hz, ez⟩ := hI.2.2.2.1 c hc
  have e1 : (nI c).toNatClampNeg = c := nI_clamp (by omega)
  have e2 : nI p * 8 + nI z = nI (p * 8 + z) := by rw [show (8 : Int32) = nI 8 from rfl, pk_mul, nI_add]
  have e3 : (nI p * 8 + I (b + 1) (nI c).toNatClampNeg).toNatClampNeg = p * 8 + z := by rw [e1, show I (b + 1) c = nI z from ez, e2, nI_clamp (by omega)]
  have e4 : (bSo (bd I b) c).toNatClampNeg = z := by rw [ez, nI_clamp (by omega)]
  rw [e4, ← hTab.2 p (Nat.le_refl _) z hz] at k
  refine e21 (q21_0 t0 t3 tb b0 r1 k1 (by show vp_in _ (L.2.1 (b + 1)); rw [n1]; exact vp_in_nI (by omega) (by decide)) u3 (by show vp_in (nI p * 8 + I (b + 1) (nI c).toNatClampNeg) (L.2.1 (q + 3)); rw [v3, e1, show I (b + 1) c = nI z from ez, e2]; exact vp_in_nI (by omega) (by decide)) r2 k2 (by show vp_in _ (L.2.1 (b + 2)); rw [n2]; exact vp_in_nI (by omega) (by decide)) (fun h => q21_42 (q21_43 ?_)) (fun h => q21_37 (q21_43 ?_)))
  · dsimp only at h ⊢
    rw [e3] at h ⊢
    rw [e1] at h
    rw [show mx2 (bRe (bd I b) c) (I (q + 3) (p * 8 + z)) = I (q + 3) (p * 8 + z) from if_pos h] at k
    exact k
  · dsimp only at h ⊢
    rw [e3, e1] at h
    rw [e1]
    rw [show mx2 (bRe (bd I b) c) (I (q + 3) (p * 8 + z)) = bRe (bd I b) c from if_neg h] at k
    exact k
theorem sp_put {o : Nat → Nat} {p c : Nat} (hT : LT L q b) (hB : LB L b) (hq : q + 3 < b ∨ b + 12 < q) (hI : BI (bd I b) n sn dn) (hp : p < 10) (hc : c < n) (ho : o p = c) (hTab : Tab I q (bd I b) o p) (k : ∀ I2, same I I2 (fun a => q < a ∧ a ≤ q + 3) → Tab I2 q (bd I b) o (p + 1) → F (slt (bd I b) o p) (L, I2, J, t)) : cal (d + 2) 20 [.ref q, .int (nI p), .int (nI c)] (L, I, J, t) (kI F X) := by
  have hT0 := hT
  have hB0 := hB
  obtain ⟨⟨t0, tb, t1, t2, t3⟩, ⟨u1, u2, u3⟩, ⟨v1, v2, v3⟩⟩ := hT
  obtain ⟨b0, ⟨r1, -, -, -, -, -, r7, -⟩, ⟨k1, -, -, -, -, -, k7, -⟩, ⟨n1, -, -, -, -, -, n7, -⟩⟩ := hB
  have hn := hI.1.2
  obtain ⟨z, hz, ez⟩ := hI.2.2.2.1 c hc
  have e1 : (nI c).toNatClampNeg = c := nI_clamp (by omega)
  have e2 : (nI p).toNatClampNeg = p := nI_clamp (by omega)
  have e4 : (bSo (bd I b) c).toNatClampNeg = z := by rw [ez, nI_clamp (by omega)]
  have hslot : slt (bd I b) o p = opn (bd I b) (mx2 (bRe (bd I b) c) (lst (bd I b) o p (bSo (bd I b) c).toNatClampNeg)) := by unfold slt; rw [ho]
  refine e20 (q20_0 t0 tb (sp_soonest hT0 hB0 hI (by omega) hc hTab (q20_10 b0 (sp_open hB0 hI ?_))))
  rw [← hslot]
  refine q20_13 (v_17 := nI z) t0 t1 u1 (by show vp_in _ (L.2.1 (q + 1)); rw [v1]; exact vp_in_nI (by omega) (by decide)) t2 u2 (by show vp_in _ (L.2.1 (q + 2)); rw [v2]; exact vp_in_nI (by omega) (by decide)) tb b0 r1 k1 (by show vp_in _ (L.2.1 (b + 1)); rw [n1]; exact vp_in_nI (by omega) (by decide)) ?_ ?_
  · dsimp only
    rw [e1, wr_row (by omega), wr_row (by omega)]
    exact ez
  have main : ∀ I2 l7 l8, same I I2 (fun a => q < a ∧ a ≤ q + 3) → Tab I2 q (bd I b) o p → (I2 (q + 1) p = nI c ∧ I2 (q + 2) p = slt (bd I b) o p) → (∀ s, s < 0 → I2 (q + 3) ((p + 1) * 8 + s) = lst (bd I b) o (p + 1) s) → Wp (cal (d + 1)) kc_20 [] (kI F X) (51, [some (.ref q), some (.int (nI p)), some (.int (nI c)), some (.int (slt (bd I b) o p)), some (.int (nI p * 8)), some (.int (nI z * 8)), some (.int (nI 0)), l7, l8], [], (L, I2, J, t)) := by
    refine loop0 (P := fun s => ∀ I2 l7 l8, same I I2 (fun a => q < a ∧ a ≤ q + 3) → Tab I2 q (bd I b) o p → (I2 (q + 1) p = nI c ∧ I2 (q + 2) p = slt (bd I b) o p) → (∀ s', s' < s → I2 (q + 3) ((p + 1) * 8 + s') = lst (bd I b) o (p + 1) s') → Wp (cal (d + 1)) kc_20 [] (kI F X) (51, [some (.ref q), some (.int (nI p)), some (.int (nI c)), some (.int (slt (bd I b) o p)), some (.int (nI p * 8)), some (.int (nI z * 8)), some (.int (nI s)), l7, l8], [], (L, I2, J, t))) (n := 8) (fun s hs ih I2 l7 l8 hsm hTb hrow hdone => ?_) (fun I2 l7 l8 hsm hTb hrow hdone => ?_)
    · have hbd : bd I2 b = bd I b := hsm.bd (fun a h1 h2 => by omega)
      have e8 : nI p * 8 = nI (p * 8) := by rw [show (8 : Int32) = nI 8 from rfl, pk_mul]
      have e9 : nI z * 8 = nI (z * 8) := by rw [show (8 : Int32) = nI 8 from rfl, pk_mul]
      have ex : (nI z * 8 + nI s).toNatClampNeg = z * 8 + s := by rw [e9, nI_add, nI_clamp (by omega)]
      have ey : (nI p * 8 + nI s).toNatClampNeg = p * 8 + s := by rw [e8, nI_add, nI_clamp (by omega)]
      have ew : nI p * 8 + 8 + nI s = nI ((p + 1) * 8 + s) := by rw [e8, show (8 : Int32) = nI 8 from rfl, nI_add, nI_add]; congr 1; omega
      have ew2 : (nI p * 8 + 8 + nI s).toNatClampNeg = (p + 1) * 8 + s := by rw [ew, nI_clamp (by omega)]
      have hgap : I2 (b + 7) (z * 8 + s) = bGa (bd I b) (z * 8 + s) := by rw [← hbd]; rfl
      have hlst : lst (bd I b) o (p + 1) s = mx2 (slt (bd I b) o p + I2 (b + 7) (z * 8 + s)) (I2 (q + 3) (p * 8 + s)) := by
        rw [hTb.2 p (Nat.le_refl _) s hs, hgap]
        show mx2 (slt (bd I b) o p + bGa (bd I b) ((bSo (bd I b) (o p)).toNatClampNeg * 8 + s)) (lst (bd I b) o p s) = _
        rw [ho, e4]
      have vin : vp_in (nI p * 8 + 8 + nI s) (L.2.1 (q + 3)) := by rw [v3, ew]; exact vp_in_nI (by omega) (by decide)
      have next : ∀ x l7 l8, x = lst (bd I b) o (p + 1) s → Wp (cal (d + 1)) kc_20 [] (kI F X) (51, [some (.ref q), some (.int (nI p)), some (.int (nI c)), some (.int (slt (bd I b) o p)), some (.int (nI p * 8)), some (.int (nI z * 8)), some (.int (nI s + 1)), l7, l8], [], (L, wr I2 (q + 3) ((nI p * 8 + 8 + nI s).toNatClampNeg) x, J, t)) := by
        intro x l7 l8 hx
        rw [ew2]
        have := ih (wr I2 (q + 3) ((p + 1) * 8 + s) x) l7 l8 (fun a ha => by rw [wr_row (by omega)]; exact hsm a ha) ⟨fun j hj => by rw [wr_row (by omega), wr_row (by omega)]; exact hTb.1 j hj, fun j hj s' hs' => by rw [wr_ne (by omega)]; exact hTb.2 j hj s' hs'⟩ (by rw [wr_row (by omega), wr_row (by omega)]; exact hrow) (fun s' hs' => by
          by_cases e : s' = s
          · subst e; rw [wr_at]; exact hx
          · rw [wr_ne (by omega)]; exact hdone s' (by omega))
        rw [nI_succ] at this
        exact this
      refine q20_51 (fun h => absurd h (nI_ge hs (by decide))) (fun _ => q20_58 t0 tb b0 r7 k7 (by show vp_in _ (L.2.1 (b + 7)); rw [n7, e9, nI_add]; exact vp_in_nI (by omega) (by decide)) t3 u3 (by show vp_in _ (L.2.1 (q + 3)); rw [v3, e8, nI_add]; exact vp_in_nI (by omega) (by decide)) (fun h => q20_111 (q20_113 u3 vin (next _ _ _ ?_))) (fun h => q20_106 (q20_113 u3 vin (next _ _ _ ?_))))
      · dsimp only at h ⊢
        rw [ex, ey] at h
        rw [ey, hlst]
        exact (if_pos h).symm
      · dsimp only at h ⊢
        rw [ex, ey] at h
        rw [ex, hlst]
        exact (if_neg h).symm
    · refine q20_51 (fun _ => q20_120 (k I2 hsm ⟨fun j hj => ?_, fun j hj s hs => ?_⟩)) (fun h => absurd (nI_le (Nat.le_refl 8) (by decide)) h)
      · by_cases e : j = p
        · subst e; rw [ho]; exact hrow
        · exact hTb.1 j (by omega)
      · by_cases e : j = p + 1
        · subst e; exact hdone s hs
        · exact hTb.2 j (by omega) s hs
  dsimp only
  rw [e2]
  refine main _ _ _ (fun a ha => ?_) ⟨fun j hj => ?_, fun j hj s hs => ?_⟩ ?_ (fun s h => absurd h (Nat.not_lt_zero _))
  · rw [wr_row (by omega), wr_row (by omega)]
  · rw [wr_row (by omega), wr_ne (by omega), wr_ne (by omega), wr_row (by omega)]
    exact hTab.1 j hj
  · rw [wr_row (by omega), wr_row (by omega)]
    exact hTab.2 j hj s hs
  · rw [wr_row (by omega), wr_at, wr_at]
    exact ⟨rfl, rfl⟩
end TABLE

/-! deps: base -/
/-! Timetables of the class. -/
/-- entries other than those of A are as they were -/
def same (I I2 : Nat → Nat → Int32) (A : Nat → Prop) : Prop := ∀ a, ¬ A a → I2 a = I a
theorem same.rf {I : Nat → Nat → Int32} {A : Nat → Prop} : same I I A := fun _ _ => rfl
theorem same.tr {I I2 I3 : Nat → Nat → Int32} {A : Nat → Prop} (x : same I I2 A) (y : same I2 I3 A) : same I I3 A := fun a h => (y a h).trans (x a h)
theorem same.up {I I2 : Nat → Nat → Int32} {A B : Nat → Prop} (x : same I I2 A) (h : ∀ a, A a → B a) : same I I2 B := fun a q => x a (fun z => q (h a z))
theorem same.bd {I I2 : Nat → Nat → Int32} {A : Nat → Prop} {b : Nat} (x : same I I2 A) (h : ∀ a, b ≤ a → a ≤ b + 12 → ¬ A a) : bd I2 b = bd I b := bd_same fun a h1 h2 => x a (h a h1 h2)
/-- what those done leave to a sort, the first i of them -/
def dn0 (S : BS) (s : Nat) : Nat → Int32
  | 0 => bF S 13
  | i + 1 => mx (dn0 S s i) (bDS S i + bGa S ((bDo S i).toNatClampNeg * 8 + s))
/-- the open time from one on -/
def opn (S : BS) (t : Int32) : Int32 := rounds S (bF S 8).toNatClampNeg (bF S 8).toNatClampNeg t
/-- the later one, as put() has it -/
def mx2 (a b : Int32) : Int32 := if a ≤ b then b else a
/-- what the first k of an order leave to a sort; o gives the craft of each place -/
def lst (S : BS) (o : Nat → Nat) : Nat → Nat → Int32
  | 0, s => dn0 S s (bF S 14).toNatClampNeg
  | k + 1, s => mx2 (opn S (mx2 (bRe S (o k)) (lst S o k (bSo S (o k)).toNatClampNeg)) + bGa S ((bSo S (o k)).toNatClampNeg * 8 + s)) (lst S o k s)
/-- the slot of the one at place k -/
def slt (S : BS) (o : Nat → Nat) (k : Nat) : Int32 := opn S (mx2 (bRe S (o k)) (lst S o k (bSo S (o k)).toNatClampNeg))
section TABLE
variable {d : Nat} {L : hL} {I : Nat → Nat → Int32} {J : Nat → Nat → Int64} {t : tl} {b n sn dn q : Nat} {F : Int32 → hp → Prop} {G : hp → Prop} {X : Nat → hp → Prop}
theorem BI.sn (h : BI (bd I b) n sn dn) : (bF (bd I b) 8).toNatClampNeg = sn := by rw [h.2.1.1]; exact nI_clamp (by have := h.2.1.2; omega)
theorem BI.dn (h : BI (bd I b) n sn dn) : (bF (bd I b) 14).toNatClampNeg = dn := by rw [h.2.2.1.1]; exact nI_clamp (by have := h.2.2.1.2; omega)
theorem sp_open {x : Int32} (hB : LB L b) (hI : BI (bd I b) n sn dn) (k : F (opn (bd I b) x) (L, I, J, t)) : cal (d + 1) 22 [.ref b, .int x] (L, I, J, t) (kI F X) := by
  refine sp_openFrom hB hI ?_
  unfold opn at k
  rw [hI.sn] at k
  exact k
theorem sp_begin (hT : LT L q b) (hB : LB L b) (hq : q + 3 < b ∨ b + 12 < q) (hI : BI (bd I b) n sn dn) (k : ∀ I2, same I I2 (fun a => a = q + 3) → (∀ s, s < 8 → I2 (q + 3) s = dn0 (bd I b) s dn) → G (L, I2, J, t)) : cal (d + 2) 18 [.ref q] (L, I, J, t) (kV G X) := by
  obtain ⟨⟨t0, tb, -, -, t3⟩, ⟨-, -, u3⟩, ⟨-, -, v3⟩⟩ := hT
  have hB0 := hB
  obtain ⟨b0, ⟨-, -, -, -, -, -, -, -, -, r10, r11, -⟩, ⟨-, -, -, -, -, -, -, -, -, k10, k11, -⟩, ⟨-, -, -, -, -, -, -, -, -, n10, n11, -⟩⟩ := hB
  have hdn := hI.2.2.1.2
  refine e18 (q18_0 ?_)
  have main : ∀ I2 l2 l3, same I I2 (fun a => a = q + 3) → (∀ s, s < 0 → I2 (q + 3) s = dn0 (bd I b) s dn) → Wp (cal (d + 1)) kc_18 [] (kV G X) (2, [some (.ref q), some (.int (nI 0)), l2, l3], [], (L, I2, J, t)) := by
    refine loop0 (P := fun s => ∀ I2 l2 l3, same I I2 (fun a => a = q + 3) → (∀ s', s' < s → I2 (q + 3) s' = dn0 (bd I b) s' dn) → Wp (cal (d + 1)) kc_18 [] (kV G X) (2, [some (.ref q), some (.int (nI s)), l2, l3], [], (L, I2, J, t))) (n := 8) (fun s hs ih I2 l2 l3 hsm hdone => ?_) (fun I2 l2 l3 hsm hdone => ?_)
    · have hbd : bd I2 b = bd I b := hsm.bd (fun a h1 h2 => by omega)
      have hI2 : BI (bd I2 b) n sn dn := by rw [hbd]; exact hI
      have hnow : I2 b 13 = bF (bd I b) 13 := by rw [← hbd]; rfl
      have hdc : I2 b 14 = nI dn := hI2.2.2.1.1
      refine q18_2 (fun h => absurd h (nI_ge hs (by decide))) (fun _ => q18_8 t0 tb b0 ?_)
      have inner : Wp (cal (d + 1)) kc_18 [] (kV G X) (18, [some (.ref q), some (.int (nI s)), some (.int (dn0 (bd I b) s 0)), some (.int (nI 0))], [], (L, I2, J, t)) := by
        refine loop0 (P := fun i => Wp (cal (d + 1)) kc_18 [] (kV G X) (18, [some (.ref q), some (.int (nI s)), some (.int (dn0 (bd I b) s i)), some (.int (nI i))], [], (L, I2, J, t))) (n := dn) (fun i hi ih2 => ?_) ?_
        · obtain ⟨z, hz, ez⟩ := hI2.2.2.2.2.2 i hi
          refine q18_18 t0 tb b0 (fun h => absurd h ?_) (fun _ => q18_29 t0 tb b0 r11 k11 (by show vp_in _ (L.2.1 (b + 11)); rw [n11]; exact vp_in_nI (by omega) (by decide)) r10 k10 (by show vp_in _ (L.2.1 (b + 10)); rw [n10]; exact vp_in_nI (by omega) (by decide)) ?_)
          · show ¬ I2 b 14 ≤ nI i
            rw [hdc]
            exact nI_ge hi (by omega)
          have e1 : (nI i).toNatClampNeg = i := nI_clamp (by omega)
          show cal (d + 1) 19 [.ref b, .int (I2 (b + 10) (nI i).toNatClampNeg), .int (nI s)] (L, I2, J, t) _
          rw [e1, show I2 (b + 10) i = nI z from ez]
          refine sp_gapOf hB0 hz hs (q18_56 ?_)
          rw [nI_succ] at ih2
          have e2 : dn0 (bd I b) s (i + 1) = (if dn0 (bd I b) s i < I2 (b + 11) i + bGa (bd I2 b) (z * 8 + s) then I2 (b + 11) i + bGa (bd I2 b) (z * 8 + s) else dn0 (bd I b) s i) := by
            show mx _ _ = _
            rw [← hbd, show bDo (bd I2 b) i = nI z from ez, nI_clamp (by omega)]
            rfl
          rw [e2] at ih2
          show Wp (cal (d + 1)) kc_18 [] (kV G X) (18, [some (.ref q), some (.int (nI s)), some (.int (if dn0 (bd I b) s i < I2 (b + 11) (nI i).toNatClampNeg + bGa (bd I2 b) (z * 8 + s) then I2 (b + 11) (nI i).toNatClampNeg + bGa (bd I2 b) (z * 8 + s) else dn0 (bd I b) s i)), some (.int (nI i + 1))], [], (L, I2, J, t))
          rw [e1]
          exact ih2
        · refine q18_18 t0 tb b0 (fun _ => q18_67 t0 t3 u3 (by show vp_in _ (L.2.1 (q + 3)); rw [v3]; exact vp_in_nI (by omega) (by decide)) ?_) (fun h => absurd ?_ h)
          · have e1 : (nI s).toNatClampNeg = s := nI_clamp (by omega)
            have := ih (wr I2 (q + 3) s (dn0 (bd I b) s dn)) (some (.int (dn0 (bd I b) s dn))) (some (.int (nI dn))) (fun a ha => by rw [wr_row (by exact ha)]; exact hsm a ha) (fun s' hs' => by
              by_cases e : s' = s
              · subst e; rw [wr_at]
              · rw [wr_ne (by omega)]; exact hdone s' (by omega))
            rw [nI_succ] at this
            show Wp (cal (d + 1)) kc_18 [] (kV G X) (2, [some (.ref q), some (.int (nI s + 1)), some (.int (dn0 (bd I b) s dn)), some (.int (nI dn))], [], (L, wr I2 (q + 3) (nI s).toNatClampNeg (dn0 (bd I b) s dn), J, t))
            rw [e1]
            exact this
          · show I2 b 14 ≤ nI dn
            rw [hdc]
            exact nI_le (Nat.le_refl _) (by omega)
      show Wp (cal (d + 1)) kc_18 [] (kV G X) (18, [some (.ref q), some (.int (nI s)), some (.int (I2 b 13)), some (.int 0)], [], (L, I2, J, t))
      rw [hnow]
      exact inner
    · exact q18_2 (fun _ => q18_80 (k I2 hsm hdone)) (fun h => absurd (nI_le (Nat.le_refl 8) (by decide)) h)
  exact main I _ _ same.rf (fun s h => absurd h (Nat.not_lt_zero _))
end TABLE

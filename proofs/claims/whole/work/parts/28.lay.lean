/-! deps: table -/
/-! Timetables: a whole order, what it costs. -/
def bI (x : Bool) : Int32 := if x then 1 else 0
theorem bI_01 (x : Bool) : bI x = 0 ∨ bI x = 1 := by cases x <;> simp [bI]
def allB (p : Nat → Bool) : Nat → Bool
  | 0 => true
  | k + 1 => allB p k && p k
theorem allB_iff {p : Nat → Bool} : ∀ {n : Nat}, allB p n = true ↔ ∀ j, j < n → p j = true
  | 0 => ⟨fun _ j h => absurd h (Nat.not_lt_zero _), fun _ => rfl⟩
  | n + 1 => by
    unfold allB
    rw [Bool.and_eq_true, allB_iff]
    exact ⟨fun h j hj => by
      by_cases e : j = n
      · rw [e]; exact h.2
      · exact h.1 j (by omega), fun h => ⟨fun j hj => h j (by omega), h n (by omega)⟩⟩
theorem allB_f {p : Nat → Bool} {n i : Nat} (h : i < n) (hp : p i = false) : allB p n = false := by
  cases e : allB p n with
  | false => rfl
  | true => rw [allB_iff.mp e i h] at hp; cases hp
theorem allB_congr {p p' : Nat → Bool} {n : Nat} (h : ∀ j, j < n → p j = p' j) : allB p n = allB p' n := by
  cases e : allB p' n with
  | true => exact allB_iff.mpr fun j hj => (h j hj).trans (allB_iff.mp e j hj)
  | false =>
    cases e2 : allB p n with
    | false => rfl
    | true => rw [← e]; exact (allB_iff.mpr fun j hj => (h j hj).symm.trans (allB_iff.mp e2 j hj)).symm
/-- how many at the front are no later than x: m more from k on -/
def due (f : Nat → Int32) (x : Int32) : Nat → Nat → Nat
  | 0, k => k
  | m + 1, k => if x < f k then k else due f x m (k + 1)
theorem due_le {f : Nat → Int32} {x : Int32} : ∀ {m k : Nat}, due f x m k ≤ k + m
  | 0, k => Nat.le_refl _
  | m + 1, k => by
    unfold due
    split
    · omega
    · have := due_le (f := f) (x := x) (m := m) (k := k + 1); omega
def cw (S : BS) (y ahead : Int32) (c : Nat) (slot : Int32) : Int32 := if y = 0 then ahead + (slot - bRe S c) * bWe S c else mx2 (if y = 1 then slot else slot - bRe S c) ahead
def cst (S : BS) (o : Nat → Nat) (y : Int32) : Nat → Int32
  | 0 => 0
  | k + 1 => cw S y (cst S o y k) (o k) (slt S o k)
def hold (S : BS) (o : Nat → Nat) (n : Nat) : Bool := allB (fun j => decide (slt S o j ≤ bLa S (o j))) n
/-- the plan -/
def ordN (S : BS) (k : Nat) : Nat := (bOr S k).toNatClampNeg
def frz (S : BS) (n : Nat) : Nat := due (slt S (ordN S)) (bF S 13 + bF S 12) n 0
section LAY
variable {d : Nat} {L : hL} {I : Nat → Nat → Int32} {J : Nat → Nat → Int64} {t : tl} {b n sn dn q : Nat} {o : Nat → Nat} {F : Int32 → hp → Prop} {G : hp → Prop} {N : Nat → hp → Prop} {X : Nat → hp → Prop}
theorem bi_or (h : BI (bd I b) n sn dn) {k : Nat} (hk : k < n) : bOr (bd I b) k = nI (ordN (bd I b) k) ∧ ordN (bd I b) k < n := by
  obtain ⟨z, hz, e⟩ := h.2.2.2.2.1 k hk
  have := h.1.2
  unfold ordN
  rw [e, nI_clamp (by omega)]
  exact ⟨rfl, hz⟩
theorem sp_lay {a1 : Nat} (hT : LT L q b) (hB : LB L b) (hq : q + 3 < b ∨ b + 12 < q) (hI : BI (bd I b) n sn dn) (ha : L.1 a1 = 20) (hl : L.2.1 a1 = 10) (hsep : a1 ≤ q ∨ q + 3 < a1) (ho : ∀ j, j < n → I a1 j = nI (o j) ∧ o j < n)
    (k : ∀ I2, same I I2 (fun a => q < a ∧ a ≤ q + 3) → Tab I2 q (bd I b) o n → N q (L, I2, J, t)) : cal (d + 3) 17 [.ref q, .ref a1] (L, I, J, t) (kR N X) := by
  have hT0 := hT
  have hB0 := hB
  obtain ⟨⟨t0, tb, -⟩, -⟩ := hT
  have b0 := hB.1
  have hn := hI.1.2
  refine e17 (q17_0 t0 (sp_begin hT0 hB0 hq hI fun I1 hs1 hd1 => q17_4 ?_))
  have main : ∀ I2, same I I2 (fun a => q < a ∧ a ≤ q + 3) → Tab I2 q (bd I b) o 0 → Wp (cal (d + 2)) kc_17 [] (kR N X) (6, [some (.ref q), some (.ref a1), some (.int (nI 0))], [], (L, I2, J, t)) := by
    refine loop0 (P := fun p => ∀ I2, same I I2 (fun a => q < a ∧ a ≤ q + 3) → Tab I2 q (bd I b) o p → Wp (cal (d + 2)) kc_17 [] (kR N X) (6, [some (.ref q), some (.ref a1), some (.int (nI p))], [], (L, I2, J, t))) (n := n) (fun p hp ih I2 hsm hTb => ?_) (fun I2 hsm hTb => ?_)
    · have hbd : bd I2 b = bd I b := hsm.bd (fun a h1 h2 => by omega)
      have hI2 : BI (bd I2 b) n sn dn := by rw [hbd]; exact hI
      refine q17_6 t0 tb b0 (fun h => absurd h ?_) (fun _ => q17_17 ha (by show vp_in _ (L.2.1 a1); rw [hl]; exact vp_in_nI (by omega) (by decide)) t0 ?_)
      · show ¬ I2 b 0 ≤ nI p
        rw [show I2 b 0 = nI n from hI2.1.1]
        exact nI_ge hp (by omega)
      show cal (d + 2) 20 [.ref q, .int (nI p), .int (I2 a1 (nI p).toNatClampNeg)] (L, I2, J, t) _
      rw [nI_clamp (by omega), hsm a1 (by omega), (ho p hp).1]
      refine sp_put (o := o) hT0 hB0 hq hI2 (by omega) (ho p hp).2 rfl (by rw [hbd]; exact hTb) fun I3 hs3 hT3 => q17_25 ?_
      rw [hbd] at hT3
      have := ih I3 (hsm.tr hs3) hT3
      rw [nI_succ] at this
      exact this
    · have hbd : bd I2 b = bd I b := hsm.bd (fun a h1 h2 => by omega)
      refine q17_6 t0 tb b0 (fun _ => q17_32 (k I2 hsm hTb)) (fun h => absurd ?_ h)
      show I2 b 0 ≤ nI n
      rw [show I2 b 0 = bF (bd I2 b) 0 from rfl, hbd, hI.1.1]
      exact nI_le (Nat.le_refl _) (by omega)
  refine main I1 (hs1.up fun a h => by omega) ⟨fun j hj => absurd hj (Nat.not_lt_zero _), fun j hj s hs => ?_⟩
  have : j = 0 := by omega
  subst this
  rw [Nat.zero_mul, Nat.zero_add, hd1 s hs]
  show _ = dn0 (bd I b) s (bF (bd I b) 14).toNatClampNeg
  rw [bi_dn hI]
theorem sp_dueBy {x : Int32} (hT : LT L q b) (hB : LB L b) (hI : BI (bd I b) n sn dn) (hTb : Tab I q (bd I b) o n) (k : F (nI (due (slt (bd I b) o) x n 0)) (L, I, J, t)) : cal (d + 1) 23 [.ref q, .int x] (L, I, J, t) (kI F X) := by
  obtain ⟨⟨t0, tb, t1, t2, t3⟩, ⟨u1, u2, u3⟩, ⟨v1, v2, v3⟩⟩ := hT
  have b0 := hB.1
  have hn := hI.1.2
  refine e23 (q23_0 ?_)
  refine loop0 (P := fun i => due (slt (bd I b) o) x n 0 = due (slt (bd I b) o) x (n - i) i → Wp (cal d) kc_23 [] (kI F X) (2, [some (.ref q), some (.int x), some (.int (nI i))], [], (L, I, J, t))) (n := n) (fun i hi ih hd => ?_) (fun hd => ?_) rfl
  · refine q23_2 t0 tb b0 (fun h => absurd h ?_) (fun _ => q23_13 t0 t2 u2 (by show vp_in _ (L.2.1 (q + 2)); rw [v2]; exact vp_in_nI (by omega) (by decide)) (fun h => q23_29 ?_) (fun h => q23_23 ?_))
    · show ¬ I b 0 ≤ nI i
      rw [show I b 0 = nI n from hI.1.1]
      exact nI_ge hi (by omega)
    · dsimp only at h
      rw [nI_clamp (by omega), (hTb.1 i hi).2] at h
      rw [hd, show n - i = (n - (i + 1)) + 1 by omega] at k
      unfold due at k
      rw [if_pos h] at k
      exact k
    · dsimp only at h
      rw [nI_clamp (by omega), (hTb.1 i hi).2] at h
      have := ih (by
        rw [hd, show n - i = (n - (i + 1)) + 1 by omega]
        rw [due, if_neg h])
      rw [nI_succ] at this
      exact this
  · refine q23_2 t0 tb b0 (fun _ => q23_29 ?_) (fun h => absurd ?_ h)
    · rw [hd, Nat.sub_self] at k
      exact k
    · show I b 0 ≤ nI n
      rw [show I b 0 = nI n from hI.1.1]
      exact nI_le (Nat.le_refl _) (by omega)
theorem sp_costWith {ahead y slot : Int32} {c : Nat} (hT : LT L q b) (hB : LB L b) (hc : c < 10) (k : F (cw (bd I b) y ahead c slot) (L, I, J, t)) : cal (d + 1) 45 [.ref q, .int ahead, .int y, .int (nI c), .int slot] (L, I, J, t) (kI F X) := by
  obtain ⟨⟨t0, tb, -⟩, -⟩ := hT
  obtain ⟨b0, ⟨-, r2, -, r4, -⟩, ⟨-, k2, -, k4, -⟩, ⟨-, n2, -, n4, -⟩⟩ := hB
  have e1 : (nI c).toNatClampNeg = c := nI_clamp (by omega)
  refine e45 (q45_0 t0 tb b0 r2 k2 (by show vp_in _ (L.2.1 (b + 2)); rw [n2]; exact vp_in_nI (by omega) (by decide)) (fun h => ?_) (fun h => q45_18 t0 tb b0 r4 k4 (by show vp_in _ (L.2.1 (b + 4)); rw [n4]; exact vp_in_nI (by omega) (by decide)) ?_))
  · have fin : ∀ (own : Int32) l6, (if y = 1 then slot else slot - bRe (bd I b) c) = own → Wp (cal d) kc_45 [] (kI F X) (45, [some (.ref q), some (.int ahead), some (.int y), some (.int (nI c)), some (.int slot), some (.int (slot - I (b + 2) (nI c).toNatClampNeg)), l6], [.int own], (L, I, J, t)) := by
      intro own l6 ho
      unfold cw at k
      rw [if_neg h, ho] at k
      refine q45_45 (fun h2 => q45_58 (q45_59 ?_)) (fun h2 => q45_53 (q45_59 ?_))
      · rw [show mx2 own ahead = ahead from if_pos h2] at k
        exact k
      · rw [show mx2 own ahead = own from if_neg h2] at k
        exact k
    refine q45_33 (fun h1 => q45_43 (fin _ _ ?_)) (fun h1 => q45_38 (fin _ _ (if_pos h1)))
    dsimp only
    rw [if_neg h1, e1]
    rfl
  · unfold cw at k
    rw [if_pos h] at k
    dsimp only
    rw [e1]
    exact k
theorem sp_cost {y : Int32} (hT : LT L q b) (hB : LB L b) (hI : BI (bd I b) n sn dn) (ho : ∀ j, j < n → o j < n) (hTb : Tab I q (bd I b) o n) (k : F (cst (bd I b) o y n) (L, I, J, t)) : cal (d + 2) 44 [.ref q, .int y] (L, I, J, t) (kI F X) := by
  have hT0 := hT
  obtain ⟨⟨t0, tb, t1, t2, t3⟩, ⟨u1, u2, u3⟩, ⟨v1, v2, v3⟩⟩ := hT
  have b0 := hB.1
  have hn := hI.1.2
  refine e44 (q44_0 ?_)
  refine loop0 (P := fun i => Wp (cal (d + 1)) kc_44 [] (kI F X) (4, [some (.ref q), some (.int y), some (.int (cst (bd I b) o y i)), some (.int (nI i))], [], (L, I, J, t))) (n := n) (fun i hi ih => ?_) ?_
  · refine q44_4 t0 tb b0 (fun h => absurd h ?_) (fun _ => q44_15 t0 t1 u1 (by show vp_in _ (L.2.1 (q + 1)); rw [v1]; exact vp_in_nI (by omega) (by decide)) t2 u2 (by show vp_in _ (L.2.1 (q + 2)); rw [v2]; exact vp_in_nI (by omega) (by decide)) ?_)
    · show ¬ I b 0 ≤ nI i
      rw [show I b 0 = nI n from hI.1.1]
      exact nI_ge hi (by omega)
    dsimp only
    rw [nI_clamp (by omega), (hTb.1 i hi).1, (hTb.1 i hi).2]
    refine sp_costWith hT0 hB (by have := ho i hi; omega) (q44_33 ?_)
    rw [nI_succ] at ih
    exact ih
  · refine q44_4 t0 tb b0 (fun _ => q44_40 k) (fun h => absurd ?_ h)
    show I b 0 ≤ nI n
    rw [show I b 0 = nI n from hI.1.1]
    exact nI_le (Nat.le_refl _) (by omega)
theorem sp_isLate {p : Nat} (hT : LT L q b) (hB : LB L b) (hI : BI (bd I b) n sn dn) (ho : ∀ j, j < n → o j < n) (hTb : Tab I q (bd I b) o n) (hp : p < n) (k : F (bI (!decide (slt (bd I b) o p ≤ bLa (bd I b) (o p)))) (L, I, J, t)) : cal (d + 1) 50 [.ref q, .int (nI p)] (L, I, J, t) (kI F X) := by
  obtain ⟨⟨t0, tb, t1, t2, t3⟩, ⟨u1, u2, u3⟩, ⟨v1, v2, v3⟩⟩ := hT
  obtain ⟨b0, ⟨-, -, r3, -⟩, ⟨-, -, k3, -⟩, ⟨-, -, n3, -⟩⟩ := hB
  have hn := hI.1.2
  have hop := ho p hp
  have e1 : (nI p).toNatClampNeg = p := nI_clamp (by omega)
  have e2 : I (q + 1) (nI p).toNatClampNeg = nI (o p) := by rw [e1]; exact (hTb.1 p hp).1
  have e3 : I (q + 2) (nI p).toNatClampNeg = slt (bd I b) o p := by rw [e1]; exact (hTb.1 p hp).2
  have e4 : (nI (o p)).toNatClampNeg = o p := nI_clamp (by omega)
  refine e50 (q50_0 t0 t2 u2 (by show vp_in _ (L.2.1 (q + 2)); rw [v2]; exact vp_in_nI (by omega) (by decide)) tb b0 r3 t1 u1 (by show vp_in _ (L.2.1 (q + 1)); rw [v1]; exact vp_in_nI (by omega) (by decide)) k3 (by show vp_in (I (q + 1) (nI p).toNatClampNeg) (L.2.1 (b + 3)); rw [n3, e2]; exact vp_in_nI (by omega) (by decide)) (fun h => q50_27 (q50_28 (Or.inl rfl) ?_)) (fun h => q50_23 (q50_28 (Or.inr rfl) ?_)))
  · dsimp only at h
    rw [e2, e3, e4] at h
    rw [show decide (slt (bd I b) o p ≤ bLa (bd I b) (o p)) = true from decide_eq_true h] at k
    exact k
  · dsimp only at h
    rw [e2, e3, e4] at h
    rw [show decide (slt (bd I b) o p ≤ bLa (bd I b) (o p)) = false from decide_eq_false h] at k
    exact k
theorem sp_waitAt {p : Nat} (hT : LT L q b) (hB : LB L b) (hI : BI (bd I b) n sn dn) (ho : ∀ j, j < n → o j < n) (hTb : Tab I q (bd I b) o n) (hp : p < n) (k : F (slt (bd I b) o p - bRe (bd I b) (o p)) (L, I, J, t)) : cal (d + 1) 134 [.ref q, .int (nI p)] (L, I, J, t) (kI F X) := by
  obtain ⟨⟨t0, tb, t1, t2, t3⟩, ⟨u1, u2, u3⟩, ⟨v1, v2, v3⟩⟩ := hT
  obtain ⟨b0, ⟨-, r2, -⟩, ⟨-, k2, -⟩, ⟨-, n2, -⟩⟩ := hB
  have hn := hI.1.2
  have hop := ho p hp
  have e1 : (nI p).toNatClampNeg = p := nI_clamp (by omega)
  have e2 : I (q + 1) (nI p).toNatClampNeg = nI (o p) := by rw [e1]; exact (hTb.1 p hp).1
  have e3 : I (q + 2) (nI p).toNatClampNeg = slt (bd I b) o p := by rw [e1]; exact (hTb.1 p hp).2
  have e4 : (nI (o p)).toNatClampNeg = o p := nI_clamp (by omega)
  refine e134 (q134_0 t0 t2 u2 (by show vp_in _ (L.2.1 (q + 2)); rw [v2]; exact vp_in_nI (by omega) (by decide)) tb b0 r2 t1 u1 (by show vp_in _ (L.2.1 (q + 1)); rw [v1]; exact vp_in_nI (by omega) (by decide)) k2 (by show vp_in (I (q + 1) (nI p).toNatClampNeg) (L.2.1 (b + 2)); rw [n2, e2]; exact vp_in_nI (by omega) (by decide)) ?_)
  dsimp only
  rw [e2, e3, e4]
  exact k
theorem sp_holds (hT : LT L q b) (hB : LB L b) (hI : BI (bd I b) n sn dn) (ho : ∀ j, j < n → o j < n) (hTb : Tab I q (bd I b) o n) (k : F (bI (hold (bd I b) o n)) (L, I, J, t)) : cal (d + 2) 49 [.ref q] (L, I, J, t) (kI F X) := by
  have hT0 := hT
  obtain ⟨⟨t0, tb, -⟩, -⟩ := hT
  have b0 := hB.1
  have hn := hI.1.2
  refine e49 (q49_0 ?_)
  refine loop0 (P := fun i => hold (bd I b) o i = true → Wp (cal (d + 1)) kc_49 [] (kI F X) (2, [some (.ref q), some (.int (nI i))], [], (L, I, J, t))) (n := n) (fun i hi ih hd => ?_) (fun hd => ?_) rfl
  · refine q49_2 t0 tb b0 (fun h => absurd h ?_) (fun _ => q49_13 t0 (sp_isLate hT0 hB hI ho hTb hi (q49_18 (fun h => q49_23 ?_) (fun h => q49_21 ?_))))
    · show ¬ I b 0 ≤ nI i
      rw [show I b 0 = nI n from hI.1.1]
      exact nI_ge hi (by omega)
    · cases e : decide (slt (bd I b) o i ≤ bLa (bd I b) (o i)) with
      | false => rw [e] at h; exact absurd h (by decide)
      | true =>
        have := ih (by unfold hold allB; rw [Bool.and_eq_true]; exact ⟨hd, e⟩)
        rw [nI_succ] at this
        exact this
    · cases e : decide (slt (bd I b) o i ≤ bLa (bd I b) (o i)) with
      | true => rw [e] at h; exact absurd rfl h
      | false =>
        rw [show hold (bd I b) o n = false from allB_f hi e] at k
        exact k
  · refine q49_2 t0 tb b0 (fun _ => q49_29 ?_) (fun h => absurd ?_ h)
    · rw [hd] at k
      exact k
    · show I b 0 ≤ nI n
      rw [show I b 0 = nI n from hI.1.1]
      exact nI_le (Nat.le_refl _) (by omega)
end LAY

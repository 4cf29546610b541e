/-! Times are small: sums do not wrap; what is left costs at least so much. -/
def BV (S : BS) (n sn dn T : Nat) : Prop := T ≤ 1000000 ∧ (∀ k, k < n → 0 ≤ (bRe S k).toInt ∧ (bRe S k).toInt ≤ T ∧ 0 ≤ (bWe S k).toInt ∧ (bWe S k).toInt ≤ 20) ∧ (∀ k, k < 64 → 0 ≤ (bGa S k).toInt ∧ (bGa S k).toInt ≤ 99) ∧ (∀ k, k < sn → (bST S k).toInt ≤ 1999) ∧ (0 ≤ (bF S 13).toInt ∧ (bF S 13).toInt ≤ T) ∧ ∀ k, k < dn → 0 ≤ (bDS S k).toInt ∧ (bDS S k).toInt ≤ T
theorem mx2I {a b : Int32} : (mx2 a b).toInt = max a.toInt b.toInt := by
  unfold mx2
  split
  · rename_i h; rw [Int32.le_iff_toInt_le] at h; omega
  · rename_i h; rw [Int32.le_iff_toInt_le] at h; omega
theorem addI {a b : Int32} (h1 : -2000000000 ≤ a.toInt + b.toInt) (h2 : a.toInt + b.toInt ≤ 2000000000) : (a + b).toInt = a.toInt + b.toInt := by
  rw [Int32.toInt_add]
  exact Int.bmod_eq_of_le (by omega) (by omega)
theorem subI {a b : Int32} (h1 : -2000000000 ≤ a.toInt - b.toInt) (h2 : a.toInt - b.toInt ≤ 2000000000) : (a - b).toInt = a.toInt - b.toInt := by
  rw [Int32.toInt_sub]
  exact Int.bmod_eq_of_le (by omega) (by omega)
theorem mulI {a b : Int32} (h1 : -2000000000 ≤ a.toInt * b.toInt) (h2 : a.toInt * b.toInt ≤ 2000000000) : (a * b).toInt = a.toInt * b.toInt := by
  rw [Int32.toInt_mul]
  generalize a.toInt * b.toInt = z at *
  exact Int.bmod_eq_of_le (by omega) (by omega)
section BOUND
variable {S : BS} {n sn dn T : Nat} {o : Nat → Nat} {x : Int32}
theorem hop_up {i : Nat} {M : Int} (h : (bST S i).toInt ≤ 1999) (hM : 1999 ≤ M) (hx : x.toInt ≤ M) : (hop S i x).toInt ≤ M := by
  unfold hop
  split
  · omega
  · exact hx
theorem pass_up {M : Int} (hM : 1999 ≤ M) : ∀ {k : Nat} {x : Int32}, (∀ i, i < k → (bST S i).toInt ≤ 1999) → x.toInt ≤ M → (pass S k x).toInt ≤ M
  | 0, x, _, hx => hx
  | k + 1, x, h, hx => hop_up (h k (by omega)) hM (pass_up hM (fun i hi => h i (by omega)) hx)
theorem rounds_up {M : Int} {m : Nat} (hM : 1999 ≤ M) (h : ∀ i, i < m → (bST S i).toInt ≤ 1999) : ∀ {r : Nat} {x : Int32}, x.toInt ≤ M → (rounds S m r x).toInt ≤ M
  | 0, x, hx => hx
  | r + 1, x, hx => pass_up hM h (rounds_up hM h hx)
theorem rounds_ge {m : Nat} : ∀ {r : Nat} {x : Int32}, x ≤ rounds S m r x
  | 0, x => Int32.le_refl x
  | r + 1, x => Int32.le_trans rounds_ge pass_ge
theorem opn_ge : x ≤ opn S x := rounds_ge
theorem opn_up {M : Int} (hI : BI S n sn dn) (hV : BV S n sn dn T) (hM : 1999 ≤ M) (hx : x.toInt ≤ M) : (opn S x).toInt ≤ M := by
  unfold opn
  rw [show (bF S 8).toNatClampNeg = sn by rw [hI.2.1.1]; exact nI_clamp (by have := hI.2.1.2; omega)]
  exact rounds_up hM hV.2.2.2.1 hx
theorem bdnE (hI : BI S n sn dn) : (bF S 14).toNatClampNeg = dn := by rw [hI.2.2.1.1]; exact nI_clamp (by have := hI.2.2.1.2; omega)
theorem so_lt (hI : BI S n sn dn) {c : Nat} (hc : c < n) : (bSo S c).toNatClampNeg < 8 := by
  obtain ⟨z, hz, e⟩ := hI.2.2.2.1 c hc
  rw [e, nI_clamp (by omega)]
  exact hz
theorem dso_lt (hI : BI S n sn dn) {c : Nat} (hc : c < dn) : (bDo S c).toNatClampNeg < 8 := by
  obtain ⟨z, hz, e⟩ := hI.2.2.2.2.2 c hc
  rw [e, nI_clamp (by omega)]
  exact hz
theorem mxI {a b : Int32} : (mx a b).toInt = max a.toInt b.toInt := by rw [mx_mx2, mx2I]
theorem dn0_up (hI : BI S n sn dn) (hV : BV S n sn dn T) {s : Nat} (hs : s < 8) : ∀ {i : Nat}, i ≤ dn → 0 ≤ (dn0 S s i).toInt ∧ (dn0 S s i).toInt ≤ T + 99
  | 0, _ => ⟨hV.2.2.2.2.1.1, by have := hV.2.2.2.2.1.2; show (bF S 13).toInt ≤ _; omega⟩
  | i + 1, h => by
    have h1 := dn0_up hI hV hs (i := i) (by omega)
    have h2 := hV.2.2.2.2.2 i (by omega)
    have h3 := hV.2.2.1 ((bDo S i).toNatClampNeg * 8 + s) (by have := dso_lt hI (show i < dn by omega); omega)
    have hT := hV.1
    show 0 ≤ (mx _ _).toInt ∧ (mx _ _).toInt ≤ _
    rw [mxI, addI (by omega) (by omega)]
    omega
theorem lst_up (hI : BI S n sn dn) (hV : BV S n sn dn T) : ∀ {k : Nat}, k ≤ 10 → (∀ j, j < k → o j < n) → ∀ {s : Nat}, s < 8 → 0 ≤ (lst S o k s).toInt ∧ (lst S o k s).toInt ≤ T + 2000 + 99 * (k + 1)
  | 0, _, _, s, hs => by
    have := dn0_up hI hV hs (Nat.le_refl dn)
    show 0 ≤ (dn0 S s (bF S 14).toNatClampNeg).toInt ∧ (dn0 S s (bF S 14).toNatClampNeg).toInt ≤ _
    rw [bdnE hI]
    omega
  | k + 1, hk, ho, s, hs => by
    have hT := hV.1
    have h1 := lst_up hI hV (k := k) (by omega) (fun j hj => ho j (by omega)) hs
    have h2 := lst_up hI hV (k := k) (by omega) (fun j hj => ho j (by omega)) (so_lt hI (ho k (by omega)))
    have h3 := hV.2.1 (o k) (ho k (by omega))
    have h4 := hV.2.2.1 ((bSo S (o k)).toNatClampNeg * 8 + s) (by have := so_lt hI (ho k (by omega)); omega)
    have h5 := opn_ge (S := S) (x := mx2 (bRe S (o k)) (lst S o k (bSo S (o k)).toNatClampNeg))
    have h6 : (opn S (mx2 (bRe S (o k)) (lst S o k (bSo S (o k)).toNatClampNeg))).toInt ≤ T + 2000 + 99 * (k + 1) := opn_up hI hV (by omega) (by rw [mx2I]; omega)
    rw [Int32.le_iff_toInt_le, mx2I] at h5
    show 0 ≤ (mx2 _ _).toInt ∧ (mx2 _ _).toInt ≤ _
    rw [mx2I, addI (by omega) (by omega)]
    omega
/-- a slot is ready or later, and not far -/
theorem slt_up (hI : BI S n sn dn) (hV : BV S n sn dn T) {k : Nat} (hk : k < 10) (ho : ∀ j, j ≤ k → o j < n) : (bRe S (o k)).toInt ≤ (slt S o k).toInt ∧ (slt S o k).toInt ≤ T + 3100 ∧ 0 ≤ (slt S o k).toInt := by
  have h2 := lst_up hI hV (k := k) (o := o) (by omega) (fun j hj => ho j (by omega)) (so_lt hI (ho k (Nat.le_refl _)))
  have h3 := hV.2.1 (o k) (ho k (Nat.le_refl _))
  have h5 := opn_ge (S := S) (x := mx2 (bRe S (o k)) (lst S o k (bSo S (o k)).toNatClampNeg))
  have h6 : (opn S (mx2 (bRe S (o k)) (lst S o k (bSo S (o k)).toNatClampNeg))).toInt ≤ T + 3100 := opn_up hI hV (by omega) (by rw [mx2I]; omega)
  rw [Int32.le_iff_toInt_le, mx2I] at h5
  unfold slt
  omega
theorem lst_mono {k s : Nat} : ∀ {m : Nat}, lst S o k s ≤ lst S o (k + m) s
  | 0 => Int32.le_refl _
  | m + 1 => Int32.le_trans (lst_mono (m := m)) (mx2_le.mp (Int32.le_refl _)).2
/-- who is left is no sooner than what those ahead leave now -/
def sn1 (S : BS) (o : Nat → Nat) (k c : Nat) : Int32 := mx2 (bRe S c) (lst S o k (bSo S c).toNatClampNeg)
theorem sn1_le {k j : Nat} (h : k ≤ j) : sn1 S o k (o j) ≤ slt S o j := by
  have h1 : lst S o k (bSo S (o j)).toNatClampNeg ≤ lst S o j (bSo S (o j)).toNatClampNeg := by
    have := lst_mono (S := S) (o := o) (k := k) (s := (bSo S (o j)).toNatClampNeg) (m := j - k)
    rw [show k + (j - k) = j by omega] at this
    exact this
  refine Int32.le_trans ?_ opn_ge
  have := mx2_le.mp (Int32.le_refl (mx2 (bRe S (o j)) (lst S o j (bSo S (o j)).toNatClampNeg)))
  exact mx2_le.mpr ⟨this.1, Int32.le_trans h1 this.2⟩
/-- costs as whole numbers -/
def opI (y : Int32) (a b : Int) : Int := if y = 0 then a + b else max a b
def vI (S : BS) (y : Int32) (c : Nat) (s : Int) : Int := if y = 0 then (s - (bRe S c).toInt) * (bWe S c).toInt else if y = 1 then s else s - (bRe S c).toInt
theorem opI_ac {y : Int32} {a b c : Int} : opI y (opI y a b) c = opI y (opI y a c) b := by unfold opI; split <;> omega
theorem opI_mono {y : Int32} {a b c e : Int} (h1 : a ≤ b) (h2 : c ≤ e) : opI y a c ≤ opI y b e := by unfold opI; split <;> omega
theorem vI_mono {y : Int32} {c : Nat} {s s' : Int} (hw : 0 ≤ (bWe S c).toInt) (h : s ≤ s') : vI S y c s ≤ vI S y c s' := by
  unfold vI
  split
  · exact Int.mul_le_mul_of_nonneg_right (by omega) hw
  · split <;> omega
theorem vI_up (hV : BV S n sn dn T) {y : Int32} {c : Nat} {s : Int} (hc : c < n) (h1 : (bRe S c).toInt ≤ s) (h2 : s ≤ T + 3100) : 0 ≤ vI S y c s ∧ vI S y c s ≤ 20100000 := by
  have h3 := hV.2.1 c hc
  have hT := hV.1
  unfold vI
  split
  · have q1 : (s - (bRe S c).toInt) * (bWe S c).toInt ≤ (s - (bRe S c).toInt) * 20 := Int.mul_le_mul_of_nonneg_left (by omega) (by omega)
    have q2 : 0 ≤ (s - (bRe S c).toInt) * (bWe S c).toInt := Int.mul_nonneg (by omega) (by omega)
    omega
  · split <;> omega
theorem cw_I (hV : BV S n sn dn T) {y acc slot : Int32} {c : Nat} (hc : c < n) (h1 : (bRe S c).toInt ≤ slot.toInt) (h2 : slot.toInt ≤ T + 3100) (h3 : 0 ≤ acc.toInt) (h4 : acc.toInt ≤ 500000000) : (cw S y acc c slot).toInt = opI y acc.toInt (vI S y c slot.toInt) := by
  have h5 := hV.2.1 c hc
  have hT := hV.1
  have h6 := vI_up hV (y := y) hc h1 h2
  have hs : (slot - bRe S c).toInt = slot.toInt - (bRe S c).toInt := subI (by omega) (by omega)
  unfold cw opI
  unfold vI at h6 ⊢
  by_cases e : y = 0
  · rw [if_pos e] at h6
    rw [if_pos e, if_pos e, if_pos e]
    have hm : ((slot - bRe S c) * bWe S c).toInt = (slot.toInt - (bRe S c).toInt) * (bWe S c).toInt := by
      rw [mulI (by rw [hs]; omega) (by rw [hs]; omega), hs]
    rw [addI (by rw [hm]; omega) (by rw [hm]; omega), hm]
  · rw [if_neg e, if_neg e, if_neg e, mx2I]
    by_cases e1 : y = 1
    · rw [if_pos e1, if_pos e1]; omega
    · rw [if_neg e1, if_neg e1, hs]; omega
theorem opI_up {y : Int32} {a b : Int} (h1 : 0 ≤ a) (h2 : 0 ≤ b) : 0 ≤ opI y a b ∧ opI y a b ≤ a + b := by unfold opI; split <;> omega
theorem cst_up (hI : BI S n sn dn) (hV : BV S n sn dn T) {y : Int32} : ∀ {k : Nat}, k ≤ 10 → (∀ j, j < k → o j < n) → 0 ≤ (cst S o y k).toInt ∧ (cst S o y k).toInt ≤ 20100000 * k
  | 0, _, _ => by
    have : (cst S o y 0).toInt = 0 := rfl
    rw [this]; omega
  | k + 1, hk, ho => by
    have h1 := cst_up hI hV (y := y) (k := k) (by omega) (fun j hj => ho j (by omega))
    have h2 := slt_up hI hV (k := k) (o := o) (by omega) (fun j hj => ho j (by omega))
    have h3 := vI_up hV (y := y) (ho k (by omega)) h2.1 h2.2.1
    have h4 := opI_up (y := y) h1.1 h3.1
    show 0 ≤ (cw S y (cst S o y k) (o k) (slt S o k)).toInt ∧ (cw S y (cst S o y k) (o k) (slt S o k)).toInt ≤ _
    rw [cw_I hV (ho k (by omega)) h2.1 h2.2.1 h1.1 (by omega)]
    omega
theorem cst_I (hI : BI S n sn dn) (hV : BV S n sn dn T) {y : Int32} {k : Nat} (hk : k < 10) (ho : ∀ j, j ≤ k → o j < n) : (cst S o y (k + 1)).toInt = opI y (cst S o y k).toInt (vI S y (o k) (slt S o k).toInt) := by
  have h1 := cst_up hI hV (y := y) (k := k) (o := o) (by omega) (fun j hj => ho j (by omega))
  have h2 := slt_up hI hV (k := k) (o := o) (by omega) ho
  exact cw_I hV (ho k (Nat.le_refl _)) h2.1 h2.2.1 h1.1 (by omega)
/-- what is left, added to acc -/
def AI (y : Int32) (u : Nat → Bool) (g : Nat → Int) (acc : Int) : Nat → Int
  | 0 => acc
  | m + 1 => if u m then AI y u g acc m else opI y (AI y u g acc m) (g m)
theorem AI_op {y : Int32} {u : Nat → Bool} {g : Nat → Int} {acc x : Int} : ∀ {m : Nat}, AI y u g (opI y acc x) m = opI y (AI y u g acc m) x
  | 0 => rfl
  | m + 1 => by
    unfold AI
    rw [AI_op]
    split
    · rfl
    · exact opI_ac
theorem AI_congr {y : Int32} {u u' : Nat → Bool} {g : Nat → Int} {acc : Int} : ∀ {m : Nat}, (∀ c, c < m → u c = u' c) → AI y u g acc m = AI y u' g acc m
  | 0, _ => rfl
  | m + 1, h => by unfold AI; rw [AI_congr (fun c hc => h c (by omega)), h m (by omega)]
theorem AI_ext {y : Int32} {u : Nat → Bool} {g : Nat → Int} {acc : Int} {c : Nat} (hu : u c = false) : ∀ {m : Nat}, c < m → AI y u g acc m = opI y (AI y (fun e => u e || decide (e = c)) g acc m) (g c)
  | 0, h => absurd h (Nat.not_lt_zero _)
  | m + 1, h => by
    by_cases e : c = m
    · subst e
      have : AI y (fun e => u e || decide (e = c)) g acc c = AI y u g acc c := AI_congr fun j hj => by rw [decide_eq_false (by omega), Bool.or_false]
      show (if u c then _ else _) = opI y (if (u c || decide (c = c)) then _ else _) _
      rw [hu, this, decide_eq_true rfl]
      rfl
    · have ih := AI_ext (y := y) (u := u) (g := g) (acc := acc) hu (show c < m by omega)
      show (if u m then _ else _) = opI y (if (u m || decide (m = c)) then _ else _) _
      rw [decide_eq_false (fun q => e q.symm), Bool.or_false, ih]
      split
      · rfl
      · exact opI_ac
theorem AI_all {y : Int32} {u : Nat → Bool} {g : Nat → Int} {acc : Int} : ∀ {m : Nat}, (∀ c, c < m → u c = true) → AI y u g acc m = acc
  | 0, _ => rfl
  | m + 1, h => by unfold AI; rw [h m (by omega)]; exact AI_all fun c hc => h c (by omega)
theorem AI_low (hI : BI S n sn dn) (hV : BV S n sn dn T) {y : Int32} {k : Nat} (hn : n ≤ 10) (ho : ∀ j, j < n → o j < n) (hi : ∀ i j, i < n → j < n → o i = o j → i = j) : ∀ m j, j + m = n → k ≤ j → AI y (usd o j) (fun c => vI S y c (sn1 S o k c).toInt) (cst S o y j).toInt n ≤ (cst S o y n).toInt := by
  intro m
  induction m with
  | zero =>
    intro j hj _
    have : j = n := by omega
    subst this
    rw [AI_all fun c hc => usd_iff.mpr (pigeon ho hi c hc)]
    exact Int.le_refl _
  | succ m ih =>
    intro j hj hk
    have hu : usd o j (o j) = false := usd_f.mpr fun i hij e => by have := hi i j (by omega) (by omega) e; omega
    rw [AI_ext hu (ho j (by omega))]
    have h1 : AI y (fun e => usd o j e || decide (e = o j)) (fun c => vI S y c (sn1 S o k c).toInt) (cst S o y j).toInt n = AI y (usd o (j + 1)) (fun c => vI S y c (sn1 S o k c).toInt) (cst S o y j).toInt n := AI_congr fun c _ => usd_succ.symm
    rw [h1]
    have h2 : vI S y (o j) (sn1 S o k (o j)).toInt ≤ vI S y (o j) (slt S o j).toInt := vI_mono (hV.2.1 (o j) (ho j (by omega))).2.2.1 (Int32.le_iff_toInt_le.mp (sn1_le hk))
    refine Int.le_trans (opI_mono (Int.le_refl _) h2) ?_
    rw [← AI_op, ← cst_I hI hV (by omega) (fun i hi => ho i (by omega))]
    exact ih (j + 1) (by omega) (by omega)
/-- as the class adds it up -/
def atl (S : BS) (o : Nat → Nat) (y : Int32) (k : Nat) : Nat → Int32
  | 0 => cst S o y k
  | m + 1 => if usd o k m then atl S o y k m else cw S y (atl S o y k m) m (sn1 S o k m)
theorem atl_I (hI : BI S n sn dn) (hV : BV S n sn dn T) {y : Int32} {k : Nat} (hn : n ≤ 10) (hk : k ≤ n) (ho : ∀ j, j < k → o j < n) : ∀ {m : Nat}, m ≤ n → (atl S o y k m).toInt = AI y (usd o k) (fun c => vI S y c (sn1 S o k c).toInt) (cst S o y k).toInt m ∧ 0 ≤ (atl S o y k m).toInt ∧ (atl S o y k m).toInt ≤ 20100000 * k + 20100000 * m
  | 0, _ => by
    have := cst_up hI hV (y := y) (k := k) (o := o) (by omega) ho
    exact ⟨rfl, this.1, by show (cst S o y k).toInt ≤ _; omega⟩
  | m + 1, h => by
    obtain ⟨h1, h2, h3⟩ := atl_I hI hV (y := y) hn hk ho (m := m) (by omega)
    unfold atl AI
    split
    · rw [← h1]; exact ⟨rfl, h2, by omega⟩
    · have b1 := hV.2.1 m (by omega)
      have b2 := lst_up hI hV (k := k) (o := o) (by omega) ho (so_lt hI (show m < n by omega))
      have b3 : (bRe S m).toInt ≤ (sn1 S o k m).toInt ∧ (sn1 S o k m).toInt ≤ T + 3100 := by unfold sn1; rw [mx2I]; omega
      have b4 := vI_up hV (y := y) (show m < n by omega) b3.1 b3.2
      have b5 := opI_up (y := y) h2 b4.1
      rw [cw_I hV (by omega) b3.1 b3.2 h2 (by omega), h1]
      rw [h1] at b5 h2 h3
      exact ⟨rfl, by omega, by omega⟩
/-- none that goes on from here costs less -/
theorem atl_low (hI : BI S n sn dn) (hV : BV S n sn dn T) {y : Int32} {k : Nat} (hk : k ≤ n) (ho : ∀ j, j < n → o j < n) (hi : ∀ i j, i < n → j < n → o i = o j → i = j) : atl S o y k n ≤ cst S o y n := by
  have hn := hI.1.2
  rw [Int32.le_iff_toInt_le, (atl_I hI hV hn hk (fun j hj => ho j (by omega)) (Nat.le_refl n)).1]
  exact AI_low hI hV hn ho hi (n - k) k (by omega) (Nat.le_refl _)
end BOUND

/-! Both sides between two calls of the law: where all lies, what agrees. -/
def byt (v : Int32) : Prop := -128 ≤ v.toInt ∧ v.toInt ≤ 127
def LK (L : hL) (x : Nat) : Prop :=
  (L.1 x = 9 ∧ L.2.2.1 x 0 = some (x + 1) ∧ L.2.2.1 x 1 = some (x + 28) ∧ L.2.2.1 x 2 = some (x + 55) ∧ L.2.2.1 x 3 = some (x + 57) ∧ L.2.2.1 x 4 = some (x + 58) ∧ L.2.2.1 x 5 = some (x + 268) ∧ L.2.2.1 x 6 = some (x + 56) ∧ L.2.2.1 x 9 = some (x + 270)) ∧
  (LR L (x + 1) ∧ LR L (x + 28)) ∧ LA L (x + 58) ∧ LM L (x + 271) ∧
  (L.1 (x + 55) = 3 ∧ L.2.2.1 (x + 55) 0 = some (x + 28)) ∧
  (L.1 (x + 56) = 21 ∧ L.2.1 (x + 56) = 500 ∧ L.1 (x + 57) = 4 ∧ L.2.2.1 (x + 57) 0 = some (x + 56) ∧ L.2.2.1 (x + 57) 1 = some (x + 28 + 2)) ∧
  (L.1 (x + 268) = 6 ∧ L.2.2.1 (x + 268) 0 = some (x + 269) ∧ L.1 (x + 269) = 21 ∧ L.2.1 (x + 269) = 150 ∧ L.1 (x + 270) = 20 ∧ L.2.1 (x + 270) = 10 ∧ L.1 (x + 281) = 22 ∧ L.2.1 (x + 281) = 1)
theorem LK.r {L : hL} {x : Nat} (h : LK L x) : LR L (x + 1) := h.2.1.1
theorem LK.p {L : hL} {x : Nat} (h : LK L x) : LR L (x + 28) := h.2.1.2
theorem LK.a {L : hL} {x : Nat} (h : LK L x) : LA L (x + 58) := h.2.2.1
theorem LK.m {L : hL} {x : Nat} (h : LK L x) : LM L (x + 271) := h.2.2.2.1
theorem LK.b {L : hL} {x : Nat} (h : LK L x) : LB L (x + 1 + 2) := h.2.1.1.b
theorem LK.y {L : hL} {x : Nat} (h : LK L x) : L.1 (x + 55) = 3 ∧ L.2.2.1 (x + 55) 0 = some (x + 28) := h.2.2.2.2.1
/-- for simp -/
theorem LK_ {L : hL} {x : Nat} (h : LK L x) :
  (L.1 x = 9 ∧ L.2.2.1 x 0 = some (x + 1) ∧ L.2.2.1 x 1 = some (x + 28) ∧ L.2.2.1 x 2 = some (x + 55) ∧ L.2.2.1 x 3 = some (x + 57) ∧ L.2.2.1 x 4 = some (x + 58) ∧ L.2.2.1 x 5 = some (x + 268) ∧ L.2.2.1 x 6 = some (x + 56) ∧ L.2.2.1 x 9 = some (x + 270)) ∧
  (L.1 (x + 1) = 5 ∧ L.2.2.1 (x + 1) 0 = some (x + 1 + 2) ∧ L.2.2.1 (x + 1) 1 = some (x + 1 + 15) ∧ L.2.2.1 (x + 1) 2 = some (x + 1 + 23) ∧ L.2.2.1 (x + 1) 3 = some (x + 1 + 1) ∧ L.1 (x + 1 + 15) = 7 ∧ L.2.2.1 (x + 1 + 15) 4 = some (x + 1 + 18) ∧ L.1 (x + 1 + 18) = 20 ∧ L.2.1 (x + 1 + 18) = 10 ∧ L.1 (x + 1 + 23) = 8 ∧ L.2.2.1 (x + 1 + 23) 2 = some (x + 1 + 23 + 2) ∧ L.1 (x + 1 + 23 + 2) = 20 ∧ L.2.1 (x + 1 + 23 + 2) = 10) ∧
  (L.1 (x + 28) = 5 ∧ L.2.2.1 (x + 28) 0 = some (x + 28 + 2) ∧ L.1 (x + 28 + 2) = 2) ∧
  (L.1 (x + 58) = 1 ∧ L.1 (x + 55) = 3) ∧
  (L.1 (x + 56) = 21 ∧ L.2.1 (x + 56) = 500 ∧ L.1 (x + 57) = 4 ∧ L.2.2.1 (x + 57) 0 = some (x + 56) ∧ L.2.2.1 (x + 57) 1 = some (x + 28 + 2)) ∧
  (L.1 (x + 268) = 6 ∧ L.2.2.1 (x + 268) 0 = some (x + 269) ∧ L.1 (x + 269) = 21 ∧ L.2.1 (x + 269) = 150 ∧ L.1 (x + 270) = 20 ∧ L.2.1 (x + 270) = 10 ∧ L.1 (x + 281) = 22 ∧ L.2.1 (x + 281) = 1) := by
  obtain ⟨h1, ⟨⟨⟨a0, a1, a2, a3, a4, -, -, a5, -, -, -, -, a6, -, -, a7, -, -, a8⟩, -, -, ht⟩, ⟨⟨c0, c1, -⟩, hpb, -⟩⟩, ⟨⟨hA, -⟩, -⟩, -, hy, h6, h7⟩ := h
  exact ⟨h1, ⟨a0, a1, a2, a3, a4, a5, a6, a7, a8, (LT_ ht).1.1, (LT_ ht).1.2.2.2.1, (LT_ ht).2.1.2.1, (LT_ ht).2.2.2.1⟩, ⟨c0, c1, (LB_ hpb).1⟩, ⟨hA, hy.1⟩, h6, h7⟩
/-- a board in order, nobody's latest ahead of its ready -/
def VL (S : BS) (n sn dn : Nat) : Prop := VB S n sn dn 1999 ∧ ∀ k, k < n → bRe S k ≤ bLa S k
theorem VL.ag {S S' : BS} {n sn dn : Nat} (h : VL S n sn dn) (hA : AG S' S) : VL S' n sn dn := by
  have hn := h.1.1.1.2
  exact ⟨h.1.ag hA, fun k hk => by have := hA.2.1 k (by omega); rw [this.2.1, this.2.2.1]; exact h.2 k hk⟩
theorem VL.rmv {S S' : BS} {n sn dn c p : Nat} (h : VL S n sn dn) (hp : p < n) (hc : ordN S p = c) (hr : Rmv S S' n c p) : VL S' (n - 1) sn dn :=
  ⟨h.1.rmv hp hc hr, fun k hk => by have := hr.2.1 k hk; rw [this.2.1, this.2.2.1]; exact h.2 _ (sk_lt hk)⟩
theorem VL.oth {S S' : BS} {n sn dn : Nat} {o : Nat → Nat} (h : VL S n sn dn) (hO : Oth S S' n o) (ho : ∀ j, j < n → o j < n) (hi : ∀ i j, i < n → j < n → o i = o j → i = j) : VL S' n sn dn :=
  ⟨h.1.oth hO ho hi, by rw [hO.2.2.2.1, hO.2.2.2.2.1]; exact h.2⟩
def AC (I : Nat → Nat → Int32) (x ac fi : Nat) : Prop := ∀ i, i < ac → ∃ n sn dn, VL (bd I (x + 58 + 2 + 13 * rng fi i)) n sn dn ∧ Rel (fun j => I (x + 271 + 4) (189 * i + j)) (bd I (x + 58 + 2 + 13 * rng fi i)) n sn dn
def SX (I0 I : Nat → Nat → Int32) (x n sn dn ac fi tp sd : Nat) : Prop :=
  (VL (bd I (x + 1 + 2)) n sn dn ∧ Rel (I (x + 271 + 1)) (bd I (x + 1 + 2)) n sn dn) ∧
  (I x 7 = nI tp ∧ I (x + 271) 7 = nI tp ∧ tp ≤ 500 ∧ (∀ k, k < 500 → I (x + 56) k = I (x + 271 + 5) k ∧ byt (I (x + 56) k)) ∧ I x 8 = I (x + 271) 16) ∧
  (I (x + 58) 1 = nI fi ∧ I (x + 58) 2 = nI ac ∧ I (x + 271) 5 = nI ac ∧ fi < 16 ∧ ac ≤ 16 ∧ AC I x ac fi) ∧
  (I (x + 268) 1 = nI sd ∧ I (x + 271) 29 = nI sd ∧ sd ≤ 150 ∧ ∀ k, k < sd → I (x + 269) k = I (x + 271 + 9) k) ∧
  ∀ a, a < x → I a = I0 a
def ST (I0 I : Nat → Nat → Int32) (x : Nat) : Prop := ∃ n sn dn ac fi tp sd, SX I0 I x n sn dn ac fi tp sd
/-- what any question may change -/
abbrev scr (x : Nat) : Nat → Prop := fun a => a = x + 271 ∨ a = x + 2 ∨ (x + 16 ≤ a ∧ a ≤ x + 55) ∨ a = x + 57 ∨ a = x + 270 ∨ a = x + 273 ∨ a = x + 274 ∨ (x + 277 ≤ a ∧ a ≤ x + 279)
abbrev scA (x s : Nat) : Nat → Prop := fun a => scr x a ∨ (x + 3 ≤ a ∧ a ≤ x + 15) ∨ a = x + 58 ∨ (x + 60 + 13 * s ≤ a ∧ a ≤ x + 60 + 13 * s + 12) ∨ a = x + 272 ∨ a = x + 275
section STATE
variable {I0 I I2 I3 : Nat → Nat → Int32} {J J2 : Nat → Nat → Int64} {L : hL} {x n sn dn ac fi tp sd c : Nat} {t : tl} {F : Int32 → hp → Prop} {X : Nat → hp → Prop} {d : Nat}
theorem SX.v (h : SX I0 I x n sn dn ac fi tp sd) : VB (bd I (x + 1 + 2)) n sn dn 1999 := h.1.1.1
theorem SX.i (h : SX I0 I x n sn dn ac fi tp sd) : BI (bd I (x + 1 + 2)) n sn dn := h.1.1.1.1
theorem SX.r (h : SX I0 I x n sn dn ac fi tp sd) : Rel (I (x + 271 + 1)) (bd I (x + 1 + 2)) n sn dn := h.1.2
theorem SX.n0 (h : SX I0 I x n sn dn ac fi tp sd) : I (x + 1 + 2) 0 = nI n := h.1.1.1.1.1.1
theorem SX.m0 (h : SX I0 I x n sn dn ac fi tp sd) : I (x + 271 + 1) 0 = nI n := h.1.2.1.1
theorem SX.n10 (h : SX I0 I x n sn dn ac fi tp sd) : n ≤ 10 := h.1.1.1.1.1.2
theorem AC.fr (h : AC I x ac fi) (hs : ∀ a, x + 60 ≤ a → a < x + 268 → I2 a = I a) (h4 : I2 (x + 271 + 4) = I (x + 271 + 4)) : AC I2 x ac fi := by
  intro i hi
  obtain ⟨n, sn, dn, h1, h2⟩ := h i hi
  have hr : rng fi i < 16 := Nat.mod_lt _ (by decide)
  have e : bd I2 (x + 58 + 2 + 13 * rng fi i) = bd I (x + 58 + 2 + 13 * rng fi i) := bd_same fun a q1 q2 => hs a (by omega) (by omega)
  refine ⟨n, sn, dn, ?_, ?_⟩
  · rw [e]; exact h1
  · rw [e, h4]; exact h2
theorem SX.fr (h : SX I0 I x n sn dn ac fi tp sd) (hs : same I I2 (scr x)) (hf : ∀ j, j = 5 ∨ j = 7 ∨ j = 16 ∨ j = 29 → I2 (x + 271) j = I (x + 271) j) : SX I0 I2 x n sn dn ac fi tp sd := by
  obtain ⟨⟨a1, a2⟩, ⟨b1, b2, b3, b4, b5⟩, ⟨c1, c2, c3, c4, c5, c6⟩, ⟨d1, d2, d3, d4⟩, e1⟩ := h
  have eb : bd I2 (x + 1 + 2) = bd I (x + 1 + 2) := bd_same fun a q1 q2 => hs a (by omega)
  refine ⟨⟨by rw [eb]; exact a1, by rw [eb, hs _ (by omega)]; exact a2⟩, ⟨by rw [hs _ (by omega)]; exact b1, by rw [hf 7 (by omega)]; exact b2, b3, fun k hk => by rw [hs _ (by omega), hs _ (by omega)]; exact b4 k hk, by rw [hs x (by omega), hf 16 (by omega)]; exact b5⟩, ⟨by rw [hs _ (by omega)]; exact c1, by rw [hs _ (by omega)]; exact c2, by rw [hf 5 (by omega)]; exact c3, c4, c5, c6.fr (fun a _ _ => hs a (by omega)) (hs _ (by omega))⟩, ⟨by rw [hs _ (by omega)]; exact d1, by rw [hf 29 (by omega)]; exact d2, d3, fun k hk => by rw [hs _ (by omega), hs _ (by omega)]; exact d4 k hk⟩, fun a ha => (hs a (by omega)).trans (e1 a ha)⟩
def FN (I0 : Nat → Nat → Int32) (L : hL) (x c : Nat) (J2 : Nat → Nat → Int64) (t : tl) (h3 : hp) : Prop := ∃ I3 J3, h3 = (L, I3, J3, t) ∧ I3 (x + 271) 0 = nI c ∧ J3 (x + 281) = J2 (x + 281) ∧ ST I0 I3 x
def MD (I0 : Nat → Nat → Int32) (L : hL) (x jm e : Nat) (as : List Value) (v : Int32 → Prop) (c : Nat) (t : tl) (h2 : hp) : Prop := ∃ I2 J0, h2 = (L, I2, J0, t) ∧ (∀ a, a < x → I2 a = I0 a) ∧ ∀ J2, cal (e + 40) jm (.ref (x + 271) :: as) (L, I2, J2, t) (kI (fun r2 h3 => v r2 ∧ FN I0 L x c J2 t h3) (fun _ _ => False))
/-- a kind of exception that there is (9 stands for none) -/
def NE9 (k : Nat) : Prop := ¬ k = 9
def PR (I0 : Nat → Nat → Int32) (L : hL) (x jc jm e1 e2 d e : Nat) (as : List Value) (I : Nat → Nat → Int32) (J : Nat → Nat → Int64) (z l : Nat) (ex : Bool) : Prop := cal (d + 40) jc (.ref x :: as) (L, I, J, z, l, ex) (kI (fun r h2 => MD I0 L x jm e as (fun r2 => r2 = r) 0 (z, l, ex) h2) (fun q h2 => (q = e1 ∧ NE9 e1 ∧ MD I0 L x jm e as (fun _ => True) 1 (z + 1, l + 6, false) h2) ∨ (q = e2 ∧ NE9 e2 ∧ MD I0 L x jm e as (fun _ => True) 2 (z + 1, l + 6, false) h2)))
theorem fq (h : SX I0 I x n sn dn ac fi tp sd) (hs : same I I2 (scr x)) (hf : ∀ j, j = 5 ∨ j = 7 ∨ j = 16 ∨ j = 29 → I2 (x + 271) j = I (x + 271) j) (h0 : I2 (x + 271) 0 = nI c) : FN I0 L x c J t (L, I2, J, t) := ⟨I2, J, rfl, h0, rfl, n, sn, dn, ac, fi, tp, sd, h.fr hs hf⟩
/-- a call that was refused -/
theorem ff (h : SX I0 I x n sn dn ac fi tp sd) (hs : same I I2 (scr x)) (hm : I2 (x + 271) = I (x + 271)) : FN I0 L x c J t (L, wr (wr I2 (x + 271) 0 (nI 0)) (x + 271) 0 (nI c), J, t) :=
  fq h (fun a ha => by rw [wrM1 (by omega), wrM1 (by omega)]; exact hs a ha) (fun j hj => by rw [wrM2 (by omega), wrM2 (by omega), hm]) (wrH rfl rfl)
theorem le_sub1 {a : Int32} {n : Nat} (hn : n < 2 ^ 31) : (a ≤ nI n - nI 1) ↔ a < nI n := by
  rw [Int32.le_iff_toInt_le, Int32.lt_iff_toInt_lt, Int32.toInt_sub, nI_toInt hn, nI_toInt (by decide), Int.bmod_eq_of_le (by omega) (by omega)]
  omega
theorem mp_inT {H : hp} {y lo hi : Int32} {a b : Int64} (ha : a = lo.toInt64) (hb : b = hi.toInt64) (h : lo ≤ y ∧ y ≤ hi) (k : F (nI 1) H) : cal (d + 1) 175 [.long y.toInt64, .long a, .long b] H (kI F X) := by
  refine mp_isIn ?_
  rw [ha, hb, Int32.toInt_toInt64, Int32.toInt_toInt64, Int32.toInt_toInt64, decide_eq_true (by rw [← Int32.le_iff_toInt_le, ← Int32.le_iff_toInt_le]; exact h)]
  exact k
theorem mp_inF {H : hp} {y lo hi : Int32} {a b : Int64} (ha : a = lo.toInt64) (hb : b = hi.toInt64) (h : ¬ (lo ≤ y ∧ y ≤ hi)) (k : F (nI 0) H) : cal (d + 1) 175 [.long y.toInt64, .long a, .long b] H (kI F X) := by
  refine mp_isIn ?_
  rw [ha, hb, Int32.toInt_toInt64, Int32.toInt_toInt64, Int32.toInt_toInt64, decide_eq_false (by rw [← Int32.le_iff_toInt_le, ← Int32.le_iff_toInt_le]; exact h)]
  exact k
theorem mp_elT {H : hp} {y : Int32} {n : Nat} (hn : n < 2 ^ 31) (h : nI 0 ≤ y ∧ y < nI n) (k : F (nI 1) H) : cal (d + 1) 175 [.long y.toInt64, .long 0, .long (nI n - nI 1).toInt64] H (kI F X) := mp_inT (lo := nI 0) rfl rfl ⟨h.1, (le_sub1 hn).mpr h.2⟩ k
theorem mp_elF {H : hp} {y : Int32} {n : Nat} (hn : n < 2 ^ 31) (h : ¬ (nI 0 ≤ y ∧ y < nI n)) (k : F (nI 0) H) : cal (d + 1) 175 [.long y.toInt64, .long 0, .long (nI n - nI 1).toInt64] H (kI F X) := mp_inF (lo := nI 0) rfl rfl (fun q => h ⟨q.1, (le_sub1 hn).mp q.2⟩) k
theorem mp_elN {H : hp} {k n : Nat} (hk : k < n) (hn : n < 2 ^ 31) (K : F (nI 1) H) : cal (d + 1) 175 [.long (nI k).toInt64, .long 0, .long (nI (n - 1)).toInt64] H (kI F X) := mp_inT (lo := nI 0) rfl rfl ⟨(nI_leI (by decide) (by omega)).mpr (by omega), (nI_leI (by omega) (by omega)).mpr (by omega)⟩ K
theorem i_lt {y : Int32} {n : Nat} (hn : n < 2 ^ 31) (h0 : nI 0 ≤ y) (h1 : y < nI n) : ∃ k, k < n ∧ y = nI k := by
  rw [Int32.le_iff_toInt_le, nI_toInt (by decide)] at h0
  rw [Int32.lt_iff_toInt_lt, nI_toInt hn] at h1
  obtain ⟨v, hv, e⟩ := nI_nat (x := y) (B := n - 1) (by omega) (by omega) (by omega)
  exact ⟨v, by omega, e⟩
theorem i_le {y : Int32} {n : Nat} (hn : n < 2 ^ 31) (h0 : nI 0 ≤ y) (h1 : y ≤ nI n) : ∃ k, k ≤ n ∧ y = nI k := by
  rw [Int32.le_iff_toInt_le, nI_toInt (by decide)] at h0
  rw [Int32.le_iff_toInt_le, nI_toInt hn] at h1
  exact nI_nat h0 h1 hn
theorem lt_le {y : Int32} {n : Nat} (hn : n + 1 < 2 ^ 31) : (y < nI (n + 1)) ↔ y ≤ nI n := by
  rw [Int32.le_iff_toInt_le, Int32.lt_iff_toInt_lt, nI_toInt hn, nI_toInt (show n < 2 ^ 31 by omega)]
  omega
theorem mp_isSortT {H : hp} {y : Int32} (h : nI 0 ≤ y ∧ y < nI 8) (k : F (nI 1) H) : cal (d + 2) 220 [.int y] H (kI F X) := by
  refine e220 (t220_0 (mp_inT (lo := nI 0) (hi := nI 7) rfl rfl ⟨h.1, (lt_le (by decide)).mp h.2⟩ (t220_9 ⟨Or.inr rfl, k⟩)))
theorem mp_isSortF {H : hp} {y : Int32} (h : ¬ (nI 0 ≤ y ∧ y < nI 8)) (k : F (nI 0) H) : cal (d + 2) 220 [.int y] H (kI F X) := by
  refine e220 (t220_0 (mp_inF (lo := nI 0) (hi := nI 7) rfl rfl (fun q => h ⟨q.1, (lt_le (by decide)).mpr q.2⟩) (t220_9 ⟨Or.inl rfl, k⟩)))
theorem mp_isCostT {H : hp} {y : Int32} (h : nI 0 ≤ y ∧ y ≤ nI 2) (k : F (nI 1) H) : cal (d + 2) 230 [.int y] H (kI F X) := by
  refine e230 (t230_0 (mp_inT (lo := nI 0) (hi := nI 2) rfl rfl h (t230_9 ⟨Or.inr rfl, k⟩)))
theorem mp_isCostF {H : hp} {y : Int32} (h : ¬ (nI 0 ≤ y ∧ y ≤ nI 2)) (k : F (nI 0) H) : cal (d + 2) 230 [.int y] H (kI F X) := by
  refine e230 (t230_0 (mp_inF (lo := nI 0) (hi := nI 2) rfl rfl h (t230_9 ⟨Or.inl rfl, k⟩)))
--facts LM_ hM
theorem mp_isCraftT {m : Nat} {y : Int32} (hM : LM L m) (h0 : I (m + 1) 0 = nI n) (hn : n ≤ 10) (h : nI 0 ≤ y ∧ y < nI n) (k : F (nI 1) (L, I, J, t)) : cal (d + 2) 213 [.ref m, .int y] (L, I, J, t) (kI F X) := by
  refine e213 (t213_0 ?_)
  simp (disch := omega) only [vpT, nI_leI, nI_ltI, nI_eq, nleT, nleF, nltT, nltF, neqT, neqF, nI_add, pk_mul, subN, divN, nI_clamp, mI1, wrH, wrM1, wrM2, wrowH, wrowM, bI0, bI1, kIi, kVi, kRi, kLi, kIx, kVx, Option.some.injEq, exists_eq_left', true_and, and_true, true_implies, false_implies, implies_true, not_true_eq_false, not_false_eq_true, true_or, or_true, false_or, or_false, forall_eq, iteT, iteF, LM_ hM, h0]
  exact mp_elT (by omega) h (t213_15 ⟨Or.inr rfl, k⟩)
theorem mp_isCraftF {m : Nat} {y : Int32} (hM : LM L m) (h0 : I (m + 1) 0 = nI n) (hn : n ≤ 10) (h : ¬ (nI 0 ≤ y ∧ y < nI n)) (k : F (nI 0) (L, I, J, t)) : cal (d + 2) 213 [.ref m, .int y] (L, I, J, t) (kI F X) := by
  refine e213 (t213_0 ?_)
  simp (disch := omega) only [vpT, nI_leI, nI_ltI, nI_eq, nleT, nleF, nltT, nltF, neqT, neqF, nI_add, pk_mul, subN, divN, nI_clamp, mI1, wrH, wrM1, wrM2, wrowH, wrowM, bI0, bI1, kIi, kVi, kRi, kLi, kIx, kVx, Option.some.injEq, exists_eq_left', true_and, and_true, true_implies, false_implies, implies_true, not_true_eq_false, not_false_eq_true, true_or, or_true, false_or, or_false, forall_eq, iteT, iteF, LM_ hM, h0]
  exact mp_elF (by omega) h (t213_15 ⟨Or.inl rfl, k⟩)
/-- the class has kept the board -/
def KC (I I2 : Nat → Nat → Int32) (x ac fi fi' s : Nat) : Prop := s < 16 ∧ fi' < 16 ∧ fi' = (if ac = 16 then (fi + 1) % 16 else fi) ∧ s = rng fi' (mn16 (ac + 1) - 1) ∧ I2 (x + 58) 1 = nI fi' ∧ I2 (x + 58) 2 = nI (mn16 (ac + 1)) ∧ AG (bd I2 (x + 58 + 2 + 13 * s)) (bd I (x + 1 + 2))
theorem KC.fr {fi' s : Nat} (h : KC I I2 x ac fi fi' s) (hs : ∀ a, x + 58 ≤ a → a < x + 268 → I3 a = I2 a) : KC I I3 x ac fi fi' s := by
  obtain ⟨h1, h2, h3, h4, h5, h6, h7⟩ := h
  refine ⟨h1, h2, h3, h4, by rw [hs _ (by omega) (by omega)]; exact h5, by rw [hs _ (by omega) (by omega)]; exact h6, ?_⟩
  rw [show bd I3 (x + 58 + 2 + 13 * s) = bd I2 (x + 58 + 2 + 13 * s) from bd_same fun a q1 q2 => hs a (by omega) (by omega)]
  exact h7
theorem sp_kp {G : hp → Prop} (hK : LK L x) (h : SX I0 I x n sn dn ac fi tp sd) (he : ∀ a, x ≤ a → a < x + 268 → ¬ scr x a → I2 a = I a) (k : ∀ I3 fi' s, KC I I3 x ac fi fi' s → same I2 I3 (fun a => a = x + 58 ∨ x + 60 + 13 * s ≤ a ∧ a ≤ x + 60 + 13 * s + 12) → G (L, I3, J, t)) : cal (d + 3) 35 [.ref (x + 58), .ref (x + 1 + 2)] (L, I2, J, t) (kV G X) := by
  obtain ⟨-, -, ⟨c1, c2, c3, c4, c5, c6⟩, -, -⟩ := h
  have e58 : I2 (x + 58) = I (x + 58) := he _ (by omega) (by omega) (by omega)
  refine sp_keep hK.a hK.b (by omega) (by rw [e58]; exact c1) (by rw [e58]; exact c2) c4 c5 fun I3 fi' s q1 q2 q3 q4 q5 q6 q7 q8 => k I3 fi' s ⟨q2, q1, q3, q4, q6, q7, ?_⟩ (q5.up fun a ha => by omega)
  rw [show bd I (x + 1 + 2) = bd I2 (x + 1 + 2) from (bd_same fun a r1 r2 => he a (by omega) (by omega) (by omega)).symm]
  exact q8
theorem KP.fr {m : Nat} (h : KP I I2 m ac) (h5 : I3 m 5 = I2 m 5) (h4 : I3 (m + 4) = I2 (m + 4)) : KP I I3 m ac := by
  unfold KP at h ⊢
  rw [h5, h4]
  exact h
theorem KP.fr0 {m : Nat} (h : KP I2 I3 m ac) (h1 : I2 (m + 1) = I (m + 1)) (h4 : I2 (m + 4) = I (m + 4)) : KP I I3 m ac := by
  unfold KP at h ⊢
  rw [← h1, ← h4]
  exact h
theorem AC.kp {fi' s : Nat} (h : SX I0 I x n sn dn ac fi tp sd) (hC : KC I I2 x ac fi fi' s) (hP : KP I I2 (x + 271) ac) (hs : ∀ a, x + 60 ≤ a → a < x + 268 → ¬ (x + 60 + 13 * s ≤ a ∧ a ≤ x + 60 + 13 * s + 12) → I2 a = I a) : AC I2 x (mn16 (ac + 1)) fi' := by
  obtain ⟨⟨a1, a2⟩, -, ⟨c1, c2, c3, c4, c5, c6⟩, -, -⟩ := h
  obtain ⟨k1, k2, k3, k4, k5, k6, k7⟩ := hC
  obtain ⟨p1, p2, p3⟩ := hP
  have hn := a1.1.1.1.2
  have hs4 := a1.1.1.2.1.2
  have hd20 := a1.1.1.2.2.1.2
  have hm : mn16 (ac + 1) = if ac = 16 then 16 else ac + 1 := by unfold mn16; split <;> omega
  intro i hi
  by_cases e : i = mn16 (ac + 1) - 1
  · subst e
    rw [← k4]
    exact ⟨n, sn, dn, a1.ag k7, (a2.congr hn hs4 hd20 p2).ag hn hs4 hd20 k7⟩
  · have q3 := p3 i (by omega)
    have hr : rng fi' i = rng fi (i + (ac + 1 - mn16 (ac + 1))) := by
      rw [k3]
      unfold rng
      split at hm <;> rename_i q <;> rw [hm]
      · rw [if_pos q, q]; omega
      · rw [if_neg q, Nat.sub_self]
        rfl
    have hne : rng fi' i ≠ s := by
      rw [k4]
      unfold rng
      split at hm <;> rw [hm] <;> rw [hm] at e hi <;> omega
    have hr16 : rng fi' i < 16 := Nat.mod_lt _ (by decide)
    obtain ⟨n', sn', dn', g1, g2⟩ := c6 (i + (ac + 1 - mn16 (ac + 1))) (by split at hm <;> omega)
    rw [← hr] at g1 g2
    have eb : bd I2 (x + 58 + 2 + 13 * rng fi' i) = bd I (x + 58 + 2 + 13 * rng fi' i) := bd_same fun a r1 r2 => hs a (by omega) (by omega) (by omega)
    rw [eb]
    exact ⟨n', sn', dn', g1, g2.congr g1.1.1.1.2 g1.1.1.2.1.2 g1.1.1.2.2.1.2 q3⟩
/-- an act -/
theorem fa {fi' s n' sn' dn' : Nat} (h : SX I0 I x n sn dn ac fi tp sd) (hC : KC I I2 x ac fi fi' s) (hP : KP I I2 (x + 271) ac) (hs : same I I2 (scA x s)) (hf : ∀ j, j = 7 ∨ j = 16 ∨ j = 29 → I2 (x + 271) j = I (x + 271) j) (h0 : I2 (x + 271) 0 = nI 0) (hV : VL (bd I2 (x + 1 + 2)) n' sn' dn') (hR : Rel (I2 (x + 271 + 1)) (bd I2 (x + 1 + 2)) n' sn' dn') : FN I0 L x 0 J t (L, I2, J, t) := by
  have hAC := AC.kp h hC hP (fun a r1 r2 r3 => hs a (by omega))
  obtain ⟨⟨a1, a2⟩, ⟨b1, b2, b3, b4, b5⟩, ⟨c1, c2, c3, c4, c5, c6⟩, ⟨d1, d2, d3, d4⟩, e1⟩ := h
  obtain ⟨k1, k2, k3, k4, k5, k6, k7⟩ := hC
  have hm : mn16 (ac + 1) ≤ 16 := by unfold mn16; omega
  refine ⟨I2, J, rfl, h0, rfl, n', sn', dn', mn16 (ac + 1), fi', tp, sd, ⟨hV, hR⟩, ⟨by rw [hs x (by omega)]; exact b1, by rw [hf 7 (by omega)]; exact b2, b3, fun k hk => by rw [hs (x + 56) (by omega), hs (x + 271 + 5) (by omega)]; exact b4 k hk, by rw [hs x (by omega), hf 16 (by omega)]; exact b5⟩, ⟨k5, k6, hP.1, k2, hm, hAC⟩, ⟨by rw [hs (x + 268) (by omega)]; exact d1, by rw [hf 29 (by omega)]; exact d2, d3, fun k hk => by rw [hs (x + 269) (by omega), hs (x + 271 + 9) (by omega)]; exact d4 k hk⟩, fun a ha => (hs a (by omega)).trans (e1 a ha)⟩
end STATE

/-! The law's code in pieces. -/
theorem fetch_app (A B : kcode) (pc : Nat) : fetch (A ++ B) pc = match fetch A pc with | some r => some r | none => fetch B pc := by
  induction A with
  | nil => rfl
  | cons q A ih =>
    show (match Nat.beq q.1 pc with | true => some q.2 | false => fetch (A ++ B) pc) = match (match Nat.beq q.1 pc with | true => some q.2 | false => fetch A pc) with | some r => some r | none => fetch B pc
    cases Nat.beq q.1 pc with
    | true => rfl
    | false => exact ih
def loC (P : Nat) (co : kcode) : Prop := ∀ pc r, fetch co pc = some r → P ≤ pc
def subC (co co2 : kcode) : Prop := ∀ pc r, fetch co2 pc = some r → fetch co pc = some r
def hiB (P : Nat) : kcode → Bool
  | [] => true
  | q :: l => Nat.blt q.1 P && hiB P l
def loB (P : Nat) : kcode → Bool
  | [] => true
  | q :: l => Nat.ble P q.1 && loB P l
theorem loC_list {P : Nat} : ∀ {A : kcode}, loB P A = true → loC P A
  | [], _ => fun _ _ h => by cases h
  | q :: l, h => fun pc r hf => by
    have h2 := (Bool.and_eq_true _ _).mp h
    have hf2 : (match Nat.beq q.1 pc with | true => some q.2 | false => fetch l pc) = some r := hf
    cases hb : Nat.beq q.1 pc with
    | true => exact Nat.eq_of_beq_eq_true hb ▸ Nat.le_of_ble_eq_true h2.1
    | false => rw [hb] at hf2; exact loC_list h2.2 pc r hf2
theorem hiB_none {P : Nat} : ∀ {A : kcode}, hiB P A = true → ∀ pc, P ≤ pc → fetch A pc = none
  | [], _, _, _ => rfl
  | q :: l, h, pc, hp1 => by
    have h2 := (Bool.and_eq_true _ _).mp h
    show (match Nat.beq q.1 pc with | true => some q.2 | false => fetch l pc) = none
    cases hb : Nat.beq q.1 pc with
    | true =>
      have e1 := Nat.eq_of_beq_eq_true hb
      have e2 : q.1 < P := Nat.le_of_ble_eq_true h2.1
      omega
    | false => exact hiB_none h2.2 pc hp1
theorem loC_app {P P2 : Nat} {A B : kcode} (h : loB P A = true) (hB : loC P2 B) (hl : P ≤ P2) : loC P (A ++ B) := by
  intro pc r hf
  rw [fetch_app] at hf
  cases ha : fetch A pc with
  | some r2 => exact loC_list h pc r2 ha
  | none => rw [ha] at hf; exact Nat.le_trans hl (hB pc r hf)
theorem subC_app {P : Nat} {A B : kcode} (h : hiB P A = true) (hB : loC P B) : subC (A ++ B) B := by
  intro pc r hf
  rw [fetch_app, hiB_none h pc (hB pc r hf)]
  exact hf
theorem subC_tr {A B D : kcode} (x : subC A B) (y : subC B D) : subC A D := fun pc r h => x pc r (y pc r h)
theorem stp_sub {C : calls} {co co2 : kcode} (s : subC co co2) {hh : hndl} {Q : oc → hp → Prop} {K : cfg → Prop} {g : cfg} (x : stp C co2 hh Q K g) : stp C co hh Q K g := by
  unfold stp at x ⊢
  cases hf : fetch co2 g.1 with
  | none => rw [hf] at x; exact x.elim
  | some r => rw [s _ _ hf]; rw [hf] at x; exact x
theorem run_sub {d : Nat} {co co2 : kcode} (s : subC co co2) {hh : hndl} {Q : oc → hp → Prop} : ∀ (n : Nat) {g : cfg}, stpN (cal d) co2 hh Q (Wp (cal d) co hh Q) n g → Wp (cal d) co hh Q g
  | 0, _, x => x
  | n + 1, _, x => Wp_in (cal_mono d) (stp_sub s (stp_mono (cal_mono d) (fun _ y => run_sub s n y) (fun _ _ z => z) x))
theorem loC_23 : loC 2258 kc_273_23 := by
  unfold kc_273_23
  exact loC_list rfl
theorem loC_22 : loC 2170 kc_273_22 := by
  unfold kc_273_22
  exact loC_app rfl loC_23 (by decide)
theorem loC_21 : loC 2081 kc_273_21 := by
  unfold kc_273_21
  exact loC_app rfl loC_22 (by decide)
theorem loC_20 : loC 1984 kc_273_20 := by
  unfold kc_273_20
  exact loC_app rfl loC_21 (by decide)
theorem loC_19 : loC 1889 kc_273_19 := by
  unfold kc_273_19
  exact loC_app rfl loC_20 (by decide)
theorem loC_18 : loC 1798 kc_273_18 := by
  unfold kc_273_18
  exact loC_app rfl loC_19 (by decide)
theorem loC_17 : loC 1712 kc_273_17 := by
  unfold kc_273_17
  exact loC_app rfl loC_18 (by decide)
theorem loC_16 : loC 1614 kc_273_16 := by
  unfold kc_273_16
  exact loC_app rfl loC_17 (by decide)
theorem loC_15 : loC 1517 kc_273_15 := by
  unfold kc_273_15
  exact loC_app rfl loC_16 (by decide)
theorem loC_14 : loC 1424 kc_273_14 := by
  unfold kc_273_14
  exact loC_app rfl loC_15 (by decide)
theorem loC_13 : loC 1338 kc_273_13 := by
  unfold kc_273_13
  exact loC_app rfl loC_14 (by decide)
theorem loC_12 : loC 1249 kc_273_12 := by
  unfold kc_273_12
  exact loC_app rfl loC_13 (by decide)
theorem loC_11 : loC 1154 kc_273_11 := by
  unfold kc_273_11
  exact loC_app rfl loC_12 (by decide)
theorem loC_10 : loC 1066 kc_273_10 := by
  unfold kc_273_10
  exact loC_app rfl loC_11 (by decide)
theorem loC_9 : loC 970 kc_273_9 := by
  unfold kc_273_9
  exact loC_app rfl loC_10 (by decide)
theorem loC_8 : loC 882 kc_273_8 := by
  unfold kc_273_8
  exact loC_app rfl loC_9 (by decide)
theorem loC_7 : loC 792 kc_273_7 := by
  unfold kc_273_7
  exact loC_app rfl loC_8 (by decide)
theorem loC_6 : loC 703 kc_273_6 := by
  unfold kc_273_6
  exact loC_app rfl loC_7 (by decide)
theorem loC_5 : loC 612 kc_273_5 := by
  unfold kc_273_5
  exact loC_app rfl loC_6 (by decide)
theorem loC_4 : loC 523 kc_273_4 := by
  unfold kc_273_4
  exact loC_app rfl loC_5 (by decide)
theorem loC_3 : loC 425 kc_273_3 := by
  unfold kc_273_3
  exact loC_app rfl loC_4 (by decide)
theorem loC_2 : loC 334 kc_273_2 := by
  unfold kc_273_2
  exact loC_app rfl loC_3 (by decide)
theorem loC_1 : loC 244 kc_273_1 := by
  unfold kc_273_1
  exact loC_app rfl loC_2 (by decide)
theorem subC1_1 : subC kc_273 kc_273_1 := by
  unfold kc_273
  exact subC_app (P := 244) rfl loC_1
theorem subC_1 : subC kc_273 kc_273_1 := subC1_1
theorem rn_1 {d : Nat} {Q : oc → hp → Prop} {g : cfg} (n : Nat) (x : stpN (cal d) kc_273_1 [] Q (Wp (cal d) kc_273 [] Q) n g) : Wp (cal d) kc_273 [] Q g := run_sub subC_1 n x
theorem subC1_2 : subC kc_273_1 kc_273_2 := by
  unfold kc_273_1
  exact subC_app (P := 334) rfl loC_2
theorem subC_2 : subC kc_273 kc_273_2 := subC_tr subC_1 subC1_2
theorem rn_2 {d : Nat} {Q : oc → hp → Prop} {g : cfg} (n : Nat) (x : stpN (cal d) kc_273_2 [] Q (Wp (cal d) kc_273 [] Q) n g) : Wp (cal d) kc_273 [] Q g := run_sub subC_2 n x
theorem subC1_3 : subC kc_273_2 kc_273_3 := by
  unfold kc_273_2
  exact subC_app (P := 425) rfl loC_3
theorem subC_3 : subC kc_273 kc_273_3 := subC_tr subC_2 subC1_3
theorem rn_3 {d : Nat} {Q : oc → hp → Prop} {g : cfg} (n : Nat) (x : stpN (cal d) kc_273_3 [] Q (Wp (cal d) kc_273 [] Q) n g) : Wp (cal d) kc_273 [] Q g := run_sub subC_3 n x
theorem subC1_4 : subC kc_273_3 kc_273_4 := by
  unfold kc_273_3
  exact subC_app (P := 523) rfl loC_4
theorem subC_4 : subC kc_273 kc_273_4 := subC_tr subC_3 subC1_4
theorem rn_4 {d : Nat} {Q : oc → hp → Prop} {g : cfg} (n : Nat) (x : stpN (cal d) kc_273_4 [] Q (Wp (cal d) kc_273 [] Q) n g) : Wp (cal d) kc_273 [] Q g := run_sub subC_4 n x
theorem subC1_5 : subC kc_273_4 kc_273_5 := by
  unfold kc_273_4
  exact subC_app (P := 612) rfl loC_5
theorem subC_5 : subC kc_273 kc_273_5 := subC_tr subC_4 subC1_5
theorem rn_5 {d : Nat} {Q : oc → hp → Prop} {g : cfg} (n : Nat) (x : stpN (cal d) kc_273_5 [] Q (Wp (cal d) kc_273 [] Q) n g) : Wp (cal d) kc_273 [] Q g := run_sub subC_5 n x
theorem subC1_6 : subC kc_273_5 kc_273_6 := by
  unfold kc_273_5
  exact subC_app (P := 703) rfl loC_6
theorem subC_6 : subC kc_273 kc_273_6 := subC_tr subC_5 subC1_6
theorem rn_6 {d : Nat} {Q : oc → hp → Prop} {g : cfg} (n : Nat) (x : stpN (cal d) kc_273_6 [] Q (Wp (cal d) kc_273 [] Q) n g) : Wp (cal d) kc_273 [] Q g := run_sub subC_6 n x
theorem subC1_7 : subC kc_273_6 kc_273_7 := by
  unfold kc_273_6
  exact subC_app (P := 792) rfl loC_7
theorem subC_7 : subC kc_273 kc_273_7 := subC_tr subC_6 subC1_7
theorem rn_7 {d : Nat} {Q : oc → hp → Prop} {g : cfg} (n : Nat) (x : stpN (cal d) kc_273_7 [] Q (Wp (cal d) kc_273 [] Q) n g) : Wp (cal d) kc_273 [] Q g := run_sub subC_7 n x
theorem subC1_8 : subC kc_273_7 kc_273_8 := by
  unfold kc_273_7
  exact subC_app (P := 882) rfl loC_8
theorem subC_8 : subC kc_273 kc_273_8 := subC_tr subC_7 subC1_8
theorem rn_8 {d : Nat} {Q : oc → hp → Prop} {g : cfg} (n : Nat) (x : stpN (cal d) kc_273_8 [] Q (Wp (cal d) kc_273 [] Q) n g) : Wp (cal d) kc_273 [] Q g := run_sub subC_8 n x
theorem subC1_9 : subC kc_273_8 kc_273_9 := by
  unfold kc_273_8
  exact subC_app (P := 970) rfl loC_9
theorem subC_9 : subC kc_273 kc_273_9 := subC_tr subC_8 subC1_9
theorem rn_9 {d : Nat} {Q : oc → hp → Prop} {g : cfg} (n : Nat) (x : stpN (cal d) kc_273_9 [] Q (Wp (cal d) kc_273 [] Q) n g) : Wp (cal d) kc_273 [] Q g := run_sub subC_9 n x
theorem subC1_10 : subC kc_273_9 kc_273_10 := by
  unfold kc_273_9
  exact subC_app (P := 1066) rfl loC_10
theorem subC_10 : subC kc_273 kc_273_10 := subC_tr subC_9 subC1_10
theorem rn_10 {d : Nat} {Q : oc → hp → Prop} {g : cfg} (n : Nat) (x : stpN (cal d) kc_273_10 [] Q (Wp (cal d) kc_273 [] Q) n g) : Wp (cal d) kc_273 [] Q g := run_sub subC_10 n x
theorem subC1_11 : subC kc_273_10 kc_273_11 := by
  unfold kc_273_10
  exact subC_app (P := 1154) rfl loC_11
theorem subC_11 : subC kc_273 kc_273_11 := subC_tr subC_10 subC1_11
theorem rn_11 {d : Nat} {Q : oc → hp → Prop} {g : cfg} (n : Nat) (x : stpN (cal d) kc_273_11 [] Q (Wp (cal d) kc_273 [] Q) n g) : Wp (cal d) kc_273 [] Q g := run_sub subC_11 n x
theorem subC1_12 : subC kc_273_11 kc_273_12 := by
  unfold kc_273_11
  exact subC_app (P := 1249) rfl loC_12
theorem subC_12 : subC kc_273 kc_273_12 := subC_tr subC_11 subC1_12
theorem rn_12 {d : Nat} {Q : oc → hp → Prop} {g : cfg} (n : Nat) (x : stpN (cal d) kc_273_12 [] Q (Wp (cal d) kc_273 [] Q) n g) : Wp (cal d) kc_273 [] Q g := run_sub subC_12 n x
theorem subC1_13 : subC kc_273_12 kc_273_13 := by
  unfold kc_273_12
  exact subC_app (P := 1338) rfl loC_13
theorem subC_13 : subC kc_273 kc_273_13 := subC_tr subC_12 subC1_13
theorem rn_13 {d : Nat} {Q : oc → hp → Prop} {g : cfg} (n : Nat) (x : stpN (cal d) kc_273_13 [] Q (Wp (cal d) kc_273 [] Q) n g) : Wp (cal d) kc_273 [] Q g := run_sub subC_13 n x
theorem subC1_14 : subC kc_273_13 kc_273_14 := by
  unfold kc_273_13
  exact subC_app (P := 1424) rfl loC_14
theorem subC_14 : subC kc_273 kc_273_14 := subC_tr subC_13 subC1_14
theorem rn_14 {d : Nat} {Q : oc → hp → Prop} {g : cfg} (n : Nat) (x : stpN (cal d) kc_273_14 [] Q (Wp (cal d) kc_273 [] Q) n g) : Wp (cal d) kc_273 [] Q g := run_sub subC_14 n x
theorem subC1_15 : subC kc_273_14 kc_273_15 := by
  unfold kc_273_14
  exact subC_app (P := 1517) rfl loC_15
theorem subC_15 : subC kc_273 kc_273_15 := subC_tr subC_14 subC1_15
theorem rn_15 {d : Nat} {Q : oc → hp → Prop} {g : cfg} (n : Nat) (x : stpN (cal d) kc_273_15 [] Q (Wp (cal d) kc_273 [] Q) n g) : Wp (cal d) kc_273 [] Q g := run_sub subC_15 n x
theorem subC1_16 : subC kc_273_15 kc_273_16 := by
  unfold kc_273_15
  exact subC_app (P := 1614) rfl loC_16
theorem subC_16 : subC kc_273 kc_273_16 := subC_tr subC_15 subC1_16
theorem rn_16 {d : Nat} {Q : oc → hp → Prop} {g : cfg} (n : Nat) (x : stpN (cal d) kc_273_16 [] Q (Wp (cal d) kc_273 [] Q) n g) : Wp (cal d) kc_273 [] Q g := run_sub subC_16 n x
theorem subC1_17 : subC kc_273_16 kc_273_17 := by
  unfold kc_273_16
  exact subC_app (P := 1712) rfl loC_17
theorem subC_17 : subC kc_273 kc_273_17 := subC_tr subC_16 subC1_17
theorem rn_17 {d : Nat} {Q : oc → hp → Prop} {g : cfg} (n : Nat) (x : stpN (cal d) kc_273_17 [] Q (Wp (cal d) kc_273 [] Q) n g) : Wp (cal d) kc_273 [] Q g := run_sub subC_17 n x
theorem subC1_18 : subC kc_273_17 kc_273_18 := by
  unfold kc_273_17
  exact subC_app (P := 1798) rfl loC_18
theorem subC_18 : subC kc_273 kc_273_18 := subC_tr subC_17 subC1_18
theorem rn_18 {d : Nat} {Q : oc → hp → Prop} {g : cfg} (n : Nat) (x : stpN (cal d) kc_273_18 [] Q (Wp (cal d) kc_273 [] Q) n g) : Wp (cal d) kc_273 [] Q g := run_sub subC_18 n x
theorem subC1_19 : subC kc_273_18 kc_273_19 := by
  unfold kc_273_18
  exact subC_app (P := 1889) rfl loC_19
theorem subC_19 : subC kc_273 kc_273_19 := subC_tr subC_18 subC1_19
theorem rn_19 {d : Nat} {Q : oc → hp → Prop} {g : cfg} (n : Nat) (x : stpN (cal d) kc_273_19 [] Q (Wp (cal d) kc_273 [] Q) n g) : Wp (cal d) kc_273 [] Q g := run_sub subC_19 n x
theorem subC1_20 : subC kc_273_19 kc_273_20 := by
  unfold kc_273_19
  exact subC_app (P := 1984) rfl loC_20
theorem subC_20 : subC kc_273 kc_273_20 := subC_tr subC_19 subC1_20
theorem rn_20 {d : Nat} {Q : oc → hp → Prop} {g : cfg} (n : Nat) (x : stpN (cal d) kc_273_20 [] Q (Wp (cal d) kc_273 [] Q) n g) : Wp (cal d) kc_273 [] Q g := run_sub subC_20 n x
theorem subC1_21 : subC kc_273_20 kc_273_21 := by
  unfold kc_273_20
  exact subC_app (P := 2081) rfl loC_21
theorem subC_21 : subC kc_273 kc_273_21 := subC_tr subC_20 subC1_21
theorem rn_21 {d : Nat} {Q : oc → hp → Prop} {g : cfg} (n : Nat) (x : stpN (cal d) kc_273_21 [] Q (Wp (cal d) kc_273 [] Q) n g) : Wp (cal d) kc_273 [] Q g := run_sub subC_21 n x
theorem subC1_22 : subC kc_273_21 kc_273_22 := by
  unfold kc_273_21
  exact subC_app (P := 2170) rfl loC_22
theorem subC_22 : subC kc_273 kc_273_22 := subC_tr subC_21 subC1_22
theorem rn_22 {d : Nat} {Q : oc → hp → Prop} {g : cfg} (n : Nat) (x : stpN (cal d) kc_273_22 [] Q (Wp (cal d) kc_273 [] Q) n g) : Wp (cal d) kc_273 [] Q g := run_sub subC_22 n x
theorem subC1_23 : subC kc_273_22 kc_273_23 := by
  unfold kc_273_22
  exact subC_app (P := 2258) rfl loC_23
theorem subC_23 : subC kc_273 kc_273_23 := subC_tr subC_22 subC1_23
theorem rn_23 {d : Nat} {Q : oc → hp → Prop} {g : cfg} (n : Nat) (x : stpN (cal d) kc_273_23 [] Q (Wp (cal d) kc_273 [] Q) n g) : Wp (cal d) kc_273 [] Q g := run_sub subC_23 n x

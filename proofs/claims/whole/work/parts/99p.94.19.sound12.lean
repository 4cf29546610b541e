/-! One step of the smaller machine, seen from its end. -/
theorem bool4 {a b c d : Bool} (h : (a && (b && (c && d))) = true) : a = true ∧ b = true ∧ c = true ∧ d = true := by
  simp only [Bool.and_eq_true] at h
  exact h
theorem fld0 {h : hp} {a k : Nat} {ty : FieldType} (ht : tagOf ty = 0 ∨ tagOf ty = 3) : fld h a k ty = .int (hI h a k) := by
  unfold fld
  rcases ht with ht | ht <;> rw [ht] <;> rfl
theorem fld1 {h : hp} {a k : Nat} {ty : FieldType} (ht : tagOf ty = 1) : fld h a k ty = .long (hJ h a k) := by
  unfold fld
  rw [ht]
  rfl
theorem fld2 {h : hp} {a k : Nat} {ty : FieldType} (ht : tagOf ty = 2) : fld h a k ty = va_rf (hrm h a k) := by
  unfold fld
  rw [ht]
  rfl
theorem fld_ne {h h' : hp} {a k : Nat} {ty : FieldType} (hi : hI h' a k = hI h a k) (hj : hJ h' a k = hJ h a k) (hr : hrm h' a k = hrm h a k) : fld h' a k ty = fld h a k ty := by
  unfold fld
  rw [hi, hj, hr]
theorem sd_wr_at {α : Type} {f : Nat → Nat → α} {a i : Nat} {v : α} : wr f a i v a i = v := by simp [wr]
theorem wr_off {α : Type} {f : Nat → Nat → α} {a i k : Nat} {v : α} (h : k ≠ i) : wr f a i v a k = f a k := by simp [wr, h]
theorem tag0 {ty : FieldType} (h : tagOf ty = 0) : ty = .int := by cases ty <;> simp_all [tagOf]
theorem tag1 {ty : FieldType} (h : tagOf ty = 1) : ty = .long := by cases ty <;> simp_all [tagOf]
theorem tag3 {ty : FieldType} (h : tagOf ty = 3) : ty = .boolean := by cases ty <;> simp_all [tagOf]
theorem tag2n {ty : FieldType} (h : tagOf ty = 2) (a : Nat) : narrow ty (.ref a) = .ref a ∧ fits ty (.ref a) = true := by cases ty <;> first | (simp [tagOf] at h; done) | exact ⟨rfl, rfl⟩
theorem bool_nar {x : Int32} (h : x = 0 ∨ x = 1) : narrow .boolean (.int x) = .int x ∧ fits .boolean (.int x) = true := by
  rcases h with rfl | rfl <;> exact ⟨by decide, by decide⟩
section EXE2
variable {j d pc n : Nat} {Q : oc → hp → Prop} {v : lvs} {st : List Value} {h : hp} {i r : Instr}
set_option maxHeartbeats 4000000 in
theorem exe_PP (hj : j < 274) (hSC : SCs d) (hd : decode (ccOf j) pc = .ok (i, n)) (ho : okIns (clOf j) (decide ((yOf j).name = "<init>")) (retOf j) (ccOf j) pc i n r = true) (x : exe (cal d) (hhOf j) r pc n v st h (PP j d Q) Q) : PP j d Q (pc, v, st, h) := by
  cases r
  case idiv =>
    obtain ⟨rfl, rfl⟩ := ok_d ho
    unfold exe at x
    dsimp only at x
    split at x
    · exact pp_row (fun p l e R s m args below meth c H locs ls D dA base adK adV cells slots Qf hC hP h1 h2 hl kk => lv_idiv hC.1 hC.2.1 hd x.1 kk) x.2
    · exact x.elim
  case irem =>
    obtain ⟨rfl, rfl⟩ := ok_d ho
    unfold exe at x
    dsimp only at x
    split at x
    · exact pp_row (fun p l e R s m args below meth c H locs ls D dA base adK adV cells slots Qf hC hP h1 h2 hl kk => lv_irem hC.1 hC.2.1 hd x.1 kk) x.2
    · exact x.elim
  case ldiv =>
    obtain ⟨rfl, rfl⟩ := ok_d ho
    unfold exe at x
    dsimp only at x
    split at x
    · exact pp_row (fun p l e R s m args below meth c H locs ls D dA base adK adV cells slots Qf hC hP h1 h2 hl kk => lv_ldiv hC.1 hC.2.1 hd x.1 kk) x.2
    · exact x.elim
  case lrem =>
    obtain ⟨rfl, rfl⟩ := ok_d ho
    unfold exe at x
    dsimp only at x
    split at x
    · exact pp_row (fun p l e R s m args below meth c H locs ls D dA base adK adV cells slots Qf hC hP h1 h2 hl kk => lv_lrem hC.1 hC.2.1 hd x.1 kk) x.2
    · exact x.elim
  case ifCond cd t =>
    unfold okIns at ho
    dsimp only at ho
    split at ho
    · rename_i b0 m0
      simp only [Bool.and_eq_true, Nat.beq_eq, decide_eq_true_eq] at ho
      obtain ⟨rfl, hbc, ht, h0⟩ := ho
      subst hbc
      have ht' := ht.trans (Int.toNat_of_nonneg h0).symm
      unfold exe at x
      dsimp only at x
      split at x
      · rcases cnd_or b0 _ _ with ⟨c1, c2⟩ | ⟨c1, c2⟩
        · exact pp_row (fun p l e R s m args below meth c H locs ls D dA base adK adV cells slots Qf hC hP h1 h2 hl kk => r_if hC.1 hC.2.1 hd ht' (fun _ => kk) (fun q => absurd q c2)) (x.1 c1)
        · exact pp_row (fun p l e R s m args below meth c H locs ls D dA base adK adV cells slots Qf hC hP h1 h2 hl kk => r_if hC.1 hC.2.1 hd ht' (fun q => absurd q c2) (fun _ => kk)) (x.2 c1)
      · exact x.elim
    · cases ho
  case if_icmp cd t =>
    unfold okIns at ho
    dsimp only at ho
    split at ho
    · rename_i b0 m0
      simp only [Bool.and_eq_true, Nat.beq_eq, decide_eq_true_eq] at ho
      obtain ⟨rfl, hbc, ht, h0⟩ := ho
      subst hbc
      have ht' := ht.trans (Int.toNat_of_nonneg h0).symm
      unfold exe at x
      dsimp only at x
      split at x
      · rcases cnd_or b0 _ _ with ⟨c1, c2⟩ | ⟨c1, c2⟩
        · exact pp_row (fun p l e R s m args below meth c H locs ls D dA base adK adV cells slots Qf hC hP h1 h2 hl kk => r_icmp hC.1 hC.2.1 hd ht' (fun _ => kk) (fun q => absurd q c2)) (x.1 c1)
        · exact pp_row (fun p l e R s m args below meth c H locs ls D dA base adK adV cells slots Qf hC hP h1 h2 hl kk => r_icmp hC.1 hC.2.1 hd ht' (fun q => absurd q c2) (fun _ => kk)) (x.2 c1)
      · exact x.elim
    · cases ho
  case goto t =>
    unfold okIns at ho
    dsimp only at ho
    split at ho
    · simp only [Bool.and_eq_true, Nat.beq_eq, decide_eq_true_eq] at ho
      obtain ⟨rfl, ht, h0⟩ := ho
      exact pp_row (fun p l e R s m args below meth c H locs ls D dA base adK adV cells slots Qf hC hP h1 h2 hl kk => lv_goto hC.1 hC.2.1 hd (ht.trans (Int.toNat_of_nonneg h0).symm) kk) x
    · cases ho
  case lookupswitch dd ps =>
    unfold okIns at ho
    dsimp only at ho
    rw [Bool.and_eq_true, Bool.and_eq_true, decide_eq_true_eq] at ho
    obtain ⟨hd0, hps, ho⟩ := ho
    have hps' := List.all_eq_true.mp hps
    unfold exe at x
    dsimp only at x
    split at x
    · rename_i x0 rest
      have hK := lsw_lk x
      have hall : ∀ q ∈ ps.toList, 0 ≤ q.2 ∧ (icn q.1).toInt = q.1 := fun q hq => by
        have := hps' q hq
        simpa only [Bool.and_eq_true, decide_eq_true_eq] using this
      have hlk : ∀ (L : List (Int × Int)), (∀ q ∈ L, 0 ≤ q.2) → 0 ≤ lk x0 dd L := by
        intro L
        induction L with
        | nil => intro _; exact hd0
        | cons q L ih =>
          intro hq
          obtain ⟨a, b⟩ := q
          unfold lk
          split
          · exact hq (a, b) List.mem_cons_self
          · exact ih (fun z hz => hq z (List.mem_cons_of_mem _ hz))
      have h0 := hlk ps.toList (fun q hq => (hall q hq).1)
      split at ho
      · rename_i e0 qs
        simp only [Bool.and_eq_true, decide_eq_true_eq] at ho
        obtain ⟨h3, h4, h5⟩ := ho
        have e1 : lk x0 dd ps.toList = (pc : Int) + Op.lookupswitch.offset qs.toList e0 x0.toInt := by
          rw [h4, ← h3]
          exact lk_look (fun q hq => (hall (q.1, (pc : Int) + q.2) (by rw [h4]; exact List.mem_map.mpr ⟨q, hq, rfl⟩)).2)
        exact pp_row (fun p l e R s m args below meth c H locs ls D dA base adK adV cells slots Qf hC hP h1 h2 hl kk => lv_lookup hC.1 hC.2.1 hd h5 rfl (e1.symm.trans (Int.toNat_of_nonneg h0).symm) kk) hK
      · rename_i e0 lo hi os
        simp only [Bool.and_eq_true, decide_eq_true_eq] at ho
        obtain ⟨h3, h4, h5⟩ := ho
        have hq0 : ∀ q ∈ (os.toList.zipIdx 0).map (fun q => (lo + (q.2 : Int), (pc : Int) + q.1)), (icn q.1).toInt = q.1 := fun q hq => (hall q (by rw [h4]; exact hq)).2
        obtain ⟨t1, t2⟩ := lk_tab (x := x0) (pc := (pc : Int)) (lo := lo) (dd := dd) (os := os.toList) (k := 0) hq0
        rw [← h4] at t1 t2
        have hlen : (os.toList.length : Int) = (os.size : Int) := by simp
        by_cases ho1 : x0.toInt < lo
        · have e1 := t1 (Or.inl (by simpa using ho1))
          exact pp_row (fun p l e R s m args below meth c H locs ls D dA base adK adV cells slots Qf hC hP h1 h2 hl kk => lv_tableOut hC.1 hC.2.1 hd (Or.inl ho1) (h3.trans (e1.symm.trans (Int.toNat_of_nonneg h0).symm)) kk) hK
        · by_cases ho2 : hi < x0.toInt
          · have e1 := t1 (Or.inr (by rw [hlen]; simp; omega))
            exact pp_row (fun p l e R s m args below meth c H locs ls D dA base adK adV cells slots Qf hC hP h1 h2 hl kk => lv_tableOut hC.1 hC.2.1 hd (Or.inr ho2) (h3.trans (e1.symm.trans (Int.toNat_of_nonneg h0).symm)) kk) hK
          · have hix : (x0.toInt - lo).toNat < os.size := by omega
            have hos : os[(x0.toInt - lo).toNat]? = some os[(x0.toInt - lo).toNat] := Array.getElem?_eq_getElem hix
            have e1 := t2 (x0.toInt - lo).toNat (by simp; omega) os[(x0.toInt - lo).toNat] (by rw [Array.getElem?_toList]; exact hos)
            exact pp_row (fun p l e R s m args below meth c H locs ls D dA base adK adV cells slots Qf hC hP h1 h2 hl kk => lv_tableIn hC.1 hC.2.1 hd ho1 ho2 hos (e1.symm.trans (Int.toNat_of_nonneg h0).symm) kk) hK
      · cases ho
    · exact x.elim
  case getfield c0 =>
    unfold okIns at ho
    dsimp only at ho
    split at ho
    · simp only [Bool.and_eq_true, Nat.beq_eq] at ho
      obtain ⟨rfl, hF, htag, hci, hfk⟩ := ho
      have hci : c0 / 256 < 10 := Nat.le_of_ble_eq_true hci
      have hfk : c0 / 4 % 64 < nf (c0 / 256) := Nat.le_of_ble_eq_true hfk
      unfold exe at x
      dsimp only at x
      split at x
      · rename_i a rest
        obtain ⟨hk, x⟩ := x
        have row : ∀ {w : Value}, fld h a (c0 / 4 % 64) (tyT (c0 / 256) (c0 / 4 % 64)) = w → PP j d Q (pc + 3, v, w :: rest, h) → PP j d Q (pc, v, .ref a :: rest, h) := fun {w} hw y => pp_row (fun p l e R s m args below meth c H locs ls D dA base adK adV cells slots Qf hC hP h1 h2 hl kk => r_getf hC.1 hC.2.1 hC.2.2.2.2.1 hC.2.2.2.2.2.1 hC.2.2.2.2.2.2.2.2.2.2.2.1 hP hF hci hfk hd hk (by rw [hw]; exact kk)) y
        split at x
        · rename_i e0
          exact row (fld0 (Or.inl (by rw [htag]; exact e0))) x
        · rename_i e0
          exact row (fld1 (by rw [htag]; exact e0)) x
        · rename_i e0
          obtain ⟨b, hb, x⟩ := x
          exact row ((fld2 (by rw [htag]; exact e0)).trans (by rw [hb]; rfl)) x
        · rename_i e0 e1 e2
          have : c0 % 4 = 3 := by
            have a1 : ¬ c0 % 4 = 0 := e0
            have a2 : ¬ c0 % 4 = 1 := e1
            have a3 : ¬ c0 % 4 = 2 := e2
            omega
          exact row (fld0 (Or.inr (by rw [htag]; exact this))) x
      · exact x.elim
    · cases ho
  case putfield c0 =>
    unfold okIns at ho
    dsimp only at ho
    split at ho
    · simp only [Bool.and_eq_true, Nat.beq_eq] at ho
      obtain ⟨rfl, hF, htag, hci, hfk, hfin⟩ := ho
      have hci : c0 / 256 < 10 := Nat.le_of_ble_eq_true hci
      have hfk : c0 / 4 % 64 < nf (c0 / 256) := Nat.le_of_ble_eq_true hfk
      have hfin' : (TT (c0 / 256) (c0 / 4 % 64)).2.2.2 = true → (yOf j).name = "<init>" ∧ c0 / 256 = clOf j := by
        intro hf
        rw [hf] at hfin
        simp only [Bool.and_eq_true, decide_eq_true_eq, Nat.beq_eq] at hfin
        exact hfin
      have row : ∀ {a : Nat} {w : Value} {rest : List Value} {h' : hp}, hkd h a = c0 / 256 + 1 → narrow (tyT (c0 / 256) (c0 / 4 % 64)) w = w → fits (tyT (c0 / 256) (c0 / 4 % 64)) w = true → hkd h' = hkd h → hln h' = hln h → hsa h' = hsa h → hsz h' = hsz h → hsl h' = hsl h → hex h' = hex h → (∀ b, b ≠ a → hI h' b = hI h b ∧ hJ h' b = hJ h b ∧ hrm h' b = hrm h b) → fld h' a (c0 / 4 % 64) (tyT (c0 / 256) (c0 / 4 % 64)) = w → (∀ q, q ≠ c0 / 4 % 64 → fld h' a q (tyT (c0 / 256) q) = fld h a q (tyT (c0 / 256) q)) → PP j d Q (pc + 3, v, rest, h') → PP j d Q (pc, v, w :: .ref a :: rest, h) := by
        intro a w rest h' hk hn hft k1 k2 k3 k4 k5 k6 k7 k8 k9 y
        exact pp_put (ext_put (a := a) (by rw [hk]; omega) k1 k2 k3 k4 k5 (fun b hb => (k7 b hb).1)) k4 k5 (fun p l e R s m args below meth c H locs ls D dA base adK adV cells slots Qf hC hP hl kk => r_putf hC.1 hC.2.1 hC.2.2.2.2.1 hC.2.2.2.2.2.1 hC.2.2.2.2.2.2.2.2.2.2.2.1 hP hF hci hfk hd hk (fun hf => ⟨hC.2.2.2.2.2.2.2.1 (hfin' hf).1, (hfin' hf).2⟩) hn hft k1 k2 k3 k4 k5 k6 k7 k8 k9 kk) y
      unfold exe at x
      dsimp only at x
      split at x
      · rename_i e0
        have ht0 : tyT (c0 / 256) (c0 / 4 % 64) = .int := tag0 (by rw [htag]; exact e0)
        split at x
        · rename_i w a rest
          obtain ⟨hk, x⟩ := x
          exact row (h' := setI h (wr (hI h) a (c0 / 4 % 64) w)) hk (by rw [ht0]; rfl) (by rw [ht0]; rfl) rfl rfl rfl rfl rfl rfl (fun b hb => ⟨sd_wr_row hb, rfl, rfl⟩) ((fld0 (Or.inl (by rw [htag]; exact e0))).trans (congrArg Value.int sd_wr_at)) (fun q hq => fld_ne (wr_off hq) rfl rfl) x
        · exact x.elim
      · rename_i e0
        have ht0 : tyT (c0 / 256) (c0 / 4 % 64) = .long := tag1 (by rw [htag]; exact e0)
        split at x
        · rename_i w a rest
          obtain ⟨hk, x⟩ := x
          exact row (h' := setJ h (wr (hJ h) a (c0 / 4 % 64) w)) hk (by rw [ht0]; rfl) (by rw [ht0]; rfl) rfl rfl rfl rfl rfl rfl (fun b hb => ⟨rfl, sd_wr_row hb, rfl⟩) ((fld1 (by rw [htag]; exact e0)).trans (congrArg Value.long sd_wr_at)) (fun q hq => fld_ne rfl (wr_off hq) rfl) x
        · exact x.elim
      · rename_i e0
        have ht2 : tagOf (tyT (c0 / 256) (c0 / 4 % 64)) = 2 := by rw [htag]; exact e0
        split at x
        · rename_i w a rest
          obtain ⟨hk, x⟩ := x
          exact row (h' := setR h (wr (hrm h) a (c0 / 4 % 64) (some w))) hk (tag2n ht2 w).1 (tag2n ht2 w).2 rfl rfl rfl rfl rfl rfl (fun b hb => ⟨rfl, rfl, sd_wr_row hb⟩) ((fld2 ht2).trans (congrArg va_rf sd_wr_at)) (fun q hq => fld_ne rfl rfl (wr_off hq)) x
        · exact x.elim
      · rename_i e0 e1 e2
        have e3 : c0 % 4 = 3 := by
          have a1 : ¬ c0 % 4 = 0 := e0
          have a2 : ¬ c0 % 4 = 1 := e1
          have a3 : ¬ c0 % 4 = 2 := e2
          omega
        have ht0 : tyT (c0 / 256) (c0 / 4 % 64) = .boolean := tag3 (by rw [htag]; exact e3)
        split at x
        · rename_i w a rest
          obtain ⟨hk, hw, x⟩ := x
          exact row (h' := setI h (wr (hI h) a (c0 / 4 % 64) w)) hk (by rw [ht0]; exact (bool_nar hw).1) (by rw [ht0]; exact (bool_nar hw).2) rfl rfl rfl rfl rfl rfl (fun b hb => ⟨sd_wr_row hb, rfl, rfl⟩) ((fld0 (Or.inr (by rw [htag]; exact e3))).trans (congrArg Value.int sd_wr_at)) (fun q hq => fld_ne (wr_off hq) rfl rfl) x
        · exact x.elim
    · cases ho
  case iaload =>
    obtain ⟨rfl, rfl⟩ := ok_d ho
    unfold exe at x
    dsimp only at x
    split at x
    · exact pp_row (fun p l e R s m args below meth c H locs ls D dA base adK adV cells slots Qf hC hP h1 h2 hl kk => r_iald hC.1 hC.2.1 hC.2.2.2.2.2.2.2.2.2.2.2.1 hP hd x.1 x.2.1 kk) x.2.2
    · exact x.elim
  case baload =>
    obtain ⟨rfl, rfl⟩ := ok_d ho
    unfold exe at x
    dsimp only at x
    split at x
    · exact pp_row (fun p l e R s m args below meth c H locs ls D dA base adK adV cells slots Qf hC hP h1 h2 hl kk => r_bald hC.1 hC.2.1 hC.2.2.2.2.2.2.2.2.2.2.2.1 hP hd x.1 x.2.1 kk) x.2.2
    · exact x.elim
  case laload =>
    obtain ⟨rfl, rfl⟩ := ok_d ho
    unfold exe at x
    dsimp only at x
    split at x
    · exact pp_row (fun p l e R s m args below meth c H locs ls D dA base adK adV cells slots Qf hC hP h1 h2 hl kk => r_lald hC.1 hC.2.1 hC.2.2.2.2.2.2.2.2.2.2.2.1 hP hd x.1 x.2.1 kk) x.2.2
    · exact x.elim
  case saload =>
    unfold okIns at ho
    dsimp only at ho
    split at ho
    · have hn := Nat.eq_of_beq_eq_true ho
      subst hn
      unfold exe at x
      dsimp only at x
      split at x
      · exact pp_row (fun p l e R s m args below meth c H locs ls D dA base adK adV cells slots Qf hC hP h1 h2 hl kk => r_sald hC.1 hC.2.1 hP hd x.1 x.2.1 kk) x.2.2
      · exact x.elim
    · cases ho
  case aaload =>
    obtain ⟨rfl, rfl⟩ := ok_d ho
    unfold exe at x
    dsimp only at x
    split at x
    · obtain ⟨x1, x2, b, x3, x4⟩ := x
      exact pp_row (fun p l e R s m args below meth c H locs ls D dA base adK adV cells slots Qf hC hP h1 h2 hl kk => r_aald hC.1 hC.2.1 hC.2.2.2.2.2.2.2.2.2.2.2.1 hP hd x1 x2 (by rw [x3]; exact kk)) x4
    · exact x.elim
  case iastore =>
    obtain ⟨rfl, rfl⟩ := ok_d ho
    unfold exe at x
    dsimp only at x
    split at x
    · rename_i w i0 a rest
      obtain ⟨x1, x2, x3⟩ := x
      exact pp_put (h' := setI h (wr (hI h) a i0.toNatClampNeg w)) (ext_put (a := a) (by rw [x1]; omega) rfl rfl rfl rfl rfl (fun b hb => sd_wr_row hb)) rfl rfl (fun p l e R s m args below meth c H locs ls D dA base adK adV cells slots Qf hC hP hl kk => r_iast hC.1 hC.2.1 hC.2.2.2.2.2.2.2.2.2.2.2.1 hP hd x1 x2 kk) x3
    · exact x.elim
  case bastore =>
    obtain ⟨rfl, rfl⟩ := ok_d ho
    unfold exe at x
    dsimp only at x
    split at x
    · rename_i w i0 a rest
      obtain ⟨x1, x2, x3⟩ := x
      exact pp_put (h' := setI h (wr (hI h) a i0.toNatClampNeg w.toInt8.toInt32)) (ext_put (a := a) (by rw [x1]; omega) rfl rfl rfl rfl rfl (fun b hb => sd_wr_row hb)) rfl rfl (fun p l e R s m args below meth c H locs ls D dA base adK adV cells slots Qf hC hP hl kk => r_bast hC.1 hC.2.1 hC.2.2.2.2.2.2.2.2.2.2.2.1 hP hd x1 x2 kk) x3
    · exact x.elim
  case lastore =>
    obtain ⟨rfl, rfl⟩ := ok_d ho
    unfold exe at x
    dsimp only at x
    split at x
    · rename_i w i0 a rest
      obtain ⟨x1, x2, x3⟩ := x
      exact pp_put (h' := setJ h (wr (hJ h) a i0.toNatClampNeg w)) (ext_put (a := a) (by rw [x1]; omega) rfl rfl rfl rfl rfl (fun b hb => rfl)) rfl rfl (fun p l e R s m args below meth c H locs ls D dA base adK adV cells slots Qf hC hP hl kk => r_last hC.1 hC.2.1 hC.2.2.2.2.2.2.2.2.2.2.2.1 hP hd x1 x2 kk) x3
    · exact x.elim
  case aastore =>
    obtain ⟨rfl, rfl⟩ := ok_d ho
    unfold exe at x
    dsimp only at x
    split at x
    · rename_i w i0 a rest
      obtain ⟨x1, x2, x3, x4⟩ := x
      exact pp_put (h' := setR h (wr (hrm h) a i0.toNatClampNeg (some w))) (ext_put (a := a) (by rw [x1]; omega) rfl rfl rfl rfl rfl (fun b hb => rfl)) rfl rfl (fun p l e R s m args below meth c H locs ls D dA base adK adV cells slots Qf hC hP hl kk => r_aast hC.1 hC.2.1 hC.2.2.2.2.2.2.2.2.2.2.2.1 hP hd x1 x2 x3 kk) x4
    · exact x.elim
  case arraylength =>
    obtain ⟨rfl, rfl⟩ := ok_d ho
    unfold exe at x
    dsimp only at x
    split at x
    · exact pp_row (fun p l e R s m args below meth c H locs ls D dA base adK adV cells slots Qf hC hP h1 h2 hl kk => r_alen hC.1 hC.2.1 hC.2.2.2.2.2.2.2.2.2.2.2.1 hP hd x.1 kk) x.2
    · exact x.elim
  case new c0 =>
    unfold okIns at ho
    dsimp only at ho
    split at ho
    · simp only [Bool.and_eq_true, Nat.beq_eq] at ho
      obtain ⟨rfl, hC0, hnf, hci⟩ := ho
      have hci : c0 / 64 < 10 := Nat.le_of_ble_eq_true hci
      unfold exe at x
      dsimp only at x
      rw [← hnf] at x
      refine PP_step x.2 (ext_new (k := c0 / 64 + 1) (by omega) rfl (by show hsz h ≤ hsz h + 1; omega) (by show hsl h ≤ hsl h + nf (c0 / 64); omega) rfl (fun b hb => ⟨rfl, wrow_row hb⟩)) fun p l e R s m args below meth c H locs ls D dA base adK adV cells slots Qf hC hP h1 h2 hl kk => ?_
      have e1 : ∀ q : Nat, q + (hsz h + 1 - hsz h) = q + 1 := fun q => by omega
      have e2 : ∀ q : Nat, q + (hsl h + nf (c0 / 64) - hsl h) = q + nf (c0 / 64) := fun q => by omega
      simp only [e1, e2] at h1 h2 kk
      exact r_new hC.1 hC.2.1 hC.2.2.2.2.1 hC.2.2.2.2.2.1 hC.2.2.2.2.2.2.2.2.2.2.2.1 hP hC0 hci hd x.1 h1 h2 (fun H1 hP1 => kk H1 locs ls hP1 hl)
    · cases ho
  case newarray t =>
    unfold okIns at ho
    dsimp only at ho
    split at ho
    · simp only [Bool.and_eq_true, Nat.beq_eq, decide_eq_true_eq] at ho
      obtain ⟨rfl, rfl⟩ := ho
      unfold exe at x
      dsimp only at x
      split at x
      · rename_i w rest
        obtain ⟨⟨x1, x2, x3⟩, x⟩ := x
        have e1 : ∀ q : Nat, q + (hsz h + 1 - hsz h) = q + 1 := fun q => by omega
        have e2 : ∀ q : Nat, q + (hsl h + w.toNatClampNeg - hsl h) = q + w.toNatClampNeg := fun q => by omega
        split at x
        · refine PP_step x (ext_new (k := 20) (by omega) rfl (by show hsz h ≤ hsz h + 1; omega) (by show hsl h ≤ hsl h + w.toNatClampNeg; omega) rfl (fun b hb => ⟨va_up_n hb, wrow_row hb⟩)) fun p l e R s m args below meth c H locs ls D dA base adK adV cells slots Qf hC hP h1 h2 hl kk => ?_
          simp only [e1, e2] at h1 h2 kk
          exact r_new_int hC.1 hC.2.1 hC.2.2.2.2.2.1 hC.2.2.2.2.2.2.2.2.2.2.2.1 hP hd x1 x2 x3 h1 h2 (fun H1 hP1 => kk H1 locs ls hP1 hl)
        · refine PP_step x (ext_new (k := 21) (by omega) rfl (by show hsz h ≤ hsz h + 1; omega) (by show hsl h ≤ hsl h + w.toNatClampNeg; omega) rfl (fun b hb => ⟨va_up_n hb, wrow_row hb⟩)) fun p l e R s m args below meth c H locs ls D dA base adK adV cells slots Qf hC hP h1 h2 hl kk => ?_
          simp only [e1, e2] at h1 h2 kk
          exact r_new_byte hC.1 hC.2.1 hC.2.2.2.2.2.1 hC.2.2.2.2.2.2.2.2.2.2.2.1 hP hd x1 x2 x3 h1 h2 (fun H1 hP1 => kk H1 locs ls hP1 hl)
        · refine PP_step x (ext_new (k := 22) (by omega) rfl (by show hsz h ≤ hsz h + 1; omega) (by show hsl h ≤ hsl h + w.toNatClampNeg; omega) rfl (fun b hb => ⟨va_up_n hb, wrow_row hb⟩)) fun p l e R s m args below meth c H locs ls D dA base adK adV cells slots Qf hC hP h1 h2 hl kk => ?_
          simp only [e1, e2] at h1 h2 kk
          exact r_new_long hC.1 hC.2.1 hC.2.2.2.2.2.1 hC.2.2.2.2.2.2.2.2.2.2.2.1 hP hd x1 x2 x3 h1 h2 (fun H1 hP1 => kk H1 locs ls hP1 hl)
        · exact x.elim
      · exact x.elim
    · cases ho
  case anewarray c0 =>
    unfold okIns at ho
    dsimp only at ho
    split at ho
    · simp only [Bool.and_eq_true, Nat.beq_eq] at ho
      obtain ⟨rfl, hC0, rfl⟩ := ho
      unfold exe at x
      dsimp only at x
      split at x
      · rename_i w rest
        obtain ⟨⟨x1, x2, x3⟩, x⟩ := x
        have e1 : ∀ q : Nat, q + (hsz h + 1 - hsz h) = q + 1 := fun q => by omega
        have e2 : ∀ q : Nat, q + (hsl h + w.toNatClampNeg - hsl h) = q + w.toNatClampNeg := fun q => by omega
        refine PP_step x (ext_new (k := 23) (by omega) rfl (by show hsz h ≤ hsz h + 1; omega) (by show hsl h ≤ hsl h + w.toNatClampNeg; omega) rfl (fun b hb => ⟨va_up_n hb, wrow_row hb⟩)) fun p l e R s m args below meth c H locs ls D dA base adK adV cells slots Qf hC hP h1 h2 hl kk => ?_
        simp only [e1, e2] at h1 h2 kk
        exact r_anew hC.1 hC.2.1 hC.2.2.2.2.1 hC.2.2.2.2.2.1 hC.2.2.2.2.2.2.2.2.2.2.2.1 hP hC0 hd x1 x2 x3 h1 h2 (fun H1 hP1 => kk H1 locs ls hP1 hl)
      · exact x.elim
    · cases ho
  case ldc q =>
    unfold okIns at ho
    dsimp only at ho
    split at ho
    · rw [Bool.and_eq_true] at ho
      obtain ⟨hn, hC0⟩ := ho
      have hn := Nat.eq_of_beq_eq_true hn
      subst hn
      exact pp_row (fun p l e R s m args below meth c H locs ls D dA base adK adV cells slots Qf hC hP h1 h2 hl kk => r_ldcs hC.1 hC.2.1 hC.2.2.2.2.1 hC.2.2.2.2.2.2.2.2.2.2.2.1 hP hC0 hd kk) x
    · cases ho
  case d2i =>
    unfold okIns at ho
    dsimp only at ho
    split at ho
    · simp only [Bool.and_eq_true, Nat.beq_eq] at ho
      obtain ⟨rfl, hC0⟩ := ho
      unfold exe at x
      dsimp only at x
      split at x
      · obtain ⟨x1, x2, x3⟩ := x
        exact pp_row (fun p l e R s m args below meth c H locs ls D dA base adK adV cells slots Qf hC hP h1 h2 hl kk => r_slen hC.1 hC.2.1 (by rw [hC.2.2.2.1, hl]) hC.2.2.2.2.1 hC.2.2.2.2.2.1 hC.2.2.2.2.2.2.2.2.2.2.2.1 hP hC0 hd x1 (room8_sum x2) (by have := rF d; have := hC.2.2.2.2.2.2.2.2.2.1; omega) (by have := rF d; have := hC.2.2.2.2.2.2.2.2.2.2.1; omega) h1 h2 kk) x3
      · exact x.elim
    · cases ho
  case d2l =>
    unfold okIns at ho
    dsimp only at ho
    split at ho
    · simp only [Bool.and_eq_true, Nat.beq_eq] at ho
      obtain ⟨rfl, hC0⟩ := ho
      unfold exe at x
      dsimp only at x
      split at x
      · obtain ⟨x1, x2, x3, x4⟩ := x
        exact pp_row (fun p l e R s m args below meth c H locs ls D dA base adK adV cells slots Qf hC hP h1 h2 hl kk => r_schar hC.1 hC.2.1 (by rw [hC.2.2.2.1, hl]) hC.2.2.2.2.1 hC.2.2.2.2.2.1 hC.2.2.2.2.2.2.2.2.2.2.2.1 hP hC0 hd x1 x2 (room8_sum x3) (by have := rF d; have := hC.2.2.2.2.2.2.2.2.2.1; omega) (by have := rF d; have := hC.2.2.2.2.2.2.2.2.2.2.1; omega) h1 h2 kk) x4
      · exact x.elim
    · cases ho
  case dmul =>
    unfold okIns at ho
    dsimp only at ho
    split at ho
    · simp only [Bool.and_eq_true, Nat.beq_eq] at ho
      obtain ⟨rfl, hC0⟩ := ho
      unfold exe at x
      dsimp only at x
      split at x
      · rename_i k0 dp b sp a rest
        obtain ⟨x1, x2, x3, x4, x5, x6, x7, x8, x9⟩ := x
        exact pp_put (h' := setI h (wrow (hI h) b (va_cpy (hI h a) (hI h b) sp.toNatClampNeg dp.toNatClampNeg k0.toNatClampNeg))) (ext_put (a := b) (by rw [x2]; omega) rfl rfl rfl rfl rfl (fun z hz => wrow_row hz)) rfl rfl (fun p l e R s m args below meth c H locs ls D dA base adK adV cells slots Qf hC hP hl kk => r_copy hC.1 hC.2.1 (by rw [hC.2.2.2.1, hl]) hC.2.2.2.2.1 hC.2.2.2.2.2.1 hC.2.2.2.2.2.2.2.2.2.2.2.1 hP hC0 hd x1 x2 x3 x4 x5 x6 x7 (by have := rF d; have := hC.2.2.2.2.2.2.2.2.2.1; omega) (by have := rF d; have := hC.2.2.2.2.2.2.2.2.2.2.1; have := room8_sum x8; have : nativeFrameWords "java/lang/System" "arraycopy" 5 ≤ 300 := (by decide); omega) kk) x9
      · exact x.elim
    · cases ho
  case invokestatic c0 =>
    unfold okIns at ho
    dsimp only at ho
    split at ho
    · simp only [Bool.and_eq_true, Nat.beq_eq, decide_eq_true_eq] at ho
      obtain ⟨rfl, -, hL, hs, hnp, hY⟩ := ho
      unfold exe at x
      dsimp only at x
      split at x
      · rename_i as rest hpop
        obtain ⟨hlen, rfl⟩ := popN_nil hpop
        obtain ⟨h8, x⟩ := x
        obtain ⟨o2, h2, hq2, hx2, hM⟩ := hSC _ _ _ _ x
        cases o2 with
        | inl w => exact pp_call hx2 (fun p l e R s m args below meth c H locs ls D dA base adK adV cells slots Qf hX hP hf kk => r_callS hX hP hx2 hM (by simp [hL]) hs (by rw [hlen]; exact hnp) (by simp [hY]) (room8_sum h8) hd hf kk) hq2
        | inr y =>
          cases hh : hhOf j with
          | nil =>
            rw [hh] at hq2
            exact pp_out hx2 hj hh hq2 (fun p l e R s m args below meth c H locs ls D dA base adK adV cells slots Qf hX hP hf kk => r_callSx hX hP hx2 hM hL hs (by rw [hlen]; exact hnp) hY (room8_sum h8) hd hf kk)
          | cons q1 q2 =>
            rw [hh] at hq2
            unfold aft at hq2
            dsimp only at hq2
            split at hq2
            · exact hq2.elim
            · rename_i t k hf
              split at hq2
              · rename_i v' hv'
                exact pp_catch hx2 hj (by rw [hh]; exact hf) hv' (fun p l e R s m args below meth c H locs ls D dA base adK adV cells slots Qf hX hP hf kk => r_callSx hX hP hx2 hM hL hs (by rw [hlen]; exact hnp) hY (room8_sum h8) hd hf kk) hq2
              · exact hq2.elim
      · exact x.elim
    · cases ho
  case invokeinterface c0 c1 =>
    unfold okIns at ho
    dsimp only at ho
    split at ho
    · rw [Bool.and_eq_true, Bool.and_eq_true, Bool.and_eq_true, Bool.and_eq_true, Bool.and_eq_true, decide_eq_true_eq] at ho
      obtain ⟨hn, -, hL, hs, hnp, hY⟩ := ho
      have hn := Nat.eq_of_beq_eq_true hn
      subst hn
      unfold exe at x
      dsimp only at x
      split at x
      · rename_i as rest hpop
        obtain ⟨hlen, rfl⟩ := popN_nil hpop
        obtain ⟨h8, x⟩ := x
        obtain ⟨o2, h2, hq2, hx2, hM⟩ := hSC _ _ _ _ x
        cases o2 with
        | inl w => exact pp_call hx2 (fun p l e R s m args below meth c H locs ls D dA base adK adV cells slots Qf hX hP hf kk => r_callS hX hP hx2 hM hL hs (by rw [hlen]; exact hnp) hY (room8_sum h8) hd hf kk) hq2
        | inr y => exact hq2.elim
      · exact x.elim
    · cases ho
  case invokevirtual c0 =>
    unfold okIns at ho
    dsimp only at ho
    split at ho
    · simp only [Bool.and_eq_true, Nat.beq_eq, decide_eq_true_eq] at ho
      obtain ⟨rfl, hcl, hL, hi, hv, hnp, hY, hci⟩ := ho
      have hci : c0 % 16 < 10 := Nat.le_of_ble_eq_true hci
      rw [← hcl] at hci
      unfold exe at x
      dsimp only at x
      split at x
      · rename_i b as rest hpop
        obtain ⟨hlen, rfl⟩ := popN_nil hpop
        obtain ⟨hk, h8, x⟩ := x
        rw [← hcl] at hk
        have hnp : npar (c0 / 256) = some as.length := by
          rw [← hlen] at hnp
          cases hq : npar (c0 / 256) with
          | none => rw [hq] at hnp; simp at hnp
          | some q => rw [hq] at hnp; simp at hnp; rw [hnp]
        have hst : (Value.ref b :: as).reverse ++ rest = as.reverse ++ .ref b :: rest := by simp
        rw [hst]
        obtain ⟨o2, h2, hq2, hx2, hM⟩ := hSC _ _ _ _ x
        cases o2 with
        | inl w => exact pp_call hx2 (fun p l e R s m args below meth c H locs ls D dA base adK adV cells slots Qf hX hP hf kk => r_callV hX hP hx2 hM hL hi hv hnp hY hci hk (room8_sum h8) hd hf kk) hq2
        | inr y =>
          cases hh : hhOf j with
          | nil =>
            rw [hh] at hq2
            exact pp_out hx2 hj hh hq2 (fun p l e R s m args below meth c H locs ls D dA base adK adV cells slots Qf hX hP hf kk => r_callVx hX hP hx2 hM hL hi hv hnp hY hci hk (room8_sum h8) hd hf kk)
          | cons q1 q2 =>
            rw [hh] at hq2
            unfold aft at hq2
            dsimp only at hq2
            split at hq2
            · exact hq2.elim
            · rename_i t k hf
              split at hq2
              · rename_i v' hv'
                exact pp_catch hx2 hj (by rw [hh]; exact hf) hv' (fun p l e R s m args below meth c H locs ls D dA base adK adV cells slots Qf hX hP hf kk => r_callVx hX hP hx2 hM hL hi hv hnp hY hci hk (room8_sum h8) hd hf kk) hq2
              · exact hq2.elim
      · exact x.elim
    · cases ho
  case invokespecial c0 =>
    unfold okIns at ho
    dsimp only at ho
    split at ho
    · rw [Bool.and_eq_true, Bool.and_eq_true, Bool.and_eq_true, Bool.and_eq_true, Bool.and_eq_true, Bool.and_eq_true, Bool.and_eq_true, Bool.and_eq_true, decide_eq_true_eq, decide_eq_true_eq, decide_eq_true_eq] at ho
      obtain ⟨hn, -, hL, hi, hnm, hrt, hnp, hY, -⟩ := ho
      have hn := Nat.eq_of_beq_eq_true hn
      subst hn
      unfold exe at x
      dsimp only at x
      split at x
      · rename_i b as rest hpop
        obtain ⟨hlen, rfl⟩ := popN_nil hpop
        obtain ⟨hk, h8, x⟩ := x
        have hnp : npar (c0 / 256) = some as.length := by
          rw [← hlen] at hnp
          cases hq : npar (c0 / 256) with
          | none => rw [hq] at hnp; simp at hnp
          | some q => rw [hq] at hnp; simp at hnp; rw [hnp]
        have hst : (Value.ref b :: as).reverse ++ rest = as.reverse ++ .ref b :: rest := by simp
        rw [hst]
        obtain ⟨o2, h2, hq2, hx2, hM⟩ := hSC _ _ _ _ x
        cases o2 with
        | inl w => exact pp_call hx2 (fun p l e R s m args below meth c H locs ls D dA base adK adV cells slots Qf hX hP hf kk => r_callI hX hP hx2 hM hL hi hnm hrt hnp hY (room8_sum h8) hd hf kk) hq2
        | inr y => exact hq2.elim
      · exact x.elim
    · cases ho
  case ireturn =>
    unfold okIns at ho
    dsimp only at ho
    split at ho
    · simp only [Bool.and_eq_true, Nat.beq_eq, decide_eq_true_eq] at ho
      obtain ⟨rfl, hrt⟩ := ho
      unfold exe at x
      dsimp only at x
      split at x
      · refine ⟨_, h, x, ext_rf, fun h0 p l e R s m args below meth c H locs ls D dA base adK adV hC hP he hc hsl hl => ?_⟩
        have hlk := hC.2.2.2.2.2.2.1
        exact vx_ret (W.iret hC.1 hC.2.1 (hC.2.2.1.trans hrt) (fun t ht _ => ⟨rfl, by rw [ht]; exact hP.1, hP.2.2.F ht⟩) hP.2.2.2.2 hd)
      · exact x.elim
    · cases ho
  case dreturn =>
    unfold okIns at ho
    dsimp only at ho
    split at ho
    · simp only [Bool.and_eq_true, Nat.beq_eq, decide_eq_true_eq] at ho
      obtain ⟨rfl, hrt⟩ := ho
      unfold exe at x
      dsimp only at x
      split at x
      · obtain ⟨hx, x⟩ := x
        refine ⟨_, h, x, ext_rf, fun h0 p l e R s m args below meth c H locs ls D dA base adK adV hC hP he hc hsl hl => ?_⟩
        have hlk := hC.2.2.2.2.2.2.1
        exact vx_ret (W.zret hC.1 hC.2.1 (hC.2.2.1.trans hrt) (bool_nar hx).1 (fun t ht _ => ⟨rfl, by rw [ht]; exact hP.1, hP.2.2.F ht⟩) hP.2.2.2.2 hd)
      · exact x.elim
    · cases ho
  case lreturn =>
    unfold okIns at ho
    dsimp only at ho
    split at ho
    · simp only [Bool.and_eq_true, Nat.beq_eq, decide_eq_true_eq] at ho
      obtain ⟨rfl, hrt⟩ := ho
      unfold exe at x
      dsimp only at x
      split at x
      · refine ⟨_, h, x, ext_rf, fun h0 p l e R s m args below meth c H locs ls D dA base adK adV hC hP he hc hsl hl => ?_⟩
        have hlk := hC.2.2.2.2.2.2.1
        exact vx_ret (W.lret hC.1 hC.2.1 (hC.2.2.1.trans hrt) (fun t ht _ => ⟨rfl, by rw [ht]; exact hP.1, hP.2.2.F ht⟩) hP.2.2.2.2 hd)
      · exact x.elim
    · cases ho
  case areturn =>
    unfold okIns at ho
    dsimp only at ho
    split at ho
    · simp only [Bool.and_eq_true, Bool.or_eq_true, Nat.beq_eq, decide_eq_true_eq] at ho
      obtain ⟨rfl, hrt⟩ := ho
      obtain ⟨nm, hrt⟩ : ∃ nm, retOf j = some (.object nm) := by rcases hrt with q | q <;> exact ⟨_, q⟩
      unfold exe at x
      dsimp only at x
      split at x
      · refine ⟨_, h, x, ext_rf, fun h0 p l e R s m args below meth c H locs ls D dA base adK adV hC hP he hc hsl hl => ?_⟩
        have hlk := hC.2.2.2.2.2.2.1
        exact vx_ret (W.aret hC.1 hC.2.1 (hC.2.2.1.trans hrt) (Or.inl ⟨_, rfl⟩) (Or.inr ⟨_, rfl⟩) (fun t ht _ => ⟨rfl, by rw [ht]; exact hP.1, hP.2.2.F ht⟩) hP.2.2.2.2 hd)
      · exact x.elim
    · cases ho
  case return_ =>
    unfold okIns at ho
    dsimp only at ho
    split at ho
    · simp only [Bool.and_eq_true, Nat.beq_eq, decide_eq_true_eq] at ho
      obtain ⟨rfl, hrt⟩ := ho
      unfold exe at x
      dsimp only at x
      split at x
      · refine ⟨_, h, x, ext_rf, fun h0 p l e R s m args below meth c H locs ls D dA base adK adV hC hP he hc hsl hl => ?_⟩
        have hlk := hC.2.2.2.2.2.2.1
        exact vx_ret (W.vret hC.1 hC.2.1 (hC.2.2.1.trans hrt) (fun t ht _ => ⟨rfl, by rw [ht]; exact hP.1, hP.2.2.F ht⟩) hP.2.2.2.2 hd)
      · exact x.elim
    · cases ho
  case checkcast y =>
    unfold okIns at ho
    dsimp only at ho
    split at ho
    · simp only [Bool.and_eq_true, Nat.beq_eq, decide_eq_true_eq] at ho
      obtain ⟨rfl, hE0, ho8, hy, d3, d4, d7⟩ := ho
      have hy : y < 2 := Nat.le_of_ble_eq_true hy
      unfold exe at x
      dsimp only at x
      split at x
      · refine ⟨_, hexc h, x, ⟨by show hsz h ≤ hsz h + 1; omega, by show hsl h ≤ hsl h + 6; omega, rfl, fun a ha => ⟨rfl, rfl, rfl⟩⟩, fun h0 p l e R s m args below meth c H locs ls D dA base adK adV hC hP he hc hsL hl => ?_⟩
        have hrh : rhOf j = [] := by
          cases hr : rhOf j with
          | nil => rfl
          | cons q1 q2 =>
            have := (hh_ok j hj).2 (by rw [hr]; exact List.cons_ne_nil _ _)
            omega
        have hF := hC.2.2.2.2.2.2.2.2.2.1
        have hLo := hC.2.2.2.2.2.2.2.2.2.2.1
        have e1 : hsz h0 ≤ hsz h := he.1
        have e2 : hsl h0 ≤ hsl h := he.2.1
        have hc' : hsz h + 1 - hsz h0 ≤ R.cells := hc
        have hsl' : hsl h + 6 - hsl h0 ≤ R.slots := hsL
        have := rF d
        rw [ho8] at hE0
        exact r_throw hC.1 hC.2.1 hC.2.2.2.2.2.2.2.2.1 (by have := hC.2.2.2.2.1; rw [ho8] at this; exact this) hC.2.2.2.2.2.1 hC.2.2.2.2.2.2.2.2.2.2.2.1 hP (by rw [hC.2.2.2.1]; exact hl.2.1) hy hE0 hd d3 d4 d7 (by rw [hC.2.2.2.2.2.2.2.2.2.2.2.2, hrh]; rfl) (by omega) (by omega) (by show hsz h - hsz h0 + 1 ≤ _; omega) (by show hsl h - hsl h0 + 6 ≤ _; omega) hC.2.2.2.2.2.2.1 (by show hsz h - hsz h0 + 1 ≤ hsz h + 1 - hsz h0; omega) (by show hsl h - hsl h0 + 6 ≤ hsl h + 6 - hsl h0; omega)
      · exact x.elim
    · cases ho
  all_goals
    (unfold exe at x
     dsimp only at x
     split at x
     · rename_i v' st' hp
       exact pp_pure hd ho hp x
     · exact x.elim)
end EXE2

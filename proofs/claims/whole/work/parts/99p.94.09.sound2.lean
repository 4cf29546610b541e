/-! What neither looks at the heap nor may fail nor jumps, row by row. -/
theorem ok_d {n : Nat} {i r : Instr} (h : (Nat.beq n 1 && decide (i = r)) = true) : n = 1 ∧ i = r := by
  simp only [Bool.and_eq_true, Nat.beq_eq, decide_eq_true_eq] at h
  exact h
theorem inT_mem {t : List ((Nat × Nat) × Nat)} {o k : Nat} (h : inT t o k = true) : (o, k) ∈ t.map Prod.fst := by
  obtain ⟨z, hz, h1⟩ := List.any_eq_true.mp h
  simp only [Bool.and_eq_true, Nat.beq_eq] at h1
  exact List.mem_map.mpr ⟨z, hz, by rw [← h1.1, ← h1.2]⟩
theorem inT3_mem {t : List ((Nat × Nat × Nat) × Nat)} {o k j : Nat} (h : inT3 t o k j = true) : (o, k, j) ∈ t.map Prod.fst := by
  obtain ⟨z, hz, h1⟩ := List.any_eq_true.mp h
  simp only [Bool.and_eq_true, Nat.beq_eq] at h1
  exact List.mem_map.mpr ⟨z, hz, by rw [← h1.1, ← h1.2.1, ← h1.2.2]⟩
theorem inT3_mem' {t : List ((Nat × Nat × Nat) × Nat)} {o k j : Nat} (h : inT3 t o k j = true) : ∃ z ∈ t, z.1 = (o, k, j) := by
  obtain ⟨z, hz, h1⟩ := List.any_eq_true.mp h
  simp only [Bool.and_eq_true, Nat.beq_eq] at h1
  exact ⟨z, hz, by rw [← h1.1, ← h1.2.1, ← h1.2.2]⟩
theorem inT4_mem {t : List ((Nat × Nat × Nat × Nat) × Nat)} {o k i j : Nat} (h : inT4 t o k i j = true) : (o, k, i, j) ∈ t.map Prod.fst := by
  obtain ⟨z, hz, h1⟩ := List.any_eq_true.mp h
  simp only [Bool.and_eq_true, Nat.beq_eq] at h1
  exact List.mem_map.mpr ⟨z, hz, by rw [← h1.1, ← h1.2.1, ← h1.2.2.1, ← h1.2.2.2]⟩
theorem inTI_mem {t : List ((Nat × Nat × Int) × Nat)} {o k : Nat} {v : Int} (h : inTI t o k v = true) : (o, k, v) ∈ t.map Prod.fst := by
  obtain ⟨z, hz, h1⟩ := List.any_eq_true.mp h
  simp only [Bool.and_eq_true, Nat.beq_eq, decide_eq_true_eq] at h1
  exact List.mem_map.mpr ⟨z, hz, by rw [← h1.1, ← h1.2.1, ← h1.2.2]⟩
theorem inN_mem {t : List (Nat × Nat)} {j : Nat} (h : inN t j = true) : j ∈ t.map Prod.fst := by
  obtain ⟨z, hz, h1⟩ := List.any_eq_true.mp h
  exact List.mem_map.mpr ⟨z, hz, Nat.eq_of_beq_eq_true h1⟩
theorem inL_mem {t : List Nat} {j : Nat} (h : inL t j = true) : j ∈ t := by
  obtain ⟨z, hz, h1⟩ := List.any_eq_true.mp h
  rw [← Nat.eq_of_beq_eq_true h1]
  exact hz
theorem gw_objInst : Cond.instanceMethod objectInit ∈ GW := by exact gw_at 119 (by decide +kernel) rfl
theorem gw_objCode : Cond.code objectInit ⟨#[0xb1]⟩ 1 none ∈ GW := by exact gw_at 120 (by decide +kernel) rfl
theorem gw_mathInit : Cond.initialized "java/lang/Math" ∈ GW := by exact gw_at 106 (by decide +kernel) rfl
theorem gw_maxStat : Cond.static Lib.Math.max.name ∈ GW := by exact gw_at 490 (by decide +kernel) rfl
theorem gw_maxCode : Cond.code Lib.Math.max.name Lib.Math.max.code 2 (some .int) ∈ GW := by exact gw_at 491 (by decide +kernel) rfl
theorem gw_minStat : Cond.static Lib.Math.min.name ∈ GW := by exact gw_at 565 (by decide +kernel) rfl
theorem gw_minCode : Cond.code Lib.Math.min.name Lib.Math.min.code 2 (some .int) ∈ GW := by exact gw_at 566 (by decide +kernel) rfl
theorem gw_absStat : Cond.static Lib.Math.abs.name ∈ GW := by exact gw_at 635 (by decide +kernel) rfl
theorem gw_absCode : Cond.code Lib.Math.abs.name Lib.Math.abs.code 1 (some .int) ∈ GW := by exact gw_at 636 (by decide +kernel) rfl
section PUR
variable {p : Program} {l : Launch} {e : Env} {R : Room} {s : State} {m : MethodId} {args : Array Value} {below : List Frame} {meth : Method} {c : Code} {H : Heap} {locs : List Loc} {cells slots : Nat} {Q : State → Prop}
variable {cc : ByteArray} {pc n nL o : Nat} {ls : Array Slot} {v v' : lvs} {st st' : List Value} {i r : Instr} {ini : Bool} {rt : Option FieldType}
set_option maxHeartbeats 4000000 in
theorem pur_row (hx : p.tables.exec = Jvm.exec) (hb : c.code = cc) (hml : c.maxLocals = nL) (hown : s.vm.findClass (cn o) = some m.cls) (hts : ∀ w ∈ GW, w.before args s = true) (hF : 1 ≤ R.frames) (hLo : 21 ≤ R.locals) (hce : cells ≤ R.cells) (hsl : slots ≤ R.slots)
    (hd : decode cc pc = .ok (i, n)) (ho : okIns o ini rt cc pc i n r = true) (hl : lvR ls nL v) (hp : pur r v st = some (v', st')) (kk : ∀ ls', lvR ls' nL v' → W p l e R s m args below meth c H locs cells slots Q (F0 m (pc + n) ls' st')) : W p l e R s m args below meth c H locs cells slots Q (F0 m pc ls st) := by
  have hsz : ls.size = nL := hl.2.1
  cases r
  case iconst k =>
    cases hp
    unfold okIns at ho
    dsimp only at ho
    split at ho
    · simp only [Bool.and_eq_true, Nat.beq_eq, decide_eq_true_eq] at ho
      obtain ⟨rfl, h2⟩ := ho
      exact lv_iconst hx hb hd h2 (kk _ hl)
    · simp only [Bool.and_eq_true, Nat.beq_eq, decide_eq_true_eq] at ho
      obtain ⟨rfl, h2⟩ := ho
      exact lv_bipush hx hb hd h2 (kk _ hl)
    · simp only [Bool.and_eq_true, Nat.beq_eq, decide_eq_true_eq] at ho
      obtain ⟨rfl, h2⟩ := ho
      exact lv_sipush hx hb hd h2 (kk _ hl)
    · simp only [Bool.and_eq_true, Nat.beq_eq, decide_eq_true_eq] at ho
      obtain ⟨rfl, h2, h3⟩ := ho
      exact lv_ldc hx hb hown (hts _ (tabI_ok _ (inTI_mem h2))) hd (by show W p l e R s m args below meth c H locs cells slots Q (F0 m (pc + 2) ls (.int (Int32.ofInt k) :: st)); rw [h3]; exact kk _ hl)
    · simp only [Bool.and_eq_true, Nat.beq_eq, decide_eq_true_eq] at ho
      obtain ⟨rfl, h2, h3⟩ := ho
      exact lv_ldcw hx hb hown (hts _ (tabI_ok _ (inTI_mem h2))) hd (by show W p l e R s m args below meth c H locs cells slots Q (F0 m (pc + 3) ls (.int (Int32.ofInt k) :: st)); rw [h3]; exact kk _ hl)
    · cases ho
  case ldc2_w k =>
    cases hp
    unfold okIns at ho
    dsimp only at ho
    split at ho
    · simp only [Bool.and_eq_true, Nat.beq_eq] at ho
      obtain ⟨rfl, h2⟩ := ho
      exact lv_lconst hx hb hd (by rw [h2]) (kk _ hl)
    · simp only [Bool.and_eq_true, Nat.beq_eq] at ho
      obtain ⟨rfl, h2⟩ := ho
      exact lv_ldc2 hx hb hown (hts _ (tabJ_ok _ (inT3_mem h2))) hd (kk _ hl)
    · cases ho
  case iload k =>
    unfold pur at hp
    dsimp only at hp
    split at hp
    · rename_i x hg
      cases hp
      unfold okIns at ho
      dsimp only at ho
      split at ho
      · simp only [Bool.and_eq_true, Nat.beq_eq] at ho
        obtain ⟨rfl, rfl⟩ := ho
        exact lv_iload hx hb hd (lvR_at hl hg) (kk _ hl)
      · simp only [Bool.and_eq_true, Nat.beq_eq] at ho
        obtain ⟨rfl, h2⟩ := ho
        exact lv_iload_n hx hb hd h2 (lvR_at hl hg) (kk _ hl)
      · cases ho
    · cases hp
  case lload k =>
    unfold pur at hp
    dsimp only at hp
    split at hp
    · rename_i x hg
      cases hp
      unfold okIns at ho
      dsimp only at ho
      split at ho
      · simp only [Bool.and_eq_true, Nat.beq_eq] at ho
        obtain ⟨rfl, rfl⟩ := ho
        exact lv_lload hx hb hd (lvR_at hl hg) (kk _ hl)
      · simp only [Bool.and_eq_true, Nat.beq_eq] at ho
        obtain ⟨rfl, h2⟩ := ho
        exact lv_lload_n hx hb hd h2 (lvR_at hl hg) (kk _ hl)
      · cases ho
    · cases hp
  case aload k =>
    unfold pur at hp
    dsimp only at hp
    split at hp
    · rename_i x hg
      cases hp
      unfold okIns at ho
      dsimp only at ho
      split at ho
      · simp only [Bool.and_eq_true, Nat.beq_eq] at ho
        obtain ⟨rfl, rfl⟩ := ho
        exact lv_aload hx hb hd (lvR_at hl hg) (kk _ hl)
      · simp only [Bool.and_eq_true, Nat.beq_eq] at ho
        obtain ⟨rfl, h2⟩ := ho
        exact lv_aload_n hx hb hd h2 (lvR_at hl hg) (kk _ hl)
      · cases ho
    · cases hp
  case istore k =>
    unfold pur at hp
    dsimp only at hp
    split at hp
    · rename_i x q
      cases hs : sto v k (.int x) with
      | none => rw [hs] at hp; cases hp
      | some v9 =>
        rw [hs] at hp
        cases hp
        unfold okIns at ho
        dsimp only at ho
        split at ho
        · simp only [Bool.and_eq_true, Nat.beq_eq] at ho
          obtain ⟨rfl, rfl⟩ := ho
          exact lv_istore hx hb hd hl.2 (by have h9 := (sto_spec hs).2.1; have := hl.1; omega) rfl (fun ls' h' => kk ls' (lvR_sto hl.1 hs h'))
        · simp only [Bool.and_eq_true, Nat.beq_eq] at ho
          obtain ⟨rfl, h2⟩ := ho
          exact lv_istore_n hx hb hd h2 hl.2 (by have h9 := (sto_spec hs).2.1; have := hl.1; omega) rfl (fun ls' h' => kk ls' (lvR_sto hl.1 hs h'))
        · cases ho
    · cases hp
  case lstore k =>
    unfold pur at hp
    dsimp only at hp
    split at hp
    · rename_i x q
      cases hs : sto2 v k (.long x) with
      | none => rw [hs] at hp; cases hp
      | some v9 =>
        rw [hs] at hp
        cases hp
        unfold okIns at ho
        dsimp only at ho
        split at ho
        · simp only [Bool.and_eq_true, Nat.beq_eq] at ho
          obtain ⟨rfl, rfl⟩ := ho
          exact lv_lstore hx hb hd hl.2 (by have h9 := sto2_lt hs; have := hl.1; omega) rfl (fun ls' h' => kk ls' (lvR_sto2 hl.1 hs h'))
        · simp only [Bool.and_eq_true, Nat.beq_eq] at ho
          obtain ⟨rfl, h2⟩ := ho
          exact lv_lstore_n hx hb hd h2 hl.2 (by have h9 := sto2_lt hs; have := hl.1; omega) rfl (fun ls' h' => kk ls' (lvR_sto2 hl.1 hs h'))
        · cases ho
    · cases hp
  case astore k =>
    unfold pur at hp
    dsimp only at hp
    split at hp
    · rename_i x q
      cases hs : sto v k (.ref x) with
      | none => rw [hs] at hp; cases hp
      | some v9 =>
        rw [hs] at hp
        cases hp
        unfold okIns at ho
        dsimp only at ho
        split at ho
        · simp only [Bool.and_eq_true, Nat.beq_eq] at ho
          obtain ⟨rfl, rfl⟩ := ho
          exact lv_astore hx hb hd hl.2 (by have h9 := (sto_spec hs).2.1; have := hl.1; omega) rfl (fun ls' h' => kk ls' (lvR_sto hl.1 hs h'))
        · simp only [Bool.and_eq_true, Nat.beq_eq] at ho
          obtain ⟨rfl, h2⟩ := ho
          exact lv_astore_n hx hb hd h2 hl.2 (by have h9 := (sto_spec hs).2.1; have := hl.1; omega) rfl (fun ls' h' => kk ls' (lvR_sto hl.1 hs h'))
        · cases ho
    · cases hp
  case iinc k w =>
    unfold pur at hp
    dsimp only at hp
    split at hp
    · rename_i x hg
      cases hs : sto v k (.int (x + icn w)) with
      | none => rw [hs] at hp; cases hp
      | some v9 =>
        rw [hs] at hp
        cases hp
        unfold okIns at ho
        dsimp only at ho
        split at ho
        · simp only [Bool.and_eq_true, Nat.beq_eq, decide_eq_true_eq] at ho
          obtain ⟨rfl, rfl, h3⟩ := ho
          obtain ⟨kx, hkx⟩ := List.getElem?_of_mem (mem_lvl.mpr hg)
          exact lv_iinc hx hb hd hl.2 hkx (by rw [h3]) (by have h9 := (sto_spec hs).2.1; have := hl.1; omega) rfl (fun ls' h' => kk ls' (lvR_sto hl.1 hs h'))
        · cases ho
    · cases hp
  case iadd =>
    obtain ⟨rfl, rfl⟩ := ok_d ho
    unfold pur at hp
    dsimp only at hp
    split at hp
    · cases hp
      exact lv_iadd hx hb hd (kk _ hl)
    · cases hp
  case isub =>
    obtain ⟨rfl, rfl⟩ := ok_d ho
    unfold pur at hp
    dsimp only at hp
    split at hp
    · cases hp
      exact lv_isub hx hb hd (kk _ hl)
    · cases hp
  case imul =>
    obtain ⟨rfl, rfl⟩ := ok_d ho
    unfold pur at hp
    dsimp only at hp
    split at hp
    · cases hp
      exact lv_imul hx hb hd (kk _ hl)
    · cases hp
  case iand =>
    obtain ⟨rfl, rfl⟩ := ok_d ho
    unfold pur at hp
    dsimp only at hp
    split at hp
    · cases hp
      exact lv_iand hx hb hd (kk _ hl)
    · cases hp
  case ior =>
    obtain ⟨rfl, rfl⟩ := ok_d ho
    unfold pur at hp
    dsimp only at hp
    split at hp
    · cases hp
      exact lv_ior hx hb hd (kk _ hl)
    · cases hp
  case ixor =>
    obtain ⟨rfl, rfl⟩ := ok_d ho
    unfold pur at hp
    dsimp only at hp
    split at hp
    · cases hp
      exact lv_ixor hx hb hd (kk _ hl)
    · cases hp
  case ishl =>
    obtain ⟨rfl, rfl⟩ := ok_d ho
    unfold pur at hp
    dsimp only at hp
    split at hp
    · cases hp
      exact lv_ishl hx hb hd (kk _ hl)
    · cases hp
  case ishr =>
    obtain ⟨rfl, rfl⟩ := ok_d ho
    unfold pur at hp
    dsimp only at hp
    split at hp
    · cases hp
      exact lv_ishr hx hb hd (kk _ hl)
    · cases hp
  case ineg =>
    obtain ⟨rfl, rfl⟩ := ok_d ho
    unfold pur at hp
    dsimp only at hp
    split at hp
    · cases hp
      exact lv_ineg hx hb hd (kk _ hl)
    · cases hp
  case ladd =>
    obtain ⟨rfl, rfl⟩ := ok_d ho
    unfold pur at hp
    dsimp only at hp
    split at hp
    · cases hp
      exact lv_ladd hx hb hd (kk _ hl)
    · cases hp
  case lsub =>
    obtain ⟨rfl, rfl⟩ := ok_d ho
    unfold pur at hp
    dsimp only at hp
    split at hp
    · cases hp
      exact lv_lsub hx hb hd (kk _ hl)
    · cases hp
  case lmul =>
    obtain ⟨rfl, rfl⟩ := ok_d ho
    unfold pur at hp
    dsimp only at hp
    split at hp
    · cases hp
      exact lv_lmul hx hb hd (kk _ hl)
    · cases hp
  case land =>
    obtain ⟨rfl, rfl⟩ := ok_d ho
    unfold pur at hp
    dsimp only at hp
    split at hp
    · cases hp
      exact lv_land hx hb hd (kk _ hl)
    · cases hp
  case lor =>
    obtain ⟨rfl, rfl⟩ := ok_d ho
    unfold pur at hp
    dsimp only at hp
    split at hp
    · cases hp
      exact lv_lor hx hb hd (kk _ hl)
    · cases hp
  case iushr =>
    obtain ⟨rfl, rfl⟩ := ok_d ho
    unfold pur at hp
    dsimp only at hp
    split at hp
    · cases hp
      exact lv_iushr hx hb hd rfl (kk _ hl)
    · cases hp
  case lshl =>
    obtain ⟨rfl, rfl⟩ := ok_d ho
    unfold pur at hp
    dsimp only at hp
    split at hp
    · cases hp
      exact lv_lshl hx hb hd rfl (kk _ hl)
    · cases hp
  case i2l =>
    obtain ⟨rfl, rfl⟩ := ok_d ho
    unfold pur at hp
    dsimp only at hp
    split at hp
    · cases hp
      exact lv_i2l hx hb hd rfl (kk _ hl)
    · cases hp
  case l2i =>
    obtain ⟨rfl, rfl⟩ := ok_d ho
    unfold pur at hp
    dsimp only at hp
    split at hp
    · cases hp
      exact lv_l2i hx hb hd rfl (kk _ hl)
    · cases hp
  case i2b =>
    obtain ⟨rfl, rfl⟩ := ok_d ho
    unfold pur at hp
    dsimp only at hp
    split at hp
    · cases hp
      exact lv_i2b hx hb hd rfl (kk _ hl)
    · cases hp
  case i2c =>
    obtain ⟨rfl, rfl⟩ := ok_d ho
    unfold pur at hp
    dsimp only at hp
    split at hp
    · cases hp
      exact lv_i2c hx hb hd rfl (kk _ hl)
    · cases hp
  case lcmp =>
    obtain ⟨rfl, rfl⟩ := ok_d ho
    unfold pur at hp
    dsimp only at hp
    split at hp
    · cases hp
      exact W.lcmp hx hb hd (kk _ hl)
    · cases hp
  case dup =>
    obtain ⟨rfl, rfl⟩ := ok_d ho
    unfold pur at hp
    dsimp only at hp
    split at hp
    · cases hp
      exact lv_dup hx hb hd rfl (kk _ hl)
    · cases hp
      exact lv_dup hx hb hd rfl (kk _ hl)
    · cases hp
  case dup2 =>
    obtain ⟨rfl, rfl⟩ := ok_d ho
    unfold pur at hp
    dsimp only at hp
    split at hp
    · cases hp
      exact lv_dup2_11 hx hb hd rfl rfl (kk _ hl)
    · cases hp
  case pop =>
    obtain ⟨rfl, rfl⟩ := ok_d ho
    unfold pur at hp
    dsimp only at hp
    split at hp
    · cases hp
      exact lv_pop hx hb hd rfl (kk _ hl)
    · cases hp
      exact lv_pop hx hb hd rfl (kk _ hl)
    · cases hp
  case dadd =>
    unfold okIns at ho
    dsimp only at ho
    split at ho
    · simp only [Bool.and_eq_true, Nat.beq_eq] at ho
      obtain ⟨rfl, h2⟩ := ho
      unfold pur at hp
      dsimp only at hp
      split at hp
      · split at hp
        · rename_i h8
          cases hp
          have h9 := room8_sum h8
          exact va_mmax hx hb (by rw [hml, hsz]) hown (hts _ (tabP_max_ok _ (inT_mem h2))) (hts _ gw_maxStat) (hts _ gw_mathInit) (hts _ gw_maxCode) hF (by omega) hce hsl hd (kk _ hl)
        · cases hp
      · cases hp
    · cases ho
  case dsub =>
    unfold okIns at ho
    dsimp only at ho
    split at ho
    · simp only [Bool.and_eq_true, Nat.beq_eq] at ho
      obtain ⟨rfl, h2⟩ := ho
      unfold pur at hp
      dsimp only at hp
      split at hp
      · split at hp
        · rename_i h8
          cases hp
          have h9 := room8_sum h8
          exact va_mmin hx hb (by rw [hml, hsz]) hown (hts _ (tabP_min_ok _ (inT_mem h2))) (hts _ gw_minStat) (hts _ gw_mathInit) (hts _ gw_minCode) hF (by omega) hce hsl hd (kk _ hl)
        · cases hp
      · cases hp
    · cases ho
  case dneg =>
    unfold okIns at ho
    dsimp only at ho
    split at ho
    · simp only [Bool.and_eq_true, Nat.beq_eq] at ho
      obtain ⟨rfl, h2⟩ := ho
      unfold pur at hp
      dsimp only at hp
      split at hp
      · split at hp
        · rename_i h8
          cases hp
          have h9 := room8_sum h8
          exact va_mabs hx hb (by rw [hml, hsz]) hown (hts _ (tabP_abs_ok _ (inT_mem h2))) (hts _ gw_absStat) (hts _ gw_mathInit) (hts _ gw_absCode) hF (by omega) hce hsl hd (kk _ hl)
        · cases hp
      · cases hp
    · cases ho
  case monitorenter =>
    unfold okIns at ho
    dsimp only at ho
    split at ho
    · simp only [Bool.and_eq_true, Nat.beq_eq] at ho
      obtain ⟨rfl, h2⟩ := ho
      unfold pur at hp
      dsimp only at hp
      split at hp
      · split at hp
        · rename_i h8
          cases hp
          have h9 := room8_sum h8
          exact W.objInit hx hb hown (hts _ (tabO_ok _ (inT_mem h2))) (hts _ gw_objInst) (hts _ gw_objCode) (g := F0 m pc ls _) rfl (by rw [hml]; exact hsz) rfl hd hF (by show 2 * 0 + _ + 12 ≤ _; omega) (kk _ hl)
        · cases hp
      · cases hp
    · cases ho
  all_goals (cases hp; done)
end PUR

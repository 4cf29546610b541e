/-! From the law's own start: what every method finds, and the claim. -/
def R_law : String := "SlotKeeperLaw"
def lw_P (b : Addr) (xs : List Int32) (args : Array Value) (s : State) : Prop := args = #[.ref b] ∧ s.IntsAt b xs ∧ xs.length ≤ 3072 ∧ (Jvm.Cond.and given_1 narrow_1).before args s = true
def lw_Q (_ : Array Value) (s : State) (o : Outcome) (t : State) : Prop := o = .returned (some (.int 1)) ∧ Framed s o t [] 601024 7293034
def lw_Z (below : List Frame) (a : Array Value) (s : State) : State → Prop := fun t => ∃ o, t.status = .running ∧ Ended t below o ∧ lw_Q a s o t
def lw_At (p : Program) (s : State) (m : MethodId) (meth : Method) (c : Code) (b L : Nat) (xs : Nat → Int32) : Prop :=
  p.tables.exec = Jvm.exec ∧ c.code = code ∧ meth.sig.returnType = ret ∧ c.maxLocals = 7 ∧ s.vm.findClass R_law = some m.cls ∧ (∀ w ∈ lw_tbl, w.before #[Value.ref b] s = true) ∧ va_X b L xs s s.heap ∧ b < s.heap.size ∧ meth.locks = false ∧ (Jvm.Cond.and given_1 narrow_1).before #[Value.ref b] s = true ∧ c.exceptionTable.toList = []
def rIx : List Nat := [49, 110, 112, 58, 63, 68, 75]
def mIx : List Nat := [156, 145, 151, 161, 166, 168, 170]
def tmS (k : Nat) : Term := .string "SlotKeeper$Reader" (rIx.getD k 0)
def tmM (k : Nat) : Term := .string "SlotKeeperModel" (mIx.getD k 0)
def flatS : List Cond := flatC (Jvm.Cond.and given_1 narrow_1)
set_option maxRecDepth 100000 in
theorem st_ex : ∀ i, i < 7 → Cond.exactly (tmS i) "java/lang/String" ∈ flatS ∧ Cond.eq (.field (tmS i) "java/lang/String" "coder" "B") (.int 0) ∈ flatS ∧ Cond.arrayOf (.field (tmS i) "java/lang/String" "value" "[B") .byte ∈ flatS ∧ Cond.eq (.length (.field (tmS i) "java/lang/String" "value" "[B")) (.int (Int32.ofNat (lenS.getD i 0))) ∈ flatS := by decide +kernel
set_option maxRecDepth 100000 in
theorem st_el : ∀ i, i < 7 → ∀ j, j < lenS.getD i 0 → Cond.eq (.elem (.field (tmS i) "java/lang/String" "value" "[B") (.int (Int32.ofNat j))) (.int ((bytS.getD i []).getD j 0)) ∈ flatS := by decide +kernel
set_option maxRecDepth 100000 in
theorem st_ne : ∀ i, i < 7 → ∀ j, j < 7 → i ≠ j → Cond.not (Cond.eq (tmS i) (tmS j)) ∈ flatS ∨ Cond.not (Cond.eq (tmS j) (tmS i)) ∈ flatS := by decide +kernel
set_option maxRecDepth 100000 in
theorem st_eq : ∀ i, i < 7 → Cond.eq (tmS i) (tmM i) ∈ flatS ∨ Cond.eq (tmM i) (tmS i) ∈ flatS := by decide +kernel
theorem st_tab : ∀ q ∈ strTab, (q.1 = 3 ∧ q.2.1 = rIx.getD q.2.2 0 ∨ q.1 = 9 ∧ q.2.1 = mIx.getD q.2.2 0) ∧ q.2.2 < 7 := by decide +kernel
set_option maxRecDepth 100000 in
theorem st_ref : ∀ q ∈ strTab, Cond.stringRef (cn q.1) q.2.1 (wordTab.getD q.2.2 "") ∈ lw_tbl := by decide +kernel
theorem st_nc : Cond.not (.castable iaeN nseN) ∈ flatS ∧ Cond.not (.castable nseN iaeN) ∈ flatS ∧ Cond.isRef (.static Bundle.tN "UNASSIGNED_STACK" Bundle.steD) ∈ flatS ∧ Cond.isRef (.static Bundle.tN "SUPPRESSED_SENTINEL" Bundle.listD) ∈ flatS ∧ Cond.eq (.static "java/lang/String" "COMPACT_STRINGS" "Z") (.int 1) ∈ flatS ∧ Cond.isRef (.static "jdk/internal/util/Preconditions" "SIOOBE_FORMATTER" "Ljava/util/function/BiFunction;") ∈ flatS := by decide +kernel
theorem st_lay : Cond.laysStatic Bundle.tN "UNASSIGNED_STACK" Bundle.steD ∈ lw_tbl ∧ Cond.laysStatic Bundle.tN "SUPPRESSED_SENTINEL" Bundle.listD ∈ lw_tbl ∧ Cond.laysStatic "java/lang/String" "COMPACT_STRINGS" "Z" ∈ lw_tbl ∧ Cond.laysStatic "jdk/internal/util/Preconditions" "SIOOBE_FORMATTER" "Ljava/util/function/BiFunction;" ∈ lw_tbl ∧ Cond.initialized Bundle.tN ∈ lw_tbl ∧ Cond.initialized "java/lang/String" ∈ lw_tbl ∧ Cond.initialized "jdk/internal/util/Preconditions" ∈ lw_tbl ∧ Cond.arrayOver (.object "SlotKeeper$Board") ∈ lw_tbl := by decide +kernel
theorem eq_eval {args : Array Value} {s : State} {t u : Term} {v : Value} (h : (Cond.eq t u).before args s = true) (ht : t.eval args s none [] s = some v) : u.eval args s none [] s = some v := by
  obtain ⟨w, h1, h2⟩ := Cond.eq_one h
  exact h2.trans (h1.symm.trans ht)
theorem eq_eval' {args : Array Value} {s : State} {t u : Term} {v : Value} (h : (Cond.eq t u).before args s = true) (ht : u.eval args s none [] s = some v) : t.eval args s none [] s = some v := by
  obtain ⟨w, h1, h2⟩ := Cond.eq_one h
  exact h1.trans (h2.symm.trans ht)
theorem env_start {s : State} {b : Nat} (hts : ∀ w ∈ lw_tbl, w.before #[Value.ref b] s = true) (hgv : (Jvm.Cond.and given_1 narrow_1).before #[Value.ref b] s = true) : ∃ (D : va_G) (dA : Nat → ClassId) (adK adV : Nat → Nat), Env0 D dA s.heap.size adK adV s := by
  have hfl : ∀ w ∈ flatS, w.before #[Value.ref b] s = true := flat_of_before _ hgv
  have htG : ∀ w ∈ GW, w.before #[Value.ref b] s = true := fun w h => hts w (List.mem_filter.mp h).1
  have hA : ∀ a : Nat, a < s.heap.size → ¬ (fun q : Nat => s.heap.size ≤ q) a := fun a h => Nat.not_le.mpr h
  have hk : ∀ c, ∃ q : ClassId × (Nat → Nat), c < 10 → u_Kn s (cn c) (TT c) (nf c) q.1 q.2 := by
    intro c
    by_cases hc : c < 10
    · have hIs : c ∈ tabIs.map Prod.fst := by
        have : ∀ c, c < 10 → c ∈ tabIs.map Prod.fst := by decide
        exact this c hc
      obtain ⟨cC, iS, h⟩ := u_known (C := cn c) (T := TT c) (N := nf c) (n := nf c) htG (lay_ok hc) (htG _ (tabIs_ok c hIs))
      exact ⟨(cC, iS), fun _ => h⟩
    · exact ⟨(default, fun _ => 0), fun h => absurd h hc⟩
  obtain ⟨F, hF⟩ := Classical.axiomOfChoice hk
  have arr : ∀ ty : FieldType, (Cond.arrayClass ty).before #[Value.ref b] s = true → (∀ C, ty ≠ .object C) → ∃ cA, ArrOfT s cA ty ∧ va_RA s cA ty := by
    intro ty h hne
    obtain ⟨cA, kA, comp, h1, h2, h3⟩ := Cond.arrayClass_spec h
    refine ⟨cA, fun n z => ⟨fun k h => (by cases h), kA, h2, comp, h3⟩, ?_⟩
    cases ty with
    | object C => exact absurd rfl (hne C)
    | _ => exact h1
  obtain ⟨c0, a0⟩ := arr .int (htG _ gw_aInt) (fun C h => by cases h)
  obtain ⟨c1, a1⟩ := arr .byte (htG _ gw_aByte) (fun C h => by cases h)
  obtain ⟨c2, a2⟩ := arr .long (htG _ gw_aLong) (fun C h => by cases h)
  obtain ⟨comp, c3, k3, g1, g2, g3, g4, g5⟩ := Cond.arrayOver_spec (hts _ st_lay.2.2.2.2.2.2.2)
  obtain ⟨adK, adV, hS, hev⟩ := vk_Sof (args := #[Value.ref b]) (s := s) (N := 7) (tm := tmS) (len := lenS) (byt := bytS) (A := fun q => s.heap.size ≤ q) (by decide) (fun i hi => hfl _ (st_ex i hi).1) (fun i hi => hfl _ (st_ex i hi).2.1) (fun i hi => hfl _ (st_ex i hi).2.2.1) (fun i hi => hfl _ (st_ex i hi).2.2.2) (fun i hi j hj => hfl _ (st_el i hi j hj))
    (fun i j hi hj hij => (st_ne i hi j hj hij).imp (fun h => hfl _ h) (fun h => hfl _ h)) hA
  refine ⟨(fun c => (F c).1, fun c => (F c).2), fun k => if k = 0 then c0 else if k = 1 then c1 else if k = 2 then c2 else c3, adK, adV, ⟨fun c q hq => ?_, fun k q hq => ?_⟩, ?_, ?_, hS, fun q hq => ?_, ?_, ?_, fun w hw hn => va_Nw.of (ngW_tab hn) (hts w hw), Nat.le_refl _, va_AO.of (hts _ st_lay.2.2.2.2.2.2.2), va_Nc.of (hfl _ st_nc.1), va_Nc.of (hfl _ st_nc.2.1)⟩
  · obtain ⟨hc, rfl⟩ := clss_of hq
    exact hF c hc
  · match k, hq with
    | 0, hq => cases hq; exact a0
    | 1, hq => cases hq; exact a1
    | 2, hq => cases hq; exact a2
    | 3, hq => cases hq; exact ⟨fun n z => ⟨fun k h => (by cases h), k3, g3, comp, g4⟩, k3, comp, g3, g4, g1, g5⟩
    | k + 4, hq => simp [tysA] at hq
  · exact vx_Zqof (hts _ st_lay.1) (hts _ st_lay.2.2.2.2.1) (hfl _ st_nc.2.2.1) hA
  · exact vx_Zqof (hts _ st_lay.2.1) (hts _ st_lay.2.2.2.2.1) (hfl _ st_nc.2.2.2.1) hA
  · obtain ⟨h1, h2⟩ := st_tab q hq
    have hr := hts _ (st_ref q hq)
    rcases h1 with ⟨e1, e2⟩ | ⟨e1, e2⟩
    · have he : (Term.string (cn q.1) q.2.1).eval #[Value.ref b] s none [] s = some (.ref (adK q.2.2)) := by
        rw [e1, e2]
        exact hev _ h2
      exact vk_R.of hr he
    · have he : (Term.string (cn q.1) q.2.1).eval #[Value.ref b] s none [] s = some (.ref (adK q.2.2)) := by
        rw [e1, e2]
        rcases st_eq _ h2 with g | g
        · exact eq_eval (hfl _ g) (hev _ h2)
        · exact eq_eval' (hfl _ g) (hev _ h2)
      exact vk_R.of hr he
  · exact va_Zof (hts _ st_lay.2.2.1) (hts _ st_lay.2.2.2.2.2.1) (va_eqi (hfl _ st_nc.2.2.2.2.1)) hA
  · exact (vx_Zqof (hts _ st_lay.2.2.2.1) (hts _ st_lay.2.2.2.2.2.2.1) (hfl _ st_nc.2.2.2.2.2) hA).1
/-- the heap at the law's start: the script, the String constants -/
def sIx (adK : Nat → Nat) (a : Nat) : Nat := if a = adK 0 then 0 else if a = adK 1 then 1 else if a = adK 2 then 2 else if a = adK 3 then 3 else if a = adK 4 then 4 else if a = adK 5 then 5 else 6
abbrev isS (adK : Nat → Nat) (a : Nat) : Prop := a = adK 0 ∨ a = adK 1 ∨ a = adK 2 ∨ a = adK 3 ∨ a = adK 4 ∨ a = adK 5 ∨ a = adK 6
def h0L (b L : Nat) (xs : Nat → Int32) (adK : Nat → Nat) (z : Nat) : hp := ((fun a => if a = b then 30 else if isS adK a then 40 else 0, fun a => if a = b then L else lenS.getD (sIx adK a) 0, fun _ _ => none, adK), fun a i => if a = b then xs i else (bytS.getD (sIx adK a) []).getD i 0, fun _ _ => 0, z, 0, true)
theorem sIx_at {adK : Nat → Nat} (hinj : ∀ i j : Nat, i < 7 → j < 7 → adK i = adK j → i = j) : ∀ k, k < 7 → sIx adK (adK k) = k := by
  intro k hk
  unfold sIx
  rcases (show k = 0 ∨ k = 1 ∨ k = 2 ∨ k = 3 ∨ k = 4 ∨ k = 5 ∨ k = 6 by omega) with rfl | rfl | rfl | rfl | rfl | rfl | rfl
  all_goals
    repeat (first | rw [if_pos rfl] | rw [if_neg (fun e => absurd (hinj _ _ (by decide) (by decide) e) (by decide))])
theorem isS_at {adK : Nat → Nat} : ∀ k, k < 7 → isS adK (adK k) := by
  intro k hk
  unfold isS
  rcases (show k = 0 ∨ k = 1 ∨ k = 2 ∨ k = 3 ∨ k = 4 ∨ k = 5 ∨ k = 6 by omega) with rfl | rfl | rfl | rfl | rfl | rfl | rfl <;> simp
theorem isS_of {adK : Nat → Nat} {a : Nat} (h : isS adK a) : ∃ k, k < 7 ∧ a = adK k := by
  rcases h with h | h | h | h | h | h | h
  · exact ⟨0, by decide, h⟩
  · exact ⟨1, by decide, h⟩
  · exact ⟨2, by decide, h⟩
  · exact ⟨3, by decide, h⟩
  · exact ⟨4, by decide, h⟩
  · exact ⟨5, by decide, h⟩
  · exact ⟨6, by decide, h⟩
/-- WHAT IS LEFT: the law's run on the smaller machine -/
def LAW_OK : Prop := ∀ (b L : Nat) (xs : Nat → Int32) (adK : Nat → Nat) (z : Nat), L ≤ 3072 → b < z → (∀ k, k < 7 → adK k < z ∧ adK k ≠ b) → (∀ i j : Nat, i < 7 → j < 7 → adK i = adK j → i = j) → cal 61 273 [.ref b] (h0L b L xs adK z) (fun o h' => o = .inl (some (.int 1)) ∧ hsz h' ≤ z + 601024 ∧ hsl h' ≤ 7293034)
theorem W_mono {p : Program} {l : Launch} {e : Env} {R : Room} {s : State} {m : MethodId} {args : Array Value} {below : List Frame} {meth : Method} {c : Code} {H : Heap} {locs : List Loc} {cells slots : Nat} {Q Q' : State → Prop} {g : JFrame} (h : ∀ t, Q t → Q' t) (k : W p l e R s m args below meth c H locs cells slots Q g) : W p l e R s m args below meth c H locs cells slots Q' g := by
  intro T hT X
  obtain ⟨t, a, b⟩ := k T hT X
  exact ⟨t, a, h t b⟩
theorem whole_start (hok : ∀ j, j < 274 → okM j = true) (hlaw : LAW_OK) {p : Program} {e : Env} {s : State} {m : MethodId} {below : List Frame} {meth : Method} {c : Code} (l : Launch) (hflags : l.flags = flags0) {b L : Nat} {xs : Nat → Int32} (hL : L ≤ 3072) (C0 : lw_At p s m meth c b L xs) : W p l e room_1 s m #[Value.ref b] below meth c s.heap [] 0 0 (lw_Z below #[Value.ref b] s) (entryFrame m ([Value.ref b] : List Value).toArray 7) := by
  obtain ⟨hx, hb, hr, hml, hown, hts, hX, hbl, hlocks, hgv, htab⟩ := C0
  obtain ⟨D, dA, adK, adV, hE⟩ := env_start hts hgv
  have hst : l.stackTraces = false := by
    unfold Launch.stackTraces
    rw [hflags]
    decide
  have hS := hE.2.2.2.1
  have hne : ∀ k, k < 7 → adK k < s.heap.size ∧ adK k ≠ b := by
    intro k hk
    obtain ⟨-, -, ⟨cf, kf, fi, f, cell, g1, g2, g3, g4, g5, g6⟩, -⟩ := hS.1 k hk
    refine ⟨(Array.getElem?_eq_some_iff.mp g3).1, fun e => ?_⟩
    obtain ⟨scr, x1, x2, x3, x4, x5⟩ := hX
    rw [e, x1] at g3
    cases g3
    have hlt : f.slot < L := by rw [← x4]; exact (Array.getElem?_eq_some_iff.mp g5).1
    rw [x5 _ hlt] at g5
    cases g5
  have hcal := hlaw b L xs adK s.heap.size hL hbl hne hS.2
  obtain ⟨hlen, hwp⟩ := hcal
  obtain ⟨o1, h1, ⟨rfl, hz1, hs1⟩, hext, hWS⟩ := Wp_PP (hok 273 (by decide)) (by decide) (SC_all hok 60) hwp
  have hCT : CT p l room_1 s m #[Value.ref b] meth c 273 60 D dA s.heap.size adK adV := ⟨hx, hb, hr, hml, hown, fun w h => hts w (List.mem_filter.mp h).1, hlocks, fun h => absurd h (by decide), hst, by decide, by decide, hE, htab⟩
  have hk0 : ∀ a, hkd (h0L b L xs adK s.heap.size) a = if a = b then 30 else if isS adK a then 40 else 0 := fun a => rfl
  have hPt : Pt0 D dA s.heap.size adK s (h0L b L xs adK s.heap.size) s.heap [] := by
    refine ⟨⟨fun a k1 k2 => ?_, fun _ => rfl, fun a ha => ?_⟩, ⟨fun k _ => rfl, fun a ha => ?_, fun a ha => ?_⟩, va_S.rf⟩
    · rw [hk0] at k1 k2
      split at k2
      · omega
      · split at k2
        · omega
        · rename_i h1 h2
          rw [if_neg h1, if_neg h2] at k1
          exact absurd rfl k1
    · have ha : s.heap.size ≤ a := ha
      rw [hk0, if_neg (by omega), if_neg (fun h => ?_)]
      obtain ⟨k, hk, rfl⟩ := isS_of h
      have := (hne k hk).1
      omega
    · have : a = b := by
        rw [hk0] at ha
        split at ha
        · assumption
        · split at ha <;> cases ha
      subst this
      refine ⟨?_, hbl⟩
      have e1 : hln (h0L a L xs adK s.heap.size) a = L := if_pos rfl
      have e2 : hI (h0L a L xs adK s.heap.size) a = xs := by funext i; exact if_pos rfl
      rw [e1, e2]
      exact hX
    · have hab : a ≠ b := fun e => by rw [hk0, if_pos e] at ha; cases ha
      have his : isS adK a := by
        rw [hk0, if_neg hab] at ha
        split at ha
        · assumption
        · cases ha
      obtain ⟨k, hk, rfl⟩ := isS_of his
      refine ⟨k, hk, rfl, ?_, fun i _ => ?_⟩
      · show (if adK k = b then L else lenS.getD (sIx adK (adK k)) 0) = _
        rw [if_neg hab, sIx_at hS.2 k hk]
      · show (if adK k = b then xs i else (bytS.getD (sIx adK (adK k)) []).getD i 0) = _
        rw [if_neg hab, sIx_at hS.2 k hk]
  have hz0 : hsz (h0L b L xs adK s.heap.size) = s.heap.size := rfl
  have hs0 : hsl (h0L b L xs adK s.heap.size) = 0 := rfl
  have hmc : hsz h1 - hsz (h0L b L xs adK s.heap.size) ≤ 601024 := by rw [hz0]; omega
  have hms : hsl h1 - hsl (h0L b L xs adK s.heap.size) ≤ 7293034 := by rw [hs0]; omega
  have hW := hWS (h0L b L xs adK s.heap.size) p l e room_1 s m #[Value.ref b] below meth c s.heap [] _ D dA s.heap.size adK adV hCT hPt ext_rf hmc hms (entry_lvR hlen)
  dsimp only at hW
  rw [Nat.sub_self, Nat.sub_self] at hW
  rw [lg_entry_eq]
  refine W_mono (fun t ht => ?_) hW
  obtain ⟨o, q1, q2, q3⟩ := ht
  refine ⟨o, q1, q2, ?_⟩
  rcases q3 with ⟨⟨rfl, -⟩, Lc, ⟨f1, f2, f3⟩, hLc⟩ | ⟨q, -, E, ce, Lc, hx, -⟩
  · exact ⟨rfl, ⟨_, rfl⟩, f2, f3.weaken (fun y hy hlt => absurd hlt (Nat.not_lt.mpr (hLc y hy))) hmc hms⟩
  · exact hx.elim

/-! String.length() and String.charAt() on the constants: the JDK's own code. -/
def rmJ (f : Nat) : Room := { frames := f, cells := 0, slots := 0, locals := 40 * f }
def JQ (v : Option Value) : Array Value → State → Outcome → State → Prop := fun _ st o t => o = .returned v ∧ t.heap = st.heap
def sLen : MethodName := ⟨"java/lang/String", "length", "()I"⟩
def sCod : MethodName := ⟨"java/lang/String", "coder", "()B"⟩
def sChr : MethodName := ⟨"java/lang/String", "charAt", "(I)C"⟩
def sLat : MethodName := ⟨"java/lang/String", "isLatin1", "()Z"⟩
def lChr : MethodName := ⟨"java/lang/StringLatin1", "charAt", "([BI)C"⟩
def sChk : MethodName := ⟨"java/lang/String", "checkIndex", "(II)V"⟩
def pChk : MethodName := ⟨"jdk/internal/util/Preconditions", "checkIndex", "(IILjava/util/function/BiFunction;)I"⟩
theorem gj_iS : Cond.initialized "java/lang/String" ∈ GW := by exact gw_at 107 (by decide +kernel) rfl
theorem gj_iL : Cond.initialized "java/lang/StringLatin1" ∈ GW := by exact gw_at 108 (by decide +kernel) rfl
theorem gj_iP : Cond.initialized "jdk/internal/util/Preconditions" ∈ GW := by exact gw_at 109 (by decide +kernel) rfl
theorem gj_lenI : Cond.instanceMethod sLen ∈ GW := by exact gw_at 768 (by decide +kernel) rfl
theorem gj_lenV : Cond.selects "java/lang/String" sLen sLen ∈ GW := by exact gw_at 769 (by decide +kernel) rfl
theorem gj_lenC : Cond.code sLen prog_19_method_54_code 1 (some .int) ∈ GW := by exact gw_at 770 (by decide +kernel) rfl
theorem gj_codL : Cond.methodLink "java/lang/String" 335 sCod ∈ GW := by exact gw_at 771 (by decide +kernel) rfl
theorem gj_codI : Cond.instanceMethod sCod ∈ GW := by exact gw_at 772 (by decide +kernel) rfl
theorem gj_codV : Cond.selects "java/lang/String" sCod sCod ∈ GW := by exact gw_at 773 (by decide +kernel) rfl
theorem gj_codC : Cond.code sCod prog_19_method_152_code 1 (some .byte) ∈ GW := by exact gw_at 774 (by decide +kernel) rfl
theorem gj_cmp : Cond.fieldLink "java/lang/String" 38 "java/lang/String" "COMPACT_STRINGS" "Z" ∈ GW := by exact gw_at 775 (by decide +kernel) rfl
theorem gj_chrI : Cond.instanceMethod sChr ∈ GW := by exact gw_at 778 (by decide +kernel) rfl
theorem gj_chrV : Cond.selects "java/lang/String" sChr sChr ∈ GW := by exact gw_at 779 (by decide +kernel) rfl
theorem gj_chrC : Cond.code sChr prog_19_method_56_code 2 (some .char) ∈ GW := by exact gw_at 780 (by decide +kernel) rfl
theorem gj_latL : Cond.methodLink "java/lang/String" 492 sLat ∈ GW := by exact gw_at 781 (by decide +kernel) rfl
theorem gj_latI : Cond.instanceMethod sLat ∈ GW := by exact gw_at 782 (by decide +kernel) rfl
theorem gj_latV : Cond.selects "java/lang/String" sLat sLat ∈ GW := by exact gw_at 783 (by decide +kernel) rfl
theorem gj_latC : Cond.code sLat prog_19_method_154_code 1 (some .boolean) ∈ GW := by exact gw_at 784 (by decide +kernel) rfl
theorem gj_lchL : Cond.methodLink "java/lang/String" 495 lChr ∈ GW := by exact gw_at 785 (by decide +kernel) rfl
theorem gj_lchS : Cond.static lChr ∈ GW := by exact gw_at 786 (by decide +kernel) rfl
theorem gj_lchC : Cond.code lChr prog_20_method_2_code 2 (some .char) ∈ GW := by exact gw_at 787 (by decide +kernel) rfl
theorem gj_schL : Cond.methodLink "java/lang/StringLatin1" 9 sChk ∈ GW := by exact gw_at 788 (by decide +kernel) rfl
theorem gj_schS : Cond.static sChk ∈ GW := by exact gw_at 789 (by decide +kernel) rfl
theorem gj_schC : Cond.code sChk prog_19_method_155_code 2 none ∈ GW := by exact gw_at 790 (by decide +kernel) rfl
theorem gj_fmt : Cond.fieldLink "java/lang/String" 1053 "jdk/internal/util/Preconditions" "SIOOBE_FORMATTER" "Ljava/util/function/BiFunction;" ∈ GW := by exact gw_at 791 (by decide +kernel) rfl
theorem gj_pchL : Cond.methodLink "java/lang/String" 1059 pChk ∈ GW := by exact gw_at 793 (by decide +kernel) rfl
theorem gj_pchS : Cond.static pChk ∈ GW := by exact gw_at 794 (by decide +kernel) rfl
theorem gj_pchC : Cond.code pChk prog_28_method_11_code 3 (some .int) ∈ GW := by exact gw_at 795 (by decide +kernel) rfl
theorem gj_val : Cond.fieldLink "java/lang/String" 9 "java/lang/String" "value" "[B" ∈ GW := by exact gw_at 1814 (by decide +kernel) rfl
theorem gj_cod : Cond.fieldLink "java/lang/String" 15 "java/lang/String" "coder" "B" ∈ GW := by exact gw_at 1815 (by decide +kernel) rfl
theorem str_byt : ∀ k, k < 7 → ∀ i, i < lenS.getD k 0 → (bytS.getD k []).getD i 0 &&& 255 = (bytS.getD k []).getD i 0 := by decide +kernel
theorem str_len : ∀ k, k < 7 → lenS.getD k 0 < 100 := by decide +kernel
section JDK
variable {p : Program} {l : Launch} {e : Env} {R : Room} {s : State} {m : MethodId} {args : Array Value} {below : List Frame} {meth : Method} {c : Code} {H : Heap} {locs : List Loc} {cells slots : Nat} {Q : State → Prop}
variable {cc bytes : ByteArray} {pc n nL f maxL mx k : Nat} {ls : Array Slot} {rest as : List Value} {D : va_G} {dA : Nat → ClassId} {base : Nat} {adK adV : Nat → Nat} {h : hp} {a : Nat} {y : MethodName} {ret : Option FieldType} {v : Option Value} {own : String}
def JM (l : Launch) (D : va_G) (dA : Nat → ClassId) (base : Nat) (adK adV : Nat → Nat) (h : hp) (y : MethodName) (cc : ByteArray) (mx : Nat) (ret : Option FieldType) (f : Nat) (as : List Value) (v : Option Value) : Prop := Met l y (Cond.code y cc mx ret :: GW) (rmJ f) (va_Pc as (Pre0 D dA base adK adV h)) (JQ v) 0 0 (fun _ => False)
theorem goodJ (hc : Cond.code y cc mx ret ∈ GW) : GoodIn GW (Cond.code y cc mx ret :: GW) := fun w hw => by
  rcases List.mem_cons.mp hw with rfl | hw
  · exact good_gw hc
  · exact good_gw hw
/-- a contract out of a body's run -/
theorem jm (hy : plainName y.cls = true) (hlen : (lg_sl as).length ≤ mx)
    (body : ∀ (p : Program) (e : Env) (s : State) (m : MethodId) (below : List Frame) (meth : Method) (c : Code) (ls : Array Slot), CallFix p m c cc mx s as.toArray GW y.cls → meth.sig.returnType = ret → meth.locks = false → Env0 D dA base adK adV s → Pt0 D dA base adK s h s.heap [] → lv_has ls mx (lv_args 0 as) → W p l e (rmJ f) s m as.toArray below meth c s.heap [] 0 0 (MQ below (JQ v) as.toArray s 0 0 (fun _ => False)) (F0 m 0 ls [])) : JM l D dA base adK adV h y cc mx ret f as v := by
  refine met_of (XC := fun _ _ _ => False) (vx_ofW (cc := cc) (maxL := mx) (ret := ret) hy rfl ?_) (fun _ _ _ h => h)
  intro p e s m args below meth c s₁ B hml htab hv
  obtain ⟨rfl, hPre⟩ := hv
  have hts := atoms_spec (ws := Cond.code y cc mx ret :: GW) B.pre
  have hown : s.vm.findClass y.cls = some m.cls := findClass_of_methodNamed B.named
  rw [lg_entry_eq]
  exact vx_ret (body p e s m below meth c _ ⟨B.exec, B.bytes, hml, hown, fun w hw => hts w (List.mem_cons_of_mem _ hw)⟩ B.returns B.notSynchronized hPre.2.2 ⟨hPre.1, hPre.2.1, va_S.rf⟩ (lv_entry as hlen))
theorem j_back {st : List Value} {ar : Array Value} (hr : va_Run p l e R s m args below meth c H locs cells slots 0 0 (F0 m pc ls st) rest (JQ v ar) (fun _ => False))
    (kk : W p l e R s m args below meth c H locs cells slots Q (F0 m (pc + 3) ls (v.toList ++ rest))) : W p l e R s m args below meth c H locs cells slots Q (F0 m pc ls st) := by
  intro T hT X
  obtain ⟨v', st₀, t, T', L, h0, X', hL, e1, e2, ⟨hv, ht⟩, stp⟩ := hr T hT X
  cases hv
  have hl : L = [] := by
    cases L with
    | nil => rfl
    | cons a b => exact (hL a List.mem_cons_self).elim
  subst hl
  rw [List.append_nil] at X'
  obtain ⟨t2, a1, b1⟩ := kk T' (by rw [e1, ht, h0]) X'
  exact ⟨t2, stp t2 a1, b1⟩
theorem jcb (hts : ∀ w ∈ GW, w.before args s = true) (hc : Cond.code y bytes maxL ret ∈ GW) (hi : Cond.initialized y.cls ∈ GW) (hlk : (Cond.methodLink own k y).before args s = true) (hd : y.cls ≠ "java/lang/invoke/MethodHandle" ∧ y.cls ≠ "java/lang/invoke/VarHandle" ∧ (parseMethodDescriptor y.desc).map (fun d => d.parameters.length) = some n) (hF : f + 1 ≤ R.frames) (hLo : 8 + (maxL + 11) + 40 * f ≤ R.locals) :
    CallB R s args own k y bytes maxL ret (Cond.code y bytes maxL ret :: GW) (rmJ f) 0 0 n := callB_of n hts (goodJ hc) rfl rfl rfl (hts _ hi) hlk hd ⟨hF, hLo⟩
theorem j_callS (S : CallFix p m c cc nL s args GW own) (hE : Env0 D dA base adK adV s) (hP : Pt0 D dA base adK s h H locs) (hM : JM l D dA base adK adV h y bytes maxL ret f as v) (hc : Cond.code y bytes maxL ret ∈ GW) (hi : Cond.initialized y.cls ∈ GW) (hlk : Cond.methodLink own k y ∈ GW) (hs : Cond.static y ∈ GW)
    (hd : y.cls ≠ "java/lang/invoke/MethodHandle" ∧ y.cls ≠ "java/lang/invoke/VarHandle" ∧ (parseMethodDescriptor y.desc).map (fun d => d.parameters.length) = some as.length) (hF : f + 1 ≤ R.frames) (hLo : 8 + (maxL + 11) + 40 * f ≤ R.locals) (hce : cells ≤ R.cells) (hsL : slots ≤ R.slots) (hn : ls.size = nL) (h8 : (rest.map fun v => v.category).sum ≤ 8) (hdg : decode cc pc = .ok (.invokestatic k, 3))
    (kk : W p l e R s m args below meth c H locs cells slots Q (F0 m (pc + 3) ls (v.toList ++ rest))) : W p l e R s m args below meth c H locs cells slots Q (F0 m pc ls (as.reverse ++ rest)) := by
  have hts := S.2.2.2.2
  exact j_back (va_runS (g := F0 m pc ls (as.reverse ++ rest)) S hM ⟨jcb hts hc hi (hts _ hlk) hd hF hLo, hts _ hs⟩ (preS hE hP as) rfl rfl hn rfl (lv_room h8) hdg ⟨hce, hsL⟩) kk
theorem j_callV {b : Nat} (S : CallFix p m c cc nL s args GW own) (hE : Env0 D dA base adK adV s) (hP : Pt0 D dA base adK s h H locs) (hb : b < 7) (hM : JM l D dA base adK adV h y bytes maxL ret f (.ref (adK b) :: as) v) (hcl : y.cls = "java/lang/String") (hc : Cond.code y bytes maxL ret ∈ GW) (hlk : (Cond.methodLink own k y).before args s = true) (hi : Cond.instanceMethod y ∈ GW) (hv : Cond.selects "java/lang/String" y y ∈ GW)
    (hd : (parseMethodDescriptor y.desc).map (fun d => d.parameters.length) = some as.length) (hF : f + 1 ≤ R.frames) (hLo : 8 + (maxL + 11) + 40 * f ≤ R.locals) (hce : cells ≤ R.cells) (hsL : slots ≤ R.slots) (hn : ls.size = nL) (h8 : (rest.map fun v => v.category).sum ≤ 8) (hdg : decode cc pc = .ok (.invokevirtual k, 3))
    (kk : W p l e R s m args below meth c H locs cells slots Q (F0 m (pc + 3) ls (v.toList ++ rest))) : W p l e R s m args below meth c H locs cells slots Q (F0 m pc ls (as.reverse ++ .ref (adK b) :: rest)) := by
  have hts := S.2.2.2.2
  have hp : PreV s H "java/lang/String" (adK b) (va_Pc (.ref (adK b) :: as) (Pre0 D dA base adK adV h)) as := ⟨blind _, vk_recv hE.2.2.2.1 hb hP.2.2, fun U hU hW => ⟨rfl, Pre0_of hE hP hU hW⟩⟩
  exact j_back (va_runV (g := F0 m pc ls (as.reverse ++ .ref (adK b) :: rest)) S hM ⟨jcb hts hc (by rw [hcl]; exact gj_iS) hlk ⟨by rw [hcl]; decide, by rw [hcl]; decide, hd⟩ hF hLo, hts _ hi, hts _ hv⟩ hp rfl rfl hn rfl (lv_room h8) hdg ⟨hce, hsL⟩) kk
theorem j_codr (hk : k < 7) : JM l D dA base adK adV h sCod prog_19_method_152_code 1 (some .byte) 0 [.ref (adK k)] (some (.int 0)) := by
  refine jm (by decide) (Nat.le_refl 1) fun p e s m below meth c ls ⟨hx, hb, hml, hown, hts⟩ hr hlk hE hP hl => ?_
  refine va_gets hx hb hE.2.2.2.2.2.1 hP.2.2 hown (hts _ gj_cmp) (fun _ q => q) (by decide +kernel) ?_
  refine lv_if_eq hx hb (off := 10) (tgt := 13) (by decide +kernel) (by decide) (fun q => absurd q (by decide)) fun _ => ?_
  refine lv_aload_n hx hb (i := 0) (k := 0) (by decide +kernel) rfl (lv_at hl 0 rfl) ?_
  refine vk_getf hx hb (hE.2.2.2.1.1 k hk).2.1 hP.2.2 hown (hts _ gj_cod) (fun _ q => q) (by decide +kernel) ?_
  refine lv_goto hx hb (off := 4) (tgt := 14) (by decide +kernel) (by decide) ?_
  exact W.zret hx hb hr rfl (fun t ht _ => ⟨rfl, ht⟩) (fun q hq => absurd hq List.not_mem_nil) (by decide +kernel)
theorem j_lat (hk : k < 7) : JM l D dA base adK adV h sLat prog_19_method_154_code 1 (some .boolean) 0 [.ref (adK k)] (some (.int 1)) := by
  refine jm (by decide) (Nat.le_refl 1) fun p e s m below meth c ls ⟨hx, hb, hml, hown, hts⟩ hr hlk hE hP hl => ?_
  refine va_gets hx hb hE.2.2.2.2.2.1 hP.2.2 hown (hts _ gj_cmp) (fun _ q => q) (by decide +kernel) ?_
  refine lv_if_eq hx hb (off := 14) (tgt := 17) (by decide +kernel) (by decide) (fun q => absurd q (by decide)) fun _ => ?_
  refine lv_aload_n hx hb (i := 0) (k := 0) (by decide +kernel) rfl (lv_at hl 0 rfl) ?_
  refine vk_getf hx hb (hE.2.2.2.1.1 k hk).2.1 hP.2.2 hown (hts _ gj_cod) (fun _ q => q) (by decide +kernel) ?_
  refine lv_if_ne hx hb (off := 7) (tgt := 17) (by decide +kernel) (by decide) (fun q => absurd rfl q) fun _ => ?_
  refine lv_iconst hx hb (n := 1) (by decide +kernel) rfl ?_
  refine lv_goto hx hb (off := 4) (tgt := 18) (by decide +kernel) (by decide) ?_
  exact W.zret hx hb hr rfl (fun t ht _ => ⟨rfl, ht⟩) (fun q hq => absurd hq List.not_mem_nil) (by decide +kernel)
theorem j_len (hk : k < 7) : JM l D dA base adK adV h sLen prog_19_method_54_code 1 (some .int) 1 [.ref (adK k)] (some (.int (Int32.ofNat (lenS.getD k 0)))) := by
  refine jm (by decide) (Nat.le_refl 1) fun p e s m below meth c ls S hr hlk hE hP hl => ?_
  obtain ⟨hx, hb, hml, hown, hts⟩ := S
  have hS := hE.2.2.2.1.1 k hk
  refine lv_aload_n hx hb (i := 0) (k := 0) (by decide +kernel) rfl (lv_at hl 0 rfl) ?_
  refine vk_getf hx hb hS.2.2.1 hP.2.2 hown (hts _ gj_val) (fun _ q => q) (by decide +kernel) ?_
  refine va_tlen hx hb hS.2.2.2 hP.2.2 rfl (by decide +kernel) ?_
  refine lv_aload_n hx hb (i := 0) (k := 0) (by decide +kernel) rfl (lv_at hl 0 rfl) ?_
  refine j_callV (as := []) (y := sCod) ⟨hx, hb, hml, hown, hts⟩ hE hP hk (j_codr hk) rfl gj_codC (hts _ gj_codL) gj_codI gj_codV (by decide +kernel) (by decide) (by decide) (Nat.le_refl _) (Nat.le_refl _) hl.1 (by show 1 + 0 ≤ 8; decide) (by decide +kernel) ?_
  refine lv_ishr hx hb (by decide +kernel) ?_
  have e1 : Int32.ofNat (lenS.getD k 0) >>> ((0 : Int32) &&& 31) = Int32.ofNat (lenS.getD k 0) := sc_shr0 (by have := str_len k hk; omega)
  rw [e1]
  exact W.iret hx hb hr (fun t ht _ => ⟨rfl, ht⟩) (fun q hq => absurd hq List.not_mem_nil) (by decide +kernel)
theorem j_pchk {i : Int32} {N : Nat} (hN : N < 100) (hi : vp_in i N) {fv : Value} (hf : fv = .null ∨ ∃ t, fv = .ref t) : JM l D dA base adK adV h pChk prog_28_method_11_code 3 (some .int) 0 [.int i, .int (Int32.ofNat N), fv] (some (.int i)) := by
  have h0 : ¬ i < 0 := fun q => hi (Or.inl q)
  have h1 : i < Int32.ofNat N := by
    obtain ⟨j, hj, rfl⟩ := nI_of h0
    have : ¬ N ≤ (nI j).toNatClampNeg := fun q => hi (Or.inr q)
    rw [nI_clamp hj] at this
    exact nI_lt (by omega) (by omega)
  refine jm (by decide) (by rcases hf with rfl | ⟨t, rfl⟩ <;> exact Nat.le_refl 3) fun p e s m below meth c ls ⟨hx, hb, hml, hown, hts⟩ hr hlk hE hP hl => ?_
  have l0 : ls[0]? = some (.val (.int i)) := lv_at hl 0 (by rcases hf with rfl | ⟨t, rfl⟩ <;> rfl)
  have l1 : ls[1]? = some (.val (.int (Int32.ofNat N))) := lv_at hl 1 (by rcases hf with rfl | ⟨t, rfl⟩ <;> rfl)
  refine lv_iload_n hx hb (i := 0) (k := 0) (by decide +kernel) rfl l0 ?_
  refine lv_if_lt hx hb (off := 8) (tgt := 9) (by decide +kernel) (by decide) (fun q => absurd q h0) fun _ => ?_
  refine lv_iload_n hx hb (i := 0) (k := 0) (by decide +kernel) rfl l0 ?_
  refine lv_iload_n hx hb (i := 1) (k := 1) (by decide +kernel) rfl l1 ?_
  refine lv_icmp_lt hx hb (off := 10) (tgt := 16) (by decide +kernel) (by decide) (fun _ => ?_) (fun q => absurd h1 q)
  refine lv_iload_n hx hb (i := 0) (k := 0) (by decide +kernel) rfl l0 ?_
  exact W.iret hx hb hr (fun t ht _ => ⟨rfl, ht⟩) (fun q hq => absurd hq List.not_mem_nil) (by decide +kernel)
theorem j_schk {i : Int32} {N : Nat} (hN : N < 100) (hi : vp_in i N) : JM l D dA base adK adV h sChk prog_19_method_155_code 2 none 1 [.int i, .int (Int32.ofNat N)] none := by
  refine jm (by decide) (by exact Nat.le_refl 2) fun p e s m below meth c ls S hr hlk hE hP hl => ?_
  obtain ⟨hx, hb, hml, hown, hts⟩ := S
  refine lv_iload_n hx hb (i := 0) (k := 0) (by decide +kernel) rfl (lv_at hl 0 rfl) ?_
  refine lv_iload_n hx hb (i := 1) (k := 1) (by decide +kernel) rfl (lv_at hl 1 rfl) ?_
  have go : ∀ fv : Value, (fv = .null ∨ ∃ t, fv = .ref t) → va_Z "jdk/internal/util/Preconditions" "SIOOBE_FORMATTER" "Ljava/util/function/BiFunction;" fv (fun q => base ≤ q) s s.heap → W p l e (rmJ 1) s m [Value.int i, .int (Int32.ofNat N)].toArray below meth c s.heap [] 0 0 (MQ below (JQ none) [Value.int i, .int (Int32.ofNat N)].toArray s 0 0 (fun _ => False)) (F0 m (0 + 1 + 1) ls [.int (Int32.ofNat N), .int i]) := by
    intro fv hf hZ
    refine va_gets hx hb hZ hP.2.2 hown (hts _ gj_fmt) (fun _ q => q) (by decide +kernel) ?_
    refine j_callS (as := [.int i, .int (Int32.ofNat N), fv]) (rest := []) (y := pChk) ⟨hx, hb, hml, hown, hts⟩ hE hP (j_pchk hN hi hf) gj_pchC gj_iP gj_pchL gj_pchS ⟨by decide, by decide, by show _ = some 3; decide +kernel⟩ (by decide) (by decide) (Nat.le_refl _) (Nat.le_refl _) hl.1 (by decide) (by decide +kernel) ?_
    refine lv_pop hx hb (by decide +kernel) rfl ?_
    exact W.vret hx hb hr (fun t ht _ => ⟨rfl, ht⟩) (fun q hq => absurd hq List.not_mem_nil) (by decide +kernel)
  rcases hE.2.2.2.2.2.2.1 with hZ | ⟨t, hZ⟩
  · exact go _ (Or.inl rfl) hZ
  · exact go _ (Or.inr ⟨t, rfl⟩) hZ
theorem j_lch {i : Int32} (hk : k < 7) (hi : vp_in i (lenS.getD k 0)) : JM l D dA base adK adV h lChr prog_20_method_2_code 2 (some .char) 2 [.ref (adV k), .int i] (some (.int ((bytS.getD k []).getD i.toNatClampNeg 0))) := by
  refine jm (by decide) (by exact Nat.le_refl 2) fun p e s m below meth c ls S hr hlk hE hP hl => ?_
  obtain ⟨hx, hb, hml, hown, hts⟩ := S
  have hS := hE.2.2.2.1.1 k hk
  have hlt : i.toNatClampNeg < lenS.getD k 0 := Nat.not_le.mp fun q => hi (Or.inr q)
  refine lv_iload_n hx hb (i := 1) (k := 1) (by decide +kernel) rfl (lv_at hl 1 rfl) ?_
  refine lv_aload_n hx hb (i := 0) (k := 0) (by decide +kernel) rfl (lv_at hl 0 rfl) ?_
  refine va_tlen hx hb hS.2.2.2 hP.2.2 rfl (by decide +kernel) ?_
  refine j_callS (as := [.int i, .int (Int32.ofNat (lenS.getD k 0))]) (rest := []) (y := sChk) ⟨hx, hb, hml, hown, hts⟩ hE hP (j_schk (str_len k hk) hi) gj_schC gj_iS gj_schL gj_schS ⟨by decide, by decide, by show _ = some 2; decide +kernel⟩ (by decide) (by decide) (Nat.le_refl _) (Nat.le_refl _) hl.1 (by decide) (by decide +kernel) ?_
  refine lv_aload_n hx hb (i := 0) (k := 0) (by decide +kernel) rfl (lv_at hl 0 rfl) ?_
  refine lv_iload_n hx hb (i := 1) (k := 1) (by decide +kernel) rfl (lv_at hl 1 rfl) ?_
  refine va_tb hx hb hS.2.2.2 hP.2.2 hi rfl (by decide +kernel) ?_
  refine lv_sipush hx hb (n := 255) (by decide +kernel) rfl ?_
  refine lv_iand hx hb (by decide +kernel) ?_
  refine lv_i2c hx hb (by decide +kernel) (sc_c2 _) ?_
  have e1 := sc_nar ((bytS.getD k []).getD i.toNatClampNeg 0)
  have e2 := str_byt k hk _ hlt
  show W _ _ _ _ _ _ _ _ _ _ _ _ _ _ _ (F0 _ _ _ [.int ((bytS.getD k []).getD i.toNatClampNeg 0 &&& 255)])
  rw [e2] at e1 ⊢
  exact W.zret hx hb hr e1 (fun t ht _ => ⟨rfl, ht⟩) (fun q hq => absurd hq List.not_mem_nil) (by decide +kernel)
theorem j_chr {i : Int32} (hk : k < 7) (hi : vp_in i (lenS.getD k 0)) : JM l D dA base adK adV h sChr prog_19_method_56_code 2 (some .char) 3 [.ref (adK k), .int i] (some (.int ((bytS.getD k []).getD i.toNatClampNeg 0))) := by
  refine jm (by decide) (by exact Nat.le_refl 2) fun p e s m below meth c ls S hr hlk hE hP hl => ?_
  obtain ⟨hx, hb, hml, hown, hts⟩ := S
  have hS := hE.2.2.2.1.1 k hk
  have hlt : i.toNatClampNeg < lenS.getD k 0 := Nat.not_le.mp fun q => hi (Or.inr q)
  refine lv_aload_n hx hb (i := 0) (k := 0) (by decide +kernel) rfl (lv_at hl 0 rfl) ?_
  refine j_callV (as := []) (y := sLat) ⟨hx, hb, hml, hown, hts⟩ hE hP hk (j_lat hk) rfl gj_latC (hts _ gj_latL) gj_latI gj_latV (by decide +kernel) (by decide) (by decide) (Nat.le_refl _) (Nat.le_refl _) hl.1 (by decide) (by decide +kernel) ?_
  refine lv_if_eq hx hb (off := 12) (tgt := 16) (by decide +kernel) (by decide) (fun q => absurd q (by decide)) fun _ => ?_
  refine lv_aload_n hx hb (i := 0) (k := 0) (by decide +kernel) rfl (lv_at hl 0 rfl) ?_
  refine vk_getf hx hb hS.2.2.1 hP.2.2 hown (hts _ gj_val) (fun _ q => q) (by decide +kernel) ?_
  refine lv_iload_n hx hb (i := 1) (k := 1) (by decide +kernel) rfl (lv_at hl 1 rfl) ?_
  refine j_callS (as := [.ref (adV k), .int i]) (rest := []) (y := lChr) ⟨hx, hb, hml, hown, hts⟩ hE hP (j_lch hk hi) gj_lchC gj_iL gj_lchL gj_lchS ⟨by decide, by decide, by show _ = some 2; decide +kernel⟩ (by decide) (by decide) (Nat.le_refl _) (Nat.le_refl _) hl.1 (by decide) (by decide +kernel) ?_
  have e1 := sc_nar ((bytS.getD k []).getD i.toNatClampNeg 0)
  rw [str_byt k hk _ hlt] at e1
  exact W.zret hx hb hr e1 (fun t ht _ => ⟨rfl, ht⟩) (fun q hq => absurd hq List.not_mem_nil) (by decide +kernel)
theorem r_slen {o : Nat} (hx : p.tables.exec = Jvm.exec) (hb : c.code = cc) (hml : c.maxLocals = ls.size) (hown : s.vm.findClass (cn o) = some m.cls) (hts : ∀ w ∈ GW, w.before args s = true) (hE : Env0 D dA base adK adV s) (hP : Pt0 D dA base adK s h H locs) {k : Nat} (hC : inT tabP_length o k = true) (hd : decode cc pc = .ok (.invokevirtual k, 3)) (hk : hkd h a = 40) (h8 : (rest.map fun v => v.category).sum ≤ 8) (hF : 20 ≤ R.frames) (hLo : 400 ≤ R.locals) (hce : cells ≤ R.cells) (hsL : slots ≤ R.slots)
    (kk : W p l e R s m args below meth c H locs cells slots Q (F0 m (pc + 3) ls (.int (Int32.ofNat (hln h a)) :: rest))) : W p l e R s m args below meth c H locs cells slots Q (F0 m pc ls (.ref a :: rest)) := by
  obtain ⟨q, hq, rfl, e1, e2⟩ := hP.2.1.2.2 a hk
  rw [e1] at kk
  exact j_callV (as := []) (y := sLen) ⟨hx, hb, hml, hown, hts⟩ hE hP hq (j_len hq) rfl gj_lenC (hts _ (tabP_length_ok _ (inT_mem hC))) gj_lenI gj_lenV (by decide +kernel) (by omega) (by omega) hce hsL rfl h8 hd kk
theorem r_schar {o : Nat} (hx : p.tables.exec = Jvm.exec) (hb : c.code = cc) (hml : c.maxLocals = ls.size) (hown : s.vm.findClass (cn o) = some m.cls) (hts : ∀ w ∈ GW, w.before args s = true) (hE : Env0 D dA base adK adV s) (hP : Pt0 D dA base adK s h H locs) {k : Nat} (hC : inT tabP_charAt o k = true) (hd : decode cc pc = .ok (.invokevirtual k, 3)) (hk : hkd h a = 40) {i : Int32} (hi : vp_in i (hln h a)) (h8 : (rest.map fun v => v.category).sum ≤ 8) (hF : 20 ≤ R.frames) (hLo : 400 ≤ R.locals) (hce : cells ≤ R.cells) (hsL : slots ≤ R.slots)
    (kk : W p l e R s m args below meth c H locs cells slots Q (F0 m (pc + 3) ls (.int (hI h a i.toNatClampNeg) :: rest))) : W p l e R s m args below meth c H locs cells slots Q (F0 m pc ls (.int i :: .ref a :: rest)) := by
  obtain ⟨q, hq, rfl, e1, e2⟩ := hP.2.1.2.2 a hk
  rw [e1] at hi
  rw [e2 _ (Nat.not_le.mp fun q => hi (Or.inr q))] at kk
  exact j_callV (as := [.int i]) (y := sChr) ⟨hx, hb, hml, hown, hts⟩ hE hP hq (j_chr hq hi) rfl gj_chrC (hts _ (tabP_charAt_ok _ (inT_mem hC))) gj_chrI gj_chrV (by show _ = some 1; decide +kernel) (by omega) (by omega) hce hsL rfl h8 hd kk
end JDK

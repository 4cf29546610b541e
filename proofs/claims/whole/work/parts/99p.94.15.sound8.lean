/-! The call instructions. -/
section INV
variable {p : Program} {l : Launch} {e : Env} {R : Room} {s : State} {m : MethodId} {args : Array Value} {below : List Frame} {meth : Method} {c : Code} {H : Heap} {locs : List Loc} {cells slots : Nat} {Q : State → Prop}
variable {cc : ByteArray} {pc nL o d j k : Nat} {ls : Array Slot} {rest as : List Value} {D : va_G} {dA : Nat → ClassId} {base : Nat} {adK adV : Nat → Nat} {h h2 : hp}
/-- what a caller has -/
def CX (p : Program) (l : Launch) (R : Room) (s : State) (m : MethodId) (args : Array Value) (c : Code) (cc : ByteArray) (o d : Nat) (D : va_G) (dA : Nat → ClassId) (base : Nat) (adK adV : Nat → Nat) (ls : Array Slot) : Prop :=
  CallFix p m c cc ls.size s args GW (cn o) ∧ l.stackTraces = false ∧ roomF d + 1 ≤ R.frames ∧ roomL d + 40 ≤ R.locals ∧ Env0 D dA base adK adV s
theorem xe_no {D : va_G} {dA : Nat → ClassId} {base : Nat} {v : Option Value} {h2 : hp} : ∀ E st t, ¬ Xe D dA base (.inl v) h2 E st t := fun _ _ _ h => h
theorem cb (hX : CX p l R s m args c cc o d D dA base adK adV ls) (hY : inL tabY j = true) (hL : inT3 tabM o k j = true) {n : Nat} (hn : npar j = some n) : CallB R s args (cn o) k (yOf j) (ccOf j) (mxOf j) (retOf j) (wsM j) (rmD d (hsz h2 - hsz h) (hsl h2 - hsl h)) (hsz h2 - hsz h) (hsl h2 - hsl h) n := by
  obtain ⟨⟨-, -, -, -, hts⟩, -, hF, hLo, -⟩ := hX
  obtain ⟨y1, y2, y3, y4, y5, y6⟩ := y_ok j (tabY_lt j (inL_mem hY))
  exact callB_of n hts (goodM hY) rfl rfl rfl (by rw [y1]; exact hts _ (tabIn_ok _ y5)) (hts _ (tabM_ok _ (inT3_mem hL))) ⟨y3, y4, hn⟩ ⟨hF, by show 8 + (mxOf j + 11) + roomL d ≤ R.locals; omega⟩
theorem cbN (hX : CX p l R s m args c cc o d D dA base adK adV ls) (hY : inL tabY j = true) (hL : inT3 tabN o k j = true) {n : Nat} (hn : npar j = some n) : va_CN R s args (cn o) k (yOf j) "SlotKeeper" (ccOf j) (mxOf j) (retOf j) (wsM j) (rmD d (hsz h2 - hsz h) (hsl h2 - hsl h)) (hsz h2 - hsz h) (hsl h2 - hsl h) n := by
  obtain ⟨⟨-, -, -, -, hts⟩, -, hF, hLo, hE⟩ := hX
  obtain ⟨y1, y2, y3, y4, y5, y6⟩ := y_ok j (tabY_lt j (inL_mem hY))
  obtain ⟨z, hz, e1⟩ := inT3_mem' hL
  have hw := tabN_ok z hz
  rw [e1] at hw
  exact va_cnB n hts (goodM hY) rfl rfl rfl (hE.2.2.2.2.2.2.2.1 _ (List.mem_of_getElem? hw) rfl) (by rw [y1]; exact hts _ (tabIn_ok _ y5)) ⟨y3, y4, hn⟩ ⟨hF, by show 8 + (mxOf j + 11) + roomL d ≤ R.locals; omega⟩
/-- invokestatic, the method returns -/
theorem r_callS {v : Option Value} (hX : CX p l R s m args c cc o d D dA base adK adV ls) (hP : Pt0 D dA base adK s h H locs) (hx : ext h h2) (hM : SM d j as h (.inl v) h2) (hL : (inT3 tabM o k j || inT3 tabN o k j) = true) (hs : inN tabYs j = true) (hn : npar j = some as.length) (hY : (inL tabY j || (inT3 tabM o k j && inL tabYw j)) = true)
    (h8 : (rest.map fun v => v.category).sum ≤ 8) (hd : decode cc pc = .ok (.invokestatic k, 3)) (hf : cells + (hsz h2 - hsz h) ≤ R.cells ∧ slots + (hsl h2 - hsl h) ≤ R.slots)
    (kk : ∀ (H1 : Heap) (locs1 : List Loc), Pt0 D dA base adK s h2 H1 locs1 → W p l e R s m args below meth c H1 locs1 (cells + (hsz h2 - hsz h)) (slots + (hsl h2 - hsl h)) Q (F0 m (pc + 3) ls (v.toList ++ rest))) : W p l e R s m args below meth c H locs cells slots Q (F0 m pc ls (as.reverse ++ rest)) := by
  have hX0 := hX
  obtain ⟨S, hl, hF, hLo, hE⟩ := hX
  have hts := S.2.2.2.2
  have hst := hts _ (tabYs_ok j (inN_mem hs))
  by_cases hy : inL tabY j = true
  · have hMet := met_of ((hM l D dA base adK adV hl).1 hy) xe_no
    by_cases hm : inT3 tabM o k j = true
    · exact r_back hP hx (va_runS (g := F0 m pc ls (as.reverse ++ rest)) S hMet ⟨cb hX0 hy hm hn, hst⟩ (preS hE hP as) rfl rfl rfl rfl (lv_room h8) hd hf) kk
    · have hN : inT3 tabN o k j = true := by
        rcases Bool.or_eq_true_iff.mp hL with q | q
        · exact absurd q hm
        · exact q
      exact r_back hP hx (va_runSN (g := F0 m pc ls (as.reverse ++ rest)) S hMet ⟨cbN hX0 hy hN hn, hst, trivial⟩ (preS hE hP as) rfl rfl rfl rfl (lv_room h8) hd hf) kk
  · have hyw : inT3 tabM o k j = true ∧ inL tabYw j = true := by
      rcases Bool.or_eq_true_iff.mp hY with q | q
      · exact absurd q hy
      · exact Bool.and_eq_true_iff.mp q
    have hMet := met_of ((hM l D dA base adK adV hl).2 hyw.2) xe_no
    obtain ⟨y1, y2, y3, y4, y5, y6⟩ := y_ok j (tabYw_lt j (inL_mem hyw.2))
    have cw : vx_CSW R s args (cn o) k (yOf j) (ccOf j) (mxOf j) (retOf j) (rhOf j) (wsW j) (rmD d (hsz h2 - hsz h) (hsl h2 - hsl h)) (hsz h2 - hsz h) (hsl h2 - hsl h) as.length := by
      refine vx_cwSW as.length hts (fun w hw => ?_) rfl rfl rfl ⟨y3, y4, hn⟩ ⟨hF, by show 8 + (mxOf j + 11) + roomL d ≤ R.locals; omega⟩
      unfold va_wsS at hw
      rcases List.mem_append.mp hw with q | q
      · simp only [List.mem_cons, List.not_mem_nil, or_false] at q
        rcases q with rfl | rfl | rfl
        · exact good_gw (tabM_ok _ (inT3_mem hyw.1))
        · exact good_gw (tabYs_ok j (inN_mem hs))
        · rw [y1]; exact good_gw (tabIn_ok _ y5)
      · exact goodW hyw.2 w q
    exact r_back hP hx (vx_runSW (g := F0 m pc ls (as.reverse ++ rest)) S hMet cw (preS hE hP as) rfl rfl rfl rfl (lv_room h8) hd hf) kk
/-- invokestatic, the method throws -/
theorem r_callSx {x : Nat} (hX : CX p l R s m args c cc o d D dA base adK adV ls) (hP : Pt0 D dA base adK s h H locs) (hx : ext h h2) (hM : SM d j as h (.inr x) h2) (hL : inT3 tabM o k j = true) (hs : inN tabYs j = true) (hn : npar j = some as.length) (hY : inL tabY j = true)
    (h8 : (rest.map fun v => v.category).sum ≤ 8) (hd : decode cc pc = .ok (.invokestatic k, 3)) (hf : cells + (hsz h2 - hsz h) ≤ R.cells ∧ slots + (hsl h2 - hsl h) ≤ R.slots)
    (kk : ∀ (ce : Cell) (q9 : Addr) (H1 : Heap) (locs1 : List Loc), Pt0 D dA base adK s h2 H1 locs1 → x < 2 → H1[q9]? = some ce → ce.vm = .none → s.vm.findClass (exN x) = some ce.cls → vx_W p l e R s m args below meth c H1 locs1 (cells + (hsz h2 - hsz h)) (slots + (hsl h2 - hsl h)) Q (F0 m pc ls rest) q9) : W p l e R s m args below meth c H locs cells slots Q (F0 m pc ls (as.reverse ++ rest)) := by
  have hX0 := hX
  obtain ⟨S, hl, hF, hLo, hE⟩ := hX
  exact r_thrown hP hx (vx_runS (g := F0 m pc ls (as.reverse ++ rest)) S ((hM l D dA base adK adV hl).1 hY) ⟨cb hX0 hY hL hn, S.2.2.2.2 _ (tabYs_ok j (inN_mem hs))⟩ (preS hE hP as) rfl rfl rfl rfl (lv_room h8) hd hf) kk
/-- invokevirtual -/
theorem cv (hX : CX p l R s m args c cc o d D dA base adK adV ls) (hY : inL tabY j = true) (hL : inT3 tabM o k j = true) (hi : inN tabYi j = true) (hv : inN tabYv j = true) {n : Nat} (hn : npar j = some n) : CallW R s args (cn o) (cn (clOf j)) k (yOf j) (ccOf j) (mxOf j) (retOf j) (wsM j) (rmD d (hsz h2 - hsz h) (hsl h2 - hsl h)) (hsz h2 - hsz h) (hsl h2 - hsl h) n := by
  have hts := hX.1.2.2.2.2
  obtain ⟨y1, -⟩ := y_ok j (tabY_lt j (inL_mem hY))
  refine ⟨cb hX hY hL hn, hts _ (tabYi_ok j (inN_mem hi)), ?_⟩
  rw [← y1]
  exact hts _ (tabYv_ok j (inN_mem hv))
theorem r_callV {v : Option Value} {b : Nat} (hX : CX p l R s m args c cc o d D dA base adK adV ls) (hP : Pt0 D dA base adK s h H locs) (hx : ext h h2) (hM : SM d j (.ref b :: as) h (.inl v) h2) (hL : inT3 tabM o k j = true) (hi : inN tabYi j = true) (hv : inN tabYv j = true) (hn : npar j = some as.length) (hY : inL tabY j = true) (hci : clOf j < 10) (hk : hkd h b = clOf j + 1)
    (h8 : (rest.map fun v => v.category).sum ≤ 8) (hd : decode cc pc = .ok (.invokevirtual k, 3)) (hf : cells + (hsz h2 - hsz h) ≤ R.cells ∧ slots + (hsl h2 - hsl h) ≤ R.slots)
    (kk : ∀ (H1 : Heap) (locs1 : List Loc), Pt0 D dA base adK s h2 H1 locs1 → W p l e R s m args below meth c H1 locs1 (cells + (hsz h2 - hsz h)) (slots + (hsl h2 - hsl h)) Q (F0 m (pc + 3) ls (v.toList ++ rest))) : W p l e R s m args below meth c H locs cells slots Q (F0 m pc ls (as.reverse ++ .ref b :: rest)) :=
  r_back hP hx (va_runV (g := F0 m pc ls (as.reverse ++ .ref b :: rest)) hX.1 (met_of ((hM l D dA base adK adV hX.2.1).1 hY) xe_no) (cv hX hY hL hi hv hn) (preV hX.2.2.2.2 hP hci hk as) rfl rfl rfl rfl (lv_room h8) hd hf) kk
theorem r_callVx {x b : Nat} (hX : CX p l R s m args c cc o d D dA base adK adV ls) (hP : Pt0 D dA base adK s h H locs) (hx : ext h h2) (hM : SM d j (.ref b :: as) h (.inr x) h2) (hL : inT3 tabM o k j = true) (hi : inN tabYi j = true) (hv : inN tabYv j = true) (hn : npar j = some as.length) (hY : inL tabY j = true) (hci : clOf j < 10) (hk : hkd h b = clOf j + 1)
    (h8 : (rest.map fun v => v.category).sum ≤ 8) (hd : decode cc pc = .ok (.invokevirtual k, 3)) (hf : cells + (hsz h2 - hsz h) ≤ R.cells ∧ slots + (hsl h2 - hsl h) ≤ R.slots)
    (kk : ∀ (ce : Cell) (q9 : Addr) (H1 : Heap) (locs1 : List Loc), Pt0 D dA base adK s h2 H1 locs1 → x < 2 → H1[q9]? = some ce → ce.vm = .none → s.vm.findClass (exN x) = some ce.cls → vx_W p l e R s m args below meth c H1 locs1 (cells + (hsz h2 - hsz h)) (slots + (hsl h2 - hsl h)) Q (F0 m pc ls rest) q9) : W p l e R s m args below meth c H locs cells slots Q (F0 m pc ls (as.reverse ++ .ref b :: rest)) :=
  r_thrown hP hx (vx_runV (g := F0 m pc ls (as.reverse ++ .ref b :: rest)) hX.1 ((hM l D dA base adK adV hX.2.1).1 hY) (cv hX hY hL hi hv hn) (preV hX.2.2.2.2 hP hci hk as) rfl rfl rfl rfl (lv_room h8) hd hf) kk
/-- invokespecial: constructors -/
theorem r_callI {v : Option Value} {b : Nat} (hX : CX p l R s m args c cc o d D dA base adK adV ls) (hP : Pt0 D dA base adK s h H locs) (hx : ext h h2) (hM : SM d j (.ref b :: as) h (.inl v) h2) (hL : (inT3 tabM o k j || inT3 tabN o k j) = true) (hi : inN tabYi j = true) (hnm : (yOf j).name = "<init>") (hrt : retOf j = none) (hn : npar j = some as.length) (hY : inL tabY j = true)
    (h8 : (rest.map fun v => v.category).sum ≤ 8) (hd : decode cc pc = .ok (.invokespecial k, 3)) (hf : cells + (hsz h2 - hsz h) ≤ R.cells ∧ slots + (hsl h2 - hsl h) ≤ R.slots)
    (kk : ∀ (H1 : Heap) (locs1 : List Loc), Pt0 D dA base adK s h2 H1 locs1 → W p l e R s m args below meth c H1 locs1 (cells + (hsz h2 - hsz h)) (slots + (hsl h2 - hsl h)) Q (F0 m (pc + 3) ls (v.toList ++ rest))) : W p l e R s m args below meth c H locs cells slots Q (F0 m pc ls (as.reverse ++ .ref b :: rest)) := by
  have hts := hX.1.2.2.2.2
  have hMet := met_of ((hM l D dA base adK adV hX.2.1).1 hY) xe_no
  have hin := hts _ (tabYi_ok j (inN_mem hi))
  by_cases hm : inT3 tabM o k j = true
  · have hcb := cb (h := h) (h2 := h2) hX hY hm hn
    rw [hrt] at hcb
    exact r_back hP hx (va_runI (g := F0 m pc ls (as.reverse ++ .ref b :: rest)) hX.1 hMet ⟨hcb, hnm, hin⟩ (preS hX.2.2.2.2 hP (.ref b :: as)) rfl rfl rfl rfl (lv_room h8) hd hf) kk
  · have hN : inT3 tabN o k j = true := by
      rcases Bool.or_eq_true_iff.mp hL with q | q
      · exact absurd q hm
      · exact q
    have hcb := cbN (h := h) (h2 := h2) hX hY hN hn
    rw [hrt] at hcb
    exact r_back hP hx (va_runIN (g := F0 m pc ls (as.reverse ++ .ref b :: rest)) hX.1 hMet ⟨hcb, hnm, hin⟩ (preS hX.2.2.2.2 hP (.ref b :: as)) rfl rfl rfl rfl (lv_room h8) hd hf) kk
end INV

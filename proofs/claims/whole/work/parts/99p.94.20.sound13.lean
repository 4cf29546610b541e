/-! The contracts, at every depth. -/
theorem initL_len : ∀ (as : List Value) (n : Nat), (lg_sl as).length ≤ (initL n as).length
  | [], n => by simp [lg_sl]
  | v :: vs, n => by
    have h1 := initL_len vs (n - 1)
    have h2 := initL_len vs (n - 2)
    have e : (lg_sl (v :: vs)).length = v.category + (lg_sl vs).length := by
      unfold lg_sl
      rw [List.flatMap_cons, List.length_append]
      congr 1
      cases v <;> simp [Value.category]
    rw [e]
    cases v <;> simp only [initL, List.length_cons, Value.category] <;> omega
theorem initL_args : ∀ (as : List Value) (n k : Nat) {i : Nat} {v : Value}, lget (initL n as) i = some v → (k + i, v) ∈ lv_args k as
  | [], n, k, i, v, h => by
    have : ∀ (n i : Nat), lget (List.replicate n none) i = none := by
      intro n
      induction n with
      | zero => intro i; rfl
      | succ n ih => intro i; cases i with
        | zero => rfl
        | succ i => exact ih i
    unfold initL at h
    rw [this] at h
    cases h
  | w :: vs, n, k, i, v, h => by
    have one : ∀ (q : Nat), lget (some w :: initL q vs) i = some v → w.category = 1 → (k + i, v) ∈ lv_args k (w :: vs) := by
      intro q hq hc
      unfold lv_args
      rw [if_neg (by omega)]
      cases i with
      | zero =>
        have : w = v := by simpa [lget] using hq
        subst this
        exact List.mem_cons_self
      | succ i =>
        have := initL_args vs q (k + 1) (i := i) hq
        rw [show k + (i + 1) = k + 1 + i by omega]
        exact List.mem_cons_of_mem _ this
    have two : ∀ (q : Nat), lget (some w :: none :: initL q vs) i = some v → w.category = 2 → (k + i, v) ∈ lv_args k (w :: vs) := by
      intro q hq hc
      unfold lv_args
      rw [if_pos hc]
      match i, hq with
      | 0, hq =>
        have : w = v := by simpa [lget] using hq
        subst this
        exact List.mem_cons_self
      | 1, hq => simp [lget] at hq
      | i + 2, hq =>
        have := initL_args vs q (k + 2) (i := i) hq
        rw [show k + (i + 2) = k + 2 + i by omega]
        exact List.mem_cons_of_mem _ this
    cases w <;> first
      | exact two _ h rfl
      | exact one _ h rfl
theorem entry_lvR {as : List Value} {n : Nat} (h : (initL n as).length = n) : lvR ((lg_sl as ++ List.replicate (n - (lg_sl as).length) Slot.unset).toArray) n (initL n as) := by
  have hl := lv_entry as (n := n) (by have := initL_len as n; omega)
  refine ⟨h, hl.1, hl.2.1, fun q hq => hl.2.2 q ?_⟩
  obtain ⟨i, v⟩ := q
  have := initL_args as n 0 (mem_lvl.mp hq)
  rwa [Nat.zero_add] at this
set_option maxRecDepth 100000 in
theorem tabY_rh : ∀ j ∈ tabY, rhOf j = [] := by decide +kernel
theorem codeOf_out {j : Nat} (h : 274 ≤ j) : codeOf j = [] := by
  unfold codeOf
  have : codeTab.length = 274 := by decide +kernel
  rw [List.getD_eq_getElem?_getD, List.getElem?_eq_none (by omega)]
  rfl
theorem Wp_PP {j d : Nat} {Q : oc → hp → Prop} {g : cfg} (hok : okM j = true) (hj : j < 274) (hSC : SCs d) (x : Wp (cal d) (codeOf j) (hhOf j) Q g) : PP j d Q g := by
  refine x (PP j d Q) fun g hg => ?_
  unfold stp at hg
  cases hf : fetch (codeOf j) g.1 with
  | none => rw [hf] at hg; exact hg.elim
  | some q =>
    rw [hf] at hg
    obtain ⟨i, hd, ho⟩ := code_at hok hf
    exact exe_PP hj hSC hd ho hg
theorem SC_all (hok : ∀ j, j < 274 → okM j = true) : ∀ d, SCs d
  | 0 => fun _ _ _ _ h => h.elim
  | d + 1 => by
    intro j as h Q hc
    obtain ⟨hlen, hw⟩ := hc
    by_cases hj : j < 274
    · obtain ⟨o1, h1, hq, hx, hWS⟩ := Wp_PP (hok j hj) hj (SC_all hok d) hw
      refine ⟨o1, h1, hq, hx, fun l D dA base adK adV hst => ?_⟩
      have body : ∀ (R : Room) (ws : List Cond) (p : Program) (e : Env) (s : State) (m : MethodId) (args : Array Value) (below : List Frame) (meth : Method) (c : Code) (s₁ : State), R = rmD (d + 1) (hsz h1 - hsz h) (hsl h1 - hsl h) → BodyLoose p l (yOf j) (headSpec ws R) (ccOf j) (mxOf j) (retOf j) e s m args below meth c s₁ → c.maxLocals = mxOf j → (∀ w ∈ GW, w ∈ ws) → c.exceptionTable.toList = tableOf (rhOf j) → va_Pc as (Pre0 D dA base adK adV h) args s →
          W p l e R s m args below meth c s.heap [] 0 0 (vx_MQ below (Qe D dA base o1 h1) (Xe D dA base o1 h1) args s (hsz h1 - hsz h) (hsl h1 - hsl h) (fun q => base ≤ q)) (entryFrame m args (mxOf j)) := by
        intro R ws p e s m args below meth c s₁ hR B hml hws htab hv
        obtain ⟨rfl, hPre⟩ := hv
        obtain ⟨y1, y2, y3, y4, y5, y6⟩ := y_ok j hj
        have hts := atoms_spec (ws := ws) B.pre
        have hown : s.vm.findClass (yOf j).cls = some m.cls := findClass_of_methodNamed B.named
        rw [y1] at hown
        have hCT : CT p l R s m as.toArray meth c j d D dA base adK adV := ⟨B.exec, B.bytes, B.returns, hml, hown, fun w hw => hts w (hws w hw), B.notSynchronized, fun hn => (name_of_methodNamed B.named B.method).1.trans hn, hst, by rw [hR]; exact Nat.le_refl _, by rw [hR]; exact Nat.le_refl _, hPre.2.2, htab⟩
        have := hWS h p l e R s m as.toArray below meth c s.heap [] _ D dA base adK adV hCT ⟨hPre.1, hPre.2.1, va_S.rf⟩ ext_rf (by rw [hR]; exact Nat.le_refl _) (by rw [hR]; exact Nat.le_refl _) (entry_lvR hlen)
        dsimp only at this
        rw [Nat.sub_self, Nat.sub_self] at this
        rw [lg_entry_eq]
        exact this
      refine ⟨fun hY => ?_, fun hY => ?_⟩
      · refine vx_ofW (cc := ccOf j) (maxL := mxOf j) (ret := retOf j) (y_ok j hj).2.1 rfl ?_
        intro p e s m args below meth c s₁ B hml htab hv
        refine body _ (wsM j) p e s m args below meth c s₁ rfl B hml (fun w hw => List.mem_cons_of_mem _ hw) ?_ hv
        rw [tabY_rh j (inL_mem hY)]
        cases ht : c.exceptionTable.toList with
        | nil => rfl
        | cons a b => exact (htab a (by rw [ht]; exact List.mem_cons_self)).elim
      · refine vx_ofWH (cc := ccOf j) (maxL := mxOf j) (ret := retOf j) (hh := rhOf j) (y_ok j hj).2.1 rfl ?_
        intro p e s m args below meth c s₁ B hml hv
        refine body _ (wsW j) p e s m args below meth c s₁ rfl B hml (fun w hw => List.mem_cons_of_mem _ hw) ?_ hv
        exact vx_table (x := yOf j) B (atoms_spec (ws := wsW j) B.pre _ List.mem_cons_self)
    · rw [codeOf_out (by omega)] at hw
      exact (hw (fun _ => False) (fun g hg => hg)).elim

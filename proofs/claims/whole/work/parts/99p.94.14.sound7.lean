/-! Calls: a run of the smaller machine's method is a contract of the JVM's. -/
def roomF (d : Nat) : Nat := 20 + d
def roomL (d : Nat) : Nat := 400 + 40 * d
def rmD (d mc ms : Nat) : Room := { frames := roomF d, cells := mc, slots := ms, locals := roomL d }
noncomputable def wsM (j : Nat) : List Cond := Cond.code (yOf j) (ccOf j) (mxOf j) (retOf j) :: GW
noncomputable def wsW (j : Nat) : List Cond := Cond.codeWith (yOf j) (ccOf j) (mxOf j) (retOf j) (rhOf j) :: GW
def Qe (D : va_G) (dA : Nat → ClassId) (base : Nat) (o1 : oc) (h1 : hp) : Array Value → State → Outcome → State → Prop := fun _ st o t => match o1 with
  | .inl v => o = .returned v ∧ Rep D dA base h1 t.heap ∧ va_F (fun q => base ≤ q) st t
  | .inr _ => False
def Xe (D : va_G) (dA : Nat → ClassId) (base : Nat) (o1 : oc) (h1 : hp) : String → State → State → Prop := fun E st t => match o1 with
  | .inl _ => False
  | .inr x => (E = exN x ∧ x < 2) ∧ Rep D dA base h1 t.heap ∧ va_F (fun q => base ≤ q) st t
def SM (d j : Nat) (as : List Value) (h : hp) (o1 : oc) (h1 : hp) : Prop := ∀ (l : Launch) (D : va_G) (dA : Nat → ClassId) (base : Nat) (adK adV : Nat → Nat), l.stackTraces = false →
  (inL tabY j = true → vx_Met l (yOf j) (wsM j) (rmD d (hsz h1 - hsz h) (hsl h1 - hsl h)) (va_Pc as (Pre0 D dA base adK adV h)) (Qe D dA base o1 h1) (Xe D dA base o1 h1) (hsz h1 - hsz h) (hsl h1 - hsl h) (fun q => base ≤ q)) ∧
  (inL tabYw j = true → vx_Met l (yOf j) (wsW j) (rmD d (hsz h1 - hsz h) (hsl h1 - hsl h)) (va_Pc as (Pre0 D dA base adK adV h)) (Qe D dA base o1 h1) (Xe D dA base o1 h1) (hsz h1 - hsz h) (hsl h1 - hsl h) (fun q => base ≤ q))
/-- every run at most d deep is a contract -/
def SCs (d : Nat) : Prop := ∀ (j : Nat) (as : List Value) (h : hp) (Q : oc → hp → Prop), cal d j as h Q → ∃ (o1 : oc) (h1 : hp), Q o1 h1 ∧ ext h h1 ∧ SM d j as h o1 h1
theorem met_of {l : Launch} {y : MethodName} {ws : List Cond} {rm : Room} {Pc : Array Value → State → Prop} {Qc : Array Value → State → Outcome → State → Prop} {XC : String → State → State → Prop} {mc ms : Nat} {free : Addr → Prop} (hM : vx_Met l y ws rm Pc Qc XC mc ms free) (hX : ∀ E st t, ¬ XC E st t) : Met l y ws rm Pc Qc mc ms free := by
  intro p e ha hc hk s m args below hf happ hP ht
  obtain ⟨k, o, h1, h2, h3, hQ⟩ := hM p e ha hc hk s m args below hf happ hP ht
  refine ⟨k, o, h1, h2, h3, ?_⟩
  rcases hQ with hQ | ⟨q, -, E, ce, L, hx, -⟩
  · exact hQ
  · exact absurd hx (hX _ _ _)
theorem popN_spec : ∀ {n : Nat} {s a as r : List Value}, popN n s a = some (as, r) → ∃ b : List Value, b.length = n ∧ as = b ++ a ∧ s = b.reverse ++ r
  | 0, s, a, as, r, h => by
    simp only [popN, Option.some.injEq, Prod.mk.injEq] at h
    obtain ⟨rfl, rfl⟩ := h
    exact ⟨[], rfl, rfl, rfl⟩
  | n + 1, [], a, as, r, h => by simp [popN] at h
  | n + 1, v :: s, a, as, r, h => by
    obtain ⟨b, h1, h2, h3⟩ := popN_spec (n := n) (s := s) (a := v :: a) h
    exact ⟨b ++ [v], by simp [h1], by simp [h2], by simp [h3]⟩
theorem popN_nil {n : Nat} {s as r : List Value} (h : popN n s [] = some (as, r)) : as.length = n ∧ s = as.reverse ++ r := by
  obtain ⟨b, h1, h2, h3⟩ := popN_spec h
  simp only [List.append_nil] at h2
  subst h2
  exact ⟨h1, h3⟩
set_option maxRecDepth 100000 in
theorem y_ok : ∀ j, j < 274 → (yOf j).cls = cn (clOf j) ∧ plainName (yOf j).cls = true ∧ (yOf j).cls ≠ "java/lang/invoke/MethodHandle" ∧ (yOf j).cls ≠ "java/lang/invoke/VarHandle" ∧ clOf j ∈ tabIn.map Prod.fst ∧ mxOf j ≤ 10 := by decide +kernel
set_option maxRecDepth 100000 in
theorem tabY_lt : ∀ j ∈ tabY, j < 274 := by decide +kernel
set_option maxRecDepth 100000 in
theorem tabYw_lt : ∀ j ∈ tabYw, j < 274 := by decide +kernel
theorem good_gw {w : Cond} (h : w ∈ GW) : w ∈ GW ∧ ((w.onTables && w.keeps) = true ∨ ∃ ty, w = .arrayClass ty) := ⟨h, good_of_word (gw_good w h)⟩
theorem goodM {j : Nat} (h : inL tabY j = true) : GoodIn GW (wsM j) := fun w hw => by
  rcases List.mem_cons.mp hw with rfl | hw
  · exact good_gw (tabY_ok j (inL_mem h))
  · exact good_gw hw
theorem goodW {j : Nat} (h : inL tabYw j = true) : GoodIn GW (wsW j) := fun w hw => by
  rcases List.mem_cons.mp hw with rfl | hw
  · exact good_gw (tabYw_ok j (inL_mem h))
  · exact good_gw hw
section CALLS
variable {p : Program} {l : Launch} {e : Env} {R : Room} {s : State} {m : MethodId} {args : Array Value} {below : List Frame} {meth : Method} {c : Code} {H : Heap} {locs : List Loc} {cells slots : Nat} {Q : State → Prop}
variable {cc : ByteArray} {pc n nL o : Nat} {ls : Array Slot} {rest st : List Value} {D : va_G} {dA : Nat → ClassId} {base : Nat} {adK adV : Nat → Nat} {h h2 : hp} {a : Array Value} {mc ms : Nat}
/-- behind a call that returned -/
theorem r_back {v : Option Value} (hP : Pt0 D dA base adK s h H locs) (hx : ext h h2) (hr : va_Run p l e R s m args below meth c H locs cells slots mc ms (F0 m pc ls st) rest (Qe D dA base (.inl v) h2 a) (fun q => base ≤ q))
    (kk : ∀ (H1 : Heap) (locs1 : List Loc), Pt0 D dA base adK s h2 H1 locs1 → W p l e R s m args below meth c H1 locs1 (cells + mc) (slots + ms) Q (F0 m (pc + 3) ls (v.toList ++ rest))) : W p l e R s m args below meth c H locs cells slots Q (F0 m pc ls st) := by
  intro T hT X
  obtain ⟨v', st₀, t, T', L, h0, X', hL, e1, e2, ⟨hv, hR, hz, hk⟩, stp⟩ := hr T hT X
  cases hv
  rw [h0] at hz hk
  have hS := hP.2.2
  obtain ⟨t2, a1, b1⟩ := kk T'.heap (locs ++ L) ⟨by rw [e1]; exact hR, Pas_ext hx hP.2.1, Nat.le_trans hS.1 (by rw [e1]; exact hz), fun q h1 h3 => by rw [e1, hk q (Nat.lt_of_lt_of_le h1 hS.1) h3]; exact hS.2.1 q h1 h3, fun q hq => by
      rcases List.mem_append.mp hq with h | h
      · exact hS.2.2 q h
      · exact hL q h⟩ T' rfl X'
  exact ⟨t2, stp t2 a1, b1⟩
/-- behind a call that threw -/
theorem r_thrown {x : Nat} (hP : Pt0 D dA base adK s h H locs) (hx : ext h h2) (hr : vx_Run p l e R s m args below meth c H locs cells slots mc ms (F0 m pc ls st) rest (Qe D dA base (.inr x) h2 a) (Xe D dA base (.inr x) h2) (fun q => base ≤ q))
    (kk : ∀ (ce : Cell) (q9 : Addr) (H1 : Heap) (locs1 : List Loc), Pt0 D dA base adK s h2 H1 locs1 → x < 2 → H1[q9]? = some ce → ce.vm = .none → s.vm.findClass (exN x) = some ce.cls → vx_W p l e R s m args below meth c H1 locs1 (cells + mc) (slots + ms) Q (F0 m pc ls rest) q9) : W p l e R s m args below meth c H locs cells slots Q (F0 m pc ls st) := by
  intro T hT X
  rcases hr T hT X with ⟨v, st₀, t, T', L, h0, X', hL, e1, e2, hf, st⟩ | ⟨q, st₀, t, T', L, E, ce, h0, X', hL, e1, e2, ⟨⟨rfl, hx2⟩, hR, hz, hk⟩, hce, hcv, hcl, st⟩
  · exact hf.elim
  · rw [h0] at hz hk
    have hS := hP.2.2
    obtain ⟨t2, a1, b1⟩ := kk ce q T'.heap (locs ++ L) ⟨by rw [e1]; exact hR, Pas_ext hx hP.2.1, Nat.le_trans hS.1 (by rw [e1]; exact hz), fun q h1 h3 => by rw [e1, hk q (Nat.lt_of_lt_of_le h1 hS.1) h3]; exact hS.2.1 q h1 h3, fun q hq => by
      rcases List.mem_append.mp hq with h | h
      · exact hS.2.2 q h
      · exact hL q h⟩ hx2 (by rw [e1]; exact hce) hcv hcl T' rfl X'
    exact ⟨t2, st.trans a1, b1⟩
theorem blind (as : List Value) : FrameBlind (va_Pc as (Pre0 D dA base adK adV h)) := fun a U g mk q => ⟨q.1, Pre0_blind (U := U) (V := U.calling g mk a) rfl rfl q.2⟩
theorem preS (hE : Env0 D dA base adK adV s) (hP : Pt0 D dA base adK s h H locs) (as : List Value) : PreS s H (va_Pc as (Pre0 D dA base adK adV h)) as := ⟨blind as, fun U hU hW => ⟨rfl, Pre0_of hE hP hU hW⟩⟩
theorem preV (hE : Env0 D dA base adK adV s) (hP : Pt0 D dA base adK s h H locs) {b ci : Nat} (hci : ci < 10) (hk : hkd h b = ci + 1) (as : List Value) : PreV s H (cn ci) b (va_Pc (.ref b :: as) (Pre0 D dA base adK adV h)) as := by
  refine ⟨blind _, ?_, fun U hU hW => ⟨rfl, Pre0_of hE hP hU hW⟩⟩
  have hat := (hP.1.1 b (by rw [hk]; omega) (by rw [hk]; omega)).2
  rw [cellOf_o hk hci] at hat
  exact va_recv hE.1 (sing hat) (clss_at hci) (q0 := 0) rfl
end CALLS

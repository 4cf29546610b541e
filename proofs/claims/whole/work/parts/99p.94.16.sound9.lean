/-! Every run of the smaller machine is one of the JVM's. -/
def CT (p : Program) (l : Launch) (R : Room) (s : State) (m : MethodId) (args : Array Value) (meth : Method) (c : Code) (j d : Nat) (D : va_G) (dA : Nat → ClassId) (base : Nat) (adK adV : Nat → Nat) : Prop :=
  p.tables.exec = Jvm.exec ∧ c.code = ccOf j ∧ meth.sig.returnType = retOf j ∧ c.maxLocals = mxOf j ∧ s.vm.findClass (cn (clOf j)) = some m.cls ∧ (∀ w ∈ GW, w.before args s = true) ∧ meth.locks = false ∧ ((yOf j).name = "<init>" → meth.name = "<init>") ∧ l.stackTraces = false ∧ roomF (d + 1) ≤ R.frames ∧ roomL (d + 1) ≤ R.locals ∧ Env0 D dA base adK adV s ∧ c.exceptionTable.toList = tableOf (rhOf j)
def WSs (j d : Nat) (o1 : oc) (h0 h1 : hp) (g : cfg) : Prop := ∀ (p : Program) (l : Launch) (e : Env) (R : Room) (s : State) (m : MethodId) (args : Array Value) (below : List Frame) (meth : Method) (c : Code) (H : Heap) (locs : List Loc) (ls : Array Slot) (D : va_G) (dA : Nat → ClassId) (base : Nat) (adK adV : Nat → Nat),
  CT p l R s m args meth c j d D dA base adK adV → Pt0 D dA base adK s g.2.2.2 H locs → ext h0 g.2.2.2 → hsz h1 - hsz h0 ≤ R.cells → hsl h1 - hsl h0 ≤ R.slots → lvR ls (mxOf j) g.2.1 →
  W p l e R s m args below meth c H locs (hsz g.2.2.2 - hsz h0) (hsl g.2.2.2 - hsl h0) (vx_MQ below (Qe D dA base o1 h1) (Xe D dA base o1 h1) args s (hsz h1 - hsz h0) (hsl h1 - hsl h0) (fun q => base ≤ q)) (F0 m g.1 ls g.2.2.1)
def PP (j d : Nat) (Q : oc → hp → Prop) (g : cfg) : Prop := ∃ (o1 : oc) (h1 : hp), Q o1 h1 ∧ ext g.2.2.2 h1 ∧ ∀ h0, WSs j d o1 h0 h1 g
def STEP (j d : Nat) (g g' : cfg) : Prop := ∀ (p : Program) (l : Launch) (e : Env) (R : Room) (s : State) (m : MethodId) (args : Array Value) (below : List Frame) (meth : Method) (c : Code) (H : Heap) (locs : List Loc) (ls : Array Slot) (D : va_G) (dA : Nat → ClassId) (base : Nat) (adK adV : Nat → Nat) (cells slots : Nat) (Qf : State → Prop),
  CT p l R s m args meth c j d D dA base adK adV → Pt0 D dA base adK s g.2.2.2 H locs → cells + (hsz g'.2.2.2 - hsz g.2.2.2) ≤ R.cells → slots + (hsl g'.2.2.2 - hsl g.2.2.2) ≤ R.slots → lvR ls (mxOf j) g.2.1 →
  (∀ (H1 : Heap) (locs1 : List Loc) (ls1 : Array Slot), Pt0 D dA base adK s g'.2.2.2 H1 locs1 → lvR ls1 (mxOf j) g'.2.1 → W p l e R s m args below meth c H1 locs1 (cells + (hsz g'.2.2.2 - hsz g.2.2.2)) (slots + (hsl g'.2.2.2 - hsl g.2.2.2)) Qf (F0 m g'.1 ls1 g'.2.2.1)) →
  W p l e R s m args below meth c H locs cells slots Qf (F0 m g.1 ls g.2.2.1)
theorem PP_step {j d : Nat} {Q : oc → hp → Prop} {g g' : cfg} (hg : PP j d Q g') (hx : ext g.2.2.2 g'.2.2.2) (hs : STEP j d g g') : PP j d Q g := by
  obtain ⟨o1, h1, hq, hx1, hw⟩ := hg
  refine ⟨o1, h1, hq, ext_tr hx hx1, fun h0 p l e R s m args below meth c H locs ls D dA base adK adV hC hP he hc hsl hl => ?_⟩
  have e1 := he.1
  have e2 := hx.1
  have e3 := hx1.1
  have f1 := he.2.1
  have f2 := hx.2.1
  have f3 := hx1.2.1
  refine hs p l e R s m args below meth c H locs ls D dA base adK adV _ _ _ hC hP (by omega) (by omega) hl (fun H1 locs1 ls1 hP1 hl1 => ?_)
  exact W.widen (by omega) (by omega) (hw h0 p l e R s m args below meth c H1 locs1 ls1 D dA base adK adV hC hP1 (ext_tr he hx) hc hsl hl1)
/-- a step that leaves the heap and the counts as they are -/
theorem STEP_same {j d : Nat} {pc pc' : Nat} {v v' : lvs} {st st' : List Value} {h : hp}
    (hs : ∀ (p : Program) (l : Launch) (e : Env) (R : Room) (s : State) (m : MethodId) (args : Array Value) (below : List Frame) (meth : Method) (c : Code) (H : Heap) (locs : List Loc) (ls : Array Slot) (D : va_G) (dA : Nat → ClassId) (base : Nat) (adK adV : Nat → Nat) (cells slots : Nat) (Qf : State → Prop),
      CT p l R s m args meth c j d D dA base adK adV → Pt0 D dA base adK s h H locs → cells ≤ R.cells → slots ≤ R.slots → lvR ls (mxOf j) v → (∀ ls1 : Array Slot, lvR ls1 (mxOf j) v' → W p l e R s m args below meth c H locs cells slots Qf (F0 m pc' ls1 st')) → W p l e R s m args below meth c H locs cells slots Qf (F0 m pc ls st)) : STEP j d (pc, v, st, h) (pc', v', st', h) := by
  intro p l e R s m args below meth c H locs ls D dA base adK adV cells slots Qf hC hP h1 h2 hl kk
  have e1 : cells + (hsz h - hsz h) = cells := by omega
  have e2 : slots + (hsl h - hsl h) = slots := by omega
  simp only [e1, e2] at h1 h2 kk
  exact hs p l e R s m args below meth c H locs ls D dA base adK adV cells slots Qf hC hP h1 h2 hl (fun ls1 hl1 => kk H locs ls1 hP hl1)
theorem fetch_mem : ∀ {co : kcode} {pc : Nat} {r : Instr} {n : Nat}, fetch co pc = some (r, n) → (pc, r, n) ∈ co
  | [], _, _, _, h => by simp [fetch] at h
  | (q, x) :: co, pc, r, n, h => by
    unfold fetch at h
    cases hb : Nat.beq q pc with
    | true =>
      rw [hb] at h
      dsimp only at h
      cases h
      rw [Nat.eq_of_beq_eq_true hb]
      exact List.mem_cons_self
    | false =>
      rw [hb] at h
      exact List.mem_cons_of_mem _ (fetch_mem h)
theorem code_at {j pc n : Nat} {r : Instr} (hok : okM j = true) (hf : fetch (codeOf j) pc = some (r, n)) : ∃ i, decode (ccOf j) pc = .ok (i, n) ∧ okIns (clOf j) (decide ((yOf j).name = "<init>")) (retOf j) (ccOf j) pc i n r = true := by
  have h := List.all_eq_true.mp hok _ (fetch_mem hf)
  unfold okAt at h
  dsimp only at h
  split at h
  · rename_i i k hd
    simp only [Bool.and_eq_true, Nat.beq_eq] at h
    obtain ⟨rfl, h2⟩ := h
    exact ⟨i, hd, h2⟩
  · cases h
section MAIN
variable {j d pc n : Nat} {Q : oc → hp → Prop} {v : lvs} {st : List Value} {h : hp} {i r : Instr}
theorem rF (d : Nat) : 1 ≤ roomF (d + 1) ∧ 20 ≤ roomF (d + 1) ∧ 21 ≤ roomL (d + 1) ∧ 400 ≤ roomL (d + 1) ∧ roomF d + 1 = roomF (d + 1) ∧ roomL d + 40 = roomL (d + 1) := by
  unfold roomF roomL
  omega
theorem pp_pure (hd : decode (ccOf j) pc = .ok (i, n)) (ho : okIns (clOf j) (decide ((yOf j).name = "<init>")) (retOf j) (ccOf j) pc i n r = true) {v' : lvs} {st' : List Value} (hp : pur r v st = some (v', st')) (x : PP j d Q (pc + n, v', st', h)) : PP j d Q (pc, v, st, h) := by
  refine PP_step x ext_rf (STEP_same fun p l e R s m args below meth c H locs ls D dA base adK adV cells slots Qf hC hP h1 h2 hl kk => ?_)
  obtain ⟨hx, hb, -, hml, hown, hts, -, -, -, hF, hLo, -, -⟩ := hC
  have := rF d
  exact pur_row hx hb hml hown hts (by omega) (by omega) h1 h2 hd ho hl hp kk
/-- an instruction that leaves locals, heap and counts -/
theorem pp_row {pc' : Nat} {st' : List Value}
    (hs : ∀ (p : Program) (l : Launch) (e : Env) (R : Room) (s : State) (m : MethodId) (args : Array Value) (below : List Frame) (meth : Method) (c : Code) (H : Heap) (locs : List Loc) (ls : Array Slot) (D : va_G) (dA : Nat → ClassId) (base : Nat) (adK adV : Nat → Nat) (cells slots : Nat) (Qf : State → Prop),
      CT p l R s m args meth c j d D dA base adK adV → Pt0 D dA base adK s h H locs → cells ≤ R.cells → slots ≤ R.slots → ls.size = mxOf j → W p l e R s m args below meth c H locs cells slots Qf (F0 m pc' ls st') → W p l e R s m args below meth c H locs cells slots Qf (F0 m pc ls st)) (x : PP j d Q (pc', v, st', h)) : PP j d Q (pc, v, st, h) :=
  PP_step x ext_rf (STEP_same fun p l e R s m args below meth c H locs ls D dA base adK adV cells slots Qf hC hP h1 h2 hl kk => hs p l e R s m args below meth c H locs ls D dA base adK adV cells slots Qf hC hP h1 h2 hl.2.1 (kk ls hl))
/-- an instruction that writes -/
theorem pp_put {pc' : Nat} {st' : List Value} {h' : hp} (hx : ext h h') (hz : hsz h' = hsz h) (hL : hsl h' = hsl h)
    (hs : ∀ (p : Program) (l : Launch) (e : Env) (R : Room) (s : State) (m : MethodId) (args : Array Value) (below : List Frame) (meth : Method) (c : Code) (H : Heap) (locs : List Loc) (ls : Array Slot) (D : va_G) (dA : Nat → ClassId) (base : Nat) (adK adV : Nat → Nat) (cells slots : Nat) (Qf : State → Prop),
      CT p l R s m args meth c j d D dA base adK adV → Pt0 D dA base adK s h H locs → ls.size = mxOf j → (∀ (H1 : Heap) (locs1 : List Loc), Pt0 D dA base adK s h' H1 locs1 → W p l e R s m args below meth c H1 locs1 cells slots Qf (F0 m pc' ls st')) → W p l e R s m args below meth c H locs cells slots Qf (F0 m pc ls st)) (x : PP j d Q (pc', v, st', h')) : PP j d Q (pc, v, st, h) := by
  refine PP_step x hx fun p l e R s m args below meth c H locs ls D dA base adK adV cells slots Qf hC hP h1 h2 hl kk => ?_
  have e1 : cells + (hsz h' - hsz h) = cells := by omega
  have e2 : slots + (hsl h' - hsl h) = slots := by omega
  simp only [e1, e2] at kk
  exact hs p l e R s m args below meth c H locs ls D dA base adK adV cells slots Qf hC hP hl.2.1 (fun H1 locs1 hP1 => kk H1 locs1 ls hP1 hl)
theorem r_if {p : Program} {l : Launch} {e : Env} {R : Room} {s : State} {m : MethodId} {args : Array Value} {below : List Frame} {meth : Method} {c : Code} {H : Heap} {locs : List Loc} {cells slots : Nat} {Qf : State → Prop} {cc : ByteArray} {ls : Array Slot} {rest : List Value} {cd : ClassFile.Cond} {off : Int} {tgt : Nat} {x : Int32} (hx : p.tables.exec = Jvm.exec) (hb : c.code = cc) (hd : decode cc pc = .ok (.ifCond cd off, 3)) (ht : (pc : Int) + off = (tgt : Int))
    (kt : cnd cd x 0 → W p l e R s m args below meth c H locs cells slots Qf (F0 m tgt ls rest)) (kf : ncnd cd x 0 → W p l e R s m args below meth c H locs cells slots Qf (F0 m (pc + 3) ls rest)) : W p l e R s m args below meth c H locs cells slots Qf (F0 m pc ls (.int x :: rest)) := by
  cases cd
  · exact lv_if_eq hx hb hd ht kt kf
  · exact lv_if_ne hx hb hd ht kt kf
  · exact lv_if_lt hx hb hd ht kt kf
  · exact lv_if_ge hx hb hd ht kt kf
  · exact lv_if_gt hx hb hd ht kt kf
  · exact lv_if_le hx hb hd ht kt kf
theorem r_icmp {p : Program} {l : Launch} {e : Env} {R : Room} {s : State} {m : MethodId} {args : Array Value} {below : List Frame} {meth : Method} {c : Code} {H : Heap} {locs : List Loc} {cells slots : Nat} {Qf : State → Prop} {cc : ByteArray} {ls : Array Slot} {rest : List Value} {cd : ClassFile.Cond} {off : Int} {tgt : Nat} {x y : Int32} (hx : p.tables.exec = Jvm.exec) (hb : c.code = cc) (hd : decode cc pc = .ok (.if_icmp cd off, 3)) (ht : (pc : Int) + off = (tgt : Int))
    (kt : cnd cd x y → W p l e R s m args below meth c H locs cells slots Qf (F0 m tgt ls rest)) (kf : ncnd cd x y → W p l e R s m args below meth c H locs cells slots Qf (F0 m (pc + 3) ls rest)) : W p l e R s m args below meth c H locs cells slots Qf (F0 m pc ls (.int y :: .int x :: rest)) := by
  cases cd
  · exact lv_icmp_eq hx hb hd ht kt kf
  · exact lv_icmp_ne hx hb hd ht kt kf
  · exact lv_icmp_lt hx hb hd ht kt kf
  · exact lv_icmp_ge hx hb hd ht kt kf
  · exact lv_icmp_gt hx hb hd ht kt kf
  · exact lv_icmp_le hx hb hd ht kt kf
theorem cnd_or (cd : ClassFile.Cond) (x y : Int32) : (cnd cd x y ∧ ¬ ncnd cd x y) ∨ (ncnd cd x y ∧ ¬ cnd cd x y) := by
  cases cd <;> simp only [cnd, ncnd] <;> first | exact (Decidable.em _).imp (fun a => ⟨a, fun b => b a⟩) (fun a => ⟨a, a⟩) | exact (Decidable.em _).symm.imp (fun a => ⟨a, a⟩) (fun a => ⟨a, fun b => b a⟩)
/-- which row of a switch is taken -/
def lk (x : Int32) (d : Int) : List (Int × Int) → Int
  | [] => d
  | (m, t) :: r => if x = icn m then t else lk x d r
theorem lsw_lk {x : Int32} {K : Int → Prop} {d : Int} : ∀ {ps : List (Int × Int)}, lsw x K d ps → K (lk x d ps)
  | [], h => h
  | (m, t) :: r, h => by
    unfold lk
    split
    · exact h.1 ‹_›
    · exact lsw_lk (h.2 ‹_›)
theorem lk_look {x : Int32} {pc : Int} {e : Int} : ∀ {qs : List (Int × Int)}, (∀ q ∈ qs, (icn q.1).toInt = q.1) → lk x (pc + e) (qs.map fun q => (q.1, pc + q.2)) = pc + Op.lookupswitch.offset qs e x.toInt
  | [], _ => rfl
  | (m, t) :: r, h => by
    have hm : (icn m).toInt = m := h (m, t) List.mem_cons_self
    have ih := lk_look (x := x) (pc := pc) (e := e) (qs := r) (fun q hq => h q (List.mem_cons_of_mem _ hq))
    rw [List.map_cons, Op.lookupswitch.offset_cons]
    unfold lk
    by_cases hx : x = icn m
    · subst hx
      rw [if_pos rfl, if_pos (by rw [hm])]
    · rw [if_neg hx, if_neg (fun q => hx (Int32.toInt_inj.mp (by rw [hm]; exact q.symm))), ih]
theorem lk_tab {x : Int32} {pc lo dd : Int} : ∀ {os : List Int} {k : Nat}, (∀ q ∈ (os.zipIdx k).map (fun q => (lo + (q.2 : Int), pc + q.1)), (icn q.1).toInt = q.1) →
    ((x.toInt < lo + k ∨ lo + k + os.length ≤ x.toInt) → lk x dd ((os.zipIdx k).map fun q => (lo + (q.2 : Int), pc + q.1)) = dd) ∧ (∀ i : Nat, x.toInt = lo + k + i → ∀ o, os[i]? = some o → lk x dd ((os.zipIdx k).map fun q => (lo + (q.2 : Int), pc + q.1)) = pc + o)
  | [], k, _ => ⟨fun _ => rfl, fun i _ o h => by simp at h⟩
  | a :: os, k, h => by
    have hm : (icn (lo + (k : Int))).toInt = lo + k := h (lo + (k : Int), pc + a) (by rw [List.zipIdx_cons, List.map_cons]; exact List.mem_cons_self)
    obtain ⟨i1, i2⟩ := lk_tab (x := x) (pc := pc) (lo := lo) (dd := dd) (os := os) (k := k + 1) (fun q hq => h q (by rw [List.zipIdx_cons, List.map_cons]; exact List.mem_cons_of_mem _ hq))
    rw [List.zipIdx_cons, List.map_cons]
    unfold lk
    by_cases hx : x = icn (lo + (k : Int))
    · rw [if_pos hx]
      subst hx
      rw [hm]
      refine ⟨fun q => ?_, fun i hi o ho => ?_⟩
      · simp only [List.length_cons] at q
        omega
      · have : i = 0 := by omega
        subst this
        simp at ho
        rw [ho]
    · rw [if_neg hx]
      have hne : x.toInt ≠ lo + k := fun q => hx (Int32.toInt_inj.mp (by rw [hm]; exact q))
      refine ⟨fun q => i1 ?_, fun i hi o ho => ?_⟩
      · simp only [List.length_cons] at q
        omega
      · cases i with
        | zero => omega
        | succ i => exact i2 i (by omega) o (by simpa using ho)
end MAIN

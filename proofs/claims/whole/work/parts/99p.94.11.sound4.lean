/-! The rows that look at the heap. -/
theorem Env0_move {D : va_G} {dA : Nat → ClassId} {base : Nat} {adK adV : Nat → Nat} {s U : State} (hE : Env0 D dA base adK adV s) (hW : s.WarmedH U.vm) (hz : s.heap.size ≤ U.heap.size) (hq : ∀ a : Nat, a < s.heap.size → ¬ base ≤ a → U.heap[a]? = s.heap[a]?) : Env0 D dA base adK adV U := by
  obtain ⟨h1, h2, h3, h4, h5, h6, h7, h8, h9, h10, h11, h12⟩ := hE
  have ha := hW.alike
  exact ⟨h1.moved ha, (h2.moved ha).kept hq, (h3.moved ha).kept hq, (h4.moved ha).kept hq, fun q hs => (h5 q hs).warm hW, (h6.moved ha).kept hq, (h7.moved ha).kept hq, fun w hw hn => ngW_warm hn hW (h8 w hw hn), Nat.le_trans h9 hz, h10.moved ha, h11.moved ha, h12.moved ha⟩
theorem Pas_move {h : hp} {base : Nat} {adK : Nat → Nat} {len : List Nat} {byt : List (List Int32)} {s U : State} (hP : Pas h base adK len byt s s.heap) (hW : s.WarmedH U.vm) (hq : ∀ a : Nat, a < s.heap.size → ¬ base ≤ a → U.heap[a]? = s.heap[a]?) : Pas h base adK len byt U U.heap := by
  refine ⟨hP.1, fun a ha => ?_, hP.2.2⟩
  obtain ⟨x, hb⟩ := hP.2.1 a ha
  refine ⟨(x.moved hW.alike).kept (hq a ?_ (by omega)), hb⟩
  obtain ⟨scr, h1, -⟩ := x
  exact (Array.getElem?_eq_some_iff.mp h1).1
/-- the heap at a point of a method's walk -/
def Pt0 (D : va_G) (dA : Nat → ClassId) (base : Nat) (adK : Nat → Nat) (s : State) (h : hp) (H : Heap) (locs : List Loc) : Prop := Rep D dA base h H ∧ Pas h base adK lenS bytS s s.heap ∧ va_S (fun q => base ≤ q) s.heap H locs
theorem Pre0_of {D : va_G} {dA : Nat → ClassId} {base : Nat} {adK adV : Nat → Nat} {s U : State} {h : hp} {H : Heap} {locs : List Loc} (hE : Env0 D dA base adK adV s) (hP : Pt0 D dA base adK s h H locs) (hU : U.heap = H) (hW : s.WarmedH U.vm) : Pre0 D dA base adK adV h U := by
  obtain ⟨hR, hp, hS⟩ := hP
  have hz : s.heap.size ≤ U.heap.size := by rw [hU]; exact hS.1
  have hq : ∀ a : Nat, a < s.heap.size → ¬ base ≤ a → U.heap[a]? = s.heap[a]? := fun a h1 h2 => by rw [hU]; exact hS.2.1 a h1 h2
  exact ⟨by rw [hU]; exact hR, Pas_move hp hW hq, Env0_move hE hW hz hq⟩
theorem Pre0_blind {D : va_G} {dA : Nat → ClassId} {base : Nat} {adK adV : Nat → Nat} {h : hp} {U V : State} (hh : V.heap = U.heap) (hv : V.vm = U.vm) (hP : Pre0 D dA base adK adV h U) : Pre0 D dA base adK adV h V := by
  have hW : U.WarmedH V.vm := by rw [hv]; exact State.WarmedH.refl U
  have hq : ∀ a : Nat, a < U.heap.size → ¬ base ≤ a → V.heap[a]? = U.heap[a]? := fun a _ _ => by rw [hh]
  exact ⟨by rw [hh]; exact hP.1, Pas_move hP.2.1 hW hq, Env0_move hP.2.2 hW (by rw [hh]; exact Nat.le_refl _) hq⟩
theorem sing {D : va_G} {cl : List vw_C} {q : Nat × va_E} {H : Heap} (h : va_at D cl q H) : va_P D cl [q] H := fun k x hk => by
  cases k with
  | zero => cases hk; exact h
  | succ k => simp at hk
/-- one cell is written -/
theorem Rep_put {D : va_G} {dA : Nat → ClassId} {base : Nat} {h h' : hp} {H H1 : Heap} {a : Nat} (hR : Rep D dA base h H) (hk : hkd h' = hkd h) (hn : hln h' = hln h) (hz : hsz h' = hsz h) (he : hex h' = hex h) (hi : ∀ b, b ≠ a → hI h' b = hI h b ∧ hJ h' b = hJ h b ∧ hrm h' b = hrm h b)
    (z : H1.size = H.size) (oq : ∀ q, q ≠ a → H1[q]? = H[q]?) (hc : va_at D clss (a, cellOf dA h' a) H1) : Rep D dA base h' H1 := by
  refine ⟨fun b k1 k2 => ?_, fun e => by rw [z, hz]; exact hR.2.1 (by rw [← he]; exact e), fun b hb => by rw [hk]; exact hR.2.2 b (by rw [← hz]; exact hb)⟩
  rw [hk] at k1 k2
  obtain ⟨h1, h2⟩ := hR.1 b k1 k2
  refine ⟨h1, ?_⟩
  by_cases e : b = a
  · subst e; exact hc
  · obtain ⟨e1, e2, e3⟩ := hi b e
    rw [cellOf_same (h := h) (by rw [hk]) (by rw [hn]) e1 e2 e3]
    exact h2.kept (oq b e)
theorem Pt0_put {D : va_G} {dA : Nat → ClassId} {base : Nat} {adK : Nat → Nat} {s : State} {h h' : hp} {H H1 : Heap} {locs : List Loc} {a k : Nat} (hP : Pt0 D dA base adK s h H locs) (hx : ext h h') (ha : base ≤ a) (hR : Rep D dA base h' H1) (z : H1.size = H.size) (oq : ∀ q, q ≠ a → H1[q]? = H[q]?) : Pt0 D dA base adK s h' H1 (locs ++ [⟨a, k⟩]) :=
  ⟨hR, Pas_ext hx hP.2.1, hP.2.2.put z oq ha⟩
/-- one row of numbers has changed, of a cell of ours -/
theorem ext_put {h h' : hp} {a : Nat} (ha : hkd h a ≤ 23) (hk : hkd h' = hkd h) (hn : hln h' = hln h) (hs : hsa h' = hsa h) (hz : hsz h' = hsz h) (hl : hsl h' = hsl h) (hi : ∀ b, b ≠ a → hI h' b = hI h b) : ext h h' := by
  refine ⟨by rw [hz]; exact Nat.le_refl _, by rw [hl]; exact Nat.le_refl _, hs, fun b hb => ?_⟩
  rw [hk] at hb ⊢
  refine ⟨rfl, by rw [hn], ?_⟩
  rw [hi b (fun e => by subst e; omega)]
theorem sd_wr_row {α : Type} {f : Nat → Nat → α} {a i b : Nat} {v : α} (h : b ≠ a) : wr f a i v b = f b := by
  funext j
  simp [wr, h]
theorem wr_self {f : Nat → Nat → Int32} {a i : Nat} {v : Int32} : wr f a i v a = upd (f a) i v := by
  funext j
  simp [wr, upd]
theorem wr_selfL {f : Nat → Nat → Int64} {a i : Nat} {v : Int64} : wr f a i v a = vp_updL (f a) i v := by
  funext j
  simp [wr, vp_updL]
theorem wr_selfR {f : Nat → Nat → Option Nat} {a i : Nat} {v : Option Nat} : wr f a i v a = va_up (f a) i v := by
  funext j
  simp [wr, va_up]
theorem wrow_row {α : Type} {f : Nat → Nat → α} {a b : Nat} {r : Nat → α} (h : b ≠ a) : wrow f a r b = f b := by simp [wrow, h]
theorem wrow_self {α : Type} {f : Nat → Nat → α} {a : Nat} {r : Nat → α} : wrow f a r a = r := by simp [wrow]
theorem fld_defl (h : hp) (a k : Nat) (ty : FieldType) (ht : tagOf ty < 4) (hi : hI h a k = 0) (hj : hJ h a k = 0) (hr : hrm h a k = none) : defaultValue ty = fld h a k ty := by
  cases ty <;> first
    | (simp [fld, tagOf, hi, hj, hr, defaultValue, va_rf]; done)
    | (simp [tagOf] at ht)
section HEAP
variable {p : Program} {l : Launch} {e : Env} {R : Room} {s : State} {m : MethodId} {args : Array Value} {below : List Frame} {meth : Method} {c : Code} {H : Heap} {locs : List Loc} {cells slots : Nat} {Q : State → Prop}
variable {cc : ByteArray} {pc n nL o : Nat} {ls : Array Slot} {rest : List Value} {D : va_G} {dA : Nat → ClassId} {base : Nat} {adK adV : Nat → Nat} {h : hp} {a : Nat}
theorem r_getf (hx : p.tables.exec = Jvm.exec) (hb : c.code = cc) (hown : s.vm.findClass (cn o) = some m.cls) (hts : ∀ w ∈ GW, w.before args s = true) (hE : Env0 D dA base adK adV s) (hP : Pt0 D dA base adK s h H locs) {k ci fk : Nat} (hF : inT4 tabF o k ci fk = true) (hci : ci < 10) (hfk : fk < nf ci) (hd : decode cc pc = .ok (.getfield k, 3)) (hk : hkd h a = ci + 1)
    (kk : W p l e R s m args below meth c H locs cells slots Q (F0 m (pc + 3) ls (fld h a fk (tyT ci fk) :: rest))) : W p l e R s m args below meth c H locs cells slots Q (F0 m pc ls (.ref a :: rest)) := by
  have hat := (hP.1.1 a (by rw [hk]; omega) (by rw [hk]; omega)).2
  rw [cellOf_o hk hci] at hat
  exact va_get hx hb (own := cn o) (ref := cn ci) hts (lay_ok hci) hown hE.1 (sing hat) 0 rfl (clss_at hci) fk hfk (hts _ (tabF_ok _ (inT4_mem hF))) (fun x hx => by rw [← (fd_ok ci hci fk hfk).2.1]; exact hx) (flds_at hfk) hd kk
/-- a field is written: the cell behind it -/
theorem r_putf (hx : p.tables.exec = Jvm.exec) (hb : c.code = cc) (hown : s.vm.findClass (cn o) = some m.cls) (hts : ∀ w ∈ GW, w.before args s = true) (hE : Env0 D dA base adK adV s) (hP : Pt0 D dA base adK s h H locs) {k ci fk : Nat} (hF : inT4 tabF o k ci fk = true) (hci : ci < 10) (hfk : fk < nf ci) (hd : decode cc pc = .ok (.putfield k, 3)) (hk : hkd h a = ci + 1)
    (hfin : (TT ci fk).2.2.2 = true → meth.name = "<init>" ∧ ci = o) {v : Value} (hn : narrow (tyT ci fk) v = v) (hfit : fits (tyT ci fk) v = true) {h' : hp} (hk' : hkd h' = hkd h) (hn' : hln h' = hln h) (hs' : hsa h' = hsa h) (hz' : hsz h' = hsz h) (hl' : hsl h' = hsl h) (he' : hex h' = hex h) (hi' : ∀ b, b ≠ a → hI h' b = hI h b ∧ hJ h' b = hJ h b ∧ hrm h' b = hrm h b)
    (hv : fld h' a fk (tyT ci fk) = v) (ho : ∀ j, j ≠ fk → fld h' a j (tyT ci j) = fld h a j (tyT ci j))
    (kk : ∀ (H1 : Heap) (locs1 : List Loc), Pt0 D dA base adK s h' H1 locs1 → W p l e R s m args below meth c H1 locs1 cells slots Q (F0 m (pc + 3) ls rest)) : W p l e R s m args below meth c H locs cells slots Q (F0 m pc ls (v :: .ref a :: rest)) := by
  obtain ⟨hba, hat⟩ := hP.1.1 a (by rw [hk]; omega) (by rw [hk]; omega)
  rw [cellOf_o hk hci] at hat
  obtain ⟨r, h1, cell, q1, q2, q3, q4⟩ := hat
  obtain ⟨-, hr⟩ := clss_of h1
  dsimp only at hr
  subst hr
  have hc := clss_at hci
  have hK := hE.1
  have hfd := fd_ok ci hci
  have hin := lay_ok hci
  have hap := va_apart (own := cn o) hts hin (tyT ci) (fun k hk => (hfd k hk).2.2.1) (nm_ok ci hci) hK hc
  obtain ⟨hS, hfc, kC, hkC, hkind⟩ := hK.1 ci _ hc
  obtain ⟨cf, kf, fi, f, hi, hsl⟩ := hS fk hfk
  have hlay := hts _ (hin _ (u_in_lay hfk))
  have hst := (u_facts hfc hkC (u_lays hts hin hfk) hi).1
  have hty := (hfd fk hfk).2.2.1
  have hlink := hts _ (tabF_ok _ (inT4_mem hF))
  have hsame : s.fieldFound? (cn ci) (TT ci fk).2.1 (TT ci fk).2.2.1 = some (cf, kf, fi, f) := by rw [← (hfd fk hfk).2.1]; exact hi
  have fin : ∀ H1 : Heap, H1[a]? = some (cell.setSlot f.slot v) → H1.size = H.size → (∀ q, q ≠ a → H1[q]? = H[q]?) → W p l e R s m args below meth c H1 (locs ++ [⟨a, f.slot⟩]) cells slots Q (F0 m (pc + 3) ls rest) := by
    intro H1 e1 e2 e3
    have hat' : va_at D clss (a, cellOf dA h' a) H1 := by
      rw [cellOf_o (by rw [hk']; exact hk) hci, flds_set hfk hv ho]
      rw [hsl] at e1
      exact ⟨_, hc, t_OB.to (V := updV (vp_V (flds h a ci)) fk v) ⟨_, e1, q2, q3, t_set q4 hap hfk v⟩ (fun j _ => vp_updV_set (by rw [flds_len]; exact hfk) v j)⟩
    exact kk H1 _ (Pt0_put hP (ext_put (a := a) (by rw [hk]; omega) hk' hn' hs' hz' hl' (fun b hb => (hi' b hb).1)) hba (Rep_put hP.1 hk' hn' hz' he' hi' e2 e3 hat') e2 e3)
  unfold u_lay at hlay
  by_cases hf : (TT ci fk).2.2.2 = true
  · rw [if_pos hf] at hlay
    obtain ⟨hin2, ho2⟩ := hfin hf
    have hcf : m.cls = cf := by
      obtain ⟨_, _, c', _, _, _, -, -, hf', -, -, -, hown2, -⟩ := Cond.laysFinal_spec hlay
      have e1 : c' = cf := by have := hi.symm.trans hf'; simp at this; exact this.1.symm
      rw [(hfd fk hfk).2.1, ho2] at hown2
      rw [← e1]; exact Option.some.inj (hown.symm.trans hown2)
    have h6 := u_fits hfc hkC hkind (Or.inr hlay) hi hty hn hfit
    exact W.putFinK hx hb hown hlink hsame hst hcf hin2 (by rw [q2]; exact h6) q1 q3 (by rw [hsl]; exact k2_hasslot (q4 fk hfk)) (g := F0 m pc ls (v :: .ref a :: rest)) rfl rfl hd fin
  · rw [if_neg hf] at hlay
    have h6 := u_store hfc hkC hkind hlay hi hty hn hfit
    exact W.putK hx hb (f := f) ⟨hown, hlink, ⟨_, _, _, hsame⟩, hst⟩ (by rw [q2]; exact h6) q1 q3 (by rw [hsl]; exact k2_hasslot (q4 fk hfk)) (g := F0 m pc ls (v :: .ref a :: rest)) rfl rfl hd fin
theorem tysA0 : (tysA dA)[0]? = some (dA 0, .int) := rfl
theorem tysA1 : (tysA dA)[1]? = some (dA 1, .byte) := rfl
theorem tysA2 : (tysA dA)[2]? = some (dA 2, .long) := rfl
theorem tysA3 : (tysA dA)[3]? = some (dA 3, .object "SlotKeeper$Board") := rfl
theorem r_iald (hx : p.tables.exec = Jvm.exec) (hb : c.code = cc) (hE : Env0 D dA base adK adV s) (hP : Pt0 D dA base adK s h H locs) {i : Int32} (hd : decode cc pc = .ok (.iaload, 1)) (hk : hkd h a = 20) (hi : vp_in i (hln h a))
    (kk : W p l e R s m args below meth c H locs cells slots Q (F0 m (pc + 1) ls (.int (hI h a i.toNatClampNeg) :: rest))) : W p l e R s m args below meth c H locs cells slots Q (F0 m pc ls (.int i :: .ref a :: rest)) := by
  have hat := (hP.1.1 a (by rw [hk]; omega) (by rw [hk]; omega)).2
  rw [cellOf_i hk] at hat
  exact va_iald hx hb hE.1 (sing hat) 0 0 rfl tysA0 hi hd kk
theorem r_bald (hx : p.tables.exec = Jvm.exec) (hb : c.code = cc) (hE : Env0 D dA base adK adV s) (hP : Pt0 D dA base adK s h H locs) {i : Int32} (hd : decode cc pc = .ok (.baload, 1)) (hk : hkd h a = 21) (hi : vp_in i (hln h a))
    (kk : W p l e R s m args below meth c H locs cells slots Q (F0 m (pc + 1) ls (.int (hI h a i.toNatClampNeg) :: rest))) : W p l e R s m args below meth c H locs cells slots Q (F0 m pc ls (.int i :: .ref a :: rest)) := by
  have hat := (hP.1.1 a (by rw [hk]; omega) (by rw [hk]; omega)).2
  rw [cellOf_b hk] at hat
  exact va_bald hx hb hE.1 (sing hat) 0 1 rfl tysA1 hi hd kk
theorem r_lald (hx : p.tables.exec = Jvm.exec) (hb : c.code = cc) (hE : Env0 D dA base adK adV s) (hP : Pt0 D dA base adK s h H locs) {i : Int32} (hd : decode cc pc = .ok (.laload, 1)) (hk : hkd h a = 22) (hi : vp_in i (hln h a))
    (kk : W p l e R s m args below meth c H locs cells slots Q (F0 m (pc + 1) ls (.long (hJ h a i.toNatClampNeg) :: rest))) : W p l e R s m args below meth c H locs cells slots Q (F0 m pc ls (.int i :: .ref a :: rest)) := by
  have hat := (hP.1.1 a (by rw [hk]; omega) (by rw [hk]; omega)).2
  rw [cellOf_l hk] at hat
  exact va_lald hx hb hE.1 (sing hat) 0 2 rfl tysA2 hi hd kk
theorem r_aald (hx : p.tables.exec = Jvm.exec) (hb : c.code = cc) (hE : Env0 D dA base adK adV s) (hP : Pt0 D dA base adK s h H locs) {i : Int32} (hd : decode cc pc = .ok (.aaload, 1)) (hk : hkd h a = 23) (hi : vp_in i (hln h a))
    (kk : W p l e R s m args below meth c H locs cells slots Q (F0 m (pc + 1) ls (va_rf (hrm h a i.toNatClampNeg) :: rest))) : W p l e R s m args below meth c H locs cells slots Q (F0 m pc ls (.int i :: .ref a :: rest)) := by
  have hat := (hP.1.1 a (by rw [hk]; omega) (by rw [hk]; omega)).2
  rw [cellOf_q hk] at hat
  exact va_aldq hx hb hE.1 (sing hat) 0 3 rfl tysA3 hi hd kk
theorem r_sald (hx : p.tables.exec = Jvm.exec) (hb : c.code = cc) (hP : Pt0 D dA base adK s h H locs) {i : Int32} (hd : decode cc pc = .ok (.iaload, 1)) (hk : hkd h a = 30) (hi : vp_in i (hln h a))
    (kk : W p l e R s m args below meth c H locs cells slots Q (F0 m (pc + 1) ls (.int (hI h a i.toNatClampNeg) :: rest))) : W p l e R s m args below meth c H locs cells slots Q (F0 m pc ls (.int i :: .ref a :: rest)) := by
  obtain ⟨hX, hlt⟩ := hP.2.1.2.1 a hk
  have hbl : a < s.heap.size := by
    obtain ⟨scr, h1, -⟩ := hX
    exact (Array.getElem?_eq_some_iff.mp h1).1
  exact va_sld hx hb hX hbl (A := fun q => base ≤ q) (by omega) hP.2.2 hi hd kk
theorem r_alen (hx : p.tables.exec = Jvm.exec) (hb : c.code = cc) (hE : Env0 D dA base adK adV s) (hP : Pt0 D dA base adK s h H locs) (hd : decode cc pc = .ok (.arraylength, 1)) (hk : hkd h a = 20 ∨ hkd h a = 21 ∨ hkd h a = 30)
    (kk : W p l e R s m args below meth c H locs cells slots Q (F0 m (pc + 1) ls (.int (Int32.ofNat (hln h a)) :: rest))) : W p l e R s m args below meth c H locs cells slots Q (F0 m pc ls (.ref a :: rest)) := by
  rcases hk with hk | hk | hk
  · have hat := (hP.1.1 a (by rw [hk]; omega) (by rw [hk]; omega)).2
    rw [cellOf_i hk] at hat
    exact va_alen hx hb hE.1 (sing hat) 0 0 rfl tysA0 rfl hd kk
  · have hat := (hP.1.1 a (by rw [hk]; omega) (by rw [hk]; omega)).2
    rw [cellOf_b hk] at hat
    exact va_alen hx hb hE.1 (sing hat) 0 1 rfl tysA1 rfl hd kk
  · obtain ⟨hX, hlt⟩ := hP.2.1.2.1 a hk
    have hbl : a < s.heap.size := by
      obtain ⟨scr, h1, -⟩ := hX
      exact (Array.getElem?_eq_some_iff.mp h1).1
    exact va_slen hx hb hX hbl (A := fun q => base ≤ q) (by omega) hP.2.2 hd kk
theorem r_iast (hx : p.tables.exec = Jvm.exec) (hb : c.code = cc) (hE : Env0 D dA base adK adV s) (hP : Pt0 D dA base adK s h H locs) {i x : Int32} (hd : decode cc pc = .ok (.iastore, 1)) (hk : hkd h a = 20) (hi : vp_in i (hln h a))
    (kk : ∀ (H1 : Heap) (locs1 : List Loc), Pt0 D dA base adK s (setI h (wr (hI h) a i.toNatClampNeg x)) H1 locs1 → W p l e R s m args below meth c H1 locs1 cells slots Q (F0 m (pc + 1) ls rest)) : W p l e R s m args below meth c H locs cells slots Q (F0 m pc ls (.int x :: .int i :: .ref a :: rest)) := by
  obtain ⟨hba, hat⟩ := hP.1.1 a (by rw [hk]; omega) (by rw [hk]; omega)
  rw [cellOf_i hk] at hat
  refine W.iast hx hb hat ((hE.1.2 0 _ tysA0).1 (hln h a) (fun j => .int (hI h a j))) (fun q => by cases q) (by show ¬ (i < 0 ∨ (arrV _ _ _).slots.size ≤ _); rw [arrV_size]; exact hi) (g := F0 m pc ls (.int x :: .int i :: .ref a :: rest)) rfl rfl hd fun H1 e z oq => ?_
  refine kk H1 _ (Pt0_put hP (ext_put (a := a) (by rw [hk]; omega) rfl rfl rfl rfl rfl (fun b hb => sd_wr_row hb)) hba (Rep_put hP.1 rfl rfl rfl rfl (fun b hb => ⟨sd_wr_row hb, rfl, rfl⟩) z oq ?_) z oq)
  rw [cellOf_i (h := setI h (wr (hI h) a i.toNatClampNeg x)) hk]
  show H1[a]? = some (vp_cell (dA 0) (hln h a, .inl (wr (hI h) a i.toNatClampNeg x a)))
  rw [e, wr_self]
  rw [vp_cell_i, vp_cell_i, arrV_store]
  congr 2
  funext q
  by_cases hq : q = i.toNatClampNeg
  · subst hq
    simp [updV, upd]
  · simp [updV, upd, hq]
theorem r_bast (hx : p.tables.exec = Jvm.exec) (hb : c.code = cc) (hE : Env0 D dA base adK adV s) (hP : Pt0 D dA base adK s h H locs) {i x : Int32} (hd : decode cc pc = .ok (.bastore, 1)) (hk : hkd h a = 21) (hi : vp_in i (hln h a))
    (kk : ∀ (H1 : Heap) (locs1 : List Loc), Pt0 D dA base adK s (setI h (wr (hI h) a i.toNatClampNeg x.toInt8.toInt32)) H1 locs1 → W p l e R s m args below meth c H1 locs1 cells slots Q (F0 m (pc + 1) ls rest)) : W p l e R s m args below meth c H locs cells slots Q (F0 m pc ls (.int x :: .int i :: .ref a :: rest)) := by
  obtain ⟨hba, hat⟩ := hP.1.1 a (by rw [hk]; omega) (by rw [hk]; omega)
  rw [cellOf_b hk] at hat
  refine W.bast hx hb hat ((hE.1.2 1 _ tysA1).1 (hln h a) (fun j => .int (hI h a j))) (fun q => by cases q) (by show ¬ (i < 0 ∨ (arrV _ _ _).slots.size ≤ _); rw [arrV_size]; exact hi) (g := F0 m pc ls (.int x :: .int i :: .ref a :: rest)) rfl rfl hd fun H1 e z oq => ?_
  refine kk H1 _ (Pt0_put hP (ext_put (a := a) (by rw [hk]; omega) rfl rfl rfl rfl rfl (fun b hb => sd_wr_row hb)) hba (Rep_put hP.1 rfl rfl rfl rfl (fun b hb => ⟨sd_wr_row hb, rfl, rfl⟩) z oq ?_) z oq)
  rw [cellOf_b (h := setI h (wr (hI h) a i.toNatClampNeg x.toInt8.toInt32)) hk]
  show H1[a]? = some (vp_cell (dA 1) (hln h a, .inl (wr (hI h) a i.toNatClampNeg x.toInt8.toInt32 a)))
  rw [e, wr_self, ← vp_nar_byte]
  rw [vp_cell_i, vp_cell_i, arrV_store]
  congr 2
  funext q
  by_cases hq : q = i.toNatClampNeg
  · subst hq
    simp [updV, upd, vp_nar]
    try rfl
  · simp [updV, upd, hq]
theorem r_last (hx : p.tables.exec = Jvm.exec) (hb : c.code = cc) (hE : Env0 D dA base adK adV s) (hP : Pt0 D dA base adK s h H locs) {i : Int32} {x : Int64} (hd : decode cc pc = .ok (.lastore, 1)) (hk : hkd h a = 22) (hi : vp_in i (hln h a))
    (kk : ∀ (H1 : Heap) (locs1 : List Loc), Pt0 D dA base adK s (setJ h (wr (hJ h) a i.toNatClampNeg x)) H1 locs1 → W p l e R s m args below meth c H1 locs1 cells slots Q (F0 m (pc + 1) ls rest)) : W p l e R s m args below meth c H locs cells slots Q (F0 m pc ls (.long x :: .int i :: .ref a :: rest)) := by
  obtain ⟨hba, hat⟩ := hP.1.1 a (by rw [hk]; omega) (by rw [hk]; omega)
  rw [cellOf_l hk] at hat
  refine W.last hx hb hat ((hE.1.2 2 _ tysA2).1 (hln h a) (fun j => .long (hJ h a j))) (fun q => by cases q) (by show ¬ (i < 0 ∨ (arrV _ _ _).slots.size ≤ _); rw [arrV_size]; exact hi) (g := F0 m pc ls (.long x :: .int i :: .ref a :: rest)) rfl rfl hd fun H1 e z oq => ?_
  refine kk H1 _ (Pt0_put hP (ext_put (a := a) (by rw [hk]; omega) rfl rfl rfl rfl rfl (fun b hb => rfl)) hba (Rep_put hP.1 rfl rfl rfl rfl (fun b hb => ⟨rfl, sd_wr_row hb, rfl⟩) z oq ?_) z oq)
  rw [cellOf_l (h := setJ h (wr (hJ h) a i.toNatClampNeg x)) hk]
  show H1[a]? = some (vp_cell (dA 2) (hln h a, .inr (.inl (wr (hJ h) a i.toNatClampNeg x a))))
  rw [e, wr_selfL]
  rw [vp_cell_l, vp_cell_l, arrV_store]
  congr 2
  funext q
  by_cases hq : q = i.toNatClampNeg
  · subst hq
    simp [updV, vp_updL]
  · simp [updV, vp_updL, hq]
theorem r_aast (hx : p.tables.exec = Jvm.exec) (hb : c.code = cc) (hE : Env0 D dA base adK adV s) (hP : Pt0 D dA base adK s h H locs) {i : Int32} {x : Nat} (hd : decode cc pc = .ok (.aastore, 1)) (hk : hkd h a = 23) (hkx : hkd h x = 2) (hi : vp_in i (hln h a))
    (kk : ∀ (H1 : Heap) (locs1 : List Loc), Pt0 D dA base adK s (setR h (wr (hrm h) a i.toNatClampNeg (some x))) H1 locs1 → W p l e R s m args below meth c H1 locs1 cells slots Q (F0 m (pc + 1) ls rest)) : W p l e R s m args below meth c H locs cells slots Q (F0 m pc ls (.ref x :: .int i :: .ref a :: rest)) := by
  obtain ⟨hba, hat⟩ := hP.1.1 a (by rw [hk]; omega) (by rw [hk]; omega)
  rw [cellOf_q hk] at hat
  have hax := (hP.1.1 x (by rw [hkx]; omega) (by rw [hkx]; omega)).2
  rw [cellOf_o (c := 1) hkx (by decide)] at hax
  have hlt : i.toNatClampNeg < hln h a := Nat.not_le.mp fun q => hi (Or.inr q)
  have h0 : ¬ i < 0 := fun q => hi (Or.inl q)
  obtain ⟨r', hr', cellV, g1, g2, g3, -⟩ := hax
  have hcls := (hE.1.1 1 _ (clss_at (c := 1) (by decide))).2
  obtain ⟨kA, comp, k1, k2, k3, -⟩ := (hE.1.2 3 _ tysA3).2
  have hcomp : comp = D.1 1 := Option.some.inj (k3.symm.trans hcls.1)
  subst hcomp
  obtain ⟨kC, hkC, -⟩ := hcls.2
  refine W.aast hx hb hat (fun q h => by cases h) (fun h => by cases h) k1 k2 rfl hkC ⟨h0, by show _ < (arrV _ _ _).slots.size; rw [arrV_size]; exact hlt⟩ g1 (fun q h => by rw [g3] at h; cases h) (by rw [g2]; exact hkC) (by rw [g2]; exact va_assign hcls) (g := F0 m pc ls (.ref x :: .int i :: .ref a :: rest)) rfl rfl hd fun H1 e z oq => ?_
  refine kk H1 _ (Pt0_put hP (ext_put (a := a) (by rw [hk]; omega) rfl rfl rfl rfl rfl (fun b hb => rfl)) hba (Rep_put hP.1 rfl rfl rfl rfl (fun b hb => ⟨rfl, rfl, sd_wr_row hb⟩) z oq ?_) z oq)
  rw [cellOf_q (h := setR h (wr (hrm h) a i.toNatClampNeg (some x))) hk]
  show H1[a]? = some (vp_cell (dA 3) (hln h a, .inr (.inr (.inr (.inr (wr (hrm h) a i.toNatClampNeg (some x) a))))))
  rw [e, wr_selfR]
  rw [vp_cell_q, vp_cell_q, arrV_store]
  congr 2
  funext q
  by_cases hq : q = i.toNatClampNeg
  · subst hq
    simp [updV, va_up, va_rf]
  · simp [updV, va_up, hq]
end HEAP

/-! What is made: objects, arrays; arraycopy; a throw. -/
theorem gw_aInt : Cond.arrayClass .int ∈ GW := gw_at 253 (by decide +kernel) rfl
theorem gw_aByte : Cond.arrayClass .byte ∈ GW := gw_at 390 (by decide +kernel) rfl
theorem gw_aLong : Cond.arrayClass .long ∈ GW := gw_at 1798 (by decide +kernel) rfl
theorem gw_cpNat : Cond.native arraycopyName ∈ GW := gw_at 569 (by decide +kernel) rfl
theorem gw_cpStat : Cond.static arraycopyName ∈ GW := gw_at 568 (by decide +kernel) rfl
theorem gw_cpIni : Cond.initialized "java/lang/System" ∈ GW := gw_at 111 (by decide +kernel) rfl
theorem gw_exIni : ∀ e, e < 2 → Cond.initialized (exN e) ∈ GW := fun e he => by
  match e, he with
  | 0, _ => exact gw_at 105 (by decide +kernel) rfl
  | 1, _ => exact gw_at 112 (by decide +kernel) rfl
theorem va_up_s {α : Type} {f : Nat → α} {k : Nat} {v : α} : va_up f k v k = v := by simp [va_up]
theorem va_up_n {α : Type} {f : Nat → α} {k j : Nat} {v : α} (h : j ≠ k) : va_up f k v j = f j := by simp [va_up, h]
theorem Rep_new {D : va_G} {dA : Nat → ClassId} {base : Nat} {h h' : hp} {H H1 : Heap} {k : Nat} (hR : Rep D dA base h H) (hx : hex h = true) (hk0 : k ≠ 0) (hk : hkd h' = va_up (hkd h) (hsz h) k) (hz : hsz h' = hsz h + 1) (he : hex h' = hex h)
    (hi : ∀ b, b ≠ hsz h → hln h' b = hln h b ∧ hI h' b = hI h b ∧ hJ h' b = hJ h b ∧ hrm h' b = hrm h b) (z : H1.size = H.size + 1) (oq : ∀ q, q < H.size → H1[q]? = H[q]?) (hb : base ≤ hsz h) (hc : va_at D clss (hsz h, cellOf dA h' (hsz h)) H1) : Rep D dA base h' H1 := by
  have hs := hR.2.1 hx
  refine ⟨fun b k1 k2 => ?_, fun _ => by rw [z, hz, hs], fun b hb2 => ?_⟩
  · by_cases e : b = hsz h
    · subst e; exact ⟨hb, hc⟩
    · have ek : hkd h' b = hkd h b := by rw [hk]; simp [va_up, e]
      rw [ek] at k1 k2
      obtain ⟨h1, h2⟩ := hR.1 b k1 k2
      obtain ⟨e1, e2, e3, e4⟩ := hi b e
      refine ⟨h1, ?_⟩
      rw [cellOf_same (h := h) ek e1 e2 e3 e4]
      exact h2.kept (oq b h2.lt)
  · rw [hk]
    have : b ≠ hsz h := by omega
    simp [va_up, this]
    exact hR.2.2 b (by omega)
theorem ext_new {h h' : hp} {k : Nat} (hk1 : k < 30) (hk : hkd h' = va_up (hkd h) (hsz h) k) (hz : hsz h ≤ hsz h') (hl : hsl h ≤ hsl h') (hs : hsa h' = hsa h) (hi : ∀ b, b ≠ hsz h → hln h' b = hln h b ∧ hI h' b = hI h b) : ext h h' := by
  refine ⟨hz, hl, hs, fun b hb => ?_⟩
  rw [hk] at hb ⊢
  by_cases e : b = hsz h
  · subst e
    simp [va_up] at hb
    omega
  · obtain ⟨e1, e2⟩ := hi b e
    exact ⟨by simp [va_up, e], e1.symm, e2.symm⟩
theorem va_S_new {base : Nat} {H0 H H1 : Heap} {locs : List Loc} (hS : va_S (fun q => base ≤ q) H0 H locs) (z : H1.size = H.size + 1) (oq : ∀ q, q < H.size → H1[q]? = H[q]?) : va_S (fun q => base ≤ q) H0 H1 locs :=
  ⟨by have := hS.1; omega, fun q h1 h2 => (oq q (Nat.lt_of_lt_of_le h1 hS.1)).trans (hS.2.1 q h1 h2), hS.2.2⟩
section MAKE
variable {p : Program} {l : Launch} {e : Env} {R : Room} {s : State} {m : MethodId} {args : Array Value} {below : List Frame} {meth : Method} {c : Code} {H : Heap} {locs : List Loc} {cells slots : Nat} {Q : State → Prop}
variable {cc : ByteArray} {pc n nL o : Nat} {ls : Array Slot} {rest : List Value} {D : va_G} {dA : Nat → ClassId} {base : Nat} {adK adV : Nat → Nat} {h : hp} {a : Nat}
theorem r_new (hx : p.tables.exec = Jvm.exec) (hb : c.code = cc) (hown : s.vm.findClass (cn o) = some m.cls) (hts : ∀ w ∈ GW, w.before args s = true) (hE : Env0 D dA base adK adV s) (hP : Pt0 D dA base adK s h H locs) {k ci : Nat} (hC : inT3 tabC o k ci = true) (hci : ci < 10) (hd : decode cc pc = .ok (.new k, 3)) (he : hex h = true)
    (hce : cells + 1 ≤ R.cells) (hsL : slots + nf ci ≤ R.slots)
    (kk : ∀ H1 : Heap, Pt0 D dA base adK s (hnew h (ci + 1) (nf ci)) H1 locs → W p l e R s m args below meth c H1 locs (cells + 1) (slots + nf ci) Q (F0 m (pc + 3) ls (.ref (hsz h) :: rest))) : W p l e R s m args below meth c H locs cells slots Q (F0 m pc ls rest) := by
  have hc := clss_at hci
  have hKn := hE.1.1 ci _ hc
  have hs := hP.1.2.1 he
  have hIs : ci ∈ tabIs.map Prod.fst := by
    have : ∀ c, c < 10 → c ∈ tabIs.map Prod.fst := by decide
    exact this ci hci
  have hIn : ci ∈ tabIn.map Prod.fst := by
    have : ∀ c, c < 10 → c ∈ tabIn.map Prod.fst := by decide
    exact this ci hci
  refine W.newcK hx hb hown (hts _ (tabC_ok _ (inT3_mem hC))) (hts _ (tabIs_ok ci hIs)) (hts _ (tabIn_ok ci hIn)) (g := F0 m pc ls rest) rfl hd hce hsL hKn.2.1 hs fun H1 kC hkC e1 z1 o1 => ?_
  have hbs : base ≤ hsz h := by have := hE.2.2.2.2.2.2.2.2.1; have := hP.2.2.1; omega
  refine kk H1 ⟨Rep_new (k := ci + 1) hP.1 he (by omega) rfl rfl rfl (fun b hb => ⟨rfl, wrow_row hb, wrow_row hb, wrow_row hb⟩) (by rw [hs]; exact z1) (fun q hq => o1 q (by rw [← hs]; exact hq)) hbs ?_, Pas_ext (ext_new (k := ci + 1) (by omega) rfl (by show hsz h ≤ hsz h + 1; omega) (by show hsl h ≤ hsl h + nf ci; omega) rfl (fun b hb => ⟨rfl, wrow_row hb⟩)) hP.2.1, va_S_new hP.2.2 (by rw [hs]; exact z1) (fun q hq => o1 q (by rw [← hs]; exact hq))⟩
  rw [cellOf_o (h := hnew h (ci + 1) (nf ci)) (a := hsz h) (c := ci) va_up_s hci]
  refine ⟨_, hc, (u_born (tyT ci) hts (lay_ok hci) hKn hkC e1 (fun k hk => (fd_ok ci hci k hk).2.2.1)).to (fun j hj => ?_)⟩
  rw [fld_defl (hnew h (ci + 1) (nf ci)) (hsz h) j (tyT ci j) (fd_ok ci hci j hj).2.2.2 (congrFun wrow_self j) (congrFun wrow_self j) (congrFun wrow_self j)]
  simp [vp_V, flds_at hj]
theorem r_new_int (hx : p.tables.exec = Jvm.exec) (hb : c.code = cc) (hts : ∀ w ∈ GW, w.before args s = true) (hE : Env0 D dA base adK adV s) (hP : Pt0 D dA base adK s h H locs) (hd : decode cc pc = .ok (.newarray .int, 2)) (he : hex h = true) {x : Int32} (hx0 : ¬ x < 0) (hx1 : x.toNatClampNeg ≤ 4096)
    (hce : cells + 1 ≤ R.cells) (hsL : slots + x.toNatClampNeg ≤ R.slots)
    (kk : ∀ H1 : Heap, Pt0 D dA base adK s (hnewa h 20 x.toNatClampNeg) H1 locs → W p l e R s m args below meth c H1 locs (cells + 1) (slots + x.toNatClampNeg) Q (F0 m (pc + 2) ls (.ref (hsz h) :: rest))) : W p l e R s m args below meth c H locs cells slots Q (F0 m pc ls (.int x :: rest)) := by
  have hs := hP.1.2.1 he
  refine va_newaK (atype := .int) hx hb (hts _ gw_aInt) (g := F0 m pc ls (.int x :: rest)) rfl hd rfl hx0 rfl (Nat.le_trans (Nat.mul_le_mul hx1 (Nat.le_refl _)) (by decide)) hce hsL hs fun H1 cA e1 z1 o1 hAr hNm => ?_
  have hcA : cA = dA 0 := Option.some.inj (hNm.symm.trans (hE.1.2 0 _ tysA0).2)
  subst hcA
  have hbs : base ≤ hsz h := by have := hE.2.2.2.2.2.2.2.2.1; have := hP.2.2.1; omega
  refine kk H1 ⟨Rep_new (k := 20) hP.1 he (by omega) rfl rfl rfl (fun b hb => ⟨va_up_n hb, wrow_row hb, wrow_row hb, wrow_row hb⟩) (by rw [hs]; exact z1) (fun q hq => o1 q (by rw [← hs]; exact hq)) hbs ?_, Pas_ext (ext_new (k := 20) (by omega) rfl (by show hsz h ≤ hsz h + 1; omega) (by show hsl h ≤ hsl h + _; omega) rfl (fun b hb => ⟨va_up_n hb, wrow_row hb⟩)) hP.2.1, va_S_new hP.2.2 (by rw [hs]; exact z1) (fun q hq => o1 q (by rw [← hs]; exact hq))⟩
  rw [cellOf_i (h := hnewa h 20 x.toNatClampNeg) (a := hsz h) va_up_s]
  show H1[hsz h]? = some (vp_cell (dA 0) (va_up (hln h) (hsz h) x.toNatClampNeg (hsz h), .inl (wrow (hI h) (hsz h) (fun _ => 0) (hsz h))))
  rw [e1, va_up_s, wrow_self]
  rfl
theorem r_new_byte (hx : p.tables.exec = Jvm.exec) (hb : c.code = cc) (hts : ∀ w ∈ GW, w.before args s = true) (hE : Env0 D dA base adK adV s) (hP : Pt0 D dA base adK s h H locs) (hd : decode cc pc = .ok (.newarray .byte, 2)) (he : hex h = true) {x : Int32} (hx0 : ¬ x < 0) (hx1 : x.toNatClampNeg ≤ 4096)
    (hce : cells + 1 ≤ R.cells) (hsL : slots + x.toNatClampNeg ≤ R.slots)
    (kk : ∀ H1 : Heap, Pt0 D dA base adK s (hnewa h 21 x.toNatClampNeg) H1 locs → W p l e R s m args below meth c H1 locs (cells + 1) (slots + x.toNatClampNeg) Q (F0 m (pc + 2) ls (.ref (hsz h) :: rest))) : W p l e R s m args below meth c H locs cells slots Q (F0 m pc ls (.int x :: rest)) := by
  have hs := hP.1.2.1 he
  refine va_newaK (atype := .byte) hx hb (hts _ gw_aByte) (g := F0 m pc ls (.int x :: rest)) rfl hd rfl hx0 rfl (Nat.le_trans (Nat.mul_le_mul hx1 (Nat.le_refl _)) (by decide)) hce hsL hs fun H1 cA e1 z1 o1 hAr hNm => ?_
  have hcA : cA = dA 1 := Option.some.inj (hNm.symm.trans (hE.1.2 1 _ tysA1).2)
  subst hcA
  have hbs : base ≤ hsz h := by have := hE.2.2.2.2.2.2.2.2.1; have := hP.2.2.1; omega
  refine kk H1 ⟨Rep_new (k := 21) hP.1 he (by omega) rfl rfl rfl (fun b hb => ⟨va_up_n hb, wrow_row hb, wrow_row hb, wrow_row hb⟩) (by rw [hs]; exact z1) (fun q hq => o1 q (by rw [← hs]; exact hq)) hbs ?_, Pas_ext (ext_new (k := 21) (by omega) rfl (by show hsz h ≤ hsz h + 1; omega) (by show hsl h ≤ hsl h + _; omega) rfl (fun b hb => ⟨va_up_n hb, wrow_row hb⟩)) hP.2.1, va_S_new hP.2.2 (by rw [hs]; exact z1) (fun q hq => o1 q (by rw [← hs]; exact hq))⟩
  rw [cellOf_b (h := hnewa h 21 x.toNatClampNeg) (a := hsz h) va_up_s]
  show H1[hsz h]? = some (vp_cell (dA 1) (va_up (hln h) (hsz h) x.toNatClampNeg (hsz h), .inl (wrow (hI h) (hsz h) (fun _ => 0) (hsz h))))
  rw [e1, va_up_s, wrow_self]
  rfl
theorem r_new_long (hx : p.tables.exec = Jvm.exec) (hb : c.code = cc) (hts : ∀ w ∈ GW, w.before args s = true) (hE : Env0 D dA base adK adV s) (hP : Pt0 D dA base adK s h H locs) (hd : decode cc pc = .ok (.newarray .long, 2)) (he : hex h = true) {x : Int32} (hx0 : ¬ x < 0) (hx1 : x.toNatClampNeg ≤ 4096)
    (hce : cells + 1 ≤ R.cells) (hsL : slots + x.toNatClampNeg ≤ R.slots)
    (kk : ∀ H1 : Heap, Pt0 D dA base adK s (hnewa h 22 x.toNatClampNeg) H1 locs → W p l e R s m args below meth c H1 locs (cells + 1) (slots + x.toNatClampNeg) Q (F0 m (pc + 2) ls (.ref (hsz h) :: rest))) : W p l e R s m args below meth c H locs cells slots Q (F0 m pc ls (.int x :: rest)) := by
  have hs := hP.1.2.1 he
  refine va_newaK (atype := .long) hx hb (hts _ gw_aLong) (g := F0 m pc ls (.int x :: rest)) rfl hd rfl hx0 rfl (Nat.le_trans (Nat.mul_le_mul hx1 (Nat.le_refl _)) (by decide)) hce hsL hs fun H1 cA e1 z1 o1 hAr hNm => ?_
  have hcA : cA = dA 2 := Option.some.inj (hNm.symm.trans (hE.1.2 2 _ tysA2).2)
  subst hcA
  have hbs : base ≤ hsz h := by have := hE.2.2.2.2.2.2.2.2.1; have := hP.2.2.1; omega
  refine kk H1 ⟨Rep_new (k := 22) hP.1 he (by omega) rfl rfl rfl (fun b hb => ⟨va_up_n hb, wrow_row hb, wrow_row hb, wrow_row hb⟩) (by rw [hs]; exact z1) (fun q hq => o1 q (by rw [← hs]; exact hq)) hbs ?_, Pas_ext (ext_new (k := 22) (by omega) rfl (by show hsz h ≤ hsz h + 1; omega) (by show hsl h ≤ hsl h + _; omega) rfl (fun b hb => ⟨va_up_n hb, wrow_row hb⟩)) hP.2.1, va_S_new hP.2.2 (by rw [hs]; exact z1) (fun q hq => o1 q (by rw [← hs]; exact hq))⟩
  rw [cellOf_l (h := hnewa h 22 x.toNatClampNeg) (a := hsz h) va_up_s]
  show H1[hsz h]? = some (vp_cell (dA 2) (va_up (hln h) (hsz h) x.toNatClampNeg (hsz h), .inr (.inl (wrow (hJ h) (hsz h) (fun _ => 0) (hsz h)))))
  rw [e1, va_up_s, wrow_self]
  rfl
theorem r_anew (hx : p.tables.exec = Jvm.exec) (hb : c.code = cc) (hown : s.vm.findClass (cn o) = some m.cls) (hts : ∀ w ∈ GW, w.before args s = true) (hE : Env0 D dA base adK adV s) (hP : Pt0 D dA base adK s h H locs) {k : Nat} (hC : inT3 tabC o k 1 = true) (hd : decode cc pc = .ok (.anewarray k, 3)) (he : hex h = true) {x : Int32} (hx0 : ¬ x < 0) (hx1 : x.toNatClampNeg ≤ 4096)
    (hce : cells + 1 ≤ R.cells) (hsL : slots + x.toNatClampNeg ≤ R.slots)
    (kk : ∀ H1 : Heap, Pt0 D dA base adK s (hnewa h 23 x.toNatClampNeg) H1 locs → W p l e R s m args below meth c H1 locs (cells + 1) (slots + x.toNatClampNeg) Q (F0 m (pc + 3) ls (.ref (hsz h) :: rest))) : W p l e R s m args below meth c H locs cells slots Q (F0 m pc ls (.int x :: rest)) := by
  have hs := hP.1.2.1 he
  refine W.anew hx hb hown (hts _ (tabC_ok _ (inT3_mem hC))) (va_AO.use hE.2.2.2.2.2.2.2.2.2.1) (g := F0 m pc ls (.int x :: rest)) rfl hd rfl hx0 (Nat.le_trans (Nat.mul_le_mul hx1 (Nat.le_refl _)) (by decide)) hce hsL fun cA kA comp f1 f2 f3 f4 => ?_
  generalize hH1 : H.push ({ cls := cA, slots := Array.replicate x.toNatClampNeg .null, vm := .none } : Cell) = H1
  have z1 : H1.size = H.size + 1 := by rw [← hH1, Array.size_push]
  have e1 : H1[H.size]? = some (arrV cA x.toNatClampNeg (fun _ => .null)) := by rw [← hH1, Array.getElem?_push_size, ← arrV_new]
  have o1 : ∀ q : Nat, q < H.size → H1[q]? = H[q]? := fun q hq => by rw [← hH1, Array.getElem?_push, if_neg (Nat.ne_of_lt hq)]
  obtain ⟨kA', comp', g1, g2, g3, g4⟩ := (hE.1.2 3 _ tysA3).2
  have hcA : cA = dA 3 := Option.some.inj (f1.symm.trans g4)
  subst hcA
  have hbs : base ≤ hsz h := by have := hE.2.2.2.2.2.2.2.2.1; have := hP.2.2.1; omega
  have hkk := kk H1 ⟨Rep_new (k := 23) hP.1 he (by omega) rfl rfl rfl (fun b hb => ⟨va_up_n hb, wrow_row hb, wrow_row hb, wrow_row hb⟩) z1 o1 hbs (by
    rw [cellOf_q (h := hnewa h 23 x.toNatClampNeg) (a := hsz h) va_up_s]
    show H1[hsz h]? = some (vp_cell (dA 3) (va_up (hln h) (hsz h) x.toNatClampNeg (hsz h), .inr (.inr (.inr (.inr (wrow (hrm h) (hsz h) (fun _ => none) (hsz h)))))))
    rw [va_up_s, wrow_self, ← hs, e1]
    rfl), Pas_ext (ext_new (k := 23) (by omega) rfl (by show hsz h ≤ hsz h + 1; omega) (by show hsl h ≤ hsl h + _; omega) rfl (fun b hb => ⟨va_up_n hb, wrow_row hb⟩)) hP.2.1, va_S_new hP.2.2 z1 o1⟩
  rw [← hs] at hkk
  exact hkk
/-- arraycopy between rows of ints -/
theorem r_copy (hx : p.tables.exec = Jvm.exec) (hb : c.code = cc) (hml : c.maxLocals = ls.size) (hown : s.vm.findClass (cn o) = some m.cls) (hts : ∀ w ∈ GW, w.before args s = true) (hE : Env0 D dA base adK adV s) (hP : Pt0 D dA base adK s h H locs) {k b : Nat} (hC : inT tabP_arraycopy o k = true) (hd : decode cc pc = .ok (.invokestatic k, 3))
    (ha : hkd h a = 20) (hkb : hkd h b = 20) {sp dp q : Int32} (h1 : ¬ sp < 0) (h2 : ¬ dp < 0) (h3 : ¬ q < 0) (h4 : sp.toNatClampNeg + q.toNatClampNeg ≤ hln h a) (h5 : dp.toNatClampNeg + q.toNatClampNeg ≤ hln h b) (hF : 1 ≤ R.frames) (hLo : (rest.map fun v => v.category).sum + (nativeFrameWords "java/lang/System" "arraycopy" 5 + 11) ≤ R.locals)
    (kk : ∀ (H1 : Heap) (locs1 : List Loc), Pt0 D dA base adK s (setI h (wrow (hI h) b (va_cpy (hI h a) (hI h b) sp.toNatClampNeg dp.toNatClampNeg q.toNatClampNeg))) H1 locs1 → W p l e R s m args below meth c H1 locs1 cells slots Q (F0 m (pc + 3) ls rest)) : W p l e R s m args below meth c H locs cells slots Q (F0 m pc ls (.int q :: .int dp :: .ref b :: .int sp :: .ref a :: rest)) := by
  have nn : ∀ z : Int32, ¬ z < 0 → z.toInt = (z.toNatClampNeg : Int) := by
    intro z hz
    have hz0 : (0 : Int) ≤ z.toInt := by
      have := Int32.not_lt.mp hz
      simpa using Int32.le_iff_toInt_le.mp this
    show z.toInt = ((z.toInt.toNat : Nat) : Int)
    omega
  obtain ⟨-, hat⟩ := hP.1.1 a (by rw [ha]; omega) (by rw [ha]; omega)
  obtain ⟨hba, hbt⟩ := hP.1.1 b (by rw [hkb]; omega) (by rw [hkb]; omega)
  rw [cellOf_i ha] at hat
  rw [cellOf_i hkb] at hbt
  intro T hT X
  have hc0 : H[a]? = some (vp_cell (dA 0) (hln h a, .inl (hI h a))) := hat
  have hc1 : H[b]? = some (vp_cell (dA 0) (hln h b, .inl (hI h b))) := hbt
  obtain ⟨-, k0, hk0, cm0, hkk0⟩ := (hE.1.2 0 _ tysA0).1 (hln h a) (fun j => .int (hI h a j))
  obtain ⟨-, k1, hk1, cm1, hkk1⟩ := (hE.1.2 0 _ tysA0).1 (hln h b) (fun j => .int (hI h b j))
  obtain ⟨vm', X', step⟩ := X.arraycopy hx hown (hts _ (tabP_arraycopy_ok _ (inT_mem hC))) (hts _ gw_cpNat) (hts _ gw_cpStat) (hts _ gw_cpIni) (src := a) (dst := b) (cs := vp_cell (dA 0) (hln h a, .inl (hI h a))) (cd := vp_cell (dA 0) (hln h b, .inl (hI h b))) (srcPos := sp) (destPos := dp) (n := q) (by rw [hT]; exact hc0) (by rw [hT]; exact hc1)
    (fun _ h => by cases h) (fun _ h => by cases h) (fun h => by cases h) (fun h => by cases h) hk0 hk1 hkk0 hkk1 (by simp [refKind]) h1 h2 h3
    (by rw [nn sp h1, nn q h3]; show ¬ _ > ((arrV (dA 0) (hln h a) (fun j => .int (hI h a j))).slots.size : Int); rw [arrV_size]; omega)
    (by rw [nn dp h2, nn q h3]; show ¬ _ > ((arrV (dA 0) (hln h b) (fun j => .int (hI h b j))).slots.size : Int); rw [arrV_size]; omega)
    (fun vm₁ _ i hi => by
      have e : (vp_cell (dA 0) (hln h a, .inl (hI h a))).slots.getD (sp.toNatClampNeg + i) .null = .int (hI h a (sp.toNatClampNeg + i)) := by
        show (arrV (dA 0) (hln h a) (fun j => .int (hI h a j))).slots.getD _ _ = _
        rw [Array.getD_eq_getD_getElem?, arrV_read _ _ (by omega)]
        rfl
      refine ⟨?_, ?_⟩
      · rw [e]
        rfl
      · rw [e]
        exact trivial)
    (g := F0 m pc ls (.int q :: .int dp :: .ref b :: .int sp :: .ref a :: rest)) rfl (by rw [hml]) (rest := rest) rfl (by rw [hb]; exact hd) hF (by show 2 * 0 + _ + _ ≤ _; omega)
  have e1 : copied (vp_cell (dA 0) (hln h a, .inl (hI h a))) (vp_cell (dA 0) (hln h b, .inl (hI h b))) sp dp q = vp_cell (dA 0) (hln h b, .inl (va_cpy (hI h a) (hI h b) sp.toNatClampNeg dp.toNatClampNeg q.toNatClampNeg)) := va_copied (fun z => .int z) (dA 0) (dA 0) (hI h a) (hI h b) h4
  rw [e1] at X' step
  have hl : b < H.size := (Array.getElem?_eq_some_iff.mp hc1).1
  have hheap : ((T.setVm vm').setCell b (vp_cell (dA 0) (hln h b, .inl (va_cpy (hI h a) (hI h b) sp.toNatClampNeg dp.toNatClampNeg q.toNatClampNeg)))).heap = H.setIfInBounds b (vp_cell (dA 0) (hln h b, .inl (va_cpy (hI h a) (hI h b) sp.toNatClampNeg dp.toNatClampNeg q.toNatClampNeg))) := by rw [← hT]; rfl
  have oq : ∀ z : Nat, z ≠ b → (H.setIfInBounds b (vp_cell (dA 0) (hln h b, .inl (va_cpy (hI h a) (hI h b) sp.toNatClampNeg dp.toNatClampNeg q.toNatClampNeg))))[z]? = H[z]? := fun z hz => by simp [Array.getElem?_setIfInBounds, Ne.symm hz]
  have zz : (H.setIfInBounds b (vp_cell (dA 0) (hln h b, .inl (va_cpy (hI h a) (hI h b) sp.toNatClampNeg dp.toNatClampNeg q.toNatClampNeg)))).size = H.size := by simp
  obtain ⟨t, a1, b1⟩ := kk _ _ ⟨Rep_put (a := b) (h' := setI h (wrow (hI h) b (va_cpy (hI h a) (hI h b) sp.toNatClampNeg dp.toNatClampNeg q.toNatClampNeg))) hP.1 rfl rfl rfl rfl (fun z hz => ⟨wrow_row hz, rfl, rfl⟩) zz oq (by
      rw [cellOf_i (h := setI h (wrow (hI h) b (va_cpy (hI h a) (hI h b) sp.toNatClampNeg dp.toNatClampNeg q.toNatClampNeg))) (a := b) hkb]
      show (H.setIfInBounds b _)[b]? = some (vp_cell (dA 0) (hln h b, .inl (wrow (hI h) b (va_cpy (hI h a) (hI h b) sp.toNatClampNeg dp.toNatClampNeg q.toNatClampNeg) b)))
      rw [wrow_self]
      simp [Array.getElem?_setIfInBounds, hl]), Pas_ext (ext_put (h := h) (a := b) (by rw [hkb]; omega) rfl rfl rfl rfl rfl (fun z hz => wrow_row hz)) hP.2.1, ⟨by rw [zz]; exact hP.2.2.1, fun z g1 g2 => by
      rw [oq z (fun e => g2 (by rw [e]; exact hba))]
      exact hP.2.2.2.1 z g1 g2, fun z hz => by
      rcases List.mem_append.mp hz with h | h
      · exact hP.2.2.2.2 z h
      · obtain ⟨y, -, hy⟩ := List.mem_map.mp h
        rw [← hy]
        exact hba⟩⟩ _ hheap X'
  exact ⟨t, step t a1, b1⟩
end MAKE

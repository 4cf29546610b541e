/-! String constants: length() and charAt(). -/
section STRS
variable {p : Program} {l : Launch} {e : Env} {R : Room} {s : State} {m : MethodId} {args : Array Value} {below : List Frame} {meth : Method} {c : Code} {H : Heap} {locs : List Loc} {cells slots : Nat} {Q : State → Prop}
variable {cc : ByteArray} {pc n nL o : Nat} {ls : Array Slot} {rest : List Value} {D : va_G} {dA : Nat → ClassId} {base : Nat} {adK adV : Nat → Nat} {h : hp} {a : Nat}
theorem r_slen (hx : p.tables.exec = Jvm.exec) (hb : c.code = cc) (hml : c.maxLocals = ls.size) (hown : s.vm.findClass (cn o) = some m.cls) (hts : ∀ w ∈ GW, w.before args s = true) (hE : Env0 D dA base adK adV s) (hP : Pt0 D dA base adK s h H locs) {k : Nat} (hC : inT tabP_length o k = true) (hd : decode cc pc = .ok (.invokevirtual k, 3)) (hk : hkd h a = 40) (h8 : (rest.map fun v => v.category).sum ≤ 8) (hF : 20 ≤ R.frames) (hLo : 400 ≤ R.locals) (hce : cells ≤ R.cells) (hsL : slots ≤ R.slots)
    (kk : W p l e R s m args below meth c H locs cells slots Q (F0 m (pc + 3) ls (.int (Int32.ofNat (hln h a)) :: rest))) : W p l e R s m args below meth c H locs cells slots Q (F0 m pc ls (.ref a :: rest)) := by
  sorry
theorem r_schar (hx : p.tables.exec = Jvm.exec) (hb : c.code = cc) (hml : c.maxLocals = ls.size) (hown : s.vm.findClass (cn o) = some m.cls) (hts : ∀ w ∈ GW, w.before args s = true) (hE : Env0 D dA base adK adV s) (hP : Pt0 D dA base adK s h H locs) {k : Nat} (hC : inT tabP_charAt o k = true) (hd : decode cc pc = .ok (.invokevirtual k, 3)) (hk : hkd h a = 40) {i : Int32} (hi : vp_in i (hln h a)) (h8 : (rest.map fun v => v.category).sum ≤ 8) (hF : 20 ≤ R.frames) (hLo : 400 ≤ R.locals) (hce : cells ≤ R.cells) (hsL : slots ≤ R.slots)
    (kk : W p l e R s m args below meth c H locs cells slots Q (F0 m (pc + 3) ls (.int (hI h a i.toNatClampNeg) :: rest))) : W p l e R s m args below meth c H locs cells slots Q (F0 m pc ls (.int i :: .ref a :: rest)) := by
  sorry
theorem r_ldcs (hx : p.tables.exec = Jvm.exec) (hb : c.code = cc) (hown : s.vm.findClass (cn o) = some m.cls) (hE : Env0 D dA base adK adV s) (hP : Pt0 D dA base adK s h H locs) {k q : Nat} (hC : strTab.any (fun z => Nat.beq z.1 o && (Nat.beq z.2.1 k && Nat.beq z.2.2 q)) = true) (hd : decode cc pc = .ok (.ldc k, 2))
    (kk : W p l e R s m args below meth c H locs cells slots Q (F0 m (pc + 2) ls (.ref (hsa h q) :: rest))) : W p l e R s m args below meth c H locs cells slots Q (F0 m pc ls rest) := by
  obtain ⟨z, hz, h1⟩ := List.any_eq_true.mp hC
  simp only [Bool.and_eq_true, Nat.beq_eq] at h1
  obtain ⟨rfl, rfl, rfl⟩ := h1
  have hq : z.2.2 < 7 := by
    have : ∀ z ∈ strTab, z.2.2 < 7 := by decide
    exact this z hz
  rw [hP.2.1.1 _ hq] at kk
  exact va_ldcS hx hb hown (hE.2.2.2.2.1 z hz) hd kk
end STRS

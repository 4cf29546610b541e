/-! String constants: length() and charAt(). -/
section STRS
variable {p : Program} {l : Launch} {e : Env} {R : Room} {s : State} {m : MethodId} {args : Array Value} {below : List Frame} {meth : Method} {c : Code} {H : Heap} {locs : List Loc} {cells slots : Nat} {Q : State → Prop}
variable {cc : ByteArray} {pc n nL o : Nat} {ls : Array Slot} {rest : List Value} {D : va_G} {dA : Nat → ClassId} {base : Nat} {adK adV : Nat → Nat} {h : hp} {a : Nat}
theorem r_ldcs (hx : p.tables.exec = Jvm.exec) (hb : c.code = cc) (hown : s.vm.findClass (cn o) = some m.cls) (hE : Env0 D dA base adK adV s) (hP : Pt0 D dA base adK s h H locs) {k q : Nat} (hC : strTab.any (fun z => Nat.beq z.1 o && (Nat.beq z.2.1 k && Nat.beq z.2.2 q)) = true) (hd : decode cc pc = .ok (.ldc k, 2))
    (kk : W p l e R s m args below meth c H locs cells slots Q (F0 m (pc + 2) ls (.ref (hsa h q) :: rest))) : W p l e R s m args below meth c H locs cells slots Q (F0 m pc ls rest) := by
  obtain ⟨z, hz, h1⟩ := List.any_eq_true.mp hC
  simp only [Bool.and_eq_true, Nat.beq_eq] at h1
  obtain ⟨rfl, rfl, rfl⟩ := h1
  have hq : z.2.2 < 7 := by
    have : ∀ z ∈ strTab, z.2.2 < 7 := by decide
    exact this z hz
  rw [hP.2.1.1 _ hq] at kk
  exact va_ldcS hx hb hown (hE.2.2.2.2.1 z hz) hd kk
end STRS

/-! The instructions, one by one. -/
section EXE
variable {j d pc n : Nat} {Q : oc → hp → Prop} {v : lvs} {st : List Value} {h : hp} {i r : Instr}
/-- behind a call that returned -/
theorem pp_call {pc' : Nat} {st' : List Value} {h2 : hp} (hx : ext h h2)
    (hs : ∀ (p : Program) (l : Launch) (e : Env) (R : Room) (s : State) (m : MethodId) (args : Array Value) (below : List Frame) (meth : Method) (c : Code) (H : Heap) (locs : List Loc) (ls : Array Slot) (D : va_G) (dA : Nat → ClassId) (base : Nat) (adK adV : Nat → Nat) (cells slots : Nat) (Qf : State → Prop),
      CX p l R s m args c (ccOf j) (clOf j) d D dA base adK adV ls → Pt0 D dA base adK s h H locs → cells + (hsz h2 - hsz h) ≤ R.cells ∧ slots + (hsl h2 - hsl h) ≤ R.slots → (∀ (H1 : Heap) (locs1 : List Loc), Pt0 D dA base adK s h2 H1 locs1 → W p l e R s m args below meth c H1 locs1 (cells + (hsz h2 - hsz h)) (slots + (hsl h2 - hsl h)) Qf (F0 m pc' ls st')) → W p l e R s m args below meth c H locs cells slots Qf (F0 m pc ls st)) (x : PP j d Q (pc', v, st', h2)) : PP j d Q (pc, v, st, h) := by
  refine PP_step x hx fun p l e R s m args below meth c H locs ls D dA base adK adV cells slots Qf hC hP h1 h2 hl kk => ?_
  obtain ⟨hx, hb, -, hml, hown, hts, -, -, hl2, hF, hLo, hE, -⟩ := hC
  have := rF d
  exact hs p l e R s m args below meth c H locs ls D dA base adK adV cells slots Qf ⟨⟨hx, hb, by rw [hml]; exact hl.2.1.symm, hown, hts⟩, hl2, by omega, by omega, hE⟩ hP ⟨h1, h2⟩ (fun H1 locs1 hP1 => kk H1 locs1 ls hP1 hl)
/-- behind a call that threw: it goes on to the caller -/
theorem pp_out {x : Nat} {rest : List Value} {h2 : hp} (hx : ext h h2) (hj : j < 274) (hh : hhOf j = []) (hq : Q (.inr x) h2)
    (hs : ∀ (p : Program) (l : Launch) (e : Env) (R : Room) (s : State) (m : MethodId) (args : Array Value) (below : List Frame) (meth : Method) (c : Code) (H : Heap) (locs : List Loc) (ls : Array Slot) (D : va_G) (dA : Nat → ClassId) (base : Nat) (adK adV : Nat → Nat) (cells slots : Nat) (Qf : State → Prop),
      CX p l R s m args c (ccOf j) (clOf j) d D dA base adK adV ls → Pt0 D dA base adK s h H locs → cells + (hsz h2 - hsz h) ≤ R.cells ∧ slots + (hsl h2 - hsl h) ≤ R.slots → (∀ (ce : Cell) (q9 : Addr) (H1 : Heap) (locs1 : List Loc), Pt0 D dA base adK s h2 H1 locs1 → x < 2 → H1[q9]? = some ce → ce.vm = .none → s.vm.findClass (exN x) = some ce.cls → vx_W p l e R s m args below meth c H1 locs1 (cells + (hsz h2 - hsz h)) (slots + (hsl h2 - hsl h)) Qf (F0 m pc ls rest) q9) → W p l e R s m args below meth c H locs cells slots Qf (F0 m pc ls st)) : PP j d Q (pc, v, st, h) := by
  refine ⟨.inr x, h2, hq, hx, fun h0 p l e R s m args below meth c H locs ls D dA base adK adV hC hP he hc hsl hl => ?_⟩
  obtain ⟨hx', hb, -, hml, hown, hts, hlk, -, hl2, hF, hLo, hE, htab⟩ := hC
  have := rF d
  have e1 := he.1
  have e2 := hx.1
  have f1 := he.2.1
  have f2 := hx.2.1
  dsimp only at hP e1 f1 ⊢
  have hout : c.exceptionTable.toList = [] := by
    have hk := (hh_ok j hj).1
    rw [hh] at hk
    cases hr : rhOf j with
    | nil => rw [htab, hr]; rfl
    | cons a b => rw [hr] at hk; simp [hokL] at hk
  refine hs p l e R s m args below meth c H locs ls D dA base adK adV _ _ _ ⟨⟨hx', hb, by rw [hml]; exact hl.2.1.symm, hown, hts⟩, hl2, by omega, by omega, hE⟩ hP ⟨by omega, by omega⟩ (fun ce q9 H1 locs1 hP1 hx2 hce hcv hcl => ?_)
  exact vx_out (fun y hy => by rw [hout] at hy; exact absurd hy List.not_mem_nil) hlk hce hcv hcl (fun t ht _ => ⟨⟨rfl, hx2⟩, by rw [ht]; exact hP1.1, hP1.2.2.F ht⟩) hP1.2.2.2.2 (by omega) (by omega)
/-- .. it is caught here -/
theorem pp_catch {x t k : Nat} {rest : List Value} {h2 : hp} {v' : lvs} (hx : ext h h2) (hj : j < 274) (hf : hfd (hhOf j) pc x = some (t, k)) (hsto : sto v k .null = some v')
    (hs : ∀ (p : Program) (l : Launch) (e : Env) (R : Room) (s : State) (m : MethodId) (args : Array Value) (below : List Frame) (meth : Method) (c : Code) (H : Heap) (locs : List Loc) (ls : Array Slot) (D : va_G) (dA : Nat → ClassId) (base : Nat) (adK adV : Nat → Nat) (cells slots : Nat) (Qf : State → Prop),
      CX p l R s m args c (ccOf j) (clOf j) d D dA base adK adV ls → Pt0 D dA base adK s h H locs → cells + (hsz h2 - hsz h) ≤ R.cells ∧ slots + (hsl h2 - hsl h) ≤ R.slots → (∀ (ce : Cell) (q9 : Addr) (H1 : Heap) (locs1 : List Loc), Pt0 D dA base adK s h2 H1 locs1 → x < 2 → H1[q9]? = some ce → ce.vm = .none → s.vm.findClass (exN x) = some ce.cls → vx_W p l e R s m args below meth c H1 locs1 (cells + (hsz h2 - hsz h)) (slots + (hsl h2 - hsl h)) Qf (F0 m pc ls rest) q9) → W p l e R s m args below meth c H locs cells slots Qf (F0 m pc ls st)) (y : PP j d Q (t, v'.set k none, [], h2)) : PP j d Q (pc, v, st, h) := by
  refine PP_step y hx fun p l e R s m args below meth c H locs ls D dA base adK adV cells slots Qf hC hP h1 h2' hl kk => ?_
  obtain ⟨hx', hb, -, hml, hown, hts, hlk, -, hl2, hF, hLo, hE, htab⟩ := hC
  have := rF d
  have hcl10 : clOf j = 10 := (hh_ok j hj).2 (fun e => by
    have hk := (hh_ok j hj).1
    rw [e] at hk
    cases hr : hhOf j with
    | nil => rw [hr] at hf; simp [hfd] at hf
    | cons a b => rw [hr] at hk; simp [hokL] at hk)
  refine hs p l e R s m args below meth c H locs ls D dA base adK adV _ _ _ ⟨⟨hx', hb, by rw [hml]; exact hl.2.1.symm, hown, hts⟩, hl2, by omega, by omega, hE⟩ hP ⟨h1, h2'⟩ (fun ce q9 H1 locs1 hP1 hx2 hce hcv hcl => ?_)
  obtain ⟨pre, y, suf, e1, e2, e3, e4, e5, e6⟩ := hfd_split (cc := ccOf j) hE hts hx2 (hh_ok j hj).1 hf
  rw [hcl10] at hown
  refine vx_catch hown pre y suf (by rw [htab, e1]) e2 e3 e4 e5 (exCast hE hx2) hce hcv hcl ?_
  have hfin : ∀ ls', lv_has ls' (mxOf j) ((k, .ref q9) :: (lvl v).filter (fun q => !(q.1 == k) && !(q.1 + 1 == k && q.2.category == 2))) → lvR ls' (mxOf j) (v'.set k none) := by
    intro ls' hl'
    obtain ⟨s1, s2, s3, s4, s5⟩ := sto_spec hsto
    refine ⟨by rw [List.length_set, s1]; exact hl.1, hl'.1, hl'.2.1, fun q hq => hl'.2.2 q ?_⟩
    obtain ⟨w, u⟩ := q
    obtain ⟨g1, g2⟩ := lget_set_none (mem_lvl.mp hq)
    rw [s4 w g1] at g2
    refine List.mem_cons_of_mem _ (List.mem_filter.mpr ⟨mem_lvl.mpr g2, ?_⟩)
    simp only [Bool.and_eq_true, Bool.not_eq_true', beq_eq_false_iff_ne, ne_eq, Bool.and_eq_false_iff]
    refine ⟨g1, ?_⟩
    by_cases g3 : w + 1 = k
    · exact Or.inr (by rw [s5 w u g3 g2]; decide)
    · exact Or.inl g3
  have hkl : k < mxOf j := by have := (sto_spec hsto).2.1; have := hl.1; dsimp only at this; omega
  rcases e6 with ⟨d1, rfl⟩ | ⟨q, d1, rfl, rfl⟩
  · exact lv_astore hx' hb d1 hl.2 hkl rfl (fun ls' hl' => kk H1 locs1 ls' hP1 (hfin ls' hl'))
  · exact lv_astore_n hx' hb d1 rfl hl.2 hkl rfl (fun ls' hl' => kk H1 locs1 ls' hP1 (hfin ls' hl'))
end EXE

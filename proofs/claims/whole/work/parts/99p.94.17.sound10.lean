/-! Throws, handlers. -/
theorem gw_h0 : Cond.classLink (cn 10) 13 (exN 0) ∈ GW := gw_at 674 (by decide +kernel) rfl
theorem gw_h1 : Cond.classLink (cn 10) 18 (exN 1) ∈ GW := gw_at 873 (by decide +kernel) rfl
theorem ng_c0 : Cond.castable (exN 0) (exN 0) ∈ lw_tbl := List.mem_of_getElem? (i := 684) (by decide +kernel)
theorem ng_c1 : Cond.castable (exN 1) (exN 1) ∈ lw_tbl := List.mem_of_getElem? (i := 883) (by decide +kernel)
def cpE (cp : Nat) : Nat := if cp = 13 then 0 else 1
def hok1 (cc : ByteArray) (q : Nat × Nat × Nat × Nat × Nat) (r : Nat × Nat × Nat × Nat) : Bool := Nat.beq q.1 r.1 && (Nat.beq q.2.1 r.2.1 && ((Nat.beq r.2.2.2 13 || Nat.beq r.2.2.2 18) && (Nat.beq q.2.2.2.1 (cpE r.2.2.2) && match decode cc r.2.2.1 with
  | .ok (.astore k, 2) => Nat.beq k q.2.2.2.2 && Nat.beq (r.2.2.1 + 2) q.2.2.1
  | .ok (.astore_n k, 1) => Nat.beq k.val q.2.2.2.2 && Nat.beq (r.2.2.1 + 1) q.2.2.1
  | _ => false)))
def hokL (cc : ByteArray) : hndl → List (Nat × Nat × Nat × Nat) → Bool
  | [], [] => true
  | q :: x, r :: y => hok1 cc q r && hokL cc x y
  | _, _ => false
set_option maxRecDepth 100000 in
theorem hh_ok : ∀ j, j < 274 → hokL (ccOf j) (hhOf j) (rhOf j) = true ∧ (rhOf j ≠ [] → clOf j = 10) := by decide +kernel
section THR
variable {p : Program} {l : Launch} {e : Env} {R : Room} {s : State} {m : MethodId} {args : Array Value} {below : List Frame} {meth : Method} {c : Code} {H : Heap} {locs : List Loc} {cells slots : Nat} {Q : State → Prop}
variable {cc : ByteArray} {pc nL o d j k : Nat} {ls : Array Slot} {rest as : List Value} {D : va_G} {dA : Nat → ClassId} {base : Nat} {adK adV : Nat → Nat} {h h2 : hp}
theorem exLink {cp : Nat} (h : cp = 13 ∨ cp = 18) : Cond.classLink (cn 10) cp (exN (cpE cp)) ∈ GW := by
  rcases h with rfl | rfl
  · exact gw_h0
  · exact gw_h1
theorem exNc (hE : Env0 D dA base adK adV s) {x y : Nat} (hx : x < 2) (hy : y < 2) (hne : x ≠ y) : va_Nc (exN x) (exN y) s := by
  obtain ⟨-, -, -, -, -, -, -, -, -, -, h1, h2⟩ := hE
  rcases (show x = 0 ∨ x = 1 by omega) with rfl | rfl <;> rcases (show y = 0 ∨ y = 1 by omega) with rfl | rfl
  · exact absurd rfl hne
  · exact h1
  · exact h2
  · exact absurd rfl hne
theorem exCast (hE : Env0 D dA base adK adV s) {x : Nat} (hx : x < 2) : (Cond.castable (exN x) (exN x)).before args s = true := by
  obtain ⟨-, -, -, -, -, -, -, h8, -⟩ := hE
  match x, hx with
  | 0, _ => exact va_Nw.use rfl (h8 _ ng_c0 rfl)
  | 1, _ => exact va_Nw.use rfl (h8 _ ng_c1 rfl)
theorem cpE_lt (cp : Nat) : cpE cp < 2 := by unfold cpE; split <;> decide
/-- which row of the table takes it -/
theorem hfd_split (hE : Env0 D dA base adK adV s) (hts : ∀ w ∈ GW, w.before args s = true) {x t : Nat} (hx : x < 2) : ∀ {hs : hndl} {rs : List (Nat × Nat × Nat × Nat)}, hokL cc hs rs = true → hfd hs pc x = some (t, k) →
    ∃ (pre : List ExceptionTableEntry) (y : ExceptionTableEntry) (suf : List ExceptionTableEntry), tableOf rs = pre ++ y :: suf ∧ (∀ z ∈ pre, covers z pc = false ∨ (z.catchType ≠ 0 ∧ ∃ nm : String, (Cond.classLink (cn 10) z.catchType nm).before args s = true ∧ va_Nc (exN x) nm s)) ∧ covers y pc = true ∧ y.catchType ≠ 0 ∧ (Cond.classLink (cn 10) y.catchType (exN x)).before args s = true ∧
      ((decode cc y.handlerPc = .ok (.astore k, 2) ∧ t = y.handlerPc + 2) ∨ ∃ q : Fin 4, decode cc y.handlerPc = .ok (.astore_n q, 1) ∧ q.val = k ∧ t = y.handlerPc + 1)
  | [], rs, _, h => by simp [hfd] at h
  | (a, b, t0, e0, k0) :: hs, [], hk, _ => by simp [hokL] at hk
  | (a, b, t0, e0, k0) :: hs, (a1, b1, t1, cp) :: rs, hk, h => by
    unfold hokL at hk
    rw [Bool.and_eq_true] at hk
    obtain ⟨hk1, hk2⟩ := hk
    unfold hok1 at hk1
    dsimp only at hk1
    simp only [Bool.and_eq_true, Bool.or_eq_true, Nat.beq_eq] at hk1
    obtain ⟨rfl, rfl, hcp, rfl, hdec⟩ := hk1
    unfold hfd at h
    by_cases hb : (Nat.ble a pc && (Nat.blt pc b && Nat.beq (cpE cp) x)) = true
    · rw [hb] at h
      dsimp only at h
      cases h
      simp only [Bool.and_eq_true, Nat.ble_eq, Nat.beq_eq] at hb
      obtain ⟨g1, g2, rfl⟩ := hb
      have g2 : pc < b := Nat.le_of_ble_eq_true g2
      refine ⟨[], ⟨a, b, t1, cp⟩, tableOf rs, rfl, fun z hz => absurd hz List.not_mem_nil, by simp [covers, g1, g2], by show cp ≠ 0; omega, hts _ (exLink hcp), ?_⟩
      split at hdec
      · rename_i q hq
        rw [Bool.and_eq_true, Nat.beq_eq, Nat.beq_eq] at hdec
        obtain ⟨rfl, rfl⟩ := hdec
        exact Or.inl ⟨hq, rfl⟩
      · rename_i q hq
        rw [Bool.and_eq_true, Nat.beq_eq, Nat.beq_eq] at hdec
        obtain ⟨rfl, rfl⟩ := hdec
        exact Or.inr ⟨q, hq, rfl, rfl⟩
      · cases hdec
    · rw [Bool.not_eq_true] at hb
      rw [hb] at h
      dsimp only at h
      obtain ⟨pre, y, suf, e1, e2, e3⟩ := hfd_split hE hts hx hk2 h
      refine ⟨⟨a, b, t1, cp⟩ :: pre, y, suf, by show _ :: tableOf rs = _; rw [e1]; rfl, fun z hz => ?_, e3⟩
      rcases List.mem_cons.mp hz with rfl | hz
      · by_cases hc : covers ⟨a, b, t1, cp⟩ pc = true
        · refine Or.inr ⟨by show cp ≠ 0; omega, exN (cpE cp), hts _ (exLink hcp), exNc hE hx (cpE_lt cp) (fun q => ?_)⟩
          have : (Nat.ble a pc && (Nat.blt pc b && Nat.beq (cpE cp) x)) = true := by
            simp only [covers, Bool.and_eq_true, decide_eq_true_eq] at hc
            rw [Bool.and_eq_true, Bool.and_eq_true]
            refine ⟨Nat.ble_eq.mpr hc.1, Nat.ble_eq.mpr hc.2, Nat.beq_eq.mpr q.symm⟩
          rw [this] at hb
          cases hb
        · exact Or.inl (by simpa using hc)
      · exact e2 z hz
/-- a throw of the method's own -/
theorem r_throw {Qc : Array Value → State → Outcome → State → Prop} {x mc ms : Nat} (hx : p.tables.exec = Jvm.exec) (hb : c.code = cc) (hl : l.stackTraces = false) (hown : s.vm.findClass (cn 8) = some m.cls) (hts : ∀ w ∈ GW, w.before args s = true) (hE : Env0 D dA base adK adV s) (hP : Pt0 D dA base adK s h H locs) (hsize : ls.size = c.maxLocals) (hx2 : x < 2) (hC : inT3 tabE 8 k x = true)
    (d0 : decode cc pc = .ok (.new k, 3)) (d3 : decode cc (pc + 3) = .ok (.dup, 1)) (d4 : decode cc (pc + 4) = .ok (.invokespecial (exI x), 3)) (d7 : decode cc (pc + 7) = .ok (.athrow, 1)) (hout : c.exceptionTable.toList = []) (hF : 20 ≤ R.frames) (hLo : 400 ≤ R.locals) (hce : cells + 1 ≤ R.cells) (hsL : slots + 6 ≤ R.slots) (hlocks : meth.locks = false) (hmc : cells + 1 ≤ mc) (hms : slots + 6 ≤ ms) :
    W p l e R s m args below meth c H locs cells slots (vx_MQ below Qc (Xe D dA base (.inr x) (hexc h)) args s mc ms (fun q => base ≤ q)) (F0 m pc ls []) := by
  have hall := List.all_eq_true.mp (at0_ok x hx2)
  have hw : ∀ w ∈ vx_at0 (cn 8) (exI x) (exN x) upN, w.before args s = true ∧ vx_ot w = true := by
    intro w hw
    have h1 := hall w hw
    simp only [Bool.or_eq_true, Bool.and_eq_true, decide_eq_true_eq] at h1
    rcases h1 with ⟨g1, g2⟩ | ⟨g1, g2⟩
    · exact ⟨hts w (List.mem_filter.mpr ⟨g2, g1⟩), by simp [vx_ot, g1]⟩
    · exact ⟨va_Nw.use (ngW_tab g1) (hE.2.2.2.2.2.2.2.1 w g2 g1), by simp [vx_ot, ngW_tab g1]⟩
  have hlk : Cond.classLink (cn 8) k (exN x) ∈ GW := by
    have := tabE_ok _ (inT3_mem hC)
    exact this
  have hin := gw_exIni x hx2
  refine vx_throw0 (own := cn 8) (cls := exN x) (names := upN) (ik := k) (ic := exI x) (A := fun q => base ≤ q) hx hb hl hown ?_ (by decide) (hts _ hlk) (hts _ hin) (fun w h => (hw w h).1) (fun w h => ?_) hE.2.1 hE.2.2.1 hP.2.2 hsize d0 d3 d4 d7 (fun y hy => by rw [hout] at hy; exact absurd hy List.not_mem_nil) (by show 2 + 3 < R.frames; omega) (by show 0 + (13 * (2 + 1) + 42) ≤ R.locals; omega) hce hsL hlocks (fun t ht hz hq => ?_) hP.2.2.2.2 hmc hms
  · match x, hx2 with
    | 0, _ => decide
    | 1, _ => decide
  · rcases List.mem_cons.mp h with rfl | h
    · simp [vx_ot, gw_good _ hlk]
    · rcases List.mem_cons.mp h with rfl | h
      · simp [vx_ot, gw_good _ hin]
      · exact (hw w h).2
  · refine ⟨⟨rfl, hx2⟩, ⟨fun a k1 k2 => ?_, fun hf => (by cases hf), fun a ha => hP.1.2.2 a (by have : hsz h + 1 ≤ a := ha; omega)⟩, Nat.le_trans hP.2.2.1 hz, fun q h1 h2 => ?_⟩
    · obtain ⟨h3, h4⟩ := hP.1.1 a k1 k2
      exact ⟨h3, h4.kept (hq a h4.lt)⟩
    · rw [hq q (Nat.lt_of_lt_of_le h1 hP.2.2.1)]
      exact hP.2.2.2.1 q h1 h2
end THR

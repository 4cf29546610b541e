/-! What a heap of the smaller machine is in the JVM's; what holds at every method's start. -/
def ngW : Cond → Bool
  | .castable .. => true
  | .declares .. => true
  | .methodLinkNest .. => true
  | _ => false
def iaeN : String := "java/lang/IllegalArgumentException"
def nseN : String := "java/util/NoSuchElementException"
def exN (e : Nat) : String := if e = 0 then iaeN else nseN
def exI (e : Nat) : Nat := if e = 0 then 297 else 350
def upN : List String := ["java/lang/RuntimeException", "java/lang/Exception"]
set_option maxRecDepth 100000 in
theorem at0_ok : ∀ e, e < 2 → (vx_at0 (cn 8) (exI e) (exN e) upN).all (fun w => (goodWord w && decide (w ∈ lw_tbl)) || (ngW w && decide (w ∈ lw_tbl))) = true := by decide +kernel
theorem ngW_warm {w : Cond} (hw : ngW w = true) {s U : State} (hW : s.WarmedH U.vm) (h : va_Nw w s) : va_Nw w U := by
  cases w <;> first
    | (simp [ngW] at hw; done)
    | exact va_Nw.warmC hW h
    | exact va_Nw.warmD hW h
    | exact va_Nw.warmM hW h
theorem ngW_tab {w : Cond} (hw : ngW w = true) : w.onTables = true := by
  cases w <;> first | (simp [ngW] at hw; done) | rfl
def clss : List vw_C := (List.range 10).map fun c => (cn c, TT c, nf c)
theorem clss_at {c : Nat} (h : c < 10) : clss[c]? = some (cn c, TT c, nf c) := by
  unfold clss
  rw [List.getElem?_map, List.getElem?_range h]
  rfl
theorem clss_of {c : Nat} {q : vw_C} (h : clss[c]? = some q) : c < 10 ∧ q = (cn c, TT c, nf c) := by
  unfold clss at h
  rw [List.getElem?_map] at h
  by_cases hc : c < 10
  · rw [List.getElem?_range hc] at h
    exact ⟨hc, (Option.some.inj h).symm⟩
  · rw [List.getElem?_eq_none (by simpa using hc)] at h
    cases h
set_option maxRecDepth 100000 in
theorem fd_ok : ∀ c, c < 10 → ∀ k, k < nf c → inT tabL c k = true ∧ (TT c k).1 = cn c ∧ parseFieldDescriptor (TT c k).2.2.1 = some (tyT c k) ∧ tagOf (tyT c k) < 4 := by decide +kernel
set_option maxRecDepth 100000 in
theorem nm_ok : ∀ c, c < 10 → ∀ a, a < nf c → ∀ b, b < nf c → a ≠ b → (TT c a).2.1 ≠ (TT c b).2.1 := by decide +kernel
theorem lay_ok {c : Nat} (hc : c < 10) : ∀ w ∈ u_ws (cn c) (TT c) (nf c), w ∈ GW := by
  intro w hw
  unfold u_ws at hw
  obtain ⟨k, hk, rfl⟩ := List.mem_map.mp hw
  exact tabL_ok (c, k) (inT_mem (fd_ok c hc k (List.mem_range.mp hk)).1)
def tysA (dA : Nat → ClassId) : List (ClassId × FieldType) := [(dA 0, .int), (dA 1, .byte), (dA 2, .long), (dA 3, .object "SlotKeeper$Board")]
def fld (h : hp) (a k : Nat) (ty : FieldType) : Value := match tagOf ty with
  | 1 => .long (hJ h a k)
  | 2 => va_rf (hrm h a k)
  | _ => .int (hI h a k)
def flds (h : hp) (a c : Nat) : List Value := (List.range (nf c)).map fun k => fld h a k (tyT c k)
theorem flds_at {h : hp} {a c k : Nat} (hk : k < nf c) : (flds h a c)[k]? = some (fld h a k (tyT c k)) := by
  unfold flds
  rw [List.getElem?_map, List.getElem?_range hk]
  rfl
theorem flds_len {h : hp} {a c : Nat} : (flds h a c).length = nf c := by simp [flds]
theorem flds_set {h h' : hp} {a c k : Nat} {v : Value} (hk : k < nf c) (hv : fld h' a k (tyT c k) = v) (ho : ∀ j, j ≠ k → fld h' a j (tyT c j) = fld h a j (tyT c j)) : flds h' a c = (flds h a c).set k v := by
  apply List.ext_getElem?
  intro j
  by_cases hj : j < nf c
  · by_cases e : j = k
    · subst e
      rw [flds_at hj, List.getElem?_set_self (by rw [flds_len]; exact hj), hv]
    · rw [flds_at hj, List.getElem?_set_ne (Ne.symm e), flds_at hj, ho j e]
  · rw [List.getElem?_eq_none (by rw [flds_len]; omega), List.getElem?_eq_none (by rw [List.length_set, flds_len]; omega)]
def cellOf (dA : Nat → ClassId) (h : hp) (a : Nat) : va_E :=
  if hkd h a = 20 then .inl (dA 0, hln h a, .inl (hI h a))
  else if hkd h a = 21 then .inl (dA 1, hln h a, .inl (hI h a))
  else if hkd h a = 22 then .inl (dA 2, hln h a, .inr (.inl (hJ h a)))
  else if hkd h a = 23 then .inl (dA 3, hln h a, .inr (.inr (.inr (.inr (hrm h a)))))
  else .inr (hkd h a - 1, flds h a (hkd h a - 1))
theorem cellOf_i {dA : Nat → ClassId} {h : hp} {a : Nat} (k : hkd h a = 20) : cellOf dA h a = .inl (dA 0, hln h a, .inl (hI h a)) := if_pos k
theorem cellOf_b {dA : Nat → ClassId} {h : hp} {a : Nat} (k : hkd h a = 21) : cellOf dA h a = .inl (dA 1, hln h a, .inl (hI h a)) := by
  unfold cellOf
  rw [if_neg (by rw [k]; decide), if_pos k]
theorem cellOf_l {dA : Nat → ClassId} {h : hp} {a : Nat} (k : hkd h a = 22) : cellOf dA h a = .inl (dA 2, hln h a, .inr (.inl (hJ h a))) := by
  unfold cellOf
  rw [if_neg (by rw [k]; decide), if_neg (by rw [k]; decide), if_pos k]
theorem cellOf_q {dA : Nat → ClassId} {h : hp} {a : Nat} (k : hkd h a = 23) : cellOf dA h a = .inl (dA 3, hln h a, .inr (.inr (.inr (.inr (hrm h a))))) := by
  unfold cellOf
  rw [if_neg (by rw [k]; decide), if_neg (by rw [k]; decide), if_neg (by rw [k]; decide), if_pos k]
theorem cellOf_o {dA : Nat → ClassId} {h : hp} {a c : Nat} (k : hkd h a = c + 1) (hc : c < 10) : cellOf dA h a = .inr (c, flds h a c) := by
  unfold cellOf
  rw [if_neg (by rw [k]; omega), if_neg (by rw [k]; omega), if_neg (by rw [k]; omega), if_neg (by rw [k]; omega), k]
  rfl
theorem cellOf_same {dA : Nat → ClassId} {h h' : hp} {b : Nat} (k : hkd h' b = hkd h b) (n : hln h' b = hln h b) (i : hI h' b = hI h b) (j : hJ h' b = hJ h b) (r : hrm h' b = hrm h b) : cellOf dA h' b = cellOf dA h b := by
  have e : ∀ c, flds h' b c = flds h b c := fun c => by
    unfold flds
    refine List.map_congr_left fun q _ => ?_
    unfold fld
    rw [i, j, r]
  unfold cellOf
  rw [k, n, i, j, r, e]
/-- the heap h of the smaller machine lies in H, from base on -/
def Rep (D : va_G) (dA : Nat → ClassId) (base : Nat) (h : hp) (H : Heap) : Prop :=
  (∀ a, hkd h a ≠ 0 → hkd h a ≤ 23 → base ≤ a ∧ va_at D clss (a, cellOf dA h a) H) ∧ (hex h = true → H.size = hsz h) ∧ ∀ a, hsz h ≤ a → hkd h a = 0
/-- what of h lies ahead of base: the script, the String constants -/
def Pas (h : hp) (base : Nat) (adK : Nat → Nat) (len : List Nat) (byt : List (List Int32)) (U : State) (H : Heap) : Prop :=
  (∀ k, k < 7 → hsa h k = adK k) ∧ (∀ a, hkd h a = 30 → va_X a (hln h a) (hI h a) U H ∧ a < base) ∧ ∀ a, hkd h a = 40 → ∃ k, k < 7 ∧ a = adK k ∧ hln h a = len.getD k 0 ∧ ∀ i, i < len.getD k 0 → hI h a i = (byt.getD k []).getD i 0
def lenS : List Nat := wordTab.map fun w => w.length
def bytS : List (List Int32) := wordTab.map fun w => w.toList.map fun c => Int32.ofNat c.toNat
/-- what a run leaves as it is -/
def ext (h h1 : hp) : Prop := hsz h ≤ hsz h1 ∧ hsl h ≤ hsl h1 ∧ hsa h1 = hsa h ∧ ∀ a, 30 ≤ hkd h1 a → hkd h a = hkd h1 a ∧ hln h a = hln h1 a ∧ hI h a = hI h1 a
theorem ext_rf {h : hp} : ext h h := ⟨Nat.le_refl _, Nat.le_refl _, rfl, fun _ _ => ⟨rfl, rfl, rfl⟩⟩
theorem ext_tr {h h1 h2 : hp} (a : ext h h1) (b : ext h1 h2) : ext h h2 := by
  refine ⟨Nat.le_trans a.1 b.1, Nat.le_trans a.2.1 b.2.1, b.2.2.1.trans a.2.2.1, fun q hq => ?_⟩
  obtain ⟨b1, b2, b3⟩ := b.2.2.2 q hq
  obtain ⟨a1, a2, a3⟩ := a.2.2.2 q (by rw [b1]; exact hq)
  exact ⟨a1.trans b1, a2.trans b2, a3.trans b3⟩
theorem Pas_ext {h h1 : hp} {base : Nat} {adK : Nat → Nat} {len : List Nat} {byt : List (List Int32)} {U : State} {H : Heap} (x : ext h h1) (p : Pas h base adK len byt U H) : Pas h1 base adK len byt U H := by
  refine ⟨fun k hk => by rw [x.2.2.1]; exact p.1 k hk, fun a ha => ?_, fun a ha => ?_⟩
  · obtain ⟨e1, e2, e3⟩ := x.2.2.2 a (by rw [ha]; decide)
    rw [← e2, ← e3]
    exact p.2.1 a (by rw [e1]; exact ha)
  · obtain ⟨e1, e2, e3⟩ := x.2.2.2 a (by rw [ha]; decide)
    rw [← e2, ← e3]
    exact p.2.2 a (by rw [e1]; exact ha)
/-- what every method finds at its start, beside its heap -/
def Env0 (D : va_G) (dA : Nat → ClassId) (base : Nat) (adK adV : Nat → Nat) (U : State) : Prop :=
  va_K D clss (tysA dA) U ∧ vx_Zq Bundle.tN "UNASSIGNED_STACK" Bundle.steD (fun q => base ≤ q) U U.heap ∧ vx_Zq Bundle.tN "SUPPRESSED_SENTINEL" Bundle.listD (fun q => base ≤ q) U U.heap ∧
  vk_S 7 lenS bytS adK adV (fun q => base ≤ q) U U.heap ∧ (∀ q ∈ strTab, vk_R (cn q.1) q.2.1 (wordTab.getD q.2.2 "") (adK q.2.2) U) ∧
  va_Z "java/lang/String" "COMPACT_STRINGS" "Z" (.int 1) (fun q => base ≤ q) U U.heap ∧ va_Zq "jdk/internal/util/Preconditions" "SIOOBE_FORMATTER" "Ljava/util/function/BiFunction;" (fun q => base ≤ q) U U.heap ∧
  (∀ w ∈ lw_tbl, ngW w = true → va_Nw w U) ∧ base ≤ U.heap.size ∧ va_AO "SlotKeeper$Board" U ∧ va_Nc iaeN nseN U ∧ va_Nc nseN iaeN U
def Pre0 (D : va_G) (dA : Nat → ClassId) (base : Nat) (adK adV : Nat → Nat) (h : hp) (U : State) : Prop := Rep D dA base h U.heap ∧ Pas h base adK lenS bytS U U.heap ∧ Env0 D dA base adK adV U

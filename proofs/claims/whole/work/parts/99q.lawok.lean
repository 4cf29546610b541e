/-! The law's run from its own first heap. -/
theorem lenS_wl : ∀ k, k < 7 → lenS.getD k 0 = wl k := by decide +kernel
theorem bytS_wb : ∀ k, k < 7 → ∀ i, i < wl k → (bytS.getD k []).getD i 0 = wb k i := by decide +kernel
theorem law_ok : LAW_OK := by
  intro b L xs adK z hL hb hk hinj
  unfold h0L
  refine law_ok0 (adK := adK) (Ls := L) hL hb (fun k h => (hk k h).1) ?_ ?_ ?_ ?_
  · exact if_pos rfl
  · exact if_pos rfl
  · rfl
  · intro k h
    have hkb := (hk k h).2
    refine ⟨?_, ?_, fun i hi => ?_⟩
    · show (if adK k = b then 30 else if isS adK (adK k) then 40 else 0) = 40
      rw [if_neg hkb, if_pos (isS_at k h)]
    · show (if adK k = b then L else lenS.getD (sIx adK (adK k)) 0) = wl k
      rw [if_neg hkb, sIx_at hinj k h]
      exact lenS_wl k h
    · show (if adK k = b then xs i else (bytS.getD (sIx adK (adK k)) []).getD i 0) = wb k i
      rw [if_neg hkb, sIx_at hinj k h]
      exact bytS_wb k h i hi

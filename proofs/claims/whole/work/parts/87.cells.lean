/-! Changes of one cell of the board, and the calls that make them. -/
section CELLS
variable {S : BS} {r r' : rw1} {n sn dn : Nat}
theorem VL.ga {g : rw1} (h : VL S n sn dn) (hg : ∀ k, k < 64 → 0 ≤ (g k).toInt ∧ (g k).toInt ≤ 99) : VL (S.1, S.2.1, S.2.2.1, S.2.2.2.1, S.2.2.2.2.1, S.2.2.2.2.2.1, S.2.2.2.2.2.2.1, g, S.2.2.2.2.2.2.2.2) n sn dn := ⟨⟨h.1.1, h.1.2.1, ⟨h.1.2.2.1.1, h.1.2.2.1.2.1, hg, h.1.2.2.1.2.2.2⟩, h.1.2.2.2⟩, h.2⟩
theorem Rel.ga {g : rw1} (h : Rel r S n sn dn) (hn : n ≤ 10) (hs : sn ≤ 4) (hd : dn ≤ 20) (hr : ∀ k, k < 64 → r' (56 + k) = g k) (e : ∀ j, j < 189 → j < 56 ∨ 120 ≤ j → r' j = r j) : Rel r' (S.1, S.2.1, S.2.2.1, S.2.2.2.1, S.2.2.2.2.1, S.2.2.2.2.2.1, S.2.2.2.2.2.2.1, g, S.2.2.2.2.2.2.2.2) n sn dn := by
  obtain ⟨⟨h1, h2, h3, h4, h5, h6⟩, a, b, c, d, w, q1, q2, q3⟩ := h
  refine ⟨⟨?_, ?_, ?_, ?_, ?_, ?_⟩, fun k hk => ?_, hr, fun k hk => ?_, fun i hi => ?_, w, q1, ?_, q3⟩
  any_goals (rw [e _ (by omega) (by omega)]; assumption)
  · rw [e _ (by omega) (by omega), e _ (by omega) (by omega), e _ (by omega) (by omega), e _ (by omega) (by omega), e _ (by omega) (by omega)]; exact a k hk
  · rw [e _ (by omega) (by omega), e _ (by omega) (by omega)]; exact c k hk
  · rw [e _ (by omega) (by omega), e _ (by omega) (by omega), e _ (by omega) (by omega)]; exact d i hi
theorem VL.hu {g : rw1} (h : VL S n sn dn) (hg : ∀ k, k < n → g k = nI 0 ∨ g k = nI 1) : VL (S.1, S.2.1, S.2.2.1, S.2.2.2.1, S.2.2.2.2.1, g, S.2.2.2.2.2.2) n sn dn := ⟨⟨h.1.1, h.1.2.1, h.1.2.2.1, hg, h.1.2.2.2.2⟩, h.2⟩
theorem Rel.hu {g : rw1} {w : Nat} (h : Rel r S n sn dn) (hn : n ≤ 10) (hs : sn ≤ 4) (hd : dn ≤ 20) (hw : w < 1024) (hr : r' 188 = nI w) (hg : ∀ k, k < n → g k = nI (w / 2 ^ k % 2)) (e : ∀ j, j < 188 → r' j = r j) : Rel r' (S.1, S.2.1, S.2.2.1, S.2.2.2.1, S.2.2.2.2.1, g, S.2.2.2.2.2.2) n sn dn := by
  obtain ⟨⟨h1, h2, h3, h4, h5, h6⟩, a, b, c, d, -⟩ := h
  refine ⟨⟨?_, ?_, ?_, ?_, ?_, ?_⟩, fun k hk => ?_, fun k hk => ?_, fun k hk => ?_, fun i hi => ?_, w, hw, hr, hg⟩
  any_goals (rw [e _ (by omega)]; assumption)
  · rw [e _ (by omega), e _ (by omega), e _ (by omega), e _ (by omega), e _ (by omega)]; exact a k hk
  · rw [e _ (by omega)]; exact b k hk
  · rw [e _ (by omega), e _ (by omega)]; exact c k hk
  · rw [e _ (by omega), e _ (by omega), e _ (by omega)]; exact d i hi
/-- ready, latest, weight of one craft -/
theorem VL.rlw {g1 g2 g3 : rw1} (h : VL S n sn dn) (h1 : ∀ k, k < n → 0 ≤ (g1 k).toInt ∧ (g1 k).toInt ≤ 1999 ∧ 0 ≤ (g3 k).toInt ∧ (g3 k).toInt ≤ 20) (h2 : ∀ k, k < n → g1 k ≤ g2 k) : VL (S.1, S.2.1, g1, g2, g3, S.2.2.2.2.2) n sn dn := ⟨⟨h.1.1, h.1.2.1, ⟨h.1.2.2.1.1, h1, h.1.2.2.1.2.2⟩, h.1.2.2.2⟩, h2⟩
theorem Rel.rlw {g1 g2 g3 : rw1} (h : Rel r S n sn dn) (hn : n ≤ 10) (hs : sn ≤ 4) (hd : dn ≤ 20) (hr : ∀ k, k < n → r' (6 + 4 * k) = r (6 + 4 * k) ∧ r' (6 + 4 * k + 1) = g1 k ∧ r' (6 + 4 * k + 2) = g2 k ∧ r' (6 + 4 * k + 3) = g3 k) (e : ∀ j, j < 189 → j < 6 ∨ 46 ≤ j → r' j = r j) : Rel r' (S.1, S.2.1, g1, g2, g3, S.2.2.2.2.2) n sn dn := by
  obtain ⟨⟨h1, h2, h3, h4, h5, h6⟩, a, b, c, d, w, q1, q2, q3⟩ := h
  refine ⟨⟨?_, ?_, ?_, ?_, ?_, ?_⟩, fun k hk => ?_, fun k hk => ?_, fun k hk => ?_, fun i hi => ?_, w, q1, ?_, q3⟩
  any_goals (rw [e _ (by omega) (by omega)]; assumption)
  · obtain ⟨p1, p2, p3, p4⟩ := hr k hk
    exact ⟨p1.trans (a k hk).1, p2, p3, p4, (e _ (by omega) (by omega)).trans (a k hk).2.2.2.2⟩
  · rw [e _ (by omega) (by omega)]; exact b k hk
  · rw [e _ (by omega) (by omega), e _ (by omega) (by omega)]; exact c k hk
  · rw [e _ (by omega) (by omega), e _ (by omega) (by omega), e _ (by omega) (by omega)]; exact d i hi
/-- shift and freeze -/
theorem VL.fz {g : rw1} {sh : Nat} (h : VL S n sn dn) (h1 : ∀ j, j ≠ 11 → j ≠ 12 → g j = bF S j) (hs : sh ≤ 3) (h2 : g 11 = nI sh) : VL (g, S.2) n sn dn := by
  obtain ⟨⟨⟨⟨b1, b1'⟩, ⟨b2, b2'⟩, ⟨b3, b3'⟩, b4, b5, b6⟩, hP, ⟨v0, v1, v2, v3, v4, v5⟩, hu, -⟩, hl⟩ := h
  exact ⟨⟨⟨⟨(h1 0 (by decide) (by decide)).trans b1, b1'⟩, ⟨(h1 8 (by decide) (by decide)).trans b2, b2'⟩, ⟨(h1 14 (by decide) (by decide)).trans b3, b3'⟩, b4, b5, b6⟩, hP, ⟨v0, v1, v2, v3, by show 0 ≤ (g 13).toInt ∧ (g 13).toInt ≤ _; rw [h1 13 (by decide) (by decide)]; exact v4, v5⟩, hu, sh, hs, h2⟩, hl⟩
theorem Rel.fz {g : rw1} (h : Rel r S n sn dn) (hn : n ≤ 10) (hs : sn ≤ 4) (hd : dn ≤ 20) (h1 : ∀ j, j ≠ 11 → j ≠ 12 → g j = bF S j) (h2 : r' 2 = g 11) (h3 : r' 3 = g 12) (e : ∀ j, j ≠ 2 → j ≠ 3 → r' j = r j) : Rel r' (g, S.2) n sn dn := by
  obtain ⟨⟨k1, k2, k3, k4, k5, k6⟩, a, b, c, d, w, q1, q2, q3⟩ := h
  refine ⟨⟨by rw [e _ (by decide) (by decide)]; exact k1, by rw [e _ (by decide) (by decide), k2]; exact (h1 13 (by decide) (by decide)).symm, h2, h3, by rw [e _ (by decide) (by decide)]; exact k5, by rw [e _ (by decide) (by decide)]; exact k6⟩, fun k hk => ?_, fun k hk => ?_, fun k hk => ?_, fun i hi => ?_, w, q1, by rw [e _ (by decide) (by decide)]; exact q2, q3⟩
  · rw [e _ (by omega) (by omega), e _ (by omega) (by omega), e _ (by omega) (by omega), e _ (by omega) (by omega), e _ (by omega) (by omega)]; exact a k hk
  · rw [e _ (by omega) (by omega)]; exact b k hk
  · rw [e _ (by omega) (by omega), e _ (by omega) (by omega)]; exact c k hk
  · rw [e _ (by omega) (by omega), e _ (by omega) (by omega), e _ (by omega) (by omega)]; exact d i hi
/-- spans -/
theorem VL.sp {g g1 g2 : rw1} {sn' : Nat} (h : VL S n sn dn) (h1 : ∀ j, j ≠ 8 → g j = bF S j) (h8 : g 8 = nI sn') (h4 : sn' ≤ 4) (h2 : ∀ k, k < sn' → (g2 k).toInt ≤ 1999) : VL (g, S.2.1, S.2.2.1, S.2.2.2.1, S.2.2.2.2.1, S.2.2.2.2.2.1, S.2.2.2.2.2.2.1, S.2.2.2.2.2.2.2.1, g1, g2, S.2.2.2.2.2.2.2.2.2.2) n sn' dn := by
  obtain ⟨⟨⟨⟨b1, b1'⟩, ⟨b2, b2'⟩, ⟨b3, b3'⟩, b4, b5, b6⟩, hP, ⟨v0, v1, v2, v3, v4, v5⟩, hu, sh, hs, q⟩, hl⟩ := h
  exact ⟨⟨⟨⟨(h1 0 (by decide)).trans b1, b1'⟩, ⟨h8, h4⟩, ⟨(h1 14 (by decide)).trans b3, b3'⟩, b4, b5, b6⟩, hP, ⟨v0, v1, v2, h2, by show 0 ≤ (g 13).toInt ∧ (g 13).toInt ≤ _; rw [h1 13 (by decide)]; exact v4, v5⟩, hu, sh, hs, (h1 11 (by decide)).trans q⟩, hl⟩
theorem Rel.sp {g g1 g2 : rw1} {sn' : Nat} (h : Rel r S n sn dn) (hn : n ≤ 10) (hd : dn ≤ 20) (h1 : ∀ j, j ≠ 8 → g j = bF S j) (h4 : sn' ≤ 4) (hr : r' 4 = nI sn') (h2 : ∀ k, k < sn' → r' (120 + 2 * k) = g1 k ∧ r' (120 + 2 * k + 1) = g2 k) (e : ∀ j, j < 189 → j < 120 ∨ 128 ≤ j → j ≠ 4 → r' j = r j) : Rel r' (g, S.2.1, S.2.2.1, S.2.2.2.1, S.2.2.2.2.1, S.2.2.2.2.2.1, S.2.2.2.2.2.2.1, S.2.2.2.2.2.2.2.1, g1, g2, S.2.2.2.2.2.2.2.2.2.2) n sn' dn := by
  obtain ⟨⟨k1, k2, k3, k4, k5, k6⟩, a, b, c, d, w, q1, q2, q3⟩ := h
  refine ⟨⟨by rw [e _ (by decide) (by decide) (by decide)]; exact k1, by rw [e _ (by decide) (by decide) (by decide), k2]; exact (h1 13 (by decide)).symm, by rw [e _ (by decide) (by decide) (by decide), k3]; exact (h1 11 (by decide)).symm, by rw [e _ (by decide) (by decide) (by decide), k4]; exact (h1 12 (by decide)).symm, hr, by rw [e _ (by decide) (by decide) (by decide)]; exact k6⟩, fun k hk => ?_, fun k hk => ?_, h2, fun i hi => ?_, w, q1, by rw [e _ (by decide) (by decide) (by decide)]; exact q2, q3⟩
  · rw [e _ (by omega) (by omega) (by omega), e _ (by omega) (by omega) (by omega), e _ (by omega) (by omega) (by omega), e _ (by omega) (by omega) (by omega), e _ (by omega) (by omega) (by omega)]; exact a k hk
  · rw [e _ (by omega) (by omega) (by omega)]; exact b k hk
  · rw [e _ (by omega) (by omega) (by omega), e _ (by omega) (by omega) (by omega), e _ (by omega) (by omega) (by omega)]; exact d i hi
end CELLS
/-- one bit set so -/
def hset (w c h : Nat) : Nat := w - w / 2 ^ c % 2 * 2 ^ c + h * 2 ^ c
theorem hset_x : ∀ w, w < 1024 → ∀ c, c < 10 → ∀ h, h < 2 → ((nI w &&& ((nI 1 <<< (nI c &&& 31)) ^^^ (-1))) ||| (nI h <<< (nI c &&& 31))) = nI (hset w c h) ∧ hset w c h < 1024 := by decide +kernel
theorem hset_0 : ∀ w, w < 1024 → ∀ c, c < 10 → (nI w &&& ((nI 1 <<< (nI c &&& 31)) ^^^ (-1))) = nI (hset w c 0) ∧ hset w c 0 < 1024 := by decide +kernel
theorem hset_b : ∀ w, w < 1024 → ∀ c, c < 10 → ∀ h, h < 2 → ∀ k, k < 10 → hset w c h / 2 ^ k % 2 = if k = c then h else w / 2 ^ k % 2 := by decide +kernel

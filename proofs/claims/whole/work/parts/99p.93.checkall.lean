theorem all_chunks {α : Type} {L : List α} {f : α → Bool} (n : Nat) (h : ∀ k, k < n → ((L.drop (60 * k)).take 60).all f = true) (hl : L.length ≤ 60 * n) : L.all f = true := by
  refine List.all_eq_true.mpr fun x hx => ?_
  obtain ⟨i, hi, rfl⟩ := List.mem_iff_getElem.mp hx
  refine List.all_eq_true.mp (h (i / 60) (by omega)) _ ?_
  refine List.mem_iff_getElem.mpr ⟨i % 60, by simp; omega, ?_⟩
  simp only [List.getElem_take, List.getElem_drop]
  congr 1
  omega
set_option maxRecDepth 100000 in
theorem okM_law : okM 273 = true := by
  refine all_chunks 24 (fun k hk => ?_) (by decide +kernel)
  have hk2 : k = 0 ∨ k = 1 ∨ k = 2 ∨ k = 3 ∨ k = 4 ∨ k = 5 ∨ k = 6 ∨ k = 7 ∨ k = 8 ∨ k = 9 ∨ k = 10 ∨ k = 11 ∨ k = 12 ∨ k = 13 ∨ k = 14 ∨ k = 15 ∨ k = 16 ∨ k = 17 ∨ k = 18 ∨ k = 19 ∨ k = 20 ∨ k = 21 ∨ k = 22 ∨ k = 23 := by omega
  rcases hk2 with rfl | rfl | rfl | rfl | rfl | rfl | rfl | rfl | rfl | rfl | rfl | rfl | rfl | rfl | rfl | rfl | rfl | rfl | rfl | rfl | rfl | rfl | rfl | rfl
  · exact okL_0
  · exact okL_1
  · exact okL_2
  · exact okL_3
  · exact okL_4
  · exact okL_5
  · exact okL_6
  · exact okL_7
  · exact okL_8
  · exact okL_9
  · exact okL_10
  · exact okL_11
  · exact okL_12
  · exact okL_13
  · exact okL_14
  · exact okL_15
  · exact okL_16
  · exact okL_17
  · exact okL_18
  · exact okL_19
  · exact okL_20
  · exact okL_21
  · exact okL_22
  · exact okL_23
theorem okM_all : ∀ j, j < 274 → okM j = true := by
  intro j hj
  by_cases h0 : j < 13
  · exact List.all_eq_true.mp okM_g0 j (by rw [List.mem_range'_1]; omega)
  by_cases h1 : j < 24
  · exact List.all_eq_true.mp okM_g1 j (by rw [List.mem_range'_1]; omega)
  by_cases h2 : j < 33
  · exact List.all_eq_true.mp okM_g2 j (by rw [List.mem_range'_1]; omega)
  by_cases h3 : j < 42
  · exact List.all_eq_true.mp okM_g3 j (by rw [List.mem_range'_1]; omega)
  by_cases h4 : j < 52
  · exact List.all_eq_true.mp okM_g4 j (by rw [List.mem_range'_1]; omega)
  by_cases h5 : j < 64
  · exact List.all_eq_true.mp okM_g5 j (by rw [List.mem_range'_1]; omega)
  by_cases h6 : j < 69
  · exact List.all_eq_true.mp okM_g6 j (by rw [List.mem_range'_1]; omega)
  by_cases h7 : j < 82
  · exact List.all_eq_true.mp okM_g7 j (by rw [List.mem_range'_1]; omega)
  by_cases h8 : j < 89
  · exact List.all_eq_true.mp okM_g8 j (by rw [List.mem_range'_1]; omega)
  by_cases h9 : j < 97
  · exact List.all_eq_true.mp okM_g9 j (by rw [List.mem_range'_1]; omega)
  by_cases h10 : j < 108
  · exact List.all_eq_true.mp okM_g10 j (by rw [List.mem_range'_1]; omega)
  by_cases h11 : j < 121
  · exact List.all_eq_true.mp okM_g11 j (by rw [List.mem_range'_1]; omega)
  by_cases h12 : j < 128
  · exact List.all_eq_true.mp okM_g12 j (by rw [List.mem_range'_1]; omega)
  by_cases h13 : j < 136
  · exact List.all_eq_true.mp okM_g13 j (by rw [List.mem_range'_1]; omega)
  by_cases h14 : j < 147
  · exact List.all_eq_true.mp okM_g14 j (by rw [List.mem_range'_1]; omega)
  by_cases h15 : j < 158
  · exact List.all_eq_true.mp okM_g15 j (by rw [List.mem_range'_1]; omega)
  by_cases h16 : j < 170
  · exact List.all_eq_true.mp okM_g16 j (by rw [List.mem_range'_1]; omega)
  by_cases h17 : j < 179
  · exact List.all_eq_true.mp okM_g17 j (by rw [List.mem_range'_1]; omega)
  by_cases h18 : j < 186
  · exact List.all_eq_true.mp okM_g18 j (by rw [List.mem_range'_1]; omega)
  by_cases h19 : j < 192
  · exact List.all_eq_true.mp okM_g19 j (by rw [List.mem_range'_1]; omega)
  by_cases h20 : j < 198
  · exact List.all_eq_true.mp okM_g20 j (by rw [List.mem_range'_1]; omega)
  by_cases h21 : j < 206
  · exact List.all_eq_true.mp okM_g21 j (by rw [List.mem_range'_1]; omega)
  by_cases h22 : j < 212
  · exact List.all_eq_true.mp okM_g22 j (by rw [List.mem_range'_1]; omega)
  by_cases h23 : j < 218
  · exact List.all_eq_true.mp okM_g23 j (by rw [List.mem_range'_1]; omega)
  by_cases h24 : j < 225
  · exact List.all_eq_true.mp okM_g24 j (by rw [List.mem_range'_1]; omega)
  by_cases h25 : j < 228
  · exact List.all_eq_true.mp okM_g25 j (by rw [List.mem_range'_1]; omega)
  by_cases h26 : j < 235
  · exact List.all_eq_true.mp okM_g26 j (by rw [List.mem_range'_1]; omega)
  by_cases h27 : j < 241
  · exact List.all_eq_true.mp okM_g27 j (by rw [List.mem_range'_1]; omega)
  by_cases h28 : j < 249
  · exact List.all_eq_true.mp okM_g28 j (by rw [List.mem_range'_1]; omega)
  by_cases h29 : j < 254
  · exact List.all_eq_true.mp okM_g29 j (by rw [List.mem_range'_1]; omega)
  by_cases h30 : j < 259
  · exact List.all_eq_true.mp okM_g30 j (by rw [List.mem_range'_1]; omega)
  by_cases h31 : j < 265
  · exact List.all_eq_true.mp okM_g31 j (by rw [List.mem_range'_1]; omega)
  by_cases h32 : j < 269
  · exact List.all_eq_true.mp okM_g32 j (by rw [List.mem_range'_1]; omega)
  by_cases h33 : j < 272
  · exact List.all_eq_true.mp okM_g33 j (by rw [List.mem_range'_1]; omega)
  by_cases h34 : j < 273
  · exact List.all_eq_true.mp okM_g34 j (by rw [List.mem_range'_1]; omega)
  have : j = 273 := by omega
  subst this
  exact okM_law

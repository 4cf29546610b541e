set_option maxRecDepth 100000 in
theorem okM_g0 : (List.range' 0 13).all okM = true := by decide +kernel
set_option maxRecDepth 100000 in
theorem okM_g1 : (List.range' 13 11).all okM = true := by decide +kernel
set_option maxRecDepth 100000 in
theorem okM_g2 : (List.range' 24 9).all okM = true := by decide +kernel
set_option maxRecDepth 100000 in
theorem okM_g3 : (List.range' 33 9).all okM = true := by decide +kernel
set_option maxRecDepth 100000 in
theorem okM_g4 : (List.range' 42 10).all okM = true := by decide +kernel
set_option maxRecDepth 100000 in
theorem okM_g5 : (List.range' 52 12).all okM = true := by decide +kernel
set_option maxRecDepth 100000 in
theorem okM_g6 : (List.range' 64 5).all okM = true := by decide +kernel
set_option maxRecDepth 100000 in
theorem okM_g7 : (List.range' 69 13).all okM = true := by decide +kernel
set_option maxRecDepth 100000 in
theorem okM_g8 : (List.range' 82 7).all okM = true := by decide +kernel
set_option maxRecDepth 100000 in
theorem okM_g9 : (List.range' 89 8).all okM = true := by decide +kernel
set_option maxRecDepth 100000 in
theorem okM_g10 : (List.range' 97 11).all okM = true := by decide +kernel
set_option maxRecDepth 100000 in
theorem okM_g11 : (List.range' 108 13).all okM = true := by decide +kernel
set_option maxRecDepth 100000 in
theorem okM_g12 : (List.range' 121 7).all okM = true := by decide +kernel
set_option maxRecDepth 100000 in
theorem okM_g13 : (List.range' 128 8).all okM = true := by decide +kernel
set_option maxRecDepth 100000 in
theorem okM_g14 : (List.range' 136 11).all okM = true := by decide +kernel
set_option maxRecDepth 100000 in
theorem okM_g15 : (List.range' 147 11).all okM = true := by decide +kernel
set_option maxRecDepth 100000 in
theorem okM_g16 : (List.range' 158 12).all okM = true := by decide +kernel
set_option maxRecDepth 100000 in
theorem okM_g17 : (List.range' 170 9).all okM = true := by decide +kernel
set_option maxRecDepth 100000 in
theorem okM_g18 : (List.range' 179 7).all okM = true := by decide +kernel
set_option maxRecDepth 100000 in
theorem okM_g19 : (List.range' 186 6).all okM = true := by decide +kernel
set_option maxRecDepth 100000 in
theorem okM_g20 : (List.range' 192 6).all okM = true := by decide +kernel
set_option maxRecDepth 100000 in
theorem okM_g21 : (List.range' 198 8).all okM = true := by decide +kernel
set_option maxRecDepth 100000 in
theorem okM_g22 : (List.range' 206 6).all okM = true := by decide +kernel
set_option maxRecDepth 100000 in
theorem okM_g23 : (List.range' 212 6).all okM = true := by decide +kernel
set_option maxRecDepth 100000 in
theorem okM_g24 : (List.range' 218 7).all okM = true := by decide +kernel
set_option maxRecDepth 100000 in
theorem okM_g25 : (List.range' 225 3).all okM = true := by decide +kernel
set_option maxRecDepth 100000 in
theorem okM_g26 : (List.range' 228 7).all okM = true := by decide +kernel
set_option maxRecDepth 100000 in
theorem okM_g27 : (List.range' 235 6).all okM = true := by decide +kernel
set_option maxRecDepth 100000 in
theorem okM_g28 : (List.range' 241 8).all okM = true := by decide +kernel
set_option maxRecDepth 100000 in
theorem okM_g29 : (List.range' 249 5).all okM = true := by decide +kernel
set_option maxRecDepth 100000 in
theorem okM_g30 : (List.range' 254 5).all okM = true := by decide +kernel
set_option maxRecDepth 100000 in
theorem okM_g31 : (List.range' 259 6).all okM = true := by decide +kernel
set_option maxRecDepth 100000 in
theorem okM_g32 : (List.range' 265 4).all okM = true := by decide +kernel
set_option maxRecDepth 100000 in
theorem okM_g33 : (List.range' 269 3).all okM = true := by decide +kernel
set_option maxRecDepth 100000 in
theorem okM_g34 : (List.range' 272 1).all okM = true := by decide +kernel

/-! the codes are what the bytes decode to: by the kernel, some at a time -/
set_option maxRecDepth 100000 in
theorem ax_q0 : (List.range' 0 16).all ax_k1 = true := by decide +kernel
set_option maxRecDepth 100000 in
theorem ax_q1 : (List.range' 16 9).all ax_k1 = true := by decide +kernel
set_option maxRecDepth 100000 in
theorem ax_q2 : (List.range' 25 14).all ax_k1 = true := by decide +kernel
set_option maxRecDepth 100000 in
theorem ax_q3 : (List.range' 39 13).all ax_k1 = true := by decide +kernel
set_option maxRecDepth 100000 in
theorem ax_q4 : (List.range' 52 10).all ax_k1 = true := by decide +kernel
set_option maxRecDepth 100000 in
theorem ax_q5 : (List.range' 62 15).all ax_k1 = true := by decide +kernel
set_option maxRecDepth 100000 in
theorem ax_q6 : (List.range' 77 9).all ax_k1 = true := by decide +kernel
set_option maxRecDepth 100000 in
theorem ax_q7 : (List.range' 86 20).all ax_k1 = true := by decide +kernel
set_option maxRecDepth 100000 in
theorem ax_q8 : (List.range' 106 19).all ax_k1 = true := by decide +kernel
set_option maxRecDepth 100000 in
theorem ax_q9 : (List.range' 125 15).all ax_k1 = true := by decide +kernel
set_option maxRecDepth 100000 in
theorem ax_q10 : (List.range' 140 14).all ax_k1 = true := by decide +kernel
set_option maxRecDepth 100000 in
theorem ax_q11 : (List.range' 154 21).all ax_k1 = true := by decide +kernel
set_option maxRecDepth 100000 in
theorem ax_q13 : (List.range' 176 13).all ax_k1 = true := by decide +kernel
set_option maxRecDepth 100000 in
theorem ax_q14 : (List.range' 189 7).all ax_k1 = true := by decide +kernel
set_option maxRecDepth 100000 in
theorem ax_q15 : (List.range' 196 5).all ax_k1 = true := by decide +kernel
set_option maxRecDepth 100000 in
theorem ax_q16 : (List.range' 201 21).all ax_k1 = true := by decide +kernel
set_option maxRecDepth 100000 in
theorem ax_q17 : (List.range' 222 8).all ax_k1 = true := by decide +kernel
set_option maxRecDepth 100000 in
theorem ax_q18 : (List.range' 230 17).all ax_k1 = true := by decide +kernel
set_option maxRecDepth 100000 in
theorem ax_q19 : (List.range' 247 8).all ax_k1 = true := by decide +kernel
set_option maxRecDepth 100000 in
theorem ax_q20 : (List.range' 255 9).all ax_k1 = true := by decide +kernel
set_option maxRecDepth 100000 in
theorem ax_q21 : (List.range' 264 15).all ax_k1 = true := by decide +kernel
set_option maxRecDepth 100000 in
theorem ax_q22 : (List.range' 279 10).all ax_k1 = true := by decide +kernel
set_option maxRecDepth 100000 in
theorem ax_q23 : (List.range' 289 6).all ax_k1 = true := by decide +kernel
set_option maxRecDepth 100000 in
theorem ax_q24 : (List.range' 295 8).all ax_k1 = true := by decide +kernel
set_option maxRecDepth 100000 in
theorem ax_q25 : (List.range' 303 11).all ax_k1 = true := by decide +kernel
set_option maxRecDepth 100000 in
theorem ax_q26 : (List.range' 314 12).all ax_k1 = true := by decide +kernel

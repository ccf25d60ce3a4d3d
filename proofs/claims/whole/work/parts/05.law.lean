set_option maxRecDepth 100000 in
theorem mj_w0 : (List.range' 0 50).all (mj_okP 226) = true := by decide +kernel
set_option maxRecDepth 100000 in
theorem mj_w1 : (List.range' 50 50).all (mj_okP 226) = true := by decide +kernel
set_option maxRecDepth 100000 in
theorem mj_w2 : (List.range' 100 50).all (mj_okP 226) = true := by decide +kernel
set_option maxRecDepth 100000 in
theorem mj_w3 : (List.range' 150 50).all (mj_okP 226) = true := by decide +kernel
set_option maxRecDepth 100000 in
theorem mj_w4 : (List.range' 200 50).all (mj_okP 226) = true := by decide +kernel
set_option maxRecDepth 100000 in
theorem mj_w5 : (List.range' 250 50).all (mj_okP 226) = true := by decide +kernel
set_option maxRecDepth 100000 in
theorem mj_w6 : (List.range' 300 50).all (mj_okP 226) = true := by decide +kernel
set_option maxRecDepth 100000 in
theorem mj_w7 : (List.range' 350 50).all (mj_okP 226) = true := by decide +kernel
set_option maxRecDepth 100000 in
theorem mj_w8 : (List.range' 400 50).all (mj_okP 226) = true := by decide +kernel
set_option maxRecDepth 100000 in
theorem mj_w9 : (List.range' 450 50).all (mj_okP 226) = true := by decide +kernel
set_option maxRecDepth 100000 in
theorem mj_w10 : (List.range' 500 50).all (mj_okP 226) = true := by decide +kernel
set_option maxRecDepth 100000 in
theorem mj_w11 : (List.range' 550 50).all (mj_okP 226) = true := by decide +kernel
set_option maxRecDepth 100000 in
theorem mj_w12 : (List.range' 600 50).all (mj_okP 226) = true := by decide +kernel
set_option maxRecDepth 100000 in
theorem mj_w13 : (List.range' 650 50).all (mj_okP 226) = true := by decide +kernel
set_option maxRecDepth 100000 in
theorem mj_w14 : (List.range' 700 50).all (mj_okP 226) = true := by decide +kernel
set_option maxRecDepth 100000 in
theorem mj_w15 : (List.range' 750 50).all (mj_okP 226) = true := by decide +kernel
set_option maxRecDepth 100000 in
theorem mj_w16 : (List.range' 800 50).all (mj_okP 226) = true := by decide +kernel
set_option maxRecDepth 100000 in
theorem mj_w17 : (List.range' 850 50).all (mj_okP 226) = true := by decide +kernel
set_option maxRecDepth 100000 in
theorem mj_w18 : (List.range' 900 50).all (mj_okP 226) = true := by decide +kernel
set_option maxRecDepth 100000 in
theorem mj_w19 : (List.range' 950 50).all (mj_okP 226) = true := by decide +kernel
set_option maxRecDepth 100000 in
theorem mj_w20 : (List.range' 1000 50).all (mj_okP 226) = true := by decide +kernel
set_option maxRecDepth 100000 in
theorem mj_w21 : (List.range' 1050 48).all (mj_okP 226) = true := by decide +kernel

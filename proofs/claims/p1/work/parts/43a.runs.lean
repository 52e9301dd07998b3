/-! the runs of one call on a fresh object, each operation for every script -/
set_option maxRecDepth 1000000 in
theorem ev_ok_c0 : ∀ X, ev_okc 0 X = true := ev_eps (by decide +kernel)
set_option maxRecDepth 1000000 in
theorem ev_ok_c2 : ∀ X, ev_okc 2 X = true := ev_eps (by decide +kernel)
set_option maxRecDepth 1000000 in
theorem ev_ok_c3 : ∀ X, ev_okc 3 X = true := ev_eps (by decide +kernel)
set_option maxRecDepth 1000000 in
theorem ev_ok_c4 : ∀ X, ev_okc 4 X = true := ev_eps (by decide +kernel)
set_option maxRecDepth 1000000 in
theorem ev_ok_c5 : ∀ X, ev_okc 5 X = true := ev_eps (by decide +kernel)
set_option maxRecDepth 1000000 in
theorem ev_ok_c6 : ∀ X, ev_okc 6 X = true := ev_eps (by decide +kernel)
set_option maxRecDepth 1000000 in
theorem ev_ok_c7 : ∀ X, ev_okc 7 X = true := ev_eps (by decide +kernel)
set_option maxRecDepth 1000000 in
theorem ev_ok_c8 : ∀ X, ev_okc 8 X = true := ev_eps (by decide +kernel)
set_option maxRecDepth 1000000 in
theorem ev_ok_c9 : ∀ X, ev_okc 9 X = true := ev_eps (by decide +kernel)
set_option maxRecDepth 1000000 in
theorem ev_ok_c10 : ∀ X, ev_okc 10 X = true := ev_eps (by decide +kernel)
set_option maxRecDepth 1000000 in
theorem ev_ok_c11 : ∀ X, ev_okc 11 X = true := ev_eps (by decide +kernel)
set_option maxRecDepth 1000000 in
theorem ev_ok_c12 : ∀ X, ev_okc 12 X = true := ev_eps (by decide +kernel)
set_option maxRecDepth 1000000 in
theorem ev_ok_c13 : ∀ X, ev_okc 13 X = true := ev_eps (by decide +kernel)
set_option maxRecDepth 1000000 in
theorem ev_ok_c14 : ∀ X, ev_okc 14 X = true := ev_eps (by decide +kernel)
set_option maxRecDepth 1000000 in
theorem ev_ok_c15 : ∀ X, ev_okc 15 X = true := ev_eps (by decide +kernel)
set_option maxRecDepth 1000000 in
theorem ev_ok_c16 : ∀ X, ev_okc 16 X = true := ev_eps (by decide +kernel)
set_option maxRecDepth 1000000 in
theorem ev_ok_c17 : ∀ X, ev_okc 17 X = true := ev_eps (by decide +kernel)
set_option maxRecDepth 1000000 in
theorem ev_ok_c18 : ∀ X, ev_okc 18 X = true := ev_eps (by decide +kernel)
set_option maxRecDepth 1000000 in
theorem ev_ok_c19 : ∀ X, ev_okc 19 X = true := ev_eps (by decide +kernel)
set_option maxRecDepth 1000000 in
theorem ev_ok_c20 : ∀ X, ev_okc 20 X = true := ev_eps (by decide +kernel)

/-! the runs of one call on a fresh object, each operation for every script -/
set_option maxRecDepth 1000000 in
theorem ev_ok_c21 : ∀ X, ev_okc 21 X = true := ev_eps (by decide +kernel)
set_option maxRecDepth 1000000 in
theorem ev_ok_c22 : ∀ X, ev_okc 22 X = true := ev_eps (by decide +kernel)
set_option maxRecDepth 1000000 in
theorem ev_ok_c23 : ∀ X, ev_okc 23 X = true := ev_eps (by decide +kernel)
set_option maxRecDepth 1000000 in
theorem ev_ok_c24 : ∀ X, ev_okc 24 X = true := ev_eps (by decide +kernel)
set_option maxRecDepth 1000000 in
theorem ev_ok_c25 : ∀ X, ev_okc 25 X = true := ev_eps (by decide +kernel)
set_option maxRecDepth 1000000 in
theorem ev_ok_c26 : ∀ X, ev_okc 26 X = true := ev_eps (by decide +kernel)
set_option maxRecDepth 1000000 in
theorem ev_ok_c27 : ∀ X, ev_okc 27 X = true := ev_eps (by decide +kernel)
set_option maxRecDepth 1000000 in
theorem ev_ok_c28 : ∀ X, ev_okc 28 X = true := ev_eps (by decide +kernel)
set_option maxRecDepth 1000000 in
theorem ev_ok_c29 : ∀ X, ev_okc 29 X = true := ev_eps (by decide +kernel)
set_option maxRecDepth 1000000 in
theorem ev_ok_c30 : ∀ X, ev_okc 30 X = true := ev_eps (by decide +kernel)
set_option maxRecDepth 1000000 in
theorem ev_ok_c31 : ∀ X, ev_okc 31 X = true := ev_eps (by decide +kernel)
set_option maxRecDepth 1000000 in
theorem ev_ok_c32 : ∀ X, ev_okc 32 X = true := ev_eps (by decide +kernel)
set_option maxRecDepth 1000000 in
theorem ev_ok_c33 : ∀ X, ev_okc 33 X = true := ev_eps (by decide +kernel)
set_option maxRecDepth 1000000 in
theorem ev_ok_c34 : ∀ X, ev_okc 34 X = true := ev_eps (by decide +kernel)
set_option maxRecDepth 1000000 in
theorem ev_ok_c35 : ∀ X, ev_okc 35 X = true := ev_eps (by decide +kernel)
set_option maxRecDepth 1000000 in
theorem ev_ok_c36 : ∀ X, ev_okc 36 X = true := ev_eps (by decide +kernel)
set_option maxRecDepth 1000000 in
theorem ev_ok_c37 : ∀ X, ev_okc 37 X = true := ev_eps (by decide +kernel)
set_option maxRecDepth 1000000 in
theorem ev_ok_c38 : ∀ X, ev_okc 38 X = true := ev_eps (by decide +kernel)
set_option maxRecDepth 1000000 in
theorem ev_ok_c39 : ∀ X, ev_okc 39 X = true := ev_eps (by decide +kernel)
set_option maxRecDepth 1000000 in
theorem ev_ok_c40 : ∀ X, ev_okc 40 X = true := ev_eps (by decide +kernel)
set_option maxRecDepth 1000000 in
theorem ev_ok_c41 : ∀ X, ev_okc 41 X = true := ev_eps (by decide +kernel)

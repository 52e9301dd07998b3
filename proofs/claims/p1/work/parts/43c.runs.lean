/-! the runs of one call on a fresh object, each operation for every script -/
set_option maxRecDepth 1000000 in
theorem ev_ok_c42 : ∀ X, ev_okc 42 X = true := ev_eps (by decide +kernel)
set_option maxRecDepth 1000000 in
theorem ev_ok_c43 : ∀ X, ev_okc 43 X = true := ev_eps (by decide +kernel)
set_option maxRecDepth 1000000 in
theorem ev_ok_c45 : ∀ X, ev_okc 45 X = true := ev_eps (by decide +kernel)
set_option maxRecDepth 1000000 in
theorem ev_ok_c46 : ∀ X, ev_okc 46 X = true := ev_eps (by decide +kernel)
set_option maxRecDepth 1000000 in
theorem ev_ok_c47 : ∀ X, ev_okc 47 X = true := ev_eps (by decide +kernel)
set_option maxRecDepth 1000000 in
theorem ev_ok_c48 : ∀ X, ev_okc 48 X = true := ev_eps (by decide +kernel)
set_option maxRecDepth 1000000 in
theorem ev_ok_c49 : ∀ X, ev_okc 49 X = true := ev_eps (by decide +kernel)
set_option maxRecDepth 1000000 in
theorem ev_ok_c50 : ∀ X, ev_okc 50 X = true := ev_eps (by decide +kernel)
set_option maxRecDepth 1000000 in
theorem ev_ok_c51 : ∀ X, ev_okc 51 X = true := ev_eps (by decide +kernel)
set_option maxRecDepth 1000000 in
theorem ev_ok_c52 : ∀ X, ev_okc 52 X = true := ev_eps (by decide +kernel)
set_option maxRecDepth 1000000 in
theorem ev_ok_c53 : ∀ X, ev_okc 53 X = true := ev_eps (by decide +kernel)
set_option maxRecDepth 1000000 in
theorem ev_ok_c54 : ∀ X, ev_okc 54 X = true := ev_eps (by decide +kernel)
set_option maxRecDepth 1000000 in
theorem ev_ok_c55 : ∀ X, ev_okc 55 X = true := ev_eps (by decide +kernel)
set_option maxRecDepth 1000000 in
theorem ev_ok_c56 : ∀ X, ev_okc 56 X = true := ev_eps (by decide +kernel)
set_option maxRecDepth 1000000 in
theorem ev_ok_c57 : ∀ X, ev_okc 57 X = true := ev_eps (by decide +kernel)
set_option maxRecDepth 1000000 in
theorem ev_ok_c58 : ∀ X, ev_okc 58 X = true := ev_eps (by decide +kernel)
set_option maxRecDepth 1000000 in
theorem ev_ok_c59 : ∀ X, ev_okc 59 X = true := ev_eps (by decide +kernel)
set_option maxRecDepth 1000000 in
theorem ev_ok_c61 : ∀ X, ev_okc 61 X = true := ev_eps (by decide +kernel)
set_option maxRecDepth 1000000 in
theorem ev_ok_c62 : ∀ X, ev_okc 62 X = true := ev_eps (by decide +kernel)
set_option maxRecDepth 1000000 in
theorem ev_ok_c63 : ∀ X, ev_okc 63 X = true := ev_eps (by decide +kernel)

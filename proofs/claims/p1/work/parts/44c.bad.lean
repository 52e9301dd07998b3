/-! the three, for every script -/
def ev_gC1 (w : ev_W) (a : Nat) : Bool := Nat.beq (w_K w a) 7 && decide (w_I w a 1 = 0)
def ev_gM1 (w : ev_W) (a : Nat) : Bool := Nat.beq (w_K w a) 8 && decide (w_I w a 9 = 0)
def ev_gC2 (w : ev_W) (a : Nat) : Bool := Nat.beq (w_K w a) 7 && (match w_R w a 9 with
  | some b => decide (b < w_n w) && (Nat.beq (w_K w b) 6 && decide (w_I w b 0 = 0))
  | none => false)
def ev_gM2 (w : ev_W) (a : Nat) : Bool := Nat.beq (w_K w a) 8 && decide (w_I w a 19 = 0)
def ev_gC3 (w : ev_W) (a : Nat) : Bool := Nat.beq (w_K w a) 7
def ev_gM3 (w : ev_W) (a : Nat) : Bool := Nat.beq (w_K w a) 8
def ev_okb (c A C : Nat) (gC gM : ev_W → Nat → Bool) (X : Nat → Int32) : Bool := ev_fin (evk (ev_bhb (Int32.ofNat c) A C gC gM) 100000 ev_LAW 0 (ev_in 9 [.ref ev_S]) [] (ev_w0 6 X))
def ev_okv (c v A C : Nat) (X : Nat → Int32) : Bool := ev_fin (evk (ev_bhv (Int32.ofNat c) (Int32.ofNat v) A C) 100000 ev_LAW 0 (ev_in 9 [.ref ev_S]) [] (ev_w0 6 X))
set_option maxRecDepth 1000000 in
theorem ev_ok_b1 : ∀ X, ev_okb 1 378 391 ev_gC1 ev_gM1 X = true := ev_eps (by decide +kernel)
set_option maxRecDepth 1000000 in
theorem ev_ok_b2 : ∀ X, ev_okb 44 2820 2833 ev_gC2 ev_gM2 X = true := ev_eps (by decide +kernel)
set_option maxRecDepth 1000000 in
theorem ev_ok_b3 : ∀ X, ev_okb 60 3721 3734 ev_gC3 ev_gM3 X = true := ev_eps (by decide +kernel)
set_option maxRecDepth 1000000 in
theorem ev_ok_v1 : ∀ X, ev_okv 1 0 378 391 X = true := ev_eps (by decide +kernel)
set_option maxRecDepth 1000000 in
theorem ev_ok_v30 : ∀ X, ev_okv 60 0 3721 3734 X = true := ev_eps (by decide +kernel)
set_option maxRecDepth 1000000 in
theorem ev_ok_v31 : ∀ X, ev_okv 60 1 3721 3734 X = true := ev_eps (by decide +kernel)

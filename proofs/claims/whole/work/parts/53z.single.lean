/-! a set with one element at most -/
theorem snM (a : Nat) (ha : a < 64) : (List.range 1024).all (fun b => Bool.xor (Nat.beq ((1024 * a + b) &&& (1024 * a + b - 1)) 0) (Nat.ble 2 (pcN (1024 * a + b)))) = true := (by decide +kernel : ∀ a, a < 64 → (List.range 1024).all (fun b => Bool.xor (Nat.beq ((1024 * a + b) &&& (1024 * a + b - 1)) 0) (Nat.ble 2 (pcN (1024 * a + b)))) = true) a ha

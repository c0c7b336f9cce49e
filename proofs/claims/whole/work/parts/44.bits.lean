/-! the bits of a set -/
theorem bcN_pc {n : Nat} (h : n < 65536) : bcN n = pcN n := by
  have := List.all_eq_true.mp (bcM (n / 1024) (by omega)) (n % 1024) (List.mem_range.mpr (Nat.mod_lt _ (by omega)))
  rw [Nat.div_add_mod] at this
  exact Nat.eq_of_beq_eq_true this
theorem pcN_ct (n : Nat) : pcN n = fb_ct n.testBit 16 := by
  have h : ∀ i, (if n.testBit i = true then 1 else 0) = n / 2 ^ i % 2 := fun i => by
    rw [Nat.testBit_eq_decide_div_mod_eq]
    rcases Nat.mod_two_eq_zero_or_one (n / 2 ^ i) with e | e <;> simp [e]
  simp only [fb_ct_succ, h, pcN]
  simp [fb_ct]
theorem bitCountN (w : WW) {n : Nat} (h : n < 65536) : f_J6_bitCount_0f7a4 w (nI n) = some (nI (bcN n)) := by
  have a1 : n / 2 &&& 1431655765 ≤ n / 2 := Nat.and_le_left
  have b1 : bc1 n ≤ n := by unfold bc1; omega
  have a2 : bc1 n &&& 858993459 ≤ bc1 n := Nat.and_le_left
  have a3 : bc1 n / 4 &&& 858993459 ≤ bc1 n / 4 := Nat.and_le_left
  have b2 : bc2 (bc1 n) ≤ 2 * n := by unfold bc2; omega
  have b3 : bc3 (bc2 (bc1 n)) ≤ 4 * n := by
    have : (bc2 (bc1 n) + bc2 (bc1 n) / 16) &&& 252645135 ≤ (bc2 (bc1 n) + bc2 (bc1 n) / 16) := Nat.and_le_left
    unfold bc3; omega
  have b4 : bc4 (bc3 (bc2 (bc1 n))) ≤ 8 * n := by unfold bc4; omega
  simp only [f_J6_bitCount_0f7a4, nmv, ushr32]
  rw [pk_ushrN (by omega) 1 1 rfl, show (1431655765 : Int32) = nI 1431655765 from rfl, nx_and, show 2 ^ 1 = 2 from rfl, pk_sub (by omega), show n - (n / 2 &&& 1431655765) = bc1 n from rfl]
  rw [pk_ushrN (by omega) 2 2 rfl, show (858993459 : Int32) = nI 858993459 from rfl, nx_and, nx_and, nI_add, show 2 ^ 2 = 4 from rfl, show (bc1 n &&& 858993459) + (bc1 n / 4 &&& 858993459) = bc2 (bc1 n) from rfl]
  rw [pk_ushrN (by omega) 4 4 rfl, nI_add, show (252645135 : Int32) = nI 252645135 from rfl, nx_and, show 2 ^ 4 = 16 from rfl, show (bc2 (bc1 n) + bc2 (bc1 n) / 16) &&& 252645135 = bc3 (bc2 (bc1 n)) from rfl]
  rw [pk_ushrN (by omega) 8 8 rfl, nI_add, show 2 ^ 8 = 256 from rfl, show bc3 (bc2 (bc1 n)) + bc3 (bc2 (bc1 n)) / 256 = bc4 (bc3 (bc2 (bc1 n))) from rfl]
  rw [pk_ushrN (by omega) 16 16 rfl, nI_add, show 2 ^ 16 = 65536 from rfl, show (63 : Int32) = nI 63 from rfl, nx_and]
  rfl
def cnt (P : Nat → Bool) : Nat := fb_ct P 16
theorem cnt_le (P : Nat → Bool) : cnt P ≤ 16 := fb_ct_le P 16
theorem bitCount_ev (w : WW) (P : Nat → Bool) : f_J6_bitCount_0f7a4 w (bs P) = some (nI (cnt P)) := by
  have h : mk P 16 < 65536 := mk_lt P 16
  unfold bs
  rw [bitCountN w h, bcN_pc h, pcN_ct]
  congr 2
  exact fb_ct_cong (fun k hk => by rw [mk_bit]; simp [hk])
theorem bitsM_ev (w : WW) (P : Nat → Bool) : f_X8_bits w (bs P) = some (nI (cnt P)) := by
  unfold f_X8_bits
  have h := lpf_seq (body := fun s : Int32 × Int32 => f_X8_bits_b4 w (bs P) s.1 s.2) (fun k => (nI (fb_ct P k), nI k)) 16 (nI (cnt P)) (by omega) (fun k hk => ?_) rfl
  · rw [show ((0 : Int32), (0 : Int32)) = (nI (fb_ct P 0), nI 0) from rfl, h]; rfl
  · unfold f_X8_bits_b4
    dsimp only
    rw [q_16, if_neg (nI_ge hk (by omega)), bs_has P hk, nI_1, fb_ct_succ]
    unfold nmv
    cases P k
    · show some (Sum.inl (nI (fb_ct P k) + nI 0, _)) = _
      rw [nI_add]; rfl
    · show some (Sum.inl (nI (fb_ct P k) + nI 1, _)) = _
      rw [nI_add]; rfl

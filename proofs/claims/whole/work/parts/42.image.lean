/-! images -/
def tkW (b b2 : Nat) (w : WW) : WW := sC (sC (sC (sC (sC (sC (sC (sI (sI (sI (sI w b 0 (w.1 b2 0)) b 1 (w.1 b2 1)) b 2 (w.1 b2 2)) b 3 (w.1 b2 3)) (b2 + 1) (b + 1) 0 0 16) (b2 + 2) (b + 2) 0 0 7) (b2 + 3) (b + 3) 0 0 7) (b2 + 4) (b + 4) 0 0 7) (b2 + 5) (b + 5) 0 0 112) (b2 + 6) (b + 6) 0 0 8) (b2 + 7) (b + 7) 0 0 8
theorem takeFrom_ev {b b2 : Nat} (w : WW) (h : b + 8 ≤ b2 ∨ b2 + 8 ≤ b) : f_X6_takeFrom b b2 w = some (tkW b b2 w) := by
  unfold f_X6_takeFrom
  simp only [stI, stC]
  rw [gd_t (by decide), gd_t (by decide), gd_t (by decide), gd_t (by decide), gd_t (by decide), gd_t (by decide), gd_t (by decide)]
  rw [show (sI w b 0 (w.1 b2 0)).1 b2 1 = w.1 b2 1 from sI_ne _ _ (by omega)]
  rw [show (sI (sI w b 0 (w.1 b2 0)) b 1 (w.1 b2 1)).1 b2 2 = w.1 b2 2 by rw [sI_ne _ _ (by omega), sI_ne _ _ (by omega)]]
  rw [show (sI (sI (sI w b 0 (w.1 b2 0)) b 1 (w.1 b2 1)) b 2 (w.1 b2 2)).1 b2 3 = w.1 b2 3 by rw [sI_ne _ _ (by omega), sI_ne _ _ (by omega), sI_ne _ _ (by omega)]]
  rfl
theorem tkW_out {b b2 : Nat} {w : WW} {k j : Nat} (h : ¬ (b ≤ k ∧ k ≤ b + 7)) : (tkW b b2 w).1 k j = w.1 k j := by
  unfold tkW
  rw [sC_ne _ (by omega), sC_ne _ (by omega), sC_ne _ (by omega), sC_ne _ (by omega), sC_ne _ (by omega), sC_ne _ (by omega), sC_ne _ (by omega), sI_ne _ _ (by omega), sI_ne _ _ (by omega), sI_ne _ _ (by omega), sI_ne _ _ (by omega)]
theorem tkW_0 {b b2 : Nat} {w : WW} {j : Nat} (h : j < 4) : (tkW b b2 w).1 b j = w.1 b2 j := by
  unfold tkW
  rw [sC_ne _ (by omega), sC_ne _ (by omega), sC_ne _ (by omega), sC_ne _ (by omega), sC_ne _ (by omega), sC_ne _ (by omega), sC_ne _ (by omega)]
  have : j = 0 ∨ j = 1 ∨ j = 2 ∨ j = 3 := by omega
  rcases this with rfl | rfl | rfl | rfl
  · rw [sI_ne _ _ (by omega), sI_ne _ _ (by omega), sI_ne _ _ (by omega), sI_at]
  · rw [sI_ne _ _ (by omega), sI_ne _ _ (by omega), sI_at]
  · rw [sI_ne _ _ (by omega), sI_at]
  · rw [sI_at]
def tlen (t : Nat) : Nat := if t = 1 then 16 else if t = 5 then 112 else if t = 6 ∨ t = 7 then 8 else 7
theorem cpy0 {f g : Nat → Int32} {n j : Nat} (h : j < n) : va_cpy f g 0 0 n j = f j := by
  rw [pk_cpy_in (by omega) (by omega)]
  congr 1
  omega
set_option maxHeartbeats 1000000 in
theorem tkW_t {b b2 : Nat} {w : WW} (hb : b + 8 ≤ b2 ∨ b2 + 8 ≤ b) {t j : Nat} (h1 : 1 ≤ t) (h7 : t ≤ 7) (hj : j < tlen t) : (tkW b b2 w).1 (b + t) j = w.1 (b2 + t) j := by
  have : t = 1 ∨ t = 2 ∨ t = 3 ∨ t = 4 ∨ t = 5 ∨ t = 6 ∨ t = 7 := by omega
  unfold tkW
  rcases this with rfl | rfl | rfl | rfl | rfl | rfl | rfl
  · rw [sC_ne _ (by omega), sC_ne _ (by omega), sC_ne _ (by omega), sC_ne _ (by omega), sC_ne _ (by omega), sC_ne _ (by omega), sC_at, cpy0 (by simpa [tlen] using hj), sI_ne _ _ (by omega), sI_ne _ _ (by omega), sI_ne _ _ (by omega), sI_ne _ _ (by omega)]
  · rw [sC_ne _ (by omega), sC_ne _ (by omega), sC_ne _ (by omega), sC_ne _ (by omega), sC_ne _ (by omega), sC_at, cpy0 (by simpa [tlen] using hj), sC_ne _ (by omega), sI_ne _ _ (by omega), sI_ne _ _ (by omega), sI_ne _ _ (by omega), sI_ne _ _ (by omega)]
  · rw [sC_ne _ (by omega), sC_ne _ (by omega), sC_ne _ (by omega), sC_ne _ (by omega), sC_at, cpy0 (by simpa [tlen] using hj), sC_ne _ (by omega), sC_ne _ (by omega), sI_ne _ _ (by omega), sI_ne _ _ (by omega), sI_ne _ _ (by omega), sI_ne _ _ (by omega)]
  · rw [sC_ne _ (by omega), sC_ne _ (by omega), sC_ne _ (by omega), sC_at, cpy0 (by simpa [tlen] using hj), sC_ne _ (by omega), sC_ne _ (by omega), sC_ne _ (by omega), sI_ne _ _ (by omega), sI_ne _ _ (by omega), sI_ne _ _ (by omega), sI_ne _ _ (by omega)]
  · rw [sC_ne _ (by omega), sC_ne _ (by omega), sC_at, cpy0 (by simpa [tlen] using hj), sC_ne _ (by omega), sC_ne _ (by omega), sC_ne _ (by omega), sC_ne _ (by omega), sI_ne _ _ (by omega), sI_ne _ _ (by omega), sI_ne _ _ (by omega), sI_ne _ _ (by omega)]
  · rw [sC_ne _ (by omega), sC_at, cpy0 (by simpa [tlen] using hj), sC_ne _ (by omega), sC_ne _ (by omega), sC_ne _ (by omega), sC_ne _ (by omega), sC_ne _ (by omega), sI_ne _ _ (by omega), sI_ne _ _ (by omega), sI_ne _ _ (by omega), sI_ne _ _ (by omega)]
  · rw [sC_at, cpy0 (by simpa [tlen] using hj), sC_ne _ (by omega), sC_ne _ (by omega), sC_ne _ (by omega), sC_ne _ (by omega), sC_ne _ (by omega), sC_ne _ (by omega), sI_ne _ _ (by omega), sI_ne _ _ (by omega), sI_ne _ _ (by omega), sI_ne _ _ (by omega)]
theorem CA_copy {w w' : WW} {b b2 : Nat} {im : Im} (hR : Rim im) (h0 : ∀ j, j < 4 → w'.1 b j = w.1 b2 j) (ht : ∀ t j, 1 ≤ t → t ≤ 7 → j < tlen t → w'.1 (b + t) j = w.1 (b2 + t) j) (C : CA w b2 im) : CA w' b im := by
  obtain ⟨v, U⟩ := im
  have R : Rg v := hR.1
  have hU : U.length ≤ 8 := hR.2.1
  have hq : v 0 1 ≤ 7 := R.2.1
  have ha : v 0 2 ≤ 8 := R.2.2.1
  obtain ⟨⟨c1, c2, c3, c4, c5, c6, c7⟩, d1, d2⟩ := C
  have l1 : tlen 1 = 16 := rfl
  have l2 : tlen 2 = 7 := rfl
  have l3 : tlen 3 = 7 := rfl
  have l4 : tlen 4 = 7 := rfl
  have l5 : tlen 5 = 112 := rfl
  have l6 : tlen 6 = 8 := rfl
  have l7 : tlen 7 = 8 := rfl
  refine ⟨⟨(h0 0 (by omega)).trans c1, (h0 1 (by omega)).trans c2, (h0 2 (by omega)).trans c3, fun x hx => (ht 1 x (by omega) (by omega) (by omega)).trans (c4 x hx), fun i hi => ?_, fun i x hi hx => ?_, fun i hi => ?_⟩, (h0 3 (by omega)).trans d1, TRl_congr (fun j hj => ht 7 j (by omega) (by omega) (by have : U.length = U.length := rfl; have hj : j < U.length := hj; omega)) d2⟩
  · have hi : i < v 0 1 := hi
    exact ⟨(ht 2 i (by omega) (by omega) (by omega)).trans (c5 i hi).1, (ht 3 i (by omega) (by omega) (by omega)).trans (c5 i hi).2.1, (ht 4 i (by omega) (by omega) (by omega)).trans (c5 i hi).2.2⟩
  · have hi : i < v 0 1 := hi
    exact (ht 5 _ (by omega) (by omega) (by omega)).trans (c6 i x hi hx)
  · have hi : i < v 0 2 := hi
    exact (ht 6 _ (by omega) (by omega) (by omega)).trans (c7 i hi)
theorem imageAt_ev (w : WW) {i : Nat} (hi : i < 2) : f_X7_imageAt w (nI i) = some (9 + 8 * i) := by
  have : i = 0 ∨ i = 1 := by omega
  rcases this with rfl | rfl <;> rfl
def imU (S : StT) (i : Nat) : StT := (S.1, fun j => if j = i then some S.1 else S.2.1 j, S.2.2)
theorem imageC {w : WW} {S : StT} (I : SInv S) (C : CInv w S) {i : Nat} (hi : i < 2) : OpC w (f_X7_image w (nI i)) 1 (imU S i) := by
  have hx : inb (nI i) 2 := inb_n hi (by omega)
  refine ⟨sI (tkW (9 + 8 * i) 1 w) 25 i 1, ?_, fun k hk => ⟨funext fun j => by rw [sI_ne _ _ (by omega), tkW_out (by omega)], rfl⟩, ?_⟩
  · simp only [f_X7_image, within_nn (n := 2) w (nI i) (show (1 : Int32) = nI 2 - 1 from rfl) (by omega), Option.bind_some, if_pos hx]
    rw [if_neg (by decide), imageAt_ev w hi, Option.bind_some, takeFrom_ev w (by omega), Option.bind_some, gd_t hx, cl_n (by omega)]
    rfl
  · obtain ⟨c1, c2, c3, c4, c5⟩ := C
    refine ⟨CA_congr (fun k j h1 h2 => by rw [sI_ne _ _ (by omega), tkW_out (by omega)]) c1, fun j hj => ?_, ⟨by rw [sI_ne _ _ (by omega), tkW_out (by omega)]; exact c3.1, fun j hj => by rw [sI_ne _ _ (by omega), tkW_out (by omega)]; exact c3.2 j hj⟩, c4, fun j hj => by rw [sI_ne _ _ (by omega), tkW_out (by omega)]; exact c5 j hj⟩
    show CImg _ j (if j = i then some S.1 else S.2.1 j)
    by_cases e : j = i
    · subst e
      rw [if_pos rfl]
      exact ⟨sI_at _ _ _ _, CA_copy I.1 (fun k hk => by rw [sI_ne _ _ (by omega)]; exact tkW_0 hk) (fun t k h1 h7 hk => by rw [sI_ne _ _ (by omega)]; exact tkW_t (by omega) h1 h7 hk) c1⟩
    · rw [if_neg e]
      exact CImg_congr (by rw [sI_ne _ _ (by omega), tkW_out (by omega)]) (fun k l h1 h2 => by rw [sI_ne _ _ (by omega), tkW_out (by omega)]) (c2 j hj)
/-- what the reference's image rows hold -/
theorem imageM {w : WW} {S : StT} (I : SInv S) (M : MInv w S) {i : Nat} (hi : i < 2) : OpM w (f_X8_image w (nI i)) 1 (imU S i) := by
  have hx : inb (nI i) 2 := inb_n hi (by omega)
  generalize hz : sI (sI (sI (sI w 63 (193 * i) (w.1 46 1)) 63 (193 * i + 1) (w.1 46 2)) 63 (193 * i + 2) (w.1 46 3)) 63 (193 * i + 3) (w.1 46 18) = z
  have z0 : ∀ k j, k ≠ 63 → z.1 k j = w.1 k j := fun k j hk => by rw [← hz, sI_ne _ _ (by omega), sI_ne _ _ (by omega), sI_ne _ _ (by omega), sI_ne _ _ (by omega)]
  have z1 : ∀ j, j < 193 * i ∨ 193 * i + 4 ≤ j → z.1 63 j = w.1 63 j := fun j hj => by rw [← hz, sI_ne _ _ (by omega), sI_ne _ _ (by omega), sI_ne _ _ (by omega), sI_ne _ _ (by omega)]
  have L1 : Ev (lpf (fun s : Int32 × WW => f_X8_image_b68 (nI (193 * i)) s.1 s.2) FU (nI 0, z)) (fun u => (∀ k j, k ≠ 63 → u.1 k j = w.1 k j) ∧ u.2 = w.2 ∧ (∀ j, j < 193 * i + 4 ∨ 193 * i + 36 ≤ j → u.1 63 j = z.1 63 j) ∧ ∀ j, j < 16 → u.1 63 (193 * i + 4 + j) = w.1 48 j ∧ u.1 63 (193 * i + 20 + j) = w.1 52 j) := by
    refine lpf_inv (fun k s => s.1 = nI k ∧ (∀ k' j, k' ≠ 63 → s.2.1 k' j = w.1 k' j) ∧ s.2.2 = w.2 ∧ (∀ j, j < 193 * i + 4 ∨ 193 * i + 36 ≤ j → s.2.1 63 j = z.1 63 j) ∧ ∀ j, j < k → s.2.1 63 (193 * i + 4 + j) = w.1 48 j ∧ s.2.1 63 (193 * i + 20 + j) = w.1 52 j) _ 16 (by omega) ⟨rfl, z0, by rw [← hz]; rfl, fun _ _ => rfl, fun j hj => by omega⟩ (fun k s hk hI => Or.inl ?_) (fun s hI => ?_)
    · obtain ⟨x, u⟩ := s
      obtain ⟨rfl, i1, i2, i3, i4⟩ := hI
      refine ⟨(nI (k + 1), sI (sI u 63 (193 * i + 4 + k) (w.1 48 k)) 63 (193 * i + 20 + k) (w.1 52 k)), ?_, rfl, fun k' j h => ?_, i2, fun j hj => ?_, fun j hj => ?_⟩
      · show f_X8_image_b68 (nI (193 * i)) (nI k) u = _
        unfold f_X8_image_b68
        rw [q_16, if_neg (nI_ge hk (by omega)), gd_t (inb_n hk (by omega)), show (4 : Int32) = nI 4 from rfl, show (20 : Int32) = nI 20 from rfl, nI_add, nI_add, nI_add, nI_add, gd_t (inb_n (by omega) (by omega)), cl_n (by omega), cl_n (by omega), cl_n (by omega)]
        simp only [stI]
        rw [gd_t (inb_n hk (by omega)), gd_t (inb_n (by omega) (by omega)), sI_ne _ _ (by omega), i1 _ _ (by omega), i1 _ _ (by omega), nI_1]
      · show (sI (sI u 63 (193 * i + 4 + k) (w.1 48 k)) 63 (193 * i + 20 + k) (w.1 52 k)).1 k' j = _
        rw [sI_ne _ _ (by omega), sI_ne _ _ (by omega)]; exact i1 k' j h
      · show (sI (sI u 63 (193 * i + 4 + k) (w.1 48 k)) 63 (193 * i + 20 + k) (w.1 52 k)).1 63 j = _
        rw [sI_ne _ _ (by omega), sI_ne _ _ (by omega)]; exact i3 j hj
      · show (sI (sI u 63 (193 * i + 4 + k) (w.1 48 k)) 63 (193 * i + 20 + k) (w.1 52 k)).1 63 _ = _ ∧ (sI (sI u 63 (193 * i + 4 + k) (w.1 48 k)) 63 (193 * i + 20 + k) (w.1 52 k)).1 63 _ = _
        by_cases e : j = k
        · subst e; rw [sI_ne _ _ (by omega), sI_at, sI_at]; exact ⟨rfl, rfl⟩
        · rw [sI_ne _ _ (by omega), sI_ne _ _ (by omega), sI_ne _ _ (by omega), sI_ne _ _ (by omega)]; exact i4 j (by omega)
    · obtain ⟨x, u⟩ := s
      obtain ⟨rfl, i1, i2, i3, i4⟩ := hI
      exact ⟨u, rfl, i1, i2, i3, i4⟩
  obtain ⟨r1, E1, a1, a2, a3, a4⟩ := L1
  have L2 : Ev (lpf (fun s : Int32 × WW => f_X8_image_b115 (nI (193 * i)) s.1 s.2) FU (nI 0, r1)) (fun u => (∀ k j, k ≠ 63 → u.1 k j = w.1 k j) ∧ u.2 = w.2 ∧ (∀ j, j < 193 * i + 36 ∨ 193 * i + 57 ≤ j → u.1 63 j = r1.1 63 j) ∧ ∀ j, j < 7 → u.1 63 (193 * i + 36 + j) = w.1 49 j ∧ u.1 63 (193 * i + 43 + j) = w.1 50 j ∧ u.1 63 (193 * i + 50 + j) = w.1 51 j) := by
    refine lpf_inv (fun k s => s.1 = nI k ∧ (∀ k' j, k' ≠ 63 → s.2.1 k' j = w.1 k' j) ∧ s.2.2 = w.2 ∧ (∀ j, j < 193 * i + 36 ∨ 193 * i + 57 ≤ j → s.2.1 63 j = r1.1 63 j) ∧ ∀ j, j < k → s.2.1 63 (193 * i + 36 + j) = w.1 49 j ∧ s.2.1 63 (193 * i + 43 + j) = w.1 50 j ∧ s.2.1 63 (193 * i + 50 + j) = w.1 51 j) _ 7 (by omega) ⟨rfl, a1, a2, fun _ _ => rfl, fun j hj => by omega⟩ (fun k s hk hI => Or.inl ?_) (fun s hI => ?_)
    · obtain ⟨x, u⟩ := s
      obtain ⟨rfl, i1, i2, i3, i4⟩ := hI
      refine ⟨(nI (k + 1), sI (sI (sI u 63 (193 * i + 36 + k) (w.1 49 k)) 63 (193 * i + 43 + k) (w.1 50 k)) 63 (193 * i + 50 + k) (w.1 51 k)), ?_, rfl, fun k' j h => ?_, i2, fun j hj => ?_, fun j hj => ?_⟩
      · show f_X8_image_b115 (nI (193 * i)) (nI k) u = _
        unfold f_X8_image_b115
        rw [show (7 : Int32) = nI 7 from rfl, if_neg (nI_ge hk (by omega)), gd_t (inb_n hk (by omega)), show (36 : Int32) = nI 36 from rfl, show (43 : Int32) = nI 43 from rfl, show (50 : Int32) = nI 50 from rfl, nI_add, nI_add, nI_add, nI_add, nI_add, nI_add, gd_t (inb_n (by omega) (by omega)), cl_n (by omega), cl_n (by omega), cl_n (by omega), cl_n (by omega)]
        simp only [stI]
        rw [gd_t (inb_n hk (by omega)), gd_t (inb_n (by omega) (by omega)), gd_t (inb_n hk (by omega)), gd_t (inb_n (by omega) (by omega)), i1 _ _ (by omega), show (sI u 63 (193 * i + 36 + k) (w.1 49 k)).1 50 k = w.1 50 k by rw [sI_ne _ _ (by omega)]; exact i1 _ _ (by omega), show (sI (sI u 63 (193 * i + 36 + k) (w.1 49 k)) 63 (193 * i + 43 + k) (w.1 50 k)).1 51 k = w.1 51 k by rw [sI_ne _ _ (by omega), sI_ne _ _ (by omega)]; exact i1 _ _ (by omega), nI_1]
      · show (sI (sI (sI u 63 (193 * i + 36 + k) (w.1 49 k)) 63 (193 * i + 43 + k) (w.1 50 k)) 63 (193 * i + 50 + k) (w.1 51 k)).1 k' j = _
        rw [sI_ne _ _ (by omega), sI_ne _ _ (by omega), sI_ne _ _ (by omega)]; exact i1 k' j h
      · show (sI (sI (sI u 63 (193 * i + 36 + k) (w.1 49 k)) 63 (193 * i + 43 + k) (w.1 50 k)) 63 (193 * i + 50 + k) (w.1 51 k)).1 63 j = _
        rw [sI_ne _ _ (by omega), sI_ne _ _ (by omega), sI_ne _ _ (by omega)]; exact i3 j hj
      · dsimp only
        by_cases e : j = k
        · subst e
          refine ⟨?_, ?_, ?_⟩
          · rw [sI_ne _ _ (by omega), sI_ne _ _ (by omega), sI_at]
          · rw [sI_ne _ _ (by omega), sI_at]
          · rw [sI_at]
        · obtain ⟨q1, q2, q3⟩ := i4 j (by omega)
          refine ⟨?_, ?_, ?_⟩
          · rw [sI_ne _ _ (by omega), sI_ne _ _ (by omega), sI_ne _ _ (by omega)]; exact q1
          · rw [sI_ne _ _ (by omega), sI_ne _ _ (by omega), sI_ne _ _ (by omega)]; exact q2
          · rw [sI_ne _ _ (by omega), sI_ne _ _ (by omega), sI_ne _ _ (by omega)]; exact q3
    · obtain ⟨x, u⟩ := s
      obtain ⟨rfl, i1, i2, i3, i4⟩ := hI
      exact ⟨u, rfl, i1, i2, i3, i4⟩
  obtain ⟨r2, E2, b1, b2, b3, b4⟩ := L2
  have E3 : lpf (fun s : Int32 × WW => f_X8_image_b180 (nI (193 * i)) s.1 s.2) FU (nI 0, r2) = some (fillF r2 63 (193 * i + 57) (w.1 56) 136) := by
    refine lpf_seq (fun k => (nI k, fillF r2 63 (193 * i + 57) (w.1 56) k)) 136 _ (by omega) (fun k hk => ?_) rfl
    unfold f_X8_image_b180
    dsimp only
    rw [show (136 : Int32) = nI 136 from rfl, if_neg (nI_ge hk (by omega)), gd_t (inb_n hk (by omega)), show (57 : Int32) = nI 57 from rfl, nI_add, nI_add, gd_t (inb_n (by omega) (by omega)), cl_n (by omega), cl_n (by omega)]
    unfold stI
    rw [nI_1, fillF_ne _ _ _ _ (by omega), b1 _ _ (by omega)]
    rfl
  have out : ∀ j, j < 193 * i ∨ 193 * i + 193 ≤ j → (fillF r2 63 (193 * i + 57) (w.1 56) 136).1 63 j = w.1 63 j := fun j hj => by
    rw [fillF_out _ _ _ _ _ (by omega), b3 j (by omega), a3 j (by omega), z1 j (by omega)]
  refine ⟨fillF r2 63 (193 * i + 57) (w.1 56) 136, ?_, fun k hk => ⟨funext fun j => by rw [fillF_ne _ _ _ _ (by omega)]; exact b1 k j (by omega), by rw [fillF_2, b2]⟩, ?_⟩
  · simp only [f_X8_image, in_nn (n := 2) w (nI i) (show (1 : Int32) = nI 2 - 1 from rfl) (by omega), Option.bind_some, if_pos hx, nmv, stI]
    rw [if_neg (by decide), show (193 : Int32) = nI 193 from rfl, pk_mul, nI_1, gd_t (inb_n (by omega) (by omega)), gd_t (inb_n (by omega) (by omega)), q_2, nI_add, gd_t (inb_n (by omega) (by omega)), show (3 : Int32) = nI 3 from rfl, nI_add, gd_t (inb_n (by omega) (by omega)), cl_n (by omega), cl_n (by omega), cl_n (by omega), cl_n (by omega)]
    rw [show (sI w 63 (193 * i) (w.1 46 1)).1 46 2 = w.1 46 2 from sI_ne _ _ (by omega), show (sI (sI w 63 (193 * i) (w.1 46 1)) 63 (193 * i + 1) (w.1 46 2)).1 46 3 = w.1 46 3 by rw [sI_ne _ _ (by omega), sI_ne _ _ (by omega)], show (sI (sI (sI w 63 (193 * i) (w.1 46 1)) 63 (193 * i + 1) (w.1 46 2)) 63 (193 * i + 2) (w.1 46 3)).1 46 18 = w.1 46 18 by rw [sI_ne _ _ (by omega), sI_ne _ _ (by omega), sI_ne _ _ (by omega)], hz, show (0 : Int32) = nI 0 from rfl, E1, Option.bind_some, E2, Option.bind_some, E3, Option.bind_some]
  · obtain ⟨c1, c2, c3, c4, c5⟩ := M
    have sm : ∀ k j, k ≠ 63 → (fillF r2 63 (193 * i + 57) (w.1 56) 136).1 k j = w.1 k j := fun k j hk => by rw [fillF_ne _ _ _ _ hk]; exact b1 k j hk
    refine ⟨MA_congr (fun j hj => sm _ _ (by omega)) (fun k j hk => sm _ _ (by omega)) c1, fun j hj => ?_, ⟨(sm _ _ (by omega)).trans c3.1, fun j hj => (sm _ _ (by omega)).trans (c3.2 j hj)⟩, by rw [fillF_2, b2]; exact c4, fun j hj => (sm _ _ (by omega)).trans (c5 j hj)⟩
    show MImg _ j (if j = i then some S.1 else S.2.1 j)
    by_cases e : j = i
    · subst e
      rw [if_pos rfl]
      obtain ⟨⟨v, U⟩, S2⟩ := S
      have R : Rg v := I.1.1
      have hU : U.length ≤ 8 := I.1.2.1
      have hU8 : ∀ T ∈ U, T.length ≤ 8 := fun T h => (I.1.2.2 T h).1
      have hq : v 0 1 ≤ 7 := R.2.1
      have ha : v 0 2 ≤ 8 := R.2.2.1
      obtain ⟨m1, m2, m3, m4, m5, m6, m7, m8⟩ := c1
      have num : ∀ t, t < 4 → (fillF r2 63 (193 * j + 57) (w.1 56) 136).1 63 (193 * j + t) = z.1 63 (193 * j + t) := fun t ht => by rw [fillF_out _ _ _ _ _ (by omega), b3 _ (by omega), a3 _ (by omega)]
      refine ⟨?_, ?_, ?_, ?_, fun x hx => ?_, fun k hk => ?_, fun k hk => ?_, AH_congr hU8 (fun k hk => ?_) m8⟩
      · refine (num 0 (by omega)).trans ?_
        rw [← hz, sI_ne _ _ (by omega), sI_ne _ _ (by omega), sI_ne _ _ (by omega)]
        exact (sI_at _ _ _ _).trans m1
      · rw [num 1 (by omega), ← hz, sI_ne _ _ (by omega), sI_ne _ _ (by omega), sI_at]; exact m2
      · rw [num 2 (by omega), ← hz, sI_ne _ _ (by omega), sI_at]; exact m3
      · rw [num 3 (by omega), ← hz, sI_at]; exact m4
      · dsimp only
        rw [fillF_out _ _ _ _ _ (by omega), b3 _ (by omega), (a4 x hx).1]; exact m5 x hx
      · have hk : k < v 0 1 := hk
        dsimp only
        rw [fillF_out _ _ _ _ _ (by omega), fillF_out _ _ _ _ _ (by omega), fillF_out _ _ _ _ _ (by omega), (b4 k (by omega)).1, (b4 k (by omega)).2.1, (b4 k (by omega)).2.2]; exact m6 k hk
      · have hk : k < v 0 2 := hk
        dsimp only
        rw [fillF_out _ _ _ _ _ (by omega), fillF_out _ _ _ _ _ (by omega), b3 _ (by omega), b3 _ (by omega), show 193 * j + 20 + (2 * k + 1) = 193 * j + 20 + (2 * k + 1) from rfl, (a4 (2 * k) (by omega)).2, (a4 (2 * k + 1) (by omega)).2]; exact m7 k hk
      · have hk : k < 17 * U.length := hk
        exact fillF_in _ _ _ _ _ (by omega)
    · rw [if_neg e]
      have c := c2 j hj
      cases ho : S.2.1 j with
      | none => rw [ho] at c; exact (out _ (by omega)).trans c
      | some im =>
        rw [ho] at c
        have hRi := I.2.1 j im hj ho
        obtain ⟨v, U⟩ := im
        have R : Rg v := hRi.1
        have hU : U.length ≤ 8 := hRi.2.1
        have hU8 : ∀ T ∈ U, T.length ≤ 8 := fun T h => (hRi.2.2 T h).1
        have hq : v 0 1 ≤ 7 := R.2.1
        have ha : v 0 2 ≤ 8 := R.2.2.1
        obtain ⟨m1, m2, m3, m4, m5, m6, m7, m8⟩ := c
        have ij : (i = 0 ∧ j = 1) ∨ (i = 1 ∧ j = 0) := by omega
        refine ⟨(out _ (by omega)).trans m1, (out _ (by omega)).trans m2, (out _ (by omega)).trans m3, (out _ (by omega)).trans m4, fun x hx => (out _ (by omega)).trans (m5 x hx), fun k hk => ?_, fun k hk => ?_, AH_congr hU8 (fun k hk => ?_) m8⟩
        · have hk : k < v 0 1 := hk
          exact ⟨(out _ (by omega)).trans (m6 k hk).1, (out _ (by omega)).trans (m6 k hk).2.1, (out _ (by omega)).trans (m6 k hk).2.2⟩
        · have hk : k < v 0 2 := hk
          exact ⟨(out _ (by omega)).trans (m7 k hk).1, (out _ (by omega)).trans (m7 k hk).2⟩
        · have hk : k < 17 * U.length := hk
          exact out _ (by omega)
theorem image_ok {w : WW} {S : StT} (I : SInv S) (C : CInv w S) (M : MInv w S) (x : Int32) : Both (f_X7_image w x) (fun w => f_X8_image w x) := by
  by_cases hx : inb x 2
  · obtain ⟨i, hi, rfl⟩ := inb_of hx (by omega)
    refine Both.of (S' := imU S i) (r := 1) M ⟨I.1, fun j im hj h => ?_, I.2.2.1, I.2.2.2⟩ (imageC I C hi) (fun w' M' => imageM I M' hi)
    have h : (if j = i then some S.1 else S.2.1 j) = some im := h
    by_cases e : j = i
    · rw [if_pos e] at h; cases h; exact I.1
    · rw [if_neg e] at h; exact I.2.1 j im hj h
  · exact both_ref I C M (-2) 0 (by omega) (by simp only [f_X7_image, within_nn (n := 2) w x (show (1 : Int32) = nI 2 - 1 from rfl) (by omega), Option.bind_some, if_neg hx, refuse_0]; rfl) (fun w' M' => by simp only [f_X8_image, in_nn (n := 2) w' x (show (1 : Int32) = nI 2 - 1 from rfl) (by omega), Option.bind_some, if_neg hx, bad_0]; rfl)

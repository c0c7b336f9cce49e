/-! back from an image -/
theorem fromM {w : WW} {S : StT} {im : Im} (I : SInv S) (M : MInv w S) {i : Nat} (hi : i < 2) (hm : S.2.1 i = some im) : OpM w (f_X8_from w (nI i)) 1 (im, S.2) := by
  have hx : inb (nI i) 2 := inb_n hi (by omega)
  have A : MI w i im := by have := M.2.1 i hi; rw [hm] at this; exact this
  obtain ⟨v, U⟩ := im
  have hR : Rim (v, U) := I.2.1 i _ hi hm
  have R : Rg v := hR.1
  have hU : U.length ≤ 8 := hR.2.1
  have hU8 : ∀ T ∈ U, T.length ≤ 8 := fun T h => (hR.2.2 T h).1
  have hq : v 0 1 ≤ 7 := R.2.1
  have ha : v 0 2 ≤ 8 := R.2.2.1
  have hn1 : 1 ≤ v 0 0 := R.1.1
  have hn16 : v 0 0 ≤ 16 := R.1.2
  obtain ⟨m1, m2, m3, m4, m5, m6, m7, m8⟩ := A
  have n0 : ¬ w.1 63 (193 * i) = 0 := by
    rw [m1]
    show ¬ nI (v 0 0) = nI 0
    rw [nI_eq (by omega) (by omega)]; omega
  generalize hz : sI (sI (sI (sI w 46 1 (w.1 63 (193 * i))) 46 2 (w.1 63 (193 * i + 1))) 46 3 (w.1 63 (193 * i + 2))) 46 18 (w.1 63 (193 * i + 3)) = z
  have z0 : ∀ k j, k ≠ 46 → z.1 k j = w.1 k j := fun k j hk => by rw [← hz, sI_ne _ _ (by omega), sI_ne _ _ (by omega), sI_ne _ _ (by omega), sI_ne _ _ (by omega)]
  have z1 : ∀ j, ¬ (j = 1 ∨ j = 2 ∨ j = 3 ∨ j = 18) → z.1 46 j = w.1 46 j := fun j hj => by rw [← hz, sI_ne _ _ (by omega), sI_ne _ _ (by omega), sI_ne _ _ (by omega), sI_ne _ _ (by omega)]
  have L1 : Ev (lpf (fun s : Int32 × WW => f_X8_from_b82 (nI (193 * i)) s.1 s.2) FU (nI 0, z)) (fun u => (∀ k j, k ≠ 48 → k ≠ 52 → u.1 k j = z.1 k j) ∧ u.2 = w.2 ∧ ∀ j, j < 16 → u.1 48 j = w.1 63 (193 * i + 4 + j) ∧ u.1 52 j = w.1 63 (193 * i + 20 + j)) := by
    refine lpf_inv (fun k s => s.1 = nI k ∧ (∀ k' j, k' ≠ 48 → k' ≠ 52 → s.2.1 k' j = z.1 k' j) ∧ s.2.2 = w.2 ∧ ∀ j, j < k → s.2.1 48 j = w.1 63 (193 * i + 4 + j) ∧ s.2.1 52 j = w.1 63 (193 * i + 20 + j)) _ 16 (by omega) ⟨rfl, fun _ _ _ _ => rfl, by rw [← hz]; rfl, fun j hj => by omega⟩ (fun k s hk hI => Or.inl ?_) (fun s hI => ?_)
    · obtain ⟨x, u⟩ := s
      obtain ⟨rfl, i1, i2, i4⟩ := hI
      refine ⟨(nI (k + 1), sI (sI u 48 k (w.1 63 (193 * i + 4 + k))) 52 k (w.1 63 (193 * i + 20 + k))), ?_, rfl, fun k' j h h' => ?_, i2, fun j hj => ?_⟩
      · show f_X8_from_b82 (nI (193 * i)) (nI k) u = _
        unfold f_X8_from_b82
        rw [q_16, if_neg (nI_ge hk (by omega)), show (4 : Int32) = nI 4 from rfl, show (20 : Int32) = nI 20 from rfl, nI_add, nI_add, nI_add, nI_add, gd_t (inb_n (by omega) (by omega)), gd_t (inb_n hk (by omega)), cl_n (by omega), cl_n (by omega), cl_n (by omega)]
        simp only [stI]
        rw [gd_t (inb_n (by omega) (by omega)), gd_t (inb_n hk (by omega)), sI_ne _ _ (by omega), i1 _ _ (by omega) (by omega), i1 _ _ (by omega) (by omega), z0 _ _ (by omega), z0 _ _ (by omega), nI_1]
      · show (sI (sI u 48 k (w.1 63 (193 * i + 4 + k))) 52 k (w.1 63 (193 * i + 20 + k))).1 k' j = _
        rw [sI_ne _ _ (by omega), sI_ne _ _ (by omega)]; exact i1 k' j h h'
      · dsimp only
        by_cases e : j = k
        · subst e; rw [sI_ne _ _ (by omega), sI_at, sI_at]; exact ⟨rfl, rfl⟩
        · rw [sI_ne _ _ (by omega), sI_ne _ _ (by omega), sI_ne _ _ (by omega), sI_ne _ _ (by omega)]; exact i4 j (by omega)
    · obtain ⟨x, u⟩ := s
      obtain ⟨rfl, i1, i2, i4⟩ := hI
      exact ⟨u, rfl, i1, i2, i4⟩
  obtain ⟨r1, E1, a1, a2, a4⟩ := L1
  have L2 : Ev (lpf (fun s : Int32 × WW => f_X8_from_b129 (nI (193 * i)) s.1 s.2) FU (nI 0, r1)) (fun u => (∀ k j, k ≠ 49 → k ≠ 50 → k ≠ 51 → u.1 k j = r1.1 k j) ∧ u.2 = w.2 ∧ ∀ j, j < 7 → u.1 49 j = w.1 63 (193 * i + 36 + j) ∧ u.1 50 j = w.1 63 (193 * i + 43 + j) ∧ u.1 51 j = w.1 63 (193 * i + 50 + j)) := by
    refine lpf_inv (fun k s => s.1 = nI k ∧ (∀ k' j, k' ≠ 49 → k' ≠ 50 → k' ≠ 51 → s.2.1 k' j = r1.1 k' j) ∧ s.2.2 = w.2 ∧ ∀ j, j < k → s.2.1 49 j = w.1 63 (193 * i + 36 + j) ∧ s.2.1 50 j = w.1 63 (193 * i + 43 + j) ∧ s.2.1 51 j = w.1 63 (193 * i + 50 + j)) _ 7 (by omega) ⟨rfl, fun _ _ _ _ _ => rfl, a2, fun j hj => by omega⟩ (fun k s hk hI => Or.inl ?_) (fun s hI => ?_)
    · obtain ⟨x, u⟩ := s
      obtain ⟨rfl, i1, i2, i4⟩ := hI
      have e63 : ∀ j, u.1 63 j = w.1 63 j := fun j => by rw [i1 _ _ (by omega) (by omega) (by omega), a1 _ _ (by omega) (by omega), z0 _ _ (by omega)]
      refine ⟨(nI (k + 1), sI (sI (sI u 49 k (w.1 63 (193 * i + 36 + k))) 50 k (w.1 63 (193 * i + 43 + k))) 51 k (w.1 63 (193 * i + 50 + k))), ?_, rfl, fun k' j h h' h'' => ?_, i2, fun j hj => ?_⟩
      · show f_X8_from_b129 (nI (193 * i)) (nI k) u = _
        unfold f_X8_from_b129
        rw [show (7 : Int32) = nI 7 from rfl, if_neg (nI_ge hk (by omega)), show (36 : Int32) = nI 36 from rfl, show (43 : Int32) = nI 43 from rfl, show (50 : Int32) = nI 50 from rfl, nI_add, nI_add, nI_add, nI_add, nI_add, nI_add, gd_t (inb_n (by omega) (by omega)), gd_t (inb_n hk (by omega)), cl_n (by omega), cl_n (by omega), cl_n (by omega), cl_n (by omega)]
        simp only [stI]
        rw [gd_t (inb_n (by omega) (by omega)), gd_t (inb_n hk (by omega)), gd_t (inb_n (by omega) (by omega)), gd_t (inb_n hk (by omega)), e63, show (sI u 49 k (w.1 63 (193 * i + 36 + k))).1 63 (193 * i + 43 + k) = w.1 63 (193 * i + 43 + k) by rw [sI_ne _ _ (by omega)]; exact e63 _, show (sI (sI u 49 k (w.1 63 (193 * i + 36 + k))) 50 k (w.1 63 (193 * i + 43 + k))).1 63 (193 * i + 50 + k) = w.1 63 (193 * i + 50 + k) by rw [sI_ne _ _ (by omega), sI_ne _ _ (by omega)]; exact e63 _, nI_1]
      · dsimp only
        rw [sI_ne _ _ (by omega), sI_ne _ _ (by omega), sI_ne _ _ (by omega)]; exact i1 k' j h h' h''
      · dsimp only
        by_cases e : j = k
        · subst e
          refine ⟨?_, ?_, ?_⟩
          · rw [sI_ne _ _ (by omega), sI_ne _ _ (by omega), sI_at]
          · rw [sI_ne _ _ (by omega), sI_at]
          · rw [sI_at]
        · obtain ⟨q1, q2, q3⟩ := i4 j (by omega)
          refine ⟨?_, ?_, ?_⟩
          · rw [sI_ne _ _ (by omega), sI_ne _ _ (by omega), sI_ne _ _ (by omega)]; exact q1
          · rw [sI_ne _ _ (by omega), sI_ne _ _ (by omega), sI_ne _ _ (by omega)]; exact q2
          · rw [sI_ne _ _ (by omega), sI_ne _ _ (by omega), sI_ne _ _ (by omega)]; exact q3
    · obtain ⟨x, u⟩ := s
      obtain ⟨rfl, i1, i2, i4⟩ := hI
      exact ⟨u, rfl, i1, i2, i4⟩
  obtain ⟨r2, E2, b1, b2, b4⟩ := L2
  have e63 : ∀ j, r2.1 63 j = w.1 63 j := fun j => by rw [b1 _ _ (by omega) (by omega) (by omega), a1 _ _ (by omega) (by omega), z0 _ _ (by omega)]
  have E3 : lpf (fun s : Int32 × WW => f_X8_from_b194 (nI (193 * i)) s.1 s.2) FU (nI 0, r2) = some (fillF r2 56 0 (fun k => w.1 63 (193 * i + 57 + k)) 136) := by
    refine lpf_seq (fun k => (nI k, fillF r2 56 0 (fun k => w.1 63 (193 * i + 57 + k)) k)) 136 _ (by omega) (fun k hk => ?_) rfl
    unfold f_X8_from_b194
    dsimp only
    rw [show (136 : Int32) = nI 136 from rfl, if_neg (nI_ge hk (by omega)), show (57 : Int32) = nI 57 from rfl, nI_add, nI_add, gd_t (inb_n (by omega) (by omega)), gd_t (inb_n hk (by omega)), cl_n (by omega), cl_n (by omega)]
    unfold stI
    rw [nI_1, fillF_ne _ _ _ _ (by omega), e63, fillF, Nat.zero_add]
  generalize hr : fillF r2 56 0 (fun k => w.1 63 (193 * i + 57 + k)) 136 = r at E3
  have rne : ∀ k j, k ≠ 56 → r.1 k j = r2.1 k j := fun k j hk => by rw [← hr, fillF_ne _ _ _ _ hk]
  have r56 : ∀ j, j < 136 → r.1 56 j = w.1 63 (193 * i + 57 + j) := fun j hj => by
    have := fillF_in r2 56 0 (fun k => w.1 63 (193 * i + 57 + k)) 136 hj
    rw [Nat.zero_add, hr] at this
    exact this
  have r46 : ∀ j, r.1 46 j = z.1 46 j := fun j => by rw [rne _ _ (by omega), b1 _ _ (by omega) (by omega) (by omega), a1 _ _ (by omega) (by omega)]
  have sm : ∀ k j, ¬ ((k = 46 ∧ (j = 1 ∨ j = 2 ∨ j = 3 ∨ j = 18)) ∨ (48 ≤ k ∧ k ≤ 52) ∨ k = 56) → r.1 k j = w.1 k j := fun k j h => by
    rw [rne _ _ (by omega), b1 _ _ (by omega) (by omega) (by omega), a1 _ _ (by omega) (by omega)]
    by_cases e : k = 46
    · subst e; exact z1 j (by omega)
    · exact z0 k j e
  have r2e : r.2 = w.2 := by rw [← hr, fillF_2, b2]
  refine ⟨r, ?_, fun k hk => ⟨funext fun j => sm k j (by omega), by rw [r2e]⟩, M.st (S := S) (im' := (v, U)) sm r2e ?_⟩
  · simp only [f_X8_from, in_nn (n := 2) w (nI i) (show (1 : Int32) = nI 2 - 1 from rfl) (by omega), Option.bind_some, if_pos hx, nmv, stI]
    rw [if_neg (by decide), show (193 : Int32) = nI 193 from rfl, pk_mul, nI_1, gd_t (inb_n (by omega) (by omega)), cl_n (by omega), if_neg n0, gd_t (inb_n (by omega) (by omega)), gd_t (inb_n (by omega) (by omega)), q_2, nI_add, gd_t (inb_n (by omega) (by omega)), show (3 : Int32) = nI 3 from rfl, nI_add, gd_t (inb_n (by omega) (by omega)), cl_n (by omega), cl_n (by omega), cl_n (by omega)]
    rw [show (sI w 46 1 (w.1 63 (193 * i))).1 63 (193 * i + 1) = w.1 63 (193 * i + 1) from sI_ne _ _ (by omega), show (sI (sI w 46 1 (w.1 63 (193 * i))) 46 2 (w.1 63 (193 * i + 1))).1 63 (193 * i + 2) = w.1 63 (193 * i + 2) by rw [sI_ne _ _ (by omega), sI_ne _ _ (by omega)], show (sI (sI (sI w 46 1 (w.1 63 (193 * i))) 46 2 (w.1 63 (193 * i + 1))) 46 3 (w.1 63 (193 * i + 2))).1 63 (193 * i + 3) = w.1 63 (193 * i + 3) by rw [sI_ne _ _ (by omega), sI_ne _ _ (by omega), sI_ne _ _ (by omega)], hz, show (0 : Int32) = nI 0 from rfl, E1, Option.bind_some, E2, Option.bind_some, E3, Option.bind_some]
  · refine ⟨?_, ?_, ?_, ?_, fun x hx => ?_, fun k hk => ?_, fun k hk => ?_, AH_congr hU8 (fun k hk => ?_) m8⟩
    · rw [r46, ← hz, sI_ne _ _ (by omega), sI_ne _ _ (by omega), sI_ne _ _ (by omega), sI_at]; exact m1
    · rw [r46, ← hz, sI_ne _ _ (by omega), sI_ne _ _ (by omega), sI_at]; exact m2
    · rw [r46, ← hz, sI_ne _ _ (by omega), sI_at]; exact m3
    · rw [r46, ← hz, sI_at]; exact m4
    · rw [rne _ _ (by omega), b1 _ _ (by omega) (by omega) (by omega), (a4 x hx).1]; exact m5 x hx
    · have hk : k < v 0 1 := hk
      rw [rne _ _ (by omega), rne _ _ (by omega), rne _ _ (by omega), (b4 k (by omega)).1, (b4 k (by omega)).2.1, (b4 k (by omega)).2.2]; exact m6 k hk
    · have hk : k < v 0 2 := hk
      rw [rne _ _ (by omega), rne _ _ (by omega), b1 _ _ (by omega) (by omega) (by omega), b1 _ _ (by omega) (by omega) (by omega), (a4 (2 * k) (by omega)).2, (a4 (2 * k + 1) (by omega)).2]; exact m7 k hk
    · have hk : k < 17 * U.length := hk
      exact r56 k (by omega)
theorem fromC {w : WW} {S : StT} {im : Im} (I : SInv S) (C : CInv w S) {i : Nat} (hi : i < 2) (hm : S.2.1 i = some im) : OpC w (f_X7_from w (nI i)) 1 (im, S.2) := by
  have hx : inb (nI i) 2 := inb_n hi (by omega)
  have A : w.1 25 i = 1 ∧ CA w (9 + 8 * i) im := by have := C.2.1 i hi; rw [hm] at this; exact this
  have sm : ∀ k j, ¬ (1 ≤ k ∧ k ≤ 8) → (tkW 1 (9 + 8 * i) w).1 k j = w.1 k j := fun k j h => tkW_out (by omega)
  refine ⟨tkW 1 (9 + 8 * i) w, ?_, fun k hk => ⟨funext fun j => sm k j (by omega), rfl⟩, C.st sm rfl ?_⟩
  · simp only [f_X7_from, within_nn (n := 2) w (nI i) (show (1 : Int32) = nI 2 - 1 from rfl) (by omega), Option.bind_some, if_pos hx]
    rw [if_neg (by decide), gd_t hx, cl_n (by omega), A.1, if_neg (by decide), imageAt_ev w hi, Option.bind_some, takeFrom_ev w (by omega), Option.bind_some]
  · exact CA_copy (I.2.1 i im hi hm) (fun k hk => tkW_0 hk) (fun t k h1 h7 hk => tkW_t (by omega) h1 h7 hk) A.2
theorem from_ok {w : WW} {S : StT} (I : SInv S) (C : CInv w S) (M : MInv w S) (x : Int32) : Both (f_X7_from w x) (fun w => f_X8_from w x) := by
  have l1 : (1 : Int32) = nI 2 - 1 := rfl
  by_cases hx : inb x 2
  · obtain ⟨i, hi, rfl⟩ := inb_of hx (by omega)
    cases hm : S.2.1 i with
    | some im => exact Both.of (S' := (im, S.2)) (r := 1) M ⟨I.2.1 i im hi hm, I.2⟩ (fromC I C hi hm) (fun w' M' => fromM I M' hi hm)
    | none =>
      refine both_ref I C M (-3) 1 (by omega) ?_ (fun w' M' => ?_)
      · have := C.2.1 i hi
        rw [hm] at this
        have this : w.1 25 i = 0 := this
        simp only [f_X7_from, within_nn w _ l1 (by omega), Option.bind_some, if_pos hx]
        rw [if_neg (by decide), gd_t hx, cl_n (by omega), this, if_pos (by decide), refuse_1]; rfl
      · have := M'.2.1 i hi
        rw [hm] at this
        have this : w'.1 63 (193 * i) = 0 := this
        simp only [f_X8_from, in_nn w' _ l1 (by omega), Option.bind_some, if_pos hx, nmv]
        rw [if_neg (by decide), show (193 : Int32) = nI 193 from rfl, pk_mul, gd_t (inb_n (by omega) (by omega)), cl_n (by omega), this, if_pos (by decide), no_1]; rfl
  · exact both_ref I C M (-2) 0 (by omega) (by simp only [f_X7_from, within_nn w _ l1 (by omega), Option.bind_some, if_neg hx, refuse_0]; rfl) (fun w' M' => by simp only [f_X8_from, in_nn w' _ l1 (by omega), Option.bind_some, if_neg hx, bad_0]; rfl)

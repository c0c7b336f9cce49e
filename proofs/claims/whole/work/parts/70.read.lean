/-! read -/
theorem itemsM {tx : List Nat} (P : TP tx) : ∀ (d i s : Nat) (v : Vt) (w0 w : WW) (F : Nat), tx.length + 1 - s ≤ d → d < F → s ≤ tx.length → Dr v → TM w tx → RmM w0 w → w.1 46 11 = nI s → DM w v → ∃ o u, lpf (fun z : Int32 × WW => f_X8_readsFair_b46 z.1 z.2) F (nI i, w) = some o ∧ RmM w0 u ∧ (((itemsA tx d i s v).1 = true ∧ o = .inr (nI (itemsA tx d i s v).2.1, u) ∧ DM u (itemsA tx d i s v).2.2) ∨ ((itemsA tx d i s v).1 = false ∧ o = .inl u ∧ u.1 46 11 = nI (itemsA tx d i s v).2.1))
  | 0, i, s, v, w0, w, F, h1, h2, h3, h4, h5, h6, h7, h8 => by omega
  | d + 1, i, s, v, w0, w, 0, h1, h2, h3, h4, h5, h6, h7, h8 => by omega
  | d + 1, i, s, v, w0, w, F + 1, h1, h2, h3, h4, h5, h6, h7, h8 => by
    have hl := P.1
    rw [lpf_succ]
    show ∃ o u, (f_X8_readsFair_b46 (nI i) w).bind _ = some o ∧ _
    unfold f_X8_readsFair_b46
    rw [h5.1, h7, itemsA]
    by_cases hs : s < tx.length
    · obtain ⟨x, ex, x1, x2, x3⟩ := readsItem_ev P h5 h3 h7 h4 h8
      rw [if_neg (nI_ge hs (by omega)), if_pos hs, ex, Option.bind_some]
      dsimp only
      cases hq : (itemA tx s v).1 with
      | false =>
        rw [if_pos (show b2i false = 0 from rfl), if_neg (show ¬ false = true by decide)]
        exact ⟨_, x, rfl, h6.tr x1, Or.inr ⟨rfl, rfl, x2⟩⟩
      | true =>
        obtain ⟨g1, g2, g3⟩ := itemA_ok h4 hq
        obtain ⟨k1, k2⟩ := skp_le g2
        rw [if_neg (show ¬ b2i true = 0 by decide), if_pos rfl, skipM_ev P (x1.tm h5) g2 x2, Option.bind_some, nI_1]
        have cR : RdM x (sI x 46 11 (nI (skp tx (itemA tx s v).2.1))) := RdM.sI (by omega)
        exact itemsM P d (i + 1) (skp tx (itemA tx s v).2.1) (itemA tx s v).2.2 w0 _ F (by omega) (by omega) k2 g3 (cR.tm (x1.tm h5)) ((h6.tr x1).tr (RmM.of cR)) (sI_at _ _ _ _) (cR.dm (x3 hq))
    · rw [if_pos (nI_le (by omega) (by omega)), if_neg hs]
      exact ⟨_, w, rfl, h6, Or.inl ⟨rfl, rfl, h8⟩⟩
theorem readsFair_ev {w : WW} {tx : List Nat} (P : TP tx) (T : TM w tx) : ∃ u, f_X8_readsFair w = some (if (textA tx).1 = true then nI (textA tx).2.1 else -1, u) ∧ RmM w u ∧ ((textA tx).1 = true → DM u (textA tx).2.2) ∧ ((textA tx).1 = false → u.1 46 11 = nI (textA tx).2.1) := by
  have hl := P.1
  have L : lpf (fun s : Int32 × WW => f_X8_readsFair_b12 s.1 s.2) FU ((0 : Int32), sI (sI w 46 11 0) 46 13 0) = some (fillF (sI (sI w 46 11 0) 46 13 0) 54 0 (fun _ => 1) 16) := by
    refine lpf_seq (fun k => (nI k, fillF (sI (sI w 46 11 0) 46 13 0) 54 0 (fun _ => 1) k)) 16 _ (by omega) (fun k hk => ?_) rfl
    simp only [f_X8_readsFair_b12, stI]
    rw [q_16, if_neg (nI_ge hk (by omega)), gd_t (inb_n hk (by omega)), cl_n (by omega), nI_1, fillF, Nat.zero_add]
  have R0 : RmM w (fillF (sI (sI w 46 11 0) 46 13 0) 54 0 (fun _ => 1) 16) := ⟨fun k j hk => by rw [fillF_ne _ _ _ _ (by omega), sI_ne _ _ (by omega), sI_ne _ _ (by omega)], by rw [fillF_2]; rfl⟩
  have c1 : (fillF (sI (sI w 46 11 0) 46 13 0) 54 0 (fun _ => 1) 16).1 46 11 = nI 0 := by rw [fillF_ne _ _ _ _ (by omega), sI_ne _ _ (by omega), sI_at]; rfl
  have c2 : (fillF (sI (sI w 46 11 0) 46 13 0) 54 0 (fun _ => 1) 16).1 46 13 = nI 0 := by rw [fillF_ne _ _ _ _ (by omega), sI_at]; rfl
  have c3 : ∀ x, x < 16 → (fillF (sI (sI w 46 11 0) 46 13 0) 54 0 (fun _ => 1) 16).1 54 x = nI 1 := fun x hx => by
    have := fillF_in (sI (sI w 46 11 0) 46 13 0) 54 0 (fun _ => 1) 16 hx
    rw [Nat.zero_add] at this
    rw [this]; rfl
  unfold f_X8_readsFair
  simp only [stI]
  rw [L, Option.bind_some]
  generalize fillF (sI (sI w 46 11 0) 46 13 0) 54 0 (fun _ => 1) 16 = y at R0 c1 c2 c3 ⊢
  obtain ⟨x, ex, x1, x2, x3⟩ := readsFirst_ev P (R0.tm T) (p := 0) (Nat.zero_le _) c1 c2 c3
  unfold textA
  rw [ex, Option.bind_some]
  cases h : (fairA tx (skp tx 0)).1 with
  | false =>
    rw [if_pos (show b2i false = 0 from rfl), if_neg (show ¬ false = true by decide), h, if_neg (show ¬ false = true by decide)]
    exact ⟨x, rfl, R0.tr x1, (fun e => by cases e), fun _ => x2⟩
  | true =>
    obtain ⟨g1, g2, g3⟩ := fairA_ok h
    obtain ⟨k1, k2⟩ := skp_le g2
    have cR : RdM x (sI x 46 11 (nI (skp tx (fairA tx (skp tx 0)).2.1))) := RdM.sI (by omega)
    obtain ⟨o, u, eo, u1, hu⟩ := itemsM P 152 1 (skp tx (fairA tx (skp tx 0)).2.1) (fairA tx (skp tx 0)).2.2 x (sI x 46 11 (nI (skp tx (fairA tx (skp tx 0)).2.1))) FU (by omega) (by unfold FU; omega) k2 g3 (cR.tm (x1.tm (R0.tm T))) (RmM.of cR) (sI_at _ _ _ _) (cR.dm (x3 h))
    have eo' : lpf (fun z : Int32 × WW => f_X8_readsFair_b46 z.1 z.2) FU (1, sI x 46 11 (nI (skp tx (fairA tx (skp tx 0)).2.1))) = some o := eo
    rw [if_neg (show ¬ b2i true = 0 by decide), if_pos rfl]
    dsimp only
    rw [skipM_ev P (x1.tm (R0.tm T)) g2 x2, Option.bind_some, eo', Option.bind_some]
    rcases hu with ⟨q1, rfl, q2⟩ | ⟨q1, rfl, q2⟩
    · rw [q1, if_pos rfl]
      exact ⟨u, rfl, (R0.tr x1).tr u1, fun _ => q2, fun e => by cases e⟩
    · rw [q1, if_neg (show ¬ false = true by decide)]
      exact ⟨u, rfl, (R0.tr x1).tr u1, (fun e => by cases e), fun _ => q2⟩
theorem vup_add (v : Vt) (q : Nat) : addV (vup v 0 1 q) (v 2 q) (v 3 q) (v 4 q) = vup v 0 1 (q + 1) := by
  have e : vup v 0 1 q 0 1 = q := by simp [vup]
  funext t i
  unfold addV
  rw [e]
  unfold vup
  by_cases h0 : t = 0
  · subst h0
    by_cases h1 : i = 1 <;> simp [h1]
  · by_cases h2 : t = 2
    · subst h2
      by_cases h1 : i = q <;> simp [h1]
    · by_cases h3 : t = 3
      · subst h3
        by_cases h1 : i = q <;> simp [h1]
      · by_cases h4 : t = 4
        · subst h4
          by_cases h1 : i = q <;> simp [h1]
        · simp [h0, h2, h3, h4]
theorem vup_full (v : Vt) : vup v 0 1 (v 0 1) = v := by
  funext t i
  unfold vup
  by_cases h : t = 0 ∧ i = 1
  · rw [if_pos h, h.1, h.2]
  · rw [if_neg h]
/-- the reference takes over what it has read -/
theorem takeM {w : WW} {v : Vt} (D : Dr v) (C : DM w v) (r : Int32) (h0 : 0 ≤ r) : ∃ u, ((f_X8_begin w (w.1 46 12)).bind (fun p4 => (lpf (fun s : Int32 × WW => f_X8_read_b27 r s.1 s.2) FU ((0 : Int32), p4)).bind (fun r6 => (lpf (fun s : Int32 × WW => f_X8_read_b53 r s.1 s.2) FU ((0 : Int32), r6)).bind (fun r10 => some (r, r10))))) = some (r, u) ∧ (∀ k j, ¬ ((k = 46 ∧ (j = 1 ∨ j = 2 ∨ j = 3 ∨ j = 18)) ∨ (48 ≤ k ∧ k ≤ 51)) → u.1 k j = w.1 k j) ∧ u.2 = w.2 ∧ MA u (v, []) := by
  have hq7 : v 0 1 ≤ 7 := D.1.1.2.1
  rw [C.1, beginM_ev, Option.bind_some]
  have e1 : ∀ k j, ¬ ((k = 46 ∧ (j = 1 ∨ j = 2 ∨ j = 3 ∨ j = 18)) ∨ k = 48) → (fillF (sI (sI (sI (sI w 46 1 (nI (v 0 0))) 46 2 0) 46 3 0) 46 18 0) 48 0 (fun _ => 1) 16).1 k j = w.1 k j := fun k j hk => by rw [fillF_ne _ _ _ _ (by omega), sI_ne _ _ (by omega), sI_ne _ _ (by omega), sI_ne _ _ (by omega), sI_ne _ _ (by omega)]
  have e2 : (fillF (sI (sI (sI (sI w 46 1 (nI (v 0 0))) 46 2 0) 46 3 0) 46 18 0) 48 0 (fun _ => 1) 16).2 = w.2 := by rw [fillF_2]; rfl
  have m := MA_begin w (v 0 0)
  generalize fillF (sI (sI (sI (sI w 46 1 (nI (v 0 0))) 46 2 0) 46 3 0) 46 18 0) 48 0 (fun _ => 1) 16 = x at e1 e2 m ⊢
  have L1 : Ev (lpf (fun s : Int32 × WW => f_X8_read_b27 r s.1 s.2) FU ((0 : Int32), x)) (fun y => (∀ k j, k ≠ 48 → y.1 k j = x.1 k j) ∧ y.2 = x.2 ∧ ∀ i, i < 16 → y.1 48 i = nI (v 1 i)) := by
    refine lpf_inv (fun i s => s.1 = nI i ∧ (∀ k j, k ≠ 48 → s.2.1 k j = x.1 k j) ∧ s.2.2 = x.2 ∧ ∀ j, j < i → s.2.1 48 j = nI (v 1 j)) _ 16 (by omega) ⟨rfl, fun _ _ _ => rfl, rfl, fun j hj => by omega⟩ (fun i s hi hI => Or.inl ?_) (fun s hI => ?_)
    · obtain ⟨a, y⟩ := s
      obtain ⟨rfl, i1, i2, i3⟩ := hI
      dsimp only at i1 i2 i3
      refine ⟨(nI (i + 1), sI y 48 i (nI (v 1 i))), ?_, rfl, fun k j hk => by dsimp only; rw [sI_ne _ _ (by omega)]; exact i1 k j hk, i2, fun j hj => ?_⟩
      · simp only [f_X8_read_b27, stI]
        rw [q_16, if_neg (nI_ge hi (by omega)), gd_t (inb_n hi (by omega)), gd_t (inb_n hi (by omega)), cl_n (by omega), i1 54 i (by omega), e1 54 i (by omega), C.2.2.1 i hi, nI_1]
      · dsimp only
        by_cases e : j = i
        · subst e; rw [sI_at]
        · rw [sI_ne _ _ (by omega)]; exact i3 j (by omega)
    · obtain ⟨a, y⟩ := s
      obtain ⟨rfl, i1, i2, i3⟩ := hI
      dsimp only at i1 i2 i3
      refine ⟨y, ?_, i1, i2, i3⟩
      simp only [f_X8_read_b27]
      rw [if_pos (by decide)]
  obtain ⟨y, ey, y1, y2, y3⟩ := L1
  rw [ey, Option.bind_some]
  obtain ⟨m1, m2, m3, m4, -⟩ := m
  have hMA : MA y (vup v 0 1 0, []) := by
    refine ⟨?_, ?_, ?_, ?_, fun i hi => ?_, fun i hi => ?_, fun i hi => ?_, trivial⟩
    · rw [y1 _ _ (by omega), m1]; simp [vup, v0]
    · rw [y1 _ _ (by omega), m2]; simp [vup, v0]
    · rw [y1 _ _ (by omega), m3]
      have : v 0 2 = 0 := D.2
      simp [vup, v0, this]
    · rw [y1 _ _ (by omega), m4]
    · rw [y3 i hi]; simp [vup]
    · simp [vup] at hi
    · have : v 0 2 = 0 := D.2
      simp [vup, this] at hi
  have L2 : Ev (lpf (fun s : Int32 × WW => f_X8_read_b53 r s.1 s.2) FU ((0 : Int32), y)) (fun z => (∀ k j, ¬ ((k = 46 ∧ (j = 2 ∨ j = 18)) ∨ k = 49 ∨ k = 50 ∨ k = 51) → z.1 k j = y.1 k j) ∧ z.2 = y.2 ∧ MA z (v, [])) := by
    refine lpf_inv (fun q s => s.1 = nI q ∧ (∀ k j, ¬ ((k = 46 ∧ (j = 2 ∨ j = 18)) ∨ k = 49 ∨ k = 50 ∨ k = 51) → s.2.1 k j = y.1 k j) ∧ s.2.2 = y.2 ∧ MA s.2 (vup v 0 1 q, [])) _ (v 0 1) (by omega) ⟨rfl, fun _ _ _ => rfl, rfl, hMA⟩ (fun q s hq hI => Or.inl ?_) (fun s hI => ?_)
    · obtain ⟨a, z⟩ := s
      obtain ⟨rfl, i1, i2, i3⟩ := hI
      dsimp only at i1 i2 i3
      have hz : vup v 0 1 q 0 1 = q := by simp [vup]
      have c := C.2.2.2 q hq
      have cell : ∀ j, z.1 55 j = w.1 55 j := fun j => by rw [i1 _ _ (by omega), y1 _ _ (by omega), e1 _ _ (by omega)]
      have c13 : z.1 46 13 = nI (v 0 1) := by rw [i1 _ _ (by omega), y1 _ _ (by omega), e1 _ _ (by omega)]; exact C.2.1
      have hadd := MA_add (v 2 q) (v 3 q) (v 4 q) i3.st
      rw [vup_add] at hadd
      dsimp only at hadd
      rw [hz] at hadd
      have h2 : z.1 46 2 = nI q := by have := i3.st.2.1; dsimp only at this; rw [hz] at this; exact this
      refine ⟨(nI (q + 1), addM z q (v 2 q) (v 3 q) (v 4 q)), ?_, rfl, fun k j hk => ?_, i2, hadd⟩
      · simp only [f_X8_read_b53]
        rw [c13, if_neg (nI_ge hq (by omega)), show (3 : Int32) * nI q = nI (3 * q) by rw [show (3 : Int32) = nI 3 from rfl, pk_mul], show nI (3 * q) + 2 = nI (3 * q + 2) by rw [show (2 : Int32) = nI 2 from rfl, nI_add], nI_1, nI_1, gd_t (inb_n (by omega) (by omega)), gd_t (inb_n (by omega) (by omega)), gd_t (inb_n (by omega) (by omega)), cl_n (by omega), cl_n (by omega), cl_n (by omega), cell, cell, cell, c.1, c.2.1, c.2.2, addM_ev (by omega) h2, Option.bind_some]
      · dsimp only
        rw [addM_out hk]; exact i1 k j hk
    · obtain ⟨a, z⟩ := s
      obtain ⟨rfl, i1, i2, i3⟩ := hI
      dsimp only at i1 i2 i3
      have c13 : z.1 46 13 = nI (v 0 1) := by rw [i1 _ _ (by omega), y1 _ _ (by omega), e1 _ _ (by omega)]; exact C.2.1
      rw [vup_full] at i3
      refine ⟨z, ?_, i1, i2, i3⟩
      simp only [f_X8_read_b53]
      rw [c13, if_pos (nI_le (Nat.le_refl _) (by omega))]
  obtain ⟨z, ez, z1, z2, z3⟩ := L2
  rw [ez, Option.bind_some]
  exact ⟨z, rfl, fun k j hk => by rw [z1 _ _ (by omega), y1 _ _ (by omega), e1 _ _ (by omega)], z2.trans (y2.trans e2), z3⟩
theorem TP_of {S : StT} (I : SInv S) : TP S.2.2.1 := by
  refine ⟨I.2.2.1.1, fun j => ?_⟩
  rw [List.getD_eq_getElem?_getD]
  by_cases h : j < S.2.2.1.length
  · rw [List.getElem?_eq_getElem h]
    exact I.2.2.1.2 _ (List.getElem_mem h)
  · rw [List.getElem?_eq_none (by omega)]
    show 0 < 128
    omega
theorem read_ok {w : WW} {S : StT} (I : SInv S) (C : CInv w S) (M : MInv w S) : Both (f_X7_read w) f_X8_read := by
  have P := TP_of I
  obtain ⟨u, eu, u1, u2, u3⟩ := readItems_ev P C.2.2.1
  have sC : SameC w u := ⟨fun k j hk => u1.1 k j (by unfold scr at hk; omega), fun k j _ => by rw [u1.2]⟩
  have lC : LowC w u := fun k hk => ⟨funext fun j => u1.1 k j (by omega), by rw [u1.2]⟩
  have Cu := C.same sC
  cases h : (textA S.2.2.1).1 with
  | false =>
    rw [h, if_neg (show ¬ false = true by decide)] at eu
    refine Both.of (S' := S) (r := -10 - nI (textA S.2.2.1).2.1) M I ⟨u, ?_, lC, Cu⟩ (fun w' M' => ?_)
    · unfold f_X7_read
      rw [eu, Option.bind_some, if_pos rfl, u3 h]
    · obtain ⟨x, ex, x1, x2, x3⟩ := readsFair_ev P M'.2.2.1
      rw [h, if_neg (show ¬ false = true by decide)] at ex
      have sM : SameM w' x := ⟨fun k j hk => x1.1 k j (by unfold scrM at hk; omega), fun k j _ => by rw [x1.2]⟩
      have hM : HighM w' x := fun k hk => ⟨funext fun j => x1.1 k j (by omega), by rw [x1.2]⟩
      refine ⟨x, ?_, hM, M'.same sM⟩
      unfold f_X8_read
      rw [ex, Option.bind_some, if_neg (show ¬ (0 : Int32) ≤ -1 by decide), x3 h]
  | true =>
    obtain ⟨a1, a2, a3⟩ := u2 h
    rw [h, if_pos rfl] at eu
    have sm : ∀ k j, ¬ (1 ≤ k ∧ k ≤ 8) → (tkW 1 28 u).1 k j = u.1 k j := fun k j h => tkW_out (by omega)
    refine Both.of (S' := (((textA S.2.2.1).2.2, []), S.2)) (r := nI (textA S.2.2.1).2.1) M ⟨a2.1, I.2⟩ ⟨tkW 1 28 u, ?_, lC.tr (fun k hk => ⟨funext fun j => sm k j (by omega), rfl⟩), Cu.st sm rfl ?_⟩ (fun w' M' => ?_)
    · unfold f_X7_read
      rw [eu, Option.bind_some, if_neg (m1_ne (by omega)), takeFrom_ev u (by omega), Option.bind_some]
    · exact CA_copy a2.1 (fun k hk => tkW_0 hk) (fun t k h1 h7 hk => tkW_t (by omega) h1 h7 hk) a3
    · obtain ⟨x, ex, x1, x2, x3⟩ := readsFair_ev P M'.2.2.1
      rw [h, if_pos rfl] at ex
      have sM : SameM w' x := ⟨fun k j hk => x1.1 k j (by unfold scrM at hk; omega), fun k j _ => by rw [x1.2]⟩
      have hM : HighM w' x := fun k hk => ⟨funext fun j => x1.1 k j (by omega), by rw [x1.2]⟩
      obtain ⟨y, ey, y1, y2, y3⟩ := takeM a2 (x2 h) (nI (textA S.2.2.1).2.1) (nI_pos' (by omega))
      refine ⟨y, ?_, hM.tr (fun k hk => ⟨funext fun j => y1 k j (by omega), by rw [y2]⟩), (M'.same sM).st (fun k j hk => y1 k j (by omega)) y2 y3⟩
      unfold f_X8_read
      rw [ex, Option.bind_some, if_pos (nI_pos' (by omega))]
      exact ey

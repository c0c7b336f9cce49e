/-! the best row -/
theorem chk_all {n : Nat} (hn : n ≤ 7) : ∃ p t, perms n n 0 = p :: t ∧ (∀ i, i < n → gl p i = i) ∧ t.length ≤ 5039 ∧ chn n t p = true := by
  have h : chk n = true := by
    by_cases h5 : n < 6
    · exact chk_5 n h5
    · by_cases h6 : n = 6
      · rw [h6]; exact chk_6
      · rw [show n = 7 by omega]; exact chk_7
  unfold chk at h
  cases e : perms n n 0 with
  | nil => rw [e] at h; cases h
  | cons p t =>
    rw [e] at h
    dsimp only at h
    rw [Bool.and_eq_true, Bool.and_eq_true] at h
    exact ⟨p, t, rfl, fun i hi => Nat.eq_of_beq_eq_true (List.all_eq_true.mp h.1 i (List.mem_range.mpr hi)), Nat.le_of_ble_eq_true h.2.1, h.2.2⟩
/-- the class's table -/
def Tb (v : Vt) (P : Nat → Bool) (w : WW) (T : Nat) : Prop := w.1 44 T = nI (DD v P (rc (v 0 1) T) T).2
def l44 (w u : WW) : Prop := (∀ k j, k ≠ 44 → u.1 k j = w.1 k j) ∧ u.2 = w.2
theorem l44_CSt {w u : WW} {v : Vt} (h : l44 w u) (C : CSt w 1 v) : CSt u 1 v := CSt_congr (fun k j h1 h2 => h.1 k j (by omega)) C
/-- as the class writes it: none is -1 -/
def enc (s : List Nat × Nat) : Int32 := if s.2 = 1000000 then -1 else nI s.2
theorem enc_max {s : List Nat × Nat} (h : s.2 ≤ 1000000) : (if enc s < 0 then 0 else enc s) = if s.2 = 1000000 then 0 else nI s.2 := by
  unfold enc
  by_cases e : s.2 = 1000000
  · rw [if_pos e, if_pos (by decide), if_pos e]
  · rw [if_neg e, if_neg (nI_pos (by omega)), if_neg e]
def cdd (v : Vt) (P : Nat → Bool) (n T q : Nat) : List Nat × Nat := (q :: (DD v P n (T ||| 2 ^ q)).1, cst v P T q + (DD v P n (T ||| 2 ^ q)).2)
def okq (v : Vt) (T q : Nat) : Bool := decide (q < v 0 1) && !T.testBit q
theorem DD_succ (v : Vt) (P : Nat → Bool) (n T : Nat) : DD v P (n + 1) T = scn (cdd v P n T) (okq v T) (v 0 1) := rfl
theorem settleR_ev {w : WW} {v : Vt} (C : CSt w 1 v) (R : Rg v) {P : Nat → Bool} (hP : ∀ x, x < 16 → P x = true → x < v 0 0) {T : Nat} (hT : T < 2 ^ v 0 1) (h : ∀ T', T < T' → T' < 2 ^ v 0 1 → Tb v P w T') : f_X5_settle 1 w (bs P) (nI T) = some (sI w 44 T (nI (DD v P (rc (v 0 1) T) T).2)) := by
  have h7 := R.2.1
  have h128 := p2q h7
  have hrc : rc (v 0 1) T ≤ 7 := Nat.le_trans (fb_ct_le _ _) h7
  have hu := unknownWeight_ev C R T.testBit hP
  rw [← bs_nI (s := T) (by omega)] at hu
  have hq : ∀ q, okq v T q = true → q < v 0 1 ∧ rc (v 0 1) T ≠ 0 ∧ (cdd v P (rc (v 0 1) T - 1) T q).2 < 1000000 ∧ T ||| 2 ^ q < 128 ∧ nI T ||| shl32 1 (nI q) = nI (T ||| 2 ^ q) ∧ w.1 44 (T ||| 2 ^ q) = nI (DD v P (rc (v 0 1) T - 1) (T ||| 2 ^ q)).2 := fun q hq => by
    unfold okq at hq
    rw [Bool.and_eq_true, decide_eq_true_eq] at hq
    have h0 : T.testBit q = false := by simpa using hq.2
    have h1 := rc_more hq.1 h0
    have h2 := DD_le R P (n := rc (v 0 1) T - 1) (T := T ||| 2 ^ q) (by omega) (by omega)
    have h3 := cst_le R P T hq.1
    obtain ⟨o1, o2⟩ := or_more hT hq.1 h0
    have h4 := or_pow (a := T) (q := q) (by omega) (by omega)
    have h5 := h (T ||| 2 ^ q) o1 o2
    unfold Tb at h5
    have hr : rc (v 0 1) (T ||| 2 ^ q) = rc (v 0 1) T - 1 := by omega
    rw [hr] at h5
    exact ⟨hq.1, by omega, by unfold cdd; dsimp only; omega, h4.2, h4.1, h5⟩
  have hsl := scn_le (cdd v P (rc (v 0 1) T - 1) T) (okq v T)
  unfold f_X5_settle
  rw [hu, Option.bind_some]
  have L := lpf_seq (body := fun s : Int32 × Int32 => f_X5_settle_b14 1 w (nI T) (nI (wgt v (nyk v T.testBit P))) s.1 s.2) (fun k => (enc (scn (cdd v P (rc (v 0 1) T - 1) T) (okq v T) k), nI k)) (v 0 1) (enc (scn (cdd v P (rc (v 0 1) T - 1) T) (okq v T) (v 0 1))) (by omega) (fun k hk => ?_) ?_
  · rw [show ((-1 : Int32), (0 : Int32)) = (enc (scn (cdd v P (rc (v 0 1) T - 1) T) (okq v T) 0), nI 0) from rfl, L, Option.bind_some, max_ev, Option.bind_some, gd_t (inb_n (by omega) (by omega)), cl_n (by omega), enc_max (hsl _)]
    simp only [stI]
    by_cases h0 : rc (v 0 1) T = 0
    · have hs : scn (cdd v P (rc (v 0 1) T - 1) T) (okq v T) (v 0 1) = big := by
        rcases scn_first (cdd v P (rc (v 0 1) T - 1) T) (okq v T) (fun j hj => (hq j hj).2.2.1) (v 0 1) with ⟨a, -⟩ | ⟨j, -, b, -⟩
        · exact a
        · exact absurd h0 (hq j b).2.1
      rw [hs, if_pos (show big.2 = 1000000 from rfl), h0]
      rfl
    · obtain ⟨n, hn⟩ : ∃ n, rc (v 0 1) T = n + 1 := ⟨rc (v 0 1) T - 1, by omega⟩
      have hle := DD_le R P (n := n + 1) (T := T) hn (by omega)
      rw [hn, show n + 1 - 1 = n from rfl]
      rw [DD_succ] at hle ⊢
      rw [if_neg (by omega)]
  · have hsk := hsl k
    simp only [f_X5_settle_b14, f_X5_settle_j76, f_X5_settle_j74, nmv]
    rw [C.2.1, if_neg (nI_ge hk (by omega)), nI_1, scn, bs_nI (s := T) (by omega), bs_has _ (show k < 16 by omega), ← bs_nI (s := T) (by omega)]
    cases hb : T.testBit k with
    | true =>
      have ho : ¬ (okq v T k = true ∧ (cdd v P (rc (v 0 1) T - 1) T k).2 < (scn (cdd v P (rc (v 0 1) T - 1) T) (okq v T) k).2) := fun e => by
        have := e.1
        unfold okq at this
        rw [hb] at this
        simp at this
      rw [if_pos rfl, if_neg (by decide), if_neg ho]
    | false =>
      have ho : okq v T k = true := by unfold okq; simp [hk, hb]
      obtain ⟨q1, q4, q5, q6, q7, q8⟩ := hq k ho
      rw [if_pos (by decide), gd_t (inb_n (by omega) (by omega)), q7, gd_t (inb_n (by omega) (by omega)), cl_n (by omega), cl_n (by omega), q8, show w.1 (1 + 4) k = nI (v 4 k) from (C.2.2.2.2.1 k hk).2.2, pk_mul, nI_add]
      have hc : v 4 k * wgt v (nyk v T.testBit P) + (DD v P (rc (v 0 1) T - 1) (T ||| 2 ^ k)).2 = (cdd v P (rc (v 0 1) T - 1) T k).2 := rfl
      rw [hc]
      generalize scn (cdd v P (rc (v 0 1) T - 1) T) (okq v T) k = s at hsk ⊢
      by_cases he : s.2 = 1000000
      · rw [show enc s = -1 from if_pos he, if_pos rfl, if_pos ⟨ho, by omega⟩, show enc (cdd v P (rc (v 0 1) T - 1) T k) = nI (cdd v P (rc (v 0 1) T - 1) T k).2 from if_neg (by omega)]
      · rw [show enc s = nI s.2 from if_neg he, if_neg (m1_ne (by omega)), min_ev, Option.bind_some]
        by_cases hl : (cdd v P (rc (v 0 1) T - 1) T k).2 < s.2
        · rw [if_pos (nI_lt hl (by omega)), if_pos ⟨ho, hl⟩, show enc (cdd v P (rc (v 0 1) T - 1) T k) = nI (cdd v P (rc (v 0 1) T - 1) T k).2 from if_neg (by omega)]
        · rw [if_neg (nI_nlt (by omega) (by omega)), if_neg (fun e => hl e.2), show enc s = nI s.2 from if_neg he]
  · simp only [f_X5_settle_b14]
    rw [C.2.1, if_pos (nI_le (Nat.le_refl _) (by omega))]
theorem firstOfLeast_ev {w : WW} {v : Vt} (C : CSt w 1 v) (R : Rg v) {P : Nat → Bool} (hP : ∀ x, x < 16 → P x = true → x < v 0 0) {T n : Nat} (hT : T < 2 ^ v 0 1) (hn : rc (v 0 1) T = n + 1) (h : ∀ T', T' < 2 ^ v 0 1 → Tb v P w T') : ∃ j, j < v 0 1 ∧ T.testBit j = false ∧ DD v P (n + 1) T = (j :: (DD v P n (T ||| 2 ^ j)).1, cst v P T j + (DD v P n (T ||| 2 ^ j)).2) ∧ f_X5_firstOfLeast 1 w (bs P) (nI T) = some (nI j) := by
  have h7 := R.2.1
  have h128 := p2q h7
  have hrc : rc (v 0 1) T ≤ 7 := Nat.le_trans (fb_ct_le _ _) h7
  obtain ⟨j, j1, j2, j3, j4⟩ := DD_first R P hn (by omega)
  refine ⟨j, j1, j2, j3, ?_⟩
  have hu := unknownWeight_ev C R T.testBit hP
  rw [← bs_nI (s := T) (by omega)] at hu
  have hq : ∀ q, q < v 0 1 → T.testBit q = false → cst v P T q + (DD v P n (T ||| 2 ^ q)).2 < 1000000 ∧ T ||| 2 ^ q < 128 ∧ nI T ||| shl32 1 (nI q) = nI (T ||| 2 ^ q) ∧ w.1 44 (T ||| 2 ^ q) = nI (DD v P n (T ||| 2 ^ q)).2 := fun q hq h0 => by
    have h1 := rc_more hq h0
    have h2 := DD_le R P (n := n) (T := T ||| 2 ^ q) (by omega) (by omega)
    have h3 := cst_le R P T hq
    obtain ⟨o1, o2⟩ := or_more hT hq h0
    have h4 := or_pow (a := T) (q := q) (by omega) (by omega)
    have h5 := h (T ||| 2 ^ q) o2
    unfold Tb at h5
    rw [show rc (v 0 1) (T ||| 2 ^ q) = n by omega] at h5
    exact ⟨by omega, h4.2, h4.1, h5⟩
  have hTT := h T hT
  unfold Tb at hTT
  rw [hn, j3] at hTT
  dsimp only at hTT
  unfold f_X5_firstOfLeast
  rw [hu, Option.bind_some]
  have L := lpf_seq (body := fun s : Int32 => f_X5_firstOfLeast_b11 1 w (nI T) (nI (wgt v (nyk v T.testBit P))) s) (fun k => nI k) j (.inl (nI j)) (by omega) (fun k hk => ?_) ?_
  · rw [show (0 : Int32) = nI 0 from rfl, L]
    rfl
  · simp only [f_X5_firstOfLeast_b11, f_X5_firstOfLeast_j63]
    rw [C.2.1, if_neg (nI_ge (by omega) (by omega)), nI_1, bs_nI (s := T) (by omega), bs_has _ (show k < 16 by omega), ← bs_nI (s := T) (by omega)]
    cases hb : T.testBit k with
    | true => rw [if_pos rfl, if_neg (by decide)]
    | false =>
      obtain ⟨q1, q2, q3, q4⟩ := hq k (by omega) hb
      have hlt := j4 k hk hb
      rw [if_pos (by decide), gd_t (inb_n (by omega) (by omega)), q3, gd_t (inb_n (by omega) (by omega)), gd_t (inb_n (by omega) (by omega)), cl_n (by omega), cl_n (by omega), cl_n (by omega), q4, hTT, show w.1 (1 + 4) k = nI (v 4 k) from (C.2.2.2.2.1 k (by omega)).2.2, pk_mul, nI_add, show v 4 k * wgt v (nyk v T.testBit P) + (DD v P n (T ||| 2 ^ k)).2 = cst v P T k + (DD v P n (T ||| 2 ^ k)).2 from rfl, if_neg (by rw [nI_eq (by omega) (by omega)]; omega)]
  · obtain ⟨q1, q2, q3, q4⟩ := hq j j1 j2
    simp only [f_X5_firstOfLeast_b11, f_X5_firstOfLeast_j63]
    rw [C.2.1, if_neg (nI_ge (by omega) (by omega)), bs_nI (s := T) (by omega), bs_has _ (show j < 16 by omega), ← bs_nI (s := T) (by omega), j2, if_pos (by decide), gd_t (inb_n (by omega) (by omega)), q3, gd_t (inb_n (by omega) (by omega)), gd_t (inb_n (by omega) (by omega)), cl_n (by omega), cl_n (by omega), cl_n (by omega), q4, hTT, show w.1 (1 + 4) j = nI (v 4 j) from (C.2.2.2.2.1 j j1).2.2, pk_mul, nI_add, show v 4 j * wgt v (nyk v T.testBit P) + (DD v P n (T ||| 2 ^ j)).2 = cst v P T j + (DD v P n (T ||| 2 ^ j)).2 from rfl, if_pos rfl]
theorem leastRow_ev {w : WW} {v : Vt} (C : CSt w 1 v) (R : Rg v) {P : Nat → Bool} (hP : ∀ x, x < 16 → P x = true → x < v 0 0) : ∃ u, f_X5_leastRow 1 w (bs P) = some (nI (numL (DD v P (v 0 1) 0).1), u) ∧ l44 w u ∧ u.1 44 0 = nI (DD v P (v 0 1) 0).2 := by
  have h7 := R.2.1
  have h128 := p2q h7
  have hpos : 0 < 2 ^ v 0 1 := Nat.pow_pos (by omega)
  simp only [f_X5_leastRow, nmv]
  rw [allSets_ev C R, Option.bind_some]
  have L : Ev (lpf (fun s : Int32 × WW => f_X5_leastRow_b7 1 (bs P) s.1 s.2) FU (nI (2 ^ v 0 1) - 1, w)) (fun u => l44 w u ∧ ∀ T, T < 2 ^ v 0 1 → Tb v P u T) := by
    refine lpf_inv (fun j s => s.1 = nI (2 ^ v 0 1 - j) - 1 ∧ l44 w s.2 ∧ ∀ T, 2 ^ v 0 1 - j ≤ T → T < 2 ^ v 0 1 → Tb v P s.2 T) _ (2 ^ v 0 1) (by omega) ⟨by rw [Nat.sub_zero], ⟨fun _ _ _ => rfl, rfl⟩, fun T h1 h2 => by omega⟩ (fun j s hj hI => Or.inl ?_) (fun s hI => ?_)
    · obtain ⟨a, u⟩ := s
      obtain ⟨rfl, i1, i2⟩ := hI
      dsimp only at i1 i2
      obtain ⟨T, hTj⟩ : ∃ T, 2 ^ v 0 1 - j = T + 1 := ⟨2 ^ v 0 1 - j - 1, by omega⟩
      refine ⟨(nI (2 ^ v 0 1 - (j + 1)) - 1, sI u 44 T (nI (DD v P (rc (v 0 1) T) T).2)), ?_, rfl, ⟨fun k i hk => by dsimp only; rw [sI_ne _ _ (by omega)]; exact i1.1 k i hk, i1.2⟩, fun T' h1 h2 => ?_⟩
      · simp only [f_X5_leastRow_b7]
        rw [hTj, nI_pred, if_neg (nI_pos (by omega)), settleR_ev (l44_CSt i1 C) R hP (T := T) (by omega) (fun T' h1 h2 => i2 T' (by omega) h2), Option.bind_some, sub1, show 2 ^ v 0 1 - (j + 1) = T by omega]
      · unfold Tb
        dsimp only
        by_cases e : T' = T
        · subst e; rw [sI_at]
        · rw [sI_ne _ _ (by omega)]
          exact i2 T' (by omega) h2
    · obtain ⟨a, u⟩ := s
      obtain ⟨rfl, i1, i2⟩ := hI
      dsimp only at i1 i2
      refine ⟨u, ?_, i1, fun T hT => i2 T (by omega) hT⟩
      simp only [f_X5_leastRow_b7]
      rw [Nat.sub_self, if_pos (by decide)]
  obtain ⟨u, eu, u1, u2⟩ := L
  have Cu := l44_CSt u1 C
  rw [eu, Option.bind_some]
  have L2 : Ev (lpf (fun s : Int32 × Int32 × Int32 => f_X5_leastRow_b32 1 u (bs P) s.1 s.2.1 s.2.2) FU ((0 : Int32), (0 : Int32), (0 : Int32))) (fun r => r = nI (numL (DD v P (v 0 1) 0).1)) := by
    refine lpf_inv (fun k s => ∃ T pre, s = (nI (numL pre), nI T, nI k) ∧ T < 2 ^ v 0 1 ∧ rc (v 0 1) T + k = v 0 1 ∧ pre ++ (DD v P (rc (v 0 1) T) T).1 = (DD v P (v 0 1) 0).1) _ (v 0 1) (by omega) ⟨0, [], rfl, hpos, by rw [rc_0]; rfl, by rw [rc_0]; rfl⟩ (fun k s hk hI => Or.inl ?_) (fun s hI => ?_)
    · obtain ⟨T, pre, rfl, i1, i2, i3⟩ := hI
      obtain ⟨n, hn⟩ : ∃ n, rc (v 0 1) T = n + 1 := ⟨rc (v 0 1) T - 1, by omega⟩
      obtain ⟨j, j1, j2, j3, j4⟩ := firstOfLeast_ev Cu R hP i1 hn u2
      obtain ⟨o1, o2⟩ := or_more i1 j1 j2
      have h4 := or_pow (a := T) (q := j) (by omega) (by omega)
      have hr := rc_more j1 j2
      refine ⟨(nI (numL (pre ++ [j])), nI (T ||| 2 ^ j), nI (k + 1)), ?_, T ||| 2 ^ j, pre ++ [j], rfl, o2, by omega, ?_⟩
      · simp only [f_X5_leastRow_b32, nmv]
        rw [Cu.2.1, if_neg (nI_ge hk (by omega)), j4, Option.bind_some, h4.1, nI_1, show (10 : Int32) = nI 10 from rfl, pk_mul, nI_add, nI_1, numL_snoc, Nat.mul_comm]
      · rw [show rc (v 0 1) (T ||| 2 ^ j) = n by omega, ← i3, hn, j3, List.append_assoc]
        rfl
    · obtain ⟨T, pre, rfl, i1, i2, i3⟩ := hI
      rw [show rc (v 0 1) T = 0 by omega] at i3
      refine ⟨nI (numL pre), ?_, ?_⟩
      · simp only [f_X5_leastRow_b32]
        rw [Cu.2.1, if_pos (nI_le (Nat.le_refl _) (by omega))]
      · rw [← i3, DD, List.append_nil]
  obtain ⟨r, er, rfl⟩ := L2
  rw [er, Option.bind_some]
  have := u2 0 hpos
  unfold Tb at this
  rw [rc_0] at this
  exact ⟨u, rfl, u1, this⟩
theorem idLine {w : WW} {n : Nat} (hn : n ≤ 7) (l1 : Int32) : lpf (fun s : Int32 × WW => f_X8_bestRow_b24 l1 s.1 s.2) FU ((0 : Int32), sI w 46 27 (nI n)) = some (fillF (sI w 46 27 (nI n)) 62 0 nI n) := by
  refine lpf_seq (fun k => (nI k, fillF (sI w 46 27 (nI n)) 62 0 nI k)) n _ (by omega) (fun k hk => ?_) ?_
  · simp only [f_X8_bestRow_b24, stI]
    rw [fillF_ne _ _ _ _ (by omega), sI_at, if_neg (nI_ge hk (by omega)), gd_t (inb_n (by omega) (by omega)), cl_n (by omega), nI_1, fillF, Nat.zero_add]
  · simp only [f_X8_bestRow_b24]
    rw [fillF_ne _ _ _ _ (by omega), sI_at, if_pos (nI_le (Nat.le_refl _) (by omega))]
theorem bestRow_ok {w : WW} {S : StT} (I : SInv S) (C : CInv w S) (M : MInv w S) : Both (f_X7_bestRow w) f_X8_bestRow := by
  have h7 := I.1.1.2.1
  have R := I.1.1
  have hP : ∀ x, x < 16 → lft S.1.1 x = true → x < S.1.1 0 0 := fun x _ h => lft_lt h
  by_cases h0 : bs (lft S.1.1) = 0
  · refine both_ref I C M (-3) 1 (by omega) ?_ (fun w' M' => ?_)
    · unfold f_X7_bestRow
      rw [fit0 I C, Option.bind_some, if_pos h0, refuse_1]; rfl
    · unfold f_X8_bestRow
      rw [leftOver_ev M'.1.st R, Option.bind_some, if_pos h0, no_1]; rfl
  · have hwl := wgt_le R (lft S.1.1)
    have hw1 := lft_w R h0
    have hD := DD_le R (lft S.1.1) (n := S.1.1 0 1) (T := 0) (rc_0 _) h7
    refine Both.of (S' := (S.1, S.2.1, S.2.2.1, frc (DD S.1.1 (lft S.1.1) (S.1.1 0 1) 0).2 (wgt S.1.1 (lft S.1.1)), S.2.2.2.2)) (r := nI (numL (DD S.1.1 (lft S.1.1) (S.1.1 0 1) 0).1)) M ⟨I.1, I.2.1, I.2.2.1, frc_pos hwl hw1⟩ ?_ (fun w' M' => ?_)
    · obtain ⟨u, eu, u1, u2⟩ := leastRow_ev C.1.1 R hP
      have hsC : SameC w u := ⟨fun k j hk => u1.1 k j (by unfold scr at hk; omega), fun k j _ => by rw [u1.2]⟩
      have hlo : LowC w u := fun k hk => ⟨funext fun j => u1.1 k j (by omega), by rw [u1.2]⟩
      have Cu := C.same hsC
      refine ⟨_, ?_, hlo.tr ((LowC.sL (by omega)).tr (LowC.sL (by omega))), Cu.frac _⟩
      unfold f_X7_bestRow
      rw [fit0 I C, Option.bind_some, if_neg h0, eu, Option.bind_some, gd_t (by decide)]
      dsimp only
      rw [weightOf_ev Cu.1.1 R, Option.bind_some, show (0 : Int32).toNatClampNeg = 0 from rfl, u2, become_ev u (by omega) hwl hw1, Option.bind_some]
    · obtain ⟨p, t, e1, e2, e3, e4⟩ := chk_all h7
      have hmem : ∀ r, r ∈ p :: t → r.length = S.1.1 0 1 ∧ ∀ x, x ∈ r → x < S.1.1 0 1 := fun r hr => perms_mem (by rw [e1]; exact hr)
      have hpl := hmem p (List.mem_cons_self ..)
      have hH : HL w' (fillF (sI w' 46 27 (nI (S.1.1 0 1))) 62 0 nI (S.1.1 0 1)) (S.1.1 0 1) (gl p) := by
        refine ⟨⟨fun k j hk hk2 => ?_, ?_, ?_⟩, fun k hk => ?_⟩
        · rw [fillF_ne _ _ _ _ hk, sI_ne _ _ hk2]
        · rw [fillF_2]; rfl
        · rw [fillF_ne _ _ _ _ (by omega), sI_at]
        · have := fillF_in (sI w' 46 27 (nI (S.1.1 0 1))) 62 0 nI (S.1.1 0 1) hk
          rw [Nat.zero_add] at this
          rw [this, e2 k hk]
      have hM : ∀ u n, Lin w' u n → MSt u S.1.1 := fun u n h => (M'.same h.same.1).1.st
      have hq : ∀ k, k < S.1.1 0 1 → gl p k < S.1.1 0 1 := fun k hk => by rw [e2 k hk]; exact hk
      have hpay := paidBy_ev (hM _ _ hH.1) R hP h7 hq hH.1.2.2 hH.2
      have hpb := pay_le R (lft S.1.1) h7 hq
      have hnum := lineNumber_ev (w0 := w') (p := p) (by omega) (by rw [hpl.1]; exact hH)
      have hpt : payT S.1.1 (lft S.1.1) p 0 = pay S.1.1 (lft S.1.1) (gl p) (S.1.1 0 1) := by rw [payT_pay, hpl.1]
      have hfm : fmin (fun q => payT S.1.1 (lft S.1.1) q 0) t (p, pay S.1.1 (lft S.1.1) (gl p) (S.1.1 0 1)) = DD S.1.1 (lft S.1.1) (S.1.1 0 1) 0 := by
        rw [← DD_perms R (lft S.1.1) (rc_0 _) h7, e1, fmin, hpt, if_pos (show pay S.1.1 (lft S.1.1) (gl p) (S.1.1 0 1) < big.2 by show _ < 1000000; omega)]
      obtain ⟨⟨r1, r2, u⟩, er, h1, h2, h3⟩ := rowsLoop (w0 := w') hM R hP t p (p, pay S.1.1 (lft S.1.1) (gl p) (S.1.1 0 1)) _ FU (by unfold FU; omega) e4 hmem (by dsimp only; omega) hH
      rw [hfm] at h1 h2
      dsimp only at h1 h2 h3 er
      subst h1 h2
      have hs := h3.same
      have Mu := M'.same hs.1
      refine ⟨_, ?_, hs.2.tr ((HighM.sL (by omega)).tr (HighM.sL (by omega))), Mu.frac _⟩
      simp only [f_X8_bestRow, stI]
      rw [leftOver_ev M'.1.st R, Option.bind_some, if_neg h0, M'.1.st.2.1, idLine h7, Option.bind_some, hnum, Option.bind_some, hpay, Option.bind_some, er, Option.bind_some]
      dsimp only
      rw [weightOfM_ev Mu.1.st R, Option.bind_some, lay_ev u (by omega) hwl hw1, Option.bind_some]

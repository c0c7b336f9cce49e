/-! stalls -/
theorem sing_c (Q : Nat → Bool) : bs Q &&& (bs Q - 1) = 0 ↔ cnt Q ≤ 1 := by
  have hm : mk Q 16 < 65536 := mk_lt Q 16
  have hc : pcN (mk Q 16) = cnt Q := by
    rw [pcN_ct]
    exact fb_ct_cong (fun k hk => by rw [mk_bit]; simp [hk])
  by_cases h : mk Q 16 = 0
  · have h0 : bs Q = 0 := by unfold bs; rw [h]; rfl
    have c0 : cnt Q = 0 := bs0.mp h0
    rw [h0, c0]
    exact ⟨fun _ => by omega, fun _ => by decide⟩
  · rw [← hc, ← sing_n hm]
    unfold bs
    have : nI (mk Q 16) - 1 = nI (mk Q 16 - 1) := pk_sub (b := 1) (by omega)
    rw [this, nx_and, show (0 : Int32) = nI 0 from rfl, nI_eq (by have : mk Q 16 &&& (mk Q 16 - 1) ≤ mk Q 16 := Nat.and_le_left; omega) (by omega)]
def nx (X : Nat) : Nat := (X * 1103515245 + 12345) % 2147483648
theorem nx_lt (X : Nat) : nx X < 2147483648 := Nat.mod_lt _ (by omega)
def pkd (X h : Nat) : Nat := nx X / 65536 % h
theorem draw_arith {X h : Nat} (hX : X < 2147483648) : rm64 (lN X * 1103515245 + 12345) 2147483648 = lN (nx X) := by
  unfold rm64
  rw [show (1103515245 : Int64) = lN 1103515245 from rfl, show (12345 : Int64) = lN 12345 from rfl, show (2147483648 : Int64) = lN 2147483648 from rfl, lN_mul, lN_add, pk_lRem (by omega) (by omega) (by omega)]
  rfl
theorem draw_arith2 {X h : Nat} (h1 : 1 ≤ h) (h2 : h ≤ 16) : (rm64 (lN (nx X) / 65536) (nI h).toInt64).toInt32 = nI (pkd X h) := by
  have := nx_lt X
  have h3 : nx X / 65536 ≤ nx X := Nat.div_le_self _ _
  unfold rm64
  rw [nI_l (by omega), show (65536 : Int64) = lN 65536 from rfl, pk_lDiv (by omega) (by omega) (by omega), pk_lRem (by omega) (by omega) (by omega), lN_i]
  rfl
theorem hnz {h : Nat} (h1 : 1 ≤ h) (h2 : h ≤ 16) : ¬ (nI h).toInt64 = 0 := by
  rw [nI_l (by omega), show (0 : Int64) = lN 0 from rfl, pk_lEQ (by omega) (by omega)]
  omega
theorem pick_ev (w : WW) {X h : Nat} (hX : X < 2147483648) (h1 : 1 ≤ h) (h2 : h ≤ 16) : f_X0_pick (sL w 45 0 (lN X)) (nI h) = some (nI (pkd X h), sL w 45 0 (lN (nx X))) := by
  unfold f_X0_pick
  simp only [stL]
  rw [gd_t (by decide), sL_at, sL_at, draw_arith (h := h) hX, sL_sL, if_pos (show (1 : Int32) ≤ nI h from nI_le h1 (by omega)), gd_t (by decide), gd_t (hnz h1 h2), draw_arith2 h1 h2]
theorem drawn_ev (w : WW) {X h : Nat} (hX : X < 2147483648) (h1 : 1 ≤ h) (h2 : h ≤ 16) : f_X8_drawn (sL w 46 28 (lN X)) (nI h) = some (nI (pkd X h), sL w 46 28 (lN (nx X))) := by
  unfold f_X8_drawn
  simp only [stL]
  rw [gd_t (by decide), sL_at, sL_at, draw_arith (h := h) hX, sL_sL, gd_t (by decide), gd_t (hnz h1 h2), draw_arith2 h1 h2]
theorem bitAt_ev (w : WW) {P : Nat → Bool} {i : Nat} (hi : i < 16) (hP : P i = true) : f_X0_bitAt w (bs P) (nI (fb_ct P i)) = some (nI i) := by
  unfold f_X0_bitAt
  have hl := fb_ct_le P i
  have h := lpf_seq (body := fun s : Int32 × Int32 => f_X0_bitAt_b4 w (bs P) (nI (fb_ct P i)) s.1 s.2) (fun k => (nI (fb_ct P k), nI k)) i (.inl (nI i)) (by omega) (fun k hk => ?_) ?_
  · rw [show ((0 : Int32), (0 : Int32)) = (nI (fb_ct P 0), nI 0) from rfl, h]; rfl
  · have hkl := fb_ct_le P k
    simp only [f_X0_bitAt_b4, f_X0_bitAt_j29]
    rw [q_16, if_neg (nI_ge (by omega) (by omega)), nI_1, nI_1, fb_ct_succ]
    by_cases h : P k = true
    · have hm := fb_ct_mono P (show k + 1 ≤ i by omega)
      rw [fb_ct_succ, if_pos h] at hm
      rw [if_pos ((bs_hasT (by omega)).mpr h), if_neg (by rw [nI_eq (by omega) (by omega)]; omega), if_pos h]
    · rw [if_neg (fun e => h ((bs_hasT (by omega)).mp e)), if_neg h]; rfl
  · simp only [f_X0_bitAt_b4]
    rw [q_16, if_neg (nI_ge (by omega) (by omega)), if_pos ((bs_hasT (by omega)).mpr hP), if_pos trivial]
theorem placed_ev (w : WW) {P : Nat → Bool} {i : Nat} (hi : i < 16) (hP : P i = true) : f_X8_placed w (bs P) (nI (fb_ct P i)) = some (nI i) := by
  unfold f_X8_placed
  have hl := fb_ct_le P i
  have h := lpf_seq (body := fun s : Int32 × Int32 => f_X8_placed_b4 w (bs P) s.1 s.2) (fun k => (nI (fb_ct P i - fb_ct P k), nI k)) i (nI i) (by omega) (fun k hk => ?_) ?_
  · have h' : lpf (fun s : Int32 × Int32 => f_X8_placed_b4 w (bs P) s.1 s.2) FU (nI (fb_ct P i), 0) = some (nI i) := h
    rw [h']; rfl
  · have hkl := fb_ct_le P k
    simp only [f_X8_placed_b4, f_X8_placed_j16, f_X8_placed_j30, nmv]
    rw [hasM w P (by omega), Option.bind_some, Option.bind_some, nI_1, fb_ct_succ]
    by_cases h : P k = true
    · have hm := fb_ct_mono P (show k + 1 ≤ i by omega)
      rw [fb_ct_succ, if_pos h] at hm
      rw [if_pos h, if_neg (by decide), if_neg (nI_nle (by omega) (by omega)), if_neg (by decide), if_pos h, show (1 : Int32) = nI 1 from rfl, pk_sub (by omega), Nat.sub_sub]
    · rw [if_neg h, if_pos rfl, if_pos rfl, if_neg h, show (0 : Int32) = nI 0 from rfl, pk_sub (by omega)]
      rfl
  · simp only [f_X8_placed_b4]
    rw [hasM w P (by omega), Option.bind_some, if_pos hP, if_neg (by decide), Nat.sub_self, if_pos (by decide)]
def plc (P : Nat → Bool) (pl : Nat) : Nat → Nat
  | 0 => 0
  | k + 1 => if P k = true ∧ fb_ct P k = pl then k else plc P pl k
theorem plc_ok {P : Nat → Bool} {pl : Nat} : ∀ {n : Nat}, (∃ i, i < n ∧ P i = true ∧ fb_ct P i = pl) → plc P pl n < n ∧ P (plc P pl n) = true ∧ fb_ct P (plc P pl n) = pl
  | 0, ⟨i, h, _⟩ => by omega
  | n + 1, ⟨i, h1, h2, h3⟩ => by
    rw [plc]
    by_cases e : P n = true ∧ fb_ct P n = pl
    · rw [if_pos e]; exact ⟨by omega, e.1, e.2⟩
    · rw [if_neg e]
      have := plc_ok (P := P) (pl := pl) (n := n) ⟨i, by
        by_cases q : i = n
        · subst q; exact absurd ⟨h2, h3⟩ e
        · omega, h2, h3⟩
      exact ⟨by omega, this.2⟩
/-- one stall's drawing: the number drawn last, the pence -/
def lps (v : Vt) (x : Nat) : Nat → Nat → (Nat → Bool) → Nat × Nat
  | 0, X, _ => (X, 0)
  | d + 1, X, Q => if cnt Q ≤ 1 then (X, 0) else ((lps v x d (nx X) (pa v (pkd X (v 0 1)) Q (an v (pkd X (v 0 1)) x))).1, v 4 (pkd X (v 0 1)) + (lps v x d (nx X) (pa v (pkd X (v 0 1)) Q (an v (pkd X (v 0 1)) x))).2)
theorem lps_lt (v : Vt) (x : Nat) : ∀ (d X : Nat) (Q : Nat → Bool), X < 2147483648 → (lps v x d X Q).1 < 2147483648
  | 0, _, _, h => h
  | d + 1, X, Q, h => by
    rw [lps]
    split
    · exact h
    · exact lps_lt v x d (nx X) _ (nx_lt X)
theorem CSt_sL {w : WW} {b : Nat} {v : Vt} (C : CSt w b v) (k j : Nat) (x : Int64) : CSt (sL w k j x) b v := CSt_congr (fun _ _ _ _ => rfl) C
theorem MSt_sL {w : WW} {v : Vt} (C : MSt w v) (k j : Nat) (x : Int64) : MSt (sL w k j x) v := MSt_congr (fun _ _ => rfl) (fun _ _ _ _ => rfl) C
theorem stallC {w : WW} {v : Vt} (C : CSt w 1 v) (R : Rg v) (h1 : 1 ≤ v 0 1) {x : Nat} (hx : x < 16) : ∀ (d X p : Nat) (Q : Nat → Bool) (F : Nat), d ≤ 12 → d < F → X < 2147483648 → lpf (fun s : Int32 × Int32 × Int32 × WW => f_X0_oneStall_b22 1 (nI x) s.1 s.2.1 s.2.2.1 s.2.2.2) F (bs Q, nI p, nI (12 - d), sL w 45 0 (lN X)) = some (nI (p + (lps v x d X Q).2), sL w 45 0 (lN (lps v x d X Q).1)) := by
  intro d
  have h7 := R.2.1
  induction d with
  | zero =>
    intro X p Q F _ hF hX
    obtain ⟨F, rfl⟩ : ∃ F', F = F' + 1 := ⟨F - 1, by omega⟩
    rw [lpf_succ]
    simp only [f_X0_oneStall_b22]
    rw [if_pos (by decide)]
    rfl
  | succ d ih =>
    intro X p Q F hd hF hX
    obtain ⟨F, rfl⟩ : ∃ F', F = F' + 1 := ⟨F - 1, by omega⟩
    rw [lpf_succ]
    show (f_X0_oneStall_b22 1 (nI x) (bs Q) (nI p) (nI (12 - (d + 1))) (sL w 45 0 (lN X))).bind _ = _
    have hc := cnt_le Q
    by_cases h : cnt Q ≤ 1
    · have e : f_X0_oneStall_b22 1 (nI x) (bs Q) (nI p) (nI (12 - (d + 1))) (sL w 45 0 (lN X)) = some (.inr (nI p, sL w 45 0 (lN X))) := by
        simp only [f_X0_oneStall_b22]
        rw [show (12 : Int32) = nI 12 from rfl, if_neg (nI_ge (by omega) (by omega)), bitCount_ev, Option.bind_some, show (1 : Int32) = nI 1 from rfl, if_pos (nI_le h (by omega))]
      rw [e, lps, if_pos h]
      rfl
    · have Cs := CSt_sL C 45 0 (lN (nx X))
      have hq : pkd X (v 0 1) < v 0 1 := Nat.mod_lt _ (by omega)
      have e : f_X0_oneStall_b22 1 (nI x) (bs Q) (nI p) (nI (12 - (d + 1))) (sL w 45 0 (lN X)) = some (.inl (bs (pa v (pkd X (v 0 1)) Q (an v (pkd X (v 0 1)) x)), nI (p + v 4 (pkd X (v 0 1))), nI (12 - d), sL w 45 0 (lN (nx X)))) := by
        simp only [f_X0_oneStall_b22, nmv]
        rw [show (12 : Int32) = nI 12 from rfl, if_neg (nI_ge (by omega) (by omega)), bitCount_ev, Option.bind_some, show (1 : Int32) = nI 1 from rfl, if_neg (nI_ge (by omega) (by omega)), sL_1, C.2.1, pick_ev w hX h1 (by omega), Option.bind_some]
        dsimp only
        rw [gd_t (inb_n (by omega) (by omega)), ixq, gd_t (inb_n (by omega) (by omega)), cl_n (by omega), cl_n (by omega), (Cs.2.2.2.2.1 _ hq).2.2, alkA Cs Q hq hx, nI_add, nI_add, show 12 - (d + 1) + 1 = 12 - d by omega]
      rw [e, lps, if_neg h, Option.bind_some, Sum.elim_inl, ih (nx X) _ _ F (by omega) (by omega) (nx_lt X), Nat.add_assoc]
theorem stallM {w : WW} {v : Vt} (C : MSt w v) (R : Rg v) (h1 : 1 ≤ v 0 1) {x : Nat} (hx : x < 16) (l2 l3 l5 : Int32) : ∀ (d X p : Nat) (Q : Nat → Bool) (F : Nat), (∀ y, y < 16 → Q y = true → y < v 0 0) → d ≤ 12 → d < F → X < 2147483648 → lpf (fun s : Int32 × Int32 × Int32 × WW => f_X8_stalls_b85 l2 l3 l5 (nI x) s.1 s.2.1 s.2.2.1 s.2.2.2) F (nI p, bs Q, nI (12 - d), sL w 46 28 (lN X)) = some (nI (p + (lps v x d X Q).2), sL w 46 28 (lN (lps v x d X Q).1)) := by
  intro d
  have h7 := R.2.1
  induction d with
  | zero =>
    intro X p Q F _ _ hF hX
    obtain ⟨F, rfl⟩ : ∃ F', F = F' + 1 := ⟨F - 1, by omega⟩
    rw [lpf_succ]
    simp only [f_X8_stalls_b85]
    rw [if_pos (by decide)]
    rfl
  | succ d ih =>
    intro X p Q F hQ hd hF hX
    obtain ⟨F, rfl⟩ : ∃ F', F = F' + 1 := ⟨F - 1, by omega⟩
    rw [lpf_succ]
    show (f_X8_stalls_b85 l2 l3 l5 (nI x) (nI p) (bs Q) (nI (12 - (d + 1))) (sL w 46 28 (lN X))).bind _ = _
    have hc := cnt_le Q
    by_cases h : cnt Q ≤ 1
    · have e : f_X8_stalls_b85 l2 l3 l5 (nI x) (nI p) (bs Q) (nI (12 - (d + 1))) (sL w 46 28 (lN X)) = some (.inr (nI p, sL w 46 28 (lN X))) := by
        simp only [f_X8_stalls_b85]
        rw [show (12 : Int32) = nI 12 from rfl, if_neg (nI_ge (by omega) (by omega)), if_pos ((sing_c Q).mpr h)]
      rw [e, lps, if_pos h]
      rfl
    · have Cs := MSt_sL C 46 28 (lN (nx X))
      have hq : pkd X (v 0 1) < v 0 1 := Nat.mod_lt _ (by omega)
      have hA := an_le R hq hx
      have hb : bs Q &&& bs (cby v (pkd X (v 0 1)) (an v (pkd X (v 0 1)) x)) = bs (pa v (pkd X (v 0 1)) Q (an v (pkd X (v 0 1)) x)) := by
        rw [bs_and]
        refine bs_congr (fun y hy => ?_)
        unfold cby pa
        cases e : Q y with
        | false => rfl
        | true => simp [hQ y hy e]
      have e : f_X8_stalls_b85 l2 l3 l5 (nI x) (nI p) (bs Q) (nI (12 - (d + 1))) (sL w 46 28 (lN X)) = some (.inl (nI (p + v 4 (pkd X (v 0 1))), bs (pa v (pkd X (v 0 1)) Q (an v (pkd X (v 0 1)) x)), nI (12 - d), sL w 46 28 (lN (nx X)))) := by
        simp only [f_X8_stalls_b85, nmv]
        rw [show (12 : Int32) = nI 12 from rfl, if_neg (nI_ge (by omega) (by omega)), if_neg (fun e => h ((sing_c Q).mp e)), sL_1, C.2.1, drawn_ev w hX h1 (by omega), Option.bind_some]
        dsimp only
        rw [gd_t (inb_n (by omega) (by omega)), cl_n (by omega), (Cs.2.2.2.2.1 _ hq).2.2, answerOf_ev Cs R hq hx, Option.bind_some, casesBy_ev Cs R hq (by omega), Option.bind_some, hb, nI_add, nI_1, show 12 - (d + 1) + 1 = 12 - d by omega]
      rw [e, lps, if_neg h, Option.bind_some, Sum.elim_inl, ih (nx X) _ _ F (fun y hy e => hQ y hy (by unfold pa at e; rw [Bool.and_eq_true] at e; exact e.1)) (by omega) (by omega) (nx_lt X), Nat.add_assoc]
/-- m stalls -/
def stl (v : Vt) (P : Nat → Bool) (X0 : Nat) : Nat → Nat × Nat
  | 0 => (X0, 0)
  | m + 1 => ((lps v (plc P (pkd (stl v P X0 m).1 (cnt P)) 16) 12 (nx (stl v P X0 m).1) P).1, (stl v P X0 m).2 + (lps v (plc P (pkd (stl v P X0 m).1 (cnt P)) 16) 12 (nx (stl v P X0 m).1) P).2)
theorem stl_lt (v : Vt) (P : Nat → Bool) {X0 : Nat} (h : X0 < 2147483648) : ∀ m, (stl v P X0 m).1 < 2147483648
  | 0 => h
  | m + 1 => lps_lt v _ 12 _ _ (nx_lt _)
theorem plc_of {P : Nat → Bool} (hc : 1 ≤ cnt P) (X : Nat) : plc P (pkd X (cnt P)) 16 < 16 ∧ P (plc P (pkd X (cnt P)) 16) = true ∧ fb_ct P (plc P (pkd X (cnt P)) 16) = pkd X (cnt P) := plc_ok (fb_ct_kth (show pkd X (cnt P) < fb_ct P 16 from Nat.mod_lt _ hc))
theorem stallsC {w : WW} {v : Vt} (C : CSt w 1 v) (R : Rg v) (h1 : 1 ≤ v 0 1) {P : Nat → Bool} (hc : 1 ≤ cnt P) {X0 m : Nat} (hX : X0 < 2147483648) (hm : m ≤ 60) : lpf (fun s : Int32 × Int32 × WW => f_X7_stalls_b77 (nI m) (bs P) s.1 s.2.1 s.2.2) FU ((0 : Int32), (0 : Int32), sL w 45 0 (lN X0)) = some (nI (stl v P X0 m).2, sL w 45 0 (lN (stl v P X0 m).1)) := by
  have hc16 := cnt_le P
  have h := lpf_seq (body := fun s : Int32 × Int32 × WW => f_X7_stalls_b77 (nI m) (bs P) s.1 s.2.1 s.2.2) (fun k => (nI (stl v P X0 k).2, nI k, sL w 45 0 (lN (stl v P X0 k).1))) m (nI (stl v P X0 m).2, sL w 45 0 (lN (stl v P X0 m).1)) (by omega) (fun k hk => ?_) ?_
  · exact h
  · have hXk := stl_lt v P hX k
    obtain ⟨p1, p2, p3⟩ := plc_of hc (stl v P X0 k).1
    have hb := bitAt_ev (sL w 45 0 (lN (nx (stl v P X0 k).1))) p1 p2
    rw [p3] at hb
    have hs := stallC C R h1 p1 12 (nx (stl v P X0 k).1) 0 P FU (by omega) (by unfold FU; omega) (nx_lt _)
    simp only [f_X7_stalls_b77, nmv]
    rw [if_neg (nI_ge hk (by omega))]
    unfold f_X0_oneStall
    rw [bitCount_ev, Option.bind_some, pick_ev w hXk hc hc16, Option.bind_some]
    dsimp only
    have hs' : lpf (fun s : Int32 × Int32 × Int32 × WW => f_X0_oneStall_b22 1 (nI (plc P (pkd (stl v P X0 k).1 (cnt P)) 16)) s.1 s.2.1 s.2.2.1 s.2.2.2) FU (bs P, 0, 0, sL w 45 0 (lN (nx (stl v P X0 k).1))) = _ := hs
    rw [hb, Option.bind_some, hs', Option.bind_some, Option.bind_some, nI_add, nI_1, Nat.zero_add]
    rfl
  · simp only [f_X7_stalls_b77]
    rw [if_pos (nI_le (Nat.le_refl _) (by omega))]
theorem stallsM {w : WW} {v : Vt} (C : MSt w v) (R : Rg v) (h1 : 1 ≤ v 0 1) {P : Nat → Bool} (hP : ∀ y, y < 16 → P y = true → y < v 0 0) (hc : 1 ≤ cnt P) {X0 m : Nat} (hX : X0 < 2147483648) (hm : m ≤ 60) : lpf (fun s : Int32 × Int32 × WW => f_X8_stalls_b59 (nI m) (bs P) s.1 s.2.1 s.2.2) FU ((0 : Int32), (0 : Int32), sL w 46 28 (lN X0)) = some (nI (stl v P X0 m).2, sL w 46 28 (lN (stl v P X0 m).1)) := by
  have hc16 := cnt_le P
  have h := lpf_seq (body := fun s : Int32 × Int32 × WW => f_X8_stalls_b59 (nI m) (bs P) s.1 s.2.1 s.2.2) (fun k => (nI (stl v P X0 k).2, nI k, sL w 46 28 (lN (stl v P X0 k).1))) m (nI (stl v P X0 m).2, sL w 46 28 (lN (stl v P X0 m).1)) (by omega) (fun k hk => ?_) ?_
  · exact h
  · have hXk := stl_lt v P hX k
    obtain ⟨p1, p2, p3⟩ := plc_of hc (stl v P X0 k).1
    have hb := placed_ev (sL w 46 28 (lN (nx (stl v P X0 k).1))) p1 p2
    rw [p3] at hb
    have hs := stallM C R h1 p1 (nI m) (bs P) (nI k) 12 (nx (stl v P X0 k).1) (stl v P X0 k).2 P FU hP (by omega) (by unfold FU; omega) (nx_lt _)
    simp only [f_X8_stalls_b59]
    rw [if_neg (nI_ge hk (by omega)), bitsM_ev, Option.bind_some, drawn_ev w hXk hc hc16, Option.bind_some]
    dsimp only
    have hs' : lpf (fun s : Int32 × Int32 × Int32 × WW => f_X8_stalls_b85 (nI m) (bs P) (nI k) (nI (plc P (pkd (stl v P X0 k).1 (cnt P)) 16)) s.1 s.2.1 s.2.2.1 s.2.2.2) FU (nI (stl v P X0 k).2, bs P, 0, sL w 46 28 (lN (nx (stl v P X0 k).1))) = _ := hs
    rw [hb, Option.bind_some, hs', Option.bind_some, nI_1]
    rfl
  · simp only [f_X8_stalls_b59]
    rw [if_pos (nI_le (Nat.le_refl _) (by omega))]
theorem stalls_ok {w : WW} {S : StT} (I : SInv S) (C : CInv w S) (M : MInv w S) (x y : Int32) : Both (f_X7_stalls w x y) (fun w => f_X8_stalls w x y) := by
  have h7 := I.1.1.2.1
  have hP : ∀ x, x < 16 → lft S.1.1 x = true → x < S.1.1 0 0 := fun x _ h => lft_lt h
  have la : (999999 : Int32) = nI 1000000 - 1 := rfl
  have lb : (60 : Int32) = nI 61 - 1 := rfl
  by_cases hx : inb x 1000000
  · by_cases hy : inb y 61
    · by_cases h0 : bs (lft S.1.1) = 0
      · exact both_ref I C M (-3) 1 (by omega) (by simp only [f_X7_stalls, f_X7_stalls_j53, within_nn w _ la (by omega), within_nn w _ lb (by omega), Option.bind_some, if_pos hx, if_pos hy, fit0 I C, refuse_1]; rw [if_neg (by decide), if_neg (by decide), if_pos h0]) (fun w' M' => by simp only [f_X8_stalls, f_X8_stalls_j42, in_nn w' _ la (by omega), in_nn w' _ lb (by omega), Option.bind_some, if_pos hx, if_pos hy, leftOver_ev M'.1.st I.1.1, no_1]; rw [if_neg (by decide), if_neg (by decide), if_pos h0])
      · by_cases hq0 : S.1.1 0 1 = 0
        · exact both_ref I C M (-3) 1 (by omega) (by simp only [f_X7_stalls, f_X7_stalls_j53, within_nn w _ la (by omega), within_nn w _ lb (by omega), Option.bind_some, if_pos hx, if_pos hy, fit0 I C, refuse_1, C.1.1.2.1, hq0]; rw [if_neg (by decide), if_neg (by decide), if_neg h0, if_neg (by decide)]) (fun w' M' => by simp only [f_X8_stalls, f_X8_stalls_j42, in_nn w' _ la (by omega), in_nn w' _ lb (by omega), Option.bind_some, if_pos hx, if_pos hy, leftOver_ev M'.1.st I.1.1, no_1, M'.1.2.1, hq0]; rw [if_neg (by decide), if_neg (by decide), if_neg h0, if_pos (by decide)])
        · obtain ⟨X0, hX0, rfl⟩ := inb_of hx (by omega)
          obtain ⟨m, hm, rfl⟩ := inb_of hy (by omega)
          have hc : 1 ≤ cnt (lft S.1.1) := by
            have : cnt (lft S.1.1) ≠ 0 := fun e => h0 (bs0.mpr e)
            omega
          refine both_ro I C M (nI (stl S.1.1 (lft S.1.1) X0 m).2) (w1 := sL w 45 0 (lN (stl S.1.1 (lft S.1.1) X0 m).1)) ?_ ⟨fun _ _ _ => rfl, fun k j hk => sL_ne _ _ (by omega)⟩ (LowC.sL (by omega)) (fun w' M' => ⟨sL w' 46 28 (lN (stl S.1.1 (lft S.1.1) X0 m).1), ?_, ⟨fun _ _ _ => rfl, fun k j hk => sL_ne _ _ (by omega)⟩, HighM.sL (by omega)⟩)
          · simp only [f_X7_stalls, within_nn w _ la (by omega), within_nn w _ lb (by omega), Option.bind_some, if_pos hx, if_pos hy, fit0 I C, C.1.1.2.1, stL]
            rw [if_neg (by decide), if_neg (by decide), if_neg h0, if_pos (show (1 : Int32) ≤ nI (S.1.1 0 1) from nI_le (a := 1) (by omega) (by omega)), nI_l (by omega), stallsC C.1.1 I.1.1 (by omega) hc (by omega) (by omega), Option.bind_some]
          · simp only [f_X8_stalls, in_nn w' _ la (by omega), in_nn w' _ lb (by omega), Option.bind_some, if_pos hx, if_pos hy, leftOver_ev M'.1.st I.1.1, M'.1.2.1, stL]
            rw [if_neg (by decide), if_neg (by decide), if_neg h0, if_neg (nI_ne0 (by omega) (by omega)), nI_l (by omega), stallsM M'.1.st I.1.1 (by omega) hP hc (by omega) (by omega), Option.bind_some]
    · exact both_ref I C M (-2) 0 (by omega) (by simp only [f_X7_stalls, f_X7_stalls_j20, within_nn w _ la (by omega), within_nn w _ lb (by omega), Option.bind_some, if_pos hx, if_neg hy, refuse_0]; rfl) (fun w' M' => by simp only [f_X8_stalls, f_X8_stalls_j21, in_nn w' _ la (by omega), in_nn w' _ lb (by omega), Option.bind_some, if_pos hx, if_neg hy, bad_0]; rfl)
  · exact both_ref I C M (-2) 0 (by omega) (by simp only [f_X7_stalls, f_X7_stalls_j20, within_nn w _ la (by omega), Option.bind_some, if_neg hx, refuse_0]; rfl) (fun w' M' => by simp only [f_X8_stalls, f_X8_stalls_j21, in_nn w' _ la (by omega), Option.bind_some, if_neg hx, bad_0]; rfl)

/-! the plan is laid -/
def pt (v : Vt) (P : Nat → Bool) (T x : Nat) : Nat → Bool := fun y => P y && bh v T.testBit x y
/-- x is the first of its part -/
def fs (v : Vt) (P : Nat → Bool) (T x : Nat) : Prop := P x = true ∧ ∀ y, y < x → P y = true → bh v T.testBit x y = false
def lyw (w u : WW) : Prop := (∀ k j, ¬ (40 ≤ k ∧ k ≤ 42) → u.1 k j = w.1 k j) ∧ u.2 = w.2
def En (v : Vt) (P : Nat → Bool) (w : WW) (T x : Nat) : Prop := w.1 41 (16 * T + x) = eL v (pt v P T x) ∧ w.1 42 (16 * T + x) = eD v (pt v P T x)
theorem bh_trans {v : Vt} {T : Nat → Bool} {x y z : Nat} (h1 : bh v T x y = true) (h2 : bh v T y z = true) : bh v T x z = true := bh_iff.mpr (fun q hq ht => ((bh_iff.mp h2) q hq ht).trans ((bh_iff.mp h1) q hq ht))
theorem eL_congr {v : Vt} {Q Q' : Nat → Bool} (h : ∀ y, y < 16 → Q y = Q' y) : eL v Q = eL v Q' := by unfold eL; rw [U_congr h]
theorem eD_congr {v : Vt} {Q Q' : Nat → Bool} (h : ∀ y, y < 16 → Q y = Q' y) : eD v Q = eD v Q' := by unfold eD; rw [U_congr h]
/-- what the first k leave -/
def rst (v : Vt) (P : Nat → Bool) (T k : Nat) : Nat → Bool := fun y => P y && allB (fun x => !(P x && bh v T.testBit x y)) k
theorem rst_fs {v : Vt} {P : Nat → Bool} {T k : Nat} : rst v P T k k = true ↔ fs v P T k := by
  unfold rst fs
  rw [Bool.and_eq_true, allB_iff]
  refine and_congr_right (fun _ => ⟨fun h y hy hp => ?_, fun h y hy => ?_⟩)
  · have := h y hy
    rw [hp, bh_symm] at this
    simpa using this
  · cases hp : P y with
    | false => rfl
    | true => rw [bh_symm, h y hy hp]; rfl
theorem rst_step {v : Vt} {P : Nat → Bool} {T k : Nat} (h : fs v P T k) (y : Nat) : (rst v P T k y && !pt v P T k y) = rst v P T (k + 1) y := by
  unfold rst pt
  rw [allB, h.1]
  cases P y <;> simp
theorem rst_stay {v : Vt} {P : Nat → Bool} {T k : Nat} (h : ¬ fs v P T k) (y : Nat) : rst v P T (k + 1) y = rst v P T k y := by
  unfold rst
  rw [allB]
  cases hp : P k with
  | false => simp
  | true =>
    cases hb : bh v T.testBit k y with
    | false => simp
    | true =>
      have hex : ∃ z, z < k ∧ P z = true ∧ bh v T.testBit k z = true := Classical.byContradiction (fun hno => h ⟨hp, fun z hz hpz => by
        cases e : bh v T.testBit k z with
        | false => rfl
        | true => exact absurd ⟨z, hz, hpz, e⟩ hno⟩)
      obtain ⟨z, hz, hpz, hbz⟩ := hex
      have : ¬ allB (fun x => !(P x && bh v T.testBit x y)) k = true := fun e => by
        have := allB_iff.mp e z hz
        rw [hpz, bh_trans (by rw [bh_symm]; exact hbz) hb] at this
        exact absurd this (by decide)
      rw [Bool.not_eq_true] at this
      rw [this]
      simp
theorem bh_more {v : Vt} {T q x y : Nat} (hq : q < v 0 1) : bh v (T ||| 2 ^ q).testBit x y = (bh v T.testBit x y && decide (an v q y = an v q x)) := by
  rw [Bool.eq_iff_iff, Bool.and_eq_true, bh_iff, bh_iff, decide_eq_true_eq]
  constructor
  · intro h
    exact ⟨fun i hi ht => h i hi (by rw [fb_bit_set, ht]; rfl), h q hq (by rw [fb_bit_set]; simp)⟩
  · rintro ⟨g1, g2⟩ i hi ht
    rw [fb_bit_set, Bool.or_eq_true, decide_eq_true_eq] at ht
    rcases ht with ht | rfl
    · exact g1 i hi ht
    · exact g2
theorem lyw_CSt {w u : WW} {v : Vt} (h : lyw w u) (C : CSt w 1 v) : CSt u 1 v := CSt_congr (fun k j h1 h2 => h.1 k j (by omega)) C
theorem or_more {T q m : Nat} (hT : T < 2 ^ m) (hq : q < m) (hb : T.testBit q = false) : T < T ||| 2 ^ q ∧ T ||| 2 ^ q < 2 ^ m := by
  have h1 : T ≤ T ||| 2 ^ q := Nat.left_le_or
  have h2 : T ≠ T ||| 2 ^ q := fun e => by
    have := fb_bit_set T q q
    rw [← e, hb] at this
    simp at this
  exact ⟨by omega, Nat.or_lt_two_pow hT (Nat.pow_lt_pow_right (by omega) hq)⟩
theorem settleP_ev {w : WW} {v : Vt} (C : CSt w 1 v) (R : Rg v) {P : Nat → Bool} (hP : ∀ x, x < 16 → P x = true → x < v 0 0) {T : Nat} (hT : T < 2 ^ v 0 1) (h : ∀ T' y, T < T' → T' < 2 ^ v 0 1 → y < v 0 0 → fs v P T' y → En v P w T' y) {x : Nat} (hx : x < v 0 0) (hf : fs v P T x) : f_X2_settle 1 w (nI T) (nI x) (bs (pt v P T x)) = some (sI (sI (cw w (eL v (pt v P T x)) (U v (pt v P T x)).2.1 (eD v (pt v P T x))) 41 (16 * T + x) (eL v (pt v P T x))) 42 (16 * T + x) (eD v (pt v P T x))) := by
  have hn := R.1.2
  have h7 := R.2.1
  have h128 := p2q h7
  refine settle_ev C R (by omega) (by omega) (fun y hy h => ?_) ?_ (fun q hq hb => ?_) (fun q y hq hb hy hr => ?_)
  · unfold pt at h
    rw [Bool.and_eq_true] at h
    exact hP y hy h.1
  · unfold pt
    rw [hf.1, bh_self]; rfl
  · refine Classical.byContradiction (fun hn2 => ?_)
    have h1 := pa_small (v := v) (k := q) (Q := pt v P T x) (by omega) (an v q x)
    rw [cnt_congr (P := pa v q (pt v P T x) (an v q x)) (Q := pt v P T x) (fun y _ => by
      unfold pa
      cases e : pt v P T x y with
      | false => rfl
      | true =>
        unfold pt at e
        rw [Bool.and_eq_true] at e
        rw [(bh_iff.mp e.2) q hq hb]
        simp)] at h1
    omega
  · have hQy := rs_in hr
    have hQy2 := hQy
    unfold pt at hQy2
    rw [Bool.and_eq_true] at hQy2
    obtain ⟨hpy, hby⟩ := hQy2
    obtain ⟨o1, o2⟩ := or_more hT hq hb
    have hbz : ∀ z, bh v T.testBit y z = bh v T.testBit x z := fun z => by
      rw [Bool.eq_iff_iff]
      exact ⟨fun e => bh_trans hby e, fun e => bh_trans (by rw [bh_symm]; exact hby) e⟩
    have hpt : ∀ z, z < 16 → pt v P (T ||| 2 ^ q) y z = pa v q (pt v P T x) (an v q y) z := fun z _ => by
      unfold pt pa
      rw [bh_more hq, hbz z, Bool.and_assoc]
    have hfs : fs v P (T ||| 2 ^ q) y := ⟨hpy, fun z hz hpz => by
      rw [bh_more hq]
      cases e : (bh v T.testBit y z && decide (an v q z = an v q y)) with
      | false => rfl
      | true =>
        rw [Bool.and_eq_true, decide_eq_true_eq, hbz z] at e
        have hs : sn v q (pt v P T x) y (an v q y) = true := sn_iff.mpr ⟨z, hz, by unfold pt; rw [hpz, e.1]; rfl, e.2⟩
        unfold rs at hr
        rw [hs] at hr
        simp at hr⟩
    have := h (T ||| 2 ^ q) y o1 o2 hy hfs
    unfold En at this
    rw [eL_congr hpt, eD_congr hpt] at this
    exact this
theorem layIn_ev {w : WW} {v : Vt} (C : CSt w 1 v) (R : Rg v) {P : Nat → Bool} (hP : ∀ x, x < 16 → P x = true → x < v 0 0) {T : Nat} (hT : T < 2 ^ v 0 1) (h : ∀ T' y, T < T' → T' < 2 ^ v 0 1 → y < v 0 0 → fs v P T' y → En v P w T' y) : Ev (lpf (fun s : Int32 × Int32 × WW => f_X2_lay_b32 1 (bs P) (nI T) s.1 s.2.1 s.2.2) FU (bs P, (0 : Int32), w)) (fun u => lyw w u ∧ (∀ T' y, T ≤ T' → T' < 2 ^ v 0 1 → y < v 0 0 → fs v P T' y → En v P u T' y) ∧ (∀ y, y < v 0 0 → T = 0 → fs v P 0 y → u.1 40 0 = eL v P ∧ u.1 40 1 = (U v P).2.1 ∧ u.1 40 2 = eD v P) ∧ ((∀ y, y < 16 → P y = false) → u.1 40 0 = w.1 40 0 ∧ u.1 40 1 = w.1 40 1 ∧ u.1 40 2 = w.1 40 2)) := by
  have hn := R.1.2
  have h7 := R.2.1
  have h128 := p2q h7
  refine lpf_inv (fun k s => s.1 = bs (rst v P T k) ∧ s.2.1 = nI k ∧ lyw w s.2.2 ∧ (∀ T' y, T < T' → T' < 2 ^ v 0 1 → y < v 0 0 → fs v P T' y → En v P s.2.2 T' y) ∧ (∀ y, y < k → fs v P T y → En v P s.2.2 T y) ∧ (∀ y, y < k → T = 0 → fs v P 0 y → s.2.2.1 40 0 = eL v P ∧ s.2.2.1 40 1 = (U v P).2.1 ∧ s.2.2.1 40 2 = eD v P) ∧ ((∀ y, y < 16 → P y = false) → s.2.2.1 40 0 = w.1 40 0 ∧ s.2.2.1 40 1 = w.1 40 1 ∧ s.2.2.1 40 2 = w.1 40 2)) _ (v 0 0) (by omega) ⟨bs_congr (fun y _ => by unfold rst; simp [allB]), rfl, ⟨fun _ _ _ => rfl, rfl⟩, h, fun y hy => by omega, fun y hy => by omega, fun _ => ⟨rfl, rfl, rfl⟩⟩ (fun k s hk hI => Or.inl ?_) (fun s hI => ?_)
  · obtain ⟨a, b, u⟩ := s
    obtain ⟨rfl, rfl, i1, i2, i3, i4, i5⟩ := hI
    dsimp only at i1 i2 i3 i4 i5
    have Cu := lyw_CSt i1 C
    by_cases hf : fs v P T k
    · have hb := behind_ev Cu R T.testBit P (show k < 16 by omega)
      rw [← bs_nI (s := T) (by omega)] at hb
      refine ⟨(bs (rst v P T (k + 1)), nI (k + 1), sI (sI (cw u (eL v (pt v P T k)) (U v (pt v P T k)).2.1 (eD v (pt v P T k))) 41 (16 * T + k) (eL v (pt v P T k))) 42 (16 * T + k) (eD v (pt v P T k))), ?_, rfl, rfl, ?_, fun T' y hT' hT2 hy hfy => ?_, fun y hy hfy => ?_, fun y hy h0 hfy => ?_, fun hno => ?_⟩
      · simp only [f_X2_lay_b32, f_X2_lay_j81, nmv]
        rw [Cu.1, if_neg (nI_ge hk (by omega)), if_pos ((bs_hasT (by omega)).mpr (rst_fs.mpr hf)), hb, Option.bind_some]
        have hst := settleP_ev Cu R hP hT i2 hk hf
        unfold pt at hst
        rw [hst, Option.bind_some, bs_dif, nI_1, bs_congr (P := fun i => rst v P T k i && !(P i && bh v T.testBit k i)) (Q := rst v P T (k + 1)) (fun y _ => rst_step hf y)]
        rfl
      · refine ⟨fun k' j hk' => ?_, i1.2⟩
        dsimp only
        rw [sI_ne _ _ (by omega), sI_ne _ _ (by omega), cw_ne _ _ _ _ (by omega), i1.1 k' j hk']
      · have := i2 T' y hT' hT2 hy hfy
        unfold En at this ⊢
        dsimp only
        rw [sI_ne _ _ (by omega), sI_ne _ _ (by omega), cw_ne _ _ _ _ (by omega), sI_ne _ _ (by omega), sI_ne _ _ (by omega), cw_ne _ _ _ _ (by omega)]
        exact this
      · unfold En
        dsimp only
        by_cases e : y = k
        · subst e
          rw [sI_ne _ _ (by omega), sI_at, sI_at]
          exact ⟨rfl, rfl⟩
        · have := i3 y (by omega) hfy
          unfold En at this
          rw [sI_ne _ _ (by omega), sI_ne _ _ (by omega), cw_ne _ _ _ _ (by omega), sI_ne _ _ (by omega), sI_ne _ _ (by omega), cw_ne _ _ _ _ (by omega)]
          exact this
      · subst h0
        have hz : ∀ a b, bh v (Nat.testBit 0) a b = true := fun a b => bh_iff.mpr (fun q _ ht => by simp at ht)
        have e : pt v P 0 k = P := funext fun z => by unfold pt; rw [hz]; simp
        rw [e]
        dsimp only
        rw [sI_ne _ _ (by omega), sI_ne _ _ (by omega), cw_r0, sI_ne _ _ (by omega), sI_ne _ _ (by omega), cw_r1, sI_ne _ _ (by omega), sI_ne _ _ (by omega), cw_r2]
        exact ⟨rfl, rfl, rfl⟩
      · have := hno k (by omega)
        rw [hf.1] at this
        cases this
    · refine ⟨(bs (rst v P T (k + 1)), nI (k + 1), u), ?_, rfl, rfl, i1, i2, fun y hy hfy => ?_, fun y hy h0 hfy => ?_, i5⟩
      · simp only [f_X2_lay_b32, f_X2_lay_j81, nmv]
        rw [Cu.1, if_neg (nI_ge hk (by omega)), if_neg (fun e => hf (rst_fs.mp ((bs_hasT (by omega)).mp e))), nI_1, bs_congr (fun y _ => rst_stay hf y)]
      · by_cases e : y = k
        · subst e; exact absurd hfy hf
        · exact i3 y (by omega) hfy
      · by_cases e : y = k
        · subst e; subst h0; exact absurd hfy hf
        · exact i4 y (by omega) h0 hfy
  · obtain ⟨a, b, u⟩ := s
    obtain ⟨rfl, rfl, i1, i2, i3, i4, i5⟩ := hI
    dsimp only at i1 i2 i3 i4 i5
    refine ⟨u, ?_, i1, fun T' y hT' hT2 hy hfy => ?_, i4, i5⟩
    · simp only [f_X2_lay_b32]
      rw [(lyw_CSt i1 C).1, if_pos (nI_le (Nat.le_refl _) (by omega))]
    · by_cases e : T' = T
      · subst e; exact i3 y hy hfy
      · exact i2 T' y (by omega) hT2 hy hfy
theorem layC_ev {w : WW} {v : Vt} (C : CSt w 1 v) (R : Rg v) {P : Nat → Bool} (hP : ∀ x, x < 16 → P x = true → x < v 0 0) : Ev (f_X2_lay 1 w (bs P)) (fun u => lyw w u ∧ u.1 40 0 = eL v P ∧ u.1 40 1 = (U v P).2.1 ∧ u.1 40 2 = eD v P) := by
  have hn := R.1.2
  have h7 := R.2.1
  have h128 := p2q h7
  have hpos : 0 < 2 ^ v 0 1 := Nat.pow_pos (by omega)
  have e0 : sI (sI (sI w 40 0 0) 40 1 (-1)) 40 2 0 = cw w 0 (-1) 0 := rfl
  have C0 := cw_CSt C 0 (-1) 0
  simp only [f_X2_lay, stI, nmv]
  rw [e0, allSets_ev C0 R, Option.bind_some]
  have L : Ev (lpf (fun s : Int32 × WW => f_X2_lay_b22 1 (bs P) s.1 s.2) FU (nI (2 ^ v 0 1) - 1, cw w 0 (-1) 0)) (fun u => lyw w u ∧ u.1 40 0 = eL v P ∧ u.1 40 1 = (U v P).2.1 ∧ u.1 40 2 = eD v P) := by
    refine lpf_inv (fun j s => s.1 = nI (2 ^ v 0 1 - j) - 1 ∧ lyw w s.2 ∧ (∀ T' y, 2 ^ v 0 1 - j ≤ T' → T' < 2 ^ v 0 1 → y < v 0 0 → fs v P T' y → En v P s.2 T' y) ∧ (j = 2 ^ v 0 1 → ∀ y, y < v 0 0 → fs v P 0 y → s.2.1 40 0 = eL v P ∧ s.2.1 40 1 = (U v P).2.1 ∧ s.2.1 40 2 = eD v P) ∧ ((∀ y, y < 16 → P y = false) → s.2.1 40 0 = 0 ∧ s.2.1 40 1 = -1 ∧ s.2.1 40 2 = 0)) _ (2 ^ v 0 1) (by omega) ⟨by rw [Nat.sub_zero], ⟨fun k j hk => cw_ne _ _ _ _ (by omega), rfl⟩, fun T' y h1 h2 => by omega, fun e => by omega, fun _ => ⟨cw_r0 _ _ _ _, cw_r1 _ _ _ _, cw_r2 _ _ _ _⟩⟩ (fun j s hj hI => Or.inl ?_) (fun s hI => ?_)
    · obtain ⟨a, u⟩ := s
      obtain ⟨rfl, i1, i2, i3, i4⟩ := hI
      dsimp only at i1 i2 i3 i4
      obtain ⟨T, hTj⟩ : ∃ T, 2 ^ v 0 1 - j = T + 1 := ⟨2 ^ v 0 1 - j - 1, by omega⟩
      obtain ⟨u', e, k1, k2, k3, k4⟩ := layIn_ev (lyw_CSt i1 C) R hP (T := T) (by omega) (fun T' y h1 h2 h3 h4 => i2 T' y (by omega) h2 h3 h4)
      refine ⟨(nI (2 ^ v 0 1 - (j + 1)) - 1, u'), ?_, rfl, ⟨fun k j hk => (k1.1 k j hk).trans (i1.1 k j hk), k1.2.trans i1.2⟩, fun T' y h1 h2 h3 h4 => k2 T' y (by omega) h2 h3 h4, fun ej y hy hf => k3 y hy (by omega) hf, fun hno => ?_⟩
      · simp only [f_X2_lay_b22]
        rw [hTj, nI_pred, if_neg (nI_pos (by omega)), e, Option.bind_some, sub1, show 2 ^ v 0 1 - (j + 1) = T by omega]
      · obtain ⟨a1, a2, a3⟩ := k4 hno
        obtain ⟨b1, b2, b3⟩ := i4 hno
        exact ⟨a1.trans b1, a2.trans b2, a3.trans b3⟩
    · obtain ⟨a, u⟩ := s
      obtain ⟨rfl, i1, i2, i3, i4⟩ := hI
      dsimp only at i1 i2 i3 i4
      refine ⟨u, ?_, i1, ?_⟩
      · simp only [f_X2_lay_b22]
        rw [Nat.sub_self, if_pos (by decide)]
      · by_cases hc : cnt P = 0
        · obtain ⟨b1, b2, b3⟩ := i4 (cnt0.mp hc)
          unfold eL eD
          rw [U_one (by omega)]
          exact ⟨b1, b2, b3⟩
        · obtain ⟨x, hx, hx2, hx3⟩ := fb_first (p := fun x => P x = true) (fb_ct_pos.mp (Nat.pos_of_ne_zero hc))
          exact i3 rfl x (hP x hx hx2) ⟨hx2, fun y hy hpy => absurd hpy (hx3 y hy)⟩
  obtain ⟨u, e, hu⟩ := L
  rw [e]
  exact ⟨u, rfl, hu⟩

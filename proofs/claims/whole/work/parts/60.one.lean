/-! one behind the other, in the reference -/
theorem mk_test {s : Nat} (hs : s < 65536) : mk s.testBit 16 = s := by
  apply Nat.eq_of_testBit_eq
  intro i
  rw [mk_bit]
  by_cases h : i < 16
  · simp [h]
  · have : s < 2 ^ i := Nat.lt_of_lt_of_le (show s < 2 ^ 16 from hs) (Nat.pow_le_pow_right (by omega) (by omega))
    simp [h, Nat.testBit_lt_two_pow this]
theorem ct_two {p : Nat → Bool} {a b n : Nat} (ha : a < n) (hb : b < n) (hab : a ≠ b) (h1 : p a = true) (h2 : p b = true) : 2 ≤ fb_ct p n := by
  have hu := fb_ct_upd p false ha
  rw [h1] at hu
  simp only [if_true, Bool.false_eq_true, if_false, Nat.add_zero] at hu
  have : 0 < fb_ct (fun k => if k = a then false else p k) n := fb_ct_pos.mpr ⟨b, hb, by rw [if_neg (fun e => hab e.symm)]; exact h2⟩
  omega
/-- the part of s by question q and answer A, as a number -/
def pn (v : Vt) (q s A : Nat) : Nat := s &&& mk (cby v q A) 16
def sbs (P : Nat → Bool) (s : Nat) : Prop := s < 65536 ∧ ∀ y, y < 16 → s.testBit y = true → P y = true
theorem pn_bit {v : Vt} {P : Nat → Bool} (hP : ∀ x, x < 16 → P x = true → x < v 0 0) {q s A : Nat} (hs : sbs P s) : ∀ y, y < 16 → (pn v q s A).testBit y = pa v q s.testBit A y := fun y hy => by
  unfold pn pa cby
  rw [Nat.testBit_and, mk_bit]
  cases e : s.testBit y with
  | false => rfl
  | true => simp [hy, hP y hy (hs.2 y hy e)]
theorem pn_le (v : Vt) (q s A : Nat) : pn v q s A ≤ s := Nat.and_le_left
theorem pn_sbs {v : Vt} {P : Nat → Bool} {q s A : Nat} (hs : sbs P s) : sbs P (pn v q s A) := ⟨Nat.lt_of_le_of_lt (pn_le v q s A) hs.1, fun y hy h => hs.2 y hy (by
  unfold pn at h
  rw [Nat.testBit_and, Bool.and_eq_true] at h
  exact h.1)⟩
theorem test_eq {a b : Nat} (ha : a < 65536) (hb : b < 65536) (h : ∀ y, y < 16 → a.testBit y = b.testBit y) : a = b := by
  rw [← mk_test ha, ← mk_test hb]
  apply Nat.eq_of_testBit_eq
  intro i
  rw [mk_bit, mk_bit]
  by_cases hi : i < 16
  · rw [h i hi]
  · simp [hi]
theorem pn_np {v : Vt} (R : Rg v) {P : Nat → Bool} (hP : ∀ x, x < 16 → P x = true → x < v 0 0) {q s : Nat} (hq : q < v 0 1) (hs : sbs P s) (h0 : cnt s.testBit ≠ 0) : (∀ A, A < 10 → pn v q s A ≠ s) ↔ 2 ≤ np v q s.testBit := by
  constructor
  · intro h
    obtain ⟨x, hx, hx2⟩ := fb_ct_pos.mp (Nat.pos_of_ne_zero h0)
    have hA := an_le R hq hx
    have hex : ∃ y, y < 16 ∧ s.testBit y = true ∧ an v q y ≠ an v q x := Classical.byContradiction (fun hno => h _ hA (test_eq (pn_sbs hs).1 hs.1 (fun y hy => by
      rw [pn_bit hP hs y hy]
      unfold pa
      cases e : s.testBit y with
      | false => rfl
      | true =>
        have : an v q y = an v q x := Classical.byContradiction (fun hc => hno ⟨y, hy, e, hc⟩)
        simp [this])))
    obtain ⟨y, hy, hy2, hy3⟩ := hex
    have hB := an_le R hq hy
    exact ct_two (a := an v q x) (b := an v q y) (by omega) (by omega) (fun e => hy3 e.symm) (decide_eq_true (cntN0 hx (by unfold pa; simp [hx2]))) (decide_eq_true (cntN0 hy (by unfold pa; simp [hy2])))
  · intro h A _ e
    have h1 := pa_small h A
    have h2 : cnt (pn v q s A).testBit = cnt (pa v q s.testBit A) := cnt_congr (fun y hy => pn_bit hP hs y hy)
    rw [e] at h2
    omega
def EM (v : Vt) (w : WW) (s : Nat) : Prop := w.1 58 s = nI (U v s.testBit).1 ∧ w.1 59 s = (U v s.testBit).2.1 ∧ w.1 60 s = nI (U v s.testBit).2.2
def lmw (w u : WW) : Prop := (∀ k j, ¬ (58 ≤ k ∧ k ≤ 61) → u.1 k j = w.1 k j) ∧ u.2 = w.2
theorem lmw_MSt {w u : WW} {v : Vt} (h : lmw w u) (M : MSt w v) : MSt u v := by
  obtain ⟨c1, c2, c3, c4, c5, c6⟩ := M
  exact ⟨(h.1 _ _ (by omega)).trans c1, (h.1 _ _ (by omega)).trans c2, (h.1 _ _ (by omega)).trans c3, fun x hx => (h.1 _ _ (by omega)).trans (c4 x hx), fun i hi => ⟨(h.1 _ _ (by omega)).trans (c5 i hi).1, (h.1 _ _ (by omega)).trans (c5 i hi).2.1, (h.1 _ _ (by omega)).trans (c5 i hi).2.2⟩, fun i hi => ⟨(h.1 _ _ (by omega)).trans (c6 i hi).1, (h.1 _ _ (by omega)).trans (c6 i hi).2⟩⟩
/-- the parts by all questions and answers are laid -/
def PB (v : Vt) (w : WW) : Prop := ∀ q A, q < v 0 1 → A < 16 → w.1 61 (16 * q + A) = bs (cby v q A)
theorem Wq_pn {v : Vt} {P : Nat → Bool} (hP : ∀ x, x < 16 → P x = true → x < v 0 0) {q s : Nat} (hs : sbs P s) : mx (fun A => (U v (pn v q s A).testBit).1) 10 = Wq v s.testBit q := mx_congr (fun A _ => by rw [U_congr (pn_bit hP hs)])
theorem Eq_pn {v : Vt} {P : Nat → Bool} (hP : ∀ x, x < 16 → P x = true → x < v 0 0) {q s : Nat} (hs : sbs P s) : mx (fun A => (U v (pn v q s A).testBit).2.2) 10 = Eq' v s.testBit q := mx_congr (fun A _ => by rw [U_congr (pn_bit hP hs)])
theorem oneIn_ev {w : WW} {v : Vt} (R : Rg v) {P : Nat → Bool} {q s : Nat} (l2 : Int32) (hq : q < v 0 1) (hs : sbs P s) (hB : PB v w) (hE : ∀ s', s' < s → sbs P s' → EM v w s') : Ev (lpf (fun z : Int32 × Int32 × Int32 × Int32 => f_X8_setOne_b70 w (nI s) l2 (nI q) z.1 z.2.1 z.2.2.1 z.2.2.2) FU ((0 : Int32), (0 : Int32), (1 : Int32), (0 : Int32))) (fun r => (r.2.2 = 1 ∧ (∀ A, A < 10 → pn v q s A ≠ s) ∧ r.1 = nI (mx (fun A => (U v (pn v q s A).testBit).1) 10) ∧ r.2.1 = nI (mx (fun A => (U v (pn v q s A).testBit).2.2) 10)) ∨ (r.2.2 = 0 ∧ ¬ ∀ A, A < 10 → pn v q s A ≠ s)) := by
  have h7 := R.2.1
  have hs16 := hs.1
  have b1 : ∀ k, mx (fun A => (U v (pn v q s A).testBit).1) k ≤ 1048576 := fun k => mx_le (fun A _ => by have := (U_bound R (pn v q s A).testBit).1; omega)
  have b2 : ∀ k, mx (fun A => (U v (pn v q s A).testBit).2.2) k ≤ 16 := fun k => mx_le (fun A _ => (U_bound R (pn v q s A).testBit).2)
  refine lpf_inv (fun k z => z.2.2.2 = nI k ∧ ((z.2.2.1 = 1 ∧ (∀ A, A < k → pn v q s A ≠ s) ∧ z.1 = nI (mx (fun A => (U v (pn v q s A).testBit).1) k) ∧ z.2.1 = nI (mx (fun A => (U v (pn v q s A).testBit).2.2) k)) ∨ (z.2.2.1 = 0 ∧ ¬ ∀ A, A < k → pn v q s A ≠ s))) _ 10 (by omega) ⟨rfl, Or.inl ⟨rfl, fun A hA => by omega, rfl, rfl⟩⟩ (fun k z hk hI => Or.inl ?_) (fun z hI => ?_)
  · obtain ⟨a, b, c, d⟩ := z
    obtain ⟨rfl, hI⟩ := hI
    dsimp only at hI
    have hp := pn_le v q s k
    have hcell : nI s &&& w.1 61 (16 * q + k) = nI (pn v q s k) := by
      rw [hB q k hq (by omega)]
      unfold bs
      rw [nx_and]; rfl
    have hix : (16 : Int32) * nI q + nI k = nI (16 * q + k) := by rw [q_16, pk_mul, nI_add]
    simp only [f_X8_setOne_b70, f_X8_setOne_j171, f_X8_setOne_j169, f_X8_setOne_j140, f_X8_setOne_j138, f_X8_setOne_j109, f_X8_setOne_j108, nmv]
    rw [show (10 : Int32) = nI 10 from rfl, if_neg (nI_ge hk (by omega)), hix, gd_t (inb_n (by omega) (by omega)), cl_n (by omega), hcell, nI_1]
    rcases hI with ⟨rfl, h1, rfl, rfl⟩ | ⟨rfl, h1⟩
    · rw [if_neg (by decide)]
      by_cases e : pn v q s k = s
      · rw [if_pos (by rw [e]), if_pos trivial, if_pos trivial]
        exact ⟨_, rfl, rfl, Or.inr ⟨rfl, fun h => h k (by omega) e⟩⟩
      · have he := hE (pn v q s k) (by omega) (pn_sbs hs)
        have hu := U_bound R (pn v q s k).testBit
        have hb1 := b1 k
        have hb2 := b2 k
        rw [if_neg (by rw [nI_eq (by omega) (by omega)]; exact e), if_neg (by decide), gd_t (inb_n (by omega) (by omega)), cl_n (by omega), he.1, he.2.2]
        have hnew : ∀ A, A < k + 1 → pn v q s A ≠ s := fun A hA => by
          by_cases e2 : A = k
          · rw [e2]; exact e
          · exact h1 A (by omega)
        by_cases c1 : mx (fun A => (U v (pn v q s A).testBit).1) k < (U v (pn v q s k).testBit).1
        · rw [if_neg (nI_ge c1 (by omega)), gd_t (inb_n (by omega) (by omega)), if_neg (by decide), gd_t (inb_n (by omega) (by omega))]
          by_cases c2 : mx (fun A => (U v (pn v q s A).testBit).2.2) k < (U v (pn v q s k).testBit).2.2
          · rw [if_neg (nI_ge c2 (by omega)), gd_t (inb_n (by omega) (by omega))]
            exact ⟨_, rfl, rfl, Or.inl ⟨rfl, hnew, by rw [mx, if_pos c1], by rw [mx, if_pos c2]⟩⟩
          · rw [if_pos (nI_le (by omega) (by omega))]
            exact ⟨_, rfl, rfl, Or.inl ⟨rfl, hnew, by rw [mx, if_pos c1], by rw [mx, if_neg c2]⟩⟩
        · rw [if_pos (nI_le (by omega) (by omega)), if_neg (by decide), gd_t (inb_n (by omega) (by omega))]
          by_cases c2 : mx (fun A => (U v (pn v q s A).testBit).2.2) k < (U v (pn v q s k).testBit).2.2
          · rw [if_neg (nI_ge c2 (by omega)), gd_t (inb_n (by omega) (by omega))]
            exact ⟨_, rfl, rfl, Or.inl ⟨rfl, hnew, by rw [mx, if_neg c1], by rw [mx, if_pos c2]⟩⟩
          · rw [if_pos (nI_le (by omega) (by omega))]
            exact ⟨_, rfl, rfl, Or.inl ⟨rfl, hnew, by rw [mx, if_neg c1], by rw [mx, if_neg c2]⟩⟩
    · rw [if_pos rfl, if_pos trivial, if_pos trivial]
      exact ⟨_, rfl, rfl, Or.inr ⟨rfl, fun h => h1 (fun A hA => h A (by omega))⟩⟩
  · obtain ⟨a, b, c, d⟩ := z
    obtain ⟨rfl, hI⟩ := hI
    refine ⟨(a, b, c), ?_, hI⟩
    simp only [f_X8_setOne_b70]
    rw [if_pos (by decide)]
/-- three cells at s -/
def tw (w : WW) (s : Nat) (t : Nat × Int32 × Nat) : WW := sI (sI (sI w 58 s (nI t.1)) 59 s t.2.1) 60 s (nI t.2.2)
theorem tw_58 (w : WW) (s : Nat) (t : Nat × Int32 × Nat) : (tw w s t).1 58 s = nI t.1 := by unfold tw; rw [sI_ne _ _ (by omega), sI_ne _ _ (by omega), sI_at]
theorem tw_59 (w : WW) (s : Nat) (t : Nat × Int32 × Nat) : (tw w s t).1 59 s = t.2.1 := by unfold tw; rw [sI_ne _ _ (by omega), sI_at]
theorem tw_60 (w : WW) (s : Nat) (t : Nat × Int32 × Nat) : (tw w s t).1 60 s = nI t.2.2 := by unfold tw; rw [sI_at]
theorem tw_ne (w : WW) (s : Nat) (t : Nat × Int32 × Nat) {k j : Nat} (h : ¬ (58 ≤ k ∧ k ≤ 60 ∧ j = s)) : (tw w s t).1 k j = w.1 k j := by unfold tw; rw [sI_ne _ _ (by omega), sI_ne _ _ (by omega), sI_ne _ _ (by omega)]
theorem tw_tw (w : WW) (s : Nat) (t t' : Nat × Int32 × Nat) : sI (sI (sI (tw w s t) 58 s (nI t'.1)) 59 s t'.2.1) 60 s (nI t'.2.2) = tw w s t' := by
  unfold tw sI
  refine Prod.ext (funext fun k => funext fun j => ?_) rfl
  dsimp only
  by_cases h : j = s
  · by_cases h0 : k = 58
    · simp [h, h0]
    · by_cases h1 : k = 59
      · simp [h, h1]
      · by_cases h2 : k = 60 <;> simp [h, h0, h1, h2]
  · simp [h]
theorem tw_MSt {w : WW} {v : Vt} (M : MSt w v) (s : Nat) (t : Nat × Int32 × Nat) : MSt (tw w s t) v := lmw_MSt ⟨fun k j h => tw_ne _ _ _ (by omega), rfl⟩ M
theorem setOne_ev {w : WW} {v : Vt} (M : MSt w v) (R : Rg v) {P : Nat → Bool} (hP : ∀ x, x < 16 → P x = true → x < v 0 0) {s : Nat} (hs : sbs P s) (hB : PB v w) (hE : ∀ s', s' < s → sbs P s' → EM v w s') : f_X8_setOne w (nI s) = some (tw w s (U v s.testBit)) := by
  have h7 := R.2.1
  have hs16 := hs.1
  have hsing : nI s &&& (nI s - 1) = 0 ↔ cnt s.testBit ≤ 1 := by
    have := sing_c s.testBit
    rw [← bs_nI hs16] at this
    exact this
  have j29 : ∀ (l2 s0 : Int32), f_X8_setOne_j29 w (nI s) l2 s0 (nI s) = (lpf (fun z : Int32 × WW => f_X8_setOne_b46 (nI s) l2 z.1 z.2) FU ((0 : Int32), sI (sI (sI w 58 s s0) 59 s (-1)) 60 s 0)).bind (fun r => some r) := fun l2 s0 => by
    simp only [f_X8_setOne_j29, stI]
    rw [gd_t (inb_n (by omega) (by omega)), gd_t (inb_n (by omega) (by omega)), gd_t (inb_n (by omega) (by omega)), cl_n (by omega)]
  unfold f_X8_setOne
  by_cases hc : cnt s.testBit ≤ 1
  · rw [if_pos (hsing.mpr hc)]
    unfold f_X8_setOne_j13
    rw [if_neg (by decide), j29, lpf_seq (body := fun z : Int32 × WW => f_X8_setOne_b46 (nI s) 1 z.1 z.2) (fun _ => ((0 : Int32), sI (sI (sI w 58 s 0) 59 s (-1)) 60 s 0)) 0 (sI (sI (sI w 58 s 0) 59 s (-1)) 60 s 0) (by omega) (fun i hi => by omega) (by
      simp only [f_X8_setOne_b46]
      rw [if_neg (show ¬ (1 : Int32) = 0 by decide)]
      split <;> rfl), Option.bind_some, U_one hc]
    rfl
  · rw [if_neg (fun e => hc (hsing.mp e))]
    unfold f_X8_setOne_j13
    rw [if_pos rfl, j29, U_two hc]
    have L := lpf_seq (body := fun z : Int32 × WW => f_X8_setOne_b46 (nI s) 0 z.1 z.2) (fun k => (nI k, tw w s (sqf v s.testBit (Wq v s.testBit) (Eq' v s.testBit) k))) (v 0 1) (tw w s (sqf v s.testBit (Wq v s.testBit) (Eq' v s.testBit) (v 0 1))) (by omega) (fun k hk => ?_) ?_
    · rw [show ((0 : Int32), sI (sI (sI w 58 s 1048576) 59 s (-1)) 60 s 0) = (nI 0, tw w s (sqf v s.testBit (Wq v s.testBit) (Eq' v s.testBit) 0)) from rfl, L, Option.bind_some]
    · have hp := (R.2.2.2.2.1 k hk).2.2
      generalize ht : sqf v s.testBit (Wq v s.testBit) (Eq' v s.testBit) k = t
      have hM := tw_MSt M s t
      have htb : t.1 ≤ 1048576 := by
        rw [← ht]
        rcases sq_bound R (Q := s.testBit) (show k ≤ v 0 1 by omega) with e | ⟨b1, -⟩
        · rw [e]; exact Nat.le_refl _
        · omega
      obtain ⟨⟨r1, r2, r3⟩, er, hr⟩ := oneIn_ev (w := tw w s t) R (l2 := 0) hk hs (fun q A hq hA => by rw [tw_ne _ _ _ (by omega)]; exact hB q A hq hA) (fun s' h1 h2 => by
        obtain ⟨a, b, c⟩ := hE s' h1 h2
        exact ⟨by rw [tw_ne _ _ _ (by omega)]; exact a, by rw [tw_ne _ _ _ (by omega)]; exact b, by rw [tw_ne _ _ _ (by omega)]; exact c⟩)
      have hiff := pn_np R hP hk hs (by omega)
      simp only [f_X8_setOne_b46, f_X8_setOne_j241, stI]
      rw [hM.2.1, if_neg (nI_ge hk (by omega)), if_pos trivial, er, Option.bind_some, nI_1]
      dsimp only at hr ⊢
      have stay : ¬ (2 ≤ np v k s.testBit ∧ Wq v s.testBit k < 1048576 ∧ Wq v s.testBit k + v 4 k < t.1) → sqf v s.testBit (Wq v s.testBit) (Eq' v s.testBit) (k + 1) = t := fun h => by rw [sqf, ht, if_neg h]
      rcases hr with ⟨rfl, h1, rfl, rfl⟩ | ⟨rfl, h1⟩
      · have hnp := hiff.mp h1
        rw [Wq_pn hP hs, Eq_pn hP hs, if_neg (by decide)]
        have hWb := Wq_bound R s.testBit k
        by_cases hW : Wq v s.testBit k < 1048576
        · have hE2 := Eq_bound R s.testBit k
          rw [show (1048576 : Int32) = nI 1048576 from rfl, if_neg (nI_ge hW (by omega)), gd_t (inb_n (by omega) (by omega)), gd_t (inb_n (by omega) (by omega)), cl_n (by omega), cl_n (by omega), (hM.2.2.2.2.1 k hk).2.2, tw_58, nI_add]
          by_cases hl : Wq v s.testBit k + v 4 k < t.1
          · rw [if_neg (nI_ge hl (by omega)), gd_t (inb_n (by omega) (by omega)), gd_t (inb_n (by omega) (by omega)), gd_t (inb_n (by omega) (by omega)), gd_t (inb_n (by omega) (by omega)), show (1 : Int32) + nI (Eq' v s.testBit k) = nI (1 + Eq' v s.testBit k) by rw [show (1 : Int32) = nI 1 from rfl, nI_add]]
            have := tw_tw w s t (Wq v s.testBit k + v 4 k, nI k, 1 + Eq' v s.testBit k)
            dsimp only at this
            rw [this, sqf, ht, if_pos ⟨hnp, hW, hl⟩]
          · rw [if_pos (nI_le (by omega) (by omega)), stay (fun e => hl e.2.2)]
        · rw [show (1048576 : Int32) = nI 1048576 from rfl, if_pos (nI_le (by omega) (by omega)), stay (fun e => hW e.2.1)]
      · rw [if_pos rfl, stay (fun e => h1 (hiff.mpr e.1))]
    · simp only [f_X8_setOne_b46]
      rw [(tw_MSt M s _).2.1, if_pos (nI_le (Nat.le_refl _) (by omega))]
theorem setParts_ev {w : WW} {v : Vt} (M : MSt w v) (R : Rg v) (l1 : Int32) : Ev (lpf (fun s : Int32 × WW => f_X8_setLeast_b2 l1 s.1 s.2) FU ((0 : Int32), w)) (fun u => lmw w u ∧ PB v u) := by
  have h7 := R.2.1
  refine lpf_inv (fun q s => s.1 = nI q ∧ lmw w s.2 ∧ ∀ i A, i < q → A < 16 → s.2.1 61 (16 * i + A) = bs (cby v i A)) _ (v 0 1) (by omega) ⟨rfl, ⟨fun _ _ _ => rfl, rfl⟩, fun i A hi => by omega⟩ (fun q s hq hI => Or.inl ?_) (fun s hI => ?_)
  · obtain ⟨a, u⟩ := s
    obtain ⟨rfl, i1, i2⟩ := hI
    dsimp only at i1 i2
    have L : Ev (lpf (fun s : Int32 × WW => f_X8_setLeast_b12 l1 (nI q) s.1 s.2) FU ((0 : Int32), u)) (fun u' => lmw w u' ∧ ∀ i A, i < q + 1 → A < 16 → u'.1 61 (16 * i + A) = bs (cby v i A)) := by
      refine lpf_inv (fun A s => s.1 = nI A ∧ lmw w s.2 ∧ (∀ i B, i < q → B < 16 → s.2.1 61 (16 * i + B) = bs (cby v i B)) ∧ ∀ B, B < A → s.2.1 61 (16 * q + B) = bs (cby v q B)) _ 16 (by omega) ⟨rfl, i1, i2, fun B hB => by omega⟩ (fun A s hA hI => Or.inl ?_) (fun s hI => ?_)
      · obtain ⟨a, x⟩ := s
        obtain ⟨rfl, k1, k2, k3⟩ := hI
        dsimp only at k1 k2 k3
        refine ⟨(nI (A + 1), sI x 61 (16 * q + A) (bs (cby v q A))), ?_, rfl, ⟨fun k j hk => by dsimp only; rw [sI_ne _ _ (by omega)]; exact k1.1 k j hk, k1.2⟩, fun i B hi hB => by dsimp only; rw [sI_ne _ _ (by omega)]; exact k2 i B hi hB, fun B hB => ?_⟩
        · simp only [f_X8_setLeast_b12, stI]
          rw [show (16 : Int32) * nI q + nI A = nI (16 * q + A) by rw [q_16, pk_mul, nI_add], q_16, if_neg (nI_ge hA (by omega)), casesBy_ev (lmw_MSt k1 M) R hq (by omega), Option.bind_some, gd_t (inb_n (by omega) (by omega)), cl_n (by omega), nI_1]
        · dsimp only
          by_cases e : B = A
          · subst e; rw [sI_at]
          · rw [sI_ne _ _ (by omega)]; exact k3 B (by omega)
      · obtain ⟨a, x⟩ := s
        obtain ⟨rfl, k1, k2, k3⟩ := hI
        dsimp only at k1 k2 k3
        refine ⟨x, ?_, k1, fun i A hi hA => ?_⟩
        · simp only [f_X8_setLeast_b12]
          rw [if_pos (by decide)]
        · by_cases e : i = q
          · subst e; exact k3 A hA
          · exact k2 i A (by omega) hA
    obtain ⟨u', e, k1, k2⟩ := L
    refine ⟨(nI (q + 1), u'), ?_, rfl, k1, k2⟩
    simp only [f_X8_setLeast_b2]
    rw [(lmw_MSt i1 M).2.1, if_neg (nI_ge hq (by omega)), e, Option.bind_some, nI_1]
  · obtain ⟨a, u⟩ := s
    obtain ⟨rfl, i1, i2⟩ := hI
    dsimp only at i1 i2
    refine ⟨u, ?_, i1, i2⟩
    simp only [f_X8_setLeast_b2]
    rw [(lmw_MSt i1 M).2.1, if_pos (nI_le (Nat.le_refl _) (by omega))]
theorem setLeast_ev {w : WW} {v : Vt} (M : MSt w v) (R : Rg v) {P : Nat → Bool} (hP : ∀ x, x < 16 → P x = true → x < v 0 0) : Ev (f_X8_setLeast w (bs P)) (fun u => lmw w u ∧ EM v u (mk P 16)) := by
  have hm : mk P 16 < 65536 := mk_lt P 16
  have hmP : ∀ y, y < 16 → (mk P 16).testBit y = P y := fun y hy => by rw [mk_bit]; simp [hy]
  unfold f_X8_setLeast
  obtain ⟨u0, e0, h0, hB0⟩ := setParts_ev M R (bs P)
  rw [e0, Option.bind_some]
  have L : Ev (lpf (fun s : Int32 × WW => f_X8_setLeast_b49 (bs P) s.1 s.2) FU ((0 : Int32), u0)) (fun u => lmw w u ∧ EM v u (mk P 16)) := by
    refine lpf_inv (fun s z => z.1 = nI s ∧ lmw w z.2 ∧ PB v z.2 ∧ ∀ s', s' < s → sbs P s' → EM v z.2 s') _ (mk P 16 + 1) (by omega) ⟨rfl, h0, hB0, fun s' hs' => by omega⟩ (fun s z hs hI => Or.inl ?_) (fun z hI => ?_)
    · obtain ⟨a, u⟩ := z
      obtain ⟨rfl, i1, i2, i3⟩ := hI
      dsimp only at i1 i2 i3
      have hsub : nI s &&& (bs P ^^^ (-1)) = 0 ↔ sbs P s := by
        rw [bs_nI (s := s) (by omega), bs_dif, bs_eq0]
        constructor
        · intro h
          refine ⟨by omega, fun y hy hb => ?_⟩
          have := h y hy
          rw [hb] at this
          simpa using this
        · intro h y hy
          cases hb : s.testBit y with
          | false => rfl
          | true => rw [h.2 y hy hb]; rfl
      have hlt : ¬ bs P < nI s := by
        unfold bs
        exact nI_nlt (by omega) (by omega)
      by_cases hss : sbs P s
      · refine ⟨(nI (s + 1), tw u s (U v s.testBit)), ?_, rfl, ⟨fun k j hk => by dsimp only; rw [tw_ne _ _ _ (by omega)]; exact i1.1 k j hk, i1.2⟩, fun q A hq hA => by dsimp only; rw [tw_ne _ _ _ (by omega)]; exact i2 q A hq hA, fun s' h1 h2 => ?_⟩
        · simp only [f_X8_setLeast_b49, f_X8_setLeast_j67]
          rw [if_neg hlt, if_pos (hsub.mpr hss), setOne_ev (lmw_MSt i1 M) R hP hss i2 i3, Option.bind_some, nI_1]
        · dsimp only
          by_cases e : s' = s
          · subst e
            exact ⟨tw_58 _ _ _, tw_59 _ _ _, tw_60 _ _ _⟩
          · obtain ⟨a, b, c⟩ := i3 s' (by omega) h2
            exact ⟨by rw [tw_ne _ _ _ (by omega)]; exact a, by rw [tw_ne _ _ _ (by omega)]; exact b, by rw [tw_ne _ _ _ (by omega)]; exact c⟩
      · refine ⟨(nI (s + 1), u), ?_, rfl, i1, i2, fun s' h1 h2 => ?_⟩
        · simp only [f_X8_setLeast_b49, f_X8_setLeast_j67]
          rw [if_neg hlt, if_neg (fun e => hss (hsub.mp e)), nI_1]
        · by_cases e : s' = s
          · subst e; exact absurd h2 hss
          · exact i3 s' (by omega) h2
    · obtain ⟨a, u⟩ := z
      obtain ⟨rfl, i1, i2, i3⟩ := hI
      dsimp only at i1 i2 i3
      refine ⟨u, ?_, i1, i3 (mk P 16) (by omega) ⟨hm, fun y hy h => by rw [hmP y hy] at h; exact h⟩⟩
      simp only [f_X8_setLeast_b49]
      have : bs P < nI (mk P 16 + 1) := by
        unfold bs
        exact nI_lt (by omega) (by omega)
      rw [if_pos this]
  obtain ⟨u, e, hu⟩ := L
  rw [e]
  exact ⟨u, rfl, hu⟩
theorem lyw_same {w u : WW} (h : lyw w u) : SameC w u ∧ LowC w u := ⟨⟨fun k j hk => h.1 k j (by unfold scr at hk; omega), fun k j _ => by rw [h.2]⟩, fun k hk => ⟨funext fun j => h.1 k j (by omega), by rw [h.2]⟩⟩
theorem lmw_same {w u : WW} (h : lmw w u) : SameM w u ∧ HighM w u := ⟨⟨fun k j hk => h.1 k j (by unfold scrM at hk; omega), fun k j _ => by rw [h.2]⟩, fun k hk => ⟨funext fun j => h.1 k j (by omega), by rw [h.2]⟩⟩
theorem oneByOne_ok {w : WW} {S : StT} (I : SInv S) (C : CInv w S) (M : MInv w S) (x : Int32) : Both (f_X7_oneByOne w x) (fun w => f_X8_oneByOne w x) := by
  have hP : ∀ x, x < 16 → lft S.1.1 x = true → x < S.1.1 0 0 := fun x _ h => lft_lt h
  have l2 : (2 : Int32) = nI 3 - 1 := rfl
  by_cases h : inb x 3
  · obtain ⟨t, ht, rfl⟩ := inb_of h (by omega)
    have R := I.1.1
    obtain ⟨u, eu, u1, u2, u3, u4⟩ := layC_ev C.1.1 R hP
    have hm : mk (lft S.1.1) 16 < 65536 := mk_lt _ 16
    have hUm : U S.1.1 (mk (lft S.1.1) 16).testBit = U S.1.1 (lft S.1.1) := U_congr (fun y hy => by rw [mk_bit]; simp [hy])
    have hb := (U_bound R (lft S.1.1)).1
    refine Both.of (S' := S) (r := if (U S.1.1 (lft S.1.1)).1 = 1048576 then -1 else if t = 0 then nI (U S.1.1 (lft S.1.1)).1 else if t = 1 then (U S.1.1 (lft S.1.1)).2.1 else nI (U S.1.1 (lft S.1.1)).2.2) M I ?_ (fun w' M' => ?_)
    · refine ⟨u, ?_, (lyw_same u1).2, C.same (lyw_same u1).1⟩
      simp only [f_X7_oneByOne]
      rw [within_nn w _ l2 (by omega), Option.bind_some, if_pos h, if_neg (by decide), fit0 I C, Option.bind_some, eu, Option.bind_some, u2, u3, u4]
      unfold eL eD
      have hbad : (U S.1.1 (lft S.1.1)).1 = 1048576 → (U S.1.1 (lft S.1.1)).2.1 = -1 := fun e => by
        by_cases hc : cnt (lft S.1.1) ≤ 1
        · rw [U_one hc]
        · rw [U_two hc] at e ⊢
          rcases sq_bound R (Q := lft S.1.1) (Nat.le_refl (S.1.1 0 1)) with q | ⟨b1, -⟩
          · rw [q]
          · omega
      have t3 : t = 0 ∨ t = 1 ∨ t = 2 := by omega
      by_cases hU : (U S.1.1 (lft S.1.1)).1 = 1048576
      · rw [if_pos hU, if_pos hU, if_pos hU, hbad hU]
        rcases t3 with rfl | rfl | rfl <;> rfl
      · rw [if_neg hU, if_neg hU, if_neg hU]
        rcases t3 with rfl | rfl | rfl <;> rfl
    · obtain ⟨z, ez, z1, z2⟩ := setLeast_ev M'.1.st R hP
      refine ⟨z, ?_, (lmw_same z1).2, M'.same (lmw_same z1).1⟩
      show f_X8_oneByOne w' (nI t) = _
      simp only [f_X8_oneByOne]
      unfold EM at z2
      rw [hUm] at z2
      have hix : bs (lft S.1.1) = nI (mk (lft S.1.1) 16) := rfl
      rw [in_nn w' _ l2 (by omega), Option.bind_some, if_pos h, if_neg (by decide), leftOver_ev M'.1.st R, Option.bind_some, ez, Option.bind_some, hix, gd_t (inb_n (by omega) (by omega)), gd_t (inb_n (by omega) (by omega)), gd_t (inb_n (by omega) (by omega)), gd_t (inb_n (by omega) (by omega)), cl_n (by omega), z2.1, z2.2.1, z2.2.2]
      have t3 : t = 0 ∨ t = 1 ∨ t = 2 := by omega
      by_cases hU : (U S.1.1 (lft S.1.1)).1 = 1048576
      · rw [if_pos hU, hU, if_neg (by decide)]
      · rw [if_neg hU, show (1048576 : Int32) = nI 1048576 from rfl, if_pos (nI_lt (by omega) (by omega))]
        rcases t3 with rfl | rfl | rfl <;> rfl
  · exact both_ref I C M (-2) 0 (by omega) (by simp only [f_X7_oneByOne, within_nn w _ l2 (by omega), Option.bind_some, if_neg h, refuse_0]; rfl) (fun w' M' => by simp only [f_X8_oneByOne, in_nn w' _ l2 (by omega), Option.bind_some, if_neg h, bad_0]; rfl)

abbrev Vt : Type := Nat → Nat → Nat
def an (v : Vt) (i x : Nat) : Nat := ans (v 2 i) (v 3 i) x
def Rg (v : Vt) : Prop := (1 ≤ v 0 0 ∧ v 0 0 ≤ 16) ∧ v 0 1 ≤ 7 ∧ v 0 2 ≤ 8 ∧ (∀ x, x < 16 → 1 ≤ v 1 x ∧ v 1 x ≤ 9) ∧ (∀ i, i < v 0 1 → v 2 i ≤ 5 ∧ v 3 i ≤ 15 ∧ v 4 i ≤ 99) ∧ ∀ i, i < v 0 2 → v 5 i < v 0 1 ∧ v 6 i ≤ 15
/-- the class's Stand at b -/
def CSt (w : WW) (b : Nat) (v : Vt) : Prop := w.1 b 0 = nI (v 0 0) ∧ w.1 b 1 = nI (v 0 1) ∧ w.1 b 2 = nI (v 0 2) ∧ (∀ x, x < 16 → w.1 (b + 1) x = nI (v 1 x)) ∧ (∀ i, i < v 0 1 → w.1 (b + 2) i = nI (v 2 i) ∧ w.1 (b + 3) i = nI (v 3 i) ∧ w.1 (b + 4) i = nI (v 4 i)) ∧ (∀ i x, i < v 0 1 → x < 16 → w.1 (b + 5) (16 * i + x) = bs (fun y => decide (an v i y = an v i x))) ∧ ∀ i, i < v 0 2 → w.1 (b + 6) i = nI (16 * v 5 i + v 6 i)
/-- the reference's state -/
def MSt (w : WW) (v : Vt) : Prop := w.1 46 1 = nI (v 0 0) ∧ w.1 46 2 = nI (v 0 1) ∧ w.1 46 3 = nI (v 0 2) ∧ (∀ x, x < 16 → w.1 48 x = nI (v 1 x)) ∧ (∀ i, i < v 0 1 → w.1 49 i = nI (v 2 i) ∧ w.1 50 i = nI (v 3 i) ∧ w.1 51 i = nI (v 4 i)) ∧ ∀ i, i < v 0 2 → w.1 52 (2 * i) = nI (v 5 i) ∧ w.1 52 (2 * i + 1) = nI (v 6 i)
theorem an_le {v : Vt} (R : Rg v) {i x : Nat} (hi : i < v 0 1) (hx : x < 16) : an v i x < 10 := by
  obtain ⟨-, -, -, -, r, -⟩ := R
  exact ans_le _ (by have := r i hi; omega) _ (by have := r i hi; omega) x hx
theorem cl_n {n : Nat} (h : n < 2 ^ 31) : (nI n).toNatClampNeg = n := nI_clamp h
theorem q_2 : (2 : Int32) = nI 2 := rfl
theorem q_16 : (16 : Int32) = nI 16 := rfl
theorem pr_bs {ρ : Type} {P Q : Nat → Bool} {y : Int32} (h : ∀ i, i < 16 → P i = Q i) : (some (.inl (bs P, y)) : Option ((Int32 × Int32) ⊕ ρ)) = some (.inl (bs Q, y)) := by rw [bs_congr h]
theorem st_bs0 {P : Nat → Bool} (h : ∀ i, i < 16 → P i = false) : ((0 : Int32), (0 : Int32)) = (bs P, nI 0) := by rw [bs_eq0.mpr h]; rfl
theorem rm_n {a d : Nat} (ha : a < 2 ^ 31) (h0 : 0 < d) (hd : d < 2 ^ 31) : rm32 (nI a) (nI d) = nI (a % d) := pk_rem ha h0 hd
theorem answerIn_ev {w : WW} {b : Nat} {v : Vt} (C : CSt w b v) (R : Rg v) {i x : Nat} (hi : i < v 0 1) (hx : x < 16) : f_X6_answerIn b w (nI i) (nI x) = some (nI (an v i x)) := by
  obtain ⟨-, -, -, -, c5, -, -⟩ := C
  obtain ⟨-, r1, -, -, r5, -⟩ := R
  obtain ⟨k1, k2, -⟩ := c5 i hi
  obtain ⟨g1, g2, -⟩ := r5 i hi
  unfold f_X6_answerIn
  rw [gd_t (inb_n (by omega) (by omega)), gd_t (inb_n (by omega) (by omega)), cl_n (by omega), k1, k2, ansC w g1 g2 hx]
  rfl
theorem answerOf_ev {w : WW} {v : Vt} (C : MSt w v) (R : Rg v) {i x : Nat} (hi : i < v 0 1) (hx : x < 16) : f_X8_answerOf w (nI i) (nI x) = some (nI (an v i x)) := by
  obtain ⟨-, -, -, -, c5, -⟩ := C
  obtain ⟨-, r1, -, -, r5, -⟩ := R
  obtain ⟨k1, k2, -⟩ := c5 i hi
  obtain ⟨g1, g2, -⟩ := r5 i hi
  unfold f_X8_answerOf
  rw [gd_t (inb_n (by omega) (by omega)), gd_t (inb_n (by omega) (by omega)), cl_n (by omega), k1, k2, ansM w g1 g2 hx]
  rfl
/-- the cases below n with an answer -/
def cby (v : Vt) (i A : Nat) : Nat → Bool := fun x => decide (x < v 0 0) && decide (an v i x = A)
theorem casesBy_ev {w : WW} {v : Vt} (C : MSt w v) (R : Rg v) {i A : Nat} (hi : i < v 0 1) (hA : A < 2 ^ 31) : f_X8_casesBy w (nI i) (nI A) = some (bs (cby v i A)) := by
  have hn : v 0 0 ≤ 16 := R.1.2
  have cn := C.1
  unfold f_X8_casesBy
  have h := lpf_seq (body := fun s : Int32 × Int32 => f_X8_casesBy_b5 w (nI i) (nI A) s.1 s.2) (fun k => (bs (fun x => decide (x < k) && decide (an v i x = A)), nI k)) (v 0 0) (bs (cby v i A)) (by omega) (fun k hk => ?_) ?_
  · rw [st_bs0 (P := fun x => decide (x < 0) && decide (an v i x = A)) (fun i _ => by simp)]
    rw [h]; rfl
  · unfold f_X8_casesBy_b5
    simp only [cn]
    rw [if_neg (nI_ge hk (by omega)), answerOf_ev C R hi (by omega)]
    show (if nI (an v i k) = nI A then _ else _) = _
    have hq := an_le R hi (show k < 16 by omega)
    by_cases h : an v i k = A
    · rw [if_pos (by rw [h])]
      unfold f_X8_casesBy_j34 nmv
      rw [show (1 : Int32) = nI 1 from rfl, ← nI_add, show nI 1 = 1 from rfl, bs_add _ (by omega)]
      refine pr_bs (fun x _ => ?_)
      by_cases hx : x = k
      · subst hx; simp [h]
      · have : (x < k + 1) = (x < k) := by simp; omega
        simp [hx, this]
    · rw [if_neg (by rw [nI_eq (by omega) hA]; exact h)]
      unfold f_X8_casesBy_j34 nmv
      rw [← nI_add, show nI 1 = 1 from rfl, ← bs_none, bs_or]
      refine pr_bs (fun x _ => ?_)
      by_cases hx : x = k
      · subst hx; simp [h]
      · have : (x < k + 1) = (x < k) := by simp; omega
        simp [this]
  · unfold f_X8_casesBy_b5
    simp only [cn]
    rw [if_pos (nI_le (Nat.le_refl _) (by omega))]
    rfl
def mis (v : Vt) (x : Nat) : Nat := fb_ct (fun i => !decide (an v (v 5 i) x = v 6 i)) (v 0 2)
/-- the cases that all asked fit, but for m -/
def fitb (v : Vt) (m : Nat) : Nat → Bool := fun x => decide (x < v 0 0) && decide (mis v x ≤ m)
def lft (v : Vt) : Nat → Bool := fitb v 0
theorem mis_le (v : Vt) (x : Nat) : mis v x ≤ v 0 2 := fb_ct_le _ _
theorem misfits_ev {w : WW} {b : Nat} {v : Vt} (C : CSt w b v) (R : Rg v) {x : Nat} (hx : x < 16) : f_X6_misfits b w (nI x) = some (nI (mis v x)) := by
  have ca := C.2.2.1
  have ct := C.2.2.2.2.2.2
  have ha : v 0 2 ≤ 8 := R.2.2.1
  have rt := R.2.2.2.2.2
  have hq7 : v 0 1 ≤ 7 := R.2.1
  unfold f_X6_misfits
  have h := lpf_seq (body := fun s : Int32 × Int32 => f_X6_misfits_b4 b w (nI x) s.1 s.2) (fun k => (nI (fb_ct (fun i => !decide (an v (v 5 i) x = v 6 i)) k), nI k)) (v 0 2) (nI (mis v x)) (by omega) (fun k hk => ?_) ?_
  · rw [show ((0 : Int32), (0 : Int32)) = (nI (fb_ct (fun i => !decide (an v (v 5 i) x = v 6 i)) 0), nI 0) from rfl, h]; rfl
  · obtain ⟨t1, t2⟩ := rt k hk
    have hm := an_le R t1 hx
    have hd : (16 * v 5 k + v 6 k) / 16 = v 5 k := by omega
    have hr : (16 * v 5 k + v 6 k) % 16 = v 6 k := by omega
    unfold f_X6_misfits_b4
    simp only [ca]
    rw [if_neg (nI_ge hk (by omega)), gd_t (inb_n (by omega) (by omega)), gd_t (by decide), cl_n (by omega), ct k hk, q_16, pk_div (by omega) (by omega) (by omega), hd, answerIn_ev C R t1 hx, rm_n (by omega) (by omega) (by omega), hr]
    show gd _ (gd _ (if nI (an v (v 5 k) x) = nI (v 6 k) then _ else _)) = _
    rw [gd_t (inb_n (by omega) (by omega)), gd_t (by decide), fb_ct_succ]
    by_cases h : an v (v 5 k) x = v 6 k
    · rw [if_pos (by rw [h])]
      unfold f_X6_misfits_j41
      simp [h, nI_1]
    · rw [if_neg (by rw [nI_eq (by omega) (by omega)]; exact h)]
      unfold f_X6_misfits_j41
      simp [h, nI_1]
  · unfold f_X6_misfits_b4
    simp only [ca]
    rw [if_pos (nI_le (Nat.le_refl _) (by omega))]
    rfl
theorem fitting_ev {w : WW} {b : Nat} {v : Vt} (C : CSt w b v) (R : Rg v) {m : Nat} (hm : m < 2 ^ 31) : f_X6_fitting b w (nI m) = some (bs (fitb v m)) := by
  have hn : v 0 0 ≤ 16 := R.1.2
  have ha : v 0 2 ≤ 8 := R.2.2.1
  have cn := C.1
  unfold f_X6_fitting
  have h := lpf_seq (body := fun s : Int32 × Int32 => f_X6_fitting_b4 b w (nI m) s.1 s.2) (fun k => (bs (fun x => decide (x < k) && decide (mis v x ≤ m)), nI k)) (v 0 0) (bs (fitb v m)) (by omega) (fun k hk => ?_) ?_
  · rw [st_bs0 (P := fun x => decide (x < 0) && decide (mis v x ≤ m)) (fun i _ => by simp)]
    rw [h]; rfl
  · unfold f_X6_fitting_b4
    simp only [cn]
    have hml := mis_le v k
    rw [if_neg (nI_ge hk (by omega)), misfits_ev C R (by omega)]
    show (if nI m < nI (mis v k) then _ else _) = _
    by_cases h : m < mis v k
    · rw [if_pos (nI_lt h (by omega))]
      unfold f_X6_fitting_j27
      rw [nI_1]
      refine pr_bs (fun x _ => ?_)
      by_cases hx : x = k
      · subst hx; simp [h]
      · have : (x < k + 1) = (x < k) := by simp; omega
        simp [this]
    · rw [if_neg (nI_nlt (by omega) (by omega))]
      unfold f_X6_fitting_j27 nmv
      rw [nI_1, bs_add _ (by omega)]
      refine pr_bs (fun x _ => ?_)
      by_cases hx : x = k
      · subst hx; simp; omega
      · have : (x < k + 1) = (x < k) := by simp; omega
        simp [hx, this]
  · unfold f_X6_fitting_b4
    simp only [cn]
    rw [if_pos (nI_le (Nat.le_refl _) (by omega))]
    rfl
theorem everyCase_ev {w : WW} {v : Vt} (C : MSt w v) (R : Rg v) : f_X8_everyCase w = some (bs (fun x => decide (x < v 0 0))) := by
  unfold f_X8_everyCase
  rw [C.1, bs_full R.1.2]
theorem leftOver_ev {w : WW} {v : Vt} (C : MSt w v) (R : Rg v) : f_X8_leftOver w = some (bs (lft v)) := by
  have hn : v 0 0 ≤ 16 := R.1.2
  have ha : v 0 2 ≤ 8 := R.2.2.1
  have ca := C.2.2.1
  have ct := C.2.2.2.2.2
  have rt := R.2.2.2.2.2
  unfold f_X8_leftOver
  rw [everyCase_ev C R]
  show (lpf _ FU _).bind _ = _
  have h := lpf_seq (body := fun s : Int32 × Int32 => f_X8_leftOver_b7 w s.1 s.2) (fun k => (bs (fun x => decide (x < v 0 0) && decide (fb_ct (fun i => !decide (an v (v 5 i) x = v 6 i)) k ≤ 0)), nI k)) (v 0 2) (bs (lft v)) (by omega) (fun k hk => ?_) ?_
  · rw [show (bs (fun x => decide (x < v 0 0)), (0 : Int32)) = (bs (fun x => decide (x < v 0 0) && decide (fb_ct (fun i => !decide (an v (v 5 i) x = v 6 i)) 0 ≤ 0)), nI 0) by rw [bs_congr (P := fun x => decide (x < v 0 0)) (Q := fun x => decide (x < v 0 0) && decide (fb_ct (fun i => !decide (an v (v 5 i) x = v 6 i)) 0 ≤ 0)) (fun i _ => by simp [fb_ct])]; rfl]
    rw [h]; rfl
  · obtain ⟨t1, t2⟩ := rt k hk
    obtain ⟨c1, c2⟩ := ct k hk
    unfold f_X8_leftOver_b7
    simp only [ca]
    rw [if_neg (nI_ge hk (by omega)), q_2, pk_mul, gd_t (inb_n (by omega) (by omega)), nI_1, gd_t (inb_n (by omega) (by omega)), cl_n (by omega), cl_n (by omega), c1, c2, casesBy_ev C R t1 (by omega)]
    simp only [Option.bind_some, nmv]
    rw [bs_and, nI_1]
    refine pr_bs (fun x _ => ?_)
    rw [fb_ct_succ]
    unfold cby
    by_cases hx : x < v 0 0 <;> by_cases h2 : an v (v 5 k) x = v 6 k <;> simp [hx, h2]
  · unfold f_X8_leftOver_b7
    simp only [ca]
    rw [if_pos (nI_le (Nat.le_refl _) (by omega))]
    rfl

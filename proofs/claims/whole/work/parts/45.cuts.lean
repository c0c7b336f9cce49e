/-! cuts -/
def mx (f : Nat → Nat) : Nat → Nat
  | 0 => 0
  | n + 1 => if mx f n < f n then f n else mx f n
def mn (f : Nat → Nat) : Nat → Nat
  | 0 => 0
  | n + 1 => if f n = 0 then mn f n else if mn f n = 0 ∨ f n < mn f n then f n else mn f n
theorem le_mx (f : Nat → Nat) : ∀ {n x : Nat}, x < n → f x ≤ mx f n
  | 0, _, h => by omega
  | n + 1, x, h => by
    rw [mx]
    by_cases e : x = n
    · subst e; split <;> omega
    · have := le_mx f (n := n) (x := x) (by omega)
      split <;> omega
theorem mx_le {f : Nat → Nat} {c : Nat} : ∀ {n : Nat}, (∀ x, x < n → f x ≤ c) → mx f n ≤ c
  | 0, _ => Nat.zero_le _
  | n + 1, h => by
    rw [mx]
    have h1 := mx_le (f := f) (n := n) (fun x hx => h x (by omega))
    have h2 := h n (by omega)
    split <;> omega
theorem mx_eq {f g : Nat → Nat} {n m : Nat} (h1 : ∀ x, x < n → f x ≠ 0 → ∃ y, y < m ∧ g y = f x) (h2 : ∀ y, y < m → g y ≠ 0 → ∃ x, x < n ∧ f x = g y) : mx f n = mx g m := by
  apply Nat.le_antisymm
  · refine mx_le (fun x hx => ?_)
    by_cases h : f x = 0
    · omega
    · obtain ⟨y, hy, e⟩ := h1 x hx h
      rw [← e]; exact le_mx g hy
  · refine mx_le (fun x hx => ?_)
    by_cases h : g x = 0
    · omega
    · obtain ⟨y, hy, e⟩ := h2 x hx h
      rw [← e]; exact le_mx f hy
theorem mn_char (f : Nat → Nat) : ∀ n, (mn f n = 0 ∧ ∀ x, x < n → f x = 0) ∨ (mn f n ≠ 0 ∧ (∃ x, x < n ∧ f x = mn f n) ∧ ∀ x, x < n → f x ≠ 0 → mn f n ≤ f x)
  | 0 => Or.inl ⟨rfl, fun x hx => by omega⟩
  | n + 1 => by
    rw [mn]
    by_cases h0 : f n = 0
    · rw [if_pos h0]
      rcases mn_char f n with ⟨a, b⟩ | ⟨a, ⟨y, hy, e⟩, c⟩
      · exact Or.inl ⟨a, fun x hx => by
          by_cases e : x = n
          · rw [e]; exact h0
          · exact b x (by omega)⟩
      · exact Or.inr ⟨a, ⟨y, by omega, e⟩, fun x hx hn => by
          by_cases e : x = n
          · rw [e] at hn; exact absurd h0 hn
          · exact c x (by omega) hn⟩
    · rw [if_neg h0]
      rcases mn_char f n with ⟨a, b⟩ | ⟨a, ⟨y, hy, e⟩, c⟩
      · rw [if_pos (Or.inl a)]
        exact Or.inr ⟨h0, ⟨n, by omega, rfl⟩, fun x hx hn => by
          by_cases e : x = n
          · rw [e]; exact Nat.le_refl _
          · exact absurd (b x (by omega)) hn⟩
      · by_cases h : f n < mn f n
        · rw [if_pos (Or.inr h)]
          exact Or.inr ⟨h0, ⟨n, by omega, rfl⟩, fun x hx hn => by
            by_cases e : x = n
            · rw [e]; exact Nat.le_refl _
            · have := c x (by omega) hn; omega⟩
        · rw [if_neg (by omega)]
          exact Or.inr ⟨a, ⟨y, by omega, e⟩, fun x hx hn => by
            by_cases e : x = n
            · rw [e]; omega
            · exact c x (by omega) hn⟩
theorem mn_eq {f g : Nat → Nat} {n m : Nat} (h1 : ∀ x, x < n → f x ≠ 0 → ∃ y, y < m ∧ g y = f x) (h2 : ∀ y, y < m → g y ≠ 0 → ∃ x, x < n ∧ f x = g y) : mn f n = mn g m := by
  rcases mn_char f n with ⟨a, b⟩ | ⟨a, ⟨x, hx, e⟩, c⟩
  · rcases mn_char g m with ⟨a', b'⟩ | ⟨a', ⟨y, hy, e'⟩, c'⟩
    · rw [a, a']
    · obtain ⟨x, hx, ex⟩ := h2 y hy (by omega)
      have := b x hx
      omega
  · rcases mn_char g m with ⟨a', b'⟩ | ⟨a', ⟨y, hy, e'⟩, c'⟩
    · obtain ⟨y, hy, ey⟩ := h1 x hx (by omega)
      have := b' y hy
      omega
    · obtain ⟨x2, hx2, ex⟩ := h2 y hy (by omega)
      obtain ⟨y2, hy2, ey⟩ := h1 x hx (by omega)
      have q1 := c x2 hx2 (by omega)
      have q2 := c' y2 hy2 (by omega)
      omega
theorem maxN (w : WW) {a b : Nat} (ha : a < 2 ^ 31) (hb : b < 2 ^ 31) : f_J9_max_7cf53 w (nI a) (nI b) = some (nI (if a < b then b else a)) := by
  rw [max_ev]
  by_cases h : a < b
  · rw [if_pos h, if_pos (nI_lt h hb)]
  · rw [if_neg h, if_neg (nI_nlt (by omega) (by omega))]
theorem ixq (i x : Nat) : nI i * 16 + nI x = nI (16 * i + x) := by rw [q_16, pk_mul, nI_add, Nat.mul_comm]
theorem hasM (w : WW) (P : Nat → Bool) {x : Nat} (hx : x < 16) : f_X8_has w (bs P) (nI x) = some (if P x = true then 1 else 0) := by
  unfold f_X8_has
  rw [bs_has P hx]
  cases P x <;> rfl
/-- the weight of a set -/
def wgt (v : Vt) (P : Nat → Bool) : Nat := fb_sm (fun x => if P x = true then v 1 x else 0) (v 0 0)
theorem wgt_congr {v : Vt} (R : Rg v) {P Q : Nat → Bool} (h : ∀ x, x < 16 → P x = Q x) : wgt v P = wgt v Q := fb_sm_cong (fun k hk => by have := R.1.2; rw [h k (by omega)])
theorem wgt_le {v : Vt} (R : Rg v) (P : Nat → Bool) : wgt v P ≤ 144 := by
  have hn := R.1.2
  have := fb_sm_bound (f := fun x => if P x = true then v 1 x else 0) (c := 9) (n := v 0 0) (fun k hk => by
    have := R.2.2.2.1 k (by omega)
    split <;> omega)
  unfold wgt; omega
theorem wgt_pos {v : Vt} (R : Rg v) {P : Nat → Bool} {x : Nat} (hx : x < v 0 0) (h : P x = true) : 1 ≤ wgt v P := by
  have hn := R.1.2
  have := fb_sm_part (fun x => if P x = true then v 1 x else 0) hx
  rw [if_pos h] at this
  have := R.2.2.2.1 x (by omega)
  unfold wgt; omega
theorem fb_sm_pre (f : Nat → Nat) {k n : Nat} (h : k ≤ n) : fb_sm f k ≤ fb_sm f n := by
  obtain ⟨d, rfl⟩ := Nat.exists_eq_add_of_le h
  exact fb_sm_mono f k d
theorem weightOf_ev {w : WW} {b : Nat} {v : Vt} (C : CSt w b v) (R : Rg v) (P : Nat → Bool) : f_X6_weightOf b w (bs P) = some (nI (wgt v P)) := by
  have hn := R.1.2
  unfold f_X6_weightOf
  have h := lpf_seq (body := fun s : Int32 × Int32 => f_X6_weightOf_b4 b w (bs P) s.1 s.2) (fun k => (nI (fb_sm (fun x => if P x = true then v 1 x else 0) k), nI k)) (v 0 0) (nI (wgt v P)) (by omega) (fun k hk => ?_) ?_
  · rw [show ((0 : Int32), (0 : Int32)) = (nI (fb_sm (fun x => if P x = true then v 1 x else 0) 0), nI 0) from rfl, h]; rfl
  · simp only [f_X6_weightOf_b4, f_X6_weightOf_j30, C.1, nmv]
    rw [if_neg (nI_ge hk (by omega)), nI_1, fb_sm_succ]
    by_cases h : P k = true
    · rw [if_pos ((bs_hasT (by omega)).mpr h), gd_t (inb_n (by omega) (by omega)), cl_n (by omega), C.2.2.2.1 k (by omega), nI_add, if_pos h]
    · rw [if_neg (fun e => h ((bs_hasT (by omega)).mp e)), if_neg h]; rfl
  · simp only [f_X6_weightOf_b4, C.1]
    rw [if_pos (nI_le (Nat.le_refl _) (by omega))]; rfl
theorem weightOfM_ev {w : WW} {v : Vt} (C : MSt w v) (R : Rg v) (P : Nat → Bool) : f_X8_weightOf w (bs P) = some (nI (wgt v P)) := by
  have hn := R.1.2
  unfold f_X8_weightOf
  have h := lpf_seq (body := fun s : Int32 × Int32 => f_X8_weightOf_b4 w (bs P) s.1 s.2) (fun k => (nI (fb_sm (fun x => if P x = true then v 1 x else 0) k), nI k)) (v 0 0) (nI (wgt v P)) (by omega) (fun k hk => ?_) ?_
  · rw [show ((0 : Int32), (0 : Int32)) = (nI (fb_sm (fun x => if P x = true then v 1 x else 0) 0), nI 0) from rfl, h]; rfl
  · simp only [f_X8_weightOf_b4, f_X8_weightOf_j31, C.1, nmv]
    rw [if_neg (nI_ge hk (by omega)), nI_1, fb_sm_succ, hasM w P (by omega), Option.bind_some]
    by_cases h : P k = true
    · rw [if_pos h, if_neg (by decide), gd_t (inb_n (by omega) (by omega)), cl_n (by omega), C.2.2.2.1 k (by omega), nI_add, if_pos h]
    · rw [if_neg h, if_pos (by decide), if_neg h, show (0 : Int32) = nI 0 from rfl, nI_add]
  · simp only [f_X8_weightOf_b4, C.1]
    rw [if_pos (nI_le (Nat.le_refl _) (by omega))]; rfl
/-- the part of a set with an answer -/
def pa (v : Vt) (i : Nat) (P : Nat → Bool) (A : Nat) : Nat → Bool := fun y => P y && decide (an v i y = A)
def gp (v : Vt) (i : Nat) (P : Nat → Bool) : Nat := mx (fun A => cnt (pa v i P A)) 16
def np (v : Vt) (i : Nat) (P : Nat → Bool) : Nat := fb_ct (fun A => decide (cnt (pa v i P A) ≠ 0)) 16
def lp (v : Vt) (i : Nat) (P : Nat → Bool) : Nat := mn (fun A => wgt v (pa v i P A)) 16
theorem cnt0 {P : Nat → Bool} : cnt P = 0 ↔ ∀ x, x < 16 → P x = false := fb_ct_zero
theorem cntN0 {P : Nat → Bool} {x : Nat} (hx : x < 16) (h : P x = true) : cnt P ≠ 0 := fun e => by
  have := cnt0.mp e x hx
  rw [h] at this; cases this
theorem bs0 {P : Nat → Bool} : bs P = 0 ↔ cnt P = 0 := bs_eq0.trans cnt0.symm
theorem gp_le (v : Vt) (i : Nat) (P : Nat → Bool) : gp v i P ≤ 16 := mx_le (fun _ _ => cnt_le _)
theorem np_le (v : Vt) (i : Nat) (P : Nat → Bool) : np v i P ≤ 16 := fb_ct_le _ _
theorem wgt0 {v : Vt} (R : Rg v) {P : Nat → Bool} (hP : ∀ x, x < 16 → P x = true → x < v 0 0) : wgt v P = 0 ↔ cnt P = 0 := by
  refine ⟨fun h => cnt0.mpr (fun x hx => ?_), fun h => ?_⟩
  · cases e : P x with
    | false => rfl
    | true => have := wgt_pos R (hP x hx e) e; omega
  · have hn := R.1.2
    have h := cnt0.mp h
    have : wgt v P ≤ 0 := Nat.le_trans (fb_sm_bound (c := 0) (fun k hk => by rw [h k (by omega)]; simp)) (by simp)
    omega
theorem cutOf_ev {w : WW} {v : Vt} (C : MSt w v) (R : Rg v) {P : Nat → Bool} (hP : ∀ x, x < 16 → P x = true → x < v 0 0) {i : Nat} (hi : i < v 0 1) {t : Nat} (ht : t < 3) : f_X8_cutOf w (nI i) (bs P) (nI t) = some (nI (if t = 0 then gp v i P else if t = 1 then np v i P else lp v i P)) := by
  have hn := R.1.2
  have hpa : ∀ A x, x < 16 → pa v i P A x = true → x < v 0 0 := fun A x hx h => hP x hx (by unfold pa at h; rw [Bool.and_eq_true] at h; exact h.1)
  have hmn : ∀ k, mn (fun A => wgt v (pa v i P A)) k ≤ 144 := fun k => by
    rcases mn_char (fun A => wgt v (pa v i P A)) k with ⟨a, -⟩ | ⟨-, ⟨x, -, e⟩, -⟩
    · omega
    · rw [← e]; exact wgt_le R _
  have hmx : ∀ k, mx (fun A => cnt (pa v i P A)) k ≤ 16 := fun k => mx_le (fun _ _ => cnt_le _)
  have L : lpf (fun s : Int32 × Int32 × Int32 × Int32 => f_X8_cutOf_b13 w (nI i) (bs P) (nI t) s.1 s.2.1 s.2.2.1 s.2.2.2) FU ((0 : Int32), (0 : Int32), (1048576 : Int32), (0 : Int32)) = some (nI (gp v i P), nI (np v i P), nI (if lp v i P = 0 then 1048576 else lp v i P)) := by
    refine lpf_seq (fun k => (nI (mx (fun A => cnt (pa v i P A)) k), nI (fb_ct (fun A => decide (cnt (pa v i P A) ≠ 0)) k), nI (if mn (fun A => wgt v (pa v i P A)) k = 0 then 1048576 else mn (fun A => wgt v (pa v i P A)) k), nI k)) 16 _ (by omega) (fun k hk => ?_) rfl
    have hb : bs P &&& bs (cby v i k) = bs (pa v i P k) := by
      rw [bs_and]
      refine bs_congr (fun x hx => ?_)
      unfold cby pa
      cases e : P x with
      | false => rfl
      | true => simp [hP x hx e]
    simp only [f_X8_cutOf_b13, f_X8_cutOf_j86, f_X8_cutOf_j81, f_X8_cutOf_j65, nmv]
    have h1 := hmn k
    have h2 := hmx k
    have h3 := cnt_le (pa v i P k)
    have h4 := wgt_le R (pa v i P k)
    have h5 := wgt0 R (hpa k)
    rw [q_16, if_neg (nI_ge hk (by omega)), casesBy_ev C R hi (by omega), Option.bind_some, hb, mx, mn, fb_ct_succ, nI_1]
    by_cases h0 : cnt (pa v i P k) = 0
    · rw [if_pos (bs0.mpr h0), if_pos (h5.mpr h0), h0, if_neg (Nat.not_lt_zero _)]
      simp [h0]
    · have hw : wgt v (pa v i P k) ≠ 0 := fun e => h0 (h5.mp e)
      rw [if_neg (fun e => h0 (bs0.mp e)), bitsM_ev, Option.bind_some, weightOfM_ev C R, Option.bind_some, if_neg hw, nI_1, show (if decide (cnt (pa v i P k) ≠ 0) = true then 1 else 0) = 1 by simp [h0]]
      by_cases g : mx (fun A => cnt (pa v i P A)) k < cnt (pa v i P k)
      · rw [if_neg (nI_ge g (by omega)), if_pos g]
        by_cases l : mn (fun A => wgt v (pa v i P A)) k = 0
        · rw [if_pos l, if_pos (Or.inl l), if_neg (nI_ge (by omega) (by omega)), if_neg hw]
        · rw [if_neg l]
          by_cases l2 : wgt v (pa v i P k) < mn (fun A => wgt v (pa v i P A)) k
          · rw [if_pos (Or.inr l2), if_neg (nI_ge l2 (by omega)), if_neg hw]
          · rw [if_pos (nI_le (by omega) (by omega)), if_neg (show ¬ (mn (fun A => wgt v (pa v i P A)) k = 0 ∨ wgt v (pa v i P k) < mn (fun A => wgt v (pa v i P A)) k) by omega), if_neg l]
      · rw [if_pos (nI_le (by omega) (by omega)), if_neg g]
        by_cases l : mn (fun A => wgt v (pa v i P A)) k = 0
        · rw [if_pos l, if_pos (Or.inl l), if_neg (nI_ge (by omega) (by omega)), if_neg hw]
        · rw [if_neg l]
          by_cases l2 : wgt v (pa v i P k) < mn (fun A => wgt v (pa v i P A)) k
          · rw [if_pos (Or.inr l2), if_neg (nI_ge l2 (by omega)), if_neg hw]
          · rw [if_pos (nI_le (by omega) (by omega)), if_neg (show ¬ (mn (fun A => wgt v (pa v i P A)) k = 0 ∨ wgt v (pa v i P k) < mn (fun A => wgt v (pa v i P A)) k) by omega), if_neg l]
  unfold f_X8_cutOf
  rw [L, Option.bind_some]
  have t3 : t = 0 ∨ t = 1 ∨ t = 2 := by omega
  rcases t3 with rfl | rfl | rfl
  · rfl
  · rfl
  · rw [if_neg (by decide), if_neg (by decide)]
    show (if nI (np v i P) = 0 then some 0 else some (nI (if lp v i P = 0 then 1048576 else lp v i P))) = some (nI (lp v i P))
    by_cases h : lp v i P = 0
    · have : np v i P = 0 := by
        rcases mn_char (fun A => wgt v (pa v i P A)) 16 with ⟨a, b⟩ | ⟨a, -⟩
        · refine fb_ct_zero.mpr (fun A hA => ?_)
          have := (wgt0 R (hpa A)).mp (b A hA)
          simp [this]
        · exact absurd h a
      rw [this, h]; rfl
    · have : np v i P ≠ 0 := fun e => by
        rcases mn_char (fun A => wgt v (pa v i P A)) 16 with ⟨a, b⟩ | ⟨a, ⟨A, hA, e2⟩, -⟩
        · exact h a
        · have := fb_ct_zero.mp e A hA
          simp at this
          have := (wgt0 R (hpa A)).mpr this
          omega
      have l16 := np_le v i P
      rw [if_neg (nI_ne0 (by omega) (by omega)), if_neg h]

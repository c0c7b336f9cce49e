/-! cuts, on the class's side -/
theorem lft_lt {v : Vt} {m x : Nat} (h : fitb v m x = true) : x < v 0 0 := by
  unfold fitb at h
  rw [Bool.and_eq_true, decide_eq_true_eq] at h
  exact h.1
theorem alkA {w : WW} {b : Nat} {v : Vt} (C : CSt w b v) (P : Nat → Bool) {i x : Nat} (hi : i < v 0 1) (hx : x < 16) : bs P &&& w.1 (b + 5) (16 * i + x) = bs (pa v i P (an v i x)) := by
  rw [C.2.2.2.2.2.1 i x hi hx, bs_and]
  rfl
theorem alkN {w : WW} {b : Nat} {v : Vt} (C : CSt w b v) (P : Nat → Bool) {i x : Nat} (hi : i < v 0 1) (hx : x < 16) : bs P &&& (w.1 (b + 5) (16 * i + x) ^^^ (-1)) = bs (fun y => P y && !decide (an v i y = an v i x)) := by
  rw [C.2.2.2.2.2.1 i x hi hx, bs_dif]
theorem greatestPart_ev {w : WW} {b : Nat} {v : Vt} (C : CSt w b v) (R : Rg v) {P : Nat → Bool} (hP : ∀ x, x < 16 → P x = true → x < v 0 0) {i : Nat} (hi : i < v 0 1) : f_X6_greatestPart b w (nI i) (bs P) = some (nI (gp v i P)) := by
  have hn := R.1.2
  have hq := R.2.1
  have e : gp v i P = mx (fun x => if P x = true then cnt (pa v i P (an v i x)) else 0) (v 0 0) := by
    refine mx_eq (fun A hA h => ?_) (fun x hx h => ?_)
    · obtain ⟨x, hx, hx2⟩ := fb_ct_pos.mp (Nat.pos_of_ne_zero h)
      have hx3 := hx2
      unfold pa at hx3
      rw [Bool.and_eq_true, decide_eq_true_eq] at hx3
      exact ⟨x, hP x hx hx3.1, by rw [if_pos hx3.1, hx3.2]⟩
    · by_cases hp : P x = true
      · rw [if_pos hp]
        exact ⟨an v i x, by have := an_le R hi (show x < 16 by omega); omega, rfl⟩
      · rw [if_neg hp] at h; exact absurd rfl h
  have hm : ∀ k, mx (fun x => if P x = true then cnt (pa v i P (an v i x)) else 0) k ≤ 16 := fun k => mx_le (fun x _ => by
    have := cnt_le (pa v i P (an v i x))
    split <;> omega)
  unfold f_X6_greatestPart
  rw [e]
  have h := lpf_seq (body := fun s : Int32 × Int32 => f_X6_greatestPart_b5 b w (nI i) (bs P) s.1 s.2) (fun k => (nI (mx (fun x => if P x = true then cnt (pa v i P (an v i x)) else 0) k), nI k)) (v 0 0) (nI (mx (fun x => if P x = true then cnt (pa v i P (an v i x)) else 0) (v 0 0))) (by omega) (fun k hk => ?_) ?_
  · rw [show ((0 : Int32), (0 : Int32)) = (nI (mx (fun x => if P x = true then cnt (pa v i P (an v i x)) else 0) 0), nI 0) from rfl, h]; rfl
  · simp only [f_X6_greatestPart_b5, f_X6_greatestPart_j46, C.1]
    rw [if_neg (nI_ge hk (by omega)), nI_1, mx]
    by_cases h : P k = true
    · have h16 := cnt_le (pa v i P (an v i k))
      have hk16 := hm k
      rw [if_pos ((bs_hasT (by omega)).mpr h), ixq, gd_t (inb_n (by omega) (by omega)), cl_n (by omega), alkA C P hi (by omega), bitCount_ev, Option.bind_some, maxN w (by omega) (by omega), Option.bind_some, if_pos h]
    · rw [if_neg (fun e => h ((bs_hasT (by omega)).mp e)), if_neg h, if_neg (Nat.not_lt_zero _)]
  · simp only [f_X6_greatestPart_b5, C.1]
    rw [if_pos (nI_le (Nat.le_refl _) (by omega))]
/-- the answers seen among the first k -/
def sn (v : Vt) (i : Nat) (P : Nat → Bool) : Nat → Nat → Bool
  | 0, _ => false
  | k + 1, A => sn v i P k A || (P k && decide (an v i k = A))
theorem sn_iff {v : Vt} {i : Nat} {P : Nat → Bool} : ∀ {k A : Nat}, sn v i P k A = true ↔ ∃ x, x < k ∧ P x = true ∧ an v i x = A
  | 0, A => by simp [sn]
  | k + 1, A => by
    rw [sn, Bool.or_eq_true, sn_iff, Bool.and_eq_true, decide_eq_true_eq]
    constructor
    · rintro (⟨x, h1, h2⟩ | ⟨h1, h2⟩)
      · exact ⟨x, by omega, h2⟩
      · exact ⟨k, by omega, h1, h2⟩
    · rintro ⟨x, h1, h2, h3⟩
      by_cases e : x = k
      · subst e; exact Or.inr ⟨h2, h3⟩
      · exact Or.inl ⟨x, by omega, h2, h3⟩
/-- what the first k leave -/
def rs (v : Vt) (i : Nat) (P : Nat → Bool) (k : Nat) : Nat → Bool := fun y => P y && !sn v i P k (an v i y)
theorem rs_step {v : Vt} {i : Nat} {P : Nat → Bool} {k : Nat} (h : rs v i P k k = true) : ∀ y, (rs v i P k y && !decide (an v i y = an v i k)) = rs v i P (k + 1) y := fun y => by
  have hk : P k = true := by unfold rs at h; rw [Bool.and_eq_true] at h; exact h.1
  unfold rs
  rw [sn, hk]
  by_cases e : an v i y = an v i k
  · simp [e]
  · have e' : ¬ an v i k = an v i y := fun q => e q.symm
    simp [e, e']
theorem sn_stay {v : Vt} {i : Nat} {P : Nat → Bool} {k : Nat} (h : ¬ rs v i P k k = true) (A : Nat) : sn v i P (k + 1) A = sn v i P k A := by
  rw [sn]
  by_cases hp : P k = true
  · have : sn v i P k (an v i k) = true := by
      unfold rs at h
      rw [hp] at h
      simpa using h
    by_cases e : an v i k = A
    · rw [← e, this]; rfl
    · simp [e]
  · simp [hp]
theorem rs_stay {v : Vt} {i : Nat} {P : Nat → Bool} {k : Nat} (h : ¬ rs v i P k k = true) (y : Nat) : rs v i P (k + 1) y = rs v i P k y := by
  unfold rs
  rw [sn_stay h]
theorem sn_new {v : Vt} {i : Nat} {P : Nat → Bool} {k : Nat} (h : rs v i P k k = true) (hA : an v i k < 16) : fb_ct (sn v i P (k + 1)) 16 = fb_ct (sn v i P k) 16 + 1 := by
  have hh := h
  unfold rs at hh
  rw [Bool.and_eq_true] at hh
  have h2 : sn v i P k (an v i k) = false := by simpa using hh.2
  have := fb_ct_upd (sn v i P k) true hA
  rw [h2] at this
  simp only [Bool.false_eq_true, if_false, if_true, Nat.add_zero] at this
  rw [← this]
  refine fb_ct_cong (fun A _ => ?_)
  rw [sn, hh.1]
  by_cases e : A = an v i k
  · simp [e]
  · have e' : ¬ an v i k = A := fun q => e q.symm
    simp [e, e']
theorem sn_np {v : Vt} {i : Nat} {P : Nat → Bool} (hn : v 0 0 ≤ 16) (hP : ∀ x, x < 16 → P x = true → x < v 0 0) : fb_ct (sn v i P (v 0 0)) 16 = np v i P := by
  refine fb_ct_cong (fun A _ => ?_)
  rw [Bool.eq_iff_iff, sn_iff, decide_eq_true_eq]
  constructor
  · rintro ⟨x, h1, h2, h3⟩
    exact cntN0 (x := x) (by omega) (by unfold pa; simp [h2, h3])
  · intro h
    obtain ⟨x, hx, hx2⟩ := fb_ct_pos.mp (Nat.pos_of_ne_zero h)
    unfold pa at hx2
    rw [Bool.and_eq_true, decide_eq_true_eq] at hx2
    exact ⟨x, hP x hx hx2.1, hx2.1, hx2.2⟩
theorem howManyParts_ev {w : WW} {b : Nat} {v : Vt} (C : CSt w b v) (R : Rg v) {P : Nat → Bool} (hP : ∀ x, x < 16 → P x = true → x < v 0 0) {i : Nat} (hi : i < v 0 1) : f_X6_howManyParts b w (nI i) (bs P) = some (nI (np v i P)) := by
  have hn := R.1.2
  have hq := R.2.1
  unfold f_X6_howManyParts
  have h := lpf_seq (body := fun s : Int32 × Int32 × Int32 => f_X6_howManyParts_b8 b w (nI i) s.1 s.2.1 s.2.2) (fun k => (nI (fb_ct (sn v i P k) 16), bs (rs v i P k), nI k)) (v 0 0) (nI (np v i P)) (by omega) (fun k hk => ?_) ?_
  · rw [show ((0 : Int32), bs P, (0 : Int32)) = (nI (fb_ct (sn v i P 0) 16), bs (rs v i P 0), nI 0) by
      rw [show bs P = bs (rs v i P 0) from bs_congr (fun x _ => by unfold rs; simp [sn]), show fb_ct (sn v i P 0) 16 = 0 from fb_ct_zero.mpr (fun k _ => rfl)]; rfl]
    rw [h]; rfl
  · simp only [f_X6_howManyParts_b8, f_X6_howManyParts_j50, C.1, nmv]
    rw [if_neg (nI_ge hk (by omega)), nI_1]
    by_cases h : rs v i P k k = true
    · have hA := an_le R hi (show k < 16 by omega)
      rw [if_pos ((bs_hasT (by omega)).mpr h), ixq, gd_t (inb_n (by omega) (by omega)), cl_n (by omega), alkN C _ hi (by omega), nI_1, sn_new h (by omega), bs_congr (fun y _ => rs_step h y)]
    · rw [if_neg (fun e => h ((bs_hasT (by omega)).mp e)), bs_congr (fun y _ => rs_stay h y), fb_ct_cong (fun A _ => sn_stay h A), nI_1]
  · simp only [f_X6_howManyParts_b8, C.1]
    rw [if_pos (nI_le (Nat.le_refl _) (by omega)), sn_np hn hP]
theorem lightestPart_ev {w : WW} {b : Nat} {v : Vt} (C : CSt w b v) (R : Rg v) {P : Nat → Bool} (hP : ∀ x, x < 16 → P x = true → x < v 0 0) {i : Nat} (hi : i < v 0 1) : f_X6_lightestPart b w (nI i) (bs P) = some (nI (lp v i P)) := by
  have hn := R.1.2
  have hq := R.2.1
  have hpa : ∀ A x, x < 16 → pa v i P A x = true → x < v 0 0 := fun A x hx h => hP x hx (by unfold pa at h; rw [Bool.and_eq_true] at h; exact h.1)
  have e : lp v i P = mn (fun x => if rs v i P x x = true then wgt v (pa v i P (an v i x)) else 0) (v 0 0) := by
    refine mn_eq (fun A hA h => ?_) (fun x hx h => ?_)
    · have h2 : cnt (pa v i P A) ≠ 0 := fun e => h ((wgt0 R (hpa A)).mpr e)
      obtain ⟨x, hx, hx2, hx3⟩ := fb_first (p := fun x => pa v i P A x = true) (fb_ct_pos.mp (Nat.pos_of_ne_zero h2))
      have hx4 := hx2
      unfold pa at hx4
      rw [Bool.and_eq_true, decide_eq_true_eq] at hx4
      refine ⟨x, hP x hx hx4.1, ?_⟩
      have : rs v i P x x = true := by
        unfold rs
        rw [Bool.and_eq_true]
        refine ⟨hx4.1, ?_⟩
        cases q : sn v i P x (an v i x) with
        | false => rfl
        | true =>
          obtain ⟨y, y1, y2, y3⟩ := sn_iff.mp q
          exact absurd (show pa v i P A y = true by unfold pa; simp [y2, y3, hx4.2]) (hx3 y y1)
      rw [if_pos this, hx4.2]
    · by_cases hp : rs v i P x x = true
      · rw [if_pos hp]
        exact ⟨an v i x, by have := an_le R hi (show x < 16 by omega); omega, rfl⟩
      · rw [if_neg hp] at h; exact absurd rfl h
  have hm : ∀ k, mn (fun x => if rs v i P x x = true then wgt v (pa v i P (an v i x)) else 0) k ≤ 144 := fun k => by
    rcases mn_char (fun x => if rs v i P x x = true then wgt v (pa v i P (an v i x)) else 0) k with ⟨a, -⟩ | ⟨-, ⟨x, -, e⟩, -⟩
    · omega
    · rw [← e]
      have := wgt_le R (pa v i P (an v i x))
      split <;> omega
  unfold f_X6_lightestPart
  rw [e]
  have h := lpf_seq (body := fun s : Int32 × Int32 × Int32 => f_X6_lightestPart_b8 b w (nI i) s.1 s.2.1 s.2.2) (fun k => (nI (mn (fun x => if rs v i P x x = true then wgt v (pa v i P (an v i x)) else 0) k), bs (rs v i P k), nI k)) (v 0 0) (nI (mn (fun x => if rs v i P x x = true then wgt v (pa v i P (an v i x)) else 0) (v 0 0))) (by omega) (fun k hk => ?_) ?_
  · rw [show ((0 : Int32), bs P, (0 : Int32)) = (nI (mn (fun x => if rs v i P x x = true then wgt v (pa v i P (an v i x)) else 0) 0), bs (rs v i P 0), nI 0) by
      rw [show bs P = bs (rs v i P 0) from bs_congr (fun x _ => by unfold rs; simp [sn])]; rfl]
    rw [h]; rfl
  · simp only [f_X6_lightestPart_b8, f_X6_lightestPart_j81, f_X6_lightestPart_j62, f_X6_lightestPart_j59, C.1, nmv]
    rw [if_neg (nI_ge hk (by omega)), nI_1, mn]
    by_cases h : rs v i P k k = true
    · have hA := an_le R hi (show k < 16 by omega)
      have hk1 := hm k
      have hw := wgt_le R (pa v i P (an v i k))
      have hPk : P k = true := by have hh := h; unfold rs at hh; rw [Bool.and_eq_true] at hh; exact hh.1
      have hw1 := wgt_pos R (P := pa v i P (an v i k)) hk (by unfold pa; simp [hPk])
      have hpart : bs (pa v i (rs v i P k) (an v i k)) = bs (pa v i P (an v i k)) := bs_congr (fun y _ => by
        unfold pa rs
        by_cases e : an v i y = an v i k
        · have hh := h
          unfold rs at hh
          rw [Bool.and_eq_true] at hh
          have h2 : sn v i P k (an v i k) = false := by simpa using hh.2
          simp [e, h2]
        · simp [e])
      rw [if_pos ((bs_hasT (by omega)).mpr h), ixq, gd_t (inb_n (by omega) (by omega)), cl_n (by omega), alkA C _ hi (by omega), hpart, weightOf_ev C R, Option.bind_some, gd_t (inb_n (by omega) (by omega)), gd_t (inb_n (by omega) (by omega)), alkN C _ hi (by omega), bs_congr (fun y _ => rs_step h y), if_pos h, if_neg (show ¬ wgt v (pa v i P (an v i k)) = 0 by omega)]
      by_cases l : mn (fun x => if rs v i P x x = true then wgt v (pa v i P (an v i x)) else 0) k = 0
      · rw [l, if_pos (by decide), if_pos (Or.inl rfl)]
      · rw [if_neg (nI_ne0 (by omega) (by omega))]
        by_cases l2 : wgt v (pa v i P (an v i k)) < mn (fun x => if rs v i P x x = true then wgt v (pa v i P (an v i x)) else 0) k
        · rw [if_neg (nI_ge l2 (by omega)), if_pos (Or.inr l2)]
        · rw [if_pos (nI_le (by omega) (by omega)), if_neg (by omega)]
    · rw [if_neg (fun e => h ((bs_hasT (by omega)).mp e)), bs_congr (fun y _ => rs_stay h y), if_neg h, if_pos rfl]
  · simp only [f_X6_lightestPart_b8, C.1]
    rw [if_pos (nI_le (Nat.le_refl _) (by omega))]
theorem fit0 {w : WW} {S : StT} (I : SInv S) (C : CInv w S) : f_X6_fitting 1 w 0 = some (bs (lft S.1.1)) := by
  rw [show (0 : Int32) = nI 0 from rfl, fitting_ev C.1.1 I.1.1 (by omega)]; rfl
theorem cuts_ok {w : WW} {S : StT} (I : SInv S) (C : CInv w S) (M : MInv w S) (x y : Int32) : Both (f_X7_cuts w x y) (fun w => f_X8_cuts w x y) := by
  have hq := I.1.1.2.1
  have hP : ∀ x, x < 16 → lft S.1.1 x = true → x < S.1.1 0 0 := fun x _ h => lft_lt h
  have l2 : (2 : Int32) = nI 3 - 1 := rfl
  by_cases hx : inb x (S.1.1 0 1)
  · by_cases h : inb y 3
    · obtain ⟨i, hi, rfl⟩ := inb_of hx (by omega)
      obtain ⟨t, ht, rfl⟩ := inb_of h (by omega)
      refine ro0 I C M (nI (if t = 0 then gp S.1.1 i (lft S.1.1) else if t = 1 then np S.1.1 i (lft S.1.1) else lp S.1.1 i (lft S.1.1))) ?_ (fun w' M' => ?_)
      · simp only [f_X7_cuts, isQ_ev (q := S.1.1 0 1) (by omega) C.1.1.2.1, within_nn w _ l2 (by omega), Option.bind_some, if_pos hx, if_pos h]
        rw [if_neg (by decide), if_neg (by decide), fit0 I C, Option.bind_some]
        have t3 : t = 0 ∨ t = 1 ∨ t = 2 := by omega
        rcases t3 with rfl | rfl | rfl
        · rw [if_pos (by decide), greatestPart_ev C.1.1 I.1.1 hP hi]; rfl
        · rw [if_neg (by decide), if_pos (by decide), howManyParts_ev C.1.1 I.1.1 hP hi]; rfl
        · rw [if_neg (by decide), if_neg (by decide), lightestPart_ev C.1.1 I.1.1 hP hi]; rfl
      · simp only [f_X8_cuts, isQm_ev (q := S.1.1 0 1) (by omega) M'.1.2.1, in_nn w' _ l2 (by omega), Option.bind_some, if_pos hx, if_pos h]
        rw [if_neg (by decide), if_neg (by decide), leftOver_ev M'.1.st I.1.1, Option.bind_some, cutOf_ev M'.1.st I.1.1 hP hi ht, Option.bind_some]
    · exact both_ref I C M (-2) 0 (by omega) (by simp only [f_X7_cuts, f_X7_cuts_j17, isQ_ev (q := S.1.1 0 1) (by omega) C.1.1.2.1, within_nn w _ l2 (by omega), Option.bind_some, if_pos hx, if_neg h, refuse_0]; rfl) (fun w' M' => by simp only [f_X8_cuts, f_X8_cuts_j30, isQm_ev (q := S.1.1 0 1) (by omega) M'.1.2.1, in_nn w' _ l2 (by omega), Option.bind_some, if_pos hx, if_neg h, bad_0]; rfl)
  · exact both_ref I C M (-2) 0 (by omega) (by simp only [f_X7_cuts, f_X7_cuts_j17, isQ_ev (q := S.1.1 0 1) (by omega) C.1.1.2.1, Option.bind_some, if_neg hx, refuse_0]; rfl) (fun w' M' => by simp only [f_X8_cuts, f_X8_cuts_j30, isQm_ev (q := S.1.1 0 1) (by omega) M'.1.2.1, Option.bind_some, if_neg hx, bad_0]; rfl)
theorem empty_ok {w : WW} {S : StT} (I : SInv S) (C : CInv w S) (M : MInv w S) : ∃ r, f_X7_empty w = some r ∧ f_X8_empty w = some r := by
  have hq := I.1.1.2.1
  generalize hv : S.1.1 = v at hq
  have R : Rg v := by rw [← hv]; exact I.1.1
  have Cv : CSt w 1 v := by rw [← hv]; exact C.1.1
  have Mv : MSt w v := by rw [← hv]; exact M.1.st
  have hP : ∀ x, x < 16 → lft v x = true → x < v 0 0 := fun x _ h => lft_lt h
  refine ⟨bs (fun q => decide (q < v 0 1) && decide (np v q (lft v) < 2)), ?_, ?_⟩
  · unfold f_X7_empty
    rw [fit0 I C, hv, Option.bind_some]
    have h := lpf_seq (body := fun s : Int32 × Int32 => f_X7_empty_b13 w (bs (lft v)) s.1 s.2) (fun k => (bs (fun q => decide (q < k) && decide (np v q (lft v) < 2)), nI k)) (v 0 1) (bs (fun q => decide (q < v 0 1) && decide (np v q (lft v) < 2))) (by omega) (fun k hk => ?_) ?_
    · rw [st_bs0 (P := fun q => decide (q < 0) && decide (np v q (lft v) < 2)) (fun i _ => by simp), h]; rfl
    · simp only [f_X7_empty_b13, f_X7_empty_j43, Cv.2.1, nmv]
      have h16 := np_le v k (lft v)
      rw [if_neg (nI_ge hk (by omega)), howManyParts_ev Cv R hP hk, Option.bind_some, nI_1, q_2]
      by_cases h : 2 ≤ np v k (lft v)
      · rw [if_pos (nI_le h (by omega))]
        refine pr_bs (fun x _ => ?_)
        by_cases hx : x = k
        · subst hx; simp; omega
        · have : (x < k + 1) = (x < k) := by simp; omega
          simp [this]
      · rw [if_neg (nI_ge (by omega) (by omega)), bs_add _ (by omega)]
        refine pr_bs (fun x _ => ?_)
        by_cases hx : x = k
        · subst hx; simp; omega
        · have : (x < k + 1) = (x < k) := by simp; omega
          simp [hx, this]
    · simp only [f_X7_empty_b13, Cv.2.1]
      rw [if_pos (nI_le (Nat.le_refl _) (by omega))]
  · unfold f_X8_empty
    rw [leftOver_ev Mv R, Option.bind_some]
    have h := lpf_seq (body := fun s : Int32 × Int32 => f_X8_empty_b9 w (bs (lft v)) s.1 s.2) (fun k => (bs (fun q => decide (q < k) && decide (np v q (lft v) < 2)), nI k)) (v 0 1) (bs (fun q => decide (q < v 0 1) && decide (np v q (lft v) < 2))) (by omega) (fun k hk => ?_) ?_
    · rw [st_bs0 (P := fun q => decide (q < 0) && decide (np v q (lft v) < 2)) (fun i _ => by simp), h]; rfl
    · simp only [f_X8_empty_b9, f_X8_empty_j36, Mv.2.1, nmv]
      have h16 := np_le v k (lft v)
      have hc := cutOf_ev Mv R hP hk (t := 1) (by omega)
      rw [show nI 1 = 1 from rfl] at hc
      rw [if_neg (nI_ge hk (by omega)), hc, Option.bind_some, nI_1, q_2, if_neg (show ¬ 1 = 0 by omega), if_pos rfl]
      by_cases h : 2 ≤ np v k (lft v)
      · rw [if_pos (nI_le h (by omega)), ← bs_none, bs_or]
        refine pr_bs (fun x _ => ?_)
        by_cases hx : x = k
        · subst hx; simp; omega
        · have : (x < k + 1) = (x < k) := by simp; omega
          simp [this]
      · rw [if_neg (nI_ge (by omega) (by omega)), bs_add _ (by omega)]
        refine pr_bs (fun x _ => ?_)
        by_cases hx : x = k
        · subst hx; simp; omega
        · have : (x < k + 1) = (x < k) := by simp; omega
          simp [hx, this]
    · simp only [f_X8_empty_b9, Mv.2.1]
      rw [if_pos (nI_le (Nat.le_refl _) (by omega))]

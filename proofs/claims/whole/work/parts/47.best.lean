/-! the best question; two that give the same -/
theorem sub_lt0 {a b : Nat} (ha : a < 2 ^ 30) (hb : b < 2 ^ 30) : nI a - nI b < 0 ↔ a < b := by
  rw [Int32.lt_iff_toInt_lt, pk_sub_toInt ha hb]
  show (a : Int) - b < 0 ↔ _
  omega
theorem sub_eq0 {a b : Nat} (ha : a < 2 ^ 30) (hb : b < 2 ^ 30) : nI a - nI b = 0 ↔ a = b := by
  rw [← Int32.toInt_inj, pk_sub_toInt ha hb]
  show (a : Int) - b = 0 ↔ _
  omega
def bst (v : Vt) (P : Nat → Bool) : Nat → Nat
  | 0 => 0
  | k + 1 => if k = 0 then 0 else if gp v k P < gp v (bst v P k) P ∨ (gp v k P = gp v (bst v P k) P ∧ v 4 k < v 4 (bst v P k)) then k else bst v P k
theorem bst_lt (v : Vt) (P : Nat → Bool) : ∀ k, bst v P (k + 1) < k + 1
  | 0 => by simp [bst]
  | k + 1 => by
    have := bst_lt v P k
    rw [bst, if_neg (by omega)]
    split <;> omega
theorem best_ok {w : WW} {S : StT} (I : SInv S) (C : CInv w S) (M : MInv w S) : ∃ r, f_X7_best w = some r ∧ f_X8_best w = some r := by
  have hq := I.1.1.2.1
  have hF := fit0 I C
  generalize hv : S.1.1 = v at hq hF
  have R : Rg v := by rw [← hv]; exact I.1.1
  have Cv : CSt w 1 v := by rw [← hv]; exact C.1.1
  have Mv : MSt w v := by rw [← hv]; exact M.1.st
  have hP : ∀ x, x < 16 → lft v x = true → x < v 0 0 := fun x _ h => lft_lt h
  have hpr : ∀ k, k < v 0 1 → v 4 k ≤ 99 := fun k hk => (R.2.2.2.2.1 k hk).2.2
  by_cases h0 : bs (lft v) = 0
  · refine ⟨-1, ?_, ?_⟩
    · unfold f_X7_best
      rw [hF, Option.bind_some, if_pos h0]
    · unfold f_X8_best
      rw [leftOver_ev Mv R, Option.bind_some]
      have : lpf (fun s : Int32 × Int32 => f_X8_best_b9 w (bs (lft v)) s.1 s.2) FU (-1, 0) = some (-1) := by
        refine lpf_seq (fun _ => ((-1 : Int32), (0 : Int32))) 0 _ (by omega) (fun i hi => by omega) ?_
        simp only [f_X8_best_b9]
        rw [if_pos h0]
        split <;> rfl
      rw [this]; rfl
  · refine ⟨if v 0 1 = 0 then -1 else nI (bst v (lft v) (v 0 1)), ?_, ?_⟩
    · unfold f_X7_best
      rw [hF, Option.bind_some, if_neg h0]
      have h := lpf_seq (body := fun s : Int32 × Int32 × Int32 => f_X7_best_b22 w (bs (lft v)) s.1 s.2.1 s.2.2) (fun k => if k = 0 then (-1, 0, 0) else (nI (bst v (lft v) k), nI (gp v (bst v (lft v) k) (lft v)), nI k)) (v 0 1) (if v 0 1 = 0 then -1 else nI (bst v (lft v) (v 0 1))) (by omega) (fun k hk => ?_) ?_
      · rw [if_pos rfl] at h
        rw [h]; rfl
      · have g1 := gp_le v k (lft v)
        have g2 := gp_le v (bst v (lft v) k) (lft v)
        have p1 := hpr k hk
        rw [if_neg (show ¬ k + 1 = 0 by omega)]
        by_cases k0 : k = 0
        · subst k0
          rw [if_pos rfl]
          simp only [f_X7_best_b22, f_X7_best_j91, f_X7_best_j85, Cv.2.1]
          rw [show (0 : Int32) = nI 0 from rfl, if_neg (nI_ge hk (by omega)), greatestPart_ev Cv R hP hk, Option.bind_some, if_pos trivial, nI_1]
          rfl
        · obtain ⟨k', rfl⟩ : ∃ k', k = k' + 1 := ⟨k - 1, by omega⟩
          have hb := bst_lt v (lft v) k'
          have p2 := hpr (bst v (lft v) (k' + 1)) (by omega)
          rw [if_neg k0]
          simp only [f_X7_best_b22, f_X7_best_j91, f_X7_best_j85, Cv.2.1]
          rw [if_neg (nI_ge hk (by omega)), greatestPart_ev Cv R hP hk, Option.bind_some, if_neg (show ¬ nI (bst v (lft v) (k' + 1)) = -1 from fun e => by
            have := congrArg Int32.toInt e
            rw [nI_toInt (by omega)] at this
            have h2 : (-1 : Int32).toInt = -1 := rfl
            omega), nI_1, show bst v (lft v) (k' + 1 + 1) = if k' + 1 = 0 then 0 else if gp v (k' + 1) (lft v) < gp v (bst v (lft v) (k' + 1)) (lft v) ∨ (gp v (k' + 1) (lft v) = gp v (bst v (lft v) (k' + 1)) (lft v) ∧ v 4 (k' + 1) < v 4 (bst v (lft v) (k' + 1))) then k' + 1 else bst v (lft v) (k' + 1) from rfl, if_neg (show ¬ k' + 1 = 0 by omega)]
          generalize hB : bst v (lft v) (k' + 1) = B at *
          rw [gd_t (inb_n (by omega) (by omega)), gd_t (inb_n (by omega) (by omega)), cl_n (by omega), cl_n (by omega), show w.1 5 B = nI (v 4 B) from (Cv.2.2.2.2.1 B (by omega)).2.2, show w.1 5 (k' + 1) = nI (v 4 (k' + 1)) from (Cv.2.2.2.2.1 _ hk).2.2]
          by_cases a1 : gp v (k' + 1) (lft v) < gp v B (lft v)
          · rw [if_pos (nI_lt a1 (by omega)), if_pos (Or.inl a1)]
          · rw [if_neg (nI_nlt (by omega) (by omega))]
            by_cases a2 : gp v (k' + 1) (lft v) = gp v B (lft v)
            · rw [if_pos (by rw [a2])]
              by_cases a3 : v 4 (k' + 1) < v 4 B
              · rw [if_neg (nI_ge a3 (by omega)), if_pos (Or.inr ⟨a2, a3⟩)]
              · rw [if_pos (nI_le (by omega) (by omega)), if_neg (by omega)]
            · rw [if_neg (by rw [nI_eq (by omega) (by omega)]; exact a2), if_neg (by omega)]
      · by_cases k0 : v 0 1 = 0
        · rw [if_pos k0, if_pos k0]
          simp only [f_X7_best_b22, Cv.2.1, k0]
          rw [if_pos (by decide)]
        · rw [if_neg k0, if_neg k0]
          simp only [f_X7_best_b22, Cv.2.1]
          rw [if_pos (nI_le (Nat.le_refl _) (by omega))]
    · unfold f_X8_best
      rw [leftOver_ev Mv R, Option.bind_some]
      have h := lpf_seq (body := fun s : Int32 × Int32 => f_X8_best_b9 w (bs (lft v)) s.1 s.2) (fun k => if k = 0 then (-1, 0) else (nI (bst v (lft v) k), nI k)) (v 0 1) (if v 0 1 = 0 then -1 else nI (bst v (lft v) (v 0 1))) (by omega) (fun k hk => ?_) ?_
      · rw [if_pos rfl] at h
        rw [h]; rfl
      · have g1 := gp_le v k (lft v)
        have g2 := gp_le v (bst v (lft v) k) (lft v)
        have p1 := hpr k hk
        rw [if_neg (show ¬ k + 1 = 0 by omega)]
        by_cases k0 : k = 0
        · subst k0
          rw [if_pos rfl]
          simp only [f_X8_best_b9, f_X8_best_j45, f_X8_best_j72, f_X8_best_j77, Mv.2.1]
          rw [if_neg (show ¬ nI (v 0 1) ≤ 0 from nI_ge (a := 0) hk (by omega)), if_neg h0, if_pos (by decide), if_pos (by decide)]
          rfl
        · obtain ⟨k', rfl⟩ : ∃ k', k = k' + 1 := ⟨k - 1, by omega⟩
          have hb := bst_lt v (lft v) k'
          have p2 := hpr (bst v (lft v) (k' + 1)) (by omega)
          rw [if_neg k0]
          simp only [f_X8_best_b9, f_X8_best_j45, f_X8_best_j72, f_X8_best_j76, f_X8_best_j77, Mv.2.1]
          have hc := cutOf_ev Mv R hP hk (t := 0) (by omega)
          have hc2 := cutOf_ev Mv R hP (show bst v (lft v) (k' + 1) < v 0 1 by omega) (t := 0) (by omega)
          rw [show nI 0 = 0 from rfl] at hc hc2
          rw [if_neg (nI_ge hk (by omega)), if_neg h0, if_neg (show ¬ nI (bst v (lft v) (k' + 1)) = -1 from fun e => by
            have := congrArg Int32.toInt e
            rw [nI_toInt (by omega)] at this
            have h2 : (-1 : Int32).toInt = -1 := rfl
            omega), hc, Option.bind_some, hc2, Option.bind_some, if_pos rfl, if_pos rfl, nI_1, show bst v (lft v) (k' + 1 + 1) = if k' + 1 = 0 then 0 else if gp v (k' + 1) (lft v) < gp v (bst v (lft v) (k' + 1)) (lft v) ∨ (gp v (k' + 1) (lft v) = gp v (bst v (lft v) (k' + 1)) (lft v) ∧ v 4 (k' + 1) < v 4 (bst v (lft v) (k' + 1))) then k' + 1 else bst v (lft v) (k' + 1) from rfl, if_neg (show ¬ k' + 1 = 0 by omega)]
          generalize hB : bst v (lft v) (k' + 1) = B at *
          rw [gd_t (inb_n (by omega) (by omega)), gd_t (inb_n (by omega) (by omega)), cl_n (by omega), cl_n (by omega), (Mv.2.2.2.2.1 B (by omega)).2.2, (Mv.2.2.2.2.1 _ hk).2.2]
          by_cases a1 : gp v (k' + 1) (lft v) < gp v B (lft v)
          · rw [if_pos ((sub_lt0 (by omega) (by omega)).mpr a1), if_pos (Or.inl a1)]
          · rw [if_neg (fun e => a1 ((sub_lt0 (by omega) (by omega)).mp e))]
            by_cases a2 : gp v (k' + 1) (lft v) = gp v B (lft v)
            · rw [if_pos ((sub_eq0 (by omega) (by omega)).mpr a2)]
              by_cases a3 : v 4 (k' + 1) < v 4 B
              · rw [if_neg (nI_ge a3 (by omega)), if_pos (Or.inr ⟨a2, a3⟩)]
              · rw [if_pos (nI_le (by omega) (by omega)), if_neg (by omega)]
            · rw [if_neg (fun e => a2 ((sub_eq0 (by omega) (by omega)).mp e)), if_neg (by omega)]
      · by_cases k0 : v 0 1 = 0
        · rw [if_pos k0, if_pos k0]
          simp only [f_X8_best_b9, Mv.2.1, k0]
          rw [if_pos (by decide)]
        · rw [if_neg k0, if_neg k0]
          simp only [f_X8_best_b9, Mv.2.1]
          rw [if_pos (nI_le (Nat.le_refl _) (by omega))]

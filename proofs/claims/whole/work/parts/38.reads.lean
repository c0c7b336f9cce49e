/-! the text, reads -/
theorem ro0 {w : WW} {S : StT} {oc : Option (Int32 × WW)} {om : WW → Option (Int32 × WW)} (I : SInv S) (C : CInv w S) (M : MInv w S) (r : Int32) (hc : oc = some (r, w)) (hm : ∀ w', MInv w' S → om w' = some (r, w')) : Both oc om :=
  both_ro I C M r hc (SameC.rf w) (LowC.rf w) (fun w' M' => ⟨w', hm w' M', SameM.rf w', HighM.rf w'⟩)
theorem of_ok {w : WW} {S : StT} (I : SInv S) (C : CInv w S) (M : MInv w S) (x y : Int32) : Both (f_X7_of w x y) (fun w => f_X8_of w x y) := by
  have hq := I.1.1.2.1
  have l2 : (2 : Int32) = nI 3 - 1 := rfl
  by_cases hx : inb x (S.1.1 0 1)
  · by_cases h : inb y 3
    · obtain ⟨i, hi, rfl⟩ := inb_of hx (by omega)
      obtain ⟨t, ht, rfl⟩ := inb_of h (by omega)
      have c := C.1.1.2.2.2.2.1 i hi
      have t012 : t = 0 ∨ t = 1 ∨ t = 2 := by omega
      refine ro0 I C M (nI (S.1.1 (2 + t) i)) ?_ (fun w' M' => ?_)
      · simp only [f_X7_of, isQ_ev (q := S.1.1 0 1) (by omega) C.1.1.2.1, within_nn w _ l2 (by omega), Option.bind_some, if_pos hx, if_pos h]
        rw [if_neg (by decide), if_neg (by decide), gd_t (inb_n (by omega) (by omega)), gd_t (inb_n (by omega) (by omega)), gd_t (inb_n (by omega) (by omega)), cl_n (by omega)]
        rcases t012 with rfl | rfl | rfl
        · rw [if_pos (by decide), c.1]
        · rw [if_neg (by decide), if_pos (by decide), c.2.1]
        · rw [if_neg (by decide), if_neg (by decide), c.2.2]
      · have c := M'.1.2.2.2.2.2.1 i hi
        simp only [f_X8_of, isQm_ev (q := S.1.1 0 1) (by omega) M'.1.2.1, in_nn w' _ l2 (by omega), Option.bind_some, if_pos hx, if_pos h]
        rw [if_neg (by decide), if_neg (by decide), gd_t (inb_n (by omega) (by omega)), gd_t (inb_n (by omega) (by omega)), gd_t (inb_n (by omega) (by omega)), cl_n (by omega)]
        rcases t012 with rfl | rfl | rfl
        · rw [if_pos (by decide), c.1]
        · rw [if_neg (by decide), if_pos (by decide), c.2.1]
        · rw [if_neg (by decide), if_neg (by decide), c.2.2]
    · exact both_ref I C M (-2) 0 (by omega) (by simp only [f_X7_of, f_X7_of_j17, isQ_ev (q := S.1.1 0 1) (by omega) C.1.1.2.1, within_nn w _ l2 (by omega), Option.bind_some, if_pos hx, if_neg h, refuse_0]; rfl) (fun w' M' => by simp only [f_X8_of, f_X8_of_j17, isQm_ev (q := S.1.1 0 1) (by omega) M'.1.2.1, in_nn w' _ l2 (by omega), Option.bind_some, if_pos hx, if_neg h, bad_0]; rfl)
  · exact both_ref I C M (-2) 0 (by omega) (by simp only [f_X7_of, f_X7_of_j17, isQ_ev (q := S.1.1 0 1) (by omega) C.1.1.2.1, Option.bind_some, if_neg hx, refuse_0]; rfl) (fun w' M' => by simp only [f_X8_of, f_X8_of_j17, isQm_ev (q := S.1.1 0 1) (by omega) M'.1.2.1, Option.bind_some, if_neg hx, bad_0]; rfl)
theorem answer_ok {w : WW} {S : StT} (I : SInv S) (C : CInv w S) (M : MInv w S) (x y : Int32) : Both (f_X7_answer w x y) (fun w => f_X8_answer w x y) := by
  have hq := I.1.1.2.1
  have hn := I.1.1.1.2
  by_cases hx : inb x (S.1.1 0 1)
  · by_cases h : inb y (S.1.1 0 0)
    · obtain ⟨i, hi, rfl⟩ := inb_of hx (by omega)
      obtain ⟨t, ht, rfl⟩ := inb_of h (by omega)
      refine ro0 I C M (nI (an S.1.1 i t)) ?_ (fun w' M' => ?_)
      · simp only [f_X7_answer, isQ_ev (q := S.1.1 0 1) (by omega) C.1.1.2.1, isC_ev (q := S.1.1 0 0) (by omega) C.1.1.1, Option.bind_some, if_pos hx, if_pos h]
        rw [if_neg (by decide), if_neg (by decide), answerIn_ev C.1.1 I.1.1 hi (by omega), Option.bind_some]
      · simp only [f_X8_answer, isQm_ev (q := S.1.1 0 1) (by omega) M'.1.2.1, isCm_ev (q := S.1.1 0 0) (by omega) M'.1.1, Option.bind_some, if_pos hx, if_pos h]
        rw [if_neg (by decide), if_neg (by decide), answerOf_ev M'.1.st I.1.1 hi (by omega), Option.bind_some]
    · exact both_ref I C M (-2) 0 (by omega) (by simp only [f_X7_answer, f_X7_answer_j16, isQ_ev (q := S.1.1 0 1) (by omega) C.1.1.2.1, isC_ev (q := S.1.1 0 0) (by omega) C.1.1.1, Option.bind_some, if_pos hx, if_neg h, refuse_0]; rfl) (fun w' M' => by simp only [f_X8_answer, f_X8_answer_j25, isQm_ev (q := S.1.1 0 1) (by omega) M'.1.2.1, isCm_ev (q := S.1.1 0 0) (by omega) M'.1.1, Option.bind_some, if_pos hx, if_neg h, bad_0]; rfl)
  · exact both_ref I C M (-2) 0 (by omega) (by simp only [f_X7_answer, f_X7_answer_j16, isQ_ev (q := S.1.1 0 1) (by omega) C.1.1.2.1, Option.bind_some, if_neg hx, refuse_0]; rfl) (fun w' M' => by simp only [f_X8_answer, f_X8_answer_j25, isQm_ev (q := S.1.1 0 1) (by omega) M'.1.2.1, Option.bind_some, if_neg hx, bad_0]; rfl)
theorem status_ok {w : WW} {S : StT} (I : SInv S) (C : CInv w S) (M : MInv w S) (x : Int32) : Both (f_X7_status w x) (fun w => f_X8_status w x) := by
  have l2 : (2 : Int32) = nI 3 - 1 := rfl
  by_cases hx : inb x 3
  · obtain ⟨i, hi, rfl⟩ := inb_of hx (by omega)
    refine ro0 I C M (S.2.2.2.2 i) ?_ (fun w' M' => ?_)
    · simp only [f_X7_status, within_nn w _ l2 (by omega), Option.bind_some, if_pos hx]
      rw [if_neg (by decide), gd_t (inb_n (by omega) (by omega)), cl_n (by omega), C.2.2.2.2 i hi]
    · simp only [f_X8_status, in_nn w' _ l2 (by omega), Option.bind_some, if_pos hx]
      rw [if_neg (by decide), gd_t (inb_n (by omega) (by omega)), cl_n (by omega), M'.2.2.2.2 i hi]
  · exact both_ref I C M (-1) 0 (by omega) (by simp only [f_X7_status, within_nn w _ l2 (by omega), Option.bind_some, if_neg hx, refuse_0]; rfl) (fun w' M' => by simp only [f_X8_status, in_nn w' _ l2 (by omega), Option.bind_some, if_neg hx]; rfl)
theorem left_ok {w : WW} {S : StT} (I : SInv S) (C : CInv w S) (M : MInv w S) : f_X7_left w = some (bs (lft S.1.1)) ∧ f_X8_left w = some (bs (lft S.1.1)) := by
  refine ⟨?_, ?_⟩
  · unfold f_X7_left
    rw [show (0 : Int32) = nI 0 from rfl, fitting_ev C.1.1 I.1.1 (by omega)]; rfl
  · unfold f_X8_left
    rw [leftOver_ev M.1.st I.1.1]; rfl
theorem oneWrong_ok {w : WW} {S : StT} (I : SInv S) (C : CInv w S) (M : MInv w S) : f_X7_oneWrong w = some (bs (fitb S.1.1 1)) ∧ f_X8_oneWrong w = some (bs (fitb S.1.1 1)) := by
  have R := I.1.1
  have hn := R.1.2
  have ha : S.1.1 0 2 ≤ 8 := R.2.2.1
  refine ⟨?_, ?_⟩
  · unfold f_X7_oneWrong
    rw [show (1 : Int32) = nI 1 from rfl, fitting_ev C.1.1 I.1.1 (by omega)]; rfl
  · generalize hv : S.1.1 = v at R hn ha
    have Mv : MSt w v := by rw [← hv]; exact M.1.st
    have cn := Mv.1
    have ca := Mv.2.2.1
    have ct := Mv.2.2.2.2.2
    have rt := R.2.2.2.2.2
    unfold f_X8_oneWrong
    have h := lpf_seq (body := fun s : Int32 × Int32 => f_X8_oneWrong_b4 w s.1 s.2) (fun k => (bs (fun x => decide (x < k) && decide (mis v x ≤ 1)), nI k)) (v 0 0) (bs (fitb v 1)) (by omega) (fun k hk => ?_) ?_
    · rw [st_bs0 (P := fun x => decide (x < 0) && decide (mis v x ≤ 1)) (fun i _ => by simp), h]; rfl
    · unfold f_X8_oneWrong_b4
      simp only [cn]
      rw [if_neg (nI_ge hk (by omega))]
      have h2 := lpf_seq (body := fun s : Int32 × Int32 => f_X8_oneWrong_b17 w (bs (fun x => decide (x < k) && decide (mis v x ≤ 1))) (nI k) s.1 s.2) (fun m => (nI (fb_ct (fun i => !decide (an v (v 5 i) k = v 6 i)) m), nI m)) (v 0 2) (nI (mis v k)) (by omega) (fun m hm => ?_) ?_
      · rw [show ((0 : Int32), (0 : Int32)) = (nI (fb_ct (fun i => !decide (an v (v 5 i) k = v 6 i)) 0), nI 0) from rfl, h2, Option.bind_some]
        have hml := mis_le v k
        rw [show (2 : Int32) = nI 2 from rfl]
        by_cases h : 2 ≤ mis v k
        · rw [if_pos (nI_le h (by omega))]
          unfold f_X8_oneWrong_j81 nmv
          rw [nI_1, ← bs_none, bs_or]
          refine pr_bs (fun x _ => ?_)
          by_cases hx : x = k
          · subst hx; simp; omega
          · have : (x < k + 1) = (x < k) := by simp; omega
            simp [this]
        · rw [if_neg (nI_ge (by omega) (by omega))]
          unfold f_X8_oneWrong_j81 nmv
          rw [nI_1, bs_add _ (by omega)]
          refine pr_bs (fun x _ => ?_)
          by_cases hx : x = k
          · subst hx; simp; omega
          · have : (x < k + 1) = (x < k) := by simp; omega
            simp [hx, this]
      · obtain ⟨t1, t2⟩ := rt m hm
        obtain ⟨c1, c2⟩ := ct m hm
        have hm' := an_le R t1 (show k < 16 by omega)
        unfold f_X8_oneWrong_b17
        simp only [ca]
        rw [if_neg (nI_ge hm (by omega)), q_2, pk_mul, gd_t (inb_n (by omega) (by omega)), nI_1, cl_n (by omega), cl_n (by omega), c1, c2, answerOf_ev Mv R t1 (by omega), Option.bind_some, gd_t (inb_n (by omega) (by omega)), fb_ct_succ]
        by_cases h : an v (v 5 m) k = v 6 m
        · rw [if_pos (by rw [h])]
          unfold f_X8_oneWrong_j60 nmv
          simp [h, nI_1]
        · rw [if_neg (by rw [nI_eq (by omega) (by omega)]; exact h)]
          unfold f_X8_oneWrong_j60 nmv
          simp [h, nI_1]
      · unfold f_X8_oneWrong_b17
        simp only [ca]
        rw [if_pos (nI_le (Nat.le_refl _) (by omega))]
        rfl
    · unfold f_X8_oneWrong_b4
      simp only [cn]
      rw [if_pos (nI_le (Nat.le_refl _) (by omega))]
      rfl
def Both64 (oc : Option (Int64 × WW)) (om : WW → Option (Int64 × WW)) : Prop := ∃ r w' w'' S', oc = some (r, w') ∧ om w' = some (r, w'') ∧ SInv S' ∧ CInv w'' S' ∧ MInv w'' S'
theorem part_ok {w : WW} {S : StT} (I : SInv S) (C : CInv w S) (M : MInv w S) (x : Int32) : Both64 (f_X7_part w x) (fun w => f_X8_part w x) := by
  have l1 : (1 : Int32) = nI 2 - 1 := rfl
  by_cases hx : inb x 2
  · obtain ⟨i, hi, rfl⟩ := inb_of hx (by omega)
    have i01 : i = 0 ∨ i = 1 := by omega
    rcases i01 with rfl | rfl
    · exact ⟨S.2.2.2.1.1, w, w, S, by simp only [f_X7_part, within_nn w _ l1 (by omega), Option.bind_some, if_pos hx]; rw [if_neg (by decide), if_pos (by decide), C.2.2.2.1.1], by show f_X8_part w (nI 0) = _; unfold f_X8_part; rw [if_pos (by decide), M.2.2.2.1.1], I, C, M⟩
    · exact ⟨S.2.2.2.1.2, w, w, S, by simp only [f_X7_part, within_nn w _ l1 (by omega), Option.bind_some, if_pos hx]; rw [if_neg (by decide), if_neg (by decide), C.2.2.2.1.2], by show f_X8_part w (nI 1) = _; unfold f_X8_part; rw [if_neg (by decide), if_pos (by decide), M.2.2.2.1.2], I, C, M⟩
  · have M1 := M.low (LowC.sI (w := w) (k := 37) (j := 0) (x := w.1 37 0 + 1) (by omega))
    have n0 : ¬ x = 0 := fun h => hx (by rw [h]; decide)
    have n1 : ¬ x = 1 := fun h => hx (by rw [h]; decide)
    refine ⟨(-2 : Int32).toInt64, sI w 37 0 (w.1 37 0 + 1), sI (sI w 37 0 (w.1 37 0 + 1)) 47 0 ((sI w 37 0 (w.1 37 0 + 1)).1 47 0 + 1), bump S 0, ?_, ?_, I.bump, (C.bump (by omega)).high (HighM.sI (by omega)), M1.bump (by omega)⟩
    · simp only [f_X7_part, within_nn w _ l1 (by omega), Option.bind_some, if_neg hx, refuse_0]; rfl
    · show f_X8_part _ x = _
      unfold f_X8_part
      rw [if_neg n0, if_neg n1, bad_0]; rfl
theorem clear_ok {w : WW} {S : StT} (I : SInv S) (C : CInv w S) (M : MInv w S) : Both (f_X7_clear w) f_X8_clear := by
  refine Both.of (S' := (S.1, S.2.1, [], S.2.2.2)) (r := nI S.2.2.1.length) M ⟨I.1, I.2.1, ⟨by simp, by simp⟩, I.2.2.2⟩ ⟨sI w 26 1 0, ?_, LowC.sI (by omega), ?_⟩ (fun w' M' => ⟨sI w' 46 10 0, ?_, HighM.sI (by omega), ?_⟩)
  · unfold f_X7_clear nmv stI; rw [C.2.2.1.1]
  · obtain ⟨c1, c2, c3, c4, c5⟩ := C
    exact ⟨CA_congr (fun k j h1 h2 => sI_ne _ _ (by omega)) c1, fun i hi => CImg_congr (sI_ne _ _ (by omega)) (fun k j h1 h2 => sI_ne _ _ (by omega)) (c2 i hi), ⟨by rw [sI_at]; rfl, fun j hj => by simp at hj⟩, c4, fun i hi => (sI_ne _ _ (by omega)).trans (c5 i hi)⟩
  · unfold f_X8_clear nmv stI; rw [M'.2.2.1.1]
  · obtain ⟨c1, c2, c3, c4, c5⟩ := M'
    exact ⟨MA_congr (fun j hj => sI_ne _ _ (by omega)) (fun k j hk => sI_ne _ _ (by omega)) c1, fun i hi => MImg_congr (fun j => sI_ne _ _ (by omega)) (c2 i hi), ⟨by rw [sI_at]; rfl, fun j hj => by simp at hj⟩, c4, fun i hi => (sI_ne _ _ (by omega)).trans (c5 i hi)⟩
theorem byte_n : ∀ n, n < 128 → vp_nar .byte ((nI n).toInt8.toInt32) = nI n := by decide +kernel
theorem TX_push {tx : List Nat} {c : Nat} {n : Int32} {f g : Nat → Int32} (h : TXt tx n f) (hn : g tx.length = nI c) (hg : ∀ j, j ≠ tx.length → g j = f j) : TXt (tx ++ [c]) (nI (tx.length + 1)) g := by
  refine ⟨by simp, fun j hj => ?_⟩
  simp only [List.length_append, List.length_cons, List.length_nil] at hj
  by_cases e : j = tx.length
  · subst e; rw [hn]; simp
  · rw [hg j e, h.2 j (by omega)]
    congr 1
    simp [List.getD, List.getElem?_append_left (show j < tx.length by omega)]
theorem type_ok {w : WW} {S : StT} (I : SInv S) (C : CInv w S) (M : MInv w S) (x : Int32) : Both (f_X7_type w x) (fun w => f_X8_type w x) := by
  have l127 : (127 : Int32) = nI 128 - 1 := rfl
  have hl := I.2.2.1.1
  by_cases hx : inb x 128
  · obtain ⟨c, hc, rfl⟩ := inb_of hx (by omega)
    by_cases h : S.2.2.1.length < 150
    · refine Both.of (S' := (S.1, S.2.1, S.2.2.1 ++ [c], S.2.2.2)) (r := nI (S.2.2.1.length + 1)) M ⟨I.1, I.2.1, ⟨by simp; omega, fun y hy => ?_⟩, I.2.2.2⟩ ⟨sI (sI w 27 S.2.2.1.length (nI c)) 26 1 (nI (S.2.2.1.length + 1)), ?_, (LowC.sI (by omega)).tr (LowC.sI (by omega)), ?_⟩ (fun w' M' => ⟨sI (sI w' 53 S.2.2.1.length (nI c)) 46 10 (nI (S.2.2.1.length + 1)), ?_, (HighM.sI (by omega)).tr (HighM.sI (by omega)), ?_⟩)
      · rcases List.mem_append.mp hy with h | h
        · exact I.2.2.1.2 y h
        · rw [List.mem_singleton.mp h]; exact hc
      · simp only [f_X7_type, within_nn w _ l127 (by omega), Option.bind_some, if_pos hx]
        rw [if_neg (by decide), C.2.2.1.1, show (150 : Int32) = nI 150 from rfl, if_pos (nI_lt h (by omega))]
        unfold f_X4_addByte
        rw [C.2.2.1.1, show (150 : Int32) = nI 150 from rfl, if_neg (nI_ge h (by omega)), gd_t (inb_n h (by omega)), cl_n (by omega), byte_n c hc]
        simp only [stI, Option.bind_some]
        have e : (sI w 27 S.2.2.1.length (nI c)).1 26 1 = nI S.2.2.1.length := by rw [sI_ne _ _ (by omega)]; exact C.2.2.1.1
        rw [sI_at, e, nI_1]
      · obtain ⟨c1, c2, c3, c4, c5⟩ := C
        refine ⟨CA_congr (fun k j h1 h2 => by rw [sI_ne _ _ (by omega), sI_ne _ _ (by omega)]) c1, fun i hi => CImg_congr (by rw [sI_ne _ _ (by omega), sI_ne _ _ (by omega)]) (fun k j h1 h2 => by rw [sI_ne _ _ (by omega), sI_ne _ _ (by omega)]) (c2 i hi), ?_, c4, fun i hi => by rw [sI_ne _ _ (by omega), sI_ne _ _ (by omega)]; exact c5 i hi⟩
        show TXt (S.2.2.1 ++ [c]) _ _
        rw [sI_at]
        exact TX_push c3 (by rw [sI_ne _ _ (by omega), sI_at]) (fun j hj => by rw [sI_ne _ _ (by omega), sI_ne _ _ (by omega)])
      · simp only [f_X8_type, in_nn w' _ l127 (by omega), Option.bind_some, if_pos hx]
        rw [if_neg (by decide), M'.2.2.1.1, show (150 : Int32) = nI 150 from rfl, if_neg (by rw [nI_eq (by omega) (by omega)]; omega), gd_t (inb_n h (by omega)), cl_n (by omega)]
        simp only [stI]
        have e : (sI w' 53 S.2.2.1.length (nI c)).1 46 10 = nI S.2.2.1.length := by rw [sI_ne _ _ (by omega)]; exact M'.2.2.1.1
        rw [sI_at, e, nI_1]
      · obtain ⟨c1, c2, c3, c4, c5⟩ := M'
        refine ⟨MA_congr (fun j hj => by rw [sI_ne _ _ (by omega), sI_ne _ _ (by omega)]) (fun k j hk => by rw [sI_ne _ _ (by omega), sI_ne _ _ (by omega)]) c1, fun i hi => MImg_congr (fun j => by rw [sI_ne _ _ (by omega), sI_ne _ _ (by omega)]) (c2 i hi), ?_, c4, fun i hi => by rw [sI_ne _ _ (by omega), sI_ne _ _ (by omega)]; exact c5 i hi⟩
        show TXt (S.2.2.1 ++ [c]) _ _
        rw [sI_at]
        exact TX_push c3 (by rw [sI_ne _ _ (by omega), sI_at]) (fun j hj => by rw [sI_ne _ _ (by omega), sI_ne _ _ (by omega)])
    · have e150 : S.2.2.1.length = 150 := by omega
      refine both_ref I C M (-4) 2 (by omega) ?_ (fun w' M' => ?_)
      · simp only [f_X7_type, within_nn w _ l127 (by omega), Option.bind_some, if_pos hx]
        rw [if_neg (by decide), C.2.2.1.1, e150, if_neg (by decide), refuse_2]; rfl
      · simp only [f_X8_type, in_nn w' _ l127 (by omega), Option.bind_some, if_pos hx]
        rw [if_neg (by decide), M'.2.2.1.1, e150, if_pos (by decide), full_2]; rfl
  · exact both_ref I C M (-2) 0 (by omega) (by simp only [f_X7_type, within_nn w _ l127 (by omega), Option.bind_some, if_neg hx, refuse_0]; rfl) (fun w' M' => by simp only [f_X8_type, in_nn w' _ l127 (by omega), Option.bind_some, if_neg hx, bad_0]; rfl)

theorem question_ok {w : WW} {S : StT} (I : SInv S) (C : CInv w S) (M : MInv w S) (x y t : Int32) : Both (f_X7_question w x y t) (fun w => f_X8_question w x y t) := by
  have hq := I.1.1.2.1
  have l5 : (5 : Int32) = nI 6 - 1 := rfl
  have l15 : (15 : Int32) = nI 16 - 1 := rfl
  have l99 : (99 : Int32) = nI 100 - 1 := rfl
  by_cases hx : inb x 6
  · by_cases hy : inb y 16
    · by_cases ht : inb t 100
      · obtain ⟨k, hk, rfl⟩ := inb_of hx (by omega)
        obtain ⟨a, ha, rfl⟩ := inb_of hy (by omega)
        obtain ⟨p, hp, rfl⟩ := inb_of ht (by omega)
        by_cases h7 : S.1.1 0 1 < 7
        · refine both_st I C M (nI (S.1.1 0 1)) (Rim_add h7 (by omega) (by omega) (by omega) I.1) (w1 := addW 1 w (S.1.1 0 1) k a p) ?_ (fun k' j hk => addW_out (by omega)) (addW_2 _ _ _ _ _ _) (CA_add k a p C.1.1) (fun w' M' => ⟨addM w' (S.1.1 0 1) k a p, ?_, fun k' j hk => addM_out (by omega), rfl, MA_add k a p M'.1.st⟩)
          · simp only [f_X7_question, within_nn w _ l5 (by omega), within_nn w _ l15 (by omega), within_nn w _ l99 (by omega), Option.bind_some, if_pos hx, if_pos hy, if_pos ht]
            rw [if_neg (by decide), if_neg (by decide), if_neg (by decide), C.1.1.2.1, show (7 : Int32) = nI 7 from rfl, if_pos (nI_lt h7 (by omega)), addQuestion_ev h7 C.1.1.2.1 (by omega) (by omega), Option.bind_some]
            have e : (addW 1 w (S.1.1 0 1) k a p).1 1 1 = nI (addV S.1.1 k a p 0 1) := (CA_add k a p C.1.1).1.2.1
            rw [addV_0, if_pos rfl] at e
            rw [e, nI_pred]
          · simp only [f_X8_question, in_nn w' _ l5 (by omega), in_nn w' _ l15 (by omega), in_nn w' _ l99 (by omega), Option.bind_some, if_pos hx, if_pos hy, if_pos ht]
            rw [if_neg (by decide), if_neg (by decide), if_neg (by decide), M'.1.2.1, show (7 : Int32) = nI 7 from rfl, if_neg (by rw [nI_eq (by omega) (by omega)]; omega), addM_ev h7 M'.1.2.1, Option.bind_some]
        · have e7 : S.1.1 0 1 = 7 := by omega
          refine both_ref I C M (-4) 2 (by omega) ?_ (fun w' M' => ?_)
          · simp only [f_X7_question, within_nn w _ l5 (by omega), within_nn w _ l15 (by omega), within_nn w _ l99 (by omega), Option.bind_some, if_pos hx, if_pos hy, if_pos ht]
            rw [if_neg (by decide), if_neg (by decide), if_neg (by decide), C.1.1.2.1, e7, if_neg (by decide), refuse_2]; rfl
          · simp only [f_X8_question, in_nn w' _ l5 (by omega), in_nn w' _ l15 (by omega), in_nn w' _ l99 (by omega), Option.bind_some, if_pos hx, if_pos hy, if_pos ht]
            rw [if_neg (by decide), if_neg (by decide), if_neg (by decide), M'.1.2.1, e7, if_pos (by decide), full_2]; rfl
      · exact both_ref I C M (-2) 0 (by omega) (by simp only [f_X7_question, f_X7_question_j29, within_nn w _ l5 (by omega), within_nn w _ l15 (by omega), within_nn w _ l99 (by omega), Option.bind_some, if_pos hx, if_pos hy, if_neg ht, refuse_0]; rfl) (fun w' M' => by simp only [f_X8_question, f_X8_question_j29, in_nn w' _ l5 (by omega), in_nn w' _ l15 (by omega), in_nn w' _ l99 (by omega), Option.bind_some, if_pos hx, if_pos hy, if_neg ht, bad_0]; rfl)
    · exact both_ref I C M (-2) 0 (by omega) (by simp only [f_X7_question, f_X7_question_j29, within_nn w _ l5 (by omega), within_nn w _ l15 (by omega), Option.bind_some, if_pos hx, if_neg hy, refuse_0]; rfl) (fun w' M' => by simp only [f_X8_question, f_X8_question_j29, in_nn w' _ l5 (by omega), in_nn w' _ l15 (by omega), Option.bind_some, if_pos hx, if_neg hy, bad_0]; rfl)
  · exact both_ref I C M (-2) 0 (by omega) (by simp only [f_X7_question, f_X7_question_j29, within_nn w _ l5 (by omega), Option.bind_some, if_neg hx, refuse_0]; rfl) (fun w' M' => by simp only [f_X8_question, f_X8_question_j29, in_nn w' _ l5 (by omega), Option.bind_some, if_neg hx, bad_0]; rfl)

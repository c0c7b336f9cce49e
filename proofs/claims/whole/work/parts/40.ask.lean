/-! ask, forget, undo -/
theorem MA_setT {w w' : WW} {v : Vt} {U U' : List (List Nat)} {T : List Nat} (C : MA w (v, U)) (h : ∀ k j, ¬ (k = 46 ∧ (j = 3 ∨ j = 18)) → k ≠ 52 → k ≠ 56 → w'.1 k j = w.1 k j) (ha : w'.1 46 3 = nI T.length) (hu : w'.1 46 18 = nI U'.length) (hA : AT (w'.1 52) T) (hH : AH (w'.1 56) U') : MA w' (setT v T, U') := by
  obtain ⟨c1, c2, c3, c4, c5, c6, c7, c8⟩ := C
  refine ⟨?_, ?_, ?_, hu, fun x hx => ?_, fun i hi => ?_, fun i hi => ?_, hH⟩
  · show w'.1 46 1 = nI (setT v T 0 0)
    rw [setT_0 _ _ (by omega), h _ _ (by omega) (by omega) (by omega)]; exact c1
  · show w'.1 46 2 = nI (setT v T 0 1)
    rw [setT_0 _ _ (by omega), h _ _ (by omega) (by omega) (by omega)]; exact c2
  · show w'.1 46 3 = nI (setT v T 0 2)
    rw [setT_a]; exact ha
  · show w'.1 48 x = nI (setT v T 1 x)
    rw [setT_t _ _ _ (by omega) (by omega) (by omega), h _ _ (by omega) (by omega) (by omega)]; exact c5 x hx
  · have hi : i < setT v T 0 1 := hi
    rw [setT_0 _ _ (by omega)] at hi
    show w'.1 49 i = nI (setT v T 2 i) ∧ w'.1 50 i = nI (setT v T 3 i) ∧ w'.1 51 i = nI (setT v T 4 i)
    rw [setT_t _ _ _ (by omega) (by omega) (by omega), setT_t _ _ _ (by omega) (by omega) (by omega), setT_t _ _ _ (by omega) (by omega) (by omega), h _ _ (by omega) (by omega) (by omega), h _ _ (by omega) (by omega) (by omega), h _ _ (by omega) (by omega) (by omega)]
    exact c6 i hi
  · have hi : i < setT v T 0 2 := hi
    rw [setT_a] at hi
    show w'.1 52 (2 * i) = nI (setT v T 5 i) ∧ w'.1 52 (2 * i + 1) = nI (setT v T 6 i)
    rw [setT_5, setT_6]
    exact hA i hi
theorem Rim_setT {v : Vt} {U U' : List (List Nat)} {T : List Nat} (h : Rim (v, U)) (hT : T.length ≤ 8) (hm : ∀ x ∈ T, x / 16 < v 0 1) (hU : U'.length ≤ 8) (hM : ∀ t ∈ U', t ∈ cl v :: U) : Rim (setT v T, U') := by
  have hR : Rg v := h.1
  refine ⟨Rg_setT hR hT hm, hU, fun t ht => ?_⟩
  show t.length ≤ 8 ∧ ∀ x ∈ t, x / 16 < setT v T 0 1
  rw [setT_0 _ _ (by omega)]
  rcases List.mem_cons.mp (hM t ht) with e | e
  · subst e
    exact ⟨by rw [cl_len]; exact hR.2.2.1, fun x hx => (cl_mem hR hx).1⟩
  · exact h.2.2 t e
theorem AT_cl {w : WW} {v : Vt} (R : Rg v) (C : MSt w v) : AT (w.1 52) (cl v) := by
  intro i hi
  rw [cl_len] at hi
  rw [cl_get hi]
  have := C.2.2.2.2.2 i hi
  have r := R.2.2.2.2.2 i hi
  rw [show (16 * v 5 i + v 6 i) / 16 = v 5 i by omega, show (16 * v 5 i + v 6 i) % 16 = v 6 i by omega]
  exact this
theorem getD_app {T : List Nat} {c i : Nat} (h : i < T.length) : (T ++ [c]).getD i 0 = T.getD i 0 := by
  simp [List.getD, List.getElem?_append_left h]
theorem getD_last (T : List Nat) (c : Nat) : (T ++ [c]).getD T.length 0 = c := by simp [List.getD]
theorem told_cl {w : WW} {b : Nat} {v : Vt} (C : CSt w b v) {i : Nat} (hi : i < (cl v).length) : w.1 (b + 6) i = nI ((cl v).getD i 0) := by
  rw [cl_len] at hi
  rw [cl_get hi]
  exact C.2.2.2.2.2.2 i hi
set_option maxHeartbeats 2000000 in
theorem ask_ok {w : WW} {S : StT} (I : SInv S) (C : CInv w S) (M : MInv w S) (x y : Int32) : Both (f_X7_ask w x y) (fun w => f_X8_ask w x y) := by
  obtain ⟨⟨v, U⟩, S2⟩ := S
  have R : Rg v := I.1.1
  have hUl : U.length ≤ 8 := I.1.2.1
  have hU8 : ∀ T ∈ U, T.length ≤ 8 := fun T h => (I.1.2.2 T h).1
  have hq : v 0 1 ≤ 7 := R.2.1
  have ha8 : v 0 2 ≤ 8 := R.2.2.1
  have Cs : CSt w 1 v := C.1.1
  have l15 : (15 : Int32) = nI 16 - 1 := rfl
  by_cases hx : inb x (v 0 1)
  · by_cases hy : inb y 16
    · obtain ⟨i, hi, rfl⟩ := inb_of hx (by omega)
      obtain ⟨a, ha, rfl⟩ := inb_of hy (by omega)
      by_cases h8 : v 0 2 < 8
      · have hTl : (cl v).length = v 0 2 := cl_len v
        have hR' : Rim (setT v (cl v ++ [16 * i + a]), (cl v :: U).take 8) := Rim_setT I.1 (by simp [hTl]; omega) (fun z hz => by
          rcases List.mem_append.mp hz with h | h
          · exact (cl_mem R h).1
          · rw [List.mem_singleton.mp h]; omega) (by simp; omega) (fun t ht => List.mem_of_mem_take ht)
        -- the class
        have hu0 : w.1 1 3 = nI U.length := C.1.2.1
        have hTR : TRl (w.1 (1 + 7)) (cl v) U := C.1.2.2
        obtain ⟨w1, e1, e2, e3, e4⟩ := remember_ev (w := sI (sI w 7 (v 0 2) (nI (16 * i + a))) 1 2 (nI (v 0 2 + 1))) (b := 1) (U := U) (-1) (by rw [sI_ne _ _ (by omega), sI_ne _ _ (by omega)]; exact hu0) hUl
        have hA : CA w1 1 (setT v (cl v ++ [16 * i + a]), (cl v :: U).take 8) := by
          refine ⟨CSt_setT Cs (fun k j h1 h2 h3 => ?_) ?_ (fun j hj => ?_), (e4 (cl v) []).1, ?_⟩
          · rw [e2 k j (by omega) (by omega), sI_ne _ _ (by omega), sI_ne _ _ (by omega)]
          · rw [e2 _ _ (by omega) (by omega), sI_at]; simp [hTl]
          · rw [e2 _ _ (by omega) (by omega), sI_ne _ _ (by omega)]
            simp only [List.length_append, List.length_cons, List.length_nil] at hj
            by_cases ej : j = v 0 2
            · subst ej; rw [sI_at, ← hTl, getD_last]
            · rw [sI_ne _ _ (by omega), getD_app (by omega)]
              exact told_cl Cs (by omega)
          · show TRl (w1.1 (1 + 7)) (cl (setT v (cl v ++ [16 * i + a]))) _
            rw [cl_set]
            refine (e4 (cl v) _).2 (Or.inl ⟨rfl, _, rfl⟩) ?_
            rw [show (sI (sI w 7 (v 0 2) (nI (16 * i + a))) 1 2 (nI (v 0 2 + 1))).1 (1 + 7) = w.1 (1 + 7) from funext fun j => by rw [sI_ne _ _ (by omega), sI_ne _ _ (by omega)]]
            exact hTR
        refine both_st I C M (bs (lft (setT v (cl v ++ [16 * i + a])))) hR' (w1 := w1) ?_ (fun k j hk => ?_) (by rw [e3]; rfl) hA (fun w' M' => ?_)
        · simp only [f_X7_ask, isQ_ev (q := v 0 1) (by omega) Cs.2.1, within_nn w _ l15 (by omega), Option.bind_some, if_pos hx, if_pos hy]
          rw [if_neg (by decide), if_neg (by decide), Cs.2.2.1, show (8 : Int32) = nI 8 from rfl, if_pos (nI_lt h8 (by omega))]
          unfold f_X6_addAsked
          rw [Cs.2.2.1, show (8 : Int32) = nI 8 from rfl, if_pos (nI_lt h8 (by omega)), gd_t (inb_n h8 (by omega)), cl_n (by omega), q_16, pk_mul, nI_add, show i * 16 + a = 16 * i + a by omega]
          simp only [stI]
          rw [sI_ne _ _ (by omega), Cs.2.2.1, nI_1]
          rw [show f_X6_remember 1 (sI (sI w (1 + 6) (v 0 2) (nI (16 * i + a))) 1 2 (nI (v 0 2 + 1))) (-1) = some w1 from e1, Option.bind_some, Option.bind_some, show (0 : Int32) = nI 0 from rfl, fitting_ev hA.1 hR'.1 (by omega)]
          rfl
        · rw [e2 k j (by omega) (by omega), sI_ne _ _ (by omega), sI_ne _ _ (by omega)]
        · have Ma : MA w' (v, U) := M'.1
          have Ms : MSt w' v := Ma.st
          have ATc := AT_cl R Ms
          obtain ⟨w2, g1, g2, g3, g4, g5⟩ := notes_ev (w := w') (U := U) (T := cl v) Ma.2.2.2.1 hUl (by rw [hTl]; exact Ms.2.2.1) (by omega) hU8 ATc Ma.2.2.2.2.2.2.2
          have k3 : w2.1 46 3 = nI (v 0 2) := by rw [g2 _ _ (by omega) (by omega)]; exact Ms.2.2.1
          have hMA : MA (sI (sI (sI w2 52 (2 * v 0 2) (nI i)) 52 (2 * v 0 2 + 1) (nI a)) 46 3 (nI (v 0 2 + 1))) (setT v (cl v ++ [16 * i + a]), (cl v :: U).take 8) := by
            refine MA_setT Ma (fun k j h1 h2 h3 => ?_) ?_ ?_ (fun j hj => ?_) ?_
            · rw [sI_ne _ _ (by omega), sI_ne _ _ (by omega), sI_ne _ _ (by omega), g2 _ _ (by omega) (by omega)]
            · rw [sI_at]; simp [hTl]
            · rw [sI_ne _ _ (by omega), sI_ne _ _ (by omega), sI_ne _ _ (by omega)]; exact g4
            · simp only [List.length_append, List.length_cons, List.length_nil] at hj
              by_cases ej : j = v 0 2
              · subst ej
                rw [sI_ne _ _ (by omega), sI_ne _ _ (by omega), sI_at, sI_ne _ _ (by omega), sI_at, ← hTl, getD_last]
                refine ⟨congrArg nI (by omega), congrArg nI (by omega)⟩
              · rw [sI_ne _ _ (by omega), sI_ne _ _ (by omega), sI_ne _ _ (by omega), sI_ne _ _ (by omega), sI_ne _ _ (by omega), sI_ne _ _ (by omega), g2 _ _ (by omega) (by omega), g2 _ _ (by omega) (by omega), getD_app (by omega)]
                exact ATc j (by omega)
            · rw [show (sI (sI (sI w2 52 (2 * v 0 2) (nI i)) 52 (2 * v 0 2 + 1) (nI a)) 46 3 (nI (v 0 2 + 1))).1 56 = w2.1 56 from funext fun j => by rw [sI_ne _ _ (by omega), sI_ne _ _ (by omega), sI_ne _ _ (by omega)]]
              exact g5
          refine ⟨_, ?_, fun k j hk => ?_, by rw [sI_2, sI_2, sI_2]; exact g3, hMA⟩
          · simp only [f_X8_ask, isQm_ev (q := v 0 1) (by omega) Ms.2.1, in_nn w' _ l15 (by omega), Option.bind_some, if_pos hx, if_pos hy]
            rw [if_neg (by decide), if_neg (by decide), Ms.2.2.1, show (8 : Int32) = nI 8 from rfl, if_neg (by rw [nI_eq (by omega) (by omega)]; omega), g1, Option.bind_some, k3, q_2, pk_mul, gd_t (inb_n (by omega) (by omega)), cl_n (by omega)]
            simp only [stI]
            rw [show (sI w2 52 (2 * v 0 2) (nI i)).1 46 3 = nI (v 0 2) by rw [sI_ne _ _ (by omega)]; exact k3, pk_mul, nI_1, gd_t (inb_n (by omega) (by omega)), cl_n (by omega), show (sI (sI w2 52 (2 * v 0 2) (nI i)) 52 (2 * v 0 2 + 1) (nI a)).1 46 3 = nI (v 0 2) by rw [sI_ne _ _ (by omega), sI_ne _ _ (by omega)]; exact k3, nI_1, leftOver_ev hMA.st hR'.1]
            rfl
          · rw [sI_ne _ _ (by omega), sI_ne _ _ (by omega), sI_ne _ _ (by omega), g2 _ _ (by omega) (by omega)]
      · have e8 : v 0 2 = 8 := by omega
        refine both_ref I C M (-4) 2 (by omega) ?_ (fun w' M' => ?_)
        · simp only [f_X7_ask, isQ_ev (q := v 0 1) (by omega) Cs.2.1, within_nn w _ l15 (by omega), Option.bind_some, if_pos hx, if_pos hy]
          rw [if_neg (by decide), if_neg (by decide), Cs.2.2.1, e8, if_neg (by decide), refuse_2]; rfl
        · have Ms : MSt w' v := M'.1.st
          simp only [f_X8_ask, isQm_ev (q := v 0 1) (by omega) Ms.2.1, in_nn w' _ l15 (by omega), Option.bind_some, if_pos hx, if_pos hy]
          rw [if_neg (by decide), if_neg (by decide), Ms.2.2.1, e8, if_pos (by decide), full_2]; rfl
    · exact both_ref I C M (-2) 0 (by omega) (by simp only [f_X7_ask, f_X7_ask_j18, isQ_ev (q := v 0 1) (by omega) Cs.2.1, within_nn w _ l15 (by omega), Option.bind_some, if_pos hx, if_neg hy, refuse_0]; rfl) (fun w' M' => by
        have Ms : MSt w' v := M'.1.st
        simp only [f_X8_ask, f_X8_ask_j18, isQm_ev (q := v 0 1) (by omega) Ms.2.1, in_nn w' _ l15 (by omega), Option.bind_some, if_pos hx, if_neg hy, bad_0]; rfl)
  · exact both_ref I C M (-2) 0 (by omega) (by simp only [f_X7_ask, f_X7_ask_j18, isQ_ev (q := v 0 1) (by omega) Cs.2.1, Option.bind_some, if_neg hx, refuse_0]; rfl) (fun w' M' => by
      have Ms : MSt w' v := M'.1.st
      simp only [f_X8_ask, f_X8_ask_j18, isQm_ev (q := v 0 1) (by omega) Ms.2.1, Option.bind_some, if_neg hx, bad_0]; rfl)

theorem getD_tail (T : List Nat) (i : Nat) : T.tail.getD i 0 = T.getD (i + 1) 0 := by
  cases T <;> simp [List.getD]
set_option maxHeartbeats 2000000 in
theorem forget_ok {w : WW} {S : StT} (I : SInv S) (C : CInv w S) (M : MInv w S) : Both (f_X7_forget w) f_X8_forget := by
  obtain ⟨⟨v, U⟩, S2⟩ := S
  have R : Rg v := I.1.1
  have hUl : U.length ≤ 8 := I.1.2.1
  have hU8 : ∀ T ∈ U, T.length ≤ 8 := fun T h => (I.1.2.2 T h).1
  have ha8 : v 0 2 ≤ 8 := R.2.2.1
  have Cs : CSt w 1 v := C.1.1
  by_cases h0 : 1 ≤ v 0 2
  · have hTl : (cl v).length = v 0 2 := cl_len v
    have hTt : (cl v).tail.length = v 0 2 - 1 := by simp [hTl]
    obtain ⟨c, T', hT⟩ : ∃ c T', cl v = c :: T' := by
      cases h : cl v with
      | nil => rw [h] at hTl; simp at hTl; omega
      | cons c T' => exact ⟨c, T', rfl⟩
    have hc : c < 128 := (cl_mem R (by rw [hT]; exact List.mem_cons_self)).2
    have hR' : Rim (setT v (cl v).tail, (cl v :: U).take 8) := Rim_setT I.1 (by omega) (fun z hz => (cl_mem R (List.mem_of_mem_tail hz)).1) (by simp; omega) (fun t ht => List.mem_of_mem_take ht)
    have hu0 : w.1 1 3 = nI U.length := C.1.2.1
    have hTR : TRl (w.1 (1 + 7)) (cl v) U := C.1.2.2
    have ht0 : w.1 7 0 = nI c := by
      have := told_cl Cs (i := 0) (by omega)
      rw [hT] at this
      exact this
    obtain ⟨w1, e1, e2, e3, e4⟩ := remember_ev (w := w) (b := 1) (U := U) (nI c) hu0 hUl
    have k2 : w1.1 1 2 = nI (v 0 2) := by rw [e2 _ _ (by omega) (by omega)]; exact Cs.2.2.1
    have hm1 : nI (v 0 2) - 1 = nI (v 0 2 - 1) := by
      rw [show v 0 2 = (v 0 2 - 1) + 1 by omega, nI_pred]; congr 1
    have hA : CA (sC (sI w1 1 2 (nI (v 0 2 - 1))) 7 7 1 0 (v 0 2 - 1)) 1 (setT v (cl v).tail, (cl v :: U).take 8) := by
      refine ⟨CSt_setT Cs (fun k j h1 h2 h3 => ?_) ?_ (fun j hj => ?_), ?_, ?_⟩
      · rw [sC_ne _ (by omega), sI_ne _ _ (by omega), e2 _ _ (by omega) (by omega)]
      · rw [sC_ne _ (by omega), sI_at, hTt]
      · rw [sC_at, pk_cpy_in (by omega) (by omega), sI_ne _ _ (by omega), e2 _ _ (by omega) (by omega), getD_tail]
        have := told_cl Cs (i := j + 1) (by omega)
        rw [← this]
        show w.1 7 (1 + (j - 0)) = w.1 7 (j + 1)
        rw [show 1 + (j - 0) = j + 1 by omega]
      · rw [sC_ne _ (by omega), sI_ne _ _ (by omega)]; exact (e4 (cl v) []).1
      · show TRl ((sC (sI w1 1 2 (nI (v 0 2 - 1))) 7 7 1 0 (v 0 2 - 1)).1 (1 + 7)) (cl (setT v (cl v).tail)) _
        rw [cl_set, show (sC (sI w1 1 2 (nI (v 0 2 - 1))) 7 7 1 0 (v 0 2 - 1)).1 (1 + 7) = w1.1 (1 + 7) from funext fun j => by rw [sC_ne _ (by omega), sI_ne _ _ (by omega)]]
        exact (e4 (cl v) _).2 (Or.inr ⟨c, hc, rfl, by rw [hT]; rfl⟩) hTR
    refine both_st I C M (nI (v 0 2 - 1)) hR' (w1 := sC (sI w1 1 2 (nI (v 0 2 - 1))) 7 7 1 0 (v 0 2 - 1)) ?_ (fun k j hk => ?_) ?_ hA (fun w' M' => ?_)
    · unfold f_X7_forget f_X6_dropFirstAsked
      rw [Cs.2.2.1, if_pos (show (1 : Int32) ≤ nI (v 0 2) from nI_le (a := 1) h0 (by omega)), if_pos (show (1 : Int32) ≤ nI (v 0 2) from nI_le (a := 1) h0 (by omega)), gd_t (by decide), show w.1 (1 + 6) ((0 : Int32)).toNatClampNeg = nI c from ht0, e1, Option.bind_some]
      simp only [stI]
      rw [k2, hm1, sI_at, gd_t ⟨by decide, by decide, nI_pos (by omega), by rw [cl_n (by omega)]; show 1 + (v 0 2 - 1) ≤ 8; omega, by rw [cl_n (by omega)]; show 0 + (v 0 2 - 1) ≤ 8; omega⟩]
      simp only [stC, Option.bind_some]
      rw [cl_n (by omega), show ((1 : Int32)).toNatClampNeg = 1 from rfl, show ((0 : Int32)).toNatClampNeg = 0 from rfl, sC_ne _ (by omega), sI_at]
    · rw [sC_ne _ (by omega), sI_ne _ _ (by omega), e2 _ _ (by omega) (by omega)]
    · rw [sC_2, sI_2, e3]
    · have Ma : MA w' (v, U) := M'.1
      have Ms : MSt w' v := Ma.st
      have ATc := AT_cl R Ms
      obtain ⟨w2, g1, g2, g3, g4, g5⟩ := notes_ev (w := w') (U := U) (T := cl v) Ma.2.2.2.1 hUl (by rw [hTl]; exact Ms.2.2.1) (by omega) hU8 ATc Ma.2.2.2.2.2.2.2
      have k3 : w2.1 46 3 = nI (v 0 2) := by rw [g2 _ _ (by omega) (by omega)]; exact Ms.2.2.1
      have hl : lpf (fun s : Int32 × WW => f_X8_forget_b18 s.1 s.2) FU (nI 0, w2) = some (fillF w2 52 0 (fun j => w2.1 52 (j + 2)) 14) := by
        refine lpf_seq (fun k => (nI k, fillF w2 52 0 (fun j => w2.1 52 (j + 2)) k)) 14 _ (by omega) (fun k hk => ?_) rfl
        unfold f_X8_forget_b18
        dsimp only
        rw [show (14 : Int32) = nI 14 from rfl, if_neg (nI_ge hk (by omega)), q_2, nI_add, gd_t (inb_n (by omega) (by omega)), gd_t (inb_n (by omega) (by omega)), cl_n (by omega), cl_n (by omega)]
        unfold stI
        rw [nI_1, fillF_out _ _ _ _ _ (by omega), fillF, Nat.zero_add]
      have hMA : MA (sI (fillF w2 52 0 (fun j => w2.1 52 (j + 2)) 14) 46 3 (nI (v 0 2 - 1))) (setT v (cl v).tail, (cl v :: U).take 8) := by
        refine MA_setT Ma (fun k j h1 h2 h3 => ?_) ?_ ?_ (fun j hj => ?_) ?_
        · rw [sI_ne _ _ (by omega), fillF_ne _ _ _ _ (by omega), g2 _ _ (by omega) (by omega)]
        · rw [sI_at, hTt]
        · rw [sI_ne _ _ (by omega), fillF_ne _ _ _ _ (by omega)]; exact g4
        · have e1 := fillF_in w2 52 0 (fun j => w2.1 52 (j + 2)) 14 (i := 2 * j) (by omega)
          have e2 := fillF_in w2 52 0 (fun j => w2.1 52 (j + 2)) 14 (i := 2 * j + 1) (by omega)
          rw [Nat.zero_add] at e1 e2
          rw [sI_ne _ _ (by omega), sI_ne _ _ (by omega), e1, e2, g2 _ _ (by omega) (by omega), g2 _ _ (by omega) (by omega), getD_tail]
          have := ATc (j + 1) (by omega)
          rw [show 2 * j + 2 = 2 * (j + 1) by omega, show 2 * j + 1 + 2 = 2 * (j + 1) + 1 by omega]
          exact this
        · rw [show (sI (fillF w2 52 0 (fun j => w2.1 52 (j + 2)) 14) 46 3 (nI (v 0 2 - 1))).1 56 = w2.1 56 from funext fun j => by rw [sI_ne _ _ (by omega), fillF_ne _ _ _ _ (by omega)]]
          exact g5
      refine ⟨_, ?_, fun k j hk => ?_, by rw [sI_2, fillF_2]; exact g3, hMA⟩
      · unfold f_X8_forget
        rw [Ms.2.2.1, if_neg (by rw [show (0 : Int32) = nI 0 from rfl, nI_eq (by omega) (by omega)]; omega), g1, Option.bind_some, show (0 : Int32) = nI 0 from rfl, hl, Option.bind_some]
        simp only [stI]
        rw [fillF_ne _ _ _ _ (by omega), k3, hm1, sI_at]
      · rw [sI_ne _ _ (by omega), fillF_ne _ _ _ _ (by omega), g2 _ _ (by omega) (by omega)]
  · have e0 : v 0 2 = 0 := by omega
    refine both_ref I C M (-3) 1 (by omega) ?_ (fun w' M' => ?_)
    · unfold f_X7_forget
      rw [Cs.2.2.1, e0, if_neg (by decide), refuse_1]; rfl
    · have Ms : MSt w' v := M'.1.st
      unfold f_X8_forget
      rw [Ms.2.2.1, e0, if_pos (by decide), no_1]; rfl
theorem max_ev (w : WW) (x y : Int32) : f_J9_max_7cf53 w x y = some (if x < y then y else x) := by
  unfold f_J9_max_7cf53
  by_cases h : x < y
  · rw [if_pos h, if_pos h]
  · rw [if_neg h, if_neg h]
theorem min_ev (w : WW) (x y : Int32) : f_J9_min_7cf53 w x y = some (if y < x then y else x) := by
  unfold f_J9_min_7cf53
  by_cases h : y < x
  · rw [if_pos h, if_pos h]
  · rw [if_neg h, if_neg h]
set_option maxHeartbeats 2000000 in
theorem undo_ok {w : WW} {S : StT} (I : SInv S) (C : CInv w S) (M : MInv w S) : Both (f_X7_undo w) f_X8_undo := by
  obtain ⟨⟨v, U⟩, S2⟩ := S
  have R : Rg v := I.1.1
  have hUl : U.length ≤ 8 := I.1.2.1
  have ha8 : v 0 2 ≤ 8 := R.2.2.1
  have Cs : CSt w 1 v := C.1.1
  have hu0 : w.1 1 3 = nI U.length := C.1.2.1
  have hTR : TRl (w.1 (1 + 7)) (cl v) U := C.1.2.2
  have hTl : (cl v).length = v 0 2 := cl_len v
  cases U with
  | nil =>
    refine both_ref I C M (-3) 1 (by omega) ?_ (fun w' M' => ?_)
    · unfold f_X7_undo
      rw [hu0, if_neg (by decide), refuse_1]; rfl
    · have Ma : MA w' (v, []) := M'.1
      have : w'.1 46 18 = nI 0 := Ma.2.2.2.1
      unfold f_X8_undo
      rw [this, if_pos (by decide), no_1]; rfl
  | cons T U =>
    obtain ⟨hTS, hTR2⟩ := hTR
    obtain ⟨hT8, hTq⟩ : T.length ≤ 8 ∧ ∀ x ∈ T, x / 16 < v 0 1 := I.1.2.2 T List.mem_cons_self
    have hUl' : U.length + 1 ≤ 8 := by simpa using hUl
    have hu0 : w.1 1 3 = nI (U.length + 1) := by simpa using hu0
    have hR' : Rim (setT v T, U) := Rim_setT I.1 hT8 hTq (by omega) (fun t ht => by simp [ht])
    -- what stepBack leaves
    have hC : ∃ w1, f_X6_stepBack 1 w = some w1 ∧ (∀ k j, ¬ (k = 1 ∧ (j = 2 ∨ j = 3)) → k ≠ 7 → w1.1 k j = w.1 k j) ∧ w1.2 = w.2 ∧ w1.1 1 3 = nI U.length ∧ w1.1 1 2 = nI T.length ∧ ∀ j, j < T.length → w1.1 7 j = nI (T.getD j 0) := by
      have hs3 : ∀ x, (sI w 1 3 x).1 1 2 = nI (v 0 2) := fun x => by rw [sI_ne _ _ (by omega)]; exact Cs.2.2.1
      rcases hTS with ⟨t1, c, t2⟩ | ⟨c, hc, t1, t2⟩
      · have hlen : v 0 2 = T.length + 1 := by rw [← hTl, t2]; simp
        refine ⟨sI (sI w 1 3 (nI U.length)) 1 2 (nI T.length), ?_, fun k j h1 h2 => by rw [sI_ne _ _ (by omega), sI_ne _ _ (by omega)], rfl, by rw [sI_ne _ _ (by omega), sI_at], sI_at _ _ _ _, fun j hj => ?_⟩
        · unfold f_X6_stepBack
          rw [hu0, show (1 : Int32) = nI 1 from rfl, if_pos (nI_le (by omega) (by omega)), show nI 1 = 1 from rfl, nI_pred]
          simp only [stI]
          rw [sI_at, gd_t (inb_n (by omega) (by omega)), cl_n (by omega)]
          simp only [nmv]
          rw [sI_ne _ _ (by omega), show w.1 (1 + 7) U.length = -1 from t1, if_pos rfl, hs3, hlen, nI_pred, max_ev, if_neg (nI_pos (by omega)), Option.bind_some]
        · rw [sI_ne _ _ (by omega), sI_ne _ _ (by omega)]
          have := told_cl Cs (i := j) (by omega)
          rw [t2, getD_app hj] at this
          exact this
      · have hlen : T.length = v 0 2 + 1 := by rw [t2]; simp [hTl]
        have hne : ¬ nI c = -1 := fun e => by
          have := congrArg Int32.toInt e
          rw [nI_toInt (by omega)] at this
          have h1 : (-1 : Int32).toInt = -1 := rfl
          omega
        refine ⟨sI (sI (sC (sI w 1 3 (nI U.length)) 7 7 0 1 (v 0 2)) 7 0 (nI c)) 1 2 (nI (v 0 2 + 1)), ?_, fun k j h1 h2 => by rw [sI_ne _ _ (by omega), sI_ne _ _ (by omega), sC_ne _ (by omega), sI_ne _ _ (by omega)], rfl, by rw [sI_ne _ _ (by omega), sI_ne _ _ (by omega), sC_ne _ (by omega), sI_at], by rw [sI_at, hlen], fun j hj => ?_⟩
        · unfold f_X6_stepBack
          rw [hu0, show (1 : Int32) = nI 1 from rfl, if_pos (nI_le (by omega) (by omega)), show nI 1 = 1 from rfl, nI_pred]
          simp only [stI]
          rw [sI_at, gd_t (inb_n (by omega) (by omega)), cl_n (by omega)]
          simp only [nmv]
          rw [sI_ne _ _ (by omega), show w.1 (1 + 7) U.length = nI c from t1, if_neg hne, hs3, show (8 : Int32) = nI 8 from rfl, if_neg (nI_ge (by omega) (by omega)), gd_t ⟨by decide, by decide, nI_pos (by omega), by rw [cl_n (by omega)]; show 0 + v 0 2 ≤ 8; omega, by rw [cl_n (by omega)]; show 1 + v 0 2 ≤ 8; omega⟩]
          simp only [stC]
          rw [cl_n (by omega), show ((1 : Int32)).toNatClampNeg = 1 from rfl, show ((0 : Int32)).toNatClampNeg = 0 from rfl, gd_t (by decide), sI_ne _ _ (by omega), sC_ne _ (by omega), hs3, nI_1]
        · rw [sI_ne _ _ (by omega)]
          by_cases e : j = 0
          · subst e; rw [sI_at, t2]; rfl
          · rw [sI_ne _ _ (by omega), sC_at, pk_cpy_in (by omega) (by omega), sI_ne _ _ (by omega)]
            have := told_cl Cs (i := j - 1) (by omega)
            rw [show 0 + (j - 1) = j - 1 by omega]
            rw [show w.1 7 (j - 1) = nI ((cl v).getD (j - 1) 0) from this, t2]
            congr 1
            have : j = (j - 1) + 1 := by omega
            rw [this]
            simp [List.getD]
    obtain ⟨w1, e1, e2, e3, e4, e5, e6⟩ := hC
    have hA : CA w1 1 (setT v T, U) := by
      refine ⟨CSt_setT Cs (fun k j h1 h2 h3 => e2 k j h1 (by omega)) e5 e6, e4, ?_⟩
      show TRl (w1.1 (1 + 7)) (cl (setT v T)) U
      rw [cl_set, show w1.1 (1 + 7) = w.1 (1 + 7) from funext fun j => e2 _ _ (by omega) (by omega)]
      exact hTR2
    refine both_st I C M (nI T.length) hR' (w1 := w1) ?_ (fun k j hk => e2 k j (by omega) (by omega)) e3 hA (fun w' M' => ?_)
    · unfold f_X7_undo
      rw [hu0, show (1 : Int32) = nI 1 from rfl, if_pos (nI_le (by omega) (by omega)), e1, Option.bind_some, e5]
    · have Ma : MA w' (v, T :: U) := M'.1
      have Ms : MSt w' v := Ma.st
      have hu : w'.1 46 18 = nI (U.length + 1) := by simpa using Ma.2.2.2.1
      obtain ⟨⟨a1, a2⟩, a3⟩ := Ma.2.2.2.2.2.2.2
      generalize hz : sI (sI w' 46 18 (nI U.length)) 46 3 (nI T.length) = z
      have z56 : ∀ j, z.1 56 j = w'.1 56 j := fun j => by rw [← hz, sI_ne _ _ (by omega), sI_ne _ _ (by omega)]
      have hl : lpf (fun s : Int32 × WW => f_X8_undo_b42 (nI (17 * U.length)) s.1 s.2) FU (nI 0, z) = some (fillF z 52 0 (fun j => w'.1 56 (17 * U.length + 1 + j)) 16) := by
        refine lpf_seq (fun k => (nI k, fillF z 52 0 (fun j => w'.1 56 (17 * U.length + 1 + j)) k)) 16 _ (by omega) (fun k hk => ?_) rfl
        unfold f_X8_undo_b42
        dsimp only
        rw [q_16, if_neg (nI_ge hk (by omega)), nI_1, nI_add, gd_t (inb_n (by omega) (by omega)), gd_t (inb_n (by omega) (by omega)), cl_n (by omega), cl_n (by omega)]
        unfold stI
        rw [nI_1, fillF_ne _ _ _ _ (by omega), z56, fillF, Nat.zero_add]
      have hz0 : ∀ k j, ¬ (k = 46 ∧ (j = 3 ∨ j = 18)) → z.1 k j = w'.1 k j := fun k j h => by rw [← hz, sI_ne _ _ (by omega), sI_ne _ _ (by omega)]
      have hMA : MA (fillF z 52 0 (fun j => w'.1 56 (17 * U.length + 1 + j)) 16) (setT v T, U) := by
        refine MA_setT Ma (fun k j h1 h2 h3 => ?_) ?_ ?_ (fun j hj => ?_) ?_
        · rw [fillF_ne _ _ _ _ (by omega), hz0 k j h1]
        · rw [fillF_ne _ _ _ _ (by omega), ← hz, sI_at]
        · rw [fillF_ne _ _ _ _ (by omega), ← hz, sI_ne _ _ (by omega), sI_at]
        · have q1 := fillF_in z 52 0 (fun j => w'.1 56 (17 * U.length + 1 + j)) 16 (i := 2 * j) (by omega)
          have q2 := fillF_in z 52 0 (fun j => w'.1 56 (17 * U.length + 1 + j)) 16 (i := 2 * j + 1) (by omega)
          rw [Nat.zero_add] at q1 q2
          rw [q1, q2]
          have := a2 j hj
          rw [show 17 * U.length + 2 + 2 * j = 17 * U.length + 1 + (2 * j + 1) by omega] at this
          exact this
        · rw [show (fillF z 52 0 (fun j => w'.1 56 (17 * U.length + 1 + j)) 16).1 56 = w'.1 56 from funext fun j => by rw [fillF_ne _ _ _ _ (by omega), z56]]
          exact a3
      refine ⟨_, ?_, fun k j hk => ?_, by rw [fillF_2, ← hz]; rfl, hMA⟩
      · unfold f_X8_undo
        rw [hu, if_neg (by rw [show (0 : Int32) = nI 0 from rfl, nI_eq (by omega) (by omega)]; omega), nI_pred]
        simp only [stI, nmv]
        rw [sI_at, show (17 : Int32) = nI 17 from rfl, pk_mul, gd_t (inb_n (by omega) (by omega)), cl_n (by omega), sI_ne _ _ (by omega), a1, hz, show (0 : Int32) = nI 0 from rfl, hl, Option.bind_some, fillF_ne _ _ _ _ (by omega), ← hz, sI_at]
      · rw [fillF_ne _ _ _ _ (by omega), hz0 k j (by omega)]

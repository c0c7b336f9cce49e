def f_X7_left (w : WW) : Option (Int32) := (f_X6_fitting 1 w (0 : Int32)).bind (fun p2 => some (p2))
set_option maxRecDepth 20000 in
set_option maxHeartbeats 4000000 in
theorem c_X7_left {w : WW} {z : Int32} (hk : f_X7_left w = some z) : Cn 5 yX7_left cX7_left 1 (some .int) LAY [.ref 0] w (some (.int z)) w := by
  refine Cn.of (by decide +kernel) (Nat.le_of_ble_eq_true rfl) (fun G h => ?_)
  have h : Rules cX7_left RX7 "left" 1 (rmd 5 0 0) none _ _ LAY 0 0 G := h
  show G 0 [(0, .ref 0)] [] w
  unfold f_X7_left at hk
  refine k_aload_n (pc := 0) h 0 dX7_left_0 rfl ?_
  refine k_getr (pc := 1) h fl_X7_10 ly_0 rfl dX7_left_1 ?_
  refine k_iconst (pc := 4) h (x := (0 : Int32)) dX7_left_4 (by decide) ?_
  obtain ⟨p2, hc1, hk⟩ := bd_some hk
  refine k_callV1 (pc := 5) h (c_X6_fitting st_1 hc1) cw_X7_135 ly_1 rfl ⟨⟨by decide, by decide⟩, Nat.zero_le _, Nat.zero_le _⟩ rfl (Nat.le_of_ble_eq_true rfl) dX7_left_5 ?_
  have hk := Option.some.inj hk
  subst hk
  exact k_iret (pc := 8) h dX7_left_8 ⟨rfl, rfl, rfl, rfl, rfl, ⟨.int, rfl, rfl⟩⟩
def f_X7_oneByOne (w : WW) (l1 : Int32) : Option (Int32 × WW) := (f_X7_within w l1 (0 : Int32) (2 : Int32)).bind (fun p2 => if p2 = 0 then (f_X7_refuse w (-2 : Int32) (-2 : Int32)).bind (fun p8 => some (p8.1, p8.2)) else (f_X6_fitting 1 w (0 : Int32)).bind (fun p4 => (f_X2_lay 1 w p4).bind (fun p6 => if l1 = (0 : Int32) then some ((p6.1 40 0), p6) else if l1 = (1 : Int32) then some ((p6.1 40 1), p6) else some ((p6.1 40 2), p6))))
set_option maxRecDepth 20000 in
set_option maxHeartbeats 4000000 in
theorem c_X7_oneByOne {w : WW} {l1 : Int32} {z : Int32 × WW} (hk : f_X7_oneByOne w l1 = some z) : Cn 5 yX7_oneByOne cX7_oneByOne 2 (some .int) LAY [.ref 0, .int l1] w (some (.int z.1)) z.2 := by
  refine Cn.of (by decide +kernel) (Nat.le_of_ble_eq_true rfl) (fun G h => ?_)
  have h : Rules cX7_oneByOne RX7 "oneByOne" 2 (rmd 5 0 0) none _ _ LAY 0 0 G := h
  show G 0 [(0, .ref 0), (1, .int l1)] [] w
  unfold f_X7_oneByOne at hk
  refine k_iload_n (pc := 0) h 1 dX7_oneByOne_0 rfl ?_
  refine k_iconst (pc := 1) h (x := (0 : Int32)) dX7_oneByOne_1 (by decide) ?_
  refine k_iconst (pc := 2) h (x := (2 : Int32)) dX7_oneByOne_2 (by decide) ?_
  obtain ⟨p2, hc1, hk⟩ := bd_some hk
  refine k_callS1 (pc := 3) h (c_X7_within hc1) cw_X7_75 ⟨⟨by decide, by decide⟩, Nat.zero_le _, Nat.zero_le _⟩ rfl (Nat.le_of_ble_eq_true rfl) dX7_oneByOne_3 ?_
  refine k_if_ne (tgt := 18) (pc := 6) h dX7_oneByOne_6 rfl hk (fun hc hk => ?_) (fun hc hk => ?_)
  · refine k_aload_n (pc := 18) h 0 dX7_oneByOne_18 rfl ?_
    refine k_getr (pc := 19) h fl_X7_57 ly_0 rfl dX7_oneByOne_19 ?_
    refine k_aload_n (pc := 22) h 0 dX7_oneByOne_22 rfl ?_
    refine k_getr (pc := 23) h fl_X7_10 ly_0 rfl dX7_oneByOne_23 ?_
    refine k_aload_n (pc := 26) h 0 dX7_oneByOne_26 rfl ?_
    refine k_getr (pc := 27) h fl_X7_10 ly_0 rfl dX7_oneByOne_27 ?_
    refine k_iconst (pc := 30) h (x := (0 : Int32)) dX7_oneByOne_30 (by decide) ?_
    obtain ⟨p4, hc3, hk⟩ := bd_some hk
    refine k_callV1 (pc := 31) h (c_X6_fitting st_1 hc3) cw_X7_135 ly_1 rfl ⟨⟨by decide, by decide⟩, Nat.zero_le _, Nat.zero_le _⟩ rfl (Nat.le_of_ble_eq_true rfl) dX7_oneByOne_31 ?_
    obtain ⟨p6, hc5, hk⟩ := bd_some hk
    refine k_callV0 (pc := 34) h (c_X2_lay st_1 hc5) cw_X7_178 ly_40 rfl ⟨⟨by decide, by decide⟩, Nat.zero_le _, Nat.zero_le _⟩ rfl (Nat.le_of_ble_eq_true rfl) dX7_oneByOne_34 ?_
    refine k_iload_n (pc := 37) h 1 dX7_oneByOne_37 rfl ?_
    refine k_look (a := (0 : Int32)) (tgt := 64) (pc := 38) h dX7_oneByOne_38 rfl rfl rfl hk (fun hk => ?_) (fun q0 hk => ?_)
    · refine k_aload_n (pc := 64) h 0 dX7_oneByOne_64 rfl ?_
      refine k_getr (pc := 65) h fl_X7_57 ly_0 rfl dX7_oneByOne_65 ?_
      refine k_geti (pc := 68) h fl_X7_182 ly_40 rfl dX7_oneByOne_68 ?_
      have hk := Option.some.inj hk
      subst hk
      exact k_iret (pc := 71) h dX7_oneByOne_71 ⟨rfl, rfl, rfl, rfl, rfl, ⟨.int, rfl, rfl⟩⟩
    · refine k_look (a := (1 : Int32)) (tgt := 72) (pc := 38) h dX7_oneByOne_38 rfl rfl rfl hk (fun hk => ?_) (fun q1 hk => ?_)
      · refine k_aload_n (pc := 72) h 0 dX7_oneByOne_72 rfl ?_
        refine k_getr (pc := 73) h fl_X7_57 ly_0 rfl dX7_oneByOne_73 ?_
        refine k_geti (pc := 76) h fl_X7_183 ly_40 rfl dX7_oneByOne_76 ?_
        have hk := Option.some.inj hk
        subst hk
        exact k_iret (pc := 79) h dX7_oneByOne_79 ⟨rfl, rfl, rfl, rfl, rfl, ⟨.int, rfl, rfl⟩⟩
      · refine k_lookD (tgt := 80) (pc := 38) h dX7_oneByOne_38 rfl (by show Op.lookupswitch.offset [(0, 26), (1, 34)] 42 _ = _; rw [lv_osw q0 (by decide), lv_osw q1 (by decide)]; rfl) rfl ?_
        refine k_aload_n (pc := 80) h 0 dX7_oneByOne_80 rfl ?_
        refine k_getr (pc := 81) h fl_X7_57 ly_0 rfl dX7_oneByOne_81 ?_
        refine k_geti (pc := 84) h fl_X7_186 ly_40 rfl dX7_oneByOne_84 ?_
        have hk := Option.some.inj hk
        subst hk
        exact k_iret (pc := 87) h dX7_oneByOne_87 ⟨rfl, rfl, rfl, rfl, rfl, ⟨.int, rfl, rfl⟩⟩
  · refine k_aload_n (pc := 9) h 0 dX7_oneByOne_9 rfl ?_
    refine k_bipush (pc := 10) h (x := (-2 : Int32)) dX7_oneByOne_10 (by decide) ?_
    refine k_bipush (pc := 12) h (x := (-2 : Int32)) dX7_oneByOne_12 (by decide) ?_
    obtain ⟨p8, hc7, hk⟩ := bd_some hk
    refine k_callV1 (pc := 14) h (c_X7_refuse hc7) cw_X7_79 ly_0 rfl ⟨⟨by decide, by decide⟩, Nat.zero_le _, Nat.zero_le _⟩ rfl (Nat.le_of_ble_eq_true rfl) dX7_oneByOne_14 ?_
    have hk := Option.some.inj hk
    subst hk
    exact k_iret (pc := 17) h dX7_oneByOne_17 ⟨rfl, rfl, rfl, rfl, rfl, ⟨.int, rfl, rfl⟩⟩
def f_X7_oneWrong (w : WW) : Option (Int32) := (f_X6_fitting 1 w (1 : Int32)).bind (fun p2 => some (p2))
set_option maxRecDepth 20000 in
set_option maxHeartbeats 4000000 in
theorem c_X7_oneWrong {w : WW} {z : Int32} (hk : f_X7_oneWrong w = some z) : Cn 5 yX7_oneWrong cX7_oneWrong 1 (some .int) LAY [.ref 0] w (some (.int z)) w := by
  refine Cn.of (by decide +kernel) (Nat.le_of_ble_eq_true rfl) (fun G h => ?_)
  have h : Rules cX7_oneWrong RX7 "oneWrong" 1 (rmd 5 0 0) none _ _ LAY 0 0 G := h
  show G 0 [(0, .ref 0)] [] w
  unfold f_X7_oneWrong at hk
  refine k_aload_n (pc := 0) h 0 dX7_oneWrong_0 rfl ?_
  refine k_getr (pc := 1) h fl_X7_10 ly_0 rfl dX7_oneWrong_1 ?_
  refine k_iconst (pc := 4) h (x := (1 : Int32)) dX7_oneWrong_4 (by decide) ?_
  obtain ⟨p2, hc1, hk⟩ := bd_some hk
  refine k_callV1 (pc := 5) h (c_X6_fitting st_1 hc1) cw_X7_135 ly_1 rfl ⟨⟨by decide, by decide⟩, Nat.zero_le _, Nat.zero_le _⟩ rfl (Nat.le_of_ble_eq_true rfl) dX7_oneWrong_5 ?_
  have hk := Option.some.inj hk
  subst hk
  exact k_iret (pc := 8) h dX7_oneWrong_8 ⟨rfl, rfl, rfl, rfl, rfl, ⟨.int, rfl, rfl⟩⟩
def f_X7_parted_j42 (w : WW) (s0 : Int32) : Option (Int32 × WW) := (f_X6_fitting 1 w (0 : Int32)).bind (fun p2 => (f_X6_pairsParted 1 w s0 p2).bind (fun p4 => some (p4, w)))
def f_X7_parted_j22 (w : WW) (l1 : Int32) : Option (Int32 × WW) := if l1 = (-1 : Int32) then (f_X6_allSets 1 w).bind (fun p6 => f_X7_parted_j42 w (p6 - (1 : Int32))) else f_X7_parted_j42 w (shl32 (1 : Int32) l1)
def f_X7_parted (w : WW) (l1 : Int32) : Option (Int32 × WW) := if l1 = (-1 : Int32) then f_X7_parted_j22 w l1 else (f_X7_isQuestion w l1).bind (fun p8 => if p8 = 0 then (f_X7_refuse w (-2 : Int32) (-10 : Int32)).bind (fun p10 => some (p10.1, p10.2)) else f_X7_parted_j22 w l1)
set_option maxRecDepth 20000 in
set_option maxHeartbeats 4000000 in
theorem c_X7_parted {w : WW} {l1 : Int32} {z : Int32 × WW} (hk : f_X7_parted w l1 = some z) : Cn 5 yX7_parted cX7_parted 3 (some .int) LAY [.ref 0, .int l1] w (some (.int z.1)) z.2 := by
  refine Cn.of (by decide +kernel) (Nat.le_of_ble_eq_true rfl) (fun G h => ?_)
  have h : Rules cX7_parted RX7 "parted" 3 (rmd 5 0 0) none _ _ LAY 0 0 G := h
  show G 0 [(0, .ref 0), (1, .int l1)] [] w
  unfold f_X7_parted at hk
  have EJ42 : ∀ (w : WW) (s0 : Int32), f_X7_parted_j42 w s0 = some z → G 42 [(0, .ref 0)] [.int s0] w := by
    intro w s0 hk
    unfold f_X7_parted_j42 at hk
    refine k_istore_n (pc := 42) h [1, 0] (lv' := [(0, .ref 0), (2, .int s0)]) dX7_parted_42 rfl (by decide) rfl ?_
    refine k_aload_n (pc := 43) h 0 dX7_parted_43 rfl ?_
    refine k_getr (pc := 44) h fl_X7_10 ly_0 rfl dX7_parted_44 ?_
    refine k_iload_n (pc := 47) h 1 dX7_parted_47 rfl ?_
    refine k_aload_n (pc := 48) h 0 dX7_parted_48 rfl ?_
    refine k_getr (pc := 49) h fl_X7_10 ly_0 rfl dX7_parted_49 ?_
    refine k_iconst (pc := 52) h (x := (0 : Int32)) dX7_parted_52 (by decide) ?_
    obtain ⟨p2, hc1, hk⟩ := bd_some hk
    refine k_callV1 (pc := 53) h (c_X6_fitting st_1 hc1) cw_X7_135 ly_1 rfl ⟨⟨by decide, by decide⟩, Nat.zero_le _, Nat.zero_le _⟩ rfl (Nat.le_of_ble_eq_true rfl) dX7_parted_53 ?_
    obtain ⟨p4, hc3, hk⟩ := bd_some hk
    refine k_callV1 (pc := 56) h (c_X6_pairsParted st_1 hc3) cw_X7_199 ly_1 rfl ⟨⟨by decide, by decide⟩, Nat.zero_le _, Nat.zero_le _⟩ rfl (Nat.le_of_ble_eq_true rfl) dX7_parted_56 ?_
    have hk := Option.some.inj hk
    subst hk
    exact k_iret (pc := 59) h dX7_parted_59 ⟨rfl, rfl, rfl, rfl, rfl, ⟨.int, rfl, rfl⟩⟩
  have EJ22 : ∀ (w : WW) (l1 : Int32), f_X7_parted_j22 w l1 = some z → G 22 [(0, .ref 0), (1, .int l1)] [] w := by
    intro w l1 hk
    unfold f_X7_parted_j22 at hk
    refine k_iload_n (pc := 22) h 1 dX7_parted_22 rfl ?_
    refine k_iconst (pc := 23) h (x := (-1 : Int32)) dX7_parted_23 (by decide) ?_
    refine k_icmp_ne (tgt := 39) (pc := 24) h dX7_parted_24 rfl hk (fun hc hk => ?_) (fun hc hk => ?_)
    · refine k_iconst (pc := 39) h (x := (1 : Int32)) dX7_parted_39 (by decide) ?_
      refine k_iload_n (pc := 40) h 1 dX7_parted_40 rfl ?_
      refine k_ishl (pc := 41) h dX7_parted_41 ?_
      refine k_sub h [0] (lv' := [(0, .ref 0)]) rfl ?_
      exact EJ42 _ _ hk
    · refine k_aload_n (pc := 27) h 0 dX7_parted_27 rfl ?_
      refine k_getr (pc := 28) h fl_X7_10 ly_0 rfl dX7_parted_28 ?_
      obtain ⟨p6, hc5, hk⟩ := bd_some hk
      refine k_callV1 (pc := 31) h (c_X6_allSets st_1 hc5) cw_X7_192 ly_1 rfl ⟨⟨by decide, by decide⟩, Nat.zero_le _, Nat.zero_le _⟩ rfl (Nat.le_of_ble_eq_true rfl) dX7_parted_31 ?_
      refine k_iconst (pc := 34) h (x := (1 : Int32)) dX7_parted_34 (by decide) ?_
      refine k_isub (pc := 35) h dX7_parted_35 ?_
      refine k_goto (tgt := 42) (pc := 36) h dX7_parted_36 rfl ?_
      refine k_sub h [0] (lv' := [(0, .ref 0)]) rfl ?_
      exact EJ42 _ _ hk
  refine k_iload_n (pc := 0) h 1 dX7_parted_0 rfl ?_
  refine k_iconst (pc := 1) h (x := (-1 : Int32)) dX7_parted_1 (by decide) ?_
  refine k_icmp_eq (tgt := 22) (pc := 2) h dX7_parted_2 rfl hk (fun hc hk => ?_) (fun hc hk => ?_)
  · exact EJ22 _ _ hk
  · refine k_aload_n (pc := 5) h 0 dX7_parted_5 rfl ?_
    refine k_iload_n (pc := 6) h 1 dX7_parted_6 rfl ?_
    obtain ⟨p8, hc7, hk⟩ := bd_some hk
    refine k_callV1 (pc := 7) h (c_X7_isQuestion hc7) cw_X7_102 ly_0 rfl ⟨⟨by decide, by decide⟩, Nat.zero_le _, Nat.zero_le _⟩ rfl (Nat.le_of_ble_eq_true rfl) dX7_parted_7 ?_
    refine k_if_ne (tgt := 22) (pc := 10) h dX7_parted_10 rfl hk (fun hc hk => ?_) (fun hc hk => ?_)
    · exact EJ22 _ _ hk
    · refine k_aload_n (pc := 13) h 0 dX7_parted_13 rfl ?_
      refine k_bipush (pc := 14) h (x := (-2 : Int32)) dX7_parted_14 (by decide) ?_
      refine k_bipush (pc := 16) h (x := (-10 : Int32)) dX7_parted_16 (by decide) ?_
      obtain ⟨p10, hc9, hk⟩ := bd_some hk
      refine k_callV1 (pc := 18) h (c_X7_refuse hc9) cw_X7_79 ly_0 rfl ⟨⟨by decide, by decide⟩, Nat.zero_le _, Nat.zero_le _⟩ rfl (Nat.le_of_ble_eq_true rfl) dX7_parted_18 ?_
      have hk := Option.some.inj hk
      subst hk
      exact k_iret (pc := 21) h dX7_parted_21 ⟨rfl, rfl, rfl, rfl, rfl, ⟨.int, rfl, rfl⟩⟩
def f_X7_question_j29 (w : WW) : Option (Int32 × WW) := (f_X7_refuse w (-2 : Int32) (-2 : Int32)).bind (fun p4 => some (p4.1, p4.2))
def f_X7_question (w : WW) (l1 : Int32) (l2 : Int32) (l3 : Int32) : Option (Int32 × WW) := (f_X7_within w l1 (0 : Int32) (5 : Int32)).bind (fun p2 => if p2 = 0 then f_X7_question_j29 w else (f_X7_within w l2 (0 : Int32) (15 : Int32)).bind (fun p6 => if p6 = 0 then f_X7_question_j29 w else (f_X7_within w l3 (0 : Int32) (99 : Int32)).bind (fun p8 => if p8 = 0 then f_X7_question_j29 w else if (w.1 1 1) < (7 : Int32) then (f_X6_addQuestion 1 w l1 l2 l3).bind (fun p10 => some (((p10.1 1 1) - (1 : Int32)), p10)) else (f_X7_refuse w (-4 : Int32) (-4 : Int32)).bind (fun p12 => some (p12.1, p12.2)))))
set_option maxRecDepth 20000 in
set_option maxHeartbeats 4000000 in
theorem c_X7_question {w : WW} {l1 : Int32} {l2 : Int32} {l3 : Int32} {z : Int32 × WW} (hk : f_X7_question w l1 l2 l3 = some z) : Cn 5 yX7_question cX7_question 4 (some .int) LAY [.ref 0, .int l1, .int l2, .int l3] w (some (.int z.1)) z.2 := by
  refine Cn.of (by decide +kernel) (Nat.le_of_ble_eq_true rfl) (fun G h => ?_)
  have h : Rules cX7_question RX7 "question" 4 (rmd 5 0 0) none _ _ LAY 0 0 G := h
  show G 0 [(0, .ref 0), (1, .int l1), (2, .int l2), (3, .int l3)] [] w
  unfold f_X7_question at hk
  have EJ29 : ∀ (w : WW), f_X7_question_j29 w = some z → G 29 [(0, .ref 0)] [] w := by
    intro w hk
    unfold f_X7_question_j29 at hk
    refine k_aload_n (pc := 29) h 0 dX7_question_29 rfl ?_
    refine k_bipush (pc := 30) h (x := (-2 : Int32)) dX7_question_30 (by decide) ?_
    refine k_bipush (pc := 32) h (x := (-2 : Int32)) dX7_question_32 (by decide) ?_
    obtain ⟨p4, hc3, hk⟩ := bd_some hk
    refine k_callV1 (pc := 34) h (c_X7_refuse hc3) cw_X7_79 ly_0 rfl ⟨⟨by decide, by decide⟩, Nat.zero_le _, Nat.zero_le _⟩ rfl (Nat.le_of_ble_eq_true rfl) dX7_question_34 ?_
    have hk := Option.some.inj hk
    subst hk
    exact k_iret (pc := 37) h dX7_question_37 ⟨rfl, rfl, rfl, rfl, rfl, ⟨.int, rfl, rfl⟩⟩
  refine k_iload_n (pc := 0) h 1 dX7_question_0 rfl ?_
  refine k_iconst (pc := 1) h (x := (0 : Int32)) dX7_question_1 (by decide) ?_
  refine k_iconst (pc := 2) h (x := (5 : Int32)) dX7_question_2 (by decide) ?_
  obtain ⟨p2, hc1, hk⟩ := bd_some hk
  refine k_callS1 (pc := 3) h (c_X7_within hc1) cw_X7_75 ⟨⟨by decide, by decide⟩, Nat.zero_le _, Nat.zero_le _⟩ rfl (Nat.le_of_ble_eq_true rfl) dX7_question_3 ?_
  refine k_if_eq (tgt := 29) (pc := 6) h dX7_question_6 rfl hk (fun hc hk => ?_) (fun hc hk => ?_)
  · refine k_sub h [0] (lv' := [(0, .ref 0)]) rfl ?_
    exact EJ29 _ hk
  · refine k_iload_n (pc := 9) h 2 dX7_question_9 rfl ?_
    refine k_iconst (pc := 10) h (x := (0 : Int32)) dX7_question_10 (by decide) ?_
    refine k_bipush (pc := 11) h (x := (15 : Int32)) dX7_question_11 (by decide) ?_
    obtain ⟨p6, hc5, hk⟩ := bd_some hk
    refine k_callS1 (pc := 13) h (c_X7_within hc5) cw_X7_75 ⟨⟨by decide, by decide⟩, Nat.zero_le _, Nat.zero_le _⟩ rfl (Nat.le_of_ble_eq_true rfl) dX7_question_13 ?_
    refine k_if_eq (tgt := 29) (pc := 16) h dX7_question_16 rfl hk (fun hc hk => ?_) (fun hc hk => ?_)
    · refine k_sub h [0] (lv' := [(0, .ref 0)]) rfl ?_
      exact EJ29 _ hk
    · refine k_iload_n (pc := 19) h 3 dX7_question_19 rfl ?_
      refine k_iconst (pc := 20) h (x := (0 : Int32)) dX7_question_20 (by decide) ?_
      refine k_bipush (pc := 21) h (x := (99 : Int32)) dX7_question_21 (by decide) ?_
      obtain ⟨p8, hc7, hk⟩ := bd_some hk
      refine k_callS1 (pc := 23) h (c_X7_within hc7) cw_X7_75 ⟨⟨by decide, by decide⟩, Nat.zero_le _, Nat.zero_le _⟩ rfl (Nat.le_of_ble_eq_true rfl) dX7_question_23 ?_
      refine k_if_ne (tgt := 38) (pc := 26) h dX7_question_26 rfl hk (fun hc hk => ?_) (fun hc hk => ?_)
      · refine k_aload_n (pc := 38) h 0 dX7_question_38 rfl ?_
        refine k_getr (pc := 39) h fl_X7_10 ly_0 rfl dX7_question_39 ?_
        refine k_geti (pc := 42) h fl_X7_83 ly_1 rfl dX7_question_42 ?_
        refine k_bipush (pc := 45) h (x := (7 : Int32)) dX7_question_45 (by decide) ?_
        refine k_icmp_lt (tgt := 59) (pc := 47) h dX7_question_47 rfl hk (fun hc hk => ?_) (fun hc hk => ?_)
        · refine k_aload_n (pc := 59) h 0 dX7_question_59 rfl ?_
          refine k_getr (pc := 60) h fl_X7_10 ly_0 rfl dX7_question_60 ?_
          refine k_iload_n (pc := 63) h 1 dX7_question_63 rfl ?_
          refine k_iload_n (pc := 64) h 2 dX7_question_64 rfl ?_
          refine k_iload_n (pc := 65) h 3 dX7_question_65 rfl ?_
          obtain ⟨p10, hc9, hk⟩ := bd_some hk
          refine k_callV0 (pc := 66) h (c_X6_addQuestion st_1 hc9) cw_X7_98 ly_1 rfl ⟨⟨by decide, by decide⟩, Nat.zero_le _, Nat.zero_le _⟩ rfl (Nat.le_of_ble_eq_true rfl) dX7_question_66 ?_
          refine k_aload_n (pc := 69) h 0 dX7_question_69 rfl ?_
          refine k_getr (pc := 70) h fl_X7_10 ly_0 rfl dX7_question_70 ?_
          refine k_geti (pc := 73) h fl_X7_83 ly_1 rfl dX7_question_73 ?_
          refine k_iconst (pc := 76) h (x := (1 : Int32)) dX7_question_76 (by decide) ?_
          refine k_isub (pc := 77) h dX7_question_77 ?_
          have hk := Option.some.inj hk
          subst hk
          exact k_iret (pc := 78) h dX7_question_78 ⟨rfl, rfl, rfl, rfl, rfl, ⟨.int, rfl, rfl⟩⟩
        · refine k_aload_n (pc := 50) h 0 dX7_question_50 rfl ?_
          refine k_bipush (pc := 51) h (x := (-4 : Int32)) dX7_question_51 (by decide) ?_
          refine k_bipush (pc := 53) h (x := (-4 : Int32)) dX7_question_53 (by decide) ?_
          obtain ⟨p12, hc11, hk⟩ := bd_some hk
          refine k_callV1 (pc := 55) h (c_X7_refuse hc11) cw_X7_79 ly_0 rfl ⟨⟨by decide, by decide⟩, Nat.zero_le _, Nat.zero_le _⟩ rfl (Nat.le_of_ble_eq_true rfl) dX7_question_55 ?_
          have hk := Option.some.inj hk
          subst hk
          exact k_iret (pc := 58) h dX7_question_58 ⟨rfl, rfl, rfl, rfl, rfl, ⟨.int, rfl, rfl⟩⟩
      · refine k_sub h [0] (lv' := [(0, .ref 0)]) rfl ?_
        exact EJ29 _ hk
def f_X7_row (w : WW) (l1 : Int32) : Option (Int32 × WW) := (f_X7_isRow w l1).bind (fun p2 => if p2 = 0 then (f_X7_refuse w (-2 : Int32) (-2 : Int32)).bind (fun p14 => some (p14.1, p14.2)) else (f_X6_fitting 1 w (0 : Int32)).bind (fun p4 => if p4 = 0 then (f_X7_refuse w (-3 : Int32) (-3 : Int32)).bind (fun p12 => some (p12.1, p12.2)) else (f_X5_weighedPence 1 w p4 l1).bind (fun p6 => (f_X6_weightOf 1 w p4).bind (fun p8 => (f_X1_become w ((p6).toInt64) ((p8).toInt64)).bind (fun p10 => some ((1 : Int32), p10))))))
set_option maxRecDepth 20000 in
set_option maxHeartbeats 4000000 in
theorem c_X7_row {w : WW} {l1 : Int32} {z : Int32 × WW} (hk : f_X7_row w l1 = some z) : Cn 5 yX7_row cX7_row 3 (some .int) LAY [.ref 0, .int l1] w (some (.int z.1)) z.2 := by
  refine Cn.of (by decide +kernel) (Nat.le_of_ble_eq_true rfl) (fun G h => ?_)
  have h : Rules cX7_row RX7 "row" 3 (rmd 5 0 0) none _ _ LAY 0 0 G := h
  show G 0 [(0, .ref 0), (1, .int l1)] [] w
  unfold f_X7_row at hk
  refine k_aload_n (pc := 0) h 0 dX7_row_0 rfl ?_
  refine k_iload_n (pc := 1) h 1 dX7_row_1 rfl ?_
  obtain ⟨p2, hc1, hk⟩ := bd_some hk
  refine k_callV1 (pc := 2) h (c_X7_isRow hc1) cw_X7_202 ly_0 rfl ⟨⟨by decide, by decide⟩, Nat.zero_le _, Nat.zero_le _⟩ rfl (Nat.le_of_ble_eq_true rfl) dX7_row_2 ?_
  refine k_if_ne (tgt := 17) (pc := 5) h dX7_row_5 rfl hk (fun hc hk => ?_) (fun hc hk => ?_)
  · refine k_aload_n (pc := 17) h 0 dX7_row_17 rfl ?_
    refine k_getr (pc := 18) h fl_X7_10 ly_0 rfl dX7_row_18 ?_
    refine k_iconst (pc := 21) h (x := (0 : Int32)) dX7_row_21 (by decide) ?_
    obtain ⟨p4, hc3, hk⟩ := bd_some hk
    refine k_callV1 (pc := 22) h (c_X6_fitting st_1 hc3) cw_X7_135 ly_1 rfl ⟨⟨by decide, by decide⟩, Nat.zero_le _, Nat.zero_le _⟩ rfl (Nat.le_of_ble_eq_true rfl) dX7_row_22 ?_
    refine k_istore_n (pc := 25) h [1, 2, 0] (lv' := [(0, .ref 0), (1, .int l1), (2, .int p4)]) dX7_row_25 rfl (by decide) rfl ?_
    refine k_iload_n (pc := 26) h 2 dX7_row_26 rfl ?_
    refine k_if_ne (tgt := 39) (pc := 27) h dX7_row_27 rfl hk (fun hc hk => ?_) (fun hc hk => ?_)
    · refine k_aload_n (pc := 39) h 0 dX7_row_39 rfl ?_
      refine k_getr (pc := 40) h fl_X7_36 ly_0 rfl dX7_row_40 ?_
      refine k_aload_n (pc := 43) h 0 dX7_row_43 rfl ?_
      refine k_getr (pc := 44) h fl_X7_64 ly_0 rfl dX7_row_44 ?_
      refine k_aload_n (pc := 47) h 0 dX7_row_47 rfl ?_
      refine k_getr (pc := 48) h fl_X7_10 ly_0 rfl dX7_row_48 ?_
      refine k_iload_n (pc := 51) h 2 dX7_row_51 rfl ?_
      refine k_iload_n (pc := 52) h 1 dX7_row_52 rfl ?_
      obtain ⟨p6, hc5, hk⟩ := bd_some hk
      refine k_callV1 (pc := 53) h (c_X5_weighedPence st_1 hc5) cw_X7_205 ly_43 rfl ⟨⟨by decide, by decide⟩, Nat.zero_le _, Nat.zero_le _⟩ rfl (Nat.le_of_ble_eq_true rfl) dX7_row_53 ?_
      refine k_i2l (pc := 56) h dX7_row_56 ?_
      refine k_aload_n (pc := 57) h 0 dX7_row_57 rfl ?_
      refine k_getr (pc := 58) h fl_X7_10 ly_0 rfl dX7_row_58 ?_
      refine k_iload_n (pc := 61) h 2 dX7_row_61 rfl ?_
      obtain ⟨p8, hc7, hk⟩ := bd_some hk
      refine k_callV1 (pc := 62) h (c_X6_weightOf st_1 hc7) cw_X7_209 ly_1 rfl ⟨⟨by decide, by decide⟩, Nat.zero_le _, Nat.zero_le _⟩ rfl (Nat.le_of_ble_eq_true rfl) dX7_row_62 ?_
      refine k_i2l (pc := 65) h dX7_row_65 ?_
      obtain ⟨p10, hc9, hk⟩ := bd_some hk
      refine k_callV0 (pc := 66) h (c_X1_become hc9) cw_X7_212 ly_36 rfl ⟨⟨by decide, by decide⟩, Nat.zero_le _, Nat.zero_le _⟩ rfl (Nat.le_of_ble_eq_true rfl) dX7_row_66 ?_
      refine k_iconst (pc := 69) h (x := (1 : Int32)) dX7_row_69 (by decide) ?_
      have hk := Option.some.inj hk
      subst hk
      exact k_iret (pc := 70) h dX7_row_70 ⟨rfl, rfl, rfl, rfl, rfl, ⟨.int, rfl, rfl⟩⟩
    · refine k_aload_n (pc := 30) h 0 dX7_row_30 rfl ?_
      refine k_bipush (pc := 31) h (x := (-3 : Int32)) dX7_row_31 (by decide) ?_
      refine k_bipush (pc := 33) h (x := (-3 : Int32)) dX7_row_33 (by decide) ?_
      obtain ⟨p12, hc11, hk⟩ := bd_some hk
      refine k_callV1 (pc := 35) h (c_X7_refuse hc11) cw_X7_79 ly_0 rfl ⟨⟨by decide, by decide⟩, Nat.zero_le _, Nat.zero_le _⟩ rfl (Nat.le_of_ble_eq_true rfl) dX7_row_35 ?_
      have hk := Option.some.inj hk
      subst hk
      exact k_iret (pc := 38) h dX7_row_38 ⟨rfl, rfl, rfl, rfl, rfl, ⟨.int, rfl, rfl⟩⟩
  · refine k_aload_n (pc := 8) h 0 dX7_row_8 rfl ?_
    refine k_bipush (pc := 9) h (x := (-2 : Int32)) dX7_row_9 (by decide) ?_
    refine k_bipush (pc := 11) h (x := (-2 : Int32)) dX7_row_11 (by decide) ?_
    obtain ⟨p14, hc13, hk⟩ := bd_some hk
    refine k_callV1 (pc := 13) h (c_X7_refuse hc13) cw_X7_79 ly_0 rfl ⟨⟨by decide, by decide⟩, Nat.zero_le _, Nat.zero_le _⟩ rfl (Nat.le_of_ble_eq_true rfl) dX7_row_13 ?_
    have hk := Option.some.inj hk
    subst hk
    exact k_iret (pc := 16) h dX7_row_16 ⟨rfl, rfl, rfl, rfl, rfl, ⟨.int, rfl, rfl⟩⟩
def f_X7_same_j90 (w : WW) (l1 : Int32) (l2 : Int32) (l3 : Int32) (l4 : Int32) (l5 : Int32) : Option ((Int32 × Int32) ⊕ ((Int32) ⊕ (Int32))) := some (.inl (l3, (l5 + (1 : Int32))))
def f_X7_same_b46 (w : WW) (l1 : Int32) (l2 : Int32) (l4 : Int32) (l3 : Int32) (l5 : Int32) : Option ((Int32 × Int32) ⊕ ((Int32) ⊕ (Int32))) := if (w.1 1 1) ≤ l5 then some (.inr (.inr l3)) else (f_X6_partAlike 1 w l4 l5 l2).bind (fun p5 => if p5 = 0 then f_X7_same_j90 w l1 l2 l3 l4 l5 else if l3 = l1 then some (.inr (.inl l5)) else f_X7_same_j90 w l1 l2 (l3 + (1 : Int32)) l4 l5)
def f_X7_same_b28 (w : WW) (l1 : Int32) (l2 : Int32) (l3 : Int32) (l4 : Int32) : Option ((Int32 × Int32) ⊕ ((Int32 × Int32) ⊕ (Int32))) := if (w.1 1 1) ≤ l4 then some (.inr (.inr l3)) else nmv (l4 + (1 : Int32)) (fun v3 => (lpf (fun s : Int32 × Int32 => f_X7_same_b46 w l1 l2 l4 s.1 s.2) FU (l3, v3)).bind (Sum.elim (fun r6 => some (.inr (.inl (l4, r6)))) (fun r6 => some (.inl (r6, (l4 + (1 : Int32)))))))
def f_X7_same (w : WW) (l1 : Int32) : Option (Int32 × WW) := if (-1 : Int32) ≤ l1 then (f_X6_fitting 1 w (0 : Int32)).bind (fun p2 => (lpf (fun s : Int32 × Int32 => f_X7_same_b28 w l1 p2 s.1 s.2) FU ((0 : Int32), (0 : Int32))).bind (Sum.elim (fun r8 => some ((((10 : Int32) * r8.1) + r8.2), w)) (fun r8 => if l1 = (-1 : Int32) then some (r8, w) else some ((-5 : Int32), w)))) else (f_X7_refuse w (-2 : Int32) (-10 : Int32)).bind (fun p11 => some (p11.1, p11.2))
set_option maxRecDepth 20000 in
set_option maxHeartbeats 4000000 in
theorem c_X7_same {w : WW} {l1 : Int32} {z : Int32 × WW} (hk : f_X7_same w l1 = some z) : Cn 5 yX7_same cX7_same 6 (some .int) LAY [.ref 0, .int l1] w (some (.int z.1)) z.2 := by
  refine Cn.of (by decide +kernel) (Nat.le_of_ble_eq_true rfl) (fun G h => ?_)
  have h : Rules cX7_same RX7 "same" 6 (rmd 5 0 0) none _ _ LAY 0 0 G := h
  show G 0 [(0, .ref 0), (1, .int l1)] [] w
  unfold f_X7_same at hk
  have EJ90 : ∀ (w : WW) (l1 : Int32) (l2 : Int32) (l3 : Int32) (l4 : Int32) (l5 : Int32) (z : (Int32 × Int32) ⊕ ((Int32) ⊕ (Int32))), f_X7_same_j90 w l1 l2 l3 l4 l5 = some z → Sum.elim (fun s : Int32 × Int32 => G 46 [(0, .ref 0), (1, .int l1), (2, .int l2), (3, .int s.1), (4, .int l4), (5, .int s.2)] [] w) (Sum.elim (fun r : Int32 => G 78 [(4, .int l4), (5, .int r)] [] w) (fun r : Int32 => G 96 [(0, .ref 0), (1, .int l1), (2, .int l2), (3, .int r), (4, .int l4)] [] w)) z → G 90 [(0, .ref 0), (1, .int l1), (2, .int l2), (3, .int l3), (4, .int l4), (5, .int l5)] [] w := by
    intro w l1 l2 l3 l4 l5 z hk hz
    unfold f_X7_same_j90 at hk
    refine k_iinc (pc := 90) h 5 [1, 2, 3, 4, 5, 0] (v := (l5 + (1 : Int32))) (lv' := [(0, .ref 0), (1, .int l1), (2, .int l2), (3, .int l3), (4, .int l4), (5, .int (l5 + (1 : Int32)))]) dX7_same_90 rfl rfl (by decide) rfl ?_
    refine k_goto (tgt := 46) (pc := 93) h dX7_same_93 rfl ?_
    have hk := Option.some.inj hk
    subst hk
    exact hz
  have LB46 : ∀ (w : WW) (l1 : Int32) (l2 : Int32) (l4 : Int32), ∀ (nn : Nat) (s : Int32 × Int32) (r : (Int32) ⊕ (Int32)), lpf (fun s : Int32 × Int32 => f_X7_same_b46 w l1 l2 l4 s.1 s.2) nn s = some r → (Sum.elim (fun r : Int32 => G 78 [(4, .int l4), (5, .int r)] [] w) (fun r : Int32 => G 96 [(0, .ref 0), (1, .int l1), (2, .int l2), (3, .int r), (4, .int l4)] [] w)) r → (fun s : Int32 × Int32 => G 46 [(0, .ref 0), (1, .int l1), (2, .int l2), (3, .int s.1), (4, .int l4), (5, .int s.2)] [] w) s := by
    intro w l1 l2 l4
    refine lpf_ind (fun s : Int32 × Int32 => G 46 [(0, .ref 0), (1, .int l1), (2, .int l2), (3, .int s.1), (4, .int l4), (5, .int s.2)] [] w) (Sum.elim (fun r : Int32 => G 78 [(4, .int l4), (5, .int r)] [] w) (fun r : Int32 => G 96 [(0, .ref 0), (1, .int l1), (2, .int l2), (3, .int r), (4, .int l4)] [] w)) ?_
    rintro ⟨l3, l5⟩ z hk hz
    have hk : f_X7_same_b46 w l1 l2 l4 l3 l5 = some z := hk
    unfold f_X7_same_b46 at hk
    show G 46 [(0, .ref 0), (1, .int l1), (2, .int l2), (3, .int l3), (4, .int l4), (5, .int l5)] [] w
    refine k_iload (pc := 46) h 5 dX7_same_46 rfl ?_
    refine k_aload_n (pc := 48) h 0 dX7_same_48 rfl ?_
    refine k_getr (pc := 49) h fl_X7_10 ly_0 rfl dX7_same_49 ?_
    refine k_geti (pc := 52) h fl_X7_83 ly_1 rfl dX7_same_52 ?_
    refine k_icmp_ge (tgt := 96) (pc := 55) h dX7_same_55 rfl hk (fun hc hk => ?_) (fun hc hk => ?_)
    · refine k_sub h [0, 1, 2, 3, 4] (lv' := [(0, .ref 0), (1, .int l1), (2, .int l2), (3, .int l3), (4, .int l4)]) rfl ?_
      have hk := Option.some.inj hk
      subst hk
      exact hz
    · refine k_aload_n (pc := 58) h 0 dX7_same_58 rfl ?_
      refine k_getr (pc := 59) h fl_X7_10 ly_0 rfl dX7_same_59 ?_
      refine k_iload (pc := 62) h 4 dX7_same_62 rfl ?_
      refine k_iload (pc := 64) h 5 dX7_same_64 rfl ?_
      refine k_iload_n (pc := 66) h 2 dX7_same_66 rfl ?_
      obtain ⟨p5, hc4, hk⟩ := bd_some hk
      refine k_callV1 (pc := 67) h (c_X6_partAlike st_1 hc4) cw_X7_166 ly_1 rfl ⟨⟨by decide, by decide⟩, Nat.zero_le _, Nat.zero_le _⟩ rfl (Nat.le_of_ble_eq_true rfl) dX7_same_67 ?_
      refine k_if_eq (tgt := 90) (pc := 70) h dX7_same_70 rfl hk (fun hc hk => ?_) (fun hc hk => ?_)
      · exact EJ90 _ _ _ _ _ _ _ hk hz
      · refine k_iload_n (pc := 73) h 3 dX7_same_73 rfl ?_
        refine k_iload_n (pc := 74) h 1 dX7_same_74 rfl ?_
        refine k_icmp_ne (tgt := 87) (pc := 75) h dX7_same_75 rfl hk (fun hc hk => ?_) (fun hc hk => ?_)
        · refine k_iinc (pc := 87) h 3 [1, 2, 3, 0, 4, 5] (v := (l3 + (1 : Int32))) (lv' := [(0, .ref 0), (1, .int l1), (2, .int l2), (3, .int (l3 + (1 : Int32))), (4, .int l4), (5, .int l5)]) dX7_same_87 rfl rfl (by decide) rfl ?_
          exact EJ90 _ _ _ _ _ _ _ hk hz
        · refine k_sub h [4, 5] (lv' := [(4, .int l4), (5, .int l5)]) rfl ?_
          have hk := Option.some.inj hk
          subst hk
          exact hz
  have LB28 : ∀ (w : WW) (l1 : Int32) (l2 : Int32), ∀ (nn : Nat) (s : Int32 × Int32) (r : (Int32 × Int32) ⊕ (Int32)), lpf (fun s : Int32 × Int32 => f_X7_same_b28 w l1 l2 s.1 s.2) nn s = some r → (Sum.elim (fun r : Int32 × Int32 => G 78 [(4, .int r.1), (5, .int r.2)] [] w) (fun r : Int32 => G 102 [(1, .int l1), (3, .int r)] [] w)) r → (fun s : Int32 × Int32 => G 28 [(0, .ref 0), (1, .int l1), (2, .int l2), (3, .int s.1), (4, .int s.2)] [] w) s := by
    intro w l1 l2
    refine lpf_ind (fun s : Int32 × Int32 => G 28 [(0, .ref 0), (1, .int l1), (2, .int l2), (3, .int s.1), (4, .int s.2)] [] w) (Sum.elim (fun r : Int32 × Int32 => G 78 [(4, .int r.1), (5, .int r.2)] [] w) (fun r : Int32 => G 102 [(1, .int l1), (3, .int r)] [] w)) ?_
    rintro ⟨l3, l4⟩ z hk hz
    have hk : f_X7_same_b28 w l1 l2 l3 l4 = some z := hk
    unfold f_X7_same_b28 at hk
    show G 28 [(0, .ref 0), (1, .int l1), (2, .int l2), (3, .int l3), (4, .int l4)] [] w
    refine k_iload (pc := 28) h 4 dX7_same_28 rfl ?_
    refine k_aload_n (pc := 30) h 0 dX7_same_30 rfl ?_
    refine k_getr (pc := 31) h fl_X7_10 ly_0 rfl dX7_same_31 ?_
    refine k_geti (pc := 34) h fl_X7_83 ly_1 rfl dX7_same_34 ?_
    refine k_icmp_ge (tgt := 102) (pc := 37) h dX7_same_37 rfl hk (fun hc hk => ?_) (fun hc hk => ?_)
    · refine k_sub h [1, 3] (lv' := [(1, .int l1), (3, .int l3)]) rfl ?_
      have hk := Option.some.inj hk
      subst hk
      exact hz
    · refine k_iload (pc := 40) h 4 dX7_same_40 rfl ?_
      refine k_iconst (pc := 42) h (x := (1 : Int32)) dX7_same_42 (by decide) ?_
      refine k_iadd (pc := 43) h dX7_same_43 ?_
      refine k_nmi (pc := 44) h hk (fun v3 hk => ?_)
      refine k_istore (pc := 44) h [1, 2, 3, 4, 5, 0] (lv' := [(0, .ref 0), (1, .int l1), (2, .int l2), (3, .int l3), (4, .int l4), (5, .int v3)]) dX7_same_44 (by decide) rfl ?_
      obtain ⟨r6, hl7, hk⟩ := bd_some hk
      refine LB46 _ _ _ _ _ _ _ hl7 ?_
      rcases r6 with r6 | r6
      · replace hk := elim_l hk
        show G 78 [(4, .int l4), (5, .int r6)] [] w
        have hk := Option.some.inj hk
        subst hk
        exact hz
      · replace hk := elim_r hk
        show G 96 [(0, .ref 0), (1, .int l1), (2, .int l2), (3, .int r6), (4, .int l4)] [] w
        refine k_iinc (pc := 96) h 4 [1, 2, 3, 4, 0] (v := (l4 + (1 : Int32))) (lv' := [(0, .ref 0), (1, .int l1), (2, .int l2), (3, .int r6), (4, .int (l4 + (1 : Int32)))]) dX7_same_96 rfl rfl (by decide) rfl ?_
        refine k_goto (tgt := 28) (pc := 99) h dX7_same_99 rfl ?_
        have hk := Option.some.inj hk
        subst hk
        exact hz
  refine k_iload_n (pc := 0) h 1 dX7_same_0 rfl ?_
  refine k_iconst (pc := 1) h (x := (-1 : Int32)) dX7_same_1 (by decide) ?_
  refine k_icmp_ge (tgt := 14) (pc := 2) h dX7_same_2 rfl hk (fun hc hk => ?_) (fun hc hk => ?_)
  · refine k_aload_n (pc := 14) h 0 dX7_same_14 rfl ?_
    refine k_getr (pc := 15) h fl_X7_10 ly_0 rfl dX7_same_15 ?_
    refine k_iconst (pc := 18) h (x := (0 : Int32)) dX7_same_18 (by decide) ?_
    obtain ⟨p2, hc1, hk⟩ := bd_some hk
    refine k_callV1 (pc := 19) h (c_X6_fitting st_1 hc1) cw_X7_135 ly_1 rfl ⟨⟨by decide, by decide⟩, Nat.zero_le _, Nat.zero_le _⟩ rfl (Nat.le_of_ble_eq_true rfl) dX7_same_19 ?_
    refine k_istore_n (pc := 22) h [1, 2, 0] (lv' := [(0, .ref 0), (1, .int l1), (2, .int p2)]) dX7_same_22 rfl (by decide) rfl ?_
    refine k_iconst (pc := 23) h (x := (0 : Int32)) dX7_same_23 (by decide) ?_
    refine k_istore_n (pc := 24) h [1, 2, 3, 0] (lv' := [(0, .ref 0), (1, .int l1), (2, .int p2), (3, .int (0 : Int32))]) dX7_same_24 rfl (by decide) rfl ?_
    refine k_iconst (pc := 25) h (x := (0 : Int32)) dX7_same_25 (by decide) ?_
    refine k_istore (pc := 26) h [1, 2, 3, 4, 0] (lv' := [(0, .ref 0), (1, .int l1), (2, .int p2), (3, .int (0 : Int32)), (4, .int (0 : Int32))]) dX7_same_26 (by decide) rfl ?_
    obtain ⟨r8, hl9, hk⟩ := bd_some hk
    refine LB28 _ _ _ _ _ _ hl9 ?_
    rcases r8 with r8 | r8
    · replace hk := elim_l hk
      show G 78 [(4, .int r8.1), (5, .int r8.2)] [] w
      refine k_bipush (pc := 78) h (x := (10 : Int32)) dX7_same_78 (by decide) ?_
      refine k_iload (pc := 80) h 0 dX7_same_80 rfl ?_
      refine k_imul (pc := 82) h dX7_same_82 ?_
      refine k_iload (pc := 83) h 1 dX7_same_83 rfl ?_
      refine k_iadd (pc := 85) h dX7_same_85 ?_
      have hk := Option.some.inj hk
      subst hk
      exact k_iret (pc := 86) h dX7_same_86 ⟨rfl, rfl, rfl, rfl, rfl, ⟨.int, rfl, rfl⟩⟩
    · replace hk := elim_r hk
      show G 102 [(1, .int l1), (3, .int r8)] [] w
      refine k_iload_n (pc := 102) h 0 dX7_same_102 rfl ?_
      refine k_iconst (pc := 103) h (x := (-1 : Int32)) dX7_same_103 (by decide) ?_
      refine k_icmp_ne (tgt := 111) (pc := 104) h dX7_same_104 rfl hk (fun hc hk => ?_) (fun hc hk => ?_)
      · refine k_bipush (pc := 111) h (x := (-5 : Int32)) dX7_same_111 (by decide) ?_
        have hk := Option.some.inj hk
        subst hk
        exact k_iret (pc := 113) h dX7_same_113 ⟨rfl, rfl, rfl, rfl, rfl, ⟨.int, rfl, rfl⟩⟩
      · refine k_iload_n (pc := 107) h 1 dX7_same_107 rfl ?_
        refine k_goto (tgt := 113) (pc := 108) h dX7_same_108 rfl ?_
        have hk := Option.some.inj hk
        subst hk
        exact k_iret (pc := 113) h dX7_same_113 ⟨rfl, rfl, rfl, rfl, rfl, ⟨.int, rfl, rfl⟩⟩
  · refine k_aload_n (pc := 5) h 0 dX7_same_5 rfl ?_
    refine k_bipush (pc := 6) h (x := (-2 : Int32)) dX7_same_6 (by decide) ?_
    refine k_bipush (pc := 8) h (x := (-10 : Int32)) dX7_same_8 (by decide) ?_
    obtain ⟨p11, hc10, hk⟩ := bd_some hk
    refine k_callV1 (pc := 10) h (c_X7_refuse hc10) cw_X7_79 ly_0 rfl ⟨⟨by decide, by decide⟩, Nat.zero_le _, Nat.zero_le _⟩ rfl (Nat.le_of_ble_eq_true rfl) dX7_same_10 ?_
    have hk := Option.some.inj hk
    subst hk
    exact k_iret (pc := 13) h dX7_same_13 ⟨rfl, rfl, rfl, rfl, rfl, ⟨.int, rfl, rfl⟩⟩
def f_X7_stalls_j20 (w : WW) : Option (Int32 × WW) := (f_X7_refuse w (-2 : Int32) (-2 : Int32)).bind (fun p4 => some (p4.1, p4.2))
def f_X7_stalls_j53 (w : WW) : Option (Int32 × WW) := (f_X7_refuse w (-3 : Int32) (-3 : Int32)).bind (fun p10 => some (p10.1, p10.2))
def f_X7_stalls_b77 (l2 : Int32) (l3 : Int32) (l4 : Int32) (l5 : Int32) (w : WW) : Option ((Int32 × Int32 × WW) ⊕ (Int32 × WW)) := if l2 ≤ l5 then some (.inr (l4, w)) else (f_X0_oneStall 1 w l3).bind (fun p13 => nmv (l4 + p13.1) (fun v14 => some (.inl (v14, (l5 + (1 : Int32)), p13.2))))
def f_X7_stalls (w : WW) (l1 : Int32) (l2 : Int32) : Option (Int32 × WW) := (f_X7_within w l1 (0 : Int32) (999999 : Int32)).bind (fun p2 => if p2 = 0 then f_X7_stalls_j20 w else (f_X7_within w l2 (0 : Int32) (60 : Int32)).bind (fun p6 => if p6 = 0 then f_X7_stalls_j20 w else (f_X6_fitting 1 w (0 : Int32)).bind (fun p8 => if p8 = 0 then f_X7_stalls_j53 w else if (1 : Int32) ≤ (w.1 1 1) then stL w 45 0 ((l1).toInt64) (fun u11 => (lpf (fun s : Int32 × Int32 × WW => f_X7_stalls_b77 l2 p8 s.1 s.2.1 s.2.2) FU ((0 : Int32), (0 : Int32), u11)).bind (fun r15 => some (r15.1, r15.2))) else f_X7_stalls_j53 w)))
set_option maxRecDepth 20000 in
set_option maxHeartbeats 4000000 in
theorem c_X7_stalls {w : WW} {l1 : Int32} {l2 : Int32} {z : Int32 × WW} (hk : f_X7_stalls w l1 l2 = some z) : Cn 5 yX7_stalls cX7_stalls 6 (some .int) LAY [.ref 0, .int l1, .int l2] w (some (.int z.1)) z.2 := by
  refine Cn.of (by decide +kernel) (Nat.le_of_ble_eq_true rfl) (fun G h => ?_)
  have h : Rules cX7_stalls RX7 "stalls" 6 (rmd 5 0 0) none _ _ LAY 0 0 G := h
  show G 0 [(0, .ref 0), (1, .int l1), (2, .int l2)] [] w
  unfold f_X7_stalls at hk
  have EJ20 : ∀ (w : WW), f_X7_stalls_j20 w = some z → G 20 [(0, .ref 0)] [] w := by
    intro w hk
    unfold f_X7_stalls_j20 at hk
    refine k_aload_n (pc := 20) h 0 dX7_stalls_20 rfl ?_
    refine k_bipush (pc := 21) h (x := (-2 : Int32)) dX7_stalls_21 (by decide) ?_
    refine k_bipush (pc := 23) h (x := (-2 : Int32)) dX7_stalls_23 (by decide) ?_
    obtain ⟨p4, hc3, hk⟩ := bd_some hk
    refine k_callV1 (pc := 25) h (c_X7_refuse hc3) cw_X7_79 ly_0 rfl ⟨⟨by decide, by decide⟩, Nat.zero_le _, Nat.zero_le _⟩ rfl (Nat.le_of_ble_eq_true rfl) dX7_stalls_25 ?_
    have hk := Option.some.inj hk
    subst hk
    exact k_iret (pc := 28) h dX7_stalls_28 ⟨rfl, rfl, rfl, rfl, rfl, ⟨.int, rfl, rfl⟩⟩
  have EJ53 : ∀ (w : WW), f_X7_stalls_j53 w = some z → G 53 [(0, .ref 0)] [] w := by
    intro w hk
    unfold f_X7_stalls_j53 at hk
    refine k_aload_n (pc := 53) h 0 dX7_stalls_53 rfl ?_
    refine k_bipush (pc := 54) h (x := (-3 : Int32)) dX7_stalls_54 (by decide) ?_
    refine k_bipush (pc := 56) h (x := (-3 : Int32)) dX7_stalls_56 (by decide) ?_
    obtain ⟨p10, hc9, hk⟩ := bd_some hk
    refine k_callV1 (pc := 58) h (c_X7_refuse hc9) cw_X7_79 ly_0 rfl ⟨⟨by decide, by decide⟩, Nat.zero_le _, Nat.zero_le _⟩ rfl (Nat.le_of_ble_eq_true rfl) dX7_stalls_58 ?_
    have hk := Option.some.inj hk
    subst hk
    exact k_iret (pc := 61) h dX7_stalls_61 ⟨rfl, rfl, rfl, rfl, rfl, ⟨.int, rfl, rfl⟩⟩
  have LB77 : ∀ (l2 : Int32) (l3 : Int32), ∀ (nn : Nat) (s : Int32 × Int32 × WW) (r : Int32 × WW), lpf (fun s : Int32 × Int32 × WW => f_X7_stalls_b77 l2 l3 s.1 s.2.1 s.2.2) nn s = some r → (fun r : Int32 × WW => G 106 [(4, .int r.1)] [] r.2) r → (fun s : Int32 × Int32 × WW => G 77 [(0, .ref 0), (2, .int l2), (3, .int l3), (4, .int s.1), (5, .int s.2.1)] [] s.2.2) s := by
    intro l2 l3
    refine lpf_ind (fun s : Int32 × Int32 × WW => G 77 [(0, .ref 0), (2, .int l2), (3, .int l3), (4, .int s.1), (5, .int s.2.1)] [] s.2.2) (fun r : Int32 × WW => G 106 [(4, .int r.1)] [] r.2) ?_
    rintro ⟨l4, l5, w⟩ z hk hz
    have hk : f_X7_stalls_b77 l2 l3 l4 l5 w = some z := hk
    unfold f_X7_stalls_b77 at hk
    show G 77 [(0, .ref 0), (2, .int l2), (3, .int l3), (4, .int l4), (5, .int l5)] [] w
    refine k_iload (pc := 77) h 4 dX7_stalls_77 rfl ?_
    refine k_iload_n (pc := 79) h 1 dX7_stalls_79 rfl ?_
    refine k_icmp_ge (tgt := 106) (pc := 80) h dX7_stalls_80 rfl hk (fun hc hk => ?_) (fun hc hk => ?_)
    · refine k_sub h [3] (lv' := [(4, .int l4)]) rfl ?_
      have hk := Option.some.inj hk
      subst hk
      exact hz
    · refine k_iload (pc := 83) h 3 dX7_stalls_83 rfl ?_
      refine k_aload_n (pc := 85) h 0 dX7_stalls_85 rfl ?_
      refine k_getr (pc := 86) h fl_X7_71 ly_0 rfl dX7_stalls_86 ?_
      refine k_aload_n (pc := 89) h 0 dX7_stalls_89 rfl ?_
      refine k_getr (pc := 90) h fl_X7_10 ly_0 rfl dX7_stalls_90 ?_
      refine k_iload_n (pc := 93) h 2 dX7_stalls_93 rfl ?_
      obtain ⟨p13, hc12, hk⟩ := bd_some hk
      refine k_callV1 (pc := 94) h (c_X0_oneStall st_1 hc12) cw_X7_237 ly_45 rfl ⟨⟨by decide, by decide⟩, Nat.zero_le _, Nat.zero_le _⟩ rfl (Nat.le_of_ble_eq_true rfl) dX7_stalls_94 ?_
      refine k_iadd (pc := 97) h dX7_stalls_97 ?_
      refine k_nmi (pc := 98) h hk (fun v14 hk => ?_)
      refine k_istore (pc := 98) h [1, 2, 3, 0, 4] (lv' := [(0, .ref 0), (2, .int l2), (3, .int l3), (4, .int v14), (5, .int l5)]) dX7_stalls_98 (by decide) rfl ?_
      refine k_iinc (pc := 100) h 4 [1, 2, 3, 4, 0] (v := (l5 + (1 : Int32))) (lv' := [(0, .ref 0), (2, .int l2), (3, .int l3), (4, .int v14), (5, .int (l5 + (1 : Int32)))]) dX7_stalls_100 rfl rfl (by decide) rfl ?_
      refine k_goto (tgt := 77) (pc := 103) h dX7_stalls_103 rfl ?_
      have hk := Option.some.inj hk
      subst hk
      exact hz
  refine k_iload_n (pc := 0) h 1 dX7_stalls_0 rfl ?_
  refine k_iconst (pc := 1) h (x := (0 : Int32)) dX7_stalls_1 (by decide) ?_
  refine k_ldc (pc := 2) h (x := (999999 : Int32)) cs_X7_232 dX7_stalls_2 ?_
  obtain ⟨p2, hc1, hk⟩ := bd_some hk
  refine k_callS1 (pc := 4) h (c_X7_within hc1) cw_X7_75 ⟨⟨by decide, by decide⟩, Nat.zero_le _, Nat.zero_le _⟩ rfl (Nat.le_of_ble_eq_true rfl) dX7_stalls_4 ?_
  refine k_if_eq (tgt := 20) (pc := 7) h dX7_stalls_7 rfl hk (fun hc hk => ?_) (fun hc hk => ?_)
  · refine k_sub h [0] (lv' := [(0, .ref 0)]) rfl ?_
    exact EJ20 _ hk
  · refine k_iload_n (pc := 10) h 2 dX7_stalls_10 rfl ?_
    refine k_iconst (pc := 11) h (x := (0 : Int32)) dX7_stalls_11 (by decide) ?_
    refine k_bipush (pc := 12) h (x := (60 : Int32)) dX7_stalls_12 (by decide) ?_
    obtain ⟨p6, hc5, hk⟩ := bd_some hk
    refine k_callS1 (pc := 14) h (c_X7_within hc5) cw_X7_75 ⟨⟨by decide, by decide⟩, Nat.zero_le _, Nat.zero_le _⟩ rfl (Nat.le_of_ble_eq_true rfl) dX7_stalls_14 ?_
    refine k_if_ne (tgt := 29) (pc := 17) h dX7_stalls_17 rfl hk (fun hc hk => ?_) (fun hc hk => ?_)
    · refine k_aload_n (pc := 29) h 0 dX7_stalls_29 rfl ?_
      refine k_getr (pc := 30) h fl_X7_10 ly_0 rfl dX7_stalls_30 ?_
      refine k_iconst (pc := 33) h (x := (0 : Int32)) dX7_stalls_33 (by decide) ?_
      obtain ⟨p8, hc7, hk⟩ := bd_some hk
      refine k_callV1 (pc := 34) h (c_X6_fitting st_1 hc7) cw_X7_135 ly_1 rfl ⟨⟨by decide, by decide⟩, Nat.zero_le _, Nat.zero_le _⟩ rfl (Nat.le_of_ble_eq_true rfl) dX7_stalls_34 ?_
      refine k_istore_n (pc := 37) h [1, 2, 3, 0] (lv' := [(0, .ref 0), (1, .int l1), (2, .int l2), (3, .int p8)]) dX7_stalls_37 rfl (by decide) rfl ?_
      refine k_iload_n (pc := 38) h 3 dX7_stalls_38 rfl ?_
      refine k_if_eq (tgt := 53) (pc := 39) h dX7_stalls_39 rfl hk (fun hc hk => ?_) (fun hc hk => ?_)
      · refine k_sub h [0] (lv' := [(0, .ref 0)]) rfl ?_
        exact EJ53 _ hk
      · refine k_aload_n (pc := 42) h 0 dX7_stalls_42 rfl ?_
        refine k_getr (pc := 43) h fl_X7_10 ly_0 rfl dX7_stalls_43 ?_
        refine k_geti (pc := 46) h fl_X7_83 ly_1 rfl dX7_stalls_46 ?_
        refine k_iconst (pc := 49) h (x := (1 : Int32)) dX7_stalls_49 (by decide) ?_
        refine k_icmp_ge (tgt := 62) (pc := 50) h dX7_stalls_50 rfl hk (fun hc hk => ?_) (fun hc hk => ?_)
        · refine k_aload_n (pc := 62) h 0 dX7_stalls_62 rfl ?_
          refine k_getr (pc := 63) h fl_X7_71 ly_0 rfl dX7_stalls_63 ?_
          refine k_iload_n (pc := 66) h 1 dX7_stalls_66 rfl ?_
          refine k_i2l (pc := 67) h dX7_stalls_67 ?_
          refine k_putl (pc := 68) h fl_X7_233 ly_45 rfl dX7_stalls_68 hk (fun u11 hk => ?_)
          refine k_iconst (pc := 71) h (x := (0 : Int32)) dX7_stalls_71 (by decide) ?_
          refine k_istore (pc := 72) h [1, 2, 3, 4, 0] (lv' := [(0, .ref 0), (1, .int l1), (2, .int l2), (3, .int p8), (4, .int (0 : Int32))]) dX7_stalls_72 (by decide) rfl ?_
          refine k_iconst (pc := 74) h (x := (0 : Int32)) dX7_stalls_74 (by decide) ?_
          refine k_istore (pc := 75) h [1, 2, 3, 4, 5, 0] (lv' := [(0, .ref 0), (1, .int l1), (2, .int l2), (3, .int p8), (4, .int (0 : Int32)), (5, .int (0 : Int32))]) dX7_stalls_75 (by decide) rfl ?_
          refine k_sub h [0, 2, 3, 4, 5] (lv' := [(0, .ref 0), (2, .int l2), (3, .int p8), (4, .int (0 : Int32)), (5, .int (0 : Int32))]) rfl ?_
          obtain ⟨r15, hl16, hk⟩ := bd_some hk
          refine LB77 _ _ _ _ _ hl16 ?_
          show G 106 [(4, .int r15.1)] [] r15.2
          refine k_iload (pc := 106) h 0 dX7_stalls_106 rfl ?_
          have hk := Option.some.inj hk
          subst hk
          exact k_iret (pc := 108) h dX7_stalls_108 ⟨rfl, rfl, rfl, rfl, rfl, ⟨.int, rfl, rfl⟩⟩
        · refine k_sub h [0] (lv' := [(0, .ref 0)]) rfl ?_
          exact EJ53 _ hk
    · refine k_sub h [0] (lv' := [(0, .ref 0)]) rfl ?_
      exact EJ20 _ hk
def f_X8_count (w : WW) (l1 : Int32) : Option (Int32 × WW) := (f_X8_in w l1 (0 : Int32) (5 : Int32)).bind (fun p2 => if p2 = 0 then (f_X8_bad w).bind (fun p4 => some (p4.1, p4.2)) else (f_X8_countOf w l1).bind (fun p6 => some (p6, w)))
set_option maxRecDepth 20000 in
set_option maxHeartbeats 4000000 in
theorem c_X8_count {w : WW} {l1 : Int32} {z : Int32 × WW} (hk : f_X8_count w l1 = some z) : Cn 5 yX8_count cX8_count 2 (some .int) LAY [.ref 46, .int l1] w (some (.int z.1)) z.2 := by
  refine Cn.of (by decide +kernel) (Nat.le_of_ble_eq_true rfl) (fun G h => ?_)
  have h : Rules cX8_count RX8 "count" 2 (rmd 5 0 0) none _ _ LAY 0 0 G := h
  show G 0 [(0, .ref 46), (1, .int l1)] [] w
  unfold f_X8_count at hk
  refine k_iload_n (pc := 0) h 1 dX8_count_0 rfl ?_
  refine k_iconst (pc := 1) h (x := (0 : Int32)) dX8_count_1 (by decide) ?_
  refine k_iconst (pc := 2) h (x := (5 : Int32)) dX8_count_2 (by decide) ?_
  obtain ⟨p2, hc1, hk⟩ := bd_some hk
  refine k_callS1 (pc := 3) h (c_X8_in hc1) cw_X8_84 ⟨⟨by decide, by decide⟩, Nat.zero_le _, Nat.zero_le _⟩ rfl (Nat.le_of_ble_eq_true rfl) dX8_count_3 ?_
  refine k_if_eq (tgt := 17) (pc := 6) h dX8_count_6 rfl hk (fun hc hk => ?_) (fun hc hk => ?_)
  · refine k_aload_n (pc := 17) h 0 dX8_count_17 rfl ?_
    obtain ⟨p4, hc3, hk⟩ := bd_some hk
    refine k_callV1 (pc := 18) h (c_X8_bad hc3) cw_X8_88 ly_46 rfl ⟨⟨by decide, by decide⟩, Nat.zero_le _, Nat.zero_le _⟩ rfl (Nat.le_of_ble_eq_true rfl) dX8_count_18 ?_
    have hk := Option.some.inj hk
    subst hk
    exact k_iret (pc := 21) h dX8_count_21 ⟨rfl, rfl, rfl, rfl, rfl, ⟨.int, rfl, rfl⟩⟩
  · refine k_aload_n (pc := 9) h 0 dX8_count_9 rfl ?_
    refine k_iload_n (pc := 10) h 1 dX8_count_10 rfl ?_
    obtain ⟨p6, hc5, hk⟩ := bd_some hk
    refine k_callV1 (pc := 11) h (c_X8_countOf hc5) cw_X8_274 ly_46 rfl ⟨⟨by decide, by decide⟩, Nat.zero_le _, Nat.zero_le _⟩ rfl (Nat.le_of_ble_eq_true rfl) dX8_count_11 ?_
    refine k_goto (tgt := 21) (pc := 14) h dX8_count_14 rfl ?_
    have hk := Option.some.inj hk
    subst hk
    exact k_iret (pc := 21) h dX8_count_21 ⟨rfl, rfl, rfl, rfl, rfl, ⟨.int, rfl, rfl⟩⟩
def f_X8_digest_b9 (l1 : Int32) (w : WW) : Option ((Int32 × WW) ⊕ (WW)) := if (5 : Int32) < l1 then some (.inr w) else (f_X8_countOf w l1).bind (fun p3 => (f_X8_mix w ((p3).toInt64)).bind (fun p5 => some (.inl ((l1 + (1 : Int32)), p5))))
def f_X8_digest_b32 (l1 : Int32) (w : WW) : Option ((Int32 × WW) ⊕ (WW)) := if (w.1 46 1) ≤ l1 then some (.inr w) else gd (inb l1 16) ((f_X8_mix w (((w.1 48 (l1).toNatClampNeg)).toInt64)).bind (fun p9 => some (.inl ((l1 + (1 : Int32)), p9))))
def f_X8_digest_b59 (l1 : Int32) (w : WW) : Option ((Int32 × WW) ⊕ (WW)) := if (w.1 46 2) ≤ l1 then some (.inr w) else gd (inb l1 7) ((f_X8_mix w (((w.1 49 (l1).toNatClampNeg)).toInt64)).bind (fun p13 => gd (inb l1 7) ((f_X8_mix p13 (((p13.1 50 (l1).toNatClampNeg)).toInt64)).bind (fun p15 => gd (inb l1 7) ((f_X8_mix p15 (((p15.1 51 (l1).toNatClampNeg)).toInt64)).bind (fun p17 => some (.inl ((l1 + (1 : Int32)), p17))))))))
def f_X8_digest_b108 (l1 : Int32) (w : WW) : Option ((Int32 × WW) ⊕ (WW)) := if ((2 : Int32) * (w.1 46 3)) ≤ l1 then some (.inr w) else gd (inb l1 16) ((f_X8_mix w (((w.1 52 (l1).toNatClampNeg)).toInt64)).bind (fun p21 => some (.inl ((l1 + (1 : Int32)), p21))))
def f_X8_digest (w : WW) : Option (Int64 × WW) := stL w 46 30 (1091 : Int64) (fun u1 => (lpf (fun s : Int32 × WW => f_X8_digest_b9 s.1 s.2) FU ((0 : Int32), u1)).bind (fun r6 => (lpf (fun s : Int32 × WW => f_X8_digest_b32 s.1 s.2) FU ((0 : Int32), r6)).bind (fun r10 => (lpf (fun s : Int32 × WW => f_X8_digest_b59 s.1 s.2) FU ((0 : Int32), r10)).bind (fun r18 => (lpf (fun s : Int32 × WW => f_X8_digest_b108 s.1 s.2) FU ((0 : Int32), r18)).bind (fun r22 => (f_X8_mix r22 (r22.2 46 24)).bind (fun p25 => (f_X8_mix p25 (p25.2 46 25)).bind (fun p27 => some ((p27.2 46 30), p27))))))))
set_option maxRecDepth 20000 in
set_option maxHeartbeats 4000000 in
theorem c_X8_digest {w : WW} {z : Int64 × WW} (hk : f_X8_digest w = some z) : Cn 5 yX8_digest cX8_digest 2 (some .long) LAY [.ref 46] w (some (.long z.1)) z.2 := by
  refine Cn.of (by decide +kernel) (Nat.le_of_ble_eq_true rfl) (fun G h => ?_)
  have h : Rules cX8_digest RX8 "digest" 2 (rmd 5 0 0) none _ _ LAY 0 0 G := h
  show G 0 [(0, .ref 46)] [] w
  unfold f_X8_digest at hk
  have LB9 : ∀ (nn : Nat) (s : Int32 × WW) (r : WW), lpf (fun s : Int32 × WW => f_X8_digest_b9 s.1 s.2) nn s = some r → (fun r : WW => G 30 [(0, .ref 46)] [] r) r → (fun s : Int32 × WW => G 9 [(0, .ref 46), (1, .int s.1)] [] s.2) s := by
    refine lpf_ind (fun s : Int32 × WW => G 9 [(0, .ref 46), (1, .int s.1)] [] s.2) (fun r : WW => G 30 [(0, .ref 46)] [] r) ?_
    rintro ⟨l1, w⟩ z hk hz
    have hk : f_X8_digest_b9 l1 w = some z := hk
    unfold f_X8_digest_b9 at hk
    show G 9 [(0, .ref 46), (1, .int l1)] [] w
    refine k_iload_n (pc := 9) h 1 dX8_digest_9 rfl ?_
    refine k_iconst (pc := 10) h (x := (5 : Int32)) dX8_digest_10 (by decide) ?_
    refine k_icmp_gt (tgt := 30) (pc := 11) h dX8_digest_11 rfl hk (fun hc hk => ?_) (fun hc hk => ?_)
    · refine k_sub h [0] (lv' := [(0, .ref 46)]) rfl ?_
      have hk := Option.some.inj hk
      subst hk
      exact hz
    · refine k_aload_n (pc := 14) h 0 dX8_digest_14 rfl ?_
      refine k_aload_n (pc := 15) h 0 dX8_digest_15 rfl ?_
      refine k_iload_n (pc := 16) h 1 dX8_digest_16 rfl ?_
      obtain ⟨p3, hc2, hk⟩ := bd_some hk
      refine k_callV1 (pc := 17) h (c_X8_countOf hc2) cw_X8_274 ly_46 rfl ⟨⟨by decide, by decide⟩, Nat.zero_le _, Nat.zero_le _⟩ rfl (Nat.le_of_ble_eq_true rfl) dX8_digest_17 ?_
      refine k_i2l (pc := 20) h dX8_digest_20 ?_
      obtain ⟨p5, hc4, hk⟩ := bd_some hk
      refine k_callV0 (pc := 21) h (c_X8_mix hc4) cw_X8_284 ly_46 rfl ⟨⟨by decide, by decide⟩, Nat.zero_le _, Nat.zero_le _⟩ rfl (Nat.le_of_ble_eq_true rfl) dX8_digest_21 ?_
      refine k_iinc (pc := 24) h 1 [1, 0] (v := (l1 + (1 : Int32))) (lv' := [(0, .ref 46), (1, .int (l1 + (1 : Int32)))]) dX8_digest_24 rfl rfl (by decide) rfl ?_
      refine k_goto (tgt := 9) (pc := 27) h dX8_digest_27 rfl ?_
      have hk := Option.some.inj hk
      subst hk
      exact hz
  have LB32 : ∀ (nn : Nat) (s : Int32 × WW) (r : WW), lpf (fun s : Int32 × WW => f_X8_digest_b32 s.1 s.2) nn s = some r → (fun r : WW => G 57 [(0, .ref 46)] [] r) r → (fun s : Int32 × WW => G 32 [(0, .ref 46), (1, .int s.1)] [] s.2) s := by
    refine lpf_ind (fun s : Int32 × WW => G 32 [(0, .ref 46), (1, .int s.1)] [] s.2) (fun r : WW => G 57 [(0, .ref 46)] [] r) ?_
    rintro ⟨l1, w⟩ z hk hz
    have hk : f_X8_digest_b32 l1 w = some z := hk
    unfold f_X8_digest_b32 at hk
    show G 32 [(0, .ref 46), (1, .int l1)] [] w
    refine k_iload_n (pc := 32) h 1 dX8_digest_32 rfl ?_
    refine k_aload_n (pc := 33) h 0 dX8_digest_33 rfl ?_
    refine k_geti (pc := 34) h fl_X8_13 ly_46 rfl dX8_digest_34 ?_
    refine k_icmp_ge (tgt := 57) (pc := 37) h dX8_digest_37 rfl hk (fun hc hk => ?_) (fun hc hk => ?_)
    · refine k_sub h [0] (lv' := [(0, .ref 46)]) rfl ?_
      have hk := Option.some.inj hk
      subst hk
      exact hz
    · refine k_aload_n (pc := 40) h 0 dX8_digest_40 rfl ?_
      refine k_aload_n (pc := 41) h 0 dX8_digest_41 rfl ?_
      refine k_getr (pc := 42) h fl_X8_17 ly_46 rfl dX8_digest_42 ?_
      refine k_iload_n (pc := 45) h 1 dX8_digest_45 rfl ?_
      refine k_iald (pc := 46) h ly_48 dX8_digest_46 hk (fun hk => ?_)
      refine k_i2l (pc := 47) h dX8_digest_47 ?_
      obtain ⟨p9, hc8, hk⟩ := bd_some hk
      refine k_callV0 (pc := 48) h (c_X8_mix hc8) cw_X8_284 ly_46 rfl ⟨⟨by decide, by decide⟩, Nat.zero_le _, Nat.zero_le _⟩ rfl (Nat.le_of_ble_eq_true rfl) dX8_digest_48 ?_
      refine k_iinc (pc := 51) h 1 [1, 0] (v := (l1 + (1 : Int32))) (lv' := [(0, .ref 46), (1, .int (l1 + (1 : Int32)))]) dX8_digest_51 rfl rfl (by decide) rfl ?_
      refine k_goto (tgt := 32) (pc := 54) h dX8_digest_54 rfl ?_
      have hk := Option.some.inj hk
      subst hk
      exact hz
  have LB59 : ∀ (nn : Nat) (s : Int32 × WW) (r : WW), lpf (fun s : Int32 × WW => f_X8_digest_b59 s.1 s.2) nn s = some r → (fun r : WW => G 106 [(0, .ref 46)] [] r) r → (fun s : Int32 × WW => G 59 [(0, .ref 46), (1, .int s.1)] [] s.2) s := by
    refine lpf_ind (fun s : Int32 × WW => G 59 [(0, .ref 46), (1, .int s.1)] [] s.2) (fun r : WW => G 106 [(0, .ref 46)] [] r) ?_
    rintro ⟨l1, w⟩ z hk hz
    have hk : f_X8_digest_b59 l1 w = some z := hk
    unfold f_X8_digest_b59 at hk
    show G 59 [(0, .ref 46), (1, .int l1)] [] w
    refine k_iload_n (pc := 59) h 1 dX8_digest_59 rfl ?_
    refine k_aload_n (pc := 60) h 0 dX8_digest_60 rfl ?_
    refine k_geti (pc := 61) h fl_X8_75 ly_46 rfl dX8_digest_61 ?_
    refine k_icmp_ge (tgt := 106) (pc := 64) h dX8_digest_64 rfl hk (fun hc hk => ?_) (fun hc hk => ?_)
    · refine k_sub h [0] (lv' := [(0, .ref 46)]) rfl ?_
      have hk := Option.some.inj hk
      subst hk
      exact hz
    · refine k_aload_n (pc := 67) h 0 dX8_digest_67 rfl ?_
      refine k_aload_n (pc := 68) h 0 dX8_digest_68 rfl ?_
      refine k_getr (pc := 69) h fl_X8_20 ly_46 rfl dX8_digest_69 ?_
      refine k_iload_n (pc := 72) h 1 dX8_digest_72 rfl ?_
      refine k_iald (pc := 73) h ly_49 dX8_digest_73 hk (fun hk => ?_)
      refine k_i2l (pc := 74) h dX8_digest_74 ?_
      obtain ⟨p13, hc12, hk⟩ := bd_some hk
      refine k_callV0 (pc := 75) h (c_X8_mix hc12) cw_X8_284 ly_46 rfl ⟨⟨by decide, by decide⟩, Nat.zero_le _, Nat.zero_le _⟩ rfl (Nat.le_of_ble_eq_true rfl) dX8_digest_75 ?_
      refine k_aload_n (pc := 78) h 0 dX8_digest_78 rfl ?_
      refine k_aload_n (pc := 79) h 0 dX8_digest_79 rfl ?_
      refine k_getr (pc := 80) h fl_X8_23 ly_46 rfl dX8_digest_80 ?_
      refine k_iload_n (pc := 83) h 1 dX8_digest_83 rfl ?_
      refine k_iald (pc := 84) h ly_50 dX8_digest_84 hk (fun hk => ?_)
      refine k_i2l (pc := 85) h dX8_digest_85 ?_
      obtain ⟨p15, hc14, hk⟩ := bd_some hk
      refine k_callV0 (pc := 86) h (c_X8_mix hc14) cw_X8_284 ly_46 rfl ⟨⟨by decide, by decide⟩, Nat.zero_le _, Nat.zero_le _⟩ rfl (Nat.le_of_ble_eq_true rfl) dX8_digest_86 ?_
      refine k_aload_n (pc := 89) h 0 dX8_digest_89 rfl ?_
      refine k_aload_n (pc := 90) h 0 dX8_digest_90 rfl ?_
      refine k_getr (pc := 91) h fl_X8_26 ly_46 rfl dX8_digest_91 ?_
      refine k_iload_n (pc := 94) h 1 dX8_digest_94 rfl ?_
      refine k_iald (pc := 95) h ly_51 dX8_digest_95 hk (fun hk => ?_)
      refine k_i2l (pc := 96) h dX8_digest_96 ?_
      obtain ⟨p17, hc16, hk⟩ := bd_some hk
      refine k_callV0 (pc := 97) h (c_X8_mix hc16) cw_X8_284 ly_46 rfl ⟨⟨by decide, by decide⟩, Nat.zero_le _, Nat.zero_le _⟩ rfl (Nat.le_of_ble_eq_true rfl) dX8_digest_97 ?_
      refine k_iinc (pc := 100) h 1 [1, 0] (v := (l1 + (1 : Int32))) (lv' := [(0, .ref 46), (1, .int (l1 + (1 : Int32)))]) dX8_digest_100 rfl rfl (by decide) rfl ?_
      refine k_goto (tgt := 59) (pc := 103) h dX8_digest_103 rfl ?_
      have hk := Option.some.inj hk
      subst hk
      exact hz
  have LB108 : ∀ (nn : Nat) (s : Int32 × WW) (r : WW), lpf (fun s : Int32 × WW => f_X8_digest_b108 s.1 s.2) nn s = some r → (fun r : WW => G 135 [(0, .ref 46)] [] r) r → (fun s : Int32 × WW => G 108 [(0, .ref 46), (1, .int s.1)] [] s.2) s := by
    refine lpf_ind (fun s : Int32 × WW => G 108 [(0, .ref 46), (1, .int s.1)] [] s.2) (fun r : WW => G 135 [(0, .ref 46)] [] r) ?_
    rintro ⟨l1, w⟩ z hk hz
    have hk : f_X8_digest_b108 l1 w = some z := hk
    unfold f_X8_digest_b108 at hk
    show G 108 [(0, .ref 46), (1, .int l1)] [] w
    refine k_iload_n (pc := 108) h 1 dX8_digest_108 rfl ?_
    refine k_iconst (pc := 109) h (x := (2 : Int32)) dX8_digest_109 (by decide) ?_
    refine k_aload_n (pc := 110) h 0 dX8_digest_110 rfl ?_
    refine k_geti (pc := 111) h fl_X8_78 ly_46 rfl dX8_digest_111 ?_
    refine k_imul (pc := 114) h dX8_digest_114 ?_
    refine k_icmp_ge (tgt := 135) (pc := 115) h dX8_digest_115 rfl hk (fun hc hk => ?_) (fun hc hk => ?_)
    · refine k_sub h [0] (lv' := [(0, .ref 46)]) rfl ?_
      have hk := Option.some.inj hk
      subst hk
      exact hz
    · refine k_aload_n (pc := 118) h 0 dX8_digest_118 rfl ?_
      refine k_aload_n (pc := 119) h 0 dX8_digest_119 rfl ?_
      refine k_getr (pc := 120) h fl_X8_29 ly_46 rfl dX8_digest_120 ?_
      refine k_iload_n (pc := 123) h 1 dX8_digest_123 rfl ?_
      refine k_iald (pc := 124) h ly_52 dX8_digest_124 hk (fun hk => ?_)
      refine k_i2l (pc := 125) h dX8_digest_125 ?_
      obtain ⟨p21, hc20, hk⟩ := bd_some hk
      refine k_callV0 (pc := 126) h (c_X8_mix hc20) cw_X8_284 ly_46 rfl ⟨⟨by decide, by decide⟩, Nat.zero_le _, Nat.zero_le _⟩ rfl (Nat.le_of_ble_eq_true rfl) dX8_digest_126 ?_
      refine k_iinc (pc := 129) h 1 [1, 0] (v := (l1 + (1 : Int32))) (lv' := [(0, .ref 46), (1, .int (l1 + (1 : Int32)))]) dX8_digest_129 rfl rfl (by decide) rfl ?_
      refine k_goto (tgt := 108) (pc := 132) h dX8_digest_132 rfl ?_
      have hk := Option.some.inj hk
      subst hk
      exact hz
  refine k_aload_n (pc := 0) h 0 dX8_digest_0 rfl ?_
  refine k_ldc2 (pc := 1) h (x := (1091 : Int64)) cs_X8_282 dX8_digest_1 ?_
  refine k_putl (pc := 4) h fl_X8_279 ly_46 rfl dX8_digest_4 hk (fun u1 hk => ?_)
  refine k_iconst (pc := 7) h (x := (0 : Int32)) dX8_digest_7 (by decide) ?_
  refine k_istore_n (pc := 8) h [1, 0] (lv' := [(0, .ref 46), (1, .int (0 : Int32))]) dX8_digest_8 rfl (by decide) rfl ?_
  obtain ⟨r6, hl7, hk⟩ := bd_some hk
  refine LB9 _ _ _ hl7 ?_
  show G 30 [(0, .ref 46)] [] r6
  refine k_iconst (pc := 30) h (x := (0 : Int32)) dX8_digest_30 (by decide) ?_
  refine k_istore_n (pc := 31) h [1, 0] (lv' := [(0, .ref 46), (1, .int (0 : Int32))]) dX8_digest_31 rfl (by decide) rfl ?_
  obtain ⟨r10, hl11, hk⟩ := bd_some hk
  refine LB32 _ _ _ hl11 ?_
  show G 57 [(0, .ref 46)] [] r10
  refine k_iconst (pc := 57) h (x := (0 : Int32)) dX8_digest_57 (by decide) ?_
  refine k_istore_n (pc := 58) h [1, 0] (lv' := [(0, .ref 46), (1, .int (0 : Int32))]) dX8_digest_58 rfl (by decide) rfl ?_
  obtain ⟨r18, hl19, hk⟩ := bd_some hk
  refine LB59 _ _ _ hl19 ?_
  show G 106 [(0, .ref 46)] [] r18
  refine k_iconst (pc := 106) h (x := (0 : Int32)) dX8_digest_106 (by decide) ?_
  refine k_istore_n (pc := 107) h [1, 0] (lv' := [(0, .ref 46), (1, .int (0 : Int32))]) dX8_digest_107 rfl (by decide) rfl ?_
  obtain ⟨r22, hl23, hk⟩ := bd_some hk
  refine LB108 _ _ _ hl23 ?_
  show G 135 [(0, .ref 46)] [] r22
  refine k_aload_n (pc := 135) h 0 dX8_digest_135 rfl ?_
  refine k_aload_n (pc := 136) h 0 dX8_digest_136 rfl ?_
  refine k_getl (pc := 137) h fl_X8_234 ly_46 rfl dX8_digest_137 ?_
  obtain ⟨p25, hc24, hk⟩ := bd_some hk
  refine k_callV0 (pc := 140) h (c_X8_mix hc24) cw_X8_284 ly_46 rfl ⟨⟨by decide, by decide⟩, Nat.zero_le _, Nat.zero_le _⟩ rfl (Nat.le_of_ble_eq_true rfl) dX8_digest_140 ?_
  refine k_aload_n (pc := 143) h 0 dX8_digest_143 rfl ?_
  refine k_aload_n (pc := 144) h 0 dX8_digest_144 rfl ?_
  refine k_getl (pc := 145) h fl_X8_61 ly_46 rfl dX8_digest_145 ?_
  obtain ⟨p27, hc26, hk⟩ := bd_some hk
  refine k_callV0 (pc := 148) h (c_X8_mix hc26) cw_X8_284 ly_46 rfl ⟨⟨by decide, by decide⟩, Nat.zero_le _, Nat.zero_le _⟩ rfl (Nat.le_of_ble_eq_true rfl) dX8_digest_148 ?_
  refine k_aload_n (pc := 151) h 0 dX8_digest_151 rfl ?_
  refine k_getl (pc := 152) h fl_X8_279 ly_46 rfl dX8_digest_152 ?_
  have hk := Option.some.inj hk
  subst hk
  exact k_lret (pc := 155) h dX8_digest_155 ⟨rfl, rfl, rfl, rfl, rfl, rfl⟩
def f_X8_readsFair_b12 (l1 : Int32) (w : WW) : Option ((Int32 × WW) ⊕ (WW)) := if (16 : Int32) ≤ l1 then some (.inr w) else gd (inb l1 16) (stI w 54 (l1).toNatClampNeg (1 : Int32) (fun u3 => some (.inl ((l1 + (1 : Int32)), u3))))
def f_X8_readsFair_b46 (l1 : Int32) (w : WW) : Option ((Int32 × WW) ⊕ ((WW) ⊕ (Int32 × WW))) := if (w.1 46 10) ≤ (w.1 46 11) then some (.inr (.inr (l1, w))) else (f_X8_readsItem w).bind (fun p11 => if p11.1 = 0 then some (.inr (.inl p11.2)) else (f_X8_skip p11.2).bind (fun p13 => some (.inl ((l1 + (1 : Int32)), p13))))
def f_X8_readsFair (w : WW) : Option (Int32 × WW) := stI w 46 11 (0 : Int32) (fun u1 => stI u1 46 13 (0 : Int32) (fun u2 => (lpf (fun s : Int32 × WW => f_X8_readsFair_b12 s.1 s.2) FU ((0 : Int32), u2)).bind (fun r4 => (f_X8_readsFirst r4).bind (fun p7 => if p7.1 = 0 then some ((-1 : Int32), p7.2) else (f_X8_skip p7.2).bind (fun p9 => (lpf (fun s : Int32 × WW => f_X8_readsFair_b46 s.1 s.2) FU ((1 : Int32), p9)).bind (Sum.elim (fun r14 => some ((-1 : Int32), r14)) (fun r14 => some (r14.1, r14.2))))))))
set_option maxRecDepth 20000 in
set_option maxHeartbeats 4000000 in
theorem c_X8_readsFair {w : WW} {z : Int32 × WW} (hk : f_X8_readsFair w = some z) : Cn 5 yX8_readsFair cX8_readsFair 2 (some .int) LAY [.ref 46] w (some (.int z.1)) z.2 := by
  refine Cn.of (by decide +kernel) (Nat.le_of_ble_eq_true rfl) (fun G h => ?_)
  have h : Rules cX8_readsFair RX8 "readsFair" 2 (rmd 5 0 0) none _ _ LAY 0 0 G := h
  show G 0 [(0, .ref 46)] [] w
  unfold f_X8_readsFair at hk
  have LB12 : ∀ (nn : Nat) (s : Int32 × WW) (r : WW), lpf (fun s : Int32 × WW => f_X8_readsFair_b12 s.1 s.2) nn s = some r → (fun r : WW => G 31 [(0, .ref 46)] [] r) r → (fun s : Int32 × WW => G 12 [(0, .ref 46), (1, .int s.1)] [] s.2) s := by
    refine lpf_ind (fun s : Int32 × WW => G 12 [(0, .ref 46), (1, .int s.1)] [] s.2) (fun r : WW => G 31 [(0, .ref 46)] [] r) ?_
    rintro ⟨l1, w⟩ z hk hz
    have hk : f_X8_readsFair_b12 l1 w = some z := hk
    unfold f_X8_readsFair_b12 at hk
    show G 12 [(0, .ref 46), (1, .int l1)] [] w
    refine k_iload_n (pc := 12) h 1 dX8_readsFair_12 rfl ?_
    refine k_bipush (pc := 13) h (x := (16 : Int32)) dX8_readsFair_13 (by decide) ?_
    refine k_icmp_ge (tgt := 31) (pc := 15) h dX8_readsFair_15 rfl hk (fun hc hk => ?_) (fun hc hk => ?_)
    · refine k_sub h [0] (lv' := [(0, .ref 46)]) rfl ?_
      have hk := Option.some.inj hk
      subst hk
      exact hz
    · refine k_aload_n (pc := 18) h 0 dX8_readsFair_18 rfl ?_
      refine k_getr (pc := 19) h fl_X8_35 ly_46 rfl dX8_readsFair_19 ?_
      refine k_iload_n (pc := 22) h 1 dX8_readsFair_22 rfl ?_
      refine k_iconst (pc := 23) h (x := (1 : Int32)) dX8_readsFair_23 (by decide) ?_
      refine k_iast (pc := 24) h ly_54 dX8_readsFair_24 hk (fun u3 hk => ?_)
      refine k_iinc (pc := 25) h 1 [1, 0] (v := (l1 + (1 : Int32))) (lv' := [(0, .ref 46), (1, .int (l1 + (1 : Int32)))]) dX8_readsFair_25 rfl rfl (by decide) rfl ?_
      refine k_goto (tgt := 12) (pc := 28) h dX8_readsFair_28 rfl ?_
      have hk := Option.some.inj hk
      subst hk
      exact hz
  have LB46 : ∀ (nn : Nat) (s : Int32 × WW) (r : (WW) ⊕ (Int32 × WW)), lpf (fun s : Int32 × WW => f_X8_readsFair_b46 s.1 s.2) nn s = some r → (Sum.elim (fun r : WW => G 64 [] [] r) (fun r : Int32 × WW => G 76 [(1, .int r.1)] [] r.2)) r → (fun s : Int32 × WW => G 46 [(0, .ref 46), (1, .int s.1)] [] s.2) s := by
    refine lpf_ind (fun s : Int32 × WW => G 46 [(0, .ref 46), (1, .int s.1)] [] s.2) (Sum.elim (fun r : WW => G 64 [] [] r) (fun r : Int32 × WW => G 76 [(1, .int r.1)] [] r.2)) ?_
    rintro ⟨l1, w⟩ z hk hz
    have hk : f_X8_readsFair_b46 l1 w = some z := hk
    unfold f_X8_readsFair_b46 at hk
    show G 46 [(0, .ref 46), (1, .int l1)] [] w
    refine k_aload_n (pc := 46) h 0 dX8_readsFair_46 rfl ?_
    refine k_geti (pc := 47) h fl_X8_109 ly_46 rfl dX8_readsFair_47 ?_
    refine k_aload_n (pc := 50) h 0 dX8_readsFair_50 rfl ?_
    refine k_geti (pc := 51) h fl_X8_106 ly_46 rfl dX8_readsFair_51 ?_
    refine k_icmp_ge (tgt := 76) (pc := 54) h dX8_readsFair_54 rfl hk (fun hc hk => ?_) (fun hc hk => ?_)
    · refine k_sub h [1] (lv' := [(1, .int l1)]) rfl ?_
      have hk := Option.some.inj hk
      subst hk
      exact hz
    · refine k_aload_n (pc := 57) h 0 dX8_readsFair_57 rfl ?_
      obtain ⟨p11, hc10, hk⟩ := bd_some hk
      refine k_callV1 (pc := 58) h (c_X8_readsItem hc10) cw_X8_160 ly_46 rfl ⟨⟨by decide, by decide⟩, Nat.zero_le _, Nat.zero_le _⟩ rfl (Nat.le_of_ble_eq_true rfl) dX8_readsFair_58 ?_
      refine k_if_ne (tgt := 66) (pc := 61) h dX8_readsFair_61 rfl hk (fun hc hk => ?_) (fun hc hk => ?_)
      · refine k_iinc (pc := 66) h 1 [1, 0] (v := (l1 + (1 : Int32))) (lv' := [(0, .ref 46), (1, .int (l1 + (1 : Int32)))]) dX8_readsFair_66 rfl rfl (by decide) rfl ?_
        refine k_aload_n (pc := 69) h 0 dX8_readsFair_69 rfl ?_
        obtain ⟨p13, hc12, hk⟩ := bd_some hk
        refine k_callV0 (pc := 70) h (c_X8_skip hc12) cw_X8_125 ly_46 rfl ⟨⟨by decide, by decide⟩, Nat.zero_le _, Nat.zero_le _⟩ rfl (Nat.le_of_ble_eq_true rfl) dX8_readsFair_70 ?_
        refine k_goto (tgt := 46) (pc := 73) h dX8_readsFair_73 rfl ?_
        have hk := Option.some.inj hk
        subst hk
        exact hz
      · refine k_sub h [] (lv' := []) rfl ?_
        have hk := Option.some.inj hk
        subst hk
        exact hz
  refine k_aload_n (pc := 0) h 0 dX8_readsFair_0 rfl ?_
  refine k_iconst (pc := 1) h (x := (0 : Int32)) dX8_readsFair_1 (by decide) ?_
  refine k_puti (pc := 2) h fl_X8_109 ly_46 rfl dX8_readsFair_2 hk (fun u1 hk => ?_)
  refine k_aload_n (pc := 5) h 0 dX8_readsFair_5 rfl ?_
  refine k_iconst (pc := 6) h (x := (0 : Int32)) dX8_readsFair_6 (by decide) ?_
  refine k_puti (pc := 7) h fl_X8_145 ly_46 rfl dX8_readsFair_7 hk (fun u2 hk => ?_)
  refine k_iconst (pc := 10) h (x := (0 : Int32)) dX8_readsFair_10 (by decide) ?_
  refine k_istore_n (pc := 11) h [1, 0] (lv' := [(0, .ref 46), (1, .int (0 : Int32))]) dX8_readsFair_11 rfl (by decide) rfl ?_
  obtain ⟨r4, hl5, hk⟩ := bd_some hk
  refine LB12 _ _ _ hl5 ?_
  show G 31 [(0, .ref 46)] [] r4
  refine k_aload_n (pc := 31) h 0 dX8_readsFair_31 rfl ?_
  obtain ⟨p7, hc6, hk⟩ := bd_some hk
  refine k_callV1 (pc := 32) h (c_X8_readsFirst hc6) cw_X8_157 ly_46 rfl ⟨⟨by decide, by decide⟩, Nat.zero_le _, Nat.zero_le _⟩ rfl (Nat.le_of_ble_eq_true rfl) dX8_readsFair_32 ?_
  refine k_if_ne (tgt := 40) (pc := 35) h dX8_readsFair_35 rfl hk (fun hc hk => ?_) (fun hc hk => ?_)
  · refine k_iconst (pc := 40) h (x := (1 : Int32)) dX8_readsFair_40 (by decide) ?_
    refine k_istore_n (pc := 41) h [1, 0] (lv' := [(0, .ref 46), (1, .int (1 : Int32))]) dX8_readsFair_41 rfl (by decide) rfl ?_
    refine k_aload_n (pc := 42) h 0 dX8_readsFair_42 rfl ?_
    obtain ⟨p9, hc8, hk⟩ := bd_some hk
    refine k_callV0 (pc := 43) h (c_X8_skip hc8) cw_X8_125 ly_46 rfl ⟨⟨by decide, by decide⟩, Nat.zero_le _, Nat.zero_le _⟩ rfl (Nat.le_of_ble_eq_true rfl) dX8_readsFair_43 ?_
    obtain ⟨r14, hl15, hk⟩ := bd_some hk
    refine LB46 _ _ _ hl15 ?_
    rcases r14 with r14 | r14
    · replace hk := elim_l hk
      show G 64 [] [] r14
      refine k_iconst (pc := 64) h (x := (-1 : Int32)) dX8_readsFair_64 (by decide) ?_
      have hk := Option.some.inj hk
      subst hk
      exact k_iret (pc := 65) h dX8_readsFair_65 ⟨rfl, rfl, rfl, rfl, rfl, ⟨.int, rfl, rfl⟩⟩
    · replace hk := elim_r hk
      show G 76 [(1, .int r14.1)] [] r14.2
      refine k_iload_n (pc := 76) h 0 dX8_readsFair_76 rfl ?_
      have hk := Option.some.inj hk
      subst hk
      exact k_iret (pc := 77) h dX8_readsFair_77 ⟨rfl, rfl, rfl, rfl, rfl, ⟨.int, rfl, rfl⟩⟩
  · refine k_iconst (pc := 38) h (x := (-1 : Int32)) dX8_readsFair_38 (by decide) ?_
    have hk := Option.some.inj hk
    subst hk
    exact k_iret (pc := 39) h dX8_readsFair_39 ⟨rfl, rfl, rfl, rfl, rfl, ⟨.int, rfl, rfl⟩⟩
def f_X4_stepOverWord_b0 (w : WW) : Option ((WW) ⊕ (WW)) := if (w.1 26 1) ≤ (w.1 26 4) then some (.inr w) else gd (inb (w.1 26 4) 150) ((f_X4_isLetter w (w.1 27 ((w.1 26 4)).toNatClampNeg)).bind (fun p2 => if p2 = 0 then some (.inr w) else stI w 26 4 ((w.1 26 4) + (1 : Int32)) (fun u3 => some (.inl u3))))
def f_X4_stepOverWord (w : WW) : Option (WW) := (lpf (fun s : WW => f_X4_stepOverWord_b0 s) FU w).bind (fun r4 => (f_X4_spells 0 r4).bind (fun p7 => if p7 = 0 then (f_X4_spells 1 r4).bind (fun p9 => if p9 = 0 then (f_X4_spells 2 r4).bind (fun p11 => if p11 = 0 then stI r4 26 5 (6 : Int32) (fun u12 => some u12) else stI r4 26 5 (5 : Int32) (fun u13 => some u13)) else stI r4 26 5 (4 : Int32) (fun u14 => some u14)) else stI r4 26 5 (3 : Int32) (fun u15 => some u15)))
set_option maxRecDepth 20000 in
set_option maxHeartbeats 4000000 in
theorem c_X4_stepOverWord {w : WW} {z : WW} (hk : f_X4_stepOverWord w = some z) : Cn 6 yX4_stepOverWord cX4_stepOverWord 1 none LAY [.ref 26] w none z := by
  refine Cn.of (by decide +kernel) (Nat.le_of_ble_eq_true rfl) (fun G h => ?_)
  have h : Rules cX4_stepOverWord RX4 "stepOverWord" 1 (rmd 6 0 0) none _ _ LAY 0 0 G := h
  show G 0 [(0, .ref 26)] [] w
  unfold f_X4_stepOverWord at hk
  have LB0 : ∀ (nn : Nat) (s : WW) (r : WW), lpf (fun s : WW => f_X4_stepOverWord_b0 s) nn s = some r → (fun r : WW => G 39 [(0, .ref 26)] [] r) r → (fun s : WW => G 0 [(0, .ref 26)] [] s) s := by
    refine lpf_ind (fun s : WW => G 0 [(0, .ref 26)] [] s) (fun r : WW => G 39 [(0, .ref 26)] [] r) ?_
    rintro w z hk hz
    have hk : f_X4_stepOverWord_b0 w = some z := hk
    unfold f_X4_stepOverWord_b0 at hk
    show G 0 [(0, .ref 26)] [] w
    refine k_aload_n (pc := 0) h 0 dX4_stepOverWord_0 rfl ?_
    refine k_geti (pc := 1) h fl_X4_26 ly_26 rfl dX4_stepOverWord_1 ?_
    refine k_aload_n (pc := 4) h 0 dX4_stepOverWord_4 rfl ?_
    refine k_geti (pc := 5) h fl_X4_22 ly_26 rfl dX4_stepOverWord_5 ?_
    refine k_icmp_ge (tgt := 39) (pc := 8) h dX4_stepOverWord_8 rfl hk (fun hc hk => ?_) (fun hc hk => ?_)
    · have hk := Option.some.inj hk
      subst hk
      exact hz
    · refine k_aload_n (pc := 11) h 0 dX4_stepOverWord_11 rfl ?_
      refine k_getr (pc := 12) h fl_X4_9 ly_26 rfl dX4_stepOverWord_12 ?_
      refine k_aload_n (pc := 15) h 0 dX4_stepOverWord_15 rfl ?_
      refine k_geti (pc := 16) h fl_X4_26 ly_26 rfl dX4_stepOverWord_16 ?_
      refine k_bald (pc := 19) h ly_27 dX4_stepOverWord_19 hk (fun hk => ?_)
      obtain ⟨p2, hc1, hk⟩ := bd_some hk
      refine k_callS1 (pc := 20) h (c_X4_isLetter hc1) cw_X4_90 ⟨⟨by decide, by decide⟩, Nat.zero_le _, Nat.zero_le _⟩ rfl (Nat.le_of_ble_eq_true rfl) dX4_stepOverWord_20 ?_
      refine k_if_eq (tgt := 39) (pc := 23) h dX4_stepOverWord_23 rfl hk (fun hc hk => ?_) (fun hc hk => ?_)
      · have hk := Option.some.inj hk
        subst hk
        exact hz
      · refine k_aload_n (pc := 26) h 0 dX4_stepOverWord_26 rfl ?_
        refine k_dup (pc := 27) h dX4_stepOverWord_27 rfl ?_
        refine k_geti (pc := 28) h fl_X4_26 ly_26 rfl dX4_stepOverWord_28 ?_
        refine k_iconst (pc := 31) h (x := (1 : Int32)) dX4_stepOverWord_31 (by decide) ?_
        refine k_iadd (pc := 32) h dX4_stepOverWord_32 ?_
        refine k_puti (pc := 33) h fl_X4_26 ly_26 rfl dX4_stepOverWord_33 hk (fun u3 hk => ?_)
        refine k_goto (tgt := 0) (pc := 36) h dX4_stepOverWord_36 rfl ?_
        have hk := Option.some.inj hk
        subst hk
        exact hz
  obtain ⟨r4, hl5, hk⟩ := bd_some hk
  refine LB0 _ _ _ hl5 ?_
  show G 39 [(0, .ref 26)] [] r4
  refine k_aload_n (pc := 39) h 0 dX4_stepOverWord_39 rfl ?_
  refine k_ldcS (pc := 40) h 0 (by decide) rfl dX4_stepOverWord_40 ?_
  obtain ⟨p7, hc6, hk⟩ := bd_some hk
  refine k_callV1 (pc := 42) h (c_X4_spells (by decide) hc6) cw_X4_98 ly_26 rfl ⟨⟨by decide, by decide⟩, Nat.zero_le _, Nat.zero_le _⟩ rfl (Nat.le_of_ble_eq_true rfl) dX4_stepOverWord_42 ?_
  refine k_if_eq (tgt := 56) (pc := 45) h dX4_stepOverWord_45 rfl hk (fun hc hk => ?_) (fun hc hk => ?_)
  · refine k_aload_n (pc := 56) h 0 dX4_stepOverWord_56 rfl ?_
    refine k_ldcS (pc := 57) h 1 (by decide) rfl dX4_stepOverWord_57 ?_
    obtain ⟨p9, hc8, hk⟩ := bd_some hk
    refine k_callV1 (pc := 59) h (c_X4_spells (by decide) hc8) cw_X4_98 ly_26 rfl ⟨⟨by decide, by decide⟩, Nat.zero_le _, Nat.zero_le _⟩ rfl (Nat.le_of_ble_eq_true rfl) dX4_stepOverWord_59 ?_
    refine k_if_eq (tgt := 73) (pc := 62) h dX4_stepOverWord_62 rfl hk (fun hc hk => ?_) (fun hc hk => ?_)
    · refine k_aload_n (pc := 73) h 0 dX4_stepOverWord_73 rfl ?_
      refine k_ldcS (pc := 74) h 2 (by decide) rfl dX4_stepOverWord_74 ?_
      obtain ⟨p11, hc10, hk⟩ := bd_some hk
      refine k_callV1 (pc := 76) h (c_X4_spells (by decide) hc10) cw_X4_98 ly_26 rfl ⟨⟨by decide, by decide⟩, Nat.zero_le _, Nat.zero_le _⟩ rfl (Nat.le_of_ble_eq_true rfl) dX4_stepOverWord_76 ?_
      refine k_if_eq (tgt := 90) (pc := 79) h dX4_stepOverWord_79 rfl hk (fun hc hk => ?_) (fun hc hk => ?_)
      · refine k_aload_n (pc := 90) h 0 dX4_stepOverWord_90 rfl ?_
        refine k_bipush (pc := 91) h (x := (6 : Int32)) dX4_stepOverWord_91 (by decide) ?_
        refine k_puti (pc := 93) h fl_X4_36 ly_26 rfl dX4_stepOverWord_93 hk (fun u12 hk => ?_)
        have hk := Option.some.inj hk
        subst hk
        exact k_vret (pc := 96) h dX4_stepOverWord_96 ⟨rfl, rfl, rfl, rfl, rfl, rfl⟩
      · refine k_aload_n (pc := 82) h 0 dX4_stepOverWord_82 rfl ?_
        refine k_iconst (pc := 83) h (x := (5 : Int32)) dX4_stepOverWord_83 (by decide) ?_
        refine k_puti (pc := 84) h fl_X4_36 ly_26 rfl dX4_stepOverWord_84 hk (fun u13 hk => ?_)
        refine k_goto (tgt := 96) (pc := 87) h dX4_stepOverWord_87 rfl ?_
        have hk := Option.some.inj hk
        subst hk
        exact k_vret (pc := 96) h dX4_stepOverWord_96 ⟨rfl, rfl, rfl, rfl, rfl, rfl⟩
    · refine k_aload_n (pc := 65) h 0 dX4_stepOverWord_65 rfl ?_
      refine k_iconst (pc := 66) h (x := (4 : Int32)) dX4_stepOverWord_66 (by decide) ?_
      refine k_puti (pc := 67) h fl_X4_36 ly_26 rfl dX4_stepOverWord_67 hk (fun u14 hk => ?_)
      refine k_goto (tgt := 96) (pc := 70) h dX4_stepOverWord_70 rfl ?_
      have hk := Option.some.inj hk
      subst hk
      exact k_vret (pc := 96) h dX4_stepOverWord_96 ⟨rfl, rfl, rfl, rfl, rfl, rfl⟩
  · refine k_aload_n (pc := 48) h 0 dX4_stepOverWord_48 rfl ?_
    refine k_iconst (pc := 49) h (x := (3 : Int32)) dX4_stepOverWord_49 (by decide) ?_
    refine k_puti (pc := 50) h fl_X4_36 ly_26 rfl dX4_stepOverWord_50 hk (fun u15 hk => ?_)
    refine k_goto (tgt := 96) (pc := 53) h dX4_stepOverWord_53 rfl ?_
    have hk := Option.some.inj hk
    subst hk
    exact k_vret (pc := 96) h dX4_stepOverWord_96 ⟨rfl, rfl, rfl, rfl, rfl, rfl⟩
def f_X7_count (w : WW) (l1 : Int32) : Option (Int32 × WW) := (f_X7_within w l1 (0 : Int32) (5 : Int32)).bind (fun p2 => if p2 = 0 then (f_X7_refuse w (-2 : Int32) (-2 : Int32)).bind (fun p6 => some (p6.1, p6.2)) else (f_X7_howMany w l1).bind (fun p4 => some (p4, w)))
set_option maxRecDepth 20000 in
set_option maxHeartbeats 4000000 in
theorem c_X7_count {w : WW} {l1 : Int32} {z : Int32 × WW} (hk : f_X7_count w l1 = some z) : Cn 6 yX7_count cX7_count 2 (some .int) LAY [.ref 0, .int l1] w (some (.int z.1)) z.2 := by
  refine Cn.of (by decide +kernel) (Nat.le_of_ble_eq_true rfl) (fun G h => ?_)
  have h : Rules cX7_count RX7 "count" 2 (rmd 6 0 0) none _ _ LAY 0 0 G := h
  show G 0 [(0, .ref 0), (1, .int l1)] [] w
  unfold f_X7_count at hk
  refine k_iload_n (pc := 0) h 1 dX7_count_0 rfl ?_
  refine k_iconst (pc := 1) h (x := (0 : Int32)) dX7_count_1 (by decide) ?_
  refine k_iconst (pc := 2) h (x := (5 : Int32)) dX7_count_2 (by decide) ?_
  obtain ⟨p2, hc1, hk⟩ := bd_some hk
  refine k_callS1 (pc := 3) h (c_X7_within hc1) cw_X7_75 ⟨⟨by decide, by decide⟩, Nat.zero_le _, Nat.zero_le _⟩ rfl (Nat.le_of_ble_eq_true rfl) dX7_count_3 ?_
  refine k_if_ne (tgt := 18) (pc := 6) h dX7_count_6 rfl hk (fun hc hk => ?_) (fun hc hk => ?_)
  · refine k_aload_n (pc := 18) h 0 dX7_count_18 rfl ?_
    refine k_iload_n (pc := 19) h 1 dX7_count_19 rfl ?_
    obtain ⟨p4, hc3, hk⟩ := bd_some hk
    refine k_callV1 (pc := 20) h (c_X7_howMany hc3) cw_X7_250 ly_0 rfl ⟨⟨by decide, by decide⟩, Nat.zero_le _, Nat.zero_le _⟩ rfl (Nat.le_of_ble_eq_true rfl) dX7_count_20 ?_
    have hk := Option.some.inj hk
    subst hk
    exact k_iret (pc := 23) h dX7_count_23 ⟨rfl, rfl, rfl, rfl, rfl, ⟨.int, rfl, rfl⟩⟩
  · refine k_aload_n (pc := 9) h 0 dX7_count_9 rfl ?_
    refine k_bipush (pc := 10) h (x := (-2 : Int32)) dX7_count_10 (by decide) ?_
    refine k_bipush (pc := 12) h (x := (-2 : Int32)) dX7_count_12 (by decide) ?_
    obtain ⟨p6, hc5, hk⟩ := bd_some hk
    refine k_callV1 (pc := 14) h (c_X7_refuse hc5) cw_X7_79 ly_0 rfl ⟨⟨by decide, by decide⟩, Nat.zero_le _, Nat.zero_le _⟩ rfl (Nat.le_of_ble_eq_true rfl) dX7_count_14 ?_
    have hk := Option.some.inj hk
    subst hk
    exact k_iret (pc := 17) h dX7_count_17 ⟨rfl, rfl, rfl, rfl, rfl, ⟨.int, rfl, rfl⟩⟩
def f_X7_digest_b6 (w : WW) (l1 : Int64) (l3 : Int32) : Option ((Int64 × Int32) ⊕ (Int64)) := if (6 : Int32) ≤ l3 then some (.inr l1) else (f_X7_howMany w l3).bind (fun p2 => nmv (((31 : Int64) * l1) + ((p2).toInt64)) (fun v3 => some (.inl (v3, (l3 + (1 : Int32))))))
def f_X7_digest (w : WW) : Option (Int64) := (lpf (fun s : Int64 × Int32 => f_X7_digest_b6 w s.1 s.2) FU ((1091 : Int64), (0 : Int32))).bind (fun r4 => (f_X6_mixInto 1 w r4).bind (fun p7 => nmv (((31 : Int64) * p7) + (w.2 36 0)) (fun v8 => some ((((31 : Int64) * v8) + (w.2 36 1))))))
set_option maxRecDepth 20000 in
set_option maxHeartbeats 4000000 in
theorem c_X7_digest {w : WW} {z : Int64} (hk : f_X7_digest w = some z) : Cn 6 yX7_digest cX7_digest 4 (some .long) LAY [.ref 0] w (some (.long z)) w := by
  refine Cn.of (by decide +kernel) (Nat.le_of_ble_eq_true rfl) (fun G h => ?_)
  have h : Rules cX7_digest RX7 "digest" 4 (rmd 6 0 0) none _ _ LAY 0 0 G := h
  show G 0 [(0, .ref 0)] [] w
  unfold f_X7_digest at hk
  have LB6 : ∀ (nn : Nat) (s : Int64 × Int32) (r : Int64), lpf (fun s : Int64 × Int32 => f_X7_digest_b6 w s.1 s.2) nn s = some r → (fun r : Int64 => G 31 [(0, .ref 0), (1, .long r)] [] w) r → (fun s : Int64 × Int32 => G 6 [(0, .ref 0), (1, .long s.1), (3, .int s.2)] [] w) s := by
    refine lpf_ind (fun s : Int64 × Int32 => G 6 [(0, .ref 0), (1, .long s.1), (3, .int s.2)] [] w) (fun r : Int64 => G 31 [(0, .ref 0), (1, .long r)] [] w) ?_
    rintro ⟨l1, l3⟩ z hk hz
    have hk : f_X7_digest_b6 w l1 l3 = some z := hk
    unfold f_X7_digest_b6 at hk
    show G 6 [(0, .ref 0), (1, .long l1), (3, .int l3)] [] w
    refine k_iload_n (pc := 6) h 2 dX7_digest_6 rfl ?_
    refine k_bipush (pc := 7) h (x := (6 : Int32)) dX7_digest_7 (by decide) ?_
    refine k_icmp_ge (tgt := 31) (pc := 9) h dX7_digest_9 rfl hk (fun hc hk => ?_) (fun hc hk => ?_)
    · refine k_sub h [0, 1] (lv' := [(0, .ref 0), (1, .long l1)]) rfl ?_
      have hk := Option.some.inj hk
      subst hk
      exact hz
    · refine k_ldc2 (pc := 12) h (x := (31 : Int64)) cs_X7_254 dX7_digest_12 ?_
      refine k_lload_n (pc := 15) h 1 dX7_digest_15 rfl ?_
      refine k_lmul (pc := 16) h dX7_digest_16 ?_
      refine k_aload_n (pc := 17) h 0 dX7_digest_17 rfl ?_
      refine k_iload_n (pc := 18) h 2 dX7_digest_18 rfl ?_
      obtain ⟨p2, hc1, hk⟩ := bd_some hk
      refine k_callV1 (pc := 19) h (c_X7_howMany hc1) cw_X7_250 ly_0 rfl ⟨⟨by decide, by decide⟩, Nat.zero_le _, Nat.zero_le _⟩ rfl (Nat.le_of_ble_eq_true rfl) dX7_digest_19 ?_
      refine k_i2l (pc := 22) h dX7_digest_22 ?_
      refine k_ladd (pc := 23) h dX7_digest_23 ?_
      refine k_nml (pc := 24) h hk (fun v3 hk => ?_)
      refine k_lstore_n (pc := 24) h [1, 0, 2] (lv' := [(0, .ref 0), (1, .long v3), (3, .int l3)]) dX7_digest_24 rfl (by decide) rfl ?_
      refine k_iinc (pc := 25) h 2 [1, 2, 0] (v := (l3 + (1 : Int32))) (lv' := [(0, .ref 0), (1, .long v3), (3, .int (l3 + (1 : Int32)))]) dX7_digest_25 rfl rfl (by decide) rfl ?_
      refine k_goto (tgt := 6) (pc := 28) h dX7_digest_28 rfl ?_
      have hk := Option.some.inj hk
      subst hk
      exact hz
  refine k_ldc2 (pc := 0) h (x := (1091 : Int64)) cs_X7_252 dX7_digest_0 ?_
  refine k_lstore_n (pc := 3) h [1, 0] (lv' := [(0, .ref 0), (1, .long (1091 : Int64))]) dX7_digest_3 rfl (by decide) rfl ?_
  refine k_iconst (pc := 4) h (x := (0 : Int32)) dX7_digest_4 (by decide) ?_
  refine k_istore_n (pc := 5) h [1, 2, 0] (lv' := [(0, .ref 0), (1, .long (1091 : Int64)), (3, .int (0 : Int32))]) dX7_digest_5 rfl (by decide) rfl ?_
  obtain ⟨r4, hl5, hk⟩ := bd_some hk
  refine LB6 _ _ _ hl5 ?_
  show G 31 [(0, .ref 0), (1, .long r4)] [] w
  refine k_aload_n (pc := 31) h 0 dX7_digest_31 rfl ?_
  refine k_getr (pc := 32) h fl_X7_10 ly_0 rfl dX7_digest_32 ?_
  refine k_lload_n (pc := 35) h 1 dX7_digest_35 rfl ?_
  obtain ⟨p7, hc6, hk⟩ := bd_some hk
  refine k_callV1 (pc := 36) h (c_X6_mixInto st_1 hc6) cw_X7_256 ly_1 rfl ⟨⟨by decide, by decide⟩, Nat.zero_le _, Nat.zero_le _⟩ rfl (Nat.le_of_ble_eq_true rfl) dX7_digest_36 ?_
  refine k_lstore_n (pc := 39) h [1, 0] (lv' := [(0, .ref 0), (1, .long p7)]) dX7_digest_39 rfl (by decide) rfl ?_
  refine k_ldc2 (pc := 40) h (x := (31 : Int64)) cs_X7_254 dX7_digest_40 ?_
  refine k_lload_n (pc := 43) h 1 dX7_digest_43 rfl ?_
  refine k_lmul (pc := 44) h dX7_digest_44 ?_
  refine k_aload_n (pc := 45) h 0 dX7_digest_45 rfl ?_
  refine k_getr (pc := 46) h fl_X7_36 ly_0 rfl dX7_digest_46 ?_
  refine k_getl (pc := 49) h fl_X7_240 ly_36 rfl dX7_digest_49 ?_
  refine k_ladd (pc := 52) h dX7_digest_52 ?_
  refine k_nml (pc := 53) h hk (fun v8 hk => ?_)
  refine k_lstore_n (pc := 53) h [1, 0] (lv' := [(0, .ref 0), (1, .long v8)]) dX7_digest_53 rfl (by decide) rfl ?_
  refine k_ldc2 (pc := 54) h (x := (31 : Int64)) cs_X7_254 dX7_digest_54 ?_
  refine k_lload_n (pc := 57) h 1 dX7_digest_57 rfl ?_
  refine k_lmul (pc := 58) h dX7_digest_58 ?_
  refine k_aload_n (pc := 59) h 0 dX7_digest_59 rfl ?_
  refine k_getr (pc := 60) h fl_X7_36 ly_0 rfl dX7_digest_60 ?_
  refine k_getl (pc := 63) h fl_X7_243 ly_36 rfl dX7_digest_63 ?_
  refine k_ladd (pc := 66) h dX7_digest_66 ?_
  have hk := Option.some.inj hk
  subst hk
  exact k_lret (pc := 67) h dX7_digest_67 ⟨rfl, rfl, rfl, rfl, rfl, rfl⟩
def f_X8_read_b27 (l1 : Int32) (l2 : Int32) (w : WW) : Option ((Int32 × WW) ⊕ (WW)) := if (16 : Int32) ≤ l2 then some (.inr w) else gd (inb l2 16) (gd (inb l2 16) (stI w 48 (l2).toNatClampNeg (w.1 54 (l2).toNatClampNeg) (fun u5 => some (.inl ((l2 + (1 : Int32)), u5)))))
def f_X8_read_b53 (l1 : Int32) (l2 : Int32) (w : WW) : Option ((Int32 × WW) ⊕ (WW)) := if (w.1 46 13) ≤ l2 then some (.inr w) else gd (inb ((3 : Int32) * l2) 21) (gd (inb (((3 : Int32) * l2) + (1 : Int32)) 21) (gd (inb (((3 : Int32) * l2) + (2 : Int32)) 21) ((f_X8_add w (w.1 55 (((3 : Int32) * l2)).toNatClampNeg) (w.1 55 ((((3 : Int32) * l2) + (1 : Int32))).toNatClampNeg) (w.1 55 ((((3 : Int32) * l2) + (2 : Int32))).toNatClampNeg)).bind (fun p9 => some (.inl ((l2 + (1 : Int32)), p9.2))))))
def f_X8_read (w : WW) : Option (Int32 × WW) := (f_X8_readsFair w).bind (fun p2 => if 0 ≤ p2.1 then (f_X8_begin p2.2 (p2.2.1 46 12)).bind (fun p4 => (lpf (fun s : Int32 × WW => f_X8_read_b27 p2.1 s.1 s.2) FU ((0 : Int32), p4)).bind (fun r6 => (lpf (fun s : Int32 × WW => f_X8_read_b53 p2.1 s.1 s.2) FU ((0 : Int32), r6)).bind (fun r10 => some (p2.1, r10)))) else some (((-10 : Int32) - (p2.2.1 46 11)), p2.2))
set_option maxRecDepth 20000 in
set_option maxHeartbeats 4000000 in
theorem c_X8_read {w : WW} {z : Int32 × WW} (hk : f_X8_read w = some z) : Cn 6 yX8_read cX8_read 3 (some .int) LAY [.ref 46] w (some (.int z.1)) z.2 := by
  refine Cn.of (by decide +kernel) (Nat.le_of_ble_eq_true rfl) (fun G h => ?_)
  have h : Rules cX8_read RX8 "read" 3 (rmd 6 0 0) none _ _ LAY 0 0 G := h
  show G 0 [(0, .ref 46)] [] w
  unfold f_X8_read at hk
  have LB27 : ∀ (l1 : Int32), ∀ (nn : Nat) (s : Int32 × WW) (r : WW), lpf (fun s : Int32 × WW => f_X8_read_b27 l1 s.1 s.2) nn s = some r → (fun r : WW => G 51 [(0, .ref 46), (1, .int l1)] [] r) r → (fun s : Int32 × WW => G 27 [(0, .ref 46), (1, .int l1), (2, .int s.1)] [] s.2) s := by
    intro l1
    refine lpf_ind (fun s : Int32 × WW => G 27 [(0, .ref 46), (1, .int l1), (2, .int s.1)] [] s.2) (fun r : WW => G 51 [(0, .ref 46), (1, .int l1)] [] r) ?_
    rintro ⟨l2, w⟩ z hk hz
    have hk : f_X8_read_b27 l1 l2 w = some z := hk
    unfold f_X8_read_b27 at hk
    show G 27 [(0, .ref 46), (1, .int l1), (2, .int l2)] [] w
    refine k_iload_n (pc := 27) h 2 dX8_read_27 rfl ?_
    refine k_bipush (pc := 28) h (x := (16 : Int32)) dX8_read_28 (by decide) ?_
    refine k_icmp_ge (tgt := 51) (pc := 30) h dX8_read_30 rfl hk (fun hc hk => ?_) (fun hc hk => ?_)
    · refine k_sub h [0, 1] (lv' := [(0, .ref 46), (1, .int l1)]) rfl ?_
      have hk := Option.some.inj hk
      subst hk
      exact hz
    · refine k_aload_n (pc := 33) h 0 dX8_read_33 rfl ?_
      refine k_getr (pc := 34) h fl_X8_17 ly_46 rfl dX8_read_34 ?_
      refine k_iload_n (pc := 37) h 2 dX8_read_37 rfl ?_
      refine k_aload_n (pc := 38) h 0 dX8_read_38 rfl ?_
      refine k_getr (pc := 39) h fl_X8_35 ly_46 rfl dX8_read_39 ?_
      refine k_iload_n (pc := 42) h 2 dX8_read_42 rfl ?_
      refine k_iald (pc := 43) h ly_54 dX8_read_43 hk (fun hk => ?_)
      refine k_iast (pc := 44) h ly_48 dX8_read_44 hk (fun u5 hk => ?_)
      refine k_iinc (pc := 45) h 2 [1, 2, 0] (v := (l2 + (1 : Int32))) (lv' := [(0, .ref 46), (1, .int l1), (2, .int (l2 + (1 : Int32)))]) dX8_read_45 rfl rfl (by decide) rfl ?_
      refine k_goto (tgt := 27) (pc := 48) h dX8_read_48 rfl ?_
      have hk := Option.some.inj hk
      subst hk
      exact hz
  have LB53 : ∀ (l1 : Int32), ∀ (nn : Nat) (s : Int32 × WW) (r : WW), lpf (fun s : Int32 × WW => f_X8_read_b53 l1 s.1 s.2) nn s = some r → (fun r : WW => G 100 [(1, .int l1)] [] r) r → (fun s : Int32 × WW => G 53 [(0, .ref 46), (1, .int l1), (2, .int s.1)] [] s.2) s := by
    intro l1
    refine lpf_ind (fun s : Int32 × WW => G 53 [(0, .ref 46), (1, .int l1), (2, .int s.1)] [] s.2) (fun r : WW => G 100 [(1, .int l1)] [] r) ?_
    rintro ⟨l2, w⟩ z hk hz
    have hk : f_X8_read_b53 l1 l2 w = some z := hk
    unfold f_X8_read_b53 at hk
    show G 53 [(0, .ref 46), (1, .int l1), (2, .int l2)] [] w
    refine k_iload_n (pc := 53) h 2 dX8_read_53 rfl ?_
    refine k_aload_n (pc := 54) h 0 dX8_read_54 rfl ?_
    refine k_geti (pc := 55) h fl_X8_145 ly_46 rfl dX8_read_55 ?_
    refine k_icmp_ge (tgt := 100) (pc := 58) h dX8_read_58 rfl hk (fun hc hk => ?_) (fun hc hk => ?_)
    · refine k_sub h [1] (lv' := [(1, .int l1)]) rfl ?_
      have hk := Option.some.inj hk
      subst hk
      exact hz
    · refine k_aload_n (pc := 61) h 0 dX8_read_61 rfl ?_
      refine k_aload_n (pc := 62) h 0 dX8_read_62 rfl ?_
      refine k_getr (pc := 63) h fl_X8_38 ly_46 rfl dX8_read_63 ?_
      refine k_iconst (pc := 66) h (x := (3 : Int32)) dX8_read_66 (by decide) ?_
      refine k_iload_n (pc := 67) h 2 dX8_read_67 rfl ?_
      refine k_imul (pc := 68) h dX8_read_68 ?_
      refine k_iald (pc := 69) h ly_55 dX8_read_69 hk (fun hk => ?_)
      refine k_aload_n (pc := 70) h 0 dX8_read_70 rfl ?_
      refine k_getr (pc := 71) h fl_X8_38 ly_46 rfl dX8_read_71 ?_
      refine k_iconst (pc := 74) h (x := (3 : Int32)) dX8_read_74 (by decide) ?_
      refine k_iload_n (pc := 75) h 2 dX8_read_75 rfl ?_
      refine k_imul (pc := 76) h dX8_read_76 ?_
      refine k_iconst (pc := 77) h (x := (1 : Int32)) dX8_read_77 (by decide) ?_
      refine k_iadd (pc := 78) h dX8_read_78 ?_
      refine k_iald (pc := 79) h ly_55 dX8_read_79 hk (fun hk => ?_)
      refine k_aload_n (pc := 80) h 0 dX8_read_80 rfl ?_
      refine k_getr (pc := 81) h fl_X8_38 ly_46 rfl dX8_read_81 ?_
      refine k_iconst (pc := 84) h (x := (3 : Int32)) dX8_read_84 (by decide) ?_
      refine k_iload_n (pc := 85) h 2 dX8_read_85 rfl ?_
      refine k_imul (pc := 86) h dX8_read_86 ?_
      refine k_iconst (pc := 87) h (x := (2 : Int32)) dX8_read_87 (by decide) ?_
      refine k_iadd (pc := 88) h dX8_read_88 ?_
      refine k_iald (pc := 89) h ly_55 dX8_read_89 hk (fun hk => ?_)
      obtain ⟨p9, hc8, hk⟩ := bd_some hk
      refine k_callV1 (pc := 90) h (c_X8_add hc8) cw_X8_99 ly_46 rfl ⟨⟨by decide, by decide⟩, Nat.zero_le _, Nat.zero_le _⟩ rfl (Nat.le_of_ble_eq_true rfl) dX8_read_90 ?_
      refine k_pop (pc := 93) h dX8_read_93 rfl ?_
      refine k_iinc (pc := 94) h 2 [1, 2, 0] (v := (l2 + (1 : Int32))) (lv' := [(0, .ref 46), (1, .int l1), (2, .int (l2 + (1 : Int32)))]) dX8_read_94 rfl rfl (by decide) rfl ?_
      refine k_goto (tgt := 53) (pc := 97) h dX8_read_97 rfl ?_
      have hk := Option.some.inj hk
      subst hk
      exact hz
  refine k_aload_n (pc := 0) h 0 dX8_read_0 rfl ?_
  obtain ⟨p2, hc1, hk⟩ := bd_some hk
  refine k_callV1 (pc := 1) h (c_X8_readsFair hc1) cw_X8_163 ly_46 rfl ⟨⟨by decide, by decide⟩, Nat.zero_le _, Nat.zero_le _⟩ rfl (Nat.le_of_ble_eq_true rfl) dX8_read_1 ?_
  refine k_istore_n (pc := 4) h [1, 0] (lv' := [(0, .ref 46), (1, .int p2.1)]) dX8_read_4 rfl (by decide) rfl ?_
  refine k_iload_n (pc := 5) h 1 dX8_read_5 rfl ?_
  refine k_if_ge (tgt := 17) (pc := 6) h dX8_read_6 rfl hk (fun hc hk => ?_) (fun hc hk => ?_)
  · refine k_aload_n (pc := 17) h 0 dX8_read_17 rfl ?_
    refine k_aload_n (pc := 18) h 0 dX8_read_18 rfl ?_
    refine k_geti (pc := 19) h fl_X8_134 ly_46 rfl dX8_read_19 ?_
    obtain ⟨p4, hc3, hk⟩ := bd_some hk
    refine k_callV0 (pc := 22) h (c_X8_begin hc3) cw_X8_71 ly_46 rfl ⟨⟨by decide, by decide⟩, Nat.zero_le _, Nat.zero_le _⟩ rfl (Nat.le_of_ble_eq_true rfl) dX8_read_22 ?_
    refine k_iconst (pc := 25) h (x := (0 : Int32)) dX8_read_25 (by decide) ?_
    refine k_istore_n (pc := 26) h [1, 2, 0] (lv' := [(0, .ref 46), (1, .int p2.1), (2, .int (0 : Int32))]) dX8_read_26 rfl (by decide) rfl ?_
    obtain ⟨r6, hl7, hk⟩ := bd_some hk
    refine LB27 _ _ _ _ hl7 ?_
    show G 51 [(0, .ref 46), (1, .int p2.1)] [] r6
    refine k_iconst (pc := 51) h (x := (0 : Int32)) dX8_read_51 (by decide) ?_
    refine k_istore_n (pc := 52) h [1, 2, 0] (lv' := [(0, .ref 46), (1, .int p2.1), (2, .int (0 : Int32))]) dX8_read_52 rfl (by decide) rfl ?_
    obtain ⟨r10, hl11, hk⟩ := bd_some hk
    refine LB53 _ _ _ _ hl11 ?_
    show G 100 [(1, .int p2.1)] [] r10
    refine k_iload_n (pc := 100) h 0 dX8_read_100 rfl ?_
    have hk := Option.some.inj hk
    subst hk
    exact k_iret (pc := 101) h dX8_read_101 ⟨rfl, rfl, rfl, rfl, rfl, ⟨.int, rfl, rfl⟩⟩
  · refine k_bipush (pc := 9) h (x := (-10 : Int32)) dX8_read_9 (by decide) ?_
    refine k_aload_n (pc := 11) h 0 dX8_read_11 rfl ?_
    refine k_geti (pc := 12) h fl_X8_109 ly_46 rfl dX8_read_12 ?_
    refine k_isub (pc := 15) h dX8_read_15 ?_
    have hk := Option.some.inj hk
    subst hk
    exact k_iret (pc := 16) h dX8_read_16 ⟨rfl, rfl, rfl, rfl, rfl, ⟨.int, rfl, rfl⟩⟩
def f_X4_step_b0 (w : WW) : Option ((WW) ⊕ (WW)) := if (w.1 26 1) ≤ (w.1 26 4) then some (.inr w) else gd (inb (w.1 26 4) 150) (if (w.1 27 ((w.1 26 4)).toNatClampNeg) = (32 : Int32) then stI w 26 4 ((w.1 26 4) + (1 : Int32)) (fun u1 => some (.inl u1)) else some (.inr w))
def f_X4_step_j130 (w : WW) (s0 : Int32) : Option (WW) := stI w 26 5 s0 (fun u9 => stI u9 26 4 ((u9.1 26 4) + (1 : Int32)) (fun u10 => some u10))
def f_X4_step (w : WW) : Option (WW) := (lpf (fun s : WW => f_X4_step_b0 s) FU w).bind (fun r2 => stI r2 26 3 (r2.1 26 4) (fun u4 => if (u4.1 26 4) < (u4.1 26 1) then gd (inb (u4.1 26 4) 150) ((f_X4_isFigure u4 (u4.1 27 ((u4.1 26 4)).toNatClampNeg)).bind (fun p6 => if p6 = 0 then gd (inb (u4.1 26 4) 150) ((f_X4_isLetter u4 (u4.1 27 ((u4.1 26 4)).toNatClampNeg)).bind (fun p8 => if p8 = 0 then gd (inb (u4.1 26 4) 150) (if (u4.1 27 ((u4.1 26 4)).toNatClampNeg) = (59 : Int32) then f_X4_step_j130 u4 (2 : Int32) else f_X4_step_j130 u4 (6 : Int32)) else (f_X4_stepOverWord u4).bind (fun p12 => some p12))) else (f_X4_stepOverNumber u4).bind (fun p14 => some p14))) else stI u4 26 5 (0 : Int32) (fun u15 => some u15)))
set_option maxRecDepth 20000 in
set_option maxHeartbeats 4000000 in
theorem c_X4_step {w : WW} {z : WW} (hk : f_X4_step w = some z) : Cn 7 yX4_step cX4_step 1 none LAY [.ref 26] w none z := by
  refine Cn.of (by decide +kernel) (Nat.le_of_ble_eq_true rfl) (fun G h => ?_)
  have h : Rules cX4_step RX4 "step" 1 (rmd 7 0 0) none _ _ LAY 0 0 G := h
  show G 0 [(0, .ref 26)] [] w
  unfold f_X4_step at hk
  have LB0 : ∀ (nn : Nat) (s : WW) (r : WW), lpf (fun s : WW => f_X4_step_b0 s) nn s = some r → (fun r : WW => G 38 [(0, .ref 26)] [] r) r → (fun s : WW => G 0 [(0, .ref 26)] [] s) s := by
    refine lpf_ind (fun s : WW => G 0 [(0, .ref 26)] [] s) (fun r : WW => G 38 [(0, .ref 26)] [] r) ?_
    rintro w z hk hz
    have hk : f_X4_step_b0 w = some z := hk
    unfold f_X4_step_b0 at hk
    show G 0 [(0, .ref 26)] [] w
    refine k_aload_n (pc := 0) h 0 dX4_step_0 rfl ?_
    refine k_geti (pc := 1) h fl_X4_26 ly_26 rfl dX4_step_1 ?_
    refine k_aload_n (pc := 4) h 0 dX4_step_4 rfl ?_
    refine k_geti (pc := 5) h fl_X4_22 ly_26 rfl dX4_step_5 ?_
    refine k_icmp_ge (tgt := 38) (pc := 8) h dX4_step_8 rfl hk (fun hc hk => ?_) (fun hc hk => ?_)
    · have hk := Option.some.inj hk
      subst hk
      exact hz
    · refine k_aload_n (pc := 11) h 0 dX4_step_11 rfl ?_
      refine k_getr (pc := 12) h fl_X4_9 ly_26 rfl dX4_step_12 ?_
      refine k_aload_n (pc := 15) h 0 dX4_step_15 rfl ?_
      refine k_geti (pc := 16) h fl_X4_26 ly_26 rfl dX4_step_16 ?_
      refine k_bald (pc := 19) h ly_27 dX4_step_19 hk (fun hk => ?_)
      refine k_bipush (pc := 20) h (x := (32 : Int32)) dX4_step_20 (by decide) ?_
      refine k_icmp_ne (tgt := 38) (pc := 22) h dX4_step_22 rfl hk (fun hc hk => ?_) (fun hc hk => ?_)
      · have hk := Option.some.inj hk
        subst hk
        exact hz
      · refine k_aload_n (pc := 25) h 0 dX4_step_25 rfl ?_
        refine k_dup (pc := 26) h dX4_step_26 rfl ?_
        refine k_geti (pc := 27) h fl_X4_26 ly_26 rfl dX4_step_27 ?_
        refine k_iconst (pc := 30) h (x := (1 : Int32)) dX4_step_30 (by decide) ?_
        refine k_iadd (pc := 31) h dX4_step_31 ?_
        refine k_puti (pc := 32) h fl_X4_26 ly_26 rfl dX4_step_32 hk (fun u1 hk => ?_)
        refine k_goto (tgt := 0) (pc := 35) h dX4_step_35 rfl ?_
        have hk := Option.some.inj hk
        subst hk
        exact hz
  have EJ130 : ∀ (w : WW) (s0 : Int32), f_X4_step_j130 w s0 = some z → G 130 [(0, .ref 26)] [.int s0, .ref 26] w := by
    intro w s0 hk
    unfold f_X4_step_j130 at hk
    refine k_puti (pc := 130) h fl_X4_36 ly_26 rfl dX4_step_130 hk (fun u9 hk => ?_)
    refine k_aload_n (pc := 133) h 0 dX4_step_133 rfl ?_
    refine k_dup (pc := 134) h dX4_step_134 rfl ?_
    refine k_geti (pc := 135) h fl_X4_26 ly_26 rfl dX4_step_135 ?_
    refine k_iconst (pc := 138) h (x := (1 : Int32)) dX4_step_138 (by decide) ?_
    refine k_iadd (pc := 139) h dX4_step_139 ?_
    refine k_puti (pc := 140) h fl_X4_26 ly_26 rfl dX4_step_140 hk (fun u10 hk => ?_)
    have hk := Option.some.inj hk
    subst hk
    exact k_vret (pc := 143) h dX4_step_143 ⟨rfl, rfl, rfl, rfl, rfl, rfl⟩
  obtain ⟨r2, hl3, hk⟩ := bd_some hk
  refine LB0 _ _ _ hl3 ?_
  show G 38 [(0, .ref 26)] [] r2
  refine k_aload_n (pc := 38) h 0 dX4_step_38 rfl ?_
  refine k_aload_n (pc := 39) h 0 dX4_step_39 rfl ?_
  refine k_geti (pc := 40) h fl_X4_26 ly_26 rfl dX4_step_40 ?_
  refine k_puti (pc := 43) h fl_X4_80 ly_26 rfl dX4_step_43 hk (fun u4 hk => ?_)
  refine k_aload_n (pc := 46) h 0 dX4_step_46 rfl ?_
  refine k_geti (pc := 47) h fl_X4_26 ly_26 rfl dX4_step_47 ?_
  refine k_aload_n (pc := 50) h 0 dX4_step_50 rfl ?_
  refine k_geti (pc := 51) h fl_X4_22 ly_26 rfl dX4_step_51 ?_
  refine k_icmp_lt (tgt := 65) (pc := 54) h dX4_step_54 rfl hk (fun hc hk => ?_) (fun hc hk => ?_)
  · refine k_aload_n (pc := 65) h 0 dX4_step_65 rfl ?_
    refine k_getr (pc := 66) h fl_X4_9 ly_26 rfl dX4_step_66 ?_
    refine k_aload_n (pc := 69) h 0 dX4_step_69 rfl ?_
    refine k_geti (pc := 70) h fl_X4_26 ly_26 rfl dX4_step_70 ?_
    refine k_bald (pc := 73) h ly_27 dX4_step_73 hk (fun hk => ?_)
    obtain ⟨p6, hc5, hk⟩ := bd_some hk
    refine k_callS1 (pc := 74) h (c_X4_isFigure hc5) cw_X4_83 ⟨⟨by decide, by decide⟩, Nat.zero_le _, Nat.zero_le _⟩ rfl (Nat.le_of_ble_eq_true rfl) dX4_step_74 ?_
    refine k_if_eq (tgt := 87) (pc := 77) h dX4_step_77 rfl hk (fun hc hk => ?_) (fun hc hk => ?_)
    · refine k_aload_n (pc := 87) h 0 dX4_step_87 rfl ?_
      refine k_getr (pc := 88) h fl_X4_9 ly_26 rfl dX4_step_88 ?_
      refine k_aload_n (pc := 91) h 0 dX4_step_91 rfl ?_
      refine k_geti (pc := 92) h fl_X4_26 ly_26 rfl dX4_step_92 ?_
      refine k_bald (pc := 95) h ly_27 dX4_step_95 hk (fun hk => ?_)
      obtain ⟨p8, hc7, hk⟩ := bd_some hk
      refine k_callS1 (pc := 96) h (c_X4_isLetter hc7) cw_X4_90 ⟨⟨by decide, by decide⟩, Nat.zero_le _, Nat.zero_le _⟩ rfl (Nat.le_of_ble_eq_true rfl) dX4_step_96 ?_
      refine k_if_eq (tgt := 109) (pc := 99) h dX4_step_99 rfl hk (fun hc hk => ?_) (fun hc hk => ?_)
      · refine k_aload_n (pc := 109) h 0 dX4_step_109 rfl ?_
        refine k_aload_n (pc := 110) h 0 dX4_step_110 rfl ?_
        refine k_getr (pc := 111) h fl_X4_9 ly_26 rfl dX4_step_111 ?_
        refine k_aload_n (pc := 114) h 0 dX4_step_114 rfl ?_
        refine k_geti (pc := 115) h fl_X4_26 ly_26 rfl dX4_step_115 ?_
        refine k_bald (pc := 118) h ly_27 dX4_step_118 hk (fun hk => ?_)
        refine k_bipush (pc := 119) h (x := (59 : Int32)) dX4_step_119 (by decide) ?_
        refine k_icmp_ne (tgt := 128) (pc := 121) h dX4_step_121 rfl hk (fun hc hk => ?_) (fun hc hk => ?_)
        · refine k_bipush (pc := 128) h (x := (6 : Int32)) dX4_step_128 (by decide) ?_
          exact EJ130 _ _ hk
        · refine k_iconst (pc := 124) h (x := (2 : Int32)) dX4_step_124 (by decide) ?_
          refine k_goto (tgt := 130) (pc := 125) h dX4_step_125 rfl ?_
          exact EJ130 _ _ hk
      · refine k_aload_n (pc := 102) h 0 dX4_step_102 rfl ?_
        obtain ⟨p12, hc11, hk⟩ := bd_some hk
        refine k_callV0 (pc := 103) h (c_X4_stepOverWord hc11) cw_X4_93 ly_26 rfl ⟨⟨by decide, by decide⟩, Nat.zero_le _, Nat.zero_le _⟩ rfl (Nat.le_of_ble_eq_true rfl) dX4_step_103 ?_
        refine k_goto (tgt := 143) (pc := 106) h dX4_step_106 rfl ?_
        have hk := Option.some.inj hk
        subst hk
        exact k_vret (pc := 143) h dX4_step_143 ⟨rfl, rfl, rfl, rfl, rfl, rfl⟩
    · refine k_aload_n (pc := 80) h 0 dX4_step_80 rfl ?_
      obtain ⟨p14, hc13, hk⟩ := bd_some hk
      refine k_callV0 (pc := 81) h (c_X4_stepOverNumber hc13) cw_X4_87 ly_26 rfl ⟨⟨by decide, by decide⟩, Nat.zero_le _, Nat.zero_le _⟩ rfl (Nat.le_of_ble_eq_true rfl) dX4_step_81 ?_
      refine k_goto (tgt := 143) (pc := 84) h dX4_step_84 rfl ?_
      have hk := Option.some.inj hk
      subst hk
      exact k_vret (pc := 143) h dX4_step_143 ⟨rfl, rfl, rfl, rfl, rfl, rfl⟩
  · refine k_aload_n (pc := 57) h 0 dX4_step_57 rfl ?_
    refine k_iconst (pc := 58) h (x := (0 : Int32)) dX4_step_58 (by decide) ?_
    refine k_puti (pc := 59) h fl_X4_36 ly_26 rfl dX4_step_59 hk (fun u15 hk => ?_)
    refine k_goto (tgt := 143) (pc := 62) h dX4_step_62 rfl ?_
    have hk := Option.some.inj hk
    subst hk
    exact k_vret (pc := 143) h dX4_step_143 ⟨rfl, rfl, rfl, rfl, rfl, rfl⟩
def f_X4_stepToNumber_j28 (w : WW) : Option (Int32 × WW) := some ((0 : Int32), w)
def f_X4_stepToNumber (w : WW) (l1 : Int32) (l2 : Int32) : Option (Int32 × WW) := (f_X4_step w).bind (fun p2 => if (p2.1 26 5) = (1 : Int32) then (f_X7_within p2 (p2.1 26 6) l1 l2).bind (fun p4 => if p4 = 0 then f_X4_stepToNumber_j28 p2 else some ((1 : Int32), p2)) else f_X4_stepToNumber_j28 p2)
set_option maxRecDepth 20000 in
set_option maxHeartbeats 4000000 in
theorem c_X4_stepToNumber {w : WW} {l1 : Int32} {l2 : Int32} {z : Int32 × WW} (hk : f_X4_stepToNumber w l1 l2 = some z) : Cn 8 yX4_stepToNumber cX4_stepToNumber 3 (some .boolean) LAY [.ref 26, .int l1, .int l2] w (some (.int z.1)) z.2 := by
  refine Cn.of (by decide +kernel) (Nat.le_of_ble_eq_true rfl) (fun G h => ?_)
  have h : Rules cX4_stepToNumber RX4 "stepToNumber" 3 (rmd 8 0 0) none _ _ LAY 0 0 G := h
  show G 0 [(0, .ref 26), (1, .int l1), (2, .int l2)] [] w
  unfold f_X4_stepToNumber at hk
  have EJ28 : ∀ (w : WW), f_X4_stepToNumber_j28 w = some z → G 28 [] [] w := by
    intro w hk
    unfold f_X4_stepToNumber_j28 at hk
    refine k_iconst (pc := 28) h (x := (0 : Int32)) dX4_stepToNumber_28 (by decide) ?_
    have hk := Option.some.inj hk
    subst hk
    exact k_iret (pc := 29) h dX4_stepToNumber_29 ⟨rfl, rfl, rfl, rfl, rfl, ⟨.boolean, rfl, rfl⟩⟩
  refine k_aload_n (pc := 0) h 0 dX4_stepToNumber_0 rfl ?_
  obtain ⟨p2, hc1, hk⟩ := bd_some hk
  refine k_callV0 (pc := 1) h (c_X4_step hc1) cw_X4_33 ly_26 rfl ⟨⟨by decide, by decide⟩, Nat.zero_le _, Nat.zero_le _⟩ rfl (Nat.le_of_ble_eq_true rfl) dX4_stepToNumber_1 ?_
  refine k_aload_n (pc := 4) h 0 dX4_stepToNumber_4 rfl ?_
  refine k_geti (pc := 5) h fl_X4_36 ly_26 rfl dX4_stepToNumber_5 ?_
  refine k_iconst (pc := 8) h (x := (1 : Int32)) dX4_stepToNumber_8 (by decide) ?_
  refine k_icmp_ne (tgt := 28) (pc := 9) h dX4_stepToNumber_9 rfl hk (fun hc hk => ?_) (fun hc hk => ?_)
  · refine k_sub h [] (lv' := []) rfl ?_
    exact EJ28 _ hk
  · refine k_aload_n (pc := 12) h 0 dX4_stepToNumber_12 rfl ?_
    refine k_geti (pc := 13) h fl_X4_52 ly_26 rfl dX4_stepToNumber_13 ?_
    refine k_iload_n (pc := 16) h 1 dX4_stepToNumber_16 rfl ?_
    refine k_iload_n (pc := 17) h 2 dX4_stepToNumber_17 rfl ?_
    obtain ⟨p4, hc3, hk⟩ := bd_some hk
    refine k_callN1 (pc := 18) h (c_X7_within hc3) cw_X4_76 ⟨⟨by decide, by decide⟩, Nat.zero_le _, Nat.zero_le _⟩ rfl (Nat.le_of_ble_eq_true rfl) dX4_stepToNumber_18 ?_
    refine k_if_eq (tgt := 28) (pc := 21) h dX4_stepToNumber_21 rfl hk (fun hc hk => ?_) (fun hc hk => ?_)
    · refine k_sub h [] (lv' := []) rfl ?_
      exact EJ28 _ hk
    · refine k_iconst (pc := 24) h (x := (1 : Int32)) dX4_stepToNumber_24 (by decide) ?_
      refine k_goto (tgt := 29) (pc := 25) h dX4_stepToNumber_25 rfl ?_
      have hk := Option.some.inj hk
      subst hk
      exact k_iret (pc := 29) h dX4_stepToNumber_29 ⟨rfl, rfl, rfl, rfl, rfl, ⟨.boolean, rfl, rfl⟩⟩
def f_X4_stepToStop (w : WW) : Option (Int32 × WW) := (f_X4_step w).bind (fun p2 => if (p2.1 26 5) = (2 : Int32) then some ((1 : Int32), p2) else some ((0 : Int32), p2))
set_option maxRecDepth 20000 in
set_option maxHeartbeats 4000000 in
theorem c_X4_stepToStop {w : WW} {z : Int32 × WW} (hk : f_X4_stepToStop w = some z) : Cn 8 yX4_stepToStop cX4_stepToStop 1 (some .boolean) LAY [.ref 26] w (some (.int z.1)) z.2 := by
  refine Cn.of (by decide +kernel) (Nat.le_of_ble_eq_true rfl) (fun G h => ?_)
  have h : Rules cX4_stepToStop RX4 "stepToStop" 1 (rmd 8 0 0) none _ _ LAY 0 0 G := h
  show G 0 [(0, .ref 26)] [] w
  unfold f_X4_stepToStop at hk
  refine k_aload_n (pc := 0) h 0 dX4_stepToStop_0 rfl ?_
  obtain ⟨p2, hc1, hk⟩ := bd_some hk
  refine k_callV0 (pc := 1) h (c_X4_step hc1) cw_X4_33 ly_26 rfl ⟨⟨by decide, by decide⟩, Nat.zero_le _, Nat.zero_le _⟩ rfl (Nat.le_of_ble_eq_true rfl) dX4_stepToStop_1 ?_
  refine k_aload_n (pc := 4) h 0 dX4_stepToStop_4 rfl ?_
  refine k_geti (pc := 5) h fl_X4_36 ly_26 rfl dX4_stepToStop_5 ?_
  refine k_iconst (pc := 8) h (x := (2 : Int32)) dX4_stepToStop_8 (by decide) ?_
  refine k_icmp_ne (tgt := 16) (pc := 9) h dX4_stepToStop_9 rfl hk (fun hc hk => ?_) (fun hc hk => ?_)
  · refine k_iconst (pc := 16) h (x := (0 : Int32)) dX4_stepToStop_16 (by decide) ?_
    have hk := Option.some.inj hk
    subst hk
    exact k_iret (pc := 17) h dX4_stepToStop_17 ⟨rfl, rfl, rfl, rfl, rfl, ⟨.boolean, rfl, rfl⟩⟩
  · refine k_iconst (pc := 12) h (x := (1 : Int32)) dX4_stepToStop_12 (by decide) ?_
    refine k_goto (tgt := 17) (pc := 13) h dX4_stepToStop_13 rfl ?_
    have hk := Option.some.inj hk
    subst hk
    exact k_iret (pc := 17) h dX4_stepToStop_17 ⟨rfl, rfl, rfl, rfl, rfl, ⟨.boolean, rfl, rfl⟩⟩
def f_X4_readCase (w : WW) : Option (Int32 × WW) := (f_X4_stepToNumber w (0 : Int32) ((w.1 28 0) - (1 : Int32))).bind (fun p2 => if p2.1 = 0 then some ((0 : Int32), p2.2) else nmv (p2.2.1 26 6) (fun v3 => (f_X4_stepToNumber p2.2 (1 : Int32) (9 : Int32)).bind (fun p5 => if p5.1 = 0 then some ((0 : Int32), p5.2) else gd (inb v3 16) (stI p5.2 29 (v3).toNatClampNeg (p5.2.1 26 6) (fun u6 => (f_X4_stepToStop u6).bind (fun p8 => gd (p8.1 &&& 1 = p8.1) (some (p8.1, p8.2))))))))
set_option maxRecDepth 20000 in
set_option maxHeartbeats 4000000 in
theorem c_X4_readCase {w : WW} {z : Int32 × WW} (hk : f_X4_readCase w = some z) : Cn 9 yX4_readCase cX4_readCase 2 (some .boolean) LAY [.ref 26] w (some (.int z.1)) z.2 := by
  refine Cn.of (by decide +kernel) (Nat.le_of_ble_eq_true rfl) (fun G h => ?_)
  have h : Rules cX4_readCase RX4 "readCase" 2 (rmd 9 0 0) none _ _ LAY 0 0 G := h
  show G 0 [(0, .ref 26)] [] w
  unfold f_X4_readCase at hk
  refine k_aload_n (pc := 0) h 0 dX4_readCase_0 rfl ?_
  refine k_iconst (pc := 1) h (x := (0 : Int32)) dX4_readCase_1 (by decide) ?_
  refine k_aload_n (pc := 2) h 0 dX4_readCase_2 rfl ?_
  refine k_getr (pc := 3) h fl_X4_18 ly_26 rfl dX4_readCase_3 ?_
  refine k_geti (pc := 6) h fl_X4_65 ly_28 rfl dX4_readCase_6 ?_
  refine k_iconst (pc := 9) h (x := (1 : Int32)) dX4_readCase_9 (by decide) ?_
  refine k_isub (pc := 10) h dX4_readCase_10 ?_
  obtain ⟨p2, hc1, hk⟩ := bd_some hk
  refine k_callV1 (pc := 11) h (c_X4_stepToNumber hc1) cw_X4_48 ly_26 rfl ⟨⟨by decide, by decide⟩, Nat.zero_le _, Nat.zero_le _⟩ rfl (Nat.le_of_ble_eq_true rfl) dX4_readCase_11 ?_
  refine k_if_ne (tgt := 19) (pc := 14) h dX4_readCase_14 rfl hk (fun hc hk => ?_) (fun hc hk => ?_)
  · refine k_aload_n (pc := 19) h 0 dX4_readCase_19 rfl ?_
    refine k_geti (pc := 20) h fl_X4_52 ly_26 rfl dX4_readCase_20 ?_
    refine k_nmi (pc := 23) h hk (fun v3 hk => ?_)
    refine k_istore_n (pc := 23) h [1, 0] (lv' := [(0, .ref 26), (1, .int v3)]) dX4_readCase_23 rfl (by decide) rfl ?_
    refine k_aload_n (pc := 24) h 0 dX4_readCase_24 rfl ?_
    refine k_iconst (pc := 25) h (x := (1 : Int32)) dX4_readCase_25 (by decide) ?_
    refine k_bipush (pc := 26) h (x := (9 : Int32)) dX4_readCase_26 (by decide) ?_
    obtain ⟨p5, hc4, hk⟩ := bd_some hk
    refine k_callV1 (pc := 28) h (c_X4_stepToNumber hc4) cw_X4_48 ly_26 rfl ⟨⟨by decide, by decide⟩, Nat.zero_le _, Nat.zero_le _⟩ rfl (Nat.le_of_ble_eq_true rfl) dX4_readCase_28 ?_
    refine k_if_ne (tgt := 36) (pc := 31) h dX4_readCase_31 rfl hk (fun hc hk => ?_) (fun hc hk => ?_)
    · refine k_aload_n (pc := 36) h 0 dX4_readCase_36 rfl ?_
      refine k_getr (pc := 37) h fl_X4_18 ly_26 rfl dX4_readCase_37 ?_
      refine k_getr (pc := 40) h fl_X4_68 ly_28 rfl dX4_readCase_40 ?_
      refine k_iload_n (pc := 43) h 1 dX4_readCase_43 rfl ?_
      refine k_aload_n (pc := 44) h 0 dX4_readCase_44 rfl ?_
      refine k_geti (pc := 45) h fl_X4_52 ly_26 rfl dX4_readCase_45 ?_
      refine k_iast (pc := 48) h ly_29 dX4_readCase_48 hk (fun u6 hk => ?_)
      refine k_aload_n (pc := 49) h 0 dX4_readCase_49 rfl ?_
      obtain ⟨p8, hc7, hk⟩ := bd_some hk
      refine k_callV1 (pc := 50) h (c_X4_stepToStop hc7) cw_X4_59 ly_26 rfl ⟨⟨by decide, by decide⟩, Nat.zero_le _, Nat.zero_le _⟩ rfl (Nat.le_of_ble_eq_true rfl) dX4_readCase_50 ?_
      obtain ⟨hg, hk⟩ := gd_some hk
      have hk := Option.some.inj hk
      subst hk
      exact k_iret (pc := 53) h dX4_readCase_53 ⟨rfl, rfl, rfl, rfl, rfl, ⟨.boolean, rfl, nar_b hg⟩⟩
    · refine k_iconst (pc := 34) h (x := (0 : Int32)) dX4_readCase_34 (by decide) ?_
      have hk := Option.some.inj hk
      subst hk
      exact k_iret (pc := 35) h dX4_readCase_35 ⟨rfl, rfl, rfl, rfl, rfl, ⟨.boolean, rfl, rfl⟩⟩
  · refine k_iconst (pc := 17) h (x := (0 : Int32)) dX4_readCase_17 (by decide) ?_
    have hk := Option.some.inj hk
    subst hk
    exact k_iret (pc := 18) h dX4_readCase_18 ⟨rfl, rfl, rfl, rfl, rfl, ⟨.boolean, rfl, rfl⟩⟩
def f_X4_readFair_j22 (w : WW) : Option (Int32 × WW) := some ((0 : Int32), w)
def f_X4_readFair (w : WW) : Option (Int32 × WW) := (f_X4_step w).bind (fun p2 => if (p2.1 26 5) = (3 : Int32) then (f_X4_stepToNumber p2 (1 : Int32) (16 : Int32)).bind (fun p4 => if p4.1 = 0 then f_X4_readFair_j22 p4.2 else (f_X6_begin 28 p4.2 (p4.2.1 26 6)).bind (fun p6 => (f_X4_stepToStop p6).bind (fun p8 => gd (p8.1 &&& 1 = p8.1) (some (p8.1, p8.2))))) else f_X4_readFair_j22 p2)
set_option maxRecDepth 20000 in
set_option maxHeartbeats 4000000 in
theorem c_X4_readFair {w : WW} {z : Int32 × WW} (hk : f_X4_readFair w = some z) : Cn 9 yX4_readFair cX4_readFair 1 (some .boolean) LAY [.ref 26] w (some (.int z.1)) z.2 := by
  refine Cn.of (by decide +kernel) (Nat.le_of_ble_eq_true rfl) (fun G h => ?_)
  have h : Rules cX4_readFair RX4 "readFair" 1 (rmd 9 0 0) none _ _ LAY 0 0 G := h
  show G 0 [(0, .ref 26)] [] w
  unfold f_X4_readFair at hk
  have EJ22 : ∀ (w : WW), f_X4_readFair_j22 w = some z → G 22 [] [] w := by
    intro w hk
    unfold f_X4_readFair_j22 at hk
    refine k_iconst (pc := 22) h (x := (0 : Int32)) dX4_readFair_22 (by decide) ?_
    have hk := Option.some.inj hk
    subst hk
    exact k_iret (pc := 23) h dX4_readFair_23 ⟨rfl, rfl, rfl, rfl, rfl, ⟨.boolean, rfl, rfl⟩⟩
  refine k_aload_n (pc := 0) h 0 dX4_readFair_0 rfl ?_
  obtain ⟨p2, hc1, hk⟩ := bd_some hk
  refine k_callV0 (pc := 1) h (c_X4_step hc1) cw_X4_33 ly_26 rfl ⟨⟨by decide, by decide⟩, Nat.zero_le _, Nat.zero_le _⟩ rfl (Nat.le_of_ble_eq_true rfl) dX4_readFair_1 ?_
  refine k_aload_n (pc := 4) h 0 dX4_readFair_4 rfl ?_
  refine k_geti (pc := 5) h fl_X4_36 ly_26 rfl dX4_readFair_5 ?_
  refine k_iconst (pc := 8) h (x := (3 : Int32)) dX4_readFair_8 (by decide) ?_
  refine k_icmp_ne (tgt := 22) (pc := 9) h dX4_readFair_9 rfl hk (fun hc hk => ?_) (fun hc hk => ?_)
  · refine k_sub h [] (lv' := []) rfl ?_
    exact EJ22 _ hk
  · refine k_aload_n (pc := 12) h 0 dX4_readFair_12 rfl ?_
    refine k_iconst (pc := 13) h (x := (1 : Int32)) dX4_readFair_13 (by decide) ?_
    refine k_bipush (pc := 14) h (x := (16 : Int32)) dX4_readFair_14 (by decide) ?_
    obtain ⟨p4, hc3, hk⟩ := bd_some hk
    refine k_callV1 (pc := 16) h (c_X4_stepToNumber hc3) cw_X4_48 ly_26 rfl ⟨⟨by decide, by decide⟩, Nat.zero_le _, Nat.zero_le _⟩ rfl (Nat.le_of_ble_eq_true rfl) dX4_readFair_16 ?_
    refine k_if_ne (tgt := 24) (pc := 19) h dX4_readFair_19 rfl hk (fun hc hk => ?_) (fun hc hk => ?_)
    · refine k_aload_n (pc := 24) h 0 dX4_readFair_24 rfl ?_
      refine k_getr (pc := 25) h fl_X4_18 ly_26 rfl dX4_readFair_25 ?_
      refine k_aload_n (pc := 28) h 0 dX4_readFair_28 rfl ?_
      refine k_geti (pc := 29) h fl_X4_52 ly_26 rfl dX4_readFair_29 ?_
      obtain ⟨p6, hc5, hk⟩ := bd_some hk
      refine k_callV0 (pc := 32) h (c_X6_begin st_28 hc5) cw_X4_55 ly_28 rfl ⟨⟨by decide, by decide⟩, Nat.zero_le _, Nat.zero_le _⟩ rfl (Nat.le_of_ble_eq_true rfl) dX4_readFair_32 ?_
      refine k_aload_n (pc := 35) h 0 dX4_readFair_35 rfl ?_
      obtain ⟨p8, hc7, hk⟩ := bd_some hk
      refine k_callV1 (pc := 36) h (c_X4_stepToStop hc7) cw_X4_59 ly_26 rfl ⟨⟨by decide, by decide⟩, Nat.zero_le _, Nat.zero_le _⟩ rfl (Nat.le_of_ble_eq_true rfl) dX4_readFair_36 ?_
      obtain ⟨hg, hk⟩ := gd_some hk
      have hk := Option.some.inj hk
      subst hk
      exact k_iret (pc := 39) h dX4_readFair_39 ⟨rfl, rfl, rfl, rfl, rfl, ⟨.boolean, rfl, nar_b hg⟩⟩
    · refine k_sub h [] (lv' := []) rfl ?_
      exact EJ22 _ hk
def f_X4_readQuestion (w : WW) : Option (Int32 × WW) := (f_X4_stepToNumber w (0 : Int32) (5 : Int32)).bind (fun p2 => if p2.1 = 0 then some ((0 : Int32), p2.2) else nmv (p2.2.1 26 6) (fun v3 => (f_X4_stepToNumber p2.2 (0 : Int32) (15 : Int32)).bind (fun p5 => if p5.1 = 0 then some ((0 : Int32), p5.2) else nmv (p5.2.1 26 6) (fun v6 => (f_X4_stepToNumber p5.2 (0 : Int32) (99 : Int32)).bind (fun p8 => if p8.1 = 0 then some ((0 : Int32), p8.2) else (f_X6_addQuestion 28 p8.2 v3 v6 (p8.2.1 26 6)).bind (fun p10 => (f_X4_stepToStop p10).bind (fun p12 => gd (p12.1 &&& 1 = p12.1) (some (p12.1, p12.2)))))))))
set_option maxRecDepth 20000 in
set_option maxHeartbeats 4000000 in
theorem c_X4_readQuestion {w : WW} {z : Int32 × WW} (hk : f_X4_readQuestion w = some z) : Cn 9 yX4_readQuestion cX4_readQuestion 3 (some .boolean) LAY [.ref 26] w (some (.int z.1)) z.2 := by
  refine Cn.of (by decide +kernel) (Nat.le_of_ble_eq_true rfl) (fun G h => ?_)
  have h : Rules cX4_readQuestion RX4 "readQuestion" 3 (rmd 9 0 0) none _ _ LAY 0 0 G := h
  show G 0 [(0, .ref 26)] [] w
  unfold f_X4_readQuestion at hk
  refine k_aload_n (pc := 0) h 0 dX4_readQuestion_0 rfl ?_
  refine k_iconst (pc := 1) h (x := (0 : Int32)) dX4_readQuestion_1 (by decide) ?_
  refine k_iconst (pc := 2) h (x := (5 : Int32)) dX4_readQuestion_2 (by decide) ?_
  obtain ⟨p2, hc1, hk⟩ := bd_some hk
  refine k_callV1 (pc := 3) h (c_X4_stepToNumber hc1) cw_X4_48 ly_26 rfl ⟨⟨by decide, by decide⟩, Nat.zero_le _, Nat.zero_le _⟩ rfl (Nat.le_of_ble_eq_true rfl) dX4_readQuestion_3 ?_
  refine k_if_ne (tgt := 11) (pc := 6) h dX4_readQuestion_6 rfl hk (fun hc hk => ?_) (fun hc hk => ?_)
  · refine k_aload_n (pc := 11) h 0 dX4_readQuestion_11 rfl ?_
    refine k_geti (pc := 12) h fl_X4_52 ly_26 rfl dX4_readQuestion_12 ?_
    refine k_nmi (pc := 15) h hk (fun v3 hk => ?_)
    refine k_istore_n (pc := 15) h [1, 0] (lv' := [(0, .ref 26), (1, .int v3)]) dX4_readQuestion_15 rfl (by decide) rfl ?_
    refine k_aload_n (pc := 16) h 0 dX4_readQuestion_16 rfl ?_
    refine k_iconst (pc := 17) h (x := (0 : Int32)) dX4_readQuestion_17 (by decide) ?_
    refine k_bipush (pc := 18) h (x := (15 : Int32)) dX4_readQuestion_18 (by decide) ?_
    obtain ⟨p5, hc4, hk⟩ := bd_some hk
    refine k_callV1 (pc := 20) h (c_X4_stepToNumber hc4) cw_X4_48 ly_26 rfl ⟨⟨by decide, by decide⟩, Nat.zero_le _, Nat.zero_le _⟩ rfl (Nat.le_of_ble_eq_true rfl) dX4_readQuestion_20 ?_
    refine k_if_ne (tgt := 28) (pc := 23) h dX4_readQuestion_23 rfl hk (fun hc hk => ?_) (fun hc hk => ?_)
    · refine k_aload_n (pc := 28) h 0 dX4_readQuestion_28 rfl ?_
      refine k_geti (pc := 29) h fl_X4_52 ly_26 rfl dX4_readQuestion_29 ?_
      refine k_nmi (pc := 32) h hk (fun v6 hk => ?_)
      refine k_istore_n (pc := 32) h [1, 2, 0] (lv' := [(0, .ref 26), (1, .int v3), (2, .int v6)]) dX4_readQuestion_32 rfl (by decide) rfl ?_
      refine k_aload_n (pc := 33) h 0 dX4_readQuestion_33 rfl ?_
      refine k_iconst (pc := 34) h (x := (0 : Int32)) dX4_readQuestion_34 (by decide) ?_
      refine k_bipush (pc := 35) h (x := (99 : Int32)) dX4_readQuestion_35 (by decide) ?_
      obtain ⟨p8, hc7, hk⟩ := bd_some hk
      refine k_callV1 (pc := 37) h (c_X4_stepToNumber hc7) cw_X4_48 ly_26 rfl ⟨⟨by decide, by decide⟩, Nat.zero_le _, Nat.zero_le _⟩ rfl (Nat.le_of_ble_eq_true rfl) dX4_readQuestion_37 ?_
      refine k_if_ne (tgt := 45) (pc := 40) h dX4_readQuestion_40 rfl hk (fun hc hk => ?_) (fun hc hk => ?_)
      · refine k_aload_n (pc := 45) h 0 dX4_readQuestion_45 rfl ?_
        refine k_getr (pc := 46) h fl_X4_18 ly_26 rfl dX4_readQuestion_46 ?_
        refine k_iload_n (pc := 49) h 1 dX4_readQuestion_49 rfl ?_
        refine k_iload_n (pc := 50) h 2 dX4_readQuestion_50 rfl ?_
        refine k_aload_n (pc := 51) h 0 dX4_readQuestion_51 rfl ?_
        refine k_geti (pc := 52) h fl_X4_52 ly_26 rfl dX4_readQuestion_52 ?_
        obtain ⟨p10, hc9, hk⟩ := bd_some hk
        refine k_callV0 (pc := 55) h (c_X6_addQuestion st_28 hc9) cw_X4_72 ly_28 rfl ⟨⟨by decide, by decide⟩, Nat.zero_le _, Nat.zero_le _⟩ rfl (Nat.le_of_ble_eq_true rfl) dX4_readQuestion_55 ?_
        refine k_aload_n (pc := 58) h 0 dX4_readQuestion_58 rfl ?_
        obtain ⟨p12, hc11, hk⟩ := bd_some hk
        refine k_callV1 (pc := 59) h (c_X4_stepToStop hc11) cw_X4_59 ly_26 rfl ⟨⟨by decide, by decide⟩, Nat.zero_le _, Nat.zero_le _⟩ rfl (Nat.le_of_ble_eq_true rfl) dX4_readQuestion_59 ?_
        obtain ⟨hg, hk⟩ := gd_some hk
        have hk := Option.some.inj hk
        subst hk
        exact k_iret (pc := 62) h dX4_readQuestion_62 ⟨rfl, rfl, rfl, rfl, rfl, ⟨.boolean, rfl, nar_b hg⟩⟩
      · refine k_iconst (pc := 43) h (x := (0 : Int32)) dX4_readQuestion_43 (by decide) ?_
        have hk := Option.some.inj hk
        subst hk
        exact k_iret (pc := 44) h dX4_readQuestion_44 ⟨rfl, rfl, rfl, rfl, rfl, ⟨.boolean, rfl, rfl⟩⟩
    · refine k_iconst (pc := 26) h (x := (0 : Int32)) dX4_readQuestion_26 (by decide) ?_
      have hk := Option.some.inj hk
      subst hk
      exact k_iret (pc := 27) h dX4_readQuestion_27 ⟨rfl, rfl, rfl, rfl, rfl, ⟨.boolean, rfl, rfl⟩⟩
  · refine k_iconst (pc := 9) h (x := (0 : Int32)) dX4_readQuestion_9 (by decide) ?_
    have hk := Option.some.inj hk
    subst hk
    exact k_iret (pc := 10) h dX4_readQuestion_10 ⟨rfl, rfl, rfl, rfl, rfl, ⟨.boolean, rfl, rfl⟩⟩
def f_X4_readItems_j72 (w : WW) (l1 : Int32) (l2 : Int32) (s0 : Int32) : Option ((Int32 × Int32 × WW) ⊕ ((Int32 × WW) ⊕ ((WW) ⊕ (Int32 × WW)))) := if s0 = 0 then some (.inr (.inr (.inl w))) else some (.inl ((l1 + (1 : Int32)), (l2 + (1 : Int32)), w))
def f_X4_readItems_j71 (w : WW) (l1 : Int32) (l2 : Int32) : Option ((Int32 × Int32 × WW) ⊕ ((Int32 × WW) ⊕ ((WW) ⊕ (Int32 × WW)))) := f_X4_readItems_j72 w l1 l2 (0 : Int32)
def f_X4_readItems_b18 (l1 : Int32) (l2 : Int32) (w : WW) : Option ((Int32 × Int32 × WW) ⊕ ((Int32 × WW) ⊕ ((WW) ⊕ (Int32 × WW)))) := if (150 : Int32) ≤ l2 then some (.inr (.inr (.inr (l1, w)))) else (f_X4_step w).bind (fun p5 => if (p5.1 26 5) = 0 then some (.inr (.inl (l1, p5))) else if (p5.1 26 5) = (4 : Int32) then (f_X4_readCase p5).bind (fun p11 => f_X4_readItems_j72 p11.2 l1 l2 p11.1) else (f_X4_mayAskMore p5).bind (fun p7 => if p7 = 0 then f_X4_readItems_j71 p5 l1 l2 else (f_X4_readQuestion p5).bind (fun p9 => if p9.1 = 0 then f_X4_readItems_j71 p9.2 l1 l2 else f_X4_readItems_j72 p9.2 l1 l2 (1 : Int32))))
def f_X4_readItems (w : WW) : Option (Int32 × WW) := stI w 26 4 (0 : Int32) (fun u1 => (f_X4_readFair u1).bind (fun p3 => if p3.1 = 0 then some ((-1 : Int32), p3.2) else (lpf (fun s : Int32 × Int32 × WW => f_X4_readItems_b18 s.1 s.2.1 s.2.2) FU ((1 : Int32), (0 : Int32), p3.2)).bind (Sum.elim (fun r12 => some (r12.1, r12.2)) (Sum.elim (fun r12 => some ((-1 : Int32), r12)) (fun r12 => some (r12.1, r12.2))))))
set_option maxRecDepth 20000 in
set_option maxHeartbeats 4000000 in
theorem c_X4_readItems {w : WW} {z : Int32 × WW} (hk : f_X4_readItems w = some z) : Cn 10 yX4_readItems cX4_readItems 4 (some .int) LAY [.ref 26] w (some (.int z.1)) z.2 := by
  refine Cn.of (by decide +kernel) (Nat.le_of_ble_eq_true rfl) (fun G h => ?_)
  have h : Rules cX4_readItems RX4 "readItems" 4 (rmd 10 0 0) none _ _ LAY 0 0 G := h
  show G 0 [(0, .ref 26)] [] w
  unfold f_X4_readItems at hk
  have EJ72 : ∀ (w : WW) (l1 : Int32) (l2 : Int32) (s0 : Int32) (z : (Int32 × Int32 × WW) ⊕ ((Int32 × WW) ⊕ ((WW) ⊕ (Int32 × WW)))), f_X4_readItems_j72 w l1 l2 s0 = some z → Sum.elim (fun s : Int32 × Int32 × WW => G 18 [(0, .ref 26), (1, .int s.1), (2, .int s.2.1)] [] s.2.2) (Sum.elim (fun r : Int32 × WW => G 36 [(1, .int r.1)] [] r.2) (Sum.elim (fun r : WW => G 77 [] [] r) (fun r : Int32 × WW => G 88 [(1, .int r.1)] [] r.2))) z → G 72 [(0, .ref 26), (1, .int l1), (2, .int l2)] [.int s0] w := by
    intro w l1 l2 s0 z hk hz
    unfold f_X4_readItems_j72 at hk
    refine k_istore_n (pc := 72) h [1, 2, 3, 0] (lv' := [(0, .ref 26), (1, .int l1), (2, .int l2), (3, .int s0)]) dX4_readItems_72 rfl (by decide) rfl ?_
    refine k_iload_n (pc := 73) h 3 dX4_readItems_73 rfl ?_
    refine k_if_ne (tgt := 79) (pc := 74) h dX4_readItems_74 rfl hk (fun hc hk => ?_) (fun hc hk => ?_)
    · refine k_iinc (pc := 79) h 1 [1, 0, 2, 3] (v := (l1 + (1 : Int32))) (lv' := [(0, .ref 26), (1, .int (l1 + (1 : Int32))), (2, .int l2), (3, .int s0)]) dX4_readItems_79 rfl rfl (by decide) rfl ?_
      refine k_iinc (pc := 82) h 2 [1, 2, 0, 3] (v := (l2 + (1 : Int32))) (lv' := [(0, .ref 26), (1, .int (l1 + (1 : Int32))), (2, .int (l2 + (1 : Int32))), (3, .int s0)]) dX4_readItems_82 rfl rfl (by decide) rfl ?_
      refine k_goto (tgt := 18) (pc := 85) h dX4_readItems_85 rfl ?_
      refine k_sub h [0, 1, 2] (lv' := [(0, .ref 26), (1, .int (l1 + (1 : Int32))), (2, .int (l2 + (1 : Int32)))]) rfl ?_
      have hk := Option.some.inj hk
      subst hk
      exact hz
    · refine k_sub h [] (lv' := []) rfl ?_
      have hk := Option.some.inj hk
      subst hk
      exact hz
  have EJ71 : ∀ (w : WW) (l1 : Int32) (l2 : Int32) (z : (Int32 × Int32 × WW) ⊕ ((Int32 × WW) ⊕ ((WW) ⊕ (Int32 × WW)))), f_X4_readItems_j71 w l1 l2 = some z → Sum.elim (fun s : Int32 × Int32 × WW => G 18 [(0, .ref 26), (1, .int s.1), (2, .int s.2.1)] [] s.2.2) (Sum.elim (fun r : Int32 × WW => G 36 [(1, .int r.1)] [] r.2) (Sum.elim (fun r : WW => G 77 [] [] r) (fun r : Int32 × WW => G 88 [(1, .int r.1)] [] r.2))) z → G 71 [(0, .ref 26), (1, .int l1), (2, .int l2)] [] w := by
    intro w l1 l2 z hk hz
    unfold f_X4_readItems_j71 at hk
    refine k_iconst (pc := 71) h (x := (0 : Int32)) dX4_readItems_71 (by decide) ?_
    exact EJ72 _ _ _ _ _ hk hz
  have LB18 : ∀ (nn : Nat) (s : Int32 × Int32 × WW) (r : (Int32 × WW) ⊕ ((WW) ⊕ (Int32 × WW))), lpf (fun s : Int32 × Int32 × WW => f_X4_readItems_b18 s.1 s.2.1 s.2.2) nn s = some r → (Sum.elim (fun r : Int32 × WW => G 36 [(1, .int r.1)] [] r.2) (Sum.elim (fun r : WW => G 77 [] [] r) (fun r : Int32 × WW => G 88 [(1, .int r.1)] [] r.2))) r → (fun s : Int32 × Int32 × WW => G 18 [(0, .ref 26), (1, .int s.1), (2, .int s.2.1)] [] s.2.2) s := by
    refine lpf_ind (fun s : Int32 × Int32 × WW => G 18 [(0, .ref 26), (1, .int s.1), (2, .int s.2.1)] [] s.2.2) (Sum.elim (fun r : Int32 × WW => G 36 [(1, .int r.1)] [] r.2) (Sum.elim (fun r : WW => G 77 [] [] r) (fun r : Int32 × WW => G 88 [(1, .int r.1)] [] r.2))) ?_
    rintro ⟨l1, l2, w⟩ z hk hz
    have hk : f_X4_readItems_b18 l1 l2 w = some z := hk
    unfold f_X4_readItems_b18 at hk
    show G 18 [(0, .ref 26), (1, .int l1), (2, .int l2)] [] w
    refine k_iload_n (pc := 18) h 2 dX4_readItems_18 rfl ?_
    refine k_sipush (pc := 19) h (x := (150 : Int32)) dX4_readItems_19 (by decide) ?_
    refine k_icmp_ge (tgt := 88) (pc := 22) h dX4_readItems_22 rfl hk (fun hc hk => ?_) (fun hc hk => ?_)
    · refine k_sub h [1] (lv' := [(1, .int l1)]) rfl ?_
      have hk := Option.some.inj hk
      subst hk
      exact hz
    · refine k_aload_n (pc := 25) h 0 dX4_readItems_25 rfl ?_
      obtain ⟨p5, hc4, hk⟩ := bd_some hk
      refine k_callV0 (pc := 26) h (c_X4_step hc4) cw_X4_33 ly_26 rfl ⟨⟨by decide, by decide⟩, Nat.zero_le _, Nat.zero_le _⟩ rfl (Nat.le_of_ble_eq_true rfl) dX4_readItems_26 ?_
      refine k_aload_n (pc := 29) h 0 dX4_readItems_29 rfl ?_
      refine k_geti (pc := 30) h fl_X4_36 ly_26 rfl dX4_readItems_30 ?_
      refine k_if_ne (tgt := 38) (pc := 33) h dX4_readItems_33 rfl hk (fun hc hk => ?_) (fun hc hk => ?_)
      · refine k_aload_n (pc := 38) h 0 dX4_readItems_38 rfl ?_
        refine k_geti (pc := 39) h fl_X4_36 ly_26 rfl dX4_readItems_39 ?_
        refine k_iconst (pc := 42) h (x := (4 : Int32)) dX4_readItems_42 (by decide) ?_
        refine k_icmp_ne (tgt := 53) (pc := 43) h dX4_readItems_43 rfl hk (fun hc hk => ?_) (fun hc hk => ?_)
        · refine k_aload_n (pc := 53) h 0 dX4_readItems_53 rfl ?_
          obtain ⟨p7, hc6, hk⟩ := bd_some hk
          refine k_callV1 (pc := 54) h (c_X4_mayAskMore hc6) cw_X4_42 ly_26 rfl ⟨⟨by decide, by decide⟩, Nat.zero_le _, Nat.zero_le _⟩ rfl (Nat.le_of_ble_eq_true rfl) dX4_readItems_54 ?_
          refine k_if_eq (tgt := 71) (pc := 57) h dX4_readItems_57 rfl hk (fun hc hk => ?_) (fun hc hk => ?_)
          · exact EJ71 _ _ _ _ hk hz
          · refine k_aload_n (pc := 60) h 0 dX4_readItems_60 rfl ?_
            obtain ⟨p9, hc8, hk⟩ := bd_some hk
            refine k_callV1 (pc := 61) h (c_X4_readQuestion hc8) cw_X4_45 ly_26 rfl ⟨⟨by decide, by decide⟩, Nat.zero_le _, Nat.zero_le _⟩ rfl (Nat.le_of_ble_eq_true rfl) dX4_readItems_61 ?_
            refine k_if_eq (tgt := 71) (pc := 64) h dX4_readItems_64 rfl hk (fun hc hk => ?_) (fun hc hk => ?_)
            · exact EJ71 _ _ _ _ hk hz
            · refine k_iconst (pc := 67) h (x := (1 : Int32)) dX4_readItems_67 (by decide) ?_
              refine k_goto (tgt := 72) (pc := 68) h dX4_readItems_68 rfl ?_
              exact EJ72 _ _ _ _ _ hk hz
        · refine k_aload_n (pc := 46) h 0 dX4_readItems_46 rfl ?_
          obtain ⟨p11, hc10, hk⟩ := bd_some hk
          refine k_callV1 (pc := 47) h (c_X4_readCase hc10) cw_X4_39 ly_26 rfl ⟨⟨by decide, by decide⟩, Nat.zero_le _, Nat.zero_le _⟩ rfl (Nat.le_of_ble_eq_true rfl) dX4_readItems_47 ?_
          refine k_goto (tgt := 72) (pc := 50) h dX4_readItems_50 rfl ?_
          exact EJ72 _ _ _ _ _ hk hz
      · refine k_sub h [1] (lv' := [(1, .int l1)]) rfl ?_
        have hk := Option.some.inj hk
        subst hk
        exact hz
  refine k_aload_n (pc := 0) h 0 dX4_readItems_0 rfl ?_
  refine k_iconst (pc := 1) h (x := (0 : Int32)) dX4_readItems_1 (by decide) ?_
  refine k_puti (pc := 2) h fl_X4_26 ly_26 rfl dX4_readItems_2 hk (fun u1 hk => ?_)
  refine k_aload_n (pc := 5) h 0 dX4_readItems_5 rfl ?_
  obtain ⟨p3, hc2, hk⟩ := bd_some hk
  refine k_callV1 (pc := 6) h (c_X4_readFair hc2) cw_X4_29 ly_26 rfl ⟨⟨by decide, by decide⟩, Nat.zero_le _, Nat.zero_le _⟩ rfl (Nat.le_of_ble_eq_true rfl) dX4_readItems_6 ?_
  refine k_if_ne (tgt := 14) (pc := 9) h dX4_readItems_9 rfl hk (fun hc hk => ?_) (fun hc hk => ?_)
  · refine k_iconst (pc := 14) h (x := (1 : Int32)) dX4_readItems_14 (by decide) ?_
    refine k_istore_n (pc := 15) h [1, 0] (lv' := [(0, .ref 26), (1, .int (1 : Int32))]) dX4_readItems_15 rfl (by decide) rfl ?_
    refine k_iconst (pc := 16) h (x := (0 : Int32)) dX4_readItems_16 (by decide) ?_
    refine k_istore_n (pc := 17) h [1, 2, 0] (lv' := [(0, .ref 26), (1, .int (1 : Int32)), (2, .int (0 : Int32))]) dX4_readItems_17 rfl (by decide) rfl ?_
    obtain ⟨r12, hl13, hk⟩ := bd_some hk
    refine LB18 _ _ _ hl13 ?_
    rcases r12 with r12 | r12
    · replace hk := elim_l hk
      show G 36 [(1, .int r12.1)] [] r12.2
      refine k_iload_n (pc := 36) h 0 dX4_readItems_36 rfl ?_
      have hk := Option.some.inj hk
      subst hk
      exact k_iret (pc := 37) h dX4_readItems_37 ⟨rfl, rfl, rfl, rfl, rfl, ⟨.int, rfl, rfl⟩⟩
    · replace hk := elim_r hk
      rcases r12 with r12 | r12
      · replace hk := elim_l hk
        show G 77 [] [] r12
        refine k_iconst (pc := 77) h (x := (-1 : Int32)) dX4_readItems_77 (by decide) ?_
        have hk := Option.some.inj hk
        subst hk
        exact k_iret (pc := 78) h dX4_readItems_78 ⟨rfl, rfl, rfl, rfl, rfl, ⟨.int, rfl, rfl⟩⟩
      · replace hk := elim_r hk
        show G 88 [(1, .int r12.1)] [] r12.2
        refine k_iload_n (pc := 88) h 0 dX4_readItems_88 rfl ?_
        have hk := Option.some.inj hk
        subst hk
        exact k_iret (pc := 89) h dX4_readItems_89 ⟨rfl, rfl, rfl, rfl, rfl, ⟨.int, rfl, rfl⟩⟩
  · refine k_iconst (pc := 12) h (x := (-1 : Int32)) dX4_readItems_12 (by decide) ?_
    have hk := Option.some.inj hk
    subst hk
    exact k_iret (pc := 13) h dX4_readItems_13 ⟨rfl, rfl, rfl, rfl, rfl, ⟨.int, rfl, rfl⟩⟩

def f_X3_weighUp_j52 (pb : Nat) (b : Nat) (w : WW) (l2 : Int32) (l3 : Int32) (l4 : Int32) (s0 : Int32) : Option (WW) := if s0 = 0 then some w else (f_X6_notYetKnown b w l3 l2).bind (fun p4 => if p4 = 0 then stI w pb 0 l3 (fun u5 => stI u5 pb 1 l4 (fun u6 => some u6)) else some w)
def f_X3_weighUp_j47 (pb : Nat) (b : Nat) (w : WW) (l2 : Int32) (l3 : Int32) (l4 : Int32) : Option (WW) := f_X3_weighUp_j52 pb b w l2 l3 l4 (1 : Int32)
def f_X3_weighUp_j51 (pb : Nat) (b : Nat) (w : WW) (l2 : Int32) (l3 : Int32) (l4 : Int32) : Option (WW) := f_X3_weighUp_j52 pb b w l2 l3 l4 (0 : Int32)
def f_X3_weighUp (pb : Nat) (b : Nat) (w : WW) (l2 : Int32) (l3 : Int32) : Option (WW) := (f_X6_penceOf b w l3).bind (fun p2 => if (w.1 pb 0) = (-1 : Int32) then f_X3_weighUp_j47 pb b w l2 l3 p2 else if p2 < (w.1 pb 1) then f_X3_weighUp_j47 pb b w l2 l3 p2 else if p2 = (w.1 pb 1) then (f_J6_bitCount_0f7a4 w l3).bind (fun p8 => (f_J6_bitCount_0f7a4 w (w.1 pb 0)).bind (fun p10 => if p10 ≤ p8 then f_X3_weighUp_j51 pb b w l2 l3 p2 else f_X3_weighUp_j47 pb b w l2 l3 p2)) else f_X3_weighUp_j51 pb b w l2 l3 p2)
set_option maxRecDepth 20000 in
set_option maxHeartbeats 4000000 in
theorem c_X3_weighUp {lay : List LyS} {pb : Nat} {b : Nat} (hpb : PuAt lay pb) (hb : StAt lay b) {w : WW} {l2 : Int32} {l3 : Int32} {z : WW} (hk : f_X3_weighUp pb b w l2 l3 = some z) : Cn 2 yX3_weighUp cX3_weighUp 6 none lay [.ref pb, .ref b, .int l2, .int l3] w none z := by
  refine Cn.of (by decide +kernel) (Nat.le_of_ble_eq_true rfl) (fun G h => ?_)
  have h : Rules cX3_weighUp RX3 "weighUp" 6 (rmd 2 0 0) none _ _ lay 0 0 G := h
  show G 0 [(0, .ref pb), (1, .ref b), (2, .int l2), (3, .int l3)] [] w
  unfold f_X3_weighUp at hk
  have EJ52 : ∀ (w : WW) (l2 : Int32) (l3 : Int32) (l4 : Int32) (s0 : Int32), f_X3_weighUp_j52 pb b w l2 l3 l4 s0 = some z → G 52 [(0, .ref pb), (1, .ref b), (2, .int l2), (3, .int l3), (4, .int l4)] [.int s0] w := by
    intro w l2 l3 l4 s0 hk
    unfold f_X3_weighUp_j52 at hk
    refine k_istore (pc := 52) h [1, 2, 3, 4, 5, 0] (lv' := [(0, .ref pb), (1, .ref b), (2, .int l2), (3, .int l3), (4, .int l4), (5, .int s0)]) dX3_weighUp_52 (by decide) rfl ?_
    refine k_iload (pc := 54) h 5 dX3_weighUp_54 rfl ?_
    refine k_if_eq (tgt := 79) (pc := 56) h dX3_weighUp_56 rfl hk (fun hc hk => ?_) (fun hc hk => ?_)
    · have hk := Option.some.inj hk
      subst hk
      exact k_vret (pc := 79) h dX3_weighUp_79 ⟨rfl, rfl, rfl, rfl, rfl, rfl⟩
    · refine k_aload_n (pc := 59) h 1 dX3_weighUp_59 rfl ?_
      refine k_iload_n (pc := 60) h 3 dX3_weighUp_60 rfl ?_
      refine k_iload_n (pc := 61) h 2 dX3_weighUp_61 rfl ?_
      obtain ⟨p4, hc3, hk⟩ := bd_some hk
      refine k_callV1 (pc := 62) h (c_X6_notYetKnown hb hc3) cw_X3_37 hb.1 rfl ⟨⟨by decide, by decide⟩, Nat.zero_le _, Nat.zero_le _⟩ rfl (Nat.le_of_ble_eq_true rfl) dX3_weighUp_62 ?_
      refine k_if_ne (tgt := 79) (pc := 65) h dX3_weighUp_65 rfl hk (fun hc hk => ?_) (fun hc hk => ?_)
      · have hk := Option.some.inj hk
        subst hk
        exact k_vret (pc := 79) h dX3_weighUp_79 ⟨rfl, rfl, rfl, rfl, rfl, rfl⟩
      · refine k_aload_n (pc := 68) h 0 dX3_weighUp_68 rfl ?_
        refine k_iload_n (pc := 69) h 3 dX3_weighUp_69 rfl ?_
        refine k_puti (pc := 70) h fl_X3_9 hpb rfl dX3_weighUp_70 hk (fun u5 hk => ?_)
        refine k_aload_n (pc := 73) h 0 dX3_weighUp_73 rfl ?_
        refine k_iload (pc := 74) h 4 dX3_weighUp_74 rfl ?_
        refine k_puti (pc := 76) h fl_X3_15 hpb rfl dX3_weighUp_76 hk (fun u6 hk => ?_)
        have hk := Option.some.inj hk
        subst hk
        exact k_vret (pc := 79) h dX3_weighUp_79 ⟨rfl, rfl, rfl, rfl, rfl, rfl⟩
  have EJ47 : ∀ (w : WW) (l2 : Int32) (l3 : Int32) (l4 : Int32), f_X3_weighUp_j47 pb b w l2 l3 l4 = some z → G 47 [(0, .ref pb), (1, .ref b), (2, .int l2), (3, .int l3), (4, .int l4)] [] w := by
    intro w l2 l3 l4 hk
    unfold f_X3_weighUp_j47 at hk
    refine k_iconst (pc := 47) h (x := (1 : Int32)) dX3_weighUp_47 (by decide) ?_
    refine k_goto (tgt := 52) (pc := 48) h dX3_weighUp_48 rfl ?_
    exact EJ52 _ _ _ _ _ hk
  have EJ51 : ∀ (w : WW) (l2 : Int32) (l3 : Int32) (l4 : Int32), f_X3_weighUp_j51 pb b w l2 l3 l4 = some z → G 51 [(0, .ref pb), (1, .ref b), (2, .int l2), (3, .int l3), (4, .int l4)] [] w := by
    intro w l2 l3 l4 hk
    unfold f_X3_weighUp_j51 at hk
    refine k_iconst (pc := 51) h (x := (0 : Int32)) dX3_weighUp_51 (by decide) ?_
    exact EJ52 _ _ _ _ _ hk
  refine k_aload_n (pc := 0) h 1 dX3_weighUp_0 rfl ?_
  refine k_iload_n (pc := 1) h 3 dX3_weighUp_1 rfl ?_
  obtain ⟨p2, hc1, hk⟩ := bd_some hk
  refine k_callV1 (pc := 2) h (c_X6_penceOf hb hc1) cw_X3_28 hb.1 rfl ⟨⟨by decide, by decide⟩, Nat.zero_le _, Nat.zero_le _⟩ rfl (Nat.le_of_ble_eq_true rfl) dX3_weighUp_2 ?_
  refine k_istore (pc := 5) h [1, 2, 3, 4, 0] (lv' := [(0, .ref pb), (1, .ref b), (2, .int l2), (3, .int l3), (4, .int p2)]) dX3_weighUp_5 (by decide) rfl ?_
  refine k_aload_n (pc := 7) h 0 dX3_weighUp_7 rfl ?_
  refine k_geti (pc := 8) h fl_X3_9 hpb rfl dX3_weighUp_8 ?_
  refine k_iconst (pc := 11) h (x := (-1 : Int32)) dX3_weighUp_11 (by decide) ?_
  refine k_icmp_eq (tgt := 47) (pc := 12) h dX3_weighUp_12 rfl hk (fun hc hk => ?_) (fun hc hk => ?_)
  · exact EJ47 _ _ _ _ hk
  · refine k_iload (pc := 15) h 4 dX3_weighUp_15 rfl ?_
    refine k_aload_n (pc := 17) h 0 dX3_weighUp_17 rfl ?_
    refine k_geti (pc := 18) h fl_X3_15 hpb rfl dX3_weighUp_18 ?_
    refine k_icmp_lt (tgt := 47) (pc := 21) h dX3_weighUp_21 rfl hk (fun hc hk => ?_) (fun hc hk => ?_)
    · exact EJ47 _ _ _ _ hk
    · refine k_iload (pc := 24) h 4 dX3_weighUp_24 rfl ?_
      refine k_aload_n (pc := 26) h 0 dX3_weighUp_26 rfl ?_
      refine k_geti (pc := 27) h fl_X3_15 hpb rfl dX3_weighUp_27 ?_
      refine k_icmp_ne (tgt := 51) (pc := 30) h dX3_weighUp_30 rfl hk (fun hc hk => ?_) (fun hc hk => ?_)
      · exact EJ51 _ _ _ _ hk
      · refine k_iload_n (pc := 33) h 3 dX3_weighUp_33 rfl ?_
        obtain ⟨p8, hc7, hk⟩ := bd_some hk
        refine k_callS1 (pc := 34) h (c_J6_bitCount_0f7a4 hc7) cw_X3_32 ⟨⟨by decide, by decide⟩, Nat.zero_le _, Nat.zero_le _⟩ rfl (Nat.le_of_ble_eq_true rfl) dX3_weighUp_34 ?_
        refine k_aload_n (pc := 37) h 0 dX3_weighUp_37 rfl ?_
        refine k_geti (pc := 38) h fl_X3_9 hpb rfl dX3_weighUp_38 ?_
        obtain ⟨p10, hc9, hk⟩ := bd_some hk
        refine k_callS1 (pc := 41) h (c_J6_bitCount_0f7a4 hc9) cw_X3_32 ⟨⟨by decide, by decide⟩, Nat.zero_le _, Nat.zero_le _⟩ rfl (Nat.le_of_ble_eq_true rfl) dX3_weighUp_41 ?_
        refine k_icmp_ge (tgt := 51) (pc := 44) h dX3_weighUp_44 rfl hk (fun hc hk => ?_) (fun hc hk => ?_)
        · exact EJ51 _ _ _ _ hk
        · exact EJ47 _ _ _ _ hk
def f_X5_unknownWeight (b : Nat) (w : WW) (l1 : Int32) (l2 : Int32) : Option (Int32) := (f_X6_notYetKnown b w l2 l1).bind (fun p2 => (f_X6_weightOf b w p2).bind (fun p4 => some (p4)))
set_option maxRecDepth 20000 in
set_option maxHeartbeats 4000000 in
theorem c_X5_unknownWeight {b : Nat} (hb : StAt LAY b) {w : WW} {l1 : Int32} {l2 : Int32} {z : Int32} (hk : f_X5_unknownWeight b w l1 l2 = some z) : Cn 2 yX5_unknownWeight cX5_unknownWeight 3 (some .int) LAY [.ref b, .int l1, .int l2] w (some (.int z)) w := by
  refine Cn.of (by decide +kernel) (Nat.le_of_ble_eq_true rfl) (fun G h => ?_)
  have h : Rules cX5_unknownWeight RX5 "unknownWeight" 3 (rmd 2 0 0) none _ _ LAY 0 0 G := h
  show G 0 [(0, .ref b), (1, .int l1), (2, .int l2)] [] w
  unfold f_X5_unknownWeight at hk
  refine k_aload_n (pc := 0) h 0 dX5_unknownWeight_0 rfl ?_
  refine k_aload_n (pc := 1) h 0 dX5_unknownWeight_1 rfl ?_
  refine k_iload_n (pc := 2) h 2 dX5_unknownWeight_2 rfl ?_
  refine k_iload_n (pc := 3) h 1 dX5_unknownWeight_3 rfl ?_
  obtain ⟨p2, hc1, hk⟩ := bd_some hk
  refine k_callV1 (pc := 4) h (c_X6_notYetKnown hb hc1) cw_X5_53 hb.1 rfl ⟨⟨by decide, by decide⟩, Nat.zero_le _, Nat.zero_le _⟩ rfl (Nat.le_of_ble_eq_true rfl) dX5_unknownWeight_4 ?_
  obtain ⟨p4, hc3, hk⟩ := bd_some hk
  refine k_callV1 (pc := 7) h (c_X6_weightOf hb hc3) cw_X5_56 hb.1 rfl ⟨⟨by decide, by decide⟩, Nat.zero_le _, Nat.zero_le _⟩ rfl (Nat.le_of_ble_eq_true rfl) dX5_unknownWeight_7 ?_
  have hk := Option.some.inj hk
  subst hk
  exact k_iret (pc := 10) h dX5_unknownWeight_10 ⟨rfl, rfl, rfl, rfl, rfl, ⟨.int, rfl, rfl⟩⟩
def f_X6_addAsked (b : Nat) (w : WW) (l1 : Int32) (l2 : Int32) : Option (WW) := if (w.1 b 2) < (8 : Int32) then gd (inb (w.1 b 2) 8) (stI w (b + 6) ((w.1 b 2)).toNatClampNeg ((l1 * (16 : Int32)) + l2) (fun u1 => stI u1 b 2 ((u1.1 b 2) + (1 : Int32)) (fun u2 => (f_X6_remember b u2 (-1 : Int32)).bind (fun p4 => some p4)))) else some w
set_option maxRecDepth 20000 in
set_option maxHeartbeats 4000000 in
theorem c_X6_addAsked {lay : List LyS} {b : Nat} (hb : StAt lay b) {w : WW} {l1 : Int32} {l2 : Int32} {z : WW} (hk : f_X6_addAsked b w l1 l2 = some z) : Cn 2 yX6_addAsked cX6_addAsked 3 none lay [.ref b, .int l1, .int l2] w none z := by
  refine Cn.of (by decide +kernel) (Nat.le_of_ble_eq_true rfl) (fun G h => ?_)
  have h : Rules cX6_addAsked RX6 "addAsked" 3 (rmd 2 0 0) none _ _ lay 0 0 G := h
  show G 0 [(0, .ref b), (1, .int l1), (2, .int l2)] [] w
  unfold f_X6_addAsked at hk
  refine k_aload_n (pc := 0) h 0 dX6_addAsked_0 rfl ?_
  refine k_geti (pc := 1) h fl_X6_44 hb.1 rfl dX6_addAsked_1 ?_
  refine k_bipush (pc := 4) h (x := (8 : Int32)) dX6_addAsked_4 (by decide) ?_
  refine k_icmp_lt (tgt := 10) (pc := 6) h dX6_addAsked_6 rfl hk (fun hc hk => ?_) (fun hc hk => ?_)
  · refine k_aload_n (pc := 10) h 0 dX6_addAsked_10 rfl ?_
    refine k_getr (pc := 11) h fl_X6_27 hb.1 rfl dX6_addAsked_11 ?_
    refine k_aload_n (pc := 14) h 0 dX6_addAsked_14 rfl ?_
    refine k_geti (pc := 15) h fl_X6_44 hb.1 rfl dX6_addAsked_15 ?_
    refine k_iload_n (pc := 18) h 1 dX6_addAsked_18 rfl ?_
    refine k_bipush (pc := 19) h (x := (16 : Int32)) dX6_addAsked_19 (by decide) ?_
    refine k_imul (pc := 21) h dX6_addAsked_21 ?_
    refine k_iload_n (pc := 22) h 2 dX6_addAsked_22 rfl ?_
    refine k_iadd (pc := 23) h dX6_addAsked_23 ?_
    refine k_iast (pc := 24) h hb.2.2.2.2.2.2.1 dX6_addAsked_24 hk (fun u1 hk => ?_)
    refine k_aload_n (pc := 25) h 0 dX6_addAsked_25 rfl ?_
    refine k_dup (pc := 26) h dX6_addAsked_26 rfl ?_
    refine k_geti (pc := 27) h fl_X6_44 hb.1 rfl dX6_addAsked_27 ?_
    refine k_iconst (pc := 30) h (x := (1 : Int32)) dX6_addAsked_30 (by decide) ?_
    refine k_iadd (pc := 31) h dX6_addAsked_31 ?_
    refine k_puti (pc := 32) h fl_X6_44 hb.1 rfl dX6_addAsked_32 hk (fun u2 hk => ?_)
    refine k_aload_n (pc := 35) h 0 dX6_addAsked_35 rfl ?_
    refine k_iconst (pc := 36) h (x := (-1 : Int32)) dX6_addAsked_36 (by decide) ?_
    obtain ⟨p4, hc3, hk⟩ := bd_some hk
    refine k_callV0 (pc := 37) h (c_X6_remember hb hc3) cw_X6_68 hb.1 rfl ⟨⟨by decide, by decide⟩, Nat.zero_le _, Nat.zero_le _⟩ rfl (Nat.le_of_ble_eq_true rfl) dX6_addAsked_37 ?_
    have hk := Option.some.inj hk
    subst hk
    exact k_vret (pc := 40) h dX6_addAsked_40 ⟨rfl, rfl, rfl, rfl, rfl, rfl⟩
  · have hk := Option.some.inj hk
    subst hk
    exact k_vret (pc := 9) h dX6_addAsked_9 ⟨rfl, rfl, rfl, rfl, rfl, rfl⟩
def f_X6_answerIn (b : Nat) (w : WW) (l1 : Int32) (l2 : Int32) : Option (Int32) := gd (inb l1 7) (gd (inb l1 7) ((f_X7_answerOf w (w.1 (b + 2) (l1).toNatClampNeg) (w.1 (b + 3) (l1).toNatClampNeg) l2).bind (fun p2 => some (p2))))
set_option maxRecDepth 20000 in
set_option maxHeartbeats 4000000 in
theorem c_X6_answerIn {lay : List LyS} {b : Nat} (hb : StAt lay b) {w : WW} {l1 : Int32} {l2 : Int32} {z : Int32} (hk : f_X6_answerIn b w l1 l2 = some z) : Cn 2 yX6_answerIn cX6_answerIn 3 (some .int) lay [.ref b, .int l1, .int l2] w (some (.int z)) w := by
  refine Cn.of (by decide +kernel) (Nat.le_of_ble_eq_true rfl) (fun G h => ?_)
  have h : Rules cX6_answerIn RX6 "answerIn" 3 (rmd 2 0 0) none _ _ lay 0 0 G := h
  show G 0 [(0, .ref b), (1, .int l1), (2, .int l2)] [] w
  unfold f_X6_answerIn at hk
  refine k_aload_n (pc := 0) h 0 dX6_answerIn_0 rfl ?_
  refine k_getr (pc := 1) h fl_X6_15 hb.1 rfl dX6_answerIn_1 ?_
  refine k_iload_n (pc := 4) h 1 dX6_answerIn_4 rfl ?_
  refine k_iald (pc := 5) h hb.2.2.1 dX6_answerIn_5 hk (fun hk => ?_)
  refine k_aload_n (pc := 6) h 0 dX6_answerIn_6 rfl ?_
  refine k_getr (pc := 7) h fl_X6_18 hb.1 rfl dX6_answerIn_7 ?_
  refine k_iload_n (pc := 10) h 1 dX6_answerIn_10 rfl ?_
  refine k_iald (pc := 11) h hb.2.2.2.1 dX6_answerIn_11 hk (fun hk => ?_)
  refine k_iload_n (pc := 12) h 2 dX6_answerIn_12 rfl ?_
  obtain ⟨p2, hc1, hk⟩ := bd_some hk
  refine k_callN1 (pc := 13) h (c_X7_answerOf hc1) cw_X6_64 ⟨⟨by decide, by decide⟩, Nat.zero_le _, Nat.zero_le _⟩ rfl (Nat.le_of_ble_eq_true rfl) dX6_answerIn_13 ?_
  have hk := Option.some.inj hk
  subst hk
  exact k_iret (pc := 16) h dX6_answerIn_16 ⟨rfl, rfl, rfl, rfl, rfl, ⟨.int, rfl, rfl⟩⟩
def f_X6_dropFirstAsked (b : Nat) (w : WW) : Option (WW) := if (1 : Int32) ≤ (w.1 b 2) then gd (inb (0 : Int32) 8) ((f_X6_remember b w (w.1 (b + 6) ((0 : Int32)).toNatClampNeg)).bind (fun p2 => stI p2 b 2 ((p2.1 b 2) - (1 : Int32)) (fun u3 => gd (cpOk 8 8 (1 : Int32) (0 : Int32) (u3.1 b 2)) (stC u3 (b + 6) (b + 6) (1 : Int32) (0 : Int32) (u3.1 b 2) (fun u4 => some u4))))) else some w
set_option maxRecDepth 20000 in
set_option maxHeartbeats 4000000 in
theorem c_X6_dropFirstAsked {lay : List LyS} {b : Nat} (hb : StAt lay b) {w : WW} {z : WW} (hk : f_X6_dropFirstAsked b w = some z) : Cn 2 yX6_dropFirstAsked cX6_dropFirstAsked 1 none lay [.ref b] w none z := by
  refine Cn.of (by decide +kernel) (Nat.le_of_ble_eq_true rfl) (fun G h => ?_)
  have h : Rules cX6_dropFirstAsked RX6 "dropFirstAsked" 1 (rmd 2 0 0) none _ _ lay 0 0 G := h
  show G 0 [(0, .ref b)] [] w
  unfold f_X6_dropFirstAsked at hk
  refine k_aload_n (pc := 0) h 0 dX6_dropFirstAsked_0 rfl ?_
  refine k_geti (pc := 1) h fl_X6_44 hb.1 rfl dX6_dropFirstAsked_1 ?_
  refine k_iconst (pc := 4) h (x := (1 : Int32)) dX6_dropFirstAsked_4 (by decide) ?_
  refine k_icmp_ge (tgt := 9) (pc := 5) h dX6_dropFirstAsked_5 rfl hk (fun hc hk => ?_) (fun hc hk => ?_)
  · refine k_aload_n (pc := 9) h 0 dX6_dropFirstAsked_9 rfl ?_
    refine k_aload_n (pc := 10) h 0 dX6_dropFirstAsked_10 rfl ?_
    refine k_getr (pc := 11) h fl_X6_27 hb.1 rfl dX6_dropFirstAsked_11 ?_
    refine k_iconst (pc := 14) h (x := (0 : Int32)) dX6_dropFirstAsked_14 (by decide) ?_
    refine k_iald (pc := 15) h hb.2.2.2.2.2.2.1 dX6_dropFirstAsked_15 hk (fun hk => ?_)
    obtain ⟨p2, hc1, hk⟩ := bd_some hk
    refine k_callV0 (pc := 16) h (c_X6_remember hb hc1) cw_X6_68 hb.1 rfl ⟨⟨by decide, by decide⟩, Nat.zero_le _, Nat.zero_le _⟩ rfl (Nat.le_of_ble_eq_true rfl) dX6_dropFirstAsked_16 ?_
    refine k_aload_n (pc := 19) h 0 dX6_dropFirstAsked_19 rfl ?_
    refine k_dup (pc := 20) h dX6_dropFirstAsked_20 rfl ?_
    refine k_geti (pc := 21) h fl_X6_44 hb.1 rfl dX6_dropFirstAsked_21 ?_
    refine k_iconst (pc := 24) h (x := (1 : Int32)) dX6_dropFirstAsked_24 (by decide) ?_
    refine k_isub (pc := 25) h dX6_dropFirstAsked_25 ?_
    refine k_puti (pc := 26) h fl_X6_44 hb.1 rfl dX6_dropFirstAsked_26 hk (fun u3 hk => ?_)
    refine k_aload_n (pc := 29) h 0 dX6_dropFirstAsked_29 rfl ?_
    refine k_getr (pc := 30) h fl_X6_27 hb.1 rfl dX6_dropFirstAsked_30 ?_
    refine k_iconst (pc := 33) h (x := (1 : Int32)) dX6_dropFirstAsked_33 (by decide) ?_
    refine k_aload_n (pc := 34) h 0 dX6_dropFirstAsked_34 rfl ?_
    refine k_getr (pc := 35) h fl_X6_27 hb.1 rfl dX6_dropFirstAsked_35 ?_
    refine k_iconst (pc := 38) h (x := (0 : Int32)) dX6_dropFirstAsked_38 (by decide) ?_
    refine k_aload_n (pc := 39) h 0 dX6_dropFirstAsked_39 rfl ?_
    refine k_geti (pc := 40) h fl_X6_44 hb.1 rfl dX6_dropFirstAsked_40 ?_
    refine k_copyi (pc := 43) h cp_X6_50 hb.2.2.2.2.2.2.1 hb.2.2.2.2.2.2.1 (by decide) (Nat.le_of_ble_eq_true rfl) dX6_dropFirstAsked_43 hk (fun u4 hk => ?_)
    have hk := Option.some.inj hk
    subst hk
    exact k_vret (pc := 46) h dX6_dropFirstAsked_46 ⟨rfl, rfl, rfl, rfl, rfl, rfl⟩
  · have hk := Option.some.inj hk
    subst hk
    exact k_vret (pc := 8) h dX6_dropFirstAsked_8 ⟨rfl, rfl, rfl, rfl, rfl, rfl⟩
def f_X7_fair (w : WW) (l1 : Int32) : Option (Int32 × WW) := (f_X7_within w l1 (1 : Int32) (16 : Int32)).bind (fun p2 => if p2 = 0 then (f_X7_refuse w (-2 : Int32) (-2 : Int32)).bind (fun p7 => some (p7.1, p7.2)) else nmv (w.1 1 1) (fun v3 => (f_X6_begin 1 w l1).bind (fun p5 => some (v3, p5))))
set_option maxRecDepth 20000 in
set_option maxHeartbeats 4000000 in
theorem c_X7_fair {w : WW} {l1 : Int32} {z : Int32 × WW} (hk : f_X7_fair w l1 = some z) : Cn 2 yX7_fair cX7_fair 3 (some .int) LAY [.ref 0, .int l1] w (some (.int z.1)) z.2 := by
  refine Cn.of (by decide +kernel) (Nat.le_of_ble_eq_true rfl) (fun G h => ?_)
  have h : Rules cX7_fair RX7 "fair" 3 (rmd 2 0 0) none _ _ LAY 0 0 G := h
  show G 0 [(0, .ref 0), (1, .int l1)] [] w
  unfold f_X7_fair at hk
  refine k_iload_n (pc := 0) h 1 dX7_fair_0 rfl ?_
  refine k_iconst (pc := 1) h (x := (1 : Int32)) dX7_fair_1 (by decide) ?_
  refine k_bipush (pc := 2) h (x := (16 : Int32)) dX7_fair_2 (by decide) ?_
  obtain ⟨p2, hc1, hk⟩ := bd_some hk
  refine k_callS1 (pc := 4) h (c_X7_within hc1) cw_X7_75 ⟨⟨by decide, by decide⟩, Nat.zero_le _, Nat.zero_le _⟩ rfl (Nat.le_of_ble_eq_true rfl) dX7_fair_4 ?_
  refine k_if_ne (tgt := 19) (pc := 7) h dX7_fair_7 rfl hk (fun hc hk => ?_) (fun hc hk => ?_)
  · refine k_aload_n (pc := 19) h 0 dX7_fair_19 rfl ?_
    refine k_getr (pc := 20) h fl_X7_10 ly_0 rfl dX7_fair_20 ?_
    refine k_geti (pc := 23) h fl_X7_83 ly_1 rfl dX7_fair_23 ?_
    refine k_nmi (pc := 26) h hk (fun v3 hk => ?_)
    refine k_istore_n (pc := 26) h [1, 2, 0] (lv' := [(0, .ref 0), (1, .int l1), (2, .int v3)]) dX7_fair_26 rfl (by decide) rfl ?_
    refine k_aload_n (pc := 27) h 0 dX7_fair_27 rfl ?_
    refine k_getr (pc := 28) h fl_X7_10 ly_0 rfl dX7_fair_28 ?_
    refine k_iload_n (pc := 31) h 1 dX7_fair_31 rfl ?_
    obtain ⟨p5, hc4, hk⟩ := bd_some hk
    refine k_callV0 (pc := 32) h (c_X6_begin st_1 hc4) cw_X7_87 ly_1 rfl ⟨⟨by decide, by decide⟩, Nat.zero_le _, Nat.zero_le _⟩ rfl (Nat.le_of_ble_eq_true rfl) dX7_fair_32 ?_
    refine k_iload_n (pc := 35) h 2 dX7_fair_35 rfl ?_
    have hk := Option.some.inj hk
    subst hk
    exact k_iret (pc := 36) h dX7_fair_36 ⟨rfl, rfl, rfl, rfl, rfl, ⟨.int, rfl, rfl⟩⟩
  · refine k_aload_n (pc := 10) h 0 dX7_fair_10 rfl ?_
    refine k_bipush (pc := 11) h (x := (-2 : Int32)) dX7_fair_11 (by decide) ?_
    refine k_bipush (pc := 13) h (x := (-2 : Int32)) dX7_fair_13 (by decide) ?_
    obtain ⟨p7, hc6, hk⟩ := bd_some hk
    refine k_callV1 (pc := 15) h (c_X7_refuse hc6) cw_X7_79 ly_0 rfl ⟨⟨by decide, by decide⟩, Nat.zero_le _, Nat.zero_le _⟩ rfl (Nat.le_of_ble_eq_true rfl) dX7_fair_15 ?_
    have hk := Option.some.inj hk
    subst hk
    exact k_iret (pc := 18) h dX7_fair_18 ⟨rfl, rfl, rfl, rfl, rfl, ⟨.int, rfl, rfl⟩⟩
def f_X7_from (w : WW) (l1 : Int32) : Option (Int32 × WW) := (f_X7_within w l1 (0 : Int32) (1 : Int32)).bind (fun p2 => if p2 = 0 then (f_X7_refuse w (-2 : Int32) (-2 : Int32)).bind (fun p10 => some (p10.1, p10.2)) else gd (inb l1 2) (if (w.1 25 (l1).toNatClampNeg) = 0 then (f_X7_refuse w (-3 : Int32) (-3 : Int32)).bind (fun p8 => some (p8.1, p8.2)) else (f_X7_imageAt w l1).bind (fun p4 => (f_X6_takeFrom 1 p4 w).bind (fun p6 => some ((1 : Int32), p6)))))
set_option maxRecDepth 20000 in
set_option maxHeartbeats 4000000 in
theorem c_X7_from {w : WW} {l1 : Int32} {z : Int32 × WW} (hk : f_X7_from w l1 = some z) : Cn 2 yX7_from cX7_from 2 (some .int) LAY [.ref 0, .int l1] w (some (.int z.1)) z.2 := by
  refine Cn.of (by decide +kernel) (Nat.le_of_ble_eq_true rfl) (fun G h => ?_)
  have h : Rules cX7_from RX7 "from" 2 (rmd 2 0 0) none _ _ LAY 0 0 G := h
  show G 0 [(0, .ref 0), (1, .int l1)] [] w
  unfold f_X7_from at hk
  refine k_iload_n (pc := 0) h 1 dX7_from_0 rfl ?_
  refine k_iconst (pc := 1) h (x := (0 : Int32)) dX7_from_1 (by decide) ?_
  refine k_iconst (pc := 2) h (x := (1 : Int32)) dX7_from_2 (by decide) ?_
  obtain ⟨p2, hc1, hk⟩ := bd_some hk
  refine k_callS1 (pc := 3) h (c_X7_within hc1) cw_X7_75 ⟨⟨by decide, by decide⟩, Nat.zero_le _, Nat.zero_le _⟩ rfl (Nat.le_of_ble_eq_true rfl) dX7_from_3 ?_
  refine k_if_ne (tgt := 18) (pc := 6) h dX7_from_6 rfl hk (fun hc hk => ?_) (fun hc hk => ?_)
  · refine k_aload_n (pc := 18) h 0 dX7_from_18 rfl ?_
    refine k_getr (pc := 19) h fl_X7_22 ly_0 rfl dX7_from_19 ?_
    refine k_iload_n (pc := 22) h 1 dX7_from_22 rfl ?_
    refine k_zald (pc := 23) h ly_25 dX7_from_23 hk (fun hk => ?_)
    refine k_if_ne (tgt := 36) (pc := 24) h dX7_from_24 rfl hk (fun hc hk => ?_) (fun hc hk => ?_)
    · refine k_aload_n (pc := 36) h 0 dX7_from_36 rfl ?_
      refine k_getr (pc := 37) h fl_X7_10 ly_0 rfl dX7_from_37 ?_
      refine k_aload_n (pc := 40) h 0 dX7_from_40 rfl ?_
      refine k_iload_n (pc := 41) h 1 dX7_from_41 rfl ?_
      obtain ⟨p4, hc3, hk⟩ := bd_some hk
      refine k_callV1 (pc := 42) h (c_X7_imageAt hc3) cw_X7_246 ly_0 rfl ⟨⟨by decide, by decide⟩, Nat.zero_le _, Nat.zero_le _⟩ rfl (Nat.le_of_ble_eq_true rfl) dX7_from_42 ?_
      obtain ⟨p6, hc5, hk⟩ := bd_some hk
      refine k_callV0 (pc := 45) h (c_X6_takeFrom st_1 (sti_X7_imageAt hc3) hc5) cw_X7_124 ly_1 rfl ⟨⟨by decide, by decide⟩, Nat.zero_le _, Nat.zero_le _⟩ rfl (Nat.le_of_ble_eq_true rfl) dX7_from_45 ?_
      refine k_iconst (pc := 48) h (x := (1 : Int32)) dX7_from_48 (by decide) ?_
      have hk := Option.some.inj hk
      subst hk
      exact k_iret (pc := 49) h dX7_from_49 ⟨rfl, rfl, rfl, rfl, rfl, ⟨.int, rfl, rfl⟩⟩
    · refine k_aload_n (pc := 27) h 0 dX7_from_27 rfl ?_
      refine k_bipush (pc := 28) h (x := (-3 : Int32)) dX7_from_28 (by decide) ?_
      refine k_bipush (pc := 30) h (x := (-3 : Int32)) dX7_from_30 (by decide) ?_
      obtain ⟨p8, hc7, hk⟩ := bd_some hk
      refine k_callV1 (pc := 32) h (c_X7_refuse hc7) cw_X7_79 ly_0 rfl ⟨⟨by decide, by decide⟩, Nat.zero_le _, Nat.zero_le _⟩ rfl (Nat.le_of_ble_eq_true rfl) dX7_from_32 ?_
      have hk := Option.some.inj hk
      subst hk
      exact k_iret (pc := 35) h dX7_from_35 ⟨rfl, rfl, rfl, rfl, rfl, ⟨.int, rfl, rfl⟩⟩
  · refine k_aload_n (pc := 9) h 0 dX7_from_9 rfl ?_
    refine k_bipush (pc := 10) h (x := (-2 : Int32)) dX7_from_10 (by decide) ?_
    refine k_bipush (pc := 12) h (x := (-2 : Int32)) dX7_from_12 (by decide) ?_
    obtain ⟨p10, hc9, hk⟩ := bd_some hk
    refine k_callV1 (pc := 14) h (c_X7_refuse hc9) cw_X7_79 ly_0 rfl ⟨⟨by decide, by decide⟩, Nat.zero_le _, Nat.zero_le _⟩ rfl (Nat.le_of_ble_eq_true rfl) dX7_from_14 ?_
    have hk := Option.some.inj hk
    subst hk
    exact k_iret (pc := 17) h dX7_from_17 ⟨rfl, rfl, rfl, rfl, rfl, ⟨.int, rfl, rfl⟩⟩
def f_X7_image (w : WW) (l1 : Int32) : Option (Int32 × WW) := (f_X7_within w l1 (0 : Int32) (1 : Int32)).bind (fun p2 => if p2 = 0 then (f_X7_refuse w (-2 : Int32) (-2 : Int32)).bind (fun p9 => some (p9.1, p9.2)) else (f_X7_imageAt w l1).bind (fun p4 => (f_X6_takeFrom p4 1 w).bind (fun p6 => gd (inb l1 2) (stI p6 25 (l1).toNatClampNeg (vp_nar .boolean (1 : Int32)) (fun u7 => some ((1 : Int32), u7))))))
set_option maxRecDepth 20000 in
set_option maxHeartbeats 4000000 in
theorem c_X7_image {w : WW} {l1 : Int32} {z : Int32 × WW} (hk : f_X7_image w l1 = some z) : Cn 2 yX7_image cX7_image 2 (some .int) LAY [.ref 0, .int l1] w (some (.int z.1)) z.2 := by
  refine Cn.of (by decide +kernel) (Nat.le_of_ble_eq_true rfl) (fun G h => ?_)
  have h : Rules cX7_image RX7 "image" 2 (rmd 2 0 0) none _ _ LAY 0 0 G := h
  show G 0 [(0, .ref 0), (1, .int l1)] [] w
  unfold f_X7_image at hk
  refine k_iload_n (pc := 0) h 1 dX7_image_0 rfl ?_
  refine k_iconst (pc := 1) h (x := (0 : Int32)) dX7_image_1 (by decide) ?_
  refine k_iconst (pc := 2) h (x := (1 : Int32)) dX7_image_2 (by decide) ?_
  obtain ⟨p2, hc1, hk⟩ := bd_some hk
  refine k_callS1 (pc := 3) h (c_X7_within hc1) cw_X7_75 ⟨⟨by decide, by decide⟩, Nat.zero_le _, Nat.zero_le _⟩ rfl (Nat.le_of_ble_eq_true rfl) dX7_image_3 ?_
  refine k_if_ne (tgt := 18) (pc := 6) h dX7_image_6 rfl hk (fun hc hk => ?_) (fun hc hk => ?_)
  · refine k_aload_n (pc := 18) h 0 dX7_image_18 rfl ?_
    refine k_iload_n (pc := 19) h 1 dX7_image_19 rfl ?_
    obtain ⟨p4, hc3, hk⟩ := bd_some hk
    refine k_callV1 (pc := 20) h (c_X7_imageAt hc3) cw_X7_246 ly_0 rfl ⟨⟨by decide, by decide⟩, Nat.zero_le _, Nat.zero_le _⟩ rfl (Nat.le_of_ble_eq_true rfl) dX7_image_20 ?_
    refine k_aload_n (pc := 23) h 0 dX7_image_23 rfl ?_
    refine k_getr (pc := 24) h fl_X7_10 ly_0 rfl dX7_image_24 ?_
    obtain ⟨p6, hc5, hk⟩ := bd_some hk
    refine k_callV0 (pc := 27) h (c_X6_takeFrom (sti_X7_imageAt hc3) st_1 hc5) cw_X7_124 (sti_X7_imageAt hc3).1 rfl ⟨⟨by decide, by decide⟩, Nat.zero_le _, Nat.zero_le _⟩ rfl (Nat.le_of_ble_eq_true rfl) dX7_image_27 ?_
    refine k_aload_n (pc := 30) h 0 dX7_image_30 rfl ?_
    refine k_getr (pc := 31) h fl_X7_22 ly_0 rfl dX7_image_31 ?_
    refine k_iload_n (pc := 34) h 1 dX7_image_34 rfl ?_
    refine k_iconst (pc := 35) h (x := (1 : Int32)) dX7_image_35 (by decide) ?_
    refine k_zast (pc := 36) h ly_25 dX7_image_36 hk (fun u7 hk => ?_)
    refine k_iconst (pc := 37) h (x := (1 : Int32)) dX7_image_37 (by decide) ?_
    have hk := Option.some.inj hk
    subst hk
    exact k_iret (pc := 38) h dX7_image_38 ⟨rfl, rfl, rfl, rfl, rfl, ⟨.int, rfl, rfl⟩⟩
  · refine k_aload_n (pc := 9) h 0 dX7_image_9 rfl ?_
    refine k_bipush (pc := 10) h (x := (-2 : Int32)) dX7_image_10 (by decide) ?_
    refine k_bipush (pc := 12) h (x := (-2 : Int32)) dX7_image_12 (by decide) ?_
    obtain ⟨p9, hc8, hk⟩ := bd_some hk
    refine k_callV1 (pc := 14) h (c_X7_refuse hc8) cw_X7_79 ly_0 rfl ⟨⟨by decide, by decide⟩, Nat.zero_le _, Nat.zero_le _⟩ rfl (Nat.le_of_ble_eq_true rfl) dX7_image_14 ?_
    have hk := Option.some.inj hk
    subst hk
    exact k_iret (pc := 17) h dX7_image_17 ⟨rfl, rfl, rfl, rfl, rfl, ⟨.int, rfl, rfl⟩⟩
def f_X7_isRow_b17 (w : WW) (l2 : Int32) (l3 : Int32) : Option ((Int32 × Int32) ⊕ ((Unit) ⊕ (Unit))) := if (7 : Int32) ≤ l3 then some (.inr (.inr ())) else if l2 ≤ 0 then some (.inr (.inr ())) else gd (¬ (10 : Int32) = 0) ((f_X7_isQuestion w ((rm32 l2 (10 : Int32)) - (1 : Int32))).bind (fun p4 => if p4 = 0 then some (.inr (.inl ())) else gd (¬ (10 : Int32) = 0) (nmv (l2 / (10 : Int32)) (fun v5 => some (.inl (v5, (l3 + (1 : Int32))))))))
def f_X7_isRow (w : WW) (l1 : Int32) : Option (Int32) := (f_X7_within w l1 (0 : Int32) (7777777 : Int32)).bind (fun p2 => if p2 = 0 then some ((0 : Int32)) else (lpf (fun s : Int32 × Int32 => f_X7_isRow_b17 w s.1 s.2) FU (l1, (0 : Int32))).bind (Sum.elim (fun r6 => some ((0 : Int32))) (fun r6 => some ((1 : Int32)))))
set_option maxRecDepth 20000 in
set_option maxHeartbeats 4000000 in
theorem c_X7_isRow {w : WW} {l1 : Int32} {z : Int32} (hk : f_X7_isRow w l1 = some z) : Cn 2 yX7_isRow cX7_isRow 4 (some .boolean) LAY [.ref 0, .int l1] w (some (.int z)) w := by
  refine Cn.of (by decide +kernel) (Nat.le_of_ble_eq_true rfl) (fun G h => ?_)
  have h : Rules cX7_isRow RX7 "isRow" 4 (rmd 2 0 0) none _ _ LAY 0 0 G := h
  show G 0 [(0, .ref 0), (1, .int l1)] [] w
  unfold f_X7_isRow at hk
  have LB17 : ∀ (nn : Nat) (s : Int32 × Int32) (r : (Unit) ⊕ (Unit)), lpf (fun s : Int32 × Int32 => f_X7_isRow_b17 w s.1 s.2) nn s = some r → (Sum.elim (fun r : Unit => G 40 [] [] w) (fun r : Unit => G 53 [] [] w)) r → (fun s : Int32 × Int32 => G 17 [(0, .ref 0), (2, .int s.1), (3, .int s.2)] [] w) s := by
    refine lpf_ind (fun s : Int32 × Int32 => G 17 [(0, .ref 0), (2, .int s.1), (3, .int s.2)] [] w) (Sum.elim (fun r : Unit => G 40 [] [] w) (fun r : Unit => G 53 [] [] w)) ?_
    rintro ⟨l2, l3⟩ z hk hz
    have hk : f_X7_isRow_b17 w l2 l3 = some z := hk
    unfold f_X7_isRow_b17 at hk
    show G 17 [(0, .ref 0), (2, .int l2), (3, .int l3)] [] w
    refine k_iload_n (pc := 17) h 2 dX7_isRow_17 rfl ?_
    refine k_bipush (pc := 18) h (x := (7 : Int32)) dX7_isRow_18 (by decide) ?_
    refine k_icmp_ge (tgt := 53) (pc := 20) h dX7_isRow_20 rfl hk (fun hc hk => ?_) (fun hc hk => ?_)
    · refine k_sub h [] (lv' := []) rfl ?_
      have hk := Option.some.inj hk
      subst hk
      exact hz
    · refine k_iload_n (pc := 23) h 1 dX7_isRow_23 rfl ?_
      refine k_if_le (tgt := 53) (pc := 24) h dX7_isRow_24 rfl hk (fun hc hk => ?_) (fun hc hk => ?_)
      · refine k_sub h [] (lv' := []) rfl ?_
        have hk := Option.some.inj hk
        subst hk
        exact hz
      · refine k_aload_n (pc := 27) h 0 dX7_isRow_27 rfl ?_
        refine k_iload_n (pc := 28) h 1 dX7_isRow_28 rfl ?_
        refine k_bipush (pc := 29) h (x := (10 : Int32)) dX7_isRow_29 (by decide) ?_
        refine k_irem (pc := 31) h dX7_isRow_31 hk (fun hk => ?_)
        refine k_iconst (pc := 32) h (x := (1 : Int32)) dX7_isRow_32 (by decide) ?_
        refine k_isub (pc := 33) h dX7_isRow_33 ?_
        obtain ⟨p4, hc3, hk⟩ := bd_some hk
        refine k_callV1 (pc := 34) h (c_X7_isQuestion hc3) cw_X7_102 ly_0 rfl ⟨⟨by decide, by decide⟩, Nat.zero_le _, Nat.zero_le _⟩ rfl (Nat.le_of_ble_eq_true rfl) dX7_isRow_34 ?_
        refine k_if_ne (tgt := 42) (pc := 37) h dX7_isRow_37 rfl hk (fun hc hk => ?_) (fun hc hk => ?_)
        · refine k_iload_n (pc := 42) h 1 dX7_isRow_42 rfl ?_
          refine k_bipush (pc := 43) h (x := (10 : Int32)) dX7_isRow_43 (by decide) ?_
          refine k_idiv (pc := 45) h dX7_isRow_45 hk (fun hk => ?_)
          refine k_nmi (pc := 46) h hk (fun v5 hk => ?_)
          refine k_istore_n (pc := 46) h [1, 0, 2] (lv' := [(0, .ref 0), (2, .int v5), (3, .int l3)]) dX7_isRow_46 rfl (by decide) rfl ?_
          refine k_iinc (pc := 47) h 2 [1, 2, 0] (v := (l3 + (1 : Int32))) (lv' := [(0, .ref 0), (2, .int v5), (3, .int (l3 + (1 : Int32)))]) dX7_isRow_47 rfl rfl (by decide) rfl ?_
          refine k_goto (tgt := 17) (pc := 50) h dX7_isRow_50 rfl ?_
          have hk := Option.some.inj hk
          subst hk
          exact hz
        · refine k_sub h [] (lv' := []) rfl ?_
          have hk := Option.some.inj hk
          subst hk
          exact hz
  refine k_iload_n (pc := 0) h 1 dX7_isRow_0 rfl ?_
  refine k_iconst (pc := 1) h (x := (0 : Int32)) dX7_isRow_1 (by decide) ?_
  refine k_ldcw (pc := 2) h (x := (7777777 : Int32)) cs_X7_268 dX7_isRow_2 ?_
  obtain ⟨p2, hc1, hk⟩ := bd_some hk
  refine k_callS1 (pc := 5) h (c_X7_within hc1) cw_X7_75 ⟨⟨by decide, by decide⟩, Nat.zero_le _, Nat.zero_le _⟩ rfl (Nat.le_of_ble_eq_true rfl) dX7_isRow_5 ?_
  refine k_if_ne (tgt := 13) (pc := 8) h dX7_isRow_8 rfl hk (fun hc hk => ?_) (fun hc hk => ?_)
  · refine k_iload_n (pc := 13) h 1 dX7_isRow_13 rfl ?_
    refine k_istore_n (pc := 14) h [1, 2, 0] (lv' := [(0, .ref 0), (1, .int l1), (2, .int l1)]) dX7_isRow_14 rfl (by decide) rfl ?_
    refine k_iconst (pc := 15) h (x := (0 : Int32)) dX7_isRow_15 (by decide) ?_
    refine k_istore_n (pc := 16) h [1, 2, 3, 0] (lv' := [(0, .ref 0), (1, .int l1), (2, .int l1), (3, .int (0 : Int32))]) dX7_isRow_16 rfl (by decide) rfl ?_
    refine k_sub h [0, 2, 3] (lv' := [(0, .ref 0), (2, .int l1), (3, .int (0 : Int32))]) rfl ?_
    obtain ⟨r6, hl7, hk⟩ := bd_some hk
    refine LB17 _ _ _ hl7 ?_
    rcases r6 with r6 | r6
    · replace hk := elim_l hk
      show G 40 [] [] w
      refine k_iconst (pc := 40) h (x := (0 : Int32)) dX7_isRow_40 (by decide) ?_
      have hk := Option.some.inj hk
      subst hk
      exact k_iret (pc := 41) h dX7_isRow_41 ⟨rfl, rfl, rfl, rfl, rfl, ⟨.boolean, rfl, rfl⟩⟩
    · replace hk := elim_r hk
      show G 53 [] [] w
      refine k_iconst (pc := 53) h (x := (1 : Int32)) dX7_isRow_53 (by decide) ?_
      have hk := Option.some.inj hk
      subst hk
      exact k_iret (pc := 54) h dX7_isRow_54 ⟨rfl, rfl, rfl, rfl, rfl, ⟨.boolean, rfl, rfl⟩⟩
  · refine k_iconst (pc := 11) h (x := (0 : Int32)) dX7_isRow_11 (by decide) ?_
    have hk := Option.some.inj hk
    subst hk
    exact k_iret (pc := 12) h dX7_isRow_12 ⟨rfl, rfl, rfl, rfl, rfl, ⟨.boolean, rfl, rfl⟩⟩
def f_X7_knows_j40 (w : WW) : Option (Int32 × WW) := (f_X7_refuse w (-2 : Int32) (-10 : Int32)).bind (fun p4 => some (p4.1, p4.2))
def f_X7_knows_j109 (w : WW) (l1 : Int32) (l2 : Int32) (l3 : Int32) (l4 : Int32) (l5 : Int32) (l6 : Int32) : Option ((Int32 × Int32 × Int32) ⊕ (Int32 × Int32)) := some (.inl (l4, l5, (l6 + (1 : Int32))))
def f_X7_knows_b66 (w : WW) (l1 : Int32) (l2 : Int32) (l3 : Int32) (l4 : Int32) (l5 : Int32) (l6 : Int32) : Option ((Int32 × Int32 × Int32) ⊕ (Int32 × Int32)) := (f_X6_allSets 1 w).bind (fun p15 => if p15 ≤ l6 then some (.inr (l4, l5)) else (f_X6_allCases 1 w).bind (fun p17 => (f_X6_behind 1 w l6 l1 p17).bind (fun p19 => if p19 = l2 then nmv (l5 &&& l6) (fun v20 => f_X7_knows_j109 w l1 l2 l3 (l4 + (1 : Int32)) v20 l6) else f_X7_knows_j109 w l1 l2 l3 l4 l5 l6)))
def f_X7_knows (w : WW) (l1 : Int32) (l2 : Int32) (l3 : Int32) : Option (Int32 × WW) := (f_X7_isCase w l1).bind (fun p2 => if p2 = 0 then f_X7_knows_j40 w else (f_X6_allCases 1 w).bind (fun p6 => (f_X7_within w l2 (0 : Int32) p6).bind (fun p8 => if p8 = 0 then f_X7_knows_j40 w else (f_X7_within w l3 (0 : Int32) (1 : Int32)).bind (fun p10 => if p10 = 0 then f_X7_knows_j40 w else if ((shr32 l2 l1) &&& (1 : Int32)) = 0 then f_X7_knows_j40 w else (f_X6_allSets 1 w).bind (fun p12 => nmv (p12 - (1 : Int32)) (fun v13 => (lpf (fun s : Int32 × Int32 × Int32 => f_X7_knows_b66 w l1 l2 l3 s.1 s.2.1 s.2.2) FU ((0 : Int32), v13, (0 : Int32))).bind (fun r21 => if l3 = 0 then some (r21.1, w) else if r21.1 = 0 then some ((-1 : Int32), w) else some (r21.2, w))))))))
set_option maxRecDepth 20000 in
set_option maxHeartbeats 4000000 in
theorem c_X7_knows {w : WW} {l1 : Int32} {l2 : Int32} {l3 : Int32} {z : Int32 × WW} (hk : f_X7_knows w l1 l2 l3 = some z) : Cn 2 yX7_knows cX7_knows 7 (some .int) LAY [.ref 0, .int l1, .int l2, .int l3] w (some (.int z.1)) z.2 := by
  refine Cn.of (by decide +kernel) (Nat.le_of_ble_eq_true rfl) (fun G h => ?_)
  have h : Rules cX7_knows RX7 "knows" 7 (rmd 2 0 0) none _ _ LAY 0 0 G := h
  show G 0 [(0, .ref 0), (1, .int l1), (2, .int l2), (3, .int l3)] [] w
  unfold f_X7_knows at hk
  have EJ40 : ∀ (w : WW), f_X7_knows_j40 w = some z → G 40 [(0, .ref 0)] [] w := by
    intro w hk
    unfold f_X7_knows_j40 at hk
    refine k_aload_n (pc := 40) h 0 dX7_knows_40 rfl ?_
    refine k_bipush (pc := 41) h (x := (-2 : Int32)) dX7_knows_41 (by decide) ?_
    refine k_bipush (pc := 43) h (x := (-10 : Int32)) dX7_knows_43 (by decide) ?_
    obtain ⟨p4, hc3, hk⟩ := bd_some hk
    refine k_callV1 (pc := 45) h (c_X7_refuse hc3) cw_X7_79 ly_0 rfl ⟨⟨by decide, by decide⟩, Nat.zero_le _, Nat.zero_le _⟩ rfl (Nat.le_of_ble_eq_true rfl) dX7_knows_45 ?_
    have hk := Option.some.inj hk
    subst hk
    exact k_iret (pc := 48) h dX7_knows_48 ⟨rfl, rfl, rfl, rfl, rfl, ⟨.int, rfl, rfl⟩⟩
  have EJ109 : ∀ (w : WW) (l1 : Int32) (l2 : Int32) (l3 : Int32) (l4 : Int32) (l5 : Int32) (l6 : Int32) (z : (Int32 × Int32 × Int32) ⊕ (Int32 × Int32)), f_X7_knows_j109 w l1 l2 l3 l4 l5 l6 = some z → Sum.elim (fun s : Int32 × Int32 × Int32 => G 66 [(0, .ref 0), (1, .int l1), (2, .int l2), (3, .int l3), (4, .int s.1), (5, .int s.2.1), (6, .int s.2.2)] [] w) (fun r : Int32 × Int32 => G 115 [(3, .int l3), (4, .int r.1), (5, .int r.2)] [] w) z → G 109 [(0, .ref 0), (1, .int l1), (2, .int l2), (3, .int l3), (4, .int l4), (5, .int l5), (6, .int l6)] [] w := by
    intro w l1 l2 l3 l4 l5 l6 z hk hz
    unfold f_X7_knows_j109 at hk
    refine k_iinc (pc := 109) h 6 [1, 2, 3, 4, 5, 6, 0] (v := (l6 + (1 : Int32))) (lv' := [(0, .ref 0), (1, .int l1), (2, .int l2), (3, .int l3), (4, .int l4), (5, .int l5), (6, .int (l6 + (1 : Int32)))]) dX7_knows_109 rfl rfl (by decide) rfl ?_
    refine k_goto (tgt := 66) (pc := 112) h dX7_knows_112 rfl ?_
    have hk := Option.some.inj hk
    subst hk
    exact hz
  have LB66 : ∀ (w : WW) (l1 : Int32) (l2 : Int32) (l3 : Int32), ∀ (nn : Nat) (s : Int32 × Int32 × Int32) (r : Int32 × Int32), lpf (fun s : Int32 × Int32 × Int32 => f_X7_knows_b66 w l1 l2 l3 s.1 s.2.1 s.2.2) nn s = some r → (fun r : Int32 × Int32 => G 115 [(3, .int l3), (4, .int r.1), (5, .int r.2)] [] w) r → (fun s : Int32 × Int32 × Int32 => G 66 [(0, .ref 0), (1, .int l1), (2, .int l2), (3, .int l3), (4, .int s.1), (5, .int s.2.1), (6, .int s.2.2)] [] w) s := by
    intro w l1 l2 l3
    refine lpf_ind (fun s : Int32 × Int32 × Int32 => G 66 [(0, .ref 0), (1, .int l1), (2, .int l2), (3, .int l3), (4, .int s.1), (5, .int s.2.1), (6, .int s.2.2)] [] w) (fun r : Int32 × Int32 => G 115 [(3, .int l3), (4, .int r.1), (5, .int r.2)] [] w) ?_
    rintro ⟨l4, l5, l6⟩ z hk hz
    have hk : f_X7_knows_b66 w l1 l2 l3 l4 l5 l6 = some z := hk
    unfold f_X7_knows_b66 at hk
    show G 66 [(0, .ref 0), (1, .int l1), (2, .int l2), (3, .int l3), (4, .int l4), (5, .int l5), (6, .int l6)] [] w
    refine k_iload (pc := 66) h 6 dX7_knows_66 rfl ?_
    refine k_aload_n (pc := 68) h 0 dX7_knows_68 rfl ?_
    refine k_getr (pc := 69) h fl_X7_10 ly_0 rfl dX7_knows_69 ?_
    obtain ⟨p15, hc14, hk⟩ := bd_some hk
    refine k_callV1 (pc := 72) h (c_X6_allSets st_1 hc14) cw_X7_192 ly_1 rfl ⟨⟨by decide, by decide⟩, Nat.zero_le _, Nat.zero_le _⟩ rfl (Nat.le_of_ble_eq_true rfl) dX7_knows_72 ?_
    refine k_icmp_ge (tgt := 115) (pc := 75) h dX7_knows_75 rfl hk (fun hc hk => ?_) (fun hc hk => ?_)
    · refine k_sub h [3, 4, 5] (lv' := [(3, .int l3), (4, .int l4), (5, .int l5)]) rfl ?_
      have hk := Option.some.inj hk
      subst hk
      exact hz
    · refine k_aload_n (pc := 78) h 0 dX7_knows_78 rfl ?_
      refine k_getr (pc := 79) h fl_X7_10 ly_0 rfl dX7_knows_79 ?_
      refine k_iload (pc := 82) h 6 dX7_knows_82 rfl ?_
      refine k_iload_n (pc := 84) h 1 dX7_knows_84 rfl ?_
      refine k_aload_n (pc := 85) h 0 dX7_knows_85 rfl ?_
      refine k_getr (pc := 86) h fl_X7_10 ly_0 rfl dX7_knows_86 ?_
      obtain ⟨p17, hc16, hk⟩ := bd_some hk
      refine k_callV1 (pc := 89) h (c_X6_allCases st_1 hc16) cw_X7_189 ly_1 rfl ⟨⟨by decide, by decide⟩, Nat.zero_le _, Nat.zero_le _⟩ rfl (Nat.le_of_ble_eq_true rfl) dX7_knows_89 ?_
      obtain ⟨p19, hc18, hk⟩ := bd_some hk
      refine k_callV1 (pc := 92) h (c_X6_behind st_1 hc18) cw_X7_195 ly_1 rfl ⟨⟨by decide, by decide⟩, Nat.zero_le _, Nat.zero_le _⟩ rfl (Nat.le_of_ble_eq_true rfl) dX7_knows_92 ?_
      refine k_iload_n (pc := 95) h 2 dX7_knows_95 rfl ?_
      refine k_icmp_ne (tgt := 109) (pc := 96) h dX7_knows_96 rfl hk (fun hc hk => ?_) (fun hc hk => ?_)
      · exact EJ109 _ _ _ _ _ _ _ _ hk hz
      · refine k_iinc (pc := 99) h 4 [1, 2, 3, 4, 0, 5, 6] (v := (l4 + (1 : Int32))) (lv' := [(0, .ref 0), (1, .int l1), (2, .int l2), (3, .int l3), (4, .int (l4 + (1 : Int32))), (5, .int l5), (6, .int l6)]) dX7_knows_99 rfl rfl (by decide) rfl ?_
        refine k_iload (pc := 102) h 5 dX7_knows_102 rfl ?_
        refine k_iload (pc := 104) h 6 dX7_knows_104 rfl ?_
        refine k_iand (pc := 106) h dX7_knows_106 ?_
        refine k_nmi (pc := 107) h hk (fun v20 hk => ?_)
        refine k_istore (pc := 107) h [1, 2, 3, 4, 5, 0, 6] (lv' := [(0, .ref 0), (1, .int l1), (2, .int l2), (3, .int l3), (4, .int (l4 + (1 : Int32))), (5, .int v20), (6, .int l6)]) dX7_knows_107 (by decide) rfl ?_
        exact EJ109 _ _ _ _ _ _ _ _ hk hz
  refine k_aload_n (pc := 0) h 0 dX7_knows_0 rfl ?_
  refine k_iload_n (pc := 1) h 1 dX7_knows_1 rfl ?_
  obtain ⟨p2, hc1, hk⟩ := bd_some hk
  refine k_callV1 (pc := 2) h (c_X7_isCase hc1) cw_X7_91 ly_0 rfl ⟨⟨by decide, by decide⟩, Nat.zero_le _, Nat.zero_le _⟩ rfl (Nat.le_of_ble_eq_true rfl) dX7_knows_2 ?_
  refine k_if_eq (tgt := 40) (pc := 5) h dX7_knows_5 rfl hk (fun hc hk => ?_) (fun hc hk => ?_)
  · refine k_sub h [0] (lv' := [(0, .ref 0)]) rfl ?_
    exact EJ40 _ hk
  · refine k_iload_n (pc := 8) h 2 dX7_knows_8 rfl ?_
    refine k_iconst (pc := 9) h (x := (0 : Int32)) dX7_knows_9 (by decide) ?_
    refine k_aload_n (pc := 10) h 0 dX7_knows_10 rfl ?_
    refine k_getr (pc := 11) h fl_X7_10 ly_0 rfl dX7_knows_11 ?_
    obtain ⟨p6, hc5, hk⟩ := bd_some hk
    refine k_callV1 (pc := 14) h (c_X6_allCases st_1 hc5) cw_X7_189 ly_1 rfl ⟨⟨by decide, by decide⟩, Nat.zero_le _, Nat.zero_le _⟩ rfl (Nat.le_of_ble_eq_true rfl) dX7_knows_14 ?_
    obtain ⟨p8, hc7, hk⟩ := bd_some hk
    refine k_callS1 (pc := 17) h (c_X7_within hc7) cw_X7_75 ⟨⟨by decide, by decide⟩, Nat.zero_le _, Nat.zero_le _⟩ rfl (Nat.le_of_ble_eq_true rfl) dX7_knows_17 ?_
    refine k_if_eq (tgt := 40) (pc := 20) h dX7_knows_20 rfl hk (fun hc hk => ?_) (fun hc hk => ?_)
    · refine k_sub h [0] (lv' := [(0, .ref 0)]) rfl ?_
      exact EJ40 _ hk
    · refine k_iload_n (pc := 23) h 3 dX7_knows_23 rfl ?_
      refine k_iconst (pc := 24) h (x := (0 : Int32)) dX7_knows_24 (by decide) ?_
      refine k_iconst (pc := 25) h (x := (1 : Int32)) dX7_knows_25 (by decide) ?_
      obtain ⟨p10, hc9, hk⟩ := bd_some hk
      refine k_callS1 (pc := 26) h (c_X7_within hc9) cw_X7_75 ⟨⟨by decide, by decide⟩, Nat.zero_le _, Nat.zero_le _⟩ rfl (Nat.le_of_ble_eq_true rfl) dX7_knows_26 ?_
      refine k_if_eq (tgt := 40) (pc := 29) h dX7_knows_29 rfl hk (fun hc hk => ?_) (fun hc hk => ?_)
      · refine k_sub h [0] (lv' := [(0, .ref 0)]) rfl ?_
        exact EJ40 _ hk
      · refine k_iload_n (pc := 32) h 2 dX7_knows_32 rfl ?_
        refine k_iload_n (pc := 33) h 1 dX7_knows_33 rfl ?_
        refine k_ishr (pc := 34) h dX7_knows_34 ?_
        refine k_iconst (pc := 35) h (x := (1 : Int32)) dX7_knows_35 (by decide) ?_
        refine k_iand (pc := 36) h dX7_knows_36 ?_
        refine k_if_ne (tgt := 49) (pc := 37) h dX7_knows_37 rfl hk (fun hc hk => ?_) (fun hc hk => ?_)
        · refine k_iconst (pc := 49) h (x := (0 : Int32)) dX7_knows_49 (by decide) ?_
          refine k_istore (pc := 50) h [1, 2, 3, 4, 0] (lv' := [(0, .ref 0), (1, .int l1), (2, .int l2), (3, .int l3), (4, .int (0 : Int32))]) dX7_knows_50 (by decide) rfl ?_
          refine k_aload_n (pc := 52) h 0 dX7_knows_52 rfl ?_
          refine k_getr (pc := 53) h fl_X7_10 ly_0 rfl dX7_knows_53 ?_
          obtain ⟨p12, hc11, hk⟩ := bd_some hk
          refine k_callV1 (pc := 56) h (c_X6_allSets st_1 hc11) cw_X7_192 ly_1 rfl ⟨⟨by decide, by decide⟩, Nat.zero_le _, Nat.zero_le _⟩ rfl (Nat.le_of_ble_eq_true rfl) dX7_knows_56 ?_
          refine k_iconst (pc := 59) h (x := (1 : Int32)) dX7_knows_59 (by decide) ?_
          refine k_isub (pc := 60) h dX7_knows_60 ?_
          refine k_nmi (pc := 61) h hk (fun v13 hk => ?_)
          refine k_istore (pc := 61) h [1, 2, 3, 4, 5, 0] (lv' := [(0, .ref 0), (1, .int l1), (2, .int l2), (3, .int l3), (4, .int (0 : Int32)), (5, .int v13)]) dX7_knows_61 (by decide) rfl ?_
          refine k_iconst (pc := 63) h (x := (0 : Int32)) dX7_knows_63 (by decide) ?_
          refine k_istore (pc := 64) h [1, 2, 3, 4, 5, 6, 0] (lv' := [(0, .ref 0), (1, .int l1), (2, .int l2), (3, .int l3), (4, .int (0 : Int32)), (5, .int v13), (6, .int (0 : Int32))]) dX7_knows_64 (by decide) rfl ?_
          obtain ⟨r21, hl22, hk⟩ := bd_some hk
          refine LB66 _ _ _ _ _ _ _ hl22 ?_
          show G 115 [(3, .int l3), (4, .int r21.1), (5, .int r21.2)] [] w
          refine k_iload_n (pc := 115) h 0 dX7_knows_115 rfl ?_
          refine k_if_ne (tgt := 122) (pc := 116) h dX7_knows_116 rfl hk (fun hc hk => ?_) (fun hc hk => ?_)
          · refine k_iload (pc := 122) h 1 dX7_knows_122 rfl ?_
            refine k_if_ne (tgt := 131) (pc := 124) h dX7_knows_124 rfl hk (fun hc hk => ?_) (fun hc hk => ?_)
            · refine k_iload (pc := 131) h 2 dX7_knows_131 rfl ?_
              have hk := Option.some.inj hk
              subst hk
              exact k_iret (pc := 133) h dX7_knows_133 ⟨rfl, rfl, rfl, rfl, rfl, ⟨.int, rfl, rfl⟩⟩
            · refine k_iconst (pc := 127) h (x := (-1 : Int32)) dX7_knows_127 (by decide) ?_
              refine k_goto (tgt := 133) (pc := 128) h dX7_knows_128 rfl ?_
              have hk := Option.some.inj hk
              subst hk
              exact k_iret (pc := 133) h dX7_knows_133 ⟨rfl, rfl, rfl, rfl, rfl, ⟨.int, rfl, rfl⟩⟩
          · refine k_iload (pc := 119) h 1 dX7_knows_119 rfl ?_
            have hk := Option.some.inj hk
            subst hk
            exact k_iret (pc := 121) h dX7_knows_121 ⟨rfl, rfl, rfl, rfl, rfl, ⟨.int, rfl, rfl⟩⟩
        · refine k_sub h [0] (lv' := [(0, .ref 0)]) rfl ?_
          exact EJ40 _ hk
def f_X7_of_j17 (w : WW) : Option (Int32 × WW) := (f_X7_refuse w (-2 : Int32) (-2 : Int32)).bind (fun p4 => some (p4.1, p4.2))
def f_X7_of (w : WW) (l1 : Int32) (l2 : Int32) : Option (Int32 × WW) := (f_X7_isQuestion w l1).bind (fun p2 => if p2 = 0 then f_X7_of_j17 w else (f_X7_within w l2 (0 : Int32) (2 : Int32)).bind (fun p6 => if p6 = 0 then f_X7_of_j17 w else if l2 = (0 : Int32) then gd (inb l1 7) (some ((w.1 3 (l1).toNatClampNeg), w)) else if l2 = (1 : Int32) then gd (inb l1 7) (some ((w.1 4 (l1).toNatClampNeg), w)) else gd (inb l1 7) (some ((w.1 5 (l1).toNatClampNeg), w))))
set_option maxRecDepth 20000 in
set_option maxHeartbeats 4000000 in
theorem c_X7_of {w : WW} {l1 : Int32} {l2 : Int32} {z : Int32 × WW} (hk : f_X7_of w l1 l2 = some z) : Cn 2 yX7_of cX7_of 3 (some .int) LAY [.ref 0, .int l1, .int l2] w (some (.int z.1)) z.2 := by
  refine Cn.of (by decide +kernel) (Nat.le_of_ble_eq_true rfl) (fun G h => ?_)
  have h : Rules cX7_of RX7 "of" 3 (rmd 2 0 0) none _ _ LAY 0 0 G := h
  show G 0 [(0, .ref 0), (1, .int l1), (2, .int l2)] [] w
  unfold f_X7_of at hk
  have EJ17 : ∀ (w : WW), f_X7_of_j17 w = some z → G 17 [(0, .ref 0)] [] w := by
    intro w hk
    unfold f_X7_of_j17 at hk
    refine k_aload_n (pc := 17) h 0 dX7_of_17 rfl ?_
    refine k_bipush (pc := 18) h (x := (-2 : Int32)) dX7_of_18 (by decide) ?_
    refine k_bipush (pc := 20) h (x := (-2 : Int32)) dX7_of_20 (by decide) ?_
    obtain ⟨p4, hc3, hk⟩ := bd_some hk
    refine k_callV1 (pc := 22) h (c_X7_refuse hc3) cw_X7_79 ly_0 rfl ⟨⟨by decide, by decide⟩, Nat.zero_le _, Nat.zero_le _⟩ rfl (Nat.le_of_ble_eq_true rfl) dX7_of_22 ?_
    have hk := Option.some.inj hk
    subst hk
    exact k_iret (pc := 25) h dX7_of_25 ⟨rfl, rfl, rfl, rfl, rfl, ⟨.int, rfl, rfl⟩⟩
  refine k_aload_n (pc := 0) h 0 dX7_of_0 rfl ?_
  refine k_iload_n (pc := 1) h 1 dX7_of_1 rfl ?_
  obtain ⟨p2, hc1, hk⟩ := bd_some hk
  refine k_callV1 (pc := 2) h (c_X7_isQuestion hc1) cw_X7_102 ly_0 rfl ⟨⟨by decide, by decide⟩, Nat.zero_le _, Nat.zero_le _⟩ rfl (Nat.le_of_ble_eq_true rfl) dX7_of_2 ?_
  refine k_if_eq (tgt := 17) (pc := 5) h dX7_of_5 rfl hk (fun hc hk => ?_) (fun hc hk => ?_)
  · refine k_sub h [0] (lv' := [(0, .ref 0)]) rfl ?_
    exact EJ17 _ hk
  · refine k_iload_n (pc := 8) h 2 dX7_of_8 rfl ?_
    refine k_iconst (pc := 9) h (x := (0 : Int32)) dX7_of_9 (by decide) ?_
    refine k_iconst (pc := 10) h (x := (2 : Int32)) dX7_of_10 (by decide) ?_
    obtain ⟨p6, hc5, hk⟩ := bd_some hk
    refine k_callS1 (pc := 11) h (c_X7_within hc5) cw_X7_75 ⟨⟨by decide, by decide⟩, Nat.zero_le _, Nat.zero_le _⟩ rfl (Nat.le_of_ble_eq_true rfl) dX7_of_11 ?_
    refine k_if_ne (tgt := 26) (pc := 14) h dX7_of_14 rfl hk (fun hc hk => ?_) (fun hc hk => ?_)
    · refine k_iload_n (pc := 26) h 2 dX7_of_26 rfl ?_
      refine k_look (a := (0 : Int32)) (tgt := 52) (pc := 27) h dX7_of_27 rfl rfl rfl hk (fun hk => ?_) (fun q0 hk => ?_)
      · refine k_aload_n (pc := 52) h 0 dX7_of_52 rfl ?_
        refine k_getr (pc := 53) h fl_X7_10 ly_0 rfl dX7_of_53 ?_
        refine k_getr (pc := 56) h fl_X7_148 ly_1 rfl dX7_of_56 ?_
        refine k_iload_n (pc := 59) h 1 dX7_of_59 rfl ?_
        refine k_iald (pc := 60) h ly_3 dX7_of_60 hk (fun hk => ?_)
        have hk := Option.some.inj hk
        subst hk
        exact k_iret (pc := 61) h dX7_of_61 ⟨rfl, rfl, rfl, rfl, rfl, ⟨.int, rfl, rfl⟩⟩
      · refine k_look (a := (1 : Int32)) (tgt := 62) (pc := 27) h dX7_of_27 rfl rfl rfl hk (fun hk => ?_) (fun q1 hk => ?_)
        · refine k_aload_n (pc := 62) h 0 dX7_of_62 rfl ?_
          refine k_getr (pc := 63) h fl_X7_10 ly_0 rfl dX7_of_63 ?_
          refine k_getr (pc := 66) h fl_X7_151 ly_1 rfl dX7_of_66 ?_
          refine k_iload_n (pc := 69) h 1 dX7_of_69 rfl ?_
          refine k_iald (pc := 70) h ly_4 dX7_of_70 hk (fun hk => ?_)
          have hk := Option.some.inj hk
          subst hk
          exact k_iret (pc := 71) h dX7_of_71 ⟨rfl, rfl, rfl, rfl, rfl, ⟨.int, rfl, rfl⟩⟩
        · refine k_lookD (tgt := 72) (pc := 27) h dX7_of_27 rfl (by show Op.lookupswitch.offset [(0, 25), (1, 35)] 45 _ = _; rw [lv_osw q0 (by decide), lv_osw q1 (by decide)]; rfl) rfl ?_
          refine k_aload_n (pc := 72) h 0 dX7_of_72 rfl ?_
          refine k_getr (pc := 73) h fl_X7_10 ly_0 rfl dX7_of_73 ?_
          refine k_getr (pc := 76) h fl_X7_105 ly_1 rfl dX7_of_76 ?_
          refine k_iload_n (pc := 79) h 1 dX7_of_79 rfl ?_
          refine k_iald (pc := 80) h ly_5 dX7_of_80 hk (fun hk => ?_)
          have hk := Option.some.inj hk
          subst hk
          exact k_iret (pc := 81) h dX7_of_81 ⟨rfl, rfl, rfl, rfl, rfl, ⟨.int, rfl, rfl⟩⟩
    · refine k_sub h [0] (lv' := [(0, .ref 0)]) rfl ?_
      exact EJ17 _ hk
def f_X7_part (w : WW) (l1 : Int32) : Option (Int64 × WW) := (f_X7_within w l1 (0 : Int32) (1 : Int32)).bind (fun p2 => if p2 = 0 then (f_X7_refuse w (-2 : Int32) (-2 : Int32)).bind (fun p4 => some (((p4.1).toInt64), p4.2)) else if l1 = 0 then some ((w.2 36 0), w) else some ((w.2 36 1), w))
set_option maxRecDepth 20000 in
set_option maxHeartbeats 4000000 in
theorem c_X7_part {w : WW} {l1 : Int32} {z : Int64 × WW} (hk : f_X7_part w l1 = some z) : Cn 2 yX7_part cX7_part 2 (some .long) LAY [.ref 0, .int l1] w (some (.long z.1)) z.2 := by
  refine Cn.of (by decide +kernel) (Nat.le_of_ble_eq_true rfl) (fun G h => ?_)
  have h : Rules cX7_part RX7 "part" 2 (rmd 2 0 0) none _ _ LAY 0 0 G := h
  show G 0 [(0, .ref 0), (1, .int l1)] [] w
  unfold f_X7_part at hk
  refine k_iload_n (pc := 0) h 1 dX7_part_0 rfl ?_
  refine k_iconst (pc := 1) h (x := (0 : Int32)) dX7_part_1 (by decide) ?_
  refine k_iconst (pc := 2) h (x := (1 : Int32)) dX7_part_2 (by decide) ?_
  obtain ⟨p2, hc1, hk⟩ := bd_some hk
  refine k_callS1 (pc := 3) h (c_X7_within hc1) cw_X7_75 ⟨⟨by decide, by decide⟩, Nat.zero_le _, Nat.zero_le _⟩ rfl (Nat.le_of_ble_eq_true rfl) dX7_part_3 ?_
  refine k_if_ne (tgt := 19) (pc := 6) h dX7_part_6 rfl hk (fun hc hk => ?_) (fun hc hk => ?_)
  · refine k_iload_n (pc := 19) h 1 dX7_part_19 rfl ?_
    refine k_if_ne (tgt := 33) (pc := 20) h dX7_part_20 rfl hk (fun hc hk => ?_) (fun hc hk => ?_)
    · refine k_aload_n (pc := 33) h 0 dX7_part_33 rfl ?_
      refine k_getr (pc := 34) h fl_X7_36 ly_0 rfl dX7_part_34 ?_
      refine k_getl (pc := 37) h fl_X7_243 ly_36 rfl dX7_part_37 ?_
      have hk := Option.some.inj hk
      subst hk
      exact k_lret (pc := 40) h dX7_part_40 ⟨rfl, rfl, rfl, rfl, rfl, rfl⟩
    · refine k_aload_n (pc := 23) h 0 dX7_part_23 rfl ?_
      refine k_getr (pc := 24) h fl_X7_36 ly_0 rfl dX7_part_24 ?_
      refine k_getl (pc := 27) h fl_X7_240 ly_36 rfl dX7_part_27 ?_
      refine k_goto (tgt := 40) (pc := 30) h dX7_part_30 rfl ?_
      have hk := Option.some.inj hk
      subst hk
      exact k_lret (pc := 40) h dX7_part_40 ⟨rfl, rfl, rfl, rfl, rfl, rfl⟩
  · refine k_aload_n (pc := 9) h 0 dX7_part_9 rfl ?_
    refine k_bipush (pc := 10) h (x := (-2 : Int32)) dX7_part_10 (by decide) ?_
    refine k_bipush (pc := 12) h (x := (-2 : Int32)) dX7_part_12 (by decide) ?_
    obtain ⟨p4, hc3, hk⟩ := bd_some hk
    refine k_callV1 (pc := 14) h (c_X7_refuse hc3) cw_X7_79 ly_0 rfl ⟨⟨by decide, by decide⟩, Nat.zero_le _, Nat.zero_le _⟩ rfl (Nat.le_of_ble_eq_true rfl) dX7_part_14 ?_
    refine k_i2l (pc := 17) h dX7_part_17 ?_
    have hk := Option.some.inj hk
    subst hk
    exact k_lret (pc := 18) h dX7_part_18 ⟨rfl, rfl, rfl, rfl, rfl, rfl⟩
def f_X7_price_j18 (w : WW) : Option (Int32 × WW) := (f_X7_refuse w (-2 : Int32) (-2 : Int32)).bind (fun p4 => some (p4.1, p4.2))
def f_X7_price (w : WW) (l1 : Int32) (l2 : Int32) : Option (Int32 × WW) := (f_X7_isQuestion w l1).bind (fun p2 => if p2 = 0 then f_X7_price_j18 w else (f_X7_within w l2 (0 : Int32) (99 : Int32)).bind (fun p6 => if p6 = 0 then f_X7_price_j18 w else gd (inb l1 7) (nmv (w.1 5 (l1).toNatClampNeg) (fun v7 => gd (inb l1 7) (stI w 5 (l1).toNatClampNeg l2 (fun u8 => some (v7, u8)))))))
set_option maxRecDepth 20000 in
set_option maxHeartbeats 4000000 in
theorem c_X7_price {w : WW} {l1 : Int32} {l2 : Int32} {z : Int32 × WW} (hk : f_X7_price w l1 l2 = some z) : Cn 2 yX7_price cX7_price 4 (some .int) LAY [.ref 0, .int l1, .int l2] w (some (.int z.1)) z.2 := by
  refine Cn.of (by decide +kernel) (Nat.le_of_ble_eq_true rfl) (fun G h => ?_)
  have h : Rules cX7_price RX7 "price" 4 (rmd 2 0 0) none _ _ LAY 0 0 G := h
  show G 0 [(0, .ref 0), (1, .int l1), (2, .int l2)] [] w
  unfold f_X7_price at hk
  have EJ18 : ∀ (w : WW), f_X7_price_j18 w = some z → G 18 [(0, .ref 0)] [] w := by
    intro w hk
    unfold f_X7_price_j18 at hk
    refine k_aload_n (pc := 18) h 0 dX7_price_18 rfl ?_
    refine k_bipush (pc := 19) h (x := (-2 : Int32)) dX7_price_19 (by decide) ?_
    refine k_bipush (pc := 21) h (x := (-2 : Int32)) dX7_price_21 (by decide) ?_
    obtain ⟨p4, hc3, hk⟩ := bd_some hk
    refine k_callV1 (pc := 23) h (c_X7_refuse hc3) cw_X7_79 ly_0 rfl ⟨⟨by decide, by decide⟩, Nat.zero_le _, Nat.zero_le _⟩ rfl (Nat.le_of_ble_eq_true rfl) dX7_price_23 ?_
    have hk := Option.some.inj hk
    subst hk
    exact k_iret (pc := 26) h dX7_price_26 ⟨rfl, rfl, rfl, rfl, rfl, ⟨.int, rfl, rfl⟩⟩
  refine k_aload_n (pc := 0) h 0 dX7_price_0 rfl ?_
  refine k_iload_n (pc := 1) h 1 dX7_price_1 rfl ?_
  obtain ⟨p2, hc1, hk⟩ := bd_some hk
  refine k_callV1 (pc := 2) h (c_X7_isQuestion hc1) cw_X7_102 ly_0 rfl ⟨⟨by decide, by decide⟩, Nat.zero_le _, Nat.zero_le _⟩ rfl (Nat.le_of_ble_eq_true rfl) dX7_price_2 ?_
  refine k_if_eq (tgt := 18) (pc := 5) h dX7_price_5 rfl hk (fun hc hk => ?_) (fun hc hk => ?_)
  · refine k_sub h [0] (lv' := [(0, .ref 0)]) rfl ?_
    exact EJ18 _ hk
  · refine k_iload_n (pc := 8) h 2 dX7_price_8 rfl ?_
    refine k_iconst (pc := 9) h (x := (0 : Int32)) dX7_price_9 (by decide) ?_
    refine k_bipush (pc := 10) h (x := (99 : Int32)) dX7_price_10 (by decide) ?_
    obtain ⟨p6, hc5, hk⟩ := bd_some hk
    refine k_callS1 (pc := 12) h (c_X7_within hc5) cw_X7_75 ⟨⟨by decide, by decide⟩, Nat.zero_le _, Nat.zero_le _⟩ rfl (Nat.le_of_ble_eq_true rfl) dX7_price_12 ?_
    refine k_if_ne (tgt := 27) (pc := 15) h dX7_price_15 rfl hk (fun hc hk => ?_) (fun hc hk => ?_)
    · refine k_aload_n (pc := 27) h 0 dX7_price_27 rfl ?_
      refine k_getr (pc := 28) h fl_X7_10 ly_0 rfl dX7_price_28 ?_
      refine k_getr (pc := 31) h fl_X7_105 ly_1 rfl dX7_price_31 ?_
      refine k_iload_n (pc := 34) h 1 dX7_price_34 rfl ?_
      refine k_iald (pc := 35) h ly_5 dX7_price_35 hk (fun hk => ?_)
      refine k_nmi (pc := 36) h hk (fun v7 hk => ?_)
      refine k_istore_n (pc := 36) h [1, 2, 3, 0] (lv' := [(0, .ref 0), (1, .int l1), (2, .int l2), (3, .int v7)]) dX7_price_36 rfl (by decide) rfl ?_
      refine k_aload_n (pc := 37) h 0 dX7_price_37 rfl ?_
      refine k_getr (pc := 38) h fl_X7_10 ly_0 rfl dX7_price_38 ?_
      refine k_getr (pc := 41) h fl_X7_105 ly_1 rfl dX7_price_41 ?_
      refine k_iload_n (pc := 44) h 1 dX7_price_44 rfl ?_
      refine k_iload_n (pc := 45) h 2 dX7_price_45 rfl ?_
      refine k_iast (pc := 46) h ly_5 dX7_price_46 hk (fun u8 hk => ?_)
      refine k_iload_n (pc := 47) h 3 dX7_price_47 rfl ?_
      have hk := Option.some.inj hk
      subst hk
      exact k_iret (pc := 48) h dX7_price_48 ⟨rfl, rfl, rfl, rfl, rfl, ⟨.int, rfl, rfl⟩⟩
    · refine k_sub h [0] (lv' := [(0, .ref 0)]) rfl ?_
      exact EJ18 _ hk
def f_X7_status (w : WW) (l1 : Int32) : Option (Int32 × WW) := (f_X7_within w l1 (0 : Int32) (2 : Int32)).bind (fun p2 => if p2 = 0 then (f_X7_refuse w (-2 : Int32) (-1 : Int32)).bind (fun p4 => some (p4.1, p4.2)) else gd (inb l1 3) (some ((w.1 37 (l1).toNatClampNeg), w)))
set_option maxRecDepth 20000 in
set_option maxHeartbeats 4000000 in
theorem c_X7_status {w : WW} {l1 : Int32} {z : Int32 × WW} (hk : f_X7_status w l1 = some z) : Cn 2 yX7_status cX7_status 2 (some .int) LAY [.ref 0, .int l1] w (some (.int z.1)) z.2 := by
  refine Cn.of (by decide +kernel) (Nat.le_of_ble_eq_true rfl) (fun G h => ?_)
  have h : Rules cX7_status RX7 "status" 2 (rmd 2 0 0) none _ _ LAY 0 0 G := h
  show G 0 [(0, .ref 0), (1, .int l1)] [] w
  unfold f_X7_status at hk
  refine k_iload_n (pc := 0) h 1 dX7_status_0 rfl ?_
  refine k_iconst (pc := 1) h (x := (0 : Int32)) dX7_status_1 (by decide) ?_
  refine k_iconst (pc := 2) h (x := (2 : Int32)) dX7_status_2 (by decide) ?_
  obtain ⟨p2, hc1, hk⟩ := bd_some hk
  refine k_callS1 (pc := 3) h (c_X7_within hc1) cw_X7_75 ⟨⟨by decide, by decide⟩, Nat.zero_le _, Nat.zero_le _⟩ rfl (Nat.le_of_ble_eq_true rfl) dX7_status_3 ?_
  refine k_if_ne (tgt := 17) (pc := 6) h dX7_status_6 rfl hk (fun hc hk => ?_) (fun hc hk => ?_)
  · refine k_aload_n (pc := 17) h 0 dX7_status_17 rfl ?_
    refine k_getr (pc := 18) h fl_X7_40 ly_0 rfl dX7_status_18 ?_
    refine k_iload_n (pc := 21) h 1 dX7_status_21 rfl ?_
    refine k_iald (pc := 22) h ly_37 dX7_status_22 hk (fun hk => ?_)
    have hk := Option.some.inj hk
    subst hk
    exact k_iret (pc := 23) h dX7_status_23 ⟨rfl, rfl, rfl, rfl, rfl, ⟨.int, rfl, rfl⟩⟩
  · refine k_aload_n (pc := 9) h 0 dX7_status_9 rfl ?_
    refine k_bipush (pc := 10) h (x := (-2 : Int32)) dX7_status_10 (by decide) ?_
    refine k_iconst (pc := 12) h (x := (-1 : Int32)) dX7_status_12 (by decide) ?_
    obtain ⟨p4, hc3, hk⟩ := bd_some hk
    refine k_callV1 (pc := 13) h (c_X7_refuse hc3) cw_X7_79 ly_0 rfl ⟨⟨by decide, by decide⟩, Nat.zero_le _, Nat.zero_le _⟩ rfl (Nat.le_of_ble_eq_true rfl) dX7_status_13 ?_
    have hk := Option.some.inj hk
    subst hk
    exact k_iret (pc := 16) h dX7_status_16 ⟨rfl, rfl, rfl, rfl, rfl, ⟨.int, rfl, rfl⟩⟩
def f_X7_type (w : WW) (l1 : Int32) : Option (Int32 × WW) := (f_X7_within w l1 (0 : Int32) (127 : Int32)).bind (fun p2 => if p2 = 0 then (f_X7_refuse w (-2 : Int32) (-2 : Int32)).bind (fun p8 => some (p8.1, p8.2)) else if (w.1 26 1) < (150 : Int32) then (f_X4_addByte w l1).bind (fun p4 => some ((p4.1 26 1), p4)) else (f_X7_refuse w (-4 : Int32) (-4 : Int32)).bind (fun p6 => some (p6.1, p6.2)))
set_option maxRecDepth 20000 in
set_option maxHeartbeats 4000000 in
theorem c_X7_type {w : WW} {l1 : Int32} {z : Int32 × WW} (hk : f_X7_type w l1 = some z) : Cn 2 yX7_type cX7_type 2 (some .int) LAY [.ref 0, .int l1] w (some (.int z.1)) z.2 := by
  refine Cn.of (by decide +kernel) (Nat.le_of_ble_eq_true rfl) (fun G h => ?_)
  have h : Rules cX7_type RX7 "type" 2 (rmd 2 0 0) none _ _ LAY 0 0 G := h
  show G 0 [(0, .ref 0), (1, .int l1)] [] w
  unfold f_X7_type at hk
  refine k_iload_n (pc := 0) h 1 dX7_type_0 rfl ?_
  refine k_iconst (pc := 1) h (x := (0 : Int32)) dX7_type_1 (by decide) ?_
  refine k_bipush (pc := 2) h (x := (127 : Int32)) dX7_type_2 (by decide) ?_
  obtain ⟨p2, hc1, hk⟩ := bd_some hk
  refine k_callS1 (pc := 4) h (c_X7_within hc1) cw_X7_75 ⟨⟨by decide, by decide⟩, Nat.zero_le _, Nat.zero_le _⟩ rfl (Nat.le_of_ble_eq_true rfl) dX7_type_4 ?_
  refine k_if_ne (tgt := 19) (pc := 7) h dX7_type_7 rfl hk (fun hc hk => ?_) (fun hc hk => ?_)
  · refine k_aload_n (pc := 19) h 0 dX7_type_19 rfl ?_
    refine k_getr (pc := 20) h fl_X7_29 ly_0 rfl dX7_type_20 ?_
    refine k_geti (pc := 23) h fl_X7_108 ly_26 rfl dX7_type_23 ?_
    refine k_sipush (pc := 26) h (x := (150 : Int32)) dX7_type_26 (by decide) ?_
    refine k_icmp_lt (tgt := 41) (pc := 29) h dX7_type_29 rfl hk (fun hc hk => ?_) (fun hc hk => ?_)
    · refine k_aload_n (pc := 41) h 0 dX7_type_41 rfl ?_
      refine k_getr (pc := 42) h fl_X7_29 ly_0 rfl dX7_type_42 ?_
      refine k_iload_n (pc := 45) h 1 dX7_type_45 rfl ?_
      obtain ⟨p4, hc3, hk⟩ := bd_some hk
      refine k_callV0 (pc := 46) h (c_X4_addByte hc3) cw_X7_111 ly_26 rfl ⟨⟨by decide, by decide⟩, Nat.zero_le _, Nat.zero_le _⟩ rfl (Nat.le_of_ble_eq_true rfl) dX7_type_46 ?_
      refine k_aload_n (pc := 49) h 0 dX7_type_49 rfl ?_
      refine k_getr (pc := 50) h fl_X7_29 ly_0 rfl dX7_type_50 ?_
      refine k_geti (pc := 53) h fl_X7_108 ly_26 rfl dX7_type_53 ?_
      have hk := Option.some.inj hk
      subst hk
      exact k_iret (pc := 56) h dX7_type_56 ⟨rfl, rfl, rfl, rfl, rfl, ⟨.int, rfl, rfl⟩⟩
    · refine k_aload_n (pc := 32) h 0 dX7_type_32 rfl ?_
      refine k_bipush (pc := 33) h (x := (-4 : Int32)) dX7_type_33 (by decide) ?_
      refine k_bipush (pc := 35) h (x := (-4 : Int32)) dX7_type_35 (by decide) ?_
      obtain ⟨p6, hc5, hk⟩ := bd_some hk
      refine k_callV1 (pc := 37) h (c_X7_refuse hc5) cw_X7_79 ly_0 rfl ⟨⟨by decide, by decide⟩, Nat.zero_le _, Nat.zero_le _⟩ rfl (Nat.le_of_ble_eq_true rfl) dX7_type_37 ?_
      have hk := Option.some.inj hk
      subst hk
      exact k_iret (pc := 40) h dX7_type_40 ⟨rfl, rfl, rfl, rfl, rfl, ⟨.int, rfl, rfl⟩⟩
  · refine k_aload_n (pc := 10) h 0 dX7_type_10 rfl ?_
    refine k_bipush (pc := 11) h (x := (-2 : Int32)) dX7_type_11 (by decide) ?_
    refine k_bipush (pc := 13) h (x := (-2 : Int32)) dX7_type_13 (by decide) ?_
    obtain ⟨p8, hc7, hk⟩ := bd_some hk
    refine k_callV1 (pc := 15) h (c_X7_refuse hc7) cw_X7_79 ly_0 rfl ⟨⟨by decide, by decide⟩, Nat.zero_le _, Nat.zero_le _⟩ rfl (Nat.le_of_ble_eq_true rfl) dX7_type_15 ?_
    have hk := Option.some.inj hk
    subst hk
    exact k_iret (pc := 18) h dX7_type_18 ⟨rfl, rfl, rfl, rfl, rfl, ⟨.int, rfl, rfl⟩⟩
def f_X7_undo (w : WW) : Option (Int32 × WW) := if (1 : Int32) ≤ (w.1 1 3) then (f_X6_stepBack 1 w).bind (fun p2 => some ((p2.1 1 2), p2)) else (f_X7_refuse w (-3 : Int32) (-3 : Int32)).bind (fun p4 => some (p4.1, p4.2))
set_option maxRecDepth 20000 in
set_option maxHeartbeats 4000000 in
theorem c_X7_undo {w : WW} {z : Int32 × WW} (hk : f_X7_undo w = some z) : Cn 2 yX7_undo cX7_undo 1 (some .int) LAY [.ref 0] w (some (.int z.1)) z.2 := by
  refine Cn.of (by decide +kernel) (Nat.le_of_ble_eq_true rfl) (fun G h => ?_)
  have h : Rules cX7_undo RX7 "undo" 1 (rmd 2 0 0) none _ _ LAY 0 0 G := h
  show G 0 [(0, .ref 0)] [] w
  unfold f_X7_undo at hk
  refine k_aload_n (pc := 0) h 0 dX7_undo_0 rfl ?_
  refine k_getr (pc := 1) h fl_X7_10 ly_0 rfl dX7_undo_1 ?_
  refine k_geti (pc := 4) h fl_X7_142 ly_1 rfl dX7_undo_4 ?_
  refine k_iconst (pc := 7) h (x := (1 : Int32)) dX7_undo_7 (by decide) ?_
  refine k_icmp_ge (tgt := 20) (pc := 8) h dX7_undo_8 rfl hk (fun hc hk => ?_) (fun hc hk => ?_)
  · refine k_aload_n (pc := 20) h 0 dX7_undo_20 rfl ?_
    refine k_getr (pc := 21) h fl_X7_10 ly_0 rfl dX7_undo_21 ?_
    obtain ⟨p2, hc1, hk⟩ := bd_some hk
    refine k_callV0 (pc := 24) h (c_X6_stepBack st_1 hc1) cw_X7_145 ly_1 rfl ⟨⟨by decide, by decide⟩, Nat.zero_le _, Nat.zero_le _⟩ rfl (Nat.le_of_ble_eq_true rfl) dX7_undo_24 ?_
    refine k_aload_n (pc := 27) h 0 dX7_undo_27 rfl ?_
    refine k_getr (pc := 28) h fl_X7_10 ly_0 rfl dX7_undo_28 ?_
    refine k_geti (pc := 31) h fl_X7_128 ly_1 rfl dX7_undo_31 ?_
    have hk := Option.some.inj hk
    subst hk
    exact k_iret (pc := 34) h dX7_undo_34 ⟨rfl, rfl, rfl, rfl, rfl, ⟨.int, rfl, rfl⟩⟩
  · refine k_aload_n (pc := 11) h 0 dX7_undo_11 rfl ?_
    refine k_bipush (pc := 12) h (x := (-3 : Int32)) dX7_undo_12 (by decide) ?_
    refine k_bipush (pc := 14) h (x := (-3 : Int32)) dX7_undo_14 (by decide) ?_
    obtain ⟨p4, hc3, hk⟩ := bd_some hk
    refine k_callV1 (pc := 16) h (c_X7_refuse hc3) cw_X7_79 ly_0 rfl ⟨⟨by decide, by decide⟩, Nat.zero_le _, Nat.zero_le _⟩ rfl (Nat.le_of_ble_eq_true rfl) dX7_undo_16 ?_
    have hk := Option.some.inj hk
    subst hk
    exact k_iret (pc := 19) h dX7_undo_19 ⟨rfl, rfl, rfl, rfl, rfl, ⟨.int, rfl, rfl⟩⟩
def f_X7_weigh_j18 (w : WW) : Option (Int32 × WW) := (f_X7_refuse w (-2 : Int32) (-2 : Int32)).bind (fun p4 => some (p4.1, p4.2))
def f_X7_weigh (w : WW) (l1 : Int32) (l2 : Int32) : Option (Int32 × WW) := (f_X7_isCase w l1).bind (fun p2 => if p2 = 0 then f_X7_weigh_j18 w else (f_X7_within w l2 (1 : Int32) (9 : Int32)).bind (fun p6 => if p6 = 0 then f_X7_weigh_j18 w else gd (inb l1 16) (nmv (w.1 2 (l1).toNatClampNeg) (fun v7 => gd (inb l1 16) (stI w 2 (l1).toNatClampNeg l2 (fun u8 => some (v7, u8)))))))
set_option maxRecDepth 20000 in
set_option maxHeartbeats 4000000 in
theorem c_X7_weigh {w : WW} {l1 : Int32} {l2 : Int32} {z : Int32 × WW} (hk : f_X7_weigh w l1 l2 = some z) : Cn 2 yX7_weigh cX7_weigh 4 (some .int) LAY [.ref 0, .int l1, .int l2] w (some (.int z.1)) z.2 := by
  refine Cn.of (by decide +kernel) (Nat.le_of_ble_eq_true rfl) (fun G h => ?_)
  have h : Rules cX7_weigh RX7 "weigh" 4 (rmd 2 0 0) none _ _ LAY 0 0 G := h
  show G 0 [(0, .ref 0), (1, .int l1), (2, .int l2)] [] w
  unfold f_X7_weigh at hk
  have EJ18 : ∀ (w : WW), f_X7_weigh_j18 w = some z → G 18 [(0, .ref 0)] [] w := by
    intro w hk
    unfold f_X7_weigh_j18 at hk
    refine k_aload_n (pc := 18) h 0 dX7_weigh_18 rfl ?_
    refine k_bipush (pc := 19) h (x := (-2 : Int32)) dX7_weigh_19 (by decide) ?_
    refine k_bipush (pc := 21) h (x := (-2 : Int32)) dX7_weigh_21 (by decide) ?_
    obtain ⟨p4, hc3, hk⟩ := bd_some hk
    refine k_callV1 (pc := 23) h (c_X7_refuse hc3) cw_X7_79 ly_0 rfl ⟨⟨by decide, by decide⟩, Nat.zero_le _, Nat.zero_le _⟩ rfl (Nat.le_of_ble_eq_true rfl) dX7_weigh_23 ?_
    have hk := Option.some.inj hk
    subst hk
    exact k_iret (pc := 26) h dX7_weigh_26 ⟨rfl, rfl, rfl, rfl, rfl, ⟨.int, rfl, rfl⟩⟩
  refine k_aload_n (pc := 0) h 0 dX7_weigh_0 rfl ?_
  refine k_iload_n (pc := 1) h 1 dX7_weigh_1 rfl ?_
  obtain ⟨p2, hc1, hk⟩ := bd_some hk
  refine k_callV1 (pc := 2) h (c_X7_isCase hc1) cw_X7_91 ly_0 rfl ⟨⟨by decide, by decide⟩, Nat.zero_le _, Nat.zero_le _⟩ rfl (Nat.le_of_ble_eq_true rfl) dX7_weigh_2 ?_
  refine k_if_eq (tgt := 18) (pc := 5) h dX7_weigh_5 rfl hk (fun hc hk => ?_) (fun hc hk => ?_)
  · refine k_sub h [0] (lv' := [(0, .ref 0)]) rfl ?_
    exact EJ18 _ hk
  · refine k_iload_n (pc := 8) h 2 dX7_weigh_8 rfl ?_
    refine k_iconst (pc := 9) h (x := (1 : Int32)) dX7_weigh_9 (by decide) ?_
    refine k_bipush (pc := 10) h (x := (9 : Int32)) dX7_weigh_10 (by decide) ?_
    obtain ⟨p6, hc5, hk⟩ := bd_some hk
    refine k_callS1 (pc := 12) h (c_X7_within hc5) cw_X7_75 ⟨⟨by decide, by decide⟩, Nat.zero_le _, Nat.zero_le _⟩ rfl (Nat.le_of_ble_eq_true rfl) dX7_weigh_12 ?_
    refine k_if_ne (tgt := 27) (pc := 15) h dX7_weigh_15 rfl hk (fun hc hk => ?_) (fun hc hk => ?_)
    · refine k_aload_n (pc := 27) h 0 dX7_weigh_27 rfl ?_
      refine k_getr (pc := 28) h fl_X7_10 ly_0 rfl dX7_weigh_28 ?_
      refine k_getr (pc := 31) h fl_X7_95 ly_1 rfl dX7_weigh_31 ?_
      refine k_iload_n (pc := 34) h 1 dX7_weigh_34 rfl ?_
      refine k_iald (pc := 35) h ly_2 dX7_weigh_35 hk (fun hk => ?_)
      refine k_nmi (pc := 36) h hk (fun v7 hk => ?_)
      refine k_istore_n (pc := 36) h [1, 2, 3, 0] (lv' := [(0, .ref 0), (1, .int l1), (2, .int l2), (3, .int v7)]) dX7_weigh_36 rfl (by decide) rfl ?_
      refine k_aload_n (pc := 37) h 0 dX7_weigh_37 rfl ?_
      refine k_getr (pc := 38) h fl_X7_10 ly_0 rfl dX7_weigh_38 ?_
      refine k_getr (pc := 41) h fl_X7_95 ly_1 rfl dX7_weigh_41 ?_
      refine k_iload_n (pc := 44) h 1 dX7_weigh_44 rfl ?_
      refine k_iload_n (pc := 45) h 2 dX7_weigh_45 rfl ?_
      refine k_iast (pc := 46) h ly_2 dX7_weigh_46 hk (fun u8 hk => ?_)
      refine k_iload_n (pc := 47) h 3 dX7_weigh_47 rfl ?_
      have hk := Option.some.inj hk
      subst hk
      exact k_iret (pc := 48) h dX7_weigh_48 ⟨rfl, rfl, rfl, rfl, rfl, ⟨.int, rfl, rfl⟩⟩
    · refine k_sub h [0] (lv' := [(0, .ref 0)]) rfl ?_
      exact EJ18 _ hk
def f_X8_answer_j25 (w : WW) : Option (Int32 × WW) := (f_X8_bad w).bind (fun p4 => some (p4.1, p4.2))
def f_X8_answer (w : WW) (l1 : Int32) (l2 : Int32) : Option (Int32 × WW) := (f_X8_isQuestion w l1).bind (fun p2 => if p2 = 0 then f_X8_answer_j25 w else (f_X8_isCase w l2).bind (fun p6 => if p6 = 0 then f_X8_answer_j25 w else (f_X8_answerOf w l1 l2).bind (fun p8 => some (p8, w))))
set_option maxRecDepth 20000 in
set_option maxHeartbeats 4000000 in
theorem c_X8_answer {w : WW} {l1 : Int32} {l2 : Int32} {z : Int32 × WW} (hk : f_X8_answer w l1 l2 = some z) : Cn 2 yX8_answer cX8_answer 3 (some .int) LAY [.ref 46, .int l1, .int l2] w (some (.int z.1)) z.2 := by
  refine Cn.of (by decide +kernel) (Nat.le_of_ble_eq_true rfl) (fun G h => ?_)
  have h : Rules cX8_answer RX8 "answer" 3 (rmd 2 0 0) none _ _ LAY 0 0 G := h
  show G 0 [(0, .ref 46), (1, .int l1), (2, .int l2)] [] w
  unfold f_X8_answer at hk
  have EJ25 : ∀ (w : WW), f_X8_answer_j25 w = some z → G 25 [(0, .ref 46)] [] w := by
    intro w hk
    unfold f_X8_answer_j25 at hk
    refine k_aload_n (pc := 25) h 0 dX8_answer_25 rfl ?_
    obtain ⟨p4, hc3, hk⟩ := bd_some hk
    refine k_callV1 (pc := 26) h (c_X8_bad hc3) cw_X8_88 ly_46 rfl ⟨⟨by decide, by decide⟩, Nat.zero_le _, Nat.zero_le _⟩ rfl (Nat.le_of_ble_eq_true rfl) dX8_answer_26 ?_
    have hk := Option.some.inj hk
    subst hk
    exact k_iret (pc := 29) h dX8_answer_29 ⟨rfl, rfl, rfl, rfl, rfl, ⟨.int, rfl, rfl⟩⟩
  refine k_aload_n (pc := 0) h 0 dX8_answer_0 rfl ?_
  refine k_iload_n (pc := 1) h 1 dX8_answer_1 rfl ?_
  obtain ⟨p2, hc1, hk⟩ := bd_some hk
  refine k_callV1 (pc := 2) h (c_X8_isQuestion hc1) cw_X8_103 ly_46 rfl ⟨⟨by decide, by decide⟩, Nat.zero_le _, Nat.zero_le _⟩ rfl (Nat.le_of_ble_eq_true rfl) dX8_answer_2 ?_
  refine k_if_eq (tgt := 25) (pc := 5) h dX8_answer_5 rfl hk (fun hc hk => ?_) (fun hc hk => ?_)
  · refine k_sub h [0] (lv' := [(0, .ref 46)]) rfl ?_
    exact EJ25 _ hk
  · refine k_aload_n (pc := 8) h 0 dX8_answer_8 rfl ?_
    refine k_iload_n (pc := 9) h 2 dX8_answer_9 rfl ?_
    obtain ⟨p6, hc5, hk⟩ := bd_some hk
    refine k_callV1 (pc := 10) h (c_X8_isCase hc5) cw_X8_92 ly_46 rfl ⟨⟨by decide, by decide⟩, Nat.zero_le _, Nat.zero_le _⟩ rfl (Nat.le_of_ble_eq_true rfl) dX8_answer_10 ?_
    refine k_if_eq (tgt := 25) (pc := 13) h dX8_answer_13 rfl hk (fun hc hk => ?_) (fun hc hk => ?_)
    · refine k_sub h [0] (lv' := [(0, .ref 46)]) rfl ?_
      exact EJ25 _ hk
    · refine k_aload_n (pc := 16) h 0 dX8_answer_16 rfl ?_
      refine k_iload_n (pc := 17) h 1 dX8_answer_17 rfl ?_
      refine k_iload_n (pc := 18) h 2 dX8_answer_18 rfl ?_
      obtain ⟨p8, hc7, hk⟩ := bd_some hk
      refine k_callV1 (pc := 19) h (c_X8_answerOf hc7) cw_X8_169 ly_46 rfl ⟨⟨by decide, by decide⟩, Nat.zero_le _, Nat.zero_le _⟩ rfl (Nat.le_of_ble_eq_true rfl) dX8_answer_19 ?_
      refine k_goto (tgt := 29) (pc := 22) h dX8_answer_22 rfl ?_
      have hk := Option.some.inj hk
      subst hk
      exact k_iret (pc := 29) h dX8_answer_29 ⟨rfl, rfl, rfl, rfl, rfl, ⟨.int, rfl, rfl⟩⟩
def f_X8_casesBy_j34 (w : WW) (l1 : Int32) (l2 : Int32) (l4 : Int32) (s0 : Int32) (s1 : Int32) : Option ((Int32 × Int32) ⊕ (Int32)) := nmv (s1 ||| s0) (fun v3 => some (.inl (v3, (l4 + (1 : Int32)))))
def f_X8_casesBy_b5 (w : WW) (l1 : Int32) (l2 : Int32) (l3 : Int32) (l4 : Int32) : Option ((Int32 × Int32) ⊕ (Int32)) := if (w.1 46 1) ≤ l4 then some (.inr l3) else (f_X8_answerOf w l1 l4).bind (fun p2 => if p2 = l2 then f_X8_casesBy_j34 w l1 l2 l4 (shl32 (1 : Int32) l4) l3 else f_X8_casesBy_j34 w l1 l2 l4 (0 : Int32) l3)
def f_X8_casesBy (w : WW) (l1 : Int32) (l2 : Int32) : Option (Int32) := (lpf (fun s : Int32 × Int32 => f_X8_casesBy_b5 w l1 l2 s.1 s.2) FU ((0 : Int32), (0 : Int32))).bind (fun r4 => some (r4))
set_option maxRecDepth 20000 in
set_option maxHeartbeats 4000000 in
theorem c_X8_casesBy {w : WW} {l1 : Int32} {l2 : Int32} {z : Int32} (hk : f_X8_casesBy w l1 l2 = some z) : Cn 2 yX8_casesBy cX8_casesBy 5 (some .int) LAY [.ref 46, .int l1, .int l2] w (some (.int z)) w := by
  refine Cn.of (by decide +kernel) (Nat.le_of_ble_eq_true rfl) (fun G h => ?_)
  have h : Rules cX8_casesBy RX8 "casesBy" 5 (rmd 2 0 0) none _ _ LAY 0 0 G := h
  show G 0 [(0, .ref 46), (1, .int l1), (2, .int l2)] [] w
  unfold f_X8_casesBy at hk
  have EJ34 : ∀ (l1 : Int32) (l2 : Int32) (l4 : Int32) (s0 : Int32) (s1 : Int32) (z : (Int32 × Int32) ⊕ (Int32)), f_X8_casesBy_j34 w l1 l2 l4 s0 s1 = some z → Sum.elim (fun s : Int32 × Int32 => G 5 [(0, .ref 46), (1, .int l1), (2, .int l2), (3, .int s.1), (4, .int s.2)] [] w) (fun r : Int32 => G 42 [(3, .int r)] [] w) z → G 34 [(0, .ref 46), (1, .int l1), (2, .int l2), (4, .int l4)] [.int s0, .int s1] w := by
    intro l1 l2 l4 s0 s1 z hk hz
    unfold f_X8_casesBy_j34 at hk
    refine k_ior (pc := 34) h dX8_casesBy_34 ?_
    refine k_nmi (pc := 35) h hk (fun v3 hk => ?_)
    refine k_istore_n (pc := 35) h [1, 2, 3, 0, 4] (lv' := [(0, .ref 46), (1, .int l1), (2, .int l2), (3, .int v3), (4, .int l4)]) dX8_casesBy_35 rfl (by decide) rfl ?_
    refine k_iinc (pc := 36) h 4 [1, 2, 3, 4, 0] (v := (l4 + (1 : Int32))) (lv' := [(0, .ref 46), (1, .int l1), (2, .int l2), (3, .int v3), (4, .int (l4 + (1 : Int32)))]) dX8_casesBy_36 rfl rfl (by decide) rfl ?_
    refine k_goto (tgt := 5) (pc := 39) h dX8_casesBy_39 rfl ?_
    have hk := Option.some.inj hk
    subst hk
    exact hz
  have LB5 : ∀ (l1 : Int32) (l2 : Int32), ∀ (nn : Nat) (s : Int32 × Int32) (r : Int32), lpf (fun s : Int32 × Int32 => f_X8_casesBy_b5 w l1 l2 s.1 s.2) nn s = some r → (fun r : Int32 => G 42 [(3, .int r)] [] w) r → (fun s : Int32 × Int32 => G 5 [(0, .ref 46), (1, .int l1), (2, .int l2), (3, .int s.1), (4, .int s.2)] [] w) s := by
    intro l1 l2
    refine lpf_ind (fun s : Int32 × Int32 => G 5 [(0, .ref 46), (1, .int l1), (2, .int l2), (3, .int s.1), (4, .int s.2)] [] w) (fun r : Int32 => G 42 [(3, .int r)] [] w) ?_
    rintro ⟨l3, l4⟩ z hk hz
    have hk : f_X8_casesBy_b5 w l1 l2 l3 l4 = some z := hk
    unfold f_X8_casesBy_b5 at hk
    show G 5 [(0, .ref 46), (1, .int l1), (2, .int l2), (3, .int l3), (4, .int l4)] [] w
    refine k_iload (pc := 5) h 4 dX8_casesBy_5 rfl ?_
    refine k_aload_n (pc := 7) h 0 dX8_casesBy_7 rfl ?_
    refine k_geti (pc := 8) h fl_X8_13 ly_46 rfl dX8_casesBy_8 ?_
    refine k_icmp_ge (tgt := 42) (pc := 11) h dX8_casesBy_11 rfl hk (fun hc hk => ?_) (fun hc hk => ?_)
    · refine k_sub h [3] (lv' := [(3, .int l3)]) rfl ?_
      have hk := Option.some.inj hk
      subst hk
      exact hz
    · refine k_iload_n (pc := 14) h 3 dX8_casesBy_14 rfl ?_
      refine k_aload_n (pc := 15) h 0 dX8_casesBy_15 rfl ?_
      refine k_iload_n (pc := 16) h 1 dX8_casesBy_16 rfl ?_
      refine k_iload (pc := 17) h 4 dX8_casesBy_17 rfl ?_
      obtain ⟨p2, hc1, hk⟩ := bd_some hk
      refine k_callV1 (pc := 19) h (c_X8_answerOf hc1) cw_X8_169 ly_46 rfl ⟨⟨by decide, by decide⟩, Nat.zero_le _, Nat.zero_le _⟩ rfl (Nat.le_of_ble_eq_true rfl) dX8_casesBy_19 ?_
      refine k_iload_n (pc := 22) h 2 dX8_casesBy_22 rfl ?_
      refine k_icmp_ne (tgt := 33) (pc := 23) h dX8_casesBy_23 rfl hk (fun hc hk => ?_) (fun hc hk => ?_)
      · refine k_iconst (pc := 33) h (x := (0 : Int32)) dX8_casesBy_33 (by decide) ?_
        refine k_sub h [0, 1, 2, 4] (lv' := [(0, .ref 46), (1, .int l1), (2, .int l2), (4, .int l4)]) rfl ?_
        exact EJ34 _ _ _ _ _ _ hk hz
      · refine k_iconst (pc := 26) h (x := (1 : Int32)) dX8_casesBy_26 (by decide) ?_
        refine k_iload (pc := 27) h 4 dX8_casesBy_27 rfl ?_
        refine k_ishl (pc := 29) h dX8_casesBy_29 ?_
        refine k_goto (tgt := 34) (pc := 30) h dX8_casesBy_30 rfl ?_
        refine k_sub h [0, 1, 2, 4] (lv' := [(0, .ref 46), (1, .int l1), (2, .int l2), (4, .int l4)]) rfl ?_
        exact EJ34 _ _ _ _ _ _ hk hz
  refine k_iconst (pc := 0) h (x := (0 : Int32)) dX8_casesBy_0 (by decide) ?_
  refine k_istore_n (pc := 1) h [1, 2, 3, 0] (lv' := [(0, .ref 46), (1, .int l1), (2, .int l2), (3, .int (0 : Int32))]) dX8_casesBy_1 rfl (by decide) rfl ?_
  refine k_iconst (pc := 2) h (x := (0 : Int32)) dX8_casesBy_2 (by decide) ?_
  refine k_istore (pc := 3) h [1, 2, 3, 4, 0] (lv' := [(0, .ref 46), (1, .int l1), (2, .int l2), (3, .int (0 : Int32)), (4, .int (0 : Int32))]) dX8_casesBy_3 (by decide) rfl ?_
  obtain ⟨r4, hl5, hk⟩ := bd_some hk
  refine LB5 _ _ _ _ _ hl5 ?_
  show G 42 [(3, .int r4)] [] w
  refine k_iload_n (pc := 42) h 0 dX8_casesBy_42 rfl ?_
  have hk := Option.some.inj hk
  subst hk
  exact k_iret (pc := 43) h dX8_casesBy_43 ⟨rfl, rfl, rfl, rfl, rfl, ⟨.int, rfl, rfl⟩⟩
def f_X8_cheapest_j69 (w : WW) (l1 : Int32) (l2 : Int32) : Option ((Int32 × Int32) ⊕ (Int32)) := some (.inl (l1, (l2 + (1 : Int32))))
def f_X8_cheapest_j68 (w : WW) (l2 : Int32) (s0 : Int32) : Option ((Int32 × Int32) ⊕ (Int32)) := f_X8_cheapest_j69 w s0 l2
def f_X8_cheapest_j63 (w : WW) (l2 : Int32) : Option ((Int32 × Int32) ⊕ (Int32)) := f_X8_cheapest_j68 w l2 l2
def f_X8_cheapest_j67 (w : WW) (l1 : Int32) (l2 : Int32) : Option ((Int32 × Int32) ⊕ (Int32)) := f_X8_cheapest_j68 w l2 l1
def f_X8_cheapest_j43 (w : WW) (l1 : Int32) (l2 : Int32) (s0 : Int32) : Option ((Int32 × Int32) ⊕ (Int32)) := if s0 < 0 then f_X8_cheapest_j63 w l2 else if s0 = 0 then (f_X8_bits w l2).bind (fun p6 => (f_X8_bits w l1).bind (fun p8 => if p8 ≤ p6 then f_X8_cheapest_j67 w l1 l2 else f_X8_cheapest_j63 w l2)) else f_X8_cheapest_j67 w l1 l2
def f_X8_cheapest_b4 (w : WW) (l1 : Int32) (l2 : Int32) : Option ((Int32 × Int32) ⊕ (Int32)) := if (shl32 (1 : Int32) (w.1 46 2)) ≤ l2 then some (.inr l1) else gd (inb l2 128) (if (w.1 57 (l2).toNatClampNeg) = 0 then f_X8_cheapest_j69 w l1 l2 else if l1 = (-1 : Int32) then f_X8_cheapest_j43 w l1 l2 (-1 : Int32) else (f_X8_costOf w l2).bind (fun p2 => (f_X8_costOf w l1).bind (fun p4 => f_X8_cheapest_j43 w l1 l2 (p2 - p4))))
def f_X8_cheapest (w : WW) : Option (Int32) := (lpf (fun s : Int32 × Int32 => f_X8_cheapest_b4 w s.1 s.2) FU ((-1 : Int32), (0 : Int32))).bind (fun r9 => some (r9))
set_option maxRecDepth 20000 in
set_option maxHeartbeats 4000000 in
theorem c_X8_cheapest {w : WW} {z : Int32} (hk : f_X8_cheapest w = some z) : Cn 2 yX8_cheapest cX8_cheapest 4 (some .int) LAY [.ref 46] w (some (.int z)) w := by
  refine Cn.of (by decide +kernel) (Nat.le_of_ble_eq_true rfl) (fun G h => ?_)
  have h : Rules cX8_cheapest RX8 "cheapest" 4 (rmd 2 0 0) none _ _ LAY 0 0 G := h
  show G 0 [(0, .ref 46)] [] w
  unfold f_X8_cheapest at hk
  have EJ69 : ∀ (l1 : Int32) (l2 : Int32) (z : (Int32 × Int32) ⊕ (Int32)), f_X8_cheapest_j69 w l1 l2 = some z → Sum.elim (fun s : Int32 × Int32 => G 4 [(0, .ref 46), (1, .int s.1), (2, .int s.2)] [] w) (fun r : Int32 => G 75 [(1, .int r)] [] w) z → G 69 [(0, .ref 46), (1, .int l1), (2, .int l2)] [] w := by
    intro l1 l2 z hk hz
    unfold f_X8_cheapest_j69 at hk
    refine k_iinc (pc := 69) h 2 [1, 2, 0] (v := (l2 + (1 : Int32))) (lv' := [(0, .ref 46), (1, .int l1), (2, .int (l2 + (1 : Int32)))]) dX8_cheapest_69 rfl rfl (by decide) rfl ?_
    refine k_goto (tgt := 4) (pc := 72) h dX8_cheapest_72 rfl ?_
    have hk := Option.some.inj hk
    subst hk
    exact hz
  have EJ68 : ∀ (l2 : Int32) (s0 : Int32) (z : (Int32 × Int32) ⊕ (Int32)), f_X8_cheapest_j68 w l2 s0 = some z → Sum.elim (fun s : Int32 × Int32 => G 4 [(0, .ref 46), (1, .int s.1), (2, .int s.2)] [] w) (fun r : Int32 => G 75 [(1, .int r)] [] w) z → G 68 [(0, .ref 46), (2, .int l2)] [.int s0] w := by
    intro l2 s0 z hk hz
    unfold f_X8_cheapest_j68 at hk
    refine k_istore_n (pc := 68) h [1, 0, 2] (lv' := [(0, .ref 46), (1, .int s0), (2, .int l2)]) dX8_cheapest_68 rfl (by decide) rfl ?_
    exact EJ69 _ _ _ hk hz
  have EJ63 : ∀ (l2 : Int32) (z : (Int32 × Int32) ⊕ (Int32)), f_X8_cheapest_j63 w l2 = some z → Sum.elim (fun s : Int32 × Int32 => G 4 [(0, .ref 46), (1, .int s.1), (2, .int s.2)] [] w) (fun r : Int32 => G 75 [(1, .int r)] [] w) z → G 63 [(0, .ref 46), (2, .int l2)] [] w := by
    intro l2 z hk hz
    unfold f_X8_cheapest_j63 at hk
    refine k_iload_n (pc := 63) h 1 dX8_cheapest_63 rfl ?_
    refine k_goto (tgt := 68) (pc := 64) h dX8_cheapest_64 rfl ?_
    exact EJ68 _ _ _ hk hz
  have EJ67 : ∀ (l1 : Int32) (l2 : Int32) (z : (Int32 × Int32) ⊕ (Int32)), f_X8_cheapest_j67 w l1 l2 = some z → Sum.elim (fun s : Int32 × Int32 => G 4 [(0, .ref 46), (1, .int s.1), (2, .int s.2)] [] w) (fun r : Int32 => G 75 [(1, .int r)] [] w) z → G 67 [(0, .ref 46), (1, .int l1), (2, .int l2)] [] w := by
    intro l1 l2 z hk hz
    unfold f_X8_cheapest_j67 at hk
    refine k_iload_n (pc := 67) h 1 dX8_cheapest_67 rfl ?_
    refine k_sub h [0, 2] (lv' := [(0, .ref 46), (2, .int l2)]) rfl ?_
    exact EJ68 _ _ _ hk hz
  have EJ43 : ∀ (l1 : Int32) (l2 : Int32) (s0 : Int32) (z : (Int32 × Int32) ⊕ (Int32)), f_X8_cheapest_j43 w l1 l2 s0 = some z → Sum.elim (fun s : Int32 × Int32 => G 4 [(0, .ref 46), (1, .int s.1), (2, .int s.2)] [] w) (fun r : Int32 => G 75 [(1, .int r)] [] w) z → G 43 [(0, .ref 46), (1, .int l1), (2, .int l2)] [.int s0] w := by
    intro l1 l2 s0 z hk hz
    unfold f_X8_cheapest_j43 at hk
    refine k_istore_n (pc := 43) h [1, 2, 3, 0] (lv' := [(0, .ref 46), (1, .int l1), (2, .int l2), (3, .int s0)]) dX8_cheapest_43 rfl (by decide) rfl ?_
    refine k_iload_n (pc := 44) h 3 dX8_cheapest_44 rfl ?_
    refine k_if_lt (tgt := 63) (pc := 45) h dX8_cheapest_45 rfl hk (fun hc hk => ?_) (fun hc hk => ?_)
    · refine k_sub h [0, 2] (lv' := [(0, .ref 46), (2, .int l2)]) rfl ?_
      exact EJ63 _ _ hk hz
    · refine k_iload_n (pc := 48) h 3 dX8_cheapest_48 rfl ?_
      refine k_if_ne (tgt := 67) (pc := 49) h dX8_cheapest_49 rfl hk (fun hc hk => ?_) (fun hc hk => ?_)
      · refine k_sub h [0, 1, 2] (lv' := [(0, .ref 46), (1, .int l1), (2, .int l2)]) rfl ?_
        exact EJ67 _ _ _ hk hz
      · refine k_iload_n (pc := 52) h 2 dX8_cheapest_52 rfl ?_
        obtain ⟨p6, hc5, hk⟩ := bd_some hk
        refine k_callS1 (pc := 53) h (c_X8_bits hc5) cw_X8_192 ⟨⟨by decide, by decide⟩, Nat.zero_le _, Nat.zero_le _⟩ rfl (Nat.le_of_ble_eq_true rfl) dX8_cheapest_53 ?_
        refine k_iload_n (pc := 56) h 1 dX8_cheapest_56 rfl ?_
        obtain ⟨p8, hc7, hk⟩ := bd_some hk
        refine k_callS1 (pc := 57) h (c_X8_bits hc7) cw_X8_192 ⟨⟨by decide, by decide⟩, Nat.zero_le _, Nat.zero_le _⟩ rfl (Nat.le_of_ble_eq_true rfl) dX8_cheapest_57 ?_
        refine k_icmp_ge (tgt := 67) (pc := 60) h dX8_cheapest_60 rfl hk (fun hc hk => ?_) (fun hc hk => ?_)
        · refine k_sub h [0, 1, 2] (lv' := [(0, .ref 46), (1, .int l1), (2, .int l2)]) rfl ?_
          exact EJ67 _ _ _ hk hz
        · refine k_sub h [0, 2] (lv' := [(0, .ref 46), (2, .int l2)]) rfl ?_
          exact EJ63 _ _ hk hz
  have LB4 : ∀ (nn : Nat) (s : Int32 × Int32) (r : Int32), lpf (fun s : Int32 × Int32 => f_X8_cheapest_b4 w s.1 s.2) nn s = some r → (fun r : Int32 => G 75 [(1, .int r)] [] w) r → (fun s : Int32 × Int32 => G 4 [(0, .ref 46), (1, .int s.1), (2, .int s.2)] [] w) s := by
    refine lpf_ind (fun s : Int32 × Int32 => G 4 [(0, .ref 46), (1, .int s.1), (2, .int s.2)] [] w) (fun r : Int32 => G 75 [(1, .int r)] [] w) ?_
    rintro ⟨l1, l2⟩ z hk hz
    have hk : f_X8_cheapest_b4 w l1 l2 = some z := hk
    unfold f_X8_cheapest_b4 at hk
    show G 4 [(0, .ref 46), (1, .int l1), (2, .int l2)] [] w
    refine k_iload_n (pc := 4) h 2 dX8_cheapest_4 rfl ?_
    refine k_iconst (pc := 5) h (x := (1 : Int32)) dX8_cheapest_5 (by decide) ?_
    refine k_aload_n (pc := 6) h 0 dX8_cheapest_6 rfl ?_
    refine k_geti (pc := 7) h fl_X8_75 ly_46 rfl dX8_cheapest_7 ?_
    refine k_ishl (pc := 10) h dX8_cheapest_10 ?_
    refine k_icmp_ge (tgt := 75) (pc := 11) h dX8_cheapest_11 rfl hk (fun hc hk => ?_) (fun hc hk => ?_)
    · refine k_sub h [1] (lv' := [(1, .int l1)]) rfl ?_
      have hk := Option.some.inj hk
      subst hk
      exact hz
    · refine k_aload_n (pc := 14) h 0 dX8_cheapest_14 rfl ?_
      refine k_getr (pc := 15) h fl_X8_44 ly_46 rfl dX8_cheapest_15 ?_
      refine k_iload_n (pc := 18) h 2 dX8_cheapest_18 rfl ?_
      refine k_zald (pc := 19) h ly_57 dX8_cheapest_19 hk (fun hk => ?_)
      refine k_if_eq (tgt := 69) (pc := 20) h dX8_cheapest_20 rfl hk (fun hc hk => ?_) (fun hc hk => ?_)
      · exact EJ69 _ _ _ hk hz
      · refine k_iload_n (pc := 23) h 1 dX8_cheapest_23 rfl ?_
        refine k_iconst (pc := 24) h (x := (-1 : Int32)) dX8_cheapest_24 (by decide) ?_
        refine k_icmp_ne (tgt := 32) (pc := 25) h dX8_cheapest_25 rfl hk (fun hc hk => ?_) (fun hc hk => ?_)
        · refine k_aload_n (pc := 32) h 0 dX8_cheapest_32 rfl ?_
          refine k_iload_n (pc := 33) h 2 dX8_cheapest_33 rfl ?_
          obtain ⟨p2, hc1, hk⟩ := bd_some hk
          refine k_callV1 (pc := 34) h (c_X8_costOf hc1) cw_X8_210 ly_46 rfl ⟨⟨by decide, by decide⟩, Nat.zero_le _, Nat.zero_le _⟩ rfl (Nat.le_of_ble_eq_true rfl) dX8_cheapest_34 ?_
          refine k_aload_n (pc := 37) h 0 dX8_cheapest_37 rfl ?_
          refine k_iload_n (pc := 38) h 1 dX8_cheapest_38 rfl ?_
          obtain ⟨p4, hc3, hk⟩ := bd_some hk
          refine k_callV1 (pc := 39) h (c_X8_costOf hc3) cw_X8_210 ly_46 rfl ⟨⟨by decide, by decide⟩, Nat.zero_le _, Nat.zero_le _⟩ rfl (Nat.le_of_ble_eq_true rfl) dX8_cheapest_39 ?_
          refine k_isub (pc := 42) h dX8_cheapest_42 ?_
          exact EJ43 _ _ _ _ hk hz
        · refine k_iconst (pc := 28) h (x := (-1 : Int32)) dX8_cheapest_28 (by decide) ?_
          refine k_goto (tgt := 43) (pc := 29) h dX8_cheapest_29 rfl ?_
          exact EJ43 _ _ _ _ hk hz
  refine k_iconst (pc := 0) h (x := (-1 : Int32)) dX8_cheapest_0 (by decide) ?_
  refine k_istore_n (pc := 1) h [1, 0] (lv' := [(0, .ref 46), (1, .int (-1 : Int32))]) dX8_cheapest_1 rfl (by decide) rfl ?_
  refine k_iconst (pc := 2) h (x := (0 : Int32)) dX8_cheapest_2 (by decide) ?_
  refine k_istore_n (pc := 3) h [1, 2, 0] (lv' := [(0, .ref 46), (1, .int (-1 : Int32)), (2, .int (0 : Int32))]) dX8_cheapest_3 rfl (by decide) rfl ?_
  obtain ⟨r9, hl10, hk⟩ := bd_some hk
  refine LB4 _ _ _ hl10 ?_
  show G 75 [(1, .int r9)] [] w
  refine k_iload_n (pc := 75) h 0 dX8_cheapest_75 rfl ?_
  have hk := Option.some.inj hk
  subst hk
  exact k_iret (pc := 76) h dX8_cheapest_76 ⟨rfl, rfl, rfl, rfl, rfl, ⟨.int, rfl, rfl⟩⟩
def f_X8_ends (w : WW) : Option (Int32 × WW) := (f_X8_skip w).bind (fun p2 => (f_X8_here p2).bind (fun p4 => if p4 = (59 : Int32) then stI p2 46 11 ((p2.1 46 11) + (1 : Int32)) (fun u5 => some ((1 : Int32), u5)) else some ((0 : Int32), p2)))
set_option maxRecDepth 20000 in
set_option maxHeartbeats 4000000 in
theorem c_X8_ends {w : WW} {z : Int32 × WW} (hk : f_X8_ends w = some z) : Cn 2 yX8_ends cX8_ends 1 (some .boolean) LAY [.ref 46] w (some (.int z.1)) z.2 := by
  refine Cn.of (by decide +kernel) (Nat.le_of_ble_eq_true rfl) (fun G h => ?_)
  have h : Rules cX8_ends RX8 "ends" 1 (rmd 2 0 0) none _ _ LAY 0 0 G := h
  show G 0 [(0, .ref 46)] [] w
  unfold f_X8_ends at hk
  refine k_aload_n (pc := 0) h 0 dX8_ends_0 rfl ?_
  obtain ⟨p2, hc1, hk⟩ := bd_some hk
  refine k_callV0 (pc := 1) h (c_X8_skip hc1) cw_X8_125 ly_46 rfl ⟨⟨by decide, by decide⟩, Nat.zero_le _, Nat.zero_le _⟩ rfl (Nat.le_of_ble_eq_true rfl) dX8_ends_1 ?_
  refine k_aload_n (pc := 4) h 0 dX8_ends_4 rfl ?_
  obtain ⟨p4, hc3, hk⟩ := bd_some hk
  refine k_callV1 (pc := 5) h (c_X8_here hc3) cw_X8_112 ly_46 rfl ⟨⟨by decide, by decide⟩, Nat.zero_le _, Nat.zero_le _⟩ rfl (Nat.le_of_ble_eq_true rfl) dX8_ends_5 ?_
  refine k_bipush (pc := 8) h (x := (59 : Int32)) dX8_ends_8 (by decide) ?_
  refine k_icmp_eq (tgt := 15) (pc := 10) h dX8_ends_10 rfl hk (fun hc hk => ?_) (fun hc hk => ?_)
  · refine k_aload_n (pc := 15) h 0 dX8_ends_15 rfl ?_
    refine k_dup (pc := 16) h dX8_ends_16 rfl ?_
    refine k_geti (pc := 17) h fl_X8_109 ly_46 rfl dX8_ends_17 ?_
    refine k_iconst (pc := 20) h (x := (1 : Int32)) dX8_ends_20 (by decide) ?_
    refine k_iadd (pc := 21) h dX8_ends_21 ?_
    refine k_puti (pc := 22) h fl_X8_109 ly_46 rfl dX8_ends_22 hk (fun u5 hk => ?_)
    refine k_iconst (pc := 25) h (x := (1 : Int32)) dX8_ends_25 (by decide) ?_
    have hk := Option.some.inj hk
    subst hk
    exact k_iret (pc := 26) h dX8_ends_26 ⟨rfl, rfl, rfl, rfl, rfl, ⟨.boolean, rfl, rfl⟩⟩
  · refine k_iconst (pc := 13) h (x := (0 : Int32)) dX8_ends_13 (by decide) ?_
    have hk := Option.some.inj hk
    subst hk
    exact k_iret (pc := 14) h dX8_ends_14 ⟨rfl, rfl, rfl, rfl, rfl, ⟨.boolean, rfl, rfl⟩⟩
def f_X8_layLine_b4 (w : WW) (l1 : Int32) (l2 : Int32) (l3 : Int32) : Option ((Int32 × Int32) ⊕ (Int32 × Int32)) := if l2 ≤ 0 then some (.inr (l2, l3)) else if (7 : Int32) ≤ l3 then some (.inr (l2, l3)) else gd (¬ (10 : Int32) = 0) (nmv (l2 / (10 : Int32)) (fun v1 => some (.inl (v1, (l3 + (1 : Int32))))))
def f_X8_layLine_j89 (w : WW) (l2 : Int32) (l3 : Int32) (l5 : Int32) (s0 : Int32) : Option ((Int32 × Int32 × Int32 × WW) ⊕ (Int32 × WW)) := gd (¬ (10 : Int32) = 0) (nmv (l2 / (10 : Int32)) (fun v6 => some (.inl (v6, s0, (l5 + (-1 : Int32)), w))))
def f_X8_layLine_j88 (w : WW) (l2 : Int32) (l3 : Int32) (l5 : Int32) : Option ((Int32 × Int32 × Int32 × WW) ⊕ (Int32 × WW)) := f_X8_layLine_j89 w l2 l3 l5 (0 : Int32)
def f_X8_layLine_b47 (l3 : Int32) (l2 : Int32) (l4 : Int32) (l5 : Int32) (w : WW) : Option ((Int32 × Int32 × Int32 × WW) ⊕ (Int32 × WW)) := if l5 < 0 then some (.inr (l4, w)) else gd (¬ (10 : Int32) = 0) (gd (inb l5 7) (stI w 62 (l5).toNatClampNeg ((rm32 l2 (10 : Int32)) - (1 : Int32)) (fun u5 => if l4 = 0 then f_X8_layLine_j88 u5 l2 l3 l5 else gd (inb l5 7) ((f_X8_isQuestion u5 (u5.1 62 (l5).toNatClampNeg)).bind (fun p8 => if p8 = 0 then f_X8_layLine_j88 u5 l2 l3 l5 else f_X8_layLine_j89 u5 l2 l3 l5 (1 : Int32))))))
def f_X8_layLine_j38 (w : WW) (l1 : Int32) (l3 : Int32) (s0 : Int32) : Option (Int32 × WW) := nmv (l3 - (1 : Int32)) (fun v4 => (lpf (fun s : Int32 × Int32 × Int32 × WW => f_X8_layLine_b47 l3 s.1 s.2.1 s.2.2.1 s.2.2.2) FU (l1, s0, v4, w)).bind (fun r9 => stI r9.2 46 27 l3 (fun u11 => gd (r9.1 &&& 1 = r9.1) (some (r9.1, u11)))))
def f_X8_layLine_j37 (w : WW) (l1 : Int32) (l3 : Int32) : Option (Int32 × WW) := f_X8_layLine_j38 w l1 l3 (0 : Int32)
def f_X8_layLine (w : WW) (l1 : Int32) : Option (Int32 × WW) := (lpf (fun s : Int32 × Int32 => f_X8_layLine_b4 w l1 s.1 s.2) FU (l1, (0 : Int32))).bind (fun r2 => if l1 < 0 then f_X8_layLine_j37 w l1 r2.2 else if r2.1 = 0 then f_X8_layLine_j38 w l1 r2.2 (1 : Int32) else f_X8_layLine_j37 w l1 r2.2)
set_option maxRecDepth 20000 in
set_option maxHeartbeats 4000000 in
theorem c_X8_layLine {w : WW} {l1 : Int32} {z : Int32 × WW} (hk : f_X8_layLine w l1 = some z) : Cn 2 yX8_layLine cX8_layLine 6 (some .boolean) LAY [.ref 46, .int l1] w (some (.int z.1)) z.2 := by
  refine Cn.of (by decide +kernel) (Nat.le_of_ble_eq_true rfl) (fun G h => ?_)
  have h : Rules cX8_layLine RX8 "layLine" 6 (rmd 2 0 0) none _ _ LAY 0 0 G := h
  show G 0 [(0, .ref 46), (1, .int l1)] [] w
  unfold f_X8_layLine at hk
  have LB4 : ∀ (w : WW) (l1 : Int32), ∀ (nn : Nat) (s : Int32 × Int32) (r : Int32 × Int32), lpf (fun s : Int32 × Int32 => f_X8_layLine_b4 w l1 s.1 s.2) nn s = some r → (fun r : Int32 × Int32 => G 25 [(0, .ref 46), (1, .int l1), (2, .int r.1), (3, .int r.2)] [] w) r → (fun s : Int32 × Int32 => G 4 [(0, .ref 46), (1, .int l1), (2, .int s.1), (3, .int s.2)] [] w) s := by
    intro w l1
    refine lpf_ind (fun s : Int32 × Int32 => G 4 [(0, .ref 46), (1, .int l1), (2, .int s.1), (3, .int s.2)] [] w) (fun r : Int32 × Int32 => G 25 [(0, .ref 46), (1, .int l1), (2, .int r.1), (3, .int r.2)] [] w) ?_
    rintro ⟨l2, l3⟩ z hk hz
    have hk : f_X8_layLine_b4 w l1 l2 l3 = some z := hk
    unfold f_X8_layLine_b4 at hk
    show G 4 [(0, .ref 46), (1, .int l1), (2, .int l2), (3, .int l3)] [] w
    refine k_iload_n (pc := 4) h 2 dX8_layLine_4 rfl ?_
    refine k_if_le (tgt := 25) (pc := 5) h dX8_layLine_5 rfl hk (fun hc hk => ?_) (fun hc hk => ?_)
    · have hk := Option.some.inj hk
      subst hk
      exact hz
    · refine k_iload_n (pc := 8) h 3 dX8_layLine_8 rfl ?_
      refine k_bipush (pc := 9) h (x := (7 : Int32)) dX8_layLine_9 (by decide) ?_
      refine k_icmp_ge (tgt := 25) (pc := 11) h dX8_layLine_11 rfl hk (fun hc hk => ?_) (fun hc hk => ?_)
      · have hk := Option.some.inj hk
        subst hk
        exact hz
      · refine k_iload_n (pc := 14) h 2 dX8_layLine_14 rfl ?_
        refine k_bipush (pc := 15) h (x := (10 : Int32)) dX8_layLine_15 (by decide) ?_
        refine k_idiv (pc := 17) h dX8_layLine_17 hk (fun hk => ?_)
        refine k_nmi (pc := 18) h hk (fun v1 hk => ?_)
        refine k_istore_n (pc := 18) h [1, 2, 0, 3] (lv' := [(0, .ref 46), (1, .int l1), (2, .int v1), (3, .int l3)]) dX8_layLine_18 rfl (by decide) rfl ?_
        refine k_iinc (pc := 19) h 3 [1, 2, 3, 0] (v := (l3 + (1 : Int32))) (lv' := [(0, .ref 46), (1, .int l1), (2, .int v1), (3, .int (l3 + (1 : Int32)))]) dX8_layLine_19 rfl rfl (by decide) rfl ?_
        refine k_goto (tgt := 4) (pc := 22) h dX8_layLine_22 rfl ?_
        have hk := Option.some.inj hk
        subst hk
        exact hz
  have EJ89 : ∀ (w : WW) (l2 : Int32) (l3 : Int32) (l5 : Int32) (s0 : Int32) (z : (Int32 × Int32 × Int32 × WW) ⊕ (Int32 × WW)), f_X8_layLine_j89 w l2 l3 l5 s0 = some z → Sum.elim (fun s : Int32 × Int32 × Int32 × WW => G 47 [(0, .ref 46), (2, .int s.1), (3, .int l3), (4, .int s.2.1), (5, .int s.2.2.1)] [] s.2.2.2) (fun r : Int32 × WW => G 102 [(0, .ref 46), (3, .int l3), (4, .int r.1)] [] r.2) z → G 89 [(0, .ref 46), (2, .int l2), (3, .int l3), (5, .int l5)] [.int s0] w := by
    intro w l2 l3 l5 s0 z hk hz
    unfold f_X8_layLine_j89 at hk
    refine k_istore (pc := 89) h [1, 2, 3, 0, 4] (lv' := [(0, .ref 46), (2, .int l2), (3, .int l3), (4, .int s0), (5, .int l5)]) dX8_layLine_89 (by decide) rfl ?_
    refine k_iload_n (pc := 91) h 1 dX8_layLine_91 rfl ?_
    refine k_bipush (pc := 92) h (x := (10 : Int32)) dX8_layLine_92 (by decide) ?_
    refine k_idiv (pc := 94) h dX8_layLine_94 hk (fun hk => ?_)
    refine k_nmi (pc := 95) h hk (fun v6 hk => ?_)
    refine k_istore_n (pc := 95) h [1, 0, 2, 3, 4] (lv' := [(0, .ref 46), (2, .int v6), (3, .int l3), (4, .int s0), (5, .int l5)]) dX8_layLine_95 rfl (by decide) rfl ?_
    refine k_iinc (pc := 96) h 4 [1, 2, 3, 4, 0] (v := (l5 + (-1 : Int32))) (lv' := [(0, .ref 46), (2, .int v6), (3, .int l3), (4, .int s0), (5, .int (l5 + (-1 : Int32)))]) dX8_layLine_96 rfl rfl (by decide) rfl ?_
    refine k_goto (tgt := 47) (pc := 99) h dX8_layLine_99 rfl ?_
    have hk := Option.some.inj hk
    subst hk
    exact hz
  have EJ88 : ∀ (w : WW) (l2 : Int32) (l3 : Int32) (l5 : Int32) (z : (Int32 × Int32 × Int32 × WW) ⊕ (Int32 × WW)), f_X8_layLine_j88 w l2 l3 l5 = some z → Sum.elim (fun s : Int32 × Int32 × Int32 × WW => G 47 [(0, .ref 46), (2, .int s.1), (3, .int l3), (4, .int s.2.1), (5, .int s.2.2.1)] [] s.2.2.2) (fun r : Int32 × WW => G 102 [(0, .ref 46), (3, .int l3), (4, .int r.1)] [] r.2) z → G 88 [(0, .ref 46), (2, .int l2), (3, .int l3), (5, .int l5)] [] w := by
    intro w l2 l3 l5 z hk hz
    unfold f_X8_layLine_j88 at hk
    refine k_iconst (pc := 88) h (x := (0 : Int32)) dX8_layLine_88 (by decide) ?_
    exact EJ89 _ _ _ _ _ _ hk hz
  have LB47 : ∀ (l3 : Int32), ∀ (nn : Nat) (s : Int32 × Int32 × Int32 × WW) (r : Int32 × WW), lpf (fun s : Int32 × Int32 × Int32 × WW => f_X8_layLine_b47 l3 s.1 s.2.1 s.2.2.1 s.2.2.2) nn s = some r → (fun r : Int32 × WW => G 102 [(0, .ref 46), (3, .int l3), (4, .int r.1)] [] r.2) r → (fun s : Int32 × Int32 × Int32 × WW => G 47 [(0, .ref 46), (2, .int s.1), (3, .int l3), (4, .int s.2.1), (5, .int s.2.2.1)] [] s.2.2.2) s := by
    intro l3
    refine lpf_ind (fun s : Int32 × Int32 × Int32 × WW => G 47 [(0, .ref 46), (2, .int s.1), (3, .int l3), (4, .int s.2.1), (5, .int s.2.2.1)] [] s.2.2.2) (fun r : Int32 × WW => G 102 [(0, .ref 46), (3, .int l3), (4, .int r.1)] [] r.2) ?_
    rintro ⟨l2, l4, l5, w⟩ z hk hz
    have hk : f_X8_layLine_b47 l3 l2 l4 l5 w = some z := hk
    unfold f_X8_layLine_b47 at hk
    show G 47 [(0, .ref 46), (2, .int l2), (3, .int l3), (4, .int l4), (5, .int l5)] [] w
    refine k_iload (pc := 47) h 4 dX8_layLine_47 rfl ?_
    refine k_if_lt (tgt := 102) (pc := 49) h dX8_layLine_49 rfl hk (fun hc hk => ?_) (fun hc hk => ?_)
    · refine k_sub h [0, 2, 3] (lv' := [(0, .ref 46), (3, .int l3), (4, .int l4)]) rfl ?_
      have hk := Option.some.inj hk
      subst hk
      exact hz
    · refine k_aload_n (pc := 52) h 0 dX8_layLine_52 rfl ?_
      refine k_getr (pc := 53) h fl_X8_65 ly_46 rfl dX8_layLine_53 ?_
      refine k_iload (pc := 56) h 4 dX8_layLine_56 rfl ?_
      refine k_iload_n (pc := 58) h 1 dX8_layLine_58 rfl ?_
      refine k_bipush (pc := 59) h (x := (10 : Int32)) dX8_layLine_59 (by decide) ?_
      refine k_irem (pc := 61) h dX8_layLine_61 hk (fun hk => ?_)
      refine k_iconst (pc := 62) h (x := (1 : Int32)) dX8_layLine_62 (by decide) ?_
      refine k_isub (pc := 63) h dX8_layLine_63 ?_
      refine k_iast (pc := 64) h ly_62 dX8_layLine_64 hk (fun u5 hk => ?_)
      refine k_iload (pc := 65) h 3 dX8_layLine_65 rfl ?_
      refine k_if_eq (tgt := 88) (pc := 67) h dX8_layLine_67 rfl hk (fun hc hk => ?_) (fun hc hk => ?_)
      · refine k_sub h [0, 1, 2, 4] (lv' := [(0, .ref 46), (2, .int l2), (3, .int l3), (5, .int l5)]) rfl ?_
        exact EJ88 _ _ _ _ _ hk hz
      · refine k_aload_n (pc := 70) h 0 dX8_layLine_70 rfl ?_
        refine k_aload_n (pc := 71) h 0 dX8_layLine_71 rfl ?_
        refine k_getr (pc := 72) h fl_X8_65 ly_46 rfl dX8_layLine_72 ?_
        refine k_iload (pc := 75) h 4 dX8_layLine_75 rfl ?_
        refine k_iald (pc := 77) h ly_62 dX8_layLine_77 hk (fun hk => ?_)
        obtain ⟨p8, hc7, hk⟩ := bd_some hk
        refine k_callV1 (pc := 78) h (c_X8_isQuestion hc7) cw_X8_103 ly_46 rfl ⟨⟨by decide, by decide⟩, Nat.zero_le _, Nat.zero_le _⟩ rfl (Nat.le_of_ble_eq_true rfl) dX8_layLine_78 ?_
        refine k_if_eq (tgt := 88) (pc := 81) h dX8_layLine_81 rfl hk (fun hc hk => ?_) (fun hc hk => ?_)
        · refine k_sub h [0, 1, 2, 4] (lv' := [(0, .ref 46), (2, .int l2), (3, .int l3), (5, .int l5)]) rfl ?_
          exact EJ88 _ _ _ _ _ hk hz
        · refine k_iconst (pc := 84) h (x := (1 : Int32)) dX8_layLine_84 (by decide) ?_
          refine k_goto (tgt := 89) (pc := 85) h dX8_layLine_85 rfl ?_
          refine k_sub h [0, 1, 2, 4] (lv' := [(0, .ref 46), (2, .int l2), (3, .int l3), (5, .int l5)]) rfl ?_
          exact EJ89 _ _ _ _ _ _ hk hz
  have EJ38 : ∀ (w : WW) (l1 : Int32) (l3 : Int32) (s0 : Int32), f_X8_layLine_j38 w l1 l3 s0 = some z → G 38 [(0, .ref 46), (1, .int l1), (3, .int l3)] [.int s0] w := by
    intro w l1 l3 s0 hk
    unfold f_X8_layLine_j38 at hk
    refine k_istore (pc := 38) h [1, 2, 3, 0] (lv' := [(0, .ref 46), (1, .int l1), (3, .int l3), (4, .int s0)]) dX8_layLine_38 (by decide) rfl ?_
    refine k_iload_n (pc := 40) h 1 dX8_layLine_40 rfl ?_
    refine k_istore_n (pc := 41) h [1, 2, 0, 3, 4] (lv' := [(0, .ref 46), (1, .int l1), (2, .int l1), (3, .int l3), (4, .int s0)]) dX8_layLine_41 rfl (by decide) rfl ?_
    refine k_iload_n (pc := 42) h 3 dX8_layLine_42 rfl ?_
    refine k_iconst (pc := 43) h (x := (1 : Int32)) dX8_layLine_43 (by decide) ?_
    refine k_isub (pc := 44) h dX8_layLine_44 ?_
    refine k_nmi (pc := 45) h hk (fun v4 hk => ?_)
    refine k_istore (pc := 45) h [1, 2, 3, 4, 5, 0] (lv' := [(0, .ref 46), (1, .int l1), (2, .int l1), (3, .int l3), (4, .int s0), (5, .int v4)]) dX8_layLine_45 (by decide) rfl ?_
    refine k_sub h [0, 2, 3, 4, 5] (lv' := [(0, .ref 46), (2, .int l1), (3, .int l3), (4, .int s0), (5, .int v4)]) rfl ?_
    obtain ⟨r9, hl10, hk⟩ := bd_some hk
    refine LB47 _ _ _ _ hl10 ?_
    show G 102 [(0, .ref 46), (3, .int l3), (4, .int r9.1)] [] r9.2
    refine k_aload_n (pc := 102) h 0 dX8_layLine_102 rfl ?_
    refine k_iload_n (pc := 103) h 1 dX8_layLine_103 rfl ?_
    refine k_puti (pc := 104) h fl_X8_237 ly_46 rfl dX8_layLine_104 hk (fun u11 hk => ?_)
    refine k_iload (pc := 107) h 2 dX8_layLine_107 rfl ?_
    obtain ⟨hg, hk⟩ := gd_some hk
    have hk := Option.some.inj hk
    subst hk
    exact k_iret (pc := 109) h dX8_layLine_109 ⟨rfl, rfl, rfl, rfl, rfl, ⟨.boolean, rfl, nar_b hg⟩⟩
  have EJ37 : ∀ (w : WW) (l1 : Int32) (l3 : Int32), f_X8_layLine_j37 w l1 l3 = some z → G 37 [(0, .ref 46), (1, .int l1), (3, .int l3)] [] w := by
    intro w l1 l3 hk
    unfold f_X8_layLine_j37 at hk
    refine k_iconst (pc := 37) h (x := (0 : Int32)) dX8_layLine_37 (by decide) ?_
    exact EJ38 _ _ _ _ hk
  refine k_iload_n (pc := 0) h 1 dX8_layLine_0 rfl ?_
  refine k_istore_n (pc := 1) h [1, 2, 0] (lv' := [(0, .ref 46), (1, .int l1), (2, .int l1)]) dX8_layLine_1 rfl (by decide) rfl ?_
  refine k_iconst (pc := 2) h (x := (0 : Int32)) dX8_layLine_2 (by decide) ?_
  refine k_istore_n (pc := 3) h [1, 2, 3, 0] (lv' := [(0, .ref 46), (1, .int l1), (2, .int l1), (3, .int (0 : Int32))]) dX8_layLine_3 rfl (by decide) rfl ?_
  obtain ⟨r2, hl3, hk⟩ := bd_some hk
  refine LB4 _ _ _ _ _ hl3 ?_
  show G 25 [(0, .ref 46), (1, .int l1), (2, .int r2.1), (3, .int r2.2)] [] w
  refine k_iload_n (pc := 25) h 1 dX8_layLine_25 rfl ?_
  refine k_if_lt (tgt := 37) (pc := 26) h dX8_layLine_26 rfl hk (fun hc hk => ?_) (fun hc hk => ?_)
  · refine k_sub h [0, 1, 3] (lv' := [(0, .ref 46), (1, .int l1), (3, .int r2.2)]) rfl ?_
    exact EJ37 _ _ _ hk
  · refine k_iload_n (pc := 29) h 2 dX8_layLine_29 rfl ?_
    refine k_if_ne (tgt := 37) (pc := 30) h dX8_layLine_30 rfl hk (fun hc hk => ?_) (fun hc hk => ?_)
    · refine k_sub h [0, 1, 3] (lv' := [(0, .ref 46), (1, .int l1), (3, .int r2.2)]) rfl ?_
      exact EJ37 _ _ _ hk
    · refine k_iconst (pc := 33) h (x := (1 : Int32)) dX8_layLine_33 (by decide) ?_
      refine k_goto (tgt := 38) (pc := 34) h dX8_layLine_34 rfl ?_
      refine k_sub h [0, 1, 3] (lv' := [(0, .ref 46), (1, .int l1), (3, .int r2.2)]) rfl ?_
      exact EJ38 _ _ _ _ hk
def f_X8_number_j69 (w : WW) (l1 : Int32) (l2 : Int32) (l3 : Int32) (s0 : Int32) : Option ((Int32 × Int32) ⊕ (Int32 × Int32)) := some (.inl ((l3 + (1 : Int32)), s0))
def f_X8_number_b9 (w : WW) (l1 : Int32) (l2 : Int32) (l3 : Int32) (l4 : Int32) : Option ((Int32 × Int32) ⊕ (Int32 × Int32)) := if (w.1 46 10) ≤ ((w.1 46 11) + l3) then some (.inr (l3, l4)) else gd (inb ((w.1 46 11) + l3) 150) ((f_X8_isFigure w (w.1 53 (((w.1 46 11) + l3)).toNatClampNeg)).bind (fun p4 => if p4 = 0 then some (.inr (l3, l4)) else if (2 : Int32) ≤ l3 then f_X8_number_j69 w l1 l2 l3 l4 else gd (inb ((w.1 46 11) + l3) 150) (f_X8_number_j69 w l1 l2 l3 ((((10 : Int32) * l4) + (w.1 53 (((w.1 46 11) + l3)).toNatClampNeg)) - (48 : Int32)))))
def f_X8_number_j96 (w : WW) : Option (Int32 × WW) := some ((0 : Int32), w)
def f_X8_number (w : WW) (l1 : Int32) (l2 : Int32) : Option (Int32 × WW) := (f_X8_skip w).bind (fun p2 => (lpf (fun s : Int32 × Int32 => f_X8_number_b9 p2 l1 l2 s.1 s.2) FU ((0 : Int32), (0 : Int32))).bind (fun r5 => (f_X8_in p2 r5.1 (1 : Int32) (2 : Int32)).bind (fun p8 => if p8 = 0 then f_X8_number_j96 p2 else (f_X8_in p2 r5.2 l1 l2).bind (fun p10 => if p10 = 0 then f_X8_number_j96 p2 else stI p2 46 16 r5.2 (fun u11 => stI u11 46 11 ((u11.1 46 11) + r5.1) (fun u12 => some ((1 : Int32), u12)))))))
set_option maxRecDepth 20000 in
set_option maxHeartbeats 4000000 in
theorem c_X8_number {w : WW} {l1 : Int32} {l2 : Int32} {z : Int32 × WW} (hk : f_X8_number w l1 l2 = some z) : Cn 2 yX8_number cX8_number 5 (some .boolean) LAY [.ref 46, .int l1, .int l2] w (some (.int z.1)) z.2 := by
  refine Cn.of (by decide +kernel) (Nat.le_of_ble_eq_true rfl) (fun G h => ?_)
  have h : Rules cX8_number RX8 "number" 5 (rmd 2 0 0) none _ _ LAY 0 0 G := h
  show G 0 [(0, .ref 46), (1, .int l1), (2, .int l2)] [] w
  unfold f_X8_number at hk
  have EJ69 : ∀ (w : WW) (l1 : Int32) (l2 : Int32) (l3 : Int32) (s0 : Int32) (z : (Int32 × Int32) ⊕ (Int32 × Int32)), f_X8_number_j69 w l1 l2 l3 s0 = some z → Sum.elim (fun s : Int32 × Int32 => G 9 [(0, .ref 46), (1, .int l1), (2, .int l2), (3, .int s.1), (4, .int s.2)] [] w) (fun r : Int32 × Int32 => G 77 [(0, .ref 46), (1, .int l1), (2, .int l2), (3, .int r.1), (4, .int r.2)] [] w) z → G 69 [(0, .ref 46), (1, .int l1), (2, .int l2), (3, .int l3)] [.int s0] w := by
    intro w l1 l2 l3 s0 z hk hz
    unfold f_X8_number_j69 at hk
    refine k_istore (pc := 69) h [1, 2, 3, 4, 0] (lv' := [(0, .ref 46), (1, .int l1), (2, .int l2), (3, .int l3), (4, .int s0)]) dX8_number_69 (by decide) rfl ?_
    refine k_iinc (pc := 71) h 3 [1, 2, 3, 0, 4] (v := (l3 + (1 : Int32))) (lv' := [(0, .ref 46), (1, .int l1), (2, .int l2), (3, .int (l3 + (1 : Int32))), (4, .int s0)]) dX8_number_71 rfl rfl (by decide) rfl ?_
    refine k_goto (tgt := 9) (pc := 74) h dX8_number_74 rfl ?_
    have hk := Option.some.inj hk
    subst hk
    exact hz
  have LB9 : ∀ (w : WW) (l1 : Int32) (l2 : Int32), ∀ (nn : Nat) (s : Int32 × Int32) (r : Int32 × Int32), lpf (fun s : Int32 × Int32 => f_X8_number_b9 w l1 l2 s.1 s.2) nn s = some r → (fun r : Int32 × Int32 => G 77 [(0, .ref 46), (1, .int l1), (2, .int l2), (3, .int r.1), (4, .int r.2)] [] w) r → (fun s : Int32 × Int32 => G 9 [(0, .ref 46), (1, .int l1), (2, .int l2), (3, .int s.1), (4, .int s.2)] [] w) s := by
    intro w l1 l2
    refine lpf_ind (fun s : Int32 × Int32 => G 9 [(0, .ref 46), (1, .int l1), (2, .int l2), (3, .int s.1), (4, .int s.2)] [] w) (fun r : Int32 × Int32 => G 77 [(0, .ref 46), (1, .int l1), (2, .int l2), (3, .int r.1), (4, .int r.2)] [] w) ?_
    rintro ⟨l3, l4⟩ z hk hz
    have hk : f_X8_number_b9 w l1 l2 l3 l4 = some z := hk
    unfold f_X8_number_b9 at hk
    show G 9 [(0, .ref 46), (1, .int l1), (2, .int l2), (3, .int l3), (4, .int l4)] [] w
    refine k_aload_n (pc := 9) h 0 dX8_number_9 rfl ?_
    refine k_geti (pc := 10) h fl_X8_109 ly_46 rfl dX8_number_10 ?_
    refine k_iload_n (pc := 13) h 3 dX8_number_13 rfl ?_
    refine k_iadd (pc := 14) h dX8_number_14 ?_
    refine k_aload_n (pc := 15) h 0 dX8_number_15 rfl ?_
    refine k_geti (pc := 16) h fl_X8_106 ly_46 rfl dX8_number_16 ?_
    refine k_icmp_ge (tgt := 77) (pc := 19) h dX8_number_19 rfl hk (fun hc hk => ?_) (fun hc hk => ?_)
    · have hk := Option.some.inj hk
      subst hk
      exact hz
    · refine k_aload_n (pc := 22) h 0 dX8_number_22 rfl ?_
      refine k_getr (pc := 23) h fl_X8_32 ly_46 rfl dX8_number_23 ?_
      refine k_aload_n (pc := 26) h 0 dX8_number_26 rfl ?_
      refine k_geti (pc := 27) h fl_X8_109 ly_46 rfl dX8_number_27 ?_
      refine k_iload_n (pc := 30) h 3 dX8_number_30 rfl ?_
      refine k_iadd (pc := 31) h dX8_number_31 ?_
      refine k_iald (pc := 32) h ly_53 dX8_number_32 hk (fun hk => ?_)
      obtain ⟨p4, hc3, hk⟩ := bd_some hk
      refine k_callS1 (pc := 33) h (c_X8_isFigure hc3) cw_X8_128 ⟨⟨by decide, by decide⟩, Nat.zero_le _, Nat.zero_le _⟩ rfl (Nat.le_of_ble_eq_true rfl) dX8_number_33 ?_
      refine k_if_eq (tgt := 77) (pc := 36) h dX8_number_36 rfl hk (fun hc hk => ?_) (fun hc hk => ?_)
      · have hk := Option.some.inj hk
        subst hk
        exact hz
      · refine k_iload_n (pc := 39) h 3 dX8_number_39 rfl ?_
        refine k_iconst (pc := 40) h (x := (2 : Int32)) dX8_number_40 (by decide) ?_
        refine k_icmp_ge (tgt := 67) (pc := 41) h dX8_number_41 rfl hk (fun hc hk => ?_) (fun hc hk => ?_)
        · refine k_iload (pc := 67) h 4 dX8_number_67 rfl ?_
          refine k_sub h [0, 1, 2, 3] (lv' := [(0, .ref 46), (1, .int l1), (2, .int l2), (3, .int l3)]) rfl ?_
          exact EJ69 _ _ _ _ _ _ hk hz
        · refine k_bipush (pc := 44) h (x := (10 : Int32)) dX8_number_44 (by decide) ?_
          refine k_iload (pc := 46) h 4 dX8_number_46 rfl ?_
          refine k_imul (pc := 48) h dX8_number_48 ?_
          refine k_aload_n (pc := 49) h 0 dX8_number_49 rfl ?_
          refine k_getr (pc := 50) h fl_X8_32 ly_46 rfl dX8_number_50 ?_
          refine k_aload_n (pc := 53) h 0 dX8_number_53 rfl ?_
          refine k_geti (pc := 54) h fl_X8_109 ly_46 rfl dX8_number_54 ?_
          refine k_iload_n (pc := 57) h 3 dX8_number_57 rfl ?_
          refine k_iadd (pc := 58) h dX8_number_58 ?_
          refine k_iald (pc := 59) h ly_53 dX8_number_59 hk (fun hk => ?_)
          refine k_iadd (pc := 60) h dX8_number_60 ?_
          refine k_bipush (pc := 61) h (x := (48 : Int32)) dX8_number_61 (by decide) ?_
          refine k_isub (pc := 63) h dX8_number_63 ?_
          refine k_goto (tgt := 69) (pc := 64) h dX8_number_64 rfl ?_
          refine k_sub h [0, 1, 2, 3] (lv' := [(0, .ref 46), (1, .int l1), (2, .int l2), (3, .int l3)]) rfl ?_
          exact EJ69 _ _ _ _ _ _ hk hz
  have EJ96 : ∀ (w : WW), f_X8_number_j96 w = some z → G 96 [] [] w := by
    intro w hk
    unfold f_X8_number_j96 at hk
    refine k_iconst (pc := 96) h (x := (0 : Int32)) dX8_number_96 (by decide) ?_
    have hk := Option.some.inj hk
    subst hk
    exact k_iret (pc := 97) h dX8_number_97 ⟨rfl, rfl, rfl, rfl, rfl, ⟨.boolean, rfl, rfl⟩⟩
  refine k_aload_n (pc := 0) h 0 dX8_number_0 rfl ?_
  obtain ⟨p2, hc1, hk⟩ := bd_some hk
  refine k_callV0 (pc := 1) h (c_X8_skip hc1) cw_X8_125 ly_46 rfl ⟨⟨by decide, by decide⟩, Nat.zero_le _, Nat.zero_le _⟩ rfl (Nat.le_of_ble_eq_true rfl) dX8_number_1 ?_
  refine k_iconst (pc := 4) h (x := (0 : Int32)) dX8_number_4 (by decide) ?_
  refine k_istore_n (pc := 5) h [1, 2, 3, 0] (lv' := [(0, .ref 46), (1, .int l1), (2, .int l2), (3, .int (0 : Int32))]) dX8_number_5 rfl (by decide) rfl ?_
  refine k_iconst (pc := 6) h (x := (0 : Int32)) dX8_number_6 (by decide) ?_
  refine k_istore (pc := 7) h [1, 2, 3, 4, 0] (lv' := [(0, .ref 46), (1, .int l1), (2, .int l2), (3, .int (0 : Int32)), (4, .int (0 : Int32))]) dX8_number_7 (by decide) rfl ?_
  obtain ⟨r5, hl6, hk⟩ := bd_some hk
  refine LB9 _ _ _ _ _ _ hl6 ?_
  show G 77 [(0, .ref 46), (1, .int l1), (2, .int l2), (3, .int r5.1), (4, .int r5.2)] [] p2
  refine k_iload_n (pc := 77) h 3 dX8_number_77 rfl ?_
  refine k_iconst (pc := 78) h (x := (1 : Int32)) dX8_number_78 (by decide) ?_
  refine k_iconst (pc := 79) h (x := (2 : Int32)) dX8_number_79 (by decide) ?_
  obtain ⟨p8, hc7, hk⟩ := bd_some hk
  refine k_callS1 (pc := 80) h (c_X8_in hc7) cw_X8_84 ⟨⟨by decide, by decide⟩, Nat.zero_le _, Nat.zero_le _⟩ rfl (Nat.le_of_ble_eq_true rfl) dX8_number_80 ?_
  refine k_if_eq (tgt := 96) (pc := 83) h dX8_number_83 rfl hk (fun hc hk => ?_) (fun hc hk => ?_)
  · refine k_sub h [] (lv' := []) rfl ?_
    exact EJ96 _ hk
  · refine k_iload (pc := 86) h 4 dX8_number_86 rfl ?_
    refine k_iload_n (pc := 88) h 1 dX8_number_88 rfl ?_
    refine k_iload_n (pc := 89) h 2 dX8_number_89 rfl ?_
    obtain ⟨p10, hc9, hk⟩ := bd_some hk
    refine k_callS1 (pc := 90) h (c_X8_in hc9) cw_X8_84 ⟨⟨by decide, by decide⟩, Nat.zero_le _, Nat.zero_le _⟩ rfl (Nat.le_of_ble_eq_true rfl) dX8_number_90 ?_
    refine k_if_ne (tgt := 98) (pc := 93) h dX8_number_93 rfl hk (fun hc hk => ?_) (fun hc hk => ?_)
    · refine k_aload_n (pc := 98) h 0 dX8_number_98 rfl ?_
      refine k_iload (pc := 99) h 4 dX8_number_99 rfl ?_
      refine k_puti (pc := 101) h fl_X8_131 ly_46 rfl dX8_number_101 hk (fun u11 hk => ?_)
      refine k_aload_n (pc := 104) h 0 dX8_number_104 rfl ?_
      refine k_dup (pc := 105) h dX8_number_105 rfl ?_
      refine k_geti (pc := 106) h fl_X8_109 ly_46 rfl dX8_number_106 ?_
      refine k_iload_n (pc := 109) h 3 dX8_number_109 rfl ?_
      refine k_iadd (pc := 110) h dX8_number_110 ?_
      refine k_puti (pc := 111) h fl_X8_109 ly_46 rfl dX8_number_111 hk (fun u12 hk => ?_)
      refine k_iconst (pc := 114) h (x := (1 : Int32)) dX8_number_114 (by decide) ?_
      have hk := Option.some.inj hk
      subst hk
      exact k_iret (pc := 115) h dX8_number_115 ⟨rfl, rfl, rfl, rfl, rfl, ⟨.boolean, rfl, rfl⟩⟩
    · refine k_sub h [] (lv' := []) rfl ?_
      exact EJ96 _ hk
def f_X8_of_j17 (w : WW) : Option (Int32 × WW) := (f_X8_bad w).bind (fun p4 => some (p4.1, p4.2))
def f_X8_of (w : WW) (l1 : Int32) (l2 : Int32) : Option (Int32 × WW) := (f_X8_isQuestion w l1).bind (fun p2 => if p2 = 0 then f_X8_of_j17 w else (f_X8_in w l2 (0 : Int32) (2 : Int32)).bind (fun p6 => if p6 = 0 then f_X8_of_j17 w else if l2 = 0 then gd (inb l1 7) (some ((w.1 49 (l1).toNatClampNeg), w)) else if l2 = (1 : Int32) then gd (inb l1 7) (some ((w.1 50 (l1).toNatClampNeg), w)) else gd (inb l1 7) (some ((w.1 51 (l1).toNatClampNeg), w))))
set_option maxRecDepth 20000 in
set_option maxHeartbeats 4000000 in
theorem c_X8_of {w : WW} {l1 : Int32} {l2 : Int32} {z : Int32 × WW} (hk : f_X8_of w l1 l2 = some z) : Cn 2 yX8_of cX8_of 3 (some .int) LAY [.ref 46, .int l1, .int l2] w (some (.int z.1)) z.2 := by
  refine Cn.of (by decide +kernel) (Nat.le_of_ble_eq_true rfl) (fun G h => ?_)
  have h : Rules cX8_of RX8 "of" 3 (rmd 2 0 0) none _ _ LAY 0 0 G := h
  show G 0 [(0, .ref 46), (1, .int l1), (2, .int l2)] [] w
  unfold f_X8_of at hk
  have EJ17 : ∀ (w : WW), f_X8_of_j17 w = some z → G 17 [(0, .ref 46)] [] w := by
    intro w hk
    unfold f_X8_of_j17 at hk
    refine k_aload_n (pc := 17) h 0 dX8_of_17 rfl ?_
    obtain ⟨p4, hc3, hk⟩ := bd_some hk
    refine k_callV1 (pc := 18) h (c_X8_bad hc3) cw_X8_88 ly_46 rfl ⟨⟨by decide, by decide⟩, Nat.zero_le _, Nat.zero_le _⟩ rfl (Nat.le_of_ble_eq_true rfl) dX8_of_18 ?_
    have hk := Option.some.inj hk
    subst hk
    exact k_iret (pc := 21) h dX8_of_21 ⟨rfl, rfl, rfl, rfl, rfl, ⟨.int, rfl, rfl⟩⟩
  refine k_aload_n (pc := 0) h 0 dX8_of_0 rfl ?_
  refine k_iload_n (pc := 1) h 1 dX8_of_1 rfl ?_
  obtain ⟨p2, hc1, hk⟩ := bd_some hk
  refine k_callV1 (pc := 2) h (c_X8_isQuestion hc1) cw_X8_103 ly_46 rfl ⟨⟨by decide, by decide⟩, Nat.zero_le _, Nat.zero_le _⟩ rfl (Nat.le_of_ble_eq_true rfl) dX8_of_2 ?_
  refine k_if_eq (tgt := 17) (pc := 5) h dX8_of_5 rfl hk (fun hc hk => ?_) (fun hc hk => ?_)
  · refine k_sub h [0] (lv' := [(0, .ref 46)]) rfl ?_
    exact EJ17 _ hk
  · refine k_iload_n (pc := 8) h 2 dX8_of_8 rfl ?_
    refine k_iconst (pc := 9) h (x := (0 : Int32)) dX8_of_9 (by decide) ?_
    refine k_iconst (pc := 10) h (x := (2 : Int32)) dX8_of_10 (by decide) ?_
    obtain ⟨p6, hc5, hk⟩ := bd_some hk
    refine k_callS1 (pc := 11) h (c_X8_in hc5) cw_X8_84 ⟨⟨by decide, by decide⟩, Nat.zero_le _, Nat.zero_le _⟩ rfl (Nat.le_of_ble_eq_true rfl) dX8_of_11 ?_
    refine k_if_ne (tgt := 22) (pc := 14) h dX8_of_14 rfl hk (fun hc hk => ?_) (fun hc hk => ?_)
    · refine k_iload_n (pc := 22) h 2 dX8_of_22 rfl ?_
      refine k_if_ne (tgt := 35) (pc := 23) h dX8_of_23 rfl hk (fun hc hk => ?_) (fun hc hk => ?_)
      · refine k_iload_n (pc := 35) h 2 dX8_of_35 rfl ?_
        refine k_iconst (pc := 36) h (x := (1 : Int32)) dX8_of_36 (by decide) ?_
        refine k_icmp_ne (tgt := 49) (pc := 37) h dX8_of_37 rfl hk (fun hc hk => ?_) (fun hc hk => ?_)
        · refine k_aload_n (pc := 49) h 0 dX8_of_49 rfl ?_
          refine k_getr (pc := 50) h fl_X8_26 ly_46 rfl dX8_of_50 ?_
          refine k_iload_n (pc := 53) h 1 dX8_of_53 rfl ?_
          refine k_iald (pc := 54) h ly_51 dX8_of_54 hk (fun hk => ?_)
          have hk := Option.some.inj hk
          subst hk
          exact k_iret (pc := 55) h dX8_of_55 ⟨rfl, rfl, rfl, rfl, rfl, ⟨.int, rfl, rfl⟩⟩
        · refine k_aload_n (pc := 40) h 0 dX8_of_40 rfl ?_
          refine k_getr (pc := 41) h fl_X8_23 ly_46 rfl dX8_of_41 ?_
          refine k_iload_n (pc := 44) h 1 dX8_of_44 rfl ?_
          refine k_iald (pc := 45) h ly_50 dX8_of_45 hk (fun hk => ?_)
          refine k_goto (tgt := 55) (pc := 46) h dX8_of_46 rfl ?_
          have hk := Option.some.inj hk
          subst hk
          exact k_iret (pc := 55) h dX8_of_55 ⟨rfl, rfl, rfl, rfl, rfl, ⟨.int, rfl, rfl⟩⟩
      · refine k_aload_n (pc := 26) h 0 dX8_of_26 rfl ?_
        refine k_getr (pc := 27) h fl_X8_20 ly_46 rfl dX8_of_27 ?_
        refine k_iload_n (pc := 30) h 1 dX8_of_30 rfl ?_
        refine k_iald (pc := 31) h ly_49 dX8_of_31 hk (fun hk => ?_)
        refine k_goto (tgt := 55) (pc := 32) h dX8_of_32 rfl ?_
        have hk := Option.some.inj hk
        subst hk
        exact k_iret (pc := 55) h dX8_of_55 ⟨rfl, rfl, rfl, rfl, rfl, ⟨.int, rfl, rfl⟩⟩
    · refine k_sub h [0] (lv' := [(0, .ref 46)]) rfl ?_
      exact EJ17 _ hk
def f_X8_oneWrong_j60 (w : WW) (l1 : Int32) (l2 : Int32) (l4 : Int32) (s0 : Int32) (s1 : Int32) : Option ((Int32 × Int32) ⊕ (Int32)) := nmv (s1 + s0) (fun v3 => some (.inl (v3, (l4 + (1 : Int32)))))
def f_X8_oneWrong_b17 (w : WW) (l1 : Int32) (l2 : Int32) (l3 : Int32) (l4 : Int32) : Option ((Int32 × Int32) ⊕ (Int32)) := if (w.1 46 3) ≤ l4 then some (.inr l3) else gd (inb ((2 : Int32) * l4) 16) ((f_X8_answerOf w (w.1 52 (((2 : Int32) * l4)).toNatClampNeg) l2).bind (fun p2 => gd (inb (((2 : Int32) * l4) + (1 : Int32)) 16) (if p2 = (w.1 52 ((((2 : Int32) * l4) + (1 : Int32))).toNatClampNeg) then f_X8_oneWrong_j60 w l1 l2 l4 (0 : Int32) l3 else f_X8_oneWrong_j60 w l1 l2 l4 (1 : Int32) l3)))
def f_X8_oneWrong_j81 (w : WW) (l2 : Int32) (s0 : Int32) (s1 : Int32) : Option ((Int32 × Int32) ⊕ (Int32)) := nmv (s1 ||| s0) (fun v6 => some (.inl (v6, (l2 + (1 : Int32)))))
def f_X8_oneWrong_b4 (w : WW) (l1 : Int32) (l2 : Int32) : Option ((Int32 × Int32) ⊕ (Int32)) := if (w.1 46 1) ≤ l2 then some (.inr l1) else (lpf (fun s : Int32 × Int32 => f_X8_oneWrong_b17 w l1 l2 s.1 s.2) FU ((0 : Int32), (0 : Int32))).bind (fun r4 => if (2 : Int32) ≤ r4 then f_X8_oneWrong_j81 w l2 (0 : Int32) l1 else f_X8_oneWrong_j81 w l2 (shl32 (1 : Int32) l2) l1)
def f_X8_oneWrong (w : WW) : Option (Int32) := (lpf (fun s : Int32 × Int32 => f_X8_oneWrong_b4 w s.1 s.2) FU ((0 : Int32), (0 : Int32))).bind (fun r7 => some (r7))
set_option maxRecDepth 20000 in
set_option maxHeartbeats 4000000 in
theorem c_X8_oneWrong {w : WW} {z : Int32} (hk : f_X8_oneWrong w = some z) : Cn 2 yX8_oneWrong cX8_oneWrong 5 (some .int) LAY [.ref 46] w (some (.int z)) w := by
  refine Cn.of (by decide +kernel) (Nat.le_of_ble_eq_true rfl) (fun G h => ?_)
  have h : Rules cX8_oneWrong RX8 "oneWrong" 5 (rmd 2 0 0) none _ _ LAY 0 0 G := h
  show G 0 [(0, .ref 46)] [] w
  unfold f_X8_oneWrong at hk
  have EJ60 : ∀ (l1 : Int32) (l2 : Int32) (l4 : Int32) (s0 : Int32) (s1 : Int32) (z : (Int32 × Int32) ⊕ (Int32)), f_X8_oneWrong_j60 w l1 l2 l4 s0 s1 = some z → Sum.elim (fun s : Int32 × Int32 => G 17 [(0, .ref 46), (1, .int l1), (2, .int l2), (3, .int s.1), (4, .int s.2)] [] w) (fun r : Int32 => G 68 [(0, .ref 46), (1, .int l1), (2, .int l2), (3, .int r)] [] w) z → G 60 [(0, .ref 46), (1, .int l1), (2, .int l2), (4, .int l4)] [.int s0, .int s1] w := by
    intro l1 l2 l4 s0 s1 z hk hz
    unfold f_X8_oneWrong_j60 at hk
    refine k_iadd (pc := 60) h dX8_oneWrong_60 ?_
    refine k_nmi (pc := 61) h hk (fun v3 hk => ?_)
    refine k_istore_n (pc := 61) h [1, 2, 3, 0, 4] (lv' := [(0, .ref 46), (1, .int l1), (2, .int l2), (3, .int v3), (4, .int l4)]) dX8_oneWrong_61 rfl (by decide) rfl ?_
    refine k_iinc (pc := 62) h 4 [1, 2, 3, 4, 0] (v := (l4 + (1 : Int32))) (lv' := [(0, .ref 46), (1, .int l1), (2, .int l2), (3, .int v3), (4, .int (l4 + (1 : Int32)))]) dX8_oneWrong_62 rfl rfl (by decide) rfl ?_
    refine k_goto (tgt := 17) (pc := 65) h dX8_oneWrong_65 rfl ?_
    have hk := Option.some.inj hk
    subst hk
    exact hz
  have LB17 : ∀ (l1 : Int32) (l2 : Int32), ∀ (nn : Nat) (s : Int32 × Int32) (r : Int32), lpf (fun s : Int32 × Int32 => f_X8_oneWrong_b17 w l1 l2 s.1 s.2) nn s = some r → (fun r : Int32 => G 68 [(0, .ref 46), (1, .int l1), (2, .int l2), (3, .int r)] [] w) r → (fun s : Int32 × Int32 => G 17 [(0, .ref 46), (1, .int l1), (2, .int l2), (3, .int s.1), (4, .int s.2)] [] w) s := by
    intro l1 l2
    refine lpf_ind (fun s : Int32 × Int32 => G 17 [(0, .ref 46), (1, .int l1), (2, .int l2), (3, .int s.1), (4, .int s.2)] [] w) (fun r : Int32 => G 68 [(0, .ref 46), (1, .int l1), (2, .int l2), (3, .int r)] [] w) ?_
    rintro ⟨l3, l4⟩ z hk hz
    have hk : f_X8_oneWrong_b17 w l1 l2 l3 l4 = some z := hk
    unfold f_X8_oneWrong_b17 at hk
    show G 17 [(0, .ref 46), (1, .int l1), (2, .int l2), (3, .int l3), (4, .int l4)] [] w
    refine k_iload (pc := 17) h 4 dX8_oneWrong_17 rfl ?_
    refine k_aload_n (pc := 19) h 0 dX8_oneWrong_19 rfl ?_
    refine k_geti (pc := 20) h fl_X8_78 ly_46 rfl dX8_oneWrong_20 ?_
    refine k_icmp_ge (tgt := 68) (pc := 23) h dX8_oneWrong_23 rfl hk (fun hc hk => ?_) (fun hc hk => ?_)
    · refine k_sub h [0, 1, 2, 3] (lv' := [(0, .ref 46), (1, .int l1), (2, .int l2), (3, .int l3)]) rfl ?_
      have hk := Option.some.inj hk
      subst hk
      exact hz
    · refine k_iload_n (pc := 26) h 3 dX8_oneWrong_26 rfl ?_
      refine k_aload_n (pc := 27) h 0 dX8_oneWrong_27 rfl ?_
      refine k_aload_n (pc := 28) h 0 dX8_oneWrong_28 rfl ?_
      refine k_getr (pc := 29) h fl_X8_29 ly_46 rfl dX8_oneWrong_29 ?_
      refine k_iconst (pc := 32) h (x := (2 : Int32)) dX8_oneWrong_32 (by decide) ?_
      refine k_iload (pc := 33) h 4 dX8_oneWrong_33 rfl ?_
      refine k_imul (pc := 35) h dX8_oneWrong_35 ?_
      refine k_iald (pc := 36) h ly_52 dX8_oneWrong_36 hk (fun hk => ?_)
      refine k_iload_n (pc := 37) h 2 dX8_oneWrong_37 rfl ?_
      obtain ⟨p2, hc1, hk⟩ := bd_some hk
      refine k_callV1 (pc := 38) h (c_X8_answerOf hc1) cw_X8_169 ly_46 rfl ⟨⟨by decide, by decide⟩, Nat.zero_le _, Nat.zero_le _⟩ rfl (Nat.le_of_ble_eq_true rfl) dX8_oneWrong_38 ?_
      refine k_aload_n (pc := 41) h 0 dX8_oneWrong_41 rfl ?_
      refine k_getr (pc := 42) h fl_X8_29 ly_46 rfl dX8_oneWrong_42 ?_
      refine k_iconst (pc := 45) h (x := (2 : Int32)) dX8_oneWrong_45 (by decide) ?_
      refine k_iload (pc := 46) h 4 dX8_oneWrong_46 rfl ?_
      refine k_imul (pc := 48) h dX8_oneWrong_48 ?_
      refine k_iconst (pc := 49) h (x := (1 : Int32)) dX8_oneWrong_49 (by decide) ?_
      refine k_iadd (pc := 50) h dX8_oneWrong_50 ?_
      refine k_iald (pc := 51) h ly_52 dX8_oneWrong_51 hk (fun hk => ?_)
      refine k_icmp_ne (tgt := 59) (pc := 52) h dX8_oneWrong_52 rfl hk (fun hc hk => ?_) (fun hc hk => ?_)
      · refine k_iconst (pc := 59) h (x := (1 : Int32)) dX8_oneWrong_59 (by decide) ?_
        refine k_sub h [0, 1, 2, 4] (lv' := [(0, .ref 46), (1, .int l1), (2, .int l2), (4, .int l4)]) rfl ?_
        exact EJ60 _ _ _ _ _ _ hk hz
      · refine k_iconst (pc := 55) h (x := (0 : Int32)) dX8_oneWrong_55 (by decide) ?_
        refine k_goto (tgt := 60) (pc := 56) h dX8_oneWrong_56 rfl ?_
        refine k_sub h [0, 1, 2, 4] (lv' := [(0, .ref 46), (1, .int l1), (2, .int l2), (4, .int l4)]) rfl ?_
        exact EJ60 _ _ _ _ _ _ hk hz
  have EJ81 : ∀ (l2 : Int32) (s0 : Int32) (s1 : Int32) (z : (Int32 × Int32) ⊕ (Int32)), f_X8_oneWrong_j81 w l2 s0 s1 = some z → Sum.elim (fun s : Int32 × Int32 => G 4 [(0, .ref 46), (1, .int s.1), (2, .int s.2)] [] w) (fun r : Int32 => G 89 [(1, .int r)] [] w) z → G 81 [(0, .ref 46), (2, .int l2)] [.int s0, .int s1] w := by
    intro l2 s0 s1 z hk hz
    unfold f_X8_oneWrong_j81 at hk
    refine k_ior (pc := 81) h dX8_oneWrong_81 ?_
    refine k_nmi (pc := 82) h hk (fun v6 hk => ?_)
    refine k_istore_n (pc := 82) h [1, 0, 2] (lv' := [(0, .ref 46), (1, .int v6), (2, .int l2)]) dX8_oneWrong_82 rfl (by decide) rfl ?_
    refine k_iinc (pc := 83) h 2 [1, 2, 0] (v := (l2 + (1 : Int32))) (lv' := [(0, .ref 46), (1, .int v6), (2, .int (l2 + (1 : Int32)))]) dX8_oneWrong_83 rfl rfl (by decide) rfl ?_
    refine k_goto (tgt := 4) (pc := 86) h dX8_oneWrong_86 rfl ?_
    have hk := Option.some.inj hk
    subst hk
    exact hz
  have LB4 : ∀ (nn : Nat) (s : Int32 × Int32) (r : Int32), lpf (fun s : Int32 × Int32 => f_X8_oneWrong_b4 w s.1 s.2) nn s = some r → (fun r : Int32 => G 89 [(1, .int r)] [] w) r → (fun s : Int32 × Int32 => G 4 [(0, .ref 46), (1, .int s.1), (2, .int s.2)] [] w) s := by
    refine lpf_ind (fun s : Int32 × Int32 => G 4 [(0, .ref 46), (1, .int s.1), (2, .int s.2)] [] w) (fun r : Int32 => G 89 [(1, .int r)] [] w) ?_
    rintro ⟨l1, l2⟩ z hk hz
    have hk : f_X8_oneWrong_b4 w l1 l2 = some z := hk
    unfold f_X8_oneWrong_b4 at hk
    show G 4 [(0, .ref 46), (1, .int l1), (2, .int l2)] [] w
    refine k_iload_n (pc := 4) h 2 dX8_oneWrong_4 rfl ?_
    refine k_aload_n (pc := 5) h 0 dX8_oneWrong_5 rfl ?_
    refine k_geti (pc := 6) h fl_X8_13 ly_46 rfl dX8_oneWrong_6 ?_
    refine k_icmp_ge (tgt := 89) (pc := 9) h dX8_oneWrong_9 rfl hk (fun hc hk => ?_) (fun hc hk => ?_)
    · refine k_sub h [1] (lv' := [(1, .int l1)]) rfl ?_
      have hk := Option.some.inj hk
      subst hk
      exact hz
    · refine k_iconst (pc := 12) h (x := (0 : Int32)) dX8_oneWrong_12 (by decide) ?_
      refine k_istore_n (pc := 13) h [1, 2, 3, 0] (lv' := [(0, .ref 46), (1, .int l1), (2, .int l2), (3, .int (0 : Int32))]) dX8_oneWrong_13 rfl (by decide) rfl ?_
      refine k_iconst (pc := 14) h (x := (0 : Int32)) dX8_oneWrong_14 (by decide) ?_
      refine k_istore (pc := 15) h [1, 2, 3, 4, 0] (lv' := [(0, .ref 46), (1, .int l1), (2, .int l2), (3, .int (0 : Int32)), (4, .int (0 : Int32))]) dX8_oneWrong_15 (by decide) rfl ?_
      obtain ⟨r4, hl5, hk⟩ := bd_some hk
      refine LB17 _ _ _ _ _ hl5 ?_
      show G 68 [(0, .ref 46), (1, .int l1), (2, .int l2), (3, .int r4)] [] w
      refine k_iload_n (pc := 68) h 1 dX8_oneWrong_68 rfl ?_
      refine k_iload_n (pc := 69) h 3 dX8_oneWrong_69 rfl ?_
      refine k_iconst (pc := 70) h (x := (2 : Int32)) dX8_oneWrong_70 (by decide) ?_
      refine k_icmp_ge (tgt := 80) (pc := 71) h dX8_oneWrong_71 rfl hk (fun hc hk => ?_) (fun hc hk => ?_)
      · refine k_iconst (pc := 80) h (x := (0 : Int32)) dX8_oneWrong_80 (by decide) ?_
        refine k_sub h [0, 2] (lv' := [(0, .ref 46), (2, .int l2)]) rfl ?_
        exact EJ81 _ _ _ _ hk hz
      · refine k_iconst (pc := 74) h (x := (1 : Int32)) dX8_oneWrong_74 (by decide) ?_
        refine k_iload_n (pc := 75) h 2 dX8_oneWrong_75 rfl ?_
        refine k_ishl (pc := 76) h dX8_oneWrong_76 ?_
        refine k_goto (tgt := 81) (pc := 77) h dX8_oneWrong_77 rfl ?_
        refine k_sub h [0, 2] (lv' := [(0, .ref 46), (2, .int l2)]) rfl ?_
        exact EJ81 _ _ _ _ hk hz
  refine k_iconst (pc := 0) h (x := (0 : Int32)) dX8_oneWrong_0 (by decide) ?_
  refine k_istore_n (pc := 1) h [1, 0] (lv' := [(0, .ref 46), (1, .int (0 : Int32))]) dX8_oneWrong_1 rfl (by decide) rfl ?_
  refine k_iconst (pc := 2) h (x := (0 : Int32)) dX8_oneWrong_2 (by decide) ?_
  refine k_istore_n (pc := 3) h [1, 2, 0] (lv' := [(0, .ref 46), (1, .int (0 : Int32)), (2, .int (0 : Int32))]) dX8_oneWrong_3 rfl (by decide) rfl ?_
  obtain ⟨r7, hl8, hk⟩ := bd_some hk
  refine LB4 _ _ _ hl8 ?_
  show G 89 [(1, .int r7)] [] w
  refine k_iload_n (pc := 89) h 0 dX8_oneWrong_89 rfl ?_
  have hk := Option.some.inj hk
  subst hk
  exact k_iret (pc := 90) h dX8_oneWrong_90 ⟨rfl, rfl, rfl, rfl, rfl, ⟨.int, rfl, rfl⟩⟩

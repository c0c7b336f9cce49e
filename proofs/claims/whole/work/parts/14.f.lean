def f_X8_parts (w : WW) (l1 : Int32) (l2 : Int32) (l3 : Int32) : Option (Int32) := (f_X8_answerOf w l1 l2).bind (fun p2 => (f_X8_answerOf w l1 l3).bind (fun p4 => if p2 = p4 then some ((0 : Int32)) else some ((1 : Int32))))
set_option maxRecDepth 20000 in
set_option maxHeartbeats 4000000 in
theorem c_X8_parts {w : WW} {l1 : Int32} {l2 : Int32} {l3 : Int32} {z : Int32} (hk : f_X8_parts w l1 l2 l3 = some z) : Cn 2 yX8_parts cX8_parts 4 (some .boolean) LAY [.ref 46, .int l1, .int l2, .int l3] w (some (.int z)) w := by
  refine Cn.of (by decide +kernel) (Nat.le_of_ble_eq_true rfl) (fun G h => ?_)
  have h : Rules cX8_parts RX8 "parts" 4 (rmd 2 0 0) none _ _ LAY 0 0 G := h
  show G 0 [(0, .ref 46), (1, .int l1), (2, .int l2), (3, .int l3)] [] w
  unfold f_X8_parts at hk
  refine k_aload_n (pc := 0) h 0 dX8_parts_0 rfl ?_
  refine k_iload_n (pc := 1) h 1 dX8_parts_1 rfl ?_
  refine k_iload_n (pc := 2) h 2 dX8_parts_2 rfl ?_
  obtain ⟨p2, hc1, hk⟩ := bd_some hk
  refine k_callV1 (pc := 3) h (c_X8_answerOf hc1) cw_X8_169 ly_46 rfl ⟨⟨by decide, by decide⟩, Nat.zero_le _, Nat.zero_le _⟩ rfl (Nat.le_of_ble_eq_true rfl) dX8_parts_3 ?_
  refine k_aload_n (pc := 6) h 0 dX8_parts_6 rfl ?_
  refine k_iload_n (pc := 7) h 1 dX8_parts_7 rfl ?_
  refine k_iload_n (pc := 8) h 3 dX8_parts_8 rfl ?_
  obtain ⟨p4, hc3, hk⟩ := bd_some hk
  refine k_callV1 (pc := 9) h (c_X8_answerOf hc3) cw_X8_169 ly_46 rfl ⟨⟨by decide, by decide⟩, Nat.zero_le _, Nat.zero_le _⟩ rfl (Nat.le_of_ble_eq_true rfl) dX8_parts_9 ?_
  refine k_icmp_eq (tgt := 19) (pc := 12) h dX8_parts_12 rfl hk (fun hc hk => ?_) (fun hc hk => ?_)
  · refine k_iconst (pc := 19) h (x := (0 : Int32)) dX8_parts_19 (by decide) ?_
    have hk := Option.some.inj hk
    subst hk
    exact k_iret (pc := 20) h dX8_parts_20 ⟨rfl, rfl, rfl, rfl, rfl, ⟨.boolean, rfl, rfl⟩⟩
  · refine k_iconst (pc := 15) h (x := (1 : Int32)) dX8_parts_15 (by decide) ?_
    refine k_goto (tgt := 20) (pc := 16) h dX8_parts_16 rfl ?_
    have hk := Option.some.inj hk
    subst hk
    exact k_iret (pc := 20) h dX8_parts_20 ⟨rfl, rfl, rfl, rfl, rfl, ⟨.boolean, rfl, rfl⟩⟩
def f_X8_price_j18 (w : WW) : Option (Int32 × WW) := (f_X8_bad w).bind (fun p4 => some (p4.1, p4.2))
def f_X8_price (w : WW) (l1 : Int32) (l2 : Int32) : Option (Int32 × WW) := (f_X8_isQuestion w l1).bind (fun p2 => if p2 = 0 then f_X8_price_j18 w else (f_X8_in w l2 (0 : Int32) (99 : Int32)).bind (fun p6 => if p6 = 0 then f_X8_price_j18 w else gd (inb l1 7) (nmv (w.1 51 (l1).toNatClampNeg) (fun v7 => gd (inb l1 7) (stI w 51 (l1).toNatClampNeg l2 (fun u8 => some (v7, u8)))))))
set_option maxRecDepth 20000 in
set_option maxHeartbeats 4000000 in
theorem c_X8_price {w : WW} {l1 : Int32} {l2 : Int32} {z : Int32 × WW} (hk : f_X8_price w l1 l2 = some z) : Cn 2 yX8_price cX8_price 4 (some .int) LAY [.ref 46, .int l1, .int l2] w (some (.int z.1)) z.2 := by
  refine Cn.of (by decide +kernel) (Nat.le_of_ble_eq_true rfl) (fun G h => ?_)
  have h : Rules cX8_price RX8 "price" 4 (rmd 2 0 0) none _ _ LAY 0 0 G := h
  show G 0 [(0, .ref 46), (1, .int l1), (2, .int l2)] [] w
  unfold f_X8_price at hk
  have EJ18 : ∀ (w : WW), f_X8_price_j18 w = some z → G 18 [(0, .ref 46)] [] w := by
    intro w hk
    unfold f_X8_price_j18 at hk
    refine k_aload_n (pc := 18) h 0 dX8_price_18 rfl ?_
    obtain ⟨p4, hc3, hk⟩ := bd_some hk
    refine k_callV1 (pc := 19) h (c_X8_bad hc3) cw_X8_88 ly_46 rfl ⟨⟨by decide, by decide⟩, Nat.zero_le _, Nat.zero_le _⟩ rfl (Nat.le_of_ble_eq_true rfl) dX8_price_19 ?_
    have hk := Option.some.inj hk
    subst hk
    exact k_iret (pc := 22) h dX8_price_22 ⟨rfl, rfl, rfl, rfl, rfl, ⟨.int, rfl, rfl⟩⟩
  refine k_aload_n (pc := 0) h 0 dX8_price_0 rfl ?_
  refine k_iload_n (pc := 1) h 1 dX8_price_1 rfl ?_
  obtain ⟨p2, hc1, hk⟩ := bd_some hk
  refine k_callV1 (pc := 2) h (c_X8_isQuestion hc1) cw_X8_103 ly_46 rfl ⟨⟨by decide, by decide⟩, Nat.zero_le _, Nat.zero_le _⟩ rfl (Nat.le_of_ble_eq_true rfl) dX8_price_2 ?_
  refine k_if_eq (tgt := 18) (pc := 5) h dX8_price_5 rfl hk (fun hc hk => ?_) (fun hc hk => ?_)
  · refine k_sub h [0] (lv' := [(0, .ref 46)]) rfl ?_
    exact EJ18 _ hk
  · refine k_iload_n (pc := 8) h 2 dX8_price_8 rfl ?_
    refine k_iconst (pc := 9) h (x := (0 : Int32)) dX8_price_9 (by decide) ?_
    refine k_bipush (pc := 10) h (x := (99 : Int32)) dX8_price_10 (by decide) ?_
    obtain ⟨p6, hc5, hk⟩ := bd_some hk
    refine k_callS1 (pc := 12) h (c_X8_in hc5) cw_X8_84 ⟨⟨by decide, by decide⟩, Nat.zero_le _, Nat.zero_le _⟩ rfl (Nat.le_of_ble_eq_true rfl) dX8_price_12 ?_
    refine k_if_ne (tgt := 23) (pc := 15) h dX8_price_15 rfl hk (fun hc hk => ?_) (fun hc hk => ?_)
    · refine k_aload_n (pc := 23) h 0 dX8_price_23 rfl ?_
      refine k_getr (pc := 24) h fl_X8_26 ly_46 rfl dX8_price_24 ?_
      refine k_iload_n (pc := 27) h 1 dX8_price_27 rfl ?_
      refine k_iald (pc := 28) h ly_51 dX8_price_28 hk (fun hk => ?_)
      refine k_nmi (pc := 29) h hk (fun v7 hk => ?_)
      refine k_istore_n (pc := 29) h [1, 2, 3, 0] (lv' := [(0, .ref 46), (1, .int l1), (2, .int l2), (3, .int v7)]) dX8_price_29 rfl (by decide) rfl ?_
      refine k_aload_n (pc := 30) h 0 dX8_price_30 rfl ?_
      refine k_getr (pc := 31) h fl_X8_26 ly_46 rfl dX8_price_31 ?_
      refine k_iload_n (pc := 34) h 1 dX8_price_34 rfl ?_
      refine k_iload_n (pc := 35) h 2 dX8_price_35 rfl ?_
      refine k_iast (pc := 36) h ly_51 dX8_price_36 hk (fun u8 hk => ?_)
      refine k_iload_n (pc := 37) h 3 dX8_price_37 rfl ?_
      have hk := Option.some.inj hk
      subst hk
      exact k_iret (pc := 38) h dX8_price_38 ⟨rfl, rfl, rfl, rfl, rfl, ⟨.int, rfl, rfl⟩⟩
    · refine k_sub h [0] (lv' := [(0, .ref 46)]) rfl ?_
      exact EJ18 _ hk
def f_X8_weigh_j18 (w : WW) : Option (Int32 × WW) := (f_X8_bad w).bind (fun p4 => some (p4.1, p4.2))
def f_X8_weigh (w : WW) (l1 : Int32) (l2 : Int32) : Option (Int32 × WW) := (f_X8_isCase w l1).bind (fun p2 => if p2 = 0 then f_X8_weigh_j18 w else (f_X8_in w l2 (1 : Int32) (9 : Int32)).bind (fun p6 => if p6 = 0 then f_X8_weigh_j18 w else gd (inb l1 16) (nmv (w.1 48 (l1).toNatClampNeg) (fun v7 => gd (inb l1 16) (stI w 48 (l1).toNatClampNeg l2 (fun u8 => some (v7, u8)))))))
set_option maxRecDepth 20000 in
set_option maxHeartbeats 4000000 in
theorem c_X8_weigh {w : WW} {l1 : Int32} {l2 : Int32} {z : Int32 × WW} (hk : f_X8_weigh w l1 l2 = some z) : Cn 2 yX8_weigh cX8_weigh 4 (some .int) LAY [.ref 46, .int l1, .int l2] w (some (.int z.1)) z.2 := by
  refine Cn.of (by decide +kernel) (Nat.le_of_ble_eq_true rfl) (fun G h => ?_)
  have h : Rules cX8_weigh RX8 "weigh" 4 (rmd 2 0 0) none _ _ LAY 0 0 G := h
  show G 0 [(0, .ref 46), (1, .int l1), (2, .int l2)] [] w
  unfold f_X8_weigh at hk
  have EJ18 : ∀ (w : WW), f_X8_weigh_j18 w = some z → G 18 [(0, .ref 46)] [] w := by
    intro w hk
    unfold f_X8_weigh_j18 at hk
    refine k_aload_n (pc := 18) h 0 dX8_weigh_18 rfl ?_
    obtain ⟨p4, hc3, hk⟩ := bd_some hk
    refine k_callV1 (pc := 19) h (c_X8_bad hc3) cw_X8_88 ly_46 rfl ⟨⟨by decide, by decide⟩, Nat.zero_le _, Nat.zero_le _⟩ rfl (Nat.le_of_ble_eq_true rfl) dX8_weigh_19 ?_
    have hk := Option.some.inj hk
    subst hk
    exact k_iret (pc := 22) h dX8_weigh_22 ⟨rfl, rfl, rfl, rfl, rfl, ⟨.int, rfl, rfl⟩⟩
  refine k_aload_n (pc := 0) h 0 dX8_weigh_0 rfl ?_
  refine k_iload_n (pc := 1) h 1 dX8_weigh_1 rfl ?_
  obtain ⟨p2, hc1, hk⟩ := bd_some hk
  refine k_callV1 (pc := 2) h (c_X8_isCase hc1) cw_X8_92 ly_46 rfl ⟨⟨by decide, by decide⟩, Nat.zero_le _, Nat.zero_le _⟩ rfl (Nat.le_of_ble_eq_true rfl) dX8_weigh_2 ?_
  refine k_if_eq (tgt := 18) (pc := 5) h dX8_weigh_5 rfl hk (fun hc hk => ?_) (fun hc hk => ?_)
  · refine k_sub h [0] (lv' := [(0, .ref 46)]) rfl ?_
    exact EJ18 _ hk
  · refine k_iload_n (pc := 8) h 2 dX8_weigh_8 rfl ?_
    refine k_iconst (pc := 9) h (x := (1 : Int32)) dX8_weigh_9 (by decide) ?_
    refine k_bipush (pc := 10) h (x := (9 : Int32)) dX8_weigh_10 (by decide) ?_
    obtain ⟨p6, hc5, hk⟩ := bd_some hk
    refine k_callS1 (pc := 12) h (c_X8_in hc5) cw_X8_84 ⟨⟨by decide, by decide⟩, Nat.zero_le _, Nat.zero_le _⟩ rfl (Nat.le_of_ble_eq_true rfl) dX8_weigh_12 ?_
    refine k_if_ne (tgt := 23) (pc := 15) h dX8_weigh_15 rfl hk (fun hc hk => ?_) (fun hc hk => ?_)
    · refine k_aload_n (pc := 23) h 0 dX8_weigh_23 rfl ?_
      refine k_getr (pc := 24) h fl_X8_17 ly_46 rfl dX8_weigh_24 ?_
      refine k_iload_n (pc := 27) h 1 dX8_weigh_27 rfl ?_
      refine k_iald (pc := 28) h ly_48 dX8_weigh_28 hk (fun hk => ?_)
      refine k_nmi (pc := 29) h hk (fun v7 hk => ?_)
      refine k_istore_n (pc := 29) h [1, 2, 3, 0] (lv' := [(0, .ref 46), (1, .int l1), (2, .int l2), (3, .int v7)]) dX8_weigh_29 rfl (by decide) rfl ?_
      refine k_aload_n (pc := 30) h 0 dX8_weigh_30 rfl ?_
      refine k_getr (pc := 31) h fl_X8_17 ly_46 rfl dX8_weigh_31 ?_
      refine k_iload_n (pc := 34) h 1 dX8_weigh_34 rfl ?_
      refine k_iload_n (pc := 35) h 2 dX8_weigh_35 rfl ?_
      refine k_iast (pc := 36) h ly_48 dX8_weigh_36 hk (fun u8 hk => ?_)
      refine k_iload_n (pc := 37) h 3 dX8_weigh_37 rfl ?_
      have hk := Option.some.inj hk
      subst hk
      exact k_iret (pc := 38) h dX8_weigh_38 ⟨rfl, rfl, rfl, rfl, rfl, ⟨.int, rfl, rfl⟩⟩
    · refine k_sub h [0] (lv' := [(0, .ref 46)]) rfl ?_
      exact EJ18 _ hk
def f_X8_wordSize_b2 (w : WW) (l1 : Int32) : Option ((Int32) ⊕ (Int32)) := if (w.1 46 10) ≤ ((w.1 46 11) + l1) then some (.inr l1) else gd (inb ((w.1 46 11) + l1) 150) ((f_X8_isLetter w (w.1 53 (((w.1 46 11) + l1)).toNatClampNeg)).bind (fun p2 => if p2 = 0 then some (.inr l1) else some (.inl (l1 + (1 : Int32)))))
def f_X8_wordSize (w : WW) : Option (Int32) := (lpf (fun s : Int32 => f_X8_wordSize_b2 w s) FU (0 : Int32)).bind (fun r3 => some (r3))
set_option maxRecDepth 20000 in
set_option maxHeartbeats 4000000 in
theorem c_X8_wordSize {w : WW} {z : Int32} (hk : f_X8_wordSize w = some z) : Cn 2 yX8_wordSize cX8_wordSize 2 (some .int) LAY [.ref 46] w (some (.int z)) w := by
  refine Cn.of (by decide +kernel) (Nat.le_of_ble_eq_true rfl) (fun G h => ?_)
  have h : Rules cX8_wordSize RX8 "wordSize" 2 (rmd 2 0 0) none _ _ LAY 0 0 G := h
  show G 0 [(0, .ref 46)] [] w
  unfold f_X8_wordSize at hk
  have LB2 : ∀ (nn : Nat) (s : Int32) (r : Int32), lpf (fun s : Int32 => f_X8_wordSize_b2 w s) nn s = some r → (fun r : Int32 => G 38 [(1, .int r)] [] w) r → (fun s : Int32 => G 2 [(0, .ref 46), (1, .int s)] [] w) s := by
    refine lpf_ind (fun s : Int32 => G 2 [(0, .ref 46), (1, .int s)] [] w) (fun r : Int32 => G 38 [(1, .int r)] [] w) ?_
    rintro l1 z hk hz
    have hk : f_X8_wordSize_b2 w l1 = some z := hk
    unfold f_X8_wordSize_b2 at hk
    show G 2 [(0, .ref 46), (1, .int l1)] [] w
    refine k_aload_n (pc := 2) h 0 dX8_wordSize_2 rfl ?_
    refine k_geti (pc := 3) h fl_X8_109 ly_46 rfl dX8_wordSize_3 ?_
    refine k_iload_n (pc := 6) h 1 dX8_wordSize_6 rfl ?_
    refine k_iadd (pc := 7) h dX8_wordSize_7 ?_
    refine k_aload_n (pc := 8) h 0 dX8_wordSize_8 rfl ?_
    refine k_geti (pc := 9) h fl_X8_106 ly_46 rfl dX8_wordSize_9 ?_
    refine k_icmp_ge (tgt := 38) (pc := 12) h dX8_wordSize_12 rfl hk (fun hc hk => ?_) (fun hc hk => ?_)
    · refine k_sub h [1] (lv' := [(1, .int l1)]) rfl ?_
      have hk := Option.some.inj hk
      subst hk
      exact hz
    · refine k_aload_n (pc := 15) h 0 dX8_wordSize_15 rfl ?_
      refine k_getr (pc := 16) h fl_X8_32 ly_46 rfl dX8_wordSize_16 ?_
      refine k_aload_n (pc := 19) h 0 dX8_wordSize_19 rfl ?_
      refine k_geti (pc := 20) h fl_X8_109 ly_46 rfl dX8_wordSize_20 ?_
      refine k_iload_n (pc := 23) h 1 dX8_wordSize_23 rfl ?_
      refine k_iadd (pc := 24) h dX8_wordSize_24 ?_
      refine k_iald (pc := 25) h ly_53 dX8_wordSize_25 hk (fun hk => ?_)
      obtain ⟨p2, hc1, hk⟩ := bd_some hk
      refine k_callS1 (pc := 26) h (c_X8_isLetter hc1) cw_X8_115 ⟨⟨by decide, by decide⟩, Nat.zero_le _, Nat.zero_le _⟩ rfl (Nat.le_of_ble_eq_true rfl) dX8_wordSize_26 ?_
      refine k_if_eq (tgt := 38) (pc := 29) h dX8_wordSize_29 rfl hk (fun hc hk => ?_) (fun hc hk => ?_)
      · refine k_sub h [1] (lv' := [(1, .int l1)]) rfl ?_
        have hk := Option.some.inj hk
        subst hk
        exact hz
      · refine k_iinc (pc := 32) h 1 [1, 0] (v := (l1 + (1 : Int32))) (lv' := [(0, .ref 46), (1, .int (l1 + (1 : Int32)))]) dX8_wordSize_32 rfl rfl (by decide) rfl ?_
        refine k_goto (tgt := 2) (pc := 35) h dX8_wordSize_35 rfl ?_
        have hk := Option.some.inj hk
        subst hk
        exact hz
  refine k_iconst (pc := 0) h (x := (0 : Int32)) dX8_wordSize_0 (by decide) ?_
  refine k_istore_n (pc := 1) h [1, 0] (lv' := [(0, .ref 46), (1, .int (0 : Int32))]) dX8_wordSize_1 rfl (by decide) rfl ?_
  obtain ⟨r3, hl4, hk⟩ := bd_some hk
  refine LB2 _ _ _ hl4 ?_
  show G 38 [(1, .int r3)] [] w
  refine k_iload_n (pc := 38) h 0 dX8_wordSize_38 rfl ?_
  have hk := Option.some.inj hk
  subst hk
  exact k_iret (pc := 39) h dX8_wordSize_39 ⟨rfl, rfl, rfl, rfl, rfl, ⟨.int, rfl, rfl⟩⟩
def f_J1_charAt_3b067 (si : Nat) (w : WW) (l1 : Int32) : Option (Int32) := (f_J0_checkIndex_df160 w l1 (Int32.ofNat (jsL.getD si 0))).bind (fun p2 => gd (inb l1 (jsL.getD si 0)) (gd (narrow .char (.int ((((((jsB.getD si []).getD (l1).toNatClampNeg 0) &&& (255 : Int32))).toUInt32 % 65536).toInt32)) = Value.int ((((((jsB.getD si []).getD (l1).toNatClampNeg 0) &&& (255 : Int32))).toUInt32 % 65536).toInt32)) (some (((((((jsB.getD si []).getD (l1).toNatClampNeg 0) &&& (255 : Int32))).toUInt32 % 65536).toInt32)))))
set_option maxRecDepth 20000 in
set_option maxHeartbeats 4000000 in
theorem c_J1_charAt_3b067 {lay : List LyS} {si : Nat} (hsi : si < 3) {w : WW} {l1 : Int32} {z : Int32} (hk : f_J1_charAt_3b067 si w l1 = some z) : Cn 3 yJ1_charAt_3b067 cJ1_charAt_3b067 2 (some .char) lay [.ref (2000000 + si), .int l1] w (some (.int z)) w := by
  refine Cn.of (by decide +kernel) (Nat.le_of_ble_eq_true rfl) (fun G h => ?_)
  have h : Rules cJ1_charAt_3b067 RJ1 "charAt" 2 (rmd 3 0 0) none _ _ lay 0 0 G := h
  show G 0 [(0, .ref (2000000 + si)), (1, .int l1)] [] w
  unfold f_J1_charAt_3b067 at hk
  refine k_iload_n (pc := 0) h 1 dJ1_charAt_3b067_0 rfl ?_
  refine k_aload_n (pc := 1) h 0 dJ1_charAt_3b067_1 rfl ?_
  refine k_alenS (pc := 2) h hsi dJ1_charAt_3b067_2 ?_
  obtain ⟨p2, hc1, hk⟩ := bd_some hk
  refine k_callS0 (pc := 3) h (c_J0_checkIndex_df160 hc1) cw_J1_9 ⟨⟨by decide, by decide⟩, Nat.zero_le _, Nat.zero_le _⟩ rfl (Nat.le_of_ble_eq_true rfl) dJ1_charAt_3b067_3 ?_
  refine k_aload_n (pc := 6) h 0 dJ1_charAt_3b067_6 rfl ?_
  refine k_iload_n (pc := 7) h 1 dJ1_charAt_3b067_7 rfl ?_
  refine k_baldS (pc := 8) h hsi dJ1_charAt_3b067_8 hk (fun hk => ?_)
  refine k_sipush (pc := 9) h (x := (255 : Int32)) dJ1_charAt_3b067_9 (by decide) ?_
  refine k_iand (pc := 12) h dJ1_charAt_3b067_12 ?_
  refine k_i2c (pc := 13) h dJ1_charAt_3b067_13 ?_
  obtain ⟨hg, hk⟩ := gd_some hk
  have hk := Option.some.inj hk
  subst hk
  exact k_iret (pc := 14) h dJ1_charAt_3b067_14 ⟨rfl, rfl, rfl, rfl, rfl, ⟨.char, rfl, hg⟩⟩
def f_X2_settle_j44 (b : Nat) (w : WW) (l2 : Int32) (l3 : Int32) : Option (WW) := gd (inb ((l2 * (16 : Int32)) + l3) 2048) (stI w 41 (((l2 * (16 : Int32)) + l3)).toNatClampNeg (w.1 40 0) (fun u6 => gd (inb ((l2 * (16 : Int32)) + l3) 2048) (stI u6 42 (((l2 * (16 : Int32)) + l3)).toNatClampNeg (u6.1 40 2) (fun u7 => some u7))))
def f_X2_settle (b : Nat) (w : WW) (l2 : Int32) (l3 : Int32) (l4 : Int32) : Option (WW) := stI w 40 0 (-1 : Int32) (fun u1 => stI u1 40 1 (-1 : Int32) (fun u2 => stI u2 40 2 (-1 : Int32) (fun u3 => if l4 = (shl32 (1 : Int32) l3) then stI u3 40 0 (0 : Int32) (fun u8 => stI u8 40 2 (0 : Int32) (fun u9 => f_X2_settle_j44 b u9 l2 l3)) else (f_X2_chooseNext b u3 l2 l4).bind (fun p5 => f_X2_settle_j44 b p5 l2 l3))))
set_option maxRecDepth 20000 in
set_option maxHeartbeats 4000000 in
theorem c_X2_settle {b : Nat} (hb : StAt LAY b) {w : WW} {l2 : Int32} {l3 : Int32} {l4 : Int32} {z : WW} (hk : f_X2_settle b w l2 l3 l4 = some z) : Cn 3 yX2_settle cX2_settle 5 none LAY [.ref 40, .ref b, .int l2, .int l3, .int l4] w none z := by
  refine Cn.of (by decide +kernel) (Nat.le_of_ble_eq_true rfl) (fun G h => ?_)
  have h : Rules cX2_settle RX2 "settle" 5 (rmd 3 0 0) none _ _ LAY 0 0 G := h
  show G 0 [(0, .ref 40), (1, .ref b), (2, .int l2), (3, .int l3), (4, .int l4)] [] w
  unfold f_X2_settle at hk
  have EJ44 : ∀ (w : WW) (l2 : Int32) (l3 : Int32), f_X2_settle_j44 b w l2 l3 = some z → G 44 [(0, .ref 40), (2, .int l2), (3, .int l3)] [] w := by
    intro w l2 l3 hk
    unfold f_X2_settle_j44 at hk
    refine k_aload_n (pc := 44) h 0 dX2_settle_44 rfl ?_
    refine k_getr (pc := 45) h fl_X2_9 ly_40 rfl dX2_settle_45 ?_
    refine k_iload_n (pc := 48) h 1 dX2_settle_48 rfl ?_
    refine k_bipush (pc := 49) h (x := (16 : Int32)) dX2_settle_49 (by decide) ?_
    refine k_imul (pc := 51) h dX2_settle_51 ?_
    refine k_iload_n (pc := 52) h 2 dX2_settle_52 rfl ?_
    refine k_iadd (pc := 53) h dX2_settle_53 ?_
    refine k_aload_n (pc := 54) h 0 dX2_settle_54 rfl ?_
    refine k_geti (pc := 55) h fl_X2_18 ly_40 rfl dX2_settle_55 ?_
    refine k_iast (pc := 58) h ly_41 dX2_settle_58 hk (fun u6 hk => ?_)
    refine k_aload_n (pc := 59) h 0 dX2_settle_59 rfl ?_
    refine k_getr (pc := 60) h fl_X2_15 ly_40 rfl dX2_settle_60 ?_
    refine k_iload_n (pc := 63) h 1 dX2_settle_63 rfl ?_
    refine k_bipush (pc := 64) h (x := (16 : Int32)) dX2_settle_64 (by decide) ?_
    refine k_imul (pc := 66) h dX2_settle_66 ?_
    refine k_iload_n (pc := 67) h 2 dX2_settle_67 rfl ?_
    refine k_iadd (pc := 68) h dX2_settle_68 ?_
    refine k_aload_n (pc := 69) h 0 dX2_settle_69 rfl ?_
    refine k_geti (pc := 70) h fl_X2_25 ly_40 rfl dX2_settle_70 ?_
    refine k_iast (pc := 73) h ly_42 dX2_settle_73 hk (fun u7 hk => ?_)
    have hk := Option.some.inj hk
    subst hk
    exact k_vret (pc := 74) h dX2_settle_74 ⟨rfl, rfl, rfl, rfl, rfl, rfl⟩
  refine k_aload_n (pc := 0) h 0 dX2_settle_0 rfl ?_
  refine k_iconst (pc := 1) h (x := (-1 : Int32)) dX2_settle_1 (by decide) ?_
  refine k_puti (pc := 2) h fl_X2_18 ly_40 rfl dX2_settle_2 hk (fun u1 hk => ?_)
  refine k_aload_n (pc := 5) h 0 dX2_settle_5 rfl ?_
  refine k_iconst (pc := 6) h (x := (-1 : Int32)) dX2_settle_6 (by decide) ?_
  refine k_puti (pc := 7) h fl_X2_22 ly_40 rfl dX2_settle_7 hk (fun u2 hk => ?_)
  refine k_aload_n (pc := 10) h 0 dX2_settle_10 rfl ?_
  refine k_iconst (pc := 11) h (x := (-1 : Int32)) dX2_settle_11 (by decide) ?_
  refine k_puti (pc := 12) h fl_X2_25 ly_40 rfl dX2_settle_12 hk (fun u3 hk => ?_)
  refine k_iload (pc := 15) h 4 dX2_settle_15 rfl ?_
  refine k_iconst (pc := 17) h (x := (1 : Int32)) dX2_settle_17 (by decide) ?_
  refine k_iload_n (pc := 18) h 3 dX2_settle_18 rfl ?_
  refine k_ishl (pc := 19) h dX2_settle_19 ?_
  refine k_icmp_ne (tgt := 36) (pc := 20) h dX2_settle_20 rfl hk (fun hc hk => ?_) (fun hc hk => ?_)
  · refine k_aload_n (pc := 36) h 0 dX2_settle_36 rfl ?_
    refine k_aload_n (pc := 37) h 1 dX2_settle_37 rfl ?_
    refine k_iload_n (pc := 38) h 2 dX2_settle_38 rfl ?_
    refine k_iload (pc := 39) h 4 dX2_settle_39 rfl ?_
    obtain ⟨p5, hc4, hk⟩ := bd_some hk
    refine k_callV0 (pc := 41) h (c_X2_chooseNext hb hc4) cw_X2_45 ly_40 rfl ⟨⟨by decide, by decide⟩, Nat.zero_le _, Nat.zero_le _⟩ rfl (Nat.le_of_ble_eq_true rfl) dX2_settle_41 ?_
    refine k_sub h [0, 2, 3] (lv' := [(0, .ref 40), (2, .int l2), (3, .int l3)]) rfl ?_
    exact EJ44 _ _ _ hk
  · refine k_aload_n (pc := 23) h 0 dX2_settle_23 rfl ?_
    refine k_iconst (pc := 24) h (x := (0 : Int32)) dX2_settle_24 (by decide) ?_
    refine k_puti (pc := 25) h fl_X2_18 ly_40 rfl dX2_settle_25 hk (fun u8 hk => ?_)
    refine k_aload_n (pc := 28) h 0 dX2_settle_28 rfl ?_
    refine k_iconst (pc := 29) h (x := (0 : Int32)) dX2_settle_29 (by decide) ?_
    refine k_puti (pc := 30) h fl_X2_25 ly_40 rfl dX2_settle_30 hk (fun u9 hk => ?_)
    refine k_goto (tgt := 44) (pc := 33) h dX2_settle_33 rfl ?_
    refine k_sub h [0, 2, 3] (lv' := [(0, .ref 40), (2, .int l2), (3, .int l3)]) rfl ?_
    exact EJ44 _ _ _ hk
def f_X3_seek_j46 (pb : Nat) (b : Nat) (w : WW) (l2 : Int32) (l3 : Int32) (l4 : Int32) (l5 : Int32) : Option ((Int32 × WW) ⊕ (WW)) := some (.inl ((l5 + (1 : Int32)), w))
def f_X3_seek_b13 (pb : Nat) (b : Nat) (l2 : Int32) (l3 : Int32) (l4 : Int32) (l5 : Int32) (w : WW) : Option ((Int32 × WW) ⊕ (WW)) := (f_X6_allSets b w).bind (fun p4 => if p4 ≤ l5 then some (.inr w) else if (l5 &&& l3) = l3 then if (l5 &&& l4) = 0 then (f_X3_weighUp pb b w l2 l5).bind (fun p6 => f_X3_seek_j46 pb b p6 l2 l3 l4 l5) else f_X3_seek_j46 pb b w l2 l3 l4 l5 else f_X3_seek_j46 pb b w l2 l3 l4 l5)
def f_X3_seek (pb : Nat) (b : Nat) (w : WW) (l2 : Int32) (l3 : Int32) (l4 : Int32) : Option (WW) := stI w pb 0 (-1 : Int32) (fun u1 => stI u1 pb 1 (-1 : Int32) (fun u2 => (lpf (fun s : Int32 × WW => f_X3_seek_b13 pb b l2 l3 l4 s.1 s.2) FU ((0 : Int32), u2)).bind (fun r7 => some r7)))
set_option maxRecDepth 20000 in
set_option maxHeartbeats 4000000 in
theorem c_X3_seek {lay : List LyS} {pb : Nat} {b : Nat} (hpb : PuAt lay pb) (hb : StAt lay b) {w : WW} {l2 : Int32} {l3 : Int32} {l4 : Int32} {z : WW} (hk : f_X3_seek pb b w l2 l3 l4 = some z) : Cn 3 yX3_seek cX3_seek 6 none lay [.ref pb, .ref b, .int l2, .int l3, .int l4] w none z := by
  refine Cn.of (by decide +kernel) (Nat.le_of_ble_eq_true rfl) (fun G h => ?_)
  have h : Rules cX3_seek RX3 "seek" 6 (rmd 3 0 0) none _ _ lay 0 0 G := h
  show G 0 [(0, .ref pb), (1, .ref b), (2, .int l2), (3, .int l3), (4, .int l4)] [] w
  unfold f_X3_seek at hk
  have EJ46 : ∀ (w : WW) (l2 : Int32) (l3 : Int32) (l4 : Int32) (l5 : Int32) (z : (Int32 × WW) ⊕ (WW)), f_X3_seek_j46 pb b w l2 l3 l4 l5 = some z → Sum.elim (fun s : Int32 × WW => G 13 [(0, .ref pb), (1, .ref b), (2, .int l2), (3, .int l3), (4, .int l4), (5, .int s.1)] [] s.2) (fun r : WW => G 52 [] [] r) z → G 46 [(0, .ref pb), (1, .ref b), (2, .int l2), (3, .int l3), (4, .int l4), (5, .int l5)] [] w := by
    intro w l2 l3 l4 l5 z hk hz
    unfold f_X3_seek_j46 at hk
    refine k_iinc (pc := 46) h 5 [1, 2, 3, 4, 5, 0] (v := (l5 + (1 : Int32))) (lv' := [(0, .ref pb), (1, .ref b), (2, .int l2), (3, .int l3), (4, .int l4), (5, .int (l5 + (1 : Int32)))]) dX3_seek_46 rfl rfl (by decide) rfl ?_
    refine k_goto (tgt := 13) (pc := 49) h dX3_seek_49 rfl ?_
    have hk := Option.some.inj hk
    subst hk
    exact hz
  have LB13 : ∀ (l2 : Int32) (l3 : Int32) (l4 : Int32), ∀ (nn : Nat) (s : Int32 × WW) (r : WW), lpf (fun s : Int32 × WW => f_X3_seek_b13 pb b l2 l3 l4 s.1 s.2) nn s = some r → (fun r : WW => G 52 [] [] r) r → (fun s : Int32 × WW => G 13 [(0, .ref pb), (1, .ref b), (2, .int l2), (3, .int l3), (4, .int l4), (5, .int s.1)] [] s.2) s := by
    intro l2 l3 l4
    refine lpf_ind (fun s : Int32 × WW => G 13 [(0, .ref pb), (1, .ref b), (2, .int l2), (3, .int l3), (4, .int l4), (5, .int s.1)] [] s.2) (fun r : WW => G 52 [] [] r) ?_
    rintro ⟨l5, w⟩ z hk hz
    have hk : f_X3_seek_b13 pb b l2 l3 l4 l5 w = some z := hk
    unfold f_X3_seek_b13 at hk
    show G 13 [(0, .ref pb), (1, .ref b), (2, .int l2), (3, .int l3), (4, .int l4), (5, .int l5)] [] w
    refine k_iload (pc := 13) h 5 dX3_seek_13 rfl ?_
    refine k_aload_n (pc := 15) h 1 dX3_seek_15 rfl ?_
    obtain ⟨p4, hc3, hk⟩ := bd_some hk
    refine k_callV1 (pc := 16) h (c_X6_allSets hb hc3) cw_X3_18 hb.1 rfl ⟨⟨by decide, by decide⟩, Nat.zero_le _, Nat.zero_le _⟩ rfl (Nat.le_of_ble_eq_true rfl) dX3_seek_16 ?_
    refine k_icmp_ge (tgt := 52) (pc := 19) h dX3_seek_19 rfl hk (fun hc hk => ?_) (fun hc hk => ?_)
    · refine k_sub h [] (lv' := []) rfl ?_
      have hk := Option.some.inj hk
      subst hk
      exact hz
    · refine k_iload (pc := 22) h 5 dX3_seek_22 rfl ?_
      refine k_iload_n (pc := 24) h 3 dX3_seek_24 rfl ?_
      refine k_iand (pc := 25) h dX3_seek_25 ?_
      refine k_iload_n (pc := 26) h 3 dX3_seek_26 rfl ?_
      refine k_icmp_ne (tgt := 46) (pc := 27) h dX3_seek_27 rfl hk (fun hc hk => ?_) (fun hc hk => ?_)
      · exact EJ46 _ _ _ _ _ _ hk hz
      · refine k_iload (pc := 30) h 5 dX3_seek_30 rfl ?_
        refine k_iload (pc := 32) h 4 dX3_seek_32 rfl ?_
        refine k_iand (pc := 34) h dX3_seek_34 ?_
        refine k_if_ne (tgt := 46) (pc := 35) h dX3_seek_35 rfl hk (fun hc hk => ?_) (fun hc hk => ?_)
        · exact EJ46 _ _ _ _ _ _ hk hz
        · refine k_aload_n (pc := 38) h 0 dX3_seek_38 rfl ?_
          refine k_aload_n (pc := 39) h 1 dX3_seek_39 rfl ?_
          refine k_iload_n (pc := 40) h 2 dX3_seek_40 rfl ?_
          refine k_iload (pc := 41) h 5 dX3_seek_41 rfl ?_
          obtain ⟨p6, hc5, hk⟩ := bd_some hk
          refine k_callV0 (pc := 43) h (c_X3_weighUp hpb hb hc5) cw_X3_24 hpb rfl ⟨⟨by decide, by decide⟩, Nat.zero_le _, Nat.zero_le _⟩ rfl (Nat.le_of_ble_eq_true rfl) dX3_seek_43 ?_
          exact EJ46 _ _ _ _ _ _ hk hz
  refine k_aload_n (pc := 0) h 0 dX3_seek_0 rfl ?_
  refine k_iconst (pc := 1) h (x := (-1 : Int32)) dX3_seek_1 (by decide) ?_
  refine k_puti (pc := 2) h fl_X3_9 hpb rfl dX3_seek_2 hk (fun u1 hk => ?_)
  refine k_aload_n (pc := 5) h 0 dX3_seek_5 rfl ?_
  refine k_iconst (pc := 6) h (x := (-1 : Int32)) dX3_seek_6 (by decide) ?_
  refine k_puti (pc := 7) h fl_X3_15 hpb rfl dX3_seek_7 hk (fun u2 hk => ?_)
  refine k_iconst (pc := 10) h (x := (0 : Int32)) dX3_seek_10 (by decide) ?_
  refine k_istore (pc := 11) h [1, 2, 3, 4, 5, 0] (lv' := [(0, .ref pb), (1, .ref b), (2, .int l2), (3, .int l3), (4, .int l4), (5, .int (0 : Int32))]) dX3_seek_11 (by decide) rfl ?_
  obtain ⟨r7, hl8, hk⟩ := bd_some hk
  refine LB13 _ _ _ _ _ _ hl8 ?_
  show G 52 [] [] r7
  have hk := Option.some.inj hk
  subst hk
  exact k_vret (pc := 52) h dX3_seek_52 ⟨rfl, rfl, rfl, rfl, rfl, rfl⟩
def f_X5_firstOfLeast_j63 (b : Nat) (w : WW) (l3 : Int32) (l4 : Int32) (l5 : Int32) : Option ((Int32) ⊕ ((Int32) ⊕ (Unit))) := some (.inl (l5 + (1 : Int32)))
def f_X5_firstOfLeast_b11 (b : Nat) (w : WW) (l3 : Int32) (l4 : Int32) (l5 : Int32) : Option ((Int32) ⊕ ((Int32) ⊕ (Unit))) := if (w.1 b 1) ≤ l5 then some (.inr (.inr ())) else if ((shr32 l3 l5) &&& (1 : Int32)) = 0 then gd (inb l5 7) (gd (inb (l3 ||| (shl32 (1 : Int32) l5)) 128) (gd (inb l3 128) (if (((w.1 (b + 4) (l5).toNatClampNeg) * l4) + (w.1 44 ((l3 ||| (shl32 (1 : Int32) l5))).toNatClampNeg)) = (w.1 44 (l3).toNatClampNeg) then some (.inr (.inl l5)) else f_X5_firstOfLeast_j63 b w l3 l4 l5))) else f_X5_firstOfLeast_j63 b w l3 l4 l5
def f_X5_firstOfLeast (b : Nat) (w : WW) (l2 : Int32) (l3 : Int32) : Option (Int32) := (f_X5_unknownWeight b w l2 l3).bind (fun p2 => (lpf (fun s : Int32 => f_X5_firstOfLeast_b11 b w l3 p2 s) FU (0 : Int32)).bind (Sum.elim (fun r3 => some (r3)) (fun r3 => some ((0 : Int32)))))
set_option maxRecDepth 20000 in
set_option maxHeartbeats 4000000 in
theorem c_X5_firstOfLeast {b : Nat} (hb : StAt LAY b) {w : WW} {l2 : Int32} {l3 : Int32} {z : Int32} (hk : f_X5_firstOfLeast b w l2 l3 = some z) : Cn 3 yX5_firstOfLeast cX5_firstOfLeast 6 (some .int) LAY [.ref 43, .ref b, .int l2, .int l3] w (some (.int z)) w := by
  refine Cn.of (by decide +kernel) (Nat.le_of_ble_eq_true rfl) (fun G h => ?_)
  have h : Rules cX5_firstOfLeast RX5 "firstOfLeast" 6 (rmd 3 0 0) none _ _ LAY 0 0 G := h
  show G 0 [(0, .ref 43), (1, .ref b), (2, .int l2), (3, .int l3)] [] w
  unfold f_X5_firstOfLeast at hk
  have EJ63 : ∀ (l3 : Int32) (l4 : Int32) (l5 : Int32) (z : (Int32) ⊕ ((Int32) ⊕ (Unit))), f_X5_firstOfLeast_j63 b w l3 l4 l5 = some z → Sum.elim (fun s : Int32 => G 11 [(0, .ref 43), (1, .ref b), (3, .int l3), (4, .int l4), (5, .int s)] [] w) (Sum.elim (fun r : Int32 => G 60 [(5, .int r)] [] w) (fun r : Unit => G 69 [] [] w)) z → G 63 [(0, .ref 43), (1, .ref b), (3, .int l3), (4, .int l4), (5, .int l5)] [] w := by
    intro l3 l4 l5 z hk hz
    unfold f_X5_firstOfLeast_j63 at hk
    refine k_iinc (pc := 63) h 4 [1, 2, 3, 4, 0] (v := (l5 + (1 : Int32))) (lv' := [(0, .ref 43), (1, .ref b), (3, .int l3), (4, .int l4), (5, .int (l5 + (1 : Int32)))]) dX5_firstOfLeast_63 rfl rfl (by decide) rfl ?_
    refine k_goto (tgt := 11) (pc := 66) h dX5_firstOfLeast_66 rfl ?_
    have hk := Option.some.inj hk
    subst hk
    exact hz
  have LB11 : ∀ (l3 : Int32) (l4 : Int32), ∀ (nn : Nat) (s : Int32) (r : (Int32) ⊕ (Unit)), lpf (fun s : Int32 => f_X5_firstOfLeast_b11 b w l3 l4 s) nn s = some r → (Sum.elim (fun r : Int32 => G 60 [(5, .int r)] [] w) (fun r : Unit => G 69 [] [] w)) r → (fun s : Int32 => G 11 [(0, .ref 43), (1, .ref b), (3, .int l3), (4, .int l4), (5, .int s)] [] w) s := by
    intro l3 l4
    refine lpf_ind (fun s : Int32 => G 11 [(0, .ref 43), (1, .ref b), (3, .int l3), (4, .int l4), (5, .int s)] [] w) (Sum.elim (fun r : Int32 => G 60 [(5, .int r)] [] w) (fun r : Unit => G 69 [] [] w)) ?_
    rintro l5 z hk hz
    have hk : f_X5_firstOfLeast_b11 b w l3 l4 l5 = some z := hk
    unfold f_X5_firstOfLeast_b11 at hk
    show G 11 [(0, .ref 43), (1, .ref b), (3, .int l3), (4, .int l4), (5, .int l5)] [] w
    refine k_iload (pc := 11) h 4 dX5_firstOfLeast_11 rfl ?_
    refine k_aload_n (pc := 13) h 1 dX5_firstOfLeast_13 rfl ?_
    refine k_geti (pc := 14) h fl_X5_16 hb.1 rfl dX5_firstOfLeast_14 ?_
    refine k_icmp_ge (tgt := 69) (pc := 17) h dX5_firstOfLeast_17 rfl hk (fun hc hk => ?_) (fun hc hk => ?_)
    · refine k_sub h [] (lv' := []) rfl ?_
      have hk := Option.some.inj hk
      subst hk
      exact hz
    · refine k_iload_n (pc := 20) h 2 dX5_firstOfLeast_20 rfl ?_
      refine k_iload (pc := 21) h 4 dX5_firstOfLeast_21 rfl ?_
      refine k_ishr (pc := 23) h dX5_firstOfLeast_23 ?_
      refine k_iconst (pc := 24) h (x := (1 : Int32)) dX5_firstOfLeast_24 (by decide) ?_
      refine k_iand (pc := 25) h dX5_firstOfLeast_25 ?_
      refine k_if_ne (tgt := 63) (pc := 26) h dX5_firstOfLeast_26 rfl hk (fun hc hk => ?_) (fun hc hk => ?_)
      · exact EJ63 _ _ _ _ hk hz
      · refine k_aload_n (pc := 29) h 1 dX5_firstOfLeast_29 rfl ?_
        refine k_getr (pc := 30) h fl_X5_26 hb.1 rfl dX5_firstOfLeast_30 ?_
        refine k_iload (pc := 33) h 4 dX5_firstOfLeast_33 rfl ?_
        refine k_iald (pc := 35) h hb.2.2.2.2.1 dX5_firstOfLeast_35 hk (fun hk => ?_)
        refine k_iload (pc := 36) h 3 dX5_firstOfLeast_36 rfl ?_
        refine k_imul (pc := 38) h dX5_firstOfLeast_38 ?_
        refine k_aload_n (pc := 39) h 0 dX5_firstOfLeast_39 rfl ?_
        refine k_getr (pc := 40) h fl_X5_9 ly_43 rfl dX5_firstOfLeast_40 ?_
        refine k_iload_n (pc := 43) h 2 dX5_firstOfLeast_43 rfl ?_
        refine k_iconst (pc := 44) h (x := (1 : Int32)) dX5_firstOfLeast_44 (by decide) ?_
        refine k_iload (pc := 45) h 4 dX5_firstOfLeast_45 rfl ?_
        refine k_ishl (pc := 47) h dX5_firstOfLeast_47 ?_
        refine k_ior (pc := 48) h dX5_firstOfLeast_48 ?_
        refine k_iald (pc := 49) h ly_44 dX5_firstOfLeast_49 hk (fun hk => ?_)
        refine k_iadd (pc := 50) h dX5_firstOfLeast_50 ?_
        refine k_aload_n (pc := 51) h 0 dX5_firstOfLeast_51 rfl ?_
        refine k_getr (pc := 52) h fl_X5_9 ly_43 rfl dX5_firstOfLeast_52 ?_
        refine k_iload_n (pc := 55) h 2 dX5_firstOfLeast_55 rfl ?_
        refine k_iald (pc := 56) h ly_44 dX5_firstOfLeast_56 hk (fun hk => ?_)
        refine k_icmp_ne (tgt := 63) (pc := 57) h dX5_firstOfLeast_57 rfl hk (fun hc hk => ?_) (fun hc hk => ?_)
        · exact EJ63 _ _ _ _ hk hz
        · refine k_sub h [4] (lv' := [(5, .int l5)]) rfl ?_
          have hk := Option.some.inj hk
          subst hk
          exact hz
  refine k_aload_n (pc := 0) h 1 dX5_firstOfLeast_0 rfl ?_
  refine k_iload_n (pc := 1) h 2 dX5_firstOfLeast_1 rfl ?_
  refine k_iload_n (pc := 2) h 3 dX5_firstOfLeast_2 rfl ?_
  obtain ⟨p2, hc1, hk⟩ := bd_some hk
  refine k_callS1 (pc := 3) h (c_X5_unknownWeight hb hc1) cw_X5_29 ⟨⟨by decide, by decide⟩, Nat.zero_le _, Nat.zero_le _⟩ rfl (Nat.le_of_ble_eq_true rfl) dX5_firstOfLeast_3 ?_
  refine k_istore (pc := 6) h [1, 2, 3, 4, 0] (lv' := [(0, .ref 43), (1, .ref b), (2, .int l2), (3, .int l3), (4, .int p2)]) dX5_firstOfLeast_6 (by decide) rfl ?_
  refine k_iconst (pc := 8) h (x := (0 : Int32)) dX5_firstOfLeast_8 (by decide) ?_
  refine k_istore (pc := 9) h [1, 2, 3, 4, 5, 0] (lv' := [(0, .ref 43), (1, .ref b), (2, .int l2), (3, .int l3), (4, .int p2), (5, .int (0 : Int32))]) dX5_firstOfLeast_9 (by decide) rfl ?_
  refine k_sub h [0, 1, 3, 4, 5] (lv' := [(0, .ref 43), (1, .ref b), (3, .int l3), (4, .int p2), (5, .int (0 : Int32))]) rfl ?_
  obtain ⟨r3, hl4, hk⟩ := bd_some hk
  refine LB11 _ _ _ _ _ hl4 ?_
  rcases r3 with r3 | r3
  · replace hk := elim_l hk
    show G 60 [(5, .int r3)] [] w
    refine k_iload (pc := 60) h 0 dX5_firstOfLeast_60 rfl ?_
    have hk := Option.some.inj hk
    subst hk
    exact k_iret (pc := 62) h dX5_firstOfLeast_62 ⟨rfl, rfl, rfl, rfl, rfl, ⟨.int, rfl, rfl⟩⟩
  · replace hk := elim_r hk
    show G 69 [] [] w
    refine k_iconst (pc := 69) h (x := (0 : Int32)) dX5_firstOfLeast_69 (by decide) ?_
    have hk := Option.some.inj hk
    subst hk
    exact k_iret (pc := 70) h dX5_firstOfLeast_70 ⟨rfl, rfl, rfl, rfl, rfl, ⟨.int, rfl, rfl⟩⟩
def f_X5_settle_j76 (b : Nat) (w : WW) (l3 : Int32) (l4 : Int32) (l5 : Int32) (l6 : Int32) : Option ((Int32 × Int32) ⊕ (Int32)) := some (.inl (l5, (l6 + (1 : Int32))))
def f_X5_settle_j74 (b : Nat) (w : WW) (l3 : Int32) (l4 : Int32) (l6 : Int32) (s0 : Int32) : Option ((Int32 × Int32) ⊕ (Int32)) := f_X5_settle_j76 b w l3 l4 s0 l6
def f_X5_settle_b14 (b : Nat) (w : WW) (l3 : Int32) (l4 : Int32) (l5 : Int32) (l6 : Int32) : Option ((Int32 × Int32) ⊕ (Int32)) := if (w.1 b 1) ≤ l6 then some (.inr l5) else if ((shr32 l3 l6) &&& (1 : Int32)) = 0 then gd (inb l6 7) (gd (inb (l3 ||| (shl32 (1 : Int32) l6)) 128) (nmv (((w.1 (b + 4) (l6).toNatClampNeg) * l4) + (w.1 44 ((l3 ||| (shl32 (1 : Int32) l6))).toNatClampNeg)) (fun v3 => if l5 = (-1 : Int32) then f_X5_settle_j74 b w l3 l4 l6 v3 else (f_J9_min_7cf53 w l5 v3).bind (fun p5 => f_X5_settle_j74 b w l3 l4 l6 p5)))) else f_X5_settle_j76 b w l3 l4 l5 l6
def f_X5_settle (b : Nat) (w : WW) (l2 : Int32) (l3 : Int32) : Option (WW) := (f_X5_unknownWeight b w l2 l3).bind (fun p2 => (lpf (fun s : Int32 × Int32 => f_X5_settle_b14 b w l3 p2 s.1 s.2) FU ((-1 : Int32), (0 : Int32))).bind (fun r6 => (f_J9_max_7cf53 w r6 (0 : Int32)).bind (fun p9 => gd (inb l3 128) (stI w 44 (l3).toNatClampNeg p9 (fun u10 => some u10)))))
set_option maxRecDepth 20000 in
set_option maxHeartbeats 4000000 in
theorem c_X5_settle {b : Nat} (hb : StAt LAY b) {w : WW} {l2 : Int32} {l3 : Int32} {z : WW} (hk : f_X5_settle b w l2 l3 = some z) : Cn 3 yX5_settle cX5_settle 8 none LAY [.ref 43, .ref b, .int l2, .int l3] w none z := by
  refine Cn.of (by decide +kernel) (Nat.le_of_ble_eq_true rfl) (fun G h => ?_)
  have h : Rules cX5_settle RX5 "settle" 8 (rmd 3 0 0) none _ _ LAY 0 0 G := h
  show G 0 [(0, .ref 43), (1, .ref b), (2, .int l2), (3, .int l3)] [] w
  unfold f_X5_settle at hk
  have EJ76 : ∀ (w : WW) (l3 : Int32) (l4 : Int32) (l5 : Int32) (l6 : Int32) (z : (Int32 × Int32) ⊕ (Int32)), f_X5_settle_j76 b w l3 l4 l5 l6 = some z → Sum.elim (fun s : Int32 × Int32 => G 14 [(0, .ref 43), (1, .ref b), (3, .int l3), (4, .int l4), (5, .int s.1), (6, .int s.2)] [] w) (fun r : Int32 => G 82 [(0, .ref 43), (3, .int l3), (5, .int r)] [] w) z → G 76 [(0, .ref 43), (1, .ref b), (3, .int l3), (4, .int l4), (5, .int l5), (6, .int l6)] [] w := by
    intro w l3 l4 l5 l6 z hk hz
    unfold f_X5_settle_j76 at hk
    refine k_iinc (pc := 76) h 5 [1, 2, 3, 4, 5, 0] (v := (l6 + (1 : Int32))) (lv' := [(0, .ref 43), (1, .ref b), (3, .int l3), (4, .int l4), (5, .int l5), (6, .int (l6 + (1 : Int32)))]) dX5_settle_76 rfl rfl (by decide) rfl ?_
    refine k_goto (tgt := 14) (pc := 79) h dX5_settle_79 rfl ?_
    have hk := Option.some.inj hk
    subst hk
    exact hz
  have EJ74 : ∀ (w : WW) (l3 : Int32) (l4 : Int32) (l6 : Int32) (s0 : Int32) (z : (Int32 × Int32) ⊕ (Int32)), f_X5_settle_j74 b w l3 l4 l6 s0 = some z → Sum.elim (fun s : Int32 × Int32 => G 14 [(0, .ref 43), (1, .ref b), (3, .int l3), (4, .int l4), (5, .int s.1), (6, .int s.2)] [] w) (fun r : Int32 => G 82 [(0, .ref 43), (3, .int l3), (5, .int r)] [] w) z → G 74 [(0, .ref 43), (1, .ref b), (3, .int l3), (4, .int l4), (6, .int l6)] [.int s0] w := by
    intro w l3 l4 l6 s0 z hk hz
    unfold f_X5_settle_j74 at hk
    refine k_istore (pc := 74) h [1, 2, 3, 4, 0, 5] (lv' := [(0, .ref 43), (1, .ref b), (3, .int l3), (4, .int l4), (5, .int s0), (6, .int l6)]) dX5_settle_74 (by decide) rfl ?_
    exact EJ76 _ _ _ _ _ _ hk hz
  have LB14 : ∀ (w : WW) (l3 : Int32) (l4 : Int32), ∀ (nn : Nat) (s : Int32 × Int32) (r : Int32), lpf (fun s : Int32 × Int32 => f_X5_settle_b14 b w l3 l4 s.1 s.2) nn s = some r → (fun r : Int32 => G 82 [(0, .ref 43), (3, .int l3), (5, .int r)] [] w) r → (fun s : Int32 × Int32 => G 14 [(0, .ref 43), (1, .ref b), (3, .int l3), (4, .int l4), (5, .int s.1), (6, .int s.2)] [] w) s := by
    intro w l3 l4
    refine lpf_ind (fun s : Int32 × Int32 => G 14 [(0, .ref 43), (1, .ref b), (3, .int l3), (4, .int l4), (5, .int s.1), (6, .int s.2)] [] w) (fun r : Int32 => G 82 [(0, .ref 43), (3, .int l3), (5, .int r)] [] w) ?_
    rintro ⟨l5, l6⟩ z hk hz
    have hk : f_X5_settle_b14 b w l3 l4 l5 l6 = some z := hk
    unfold f_X5_settle_b14 at hk
    show G 14 [(0, .ref 43), (1, .ref b), (3, .int l3), (4, .int l4), (5, .int l5), (6, .int l6)] [] w
    refine k_iload (pc := 14) h 5 dX5_settle_14 rfl ?_
    refine k_aload_n (pc := 16) h 1 dX5_settle_16 rfl ?_
    refine k_geti (pc := 17) h fl_X5_16 hb.1 rfl dX5_settle_17 ?_
    refine k_icmp_ge (tgt := 82) (pc := 20) h dX5_settle_20 rfl hk (fun hc hk => ?_) (fun hc hk => ?_)
    · refine k_sub h [0, 2, 4] (lv' := [(0, .ref 43), (3, .int l3), (5, .int l5)]) rfl ?_
      have hk := Option.some.inj hk
      subst hk
      exact hz
    · refine k_iload_n (pc := 23) h 2 dX5_settle_23 rfl ?_
      refine k_iload (pc := 24) h 5 dX5_settle_24 rfl ?_
      refine k_ishr (pc := 26) h dX5_settle_26 ?_
      refine k_iconst (pc := 27) h (x := (1 : Int32)) dX5_settle_27 (by decide) ?_
      refine k_iand (pc := 28) h dX5_settle_28 ?_
      refine k_if_ne (tgt := 76) (pc := 29) h dX5_settle_29 rfl hk (fun hc hk => ?_) (fun hc hk => ?_)
      · exact EJ76 _ _ _ _ _ _ hk hz
      · refine k_aload_n (pc := 32) h 1 dX5_settle_32 rfl ?_
        refine k_getr (pc := 33) h fl_X5_26 hb.1 rfl dX5_settle_33 ?_
        refine k_iload (pc := 36) h 5 dX5_settle_36 rfl ?_
        refine k_iald (pc := 38) h hb.2.2.2.2.1 dX5_settle_38 hk (fun hk => ?_)
        refine k_iload (pc := 39) h 3 dX5_settle_39 rfl ?_
        refine k_imul (pc := 41) h dX5_settle_41 ?_
        refine k_aload_n (pc := 42) h 0 dX5_settle_42 rfl ?_
        refine k_getr (pc := 43) h fl_X5_9 ly_43 rfl dX5_settle_43 ?_
        refine k_iload_n (pc := 46) h 2 dX5_settle_46 rfl ?_
        refine k_iconst (pc := 47) h (x := (1 : Int32)) dX5_settle_47 (by decide) ?_
        refine k_iload (pc := 48) h 5 dX5_settle_48 rfl ?_
        refine k_ishl (pc := 50) h dX5_settle_50 ?_
        refine k_ior (pc := 51) h dX5_settle_51 ?_
        refine k_iald (pc := 52) h ly_44 dX5_settle_52 hk (fun hk => ?_)
        refine k_iadd (pc := 53) h dX5_settle_53 ?_
        refine k_nmi (pc := 54) h hk (fun v3 hk => ?_)
        refine k_istore (pc := 54) h [1, 2, 3, 4, 5, 6, 0] (lv' := [(0, .ref 43), (1, .ref b), (3, .int l3), (4, .int l4), (5, .int l5), (6, .int l6), (7, .int v3)]) dX5_settle_54 (by decide) rfl ?_
        refine k_iload (pc := 56) h 4 dX5_settle_56 rfl ?_
        refine k_iconst (pc := 58) h (x := (-1 : Int32)) dX5_settle_58 (by decide) ?_
        refine k_icmp_ne (tgt := 67) (pc := 59) h dX5_settle_59 rfl hk (fun hc hk => ?_) (fun hc hk => ?_)
        · refine k_iload (pc := 67) h 4 dX5_settle_67 rfl ?_
          refine k_iload (pc := 69) h 6 dX5_settle_69 rfl ?_
          obtain ⟨p5, hc4, hk⟩ := bd_some hk
          refine k_callS1 (pc := 71) h (c_J9_min_7cf53 hc4) cw_X5_44 ⟨⟨by decide, by decide⟩, Nat.zero_le _, Nat.zero_le _⟩ rfl (Nat.le_of_ble_eq_true rfl) dX5_settle_71 ?_
          refine k_sub h [0, 1, 2, 3, 5] (lv' := [(0, .ref 43), (1, .ref b), (3, .int l3), (4, .int l4), (6, .int l6)]) rfl ?_
          exact EJ74 _ _ _ _ _ _ hk hz
        · refine k_iload (pc := 62) h 6 dX5_settle_62 rfl ?_
          refine k_goto (tgt := 74) (pc := 64) h dX5_settle_64 rfl ?_
          refine k_sub h [0, 1, 2, 3, 5] (lv' := [(0, .ref 43), (1, .ref b), (3, .int l3), (4, .int l4), (6, .int l6)]) rfl ?_
          exact EJ74 _ _ _ _ _ _ hk hz
  refine k_aload_n (pc := 0) h 1 dX5_settle_0 rfl ?_
  refine k_iload_n (pc := 1) h 2 dX5_settle_1 rfl ?_
  refine k_iload_n (pc := 2) h 3 dX5_settle_2 rfl ?_
  obtain ⟨p2, hc1, hk⟩ := bd_some hk
  refine k_callS1 (pc := 3) h (c_X5_unknownWeight hb hc1) cw_X5_29 ⟨⟨by decide, by decide⟩, Nat.zero_le _, Nat.zero_le _⟩ rfl (Nat.le_of_ble_eq_true rfl) dX5_settle_3 ?_
  refine k_istore (pc := 6) h [1, 2, 3, 4, 0] (lv' := [(0, .ref 43), (1, .ref b), (2, .int l2), (3, .int l3), (4, .int p2)]) dX5_settle_6 (by decide) rfl ?_
  refine k_iconst (pc := 8) h (x := (-1 : Int32)) dX5_settle_8 (by decide) ?_
  refine k_istore (pc := 9) h [1, 2, 3, 4, 5, 0] (lv' := [(0, .ref 43), (1, .ref b), (2, .int l2), (3, .int l3), (4, .int p2), (5, .int (-1 : Int32))]) dX5_settle_9 (by decide) rfl ?_
  refine k_iconst (pc := 11) h (x := (0 : Int32)) dX5_settle_11 (by decide) ?_
  refine k_istore (pc := 12) h [1, 2, 3, 4, 5, 6, 0] (lv' := [(0, .ref 43), (1, .ref b), (2, .int l2), (3, .int l3), (4, .int p2), (5, .int (-1 : Int32)), (6, .int (0 : Int32))]) dX5_settle_12 (by decide) rfl ?_
  refine k_sub h [0, 1, 3, 4, 5, 6] (lv' := [(0, .ref 43), (1, .ref b), (3, .int l3), (4, .int p2), (5, .int (-1 : Int32)), (6, .int (0 : Int32))]) rfl ?_
  obtain ⟨r6, hl7, hk⟩ := bd_some hk
  refine LB14 _ _ _ _ _ _ hl7 ?_
  show G 82 [(0, .ref 43), (3, .int l3), (5, .int r6)] [] w
  refine k_aload_n (pc := 82) h 0 dX5_settle_82 rfl ?_
  refine k_getr (pc := 83) h fl_X5_9 ly_43 rfl dX5_settle_83 ?_
  refine k_iload_n (pc := 86) h 1 dX5_settle_86 rfl ?_
  refine k_iload (pc := 87) h 2 dX5_settle_87 rfl ?_
  refine k_iconst (pc := 89) h (x := (0 : Int32)) dX5_settle_89 (by decide) ?_
  obtain ⟨p9, hc8, hk⟩ := bd_some hk
  refine k_callS1 (pc := 90) h (c_J9_max_7cf53 hc8) cw_X5_50 ⟨⟨by decide, by decide⟩, Nat.zero_le _, Nat.zero_le _⟩ rfl (Nat.le_of_ble_eq_true rfl) dX5_settle_90 ?_
  refine k_iast (pc := 93) h ly_44 dX5_settle_93 hk (fun u10 hk => ?_)
  have hk := Option.some.inj hk
  subst hk
  exact k_vret (pc := 94) h dX5_settle_94 ⟨rfl, rfl, rfl, rfl, rfl, rfl⟩
def f_X5_weighedPence_j80 (b : Nat) (w : WW) (l2 : Int32) (l3 : Int32) (l4 : Int32) (l5 : Int32) (l6 : Int32) (l7 : Int32) : Option ((Int32 × Int32 × Int32 × Int32) ⊕ (Int32)) := gd (¬ (10 : Int32) = 0) (nmv (l6 / (10 : Int32)) (fun v4 => some (.inl (l4, l5, v4, (l7 + (1 : Int32))))))
def f_X5_weighedPence_b13 (b : Nat) (w : WW) (l2 : Int32) (l3 : Int32) (l4 : Int32) (l5 : Int32) (l6 : Int32) (l7 : Int32) : Option ((Int32 × Int32 × Int32 × Int32) ⊕ (Int32)) := if (7 : Int32) ≤ l7 then some (.inr l4) else if l6 ≤ 0 then some (.inr l4) else gd (¬ l6 = 0) (gd (¬ (10 : Int32) = 0) (nmv ((rm32 (l3 / l6) (10 : Int32)) - (1 : Int32)) (fun v1 => (f_X7_within w v1 (0 : Int32) ((w.1 b 1) - (1 : Int32))).bind (fun p3 => if p3 = 0 then f_X5_weighedPence_j80 b w l2 l3 l4 l5 l6 l7 else gd (inb v1 7) ((f_X5_unknownWeight b w l2 l5).bind (fun p6 => nmv (l4 + ((w.1 (b + 4) (v1).toNatClampNeg) * p6)) (fun v7 => nmv (l5 ||| (shl32 (1 : Int32) v1)) (fun v8 => f_X5_weighedPence_j80 b w l2 l3 v7 v8 l6 l7))))))))
def f_X5_weighedPence (b : Nat) (w : WW) (l2 : Int32) (l3 : Int32) : Option (Int32) := (lpf (fun s : Int32 × Int32 × Int32 × Int32 => f_X5_weighedPence_b13 b w l2 l3 s.1 s.2.1 s.2.2.1 s.2.2.2) FU ((0 : Int32), (0 : Int32), (1000000 : Int32), (0 : Int32))).bind (fun r9 => some (r9))
set_option maxRecDepth 20000 in
set_option maxHeartbeats 4000000 in
theorem c_X5_weighedPence {b : Nat} (hb : StAt LAY b) {w : WW} {l2 : Int32} {l3 : Int32} {z : Int32} (hk : f_X5_weighedPence b w l2 l3 = some z) : Cn 3 yX5_weighedPence cX5_weighedPence 9 (some .int) LAY [.ref 43, .ref b, .int l2, .int l3] w (some (.int z)) w := by
  refine Cn.of (by decide +kernel) (Nat.le_of_ble_eq_true rfl) (fun G h => ?_)
  have h : Rules cX5_weighedPence RX5 "weighedPence" 9 (rmd 3 0 0) none _ _ LAY 0 0 G := h
  show G 0 [(0, .ref 43), (1, .ref b), (2, .int l2), (3, .int l3)] [] w
  unfold f_X5_weighedPence at hk
  have EJ80 : ∀ (l2 : Int32) (l3 : Int32) (l4 : Int32) (l5 : Int32) (l6 : Int32) (l7 : Int32) (z : (Int32 × Int32 × Int32 × Int32) ⊕ (Int32)), f_X5_weighedPence_j80 b w l2 l3 l4 l5 l6 l7 = some z → Sum.elim (fun s : Int32 × Int32 × Int32 × Int32 => G 13 [(1, .ref b), (2, .int l2), (3, .int l3), (4, .int s.1), (5, .int s.2.1), (6, .int s.2.2.1), (7, .int s.2.2.2)] [] w) (fun r : Int32 => G 93 [(4, .int r)] [] w) z → G 80 [(1, .ref b), (2, .int l2), (3, .int l3), (4, .int l4), (5, .int l5), (6, .int l6), (7, .int l7)] [] w := by
    intro l2 l3 l4 l5 l6 l7 z hk hz
    unfold f_X5_weighedPence_j80 at hk
    refine k_iload (pc := 80) h 5 dX5_weighedPence_80 rfl ?_
    refine k_bipush (pc := 82) h (x := (10 : Int32)) dX5_weighedPence_82 (by decide) ?_
    refine k_idiv (pc := 84) h dX5_weighedPence_84 hk (fun hk => ?_)
    refine k_nmi (pc := 85) h hk (fun v4 hk => ?_)
    refine k_istore (pc := 85) h [1, 2, 3, 4, 5, 0, 6] (lv' := [(1, .ref b), (2, .int l2), (3, .int l3), (4, .int l4), (5, .int l5), (6, .int v4), (7, .int l7)]) dX5_weighedPence_85 (by decide) rfl ?_
    refine k_iinc (pc := 87) h 6 [1, 2, 3, 4, 5, 6, 0] (v := (l7 + (1 : Int32))) (lv' := [(1, .ref b), (2, .int l2), (3, .int l3), (4, .int l4), (5, .int l5), (6, .int v4), (7, .int (l7 + (1 : Int32)))]) dX5_weighedPence_87 rfl rfl (by decide) rfl ?_
    refine k_goto (tgt := 13) (pc := 90) h dX5_weighedPence_90 rfl ?_
    have hk := Option.some.inj hk
    subst hk
    exact hz
  have LB13 : ∀ (l2 : Int32) (l3 : Int32), ∀ (nn : Nat) (s : Int32 × Int32 × Int32 × Int32) (r : Int32), lpf (fun s : Int32 × Int32 × Int32 × Int32 => f_X5_weighedPence_b13 b w l2 l3 s.1 s.2.1 s.2.2.1 s.2.2.2) nn s = some r → (fun r : Int32 => G 93 [(4, .int r)] [] w) r → (fun s : Int32 × Int32 × Int32 × Int32 => G 13 [(1, .ref b), (2, .int l2), (3, .int l3), (4, .int s.1), (5, .int s.2.1), (6, .int s.2.2.1), (7, .int s.2.2.2)] [] w) s := by
    intro l2 l3
    refine lpf_ind (fun s : Int32 × Int32 × Int32 × Int32 => G 13 [(1, .ref b), (2, .int l2), (3, .int l3), (4, .int s.1), (5, .int s.2.1), (6, .int s.2.2.1), (7, .int s.2.2.2)] [] w) (fun r : Int32 => G 93 [(4, .int r)] [] w) ?_
    rintro ⟨l4, l5, l6, l7⟩ z hk hz
    have hk : f_X5_weighedPence_b13 b w l2 l3 l4 l5 l6 l7 = some z := hk
    unfold f_X5_weighedPence_b13 at hk
    show G 13 [(1, .ref b), (2, .int l2), (3, .int l3), (4, .int l4), (5, .int l5), (6, .int l6), (7, .int l7)] [] w
    refine k_iload (pc := 13) h 6 dX5_weighedPence_13 rfl ?_
    refine k_bipush (pc := 15) h (x := (7 : Int32)) dX5_weighedPence_15 (by decide) ?_
    refine k_icmp_ge (tgt := 93) (pc := 17) h dX5_weighedPence_17 rfl hk (fun hc hk => ?_) (fun hc hk => ?_)
    · refine k_sub h [3] (lv' := [(4, .int l4)]) rfl ?_
      have hk := Option.some.inj hk
      subst hk
      exact hz
    · refine k_iload (pc := 20) h 5 dX5_weighedPence_20 rfl ?_
      refine k_if_le (tgt := 93) (pc := 22) h dX5_weighedPence_22 rfl hk (fun hc hk => ?_) (fun hc hk => ?_)
      · refine k_sub h [3] (lv' := [(4, .int l4)]) rfl ?_
        have hk := Option.some.inj hk
        subst hk
        exact hz
      · refine k_iload_n (pc := 25) h 2 dX5_weighedPence_25 rfl ?_
        refine k_iload (pc := 26) h 5 dX5_weighedPence_26 rfl ?_
        refine k_idiv (pc := 28) h dX5_weighedPence_28 hk (fun hk => ?_)
        refine k_bipush (pc := 29) h (x := (10 : Int32)) dX5_weighedPence_29 (by decide) ?_
        refine k_irem (pc := 31) h dX5_weighedPence_31 hk (fun hk => ?_)
        refine k_iconst (pc := 32) h (x := (1 : Int32)) dX5_weighedPence_32 (by decide) ?_
        refine k_isub (pc := 33) h dX5_weighedPence_33 ?_
        refine k_nmi (pc := 34) h hk (fun v1 hk => ?_)
        refine k_istore (pc := 34) h [1, 2, 3, 4, 5, 6, 7, 0] (lv' := [(1, .ref b), (2, .int l2), (3, .int l3), (4, .int l4), (5, .int l5), (6, .int l6), (7, .int l7), (8, .int v1)]) dX5_weighedPence_34 (by decide) rfl ?_
        refine k_iload (pc := 36) h 7 dX5_weighedPence_36 rfl ?_
        refine k_iconst (pc := 38) h (x := (0 : Int32)) dX5_weighedPence_38 (by decide) ?_
        refine k_aload_n (pc := 39) h 0 dX5_weighedPence_39 rfl ?_
        refine k_geti (pc := 40) h fl_X5_16 hb.1 rfl dX5_weighedPence_40 ?_
        refine k_iconst (pc := 43) h (x := (1 : Int32)) dX5_weighedPence_43 (by decide) ?_
        refine k_isub (pc := 44) h dX5_weighedPence_44 ?_
        obtain ⟨p3, hc2, hk⟩ := bd_some hk
        refine k_callN1 (pc := 45) h (c_X7_within hc2) cw_X5_22 ⟨⟨by decide, by decide⟩, Nat.zero_le _, Nat.zero_le _⟩ rfl (Nat.le_of_ble_eq_true rfl) dX5_weighedPence_45 ?_
        refine k_if_eq (tgt := 80) (pc := 48) h dX5_weighedPence_48 rfl hk (fun hc hk => ?_) (fun hc hk => ?_)
        · refine k_sub h [0, 1, 2, 3, 4, 5, 6] (lv' := [(1, .ref b), (2, .int l2), (3, .int l3), (4, .int l4), (5, .int l5), (6, .int l6), (7, .int l7)]) rfl ?_
          exact EJ80 _ _ _ _ _ _ _ hk hz
        · refine k_iload (pc := 51) h 3 dX5_weighedPence_51 rfl ?_
          refine k_aload_n (pc := 53) h 0 dX5_weighedPence_53 rfl ?_
          refine k_getr (pc := 54) h fl_X5_26 hb.1 rfl dX5_weighedPence_54 ?_
          refine k_iload (pc := 57) h 7 dX5_weighedPence_57 rfl ?_
          refine k_iald (pc := 59) h hb.2.2.2.2.1 dX5_weighedPence_59 hk (fun hk => ?_)
          refine k_aload_n (pc := 60) h 0 dX5_weighedPence_60 rfl ?_
          refine k_iload_n (pc := 61) h 1 dX5_weighedPence_61 rfl ?_
          refine k_iload (pc := 62) h 4 dX5_weighedPence_62 rfl ?_
          obtain ⟨p6, hc5, hk⟩ := bd_some hk
          refine k_callS1 (pc := 64) h (c_X5_unknownWeight hb hc5) cw_X5_29 ⟨⟨by decide, by decide⟩, Nat.zero_le _, Nat.zero_le _⟩ rfl (Nat.le_of_ble_eq_true rfl) dX5_weighedPence_64 ?_
          refine k_imul (pc := 67) h dX5_weighedPence_67 ?_
          refine k_iadd (pc := 68) h dX5_weighedPence_68 ?_
          refine k_nmi (pc := 69) h hk (fun v7 hk => ?_)
          refine k_istore (pc := 69) h [1, 2, 3, 0, 4, 5, 6, 7] (lv' := [(1, .ref b), (2, .int l2), (3, .int l3), (4, .int v7), (5, .int l5), (6, .int l6), (7, .int l7), (8, .int v1)]) dX5_weighedPence_69 (by decide) rfl ?_
          refine k_iload (pc := 71) h 4 dX5_weighedPence_71 rfl ?_
          refine k_iconst (pc := 73) h (x := (1 : Int32)) dX5_weighedPence_73 (by decide) ?_
          refine k_iload (pc := 74) h 7 dX5_weighedPence_74 rfl ?_
          refine k_ishl (pc := 76) h dX5_weighedPence_76 ?_
          refine k_ior (pc := 77) h dX5_weighedPence_77 ?_
          refine k_nmi (pc := 78) h hk (fun v8 hk => ?_)
          refine k_istore (pc := 78) h [1, 2, 3, 4, 0, 5, 6, 7] (lv' := [(1, .ref b), (2, .int l2), (3, .int l3), (4, .int v7), (5, .int v8), (6, .int l6), (7, .int l7), (8, .int v1)]) dX5_weighedPence_78 (by decide) rfl ?_
          refine k_sub h [0, 1, 2, 3, 4, 5, 6] (lv' := [(1, .ref b), (2, .int l2), (3, .int l3), (4, .int v7), (5, .int v8), (6, .int l6), (7, .int l7)]) rfl ?_
          exact EJ80 _ _ _ _ _ _ _ hk hz
  refine k_iconst (pc := 0) h (x := (0 : Int32)) dX5_weighedPence_0 (by decide) ?_
  refine k_istore (pc := 1) h [1, 2, 3, 4, 0] (lv' := [(0, .ref 43), (1, .ref b), (2, .int l2), (3, .int l3), (4, .int (0 : Int32))]) dX5_weighedPence_1 (by decide) rfl ?_
  refine k_iconst (pc := 3) h (x := (0 : Int32)) dX5_weighedPence_3 (by decide) ?_
  refine k_istore (pc := 4) h [1, 2, 3, 4, 5, 0] (lv' := [(0, .ref 43), (1, .ref b), (2, .int l2), (3, .int l3), (4, .int (0 : Int32)), (5, .int (0 : Int32))]) dX5_weighedPence_4 (by decide) rfl ?_
  refine k_ldc (pc := 6) h (x := (1000000 : Int32)) cs_X5_15 dX5_weighedPence_6 ?_
  refine k_istore (pc := 8) h [1, 2, 3, 4, 5, 6, 0] (lv' := [(0, .ref 43), (1, .ref b), (2, .int l2), (3, .int l3), (4, .int (0 : Int32)), (5, .int (0 : Int32)), (6, .int (1000000 : Int32))]) dX5_weighedPence_8 (by decide) rfl ?_
  refine k_iconst (pc := 10) h (x := (0 : Int32)) dX5_weighedPence_10 (by decide) ?_
  refine k_istore (pc := 11) h [1, 2, 3, 4, 5, 6, 7, 0] (lv' := [(0, .ref 43), (1, .ref b), (2, .int l2), (3, .int l3), (4, .int (0 : Int32)), (5, .int (0 : Int32)), (6, .int (1000000 : Int32)), (7, .int (0 : Int32))]) dX5_weighedPence_11 (by decide) rfl ?_
  refine k_sub h [1, 2, 3, 4, 5, 6, 7] (lv' := [(1, .ref b), (2, .int l2), (3, .int l3), (4, .int (0 : Int32)), (5, .int (0 : Int32)), (6, .int (1000000 : Int32)), (7, .int (0 : Int32))]) rfl ?_
  obtain ⟨r9, hl10, hk⟩ := bd_some hk
  refine LB13 _ _ _ _ _ hl10 ?_
  show G 93 [(4, .int r9)] [] w
  refine k_iload (pc := 93) h 0 dX5_weighedPence_93 rfl ?_
  have hk := Option.some.inj hk
  subst hk
  exact k_iret (pc := 95) h dX5_weighedPence_95 ⟨rfl, rfl, rfl, rfl, rfl, ⟨.int, rfl, rfl⟩⟩
def f_X6_misfits_j41 (b : Nat) (w : WW) (l1 : Int32) (l2 : Int32) (l3 : Int32) : Option ((Int32 × Int32) ⊕ (Int32)) := some (.inl (l2, (l3 + (1 : Int32))))
def f_X6_misfits_b4 (b : Nat) (w : WW) (l1 : Int32) (l2 : Int32) (l3 : Int32) : Option ((Int32 × Int32) ⊕ (Int32)) := if (w.1 b 2) ≤ l3 then some (.inr l2) else gd (inb l3 8) (gd (¬ (16 : Int32) = 0) ((f_X6_answerIn b w ((w.1 (b + 6) (l3).toNatClampNeg) / (16 : Int32)) l1).bind (fun p2 => gd (inb l3 8) (gd (¬ (16 : Int32) = 0) (if p2 = (rm32 (w.1 (b + 6) (l3).toNatClampNeg) (16 : Int32)) then f_X6_misfits_j41 b w l1 l2 l3 else f_X6_misfits_j41 b w l1 (l2 + (1 : Int32)) l3)))))
def f_X6_misfits (b : Nat) (w : WW) (l1 : Int32) : Option (Int32) := (lpf (fun s : Int32 × Int32 => f_X6_misfits_b4 b w l1 s.1 s.2) FU ((0 : Int32), (0 : Int32))).bind (fun r3 => some (r3))
set_option maxRecDepth 20000 in
set_option maxHeartbeats 4000000 in
theorem c_X6_misfits {lay : List LyS} {b : Nat} (hb : StAt lay b) {w : WW} {l1 : Int32} {z : Int32} (hk : f_X6_misfits b w l1 = some z) : Cn 3 yX6_misfits cX6_misfits 4 (some .int) lay [.ref b, .int l1] w (some (.int z)) w := by
  refine Cn.of (by decide +kernel) (Nat.le_of_ble_eq_true rfl) (fun G h => ?_)
  have h : Rules cX6_misfits RX6 "misfits" 4 (rmd 3 0 0) none _ _ lay 0 0 G := h
  show G 0 [(0, .ref b), (1, .int l1)] [] w
  unfold f_X6_misfits at hk
  have EJ41 : ∀ (l1 : Int32) (l2 : Int32) (l3 : Int32) (z : (Int32 × Int32) ⊕ (Int32)), f_X6_misfits_j41 b w l1 l2 l3 = some z → Sum.elim (fun s : Int32 × Int32 => G 4 [(0, .ref b), (1, .int l1), (2, .int s.1), (3, .int s.2)] [] w) (fun r : Int32 => G 47 [(2, .int r)] [] w) z → G 41 [(0, .ref b), (1, .int l1), (2, .int l2), (3, .int l3)] [] w := by
    intro l1 l2 l3 z hk hz
    unfold f_X6_misfits_j41 at hk
    refine k_iinc (pc := 41) h 3 [1, 2, 3, 0] (v := (l3 + (1 : Int32))) (lv' := [(0, .ref b), (1, .int l1), (2, .int l2), (3, .int (l3 + (1 : Int32)))]) dX6_misfits_41 rfl rfl (by decide) rfl ?_
    refine k_goto (tgt := 4) (pc := 44) h dX6_misfits_44 rfl ?_
    have hk := Option.some.inj hk
    subst hk
    exact hz
  have LB4 : ∀ (l1 : Int32), ∀ (nn : Nat) (s : Int32 × Int32) (r : Int32), lpf (fun s : Int32 × Int32 => f_X6_misfits_b4 b w l1 s.1 s.2) nn s = some r → (fun r : Int32 => G 47 [(2, .int r)] [] w) r → (fun s : Int32 × Int32 => G 4 [(0, .ref b), (1, .int l1), (2, .int s.1), (3, .int s.2)] [] w) s := by
    intro l1
    refine lpf_ind (fun s : Int32 × Int32 => G 4 [(0, .ref b), (1, .int l1), (2, .int s.1), (3, .int s.2)] [] w) (fun r : Int32 => G 47 [(2, .int r)] [] w) ?_
    rintro ⟨l2, l3⟩ z hk hz
    have hk : f_X6_misfits_b4 b w l1 l2 l3 = some z := hk
    unfold f_X6_misfits_b4 at hk
    show G 4 [(0, .ref b), (1, .int l1), (2, .int l2), (3, .int l3)] [] w
    refine k_iload_n (pc := 4) h 3 dX6_misfits_4 rfl ?_
    refine k_aload_n (pc := 5) h 0 dX6_misfits_5 rfl ?_
    refine k_geti (pc := 6) h fl_X6_44 hb.1 rfl dX6_misfits_6 ?_
    refine k_icmp_ge (tgt := 47) (pc := 9) h dX6_misfits_9 rfl hk (fun hc hk => ?_) (fun hc hk => ?_)
    · refine k_sub h [2] (lv' := [(2, .int l2)]) rfl ?_
      have hk := Option.some.inj hk
      subst hk
      exact hz
    · refine k_aload_n (pc := 12) h 0 dX6_misfits_12 rfl ?_
      refine k_aload_n (pc := 13) h 0 dX6_misfits_13 rfl ?_
      refine k_getr (pc := 14) h fl_X6_27 hb.1 rfl dX6_misfits_14 ?_
      refine k_iload_n (pc := 17) h 3 dX6_misfits_17 rfl ?_
      refine k_iald (pc := 18) h hb.2.2.2.2.2.2.1 dX6_misfits_18 hk (fun hk => ?_)
      refine k_bipush (pc := 19) h (x := (16 : Int32)) dX6_misfits_19 (by decide) ?_
      refine k_idiv (pc := 21) h dX6_misfits_21 hk (fun hk => ?_)
      refine k_iload_n (pc := 22) h 1 dX6_misfits_22 rfl ?_
      obtain ⟨p2, hc1, hk⟩ := bd_some hk
      refine k_callV1 (pc := 23) h (c_X6_answerIn hb hc1) cw_X6_60 hb.1 rfl ⟨⟨by decide, by decide⟩, Nat.zero_le _, Nat.zero_le _⟩ rfl (Nat.le_of_ble_eq_true rfl) dX6_misfits_23 ?_
      refine k_aload_n (pc := 26) h 0 dX6_misfits_26 rfl ?_
      refine k_getr (pc := 27) h fl_X6_27 hb.1 rfl dX6_misfits_27 ?_
      refine k_iload_n (pc := 30) h 3 dX6_misfits_30 rfl ?_
      refine k_iald (pc := 31) h hb.2.2.2.2.2.2.1 dX6_misfits_31 hk (fun hk => ?_)
      refine k_bipush (pc := 32) h (x := (16 : Int32)) dX6_misfits_32 (by decide) ?_
      refine k_irem (pc := 34) h dX6_misfits_34 hk (fun hk => ?_)
      refine k_icmp_eq (tgt := 41) (pc := 35) h dX6_misfits_35 rfl hk (fun hc hk => ?_) (fun hc hk => ?_)
      · exact EJ41 _ _ _ _ hk hz
      · refine k_iinc (pc := 38) h 2 [1, 2, 0, 3] (v := (l2 + (1 : Int32))) (lv' := [(0, .ref b), (1, .int l1), (2, .int (l2 + (1 : Int32))), (3, .int l3)]) dX6_misfits_38 rfl rfl (by decide) rfl ?_
        exact EJ41 _ _ _ _ hk hz
  refine k_iconst (pc := 0) h (x := (0 : Int32)) dX6_misfits_0 (by decide) ?_
  refine k_istore_n (pc := 1) h [1, 2, 0] (lv' := [(0, .ref b), (1, .int l1), (2, .int (0 : Int32))]) dX6_misfits_1 rfl (by decide) rfl ?_
  refine k_iconst (pc := 2) h (x := (0 : Int32)) dX6_misfits_2 (by decide) ?_
  refine k_istore_n (pc := 3) h [1, 2, 3, 0] (lv' := [(0, .ref b), (1, .int l1), (2, .int (0 : Int32)), (3, .int (0 : Int32))]) dX6_misfits_3 rfl (by decide) rfl ?_
  obtain ⟨r3, hl4, hk⟩ := bd_some hk
  refine LB4 _ _ _ _ hl4 ?_
  show G 47 [(2, .int r3)] [] w
  refine k_iload_n (pc := 47) h 0 dX6_misfits_47 rfl ?_
  have hk := Option.some.inj hk
  subst hk
  exact k_iret (pc := 48) h dX6_misfits_48 ⟨rfl, rfl, rfl, rfl, rfl, ⟨.int, rfl, rfl⟩⟩
def f_X6_setAlike_j40 (b : Nat) (w : WW) (l1 : Int32) (l2 : Int32) (l3 : Int32) (l4 : Int32) (l5 : Int32) : Option ((Int32 × Int32) ⊕ (Int32)) := some (.inl (l4, (l5 + (1 : Int32))))
def f_X6_setAlike_b13 (b : Nat) (w : WW) (l1 : Int32) (l2 : Int32) (l3 : Int32) (l4 : Int32) (l5 : Int32) : Option ((Int32 × Int32) ⊕ (Int32)) := if (16 : Int32) ≤ l5 then some (.inr l4) else (f_X6_answerIn b w l1 l5).bind (fun p4 => if p4 = l3 then nmv (l4 ||| (shl32 (1 : Int32) l5)) (fun v5 => f_X6_setAlike_j40 b w l1 l2 l3 v5 l5) else f_X6_setAlike_j40 b w l1 l2 l3 l4 l5)
def f_X6_setAlike (b : Nat) (w : WW) (l1 : Int32) (l2 : Int32) : Option (WW) := (f_X6_answerIn b w l1 l2).bind (fun p2 => (lpf (fun s : Int32 × Int32 => f_X6_setAlike_b13 b w l1 l2 p2 s.1 s.2) FU ((0 : Int32), (0 : Int32))).bind (fun r6 => gd (inb ((l1 * (16 : Int32)) + l2) 112) (stI w (b + 5) (((l1 * (16 : Int32)) + l2)).toNatClampNeg r6 (fun u8 => some u8))))
set_option maxRecDepth 20000 in
set_option maxHeartbeats 4000000 in
theorem c_X6_setAlike {lay : List LyS} {b : Nat} (hb : StAt lay b) {w : WW} {l1 : Int32} {l2 : Int32} {z : WW} (hk : f_X6_setAlike b w l1 l2 = some z) : Cn 3 yX6_setAlike cX6_setAlike 6 none lay [.ref b, .int l1, .int l2] w none z := by
  refine Cn.of (by decide +kernel) (Nat.le_of_ble_eq_true rfl) (fun G h => ?_)
  have h : Rules cX6_setAlike RX6 "setAlike" 6 (rmd 3 0 0) none _ _ lay 0 0 G := h
  show G 0 [(0, .ref b), (1, .int l1), (2, .int l2)] [] w
  unfold f_X6_setAlike at hk
  have EJ40 : ∀ (w : WW) (l1 : Int32) (l2 : Int32) (l3 : Int32) (l4 : Int32) (l5 : Int32) (z : (Int32 × Int32) ⊕ (Int32)), f_X6_setAlike_j40 b w l1 l2 l3 l4 l5 = some z → Sum.elim (fun s : Int32 × Int32 => G 13 [(0, .ref b), (1, .int l1), (2, .int l2), (3, .int l3), (4, .int s.1), (5, .int s.2)] [] w) (fun r : Int32 => G 46 [(0, .ref b), (1, .int l1), (2, .int l2), (4, .int r)] [] w) z → G 40 [(0, .ref b), (1, .int l1), (2, .int l2), (3, .int l3), (4, .int l4), (5, .int l5)] [] w := by
    intro w l1 l2 l3 l4 l5 z hk hz
    unfold f_X6_setAlike_j40 at hk
    refine k_iinc (pc := 40) h 5 [1, 2, 3, 4, 5, 0] (v := (l5 + (1 : Int32))) (lv' := [(0, .ref b), (1, .int l1), (2, .int l2), (3, .int l3), (4, .int l4), (5, .int (l5 + (1 : Int32)))]) dX6_setAlike_40 rfl rfl (by decide) rfl ?_
    refine k_goto (tgt := 13) (pc := 43) h dX6_setAlike_43 rfl ?_
    have hk := Option.some.inj hk
    subst hk
    exact hz
  have LB13 : ∀ (w : WW) (l1 : Int32) (l2 : Int32) (l3 : Int32), ∀ (nn : Nat) (s : Int32 × Int32) (r : Int32), lpf (fun s : Int32 × Int32 => f_X6_setAlike_b13 b w l1 l2 l3 s.1 s.2) nn s = some r → (fun r : Int32 => G 46 [(0, .ref b), (1, .int l1), (2, .int l2), (4, .int r)] [] w) r → (fun s : Int32 × Int32 => G 13 [(0, .ref b), (1, .int l1), (2, .int l2), (3, .int l3), (4, .int s.1), (5, .int s.2)] [] w) s := by
    intro w l1 l2 l3
    refine lpf_ind (fun s : Int32 × Int32 => G 13 [(0, .ref b), (1, .int l1), (2, .int l2), (3, .int l3), (4, .int s.1), (5, .int s.2)] [] w) (fun r : Int32 => G 46 [(0, .ref b), (1, .int l1), (2, .int l2), (4, .int r)] [] w) ?_
    rintro ⟨l4, l5⟩ z hk hz
    have hk : f_X6_setAlike_b13 b w l1 l2 l3 l4 l5 = some z := hk
    unfold f_X6_setAlike_b13 at hk
    show G 13 [(0, .ref b), (1, .int l1), (2, .int l2), (3, .int l3), (4, .int l4), (5, .int l5)] [] w
    refine k_iload (pc := 13) h 5 dX6_setAlike_13 rfl ?_
    refine k_bipush (pc := 15) h (x := (16 : Int32)) dX6_setAlike_15 (by decide) ?_
    refine k_icmp_ge (tgt := 46) (pc := 17) h dX6_setAlike_17 rfl hk (fun hc hk => ?_) (fun hc hk => ?_)
    · refine k_sub h [0, 1, 2, 4] (lv' := [(0, .ref b), (1, .int l1), (2, .int l2), (4, .int l4)]) rfl ?_
      have hk := Option.some.inj hk
      subst hk
      exact hz
    · refine k_aload_n (pc := 20) h 0 dX6_setAlike_20 rfl ?_
      refine k_iload_n (pc := 21) h 1 dX6_setAlike_21 rfl ?_
      refine k_iload (pc := 22) h 5 dX6_setAlike_22 rfl ?_
      obtain ⟨p4, hc3, hk⟩ := bd_some hk
      refine k_callV1 (pc := 24) h (c_X6_answerIn hb hc3) cw_X6_60 hb.1 rfl ⟨⟨by decide, by decide⟩, Nat.zero_le _, Nat.zero_le _⟩ rfl (Nat.le_of_ble_eq_true rfl) dX6_setAlike_24 ?_
      refine k_iload_n (pc := 27) h 3 dX6_setAlike_27 rfl ?_
      refine k_icmp_ne (tgt := 40) (pc := 28) h dX6_setAlike_28 rfl hk (fun hc hk => ?_) (fun hc hk => ?_)
      · exact EJ40 _ _ _ _ _ _ _ hk hz
      · refine k_iload (pc := 31) h 4 dX6_setAlike_31 rfl ?_
        refine k_iconst (pc := 33) h (x := (1 : Int32)) dX6_setAlike_33 (by decide) ?_
        refine k_iload (pc := 34) h 5 dX6_setAlike_34 rfl ?_
        refine k_ishl (pc := 36) h dX6_setAlike_36 ?_
        refine k_ior (pc := 37) h dX6_setAlike_37 ?_
        refine k_nmi (pc := 38) h hk (fun v5 hk => ?_)
        refine k_istore (pc := 38) h [1, 2, 3, 4, 0, 5] (lv' := [(0, .ref b), (1, .int l1), (2, .int l2), (3, .int l3), (4, .int v5), (5, .int l5)]) dX6_setAlike_38 (by decide) rfl ?_
        exact EJ40 _ _ _ _ _ _ _ hk hz
  refine k_aload_n (pc := 0) h 0 dX6_setAlike_0 rfl ?_
  refine k_iload_n (pc := 1) h 1 dX6_setAlike_1 rfl ?_
  refine k_iload_n (pc := 2) h 2 dX6_setAlike_2 rfl ?_
  obtain ⟨p2, hc1, hk⟩ := bd_some hk
  refine k_callV1 (pc := 3) h (c_X6_answerIn hb hc1) cw_X6_60 hb.1 rfl ⟨⟨by decide, by decide⟩, Nat.zero_le _, Nat.zero_le _⟩ rfl (Nat.le_of_ble_eq_true rfl) dX6_setAlike_3 ?_
  refine k_istore_n (pc := 6) h [1, 2, 3, 0] (lv' := [(0, .ref b), (1, .int l1), (2, .int l2), (3, .int p2)]) dX6_setAlike_6 rfl (by decide) rfl ?_
  refine k_iconst (pc := 7) h (x := (0 : Int32)) dX6_setAlike_7 (by decide) ?_
  refine k_istore (pc := 8) h [1, 2, 3, 4, 0] (lv' := [(0, .ref b), (1, .int l1), (2, .int l2), (3, .int p2), (4, .int (0 : Int32))]) dX6_setAlike_8 (by decide) rfl ?_
  refine k_iconst (pc := 10) h (x := (0 : Int32)) dX6_setAlike_10 (by decide) ?_
  refine k_istore (pc := 11) h [1, 2, 3, 4, 5, 0] (lv' := [(0, .ref b), (1, .int l1), (2, .int l2), (3, .int p2), (4, .int (0 : Int32)), (5, .int (0 : Int32))]) dX6_setAlike_11 (by decide) rfl ?_
  obtain ⟨r6, hl7, hk⟩ := bd_some hk
  refine LB13 _ _ _ _ _ _ _ hl7 ?_
  show G 46 [(0, .ref b), (1, .int l1), (2, .int l2), (4, .int r6)] [] w
  refine k_aload_n (pc := 46) h 0 dX6_setAlike_46 rfl ?_
  refine k_getr (pc := 47) h fl_X6_24 hb.1 rfl dX6_setAlike_47 ?_
  refine k_iload_n (pc := 50) h 1 dX6_setAlike_50 rfl ?_
  refine k_bipush (pc := 51) h (x := (16 : Int32)) dX6_setAlike_51 (by decide) ?_
  refine k_imul (pc := 53) h dX6_setAlike_53 ?_
  refine k_iload_n (pc := 54) h 2 dX6_setAlike_54 rfl ?_
  refine k_iadd (pc := 55) h dX6_setAlike_55 ?_
  refine k_iload (pc := 56) h 3 dX6_setAlike_56 rfl ?_
  refine k_iast (pc := 58) h hb.2.2.2.2.2.1 dX6_setAlike_58 hk (fun u8 hk => ?_)
  have hk := Option.some.inj hk
  subst hk
  exact k_vret (pc := 59) h dX6_setAlike_59 ⟨rfl, rfl, rfl, rfl, rfl, rfl⟩
def f_X7_answer_j16 (w : WW) : Option (Int32 × WW) := (f_X7_refuse w (-2 : Int32) (-2 : Int32)).bind (fun p4 => some (p4.1, p4.2))
def f_X7_answer (w : WW) (l1 : Int32) (l2 : Int32) : Option (Int32 × WW) := (f_X7_isQuestion w l1).bind (fun p2 => if p2 = 0 then f_X7_answer_j16 w else (f_X7_isCase w l2).bind (fun p6 => if p6 = 0 then f_X7_answer_j16 w else (f_X6_answerIn 1 w l1 l2).bind (fun p8 => some (p8, w))))
set_option maxRecDepth 20000 in
set_option maxHeartbeats 4000000 in
theorem c_X7_answer {w : WW} {l1 : Int32} {l2 : Int32} {z : Int32 × WW} (hk : f_X7_answer w l1 l2 = some z) : Cn 3 yX7_answer cX7_answer 3 (some .int) LAY [.ref 0, .int l1, .int l2] w (some (.int z.1)) z.2 := by
  refine Cn.of (by decide +kernel) (Nat.le_of_ble_eq_true rfl) (fun G h => ?_)
  have h : Rules cX7_answer RX7 "answer" 3 (rmd 3 0 0) none _ _ LAY 0 0 G := h
  show G 0 [(0, .ref 0), (1, .int l1), (2, .int l2)] [] w
  unfold f_X7_answer at hk
  have EJ16 : ∀ (w : WW), f_X7_answer_j16 w = some z → G 16 [(0, .ref 0)] [] w := by
    intro w hk
    unfold f_X7_answer_j16 at hk
    refine k_aload_n (pc := 16) h 0 dX7_answer_16 rfl ?_
    refine k_bipush (pc := 17) h (x := (-2 : Int32)) dX7_answer_17 (by decide) ?_
    refine k_bipush (pc := 19) h (x := (-2 : Int32)) dX7_answer_19 (by decide) ?_
    obtain ⟨p4, hc3, hk⟩ := bd_some hk
    refine k_callV1 (pc := 21) h (c_X7_refuse hc3) cw_X7_79 ly_0 rfl ⟨⟨by decide, by decide⟩, Nat.zero_le _, Nat.zero_le _⟩ rfl (Nat.le_of_ble_eq_true rfl) dX7_answer_21 ?_
    have hk := Option.some.inj hk
    subst hk
    exact k_iret (pc := 24) h dX7_answer_24 ⟨rfl, rfl, rfl, rfl, rfl, ⟨.int, rfl, rfl⟩⟩
  refine k_aload_n (pc := 0) h 0 dX7_answer_0 rfl ?_
  refine k_iload_n (pc := 1) h 1 dX7_answer_1 rfl ?_
  obtain ⟨p2, hc1, hk⟩ := bd_some hk
  refine k_callV1 (pc := 2) h (c_X7_isQuestion hc1) cw_X7_102 ly_0 rfl ⟨⟨by decide, by decide⟩, Nat.zero_le _, Nat.zero_le _⟩ rfl (Nat.le_of_ble_eq_true rfl) dX7_answer_2 ?_
  refine k_if_eq (tgt := 16) (pc := 5) h dX7_answer_5 rfl hk (fun hc hk => ?_) (fun hc hk => ?_)
  · refine k_sub h [0] (lv' := [(0, .ref 0)]) rfl ?_
    exact EJ16 _ hk
  · refine k_aload_n (pc := 8) h 0 dX7_answer_8 rfl ?_
    refine k_iload_n (pc := 9) h 2 dX7_answer_9 rfl ?_
    obtain ⟨p6, hc5, hk⟩ := bd_some hk
    refine k_callV1 (pc := 10) h (c_X7_isCase hc5) cw_X7_91 ly_0 rfl ⟨⟨by decide, by decide⟩, Nat.zero_le _, Nat.zero_le _⟩ rfl (Nat.le_of_ble_eq_true rfl) dX7_answer_10 ?_
    refine k_if_ne (tgt := 25) (pc := 13) h dX7_answer_13 rfl hk (fun hc hk => ?_) (fun hc hk => ?_)
    · refine k_aload_n (pc := 25) h 0 dX7_answer_25 rfl ?_
      refine k_getr (pc := 26) h fl_X7_10 ly_0 rfl dX7_answer_26 ?_
      refine k_iload_n (pc := 29) h 1 dX7_answer_29 rfl ?_
      refine k_iload_n (pc := 30) h 2 dX7_answer_30 rfl ?_
      obtain ⟨p8, hc7, hk⟩ := bd_some hk
      refine k_callV1 (pc := 31) h (c_X6_answerIn st_1 hc7) cw_X7_154 ly_1 rfl ⟨⟨by decide, by decide⟩, Nat.zero_le _, Nat.zero_le _⟩ rfl (Nat.le_of_ble_eq_true rfl) dX7_answer_31 ?_
      have hk := Option.some.inj hk
      subst hk
      exact k_iret (pc := 34) h dX7_answer_34 ⟨rfl, rfl, rfl, rfl, rfl, ⟨.int, rfl, rfl⟩⟩
    · refine k_sub h [0] (lv' := [(0, .ref 0)]) rfl ?_
      exact EJ16 _ hk
def f_X7_forget (w : WW) : Option (Int32 × WW) := if (1 : Int32) ≤ (w.1 1 2) then (f_X6_dropFirstAsked 1 w).bind (fun p2 => some ((p2.1 1 2), p2)) else (f_X7_refuse w (-3 : Int32) (-3 : Int32)).bind (fun p4 => some (p4.1, p4.2))
set_option maxRecDepth 20000 in
set_option maxHeartbeats 4000000 in
theorem c_X7_forget {w : WW} {z : Int32 × WW} (hk : f_X7_forget w = some z) : Cn 3 yX7_forget cX7_forget 1 (some .int) LAY [.ref 0] w (some (.int z.1)) z.2 := by
  refine Cn.of (by decide +kernel) (Nat.le_of_ble_eq_true rfl) (fun G h => ?_)
  have h : Rules cX7_forget RX7 "forget" 1 (rmd 3 0 0) none _ _ LAY 0 0 G := h
  show G 0 [(0, .ref 0)] [] w
  unfold f_X7_forget at hk
  refine k_aload_n (pc := 0) h 0 dX7_forget_0 rfl ?_
  refine k_getr (pc := 1) h fl_X7_10 ly_0 rfl dX7_forget_1 ?_
  refine k_geti (pc := 4) h fl_X7_128 ly_1 rfl dX7_forget_4 ?_
  refine k_iconst (pc := 7) h (x := (1 : Int32)) dX7_forget_7 (by decide) ?_
  refine k_icmp_ge (tgt := 20) (pc := 8) h dX7_forget_8 rfl hk (fun hc hk => ?_) (fun hc hk => ?_)
  · refine k_aload_n (pc := 20) h 0 dX7_forget_20 rfl ?_
    refine k_getr (pc := 21) h fl_X7_10 ly_0 rfl dX7_forget_21 ?_
    obtain ⟨p2, hc1, hk⟩ := bd_some hk
    refine k_callV0 (pc := 24) h (c_X6_dropFirstAsked st_1 hc1) cw_X7_139 ly_1 rfl ⟨⟨by decide, by decide⟩, Nat.zero_le _, Nat.zero_le _⟩ rfl (Nat.le_of_ble_eq_true rfl) dX7_forget_24 ?_
    refine k_aload_n (pc := 27) h 0 dX7_forget_27 rfl ?_
    refine k_getr (pc := 28) h fl_X7_10 ly_0 rfl dX7_forget_28 ?_
    refine k_geti (pc := 31) h fl_X7_128 ly_1 rfl dX7_forget_31 ?_
    have hk := Option.some.inj hk
    subst hk
    exact k_iret (pc := 34) h dX7_forget_34 ⟨rfl, rfl, rfl, rfl, rfl, ⟨.int, rfl, rfl⟩⟩
  · refine k_aload_n (pc := 11) h 0 dX7_forget_11 rfl ?_
    refine k_bipush (pc := 12) h (x := (-3 : Int32)) dX7_forget_12 (by decide) ?_
    refine k_bipush (pc := 14) h (x := (-3 : Int32)) dX7_forget_14 (by decide) ?_
    obtain ⟨p4, hc3, hk⟩ := bd_some hk
    refine k_callV1 (pc := 16) h (c_X7_refuse hc3) cw_X7_79 ly_0 rfl ⟨⟨by decide, by decide⟩, Nat.zero_le _, Nat.zero_le _⟩ rfl (Nat.le_of_ble_eq_true rfl) dX7_forget_16 ?_
    have hk := Option.some.inj hk
    subst hk
    exact k_iret (pc := 19) h dX7_forget_19 ⟨rfl, rfl, rfl, rfl, rfl, ⟨.int, rfl, rfl⟩⟩
def f_X8_areSame_j74 (w : WW) (l1 : Int32) (l2 : Int32) (l3 : Int32) (l5 : Int32) (l6 : Int32) (s0 : Int32) : Option ((Int32 × Int32) ⊕ (Int32)) := some (.inl (s0, (l6 + (1 : Int32))))
def f_X8_areSame_j73 (w : WW) (l1 : Int32) (l2 : Int32) (l3 : Int32) (l5 : Int32) (l6 : Int32) : Option ((Int32 × Int32) ⊕ (Int32)) := f_X8_areSame_j74 w l1 l2 l3 l5 l6 (0 : Int32)
def f_X8_areSame_j69 (w : WW) (l1 : Int32) (l2 : Int32) (l3 : Int32) (l5 : Int32) (l6 : Int32) : Option ((Int32 × Int32) ⊕ (Int32)) := f_X8_areSame_j74 w l1 l2 l3 l5 l6 (1 : Int32)
def f_X8_areSame_b18 (w : WW) (l1 : Int32) (l2 : Int32) (l3 : Int32) (l5 : Int32) (l4 : Int32) (l6 : Int32) : Option ((Int32 × Int32) ⊕ (Int32)) := if l5 ≤ l6 then some (.inr l4) else if l4 = 0 then f_X8_areSame_j73 w l1 l2 l3 l5 l6 else (f_X8_has w l3 l5).bind (fun p2 => if p2 = 0 then f_X8_areSame_j69 w l1 l2 l3 l5 l6 else (f_X8_has w l3 l6).bind (fun p4 => if p4 = 0 then f_X8_areSame_j69 w l1 l2 l3 l5 l6 else (f_X8_parts w l1 l5 l6).bind (fun p6 => (f_X8_parts w l2 l5 l6).bind (fun p8 => if p6 = p8 then f_X8_areSame_j69 w l1 l2 l3 l5 l6 else f_X8_areSame_j73 w l1 l2 l3 l5 l6))))
def f_X8_areSame_b6 (w : WW) (l1 : Int32) (l2 : Int32) (l3 : Int32) (l4 : Int32) (l5 : Int32) : Option ((Int32 × Int32) ⊕ (Int32)) := if (w.1 46 1) ≤ l5 then some (.inr l4) else (lpf (fun s : Int32 × Int32 => f_X8_areSame_b18 w l1 l2 l3 l5 s.1 s.2) FU (l4, (0 : Int32))).bind (fun r9 => some (.inl (r9, (l5 + (1 : Int32)))))
def f_X8_areSame (w : WW) (l1 : Int32) (l2 : Int32) (l3 : Int32) : Option (Int32) := (lpf (fun s : Int32 × Int32 => f_X8_areSame_b6 w l1 l2 l3 s.1 s.2) FU ((1 : Int32), (0 : Int32))).bind (fun r11 => gd (r11 &&& 1 = r11) (some (r11)))
set_option maxRecDepth 20000 in
set_option maxHeartbeats 4000000 in
theorem c_X8_areSame {w : WW} {l1 : Int32} {l2 : Int32} {l3 : Int32} {z : Int32} (hk : f_X8_areSame w l1 l2 l3 = some z) : Cn 3 yX8_areSame cX8_areSame 7 (some .boolean) LAY [.ref 46, .int l1, .int l2, .int l3] w (some (.int z)) w := by
  refine Cn.of (by decide +kernel) (Nat.le_of_ble_eq_true rfl) (fun G h => ?_)
  have h : Rules cX8_areSame RX8 "areSame" 7 (rmd 3 0 0) none _ _ LAY 0 0 G := h
  show G 0 [(0, .ref 46), (1, .int l1), (2, .int l2), (3, .int l3)] [] w
  unfold f_X8_areSame at hk
  have EJ74 : ∀ (l1 : Int32) (l2 : Int32) (l3 : Int32) (l5 : Int32) (l6 : Int32) (s0 : Int32) (z : (Int32 × Int32) ⊕ (Int32)), f_X8_areSame_j74 w l1 l2 l3 l5 l6 s0 = some z → Sum.elim (fun s : Int32 × Int32 => G 18 [(0, .ref 46), (1, .int l1), (2, .int l2), (3, .int l3), (4, .int s.1), (5, .int l5), (6, .int s.2)] [] w) (fun r : Int32 => G 82 [(0, .ref 46), (1, .int l1), (2, .int l2), (3, .int l3), (4, .int r), (5, .int l5)] [] w) z → G 74 [(0, .ref 46), (1, .int l1), (2, .int l2), (3, .int l3), (5, .int l5), (6, .int l6)] [.int s0] w := by
    intro l1 l2 l3 l5 l6 s0 z hk hz
    unfold f_X8_areSame_j74 at hk
    refine k_istore (pc := 74) h [1, 2, 3, 4, 0, 5, 6] (lv' := [(0, .ref 46), (1, .int l1), (2, .int l2), (3, .int l3), (4, .int s0), (5, .int l5), (6, .int l6)]) dX8_areSame_74 (by decide) rfl ?_
    refine k_iinc (pc := 76) h 6 [1, 2, 3, 4, 5, 6, 0] (v := (l6 + (1 : Int32))) (lv' := [(0, .ref 46), (1, .int l1), (2, .int l2), (3, .int l3), (4, .int s0), (5, .int l5), (6, .int (l6 + (1 : Int32)))]) dX8_areSame_76 rfl rfl (by decide) rfl ?_
    refine k_goto (tgt := 18) (pc := 79) h dX8_areSame_79 rfl ?_
    have hk := Option.some.inj hk
    subst hk
    exact hz
  have EJ73 : ∀ (l1 : Int32) (l2 : Int32) (l3 : Int32) (l5 : Int32) (l6 : Int32) (z : (Int32 × Int32) ⊕ (Int32)), f_X8_areSame_j73 w l1 l2 l3 l5 l6 = some z → Sum.elim (fun s : Int32 × Int32 => G 18 [(0, .ref 46), (1, .int l1), (2, .int l2), (3, .int l3), (4, .int s.1), (5, .int l5), (6, .int s.2)] [] w) (fun r : Int32 => G 82 [(0, .ref 46), (1, .int l1), (2, .int l2), (3, .int l3), (4, .int r), (5, .int l5)] [] w) z → G 73 [(0, .ref 46), (1, .int l1), (2, .int l2), (3, .int l3), (5, .int l5), (6, .int l6)] [] w := by
    intro l1 l2 l3 l5 l6 z hk hz
    unfold f_X8_areSame_j73 at hk
    refine k_iconst (pc := 73) h (x := (0 : Int32)) dX8_areSame_73 (by decide) ?_
    exact EJ74 _ _ _ _ _ _ _ hk hz
  have EJ69 : ∀ (l1 : Int32) (l2 : Int32) (l3 : Int32) (l5 : Int32) (l6 : Int32) (z : (Int32 × Int32) ⊕ (Int32)), f_X8_areSame_j69 w l1 l2 l3 l5 l6 = some z → Sum.elim (fun s : Int32 × Int32 => G 18 [(0, .ref 46), (1, .int l1), (2, .int l2), (3, .int l3), (4, .int s.1), (5, .int l5), (6, .int s.2)] [] w) (fun r : Int32 => G 82 [(0, .ref 46), (1, .int l1), (2, .int l2), (3, .int l3), (4, .int r), (5, .int l5)] [] w) z → G 69 [(0, .ref 46), (1, .int l1), (2, .int l2), (3, .int l3), (5, .int l5), (6, .int l6)] [] w := by
    intro l1 l2 l3 l5 l6 z hk hz
    unfold f_X8_areSame_j69 at hk
    refine k_iconst (pc := 69) h (x := (1 : Int32)) dX8_areSame_69 (by decide) ?_
    refine k_goto (tgt := 74) (pc := 70) h dX8_areSame_70 rfl ?_
    exact EJ74 _ _ _ _ _ _ _ hk hz
  have LB18 : ∀ (l1 : Int32) (l2 : Int32) (l3 : Int32) (l5 : Int32), ∀ (nn : Nat) (s : Int32 × Int32) (r : Int32), lpf (fun s : Int32 × Int32 => f_X8_areSame_b18 w l1 l2 l3 l5 s.1 s.2) nn s = some r → (fun r : Int32 => G 82 [(0, .ref 46), (1, .int l1), (2, .int l2), (3, .int l3), (4, .int r), (5, .int l5)] [] w) r → (fun s : Int32 × Int32 => G 18 [(0, .ref 46), (1, .int l1), (2, .int l2), (3, .int l3), (4, .int s.1), (5, .int l5), (6, .int s.2)] [] w) s := by
    intro l1 l2 l3 l5
    refine lpf_ind (fun s : Int32 × Int32 => G 18 [(0, .ref 46), (1, .int l1), (2, .int l2), (3, .int l3), (4, .int s.1), (5, .int l5), (6, .int s.2)] [] w) (fun r : Int32 => G 82 [(0, .ref 46), (1, .int l1), (2, .int l2), (3, .int l3), (4, .int r), (5, .int l5)] [] w) ?_
    rintro ⟨l4, l6⟩ z hk hz
    have hk : f_X8_areSame_b18 w l1 l2 l3 l5 l4 l6 = some z := hk
    unfold f_X8_areSame_b18 at hk
    show G 18 [(0, .ref 46), (1, .int l1), (2, .int l2), (3, .int l3), (4, .int l4), (5, .int l5), (6, .int l6)] [] w
    refine k_iload (pc := 18) h 6 dX8_areSame_18 rfl ?_
    refine k_iload (pc := 20) h 5 dX8_areSame_20 rfl ?_
    refine k_icmp_ge (tgt := 82) (pc := 22) h dX8_areSame_22 rfl hk (fun hc hk => ?_) (fun hc hk => ?_)
    · refine k_sub h [0, 1, 2, 3, 4, 5] (lv' := [(0, .ref 46), (1, .int l1), (2, .int l2), (3, .int l3), (4, .int l4), (5, .int l5)]) rfl ?_
      have hk := Option.some.inj hk
      subst hk
      exact hz
    · refine k_iload (pc := 25) h 4 dX8_areSame_25 rfl ?_
      refine k_if_eq (tgt := 73) (pc := 27) h dX8_areSame_27 rfl hk (fun hc hk => ?_) (fun hc hk => ?_)
      · refine k_sub h [0, 1, 2, 3, 5, 6] (lv' := [(0, .ref 46), (1, .int l1), (2, .int l2), (3, .int l3), (5, .int l5), (6, .int l6)]) rfl ?_
        exact EJ73 _ _ _ _ _ _ hk hz
      · refine k_iload_n (pc := 30) h 3 dX8_areSame_30 rfl ?_
        refine k_iload (pc := 31) h 5 dX8_areSame_31 rfl ?_
        obtain ⟨p2, hc1, hk⟩ := bd_some hk
        refine k_callS1 (pc := 33) h (c_X8_has hc1) cw_X8_188 ⟨⟨by decide, by decide⟩, Nat.zero_le _, Nat.zero_le _⟩ rfl (Nat.le_of_ble_eq_true rfl) dX8_areSame_33 ?_
        refine k_if_eq (tgt := 69) (pc := 36) h dX8_areSame_36 rfl hk (fun hc hk => ?_) (fun hc hk => ?_)
        · refine k_sub h [0, 1, 2, 3, 5, 6] (lv' := [(0, .ref 46), (1, .int l1), (2, .int l2), (3, .int l3), (5, .int l5), (6, .int l6)]) rfl ?_
          exact EJ69 _ _ _ _ _ _ hk hz
        · refine k_iload_n (pc := 39) h 3 dX8_areSame_39 rfl ?_
          refine k_iload (pc := 40) h 6 dX8_areSame_40 rfl ?_
          obtain ⟨p4, hc3, hk⟩ := bd_some hk
          refine k_callS1 (pc := 42) h (c_X8_has hc3) cw_X8_188 ⟨⟨by decide, by decide⟩, Nat.zero_le _, Nat.zero_le _⟩ rfl (Nat.le_of_ble_eq_true rfl) dX8_areSame_42 ?_
          refine k_if_eq (tgt := 69) (pc := 45) h dX8_areSame_45 rfl hk (fun hc hk => ?_) (fun hc hk => ?_)
          · refine k_sub h [0, 1, 2, 3, 5, 6] (lv' := [(0, .ref 46), (1, .int l1), (2, .int l2), (3, .int l3), (5, .int l5), (6, .int l6)]) rfl ?_
            exact EJ69 _ _ _ _ _ _ hk hz
          · refine k_aload_n (pc := 48) h 0 dX8_areSame_48 rfl ?_
            refine k_iload_n (pc := 49) h 1 dX8_areSame_49 rfl ?_
            refine k_iload (pc := 50) h 5 dX8_areSame_50 rfl ?_
            refine k_iload (pc := 52) h 6 dX8_areSame_52 rfl ?_
            obtain ⟨p6, hc5, hk⟩ := bd_some hk
            refine k_callV1 (pc := 54) h (c_X8_parts hc5) cw_X8_201 ly_46 rfl ⟨⟨by decide, by decide⟩, Nat.zero_le _, Nat.zero_le _⟩ rfl (Nat.le_of_ble_eq_true rfl) dX8_areSame_54 ?_
            refine k_aload_n (pc := 57) h 0 dX8_areSame_57 rfl ?_
            refine k_iload_n (pc := 58) h 2 dX8_areSame_58 rfl ?_
            refine k_iload (pc := 59) h 5 dX8_areSame_59 rfl ?_
            refine k_iload (pc := 61) h 6 dX8_areSame_61 rfl ?_
            obtain ⟨p8, hc7, hk⟩ := bd_some hk
            refine k_callV1 (pc := 63) h (c_X8_parts hc7) cw_X8_201 ly_46 rfl ⟨⟨by decide, by decide⟩, Nat.zero_le _, Nat.zero_le _⟩ rfl (Nat.le_of_ble_eq_true rfl) dX8_areSame_63 ?_
            refine k_icmp_ne (tgt := 73) (pc := 66) h dX8_areSame_66 rfl hk (fun hc hk => ?_) (fun hc hk => ?_)
            · refine k_sub h [0, 1, 2, 3, 5, 6] (lv' := [(0, .ref 46), (1, .int l1), (2, .int l2), (3, .int l3), (5, .int l5), (6, .int l6)]) rfl ?_
              exact EJ73 _ _ _ _ _ _ hk hz
            · refine k_sub h [0, 1, 2, 3, 5, 6] (lv' := [(0, .ref 46), (1, .int l1), (2, .int l2), (3, .int l3), (5, .int l5), (6, .int l6)]) rfl ?_
              exact EJ69 _ _ _ _ _ _ hk hz
  have LB6 : ∀ (l1 : Int32) (l2 : Int32) (l3 : Int32), ∀ (nn : Nat) (s : Int32 × Int32) (r : Int32), lpf (fun s : Int32 × Int32 => f_X8_areSame_b6 w l1 l2 l3 s.1 s.2) nn s = some r → (fun r : Int32 => G 88 [(4, .int r)] [] w) r → (fun s : Int32 × Int32 => G 6 [(0, .ref 46), (1, .int l1), (2, .int l2), (3, .int l3), (4, .int s.1), (5, .int s.2)] [] w) s := by
    intro l1 l2 l3
    refine lpf_ind (fun s : Int32 × Int32 => G 6 [(0, .ref 46), (1, .int l1), (2, .int l2), (3, .int l3), (4, .int s.1), (5, .int s.2)] [] w) (fun r : Int32 => G 88 [(4, .int r)] [] w) ?_
    rintro ⟨l4, l5⟩ z hk hz
    have hk : f_X8_areSame_b6 w l1 l2 l3 l4 l5 = some z := hk
    unfold f_X8_areSame_b6 at hk
    show G 6 [(0, .ref 46), (1, .int l1), (2, .int l2), (3, .int l3), (4, .int l4), (5, .int l5)] [] w
    refine k_iload (pc := 6) h 5 dX8_areSame_6 rfl ?_
    refine k_aload_n (pc := 8) h 0 dX8_areSame_8 rfl ?_
    refine k_geti (pc := 9) h fl_X8_13 ly_46 rfl dX8_areSame_9 ?_
    refine k_icmp_ge (tgt := 88) (pc := 12) h dX8_areSame_12 rfl hk (fun hc hk => ?_) (fun hc hk => ?_)
    · refine k_sub h [4] (lv' := [(4, .int l4)]) rfl ?_
      have hk := Option.some.inj hk
      subst hk
      exact hz
    · refine k_iconst (pc := 15) h (x := (0 : Int32)) dX8_areSame_15 (by decide) ?_
      refine k_istore (pc := 16) h [1, 2, 3, 4, 5, 6, 0] (lv' := [(0, .ref 46), (1, .int l1), (2, .int l2), (3, .int l3), (4, .int l4), (5, .int l5), (6, .int (0 : Int32))]) dX8_areSame_16 (by decide) rfl ?_
      obtain ⟨r9, hl10, hk⟩ := bd_some hk
      refine LB18 _ _ _ _ _ _ _ hl10 ?_
      show G 82 [(0, .ref 46), (1, .int l1), (2, .int l2), (3, .int l3), (4, .int r9), (5, .int l5)] [] w
      refine k_iinc (pc := 82) h 5 [1, 2, 3, 4, 5, 0] (v := (l5 + (1 : Int32))) (lv' := [(0, .ref 46), (1, .int l1), (2, .int l2), (3, .int l3), (4, .int r9), (5, .int (l5 + (1 : Int32)))]) dX8_areSame_82 rfl rfl (by decide) rfl ?_
      refine k_goto (tgt := 6) (pc := 85) h dX8_areSame_85 rfl ?_
      have hk := Option.some.inj hk
      subst hk
      exact hz
  refine k_iconst (pc := 0) h (x := (1 : Int32)) dX8_areSame_0 (by decide) ?_
  refine k_istore (pc := 1) h [1, 2, 3, 4, 0] (lv' := [(0, .ref 46), (1, .int l1), (2, .int l2), (3, .int l3), (4, .int (1 : Int32))]) dX8_areSame_1 (by decide) rfl ?_
  refine k_iconst (pc := 3) h (x := (0 : Int32)) dX8_areSame_3 (by decide) ?_
  refine k_istore (pc := 4) h [1, 2, 3, 4, 5, 0] (lv' := [(0, .ref 46), (1, .int l1), (2, .int l2), (3, .int l3), (4, .int (1 : Int32)), (5, .int (0 : Int32))]) dX8_areSame_4 (by decide) rfl ?_
  obtain ⟨r11, hl12, hk⟩ := bd_some hk
  refine LB6 _ _ _ _ _ _ hl12 ?_
  show G 88 [(4, .int r11)] [] w
  refine k_iload (pc := 88) h 0 dX8_areSame_88 rfl ?_
  obtain ⟨hg, hk⟩ := gd_some hk
  have hk := Option.some.inj hk
  subst hk
  exact k_iret (pc := 90) h dX8_areSame_90 ⟨rfl, rfl, rfl, rfl, rfl, ⟨.boolean, rfl, nar_b hg⟩⟩
def f_X8_cutOf_j86 (w : WW) (l1 : Int32) (l2 : Int32) (l3 : Int32) (l4 : Int32) (l5 : Int32) (l6 : Int32) (l7 : Int32) : Option ((Int32 × Int32 × Int32 × Int32) ⊕ (Int32 × Int32 × Int32)) := some (.inl (l4, l5, l6, (l7 + (1 : Int32))))
def f_X8_cutOf_j81 (w : WW) (l1 : Int32) (l2 : Int32) (l3 : Int32) (l4 : Int32) (l5 : Int32) (l7 : Int32) (s0 : Int32) : Option ((Int32 × Int32 × Int32 × Int32) ⊕ (Int32 × Int32 × Int32)) := f_X8_cutOf_j86 w l1 l2 l3 l4 (l5 + (1 : Int32)) s0 l7
def f_X8_cutOf_j65 (w : WW) (l1 : Int32) (l2 : Int32) (l3 : Int32) (l5 : Int32) (l6 : Int32) (l7 : Int32) (l10 : Int32) (s0 : Int32) : Option ((Int32 × Int32 × Int32 × Int32) ⊕ (Int32 × Int32 × Int32)) := if l6 ≤ l10 then f_X8_cutOf_j81 w l1 l2 l3 s0 l5 l7 l6 else f_X8_cutOf_j81 w l1 l2 l3 s0 l5 l7 l10
def f_X8_cutOf_b13 (w : WW) (l1 : Int32) (l2 : Int32) (l3 : Int32) (l4 : Int32) (l5 : Int32) (l6 : Int32) (l7 : Int32) : Option ((Int32 × Int32 × Int32 × Int32) ⊕ (Int32 × Int32 × Int32)) := if (16 : Int32) ≤ l7 then some (.inr (l4, l5, l6)) else (f_X8_casesBy w l1 l7).bind (fun p2 => nmv (l2 &&& p2) (fun v3 => if v3 = 0 then f_X8_cutOf_j86 w l1 l2 l3 l4 l5 l6 l7 else (f_X8_bits w v3).bind (fun p5 => (f_X8_weightOf w v3).bind (fun p7 => if p5 ≤ l4 then f_X8_cutOf_j65 w l1 l2 l3 l5 l6 l7 p7 l4 else f_X8_cutOf_j65 w l1 l2 l3 l5 l6 l7 p7 p5))))
def f_X8_cutOf (w : WW) (l1 : Int32) (l2 : Int32) (l3 : Int32) : Option (Int32) := (lpf (fun s : Int32 × Int32 × Int32 × Int32 => f_X8_cutOf_b13 w l1 l2 l3 s.1 s.2.1 s.2.2.1 s.2.2.2) FU ((0 : Int32), (0 : Int32), (1048576 : Int32), (0 : Int32))).bind (fun r8 => if l3 = 0 then some (r8.1) else if l3 = (1 : Int32) then some (r8.2.1) else if r8.2.1 = 0 then some ((0 : Int32)) else some (r8.2.2))
set_option maxRecDepth 20000 in
set_option maxHeartbeats 4000000 in
theorem c_X8_cutOf {w : WW} {l1 : Int32} {l2 : Int32} {l3 : Int32} {z : Int32} (hk : f_X8_cutOf w l1 l2 l3 = some z) : Cn 3 yX8_cutOf cX8_cutOf 11 (some .int) LAY [.ref 46, .int l1, .int l2, .int l3] w (some (.int z)) w := by
  refine Cn.of (by decide +kernel) (Nat.le_of_ble_eq_true rfl) (fun G h => ?_)
  have h : Rules cX8_cutOf RX8 "cutOf" 11 (rmd 3 0 0) none _ _ LAY 0 0 G := h
  show G 0 [(0, .ref 46), (1, .int l1), (2, .int l2), (3, .int l3)] [] w
  unfold f_X8_cutOf at hk
  have EJ86 : ∀ (l1 : Int32) (l2 : Int32) (l3 : Int32) (l4 : Int32) (l5 : Int32) (l6 : Int32) (l7 : Int32) (z : (Int32 × Int32 × Int32 × Int32) ⊕ (Int32 × Int32 × Int32)), f_X8_cutOf_j86 w l1 l2 l3 l4 l5 l6 l7 = some z → Sum.elim (fun s : Int32 × Int32 × Int32 × Int32 => G 13 [(0, .ref 46), (1, .int l1), (2, .int l2), (3, .int l3), (4, .int s.1), (5, .int s.2.1), (6, .int s.2.2.1), (7, .int s.2.2.2)] [] w) (fun r : Int32 × Int32 × Int32 => G 92 [(3, .int l3), (4, .int r.1), (5, .int r.2.1), (6, .int r.2.2)] [] w) z → G 86 [(0, .ref 46), (1, .int l1), (2, .int l2), (3, .int l3), (4, .int l4), (5, .int l5), (6, .int l6), (7, .int l7)] [] w := by
    intro l1 l2 l3 l4 l5 l6 l7 z hk hz
    unfold f_X8_cutOf_j86 at hk
    refine k_iinc (pc := 86) h 7 [1, 2, 3, 4, 5, 6, 7, 0] (v := (l7 + (1 : Int32))) (lv' := [(0, .ref 46), (1, .int l1), (2, .int l2), (3, .int l3), (4, .int l4), (5, .int l5), (6, .int l6), (7, .int (l7 + (1 : Int32)))]) dX8_cutOf_86 rfl rfl (by decide) rfl ?_
    refine k_goto (tgt := 13) (pc := 89) h dX8_cutOf_89 rfl ?_
    have hk := Option.some.inj hk
    subst hk
    exact hz
  have EJ81 : ∀ (l1 : Int32) (l2 : Int32) (l3 : Int32) (l4 : Int32) (l5 : Int32) (l7 : Int32) (s0 : Int32) (z : (Int32 × Int32 × Int32 × Int32) ⊕ (Int32 × Int32 × Int32)), f_X8_cutOf_j81 w l1 l2 l3 l4 l5 l7 s0 = some z → Sum.elim (fun s : Int32 × Int32 × Int32 × Int32 => G 13 [(0, .ref 46), (1, .int l1), (2, .int l2), (3, .int l3), (4, .int s.1), (5, .int s.2.1), (6, .int s.2.2.1), (7, .int s.2.2.2)] [] w) (fun r : Int32 × Int32 × Int32 => G 92 [(3, .int l3), (4, .int r.1), (5, .int r.2.1), (6, .int r.2.2)] [] w) z → G 81 [(0, .ref 46), (1, .int l1), (2, .int l2), (3, .int l3), (4, .int l4), (5, .int l5), (7, .int l7)] [.int s0] w := by
    intro l1 l2 l3 l4 l5 l7 s0 z hk hz
    unfold f_X8_cutOf_j81 at hk
    refine k_istore (pc := 81) h [1, 2, 3, 4, 5, 6, 0, 7] (lv' := [(0, .ref 46), (1, .int l1), (2, .int l2), (3, .int l3), (4, .int l4), (5, .int l5), (6, .int s0), (7, .int l7)]) dX8_cutOf_81 (by decide) rfl ?_
    refine k_iinc (pc := 83) h 5 [1, 2, 3, 4, 5, 0, 6, 7] (v := (l5 + (1 : Int32))) (lv' := [(0, .ref 46), (1, .int l1), (2, .int l2), (3, .int l3), (4, .int l4), (5, .int (l5 + (1 : Int32))), (6, .int s0), (7, .int l7)]) dX8_cutOf_83 rfl rfl (by decide) rfl ?_
    exact EJ86 _ _ _ _ _ _ _ _ hk hz
  have EJ65 : ∀ (l1 : Int32) (l2 : Int32) (l3 : Int32) (l5 : Int32) (l6 : Int32) (l7 : Int32) (l10 : Int32) (s0 : Int32) (z : (Int32 × Int32 × Int32 × Int32) ⊕ (Int32 × Int32 × Int32)), f_X8_cutOf_j65 w l1 l2 l3 l5 l6 l7 l10 s0 = some z → Sum.elim (fun s : Int32 × Int32 × Int32 × Int32 => G 13 [(0, .ref 46), (1, .int l1), (2, .int l2), (3, .int l3), (4, .int s.1), (5, .int s.2.1), (6, .int s.2.2.1), (7, .int s.2.2.2)] [] w) (fun r : Int32 × Int32 × Int32 => G 92 [(3, .int l3), (4, .int r.1), (5, .int r.2.1), (6, .int r.2.2)] [] w) z → G 65 [(0, .ref 46), (1, .int l1), (2, .int l2), (3, .int l3), (5, .int l5), (6, .int l6), (7, .int l7), (10, .int l10)] [.int s0] w := by
    intro l1 l2 l3 l5 l6 l7 l10 s0 z hk hz
    unfold f_X8_cutOf_j65 at hk
    refine k_istore (pc := 65) h [1, 2, 3, 4, 0, 5, 6, 7, 8] (lv' := [(0, .ref 46), (1, .int l1), (2, .int l2), (3, .int l3), (4, .int s0), (5, .int l5), (6, .int l6), (7, .int l7), (10, .int l10)]) dX8_cutOf_65 (by decide) rfl ?_
    refine k_iload (pc := 67) h 8 dX8_cutOf_67 rfl ?_
    refine k_iload (pc := 69) h 6 dX8_cutOf_69 rfl ?_
    refine k_icmp_ge (tgt := 79) (pc := 71) h dX8_cutOf_71 rfl hk (fun hc hk => ?_) (fun hc hk => ?_)
    · refine k_iload (pc := 79) h 6 dX8_cutOf_79 rfl ?_
      refine k_sub h [0, 1, 2, 3, 4, 5, 7] (lv' := [(0, .ref 46), (1, .int l1), (2, .int l2), (3, .int l3), (4, .int s0), (5, .int l5), (7, .int l7)]) rfl ?_
      exact EJ81 _ _ _ _ _ _ _ _ hk hz
    · refine k_iload (pc := 74) h 8 dX8_cutOf_74 rfl ?_
      refine k_goto (tgt := 81) (pc := 76) h dX8_cutOf_76 rfl ?_
      refine k_sub h [0, 1, 2, 3, 4, 5, 7] (lv' := [(0, .ref 46), (1, .int l1), (2, .int l2), (3, .int l3), (4, .int s0), (5, .int l5), (7, .int l7)]) rfl ?_
      exact EJ81 _ _ _ _ _ _ _ _ hk hz
  have LB13 : ∀ (l1 : Int32) (l2 : Int32) (l3 : Int32), ∀ (nn : Nat) (s : Int32 × Int32 × Int32 × Int32) (r : Int32 × Int32 × Int32), lpf (fun s : Int32 × Int32 × Int32 × Int32 => f_X8_cutOf_b13 w l1 l2 l3 s.1 s.2.1 s.2.2.1 s.2.2.2) nn s = some r → (fun r : Int32 × Int32 × Int32 => G 92 [(3, .int l3), (4, .int r.1), (5, .int r.2.1), (6, .int r.2.2)] [] w) r → (fun s : Int32 × Int32 × Int32 × Int32 => G 13 [(0, .ref 46), (1, .int l1), (2, .int l2), (3, .int l3), (4, .int s.1), (5, .int s.2.1), (6, .int s.2.2.1), (7, .int s.2.2.2)] [] w) s := by
    intro l1 l2 l3
    refine lpf_ind (fun s : Int32 × Int32 × Int32 × Int32 => G 13 [(0, .ref 46), (1, .int l1), (2, .int l2), (3, .int l3), (4, .int s.1), (5, .int s.2.1), (6, .int s.2.2.1), (7, .int s.2.2.2)] [] w) (fun r : Int32 × Int32 × Int32 => G 92 [(3, .int l3), (4, .int r.1), (5, .int r.2.1), (6, .int r.2.2)] [] w) ?_
    rintro ⟨l4, l5, l6, l7⟩ z hk hz
    have hk : f_X8_cutOf_b13 w l1 l2 l3 l4 l5 l6 l7 = some z := hk
    unfold f_X8_cutOf_b13 at hk
    show G 13 [(0, .ref 46), (1, .int l1), (2, .int l2), (3, .int l3), (4, .int l4), (5, .int l5), (6, .int l6), (7, .int l7)] [] w
    refine k_iload (pc := 13) h 7 dX8_cutOf_13 rfl ?_
    refine k_bipush (pc := 15) h (x := (16 : Int32)) dX8_cutOf_15 (by decide) ?_
    refine k_icmp_ge (tgt := 92) (pc := 17) h dX8_cutOf_17 rfl hk (fun hc hk => ?_) (fun hc hk => ?_)
    · refine k_sub h [3, 4, 5, 6] (lv' := [(3, .int l3), (4, .int l4), (5, .int l5), (6, .int l6)]) rfl ?_
      have hk := Option.some.inj hk
      subst hk
      exact hz
    · refine k_iload_n (pc := 20) h 2 dX8_cutOf_20 rfl ?_
      refine k_aload_n (pc := 21) h 0 dX8_cutOf_21 rfl ?_
      refine k_iload_n (pc := 22) h 1 dX8_cutOf_22 rfl ?_
      refine k_iload (pc := 23) h 7 dX8_cutOf_23 rfl ?_
      obtain ⟨p2, hc1, hk⟩ := bd_some hk
      refine k_callV1 (pc := 25) h (c_X8_casesBy hc1) cw_X8_176 ly_46 rfl ⟨⟨by decide, by decide⟩, Nat.zero_le _, Nat.zero_le _⟩ rfl (Nat.le_of_ble_eq_true rfl) dX8_cutOf_25 ?_
      refine k_iand (pc := 28) h dX8_cutOf_28 ?_
      refine k_nmi (pc := 29) h hk (fun v3 hk => ?_)
      refine k_istore (pc := 29) h [1, 2, 3, 4, 5, 6, 7, 8, 0] (lv' := [(0, .ref 46), (1, .int l1), (2, .int l2), (3, .int l3), (4, .int l4), (5, .int l5), (6, .int l6), (7, .int l7), (8, .int v3)]) dX8_cutOf_29 (by decide) rfl ?_
      refine k_iload (pc := 31) h 8 dX8_cutOf_31 rfl ?_
      refine k_if_eq (tgt := 86) (pc := 33) h dX8_cutOf_33 rfl hk (fun hc hk => ?_) (fun hc hk => ?_)
      · refine k_sub h [0, 1, 2, 3, 4, 5, 6, 7] (lv' := [(0, .ref 46), (1, .int l1), (2, .int l2), (3, .int l3), (4, .int l4), (5, .int l5), (6, .int l6), (7, .int l7)]) rfl ?_
        exact EJ86 _ _ _ _ _ _ _ _ hk hz
      · refine k_iload (pc := 36) h 8 dX8_cutOf_36 rfl ?_
        obtain ⟨p5, hc4, hk⟩ := bd_some hk
        refine k_callS1 (pc := 38) h (c_X8_bits hc4) cw_X8_192 ⟨⟨by decide, by decide⟩, Nat.zero_le _, Nat.zero_le _⟩ rfl (Nat.le_of_ble_eq_true rfl) dX8_cutOf_38 ?_
        refine k_istore (pc := 41) h [1, 2, 3, 4, 5, 6, 7, 8, 9, 0] (lv' := [(0, .ref 46), (1, .int l1), (2, .int l2), (3, .int l3), (4, .int l4), (5, .int l5), (6, .int l6), (7, .int l7), (8, .int v3), (9, .int p5)]) dX8_cutOf_41 (by decide) rfl ?_
        refine k_aload_n (pc := 43) h 0 dX8_cutOf_43 rfl ?_
        refine k_iload (pc := 44) h 8 dX8_cutOf_44 rfl ?_
        obtain ⟨p7, hc6, hk⟩ := bd_some hk
        refine k_callV1 (pc := 46) h (c_X8_weightOf hc6) cw_X8_195 ly_46 rfl ⟨⟨by decide, by decide⟩, Nat.zero_le _, Nat.zero_le _⟩ rfl (Nat.le_of_ble_eq_true rfl) dX8_cutOf_46 ?_
        refine k_istore (pc := 49) h [1, 2, 3, 4, 5, 6, 7, 8, 9, 10, 0] (lv' := [(0, .ref 46), (1, .int l1), (2, .int l2), (3, .int l3), (4, .int l4), (5, .int l5), (6, .int l6), (7, .int l7), (8, .int v3), (9, .int p5), (10, .int p7)]) dX8_cutOf_49 (by decide) rfl ?_
        refine k_iload (pc := 51) h 9 dX8_cutOf_51 rfl ?_
        refine k_iload (pc := 53) h 4 dX8_cutOf_53 rfl ?_
        refine k_icmp_le (tgt := 63) (pc := 55) h dX8_cutOf_55 rfl hk (fun hc hk => ?_) (fun hc hk => ?_)
        · refine k_iload (pc := 63) h 4 dX8_cutOf_63 rfl ?_
          refine k_sub h [0, 1, 2, 3, 5, 6, 7, 10] (lv' := [(0, .ref 46), (1, .int l1), (2, .int l2), (3, .int l3), (5, .int l5), (6, .int l6), (7, .int l7), (10, .int p7)]) rfl ?_
          exact EJ65 _ _ _ _ _ _ _ _ _ hk hz
        · refine k_iload (pc := 58) h 9 dX8_cutOf_58 rfl ?_
          refine k_goto (tgt := 65) (pc := 60) h dX8_cutOf_60 rfl ?_
          refine k_sub h [0, 1, 2, 3, 5, 6, 7, 10] (lv' := [(0, .ref 46), (1, .int l1), (2, .int l2), (3, .int l3), (5, .int l5), (6, .int l6), (7, .int l7), (10, .int p7)]) rfl ?_
          exact EJ65 _ _ _ _ _ _ _ _ _ hk hz
  refine k_iconst (pc := 0) h (x := (0 : Int32)) dX8_cutOf_0 (by decide) ?_
  refine k_istore (pc := 1) h [1, 2, 3, 4, 0] (lv' := [(0, .ref 46), (1, .int l1), (2, .int l2), (3, .int l3), (4, .int (0 : Int32))]) dX8_cutOf_1 (by decide) rfl ?_
  refine k_iconst (pc := 3) h (x := (0 : Int32)) dX8_cutOf_3 (by decide) ?_
  refine k_istore (pc := 4) h [1, 2, 3, 4, 5, 0] (lv' := [(0, .ref 46), (1, .int l1), (2, .int l2), (3, .int l3), (4, .int (0 : Int32)), (5, .int (0 : Int32))]) dX8_cutOf_4 (by decide) rfl ?_
  refine k_ldc (pc := 6) h (x := (1048576 : Int32)) cs_X8_191 dX8_cutOf_6 ?_
  refine k_istore (pc := 8) h [1, 2, 3, 4, 5, 6, 0] (lv' := [(0, .ref 46), (1, .int l1), (2, .int l2), (3, .int l3), (4, .int (0 : Int32)), (5, .int (0 : Int32)), (6, .int (1048576 : Int32))]) dX8_cutOf_8 (by decide) rfl ?_
  refine k_iconst (pc := 10) h (x := (0 : Int32)) dX8_cutOf_10 (by decide) ?_
  refine k_istore (pc := 11) h [1, 2, 3, 4, 5, 6, 7, 0] (lv' := [(0, .ref 46), (1, .int l1), (2, .int l2), (3, .int l3), (4, .int (0 : Int32)), (5, .int (0 : Int32)), (6, .int (1048576 : Int32)), (7, .int (0 : Int32))]) dX8_cutOf_11 (by decide) rfl ?_
  obtain ⟨r8, hl9, hk⟩ := bd_some hk
  refine LB13 _ _ _ _ _ _ hl9 ?_
  show G 92 [(3, .int l3), (4, .int r8.1), (5, .int r8.2.1), (6, .int r8.2.2)] [] w
  refine k_iload_n (pc := 92) h 0 dX8_cutOf_92 rfl ?_
  refine k_if_ne (tgt := 101) (pc := 93) h dX8_cutOf_93 rfl hk (fun hc hk => ?_) (fun hc hk => ?_)
  · refine k_iload_n (pc := 101) h 0 dX8_cutOf_101 rfl ?_
    refine k_iconst (pc := 102) h (x := (1 : Int32)) dX8_cutOf_102 (by decide) ?_
    refine k_icmp_ne (tgt := 111) (pc := 103) h dX8_cutOf_103 rfl hk (fun hc hk => ?_) (fun hc hk => ?_)
    · refine k_iload (pc := 111) h 2 dX8_cutOf_111 rfl ?_
      refine k_if_ne (tgt := 120) (pc := 113) h dX8_cutOf_113 rfl hk (fun hc hk => ?_) (fun hc hk => ?_)
      · refine k_iload (pc := 120) h 3 dX8_cutOf_120 rfl ?_
        have hk := Option.some.inj hk
        subst hk
        exact k_iret (pc := 122) h dX8_cutOf_122 ⟨rfl, rfl, rfl, rfl, rfl, ⟨.int, rfl, rfl⟩⟩
      · refine k_iconst (pc := 116) h (x := (0 : Int32)) dX8_cutOf_116 (by decide) ?_
        refine k_goto (tgt := 122) (pc := 117) h dX8_cutOf_117 rfl ?_
        have hk := Option.some.inj hk
        subst hk
        exact k_iret (pc := 122) h dX8_cutOf_122 ⟨rfl, rfl, rfl, rfl, rfl, ⟨.int, rfl, rfl⟩⟩
    · refine k_iload (pc := 106) h 2 dX8_cutOf_106 rfl ?_
      refine k_goto (tgt := 122) (pc := 108) h dX8_cutOf_108 rfl ?_
      have hk := Option.some.inj hk
      subst hk
      exact k_iret (pc := 122) h dX8_cutOf_122 ⟨rfl, rfl, rfl, rfl, rfl, ⟨.int, rfl, rfl⟩⟩
  · refine k_iload (pc := 96) h 1 dX8_cutOf_96 rfl ?_
    refine k_goto (tgt := 122) (pc := 98) h dX8_cutOf_98 rfl ?_
    have hk := Option.some.inj hk
    subst hk
    exact k_iret (pc := 122) h dX8_cutOf_122 ⟨rfl, rfl, rfl, rfl, rfl, ⟨.int, rfl, rfl⟩⟩
def f_X8_knownBy_j44 (w : WW) (l1 : Int32) (l2 : Int32) (l4 : Int32) (s0 : Int32) (s1 : Int32) : Option ((Int32 × Int32) ⊕ (Int32)) := nmv (s1 &&& s0) (fun v5 => some (.inl (v5, (l4 + (1 : Int32)))))
def f_X8_knownBy_b8 (w : WW) (l1 : Int32) (l2 : Int32) (l3 : Int32) (l4 : Int32) : Option ((Int32 × Int32) ⊕ (Int32)) := if (w.1 46 2) ≤ l4 then some (.inr l3) else (f_X8_has w l1 l4).bind (fun p4 => if p4 = 0 then f_X8_knownBy_j44 w l1 l2 l4 l3 l3 else (f_X8_answerOf w l4 l2).bind (fun p7 => (f_X8_casesBy w l4 p7).bind (fun p9 => f_X8_knownBy_j44 w l1 l2 l4 p9 l3)))
def f_X8_knownBy (w : WW) (l1 : Int32) (l2 : Int32) : Option (Int32) := (f_X8_everyCase w).bind (fun p2 => (lpf (fun s : Int32 × Int32 => f_X8_knownBy_b8 w l1 l2 s.1 s.2) FU (p2, (0 : Int32))).bind (fun r10 => some (r10)))
set_option maxRecDepth 20000 in
set_option maxHeartbeats 4000000 in
theorem c_X8_knownBy {w : WW} {l1 : Int32} {l2 : Int32} {z : Int32} (hk : f_X8_knownBy w l1 l2 = some z) : Cn 3 yX8_knownBy cX8_knownBy 5 (some .int) LAY [.ref 46, .int l1, .int l2] w (some (.int z)) w := by
  refine Cn.of (by decide +kernel) (Nat.le_of_ble_eq_true rfl) (fun G h => ?_)
  have h : Rules cX8_knownBy RX8 "knownBy" 5 (rmd 3 0 0) none _ _ LAY 0 0 G := h
  show G 0 [(0, .ref 46), (1, .int l1), (2, .int l2)] [] w
  unfold f_X8_knownBy at hk
  have EJ44 : ∀ (l1 : Int32) (l2 : Int32) (l4 : Int32) (s0 : Int32) (s1 : Int32) (z : (Int32 × Int32) ⊕ (Int32)), f_X8_knownBy_j44 w l1 l2 l4 s0 s1 = some z → Sum.elim (fun s : Int32 × Int32 => G 8 [(0, .ref 46), (1, .int l1), (2, .int l2), (3, .int s.1), (4, .int s.2)] [] w) (fun r : Int32 => G 52 [(3, .int r)] [] w) z → G 44 [(0, .ref 46), (1, .int l1), (2, .int l2), (4, .int l4)] [.int s0, .int s1] w := by
    intro l1 l2 l4 s0 s1 z hk hz
    unfold f_X8_knownBy_j44 at hk
    refine k_iand (pc := 44) h dX8_knownBy_44 ?_
    refine k_nmi (pc := 45) h hk (fun v5 hk => ?_)
    refine k_istore_n (pc := 45) h [1, 2, 3, 0, 4] (lv' := [(0, .ref 46), (1, .int l1), (2, .int l2), (3, .int v5), (4, .int l4)]) dX8_knownBy_45 rfl (by decide) rfl ?_
    refine k_iinc (pc := 46) h 4 [1, 2, 3, 4, 0] (v := (l4 + (1 : Int32))) (lv' := [(0, .ref 46), (1, .int l1), (2, .int l2), (3, .int v5), (4, .int (l4 + (1 : Int32)))]) dX8_knownBy_46 rfl rfl (by decide) rfl ?_
    refine k_goto (tgt := 8) (pc := 49) h dX8_knownBy_49 rfl ?_
    have hk := Option.some.inj hk
    subst hk
    exact hz
  have LB8 : ∀ (l1 : Int32) (l2 : Int32), ∀ (nn : Nat) (s : Int32 × Int32) (r : Int32), lpf (fun s : Int32 × Int32 => f_X8_knownBy_b8 w l1 l2 s.1 s.2) nn s = some r → (fun r : Int32 => G 52 [(3, .int r)] [] w) r → (fun s : Int32 × Int32 => G 8 [(0, .ref 46), (1, .int l1), (2, .int l2), (3, .int s.1), (4, .int s.2)] [] w) s := by
    intro l1 l2
    refine lpf_ind (fun s : Int32 × Int32 => G 8 [(0, .ref 46), (1, .int l1), (2, .int l2), (3, .int s.1), (4, .int s.2)] [] w) (fun r : Int32 => G 52 [(3, .int r)] [] w) ?_
    rintro ⟨l3, l4⟩ z hk hz
    have hk : f_X8_knownBy_b8 w l1 l2 l3 l4 = some z := hk
    unfold f_X8_knownBy_b8 at hk
    show G 8 [(0, .ref 46), (1, .int l1), (2, .int l2), (3, .int l3), (4, .int l4)] [] w
    refine k_iload (pc := 8) h 4 dX8_knownBy_8 rfl ?_
    refine k_aload_n (pc := 10) h 0 dX8_knownBy_10 rfl ?_
    refine k_geti (pc := 11) h fl_X8_75 ly_46 rfl dX8_knownBy_11 ?_
    refine k_icmp_ge (tgt := 52) (pc := 14) h dX8_knownBy_14 rfl hk (fun hc hk => ?_) (fun hc hk => ?_)
    · refine k_sub h [3] (lv' := [(3, .int l3)]) rfl ?_
      have hk := Option.some.inj hk
      subst hk
      exact hz
    · refine k_iload_n (pc := 17) h 3 dX8_knownBy_17 rfl ?_
      refine k_iload_n (pc := 18) h 1 dX8_knownBy_18 rfl ?_
      refine k_iload (pc := 19) h 4 dX8_knownBy_19 rfl ?_
      obtain ⟨p4, hc3, hk⟩ := bd_some hk
      refine k_callS1 (pc := 21) h (c_X8_has hc3) cw_X8_188 ⟨⟨by decide, by decide⟩, Nat.zero_le _, Nat.zero_le _⟩ rfl (Nat.le_of_ble_eq_true rfl) dX8_knownBy_21 ?_
      refine k_if_eq (tgt := 43) (pc := 24) h dX8_knownBy_24 rfl hk (fun hc hk => ?_) (fun hc hk => ?_)
      · refine k_iload_n (pc := 43) h 3 dX8_knownBy_43 rfl ?_
        refine k_sub h [0, 1, 2, 4] (lv' := [(0, .ref 46), (1, .int l1), (2, .int l2), (4, .int l4)]) rfl ?_
        exact EJ44 _ _ _ _ _ _ hk hz
      · refine k_aload_n (pc := 27) h 0 dX8_knownBy_27 rfl ?_
        refine k_iload (pc := 28) h 4 dX8_knownBy_28 rfl ?_
        refine k_aload_n (pc := 30) h 0 dX8_knownBy_30 rfl ?_
        refine k_iload (pc := 31) h 4 dX8_knownBy_31 rfl ?_
        refine k_iload_n (pc := 33) h 2 dX8_knownBy_33 rfl ?_
        obtain ⟨p7, hc6, hk⟩ := bd_some hk
        refine k_callV1 (pc := 34) h (c_X8_answerOf hc6) cw_X8_169 ly_46 rfl ⟨⟨by decide, by decide⟩, Nat.zero_le _, Nat.zero_le _⟩ rfl (Nat.le_of_ble_eq_true rfl) dX8_knownBy_34 ?_
        obtain ⟨p9, hc8, hk⟩ := bd_some hk
        refine k_callV1 (pc := 37) h (c_X8_casesBy hc8) cw_X8_176 ly_46 rfl ⟨⟨by decide, by decide⟩, Nat.zero_le _, Nat.zero_le _⟩ rfl (Nat.le_of_ble_eq_true rfl) dX8_knownBy_37 ?_
        refine k_goto (tgt := 44) (pc := 40) h dX8_knownBy_40 rfl ?_
        refine k_sub h [0, 1, 2, 4] (lv' := [(0, .ref 46), (1, .int l1), (2, .int l2), (4, .int l4)]) rfl ?_
        exact EJ44 _ _ _ _ _ _ hk hz
  refine k_aload_n (pc := 0) h 0 dX8_knownBy_0 rfl ?_
  obtain ⟨p2, hc1, hk⟩ := bd_some hk
  refine k_callV1 (pc := 1) h (c_X8_everyCase hc1) cw_X8_173 ly_46 rfl ⟨⟨by decide, by decide⟩, Nat.zero_le _, Nat.zero_le _⟩ rfl (Nat.le_of_ble_eq_true rfl) dX8_knownBy_1 ?_
  refine k_istore_n (pc := 4) h [1, 2, 3, 0] (lv' := [(0, .ref 46), (1, .int l1), (2, .int l2), (3, .int p2)]) dX8_knownBy_4 rfl (by decide) rfl ?_
  refine k_iconst (pc := 5) h (x := (0 : Int32)) dX8_knownBy_5 (by decide) ?_
  refine k_istore (pc := 6) h [1, 2, 3, 4, 0] (lv' := [(0, .ref 46), (1, .int l1), (2, .int l2), (3, .int p2), (4, .int (0 : Int32))]) dX8_knownBy_6 (by decide) rfl ?_
  obtain ⟨r10, hl11, hk⟩ := bd_some hk
  refine LB8 _ _ _ _ _ hl11 ?_
  show G 52 [(3, .int r10)] [] w
  refine k_iload_n (pc := 52) h 0 dX8_knownBy_52 rfl ?_
  have hk := Option.some.inj hk
  subst hk
  exact k_iret (pc := 53) h dX8_knownBy_53 ⟨rfl, rfl, rfl, rfl, rfl, ⟨.int, rfl, rfl⟩⟩
def f_X8_leftOver_b7 (w : WW) (l1 : Int32) (l2 : Int32) : Option ((Int32 × Int32) ⊕ (Int32)) := if (w.1 46 3) ≤ l2 then some (.inr l1) else gd (inb ((2 : Int32) * l2) 16) (gd (inb (((2 : Int32) * l2) + (1 : Int32)) 16) ((f_X8_casesBy w (w.1 52 (((2 : Int32) * l2)).toNatClampNeg) (w.1 52 ((((2 : Int32) * l2) + (1 : Int32))).toNatClampNeg)).bind (fun p4 => nmv (l1 &&& p4) (fun v5 => some (.inl (v5, (l2 + (1 : Int32))))))))
def f_X8_leftOver (w : WW) : Option (Int32) := (f_X8_everyCase w).bind (fun p2 => (lpf (fun s : Int32 × Int32 => f_X8_leftOver_b7 w s.1 s.2) FU (p2, (0 : Int32))).bind (fun r6 => some (r6)))
set_option maxRecDepth 20000 in
set_option maxHeartbeats 4000000 in
theorem c_X8_leftOver {w : WW} {z : Int32} (hk : f_X8_leftOver w = some z) : Cn 3 yX8_leftOver cX8_leftOver 3 (some .int) LAY [.ref 46] w (some (.int z)) w := by
  refine Cn.of (by decide +kernel) (Nat.le_of_ble_eq_true rfl) (fun G h => ?_)
  have h : Rules cX8_leftOver RX8 "leftOver" 3 (rmd 3 0 0) none _ _ LAY 0 0 G := h
  show G 0 [(0, .ref 46)] [] w
  unfold f_X8_leftOver at hk
  have LB7 : ∀ (nn : Nat) (s : Int32 × Int32) (r : Int32), lpf (fun s : Int32 × Int32 => f_X8_leftOver_b7 w s.1 s.2) nn s = some r → (fun r : Int32 => G 46 [(1, .int r)] [] w) r → (fun s : Int32 × Int32 => G 7 [(0, .ref 46), (1, .int s.1), (2, .int s.2)] [] w) s := by
    refine lpf_ind (fun s : Int32 × Int32 => G 7 [(0, .ref 46), (1, .int s.1), (2, .int s.2)] [] w) (fun r : Int32 => G 46 [(1, .int r)] [] w) ?_
    rintro ⟨l1, l2⟩ z hk hz
    have hk : f_X8_leftOver_b7 w l1 l2 = some z := hk
    unfold f_X8_leftOver_b7 at hk
    show G 7 [(0, .ref 46), (1, .int l1), (2, .int l2)] [] w
    refine k_iload_n (pc := 7) h 2 dX8_leftOver_7 rfl ?_
    refine k_aload_n (pc := 8) h 0 dX8_leftOver_8 rfl ?_
    refine k_geti (pc := 9) h fl_X8_78 ly_46 rfl dX8_leftOver_9 ?_
    refine k_icmp_ge (tgt := 46) (pc := 12) h dX8_leftOver_12 rfl hk (fun hc hk => ?_) (fun hc hk => ?_)
    · refine k_sub h [1] (lv' := [(1, .int l1)]) rfl ?_
      have hk := Option.some.inj hk
      subst hk
      exact hz
    · refine k_iload_n (pc := 15) h 1 dX8_leftOver_15 rfl ?_
      refine k_aload_n (pc := 16) h 0 dX8_leftOver_16 rfl ?_
      refine k_aload_n (pc := 17) h 0 dX8_leftOver_17 rfl ?_
      refine k_getr (pc := 18) h fl_X8_29 ly_46 rfl dX8_leftOver_18 ?_
      refine k_iconst (pc := 21) h (x := (2 : Int32)) dX8_leftOver_21 (by decide) ?_
      refine k_iload_n (pc := 22) h 2 dX8_leftOver_22 rfl ?_
      refine k_imul (pc := 23) h dX8_leftOver_23 ?_
      refine k_iald (pc := 24) h ly_52 dX8_leftOver_24 hk (fun hk => ?_)
      refine k_aload_n (pc := 25) h 0 dX8_leftOver_25 rfl ?_
      refine k_getr (pc := 26) h fl_X8_29 ly_46 rfl dX8_leftOver_26 ?_
      refine k_iconst (pc := 29) h (x := (2 : Int32)) dX8_leftOver_29 (by decide) ?_
      refine k_iload_n (pc := 30) h 2 dX8_leftOver_30 rfl ?_
      refine k_imul (pc := 31) h dX8_leftOver_31 ?_
      refine k_iconst (pc := 32) h (x := (1 : Int32)) dX8_leftOver_32 (by decide) ?_
      refine k_iadd (pc := 33) h dX8_leftOver_33 ?_
      refine k_iald (pc := 34) h ly_52 dX8_leftOver_34 hk (fun hk => ?_)
      obtain ⟨p4, hc3, hk⟩ := bd_some hk
      refine k_callV1 (pc := 35) h (c_X8_casesBy hc3) cw_X8_176 ly_46 rfl ⟨⟨by decide, by decide⟩, Nat.zero_le _, Nat.zero_le _⟩ rfl (Nat.le_of_ble_eq_true rfl) dX8_leftOver_35 ?_
      refine k_iand (pc := 38) h dX8_leftOver_38 ?_
      refine k_nmi (pc := 39) h hk (fun v5 hk => ?_)
      refine k_istore_n (pc := 39) h [1, 0, 2] (lv' := [(0, .ref 46), (1, .int v5), (2, .int l2)]) dX8_leftOver_39 rfl (by decide) rfl ?_
      refine k_iinc (pc := 40) h 2 [1, 2, 0] (v := (l2 + (1 : Int32))) (lv' := [(0, .ref 46), (1, .int v5), (2, .int (l2 + (1 : Int32)))]) dX8_leftOver_40 rfl rfl (by decide) rfl ?_
      refine k_goto (tgt := 7) (pc := 43) h dX8_leftOver_43 rfl ?_
      have hk := Option.some.inj hk
      subst hk
      exact hz
  refine k_aload_n (pc := 0) h 0 dX8_leftOver_0 rfl ?_
  obtain ⟨p2, hc1, hk⟩ := bd_some hk
  refine k_callV1 (pc := 1) h (c_X8_everyCase hc1) cw_X8_173 ly_46 rfl ⟨⟨by decide, by decide⟩, Nat.zero_le _, Nat.zero_le _⟩ rfl (Nat.le_of_ble_eq_true rfl) dX8_leftOver_1 ?_
  refine k_istore_n (pc := 4) h [1, 0] (lv' := [(0, .ref 46), (1, .int p2)]) dX8_leftOver_4 rfl (by decide) rfl ?_
  refine k_iconst (pc := 5) h (x := (0 : Int32)) dX8_leftOver_5 (by decide) ?_
  refine k_istore_n (pc := 6) h [1, 2, 0] (lv' := [(0, .ref 46), (1, .int p2), (2, .int (0 : Int32))]) dX8_leftOver_6 rfl (by decide) rfl ?_
  obtain ⟨r6, hl7, hk⟩ := bd_some hk
  refine LB7 _ _ _ hl7 ?_
  show G 46 [(1, .int r6)] [] w
  refine k_iload_n (pc := 46) h 0 dX8_leftOver_46 rfl ?_
  have hk := Option.some.inj hk
  subst hk
  exact k_iret (pc := 47) h dX8_leftOver_47 ⟨rfl, rfl, rfl, rfl, rfl, ⟨.int, rfl, rfl⟩⟩
def f_X8_paidBy_j93 (w : WW) (l1 : Int32) (l2 : Int32) (l3 : Int32) (l4 : Int32) (l5 : Int32) (l6 : Int32) : Option ((Int32 × Int32 × Int32) ⊕ (Int32)) := some (.inl (l4, l5, (l6 + (1 : Int32))))
def f_X8_paidBy_b21 (w : WW) (l1 : Int32) (l2 : Int32) (l3 : Int32) (l4 : Int32) (l5 : Int32) (l6 : Int32) : Option ((Int32 × Int32 × Int32) ⊕ (Int32)) := if (w.1 46 27) ≤ l6 then some (.inr l5) else (f_X8_has w l1 l3).bind (fun p2 => if p2 = 0 then some (.inr l5) else if (l4 &&& (l4 - (1 : Int32))) = 0 then f_X8_paidBy_j93 w l1 l2 l3 l4 l5 l6 else gd (inb l6 7) (gd (inb (w.1 62 (l6).toNatClampNeg) 7) (nmv (l5 + (w.1 51 ((w.1 62 (l6).toNatClampNeg)).toNatClampNeg)) (fun v3 => gd (inb l6 7) (gd (inb l6 7) ((f_X8_answerOf w (w.1 62 (l6).toNatClampNeg) l3).bind (fun p5 => (f_X8_casesBy w (w.1 62 (l6).toNatClampNeg) p5).bind (fun p7 => nmv (l4 &&& p7) (fun v8 => f_X8_paidBy_j93 w l1 l2 l3 v8 v3 l6)))))))))
def f_X8_paidBy_b4 (w : WW) (l1 : Int32) (l2 : Int32) (l3 : Int32) : Option ((Int32 × Int32) ⊕ (Int32)) := if (w.1 46 1) ≤ l3 then some (.inr l2) else (lpf (fun s : Int32 × Int32 × Int32 => f_X8_paidBy_b21 w l1 l2 l3 s.1 s.2.1 s.2.2) FU (l1, (0 : Int32), (0 : Int32))).bind (fun r9 => gd (inb l3 16) (nmv (l2 + (r9 * (w.1 48 (l3).toNatClampNeg))) (fun v11 => some (.inl (v11, (l3 + (1 : Int32)))))))
def f_X8_paidBy (w : WW) (l1 : Int32) : Option (Int32) := (lpf (fun s : Int32 × Int32 => f_X8_paidBy_b4 w l1 s.1 s.2) FU ((0 : Int32), (0 : Int32))).bind (fun r12 => some (r12))
set_option maxRecDepth 20000 in
set_option maxHeartbeats 4000000 in
theorem c_X8_paidBy {w : WW} {l1 : Int32} {z : Int32} (hk : f_X8_paidBy w l1 = some z) : Cn 3 yX8_paidBy cX8_paidBy 7 (some .int) LAY [.ref 46, .int l1] w (some (.int z)) w := by
  refine Cn.of (by decide +kernel) (Nat.le_of_ble_eq_true rfl) (fun G h => ?_)
  have h : Rules cX8_paidBy RX8 "paidBy" 7 (rmd 3 0 0) none _ _ LAY 0 0 G := h
  show G 0 [(0, .ref 46), (1, .int l1)] [] w
  unfold f_X8_paidBy at hk
  have EJ93 : ∀ (l1 : Int32) (l2 : Int32) (l3 : Int32) (l4 : Int32) (l5 : Int32) (l6 : Int32) (z : (Int32 × Int32 × Int32) ⊕ (Int32)), f_X8_paidBy_j93 w l1 l2 l3 l4 l5 l6 = some z → Sum.elim (fun s : Int32 × Int32 × Int32 => G 21 [(0, .ref 46), (1, .int l1), (2, .int l2), (3, .int l3), (4, .int s.1), (5, .int s.2.1), (6, .int s.2.2)] [] w) (fun r : Int32 => G 99 [(0, .ref 46), (1, .int l1), (2, .int l2), (3, .int l3), (5, .int r)] [] w) z → G 93 [(0, .ref 46), (1, .int l1), (2, .int l2), (3, .int l3), (4, .int l4), (5, .int l5), (6, .int l6)] [] w := by
    intro l1 l2 l3 l4 l5 l6 z hk hz
    unfold f_X8_paidBy_j93 at hk
    refine k_iinc (pc := 93) h 6 [1, 2, 3, 4, 5, 6, 0] (v := (l6 + (1 : Int32))) (lv' := [(0, .ref 46), (1, .int l1), (2, .int l2), (3, .int l3), (4, .int l4), (5, .int l5), (6, .int (l6 + (1 : Int32)))]) dX8_paidBy_93 rfl rfl (by decide) rfl ?_
    refine k_goto (tgt := 21) (pc := 96) h dX8_paidBy_96 rfl ?_
    have hk := Option.some.inj hk
    subst hk
    exact hz
  have LB21 : ∀ (l1 : Int32) (l2 : Int32) (l3 : Int32), ∀ (nn : Nat) (s : Int32 × Int32 × Int32) (r : Int32), lpf (fun s : Int32 × Int32 × Int32 => f_X8_paidBy_b21 w l1 l2 l3 s.1 s.2.1 s.2.2) nn s = some r → (fun r : Int32 => G 99 [(0, .ref 46), (1, .int l1), (2, .int l2), (3, .int l3), (5, .int r)] [] w) r → (fun s : Int32 × Int32 × Int32 => G 21 [(0, .ref 46), (1, .int l1), (2, .int l2), (3, .int l3), (4, .int s.1), (5, .int s.2.1), (6, .int s.2.2)] [] w) s := by
    intro l1 l2 l3
    refine lpf_ind (fun s : Int32 × Int32 × Int32 => G 21 [(0, .ref 46), (1, .int l1), (2, .int l2), (3, .int l3), (4, .int s.1), (5, .int s.2.1), (6, .int s.2.2)] [] w) (fun r : Int32 => G 99 [(0, .ref 46), (1, .int l1), (2, .int l2), (3, .int l3), (5, .int r)] [] w) ?_
    rintro ⟨l4, l5, l6⟩ z hk hz
    have hk : f_X8_paidBy_b21 w l1 l2 l3 l4 l5 l6 = some z := hk
    unfold f_X8_paidBy_b21 at hk
    show G 21 [(0, .ref 46), (1, .int l1), (2, .int l2), (3, .int l3), (4, .int l4), (5, .int l5), (6, .int l6)] [] w
    refine k_iload (pc := 21) h 6 dX8_paidBy_21 rfl ?_
    refine k_aload_n (pc := 23) h 0 dX8_paidBy_23 rfl ?_
    refine k_geti (pc := 24) h fl_X8_237 ly_46 rfl dX8_paidBy_24 ?_
    refine k_icmp_ge (tgt := 99) (pc := 27) h dX8_paidBy_27 rfl hk (fun hc hk => ?_) (fun hc hk => ?_)
    · refine k_sub h [0, 1, 2, 3, 5] (lv' := [(0, .ref 46), (1, .int l1), (2, .int l2), (3, .int l3), (5, .int l5)]) rfl ?_
      have hk := Option.some.inj hk
      subst hk
      exact hz
    · refine k_iload_n (pc := 30) h 1 dX8_paidBy_30 rfl ?_
      refine k_iload_n (pc := 31) h 3 dX8_paidBy_31 rfl ?_
      obtain ⟨p2, hc1, hk⟩ := bd_some hk
      refine k_callS1 (pc := 32) h (c_X8_has hc1) cw_X8_188 ⟨⟨by decide, by decide⟩, Nat.zero_le _, Nat.zero_le _⟩ rfl (Nat.le_of_ble_eq_true rfl) dX8_paidBy_32 ?_
      refine k_if_eq (tgt := 99) (pc := 35) h dX8_paidBy_35 rfl hk (fun hc hk => ?_) (fun hc hk => ?_)
      · refine k_sub h [0, 1, 2, 3, 5] (lv' := [(0, .ref 46), (1, .int l1), (2, .int l2), (3, .int l3), (5, .int l5)]) rfl ?_
        have hk := Option.some.inj hk
        subst hk
        exact hz
      · refine k_iload (pc := 38) h 4 dX8_paidBy_38 rfl ?_
        refine k_iload (pc := 40) h 4 dX8_paidBy_40 rfl ?_
        refine k_iconst (pc := 42) h (x := (1 : Int32)) dX8_paidBy_42 (by decide) ?_
        refine k_isub (pc := 43) h dX8_paidBy_43 ?_
        refine k_iand (pc := 44) h dX8_paidBy_44 ?_
        refine k_if_eq (tgt := 93) (pc := 45) h dX8_paidBy_45 rfl hk (fun hc hk => ?_) (fun hc hk => ?_)
        · exact EJ93 _ _ _ _ _ _ _ hk hz
        · refine k_iload (pc := 48) h 5 dX8_paidBy_48 rfl ?_
          refine k_aload_n (pc := 50) h 0 dX8_paidBy_50 rfl ?_
          refine k_getr (pc := 51) h fl_X8_26 ly_46 rfl dX8_paidBy_51 ?_
          refine k_aload_n (pc := 54) h 0 dX8_paidBy_54 rfl ?_
          refine k_getr (pc := 55) h fl_X8_65 ly_46 rfl dX8_paidBy_55 ?_
          refine k_iload (pc := 58) h 6 dX8_paidBy_58 rfl ?_
          refine k_iald (pc := 60) h ly_62 dX8_paidBy_60 hk (fun hk => ?_)
          refine k_iald (pc := 61) h ly_51 dX8_paidBy_61 hk (fun hk => ?_)
          refine k_iadd (pc := 62) h dX8_paidBy_62 ?_
          refine k_nmi (pc := 63) h hk (fun v3 hk => ?_)
          refine k_istore (pc := 63) h [1, 2, 3, 4, 5, 0, 6] (lv' := [(0, .ref 46), (1, .int l1), (2, .int l2), (3, .int l3), (4, .int l4), (5, .int v3), (6, .int l6)]) dX8_paidBy_63 (by decide) rfl ?_
          refine k_iload (pc := 65) h 4 dX8_paidBy_65 rfl ?_
          refine k_aload_n (pc := 67) h 0 dX8_paidBy_67 rfl ?_
          refine k_aload_n (pc := 68) h 0 dX8_paidBy_68 rfl ?_
          refine k_getr (pc := 69) h fl_X8_65 ly_46 rfl dX8_paidBy_69 ?_
          refine k_iload (pc := 72) h 6 dX8_paidBy_72 rfl ?_
          refine k_iald (pc := 74) h ly_62 dX8_paidBy_74 hk (fun hk => ?_)
          refine k_aload_n (pc := 75) h 0 dX8_paidBy_75 rfl ?_
          refine k_aload_n (pc := 76) h 0 dX8_paidBy_76 rfl ?_
          refine k_getr (pc := 77) h fl_X8_65 ly_46 rfl dX8_paidBy_77 ?_
          refine k_iload (pc := 80) h 6 dX8_paidBy_80 rfl ?_
          refine k_iald (pc := 82) h ly_62 dX8_paidBy_82 hk (fun hk => ?_)
          refine k_iload_n (pc := 83) h 3 dX8_paidBy_83 rfl ?_
          obtain ⟨p5, hc4, hk⟩ := bd_some hk
          refine k_callV1 (pc := 84) h (c_X8_answerOf hc4) cw_X8_169 ly_46 rfl ⟨⟨by decide, by decide⟩, Nat.zero_le _, Nat.zero_le _⟩ rfl (Nat.le_of_ble_eq_true rfl) dX8_paidBy_84 ?_
          obtain ⟨p7, hc6, hk⟩ := bd_some hk
          refine k_callV1 (pc := 87) h (c_X8_casesBy hc6) cw_X8_176 ly_46 rfl ⟨⟨by decide, by decide⟩, Nat.zero_le _, Nat.zero_le _⟩ rfl (Nat.le_of_ble_eq_true rfl) dX8_paidBy_87 ?_
          refine k_iand (pc := 90) h dX8_paidBy_90 ?_
          refine k_nmi (pc := 91) h hk (fun v8 hk => ?_)
          refine k_istore (pc := 91) h [1, 2, 3, 4, 0, 5, 6] (lv' := [(0, .ref 46), (1, .int l1), (2, .int l2), (3, .int l3), (4, .int v8), (5, .int v3), (6, .int l6)]) dX8_paidBy_91 (by decide) rfl ?_
          exact EJ93 _ _ _ _ _ _ _ hk hz
  have LB4 : ∀ (l1 : Int32), ∀ (nn : Nat) (s : Int32 × Int32) (r : Int32), lpf (fun s : Int32 × Int32 => f_X8_paidBy_b4 w l1 s.1 s.2) nn s = some r → (fun r : Int32 => G 117 [(2, .int r)] [] w) r → (fun s : Int32 × Int32 => G 4 [(0, .ref 46), (1, .int l1), (2, .int s.1), (3, .int s.2)] [] w) s := by
    intro l1
    refine lpf_ind (fun s : Int32 × Int32 => G 4 [(0, .ref 46), (1, .int l1), (2, .int s.1), (3, .int s.2)] [] w) (fun r : Int32 => G 117 [(2, .int r)] [] w) ?_
    rintro ⟨l2, l3⟩ z hk hz
    have hk : f_X8_paidBy_b4 w l1 l2 l3 = some z := hk
    unfold f_X8_paidBy_b4 at hk
    show G 4 [(0, .ref 46), (1, .int l1), (2, .int l2), (3, .int l3)] [] w
    refine k_iload_n (pc := 4) h 3 dX8_paidBy_4 rfl ?_
    refine k_aload_n (pc := 5) h 0 dX8_paidBy_5 rfl ?_
    refine k_geti (pc := 6) h fl_X8_13 ly_46 rfl dX8_paidBy_6 ?_
    refine k_icmp_ge (tgt := 117) (pc := 9) h dX8_paidBy_9 rfl hk (fun hc hk => ?_) (fun hc hk => ?_)
    · refine k_sub h [2] (lv' := [(2, .int l2)]) rfl ?_
      have hk := Option.some.inj hk
      subst hk
      exact hz
    · refine k_iload_n (pc := 12) h 1 dX8_paidBy_12 rfl ?_
      refine k_istore (pc := 13) h [1, 2, 3, 4, 0] (lv' := [(0, .ref 46), (1, .int l1), (2, .int l2), (3, .int l3), (4, .int l1)]) dX8_paidBy_13 (by decide) rfl ?_
      refine k_iconst (pc := 15) h (x := (0 : Int32)) dX8_paidBy_15 (by decide) ?_
      refine k_istore (pc := 16) h [1, 2, 3, 4, 5, 0] (lv' := [(0, .ref 46), (1, .int l1), (2, .int l2), (3, .int l3), (4, .int l1), (5, .int (0 : Int32))]) dX8_paidBy_16 (by decide) rfl ?_
      refine k_iconst (pc := 18) h (x := (0 : Int32)) dX8_paidBy_18 (by decide) ?_
      refine k_istore (pc := 19) h [1, 2, 3, 4, 5, 6, 0] (lv' := [(0, .ref 46), (1, .int l1), (2, .int l2), (3, .int l3), (4, .int l1), (5, .int (0 : Int32)), (6, .int (0 : Int32))]) dX8_paidBy_19 (by decide) rfl ?_
      obtain ⟨r9, hl10, hk⟩ := bd_some hk
      refine LB21 _ _ _ _ _ _ hl10 ?_
      show G 99 [(0, .ref 46), (1, .int l1), (2, .int l2), (3, .int l3), (5, .int r9)] [] w
      refine k_iload_n (pc := 99) h 2 dX8_paidBy_99 rfl ?_
      refine k_iload (pc := 100) h 4 dX8_paidBy_100 rfl ?_
      refine k_aload_n (pc := 102) h 0 dX8_paidBy_102 rfl ?_
      refine k_getr (pc := 103) h fl_X8_17 ly_46 rfl dX8_paidBy_103 ?_
      refine k_iload_n (pc := 106) h 3 dX8_paidBy_106 rfl ?_
      refine k_iald (pc := 107) h ly_48 dX8_paidBy_107 hk (fun hk => ?_)
      refine k_imul (pc := 108) h dX8_paidBy_108 ?_
      refine k_iadd (pc := 109) h dX8_paidBy_109 ?_
      refine k_nmi (pc := 110) h hk (fun v11 hk => ?_)
      refine k_istore_n (pc := 110) h [1, 2, 0, 3, 4] (lv' := [(0, .ref 46), (1, .int l1), (2, .int v11), (3, .int l3), (5, .int r9)]) dX8_paidBy_110 rfl (by decide) rfl ?_
      refine k_iinc (pc := 111) h 3 [1, 2, 3, 0, 4] (v := (l3 + (1 : Int32))) (lv' := [(0, .ref 46), (1, .int l1), (2, .int v11), (3, .int (l3 + (1 : Int32))), (5, .int r9)]) dX8_paidBy_111 rfl rfl (by decide) rfl ?_
      refine k_goto (tgt := 4) (pc := 114) h dX8_paidBy_114 rfl ?_
      refine k_sub h [0, 1, 2, 3] (lv' := [(0, .ref 46), (1, .int l1), (2, .int v11), (3, .int (l3 + (1 : Int32)))]) rfl ?_
      have hk := Option.some.inj hk
      subst hk
      exact hz
  refine k_iconst (pc := 0) h (x := (0 : Int32)) dX8_paidBy_0 (by decide) ?_
  refine k_istore_n (pc := 1) h [1, 2, 0] (lv' := [(0, .ref 46), (1, .int l1), (2, .int (0 : Int32))]) dX8_paidBy_1 rfl (by decide) rfl ?_
  refine k_iconst (pc := 2) h (x := (0 : Int32)) dX8_paidBy_2 (by decide) ?_
  refine k_istore_n (pc := 3) h [1, 2, 3, 0] (lv' := [(0, .ref 46), (1, .int l1), (2, .int (0 : Int32)), (3, .int (0 : Int32))]) dX8_paidBy_3 rfl (by decide) rfl ?_
  obtain ⟨r12, hl13, hk⟩ := bd_some hk
  refine LB4 _ _ _ _ hl13 ?_
  show G 117 [(2, .int r12)] [] w
  refine k_iload_n (pc := 117) h 0 dX8_paidBy_117 rfl ?_
  have hk := Option.some.inj hk
  subst hk
  exact k_iret (pc := 118) h dX8_paidBy_118 ⟨rfl, rfl, rfl, rfl, rfl, ⟨.int, rfl, rfl⟩⟩
def f_X8_partedBy_j60 (w : WW) (l1 : Int32) (l2 : Int32) (l4 : Int32) (l5 : Int32) (s0 : Int32) (s1 : Int32) : Option ((Int32 × Int32) ⊕ (Int32)) := nmv (s1 + s0) (fun v3 => some (.inl (v3, (l5 + (1 : Int32)))))
def f_X8_partedBy_j59 (w : WW) (l1 : Int32) (l2 : Int32) (l4 : Int32) (l5 : Int32) (s0 : Int32) : Option ((Int32 × Int32) ⊕ (Int32)) := f_X8_partedBy_j60 w l1 l2 l4 l5 (0 : Int32) s0
def f_X8_partedBy_b17 (w : WW) (l1 : Int32) (l2 : Int32) (l4 : Int32) (l3 : Int32) (l5 : Int32) : Option ((Int32 × Int32) ⊕ (Int32)) := if l4 ≤ l5 then some (.inr l3) else (f_X8_has w l2 l4).bind (fun p2 => if p2 = 0 then f_X8_partedBy_j59 w l1 l2 l4 l5 l3 else (f_X8_has w l2 l5).bind (fun p5 => if p5 = 0 then f_X8_partedBy_j59 w l1 l2 l4 l5 l3 else (f_X8_parts w l1 l4 l5).bind (fun p7 => if p7 = 0 then f_X8_partedBy_j59 w l1 l2 l4 l5 l3 else f_X8_partedBy_j60 w l1 l2 l4 l5 (1 : Int32) l3)))
def f_X8_partedBy_b5 (w : WW) (l1 : Int32) (l2 : Int32) (l3 : Int32) (l4 : Int32) : Option ((Int32 × Int32) ⊕ (Int32)) := if (w.1 46 1) ≤ l4 then some (.inr l3) else (lpf (fun s : Int32 × Int32 => f_X8_partedBy_b17 w l1 l2 l4 s.1 s.2) FU (l3, (0 : Int32))).bind (fun r8 => some (.inl (r8, (l4 + (1 : Int32)))))
def f_X8_partedBy (w : WW) (l1 : Int32) (l2 : Int32) : Option (Int32) := (lpf (fun s : Int32 × Int32 => f_X8_partedBy_b5 w l1 l2 s.1 s.2) FU ((0 : Int32), (0 : Int32))).bind (fun r10 => some (r10))
set_option maxRecDepth 20000 in
set_option maxHeartbeats 4000000 in
theorem c_X8_partedBy {w : WW} {l1 : Int32} {l2 : Int32} {z : Int32} (hk : f_X8_partedBy w l1 l2 = some z) : Cn 3 yX8_partedBy cX8_partedBy 6 (some .int) LAY [.ref 46, .int l1, .int l2] w (some (.int z)) w := by
  refine Cn.of (by decide +kernel) (Nat.le_of_ble_eq_true rfl) (fun G h => ?_)
  have h : Rules cX8_partedBy RX8 "partedBy" 6 (rmd 3 0 0) none _ _ LAY 0 0 G := h
  show G 0 [(0, .ref 46), (1, .int l1), (2, .int l2)] [] w
  unfold f_X8_partedBy at hk
  have EJ60 : ∀ (l1 : Int32) (l2 : Int32) (l4 : Int32) (l5 : Int32) (s0 : Int32) (s1 : Int32) (z : (Int32 × Int32) ⊕ (Int32)), f_X8_partedBy_j60 w l1 l2 l4 l5 s0 s1 = some z → Sum.elim (fun s : Int32 × Int32 => G 17 [(0, .ref 46), (1, .int l1), (2, .int l2), (3, .int s.1), (4, .int l4), (5, .int s.2)] [] w) (fun r : Int32 => G 68 [(0, .ref 46), (1, .int l1), (2, .int l2), (3, .int r), (4, .int l4)] [] w) z → G 60 [(0, .ref 46), (1, .int l1), (2, .int l2), (4, .int l4), (5, .int l5)] [.int s0, .int s1] w := by
    intro l1 l2 l4 l5 s0 s1 z hk hz
    unfold f_X8_partedBy_j60 at hk
    refine k_iadd (pc := 60) h dX8_partedBy_60 ?_
    refine k_nmi (pc := 61) h hk (fun v3 hk => ?_)
    refine k_istore_n (pc := 61) h [1, 2, 3, 0, 4, 5] (lv' := [(0, .ref 46), (1, .int l1), (2, .int l2), (3, .int v3), (4, .int l4), (5, .int l5)]) dX8_partedBy_61 rfl (by decide) rfl ?_
    refine k_iinc (pc := 62) h 5 [1, 2, 3, 4, 5, 0] (v := (l5 + (1 : Int32))) (lv' := [(0, .ref 46), (1, .int l1), (2, .int l2), (3, .int v3), (4, .int l4), (5, .int (l5 + (1 : Int32)))]) dX8_partedBy_62 rfl rfl (by decide) rfl ?_
    refine k_goto (tgt := 17) (pc := 65) h dX8_partedBy_65 rfl ?_
    have hk := Option.some.inj hk
    subst hk
    exact hz
  have EJ59 : ∀ (l1 : Int32) (l2 : Int32) (l4 : Int32) (l5 : Int32) (s0 : Int32) (z : (Int32 × Int32) ⊕ (Int32)), f_X8_partedBy_j59 w l1 l2 l4 l5 s0 = some z → Sum.elim (fun s : Int32 × Int32 => G 17 [(0, .ref 46), (1, .int l1), (2, .int l2), (3, .int s.1), (4, .int l4), (5, .int s.2)] [] w) (fun r : Int32 => G 68 [(0, .ref 46), (1, .int l1), (2, .int l2), (3, .int r), (4, .int l4)] [] w) z → G 59 [(0, .ref 46), (1, .int l1), (2, .int l2), (4, .int l4), (5, .int l5)] [.int s0] w := by
    intro l1 l2 l4 l5 s0 z hk hz
    unfold f_X8_partedBy_j59 at hk
    refine k_iconst (pc := 59) h (x := (0 : Int32)) dX8_partedBy_59 (by decide) ?_
    exact EJ60 _ _ _ _ _ _ _ hk hz
  have LB17 : ∀ (l1 : Int32) (l2 : Int32) (l4 : Int32), ∀ (nn : Nat) (s : Int32 × Int32) (r : Int32), lpf (fun s : Int32 × Int32 => f_X8_partedBy_b17 w l1 l2 l4 s.1 s.2) nn s = some r → (fun r : Int32 => G 68 [(0, .ref 46), (1, .int l1), (2, .int l2), (3, .int r), (4, .int l4)] [] w) r → (fun s : Int32 × Int32 => G 17 [(0, .ref 46), (1, .int l1), (2, .int l2), (3, .int s.1), (4, .int l4), (5, .int s.2)] [] w) s := by
    intro l1 l2 l4
    refine lpf_ind (fun s : Int32 × Int32 => G 17 [(0, .ref 46), (1, .int l1), (2, .int l2), (3, .int s.1), (4, .int l4), (5, .int s.2)] [] w) (fun r : Int32 => G 68 [(0, .ref 46), (1, .int l1), (2, .int l2), (3, .int r), (4, .int l4)] [] w) ?_
    rintro ⟨l3, l5⟩ z hk hz
    have hk : f_X8_partedBy_b17 w l1 l2 l4 l3 l5 = some z := hk
    unfold f_X8_partedBy_b17 at hk
    show G 17 [(0, .ref 46), (1, .int l1), (2, .int l2), (3, .int l3), (4, .int l4), (5, .int l5)] [] w
    refine k_iload (pc := 17) h 5 dX8_partedBy_17 rfl ?_
    refine k_iload (pc := 19) h 4 dX8_partedBy_19 rfl ?_
    refine k_icmp_ge (tgt := 68) (pc := 21) h dX8_partedBy_21 rfl hk (fun hc hk => ?_) (fun hc hk => ?_)
    · refine k_sub h [0, 1, 2, 3, 4] (lv' := [(0, .ref 46), (1, .int l1), (2, .int l2), (3, .int l3), (4, .int l4)]) rfl ?_
      have hk := Option.some.inj hk
      subst hk
      exact hz
    · refine k_iload_n (pc := 24) h 3 dX8_partedBy_24 rfl ?_
      refine k_iload_n (pc := 25) h 2 dX8_partedBy_25 rfl ?_
      refine k_iload (pc := 26) h 4 dX8_partedBy_26 rfl ?_
      obtain ⟨p2, hc1, hk⟩ := bd_some hk
      refine k_callS1 (pc := 28) h (c_X8_has hc1) cw_X8_188 ⟨⟨by decide, by decide⟩, Nat.zero_le _, Nat.zero_le _⟩ rfl (Nat.le_of_ble_eq_true rfl) dX8_partedBy_28 ?_
      refine k_if_eq (tgt := 59) (pc := 31) h dX8_partedBy_31 rfl hk (fun hc hk => ?_) (fun hc hk => ?_)
      · refine k_sub h [0, 1, 2, 4, 5] (lv' := [(0, .ref 46), (1, .int l1), (2, .int l2), (4, .int l4), (5, .int l5)]) rfl ?_
        exact EJ59 _ _ _ _ _ _ hk hz
      · refine k_iload_n (pc := 34) h 2 dX8_partedBy_34 rfl ?_
        refine k_iload (pc := 35) h 5 dX8_partedBy_35 rfl ?_
        obtain ⟨p5, hc4, hk⟩ := bd_some hk
        refine k_callS1 (pc := 37) h (c_X8_has hc4) cw_X8_188 ⟨⟨by decide, by decide⟩, Nat.zero_le _, Nat.zero_le _⟩ rfl (Nat.le_of_ble_eq_true rfl) dX8_partedBy_37 ?_
        refine k_if_eq (tgt := 59) (pc := 40) h dX8_partedBy_40 rfl hk (fun hc hk => ?_) (fun hc hk => ?_)
        · refine k_sub h [0, 1, 2, 4, 5] (lv' := [(0, .ref 46), (1, .int l1), (2, .int l2), (4, .int l4), (5, .int l5)]) rfl ?_
          exact EJ59 _ _ _ _ _ _ hk hz
        · refine k_aload_n (pc := 43) h 0 dX8_partedBy_43 rfl ?_
          refine k_iload_n (pc := 44) h 1 dX8_partedBy_44 rfl ?_
          refine k_iload (pc := 45) h 4 dX8_partedBy_45 rfl ?_
          refine k_iload (pc := 47) h 5 dX8_partedBy_47 rfl ?_
          obtain ⟨p7, hc6, hk⟩ := bd_some hk
          refine k_callV1 (pc := 49) h (c_X8_parts hc6) cw_X8_201 ly_46 rfl ⟨⟨by decide, by decide⟩, Nat.zero_le _, Nat.zero_le _⟩ rfl (Nat.le_of_ble_eq_true rfl) dX8_partedBy_49 ?_
          refine k_if_eq (tgt := 59) (pc := 52) h dX8_partedBy_52 rfl hk (fun hc hk => ?_) (fun hc hk => ?_)
          · refine k_sub h [0, 1, 2, 4, 5] (lv' := [(0, .ref 46), (1, .int l1), (2, .int l2), (4, .int l4), (5, .int l5)]) rfl ?_
            exact EJ59 _ _ _ _ _ _ hk hz
          · refine k_iconst (pc := 55) h (x := (1 : Int32)) dX8_partedBy_55 (by decide) ?_
            refine k_goto (tgt := 60) (pc := 56) h dX8_partedBy_56 rfl ?_
            refine k_sub h [0, 1, 2, 4, 5] (lv' := [(0, .ref 46), (1, .int l1), (2, .int l2), (4, .int l4), (5, .int l5)]) rfl ?_
            exact EJ60 _ _ _ _ _ _ _ hk hz
  have LB5 : ∀ (l1 : Int32) (l2 : Int32), ∀ (nn : Nat) (s : Int32 × Int32) (r : Int32), lpf (fun s : Int32 × Int32 => f_X8_partedBy_b5 w l1 l2 s.1 s.2) nn s = some r → (fun r : Int32 => G 74 [(3, .int r)] [] w) r → (fun s : Int32 × Int32 => G 5 [(0, .ref 46), (1, .int l1), (2, .int l2), (3, .int s.1), (4, .int s.2)] [] w) s := by
    intro l1 l2
    refine lpf_ind (fun s : Int32 × Int32 => G 5 [(0, .ref 46), (1, .int l1), (2, .int l2), (3, .int s.1), (4, .int s.2)] [] w) (fun r : Int32 => G 74 [(3, .int r)] [] w) ?_
    rintro ⟨l3, l4⟩ z hk hz
    have hk : f_X8_partedBy_b5 w l1 l2 l3 l4 = some z := hk
    unfold f_X8_partedBy_b5 at hk
    show G 5 [(0, .ref 46), (1, .int l1), (2, .int l2), (3, .int l3), (4, .int l4)] [] w
    refine k_iload (pc := 5) h 4 dX8_partedBy_5 rfl ?_
    refine k_aload_n (pc := 7) h 0 dX8_partedBy_7 rfl ?_
    refine k_geti (pc := 8) h fl_X8_13 ly_46 rfl dX8_partedBy_8 ?_
    refine k_icmp_ge (tgt := 74) (pc := 11) h dX8_partedBy_11 rfl hk (fun hc hk => ?_) (fun hc hk => ?_)
    · refine k_sub h [3] (lv' := [(3, .int l3)]) rfl ?_
      have hk := Option.some.inj hk
      subst hk
      exact hz
    · refine k_iconst (pc := 14) h (x := (0 : Int32)) dX8_partedBy_14 (by decide) ?_
      refine k_istore (pc := 15) h [1, 2, 3, 4, 5, 0] (lv' := [(0, .ref 46), (1, .int l1), (2, .int l2), (3, .int l3), (4, .int l4), (5, .int (0 : Int32))]) dX8_partedBy_15 (by decide) rfl ?_
      obtain ⟨r8, hl9, hk⟩ := bd_some hk
      refine LB17 _ _ _ _ _ _ hl9 ?_
      show G 68 [(0, .ref 46), (1, .int l1), (2, .int l2), (3, .int r8), (4, .int l4)] [] w
      refine k_iinc (pc := 68) h 4 [1, 2, 3, 4, 0] (v := (l4 + (1 : Int32))) (lv' := [(0, .ref 46), (1, .int l1), (2, .int l2), (3, .int r8), (4, .int (l4 + (1 : Int32)))]) dX8_partedBy_68 rfl rfl (by decide) rfl ?_
      refine k_goto (tgt := 5) (pc := 71) h dX8_partedBy_71 rfl ?_
      have hk := Option.some.inj hk
      subst hk
      exact hz
  refine k_iconst (pc := 0) h (x := (0 : Int32)) dX8_partedBy_0 (by decide) ?_
  refine k_istore_n (pc := 1) h [1, 2, 3, 0] (lv' := [(0, .ref 46), (1, .int l1), (2, .int l2), (3, .int (0 : Int32))]) dX8_partedBy_1 rfl (by decide) rfl ?_
  refine k_iconst (pc := 2) h (x := (0 : Int32)) dX8_partedBy_2 (by decide) ?_
  refine k_istore (pc := 3) h [1, 2, 3, 4, 0] (lv' := [(0, .ref 46), (1, .int l1), (2, .int l2), (3, .int (0 : Int32)), (4, .int (0 : Int32))]) dX8_partedBy_3 (by decide) rfl ?_
  obtain ⟨r10, hl11, hk⟩ := bd_some hk
  refine LB5 _ _ _ _ _ hl11 ?_
  show G 74 [(3, .int r10)] [] w
  refine k_iload_n (pc := 74) h 0 dX8_partedBy_74 rfl ?_
  have hk := Option.some.inj hk
  subst hk
  exact k_iret (pc := 75) h dX8_partedBy_75 ⟨rfl, rfl, rfl, rfl, rfl, ⟨.int, rfl, rfl⟩⟩
def f_X8_partedByAny_j58 (w : WW) (l1 : Int32) (l2 : Int32) (l3 : Int32) (l4 : Int32) (l6 : Int32) (s0 : Int32) : Option ((Int32 × Int32) ⊕ (Int32)) := some (.inl (s0, (l6 + (1 : Int32))))
def f_X8_partedByAny_j53 (w : WW) (l1 : Int32) (l2 : Int32) (l3 : Int32) (l4 : Int32) (l6 : Int32) : Option ((Int32 × Int32) ⊕ (Int32)) := f_X8_partedByAny_j58 w l1 l2 l3 l4 l6 (1 : Int32)
def f_X8_partedByAny_b27 (w : WW) (l1 : Int32) (l2 : Int32) (l3 : Int32) (l4 : Int32) (l5 : Int32) (l6 : Int32) : Option ((Int32 × Int32) ⊕ (Int32)) := if (w.1 46 2) ≤ l6 then some (.inr l5) else if l5 = 0 then (f_X8_parts w l6 l3 l4).bind (fun p2 => if p2 = 0 then f_X8_partedByAny_j58 w l1 l2 l3 l4 l6 (0 : Int32) else f_X8_partedByAny_j53 w l1 l2 l3 l4 l6) else f_X8_partedByAny_j53 w l1 l2 l3 l4 l6
def f_X8_partedByAny_j94 (w : WW) (l1 : Int32) (l3 : Int32) (l4 : Int32) (s0 : Int32) (s1 : Int32) : Option ((Int32 × Int32) ⊕ (Int32)) := nmv (s1 + s0) (fun v5 => some (.inl (v5, (l4 + (1 : Int32)))))
def f_X8_partedByAny_j93 (w : WW) (l1 : Int32) (l3 : Int32) (l4 : Int32) (s0 : Int32) : Option ((Int32 × Int32) ⊕ (Int32)) := f_X8_partedByAny_j94 w l1 l3 l4 (0 : Int32) s0
def f_X8_partedByAny_b15 (w : WW) (l1 : Int32) (l3 : Int32) (l2 : Int32) (l4 : Int32) : Option ((Int32 × Int32) ⊕ (Int32)) := if l3 ≤ l4 then some (.inr l2) else (lpf (fun s : Int32 × Int32 => f_X8_partedByAny_b27 w l1 l2 l3 l4 s.1 s.2) FU ((0 : Int32), (0 : Int32))).bind (fun r3 => if r3 = 0 then f_X8_partedByAny_j93 w l1 l3 l4 l2 else (f_X8_has w l1 l3).bind (fun p7 => if p7 = 0 then f_X8_partedByAny_j93 w l1 l3 l4 l2 else (f_X8_has w l1 l4).bind (fun p9 => if p9 = 0 then f_X8_partedByAny_j93 w l1 l3 l4 l2 else f_X8_partedByAny_j94 w l1 l3 l4 (1 : Int32) l2)))
def f_X8_partedByAny_b4 (w : WW) (l1 : Int32) (l2 : Int32) (l3 : Int32) : Option ((Int32 × Int32) ⊕ (Int32)) := if (w.1 46 1) ≤ l3 then some (.inr l2) else (lpf (fun s : Int32 × Int32 => f_X8_partedByAny_b15 w l1 l3 s.1 s.2) FU (l2, (0 : Int32))).bind (fun r10 => some (.inl (r10, (l3 + (1 : Int32)))))
def f_X8_partedByAny (w : WW) (l1 : Int32) : Option (Int32) := (lpf (fun s : Int32 × Int32 => f_X8_partedByAny_b4 w l1 s.1 s.2) FU ((0 : Int32), (0 : Int32))).bind (fun r12 => some (r12))
set_option maxRecDepth 20000 in
set_option maxHeartbeats 4000000 in
theorem c_X8_partedByAny {w : WW} {l1 : Int32} {z : Int32} (hk : f_X8_partedByAny w l1 = some z) : Cn 3 yX8_partedByAny cX8_partedByAny 7 (some .int) LAY [.ref 46, .int l1] w (some (.int z)) w := by
  refine Cn.of (by decide +kernel) (Nat.le_of_ble_eq_true rfl) (fun G h => ?_)
  have h : Rules cX8_partedByAny RX8 "partedByAny" 7 (rmd 3 0 0) none _ _ LAY 0 0 G := h
  show G 0 [(0, .ref 46), (1, .int l1)] [] w
  unfold f_X8_partedByAny at hk
  have EJ58 : ∀ (l1 : Int32) (l2 : Int32) (l3 : Int32) (l4 : Int32) (l6 : Int32) (s0 : Int32) (z : (Int32 × Int32) ⊕ (Int32)), f_X8_partedByAny_j58 w l1 l2 l3 l4 l6 s0 = some z → Sum.elim (fun s : Int32 × Int32 => G 27 [(0, .ref 46), (1, .int l1), (2, .int l2), (3, .int l3), (4, .int l4), (5, .int s.1), (6, .int s.2)] [] w) (fun r : Int32 => G 66 [(0, .ref 46), (1, .int l1), (2, .int l2), (3, .int l3), (4, .int l4), (5, .int r)] [] w) z → G 58 [(0, .ref 46), (1, .int l1), (2, .int l2), (3, .int l3), (4, .int l4), (6, .int l6)] [.int s0] w := by
    intro l1 l2 l3 l4 l6 s0 z hk hz
    unfold f_X8_partedByAny_j58 at hk
    refine k_istore (pc := 58) h [1, 2, 3, 4, 5, 0, 6] (lv' := [(0, .ref 46), (1, .int l1), (2, .int l2), (3, .int l3), (4, .int l4), (5, .int s0), (6, .int l6)]) dX8_partedByAny_58 (by decide) rfl ?_
    refine k_iinc (pc := 60) h 6 [1, 2, 3, 4, 5, 6, 0] (v := (l6 + (1 : Int32))) (lv' := [(0, .ref 46), (1, .int l1), (2, .int l2), (3, .int l3), (4, .int l4), (5, .int s0), (6, .int (l6 + (1 : Int32)))]) dX8_partedByAny_60 rfl rfl (by decide) rfl ?_
    refine k_goto (tgt := 27) (pc := 63) h dX8_partedByAny_63 rfl ?_
    have hk := Option.some.inj hk
    subst hk
    exact hz
  have EJ53 : ∀ (l1 : Int32) (l2 : Int32) (l3 : Int32) (l4 : Int32) (l6 : Int32) (z : (Int32 × Int32) ⊕ (Int32)), f_X8_partedByAny_j53 w l1 l2 l3 l4 l6 = some z → Sum.elim (fun s : Int32 × Int32 => G 27 [(0, .ref 46), (1, .int l1), (2, .int l2), (3, .int l3), (4, .int l4), (5, .int s.1), (6, .int s.2)] [] w) (fun r : Int32 => G 66 [(0, .ref 46), (1, .int l1), (2, .int l2), (3, .int l3), (4, .int l4), (5, .int r)] [] w) z → G 53 [(0, .ref 46), (1, .int l1), (2, .int l2), (3, .int l3), (4, .int l4), (6, .int l6)] [] w := by
    intro l1 l2 l3 l4 l6 z hk hz
    unfold f_X8_partedByAny_j53 at hk
    refine k_iconst (pc := 53) h (x := (1 : Int32)) dX8_partedByAny_53 (by decide) ?_
    refine k_goto (tgt := 58) (pc := 54) h dX8_partedByAny_54 rfl ?_
    exact EJ58 _ _ _ _ _ _ _ hk hz
  have LB27 : ∀ (l1 : Int32) (l2 : Int32) (l3 : Int32) (l4 : Int32), ∀ (nn : Nat) (s : Int32 × Int32) (r : Int32), lpf (fun s : Int32 × Int32 => f_X8_partedByAny_b27 w l1 l2 l3 l4 s.1 s.2) nn s = some r → (fun r : Int32 => G 66 [(0, .ref 46), (1, .int l1), (2, .int l2), (3, .int l3), (4, .int l4), (5, .int r)] [] w) r → (fun s : Int32 × Int32 => G 27 [(0, .ref 46), (1, .int l1), (2, .int l2), (3, .int l3), (4, .int l4), (5, .int s.1), (6, .int s.2)] [] w) s := by
    intro l1 l2 l3 l4
    refine lpf_ind (fun s : Int32 × Int32 => G 27 [(0, .ref 46), (1, .int l1), (2, .int l2), (3, .int l3), (4, .int l4), (5, .int s.1), (6, .int s.2)] [] w) (fun r : Int32 => G 66 [(0, .ref 46), (1, .int l1), (2, .int l2), (3, .int l3), (4, .int l4), (5, .int r)] [] w) ?_
    rintro ⟨l5, l6⟩ z hk hz
    have hk : f_X8_partedByAny_b27 w l1 l2 l3 l4 l5 l6 = some z := hk
    unfold f_X8_partedByAny_b27 at hk
    show G 27 [(0, .ref 46), (1, .int l1), (2, .int l2), (3, .int l3), (4, .int l4), (5, .int l5), (6, .int l6)] [] w
    refine k_iload (pc := 27) h 6 dX8_partedByAny_27 rfl ?_
    refine k_aload_n (pc := 29) h 0 dX8_partedByAny_29 rfl ?_
    refine k_geti (pc := 30) h fl_X8_75 ly_46 rfl dX8_partedByAny_30 ?_
    refine k_icmp_ge (tgt := 66) (pc := 33) h dX8_partedByAny_33 rfl hk (fun hc hk => ?_) (fun hc hk => ?_)
    · refine k_sub h [0, 1, 2, 3, 4, 5] (lv' := [(0, .ref 46), (1, .int l1), (2, .int l2), (3, .int l3), (4, .int l4), (5, .int l5)]) rfl ?_
      have hk := Option.some.inj hk
      subst hk
      exact hz
    · refine k_iload (pc := 36) h 5 dX8_partedByAny_36 rfl ?_
      refine k_if_ne (tgt := 53) (pc := 38) h dX8_partedByAny_38 rfl hk (fun hc hk => ?_) (fun hc hk => ?_)
      · refine k_sub h [0, 1, 2, 3, 4, 6] (lv' := [(0, .ref 46), (1, .int l1), (2, .int l2), (3, .int l3), (4, .int l4), (6, .int l6)]) rfl ?_
        exact EJ53 _ _ _ _ _ _ hk hz
      · refine k_aload_n (pc := 41) h 0 dX8_partedByAny_41 rfl ?_
        refine k_iload (pc := 42) h 6 dX8_partedByAny_42 rfl ?_
        refine k_iload_n (pc := 44) h 3 dX8_partedByAny_44 rfl ?_
        refine k_iload (pc := 45) h 4 dX8_partedByAny_45 rfl ?_
        obtain ⟨p2, hc1, hk⟩ := bd_some hk
        refine k_callV1 (pc := 47) h (c_X8_parts hc1) cw_X8_201 ly_46 rfl ⟨⟨by decide, by decide⟩, Nat.zero_le _, Nat.zero_le _⟩ rfl (Nat.le_of_ble_eq_true rfl) dX8_partedByAny_47 ?_
        refine k_if_eq (tgt := 57) (pc := 50) h dX8_partedByAny_50 rfl hk (fun hc hk => ?_) (fun hc hk => ?_)
        · refine k_iconst (pc := 57) h (x := (0 : Int32)) dX8_partedByAny_57 (by decide) ?_
          refine k_sub h [0, 1, 2, 3, 4, 6] (lv' := [(0, .ref 46), (1, .int l1), (2, .int l2), (3, .int l3), (4, .int l4), (6, .int l6)]) rfl ?_
          exact EJ58 _ _ _ _ _ _ _ hk hz
        · refine k_sub h [0, 1, 2, 3, 4, 6] (lv' := [(0, .ref 46), (1, .int l1), (2, .int l2), (3, .int l3), (4, .int l4), (6, .int l6)]) rfl ?_
          exact EJ53 _ _ _ _ _ _ hk hz
  have EJ94 : ∀ (l1 : Int32) (l3 : Int32) (l4 : Int32) (s0 : Int32) (s1 : Int32) (z : (Int32 × Int32) ⊕ (Int32)), f_X8_partedByAny_j94 w l1 l3 l4 s0 s1 = some z → Sum.elim (fun s : Int32 × Int32 => G 15 [(0, .ref 46), (1, .int l1), (2, .int s.1), (3, .int l3), (4, .int s.2)] [] w) (fun r : Int32 => G 102 [(0, .ref 46), (1, .int l1), (2, .int r), (3, .int l3)] [] w) z → G 94 [(0, .ref 46), (1, .int l1), (3, .int l3), (4, .int l4)] [.int s0, .int s1] w := by
    intro l1 l3 l4 s0 s1 z hk hz
    unfold f_X8_partedByAny_j94 at hk
    refine k_iadd (pc := 94) h dX8_partedByAny_94 ?_
    refine k_nmi (pc := 95) h hk (fun v5 hk => ?_)
    refine k_istore_n (pc := 95) h [1, 2, 0, 3, 4] (lv' := [(0, .ref 46), (1, .int l1), (2, .int v5), (3, .int l3), (4, .int l4)]) dX8_partedByAny_95 rfl (by decide) rfl ?_
    refine k_iinc (pc := 96) h 4 [1, 2, 3, 4, 0] (v := (l4 + (1 : Int32))) (lv' := [(0, .ref 46), (1, .int l1), (2, .int v5), (3, .int l3), (4, .int (l4 + (1 : Int32)))]) dX8_partedByAny_96 rfl rfl (by decide) rfl ?_
    refine k_goto (tgt := 15) (pc := 99) h dX8_partedByAny_99 rfl ?_
    have hk := Option.some.inj hk
    subst hk
    exact hz
  have EJ93 : ∀ (l1 : Int32) (l3 : Int32) (l4 : Int32) (s0 : Int32) (z : (Int32 × Int32) ⊕ (Int32)), f_X8_partedByAny_j93 w l1 l3 l4 s0 = some z → Sum.elim (fun s : Int32 × Int32 => G 15 [(0, .ref 46), (1, .int l1), (2, .int s.1), (3, .int l3), (4, .int s.2)] [] w) (fun r : Int32 => G 102 [(0, .ref 46), (1, .int l1), (2, .int r), (3, .int l3)] [] w) z → G 93 [(0, .ref 46), (1, .int l1), (3, .int l3), (4, .int l4)] [.int s0] w := by
    intro l1 l3 l4 s0 z hk hz
    unfold f_X8_partedByAny_j93 at hk
    refine k_iconst (pc := 93) h (x := (0 : Int32)) dX8_partedByAny_93 (by decide) ?_
    exact EJ94 _ _ _ _ _ _ hk hz
  have LB15 : ∀ (l1 : Int32) (l3 : Int32), ∀ (nn : Nat) (s : Int32 × Int32) (r : Int32), lpf (fun s : Int32 × Int32 => f_X8_partedByAny_b15 w l1 l3 s.1 s.2) nn s = some r → (fun r : Int32 => G 102 [(0, .ref 46), (1, .int l1), (2, .int r), (3, .int l3)] [] w) r → (fun s : Int32 × Int32 => G 15 [(0, .ref 46), (1, .int l1), (2, .int s.1), (3, .int l3), (4, .int s.2)] [] w) s := by
    intro l1 l3
    refine lpf_ind (fun s : Int32 × Int32 => G 15 [(0, .ref 46), (1, .int l1), (2, .int s.1), (3, .int l3), (4, .int s.2)] [] w) (fun r : Int32 => G 102 [(0, .ref 46), (1, .int l1), (2, .int r), (3, .int l3)] [] w) ?_
    rintro ⟨l2, l4⟩ z hk hz
    have hk : f_X8_partedByAny_b15 w l1 l3 l2 l4 = some z := hk
    unfold f_X8_partedByAny_b15 at hk
    show G 15 [(0, .ref 46), (1, .int l1), (2, .int l2), (3, .int l3), (4, .int l4)] [] w
    refine k_iload (pc := 15) h 4 dX8_partedByAny_15 rfl ?_
    refine k_iload_n (pc := 17) h 3 dX8_partedByAny_17 rfl ?_
    refine k_icmp_ge (tgt := 102) (pc := 18) h dX8_partedByAny_18 rfl hk (fun hc hk => ?_) (fun hc hk => ?_)
    · refine k_sub h [0, 1, 2, 3] (lv' := [(0, .ref 46), (1, .int l1), (2, .int l2), (3, .int l3)]) rfl ?_
      have hk := Option.some.inj hk
      subst hk
      exact hz
    · refine k_iconst (pc := 21) h (x := (0 : Int32)) dX8_partedByAny_21 (by decide) ?_
      refine k_istore (pc := 22) h [1, 2, 3, 4, 5, 0] (lv' := [(0, .ref 46), (1, .int l1), (2, .int l2), (3, .int l3), (4, .int l4), (5, .int (0 : Int32))]) dX8_partedByAny_22 (by decide) rfl ?_
      refine k_iconst (pc := 24) h (x := (0 : Int32)) dX8_partedByAny_24 (by decide) ?_
      refine k_istore (pc := 25) h [1, 2, 3, 4, 5, 6, 0] (lv' := [(0, .ref 46), (1, .int l1), (2, .int l2), (3, .int l3), (4, .int l4), (5, .int (0 : Int32)), (6, .int (0 : Int32))]) dX8_partedByAny_25 (by decide) rfl ?_
      obtain ⟨r3, hl4, hk⟩ := bd_some hk
      refine LB27 _ _ _ _ _ _ _ hl4 ?_
      show G 66 [(0, .ref 46), (1, .int l1), (2, .int l2), (3, .int l3), (4, .int l4), (5, .int r3)] [] w
      refine k_iload_n (pc := 66) h 2 dX8_partedByAny_66 rfl ?_
      refine k_iload (pc := 67) h 5 dX8_partedByAny_67 rfl ?_
      refine k_if_eq (tgt := 93) (pc := 69) h dX8_partedByAny_69 rfl hk (fun hc hk => ?_) (fun hc hk => ?_)
      · refine k_sub h [0, 1, 3, 4] (lv' := [(0, .ref 46), (1, .int l1), (3, .int l3), (4, .int l4)]) rfl ?_
        exact EJ93 _ _ _ _ _ hk hz
      · refine k_iload_n (pc := 72) h 1 dX8_partedByAny_72 rfl ?_
        refine k_iload_n (pc := 73) h 3 dX8_partedByAny_73 rfl ?_
        obtain ⟨p7, hc6, hk⟩ := bd_some hk
        refine k_callS1 (pc := 74) h (c_X8_has hc6) cw_X8_188 ⟨⟨by decide, by decide⟩, Nat.zero_le _, Nat.zero_le _⟩ rfl (Nat.le_of_ble_eq_true rfl) dX8_partedByAny_74 ?_
        refine k_if_eq (tgt := 93) (pc := 77) h dX8_partedByAny_77 rfl hk (fun hc hk => ?_) (fun hc hk => ?_)
        · refine k_sub h [0, 1, 3, 4] (lv' := [(0, .ref 46), (1, .int l1), (3, .int l3), (4, .int l4)]) rfl ?_
          exact EJ93 _ _ _ _ _ hk hz
        · refine k_iload_n (pc := 80) h 1 dX8_partedByAny_80 rfl ?_
          refine k_iload (pc := 81) h 4 dX8_partedByAny_81 rfl ?_
          obtain ⟨p9, hc8, hk⟩ := bd_some hk
          refine k_callS1 (pc := 83) h (c_X8_has hc8) cw_X8_188 ⟨⟨by decide, by decide⟩, Nat.zero_le _, Nat.zero_le _⟩ rfl (Nat.le_of_ble_eq_true rfl) dX8_partedByAny_83 ?_
          refine k_if_eq (tgt := 93) (pc := 86) h dX8_partedByAny_86 rfl hk (fun hc hk => ?_) (fun hc hk => ?_)
          · refine k_sub h [0, 1, 3, 4] (lv' := [(0, .ref 46), (1, .int l1), (3, .int l3), (4, .int l4)]) rfl ?_
            exact EJ93 _ _ _ _ _ hk hz
          · refine k_iconst (pc := 89) h (x := (1 : Int32)) dX8_partedByAny_89 (by decide) ?_
            refine k_goto (tgt := 94) (pc := 90) h dX8_partedByAny_90 rfl ?_
            refine k_sub h [0, 1, 3, 4] (lv' := [(0, .ref 46), (1, .int l1), (3, .int l3), (4, .int l4)]) rfl ?_
            exact EJ94 _ _ _ _ _ _ hk hz
  have LB4 : ∀ (l1 : Int32), ∀ (nn : Nat) (s : Int32 × Int32) (r : Int32), lpf (fun s : Int32 × Int32 => f_X8_partedByAny_b4 w l1 s.1 s.2) nn s = some r → (fun r : Int32 => G 108 [(2, .int r)] [] w) r → (fun s : Int32 × Int32 => G 4 [(0, .ref 46), (1, .int l1), (2, .int s.1), (3, .int s.2)] [] w) s := by
    intro l1
    refine lpf_ind (fun s : Int32 × Int32 => G 4 [(0, .ref 46), (1, .int l1), (2, .int s.1), (3, .int s.2)] [] w) (fun r : Int32 => G 108 [(2, .int r)] [] w) ?_
    rintro ⟨l2, l3⟩ z hk hz
    have hk : f_X8_partedByAny_b4 w l1 l2 l3 = some z := hk
    unfold f_X8_partedByAny_b4 at hk
    show G 4 [(0, .ref 46), (1, .int l1), (2, .int l2), (3, .int l3)] [] w
    refine k_iload_n (pc := 4) h 3 dX8_partedByAny_4 rfl ?_
    refine k_aload_n (pc := 5) h 0 dX8_partedByAny_5 rfl ?_
    refine k_geti (pc := 6) h fl_X8_13 ly_46 rfl dX8_partedByAny_6 ?_
    refine k_icmp_ge (tgt := 108) (pc := 9) h dX8_partedByAny_9 rfl hk (fun hc hk => ?_) (fun hc hk => ?_)
    · refine k_sub h [2] (lv' := [(2, .int l2)]) rfl ?_
      have hk := Option.some.inj hk
      subst hk
      exact hz
    · refine k_iconst (pc := 12) h (x := (0 : Int32)) dX8_partedByAny_12 (by decide) ?_
      refine k_istore (pc := 13) h [1, 2, 3, 4, 0] (lv' := [(0, .ref 46), (1, .int l1), (2, .int l2), (3, .int l3), (4, .int (0 : Int32))]) dX8_partedByAny_13 (by decide) rfl ?_
      obtain ⟨r10, hl11, hk⟩ := bd_some hk
      refine LB15 _ _ _ _ _ hl11 ?_
      show G 102 [(0, .ref 46), (1, .int l1), (2, .int r10), (3, .int l3)] [] w
      refine k_iinc (pc := 102) h 3 [1, 2, 3, 0] (v := (l3 + (1 : Int32))) (lv' := [(0, .ref 46), (1, .int l1), (2, .int r10), (3, .int (l3 + (1 : Int32)))]) dX8_partedByAny_102 rfl rfl (by decide) rfl ?_
      refine k_goto (tgt := 4) (pc := 105) h dX8_partedByAny_105 rfl ?_
      have hk := Option.some.inj hk
      subst hk
      exact hz
  refine k_iconst (pc := 0) h (x := (0 : Int32)) dX8_partedByAny_0 (by decide) ?_
  refine k_istore_n (pc := 1) h [1, 2, 0] (lv' := [(0, .ref 46), (1, .int l1), (2, .int (0 : Int32))]) dX8_partedByAny_1 rfl (by decide) rfl ?_
  refine k_iconst (pc := 2) h (x := (0 : Int32)) dX8_partedByAny_2 (by decide) ?_
  refine k_istore_n (pc := 3) h [1, 2, 3, 0] (lv' := [(0, .ref 46), (1, .int l1), (2, .int (0 : Int32)), (3, .int (0 : Int32))]) dX8_partedByAny_3 rfl (by decide) rfl ?_
  obtain ⟨r12, hl13, hk⟩ := bd_some hk
  refine LB4 _ _ _ _ hl13 ?_
  show G 108 [(2, .int r12)] [] w
  refine k_iload_n (pc := 108) h 0 dX8_partedByAny_108 rfl ?_
  have hk := Option.some.inj hk
  subst hk
  exact k_iret (pc := 109) h dX8_partedByAny_109 ⟨rfl, rfl, rfl, rfl, rfl, ⟨.int, rfl, rfl⟩⟩

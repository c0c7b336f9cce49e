def f_X8_count (w : WW) (l1 : Int32) : Option (Int32 × WW) := (f_X8_in w l1 (0 : Int32) (5 : Int32)).bind (fun p2 => if p2 = 0 then (f_X8_bad w).bind (fun p4 => some (p4.1, p4.2)) else (f_X8_countOf w l1).bind (fun p6 => some (p6, w)))
set_option maxRecDepth 20000 in
set_option maxHeartbeats 4000000 in
theorem c_X8_count {w : WW} {l1 : Int32} {z : Int32 × WW} (hk : f_X8_count w l1 = some z) : Cn 5 yX8_count cX8_count 2 (some .int) LAY [.ref 46, .int l1] w (some (.int z.1)) z.2 := by
  refine Cn.of (by decide +kernel) (Nat.le_of_ble_eq_true rfl) (fun G h => ?_)
  have h : Rules cX8_count RX8 "count" 2 (rmd 5 0 0) none _ _ LAY 0 0 G := h
  show G 0 [(0, .ref 46), (1, .int l1)] [] w
  unfold f_X8_count at hk
  refine k_iload_n (pc := 0) h 1 dX8_count_0 rfl ?_
  refine k_iconst (pc := 1) h (x := (0 : Int32)) dX8_count_1 (by decide) ?_
  refine k_iconst (pc := 2) h (x := (5 : Int32)) dX8_count_2 (by decide) ?_
  obtain ⟨p2, hc1, hk⟩ := bd_some hk
  refine k_callS1 (pc := 3) h (c_X8_in hc1) cw_X8_84 ⟨⟨by decide, by decide⟩, Nat.zero_le _, Nat.zero_le _⟩ rfl (Nat.le_of_ble_eq_true rfl) dX8_count_3 ?_
  refine k_if_eq (tgt := 17) (pc := 6) h dX8_count_6 rfl hk (fun hc hk => ?_) (fun hc hk => ?_)
  · refine k_aload_n (pc := 17) h 0 dX8_count_17 rfl ?_
    obtain ⟨p4, hc3, hk⟩ := bd_some hk
    refine k_callV1 (pc := 18) h (c_X8_bad hc3) cw_X8_88 ly_46 rfl ⟨⟨by decide, by decide⟩, Nat.zero_le _, Nat.zero_le _⟩ rfl (Nat.le_of_ble_eq_true rfl) dX8_count_18 ?_
    cases hk
    exact k_iret (pc := 21) h dX8_count_21 ⟨rfl, rfl, rfl, rfl, rfl, ⟨.int, rfl, rfl⟩⟩
  · refine k_aload_n (pc := 9) h 0 dX8_count_9 rfl ?_
    refine k_iload_n (pc := 10) h 1 dX8_count_10 rfl ?_
    obtain ⟨p6, hc5, hk⟩ := bd_some hk
    refine k_callV1 (pc := 11) h (c_X8_countOf hc5) cw_X8_274 ly_46 rfl ⟨⟨by decide, by decide⟩, Nat.zero_le _, Nat.zero_le _⟩ rfl (Nat.le_of_ble_eq_true rfl) dX8_count_11 ?_
    refine k_goto (tgt := 21) (pc := 14) h dX8_count_14 rfl ?_
    cases hk
    exact k_iret (pc := 21) h dX8_count_21 ⟨rfl, rfl, rfl, rfl, rfl, ⟨.int, rfl, rfl⟩⟩
def f_X8_digest_b9 (l1 : Int32) (w : WW) : Option ((Int32 × WW) ⊕ (WW)) := if (5 : Int32) < l1 then some (.inr w) else (f_X8_countOf w l1).bind (fun p3 => (f_X8_mix w ((p3).toInt64)).bind (fun p5 => some (.inl ((l1 + (1 : Int32)), p5))))
def f_X8_digest_b32 (l1 : Int32) (w : WW) : Option ((Int32 × WW) ⊕ (WW)) := if (w.1 46 1) ≤ l1 then some (.inr w) else gd (inb l1 16) ((f_X8_mix w (((w.1 48 (l1).toNatClampNeg)).toInt64)).bind (fun p9 => some (.inl ((l1 + (1 : Int32)), p9))))
def f_X8_digest_b59 (l1 : Int32) (w : WW) : Option ((Int32 × WW) ⊕ (WW)) := if (w.1 46 2) ≤ l1 then some (.inr w) else gd (inb l1 7) ((f_X8_mix w (((w.1 49 (l1).toNatClampNeg)).toInt64)).bind (fun p13 => gd (inb l1 7) ((f_X8_mix p13 (((p13.1 50 (l1).toNatClampNeg)).toInt64)).bind (fun p15 => gd (inb l1 7) ((f_X8_mix p15 (((p15.1 51 (l1).toNatClampNeg)).toInt64)).bind (fun p17 => some (.inl ((l1 + (1 : Int32)), p17))))))))
def f_X8_digest_b108 (l1 : Int32) (w : WW) : Option ((Int32 × WW) ⊕ (WW)) := if ((2 : Int32) * (w.1 46 3)) ≤ l1 then some (.inr w) else gd (inb l1 16) ((f_X8_mix w (((w.1 52 (l1).toNatClampNeg)).toInt64)).bind (fun p21 => some (.inl ((l1 + (1 : Int32)), p21))))
def f_X8_digest (w : WW) : Option (Int64 × WW) := stL w 46 30 (1091 : Int64) (fun u1 => (lpf (fun s : Int32 × WW => f_X8_digest_b9 s.1 s.2) FU ((0 : Int32), u1)).bind (fun r6 => (lpf (fun s : Int32 × WW => f_X8_digest_b32 s.1 s.2) FU ((0 : Int32), r6)).bind (fun r10 => (lpf (fun s : Int32 × WW => f_X8_digest_b59 s.1 s.2) FU ((0 : Int32), r10)).bind (fun r18 => (lpf (fun s : Int32 × WW => f_X8_digest_b108 s.1 s.2) FU ((0 : Int32), r18)).bind (fun r22 => (f_X8_mix r22 (r22.2 46 24)).bind (fun p25 => (f_X8_mix p25 (p25.2 46 25)).bind (fun p27 => some ((p27.2 46 30), p27))))))))
set_option maxRecDepth 20000 in
set_option maxHeartbeats 4000000 in
theorem c_X8_digest {w : WW} {z : Int64 × WW} (hk : f_X8_digest w = some z) : Cn 5 yX8_digest cX8_digest 2 (some .long) LAY [.ref 46] w (some (.long z.1)) z.2 := by
  refine Cn.of (by decide +kernel) (Nat.le_of_ble_eq_true rfl) (fun G h => ?_)
  have h : Rules cX8_digest RX8 "digest" 2 (rmd 5 0 0) none _ _ LAY 0 0 G := h
  show G 0 [(0, .ref 46)] [] w
  unfold f_X8_digest at hk
  have LB9 : ∀ (nn : Nat) (s : Int32 × WW) (r : WW), lpf (fun s : Int32 × WW => f_X8_digest_b9 s.1 s.2) nn s = some r → (fun r : WW => G 30 [(0, .ref 46)] [] r) r → (fun s : Int32 × WW => G 9 [(0, .ref 46), (1, .int s.1)] [] s.2) s := by
    refine lpf_ind (fun s : Int32 × WW => G 9 [(0, .ref 46), (1, .int s.1)] [] s.2) (fun r : WW => G 30 [(0, .ref 46)] [] r) ?_
    rintro ⟨l1, w⟩ z hk hz
    have hk : f_X8_digest_b9 l1 w = some z := hk
    unfold f_X8_digest_b9 at hk
    show G 9 [(0, .ref 46), (1, .int l1)] [] w
    refine k_iload_n (pc := 9) h 1 dX8_digest_9 rfl ?_
    refine k_iconst (pc := 10) h (x := (5 : Int32)) dX8_digest_10 (by decide) ?_
    refine k_icmp_gt (tgt := 30) (pc := 11) h dX8_digest_11 rfl hk (fun hc hk => ?_) (fun hc hk => ?_)
    · refine k_sub h [0] (lv' := [(0, .ref 46)]) rfl ?_
      cases hk
      exact hz
    · refine k_aload_n (pc := 14) h 0 dX8_digest_14 rfl ?_
      refine k_aload_n (pc := 15) h 0 dX8_digest_15 rfl ?_
      refine k_iload_n (pc := 16) h 1 dX8_digest_16 rfl ?_
      obtain ⟨p3, hc2, hk⟩ := bd_some hk
      refine k_callV1 (pc := 17) h (c_X8_countOf hc2) cw_X8_274 ly_46 rfl ⟨⟨by decide, by decide⟩, Nat.zero_le _, Nat.zero_le _⟩ rfl (Nat.le_of_ble_eq_true rfl) dX8_digest_17 ?_
      refine k_i2l (pc := 20) h dX8_digest_20 ?_
      obtain ⟨p5, hc4, hk⟩ := bd_some hk
      refine k_callV0 (pc := 21) h (c_X8_mix hc4) cw_X8_284 ly_46 rfl ⟨⟨by decide, by decide⟩, Nat.zero_le _, Nat.zero_le _⟩ rfl (Nat.le_of_ble_eq_true rfl) dX8_digest_21 ?_
      refine k_iinc (pc := 24) h 1 [1, 0] (v := (l1 + (1 : Int32))) (lv' := [(0, .ref 46), (1, .int (l1 + (1 : Int32)))]) dX8_digest_24 rfl rfl (by decide) rfl ?_
      refine k_goto (tgt := 9) (pc := 27) h dX8_digest_27 rfl ?_
      cases hk
      exact hz
  have LB32 : ∀ (nn : Nat) (s : Int32 × WW) (r : WW), lpf (fun s : Int32 × WW => f_X8_digest_b32 s.1 s.2) nn s = some r → (fun r : WW => G 57 [(0, .ref 46)] [] r) r → (fun s : Int32 × WW => G 32 [(0, .ref 46), (1, .int s.1)] [] s.2) s := by
    refine lpf_ind (fun s : Int32 × WW => G 32 [(0, .ref 46), (1, .int s.1)] [] s.2) (fun r : WW => G 57 [(0, .ref 46)] [] r) ?_
    rintro ⟨l1, w⟩ z hk hz
    have hk : f_X8_digest_b32 l1 w = some z := hk
    unfold f_X8_digest_b32 at hk
    show G 32 [(0, .ref 46), (1, .int l1)] [] w
    refine k_iload_n (pc := 32) h 1 dX8_digest_32 rfl ?_
    refine k_aload_n (pc := 33) h 0 dX8_digest_33 rfl ?_
    refine k_geti (pc := 34) h fl_X8_13 ly_46 rfl dX8_digest_34 ?_
    refine k_icmp_ge (tgt := 57) (pc := 37) h dX8_digest_37 rfl hk (fun hc hk => ?_) (fun hc hk => ?_)
    · refine k_sub h [0] (lv' := [(0, .ref 46)]) rfl ?_
      cases hk
      exact hz
    · refine k_aload_n (pc := 40) h 0 dX8_digest_40 rfl ?_
      refine k_aload_n (pc := 41) h 0 dX8_digest_41 rfl ?_
      refine k_getr (pc := 42) h fl_X8_17 ly_46 rfl dX8_digest_42 ?_
      refine k_iload_n (pc := 45) h 1 dX8_digest_45 rfl ?_
      refine k_iald (pc := 46) h ly_48 dX8_digest_46 hk (fun hk => ?_)
      refine k_i2l (pc := 47) h dX8_digest_47 ?_
      obtain ⟨p9, hc8, hk⟩ := bd_some hk
      refine k_callV0 (pc := 48) h (c_X8_mix hc8) cw_X8_284 ly_46 rfl ⟨⟨by decide, by decide⟩, Nat.zero_le _, Nat.zero_le _⟩ rfl (Nat.le_of_ble_eq_true rfl) dX8_digest_48 ?_
      refine k_iinc (pc := 51) h 1 [1, 0] (v := (l1 + (1 : Int32))) (lv' := [(0, .ref 46), (1, .int (l1 + (1 : Int32)))]) dX8_digest_51 rfl rfl (by decide) rfl ?_
      refine k_goto (tgt := 32) (pc := 54) h dX8_digest_54 rfl ?_
      cases hk
      exact hz
  have LB59 : ∀ (nn : Nat) (s : Int32 × WW) (r : WW), lpf (fun s : Int32 × WW => f_X8_digest_b59 s.1 s.2) nn s = some r → (fun r : WW => G 106 [(0, .ref 46)] [] r) r → (fun s : Int32 × WW => G 59 [(0, .ref 46), (1, .int s.1)] [] s.2) s := by
    refine lpf_ind (fun s : Int32 × WW => G 59 [(0, .ref 46), (1, .int s.1)] [] s.2) (fun r : WW => G 106 [(0, .ref 46)] [] r) ?_
    rintro ⟨l1, w⟩ z hk hz
    have hk : f_X8_digest_b59 l1 w = some z := hk
    unfold f_X8_digest_b59 at hk
    show G 59 [(0, .ref 46), (1, .int l1)] [] w
    refine k_iload_n (pc := 59) h 1 dX8_digest_59 rfl ?_
    refine k_aload_n (pc := 60) h 0 dX8_digest_60 rfl ?_
    refine k_geti (pc := 61) h fl_X8_75 ly_46 rfl dX8_digest_61 ?_
    refine k_icmp_ge (tgt := 106) (pc := 64) h dX8_digest_64 rfl hk (fun hc hk => ?_) (fun hc hk => ?_)
    · refine k_sub h [0] (lv' := [(0, .ref 46)]) rfl ?_
      cases hk
      exact hz
    · refine k_aload_n (pc := 67) h 0 dX8_digest_67 rfl ?_
      refine k_aload_n (pc := 68) h 0 dX8_digest_68 rfl ?_
      refine k_getr (pc := 69) h fl_X8_20 ly_46 rfl dX8_digest_69 ?_
      refine k_iload_n (pc := 72) h 1 dX8_digest_72 rfl ?_
      refine k_iald (pc := 73) h ly_49 dX8_digest_73 hk (fun hk => ?_)
      refine k_i2l (pc := 74) h dX8_digest_74 ?_
      obtain ⟨p13, hc12, hk⟩ := bd_some hk
      refine k_callV0 (pc := 75) h (c_X8_mix hc12) cw_X8_284 ly_46 rfl ⟨⟨by decide, by decide⟩, Nat.zero_le _, Nat.zero_le _⟩ rfl (Nat.le_of_ble_eq_true rfl) dX8_digest_75 ?_
      refine k_aload_n (pc := 78) h 0 dX8_digest_78 rfl ?_
      refine k_aload_n (pc := 79) h 0 dX8_digest_79 rfl ?_
      refine k_getr (pc := 80) h fl_X8_23 ly_46 rfl dX8_digest_80 ?_
      refine k_iload_n (pc := 83) h 1 dX8_digest_83 rfl ?_
      refine k_iald (pc := 84) h ly_50 dX8_digest_84 hk (fun hk => ?_)
      refine k_i2l (pc := 85) h dX8_digest_85 ?_
      obtain ⟨p15, hc14, hk⟩ := bd_some hk
      refine k_callV0 (pc := 86) h (c_X8_mix hc14) cw_X8_284 ly_46 rfl ⟨⟨by decide, by decide⟩, Nat.zero_le _, Nat.zero_le _⟩ rfl (Nat.le_of_ble_eq_true rfl) dX8_digest_86 ?_
      refine k_aload_n (pc := 89) h 0 dX8_digest_89 rfl ?_
      refine k_aload_n (pc := 90) h 0 dX8_digest_90 rfl ?_
      refine k_getr (pc := 91) h fl_X8_26 ly_46 rfl dX8_digest_91 ?_
      refine k_iload_n (pc := 94) h 1 dX8_digest_94 rfl ?_
      refine k_iald (pc := 95) h ly_51 dX8_digest_95 hk (fun hk => ?_)
      refine k_i2l (pc := 96) h dX8_digest_96 ?_
      obtain ⟨p17, hc16, hk⟩ := bd_some hk
      refine k_callV0 (pc := 97) h (c_X8_mix hc16) cw_X8_284 ly_46 rfl ⟨⟨by decide, by decide⟩, Nat.zero_le _, Nat.zero_le _⟩ rfl (Nat.le_of_ble_eq_true rfl) dX8_digest_97 ?_
      refine k_iinc (pc := 100) h 1 [1, 0] (v := (l1 + (1 : Int32))) (lv' := [(0, .ref 46), (1, .int (l1 + (1 : Int32)))]) dX8_digest_100 rfl rfl (by decide) rfl ?_
      refine k_goto (tgt := 59) (pc := 103) h dX8_digest_103 rfl ?_
      cases hk
      exact hz
  have LB108 : ∀ (nn : Nat) (s : Int32 × WW) (r : WW), lpf (fun s : Int32 × WW => f_X8_digest_b108 s.1 s.2) nn s = some r → (fun r : WW => G 135 [(0, .ref 46)] [] r) r → (fun s : Int32 × WW => G 108 [(0, .ref 46), (1, .int s.1)] [] s.2) s := by
    refine lpf_ind (fun s : Int32 × WW => G 108 [(0, .ref 46), (1, .int s.1)] [] s.2) (fun r : WW => G 135 [(0, .ref 46)] [] r) ?_
    rintro ⟨l1, w⟩ z hk hz
    have hk : f_X8_digest_b108 l1 w = some z := hk
    unfold f_X8_digest_b108 at hk
    show G 108 [(0, .ref 46), (1, .int l1)] [] w
    refine k_iload_n (pc := 108) h 1 dX8_digest_108 rfl ?_
    refine k_iconst (pc := 109) h (x := (2 : Int32)) dX8_digest_109 (by decide) ?_
    refine k_aload_n (pc := 110) h 0 dX8_digest_110 rfl ?_
    refine k_geti (pc := 111) h fl_X8_78 ly_46 rfl dX8_digest_111 ?_
    refine k_imul (pc := 114) h dX8_digest_114 ?_
    refine k_icmp_ge (tgt := 135) (pc := 115) h dX8_digest_115 rfl hk (fun hc hk => ?_) (fun hc hk => ?_)
    · refine k_sub h [0] (lv' := [(0, .ref 46)]) rfl ?_
      cases hk
      exact hz
    · refine k_aload_n (pc := 118) h 0 dX8_digest_118 rfl ?_
      refine k_aload_n (pc := 119) h 0 dX8_digest_119 rfl ?_
      refine k_getr (pc := 120) h fl_X8_29 ly_46 rfl dX8_digest_120 ?_
      refine k_iload_n (pc := 123) h 1 dX8_digest_123 rfl ?_
      refine k_iald (pc := 124) h ly_52 dX8_digest_124 hk (fun hk => ?_)
      refine k_i2l (pc := 125) h dX8_digest_125 ?_
      obtain ⟨p21, hc20, hk⟩ := bd_some hk
      refine k_callV0 (pc := 126) h (c_X8_mix hc20) cw_X8_284 ly_46 rfl ⟨⟨by decide, by decide⟩, Nat.zero_le _, Nat.zero_le _⟩ rfl (Nat.le_of_ble_eq_true rfl) dX8_digest_126 ?_
      refine k_iinc (pc := 129) h 1 [1, 0] (v := (l1 + (1 : Int32))) (lv' := [(0, .ref 46), (1, .int (l1 + (1 : Int32)))]) dX8_digest_129 rfl rfl (by decide) rfl ?_
      refine k_goto (tgt := 108) (pc := 132) h dX8_digest_132 rfl ?_
      cases hk
      exact hz
  refine k_aload_n (pc := 0) h 0 dX8_digest_0 rfl ?_
  refine k_ldc2 (pc := 1) h (x := (1091 : Int64)) cs_X8_282 dX8_digest_1 ?_
  refine k_putl (pc := 4) h fl_X8_279 ly_46 rfl dX8_digest_4 hk (fun u1 hk => ?_)
  refine k_iconst (pc := 7) h (x := (0 : Int32)) dX8_digest_7 (by decide) ?_
  refine k_istore_n (pc := 8) h [1, 0] (lv' := [(0, .ref 46), (1, .int (0 : Int32))]) dX8_digest_8 rfl (by decide) rfl ?_
  obtain ⟨r6, hl7, hk⟩ := bd_some hk
  refine LB9 _ _ _ hl7 ?_
  show G 30 [(0, .ref 46)] [] r6
  refine k_iconst (pc := 30) h (x := (0 : Int32)) dX8_digest_30 (by decide) ?_
  refine k_istore_n (pc := 31) h [1, 0] (lv' := [(0, .ref 46), (1, .int (0 : Int32))]) dX8_digest_31 rfl (by decide) rfl ?_
  obtain ⟨r10, hl11, hk⟩ := bd_some hk
  refine LB32 _ _ _ hl11 ?_
  show G 57 [(0, .ref 46)] [] r10
  refine k_iconst (pc := 57) h (x := (0 : Int32)) dX8_digest_57 (by decide) ?_
  refine k_istore_n (pc := 58) h [1, 0] (lv' := [(0, .ref 46), (1, .int (0 : Int32))]) dX8_digest_58 rfl (by decide) rfl ?_
  obtain ⟨r18, hl19, hk⟩ := bd_some hk
  refine LB59 _ _ _ hl19 ?_
  show G 106 [(0, .ref 46)] [] r18
  refine k_iconst (pc := 106) h (x := (0 : Int32)) dX8_digest_106 (by decide) ?_
  refine k_istore_n (pc := 107) h [1, 0] (lv' := [(0, .ref 46), (1, .int (0 : Int32))]) dX8_digest_107 rfl (by decide) rfl ?_
  obtain ⟨r22, hl23, hk⟩ := bd_some hk
  refine LB108 _ _ _ hl23 ?_
  show G 135 [(0, .ref 46)] [] r22
  refine k_aload_n (pc := 135) h 0 dX8_digest_135 rfl ?_
  refine k_aload_n (pc := 136) h 0 dX8_digest_136 rfl ?_
  refine k_getl (pc := 137) h fl_X8_234 ly_46 rfl dX8_digest_137 ?_
  obtain ⟨p25, hc24, hk⟩ := bd_some hk
  refine k_callV0 (pc := 140) h (c_X8_mix hc24) cw_X8_284 ly_46 rfl ⟨⟨by decide, by decide⟩, Nat.zero_le _, Nat.zero_le _⟩ rfl (Nat.le_of_ble_eq_true rfl) dX8_digest_140 ?_
  refine k_aload_n (pc := 143) h 0 dX8_digest_143 rfl ?_
  refine k_aload_n (pc := 144) h 0 dX8_digest_144 rfl ?_
  refine k_getl (pc := 145) h fl_X8_61 ly_46 rfl dX8_digest_145 ?_
  obtain ⟨p27, hc26, hk⟩ := bd_some hk
  refine k_callV0 (pc := 148) h (c_X8_mix hc26) cw_X8_284 ly_46 rfl ⟨⟨by decide, by decide⟩, Nat.zero_le _, Nat.zero_le _⟩ rfl (Nat.le_of_ble_eq_true rfl) dX8_digest_148 ?_
  refine k_aload_n (pc := 151) h 0 dX8_digest_151 rfl ?_
  refine k_getl (pc := 152) h fl_X8_279 ly_46 rfl dX8_digest_152 ?_
  cases hk
  exact k_lret (pc := 155) h dX8_digest_155 ⟨rfl, rfl, rfl, rfl, rfl, rfl⟩
def f_X8_readsFair_b12 (l1 : Int32) (w : WW) : Option ((Int32 × WW) ⊕ (WW)) := if (16 : Int32) ≤ l1 then some (.inr w) else gd (inb l1 16) (stI w 54 (l1).toNatClampNeg (1 : Int32) (fun u3 => some (.inl ((l1 + (1 : Int32)), u3))))
def f_X8_readsFair_b46 (l1 : Int32) (w : WW) : Option ((Int32 × WW) ⊕ ((WW) ⊕ (Int32 × WW))) := if (w.1 46 10) ≤ (w.1 46 11) then some (.inr (.inr (l1, w))) else (f_X8_readsItem w).bind (fun p11 => if p11.1 = 0 then some (.inr (.inl p11.2)) else (f_X8_skip p11.2).bind (fun p13 => some (.inl ((l1 + (1 : Int32)), p13))))
def f_X8_readsFair (w : WW) : Option (Int32 × WW) := stI w 46 11 (0 : Int32) (fun u1 => stI u1 46 13 (0 : Int32) (fun u2 => (lpf (fun s : Int32 × WW => f_X8_readsFair_b12 s.1 s.2) FU ((0 : Int32), u2)).bind (fun r4 => (f_X8_readsFirst r4).bind (fun p7 => if p7.1 = 0 then some ((-1 : Int32), p7.2) else (f_X8_skip p7.2).bind (fun p9 => (lpf (fun s : Int32 × WW => f_X8_readsFair_b46 s.1 s.2) FU ((1 : Int32), p9)).bind (Sum.elim (fun r14 => some ((-1 : Int32), r14)) (fun r14 => some (r14.1, r14.2))))))))
set_option maxRecDepth 20000 in
set_option maxHeartbeats 4000000 in
theorem c_X8_readsFair {w : WW} {z : Int32 × WW} (hk : f_X8_readsFair w = some z) : Cn 5 yX8_readsFair cX8_readsFair 2 (some .int) LAY [.ref 46] w (some (.int z.1)) z.2 := by
  refine Cn.of (by decide +kernel) (Nat.le_of_ble_eq_true rfl) (fun G h => ?_)
  have h : Rules cX8_readsFair RX8 "readsFair" 2 (rmd 5 0 0) none _ _ LAY 0 0 G := h
  show G 0 [(0, .ref 46)] [] w
  unfold f_X8_readsFair at hk
  have LB12 : ∀ (nn : Nat) (s : Int32 × WW) (r : WW), lpf (fun s : Int32 × WW => f_X8_readsFair_b12 s.1 s.2) nn s = some r → (fun r : WW => G 31 [(0, .ref 46)] [] r) r → (fun s : Int32 × WW => G 12 [(0, .ref 46), (1, .int s.1)] [] s.2) s := by
    refine lpf_ind (fun s : Int32 × WW => G 12 [(0, .ref 46), (1, .int s.1)] [] s.2) (fun r : WW => G 31 [(0, .ref 46)] [] r) ?_
    rintro ⟨l1, w⟩ z hk hz
    have hk : f_X8_readsFair_b12 l1 w = some z := hk
    unfold f_X8_readsFair_b12 at hk
    show G 12 [(0, .ref 46), (1, .int l1)] [] w
    refine k_iload_n (pc := 12) h 1 dX8_readsFair_12 rfl ?_
    refine k_bipush (pc := 13) h (x := (16 : Int32)) dX8_readsFair_13 (by decide) ?_
    refine k_icmp_ge (tgt := 31) (pc := 15) h dX8_readsFair_15 rfl hk (fun hc hk => ?_) (fun hc hk => ?_)
    · refine k_sub h [0] (lv' := [(0, .ref 46)]) rfl ?_
      cases hk
      exact hz
    · refine k_aload_n (pc := 18) h 0 dX8_readsFair_18 rfl ?_
      refine k_getr (pc := 19) h fl_X8_35 ly_46 rfl dX8_readsFair_19 ?_
      refine k_iload_n (pc := 22) h 1 dX8_readsFair_22 rfl ?_
      refine k_iconst (pc := 23) h (x := (1 : Int32)) dX8_readsFair_23 (by decide) ?_
      refine k_iast (pc := 24) h ly_54 dX8_readsFair_24 hk (fun u3 hk => ?_)
      refine k_iinc (pc := 25) h 1 [1, 0] (v := (l1 + (1 : Int32))) (lv' := [(0, .ref 46), (1, .int (l1 + (1 : Int32)))]) dX8_readsFair_25 rfl rfl (by decide) rfl ?_
      refine k_goto (tgt := 12) (pc := 28) h dX8_readsFair_28 rfl ?_
      cases hk
      exact hz
  have LB46 : ∀ (nn : Nat) (s : Int32 × WW) (r : (WW) ⊕ (Int32 × WW)), lpf (fun s : Int32 × WW => f_X8_readsFair_b46 s.1 s.2) nn s = some r → (Sum.elim (fun r : WW => G 64 [] [] r) (fun r : Int32 × WW => G 76 [(1, .int r.1)] [] r.2)) r → (fun s : Int32 × WW => G 46 [(0, .ref 46), (1, .int s.1)] [] s.2) s := by
    refine lpf_ind (fun s : Int32 × WW => G 46 [(0, .ref 46), (1, .int s.1)] [] s.2) (Sum.elim (fun r : WW => G 64 [] [] r) (fun r : Int32 × WW => G 76 [(1, .int r.1)] [] r.2)) ?_
    rintro ⟨l1, w⟩ z hk hz
    have hk : f_X8_readsFair_b46 l1 w = some z := hk
    unfold f_X8_readsFair_b46 at hk
    show G 46 [(0, .ref 46), (1, .int l1)] [] w
    refine k_aload_n (pc := 46) h 0 dX8_readsFair_46 rfl ?_
    refine k_geti (pc := 47) h fl_X8_109 ly_46 rfl dX8_readsFair_47 ?_
    refine k_aload_n (pc := 50) h 0 dX8_readsFair_50 rfl ?_
    refine k_geti (pc := 51) h fl_X8_106 ly_46 rfl dX8_readsFair_51 ?_
    refine k_icmp_ge (tgt := 76) (pc := 54) h dX8_readsFair_54 rfl hk (fun hc hk => ?_) (fun hc hk => ?_)
    · refine k_sub h [1] (lv' := [(1, .int l1)]) rfl ?_
      cases hk
      exact hz
    · refine k_aload_n (pc := 57) h 0 dX8_readsFair_57 rfl ?_
      obtain ⟨p11, hc10, hk⟩ := bd_some hk
      refine k_callV1 (pc := 58) h (c_X8_readsItem hc10) cw_X8_160 ly_46 rfl ⟨⟨by decide, by decide⟩, Nat.zero_le _, Nat.zero_le _⟩ rfl (Nat.le_of_ble_eq_true rfl) dX8_readsFair_58 ?_
      refine k_if_ne (tgt := 66) (pc := 61) h dX8_readsFair_61 rfl hk (fun hc hk => ?_) (fun hc hk => ?_)
      · refine k_iinc (pc := 66) h 1 [1, 0] (v := (l1 + (1 : Int32))) (lv' := [(0, .ref 46), (1, .int (l1 + (1 : Int32)))]) dX8_readsFair_66 rfl rfl (by decide) rfl ?_
        refine k_aload_n (pc := 69) h 0 dX8_readsFair_69 rfl ?_
        obtain ⟨p13, hc12, hk⟩ := bd_some hk
        refine k_callV0 (pc := 70) h (c_X8_skip hc12) cw_X8_125 ly_46 rfl ⟨⟨by decide, by decide⟩, Nat.zero_le _, Nat.zero_le _⟩ rfl (Nat.le_of_ble_eq_true rfl) dX8_readsFair_70 ?_
        refine k_goto (tgt := 46) (pc := 73) h dX8_readsFair_73 rfl ?_
        cases hk
        exact hz
      · refine k_sub h [] (lv' := []) rfl ?_
        cases hk
        exact hz
  refine k_aload_n (pc := 0) h 0 dX8_readsFair_0 rfl ?_
  refine k_iconst (pc := 1) h (x := (0 : Int32)) dX8_readsFair_1 (by decide) ?_
  refine k_puti (pc := 2) h fl_X8_109 ly_46 rfl dX8_readsFair_2 hk (fun u1 hk => ?_)
  refine k_aload_n (pc := 5) h 0 dX8_readsFair_5 rfl ?_
  refine k_iconst (pc := 6) h (x := (0 : Int32)) dX8_readsFair_6 (by decide) ?_
  refine k_puti (pc := 7) h fl_X8_145 ly_46 rfl dX8_readsFair_7 hk (fun u2 hk => ?_)
  refine k_iconst (pc := 10) h (x := (0 : Int32)) dX8_readsFair_10 (by decide) ?_
  refine k_istore_n (pc := 11) h [1, 0] (lv' := [(0, .ref 46), (1, .int (0 : Int32))]) dX8_readsFair_11 rfl (by decide) rfl ?_
  obtain ⟨r4, hl5, hk⟩ := bd_some hk
  refine LB12 _ _ _ hl5 ?_
  show G 31 [(0, .ref 46)] [] r4
  refine k_aload_n (pc := 31) h 0 dX8_readsFair_31 rfl ?_
  obtain ⟨p7, hc6, hk⟩ := bd_some hk
  refine k_callV1 (pc := 32) h (c_X8_readsFirst hc6) cw_X8_157 ly_46 rfl ⟨⟨by decide, by decide⟩, Nat.zero_le _, Nat.zero_le _⟩ rfl (Nat.le_of_ble_eq_true rfl) dX8_readsFair_32 ?_
  refine k_if_ne (tgt := 40) (pc := 35) h dX8_readsFair_35 rfl hk (fun hc hk => ?_) (fun hc hk => ?_)
  · refine k_iconst (pc := 40) h (x := (1 : Int32)) dX8_readsFair_40 (by decide) ?_
    refine k_istore_n (pc := 41) h [1, 0] (lv' := [(0, .ref 46), (1, .int (1 : Int32))]) dX8_readsFair_41 rfl (by decide) rfl ?_
    refine k_aload_n (pc := 42) h 0 dX8_readsFair_42 rfl ?_
    obtain ⟨p9, hc8, hk⟩ := bd_some hk
    refine k_callV0 (pc := 43) h (c_X8_skip hc8) cw_X8_125 ly_46 rfl ⟨⟨by decide, by decide⟩, Nat.zero_le _, Nat.zero_le _⟩ rfl (Nat.le_of_ble_eq_true rfl) dX8_readsFair_43 ?_
    obtain ⟨r14, hl15, hk⟩ := bd_some hk
    refine LB46 _ _ _ hl15 ?_
    rcases r14 with r14 | r14
    · replace hk := elim_l hk
      show G 64 [] [] r14
      refine k_iconst (pc := 64) h (x := (-1 : Int32)) dX8_readsFair_64 (by decide) ?_
      cases hk
      exact k_iret (pc := 65) h dX8_readsFair_65 ⟨rfl, rfl, rfl, rfl, rfl, ⟨.int, rfl, rfl⟩⟩
    · replace hk := elim_r hk
      show G 76 [(1, .int r14.1)] [] r14.2
      refine k_iload_n (pc := 76) h 0 dX8_readsFair_76 rfl ?_
      cases hk
      exact k_iret (pc := 77) h dX8_readsFair_77 ⟨rfl, rfl, rfl, rfl, rfl, ⟨.int, rfl, rfl⟩⟩
  · refine k_iconst (pc := 38) h (x := (-1 : Int32)) dX8_readsFair_38 (by decide) ?_
    cases hk
    exact k_iret (pc := 39) h dX8_readsFair_39 ⟨rfl, rfl, rfl, rfl, rfl, ⟨.int, rfl, rfl⟩⟩
def f_X7_count (w : WW) (l1 : Int32) : Option (Int32 × WW) := (f_X7_within w l1 (0 : Int32) (5 : Int32)).bind (fun p2 => if p2 = 0 then (f_X7_refuse w (-2 : Int32) (-2 : Int32)).bind (fun p6 => some (p6.1, p6.2)) else (f_X7_howMany w l1).bind (fun p4 => some (p4, w)))
set_option maxRecDepth 20000 in
set_option maxHeartbeats 4000000 in
theorem c_X7_count {w : WW} {l1 : Int32} {z : Int32 × WW} (hk : f_X7_count w l1 = some z) : Cn 6 yX7_count cX7_count 2 (some .int) LAY [.ref 0, .int l1] w (some (.int z.1)) z.2 := by
  refine Cn.of (by decide +kernel) (Nat.le_of_ble_eq_true rfl) (fun G h => ?_)
  have h : Rules cX7_count RX7 "count" 2 (rmd 6 0 0) none _ _ LAY 0 0 G := h
  show G 0 [(0, .ref 0), (1, .int l1)] [] w
  unfold f_X7_count at hk
  refine k_iload_n (pc := 0) h 1 dX7_count_0 rfl ?_
  refine k_iconst (pc := 1) h (x := (0 : Int32)) dX7_count_1 (by decide) ?_
  refine k_iconst (pc := 2) h (x := (5 : Int32)) dX7_count_2 (by decide) ?_
  obtain ⟨p2, hc1, hk⟩ := bd_some hk
  refine k_callS1 (pc := 3) h (c_X7_within hc1) cw_X7_75 ⟨⟨by decide, by decide⟩, Nat.zero_le _, Nat.zero_le _⟩ rfl (Nat.le_of_ble_eq_true rfl) dX7_count_3 ?_
  refine k_if_ne (tgt := 18) (pc := 6) h dX7_count_6 rfl hk (fun hc hk => ?_) (fun hc hk => ?_)
  · refine k_aload_n (pc := 18) h 0 dX7_count_18 rfl ?_
    refine k_iload_n (pc := 19) h 1 dX7_count_19 rfl ?_
    obtain ⟨p4, hc3, hk⟩ := bd_some hk
    refine k_callV1 (pc := 20) h (c_X7_howMany hc3) cw_X7_250 ly_0 rfl ⟨⟨by decide, by decide⟩, Nat.zero_le _, Nat.zero_le _⟩ rfl (Nat.le_of_ble_eq_true rfl) dX7_count_20 ?_
    cases hk
    exact k_iret (pc := 23) h dX7_count_23 ⟨rfl, rfl, rfl, rfl, rfl, ⟨.int, rfl, rfl⟩⟩
  · refine k_aload_n (pc := 9) h 0 dX7_count_9 rfl ?_
    refine k_bipush (pc := 10) h (x := (-2 : Int32)) dX7_count_10 (by decide) ?_
    refine k_bipush (pc := 12) h (x := (-2 : Int32)) dX7_count_12 (by decide) ?_
    obtain ⟨p6, hc5, hk⟩ := bd_some hk
    refine k_callV1 (pc := 14) h (c_X7_refuse hc5) cw_X7_79 ly_0 rfl ⟨⟨by decide, by decide⟩, Nat.zero_le _, Nat.zero_le _⟩ rfl (Nat.le_of_ble_eq_true rfl) dX7_count_14 ?_
    cases hk
    exact k_iret (pc := 17) h dX7_count_17 ⟨rfl, rfl, rfl, rfl, rfl, ⟨.int, rfl, rfl⟩⟩
def f_X7_digest_b6 (w : WW) (l1 : Int64) (l3 : Int32) : Option ((Int64 × Int32) ⊕ (Int64)) := if (6 : Int32) ≤ l3 then some (.inr l1) else (f_X7_howMany w l3).bind (fun p2 => nmv (((31 : Int64) * l1) + ((p2).toInt64)) (fun v3 => some (.inl (v3, (l3 + (1 : Int32))))))
def f_X7_digest (w : WW) : Option (Int64) := (lpf (fun s : Int64 × Int32 => f_X7_digest_b6 w s.1 s.2) FU ((1091 : Int64), (0 : Int32))).bind (fun r4 => (f_X6_mixInto 1 w r4).bind (fun p7 => nmv (((31 : Int64) * p7) + (w.2 36 0)) (fun v8 => some ((((31 : Int64) * v8) + (w.2 36 1))))))
set_option maxRecDepth 20000 in
set_option maxHeartbeats 4000000 in
theorem c_X7_digest {w : WW} {z : Int64} (hk : f_X7_digest w = some z) : Cn 6 yX7_digest cX7_digest 4 (some .long) LAY [.ref 0] w (some (.long z)) w := by
  refine Cn.of (by decide +kernel) (Nat.le_of_ble_eq_true rfl) (fun G h => ?_)
  have h : Rules cX7_digest RX7 "digest" 4 (rmd 6 0 0) none _ _ LAY 0 0 G := h
  show G 0 [(0, .ref 0)] [] w
  unfold f_X7_digest at hk
  have LB6 : ∀ (nn : Nat) (s : Int64 × Int32) (r : Int64), lpf (fun s : Int64 × Int32 => f_X7_digest_b6 w s.1 s.2) nn s = some r → (fun r : Int64 => G 31 [(0, .ref 0), (1, .long r)] [] w) r → (fun s : Int64 × Int32 => G 6 [(0, .ref 0), (1, .long s.1), (3, .int s.2)] [] w) s := by
    refine lpf_ind (fun s : Int64 × Int32 => G 6 [(0, .ref 0), (1, .long s.1), (3, .int s.2)] [] w) (fun r : Int64 => G 31 [(0, .ref 0), (1, .long r)] [] w) ?_
    rintro ⟨l1, l3⟩ z hk hz
    have hk : f_X7_digest_b6 w l1 l3 = some z := hk
    unfold f_X7_digest_b6 at hk
    show G 6 [(0, .ref 0), (1, .long l1), (3, .int l3)] [] w
    refine k_iload_n (pc := 6) h 2 dX7_digest_6 rfl ?_
    refine k_bipush (pc := 7) h (x := (6 : Int32)) dX7_digest_7 (by decide) ?_
    refine k_icmp_ge (tgt := 31) (pc := 9) h dX7_digest_9 rfl hk (fun hc hk => ?_) (fun hc hk => ?_)
    · refine k_sub h [0, 1] (lv' := [(0, .ref 0), (1, .long l1)]) rfl ?_
      cases hk
      exact hz
    · refine k_ldc2 (pc := 12) h (x := (31 : Int64)) cs_X7_254 dX7_digest_12 ?_
      refine k_lload_n (pc := 15) h 1 dX7_digest_15 rfl ?_
      refine k_lmul (pc := 16) h dX7_digest_16 ?_
      refine k_aload_n (pc := 17) h 0 dX7_digest_17 rfl ?_
      refine k_iload_n (pc := 18) h 2 dX7_digest_18 rfl ?_
      obtain ⟨p2, hc1, hk⟩ := bd_some hk
      refine k_callV1 (pc := 19) h (c_X7_howMany hc1) cw_X7_250 ly_0 rfl ⟨⟨by decide, by decide⟩, Nat.zero_le _, Nat.zero_le _⟩ rfl (Nat.le_of_ble_eq_true rfl) dX7_digest_19 ?_
      refine k_i2l (pc := 22) h dX7_digest_22 ?_
      refine k_ladd (pc := 23) h dX7_digest_23 ?_
      refine k_nml (pc := 24) h hk (fun v3 hk => ?_)
      refine k_lstore_n (pc := 24) h [1, 0, 2] (lv' := [(0, .ref 0), (1, .long v3), (3, .int l3)]) dX7_digest_24 rfl (by decide) rfl ?_
      refine k_iinc (pc := 25) h 2 [1, 2, 0] (v := (l3 + (1 : Int32))) (lv' := [(0, .ref 0), (1, .long v3), (3, .int (l3 + (1 : Int32)))]) dX7_digest_25 rfl rfl (by decide) rfl ?_
      refine k_goto (tgt := 6) (pc := 28) h dX7_digest_28 rfl ?_
      cases hk
      exact hz
  refine k_ldc2 (pc := 0) h (x := (1091 : Int64)) cs_X7_252 dX7_digest_0 ?_
  refine k_lstore_n (pc := 3) h [1, 0] (lv' := [(0, .ref 0), (1, .long (1091 : Int64))]) dX7_digest_3 rfl (by decide) rfl ?_
  refine k_iconst (pc := 4) h (x := (0 : Int32)) dX7_digest_4 (by decide) ?_
  refine k_istore_n (pc := 5) h [1, 2, 0] (lv' := [(0, .ref 0), (1, .long (1091 : Int64)), (3, .int (0 : Int32))]) dX7_digest_5 rfl (by decide) rfl ?_
  obtain ⟨r4, hl5, hk⟩ := bd_some hk
  refine LB6 _ _ _ hl5 ?_
  show G 31 [(0, .ref 0), (1, .long r4)] [] w
  refine k_aload_n (pc := 31) h 0 dX7_digest_31 rfl ?_
  refine k_getr (pc := 32) h fl_X7_10 ly_0 rfl dX7_digest_32 ?_
  refine k_lload_n (pc := 35) h 1 dX7_digest_35 rfl ?_
  obtain ⟨p7, hc6, hk⟩ := bd_some hk
  refine k_callV1 (pc := 36) h (c_X6_mixInto st_1 hc6) cw_X7_256 ly_1 rfl ⟨⟨by decide, by decide⟩, Nat.zero_le _, Nat.zero_le _⟩ rfl (Nat.le_of_ble_eq_true rfl) dX7_digest_36 ?_
  refine k_lstore_n (pc := 39) h [1, 0] (lv' := [(0, .ref 0), (1, .long p7)]) dX7_digest_39 rfl (by decide) rfl ?_
  refine k_ldc2 (pc := 40) h (x := (31 : Int64)) cs_X7_254 dX7_digest_40 ?_
  refine k_lload_n (pc := 43) h 1 dX7_digest_43 rfl ?_
  refine k_lmul (pc := 44) h dX7_digest_44 ?_
  refine k_aload_n (pc := 45) h 0 dX7_digest_45 rfl ?_
  refine k_getr (pc := 46) h fl_X7_36 ly_0 rfl dX7_digest_46 ?_
  refine k_getl (pc := 49) h fl_X7_240 ly_36 rfl dX7_digest_49 ?_
  refine k_ladd (pc := 52) h dX7_digest_52 ?_
  refine k_nml (pc := 53) h hk (fun v8 hk => ?_)
  refine k_lstore_n (pc := 53) h [1, 0] (lv' := [(0, .ref 0), (1, .long v8)]) dX7_digest_53 rfl (by decide) rfl ?_
  refine k_ldc2 (pc := 54) h (x := (31 : Int64)) cs_X7_254 dX7_digest_54 ?_
  refine k_lload_n (pc := 57) h 1 dX7_digest_57 rfl ?_
  refine k_lmul (pc := 58) h dX7_digest_58 ?_
  refine k_aload_n (pc := 59) h 0 dX7_digest_59 rfl ?_
  refine k_getr (pc := 60) h fl_X7_36 ly_0 rfl dX7_digest_60 ?_
  refine k_getl (pc := 63) h fl_X7_243 ly_36 rfl dX7_digest_63 ?_
  refine k_ladd (pc := 66) h dX7_digest_66 ?_
  cases hk
  exact k_lret (pc := 67) h dX7_digest_67 ⟨rfl, rfl, rfl, rfl, rfl, rfl⟩
def f_X8_read_b27 (l1 : Int32) (l2 : Int32) (w : WW) : Option ((Int32 × WW) ⊕ (WW)) := if (16 : Int32) ≤ l2 then some (.inr w) else gd (inb l2 16) (gd (inb l2 16) (stI w 48 (l2).toNatClampNeg (w.1 54 (l2).toNatClampNeg) (fun u5 => some (.inl ((l2 + (1 : Int32)), u5)))))
def f_X8_read_b53 (l1 : Int32) (l2 : Int32) (w : WW) : Option ((Int32 × WW) ⊕ (WW)) := if (w.1 46 13) ≤ l2 then some (.inr w) else gd (inb ((3 : Int32) * l2) 21) (gd (inb (((3 : Int32) * l2) + (1 : Int32)) 21) (gd (inb (((3 : Int32) * l2) + (2 : Int32)) 21) ((f_X8_add w (w.1 55 (((3 : Int32) * l2)).toNatClampNeg) (w.1 55 ((((3 : Int32) * l2) + (1 : Int32))).toNatClampNeg) (w.1 55 ((((3 : Int32) * l2) + (2 : Int32))).toNatClampNeg)).bind (fun p9 => some (.inl ((l2 + (1 : Int32)), p9.2))))))
def f_X8_read (w : WW) : Option (Int32 × WW) := (f_X8_readsFair w).bind (fun p2 => if 0 ≤ p2.1 then (f_X8_begin p2.2 (p2.2.1 46 12)).bind (fun p4 => (lpf (fun s : Int32 × WW => f_X8_read_b27 p2.1 s.1 s.2) FU ((0 : Int32), p4)).bind (fun r6 => (lpf (fun s : Int32 × WW => f_X8_read_b53 p2.1 s.1 s.2) FU ((0 : Int32), r6)).bind (fun r10 => some (p2.1, r10)))) else some (((-10 : Int32) - (p2.2.1 46 11)), p2.2))
set_option maxRecDepth 20000 in
set_option maxHeartbeats 4000000 in
theorem c_X8_read {w : WW} {z : Int32 × WW} (hk : f_X8_read w = some z) : Cn 6 yX8_read cX8_read 3 (some .int) LAY [.ref 46] w (some (.int z.1)) z.2 := by
  refine Cn.of (by decide +kernel) (Nat.le_of_ble_eq_true rfl) (fun G h => ?_)
  have h : Rules cX8_read RX8 "read" 3 (rmd 6 0 0) none _ _ LAY 0 0 G := h
  show G 0 [(0, .ref 46)] [] w
  unfold f_X8_read at hk
  have LB27 : ∀ (l1 : Int32), ∀ (nn : Nat) (s : Int32 × WW) (r : WW), lpf (fun s : Int32 × WW => f_X8_read_b27 l1 s.1 s.2) nn s = some r → (fun r : WW => G 51 [(0, .ref 46), (1, .int l1)] [] r) r → (fun s : Int32 × WW => G 27 [(0, .ref 46), (1, .int l1), (2, .int s.1)] [] s.2) s := by
    intro l1
    refine lpf_ind (fun s : Int32 × WW => G 27 [(0, .ref 46), (1, .int l1), (2, .int s.1)] [] s.2) (fun r : WW => G 51 [(0, .ref 46), (1, .int l1)] [] r) ?_
    rintro ⟨l2, w⟩ z hk hz
    have hk : f_X8_read_b27 l1 l2 w = some z := hk
    unfold f_X8_read_b27 at hk
    show G 27 [(0, .ref 46), (1, .int l1), (2, .int l2)] [] w
    refine k_iload_n (pc := 27) h 2 dX8_read_27 rfl ?_
    refine k_bipush (pc := 28) h (x := (16 : Int32)) dX8_read_28 (by decide) ?_
    refine k_icmp_ge (tgt := 51) (pc := 30) h dX8_read_30 rfl hk (fun hc hk => ?_) (fun hc hk => ?_)
    · refine k_sub h [0, 1] (lv' := [(0, .ref 46), (1, .int l1)]) rfl ?_
      cases hk
      exact hz
    · refine k_aload_n (pc := 33) h 0 dX8_read_33 rfl ?_
      refine k_getr (pc := 34) h fl_X8_17 ly_46 rfl dX8_read_34 ?_
      refine k_iload_n (pc := 37) h 2 dX8_read_37 rfl ?_
      refine k_aload_n (pc := 38) h 0 dX8_read_38 rfl ?_
      refine k_getr (pc := 39) h fl_X8_35 ly_46 rfl dX8_read_39 ?_
      refine k_iload_n (pc := 42) h 2 dX8_read_42 rfl ?_
      refine k_iald (pc := 43) h ly_54 dX8_read_43 hk (fun hk => ?_)
      refine k_iast (pc := 44) h ly_48 dX8_read_44 hk (fun u5 hk => ?_)
      refine k_iinc (pc := 45) h 2 [1, 2, 0] (v := (l2 + (1 : Int32))) (lv' := [(0, .ref 46), (1, .int l1), (2, .int (l2 + (1 : Int32)))]) dX8_read_45 rfl rfl (by decide) rfl ?_
      refine k_goto (tgt := 27) (pc := 48) h dX8_read_48 rfl ?_
      cases hk
      exact hz
  have LB53 : ∀ (l1 : Int32), ∀ (nn : Nat) (s : Int32 × WW) (r : WW), lpf (fun s : Int32 × WW => f_X8_read_b53 l1 s.1 s.2) nn s = some r → (fun r : WW => G 100 [(1, .int l1)] [] r) r → (fun s : Int32 × WW => G 53 [(0, .ref 46), (1, .int l1), (2, .int s.1)] [] s.2) s := by
    intro l1
    refine lpf_ind (fun s : Int32 × WW => G 53 [(0, .ref 46), (1, .int l1), (2, .int s.1)] [] s.2) (fun r : WW => G 100 [(1, .int l1)] [] r) ?_
    rintro ⟨l2, w⟩ z hk hz
    have hk : f_X8_read_b53 l1 l2 w = some z := hk
    unfold f_X8_read_b53 at hk
    show G 53 [(0, .ref 46), (1, .int l1), (2, .int l2)] [] w
    refine k_iload_n (pc := 53) h 2 dX8_read_53 rfl ?_
    refine k_aload_n (pc := 54) h 0 dX8_read_54 rfl ?_
    refine k_geti (pc := 55) h fl_X8_145 ly_46 rfl dX8_read_55 ?_
    refine k_icmp_ge (tgt := 100) (pc := 58) h dX8_read_58 rfl hk (fun hc hk => ?_) (fun hc hk => ?_)
    · refine k_sub h [1] (lv' := [(1, .int l1)]) rfl ?_
      cases hk
      exact hz
    · refine k_aload_n (pc := 61) h 0 dX8_read_61 rfl ?_
      refine k_aload_n (pc := 62) h 0 dX8_read_62 rfl ?_
      refine k_getr (pc := 63) h fl_X8_38 ly_46 rfl dX8_read_63 ?_
      refine k_iconst (pc := 66) h (x := (3 : Int32)) dX8_read_66 (by decide) ?_
      refine k_iload_n (pc := 67) h 2 dX8_read_67 rfl ?_
      refine k_imul (pc := 68) h dX8_read_68 ?_
      refine k_iald (pc := 69) h ly_55 dX8_read_69 hk (fun hk => ?_)
      refine k_aload_n (pc := 70) h 0 dX8_read_70 rfl ?_
      refine k_getr (pc := 71) h fl_X8_38 ly_46 rfl dX8_read_71 ?_
      refine k_iconst (pc := 74) h (x := (3 : Int32)) dX8_read_74 (by decide) ?_
      refine k_iload_n (pc := 75) h 2 dX8_read_75 rfl ?_
      refine k_imul (pc := 76) h dX8_read_76 ?_
      refine k_iconst (pc := 77) h (x := (1 : Int32)) dX8_read_77 (by decide) ?_
      refine k_iadd (pc := 78) h dX8_read_78 ?_
      refine k_iald (pc := 79) h ly_55 dX8_read_79 hk (fun hk => ?_)
      refine k_aload_n (pc := 80) h 0 dX8_read_80 rfl ?_
      refine k_getr (pc := 81) h fl_X8_38 ly_46 rfl dX8_read_81 ?_
      refine k_iconst (pc := 84) h (x := (3 : Int32)) dX8_read_84 (by decide) ?_
      refine k_iload_n (pc := 85) h 2 dX8_read_85 rfl ?_
      refine k_imul (pc := 86) h dX8_read_86 ?_
      refine k_iconst (pc := 87) h (x := (2 : Int32)) dX8_read_87 (by decide) ?_
      refine k_iadd (pc := 88) h dX8_read_88 ?_
      refine k_iald (pc := 89) h ly_55 dX8_read_89 hk (fun hk => ?_)
      obtain ⟨p9, hc8, hk⟩ := bd_some hk
      refine k_callV1 (pc := 90) h (c_X8_add hc8) cw_X8_99 ly_46 rfl ⟨⟨by decide, by decide⟩, Nat.zero_le _, Nat.zero_le _⟩ rfl (Nat.le_of_ble_eq_true rfl) dX8_read_90 ?_
      refine k_pop (pc := 93) h dX8_read_93 rfl ?_
      refine k_iinc (pc := 94) h 2 [1, 2, 0] (v := (l2 + (1 : Int32))) (lv' := [(0, .ref 46), (1, .int l1), (2, .int (l2 + (1 : Int32)))]) dX8_read_94 rfl rfl (by decide) rfl ?_
      refine k_goto (tgt := 53) (pc := 97) h dX8_read_97 rfl ?_
      cases hk
      exact hz
  refine k_aload_n (pc := 0) h 0 dX8_read_0 rfl ?_
  obtain ⟨p2, hc1, hk⟩ := bd_some hk
  refine k_callV1 (pc := 1) h (c_X8_readsFair hc1) cw_X8_163 ly_46 rfl ⟨⟨by decide, by decide⟩, Nat.zero_le _, Nat.zero_le _⟩ rfl (Nat.le_of_ble_eq_true rfl) dX8_read_1 ?_
  refine k_istore_n (pc := 4) h [1, 0] (lv' := [(0, .ref 46), (1, .int p2.1)]) dX8_read_4 rfl (by decide) rfl ?_
  refine k_iload_n (pc := 5) h 1 dX8_read_5 rfl ?_
  refine k_if_ge (tgt := 17) (pc := 6) h dX8_read_6 rfl hk (fun hc hk => ?_) (fun hc hk => ?_)
  · refine k_aload_n (pc := 17) h 0 dX8_read_17 rfl ?_
    refine k_aload_n (pc := 18) h 0 dX8_read_18 rfl ?_
    refine k_geti (pc := 19) h fl_X8_134 ly_46 rfl dX8_read_19 ?_
    obtain ⟨p4, hc3, hk⟩ := bd_some hk
    refine k_callV0 (pc := 22) h (c_X8_begin hc3) cw_X8_71 ly_46 rfl ⟨⟨by decide, by decide⟩, Nat.zero_le _, Nat.zero_le _⟩ rfl (Nat.le_of_ble_eq_true rfl) dX8_read_22 ?_
    refine k_iconst (pc := 25) h (x := (0 : Int32)) dX8_read_25 (by decide) ?_
    refine k_istore_n (pc := 26) h [1, 2, 0] (lv' := [(0, .ref 46), (1, .int p2.1), (2, .int (0 : Int32))]) dX8_read_26 rfl (by decide) rfl ?_
    obtain ⟨r6, hl7, hk⟩ := bd_some hk
    refine LB27 _ _ _ _ hl7 ?_
    show G 51 [(0, .ref 46), (1, .int p2.1)] [] r6
    refine k_iconst (pc := 51) h (x := (0 : Int32)) dX8_read_51 (by decide) ?_
    refine k_istore_n (pc := 52) h [1, 2, 0] (lv' := [(0, .ref 46), (1, .int p2.1), (2, .int (0 : Int32))]) dX8_read_52 rfl (by decide) rfl ?_
    obtain ⟨r10, hl11, hk⟩ := bd_some hk
    refine LB53 _ _ _ _ hl11 ?_
    show G 100 [(1, .int p2.1)] [] r10
    refine k_iload_n (pc := 100) h 0 dX8_read_100 rfl ?_
    cases hk
    exact k_iret (pc := 101) h dX8_read_101 ⟨rfl, rfl, rfl, rfl, rfl, ⟨.int, rfl, rfl⟩⟩
  · refine k_bipush (pc := 9) h (x := (-10 : Int32)) dX8_read_9 (by decide) ?_
    refine k_aload_n (pc := 11) h 0 dX8_read_11 rfl ?_
    refine k_geti (pc := 12) h fl_X8_109 ly_46 rfl dX8_read_12 ?_
    refine k_isub (pc := 15) h dX8_read_15 ?_
    cases hk
    exact k_iret (pc := 16) h dX8_read_16 ⟨rfl, rfl, rfl, rfl, rfl, ⟨.int, rfl, rfl⟩⟩

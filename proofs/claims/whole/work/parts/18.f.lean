def f_X7_read (w : WW) : Option (Int32 × WW) := (f_X4_readItems w).bind (fun p2 => if p2.1 = (-1 : Int32) then some (((-10 : Int32) - (p2.2.1 26 3)), p2.2) else (f_X6_takeFrom 1 28 p2.2).bind (fun p4 => some (p2.1, p4)))
set_option maxRecDepth 20000 in
set_option maxHeartbeats 4000000 in
theorem c_X7_read {w : WW} {z : Int32 × WW} (hk : f_X7_read w = some z) : Cn 11 yX7_read cX7_read 2 (some .int) LAY [.ref 0] w (some (.int z.1)) z.2 := by
  refine Cn.of (by decide +kernel) (Nat.le_of_ble_eq_true rfl) (fun G h => ?_)
  have h : Rules cX7_read RX7 "read" 2 (rmd 11 0 0) none _ _ LAY 0 0 G := h
  show G 0 [(0, .ref 0)] [] w
  unfold f_X7_read at hk
  refine k_aload_n (pc := 0) h 0 dX7_read_0 rfl ?_
  refine k_getr (pc := 1) h fl_X7_29 ly_0 rfl dX7_read_1 ?_
  obtain ⟨p2, hc1, hk⟩ := bd_some hk
  refine k_callV1 (pc := 4) h (c_X4_readItems hc1) cw_X7_114 ly_26 rfl ⟨⟨by decide, by decide⟩, Nat.zero_le _, Nat.zero_le _⟩ rfl (Nat.le_of_ble_eq_true rfl) dX7_read_4 ?_
  refine k_istore_n (pc := 7) h [1, 0] (lv' := [(0, .ref 0), (1, .int p2.1)]) dX7_read_7 rfl (by decide) rfl ?_
  refine k_iload_n (pc := 8) h 1 dX7_read_8 rfl ?_
  refine k_iconst (pc := 9) h (x := (-1 : Int32)) dX7_read_9 (by decide) ?_
  refine k_icmp_ne (tgt := 24) (pc := 10) h dX7_read_10 rfl hk (fun hc hk => ?_) (fun hc hk => ?_)
  · refine k_aload_n (pc := 24) h 0 dX7_read_24 rfl ?_
    refine k_getr (pc := 25) h fl_X7_10 ly_0 rfl dX7_read_25 ?_
    refine k_aload_n (pc := 28) h 0 dX7_read_28 rfl ?_
    refine k_getr (pc := 29) h fl_X7_29 ly_0 rfl dX7_read_29 ?_
    refine k_getr (pc := 32) h fl_X7_121 ly_26 rfl dX7_read_32 ?_
    obtain ⟨p4, hc3, hk⟩ := bd_some hk
    refine k_callV0 (pc := 35) h (c_X6_takeFrom st_1 st_28 hc3) cw_X7_124 ly_1 rfl ⟨⟨by decide, by decide⟩, Nat.zero_le _, Nat.zero_le _⟩ rfl (Nat.le_of_ble_eq_true rfl) dX7_read_35 ?_
    refine k_iload_n (pc := 38) h 1 dX7_read_38 rfl ?_
    have hk := Option.some.inj hk
    subst hk
    exact k_iret (pc := 39) h dX7_read_39 ⟨rfl, rfl, rfl, rfl, rfl, ⟨.int, rfl, rfl⟩⟩
  · refine k_bipush (pc := 13) h (x := (-10 : Int32)) dX7_read_13 (by decide) ?_
    refine k_aload_n (pc := 15) h 0 dX7_read_15 rfl ?_
    refine k_getr (pc := 16) h fl_X7_29 ly_0 rfl dX7_read_16 ?_
    refine k_geti (pc := 19) h fl_X7_118 ly_26 rfl dX7_read_19 ?_
    refine k_isub (pc := 22) h dX7_read_22 ?_
    have hk := Option.some.inj hk
    subst hk
    exact k_iret (pc := 23) h dX7_read_23 ⟨rfl, rfl, rfl, rfl, rfl, ⟨.int, rfl, rfl⟩⟩

def f_X8_in_j14 (w : WW) : Option (Int32) := some ((0 : Int32))
def f_X8_in (w : WW) (l0 : Int32) (l1 : Int32) (l2 : Int32) : Option (Int32) := if l0 < l1 then f_X8_in_j14 w else if l2 < l0 then f_X8_in_j14 w else some ((1 : Int32))
set_option maxRecDepth 20000 in
set_option maxHeartbeats 4000000 in
theorem c_X8_in {lay : List LyS} {w : WW} {l0 : Int32} {l1 : Int32} {l2 : Int32} {z : Int32} (hk : f_X8_in w l0 l1 l2 = some z) : Cn 0 yX8_in cX8_in 3 (some .boolean) lay [.int l0, .int l1, .int l2] w (some (.int z)) w := by
  refine Cn.of (by decide +kernel) (Nat.le_of_ble_eq_true rfl) (fun G h => ?_)
  have h : Rules cX8_in RX8 "in" 3 (rmd 0 0 0) none _ _ lay 0 0 G := h
  show G 0 [(0, .int l0), (1, .int l1), (2, .int l2)] [] w
  unfold f_X8_in at hk
  have EJ14 : f_X8_in_j14 w = some z → G 14 [] [] w := by
    intro hk
    unfold f_X8_in_j14 at hk
    refine k_iconst (pc := 14) h (x := (0 : Int32)) dX8_in_14 (by decide) ?_
    have hk := Option.some.inj hk
    subst hk
    exact k_iret (pc := 15) h dX8_in_15 ⟨rfl, rfl, rfl, rfl, rfl, ⟨.boolean, rfl, rfl⟩⟩
  refine k_iload_n (pc := 0) h 0 dX8_in_0 rfl ?_
  refine k_iload_n (pc := 1) h 1 dX8_in_1 rfl ?_
  refine k_icmp_lt (tgt := 14) (pc := 2) h dX8_in_2 rfl hk (fun hc hk => ?_) (fun hc hk => ?_)
  · refine k_sub h [] (lv' := []) rfl ?_
    exact EJ14 hk
  · refine k_iload_n (pc := 5) h 0 dX8_in_5 rfl ?_
    refine k_iload_n (pc := 6) h 2 dX8_in_6 rfl ?_
    refine k_icmp_gt (tgt := 14) (pc := 7) h dX8_in_7 rfl hk (fun hc hk => ?_) (fun hc hk => ?_)
    · refine k_sub h [] (lv' := []) rfl ?_
      exact EJ14 hk
    · refine k_iconst (pc := 10) h (x := (1 : Int32)) dX8_in_10 (by decide) ?_
      refine k_goto (tgt := 15) (pc := 11) h dX8_in_11 rfl ?_
      have hk := Option.some.inj hk
      subst hk
      exact k_iret (pc := 15) h dX8_in_15 ⟨rfl, rfl, rfl, rfl, rfl, ⟨.boolean, rfl, rfl⟩⟩
def f_X8_lay_b6 (w : WW) (l1 : Int64) (l3 : Int64) (l5 : Int64) (l7 : Int64) : Option ((Int64 × Int64) ⊕ (Int64)) := if (lg_cmp l7 (0 : Int64)) = 0 then some (.inr l5) else gd (¬ l7 = 0) (nmv (rm64 l5 l7) (fun v1 => some (.inl (l7, v1))))
def f_X8_lay (w : WW) (l1 : Int64) (l3 : Int64) : Option (WW) := (lpf (fun s : Int64 × Int64 => f_X8_lay_b6 w l1 l3 s.1 s.2) FU (l1, l3)).bind (fun r2 => gd (¬ r2 = 0) (stL w 46 24 (l1 / r2) (fun u4 => gd (¬ r2 = 0) (stL u4 46 25 (l3 / r2) (fun u5 => some u5)))))
set_option maxRecDepth 20000 in
set_option maxHeartbeats 4000000 in
theorem c_X8_lay {w : WW} {l1 : Int64} {l3 : Int64} {z : WW} (hk : f_X8_lay w l1 l3 = some z) : Cn 0 yX8_lay cX8_lay 11 none LAY [.ref 46, .long l1, .long l3] w none z := by
  refine Cn.of (by decide +kernel) (Nat.le_of_ble_eq_true rfl) (fun G h => ?_)
  have h : Rules cX8_lay RX8 "lay" 11 (rmd 0 0 0) none _ _ LAY 0 0 G := h
  show G 0 [(0, .ref 46), (1, .long l1), (3, .long l3)] [] w
  unfold f_X8_lay at hk
  have LB6 : ∀ (w : WW) (l1 : Int64) (l3 : Int64), ∀ (nn : Nat) (s : Int64 × Int64) (r : Int64), lpf (fun s : Int64 × Int64 => f_X8_lay_b6 w l1 l3 s.1 s.2) nn s = some r → (fun r : Int64 => G 31 [(0, .ref 46), (1, .long l1), (3, .long l3), (5, .long r)] [] w) r → (fun s : Int64 × Int64 => G 6 [(0, .ref 46), (1, .long l1), (3, .long l3), (5, .long s.1), (7, .long s.2)] [] w) s := by
    intro w l1 l3
    refine lpf_ind (fun s : Int64 × Int64 => G 6 [(0, .ref 46), (1, .long l1), (3, .long l3), (5, .long s.1), (7, .long s.2)] [] w) (fun r : Int64 => G 31 [(0, .ref 46), (1, .long l1), (3, .long l3), (5, .long r)] [] w) ?_
    rintro ⟨l5, l7⟩ z hk hz
    have hk : f_X8_lay_b6 w l1 l3 l5 l7 = some z := hk
    unfold f_X8_lay_b6 at hk
    show G 6 [(0, .ref 46), (1, .long l1), (3, .long l3), (5, .long l5), (7, .long l7)] [] w
    refine k_lload (pc := 6) h 4 dX8_lay_6 rfl ?_
    refine k_lconst (pc := 8) h (x := (0 : Int64)) dX8_lay_8 (by decide) ?_
    refine k_lcmp (pc := 9) h dX8_lay_9 ?_
    refine k_if_eq (tgt := 31) (pc := 10) h dX8_lay_10 rfl hk (fun hc hk => ?_) (fun hc hk => ?_)
    · refine k_sub h [0, 1, 2, 3] (lv' := [(0, .ref 46), (1, .long l1), (3, .long l3), (5, .long l5)]) rfl ?_
      have hk := Option.some.inj hk
      subst hk
      exact hz
    · refine k_lload (pc := 13) h 3 dX8_lay_13 rfl ?_
      refine k_lload (pc := 15) h 4 dX8_lay_15 rfl ?_
      refine k_lrem (pc := 17) h dX8_lay_17 hk (fun hk => ?_)
      refine k_nml (pc := 18) h hk (fun v1 hk => ?_)
      refine k_lstore (pc := 18) h [1, 2, 3, 4, 5, 0] (lv' := [(0, .ref 46), (1, .long l1), (3, .long l3), (5, .long l5), (7, .long l7), (9, .long v1)]) dX8_lay_18 (by decide) rfl ?_
      refine k_lload (pc := 20) h 4 dX8_lay_20 rfl ?_
      refine k_lstore (pc := 22) h [1, 2, 3, 0, 4, 5] (lv' := [(0, .ref 46), (1, .long l1), (3, .long l3), (5, .long l7), (7, .long l7), (9, .long v1)]) dX8_lay_22 (by decide) rfl ?_
      refine k_lload (pc := 24) h 5 dX8_lay_24 rfl ?_
      refine k_lstore (pc := 26) h [1, 2, 3, 4, 0, 5] (lv' := [(0, .ref 46), (1, .long l1), (3, .long l3), (5, .long l7), (7, .long v1), (9, .long v1)]) dX8_lay_26 (by decide) rfl ?_
      refine k_goto (tgt := 6) (pc := 28) h dX8_lay_28 rfl ?_
      refine k_sub h [0, 1, 2, 3, 4] (lv' := [(0, .ref 46), (1, .long l1), (3, .long l3), (5, .long l7), (7, .long v1)]) rfl ?_
      have hk := Option.some.inj hk
      subst hk
      exact hz
  refine k_lload_n (pc := 0) h 1 dX8_lay_0 rfl ?_
  refine k_lstore (pc := 1) h [1, 2, 3, 0] (lv' := [(0, .ref 46), (1, .long l1), (3, .long l3), (5, .long l1)]) dX8_lay_1 (by decide) rfl ?_
  refine k_lload_n (pc := 3) h 2 dX8_lay_3 rfl ?_
  refine k_lstore (pc := 4) h [1, 2, 3, 4, 0] (lv' := [(0, .ref 46), (1, .long l1), (3, .long l3), (5, .long l1), (7, .long l3)]) dX8_lay_4 (by decide) rfl ?_
  obtain ⟨r2, hl3, hk⟩ := bd_some hk
  refine LB6 _ _ _ _ _ _ hl3 ?_
  show G 31 [(0, .ref 46), (1, .long l1), (3, .long l3), (5, .long r2)] [] w
  refine k_aload_n (pc := 31) h 0 dX8_lay_31 rfl ?_
  refine k_lload_n (pc := 32) h 1 dX8_lay_32 rfl ?_
  refine k_lload (pc := 33) h 3 dX8_lay_33 rfl ?_
  refine k_ldiv (pc := 35) h dX8_lay_35 hk (fun hk => ?_)
  refine k_putl (pc := 36) h fl_X8_234 ly_46 rfl dX8_lay_36 hk (fun u4 hk => ?_)
  refine k_aload_n (pc := 39) h 0 dX8_lay_39 rfl ?_
  refine k_lload_n (pc := 40) h 2 dX8_lay_40 rfl ?_
  refine k_lload (pc := 41) h 3 dX8_lay_41 rfl ?_
  refine k_ldiv (pc := 43) h dX8_lay_43 hk (fun hk => ?_)
  refine k_putl (pc := 44) h fl_X8_61 ly_46 rfl dX8_lay_44 hk (fun u5 hk => ?_)
  have hk := Option.some.inj hk
  subst hk
  exact k_vret (pc := 47) h dX8_lay_47 ⟨rfl, rfl, rfl, rfl, rfl, rfl⟩
def f_X8_letter (w : WW) (l1 : Int32) : Option (Int32) := gd (inb ((w.1 46 11) + l1) 150) (some ((w.1 53 (((w.1 46 11) + l1)).toNatClampNeg)))
set_option maxRecDepth 20000 in
set_option maxHeartbeats 4000000 in
theorem c_X8_letter {w : WW} {l1 : Int32} {z : Int32} (hk : f_X8_letter w l1 = some z) : Cn 0 yX8_letter cX8_letter 2 (some .int) LAY [.ref 46, .int l1] w (some (.int z)) w := by
  refine Cn.of (by decide +kernel) (Nat.le_of_ble_eq_true rfl) (fun G h => ?_)
  have h : Rules cX8_letter RX8 "letter" 2 (rmd 0 0 0) none _ _ LAY 0 0 G := h
  show G 0 [(0, .ref 46), (1, .int l1)] [] w
  unfold f_X8_letter at hk
  refine k_aload_n (pc := 0) h 0 dX8_letter_0 rfl ?_
  refine k_getr (pc := 1) h fl_X8_32 ly_46 rfl dX8_letter_1 ?_
  refine k_aload_n (pc := 4) h 0 dX8_letter_4 rfl ?_
  refine k_geti (pc := 5) h fl_X8_109 ly_46 rfl dX8_letter_5 ?_
  refine k_iload_n (pc := 8) h 1 dX8_letter_8 rfl ?_
  refine k_iadd (pc := 9) h dX8_letter_9 ?_
  refine k_iald (pc := 10) h ly_53 dX8_letter_10 hk (fun hk => ?_)
  have hk := Option.some.inj hk
  subst hk
  exact k_iret (pc := 11) h dX8_letter_11 ⟨rfl, rfl, rfl, rfl, rfl, ⟨.int, rfl, rfl⟩⟩
def f_X8_lineNumber_b4 (w : WW) (l1 : Int32) (l2 : Int32) : Option ((Int32 × Int32) ⊕ (Int32)) := if (w.1 46 27) ≤ l2 then some (.inr l1) else gd (inb l2 7) (nmv ((((10 : Int32) * l1) + (w.1 62 (l2).toNatClampNeg)) + (1 : Int32)) (fun v1 => some (.inl (v1, (l2 + (1 : Int32))))))
def f_X8_lineNumber (w : WW) : Option (Int32) := (lpf (fun s : Int32 × Int32 => f_X8_lineNumber_b4 w s.1 s.2) FU ((0 : Int32), (0 : Int32))).bind (fun r2 => some (r2))
set_option maxRecDepth 20000 in
set_option maxHeartbeats 4000000 in
theorem c_X8_lineNumber {w : WW} {z : Int32} (hk : f_X8_lineNumber w = some z) : Cn 0 yX8_lineNumber cX8_lineNumber 3 (some .int) LAY [.ref 46] w (some (.int z)) w := by
  refine Cn.of (by decide +kernel) (Nat.le_of_ble_eq_true rfl) (fun G h => ?_)
  have h : Rules cX8_lineNumber RX8 "lineNumber" 3 (rmd 0 0 0) none _ _ LAY 0 0 G := h
  show G 0 [(0, .ref 46)] [] w
  unfold f_X8_lineNumber at hk
  have LB4 : ∀ (nn : Nat) (s : Int32 × Int32) (r : Int32), lpf (fun s : Int32 × Int32 => f_X8_lineNumber_b4 w s.1 s.2) nn s = some r → (fun r : Int32 => G 32 [(1, .int r)] [] w) r → (fun s : Int32 × Int32 => G 4 [(0, .ref 46), (1, .int s.1), (2, .int s.2)] [] w) s := by
    refine lpf_ind (fun s : Int32 × Int32 => G 4 [(0, .ref 46), (1, .int s.1), (2, .int s.2)] [] w) (fun r : Int32 => G 32 [(1, .int r)] [] w) ?_
    rintro ⟨l1, l2⟩ z hk hz
    have hk : f_X8_lineNumber_b4 w l1 l2 = some z := hk
    unfold f_X8_lineNumber_b4 at hk
    show G 4 [(0, .ref 46), (1, .int l1), (2, .int l2)] [] w
    refine k_iload_n (pc := 4) h 2 dX8_lineNumber_4 rfl ?_
    refine k_aload_n (pc := 5) h 0 dX8_lineNumber_5 rfl ?_
    refine k_geti (pc := 6) h fl_X8_237 ly_46 rfl dX8_lineNumber_6 ?_
    refine k_icmp_ge (tgt := 32) (pc := 9) h dX8_lineNumber_9 rfl hk (fun hc hk => ?_) (fun hc hk => ?_)
    · refine k_sub h [1] (lv' := [(1, .int l1)]) rfl ?_
      have hk := Option.some.inj hk
      subst hk
      exact hz
    · refine k_bipush (pc := 12) h (x := (10 : Int32)) dX8_lineNumber_12 (by decide) ?_
      refine k_iload_n (pc := 14) h 1 dX8_lineNumber_14 rfl ?_
      refine k_imul (pc := 15) h dX8_lineNumber_15 ?_
      refine k_aload_n (pc := 16) h 0 dX8_lineNumber_16 rfl ?_
      refine k_getr (pc := 17) h fl_X8_65 ly_46 rfl dX8_lineNumber_17 ?_
      refine k_iload_n (pc := 20) h 2 dX8_lineNumber_20 rfl ?_
      refine k_iald (pc := 21) h ly_62 dX8_lineNumber_21 hk (fun hk => ?_)
      refine k_iadd (pc := 22) h dX8_lineNumber_22 ?_
      refine k_iconst (pc := 23) h (x := (1 : Int32)) dX8_lineNumber_23 (by decide) ?_
      refine k_iadd (pc := 24) h dX8_lineNumber_24 ?_
      refine k_nmi (pc := 25) h hk (fun v1 hk => ?_)
      refine k_istore_n (pc := 25) h [1, 0, 2] (lv' := [(0, .ref 46), (1, .int v1), (2, .int l2)]) dX8_lineNumber_25 rfl (by decide) rfl ?_
      refine k_iinc (pc := 26) h 2 [1, 2, 0] (v := (l2 + (1 : Int32))) (lv' := [(0, .ref 46), (1, .int v1), (2, .int (l2 + (1 : Int32)))]) dX8_lineNumber_26 rfl rfl (by decide) rfl ?_
      refine k_goto (tgt := 4) (pc := 29) h dX8_lineNumber_29 rfl ?_
      have hk := Option.some.inj hk
      subst hk
      exact hz
  refine k_iconst (pc := 0) h (x := (0 : Int32)) dX8_lineNumber_0 (by decide) ?_
  refine k_istore_n (pc := 1) h [1, 0] (lv' := [(0, .ref 46), (1, .int (0 : Int32))]) dX8_lineNumber_1 rfl (by decide) rfl ?_
  refine k_iconst (pc := 2) h (x := (0 : Int32)) dX8_lineNumber_2 (by decide) ?_
  refine k_istore_n (pc := 3) h [1, 2, 0] (lv' := [(0, .ref 46), (1, .int (0 : Int32)), (2, .int (0 : Int32))]) dX8_lineNumber_3 rfl (by decide) rfl ?_
  obtain ⟨r2, hl3, hk⟩ := bd_some hk
  refine LB4 _ _ _ hl3 ?_
  show G 32 [(1, .int r2)] [] w
  refine k_iload_n (pc := 32) h 0 dX8_lineNumber_32 rfl ?_
  have hk := Option.some.inj hk
  subst hk
  exact k_iret (pc := 33) h dX8_lineNumber_33 ⟨rfl, rfl, rfl, rfl, rfl, ⟨.int, rfl, rfl⟩⟩
def f_X8_mix (w : WW) (l1 : Int64) : Option (WW) := stL w 46 30 (((31 : Int64) * (w.2 46 30)) + l1) (fun u1 => some u1)
set_option maxRecDepth 20000 in
set_option maxHeartbeats 4000000 in
theorem c_X8_mix {w : WW} {l1 : Int64} {z : WW} (hk : f_X8_mix w l1 = some z) : Cn 0 yX8_mix cX8_mix 3 none LAY [.ref 46, .long l1] w none z := by
  refine Cn.of (by decide +kernel) (Nat.le_of_ble_eq_true rfl) (fun G h => ?_)
  have h : Rules cX8_mix RX8 "mix" 3 (rmd 0 0 0) none _ _ LAY 0 0 G := h
  show G 0 [(0, .ref 46), (1, .long l1)] [] w
  unfold f_X8_mix at hk
  refine k_aload_n (pc := 0) h 0 dX8_mix_0 rfl ?_
  refine k_ldc2 (pc := 1) h (x := (31 : Int64)) cs_X8_277 dX8_mix_1 ?_
  refine k_aload_n (pc := 4) h 0 dX8_mix_4 rfl ?_
  refine k_getl (pc := 5) h fl_X8_279 ly_46 rfl dX8_mix_5 ?_
  refine k_lmul (pc := 8) h dX8_mix_8 ?_
  refine k_lload_n (pc := 9) h 1 dX8_mix_9 rfl ?_
  refine k_ladd (pc := 10) h dX8_mix_10 ?_
  refine k_putl (pc := 11) h fl_X8_279 ly_46 rfl dX8_mix_11 hk (fun u1 hk => ?_)
  have hk := Option.some.inj hk
  subst hk
  exact k_vret (pc := 14) h dX8_mix_14 ⟨rfl, rfl, rfl, rfl, rfl, rfl⟩
def f_X8_nextLine_b7 (w : WW) (l1 : Int32) : Option ((Int32) ⊕ (Int32)) := if l1 < 0 then some (.inr l1) else gd (inb l1 7) (gd (inb (l1 + (1 : Int32)) 7) (if (w.1 62 (l1).toNatClampNeg) ≤ (w.1 62 ((l1 + (1 : Int32))).toNatClampNeg) then some (.inr l1) else some (.inl (l1 + (-1 : Int32)))))
def f_X8_nextLine_b47 (w : WW) (l1 : Int32) (l2 : Int32) : Option ((Int32) ⊕ (Int32)) := gd (inb l2 7) (gd (inb l1 7) (if (w.1 62 (l1).toNatClampNeg) ≤ (w.1 62 (l2).toNatClampNeg) then some (.inr l2) else some (.inl (l2 + (-1 : Int32)))))
def f_X8_nextLine_b107 (l4 : Int32) (l5 : Int32) (w : WW) : Option ((Int32 × Int32 × WW) ⊕ (WW)) := if l5 ≤ l4 then some (.inr w) else gd (inb l4 7) (nmv (w.1 62 (l4).toNatClampNeg) (fun v12 => gd (inb l5 7) (gd (inb l4 7) (stI w 62 (l4).toNatClampNeg (w.1 62 (l5).toNatClampNeg) (fun u13 => gd (inb l5 7) (stI u13 62 (l5).toNatClampNeg v12 (fun u14 => some (.inl ((l4 + (1 : Int32)), (l5 + (-1 : Int32)), u14)))))))))
def f_X8_nextLine (w : WW) : Option (Int32 × WW) := nmv ((w.1 46 27) - (2 : Int32)) (fun v1 => (lpf (fun s : Int32 => f_X8_nextLine_b7 w s) FU v1).bind (fun r2 => if 0 ≤ r2 then nmv ((w.1 46 27) - (1 : Int32)) (fun v4 => (lpf (fun s : Int32 => f_X8_nextLine_b47 w r2 s) FU v4).bind (fun r5 => gd (inb r2 7) (nmv (w.1 62 (r2).toNatClampNeg) (fun v7 => gd (inb r5 7) (gd (inb r2 7) (stI w 62 (r2).toNatClampNeg (w.1 62 (r5).toNatClampNeg) (fun u8 => gd (inb r5 7) (stI u8 62 (r5).toNatClampNeg v7 (fun u9 => nmv (r2 + (1 : Int32)) (fun v10 => nmv ((u9.1 46 27) - (1 : Int32)) (fun v11 => (lpf (fun s : Int32 × Int32 × WW => f_X8_nextLine_b107 s.1 s.2.1 s.2.2) FU (v10, v11, u9)).bind (fun r15 => some ((1 : Int32), r15))))))))))))) else some ((0 : Int32), w)))
set_option maxRecDepth 20000 in
set_option maxHeartbeats 4000000 in
theorem c_X8_nextLine {w : WW} {z : Int32 × WW} (hk : f_X8_nextLine w = some z) : Cn 0 yX8_nextLine cX8_nextLine 6 (some .boolean) LAY [.ref 46] w (some (.int z.1)) z.2 := by
  refine Cn.of (by decide +kernel) (Nat.le_of_ble_eq_true rfl) (fun G h => ?_)
  have h : Rules cX8_nextLine RX8 "nextLine" 6 (rmd 0 0 0) none _ _ LAY 0 0 G := h
  show G 0 [(0, .ref 46)] [] w
  unfold f_X8_nextLine at hk
  have LB7 : ∀ (w : WW), ∀ (nn : Nat) (s : Int32) (r : Int32), lpf (fun s : Int32 => f_X8_nextLine_b7 w s) nn s = some r → (fun r : Int32 => G 34 [(0, .ref 46), (1, .int r)] [] w) r → (fun s : Int32 => G 7 [(0, .ref 46), (1, .int s)] [] w) s := by
    intro w
    refine lpf_ind (fun s : Int32 => G 7 [(0, .ref 46), (1, .int s)] [] w) (fun r : Int32 => G 34 [(0, .ref 46), (1, .int r)] [] w) ?_
    rintro l1 z hk hz
    have hk : f_X8_nextLine_b7 w l1 = some z := hk
    unfold f_X8_nextLine_b7 at hk
    show G 7 [(0, .ref 46), (1, .int l1)] [] w
    refine k_iload_n (pc := 7) h 1 dX8_nextLine_7 rfl ?_
    refine k_if_lt (tgt := 34) (pc := 8) h dX8_nextLine_8 rfl hk (fun hc hk => ?_) (fun hc hk => ?_)
    · have hk := Option.some.inj hk
      subst hk
      exact hz
    · refine k_aload_n (pc := 11) h 0 dX8_nextLine_11 rfl ?_
      refine k_getr (pc := 12) h fl_X8_65 ly_46 rfl dX8_nextLine_12 ?_
      refine k_iload_n (pc := 15) h 1 dX8_nextLine_15 rfl ?_
      refine k_iald (pc := 16) h ly_62 dX8_nextLine_16 hk (fun hk => ?_)
      refine k_aload_n (pc := 17) h 0 dX8_nextLine_17 rfl ?_
      refine k_getr (pc := 18) h fl_X8_65 ly_46 rfl dX8_nextLine_18 ?_
      refine k_iload_n (pc := 21) h 1 dX8_nextLine_21 rfl ?_
      refine k_iconst (pc := 22) h (x := (1 : Int32)) dX8_nextLine_22 (by decide) ?_
      refine k_iadd (pc := 23) h dX8_nextLine_23 ?_
      refine k_iald (pc := 24) h ly_62 dX8_nextLine_24 hk (fun hk => ?_)
      refine k_icmp_le (tgt := 34) (pc := 25) h dX8_nextLine_25 rfl hk (fun hc hk => ?_) (fun hc hk => ?_)
      · have hk := Option.some.inj hk
        subst hk
        exact hz
      · refine k_iinc (pc := 28) h 1 [1, 0] (v := (l1 + (-1 : Int32))) (lv' := [(0, .ref 46), (1, .int (l1 + (-1 : Int32)))]) dX8_nextLine_28 rfl rfl (by decide) rfl ?_
        refine k_goto (tgt := 7) (pc := 31) h dX8_nextLine_31 rfl ?_
        have hk := Option.some.inj hk
        subst hk
        exact hz
  have LB47 : ∀ (w : WW) (l1 : Int32), ∀ (nn : Nat) (s : Int32) (r : Int32), lpf (fun s : Int32 => f_X8_nextLine_b47 w l1 s) nn s = some r → (fun r : Int32 => G 68 [(0, .ref 46), (1, .int l1), (2, .int r)] [] w) r → (fun s : Int32 => G 47 [(0, .ref 46), (1, .int l1), (2, .int s)] [] w) s := by
    intro w l1
    refine lpf_ind (fun s : Int32 => G 47 [(0, .ref 46), (1, .int l1), (2, .int s)] [] w) (fun r : Int32 => G 68 [(0, .ref 46), (1, .int l1), (2, .int r)] [] w) ?_
    rintro l2 z hk hz
    have hk : f_X8_nextLine_b47 w l1 l2 = some z := hk
    unfold f_X8_nextLine_b47 at hk
    show G 47 [(0, .ref 46), (1, .int l1), (2, .int l2)] [] w
    refine k_aload_n (pc := 47) h 0 dX8_nextLine_47 rfl ?_
    refine k_getr (pc := 48) h fl_X8_65 ly_46 rfl dX8_nextLine_48 ?_
    refine k_iload_n (pc := 51) h 2 dX8_nextLine_51 rfl ?_
    refine k_iald (pc := 52) h ly_62 dX8_nextLine_52 hk (fun hk => ?_)
    refine k_aload_n (pc := 53) h 0 dX8_nextLine_53 rfl ?_
    refine k_getr (pc := 54) h fl_X8_65 ly_46 rfl dX8_nextLine_54 ?_
    refine k_iload_n (pc := 57) h 1 dX8_nextLine_57 rfl ?_
    refine k_iald (pc := 58) h ly_62 dX8_nextLine_58 hk (fun hk => ?_)
    refine k_icmp_ge (tgt := 68) (pc := 59) h dX8_nextLine_59 rfl hk (fun hc hk => ?_) (fun hc hk => ?_)
    · have hk := Option.some.inj hk
      subst hk
      exact hz
    · refine k_iinc (pc := 62) h 2 [1, 2, 0] (v := (l2 + (-1 : Int32))) (lv' := [(0, .ref 46), (1, .int l1), (2, .int (l2 + (-1 : Int32)))]) dX8_nextLine_62 rfl rfl (by decide) rfl ?_
      refine k_goto (tgt := 47) (pc := 65) h dX8_nextLine_65 rfl ?_
      have hk := Option.some.inj hk
      subst hk
      exact hz
  have LB107 : ∀ (nn : Nat) (s : Int32 × Int32 × WW) (r : WW), lpf (fun s : Int32 × Int32 × WW => f_X8_nextLine_b107 s.1 s.2.1 s.2.2) nn s = some r → (fun r : WW => G 153 [] [] r) r → (fun s : Int32 × Int32 × WW => G 107 [(0, .ref 46), (4, .int s.1), (5, .int s.2.1)] [] s.2.2) s := by
    refine lpf_ind (fun s : Int32 × Int32 × WW => G 107 [(0, .ref 46), (4, .int s.1), (5, .int s.2.1)] [] s.2.2) (fun r : WW => G 153 [] [] r) ?_
    rintro ⟨l4, l5, w⟩ z hk hz
    have hk : f_X8_nextLine_b107 l4 l5 w = some z := hk
    unfold f_X8_nextLine_b107 at hk
    show G 107 [(0, .ref 46), (4, .int l4), (5, .int l5)] [] w
    refine k_iload (pc := 107) h 1 dX8_nextLine_107 rfl ?_
    refine k_iload (pc := 109) h 2 dX8_nextLine_109 rfl ?_
    refine k_icmp_ge (tgt := 153) (pc := 111) h dX8_nextLine_111 rfl hk (fun hc hk => ?_) (fun hc hk => ?_)
    · refine k_sub h [] (lv' := []) rfl ?_
      have hk := Option.some.inj hk
      subst hk
      exact hz
    · refine k_aload_n (pc := 114) h 0 dX8_nextLine_114 rfl ?_
      refine k_getr (pc := 115) h fl_X8_65 ly_46 rfl dX8_nextLine_115 ?_
      refine k_iload (pc := 118) h 1 dX8_nextLine_118 rfl ?_
      refine k_iald (pc := 120) h ly_62 dX8_nextLine_120 hk (fun hk => ?_)
      refine k_nmi (pc := 121) h hk (fun v12 hk => ?_)
      refine k_istore_n (pc := 121) h [1, 0, 2, 3] (lv' := [(0, .ref 46), (3, .int v12), (4, .int l4), (5, .int l5)]) dX8_nextLine_121 rfl (by decide) rfl ?_
      refine k_aload_n (pc := 122) h 0 dX8_nextLine_122 rfl ?_
      refine k_getr (pc := 123) h fl_X8_65 ly_46 rfl dX8_nextLine_123 ?_
      refine k_iload (pc := 126) h 2 dX8_nextLine_126 rfl ?_
      refine k_aload_n (pc := 128) h 0 dX8_nextLine_128 rfl ?_
      refine k_getr (pc := 129) h fl_X8_65 ly_46 rfl dX8_nextLine_129 ?_
      refine k_iload (pc := 132) h 3 dX8_nextLine_132 rfl ?_
      refine k_iald (pc := 134) h ly_62 dX8_nextLine_134 hk (fun hk => ?_)
      refine k_iast (pc := 135) h ly_62 dX8_nextLine_135 hk (fun u13 hk => ?_)
      refine k_aload_n (pc := 136) h 0 dX8_nextLine_136 rfl ?_
      refine k_getr (pc := 137) h fl_X8_65 ly_46 rfl dX8_nextLine_137 ?_
      refine k_iload (pc := 140) h 3 dX8_nextLine_140 rfl ?_
      refine k_iload_n (pc := 142) h 1 dX8_nextLine_142 rfl ?_
      refine k_iast (pc := 143) h ly_62 dX8_nextLine_143 hk (fun u14 hk => ?_)
      refine k_iinc (pc := 144) h 2 [1, 2, 0, 3] (v := (l4 + (1 : Int32))) (lv' := [(0, .ref 46), (3, .int v12), (4, .int (l4 + (1 : Int32))), (5, .int l5)]) dX8_nextLine_144 rfl rfl (by decide) rfl ?_
      refine k_iinc (pc := 147) h 3 [1, 2, 3, 0] (v := (l5 + (-1 : Int32))) (lv' := [(0, .ref 46), (3, .int v12), (4, .int (l4 + (1 : Int32))), (5, .int (l5 + (-1 : Int32)))]) dX8_nextLine_147 rfl rfl (by decide) rfl ?_
      refine k_goto (tgt := 107) (pc := 150) h dX8_nextLine_150 rfl ?_
      refine k_sub h [0, 2, 3] (lv' := [(0, .ref 46), (4, .int (l4 + (1 : Int32))), (5, .int (l5 + (-1 : Int32)))]) rfl ?_
      have hk := Option.some.inj hk
      subst hk
      exact hz
  refine k_aload_n (pc := 0) h 0 dX8_nextLine_0 rfl ?_
  refine k_geti (pc := 1) h fl_X8_237 ly_46 rfl dX8_nextLine_1 ?_
  refine k_iconst (pc := 4) h (x := (2 : Int32)) dX8_nextLine_4 (by decide) ?_
  refine k_isub (pc := 5) h dX8_nextLine_5 ?_
  refine k_nmi (pc := 6) h hk (fun v1 hk => ?_)
  refine k_istore_n (pc := 6) h [1, 0] (lv' := [(0, .ref 46), (1, .int v1)]) dX8_nextLine_6 rfl (by decide) rfl ?_
  obtain ⟨r2, hl3, hk⟩ := bd_some hk
  refine LB7 _ _ _ _ hl3 ?_
  show G 34 [(0, .ref 46), (1, .int r2)] [] w
  refine k_iload_n (pc := 34) h 1 dX8_nextLine_34 rfl ?_
  refine k_if_ge (tgt := 40) (pc := 35) h dX8_nextLine_35 rfl hk (fun hc hk => ?_) (fun hc hk => ?_)
  · refine k_aload_n (pc := 40) h 0 dX8_nextLine_40 rfl ?_
    refine k_geti (pc := 41) h fl_X8_237 ly_46 rfl dX8_nextLine_41 ?_
    refine k_iconst (pc := 44) h (x := (1 : Int32)) dX8_nextLine_44 (by decide) ?_
    refine k_isub (pc := 45) h dX8_nextLine_45 ?_
    refine k_nmi (pc := 46) h hk (fun v4 hk => ?_)
    refine k_istore_n (pc := 46) h [1, 2, 0] (lv' := [(0, .ref 46), (1, .int r2), (2, .int v4)]) dX8_nextLine_46 rfl (by decide) rfl ?_
    obtain ⟨r5, hl6, hk⟩ := bd_some hk
    refine LB47 _ _ _ _ _ hl6 ?_
    show G 68 [(0, .ref 46), (1, .int r2), (2, .int r5)] [] w
    refine k_aload_n (pc := 68) h 0 dX8_nextLine_68 rfl ?_
    refine k_getr (pc := 69) h fl_X8_65 ly_46 rfl dX8_nextLine_69 ?_
    refine k_iload_n (pc := 72) h 1 dX8_nextLine_72 rfl ?_
    refine k_iald (pc := 73) h ly_62 dX8_nextLine_73 hk (fun hk => ?_)
    refine k_nmi (pc := 74) h hk (fun v7 hk => ?_)
    refine k_istore_n (pc := 74) h [1, 2, 3, 0] (lv' := [(0, .ref 46), (1, .int r2), (2, .int r5), (3, .int v7)]) dX8_nextLine_74 rfl (by decide) rfl ?_
    refine k_aload_n (pc := 75) h 0 dX8_nextLine_75 rfl ?_
    refine k_getr (pc := 76) h fl_X8_65 ly_46 rfl dX8_nextLine_76 ?_
    refine k_iload_n (pc := 79) h 1 dX8_nextLine_79 rfl ?_
    refine k_aload_n (pc := 80) h 0 dX8_nextLine_80 rfl ?_
    refine k_getr (pc := 81) h fl_X8_65 ly_46 rfl dX8_nextLine_81 ?_
    refine k_iload_n (pc := 84) h 2 dX8_nextLine_84 rfl ?_
    refine k_iald (pc := 85) h ly_62 dX8_nextLine_85 hk (fun hk => ?_)
    refine k_iast (pc := 86) h ly_62 dX8_nextLine_86 hk (fun u8 hk => ?_)
    refine k_aload_n (pc := 87) h 0 dX8_nextLine_87 rfl ?_
    refine k_getr (pc := 88) h fl_X8_65 ly_46 rfl dX8_nextLine_88 ?_
    refine k_iload_n (pc := 91) h 2 dX8_nextLine_91 rfl ?_
    refine k_iload_n (pc := 92) h 3 dX8_nextLine_92 rfl ?_
    refine k_iast (pc := 93) h ly_62 dX8_nextLine_93 hk (fun u9 hk => ?_)
    refine k_iload_n (pc := 94) h 1 dX8_nextLine_94 rfl ?_
    refine k_iconst (pc := 95) h (x := (1 : Int32)) dX8_nextLine_95 (by decide) ?_
    refine k_iadd (pc := 96) h dX8_nextLine_96 ?_
    refine k_nmi (pc := 97) h hk (fun v10 hk => ?_)
    refine k_istore (pc := 97) h [1, 2, 3, 4, 0] (lv' := [(0, .ref 46), (1, .int r2), (2, .int r5), (3, .int v7), (4, .int v10)]) dX8_nextLine_97 (by decide) rfl ?_
    refine k_aload_n (pc := 99) h 0 dX8_nextLine_99 rfl ?_
    refine k_geti (pc := 100) h fl_X8_237 ly_46 rfl dX8_nextLine_100 ?_
    refine k_iconst (pc := 103) h (x := (1 : Int32)) dX8_nextLine_103 (by decide) ?_
    refine k_isub (pc := 104) h dX8_nextLine_104 ?_
    refine k_nmi (pc := 105) h hk (fun v11 hk => ?_)
    refine k_istore (pc := 105) h [1, 2, 3, 4, 5, 0] (lv' := [(0, .ref 46), (1, .int r2), (2, .int r5), (3, .int v7), (4, .int v10), (5, .int v11)]) dX8_nextLine_105 (by decide) rfl ?_
    refine k_sub h [0, 4, 5] (lv' := [(0, .ref 46), (4, .int v10), (5, .int v11)]) rfl ?_
    obtain ⟨r15, hl16, hk⟩ := bd_some hk
    refine LB107 _ _ _ hl16 ?_
    show G 153 [] [] r15
    refine k_iconst (pc := 153) h (x := (1 : Int32)) dX8_nextLine_153 (by decide) ?_
    have hk := Option.some.inj hk
    subst hk
    exact k_iret (pc := 154) h dX8_nextLine_154 ⟨rfl, rfl, rfl, rfl, rfl, ⟨.boolean, rfl, rfl⟩⟩
  · refine k_iconst (pc := 38) h (x := (0 : Int32)) dX8_nextLine_38 (by decide) ?_
    have hk := Option.some.inj hk
    subst hk
    exact k_iret (pc := 39) h dX8_nextLine_39 ⟨rfl, rfl, rfl, rfl, rfl, ⟨.boolean, rfl, rfl⟩⟩
def f_X8_no (w : WW) : Option (Int32 × WW) := gd (inb (1 : Int32) 3) (gd (inb (1 : Int32) 3) (stI w 47 ((1 : Int32)).toNatClampNeg ((w.1 47 ((1 : Int32)).toNatClampNeg) + (1 : Int32)) (fun u1 => some ((-3 : Int32), u1))))
set_option maxRecDepth 20000 in
set_option maxHeartbeats 4000000 in
theorem c_X8_no {w : WW} {z : Int32 × WW} (hk : f_X8_no w = some z) : Cn 0 yX8_no cX8_no 1 (some .int) LAY [.ref 46] w (some (.int z.1)) z.2 := by
  refine Cn.of (by decide +kernel) (Nat.le_of_ble_eq_true rfl) (fun G h => ?_)
  have h : Rules cX8_no RX8 "no" 1 (rmd 0 0 0) none _ _ LAY 0 0 G := h
  show G 0 [(0, .ref 46)] [] w
  unfold f_X8_no at hk
  refine k_aload_n (pc := 0) h 0 dX8_no_0 rfl ?_
  refine k_getr (pc := 1) h fl_X8_1 ly_46 rfl dX8_no_1 ?_
  refine k_iconst (pc := 4) h (x := (1 : Int32)) dX8_no_4 (by decide) ?_
  refine k_dup2 (pc := 5) h dX8_no_5 rfl rfl ?_
  refine k_iald (pc := 6) h ly_47 dX8_no_6 hk (fun hk => ?_)
  refine k_iconst (pc := 7) h (x := (1 : Int32)) dX8_no_7 (by decide) ?_
  refine k_iadd (pc := 8) h dX8_no_8 ?_
  refine k_iast (pc := 9) h ly_47 dX8_no_9 hk (fun u1 hk => ?_)
  refine k_bipush (pc := 10) h (x := (-3 : Int32)) dX8_no_10 (by decide) ?_
  have hk := Option.some.inj hk
  subst hk
  exact k_iret (pc := 12) h dX8_no_12 ⟨rfl, rfl, rfl, rfl, rfl, ⟨.int, rfl, rfl⟩⟩
def f_X8_notes_b68 (l1 : Int32) (l2 : Int32) (w : WW) : Option ((Int32 × WW) ⊕ (WW)) := if (16 : Int32) ≤ l2 then some (.inr w) else gd (inb l2 16) (gd (inb ((l1 + (1 : Int32)) + l2) 136) (stI w 56 (((l1 + (1 : Int32)) + l2)).toNatClampNeg (w.1 52 (l2).toNatClampNeg) (fun u3 => some (.inl ((l2 + (1 : Int32)), u3)))))
def f_X8_notes_j48 (w : WW) : Option (WW) := nmv ((17 : Int32) * (w.1 46 18)) (fun v1 => gd (inb v1 136) (stI w 56 (v1).toNatClampNeg (w.1 46 3) (fun u2 => (lpf (fun s : Int32 × WW => f_X8_notes_b68 v1 s.1 s.2) FU ((0 : Int32), u2)).bind (fun r4 => stI r4 46 18 ((r4.1 46 18) + (1 : Int32)) (fun u6 => some u6)))))
def f_X8_notes_b11 (l1 : Int32) (w : WW) : Option ((Int32 × WW) ⊕ (WW)) := if (119 : Int32) ≤ l1 then some (.inr w) else gd (inb (l1 + (17 : Int32)) 136) (gd (inb l1 136) (stI w 56 (l1).toNatClampNeg (w.1 56 ((l1 + (17 : Int32))).toNatClampNeg) (fun u7 => some (.inl ((l1 + (1 : Int32)), u7)))))
def f_X8_notes (w : WW) : Option (WW) := if (w.1 46 18) = (8 : Int32) then (lpf (fun s : Int32 × WW => f_X8_notes_b11 s.1 s.2) FU ((0 : Int32), w)).bind (fun r8 => stI r8 46 18 ((r8.1 46 18) - (1 : Int32)) (fun u10 => f_X8_notes_j48 u10)) else f_X8_notes_j48 w
set_option maxRecDepth 20000 in
set_option maxHeartbeats 4000000 in
theorem c_X8_notes {w : WW} {z : WW} (hk : f_X8_notes w = some z) : Cn 0 yX8_notes cX8_notes 3 none LAY [.ref 46] w none z := by
  refine Cn.of (by decide +kernel) (Nat.le_of_ble_eq_true rfl) (fun G h => ?_)
  have h : Rules cX8_notes RX8 "notes" 3 (rmd 0 0 0) none _ _ LAY 0 0 G := h
  show G 0 [(0, .ref 46)] [] w
  unfold f_X8_notes at hk
  have LB68 : ∀ (l1 : Int32), ∀ (nn : Nat) (s : Int32 × WW) (r : WW), lpf (fun s : Int32 × WW => f_X8_notes_b68 l1 s.1 s.2) nn s = some r → (fun r : WW => G 96 [(0, .ref 46)] [] r) r → (fun s : Int32 × WW => G 68 [(0, .ref 46), (1, .int l1), (2, .int s.1)] [] s.2) s := by
    intro l1
    refine lpf_ind (fun s : Int32 × WW => G 68 [(0, .ref 46), (1, .int l1), (2, .int s.1)] [] s.2) (fun r : WW => G 96 [(0, .ref 46)] [] r) ?_
    rintro ⟨l2, w⟩ z hk hz
    have hk : f_X8_notes_b68 l1 l2 w = some z := hk
    unfold f_X8_notes_b68 at hk
    show G 68 [(0, .ref 46), (1, .int l1), (2, .int l2)] [] w
    refine k_iload_n (pc := 68) h 2 dX8_notes_68 rfl ?_
    refine k_bipush (pc := 69) h (x := (16 : Int32)) dX8_notes_69 (by decide) ?_
    refine k_icmp_ge (tgt := 96) (pc := 71) h dX8_notes_71 rfl hk (fun hc hk => ?_) (fun hc hk => ?_)
    · refine k_sub h [0] (lv' := [(0, .ref 46)]) rfl ?_
      have hk := Option.some.inj hk
      subst hk
      exact hz
    · refine k_aload_n (pc := 74) h 0 dX8_notes_74 rfl ?_
      refine k_getr (pc := 75) h fl_X8_41 ly_46 rfl dX8_notes_75 ?_
      refine k_iload_n (pc := 78) h 1 dX8_notes_78 rfl ?_
      refine k_iconst (pc := 79) h (x := (1 : Int32)) dX8_notes_79 (by decide) ?_
      refine k_iadd (pc := 80) h dX8_notes_80 ?_
      refine k_iload_n (pc := 81) h 2 dX8_notes_81 rfl ?_
      refine k_iadd (pc := 82) h dX8_notes_82 ?_
      refine k_aload_n (pc := 83) h 0 dX8_notes_83 rfl ?_
      refine k_getr (pc := 84) h fl_X8_29 ly_46 rfl dX8_notes_84 ?_
      refine k_iload_n (pc := 87) h 2 dX8_notes_87 rfl ?_
      refine k_iald (pc := 88) h ly_52 dX8_notes_88 hk (fun hk => ?_)
      refine k_iast (pc := 89) h ly_56 dX8_notes_89 hk (fun u3 hk => ?_)
      refine k_iinc (pc := 90) h 2 [1, 2, 0] (v := (l2 + (1 : Int32))) (lv' := [(0, .ref 46), (1, .int l1), (2, .int (l2 + (1 : Int32)))]) dX8_notes_90 rfl rfl (by decide) rfl ?_
      refine k_goto (tgt := 68) (pc := 93) h dX8_notes_93 rfl ?_
      have hk := Option.some.inj hk
      subst hk
      exact hz
  have EJ48 : ∀ (w : WW), f_X8_notes_j48 w = some z → G 48 [(0, .ref 46)] [] w := by
    intro w hk
    unfold f_X8_notes_j48 at hk
    refine k_bipush (pc := 48) h (x := (17 : Int32)) dX8_notes_48 (by decide) ?_
    refine k_aload_n (pc := 50) h 0 dX8_notes_50 rfl ?_
    refine k_geti (pc := 51) h fl_X8_81 ly_46 rfl dX8_notes_51 ?_
    refine k_imul (pc := 54) h dX8_notes_54 ?_
    refine k_nmi (pc := 55) h hk (fun v1 hk => ?_)
    refine k_istore_n (pc := 55) h [1, 0] (lv' := [(0, .ref 46), (1, .int v1)]) dX8_notes_55 rfl (by decide) rfl ?_
    refine k_aload_n (pc := 56) h 0 dX8_notes_56 rfl ?_
    refine k_getr (pc := 57) h fl_X8_41 ly_46 rfl dX8_notes_57 ?_
    refine k_iload_n (pc := 60) h 1 dX8_notes_60 rfl ?_
    refine k_aload_n (pc := 61) h 0 dX8_notes_61 rfl ?_
    refine k_geti (pc := 62) h fl_X8_78 ly_46 rfl dX8_notes_62 ?_
    refine k_iast (pc := 65) h ly_56 dX8_notes_65 hk (fun u2 hk => ?_)
    refine k_iconst (pc := 66) h (x := (0 : Int32)) dX8_notes_66 (by decide) ?_
    refine k_istore_n (pc := 67) h [1, 2, 0] (lv' := [(0, .ref 46), (1, .int v1), (2, .int (0 : Int32))]) dX8_notes_67 rfl (by decide) rfl ?_
    obtain ⟨r4, hl5, hk⟩ := bd_some hk
    refine LB68 _ _ _ _ hl5 ?_
    show G 96 [(0, .ref 46)] [] r4
    refine k_aload_n (pc := 96) h 0 dX8_notes_96 rfl ?_
    refine k_dup (pc := 97) h dX8_notes_97 rfl ?_
    refine k_geti (pc := 98) h fl_X8_81 ly_46 rfl dX8_notes_98 ?_
    refine k_iconst (pc := 101) h (x := (1 : Int32)) dX8_notes_101 (by decide) ?_
    refine k_iadd (pc := 102) h dX8_notes_102 ?_
    refine k_puti (pc := 103) h fl_X8_81 ly_46 rfl dX8_notes_103 hk (fun u6 hk => ?_)
    have hk := Option.some.inj hk
    subst hk
    exact k_vret (pc := 106) h dX8_notes_106 ⟨rfl, rfl, rfl, rfl, rfl, rfl⟩
  have LB11 : ∀ (nn : Nat) (s : Int32 × WW) (r : WW), lpf (fun s : Int32 × WW => f_X8_notes_b11 s.1 s.2) nn s = some r → (fun r : WW => G 38 [(0, .ref 46)] [] r) r → (fun s : Int32 × WW => G 11 [(0, .ref 46), (1, .int s.1)] [] s.2) s := by
    refine lpf_ind (fun s : Int32 × WW => G 11 [(0, .ref 46), (1, .int s.1)] [] s.2) (fun r : WW => G 38 [(0, .ref 46)] [] r) ?_
    rintro ⟨l1, w⟩ z hk hz
    have hk : f_X8_notes_b11 l1 w = some z := hk
    unfold f_X8_notes_b11 at hk
    show G 11 [(0, .ref 46), (1, .int l1)] [] w
    refine k_iload_n (pc := 11) h 1 dX8_notes_11 rfl ?_
    refine k_bipush (pc := 12) h (x := (119 : Int32)) dX8_notes_12 (by decide) ?_
    refine k_icmp_ge (tgt := 38) (pc := 14) h dX8_notes_14 rfl hk (fun hc hk => ?_) (fun hc hk => ?_)
    · refine k_sub h [0] (lv' := [(0, .ref 46)]) rfl ?_
      have hk := Option.some.inj hk
      subst hk
      exact hz
    · refine k_aload_n (pc := 17) h 0 dX8_notes_17 rfl ?_
      refine k_getr (pc := 18) h fl_X8_41 ly_46 rfl dX8_notes_18 ?_
      refine k_iload_n (pc := 21) h 1 dX8_notes_21 rfl ?_
      refine k_aload_n (pc := 22) h 0 dX8_notes_22 rfl ?_
      refine k_getr (pc := 23) h fl_X8_41 ly_46 rfl dX8_notes_23 ?_
      refine k_iload_n (pc := 26) h 1 dX8_notes_26 rfl ?_
      refine k_bipush (pc := 27) h (x := (17 : Int32)) dX8_notes_27 (by decide) ?_
      refine k_iadd (pc := 29) h dX8_notes_29 ?_
      refine k_iald (pc := 30) h ly_56 dX8_notes_30 hk (fun hk => ?_)
      refine k_iast (pc := 31) h ly_56 dX8_notes_31 hk (fun u7 hk => ?_)
      refine k_iinc (pc := 32) h 1 [1, 0] (v := (l1 + (1 : Int32))) (lv' := [(0, .ref 46), (1, .int (l1 + (1 : Int32)))]) dX8_notes_32 rfl rfl (by decide) rfl ?_
      refine k_goto (tgt := 11) (pc := 35) h dX8_notes_35 rfl ?_
      have hk := Option.some.inj hk
      subst hk
      exact hz
  refine k_aload_n (pc := 0) h 0 dX8_notes_0 rfl ?_
  refine k_geti (pc := 1) h fl_X8_81 ly_46 rfl dX8_notes_1 ?_
  refine k_bipush (pc := 4) h (x := (8 : Int32)) dX8_notes_4 (by decide) ?_
  refine k_icmp_ne (tgt := 48) (pc := 6) h dX8_notes_6 rfl hk (fun hc hk => ?_) (fun hc hk => ?_)
  · exact EJ48 _ hk
  · refine k_iconst (pc := 9) h (x := (0 : Int32)) dX8_notes_9 (by decide) ?_
    refine k_istore_n (pc := 10) h [1, 0] (lv' := [(0, .ref 46), (1, .int (0 : Int32))]) dX8_notes_10 rfl (by decide) rfl ?_
    obtain ⟨r8, hl9, hk⟩ := bd_some hk
    refine LB11 _ _ _ hl9 ?_
    show G 38 [(0, .ref 46)] [] r8
    refine k_aload_n (pc := 38) h 0 dX8_notes_38 rfl ?_
    refine k_dup (pc := 39) h dX8_notes_39 rfl ?_
    refine k_geti (pc := 40) h fl_X8_81 ly_46 rfl dX8_notes_40 ?_
    refine k_iconst (pc := 43) h (x := (1 : Int32)) dX8_notes_43 (by decide) ?_
    refine k_isub (pc := 44) h dX8_notes_44 ?_
    refine k_puti (pc := 45) h fl_X8_81 ly_46 rfl dX8_notes_45 hk (fun u10 hk => ?_)
    exact EJ48 _ hk
def f_X8_setOne_j171 (w : WW) (l1 : Int32) (l2 : Int32) (l3 : Int32) (l4 : Int32) (l6 : Int32) (l7 : Int32) (s0 : Int32) : Option ((Int32 × Int32 × Int32 × Int32) ⊕ (Int32 × Int32 × Int32)) := some (.inl (l4, s0, l6, (l7 + (1 : Int32))))
def f_X8_setOne_j169 (w : WW) (l1 : Int32) (l2 : Int32) (l3 : Int32) (l4 : Int32) (l5 : Int32) (l6 : Int32) (l7 : Int32) : Option ((Int32 × Int32 × Int32 × Int32) ⊕ (Int32 × Int32 × Int32)) := f_X8_setOne_j171 w l1 l2 l3 l4 l6 l7 l5
def f_X8_setOne_j140 (w : WW) (l1 : Int32) (l2 : Int32) (l3 : Int32) (l5 : Int32) (l6 : Int32) (l7 : Int32) (l8 : Int32) (s0 : Int32) : Option ((Int32 × Int32 × Int32 × Int32) ⊕ (Int32 × Int32 × Int32)) := if l6 = 0 then f_X8_setOne_j169 w l1 l2 l3 s0 l5 l6 l7 else gd (inb l8 65536) (if (w.1 60 (l8).toNatClampNeg) ≤ l5 then f_X8_setOne_j169 w l1 l2 l3 s0 l5 l6 l7 else gd (inb l8 65536) (f_X8_setOne_j171 w l1 l2 l3 s0 l6 l7 (w.1 60 (l8).toNatClampNeg)))
def f_X8_setOne_j138 (w : WW) (l1 : Int32) (l2 : Int32) (l3 : Int32) (l4 : Int32) (l5 : Int32) (l6 : Int32) (l7 : Int32) (l8 : Int32) : Option ((Int32 × Int32 × Int32 × Int32) ⊕ (Int32 × Int32 × Int32)) := f_X8_setOne_j140 w l1 l2 l3 l5 l6 l7 l8 l4
def f_X8_setOne_j109 (w : WW) (l1 : Int32) (l2 : Int32) (l3 : Int32) (l4 : Int32) (l5 : Int32) (l7 : Int32) (l8 : Int32) (s0 : Int32) : Option ((Int32 × Int32 × Int32 × Int32) ⊕ (Int32 × Int32 × Int32)) := if s0 = 0 then f_X8_setOne_j138 w l1 l2 l3 l4 l5 s0 l7 l8 else gd (inb l8 65536) (if (w.1 58 (l8).toNatClampNeg) ≤ l4 then f_X8_setOne_j138 w l1 l2 l3 l4 l5 s0 l7 l8 else gd (inb l8 65536) (f_X8_setOne_j140 w l1 l2 l3 l5 s0 l7 l8 (w.1 58 (l8).toNatClampNeg)))
def f_X8_setOne_j108 (w : WW) (l1 : Int32) (l2 : Int32) (l3 : Int32) (l4 : Int32) (l5 : Int32) (l7 : Int32) (l8 : Int32) : Option ((Int32 × Int32 × Int32 × Int32) ⊕ (Int32 × Int32 × Int32)) := f_X8_setOne_j109 w l1 l2 l3 l4 l5 l7 l8 (0 : Int32)
def f_X8_setOne_b70 (w : WW) (l1 : Int32) (l2 : Int32) (l3 : Int32) (l4 : Int32) (l5 : Int32) (l6 : Int32) (l7 : Int32) : Option ((Int32 × Int32 × Int32 × Int32) ⊕ (Int32 × Int32 × Int32)) := if (10 : Int32) ≤ l7 then some (.inr (l4, l5, l6)) else gd (inb (((16 : Int32) * l3) + l7) 112) (nmv (l1 &&& (w.1 61 ((((16 : Int32) * l3) + l7)).toNatClampNeg)) (fun v4 => if l6 = 0 then f_X8_setOne_j108 w l1 l2 l3 l4 l5 l7 v4 else if v4 = l1 then f_X8_setOne_j108 w l1 l2 l3 l4 l5 l7 v4 else f_X8_setOne_j109 w l1 l2 l3 l4 l5 l7 v4 (1 : Int32)))
def f_X8_setOne_j241 (w : WW) (l1 : Int32) (l2 : Int32) (l3 : Int32) : Option ((Int32 × WW) ⊕ (WW)) := some (.inl ((l3 + (1 : Int32)), w))
def f_X8_setOne_b46 (l1 : Int32) (l2 : Int32) (l3 : Int32) (w : WW) : Option ((Int32 × WW) ⊕ (WW)) := if (w.1 46 2) ≤ l3 then some (.inr w) else if l2 = 0 then (lpf (fun s : Int32 × Int32 × Int32 × Int32 => f_X8_setOne_b70 w l1 l2 l3 s.1 s.2.1 s.2.2.1 s.2.2.2) FU ((0 : Int32), (0 : Int32), (1 : Int32), (0 : Int32))).bind (fun r5 => if r5.2.2 = 0 then f_X8_setOne_j241 w l1 l2 l3 else if (1048576 : Int32) ≤ r5.1 then f_X8_setOne_j241 w l1 l2 l3 else gd (inb l3 7) (gd (inb l1 65536) (if (w.1 58 (l1).toNatClampNeg) ≤ (r5.1 + (w.1 51 (l3).toNatClampNeg)) then f_X8_setOne_j241 w l1 l2 l3 else gd (inb l3 7) (gd (inb l1 65536) (stI w 58 (l1).toNatClampNeg (r5.1 + (w.1 51 (l3).toNatClampNeg)) (fun u7 => gd (inb l1 65536) (stI u7 59 (l1).toNatClampNeg l3 (fun u8 => gd (inb l1 65536) (stI u8 60 (l1).toNatClampNeg ((1 : Int32) + r5.2.1) (fun u9 => f_X8_setOne_j241 u9 l1 l2 l3)))))))))) else some (.inr w)
def f_X8_setOne_j29 (w : WW) (l1 : Int32) (l2 : Int32) (s0 : Int32) (s1 : Int32) : Option (WW) := gd (inb s1 65536) (stI w 58 (s1).toNatClampNeg s0 (fun u1 => gd (inb l1 65536) (stI u1 59 (l1).toNatClampNeg (-1 : Int32) (fun u2 => gd (inb l1 65536) (stI u2 60 (l1).toNatClampNeg (0 : Int32) (fun u3 => (lpf (fun s : Int32 × WW => f_X8_setOne_b46 l1 l2 s.1 s.2) FU ((0 : Int32), u3)).bind (fun r10 => some r10)))))))
def f_X8_setOne_j13 (w : WW) (l1 : Int32) (s0 : Int32) : Option (WW) := if s0 = 0 then f_X8_setOne_j29 w l1 s0 (1048576 : Int32) l1 else f_X8_setOne_j29 w l1 s0 (0 : Int32) l1
def f_X8_setOne (w : WW) (l1 : Int32) : Option (WW) := if (l1 &&& (l1 - (1 : Int32))) = 0 then f_X8_setOne_j13 w l1 (1 : Int32) else f_X8_setOne_j13 w l1 (0 : Int32)
set_option maxRecDepth 20000 in
set_option maxHeartbeats 4000000 in
theorem c_X8_setOne {w : WW} {l1 : Int32} {z : WW} (hk : f_X8_setOne w l1 = some z) : Cn 0 yX8_setOne cX8_setOne 9 none LAY [.ref 46, .int l1] w none z := by
  refine Cn.of (by decide +kernel) (Nat.le_of_ble_eq_true rfl) (fun G h => ?_)
  have h : Rules cX8_setOne RX8 "setOne" 9 (rmd 0 0 0) none _ _ LAY 0 0 G := h
  show G 0 [(0, .ref 46), (1, .int l1)] [] w
  unfold f_X8_setOne at hk
  have EJ171 : ∀ (w : WW) (l1 : Int32) (l2 : Int32) (l3 : Int32) (l4 : Int32) (l6 : Int32) (l7 : Int32) (s0 : Int32) (z : (Int32 × Int32 × Int32 × Int32) ⊕ (Int32 × Int32 × Int32)), f_X8_setOne_j171 w l1 l2 l3 l4 l6 l7 s0 = some z → Sum.elim (fun s : Int32 × Int32 × Int32 × Int32 => G 70 [(0, .ref 46), (1, .int l1), (2, .int l2), (3, .int l3), (4, .int s.1), (5, .int s.2.1), (6, .int s.2.2.1), (7, .int s.2.2.2)] [] w) (fun r : Int32 × Int32 × Int32 => G 179 [(0, .ref 46), (1, .int l1), (2, .int l2), (3, .int l3), (4, .int r.1), (5, .int r.2.1), (6, .int r.2.2)] [] w) z → G 171 [(0, .ref 46), (1, .int l1), (2, .int l2), (3, .int l3), (4, .int l4), (6, .int l6), (7, .int l7)] [.int s0] w := by
    intro w l1 l2 l3 l4 l6 l7 s0 z hk hz
    unfold f_X8_setOne_j171 at hk
    refine k_istore (pc := 171) h [1, 2, 3, 4, 5, 0, 6, 7] (lv' := [(0, .ref 46), (1, .int l1), (2, .int l2), (3, .int l3), (4, .int l4), (5, .int s0), (6, .int l6), (7, .int l7)]) dX8_setOne_171 (by decide) rfl ?_
    refine k_iinc (pc := 173) h 7 [1, 2, 3, 4, 5, 6, 7, 0] (v := (l7 + (1 : Int32))) (lv' := [(0, .ref 46), (1, .int l1), (2, .int l2), (3, .int l3), (4, .int l4), (5, .int s0), (6, .int l6), (7, .int (l7 + (1 : Int32)))]) dX8_setOne_173 rfl rfl (by decide) rfl ?_
    refine k_goto (tgt := 70) (pc := 176) h dX8_setOne_176 rfl ?_
    have hk := Option.some.inj hk
    subst hk
    exact hz
  have EJ169 : ∀ (w : WW) (l1 : Int32) (l2 : Int32) (l3 : Int32) (l4 : Int32) (l5 : Int32) (l6 : Int32) (l7 : Int32) (z : (Int32 × Int32 × Int32 × Int32) ⊕ (Int32 × Int32 × Int32)), f_X8_setOne_j169 w l1 l2 l3 l4 l5 l6 l7 = some z → Sum.elim (fun s : Int32 × Int32 × Int32 × Int32 => G 70 [(0, .ref 46), (1, .int l1), (2, .int l2), (3, .int l3), (4, .int s.1), (5, .int s.2.1), (6, .int s.2.2.1), (7, .int s.2.2.2)] [] w) (fun r : Int32 × Int32 × Int32 => G 179 [(0, .ref 46), (1, .int l1), (2, .int l2), (3, .int l3), (4, .int r.1), (5, .int r.2.1), (6, .int r.2.2)] [] w) z → G 169 [(0, .ref 46), (1, .int l1), (2, .int l2), (3, .int l3), (4, .int l4), (5, .int l5), (6, .int l6), (7, .int l7)] [] w := by
    intro w l1 l2 l3 l4 l5 l6 l7 z hk hz
    unfold f_X8_setOne_j169 at hk
    refine k_iload (pc := 169) h 5 dX8_setOne_169 rfl ?_
    refine k_sub h [0, 1, 2, 3, 4, 6, 7] (lv' := [(0, .ref 46), (1, .int l1), (2, .int l2), (3, .int l3), (4, .int l4), (6, .int l6), (7, .int l7)]) rfl ?_
    exact EJ171 _ _ _ _ _ _ _ _ _ hk hz
  have EJ140 : ∀ (w : WW) (l1 : Int32) (l2 : Int32) (l3 : Int32) (l5 : Int32) (l6 : Int32) (l7 : Int32) (l8 : Int32) (s0 : Int32) (z : (Int32 × Int32 × Int32 × Int32) ⊕ (Int32 × Int32 × Int32)), f_X8_setOne_j140 w l1 l2 l3 l5 l6 l7 l8 s0 = some z → Sum.elim (fun s : Int32 × Int32 × Int32 × Int32 => G 70 [(0, .ref 46), (1, .int l1), (2, .int l2), (3, .int l3), (4, .int s.1), (5, .int s.2.1), (6, .int s.2.2.1), (7, .int s.2.2.2)] [] w) (fun r : Int32 × Int32 × Int32 => G 179 [(0, .ref 46), (1, .int l1), (2, .int l2), (3, .int l3), (4, .int r.1), (5, .int r.2.1), (6, .int r.2.2)] [] w) z → G 140 [(0, .ref 46), (1, .int l1), (2, .int l2), (3, .int l3), (5, .int l5), (6, .int l6), (7, .int l7), (8, .int l8)] [.int s0] w := by
    intro w l1 l2 l3 l5 l6 l7 l8 s0 z hk hz
    unfold f_X8_setOne_j140 at hk
    refine k_istore (pc := 140) h [1, 2, 3, 4, 0, 5, 6, 7, 8] (lv' := [(0, .ref 46), (1, .int l1), (2, .int l2), (3, .int l3), (4, .int s0), (5, .int l5), (6, .int l6), (7, .int l7), (8, .int l8)]) dX8_setOne_140 (by decide) rfl ?_
    refine k_iload (pc := 142) h 6 dX8_setOne_142 rfl ?_
    refine k_if_eq (tgt := 169) (pc := 144) h dX8_setOne_144 rfl hk (fun hc hk => ?_) (fun hc hk => ?_)
    · refine k_sub h [0, 1, 2, 3, 4, 5, 6, 7] (lv' := [(0, .ref 46), (1, .int l1), (2, .int l2), (3, .int l3), (4, .int s0), (5, .int l5), (6, .int l6), (7, .int l7)]) rfl ?_
      exact EJ169 _ _ _ _ _ _ _ _ _ hk hz
    · refine k_aload_n (pc := 147) h 0 dX8_setOne_147 rfl ?_
      refine k_getr (pc := 148) h fl_X8_55 ly_46 rfl dX8_setOne_148 ?_
      refine k_iload (pc := 151) h 8 dX8_setOne_151 rfl ?_
      refine k_iald (pc := 153) h ly_60 dX8_setOne_153 hk (fun hk => ?_)
      refine k_iload (pc := 154) h 5 dX8_setOne_154 rfl ?_
      refine k_icmp_le (tgt := 169) (pc := 156) h dX8_setOne_156 rfl hk (fun hc hk => ?_) (fun hc hk => ?_)
      · refine k_sub h [0, 1, 2, 3, 4, 5, 6, 7] (lv' := [(0, .ref 46), (1, .int l1), (2, .int l2), (3, .int l3), (4, .int s0), (5, .int l5), (6, .int l6), (7, .int l7)]) rfl ?_
        exact EJ169 _ _ _ _ _ _ _ _ _ hk hz
      · refine k_aload_n (pc := 159) h 0 dX8_setOne_159 rfl ?_
        refine k_getr (pc := 160) h fl_X8_55 ly_46 rfl dX8_setOne_160 ?_
        refine k_iload (pc := 163) h 8 dX8_setOne_163 rfl ?_
        refine k_iald (pc := 165) h ly_60 dX8_setOne_165 hk (fun hk => ?_)
        refine k_goto (tgt := 171) (pc := 166) h dX8_setOne_166 rfl ?_
        refine k_sub h [0, 1, 2, 3, 4, 6, 7] (lv' := [(0, .ref 46), (1, .int l1), (2, .int l2), (3, .int l3), (4, .int s0), (6, .int l6), (7, .int l7)]) rfl ?_
        exact EJ171 _ _ _ _ _ _ _ _ _ hk hz
  have EJ138 : ∀ (w : WW) (l1 : Int32) (l2 : Int32) (l3 : Int32) (l4 : Int32) (l5 : Int32) (l6 : Int32) (l7 : Int32) (l8 : Int32) (z : (Int32 × Int32 × Int32 × Int32) ⊕ (Int32 × Int32 × Int32)), f_X8_setOne_j138 w l1 l2 l3 l4 l5 l6 l7 l8 = some z → Sum.elim (fun s : Int32 × Int32 × Int32 × Int32 => G 70 [(0, .ref 46), (1, .int l1), (2, .int l2), (3, .int l3), (4, .int s.1), (5, .int s.2.1), (6, .int s.2.2.1), (7, .int s.2.2.2)] [] w) (fun r : Int32 × Int32 × Int32 => G 179 [(0, .ref 46), (1, .int l1), (2, .int l2), (3, .int l3), (4, .int r.1), (5, .int r.2.1), (6, .int r.2.2)] [] w) z → G 138 [(0, .ref 46), (1, .int l1), (2, .int l2), (3, .int l3), (4, .int l4), (5, .int l5), (6, .int l6), (7, .int l7), (8, .int l8)] [] w := by
    intro w l1 l2 l3 l4 l5 l6 l7 l8 z hk hz
    unfold f_X8_setOne_j138 at hk
    refine k_iload (pc := 138) h 4 dX8_setOne_138 rfl ?_
    refine k_sub h [0, 1, 2, 3, 5, 6, 7, 8] (lv' := [(0, .ref 46), (1, .int l1), (2, .int l2), (3, .int l3), (5, .int l5), (6, .int l6), (7, .int l7), (8, .int l8)]) rfl ?_
    exact EJ140 _ _ _ _ _ _ _ _ _ _ hk hz
  have EJ109 : ∀ (w : WW) (l1 : Int32) (l2 : Int32) (l3 : Int32) (l4 : Int32) (l5 : Int32) (l7 : Int32) (l8 : Int32) (s0 : Int32) (z : (Int32 × Int32 × Int32 × Int32) ⊕ (Int32 × Int32 × Int32)), f_X8_setOne_j109 w l1 l2 l3 l4 l5 l7 l8 s0 = some z → Sum.elim (fun s : Int32 × Int32 × Int32 × Int32 => G 70 [(0, .ref 46), (1, .int l1), (2, .int l2), (3, .int l3), (4, .int s.1), (5, .int s.2.1), (6, .int s.2.2.1), (7, .int s.2.2.2)] [] w) (fun r : Int32 × Int32 × Int32 => G 179 [(0, .ref 46), (1, .int l1), (2, .int l2), (3, .int l3), (4, .int r.1), (5, .int r.2.1), (6, .int r.2.2)] [] w) z → G 109 [(0, .ref 46), (1, .int l1), (2, .int l2), (3, .int l3), (4, .int l4), (5, .int l5), (7, .int l7), (8, .int l8)] [.int s0] w := by
    intro w l1 l2 l3 l4 l5 l7 l8 s0 z hk hz
    unfold f_X8_setOne_j109 at hk
    refine k_istore (pc := 109) h [1, 2, 3, 4, 5, 6, 0, 7, 8] (lv' := [(0, .ref 46), (1, .int l1), (2, .int l2), (3, .int l3), (4, .int l4), (5, .int l5), (6, .int s0), (7, .int l7), (8, .int l8)]) dX8_setOne_109 (by decide) rfl ?_
    refine k_iload (pc := 111) h 6 dX8_setOne_111 rfl ?_
    refine k_if_eq (tgt := 138) (pc := 113) h dX8_setOne_113 rfl hk (fun hc hk => ?_) (fun hc hk => ?_)
    · exact EJ138 _ _ _ _ _ _ _ _ _ _ hk hz
    · refine k_aload_n (pc := 116) h 0 dX8_setOne_116 rfl ?_
      refine k_getr (pc := 117) h fl_X8_49 ly_46 rfl dX8_setOne_117 ?_
      refine k_iload (pc := 120) h 8 dX8_setOne_120 rfl ?_
      refine k_iald (pc := 122) h ly_58 dX8_setOne_122 hk (fun hk => ?_)
      refine k_iload (pc := 123) h 4 dX8_setOne_123 rfl ?_
      refine k_icmp_le (tgt := 138) (pc := 125) h dX8_setOne_125 rfl hk (fun hc hk => ?_) (fun hc hk => ?_)
      · exact EJ138 _ _ _ _ _ _ _ _ _ _ hk hz
      · refine k_aload_n (pc := 128) h 0 dX8_setOne_128 rfl ?_
        refine k_getr (pc := 129) h fl_X8_49 ly_46 rfl dX8_setOne_129 ?_
        refine k_iload (pc := 132) h 8 dX8_setOne_132 rfl ?_
        refine k_iald (pc := 134) h ly_58 dX8_setOne_134 hk (fun hk => ?_)
        refine k_goto (tgt := 140) (pc := 135) h dX8_setOne_135 rfl ?_
        refine k_sub h [0, 1, 2, 3, 5, 6, 7, 8] (lv' := [(0, .ref 46), (1, .int l1), (2, .int l2), (3, .int l3), (5, .int l5), (6, .int s0), (7, .int l7), (8, .int l8)]) rfl ?_
        exact EJ140 _ _ _ _ _ _ _ _ _ _ hk hz
  have EJ108 : ∀ (w : WW) (l1 : Int32) (l2 : Int32) (l3 : Int32) (l4 : Int32) (l5 : Int32) (l7 : Int32) (l8 : Int32) (z : (Int32 × Int32 × Int32 × Int32) ⊕ (Int32 × Int32 × Int32)), f_X8_setOne_j108 w l1 l2 l3 l4 l5 l7 l8 = some z → Sum.elim (fun s : Int32 × Int32 × Int32 × Int32 => G 70 [(0, .ref 46), (1, .int l1), (2, .int l2), (3, .int l3), (4, .int s.1), (5, .int s.2.1), (6, .int s.2.2.1), (7, .int s.2.2.2)] [] w) (fun r : Int32 × Int32 × Int32 => G 179 [(0, .ref 46), (1, .int l1), (2, .int l2), (3, .int l3), (4, .int r.1), (5, .int r.2.1), (6, .int r.2.2)] [] w) z → G 108 [(0, .ref 46), (1, .int l1), (2, .int l2), (3, .int l3), (4, .int l4), (5, .int l5), (7, .int l7), (8, .int l8)] [] w := by
    intro w l1 l2 l3 l4 l5 l7 l8 z hk hz
    unfold f_X8_setOne_j108 at hk
    refine k_iconst (pc := 108) h (x := (0 : Int32)) dX8_setOne_108 (by decide) ?_
    exact EJ109 _ _ _ _ _ _ _ _ _ _ hk hz
  have LB70 : ∀ (w : WW) (l1 : Int32) (l2 : Int32) (l3 : Int32), ∀ (nn : Nat) (s : Int32 × Int32 × Int32 × Int32) (r : Int32 × Int32 × Int32), lpf (fun s : Int32 × Int32 × Int32 × Int32 => f_X8_setOne_b70 w l1 l2 l3 s.1 s.2.1 s.2.2.1 s.2.2.2) nn s = some r → (fun r : Int32 × Int32 × Int32 => G 179 [(0, .ref 46), (1, .int l1), (2, .int l2), (3, .int l3), (4, .int r.1), (5, .int r.2.1), (6, .int r.2.2)] [] w) r → (fun s : Int32 × Int32 × Int32 × Int32 => G 70 [(0, .ref 46), (1, .int l1), (2, .int l2), (3, .int l3), (4, .int s.1), (5, .int s.2.1), (6, .int s.2.2.1), (7, .int s.2.2.2)] [] w) s := by
    intro w l1 l2 l3
    refine lpf_ind (fun s : Int32 × Int32 × Int32 × Int32 => G 70 [(0, .ref 46), (1, .int l1), (2, .int l2), (3, .int l3), (4, .int s.1), (5, .int s.2.1), (6, .int s.2.2.1), (7, .int s.2.2.2)] [] w) (fun r : Int32 × Int32 × Int32 => G 179 [(0, .ref 46), (1, .int l1), (2, .int l2), (3, .int l3), (4, .int r.1), (5, .int r.2.1), (6, .int r.2.2)] [] w) ?_
    rintro ⟨l4, l5, l6, l7⟩ z hk hz
    have hk : f_X8_setOne_b70 w l1 l2 l3 l4 l5 l6 l7 = some z := hk
    unfold f_X8_setOne_b70 at hk
    show G 70 [(0, .ref 46), (1, .int l1), (2, .int l2), (3, .int l3), (4, .int l4), (5, .int l5), (6, .int l6), (7, .int l7)] [] w
    refine k_iload (pc := 70) h 7 dX8_setOne_70 rfl ?_
    refine k_bipush (pc := 72) h (x := (10 : Int32)) dX8_setOne_72 (by decide) ?_
    refine k_icmp_ge (tgt := 179) (pc := 74) h dX8_setOne_74 rfl hk (fun hc hk => ?_) (fun hc hk => ?_)
    · refine k_sub h [0, 1, 2, 3, 4, 5, 6] (lv' := [(0, .ref 46), (1, .int l1), (2, .int l2), (3, .int l3), (4, .int l4), (5, .int l5), (6, .int l6)]) rfl ?_
      have hk := Option.some.inj hk
      subst hk
      exact hz
    · refine k_iload_n (pc := 77) h 1 dX8_setOne_77 rfl ?_
      refine k_aload_n (pc := 78) h 0 dX8_setOne_78 rfl ?_
      refine k_getr (pc := 79) h fl_X8_58 ly_46 rfl dX8_setOne_79 ?_
      refine k_bipush (pc := 82) h (x := (16 : Int32)) dX8_setOne_82 (by decide) ?_
      refine k_iload_n (pc := 84) h 3 dX8_setOne_84 rfl ?_
      refine k_imul (pc := 85) h dX8_setOne_85 ?_
      refine k_iload (pc := 86) h 7 dX8_setOne_86 rfl ?_
      refine k_iadd (pc := 88) h dX8_setOne_88 ?_
      refine k_iald (pc := 89) h ly_61 dX8_setOne_89 hk (fun hk => ?_)
      refine k_iand (pc := 90) h dX8_setOne_90 ?_
      refine k_nmi (pc := 91) h hk (fun v4 hk => ?_)
      refine k_istore (pc := 91) h [1, 2, 3, 4, 5, 6, 7, 8, 0] (lv' := [(0, .ref 46), (1, .int l1), (2, .int l2), (3, .int l3), (4, .int l4), (5, .int l5), (6, .int l6), (7, .int l7), (8, .int v4)]) dX8_setOne_91 (by decide) rfl ?_
      refine k_iload (pc := 93) h 6 dX8_setOne_93 rfl ?_
      refine k_if_eq (tgt := 108) (pc := 95) h dX8_setOne_95 rfl hk (fun hc hk => ?_) (fun hc hk => ?_)
      · refine k_sub h [0, 1, 2, 3, 4, 5, 7, 8] (lv' := [(0, .ref 46), (1, .int l1), (2, .int l2), (3, .int l3), (4, .int l4), (5, .int l5), (7, .int l7), (8, .int v4)]) rfl ?_
        exact EJ108 _ _ _ _ _ _ _ _ _ hk hz
      · refine k_iload (pc := 98) h 8 dX8_setOne_98 rfl ?_
        refine k_iload_n (pc := 100) h 1 dX8_setOne_100 rfl ?_
        refine k_icmp_eq (tgt := 108) (pc := 101) h dX8_setOne_101 rfl hk (fun hc hk => ?_) (fun hc hk => ?_)
        · refine k_sub h [0, 1, 2, 3, 4, 5, 7, 8] (lv' := [(0, .ref 46), (1, .int l1), (2, .int l2), (3, .int l3), (4, .int l4), (5, .int l5), (7, .int l7), (8, .int v4)]) rfl ?_
          exact EJ108 _ _ _ _ _ _ _ _ _ hk hz
        · refine k_iconst (pc := 104) h (x := (1 : Int32)) dX8_setOne_104 (by decide) ?_
          refine k_goto (tgt := 109) (pc := 105) h dX8_setOne_105 rfl ?_
          refine k_sub h [0, 1, 2, 3, 4, 5, 7, 8] (lv' := [(0, .ref 46), (1, .int l1), (2, .int l2), (3, .int l3), (4, .int l4), (5, .int l5), (7, .int l7), (8, .int v4)]) rfl ?_
          exact EJ109 _ _ _ _ _ _ _ _ _ _ hk hz
  have EJ241 : ∀ (w : WW) (l1 : Int32) (l2 : Int32) (l3 : Int32) (z : (Int32 × WW) ⊕ (WW)), f_X8_setOne_j241 w l1 l2 l3 = some z → Sum.elim (fun s : Int32 × WW => G 46 [(0, .ref 46), (1, .int l1), (2, .int l2), (3, .int s.1)] [] s.2) (fun r : WW => G 247 [] [] r) z → G 241 [(0, .ref 46), (1, .int l1), (2, .int l2), (3, .int l3)] [] w := by
    intro w l1 l2 l3 z hk hz
    unfold f_X8_setOne_j241 at hk
    refine k_iinc (pc := 241) h 3 [1, 2, 3, 0] (v := (l3 + (1 : Int32))) (lv' := [(0, .ref 46), (1, .int l1), (2, .int l2), (3, .int (l3 + (1 : Int32)))]) dX8_setOne_241 rfl rfl (by decide) rfl ?_
    refine k_goto (tgt := 46) (pc := 244) h dX8_setOne_244 rfl ?_
    have hk := Option.some.inj hk
    subst hk
    exact hz
  have LB46 : ∀ (l1 : Int32) (l2 : Int32), ∀ (nn : Nat) (s : Int32 × WW) (r : WW), lpf (fun s : Int32 × WW => f_X8_setOne_b46 l1 l2 s.1 s.2) nn s = some r → (fun r : WW => G 247 [] [] r) r → (fun s : Int32 × WW => G 46 [(0, .ref 46), (1, .int l1), (2, .int l2), (3, .int s.1)] [] s.2) s := by
    intro l1 l2
    refine lpf_ind (fun s : Int32 × WW => G 46 [(0, .ref 46), (1, .int l1), (2, .int l2), (3, .int s.1)] [] s.2) (fun r : WW => G 247 [] [] r) ?_
    rintro ⟨l3, w⟩ z hk hz
    have hk : f_X8_setOne_b46 l1 l2 l3 w = some z := hk
    unfold f_X8_setOne_b46 at hk
    show G 46 [(0, .ref 46), (1, .int l1), (2, .int l2), (3, .int l3)] [] w
    refine k_iload_n (pc := 46) h 3 dX8_setOne_46 rfl ?_
    refine k_aload_n (pc := 47) h 0 dX8_setOne_47 rfl ?_
    refine k_geti (pc := 48) h fl_X8_75 ly_46 rfl dX8_setOne_48 ?_
    refine k_icmp_ge (tgt := 247) (pc := 51) h dX8_setOne_51 rfl hk (fun hc hk => ?_) (fun hc hk => ?_)
    · refine k_sub h [] (lv' := []) rfl ?_
      have hk := Option.some.inj hk
      subst hk
      exact hz
    · refine k_iload_n (pc := 54) h 2 dX8_setOne_54 rfl ?_
      refine k_if_ne (tgt := 247) (pc := 55) h dX8_setOne_55 rfl hk (fun hc hk => ?_) (fun hc hk => ?_)
      · refine k_sub h [] (lv' := []) rfl ?_
        have hk := Option.some.inj hk
        subst hk
        exact hz
      · refine k_iconst (pc := 58) h (x := (0 : Int32)) dX8_setOne_58 (by decide) ?_
        refine k_istore (pc := 59) h [1, 2, 3, 4, 0] (lv' := [(0, .ref 46), (1, .int l1), (2, .int l2), (3, .int l3), (4, .int (0 : Int32))]) dX8_setOne_59 (by decide) rfl ?_
        refine k_iconst (pc := 61) h (x := (0 : Int32)) dX8_setOne_61 (by decide) ?_
        refine k_istore (pc := 62) h [1, 2, 3, 4, 5, 0] (lv' := [(0, .ref 46), (1, .int l1), (2, .int l2), (3, .int l3), (4, .int (0 : Int32)), (5, .int (0 : Int32))]) dX8_setOne_62 (by decide) rfl ?_
        refine k_iconst (pc := 64) h (x := (1 : Int32)) dX8_setOne_64 (by decide) ?_
        refine k_istore (pc := 65) h [1, 2, 3, 4, 5, 6, 0] (lv' := [(0, .ref 46), (1, .int l1), (2, .int l2), (3, .int l3), (4, .int (0 : Int32)), (5, .int (0 : Int32)), (6, .int (1 : Int32))]) dX8_setOne_65 (by decide) rfl ?_
        refine k_iconst (pc := 67) h (x := (0 : Int32)) dX8_setOne_67 (by decide) ?_
        refine k_istore (pc := 68) h [1, 2, 3, 4, 5, 6, 7, 0] (lv' := [(0, .ref 46), (1, .int l1), (2, .int l2), (3, .int l3), (4, .int (0 : Int32)), (5, .int (0 : Int32)), (6, .int (1 : Int32)), (7, .int (0 : Int32))]) dX8_setOne_68 (by decide) rfl ?_
        obtain ⟨r5, hl6, hk⟩ := bd_some hk
        refine LB70 _ _ _ _ _ _ _ hl6 ?_
        show G 179 [(0, .ref 46), (1, .int l1), (2, .int l2), (3, .int l3), (4, .int r5.1), (5, .int r5.2.1), (6, .int r5.2.2)] [] w
        refine k_iload (pc := 179) h 6 dX8_setOne_179 rfl ?_
        refine k_if_eq (tgt := 241) (pc := 181) h dX8_setOne_181 rfl hk (fun hc hk => ?_) (fun hc hk => ?_)
        · refine k_sub h [0, 1, 2, 3] (lv' := [(0, .ref 46), (1, .int l1), (2, .int l2), (3, .int l3)]) rfl ?_
          exact EJ241 _ _ _ _ _ hk hz
        · refine k_iload (pc := 184) h 4 dX8_setOne_184 rfl ?_
          refine k_ldc (pc := 186) h (x := (1048576 : Int32)) cs_X8_191 dX8_setOne_186 ?_
          refine k_icmp_ge (tgt := 241) (pc := 188) h dX8_setOne_188 rfl hk (fun hc hk => ?_) (fun hc hk => ?_)
          · refine k_sub h [0, 1, 2, 3] (lv' := [(0, .ref 46), (1, .int l1), (2, .int l2), (3, .int l3)]) rfl ?_
            exact EJ241 _ _ _ _ _ hk hz
          · refine k_iload (pc := 191) h 4 dX8_setOne_191 rfl ?_
            refine k_aload_n (pc := 193) h 0 dX8_setOne_193 rfl ?_
            refine k_getr (pc := 194) h fl_X8_26 ly_46 rfl dX8_setOne_194 ?_
            refine k_iload_n (pc := 197) h 3 dX8_setOne_197 rfl ?_
            refine k_iald (pc := 198) h ly_51 dX8_setOne_198 hk (fun hk => ?_)
            refine k_iadd (pc := 199) h dX8_setOne_199 ?_
            refine k_aload_n (pc := 200) h 0 dX8_setOne_200 rfl ?_
            refine k_getr (pc := 201) h fl_X8_49 ly_46 rfl dX8_setOne_201 ?_
            refine k_iload_n (pc := 204) h 1 dX8_setOne_204 rfl ?_
            refine k_iald (pc := 205) h ly_58 dX8_setOne_205 hk (fun hk => ?_)
            refine k_icmp_ge (tgt := 241) (pc := 206) h dX8_setOne_206 rfl hk (fun hc hk => ?_) (fun hc hk => ?_)
            · refine k_sub h [0, 1, 2, 3] (lv' := [(0, .ref 46), (1, .int l1), (2, .int l2), (3, .int l3)]) rfl ?_
              exact EJ241 _ _ _ _ _ hk hz
            · refine k_aload_n (pc := 209) h 0 dX8_setOne_209 rfl ?_
              refine k_getr (pc := 210) h fl_X8_49 ly_46 rfl dX8_setOne_210 ?_
              refine k_iload_n (pc := 213) h 1 dX8_setOne_213 rfl ?_
              refine k_iload (pc := 214) h 4 dX8_setOne_214 rfl ?_
              refine k_aload_n (pc := 216) h 0 dX8_setOne_216 rfl ?_
              refine k_getr (pc := 217) h fl_X8_26 ly_46 rfl dX8_setOne_217 ?_
              refine k_iload_n (pc := 220) h 3 dX8_setOne_220 rfl ?_
              refine k_iald (pc := 221) h ly_51 dX8_setOne_221 hk (fun hk => ?_)
              refine k_iadd (pc := 222) h dX8_setOne_222 ?_
              refine k_iast (pc := 223) h ly_58 dX8_setOne_223 hk (fun u7 hk => ?_)
              refine k_aload_n (pc := 224) h 0 dX8_setOne_224 rfl ?_
              refine k_getr (pc := 225) h fl_X8_52 ly_46 rfl dX8_setOne_225 ?_
              refine k_iload_n (pc := 228) h 1 dX8_setOne_228 rfl ?_
              refine k_iload_n (pc := 229) h 3 dX8_setOne_229 rfl ?_
              refine k_iast (pc := 230) h ly_59 dX8_setOne_230 hk (fun u8 hk => ?_)
              refine k_aload_n (pc := 231) h 0 dX8_setOne_231 rfl ?_
              refine k_getr (pc := 232) h fl_X8_55 ly_46 rfl dX8_setOne_232 ?_
              refine k_iload_n (pc := 235) h 1 dX8_setOne_235 rfl ?_
              refine k_iconst (pc := 236) h (x := (1 : Int32)) dX8_setOne_236 (by decide) ?_
              refine k_iload (pc := 237) h 5 dX8_setOne_237 rfl ?_
              refine k_iadd (pc := 239) h dX8_setOne_239 ?_
              refine k_iast (pc := 240) h ly_60 dX8_setOne_240 hk (fun u9 hk => ?_)
              refine k_sub h [0, 1, 2, 3] (lv' := [(0, .ref 46), (1, .int l1), (2, .int l2), (3, .int l3)]) rfl ?_
              exact EJ241 _ _ _ _ _ hk hz
  have EJ29 : ∀ (w : WW) (l1 : Int32) (l2 : Int32) (s0 : Int32) (s1 : Int32), f_X8_setOne_j29 w l1 l2 s0 s1 = some z → G 29 [(0, .ref 46), (1, .int l1), (2, .int l2)] [.int s0, .int s1, .ref 58] w := by
    intro w l1 l2 s0 s1 hk
    unfold f_X8_setOne_j29 at hk
    refine k_iast (pc := 29) h ly_58 dX8_setOne_29 hk (fun u1 hk => ?_)
    refine k_aload_n (pc := 30) h 0 dX8_setOne_30 rfl ?_
    refine k_getr (pc := 31) h fl_X8_52 ly_46 rfl dX8_setOne_31 ?_
    refine k_iload_n (pc := 34) h 1 dX8_setOne_34 rfl ?_
    refine k_iconst (pc := 35) h (x := (-1 : Int32)) dX8_setOne_35 (by decide) ?_
    refine k_iast (pc := 36) h ly_59 dX8_setOne_36 hk (fun u2 hk => ?_)
    refine k_aload_n (pc := 37) h 0 dX8_setOne_37 rfl ?_
    refine k_getr (pc := 38) h fl_X8_55 ly_46 rfl dX8_setOne_38 ?_
    refine k_iload_n (pc := 41) h 1 dX8_setOne_41 rfl ?_
    refine k_iconst (pc := 42) h (x := (0 : Int32)) dX8_setOne_42 (by decide) ?_
    refine k_iast (pc := 43) h ly_60 dX8_setOne_43 hk (fun u3 hk => ?_)
    refine k_iconst (pc := 44) h (x := (0 : Int32)) dX8_setOne_44 (by decide) ?_
    refine k_istore_n (pc := 45) h [1, 2, 3, 0] (lv' := [(0, .ref 46), (1, .int l1), (2, .int l2), (3, .int (0 : Int32))]) dX8_setOne_45 rfl (by decide) rfl ?_
    obtain ⟨r10, hl11, hk⟩ := bd_some hk
    refine LB46 _ _ _ _ _ hl11 ?_
    show G 247 [] [] r10
    have hk := Option.some.inj hk
    subst hk
    exact k_vret (pc := 247) h dX8_setOne_247 ⟨rfl, rfl, rfl, rfl, rfl, rfl⟩
  have EJ13 : ∀ (w : WW) (l1 : Int32) (s0 : Int32), f_X8_setOne_j13 w l1 s0 = some z → G 13 [(0, .ref 46), (1, .int l1)] [.int s0] w := by
    intro w l1 s0 hk
    unfold f_X8_setOne_j13 at hk
    refine k_istore_n (pc := 13) h [1, 2, 0] (lv' := [(0, .ref 46), (1, .int l1), (2, .int s0)]) dX8_setOne_13 rfl (by decide) rfl ?_
    refine k_aload_n (pc := 14) h 0 dX8_setOne_14 rfl ?_
    refine k_getr (pc := 15) h fl_X8_49 ly_46 rfl dX8_setOne_15 ?_
    refine k_iload_n (pc := 18) h 1 dX8_setOne_18 rfl ?_
    refine k_iload_n (pc := 19) h 2 dX8_setOne_19 rfl ?_
    refine k_if_eq (tgt := 27) (pc := 20) h dX8_setOne_20 rfl hk (fun hc hk => ?_) (fun hc hk => ?_)
    · refine k_ldc (pc := 27) h (x := (1048576 : Int32)) cs_X8_191 dX8_setOne_27 ?_
      exact EJ29 _ _ _ _ _ hk
    · refine k_iconst (pc := 23) h (x := (0 : Int32)) dX8_setOne_23 (by decide) ?_
      refine k_goto (tgt := 29) (pc := 24) h dX8_setOne_24 rfl ?_
      exact EJ29 _ _ _ _ _ hk
  refine k_iload_n (pc := 0) h 1 dX8_setOne_0 rfl ?_
  refine k_iload_n (pc := 1) h 1 dX8_setOne_1 rfl ?_
  refine k_iconst (pc := 2) h (x := (1 : Int32)) dX8_setOne_2 (by decide) ?_
  refine k_isub (pc := 3) h dX8_setOne_3 ?_
  refine k_iand (pc := 4) h dX8_setOne_4 ?_
  refine k_if_ne (tgt := 12) (pc := 5) h dX8_setOne_5 rfl hk (fun hc hk => ?_) (fun hc hk => ?_)
  · refine k_iconst (pc := 12) h (x := (0 : Int32)) dX8_setOne_12 (by decide) ?_
    exact EJ13 _ _ _ hk
  · refine k_iconst (pc := 8) h (x := (1 : Int32)) dX8_setOne_8 (by decide) ?_
    refine k_goto (tgt := 13) (pc := 9) h dX8_setOne_9 rfl ?_
    exact EJ13 _ _ _ hk
def f_X8_ten (w : WW) : Option (Int32 × WW) := gd (inb (0 : Int32) 3) (gd (inb (0 : Int32) 3) (stI w 47 ((0 : Int32)).toNatClampNeg ((w.1 47 ((0 : Int32)).toNatClampNeg) + (1 : Int32)) (fun u1 => some ((-10 : Int32), u1))))
set_option maxRecDepth 20000 in
set_option maxHeartbeats 4000000 in
theorem c_X8_ten {w : WW} {z : Int32 × WW} (hk : f_X8_ten w = some z) : Cn 0 yX8_ten cX8_ten 1 (some .int) LAY [.ref 46] w (some (.int z.1)) z.2 := by
  refine Cn.of (by decide +kernel) (Nat.le_of_ble_eq_true rfl) (fun G h => ?_)
  have h : Rules cX8_ten RX8 "ten" 1 (rmd 0 0 0) none _ _ LAY 0 0 G := h
  show G 0 [(0, .ref 46)] [] w
  unfold f_X8_ten at hk
  refine k_aload_n (pc := 0) h 0 dX8_ten_0 rfl ?_
  refine k_getr (pc := 1) h fl_X8_1 ly_46 rfl dX8_ten_1 ?_
  refine k_iconst (pc := 4) h (x := (0 : Int32)) dX8_ten_4 (by decide) ?_
  refine k_dup2 (pc := 5) h dX8_ten_5 rfl rfl ?_
  refine k_iald (pc := 6) h ly_47 dX8_ten_6 hk (fun hk => ?_)
  refine k_iconst (pc := 7) h (x := (1 : Int32)) dX8_ten_7 (by decide) ?_
  refine k_iadd (pc := 8) h dX8_ten_8 ?_
  refine k_iast (pc := 9) h ly_47 dX8_ten_9 hk (fun u1 hk => ?_)
  refine k_bipush (pc := 10) h (x := (-10 : Int32)) dX8_ten_10 (by decide) ?_
  have hk := Option.some.inj hk
  subst hk
  exact k_iret (pc := 12) h dX8_ten_12 ⟨rfl, rfl, rfl, rfl, rfl, ⟨.int, rfl, rfl⟩⟩
def f_J0_length_8abf5 (si : Nat) (w : WW) : Option (Int32) := (f_J0_coder_7d493 si w).bind (fun p2 => some ((shr32 (Int32.ofNat (jsL.getD si 0)) p2)))
set_option maxRecDepth 20000 in
set_option maxHeartbeats 4000000 in
theorem c_J0_length_8abf5 {lay : List LyS} {si : Nat} (hsi : si < 3) {w : WW} {z : Int32} (hk : f_J0_length_8abf5 si w = some z) : Cn 1 yJ0_length_8abf5 cJ0_length_8abf5 1 (some .int) lay [.ref (1000000 + si)] w (some (.int z)) w := by
  refine Cn.of (by decide +kernel) (Nat.le_of_ble_eq_true rfl) (fun G h => ?_)
  have h : Rules cJ0_length_8abf5 RJ0 "length" 1 (rmd 1 0 0) none _ _ lay 0 0 G := h
  show G 0 [(0, .ref (1000000 + si))] [] w
  unfold f_J0_length_8abf5 at hk
  refine k_aload_n (pc := 0) h 0 dJ0_length_8abf5_0 rfl ?_
  refine k_getSv (pc := 1) h hsi fj_J0_9 dJ0_length_8abf5_1 ?_
  refine k_alenS (pc := 4) h hsi dJ0_length_8abf5_4 ?_
  refine k_aload_n (pc := 5) h 0 dJ0_length_8abf5_5 rfl ?_
  obtain ⟨p2, hc1, hk⟩ := bd_some hk
  refine k_callVS1 (pc := 6) h (c_J0_coder_7d493 hsi hc1) cw_J0_335 hsi ⟨⟨by decide, by decide⟩, Nat.zero_le _, Nat.zero_le _⟩ rfl (Nat.le_of_ble_eq_true rfl) dJ0_length_8abf5_6 ?_
  refine k_ishr (pc := 9) h dJ0_length_8abf5_9 ?_
  have hk := Option.some.inj hk
  subst hk
  exact k_iret (pc := 10) h dJ0_length_8abf5_10 ⟨rfl, rfl, rfl, rfl, rfl, ⟨.int, rfl, rfl⟩⟩
def f_J3_checkIndex_8e157 (w : WW) (l0 : Int32) (l1 : Int32) : Option (Int32) := if l0 < 0 then none else if l0 < l1 then some (l0) else none
set_option maxRecDepth 20000 in
set_option maxHeartbeats 4000000 in
theorem c_J3_checkIndex_8e157 {lay : List LyS} {vx : Value} (hvx : isF vx) {w : WW} {l0 : Int32} {l1 : Int32} {z : Int32} (hk : f_J3_checkIndex_8e157 w l0 l1 = some z) : Cn 1 yJ3_checkIndex_8e157 cJ3_checkIndex_8e157 3 (some .int) lay [.int l0, .int l1, vx] w (some (.int z)) w := by
  refine Cn.of (by decide +kernel) (by rcases hvx with rfl | ⟨a, rfl⟩ <;> exact Nat.le_of_ble_eq_true rfl) (fun G h => ?_)
  have h : Rules cJ3_checkIndex_8e157 RJ3 "checkIndex" 3 (rmd 1 0 0) none _ _ lay 0 0 G := h
  show G 0 [(0, .int l0), (1, .int l1), (2, vx)] [] w
  unfold f_J3_checkIndex_8e157 at hk
  refine k_iload_n (pc := 0) h 0 dJ3_checkIndex_8e157_0 rfl ?_
  refine k_if_lt (tgt := 9) (pc := 1) h dJ3_checkIndex_8e157_1 rfl hk (fun hc hk => ?_) (fun hc hk => ?_)
  · cases hk
  · refine k_iload_n (pc := 4) h 0 dJ3_checkIndex_8e157_4 rfl ?_
    refine k_iload_n (pc := 5) h 1 dJ3_checkIndex_8e157_5 rfl ?_
    refine k_icmp_lt (tgt := 16) (pc := 6) h dJ3_checkIndex_8e157_6 rfl hk (fun hc hk => ?_) (fun hc hk => ?_)
    · refine k_iload_n (pc := 16) h 0 dJ3_checkIndex_8e157_16 rfl ?_
      have hk := Option.some.inj hk
      subst hk
      exact k_iret (pc := 17) h dJ3_checkIndex_8e157_17 ⟨rfl, rfl, rfl, rfl, rfl, ⟨.int, rfl, rfl⟩⟩
    · cases hk
def f_X0_oneStall_b22 (b : Nat) (l3 : Int32) (l4 : Int32) (l5 : Int32) (l6 : Int32) (w : WW) : Option ((Int32 × Int32 × Int32 × WW) ⊕ (Int32 × WW)) := if (12 : Int32) ≤ l6 then some (.inr (l5, w)) else (f_J6_bitCount_0f7a4 w l4).bind (fun p8 => if p8 ≤ (1 : Int32) then some (.inr (l5, w)) else (f_X0_pick w (w.1 b 1)).bind (fun p10 => gd (inb p10.1 7) (nmv (l5 + (p10.2.1 (b + 4) (p10.1).toNatClampNeg)) (fun v11 => gd (inb ((p10.1 * (16 : Int32)) + l3) 112) (nmv (l4 &&& (p10.2.1 (b + 5) (((p10.1 * (16 : Int32)) + l3)).toNatClampNeg)) (fun v12 => some (.inl (v12, v11, (l6 + (1 : Int32)), p10.2))))))))
def f_X0_oneStall (b : Nat) (w : WW) (l2 : Int32) : Option (Int32 × WW) := (f_J6_bitCount_0f7a4 w l2).bind (fun p2 => (f_X0_pick w p2).bind (fun p4 => (f_X0_bitAt p4.2 l2 p4.1).bind (fun p6 => (lpf (fun s : Int32 × Int32 × Int32 × WW => f_X0_oneStall_b22 b p6 s.1 s.2.1 s.2.2.1 s.2.2.2) FU (l2, (0 : Int32), (0 : Int32), p4.2)).bind (fun r13 => some (r13.1, r13.2)))))
set_option maxRecDepth 20000 in
set_option maxHeartbeats 4000000 in
theorem c_X0_oneStall {b : Nat} (hb : StAt LAY b) {w : WW} {l2 : Int32} {z : Int32 × WW} (hk : f_X0_oneStall b w l2 = some z) : Cn 1 yX0_oneStall cX0_oneStall 8 (some .int) LAY [.ref 45, .ref b, .int l2] w (some (.int z.1)) z.2 := by
  refine Cn.of (by decide +kernel) (Nat.le_of_ble_eq_true rfl) (fun G h => ?_)
  have h : Rules cX0_oneStall RX0 "oneStall" 8 (rmd 1 0 0) none _ _ LAY 0 0 G := h
  show G 0 [(0, .ref 45), (1, .ref b), (2, .int l2)] [] w
  unfold f_X0_oneStall at hk
  have LB22 : ∀ (l3 : Int32), ∀ (nn : Nat) (s : Int32 × Int32 × Int32 × WW) (r : Int32 × WW), lpf (fun s : Int32 × Int32 × Int32 × WW => f_X0_oneStall_b22 b l3 s.1 s.2.1 s.2.2.1 s.2.2.2) nn s = some r → (fun r : Int32 × WW => G 83 [(5, .int r.1)] [] r.2) r → (fun s : Int32 × Int32 × Int32 × WW => G 22 [(0, .ref 45), (1, .ref b), (3, .int l3), (4, .int s.1), (5, .int s.2.1), (6, .int s.2.2.1)] [] s.2.2.2) s := by
    intro l3
    refine lpf_ind (fun s : Int32 × Int32 × Int32 × WW => G 22 [(0, .ref 45), (1, .ref b), (3, .int l3), (4, .int s.1), (5, .int s.2.1), (6, .int s.2.2.1)] [] s.2.2.2) (fun r : Int32 × WW => G 83 [(5, .int r.1)] [] r.2) ?_
    rintro ⟨l4, l5, l6, w⟩ z hk hz
    have hk : f_X0_oneStall_b22 b l3 l4 l5 l6 w = some z := hk
    unfold f_X0_oneStall_b22 at hk
    show G 22 [(0, .ref 45), (1, .ref b), (3, .int l3), (4, .int l4), (5, .int l5), (6, .int l6)] [] w
    refine k_iload (pc := 22) h 5 dX0_oneStall_22 rfl ?_
    refine k_bipush (pc := 24) h (x := (12 : Int32)) dX0_oneStall_24 (by decide) ?_
    refine k_icmp_ge (tgt := 83) (pc := 26) h dX0_oneStall_26 rfl hk (fun hc hk => ?_) (fun hc hk => ?_)
    · refine k_sub h [4] (lv' := [(5, .int l5)]) rfl ?_
      have hk := Option.some.inj hk
      subst hk
      exact hz
    · refine k_iload (pc := 29) h 3 dX0_oneStall_29 rfl ?_
      obtain ⟨p8, hc7, hk⟩ := bd_some hk
      refine k_callS1 (pc := 31) h (c_J6_bitCount_0f7a4 hc7) cw_X0_9 ⟨⟨by decide, by decide⟩, Nat.zero_le _, Nat.zero_le _⟩ rfl (Nat.le_of_ble_eq_true rfl) dX0_oneStall_31 ?_
      refine k_iconst (pc := 34) h (x := (1 : Int32)) dX0_oneStall_34 (by decide) ?_
      refine k_icmp_le (tgt := 83) (pc := 35) h dX0_oneStall_35 rfl hk (fun hc hk => ?_) (fun hc hk => ?_)
      · refine k_sub h [4] (lv' := [(5, .int l5)]) rfl ?_
        have hk := Option.some.inj hk
        subst hk
        exact hz
      · refine k_aload_n (pc := 38) h 0 dX0_oneStall_38 rfl ?_
        refine k_aload_n (pc := 39) h 1 dX0_oneStall_39 rfl ?_
        refine k_geti (pc := 40) h fl_X0_24 hb.1 rfl dX0_oneStall_40 ?_
        obtain ⟨p10, hc9, hk⟩ := bd_some hk
        refine k_callV1 (pc := 43) h (c_X0_pick hc9) cw_X0_15 ly_45 rfl ⟨⟨by decide, by decide⟩, Nat.zero_le _, Nat.zero_le _⟩ rfl (Nat.le_of_ble_eq_true rfl) dX0_oneStall_43 ?_
        refine k_istore (pc := 46) h [1, 2, 3, 4, 5, 6, 0] (lv' := [(0, .ref 45), (1, .ref b), (3, .int l3), (4, .int l4), (5, .int l5), (6, .int l6), (7, .int p10.1)]) dX0_oneStall_46 (by decide) rfl ?_
        refine k_iload (pc := 48) h 4 dX0_oneStall_48 rfl ?_
        refine k_aload_n (pc := 50) h 1 dX0_oneStall_50 rfl ?_
        refine k_getr (pc := 51) h fl_X0_30 hb.1 rfl dX0_oneStall_51 ?_
        refine k_iload (pc := 54) h 6 dX0_oneStall_54 rfl ?_
        refine k_iald (pc := 56) h hb.2.2.2.2.1 dX0_oneStall_56 hk (fun hk => ?_)
        refine k_iadd (pc := 57) h dX0_oneStall_57 ?_
        refine k_nmi (pc := 58) h hk (fun v11 hk => ?_)
        refine k_istore (pc := 58) h [1, 2, 3, 4, 0, 5, 6] (lv' := [(0, .ref 45), (1, .ref b), (3, .int l3), (4, .int l4), (5, .int v11), (6, .int l6), (7, .int p10.1)]) dX0_oneStall_58 (by decide) rfl ?_
        refine k_iload (pc := 60) h 3 dX0_oneStall_60 rfl ?_
        refine k_aload_n (pc := 62) h 1 dX0_oneStall_62 rfl ?_
        refine k_getr (pc := 63) h fl_X0_34 hb.1 rfl dX0_oneStall_63 ?_
        refine k_iload (pc := 66) h 6 dX0_oneStall_66 rfl ?_
        refine k_bipush (pc := 68) h (x := (16 : Int32)) dX0_oneStall_68 (by decide) ?_
        refine k_imul (pc := 70) h dX0_oneStall_70 ?_
        refine k_iload_n (pc := 71) h 2 dX0_oneStall_71 rfl ?_
        refine k_iadd (pc := 72) h dX0_oneStall_72 ?_
        refine k_iald (pc := 73) h hb.2.2.2.2.2.1 dX0_oneStall_73 hk (fun hk => ?_)
        refine k_iand (pc := 74) h dX0_oneStall_74 ?_
        refine k_nmi (pc := 75) h hk (fun v12 hk => ?_)
        refine k_istore (pc := 75) h [1, 2, 3, 0, 4, 5, 6] (lv' := [(0, .ref 45), (1, .ref b), (3, .int l3), (4, .int v12), (5, .int v11), (6, .int l6), (7, .int p10.1)]) dX0_oneStall_75 (by decide) rfl ?_
        refine k_iinc (pc := 77) h 5 [1, 2, 3, 4, 5, 0, 6] (v := (l6 + (1 : Int32))) (lv' := [(0, .ref 45), (1, .ref b), (3, .int l3), (4, .int v12), (5, .int v11), (6, .int (l6 + (1 : Int32))), (7, .int p10.1)]) dX0_oneStall_77 rfl rfl (by decide) rfl ?_
        refine k_goto (tgt := 22) (pc := 80) h dX0_oneStall_80 rfl ?_
        refine k_sub h [0, 1, 2, 3, 4, 5] (lv' := [(0, .ref 45), (1, .ref b), (3, .int l3), (4, .int v12), (5, .int v11), (6, .int (l6 + (1 : Int32)))]) rfl ?_
        have hk := Option.some.inj hk
        subst hk
        exact hz
  refine k_iload_n (pc := 0) h 2 dX0_oneStall_0 rfl ?_
  refine k_aload_n (pc := 1) h 0 dX0_oneStall_1 rfl ?_
  refine k_iload_n (pc := 2) h 2 dX0_oneStall_2 rfl ?_
  obtain ⟨p2, hc1, hk⟩ := bd_some hk
  refine k_callS1 (pc := 3) h (c_J6_bitCount_0f7a4 hc1) cw_X0_9 ⟨⟨by decide, by decide⟩, Nat.zero_le _, Nat.zero_le _⟩ rfl (Nat.le_of_ble_eq_true rfl) dX0_oneStall_3 ?_
  obtain ⟨p4, hc3, hk⟩ := bd_some hk
  refine k_callV1 (pc := 6) h (c_X0_pick hc3) cw_X0_15 ly_45 rfl ⟨⟨by decide, by decide⟩, Nat.zero_le _, Nat.zero_le _⟩ rfl (Nat.le_of_ble_eq_true rfl) dX0_oneStall_6 ?_
  obtain ⟨p6, hc5, hk⟩ := bd_some hk
  refine k_callS1 (pc := 9) h (c_X0_bitAt hc5) cw_X0_20 ⟨⟨by decide, by decide⟩, Nat.zero_le _, Nat.zero_le _⟩ rfl (Nat.le_of_ble_eq_true rfl) dX0_oneStall_9 ?_
  refine k_istore_n (pc := 12) h [1, 2, 3, 0] (lv' := [(0, .ref 45), (1, .ref b), (2, .int l2), (3, .int p6)]) dX0_oneStall_12 rfl (by decide) rfl ?_
  refine k_iload_n (pc := 13) h 2 dX0_oneStall_13 rfl ?_
  refine k_istore (pc := 14) h [1, 2, 3, 4, 0] (lv' := [(0, .ref 45), (1, .ref b), (2, .int l2), (3, .int p6), (4, .int l2)]) dX0_oneStall_14 (by decide) rfl ?_
  refine k_iconst (pc := 16) h (x := (0 : Int32)) dX0_oneStall_16 (by decide) ?_
  refine k_istore (pc := 17) h [1, 2, 3, 4, 5, 0] (lv' := [(0, .ref 45), (1, .ref b), (2, .int l2), (3, .int p6), (4, .int l2), (5, .int (0 : Int32))]) dX0_oneStall_17 (by decide) rfl ?_
  refine k_iconst (pc := 19) h (x := (0 : Int32)) dX0_oneStall_19 (by decide) ?_
  refine k_istore (pc := 20) h [1, 2, 3, 4, 5, 6, 0] (lv' := [(0, .ref 45), (1, .ref b), (2, .int l2), (3, .int p6), (4, .int l2), (5, .int (0 : Int32)), (6, .int (0 : Int32))]) dX0_oneStall_20 (by decide) rfl ?_
  refine k_sub h [0, 1, 3, 4, 5, 6] (lv' := [(0, .ref 45), (1, .ref b), (3, .int p6), (4, .int l2), (5, .int (0 : Int32)), (6, .int (0 : Int32))]) rfl ?_
  obtain ⟨r13, hl14, hk⟩ := bd_some hk
  refine LB22 _ _ _ _ hl14 ?_
  show G 83 [(5, .int r13.1)] [] r13.2
  refine k_iload (pc := 83) h 0 dX0_oneStall_83 rfl ?_
  have hk := Option.some.inj hk
  subst hk
  exact k_iret (pc := 85) h dX0_oneStall_85 ⟨rfl, rfl, rfl, rfl, rfl, ⟨.int, rfl, rfl⟩⟩
def f_X1_become (w : WW) (l1 : Int64) (l3 : Int64) : Option (WW) := (f_X1_commonDivisor w l1 l3).bind (fun p2 => if (lg_cmp l3 (0 : Int64)) ≤ 0 then some w else if (lg_cmp p2 (0 : Int64)) ≤ 0 then some w else gd (¬ p2 = 0) (stL w 36 0 (l1 / p2) (fun u3 => gd (¬ p2 = 0) (stL u3 36 1 (l3 / p2) (fun u4 => some u4)))))
set_option maxRecDepth 20000 in
set_option maxHeartbeats 4000000 in
theorem c_X1_become {w : WW} {l1 : Int64} {l3 : Int64} {z : WW} (hk : f_X1_become w l1 l3 = some z) : Cn 1 yX1_become cX1_become 7 none LAY [.ref 36, .long l1, .long l3] w none z := by
  refine Cn.of (by decide +kernel) (Nat.le_of_ble_eq_true rfl) (fun G h => ?_)
  have h : Rules cX1_become RX1 "become" 7 (rmd 1 0 0) none _ _ LAY 0 0 G := h
  show G 0 [(0, .ref 36), (1, .long l1), (3, .long l3)] [] w
  unfold f_X1_become at hk
  refine k_lload_n (pc := 0) h 1 dX1_become_0 rfl ?_
  refine k_lload_n (pc := 1) h 2 dX1_become_1 rfl ?_
  obtain ⟨p2, hc1, hk⟩ := bd_some hk
  refine k_callS1 (pc := 2) h (c_X1_commonDivisor hc1) cw_X1_16 ⟨⟨by decide, by decide⟩, Nat.zero_le _, Nat.zero_le _⟩ rfl (Nat.le_of_ble_eq_true rfl) dX1_become_2 ?_
  refine k_lstore (pc := 5) h [1, 2, 3, 0] (lv' := [(0, .ref 36), (1, .long l1), (3, .long l3), (5, .long p2)]) dX1_become_5 (by decide) rfl ?_
  refine k_lload_n (pc := 7) h 2 dX1_become_7 rfl ?_
  refine k_lconst (pc := 8) h (x := (0 : Int64)) dX1_become_8 (by decide) ?_
  refine k_lcmp (pc := 9) h dX1_become_9 ?_
  refine k_if_le (tgt := 36) (pc := 10) h dX1_become_10 rfl hk (fun hc hk => ?_) (fun hc hk => ?_)
  · have hk := Option.some.inj hk
    subst hk
    exact k_vret (pc := 36) h dX1_become_36 ⟨rfl, rfl, rfl, rfl, rfl, rfl⟩
  · refine k_lload (pc := 13) h 3 dX1_become_13 rfl ?_
    refine k_lconst (pc := 15) h (x := (0 : Int64)) dX1_become_15 (by decide) ?_
    refine k_lcmp (pc := 16) h dX1_become_16 ?_
    refine k_if_le (tgt := 36) (pc := 17) h dX1_become_17 rfl hk (fun hc hk => ?_) (fun hc hk => ?_)
    · have hk := Option.some.inj hk
      subst hk
      exact k_vret (pc := 36) h dX1_become_36 ⟨rfl, rfl, rfl, rfl, rfl, rfl⟩
    · refine k_aload_n (pc := 20) h 0 dX1_become_20 rfl ?_
      refine k_lload_n (pc := 21) h 1 dX1_become_21 rfl ?_
      refine k_lload (pc := 22) h 3 dX1_become_22 rfl ?_
      refine k_ldiv (pc := 24) h dX1_become_24 hk (fun hk => ?_)
      refine k_putl (pc := 25) h fl_X1_7 ly_36 rfl dX1_become_25 hk (fun u3 hk => ?_)
      refine k_aload_n (pc := 28) h 0 dX1_become_28 rfl ?_
      refine k_lload_n (pc := 29) h 2 dX1_become_29 rfl ?_
      refine k_lload (pc := 30) h 3 dX1_become_30 rfl ?_
      refine k_ldiv (pc := 32) h dX1_become_32 hk (fun hk => ?_)
      refine k_putl (pc := 33) h fl_X1_13 ly_36 rfl dX1_become_33 hk (fun u4 hk => ?_)
      have hk := Option.some.inj hk
      subst hk
      exact k_vret (pc := 36) h dX1_become_36 ⟨rfl, rfl, rfl, rfl, rfl, rfl⟩
def f_X2_worstOf_j83 (t : Nat) (b : Nat) (w : WW) (l3 : Int32) (l4 : Int32) (l6 : Int32) (l7 : Int32) (l8 : Int32) : Option ((Int32 × Int32 × Int32) ⊕ ((Unit) ⊕ (Int32))) := some (.inl (l6, l7, (l8 + (1 : Int32))))
def f_X2_worstOf_b10 (t : Nat) (b : Nat) (w : WW) (l3 : Int32) (l4 : Int32) (l6 : Int32) (l7 : Int32) (l8 : Int32) : Option ((Int32 × Int32 × Int32) ⊕ ((Unit) ⊕ (Int32))) := if (w.1 b 0) ≤ l8 then some (.inr (.inr l6)) else if ((shr32 l7 l8) &&& (1 : Int32)) = (1 : Int32) then gd (inb (((l3 ||| (shl32 (1 : Int32) l4)) * (16 : Int32)) + l8) 2048) (nmv (w.1 t ((((l3 ||| (shl32 (1 : Int32) l4)) * (16 : Int32)) + l8)).toNatClampNeg) (fun v1 => if v1 = (-1 : Int32) then some (.inr (.inl ())) else (f_J9_max_7cf53 w l6 v1).bind (fun p3 => gd (inb ((l4 * (16 : Int32)) + l8) 112) (nmv (l7 &&& ((w.1 (b + 5) (((l4 * (16 : Int32)) + l8)).toNatClampNeg) ^^^ (-1 : Int32))) (fun v4 => f_X2_worstOf_j83 t b w l3 l4 p3 v4 l8))))) else f_X2_worstOf_j83 t b w l3 l4 l6 l7 l8
def f_X2_worstOf (t : Nat) (b : Nat) (w : WW) (l3 : Int32) (l4 : Int32) (l5 : Int32) : Option (Int32) := (lpf (fun s : Int32 × Int32 × Int32 => f_X2_worstOf_b10 t b w l3 l4 s.1 s.2.1 s.2.2) FU ((0 : Int32), l5, (0 : Int32))).bind (Sum.elim (fun r5 => some ((-1 : Int32))) (fun r5 => some (r5)))
set_option maxRecDepth 20000 in
set_option maxHeartbeats 4000000 in
theorem c_X2_worstOf {t : Nat} {b : Nat} (ht : LAY[t]? = some (.inl (.int, 2048))) (hb : StAt LAY b) {w : WW} {l3 : Int32} {l4 : Int32} {l5 : Int32} {z : Int32} (hk : f_X2_worstOf t b w l3 l4 l5 = some z) : Cn 1 yX2_worstOf cX2_worstOf 10 (some .int) LAY [.ref 40, .ref t, .ref b, .int l3, .int l4, .int l5] w (some (.int z)) w := by
  refine Cn.of (by decide +kernel) (Nat.le_of_ble_eq_true rfl) (fun G h => ?_)
  have h : Rules cX2_worstOf RX2 "worstOf" 10 (rmd 1 0 0) none _ _ LAY 0 0 G := h
  show G 0 [(0, .ref 40), (1, .ref t), (2, .ref b), (3, .int l3), (4, .int l4), (5, .int l5)] [] w
  unfold f_X2_worstOf at hk
  have EJ83 : ∀ (l3 : Int32) (l4 : Int32) (l6 : Int32) (l7 : Int32) (l8 : Int32) (z : (Int32 × Int32 × Int32) ⊕ ((Unit) ⊕ (Int32))), f_X2_worstOf_j83 t b w l3 l4 l6 l7 l8 = some z → Sum.elim (fun s : Int32 × Int32 × Int32 => G 10 [(1, .ref t), (2, .ref b), (3, .int l3), (4, .int l4), (6, .int s.1), (7, .int s.2.1), (8, .int s.2.2)] [] w) (Sum.elim (fun r : Unit => G 52 [] [] w) (fun r : Int32 => G 89 [(6, .int r)] [] w)) z → G 83 [(1, .ref t), (2, .ref b), (3, .int l3), (4, .int l4), (6, .int l6), (7, .int l7), (8, .int l8)] [] w := by
    intro l3 l4 l6 l7 l8 z hk hz
    unfold f_X2_worstOf_j83 at hk
    refine k_iinc (pc := 83) h 6 [1, 2, 3, 4, 5, 6, 0] (v := (l8 + (1 : Int32))) (lv' := [(1, .ref t), (2, .ref b), (3, .int l3), (4, .int l4), (6, .int l6), (7, .int l7), (8, .int (l8 + (1 : Int32)))]) dX2_worstOf_83 rfl rfl (by decide) rfl ?_
    refine k_goto (tgt := 10) (pc := 86) h dX2_worstOf_86 rfl ?_
    have hk := Option.some.inj hk
    subst hk
    exact hz
  have LB10 : ∀ (l3 : Int32) (l4 : Int32), ∀ (nn : Nat) (s : Int32 × Int32 × Int32) (r : (Unit) ⊕ (Int32)), lpf (fun s : Int32 × Int32 × Int32 => f_X2_worstOf_b10 t b w l3 l4 s.1 s.2.1 s.2.2) nn s = some r → (Sum.elim (fun r : Unit => G 52 [] [] w) (fun r : Int32 => G 89 [(6, .int r)] [] w)) r → (fun s : Int32 × Int32 × Int32 => G 10 [(1, .ref t), (2, .ref b), (3, .int l3), (4, .int l4), (6, .int s.1), (7, .int s.2.1), (8, .int s.2.2)] [] w) s := by
    intro l3 l4
    refine lpf_ind (fun s : Int32 × Int32 × Int32 => G 10 [(1, .ref t), (2, .ref b), (3, .int l3), (4, .int l4), (6, .int s.1), (7, .int s.2.1), (8, .int s.2.2)] [] w) (Sum.elim (fun r : Unit => G 52 [] [] w) (fun r : Int32 => G 89 [(6, .int r)] [] w)) ?_
    rintro ⟨l6, l7, l8⟩ z hk hz
    have hk : f_X2_worstOf_b10 t b w l3 l4 l6 l7 l8 = some z := hk
    unfold f_X2_worstOf_b10 at hk
    show G 10 [(1, .ref t), (2, .ref b), (3, .int l3), (4, .int l4), (6, .int l6), (7, .int l7), (8, .int l8)] [] w
    refine k_iload (pc := 10) h 6 dX2_worstOf_10 rfl ?_
    refine k_aload_n (pc := 12) h 1 dX2_worstOf_12 rfl ?_
    refine k_geti (pc := 13) h fl_X2_34 hb.1 rfl dX2_worstOf_13 ?_
    refine k_icmp_ge (tgt := 89) (pc := 16) h dX2_worstOf_16 rfl hk (fun hc hk => ?_) (fun hc hk => ?_)
    · refine k_sub h [4] (lv' := [(6, .int l6)]) rfl ?_
      have hk := Option.some.inj hk
      subst hk
      exact hz
    · refine k_iload (pc := 19) h 5 dX2_worstOf_19 rfl ?_
      refine k_iload (pc := 21) h 6 dX2_worstOf_21 rfl ?_
      refine k_ishr (pc := 23) h dX2_worstOf_23 ?_
      refine k_iconst (pc := 24) h (x := (1 : Int32)) dX2_worstOf_24 (by decide) ?_
      refine k_iand (pc := 25) h dX2_worstOf_25 ?_
      refine k_iconst (pc := 26) h (x := (1 : Int32)) dX2_worstOf_26 (by decide) ?_
      refine k_icmp_ne (tgt := 83) (pc := 27) h dX2_worstOf_27 rfl hk (fun hc hk => ?_) (fun hc hk => ?_)
      · exact EJ83 _ _ _ _ _ _ hk hz
      · refine k_aload_n (pc := 30) h 0 dX2_worstOf_30 rfl ?_
        refine k_iload_n (pc := 31) h 2 dX2_worstOf_31 rfl ?_
        refine k_iconst (pc := 32) h (x := (1 : Int32)) dX2_worstOf_32 (by decide) ?_
        refine k_iload (pc := 33) h 3 dX2_worstOf_33 rfl ?_
        refine k_ishl (pc := 35) h dX2_worstOf_35 ?_
        refine k_ior (pc := 36) h dX2_worstOf_36 ?_
        refine k_bipush (pc := 37) h (x := (16 : Int32)) dX2_worstOf_37 (by decide) ?_
        refine k_imul (pc := 39) h dX2_worstOf_39 ?_
        refine k_iload (pc := 40) h 6 dX2_worstOf_40 rfl ?_
        refine k_iadd (pc := 42) h dX2_worstOf_42 ?_
        refine k_iald (pc := 43) h ht dX2_worstOf_43 hk (fun hk => ?_)
        refine k_nmi (pc := 44) h hk (fun v1 hk => ?_)
        refine k_istore (pc := 44) h [1, 2, 3, 4, 5, 6, 7, 0] (lv' := [(1, .ref t), (2, .ref b), (3, .int l3), (4, .int l4), (6, .int l6), (7, .int l7), (8, .int l8), (9, .int v1)]) dX2_worstOf_44 (by decide) rfl ?_
        refine k_iload (pc := 46) h 7 dX2_worstOf_46 rfl ?_
        refine k_iconst (pc := 48) h (x := (-1 : Int32)) dX2_worstOf_48 (by decide) ?_
        refine k_icmp_ne (tgt := 54) (pc := 49) h dX2_worstOf_49 rfl hk (fun hc hk => ?_) (fun hc hk => ?_)
        · refine k_iload (pc := 54) h 4 dX2_worstOf_54 rfl ?_
          refine k_iload (pc := 56) h 7 dX2_worstOf_56 rfl ?_
          obtain ⟨p3, hc2, hk⟩ := bd_some hk
          refine k_callS1 (pc := 58) h (c_J9_max_7cf53 hc2) cw_X2_62 ⟨⟨by decide, by decide⟩, Nat.zero_le _, Nat.zero_le _⟩ rfl (Nat.le_of_ble_eq_true rfl) dX2_worstOf_58 ?_
          refine k_istore (pc := 61) h [1, 2, 3, 4, 0, 5, 6, 7] (lv' := [(1, .ref t), (2, .ref b), (3, .int l3), (4, .int l4), (6, .int p3), (7, .int l7), (8, .int l8), (9, .int v1)]) dX2_worstOf_61 (by decide) rfl ?_
          refine k_iload (pc := 63) h 5 dX2_worstOf_63 rfl ?_
          refine k_aload_n (pc := 65) h 1 dX2_worstOf_65 rfl ?_
          refine k_getr (pc := 66) h fl_X2_67 hb.1 rfl dX2_worstOf_66 ?_
          refine k_iload (pc := 69) h 3 dX2_worstOf_69 rfl ?_
          refine k_bipush (pc := 71) h (x := (16 : Int32)) dX2_worstOf_71 (by decide) ?_
          refine k_imul (pc := 73) h dX2_worstOf_73 ?_
          refine k_iload (pc := 74) h 6 dX2_worstOf_74 rfl ?_
          refine k_iadd (pc := 76) h dX2_worstOf_76 ?_
          refine k_iald (pc := 77) h hb.2.2.2.2.2.1 dX2_worstOf_77 hk (fun hk => ?_)
          refine k_iconst (pc := 78) h (x := (-1 : Int32)) dX2_worstOf_78 (by decide) ?_
          refine k_ixor (pc := 79) h dX2_worstOf_79 ?_
          refine k_iand (pc := 80) h dX2_worstOf_80 ?_
          refine k_nmi (pc := 81) h hk (fun v4 hk => ?_)
          refine k_istore (pc := 81) h [1, 2, 3, 4, 5, 0, 6, 7] (lv' := [(1, .ref t), (2, .ref b), (3, .int l3), (4, .int l4), (6, .int p3), (7, .int v4), (8, .int l8), (9, .int v1)]) dX2_worstOf_81 (by decide) rfl ?_
          refine k_sub h [0, 1, 2, 3, 4, 5, 6] (lv' := [(1, .ref t), (2, .ref b), (3, .int l3), (4, .int l4), (6, .int p3), (7, .int v4), (8, .int l8)]) rfl ?_
          exact EJ83 _ _ _ _ _ _ hk hz
        · refine k_sub h [] (lv' := []) rfl ?_
          have hk := Option.some.inj hk
          subst hk
          exact hz
  refine k_iconst (pc := 0) h (x := (0 : Int32)) dX2_worstOf_0 (by decide) ?_
  refine k_istore (pc := 1) h [1, 2, 3, 4, 5, 6, 0] (lv' := [(0, .ref 40), (1, .ref t), (2, .ref b), (3, .int l3), (4, .int l4), (5, .int l5), (6, .int (0 : Int32))]) dX2_worstOf_1 (by decide) rfl ?_
  refine k_iload (pc := 3) h 5 dX2_worstOf_3 rfl ?_
  refine k_istore (pc := 5) h [1, 2, 3, 4, 5, 6, 7, 0] (lv' := [(0, .ref 40), (1, .ref t), (2, .ref b), (3, .int l3), (4, .int l4), (5, .int l5), (6, .int (0 : Int32)), (7, .int l5)]) dX2_worstOf_5 (by decide) rfl ?_
  refine k_iconst (pc := 7) h (x := (0 : Int32)) dX2_worstOf_7 (by decide) ?_
  refine k_istore (pc := 8) h [1, 2, 3, 4, 5, 6, 7, 8, 0] (lv' := [(0, .ref 40), (1, .ref t), (2, .ref b), (3, .int l3), (4, .int l4), (5, .int l5), (6, .int (0 : Int32)), (7, .int l5), (8, .int (0 : Int32))]) dX2_worstOf_8 (by decide) rfl ?_
  refine k_sub h [1, 2, 3, 4, 6, 7, 8] (lv' := [(1, .ref t), (2, .ref b), (3, .int l3), (4, .int l4), (6, .int (0 : Int32)), (7, .int l5), (8, .int (0 : Int32))]) rfl ?_
  obtain ⟨r5, hl6, hk⟩ := bd_some hk
  refine LB10 _ _ _ _ _ hl6 ?_
  rcases r5 with r5 | r5
  · replace hk := elim_l hk
    show G 52 [] [] w
    refine k_iconst (pc := 52) h (x := (-1 : Int32)) dX2_worstOf_52 (by decide) ?_
    have hk := Option.some.inj hk
    subst hk
    exact k_iret (pc := 53) h dX2_worstOf_53 ⟨rfl, rfl, rfl, rfl, rfl, ⟨.int, rfl, rfl⟩⟩
  · replace hk := elim_r hk
    show G 89 [(6, .int r5)] [] w
    refine k_iload (pc := 89) h 0 dX2_worstOf_89 rfl ?_
    have hk := Option.some.inj hk
    subst hk
    exact k_iret (pc := 91) h dX2_worstOf_91 ⟨rfl, rfl, rfl, rfl, rfl, ⟨.int, rfl, rfl⟩⟩
def f_X3_winsWhenPenceAreLike_j37 (pb : Nat) (pb2 : Nat) (w : WW) : Option (Int32) := some ((1 : Int32))
def f_X3_winsWhenPenceAreLike_j41 (pb : Nat) (pb2 : Nat) (w : WW) : Option (Int32) := some ((0 : Int32))
def f_X3_winsWhenPenceAreLike (pb : Nat) (pb2 : Nat) (w : WW) : Option (Int32) := (f_J6_bitCount_0f7a4 w (w.1 pb 0)).bind (fun p2 => (f_J6_bitCount_0f7a4 w (w.1 pb2 0)).bind (fun p4 => if p2 < p4 then f_X3_winsWhenPenceAreLike_j37 pb pb2 w else if p2 = p4 then if (w.1 pb2 0) ≤ (w.1 pb 0) then f_X3_winsWhenPenceAreLike_j41 pb pb2 w else f_X3_winsWhenPenceAreLike_j37 pb pb2 w else f_X3_winsWhenPenceAreLike_j41 pb pb2 w))
set_option maxRecDepth 20000 in
set_option maxHeartbeats 4000000 in
theorem c_X3_winsWhenPenceAreLike {lay : List LyS} {pb : Nat} {pb2 : Nat} (hpb : PuAt lay pb) (hpb2 : PuAt lay pb2) {w : WW} {z : Int32} (hk : f_X3_winsWhenPenceAreLike pb pb2 w = some z) : Cn 1 yX3_winsWhenPenceAreLike cX3_winsWhenPenceAreLike 4 (some .boolean) lay [.ref pb, .ref pb2] w (some (.int z)) w := by
  refine Cn.of (by decide +kernel) (Nat.le_of_ble_eq_true rfl) (fun G h => ?_)
  have h : Rules cX3_winsWhenPenceAreLike RX3 "winsWhenPenceAreLike" 4 (rmd 1 0 0) none _ _ lay 0 0 G := h
  show G 0 [(0, .ref pb), (1, .ref pb2)] [] w
  unfold f_X3_winsWhenPenceAreLike at hk
  have EJ37 : f_X3_winsWhenPenceAreLike_j37 pb pb2 w = some z → G 37 [] [] w := by
    intro hk
    unfold f_X3_winsWhenPenceAreLike_j37 at hk
    refine k_iconst (pc := 37) h (x := (1 : Int32)) dX3_winsWhenPenceAreLike_37 (by decide) ?_
    refine k_goto (tgt := 42) (pc := 38) h dX3_winsWhenPenceAreLike_38 rfl ?_
    have hk := Option.some.inj hk
    subst hk
    exact k_iret (pc := 42) h dX3_winsWhenPenceAreLike_42 ⟨rfl, rfl, rfl, rfl, rfl, ⟨.boolean, rfl, rfl⟩⟩
  have EJ41 : f_X3_winsWhenPenceAreLike_j41 pb pb2 w = some z → G 41 [] [] w := by
    intro hk
    unfold f_X3_winsWhenPenceAreLike_j41 at hk
    refine k_iconst (pc := 41) h (x := (0 : Int32)) dX3_winsWhenPenceAreLike_41 (by decide) ?_
    have hk := Option.some.inj hk
    subst hk
    exact k_iret (pc := 42) h dX3_winsWhenPenceAreLike_42 ⟨rfl, rfl, rfl, rfl, rfl, ⟨.boolean, rfl, rfl⟩⟩
  refine k_aload_n (pc := 0) h 0 dX3_winsWhenPenceAreLike_0 rfl ?_
  refine k_geti (pc := 1) h fl_X3_9 hpb rfl dX3_winsWhenPenceAreLike_1 ?_
  obtain ⟨p2, hc1, hk⟩ := bd_some hk
  refine k_callS1 (pc := 4) h (c_J6_bitCount_0f7a4 hc1) cw_X3_32 ⟨⟨by decide, by decide⟩, Nat.zero_le _, Nat.zero_le _⟩ rfl (Nat.le_of_ble_eq_true rfl) dX3_winsWhenPenceAreLike_4 ?_
  refine k_istore_n (pc := 7) h [1, 2, 0] (lv' := [(0, .ref pb), (1, .ref pb2), (2, .int p2)]) dX3_winsWhenPenceAreLike_7 rfl (by decide) rfl ?_
  refine k_aload_n (pc := 8) h 1 dX3_winsWhenPenceAreLike_8 rfl ?_
  refine k_geti (pc := 9) h fl_X3_9 hpb2 rfl dX3_winsWhenPenceAreLike_9 ?_
  obtain ⟨p4, hc3, hk⟩ := bd_some hk
  refine k_callS1 (pc := 12) h (c_J6_bitCount_0f7a4 hc3) cw_X3_32 ⟨⟨by decide, by decide⟩, Nat.zero_le _, Nat.zero_le _⟩ rfl (Nat.le_of_ble_eq_true rfl) dX3_winsWhenPenceAreLike_12 ?_
  refine k_istore_n (pc := 15) h [1, 2, 3, 0] (lv' := [(0, .ref pb), (1, .ref pb2), (2, .int p2), (3, .int p4)]) dX3_winsWhenPenceAreLike_15 rfl (by decide) rfl ?_
  refine k_iload_n (pc := 16) h 2 dX3_winsWhenPenceAreLike_16 rfl ?_
  refine k_iload_n (pc := 17) h 3 dX3_winsWhenPenceAreLike_17 rfl ?_
  refine k_icmp_lt (tgt := 37) (pc := 18) h dX3_winsWhenPenceAreLike_18 rfl hk (fun hc hk => ?_) (fun hc hk => ?_)
  · refine k_sub h [] (lv' := []) rfl ?_
    exact EJ37 hk
  · refine k_iload_n (pc := 21) h 2 dX3_winsWhenPenceAreLike_21 rfl ?_
    refine k_iload_n (pc := 22) h 3 dX3_winsWhenPenceAreLike_22 rfl ?_
    refine k_icmp_ne (tgt := 41) (pc := 23) h dX3_winsWhenPenceAreLike_23 rfl hk (fun hc hk => ?_) (fun hc hk => ?_)
    · refine k_sub h [] (lv' := []) rfl ?_
      exact EJ41 hk
    · refine k_aload_n (pc := 26) h 0 dX3_winsWhenPenceAreLike_26 rfl ?_
      refine k_geti (pc := 27) h fl_X3_9 hpb rfl dX3_winsWhenPenceAreLike_27 ?_
      refine k_aload_n (pc := 30) h 1 dX3_winsWhenPenceAreLike_30 rfl ?_
      refine k_geti (pc := 31) h fl_X3_9 hpb2 rfl dX3_winsWhenPenceAreLike_31 ?_
      refine k_icmp_ge (tgt := 41) (pc := 34) h dX3_winsWhenPenceAreLike_34 rfl hk (fun hc hk => ?_) (fun hc hk => ?_)
      · refine k_sub h [] (lv' := []) rfl ?_
        exact EJ41 hk
      · refine k_sub h [] (lv' := []) rfl ?_
        exact EJ37 hk
def f_X4_stepOverNumber_b5 (w : WW) : Option ((WW) ⊕ (WW)) := if (w.1 26 1) ≤ (w.1 26 4) then some (.inr w) else gd (inb (w.1 26 4) 150) ((f_X4_isFigure w (w.1 27 ((w.1 26 4)).toNatClampNeg)).bind (fun p3 => if p3 = 0 then some (.inr w) else gd (inb (w.1 26 4) 150) (stI w 26 6 ((((w.1 26 6) * (10 : Int32)) + (w.1 27 ((w.1 26 4)).toNatClampNeg)) - (48 : Int32)) (fun u4 => stI u4 26 4 ((u4.1 26 4) + (1 : Int32)) (fun u5 => some (.inl u5))))))
def f_X4_stepOverNumber_j88 (w : WW) (s0 : Int32) : Option (WW) := stI w 26 5 s0 (fun u8 => some u8)
def f_X4_stepOverNumber (w : WW) : Option (WW) := stI w 26 6 (0 : Int32) (fun u1 => (lpf (fun s : WW => f_X4_stepOverNumber_b5 s) FU u1).bind (fun r6 => if (2 : Int32) < ((r6.1 26 4) - (r6.1 26 3)) then f_X4_stepOverNumber_j88 r6 (6 : Int32) else f_X4_stepOverNumber_j88 r6 (1 : Int32)))
set_option maxRecDepth 20000 in
set_option maxHeartbeats 4000000 in
theorem c_X4_stepOverNumber {w : WW} {z : WW} (hk : f_X4_stepOverNumber w = some z) : Cn 1 yX4_stepOverNumber cX4_stepOverNumber 1 none LAY [.ref 26] w none z := by
  refine Cn.of (by decide +kernel) (Nat.le_of_ble_eq_true rfl) (fun G h => ?_)
  have h : Rules cX4_stepOverNumber RX4 "stepOverNumber" 1 (rmd 1 0 0) none _ _ LAY 0 0 G := h
  show G 0 [(0, .ref 26)] [] w
  unfold f_X4_stepOverNumber at hk
  have LB5 : ∀ (nn : Nat) (s : WW) (r : WW), lpf (fun s : WW => f_X4_stepOverNumber_b5 s) nn s = some r → (fun r : WW => G 68 [(0, .ref 26)] [] r) r → (fun s : WW => G 5 [(0, .ref 26)] [] s) s := by
    refine lpf_ind (fun s : WW => G 5 [(0, .ref 26)] [] s) (fun r : WW => G 68 [(0, .ref 26)] [] r) ?_
    rintro w z hk hz
    have hk : f_X4_stepOverNumber_b5 w = some z := hk
    unfold f_X4_stepOverNumber_b5 at hk
    show G 5 [(0, .ref 26)] [] w
    refine k_aload_n (pc := 5) h 0 dX4_stepOverNumber_5 rfl ?_
    refine k_geti (pc := 6) h fl_X4_26 ly_26 rfl dX4_stepOverNumber_6 ?_
    refine k_aload_n (pc := 9) h 0 dX4_stepOverNumber_9 rfl ?_
    refine k_geti (pc := 10) h fl_X4_22 ly_26 rfl dX4_stepOverNumber_10 ?_
    refine k_icmp_ge (tgt := 68) (pc := 13) h dX4_stepOverNumber_13 rfl hk (fun hc hk => ?_) (fun hc hk => ?_)
    · have hk := Option.some.inj hk
      subst hk
      exact hz
    · refine k_aload_n (pc := 16) h 0 dX4_stepOverNumber_16 rfl ?_
      refine k_getr (pc := 17) h fl_X4_9 ly_26 rfl dX4_stepOverNumber_17 ?_
      refine k_aload_n (pc := 20) h 0 dX4_stepOverNumber_20 rfl ?_
      refine k_geti (pc := 21) h fl_X4_26 ly_26 rfl dX4_stepOverNumber_21 ?_
      refine k_bald (pc := 24) h ly_27 dX4_stepOverNumber_24 hk (fun hk => ?_)
      obtain ⟨p3, hc2, hk⟩ := bd_some hk
      refine k_callS1 (pc := 25) h (c_X4_isFigure hc2) cw_X4_83 ⟨⟨by decide, by decide⟩, Nat.zero_le _, Nat.zero_le _⟩ rfl (Nat.le_of_ble_eq_true rfl) dX4_stepOverNumber_25 ?_
      refine k_if_eq (tgt := 68) (pc := 28) h dX4_stepOverNumber_28 rfl hk (fun hc hk => ?_) (fun hc hk => ?_)
      · have hk := Option.some.inj hk
        subst hk
        exact hz
      · refine k_aload_n (pc := 31) h 0 dX4_stepOverNumber_31 rfl ?_
        refine k_aload_n (pc := 32) h 0 dX4_stepOverNumber_32 rfl ?_
        refine k_geti (pc := 33) h fl_X4_52 ly_26 rfl dX4_stepOverNumber_33 ?_
        refine k_bipush (pc := 36) h (x := (10 : Int32)) dX4_stepOverNumber_36 (by decide) ?_
        refine k_imul (pc := 38) h dX4_stepOverNumber_38 ?_
        refine k_aload_n (pc := 39) h 0 dX4_stepOverNumber_39 rfl ?_
        refine k_getr (pc := 40) h fl_X4_9 ly_26 rfl dX4_stepOverNumber_40 ?_
        refine k_aload_n (pc := 43) h 0 dX4_stepOverNumber_43 rfl ?_
        refine k_geti (pc := 44) h fl_X4_26 ly_26 rfl dX4_stepOverNumber_44 ?_
        refine k_bald (pc := 47) h ly_27 dX4_stepOverNumber_47 hk (fun hk => ?_)
        refine k_iadd (pc := 48) h dX4_stepOverNumber_48 ?_
        refine k_bipush (pc := 49) h (x := (48 : Int32)) dX4_stepOverNumber_49 (by decide) ?_
        refine k_isub (pc := 51) h dX4_stepOverNumber_51 ?_
        refine k_puti (pc := 52) h fl_X4_52 ly_26 rfl dX4_stepOverNumber_52 hk (fun u4 hk => ?_)
        refine k_aload_n (pc := 55) h 0 dX4_stepOverNumber_55 rfl ?_
        refine k_dup (pc := 56) h dX4_stepOverNumber_56 rfl ?_
        refine k_geti (pc := 57) h fl_X4_26 ly_26 rfl dX4_stepOverNumber_57 ?_
        refine k_iconst (pc := 60) h (x := (1 : Int32)) dX4_stepOverNumber_60 (by decide) ?_
        refine k_iadd (pc := 61) h dX4_stepOverNumber_61 ?_
        refine k_puti (pc := 62) h fl_X4_26 ly_26 rfl dX4_stepOverNumber_62 hk (fun u5 hk => ?_)
        refine k_goto (tgt := 5) (pc := 65) h dX4_stepOverNumber_65 rfl ?_
        have hk := Option.some.inj hk
        subst hk
        exact hz
  have EJ88 : ∀ (w : WW) (s0 : Int32), f_X4_stepOverNumber_j88 w s0 = some z → G 88 [] [.int s0, .ref 26] w := by
    intro w s0 hk
    unfold f_X4_stepOverNumber_j88 at hk
    refine k_puti (pc := 88) h fl_X4_36 ly_26 rfl dX4_stepOverNumber_88 hk (fun u8 hk => ?_)
    have hk := Option.some.inj hk
    subst hk
    exact k_vret (pc := 91) h dX4_stepOverNumber_91 ⟨rfl, rfl, rfl, rfl, rfl, rfl⟩
  refine k_aload_n (pc := 0) h 0 dX4_stepOverNumber_0 rfl ?_
  refine k_iconst (pc := 1) h (x := (0 : Int32)) dX4_stepOverNumber_1 (by decide) ?_
  refine k_puti (pc := 2) h fl_X4_52 ly_26 rfl dX4_stepOverNumber_2 hk (fun u1 hk => ?_)
  obtain ⟨r6, hl7, hk⟩ := bd_some hk
  refine LB5 _ _ _ hl7 ?_
  show G 68 [(0, .ref 26)] [] r6
  refine k_aload_n (pc := 68) h 0 dX4_stepOverNumber_68 rfl ?_
  refine k_aload_n (pc := 69) h 0 dX4_stepOverNumber_69 rfl ?_
  refine k_geti (pc := 70) h fl_X4_26 ly_26 rfl dX4_stepOverNumber_70 ?_
  refine k_aload_n (pc := 73) h 0 dX4_stepOverNumber_73 rfl ?_
  refine k_geti (pc := 74) h fl_X4_80 ly_26 rfl dX4_stepOverNumber_74 ?_
  refine k_isub (pc := 77) h dX4_stepOverNumber_77 ?_
  refine k_iconst (pc := 78) h (x := (2 : Int32)) dX4_stepOverNumber_78 (by decide) ?_
  refine k_icmp_gt (tgt := 86) (pc := 79) h dX4_stepOverNumber_79 rfl hk (fun hc hk => ?_) (fun hc hk => ?_)
  · refine k_bipush (pc := 86) h (x := (6 : Int32)) dX4_stepOverNumber_86 (by decide) ?_
    refine k_sub h [] (lv' := []) rfl ?_
    exact EJ88 _ _ hk
  · refine k_iconst (pc := 82) h (x := (1 : Int32)) dX4_stepOverNumber_82 (by decide) ?_
    refine k_goto (tgt := 88) (pc := 83) h dX4_stepOverNumber_83 rfl ?_
    refine k_sub h [] (lv' := []) rfl ?_
    exact EJ88 _ _ hk
def f_X6_greatestPart_j46 (b : Nat) (w : WW) (l1 : Int32) (l2 : Int32) (l3 : Int32) (l4 : Int32) : Option ((Int32 × Int32) ⊕ (Int32)) := some (.inl (l3, (l4 + (1 : Int32))))
def f_X6_greatestPart_b5 (b : Nat) (w : WW) (l1 : Int32) (l2 : Int32) (l3 : Int32) (l4 : Int32) : Option ((Int32 × Int32) ⊕ (Int32)) := if (w.1 b 0) ≤ l4 then some (.inr l3) else if ((shr32 l2 l4) &&& (1 : Int32)) = (1 : Int32) then gd (inb ((l1 * (16 : Int32)) + l4) 112) ((f_J6_bitCount_0f7a4 w (l2 &&& (w.1 (b + 5) (((l1 * (16 : Int32)) + l4)).toNatClampNeg))).bind (fun p2 => (f_J9_max_7cf53 w l3 p2).bind (fun p4 => f_X6_greatestPart_j46 b w l1 l2 p4 l4))) else f_X6_greatestPart_j46 b w l1 l2 l3 l4
def f_X6_greatestPart (b : Nat) (w : WW) (l1 : Int32) (l2 : Int32) : Option (Int32) := (lpf (fun s : Int32 × Int32 => f_X6_greatestPart_b5 b w l1 l2 s.1 s.2) FU ((0 : Int32), (0 : Int32))).bind (fun r5 => some (r5))
set_option maxRecDepth 20000 in
set_option maxHeartbeats 4000000 in
theorem c_X6_greatestPart {lay : List LyS} {b : Nat} (hb : StAt lay b) {w : WW} {l1 : Int32} {l2 : Int32} {z : Int32} (hk : f_X6_greatestPart b w l1 l2 = some z) : Cn 1 yX6_greatestPart cX6_greatestPart 5 (some .int) lay [.ref b, .int l1, .int l2] w (some (.int z)) w := by
  refine Cn.of (by decide +kernel) (Nat.le_of_ble_eq_true rfl) (fun G h => ?_)
  have h : Rules cX6_greatestPart RX6 "greatestPart" 5 (rmd 1 0 0) none _ _ lay 0 0 G := h
  show G 0 [(0, .ref b), (1, .int l1), (2, .int l2)] [] w
  unfold f_X6_greatestPart at hk
  have EJ46 : ∀ (l1 : Int32) (l2 : Int32) (l3 : Int32) (l4 : Int32) (z : (Int32 × Int32) ⊕ (Int32)), f_X6_greatestPart_j46 b w l1 l2 l3 l4 = some z → Sum.elim (fun s : Int32 × Int32 => G 5 [(0, .ref b), (1, .int l1), (2, .int l2), (3, .int s.1), (4, .int s.2)] [] w) (fun r : Int32 => G 52 [(3, .int r)] [] w) z → G 46 [(0, .ref b), (1, .int l1), (2, .int l2), (3, .int l3), (4, .int l4)] [] w := by
    intro l1 l2 l3 l4 z hk hz
    unfold f_X6_greatestPart_j46 at hk
    refine k_iinc (pc := 46) h 4 [1, 2, 3, 4, 0] (v := (l4 + (1 : Int32))) (lv' := [(0, .ref b), (1, .int l1), (2, .int l2), (3, .int l3), (4, .int (l4 + (1 : Int32)))]) dX6_greatestPart_46 rfl rfl (by decide) rfl ?_
    refine k_goto (tgt := 5) (pc := 49) h dX6_greatestPart_49 rfl ?_
    have hk := Option.some.inj hk
    subst hk
    exact hz
  have LB5 : ∀ (l1 : Int32) (l2 : Int32), ∀ (nn : Nat) (s : Int32 × Int32) (r : Int32), lpf (fun s : Int32 × Int32 => f_X6_greatestPart_b5 b w l1 l2 s.1 s.2) nn s = some r → (fun r : Int32 => G 52 [(3, .int r)] [] w) r → (fun s : Int32 × Int32 => G 5 [(0, .ref b), (1, .int l1), (2, .int l2), (3, .int s.1), (4, .int s.2)] [] w) s := by
    intro l1 l2
    refine lpf_ind (fun s : Int32 × Int32 => G 5 [(0, .ref b), (1, .int l1), (2, .int l2), (3, .int s.1), (4, .int s.2)] [] w) (fun r : Int32 => G 52 [(3, .int r)] [] w) ?_
    rintro ⟨l3, l4⟩ z hk hz
    have hk : f_X6_greatestPart_b5 b w l1 l2 l3 l4 = some z := hk
    unfold f_X6_greatestPart_b5 at hk
    show G 5 [(0, .ref b), (1, .int l1), (2, .int l2), (3, .int l3), (4, .int l4)] [] w
    refine k_iload (pc := 5) h 4 dX6_greatestPart_5 rfl ?_
    refine k_aload_n (pc := 7) h 0 dX6_greatestPart_7 rfl ?_
    refine k_geti (pc := 8) h fl_X6_37 hb.1 rfl dX6_greatestPart_8 ?_
    refine k_icmp_ge (tgt := 52) (pc := 11) h dX6_greatestPart_11 rfl hk (fun hc hk => ?_) (fun hc hk => ?_)
    · refine k_sub h [3] (lv' := [(3, .int l3)]) rfl ?_
      have hk := Option.some.inj hk
      subst hk
      exact hz
    · refine k_iload_n (pc := 14) h 2 dX6_greatestPart_14 rfl ?_
      refine k_iload (pc := 15) h 4 dX6_greatestPart_15 rfl ?_
      refine k_ishr (pc := 17) h dX6_greatestPart_17 ?_
      refine k_iconst (pc := 18) h (x := (1 : Int32)) dX6_greatestPart_18 (by decide) ?_
      refine k_iand (pc := 19) h dX6_greatestPart_19 ?_
      refine k_iconst (pc := 20) h (x := (1 : Int32)) dX6_greatestPart_20 (by decide) ?_
      refine k_icmp_ne (tgt := 46) (pc := 21) h dX6_greatestPart_21 rfl hk (fun hc hk => ?_) (fun hc hk => ?_)
      · exact EJ46 _ _ _ _ _ hk hz
      · refine k_iload_n (pc := 24) h 3 dX6_greatestPart_24 rfl ?_
        refine k_iload_n (pc := 25) h 2 dX6_greatestPart_25 rfl ?_
        refine k_aload_n (pc := 26) h 0 dX6_greatestPart_26 rfl ?_
        refine k_getr (pc := 27) h fl_X6_24 hb.1 rfl dX6_greatestPart_27 ?_
        refine k_iload_n (pc := 30) h 1 dX6_greatestPart_30 rfl ?_
        refine k_bipush (pc := 31) h (x := (16 : Int32)) dX6_greatestPart_31 (by decide) ?_
        refine k_imul (pc := 33) h dX6_greatestPart_33 ?_
        refine k_iload (pc := 34) h 4 dX6_greatestPart_34 rfl ?_
        refine k_iadd (pc := 36) h dX6_greatestPart_36 ?_
        refine k_iald (pc := 37) h hb.2.2.2.2.2.1 dX6_greatestPart_37 hk (fun hk => ?_)
        refine k_iand (pc := 38) h dX6_greatestPart_38 ?_
        obtain ⟨p2, hc1, hk⟩ := bd_some hk
        refine k_callS1 (pc := 39) h (c_J6_bitCount_0f7a4 hc1) cw_X6_80 ⟨⟨by decide, by decide⟩, Nat.zero_le _, Nat.zero_le _⟩ rfl (Nat.le_of_ble_eq_true rfl) dX6_greatestPart_39 ?_
        obtain ⟨p4, hc3, hk⟩ := bd_some hk
        refine k_callS1 (pc := 42) h (c_J9_max_7cf53 hc3) cw_X6_71 ⟨⟨by decide, by decide⟩, Nat.zero_le _, Nat.zero_le _⟩ rfl (Nat.le_of_ble_eq_true rfl) dX6_greatestPart_42 ?_
        refine k_istore_n (pc := 45) h [1, 2, 3, 0, 4] (lv' := [(0, .ref b), (1, .int l1), (2, .int l2), (3, .int p4), (4, .int l4)]) dX6_greatestPart_45 rfl (by decide) rfl ?_
        exact EJ46 _ _ _ _ _ hk hz
  refine k_iconst (pc := 0) h (x := (0 : Int32)) dX6_greatestPart_0 (by decide) ?_
  refine k_istore_n (pc := 1) h [1, 2, 3, 0] (lv' := [(0, .ref b), (1, .int l1), (2, .int l2), (3, .int (0 : Int32))]) dX6_greatestPart_1 rfl (by decide) rfl ?_
  refine k_iconst (pc := 2) h (x := (0 : Int32)) dX6_greatestPart_2 (by decide) ?_
  refine k_istore (pc := 3) h [1, 2, 3, 4, 0] (lv' := [(0, .ref b), (1, .int l1), (2, .int l2), (3, .int (0 : Int32)), (4, .int (0 : Int32))]) dX6_greatestPart_3 (by decide) rfl ?_
  obtain ⟨r5, hl6, hk⟩ := bd_some hk
  refine LB5 _ _ _ _ _ hl6 ?_
  show G 52 [(3, .int r5)] [] w
  refine k_iload_n (pc := 52) h 0 dX6_greatestPart_52 rfl ?_
  have hk := Option.some.inj hk
  subst hk
  exact k_iret (pc := 53) h dX6_greatestPart_53 ⟨rfl, rfl, rfl, rfl, rfl, ⟨.int, rfl, rfl⟩⟩
def f_X6_lightestPart_j81 (b : Nat) (w : WW) (l1 : Int32) (l3 : Int32) (l4 : Int32) (l5 : Int32) : Option ((Int32 × Int32 × Int32) ⊕ (Int32)) := some (.inl (l3, l4, (l5 + (1 : Int32))))
def f_X6_lightestPart_j62 (b : Nat) (w : WW) (l1 : Int32) (l3 : Int32) (l4 : Int32) (l5 : Int32) : Option ((Int32 × Int32 × Int32) ⊕ (Int32)) := gd (inb ((l1 * (16 : Int32)) + l5) 112) (nmv (l4 &&& ((w.1 (b + 5) (((l1 * (16 : Int32)) + l5)).toNatClampNeg) ^^^ (-1 : Int32))) (fun v3 => f_X6_lightestPart_j81 b w l1 l3 v3 l5))
def f_X6_lightestPart_j59 (b : Nat) (w : WW) (l1 : Int32) (l4 : Int32) (l5 : Int32) (l6 : Int32) : Option ((Int32 × Int32 × Int32) ⊕ (Int32)) := f_X6_lightestPart_j62 b w l1 l6 l4 l5
def f_X6_lightestPart_b8 (b : Nat) (w : WW) (l1 : Int32) (l3 : Int32) (l4 : Int32) (l5 : Int32) : Option ((Int32 × Int32 × Int32) ⊕ (Int32)) := if (w.1 b 0) ≤ l5 then some (.inr l3) else if ((shr32 l4 l5) &&& (1 : Int32)) = (1 : Int32) then gd (inb ((l1 * (16 : Int32)) + l5) 112) ((f_X6_weightOf b w (l4 &&& (w.1 (b + 5) (((l1 * (16 : Int32)) + l5)).toNatClampNeg))).bind (fun p2 => if l3 = 0 then f_X6_lightestPart_j59 b w l1 l4 l5 p2 else if l3 ≤ p2 then f_X6_lightestPart_j62 b w l1 l3 l4 l5 else f_X6_lightestPart_j59 b w l1 l4 l5 p2)) else f_X6_lightestPart_j81 b w l1 l3 l4 l5
def f_X6_lightestPart (b : Nat) (w : WW) (l1 : Int32) (l2 : Int32) : Option (Int32) := (lpf (fun s : Int32 × Int32 × Int32 => f_X6_lightestPart_b8 b w l1 s.1 s.2.1 s.2.2) FU ((0 : Int32), l2, (0 : Int32))).bind (fun r4 => some (r4))
set_option maxRecDepth 20000 in
set_option maxHeartbeats 4000000 in
theorem c_X6_lightestPart {lay : List LyS} {b : Nat} (hb : StAt lay b) {w : WW} {l1 : Int32} {l2 : Int32} {z : Int32} (hk : f_X6_lightestPart b w l1 l2 = some z) : Cn 1 yX6_lightestPart cX6_lightestPart 7 (some .int) lay [.ref b, .int l1, .int l2] w (some (.int z)) w := by
  refine Cn.of (by decide +kernel) (Nat.le_of_ble_eq_true rfl) (fun G h => ?_)
  have h : Rules cX6_lightestPart RX6 "lightestPart" 7 (rmd 1 0 0) none _ _ lay 0 0 G := h
  show G 0 [(0, .ref b), (1, .int l1), (2, .int l2)] [] w
  unfold f_X6_lightestPart at hk
  have EJ81 : ∀ (l1 : Int32) (l3 : Int32) (l4 : Int32) (l5 : Int32) (z : (Int32 × Int32 × Int32) ⊕ (Int32)), f_X6_lightestPart_j81 b w l1 l3 l4 l5 = some z → Sum.elim (fun s : Int32 × Int32 × Int32 => G 8 [(0, .ref b), (1, .int l1), (3, .int s.1), (4, .int s.2.1), (5, .int s.2.2)] [] w) (fun r : Int32 => G 87 [(3, .int r)] [] w) z → G 81 [(0, .ref b), (1, .int l1), (3, .int l3), (4, .int l4), (5, .int l5)] [] w := by
    intro l1 l3 l4 l5 z hk hz
    unfold f_X6_lightestPart_j81 at hk
    refine k_iinc (pc := 81) h 4 [1, 2, 3, 4, 0] (v := (l5 + (1 : Int32))) (lv' := [(0, .ref b), (1, .int l1), (3, .int l3), (4, .int l4), (5, .int (l5 + (1 : Int32)))]) dX6_lightestPart_81 rfl rfl (by decide) rfl ?_
    refine k_goto (tgt := 8) (pc := 84) h dX6_lightestPart_84 rfl ?_
    have hk := Option.some.inj hk
    subst hk
    exact hz
  have EJ62 : ∀ (l1 : Int32) (l3 : Int32) (l4 : Int32) (l5 : Int32) (z : (Int32 × Int32 × Int32) ⊕ (Int32)), f_X6_lightestPart_j62 b w l1 l3 l4 l5 = some z → Sum.elim (fun s : Int32 × Int32 × Int32 => G 8 [(0, .ref b), (1, .int l1), (3, .int s.1), (4, .int s.2.1), (5, .int s.2.2)] [] w) (fun r : Int32 => G 87 [(3, .int r)] [] w) z → G 62 [(0, .ref b), (1, .int l1), (3, .int l3), (4, .int l4), (5, .int l5)] [] w := by
    intro l1 l3 l4 l5 z hk hz
    unfold f_X6_lightestPart_j62 at hk
    refine k_iload (pc := 62) h 3 dX6_lightestPart_62 rfl ?_
    refine k_aload_n (pc := 64) h 0 dX6_lightestPart_64 rfl ?_
    refine k_getr (pc := 65) h fl_X6_24 hb.1 rfl dX6_lightestPart_65 ?_
    refine k_iload_n (pc := 68) h 1 dX6_lightestPart_68 rfl ?_
    refine k_bipush (pc := 69) h (x := (16 : Int32)) dX6_lightestPart_69 (by decide) ?_
    refine k_imul (pc := 71) h dX6_lightestPart_71 ?_
    refine k_iload (pc := 72) h 4 dX6_lightestPart_72 rfl ?_
    refine k_iadd (pc := 74) h dX6_lightestPart_74 ?_
    refine k_iald (pc := 75) h hb.2.2.2.2.2.1 dX6_lightestPart_75 hk (fun hk => ?_)
    refine k_iconst (pc := 76) h (x := (-1 : Int32)) dX6_lightestPart_76 (by decide) ?_
    refine k_ixor (pc := 77) h dX6_lightestPart_77 ?_
    refine k_iand (pc := 78) h dX6_lightestPart_78 ?_
    refine k_nmi (pc := 79) h hk (fun v3 hk => ?_)
    refine k_istore (pc := 79) h [1, 2, 3, 0, 4] (lv' := [(0, .ref b), (1, .int l1), (3, .int l3), (4, .int v3), (5, .int l5)]) dX6_lightestPart_79 (by decide) rfl ?_
    exact EJ81 _ _ _ _ _ hk hz
  have EJ59 : ∀ (l1 : Int32) (l4 : Int32) (l5 : Int32) (l6 : Int32) (z : (Int32 × Int32 × Int32) ⊕ (Int32)), f_X6_lightestPart_j59 b w l1 l4 l5 l6 = some z → Sum.elim (fun s : Int32 × Int32 × Int32 => G 8 [(0, .ref b), (1, .int l1), (3, .int s.1), (4, .int s.2.1), (5, .int s.2.2)] [] w) (fun r : Int32 => G 87 [(3, .int r)] [] w) z → G 59 [(0, .ref b), (1, .int l1), (4, .int l4), (5, .int l5), (6, .int l6)] [] w := by
    intro l1 l4 l5 l6 z hk hz
    unfold f_X6_lightestPart_j59 at hk
    refine k_iload (pc := 59) h 4 dX6_lightestPart_59 rfl ?_
    refine k_istore_n (pc := 61) h [1, 2, 0, 3, 4, 5] (lv' := [(0, .ref b), (1, .int l1), (3, .int l6), (4, .int l4), (5, .int l5), (6, .int l6)]) dX6_lightestPart_61 rfl (by decide) rfl ?_
    refine k_sub h [0, 1, 2, 3, 4] (lv' := [(0, .ref b), (1, .int l1), (3, .int l6), (4, .int l4), (5, .int l5)]) rfl ?_
    exact EJ62 _ _ _ _ _ hk hz
  have LB8 : ∀ (l1 : Int32), ∀ (nn : Nat) (s : Int32 × Int32 × Int32) (r : Int32), lpf (fun s : Int32 × Int32 × Int32 => f_X6_lightestPart_b8 b w l1 s.1 s.2.1 s.2.2) nn s = some r → (fun r : Int32 => G 87 [(3, .int r)] [] w) r → (fun s : Int32 × Int32 × Int32 => G 8 [(0, .ref b), (1, .int l1), (3, .int s.1), (4, .int s.2.1), (5, .int s.2.2)] [] w) s := by
    intro l1
    refine lpf_ind (fun s : Int32 × Int32 × Int32 => G 8 [(0, .ref b), (1, .int l1), (3, .int s.1), (4, .int s.2.1), (5, .int s.2.2)] [] w) (fun r : Int32 => G 87 [(3, .int r)] [] w) ?_
    rintro ⟨l3, l4, l5⟩ z hk hz
    have hk : f_X6_lightestPart_b8 b w l1 l3 l4 l5 = some z := hk
    unfold f_X6_lightestPart_b8 at hk
    show G 8 [(0, .ref b), (1, .int l1), (3, .int l3), (4, .int l4), (5, .int l5)] [] w
    refine k_iload (pc := 8) h 4 dX6_lightestPart_8 rfl ?_
    refine k_aload_n (pc := 10) h 0 dX6_lightestPart_10 rfl ?_
    refine k_geti (pc := 11) h fl_X6_37 hb.1 rfl dX6_lightestPart_11 ?_
    refine k_icmp_ge (tgt := 87) (pc := 14) h dX6_lightestPart_14 rfl hk (fun hc hk => ?_) (fun hc hk => ?_)
    · refine k_sub h [2] (lv' := [(3, .int l3)]) rfl ?_
      have hk := Option.some.inj hk
      subst hk
      exact hz
    · refine k_iload (pc := 17) h 3 dX6_lightestPart_17 rfl ?_
      refine k_iload (pc := 19) h 4 dX6_lightestPart_19 rfl ?_
      refine k_ishr (pc := 21) h dX6_lightestPart_21 ?_
      refine k_iconst (pc := 22) h (x := (1 : Int32)) dX6_lightestPart_22 (by decide) ?_
      refine k_iand (pc := 23) h dX6_lightestPart_23 ?_
      refine k_iconst (pc := 24) h (x := (1 : Int32)) dX6_lightestPart_24 (by decide) ?_
      refine k_icmp_ne (tgt := 81) (pc := 25) h dX6_lightestPart_25 rfl hk (fun hc hk => ?_) (fun hc hk => ?_)
      · exact EJ81 _ _ _ _ _ hk hz
      · refine k_aload_n (pc := 28) h 0 dX6_lightestPart_28 rfl ?_
        refine k_iload (pc := 29) h 3 dX6_lightestPart_29 rfl ?_
        refine k_aload_n (pc := 31) h 0 dX6_lightestPart_31 rfl ?_
        refine k_getr (pc := 32) h fl_X6_24 hb.1 rfl dX6_lightestPart_32 ?_
        refine k_iload_n (pc := 35) h 1 dX6_lightestPart_35 rfl ?_
        refine k_bipush (pc := 36) h (x := (16 : Int32)) dX6_lightestPart_36 (by decide) ?_
        refine k_imul (pc := 38) h dX6_lightestPart_38 ?_
        refine k_iload (pc := 39) h 4 dX6_lightestPart_39 rfl ?_
        refine k_iadd (pc := 41) h dX6_lightestPart_41 ?_
        refine k_iald (pc := 42) h hb.2.2.2.2.2.1 dX6_lightestPart_42 hk (fun hk => ?_)
        refine k_iand (pc := 43) h dX6_lightestPart_43 ?_
        obtain ⟨p2, hc1, hk⟩ := bd_some hk
        refine k_callV1 (pc := 44) h (c_X6_weightOf hb hc1) cw_X6_85 hb.1 rfl ⟨⟨by decide, by decide⟩, Nat.zero_le _, Nat.zero_le _⟩ rfl (Nat.le_of_ble_eq_true rfl) dX6_lightestPart_44 ?_
        refine k_istore (pc := 47) h [1, 2, 3, 4, 5, 0] (lv' := [(0, .ref b), (1, .int l1), (3, .int l3), (4, .int l4), (5, .int l5), (6, .int p2)]) dX6_lightestPart_47 (by decide) rfl ?_
        refine k_iload_n (pc := 49) h 2 dX6_lightestPart_49 rfl ?_
        refine k_if_eq (tgt := 59) (pc := 50) h dX6_lightestPart_50 rfl hk (fun hc hk => ?_) (fun hc hk => ?_)
        · refine k_sub h [0, 1, 3, 4, 5] (lv' := [(0, .ref b), (1, .int l1), (4, .int l4), (5, .int l5), (6, .int p2)]) rfl ?_
          exact EJ59 _ _ _ _ _ hk hz
        · refine k_iload (pc := 53) h 5 dX6_lightestPart_53 rfl ?_
          refine k_iload_n (pc := 55) h 2 dX6_lightestPart_55 rfl ?_
          refine k_icmp_ge (tgt := 62) (pc := 56) h dX6_lightestPart_56 rfl hk (fun hc hk => ?_) (fun hc hk => ?_)
          · refine k_sub h [0, 1, 2, 3, 4] (lv' := [(0, .ref b), (1, .int l1), (3, .int l3), (4, .int l4), (5, .int l5)]) rfl ?_
            exact EJ62 _ _ _ _ _ hk hz
          · refine k_sub h [0, 1, 3, 4, 5] (lv' := [(0, .ref b), (1, .int l1), (4, .int l4), (5, .int l5), (6, .int p2)]) rfl ?_
            exact EJ59 _ _ _ _ _ hk hz
  refine k_iconst (pc := 0) h (x := (0 : Int32)) dX6_lightestPart_0 (by decide) ?_
  refine k_istore_n (pc := 1) h [1, 2, 3, 0] (lv' := [(0, .ref b), (1, .int l1), (2, .int l2), (3, .int (0 : Int32))]) dX6_lightestPart_1 rfl (by decide) rfl ?_
  refine k_iload_n (pc := 2) h 2 dX6_lightestPart_2 rfl ?_
  refine k_istore (pc := 3) h [1, 2, 3, 4, 0] (lv' := [(0, .ref b), (1, .int l1), (2, .int l2), (3, .int (0 : Int32)), (4, .int l2)]) dX6_lightestPart_3 (by decide) rfl ?_
  refine k_iconst (pc := 5) h (x := (0 : Int32)) dX6_lightestPart_5 (by decide) ?_
  refine k_istore (pc := 6) h [1, 2, 3, 4, 5, 0] (lv' := [(0, .ref b), (1, .int l1), (2, .int l2), (3, .int (0 : Int32)), (4, .int l2), (5, .int (0 : Int32))]) dX6_lightestPart_6 (by decide) rfl ?_
  refine k_sub h [0, 1, 3, 4, 5] (lv' := [(0, .ref b), (1, .int l1), (3, .int (0 : Int32)), (4, .int l2), (5, .int (0 : Int32))]) rfl ?_
  obtain ⟨r4, hl5, hk⟩ := bd_some hk
  refine LB8 _ _ _ _ hl5 ?_
  show G 87 [(3, .int r4)] [] w
  refine k_iload_n (pc := 87) h 0 dX6_lightestPart_87 rfl ?_
  have hk := Option.some.inj hk
  subst hk
  exact k_iret (pc := 88) h dX6_lightestPart_88 ⟨rfl, rfl, rfl, rfl, rfl, ⟨.int, rfl, rfl⟩⟩
def f_X6_notYetKnown_j46 (b : Nat) (w : WW) (l1 : Int32) (l2 : Int32) (l3 : Int32) (l4 : Int32) : Option ((Int32 × Int32) ⊕ (Int32)) := some (.inl (l3, (l4 + (1 : Int32))))
def f_X6_notYetKnown_b5 (b : Nat) (w : WW) (l1 : Int32) (l2 : Int32) (l3 : Int32) (l4 : Int32) : Option ((Int32 × Int32) ⊕ (Int32)) := if (w.1 b 0) ≤ l4 then some (.inr l3) else if ((shr32 l2 l4) &&& (1 : Int32)) = (1 : Int32) then (f_X6_behind b w l1 l4 l2).bind (fun p2 => if p2 = (shl32 (1 : Int32) l4) then f_X6_notYetKnown_j46 b w l1 l2 l3 l4 else nmv (l3 ||| (shl32 (1 : Int32) l4)) (fun v3 => f_X6_notYetKnown_j46 b w l1 l2 v3 l4)) else f_X6_notYetKnown_j46 b w l1 l2 l3 l4
def f_X6_notYetKnown (b : Nat) (w : WW) (l1 : Int32) (l2 : Int32) : Option (Int32) := (lpf (fun s : Int32 × Int32 => f_X6_notYetKnown_b5 b w l1 l2 s.1 s.2) FU ((0 : Int32), (0 : Int32))).bind (fun r4 => some (r4))
set_option maxRecDepth 20000 in
set_option maxHeartbeats 4000000 in
theorem c_X6_notYetKnown {lay : List LyS} {b : Nat} (hb : StAt lay b) {w : WW} {l1 : Int32} {l2 : Int32} {z : Int32} (hk : f_X6_notYetKnown b w l1 l2 = some z) : Cn 1 yX6_notYetKnown cX6_notYetKnown 5 (some .int) lay [.ref b, .int l1, .int l2] w (some (.int z)) w := by
  refine Cn.of (by decide +kernel) (Nat.le_of_ble_eq_true rfl) (fun G h => ?_)
  have h : Rules cX6_notYetKnown RX6 "notYetKnown" 5 (rmd 1 0 0) none _ _ lay 0 0 G := h
  show G 0 [(0, .ref b), (1, .int l1), (2, .int l2)] [] w
  unfold f_X6_notYetKnown at hk
  have EJ46 : ∀ (l1 : Int32) (l2 : Int32) (l3 : Int32) (l4 : Int32) (z : (Int32 × Int32) ⊕ (Int32)), f_X6_notYetKnown_j46 b w l1 l2 l3 l4 = some z → Sum.elim (fun s : Int32 × Int32 => G 5 [(0, .ref b), (1, .int l1), (2, .int l2), (3, .int s.1), (4, .int s.2)] [] w) (fun r : Int32 => G 52 [(3, .int r)] [] w) z → G 46 [(0, .ref b), (1, .int l1), (2, .int l2), (3, .int l3), (4, .int l4)] [] w := by
    intro l1 l2 l3 l4 z hk hz
    unfold f_X6_notYetKnown_j46 at hk
    refine k_iinc (pc := 46) h 4 [1, 2, 3, 4, 0] (v := (l4 + (1 : Int32))) (lv' := [(0, .ref b), (1, .int l1), (2, .int l2), (3, .int l3), (4, .int (l4 + (1 : Int32)))]) dX6_notYetKnown_46 rfl rfl (by decide) rfl ?_
    refine k_goto (tgt := 5) (pc := 49) h dX6_notYetKnown_49 rfl ?_
    have hk := Option.some.inj hk
    subst hk
    exact hz
  have LB5 : ∀ (l1 : Int32) (l2 : Int32), ∀ (nn : Nat) (s : Int32 × Int32) (r : Int32), lpf (fun s : Int32 × Int32 => f_X6_notYetKnown_b5 b w l1 l2 s.1 s.2) nn s = some r → (fun r : Int32 => G 52 [(3, .int r)] [] w) r → (fun s : Int32 × Int32 => G 5 [(0, .ref b), (1, .int l1), (2, .int l2), (3, .int s.1), (4, .int s.2)] [] w) s := by
    intro l1 l2
    refine lpf_ind (fun s : Int32 × Int32 => G 5 [(0, .ref b), (1, .int l1), (2, .int l2), (3, .int s.1), (4, .int s.2)] [] w) (fun r : Int32 => G 52 [(3, .int r)] [] w) ?_
    rintro ⟨l3, l4⟩ z hk hz
    have hk : f_X6_notYetKnown_b5 b w l1 l2 l3 l4 = some z := hk
    unfold f_X6_notYetKnown_b5 at hk
    show G 5 [(0, .ref b), (1, .int l1), (2, .int l2), (3, .int l3), (4, .int l4)] [] w
    refine k_iload (pc := 5) h 4 dX6_notYetKnown_5 rfl ?_
    refine k_aload_n (pc := 7) h 0 dX6_notYetKnown_7 rfl ?_
    refine k_geti (pc := 8) h fl_X6_37 hb.1 rfl dX6_notYetKnown_8 ?_
    refine k_icmp_ge (tgt := 52) (pc := 11) h dX6_notYetKnown_11 rfl hk (fun hc hk => ?_) (fun hc hk => ?_)
    · refine k_sub h [3] (lv' := [(3, .int l3)]) rfl ?_
      have hk := Option.some.inj hk
      subst hk
      exact hz
    · refine k_iload_n (pc := 14) h 2 dX6_notYetKnown_14 rfl ?_
      refine k_iload (pc := 15) h 4 dX6_notYetKnown_15 rfl ?_
      refine k_ishr (pc := 17) h dX6_notYetKnown_17 ?_
      refine k_iconst (pc := 18) h (x := (1 : Int32)) dX6_notYetKnown_18 (by decide) ?_
      refine k_iand (pc := 19) h dX6_notYetKnown_19 ?_
      refine k_iconst (pc := 20) h (x := (1 : Int32)) dX6_notYetKnown_20 (by decide) ?_
      refine k_icmp_ne (tgt := 46) (pc := 21) h dX6_notYetKnown_21 rfl hk (fun hc hk => ?_) (fun hc hk => ?_)
      · exact EJ46 _ _ _ _ _ hk hz
      · refine k_aload_n (pc := 24) h 0 dX6_notYetKnown_24 rfl ?_
        refine k_iload_n (pc := 25) h 1 dX6_notYetKnown_25 rfl ?_
        refine k_iload (pc := 26) h 4 dX6_notYetKnown_26 rfl ?_
        refine k_iload_n (pc := 28) h 2 dX6_notYetKnown_28 rfl ?_
        obtain ⟨p2, hc1, hk⟩ := bd_some hk
        refine k_callV1 (pc := 29) h (c_X6_behind hb hc1) cw_X6_88 hb.1 rfl ⟨⟨by decide, by decide⟩, Nat.zero_le _, Nat.zero_le _⟩ rfl (Nat.le_of_ble_eq_true rfl) dX6_notYetKnown_29 ?_
        refine k_iconst (pc := 32) h (x := (1 : Int32)) dX6_notYetKnown_32 (by decide) ?_
        refine k_iload (pc := 33) h 4 dX6_notYetKnown_33 rfl ?_
        refine k_ishl (pc := 35) h dX6_notYetKnown_35 ?_
        refine k_icmp_eq (tgt := 46) (pc := 36) h dX6_notYetKnown_36 rfl hk (fun hc hk => ?_) (fun hc hk => ?_)
        · exact EJ46 _ _ _ _ _ hk hz
        · refine k_iload_n (pc := 39) h 3 dX6_notYetKnown_39 rfl ?_
          refine k_iconst (pc := 40) h (x := (1 : Int32)) dX6_notYetKnown_40 (by decide) ?_
          refine k_iload (pc := 41) h 4 dX6_notYetKnown_41 rfl ?_
          refine k_ishl (pc := 43) h dX6_notYetKnown_43 ?_
          refine k_ior (pc := 44) h dX6_notYetKnown_44 ?_
          refine k_nmi (pc := 45) h hk (fun v3 hk => ?_)
          refine k_istore_n (pc := 45) h [1, 2, 3, 0, 4] (lv' := [(0, .ref b), (1, .int l1), (2, .int l2), (3, .int v3), (4, .int l4)]) dX6_notYetKnown_45 rfl (by decide) rfl ?_
          exact EJ46 _ _ _ _ _ hk hz
  refine k_iconst (pc := 0) h (x := (0 : Int32)) dX6_notYetKnown_0 (by decide) ?_
  refine k_istore_n (pc := 1) h [1, 2, 3, 0] (lv' := [(0, .ref b), (1, .int l1), (2, .int l2), (3, .int (0 : Int32))]) dX6_notYetKnown_1 rfl (by decide) rfl ?_
  refine k_iconst (pc := 2) h (x := (0 : Int32)) dX6_notYetKnown_2 (by decide) ?_
  refine k_istore (pc := 3) h [1, 2, 3, 4, 0] (lv' := [(0, .ref b), (1, .int l1), (2, .int l2), (3, .int (0 : Int32)), (4, .int (0 : Int32))]) dX6_notYetKnown_3 (by decide) rfl ?_
  obtain ⟨r4, hl5, hk⟩ := bd_some hk
  refine LB5 _ _ _ _ _ hl5 ?_
  show G 52 [(3, .int r4)] [] w
  refine k_iload_n (pc := 52) h 0 dX6_notYetKnown_52 rfl ?_
  have hk := Option.some.inj hk
  subst hk
  exact k_iret (pc := 53) h dX6_notYetKnown_53 ⟨rfl, rfl, rfl, rfl, rfl, ⟨.int, rfl, rfl⟩⟩
def f_X6_pairsParted_j42 (b : Nat) (w : WW) (l1 : Int32) (l2 : Int32) (l3 : Int32) (l4 : Int32) : Option ((Int32 × Int32) ⊕ (Int32)) := some (.inl (l3, (l4 + (1 : Int32))))
def f_X6_pairsParted_b5 (b : Nat) (w : WW) (l1 : Int32) (l2 : Int32) (l3 : Int32) (l4 : Int32) : Option ((Int32 × Int32) ⊕ (Int32)) := if (w.1 b 0) ≤ l4 then some (.inr l3) else if ((shr32 l2 l4) &&& (1 : Int32)) = (1 : Int32) then (f_X6_behind b w l1 l4 l2).bind (fun p2 => (f_J6_bitCount_0f7a4 w (l2 &&& (p2 ^^^ (-1 : Int32)))).bind (fun p4 => nmv (l3 + p4) (fun v5 => f_X6_pairsParted_j42 b w l1 l2 v5 l4))) else f_X6_pairsParted_j42 b w l1 l2 l3 l4
def f_X6_pairsParted (b : Nat) (w : WW) (l1 : Int32) (l2 : Int32) : Option (Int32) := (lpf (fun s : Int32 × Int32 => f_X6_pairsParted_b5 b w l1 l2 s.1 s.2) FU ((0 : Int32), (0 : Int32))).bind (fun r6 => gd (¬ (2 : Int32) = 0) (some ((r6 / (2 : Int32)))))
set_option maxRecDepth 20000 in
set_option maxHeartbeats 4000000 in
theorem c_X6_pairsParted {lay : List LyS} {b : Nat} (hb : StAt lay b) {w : WW} {l1 : Int32} {l2 : Int32} {z : Int32} (hk : f_X6_pairsParted b w l1 l2 = some z) : Cn 1 yX6_pairsParted cX6_pairsParted 5 (some .int) lay [.ref b, .int l1, .int l2] w (some (.int z)) w := by
  refine Cn.of (by decide +kernel) (Nat.le_of_ble_eq_true rfl) (fun G h => ?_)
  have h : Rules cX6_pairsParted RX6 "pairsParted" 5 (rmd 1 0 0) none _ _ lay 0 0 G := h
  show G 0 [(0, .ref b), (1, .int l1), (2, .int l2)] [] w
  unfold f_X6_pairsParted at hk
  have EJ42 : ∀ (l1 : Int32) (l2 : Int32) (l3 : Int32) (l4 : Int32) (z : (Int32 × Int32) ⊕ (Int32)), f_X6_pairsParted_j42 b w l1 l2 l3 l4 = some z → Sum.elim (fun s : Int32 × Int32 => G 5 [(0, .ref b), (1, .int l1), (2, .int l2), (3, .int s.1), (4, .int s.2)] [] w) (fun r : Int32 => G 48 [(3, .int r)] [] w) z → G 42 [(0, .ref b), (1, .int l1), (2, .int l2), (3, .int l3), (4, .int l4)] [] w := by
    intro l1 l2 l3 l4 z hk hz
    unfold f_X6_pairsParted_j42 at hk
    refine k_iinc (pc := 42) h 4 [1, 2, 3, 4, 0] (v := (l4 + (1 : Int32))) (lv' := [(0, .ref b), (1, .int l1), (2, .int l2), (3, .int l3), (4, .int (l4 + (1 : Int32)))]) dX6_pairsParted_42 rfl rfl (by decide) rfl ?_
    refine k_goto (tgt := 5) (pc := 45) h dX6_pairsParted_45 rfl ?_
    have hk := Option.some.inj hk
    subst hk
    exact hz
  have LB5 : ∀ (l1 : Int32) (l2 : Int32), ∀ (nn : Nat) (s : Int32 × Int32) (r : Int32), lpf (fun s : Int32 × Int32 => f_X6_pairsParted_b5 b w l1 l2 s.1 s.2) nn s = some r → (fun r : Int32 => G 48 [(3, .int r)] [] w) r → (fun s : Int32 × Int32 => G 5 [(0, .ref b), (1, .int l1), (2, .int l2), (3, .int s.1), (4, .int s.2)] [] w) s := by
    intro l1 l2
    refine lpf_ind (fun s : Int32 × Int32 => G 5 [(0, .ref b), (1, .int l1), (2, .int l2), (3, .int s.1), (4, .int s.2)] [] w) (fun r : Int32 => G 48 [(3, .int r)] [] w) ?_
    rintro ⟨l3, l4⟩ z hk hz
    have hk : f_X6_pairsParted_b5 b w l1 l2 l3 l4 = some z := hk
    unfold f_X6_pairsParted_b5 at hk
    show G 5 [(0, .ref b), (1, .int l1), (2, .int l2), (3, .int l3), (4, .int l4)] [] w
    refine k_iload (pc := 5) h 4 dX6_pairsParted_5 rfl ?_
    refine k_aload_n (pc := 7) h 0 dX6_pairsParted_7 rfl ?_
    refine k_geti (pc := 8) h fl_X6_37 hb.1 rfl dX6_pairsParted_8 ?_
    refine k_icmp_ge (tgt := 48) (pc := 11) h dX6_pairsParted_11 rfl hk (fun hc hk => ?_) (fun hc hk => ?_)
    · refine k_sub h [3] (lv' := [(3, .int l3)]) rfl ?_
      have hk := Option.some.inj hk
      subst hk
      exact hz
    · refine k_iload_n (pc := 14) h 2 dX6_pairsParted_14 rfl ?_
      refine k_iload (pc := 15) h 4 dX6_pairsParted_15 rfl ?_
      refine k_ishr (pc := 17) h dX6_pairsParted_17 ?_
      refine k_iconst (pc := 18) h (x := (1 : Int32)) dX6_pairsParted_18 (by decide) ?_
      refine k_iand (pc := 19) h dX6_pairsParted_19 ?_
      refine k_iconst (pc := 20) h (x := (1 : Int32)) dX6_pairsParted_20 (by decide) ?_
      refine k_icmp_ne (tgt := 42) (pc := 21) h dX6_pairsParted_21 rfl hk (fun hc hk => ?_) (fun hc hk => ?_)
      · exact EJ42 _ _ _ _ _ hk hz
      · refine k_iload_n (pc := 24) h 3 dX6_pairsParted_24 rfl ?_
        refine k_iload_n (pc := 25) h 2 dX6_pairsParted_25 rfl ?_
        refine k_aload_n (pc := 26) h 0 dX6_pairsParted_26 rfl ?_
        refine k_iload_n (pc := 27) h 1 dX6_pairsParted_27 rfl ?_
        refine k_iload (pc := 28) h 4 dX6_pairsParted_28 rfl ?_
        refine k_iload_n (pc := 30) h 2 dX6_pairsParted_30 rfl ?_
        obtain ⟨p2, hc1, hk⟩ := bd_some hk
        refine k_callV1 (pc := 31) h (c_X6_behind hb hc1) cw_X6_88 hb.1 rfl ⟨⟨by decide, by decide⟩, Nat.zero_le _, Nat.zero_le _⟩ rfl (Nat.le_of_ble_eq_true rfl) dX6_pairsParted_31 ?_
        refine k_iconst (pc := 34) h (x := (-1 : Int32)) dX6_pairsParted_34 (by decide) ?_
        refine k_ixor (pc := 35) h dX6_pairsParted_35 ?_
        refine k_iand (pc := 36) h dX6_pairsParted_36 ?_
        obtain ⟨p4, hc3, hk⟩ := bd_some hk
        refine k_callS1 (pc := 37) h (c_J6_bitCount_0f7a4 hc3) cw_X6_80 ⟨⟨by decide, by decide⟩, Nat.zero_le _, Nat.zero_le _⟩ rfl (Nat.le_of_ble_eq_true rfl) dX6_pairsParted_37 ?_
        refine k_iadd (pc := 40) h dX6_pairsParted_40 ?_
        refine k_nmi (pc := 41) h hk (fun v5 hk => ?_)
        refine k_istore_n (pc := 41) h [1, 2, 3, 0, 4] (lv' := [(0, .ref b), (1, .int l1), (2, .int l2), (3, .int v5), (4, .int l4)]) dX6_pairsParted_41 rfl (by decide) rfl ?_
        exact EJ42 _ _ _ _ _ hk hz
  refine k_iconst (pc := 0) h (x := (0 : Int32)) dX6_pairsParted_0 (by decide) ?_
  refine k_istore_n (pc := 1) h [1, 2, 3, 0] (lv' := [(0, .ref b), (1, .int l1), (2, .int l2), (3, .int (0 : Int32))]) dX6_pairsParted_1 rfl (by decide) rfl ?_
  refine k_iconst (pc := 2) h (x := (0 : Int32)) dX6_pairsParted_2 (by decide) ?_
  refine k_istore (pc := 3) h [1, 2, 3, 4, 0] (lv' := [(0, .ref b), (1, .int l1), (2, .int l2), (3, .int (0 : Int32)), (4, .int (0 : Int32))]) dX6_pairsParted_3 (by decide) rfl ?_
  obtain ⟨r6, hl7, hk⟩ := bd_some hk
  refine LB5 _ _ _ _ _ hl7 ?_
  show G 48 [(3, .int r6)] [] w
  refine k_iload_n (pc := 48) h 0 dX6_pairsParted_48 rfl ?_
  refine k_iconst (pc := 49) h (x := (2 : Int32)) dX6_pairsParted_49 (by decide) ?_
  refine k_idiv (pc := 50) h dX6_pairsParted_50 hk (fun hk => ?_)
  have hk := Option.some.inj hk
  subst hk
  exact k_iret (pc := 51) h dX6_pairsParted_51 ⟨rfl, rfl, rfl, rfl, rfl, ⟨.int, rfl, rfl⟩⟩
def f_X6_remember_j30 (b : Nat) (w : WW) (l1 : Int32) : Option (WW) := gd (inb (w.1 b 3) 8) (stI w (b + 7) ((w.1 b 3)).toNatClampNeg l1 (fun u1 => stI u1 b 3 ((u1.1 b 3) + (1 : Int32)) (fun u2 => some u2)))
def f_X6_remember (b : Nat) (w : WW) (l1 : Int32) : Option (WW) := if (w.1 b 3) < (8 : Int32) then f_X6_remember_j30 b w l1 else gd (cpOk 8 8 (1 : Int32) (0 : Int32) (7 : Int32)) (stC w (b + 7) (b + 7) (1 : Int32) (0 : Int32) (7 : Int32) (fun u3 => stI u3 b 3 (7 : Int32) (fun u4 => f_X6_remember_j30 b u4 l1)))
set_option maxRecDepth 20000 in
set_option maxHeartbeats 4000000 in
theorem c_X6_remember {lay : List LyS} {b : Nat} (hb : StAt lay b) {w : WW} {l1 : Int32} {z : WW} (hk : f_X6_remember b w l1 = some z) : Cn 1 yX6_remember cX6_remember 2 none lay [.ref b, .int l1] w none z := by
  refine Cn.of (by decide +kernel) (Nat.le_of_ble_eq_true rfl) (fun G h => ?_)
  have h : Rules cX6_remember RX6 "remember" 2 (rmd 1 0 0) none _ _ lay 0 0 G := h
  show G 0 [(0, .ref b), (1, .int l1)] [] w
  unfold f_X6_remember at hk
  have EJ30 : ∀ (w : WW) (l1 : Int32), f_X6_remember_j30 b w l1 = some z → G 30 [(0, .ref b), (1, .int l1)] [] w := by
    intro w l1 hk
    unfold f_X6_remember_j30 at hk
    refine k_aload_n (pc := 30) h 0 dX6_remember_30 rfl ?_
    refine k_getr (pc := 31) h fl_X6_30 hb.1 rfl dX6_remember_31 ?_
    refine k_aload_n (pc := 34) h 0 dX6_remember_34 rfl ?_
    refine k_geti (pc := 35) h fl_X6_47 hb.1 rfl dX6_remember_35 ?_
    refine k_iload_n (pc := 38) h 1 dX6_remember_38 rfl ?_
    refine k_iast (pc := 39) h hb.2.2.2.2.2.2.2 dX6_remember_39 hk (fun u1 hk => ?_)
    refine k_aload_n (pc := 40) h 0 dX6_remember_40 rfl ?_
    refine k_dup (pc := 41) h dX6_remember_41 rfl ?_
    refine k_geti (pc := 42) h fl_X6_47 hb.1 rfl dX6_remember_42 ?_
    refine k_iconst (pc := 45) h (x := (1 : Int32)) dX6_remember_45 (by decide) ?_
    refine k_iadd (pc := 46) h dX6_remember_46 ?_
    refine k_puti (pc := 47) h fl_X6_47 hb.1 rfl dX6_remember_47 hk (fun u2 hk => ?_)
    have hk := Option.some.inj hk
    subst hk
    exact k_vret (pc := 50) h dX6_remember_50 ⟨rfl, rfl, rfl, rfl, rfl, rfl⟩
  refine k_aload_n (pc := 0) h 0 dX6_remember_0 rfl ?_
  refine k_geti (pc := 1) h fl_X6_47 hb.1 rfl dX6_remember_1 ?_
  refine k_bipush (pc := 4) h (x := (8 : Int32)) dX6_remember_4 (by decide) ?_
  refine k_icmp_lt (tgt := 30) (pc := 6) h dX6_remember_6 rfl hk (fun hc hk => ?_) (fun hc hk => ?_)
  · exact EJ30 _ _ hk
  · refine k_aload_n (pc := 9) h 0 dX6_remember_9 rfl ?_
    refine k_getr (pc := 10) h fl_X6_30 hb.1 rfl dX6_remember_10 ?_
    refine k_iconst (pc := 13) h (x := (1 : Int32)) dX6_remember_13 (by decide) ?_
    refine k_aload_n (pc := 14) h 0 dX6_remember_14 rfl ?_
    refine k_getr (pc := 15) h fl_X6_30 hb.1 rfl dX6_remember_15 ?_
    refine k_iconst (pc := 18) h (x := (0 : Int32)) dX6_remember_18 (by decide) ?_
    refine k_bipush (pc := 19) h (x := (7 : Int32)) dX6_remember_19 (by decide) ?_
    refine k_copyi (pc := 21) h cp_X6_50 hb.2.2.2.2.2.2.2 hb.2.2.2.2.2.2.2 (by decide) (Nat.le_of_ble_eq_true rfl) dX6_remember_21 hk (fun u3 hk => ?_)
    refine k_aload_n (pc := 24) h 0 dX6_remember_24 rfl ?_
    refine k_bipush (pc := 25) h (x := (7 : Int32)) dX6_remember_25 (by decide) ?_
    refine k_puti (pc := 27) h fl_X6_47 hb.1 rfl dX6_remember_27 hk (fun u4 hk => ?_)
    exact EJ30 _ _ hk

def f_J0_coder_7d493 (si : Nat) (w : WW) : Option (Int32) := if (1 : Int32) = 0 then some ((1 : Int32)) else some ((0 : Int32))
set_option maxRecDepth 20000 in
set_option maxHeartbeats 4000000 in
theorem c_J0_coder_7d493 {lay : List LyS} {si : Nat} (hsi : si < 3) {w : WW} {z : Int32} (hk : f_J0_coder_7d493 si w = some z) : Cn 0 yJ0_coder_7d493 cJ0_coder_7d493 1 (some .byte) lay [.ref (1000000 + si)] w (some (.int z)) w := by
  refine Cn.of (by decide +kernel) (Nat.le_of_ble_eq_true rfl) (fun G h => ?_)
  have h : Rules cJ0_coder_7d493 RJ0 "coder" 1 (rmd 0 0 0) none _ _ lay 0 0 G := h
  show G 0 [(0, .ref (1000000 + si))] [] w
  unfold f_J0_coder_7d493 at hk
  refine k_gets (pc := 0) h fj_J0_38 dJ0_coder_7d493_0 ?_
  refine k_if_eq (tgt := 13) (pc := 3) h dJ0_coder_7d493_3 rfl hk (fun hc hk => ?_) (fun hc hk => ?_)
  · refine k_iconst (pc := 13) h (x := (1 : Int32)) dJ0_coder_7d493_13 (by decide) ?_
    have hk := Option.some.inj hk
    subst hk
    exact k_iret (pc := 14) h dJ0_coder_7d493_14 ⟨rfl, rfl, rfl, rfl, rfl, ⟨.byte, rfl, rfl⟩⟩
  · refine k_aload_n (pc := 6) h 0 dJ0_coder_7d493_6 rfl ?_
    refine k_getSc (pc := 7) h hsi fj_J0_15 dJ0_coder_7d493_7 ?_
    refine k_goto (tgt := 14) (pc := 10) h dJ0_coder_7d493_10 rfl ?_
    have hk := Option.some.inj hk
    subst hk
    exact k_iret (pc := 14) h dJ0_coder_7d493_14 ⟨rfl, rfl, rfl, rfl, rfl, ⟨.byte, rfl, rfl⟩⟩
def f_J0_isLatin1_aae02_j17 (si : Nat) (w : WW) : Option (Int32) := some ((0 : Int32))
def f_J0_isLatin1_aae02 (si : Nat) (w : WW) : Option (Int32) := if (1 : Int32) = 0 then f_J0_isLatin1_aae02_j17 si w else if (0 : Int32) = 0 then some ((1 : Int32)) else f_J0_isLatin1_aae02_j17 si w
set_option maxRecDepth 20000 in
set_option maxHeartbeats 4000000 in
theorem c_J0_isLatin1_aae02 {lay : List LyS} {si : Nat} (hsi : si < 3) {w : WW} {z : Int32} (hk : f_J0_isLatin1_aae02 si w = some z) : Cn 0 yJ0_isLatin1_aae02 cJ0_isLatin1_aae02 1 (some .boolean) lay [.ref (1000000 + si)] w (some (.int z)) w := by
  refine Cn.of (by decide +kernel) (Nat.le_of_ble_eq_true rfl) (fun G h => ?_)
  have h : Rules cJ0_isLatin1_aae02 RJ0 "isLatin1" 1 (rmd 0 0 0) none _ _ lay 0 0 G := h
  show G 0 [(0, .ref (1000000 + si))] [] w
  unfold f_J0_isLatin1_aae02 at hk
  have EJ17 : f_J0_isLatin1_aae02_j17 si w = some z → G 17 [] [] w := by
    intro hk
    unfold f_J0_isLatin1_aae02_j17 at hk
    refine k_iconst (pc := 17) h (x := (0 : Int32)) dJ0_isLatin1_aae02_17 (by decide) ?_
    have hk := Option.some.inj hk
    subst hk
    exact k_iret (pc := 18) h dJ0_isLatin1_aae02_18 ⟨rfl, rfl, rfl, rfl, rfl, ⟨.boolean, rfl, rfl⟩⟩
  refine k_gets (pc := 0) h fj_J0_38 dJ0_isLatin1_aae02_0 ?_
  refine k_if_eq (tgt := 17) (pc := 3) h dJ0_isLatin1_aae02_3 rfl hk (fun hc hk => ?_) (fun hc hk => ?_)
  · refine k_sub h [] (lv' := []) rfl ?_
    exact EJ17 hk
  · refine k_aload_n (pc := 6) h 0 dJ0_isLatin1_aae02_6 rfl ?_
    refine k_getSc (pc := 7) h hsi fj_J0_15 dJ0_isLatin1_aae02_7 ?_
    refine k_if_ne (tgt := 17) (pc := 10) h dJ0_isLatin1_aae02_10 rfl hk (fun hc hk => ?_) (fun hc hk => ?_)
    · refine k_sub h [] (lv' := []) rfl ?_
      exact EJ17 hk
    · refine k_iconst (pc := 13) h (x := (1 : Int32)) dJ0_isLatin1_aae02_13 (by decide) ?_
      refine k_goto (tgt := 18) (pc := 14) h dJ0_isLatin1_aae02_14 rfl ?_
      have hk := Option.some.inj hk
      subst hk
      exact k_iret (pc := 18) h dJ0_isLatin1_aae02_18 ⟨rfl, rfl, rfl, rfl, rfl, ⟨.boolean, rfl, rfl⟩⟩
def f_J6_bitCount_0f7a4 (w : WW) (l0 : Int32) : Option (Int32) := nmv (l0 - ((ushr32 l0 (1 : Int32)) &&& (1431655765 : Int32))) (fun v1 => nmv ((v1 &&& (858993459 : Int32)) + ((ushr32 v1 (2 : Int32)) &&& (858993459 : Int32))) (fun v2 => nmv ((v2 + (ushr32 v2 (4 : Int32))) &&& (252645135 : Int32)) (fun v3 => nmv (v3 + (ushr32 v3 (8 : Int32))) (fun v4 => nmv (v4 + (ushr32 v4 (16 : Int32))) (fun v5 => some ((v5 &&& (63 : Int32))))))))
set_option maxRecDepth 20000 in
set_option maxHeartbeats 4000000 in
theorem c_J6_bitCount_0f7a4 {lay : List LyS} {w : WW} {l0 : Int32} {z : Int32} (hk : f_J6_bitCount_0f7a4 w l0 = some z) : Cn 0 yJ6_bitCount_0f7a4 cJ6_bitCount_0f7a4 1 (some .int) lay [.int l0] w (some (.int z)) w := by
  refine Cn.of (by decide +kernel) (Nat.le_of_ble_eq_true rfl) (fun G h => ?_)
  have h : Rules cJ6_bitCount_0f7a4 RJ6 "bitCount" 1 (rmd 0 0 0) none _ _ lay 0 0 G := h
  show G 0 [(0, .int l0)] [] w
  unfold f_J6_bitCount_0f7a4 at hk
  refine k_iload_n (pc := 0) h 0 dJ6_bitCount_0f7a4_0 rfl ?_
  refine k_iload_n (pc := 1) h 0 dJ6_bitCount_0f7a4_1 rfl ?_
  refine k_iconst (pc := 2) h (x := (1 : Int32)) dJ6_bitCount_0f7a4_2 (by decide) ?_
  refine k_iushr (pc := 3) h dJ6_bitCount_0f7a4_3 ?_
  refine k_ldcw (pc := 4) h (x := (1431655765 : Int32)) cs_J6_265 dJ6_bitCount_0f7a4_4 ?_
  refine k_iand (pc := 7) h dJ6_bitCount_0f7a4_7 ?_
  refine k_isub (pc := 8) h dJ6_bitCount_0f7a4_8 ?_
  refine k_nmi (pc := 9) h hk (fun v1 hk => ?_)
  refine k_istore_n (pc := 9) h [0] (lv' := [(0, .int v1)]) dJ6_bitCount_0f7a4_9 rfl (by decide) rfl ?_
  refine k_iload_n (pc := 10) h 0 dJ6_bitCount_0f7a4_10 rfl ?_
  refine k_ldcw (pc := 11) h (x := (858993459 : Int32)) cs_J6_266 dJ6_bitCount_0f7a4_11 ?_
  refine k_iand (pc := 14) h dJ6_bitCount_0f7a4_14 ?_
  refine k_iload_n (pc := 15) h 0 dJ6_bitCount_0f7a4_15 rfl ?_
  refine k_iconst (pc := 16) h (x := (2 : Int32)) dJ6_bitCount_0f7a4_16 (by decide) ?_
  refine k_iushr (pc := 17) h dJ6_bitCount_0f7a4_17 ?_
  refine k_ldcw (pc := 18) h (x := (858993459 : Int32)) cs_J6_266 dJ6_bitCount_0f7a4_18 ?_
  refine k_iand (pc := 21) h dJ6_bitCount_0f7a4_21 ?_
  refine k_iadd (pc := 22) h dJ6_bitCount_0f7a4_22 ?_
  refine k_nmi (pc := 23) h hk (fun v2 hk => ?_)
  refine k_istore_n (pc := 23) h [0] (lv' := [(0, .int v2)]) dJ6_bitCount_0f7a4_23 rfl (by decide) rfl ?_
  refine k_iload_n (pc := 24) h 0 dJ6_bitCount_0f7a4_24 rfl ?_
  refine k_iload_n (pc := 25) h 0 dJ6_bitCount_0f7a4_25 rfl ?_
  refine k_iconst (pc := 26) h (x := (4 : Int32)) dJ6_bitCount_0f7a4_26 (by decide) ?_
  refine k_iushr (pc := 27) h dJ6_bitCount_0f7a4_27 ?_
  refine k_iadd (pc := 28) h dJ6_bitCount_0f7a4_28 ?_
  refine k_ldcw (pc := 29) h (x := (252645135 : Int32)) cs_J6_267 dJ6_bitCount_0f7a4_29 ?_
  refine k_iand (pc := 32) h dJ6_bitCount_0f7a4_32 ?_
  refine k_nmi (pc := 33) h hk (fun v3 hk => ?_)
  refine k_istore_n (pc := 33) h [0] (lv' := [(0, .int v3)]) dJ6_bitCount_0f7a4_33 rfl (by decide) rfl ?_
  refine k_iload_n (pc := 34) h 0 dJ6_bitCount_0f7a4_34 rfl ?_
  refine k_iload_n (pc := 35) h 0 dJ6_bitCount_0f7a4_35 rfl ?_
  refine k_bipush (pc := 36) h (x := (8 : Int32)) dJ6_bitCount_0f7a4_36 (by decide) ?_
  refine k_iushr (pc := 38) h dJ6_bitCount_0f7a4_38 ?_
  refine k_iadd (pc := 39) h dJ6_bitCount_0f7a4_39 ?_
  refine k_nmi (pc := 40) h hk (fun v4 hk => ?_)
  refine k_istore_n (pc := 40) h [0] (lv' := [(0, .int v4)]) dJ6_bitCount_0f7a4_40 rfl (by decide) rfl ?_
  refine k_iload_n (pc := 41) h 0 dJ6_bitCount_0f7a4_41 rfl ?_
  refine k_iload_n (pc := 42) h 0 dJ6_bitCount_0f7a4_42 rfl ?_
  refine k_bipush (pc := 43) h (x := (16 : Int32)) dJ6_bitCount_0f7a4_43 (by decide) ?_
  refine k_iushr (pc := 45) h dJ6_bitCount_0f7a4_45 ?_
  refine k_iadd (pc := 46) h dJ6_bitCount_0f7a4_46 ?_
  refine k_nmi (pc := 47) h hk (fun v5 hk => ?_)
  refine k_istore_n (pc := 47) h [0] (lv' := [(0, .int v5)]) dJ6_bitCount_0f7a4_47 rfl (by decide) rfl ?_
  refine k_iload_n (pc := 48) h 0 dJ6_bitCount_0f7a4_48 rfl ?_
  refine k_bipush (pc := 49) h (x := (63 : Int32)) dJ6_bitCount_0f7a4_49 (by decide) ?_
  refine k_iand (pc := 51) h dJ6_bitCount_0f7a4_51 ?_
  have hk := Option.some.inj hk
  subst hk
  exact k_iret (pc := 52) h dJ6_bitCount_0f7a4_52 ⟨rfl, rfl, rfl, rfl, rfl, ⟨.int, rfl, rfl⟩⟩
def f_J9_floorMod_7cf53_j18 (w : WW) (l2 : Int32) : Option (Int32) := some (l2)
def f_J9_floorMod_7cf53 (w : WW) (l0 : Int32) (l1 : Int32) : Option (Int32) := gd (¬ l1 = 0) (nmv (rm32 l0 l1) (fun v1 => if 0 ≤ (l0 ^^^ l1) then f_J9_floorMod_7cf53_j18 w v1 else if v1 = 0 then f_J9_floorMod_7cf53_j18 w v1 else some ((v1 + l1))))
set_option maxRecDepth 20000 in
set_option maxHeartbeats 4000000 in
theorem c_J9_floorMod_7cf53 {lay : List LyS} {w : WW} {l0 : Int32} {l1 : Int32} {z : Int32} (hk : f_J9_floorMod_7cf53 w l0 l1 = some z) : Cn 0 yJ9_floorMod_7cf53 cJ9_floorMod_7cf53 3 (some .int) lay [.int l0, .int l1] w (some (.int z)) w := by
  refine Cn.of (by decide +kernel) (Nat.le_of_ble_eq_true rfl) (fun G h => ?_)
  have h : Rules cJ9_floorMod_7cf53 RJ9 "floorMod" 3 (rmd 0 0 0) none _ _ lay 0 0 G := h
  show G 0 [(0, .int l0), (1, .int l1)] [] w
  unfold f_J9_floorMod_7cf53 at hk
  have EJ18 : ∀ (l2 : Int32), f_J9_floorMod_7cf53_j18 w l2 = some z → G 18 [(2, .int l2)] [] w := by
    intro l2 hk
    unfold f_J9_floorMod_7cf53_j18 at hk
    refine k_iload_n (pc := 18) h 0 dJ9_floorMod_7cf53_18 rfl ?_
    have hk := Option.some.inj hk
    subst hk
    exact k_iret (pc := 19) h dJ9_floorMod_7cf53_19 ⟨rfl, rfl, rfl, rfl, rfl, ⟨.int, rfl, rfl⟩⟩
  refine k_iload_n (pc := 0) h 0 dJ9_floorMod_7cf53_0 rfl ?_
  refine k_iload_n (pc := 1) h 1 dJ9_floorMod_7cf53_1 rfl ?_
  refine k_irem (pc := 2) h dJ9_floorMod_7cf53_2 hk (fun hk => ?_)
  refine k_nmi (pc := 3) h hk (fun v1 hk => ?_)
  refine k_istore_n (pc := 3) h [1, 2, 0] (lv' := [(0, .int l0), (1, .int l1), (2, .int v1)]) dJ9_floorMod_7cf53_3 rfl (by decide) rfl ?_
  refine k_iload_n (pc := 4) h 0 dJ9_floorMod_7cf53_4 rfl ?_
  refine k_iload_n (pc := 5) h 1 dJ9_floorMod_7cf53_5 rfl ?_
  refine k_ixor (pc := 6) h dJ9_floorMod_7cf53_6 ?_
  refine k_if_ge (tgt := 18) (pc := 7) h dJ9_floorMod_7cf53_7 rfl hk (fun hc hk => ?_) (fun hc hk => ?_)
  · refine k_sub h [2] (lv' := [(2, .int v1)]) rfl ?_
    exact EJ18 _ hk
  · refine k_iload_n (pc := 10) h 2 dJ9_floorMod_7cf53_10 rfl ?_
    refine k_if_eq (tgt := 18) (pc := 11) h dJ9_floorMod_7cf53_11 rfl hk (fun hc hk => ?_) (fun hc hk => ?_)
    · refine k_sub h [2] (lv' := [(2, .int v1)]) rfl ?_
      exact EJ18 _ hk
    · refine k_iload_n (pc := 14) h 2 dJ9_floorMod_7cf53_14 rfl ?_
      refine k_iload_n (pc := 15) h 1 dJ9_floorMod_7cf53_15 rfl ?_
      refine k_iadd (pc := 16) h dJ9_floorMod_7cf53_16 ?_
      have hk := Option.some.inj hk
      subst hk
      exact k_iret (pc := 17) h dJ9_floorMod_7cf53_17 ⟨rfl, rfl, rfl, rfl, rfl, ⟨.int, rfl, rfl⟩⟩
def f_J9_max_7cf53 (w : WW) (l0 : Int32) (l1 : Int32) : Option (Int32) := if l0 < l1 then some (l1) else some (l0)
set_option maxRecDepth 20000 in
set_option maxHeartbeats 4000000 in
theorem c_J9_max_7cf53 {lay : List LyS} {w : WW} {l0 : Int32} {l1 : Int32} {z : Int32} (hk : f_J9_max_7cf53 w l0 l1 = some z) : Cn 0 yJ9_max_7cf53 cJ9_max_7cf53 2 (some .int) lay [.int l0, .int l1] w (some (.int z)) w := by
  refine Cn.of (by decide +kernel) (Nat.le_of_ble_eq_true rfl) (fun G h => ?_)
  have h : Rules cJ9_max_7cf53 RJ9 "max" 2 (rmd 0 0 0) none _ _ lay 0 0 G := h
  show G 0 [(0, .int l0), (1, .int l1)] [] w
  unfold f_J9_max_7cf53 at hk
  refine k_iload_n (pc := 0) h 0 dJ9_max_7cf53_0 rfl ?_
  refine k_iload_n (pc := 1) h 1 dJ9_max_7cf53_1 rfl ?_
  refine k_icmp_lt (tgt := 9) (pc := 2) h dJ9_max_7cf53_2 rfl hk (fun hc hk => ?_) (fun hc hk => ?_)
  · refine k_iload_n (pc := 9) h 1 dJ9_max_7cf53_9 rfl ?_
    have hk := Option.some.inj hk
    subst hk
    exact k_iret (pc := 10) h dJ9_max_7cf53_10 ⟨rfl, rfl, rfl, rfl, rfl, ⟨.int, rfl, rfl⟩⟩
  · refine k_iload_n (pc := 5) h 0 dJ9_max_7cf53_5 rfl ?_
    refine k_goto (tgt := 10) (pc := 6) h dJ9_max_7cf53_6 rfl ?_
    have hk := Option.some.inj hk
    subst hk
    exact k_iret (pc := 10) h dJ9_max_7cf53_10 ⟨rfl, rfl, rfl, rfl, rfl, ⟨.int, rfl, rfl⟩⟩
def f_J9_min_7cf53 (w : WW) (l0 : Int32) (l1 : Int32) : Option (Int32) := if l1 < l0 then some (l1) else some (l0)
set_option maxRecDepth 20000 in
set_option maxHeartbeats 4000000 in
theorem c_J9_min_7cf53 {lay : List LyS} {w : WW} {l0 : Int32} {l1 : Int32} {z : Int32} (hk : f_J9_min_7cf53 w l0 l1 = some z) : Cn 0 yJ9_min_7cf53 cJ9_min_7cf53 2 (some .int) lay [.int l0, .int l1] w (some (.int z)) w := by
  refine Cn.of (by decide +kernel) (Nat.le_of_ble_eq_true rfl) (fun G h => ?_)
  have h : Rules cJ9_min_7cf53 RJ9 "min" 2 (rmd 0 0 0) none _ _ lay 0 0 G := h
  show G 0 [(0, .int l0), (1, .int l1)] [] w
  unfold f_J9_min_7cf53 at hk
  refine k_iload_n (pc := 0) h 0 dJ9_min_7cf53_0 rfl ?_
  refine k_iload_n (pc := 1) h 1 dJ9_min_7cf53_1 rfl ?_
  refine k_icmp_gt (tgt := 9) (pc := 2) h dJ9_min_7cf53_2 rfl hk (fun hc hk => ?_) (fun hc hk => ?_)
  · refine k_iload_n (pc := 9) h 1 dJ9_min_7cf53_9 rfl ?_
    have hk := Option.some.inj hk
    subst hk
    exact k_iret (pc := 10) h dJ9_min_7cf53_10 ⟨rfl, rfl, rfl, rfl, rfl, ⟨.int, rfl, rfl⟩⟩
  · refine k_iload_n (pc := 5) h 0 dJ9_min_7cf53_5 rfl ?_
    refine k_goto (tgt := 10) (pc := 6) h dJ9_min_7cf53_6 rfl ?_
    have hk := Option.some.inj hk
    subst hk
    exact k_iret (pc := 10) h dJ9_min_7cf53_10 ⟨rfl, rfl, rfl, rfl, rfl, ⟨.int, rfl, rfl⟩⟩
def f_X0_bitAt_j29 (w : WW) (l0 : Int32) (l1 : Int32) (l2 : Int32) (l3 : Int32) : Option ((Int32 × Int32) ⊕ ((Int32) ⊕ (Unit))) := some (.inl (l2, (l3 + (1 : Int32))))
def f_X0_bitAt_b4 (w : WW) (l0 : Int32) (l1 : Int32) (l2 : Int32) (l3 : Int32) : Option ((Int32 × Int32) ⊕ ((Int32) ⊕ (Unit))) := if (16 : Int32) ≤ l3 then some (.inr (.inr ())) else if ((shr32 l0 l3) &&& (1 : Int32)) = (1 : Int32) then if l2 = l1 then some (.inr (.inl l3)) else f_X0_bitAt_j29 w l0 l1 (l2 + (1 : Int32)) l3 else f_X0_bitAt_j29 w l0 l1 l2 l3
def f_X0_bitAt (w : WW) (l0 : Int32) (l1 : Int32) : Option (Int32) := (lpf (fun s : Int32 × Int32 => f_X0_bitAt_b4 w l0 l1 s.1 s.2) FU ((0 : Int32), (0 : Int32))).bind (Sum.elim (fun r1 => some (r1)) (fun r1 => some ((0 : Int32))))
set_option maxRecDepth 20000 in
set_option maxHeartbeats 4000000 in
theorem c_X0_bitAt {w : WW} {l0 : Int32} {l1 : Int32} {z : Int32} (hk : f_X0_bitAt w l0 l1 = some z) : Cn 0 yX0_bitAt cX0_bitAt 4 (some .int) LAY [.int l0, .int l1] w (some (.int z)) w := by
  refine Cn.of (by decide +kernel) (Nat.le_of_ble_eq_true rfl) (fun G h => ?_)
  have h : Rules cX0_bitAt RX0 "bitAt" 4 (rmd 0 0 0) none _ _ LAY 0 0 G := h
  show G 0 [(0, .int l0), (1, .int l1)] [] w
  unfold f_X0_bitAt at hk
  have EJ29 : ∀ (l0 : Int32) (l1 : Int32) (l2 : Int32) (l3 : Int32) (z : (Int32 × Int32) ⊕ ((Int32) ⊕ (Unit))), f_X0_bitAt_j29 w l0 l1 l2 l3 = some z → Sum.elim (fun s : Int32 × Int32 => G 4 [(0, .int l0), (1, .int l1), (2, .int s.1), (3, .int s.2)] [] w) (Sum.elim (fun r : Int32 => G 24 [(3, .int r)] [] w) (fun r : Unit => G 35 [] [] w)) z → G 29 [(0, .int l0), (1, .int l1), (2, .int l2), (3, .int l3)] [] w := by
    intro l0 l1 l2 l3 z hk hz
    unfold f_X0_bitAt_j29 at hk
    refine k_iinc (pc := 29) h 3 [1, 2, 3, 0] (v := (l3 + (1 : Int32))) (lv' := [(0, .int l0), (1, .int l1), (2, .int l2), (3, .int (l3 + (1 : Int32)))]) dX0_bitAt_29 rfl rfl (by decide) rfl ?_
    refine k_goto (tgt := 4) (pc := 32) h dX0_bitAt_32 rfl ?_
    have hk := Option.some.inj hk
    subst hk
    exact hz
  have LB4 : ∀ (l0 : Int32) (l1 : Int32), ∀ (nn : Nat) (s : Int32 × Int32) (r : (Int32) ⊕ (Unit)), lpf (fun s : Int32 × Int32 => f_X0_bitAt_b4 w l0 l1 s.1 s.2) nn s = some r → (Sum.elim (fun r : Int32 => G 24 [(3, .int r)] [] w) (fun r : Unit => G 35 [] [] w)) r → (fun s : Int32 × Int32 => G 4 [(0, .int l0), (1, .int l1), (2, .int s.1), (3, .int s.2)] [] w) s := by
    intro l0 l1
    refine lpf_ind (fun s : Int32 × Int32 => G 4 [(0, .int l0), (1, .int l1), (2, .int s.1), (3, .int s.2)] [] w) (Sum.elim (fun r : Int32 => G 24 [(3, .int r)] [] w) (fun r : Unit => G 35 [] [] w)) ?_
    rintro ⟨l2, l3⟩ z hk hz
    have hk : f_X0_bitAt_b4 w l0 l1 l2 l3 = some z := hk
    unfold f_X0_bitAt_b4 at hk
    show G 4 [(0, .int l0), (1, .int l1), (2, .int l2), (3, .int l3)] [] w
    refine k_iload_n (pc := 4) h 3 dX0_bitAt_4 rfl ?_
    refine k_bipush (pc := 5) h (x := (16 : Int32)) dX0_bitAt_5 (by decide) ?_
    refine k_icmp_ge (tgt := 35) (pc := 7) h dX0_bitAt_7 rfl hk (fun hc hk => ?_) (fun hc hk => ?_)
    · refine k_sub h [] (lv' := []) rfl ?_
      have hk := Option.some.inj hk
      subst hk
      exact hz
    · refine k_iload_n (pc := 10) h 0 dX0_bitAt_10 rfl ?_
      refine k_iload_n (pc := 11) h 3 dX0_bitAt_11 rfl ?_
      refine k_ishr (pc := 12) h dX0_bitAt_12 ?_
      refine k_iconst (pc := 13) h (x := (1 : Int32)) dX0_bitAt_13 (by decide) ?_
      refine k_iand (pc := 14) h dX0_bitAt_14 ?_
      refine k_iconst (pc := 15) h (x := (1 : Int32)) dX0_bitAt_15 (by decide) ?_
      refine k_icmp_ne (tgt := 29) (pc := 16) h dX0_bitAt_16 rfl hk (fun hc hk => ?_) (fun hc hk => ?_)
      · exact EJ29 _ _ _ _ _ hk hz
      · refine k_iload_n (pc := 19) h 2 dX0_bitAt_19 rfl ?_
        refine k_iload_n (pc := 20) h 1 dX0_bitAt_20 rfl ?_
        refine k_icmp_ne (tgt := 26) (pc := 21) h dX0_bitAt_21 rfl hk (fun hc hk => ?_) (fun hc hk => ?_)
        · refine k_iinc (pc := 26) h 2 [1, 2, 0, 3] (v := (l2 + (1 : Int32))) (lv' := [(0, .int l0), (1, .int l1), (2, .int (l2 + (1 : Int32))), (3, .int l3)]) dX0_bitAt_26 rfl rfl (by decide) rfl ?_
          exact EJ29 _ _ _ _ _ hk hz
        · refine k_sub h [3] (lv' := [(3, .int l3)]) rfl ?_
          have hk := Option.some.inj hk
          subst hk
          exact hz
  refine k_iconst (pc := 0) h (x := (0 : Int32)) dX0_bitAt_0 (by decide) ?_
  refine k_istore_n (pc := 1) h [1, 2, 0] (lv' := [(0, .int l0), (1, .int l1), (2, .int (0 : Int32))]) dX0_bitAt_1 rfl (by decide) rfl ?_
  refine k_iconst (pc := 2) h (x := (0 : Int32)) dX0_bitAt_2 (by decide) ?_
  refine k_istore_n (pc := 3) h [1, 2, 3, 0] (lv' := [(0, .int l0), (1, .int l1), (2, .int (0 : Int32)), (3, .int (0 : Int32))]) dX0_bitAt_3 rfl (by decide) rfl ?_
  obtain ⟨r1, hl2, hk⟩ := bd_some hk
  refine LB4 _ _ _ _ _ hl2 ?_
  rcases r1 with r1 | r1
  · replace hk := elim_l hk
    show G 24 [(3, .int r1)] [] w
    refine k_iload_n (pc := 24) h 0 dX0_bitAt_24 rfl ?_
    have hk := Option.some.inj hk
    subst hk
    exact k_iret (pc := 25) h dX0_bitAt_25 ⟨rfl, rfl, rfl, rfl, rfl, ⟨.int, rfl, rfl⟩⟩
  · replace hk := elim_r hk
    show G 35 [] [] w
    refine k_iconst (pc := 35) h (x := (0 : Int32)) dX0_bitAt_35 (by decide) ?_
    have hk := Option.some.inj hk
    subst hk
    exact k_iret (pc := 36) h dX0_bitAt_36 ⟨rfl, rfl, rfl, rfl, rfl, ⟨.int, rfl, rfl⟩⟩
def f_X0_pick (w : WW) (l1 : Int32) : Option (Int32 × WW) := gd (¬ (2147483648 : Int64) = 0) (stL w 45 0 (rm64 (((w.2 45 0) * (1103515245 : Int64)) + (12345 : Int64)) (2147483648 : Int64)) (fun u1 => if (1 : Int32) ≤ l1 then gd (¬ (65536 : Int64) = 0) (gd (¬ ((l1).toInt64) = 0) (some ((((rm64 ((u1.2 45 0) / (65536 : Int64)) ((l1).toInt64))).toInt32), u1))) else some ((0 : Int32), u1)))
set_option maxRecDepth 20000 in
set_option maxHeartbeats 4000000 in
theorem c_X0_pick {w : WW} {l1 : Int32} {z : Int32 × WW} (hk : f_X0_pick w l1 = some z) : Cn 0 yX0_pick cX0_pick 2 (some .int) LAY [.ref 45, .int l1] w (some (.int z.1)) z.2 := by
  refine Cn.of (by decide +kernel) (Nat.le_of_ble_eq_true rfl) (fun G h => ?_)
  have h : Rules cX0_pick RX0 "pick" 2 (rmd 0 0 0) none _ _ LAY 0 0 G := h
  show G 0 [(0, .ref 45), (1, .int l1)] [] w
  unfold f_X0_pick at hk
  refine k_aload_n (pc := 0) h 0 dX0_pick_0 rfl ?_
  refine k_aload_n (pc := 1) h 0 dX0_pick_1 rfl ?_
  refine k_getl (pc := 2) h fl_X0_37 ly_45 rfl dX0_pick_2 ?_
  refine k_ldc2 (pc := 5) h (x := (1103515245 : Int64)) cs_X0_41 dX0_pick_5 ?_
  refine k_lmul (pc := 8) h dX0_pick_8 ?_
  refine k_ldc2 (pc := 9) h (x := (12345 : Int64)) cs_X0_43 dX0_pick_9 ?_
  refine k_ladd (pc := 12) h dX0_pick_12 ?_
  refine k_ldc2 (pc := 13) h (x := (2147483648 : Int64)) cs_X0_45 dX0_pick_13 ?_
  refine k_lrem (pc := 16) h dX0_pick_16 hk (fun hk => ?_)
  refine k_putl (pc := 17) h fl_X0_37 ly_45 rfl dX0_pick_17 hk (fun u1 hk => ?_)
  refine k_iload_n (pc := 20) h 1 dX0_pick_20 rfl ?_
  refine k_iconst (pc := 21) h (x := (1 : Int32)) dX0_pick_21 (by decide) ?_
  refine k_icmp_ge (tgt := 29) (pc := 22) h dX0_pick_22 rfl hk (fun hc hk => ?_) (fun hc hk => ?_)
  · refine k_aload_n (pc := 29) h 0 dX0_pick_29 rfl ?_
    refine k_getl (pc := 30) h fl_X0_37 ly_45 rfl dX0_pick_30 ?_
    refine k_ldc2 (pc := 33) h (x := (65536 : Int64)) cs_X0_47 dX0_pick_33 ?_
    refine k_ldiv (pc := 36) h dX0_pick_36 hk (fun hk => ?_)
    refine k_iload_n (pc := 37) h 1 dX0_pick_37 rfl ?_
    refine k_i2l (pc := 38) h dX0_pick_38 ?_
    refine k_lrem (pc := 39) h dX0_pick_39 hk (fun hk => ?_)
    refine k_l2i (pc := 40) h dX0_pick_40 ?_
    have hk := Option.some.inj hk
    subst hk
    exact k_iret (pc := 41) h dX0_pick_41 ⟨rfl, rfl, rfl, rfl, rfl, ⟨.int, rfl, rfl⟩⟩
  · refine k_iconst (pc := 25) h (x := (0 : Int32)) dX0_pick_25 (by decide) ?_
    refine k_goto (tgt := 41) (pc := 26) h dX0_pick_26 rfl ?_
    have hk := Option.some.inj hk
    subst hk
    exact k_iret (pc := 41) h dX0_pick_41 ⟨rfl, rfl, rfl, rfl, rfl, ⟨.int, rfl, rfl⟩⟩
def f_X1_commonDivisor_b9 (w : WW) (l4 : Int64) (l6 : Int64) (l8 : Int32) : Option ((Int64 × Int64 × Int32) ⊕ (Int64)) := if (200 : Int32) ≤ l8 then some (.inr l4) else if (lg_cmp l6 (0 : Int64)) = 0 then some (.inr l4) else gd (¬ l6 = 0) (nmv (rm64 l4 l6) (fun v1 => some (.inl (l6, v1, (l8 + (1 : Int32))))))
def f_X1_commonDivisor (w : WW) (l0 : Int64) (l2 : Int64) : Option (Int64) := (lpf (fun s : Int64 × Int64 × Int32 => f_X1_commonDivisor_b9 w s.1 s.2.1 s.2.2) FU (l0, l2, (0 : Int32))).bind (fun r2 => some (r2))
set_option maxRecDepth 20000 in
set_option maxHeartbeats 4000000 in
theorem c_X1_commonDivisor {w : WW} {l0 : Int64} {l2 : Int64} {z : Int64} (hk : f_X1_commonDivisor w l0 l2 = some z) : Cn 0 yX1_commonDivisor cX1_commonDivisor 11 (some .long) LAY [.long l0, .long l2] w (some (.long z)) w := by
  refine Cn.of (by decide +kernel) (Nat.le_of_ble_eq_true rfl) (fun G h => ?_)
  have h : Rules cX1_commonDivisor RX1 "commonDivisor" 11 (rmd 0 0 0) none _ _ LAY 0 0 G := h
  show G 0 [(0, .long l0), (2, .long l2)] [] w
  unfold f_X1_commonDivisor at hk
  have LB9 : ∀ (nn : Nat) (s : Int64 × Int64 × Int32) (r : Int64), lpf (fun s : Int64 × Int64 × Int32 => f_X1_commonDivisor_b9 w s.1 s.2.1 s.2.2) nn s = some r → (fun r : Int64 => G 45 [(4, .long r)] [] w) r → (fun s : Int64 × Int64 × Int32 => G 9 [(4, .long s.1), (6, .long s.2.1), (8, .int s.2.2)] [] w) s := by
    refine lpf_ind (fun s : Int64 × Int64 × Int32 => G 9 [(4, .long s.1), (6, .long s.2.1), (8, .int s.2.2)] [] w) (fun r : Int64 => G 45 [(4, .long r)] [] w) ?_
    rintro ⟨l4, l6, l8⟩ z hk hz
    have hk : f_X1_commonDivisor_b9 w l4 l6 l8 = some z := hk
    unfold f_X1_commonDivisor_b9 at hk
    show G 9 [(4, .long l4), (6, .long l6), (8, .int l8)] [] w
    refine k_iload (pc := 9) h 2 dX1_commonDivisor_9 rfl ?_
    refine k_sipush (pc := 11) h (x := (200 : Int32)) dX1_commonDivisor_11 (by decide) ?_
    refine k_icmp_ge (tgt := 45) (pc := 14) h dX1_commonDivisor_14 rfl hk (fun hc hk => ?_) (fun hc hk => ?_)
    · refine k_sub h [0] (lv' := [(4, .long l4)]) rfl ?_
      have hk := Option.some.inj hk
      subst hk
      exact hz
    · refine k_lload (pc := 17) h 1 dX1_commonDivisor_17 rfl ?_
      refine k_lconst (pc := 19) h (x := (0 : Int64)) dX1_commonDivisor_19 (by decide) ?_
      refine k_lcmp (pc := 20) h dX1_commonDivisor_20 ?_
      refine k_if_eq (tgt := 45) (pc := 21) h dX1_commonDivisor_21 rfl hk (fun hc hk => ?_) (fun hc hk => ?_)
      · refine k_sub h [0] (lv' := [(4, .long l4)]) rfl ?_
        have hk := Option.some.inj hk
        subst hk
        exact hz
      · refine k_lload (pc := 24) h 0 dX1_commonDivisor_24 rfl ?_
        refine k_lload (pc := 26) h 1 dX1_commonDivisor_26 rfl ?_
        refine k_lrem (pc := 28) h dX1_commonDivisor_28 hk (fun hk => ?_)
        refine k_nml (pc := 29) h hk (fun v1 hk => ?_)
        refine k_lstore (pc := 29) h [1, 2, 3, 0] (lv' := [(4, .long l4), (6, .long l6), (8, .int l8), (9, .long v1)]) dX1_commonDivisor_29 (by decide) rfl ?_
        refine k_lload (pc := 31) h 1 dX1_commonDivisor_31 rfl ?_
        refine k_lstore (pc := 33) h [0, 1, 2, 3] (lv' := [(4, .long l6), (6, .long l6), (8, .int l8), (9, .long v1)]) dX1_commonDivisor_33 (by decide) rfl ?_
        refine k_lload (pc := 35) h 3 dX1_commonDivisor_35 rfl ?_
        refine k_lstore (pc := 37) h [1, 0, 2, 3] (lv' := [(4, .long l6), (6, .long v1), (8, .int l8), (9, .long v1)]) dX1_commonDivisor_37 (by decide) rfl ?_
        refine k_iinc (pc := 39) h 2 [1, 2, 0, 3] (v := (l8 + (1 : Int32))) (lv' := [(4, .long l6), (6, .long v1), (8, .int (l8 + (1 : Int32))), (9, .long v1)]) dX1_commonDivisor_39 rfl rfl (by decide) rfl ?_
        refine k_goto (tgt := 9) (pc := 42) h dX1_commonDivisor_42 rfl ?_
        refine k_sub h [0, 1, 2] (lv' := [(4, .long l6), (6, .long v1), (8, .int (l8 + (1 : Int32)))]) rfl ?_
        have hk := Option.some.inj hk
        subst hk
        exact hz
  refine k_lload_n (pc := 0) h 0 dX1_commonDivisor_0 rfl ?_
  refine k_lstore (pc := 1) h [1, 2, 0] (lv' := [(0, .long l0), (2, .long l2), (4, .long l0)]) dX1_commonDivisor_1 (by decide) rfl ?_
  refine k_lload_n (pc := 3) h 1 dX1_commonDivisor_3 rfl ?_
  refine k_lstore (pc := 4) h [1, 2, 3, 0] (lv' := [(0, .long l0), (2, .long l2), (4, .long l0), (6, .long l2)]) dX1_commonDivisor_4 (by decide) rfl ?_
  refine k_iconst (pc := 6) h (x := (0 : Int32)) dX1_commonDivisor_6 (by decide) ?_
  refine k_istore (pc := 7) h [1, 2, 3, 4, 0] (lv' := [(0, .long l0), (2, .long l2), (4, .long l0), (6, .long l2), (8, .int (0 : Int32))]) dX1_commonDivisor_7 (by decide) rfl ?_
  refine k_sub h [2, 3, 4] (lv' := [(4, .long l0), (6, .long l2), (8, .int (0 : Int32))]) rfl ?_
  obtain ⟨r2, hl3, hk⟩ := bd_some hk
  refine LB9 _ _ _ hl3 ?_
  show G 45 [(4, .long r2)] [] w
  refine k_lload (pc := 45) h 0 dX1_commonDivisor_45 rfl ?_
  have hk := Option.some.inj hk
  subst hk
  exact k_lret (pc := 47) h dX1_commonDivisor_47 ⟨rfl, rfl, rfl, rfl, rfl, rfl⟩
def f_X4_addByte (w : WW) (l1 : Int32) : Option (WW) := if (150 : Int32) ≤ (w.1 26 1) then some w else gd (inb (w.1 26 1) 150) (stI w 27 ((w.1 26 1)).toNatClampNeg (vp_nar .byte ((l1).toInt8.toInt32)) (fun u1 => stI u1 26 1 ((u1.1 26 1) + (1 : Int32)) (fun u2 => some u2)))
set_option maxRecDepth 20000 in
set_option maxHeartbeats 4000000 in
theorem c_X4_addByte {w : WW} {l1 : Int32} {z : WW} (hk : f_X4_addByte w l1 = some z) : Cn 0 yX4_addByte cX4_addByte 2 none LAY [.ref 26, .int l1] w none z := by
  refine Cn.of (by decide +kernel) (Nat.le_of_ble_eq_true rfl) (fun G h => ?_)
  have h : Rules cX4_addByte RX4 "addByte" 2 (rmd 0 0 0) none _ _ LAY 0 0 G := h
  show G 0 [(0, .ref 26), (1, .int l1)] [] w
  unfold f_X4_addByte at hk
  refine k_aload_n (pc := 0) h 0 dX4_addByte_0 rfl ?_
  refine k_geti (pc := 1) h fl_X4_22 ly_26 rfl dX4_addByte_1 ?_
  refine k_sipush (pc := 4) h (x := (150 : Int32)) dX4_addByte_4 (by decide) ?_
  refine k_icmp_ge (tgt := 31) (pc := 7) h dX4_addByte_7 rfl hk (fun hc hk => ?_) (fun hc hk => ?_)
  · have hk := Option.some.inj hk
    subst hk
    exact k_vret (pc := 31) h dX4_addByte_31 ⟨rfl, rfl, rfl, rfl, rfl, rfl⟩
  · refine k_aload_n (pc := 10) h 0 dX4_addByte_10 rfl ?_
    refine k_getr (pc := 11) h fl_X4_9 ly_26 rfl dX4_addByte_11 ?_
    refine k_aload_n (pc := 14) h 0 dX4_addByte_14 rfl ?_
    refine k_geti (pc := 15) h fl_X4_22 ly_26 rfl dX4_addByte_15 ?_
    refine k_iload_n (pc := 18) h 1 dX4_addByte_18 rfl ?_
    refine k_i2b (pc := 19) h dX4_addByte_19 ?_
    refine k_bast (pc := 20) h ly_27 dX4_addByte_20 hk (fun u1 hk => ?_)
    refine k_aload_n (pc := 21) h 0 dX4_addByte_21 rfl ?_
    refine k_dup (pc := 22) h dX4_addByte_22 rfl ?_
    refine k_geti (pc := 23) h fl_X4_22 ly_26 rfl dX4_addByte_23 ?_
    refine k_iconst (pc := 26) h (x := (1 : Int32)) dX4_addByte_26 (by decide) ?_
    refine k_iadd (pc := 27) h dX4_addByte_27 ?_
    refine k_puti (pc := 28) h fl_X4_22 ly_26 rfl dX4_addByte_28 hk (fun u2 hk => ?_)
    have hk := Option.some.inj hk
    subst hk
    exact k_vret (pc := 31) h dX4_addByte_31 ⟨rfl, rfl, rfl, rfl, rfl, rfl⟩
def f_X4_isFigure_j16 (w : WW) : Option (Int32) := some ((0 : Int32))
def f_X4_isFigure (w : WW) (l0 : Int32) : Option (Int32) := if l0 < (48 : Int32) then f_X4_isFigure_j16 w else if (57 : Int32) < l0 then f_X4_isFigure_j16 w else some ((1 : Int32))
set_option maxRecDepth 20000 in
set_option maxHeartbeats 4000000 in
theorem c_X4_isFigure {w : WW} {l0 : Int32} {z : Int32} (hk : f_X4_isFigure w l0 = some z) : Cn 0 yX4_isFigure cX4_isFigure 1 (some .boolean) LAY [.int l0] w (some (.int z)) w := by
  refine Cn.of (by decide +kernel) (Nat.le_of_ble_eq_true rfl) (fun G h => ?_)
  have h : Rules cX4_isFigure RX4 "isFigure" 1 (rmd 0 0 0) none _ _ LAY 0 0 G := h
  show G 0 [(0, .int l0)] [] w
  unfold f_X4_isFigure at hk
  have EJ16 : f_X4_isFigure_j16 w = some z → G 16 [] [] w := by
    intro hk
    unfold f_X4_isFigure_j16 at hk
    refine k_iconst (pc := 16) h (x := (0 : Int32)) dX4_isFigure_16 (by decide) ?_
    have hk := Option.some.inj hk
    subst hk
    exact k_iret (pc := 17) h dX4_isFigure_17 ⟨rfl, rfl, rfl, rfl, rfl, ⟨.boolean, rfl, rfl⟩⟩
  refine k_iload_n (pc := 0) h 0 dX4_isFigure_0 rfl ?_
  refine k_bipush (pc := 1) h (x := (48 : Int32)) dX4_isFigure_1 (by decide) ?_
  refine k_icmp_lt (tgt := 16) (pc := 3) h dX4_isFigure_3 rfl hk (fun hc hk => ?_) (fun hc hk => ?_)
  · refine k_sub h [] (lv' := []) rfl ?_
    exact EJ16 hk
  · refine k_iload_n (pc := 6) h 0 dX4_isFigure_6 rfl ?_
    refine k_bipush (pc := 7) h (x := (57 : Int32)) dX4_isFigure_7 (by decide) ?_
    refine k_icmp_gt (tgt := 16) (pc := 9) h dX4_isFigure_9 rfl hk (fun hc hk => ?_) (fun hc hk => ?_)
    · refine k_sub h [] (lv' := []) rfl ?_
      exact EJ16 hk
    · refine k_iconst (pc := 12) h (x := (1 : Int32)) dX4_isFigure_12 (by decide) ?_
      refine k_goto (tgt := 17) (pc := 13) h dX4_isFigure_13 rfl ?_
      have hk := Option.some.inj hk
      subst hk
      exact k_iret (pc := 17) h dX4_isFigure_17 ⟨rfl, rfl, rfl, rfl, rfl, ⟨.boolean, rfl, rfl⟩⟩
def f_X4_isLetter_j16 (w : WW) : Option (Int32) := some ((0 : Int32))
def f_X4_isLetter (w : WW) (l0 : Int32) : Option (Int32) := if l0 < (97 : Int32) then f_X4_isLetter_j16 w else if (122 : Int32) < l0 then f_X4_isLetter_j16 w else some ((1 : Int32))
set_option maxRecDepth 20000 in
set_option maxHeartbeats 4000000 in
theorem c_X4_isLetter {w : WW} {l0 : Int32} {z : Int32} (hk : f_X4_isLetter w l0 = some z) : Cn 0 yX4_isLetter cX4_isLetter 1 (some .boolean) LAY [.int l0] w (some (.int z)) w := by
  refine Cn.of (by decide +kernel) (Nat.le_of_ble_eq_true rfl) (fun G h => ?_)
  have h : Rules cX4_isLetter RX4 "isLetter" 1 (rmd 0 0 0) none _ _ LAY 0 0 G := h
  show G 0 [(0, .int l0)] [] w
  unfold f_X4_isLetter at hk
  have EJ16 : f_X4_isLetter_j16 w = some z → G 16 [] [] w := by
    intro hk
    unfold f_X4_isLetter_j16 at hk
    refine k_iconst (pc := 16) h (x := (0 : Int32)) dX4_isLetter_16 (by decide) ?_
    have hk := Option.some.inj hk
    subst hk
    exact k_iret (pc := 17) h dX4_isLetter_17 ⟨rfl, rfl, rfl, rfl, rfl, ⟨.boolean, rfl, rfl⟩⟩
  refine k_iload_n (pc := 0) h 0 dX4_isLetter_0 rfl ?_
  refine k_bipush (pc := 1) h (x := (97 : Int32)) dX4_isLetter_1 (by decide) ?_
  refine k_icmp_lt (tgt := 16) (pc := 3) h dX4_isLetter_3 rfl hk (fun hc hk => ?_) (fun hc hk => ?_)
  · refine k_sub h [] (lv' := []) rfl ?_
    exact EJ16 hk
  · refine k_iload_n (pc := 6) h 0 dX4_isLetter_6 rfl ?_
    refine k_bipush (pc := 7) h (x := (122 : Int32)) dX4_isLetter_7 (by decide) ?_
    refine k_icmp_gt (tgt := 16) (pc := 9) h dX4_isLetter_9 rfl hk (fun hc hk => ?_) (fun hc hk => ?_)
    · refine k_sub h [] (lv' := []) rfl ?_
      exact EJ16 hk
    · refine k_iconst (pc := 12) h (x := (1 : Int32)) dX4_isLetter_12 (by decide) ?_
      refine k_goto (tgt := 17) (pc := 13) h dX4_isLetter_13 rfl ?_
      have hk := Option.some.inj hk
      subst hk
      exact k_iret (pc := 17) h dX4_isLetter_17 ⟨rfl, rfl, rfl, rfl, rfl, ⟨.boolean, rfl, rfl⟩⟩
def f_X4_mayAskMore_j24 (w : WW) : Option (Int32) := some ((0 : Int32))
def f_X4_mayAskMore (w : WW) : Option (Int32) := if (w.1 26 5) = (5 : Int32) then if (7 : Int32) ≤ (w.1 28 1) then f_X4_mayAskMore_j24 w else some ((1 : Int32)) else f_X4_mayAskMore_j24 w
set_option maxRecDepth 20000 in
set_option maxHeartbeats 4000000 in
theorem c_X4_mayAskMore {w : WW} {z : Int32} (hk : f_X4_mayAskMore w = some z) : Cn 0 yX4_mayAskMore cX4_mayAskMore 1 (some .boolean) LAY [.ref 26] w (some (.int z)) w := by
  refine Cn.of (by decide +kernel) (Nat.le_of_ble_eq_true rfl) (fun G h => ?_)
  have h : Rules cX4_mayAskMore RX4 "mayAskMore" 1 (rmd 0 0 0) none _ _ LAY 0 0 G := h
  show G 0 [(0, .ref 26)] [] w
  unfold f_X4_mayAskMore at hk
  have EJ24 : f_X4_mayAskMore_j24 w = some z → G 24 [] [] w := by
    intro hk
    unfold f_X4_mayAskMore_j24 at hk
    refine k_iconst (pc := 24) h (x := (0 : Int32)) dX4_mayAskMore_24 (by decide) ?_
    have hk := Option.some.inj hk
    subst hk
    exact k_iret (pc := 25) h dX4_mayAskMore_25 ⟨rfl, rfl, rfl, rfl, rfl, ⟨.boolean, rfl, rfl⟩⟩
  refine k_aload_n (pc := 0) h 0 dX4_mayAskMore_0 rfl ?_
  refine k_geti (pc := 1) h fl_X4_36 ly_26 rfl dX4_mayAskMore_1 ?_
  refine k_iconst (pc := 4) h (x := (5 : Int32)) dX4_mayAskMore_4 (by decide) ?_
  refine k_icmp_ne (tgt := 24) (pc := 5) h dX4_mayAskMore_5 rfl hk (fun hc hk => ?_) (fun hc hk => ?_)
  · refine k_sub h [] (lv' := []) rfl ?_
    exact EJ24 hk
  · refine k_aload_n (pc := 8) h 0 dX4_mayAskMore_8 rfl ?_
    refine k_getr (pc := 9) h fl_X4_18 ly_26 rfl dX4_mayAskMore_9 ?_
    refine k_geti (pc := 12) h fl_X4_62 ly_28 rfl dX4_mayAskMore_12 ?_
    refine k_bipush (pc := 15) h (x := (7 : Int32)) dX4_mayAskMore_15 (by decide) ?_
    refine k_icmp_ge (tgt := 24) (pc := 17) h dX4_mayAskMore_17 rfl hk (fun hc hk => ?_) (fun hc hk => ?_)
    · refine k_sub h [] (lv' := []) rfl ?_
      exact EJ24 hk
    · refine k_iconst (pc := 20) h (x := (1 : Int32)) dX4_mayAskMore_20 (by decide) ?_
      refine k_goto (tgt := 25) (pc := 21) h dX4_mayAskMore_21 rfl ?_
      have hk := Option.some.inj hk
      subst hk
      exact k_iret (pc := 25) h dX4_mayAskMore_25 ⟨rfl, rfl, rfl, rfl, rfl, ⟨.boolean, rfl, rfl⟩⟩
def f_X6_allCases (b : Nat) (w : WW) : Option (Int32) := some (((shl32 (1 : Int32) (w.1 b 0)) - (1 : Int32)))
set_option maxRecDepth 20000 in
set_option maxHeartbeats 4000000 in
theorem c_X6_allCases {lay : List LyS} {b : Nat} (hb : StAt lay b) {w : WW} {z : Int32} (hk : f_X6_allCases b w = some z) : Cn 0 yX6_allCases cX6_allCases 1 (some .int) lay [.ref b] w (some (.int z)) w := by
  refine Cn.of (by decide +kernel) (Nat.le_of_ble_eq_true rfl) (fun G h => ?_)
  have h : Rules cX6_allCases RX6 "allCases" 1 (rmd 0 0 0) none _ _ lay 0 0 G := h
  show G 0 [(0, .ref b)] [] w
  unfold f_X6_allCases at hk
  refine k_iconst (pc := 0) h (x := (1 : Int32)) dX6_allCases_0 (by decide) ?_
  refine k_aload_n (pc := 1) h 0 dX6_allCases_1 rfl ?_
  refine k_geti (pc := 2) h fl_X6_37 hb.1 rfl dX6_allCases_2 ?_
  refine k_ishl (pc := 5) h dX6_allCases_5 ?_
  refine k_iconst (pc := 6) h (x := (1 : Int32)) dX6_allCases_6 (by decide) ?_
  refine k_isub (pc := 7) h dX6_allCases_7 ?_
  have hk := Option.some.inj hk
  subst hk
  exact k_iret (pc := 8) h dX6_allCases_8 ⟨rfl, rfl, rfl, rfl, rfl, ⟨.int, rfl, rfl⟩⟩
def f_X6_allSets (b : Nat) (w : WW) : Option (Int32) := some ((shl32 (1 : Int32) (w.1 b 1)))
set_option maxRecDepth 20000 in
set_option maxHeartbeats 4000000 in
theorem c_X6_allSets {lay : List LyS} {b : Nat} (hb : StAt lay b) {w : WW} {z : Int32} (hk : f_X6_allSets b w = some z) : Cn 0 yX6_allSets cX6_allSets 1 (some .int) lay [.ref b] w (some (.int z)) w := by
  refine Cn.of (by decide +kernel) (Nat.le_of_ble_eq_true rfl) (fun G h => ?_)
  have h : Rules cX6_allSets RX6 "allSets" 1 (rmd 0 0 0) none _ _ lay 0 0 G := h
  show G 0 [(0, .ref b)] [] w
  unfold f_X6_allSets at hk
  refine k_iconst (pc := 0) h (x := (1 : Int32)) dX6_allSets_0 (by decide) ?_
  refine k_aload_n (pc := 1) h 0 dX6_allSets_1 rfl ?_
  refine k_geti (pc := 2) h fl_X6_41 hb.1 rfl dX6_allSets_2 ?_
  refine k_ishl (pc := 5) h dX6_allSets_5 ?_
  have hk := Option.some.inj hk
  subst hk
  exact k_iret (pc := 6) h dX6_allSets_6 ⟨rfl, rfl, rfl, rfl, rfl, ⟨.int, rfl, rfl⟩⟩
def f_X6_begin_b22 (b : Nat) (l2 : Int32) (w : WW) : Option ((Int32 × WW) ⊕ (WW)) := if (16 : Int32) ≤ l2 then some (.inr w) else gd (inb l2 16) (stI w (b + 1) (l2).toNatClampNeg (1 : Int32) (fun u5 => some (.inl ((l2 + (1 : Int32)), u5))))
def f_X6_begin (b : Nat) (w : WW) (l1 : Int32) : Option (WW) := stI w b 0 l1 (fun u1 => stI u1 b 1 (0 : Int32) (fun u2 => stI u2 b 2 (0 : Int32) (fun u3 => stI u3 b 3 (0 : Int32) (fun u4 => (lpf (fun s : Int32 × WW => f_X6_begin_b22 b s.1 s.2) FU ((0 : Int32), u4)).bind (fun r6 => some r6)))))
set_option maxRecDepth 20000 in
set_option maxHeartbeats 4000000 in
theorem c_X6_begin {lay : List LyS} {b : Nat} (hb : StAt lay b) {w : WW} {l1 : Int32} {z : WW} (hk : f_X6_begin b w l1 = some z) : Cn 0 yX6_begin cX6_begin 3 none lay [.ref b, .int l1] w none z := by
  refine Cn.of (by decide +kernel) (Nat.le_of_ble_eq_true rfl) (fun G h => ?_)
  have h : Rules cX6_begin RX6 "begin" 3 (rmd 0 0 0) none _ _ lay 0 0 G := h
  show G 0 [(0, .ref b), (1, .int l1)] [] w
  unfold f_X6_begin at hk
  have LB22 : ∀ (nn : Nat) (s : Int32 × WW) (r : WW), lpf (fun s : Int32 × WW => f_X6_begin_b22 b s.1 s.2) nn s = some r → (fun r : WW => G 41 [] [] r) r → (fun s : Int32 × WW => G 22 [(0, .ref b), (2, .int s.1)] [] s.2) s := by
    refine lpf_ind (fun s : Int32 × WW => G 22 [(0, .ref b), (2, .int s.1)] [] s.2) (fun r : WW => G 41 [] [] r) ?_
    rintro ⟨l2, w⟩ z hk hz
    have hk : f_X6_begin_b22 b l2 w = some z := hk
    unfold f_X6_begin_b22 at hk
    show G 22 [(0, .ref b), (2, .int l2)] [] w
    refine k_iload_n (pc := 22) h 1 dX6_begin_22 rfl ?_
    refine k_bipush (pc := 23) h (x := (16 : Int32)) dX6_begin_23 (by decide) ?_
    refine k_icmp_ge (tgt := 41) (pc := 25) h dX6_begin_25 rfl hk (fun hc hk => ?_) (fun hc hk => ?_)
    · refine k_sub h [] (lv' := []) rfl ?_
      have hk := Option.some.inj hk
      subst hk
      exact hz
    · refine k_aload_n (pc := 28) h 0 dX6_begin_28 rfl ?_
      refine k_getr (pc := 29) h fl_X6_9 hb.1 rfl dX6_begin_29 ?_
      refine k_iload_n (pc := 32) h 1 dX6_begin_32 rfl ?_
      refine k_iconst (pc := 33) h (x := (1 : Int32)) dX6_begin_33 (by decide) ?_
      refine k_iast (pc := 34) h hb.2.1 dX6_begin_34 hk (fun u5 hk => ?_)
      refine k_iinc (pc := 35) h 1 [1, 0] (v := (l2 + (1 : Int32))) (lv' := [(0, .ref b), (2, .int (l2 + (1 : Int32)))]) dX6_begin_35 rfl rfl (by decide) rfl ?_
      refine k_goto (tgt := 22) (pc := 38) h dX6_begin_38 rfl ?_
      have hk := Option.some.inj hk
      subst hk
      exact hz
  refine k_aload_n (pc := 0) h 0 dX6_begin_0 rfl ?_
  refine k_iload_n (pc := 1) h 1 dX6_begin_1 rfl ?_
  refine k_puti (pc := 2) h fl_X6_37 hb.1 rfl dX6_begin_2 hk (fun u1 hk => ?_)
  refine k_aload_n (pc := 5) h 0 dX6_begin_5 rfl ?_
  refine k_iconst (pc := 6) h (x := (0 : Int32)) dX6_begin_6 (by decide) ?_
  refine k_puti (pc := 7) h fl_X6_41 hb.1 rfl dX6_begin_7 hk (fun u2 hk => ?_)
  refine k_aload_n (pc := 10) h 0 dX6_begin_10 rfl ?_
  refine k_iconst (pc := 11) h (x := (0 : Int32)) dX6_begin_11 (by decide) ?_
  refine k_puti (pc := 12) h fl_X6_44 hb.1 rfl dX6_begin_12 hk (fun u3 hk => ?_)
  refine k_aload_n (pc := 15) h 0 dX6_begin_15 rfl ?_
  refine k_iconst (pc := 16) h (x := (0 : Int32)) dX6_begin_16 (by decide) ?_
  refine k_puti (pc := 17) h fl_X6_47 hb.1 rfl dX6_begin_17 hk (fun u4 hk => ?_)
  refine k_iconst (pc := 20) h (x := (0 : Int32)) dX6_begin_20 (by decide) ?_
  refine k_istore_n (pc := 21) h [1, 2, 0] (lv' := [(0, .ref b), (1, .int l1), (2, .int (0 : Int32))]) dX6_begin_21 rfl (by decide) rfl ?_
  refine k_sub h [0, 2] (lv' := [(0, .ref b), (2, .int (0 : Int32))]) rfl ?_
  obtain ⟨r6, hl7, hk⟩ := bd_some hk
  refine LB22 _ _ _ hl7 ?_
  show G 41 [] [] r6
  have hk := Option.some.inj hk
  subst hk
  exact k_vret (pc := 41) h dX6_begin_41 ⟨rfl, rfl, rfl, rfl, rfl, rfl⟩
def f_X6_behind_j42 (b : Nat) (w : WW) (l1 : Int32) (l2 : Int32) (l4 : Int32) (l5 : Int32) : Option ((Int32 × Int32) ⊕ (Int32)) := some (.inl (l4, (l5 + (1 : Int32))))
def f_X6_behind_b6 (b : Nat) (w : WW) (l1 : Int32) (l2 : Int32) (l4 : Int32) (l5 : Int32) : Option ((Int32 × Int32) ⊕ (Int32)) := if (w.1 b 1) ≤ l5 then some (.inr l4) else if ((shr32 l1 l5) &&& (1 : Int32)) = (1 : Int32) then gd (inb ((l5 * (16 : Int32)) + l2) 112) (nmv (l4 &&& (w.1 (b + 5) (((l5 * (16 : Int32)) + l2)).toNatClampNeg)) (fun v1 => f_X6_behind_j42 b w l1 l2 v1 l5)) else f_X6_behind_j42 b w l1 l2 l4 l5
def f_X6_behind (b : Nat) (w : WW) (l1 : Int32) (l2 : Int32) (l3 : Int32) : Option (Int32) := (lpf (fun s : Int32 × Int32 => f_X6_behind_b6 b w l1 l2 s.1 s.2) FU (l3, (0 : Int32))).bind (fun r2 => some (r2))
set_option maxRecDepth 20000 in
set_option maxHeartbeats 4000000 in
theorem c_X6_behind {lay : List LyS} {b : Nat} (hb : StAt lay b) {w : WW} {l1 : Int32} {l2 : Int32} {l3 : Int32} {z : Int32} (hk : f_X6_behind b w l1 l2 l3 = some z) : Cn 0 yX6_behind cX6_behind 6 (some .int) lay [.ref b, .int l1, .int l2, .int l3] w (some (.int z)) w := by
  refine Cn.of (by decide +kernel) (Nat.le_of_ble_eq_true rfl) (fun G h => ?_)
  have h : Rules cX6_behind RX6 "behind" 6 (rmd 0 0 0) none _ _ lay 0 0 G := h
  show G 0 [(0, .ref b), (1, .int l1), (2, .int l2), (3, .int l3)] [] w
  unfold f_X6_behind at hk
  have EJ42 : ∀ (l1 : Int32) (l2 : Int32) (l4 : Int32) (l5 : Int32) (z : (Int32 × Int32) ⊕ (Int32)), f_X6_behind_j42 b w l1 l2 l4 l5 = some z → Sum.elim (fun s : Int32 × Int32 => G 6 [(0, .ref b), (1, .int l1), (2, .int l2), (4, .int s.1), (5, .int s.2)] [] w) (fun r : Int32 => G 48 [(4, .int r)] [] w) z → G 42 [(0, .ref b), (1, .int l1), (2, .int l2), (4, .int l4), (5, .int l5)] [] w := by
    intro l1 l2 l4 l5 z hk hz
    unfold f_X6_behind_j42 at hk
    refine k_iinc (pc := 42) h 4 [1, 2, 3, 4, 0] (v := (l5 + (1 : Int32))) (lv' := [(0, .ref b), (1, .int l1), (2, .int l2), (4, .int l4), (5, .int (l5 + (1 : Int32)))]) dX6_behind_42 rfl rfl (by decide) rfl ?_
    refine k_goto (tgt := 6) (pc := 45) h dX6_behind_45 rfl ?_
    have hk := Option.some.inj hk
    subst hk
    exact hz
  have LB6 : ∀ (l1 : Int32) (l2 : Int32), ∀ (nn : Nat) (s : Int32 × Int32) (r : Int32), lpf (fun s : Int32 × Int32 => f_X6_behind_b6 b w l1 l2 s.1 s.2) nn s = some r → (fun r : Int32 => G 48 [(4, .int r)] [] w) r → (fun s : Int32 × Int32 => G 6 [(0, .ref b), (1, .int l1), (2, .int l2), (4, .int s.1), (5, .int s.2)] [] w) s := by
    intro l1 l2
    refine lpf_ind (fun s : Int32 × Int32 => G 6 [(0, .ref b), (1, .int l1), (2, .int l2), (4, .int s.1), (5, .int s.2)] [] w) (fun r : Int32 => G 48 [(4, .int r)] [] w) ?_
    rintro ⟨l4, l5⟩ z hk hz
    have hk : f_X6_behind_b6 b w l1 l2 l4 l5 = some z := hk
    unfold f_X6_behind_b6 at hk
    show G 6 [(0, .ref b), (1, .int l1), (2, .int l2), (4, .int l4), (5, .int l5)] [] w
    refine k_iload (pc := 6) h 4 dX6_behind_6 rfl ?_
    refine k_aload_n (pc := 8) h 0 dX6_behind_8 rfl ?_
    refine k_geti (pc := 9) h fl_X6_41 hb.1 rfl dX6_behind_9 ?_
    refine k_icmp_ge (tgt := 48) (pc := 12) h dX6_behind_12 rfl hk (fun hc hk => ?_) (fun hc hk => ?_)
    · refine k_sub h [3] (lv' := [(4, .int l4)]) rfl ?_
      have hk := Option.some.inj hk
      subst hk
      exact hz
    · refine k_iload_n (pc := 15) h 1 dX6_behind_15 rfl ?_
      refine k_iload (pc := 16) h 4 dX6_behind_16 rfl ?_
      refine k_ishr (pc := 18) h dX6_behind_18 ?_
      refine k_iconst (pc := 19) h (x := (1 : Int32)) dX6_behind_19 (by decide) ?_
      refine k_iand (pc := 20) h dX6_behind_20 ?_
      refine k_iconst (pc := 21) h (x := (1 : Int32)) dX6_behind_21 (by decide) ?_
      refine k_icmp_ne (tgt := 42) (pc := 22) h dX6_behind_22 rfl hk (fun hc hk => ?_) (fun hc hk => ?_)
      · exact EJ42 _ _ _ _ _ hk hz
      · refine k_iload (pc := 25) h 3 dX6_behind_25 rfl ?_
        refine k_aload_n (pc := 27) h 0 dX6_behind_27 rfl ?_
        refine k_getr (pc := 28) h fl_X6_24 hb.1 rfl dX6_behind_28 ?_
        refine k_iload (pc := 31) h 4 dX6_behind_31 rfl ?_
        refine k_bipush (pc := 33) h (x := (16 : Int32)) dX6_behind_33 (by decide) ?_
        refine k_imul (pc := 35) h dX6_behind_35 ?_
        refine k_iload_n (pc := 36) h 2 dX6_behind_36 rfl ?_
        refine k_iadd (pc := 37) h dX6_behind_37 ?_
        refine k_iald (pc := 38) h hb.2.2.2.2.2.1 dX6_behind_38 hk (fun hk => ?_)
        refine k_iand (pc := 39) h dX6_behind_39 ?_
        refine k_nmi (pc := 40) h hk (fun v1 hk => ?_)
        refine k_istore (pc := 40) h [1, 2, 3, 0, 4] (lv' := [(0, .ref b), (1, .int l1), (2, .int l2), (4, .int v1), (5, .int l5)]) dX6_behind_40 (by decide) rfl ?_
        exact EJ42 _ _ _ _ _ hk hz
  refine k_iload_n (pc := 0) h 3 dX6_behind_0 rfl ?_
  refine k_istore (pc := 1) h [1, 2, 3, 4, 0] (lv' := [(0, .ref b), (1, .int l1), (2, .int l2), (3, .int l3), (4, .int l3)]) dX6_behind_1 (by decide) rfl ?_
  refine k_iconst (pc := 3) h (x := (0 : Int32)) dX6_behind_3 (by decide) ?_
  refine k_istore (pc := 4) h [1, 2, 3, 4, 5, 0] (lv' := [(0, .ref b), (1, .int l1), (2, .int l2), (3, .int l3), (4, .int l3), (5, .int (0 : Int32))]) dX6_behind_4 (by decide) rfl ?_
  refine k_sub h [0, 1, 2, 4, 5] (lv' := [(0, .ref b), (1, .int l1), (2, .int l2), (4, .int l3), (5, .int (0 : Int32))]) rfl ?_
  obtain ⟨r2, hl3, hk⟩ := bd_some hk
  refine LB6 _ _ _ _ _ hl3 ?_
  show G 48 [(4, .int r2)] [] w
  refine k_iload (pc := 48) h 0 dX6_behind_48 rfl ?_
  have hk := Option.some.inj hk
  subst hk
  exact k_iret (pc := 50) h dX6_behind_50 ⟨rfl, rfl, rfl, rfl, rfl, ⟨.int, rfl, rfl⟩⟩
def f_X6_howManyParts_j50 (b : Nat) (w : WW) (l1 : Int32) (l3 : Int32) (l4 : Int32) (l5 : Int32) : Option ((Int32 × Int32 × Int32) ⊕ (Int32)) := some (.inl (l3, l4, (l5 + (1 : Int32))))
def f_X6_howManyParts_b8 (b : Nat) (w : WW) (l1 : Int32) (l3 : Int32) (l4 : Int32) (l5 : Int32) : Option ((Int32 × Int32 × Int32) ⊕ (Int32)) := if (w.1 b 0) ≤ l5 then some (.inr l3) else if ((shr32 l4 l5) &&& (1 : Int32)) = (1 : Int32) then gd (inb ((l1 * (16 : Int32)) + l5) 112) (nmv (l4 &&& ((w.1 (b + 5) (((l1 * (16 : Int32)) + l5)).toNatClampNeg) ^^^ (-1 : Int32))) (fun v1 => f_X6_howManyParts_j50 b w l1 (l3 + (1 : Int32)) v1 l5)) else f_X6_howManyParts_j50 b w l1 l3 l4 l5
def f_X6_howManyParts (b : Nat) (w : WW) (l1 : Int32) (l2 : Int32) : Option (Int32) := (lpf (fun s : Int32 × Int32 × Int32 => f_X6_howManyParts_b8 b w l1 s.1 s.2.1 s.2.2) FU ((0 : Int32), l2, (0 : Int32))).bind (fun r2 => some (r2))
set_option maxRecDepth 20000 in
set_option maxHeartbeats 4000000 in
theorem c_X6_howManyParts {lay : List LyS} {b : Nat} (hb : StAt lay b) {w : WW} {l1 : Int32} {l2 : Int32} {z : Int32} (hk : f_X6_howManyParts b w l1 l2 = some z) : Cn 0 yX6_howManyParts cX6_howManyParts 6 (some .int) lay [.ref b, .int l1, .int l2] w (some (.int z)) w := by
  refine Cn.of (by decide +kernel) (Nat.le_of_ble_eq_true rfl) (fun G h => ?_)
  have h : Rules cX6_howManyParts RX6 "howManyParts" 6 (rmd 0 0 0) none _ _ lay 0 0 G := h
  show G 0 [(0, .ref b), (1, .int l1), (2, .int l2)] [] w
  unfold f_X6_howManyParts at hk
  have EJ50 : ∀ (l1 : Int32) (l3 : Int32) (l4 : Int32) (l5 : Int32) (z : (Int32 × Int32 × Int32) ⊕ (Int32)), f_X6_howManyParts_j50 b w l1 l3 l4 l5 = some z → Sum.elim (fun s : Int32 × Int32 × Int32 => G 8 [(0, .ref b), (1, .int l1), (3, .int s.1), (4, .int s.2.1), (5, .int s.2.2)] [] w) (fun r : Int32 => G 56 [(3, .int r)] [] w) z → G 50 [(0, .ref b), (1, .int l1), (3, .int l3), (4, .int l4), (5, .int l5)] [] w := by
    intro l1 l3 l4 l5 z hk hz
    unfold f_X6_howManyParts_j50 at hk
    refine k_iinc (pc := 50) h 4 [1, 2, 3, 4, 0] (v := (l5 + (1 : Int32))) (lv' := [(0, .ref b), (1, .int l1), (3, .int l3), (4, .int l4), (5, .int (l5 + (1 : Int32)))]) dX6_howManyParts_50 rfl rfl (by decide) rfl ?_
    refine k_goto (tgt := 8) (pc := 53) h dX6_howManyParts_53 rfl ?_
    have hk := Option.some.inj hk
    subst hk
    exact hz
  have LB8 : ∀ (l1 : Int32), ∀ (nn : Nat) (s : Int32 × Int32 × Int32) (r : Int32), lpf (fun s : Int32 × Int32 × Int32 => f_X6_howManyParts_b8 b w l1 s.1 s.2.1 s.2.2) nn s = some r → (fun r : Int32 => G 56 [(3, .int r)] [] w) r → (fun s : Int32 × Int32 × Int32 => G 8 [(0, .ref b), (1, .int l1), (3, .int s.1), (4, .int s.2.1), (5, .int s.2.2)] [] w) s := by
    intro l1
    refine lpf_ind (fun s : Int32 × Int32 × Int32 => G 8 [(0, .ref b), (1, .int l1), (3, .int s.1), (4, .int s.2.1), (5, .int s.2.2)] [] w) (fun r : Int32 => G 56 [(3, .int r)] [] w) ?_
    rintro ⟨l3, l4, l5⟩ z hk hz
    have hk : f_X6_howManyParts_b8 b w l1 l3 l4 l5 = some z := hk
    unfold f_X6_howManyParts_b8 at hk
    show G 8 [(0, .ref b), (1, .int l1), (3, .int l3), (4, .int l4), (5, .int l5)] [] w
    refine k_iload (pc := 8) h 4 dX6_howManyParts_8 rfl ?_
    refine k_aload_n (pc := 10) h 0 dX6_howManyParts_10 rfl ?_
    refine k_geti (pc := 11) h fl_X6_37 hb.1 rfl dX6_howManyParts_11 ?_
    refine k_icmp_ge (tgt := 56) (pc := 14) h dX6_howManyParts_14 rfl hk (fun hc hk => ?_) (fun hc hk => ?_)
    · refine k_sub h [2] (lv' := [(3, .int l3)]) rfl ?_
      have hk := Option.some.inj hk
      subst hk
      exact hz
    · refine k_iload (pc := 17) h 3 dX6_howManyParts_17 rfl ?_
      refine k_iload (pc := 19) h 4 dX6_howManyParts_19 rfl ?_
      refine k_ishr (pc := 21) h dX6_howManyParts_21 ?_
      refine k_iconst (pc := 22) h (x := (1 : Int32)) dX6_howManyParts_22 (by decide) ?_
      refine k_iand (pc := 23) h dX6_howManyParts_23 ?_
      refine k_iconst (pc := 24) h (x := (1 : Int32)) dX6_howManyParts_24 (by decide) ?_
      refine k_icmp_ne (tgt := 50) (pc := 25) h dX6_howManyParts_25 rfl hk (fun hc hk => ?_) (fun hc hk => ?_)
      · exact EJ50 _ _ _ _ _ hk hz
      · refine k_iinc (pc := 28) h 2 [1, 2, 0, 3, 4] (v := (l3 + (1 : Int32))) (lv' := [(0, .ref b), (1, .int l1), (3, .int (l3 + (1 : Int32))), (4, .int l4), (5, .int l5)]) dX6_howManyParts_28 rfl rfl (by decide) rfl ?_
        refine k_iload (pc := 31) h 3 dX6_howManyParts_31 rfl ?_
        refine k_aload_n (pc := 33) h 0 dX6_howManyParts_33 rfl ?_
        refine k_getr (pc := 34) h fl_X6_24 hb.1 rfl dX6_howManyParts_34 ?_
        refine k_iload_n (pc := 37) h 1 dX6_howManyParts_37 rfl ?_
        refine k_bipush (pc := 38) h (x := (16 : Int32)) dX6_howManyParts_38 (by decide) ?_
        refine k_imul (pc := 40) h dX6_howManyParts_40 ?_
        refine k_iload (pc := 41) h 4 dX6_howManyParts_41 rfl ?_
        refine k_iadd (pc := 43) h dX6_howManyParts_43 ?_
        refine k_iald (pc := 44) h hb.2.2.2.2.2.1 dX6_howManyParts_44 hk (fun hk => ?_)
        refine k_iconst (pc := 45) h (x := (-1 : Int32)) dX6_howManyParts_45 (by decide) ?_
        refine k_ixor (pc := 46) h dX6_howManyParts_46 ?_
        refine k_iand (pc := 47) h dX6_howManyParts_47 ?_
        refine k_nmi (pc := 48) h hk (fun v1 hk => ?_)
        refine k_istore (pc := 48) h [1, 2, 3, 0, 4] (lv' := [(0, .ref b), (1, .int l1), (3, .int (l3 + (1 : Int32))), (4, .int v1), (5, .int l5)]) dX6_howManyParts_48 (by decide) rfl ?_
        exact EJ50 _ _ _ _ _ hk hz
  refine k_iconst (pc := 0) h (x := (0 : Int32)) dX6_howManyParts_0 (by decide) ?_
  refine k_istore_n (pc := 1) h [1, 2, 3, 0] (lv' := [(0, .ref b), (1, .int l1), (2, .int l2), (3, .int (0 : Int32))]) dX6_howManyParts_1 rfl (by decide) rfl ?_
  refine k_iload_n (pc := 2) h 2 dX6_howManyParts_2 rfl ?_
  refine k_istore (pc := 3) h [1, 2, 3, 4, 0] (lv' := [(0, .ref b), (1, .int l1), (2, .int l2), (3, .int (0 : Int32)), (4, .int l2)]) dX6_howManyParts_3 (by decide) rfl ?_
  refine k_iconst (pc := 5) h (x := (0 : Int32)) dX6_howManyParts_5 (by decide) ?_
  refine k_istore (pc := 6) h [1, 2, 3, 4, 5, 0] (lv' := [(0, .ref b), (1, .int l1), (2, .int l2), (3, .int (0 : Int32)), (4, .int l2), (5, .int (0 : Int32))]) dX6_howManyParts_6 (by decide) rfl ?_
  refine k_sub h [0, 1, 3, 4, 5] (lv' := [(0, .ref b), (1, .int l1), (3, .int (0 : Int32)), (4, .int l2), (5, .int (0 : Int32))]) rfl ?_
  obtain ⟨r2, hl3, hk⟩ := bd_some hk
  refine LB8 _ _ _ _ hl3 ?_
  show G 56 [(3, .int r2)] [] w
  refine k_iload_n (pc := 56) h 0 dX6_howManyParts_56 rfl ?_
  have hk := Option.some.inj hk
  subst hk
  exact k_iret (pc := 57) h dX6_howManyParts_57 ⟨rfl, rfl, rfl, rfl, rfl, ⟨.int, rfl, rfl⟩⟩
def f_X6_mixInto_b5 (b : Nat) (w : WW) (l3 : Int64) (l5 : Int32) : Option ((Int64 × Int32) ⊕ (Int64)) := if (w.1 b 0) ≤ l5 then some (.inr l3) else gd (inb l5 16) (nmv (((31 : Int64) * l3) + (((w.1 (b + 1) (l5).toNatClampNeg)).toInt64)) (fun v1 => some (.inl (v1, (l5 + (1 : Int32))))))
def f_X6_mixInto_b38 (b : Nat) (w : WW) (l3 : Int64) (l5 : Int32) : Option ((Int64 × Int32) ⊕ (Int64)) := if (w.1 b 1) ≤ l5 then some (.inr l3) else gd (inb l5 7) (nmv (((31 : Int64) * l3) + (((w.1 (b + 2) (l5).toNatClampNeg)).toInt64)) (fun v4 => gd (inb l5 7) (nmv (((31 : Int64) * v4) + (((w.1 (b + 3) (l5).toNatClampNeg)).toInt64)) (fun v5 => gd (inb l5 7) (nmv (((31 : Int64) * v5) + (((w.1 (b + 4) (l5).toNatClampNeg)).toInt64)) (fun v6 => some (.inl (v6, (l5 + (1 : Int32))))))))))
def f_X6_mixInto_b101 (b : Nat) (w : WW) (l3 : Int64) (l5 : Int32) : Option ((Int64 × Int32) ⊕ (Int64)) := if (w.1 b 2) ≤ l5 then some (.inr l3) else gd (inb l5 8) (gd (¬ (16 : Int32) = 0) (nmv (((31 : Int64) * l3) + ((((w.1 (b + 6) (l5).toNatClampNeg) / (16 : Int32))).toInt64)) (fun v9 => gd (inb l5 8) (gd (¬ (16 : Int32) = 0) (nmv (((31 : Int64) * v9) + (((rm32 (w.1 (b + 6) (l5).toNatClampNeg) (16 : Int32))).toInt64)) (fun v10 => some (.inl (v10, (l5 + (1 : Int32))))))))))
def f_X6_mixInto (b : Nat) (w : WW) (l1 : Int64) : Option (Int64) := (lpf (fun s : Int64 × Int32 => f_X6_mixInto_b5 b w s.1 s.2) FU (l1, (0 : Int32))).bind (fun r2 => (lpf (fun s : Int64 × Int32 => f_X6_mixInto_b38 b w s.1 s.2) FU (r2, (0 : Int32))).bind (fun r7 => (lpf (fun s : Int64 × Int32 => f_X6_mixInto_b101 b w s.1 s.2) FU (r7, (0 : Int32))).bind (fun r11 => some (r11))))
set_option maxRecDepth 20000 in
set_option maxHeartbeats 4000000 in
theorem c_X6_mixInto {lay : List LyS} {b : Nat} (hb : StAt lay b) {w : WW} {l1 : Int64} {z : Int64} (hk : f_X6_mixInto b w l1 = some z) : Cn 0 yX6_mixInto cX6_mixInto 6 (some .long) lay [.ref b, .long l1] w (some (.long z)) w := by
  refine Cn.of (by decide +kernel) (Nat.le_of_ble_eq_true rfl) (fun G h => ?_)
  have h : Rules cX6_mixInto RX6 "mixInto" 6 (rmd 0 0 0) none _ _ lay 0 0 G := h
  show G 0 [(0, .ref b), (1, .long l1)] [] w
  unfold f_X6_mixInto at hk
  have LB5 : ∀ (nn : Nat) (s : Int64 × Int32) (r : Int64), lpf (fun s : Int64 × Int32 => f_X6_mixInto_b5 b w s.1 s.2) nn s = some r → (fun r : Int64 => G 35 [(0, .ref b), (3, .long r)] [] w) r → (fun s : Int64 × Int32 => G 5 [(0, .ref b), (3, .long s.1), (5, .int s.2)] [] w) s := by
    refine lpf_ind (fun s : Int64 × Int32 => G 5 [(0, .ref b), (3, .long s.1), (5, .int s.2)] [] w) (fun r : Int64 => G 35 [(0, .ref b), (3, .long r)] [] w) ?_
    rintro ⟨l3, l5⟩ z hk hz
    have hk : f_X6_mixInto_b5 b w l3 l5 = some z := hk
    unfold f_X6_mixInto_b5 at hk
    show G 5 [(0, .ref b), (3, .long l3), (5, .int l5)] [] w
    refine k_iload (pc := 5) h 2 dX6_mixInto_5 rfl ?_
    refine k_aload_n (pc := 7) h 0 dX6_mixInto_7 rfl ?_
    refine k_geti (pc := 8) h fl_X6_37 hb.1 rfl dX6_mixInto_8 ?_
    refine k_icmp_ge (tgt := 35) (pc := 11) h dX6_mixInto_11 rfl hk (fun hc hk => ?_) (fun hc hk => ?_)
    · refine k_sub h [0, 1] (lv' := [(0, .ref b), (3, .long l3)]) rfl ?_
      have hk := Option.some.inj hk
      subst hk
      exact hz
    · refine k_ldc2 (pc := 14) h (x := (31 : Int64)) cs_X6_91 dX6_mixInto_14 ?_
      refine k_lload_n (pc := 17) h 1 dX6_mixInto_17 rfl ?_
      refine k_lmul (pc := 18) h dX6_mixInto_18 ?_
      refine k_aload_n (pc := 19) h 0 dX6_mixInto_19 rfl ?_
      refine k_getr (pc := 20) h fl_X6_9 hb.1 rfl dX6_mixInto_20 ?_
      refine k_iload (pc := 23) h 2 dX6_mixInto_23 rfl ?_
      refine k_iald (pc := 25) h hb.2.1 dX6_mixInto_25 hk (fun hk => ?_)
      refine k_i2l (pc := 26) h dX6_mixInto_26 ?_
      refine k_ladd (pc := 27) h dX6_mixInto_27 ?_
      refine k_nml (pc := 28) h hk (fun v1 hk => ?_)
      refine k_lstore_n (pc := 28) h [1, 0, 2] (lv' := [(0, .ref b), (3, .long v1), (5, .int l5)]) dX6_mixInto_28 rfl (by decide) rfl ?_
      refine k_iinc (pc := 29) h 2 [1, 2, 0] (v := (l5 + (1 : Int32))) (lv' := [(0, .ref b), (3, .long v1), (5, .int (l5 + (1 : Int32)))]) dX6_mixInto_29 rfl rfl (by decide) rfl ?_
      refine k_goto (tgt := 5) (pc := 32) h dX6_mixInto_32 rfl ?_
      have hk := Option.some.inj hk
      subst hk
      exact hz
  have LB38 : ∀ (nn : Nat) (s : Int64 × Int32) (r : Int64), lpf (fun s : Int64 × Int32 => f_X6_mixInto_b38 b w s.1 s.2) nn s = some r → (fun r : Int64 => G 98 [(0, .ref b), (3, .long r)] [] w) r → (fun s : Int64 × Int32 => G 38 [(0, .ref b), (3, .long s.1), (5, .int s.2)] [] w) s := by
    refine lpf_ind (fun s : Int64 × Int32 => G 38 [(0, .ref b), (3, .long s.1), (5, .int s.2)] [] w) (fun r : Int64 => G 98 [(0, .ref b), (3, .long r)] [] w) ?_
    rintro ⟨l3, l5⟩ z hk hz
    have hk : f_X6_mixInto_b38 b w l3 l5 = some z := hk
    unfold f_X6_mixInto_b38 at hk
    show G 38 [(0, .ref b), (3, .long l3), (5, .int l5)] [] w
    refine k_iload (pc := 38) h 2 dX6_mixInto_38 rfl ?_
    refine k_aload_n (pc := 40) h 0 dX6_mixInto_40 rfl ?_
    refine k_geti (pc := 41) h fl_X6_41 hb.1 rfl dX6_mixInto_41 ?_
    refine k_icmp_ge (tgt := 98) (pc := 44) h dX6_mixInto_44 rfl hk (fun hc hk => ?_) (fun hc hk => ?_)
    · refine k_sub h [0, 1] (lv' := [(0, .ref b), (3, .long l3)]) rfl ?_
      have hk := Option.some.inj hk
      subst hk
      exact hz
    · refine k_ldc2 (pc := 47) h (x := (31 : Int64)) cs_X6_91 dX6_mixInto_47 ?_
      refine k_lload_n (pc := 50) h 1 dX6_mixInto_50 rfl ?_
      refine k_lmul (pc := 51) h dX6_mixInto_51 ?_
      refine k_aload_n (pc := 52) h 0 dX6_mixInto_52 rfl ?_
      refine k_getr (pc := 53) h fl_X6_15 hb.1 rfl dX6_mixInto_53 ?_
      refine k_iload (pc := 56) h 2 dX6_mixInto_56 rfl ?_
      refine k_iald (pc := 58) h hb.2.2.1 dX6_mixInto_58 hk (fun hk => ?_)
      refine k_i2l (pc := 59) h dX6_mixInto_59 ?_
      refine k_ladd (pc := 60) h dX6_mixInto_60 ?_
      refine k_nml (pc := 61) h hk (fun v4 hk => ?_)
      refine k_lstore_n (pc := 61) h [1, 0, 2] (lv' := [(0, .ref b), (3, .long v4), (5, .int l5)]) dX6_mixInto_61 rfl (by decide) rfl ?_
      refine k_ldc2 (pc := 62) h (x := (31 : Int64)) cs_X6_91 dX6_mixInto_62 ?_
      refine k_lload_n (pc := 65) h 1 dX6_mixInto_65 rfl ?_
      refine k_lmul (pc := 66) h dX6_mixInto_66 ?_
      refine k_aload_n (pc := 67) h 0 dX6_mixInto_67 rfl ?_
      refine k_getr (pc := 68) h fl_X6_18 hb.1 rfl dX6_mixInto_68 ?_
      refine k_iload (pc := 71) h 2 dX6_mixInto_71 rfl ?_
      refine k_iald (pc := 73) h hb.2.2.2.1 dX6_mixInto_73 hk (fun hk => ?_)
      refine k_i2l (pc := 74) h dX6_mixInto_74 ?_
      refine k_ladd (pc := 75) h dX6_mixInto_75 ?_
      refine k_nml (pc := 76) h hk (fun v5 hk => ?_)
      refine k_lstore_n (pc := 76) h [1, 0, 2] (lv' := [(0, .ref b), (3, .long v5), (5, .int l5)]) dX6_mixInto_76 rfl (by decide) rfl ?_
      refine k_ldc2 (pc := 77) h (x := (31 : Int64)) cs_X6_91 dX6_mixInto_77 ?_
      refine k_lload_n (pc := 80) h 1 dX6_mixInto_80 rfl ?_
      refine k_lmul (pc := 81) h dX6_mixInto_81 ?_
      refine k_aload_n (pc := 82) h 0 dX6_mixInto_82 rfl ?_
      refine k_getr (pc := 83) h fl_X6_21 hb.1 rfl dX6_mixInto_83 ?_
      refine k_iload (pc := 86) h 2 dX6_mixInto_86 rfl ?_
      refine k_iald (pc := 88) h hb.2.2.2.2.1 dX6_mixInto_88 hk (fun hk => ?_)
      refine k_i2l (pc := 89) h dX6_mixInto_89 ?_
      refine k_ladd (pc := 90) h dX6_mixInto_90 ?_
      refine k_nml (pc := 91) h hk (fun v6 hk => ?_)
      refine k_lstore_n (pc := 91) h [1, 0, 2] (lv' := [(0, .ref b), (3, .long v6), (5, .int l5)]) dX6_mixInto_91 rfl (by decide) rfl ?_
      refine k_iinc (pc := 92) h 2 [1, 2, 0] (v := (l5 + (1 : Int32))) (lv' := [(0, .ref b), (3, .long v6), (5, .int (l5 + (1 : Int32)))]) dX6_mixInto_92 rfl rfl (by decide) rfl ?_
      refine k_goto (tgt := 38) (pc := 95) h dX6_mixInto_95 rfl ?_
      have hk := Option.some.inj hk
      subst hk
      exact hz
  have LB101 : ∀ (nn : Nat) (s : Int64 × Int32) (r : Int64), lpf (fun s : Int64 × Int32 => f_X6_mixInto_b101 b w s.1 s.2) nn s = some r → (fun r : Int64 => G 152 [(3, .long r)] [] w) r → (fun s : Int64 × Int32 => G 101 [(0, .ref b), (3, .long s.1), (5, .int s.2)] [] w) s := by
    refine lpf_ind (fun s : Int64 × Int32 => G 101 [(0, .ref b), (3, .long s.1), (5, .int s.2)] [] w) (fun r : Int64 => G 152 [(3, .long r)] [] w) ?_
    rintro ⟨l3, l5⟩ z hk hz
    have hk : f_X6_mixInto_b101 b w l3 l5 = some z := hk
    unfold f_X6_mixInto_b101 at hk
    show G 101 [(0, .ref b), (3, .long l3), (5, .int l5)] [] w
    refine k_iload (pc := 101) h 2 dX6_mixInto_101 rfl ?_
    refine k_aload_n (pc := 103) h 0 dX6_mixInto_103 rfl ?_
    refine k_geti (pc := 104) h fl_X6_44 hb.1 rfl dX6_mixInto_104 ?_
    refine k_icmp_ge (tgt := 152) (pc := 107) h dX6_mixInto_107 rfl hk (fun hc hk => ?_) (fun hc hk => ?_)
    · refine k_sub h [1] (lv' := [(3, .long l3)]) rfl ?_
      have hk := Option.some.inj hk
      subst hk
      exact hz
    · refine k_ldc2 (pc := 110) h (x := (31 : Int64)) cs_X6_91 dX6_mixInto_110 ?_
      refine k_lload_n (pc := 113) h 1 dX6_mixInto_113 rfl ?_
      refine k_lmul (pc := 114) h dX6_mixInto_114 ?_
      refine k_aload_n (pc := 115) h 0 dX6_mixInto_115 rfl ?_
      refine k_getr (pc := 116) h fl_X6_27 hb.1 rfl dX6_mixInto_116 ?_
      refine k_iload (pc := 119) h 2 dX6_mixInto_119 rfl ?_
      refine k_iald (pc := 121) h hb.2.2.2.2.2.2.1 dX6_mixInto_121 hk (fun hk => ?_)
      refine k_bipush (pc := 122) h (x := (16 : Int32)) dX6_mixInto_122 (by decide) ?_
      refine k_idiv (pc := 124) h dX6_mixInto_124 hk (fun hk => ?_)
      refine k_i2l (pc := 125) h dX6_mixInto_125 ?_
      refine k_ladd (pc := 126) h dX6_mixInto_126 ?_
      refine k_nml (pc := 127) h hk (fun v9 hk => ?_)
      refine k_lstore_n (pc := 127) h [1, 0, 2] (lv' := [(0, .ref b), (3, .long v9), (5, .int l5)]) dX6_mixInto_127 rfl (by decide) rfl ?_
      refine k_ldc2 (pc := 128) h (x := (31 : Int64)) cs_X6_91 dX6_mixInto_128 ?_
      refine k_lload_n (pc := 131) h 1 dX6_mixInto_131 rfl ?_
      refine k_lmul (pc := 132) h dX6_mixInto_132 ?_
      refine k_aload_n (pc := 133) h 0 dX6_mixInto_133 rfl ?_
      refine k_getr (pc := 134) h fl_X6_27 hb.1 rfl dX6_mixInto_134 ?_
      refine k_iload (pc := 137) h 2 dX6_mixInto_137 rfl ?_
      refine k_iald (pc := 139) h hb.2.2.2.2.2.2.1 dX6_mixInto_139 hk (fun hk => ?_)
      refine k_bipush (pc := 140) h (x := (16 : Int32)) dX6_mixInto_140 (by decide) ?_
      refine k_irem (pc := 142) h dX6_mixInto_142 hk (fun hk => ?_)
      refine k_i2l (pc := 143) h dX6_mixInto_143 ?_
      refine k_ladd (pc := 144) h dX6_mixInto_144 ?_
      refine k_nml (pc := 145) h hk (fun v10 hk => ?_)
      refine k_lstore_n (pc := 145) h [1, 0, 2] (lv' := [(0, .ref b), (3, .long v10), (5, .int l5)]) dX6_mixInto_145 rfl (by decide) rfl ?_
      refine k_iinc (pc := 146) h 2 [1, 2, 0] (v := (l5 + (1 : Int32))) (lv' := [(0, .ref b), (3, .long v10), (5, .int (l5 + (1 : Int32)))]) dX6_mixInto_146 rfl rfl (by decide) rfl ?_
      refine k_goto (tgt := 101) (pc := 149) h dX6_mixInto_149 rfl ?_
      have hk := Option.some.inj hk
      subst hk
      exact hz
  refine k_lload_n (pc := 0) h 1 dX6_mixInto_0 rfl ?_
  refine k_lstore_n (pc := 1) h [1, 2, 0] (lv' := [(0, .ref b), (1, .long l1), (3, .long l1)]) dX6_mixInto_1 rfl (by decide) rfl ?_
  refine k_iconst (pc := 2) h (x := (0 : Int32)) dX6_mixInto_2 (by decide) ?_
  refine k_istore (pc := 3) h [1, 2, 3, 0] (lv' := [(0, .ref b), (1, .long l1), (3, .long l1), (5, .int (0 : Int32))]) dX6_mixInto_3 (by decide) rfl ?_
  refine k_sub h [0, 2, 3] (lv' := [(0, .ref b), (3, .long l1), (5, .int (0 : Int32))]) rfl ?_
  obtain ⟨r2, hl3, hk⟩ := bd_some hk
  refine LB5 _ _ _ hl3 ?_
  show G 35 [(0, .ref b), (3, .long r2)] [] w
  refine k_iconst (pc := 35) h (x := (0 : Int32)) dX6_mixInto_35 (by decide) ?_
  refine k_istore (pc := 36) h [1, 2, 0] (lv' := [(0, .ref b), (3, .long r2), (5, .int (0 : Int32))]) dX6_mixInto_36 (by decide) rfl ?_
  obtain ⟨r7, hl8, hk⟩ := bd_some hk
  refine LB38 _ _ _ hl8 ?_
  show G 98 [(0, .ref b), (3, .long r7)] [] w
  refine k_iconst (pc := 98) h (x := (0 : Int32)) dX6_mixInto_98 (by decide) ?_
  refine k_istore (pc := 99) h [1, 2, 0] (lv' := [(0, .ref b), (3, .long r7), (5, .int (0 : Int32))]) dX6_mixInto_99 (by decide) rfl ?_
  obtain ⟨r11, hl12, hk⟩ := bd_some hk
  refine LB101 _ _ _ hl12 ?_
  show G 152 [(3, .long r11)] [] w
  refine k_lload_n (pc := 152) h 0 dX6_mixInto_152 rfl ?_
  have hk := Option.some.inj hk
  subst hk
  exact k_lret (pc := 153) h dX6_mixInto_153 ⟨rfl, rfl, rfl, rfl, rfl, rfl⟩
def f_X6_partAlike_j58 (b : Nat) (w : WW) (l1 : Int32) (l2 : Int32) (l3 : Int32) (l4 : Int32) : Option ((Int32) ⊕ ((Unit) ⊕ (Unit))) := some (.inl (l4 + (1 : Int32)))
def f_X6_partAlike_b3 (b : Nat) (w : WW) (l1 : Int32) (l2 : Int32) (l3 : Int32) (l4 : Int32) : Option ((Int32) ⊕ ((Unit) ⊕ (Unit))) := if (w.1 b 0) ≤ l4 then some (.inr (.inr ())) else gd (inb ((l1 * (16 : Int32)) + l4) 112) (gd (inb ((l2 * (16 : Int32)) + l4) 112) (nmv ((w.1 (b + 5) (((l1 * (16 : Int32)) + l4)).toNatClampNeg) ^^^ (w.1 (b + 5) (((l2 * (16 : Int32)) + l4)).toNatClampNeg)) (fun v1 => if ((shr32 l3 l4) &&& (1 : Int32)) = (1 : Int32) then if (v1 &&& l3) = 0 then f_X6_partAlike_j58 b w l1 l2 l3 l4 else some (.inr (.inl ())) else f_X6_partAlike_j58 b w l1 l2 l3 l4)))
def f_X6_partAlike (b : Nat) (w : WW) (l1 : Int32) (l2 : Int32) (l3 : Int32) : Option (Int32) := (lpf (fun s : Int32 => f_X6_partAlike_b3 b w l1 l2 l3 s) FU (0 : Int32)).bind (Sum.elim (fun r2 => some ((0 : Int32))) (fun r2 => some ((1 : Int32))))
set_option maxRecDepth 20000 in
set_option maxHeartbeats 4000000 in
theorem c_X6_partAlike {lay : List LyS} {b : Nat} (hb : StAt lay b) {w : WW} {l1 : Int32} {l2 : Int32} {l3 : Int32} {z : Int32} (hk : f_X6_partAlike b w l1 l2 l3 = some z) : Cn 0 yX6_partAlike cX6_partAlike 6 (some .boolean) lay [.ref b, .int l1, .int l2, .int l3] w (some (.int z)) w := by
  refine Cn.of (by decide +kernel) (Nat.le_of_ble_eq_true rfl) (fun G h => ?_)
  have h : Rules cX6_partAlike RX6 "partAlike" 6 (rmd 0 0 0) none _ _ lay 0 0 G := h
  show G 0 [(0, .ref b), (1, .int l1), (2, .int l2), (3, .int l3)] [] w
  unfold f_X6_partAlike at hk
  have EJ58 : ∀ (l1 : Int32) (l2 : Int32) (l3 : Int32) (l4 : Int32) (z : (Int32) ⊕ ((Unit) ⊕ (Unit))), f_X6_partAlike_j58 b w l1 l2 l3 l4 = some z → Sum.elim (fun s : Int32 => G 3 [(0, .ref b), (1, .int l1), (2, .int l2), (3, .int l3), (4, .int s)] [] w) (Sum.elim (fun r : Unit => G 56 [] [] w) (fun r : Unit => G 64 [] [] w)) z → G 58 [(0, .ref b), (1, .int l1), (2, .int l2), (3, .int l3), (4, .int l4)] [] w := by
    intro l1 l2 l3 l4 z hk hz
    unfold f_X6_partAlike_j58 at hk
    refine k_iinc (pc := 58) h 4 [1, 2, 3, 4, 0] (v := (l4 + (1 : Int32))) (lv' := [(0, .ref b), (1, .int l1), (2, .int l2), (3, .int l3), (4, .int (l4 + (1 : Int32)))]) dX6_partAlike_58 rfl rfl (by decide) rfl ?_
    refine k_goto (tgt := 3) (pc := 61) h dX6_partAlike_61 rfl ?_
    have hk := Option.some.inj hk
    subst hk
    exact hz
  have LB3 : ∀ (l1 : Int32) (l2 : Int32) (l3 : Int32), ∀ (nn : Nat) (s : Int32) (r : (Unit) ⊕ (Unit)), lpf (fun s : Int32 => f_X6_partAlike_b3 b w l1 l2 l3 s) nn s = some r → (Sum.elim (fun r : Unit => G 56 [] [] w) (fun r : Unit => G 64 [] [] w)) r → (fun s : Int32 => G 3 [(0, .ref b), (1, .int l1), (2, .int l2), (3, .int l3), (4, .int s)] [] w) s := by
    intro l1 l2 l3
    refine lpf_ind (fun s : Int32 => G 3 [(0, .ref b), (1, .int l1), (2, .int l2), (3, .int l3), (4, .int s)] [] w) (Sum.elim (fun r : Unit => G 56 [] [] w) (fun r : Unit => G 64 [] [] w)) ?_
    rintro l4 z hk hz
    have hk : f_X6_partAlike_b3 b w l1 l2 l3 l4 = some z := hk
    unfold f_X6_partAlike_b3 at hk
    show G 3 [(0, .ref b), (1, .int l1), (2, .int l2), (3, .int l3), (4, .int l4)] [] w
    refine k_iload (pc := 3) h 4 dX6_partAlike_3 rfl ?_
    refine k_aload_n (pc := 5) h 0 dX6_partAlike_5 rfl ?_
    refine k_geti (pc := 6) h fl_X6_37 hb.1 rfl dX6_partAlike_6 ?_
    refine k_icmp_ge (tgt := 64) (pc := 9) h dX6_partAlike_9 rfl hk (fun hc hk => ?_) (fun hc hk => ?_)
    · refine k_sub h [] (lv' := []) rfl ?_
      have hk := Option.some.inj hk
      subst hk
      exact hz
    · refine k_aload_n (pc := 12) h 0 dX6_partAlike_12 rfl ?_
      refine k_getr (pc := 13) h fl_X6_24 hb.1 rfl dX6_partAlike_13 ?_
      refine k_iload_n (pc := 16) h 1 dX6_partAlike_16 rfl ?_
      refine k_bipush (pc := 17) h (x := (16 : Int32)) dX6_partAlike_17 (by decide) ?_
      refine k_imul (pc := 19) h dX6_partAlike_19 ?_
      refine k_iload (pc := 20) h 4 dX6_partAlike_20 rfl ?_
      refine k_iadd (pc := 22) h dX6_partAlike_22 ?_
      refine k_iald (pc := 23) h hb.2.2.2.2.2.1 dX6_partAlike_23 hk (fun hk => ?_)
      refine k_aload_n (pc := 24) h 0 dX6_partAlike_24 rfl ?_
      refine k_getr (pc := 25) h fl_X6_24 hb.1 rfl dX6_partAlike_25 ?_
      refine k_iload_n (pc := 28) h 2 dX6_partAlike_28 rfl ?_
      refine k_bipush (pc := 29) h (x := (16 : Int32)) dX6_partAlike_29 (by decide) ?_
      refine k_imul (pc := 31) h dX6_partAlike_31 ?_
      refine k_iload (pc := 32) h 4 dX6_partAlike_32 rfl ?_
      refine k_iadd (pc := 34) h dX6_partAlike_34 ?_
      refine k_iald (pc := 35) h hb.2.2.2.2.2.1 dX6_partAlike_35 hk (fun hk => ?_)
      refine k_ixor (pc := 36) h dX6_partAlike_36 ?_
      refine k_nmi (pc := 37) h hk (fun v1 hk => ?_)
      refine k_istore (pc := 37) h [1, 2, 3, 4, 5, 0] (lv' := [(0, .ref b), (1, .int l1), (2, .int l2), (3, .int l3), (4, .int l4), (5, .int v1)]) dX6_partAlike_37 (by decide) rfl ?_
      refine k_iload_n (pc := 39) h 3 dX6_partAlike_39 rfl ?_
      refine k_iload (pc := 40) h 4 dX6_partAlike_40 rfl ?_
      refine k_ishr (pc := 42) h dX6_partAlike_42 ?_
      refine k_iconst (pc := 43) h (x := (1 : Int32)) dX6_partAlike_43 (by decide) ?_
      refine k_iand (pc := 44) h dX6_partAlike_44 ?_
      refine k_iconst (pc := 45) h (x := (1 : Int32)) dX6_partAlike_45 (by decide) ?_
      refine k_icmp_ne (tgt := 58) (pc := 46) h dX6_partAlike_46 rfl hk (fun hc hk => ?_) (fun hc hk => ?_)
      · refine k_sub h [0, 1, 2, 3, 4] (lv' := [(0, .ref b), (1, .int l1), (2, .int l2), (3, .int l3), (4, .int l4)]) rfl ?_
        exact EJ58 _ _ _ _ _ hk hz
      · refine k_iload (pc := 49) h 5 dX6_partAlike_49 rfl ?_
        refine k_iload_n (pc := 51) h 3 dX6_partAlike_51 rfl ?_
        refine k_iand (pc := 52) h dX6_partAlike_52 ?_
        refine k_if_eq (tgt := 58) (pc := 53) h dX6_partAlike_53 rfl hk (fun hc hk => ?_) (fun hc hk => ?_)
        · refine k_sub h [0, 1, 2, 3, 4] (lv' := [(0, .ref b), (1, .int l1), (2, .int l2), (3, .int l3), (4, .int l4)]) rfl ?_
          exact EJ58 _ _ _ _ _ hk hz
        · refine k_sub h [] (lv' := []) rfl ?_
          have hk := Option.some.inj hk
          subst hk
          exact hz
  refine k_iconst (pc := 0) h (x := (0 : Int32)) dX6_partAlike_0 (by decide) ?_
  refine k_istore (pc := 1) h [1, 2, 3, 4, 0] (lv' := [(0, .ref b), (1, .int l1), (2, .int l2), (3, .int l3), (4, .int (0 : Int32))]) dX6_partAlike_1 (by decide) rfl ?_
  obtain ⟨r2, hl3, hk⟩ := bd_some hk
  refine LB3 _ _ _ _ _ _ hl3 ?_
  rcases r2 with r2 | r2
  · replace hk := elim_l hk
    show G 56 [] [] w
    refine k_iconst (pc := 56) h (x := (0 : Int32)) dX6_partAlike_56 (by decide) ?_
    have hk := Option.some.inj hk
    subst hk
    exact k_iret (pc := 57) h dX6_partAlike_57 ⟨rfl, rfl, rfl, rfl, rfl, ⟨.boolean, rfl, rfl⟩⟩
  · replace hk := elim_r hk
    show G 64 [] [] w
    refine k_iconst (pc := 64) h (x := (1 : Int32)) dX6_partAlike_64 (by decide) ?_
    have hk := Option.some.inj hk
    subst hk
    exact k_iret (pc := 65) h dX6_partAlike_65 ⟨rfl, rfl, rfl, rfl, rfl, ⟨.boolean, rfl, rfl⟩⟩
def f_X6_penceOf_j30 (b : Nat) (w : WW) (l1 : Int32) (l2 : Int32) (l3 : Int32) : Option ((Int32 × Int32) ⊕ (Int32)) := some (.inl (l2, (l3 + (1 : Int32))))
def f_X6_penceOf_b4 (b : Nat) (w : WW) (l1 : Int32) (l2 : Int32) (l3 : Int32) : Option ((Int32 × Int32) ⊕ (Int32)) := if (w.1 b 1) ≤ l3 then some (.inr l2) else if ((shr32 l1 l3) &&& (1 : Int32)) = (1 : Int32) then gd (inb l3 7) (nmv (l2 + (w.1 (b + 4) (l3).toNatClampNeg)) (fun v1 => f_X6_penceOf_j30 b w l1 v1 l3)) else f_X6_penceOf_j30 b w l1 l2 l3
def f_X6_penceOf (b : Nat) (w : WW) (l1 : Int32) : Option (Int32) := (lpf (fun s : Int32 × Int32 => f_X6_penceOf_b4 b w l1 s.1 s.2) FU ((0 : Int32), (0 : Int32))).bind (fun r2 => some (r2))
set_option maxRecDepth 20000 in
set_option maxHeartbeats 4000000 in
theorem c_X6_penceOf {lay : List LyS} {b : Nat} (hb : StAt lay b) {w : WW} {l1 : Int32} {z : Int32} (hk : f_X6_penceOf b w l1 = some z) : Cn 0 yX6_penceOf cX6_penceOf 4 (some .int) lay [.ref b, .int l1] w (some (.int z)) w := by
  refine Cn.of (by decide +kernel) (Nat.le_of_ble_eq_true rfl) (fun G h => ?_)
  have h : Rules cX6_penceOf RX6 "penceOf" 4 (rmd 0 0 0) none _ _ lay 0 0 G := h
  show G 0 [(0, .ref b), (1, .int l1)] [] w
  unfold f_X6_penceOf at hk
  have EJ30 : ∀ (l1 : Int32) (l2 : Int32) (l3 : Int32) (z : (Int32 × Int32) ⊕ (Int32)), f_X6_penceOf_j30 b w l1 l2 l3 = some z → Sum.elim (fun s : Int32 × Int32 => G 4 [(0, .ref b), (1, .int l1), (2, .int s.1), (3, .int s.2)] [] w) (fun r : Int32 => G 36 [(2, .int r)] [] w) z → G 30 [(0, .ref b), (1, .int l1), (2, .int l2), (3, .int l3)] [] w := by
    intro l1 l2 l3 z hk hz
    unfold f_X6_penceOf_j30 at hk
    refine k_iinc (pc := 30) h 3 [1, 2, 3, 0] (v := (l3 + (1 : Int32))) (lv' := [(0, .ref b), (1, .int l1), (2, .int l2), (3, .int (l3 + (1 : Int32)))]) dX6_penceOf_30 rfl rfl (by decide) rfl ?_
    refine k_goto (tgt := 4) (pc := 33) h dX6_penceOf_33 rfl ?_
    have hk := Option.some.inj hk
    subst hk
    exact hz
  have LB4 : ∀ (l1 : Int32), ∀ (nn : Nat) (s : Int32 × Int32) (r : Int32), lpf (fun s : Int32 × Int32 => f_X6_penceOf_b4 b w l1 s.1 s.2) nn s = some r → (fun r : Int32 => G 36 [(2, .int r)] [] w) r → (fun s : Int32 × Int32 => G 4 [(0, .ref b), (1, .int l1), (2, .int s.1), (3, .int s.2)] [] w) s := by
    intro l1
    refine lpf_ind (fun s : Int32 × Int32 => G 4 [(0, .ref b), (1, .int l1), (2, .int s.1), (3, .int s.2)] [] w) (fun r : Int32 => G 36 [(2, .int r)] [] w) ?_
    rintro ⟨l2, l3⟩ z hk hz
    have hk : f_X6_penceOf_b4 b w l1 l2 l3 = some z := hk
    unfold f_X6_penceOf_b4 at hk
    show G 4 [(0, .ref b), (1, .int l1), (2, .int l2), (3, .int l3)] [] w
    refine k_iload_n (pc := 4) h 3 dX6_penceOf_4 rfl ?_
    refine k_aload_n (pc := 5) h 0 dX6_penceOf_5 rfl ?_
    refine k_geti (pc := 6) h fl_X6_41 hb.1 rfl dX6_penceOf_6 ?_
    refine k_icmp_ge (tgt := 36) (pc := 9) h dX6_penceOf_9 rfl hk (fun hc hk => ?_) (fun hc hk => ?_)
    · refine k_sub h [2] (lv' := [(2, .int l2)]) rfl ?_
      have hk := Option.some.inj hk
      subst hk
      exact hz
    · refine k_iload_n (pc := 12) h 1 dX6_penceOf_12 rfl ?_
      refine k_iload_n (pc := 13) h 3 dX6_penceOf_13 rfl ?_
      refine k_ishr (pc := 14) h dX6_penceOf_14 ?_
      refine k_iconst (pc := 15) h (x := (1 : Int32)) dX6_penceOf_15 (by decide) ?_
      refine k_iand (pc := 16) h dX6_penceOf_16 ?_
      refine k_iconst (pc := 17) h (x := (1 : Int32)) dX6_penceOf_17 (by decide) ?_
      refine k_icmp_ne (tgt := 30) (pc := 18) h dX6_penceOf_18 rfl hk (fun hc hk => ?_) (fun hc hk => ?_)
      · exact EJ30 _ _ _ _ hk hz
      · refine k_iload_n (pc := 21) h 2 dX6_penceOf_21 rfl ?_
        refine k_aload_n (pc := 22) h 0 dX6_penceOf_22 rfl ?_
        refine k_getr (pc := 23) h fl_X6_21 hb.1 rfl dX6_penceOf_23 ?_
        refine k_iload_n (pc := 26) h 3 dX6_penceOf_26 rfl ?_
        refine k_iald (pc := 27) h hb.2.2.2.2.1 dX6_penceOf_27 hk (fun hk => ?_)
        refine k_iadd (pc := 28) h dX6_penceOf_28 ?_
        refine k_nmi (pc := 29) h hk (fun v1 hk => ?_)
        refine k_istore_n (pc := 29) h [1, 2, 0, 3] (lv' := [(0, .ref b), (1, .int l1), (2, .int v1), (3, .int l3)]) dX6_penceOf_29 rfl (by decide) rfl ?_
        exact EJ30 _ _ _ _ hk hz
  refine k_iconst (pc := 0) h (x := (0 : Int32)) dX6_penceOf_0 (by decide) ?_
  refine k_istore_n (pc := 1) h [1, 2, 0] (lv' := [(0, .ref b), (1, .int l1), (2, .int (0 : Int32))]) dX6_penceOf_1 rfl (by decide) rfl ?_
  refine k_iconst (pc := 2) h (x := (0 : Int32)) dX6_penceOf_2 (by decide) ?_
  refine k_istore_n (pc := 3) h [1, 2, 3, 0] (lv' := [(0, .ref b), (1, .int l1), (2, .int (0 : Int32)), (3, .int (0 : Int32))]) dX6_penceOf_3 rfl (by decide) rfl ?_
  obtain ⟨r2, hl3, hk⟩ := bd_some hk
  refine LB4 _ _ _ _ hl3 ?_
  show G 36 [(2, .int r2)] [] w
  refine k_iload_n (pc := 36) h 0 dX6_penceOf_36 rfl ?_
  have hk := Option.some.inj hk
  subst hk
  exact k_iret (pc := 37) h dX6_penceOf_37 ⟨rfl, rfl, rfl, rfl, rfl, ⟨.int, rfl, rfl⟩⟩
def f_X6_weightOf_j30 (b : Nat) (w : WW) (l1 : Int32) (l2 : Int32) (l3 : Int32) : Option ((Int32 × Int32) ⊕ (Int32)) := some (.inl (l2, (l3 + (1 : Int32))))
def f_X6_weightOf_b4 (b : Nat) (w : WW) (l1 : Int32) (l2 : Int32) (l3 : Int32) : Option ((Int32 × Int32) ⊕ (Int32)) := if (w.1 b 0) ≤ l3 then some (.inr l2) else if ((shr32 l1 l3) &&& (1 : Int32)) = (1 : Int32) then gd (inb l3 16) (nmv (l2 + (w.1 (b + 1) (l3).toNatClampNeg)) (fun v1 => f_X6_weightOf_j30 b w l1 v1 l3)) else f_X6_weightOf_j30 b w l1 l2 l3
def f_X6_weightOf (b : Nat) (w : WW) (l1 : Int32) : Option (Int32) := (lpf (fun s : Int32 × Int32 => f_X6_weightOf_b4 b w l1 s.1 s.2) FU ((0 : Int32), (0 : Int32))).bind (fun r2 => some (r2))
set_option maxRecDepth 20000 in
set_option maxHeartbeats 4000000 in
theorem c_X6_weightOf {lay : List LyS} {b : Nat} (hb : StAt lay b) {w : WW} {l1 : Int32} {z : Int32} (hk : f_X6_weightOf b w l1 = some z) : Cn 0 yX6_weightOf cX6_weightOf 4 (some .int) lay [.ref b, .int l1] w (some (.int z)) w := by
  refine Cn.of (by decide +kernel) (Nat.le_of_ble_eq_true rfl) (fun G h => ?_)
  have h : Rules cX6_weightOf RX6 "weightOf" 4 (rmd 0 0 0) none _ _ lay 0 0 G := h
  show G 0 [(0, .ref b), (1, .int l1)] [] w
  unfold f_X6_weightOf at hk
  have EJ30 : ∀ (l1 : Int32) (l2 : Int32) (l3 : Int32) (z : (Int32 × Int32) ⊕ (Int32)), f_X6_weightOf_j30 b w l1 l2 l3 = some z → Sum.elim (fun s : Int32 × Int32 => G 4 [(0, .ref b), (1, .int l1), (2, .int s.1), (3, .int s.2)] [] w) (fun r : Int32 => G 36 [(2, .int r)] [] w) z → G 30 [(0, .ref b), (1, .int l1), (2, .int l2), (3, .int l3)] [] w := by
    intro l1 l2 l3 z hk hz
    unfold f_X6_weightOf_j30 at hk
    refine k_iinc (pc := 30) h 3 [1, 2, 3, 0] (v := (l3 + (1 : Int32))) (lv' := [(0, .ref b), (1, .int l1), (2, .int l2), (3, .int (l3 + (1 : Int32)))]) dX6_weightOf_30 rfl rfl (by decide) rfl ?_
    refine k_goto (tgt := 4) (pc := 33) h dX6_weightOf_33 rfl ?_
    have hk := Option.some.inj hk
    subst hk
    exact hz
  have LB4 : ∀ (l1 : Int32), ∀ (nn : Nat) (s : Int32 × Int32) (r : Int32), lpf (fun s : Int32 × Int32 => f_X6_weightOf_b4 b w l1 s.1 s.2) nn s = some r → (fun r : Int32 => G 36 [(2, .int r)] [] w) r → (fun s : Int32 × Int32 => G 4 [(0, .ref b), (1, .int l1), (2, .int s.1), (3, .int s.2)] [] w) s := by
    intro l1
    refine lpf_ind (fun s : Int32 × Int32 => G 4 [(0, .ref b), (1, .int l1), (2, .int s.1), (3, .int s.2)] [] w) (fun r : Int32 => G 36 [(2, .int r)] [] w) ?_
    rintro ⟨l2, l3⟩ z hk hz
    have hk : f_X6_weightOf_b4 b w l1 l2 l3 = some z := hk
    unfold f_X6_weightOf_b4 at hk
    show G 4 [(0, .ref b), (1, .int l1), (2, .int l2), (3, .int l3)] [] w
    refine k_iload_n (pc := 4) h 3 dX6_weightOf_4 rfl ?_
    refine k_aload_n (pc := 5) h 0 dX6_weightOf_5 rfl ?_
    refine k_geti (pc := 6) h fl_X6_37 hb.1 rfl dX6_weightOf_6 ?_
    refine k_icmp_ge (tgt := 36) (pc := 9) h dX6_weightOf_9 rfl hk (fun hc hk => ?_) (fun hc hk => ?_)
    · refine k_sub h [2] (lv' := [(2, .int l2)]) rfl ?_
      have hk := Option.some.inj hk
      subst hk
      exact hz
    · refine k_iload_n (pc := 12) h 1 dX6_weightOf_12 rfl ?_
      refine k_iload_n (pc := 13) h 3 dX6_weightOf_13 rfl ?_
      refine k_ishr (pc := 14) h dX6_weightOf_14 ?_
      refine k_iconst (pc := 15) h (x := (1 : Int32)) dX6_weightOf_15 (by decide) ?_
      refine k_iand (pc := 16) h dX6_weightOf_16 ?_
      refine k_iconst (pc := 17) h (x := (1 : Int32)) dX6_weightOf_17 (by decide) ?_
      refine k_icmp_ne (tgt := 30) (pc := 18) h dX6_weightOf_18 rfl hk (fun hc hk => ?_) (fun hc hk => ?_)
      · exact EJ30 _ _ _ _ hk hz
      · refine k_iload_n (pc := 21) h 2 dX6_weightOf_21 rfl ?_
        refine k_aload_n (pc := 22) h 0 dX6_weightOf_22 rfl ?_
        refine k_getr (pc := 23) h fl_X6_9 hb.1 rfl dX6_weightOf_23 ?_
        refine k_iload_n (pc := 26) h 3 dX6_weightOf_26 rfl ?_
        refine k_iald (pc := 27) h hb.2.1 dX6_weightOf_27 hk (fun hk => ?_)
        refine k_iadd (pc := 28) h dX6_weightOf_28 ?_
        refine k_nmi (pc := 29) h hk (fun v1 hk => ?_)
        refine k_istore_n (pc := 29) h [1, 2, 0, 3] (lv' := [(0, .ref b), (1, .int l1), (2, .int v1), (3, .int l3)]) dX6_weightOf_29 rfl (by decide) rfl ?_
        exact EJ30 _ _ _ _ hk hz
  refine k_iconst (pc := 0) h (x := (0 : Int32)) dX6_weightOf_0 (by decide) ?_
  refine k_istore_n (pc := 1) h [1, 2, 0] (lv' := [(0, .ref b), (1, .int l1), (2, .int (0 : Int32))]) dX6_weightOf_1 rfl (by decide) rfl ?_
  refine k_iconst (pc := 2) h (x := (0 : Int32)) dX6_weightOf_2 (by decide) ?_
  refine k_istore_n (pc := 3) h [1, 2, 3, 0] (lv' := [(0, .ref b), (1, .int l1), (2, .int (0 : Int32)), (3, .int (0 : Int32))]) dX6_weightOf_3 rfl (by decide) rfl ?_
  obtain ⟨r2, hl3, hk⟩ := bd_some hk
  refine LB4 _ _ _ _ hl3 ?_
  show G 36 [(2, .int r2)] [] w
  refine k_iload_n (pc := 36) h 0 dX6_weightOf_36 rfl ?_
  have hk := Option.some.inj hk
  subst hk
  exact k_iret (pc := 37) h dX6_weightOf_37 ⟨rfl, rfl, rfl, rfl, rfl, ⟨.int, rfl, rfl⟩⟩
def f_X7_clear (w : WW) : Option (Int32 × WW) := nmv (w.1 26 1) (fun v1 => stI w 26 1 (0 : Int32) (fun u2 => some (v1, u2)))
set_option maxRecDepth 20000 in
set_option maxHeartbeats 4000000 in
theorem c_X7_clear {w : WW} {z : Int32 × WW} (hk : f_X7_clear w = some z) : Cn 0 yX7_clear cX7_clear 2 (some .int) LAY [.ref 0] w (some (.int z.1)) z.2 := by
  refine Cn.of (by decide +kernel) (Nat.le_of_ble_eq_true rfl) (fun G h => ?_)
  have h : Rules cX7_clear RX7 "clear" 2 (rmd 0 0 0) none _ _ LAY 0 0 G := h
  show G 0 [(0, .ref 0)] [] w
  unfold f_X7_clear at hk
  refine k_aload_n (pc := 0) h 0 dX7_clear_0 rfl ?_
  refine k_getr (pc := 1) h fl_X7_29 ly_0 rfl dX7_clear_1 ?_
  refine k_geti (pc := 4) h fl_X7_108 ly_26 rfl dX7_clear_4 ?_
  refine k_nmi (pc := 7) h hk (fun v1 hk => ?_)
  refine k_istore_n (pc := 7) h [1, 0] (lv' := [(0, .ref 0), (1, .int v1)]) dX7_clear_7 rfl (by decide) rfl ?_
  refine k_aload_n (pc := 8) h 0 dX7_clear_8 rfl ?_
  refine k_getr (pc := 9) h fl_X7_29 ly_0 rfl dX7_clear_9 ?_
  refine k_iconst (pc := 12) h (x := (0 : Int32)) dX7_clear_12 (by decide) ?_
  refine k_puti (pc := 13) h fl_X7_108 ly_26 rfl dX7_clear_13 hk (fun u2 hk => ?_)
  refine k_iload_n (pc := 16) h 1 dX7_clear_16 rfl ?_
  have hk := Option.some.inj hk
  subst hk
  exact k_iret (pc := 17) h dX7_clear_17 ⟨rfl, rfl, rfl, rfl, rfl, ⟨.int, rfl, rfl⟩⟩
def f_X7_imageAt (w : WW) (l1 : Int32) : Option (Nat) := if l1 = 0 then some 9 else some 17
set_option maxRecDepth 20000 in
set_option maxHeartbeats 4000000 in
theorem c_X7_imageAt {w : WW} {l1 : Int32} {z : Nat} (hk : f_X7_imageAt w l1 = some z) : Cn 0 yX7_imageAt cX7_imageAt 2 (some (.object "QuestionFair$Stand")) LAY [.ref 0, .int l1] w (some (.ref z)) w := by
  refine Cn.of (by decide +kernel) (Nat.le_of_ble_eq_true rfl) (fun G h => ?_)
  have h : Rules cX7_imageAt RX7 "imageAt" 2 (rmd 0 0 0) none _ _ LAY 0 0 G := h
  show G 0 [(0, .ref 0), (1, .int l1)] [] w
  unfold f_X7_imageAt at hk
  refine k_iload_n (pc := 0) h 1 dX7_imageAt_0 rfl ?_
  refine k_if_ne (tgt := 11) (pc := 1) h dX7_imageAt_1 rfl hk (fun hc hk => ?_) (fun hc hk => ?_)
  · refine k_aload_n (pc := 11) h 0 dX7_imageAt_11 rfl ?_
    refine k_getr (pc := 12) h fl_X7_19 ly_0 rfl dX7_imageAt_12 ?_
    have hk := Option.some.inj hk
    subst hk
    exact k_aret (pc := 15) h dX7_imageAt_15 ⟨rfl, rfl, rfl, rfl, rfl, ⟨_, rfl⟩⟩
  · refine k_aload_n (pc := 4) h 0 dX7_imageAt_4 rfl ?_
    refine k_getr (pc := 5) h fl_X7_16 ly_0 rfl dX7_imageAt_5 ?_
    refine k_goto (tgt := 15) (pc := 8) h dX7_imageAt_8 rfl ?_
    have hk := Option.some.inj hk
    subst hk
    exact k_aret (pc := 15) h dX7_imageAt_15 ⟨rfl, rfl, rfl, rfl, rfl, ⟨_, rfl⟩⟩
theorem sti_X7_imageAt {w : WW} {l1 : Int32} {z : Nat} (h : f_X7_imageAt w l1 = some z) : StAt LAY z := by
  unfold f_X7_imageAt at h
  split at h <;> (cases h; first | exact st_9 | exact st_17)
def f_X7_within_j14 (w : WW) : Option (Int32) := some ((0 : Int32))
def f_X7_within (w : WW) (l0 : Int32) (l1 : Int32) (l2 : Int32) : Option (Int32) := if l0 < l1 then f_X7_within_j14 w else if l2 < l0 then f_X7_within_j14 w else some ((1 : Int32))
set_option maxRecDepth 20000 in
set_option maxHeartbeats 4000000 in
theorem c_X7_within {lay : List LyS} {w : WW} {l0 : Int32} {l1 : Int32} {l2 : Int32} {z : Int32} (hk : f_X7_within w l0 l1 l2 = some z) : Cn 0 yX7_within cX7_within 3 (some .boolean) lay [.int l0, .int l1, .int l2] w (some (.int z)) w := by
  refine Cn.of (by decide +kernel) (Nat.le_of_ble_eq_true rfl) (fun G h => ?_)
  have h : Rules cX7_within RX7 "within" 3 (rmd 0 0 0) none _ _ lay 0 0 G := h
  show G 0 [(0, .int l0), (1, .int l1), (2, .int l2)] [] w
  unfold f_X7_within at hk
  have EJ14 : f_X7_within_j14 w = some z → G 14 [] [] w := by
    intro hk
    unfold f_X7_within_j14 at hk
    refine k_iconst (pc := 14) h (x := (0 : Int32)) dX7_within_14 (by decide) ?_
    have hk := Option.some.inj hk
    subst hk
    exact k_iret (pc := 15) h dX7_within_15 ⟨rfl, rfl, rfl, rfl, rfl, ⟨.boolean, rfl, rfl⟩⟩
  refine k_iload_n (pc := 0) h 1 dX7_within_0 rfl ?_
  refine k_iload_n (pc := 1) h 0 dX7_within_1 rfl ?_
  refine k_icmp_gt (tgt := 14) (pc := 2) h dX7_within_2 rfl hk (fun hc hk => ?_) (fun hc hk => ?_)
  · refine k_sub h [] (lv' := []) rfl ?_
    exact EJ14 hk
  · refine k_iload_n (pc := 5) h 0 dX7_within_5 rfl ?_
    refine k_iload_n (pc := 6) h 2 dX7_within_6 rfl ?_
    refine k_icmp_gt (tgt := 14) (pc := 7) h dX7_within_7 rfl hk (fun hc hk => ?_) (fun hc hk => ?_)
    · refine k_sub h [] (lv' := []) rfl ?_
      exact EJ14 hk
    · refine k_iconst (pc := 10) h (x := (1 : Int32)) dX7_within_10 (by decide) ?_
      refine k_goto (tgt := 15) (pc := 11) h dX7_within_11 rfl ?_
      have hk := Option.some.inj hk
      subst hk
      exact k_iret (pc := 15) h dX7_within_15 ⟨rfl, rfl, rfl, rfl, rfl, ⟨.boolean, rfl, rfl⟩⟩
def f_X8_add (w : WW) (l1 : Int32) (l2 : Int32) (l3 : Int32) : Option (Int32 × WW) := gd (inb (w.1 46 2) 7) (stI w 49 ((w.1 46 2)).toNatClampNeg l1 (fun u1 => gd (inb (u1.1 46 2) 7) (stI u1 50 ((u1.1 46 2)).toNatClampNeg l2 (fun u2 => gd (inb (u2.1 46 2) 7) (stI u2 51 ((u2.1 46 2)).toNatClampNeg l3 (fun u3 => stI u3 46 2 ((u3.1 46 2) + (1 : Int32)) (fun u4 => stI u4 46 18 (0 : Int32) (fun u5 => some (((u5.1 46 2) - (1 : Int32)), u5)))))))))
set_option maxRecDepth 20000 in
set_option maxHeartbeats 4000000 in
theorem c_X8_add {w : WW} {l1 : Int32} {l2 : Int32} {l3 : Int32} {z : Int32 × WW} (hk : f_X8_add w l1 l2 l3 = some z) : Cn 0 yX8_add cX8_add 4 (some .int) LAY [.ref 46, .int l1, .int l2, .int l3] w (some (.int z.1)) z.2 := by
  refine Cn.of (by decide +kernel) (Nat.le_of_ble_eq_true rfl) (fun G h => ?_)
  have h : Rules cX8_add RX8 "add" 4 (rmd 0 0 0) none _ _ LAY 0 0 G := h
  show G 0 [(0, .ref 46), (1, .int l1), (2, .int l2), (3, .int l3)] [] w
  unfold f_X8_add at hk
  refine k_aload_n (pc := 0) h 0 dX8_add_0 rfl ?_
  refine k_getr (pc := 1) h fl_X8_20 ly_46 rfl dX8_add_1 ?_
  refine k_aload_n (pc := 4) h 0 dX8_add_4 rfl ?_
  refine k_geti (pc := 5) h fl_X8_75 ly_46 rfl dX8_add_5 ?_
  refine k_iload_n (pc := 8) h 1 dX8_add_8 rfl ?_
  refine k_iast (pc := 9) h ly_49 dX8_add_9 hk (fun u1 hk => ?_)
  refine k_aload_n (pc := 10) h 0 dX8_add_10 rfl ?_
  refine k_getr (pc := 11) h fl_X8_23 ly_46 rfl dX8_add_11 ?_
  refine k_aload_n (pc := 14) h 0 dX8_add_14 rfl ?_
  refine k_geti (pc := 15) h fl_X8_75 ly_46 rfl dX8_add_15 ?_
  refine k_iload_n (pc := 18) h 2 dX8_add_18 rfl ?_
  refine k_iast (pc := 19) h ly_50 dX8_add_19 hk (fun u2 hk => ?_)
  refine k_aload_n (pc := 20) h 0 dX8_add_20 rfl ?_
  refine k_getr (pc := 21) h fl_X8_26 ly_46 rfl dX8_add_21 ?_
  refine k_aload_n (pc := 24) h 0 dX8_add_24 rfl ?_
  refine k_geti (pc := 25) h fl_X8_75 ly_46 rfl dX8_add_25 ?_
  refine k_iload_n (pc := 28) h 3 dX8_add_28 rfl ?_
  refine k_iast (pc := 29) h ly_51 dX8_add_29 hk (fun u3 hk => ?_)
  refine k_aload_n (pc := 30) h 0 dX8_add_30 rfl ?_
  refine k_dup (pc := 31) h dX8_add_31 rfl ?_
  refine k_geti (pc := 32) h fl_X8_75 ly_46 rfl dX8_add_32 ?_
  refine k_iconst (pc := 35) h (x := (1 : Int32)) dX8_add_35 (by decide) ?_
  refine k_iadd (pc := 36) h dX8_add_36 ?_
  refine k_puti (pc := 37) h fl_X8_75 ly_46 rfl dX8_add_37 hk (fun u4 hk => ?_)
  refine k_aload_n (pc := 40) h 0 dX8_add_40 rfl ?_
  refine k_iconst (pc := 41) h (x := (0 : Int32)) dX8_add_41 (by decide) ?_
  refine k_puti (pc := 42) h fl_X8_81 ly_46 rfl dX8_add_42 hk (fun u5 hk => ?_)
  refine k_aload_n (pc := 45) h 0 dX8_add_45 rfl ?_
  refine k_geti (pc := 46) h fl_X8_75 ly_46 rfl dX8_add_46 ?_
  refine k_iconst (pc := 49) h (x := (1 : Int32)) dX8_add_49 (by decide) ?_
  refine k_isub (pc := 50) h dX8_add_50 ?_
  have hk := Option.some.inj hk
  subst hk
  exact k_iret (pc := 51) h dX8_add_51 ⟨rfl, rfl, rfl, rfl, rfl, ⟨.int, rfl, rfl⟩⟩
def f_X8_answerBy_j10 (w : WW) (l0 : Int32) (l1 : Int32) (l2 : Int32) (s0 : Int32) : Option (Int32) := gd (¬ (4 : Int32) = 0) (gd (¬ ((rm32 l1 (4 : Int32)) + (2 : Int32)) = 0) (nmv (rm32 l2 ((rm32 l1 (4 : Int32)) + (2 : Int32))) (fun v1 => if l0 = (0 : Int32) then some (s0) else if l0 = (1 : Int32) then some (((1 : Int32) - s0)) else if l0 = (2 : Int32) then some (v1) else if l0 = (3 : Int32) then gd (¬ (2 : Int32) = 0) (some ((v1 / (2 : Int32)))) else if l0 = (4 : Int32) then some ((v1 + ((5 : Int32) * s0))) else if l2 = l1 then some ((2 : Int32)) else some (((1 : Int32) - s0)))))
def f_X8_answerBy (w : WW) (l0 : Int32) (l1 : Int32) (l2 : Int32) : Option (Int32) := if l2 < l1 then f_X8_answerBy_j10 w l0 l1 l2 (0 : Int32) else f_X8_answerBy_j10 w l0 l1 l2 (1 : Int32)
set_option maxRecDepth 20000 in
set_option maxHeartbeats 4000000 in
theorem c_X8_answerBy {lay : List LyS} {w : WW} {l0 : Int32} {l1 : Int32} {l2 : Int32} {z : Int32} (hk : f_X8_answerBy w l0 l1 l2 = some z) : Cn 0 yX8_answerBy cX8_answerBy 5 (some .int) lay [.int l0, .int l1, .int l2] w (some (.int z)) w := by
  refine Cn.of (by decide +kernel) (Nat.le_of_ble_eq_true rfl) (fun G h => ?_)
  have h : Rules cX8_answerBy RX8 "answerBy" 5 (rmd 0 0 0) none _ _ lay 0 0 G := h
  show G 0 [(0, .int l0), (1, .int l1), (2, .int l2)] [] w
  unfold f_X8_answerBy at hk
  have EJ10 : ∀ (l0 : Int32) (l1 : Int32) (l2 : Int32) (s0 : Int32), f_X8_answerBy_j10 w l0 l1 l2 s0 = some z → G 10 [(0, .int l0), (1, .int l1), (2, .int l2)] [.int s0] w := by
    intro l0 l1 l2 s0 hk
    unfold f_X8_answerBy_j10 at hk
    refine k_istore_n (pc := 10) h [1, 2, 3, 0] (lv' := [(0, .int l0), (1, .int l1), (2, .int l2), (3, .int s0)]) dX8_answerBy_10 rfl (by decide) rfl ?_
    refine k_iload_n (pc := 11) h 2 dX8_answerBy_11 rfl ?_
    refine k_iload_n (pc := 12) h 1 dX8_answerBy_12 rfl ?_
    refine k_iconst (pc := 13) h (x := (4 : Int32)) dX8_answerBy_13 (by decide) ?_
    refine k_irem (pc := 14) h dX8_answerBy_14 hk (fun hk => ?_)
    refine k_iconst (pc := 15) h (x := (2 : Int32)) dX8_answerBy_15 (by decide) ?_
    refine k_iadd (pc := 16) h dX8_answerBy_16 ?_
    refine k_irem (pc := 17) h dX8_answerBy_17 hk (fun hk => ?_)
    refine k_nmi (pc := 18) h hk (fun v1 hk => ?_)
    refine k_istore (pc := 18) h [1, 2, 3, 4, 0] (lv' := [(0, .int l0), (1, .int l1), (2, .int l2), (3, .int s0), (4, .int v1)]) dX8_answerBy_18 (by decide) rfl ?_
    refine k_iload_n (pc := 20) h 0 dX8_answerBy_20 rfl ?_
    refine k_tab (a := (0 : Int32)) (tgt := 56) (pc := 21) h dX8_answerBy_21 (by decide) (by decide) rfl rfl hk (fun hk => ?_) (fun q0 hk => ?_)
    · refine k_iload_n (pc := 56) h 3 dX8_answerBy_56 rfl ?_
      have hk := Option.some.inj hk
      subst hk
      exact k_iret (pc := 57) h dX8_answerBy_57 ⟨rfl, rfl, rfl, rfl, rfl, ⟨.int, rfl, rfl⟩⟩
    · refine k_tab (a := (1 : Int32)) (tgt := 58) (pc := 21) h dX8_answerBy_21 (by decide) (by decide) rfl rfl hk (fun hk => ?_) (fun q1 hk => ?_)
      · refine k_iconst (pc := 58) h (x := (1 : Int32)) dX8_answerBy_58 (by decide) ?_
        refine k_iload_n (pc := 59) h 3 dX8_answerBy_59 rfl ?_
        refine k_isub (pc := 60) h dX8_answerBy_60 ?_
        have hk := Option.some.inj hk
        subst hk
        exact k_iret (pc := 61) h dX8_answerBy_61 ⟨rfl, rfl, rfl, rfl, rfl, ⟨.int, rfl, rfl⟩⟩
      · refine k_tab (a := (2 : Int32)) (tgt := 62) (pc := 21) h dX8_answerBy_21 (by decide) (by decide) rfl rfl hk (fun hk => ?_) (fun q2 hk => ?_)
        · refine k_iload (pc := 62) h 4 dX8_answerBy_62 rfl ?_
          have hk := Option.some.inj hk
          subst hk
          exact k_iret (pc := 64) h dX8_answerBy_64 ⟨rfl, rfl, rfl, rfl, rfl, ⟨.int, rfl, rfl⟩⟩
        · refine k_tab (a := (3 : Int32)) (tgt := 65) (pc := 21) h dX8_answerBy_21 (by decide) (by decide) rfl rfl hk (fun hk => ?_) (fun q3 hk => ?_)
          · refine k_iload (pc := 65) h 4 dX8_answerBy_65 rfl ?_
            refine k_iconst (pc := 67) h (x := (2 : Int32)) dX8_answerBy_67 (by decide) ?_
            refine k_idiv (pc := 68) h dX8_answerBy_68 hk (fun hk => ?_)
            have hk := Option.some.inj hk
            subst hk
            exact k_iret (pc := 69) h dX8_answerBy_69 ⟨rfl, rfl, rfl, rfl, rfl, ⟨.int, rfl, rfl⟩⟩
          · refine k_tab (a := (4 : Int32)) (tgt := 70) (pc := 21) h dX8_answerBy_21 (by decide) (by decide) rfl rfl hk (fun hk => ?_) (fun q4 hk => ?_)
            · refine k_iload (pc := 70) h 4 dX8_answerBy_70 rfl ?_
              refine k_iconst (pc := 72) h (x := (5 : Int32)) dX8_answerBy_72 (by decide) ?_
              refine k_iload_n (pc := 73) h 3 dX8_answerBy_73 rfl ?_
              refine k_imul (pc := 74) h dX8_answerBy_74 ?_
              refine k_iadd (pc := 75) h dX8_answerBy_75 ?_
              have hk := Option.some.inj hk
              subst hk
              exact k_iret (pc := 76) h dX8_answerBy_76 ⟨rfl, rfl, rfl, rfl, rfl, ⟨.int, rfl, rfl⟩⟩
            · refine k_tabD (tgt := 77) (pc := 21) h dX8_answerBy_21 (by have n0 := lv_neT q0 (a := 0) (by decide); have n1 := lv_neT q1 (a := 1) (by decide); have n2 := lv_neT q2 (a := 2) (by decide); have n3 := lv_neT q3 (a := 3) (by decide); have n4 := lv_neT q4 (a := 4) (by decide); omega) rfl ?_
              refine k_iload_n (pc := 77) h 2 dX8_answerBy_77 rfl ?_
              refine k_iload_n (pc := 78) h 1 dX8_answerBy_78 rfl ?_
              refine k_icmp_ne (tgt := 86) (pc := 79) h dX8_answerBy_79 rfl hk (fun hc hk => ?_) (fun hc hk => ?_)
              · refine k_iconst (pc := 86) h (x := (1 : Int32)) dX8_answerBy_86 (by decide) ?_
                refine k_iload_n (pc := 87) h 3 dX8_answerBy_87 rfl ?_
                refine k_isub (pc := 88) h dX8_answerBy_88 ?_
                have hk := Option.some.inj hk
                subst hk
                exact k_iret (pc := 89) h dX8_answerBy_89 ⟨rfl, rfl, rfl, rfl, rfl, ⟨.int, rfl, rfl⟩⟩
              · refine k_iconst (pc := 82) h (x := (2 : Int32)) dX8_answerBy_82 (by decide) ?_
                refine k_goto (tgt := 89) (pc := 83) h dX8_answerBy_83 rfl ?_
                have hk := Option.some.inj hk
                subst hk
                exact k_iret (pc := 89) h dX8_answerBy_89 ⟨rfl, rfl, rfl, rfl, rfl, ⟨.int, rfl, rfl⟩⟩
  refine k_iload_n (pc := 0) h 2 dX8_answerBy_0 rfl ?_
  refine k_iload_n (pc := 1) h 1 dX8_answerBy_1 rfl ?_
  refine k_icmp_lt (tgt := 9) (pc := 2) h dX8_answerBy_2 rfl hk (fun hc hk => ?_) (fun hc hk => ?_)
  · refine k_iconst (pc := 9) h (x := (0 : Int32)) dX8_answerBy_9 (by decide) ?_
    exact EJ10 _ _ _ _ hk
  · refine k_iconst (pc := 5) h (x := (1 : Int32)) dX8_answerBy_5 (by decide) ?_
    refine k_goto (tgt := 10) (pc := 6) h dX8_answerBy_6 rfl ?_
    exact EJ10 _ _ _ _ hk
def f_X8_bad (w : WW) : Option (Int32 × WW) := gd (inb (0 : Int32) 3) (gd (inb (0 : Int32) 3) (stI w 47 ((0 : Int32)).toNatClampNeg ((w.1 47 ((0 : Int32)).toNatClampNeg) + (1 : Int32)) (fun u1 => some ((-2 : Int32), u1))))
set_option maxRecDepth 20000 in
set_option maxHeartbeats 4000000 in
theorem c_X8_bad {w : WW} {z : Int32 × WW} (hk : f_X8_bad w = some z) : Cn 0 yX8_bad cX8_bad 1 (some .int) LAY [.ref 46] w (some (.int z.1)) z.2 := by
  refine Cn.of (by decide +kernel) (Nat.le_of_ble_eq_true rfl) (fun G h => ?_)
  have h : Rules cX8_bad RX8 "bad" 1 (rmd 0 0 0) none _ _ LAY 0 0 G := h
  show G 0 [(0, .ref 46)] [] w
  unfold f_X8_bad at hk
  refine k_aload_n (pc := 0) h 0 dX8_bad_0 rfl ?_
  refine k_getr (pc := 1) h fl_X8_1 ly_46 rfl dX8_bad_1 ?_
  refine k_iconst (pc := 4) h (x := (0 : Int32)) dX8_bad_4 (by decide) ?_
  refine k_dup2 (pc := 5) h dX8_bad_5 rfl rfl ?_
  refine k_iald (pc := 6) h ly_47 dX8_bad_6 hk (fun hk => ?_)
  refine k_iconst (pc := 7) h (x := (1 : Int32)) dX8_bad_7 (by decide) ?_
  refine k_iadd (pc := 8) h dX8_bad_8 ?_
  refine k_iast (pc := 9) h ly_47 dX8_bad_9 hk (fun u1 hk => ?_)
  refine k_bipush (pc := 10) h (x := (-2 : Int32)) dX8_bad_10 (by decide) ?_
  have hk := Option.some.inj hk
  subst hk
  exact k_iret (pc := 12) h dX8_bad_12 ⟨rfl, rfl, rfl, rfl, rfl, ⟨.int, rfl, rfl⟩⟩
def f_X8_begin_b22 (l2 : Int32) (w : WW) : Option ((Int32 × WW) ⊕ (WW)) := if (16 : Int32) ≤ l2 then some (.inr w) else gd (inb l2 16) (stI w 48 (l2).toNatClampNeg (1 : Int32) (fun u5 => some (.inl ((l2 + (1 : Int32)), u5))))
def f_X8_begin (w : WW) (l1 : Int32) : Option (WW) := stI w 46 1 l1 (fun u1 => stI u1 46 2 (0 : Int32) (fun u2 => stI u2 46 3 (0 : Int32) (fun u3 => stI u3 46 18 (0 : Int32) (fun u4 => (lpf (fun s : Int32 × WW => f_X8_begin_b22 s.1 s.2) FU ((0 : Int32), u4)).bind (fun r6 => some r6)))))
set_option maxRecDepth 20000 in
set_option maxHeartbeats 4000000 in
theorem c_X8_begin {w : WW} {l1 : Int32} {z : WW} (hk : f_X8_begin w l1 = some z) : Cn 0 yX8_begin cX8_begin 3 none LAY [.ref 46, .int l1] w none z := by
  refine Cn.of (by decide +kernel) (Nat.le_of_ble_eq_true rfl) (fun G h => ?_)
  have h : Rules cX8_begin RX8 "begin" 3 (rmd 0 0 0) none _ _ LAY 0 0 G := h
  show G 0 [(0, .ref 46), (1, .int l1)] [] w
  unfold f_X8_begin at hk
  have LB22 : ∀ (nn : Nat) (s : Int32 × WW) (r : WW), lpf (fun s : Int32 × WW => f_X8_begin_b22 s.1 s.2) nn s = some r → (fun r : WW => G 41 [] [] r) r → (fun s : Int32 × WW => G 22 [(0, .ref 46), (2, .int s.1)] [] s.2) s := by
    refine lpf_ind (fun s : Int32 × WW => G 22 [(0, .ref 46), (2, .int s.1)] [] s.2) (fun r : WW => G 41 [] [] r) ?_
    rintro ⟨l2, w⟩ z hk hz
    have hk : f_X8_begin_b22 l2 w = some z := hk
    unfold f_X8_begin_b22 at hk
    show G 22 [(0, .ref 46), (2, .int l2)] [] w
    refine k_iload_n (pc := 22) h 1 dX8_begin_22 rfl ?_
    refine k_bipush (pc := 23) h (x := (16 : Int32)) dX8_begin_23 (by decide) ?_
    refine k_icmp_ge (tgt := 41) (pc := 25) h dX8_begin_25 rfl hk (fun hc hk => ?_) (fun hc hk => ?_)
    · refine k_sub h [] (lv' := []) rfl ?_
      have hk := Option.some.inj hk
      subst hk
      exact hz
    · refine k_aload_n (pc := 28) h 0 dX8_begin_28 rfl ?_
      refine k_getr (pc := 29) h fl_X8_17 ly_46 rfl dX8_begin_29 ?_
      refine k_iload_n (pc := 32) h 1 dX8_begin_32 rfl ?_
      refine k_iconst (pc := 33) h (x := (1 : Int32)) dX8_begin_33 (by decide) ?_
      refine k_iast (pc := 34) h ly_48 dX8_begin_34 hk (fun u5 hk => ?_)
      refine k_iinc (pc := 35) h 1 [1, 0] (v := (l2 + (1 : Int32))) (lv' := [(0, .ref 46), (2, .int (l2 + (1 : Int32)))]) dX8_begin_35 rfl rfl (by decide) rfl ?_
      refine k_goto (tgt := 22) (pc := 38) h dX8_begin_38 rfl ?_
      have hk := Option.some.inj hk
      subst hk
      exact hz
  refine k_aload_n (pc := 0) h 0 dX8_begin_0 rfl ?_
  refine k_iload_n (pc := 1) h 1 dX8_begin_1 rfl ?_
  refine k_puti (pc := 2) h fl_X8_13 ly_46 rfl dX8_begin_2 hk (fun u1 hk => ?_)
  refine k_aload_n (pc := 5) h 0 dX8_begin_5 rfl ?_
  refine k_iconst (pc := 6) h (x := (0 : Int32)) dX8_begin_6 (by decide) ?_
  refine k_puti (pc := 7) h fl_X8_75 ly_46 rfl dX8_begin_7 hk (fun u2 hk => ?_)
  refine k_aload_n (pc := 10) h 0 dX8_begin_10 rfl ?_
  refine k_iconst (pc := 11) h (x := (0 : Int32)) dX8_begin_11 (by decide) ?_
  refine k_puti (pc := 12) h fl_X8_78 ly_46 rfl dX8_begin_12 hk (fun u3 hk => ?_)
  refine k_aload_n (pc := 15) h 0 dX8_begin_15 rfl ?_
  refine k_iconst (pc := 16) h (x := (0 : Int32)) dX8_begin_16 (by decide) ?_
  refine k_puti (pc := 17) h fl_X8_81 ly_46 rfl dX8_begin_17 hk (fun u4 hk => ?_)
  refine k_iconst (pc := 20) h (x := (0 : Int32)) dX8_begin_20 (by decide) ?_
  refine k_istore_n (pc := 21) h [1, 2, 0] (lv' := [(0, .ref 46), (1, .int l1), (2, .int (0 : Int32))]) dX8_begin_21 rfl (by decide) rfl ?_
  refine k_sub h [0, 2] (lv' := [(0, .ref 46), (2, .int (0 : Int32))]) rfl ?_
  obtain ⟨r6, hl7, hk⟩ := bd_some hk
  refine LB22 _ _ _ hl7 ?_
  show G 41 [] [] r6
  have hk := Option.some.inj hk
  subst hk
  exact k_vret (pc := 41) h dX8_begin_41 ⟨rfl, rfl, rfl, rfl, rfl, rfl⟩
def f_X8_bits_b4 (w : WW) (l0 : Int32) (l1 : Int32) (l2 : Int32) : Option ((Int32 × Int32) ⊕ (Int32)) := if (16 : Int32) ≤ l2 then some (.inr l1) else nmv (l1 + ((shr32 l0 l2) &&& (1 : Int32))) (fun v1 => some (.inl (v1, (l2 + (1 : Int32)))))
def f_X8_bits (w : WW) (l0 : Int32) : Option (Int32) := (lpf (fun s : Int32 × Int32 => f_X8_bits_b4 w l0 s.1 s.2) FU ((0 : Int32), (0 : Int32))).bind (fun r2 => some (r2))
set_option maxRecDepth 20000 in
set_option maxHeartbeats 4000000 in
theorem c_X8_bits {lay : List LyS} {w : WW} {l0 : Int32} {z : Int32} (hk : f_X8_bits w l0 = some z) : Cn 0 yX8_bits cX8_bits 3 (some .int) lay [.int l0] w (some (.int z)) w := by
  refine Cn.of (by decide +kernel) (Nat.le_of_ble_eq_true rfl) (fun G h => ?_)
  have h : Rules cX8_bits RX8 "bits" 3 (rmd 0 0 0) none _ _ lay 0 0 G := h
  show G 0 [(0, .int l0)] [] w
  unfold f_X8_bits at hk
  have LB4 : ∀ (l0 : Int32), ∀ (nn : Nat) (s : Int32 × Int32) (r : Int32), lpf (fun s : Int32 × Int32 => f_X8_bits_b4 w l0 s.1 s.2) nn s = some r → (fun r : Int32 => G 24 [(1, .int r)] [] w) r → (fun s : Int32 × Int32 => G 4 [(0, .int l0), (1, .int s.1), (2, .int s.2)] [] w) s := by
    intro l0
    refine lpf_ind (fun s : Int32 × Int32 => G 4 [(0, .int l0), (1, .int s.1), (2, .int s.2)] [] w) (fun r : Int32 => G 24 [(1, .int r)] [] w) ?_
    rintro ⟨l1, l2⟩ z hk hz
    have hk : f_X8_bits_b4 w l0 l1 l2 = some z := hk
    unfold f_X8_bits_b4 at hk
    show G 4 [(0, .int l0), (1, .int l1), (2, .int l2)] [] w
    refine k_iload_n (pc := 4) h 2 dX8_bits_4 rfl ?_
    refine k_bipush (pc := 5) h (x := (16 : Int32)) dX8_bits_5 (by decide) ?_
    refine k_icmp_ge (tgt := 24) (pc := 7) h dX8_bits_7 rfl hk (fun hc hk => ?_) (fun hc hk => ?_)
    · refine k_sub h [1] (lv' := [(1, .int l1)]) rfl ?_
      have hk := Option.some.inj hk
      subst hk
      exact hz
    · refine k_iload_n (pc := 10) h 1 dX8_bits_10 rfl ?_
      refine k_iload_n (pc := 11) h 0 dX8_bits_11 rfl ?_
      refine k_iload_n (pc := 12) h 2 dX8_bits_12 rfl ?_
      refine k_ishr (pc := 13) h dX8_bits_13 ?_
      refine k_iconst (pc := 14) h (x := (1 : Int32)) dX8_bits_14 (by decide) ?_
      refine k_iand (pc := 15) h dX8_bits_15 ?_
      refine k_iadd (pc := 16) h dX8_bits_16 ?_
      refine k_nmi (pc := 17) h hk (fun v1 hk => ?_)
      refine k_istore_n (pc := 17) h [1, 0, 2] (lv' := [(0, .int l0), (1, .int v1), (2, .int l2)]) dX8_bits_17 rfl (by decide) rfl ?_
      refine k_iinc (pc := 18) h 2 [1, 2, 0] (v := (l2 + (1 : Int32))) (lv' := [(0, .int l0), (1, .int v1), (2, .int (l2 + (1 : Int32)))]) dX8_bits_18 rfl rfl (by decide) rfl ?_
      refine k_goto (tgt := 4) (pc := 21) h dX8_bits_21 rfl ?_
      have hk := Option.some.inj hk
      subst hk
      exact hz
  refine k_iconst (pc := 0) h (x := (0 : Int32)) dX8_bits_0 (by decide) ?_
  refine k_istore_n (pc := 1) h [1, 0] (lv' := [(0, .int l0), (1, .int (0 : Int32))]) dX8_bits_1 rfl (by decide) rfl ?_
  refine k_iconst (pc := 2) h (x := (0 : Int32)) dX8_bits_2 (by decide) ?_
  refine k_istore_n (pc := 3) h [1, 2, 0] (lv' := [(0, .int l0), (1, .int (0 : Int32)), (2, .int (0 : Int32))]) dX8_bits_3 rfl (by decide) rfl ?_
  obtain ⟨r2, hl3, hk⟩ := bd_some hk
  refine LB4 _ _ _ _ hl3 ?_
  show G 24 [(1, .int r2)] [] w
  refine k_iload_n (pc := 24) h 0 dX8_bits_24 rfl ?_
  have hk := Option.some.inj hk
  subst hk
  exact k_iret (pc := 25) h dX8_bits_25 ⟨rfl, rfl, rfl, rfl, rfl, ⟨.int, rfl, rfl⟩⟩
def f_X8_clear (w : WW) : Option (Int32 × WW) := nmv (w.1 46 10) (fun v1 => stI w 46 10 (0 : Int32) (fun u2 => some (v1, u2)))
set_option maxRecDepth 20000 in
set_option maxHeartbeats 4000000 in
theorem c_X8_clear {w : WW} {z : Int32 × WW} (hk : f_X8_clear w = some z) : Cn 0 yX8_clear cX8_clear 2 (some .int) LAY [.ref 46] w (some (.int z.1)) z.2 := by
  refine Cn.of (by decide +kernel) (Nat.le_of_ble_eq_true rfl) (fun G h => ?_)
  have h : Rules cX8_clear RX8 "clear" 2 (rmd 0 0 0) none _ _ LAY 0 0 G := h
  show G 0 [(0, .ref 46)] [] w
  unfold f_X8_clear at hk
  refine k_aload_n (pc := 0) h 0 dX8_clear_0 rfl ?_
  refine k_geti (pc := 1) h fl_X8_106 ly_46 rfl dX8_clear_1 ?_
  refine k_nmi (pc := 4) h hk (fun v1 hk => ?_)
  refine k_istore_n (pc := 4) h [1, 0] (lv' := [(0, .ref 46), (1, .int v1)]) dX8_clear_4 rfl (by decide) rfl ?_
  refine k_aload_n (pc := 5) h 0 dX8_clear_5 rfl ?_
  refine k_iconst (pc := 6) h (x := (0 : Int32)) dX8_clear_6 (by decide) ?_
  refine k_puti (pc := 7) h fl_X8_106 ly_46 rfl dX8_clear_7 hk (fun u2 hk => ?_)
  refine k_iload_n (pc := 10) h 1 dX8_clear_10 rfl ?_
  have hk := Option.some.inj hk
  subst hk
  exact k_iret (pc := 11) h dX8_clear_11 ⟨rfl, rfl, rfl, rfl, rfl, ⟨.int, rfl, rfl⟩⟩
def f_X8_drawn (w : WW) (l1 : Int32) : Option (Int32 × WW) := gd (¬ (2147483648 : Int64) = 0) (stL w 46 28 (rm64 (((w.2 46 28) * (1103515245 : Int64)) + (12345 : Int64)) (2147483648 : Int64)) (fun u1 => gd (¬ (65536 : Int64) = 0) (gd (¬ ((l1).toInt64) = 0) (some ((((rm64 ((u1.2 46 28) / (65536 : Int64)) ((l1).toInt64))).toInt32), u1)))))
set_option maxRecDepth 20000 in
set_option maxHeartbeats 4000000 in
theorem c_X8_drawn {w : WW} {l1 : Int32} {z : Int32 × WW} (hk : f_X8_drawn w l1 = some z) : Cn 0 yX8_drawn cX8_drawn 2 (some .int) LAY [.ref 46, .int l1] w (some (.int z.1)) z.2 := by
  refine Cn.of (by decide +kernel) (Nat.le_of_ble_eq_true rfl) (fun G h => ?_)
  have h : Rules cX8_drawn RX8 "drawn" 2 (rmd 0 0 0) none _ _ LAY 0 0 G := h
  show G 0 [(0, .ref 46), (1, .int l1)] [] w
  unfold f_X8_drawn at hk
  refine k_aload_n (pc := 0) h 0 dX8_drawn_0 rfl ?_
  refine k_aload_n (pc := 1) h 0 dX8_drawn_1 rfl ?_
  refine k_getl (pc := 2) h fl_X8_256 ly_46 rfl dX8_drawn_2 ?_
  refine k_ldc2 (pc := 5) h (x := (1103515245 : Int64)) cs_X8_259 dX8_drawn_5 ?_
  refine k_lmul (pc := 8) h dX8_drawn_8 ?_
  refine k_ldc2 (pc := 9) h (x := (12345 : Int64)) cs_X8_261 dX8_drawn_9 ?_
  refine k_ladd (pc := 12) h dX8_drawn_12 ?_
  refine k_ldc2 (pc := 13) h (x := (2147483648 : Int64)) cs_X8_263 dX8_drawn_13 ?_
  refine k_lrem (pc := 16) h dX8_drawn_16 hk (fun hk => ?_)
  refine k_putl (pc := 17) h fl_X8_256 ly_46 rfl dX8_drawn_17 hk (fun u1 hk => ?_)
  refine k_aload_n (pc := 20) h 0 dX8_drawn_20 rfl ?_
  refine k_getl (pc := 21) h fl_X8_256 ly_46 rfl dX8_drawn_21 ?_
  refine k_ldc2 (pc := 24) h (x := (65536 : Int64)) cs_X8_265 dX8_drawn_24 ?_
  refine k_ldiv (pc := 27) h dX8_drawn_27 hk (fun hk => ?_)
  refine k_iload_n (pc := 28) h 1 dX8_drawn_28 rfl ?_
  refine k_i2l (pc := 29) h dX8_drawn_29 ?_
  refine k_lrem (pc := 30) h dX8_drawn_30 hk (fun hk => ?_)
  refine k_l2i (pc := 31) h dX8_drawn_31 ?_
  have hk := Option.some.inj hk
  subst hk
  exact k_iret (pc := 32) h dX8_drawn_32 ⟨rfl, rfl, rfl, rfl, rfl, ⟨.int, rfl, rfl⟩⟩
def f_X8_everyCase (w : WW) : Option (Int32) := some (((shl32 (1 : Int32) (w.1 46 1)) - (1 : Int32)))
set_option maxRecDepth 20000 in
set_option maxHeartbeats 4000000 in
theorem c_X8_everyCase {w : WW} {z : Int32} (hk : f_X8_everyCase w = some z) : Cn 0 yX8_everyCase cX8_everyCase 1 (some .int) LAY [.ref 46] w (some (.int z)) w := by
  refine Cn.of (by decide +kernel) (Nat.le_of_ble_eq_true rfl) (fun G h => ?_)
  have h : Rules cX8_everyCase RX8 "everyCase" 1 (rmd 0 0 0) none _ _ LAY 0 0 G := h
  show G 0 [(0, .ref 46)] [] w
  unfold f_X8_everyCase at hk
  refine k_iconst (pc := 0) h (x := (1 : Int32)) dX8_everyCase_0 (by decide) ?_
  refine k_aload_n (pc := 1) h 0 dX8_everyCase_1 rfl ?_
  refine k_geti (pc := 2) h fl_X8_13 ly_46 rfl dX8_everyCase_2 ?_
  refine k_ishl (pc := 5) h dX8_everyCase_5 ?_
  refine k_iconst (pc := 6) h (x := (1 : Int32)) dX8_everyCase_6 (by decide) ?_
  refine k_isub (pc := 7) h dX8_everyCase_7 ?_
  have hk := Option.some.inj hk
  subst hk
  exact k_iret (pc := 8) h dX8_everyCase_8 ⟨rfl, rfl, rfl, rfl, rfl, ⟨.int, rfl, rfl⟩⟩
def f_X8_full (w : WW) : Option (Int32 × WW) := gd (inb (2 : Int32) 3) (gd (inb (2 : Int32) 3) (stI w 47 ((2 : Int32)).toNatClampNeg ((w.1 47 ((2 : Int32)).toNatClampNeg) + (1 : Int32)) (fun u1 => some ((-4 : Int32), u1))))
set_option maxRecDepth 20000 in
set_option maxHeartbeats 4000000 in
theorem c_X8_full {w : WW} {z : Int32 × WW} (hk : f_X8_full w = some z) : Cn 0 yX8_full cX8_full 1 (some .int) LAY [.ref 46] w (some (.int z.1)) z.2 := by
  refine Cn.of (by decide +kernel) (Nat.le_of_ble_eq_true rfl) (fun G h => ?_)
  have h : Rules cX8_full RX8 "full" 1 (rmd 0 0 0) none _ _ LAY 0 0 G := h
  show G 0 [(0, .ref 46)] [] w
  unfold f_X8_full at hk
  refine k_aload_n (pc := 0) h 0 dX8_full_0 rfl ?_
  refine k_getr (pc := 1) h fl_X8_1 ly_46 rfl dX8_full_1 ?_
  refine k_iconst (pc := 4) h (x := (2 : Int32)) dX8_full_4 (by decide) ?_
  refine k_dup2 (pc := 5) h dX8_full_5 rfl rfl ?_
  refine k_iald (pc := 6) h ly_47 dX8_full_6 hk (fun hk => ?_)
  refine k_iconst (pc := 7) h (x := (1 : Int32)) dX8_full_7 (by decide) ?_
  refine k_iadd (pc := 8) h dX8_full_8 ?_
  refine k_iast (pc := 9) h ly_47 dX8_full_9 hk (fun u1 hk => ?_)
  refine k_bipush (pc := 10) h (x := (-4 : Int32)) dX8_full_10 (by decide) ?_
  have hk := Option.some.inj hk
  subst hk
  exact k_iret (pc := 12) h dX8_full_12 ⟨rfl, rfl, rfl, rfl, rfl, ⟨.int, rfl, rfl⟩⟩
def f_X8_has (w : WW) (l0 : Int32) (l1 : Int32) : Option (Int32) := if ((shr32 l0 l1) &&& (1 : Int32)) = (1 : Int32) then some ((1 : Int32)) else some ((0 : Int32))
set_option maxRecDepth 20000 in
set_option maxHeartbeats 4000000 in
theorem c_X8_has {lay : List LyS} {w : WW} {l0 : Int32} {l1 : Int32} {z : Int32} (hk : f_X8_has w l0 l1 = some z) : Cn 0 yX8_has cX8_has 2 (some .boolean) lay [.int l0, .int l1] w (some (.int z)) w := by
  refine Cn.of (by decide +kernel) (Nat.le_of_ble_eq_true rfl) (fun G h => ?_)
  have h : Rules cX8_has RX8 "has" 2 (rmd 0 0 0) none _ _ lay 0 0 G := h
  show G 0 [(0, .int l0), (1, .int l1)] [] w
  unfold f_X8_has at hk
  refine k_iload_n (pc := 0) h 0 dX8_has_0 rfl ?_
  refine k_iload_n (pc := 1) h 1 dX8_has_1 rfl ?_
  refine k_ishr (pc := 2) h dX8_has_2 ?_
  refine k_iconst (pc := 3) h (x := (1 : Int32)) dX8_has_3 (by decide) ?_
  refine k_iand (pc := 4) h dX8_has_4 ?_
  refine k_iconst (pc := 5) h (x := (1 : Int32)) dX8_has_5 (by decide) ?_
  refine k_icmp_ne (tgt := 13) (pc := 6) h dX8_has_6 rfl hk (fun hc hk => ?_) (fun hc hk => ?_)
  · refine k_iconst (pc := 13) h (x := (0 : Int32)) dX8_has_13 (by decide) ?_
    have hk := Option.some.inj hk
    subst hk
    exact k_iret (pc := 14) h dX8_has_14 ⟨rfl, rfl, rfl, rfl, rfl, ⟨.boolean, rfl, rfl⟩⟩
  · refine k_iconst (pc := 9) h (x := (1 : Int32)) dX8_has_9 (by decide) ?_
    refine k_goto (tgt := 14) (pc := 10) h dX8_has_10 rfl ?_
    have hk := Option.some.inj hk
    subst hk
    exact k_iret (pc := 14) h dX8_has_14 ⟨rfl, rfl, rfl, rfl, rfl, ⟨.boolean, rfl, rfl⟩⟩
def f_X8_here (w : WW) : Option (Int32) := if (w.1 46 10) ≤ (w.1 46 11) then some ((-1 : Int32)) else gd (inb (w.1 46 11) 150) (some ((w.1 53 ((w.1 46 11)).toNatClampNeg)))
set_option maxRecDepth 20000 in
set_option maxHeartbeats 4000000 in
theorem c_X8_here {w : WW} {z : Int32} (hk : f_X8_here w = some z) : Cn 0 yX8_here cX8_here 1 (some .int) LAY [.ref 46] w (some (.int z)) w := by
  refine Cn.of (by decide +kernel) (Nat.le_of_ble_eq_true rfl) (fun G h => ?_)
  have h : Rules cX8_here RX8 "here" 1 (rmd 0 0 0) none _ _ LAY 0 0 G := h
  show G 0 [(0, .ref 46)] [] w
  unfold f_X8_here at hk
  refine k_aload_n (pc := 0) h 0 dX8_here_0 rfl ?_
  refine k_geti (pc := 1) h fl_X8_109 ly_46 rfl dX8_here_1 ?_
  refine k_aload_n (pc := 4) h 0 dX8_here_4 rfl ?_
  refine k_geti (pc := 5) h fl_X8_106 ly_46 rfl dX8_here_5 ?_
  refine k_icmp_ge (tgt := 23) (pc := 8) h dX8_here_8 rfl hk (fun hc hk => ?_) (fun hc hk => ?_)
  · refine k_iconst (pc := 23) h (x := (-1 : Int32)) dX8_here_23 (by decide) ?_
    have hk := Option.some.inj hk
    subst hk
    exact k_iret (pc := 24) h dX8_here_24 ⟨rfl, rfl, rfl, rfl, rfl, ⟨.int, rfl, rfl⟩⟩
  · refine k_aload_n (pc := 11) h 0 dX8_here_11 rfl ?_
    refine k_getr (pc := 12) h fl_X8_32 ly_46 rfl dX8_here_12 ?_
    refine k_aload_n (pc := 15) h 0 dX8_here_15 rfl ?_
    refine k_geti (pc := 16) h fl_X8_109 ly_46 rfl dX8_here_16 ?_
    refine k_iald (pc := 19) h ly_53 dX8_here_19 hk (fun hk => ?_)
    refine k_goto (tgt := 24) (pc := 20) h dX8_here_20 rfl ?_
    have hk := Option.some.inj hk
    subst hk
    exact k_iret (pc := 24) h dX8_here_24 ⟨rfl, rfl, rfl, rfl, rfl, ⟨.int, rfl, rfl⟩⟩

def f_X6_stepBack (b : Nat) (w : WW) : Option (WW) := if (1 : Int32) ≤ (w.1 b 3) then stI w b 3 ((w.1 b 3) - (1 : Int32)) (fun u1 => gd (inb (u1.1 b 3) 8) (nmv (u1.1 (b + 7) ((u1.1 b 3)).toNatClampNeg) (fun v2 => if v2 = (-1 : Int32) then (f_J9_max_7cf53 u1 ((u1.1 b 2) - (1 : Int32)) (0 : Int32)).bind (fun p7 => stI u1 b 2 p7 (fun u8 => some u8)) else if (8 : Int32) ≤ (u1.1 b 2) then some u1 else gd (cpOk 8 8 (0 : Int32) (1 : Int32) (u1.1 b 2)) (stC u1 (b + 6) (b + 6) (0 : Int32) (1 : Int32) (u1.1 b 2) (fun u3 => gd (inb (0 : Int32) 8) (stI u3 (b + 6) ((0 : Int32)).toNatClampNeg v2 (fun u4 => stI u4 b 2 ((u4.1 b 2) + (1 : Int32)) (fun u5 => some u5)))))))) else some w
set_option maxRecDepth 20000 in
set_option maxHeartbeats 4000000 in
theorem c_X6_stepBack {lay : List LyS} {b : Nat} (hb : StAt lay b) {w : WW} {z : WW} (hk : f_X6_stepBack b w = some z) : Cn 1 yX6_stepBack cX6_stepBack 2 none lay [.ref b] w none z := by
  refine Cn.of (by decide +kernel) (Nat.le_of_ble_eq_true rfl) (fun G h => ?_)
  have h : Rules cX6_stepBack RX6 "stepBack" 2 (rmd 1 0 0) none _ _ lay 0 0 G := h
  show G 0 [(0, .ref b)] [] w
  unfold f_X6_stepBack at hk
  refine k_aload_n (pc := 0) h 0 dX6_stepBack_0 rfl ?_
  refine k_geti (pc := 1) h fl_X6_47 hb.1 rfl dX6_stepBack_1 ?_
  refine k_iconst (pc := 4) h (x := (1 : Int32)) dX6_stepBack_4 (by decide) ?_
  refine k_icmp_ge (tgt := 9) (pc := 5) h dX6_stepBack_5 rfl hk (fun hc hk => ?_) (fun hc hk => ?_)
  · refine k_aload_n (pc := 9) h 0 dX6_stepBack_9 rfl ?_
    refine k_dup (pc := 10) h dX6_stepBack_10 rfl ?_
    refine k_geti (pc := 11) h fl_X6_47 hb.1 rfl dX6_stepBack_11 ?_
    refine k_iconst (pc := 14) h (x := (1 : Int32)) dX6_stepBack_14 (by decide) ?_
    refine k_isub (pc := 15) h dX6_stepBack_15 ?_
    refine k_puti (pc := 16) h fl_X6_47 hb.1 rfl dX6_stepBack_16 hk (fun u1 hk => ?_)
    refine k_aload_n (pc := 19) h 0 dX6_stepBack_19 rfl ?_
    refine k_getr (pc := 20) h fl_X6_30 hb.1 rfl dX6_stepBack_20 ?_
    refine k_aload_n (pc := 23) h 0 dX6_stepBack_23 rfl ?_
    refine k_geti (pc := 24) h fl_X6_47 hb.1 rfl dX6_stepBack_24 ?_
    refine k_iald (pc := 27) h hb.2.2.2.2.2.2.2 dX6_stepBack_27 hk (fun hk => ?_)
    refine k_nmi (pc := 28) h hk (fun v2 hk => ?_)
    refine k_istore_n (pc := 28) h [1, 0] (lv' := [(0, .ref b), (1, .int v2)]) dX6_stepBack_28 rfl (by decide) rfl ?_
    refine k_iload_n (pc := 29) h 1 dX6_stepBack_29 rfl ?_
    refine k_iconst (pc := 30) h (x := (-1 : Int32)) dX6_stepBack_30 (by decide) ?_
    refine k_icmp_ne (tgt := 51) (pc := 31) h dX6_stepBack_31 rfl hk (fun hc hk => ?_) (fun hc hk => ?_)
    · refine k_aload_n (pc := 51) h 0 dX6_stepBack_51 rfl ?_
      refine k_geti (pc := 52) h fl_X6_44 hb.1 rfl dX6_stepBack_52 ?_
      refine k_bipush (pc := 55) h (x := (8 : Int32)) dX6_stepBack_55 (by decide) ?_
      refine k_icmp_ge (tgt := 94) (pc := 57) h dX6_stepBack_57 rfl hk (fun hc hk => ?_) (fun hc hk => ?_)
      · have hk := Option.some.inj hk
        subst hk
        exact k_vret (pc := 94) h dX6_stepBack_94 ⟨rfl, rfl, rfl, rfl, rfl, rfl⟩
      · refine k_aload_n (pc := 60) h 0 dX6_stepBack_60 rfl ?_
        refine k_getr (pc := 61) h fl_X6_27 hb.1 rfl dX6_stepBack_61 ?_
        refine k_iconst (pc := 64) h (x := (0 : Int32)) dX6_stepBack_64 (by decide) ?_
        refine k_aload_n (pc := 65) h 0 dX6_stepBack_65 rfl ?_
        refine k_getr (pc := 66) h fl_X6_27 hb.1 rfl dX6_stepBack_66 ?_
        refine k_iconst (pc := 69) h (x := (1 : Int32)) dX6_stepBack_69 (by decide) ?_
        refine k_aload_n (pc := 70) h 0 dX6_stepBack_70 rfl ?_
        refine k_geti (pc := 71) h fl_X6_44 hb.1 rfl dX6_stepBack_71 ?_
        refine k_copyi (pc := 74) h cp_X6_50 hb.2.2.2.2.2.2.1 hb.2.2.2.2.2.2.1 (by decide) (Nat.le_of_ble_eq_true rfl) dX6_stepBack_74 hk (fun u3 hk => ?_)
        refine k_aload_n (pc := 77) h 0 dX6_stepBack_77 rfl ?_
        refine k_getr (pc := 78) h fl_X6_27 hb.1 rfl dX6_stepBack_78 ?_
        refine k_iconst (pc := 81) h (x := (0 : Int32)) dX6_stepBack_81 (by decide) ?_
        refine k_iload_n (pc := 82) h 1 dX6_stepBack_82 rfl ?_
        refine k_iast (pc := 83) h hb.2.2.2.2.2.2.1 dX6_stepBack_83 hk (fun u4 hk => ?_)
        refine k_aload_n (pc := 84) h 0 dX6_stepBack_84 rfl ?_
        refine k_dup (pc := 85) h dX6_stepBack_85 rfl ?_
        refine k_geti (pc := 86) h fl_X6_44 hb.1 rfl dX6_stepBack_86 ?_
        refine k_iconst (pc := 89) h (x := (1 : Int32)) dX6_stepBack_89 (by decide) ?_
        refine k_iadd (pc := 90) h dX6_stepBack_90 ?_
        refine k_puti (pc := 91) h fl_X6_44 hb.1 rfl dX6_stepBack_91 hk (fun u5 hk => ?_)
        have hk := Option.some.inj hk
        subst hk
        exact k_vret (pc := 94) h dX6_stepBack_94 ⟨rfl, rfl, rfl, rfl, rfl, rfl⟩
    · refine k_aload_n (pc := 34) h 0 dX6_stepBack_34 rfl ?_
      refine k_aload_n (pc := 35) h 0 dX6_stepBack_35 rfl ?_
      refine k_geti (pc := 36) h fl_X6_44 hb.1 rfl dX6_stepBack_36 ?_
      refine k_iconst (pc := 39) h (x := (1 : Int32)) dX6_stepBack_39 (by decide) ?_
      refine k_isub (pc := 40) h dX6_stepBack_40 ?_
      refine k_iconst (pc := 41) h (x := (0 : Int32)) dX6_stepBack_41 (by decide) ?_
      obtain ⟨p7, hc6, hk⟩ := bd_some hk
      refine k_callS1 (pc := 42) h (c_J9_max_7cf53 hc6) cw_X6_71 ⟨⟨by decide, by decide⟩, Nat.zero_le _, Nat.zero_le _⟩ rfl (Nat.le_of_ble_eq_true rfl) dX6_stepBack_42 ?_
      refine k_puti (pc := 45) h fl_X6_44 hb.1 rfl dX6_stepBack_45 hk (fun u8 hk => ?_)
      refine k_goto (tgt := 94) (pc := 48) h dX6_stepBack_48 rfl ?_
      have hk := Option.some.inj hk
      subst hk
      exact k_vret (pc := 94) h dX6_stepBack_94 ⟨rfl, rfl, rfl, rfl, rfl, rfl⟩
  · have hk := Option.some.inj hk
    subst hk
    exact k_vret (pc := 8) h dX6_stepBack_8 ⟨rfl, rfl, rfl, rfl, rfl, rfl⟩
def f_X6_takeFrom (b : Nat) (b2 : Nat) (w : WW) : Option (WW) := stI w b 0 (w.1 b2 0) (fun u1 => stI u1 b 1 (u1.1 b2 1) (fun u2 => stI u2 b 2 (u2.1 b2 2) (fun u3 => stI u3 b 3 (u3.1 b2 3) (fun u4 => gd (cpOk 16 16 (0 : Int32) (0 : Int32) (16 : Int32)) (stC u4 (b2 + 1) (b + 1) (0 : Int32) (0 : Int32) (16 : Int32) (fun u5 => gd (cpOk 7 7 (0 : Int32) (0 : Int32) (7 : Int32)) (stC u5 (b2 + 2) (b + 2) (0 : Int32) (0 : Int32) (7 : Int32) (fun u6 => gd (cpOk 7 7 (0 : Int32) (0 : Int32) (7 : Int32)) (stC u6 (b2 + 3) (b + 3) (0 : Int32) (0 : Int32) (7 : Int32) (fun u7 => gd (cpOk 7 7 (0 : Int32) (0 : Int32) (7 : Int32)) (stC u7 (b2 + 4) (b + 4) (0 : Int32) (0 : Int32) (7 : Int32) (fun u8 => gd (cpOk 112 112 (0 : Int32) (0 : Int32) (112 : Int32)) (stC u8 (b2 + 5) (b + 5) (0 : Int32) (0 : Int32) (112 : Int32) (fun u9 => gd (cpOk 8 8 (0 : Int32) (0 : Int32) (8 : Int32)) (stC u9 (b2 + 6) (b + 6) (0 : Int32) (0 : Int32) (8 : Int32) (fun u10 => gd (cpOk 8 8 (0 : Int32) (0 : Int32) (8 : Int32)) (stC u10 (b2 + 7) (b + 7) (0 : Int32) (0 : Int32) (8 : Int32) (fun u11 => some u11))))))))))))))))))
set_option maxRecDepth 20000 in
set_option maxHeartbeats 4000000 in
theorem c_X6_takeFrom {lay : List LyS} {b : Nat} {b2 : Nat} (hb : StAt lay b) (hb2 : StAt lay b2) {w : WW} {z : WW} (hk : f_X6_takeFrom b b2 w = some z) : Cn 1 yX6_takeFrom cX6_takeFrom 2 none lay [.ref b, .ref b2] w none z := by
  refine Cn.of (by decide +kernel) (Nat.le_of_ble_eq_true rfl) (fun G h => ?_)
  have h : Rules cX6_takeFrom RX6 "takeFrom" 2 (rmd 1 0 0) none _ _ lay 0 0 G := h
  show G 0 [(0, .ref b), (1, .ref b2)] [] w
  unfold f_X6_takeFrom at hk
  refine k_aload_n (pc := 0) h 0 dX6_takeFrom_0 rfl ?_
  refine k_aload_n (pc := 1) h 1 dX6_takeFrom_1 rfl ?_
  refine k_geti (pc := 2) h fl_X6_37 hb2.1 rfl dX6_takeFrom_2 ?_
  refine k_puti (pc := 5) h fl_X6_37 hb.1 rfl dX6_takeFrom_5 hk (fun u1 hk => ?_)
  refine k_aload_n (pc := 8) h 0 dX6_takeFrom_8 rfl ?_
  refine k_aload_n (pc := 9) h 1 dX6_takeFrom_9 rfl ?_
  refine k_geti (pc := 10) h fl_X6_41 hb2.1 rfl dX6_takeFrom_10 ?_
  refine k_puti (pc := 13) h fl_X6_41 hb.1 rfl dX6_takeFrom_13 hk (fun u2 hk => ?_)
  refine k_aload_n (pc := 16) h 0 dX6_takeFrom_16 rfl ?_
  refine k_aload_n (pc := 17) h 1 dX6_takeFrom_17 rfl ?_
  refine k_geti (pc := 18) h fl_X6_44 hb2.1 rfl dX6_takeFrom_18 ?_
  refine k_puti (pc := 21) h fl_X6_44 hb.1 rfl dX6_takeFrom_21 hk (fun u3 hk => ?_)
  refine k_aload_n (pc := 24) h 0 dX6_takeFrom_24 rfl ?_
  refine k_aload_n (pc := 25) h 1 dX6_takeFrom_25 rfl ?_
  refine k_geti (pc := 26) h fl_X6_47 hb2.1 rfl dX6_takeFrom_26 ?_
  refine k_puti (pc := 29) h fl_X6_47 hb.1 rfl dX6_takeFrom_29 hk (fun u4 hk => ?_)
  refine k_aload_n (pc := 32) h 1 dX6_takeFrom_32 rfl ?_
  refine k_getr (pc := 33) h fl_X6_9 hb2.1 rfl dX6_takeFrom_33 ?_
  refine k_iconst (pc := 36) h (x := (0 : Int32)) dX6_takeFrom_36 (by decide) ?_
  refine k_aload_n (pc := 37) h 0 dX6_takeFrom_37 rfl ?_
  refine k_getr (pc := 38) h fl_X6_9 hb.1 rfl dX6_takeFrom_38 ?_
  refine k_iconst (pc := 41) h (x := (0 : Int32)) dX6_takeFrom_41 (by decide) ?_
  refine k_bipush (pc := 42) h (x := (16 : Int32)) dX6_takeFrom_42 (by decide) ?_
  refine k_copyi (pc := 44) h cp_X6_50 hb2.2.1 hb.2.1 (by decide) (Nat.le_of_ble_eq_true rfl) dX6_takeFrom_44 hk (fun u5 hk => ?_)
  refine k_aload_n (pc := 47) h 1 dX6_takeFrom_47 rfl ?_
  refine k_getr (pc := 48) h fl_X6_15 hb2.1 rfl dX6_takeFrom_48 ?_
  refine k_iconst (pc := 51) h (x := (0 : Int32)) dX6_takeFrom_51 (by decide) ?_
  refine k_aload_n (pc := 52) h 0 dX6_takeFrom_52 rfl ?_
  refine k_getr (pc := 53) h fl_X6_15 hb.1 rfl dX6_takeFrom_53 ?_
  refine k_iconst (pc := 56) h (x := (0 : Int32)) dX6_takeFrom_56 (by decide) ?_
  refine k_bipush (pc := 57) h (x := (7 : Int32)) dX6_takeFrom_57 (by decide) ?_
  refine k_copyi (pc := 59) h cp_X6_50 hb2.2.2.1 hb.2.2.1 (by decide) (Nat.le_of_ble_eq_true rfl) dX6_takeFrom_59 hk (fun u6 hk => ?_)
  refine k_aload_n (pc := 62) h 1 dX6_takeFrom_62 rfl ?_
  refine k_getr (pc := 63) h fl_X6_18 hb2.1 rfl dX6_takeFrom_63 ?_
  refine k_iconst (pc := 66) h (x := (0 : Int32)) dX6_takeFrom_66 (by decide) ?_
  refine k_aload_n (pc := 67) h 0 dX6_takeFrom_67 rfl ?_
  refine k_getr (pc := 68) h fl_X6_18 hb.1 rfl dX6_takeFrom_68 ?_
  refine k_iconst (pc := 71) h (x := (0 : Int32)) dX6_takeFrom_71 (by decide) ?_
  refine k_bipush (pc := 72) h (x := (7 : Int32)) dX6_takeFrom_72 (by decide) ?_
  refine k_copyi (pc := 74) h cp_X6_50 hb2.2.2.2.1 hb.2.2.2.1 (by decide) (Nat.le_of_ble_eq_true rfl) dX6_takeFrom_74 hk (fun u7 hk => ?_)
  refine k_aload_n (pc := 77) h 1 dX6_takeFrom_77 rfl ?_
  refine k_getr (pc := 78) h fl_X6_21 hb2.1 rfl dX6_takeFrom_78 ?_
  refine k_iconst (pc := 81) h (x := (0 : Int32)) dX6_takeFrom_81 (by decide) ?_
  refine k_aload_n (pc := 82) h 0 dX6_takeFrom_82 rfl ?_
  refine k_getr (pc := 83) h fl_X6_21 hb.1 rfl dX6_takeFrom_83 ?_
  refine k_iconst (pc := 86) h (x := (0 : Int32)) dX6_takeFrom_86 (by decide) ?_
  refine k_bipush (pc := 87) h (x := (7 : Int32)) dX6_takeFrom_87 (by decide) ?_
  refine k_copyi (pc := 89) h cp_X6_50 hb2.2.2.2.2.1 hb.2.2.2.2.1 (by decide) (Nat.le_of_ble_eq_true rfl) dX6_takeFrom_89 hk (fun u8 hk => ?_)
  refine k_aload_n (pc := 92) h 1 dX6_takeFrom_92 rfl ?_
  refine k_getr (pc := 93) h fl_X6_24 hb2.1 rfl dX6_takeFrom_93 ?_
  refine k_iconst (pc := 96) h (x := (0 : Int32)) dX6_takeFrom_96 (by decide) ?_
  refine k_aload_n (pc := 97) h 0 dX6_takeFrom_97 rfl ?_
  refine k_getr (pc := 98) h fl_X6_24 hb.1 rfl dX6_takeFrom_98 ?_
  refine k_iconst (pc := 101) h (x := (0 : Int32)) dX6_takeFrom_101 (by decide) ?_
  refine k_bipush (pc := 102) h (x := (112 : Int32)) dX6_takeFrom_102 (by decide) ?_
  refine k_copyi (pc := 104) h cp_X6_50 hb2.2.2.2.2.2.1 hb.2.2.2.2.2.1 (by decide) (Nat.le_of_ble_eq_true rfl) dX6_takeFrom_104 hk (fun u9 hk => ?_)
  refine k_aload_n (pc := 107) h 1 dX6_takeFrom_107 rfl ?_
  refine k_getr (pc := 108) h fl_X6_27 hb2.1 rfl dX6_takeFrom_108 ?_
  refine k_iconst (pc := 111) h (x := (0 : Int32)) dX6_takeFrom_111 (by decide) ?_
  refine k_aload_n (pc := 112) h 0 dX6_takeFrom_112 rfl ?_
  refine k_getr (pc := 113) h fl_X6_27 hb.1 rfl dX6_takeFrom_113 ?_
  refine k_iconst (pc := 116) h (x := (0 : Int32)) dX6_takeFrom_116 (by decide) ?_
  refine k_bipush (pc := 117) h (x := (8 : Int32)) dX6_takeFrom_117 (by decide) ?_
  refine k_copyi (pc := 119) h cp_X6_50 hb2.2.2.2.2.2.2.1 hb.2.2.2.2.2.2.1 (by decide) (Nat.le_of_ble_eq_true rfl) dX6_takeFrom_119 hk (fun u10 hk => ?_)
  refine k_aload_n (pc := 122) h 1 dX6_takeFrom_122 rfl ?_
  refine k_getr (pc := 123) h fl_X6_30 hb2.1 rfl dX6_takeFrom_123 ?_
  refine k_iconst (pc := 126) h (x := (0 : Int32)) dX6_takeFrom_126 (by decide) ?_
  refine k_aload_n (pc := 127) h 0 dX6_takeFrom_127 rfl ?_
  refine k_getr (pc := 128) h fl_X6_30 hb.1 rfl dX6_takeFrom_128 ?_
  refine k_iconst (pc := 131) h (x := (0 : Int32)) dX6_takeFrom_131 (by decide) ?_
  refine k_bipush (pc := 132) h (x := (8 : Int32)) dX6_takeFrom_132 (by decide) ?_
  refine k_copyi (pc := 134) h cp_X6_50 hb2.2.2.2.2.2.2.2 hb.2.2.2.2.2.2.2 (by decide) (Nat.le_of_ble_eq_true rfl) dX6_takeFrom_134 hk (fun u11 hk => ?_)
  have hk := Option.some.inj hk
  subst hk
  exact k_vret (pc := 137) h dX6_takeFrom_137 ⟨rfl, rfl, rfl, rfl, rfl, rfl⟩
def f_X7_answerOf_j10 (w : WW) (l0 : Int32) (l1 : Int32) (l2 : Int32) (s0 : Int32) : Option (Int32) := nmv ((1 : Int32) - s0) (fun v1 => (f_J9_floorMod_7cf53 w l1 (4 : Int32)).bind (fun p3 => gd (¬ (p3 + (2 : Int32)) = 0) (nmv (rm32 l2 (p3 + (2 : Int32))) (fun v4 => if l0 = (0 : Int32) then some (s0) else if l0 = (1 : Int32) then some (v1) else if l0 = (2 : Int32) then some (v4) else if l0 = (3 : Int32) then gd (¬ (2 : Int32) = 0) (some ((v4 / (2 : Int32)))) else if l0 = (4 : Int32) then some ((v4 + ((5 : Int32) * s0))) else if l2 = l1 then some ((2 : Int32)) else some (v1)))))
def f_X7_answerOf (w : WW) (l0 : Int32) (l1 : Int32) (l2 : Int32) : Option (Int32) := if l2 < l1 then f_X7_answerOf_j10 w l0 l1 l2 (0 : Int32) else f_X7_answerOf_j10 w l0 l1 l2 (1 : Int32)
set_option maxRecDepth 20000 in
set_option maxHeartbeats 4000000 in
theorem c_X7_answerOf {lay : List LyS} {w : WW} {l0 : Int32} {l1 : Int32} {l2 : Int32} {z : Int32} (hk : f_X7_answerOf w l0 l1 l2 = some z) : Cn 1 yX7_answerOf cX7_answerOf 6 (some .int) lay [.int l0, .int l1, .int l2] w (some (.int z)) w := by
  refine Cn.of (by decide +kernel) (Nat.le_of_ble_eq_true rfl) (fun G h => ?_)
  have h : Rules cX7_answerOf RX7 "answerOf" 6 (rmd 1 0 0) none _ _ lay 0 0 G := h
  show G 0 [(0, .int l0), (1, .int l1), (2, .int l2)] [] w
  unfold f_X7_answerOf at hk
  have EJ10 : ∀ (l0 : Int32) (l1 : Int32) (l2 : Int32) (s0 : Int32), f_X7_answerOf_j10 w l0 l1 l2 s0 = some z → G 10 [(0, .int l0), (1, .int l1), (2, .int l2)] [.int s0] w := by
    intro l0 l1 l2 s0 hk
    unfold f_X7_answerOf_j10 at hk
    refine k_istore_n (pc := 10) h [1, 2, 3, 0] (lv' := [(0, .int l0), (1, .int l1), (2, .int l2), (3, .int s0)]) dX7_answerOf_10 rfl (by decide) rfl ?_
    refine k_iconst (pc := 11) h (x := (1 : Int32)) dX7_answerOf_11 (by decide) ?_
    refine k_iload_n (pc := 12) h 3 dX7_answerOf_12 rfl ?_
    refine k_isub (pc := 13) h dX7_answerOf_13 ?_
    refine k_nmi (pc := 14) h hk (fun v1 hk => ?_)
    refine k_istore (pc := 14) h [1, 2, 3, 4, 0] (lv' := [(0, .int l0), (1, .int l1), (2, .int l2), (3, .int s0), (4, .int v1)]) dX7_answerOf_14 (by decide) rfl ?_
    refine k_iload_n (pc := 16) h 2 dX7_answerOf_16 rfl ?_
    refine k_iload_n (pc := 17) h 1 dX7_answerOf_17 rfl ?_
    refine k_iconst (pc := 18) h (x := (4 : Int32)) dX7_answerOf_18 (by decide) ?_
    obtain ⟨p3, hc2, hk⟩ := bd_some hk
    refine k_callS1 (pc := 19) h (c_J9_floorMod_7cf53 hc2) cw_X7_269 ⟨⟨by decide, by decide⟩, Nat.zero_le _, Nat.zero_le _⟩ rfl (Nat.le_of_ble_eq_true rfl) dX7_answerOf_19 ?_
    refine k_iconst (pc := 22) h (x := (2 : Int32)) dX7_answerOf_22 (by decide) ?_
    refine k_iadd (pc := 23) h dX7_answerOf_23 ?_
    refine k_irem (pc := 24) h dX7_answerOf_24 hk (fun hk => ?_)
    refine k_nmi (pc := 25) h hk (fun v4 hk => ?_)
    refine k_istore (pc := 25) h [1, 2, 3, 4, 5, 0] (lv' := [(0, .int l0), (1, .int l1), (2, .int l2), (3, .int s0), (4, .int v1), (5, .int v4)]) dX7_answerOf_25 (by decide) rfl ?_
    refine k_iload_n (pc := 27) h 0 dX7_answerOf_27 rfl ?_
    refine k_tab (a := (0 : Int32)) (tgt := 64) (pc := 28) h dX7_answerOf_28 (by decide) (by decide) rfl rfl hk (fun hk => ?_) (fun q0 hk => ?_)
    · refine k_iload_n (pc := 64) h 3 dX7_answerOf_64 rfl ?_
      have hk := Option.some.inj hk
      subst hk
      exact k_iret (pc := 65) h dX7_answerOf_65 ⟨rfl, rfl, rfl, rfl, rfl, ⟨.int, rfl, rfl⟩⟩
    · refine k_tab (a := (1 : Int32)) (tgt := 66) (pc := 28) h dX7_answerOf_28 (by decide) (by decide) rfl rfl hk (fun hk => ?_) (fun q1 hk => ?_)
      · refine k_iload (pc := 66) h 4 dX7_answerOf_66 rfl ?_
        have hk := Option.some.inj hk
        subst hk
        exact k_iret (pc := 68) h dX7_answerOf_68 ⟨rfl, rfl, rfl, rfl, rfl, ⟨.int, rfl, rfl⟩⟩
      · refine k_tab (a := (2 : Int32)) (tgt := 69) (pc := 28) h dX7_answerOf_28 (by decide) (by decide) rfl rfl hk (fun hk => ?_) (fun q2 hk => ?_)
        · refine k_iload (pc := 69) h 5 dX7_answerOf_69 rfl ?_
          have hk := Option.some.inj hk
          subst hk
          exact k_iret (pc := 71) h dX7_answerOf_71 ⟨rfl, rfl, rfl, rfl, rfl, ⟨.int, rfl, rfl⟩⟩
        · refine k_tab (a := (3 : Int32)) (tgt := 72) (pc := 28) h dX7_answerOf_28 (by decide) (by decide) rfl rfl hk (fun hk => ?_) (fun q3 hk => ?_)
          · refine k_iload (pc := 72) h 5 dX7_answerOf_72 rfl ?_
            refine k_iconst (pc := 74) h (x := (2 : Int32)) dX7_answerOf_74 (by decide) ?_
            refine k_idiv (pc := 75) h dX7_answerOf_75 hk (fun hk => ?_)
            have hk := Option.some.inj hk
            subst hk
            exact k_iret (pc := 76) h dX7_answerOf_76 ⟨rfl, rfl, rfl, rfl, rfl, ⟨.int, rfl, rfl⟩⟩
          · refine k_tab (a := (4 : Int32)) (tgt := 77) (pc := 28) h dX7_answerOf_28 (by decide) (by decide) rfl rfl hk (fun hk => ?_) (fun q4 hk => ?_)
            · refine k_iload (pc := 77) h 5 dX7_answerOf_77 rfl ?_
              refine k_iconst (pc := 79) h (x := (5 : Int32)) dX7_answerOf_79 (by decide) ?_
              refine k_iload_n (pc := 80) h 3 dX7_answerOf_80 rfl ?_
              refine k_imul (pc := 81) h dX7_answerOf_81 ?_
              refine k_iadd (pc := 82) h dX7_answerOf_82 ?_
              have hk := Option.some.inj hk
              subst hk
              exact k_iret (pc := 83) h dX7_answerOf_83 ⟨rfl, rfl, rfl, rfl, rfl, ⟨.int, rfl, rfl⟩⟩
            · refine k_tabD (tgt := 84) (pc := 28) h dX7_answerOf_28 (by have n0 := lv_neT q0 (a := 0) (by decide); have n1 := lv_neT q1 (a := 1) (by decide); have n2 := lv_neT q2 (a := 2) (by decide); have n3 := lv_neT q3 (a := 3) (by decide); have n4 := lv_neT q4 (a := 4) (by decide); omega) rfl ?_
              refine k_iload_n (pc := 84) h 2 dX7_answerOf_84 rfl ?_
              refine k_iload_n (pc := 85) h 1 dX7_answerOf_85 rfl ?_
              refine k_icmp_ne (tgt := 93) (pc := 86) h dX7_answerOf_86 rfl hk (fun hc hk => ?_) (fun hc hk => ?_)
              · refine k_iload (pc := 93) h 4 dX7_answerOf_93 rfl ?_
                have hk := Option.some.inj hk
                subst hk
                exact k_iret (pc := 95) h dX7_answerOf_95 ⟨rfl, rfl, rfl, rfl, rfl, ⟨.int, rfl, rfl⟩⟩
              · refine k_iconst (pc := 89) h (x := (2 : Int32)) dX7_answerOf_89 (by decide) ?_
                refine k_goto (tgt := 95) (pc := 90) h dX7_answerOf_90 rfl ?_
                have hk := Option.some.inj hk
                subst hk
                exact k_iret (pc := 95) h dX7_answerOf_95 ⟨rfl, rfl, rfl, rfl, rfl, ⟨.int, rfl, rfl⟩⟩
  refine k_iload_n (pc := 0) h 2 dX7_answerOf_0 rfl ?_
  refine k_iload_n (pc := 1) h 1 dX7_answerOf_1 rfl ?_
  refine k_icmp_lt (tgt := 9) (pc := 2) h dX7_answerOf_2 rfl hk (fun hc hk => ?_) (fun hc hk => ?_)
  · refine k_iconst (pc := 9) h (x := (0 : Int32)) dX7_answerOf_9 (by decide) ?_
    exact EJ10 _ _ _ _ hk
  · refine k_iconst (pc := 5) h (x := (1 : Int32)) dX7_answerOf_5 (by decide) ?_
    refine k_goto (tgt := 10) (pc := 6) h dX7_answerOf_6 rfl ?_
    exact EJ10 _ _ _ _ hk
def f_X7_isCase (w : WW) (l1 : Int32) : Option (Int32) := (f_X7_within w l1 (0 : Int32) ((w.1 1 0) - (1 : Int32))).bind (fun p2 => gd (p2 &&& 1 = p2) (some (p2)))
set_option maxRecDepth 20000 in
set_option maxHeartbeats 4000000 in
theorem c_X7_isCase {w : WW} {l1 : Int32} {z : Int32} (hk : f_X7_isCase w l1 = some z) : Cn 1 yX7_isCase cX7_isCase 2 (some .boolean) LAY [.ref 0, .int l1] w (some (.int z)) w := by
  refine Cn.of (by decide +kernel) (Nat.le_of_ble_eq_true rfl) (fun G h => ?_)
  have h : Rules cX7_isCase RX7 "isCase" 2 (rmd 1 0 0) none _ _ LAY 0 0 G := h
  show G 0 [(0, .ref 0), (1, .int l1)] [] w
  unfold f_X7_isCase at hk
  refine k_iload_n (pc := 0) h 1 dX7_isCase_0 rfl ?_
  refine k_iconst (pc := 1) h (x := (0 : Int32)) dX7_isCase_1 (by decide) ?_
  refine k_aload_n (pc := 2) h 0 dX7_isCase_2 rfl ?_
  refine k_getr (pc := 3) h fl_X7_10 ly_0 rfl dX7_isCase_3 ?_
  refine k_geti (pc := 6) h fl_X7_260 ly_1 rfl dX7_isCase_6 ?_
  refine k_iconst (pc := 9) h (x := (1 : Int32)) dX7_isCase_9 (by decide) ?_
  refine k_isub (pc := 10) h dX7_isCase_10 ?_
  obtain ⟨p2, hc1, hk⟩ := bd_some hk
  refine k_callS1 (pc := 11) h (c_X7_within hc1) cw_X7_75 ⟨⟨by decide, by decide⟩, Nat.zero_le _, Nat.zero_le _⟩ rfl (Nat.le_of_ble_eq_true rfl) dX7_isCase_11 ?_
  obtain ⟨hg, hk⟩ := gd_some hk
  have hk := Option.some.inj hk
  subst hk
  exact k_iret (pc := 14) h dX7_isCase_14 ⟨rfl, rfl, rfl, rfl, rfl, ⟨.boolean, rfl, nar_b hg⟩⟩
def f_X7_isQuestion (w : WW) (l1 : Int32) : Option (Int32) := (f_X7_within w l1 (0 : Int32) ((w.1 1 1) - (1 : Int32))).bind (fun p2 => gd (p2 &&& 1 = p2) (some (p2)))
set_option maxRecDepth 20000 in
set_option maxHeartbeats 4000000 in
theorem c_X7_isQuestion {w : WW} {l1 : Int32} {z : Int32} (hk : f_X7_isQuestion w l1 = some z) : Cn 1 yX7_isQuestion cX7_isQuestion 2 (some .boolean) LAY [.ref 0, .int l1] w (some (.int z)) w := by
  refine Cn.of (by decide +kernel) (Nat.le_of_ble_eq_true rfl) (fun G h => ?_)
  have h : Rules cX7_isQuestion RX7 "isQuestion" 2 (rmd 1 0 0) none _ _ LAY 0 0 G := h
  show G 0 [(0, .ref 0), (1, .int l1)] [] w
  unfold f_X7_isQuestion at hk
  refine k_iload_n (pc := 0) h 1 dX7_isQuestion_0 rfl ?_
  refine k_iconst (pc := 1) h (x := (0 : Int32)) dX7_isQuestion_1 (by decide) ?_
  refine k_aload_n (pc := 2) h 0 dX7_isQuestion_2 rfl ?_
  refine k_getr (pc := 3) h fl_X7_10 ly_0 rfl dX7_isQuestion_3 ?_
  refine k_geti (pc := 6) h fl_X7_83 ly_1 rfl dX7_isQuestion_6 ?_
  refine k_iconst (pc := 9) h (x := (1 : Int32)) dX7_isQuestion_9 (by decide) ?_
  refine k_isub (pc := 10) h dX7_isQuestion_10 ?_
  obtain ⟨p2, hc1, hk⟩ := bd_some hk
  refine k_callS1 (pc := 11) h (c_X7_within hc1) cw_X7_75 ⟨⟨by decide, by decide⟩, Nat.zero_le _, Nat.zero_le _⟩ rfl (Nat.le_of_ble_eq_true rfl) dX7_isQuestion_11 ?_
  obtain ⟨hg, hk⟩ := gd_some hk
  have hk := Option.some.inj hk
  subst hk
  exact k_iret (pc := 14) h dX7_isQuestion_14 ⟨rfl, rfl, rfl, rfl, rfl, ⟨.boolean, rfl, nar_b hg⟩⟩
def f_X7_refuse_j24 (w : WW) (l2 : Int32) : Option (Int32 × WW) := some (l2, w)
def f_X7_refuse (w : WW) (l1 : Int32) (l2 : Int32) : Option (Int32 × WW) := nmv ((-2 : Int32) - l1) (fun v1 => (f_X7_within w v1 (0 : Int32) (2 : Int32)).bind (fun p3 => if p3 = 0 then f_X7_refuse_j24 w l2 else gd (inb v1 3) (gd (inb v1 3) (stI w 37 (v1).toNatClampNeg ((w.1 37 (v1).toNatClampNeg) + (1 : Int32)) (fun u4 => f_X7_refuse_j24 u4 l2)))))
set_option maxRecDepth 20000 in
set_option maxHeartbeats 4000000 in
theorem c_X7_refuse {w : WW} {l1 : Int32} {l2 : Int32} {z : Int32 × WW} (hk : f_X7_refuse w l1 l2 = some z) : Cn 1 yX7_refuse cX7_refuse 4 (some .int) LAY [.ref 0, .int l1, .int l2] w (some (.int z.1)) z.2 := by
  refine Cn.of (by decide +kernel) (Nat.le_of_ble_eq_true rfl) (fun G h => ?_)
  have h : Rules cX7_refuse RX7 "refuse" 4 (rmd 1 0 0) none _ _ LAY 0 0 G := h
  show G 0 [(0, .ref 0), (1, .int l1), (2, .int l2)] [] w
  unfold f_X7_refuse at hk
  have EJ24 : ∀ (w : WW) (l2 : Int32), f_X7_refuse_j24 w l2 = some z → G 24 [(2, .int l2)] [] w := by
    intro w l2 hk
    unfold f_X7_refuse_j24 at hk
    refine k_iload_n (pc := 24) h 0 dX7_refuse_24 rfl ?_
    have hk := Option.some.inj hk
    subst hk
    exact k_iret (pc := 25) h dX7_refuse_25 ⟨rfl, rfl, rfl, rfl, rfl, ⟨.int, rfl, rfl⟩⟩
  refine k_bipush (pc := 0) h (x := (-2 : Int32)) dX7_refuse_0 (by decide) ?_
  refine k_iload_n (pc := 2) h 1 dX7_refuse_2 rfl ?_
  refine k_isub (pc := 3) h dX7_refuse_3 ?_
  refine k_nmi (pc := 4) h hk (fun v1 hk => ?_)
  refine k_istore_n (pc := 4) h [1, 2, 3, 0] (lv' := [(0, .ref 0), (1, .int l1), (2, .int l2), (3, .int v1)]) dX7_refuse_4 rfl (by decide) rfl ?_
  refine k_iload_n (pc := 5) h 3 dX7_refuse_5 rfl ?_
  refine k_iconst (pc := 6) h (x := (0 : Int32)) dX7_refuse_6 (by decide) ?_
  refine k_iconst (pc := 7) h (x := (2 : Int32)) dX7_refuse_7 (by decide) ?_
  obtain ⟨p3, hc2, hk⟩ := bd_some hk
  refine k_callS1 (pc := 8) h (c_X7_within hc2) cw_X7_75 ⟨⟨by decide, by decide⟩, Nat.zero_le _, Nat.zero_le _⟩ rfl (Nat.le_of_ble_eq_true rfl) dX7_refuse_8 ?_
  refine k_if_eq (tgt := 24) (pc := 11) h dX7_refuse_11 rfl hk (fun hc hk => ?_) (fun hc hk => ?_)
  · refine k_sub h [2] (lv' := [(2, .int l2)]) rfl ?_
    exact EJ24 _ _ hk
  · refine k_aload_n (pc := 14) h 0 dX7_refuse_14 rfl ?_
    refine k_getr (pc := 15) h fl_X7_40 ly_0 rfl dX7_refuse_15 ?_
    refine k_iload_n (pc := 18) h 3 dX7_refuse_18 rfl ?_
    refine k_dup2 (pc := 19) h dX7_refuse_19 rfl rfl ?_
    refine k_iald (pc := 20) h ly_37 dX7_refuse_20 hk (fun hk => ?_)
    refine k_iconst (pc := 21) h (x := (1 : Int32)) dX7_refuse_21 (by decide) ?_
    refine k_iadd (pc := 22) h dX7_refuse_22 ?_
    refine k_iast (pc := 23) h ly_37 dX7_refuse_23 hk (fun u4 hk => ?_)
    refine k_sub h [2] (lv' := [(2, .int l2)]) rfl ?_
    exact EJ24 _ _ hk
def f_X8_answerOf (w : WW) (l1 : Int32) (l2 : Int32) : Option (Int32) := gd (inb l1 7) (gd (inb l1 7) ((f_X8_answerBy w (w.1 49 (l1).toNatClampNeg) (w.1 50 (l1).toNatClampNeg) l2).bind (fun p2 => some (p2))))
set_option maxRecDepth 20000 in
set_option maxHeartbeats 4000000 in
theorem c_X8_answerOf {w : WW} {l1 : Int32} {l2 : Int32} {z : Int32} (hk : f_X8_answerOf w l1 l2 = some z) : Cn 1 yX8_answerOf cX8_answerOf 3 (some .int) LAY [.ref 46, .int l1, .int l2] w (some (.int z)) w := by
  refine Cn.of (by decide +kernel) (Nat.le_of_ble_eq_true rfl) (fun G h => ?_)
  have h : Rules cX8_answerOf RX8 "answerOf" 3 (rmd 1 0 0) none _ _ LAY 0 0 G := h
  show G 0 [(0, .ref 46), (1, .int l1), (2, .int l2)] [] w
  unfold f_X8_answerOf at hk
  refine k_aload_n (pc := 0) h 0 dX8_answerOf_0 rfl ?_
  refine k_getr (pc := 1) h fl_X8_20 ly_46 rfl dX8_answerOf_1 ?_
  refine k_iload_n (pc := 4) h 1 dX8_answerOf_4 rfl ?_
  refine k_iald (pc := 5) h ly_49 dX8_answerOf_5 hk (fun hk => ?_)
  refine k_aload_n (pc := 6) h 0 dX8_answerOf_6 rfl ?_
  refine k_getr (pc := 7) h fl_X8_23 ly_46 rfl dX8_answerOf_7 ?_
  refine k_iload_n (pc := 10) h 1 dX8_answerOf_10 rfl ?_
  refine k_iald (pc := 11) h ly_50 dX8_answerOf_11 hk (fun hk => ?_)
  refine k_iload_n (pc := 12) h 2 dX8_answerOf_12 rfl ?_
  obtain ⟨p2, hc1, hk⟩ := bd_some hk
  refine k_callS1 (pc := 13) h (c_X8_answerBy hc1) cw_X8_166 ⟨⟨by decide, by decide⟩, Nat.zero_le _, Nat.zero_le _⟩ rfl (Nat.le_of_ble_eq_true rfl) dX8_answerOf_13 ?_
  have hk := Option.some.inj hk
  subst hk
  exact k_iret (pc := 16) h dX8_answerOf_16 ⟨rfl, rfl, rfl, rfl, rfl, ⟨.int, rfl, rfl⟩⟩
def f_X8_costOf_j31 (w : WW) (l1 : Int32) (l3 : Int32) (s0 : Int32) (s1 : Int32) : Option ((Int32 × Int32) ⊕ (Int32)) := nmv (s1 + s0) (fun v3 => some (.inl (v3, (l3 + (1 : Int32)))))
def f_X8_costOf_b4 (w : WW) (l1 : Int32) (l2 : Int32) (l3 : Int32) : Option ((Int32 × Int32) ⊕ (Int32)) := if (w.1 46 2) ≤ l3 then some (.inr l2) else (f_X8_has w l1 l3).bind (fun p2 => if p2 = 0 then f_X8_costOf_j31 w l1 l3 (0 : Int32) l2 else gd (inb l3 7) (f_X8_costOf_j31 w l1 l3 (w.1 51 (l3).toNatClampNeg) l2))
def f_X8_costOf (w : WW) (l1 : Int32) : Option (Int32) := (lpf (fun s : Int32 × Int32 => f_X8_costOf_b4 w l1 s.1 s.2) FU ((0 : Int32), (0 : Int32))).bind (fun r4 => some (r4))
set_option maxRecDepth 20000 in
set_option maxHeartbeats 4000000 in
theorem c_X8_costOf {w : WW} {l1 : Int32} {z : Int32} (hk : f_X8_costOf w l1 = some z) : Cn 1 yX8_costOf cX8_costOf 4 (some .int) LAY [.ref 46, .int l1] w (some (.int z)) w := by
  refine Cn.of (by decide +kernel) (Nat.le_of_ble_eq_true rfl) (fun G h => ?_)
  have h : Rules cX8_costOf RX8 "costOf" 4 (rmd 1 0 0) none _ _ LAY 0 0 G := h
  show G 0 [(0, .ref 46), (1, .int l1)] [] w
  unfold f_X8_costOf at hk
  have EJ31 : ∀ (l1 : Int32) (l3 : Int32) (s0 : Int32) (s1 : Int32) (z : (Int32 × Int32) ⊕ (Int32)), f_X8_costOf_j31 w l1 l3 s0 s1 = some z → Sum.elim (fun s : Int32 × Int32 => G 4 [(0, .ref 46), (1, .int l1), (2, .int s.1), (3, .int s.2)] [] w) (fun r : Int32 => G 39 [(2, .int r)] [] w) z → G 31 [(0, .ref 46), (1, .int l1), (3, .int l3)] [.int s0, .int s1] w := by
    intro l1 l3 s0 s1 z hk hz
    unfold f_X8_costOf_j31 at hk
    refine k_iadd (pc := 31) h dX8_costOf_31 ?_
    refine k_nmi (pc := 32) h hk (fun v3 hk => ?_)
    refine k_istore_n (pc := 32) h [1, 2, 0, 3] (lv' := [(0, .ref 46), (1, .int l1), (2, .int v3), (3, .int l3)]) dX8_costOf_32 rfl (by decide) rfl ?_
    refine k_iinc (pc := 33) h 3 [1, 2, 3, 0] (v := (l3 + (1 : Int32))) (lv' := [(0, .ref 46), (1, .int l1), (2, .int v3), (3, .int (l3 + (1 : Int32)))]) dX8_costOf_33 rfl rfl (by decide) rfl ?_
    refine k_goto (tgt := 4) (pc := 36) h dX8_costOf_36 rfl ?_
    have hk := Option.some.inj hk
    subst hk
    exact hz
  have LB4 : ∀ (l1 : Int32), ∀ (nn : Nat) (s : Int32 × Int32) (r : Int32), lpf (fun s : Int32 × Int32 => f_X8_costOf_b4 w l1 s.1 s.2) nn s = some r → (fun r : Int32 => G 39 [(2, .int r)] [] w) r → (fun s : Int32 × Int32 => G 4 [(0, .ref 46), (1, .int l1), (2, .int s.1), (3, .int s.2)] [] w) s := by
    intro l1
    refine lpf_ind (fun s : Int32 × Int32 => G 4 [(0, .ref 46), (1, .int l1), (2, .int s.1), (3, .int s.2)] [] w) (fun r : Int32 => G 39 [(2, .int r)] [] w) ?_
    rintro ⟨l2, l3⟩ z hk hz
    have hk : f_X8_costOf_b4 w l1 l2 l3 = some z := hk
    unfold f_X8_costOf_b4 at hk
    show G 4 [(0, .ref 46), (1, .int l1), (2, .int l2), (3, .int l3)] [] w
    refine k_iload_n (pc := 4) h 3 dX8_costOf_4 rfl ?_
    refine k_aload_n (pc := 5) h 0 dX8_costOf_5 rfl ?_
    refine k_geti (pc := 6) h fl_X8_75 ly_46 rfl dX8_costOf_6 ?_
    refine k_icmp_ge (tgt := 39) (pc := 9) h dX8_costOf_9 rfl hk (fun hc hk => ?_) (fun hc hk => ?_)
    · refine k_sub h [2] (lv' := [(2, .int l2)]) rfl ?_
      have hk := Option.some.inj hk
      subst hk
      exact hz
    · refine k_iload_n (pc := 12) h 2 dX8_costOf_12 rfl ?_
      refine k_iload_n (pc := 13) h 1 dX8_costOf_13 rfl ?_
      refine k_iload_n (pc := 14) h 3 dX8_costOf_14 rfl ?_
      obtain ⟨p2, hc1, hk⟩ := bd_some hk
      refine k_callS1 (pc := 15) h (c_X8_has hc1) cw_X8_188 ⟨⟨by decide, by decide⟩, Nat.zero_le _, Nat.zero_le _⟩ rfl (Nat.le_of_ble_eq_true rfl) dX8_costOf_15 ?_
      refine k_if_eq (tgt := 30) (pc := 18) h dX8_costOf_18 rfl hk (fun hc hk => ?_) (fun hc hk => ?_)
      · refine k_iconst (pc := 30) h (x := (0 : Int32)) dX8_costOf_30 (by decide) ?_
        refine k_sub h [0, 1, 3] (lv' := [(0, .ref 46), (1, .int l1), (3, .int l3)]) rfl ?_
        exact EJ31 _ _ _ _ _ hk hz
      · refine k_aload_n (pc := 21) h 0 dX8_costOf_21 rfl ?_
        refine k_getr (pc := 22) h fl_X8_26 ly_46 rfl dX8_costOf_22 ?_
        refine k_iload_n (pc := 25) h 3 dX8_costOf_25 rfl ?_
        refine k_iald (pc := 26) h ly_51 dX8_costOf_26 hk (fun hk => ?_)
        refine k_goto (tgt := 31) (pc := 27) h dX8_costOf_27 rfl ?_
        refine k_sub h [0, 1, 3] (lv' := [(0, .ref 46), (1, .int l1), (3, .int l3)]) rfl ?_
        exact EJ31 _ _ _ _ _ hk hz
  refine k_iconst (pc := 0) h (x := (0 : Int32)) dX8_costOf_0 (by decide) ?_
  refine k_istore_n (pc := 1) h [1, 2, 0] (lv' := [(0, .ref 46), (1, .int l1), (2, .int (0 : Int32))]) dX8_costOf_1 rfl (by decide) rfl ?_
  refine k_iconst (pc := 2) h (x := (0 : Int32)) dX8_costOf_2 (by decide) ?_
  refine k_istore_n (pc := 3) h [1, 2, 3, 0] (lv' := [(0, .ref 46), (1, .int l1), (2, .int (0 : Int32)), (3, .int (0 : Int32))]) dX8_costOf_3 rfl (by decide) rfl ?_
  obtain ⟨r4, hl5, hk⟩ := bd_some hk
  refine LB4 _ _ _ _ hl5 ?_
  show G 39 [(2, .int r4)] [] w
  refine k_iload_n (pc := 39) h 0 dX8_costOf_39 rfl ?_
  have hk := Option.some.inj hk
  subst hk
  exact k_iret (pc := 40) h dX8_costOf_40 ⟨rfl, rfl, rfl, rfl, rfl, ⟨.int, rfl, rfl⟩⟩
def f_X8_fair (w : WW) (l1 : Int32) : Option (Int32 × WW) := (f_X8_in w l1 (1 : Int32) (16 : Int32)).bind (fun p2 => if p2 = 0 then (f_X8_bad w).bind (fun p7 => some (p7.1, p7.2)) else nmv (w.1 46 2) (fun v3 => (f_X8_begin w l1).bind (fun p5 => some (v3, p5))))
set_option maxRecDepth 20000 in
set_option maxHeartbeats 4000000 in
theorem c_X8_fair {w : WW} {l1 : Int32} {z : Int32 × WW} (hk : f_X8_fair w l1 = some z) : Cn 1 yX8_fair cX8_fair 3 (some .int) LAY [.ref 46, .int l1] w (some (.int z.1)) z.2 := by
  refine Cn.of (by decide +kernel) (Nat.le_of_ble_eq_true rfl) (fun G h => ?_)
  have h : Rules cX8_fair RX8 "fair" 3 (rmd 1 0 0) none _ _ LAY 0 0 G := h
  show G 0 [(0, .ref 46), (1, .int l1)] [] w
  unfold f_X8_fair at hk
  refine k_iload_n (pc := 0) h 1 dX8_fair_0 rfl ?_
  refine k_iconst (pc := 1) h (x := (1 : Int32)) dX8_fair_1 (by decide) ?_
  refine k_bipush (pc := 2) h (x := (16 : Int32)) dX8_fair_2 (by decide) ?_
  obtain ⟨p2, hc1, hk⟩ := bd_some hk
  refine k_callS1 (pc := 4) h (c_X8_in hc1) cw_X8_84 ⟨⟨by decide, by decide⟩, Nat.zero_le _, Nat.zero_le _⟩ rfl (Nat.le_of_ble_eq_true rfl) dX8_fair_4 ?_
  refine k_if_ne (tgt := 15) (pc := 7) h dX8_fair_7 rfl hk (fun hc hk => ?_) (fun hc hk => ?_)
  · refine k_aload_n (pc := 15) h 0 dX8_fair_15 rfl ?_
    refine k_geti (pc := 16) h fl_X8_75 ly_46 rfl dX8_fair_16 ?_
    refine k_nmi (pc := 19) h hk (fun v3 hk => ?_)
    refine k_istore_n (pc := 19) h [1, 2, 0] (lv' := [(0, .ref 46), (1, .int l1), (2, .int v3)]) dX8_fair_19 rfl (by decide) rfl ?_
    refine k_aload_n (pc := 20) h 0 dX8_fair_20 rfl ?_
    refine k_iload_n (pc := 21) h 1 dX8_fair_21 rfl ?_
    obtain ⟨p5, hc4, hk⟩ := bd_some hk
    refine k_callV0 (pc := 22) h (c_X8_begin hc4) cw_X8_71 ly_46 rfl ⟨⟨by decide, by decide⟩, Nat.zero_le _, Nat.zero_le _⟩ rfl (Nat.le_of_ble_eq_true rfl) dX8_fair_22 ?_
    refine k_iload_n (pc := 25) h 2 dX8_fair_25 rfl ?_
    have hk := Option.some.inj hk
    subst hk
    exact k_iret (pc := 26) h dX8_fair_26 ⟨rfl, rfl, rfl, rfl, rfl, ⟨.int, rfl, rfl⟩⟩
  · refine k_aload_n (pc := 10) h 0 dX8_fair_10 rfl ?_
    obtain ⟨p7, hc6, hk⟩ := bd_some hk
    refine k_callV1 (pc := 11) h (c_X8_bad hc6) cw_X8_88 ly_46 rfl ⟨⟨by decide, by decide⟩, Nat.zero_le _, Nat.zero_le _⟩ rfl (Nat.le_of_ble_eq_true rfl) dX8_fair_11 ?_
    have hk := Option.some.inj hk
    subst hk
    exact k_iret (pc := 14) h dX8_fair_14 ⟨rfl, rfl, rfl, rfl, rfl, ⟨.int, rfl, rfl⟩⟩
def f_X8_forget_b18 (l1 : Int32) (w : WW) : Option ((Int32 × WW) ⊕ (WW)) := if (14 : Int32) ≤ l1 then some (.inr w) else gd (inb (l1 + (2 : Int32)) 16) (gd (inb l1 16) (stI w 52 (l1).toNatClampNeg (w.1 52 ((l1 + (2 : Int32))).toNatClampNeg) (fun u3 => some (.inl ((l1 + (1 : Int32)), u3)))))
def f_X8_forget (w : WW) : Option (Int32 × WW) := if (w.1 46 3) = 0 then (f_X8_no w).bind (fun p8 => some (p8.1, p8.2)) else (f_X8_notes w).bind (fun p2 => (lpf (fun s : Int32 × WW => f_X8_forget_b18 s.1 s.2) FU ((0 : Int32), p2)).bind (fun r4 => stI r4 46 3 ((r4.1 46 3) - (1 : Int32)) (fun u6 => some ((u6.1 46 3), u6))))
set_option maxRecDepth 20000 in
set_option maxHeartbeats 4000000 in
theorem c_X8_forget {w : WW} {z : Int32 × WW} (hk : f_X8_forget w = some z) : Cn 1 yX8_forget cX8_forget 2 (some .int) LAY [.ref 46] w (some (.int z.1)) z.2 := by
  refine Cn.of (by decide +kernel) (Nat.le_of_ble_eq_true rfl) (fun G h => ?_)
  have h : Rules cX8_forget RX8 "forget" 2 (rmd 1 0 0) none _ _ LAY 0 0 G := h
  show G 0 [(0, .ref 46)] [] w
  unfold f_X8_forget at hk
  have LB18 : ∀ (nn : Nat) (s : Int32 × WW) (r : WW), lpf (fun s : Int32 × WW => f_X8_forget_b18 s.1 s.2) nn s = some r → (fun r : WW => G 44 [(0, .ref 46)] [] r) r → (fun s : Int32 × WW => G 18 [(0, .ref 46), (1, .int s.1)] [] s.2) s := by
    refine lpf_ind (fun s : Int32 × WW => G 18 [(0, .ref 46), (1, .int s.1)] [] s.2) (fun r : WW => G 44 [(0, .ref 46)] [] r) ?_
    rintro ⟨l1, w⟩ z hk hz
    have hk : f_X8_forget_b18 l1 w = some z := hk
    unfold f_X8_forget_b18 at hk
    show G 18 [(0, .ref 46), (1, .int l1)] [] w
    refine k_iload_n (pc := 18) h 1 dX8_forget_18 rfl ?_
    refine k_bipush (pc := 19) h (x := (14 : Int32)) dX8_forget_19 (by decide) ?_
    refine k_icmp_ge (tgt := 44) (pc := 21) h dX8_forget_21 rfl hk (fun hc hk => ?_) (fun hc hk => ?_)
    · refine k_sub h [0] (lv' := [(0, .ref 46)]) rfl ?_
      have hk := Option.some.inj hk
      subst hk
      exact hz
    · refine k_aload_n (pc := 24) h 0 dX8_forget_24 rfl ?_
      refine k_getr (pc := 25) h fl_X8_29 ly_46 rfl dX8_forget_25 ?_
      refine k_iload_n (pc := 28) h 1 dX8_forget_28 rfl ?_
      refine k_aload_n (pc := 29) h 0 dX8_forget_29 rfl ?_
      refine k_getr (pc := 30) h fl_X8_29 ly_46 rfl dX8_forget_30 ?_
      refine k_iload_n (pc := 33) h 1 dX8_forget_33 rfl ?_
      refine k_iconst (pc := 34) h (x := (2 : Int32)) dX8_forget_34 (by decide) ?_
      refine k_iadd (pc := 35) h dX8_forget_35 ?_
      refine k_iald (pc := 36) h ly_52 dX8_forget_36 hk (fun hk => ?_)
      refine k_iast (pc := 37) h ly_52 dX8_forget_37 hk (fun u3 hk => ?_)
      refine k_iinc (pc := 38) h 1 [1, 0] (v := (l1 + (1 : Int32))) (lv' := [(0, .ref 46), (1, .int (l1 + (1 : Int32)))]) dX8_forget_38 rfl rfl (by decide) rfl ?_
      refine k_goto (tgt := 18) (pc := 41) h dX8_forget_41 rfl ?_
      have hk := Option.some.inj hk
      subst hk
      exact hz
  refine k_aload_n (pc := 0) h 0 dX8_forget_0 rfl ?_
  refine k_geti (pc := 1) h fl_X8_78 ly_46 rfl dX8_forget_1 ?_
  refine k_if_ne (tgt := 12) (pc := 4) h dX8_forget_4 rfl hk (fun hc hk => ?_) (fun hc hk => ?_)
  · refine k_aload_n (pc := 12) h 0 dX8_forget_12 rfl ?_
    obtain ⟨p2, hc1, hk⟩ := bd_some hk
    refine k_callV0 (pc := 13) h (c_X8_notes hc1) cw_X8_179 ly_46 rfl ⟨⟨by decide, by decide⟩, Nat.zero_le _, Nat.zero_le _⟩ rfl (Nat.le_of_ble_eq_true rfl) dX8_forget_13 ?_
    refine k_iconst (pc := 16) h (x := (0 : Int32)) dX8_forget_16 (by decide) ?_
    refine k_istore_n (pc := 17) h [1, 0] (lv' := [(0, .ref 46), (1, .int (0 : Int32))]) dX8_forget_17 rfl (by decide) rfl ?_
    obtain ⟨r4, hl5, hk⟩ := bd_some hk
    refine LB18 _ _ _ hl5 ?_
    show G 44 [(0, .ref 46)] [] r4
    refine k_aload_n (pc := 44) h 0 dX8_forget_44 rfl ?_
    refine k_dup (pc := 45) h dX8_forget_45 rfl ?_
    refine k_geti (pc := 46) h fl_X8_78 ly_46 rfl dX8_forget_46 ?_
    refine k_iconst (pc := 49) h (x := (1 : Int32)) dX8_forget_49 (by decide) ?_
    refine k_isub (pc := 50) h dX8_forget_50 ?_
    refine k_puti (pc := 51) h fl_X8_78 ly_46 rfl dX8_forget_51 hk (fun u6 hk => ?_)
    refine k_aload_n (pc := 54) h 0 dX8_forget_54 rfl ?_
    refine k_geti (pc := 55) h fl_X8_78 ly_46 rfl dX8_forget_55 ?_
    have hk := Option.some.inj hk
    subst hk
    exact k_iret (pc := 58) h dX8_forget_58 ⟨rfl, rfl, rfl, rfl, rfl, ⟨.int, rfl, rfl⟩⟩
  · refine k_aload_n (pc := 7) h 0 dX8_forget_7 rfl ?_
    obtain ⟨p8, hc7, hk⟩ := bd_some hk
    refine k_callV1 (pc := 8) h (c_X8_no hc7) cw_X8_185 ly_46 rfl ⟨⟨by decide, by decide⟩, Nat.zero_le _, Nat.zero_le _⟩ rfl (Nat.le_of_ble_eq_true rfl) dX8_forget_8 ?_
    have hk := Option.some.inj hk
    subst hk
    exact k_iret (pc := 11) h dX8_forget_11 ⟨rfl, rfl, rfl, rfl, rfl, ⟨.int, rfl, rfl⟩⟩
def f_X8_from_b82 (l2 : Int32) (l3 : Int32) (w : WW) : Option ((Int32 × WW) ⊕ (WW)) := if (16 : Int32) ≤ l3 then some (.inr w) else gd (inb ((l2 + (4 : Int32)) + l3) 386) (gd (inb l3 16) (stI w 48 (l3).toNatClampNeg (w.1 63 (((l2 + (4 : Int32)) + l3)).toNatClampNeg) (fun u8 => gd (inb ((l2 + (20 : Int32)) + l3) 386) (gd (inb l3 16) (stI u8 52 (l3).toNatClampNeg (u8.1 63 (((l2 + (20 : Int32)) + l3)).toNatClampNeg) (fun u9 => some (.inl ((l3 + (1 : Int32)), u9))))))))
def f_X8_from_b129 (l2 : Int32) (l3 : Int32) (w : WW) : Option ((Int32 × WW) ⊕ (WW)) := if (7 : Int32) ≤ l3 then some (.inr w) else gd (inb ((l2 + (36 : Int32)) + l3) 386) (gd (inb l3 7) (stI w 49 (l3).toNatClampNeg (w.1 63 (((l2 + (36 : Int32)) + l3)).toNatClampNeg) (fun u12 => gd (inb ((l2 + (43 : Int32)) + l3) 386) (gd (inb l3 7) (stI u12 50 (l3).toNatClampNeg (u12.1 63 (((l2 + (43 : Int32)) + l3)).toNatClampNeg) (fun u13 => gd (inb ((l2 + (50 : Int32)) + l3) 386) (gd (inb l3 7) (stI u13 51 (l3).toNatClampNeg (u13.1 63 (((l2 + (50 : Int32)) + l3)).toNatClampNeg) (fun u14 => some (.inl ((l3 + (1 : Int32)), u14)))))))))))
def f_X8_from_b194 (l2 : Int32) (l3 : Int32) (w : WW) : Option ((Int32 × WW) ⊕ (WW)) := if (136 : Int32) ≤ l3 then some (.inr w) else gd (inb ((l2 + (57 : Int32)) + l3) 386) (gd (inb l3 136) (stI w 56 (l3).toNatClampNeg (w.1 63 (((l2 + (57 : Int32)) + l3)).toNatClampNeg) (fun u17 => some (.inl ((l3 + (1 : Int32)), u17)))))
def f_X8_from (w : WW) (l1 : Int32) : Option (Int32 × WW) := (f_X8_in w l1 (0 : Int32) (1 : Int32)).bind (fun p2 => if p2 = 0 then (f_X8_bad w).bind (fun p23 => some (p23.1, p23.2)) else nmv ((193 : Int32) * l1) (fun v3 => gd (inb v3 386) (if (w.1 63 (v3).toNatClampNeg) = 0 then (f_X8_no w).bind (fun p21 => some (p21.1, p21.2)) else gd (inb v3 386) (stI w 46 1 (w.1 63 (v3).toNatClampNeg) (fun u4 => gd (inb (v3 + (1 : Int32)) 386) (stI u4 46 2 (u4.1 63 ((v3 + (1 : Int32))).toNatClampNeg) (fun u5 => gd (inb (v3 + (2 : Int32)) 386) (stI u5 46 3 (u5.1 63 ((v3 + (2 : Int32))).toNatClampNeg) (fun u6 => gd (inb (v3 + (3 : Int32)) 386) (stI u6 46 18 (u6.1 63 ((v3 + (3 : Int32))).toNatClampNeg) (fun u7 => (lpf (fun s : Int32 × WW => f_X8_from_b82 v3 s.1 s.2) FU ((0 : Int32), u7)).bind (fun r10 => (lpf (fun s : Int32 × WW => f_X8_from_b129 v3 s.1 s.2) FU ((0 : Int32), r10)).bind (fun r15 => (lpf (fun s : Int32 × WW => f_X8_from_b194 v3 s.1 s.2) FU ((0 : Int32), r15)).bind (fun r18 => some ((1 : Int32), r18)))))))))))))))
set_option maxRecDepth 20000 in
set_option maxHeartbeats 4000000 in
theorem c_X8_from {w : WW} {l1 : Int32} {z : Int32 × WW} (hk : f_X8_from w l1 = some z) : Cn 1 yX8_from cX8_from 4 (some .int) LAY [.ref 46, .int l1] w (some (.int z.1)) z.2 := by
  refine Cn.of (by decide +kernel) (Nat.le_of_ble_eq_true rfl) (fun G h => ?_)
  have h : Rules cX8_from RX8 "from" 4 (rmd 1 0 0) none _ _ LAY 0 0 G := h
  show G 0 [(0, .ref 46), (1, .int l1)] [] w
  unfold f_X8_from at hk
  have LB82 : ∀ (l2 : Int32), ∀ (nn : Nat) (s : Int32 × WW) (r : WW), lpf (fun s : Int32 × WW => f_X8_from_b82 l2 s.1 s.2) nn s = some r → (fun r : WW => G 127 [(0, .ref 46), (2, .int l2)] [] r) r → (fun s : Int32 × WW => G 82 [(0, .ref 46), (2, .int l2), (3, .int s.1)] [] s.2) s := by
    intro l2
    refine lpf_ind (fun s : Int32 × WW => G 82 [(0, .ref 46), (2, .int l2), (3, .int s.1)] [] s.2) (fun r : WW => G 127 [(0, .ref 46), (2, .int l2)] [] r) ?_
    rintro ⟨l3, w⟩ z hk hz
    have hk : f_X8_from_b82 l2 l3 w = some z := hk
    unfold f_X8_from_b82 at hk
    show G 82 [(0, .ref 46), (2, .int l2), (3, .int l3)] [] w
    refine k_iload_n (pc := 82) h 2 dX8_from_82 rfl ?_
    refine k_bipush (pc := 83) h (x := (16 : Int32)) dX8_from_83 (by decide) ?_
    refine k_icmp_ge (tgt := 127) (pc := 85) h dX8_from_85 rfl hk (fun hc hk => ?_) (fun hc hk => ?_)
    · refine k_sub h [0, 1] (lv' := [(0, .ref 46), (2, .int l2)]) rfl ?_
      have hk := Option.some.inj hk
      subst hk
      exact hz
    · refine k_aload_n (pc := 88) h 0 dX8_from_88 rfl ?_
      refine k_getr (pc := 89) h fl_X8_17 ly_46 rfl dX8_from_89 ?_
      refine k_iload_n (pc := 92) h 2 dX8_from_92 rfl ?_
      refine k_aload_n (pc := 93) h 0 dX8_from_93 rfl ?_
      refine k_getr (pc := 94) h fl_X8_68 ly_46 rfl dX8_from_94 ?_
      refine k_iload_n (pc := 97) h 1 dX8_from_97 rfl ?_
      refine k_iconst (pc := 98) h (x := (4 : Int32)) dX8_from_98 (by decide) ?_
      refine k_iadd (pc := 99) h dX8_from_99 ?_
      refine k_iload_n (pc := 100) h 2 dX8_from_100 rfl ?_
      refine k_iadd (pc := 101) h dX8_from_101 ?_
      refine k_iald (pc := 102) h ly_63 dX8_from_102 hk (fun hk => ?_)
      refine k_iast (pc := 103) h ly_48 dX8_from_103 hk (fun u8 hk => ?_)
      refine k_aload_n (pc := 104) h 0 dX8_from_104 rfl ?_
      refine k_getr (pc := 105) h fl_X8_29 ly_46 rfl dX8_from_105 ?_
      refine k_iload_n (pc := 108) h 2 dX8_from_108 rfl ?_
      refine k_aload_n (pc := 109) h 0 dX8_from_109 rfl ?_
      refine k_getr (pc := 110) h fl_X8_68 ly_46 rfl dX8_from_110 ?_
      refine k_iload_n (pc := 113) h 1 dX8_from_113 rfl ?_
      refine k_bipush (pc := 114) h (x := (20 : Int32)) dX8_from_114 (by decide) ?_
      refine k_iadd (pc := 116) h dX8_from_116 ?_
      refine k_iload_n (pc := 117) h 2 dX8_from_117 rfl ?_
      refine k_iadd (pc := 118) h dX8_from_118 ?_
      refine k_iald (pc := 119) h ly_63 dX8_from_119 hk (fun hk => ?_)
      refine k_iast (pc := 120) h ly_52 dX8_from_120 hk (fun u9 hk => ?_)
      refine k_iinc (pc := 121) h 2 [1, 2, 0] (v := (l3 + (1 : Int32))) (lv' := [(0, .ref 46), (2, .int l2), (3, .int (l3 + (1 : Int32)))]) dX8_from_121 rfl rfl (by decide) rfl ?_
      refine k_goto (tgt := 82) (pc := 124) h dX8_from_124 rfl ?_
      have hk := Option.some.inj hk
      subst hk
      exact hz
  have LB129 : ∀ (l2 : Int32), ∀ (nn : Nat) (s : Int32 × WW) (r : WW), lpf (fun s : Int32 × WW => f_X8_from_b129 l2 s.1 s.2) nn s = some r → (fun r : WW => G 192 [(0, .ref 46), (2, .int l2)] [] r) r → (fun s : Int32 × WW => G 129 [(0, .ref 46), (2, .int l2), (3, .int s.1)] [] s.2) s := by
    intro l2
    refine lpf_ind (fun s : Int32 × WW => G 129 [(0, .ref 46), (2, .int l2), (3, .int s.1)] [] s.2) (fun r : WW => G 192 [(0, .ref 46), (2, .int l2)] [] r) ?_
    rintro ⟨l3, w⟩ z hk hz
    have hk : f_X8_from_b129 l2 l3 w = some z := hk
    unfold f_X8_from_b129 at hk
    show G 129 [(0, .ref 46), (2, .int l2), (3, .int l3)] [] w
    refine k_iload_n (pc := 129) h 2 dX8_from_129 rfl ?_
    refine k_bipush (pc := 130) h (x := (7 : Int32)) dX8_from_130 (by decide) ?_
    refine k_icmp_ge (tgt := 192) (pc := 132) h dX8_from_132 rfl hk (fun hc hk => ?_) (fun hc hk => ?_)
    · refine k_sub h [0, 1] (lv' := [(0, .ref 46), (2, .int l2)]) rfl ?_
      have hk := Option.some.inj hk
      subst hk
      exact hz
    · refine k_aload_n (pc := 135) h 0 dX8_from_135 rfl ?_
      refine k_getr (pc := 136) h fl_X8_20 ly_46 rfl dX8_from_136 ?_
      refine k_iload_n (pc := 139) h 2 dX8_from_139 rfl ?_
      refine k_aload_n (pc := 140) h 0 dX8_from_140 rfl ?_
      refine k_getr (pc := 141) h fl_X8_68 ly_46 rfl dX8_from_141 ?_
      refine k_iload_n (pc := 144) h 1 dX8_from_144 rfl ?_
      refine k_bipush (pc := 145) h (x := (36 : Int32)) dX8_from_145 (by decide) ?_
      refine k_iadd (pc := 147) h dX8_from_147 ?_
      refine k_iload_n (pc := 148) h 2 dX8_from_148 rfl ?_
      refine k_iadd (pc := 149) h dX8_from_149 ?_
      refine k_iald (pc := 150) h ly_63 dX8_from_150 hk (fun hk => ?_)
      refine k_iast (pc := 151) h ly_49 dX8_from_151 hk (fun u12 hk => ?_)
      refine k_aload_n (pc := 152) h 0 dX8_from_152 rfl ?_
      refine k_getr (pc := 153) h fl_X8_23 ly_46 rfl dX8_from_153 ?_
      refine k_iload_n (pc := 156) h 2 dX8_from_156 rfl ?_
      refine k_aload_n (pc := 157) h 0 dX8_from_157 rfl ?_
      refine k_getr (pc := 158) h fl_X8_68 ly_46 rfl dX8_from_158 ?_
      refine k_iload_n (pc := 161) h 1 dX8_from_161 rfl ?_
      refine k_bipush (pc := 162) h (x := (43 : Int32)) dX8_from_162 (by decide) ?_
      refine k_iadd (pc := 164) h dX8_from_164 ?_
      refine k_iload_n (pc := 165) h 2 dX8_from_165 rfl ?_
      refine k_iadd (pc := 166) h dX8_from_166 ?_
      refine k_iald (pc := 167) h ly_63 dX8_from_167 hk (fun hk => ?_)
      refine k_iast (pc := 168) h ly_50 dX8_from_168 hk (fun u13 hk => ?_)
      refine k_aload_n (pc := 169) h 0 dX8_from_169 rfl ?_
      refine k_getr (pc := 170) h fl_X8_26 ly_46 rfl dX8_from_170 ?_
      refine k_iload_n (pc := 173) h 2 dX8_from_173 rfl ?_
      refine k_aload_n (pc := 174) h 0 dX8_from_174 rfl ?_
      refine k_getr (pc := 175) h fl_X8_68 ly_46 rfl dX8_from_175 ?_
      refine k_iload_n (pc := 178) h 1 dX8_from_178 rfl ?_
      refine k_bipush (pc := 179) h (x := (50 : Int32)) dX8_from_179 (by decide) ?_
      refine k_iadd (pc := 181) h dX8_from_181 ?_
      refine k_iload_n (pc := 182) h 2 dX8_from_182 rfl ?_
      refine k_iadd (pc := 183) h dX8_from_183 ?_
      refine k_iald (pc := 184) h ly_63 dX8_from_184 hk (fun hk => ?_)
      refine k_iast (pc := 185) h ly_51 dX8_from_185 hk (fun u14 hk => ?_)
      refine k_iinc (pc := 186) h 2 [1, 2, 0] (v := (l3 + (1 : Int32))) (lv' := [(0, .ref 46), (2, .int l2), (3, .int (l3 + (1 : Int32)))]) dX8_from_186 rfl rfl (by decide) rfl ?_
      refine k_goto (tgt := 129) (pc := 189) h dX8_from_189 rfl ?_
      have hk := Option.some.inj hk
      subst hk
      exact hz
  have LB194 : ∀ (l2 : Int32), ∀ (nn : Nat) (s : Int32 × WW) (r : WW), lpf (fun s : Int32 × WW => f_X8_from_b194 l2 s.1 s.2) nn s = some r → (fun r : WW => G 224 [] [] r) r → (fun s : Int32 × WW => G 194 [(0, .ref 46), (2, .int l2), (3, .int s.1)] [] s.2) s := by
    intro l2
    refine lpf_ind (fun s : Int32 × WW => G 194 [(0, .ref 46), (2, .int l2), (3, .int s.1)] [] s.2) (fun r : WW => G 224 [] [] r) ?_
    rintro ⟨l3, w⟩ z hk hz
    have hk : f_X8_from_b194 l2 l3 w = some z := hk
    unfold f_X8_from_b194 at hk
    show G 194 [(0, .ref 46), (2, .int l2), (3, .int l3)] [] w
    refine k_iload_n (pc := 194) h 2 dX8_from_194 rfl ?_
    refine k_sipush (pc := 195) h (x := (136 : Int32)) dX8_from_195 (by decide) ?_
    refine k_icmp_ge (tgt := 224) (pc := 198) h dX8_from_198 rfl hk (fun hc hk => ?_) (fun hc hk => ?_)
    · refine k_sub h [] (lv' := []) rfl ?_
      have hk := Option.some.inj hk
      subst hk
      exact hz
    · refine k_aload_n (pc := 201) h 0 dX8_from_201 rfl ?_
      refine k_getr (pc := 202) h fl_X8_41 ly_46 rfl dX8_from_202 ?_
      refine k_iload_n (pc := 205) h 2 dX8_from_205 rfl ?_
      refine k_aload_n (pc := 206) h 0 dX8_from_206 rfl ?_
      refine k_getr (pc := 207) h fl_X8_68 ly_46 rfl dX8_from_207 ?_
      refine k_iload_n (pc := 210) h 1 dX8_from_210 rfl ?_
      refine k_bipush (pc := 211) h (x := (57 : Int32)) dX8_from_211 (by decide) ?_
      refine k_iadd (pc := 213) h dX8_from_213 ?_
      refine k_iload_n (pc := 214) h 2 dX8_from_214 rfl ?_
      refine k_iadd (pc := 215) h dX8_from_215 ?_
      refine k_iald (pc := 216) h ly_63 dX8_from_216 hk (fun hk => ?_)
      refine k_iast (pc := 217) h ly_56 dX8_from_217 hk (fun u17 hk => ?_)
      refine k_iinc (pc := 218) h 2 [1, 2, 0] (v := (l3 + (1 : Int32))) (lv' := [(0, .ref 46), (2, .int l2), (3, .int (l3 + (1 : Int32)))]) dX8_from_218 rfl rfl (by decide) rfl ?_
      refine k_goto (tgt := 194) (pc := 221) h dX8_from_221 rfl ?_
      have hk := Option.some.inj hk
      subst hk
      exact hz
  refine k_iload_n (pc := 0) h 1 dX8_from_0 rfl ?_
  refine k_iconst (pc := 1) h (x := (0 : Int32)) dX8_from_1 (by decide) ?_
  refine k_iconst (pc := 2) h (x := (1 : Int32)) dX8_from_2 (by decide) ?_
  obtain ⟨p2, hc1, hk⟩ := bd_some hk
  refine k_callS1 (pc := 3) h (c_X8_in hc1) cw_X8_84 ⟨⟨by decide, by decide⟩, Nat.zero_le _, Nat.zero_le _⟩ rfl (Nat.le_of_ble_eq_true rfl) dX8_from_3 ?_
  refine k_if_ne (tgt := 14) (pc := 6) h dX8_from_6 rfl hk (fun hc hk => ?_) (fun hc hk => ?_)
  · refine k_sipush (pc := 14) h (x := (193 : Int32)) dX8_from_14 (by decide) ?_
    refine k_iload_n (pc := 17) h 1 dX8_from_17 rfl ?_
    refine k_imul (pc := 18) h dX8_from_18 ?_
    refine k_nmi (pc := 19) h hk (fun v3 hk => ?_)
    refine k_istore_n (pc := 19) h [1, 2, 0] (lv' := [(0, .ref 46), (1, .int l1), (2, .int v3)]) dX8_from_19 rfl (by decide) rfl ?_
    refine k_aload_n (pc := 20) h 0 dX8_from_20 rfl ?_
    refine k_getr (pc := 21) h fl_X8_68 ly_46 rfl dX8_from_21 ?_
    refine k_iload_n (pc := 24) h 2 dX8_from_24 rfl ?_
    refine k_iald (pc := 25) h ly_63 dX8_from_25 hk (fun hk => ?_)
    refine k_if_ne (tgt := 34) (pc := 26) h dX8_from_26 rfl hk (fun hc hk => ?_) (fun hc hk => ?_)
    · refine k_aload_n (pc := 34) h 0 dX8_from_34 rfl ?_
      refine k_aload_n (pc := 35) h 0 dX8_from_35 rfl ?_
      refine k_getr (pc := 36) h fl_X8_68 ly_46 rfl dX8_from_36 ?_
      refine k_iload_n (pc := 39) h 2 dX8_from_39 rfl ?_
      refine k_iald (pc := 40) h ly_63 dX8_from_40 hk (fun hk => ?_)
      refine k_puti (pc := 41) h fl_X8_13 ly_46 rfl dX8_from_41 hk (fun u4 hk => ?_)
      refine k_aload_n (pc := 44) h 0 dX8_from_44 rfl ?_
      refine k_aload_n (pc := 45) h 0 dX8_from_45 rfl ?_
      refine k_getr (pc := 46) h fl_X8_68 ly_46 rfl dX8_from_46 ?_
      refine k_iload_n (pc := 49) h 2 dX8_from_49 rfl ?_
      refine k_iconst (pc := 50) h (x := (1 : Int32)) dX8_from_50 (by decide) ?_
      refine k_iadd (pc := 51) h dX8_from_51 ?_
      refine k_iald (pc := 52) h ly_63 dX8_from_52 hk (fun hk => ?_)
      refine k_puti (pc := 53) h fl_X8_75 ly_46 rfl dX8_from_53 hk (fun u5 hk => ?_)
      refine k_aload_n (pc := 56) h 0 dX8_from_56 rfl ?_
      refine k_aload_n (pc := 57) h 0 dX8_from_57 rfl ?_
      refine k_getr (pc := 58) h fl_X8_68 ly_46 rfl dX8_from_58 ?_
      refine k_iload_n (pc := 61) h 2 dX8_from_61 rfl ?_
      refine k_iconst (pc := 62) h (x := (2 : Int32)) dX8_from_62 (by decide) ?_
      refine k_iadd (pc := 63) h dX8_from_63 ?_
      refine k_iald (pc := 64) h ly_63 dX8_from_64 hk (fun hk => ?_)
      refine k_puti (pc := 65) h fl_X8_78 ly_46 rfl dX8_from_65 hk (fun u6 hk => ?_)
      refine k_aload_n (pc := 68) h 0 dX8_from_68 rfl ?_
      refine k_aload_n (pc := 69) h 0 dX8_from_69 rfl ?_
      refine k_getr (pc := 70) h fl_X8_68 ly_46 rfl dX8_from_70 ?_
      refine k_iload_n (pc := 73) h 2 dX8_from_73 rfl ?_
      refine k_iconst (pc := 74) h (x := (3 : Int32)) dX8_from_74 (by decide) ?_
      refine k_iadd (pc := 75) h dX8_from_75 ?_
      refine k_iald (pc := 76) h ly_63 dX8_from_76 hk (fun hk => ?_)
      refine k_puti (pc := 77) h fl_X8_81 ly_46 rfl dX8_from_77 hk (fun u7 hk => ?_)
      refine k_iconst (pc := 80) h (x := (0 : Int32)) dX8_from_80 (by decide) ?_
      refine k_istore_n (pc := 81) h [1, 2, 3, 0] (lv' := [(0, .ref 46), (1, .int l1), (2, .int v3), (3, .int (0 : Int32))]) dX8_from_81 rfl (by decide) rfl ?_
      refine k_sub h [0, 2, 3] (lv' := [(0, .ref 46), (2, .int v3), (3, .int (0 : Int32))]) rfl ?_
      obtain ⟨r10, hl11, hk⟩ := bd_some hk
      refine LB82 _ _ _ _ hl11 ?_
      show G 127 [(0, .ref 46), (2, .int v3)] [] r10
      refine k_iconst (pc := 127) h (x := (0 : Int32)) dX8_from_127 (by decide) ?_
      refine k_istore_n (pc := 128) h [1, 2, 0] (lv' := [(0, .ref 46), (2, .int v3), (3, .int (0 : Int32))]) dX8_from_128 rfl (by decide) rfl ?_
      obtain ⟨r15, hl16, hk⟩ := bd_some hk
      refine LB129 _ _ _ _ hl16 ?_
      show G 192 [(0, .ref 46), (2, .int v3)] [] r15
      refine k_iconst (pc := 192) h (x := (0 : Int32)) dX8_from_192 (by decide) ?_
      refine k_istore_n (pc := 193) h [1, 2, 0] (lv' := [(0, .ref 46), (2, .int v3), (3, .int (0 : Int32))]) dX8_from_193 rfl (by decide) rfl ?_
      obtain ⟨r18, hl19, hk⟩ := bd_some hk
      refine LB194 _ _ _ _ hl19 ?_
      show G 224 [] [] r18
      refine k_iconst (pc := 224) h (x := (1 : Int32)) dX8_from_224 (by decide) ?_
      have hk := Option.some.inj hk
      subst hk
      exact k_iret (pc := 225) h dX8_from_225 ⟨rfl, rfl, rfl, rfl, rfl, ⟨.int, rfl, rfl⟩⟩
    · refine k_aload_n (pc := 29) h 0 dX8_from_29 rfl ?_
      obtain ⟨p21, hc20, hk⟩ := bd_some hk
      refine k_callV1 (pc := 30) h (c_X8_no hc20) cw_X8_185 ly_46 rfl ⟨⟨by decide, by decide⟩, Nat.zero_le _, Nat.zero_le _⟩ rfl (Nat.le_of_ble_eq_true rfl) dX8_from_30 ?_
      have hk := Option.some.inj hk
      subst hk
      exact k_iret (pc := 33) h dX8_from_33 ⟨rfl, rfl, rfl, rfl, rfl, ⟨.int, rfl, rfl⟩⟩
  · refine k_aload_n (pc := 9) h 0 dX8_from_9 rfl ?_
    obtain ⟨p23, hc22, hk⟩ := bd_some hk
    refine k_callV1 (pc := 10) h (c_X8_bad hc22) cw_X8_88 ly_46 rfl ⟨⟨by decide, by decide⟩, Nat.zero_le _, Nat.zero_le _⟩ rfl (Nat.le_of_ble_eq_true rfl) dX8_from_10 ?_
    have hk := Option.some.inj hk
    subst hk
    exact k_iret (pc := 13) h dX8_from_13 ⟨rfl, rfl, rfl, rfl, rfl, ⟨.int, rfl, rfl⟩⟩
def f_X8_image_b68 (l2 : Int32) (l3 : Int32) (w : WW) : Option ((Int32 × WW) ⊕ (WW)) := if (16 : Int32) ≤ l3 then some (.inr w) else gd (inb l3 16) (gd (inb ((l2 + (4 : Int32)) + l3) 386) (stI w 63 (((l2 + (4 : Int32)) + l3)).toNatClampNeg (w.1 48 (l3).toNatClampNeg) (fun u8 => gd (inb l3 16) (gd (inb ((l2 + (20 : Int32)) + l3) 386) (stI u8 63 (((l2 + (20 : Int32)) + l3)).toNatClampNeg (u8.1 52 (l3).toNatClampNeg) (fun u9 => some (.inl ((l3 + (1 : Int32)), u9))))))))
def f_X8_image_b115 (l2 : Int32) (l3 : Int32) (w : WW) : Option ((Int32 × WW) ⊕ (WW)) := if (7 : Int32) ≤ l3 then some (.inr w) else gd (inb l3 7) (gd (inb ((l2 + (36 : Int32)) + l3) 386) (stI w 63 (((l2 + (36 : Int32)) + l3)).toNatClampNeg (w.1 49 (l3).toNatClampNeg) (fun u12 => gd (inb l3 7) (gd (inb ((l2 + (43 : Int32)) + l3) 386) (stI u12 63 (((l2 + (43 : Int32)) + l3)).toNatClampNeg (u12.1 50 (l3).toNatClampNeg) (fun u13 => gd (inb l3 7) (gd (inb ((l2 + (50 : Int32)) + l3) 386) (stI u13 63 (((l2 + (50 : Int32)) + l3)).toNatClampNeg (u13.1 51 (l3).toNatClampNeg) (fun u14 => some (.inl ((l3 + (1 : Int32)), u14)))))))))))
def f_X8_image_b180 (l2 : Int32) (l3 : Int32) (w : WW) : Option ((Int32 × WW) ⊕ (WW)) := if (136 : Int32) ≤ l3 then some (.inr w) else gd (inb l3 136) (gd (inb ((l2 + (57 : Int32)) + l3) 386) (stI w 63 (((l2 + (57 : Int32)) + l3)).toNatClampNeg (w.1 56 (l3).toNatClampNeg) (fun u17 => some (.inl ((l3 + (1 : Int32)), u17)))))
def f_X8_image (w : WW) (l1 : Int32) : Option (Int32 × WW) := (f_X8_in w l1 (0 : Int32) (1 : Int32)).bind (fun p2 => if p2 = 0 then (f_X8_bad w).bind (fun p21 => some (p21.1, p21.2)) else nmv ((193 : Int32) * l1) (fun v3 => gd (inb v3 386) (stI w 63 (v3).toNatClampNeg (w.1 46 1) (fun u4 => gd (inb (v3 + (1 : Int32)) 386) (stI u4 63 ((v3 + (1 : Int32))).toNatClampNeg (u4.1 46 2) (fun u5 => gd (inb (v3 + (2 : Int32)) 386) (stI u5 63 ((v3 + (2 : Int32))).toNatClampNeg (u5.1 46 3) (fun u6 => gd (inb (v3 + (3 : Int32)) 386) (stI u6 63 ((v3 + (3 : Int32))).toNatClampNeg (u6.1 46 18) (fun u7 => (lpf (fun s : Int32 × WW => f_X8_image_b68 v3 s.1 s.2) FU ((0 : Int32), u7)).bind (fun r10 => (lpf (fun s : Int32 × WW => f_X8_image_b115 v3 s.1 s.2) FU ((0 : Int32), r10)).bind (fun r15 => (lpf (fun s : Int32 × WW => f_X8_image_b180 v3 s.1 s.2) FU ((0 : Int32), r15)).bind (fun r18 => some ((1 : Int32), r18))))))))))))))
set_option maxRecDepth 20000 in
set_option maxHeartbeats 4000000 in
theorem c_X8_image {w : WW} {l1 : Int32} {z : Int32 × WW} (hk : f_X8_image w l1 = some z) : Cn 1 yX8_image cX8_image 4 (some .int) LAY [.ref 46, .int l1] w (some (.int z.1)) z.2 := by
  refine Cn.of (by decide +kernel) (Nat.le_of_ble_eq_true rfl) (fun G h => ?_)
  have h : Rules cX8_image RX8 "image" 4 (rmd 1 0 0) none _ _ LAY 0 0 G := h
  show G 0 [(0, .ref 46), (1, .int l1)] [] w
  unfold f_X8_image at hk
  have LB68 : ∀ (l2 : Int32), ∀ (nn : Nat) (s : Int32 × WW) (r : WW), lpf (fun s : Int32 × WW => f_X8_image_b68 l2 s.1 s.2) nn s = some r → (fun r : WW => G 113 [(0, .ref 46), (2, .int l2)] [] r) r → (fun s : Int32 × WW => G 68 [(0, .ref 46), (2, .int l2), (3, .int s.1)] [] s.2) s := by
    intro l2
    refine lpf_ind (fun s : Int32 × WW => G 68 [(0, .ref 46), (2, .int l2), (3, .int s.1)] [] s.2) (fun r : WW => G 113 [(0, .ref 46), (2, .int l2)] [] r) ?_
    rintro ⟨l3, w⟩ z hk hz
    have hk : f_X8_image_b68 l2 l3 w = some z := hk
    unfold f_X8_image_b68 at hk
    show G 68 [(0, .ref 46), (2, .int l2), (3, .int l3)] [] w
    refine k_iload_n (pc := 68) h 2 dX8_image_68 rfl ?_
    refine k_bipush (pc := 69) h (x := (16 : Int32)) dX8_image_69 (by decide) ?_
    refine k_icmp_ge (tgt := 113) (pc := 71) h dX8_image_71 rfl hk (fun hc hk => ?_) (fun hc hk => ?_)
    · refine k_sub h [0, 1] (lv' := [(0, .ref 46), (2, .int l2)]) rfl ?_
      have hk := Option.some.inj hk
      subst hk
      exact hz
    · refine k_aload_n (pc := 74) h 0 dX8_image_74 rfl ?_
      refine k_getr (pc := 75) h fl_X8_68 ly_46 rfl dX8_image_75 ?_
      refine k_iload_n (pc := 78) h 1 dX8_image_78 rfl ?_
      refine k_iconst (pc := 79) h (x := (4 : Int32)) dX8_image_79 (by decide) ?_
      refine k_iadd (pc := 80) h dX8_image_80 ?_
      refine k_iload_n (pc := 81) h 2 dX8_image_81 rfl ?_
      refine k_iadd (pc := 82) h dX8_image_82 ?_
      refine k_aload_n (pc := 83) h 0 dX8_image_83 rfl ?_
      refine k_getr (pc := 84) h fl_X8_17 ly_46 rfl dX8_image_84 ?_
      refine k_iload_n (pc := 87) h 2 dX8_image_87 rfl ?_
      refine k_iald (pc := 88) h ly_48 dX8_image_88 hk (fun hk => ?_)
      refine k_iast (pc := 89) h ly_63 dX8_image_89 hk (fun u8 hk => ?_)
      refine k_aload_n (pc := 90) h 0 dX8_image_90 rfl ?_
      refine k_getr (pc := 91) h fl_X8_68 ly_46 rfl dX8_image_91 ?_
      refine k_iload_n (pc := 94) h 1 dX8_image_94 rfl ?_
      refine k_bipush (pc := 95) h (x := (20 : Int32)) dX8_image_95 (by decide) ?_
      refine k_iadd (pc := 97) h dX8_image_97 ?_
      refine k_iload_n (pc := 98) h 2 dX8_image_98 rfl ?_
      refine k_iadd (pc := 99) h dX8_image_99 ?_
      refine k_aload_n (pc := 100) h 0 dX8_image_100 rfl ?_
      refine k_getr (pc := 101) h fl_X8_29 ly_46 rfl dX8_image_101 ?_
      refine k_iload_n (pc := 104) h 2 dX8_image_104 rfl ?_
      refine k_iald (pc := 105) h ly_52 dX8_image_105 hk (fun hk => ?_)
      refine k_iast (pc := 106) h ly_63 dX8_image_106 hk (fun u9 hk => ?_)
      refine k_iinc (pc := 107) h 2 [1, 2, 0] (v := (l3 + (1 : Int32))) (lv' := [(0, .ref 46), (2, .int l2), (3, .int (l3 + (1 : Int32)))]) dX8_image_107 rfl rfl (by decide) rfl ?_
      refine k_goto (tgt := 68) (pc := 110) h dX8_image_110 rfl ?_
      have hk := Option.some.inj hk
      subst hk
      exact hz
  have LB115 : ∀ (l2 : Int32), ∀ (nn : Nat) (s : Int32 × WW) (r : WW), lpf (fun s : Int32 × WW => f_X8_image_b115 l2 s.1 s.2) nn s = some r → (fun r : WW => G 178 [(0, .ref 46), (2, .int l2)] [] r) r → (fun s : Int32 × WW => G 115 [(0, .ref 46), (2, .int l2), (3, .int s.1)] [] s.2) s := by
    intro l2
    refine lpf_ind (fun s : Int32 × WW => G 115 [(0, .ref 46), (2, .int l2), (3, .int s.1)] [] s.2) (fun r : WW => G 178 [(0, .ref 46), (2, .int l2)] [] r) ?_
    rintro ⟨l3, w⟩ z hk hz
    have hk : f_X8_image_b115 l2 l3 w = some z := hk
    unfold f_X8_image_b115 at hk
    show G 115 [(0, .ref 46), (2, .int l2), (3, .int l3)] [] w
    refine k_iload_n (pc := 115) h 2 dX8_image_115 rfl ?_
    refine k_bipush (pc := 116) h (x := (7 : Int32)) dX8_image_116 (by decide) ?_
    refine k_icmp_ge (tgt := 178) (pc := 118) h dX8_image_118 rfl hk (fun hc hk => ?_) (fun hc hk => ?_)
    · refine k_sub h [0, 1] (lv' := [(0, .ref 46), (2, .int l2)]) rfl ?_
      have hk := Option.some.inj hk
      subst hk
      exact hz
    · refine k_aload_n (pc := 121) h 0 dX8_image_121 rfl ?_
      refine k_getr (pc := 122) h fl_X8_68 ly_46 rfl dX8_image_122 ?_
      refine k_iload_n (pc := 125) h 1 dX8_image_125 rfl ?_
      refine k_bipush (pc := 126) h (x := (36 : Int32)) dX8_image_126 (by decide) ?_
      refine k_iadd (pc := 128) h dX8_image_128 ?_
      refine k_iload_n (pc := 129) h 2 dX8_image_129 rfl ?_
      refine k_iadd (pc := 130) h dX8_image_130 ?_
      refine k_aload_n (pc := 131) h 0 dX8_image_131 rfl ?_
      refine k_getr (pc := 132) h fl_X8_20 ly_46 rfl dX8_image_132 ?_
      refine k_iload_n (pc := 135) h 2 dX8_image_135 rfl ?_
      refine k_iald (pc := 136) h ly_49 dX8_image_136 hk (fun hk => ?_)
      refine k_iast (pc := 137) h ly_63 dX8_image_137 hk (fun u12 hk => ?_)
      refine k_aload_n (pc := 138) h 0 dX8_image_138 rfl ?_
      refine k_getr (pc := 139) h fl_X8_68 ly_46 rfl dX8_image_139 ?_
      refine k_iload_n (pc := 142) h 1 dX8_image_142 rfl ?_
      refine k_bipush (pc := 143) h (x := (43 : Int32)) dX8_image_143 (by decide) ?_
      refine k_iadd (pc := 145) h dX8_image_145 ?_
      refine k_iload_n (pc := 146) h 2 dX8_image_146 rfl ?_
      refine k_iadd (pc := 147) h dX8_image_147 ?_
      refine k_aload_n (pc := 148) h 0 dX8_image_148 rfl ?_
      refine k_getr (pc := 149) h fl_X8_23 ly_46 rfl dX8_image_149 ?_
      refine k_iload_n (pc := 152) h 2 dX8_image_152 rfl ?_
      refine k_iald (pc := 153) h ly_50 dX8_image_153 hk (fun hk => ?_)
      refine k_iast (pc := 154) h ly_63 dX8_image_154 hk (fun u13 hk => ?_)
      refine k_aload_n (pc := 155) h 0 dX8_image_155 rfl ?_
      refine k_getr (pc := 156) h fl_X8_68 ly_46 rfl dX8_image_156 ?_
      refine k_iload_n (pc := 159) h 1 dX8_image_159 rfl ?_
      refine k_bipush (pc := 160) h (x := (50 : Int32)) dX8_image_160 (by decide) ?_
      refine k_iadd (pc := 162) h dX8_image_162 ?_
      refine k_iload_n (pc := 163) h 2 dX8_image_163 rfl ?_
      refine k_iadd (pc := 164) h dX8_image_164 ?_
      refine k_aload_n (pc := 165) h 0 dX8_image_165 rfl ?_
      refine k_getr (pc := 166) h fl_X8_26 ly_46 rfl dX8_image_166 ?_
      refine k_iload_n (pc := 169) h 2 dX8_image_169 rfl ?_
      refine k_iald (pc := 170) h ly_51 dX8_image_170 hk (fun hk => ?_)
      refine k_iast (pc := 171) h ly_63 dX8_image_171 hk (fun u14 hk => ?_)
      refine k_iinc (pc := 172) h 2 [1, 2, 0] (v := (l3 + (1 : Int32))) (lv' := [(0, .ref 46), (2, .int l2), (3, .int (l3 + (1 : Int32)))]) dX8_image_172 rfl rfl (by decide) rfl ?_
      refine k_goto (tgt := 115) (pc := 175) h dX8_image_175 rfl ?_
      have hk := Option.some.inj hk
      subst hk
      exact hz
  have LB180 : ∀ (l2 : Int32), ∀ (nn : Nat) (s : Int32 × WW) (r : WW), lpf (fun s : Int32 × WW => f_X8_image_b180 l2 s.1 s.2) nn s = some r → (fun r : WW => G 210 [] [] r) r → (fun s : Int32 × WW => G 180 [(0, .ref 46), (2, .int l2), (3, .int s.1)] [] s.2) s := by
    intro l2
    refine lpf_ind (fun s : Int32 × WW => G 180 [(0, .ref 46), (2, .int l2), (3, .int s.1)] [] s.2) (fun r : WW => G 210 [] [] r) ?_
    rintro ⟨l3, w⟩ z hk hz
    have hk : f_X8_image_b180 l2 l3 w = some z := hk
    unfold f_X8_image_b180 at hk
    show G 180 [(0, .ref 46), (2, .int l2), (3, .int l3)] [] w
    refine k_iload_n (pc := 180) h 2 dX8_image_180 rfl ?_
    refine k_sipush (pc := 181) h (x := (136 : Int32)) dX8_image_181 (by decide) ?_
    refine k_icmp_ge (tgt := 210) (pc := 184) h dX8_image_184 rfl hk (fun hc hk => ?_) (fun hc hk => ?_)
    · refine k_sub h [] (lv' := []) rfl ?_
      have hk := Option.some.inj hk
      subst hk
      exact hz
    · refine k_aload_n (pc := 187) h 0 dX8_image_187 rfl ?_
      refine k_getr (pc := 188) h fl_X8_68 ly_46 rfl dX8_image_188 ?_
      refine k_iload_n (pc := 191) h 1 dX8_image_191 rfl ?_
      refine k_bipush (pc := 192) h (x := (57 : Int32)) dX8_image_192 (by decide) ?_
      refine k_iadd (pc := 194) h dX8_image_194 ?_
      refine k_iload_n (pc := 195) h 2 dX8_image_195 rfl ?_
      refine k_iadd (pc := 196) h dX8_image_196 ?_
      refine k_aload_n (pc := 197) h 0 dX8_image_197 rfl ?_
      refine k_getr (pc := 198) h fl_X8_41 ly_46 rfl dX8_image_198 ?_
      refine k_iload_n (pc := 201) h 2 dX8_image_201 rfl ?_
      refine k_iald (pc := 202) h ly_56 dX8_image_202 hk (fun hk => ?_)
      refine k_iast (pc := 203) h ly_63 dX8_image_203 hk (fun u17 hk => ?_)
      refine k_iinc (pc := 204) h 2 [1, 2, 0] (v := (l3 + (1 : Int32))) (lv' := [(0, .ref 46), (2, .int l2), (3, .int (l3 + (1 : Int32)))]) dX8_image_204 rfl rfl (by decide) rfl ?_
      refine k_goto (tgt := 180) (pc := 207) h dX8_image_207 rfl ?_
      have hk := Option.some.inj hk
      subst hk
      exact hz
  refine k_iload_n (pc := 0) h 1 dX8_image_0 rfl ?_
  refine k_iconst (pc := 1) h (x := (0 : Int32)) dX8_image_1 (by decide) ?_
  refine k_iconst (pc := 2) h (x := (1 : Int32)) dX8_image_2 (by decide) ?_
  obtain ⟨p2, hc1, hk⟩ := bd_some hk
  refine k_callS1 (pc := 3) h (c_X8_in hc1) cw_X8_84 ⟨⟨by decide, by decide⟩, Nat.zero_le _, Nat.zero_le _⟩ rfl (Nat.le_of_ble_eq_true rfl) dX8_image_3 ?_
  refine k_if_ne (tgt := 14) (pc := 6) h dX8_image_6 rfl hk (fun hc hk => ?_) (fun hc hk => ?_)
  · refine k_sipush (pc := 14) h (x := (193 : Int32)) dX8_image_14 (by decide) ?_
    refine k_iload_n (pc := 17) h 1 dX8_image_17 rfl ?_
    refine k_imul (pc := 18) h dX8_image_18 ?_
    refine k_nmi (pc := 19) h hk (fun v3 hk => ?_)
    refine k_istore_n (pc := 19) h [1, 2, 0] (lv' := [(0, .ref 46), (1, .int l1), (2, .int v3)]) dX8_image_19 rfl (by decide) rfl ?_
    refine k_aload_n (pc := 20) h 0 dX8_image_20 rfl ?_
    refine k_getr (pc := 21) h fl_X8_68 ly_46 rfl dX8_image_21 ?_
    refine k_iload_n (pc := 24) h 2 dX8_image_24 rfl ?_
    refine k_aload_n (pc := 25) h 0 dX8_image_25 rfl ?_
    refine k_geti (pc := 26) h fl_X8_13 ly_46 rfl dX8_image_26 ?_
    refine k_iast (pc := 29) h ly_63 dX8_image_29 hk (fun u4 hk => ?_)
    refine k_aload_n (pc := 30) h 0 dX8_image_30 rfl ?_
    refine k_getr (pc := 31) h fl_X8_68 ly_46 rfl dX8_image_31 ?_
    refine k_iload_n (pc := 34) h 2 dX8_image_34 rfl ?_
    refine k_iconst (pc := 35) h (x := (1 : Int32)) dX8_image_35 (by decide) ?_
    refine k_iadd (pc := 36) h dX8_image_36 ?_
    refine k_aload_n (pc := 37) h 0 dX8_image_37 rfl ?_
    refine k_geti (pc := 38) h fl_X8_75 ly_46 rfl dX8_image_38 ?_
    refine k_iast (pc := 41) h ly_63 dX8_image_41 hk (fun u5 hk => ?_)
    refine k_aload_n (pc := 42) h 0 dX8_image_42 rfl ?_
    refine k_getr (pc := 43) h fl_X8_68 ly_46 rfl dX8_image_43 ?_
    refine k_iload_n (pc := 46) h 2 dX8_image_46 rfl ?_
    refine k_iconst (pc := 47) h (x := (2 : Int32)) dX8_image_47 (by decide) ?_
    refine k_iadd (pc := 48) h dX8_image_48 ?_
    refine k_aload_n (pc := 49) h 0 dX8_image_49 rfl ?_
    refine k_geti (pc := 50) h fl_X8_78 ly_46 rfl dX8_image_50 ?_
    refine k_iast (pc := 53) h ly_63 dX8_image_53 hk (fun u6 hk => ?_)
    refine k_aload_n (pc := 54) h 0 dX8_image_54 rfl ?_
    refine k_getr (pc := 55) h fl_X8_68 ly_46 rfl dX8_image_55 ?_
    refine k_iload_n (pc := 58) h 2 dX8_image_58 rfl ?_
    refine k_iconst (pc := 59) h (x := (3 : Int32)) dX8_image_59 (by decide) ?_
    refine k_iadd (pc := 60) h dX8_image_60 ?_
    refine k_aload_n (pc := 61) h 0 dX8_image_61 rfl ?_
    refine k_geti (pc := 62) h fl_X8_81 ly_46 rfl dX8_image_62 ?_
    refine k_iast (pc := 65) h ly_63 dX8_image_65 hk (fun u7 hk => ?_)
    refine k_iconst (pc := 66) h (x := (0 : Int32)) dX8_image_66 (by decide) ?_
    refine k_istore_n (pc := 67) h [1, 2, 3, 0] (lv' := [(0, .ref 46), (1, .int l1), (2, .int v3), (3, .int (0 : Int32))]) dX8_image_67 rfl (by decide) rfl ?_
    refine k_sub h [0, 2, 3] (lv' := [(0, .ref 46), (2, .int v3), (3, .int (0 : Int32))]) rfl ?_
    obtain ⟨r10, hl11, hk⟩ := bd_some hk
    refine LB68 _ _ _ _ hl11 ?_
    show G 113 [(0, .ref 46), (2, .int v3)] [] r10
    refine k_iconst (pc := 113) h (x := (0 : Int32)) dX8_image_113 (by decide) ?_
    refine k_istore_n (pc := 114) h [1, 2, 0] (lv' := [(0, .ref 46), (2, .int v3), (3, .int (0 : Int32))]) dX8_image_114 rfl (by decide) rfl ?_
    obtain ⟨r15, hl16, hk⟩ := bd_some hk
    refine LB115 _ _ _ _ hl16 ?_
    show G 178 [(0, .ref 46), (2, .int v3)] [] r15
    refine k_iconst (pc := 178) h (x := (0 : Int32)) dX8_image_178 (by decide) ?_
    refine k_istore_n (pc := 179) h [1, 2, 0] (lv' := [(0, .ref 46), (2, .int v3), (3, .int (0 : Int32))]) dX8_image_179 rfl (by decide) rfl ?_
    obtain ⟨r18, hl19, hk⟩ := bd_some hk
    refine LB180 _ _ _ _ hl19 ?_
    show G 210 [] [] r18
    refine k_iconst (pc := 210) h (x := (1 : Int32)) dX8_image_210 (by decide) ?_
    have hk := Option.some.inj hk
    subst hk
    exact k_iret (pc := 211) h dX8_image_211 ⟨rfl, rfl, rfl, rfl, rfl, ⟨.int, rfl, rfl⟩⟩
  · refine k_aload_n (pc := 9) h 0 dX8_image_9 rfl ?_
    obtain ⟨p21, hc20, hk⟩ := bd_some hk
    refine k_callV1 (pc := 10) h (c_X8_bad hc20) cw_X8_88 ly_46 rfl ⟨⟨by decide, by decide⟩, Nat.zero_le _, Nat.zero_le _⟩ rfl (Nat.le_of_ble_eq_true rfl) dX8_image_10 ?_
    have hk := Option.some.inj hk
    subst hk
    exact k_iret (pc := 13) h dX8_image_13 ⟨rfl, rfl, rfl, rfl, rfl, ⟨.int, rfl, rfl⟩⟩
def f_X8_isCase (w : WW) (l1 : Int32) : Option (Int32) := (f_X8_in w l1 (0 : Int32) ((w.1 46 1) - (1 : Int32))).bind (fun p2 => gd (p2 &&& 1 = p2) (some (p2)))
set_option maxRecDepth 20000 in
set_option maxHeartbeats 4000000 in
theorem c_X8_isCase {w : WW} {l1 : Int32} {z : Int32} (hk : f_X8_isCase w l1 = some z) : Cn 1 yX8_isCase cX8_isCase 2 (some .boolean) LAY [.ref 46, .int l1] w (some (.int z)) w := by
  refine Cn.of (by decide +kernel) (Nat.le_of_ble_eq_true rfl) (fun G h => ?_)
  have h : Rules cX8_isCase RX8 "isCase" 2 (rmd 1 0 0) none _ _ LAY 0 0 G := h
  show G 0 [(0, .ref 46), (1, .int l1)] [] w
  unfold f_X8_isCase at hk
  refine k_iload_n (pc := 0) h 1 dX8_isCase_0 rfl ?_
  refine k_iconst (pc := 1) h (x := (0 : Int32)) dX8_isCase_1 (by decide) ?_
  refine k_aload_n (pc := 2) h 0 dX8_isCase_2 rfl ?_
  refine k_geti (pc := 3) h fl_X8_13 ly_46 rfl dX8_isCase_3 ?_
  refine k_iconst (pc := 6) h (x := (1 : Int32)) dX8_isCase_6 (by decide) ?_
  refine k_isub (pc := 7) h dX8_isCase_7 ?_
  obtain ⟨p2, hc1, hk⟩ := bd_some hk
  refine k_callS1 (pc := 8) h (c_X8_in hc1) cw_X8_84 ⟨⟨by decide, by decide⟩, Nat.zero_le _, Nat.zero_le _⟩ rfl (Nat.le_of_ble_eq_true rfl) dX8_isCase_8 ?_
  obtain ⟨hg, hk⟩ := gd_some hk
  have hk := Option.some.inj hk
  subst hk
  exact k_iret (pc := 11) h dX8_isCase_11 ⟨rfl, rfl, rfl, rfl, rfl, ⟨.boolean, rfl, nar_b hg⟩⟩
def f_X8_isFigure (w : WW) (l0 : Int32) : Option (Int32) := (f_X8_in w l0 (48 : Int32) (57 : Int32)).bind (fun p2 => gd (p2 &&& 1 = p2) (some (p2)))
set_option maxRecDepth 20000 in
set_option maxHeartbeats 4000000 in
theorem c_X8_isFigure {lay : List LyS} {w : WW} {l0 : Int32} {z : Int32} (hk : f_X8_isFigure w l0 = some z) : Cn 1 yX8_isFigure cX8_isFigure 1 (some .boolean) lay [.int l0] w (some (.int z)) w := by
  refine Cn.of (by decide +kernel) (Nat.le_of_ble_eq_true rfl) (fun G h => ?_)
  have h : Rules cX8_isFigure RX8 "isFigure" 1 (rmd 1 0 0) none _ _ lay 0 0 G := h
  show G 0 [(0, .int l0)] [] w
  unfold f_X8_isFigure at hk
  refine k_iload_n (pc := 0) h 0 dX8_isFigure_0 rfl ?_
  refine k_bipush (pc := 1) h (x := (48 : Int32)) dX8_isFigure_1 (by decide) ?_
  refine k_bipush (pc := 3) h (x := (57 : Int32)) dX8_isFigure_3 (by decide) ?_
  obtain ⟨p2, hc1, hk⟩ := bd_some hk
  refine k_callS1 (pc := 5) h (c_X8_in hc1) cw_X8_84 ⟨⟨by decide, by decide⟩, Nat.zero_le _, Nat.zero_le _⟩ rfl (Nat.le_of_ble_eq_true rfl) dX8_isFigure_5 ?_
  obtain ⟨hg, hk⟩ := gd_some hk
  have hk := Option.some.inj hk
  subst hk
  exact k_iret (pc := 8) h dX8_isFigure_8 ⟨rfl, rfl, rfl, rfl, rfl, ⟨.boolean, rfl, nar_b hg⟩⟩
def f_X8_isLetter (w : WW) (l0 : Int32) : Option (Int32) := (f_X8_in w l0 (97 : Int32) (122 : Int32)).bind (fun p2 => gd (p2 &&& 1 = p2) (some (p2)))
set_option maxRecDepth 20000 in
set_option maxHeartbeats 4000000 in
theorem c_X8_isLetter {lay : List LyS} {w : WW} {l0 : Int32} {z : Int32} (hk : f_X8_isLetter w l0 = some z) : Cn 1 yX8_isLetter cX8_isLetter 1 (some .boolean) lay [.int l0] w (some (.int z)) w := by
  refine Cn.of (by decide +kernel) (Nat.le_of_ble_eq_true rfl) (fun G h => ?_)
  have h : Rules cX8_isLetter RX8 "isLetter" 1 (rmd 1 0 0) none _ _ lay 0 0 G := h
  show G 0 [(0, .int l0)] [] w
  unfold f_X8_isLetter at hk
  refine k_iload_n (pc := 0) h 0 dX8_isLetter_0 rfl ?_
  refine k_bipush (pc := 1) h (x := (97 : Int32)) dX8_isLetter_1 (by decide) ?_
  refine k_bipush (pc := 3) h (x := (122 : Int32)) dX8_isLetter_3 (by decide) ?_
  obtain ⟨p2, hc1, hk⟩ := bd_some hk
  refine k_callS1 (pc := 5) h (c_X8_in hc1) cw_X8_84 ⟨⟨by decide, by decide⟩, Nat.zero_le _, Nat.zero_le _⟩ rfl (Nat.le_of_ble_eq_true rfl) dX8_isLetter_5 ?_
  obtain ⟨hg, hk⟩ := gd_some hk
  have hk := Option.some.inj hk
  subst hk
  exact k_iret (pc := 8) h dX8_isLetter_8 ⟨rfl, rfl, rfl, rfl, rfl, ⟨.boolean, rfl, nar_b hg⟩⟩
def f_X8_isQuestion (w : WW) (l1 : Int32) : Option (Int32) := (f_X8_in w l1 (0 : Int32) ((w.1 46 2) - (1 : Int32))).bind (fun p2 => gd (p2 &&& 1 = p2) (some (p2)))
set_option maxRecDepth 20000 in
set_option maxHeartbeats 4000000 in
theorem c_X8_isQuestion {w : WW} {l1 : Int32} {z : Int32} (hk : f_X8_isQuestion w l1 = some z) : Cn 1 yX8_isQuestion cX8_isQuestion 2 (some .boolean) LAY [.ref 46, .int l1] w (some (.int z)) w := by
  refine Cn.of (by decide +kernel) (Nat.le_of_ble_eq_true rfl) (fun G h => ?_)
  have h : Rules cX8_isQuestion RX8 "isQuestion" 2 (rmd 1 0 0) none _ _ LAY 0 0 G := h
  show G 0 [(0, .ref 46), (1, .int l1)] [] w
  unfold f_X8_isQuestion at hk
  refine k_iload_n (pc := 0) h 1 dX8_isQuestion_0 rfl ?_
  refine k_iconst (pc := 1) h (x := (0 : Int32)) dX8_isQuestion_1 (by decide) ?_
  refine k_aload_n (pc := 2) h 0 dX8_isQuestion_2 rfl ?_
  refine k_geti (pc := 3) h fl_X8_75 ly_46 rfl dX8_isQuestion_3 ?_
  refine k_iconst (pc := 6) h (x := (1 : Int32)) dX8_isQuestion_6 (by decide) ?_
  refine k_isub (pc := 7) h dX8_isQuestion_7 ?_
  obtain ⟨p2, hc1, hk⟩ := bd_some hk
  refine k_callS1 (pc := 8) h (c_X8_in hc1) cw_X8_84 ⟨⟨by decide, by decide⟩, Nat.zero_le _, Nat.zero_le _⟩ rfl (Nat.le_of_ble_eq_true rfl) dX8_isQuestion_8 ?_
  obtain ⟨hg, hk⟩ := gd_some hk
  have hk := Option.some.inj hk
  subst hk
  exact k_iret (pc := 11) h dX8_isQuestion_11 ⟨rfl, rfl, rfl, rfl, rfl, ⟨.boolean, rfl, nar_b hg⟩⟩
def f_X8_part (w : WW) (l1 : Int32) : Option (Int64 × WW) := if l1 = 0 then some ((w.2 46 24), w) else if l1 = (1 : Int32) then some ((w.2 46 25), w) else (f_X8_bad w).bind (fun p2 => some (((p2.1).toInt64), p2.2))
set_option maxRecDepth 20000 in
set_option maxHeartbeats 4000000 in
theorem c_X8_part {w : WW} {l1 : Int32} {z : Int64 × WW} (hk : f_X8_part w l1 = some z) : Cn 1 yX8_part cX8_part 2 (some .long) LAY [.ref 46, .int l1] w (some (.long z.1)) z.2 := by
  refine Cn.of (by decide +kernel) (Nat.le_of_ble_eq_true rfl) (fun G h => ?_)
  have h : Rules cX8_part RX8 "part" 2 (rmd 1 0 0) none _ _ LAY 0 0 G := h
  show G 0 [(0, .ref 46), (1, .int l1)] [] w
  unfold f_X8_part at hk
  refine k_iload_n (pc := 0) h 1 dX8_part_0 rfl ?_
  refine k_if_ne (tgt := 11) (pc := 1) h dX8_part_1 rfl hk (fun hc hk => ?_) (fun hc hk => ?_)
  · refine k_iload_n (pc := 11) h 1 dX8_part_11 rfl ?_
    refine k_iconst (pc := 12) h (x := (1 : Int32)) dX8_part_12 (by decide) ?_
    refine k_icmp_ne (tgt := 23) (pc := 13) h dX8_part_13 rfl hk (fun hc hk => ?_) (fun hc hk => ?_)
    · refine k_aload_n (pc := 23) h 0 dX8_part_23 rfl ?_
      obtain ⟨p2, hc1, hk⟩ := bd_some hk
      refine k_callV1 (pc := 24) h (c_X8_bad hc1) cw_X8_88 ly_46 rfl ⟨⟨by decide, by decide⟩, Nat.zero_le _, Nat.zero_le _⟩ rfl (Nat.le_of_ble_eq_true rfl) dX8_part_24 ?_
      refine k_i2l (pc := 27) h dX8_part_27 ?_
      have hk := Option.some.inj hk
      subst hk
      exact k_lret (pc := 28) h dX8_part_28 ⟨rfl, rfl, rfl, rfl, rfl, rfl⟩
    · refine k_aload_n (pc := 16) h 0 dX8_part_16 rfl ?_
      refine k_getl (pc := 17) h fl_X8_61 ly_46 rfl dX8_part_17 ?_
      refine k_goto (tgt := 28) (pc := 20) h dX8_part_20 rfl ?_
      have hk := Option.some.inj hk
      subst hk
      exact k_lret (pc := 28) h dX8_part_28 ⟨rfl, rfl, rfl, rfl, rfl, rfl⟩
  · refine k_aload_n (pc := 4) h 0 dX8_part_4 rfl ?_
    refine k_getl (pc := 5) h fl_X8_234 ly_46 rfl dX8_part_5 ?_
    refine k_goto (tgt := 28) (pc := 8) h dX8_part_8 rfl ?_
    have hk := Option.some.inj hk
    subst hk
    exact k_lret (pc := 28) h dX8_part_28 ⟨rfl, rfl, rfl, rfl, rfl, rfl⟩
def f_X8_placed_j30 (w : WW) (l0 : Int32) (l3 : Int32) (s0 : Int32) (s1 : Int32) : Option ((Int32 × Int32) ⊕ (Int32)) := nmv (s1 - s0) (fun v5 => some (.inl (v5, (l3 + (1 : Int32)))))
def f_X8_placed_j16 (w : WW) (l0 : Int32) (l2 : Int32) (l3 : Int32) : Option ((Int32 × Int32) ⊕ (Int32)) := (f_X8_has w l0 l3).bind (fun p4 => if p4 = 0 then f_X8_placed_j30 w l0 l3 (0 : Int32) l2 else f_X8_placed_j30 w l0 l3 (1 : Int32) l2)
def f_X8_placed_b4 (w : WW) (l0 : Int32) (l2 : Int32) (l3 : Int32) : Option ((Int32 × Int32) ⊕ (Int32)) := (f_X8_has w l0 l3).bind (fun p2 => if p2 = 0 then f_X8_placed_j16 w l0 l2 l3 else if l2 ≤ 0 then some (.inr l3) else f_X8_placed_j16 w l0 l2 l3)
def f_X8_placed (w : WW) (l0 : Int32) (l1 : Int32) : Option (Int32) := (lpf (fun s : Int32 × Int32 => f_X8_placed_b4 w l0 s.1 s.2) FU (l1, (0 : Int32))).bind (fun r6 => some (r6))
set_option maxRecDepth 20000 in
set_option maxHeartbeats 4000000 in
theorem c_X8_placed {lay : List LyS} {w : WW} {l0 : Int32} {l1 : Int32} {z : Int32} (hk : f_X8_placed w l0 l1 = some z) : Cn 1 yX8_placed cX8_placed 4 (some .int) lay [.int l0, .int l1] w (some (.int z)) w := by
  refine Cn.of (by decide +kernel) (Nat.le_of_ble_eq_true rfl) (fun G h => ?_)
  have h : Rules cX8_placed RX8 "placed" 4 (rmd 1 0 0) none _ _ lay 0 0 G := h
  show G 0 [(0, .int l0), (1, .int l1)] [] w
  unfold f_X8_placed at hk
  have EJ30 : ∀ (l0 : Int32) (l3 : Int32) (s0 : Int32) (s1 : Int32) (z : (Int32 × Int32) ⊕ (Int32)), f_X8_placed_j30 w l0 l3 s0 s1 = some z → Sum.elim (fun s : Int32 × Int32 => G 4 [(0, .int l0), (2, .int s.1), (3, .int s.2)] [] w) (fun r : Int32 => G 38 [(3, .int r)] [] w) z → G 30 [(0, .int l0), (3, .int l3)] [.int s0, .int s1] w := by
    intro l0 l3 s0 s1 z hk hz
    unfold f_X8_placed_j30 at hk
    refine k_isub (pc := 30) h dX8_placed_30 ?_
    refine k_nmi (pc := 31) h hk (fun v5 hk => ?_)
    refine k_istore_n (pc := 31) h [1, 0, 2] (lv' := [(0, .int l0), (2, .int v5), (3, .int l3)]) dX8_placed_31 rfl (by decide) rfl ?_
    refine k_iinc (pc := 32) h 2 [1, 2, 0] (v := (l3 + (1 : Int32))) (lv' := [(0, .int l0), (2, .int v5), (3, .int (l3 + (1 : Int32)))]) dX8_placed_32 rfl rfl (by decide) rfl ?_
    refine k_goto (tgt := 4) (pc := 35) h dX8_placed_35 rfl ?_
    have hk := Option.some.inj hk
    subst hk
    exact hz
  have EJ16 : ∀ (l0 : Int32) (l2 : Int32) (l3 : Int32) (z : (Int32 × Int32) ⊕ (Int32)), f_X8_placed_j16 w l0 l2 l3 = some z → Sum.elim (fun s : Int32 × Int32 => G 4 [(0, .int l0), (2, .int s.1), (3, .int s.2)] [] w) (fun r : Int32 => G 38 [(3, .int r)] [] w) z → G 16 [(0, .int l0), (2, .int l2), (3, .int l3)] [] w := by
    intro l0 l2 l3 z hk hz
    unfold f_X8_placed_j16 at hk
    refine k_iload_n (pc := 16) h 1 dX8_placed_16 rfl ?_
    refine k_iload_n (pc := 17) h 0 dX8_placed_17 rfl ?_
    refine k_iload_n (pc := 18) h 2 dX8_placed_18 rfl ?_
    obtain ⟨p4, hc3, hk⟩ := bd_some hk
    refine k_callS1 (pc := 19) h (c_X8_has hc3) cw_X8_188 ⟨⟨by decide, by decide⟩, Nat.zero_le _, Nat.zero_le _⟩ rfl (Nat.le_of_ble_eq_true rfl) dX8_placed_19 ?_
    refine k_if_eq (tgt := 29) (pc := 22) h dX8_placed_22 rfl hk (fun hc hk => ?_) (fun hc hk => ?_)
    · refine k_iconst (pc := 29) h (x := (0 : Int32)) dX8_placed_29 (by decide) ?_
      refine k_sub h [0, 2] (lv' := [(0, .int l0), (3, .int l3)]) rfl ?_
      exact EJ30 _ _ _ _ _ hk hz
    · refine k_iconst (pc := 25) h (x := (1 : Int32)) dX8_placed_25 (by decide) ?_
      refine k_goto (tgt := 30) (pc := 26) h dX8_placed_26 rfl ?_
      refine k_sub h [0, 2] (lv' := [(0, .int l0), (3, .int l3)]) rfl ?_
      exact EJ30 _ _ _ _ _ hk hz
  have LB4 : ∀ (l0 : Int32), ∀ (nn : Nat) (s : Int32 × Int32) (r : Int32), lpf (fun s : Int32 × Int32 => f_X8_placed_b4 w l0 s.1 s.2) nn s = some r → (fun r : Int32 => G 38 [(3, .int r)] [] w) r → (fun s : Int32 × Int32 => G 4 [(0, .int l0), (2, .int s.1), (3, .int s.2)] [] w) s := by
    intro l0
    refine lpf_ind (fun s : Int32 × Int32 => G 4 [(0, .int l0), (2, .int s.1), (3, .int s.2)] [] w) (fun r : Int32 => G 38 [(3, .int r)] [] w) ?_
    rintro ⟨l2, l3⟩ z hk hz
    have hk : f_X8_placed_b4 w l0 l2 l3 = some z := hk
    unfold f_X8_placed_b4 at hk
    show G 4 [(0, .int l0), (2, .int l2), (3, .int l3)] [] w
    refine k_iload_n (pc := 4) h 0 dX8_placed_4 rfl ?_
    refine k_iload_n (pc := 5) h 2 dX8_placed_5 rfl ?_
    obtain ⟨p2, hc1, hk⟩ := bd_some hk
    refine k_callS1 (pc := 6) h (c_X8_has hc1) cw_X8_188 ⟨⟨by decide, by decide⟩, Nat.zero_le _, Nat.zero_le _⟩ rfl (Nat.le_of_ble_eq_true rfl) dX8_placed_6 ?_
    refine k_if_eq (tgt := 16) (pc := 9) h dX8_placed_9 rfl hk (fun hc hk => ?_) (fun hc hk => ?_)
    · exact EJ16 _ _ _ _ hk hz
    · refine k_iload_n (pc := 12) h 1 dX8_placed_12 rfl ?_
      refine k_if_le (tgt := 38) (pc := 13) h dX8_placed_13 rfl hk (fun hc hk => ?_) (fun hc hk => ?_)
      · refine k_sub h [2] (lv' := [(3, .int l3)]) rfl ?_
        have hk := Option.some.inj hk
        subst hk
        exact hz
      · exact EJ16 _ _ _ _ hk hz
  refine k_iload_n (pc := 0) h 1 dX8_placed_0 rfl ?_
  refine k_istore_n (pc := 1) h [1, 2, 0] (lv' := [(0, .int l0), (1, .int l1), (2, .int l1)]) dX8_placed_1 rfl (by decide) rfl ?_
  refine k_iconst (pc := 2) h (x := (0 : Int32)) dX8_placed_2 (by decide) ?_
  refine k_istore_n (pc := 3) h [1, 2, 3, 0] (lv' := [(0, .int l0), (1, .int l1), (2, .int l1), (3, .int (0 : Int32))]) dX8_placed_3 rfl (by decide) rfl ?_
  refine k_sub h [0, 2, 3] (lv' := [(0, .int l0), (2, .int l1), (3, .int (0 : Int32))]) rfl ?_
  obtain ⟨r6, hl7, hk⟩ := bd_some hk
  refine LB4 _ _ _ _ hl7 ?_
  show G 38 [(3, .int r6)] [] w
  refine k_iload_n (pc := 38) h 0 dX8_placed_38 rfl ?_
  have hk := Option.some.inj hk
  subst hk
  exact k_iret (pc := 39) h dX8_placed_39 ⟨rfl, rfl, rfl, rfl, rfl, ⟨.int, rfl, rfl⟩⟩
def f_X8_question_j29 (w : WW) : Option (Int32 × WW) := (f_X8_bad w).bind (fun p4 => some (p4.1, p4.2))
def f_X8_question (w : WW) (l1 : Int32) (l2 : Int32) (l3 : Int32) : Option (Int32 × WW) := (f_X8_in w l1 (0 : Int32) (5 : Int32)).bind (fun p2 => if p2 = 0 then f_X8_question_j29 w else (f_X8_in w l2 (0 : Int32) (15 : Int32)).bind (fun p6 => if p6 = 0 then f_X8_question_j29 w else (f_X8_in w l3 (0 : Int32) (99 : Int32)).bind (fun p8 => if p8 = 0 then f_X8_question_j29 w else if (w.1 46 2) = (7 : Int32) then (f_X8_full w).bind (fun p12 => some (p12.1, p12.2)) else (f_X8_add w l1 l2 l3).bind (fun p10 => some (p10.1, p10.2)))))
set_option maxRecDepth 20000 in
set_option maxHeartbeats 4000000 in
theorem c_X8_question {w : WW} {l1 : Int32} {l2 : Int32} {l3 : Int32} {z : Int32 × WW} (hk : f_X8_question w l1 l2 l3 = some z) : Cn 1 yX8_question cX8_question 4 (some .int) LAY [.ref 46, .int l1, .int l2, .int l3] w (some (.int z.1)) z.2 := by
  refine Cn.of (by decide +kernel) (Nat.le_of_ble_eq_true rfl) (fun G h => ?_)
  have h : Rules cX8_question RX8 "question" 4 (rmd 1 0 0) none _ _ LAY 0 0 G := h
  show G 0 [(0, .ref 46), (1, .int l1), (2, .int l2), (3, .int l3)] [] w
  unfold f_X8_question at hk
  have EJ29 : ∀ (w : WW), f_X8_question_j29 w = some z → G 29 [(0, .ref 46)] [] w := by
    intro w hk
    unfold f_X8_question_j29 at hk
    refine k_aload_n (pc := 29) h 0 dX8_question_29 rfl ?_
    obtain ⟨p4, hc3, hk⟩ := bd_some hk
    refine k_callV1 (pc := 30) h (c_X8_bad hc3) cw_X8_88 ly_46 rfl ⟨⟨by decide, by decide⟩, Nat.zero_le _, Nat.zero_le _⟩ rfl (Nat.le_of_ble_eq_true rfl) dX8_question_30 ?_
    have hk := Option.some.inj hk
    subst hk
    exact k_iret (pc := 33) h dX8_question_33 ⟨rfl, rfl, rfl, rfl, rfl, ⟨.int, rfl, rfl⟩⟩
  refine k_iload_n (pc := 0) h 1 dX8_question_0 rfl ?_
  refine k_iconst (pc := 1) h (x := (0 : Int32)) dX8_question_1 (by decide) ?_
  refine k_iconst (pc := 2) h (x := (5 : Int32)) dX8_question_2 (by decide) ?_
  obtain ⟨p2, hc1, hk⟩ := bd_some hk
  refine k_callS1 (pc := 3) h (c_X8_in hc1) cw_X8_84 ⟨⟨by decide, by decide⟩, Nat.zero_le _, Nat.zero_le _⟩ rfl (Nat.le_of_ble_eq_true rfl) dX8_question_3 ?_
  refine k_if_eq (tgt := 29) (pc := 6) h dX8_question_6 rfl hk (fun hc hk => ?_) (fun hc hk => ?_)
  · refine k_sub h [0] (lv' := [(0, .ref 46)]) rfl ?_
    exact EJ29 _ hk
  · refine k_iload_n (pc := 9) h 2 dX8_question_9 rfl ?_
    refine k_iconst (pc := 10) h (x := (0 : Int32)) dX8_question_10 (by decide) ?_
    refine k_bipush (pc := 11) h (x := (15 : Int32)) dX8_question_11 (by decide) ?_
    obtain ⟨p6, hc5, hk⟩ := bd_some hk
    refine k_callS1 (pc := 13) h (c_X8_in hc5) cw_X8_84 ⟨⟨by decide, by decide⟩, Nat.zero_le _, Nat.zero_le _⟩ rfl (Nat.le_of_ble_eq_true rfl) dX8_question_13 ?_
    refine k_if_eq (tgt := 29) (pc := 16) h dX8_question_16 rfl hk (fun hc hk => ?_) (fun hc hk => ?_)
    · refine k_sub h [0] (lv' := [(0, .ref 46)]) rfl ?_
      exact EJ29 _ hk
    · refine k_iload_n (pc := 19) h 3 dX8_question_19 rfl ?_
      refine k_iconst (pc := 20) h (x := (0 : Int32)) dX8_question_20 (by decide) ?_
      refine k_bipush (pc := 21) h (x := (99 : Int32)) dX8_question_21 (by decide) ?_
      obtain ⟨p8, hc7, hk⟩ := bd_some hk
      refine k_callS1 (pc := 23) h (c_X8_in hc7) cw_X8_84 ⟨⟨by decide, by decide⟩, Nat.zero_le _, Nat.zero_le _⟩ rfl (Nat.le_of_ble_eq_true rfl) dX8_question_23 ?_
      refine k_if_ne (tgt := 34) (pc := 26) h dX8_question_26 rfl hk (fun hc hk => ?_) (fun hc hk => ?_)
      · refine k_aload_n (pc := 34) h 0 dX8_question_34 rfl ?_
        refine k_geti (pc := 35) h fl_X8_75 ly_46 rfl dX8_question_35 ?_
        refine k_bipush (pc := 38) h (x := (7 : Int32)) dX8_question_38 (by decide) ?_
        refine k_icmp_ne (tgt := 50) (pc := 40) h dX8_question_40 rfl hk (fun hc hk => ?_) (fun hc hk => ?_)
        · refine k_aload_n (pc := 50) h 0 dX8_question_50 rfl ?_
          refine k_iload_n (pc := 51) h 1 dX8_question_51 rfl ?_
          refine k_iload_n (pc := 52) h 2 dX8_question_52 rfl ?_
          refine k_iload_n (pc := 53) h 3 dX8_question_53 rfl ?_
          obtain ⟨p10, hc9, hk⟩ := bd_some hk
          refine k_callV1 (pc := 54) h (c_X8_add hc9) cw_X8_99 ly_46 rfl ⟨⟨by decide, by decide⟩, Nat.zero_le _, Nat.zero_le _⟩ rfl (Nat.le_of_ble_eq_true rfl) dX8_question_54 ?_
          have hk := Option.some.inj hk
          subst hk
          exact k_iret (pc := 57) h dX8_question_57 ⟨rfl, rfl, rfl, rfl, rfl, ⟨.int, rfl, rfl⟩⟩
        · refine k_aload_n (pc := 43) h 0 dX8_question_43 rfl ?_
          obtain ⟨p12, hc11, hk⟩ := bd_some hk
          refine k_callV1 (pc := 44) h (c_X8_full hc11) cw_X8_96 ly_46 rfl ⟨⟨by decide, by decide⟩, Nat.zero_le _, Nat.zero_le _⟩ rfl (Nat.le_of_ble_eq_true rfl) dX8_question_44 ?_
          refine k_goto (tgt := 57) (pc := 47) h dX8_question_47 rfl ?_
          have hk := Option.some.inj hk
          subst hk
          exact k_iret (pc := 57) h dX8_question_57 ⟨rfl, rfl, rfl, rfl, rfl, ⟨.int, rfl, rfl⟩⟩
      · refine k_sub h [0] (lv' := [(0, .ref 46)]) rfl ?_
        exact EJ29 _ hk
def f_X8_skip_b0 (w : WW) : Option ((WW) ⊕ (WW)) := (f_X8_here w).bind (fun p2 => if p2 = (32 : Int32) then stI w 46 11 ((w.1 46 11) + (1 : Int32)) (fun u3 => some (.inl u3)) else some (.inr w))
def f_X8_skip (w : WW) : Option (WW) := (lpf (fun s : WW => f_X8_skip_b0 s) FU w).bind (fun r4 => some r4)
set_option maxRecDepth 20000 in
set_option maxHeartbeats 4000000 in
theorem c_X8_skip {w : WW} {z : WW} (hk : f_X8_skip w = some z) : Cn 1 yX8_skip cX8_skip 1 none LAY [.ref 46] w none z := by
  refine Cn.of (by decide +kernel) (Nat.le_of_ble_eq_true rfl) (fun G h => ?_)
  have h : Rules cX8_skip RX8 "skip" 1 (rmd 1 0 0) none _ _ LAY 0 0 G := h
  show G 0 [(0, .ref 46)] [] w
  unfold f_X8_skip at hk
  have LB0 : ∀ (nn : Nat) (s : WW) (r : WW), lpf (fun s : WW => f_X8_skip_b0 s) nn s = some r → (fun r : WW => G 22 [] [] r) r → (fun s : WW => G 0 [(0, .ref 46)] [] s) s := by
    refine lpf_ind (fun s : WW => G 0 [(0, .ref 46)] [] s) (fun r : WW => G 22 [] [] r) ?_
    rintro w z hk hz
    have hk : f_X8_skip_b0 w = some z := hk
    unfold f_X8_skip_b0 at hk
    show G 0 [(0, .ref 46)] [] w
    refine k_aload_n (pc := 0) h 0 dX8_skip_0 rfl ?_
    obtain ⟨p2, hc1, hk⟩ := bd_some hk
    refine k_callV1 (pc := 1) h (c_X8_here hc1) cw_X8_112 ly_46 rfl ⟨⟨by decide, by decide⟩, Nat.zero_le _, Nat.zero_le _⟩ rfl (Nat.le_of_ble_eq_true rfl) dX8_skip_1 ?_
    refine k_bipush (pc := 4) h (x := (32 : Int32)) dX8_skip_4 (by decide) ?_
    refine k_icmp_ne (tgt := 22) (pc := 6) h dX8_skip_6 rfl hk (fun hc hk => ?_) (fun hc hk => ?_)
    · refine k_sub h [] (lv' := []) rfl ?_
      have hk := Option.some.inj hk
      subst hk
      exact hz
    · refine k_aload_n (pc := 9) h 0 dX8_skip_9 rfl ?_
      refine k_dup (pc := 10) h dX8_skip_10 rfl ?_
      refine k_geti (pc := 11) h fl_X8_109 ly_46 rfl dX8_skip_11 ?_
      refine k_iconst (pc := 14) h (x := (1 : Int32)) dX8_skip_14 (by decide) ?_
      refine k_iadd (pc := 15) h dX8_skip_15 ?_
      refine k_puti (pc := 16) h fl_X8_109 ly_46 rfl dX8_skip_16 hk (fun u3 hk => ?_)
      refine k_goto (tgt := 0) (pc := 19) h dX8_skip_19 rfl ?_
      have hk := Option.some.inj hk
      subst hk
      exact hz
  obtain ⟨r4, hl5, hk⟩ := bd_some hk
  refine LB0 _ _ _ hl5 ?_
  show G 22 [] [] r4
  have hk := Option.some.inj hk
  subst hk
  exact k_vret (pc := 22) h dX8_skip_22 ⟨rfl, rfl, rfl, rfl, rfl, rfl⟩
def f_X8_status (w : WW) (l1 : Int32) : Option (Int32 × WW) := (f_X8_in w l1 (0 : Int32) (2 : Int32)).bind (fun p2 => if p2 = 0 then gd (inb (0 : Int32) 3) (gd (inb (0 : Int32) 3) (stI w 47 ((0 : Int32)).toNatClampNeg ((w.1 47 ((0 : Int32)).toNatClampNeg) + (1 : Int32)) (fun u3 => some ((-1 : Int32), u3)))) else gd (inb l1 3) (some ((w.1 47 (l1).toNatClampNeg), w)))
set_option maxRecDepth 20000 in
set_option maxHeartbeats 4000000 in
theorem c_X8_status {w : WW} {l1 : Int32} {z : Int32 × WW} (hk : f_X8_status w l1 = some z) : Cn 1 yX8_status cX8_status 2 (some .int) LAY [.ref 46, .int l1] w (some (.int z.1)) z.2 := by
  refine Cn.of (by decide +kernel) (Nat.le_of_ble_eq_true rfl) (fun G h => ?_)
  have h : Rules cX8_status RX8 "status" 2 (rmd 1 0 0) none _ _ LAY 0 0 G := h
  show G 0 [(0, .ref 46), (1, .int l1)] [] w
  unfold f_X8_status at hk
  refine k_iload_n (pc := 0) h 1 dX8_status_0 rfl ?_
  refine k_iconst (pc := 1) h (x := (0 : Int32)) dX8_status_1 (by decide) ?_
  refine k_iconst (pc := 2) h (x := (2 : Int32)) dX8_status_2 (by decide) ?_
  obtain ⟨p2, hc1, hk⟩ := bd_some hk
  refine k_callS1 (pc := 3) h (c_X8_in hc1) cw_X8_84 ⟨⟨by decide, by decide⟩, Nat.zero_le _, Nat.zero_le _⟩ rfl (Nat.le_of_ble_eq_true rfl) dX8_status_3 ?_
  refine k_if_ne (tgt := 21) (pc := 6) h dX8_status_6 rfl hk (fun hc hk => ?_) (fun hc hk => ?_)
  · refine k_aload_n (pc := 21) h 0 dX8_status_21 rfl ?_
    refine k_getr (pc := 22) h fl_X8_1 ly_46 rfl dX8_status_22 ?_
    refine k_iload_n (pc := 25) h 1 dX8_status_25 rfl ?_
    refine k_iald (pc := 26) h ly_47 dX8_status_26 hk (fun hk => ?_)
    have hk := Option.some.inj hk
    subst hk
    exact k_iret (pc := 27) h dX8_status_27 ⟨rfl, rfl, rfl, rfl, rfl, ⟨.int, rfl, rfl⟩⟩
  · refine k_aload_n (pc := 9) h 0 dX8_status_9 rfl ?_
    refine k_getr (pc := 10) h fl_X8_1 ly_46 rfl dX8_status_10 ?_
    refine k_iconst (pc := 13) h (x := (0 : Int32)) dX8_status_13 (by decide) ?_
    refine k_dup2 (pc := 14) h dX8_status_14 rfl rfl ?_
    refine k_iald (pc := 15) h ly_47 dX8_status_15 hk (fun hk => ?_)
    refine k_iconst (pc := 16) h (x := (1 : Int32)) dX8_status_16 (by decide) ?_
    refine k_iadd (pc := 17) h dX8_status_17 ?_
    refine k_iast (pc := 18) h ly_47 dX8_status_18 hk (fun u3 hk => ?_)
    refine k_iconst (pc := 19) h (x := (-1 : Int32)) dX8_status_19 (by decide) ?_
    have hk := Option.some.inj hk
    subst hk
    exact k_iret (pc := 20) h dX8_status_20 ⟨rfl, rfl, rfl, rfl, rfl, ⟨.int, rfl, rfl⟩⟩
def f_X8_type (w : WW) (l1 : Int32) : Option (Int32 × WW) := (f_X8_in w l1 (0 : Int32) (127 : Int32)).bind (fun p2 => if p2 = 0 then (f_X8_bad w).bind (fun p8 => some (p8.1, p8.2)) else if (w.1 46 10) = (150 : Int32) then (f_X8_full w).bind (fun p6 => some (p6.1, p6.2)) else gd (inb (w.1 46 10) 150) (stI w 53 ((w.1 46 10)).toNatClampNeg l1 (fun u3 => stI u3 46 10 ((u3.1 46 10) + (1 : Int32)) (fun u4 => some ((u4.1 46 10), u4)))))
set_option maxRecDepth 20000 in
set_option maxHeartbeats 4000000 in
theorem c_X8_type {w : WW} {l1 : Int32} {z : Int32 × WW} (hk : f_X8_type w l1 = some z) : Cn 1 yX8_type cX8_type 2 (some .int) LAY [.ref 46, .int l1] w (some (.int z.1)) z.2 := by
  refine Cn.of (by decide +kernel) (Nat.le_of_ble_eq_true rfl) (fun G h => ?_)
  have h : Rules cX8_type RX8 "type" 2 (rmd 1 0 0) none _ _ LAY 0 0 G := h
  show G 0 [(0, .ref 46), (1, .int l1)] [] w
  unfold f_X8_type at hk
  refine k_iload_n (pc := 0) h 1 dX8_type_0 rfl ?_
  refine k_iconst (pc := 1) h (x := (0 : Int32)) dX8_type_1 (by decide) ?_
  refine k_bipush (pc := 2) h (x := (127 : Int32)) dX8_type_2 (by decide) ?_
  obtain ⟨p2, hc1, hk⟩ := bd_some hk
  refine k_callS1 (pc := 4) h (c_X8_in hc1) cw_X8_84 ⟨⟨by decide, by decide⟩, Nat.zero_le _, Nat.zero_le _⟩ rfl (Nat.le_of_ble_eq_true rfl) dX8_type_4 ?_
  refine k_if_ne (tgt := 15) (pc := 7) h dX8_type_7 rfl hk (fun hc hk => ?_) (fun hc hk => ?_)
  · refine k_aload_n (pc := 15) h 0 dX8_type_15 rfl ?_
    refine k_geti (pc := 16) h fl_X8_106 ly_46 rfl dX8_type_16 ?_
    refine k_sipush (pc := 19) h (x := (150 : Int32)) dX8_type_19 (by decide) ?_
    refine k_icmp_ne (tgt := 30) (pc := 22) h dX8_type_22 rfl hk (fun hc hk => ?_) (fun hc hk => ?_)
    · refine k_aload_n (pc := 30) h 0 dX8_type_30 rfl ?_
      refine k_getr (pc := 31) h fl_X8_32 ly_46 rfl dX8_type_31 ?_
      refine k_aload_n (pc := 34) h 0 dX8_type_34 rfl ?_
      refine k_geti (pc := 35) h fl_X8_106 ly_46 rfl dX8_type_35 ?_
      refine k_iload_n (pc := 38) h 1 dX8_type_38 rfl ?_
      refine k_iast (pc := 39) h ly_53 dX8_type_39 hk (fun u3 hk => ?_)
      refine k_aload_n (pc := 40) h 0 dX8_type_40 rfl ?_
      refine k_dup (pc := 41) h dX8_type_41 rfl ?_
      refine k_geti (pc := 42) h fl_X8_106 ly_46 rfl dX8_type_42 ?_
      refine k_iconst (pc := 45) h (x := (1 : Int32)) dX8_type_45 (by decide) ?_
      refine k_iadd (pc := 46) h dX8_type_46 ?_
      refine k_puti (pc := 47) h fl_X8_106 ly_46 rfl dX8_type_47 hk (fun u4 hk => ?_)
      refine k_aload_n (pc := 50) h 0 dX8_type_50 rfl ?_
      refine k_geti (pc := 51) h fl_X8_106 ly_46 rfl dX8_type_51 ?_
      have hk := Option.some.inj hk
      subst hk
      exact k_iret (pc := 54) h dX8_type_54 ⟨rfl, rfl, rfl, rfl, rfl, ⟨.int, rfl, rfl⟩⟩
    · refine k_aload_n (pc := 25) h 0 dX8_type_25 rfl ?_
      obtain ⟨p6, hc5, hk⟩ := bd_some hk
      refine k_callV1 (pc := 26) h (c_X8_full hc5) cw_X8_96 ly_46 rfl ⟨⟨by decide, by decide⟩, Nat.zero_le _, Nat.zero_le _⟩ rfl (Nat.le_of_ble_eq_true rfl) dX8_type_26 ?_
      have hk := Option.some.inj hk
      subst hk
      exact k_iret (pc := 29) h dX8_type_29 ⟨rfl, rfl, rfl, rfl, rfl, ⟨.int, rfl, rfl⟩⟩
  · refine k_aload_n (pc := 10) h 0 dX8_type_10 rfl ?_
    obtain ⟨p8, hc7, hk⟩ := bd_some hk
    refine k_callV1 (pc := 11) h (c_X8_bad hc7) cw_X8_88 ly_46 rfl ⟨⟨by decide, by decide⟩, Nat.zero_le _, Nat.zero_le _⟩ rfl (Nat.le_of_ble_eq_true rfl) dX8_type_11 ?_
    have hk := Option.some.inj hk
    subst hk
    exact k_iret (pc := 14) h dX8_type_14 ⟨rfl, rfl, rfl, rfl, rfl, ⟨.int, rfl, rfl⟩⟩
def f_X8_undo_b42 (l1 : Int32) (l2 : Int32) (w : WW) : Option ((Int32 × WW) ⊕ (WW)) := if (16 : Int32) ≤ l2 then some (.inr w) else gd (inb ((l1 + (1 : Int32)) + l2) 136) (gd (inb l2 16) (stI w 52 (l2).toNatClampNeg (w.1 56 (((l1 + (1 : Int32)) + l2)).toNatClampNeg) (fun u4 => some (.inl ((l2 + (1 : Int32)), u4)))))
def f_X8_undo (w : WW) : Option (Int32 × WW) := if (w.1 46 18) = 0 then (f_X8_no w).bind (fun p8 => some (p8.1, p8.2)) else stI w 46 18 ((w.1 46 18) - (1 : Int32)) (fun u1 => nmv ((17 : Int32) * (u1.1 46 18)) (fun v2 => gd (inb v2 136) (stI u1 46 3 (u1.1 56 (v2).toNatClampNeg) (fun u3 => (lpf (fun s : Int32 × WW => f_X8_undo_b42 v2 s.1 s.2) FU ((0 : Int32), u3)).bind (fun r5 => some ((r5.1 46 3), r5))))))
set_option maxRecDepth 20000 in
set_option maxHeartbeats 4000000 in
theorem c_X8_undo {w : WW} {z : Int32 × WW} (hk : f_X8_undo w = some z) : Cn 1 yX8_undo cX8_undo 3 (some .int) LAY [.ref 46] w (some (.int z.1)) z.2 := by
  refine Cn.of (by decide +kernel) (Nat.le_of_ble_eq_true rfl) (fun G h => ?_)
  have h : Rules cX8_undo RX8 "undo" 3 (rmd 1 0 0) none _ _ LAY 0 0 G := h
  show G 0 [(0, .ref 46)] [] w
  unfold f_X8_undo at hk
  have LB42 : ∀ (l1 : Int32), ∀ (nn : Nat) (s : Int32 × WW) (r : WW), lpf (fun s : Int32 × WW => f_X8_undo_b42 l1 s.1 s.2) nn s = some r → (fun r : WW => G 70 [(0, .ref 46)] [] r) r → (fun s : Int32 × WW => G 42 [(0, .ref 46), (1, .int l1), (2, .int s.1)] [] s.2) s := by
    intro l1
    refine lpf_ind (fun s : Int32 × WW => G 42 [(0, .ref 46), (1, .int l1), (2, .int s.1)] [] s.2) (fun r : WW => G 70 [(0, .ref 46)] [] r) ?_
    rintro ⟨l2, w⟩ z hk hz
    have hk : f_X8_undo_b42 l1 l2 w = some z := hk
    unfold f_X8_undo_b42 at hk
    show G 42 [(0, .ref 46), (1, .int l1), (2, .int l2)] [] w
    refine k_iload_n (pc := 42) h 2 dX8_undo_42 rfl ?_
    refine k_bipush (pc := 43) h (x := (16 : Int32)) dX8_undo_43 (by decide) ?_
    refine k_icmp_ge (tgt := 70) (pc := 45) h dX8_undo_45 rfl hk (fun hc hk => ?_) (fun hc hk => ?_)
    · refine k_sub h [0] (lv' := [(0, .ref 46)]) rfl ?_
      have hk := Option.some.inj hk
      subst hk
      exact hz
    · refine k_aload_n (pc := 48) h 0 dX8_undo_48 rfl ?_
      refine k_getr (pc := 49) h fl_X8_29 ly_46 rfl dX8_undo_49 ?_
      refine k_iload_n (pc := 52) h 2 dX8_undo_52 rfl ?_
      refine k_aload_n (pc := 53) h 0 dX8_undo_53 rfl ?_
      refine k_getr (pc := 54) h fl_X8_41 ly_46 rfl dX8_undo_54 ?_
      refine k_iload_n (pc := 57) h 1 dX8_undo_57 rfl ?_
      refine k_iconst (pc := 58) h (x := (1 : Int32)) dX8_undo_58 (by decide) ?_
      refine k_iadd (pc := 59) h dX8_undo_59 ?_
      refine k_iload_n (pc := 60) h 2 dX8_undo_60 rfl ?_
      refine k_iadd (pc := 61) h dX8_undo_61 ?_
      refine k_iald (pc := 62) h ly_56 dX8_undo_62 hk (fun hk => ?_)
      refine k_iast (pc := 63) h ly_52 dX8_undo_63 hk (fun u4 hk => ?_)
      refine k_iinc (pc := 64) h 2 [1, 2, 0] (v := (l2 + (1 : Int32))) (lv' := [(0, .ref 46), (1, .int l1), (2, .int (l2 + (1 : Int32)))]) dX8_undo_64 rfl rfl (by decide) rfl ?_
      refine k_goto (tgt := 42) (pc := 67) h dX8_undo_67 rfl ?_
      have hk := Option.some.inj hk
      subst hk
      exact hz
  refine k_aload_n (pc := 0) h 0 dX8_undo_0 rfl ?_
  refine k_geti (pc := 1) h fl_X8_81 ly_46 rfl dX8_undo_1 ?_
  refine k_if_ne (tgt := 12) (pc := 4) h dX8_undo_4 rfl hk (fun hc hk => ?_) (fun hc hk => ?_)
  · refine k_aload_n (pc := 12) h 0 dX8_undo_12 rfl ?_
    refine k_dup (pc := 13) h dX8_undo_13 rfl ?_
    refine k_geti (pc := 14) h fl_X8_81 ly_46 rfl dX8_undo_14 ?_
    refine k_iconst (pc := 17) h (x := (1 : Int32)) dX8_undo_17 (by decide) ?_
    refine k_isub (pc := 18) h dX8_undo_18 ?_
    refine k_puti (pc := 19) h fl_X8_81 ly_46 rfl dX8_undo_19 hk (fun u1 hk => ?_)
    refine k_bipush (pc := 22) h (x := (17 : Int32)) dX8_undo_22 (by decide) ?_
    refine k_aload_n (pc := 24) h 0 dX8_undo_24 rfl ?_
    refine k_geti (pc := 25) h fl_X8_81 ly_46 rfl dX8_undo_25 ?_
    refine k_imul (pc := 28) h dX8_undo_28 ?_
    refine k_nmi (pc := 29) h hk (fun v2 hk => ?_)
    refine k_istore_n (pc := 29) h [1, 0] (lv' := [(0, .ref 46), (1, .int v2)]) dX8_undo_29 rfl (by decide) rfl ?_
    refine k_aload_n (pc := 30) h 0 dX8_undo_30 rfl ?_
    refine k_aload_n (pc := 31) h 0 dX8_undo_31 rfl ?_
    refine k_getr (pc := 32) h fl_X8_41 ly_46 rfl dX8_undo_32 ?_
    refine k_iload_n (pc := 35) h 1 dX8_undo_35 rfl ?_
    refine k_iald (pc := 36) h ly_56 dX8_undo_36 hk (fun hk => ?_)
    refine k_puti (pc := 37) h fl_X8_78 ly_46 rfl dX8_undo_37 hk (fun u3 hk => ?_)
    refine k_iconst (pc := 40) h (x := (0 : Int32)) dX8_undo_40 (by decide) ?_
    refine k_istore_n (pc := 41) h [1, 2, 0] (lv' := [(0, .ref 46), (1, .int v2), (2, .int (0 : Int32))]) dX8_undo_41 rfl (by decide) rfl ?_
    obtain ⟨r5, hl6, hk⟩ := bd_some hk
    refine LB42 _ _ _ _ hl6 ?_
    show G 70 [(0, .ref 46)] [] r5
    refine k_aload_n (pc := 70) h 0 dX8_undo_70 rfl ?_
    refine k_geti (pc := 71) h fl_X8_78 ly_46 rfl dX8_undo_71 ?_
    have hk := Option.some.inj hk
    subst hk
    exact k_iret (pc := 74) h dX8_undo_74 ⟨rfl, rfl, rfl, rfl, rfl, ⟨.int, rfl, rfl⟩⟩
  · refine k_aload_n (pc := 7) h 0 dX8_undo_7 rfl ?_
    obtain ⟨p8, hc7, hk⟩ := bd_some hk
    refine k_callV1 (pc := 8) h (c_X8_no hc7) cw_X8_185 ly_46 rfl ⟨⟨by decide, by decide⟩, Nat.zero_le _, Nat.zero_le _⟩ rfl (Nat.le_of_ble_eq_true rfl) dX8_undo_8 ?_
    have hk := Option.some.inj hk
    subst hk
    exact k_iret (pc := 11) h dX8_undo_11 ⟨rfl, rfl, rfl, rfl, rfl, ⟨.int, rfl, rfl⟩⟩
def f_X8_weightOf_j31 (w : WW) (l1 : Int32) (l3 : Int32) (s0 : Int32) (s1 : Int32) : Option ((Int32 × Int32) ⊕ (Int32)) := nmv (s1 + s0) (fun v3 => some (.inl (v3, (l3 + (1 : Int32)))))
def f_X8_weightOf_b4 (w : WW) (l1 : Int32) (l2 : Int32) (l3 : Int32) : Option ((Int32 × Int32) ⊕ (Int32)) := if (w.1 46 1) ≤ l3 then some (.inr l2) else (f_X8_has w l1 l3).bind (fun p2 => if p2 = 0 then f_X8_weightOf_j31 w l1 l3 (0 : Int32) l2 else gd (inb l3 16) (f_X8_weightOf_j31 w l1 l3 (w.1 48 (l3).toNatClampNeg) l2))
def f_X8_weightOf (w : WW) (l1 : Int32) : Option (Int32) := (lpf (fun s : Int32 × Int32 => f_X8_weightOf_b4 w l1 s.1 s.2) FU ((0 : Int32), (0 : Int32))).bind (fun r4 => some (r4))
set_option maxRecDepth 20000 in
set_option maxHeartbeats 4000000 in
theorem c_X8_weightOf {w : WW} {l1 : Int32} {z : Int32} (hk : f_X8_weightOf w l1 = some z) : Cn 1 yX8_weightOf cX8_weightOf 4 (some .int) LAY [.ref 46, .int l1] w (some (.int z)) w := by
  refine Cn.of (by decide +kernel) (Nat.le_of_ble_eq_true rfl) (fun G h => ?_)
  have h : Rules cX8_weightOf RX8 "weightOf" 4 (rmd 1 0 0) none _ _ LAY 0 0 G := h
  show G 0 [(0, .ref 46), (1, .int l1)] [] w
  unfold f_X8_weightOf at hk
  have EJ31 : ∀ (l1 : Int32) (l3 : Int32) (s0 : Int32) (s1 : Int32) (z : (Int32 × Int32) ⊕ (Int32)), f_X8_weightOf_j31 w l1 l3 s0 s1 = some z → Sum.elim (fun s : Int32 × Int32 => G 4 [(0, .ref 46), (1, .int l1), (2, .int s.1), (3, .int s.2)] [] w) (fun r : Int32 => G 39 [(2, .int r)] [] w) z → G 31 [(0, .ref 46), (1, .int l1), (3, .int l3)] [.int s0, .int s1] w := by
    intro l1 l3 s0 s1 z hk hz
    unfold f_X8_weightOf_j31 at hk
    refine k_iadd (pc := 31) h dX8_weightOf_31 ?_
    refine k_nmi (pc := 32) h hk (fun v3 hk => ?_)
    refine k_istore_n (pc := 32) h [1, 2, 0, 3] (lv' := [(0, .ref 46), (1, .int l1), (2, .int v3), (3, .int l3)]) dX8_weightOf_32 rfl (by decide) rfl ?_
    refine k_iinc (pc := 33) h 3 [1, 2, 3, 0] (v := (l3 + (1 : Int32))) (lv' := [(0, .ref 46), (1, .int l1), (2, .int v3), (3, .int (l3 + (1 : Int32)))]) dX8_weightOf_33 rfl rfl (by decide) rfl ?_
    refine k_goto (tgt := 4) (pc := 36) h dX8_weightOf_36 rfl ?_
    have hk := Option.some.inj hk
    subst hk
    exact hz
  have LB4 : ∀ (l1 : Int32), ∀ (nn : Nat) (s : Int32 × Int32) (r : Int32), lpf (fun s : Int32 × Int32 => f_X8_weightOf_b4 w l1 s.1 s.2) nn s = some r → (fun r : Int32 => G 39 [(2, .int r)] [] w) r → (fun s : Int32 × Int32 => G 4 [(0, .ref 46), (1, .int l1), (2, .int s.1), (3, .int s.2)] [] w) s := by
    intro l1
    refine lpf_ind (fun s : Int32 × Int32 => G 4 [(0, .ref 46), (1, .int l1), (2, .int s.1), (3, .int s.2)] [] w) (fun r : Int32 => G 39 [(2, .int r)] [] w) ?_
    rintro ⟨l2, l3⟩ z hk hz
    have hk : f_X8_weightOf_b4 w l1 l2 l3 = some z := hk
    unfold f_X8_weightOf_b4 at hk
    show G 4 [(0, .ref 46), (1, .int l1), (2, .int l2), (3, .int l3)] [] w
    refine k_iload_n (pc := 4) h 3 dX8_weightOf_4 rfl ?_
    refine k_aload_n (pc := 5) h 0 dX8_weightOf_5 rfl ?_
    refine k_geti (pc := 6) h fl_X8_13 ly_46 rfl dX8_weightOf_6 ?_
    refine k_icmp_ge (tgt := 39) (pc := 9) h dX8_weightOf_9 rfl hk (fun hc hk => ?_) (fun hc hk => ?_)
    · refine k_sub h [2] (lv' := [(2, .int l2)]) rfl ?_
      have hk := Option.some.inj hk
      subst hk
      exact hz
    · refine k_iload_n (pc := 12) h 2 dX8_weightOf_12 rfl ?_
      refine k_iload_n (pc := 13) h 1 dX8_weightOf_13 rfl ?_
      refine k_iload_n (pc := 14) h 3 dX8_weightOf_14 rfl ?_
      obtain ⟨p2, hc1, hk⟩ := bd_some hk
      refine k_callS1 (pc := 15) h (c_X8_has hc1) cw_X8_188 ⟨⟨by decide, by decide⟩, Nat.zero_le _, Nat.zero_le _⟩ rfl (Nat.le_of_ble_eq_true rfl) dX8_weightOf_15 ?_
      refine k_if_eq (tgt := 30) (pc := 18) h dX8_weightOf_18 rfl hk (fun hc hk => ?_) (fun hc hk => ?_)
      · refine k_iconst (pc := 30) h (x := (0 : Int32)) dX8_weightOf_30 (by decide) ?_
        refine k_sub h [0, 1, 3] (lv' := [(0, .ref 46), (1, .int l1), (3, .int l3)]) rfl ?_
        exact EJ31 _ _ _ _ _ hk hz
      · refine k_aload_n (pc := 21) h 0 dX8_weightOf_21 rfl ?_
        refine k_getr (pc := 22) h fl_X8_17 ly_46 rfl dX8_weightOf_22 ?_
        refine k_iload_n (pc := 25) h 3 dX8_weightOf_25 rfl ?_
        refine k_iald (pc := 26) h ly_48 dX8_weightOf_26 hk (fun hk => ?_)
        refine k_goto (tgt := 31) (pc := 27) h dX8_weightOf_27 rfl ?_
        refine k_sub h [0, 1, 3] (lv' := [(0, .ref 46), (1, .int l1), (3, .int l3)]) rfl ?_
        exact EJ31 _ _ _ _ _ hk hz
  refine k_iconst (pc := 0) h (x := (0 : Int32)) dX8_weightOf_0 (by decide) ?_
  refine k_istore_n (pc := 1) h [1, 2, 0] (lv' := [(0, .ref 46), (1, .int l1), (2, .int (0 : Int32))]) dX8_weightOf_1 rfl (by decide) rfl ?_
  refine k_iconst (pc := 2) h (x := (0 : Int32)) dX8_weightOf_2 (by decide) ?_
  refine k_istore_n (pc := 3) h [1, 2, 3, 0] (lv' := [(0, .ref 46), (1, .int l1), (2, .int (0 : Int32)), (3, .int (0 : Int32))]) dX8_weightOf_3 rfl (by decide) rfl ?_
  obtain ⟨r4, hl5, hk⟩ := bd_some hk
  refine LB4 _ _ _ _ hl5 ?_
  show G 39 [(2, .int r4)] [] w
  refine k_iload_n (pc := 39) h 0 dX8_weightOf_39 rfl ?_
  have hk := Option.some.inj hk
  subst hk
  exact k_iret (pc := 40) h dX8_weightOf_40 ⟨rfl, rfl, rfl, rfl, rfl, ⟨.int, rfl, rfl⟩⟩
def f_J0_checkIndex_df160 (w : WW) (l0 : Int32) (l1 : Int32) : Option (Unit) := (f_J3_checkIndex_8e157 w l0 l1).bind (fun p3 => some ())
set_option maxRecDepth 20000 in
set_option maxHeartbeats 4000000 in
theorem c_J0_checkIndex_df160 {lay : List LyS} {w : WW} {l0 : Int32} {l1 : Int32} {z : Unit} (hk : f_J0_checkIndex_df160 w l0 l1 = some z) : Cn 2 yJ0_checkIndex_df160 cJ0_checkIndex_df160 2 none lay [.int l0, .int l1] w none w := by
  refine Cn.of (by decide +kernel) (Nat.le_of_ble_eq_true rfl) (fun G h => ?_)
  have h : Rules cJ0_checkIndex_df160 RJ0 "checkIndex" 2 (rmd 2 0 0) none _ _ lay 0 0 G := h
  show G 0 [(0, .int l0), (1, .int l1)] [] w
  unfold f_J0_checkIndex_df160 at hk
  refine k_iload_n (pc := 0) h 0 dJ0_checkIndex_df160_0 rfl ?_
  refine k_iload_n (pc := 1) h 1 dJ0_checkIndex_df160_1 rfl ?_
  refine k_getsF (pc := 2) h fj_J0_1053 dJ0_checkIndex_df160_2 (fun vF1 hvF1 => ?_)
  obtain ⟨p3, hc2, hk⟩ := bd_some hk
  refine k_callS1 (pc := 5) h (c_J3_checkIndex_8e157 hvF1 hc2) cw_J0_1059 ⟨⟨by decide, by decide⟩, Nat.zero_le _, Nat.zero_le _⟩ rfl (Nat.le_of_ble_eq_true rfl) dJ0_checkIndex_df160_5 ?_
  refine k_pop (pc := 8) h dJ0_checkIndex_df160_8 rfl ?_
  have hk := Option.some.inj hk
  subst hk
  exact k_vret (pc := 9) h dJ0_checkIndex_df160_9 ⟨rfl, rfl, rfl, rfl, rfl, rfl⟩
def f_X2_chooseNext_j98 (b : Nat) (w : WW) (l2 : Int32) (l3 : Int32) (l4 : Int32) : Option ((Int32 × WW) ⊕ (WW)) := some (.inl ((l4 + (1 : Int32)), w))
def f_X2_chooseNext_j78 (b : Nat) (w : WW) (l2 : Int32) (l3 : Int32) (l4 : Int32) (l5 : Int32) : Option ((Int32 × WW) ⊕ (WW)) := stI w 40 1 l4 (fun u5 => gd (inb l4 7) (stI u5 40 0 ((u5.1 (b + 4) (l4).toNatClampNeg) + l5) (fun u6 => f_X2_chooseNext_j98 b u6 l2 l3 l4)))
def f_X2_chooseNext_b3 (b : Nat) (l2 : Int32) (l3 : Int32) (l4 : Int32) (w : WW) : Option ((Int32 × WW) ⊕ (WW)) := if (w.1 b 1) ≤ l4 then some (.inr w) else if ((shr32 l2 l4) &&& (1 : Int32)) = 0 then (f_X6_howManyParts b w l4 l3).bind (fun p2 => if p2 ≤ (1 : Int32) then f_X2_chooseNext_j98 b w l2 l3 l4 else (f_X2_worstOf 41 b w l2 l4 l3).bind (fun p4 => if p4 = (-1 : Int32) then f_X2_chooseNext_j98 b w l2 l3 l4 else if (w.1 40 1) = (-1 : Int32) then f_X2_chooseNext_j78 b w l2 l3 l4 p4 else gd (inb l4 7) (if (w.1 40 0) ≤ ((w.1 (b + 4) (l4).toNatClampNeg) + p4) then f_X2_chooseNext_j98 b w l2 l3 l4 else f_X2_chooseNext_j78 b w l2 l3 l4 p4))) else f_X2_chooseNext_j98 b w l2 l3 l4
def f_X2_chooseNext (b : Nat) (w : WW) (l2 : Int32) (l3 : Int32) : Option (WW) := (lpf (fun s : Int32 × WW => f_X2_chooseNext_b3 b l2 l3 s.1 s.2) FU ((0 : Int32), w)).bind (fun r7 => if (r7.1 40 1) = (-1 : Int32) then some r7 else (f_X2_worstOf 42 b r7 l2 (r7.1 40 1) l3).bind (fun p10 => stI r7 40 2 ((1 : Int32) + p10) (fun u11 => some u11)))
set_option maxRecDepth 20000 in
set_option maxHeartbeats 4000000 in
theorem c_X2_chooseNext {b : Nat} (hb : StAt LAY b) {w : WW} {l2 : Int32} {l3 : Int32} {z : WW} (hk : f_X2_chooseNext b w l2 l3 = some z) : Cn 2 yX2_chooseNext cX2_chooseNext 6 none LAY [.ref 40, .ref b, .int l2, .int l3] w none z := by
  refine Cn.of (by decide +kernel) (Nat.le_of_ble_eq_true rfl) (fun G h => ?_)
  have h : Rules cX2_chooseNext RX2 "chooseNext" 6 (rmd 2 0 0) none _ _ LAY 0 0 G := h
  show G 0 [(0, .ref 40), (1, .ref b), (2, .int l2), (3, .int l3)] [] w
  unfold f_X2_chooseNext at hk
  have EJ98 : ∀ (w : WW) (l2 : Int32) (l3 : Int32) (l4 : Int32) (z : (Int32 × WW) ⊕ (WW)), f_X2_chooseNext_j98 b w l2 l3 l4 = some z → Sum.elim (fun s : Int32 × WW => G 3 [(0, .ref 40), (1, .ref b), (2, .int l2), (3, .int l3), (4, .int s.1)] [] s.2) (fun r : WW => G 104 [(0, .ref 40), (1, .ref b), (2, .int l2), (3, .int l3)] [] r) z → G 98 [(0, .ref 40), (1, .ref b), (2, .int l2), (3, .int l3), (4, .int l4)] [] w := by
    intro w l2 l3 l4 z hk hz
    unfold f_X2_chooseNext_j98 at hk
    refine k_iinc (pc := 98) h 4 [1, 2, 3, 4, 0] (v := (l4 + (1 : Int32))) (lv' := [(0, .ref 40), (1, .ref b), (2, .int l2), (3, .int l3), (4, .int (l4 + (1 : Int32)))]) dX2_chooseNext_98 rfl rfl (by decide) rfl ?_
    refine k_goto (tgt := 3) (pc := 101) h dX2_chooseNext_101 rfl ?_
    have hk := Option.some.inj hk
    subst hk
    exact hz
  have EJ78 : ∀ (w : WW) (l2 : Int32) (l3 : Int32) (l4 : Int32) (l5 : Int32) (z : (Int32 × WW) ⊕ (WW)), f_X2_chooseNext_j78 b w l2 l3 l4 l5 = some z → Sum.elim (fun s : Int32 × WW => G 3 [(0, .ref 40), (1, .ref b), (2, .int l2), (3, .int l3), (4, .int s.1)] [] s.2) (fun r : WW => G 104 [(0, .ref 40), (1, .ref b), (2, .int l2), (3, .int l3)] [] r) z → G 78 [(0, .ref 40), (1, .ref b), (2, .int l2), (3, .int l3), (4, .int l4), (5, .int l5)] [] w := by
    intro w l2 l3 l4 l5 z hk hz
    unfold f_X2_chooseNext_j78 at hk
    refine k_aload_n (pc := 78) h 0 dX2_chooseNext_78 rfl ?_
    refine k_iload (pc := 79) h 4 dX2_chooseNext_79 rfl ?_
    refine k_puti (pc := 81) h fl_X2_22 ly_40 rfl dX2_chooseNext_81 hk (fun u5 hk => ?_)
    refine k_aload_n (pc := 84) h 0 dX2_chooseNext_84 rfl ?_
    refine k_aload_n (pc := 85) h 1 dX2_chooseNext_85 rfl ?_
    refine k_getr (pc := 86) h fl_X2_60 hb.1 rfl dX2_chooseNext_86 ?_
    refine k_iload (pc := 89) h 4 dX2_chooseNext_89 rfl ?_
    refine k_iald (pc := 91) h hb.2.2.2.2.1 dX2_chooseNext_91 hk (fun hk => ?_)
    refine k_iload (pc := 92) h 5 dX2_chooseNext_92 rfl ?_
    refine k_iadd (pc := 94) h dX2_chooseNext_94 ?_
    refine k_puti (pc := 95) h fl_X2_18 ly_40 rfl dX2_chooseNext_95 hk (fun u6 hk => ?_)
    refine k_sub h [0, 1, 2, 3, 4] (lv' := [(0, .ref 40), (1, .ref b), (2, .int l2), (3, .int l3), (4, .int l4)]) rfl ?_
    exact EJ98 _ _ _ _ _ hk hz
  have LB3 : ∀ (l2 : Int32) (l3 : Int32), ∀ (nn : Nat) (s : Int32 × WW) (r : WW), lpf (fun s : Int32 × WW => f_X2_chooseNext_b3 b l2 l3 s.1 s.2) nn s = some r → (fun r : WW => G 104 [(0, .ref 40), (1, .ref b), (2, .int l2), (3, .int l3)] [] r) r → (fun s : Int32 × WW => G 3 [(0, .ref 40), (1, .ref b), (2, .int l2), (3, .int l3), (4, .int s.1)] [] s.2) s := by
    intro l2 l3
    refine lpf_ind (fun s : Int32 × WW => G 3 [(0, .ref 40), (1, .ref b), (2, .int l2), (3, .int l3), (4, .int s.1)] [] s.2) (fun r : WW => G 104 [(0, .ref 40), (1, .ref b), (2, .int l2), (3, .int l3)] [] r) ?_
    rintro ⟨l4, w⟩ z hk hz
    have hk : f_X2_chooseNext_b3 b l2 l3 l4 w = some z := hk
    unfold f_X2_chooseNext_b3 at hk
    show G 3 [(0, .ref 40), (1, .ref b), (2, .int l2), (3, .int l3), (4, .int l4)] [] w
    refine k_iload (pc := 3) h 4 dX2_chooseNext_3 rfl ?_
    refine k_aload_n (pc := 5) h 1 dX2_chooseNext_5 rfl ?_
    refine k_geti (pc := 6) h fl_X2_49 hb.1 rfl dX2_chooseNext_6 ?_
    refine k_icmp_ge (tgt := 104) (pc := 9) h dX2_chooseNext_9 rfl hk (fun hc hk => ?_) (fun hc hk => ?_)
    · refine k_sub h [0, 1, 2, 3] (lv' := [(0, .ref 40), (1, .ref b), (2, .int l2), (3, .int l3)]) rfl ?_
      have hk := Option.some.inj hk
      subst hk
      exact hz
    · refine k_iload_n (pc := 12) h 2 dX2_chooseNext_12 rfl ?_
      refine k_iload (pc := 13) h 4 dX2_chooseNext_13 rfl ?_
      refine k_ishr (pc := 15) h dX2_chooseNext_15 ?_
      refine k_iconst (pc := 16) h (x := (1 : Int32)) dX2_chooseNext_16 (by decide) ?_
      refine k_iand (pc := 17) h dX2_chooseNext_17 ?_
      refine k_if_ne (tgt := 98) (pc := 18) h dX2_chooseNext_18 rfl hk (fun hc hk => ?_) (fun hc hk => ?_)
      · exact EJ98 _ _ _ _ _ hk hz
      · refine k_aload_n (pc := 21) h 1 dX2_chooseNext_21 rfl ?_
        refine k_iload (pc := 22) h 4 dX2_chooseNext_22 rfl ?_
        refine k_iload_n (pc := 24) h 3 dX2_chooseNext_24 rfl ?_
        obtain ⟨p2, hc1, hk⟩ := bd_some hk
        refine k_callV1 (pc := 25) h (c_X6_howManyParts hb hc1) cw_X2_52 hb.1 rfl ⟨⟨by decide, by decide⟩, Nat.zero_le _, Nat.zero_le _⟩ rfl (Nat.le_of_ble_eq_true rfl) dX2_chooseNext_25 ?_
        refine k_iconst (pc := 28) h (x := (1 : Int32)) dX2_chooseNext_28 (by decide) ?_
        refine k_icmp_le (tgt := 98) (pc := 29) h dX2_chooseNext_29 rfl hk (fun hc hk => ?_) (fun hc hk => ?_)
        · exact EJ98 _ _ _ _ _ hk hz
        · refine k_aload_n (pc := 32) h 0 dX2_chooseNext_32 rfl ?_
          refine k_aload_n (pc := 33) h 0 dX2_chooseNext_33 rfl ?_
          refine k_getr (pc := 34) h fl_X2_9 ly_40 rfl dX2_chooseNext_34 ?_
          refine k_aload_n (pc := 37) h 1 dX2_chooseNext_37 rfl ?_
          refine k_iload_n (pc := 38) h 2 dX2_chooseNext_38 rfl ?_
          refine k_iload (pc := 39) h 4 dX2_chooseNext_39 rfl ?_
          refine k_iload_n (pc := 41) h 3 dX2_chooseNext_41 rfl ?_
          obtain ⟨p4, hc3, hk⟩ := bd_some hk
          refine k_callV1 (pc := 42) h (c_X2_worstOf ly_41 hb hc3) cw_X2_56 ly_40 rfl ⟨⟨by decide, by decide⟩, Nat.zero_le _, Nat.zero_le _⟩ rfl (Nat.le_of_ble_eq_true rfl) dX2_chooseNext_42 ?_
          refine k_istore (pc := 45) h [1, 2, 3, 4, 5, 0] (lv' := [(0, .ref 40), (1, .ref b), (2, .int l2), (3, .int l3), (4, .int l4), (5, .int p4)]) dX2_chooseNext_45 (by decide) rfl ?_
          refine k_iload (pc := 47) h 5 dX2_chooseNext_47 rfl ?_
          refine k_iconst (pc := 49) h (x := (-1 : Int32)) dX2_chooseNext_49 (by decide) ?_
          refine k_icmp_eq (tgt := 98) (pc := 50) h dX2_chooseNext_50 rfl hk (fun hc hk => ?_) (fun hc hk => ?_)
          · refine k_sub h [0, 1, 2, 3, 4] (lv' := [(0, .ref 40), (1, .ref b), (2, .int l2), (3, .int l3), (4, .int l4)]) rfl ?_
            exact EJ98 _ _ _ _ _ hk hz
          · refine k_aload_n (pc := 53) h 0 dX2_chooseNext_53 rfl ?_
            refine k_geti (pc := 54) h fl_X2_22 ly_40 rfl dX2_chooseNext_54 ?_
            refine k_iconst (pc := 57) h (x := (-1 : Int32)) dX2_chooseNext_57 (by decide) ?_
            refine k_icmp_eq (tgt := 78) (pc := 58) h dX2_chooseNext_58 rfl hk (fun hc hk => ?_) (fun hc hk => ?_)
            · exact EJ78 _ _ _ _ _ _ hk hz
            · refine k_aload_n (pc := 61) h 1 dX2_chooseNext_61 rfl ?_
              refine k_getr (pc := 62) h fl_X2_60 hb.1 rfl dX2_chooseNext_62 ?_
              refine k_iload (pc := 65) h 4 dX2_chooseNext_65 rfl ?_
              refine k_iald (pc := 67) h hb.2.2.2.2.1 dX2_chooseNext_67 hk (fun hk => ?_)
              refine k_iload (pc := 68) h 5 dX2_chooseNext_68 rfl ?_
              refine k_iadd (pc := 70) h dX2_chooseNext_70 ?_
              refine k_aload_n (pc := 71) h 0 dX2_chooseNext_71 rfl ?_
              refine k_geti (pc := 72) h fl_X2_18 ly_40 rfl dX2_chooseNext_72 ?_
              refine k_icmp_ge (tgt := 98) (pc := 75) h dX2_chooseNext_75 rfl hk (fun hc hk => ?_) (fun hc hk => ?_)
              · refine k_sub h [0, 1, 2, 3, 4] (lv' := [(0, .ref 40), (1, .ref b), (2, .int l2), (3, .int l3), (4, .int l4)]) rfl ?_
                exact EJ98 _ _ _ _ _ hk hz
              · exact EJ78 _ _ _ _ _ _ hk hz
  refine k_iconst (pc := 0) h (x := (0 : Int32)) dX2_chooseNext_0 (by decide) ?_
  refine k_istore (pc := 1) h [1, 2, 3, 4, 0] (lv' := [(0, .ref 40), (1, .ref b), (2, .int l2), (3, .int l3), (4, .int (0 : Int32))]) dX2_chooseNext_1 (by decide) rfl ?_
  obtain ⟨r7, hl8, hk⟩ := bd_some hk
  refine LB3 _ _ _ _ _ hl8 ?_
  show G 104 [(0, .ref 40), (1, .ref b), (2, .int l2), (3, .int l3)] [] r7
  refine k_aload_n (pc := 104) h 0 dX2_chooseNext_104 rfl ?_
  refine k_geti (pc := 105) h fl_X2_22 ly_40 rfl dX2_chooseNext_105 ?_
  refine k_iconst (pc := 108) h (x := (-1 : Int32)) dX2_chooseNext_108 (by decide) ?_
  refine k_icmp_eq (tgt := 133) (pc := 109) h dX2_chooseNext_109 rfl hk (fun hc hk => ?_) (fun hc hk => ?_)
  · have hk := Option.some.inj hk
    subst hk
    exact k_vret (pc := 133) h dX2_chooseNext_133 ⟨rfl, rfl, rfl, rfl, rfl, rfl⟩
  · refine k_aload_n (pc := 112) h 0 dX2_chooseNext_112 rfl ?_
    refine k_iconst (pc := 113) h (x := (1 : Int32)) dX2_chooseNext_113 (by decide) ?_
    refine k_aload_n (pc := 114) h 0 dX2_chooseNext_114 rfl ?_
    refine k_aload_n (pc := 115) h 0 dX2_chooseNext_115 rfl ?_
    refine k_getr (pc := 116) h fl_X2_15 ly_40 rfl dX2_chooseNext_116 ?_
    refine k_aload_n (pc := 119) h 1 dX2_chooseNext_119 rfl ?_
    refine k_iload_n (pc := 120) h 2 dX2_chooseNext_120 rfl ?_
    refine k_aload_n (pc := 121) h 0 dX2_chooseNext_121 rfl ?_
    refine k_geti (pc := 122) h fl_X2_22 ly_40 rfl dX2_chooseNext_122 ?_
    refine k_iload_n (pc := 125) h 3 dX2_chooseNext_125 rfl ?_
    obtain ⟨p10, hc9, hk⟩ := bd_some hk
    refine k_callV1 (pc := 126) h (c_X2_worstOf ly_42 hb hc9) cw_X2_56 ly_40 rfl ⟨⟨by decide, by decide⟩, Nat.zero_le _, Nat.zero_le _⟩ rfl (Nat.le_of_ble_eq_true rfl) dX2_chooseNext_126 ?_
    refine k_iadd (pc := 129) h dX2_chooseNext_129 ?_
    refine k_puti (pc := 130) h fl_X2_25 ly_40 rfl dX2_chooseNext_130 hk (fun u11 hk => ?_)
    have hk := Option.some.inj hk
    subst hk
    exact k_vret (pc := 133) h dX2_chooseNext_133 ⟨rfl, rfl, rfl, rfl, rfl, rfl⟩

def f_X8_readsCase (w : WW) : Option (Int32 × WW) := (f_X8_number w (0 : Int32) ((w.1 46 12) - (1 : Int32))).bind (fun p2 => if p2.1 = 0 then some ((0 : Int32), p2.2) else nmv (p2.2.1 46 16) (fun v3 => (f_X8_number p2.2 (1 : Int32) (9 : Int32)).bind (fun p5 => if p5.1 = 0 then some ((0 : Int32), p5.2) else gd (inb v3 16) (stI p5.2 54 (v3).toNatClampNeg (p5.2.1 46 16) (fun u6 => (f_X8_ends u6).bind (fun p8 => gd (p8.1 &&& 1 = p8.1) (some (p8.1, p8.2))))))))
set_option maxRecDepth 20000 in
set_option maxHeartbeats 4000000 in
theorem c_X8_readsCase {w : WW} {z : Int32 × WW} (hk : f_X8_readsCase w = some z) : Cn 3 yX8_readsCase cX8_readsCase 2 (some .boolean) LAY [.ref 46] w (some (.int z.1)) z.2 := by
  refine Cn.of (by decide +kernel) (Nat.le_of_ble_eq_true rfl) (fun G h => ?_)
  have h : Rules cX8_readsCase RX8 "readsCase" 2 (rmd 3 0 0) none _ _ LAY 0 0 G := h
  show G 0 [(0, .ref 46)] [] w
  unfold f_X8_readsCase at hk
  refine k_aload_n (pc := 0) h 0 dX8_readsCase_0 rfl ?_
  refine k_iconst (pc := 1) h (x := (0 : Int32)) dX8_readsCase_1 (by decide) ?_
  refine k_aload_n (pc := 2) h 0 dX8_readsCase_2 rfl ?_
  refine k_geti (pc := 3) h fl_X8_134 ly_46 rfl dX8_readsCase_3 ?_
  refine k_iconst (pc := 6) h (x := (1 : Int32)) dX8_readsCase_6 (by decide) ?_
  refine k_isub (pc := 7) h dX8_readsCase_7 ?_
  obtain ⟨p2, hc1, hk⟩ := bd_some hk
  refine k_callV1 (pc := 8) h (c_X8_number hc1) cw_X8_137 ly_46 rfl ⟨⟨by decide, by decide⟩, Nat.zero_le _, Nat.zero_le _⟩ rfl (Nat.le_of_ble_eq_true rfl) dX8_readsCase_8 ?_
  refine k_if_ne (tgt := 16) (pc := 11) h dX8_readsCase_11 rfl hk (fun hc hk => ?_) (fun hc hk => ?_)
  · refine k_aload_n (pc := 16) h 0 dX8_readsCase_16 rfl ?_
    refine k_geti (pc := 17) h fl_X8_131 ly_46 rfl dX8_readsCase_17 ?_
    refine k_nmi (pc := 20) h hk (fun v3 hk => ?_)
    refine k_istore_n (pc := 20) h [1, 0] (lv' := [(0, .ref 46), (1, .int v3)]) dX8_readsCase_20 rfl (by decide) rfl ?_
    refine k_aload_n (pc := 21) h 0 dX8_readsCase_21 rfl ?_
    refine k_iconst (pc := 22) h (x := (1 : Int32)) dX8_readsCase_22 (by decide) ?_
    refine k_bipush (pc := 23) h (x := (9 : Int32)) dX8_readsCase_23 (by decide) ?_
    obtain ⟨p5, hc4, hk⟩ := bd_some hk
    refine k_callV1 (pc := 25) h (c_X8_number hc4) cw_X8_137 ly_46 rfl ⟨⟨by decide, by decide⟩, Nat.zero_le _, Nat.zero_le _⟩ rfl (Nat.le_of_ble_eq_true rfl) dX8_readsCase_25 ?_
    refine k_if_ne (tgt := 33) (pc := 28) h dX8_readsCase_28 rfl hk (fun hc hk => ?_) (fun hc hk => ?_)
    · refine k_aload_n (pc := 33) h 0 dX8_readsCase_33 rfl ?_
      refine k_getr (pc := 34) h fl_X8_35 ly_46 rfl dX8_readsCase_34 ?_
      refine k_iload_n (pc := 37) h 1 dX8_readsCase_37 rfl ?_
      refine k_aload_n (pc := 38) h 0 dX8_readsCase_38 rfl ?_
      refine k_geti (pc := 39) h fl_X8_131 ly_46 rfl dX8_readsCase_39 ?_
      refine k_iast (pc := 42) h ly_54 dX8_readsCase_42 hk (fun u6 hk => ?_)
      refine k_aload_n (pc := 43) h 0 dX8_readsCase_43 rfl ?_
      obtain ⟨p8, hc7, hk⟩ := bd_some hk
      refine k_callV1 (pc := 44) h (c_X8_ends hc7) cw_X8_141 ly_46 rfl ⟨⟨by decide, by decide⟩, Nat.zero_le _, Nat.zero_le _⟩ rfl (Nat.le_of_ble_eq_true rfl) dX8_readsCase_44 ?_
      obtain ⟨hg, hk⟩ := gd_some hk
      have hk := Option.some.inj hk
      subst hk
      exact k_iret (pc := 47) h dX8_readsCase_47 ⟨rfl, rfl, rfl, rfl, rfl, ⟨.boolean, rfl, nar_b hg⟩⟩
    · refine k_iconst (pc := 31) h (x := (0 : Int32)) dX8_readsCase_31 (by decide) ?_
      have hk := Option.some.inj hk
      subst hk
      exact k_iret (pc := 32) h dX8_readsCase_32 ⟨rfl, rfl, rfl, rfl, rfl, ⟨.boolean, rfl, rfl⟩⟩
  · refine k_iconst (pc := 14) h (x := (0 : Int32)) dX8_readsCase_14 (by decide) ?_
    have hk := Option.some.inj hk
    subst hk
    exact k_iret (pc := 15) h dX8_readsCase_15 ⟨rfl, rfl, rfl, rfl, rfl, ⟨.boolean, rfl, rfl⟩⟩
def f_X8_readsQuestion_j29 (w : WW) (l1 : Int32) (s0 : Int32) (s1 : Int32) : Option ((Int32 × WW) ⊕ ((WW) ⊕ (WW))) := (f_X8_number w s1 s0).bind (fun p2 => if p2.1 = 0 then some (.inr (.inl p2.2)) else gd (inb (((3 : Int32) * (p2.2.1 46 13)) + l1) 21) (stI p2.2 55 ((((3 : Int32) * (p2.2.1 46 13)) + l1)).toNatClampNeg (p2.2.1 46 16) (fun u3 => some (.inl ((l1 + (1 : Int32)), u3)))))
def f_X8_readsQuestion_b2 (l1 : Int32) (w : WW) : Option ((Int32 × WW) ⊕ ((WW) ⊕ (WW))) := if (3 : Int32) ≤ l1 then some (.inr (.inr w)) else if l1 = 0 then f_X8_readsQuestion_j29 w l1 (5 : Int32) (0 : Int32) else if l1 = (1 : Int32) then f_X8_readsQuestion_j29 w l1 (15 : Int32) (0 : Int32) else f_X8_readsQuestion_j29 w l1 (99 : Int32) (0 : Int32)
def f_X8_readsQuestion (w : WW) : Option (Int32 × WW) := (lpf (fun s : Int32 × WW => f_X8_readsQuestion_b2 s.1 s.2) FU ((0 : Int32), w)).bind (Sum.elim (fun r4 => some ((0 : Int32), r4)) (fun r4 => stI r4 46 13 ((r4.1 46 13) + (1 : Int32)) (fun u6 => (f_X8_ends u6).bind (fun p8 => gd (p8.1 &&& 1 = p8.1) (some (p8.1, p8.2))))))
set_option maxRecDepth 20000 in
set_option maxHeartbeats 4000000 in
theorem c_X8_readsQuestion {w : WW} {z : Int32 × WW} (hk : f_X8_readsQuestion w = some z) : Cn 3 yX8_readsQuestion cX8_readsQuestion 2 (some .boolean) LAY [.ref 46] w (some (.int z.1)) z.2 := by
  refine Cn.of (by decide +kernel) (Nat.le_of_ble_eq_true rfl) (fun G h => ?_)
  have h : Rules cX8_readsQuestion RX8 "readsQuestion" 2 (rmd 3 0 0) none _ _ LAY 0 0 G := h
  show G 0 [(0, .ref 46)] [] w
  unfold f_X8_readsQuestion at hk
  have EJ29 : ∀ (w : WW) (l1 : Int32) (s0 : Int32) (s1 : Int32) (z : (Int32 × WW) ⊕ ((WW) ⊕ (WW))), f_X8_readsQuestion_j29 w l1 s0 s1 = some z → Sum.elim (fun s : Int32 × WW => G 2 [(0, .ref 46), (1, .int s.1)] [] s.2) (Sum.elim (fun r : WW => G 35 [] [] r) (fun r : WW => G 60 [(0, .ref 46)] [] r)) z → G 29 [(0, .ref 46), (1, .int l1)] [.int s0, .int s1, .ref 46] w := by
    intro w l1 s0 s1 z hk hz
    unfold f_X8_readsQuestion_j29 at hk
    obtain ⟨p2, hc1, hk⟩ := bd_some hk
    refine k_callV1 (pc := 29) h (c_X8_number hc1) cw_X8_137 ly_46 rfl ⟨⟨by decide, by decide⟩, Nat.zero_le _, Nat.zero_le _⟩ rfl (Nat.le_of_ble_eq_true rfl) dX8_readsQuestion_29 ?_
    refine k_if_ne (tgt := 37) (pc := 32) h dX8_readsQuestion_32 rfl hk (fun hc hk => ?_) (fun hc hk => ?_)
    · refine k_aload_n (pc := 37) h 0 dX8_readsQuestion_37 rfl ?_
      refine k_getr (pc := 38) h fl_X8_38 ly_46 rfl dX8_readsQuestion_38 ?_
      refine k_iconst (pc := 41) h (x := (3 : Int32)) dX8_readsQuestion_41 (by decide) ?_
      refine k_aload_n (pc := 42) h 0 dX8_readsQuestion_42 rfl ?_
      refine k_geti (pc := 43) h fl_X8_145 ly_46 rfl dX8_readsQuestion_43 ?_
      refine k_imul (pc := 46) h dX8_readsQuestion_46 ?_
      refine k_iload_n (pc := 47) h 1 dX8_readsQuestion_47 rfl ?_
      refine k_iadd (pc := 48) h dX8_readsQuestion_48 ?_
      refine k_aload_n (pc := 49) h 0 dX8_readsQuestion_49 rfl ?_
      refine k_geti (pc := 50) h fl_X8_131 ly_46 rfl dX8_readsQuestion_50 ?_
      refine k_iast (pc := 53) h ly_55 dX8_readsQuestion_53 hk (fun u3 hk => ?_)
      refine k_iinc (pc := 54) h 1 [1, 0] (v := (l1 + (1 : Int32))) (lv' := [(0, .ref 46), (1, .int (l1 + (1 : Int32)))]) dX8_readsQuestion_54 rfl rfl (by decide) rfl ?_
      refine k_goto (tgt := 2) (pc := 57) h dX8_readsQuestion_57 rfl ?_
      have hk := Option.some.inj hk
      subst hk
      exact hz
    · refine k_sub h [] (lv' := []) rfl ?_
      have hk := Option.some.inj hk
      subst hk
      exact hz
  have LB2 : ∀ (nn : Nat) (s : Int32 × WW) (r : (WW) ⊕ (WW)), lpf (fun s : Int32 × WW => f_X8_readsQuestion_b2 s.1 s.2) nn s = some r → (Sum.elim (fun r : WW => G 35 [] [] r) (fun r : WW => G 60 [(0, .ref 46)] [] r)) r → (fun s : Int32 × WW => G 2 [(0, .ref 46), (1, .int s.1)] [] s.2) s := by
    refine lpf_ind (fun s : Int32 × WW => G 2 [(0, .ref 46), (1, .int s.1)] [] s.2) (Sum.elim (fun r : WW => G 35 [] [] r) (fun r : WW => G 60 [(0, .ref 46)] [] r)) ?_
    rintro ⟨l1, w⟩ z hk hz
    have hk : f_X8_readsQuestion_b2 l1 w = some z := hk
    unfold f_X8_readsQuestion_b2 at hk
    show G 2 [(0, .ref 46), (1, .int l1)] [] w
    refine k_iload_n (pc := 2) h 1 dX8_readsQuestion_2 rfl ?_
    refine k_iconst (pc := 3) h (x := (3 : Int32)) dX8_readsQuestion_3 (by decide) ?_
    refine k_icmp_ge (tgt := 60) (pc := 4) h dX8_readsQuestion_4 rfl hk (fun hc hk => ?_) (fun hc hk => ?_)
    · refine k_sub h [0] (lv' := [(0, .ref 46)]) rfl ?_
      have hk := Option.some.inj hk
      subst hk
      exact hz
    · refine k_aload_n (pc := 7) h 0 dX8_readsQuestion_7 rfl ?_
      refine k_iconst (pc := 8) h (x := (0 : Int32)) dX8_readsQuestion_8 (by decide) ?_
      refine k_iload_n (pc := 9) h 1 dX8_readsQuestion_9 rfl ?_
      refine k_if_ne (tgt := 17) (pc := 10) h dX8_readsQuestion_10 rfl hk (fun hc hk => ?_) (fun hc hk => ?_)
      · refine k_iload_n (pc := 17) h 1 dX8_readsQuestion_17 rfl ?_
        refine k_iconst (pc := 18) h (x := (1 : Int32)) dX8_readsQuestion_18 (by decide) ?_
        refine k_icmp_ne (tgt := 27) (pc := 19) h dX8_readsQuestion_19 rfl hk (fun hc hk => ?_) (fun hc hk => ?_)
        · refine k_bipush (pc := 27) h (x := (99 : Int32)) dX8_readsQuestion_27 (by decide) ?_
          exact EJ29 _ _ _ _ _ hk hz
        · refine k_bipush (pc := 22) h (x := (15 : Int32)) dX8_readsQuestion_22 (by decide) ?_
          refine k_goto (tgt := 29) (pc := 24) h dX8_readsQuestion_24 rfl ?_
          exact EJ29 _ _ _ _ _ hk hz
      · refine k_iconst (pc := 13) h (x := (5 : Int32)) dX8_readsQuestion_13 (by decide) ?_
        refine k_goto (tgt := 29) (pc := 14) h dX8_readsQuestion_14 rfl ?_
        exact EJ29 _ _ _ _ _ hk hz
  refine k_iconst (pc := 0) h (x := (0 : Int32)) dX8_readsQuestion_0 (by decide) ?_
  refine k_istore_n (pc := 1) h [1, 0] (lv' := [(0, .ref 46), (1, .int (0 : Int32))]) dX8_readsQuestion_1 rfl (by decide) rfl ?_
  obtain ⟨r4, hl5, hk⟩ := bd_some hk
  refine LB2 _ _ _ hl5 ?_
  rcases r4 with r4 | r4
  · replace hk := elim_l hk
    show G 35 [] [] r4
    refine k_iconst (pc := 35) h (x := (0 : Int32)) dX8_readsQuestion_35 (by decide) ?_
    have hk := Option.some.inj hk
    subst hk
    exact k_iret (pc := 36) h dX8_readsQuestion_36 ⟨rfl, rfl, rfl, rfl, rfl, ⟨.boolean, rfl, rfl⟩⟩
  · replace hk := elim_r hk
    show G 60 [(0, .ref 46)] [] r4
    refine k_aload_n (pc := 60) h 0 dX8_readsQuestion_60 rfl ?_
    refine k_dup (pc := 61) h dX8_readsQuestion_61 rfl ?_
    refine k_geti (pc := 62) h fl_X8_145 ly_46 rfl dX8_readsQuestion_62 ?_
    refine k_iconst (pc := 65) h (x := (1 : Int32)) dX8_readsQuestion_65 (by decide) ?_
    refine k_iadd (pc := 66) h dX8_readsQuestion_66 ?_
    refine k_puti (pc := 67) h fl_X8_145 ly_46 rfl dX8_readsQuestion_67 hk (fun u6 hk => ?_)
    refine k_aload_n (pc := 70) h 0 dX8_readsQuestion_70 rfl ?_
    obtain ⟨p8, hc7, hk⟩ := bd_some hk
    refine k_callV1 (pc := 71) h (c_X8_ends hc7) cw_X8_141 ly_46 rfl ⟨⟨by decide, by decide⟩, Nat.zero_le _, Nat.zero_le _⟩ rfl (Nat.le_of_ble_eq_true rfl) dX8_readsQuestion_71 ?_
    obtain ⟨hg, hk⟩ := gd_some hk
    have hk := Option.some.inj hk
    subst hk
    exact k_iret (pc := 74) h dX8_readsQuestion_74 ⟨rfl, rfl, rfl, rfl, rfl, ⟨.boolean, rfl, nar_b hg⟩⟩
def f_X8_setLeast_b12 (l1 : Int32) (l2 : Int32) (l3 : Int32) (w : WW) : Option ((Int32 × WW) ⊕ (WW)) := if (16 : Int32) ≤ l3 then some (.inr w) else (f_X8_casesBy w l2 l3).bind (fun p2 => gd (inb (((16 : Int32) * l2) + l3) 112) (stI w 61 ((((16 : Int32) * l2) + l3)).toNatClampNeg p2 (fun u3 => some (.inl ((l3 + (1 : Int32)), u3)))))
def f_X8_setLeast_b2 (l1 : Int32) (l2 : Int32) (w : WW) : Option ((Int32 × WW) ⊕ (WW)) := if (w.1 46 2) ≤ l2 then some (.inr w) else (lpf (fun s : Int32 × WW => f_X8_setLeast_b12 l1 l2 s.1 s.2) FU ((0 : Int32), w)).bind (fun r4 => some (.inl ((l2 + (1 : Int32)), r4)))
def f_X8_setLeast_j67 (w : WW) (l1 : Int32) (l2 : Int32) : Option ((Int32 × WW) ⊕ (WW)) := some (.inl ((l2 + (1 : Int32)), w))
def f_X8_setLeast_b49 (l1 : Int32) (l2 : Int32) (w : WW) : Option ((Int32 × WW) ⊕ (WW)) := if l1 < l2 then some (.inr w) else if (l2 &&& (l1 ^^^ (-1 : Int32))) = 0 then (f_X8_setOne w l2).bind (fun p9 => f_X8_setLeast_j67 p9 l1 l2) else f_X8_setLeast_j67 w l1 l2
def f_X8_setLeast (w : WW) (l1 : Int32) : Option (WW) := (lpf (fun s : Int32 × WW => f_X8_setLeast_b2 l1 s.1 s.2) FU ((0 : Int32), w)).bind (fun r6 => (lpf (fun s : Int32 × WW => f_X8_setLeast_b49 l1 s.1 s.2) FU ((0 : Int32), r6)).bind (fun r10 => some r10))
set_option maxRecDepth 20000 in
set_option maxHeartbeats 4000000 in
theorem c_X8_setLeast {w : WW} {l1 : Int32} {z : WW} (hk : f_X8_setLeast w l1 = some z) : Cn 3 yX8_setLeast cX8_setLeast 4 none LAY [.ref 46, .int l1] w none z := by
  refine Cn.of (by decide +kernel) (Nat.le_of_ble_eq_true rfl) (fun G h => ?_)
  have h : Rules cX8_setLeast RX8 "setLeast" 4 (rmd 3 0 0) none _ _ LAY 0 0 G := h
  show G 0 [(0, .ref 46), (1, .int l1)] [] w
  unfold f_X8_setLeast at hk
  have LB12 : ∀ (l1 : Int32) (l2 : Int32), ∀ (nn : Nat) (s : Int32 × WW) (r : WW), lpf (fun s : Int32 × WW => f_X8_setLeast_b12 l1 l2 s.1 s.2) nn s = some r → (fun r : WW => G 41 [(0, .ref 46), (1, .int l1), (2, .int l2)] [] r) r → (fun s : Int32 × WW => G 12 [(0, .ref 46), (1, .int l1), (2, .int l2), (3, .int s.1)] [] s.2) s := by
    intro l1 l2
    refine lpf_ind (fun s : Int32 × WW => G 12 [(0, .ref 46), (1, .int l1), (2, .int l2), (3, .int s.1)] [] s.2) (fun r : WW => G 41 [(0, .ref 46), (1, .int l1), (2, .int l2)] [] r) ?_
    rintro ⟨l3, w⟩ z hk hz
    have hk : f_X8_setLeast_b12 l1 l2 l3 w = some z := hk
    unfold f_X8_setLeast_b12 at hk
    show G 12 [(0, .ref 46), (1, .int l1), (2, .int l2), (3, .int l3)] [] w
    refine k_iload_n (pc := 12) h 3 dX8_setLeast_12 rfl ?_
    refine k_bipush (pc := 13) h (x := (16 : Int32)) dX8_setLeast_13 (by decide) ?_
    refine k_icmp_ge (tgt := 41) (pc := 15) h dX8_setLeast_15 rfl hk (fun hc hk => ?_) (fun hc hk => ?_)
    · refine k_sub h [0, 1, 2] (lv' := [(0, .ref 46), (1, .int l1), (2, .int l2)]) rfl ?_
      have hk := Option.some.inj hk
      subst hk
      exact hz
    · refine k_aload_n (pc := 18) h 0 dX8_setLeast_18 rfl ?_
      refine k_getr (pc := 19) h fl_X8_58 ly_46 rfl dX8_setLeast_19 ?_
      refine k_bipush (pc := 22) h (x := (16 : Int32)) dX8_setLeast_22 (by decide) ?_
      refine k_iload_n (pc := 24) h 2 dX8_setLeast_24 rfl ?_
      refine k_imul (pc := 25) h dX8_setLeast_25 ?_
      refine k_iload_n (pc := 26) h 3 dX8_setLeast_26 rfl ?_
      refine k_iadd (pc := 27) h dX8_setLeast_27 ?_
      refine k_aload_n (pc := 28) h 0 dX8_setLeast_28 rfl ?_
      refine k_iload_n (pc := 29) h 2 dX8_setLeast_29 rfl ?_
      refine k_iload_n (pc := 30) h 3 dX8_setLeast_30 rfl ?_
      obtain ⟨p2, hc1, hk⟩ := bd_some hk
      refine k_callV1 (pc := 31) h (c_X8_casesBy hc1) cw_X8_176 ly_46 rfl ⟨⟨by decide, by decide⟩, Nat.zero_le _, Nat.zero_le _⟩ rfl (Nat.le_of_ble_eq_true rfl) dX8_setLeast_31 ?_
      refine k_iast (pc := 34) h ly_61 dX8_setLeast_34 hk (fun u3 hk => ?_)
      refine k_iinc (pc := 35) h 3 [1, 2, 3, 0] (v := (l3 + (1 : Int32))) (lv' := [(0, .ref 46), (1, .int l1), (2, .int l2), (3, .int (l3 + (1 : Int32)))]) dX8_setLeast_35 rfl rfl (by decide) rfl ?_
      refine k_goto (tgt := 12) (pc := 38) h dX8_setLeast_38 rfl ?_
      have hk := Option.some.inj hk
      subst hk
      exact hz
  have LB2 : ∀ (l1 : Int32), ∀ (nn : Nat) (s : Int32 × WW) (r : WW), lpf (fun s : Int32 × WW => f_X8_setLeast_b2 l1 s.1 s.2) nn s = some r → (fun r : WW => G 47 [(0, .ref 46), (1, .int l1)] [] r) r → (fun s : Int32 × WW => G 2 [(0, .ref 46), (1, .int l1), (2, .int s.1)] [] s.2) s := by
    intro l1
    refine lpf_ind (fun s : Int32 × WW => G 2 [(0, .ref 46), (1, .int l1), (2, .int s.1)] [] s.2) (fun r : WW => G 47 [(0, .ref 46), (1, .int l1)] [] r) ?_
    rintro ⟨l2, w⟩ z hk hz
    have hk : f_X8_setLeast_b2 l1 l2 w = some z := hk
    unfold f_X8_setLeast_b2 at hk
    show G 2 [(0, .ref 46), (1, .int l1), (2, .int l2)] [] w
    refine k_iload_n (pc := 2) h 2 dX8_setLeast_2 rfl ?_
    refine k_aload_n (pc := 3) h 0 dX8_setLeast_3 rfl ?_
    refine k_geti (pc := 4) h fl_X8_75 ly_46 rfl dX8_setLeast_4 ?_
    refine k_icmp_ge (tgt := 47) (pc := 7) h dX8_setLeast_7 rfl hk (fun hc hk => ?_) (fun hc hk => ?_)
    · refine k_sub h [0, 1] (lv' := [(0, .ref 46), (1, .int l1)]) rfl ?_
      have hk := Option.some.inj hk
      subst hk
      exact hz
    · refine k_iconst (pc := 10) h (x := (0 : Int32)) dX8_setLeast_10 (by decide) ?_
      refine k_istore_n (pc := 11) h [1, 2, 3, 0] (lv' := [(0, .ref 46), (1, .int l1), (2, .int l2), (3, .int (0 : Int32))]) dX8_setLeast_11 rfl (by decide) rfl ?_
      obtain ⟨r4, hl5, hk⟩ := bd_some hk
      refine LB12 _ _ _ _ _ hl5 ?_
      show G 41 [(0, .ref 46), (1, .int l1), (2, .int l2)] [] r4
      refine k_iinc (pc := 41) h 2 [1, 2, 0] (v := (l2 + (1 : Int32))) (lv' := [(0, .ref 46), (1, .int l1), (2, .int (l2 + (1 : Int32)))]) dX8_setLeast_41 rfl rfl (by decide) rfl ?_
      refine k_goto (tgt := 2) (pc := 44) h dX8_setLeast_44 rfl ?_
      have hk := Option.some.inj hk
      subst hk
      exact hz
  have EJ67 : ∀ (w : WW) (l1 : Int32) (l2 : Int32) (z : (Int32 × WW) ⊕ (WW)), f_X8_setLeast_j67 w l1 l2 = some z → Sum.elim (fun s : Int32 × WW => G 49 [(0, .ref 46), (1, .int l1), (2, .int s.1)] [] s.2) (fun r : WW => G 73 [] [] r) z → G 67 [(0, .ref 46), (1, .int l1), (2, .int l2)] [] w := by
    intro w l1 l2 z hk hz
    unfold f_X8_setLeast_j67 at hk
    refine k_iinc (pc := 67) h 2 [1, 2, 0] (v := (l2 + (1 : Int32))) (lv' := [(0, .ref 46), (1, .int l1), (2, .int (l2 + (1 : Int32)))]) dX8_setLeast_67 rfl rfl (by decide) rfl ?_
    refine k_goto (tgt := 49) (pc := 70) h dX8_setLeast_70 rfl ?_
    have hk := Option.some.inj hk
    subst hk
    exact hz
  have LB49 : ∀ (l1 : Int32), ∀ (nn : Nat) (s : Int32 × WW) (r : WW), lpf (fun s : Int32 × WW => f_X8_setLeast_b49 l1 s.1 s.2) nn s = some r → (fun r : WW => G 73 [] [] r) r → (fun s : Int32 × WW => G 49 [(0, .ref 46), (1, .int l1), (2, .int s.1)] [] s.2) s := by
    intro l1
    refine lpf_ind (fun s : Int32 × WW => G 49 [(0, .ref 46), (1, .int l1), (2, .int s.1)] [] s.2) (fun r : WW => G 73 [] [] r) ?_
    rintro ⟨l2, w⟩ z hk hz
    have hk : f_X8_setLeast_b49 l1 l2 w = some z := hk
    unfold f_X8_setLeast_b49 at hk
    show G 49 [(0, .ref 46), (1, .int l1), (2, .int l2)] [] w
    refine k_iload_n (pc := 49) h 2 dX8_setLeast_49 rfl ?_
    refine k_iload_n (pc := 50) h 1 dX8_setLeast_50 rfl ?_
    refine k_icmp_gt (tgt := 73) (pc := 51) h dX8_setLeast_51 rfl hk (fun hc hk => ?_) (fun hc hk => ?_)
    · refine k_sub h [] (lv' := []) rfl ?_
      have hk := Option.some.inj hk
      subst hk
      exact hz
    · refine k_iload_n (pc := 54) h 2 dX8_setLeast_54 rfl ?_
      refine k_iload_n (pc := 55) h 1 dX8_setLeast_55 rfl ?_
      refine k_iconst (pc := 56) h (x := (-1 : Int32)) dX8_setLeast_56 (by decide) ?_
      refine k_ixor (pc := 57) h dX8_setLeast_57 ?_
      refine k_iand (pc := 58) h dX8_setLeast_58 ?_
      refine k_if_ne (tgt := 67) (pc := 59) h dX8_setLeast_59 rfl hk (fun hc hk => ?_) (fun hc hk => ?_)
      · exact EJ67 _ _ _ _ hk hz
      · refine k_aload_n (pc := 62) h 0 dX8_setLeast_62 rfl ?_
        refine k_iload_n (pc := 63) h 2 dX8_setLeast_63 rfl ?_
        obtain ⟨p9, hc8, hk⟩ := bd_some hk
        refine k_callV0 (pc := 64) h (c_X8_setOne hc8) cw_X8_219 ly_46 rfl ⟨⟨by decide, by decide⟩, Nat.zero_le _, Nat.zero_le _⟩ rfl (Nat.le_of_ble_eq_true rfl) dX8_setLeast_64 ?_
        exact EJ67 _ _ _ _ hk hz
  refine k_iconst (pc := 0) h (x := (0 : Int32)) dX8_setLeast_0 (by decide) ?_
  refine k_istore_n (pc := 1) h [1, 2, 0] (lv' := [(0, .ref 46), (1, .int l1), (2, .int (0 : Int32))]) dX8_setLeast_1 rfl (by decide) rfl ?_
  obtain ⟨r6, hl7, hk⟩ := bd_some hk
  refine LB2 _ _ _ _ hl7 ?_
  show G 47 [(0, .ref 46), (1, .int l1)] [] r6
  refine k_iconst (pc := 47) h (x := (0 : Int32)) dX8_setLeast_47 (by decide) ?_
  refine k_istore_n (pc := 48) h [1, 2, 0] (lv' := [(0, .ref 46), (1, .int l1), (2, .int (0 : Int32))]) dX8_setLeast_48 rfl (by decide) rfl ?_
  obtain ⟨r10, hl11, hk⟩ := bd_some hk
  refine LB49 _ _ _ _ hl11 ?_
  show G 73 [] [] r10
  have hk := Option.some.inj hk
  subst hk
  exact k_vret (pc := 73) h dX8_setLeast_73 ⟨rfl, rfl, rfl, rfl, rfl, rfl⟩
def f_X8_setTells_j29 (w : WW) (l1 : Int32) (l2 : Int32) (s0 : Int32) (s1 : Int32) : Option ((Int32 × WW) ⊕ (WW)) := gd (inb s1 128) (stI w 57 (s1).toNatClampNeg (vp_nar .boolean s0) (fun u1 => some (.inl ((l2 + (1 : Int32)), u1))))
def f_X8_setTells_b2 (l1 : Int32) (l2 : Int32) (w : WW) : Option ((Int32 × WW) ⊕ (WW)) := if (128 : Int32) ≤ l2 then some (.inr w) else if (shl32 (1 : Int32) (w.1 46 2)) ≤ l2 then f_X8_setTells_j29 w l1 l2 (0 : Int32) l2 else f_X8_setTells_j29 w l1 l2 (1 : Int32) l2
def f_X8_setTells_j89 (w : WW) (l1 : Int32) (l2 : Int32) (l3 : Int32) (l5 : Int32) (s0 : Int32) (s1 : Int32) : Option ((Int32 × Int32) ⊕ (Int32)) := nmv (s1 ||| s0) (fun v6 => some (.inl (v6, (l5 + (1 : Int32)))))
def f_X8_setTells_b59 (w : WW) (l1 : Int32) (l2 : Int32) (l3 : Int32) (l4 : Int32) (l5 : Int32) : Option ((Int32 × Int32) ⊕ (Int32)) := if (w.1 46 2) ≤ l5 then some (.inr l4) else (f_X8_parts w l5 l2 l3).bind (fun p5 => if p5 = 0 then f_X8_setTells_j89 w l1 l2 l3 l5 (0 : Int32) l4 else f_X8_setTells_j89 w l1 l2 l3 l5 (shl32 (1 : Int32) l5) l4)
def f_X8_setTells_j154 (w : WW) (l1 : Int32) (l2 : Int32) (l3 : Int32) (l4 : Int32) (l5 : Int32) (s0 : Int32) (s1 : Int32) : Option ((Int32 × WW) ⊕ (WW)) := gd (inb s1 128) (stI w 57 (s1).toNatClampNeg (vp_nar .boolean s0) (fun u13 => some (.inl ((l5 + (1 : Int32)), u13))))
def f_X8_setTells_j153 (w : WW) (l1 : Int32) (l2 : Int32) (l3 : Int32) (l4 : Int32) (l5 : Int32) (s0 : Int32) : Option ((Int32 × WW) ⊕ (WW)) := f_X8_setTells_j154 w l1 l2 l3 l4 l5 (0 : Int32) s0
def f_X8_setTells_b101 (l1 : Int32) (l2 : Int32) (l3 : Int32) (l4 : Int32) (l5 : Int32) (w : WW) : Option ((Int32 × WW) ⊕ (WW)) := if (128 : Int32) ≤ l5 then some (.inr w) else (f_X8_has w l1 l2).bind (fun p10 => if p10 = 0 then some (.inr w) else (f_X8_has w l1 l3).bind (fun p12 => if p12 = 0 then some (.inr w) else gd (inb l5 128) (if (w.1 57 (l5).toNatClampNeg) = 0 then f_X8_setTells_j153 w l1 l2 l3 l4 l5 l5 else if (l5 &&& l4) = 0 then f_X8_setTells_j153 w l1 l2 l3 l4 l5 l5 else f_X8_setTells_j154 w l1 l2 l3 l4 l5 (1 : Int32) l5)))
def f_X8_setTells_b48 (l1 : Int32) (l2 : Int32) (l3 : Int32) (w : WW) : Option ((Int32 × WW) ⊕ (WW)) := if l2 ≤ l3 then some (.inr w) else (lpf (fun s : Int32 × Int32 => f_X8_setTells_b59 w l1 l2 l3 s.1 s.2) FU ((0 : Int32), (0 : Int32))).bind (fun r7 => (lpf (fun s : Int32 × WW => f_X8_setTells_b101 l1 l2 l3 r7 s.1 s.2) FU ((0 : Int32), w)).bind (fun r14 => some (.inl ((l3 + (1 : Int32)), r14))))
def f_X8_setTells_b38 (l1 : Int32) (l2 : Int32) (w : WW) : Option ((Int32 × WW) ⊕ (WW)) := if (w.1 46 1) ≤ l2 then some (.inr w) else (lpf (fun s : Int32 × WW => f_X8_setTells_b48 l1 l2 s.1 s.2) FU ((0 : Int32), w)).bind (fun r16 => some (.inl ((l2 + (1 : Int32)), r16)))
def f_X8_setTells (w : WW) (l1 : Int32) : Option (WW) := (lpf (fun s : Int32 × WW => f_X8_setTells_b2 l1 s.1 s.2) FU ((0 : Int32), w)).bind (fun r2 => (lpf (fun s : Int32 × WW => f_X8_setTells_b38 l1 s.1 s.2) FU ((0 : Int32), r2)).bind (fun r18 => some r18))
set_option maxRecDepth 20000 in
set_option maxHeartbeats 4000000 in
theorem c_X8_setTells {w : WW} {l1 : Int32} {z : WW} (hk : f_X8_setTells w l1 = some z) : Cn 3 yX8_setTells cX8_setTells 6 none LAY [.ref 46, .int l1] w none z := by
  refine Cn.of (by decide +kernel) (Nat.le_of_ble_eq_true rfl) (fun G h => ?_)
  have h : Rules cX8_setTells RX8 "setTells" 6 (rmd 3 0 0) none _ _ LAY 0 0 G := h
  show G 0 [(0, .ref 46), (1, .int l1)] [] w
  unfold f_X8_setTells at hk
  have EJ29 : ∀ (w : WW) (l1 : Int32) (l2 : Int32) (s0 : Int32) (s1 : Int32) (z : (Int32 × WW) ⊕ (WW)), f_X8_setTells_j29 w l1 l2 s0 s1 = some z → Sum.elim (fun s : Int32 × WW => G 2 [(0, .ref 46), (1, .int l1), (2, .int s.1)] [] s.2) (fun r : WW => G 36 [(0, .ref 46), (1, .int l1)] [] r) z → G 29 [(0, .ref 46), (1, .int l1), (2, .int l2)] [.int s0, .int s1, .ref 57] w := by
    intro w l1 l2 s0 s1 z hk hz
    unfold f_X8_setTells_j29 at hk
    refine k_zast (pc := 29) h ly_57 dX8_setTells_29 hk (fun u1 hk => ?_)
    refine k_iinc (pc := 30) h 2 [1, 2, 0] (v := (l2 + (1 : Int32))) (lv' := [(0, .ref 46), (1, .int l1), (2, .int (l2 + (1 : Int32)))]) dX8_setTells_30 rfl rfl (by decide) rfl ?_
    refine k_goto (tgt := 2) (pc := 33) h dX8_setTells_33 rfl ?_
    have hk := Option.some.inj hk
    subst hk
    exact hz
  have LB2 : ∀ (l1 : Int32), ∀ (nn : Nat) (s : Int32 × WW) (r : WW), lpf (fun s : Int32 × WW => f_X8_setTells_b2 l1 s.1 s.2) nn s = some r → (fun r : WW => G 36 [(0, .ref 46), (1, .int l1)] [] r) r → (fun s : Int32 × WW => G 2 [(0, .ref 46), (1, .int l1), (2, .int s.1)] [] s.2) s := by
    intro l1
    refine lpf_ind (fun s : Int32 × WW => G 2 [(0, .ref 46), (1, .int l1), (2, .int s.1)] [] s.2) (fun r : WW => G 36 [(0, .ref 46), (1, .int l1)] [] r) ?_
    rintro ⟨l2, w⟩ z hk hz
    have hk : f_X8_setTells_b2 l1 l2 w = some z := hk
    unfold f_X8_setTells_b2 at hk
    show G 2 [(0, .ref 46), (1, .int l1), (2, .int l2)] [] w
    refine k_iload_n (pc := 2) h 2 dX8_setTells_2 rfl ?_
    refine k_sipush (pc := 3) h (x := (128 : Int32)) dX8_setTells_3 (by decide) ?_
    refine k_icmp_ge (tgt := 36) (pc := 6) h dX8_setTells_6 rfl hk (fun hc hk => ?_) (fun hc hk => ?_)
    · refine k_sub h [0, 1] (lv' := [(0, .ref 46), (1, .int l1)]) rfl ?_
      have hk := Option.some.inj hk
      subst hk
      exact hz
    · refine k_aload_n (pc := 9) h 0 dX8_setTells_9 rfl ?_
      refine k_getr (pc := 10) h fl_X8_44 ly_46 rfl dX8_setTells_10 ?_
      refine k_iload_n (pc := 13) h 2 dX8_setTells_13 rfl ?_
      refine k_iload_n (pc := 14) h 2 dX8_setTells_14 rfl ?_
      refine k_iconst (pc := 15) h (x := (1 : Int32)) dX8_setTells_15 (by decide) ?_
      refine k_aload_n (pc := 16) h 0 dX8_setTells_16 rfl ?_
      refine k_geti (pc := 17) h fl_X8_75 ly_46 rfl dX8_setTells_17 ?_
      refine k_ishl (pc := 20) h dX8_setTells_20 ?_
      refine k_icmp_ge (tgt := 28) (pc := 21) h dX8_setTells_21 rfl hk (fun hc hk => ?_) (fun hc hk => ?_)
      · refine k_iconst (pc := 28) h (x := (0 : Int32)) dX8_setTells_28 (by decide) ?_
        exact EJ29 _ _ _ _ _ _ hk hz
      · refine k_iconst (pc := 24) h (x := (1 : Int32)) dX8_setTells_24 (by decide) ?_
        refine k_goto (tgt := 29) (pc := 25) h dX8_setTells_25 rfl ?_
        exact EJ29 _ _ _ _ _ _ hk hz
  have EJ89 : ∀ (w : WW) (l1 : Int32) (l2 : Int32) (l3 : Int32) (l5 : Int32) (s0 : Int32) (s1 : Int32) (z : (Int32 × Int32) ⊕ (Int32)), f_X8_setTells_j89 w l1 l2 l3 l5 s0 s1 = some z → Sum.elim (fun s : Int32 × Int32 => G 59 [(0, .ref 46), (1, .int l1), (2, .int l2), (3, .int l3), (4, .int s.1), (5, .int s.2)] [] w) (fun r : Int32 => G 98 [(0, .ref 46), (1, .int l1), (2, .int l2), (3, .int l3), (4, .int r)] [] w) z → G 89 [(0, .ref 46), (1, .int l1), (2, .int l2), (3, .int l3), (5, .int l5)] [.int s0, .int s1] w := by
    intro w l1 l2 l3 l5 s0 s1 z hk hz
    unfold f_X8_setTells_j89 at hk
    refine k_ior (pc := 89) h dX8_setTells_89 ?_
    refine k_nmi (pc := 90) h hk (fun v6 hk => ?_)
    refine k_istore (pc := 90) h [1, 2, 3, 4, 0, 5] (lv' := [(0, .ref 46), (1, .int l1), (2, .int l2), (3, .int l3), (4, .int v6), (5, .int l5)]) dX8_setTells_90 (by decide) rfl ?_
    refine k_iinc (pc := 92) h 5 [1, 2, 3, 4, 5, 0] (v := (l5 + (1 : Int32))) (lv' := [(0, .ref 46), (1, .int l1), (2, .int l2), (3, .int l3), (4, .int v6), (5, .int (l5 + (1 : Int32)))]) dX8_setTells_92 rfl rfl (by decide) rfl ?_
    refine k_goto (tgt := 59) (pc := 95) h dX8_setTells_95 rfl ?_
    have hk := Option.some.inj hk
    subst hk
    exact hz
  have LB59 : ∀ (w : WW) (l1 : Int32) (l2 : Int32) (l3 : Int32), ∀ (nn : Nat) (s : Int32 × Int32) (r : Int32), lpf (fun s : Int32 × Int32 => f_X8_setTells_b59 w l1 l2 l3 s.1 s.2) nn s = some r → (fun r : Int32 => G 98 [(0, .ref 46), (1, .int l1), (2, .int l2), (3, .int l3), (4, .int r)] [] w) r → (fun s : Int32 × Int32 => G 59 [(0, .ref 46), (1, .int l1), (2, .int l2), (3, .int l3), (4, .int s.1), (5, .int s.2)] [] w) s := by
    intro w l1 l2 l3
    refine lpf_ind (fun s : Int32 × Int32 => G 59 [(0, .ref 46), (1, .int l1), (2, .int l2), (3, .int l3), (4, .int s.1), (5, .int s.2)] [] w) (fun r : Int32 => G 98 [(0, .ref 46), (1, .int l1), (2, .int l2), (3, .int l3), (4, .int r)] [] w) ?_
    rintro ⟨l4, l5⟩ z hk hz
    have hk : f_X8_setTells_b59 w l1 l2 l3 l4 l5 = some z := hk
    unfold f_X8_setTells_b59 at hk
    show G 59 [(0, .ref 46), (1, .int l1), (2, .int l2), (3, .int l3), (4, .int l4), (5, .int l5)] [] w
    refine k_iload (pc := 59) h 5 dX8_setTells_59 rfl ?_
    refine k_aload_n (pc := 61) h 0 dX8_setTells_61 rfl ?_
    refine k_geti (pc := 62) h fl_X8_75 ly_46 rfl dX8_setTells_62 ?_
    refine k_icmp_ge (tgt := 98) (pc := 65) h dX8_setTells_65 rfl hk (fun hc hk => ?_) (fun hc hk => ?_)
    · refine k_sub h [0, 1, 2, 3, 4] (lv' := [(0, .ref 46), (1, .int l1), (2, .int l2), (3, .int l3), (4, .int l4)]) rfl ?_
      have hk := Option.some.inj hk
      subst hk
      exact hz
    · refine k_iload (pc := 68) h 4 dX8_setTells_68 rfl ?_
      refine k_aload_n (pc := 70) h 0 dX8_setTells_70 rfl ?_
      refine k_iload (pc := 71) h 5 dX8_setTells_71 rfl ?_
      refine k_iload_n (pc := 73) h 2 dX8_setTells_73 rfl ?_
      refine k_iload_n (pc := 74) h 3 dX8_setTells_74 rfl ?_
      obtain ⟨p5, hc4, hk⟩ := bd_some hk
      refine k_callV1 (pc := 75) h (c_X8_parts hc4) cw_X8_201 ly_46 rfl ⟨⟨by decide, by decide⟩, Nat.zero_le _, Nat.zero_le _⟩ rfl (Nat.le_of_ble_eq_true rfl) dX8_setTells_75 ?_
      refine k_if_eq (tgt := 88) (pc := 78) h dX8_setTells_78 rfl hk (fun hc hk => ?_) (fun hc hk => ?_)
      · refine k_iconst (pc := 88) h (x := (0 : Int32)) dX8_setTells_88 (by decide) ?_
        refine k_sub h [0, 1, 2, 3, 5] (lv' := [(0, .ref 46), (1, .int l1), (2, .int l2), (3, .int l3), (5, .int l5)]) rfl ?_
        exact EJ89 _ _ _ _ _ _ _ _ hk hz
      · refine k_iconst (pc := 81) h (x := (1 : Int32)) dX8_setTells_81 (by decide) ?_
        refine k_iload (pc := 82) h 5 dX8_setTells_82 rfl ?_
        refine k_ishl (pc := 84) h dX8_setTells_84 ?_
        refine k_goto (tgt := 89) (pc := 85) h dX8_setTells_85 rfl ?_
        refine k_sub h [0, 1, 2, 3, 5] (lv' := [(0, .ref 46), (1, .int l1), (2, .int l2), (3, .int l3), (5, .int l5)]) rfl ?_
        exact EJ89 _ _ _ _ _ _ _ _ hk hz
  have EJ154 : ∀ (w : WW) (l1 : Int32) (l2 : Int32) (l3 : Int32) (l4 : Int32) (l5 : Int32) (s0 : Int32) (s1 : Int32) (z : (Int32 × WW) ⊕ (WW)), f_X8_setTells_j154 w l1 l2 l3 l4 l5 s0 s1 = some z → Sum.elim (fun s : Int32 × WW => G 101 [(0, .ref 46), (1, .int l1), (2, .int l2), (3, .int l3), (4, .int l4), (5, .int s.1)] [] s.2) (fun r : WW => G 161 [(0, .ref 46), (1, .int l1), (2, .int l2), (3, .int l3)] [] r) z → G 154 [(0, .ref 46), (1, .int l1), (2, .int l2), (3, .int l3), (4, .int l4), (5, .int l5)] [.int s0, .int s1, .ref 57] w := by
    intro w l1 l2 l3 l4 l5 s0 s1 z hk hz
    unfold f_X8_setTells_j154 at hk
    refine k_zast (pc := 154) h ly_57 dX8_setTells_154 hk (fun u13 hk => ?_)
    refine k_iinc (pc := 155) h 5 [1, 2, 3, 4, 5, 0] (v := (l5 + (1 : Int32))) (lv' := [(0, .ref 46), (1, .int l1), (2, .int l2), (3, .int l3), (4, .int l4), (5, .int (l5 + (1 : Int32)))]) dX8_setTells_155 rfl rfl (by decide) rfl ?_
    refine k_goto (tgt := 101) (pc := 158) h dX8_setTells_158 rfl ?_
    have hk := Option.some.inj hk
    subst hk
    exact hz
  have EJ153 : ∀ (w : WW) (l1 : Int32) (l2 : Int32) (l3 : Int32) (l4 : Int32) (l5 : Int32) (s0 : Int32) (z : (Int32 × WW) ⊕ (WW)), f_X8_setTells_j153 w l1 l2 l3 l4 l5 s0 = some z → Sum.elim (fun s : Int32 × WW => G 101 [(0, .ref 46), (1, .int l1), (2, .int l2), (3, .int l3), (4, .int l4), (5, .int s.1)] [] s.2) (fun r : WW => G 161 [(0, .ref 46), (1, .int l1), (2, .int l2), (3, .int l3)] [] r) z → G 153 [(0, .ref 46), (1, .int l1), (2, .int l2), (3, .int l3), (4, .int l4), (5, .int l5)] [.int s0, .ref 57] w := by
    intro w l1 l2 l3 l4 l5 s0 z hk hz
    unfold f_X8_setTells_j153 at hk
    refine k_iconst (pc := 153) h (x := (0 : Int32)) dX8_setTells_153 (by decide) ?_
    exact EJ154 _ _ _ _ _ _ _ _ _ hk hz
  have LB101 : ∀ (l1 : Int32) (l2 : Int32) (l3 : Int32) (l4 : Int32), ∀ (nn : Nat) (s : Int32 × WW) (r : WW), lpf (fun s : Int32 × WW => f_X8_setTells_b101 l1 l2 l3 l4 s.1 s.2) nn s = some r → (fun r : WW => G 161 [(0, .ref 46), (1, .int l1), (2, .int l2), (3, .int l3)] [] r) r → (fun s : Int32 × WW => G 101 [(0, .ref 46), (1, .int l1), (2, .int l2), (3, .int l3), (4, .int l4), (5, .int s.1)] [] s.2) s := by
    intro l1 l2 l3 l4
    refine lpf_ind (fun s : Int32 × WW => G 101 [(0, .ref 46), (1, .int l1), (2, .int l2), (3, .int l3), (4, .int l4), (5, .int s.1)] [] s.2) (fun r : WW => G 161 [(0, .ref 46), (1, .int l1), (2, .int l2), (3, .int l3)] [] r) ?_
    rintro ⟨l5, w⟩ z hk hz
    have hk : f_X8_setTells_b101 l1 l2 l3 l4 l5 w = some z := hk
    unfold f_X8_setTells_b101 at hk
    show G 101 [(0, .ref 46), (1, .int l1), (2, .int l2), (3, .int l3), (4, .int l4), (5, .int l5)] [] w
    refine k_iload (pc := 101) h 5 dX8_setTells_101 rfl ?_
    refine k_sipush (pc := 103) h (x := (128 : Int32)) dX8_setTells_103 (by decide) ?_
    refine k_icmp_ge (tgt := 161) (pc := 106) h dX8_setTells_106 rfl hk (fun hc hk => ?_) (fun hc hk => ?_)
    · refine k_sub h [0, 1, 2, 3] (lv' := [(0, .ref 46), (1, .int l1), (2, .int l2), (3, .int l3)]) rfl ?_
      have hk := Option.some.inj hk
      subst hk
      exact hz
    · refine k_iload_n (pc := 109) h 1 dX8_setTells_109 rfl ?_
      refine k_iload_n (pc := 110) h 2 dX8_setTells_110 rfl ?_
      obtain ⟨p10, hc9, hk⟩ := bd_some hk
      refine k_callS1 (pc := 111) h (c_X8_has hc9) cw_X8_188 ⟨⟨by decide, by decide⟩, Nat.zero_le _, Nat.zero_le _⟩ rfl (Nat.le_of_ble_eq_true rfl) dX8_setTells_111 ?_
      refine k_if_eq (tgt := 161) (pc := 114) h dX8_setTells_114 rfl hk (fun hc hk => ?_) (fun hc hk => ?_)
      · refine k_sub h [0, 1, 2, 3] (lv' := [(0, .ref 46), (1, .int l1), (2, .int l2), (3, .int l3)]) rfl ?_
        have hk := Option.some.inj hk
        subst hk
        exact hz
      · refine k_iload_n (pc := 117) h 1 dX8_setTells_117 rfl ?_
        refine k_iload_n (pc := 118) h 3 dX8_setTells_118 rfl ?_
        obtain ⟨p12, hc11, hk⟩ := bd_some hk
        refine k_callS1 (pc := 119) h (c_X8_has hc11) cw_X8_188 ⟨⟨by decide, by decide⟩, Nat.zero_le _, Nat.zero_le _⟩ rfl (Nat.le_of_ble_eq_true rfl) dX8_setTells_119 ?_
        refine k_if_eq (tgt := 161) (pc := 122) h dX8_setTells_122 rfl hk (fun hc hk => ?_) (fun hc hk => ?_)
        · refine k_sub h [0, 1, 2, 3] (lv' := [(0, .ref 46), (1, .int l1), (2, .int l2), (3, .int l3)]) rfl ?_
          have hk := Option.some.inj hk
          subst hk
          exact hz
        · refine k_aload_n (pc := 125) h 0 dX8_setTells_125 rfl ?_
          refine k_getr (pc := 126) h fl_X8_44 ly_46 rfl dX8_setTells_126 ?_
          refine k_iload (pc := 129) h 5 dX8_setTells_129 rfl ?_
          refine k_aload_n (pc := 131) h 0 dX8_setTells_131 rfl ?_
          refine k_getr (pc := 132) h fl_X8_44 ly_46 rfl dX8_setTells_132 ?_
          refine k_iload (pc := 135) h 5 dX8_setTells_135 rfl ?_
          refine k_zald (pc := 137) h ly_57 dX8_setTells_137 hk (fun hk => ?_)
          refine k_if_eq (tgt := 153) (pc := 138) h dX8_setTells_138 rfl hk (fun hc hk => ?_) (fun hc hk => ?_)
          · exact EJ153 _ _ _ _ _ _ _ _ hk hz
          · refine k_iload (pc := 141) h 5 dX8_setTells_141 rfl ?_
            refine k_iload (pc := 143) h 4 dX8_setTells_143 rfl ?_
            refine k_iand (pc := 145) h dX8_setTells_145 ?_
            refine k_if_eq (tgt := 153) (pc := 146) h dX8_setTells_146 rfl hk (fun hc hk => ?_) (fun hc hk => ?_)
            · exact EJ153 _ _ _ _ _ _ _ _ hk hz
            · refine k_iconst (pc := 149) h (x := (1 : Int32)) dX8_setTells_149 (by decide) ?_
              refine k_goto (tgt := 154) (pc := 150) h dX8_setTells_150 rfl ?_
              exact EJ154 _ _ _ _ _ _ _ _ _ hk hz
  have LB48 : ∀ (l1 : Int32) (l2 : Int32), ∀ (nn : Nat) (s : Int32 × WW) (r : WW), lpf (fun s : Int32 × WW => f_X8_setTells_b48 l1 l2 s.1 s.2) nn s = some r → (fun r : WW => G 167 [(0, .ref 46), (1, .int l1), (2, .int l2)] [] r) r → (fun s : Int32 × WW => G 48 [(0, .ref 46), (1, .int l1), (2, .int l2), (3, .int s.1)] [] s.2) s := by
    intro l1 l2
    refine lpf_ind (fun s : Int32 × WW => G 48 [(0, .ref 46), (1, .int l1), (2, .int l2), (3, .int s.1)] [] s.2) (fun r : WW => G 167 [(0, .ref 46), (1, .int l1), (2, .int l2)] [] r) ?_
    rintro ⟨l3, w⟩ z hk hz
    have hk : f_X8_setTells_b48 l1 l2 l3 w = some z := hk
    unfold f_X8_setTells_b48 at hk
    show G 48 [(0, .ref 46), (1, .int l1), (2, .int l2), (3, .int l3)] [] w
    refine k_iload_n (pc := 48) h 3 dX8_setTells_48 rfl ?_
    refine k_iload_n (pc := 49) h 2 dX8_setTells_49 rfl ?_
    refine k_icmp_ge (tgt := 167) (pc := 50) h dX8_setTells_50 rfl hk (fun hc hk => ?_) (fun hc hk => ?_)
    · refine k_sub h [0, 1, 2] (lv' := [(0, .ref 46), (1, .int l1), (2, .int l2)]) rfl ?_
      have hk := Option.some.inj hk
      subst hk
      exact hz
    · refine k_iconst (pc := 53) h (x := (0 : Int32)) dX8_setTells_53 (by decide) ?_
      refine k_istore (pc := 54) h [1, 2, 3, 4, 0] (lv' := [(0, .ref 46), (1, .int l1), (2, .int l2), (3, .int l3), (4, .int (0 : Int32))]) dX8_setTells_54 (by decide) rfl ?_
      refine k_iconst (pc := 56) h (x := (0 : Int32)) dX8_setTells_56 (by decide) ?_
      refine k_istore (pc := 57) h [1, 2, 3, 4, 5, 0] (lv' := [(0, .ref 46), (1, .int l1), (2, .int l2), (3, .int l3), (4, .int (0 : Int32)), (5, .int (0 : Int32))]) dX8_setTells_57 (by decide) rfl ?_
      obtain ⟨r7, hl8, hk⟩ := bd_some hk
      refine LB59 _ _ _ _ _ _ _ hl8 ?_
      show G 98 [(0, .ref 46), (1, .int l1), (2, .int l2), (3, .int l3), (4, .int r7)] [] w
      refine k_iconst (pc := 98) h (x := (0 : Int32)) dX8_setTells_98 (by decide) ?_
      refine k_istore (pc := 99) h [1, 2, 3, 4, 5, 0] (lv' := [(0, .ref 46), (1, .int l1), (2, .int l2), (3, .int l3), (4, .int r7), (5, .int (0 : Int32))]) dX8_setTells_99 (by decide) rfl ?_
      obtain ⟨r14, hl15, hk⟩ := bd_some hk
      refine LB101 _ _ _ _ _ _ _ hl15 ?_
      show G 161 [(0, .ref 46), (1, .int l1), (2, .int l2), (3, .int l3)] [] r14
      refine k_iinc (pc := 161) h 3 [1, 2, 3, 0] (v := (l3 + (1 : Int32))) (lv' := [(0, .ref 46), (1, .int l1), (2, .int l2), (3, .int (l3 + (1 : Int32)))]) dX8_setTells_161 rfl rfl (by decide) rfl ?_
      refine k_goto (tgt := 48) (pc := 164) h dX8_setTells_164 rfl ?_
      have hk := Option.some.inj hk
      subst hk
      exact hz
  have LB38 : ∀ (l1 : Int32), ∀ (nn : Nat) (s : Int32 × WW) (r : WW), lpf (fun s : Int32 × WW => f_X8_setTells_b38 l1 s.1 s.2) nn s = some r → (fun r : WW => G 173 [] [] r) r → (fun s : Int32 × WW => G 38 [(0, .ref 46), (1, .int l1), (2, .int s.1)] [] s.2) s := by
    intro l1
    refine lpf_ind (fun s : Int32 × WW => G 38 [(0, .ref 46), (1, .int l1), (2, .int s.1)] [] s.2) (fun r : WW => G 173 [] [] r) ?_
    rintro ⟨l2, w⟩ z hk hz
    have hk : f_X8_setTells_b38 l1 l2 w = some z := hk
    unfold f_X8_setTells_b38 at hk
    show G 38 [(0, .ref 46), (1, .int l1), (2, .int l2)] [] w
    refine k_iload_n (pc := 38) h 2 dX8_setTells_38 rfl ?_
    refine k_aload_n (pc := 39) h 0 dX8_setTells_39 rfl ?_
    refine k_geti (pc := 40) h fl_X8_13 ly_46 rfl dX8_setTells_40 ?_
    refine k_icmp_ge (tgt := 173) (pc := 43) h dX8_setTells_43 rfl hk (fun hc hk => ?_) (fun hc hk => ?_)
    · refine k_sub h [] (lv' := []) rfl ?_
      have hk := Option.some.inj hk
      subst hk
      exact hz
    · refine k_iconst (pc := 46) h (x := (0 : Int32)) dX8_setTells_46 (by decide) ?_
      refine k_istore_n (pc := 47) h [1, 2, 3, 0] (lv' := [(0, .ref 46), (1, .int l1), (2, .int l2), (3, .int (0 : Int32))]) dX8_setTells_47 rfl (by decide) rfl ?_
      obtain ⟨r16, hl17, hk⟩ := bd_some hk
      refine LB48 _ _ _ _ _ hl17 ?_
      show G 167 [(0, .ref 46), (1, .int l1), (2, .int l2)] [] r16
      refine k_iinc (pc := 167) h 2 [1, 2, 0] (v := (l2 + (1 : Int32))) (lv' := [(0, .ref 46), (1, .int l1), (2, .int (l2 + (1 : Int32)))]) dX8_setTells_167 rfl rfl (by decide) rfl ?_
      refine k_goto (tgt := 38) (pc := 170) h dX8_setTells_170 rfl ?_
      have hk := Option.some.inj hk
      subst hk
      exact hz
  refine k_iconst (pc := 0) h (x := (0 : Int32)) dX8_setTells_0 (by decide) ?_
  refine k_istore_n (pc := 1) h [1, 2, 0] (lv' := [(0, .ref 46), (1, .int l1), (2, .int (0 : Int32))]) dX8_setTells_1 rfl (by decide) rfl ?_
  obtain ⟨r2, hl3, hk⟩ := bd_some hk
  refine LB2 _ _ _ _ hl3 ?_
  show G 36 [(0, .ref 46), (1, .int l1)] [] r2
  refine k_iconst (pc := 36) h (x := (0 : Int32)) dX8_setTells_36 (by decide) ?_
  refine k_istore_n (pc := 37) h [1, 2, 0] (lv' := [(0, .ref 46), (1, .int l1), (2, .int (0 : Int32))]) dX8_setTells_37 rfl (by decide) rfl ?_
  obtain ⟨r18, hl19, hk⟩ := bd_some hk
  refine LB38 _ _ _ _ hl19 ?_
  show G 173 [] [] r18
  have hk := Option.some.inj hk
  subst hk
  exact k_vret (pc := 173) h dX8_setTells_173 ⟨rfl, rfl, rfl, rfl, rfl, rfl⟩
def f_X8_wordHere_j201 (w : WW) : Option (Int32) := some ((-1 : Int32))
def f_X8_wordHere_j150 (w : WW) (s0 : Int32) : Option (Int32) := if s0 = 0 then f_X8_wordHere_j201 w else (f_X8_letter w (4 : Int32)).bind (fun p4 => if p4 = (116 : Int32) then (f_X8_letter w (5 : Int32)).bind (fun p6 => if p6 = (105 : Int32) then (f_X8_letter w (6 : Int32)).bind (fun p8 => if p8 = (111 : Int32) then (f_X8_letter w (7 : Int32)).bind (fun p10 => if p10 = (110 : Int32) then some ((2 : Int32)) else f_X8_wordHere_j201 w) else f_X8_wordHere_j201 w) else f_X8_wordHere_j201 w) else f_X8_wordHere_j201 w)
def f_X8_wordHere_j149 (w : WW) : Option (Int32) := f_X8_wordHere_j150 w (0 : Int32)
def f_X8_wordHere_j99 (w : WW) (l1 : Int32) : Option (Int32) := if l1 = (8 : Int32) then (f_X8_letter w (0 : Int32)).bind (fun p12 => if p12 = (113 : Int32) then (f_X8_letter w (1 : Int32)).bind (fun p14 => if p14 = (117 : Int32) then (f_X8_letter w (2 : Int32)).bind (fun p16 => if p16 = (101 : Int32) then (f_X8_letter w (3 : Int32)).bind (fun p18 => if p18 = (115 : Int32) then f_X8_wordHere_j150 w (1 : Int32) else f_X8_wordHere_j149 w) else f_X8_wordHere_j149 w) else f_X8_wordHere_j149 w) else f_X8_wordHere_j149 w) else f_X8_wordHere_j149 w
def f_X8_wordHere_j52 (w : WW) (l1 : Int32) : Option (Int32) := if l1 = (4 : Int32) then (f_X8_letter w (0 : Int32)).bind (fun p20 => if p20 = (99 : Int32) then (f_X8_letter w (1 : Int32)).bind (fun p22 => if p22 = (97 : Int32) then (f_X8_letter w (2 : Int32)).bind (fun p24 => if p24 = (115 : Int32) then (f_X8_letter w (3 : Int32)).bind (fun p26 => if p26 = (101 : Int32) then some ((1 : Int32)) else f_X8_wordHere_j99 w l1) else f_X8_wordHere_j99 w l1) else f_X8_wordHere_j99 w l1) else f_X8_wordHere_j99 w l1) else f_X8_wordHere_j99 w l1
def f_X8_wordHere (w : WW) : Option (Int32) := (f_X8_wordSize w).bind (fun p2 => if p2 = (4 : Int32) then (f_X8_letter w (0 : Int32)).bind (fun p28 => if p28 = (102 : Int32) then (f_X8_letter w (1 : Int32)).bind (fun p30 => if p30 = (97 : Int32) then (f_X8_letter w (2 : Int32)).bind (fun p32 => if p32 = (105 : Int32) then (f_X8_letter w (3 : Int32)).bind (fun p34 => if p34 = (114 : Int32) then some ((0 : Int32)) else f_X8_wordHere_j52 w p2) else f_X8_wordHere_j52 w p2) else f_X8_wordHere_j52 w p2) else f_X8_wordHere_j52 w p2) else f_X8_wordHere_j52 w p2)
set_option maxRecDepth 20000 in
set_option maxHeartbeats 4000000 in
theorem c_X8_wordHere {w : WW} {z : Int32} (hk : f_X8_wordHere w = some z) : Cn 3 yX8_wordHere cX8_wordHere 3 (some .int) LAY [.ref 46] w (some (.int z)) w := by
  refine Cn.of (by decide +kernel) (Nat.le_of_ble_eq_true rfl) (fun G h => ?_)
  have h : Rules cX8_wordHere RX8 "wordHere" 3 (rmd 3 0 0) none _ _ LAY 0 0 G := h
  show G 0 [(0, .ref 46)] [] w
  unfold f_X8_wordHere at hk
  have EJ201 : f_X8_wordHere_j201 w = some z → G 201 [] [] w := by
    intro hk
    unfold f_X8_wordHere_j201 at hk
    refine k_iconst (pc := 201) h (x := (-1 : Int32)) dX8_wordHere_201 (by decide) ?_
    have hk := Option.some.inj hk
    subst hk
    exact k_iret (pc := 202) h dX8_wordHere_202 ⟨rfl, rfl, rfl, rfl, rfl, ⟨.int, rfl, rfl⟩⟩
  have EJ150 : ∀ (s0 : Int32), f_X8_wordHere_j150 w s0 = some z → G 150 [(0, .ref 46)] [.int s0] w := by
    intro s0 hk
    unfold f_X8_wordHere_j150 at hk
    refine k_istore_n (pc := 150) h [1, 0] (lv' := [(0, .ref 46), (2, .int s0)]) dX8_wordHere_150 rfl (by decide) rfl ?_
    refine k_iload_n (pc := 151) h 1 dX8_wordHere_151 rfl ?_
    refine k_if_eq (tgt := 201) (pc := 152) h dX8_wordHere_152 rfl hk (fun hc hk => ?_) (fun hc hk => ?_)
    · refine k_sub h [] (lv' := []) rfl ?_
      exact EJ201 hk
    · refine k_aload_n (pc := 155) h 0 dX8_wordHere_155 rfl ?_
      refine k_iconst (pc := 156) h (x := (4 : Int32)) dX8_wordHere_156 (by decide) ?_
      obtain ⟨p4, hc3, hk⟩ := bd_some hk
      refine k_callV1 (pc := 157) h (c_X8_letter hc3) cw_X8_121 ly_46 rfl ⟨⟨by decide, by decide⟩, Nat.zero_le _, Nat.zero_le _⟩ rfl (Nat.le_of_ble_eq_true rfl) dX8_wordHere_157 ?_
      refine k_bipush (pc := 160) h (x := (116 : Int32)) dX8_wordHere_160 (by decide) ?_
      refine k_icmp_ne (tgt := 201) (pc := 162) h dX8_wordHere_162 rfl hk (fun hc hk => ?_) (fun hc hk => ?_)
      · refine k_sub h [] (lv' := []) rfl ?_
        exact EJ201 hk
      · refine k_aload_n (pc := 165) h 0 dX8_wordHere_165 rfl ?_
        refine k_iconst (pc := 166) h (x := (5 : Int32)) dX8_wordHere_166 (by decide) ?_
        obtain ⟨p6, hc5, hk⟩ := bd_some hk
        refine k_callV1 (pc := 167) h (c_X8_letter hc5) cw_X8_121 ly_46 rfl ⟨⟨by decide, by decide⟩, Nat.zero_le _, Nat.zero_le _⟩ rfl (Nat.le_of_ble_eq_true rfl) dX8_wordHere_167 ?_
        refine k_bipush (pc := 170) h (x := (105 : Int32)) dX8_wordHere_170 (by decide) ?_
        refine k_icmp_ne (tgt := 201) (pc := 172) h dX8_wordHere_172 rfl hk (fun hc hk => ?_) (fun hc hk => ?_)
        · refine k_sub h [] (lv' := []) rfl ?_
          exact EJ201 hk
        · refine k_aload_n (pc := 175) h 0 dX8_wordHere_175 rfl ?_
          refine k_bipush (pc := 176) h (x := (6 : Int32)) dX8_wordHere_176 (by decide) ?_
          obtain ⟨p8, hc7, hk⟩ := bd_some hk
          refine k_callV1 (pc := 178) h (c_X8_letter hc7) cw_X8_121 ly_46 rfl ⟨⟨by decide, by decide⟩, Nat.zero_le _, Nat.zero_le _⟩ rfl (Nat.le_of_ble_eq_true rfl) dX8_wordHere_178 ?_
          refine k_bipush (pc := 181) h (x := (111 : Int32)) dX8_wordHere_181 (by decide) ?_
          refine k_icmp_ne (tgt := 201) (pc := 183) h dX8_wordHere_183 rfl hk (fun hc hk => ?_) (fun hc hk => ?_)
          · refine k_sub h [] (lv' := []) rfl ?_
            exact EJ201 hk
          · refine k_aload_n (pc := 186) h 0 dX8_wordHere_186 rfl ?_
            refine k_bipush (pc := 187) h (x := (7 : Int32)) dX8_wordHere_187 (by decide) ?_
            obtain ⟨p10, hc9, hk⟩ := bd_some hk
            refine k_callV1 (pc := 189) h (c_X8_letter hc9) cw_X8_121 ly_46 rfl ⟨⟨by decide, by decide⟩, Nat.zero_le _, Nat.zero_le _⟩ rfl (Nat.le_of_ble_eq_true rfl) dX8_wordHere_189 ?_
            refine k_bipush (pc := 192) h (x := (110 : Int32)) dX8_wordHere_192 (by decide) ?_
            refine k_icmp_ne (tgt := 201) (pc := 194) h dX8_wordHere_194 rfl hk (fun hc hk => ?_) (fun hc hk => ?_)
            · refine k_sub h [] (lv' := []) rfl ?_
              exact EJ201 hk
            · refine k_iconst (pc := 197) h (x := (2 : Int32)) dX8_wordHere_197 (by decide) ?_
              refine k_goto (tgt := 202) (pc := 198) h dX8_wordHere_198 rfl ?_
              have hk := Option.some.inj hk
              subst hk
              exact k_iret (pc := 202) h dX8_wordHere_202 ⟨rfl, rfl, rfl, rfl, rfl, ⟨.int, rfl, rfl⟩⟩
  have EJ149 : f_X8_wordHere_j149 w = some z → G 149 [(0, .ref 46)] [] w := by
    intro hk
    unfold f_X8_wordHere_j149 at hk
    refine k_iconst (pc := 149) h (x := (0 : Int32)) dX8_wordHere_149 (by decide) ?_
    exact EJ150 _ hk
  have EJ99 : ∀ (l1 : Int32), f_X8_wordHere_j99 w l1 = some z → G 99 [(0, .ref 46), (1, .int l1)] [] w := by
    intro l1 hk
    unfold f_X8_wordHere_j99 at hk
    refine k_iload_n (pc := 99) h 1 dX8_wordHere_99 rfl ?_
    refine k_bipush (pc := 100) h (x := (8 : Int32)) dX8_wordHere_100 (by decide) ?_
    refine k_icmp_ne (tgt := 149) (pc := 102) h dX8_wordHere_102 rfl hk (fun hc hk => ?_) (fun hc hk => ?_)
    · refine k_sub h [0] (lv' := [(0, .ref 46)]) rfl ?_
      exact EJ149 hk
    · refine k_aload_n (pc := 105) h 0 dX8_wordHere_105 rfl ?_
      refine k_iconst (pc := 106) h (x := (0 : Int32)) dX8_wordHere_106 (by decide) ?_
      obtain ⟨p12, hc11, hk⟩ := bd_some hk
      refine k_callV1 (pc := 107) h (c_X8_letter hc11) cw_X8_121 ly_46 rfl ⟨⟨by decide, by decide⟩, Nat.zero_le _, Nat.zero_le _⟩ rfl (Nat.le_of_ble_eq_true rfl) dX8_wordHere_107 ?_
      refine k_bipush (pc := 110) h (x := (113 : Int32)) dX8_wordHere_110 (by decide) ?_
      refine k_icmp_ne (tgt := 149) (pc := 112) h dX8_wordHere_112 rfl hk (fun hc hk => ?_) (fun hc hk => ?_)
      · refine k_sub h [0] (lv' := [(0, .ref 46)]) rfl ?_
        exact EJ149 hk
      · refine k_aload_n (pc := 115) h 0 dX8_wordHere_115 rfl ?_
        refine k_iconst (pc := 116) h (x := (1 : Int32)) dX8_wordHere_116 (by decide) ?_
        obtain ⟨p14, hc13, hk⟩ := bd_some hk
        refine k_callV1 (pc := 117) h (c_X8_letter hc13) cw_X8_121 ly_46 rfl ⟨⟨by decide, by decide⟩, Nat.zero_le _, Nat.zero_le _⟩ rfl (Nat.le_of_ble_eq_true rfl) dX8_wordHere_117 ?_
        refine k_bipush (pc := 120) h (x := (117 : Int32)) dX8_wordHere_120 (by decide) ?_
        refine k_icmp_ne (tgt := 149) (pc := 122) h dX8_wordHere_122 rfl hk (fun hc hk => ?_) (fun hc hk => ?_)
        · refine k_sub h [0] (lv' := [(0, .ref 46)]) rfl ?_
          exact EJ149 hk
        · refine k_aload_n (pc := 125) h 0 dX8_wordHere_125 rfl ?_
          refine k_iconst (pc := 126) h (x := (2 : Int32)) dX8_wordHere_126 (by decide) ?_
          obtain ⟨p16, hc15, hk⟩ := bd_some hk
          refine k_callV1 (pc := 127) h (c_X8_letter hc15) cw_X8_121 ly_46 rfl ⟨⟨by decide, by decide⟩, Nat.zero_le _, Nat.zero_le _⟩ rfl (Nat.le_of_ble_eq_true rfl) dX8_wordHere_127 ?_
          refine k_bipush (pc := 130) h (x := (101 : Int32)) dX8_wordHere_130 (by decide) ?_
          refine k_icmp_ne (tgt := 149) (pc := 132) h dX8_wordHere_132 rfl hk (fun hc hk => ?_) (fun hc hk => ?_)
          · refine k_sub h [0] (lv' := [(0, .ref 46)]) rfl ?_
            exact EJ149 hk
          · refine k_aload_n (pc := 135) h 0 dX8_wordHere_135 rfl ?_
            refine k_iconst (pc := 136) h (x := (3 : Int32)) dX8_wordHere_136 (by decide) ?_
            obtain ⟨p18, hc17, hk⟩ := bd_some hk
            refine k_callV1 (pc := 137) h (c_X8_letter hc17) cw_X8_121 ly_46 rfl ⟨⟨by decide, by decide⟩, Nat.zero_le _, Nat.zero_le _⟩ rfl (Nat.le_of_ble_eq_true rfl) dX8_wordHere_137 ?_
            refine k_bipush (pc := 140) h (x := (115 : Int32)) dX8_wordHere_140 (by decide) ?_
            refine k_icmp_ne (tgt := 149) (pc := 142) h dX8_wordHere_142 rfl hk (fun hc hk => ?_) (fun hc hk => ?_)
            · refine k_sub h [0] (lv' := [(0, .ref 46)]) rfl ?_
              exact EJ149 hk
            · refine k_iconst (pc := 145) h (x := (1 : Int32)) dX8_wordHere_145 (by decide) ?_
              refine k_goto (tgt := 150) (pc := 146) h dX8_wordHere_146 rfl ?_
              refine k_sub h [0] (lv' := [(0, .ref 46)]) rfl ?_
              exact EJ150 _ hk
  have EJ52 : ∀ (l1 : Int32), f_X8_wordHere_j52 w l1 = some z → G 52 [(0, .ref 46), (1, .int l1)] [] w := by
    intro l1 hk
    unfold f_X8_wordHere_j52 at hk
    refine k_iload_n (pc := 52) h 1 dX8_wordHere_52 rfl ?_
    refine k_iconst (pc := 53) h (x := (4 : Int32)) dX8_wordHere_53 (by decide) ?_
    refine k_icmp_ne (tgt := 99) (pc := 54) h dX8_wordHere_54 rfl hk (fun hc hk => ?_) (fun hc hk => ?_)
    · exact EJ99 _ hk
    · refine k_aload_n (pc := 57) h 0 dX8_wordHere_57 rfl ?_
      refine k_iconst (pc := 58) h (x := (0 : Int32)) dX8_wordHere_58 (by decide) ?_
      obtain ⟨p20, hc19, hk⟩ := bd_some hk
      refine k_callV1 (pc := 59) h (c_X8_letter hc19) cw_X8_121 ly_46 rfl ⟨⟨by decide, by decide⟩, Nat.zero_le _, Nat.zero_le _⟩ rfl (Nat.le_of_ble_eq_true rfl) dX8_wordHere_59 ?_
      refine k_bipush (pc := 62) h (x := (99 : Int32)) dX8_wordHere_62 (by decide) ?_
      refine k_icmp_ne (tgt := 99) (pc := 64) h dX8_wordHere_64 rfl hk (fun hc hk => ?_) (fun hc hk => ?_)
      · exact EJ99 _ hk
      · refine k_aload_n (pc := 67) h 0 dX8_wordHere_67 rfl ?_
        refine k_iconst (pc := 68) h (x := (1 : Int32)) dX8_wordHere_68 (by decide) ?_
        obtain ⟨p22, hc21, hk⟩ := bd_some hk
        refine k_callV1 (pc := 69) h (c_X8_letter hc21) cw_X8_121 ly_46 rfl ⟨⟨by decide, by decide⟩, Nat.zero_le _, Nat.zero_le _⟩ rfl (Nat.le_of_ble_eq_true rfl) dX8_wordHere_69 ?_
        refine k_bipush (pc := 72) h (x := (97 : Int32)) dX8_wordHere_72 (by decide) ?_
        refine k_icmp_ne (tgt := 99) (pc := 74) h dX8_wordHere_74 rfl hk (fun hc hk => ?_) (fun hc hk => ?_)
        · exact EJ99 _ hk
        · refine k_aload_n (pc := 77) h 0 dX8_wordHere_77 rfl ?_
          refine k_iconst (pc := 78) h (x := (2 : Int32)) dX8_wordHere_78 (by decide) ?_
          obtain ⟨p24, hc23, hk⟩ := bd_some hk
          refine k_callV1 (pc := 79) h (c_X8_letter hc23) cw_X8_121 ly_46 rfl ⟨⟨by decide, by decide⟩, Nat.zero_le _, Nat.zero_le _⟩ rfl (Nat.le_of_ble_eq_true rfl) dX8_wordHere_79 ?_
          refine k_bipush (pc := 82) h (x := (115 : Int32)) dX8_wordHere_82 (by decide) ?_
          refine k_icmp_ne (tgt := 99) (pc := 84) h dX8_wordHere_84 rfl hk (fun hc hk => ?_) (fun hc hk => ?_)
          · exact EJ99 _ hk
          · refine k_aload_n (pc := 87) h 0 dX8_wordHere_87 rfl ?_
            refine k_iconst (pc := 88) h (x := (3 : Int32)) dX8_wordHere_88 (by decide) ?_
            obtain ⟨p26, hc25, hk⟩ := bd_some hk
            refine k_callV1 (pc := 89) h (c_X8_letter hc25) cw_X8_121 ly_46 rfl ⟨⟨by decide, by decide⟩, Nat.zero_le _, Nat.zero_le _⟩ rfl (Nat.le_of_ble_eq_true rfl) dX8_wordHere_89 ?_
            refine k_bipush (pc := 92) h (x := (101 : Int32)) dX8_wordHere_92 (by decide) ?_
            refine k_icmp_ne (tgt := 99) (pc := 94) h dX8_wordHere_94 rfl hk (fun hc hk => ?_) (fun hc hk => ?_)
            · exact EJ99 _ hk
            · refine k_iconst (pc := 97) h (x := (1 : Int32)) dX8_wordHere_97 (by decide) ?_
              have hk := Option.some.inj hk
              subst hk
              exact k_iret (pc := 98) h dX8_wordHere_98 ⟨rfl, rfl, rfl, rfl, rfl, ⟨.int, rfl, rfl⟩⟩
  refine k_aload_n (pc := 0) h 0 dX8_wordHere_0 rfl ?_
  obtain ⟨p2, hc1, hk⟩ := bd_some hk
  refine k_callV1 (pc := 1) h (c_X8_wordSize hc1) cw_X8_118 ly_46 rfl ⟨⟨by decide, by decide⟩, Nat.zero_le _, Nat.zero_le _⟩ rfl (Nat.le_of_ble_eq_true rfl) dX8_wordHere_1 ?_
  refine k_istore_n (pc := 4) h [1, 0] (lv' := [(0, .ref 46), (1, .int p2)]) dX8_wordHere_4 rfl (by decide) rfl ?_
  refine k_iload_n (pc := 5) h 1 dX8_wordHere_5 rfl ?_
  refine k_iconst (pc := 6) h (x := (4 : Int32)) dX8_wordHere_6 (by decide) ?_
  refine k_icmp_ne (tgt := 52) (pc := 7) h dX8_wordHere_7 rfl hk (fun hc hk => ?_) (fun hc hk => ?_)
  · exact EJ52 _ hk
  · refine k_aload_n (pc := 10) h 0 dX8_wordHere_10 rfl ?_
    refine k_iconst (pc := 11) h (x := (0 : Int32)) dX8_wordHere_11 (by decide) ?_
    obtain ⟨p28, hc27, hk⟩ := bd_some hk
    refine k_callV1 (pc := 12) h (c_X8_letter hc27) cw_X8_121 ly_46 rfl ⟨⟨by decide, by decide⟩, Nat.zero_le _, Nat.zero_le _⟩ rfl (Nat.le_of_ble_eq_true rfl) dX8_wordHere_12 ?_
    refine k_bipush (pc := 15) h (x := (102 : Int32)) dX8_wordHere_15 (by decide) ?_
    refine k_icmp_ne (tgt := 52) (pc := 17) h dX8_wordHere_17 rfl hk (fun hc hk => ?_) (fun hc hk => ?_)
    · exact EJ52 _ hk
    · refine k_aload_n (pc := 20) h 0 dX8_wordHere_20 rfl ?_
      refine k_iconst (pc := 21) h (x := (1 : Int32)) dX8_wordHere_21 (by decide) ?_
      obtain ⟨p30, hc29, hk⟩ := bd_some hk
      refine k_callV1 (pc := 22) h (c_X8_letter hc29) cw_X8_121 ly_46 rfl ⟨⟨by decide, by decide⟩, Nat.zero_le _, Nat.zero_le _⟩ rfl (Nat.le_of_ble_eq_true rfl) dX8_wordHere_22 ?_
      refine k_bipush (pc := 25) h (x := (97 : Int32)) dX8_wordHere_25 (by decide) ?_
      refine k_icmp_ne (tgt := 52) (pc := 27) h dX8_wordHere_27 rfl hk (fun hc hk => ?_) (fun hc hk => ?_)
      · exact EJ52 _ hk
      · refine k_aload_n (pc := 30) h 0 dX8_wordHere_30 rfl ?_
        refine k_iconst (pc := 31) h (x := (2 : Int32)) dX8_wordHere_31 (by decide) ?_
        obtain ⟨p32, hc31, hk⟩ := bd_some hk
        refine k_callV1 (pc := 32) h (c_X8_letter hc31) cw_X8_121 ly_46 rfl ⟨⟨by decide, by decide⟩, Nat.zero_le _, Nat.zero_le _⟩ rfl (Nat.le_of_ble_eq_true rfl) dX8_wordHere_32 ?_
        refine k_bipush (pc := 35) h (x := (105 : Int32)) dX8_wordHere_35 (by decide) ?_
        refine k_icmp_ne (tgt := 52) (pc := 37) h dX8_wordHere_37 rfl hk (fun hc hk => ?_) (fun hc hk => ?_)
        · exact EJ52 _ hk
        · refine k_aload_n (pc := 40) h 0 dX8_wordHere_40 rfl ?_
          refine k_iconst (pc := 41) h (x := (3 : Int32)) dX8_wordHere_41 (by decide) ?_
          obtain ⟨p34, hc33, hk⟩ := bd_some hk
          refine k_callV1 (pc := 42) h (c_X8_letter hc33) cw_X8_121 ly_46 rfl ⟨⟨by decide, by decide⟩, Nat.zero_le _, Nat.zero_le _⟩ rfl (Nat.le_of_ble_eq_true rfl) dX8_wordHere_42 ?_
          refine k_bipush (pc := 45) h (x := (114 : Int32)) dX8_wordHere_45 (by decide) ?_
          refine k_icmp_ne (tgt := 52) (pc := 47) h dX8_wordHere_47 rfl hk (fun hc hk => ?_) (fun hc hk => ?_)
          · exact EJ52 _ hk
          · refine k_iconst (pc := 50) h (x := (0 : Int32)) dX8_wordHere_50 (by decide) ?_
            have hk := Option.some.inj hk
            subst hk
            exact k_iret (pc := 51) h dX8_wordHere_51 ⟨rfl, rfl, rfl, rfl, rfl, ⟨.int, rfl, rfl⟩⟩
def f_J0_charAt_5068e (si : Nat) (w : WW) (l1 : Int32) : Option (Int32) := (f_J0_isLatin1_aae02 si w).bind (fun p2 => if p2 = 0 then none else (f_J1_charAt_3b067 si w l1).bind (fun p4 => gd (narrow .char (.int p4) = Value.int p4) (some (p4))))
set_option maxRecDepth 20000 in
set_option maxHeartbeats 4000000 in
theorem c_J0_charAt_5068e {lay : List LyS} {si : Nat} (hsi : si < 3) {w : WW} {l1 : Int32} {z : Int32} (hk : f_J0_charAt_5068e si w l1 = some z) : Cn 4 yJ0_charAt_5068e cJ0_charAt_5068e 2 (some .char) lay [.ref (1000000 + si), .int l1] w (some (.int z)) w := by
  refine Cn.of (by decide +kernel) (Nat.le_of_ble_eq_true rfl) (fun G h => ?_)
  have h : Rules cJ0_charAt_5068e RJ0 "charAt" 2 (rmd 4 0 0) none _ _ lay 0 0 G := h
  show G 0 [(0, .ref (1000000 + si)), (1, .int l1)] [] w
  unfold f_J0_charAt_5068e at hk
  refine k_aload_n (pc := 0) h 0 dJ0_charAt_5068e_0 rfl ?_
  obtain ⟨p2, hc1, hk⟩ := bd_some hk
  refine k_callVS1 (pc := 1) h (c_J0_isLatin1_aae02 hsi hc1) cw_J0_492 hsi ⟨⟨by decide, by decide⟩, Nat.zero_le _, Nat.zero_le _⟩ rfl (Nat.le_of_ble_eq_true rfl) dJ0_charAt_5068e_1 ?_
  refine k_if_eq (tgt := 16) (pc := 4) h dJ0_charAt_5068e_4 rfl hk (fun hc hk => ?_) (fun hc hk => ?_)
  · cases hk
  · refine k_aload_n (pc := 7) h 0 dJ0_charAt_5068e_7 rfl ?_
    refine k_getSv (pc := 8) h hsi fj_J0_9 dJ0_charAt_5068e_8 ?_
    refine k_iload_n (pc := 11) h 1 dJ0_charAt_5068e_11 rfl ?_
    obtain ⟨p4, hc3, hk⟩ := bd_some hk
    refine k_callS1 (pc := 12) h (c_J1_charAt_3b067 hsi hc3) cw_J0_495 ⟨⟨by decide, by decide⟩, Nat.zero_le _, Nat.zero_le _⟩ rfl (Nat.le_of_ble_eq_true rfl) dJ0_charAt_5068e_12 ?_
    obtain ⟨hg, hk⟩ := gd_some hk
    have hk := Option.some.inj hk
    subst hk
    exact k_iret (pc := 15) h dJ0_charAt_5068e_15 ⟨rfl, rfl, rfl, rfl, rfl, ⟨.char, rfl, hg⟩⟩
def f_X2_lay_j81 (b : Nat) (w : WW) (l2 : Int32) (l3 : Int32) (l4 : Int32) (l5 : Int32) : Option ((Int32 × Int32 × WW) ⊕ (WW)) := some (.inl (l4, (l5 + (1 : Int32)), w))
def f_X2_lay_b32 (b : Nat) (l2 : Int32) (l3 : Int32) (l4 : Int32) (l5 : Int32) (w : WW) : Option ((Int32 × Int32 × WW) ⊕ (WW)) := if (w.1 b 0) ≤ l5 then some (.inr w) else if ((shr32 l4 l5) &&& (1 : Int32)) = (1 : Int32) then (f_X6_behind b w l3 l5 l2).bind (fun p8 => nmv (l4 &&& (p8 ^^^ (-1 : Int32))) (fun v9 => (f_X2_settle b w l3 l5 p8).bind (fun p11 => f_X2_lay_j81 b p11 l2 l3 v9 l5))) else f_X2_lay_j81 b w l2 l3 l4 l5
def f_X2_lay_b22 (b : Nat) (l2 : Int32) (l3 : Int32) (w : WW) : Option ((Int32 × WW) ⊕ (WW)) := if l3 < 0 then some (.inr w) else (lpf (fun s : Int32 × Int32 × WW => f_X2_lay_b32 b l2 l3 s.1 s.2.1 s.2.2) FU (l2, (0 : Int32), w)).bind (fun r12 => some (.inl ((l3 + (-1 : Int32)), r12)))
def f_X2_lay (b : Nat) (w : WW) (l2 : Int32) : Option (WW) := stI w 40 0 (0 : Int32) (fun u1 => stI u1 40 1 (-1 : Int32) (fun u2 => stI u2 40 2 (0 : Int32) (fun u3 => (f_X6_allSets b u3).bind (fun p5 => nmv (p5 - (1 : Int32)) (fun v6 => (lpf (fun s : Int32 × WW => f_X2_lay_b22 b l2 s.1 s.2) FU (v6, u3)).bind (fun r14 => some r14))))))
set_option maxRecDepth 20000 in
set_option maxHeartbeats 4000000 in
theorem c_X2_lay {b : Nat} (hb : StAt LAY b) {w : WW} {l2 : Int32} {z : WW} (hk : f_X2_lay b w l2 = some z) : Cn 4 yX2_lay cX2_lay 7 none LAY [.ref 40, .ref b, .int l2] w none z := by
  refine Cn.of (by decide +kernel) (Nat.le_of_ble_eq_true rfl) (fun G h => ?_)
  have h : Rules cX2_lay RX2 "lay" 7 (rmd 4 0 0) none _ _ LAY 0 0 G := h
  show G 0 [(0, .ref 40), (1, .ref b), (2, .int l2)] [] w
  unfold f_X2_lay at hk
  have EJ81 : ∀ (w : WW) (l2 : Int32) (l3 : Int32) (l4 : Int32) (l5 : Int32) (z : (Int32 × Int32 × WW) ⊕ (WW)), f_X2_lay_j81 b w l2 l3 l4 l5 = some z → Sum.elim (fun s : Int32 × Int32 × WW => G 32 [(0, .ref 40), (1, .ref b), (2, .int l2), (3, .int l3), (4, .int s.1), (5, .int s.2.1)] [] s.2.2) (fun r : WW => G 87 [(0, .ref 40), (1, .ref b), (2, .int l2), (3, .int l3)] [] r) z → G 81 [(0, .ref 40), (1, .ref b), (2, .int l2), (3, .int l3), (4, .int l4), (5, .int l5)] [] w := by
    intro w l2 l3 l4 l5 z hk hz
    unfold f_X2_lay_j81 at hk
    refine k_iinc (pc := 81) h 5 [1, 2, 3, 4, 5, 0] (v := (l5 + (1 : Int32))) (lv' := [(0, .ref 40), (1, .ref b), (2, .int l2), (3, .int l3), (4, .int l4), (5, .int (l5 + (1 : Int32)))]) dX2_lay_81 rfl rfl (by decide) rfl ?_
    refine k_goto (tgt := 32) (pc := 84) h dX2_lay_84 rfl ?_
    have hk := Option.some.inj hk
    subst hk
    exact hz
  have LB32 : ∀ (l2 : Int32) (l3 : Int32), ∀ (nn : Nat) (s : Int32 × Int32 × WW) (r : WW), lpf (fun s : Int32 × Int32 × WW => f_X2_lay_b32 b l2 l3 s.1 s.2.1 s.2.2) nn s = some r → (fun r : WW => G 87 [(0, .ref 40), (1, .ref b), (2, .int l2), (3, .int l3)] [] r) r → (fun s : Int32 × Int32 × WW => G 32 [(0, .ref 40), (1, .ref b), (2, .int l2), (3, .int l3), (4, .int s.1), (5, .int s.2.1)] [] s.2.2) s := by
    intro l2 l3
    refine lpf_ind (fun s : Int32 × Int32 × WW => G 32 [(0, .ref 40), (1, .ref b), (2, .int l2), (3, .int l3), (4, .int s.1), (5, .int s.2.1)] [] s.2.2) (fun r : WW => G 87 [(0, .ref 40), (1, .ref b), (2, .int l2), (3, .int l3)] [] r) ?_
    rintro ⟨l4, l5, w⟩ z hk hz
    have hk : f_X2_lay_b32 b l2 l3 l4 l5 w = some z := hk
    unfold f_X2_lay_b32 at hk
    show G 32 [(0, .ref 40), (1, .ref b), (2, .int l2), (3, .int l3), (4, .int l4), (5, .int l5)] [] w
    refine k_iload (pc := 32) h 5 dX2_lay_32 rfl ?_
    refine k_aload_n (pc := 34) h 1 dX2_lay_34 rfl ?_
    refine k_geti (pc := 35) h fl_X2_34 hb.1 rfl dX2_lay_35 ?_
    refine k_icmp_ge (tgt := 87) (pc := 38) h dX2_lay_38 rfl hk (fun hc hk => ?_) (fun hc hk => ?_)
    · refine k_sub h [0, 1, 2, 3] (lv' := [(0, .ref 40), (1, .ref b), (2, .int l2), (3, .int l3)]) rfl ?_
      have hk := Option.some.inj hk
      subst hk
      exact hz
    · refine k_iload (pc := 41) h 4 dX2_lay_41 rfl ?_
      refine k_iload (pc := 43) h 5 dX2_lay_43 rfl ?_
      refine k_ishr (pc := 45) h dX2_lay_45 ?_
      refine k_iconst (pc := 46) h (x := (1 : Int32)) dX2_lay_46 (by decide) ?_
      refine k_iand (pc := 47) h dX2_lay_47 ?_
      refine k_iconst (pc := 48) h (x := (1 : Int32)) dX2_lay_48 (by decide) ?_
      refine k_icmp_ne (tgt := 81) (pc := 49) h dX2_lay_49 rfl hk (fun hc hk => ?_) (fun hc hk => ?_)
      · exact EJ81 _ _ _ _ _ _ hk hz
      · refine k_aload_n (pc := 52) h 1 dX2_lay_52 rfl ?_
        refine k_iload_n (pc := 53) h 3 dX2_lay_53 rfl ?_
        refine k_iload (pc := 54) h 5 dX2_lay_54 rfl ?_
        refine k_iload_n (pc := 56) h 2 dX2_lay_56 rfl ?_
        obtain ⟨p8, hc7, hk⟩ := bd_some hk
        refine k_callV1 (pc := 57) h (c_X6_behind hb hc7) cw_X2_37 hb.1 rfl ⟨⟨by decide, by decide⟩, Nat.zero_le _, Nat.zero_le _⟩ rfl (Nat.le_of_ble_eq_true rfl) dX2_lay_57 ?_
        refine k_istore (pc := 60) h [1, 2, 3, 4, 5, 6, 0] (lv' := [(0, .ref 40), (1, .ref b), (2, .int l2), (3, .int l3), (4, .int l4), (5, .int l5), (6, .int p8)]) dX2_lay_60 (by decide) rfl ?_
        refine k_iload (pc := 62) h 4 dX2_lay_62 rfl ?_
        refine k_iload (pc := 64) h 6 dX2_lay_64 rfl ?_
        refine k_iconst (pc := 66) h (x := (-1 : Int32)) dX2_lay_66 (by decide) ?_
        refine k_ixor (pc := 67) h dX2_lay_67 ?_
        refine k_iand (pc := 68) h dX2_lay_68 ?_
        refine k_nmi (pc := 69) h hk (fun v9 hk => ?_)
        refine k_istore (pc := 69) h [1, 2, 3, 4, 0, 5, 6] (lv' := [(0, .ref 40), (1, .ref b), (2, .int l2), (3, .int l3), (4, .int v9), (5, .int l5), (6, .int p8)]) dX2_lay_69 (by decide) rfl ?_
        refine k_aload_n (pc := 71) h 0 dX2_lay_71 rfl ?_
        refine k_aload_n (pc := 72) h 1 dX2_lay_72 rfl ?_
        refine k_iload_n (pc := 73) h 3 dX2_lay_73 rfl ?_
        refine k_iload (pc := 74) h 5 dX2_lay_74 rfl ?_
        refine k_iload (pc := 76) h 6 dX2_lay_76 rfl ?_
        obtain ⟨p11, hc10, hk⟩ := bd_some hk
        refine k_callV0 (pc := 78) h (c_X2_settle hb hc10) cw_X2_41 ly_40 rfl ⟨⟨by decide, by decide⟩, Nat.zero_le _, Nat.zero_le _⟩ rfl (Nat.le_of_ble_eq_true rfl) dX2_lay_78 ?_
        refine k_sub h [0, 1, 2, 3, 4, 5] (lv' := [(0, .ref 40), (1, .ref b), (2, .int l2), (3, .int l3), (4, .int v9), (5, .int l5)]) rfl ?_
        exact EJ81 _ _ _ _ _ _ hk hz
  have LB22 : ∀ (l2 : Int32), ∀ (nn : Nat) (s : Int32 × WW) (r : WW), lpf (fun s : Int32 × WW => f_X2_lay_b22 b l2 s.1 s.2) nn s = some r → (fun r : WW => G 93 [] [] r) r → (fun s : Int32 × WW => G 22 [(0, .ref 40), (1, .ref b), (2, .int l2), (3, .int s.1)] [] s.2) s := by
    intro l2
    refine lpf_ind (fun s : Int32 × WW => G 22 [(0, .ref 40), (1, .ref b), (2, .int l2), (3, .int s.1)] [] s.2) (fun r : WW => G 93 [] [] r) ?_
    rintro ⟨l3, w⟩ z hk hz
    have hk : f_X2_lay_b22 b l2 l3 w = some z := hk
    unfold f_X2_lay_b22 at hk
    show G 22 [(0, .ref 40), (1, .ref b), (2, .int l2), (3, .int l3)] [] w
    refine k_iload_n (pc := 22) h 3 dX2_lay_22 rfl ?_
    refine k_if_lt (tgt := 93) (pc := 23) h dX2_lay_23 rfl hk (fun hc hk => ?_) (fun hc hk => ?_)
    · refine k_sub h [] (lv' := []) rfl ?_
      have hk := Option.some.inj hk
      subst hk
      exact hz
    · refine k_iload_n (pc := 26) h 2 dX2_lay_26 rfl ?_
      refine k_istore (pc := 27) h [1, 2, 3, 4, 0] (lv' := [(0, .ref 40), (1, .ref b), (2, .int l2), (3, .int l3), (4, .int l2)]) dX2_lay_27 (by decide) rfl ?_
      refine k_iconst (pc := 29) h (x := (0 : Int32)) dX2_lay_29 (by decide) ?_
      refine k_istore (pc := 30) h [1, 2, 3, 4, 5, 0] (lv' := [(0, .ref 40), (1, .ref b), (2, .int l2), (3, .int l3), (4, .int l2), (5, .int (0 : Int32))]) dX2_lay_30 (by decide) rfl ?_
      obtain ⟨r12, hl13, hk⟩ := bd_some hk
      refine LB32 _ _ _ _ _ hl13 ?_
      show G 87 [(0, .ref 40), (1, .ref b), (2, .int l2), (3, .int l3)] [] r12
      refine k_iinc (pc := 87) h 3 [1, 2, 3, 0] (v := (l3 + (-1 : Int32))) (lv' := [(0, .ref 40), (1, .ref b), (2, .int l2), (3, .int (l3 + (-1 : Int32)))]) dX2_lay_87 rfl rfl (by decide) rfl ?_
      refine k_goto (tgt := 22) (pc := 90) h dX2_lay_90 rfl ?_
      have hk := Option.some.inj hk
      subst hk
      exact hz
  refine k_aload_n (pc := 0) h 0 dX2_lay_0 rfl ?_
  refine k_iconst (pc := 1) h (x := (0 : Int32)) dX2_lay_1 (by decide) ?_
  refine k_puti (pc := 2) h fl_X2_18 ly_40 rfl dX2_lay_2 hk (fun u1 hk => ?_)
  refine k_aload_n (pc := 5) h 0 dX2_lay_5 rfl ?_
  refine k_iconst (pc := 6) h (x := (-1 : Int32)) dX2_lay_6 (by decide) ?_
  refine k_puti (pc := 7) h fl_X2_22 ly_40 rfl dX2_lay_7 hk (fun u2 hk => ?_)
  refine k_aload_n (pc := 10) h 0 dX2_lay_10 rfl ?_
  refine k_iconst (pc := 11) h (x := (0 : Int32)) dX2_lay_11 (by decide) ?_
  refine k_puti (pc := 12) h fl_X2_25 ly_40 rfl dX2_lay_12 hk (fun u3 hk => ?_)
  refine k_aload_n (pc := 15) h 1 dX2_lay_15 rfl ?_
  obtain ⟨p5, hc4, hk⟩ := bd_some hk
  refine k_callV1 (pc := 16) h (c_X6_allSets hb hc4) cw_X2_28 hb.1 rfl ⟨⟨by decide, by decide⟩, Nat.zero_le _, Nat.zero_le _⟩ rfl (Nat.le_of_ble_eq_true rfl) dX2_lay_16 ?_
  refine k_iconst (pc := 19) h (x := (1 : Int32)) dX2_lay_19 (by decide) ?_
  refine k_isub (pc := 20) h dX2_lay_20 ?_
  refine k_nmi (pc := 21) h hk (fun v6 hk => ?_)
  refine k_istore_n (pc := 21) h [1, 2, 3, 0] (lv' := [(0, .ref 40), (1, .ref b), (2, .int l2), (3, .int v6)]) dX2_lay_21 rfl (by decide) rfl ?_
  obtain ⟨r14, hl15, hk⟩ := bd_some hk
  refine LB22 _ _ _ _ hl15 ?_
  show G 93 [] [] r14
  have hk := Option.some.inj hk
  subst hk
  exact k_vret (pc := 93) h dX2_lay_93 ⟨rfl, rfl, rfl, rfl, rfl, rfl⟩
def f_X5_leastRow_b7 (b : Nat) (l2 : Int32) (l3 : Int32) (w : WW) : Option ((Int32 × WW) ⊕ (WW)) := if l3 < 0 then some (.inr w) else (f_X5_settle b w l2 l3).bind (fun p5 => some (.inl ((l3 + (-1 : Int32)), p5)))
def f_X5_leastRow_b32 (b : Nat) (w : WW) (l2 : Int32) (l3 : Int32) (l4 : Int32) (l5 : Int32) : Option ((Int32 × Int32 × Int32) ⊕ (Int32)) := if (w.1 b 1) ≤ l5 then some (.inr l3) else (f_X5_firstOfLeast b w l2 l4).bind (fun p9 => nmv (((l3 * (10 : Int32)) + p9) + (1 : Int32)) (fun v10 => nmv (l4 ||| (shl32 (1 : Int32) p9)) (fun v11 => some (.inl (v10, v11, (l5 + (1 : Int32)))))))
def f_X5_leastRow (b : Nat) (w : WW) (l2 : Int32) : Option (Int32 × WW) := (f_X6_allSets b w).bind (fun p2 => nmv (p2 - (1 : Int32)) (fun v3 => (lpf (fun s : Int32 × WW => f_X5_leastRow_b7 b l2 s.1 s.2) FU (v3, w)).bind (fun r6 => (lpf (fun s : Int32 × Int32 × Int32 => f_X5_leastRow_b32 b r6 l2 s.1 s.2.1 s.2.2) FU ((0 : Int32), (0 : Int32), (0 : Int32))).bind (fun r12 => some (r12, r6)))))
set_option maxRecDepth 20000 in
set_option maxHeartbeats 4000000 in
theorem c_X5_leastRow {b : Nat} (hb : StAt LAY b) {w : WW} {l2 : Int32} {z : Int32 × WW} (hk : f_X5_leastRow b w l2 = some z) : Cn 4 yX5_leastRow cX5_leastRow 7 (some .int) LAY [.ref 43, .ref b, .int l2] w (some (.int z.1)) z.2 := by
  refine Cn.of (by decide +kernel) (Nat.le_of_ble_eq_true rfl) (fun G h => ?_)
  have h : Rules cX5_leastRow RX5 "leastRow" 7 (rmd 4 0 0) none _ _ LAY 0 0 G := h
  show G 0 [(0, .ref 43), (1, .ref b), (2, .int l2)] [] w
  unfold f_X5_leastRow at hk
  have LB7 : ∀ (l2 : Int32), ∀ (nn : Nat) (s : Int32 × WW) (r : WW), lpf (fun s : Int32 × WW => f_X5_leastRow_b7 b l2 s.1 s.2) nn s = some r → (fun r : WW => G 24 [(0, .ref 43), (1, .ref b), (2, .int l2)] [] r) r → (fun s : Int32 × WW => G 7 [(0, .ref 43), (1, .ref b), (2, .int l2), (3, .int s.1)] [] s.2) s := by
    intro l2
    refine lpf_ind (fun s : Int32 × WW => G 7 [(0, .ref 43), (1, .ref b), (2, .int l2), (3, .int s.1)] [] s.2) (fun r : WW => G 24 [(0, .ref 43), (1, .ref b), (2, .int l2)] [] r) ?_
    rintro ⟨l3, w⟩ z hk hz
    have hk : f_X5_leastRow_b7 b l2 l3 w = some z := hk
    unfold f_X5_leastRow_b7 at hk
    show G 7 [(0, .ref 43), (1, .ref b), (2, .int l2), (3, .int l3)] [] w
    refine k_iload_n (pc := 7) h 3 dX5_leastRow_7 rfl ?_
    refine k_if_lt (tgt := 24) (pc := 8) h dX5_leastRow_8 rfl hk (fun hc hk => ?_) (fun hc hk => ?_)
    · refine k_sub h [0, 1, 2] (lv' := [(0, .ref 43), (1, .ref b), (2, .int l2)]) rfl ?_
      have hk := Option.some.inj hk
      subst hk
      exact hz
    · refine k_aload_n (pc := 11) h 0 dX5_leastRow_11 rfl ?_
      refine k_aload_n (pc := 12) h 1 dX5_leastRow_12 rfl ?_
      refine k_iload_n (pc := 13) h 2 dX5_leastRow_13 rfl ?_
      refine k_iload_n (pc := 14) h 3 dX5_leastRow_14 rfl ?_
      obtain ⟨p5, hc4, hk⟩ := bd_some hk
      refine k_callV0 (pc := 15) h (c_X5_settle hb hc4) cw_X5_37 ly_43 rfl ⟨⟨by decide, by decide⟩, Nat.zero_le _, Nat.zero_le _⟩ rfl (Nat.le_of_ble_eq_true rfl) dX5_leastRow_15 ?_
      refine k_iinc (pc := 18) h 3 [1, 2, 3, 0] (v := (l3 + (-1 : Int32))) (lv' := [(0, .ref 43), (1, .ref b), (2, .int l2), (3, .int (l3 + (-1 : Int32)))]) dX5_leastRow_18 rfl rfl (by decide) rfl ?_
      refine k_goto (tgt := 7) (pc := 21) h dX5_leastRow_21 rfl ?_
      have hk := Option.some.inj hk
      subst hk
      exact hz
  have LB32 : ∀ (w : WW) (l2 : Int32), ∀ (nn : Nat) (s : Int32 × Int32 × Int32) (r : Int32), lpf (fun s : Int32 × Int32 × Int32 => f_X5_leastRow_b32 b w l2 s.1 s.2.1 s.2.2) nn s = some r → (fun r : Int32 => G 76 [(3, .int r)] [] w) r → (fun s : Int32 × Int32 × Int32 => G 32 [(0, .ref 43), (1, .ref b), (2, .int l2), (3, .int s.1), (4, .int s.2.1), (5, .int s.2.2)] [] w) s := by
    intro w l2
    refine lpf_ind (fun s : Int32 × Int32 × Int32 => G 32 [(0, .ref 43), (1, .ref b), (2, .int l2), (3, .int s.1), (4, .int s.2.1), (5, .int s.2.2)] [] w) (fun r : Int32 => G 76 [(3, .int r)] [] w) ?_
    rintro ⟨l3, l4, l5⟩ z hk hz
    have hk : f_X5_leastRow_b32 b w l2 l3 l4 l5 = some z := hk
    unfold f_X5_leastRow_b32 at hk
    show G 32 [(0, .ref 43), (1, .ref b), (2, .int l2), (3, .int l3), (4, .int l4), (5, .int l5)] [] w
    refine k_iload (pc := 32) h 5 dX5_leastRow_32 rfl ?_
    refine k_aload_n (pc := 34) h 1 dX5_leastRow_34 rfl ?_
    refine k_geti (pc := 35) h fl_X5_16 hb.1 rfl dX5_leastRow_35 ?_
    refine k_icmp_ge (tgt := 76) (pc := 38) h dX5_leastRow_38 rfl hk (fun hc hk => ?_) (fun hc hk => ?_)
    · refine k_sub h [3] (lv' := [(3, .int l3)]) rfl ?_
      have hk := Option.some.inj hk
      subst hk
      exact hz
    · refine k_aload_n (pc := 41) h 0 dX5_leastRow_41 rfl ?_
      refine k_aload_n (pc := 42) h 1 dX5_leastRow_42 rfl ?_
      refine k_iload_n (pc := 43) h 2 dX5_leastRow_43 rfl ?_
      refine k_iload (pc := 44) h 4 dX5_leastRow_44 rfl ?_
      obtain ⟨p9, hc8, hk⟩ := bd_some hk
      refine k_callV1 (pc := 46) h (c_X5_firstOfLeast hb hc8) cw_X5_41 ly_43 rfl ⟨⟨by decide, by decide⟩, Nat.zero_le _, Nat.zero_le _⟩ rfl (Nat.le_of_ble_eq_true rfl) dX5_leastRow_46 ?_
      refine k_istore (pc := 49) h [1, 2, 3, 4, 5, 6, 0] (lv' := [(0, .ref 43), (1, .ref b), (2, .int l2), (3, .int l3), (4, .int l4), (5, .int l5), (6, .int p9)]) dX5_leastRow_49 (by decide) rfl ?_
      refine k_iload_n (pc := 51) h 3 dX5_leastRow_51 rfl ?_
      refine k_bipush (pc := 52) h (x := (10 : Int32)) dX5_leastRow_52 (by decide) ?_
      refine k_imul (pc := 54) h dX5_leastRow_54 ?_
      refine k_iload (pc := 55) h 6 dX5_leastRow_55 rfl ?_
      refine k_iadd (pc := 57) h dX5_leastRow_57 ?_
      refine k_iconst (pc := 58) h (x := (1 : Int32)) dX5_leastRow_58 (by decide) ?_
      refine k_iadd (pc := 59) h dX5_leastRow_59 ?_
      refine k_nmi (pc := 60) h hk (fun v10 hk => ?_)
      refine k_istore_n (pc := 60) h [1, 2, 3, 0, 4, 5, 6] (lv' := [(0, .ref 43), (1, .ref b), (2, .int l2), (3, .int v10), (4, .int l4), (5, .int l5), (6, .int p9)]) dX5_leastRow_60 rfl (by decide) rfl ?_
      refine k_iload (pc := 61) h 4 dX5_leastRow_61 rfl ?_
      refine k_iconst (pc := 63) h (x := (1 : Int32)) dX5_leastRow_63 (by decide) ?_
      refine k_iload (pc := 64) h 6 dX5_leastRow_64 rfl ?_
      refine k_ishl (pc := 66) h dX5_leastRow_66 ?_
      refine k_ior (pc := 67) h dX5_leastRow_67 ?_
      refine k_nmi (pc := 68) h hk (fun v11 hk => ?_)
      refine k_istore (pc := 68) h [1, 2, 3, 4, 0, 5, 6] (lv' := [(0, .ref 43), (1, .ref b), (2, .int l2), (3, .int v10), (4, .int v11), (5, .int l5), (6, .int p9)]) dX5_leastRow_68 (by decide) rfl ?_
      refine k_iinc (pc := 70) h 5 [1, 2, 3, 4, 5, 0, 6] (v := (l5 + (1 : Int32))) (lv' := [(0, .ref 43), (1, .ref b), (2, .int l2), (3, .int v10), (4, .int v11), (5, .int (l5 + (1 : Int32))), (6, .int p9)]) dX5_leastRow_70 rfl rfl (by decide) rfl ?_
      refine k_goto (tgt := 32) (pc := 73) h dX5_leastRow_73 rfl ?_
      refine k_sub h [0, 1, 2, 3, 4, 5] (lv' := [(0, .ref 43), (1, .ref b), (2, .int l2), (3, .int v10), (4, .int v11), (5, .int (l5 + (1 : Int32)))]) rfl ?_
      have hk := Option.some.inj hk
      subst hk
      exact hz
  refine k_aload_n (pc := 0) h 1 dX5_leastRow_0 rfl ?_
  obtain ⟨p2, hc1, hk⟩ := bd_some hk
  refine k_callV1 (pc := 1) h (c_X6_allSets hb hc1) cw_X5_33 hb.1 rfl ⟨⟨by decide, by decide⟩, Nat.zero_le _, Nat.zero_le _⟩ rfl (Nat.le_of_ble_eq_true rfl) dX5_leastRow_1 ?_
  refine k_iconst (pc := 4) h (x := (1 : Int32)) dX5_leastRow_4 (by decide) ?_
  refine k_isub (pc := 5) h dX5_leastRow_5 ?_
  refine k_nmi (pc := 6) h hk (fun v3 hk => ?_)
  refine k_istore_n (pc := 6) h [1, 2, 3, 0] (lv' := [(0, .ref 43), (1, .ref b), (2, .int l2), (3, .int v3)]) dX5_leastRow_6 rfl (by decide) rfl ?_
  obtain ⟨r6, hl7, hk⟩ := bd_some hk
  refine LB7 _ _ _ _ hl7 ?_
  show G 24 [(0, .ref 43), (1, .ref b), (2, .int l2)] [] r6
  refine k_iconst (pc := 24) h (x := (0 : Int32)) dX5_leastRow_24 (by decide) ?_
  refine k_istore_n (pc := 25) h [1, 2, 3, 0] (lv' := [(0, .ref 43), (1, .ref b), (2, .int l2), (3, .int (0 : Int32))]) dX5_leastRow_25 rfl (by decide) rfl ?_
  refine k_iconst (pc := 26) h (x := (0 : Int32)) dX5_leastRow_26 (by decide) ?_
  refine k_istore (pc := 27) h [1, 2, 3, 4, 0] (lv' := [(0, .ref 43), (1, .ref b), (2, .int l2), (3, .int (0 : Int32)), (4, .int (0 : Int32))]) dX5_leastRow_27 (by decide) rfl ?_
  refine k_iconst (pc := 29) h (x := (0 : Int32)) dX5_leastRow_29 (by decide) ?_
  refine k_istore (pc := 30) h [1, 2, 3, 4, 5, 0] (lv' := [(0, .ref 43), (1, .ref b), (2, .int l2), (3, .int (0 : Int32)), (4, .int (0 : Int32)), (5, .int (0 : Int32))]) dX5_leastRow_30 (by decide) rfl ?_
  obtain ⟨r12, hl13, hk⟩ := bd_some hk
  refine LB32 _ _ _ _ _ hl13 ?_
  show G 76 [(3, .int r12)] [] r6
  refine k_iload_n (pc := 76) h 0 dX5_leastRow_76 rfl ?_
  have hk := Option.some.inj hk
  subst hk
  exact k_iret (pc := 77) h dX5_leastRow_77 ⟨rfl, rfl, rfl, rfl, rfl, ⟨.int, rfl, rfl⟩⟩
def f_X6_addQuestion_b43 (b : Nat) (l4 : Int32) (w : WW) : Option ((Int32 × WW) ⊕ (WW)) := if (16 : Int32) ≤ l4 then some (.inr w) else (f_X6_setAlike b w (w.1 b 1) l4).bind (fun p5 => some (.inl ((l4 + (1 : Int32)), p5)))
def f_X6_addQuestion (b : Nat) (w : WW) (l1 : Int32) (l2 : Int32) (l3 : Int32) : Option (WW) := if (w.1 b 1) < (7 : Int32) then gd (inb (w.1 b 1) 7) (stI w (b + 2) ((w.1 b 1)).toNatClampNeg l1 (fun u1 => gd (inb (u1.1 b 1) 7) (stI u1 (b + 3) ((u1.1 b 1)).toNatClampNeg l2 (fun u2 => gd (inb (u2.1 b 1) 7) (stI u2 (b + 4) ((u2.1 b 1)).toNatClampNeg l3 (fun u3 => (lpf (fun s : Int32 × WW => f_X6_addQuestion_b43 b s.1 s.2) FU ((0 : Int32), u3)).bind (fun r6 => stI r6 b 1 ((r6.1 b 1) + (1 : Int32)) (fun u8 => stI u8 b 3 (0 : Int32) (fun u9 => some u9))))))))) else some w
set_option maxRecDepth 20000 in
set_option maxHeartbeats 4000000 in
theorem c_X6_addQuestion {lay : List LyS} {b : Nat} (hb : StAt lay b) {w : WW} {l1 : Int32} {l2 : Int32} {l3 : Int32} {z : WW} (hk : f_X6_addQuestion b w l1 l2 l3 = some z) : Cn 4 yX6_addQuestion cX6_addQuestion 5 none lay [.ref b, .int l1, .int l2, .int l3] w none z := by
  refine Cn.of (by decide +kernel) (Nat.le_of_ble_eq_true rfl) (fun G h => ?_)
  have h : Rules cX6_addQuestion RX6 "addQuestion" 5 (rmd 4 0 0) none _ _ lay 0 0 G := h
  show G 0 [(0, .ref b), (1, .int l1), (2, .int l2), (3, .int l3)] [] w
  unfold f_X6_addQuestion at hk
  have LB43 : ∀ (nn : Nat) (s : Int32 × WW) (r : WW), lpf (fun s : Int32 × WW => f_X6_addQuestion_b43 b s.1 s.2) nn s = some r → (fun r : WW => G 66 [(0, .ref b)] [] r) r → (fun s : Int32 × WW => G 43 [(0, .ref b), (4, .int s.1)] [] s.2) s := by
    refine lpf_ind (fun s : Int32 × WW => G 43 [(0, .ref b), (4, .int s.1)] [] s.2) (fun r : WW => G 66 [(0, .ref b)] [] r) ?_
    rintro ⟨l4, w⟩ z hk hz
    have hk : f_X6_addQuestion_b43 b l4 w = some z := hk
    unfold f_X6_addQuestion_b43 at hk
    show G 43 [(0, .ref b), (4, .int l4)] [] w
    refine k_iload (pc := 43) h 1 dX6_addQuestion_43 rfl ?_
    refine k_bipush (pc := 45) h (x := (16 : Int32)) dX6_addQuestion_45 (by decide) ?_
    refine k_icmp_ge (tgt := 66) (pc := 47) h dX6_addQuestion_47 rfl hk (fun hc hk => ?_) (fun hc hk => ?_)
    · refine k_sub h [0] (lv' := [(0, .ref b)]) rfl ?_
      have hk := Option.some.inj hk
      subst hk
      exact hz
    · refine k_aload_n (pc := 50) h 0 dX6_addQuestion_50 rfl ?_
      refine k_aload_n (pc := 51) h 0 dX6_addQuestion_51 rfl ?_
      refine k_geti (pc := 52) h fl_X6_41 hb.1 rfl dX6_addQuestion_52 ?_
      refine k_iload (pc := 55) h 1 dX6_addQuestion_55 rfl ?_
      obtain ⟨p5, hc4, hk⟩ := bd_some hk
      refine k_callV0 (pc := 57) h (c_X6_setAlike hb hc4) cw_X6_56 hb.1 rfl ⟨⟨by decide, by decide⟩, Nat.zero_le _, Nat.zero_le _⟩ rfl (Nat.le_of_ble_eq_true rfl) dX6_addQuestion_57 ?_
      refine k_iinc (pc := 60) h 1 [1, 0] (v := (l4 + (1 : Int32))) (lv' := [(0, .ref b), (4, .int (l4 + (1 : Int32)))]) dX6_addQuestion_60 rfl rfl (by decide) rfl ?_
      refine k_goto (tgt := 43) (pc := 63) h dX6_addQuestion_63 rfl ?_
      have hk := Option.some.inj hk
      subst hk
      exact hz
  refine k_aload_n (pc := 0) h 0 dX6_addQuestion_0 rfl ?_
  refine k_geti (pc := 1) h fl_X6_41 hb.1 rfl dX6_addQuestion_1 ?_
  refine k_bipush (pc := 4) h (x := (7 : Int32)) dX6_addQuestion_4 (by decide) ?_
  refine k_icmp_lt (tgt := 10) (pc := 6) h dX6_addQuestion_6 rfl hk (fun hc hk => ?_) (fun hc hk => ?_)
  · refine k_aload_n (pc := 10) h 0 dX6_addQuestion_10 rfl ?_
    refine k_getr (pc := 11) h fl_X6_15 hb.1 rfl dX6_addQuestion_11 ?_
    refine k_aload_n (pc := 14) h 0 dX6_addQuestion_14 rfl ?_
    refine k_geti (pc := 15) h fl_X6_41 hb.1 rfl dX6_addQuestion_15 ?_
    refine k_iload_n (pc := 18) h 1 dX6_addQuestion_18 rfl ?_
    refine k_iast (pc := 19) h hb.2.2.1 dX6_addQuestion_19 hk (fun u1 hk => ?_)
    refine k_aload_n (pc := 20) h 0 dX6_addQuestion_20 rfl ?_
    refine k_getr (pc := 21) h fl_X6_18 hb.1 rfl dX6_addQuestion_21 ?_
    refine k_aload_n (pc := 24) h 0 dX6_addQuestion_24 rfl ?_
    refine k_geti (pc := 25) h fl_X6_41 hb.1 rfl dX6_addQuestion_25 ?_
    refine k_iload_n (pc := 28) h 2 dX6_addQuestion_28 rfl ?_
    refine k_iast (pc := 29) h hb.2.2.2.1 dX6_addQuestion_29 hk (fun u2 hk => ?_)
    refine k_aload_n (pc := 30) h 0 dX6_addQuestion_30 rfl ?_
    refine k_getr (pc := 31) h fl_X6_21 hb.1 rfl dX6_addQuestion_31 ?_
    refine k_aload_n (pc := 34) h 0 dX6_addQuestion_34 rfl ?_
    refine k_geti (pc := 35) h fl_X6_41 hb.1 rfl dX6_addQuestion_35 ?_
    refine k_iload_n (pc := 38) h 3 dX6_addQuestion_38 rfl ?_
    refine k_iast (pc := 39) h hb.2.2.2.2.1 dX6_addQuestion_39 hk (fun u3 hk => ?_)
    refine k_iconst (pc := 40) h (x := (0 : Int32)) dX6_addQuestion_40 (by decide) ?_
    refine k_istore (pc := 41) h [1, 2, 3, 4, 0] (lv' := [(0, .ref b), (1, .int l1), (2, .int l2), (3, .int l3), (4, .int (0 : Int32))]) dX6_addQuestion_41 (by decide) rfl ?_
    refine k_sub h [0, 4] (lv' := [(0, .ref b), (4, .int (0 : Int32))]) rfl ?_
    obtain ⟨r6, hl7, hk⟩ := bd_some hk
    refine LB43 _ _ _ hl7 ?_
    show G 66 [(0, .ref b)] [] r6
    refine k_aload_n (pc := 66) h 0 dX6_addQuestion_66 rfl ?_
    refine k_dup (pc := 67) h dX6_addQuestion_67 rfl ?_
    refine k_geti (pc := 68) h fl_X6_41 hb.1 rfl dX6_addQuestion_68 ?_
    refine k_iconst (pc := 71) h (x := (1 : Int32)) dX6_addQuestion_71 (by decide) ?_
    refine k_iadd (pc := 72) h dX6_addQuestion_72 ?_
    refine k_puti (pc := 73) h fl_X6_41 hb.1 rfl dX6_addQuestion_73 hk (fun u8 hk => ?_)
    refine k_aload_n (pc := 76) h 0 dX6_addQuestion_76 rfl ?_
    refine k_iconst (pc := 77) h (x := (0 : Int32)) dX6_addQuestion_77 (by decide) ?_
    refine k_puti (pc := 78) h fl_X6_47 hb.1 rfl dX6_addQuestion_78 hk (fun u9 hk => ?_)
    have hk := Option.some.inj hk
    subst hk
    exact k_vret (pc := 81) h dX6_addQuestion_81 ⟨rfl, rfl, rfl, rfl, rfl, rfl⟩
  · have hk := Option.some.inj hk
    subst hk
    exact k_vret (pc := 9) h dX6_addQuestion_9 ⟨rfl, rfl, rfl, rfl, rfl, rfl⟩
def f_X6_fitting_j27 (b : Nat) (w : WW) (l1 : Int32) (l2 : Int32) (l3 : Int32) : Option ((Int32 × Int32) ⊕ (Int32)) := some (.inl (l2, (l3 + (1 : Int32))))
def f_X6_fitting_b4 (b : Nat) (w : WW) (l1 : Int32) (l2 : Int32) (l3 : Int32) : Option ((Int32 × Int32) ⊕ (Int32)) := if (w.1 b 0) ≤ l3 then some (.inr l2) else (f_X6_misfits b w l3).bind (fun p2 => if l1 < p2 then f_X6_fitting_j27 b w l1 l2 l3 else nmv (l2 ||| (shl32 (1 : Int32) l3)) (fun v3 => f_X6_fitting_j27 b w l1 v3 l3))
def f_X6_fitting (b : Nat) (w : WW) (l1 : Int32) : Option (Int32) := (lpf (fun s : Int32 × Int32 => f_X6_fitting_b4 b w l1 s.1 s.2) FU ((0 : Int32), (0 : Int32))).bind (fun r4 => some (r4))
set_option maxRecDepth 20000 in
set_option maxHeartbeats 4000000 in
theorem c_X6_fitting {lay : List LyS} {b : Nat} (hb : StAt lay b) {w : WW} {l1 : Int32} {z : Int32} (hk : f_X6_fitting b w l1 = some z) : Cn 4 yX6_fitting cX6_fitting 4 (some .int) lay [.ref b, .int l1] w (some (.int z)) w := by
  refine Cn.of (by decide +kernel) (Nat.le_of_ble_eq_true rfl) (fun G h => ?_)
  have h : Rules cX6_fitting RX6 "fitting" 4 (rmd 4 0 0) none _ _ lay 0 0 G := h
  show G 0 [(0, .ref b), (1, .int l1)] [] w
  unfold f_X6_fitting at hk
  have EJ27 : ∀ (l1 : Int32) (l2 : Int32) (l3 : Int32) (z : (Int32 × Int32) ⊕ (Int32)), f_X6_fitting_j27 b w l1 l2 l3 = some z → Sum.elim (fun s : Int32 × Int32 => G 4 [(0, .ref b), (1, .int l1), (2, .int s.1), (3, .int s.2)] [] w) (fun r : Int32 => G 33 [(2, .int r)] [] w) z → G 27 [(0, .ref b), (1, .int l1), (2, .int l2), (3, .int l3)] [] w := by
    intro l1 l2 l3 z hk hz
    unfold f_X6_fitting_j27 at hk
    refine k_iinc (pc := 27) h 3 [1, 2, 3, 0] (v := (l3 + (1 : Int32))) (lv' := [(0, .ref b), (1, .int l1), (2, .int l2), (3, .int (l3 + (1 : Int32)))]) dX6_fitting_27 rfl rfl (by decide) rfl ?_
    refine k_goto (tgt := 4) (pc := 30) h dX6_fitting_30 rfl ?_
    have hk := Option.some.inj hk
    subst hk
    exact hz
  have LB4 : ∀ (l1 : Int32), ∀ (nn : Nat) (s : Int32 × Int32) (r : Int32), lpf (fun s : Int32 × Int32 => f_X6_fitting_b4 b w l1 s.1 s.2) nn s = some r → (fun r : Int32 => G 33 [(2, .int r)] [] w) r → (fun s : Int32 × Int32 => G 4 [(0, .ref b), (1, .int l1), (2, .int s.1), (3, .int s.2)] [] w) s := by
    intro l1
    refine lpf_ind (fun s : Int32 × Int32 => G 4 [(0, .ref b), (1, .int l1), (2, .int s.1), (3, .int s.2)] [] w) (fun r : Int32 => G 33 [(2, .int r)] [] w) ?_
    rintro ⟨l2, l3⟩ z hk hz
    have hk : f_X6_fitting_b4 b w l1 l2 l3 = some z := hk
    unfold f_X6_fitting_b4 at hk
    show G 4 [(0, .ref b), (1, .int l1), (2, .int l2), (3, .int l3)] [] w
    refine k_iload_n (pc := 4) h 3 dX6_fitting_4 rfl ?_
    refine k_aload_n (pc := 5) h 0 dX6_fitting_5 rfl ?_
    refine k_geti (pc := 6) h fl_X6_37 hb.1 rfl dX6_fitting_6 ?_
    refine k_icmp_ge (tgt := 33) (pc := 9) h dX6_fitting_9 rfl hk (fun hc hk => ?_) (fun hc hk => ?_)
    · refine k_sub h [2] (lv' := [(2, .int l2)]) rfl ?_
      have hk := Option.some.inj hk
      subst hk
      exact hz
    · refine k_aload_n (pc := 12) h 0 dX6_fitting_12 rfl ?_
      refine k_iload_n (pc := 13) h 3 dX6_fitting_13 rfl ?_
      obtain ⟨p2, hc1, hk⟩ := bd_some hk
      refine k_callV1 (pc := 14) h (c_X6_misfits hb hc1) cw_X6_76 hb.1 rfl ⟨⟨by decide, by decide⟩, Nat.zero_le _, Nat.zero_le _⟩ rfl (Nat.le_of_ble_eq_true rfl) dX6_fitting_14 ?_
      refine k_iload_n (pc := 17) h 1 dX6_fitting_17 rfl ?_
      refine k_icmp_gt (tgt := 27) (pc := 18) h dX6_fitting_18 rfl hk (fun hc hk => ?_) (fun hc hk => ?_)
      · exact EJ27 _ _ _ _ hk hz
      · refine k_iload_n (pc := 21) h 2 dX6_fitting_21 rfl ?_
        refine k_iconst (pc := 22) h (x := (1 : Int32)) dX6_fitting_22 (by decide) ?_
        refine k_iload_n (pc := 23) h 3 dX6_fitting_23 rfl ?_
        refine k_ishl (pc := 24) h dX6_fitting_24 ?_
        refine k_ior (pc := 25) h dX6_fitting_25 ?_
        refine k_nmi (pc := 26) h hk (fun v3 hk => ?_)
        refine k_istore_n (pc := 26) h [1, 2, 0, 3] (lv' := [(0, .ref b), (1, .int l1), (2, .int v3), (3, .int l3)]) dX6_fitting_26 rfl (by decide) rfl ?_
        exact EJ27 _ _ _ _ hk hz
  refine k_iconst (pc := 0) h (x := (0 : Int32)) dX6_fitting_0 (by decide) ?_
  refine k_istore_n (pc := 1) h [1, 2, 0] (lv' := [(0, .ref b), (1, .int l1), (2, .int (0 : Int32))]) dX6_fitting_1 rfl (by decide) rfl ?_
  refine k_iconst (pc := 2) h (x := (0 : Int32)) dX6_fitting_2 (by decide) ?_
  refine k_istore_n (pc := 3) h [1, 2, 3, 0] (lv' := [(0, .ref b), (1, .int l1), (2, .int (0 : Int32)), (3, .int (0 : Int32))]) dX6_fitting_3 rfl (by decide) rfl ?_
  obtain ⟨r4, hl5, hk⟩ := bd_some hk
  refine LB4 _ _ _ _ hl5 ?_
  show G 33 [(2, .int r4)] [] w
  refine k_iload_n (pc := 33) h 0 dX6_fitting_33 rfl ?_
  have hk := Option.some.inj hk
  subst hk
  exact k_iret (pc := 34) h dX6_fitting_34 ⟨rfl, rfl, rfl, rfl, rfl, ⟨.int, rfl, rfl⟩⟩
def f_X8_ask_j18 (w : WW) : Option (Int32 × WW) := (f_X8_bad w).bind (fun p4 => some (p4.1, p4.2))
def f_X8_ask (w : WW) (l1 : Int32) (l2 : Int32) : Option (Int32 × WW) := (f_X8_isQuestion w l1).bind (fun p2 => if p2 = 0 then f_X8_ask_j18 w else (f_X8_in w l2 (0 : Int32) (15 : Int32)).bind (fun p6 => if p6 = 0 then f_X8_ask_j18 w else if (w.1 46 3) = (8 : Int32) then (f_X8_full w).bind (fun p15 => some (p15.1, p15.2)) else (f_X8_notes w).bind (fun p8 => gd (inb ((2 : Int32) * (p8.1 46 3)) 16) (stI p8 52 (((2 : Int32) * (p8.1 46 3))).toNatClampNeg l1 (fun u9 => gd (inb (((2 : Int32) * (u9.1 46 3)) + (1 : Int32)) 16) (stI u9 52 ((((2 : Int32) * (u9.1 46 3)) + (1 : Int32))).toNatClampNeg l2 (fun u10 => stI u10 46 3 ((u10.1 46 3) + (1 : Int32)) (fun u11 => (f_X8_leftOver u11).bind (fun p13 => some (p13, u11))))))))))
set_option maxRecDepth 20000 in
set_option maxHeartbeats 4000000 in
theorem c_X8_ask {w : WW} {l1 : Int32} {l2 : Int32} {z : Int32 × WW} (hk : f_X8_ask w l1 l2 = some z) : Cn 4 yX8_ask cX8_ask 3 (some .int) LAY [.ref 46, .int l1, .int l2] w (some (.int z.1)) z.2 := by
  refine Cn.of (by decide +kernel) (Nat.le_of_ble_eq_true rfl) (fun G h => ?_)
  have h : Rules cX8_ask RX8 "ask" 3 (rmd 4 0 0) none _ _ LAY 0 0 G := h
  show G 0 [(0, .ref 46), (1, .int l1), (2, .int l2)] [] w
  unfold f_X8_ask at hk
  have EJ18 : ∀ (w : WW), f_X8_ask_j18 w = some z → G 18 [(0, .ref 46)] [] w := by
    intro w hk
    unfold f_X8_ask_j18 at hk
    refine k_aload_n (pc := 18) h 0 dX8_ask_18 rfl ?_
    obtain ⟨p4, hc3, hk⟩ := bd_some hk
    refine k_callV1 (pc := 19) h (c_X8_bad hc3) cw_X8_88 ly_46 rfl ⟨⟨by decide, by decide⟩, Nat.zero_le _, Nat.zero_le _⟩ rfl (Nat.le_of_ble_eq_true rfl) dX8_ask_19 ?_
    have hk := Option.some.inj hk
    subst hk
    exact k_iret (pc := 22) h dX8_ask_22 ⟨rfl, rfl, rfl, rfl, rfl, ⟨.int, rfl, rfl⟩⟩
  refine k_aload_n (pc := 0) h 0 dX8_ask_0 rfl ?_
  refine k_iload_n (pc := 1) h 1 dX8_ask_1 rfl ?_
  obtain ⟨p2, hc1, hk⟩ := bd_some hk
  refine k_callV1 (pc := 2) h (c_X8_isQuestion hc1) cw_X8_103 ly_46 rfl ⟨⟨by decide, by decide⟩, Nat.zero_le _, Nat.zero_le _⟩ rfl (Nat.le_of_ble_eq_true rfl) dX8_ask_2 ?_
  refine k_if_eq (tgt := 18) (pc := 5) h dX8_ask_5 rfl hk (fun hc hk => ?_) (fun hc hk => ?_)
  · refine k_sub h [0] (lv' := [(0, .ref 46)]) rfl ?_
    exact EJ18 _ hk
  · refine k_iload_n (pc := 8) h 2 dX8_ask_8 rfl ?_
    refine k_iconst (pc := 9) h (x := (0 : Int32)) dX8_ask_9 (by decide) ?_
    refine k_bipush (pc := 10) h (x := (15 : Int32)) dX8_ask_10 (by decide) ?_
    obtain ⟨p6, hc5, hk⟩ := bd_some hk
    refine k_callS1 (pc := 12) h (c_X8_in hc5) cw_X8_84 ⟨⟨by decide, by decide⟩, Nat.zero_le _, Nat.zero_le _⟩ rfl (Nat.le_of_ble_eq_true rfl) dX8_ask_12 ?_
    refine k_if_ne (tgt := 23) (pc := 15) h dX8_ask_15 rfl hk (fun hc hk => ?_) (fun hc hk => ?_)
    · refine k_aload_n (pc := 23) h 0 dX8_ask_23 rfl ?_
      refine k_geti (pc := 24) h fl_X8_78 ly_46 rfl dX8_ask_24 ?_
      refine k_bipush (pc := 27) h (x := (8 : Int32)) dX8_ask_27 (by decide) ?_
      refine k_icmp_ne (tgt := 37) (pc := 29) h dX8_ask_29 rfl hk (fun hc hk => ?_) (fun hc hk => ?_)
      · refine k_aload_n (pc := 37) h 0 dX8_ask_37 rfl ?_
        obtain ⟨p8, hc7, hk⟩ := bd_some hk
        refine k_callV0 (pc := 38) h (c_X8_notes hc7) cw_X8_179 ly_46 rfl ⟨⟨by decide, by decide⟩, Nat.zero_le _, Nat.zero_le _⟩ rfl (Nat.le_of_ble_eq_true rfl) dX8_ask_38 ?_
        refine k_aload_n (pc := 41) h 0 dX8_ask_41 rfl ?_
        refine k_getr (pc := 42) h fl_X8_29 ly_46 rfl dX8_ask_42 ?_
        refine k_iconst (pc := 45) h (x := (2 : Int32)) dX8_ask_45 (by decide) ?_
        refine k_aload_n (pc := 46) h 0 dX8_ask_46 rfl ?_
        refine k_geti (pc := 47) h fl_X8_78 ly_46 rfl dX8_ask_47 ?_
        refine k_imul (pc := 50) h dX8_ask_50 ?_
        refine k_iload_n (pc := 51) h 1 dX8_ask_51 rfl ?_
        refine k_iast (pc := 52) h ly_52 dX8_ask_52 hk (fun u9 hk => ?_)
        refine k_aload_n (pc := 53) h 0 dX8_ask_53 rfl ?_
        refine k_getr (pc := 54) h fl_X8_29 ly_46 rfl dX8_ask_54 ?_
        refine k_iconst (pc := 57) h (x := (2 : Int32)) dX8_ask_57 (by decide) ?_
        refine k_aload_n (pc := 58) h 0 dX8_ask_58 rfl ?_
        refine k_geti (pc := 59) h fl_X8_78 ly_46 rfl dX8_ask_59 ?_
        refine k_imul (pc := 62) h dX8_ask_62 ?_
        refine k_iconst (pc := 63) h (x := (1 : Int32)) dX8_ask_63 (by decide) ?_
        refine k_iadd (pc := 64) h dX8_ask_64 ?_
        refine k_iload_n (pc := 65) h 2 dX8_ask_65 rfl ?_
        refine k_iast (pc := 66) h ly_52 dX8_ask_66 hk (fun u10 hk => ?_)
        refine k_aload_n (pc := 67) h 0 dX8_ask_67 rfl ?_
        refine k_dup (pc := 68) h dX8_ask_68 rfl ?_
        refine k_geti (pc := 69) h fl_X8_78 ly_46 rfl dX8_ask_69 ?_
        refine k_iconst (pc := 72) h (x := (1 : Int32)) dX8_ask_72 (by decide) ?_
        refine k_iadd (pc := 73) h dX8_ask_73 ?_
        refine k_puti (pc := 74) h fl_X8_78 ly_46 rfl dX8_ask_74 hk (fun u11 hk => ?_)
        refine k_aload_n (pc := 77) h 0 dX8_ask_77 rfl ?_
        obtain ⟨p13, hc12, hk⟩ := bd_some hk
        refine k_callV1 (pc := 78) h (c_X8_leftOver hc12) cw_X8_182 ly_46 rfl ⟨⟨by decide, by decide⟩, Nat.zero_le _, Nat.zero_le _⟩ rfl (Nat.le_of_ble_eq_true rfl) dX8_ask_78 ?_
        have hk := Option.some.inj hk
        subst hk
        exact k_iret (pc := 81) h dX8_ask_81 ⟨rfl, rfl, rfl, rfl, rfl, ⟨.int, rfl, rfl⟩⟩
      · refine k_aload_n (pc := 32) h 0 dX8_ask_32 rfl ?_
        obtain ⟨p15, hc14, hk⟩ := bd_some hk
        refine k_callV1 (pc := 33) h (c_X8_full hc14) cw_X8_96 ly_46 rfl ⟨⟨by decide, by decide⟩, Nat.zero_le _, Nat.zero_le _⟩ rfl (Nat.le_of_ble_eq_true rfl) dX8_ask_33 ?_
        have hk := Option.some.inj hk
        subst hk
        exact k_iret (pc := 36) h dX8_ask_36 ⟨rfl, rfl, rfl, rfl, rfl, ⟨.int, rfl, rfl⟩⟩
    · refine k_sub h [0] (lv' := [(0, .ref 46)]) rfl ?_
      exact EJ18 _ hk
def f_X8_atOnce_j36 (w : WW) (l2 : Int32) : Option (Int32 × WW) := some (l2, w)
def f_X8_atOnce (w : WW) (l1 : Int32) : Option (Int32 × WW) := (f_X8_in w l1 (0 : Int32) (1 : Int32)).bind (fun p2 => if p2 = 0 then (f_X8_bad w).bind (fun p12 => some (p12.1, p12.2)) else (f_X8_leftOver w).bind (fun p4 => (f_X8_setTells w p4).bind (fun p6 => (f_X8_cheapest p6).bind (fun p8 => if p8 = (-1 : Int32) then f_X8_atOnce_j36 p6 p8 else if l1 = 0 then f_X8_atOnce_j36 p6 p8 else (f_X8_costOf p6 p8).bind (fun p10 => some (p10, p6))))))
set_option maxRecDepth 20000 in
set_option maxHeartbeats 4000000 in
theorem c_X8_atOnce {w : WW} {l1 : Int32} {z : Int32 × WW} (hk : f_X8_atOnce w l1 = some z) : Cn 4 yX8_atOnce cX8_atOnce 3 (some .int) LAY [.ref 46, .int l1] w (some (.int z.1)) z.2 := by
  refine Cn.of (by decide +kernel) (Nat.le_of_ble_eq_true rfl) (fun G h => ?_)
  have h : Rules cX8_atOnce RX8 "atOnce" 3 (rmd 4 0 0) none _ _ LAY 0 0 G := h
  show G 0 [(0, .ref 46), (1, .int l1)] [] w
  unfold f_X8_atOnce at hk
  have EJ36 : ∀ (w : WW) (l2 : Int32), f_X8_atOnce_j36 w l2 = some z → G 36 [(2, .int l2)] [] w := by
    intro w l2 hk
    unfold f_X8_atOnce_j36 at hk
    refine k_iload_n (pc := 36) h 0 dX8_atOnce_36 rfl ?_
    refine k_goto (tgt := 45) (pc := 37) h dX8_atOnce_37 rfl ?_
    have hk := Option.some.inj hk
    subst hk
    exact k_iret (pc := 45) h dX8_atOnce_45 ⟨rfl, rfl, rfl, rfl, rfl, ⟨.int, rfl, rfl⟩⟩
  refine k_iload_n (pc := 0) h 1 dX8_atOnce_0 rfl ?_
  refine k_iconst (pc := 1) h (x := (0 : Int32)) dX8_atOnce_1 (by decide) ?_
  refine k_iconst (pc := 2) h (x := (1 : Int32)) dX8_atOnce_2 (by decide) ?_
  obtain ⟨p2, hc1, hk⟩ := bd_some hk
  refine k_callS1 (pc := 3) h (c_X8_in hc1) cw_X8_84 ⟨⟨by decide, by decide⟩, Nat.zero_le _, Nat.zero_le _⟩ rfl (Nat.le_of_ble_eq_true rfl) dX8_atOnce_3 ?_
  refine k_if_ne (tgt := 14) (pc := 6) h dX8_atOnce_6 rfl hk (fun hc hk => ?_) (fun hc hk => ?_)
  · refine k_aload_n (pc := 14) h 0 dX8_atOnce_14 rfl ?_
    refine k_aload_n (pc := 15) h 0 dX8_atOnce_15 rfl ?_
    obtain ⟨p4, hc3, hk⟩ := bd_some hk
    refine k_callV1 (pc := 16) h (c_X8_leftOver hc3) cw_X8_182 ly_46 rfl ⟨⟨by decide, by decide⟩, Nat.zero_le _, Nat.zero_le _⟩ rfl (Nat.le_of_ble_eq_true rfl) dX8_atOnce_16 ?_
    obtain ⟨p6, hc5, hk⟩ := bd_some hk
    refine k_callV0 (pc := 19) h (c_X8_setTells hc5) cw_X8_213 ly_46 rfl ⟨⟨by decide, by decide⟩, Nat.zero_le _, Nat.zero_le _⟩ rfl (Nat.le_of_ble_eq_true rfl) dX8_atOnce_19 ?_
    refine k_aload_n (pc := 22) h 0 dX8_atOnce_22 rfl ?_
    obtain ⟨p8, hc7, hk⟩ := bd_some hk
    refine k_callV1 (pc := 23) h (c_X8_cheapest hc7) cw_X8_216 ly_46 rfl ⟨⟨by decide, by decide⟩, Nat.zero_le _, Nat.zero_le _⟩ rfl (Nat.le_of_ble_eq_true rfl) dX8_atOnce_23 ?_
    refine k_istore_n (pc := 26) h [1, 2, 0] (lv' := [(0, .ref 46), (1, .int l1), (2, .int p8)]) dX8_atOnce_26 rfl (by decide) rfl ?_
    refine k_iload_n (pc := 27) h 2 dX8_atOnce_27 rfl ?_
    refine k_iconst (pc := 28) h (x := (-1 : Int32)) dX8_atOnce_28 (by decide) ?_
    refine k_icmp_eq (tgt := 36) (pc := 29) h dX8_atOnce_29 rfl hk (fun hc hk => ?_) (fun hc hk => ?_)
    · refine k_sub h [2] (lv' := [(2, .int p8)]) rfl ?_
      exact EJ36 _ _ hk
    · refine k_iload_n (pc := 32) h 1 dX8_atOnce_32 rfl ?_
      refine k_if_ne (tgt := 40) (pc := 33) h dX8_atOnce_33 rfl hk (fun hc hk => ?_) (fun hc hk => ?_)
      · refine k_aload_n (pc := 40) h 0 dX8_atOnce_40 rfl ?_
        refine k_iload_n (pc := 41) h 2 dX8_atOnce_41 rfl ?_
        obtain ⟨p10, hc9, hk⟩ := bd_some hk
        refine k_callV1 (pc := 42) h (c_X8_costOf hc9) cw_X8_210 ly_46 rfl ⟨⟨by decide, by decide⟩, Nat.zero_le _, Nat.zero_le _⟩ rfl (Nat.le_of_ble_eq_true rfl) dX8_atOnce_42 ?_
        have hk := Option.some.inj hk
        subst hk
        exact k_iret (pc := 45) h dX8_atOnce_45 ⟨rfl, rfl, rfl, rfl, rfl, ⟨.int, rfl, rfl⟩⟩
      · refine k_sub h [2] (lv' := [(2, .int p8)]) rfl ?_
        exact EJ36 _ _ hk
  · refine k_aload_n (pc := 9) h 0 dX8_atOnce_9 rfl ?_
    obtain ⟨p12, hc11, hk⟩ := bd_some hk
    refine k_callV1 (pc := 10) h (c_X8_bad hc11) cw_X8_88 ly_46 rfl ⟨⟨by decide, by decide⟩, Nat.zero_le _, Nat.zero_le _⟩ rfl (Nat.le_of_ble_eq_true rfl) dX8_atOnce_10 ?_
    have hk := Option.some.inj hk
    subst hk
    exact k_iret (pc := 13) h dX8_atOnce_13 ⟨rfl, rfl, rfl, rfl, rfl, ⟨.int, rfl, rfl⟩⟩
def f_X8_best_j77 (w : WW) (l1 : Int32) (l3 : Int32) (s0 : Int32) : Option ((Int32 × Int32) ⊕ (Int32)) := some (.inl (s0, (l3 + (1 : Int32))))
def f_X8_best_j72 (w : WW) (l1 : Int32) (l3 : Int32) : Option ((Int32 × Int32) ⊕ (Int32)) := f_X8_best_j77 w l1 l3 l3
def f_X8_best_j76 (w : WW) (l1 : Int32) (l2 : Int32) (l3 : Int32) : Option ((Int32 × Int32) ⊕ (Int32)) := f_X8_best_j77 w l1 l3 l2
def f_X8_best_j45 (w : WW) (l1 : Int32) (l2 : Int32) (l3 : Int32) (s0 : Int32) : Option ((Int32 × Int32) ⊕ (Int32)) := if s0 < 0 then f_X8_best_j72 w l1 l3 else if s0 = 0 then gd (inb l3 7) (gd (inb l2 7) (if (w.1 51 (l2).toNatClampNeg) ≤ (w.1 51 (l3).toNatClampNeg) then f_X8_best_j76 w l1 l2 l3 else f_X8_best_j72 w l1 l3)) else f_X8_best_j76 w l1 l2 l3
def f_X8_best_b9 (w : WW) (l1 : Int32) (l2 : Int32) (l3 : Int32) : Option ((Int32 × Int32) ⊕ (Int32)) := if (w.1 46 2) ≤ l3 then some (.inr l2) else if l1 = 0 then some (.inr l2) else if l2 = (-1 : Int32) then f_X8_best_j45 w l1 l2 l3 (-1 : Int32) else (f_X8_cutOf w l3 l1 (0 : Int32)).bind (fun p4 => (f_X8_cutOf w l2 l1 (0 : Int32)).bind (fun p6 => f_X8_best_j45 w l1 l2 l3 (p4 - p6)))
def f_X8_best (w : WW) : Option (Int32) := (f_X8_leftOver w).bind (fun p2 => (lpf (fun s : Int32 × Int32 => f_X8_best_b9 w p2 s.1 s.2) FU ((-1 : Int32), (0 : Int32))).bind (fun r7 => some (r7)))
set_option maxRecDepth 20000 in
set_option maxHeartbeats 4000000 in
theorem c_X8_best {w : WW} {z : Int32} (hk : f_X8_best w = some z) : Cn 4 yX8_best cX8_best 5 (some .int) LAY [.ref 46] w (some (.int z)) w := by
  refine Cn.of (by decide +kernel) (Nat.le_of_ble_eq_true rfl) (fun G h => ?_)
  have h : Rules cX8_best RX8 "best" 5 (rmd 4 0 0) none _ _ LAY 0 0 G := h
  show G 0 [(0, .ref 46)] [] w
  unfold f_X8_best at hk
  have EJ77 : ∀ (l1 : Int32) (l3 : Int32) (s0 : Int32) (z : (Int32 × Int32) ⊕ (Int32)), f_X8_best_j77 w l1 l3 s0 = some z → Sum.elim (fun s : Int32 × Int32 => G 9 [(0, .ref 46), (1, .int l1), (2, .int s.1), (3, .int s.2)] [] w) (fun r : Int32 => G 84 [(2, .int r)] [] w) z → G 77 [(0, .ref 46), (1, .int l1), (3, .int l3)] [.int s0] w := by
    intro l1 l3 s0 z hk hz
    unfold f_X8_best_j77 at hk
    refine k_istore_n (pc := 77) h [1, 2, 0, 3] (lv' := [(0, .ref 46), (1, .int l1), (2, .int s0), (3, .int l3)]) dX8_best_77 rfl (by decide) rfl ?_
    refine k_iinc (pc := 78) h 3 [1, 2, 3, 0] (v := (l3 + (1 : Int32))) (lv' := [(0, .ref 46), (1, .int l1), (2, .int s0), (3, .int (l3 + (1 : Int32)))]) dX8_best_78 rfl rfl (by decide) rfl ?_
    refine k_goto (tgt := 9) (pc := 81) h dX8_best_81 rfl ?_
    have hk := Option.some.inj hk
    subst hk
    exact hz
  have EJ72 : ∀ (l1 : Int32) (l3 : Int32) (z : (Int32 × Int32) ⊕ (Int32)), f_X8_best_j72 w l1 l3 = some z → Sum.elim (fun s : Int32 × Int32 => G 9 [(0, .ref 46), (1, .int l1), (2, .int s.1), (3, .int s.2)] [] w) (fun r : Int32 => G 84 [(2, .int r)] [] w) z → G 72 [(0, .ref 46), (1, .int l1), (3, .int l3)] [] w := by
    intro l1 l3 z hk hz
    unfold f_X8_best_j72 at hk
    refine k_iload_n (pc := 72) h 2 dX8_best_72 rfl ?_
    refine k_goto (tgt := 77) (pc := 73) h dX8_best_73 rfl ?_
    exact EJ77 _ _ _ _ hk hz
  have EJ76 : ∀ (l1 : Int32) (l2 : Int32) (l3 : Int32) (z : (Int32 × Int32) ⊕ (Int32)), f_X8_best_j76 w l1 l2 l3 = some z → Sum.elim (fun s : Int32 × Int32 => G 9 [(0, .ref 46), (1, .int l1), (2, .int s.1), (3, .int s.2)] [] w) (fun r : Int32 => G 84 [(2, .int r)] [] w) z → G 76 [(0, .ref 46), (1, .int l1), (2, .int l2), (3, .int l3)] [] w := by
    intro l1 l2 l3 z hk hz
    unfold f_X8_best_j76 at hk
    refine k_iload_n (pc := 76) h 2 dX8_best_76 rfl ?_
    refine k_sub h [0, 1, 3] (lv' := [(0, .ref 46), (1, .int l1), (3, .int l3)]) rfl ?_
    exact EJ77 _ _ _ _ hk hz
  have EJ45 : ∀ (l1 : Int32) (l2 : Int32) (l3 : Int32) (s0 : Int32) (z : (Int32 × Int32) ⊕ (Int32)), f_X8_best_j45 w l1 l2 l3 s0 = some z → Sum.elim (fun s : Int32 × Int32 => G 9 [(0, .ref 46), (1, .int l1), (2, .int s.1), (3, .int s.2)] [] w) (fun r : Int32 => G 84 [(2, .int r)] [] w) z → G 45 [(0, .ref 46), (1, .int l1), (2, .int l2), (3, .int l3)] [.int s0] w := by
    intro l1 l2 l3 s0 z hk hz
    unfold f_X8_best_j45 at hk
    refine k_istore (pc := 45) h [1, 2, 3, 4, 0] (lv' := [(0, .ref 46), (1, .int l1), (2, .int l2), (3, .int l3), (4, .int s0)]) dX8_best_45 (by decide) rfl ?_
    refine k_iload (pc := 47) h 4 dX8_best_47 rfl ?_
    refine k_if_lt (tgt := 72) (pc := 49) h dX8_best_49 rfl hk (fun hc hk => ?_) (fun hc hk => ?_)
    · refine k_sub h [0, 1, 3] (lv' := [(0, .ref 46), (1, .int l1), (3, .int l3)]) rfl ?_
      exact EJ72 _ _ _ hk hz
    · refine k_iload (pc := 52) h 4 dX8_best_52 rfl ?_
      refine k_if_ne (tgt := 76) (pc := 54) h dX8_best_54 rfl hk (fun hc hk => ?_) (fun hc hk => ?_)
      · refine k_sub h [0, 1, 2, 3] (lv' := [(0, .ref 46), (1, .int l1), (2, .int l2), (3, .int l3)]) rfl ?_
        exact EJ76 _ _ _ _ hk hz
      · refine k_aload_n (pc := 57) h 0 dX8_best_57 rfl ?_
        refine k_getr (pc := 58) h fl_X8_26 ly_46 rfl dX8_best_58 ?_
        refine k_iload_n (pc := 61) h 3 dX8_best_61 rfl ?_
        refine k_iald (pc := 62) h ly_51 dX8_best_62 hk (fun hk => ?_)
        refine k_aload_n (pc := 63) h 0 dX8_best_63 rfl ?_
        refine k_getr (pc := 64) h fl_X8_26 ly_46 rfl dX8_best_64 ?_
        refine k_iload_n (pc := 67) h 2 dX8_best_67 rfl ?_
        refine k_iald (pc := 68) h ly_51 dX8_best_68 hk (fun hk => ?_)
        refine k_icmp_ge (tgt := 76) (pc := 69) h dX8_best_69 rfl hk (fun hc hk => ?_) (fun hc hk => ?_)
        · refine k_sub h [0, 1, 2, 3] (lv' := [(0, .ref 46), (1, .int l1), (2, .int l2), (3, .int l3)]) rfl ?_
          exact EJ76 _ _ _ _ hk hz
        · refine k_sub h [0, 1, 3] (lv' := [(0, .ref 46), (1, .int l1), (3, .int l3)]) rfl ?_
          exact EJ72 _ _ _ hk hz
  have LB9 : ∀ (l1 : Int32), ∀ (nn : Nat) (s : Int32 × Int32) (r : Int32), lpf (fun s : Int32 × Int32 => f_X8_best_b9 w l1 s.1 s.2) nn s = some r → (fun r : Int32 => G 84 [(2, .int r)] [] w) r → (fun s : Int32 × Int32 => G 9 [(0, .ref 46), (1, .int l1), (2, .int s.1), (3, .int s.2)] [] w) s := by
    intro l1
    refine lpf_ind (fun s : Int32 × Int32 => G 9 [(0, .ref 46), (1, .int l1), (2, .int s.1), (3, .int s.2)] [] w) (fun r : Int32 => G 84 [(2, .int r)] [] w) ?_
    rintro ⟨l2, l3⟩ z hk hz
    have hk : f_X8_best_b9 w l1 l2 l3 = some z := hk
    unfold f_X8_best_b9 at hk
    show G 9 [(0, .ref 46), (1, .int l1), (2, .int l2), (3, .int l3)] [] w
    refine k_iload_n (pc := 9) h 3 dX8_best_9 rfl ?_
    refine k_aload_n (pc := 10) h 0 dX8_best_10 rfl ?_
    refine k_geti (pc := 11) h fl_X8_75 ly_46 rfl dX8_best_11 ?_
    refine k_icmp_ge (tgt := 84) (pc := 14) h dX8_best_14 rfl hk (fun hc hk => ?_) (fun hc hk => ?_)
    · refine k_sub h [2] (lv' := [(2, .int l2)]) rfl ?_
      have hk := Option.some.inj hk
      subst hk
      exact hz
    · refine k_iload_n (pc := 17) h 1 dX8_best_17 rfl ?_
      refine k_if_eq (tgt := 84) (pc := 18) h dX8_best_18 rfl hk (fun hc hk => ?_) (fun hc hk => ?_)
      · refine k_sub h [2] (lv' := [(2, .int l2)]) rfl ?_
        have hk := Option.some.inj hk
        subst hk
        exact hz
      · refine k_iload_n (pc := 21) h 2 dX8_best_21 rfl ?_
        refine k_iconst (pc := 22) h (x := (-1 : Int32)) dX8_best_22 (by decide) ?_
        refine k_icmp_ne (tgt := 30) (pc := 23) h dX8_best_23 rfl hk (fun hc hk => ?_) (fun hc hk => ?_)
        · refine k_aload_n (pc := 30) h 0 dX8_best_30 rfl ?_
          refine k_iload_n (pc := 31) h 3 dX8_best_31 rfl ?_
          refine k_iload_n (pc := 32) h 1 dX8_best_32 rfl ?_
          refine k_iconst (pc := 33) h (x := (0 : Int32)) dX8_best_33 (by decide) ?_
          obtain ⟨p4, hc3, hk⟩ := bd_some hk
          refine k_callV1 (pc := 34) h (c_X8_cutOf hc3) cw_X8_198 ly_46 rfl ⟨⟨by decide, by decide⟩, Nat.zero_le _, Nat.zero_le _⟩ rfl (Nat.le_of_ble_eq_true rfl) dX8_best_34 ?_
          refine k_aload_n (pc := 37) h 0 dX8_best_37 rfl ?_
          refine k_iload_n (pc := 38) h 2 dX8_best_38 rfl ?_
          refine k_iload_n (pc := 39) h 1 dX8_best_39 rfl ?_
          refine k_iconst (pc := 40) h (x := (0 : Int32)) dX8_best_40 (by decide) ?_
          obtain ⟨p6, hc5, hk⟩ := bd_some hk
          refine k_callV1 (pc := 41) h (c_X8_cutOf hc5) cw_X8_198 ly_46 rfl ⟨⟨by decide, by decide⟩, Nat.zero_le _, Nat.zero_le _⟩ rfl (Nat.le_of_ble_eq_true rfl) dX8_best_41 ?_
          refine k_isub (pc := 44) h dX8_best_44 ?_
          exact EJ45 _ _ _ _ _ hk hz
        · refine k_iconst (pc := 26) h (x := (-1 : Int32)) dX8_best_26 (by decide) ?_
          refine k_goto (tgt := 45) (pc := 27) h dX8_best_27 rfl ?_
          exact EJ45 _ _ _ _ _ hk hz
  refine k_aload_n (pc := 0) h 0 dX8_best_0 rfl ?_
  obtain ⟨p2, hc1, hk⟩ := bd_some hk
  refine k_callV1 (pc := 1) h (c_X8_leftOver hc1) cw_X8_182 ly_46 rfl ⟨⟨by decide, by decide⟩, Nat.zero_le _, Nat.zero_le _⟩ rfl (Nat.le_of_ble_eq_true rfl) dX8_best_1 ?_
  refine k_istore_n (pc := 4) h [1, 0] (lv' := [(0, .ref 46), (1, .int p2)]) dX8_best_4 rfl (by decide) rfl ?_
  refine k_iconst (pc := 5) h (x := (-1 : Int32)) dX8_best_5 (by decide) ?_
  refine k_istore_n (pc := 6) h [1, 2, 0] (lv' := [(0, .ref 46), (1, .int p2), (2, .int (-1 : Int32))]) dX8_best_6 rfl (by decide) rfl ?_
  refine k_iconst (pc := 7) h (x := (0 : Int32)) dX8_best_7 (by decide) ?_
  refine k_istore_n (pc := 8) h [1, 2, 3, 0] (lv' := [(0, .ref 46), (1, .int p2), (2, .int (-1 : Int32)), (3, .int (0 : Int32))]) dX8_best_8 rfl (by decide) rfl ?_
  obtain ⟨r7, hl8, hk⟩ := bd_some hk
  refine LB9 _ _ _ _ hl8 ?_
  show G 84 [(2, .int r7)] [] w
  refine k_iload_n (pc := 84) h 0 dX8_best_84 rfl ?_
  have hk := Option.some.inj hk
  subst hk
  exact k_iret (pc := 85) h dX8_best_85 ⟨rfl, rfl, rfl, rfl, rfl, ⟨.int, rfl, rfl⟩⟩
def f_X8_bestRow_b24 (l1 : Int32) (l2 : Int32) (w : WW) : Option ((Int32 × WW) ⊕ (WW)) := if (w.1 46 27) ≤ l2 then some (.inr w) else gd (inb l2 7) (stI w 62 (l2).toNatClampNeg l2 (fun u4 => some (.inl ((l2 + (1 : Int32)), u4))))
def f_X8_bestRow_j97 (w : WW) (l1 : Int32) (l2 : Int32) (s0 : Int32) : Option ((Int32 × Int32 × WW) ⊕ (Int32 × Int32 × WW)) := some (.inl (l2, s0, w))
def f_X8_bestRow_j84 (w : WW) (l1 : Int32) (l3 : Int32) (l4 : Int32) (s0 : Int32) : Option ((Int32 × Int32 × WW) ⊕ (Int32 × Int32 × WW)) := if l3 ≤ l4 then f_X8_bestRow_j97 w l1 s0 l3 else f_X8_bestRow_j97 w l1 s0 l4
def f_X8_bestRow_b56 (l1 : Int32) (l2 : Int32) (l3 : Int32) (w : WW) : Option ((Int32 × Int32 × WW) ⊕ (Int32 × Int32 × WW)) := (f_X8_nextLine w).bind (fun p12 => if p12.1 = 0 then some (.inr (l2, l3, p12.2)) else (f_X8_paidBy p12.2 l1).bind (fun p14 => if l3 ≤ p14 then f_X8_bestRow_j84 p12.2 l1 l3 p14 l2 else (f_X8_lineNumber p12.2).bind (fun p16 => f_X8_bestRow_j84 p12.2 l1 l3 p14 p16)))
def f_X8_bestRow (w : WW) : Option (Int32 × WW) := (f_X8_leftOver w).bind (fun p2 => if p2 = 0 then (f_X8_no w).bind (fun p24 => some (p24.1, p24.2)) else stI w 46 27 (w.1 46 2) (fun u3 => (lpf (fun s : Int32 × WW => f_X8_bestRow_b24 p2 s.1 s.2) FU ((0 : Int32), u3)).bind (fun r5 => (f_X8_lineNumber r5).bind (fun p8 => (f_X8_paidBy r5 p2).bind (fun p10 => (lpf (fun s : Int32 × Int32 × WW => f_X8_bestRow_b56 p2 s.1 s.2.1 s.2.2) FU (p8, p10, r5)).bind (fun r17 => (f_X8_weightOf r17.2.2 p2).bind (fun p20 => (f_X8_lay r17.2.2 ((r17.2.1).toInt64) ((p20).toInt64)).bind (fun p22 => some (r17.1, p22)))))))))
set_option maxRecDepth 20000 in
set_option maxHeartbeats 4000000 in
theorem c_X8_bestRow {w : WW} {z : Int32 × WW} (hk : f_X8_bestRow w = some z) : Cn 4 yX8_bestRow cX8_bestRow 5 (some .int) LAY [.ref 46] w (some (.int z.1)) z.2 := by
  refine Cn.of (by decide +kernel) (Nat.le_of_ble_eq_true rfl) (fun G h => ?_)
  have h : Rules cX8_bestRow RX8 "bestRow" 5 (rmd 4 0 0) none _ _ LAY 0 0 G := h
  show G 0 [(0, .ref 46)] [] w
  unfold f_X8_bestRow at hk
  have LB24 : ∀ (l1 : Int32), ∀ (nn : Nat) (s : Int32 × WW) (r : WW), lpf (fun s : Int32 × WW => f_X8_bestRow_b24 l1 s.1 s.2) nn s = some r → (fun r : WW => G 45 [(0, .ref 46), (1, .int l1)] [] r) r → (fun s : Int32 × WW => G 24 [(0, .ref 46), (1, .int l1), (2, .int s.1)] [] s.2) s := by
    intro l1
    refine lpf_ind (fun s : Int32 × WW => G 24 [(0, .ref 46), (1, .int l1), (2, .int s.1)] [] s.2) (fun r : WW => G 45 [(0, .ref 46), (1, .int l1)] [] r) ?_
    rintro ⟨l2, w⟩ z hk hz
    have hk : f_X8_bestRow_b24 l1 l2 w = some z := hk
    unfold f_X8_bestRow_b24 at hk
    show G 24 [(0, .ref 46), (1, .int l1), (2, .int l2)] [] w
    refine k_iload_n (pc := 24) h 2 dX8_bestRow_24 rfl ?_
    refine k_aload_n (pc := 25) h 0 dX8_bestRow_25 rfl ?_
    refine k_geti (pc := 26) h fl_X8_237 ly_46 rfl dX8_bestRow_26 ?_
    refine k_icmp_ge (tgt := 45) (pc := 29) h dX8_bestRow_29 rfl hk (fun hc hk => ?_) (fun hc hk => ?_)
    · refine k_sub h [0, 1] (lv' := [(0, .ref 46), (1, .int l1)]) rfl ?_
      have hk := Option.some.inj hk
      subst hk
      exact hz
    · refine k_aload_n (pc := 32) h 0 dX8_bestRow_32 rfl ?_
      refine k_getr (pc := 33) h fl_X8_65 ly_46 rfl dX8_bestRow_33 ?_
      refine k_iload_n (pc := 36) h 2 dX8_bestRow_36 rfl ?_
      refine k_iload_n (pc := 37) h 2 dX8_bestRow_37 rfl ?_
      refine k_iast (pc := 38) h ly_62 dX8_bestRow_38 hk (fun u4 hk => ?_)
      refine k_iinc (pc := 39) h 2 [1, 2, 0] (v := (l2 + (1 : Int32))) (lv' := [(0, .ref 46), (1, .int l1), (2, .int (l2 + (1 : Int32)))]) dX8_bestRow_39 rfl rfl (by decide) rfl ?_
      refine k_goto (tgt := 24) (pc := 42) h dX8_bestRow_42 rfl ?_
      have hk := Option.some.inj hk
      subst hk
      exact hz
  have EJ97 : ∀ (w : WW) (l1 : Int32) (l2 : Int32) (s0 : Int32) (z : (Int32 × Int32 × WW) ⊕ (Int32 × Int32 × WW)), f_X8_bestRow_j97 w l1 l2 s0 = some z → Sum.elim (fun s : Int32 × Int32 × WW => G 56 [(0, .ref 46), (1, .int l1), (2, .int s.1), (3, .int s.2.1)] [] s.2.2) (fun r : Int32 × Int32 × WW => G 101 [(0, .ref 46), (1, .int l1), (2, .int r.1), (3, .int r.2.1)] [] r.2.2) z → G 97 [(0, .ref 46), (1, .int l1), (2, .int l2)] [.int s0] w := by
    intro w l1 l2 s0 z hk hz
    unfold f_X8_bestRow_j97 at hk
    refine k_istore_n (pc := 97) h [1, 2, 3, 0] (lv' := [(0, .ref 46), (1, .int l1), (2, .int l2), (3, .int s0)]) dX8_bestRow_97 rfl (by decide) rfl ?_
    refine k_goto (tgt := 56) (pc := 98) h dX8_bestRow_98 rfl ?_
    have hk := Option.some.inj hk
    subst hk
    exact hz
  have EJ84 : ∀ (w : WW) (l1 : Int32) (l3 : Int32) (l4 : Int32) (s0 : Int32) (z : (Int32 × Int32 × WW) ⊕ (Int32 × Int32 × WW)), f_X8_bestRow_j84 w l1 l3 l4 s0 = some z → Sum.elim (fun s : Int32 × Int32 × WW => G 56 [(0, .ref 46), (1, .int l1), (2, .int s.1), (3, .int s.2.1)] [] s.2.2) (fun r : Int32 × Int32 × WW => G 101 [(0, .ref 46), (1, .int l1), (2, .int r.1), (3, .int r.2.1)] [] r.2.2) z → G 84 [(0, .ref 46), (1, .int l1), (3, .int l3), (4, .int l4)] [.int s0] w := by
    intro w l1 l3 l4 s0 z hk hz
    unfold f_X8_bestRow_j84 at hk
    refine k_istore_n (pc := 84) h [1, 2, 0, 3, 4] (lv' := [(0, .ref 46), (1, .int l1), (2, .int s0), (3, .int l3), (4, .int l4)]) dX8_bestRow_84 rfl (by decide) rfl ?_
    refine k_iload (pc := 85) h 4 dX8_bestRow_85 rfl ?_
    refine k_iload_n (pc := 87) h 3 dX8_bestRow_87 rfl ?_
    refine k_icmp_ge (tgt := 96) (pc := 88) h dX8_bestRow_88 rfl hk (fun hc hk => ?_) (fun hc hk => ?_)
    · refine k_iload_n (pc := 96) h 3 dX8_bestRow_96 rfl ?_
      refine k_sub h [0, 1, 2] (lv' := [(0, .ref 46), (1, .int l1), (2, .int s0)]) rfl ?_
      exact EJ97 _ _ _ _ _ hk hz
    · refine k_iload (pc := 91) h 4 dX8_bestRow_91 rfl ?_
      refine k_goto (tgt := 97) (pc := 93) h dX8_bestRow_93 rfl ?_
      refine k_sub h [0, 1, 2] (lv' := [(0, .ref 46), (1, .int l1), (2, .int s0)]) rfl ?_
      exact EJ97 _ _ _ _ _ hk hz
  have LB56 : ∀ (l1 : Int32), ∀ (nn : Nat) (s : Int32 × Int32 × WW) (r : Int32 × Int32 × WW), lpf (fun s : Int32 × Int32 × WW => f_X8_bestRow_b56 l1 s.1 s.2.1 s.2.2) nn s = some r → (fun r : Int32 × Int32 × WW => G 101 [(0, .ref 46), (1, .int l1), (2, .int r.1), (3, .int r.2.1)] [] r.2.2) r → (fun s : Int32 × Int32 × WW => G 56 [(0, .ref 46), (1, .int l1), (2, .int s.1), (3, .int s.2.1)] [] s.2.2) s := by
    intro l1
    refine lpf_ind (fun s : Int32 × Int32 × WW => G 56 [(0, .ref 46), (1, .int l1), (2, .int s.1), (3, .int s.2.1)] [] s.2.2) (fun r : Int32 × Int32 × WW => G 101 [(0, .ref 46), (1, .int l1), (2, .int r.1), (3, .int r.2.1)] [] r.2.2) ?_
    rintro ⟨l2, l3, w⟩ z hk hz
    have hk : f_X8_bestRow_b56 l1 l2 l3 w = some z := hk
    unfold f_X8_bestRow_b56 at hk
    show G 56 [(0, .ref 46), (1, .int l1), (2, .int l2), (3, .int l3)] [] w
    refine k_aload_n (pc := 56) h 0 dX8_bestRow_56 rfl ?_
    obtain ⟨p12, hc11, hk⟩ := bd_some hk
    refine k_callV1 (pc := 57) h (c_X8_nextLine hc11) cw_X8_253 ly_46 rfl ⟨⟨by decide, by decide⟩, Nat.zero_le _, Nat.zero_le _⟩ rfl (Nat.le_of_ble_eq_true rfl) dX8_bestRow_57 ?_
    refine k_if_eq (tgt := 101) (pc := 60) h dX8_bestRow_60 rfl hk (fun hc hk => ?_) (fun hc hk => ?_)
    · have hk := Option.some.inj hk
      subst hk
      exact hz
    · refine k_aload_n (pc := 63) h 0 dX8_bestRow_63 rfl ?_
      refine k_iload_n (pc := 64) h 1 dX8_bestRow_64 rfl ?_
      obtain ⟨p14, hc13, hk⟩ := bd_some hk
      refine k_callV1 (pc := 65) h (c_X8_paidBy hc13) cw_X8_243 ly_46 rfl ⟨⟨by decide, by decide⟩, Nat.zero_le _, Nat.zero_le _⟩ rfl (Nat.le_of_ble_eq_true rfl) dX8_bestRow_65 ?_
      refine k_istore (pc := 68) h [1, 2, 3, 4, 0] (lv' := [(0, .ref 46), (1, .int l1), (2, .int l2), (3, .int l3), (4, .int p14)]) dX8_bestRow_68 (by decide) rfl ?_
      refine k_iload (pc := 70) h 4 dX8_bestRow_70 rfl ?_
      refine k_iload_n (pc := 72) h 3 dX8_bestRow_72 rfl ?_
      refine k_icmp_ge (tgt := 83) (pc := 73) h dX8_bestRow_73 rfl hk (fun hc hk => ?_) (fun hc hk => ?_)
      · refine k_iload_n (pc := 83) h 2 dX8_bestRow_83 rfl ?_
        refine k_sub h [0, 1, 3, 4] (lv' := [(0, .ref 46), (1, .int l1), (3, .int l3), (4, .int p14)]) rfl ?_
        exact EJ84 _ _ _ _ _ _ hk hz
      · refine k_aload_n (pc := 76) h 0 dX8_bestRow_76 rfl ?_
        obtain ⟨p16, hc15, hk⟩ := bd_some hk
        refine k_callV1 (pc := 77) h (c_X8_lineNumber hc15) cw_X8_250 ly_46 rfl ⟨⟨by decide, by decide⟩, Nat.zero_le _, Nat.zero_le _⟩ rfl (Nat.le_of_ble_eq_true rfl) dX8_bestRow_77 ?_
        refine k_goto (tgt := 84) (pc := 80) h dX8_bestRow_80 rfl ?_
        refine k_sub h [0, 1, 3, 4] (lv' := [(0, .ref 46), (1, .int l1), (3, .int l3), (4, .int p14)]) rfl ?_
        exact EJ84 _ _ _ _ _ _ hk hz
  refine k_aload_n (pc := 0) h 0 dX8_bestRow_0 rfl ?_
  obtain ⟨p2, hc1, hk⟩ := bd_some hk
  refine k_callV1 (pc := 1) h (c_X8_leftOver hc1) cw_X8_182 ly_46 rfl ⟨⟨by decide, by decide⟩, Nat.zero_le _, Nat.zero_le _⟩ rfl (Nat.le_of_ble_eq_true rfl) dX8_bestRow_1 ?_
  refine k_istore_n (pc := 4) h [1, 0] (lv' := [(0, .ref 46), (1, .int p2)]) dX8_bestRow_4 rfl (by decide) rfl ?_
  refine k_iload_n (pc := 5) h 1 dX8_bestRow_5 rfl ?_
  refine k_if_ne (tgt := 14) (pc := 6) h dX8_bestRow_6 rfl hk (fun hc hk => ?_) (fun hc hk => ?_)
  · refine k_aload_n (pc := 14) h 0 dX8_bestRow_14 rfl ?_
    refine k_aload_n (pc := 15) h 0 dX8_bestRow_15 rfl ?_
    refine k_geti (pc := 16) h fl_X8_75 ly_46 rfl dX8_bestRow_16 ?_
    refine k_puti (pc := 19) h fl_X8_237 ly_46 rfl dX8_bestRow_19 hk (fun u3 hk => ?_)
    refine k_iconst (pc := 22) h (x := (0 : Int32)) dX8_bestRow_22 (by decide) ?_
    refine k_istore_n (pc := 23) h [1, 2, 0] (lv' := [(0, .ref 46), (1, .int p2), (2, .int (0 : Int32))]) dX8_bestRow_23 rfl (by decide) rfl ?_
    obtain ⟨r5, hl6, hk⟩ := bd_some hk
    refine LB24 _ _ _ _ hl6 ?_
    show G 45 [(0, .ref 46), (1, .int p2)] [] r5
    refine k_aload_n (pc := 45) h 0 dX8_bestRow_45 rfl ?_
    obtain ⟨p8, hc7, hk⟩ := bd_some hk
    refine k_callV1 (pc := 46) h (c_X8_lineNumber hc7) cw_X8_250 ly_46 rfl ⟨⟨by decide, by decide⟩, Nat.zero_le _, Nat.zero_le _⟩ rfl (Nat.le_of_ble_eq_true rfl) dX8_bestRow_46 ?_
    refine k_istore_n (pc := 49) h [1, 2, 0] (lv' := [(0, .ref 46), (1, .int p2), (2, .int p8)]) dX8_bestRow_49 rfl (by decide) rfl ?_
    refine k_aload_n (pc := 50) h 0 dX8_bestRow_50 rfl ?_
    refine k_iload_n (pc := 51) h 1 dX8_bestRow_51 rfl ?_
    obtain ⟨p10, hc9, hk⟩ := bd_some hk
    refine k_callV1 (pc := 52) h (c_X8_paidBy hc9) cw_X8_243 ly_46 rfl ⟨⟨by decide, by decide⟩, Nat.zero_le _, Nat.zero_le _⟩ rfl (Nat.le_of_ble_eq_true rfl) dX8_bestRow_52 ?_
    refine k_istore_n (pc := 55) h [1, 2, 3, 0] (lv' := [(0, .ref 46), (1, .int p2), (2, .int p8), (3, .int p10)]) dX8_bestRow_55 rfl (by decide) rfl ?_
    obtain ⟨r17, hl18, hk⟩ := bd_some hk
    refine LB56 _ _ _ _ hl18 ?_
    show G 101 [(0, .ref 46), (1, .int p2), (2, .int r17.1), (3, .int r17.2.1)] [] r17.2.2
    refine k_aload_n (pc := 101) h 0 dX8_bestRow_101 rfl ?_
    refine k_iload_n (pc := 102) h 3 dX8_bestRow_102 rfl ?_
    refine k_i2l (pc := 103) h dX8_bestRow_103 ?_
    refine k_aload_n (pc := 104) h 0 dX8_bestRow_104 rfl ?_
    refine k_iload_n (pc := 105) h 1 dX8_bestRow_105 rfl ?_
    obtain ⟨p20, hc19, hk⟩ := bd_some hk
    refine k_callV1 (pc := 106) h (c_X8_weightOf hc19) cw_X8_195 ly_46 rfl ⟨⟨by decide, by decide⟩, Nat.zero_le _, Nat.zero_le _⟩ rfl (Nat.le_of_ble_eq_true rfl) dX8_bestRow_106 ?_
    refine k_i2l (pc := 109) h dX8_bestRow_109 ?_
    obtain ⟨p22, hc21, hk⟩ := bd_some hk
    refine k_callV0 (pc := 110) h (c_X8_lay hc21) cw_X8_246 ly_46 rfl ⟨⟨by decide, by decide⟩, Nat.zero_le _, Nat.zero_le _⟩ rfl (Nat.le_of_ble_eq_true rfl) dX8_bestRow_110 ?_
    refine k_iload_n (pc := 113) h 2 dX8_bestRow_113 rfl ?_
    have hk := Option.some.inj hk
    subst hk
    exact k_iret (pc := 114) h dX8_bestRow_114 ⟨rfl, rfl, rfl, rfl, rfl, ⟨.int, rfl, rfl⟩⟩
  · refine k_aload_n (pc := 9) h 0 dX8_bestRow_9 rfl ?_
    obtain ⟨p24, hc23, hk⟩ := bd_some hk
    refine k_callV1 (pc := 10) h (c_X8_no hc23) cw_X8_185 ly_46 rfl ⟨⟨by decide, by decide⟩, Nat.zero_le _, Nat.zero_le _⟩ rfl (Nat.le_of_ble_eq_true rfl) dX8_bestRow_10 ?_
    have hk := Option.some.inj hk
    subst hk
    exact k_iret (pc := 13) h dX8_bestRow_13 ⟨rfl, rfl, rfl, rfl, rfl, ⟨.int, rfl, rfl⟩⟩
def f_X8_countOf (w : WW) (l1 : Int32) : Option (Int32) := if l1 = (0 : Int32) then some ((w.1 46 1)) else if l1 = (1 : Int32) then some ((w.1 46 2)) else if l1 = (2 : Int32) then some ((w.1 46 3)) else if l1 = (3 : Int32) then (f_X8_leftOver w).bind (fun p2 => (f_X8_bits w p2).bind (fun p4 => some (p4))) else if l1 = (4 : Int32) then some ((w.1 46 18)) else some ((w.1 46 10))
set_option maxRecDepth 20000 in
set_option maxHeartbeats 4000000 in
theorem c_X8_countOf {w : WW} {l1 : Int32} {z : Int32} (hk : f_X8_countOf w l1 = some z) : Cn 4 yX8_countOf cX8_countOf 2 (some .int) LAY [.ref 46, .int l1] w (some (.int z)) w := by
  refine Cn.of (by decide +kernel) (Nat.le_of_ble_eq_true rfl) (fun G h => ?_)
  have h : Rules cX8_countOf RX8 "countOf" 2 (rmd 4 0 0) none _ _ LAY 0 0 G := h
  show G 0 [(0, .ref 46), (1, .int l1)] [] w
  unfold f_X8_countOf at hk
  refine k_iload_n (pc := 0) h 1 dX8_countOf_0 rfl ?_
  refine k_tab (a := (0 : Int32)) (tgt := 36) (pc := 1) h dX8_countOf_1 (by decide) (by decide) rfl rfl hk (fun hk => ?_) (fun q0 hk => ?_)
  · refine k_aload_n (pc := 36) h 0 dX8_countOf_36 rfl ?_
    refine k_geti (pc := 37) h fl_X8_13 ly_46 rfl dX8_countOf_37 ?_
    have hk := Option.some.inj hk
    subst hk
    exact k_iret (pc := 40) h dX8_countOf_40 ⟨rfl, rfl, rfl, rfl, rfl, ⟨.int, rfl, rfl⟩⟩
  · refine k_tab (a := (1 : Int32)) (tgt := 41) (pc := 1) h dX8_countOf_1 (by decide) (by decide) rfl rfl hk (fun hk => ?_) (fun q1 hk => ?_)
    · refine k_aload_n (pc := 41) h 0 dX8_countOf_41 rfl ?_
      refine k_geti (pc := 42) h fl_X8_75 ly_46 rfl dX8_countOf_42 ?_
      have hk := Option.some.inj hk
      subst hk
      exact k_iret (pc := 45) h dX8_countOf_45 ⟨rfl, rfl, rfl, rfl, rfl, ⟨.int, rfl, rfl⟩⟩
    · refine k_tab (a := (2 : Int32)) (tgt := 46) (pc := 1) h dX8_countOf_1 (by decide) (by decide) rfl rfl hk (fun hk => ?_) (fun q2 hk => ?_)
      · refine k_aload_n (pc := 46) h 0 dX8_countOf_46 rfl ?_
        refine k_geti (pc := 47) h fl_X8_78 ly_46 rfl dX8_countOf_47 ?_
        have hk := Option.some.inj hk
        subst hk
        exact k_iret (pc := 50) h dX8_countOf_50 ⟨rfl, rfl, rfl, rfl, rfl, ⟨.int, rfl, rfl⟩⟩
      · refine k_tab (a := (3 : Int32)) (tgt := 51) (pc := 1) h dX8_countOf_1 (by decide) (by decide) rfl rfl hk (fun hk => ?_) (fun q3 hk => ?_)
        · refine k_aload_n (pc := 51) h 0 dX8_countOf_51 rfl ?_
          obtain ⟨p2, hc1, hk⟩ := bd_some hk
          refine k_callV1 (pc := 52) h (c_X8_leftOver hc1) cw_X8_182 ly_46 rfl ⟨⟨by decide, by decide⟩, Nat.zero_le _, Nat.zero_le _⟩ rfl (Nat.le_of_ble_eq_true rfl) dX8_countOf_52 ?_
          obtain ⟨p4, hc3, hk⟩ := bd_some hk
          refine k_callS1 (pc := 55) h (c_X8_bits hc3) cw_X8_192 ⟨⟨by decide, by decide⟩, Nat.zero_le _, Nat.zero_le _⟩ rfl (Nat.le_of_ble_eq_true rfl) dX8_countOf_55 ?_
          have hk := Option.some.inj hk
          subst hk
          exact k_iret (pc := 58) h dX8_countOf_58 ⟨rfl, rfl, rfl, rfl, rfl, ⟨.int, rfl, rfl⟩⟩
        · refine k_tab (a := (4 : Int32)) (tgt := 59) (pc := 1) h dX8_countOf_1 (by decide) (by decide) rfl rfl hk (fun hk => ?_) (fun q4 hk => ?_)
          · refine k_aload_n (pc := 59) h 0 dX8_countOf_59 rfl ?_
            refine k_geti (pc := 60) h fl_X8_81 ly_46 rfl dX8_countOf_60 ?_
            have hk := Option.some.inj hk
            subst hk
            exact k_iret (pc := 63) h dX8_countOf_63 ⟨rfl, rfl, rfl, rfl, rfl, ⟨.int, rfl, rfl⟩⟩
          · refine k_tabD (tgt := 64) (pc := 1) h dX8_countOf_1 (by have n0 := lv_neT q0 (a := 0) (by decide); have n1 := lv_neT q1 (a := 1) (by decide); have n2 := lv_neT q2 (a := 2) (by decide); have n3 := lv_neT q3 (a := 3) (by decide); have n4 := lv_neT q4 (a := 4) (by decide); omega) rfl ?_
            refine k_aload_n (pc := 64) h 0 dX8_countOf_64 rfl ?_
            refine k_geti (pc := 65) h fl_X8_106 ly_46 rfl dX8_countOf_65 ?_
            have hk := Option.some.inj hk
            subst hk
            exact k_iret (pc := 68) h dX8_countOf_68 ⟨rfl, rfl, rfl, rfl, rfl, ⟨.int, rfl, rfl⟩⟩
def f_X8_cuts_j30 (w : WW) : Option (Int32 × WW) := (f_X8_bad w).bind (fun p4 => some (p4.1, p4.2))
def f_X8_cuts (w : WW) (l1 : Int32) (l2 : Int32) : Option (Int32 × WW) := (f_X8_isQuestion w l1).bind (fun p2 => if p2 = 0 then f_X8_cuts_j30 w else (f_X8_in w l2 (0 : Int32) (2 : Int32)).bind (fun p6 => if p6 = 0 then f_X8_cuts_j30 w else (f_X8_leftOver w).bind (fun p8 => (f_X8_cutOf w l1 p8 l2).bind (fun p10 => some (p10, w)))))
set_option maxRecDepth 20000 in
set_option maxHeartbeats 4000000 in
theorem c_X8_cuts {w : WW} {l1 : Int32} {l2 : Int32} {z : Int32 × WW} (hk : f_X8_cuts w l1 l2 = some z) : Cn 4 yX8_cuts cX8_cuts 3 (some .int) LAY [.ref 46, .int l1, .int l2] w (some (.int z.1)) z.2 := by
  refine Cn.of (by decide +kernel) (Nat.le_of_ble_eq_true rfl) (fun G h => ?_)
  have h : Rules cX8_cuts RX8 "cuts" 3 (rmd 4 0 0) none _ _ LAY 0 0 G := h
  show G 0 [(0, .ref 46), (1, .int l1), (2, .int l2)] [] w
  unfold f_X8_cuts at hk
  have EJ30 : ∀ (w : WW), f_X8_cuts_j30 w = some z → G 30 [(0, .ref 46)] [] w := by
    intro w hk
    unfold f_X8_cuts_j30 at hk
    refine k_aload_n (pc := 30) h 0 dX8_cuts_30 rfl ?_
    obtain ⟨p4, hc3, hk⟩ := bd_some hk
    refine k_callV1 (pc := 31) h (c_X8_bad hc3) cw_X8_88 ly_46 rfl ⟨⟨by decide, by decide⟩, Nat.zero_le _, Nat.zero_le _⟩ rfl (Nat.le_of_ble_eq_true rfl) dX8_cuts_31 ?_
    have hk := Option.some.inj hk
    subst hk
    exact k_iret (pc := 34) h dX8_cuts_34 ⟨rfl, rfl, rfl, rfl, rfl, ⟨.int, rfl, rfl⟩⟩
  refine k_aload_n (pc := 0) h 0 dX8_cuts_0 rfl ?_
  refine k_iload_n (pc := 1) h 1 dX8_cuts_1 rfl ?_
  obtain ⟨p2, hc1, hk⟩ := bd_some hk
  refine k_callV1 (pc := 2) h (c_X8_isQuestion hc1) cw_X8_103 ly_46 rfl ⟨⟨by decide, by decide⟩, Nat.zero_le _, Nat.zero_le _⟩ rfl (Nat.le_of_ble_eq_true rfl) dX8_cuts_2 ?_
  refine k_if_eq (tgt := 30) (pc := 5) h dX8_cuts_5 rfl hk (fun hc hk => ?_) (fun hc hk => ?_)
  · refine k_sub h [0] (lv' := [(0, .ref 46)]) rfl ?_
    exact EJ30 _ hk
  · refine k_iload_n (pc := 8) h 2 dX8_cuts_8 rfl ?_
    refine k_iconst (pc := 9) h (x := (0 : Int32)) dX8_cuts_9 (by decide) ?_
    refine k_iconst (pc := 10) h (x := (2 : Int32)) dX8_cuts_10 (by decide) ?_
    obtain ⟨p6, hc5, hk⟩ := bd_some hk
    refine k_callS1 (pc := 11) h (c_X8_in hc5) cw_X8_84 ⟨⟨by decide, by decide⟩, Nat.zero_le _, Nat.zero_le _⟩ rfl (Nat.le_of_ble_eq_true rfl) dX8_cuts_11 ?_
    refine k_if_eq (tgt := 30) (pc := 14) h dX8_cuts_14 rfl hk (fun hc hk => ?_) (fun hc hk => ?_)
    · refine k_sub h [0] (lv' := [(0, .ref 46)]) rfl ?_
      exact EJ30 _ hk
    · refine k_aload_n (pc := 17) h 0 dX8_cuts_17 rfl ?_
      refine k_iload_n (pc := 18) h 1 dX8_cuts_18 rfl ?_
      refine k_aload_n (pc := 19) h 0 dX8_cuts_19 rfl ?_
      obtain ⟨p8, hc7, hk⟩ := bd_some hk
      refine k_callV1 (pc := 20) h (c_X8_leftOver hc7) cw_X8_182 ly_46 rfl ⟨⟨by decide, by decide⟩, Nat.zero_le _, Nat.zero_le _⟩ rfl (Nat.le_of_ble_eq_true rfl) dX8_cuts_20 ?_
      refine k_iload_n (pc := 23) h 2 dX8_cuts_23 rfl ?_
      obtain ⟨p10, hc9, hk⟩ := bd_some hk
      refine k_callV1 (pc := 24) h (c_X8_cutOf hc9) cw_X8_198 ly_46 rfl ⟨⟨by decide, by decide⟩, Nat.zero_le _, Nat.zero_le _⟩ rfl (Nat.le_of_ble_eq_true rfl) dX8_cuts_24 ?_
      refine k_goto (tgt := 34) (pc := 27) h dX8_cuts_27 rfl ?_
      have hk := Option.some.inj hk
      subst hk
      exact k_iret (pc := 34) h dX8_cuts_34 ⟨rfl, rfl, rfl, rfl, rfl, ⟨.int, rfl, rfl⟩⟩

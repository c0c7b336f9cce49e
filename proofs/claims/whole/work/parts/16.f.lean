def f_X8_empty_j36 (w : WW) (l1 : Int32) (l3 : Int32) (s0 : Int32) (s1 : Int32) : Option ((Int32 × Int32) ⊕ (Int32)) := nmv (s1 ||| s0) (fun v5 => some (.inl (v5, (l3 + (1 : Int32)))))
def f_X8_empty_b9 (w : WW) (l1 : Int32) (l2 : Int32) (l3 : Int32) : Option ((Int32 × Int32) ⊕ (Int32)) := if (w.1 46 2) ≤ l3 then some (.inr l2) else (f_X8_cutOf w l3 l1 (1 : Int32)).bind (fun p4 => if (2 : Int32) ≤ p4 then f_X8_empty_j36 w l1 l3 (0 : Int32) l2 else f_X8_empty_j36 w l1 l3 (shl32 (1 : Int32) l3) l2)
def f_X8_empty (w : WW) : Option (Int32) := (f_X8_leftOver w).bind (fun p2 => (lpf (fun s : Int32 × Int32 => f_X8_empty_b9 w p2 s.1 s.2) FU ((0 : Int32), (0 : Int32))).bind (fun r6 => some (r6)))
set_option maxRecDepth 20000 in
set_option maxHeartbeats 4000000 in
theorem c_X8_empty {w : WW} {z : Int32} (hk : f_X8_empty w = some z) : Cn 4 yX8_empty cX8_empty 4 (some .int) LAY [.ref 46] w (some (.int z)) w := by
  refine Cn.of (by decide +kernel) (Nat.le_of_ble_eq_true rfl) (fun G h => ?_)
  have h : Rules cX8_empty RX8 "empty" 4 (rmd 4 0 0) none _ _ LAY 0 0 G := h
  show G 0 [(0, .ref 46)] [] w
  unfold f_X8_empty at hk
  have EJ36 : ∀ (l1 : Int32) (l3 : Int32) (s0 : Int32) (s1 : Int32) (z : (Int32 × Int32) ⊕ (Int32)), f_X8_empty_j36 w l1 l3 s0 s1 = some z → Sum.elim (fun s : Int32 × Int32 => G 9 [(0, .ref 46), (1, .int l1), (2, .int s.1), (3, .int s.2)] [] w) (fun r : Int32 => G 44 [(2, .int r)] [] w) z → G 36 [(0, .ref 46), (1, .int l1), (3, .int l3)] [.int s0, .int s1] w := by
    intro l1 l3 s0 s1 z hk hz
    unfold f_X8_empty_j36 at hk
    refine k_ior (pc := 36) h dX8_empty_36 ?_
    refine k_nmi (pc := 37) h hk (fun v5 hk => ?_)
    refine k_istore_n (pc := 37) h [1, 2, 0, 3] (lv' := [(0, .ref 46), (1, .int l1), (2, .int v5), (3, .int l3)]) dX8_empty_37 rfl (by decide) rfl ?_
    refine k_iinc (pc := 38) h 3 [1, 2, 3, 0] (v := (l3 + (1 : Int32))) (lv' := [(0, .ref 46), (1, .int l1), (2, .int v5), (3, .int (l3 + (1 : Int32)))]) dX8_empty_38 rfl rfl (by decide) rfl ?_
    refine k_goto (tgt := 9) (pc := 41) h dX8_empty_41 rfl ?_
    have hk := Option.some.inj hk
    subst hk
    exact hz
  have LB9 : ∀ (l1 : Int32), ∀ (nn : Nat) (s : Int32 × Int32) (r : Int32), lpf (fun s : Int32 × Int32 => f_X8_empty_b9 w l1 s.1 s.2) nn s = some r → (fun r : Int32 => G 44 [(2, .int r)] [] w) r → (fun s : Int32 × Int32 => G 9 [(0, .ref 46), (1, .int l1), (2, .int s.1), (3, .int s.2)] [] w) s := by
    intro l1
    refine lpf_ind (fun s : Int32 × Int32 => G 9 [(0, .ref 46), (1, .int l1), (2, .int s.1), (3, .int s.2)] [] w) (fun r : Int32 => G 44 [(2, .int r)] [] w) ?_
    rintro ⟨l2, l3⟩ z hk hz
    have hk : f_X8_empty_b9 w l1 l2 l3 = some z := hk
    unfold f_X8_empty_b9 at hk
    show G 9 [(0, .ref 46), (1, .int l1), (2, .int l2), (3, .int l3)] [] w
    refine k_iload_n (pc := 9) h 3 dX8_empty_9 rfl ?_
    refine k_aload_n (pc := 10) h 0 dX8_empty_10 rfl ?_
    refine k_geti (pc := 11) h fl_X8_75 ly_46 rfl dX8_empty_11 ?_
    refine k_icmp_ge (tgt := 44) (pc := 14) h dX8_empty_14 rfl hk (fun hc hk => ?_) (fun hc hk => ?_)
    · refine k_sub h [2] (lv' := [(2, .int l2)]) rfl ?_
      have hk := Option.some.inj hk
      subst hk
      exact hz
    · refine k_iload_n (pc := 17) h 2 dX8_empty_17 rfl ?_
      refine k_aload_n (pc := 18) h 0 dX8_empty_18 rfl ?_
      refine k_iload_n (pc := 19) h 3 dX8_empty_19 rfl ?_
      refine k_iload_n (pc := 20) h 1 dX8_empty_20 rfl ?_
      refine k_iconst (pc := 21) h (x := (1 : Int32)) dX8_empty_21 (by decide) ?_
      obtain ⟨p4, hc3, hk⟩ := bd_some hk
      refine k_callV1 (pc := 22) h (c_X8_cutOf hc3) cw_X8_198 ly_46 rfl ⟨⟨by decide, by decide⟩, Nat.zero_le _, Nat.zero_le _⟩ rfl (Nat.le_of_ble_eq_true rfl) dX8_empty_22 ?_
      refine k_iconst (pc := 25) h (x := (2 : Int32)) dX8_empty_25 (by decide) ?_
      refine k_icmp_ge (tgt := 35) (pc := 26) h dX8_empty_26 rfl hk (fun hc hk => ?_) (fun hc hk => ?_)
      · refine k_iconst (pc := 35) h (x := (0 : Int32)) dX8_empty_35 (by decide) ?_
        refine k_sub h [0, 1, 3] (lv' := [(0, .ref 46), (1, .int l1), (3, .int l3)]) rfl ?_
        exact EJ36 _ _ _ _ _ hk hz
      · refine k_iconst (pc := 29) h (x := (1 : Int32)) dX8_empty_29 (by decide) ?_
        refine k_iload_n (pc := 30) h 3 dX8_empty_30 rfl ?_
        refine k_ishl (pc := 31) h dX8_empty_31 ?_
        refine k_goto (tgt := 36) (pc := 32) h dX8_empty_32 rfl ?_
        refine k_sub h [0, 1, 3] (lv' := [(0, .ref 46), (1, .int l1), (3, .int l3)]) rfl ?_
        exact EJ36 _ _ _ _ _ hk hz
  refine k_aload_n (pc := 0) h 0 dX8_empty_0 rfl ?_
  obtain ⟨p2, hc1, hk⟩ := bd_some hk
  refine k_callV1 (pc := 1) h (c_X8_leftOver hc1) cw_X8_182 ly_46 rfl ⟨⟨by decide, by decide⟩, Nat.zero_le _, Nat.zero_le _⟩ rfl (Nat.le_of_ble_eq_true rfl) dX8_empty_1 ?_
  refine k_istore_n (pc := 4) h [1, 0] (lv' := [(0, .ref 46), (1, .int p2)]) dX8_empty_4 rfl (by decide) rfl ?_
  refine k_iconst (pc := 5) h (x := (0 : Int32)) dX8_empty_5 (by decide) ?_
  refine k_istore_n (pc := 6) h [1, 2, 0] (lv' := [(0, .ref 46), (1, .int p2), (2, .int (0 : Int32))]) dX8_empty_6 rfl (by decide) rfl ?_
  refine k_iconst (pc := 7) h (x := (0 : Int32)) dX8_empty_7 (by decide) ?_
  refine k_istore_n (pc := 8) h [1, 2, 3, 0] (lv' := [(0, .ref 46), (1, .int p2), (2, .int (0 : Int32)), (3, .int (0 : Int32))]) dX8_empty_8 rfl (by decide) rfl ?_
  obtain ⟨r6, hl7, hk⟩ := bd_some hk
  refine LB9 _ _ _ _ hl7 ?_
  show G 44 [(2, .int r6)] [] w
  refine k_iload_n (pc := 44) h 0 dX8_empty_44 rfl ?_
  have hk := Option.some.inj hk
  subst hk
  exact k_iret (pc := 45) h dX8_empty_45 ⟨rfl, rfl, rfl, rfl, rfl, ⟨.int, rfl, rfl⟩⟩
def f_X8_haggle_j75 (w : WW) (l1 : Int32) (l2 : Int32) (l4 : Int32) (s0 : Int32) : Option ((Int32 × Int32 × WW) ⊕ (Int32 × WW)) := some (.inl (s0, (l4 + (1 : Int32)), w))
def f_X8_haggle_j74 (w : WW) (l1 : Int32) (l2 : Int32) (l3 : Int32) (l4 : Int32) : Option ((Int32 × Int32 × WW) ⊕ (Int32 × WW)) := f_X8_haggle_j75 w l1 l2 l4 l3
def f_X8_haggle_b33 (l1 : Int32) (l2 : Int32) (l3 : Int32) (l4 : Int32) (w : WW) : Option ((Int32 × Int32 × WW) ⊕ (Int32 × WW)) := if (100 : Int32) ≤ l4 then some (.inr (l3, w)) else gd (inb l1 7) (stI w 51 (l1).toNatClampNeg l4 (fun u8 => (f_X8_cheapest u8).bind (fun p10 => if p10 = (-1 : Int32) then f_X8_haggle_j74 u8 l1 l2 l3 l4 else (f_X8_has u8 p10 l1).bind (fun p12 => if p12 = 0 then f_X8_haggle_j74 u8 l1 l2 l3 l4 else f_X8_haggle_j75 u8 l1 l2 l4 l4))))
def f_X8_haggle (w : WW) (l1 : Int32) : Option (Int32 × WW) := (f_X8_isQuestion w l1).bind (fun p2 => if p2 = 0 then (f_X8_bad w).bind (fun p17 => some (p17.1, p17.2)) else (f_X8_leftOver w).bind (fun p4 => (f_X8_setTells w p4).bind (fun p6 => gd (inb l1 7) (nmv (p6.1 51 (l1).toNatClampNeg) (fun v7 => (lpf (fun s : Int32 × Int32 × WW => f_X8_haggle_b33 l1 v7 s.1 s.2.1 s.2.2) FU ((-1 : Int32), (0 : Int32), p6)).bind (fun r13 => gd (inb l1 7) (stI r13.2 51 (l1).toNatClampNeg v7 (fun u15 => some (r13.1, u15)))))))))
set_option maxRecDepth 20000 in
set_option maxHeartbeats 4000000 in
theorem c_X8_haggle {w : WW} {l1 : Int32} {z : Int32 × WW} (hk : f_X8_haggle w l1 = some z) : Cn 4 yX8_haggle cX8_haggle 6 (some .int) LAY [.ref 46, .int l1] w (some (.int z.1)) z.2 := by
  refine Cn.of (by decide +kernel) (Nat.le_of_ble_eq_true rfl) (fun G h => ?_)
  have h : Rules cX8_haggle RX8 "haggle" 6 (rmd 4 0 0) none _ _ LAY 0 0 G := h
  show G 0 [(0, .ref 46), (1, .int l1)] [] w
  unfold f_X8_haggle at hk
  have EJ75 : ∀ (w : WW) (l1 : Int32) (l2 : Int32) (l4 : Int32) (s0 : Int32) (z : (Int32 × Int32 × WW) ⊕ (Int32 × WW)), f_X8_haggle_j75 w l1 l2 l4 s0 = some z → Sum.elim (fun s : Int32 × Int32 × WW => G 33 [(0, .ref 46), (1, .int l1), (2, .int l2), (3, .int s.1), (4, .int s.2.1)] [] s.2.2) (fun r : Int32 × WW => G 82 [(0, .ref 46), (1, .int l1), (2, .int l2), (3, .int r.1)] [] r.2) z → G 75 [(0, .ref 46), (1, .int l1), (2, .int l2), (4, .int l4)] [.int s0] w := by
    intro w l1 l2 l4 s0 z hk hz
    unfold f_X8_haggle_j75 at hk
    refine k_istore_n (pc := 75) h [1, 2, 3, 0, 4] (lv' := [(0, .ref 46), (1, .int l1), (2, .int l2), (3, .int s0), (4, .int l4)]) dX8_haggle_75 rfl (by decide) rfl ?_
    refine k_iinc (pc := 76) h 4 [1, 2, 3, 4, 0] (v := (l4 + (1 : Int32))) (lv' := [(0, .ref 46), (1, .int l1), (2, .int l2), (3, .int s0), (4, .int (l4 + (1 : Int32)))]) dX8_haggle_76 rfl rfl (by decide) rfl ?_
    refine k_goto (tgt := 33) (pc := 79) h dX8_haggle_79 rfl ?_
    have hk := Option.some.inj hk
    subst hk
    exact hz
  have EJ74 : ∀ (w : WW) (l1 : Int32) (l2 : Int32) (l3 : Int32) (l4 : Int32) (z : (Int32 × Int32 × WW) ⊕ (Int32 × WW)), f_X8_haggle_j74 w l1 l2 l3 l4 = some z → Sum.elim (fun s : Int32 × Int32 × WW => G 33 [(0, .ref 46), (1, .int l1), (2, .int l2), (3, .int s.1), (4, .int s.2.1)] [] s.2.2) (fun r : Int32 × WW => G 82 [(0, .ref 46), (1, .int l1), (2, .int l2), (3, .int r.1)] [] r.2) z → G 74 [(0, .ref 46), (1, .int l1), (2, .int l2), (3, .int l3), (4, .int l4)] [] w := by
    intro w l1 l2 l3 l4 z hk hz
    unfold f_X8_haggle_j74 at hk
    refine k_iload_n (pc := 74) h 3 dX8_haggle_74 rfl ?_
    refine k_sub h [0, 1, 2, 4] (lv' := [(0, .ref 46), (1, .int l1), (2, .int l2), (4, .int l4)]) rfl ?_
    exact EJ75 _ _ _ _ _ _ hk hz
  have LB33 : ∀ (l1 : Int32) (l2 : Int32), ∀ (nn : Nat) (s : Int32 × Int32 × WW) (r : Int32 × WW), lpf (fun s : Int32 × Int32 × WW => f_X8_haggle_b33 l1 l2 s.1 s.2.1 s.2.2) nn s = some r → (fun r : Int32 × WW => G 82 [(0, .ref 46), (1, .int l1), (2, .int l2), (3, .int r.1)] [] r.2) r → (fun s : Int32 × Int32 × WW => G 33 [(0, .ref 46), (1, .int l1), (2, .int l2), (3, .int s.1), (4, .int s.2.1)] [] s.2.2) s := by
    intro l1 l2
    refine lpf_ind (fun s : Int32 × Int32 × WW => G 33 [(0, .ref 46), (1, .int l1), (2, .int l2), (3, .int s.1), (4, .int s.2.1)] [] s.2.2) (fun r : Int32 × WW => G 82 [(0, .ref 46), (1, .int l1), (2, .int l2), (3, .int r.1)] [] r.2) ?_
    rintro ⟨l3, l4, w⟩ z hk hz
    have hk : f_X8_haggle_b33 l1 l2 l3 l4 w = some z := hk
    unfold f_X8_haggle_b33 at hk
    show G 33 [(0, .ref 46), (1, .int l1), (2, .int l2), (3, .int l3), (4, .int l4)] [] w
    refine k_iload (pc := 33) h 4 dX8_haggle_33 rfl ?_
    refine k_bipush (pc := 35) h (x := (100 : Int32)) dX8_haggle_35 (by decide) ?_
    refine k_icmp_ge (tgt := 82) (pc := 37) h dX8_haggle_37 rfl hk (fun hc hk => ?_) (fun hc hk => ?_)
    · refine k_sub h [0, 1, 2, 3] (lv' := [(0, .ref 46), (1, .int l1), (2, .int l2), (3, .int l3)]) rfl ?_
      have hk := Option.some.inj hk
      subst hk
      exact hz
    · refine k_aload_n (pc := 40) h 0 dX8_haggle_40 rfl ?_
      refine k_getr (pc := 41) h fl_X8_26 ly_46 rfl dX8_haggle_41 ?_
      refine k_iload_n (pc := 44) h 1 dX8_haggle_44 rfl ?_
      refine k_iload (pc := 45) h 4 dX8_haggle_45 rfl ?_
      refine k_iast (pc := 47) h ly_51 dX8_haggle_47 hk (fun u8 hk => ?_)
      refine k_aload_n (pc := 48) h 0 dX8_haggle_48 rfl ?_
      obtain ⟨p10, hc9, hk⟩ := bd_some hk
      refine k_callV1 (pc := 49) h (c_X8_cheapest hc9) cw_X8_216 ly_46 rfl ⟨⟨by decide, by decide⟩, Nat.zero_le _, Nat.zero_le _⟩ rfl (Nat.le_of_ble_eq_true rfl) dX8_haggle_49 ?_
      refine k_istore (pc := 52) h [1, 2, 3, 4, 5, 0] (lv' := [(0, .ref 46), (1, .int l1), (2, .int l2), (3, .int l3), (4, .int l4), (5, .int p10)]) dX8_haggle_52 (by decide) rfl ?_
      refine k_iload (pc := 54) h 5 dX8_haggle_54 rfl ?_
      refine k_iconst (pc := 56) h (x := (-1 : Int32)) dX8_haggle_56 (by decide) ?_
      refine k_icmp_eq (tgt := 74) (pc := 57) h dX8_haggle_57 rfl hk (fun hc hk => ?_) (fun hc hk => ?_)
      · refine k_sub h [0, 1, 2, 3, 4] (lv' := [(0, .ref 46), (1, .int l1), (2, .int l2), (3, .int l3), (4, .int l4)]) rfl ?_
        exact EJ74 _ _ _ _ _ _ hk hz
      · refine k_iload (pc := 60) h 5 dX8_haggle_60 rfl ?_
        refine k_iload_n (pc := 62) h 1 dX8_haggle_62 rfl ?_
        obtain ⟨p12, hc11, hk⟩ := bd_some hk
        refine k_callS1 (pc := 63) h (c_X8_has hc11) cw_X8_188 ⟨⟨by decide, by decide⟩, Nat.zero_le _, Nat.zero_le _⟩ rfl (Nat.le_of_ble_eq_true rfl) dX8_haggle_63 ?_
        refine k_if_eq (tgt := 74) (pc := 66) h dX8_haggle_66 rfl hk (fun hc hk => ?_) (fun hc hk => ?_)
        · refine k_sub h [0, 1, 2, 3, 4] (lv' := [(0, .ref 46), (1, .int l1), (2, .int l2), (3, .int l3), (4, .int l4)]) rfl ?_
          exact EJ74 _ _ _ _ _ _ hk hz
        · refine k_iload (pc := 69) h 4 dX8_haggle_69 rfl ?_
          refine k_goto (tgt := 75) (pc := 71) h dX8_haggle_71 rfl ?_
          refine k_sub h [0, 1, 2, 4] (lv' := [(0, .ref 46), (1, .int l1), (2, .int l2), (4, .int l4)]) rfl ?_
          exact EJ75 _ _ _ _ _ _ hk hz
  refine k_aload_n (pc := 0) h 0 dX8_haggle_0 rfl ?_
  refine k_iload_n (pc := 1) h 1 dX8_haggle_1 rfl ?_
  obtain ⟨p2, hc1, hk⟩ := bd_some hk
  refine k_callV1 (pc := 2) h (c_X8_isQuestion hc1) cw_X8_103 ly_46 rfl ⟨⟨by decide, by decide⟩, Nat.zero_le _, Nat.zero_le _⟩ rfl (Nat.le_of_ble_eq_true rfl) dX8_haggle_2 ?_
  refine k_if_ne (tgt := 13) (pc := 5) h dX8_haggle_5 rfl hk (fun hc hk => ?_) (fun hc hk => ?_)
  · refine k_aload_n (pc := 13) h 0 dX8_haggle_13 rfl ?_
    refine k_aload_n (pc := 14) h 0 dX8_haggle_14 rfl ?_
    obtain ⟨p4, hc3, hk⟩ := bd_some hk
    refine k_callV1 (pc := 15) h (c_X8_leftOver hc3) cw_X8_182 ly_46 rfl ⟨⟨by decide, by decide⟩, Nat.zero_le _, Nat.zero_le _⟩ rfl (Nat.le_of_ble_eq_true rfl) dX8_haggle_15 ?_
    obtain ⟨p6, hc5, hk⟩ := bd_some hk
    refine k_callV0 (pc := 18) h (c_X8_setTells hc5) cw_X8_213 ly_46 rfl ⟨⟨by decide, by decide⟩, Nat.zero_le _, Nat.zero_le _⟩ rfl (Nat.le_of_ble_eq_true rfl) dX8_haggle_18 ?_
    refine k_aload_n (pc := 21) h 0 dX8_haggle_21 rfl ?_
    refine k_getr (pc := 22) h fl_X8_26 ly_46 rfl dX8_haggle_22 ?_
    refine k_iload_n (pc := 25) h 1 dX8_haggle_25 rfl ?_
    refine k_iald (pc := 26) h ly_51 dX8_haggle_26 hk (fun hk => ?_)
    refine k_nmi (pc := 27) h hk (fun v7 hk => ?_)
    refine k_istore_n (pc := 27) h [1, 2, 0] (lv' := [(0, .ref 46), (1, .int l1), (2, .int v7)]) dX8_haggle_27 rfl (by decide) rfl ?_
    refine k_iconst (pc := 28) h (x := (-1 : Int32)) dX8_haggle_28 (by decide) ?_
    refine k_istore_n (pc := 29) h [1, 2, 3, 0] (lv' := [(0, .ref 46), (1, .int l1), (2, .int v7), (3, .int (-1 : Int32))]) dX8_haggle_29 rfl (by decide) rfl ?_
    refine k_iconst (pc := 30) h (x := (0 : Int32)) dX8_haggle_30 (by decide) ?_
    refine k_istore (pc := 31) h [1, 2, 3, 4, 0] (lv' := [(0, .ref 46), (1, .int l1), (2, .int v7), (3, .int (-1 : Int32)), (4, .int (0 : Int32))]) dX8_haggle_31 (by decide) rfl ?_
    obtain ⟨r13, hl14, hk⟩ := bd_some hk
    refine LB33 _ _ _ _ _ hl14 ?_
    show G 82 [(0, .ref 46), (1, .int l1), (2, .int v7), (3, .int r13.1)] [] r13.2
    refine k_aload_n (pc := 82) h 0 dX8_haggle_82 rfl ?_
    refine k_getr (pc := 83) h fl_X8_26 ly_46 rfl dX8_haggle_83 ?_
    refine k_iload_n (pc := 86) h 1 dX8_haggle_86 rfl ?_
    refine k_iload_n (pc := 87) h 2 dX8_haggle_87 rfl ?_
    refine k_iast (pc := 88) h ly_51 dX8_haggle_88 hk (fun u15 hk => ?_)
    refine k_iload_n (pc := 89) h 3 dX8_haggle_89 rfl ?_
    have hk := Option.some.inj hk
    subst hk
    exact k_iret (pc := 90) h dX8_haggle_90 ⟨rfl, rfl, rfl, rfl, rfl, ⟨.int, rfl, rfl⟩⟩
  · refine k_aload_n (pc := 8) h 0 dX8_haggle_8 rfl ?_
    obtain ⟨p17, hc16, hk⟩ := bd_some hk
    refine k_callV1 (pc := 9) h (c_X8_bad hc16) cw_X8_88 ly_46 rfl ⟨⟨by decide, by decide⟩, Nat.zero_le _, Nat.zero_le _⟩ rfl (Nat.le_of_ble_eq_true rfl) dX8_haggle_9 ?_
    have hk := Option.some.inj hk
    subst hk
    exact k_iret (pc := 12) h dX8_haggle_12 ⟨rfl, rfl, rfl, rfl, rfl, ⟨.int, rfl, rfl⟩⟩
def f_X8_knows_j37 (w : WW) : Option (Int32 × WW) := (f_X8_ten w).bind (fun p4 => some (p4.1, p4.2))
def f_X8_knows_j93 (w : WW) (l1 : Int32) (l2 : Int32) (l3 : Int32) (l4 : Int32) (l5 : Int32) (l6 : Int32) : Option ((Int32 × Int32 × Int32) ⊕ (Int32 × Int32)) := some (.inl (l4, l5, (l6 + (1 : Int32))))
def f_X8_knows_j88 (w : WW) (l1 : Int32) (l2 : Int32) (l3 : Int32) (l4 : Int32) (l6 : Int32) (s0 : Int32) : Option ((Int32 × Int32 × Int32) ⊕ (Int32 × Int32)) := f_X8_knows_j93 w l1 l2 l3 (l4 + (1 : Int32)) s0 l6
def f_X8_knows_b51 (w : WW) (l1 : Int32) (l2 : Int32) (l3 : Int32) (l4 : Int32) (l5 : Int32) (l6 : Int32) : Option ((Int32 × Int32 × Int32) ⊕ (Int32 × Int32)) := if (shl32 (1 : Int32) (w.1 46 2)) ≤ l6 then some (.inr (l4, l5)) else (f_X8_knownBy w l6 l1).bind (fun p14 => if p14 = l2 then if l4 = 0 then f_X8_knows_j88 w l1 l2 l3 l4 l6 l6 else f_X8_knows_j88 w l1 l2 l3 l4 l6 (l5 &&& l6) else f_X8_knows_j93 w l1 l2 l3 l4 l5 l6)
def f_X8_knows (w : WW) (l1 : Int32) (l2 : Int32) (l3 : Int32) : Option (Int32 × WW) := (f_X8_isCase w l1).bind (fun p2 => if p2 = 0 then f_X8_knows_j37 w else (f_X8_everyCase w).bind (fun p6 => (f_X8_in w l2 (0 : Int32) p6).bind (fun p8 => if p8 = 0 then f_X8_knows_j37 w else (f_X8_has w l2 l1).bind (fun p10 => if p10 = 0 then f_X8_knows_j37 w else (f_X8_in w l3 (0 : Int32) (1 : Int32)).bind (fun p12 => if p12 = 0 then f_X8_knows_j37 w else (lpf (fun s : Int32 × Int32 × Int32 => f_X8_knows_b51 w l1 l2 l3 s.1 s.2.1 s.2.2) FU ((0 : Int32), (-1 : Int32), (0 : Int32))).bind (fun r15 => if l3 = 0 then some (r15.1, w) else some (r15.2, w)))))))
set_option maxRecDepth 20000 in
set_option maxHeartbeats 4000000 in
theorem c_X8_knows {w : WW} {l1 : Int32} {l2 : Int32} {l3 : Int32} {z : Int32 × WW} (hk : f_X8_knows w l1 l2 l3 = some z) : Cn 4 yX8_knows cX8_knows 7 (some .int) LAY [.ref 46, .int l1, .int l2, .int l3] w (some (.int z.1)) z.2 := by
  refine Cn.of (by decide +kernel) (Nat.le_of_ble_eq_true rfl) (fun G h => ?_)
  have h : Rules cX8_knows RX8 "knows" 7 (rmd 4 0 0) none _ _ LAY 0 0 G := h
  show G 0 [(0, .ref 46), (1, .int l1), (2, .int l2), (3, .int l3)] [] w
  unfold f_X8_knows at hk
  have EJ37 : ∀ (w : WW), f_X8_knows_j37 w = some z → G 37 [(0, .ref 46)] [] w := by
    intro w hk
    unfold f_X8_knows_j37 at hk
    refine k_aload_n (pc := 37) h 0 dX8_knows_37 rfl ?_
    obtain ⟨p4, hc3, hk⟩ := bd_some hk
    refine k_callV1 (pc := 38) h (c_X8_ten hc3) cw_X8_204 ly_46 rfl ⟨⟨by decide, by decide⟩, Nat.zero_le _, Nat.zero_le _⟩ rfl (Nat.le_of_ble_eq_true rfl) dX8_knows_38 ?_
    have hk := Option.some.inj hk
    subst hk
    exact k_iret (pc := 41) h dX8_knows_41 ⟨rfl, rfl, rfl, rfl, rfl, ⟨.int, rfl, rfl⟩⟩
  have EJ93 : ∀ (w : WW) (l1 : Int32) (l2 : Int32) (l3 : Int32) (l4 : Int32) (l5 : Int32) (l6 : Int32) (z : (Int32 × Int32 × Int32) ⊕ (Int32 × Int32)), f_X8_knows_j93 w l1 l2 l3 l4 l5 l6 = some z → Sum.elim (fun s : Int32 × Int32 × Int32 => G 51 [(0, .ref 46), (1, .int l1), (2, .int l2), (3, .int l3), (4, .int s.1), (5, .int s.2.1), (6, .int s.2.2)] [] w) (fun r : Int32 × Int32 => G 99 [(3, .int l3), (4, .int r.1), (5, .int r.2)] [] w) z → G 93 [(0, .ref 46), (1, .int l1), (2, .int l2), (3, .int l3), (4, .int l4), (5, .int l5), (6, .int l6)] [] w := by
    intro w l1 l2 l3 l4 l5 l6 z hk hz
    unfold f_X8_knows_j93 at hk
    refine k_iinc (pc := 93) h 6 [1, 2, 3, 4, 5, 6, 0] (v := (l6 + (1 : Int32))) (lv' := [(0, .ref 46), (1, .int l1), (2, .int l2), (3, .int l3), (4, .int l4), (5, .int l5), (6, .int (l6 + (1 : Int32)))]) dX8_knows_93 rfl rfl (by decide) rfl ?_
    refine k_goto (tgt := 51) (pc := 96) h dX8_knows_96 rfl ?_
    have hk := Option.some.inj hk
    subst hk
    exact hz
  have EJ88 : ∀ (w : WW) (l1 : Int32) (l2 : Int32) (l3 : Int32) (l4 : Int32) (l6 : Int32) (s0 : Int32) (z : (Int32 × Int32 × Int32) ⊕ (Int32 × Int32)), f_X8_knows_j88 w l1 l2 l3 l4 l6 s0 = some z → Sum.elim (fun s : Int32 × Int32 × Int32 => G 51 [(0, .ref 46), (1, .int l1), (2, .int l2), (3, .int l3), (4, .int s.1), (5, .int s.2.1), (6, .int s.2.2)] [] w) (fun r : Int32 × Int32 => G 99 [(3, .int l3), (4, .int r.1), (5, .int r.2)] [] w) z → G 88 [(0, .ref 46), (1, .int l1), (2, .int l2), (3, .int l3), (4, .int l4), (6, .int l6)] [.int s0] w := by
    intro w l1 l2 l3 l4 l6 s0 z hk hz
    unfold f_X8_knows_j88 at hk
    refine k_istore (pc := 88) h [1, 2, 3, 4, 5, 0, 6] (lv' := [(0, .ref 46), (1, .int l1), (2, .int l2), (3, .int l3), (4, .int l4), (5, .int s0), (6, .int l6)]) dX8_knows_88 (by decide) rfl ?_
    refine k_iinc (pc := 90) h 4 [1, 2, 3, 4, 0, 5, 6] (v := (l4 + (1 : Int32))) (lv' := [(0, .ref 46), (1, .int l1), (2, .int l2), (3, .int l3), (4, .int (l4 + (1 : Int32))), (5, .int s0), (6, .int l6)]) dX8_knows_90 rfl rfl (by decide) rfl ?_
    exact EJ93 _ _ _ _ _ _ _ _ hk hz
  have LB51 : ∀ (w : WW) (l1 : Int32) (l2 : Int32) (l3 : Int32), ∀ (nn : Nat) (s : Int32 × Int32 × Int32) (r : Int32 × Int32), lpf (fun s : Int32 × Int32 × Int32 => f_X8_knows_b51 w l1 l2 l3 s.1 s.2.1 s.2.2) nn s = some r → (fun r : Int32 × Int32 => G 99 [(3, .int l3), (4, .int r.1), (5, .int r.2)] [] w) r → (fun s : Int32 × Int32 × Int32 => G 51 [(0, .ref 46), (1, .int l1), (2, .int l2), (3, .int l3), (4, .int s.1), (5, .int s.2.1), (6, .int s.2.2)] [] w) s := by
    intro w l1 l2 l3
    refine lpf_ind (fun s : Int32 × Int32 × Int32 => G 51 [(0, .ref 46), (1, .int l1), (2, .int l2), (3, .int l3), (4, .int s.1), (5, .int s.2.1), (6, .int s.2.2)] [] w) (fun r : Int32 × Int32 => G 99 [(3, .int l3), (4, .int r.1), (5, .int r.2)] [] w) ?_
    rintro ⟨l4, l5, l6⟩ z hk hz
    have hk : f_X8_knows_b51 w l1 l2 l3 l4 l5 l6 = some z := hk
    unfold f_X8_knows_b51 at hk
    show G 51 [(0, .ref 46), (1, .int l1), (2, .int l2), (3, .int l3), (4, .int l4), (5, .int l5), (6, .int l6)] [] w
    refine k_iload (pc := 51) h 6 dX8_knows_51 rfl ?_
    refine k_iconst (pc := 53) h (x := (1 : Int32)) dX8_knows_53 (by decide) ?_
    refine k_aload_n (pc := 54) h 0 dX8_knows_54 rfl ?_
    refine k_geti (pc := 55) h fl_X8_75 ly_46 rfl dX8_knows_55 ?_
    refine k_ishl (pc := 58) h dX8_knows_58 ?_
    refine k_icmp_ge (tgt := 99) (pc := 59) h dX8_knows_59 rfl hk (fun hc hk => ?_) (fun hc hk => ?_)
    · refine k_sub h [3, 4, 5] (lv' := [(3, .int l3), (4, .int l4), (5, .int l5)]) rfl ?_
      have hk := Option.some.inj hk
      subst hk
      exact hz
    · refine k_aload_n (pc := 62) h 0 dX8_knows_62 rfl ?_
      refine k_iload (pc := 63) h 6 dX8_knows_63 rfl ?_
      refine k_iload_n (pc := 65) h 1 dX8_knows_65 rfl ?_
      obtain ⟨p14, hc13, hk⟩ := bd_some hk
      refine k_callV1 (pc := 66) h (c_X8_knownBy hc13) cw_X8_225 ly_46 rfl ⟨⟨by decide, by decide⟩, Nat.zero_le _, Nat.zero_le _⟩ rfl (Nat.le_of_ble_eq_true rfl) dX8_knows_66 ?_
      refine k_iload_n (pc := 69) h 2 dX8_knows_69 rfl ?_
      refine k_icmp_ne (tgt := 93) (pc := 70) h dX8_knows_70 rfl hk (fun hc hk => ?_) (fun hc hk => ?_)
      · exact EJ93 _ _ _ _ _ _ _ _ hk hz
      · refine k_iload (pc := 73) h 4 dX8_knows_73 rfl ?_
        refine k_if_ne (tgt := 83) (pc := 75) h dX8_knows_75 rfl hk (fun hc hk => ?_) (fun hc hk => ?_)
        · refine k_iload (pc := 83) h 5 dX8_knows_83 rfl ?_
          refine k_iload (pc := 85) h 6 dX8_knows_85 rfl ?_
          refine k_iand (pc := 87) h dX8_knows_87 ?_
          refine k_sub h [0, 1, 2, 3, 4, 6] (lv' := [(0, .ref 46), (1, .int l1), (2, .int l2), (3, .int l3), (4, .int l4), (6, .int l6)]) rfl ?_
          exact EJ88 _ _ _ _ _ _ _ _ hk hz
        · refine k_iload (pc := 78) h 6 dX8_knows_78 rfl ?_
          refine k_goto (tgt := 88) (pc := 80) h dX8_knows_80 rfl ?_
          refine k_sub h [0, 1, 2, 3, 4, 6] (lv' := [(0, .ref 46), (1, .int l1), (2, .int l2), (3, .int l3), (4, .int l4), (6, .int l6)]) rfl ?_
          exact EJ88 _ _ _ _ _ _ _ _ hk hz
  refine k_aload_n (pc := 0) h 0 dX8_knows_0 rfl ?_
  refine k_iload_n (pc := 1) h 1 dX8_knows_1 rfl ?_
  obtain ⟨p2, hc1, hk⟩ := bd_some hk
  refine k_callV1 (pc := 2) h (c_X8_isCase hc1) cw_X8_92 ly_46 rfl ⟨⟨by decide, by decide⟩, Nat.zero_le _, Nat.zero_le _⟩ rfl (Nat.le_of_ble_eq_true rfl) dX8_knows_2 ?_
  refine k_if_eq (tgt := 37) (pc := 5) h dX8_knows_5 rfl hk (fun hc hk => ?_) (fun hc hk => ?_)
  · refine k_sub h [0] (lv' := [(0, .ref 46)]) rfl ?_
    exact EJ37 _ hk
  · refine k_iload_n (pc := 8) h 2 dX8_knows_8 rfl ?_
    refine k_iconst (pc := 9) h (x := (0 : Int32)) dX8_knows_9 (by decide) ?_
    refine k_aload_n (pc := 10) h 0 dX8_knows_10 rfl ?_
    obtain ⟨p6, hc5, hk⟩ := bd_some hk
    refine k_callV1 (pc := 11) h (c_X8_everyCase hc5) cw_X8_173 ly_46 rfl ⟨⟨by decide, by decide⟩, Nat.zero_le _, Nat.zero_le _⟩ rfl (Nat.le_of_ble_eq_true rfl) dX8_knows_11 ?_
    obtain ⟨p8, hc7, hk⟩ := bd_some hk
    refine k_callS1 (pc := 14) h (c_X8_in hc7) cw_X8_84 ⟨⟨by decide, by decide⟩, Nat.zero_le _, Nat.zero_le _⟩ rfl (Nat.le_of_ble_eq_true rfl) dX8_knows_14 ?_
    refine k_if_eq (tgt := 37) (pc := 17) h dX8_knows_17 rfl hk (fun hc hk => ?_) (fun hc hk => ?_)
    · refine k_sub h [0] (lv' := [(0, .ref 46)]) rfl ?_
      exact EJ37 _ hk
    · refine k_iload_n (pc := 20) h 2 dX8_knows_20 rfl ?_
      refine k_iload_n (pc := 21) h 1 dX8_knows_21 rfl ?_
      obtain ⟨p10, hc9, hk⟩ := bd_some hk
      refine k_callS1 (pc := 22) h (c_X8_has hc9) cw_X8_188 ⟨⟨by decide, by decide⟩, Nat.zero_le _, Nat.zero_le _⟩ rfl (Nat.le_of_ble_eq_true rfl) dX8_knows_22 ?_
      refine k_if_eq (tgt := 37) (pc := 25) h dX8_knows_25 rfl hk (fun hc hk => ?_) (fun hc hk => ?_)
      · refine k_sub h [0] (lv' := [(0, .ref 46)]) rfl ?_
        exact EJ37 _ hk
      · refine k_iload_n (pc := 28) h 3 dX8_knows_28 rfl ?_
        refine k_iconst (pc := 29) h (x := (0 : Int32)) dX8_knows_29 (by decide) ?_
        refine k_iconst (pc := 30) h (x := (1 : Int32)) dX8_knows_30 (by decide) ?_
        obtain ⟨p12, hc11, hk⟩ := bd_some hk
        refine k_callS1 (pc := 31) h (c_X8_in hc11) cw_X8_84 ⟨⟨by decide, by decide⟩, Nat.zero_le _, Nat.zero_le _⟩ rfl (Nat.le_of_ble_eq_true rfl) dX8_knows_31 ?_
        refine k_if_ne (tgt := 42) (pc := 34) h dX8_knows_34 rfl hk (fun hc hk => ?_) (fun hc hk => ?_)
        · refine k_iconst (pc := 42) h (x := (0 : Int32)) dX8_knows_42 (by decide) ?_
          refine k_istore (pc := 43) h [1, 2, 3, 4, 0] (lv' := [(0, .ref 46), (1, .int l1), (2, .int l2), (3, .int l3), (4, .int (0 : Int32))]) dX8_knows_43 (by decide) rfl ?_
          refine k_iconst (pc := 45) h (x := (-1 : Int32)) dX8_knows_45 (by decide) ?_
          refine k_istore (pc := 46) h [1, 2, 3, 4, 5, 0] (lv' := [(0, .ref 46), (1, .int l1), (2, .int l2), (3, .int l3), (4, .int (0 : Int32)), (5, .int (-1 : Int32))]) dX8_knows_46 (by decide) rfl ?_
          refine k_iconst (pc := 48) h (x := (0 : Int32)) dX8_knows_48 (by decide) ?_
          refine k_istore (pc := 49) h [1, 2, 3, 4, 5, 6, 0] (lv' := [(0, .ref 46), (1, .int l1), (2, .int l2), (3, .int l3), (4, .int (0 : Int32)), (5, .int (-1 : Int32)), (6, .int (0 : Int32))]) dX8_knows_49 (by decide) rfl ?_
          obtain ⟨r15, hl16, hk⟩ := bd_some hk
          refine LB51 _ _ _ _ _ _ _ hl16 ?_
          show G 99 [(3, .int l3), (4, .int r15.1), (5, .int r15.2)] [] w
          refine k_iload_n (pc := 99) h 0 dX8_knows_99 rfl ?_
          refine k_if_ne (tgt := 108) (pc := 100) h dX8_knows_100 rfl hk (fun hc hk => ?_) (fun hc hk => ?_)
          · refine k_iload (pc := 108) h 2 dX8_knows_108 rfl ?_
            have hk := Option.some.inj hk
            subst hk
            exact k_iret (pc := 110) h dX8_knows_110 ⟨rfl, rfl, rfl, rfl, rfl, ⟨.int, rfl, rfl⟩⟩
          · refine k_iload (pc := 103) h 1 dX8_knows_103 rfl ?_
            refine k_goto (tgt := 110) (pc := 105) h dX8_knows_105 rfl ?_
            have hk := Option.some.inj hk
            subst hk
            exact k_iret (pc := 110) h dX8_knows_110 ⟨rfl, rfl, rfl, rfl, rfl, ⟨.int, rfl, rfl⟩⟩
        · refine k_sub h [0] (lv' := [(0, .ref 46)]) rfl ?_
          exact EJ37 _ hk
def f_X8_left (w : WW) : Option (Int32) := (f_X8_leftOver w).bind (fun p2 => some (p2))
set_option maxRecDepth 20000 in
set_option maxHeartbeats 4000000 in
theorem c_X8_left {w : WW} {z : Int32} (hk : f_X8_left w = some z) : Cn 4 yX8_left cX8_left 1 (some .int) LAY [.ref 46] w (some (.int z)) w := by
  refine Cn.of (by decide +kernel) (Nat.le_of_ble_eq_true rfl) (fun G h => ?_)
  have h : Rules cX8_left RX8 "left" 1 (rmd 4 0 0) none _ _ LAY 0 0 G := h
  show G 0 [(0, .ref 46)] [] w
  unfold f_X8_left at hk
  refine k_aload_n (pc := 0) h 0 dX8_left_0 rfl ?_
  obtain ⟨p2, hc1, hk⟩ := bd_some hk
  refine k_callV1 (pc := 1) h (c_X8_leftOver hc1) cw_X8_182 ly_46 rfl ⟨⟨by decide, by decide⟩, Nat.zero_le _, Nat.zero_le _⟩ rfl (Nat.le_of_ble_eq_true rfl) dX8_left_1 ?_
  have hk := Option.some.inj hk
  subst hk
  exact k_iret (pc := 4) h dX8_left_4 ⟨rfl, rfl, rfl, rfl, rfl, ⟨.int, rfl, rfl⟩⟩
def f_X8_oneByOne (w : WW) (l1 : Int32) : Option (Int32 × WW) := (f_X8_in w l1 (0 : Int32) (2 : Int32)).bind (fun p2 => if p2 = 0 then (f_X8_bad w).bind (fun p8 => some (p8.1, p8.2)) else (f_X8_leftOver w).bind (fun p4 => (f_X8_setLeast w p4).bind (fun p6 => gd (inb p4 65536) (if (p6.1 58 (p4).toNatClampNeg) < (1048576 : Int32) then if l1 = 0 then gd (inb p4 65536) (some ((p6.1 58 (p4).toNatClampNeg), p6)) else if l1 = (1 : Int32) then gd (inb p4 65536) (some ((p6.1 59 (p4).toNatClampNeg), p6)) else gd (inb p4 65536) (some ((p6.1 60 (p4).toNatClampNeg), p6)) else some ((-1 : Int32), p6)))))
set_option maxRecDepth 20000 in
set_option maxHeartbeats 4000000 in
theorem c_X8_oneByOne {w : WW} {l1 : Int32} {z : Int32 × WW} (hk : f_X8_oneByOne w l1 = some z) : Cn 4 yX8_oneByOne cX8_oneByOne 3 (some .int) LAY [.ref 46, .int l1] w (some (.int z.1)) z.2 := by
  refine Cn.of (by decide +kernel) (Nat.le_of_ble_eq_true rfl) (fun G h => ?_)
  have h : Rules cX8_oneByOne RX8 "oneByOne" 3 (rmd 4 0 0) none _ _ LAY 0 0 G := h
  show G 0 [(0, .ref 46), (1, .int l1)] [] w
  unfold f_X8_oneByOne at hk
  refine k_iload_n (pc := 0) h 1 dX8_oneByOne_0 rfl ?_
  refine k_iconst (pc := 1) h (x := (0 : Int32)) dX8_oneByOne_1 (by decide) ?_
  refine k_iconst (pc := 2) h (x := (2 : Int32)) dX8_oneByOne_2 (by decide) ?_
  obtain ⟨p2, hc1, hk⟩ := bd_some hk
  refine k_callS1 (pc := 3) h (c_X8_in hc1) cw_X8_84 ⟨⟨by decide, by decide⟩, Nat.zero_le _, Nat.zero_le _⟩ rfl (Nat.le_of_ble_eq_true rfl) dX8_oneByOne_3 ?_
  refine k_if_ne (tgt := 14) (pc := 6) h dX8_oneByOne_6 rfl hk (fun hc hk => ?_) (fun hc hk => ?_)
  · refine k_aload_n (pc := 14) h 0 dX8_oneByOne_14 rfl ?_
    obtain ⟨p4, hc3, hk⟩ := bd_some hk
    refine k_callV1 (pc := 15) h (c_X8_leftOver hc3) cw_X8_182 ly_46 rfl ⟨⟨by decide, by decide⟩, Nat.zero_le _, Nat.zero_le _⟩ rfl (Nat.le_of_ble_eq_true rfl) dX8_oneByOne_15 ?_
    refine k_istore_n (pc := 18) h [1, 2, 0] (lv' := [(0, .ref 46), (1, .int l1), (2, .int p4)]) dX8_oneByOne_18 rfl (by decide) rfl ?_
    refine k_aload_n (pc := 19) h 0 dX8_oneByOne_19 rfl ?_
    refine k_iload_n (pc := 20) h 2 dX8_oneByOne_20 rfl ?_
    obtain ⟨p6, hc5, hk⟩ := bd_some hk
    refine k_callV0 (pc := 21) h (c_X8_setLeast hc5) cw_X8_222 ly_46 rfl ⟨⟨by decide, by decide⟩, Nat.zero_le _, Nat.zero_le _⟩ rfl (Nat.le_of_ble_eq_true rfl) dX8_oneByOne_21 ?_
    refine k_aload_n (pc := 24) h 0 dX8_oneByOne_24 rfl ?_
    refine k_getr (pc := 25) h fl_X8_49 ly_46 rfl dX8_oneByOne_25 ?_
    refine k_iload_n (pc := 28) h 2 dX8_oneByOne_28 rfl ?_
    refine k_iald (pc := 29) h ly_58 dX8_oneByOne_29 hk (fun hk => ?_)
    refine k_ldc (pc := 30) h (x := (1048576 : Int32)) cs_X8_191 dX8_oneByOne_30 ?_
    refine k_icmp_lt (tgt := 37) (pc := 32) h dX8_oneByOne_32 rfl hk (fun hc hk => ?_) (fun hc hk => ?_)
    · refine k_iload_n (pc := 37) h 1 dX8_oneByOne_37 rfl ?_
      refine k_if_ne (tgt := 50) (pc := 38) h dX8_oneByOne_38 rfl hk (fun hc hk => ?_) (fun hc hk => ?_)
      · refine k_iload_n (pc := 50) h 1 dX8_oneByOne_50 rfl ?_
        refine k_iconst (pc := 51) h (x := (1 : Int32)) dX8_oneByOne_51 (by decide) ?_
        refine k_icmp_ne (tgt := 64) (pc := 52) h dX8_oneByOne_52 rfl hk (fun hc hk => ?_) (fun hc hk => ?_)
        · refine k_aload_n (pc := 64) h 0 dX8_oneByOne_64 rfl ?_
          refine k_getr (pc := 65) h fl_X8_55 ly_46 rfl dX8_oneByOne_65 ?_
          refine k_iload_n (pc := 68) h 2 dX8_oneByOne_68 rfl ?_
          refine k_iald (pc := 69) h ly_60 dX8_oneByOne_69 hk (fun hk => ?_)
          have hk := Option.some.inj hk
          subst hk
          exact k_iret (pc := 70) h dX8_oneByOne_70 ⟨rfl, rfl, rfl, rfl, rfl, ⟨.int, rfl, rfl⟩⟩
        · refine k_aload_n (pc := 55) h 0 dX8_oneByOne_55 rfl ?_
          refine k_getr (pc := 56) h fl_X8_52 ly_46 rfl dX8_oneByOne_56 ?_
          refine k_iload_n (pc := 59) h 2 dX8_oneByOne_59 rfl ?_
          refine k_iald (pc := 60) h ly_59 dX8_oneByOne_60 hk (fun hk => ?_)
          refine k_goto (tgt := 70) (pc := 61) h dX8_oneByOne_61 rfl ?_
          have hk := Option.some.inj hk
          subst hk
          exact k_iret (pc := 70) h dX8_oneByOne_70 ⟨rfl, rfl, rfl, rfl, rfl, ⟨.int, rfl, rfl⟩⟩
      · refine k_aload_n (pc := 41) h 0 dX8_oneByOne_41 rfl ?_
        refine k_getr (pc := 42) h fl_X8_49 ly_46 rfl dX8_oneByOne_42 ?_
        refine k_iload_n (pc := 45) h 2 dX8_oneByOne_45 rfl ?_
        refine k_iald (pc := 46) h ly_58 dX8_oneByOne_46 hk (fun hk => ?_)
        refine k_goto (tgt := 70) (pc := 47) h dX8_oneByOne_47 rfl ?_
        have hk := Option.some.inj hk
        subst hk
        exact k_iret (pc := 70) h dX8_oneByOne_70 ⟨rfl, rfl, rfl, rfl, rfl, ⟨.int, rfl, rfl⟩⟩
    · refine k_iconst (pc := 35) h (x := (-1 : Int32)) dX8_oneByOne_35 (by decide) ?_
      have hk := Option.some.inj hk
      subst hk
      exact k_iret (pc := 36) h dX8_oneByOne_36 ⟨rfl, rfl, rfl, rfl, rfl, ⟨.int, rfl, rfl⟩⟩
  · refine k_aload_n (pc := 9) h 0 dX8_oneByOne_9 rfl ?_
    obtain ⟨p8, hc7, hk⟩ := bd_some hk
    refine k_callV1 (pc := 10) h (c_X8_bad hc7) cw_X8_88 ly_46 rfl ⟨⟨by decide, by decide⟩, Nat.zero_le _, Nat.zero_le _⟩ rfl (Nat.le_of_ble_eq_true rfl) dX8_oneByOne_10 ?_
    have hk := Option.some.inj hk
    subst hk
    exact k_iret (pc := 13) h dX8_oneByOne_13 ⟨rfl, rfl, rfl, rfl, rfl, ⟨.int, rfl, rfl⟩⟩
def f_X8_parted_j18 (w : WW) (l1 : Int32) : Option (Int32 × WW) := (f_X8_leftOver w).bind (fun p2 => if l1 = (-1 : Int32) then (f_X8_partedByAny w p2).bind (fun p6 => some (p6, w)) else (f_X8_partedBy w l1 p2).bind (fun p4 => some (p4, w)))
def f_X8_parted (w : WW) (l1 : Int32) : Option (Int32 × WW) := if l1 = (-1 : Int32) then f_X8_parted_j18 w l1 else (f_X8_isQuestion w l1).bind (fun p8 => if p8 = 0 then (f_X8_ten w).bind (fun p10 => some (p10.1, p10.2)) else f_X8_parted_j18 w l1)
set_option maxRecDepth 20000 in
set_option maxHeartbeats 4000000 in
theorem c_X8_parted {w : WW} {l1 : Int32} {z : Int32 × WW} (hk : f_X8_parted w l1 = some z) : Cn 4 yX8_parted cX8_parted 3 (some .int) LAY [.ref 46, .int l1] w (some (.int z.1)) z.2 := by
  refine Cn.of (by decide +kernel) (Nat.le_of_ble_eq_true rfl) (fun G h => ?_)
  have h : Rules cX8_parted RX8 "parted" 3 (rmd 4 0 0) none _ _ LAY 0 0 G := h
  show G 0 [(0, .ref 46), (1, .int l1)] [] w
  unfold f_X8_parted at hk
  have EJ18 : ∀ (w : WW) (l1 : Int32), f_X8_parted_j18 w l1 = some z → G 18 [(0, .ref 46), (1, .int l1)] [] w := by
    intro w l1 hk
    unfold f_X8_parted_j18 at hk
    refine k_aload_n (pc := 18) h 0 dX8_parted_18 rfl ?_
    obtain ⟨p2, hc1, hk⟩ := bd_some hk
    refine k_callV1 (pc := 19) h (c_X8_leftOver hc1) cw_X8_182 ly_46 rfl ⟨⟨by decide, by decide⟩, Nat.zero_le _, Nat.zero_le _⟩ rfl (Nat.le_of_ble_eq_true rfl) dX8_parted_19 ?_
    refine k_istore_n (pc := 22) h [1, 2, 0] (lv' := [(0, .ref 46), (1, .int l1), (2, .int p2)]) dX8_parted_22 rfl (by decide) rfl ?_
    refine k_iload_n (pc := 23) h 1 dX8_parted_23 rfl ?_
    refine k_iconst (pc := 24) h (x := (-1 : Int32)) dX8_parted_24 (by decide) ?_
    refine k_icmp_ne (tgt := 36) (pc := 25) h dX8_parted_25 rfl hk (fun hc hk => ?_) (fun hc hk => ?_)
    · refine k_aload_n (pc := 36) h 0 dX8_parted_36 rfl ?_
      refine k_iload_n (pc := 37) h 1 dX8_parted_37 rfl ?_
      refine k_iload_n (pc := 38) h 2 dX8_parted_38 rfl ?_
      obtain ⟨p4, hc3, hk⟩ := bd_some hk
      refine k_callV1 (pc := 39) h (c_X8_partedBy hc3) cw_X8_231 ly_46 rfl ⟨⟨by decide, by decide⟩, Nat.zero_le _, Nat.zero_le _⟩ rfl (Nat.le_of_ble_eq_true rfl) dX8_parted_39 ?_
      have hk := Option.some.inj hk
      subst hk
      exact k_iret (pc := 42) h dX8_parted_42 ⟨rfl, rfl, rfl, rfl, rfl, ⟨.int, rfl, rfl⟩⟩
    · refine k_aload_n (pc := 28) h 0 dX8_parted_28 rfl ?_
      refine k_iload_n (pc := 29) h 2 dX8_parted_29 rfl ?_
      obtain ⟨p6, hc5, hk⟩ := bd_some hk
      refine k_callV1 (pc := 30) h (c_X8_partedByAny hc5) cw_X8_228 ly_46 rfl ⟨⟨by decide, by decide⟩, Nat.zero_le _, Nat.zero_le _⟩ rfl (Nat.le_of_ble_eq_true rfl) dX8_parted_30 ?_
      refine k_goto (tgt := 42) (pc := 33) h dX8_parted_33 rfl ?_
      have hk := Option.some.inj hk
      subst hk
      exact k_iret (pc := 42) h dX8_parted_42 ⟨rfl, rfl, rfl, rfl, rfl, ⟨.int, rfl, rfl⟩⟩
  refine k_iload_n (pc := 0) h 1 dX8_parted_0 rfl ?_
  refine k_iconst (pc := 1) h (x := (-1 : Int32)) dX8_parted_1 (by decide) ?_
  refine k_icmp_eq (tgt := 18) (pc := 2) h dX8_parted_2 rfl hk (fun hc hk => ?_) (fun hc hk => ?_)
  · exact EJ18 _ _ hk
  · refine k_aload_n (pc := 5) h 0 dX8_parted_5 rfl ?_
    refine k_iload_n (pc := 6) h 1 dX8_parted_6 rfl ?_
    obtain ⟨p8, hc7, hk⟩ := bd_some hk
    refine k_callV1 (pc := 7) h (c_X8_isQuestion hc7) cw_X8_103 ly_46 rfl ⟨⟨by decide, by decide⟩, Nat.zero_le _, Nat.zero_le _⟩ rfl (Nat.le_of_ble_eq_true rfl) dX8_parted_7 ?_
    refine k_if_ne (tgt := 18) (pc := 10) h dX8_parted_10 rfl hk (fun hc hk => ?_) (fun hc hk => ?_)
    · exact EJ18 _ _ hk
    · refine k_aload_n (pc := 13) h 0 dX8_parted_13 rfl ?_
      obtain ⟨p10, hc9, hk⟩ := bd_some hk
      refine k_callV1 (pc := 14) h (c_X8_ten hc9) cw_X8_204 ly_46 rfl ⟨⟨by decide, by decide⟩, Nat.zero_le _, Nat.zero_le _⟩ rfl (Nat.le_of_ble_eq_true rfl) dX8_parted_14 ?_
      have hk := Option.some.inj hk
      subst hk
      exact k_iret (pc := 17) h dX8_parted_17 ⟨rfl, rfl, rfl, rfl, rfl, ⟨.int, rfl, rfl⟩⟩
def f_X8_readsFirst (w : WW) : Option (Int32 × WW) := (f_X8_skip w).bind (fun p2 => (f_X8_wordHere p2).bind (fun p4 => if p4 = 0 then stI p2 46 11 ((p2.1 46 11) + (4 : Int32)) (fun u5 => (f_X8_number u5 (1 : Int32) (16 : Int32)).bind (fun p7 => if p7.1 = 0 then some ((0 : Int32), p7.2) else stI p7.2 46 12 (p7.2.1 46 16) (fun u8 => (f_X8_ends u8).bind (fun p10 => gd (p10.1 &&& 1 = p10.1) (some (p10.1, p10.2)))))) else some ((0 : Int32), p2)))
set_option maxRecDepth 20000 in
set_option maxHeartbeats 4000000 in
theorem c_X8_readsFirst {w : WW} {z : Int32 × WW} (hk : f_X8_readsFirst w = some z) : Cn 4 yX8_readsFirst cX8_readsFirst 1 (some .boolean) LAY [.ref 46] w (some (.int z.1)) z.2 := by
  refine Cn.of (by decide +kernel) (Nat.le_of_ble_eq_true rfl) (fun G h => ?_)
  have h : Rules cX8_readsFirst RX8 "readsFirst" 1 (rmd 4 0 0) none _ _ LAY 0 0 G := h
  show G 0 [(0, .ref 46)] [] w
  unfold f_X8_readsFirst at hk
  refine k_aload_n (pc := 0) h 0 dX8_readsFirst_0 rfl ?_
  obtain ⟨p2, hc1, hk⟩ := bd_some hk
  refine k_callV0 (pc := 1) h (c_X8_skip hc1) cw_X8_125 ly_46 rfl ⟨⟨by decide, by decide⟩, Nat.zero_le _, Nat.zero_le _⟩ rfl (Nat.le_of_ble_eq_true rfl) dX8_readsFirst_1 ?_
  refine k_aload_n (pc := 4) h 0 dX8_readsFirst_4 rfl ?_
  obtain ⟨p4, hc3, hk⟩ := bd_some hk
  refine k_callV1 (pc := 5) h (c_X8_wordHere hc3) cw_X8_148 ly_46 rfl ⟨⟨by decide, by decide⟩, Nat.zero_le _, Nat.zero_le _⟩ rfl (Nat.le_of_ble_eq_true rfl) dX8_readsFirst_5 ?_
  refine k_if_eq (tgt := 13) (pc := 8) h dX8_readsFirst_8 rfl hk (fun hc hk => ?_) (fun hc hk => ?_)
  · refine k_aload_n (pc := 13) h 0 dX8_readsFirst_13 rfl ?_
    refine k_dup (pc := 14) h dX8_readsFirst_14 rfl ?_
    refine k_geti (pc := 15) h fl_X8_109 ly_46 rfl dX8_readsFirst_15 ?_
    refine k_iconst (pc := 18) h (x := (4 : Int32)) dX8_readsFirst_18 (by decide) ?_
    refine k_iadd (pc := 19) h dX8_readsFirst_19 ?_
    refine k_puti (pc := 20) h fl_X8_109 ly_46 rfl dX8_readsFirst_20 hk (fun u5 hk => ?_)
    refine k_aload_n (pc := 23) h 0 dX8_readsFirst_23 rfl ?_
    refine k_iconst (pc := 24) h (x := (1 : Int32)) dX8_readsFirst_24 (by decide) ?_
    refine k_bipush (pc := 25) h (x := (16 : Int32)) dX8_readsFirst_25 (by decide) ?_
    obtain ⟨p7, hc6, hk⟩ := bd_some hk
    refine k_callV1 (pc := 27) h (c_X8_number hc6) cw_X8_137 ly_46 rfl ⟨⟨by decide, by decide⟩, Nat.zero_le _, Nat.zero_le _⟩ rfl (Nat.le_of_ble_eq_true rfl) dX8_readsFirst_27 ?_
    refine k_if_ne (tgt := 35) (pc := 30) h dX8_readsFirst_30 rfl hk (fun hc hk => ?_) (fun hc hk => ?_)
    · refine k_aload_n (pc := 35) h 0 dX8_readsFirst_35 rfl ?_
      refine k_aload_n (pc := 36) h 0 dX8_readsFirst_36 rfl ?_
      refine k_geti (pc := 37) h fl_X8_131 ly_46 rfl dX8_readsFirst_37 ?_
      refine k_puti (pc := 40) h fl_X8_134 ly_46 rfl dX8_readsFirst_40 hk (fun u8 hk => ?_)
      refine k_aload_n (pc := 43) h 0 dX8_readsFirst_43 rfl ?_
      obtain ⟨p10, hc9, hk⟩ := bd_some hk
      refine k_callV1 (pc := 44) h (c_X8_ends hc9) cw_X8_141 ly_46 rfl ⟨⟨by decide, by decide⟩, Nat.zero_le _, Nat.zero_le _⟩ rfl (Nat.le_of_ble_eq_true rfl) dX8_readsFirst_44 ?_
      obtain ⟨hg, hk⟩ := gd_some hk
      have hk := Option.some.inj hk
      subst hk
      exact k_iret (pc := 47) h dX8_readsFirst_47 ⟨rfl, rfl, rfl, rfl, rfl, ⟨.boolean, rfl, nar_b hg⟩⟩
    · refine k_iconst (pc := 33) h (x := (0 : Int32)) dX8_readsFirst_33 (by decide) ?_
      have hk := Option.some.inj hk
      subst hk
      exact k_iret (pc := 34) h dX8_readsFirst_34 ⟨rfl, rfl, rfl, rfl, rfl, ⟨.boolean, rfl, rfl⟩⟩
  · refine k_iconst (pc := 11) h (x := (0 : Int32)) dX8_readsFirst_11 (by decide) ?_
    have hk := Option.some.inj hk
    subst hk
    exact k_iret (pc := 12) h dX8_readsFirst_12 ⟨rfl, rfl, rfl, rfl, rfl, ⟨.boolean, rfl, rfl⟩⟩
def f_X8_readsItem_j24 (w : WW) : Option (Int32 × WW) := some ((0 : Int32), w)
def f_X8_readsItem_j42 (w : WW) (l1 : Int32) (s0 : Int32) (s1 : Int32) : Option (Int32 × WW) := stI w 46 11 (s1 + s0) (fun u3 => if l1 = (1 : Int32) then (f_X8_readsCase u3).bind (fun p7 => gd (p7.1 &&& 1 = p7.1) (some (p7.1, p7.2))) else (f_X8_readsQuestion u3).bind (fun p5 => gd (p5.1 &&& 1 = p5.1) (some (p5.1, p5.2))))
def f_X8_readsItem_j26 (w : WW) (l1 : Int32) : Option (Int32 × WW) := if l1 = (1 : Int32) then f_X8_readsItem_j42 w l1 (4 : Int32) (w.1 46 11) else f_X8_readsItem_j42 w l1 (8 : Int32) (w.1 46 11)
def f_X8_readsItem (w : WW) : Option (Int32 × WW) := (f_X8_wordHere w).bind (fun p2 => if p2 < (1 : Int32) then f_X8_readsItem_j24 w else if p2 = (2 : Int32) then if (w.1 46 13) = (7 : Int32) then f_X8_readsItem_j24 w else f_X8_readsItem_j26 w p2 else f_X8_readsItem_j26 w p2)
set_option maxRecDepth 20000 in
set_option maxHeartbeats 4000000 in
theorem c_X8_readsItem {w : WW} {z : Int32 × WW} (hk : f_X8_readsItem w = some z) : Cn 4 yX8_readsItem cX8_readsItem 2 (some .boolean) LAY [.ref 46] w (some (.int z.1)) z.2 := by
  refine Cn.of (by decide +kernel) (Nat.le_of_ble_eq_true rfl) (fun G h => ?_)
  have h : Rules cX8_readsItem RX8 "readsItem" 2 (rmd 4 0 0) none _ _ LAY 0 0 G := h
  show G 0 [(0, .ref 46)] [] w
  unfold f_X8_readsItem at hk
  have EJ24 : ∀ (w : WW), f_X8_readsItem_j24 w = some z → G 24 [] [] w := by
    intro w hk
    unfold f_X8_readsItem_j24 at hk
    refine k_iconst (pc := 24) h (x := (0 : Int32)) dX8_readsItem_24 (by decide) ?_
    have hk := Option.some.inj hk
    subst hk
    exact k_iret (pc := 25) h dX8_readsItem_25 ⟨rfl, rfl, rfl, rfl, rfl, ⟨.boolean, rfl, rfl⟩⟩
  have EJ42 : ∀ (w : WW) (l1 : Int32) (s0 : Int32) (s1 : Int32), f_X8_readsItem_j42 w l1 s0 s1 = some z → G 42 [(0, .ref 46), (1, .int l1)] [.int s0, .int s1, .ref 46] w := by
    intro w l1 s0 s1 hk
    unfold f_X8_readsItem_j42 at hk
    refine k_iadd (pc := 42) h dX8_readsItem_42 ?_
    refine k_puti (pc := 43) h fl_X8_109 ly_46 rfl dX8_readsItem_43 hk (fun u3 hk => ?_)
    refine k_iload_n (pc := 46) h 1 dX8_readsItem_46 rfl ?_
    refine k_iconst (pc := 47) h (x := (1 : Int32)) dX8_readsItem_47 (by decide) ?_
    refine k_icmp_ne (tgt := 58) (pc := 48) h dX8_readsItem_48 rfl hk (fun hc hk => ?_) (fun hc hk => ?_)
    · refine k_aload_n (pc := 58) h 0 dX8_readsItem_58 rfl ?_
      obtain ⟨p5, hc4, hk⟩ := bd_some hk
      refine k_callV1 (pc := 59) h (c_X8_readsQuestion hc4) cw_X8_154 ly_46 rfl ⟨⟨by decide, by decide⟩, Nat.zero_le _, Nat.zero_le _⟩ rfl (Nat.le_of_ble_eq_true rfl) dX8_readsItem_59 ?_
      obtain ⟨hg, hk⟩ := gd_some hk
      have hk := Option.some.inj hk
      subst hk
      exact k_iret (pc := 62) h dX8_readsItem_62 ⟨rfl, rfl, rfl, rfl, rfl, ⟨.boolean, rfl, nar_b hg⟩⟩
    · refine k_aload_n (pc := 51) h 0 dX8_readsItem_51 rfl ?_
      obtain ⟨p7, hc6, hk⟩ := bd_some hk
      refine k_callV1 (pc := 52) h (c_X8_readsCase hc6) cw_X8_151 ly_46 rfl ⟨⟨by decide, by decide⟩, Nat.zero_le _, Nat.zero_le _⟩ rfl (Nat.le_of_ble_eq_true rfl) dX8_readsItem_52 ?_
      refine k_goto (tgt := 62) (pc := 55) h dX8_readsItem_55 rfl ?_
      obtain ⟨hg, hk⟩ := gd_some hk
      have hk := Option.some.inj hk
      subst hk
      exact k_iret (pc := 62) h dX8_readsItem_62 ⟨rfl, rfl, rfl, rfl, rfl, ⟨.boolean, rfl, nar_b hg⟩⟩
  have EJ26 : ∀ (w : WW) (l1 : Int32), f_X8_readsItem_j26 w l1 = some z → G 26 [(0, .ref 46), (1, .int l1)] [] w := by
    intro w l1 hk
    unfold f_X8_readsItem_j26 at hk
    refine k_aload_n (pc := 26) h 0 dX8_readsItem_26 rfl ?_
    refine k_dup (pc := 27) h dX8_readsItem_27 rfl ?_
    refine k_geti (pc := 28) h fl_X8_109 ly_46 rfl dX8_readsItem_28 ?_
    refine k_iload_n (pc := 31) h 1 dX8_readsItem_31 rfl ?_
    refine k_iconst (pc := 32) h (x := (1 : Int32)) dX8_readsItem_32 (by decide) ?_
    refine k_icmp_ne (tgt := 40) (pc := 33) h dX8_readsItem_33 rfl hk (fun hc hk => ?_) (fun hc hk => ?_)
    · refine k_bipush (pc := 40) h (x := (8 : Int32)) dX8_readsItem_40 (by decide) ?_
      exact EJ42 _ _ _ _ hk
    · refine k_iconst (pc := 36) h (x := (4 : Int32)) dX8_readsItem_36 (by decide) ?_
      refine k_goto (tgt := 42) (pc := 37) h dX8_readsItem_37 rfl ?_
      exact EJ42 _ _ _ _ hk
  refine k_aload_n (pc := 0) h 0 dX8_readsItem_0 rfl ?_
  obtain ⟨p2, hc1, hk⟩ := bd_some hk
  refine k_callV1 (pc := 1) h (c_X8_wordHere hc1) cw_X8_148 ly_46 rfl ⟨⟨by decide, by decide⟩, Nat.zero_le _, Nat.zero_le _⟩ rfl (Nat.le_of_ble_eq_true rfl) dX8_readsItem_1 ?_
  refine k_istore_n (pc := 4) h [1, 0] (lv' := [(0, .ref 46), (1, .int p2)]) dX8_readsItem_4 rfl (by decide) rfl ?_
  refine k_iload_n (pc := 5) h 1 dX8_readsItem_5 rfl ?_
  refine k_iconst (pc := 6) h (x := (1 : Int32)) dX8_readsItem_6 (by decide) ?_
  refine k_icmp_lt (tgt := 24) (pc := 7) h dX8_readsItem_7 rfl hk (fun hc hk => ?_) (fun hc hk => ?_)
  · refine k_sub h [] (lv' := []) rfl ?_
    exact EJ24 _ hk
  · refine k_iload_n (pc := 10) h 1 dX8_readsItem_10 rfl ?_
    refine k_iconst (pc := 11) h (x := (2 : Int32)) dX8_readsItem_11 (by decide) ?_
    refine k_icmp_ne (tgt := 26) (pc := 12) h dX8_readsItem_12 rfl hk (fun hc hk => ?_) (fun hc hk => ?_)
    · exact EJ26 _ _ hk
    · refine k_aload_n (pc := 15) h 0 dX8_readsItem_15 rfl ?_
      refine k_geti (pc := 16) h fl_X8_145 ly_46 rfl dX8_readsItem_16 ?_
      refine k_bipush (pc := 19) h (x := (7 : Int32)) dX8_readsItem_19 (by decide) ?_
      refine k_icmp_ne (tgt := 26) (pc := 21) h dX8_readsItem_21 rfl hk (fun hc hk => ?_) (fun hc hk => ?_)
      · exact EJ26 _ _ hk
      · refine k_sub h [] (lv' := []) rfl ?_
        exact EJ24 _ hk
def f_X8_row (w : WW) (l1 : Int32) : Option (Int32 × WW) := (f_X8_layLine w l1).bind (fun p2 => if p2.1 = 0 then (f_X8_bad p2.2).bind (fun p14 => some (p14.1, p14.2)) else (f_X8_leftOver p2.2).bind (fun p4 => if p4 = 0 then (f_X8_no p2.2).bind (fun p12 => some (p12.1, p12.2)) else (f_X8_paidBy p2.2 p4).bind (fun p6 => (f_X8_weightOf p2.2 p4).bind (fun p8 => (f_X8_lay p2.2 ((p6).toInt64) ((p8).toInt64)).bind (fun p10 => some ((1 : Int32), p10))))))
set_option maxRecDepth 20000 in
set_option maxHeartbeats 4000000 in
theorem c_X8_row {w : WW} {l1 : Int32} {z : Int32 × WW} (hk : f_X8_row w l1 = some z) : Cn 4 yX8_row cX8_row 3 (some .int) LAY [.ref 46, .int l1] w (some (.int z.1)) z.2 := by
  refine Cn.of (by decide +kernel) (Nat.le_of_ble_eq_true rfl) (fun G h => ?_)
  have h : Rules cX8_row RX8 "row" 3 (rmd 4 0 0) none _ _ LAY 0 0 G := h
  show G 0 [(0, .ref 46), (1, .int l1)] [] w
  unfold f_X8_row at hk
  refine k_aload_n (pc := 0) h 0 dX8_row_0 rfl ?_
  refine k_iload_n (pc := 1) h 1 dX8_row_1 rfl ?_
  obtain ⟨p2, hc1, hk⟩ := bd_some hk
  refine k_callV1 (pc := 2) h (c_X8_layLine hc1) cw_X8_240 ly_46 rfl ⟨⟨by decide, by decide⟩, Nat.zero_le _, Nat.zero_le _⟩ rfl (Nat.le_of_ble_eq_true rfl) dX8_row_2 ?_
  refine k_if_ne (tgt := 13) (pc := 5) h dX8_row_5 rfl hk (fun hc hk => ?_) (fun hc hk => ?_)
  · refine k_aload_n (pc := 13) h 0 dX8_row_13 rfl ?_
    obtain ⟨p4, hc3, hk⟩ := bd_some hk
    refine k_callV1 (pc := 14) h (c_X8_leftOver hc3) cw_X8_182 ly_46 rfl ⟨⟨by decide, by decide⟩, Nat.zero_le _, Nat.zero_le _⟩ rfl (Nat.le_of_ble_eq_true rfl) dX8_row_14 ?_
    refine k_istore_n (pc := 17) h [1, 2, 0] (lv' := [(0, .ref 46), (1, .int l1), (2, .int p4)]) dX8_row_17 rfl (by decide) rfl ?_
    refine k_iload_n (pc := 18) h 2 dX8_row_18 rfl ?_
    refine k_if_ne (tgt := 27) (pc := 19) h dX8_row_19 rfl hk (fun hc hk => ?_) (fun hc hk => ?_)
    · refine k_aload_n (pc := 27) h 0 dX8_row_27 rfl ?_
      refine k_aload_n (pc := 28) h 0 dX8_row_28 rfl ?_
      refine k_iload_n (pc := 29) h 2 dX8_row_29 rfl ?_
      obtain ⟨p6, hc5, hk⟩ := bd_some hk
      refine k_callV1 (pc := 30) h (c_X8_paidBy hc5) cw_X8_243 ly_46 rfl ⟨⟨by decide, by decide⟩, Nat.zero_le _, Nat.zero_le _⟩ rfl (Nat.le_of_ble_eq_true rfl) dX8_row_30 ?_
      refine k_i2l (pc := 33) h dX8_row_33 ?_
      refine k_aload_n (pc := 34) h 0 dX8_row_34 rfl ?_
      refine k_iload_n (pc := 35) h 2 dX8_row_35 rfl ?_
      obtain ⟨p8, hc7, hk⟩ := bd_some hk
      refine k_callV1 (pc := 36) h (c_X8_weightOf hc7) cw_X8_195 ly_46 rfl ⟨⟨by decide, by decide⟩, Nat.zero_le _, Nat.zero_le _⟩ rfl (Nat.le_of_ble_eq_true rfl) dX8_row_36 ?_
      refine k_i2l (pc := 39) h dX8_row_39 ?_
      obtain ⟨p10, hc9, hk⟩ := bd_some hk
      refine k_callV0 (pc := 40) h (c_X8_lay hc9) cw_X8_246 ly_46 rfl ⟨⟨by decide, by decide⟩, Nat.zero_le _, Nat.zero_le _⟩ rfl (Nat.le_of_ble_eq_true rfl) dX8_row_40 ?_
      refine k_iconst (pc := 43) h (x := (1 : Int32)) dX8_row_43 (by decide) ?_
      have hk := Option.some.inj hk
      subst hk
      exact k_iret (pc := 44) h dX8_row_44 ⟨rfl, rfl, rfl, rfl, rfl, ⟨.int, rfl, rfl⟩⟩
    · refine k_aload_n (pc := 22) h 0 dX8_row_22 rfl ?_
      obtain ⟨p12, hc11, hk⟩ := bd_some hk
      refine k_callV1 (pc := 23) h (c_X8_no hc11) cw_X8_185 ly_46 rfl ⟨⟨by decide, by decide⟩, Nat.zero_le _, Nat.zero_le _⟩ rfl (Nat.le_of_ble_eq_true rfl) dX8_row_23 ?_
      have hk := Option.some.inj hk
      subst hk
      exact k_iret (pc := 26) h dX8_row_26 ⟨rfl, rfl, rfl, rfl, rfl, ⟨.int, rfl, rfl⟩⟩
  · refine k_aload_n (pc := 8) h 0 dX8_row_8 rfl ?_
    obtain ⟨p14, hc13, hk⟩ := bd_some hk
    refine k_callV1 (pc := 9) h (c_X8_bad hc13) cw_X8_88 ly_46 rfl ⟨⟨by decide, by decide⟩, Nat.zero_le _, Nat.zero_le _⟩ rfl (Nat.le_of_ble_eq_true rfl) dX8_row_9 ?_
    have hk := Option.some.inj hk
    subst hk
    exact k_iret (pc := 12) h dX8_row_12 ⟨rfl, rfl, rfl, rfl, rfl, ⟨.int, rfl, rfl⟩⟩
def f_X8_same_j83 (w : WW) (l1 : Int32) (l2 : Int32) (l3 : Int32) (l4 : Int32) (l5 : Int32) (l6 : Int32) : Option ((Int32 × Int32 × Int32) ⊕ (Int32 × Int32)) := some (.inl (l3, l4, (l6 + (1 : Int32))))
def f_X8_same_j78 (w : WW) (l1 : Int32) (l2 : Int32) (l3 : Int32) (l5 : Int32) (l6 : Int32) (s0 : Int32) : Option ((Int32 × Int32 × Int32) ⊕ (Int32 × Int32)) := f_X8_same_j83 w l1 l2 (l3 + (1 : Int32)) s0 l5 l6
def f_X8_same_b39 (w : WW) (l1 : Int32) (l2 : Int32) (l5 : Int32) (l3 : Int32) (l4 : Int32) (l6 : Int32) : Option ((Int32 × Int32 × Int32) ⊕ (Int32 × Int32)) := if (w.1 46 2) ≤ l6 then some (.inr (l3, l4)) else (f_X8_areSame w l5 l6 l2).bind (fun p5 => if p5 = 0 then f_X8_same_j83 w l1 l2 l3 l4 l5 l6 else if l3 = l1 then f_X8_same_j78 w l1 l2 l3 l5 l6 (((10 : Int32) * l5) + l6) else f_X8_same_j78 w l1 l2 l3 l5 l6 l4)
def f_X8_same_b24 (w : WW) (l1 : Int32) (l2 : Int32) (l3 : Int32) (l4 : Int32) (l5 : Int32) : Option ((Int32 × Int32 × Int32) ⊕ (Int32 × Int32)) := if (w.1 46 2) ≤ l5 then some (.inr (l3, l4)) else nmv (l5 + (1 : Int32)) (fun v3 => (lpf (fun s : Int32 × Int32 × Int32 => f_X8_same_b39 w l1 l2 l5 s.1 s.2.1 s.2.2) FU (l3, l4, v3)).bind (fun r6 => some (.inl (r6.1, r6.2, (l5 + (1 : Int32))))))
def f_X8_same (w : WW) (l1 : Int32) : Option (Int32 × WW) := if (-1 : Int32) ≤ l1 then (f_X8_leftOver w).bind (fun p2 => (lpf (fun s : Int32 × Int32 × Int32 => f_X8_same_b24 w l1 p2 s.1 s.2.1 s.2.2) FU ((0 : Int32), (-5 : Int32), (0 : Int32))).bind (fun r8 => if l1 = (-1 : Int32) then some (r8.1, w) else some (r8.2, w))) else (f_X8_ten w).bind (fun p11 => some (p11.1, p11.2))
set_option maxRecDepth 20000 in
set_option maxHeartbeats 4000000 in
theorem c_X8_same {w : WW} {l1 : Int32} {z : Int32 × WW} (hk : f_X8_same w l1 = some z) : Cn 4 yX8_same cX8_same 7 (some .int) LAY [.ref 46, .int l1] w (some (.int z.1)) z.2 := by
  refine Cn.of (by decide +kernel) (Nat.le_of_ble_eq_true rfl) (fun G h => ?_)
  have h : Rules cX8_same RX8 "same" 7 (rmd 4 0 0) none _ _ LAY 0 0 G := h
  show G 0 [(0, .ref 46), (1, .int l1)] [] w
  unfold f_X8_same at hk
  have EJ83 : ∀ (w : WW) (l1 : Int32) (l2 : Int32) (l3 : Int32) (l4 : Int32) (l5 : Int32) (l6 : Int32) (z : (Int32 × Int32 × Int32) ⊕ (Int32 × Int32)), f_X8_same_j83 w l1 l2 l3 l4 l5 l6 = some z → Sum.elim (fun s : Int32 × Int32 × Int32 => G 39 [(0, .ref 46), (1, .int l1), (2, .int l2), (3, .int s.1), (4, .int s.2.1), (5, .int l5), (6, .int s.2.2)] [] w) (fun r : Int32 × Int32 => G 89 [(0, .ref 46), (1, .int l1), (2, .int l2), (3, .int r.1), (4, .int r.2), (5, .int l5)] [] w) z → G 83 [(0, .ref 46), (1, .int l1), (2, .int l2), (3, .int l3), (4, .int l4), (5, .int l5), (6, .int l6)] [] w := by
    intro w l1 l2 l3 l4 l5 l6 z hk hz
    unfold f_X8_same_j83 at hk
    refine k_iinc (pc := 83) h 6 [1, 2, 3, 4, 5, 6, 0] (v := (l6 + (1 : Int32))) (lv' := [(0, .ref 46), (1, .int l1), (2, .int l2), (3, .int l3), (4, .int l4), (5, .int l5), (6, .int (l6 + (1 : Int32)))]) dX8_same_83 rfl rfl (by decide) rfl ?_
    refine k_goto (tgt := 39) (pc := 86) h dX8_same_86 rfl ?_
    have hk := Option.some.inj hk
    subst hk
    exact hz
  have EJ78 : ∀ (w : WW) (l1 : Int32) (l2 : Int32) (l3 : Int32) (l5 : Int32) (l6 : Int32) (s0 : Int32) (z : (Int32 × Int32 × Int32) ⊕ (Int32 × Int32)), f_X8_same_j78 w l1 l2 l3 l5 l6 s0 = some z → Sum.elim (fun s : Int32 × Int32 × Int32 => G 39 [(0, .ref 46), (1, .int l1), (2, .int l2), (3, .int s.1), (4, .int s.2.1), (5, .int l5), (6, .int s.2.2)] [] w) (fun r : Int32 × Int32 => G 89 [(0, .ref 46), (1, .int l1), (2, .int l2), (3, .int r.1), (4, .int r.2), (5, .int l5)] [] w) z → G 78 [(0, .ref 46), (1, .int l1), (2, .int l2), (3, .int l3), (5, .int l5), (6, .int l6)] [.int s0] w := by
    intro w l1 l2 l3 l5 l6 s0 z hk hz
    unfold f_X8_same_j78 at hk
    refine k_istore (pc := 78) h [1, 2, 3, 4, 0, 5, 6] (lv' := [(0, .ref 46), (1, .int l1), (2, .int l2), (3, .int l3), (4, .int s0), (5, .int l5), (6, .int l6)]) dX8_same_78 (by decide) rfl ?_
    refine k_iinc (pc := 80) h 3 [1, 2, 3, 0, 4, 5, 6] (v := (l3 + (1 : Int32))) (lv' := [(0, .ref 46), (1, .int l1), (2, .int l2), (3, .int (l3 + (1 : Int32))), (4, .int s0), (5, .int l5), (6, .int l6)]) dX8_same_80 rfl rfl (by decide) rfl ?_
    exact EJ83 _ _ _ _ _ _ _ _ hk hz
  have LB39 : ∀ (w : WW) (l1 : Int32) (l2 : Int32) (l5 : Int32), ∀ (nn : Nat) (s : Int32 × Int32 × Int32) (r : Int32 × Int32), lpf (fun s : Int32 × Int32 × Int32 => f_X8_same_b39 w l1 l2 l5 s.1 s.2.1 s.2.2) nn s = some r → (fun r : Int32 × Int32 => G 89 [(0, .ref 46), (1, .int l1), (2, .int l2), (3, .int r.1), (4, .int r.2), (5, .int l5)] [] w) r → (fun s : Int32 × Int32 × Int32 => G 39 [(0, .ref 46), (1, .int l1), (2, .int l2), (3, .int s.1), (4, .int s.2.1), (5, .int l5), (6, .int s.2.2)] [] w) s := by
    intro w l1 l2 l5
    refine lpf_ind (fun s : Int32 × Int32 × Int32 => G 39 [(0, .ref 46), (1, .int l1), (2, .int l2), (3, .int s.1), (4, .int s.2.1), (5, .int l5), (6, .int s.2.2)] [] w) (fun r : Int32 × Int32 => G 89 [(0, .ref 46), (1, .int l1), (2, .int l2), (3, .int r.1), (4, .int r.2), (5, .int l5)] [] w) ?_
    rintro ⟨l3, l4, l6⟩ z hk hz
    have hk : f_X8_same_b39 w l1 l2 l5 l3 l4 l6 = some z := hk
    unfold f_X8_same_b39 at hk
    show G 39 [(0, .ref 46), (1, .int l1), (2, .int l2), (3, .int l3), (4, .int l4), (5, .int l5), (6, .int l6)] [] w
    refine k_iload (pc := 39) h 6 dX8_same_39 rfl ?_
    refine k_aload_n (pc := 41) h 0 dX8_same_41 rfl ?_
    refine k_geti (pc := 42) h fl_X8_75 ly_46 rfl dX8_same_42 ?_
    refine k_icmp_ge (tgt := 89) (pc := 45) h dX8_same_45 rfl hk (fun hc hk => ?_) (fun hc hk => ?_)
    · refine k_sub h [0, 1, 2, 3, 4, 5] (lv' := [(0, .ref 46), (1, .int l1), (2, .int l2), (3, .int l3), (4, .int l4), (5, .int l5)]) rfl ?_
      have hk := Option.some.inj hk
      subst hk
      exact hz
    · refine k_aload_n (pc := 48) h 0 dX8_same_48 rfl ?_
      refine k_iload (pc := 49) h 5 dX8_same_49 rfl ?_
      refine k_iload (pc := 51) h 6 dX8_same_51 rfl ?_
      refine k_iload_n (pc := 53) h 2 dX8_same_53 rfl ?_
      obtain ⟨p5, hc4, hk⟩ := bd_some hk
      refine k_callV1 (pc := 54) h (c_X8_areSame hc4) cw_X8_207 ly_46 rfl ⟨⟨by decide, by decide⟩, Nat.zero_le _, Nat.zero_le _⟩ rfl (Nat.le_of_ble_eq_true rfl) dX8_same_54 ?_
      refine k_if_eq (tgt := 83) (pc := 57) h dX8_same_57 rfl hk (fun hc hk => ?_) (fun hc hk => ?_)
      · exact EJ83 _ _ _ _ _ _ _ _ hk hz
      · refine k_iload_n (pc := 60) h 3 dX8_same_60 rfl ?_
        refine k_iload_n (pc := 61) h 1 dX8_same_61 rfl ?_
        refine k_icmp_ne (tgt := 76) (pc := 62) h dX8_same_62 rfl hk (fun hc hk => ?_) (fun hc hk => ?_)
        · refine k_iload (pc := 76) h 4 dX8_same_76 rfl ?_
          refine k_sub h [0, 1, 2, 3, 5, 6] (lv' := [(0, .ref 46), (1, .int l1), (2, .int l2), (3, .int l3), (5, .int l5), (6, .int l6)]) rfl ?_
          exact EJ78 _ _ _ _ _ _ _ _ hk hz
        · refine k_bipush (pc := 65) h (x := (10 : Int32)) dX8_same_65 (by decide) ?_
          refine k_iload (pc := 67) h 5 dX8_same_67 rfl ?_
          refine k_imul (pc := 69) h dX8_same_69 ?_
          refine k_iload (pc := 70) h 6 dX8_same_70 rfl ?_
          refine k_iadd (pc := 72) h dX8_same_72 ?_
          refine k_goto (tgt := 78) (pc := 73) h dX8_same_73 rfl ?_
          refine k_sub h [0, 1, 2, 3, 5, 6] (lv' := [(0, .ref 46), (1, .int l1), (2, .int l2), (3, .int l3), (5, .int l5), (6, .int l6)]) rfl ?_
          exact EJ78 _ _ _ _ _ _ _ _ hk hz
  have LB24 : ∀ (w : WW) (l1 : Int32) (l2 : Int32), ∀ (nn : Nat) (s : Int32 × Int32 × Int32) (r : Int32 × Int32), lpf (fun s : Int32 × Int32 × Int32 => f_X8_same_b24 w l1 l2 s.1 s.2.1 s.2.2) nn s = some r → (fun r : Int32 × Int32 => G 95 [(1, .int l1), (3, .int r.1), (4, .int r.2)] [] w) r → (fun s : Int32 × Int32 × Int32 => G 24 [(0, .ref 46), (1, .int l1), (2, .int l2), (3, .int s.1), (4, .int s.2.1), (5, .int s.2.2)] [] w) s := by
    intro w l1 l2
    refine lpf_ind (fun s : Int32 × Int32 × Int32 => G 24 [(0, .ref 46), (1, .int l1), (2, .int l2), (3, .int s.1), (4, .int s.2.1), (5, .int s.2.2)] [] w) (fun r : Int32 × Int32 => G 95 [(1, .int l1), (3, .int r.1), (4, .int r.2)] [] w) ?_
    rintro ⟨l3, l4, l5⟩ z hk hz
    have hk : f_X8_same_b24 w l1 l2 l3 l4 l5 = some z := hk
    unfold f_X8_same_b24 at hk
    show G 24 [(0, .ref 46), (1, .int l1), (2, .int l2), (3, .int l3), (4, .int l4), (5, .int l5)] [] w
    refine k_iload (pc := 24) h 5 dX8_same_24 rfl ?_
    refine k_aload_n (pc := 26) h 0 dX8_same_26 rfl ?_
    refine k_geti (pc := 27) h fl_X8_75 ly_46 rfl dX8_same_27 ?_
    refine k_icmp_ge (tgt := 95) (pc := 30) h dX8_same_30 rfl hk (fun hc hk => ?_) (fun hc hk => ?_)
    · refine k_sub h [1, 3, 4] (lv' := [(1, .int l1), (3, .int l3), (4, .int l4)]) rfl ?_
      have hk := Option.some.inj hk
      subst hk
      exact hz
    · refine k_iload (pc := 33) h 5 dX8_same_33 rfl ?_
      refine k_iconst (pc := 35) h (x := (1 : Int32)) dX8_same_35 (by decide) ?_
      refine k_iadd (pc := 36) h dX8_same_36 ?_
      refine k_nmi (pc := 37) h hk (fun v3 hk => ?_)
      refine k_istore (pc := 37) h [1, 2, 3, 4, 5, 6, 0] (lv' := [(0, .ref 46), (1, .int l1), (2, .int l2), (3, .int l3), (4, .int l4), (5, .int l5), (6, .int v3)]) dX8_same_37 (by decide) rfl ?_
      obtain ⟨r6, hl7, hk⟩ := bd_some hk
      refine LB39 _ _ _ _ _ _ _ hl7 ?_
      show G 89 [(0, .ref 46), (1, .int l1), (2, .int l2), (3, .int r6.1), (4, .int r6.2), (5, .int l5)] [] w
      refine k_iinc (pc := 89) h 5 [1, 2, 3, 4, 5, 0] (v := (l5 + (1 : Int32))) (lv' := [(0, .ref 46), (1, .int l1), (2, .int l2), (3, .int r6.1), (4, .int r6.2), (5, .int (l5 + (1 : Int32)))]) dX8_same_89 rfl rfl (by decide) rfl ?_
      refine k_goto (tgt := 24) (pc := 92) h dX8_same_92 rfl ?_
      have hk := Option.some.inj hk
      subst hk
      exact hz
  refine k_iload_n (pc := 0) h 1 dX8_same_0 rfl ?_
  refine k_iconst (pc := 1) h (x := (-1 : Int32)) dX8_same_1 (by decide) ?_
  refine k_icmp_ge (tgt := 10) (pc := 2) h dX8_same_2 rfl hk (fun hc hk => ?_) (fun hc hk => ?_)
  · refine k_aload_n (pc := 10) h 0 dX8_same_10 rfl ?_
    obtain ⟨p2, hc1, hk⟩ := bd_some hk
    refine k_callV1 (pc := 11) h (c_X8_leftOver hc1) cw_X8_182 ly_46 rfl ⟨⟨by decide, by decide⟩, Nat.zero_le _, Nat.zero_le _⟩ rfl (Nat.le_of_ble_eq_true rfl) dX8_same_11 ?_
    refine k_istore_n (pc := 14) h [1, 2, 0] (lv' := [(0, .ref 46), (1, .int l1), (2, .int p2)]) dX8_same_14 rfl (by decide) rfl ?_
    refine k_iconst (pc := 15) h (x := (0 : Int32)) dX8_same_15 (by decide) ?_
    refine k_istore_n (pc := 16) h [1, 2, 3, 0] (lv' := [(0, .ref 46), (1, .int l1), (2, .int p2), (3, .int (0 : Int32))]) dX8_same_16 rfl (by decide) rfl ?_
    refine k_bipush (pc := 17) h (x := (-5 : Int32)) dX8_same_17 (by decide) ?_
    refine k_istore (pc := 19) h [1, 2, 3, 4, 0] (lv' := [(0, .ref 46), (1, .int l1), (2, .int p2), (3, .int (0 : Int32)), (4, .int (-5 : Int32))]) dX8_same_19 (by decide) rfl ?_
    refine k_iconst (pc := 21) h (x := (0 : Int32)) dX8_same_21 (by decide) ?_
    refine k_istore (pc := 22) h [1, 2, 3, 4, 5, 0] (lv' := [(0, .ref 46), (1, .int l1), (2, .int p2), (3, .int (0 : Int32)), (4, .int (-5 : Int32)), (5, .int (0 : Int32))]) dX8_same_22 (by decide) rfl ?_
    obtain ⟨r8, hl9, hk⟩ := bd_some hk
    refine LB24 _ _ _ _ _ _ hl9 ?_
    show G 95 [(1, .int l1), (3, .int r8.1), (4, .int r8.2)] [] w
    refine k_iload_n (pc := 95) h 0 dX8_same_95 rfl ?_
    refine k_iconst (pc := 96) h (x := (-1 : Int32)) dX8_same_96 (by decide) ?_
    refine k_icmp_ne (tgt := 104) (pc := 97) h dX8_same_97 rfl hk (fun hc hk => ?_) (fun hc hk => ?_)
    · refine k_iload (pc := 104) h 2 dX8_same_104 rfl ?_
      have hk := Option.some.inj hk
      subst hk
      exact k_iret (pc := 106) h dX8_same_106 ⟨rfl, rfl, rfl, rfl, rfl, ⟨.int, rfl, rfl⟩⟩
    · refine k_iload_n (pc := 100) h 1 dX8_same_100 rfl ?_
      refine k_goto (tgt := 106) (pc := 101) h dX8_same_101 rfl ?_
      have hk := Option.some.inj hk
      subst hk
      exact k_iret (pc := 106) h dX8_same_106 ⟨rfl, rfl, rfl, rfl, rfl, ⟨.int, rfl, rfl⟩⟩
  · refine k_aload_n (pc := 5) h 0 dX8_same_5 rfl ?_
    obtain ⟨p11, hc10, hk⟩ := bd_some hk
    refine k_callV1 (pc := 6) h (c_X8_ten hc10) cw_X8_204 ly_46 rfl ⟨⟨by decide, by decide⟩, Nat.zero_le _, Nat.zero_le _⟩ rfl (Nat.le_of_ble_eq_true rfl) dX8_same_6 ?_
    have hk := Option.some.inj hk
    subst hk
    exact k_iret (pc := 9) h dX8_same_9 ⟨rfl, rfl, rfl, rfl, rfl, ⟨.int, rfl, rfl⟩⟩
def f_X8_stalls_j21 (w : WW) : Option (Int32 × WW) := (f_X8_bad w).bind (fun p4 => some (p4.1, p4.2))
def f_X8_stalls_j42 (w : WW) : Option (Int32 × WW) := (f_X8_no w).bind (fun p10 => some (p10.1, p10.2))
def f_X8_stalls_b85 (l2 : Int32) (l3 : Int32) (l5 : Int32) (l6 : Int32) (l4 : Int32) (l7 : Int32) (l8 : Int32) (w : WW) : Option ((Int32 × Int32 × Int32 × WW) ⊕ (Int32 × WW)) := if (12 : Int32) ≤ l8 then some (.inr (l4, w)) else if (l7 &&& (l7 - (1 : Int32))) = 0 then some (.inr (l4, w)) else (f_X8_drawn w (w.1 46 2)).bind (fun p19 => gd (inb p19.1 7) (nmv (l4 + (p19.2.1 51 (p19.1).toNatClampNeg)) (fun v20 => (f_X8_answerOf p19.2 p19.1 l6).bind (fun p22 => (f_X8_casesBy p19.2 p19.1 p22).bind (fun p24 => nmv (l7 &&& p24) (fun v25 => some (.inl (v20, v25, (l8 + (1 : Int32)), p19.2))))))))
def f_X8_stalls_b59 (l2 : Int32) (l3 : Int32) (l4 : Int32) (l5 : Int32) (w : WW) : Option ((Int32 × Int32 × WW) ⊕ (Int32 × WW)) := if l2 ≤ l5 then some (.inr (l4, w)) else (f_X8_bits w l3).bind (fun p13 => (f_X8_drawn w p13).bind (fun p15 => (f_X8_placed p15.2 l3 p15.1).bind (fun p17 => (lpf (fun s : Int32 × Int32 × Int32 × WW => f_X8_stalls_b85 l2 l3 l5 p17 s.1 s.2.1 s.2.2.1 s.2.2.2) FU (l4, l3, (0 : Int32), p15.2)).bind (fun r26 => some (.inl (r26.1, (l5 + (1 : Int32)), r26.2))))))
def f_X8_stalls (w : WW) (l1 : Int32) (l2 : Int32) : Option (Int32 × WW) := (f_X8_in w l1 (0 : Int32) (999999 : Int32)).bind (fun p2 => if p2 = 0 then f_X8_stalls_j21 w else (f_X8_in w l2 (0 : Int32) (60 : Int32)).bind (fun p6 => if p6 = 0 then f_X8_stalls_j21 w else (f_X8_leftOver w).bind (fun p8 => if p8 = 0 then f_X8_stalls_j42 w else if (w.1 46 2) = 0 then f_X8_stalls_j42 w else stL w 46 28 ((l1).toInt64) (fun u11 => (lpf (fun s : Int32 × Int32 × WW => f_X8_stalls_b59 l2 p8 s.1 s.2.1 s.2.2) FU ((0 : Int32), (0 : Int32), u11)).bind (fun r28 => some (r28.1, r28.2))))))
set_option maxRecDepth 20000 in
set_option maxHeartbeats 4000000 in
theorem c_X8_stalls {w : WW} {l1 : Int32} {l2 : Int32} {z : Int32 × WW} (hk : f_X8_stalls w l1 l2 = some z) : Cn 4 yX8_stalls cX8_stalls 10 (some .int) LAY [.ref 46, .int l1, .int l2] w (some (.int z.1)) z.2 := by
  refine Cn.of (by decide +kernel) (Nat.le_of_ble_eq_true rfl) (fun G h => ?_)
  have h : Rules cX8_stalls RX8 "stalls" 10 (rmd 4 0 0) none _ _ LAY 0 0 G := h
  show G 0 [(0, .ref 46), (1, .int l1), (2, .int l2)] [] w
  unfold f_X8_stalls at hk
  have EJ21 : ∀ (w : WW), f_X8_stalls_j21 w = some z → G 21 [(0, .ref 46)] [] w := by
    intro w hk
    unfold f_X8_stalls_j21 at hk
    refine k_aload_n (pc := 21) h 0 dX8_stalls_21 rfl ?_
    obtain ⟨p4, hc3, hk⟩ := bd_some hk
    refine k_callV1 (pc := 22) h (c_X8_bad hc3) cw_X8_88 ly_46 rfl ⟨⟨by decide, by decide⟩, Nat.zero_le _, Nat.zero_le _⟩ rfl (Nat.le_of_ble_eq_true rfl) dX8_stalls_22 ?_
    have hk := Option.some.inj hk
    subst hk
    exact k_iret (pc := 25) h dX8_stalls_25 ⟨rfl, rfl, rfl, rfl, rfl, ⟨.int, rfl, rfl⟩⟩
  have EJ42 : ∀ (w : WW), f_X8_stalls_j42 w = some z → G 42 [(0, .ref 46)] [] w := by
    intro w hk
    unfold f_X8_stalls_j42 at hk
    refine k_aload_n (pc := 42) h 0 dX8_stalls_42 rfl ?_
    obtain ⟨p10, hc9, hk⟩ := bd_some hk
    refine k_callV1 (pc := 43) h (c_X8_no hc9) cw_X8_185 ly_46 rfl ⟨⟨by decide, by decide⟩, Nat.zero_le _, Nat.zero_le _⟩ rfl (Nat.le_of_ble_eq_true rfl) dX8_stalls_43 ?_
    have hk := Option.some.inj hk
    subst hk
    exact k_iret (pc := 46) h dX8_stalls_46 ⟨rfl, rfl, rfl, rfl, rfl, ⟨.int, rfl, rfl⟩⟩
  have LB85 : ∀ (l2 : Int32) (l3 : Int32) (l5 : Int32) (l6 : Int32), ∀ (nn : Nat) (s : Int32 × Int32 × Int32 × WW) (r : Int32 × WW), lpf (fun s : Int32 × Int32 × Int32 × WW => f_X8_stalls_b85 l2 l3 l5 l6 s.1 s.2.1 s.2.2.1 s.2.2.2) nn s = some r → (fun r : Int32 × WW => G 149 [(0, .ref 46), (2, .int l2), (3, .int l3), (4, .int r.1), (5, .int l5)] [] r.2) r → (fun s : Int32 × Int32 × Int32 × WW => G 85 [(0, .ref 46), (2, .int l2), (3, .int l3), (4, .int s.1), (5, .int l5), (6, .int l6), (7, .int s.2.1), (8, .int s.2.2.1)] [] s.2.2.2) s := by
    intro l2 l3 l5 l6
    refine lpf_ind (fun s : Int32 × Int32 × Int32 × WW => G 85 [(0, .ref 46), (2, .int l2), (3, .int l3), (4, .int s.1), (5, .int l5), (6, .int l6), (7, .int s.2.1), (8, .int s.2.2.1)] [] s.2.2.2) (fun r : Int32 × WW => G 149 [(0, .ref 46), (2, .int l2), (3, .int l3), (4, .int r.1), (5, .int l5)] [] r.2) ?_
    rintro ⟨l4, l7, l8, w⟩ z hk hz
    have hk : f_X8_stalls_b85 l2 l3 l5 l6 l4 l7 l8 w = some z := hk
    unfold f_X8_stalls_b85 at hk
    show G 85 [(0, .ref 46), (2, .int l2), (3, .int l3), (4, .int l4), (5, .int l5), (6, .int l6), (7, .int l7), (8, .int l8)] [] w
    refine k_iload (pc := 85) h 7 dX8_stalls_85 rfl ?_
    refine k_bipush (pc := 87) h (x := (12 : Int32)) dX8_stalls_87 (by decide) ?_
    refine k_icmp_ge (tgt := 149) (pc := 89) h dX8_stalls_89 rfl hk (fun hc hk => ?_) (fun hc hk => ?_)
    · refine k_sub h [0, 1, 2, 3, 4] (lv' := [(0, .ref 46), (2, .int l2), (3, .int l3), (4, .int l4), (5, .int l5)]) rfl ?_
      have hk := Option.some.inj hk
      subst hk
      exact hz
    · refine k_iload (pc := 92) h 6 dX8_stalls_92 rfl ?_
      refine k_iload (pc := 94) h 6 dX8_stalls_94 rfl ?_
      refine k_iconst (pc := 96) h (x := (1 : Int32)) dX8_stalls_96 (by decide) ?_
      refine k_isub (pc := 97) h dX8_stalls_97 ?_
      refine k_iand (pc := 98) h dX8_stalls_98 ?_
      refine k_if_eq (tgt := 149) (pc := 99) h dX8_stalls_99 rfl hk (fun hc hk => ?_) (fun hc hk => ?_)
      · refine k_sub h [0, 1, 2, 3, 4] (lv' := [(0, .ref 46), (2, .int l2), (3, .int l3), (4, .int l4), (5, .int l5)]) rfl ?_
        have hk := Option.some.inj hk
        subst hk
        exact hz
      · refine k_aload_n (pc := 102) h 0 dX8_stalls_102 rfl ?_
        refine k_aload_n (pc := 103) h 0 dX8_stalls_103 rfl ?_
        refine k_geti (pc := 104) h fl_X8_75 ly_46 rfl dX8_stalls_104 ?_
        obtain ⟨p19, hc18, hk⟩ := bd_some hk
        refine k_callV1 (pc := 107) h (c_X8_drawn hc18) cw_X8_268 ly_46 rfl ⟨⟨by decide, by decide⟩, Nat.zero_le _, Nat.zero_le _⟩ rfl (Nat.le_of_ble_eq_true rfl) dX8_stalls_107 ?_
        refine k_istore (pc := 110) h [1, 2, 3, 4, 5, 6, 7, 8, 0] (lv' := [(0, .ref 46), (2, .int l2), (3, .int l3), (4, .int l4), (5, .int l5), (6, .int l6), (7, .int l7), (8, .int l8), (9, .int p19.1)]) dX8_stalls_110 (by decide) rfl ?_
        refine k_iload (pc := 112) h 3 dX8_stalls_112 rfl ?_
        refine k_aload_n (pc := 114) h 0 dX8_stalls_114 rfl ?_
        refine k_getr (pc := 115) h fl_X8_26 ly_46 rfl dX8_stalls_115 ?_
        refine k_iload (pc := 118) h 8 dX8_stalls_118 rfl ?_
        refine k_iald (pc := 120) h ly_51 dX8_stalls_120 hk (fun hk => ?_)
        refine k_iadd (pc := 121) h dX8_stalls_121 ?_
        refine k_nmi (pc := 122) h hk (fun v20 hk => ?_)
        refine k_istore (pc := 122) h [1, 2, 3, 0, 4, 5, 6, 7, 8] (lv' := [(0, .ref 46), (2, .int l2), (3, .int l3), (4, .int v20), (5, .int l5), (6, .int l6), (7, .int l7), (8, .int l8), (9, .int p19.1)]) dX8_stalls_122 (by decide) rfl ?_
        refine k_iload (pc := 124) h 6 dX8_stalls_124 rfl ?_
        refine k_aload_n (pc := 126) h 0 dX8_stalls_126 rfl ?_
        refine k_iload (pc := 127) h 8 dX8_stalls_127 rfl ?_
        refine k_aload_n (pc := 129) h 0 dX8_stalls_129 rfl ?_
        refine k_iload (pc := 130) h 8 dX8_stalls_130 rfl ?_
        refine k_iload (pc := 132) h 5 dX8_stalls_132 rfl ?_
        obtain ⟨p22, hc21, hk⟩ := bd_some hk
        refine k_callV1 (pc := 134) h (c_X8_answerOf hc21) cw_X8_169 ly_46 rfl ⟨⟨by decide, by decide⟩, Nat.zero_le _, Nat.zero_le _⟩ rfl (Nat.le_of_ble_eq_true rfl) dX8_stalls_134 ?_
        obtain ⟨p24, hc23, hk⟩ := bd_some hk
        refine k_callV1 (pc := 137) h (c_X8_casesBy hc23) cw_X8_176 ly_46 rfl ⟨⟨by decide, by decide⟩, Nat.zero_le _, Nat.zero_le _⟩ rfl (Nat.le_of_ble_eq_true rfl) dX8_stalls_137 ?_
        refine k_iand (pc := 140) h dX8_stalls_140 ?_
        refine k_nmi (pc := 141) h hk (fun v25 hk => ?_)
        refine k_istore (pc := 141) h [1, 2, 3, 4, 5, 6, 0, 7, 8] (lv' := [(0, .ref 46), (2, .int l2), (3, .int l3), (4, .int v20), (5, .int l5), (6, .int l6), (7, .int v25), (8, .int l8), (9, .int p19.1)]) dX8_stalls_141 (by decide) rfl ?_
        refine k_iinc (pc := 143) h 7 [1, 2, 3, 4, 5, 6, 7, 0, 8] (v := (l8 + (1 : Int32))) (lv' := [(0, .ref 46), (2, .int l2), (3, .int l3), (4, .int v20), (5, .int l5), (6, .int l6), (7, .int v25), (8, .int (l8 + (1 : Int32))), (9, .int p19.1)]) dX8_stalls_143 rfl rfl (by decide) rfl ?_
        refine k_goto (tgt := 85) (pc := 146) h dX8_stalls_146 rfl ?_
        refine k_sub h [0, 1, 2, 3, 4, 5, 6, 7] (lv' := [(0, .ref 46), (2, .int l2), (3, .int l3), (4, .int v20), (5, .int l5), (6, .int l6), (7, .int v25), (8, .int (l8 + (1 : Int32)))]) rfl ?_
        have hk := Option.some.inj hk
        subst hk
        exact hz
  have LB59 : ∀ (l2 : Int32) (l3 : Int32), ∀ (nn : Nat) (s : Int32 × Int32 × WW) (r : Int32 × WW), lpf (fun s : Int32 × Int32 × WW => f_X8_stalls_b59 l2 l3 s.1 s.2.1 s.2.2) nn s = some r → (fun r : Int32 × WW => G 155 [(4, .int r.1)] [] r.2) r → (fun s : Int32 × Int32 × WW => G 59 [(0, .ref 46), (2, .int l2), (3, .int l3), (4, .int s.1), (5, .int s.2.1)] [] s.2.2) s := by
    intro l2 l3
    refine lpf_ind (fun s : Int32 × Int32 × WW => G 59 [(0, .ref 46), (2, .int l2), (3, .int l3), (4, .int s.1), (5, .int s.2.1)] [] s.2.2) (fun r : Int32 × WW => G 155 [(4, .int r.1)] [] r.2) ?_
    rintro ⟨l4, l5, w⟩ z hk hz
    have hk : f_X8_stalls_b59 l2 l3 l4 l5 w = some z := hk
    unfold f_X8_stalls_b59 at hk
    show G 59 [(0, .ref 46), (2, .int l2), (3, .int l3), (4, .int l4), (5, .int l5)] [] w
    refine k_iload (pc := 59) h 4 dX8_stalls_59 rfl ?_
    refine k_iload_n (pc := 61) h 1 dX8_stalls_61 rfl ?_
    refine k_icmp_ge (tgt := 155) (pc := 62) h dX8_stalls_62 rfl hk (fun hc hk => ?_) (fun hc hk => ?_)
    · refine k_sub h [3] (lv' := [(4, .int l4)]) rfl ?_
      have hk := Option.some.inj hk
      subst hk
      exact hz
    · refine k_iload_n (pc := 65) h 2 dX8_stalls_65 rfl ?_
      refine k_aload_n (pc := 66) h 0 dX8_stalls_66 rfl ?_
      refine k_iload_n (pc := 67) h 2 dX8_stalls_67 rfl ?_
      obtain ⟨p13, hc12, hk⟩ := bd_some hk
      refine k_callS1 (pc := 68) h (c_X8_bits hc12) cw_X8_192 ⟨⟨by decide, by decide⟩, Nat.zero_le _, Nat.zero_le _⟩ rfl (Nat.le_of_ble_eq_true rfl) dX8_stalls_68 ?_
      obtain ⟨p15, hc14, hk⟩ := bd_some hk
      refine k_callV1 (pc := 71) h (c_X8_drawn hc14) cw_X8_268 ly_46 rfl ⟨⟨by decide, by decide⟩, Nat.zero_le _, Nat.zero_le _⟩ rfl (Nat.le_of_ble_eq_true rfl) dX8_stalls_71 ?_
      obtain ⟨p17, hc16, hk⟩ := bd_some hk
      refine k_callS1 (pc := 74) h (c_X8_placed hc16) cw_X8_271 ⟨⟨by decide, by decide⟩, Nat.zero_le _, Nat.zero_le _⟩ rfl (Nat.le_of_ble_eq_true rfl) dX8_stalls_74 ?_
      refine k_istore (pc := 77) h [1, 2, 3, 4, 5, 0] (lv' := [(0, .ref 46), (2, .int l2), (3, .int l3), (4, .int l4), (5, .int l5), (6, .int p17)]) dX8_stalls_77 (by decide) rfl ?_
      refine k_iload_n (pc := 79) h 2 dX8_stalls_79 rfl ?_
      refine k_istore (pc := 80) h [1, 2, 3, 4, 5, 6, 0] (lv' := [(0, .ref 46), (2, .int l2), (3, .int l3), (4, .int l4), (5, .int l5), (6, .int p17), (7, .int l3)]) dX8_stalls_80 (by decide) rfl ?_
      refine k_iconst (pc := 82) h (x := (0 : Int32)) dX8_stalls_82 (by decide) ?_
      refine k_istore (pc := 83) h [1, 2, 3, 4, 5, 6, 7, 0] (lv' := [(0, .ref 46), (2, .int l2), (3, .int l3), (4, .int l4), (5, .int l5), (6, .int p17), (7, .int l3), (8, .int (0 : Int32))]) dX8_stalls_83 (by decide) rfl ?_
      obtain ⟨r26, hl27, hk⟩ := bd_some hk
      refine LB85 _ _ _ _ _ _ _ hl27 ?_
      show G 149 [(0, .ref 46), (2, .int l2), (3, .int l3), (4, .int r26.1), (5, .int l5)] [] r26.2
      refine k_iinc (pc := 149) h 4 [1, 2, 3, 4, 0] (v := (l5 + (1 : Int32))) (lv' := [(0, .ref 46), (2, .int l2), (3, .int l3), (4, .int r26.1), (5, .int (l5 + (1 : Int32)))]) dX8_stalls_149 rfl rfl (by decide) rfl ?_
      refine k_goto (tgt := 59) (pc := 152) h dX8_stalls_152 rfl ?_
      have hk := Option.some.inj hk
      subst hk
      exact hz
  refine k_iload_n (pc := 0) h 1 dX8_stalls_0 rfl ?_
  refine k_iconst (pc := 1) h (x := (0 : Int32)) dX8_stalls_1 (by decide) ?_
  refine k_ldcw (pc := 2) h (x := (999999 : Int32)) cs_X8_267 dX8_stalls_2 ?_
  obtain ⟨p2, hc1, hk⟩ := bd_some hk
  refine k_callS1 (pc := 5) h (c_X8_in hc1) cw_X8_84 ⟨⟨by decide, by decide⟩, Nat.zero_le _, Nat.zero_le _⟩ rfl (Nat.le_of_ble_eq_true rfl) dX8_stalls_5 ?_
  refine k_if_eq (tgt := 21) (pc := 8) h dX8_stalls_8 rfl hk (fun hc hk => ?_) (fun hc hk => ?_)
  · refine k_sub h [0] (lv' := [(0, .ref 46)]) rfl ?_
    exact EJ21 _ hk
  · refine k_iload_n (pc := 11) h 2 dX8_stalls_11 rfl ?_
    refine k_iconst (pc := 12) h (x := (0 : Int32)) dX8_stalls_12 (by decide) ?_
    refine k_bipush (pc := 13) h (x := (60 : Int32)) dX8_stalls_13 (by decide) ?_
    obtain ⟨p6, hc5, hk⟩ := bd_some hk
    refine k_callS1 (pc := 15) h (c_X8_in hc5) cw_X8_84 ⟨⟨by decide, by decide⟩, Nat.zero_le _, Nat.zero_le _⟩ rfl (Nat.le_of_ble_eq_true rfl) dX8_stalls_15 ?_
    refine k_if_ne (tgt := 26) (pc := 18) h dX8_stalls_18 rfl hk (fun hc hk => ?_) (fun hc hk => ?_)
    · refine k_aload_n (pc := 26) h 0 dX8_stalls_26 rfl ?_
      obtain ⟨p8, hc7, hk⟩ := bd_some hk
      refine k_callV1 (pc := 27) h (c_X8_leftOver hc7) cw_X8_182 ly_46 rfl ⟨⟨by decide, by decide⟩, Nat.zero_le _, Nat.zero_le _⟩ rfl (Nat.le_of_ble_eq_true rfl) dX8_stalls_27 ?_
      refine k_istore_n (pc := 30) h [1, 2, 3, 0] (lv' := [(0, .ref 46), (1, .int l1), (2, .int l2), (3, .int p8)]) dX8_stalls_30 rfl (by decide) rfl ?_
      refine k_iload_n (pc := 31) h 3 dX8_stalls_31 rfl ?_
      refine k_if_eq (tgt := 42) (pc := 32) h dX8_stalls_32 rfl hk (fun hc hk => ?_) (fun hc hk => ?_)
      · refine k_sub h [0] (lv' := [(0, .ref 46)]) rfl ?_
        exact EJ42 _ hk
      · refine k_aload_n (pc := 35) h 0 dX8_stalls_35 rfl ?_
        refine k_geti (pc := 36) h fl_X8_75 ly_46 rfl dX8_stalls_36 ?_
        refine k_if_ne (tgt := 47) (pc := 39) h dX8_stalls_39 rfl hk (fun hc hk => ?_) (fun hc hk => ?_)
        · refine k_aload_n (pc := 47) h 0 dX8_stalls_47 rfl ?_
          refine k_iload_n (pc := 48) h 1 dX8_stalls_48 rfl ?_
          refine k_i2l (pc := 49) h dX8_stalls_49 ?_
          refine k_putl (pc := 50) h fl_X8_256 ly_46 rfl dX8_stalls_50 hk (fun u11 hk => ?_)
          refine k_iconst (pc := 53) h (x := (0 : Int32)) dX8_stalls_53 (by decide) ?_
          refine k_istore (pc := 54) h [1, 2, 3, 4, 0] (lv' := [(0, .ref 46), (1, .int l1), (2, .int l2), (3, .int p8), (4, .int (0 : Int32))]) dX8_stalls_54 (by decide) rfl ?_
          refine k_iconst (pc := 56) h (x := (0 : Int32)) dX8_stalls_56 (by decide) ?_
          refine k_istore (pc := 57) h [1, 2, 3, 4, 5, 0] (lv' := [(0, .ref 46), (1, .int l1), (2, .int l2), (3, .int p8), (4, .int (0 : Int32)), (5, .int (0 : Int32))]) dX8_stalls_57 (by decide) rfl ?_
          refine k_sub h [0, 2, 3, 4, 5] (lv' := [(0, .ref 46), (2, .int l2), (3, .int p8), (4, .int (0 : Int32)), (5, .int (0 : Int32))]) rfl ?_
          obtain ⟨r28, hl29, hk⟩ := bd_some hk
          refine LB59 _ _ _ _ _ hl29 ?_
          show G 155 [(4, .int r28.1)] [] r28.2
          refine k_iload (pc := 155) h 0 dX8_stalls_155 rfl ?_
          have hk := Option.some.inj hk
          subst hk
          exact k_iret (pc := 157) h dX8_stalls_157 ⟨rfl, rfl, rfl, rfl, rfl, ⟨.int, rfl, rfl⟩⟩
        · refine k_sub h [0] (lv' := [(0, .ref 46)]) rfl ?_
          exact EJ42 _ hk
    · refine k_sub h [0] (lv' := [(0, .ref 46)]) rfl ?_
      exact EJ21 _ hk
def f_X4_spells_b20 (si : Nat) (w : WW) (l2 : Int32) : Option ((Int32) ⊕ ((Unit) ⊕ (Unit))) := (f_J0_length_8abf5 si w).bind (fun p4 => if p4 ≤ l2 then some (.inr (.inr ())) else gd (inb ((w.1 26 3) + l2) 150) ((f_J0_charAt_5068e si w l2).bind (fun p6 => if (w.1 27 (((w.1 26 3) + l2)).toNatClampNeg) = p6 then some (.inl (l2 + (1 : Int32))) else some (.inr (.inl ())))))
def f_X4_spells (si : Nat) (w : WW) : Option (Int32) := (f_J0_length_8abf5 si w).bind (fun p2 => if ((w.1 26 4) - (w.1 26 3)) = p2 then (lpf (fun s : Int32 => f_X4_spells_b20 si w s) FU (0 : Int32)).bind (Sum.elim (fun r7 => some ((0 : Int32))) (fun r7 => some ((1 : Int32)))) else some ((0 : Int32)))
set_option maxRecDepth 20000 in
set_option maxHeartbeats 4000000 in
theorem c_X4_spells {si : Nat} (hsi : si < 3) {w : WW} {z : Int32} (hk : f_X4_spells si w = some z) : Cn 5 yX4_spells cX4_spells 3 (some .boolean) LAY [.ref 26, .ref (1000000 + si)] w (some (.int z)) w := by
  refine Cn.of (by decide +kernel) (Nat.le_of_ble_eq_true rfl) (fun G h => ?_)
  have h : Rules cX4_spells RX4 "spells" 3 (rmd 5 0 0) none _ _ LAY 0 0 G := h
  show G 0 [(0, .ref 26), (1, .ref (1000000 + si))] [] w
  unfold f_X4_spells at hk
  have LB20 : ∀ (nn : Nat) (s : Int32) (r : (Unit) ⊕ (Unit)), lpf (fun s : Int32 => f_X4_spells_b20 si w s) nn s = some r → (Sum.elim (fun r : Unit => G 47 [] [] w) (fun r : Unit => G 55 [] [] w)) r → (fun s : Int32 => G 20 [(0, .ref 26), (1, .ref (1000000 + si)), (2, .int s)] [] w) s := by
    refine lpf_ind (fun s : Int32 => G 20 [(0, .ref 26), (1, .ref (1000000 + si)), (2, .int s)] [] w) (Sum.elim (fun r : Unit => G 47 [] [] w) (fun r : Unit => G 55 [] [] w)) ?_
    rintro l2 z hk hz
    have hk : f_X4_spells_b20 si w l2 = some z := hk
    unfold f_X4_spells_b20 at hk
    show G 20 [(0, .ref 26), (1, .ref (1000000 + si)), (2, .int l2)] [] w
    refine k_iload_n (pc := 20) h 2 dX4_spells_20 rfl ?_
    refine k_aload_n (pc := 21) h 1 dX4_spells_21 rfl ?_
    obtain ⟨p4, hc3, hk⟩ := bd_some hk
    refine k_callVS1 (pc := 22) h (c_J0_length_8abf5 hsi hc3) cw_X4_106 hsi ⟨⟨by decide, by decide⟩, Nat.zero_le _, Nat.zero_le _⟩ rfl (Nat.le_of_ble_eq_true rfl) dX4_spells_22 ?_
    refine k_icmp_ge (tgt := 55) (pc := 25) h dX4_spells_25 rfl hk (fun hc hk => ?_) (fun hc hk => ?_)
    · refine k_sub h [] (lv' := []) rfl ?_
      have hk := Option.some.inj hk
      subst hk
      exact hz
    · refine k_aload_n (pc := 28) h 0 dX4_spells_28 rfl ?_
      refine k_getr (pc := 29) h fl_X4_9 ly_26 rfl dX4_spells_29 ?_
      refine k_aload_n (pc := 32) h 0 dX4_spells_32 rfl ?_
      refine k_geti (pc := 33) h fl_X4_80 ly_26 rfl dX4_spells_33 ?_
      refine k_iload_n (pc := 36) h 2 dX4_spells_36 rfl ?_
      refine k_iadd (pc := 37) h dX4_spells_37 ?_
      refine k_bald (pc := 38) h ly_27 dX4_spells_38 hk (fun hk => ?_)
      refine k_aload_n (pc := 39) h 1 dX4_spells_39 rfl ?_
      refine k_iload_n (pc := 40) h 2 dX4_spells_40 rfl ?_
      obtain ⟨p6, hc5, hk⟩ := bd_some hk
      refine k_callVS1 (pc := 41) h (c_J0_charAt_5068e hsi hc5) cw_X4_111 hsi ⟨⟨by decide, by decide⟩, Nat.zero_le _, Nat.zero_le _⟩ rfl (Nat.le_of_ble_eq_true rfl) dX4_spells_41 ?_
      refine k_icmp_eq (tgt := 49) (pc := 44) h dX4_spells_44 rfl hk (fun hc hk => ?_) (fun hc hk => ?_)
      · refine k_iinc (pc := 49) h 2 [1, 2, 0] (v := (l2 + (1 : Int32))) (lv' := [(0, .ref 26), (1, .ref (1000000 + si)), (2, .int (l2 + (1 : Int32)))]) dX4_spells_49 rfl rfl (by decide) rfl ?_
        refine k_goto (tgt := 20) (pc := 52) h dX4_spells_52 rfl ?_
        have hk := Option.some.inj hk
        subst hk
        exact hz
      · refine k_sub h [] (lv' := []) rfl ?_
        have hk := Option.some.inj hk
        subst hk
        exact hz
  refine k_aload_n (pc := 0) h 0 dX4_spells_0 rfl ?_
  refine k_geti (pc := 1) h fl_X4_26 ly_26 rfl dX4_spells_1 ?_
  refine k_aload_n (pc := 4) h 0 dX4_spells_4 rfl ?_
  refine k_geti (pc := 5) h fl_X4_80 ly_26 rfl dX4_spells_5 ?_
  refine k_isub (pc := 8) h dX4_spells_8 ?_
  refine k_aload_n (pc := 9) h 1 dX4_spells_9 rfl ?_
  obtain ⟨p2, hc1, hk⟩ := bd_some hk
  refine k_callVS1 (pc := 10) h (c_J0_length_8abf5 hsi hc1) cw_X4_106 hsi ⟨⟨by decide, by decide⟩, Nat.zero_le _, Nat.zero_le _⟩ rfl (Nat.le_of_ble_eq_true rfl) dX4_spells_10 ?_
  refine k_icmp_eq (tgt := 18) (pc := 13) h dX4_spells_13 rfl hk (fun hc hk => ?_) (fun hc hk => ?_)
  · refine k_iconst (pc := 18) h (x := (0 : Int32)) dX4_spells_18 (by decide) ?_
    refine k_istore_n (pc := 19) h [1, 2, 0] (lv' := [(0, .ref 26), (1, .ref (1000000 + si)), (2, .int (0 : Int32))]) dX4_spells_19 rfl (by decide) rfl ?_
    obtain ⟨r7, hl8, hk⟩ := bd_some hk
    refine LB20 _ _ _ hl8 ?_
    rcases r7 with r7 | r7
    · replace hk := elim_l hk
      show G 47 [] [] w
      refine k_iconst (pc := 47) h (x := (0 : Int32)) dX4_spells_47 (by decide) ?_
      have hk := Option.some.inj hk
      subst hk
      exact k_iret (pc := 48) h dX4_spells_48 ⟨rfl, rfl, rfl, rfl, rfl, ⟨.boolean, rfl, rfl⟩⟩
    · replace hk := elim_r hk
      show G 55 [] [] w
      refine k_iconst (pc := 55) h (x := (1 : Int32)) dX4_spells_55 (by decide) ?_
      have hk := Option.some.inj hk
      subst hk
      exact k_iret (pc := 56) h dX4_spells_56 ⟨rfl, rfl, rfl, rfl, rfl, ⟨.boolean, rfl, rfl⟩⟩
  · refine k_iconst (pc := 16) h (x := (0 : Int32)) dX4_spells_16 (by decide) ?_
    have hk := Option.some.inj hk
    subst hk
    exact k_iret (pc := 17) h dX4_spells_17 ⟨rfl, rfl, rfl, rfl, rfl, ⟨.boolean, rfl, rfl⟩⟩
def f_X7_ask_j18 (w : WW) : Option (Int32 × WW) := (f_X7_refuse w (-2 : Int32) (-2 : Int32)).bind (fun p4 => some (p4.1, p4.2))
def f_X7_ask (w : WW) (l1 : Int32) (l2 : Int32) : Option (Int32 × WW) := (f_X7_isQuestion w l1).bind (fun p2 => if p2 = 0 then f_X7_ask_j18 w else (f_X7_within w l2 (0 : Int32) (15 : Int32)).bind (fun p6 => if p6 = 0 then f_X7_ask_j18 w else if (w.1 1 2) < (8 : Int32) then (f_X6_addAsked 1 w l1 l2).bind (fun p8 => (f_X6_fitting 1 p8 (0 : Int32)).bind (fun p10 => some (p10, p8))) else (f_X7_refuse w (-4 : Int32) (-4 : Int32)).bind (fun p12 => some (p12.1, p12.2))))
set_option maxRecDepth 20000 in
set_option maxHeartbeats 4000000 in
theorem c_X7_ask {w : WW} {l1 : Int32} {l2 : Int32} {z : Int32 × WW} (hk : f_X7_ask w l1 l2 = some z) : Cn 5 yX7_ask cX7_ask 3 (some .int) LAY [.ref 0, .int l1, .int l2] w (some (.int z.1)) z.2 := by
  refine Cn.of (by decide +kernel) (Nat.le_of_ble_eq_true rfl) (fun G h => ?_)
  have h : Rules cX7_ask RX7 "ask" 3 (rmd 5 0 0) none _ _ LAY 0 0 G := h
  show G 0 [(0, .ref 0), (1, .int l1), (2, .int l2)] [] w
  unfold f_X7_ask at hk
  have EJ18 : ∀ (w : WW), f_X7_ask_j18 w = some z → G 18 [(0, .ref 0)] [] w := by
    intro w hk
    unfold f_X7_ask_j18 at hk
    refine k_aload_n (pc := 18) h 0 dX7_ask_18 rfl ?_
    refine k_bipush (pc := 19) h (x := (-2 : Int32)) dX7_ask_19 (by decide) ?_
    refine k_bipush (pc := 21) h (x := (-2 : Int32)) dX7_ask_21 (by decide) ?_
    obtain ⟨p4, hc3, hk⟩ := bd_some hk
    refine k_callV1 (pc := 23) h (c_X7_refuse hc3) cw_X7_79 ly_0 rfl ⟨⟨by decide, by decide⟩, Nat.zero_le _, Nat.zero_le _⟩ rfl (Nat.le_of_ble_eq_true rfl) dX7_ask_23 ?_
    have hk := Option.some.inj hk
    subst hk
    exact k_iret (pc := 26) h dX7_ask_26 ⟨rfl, rfl, rfl, rfl, rfl, ⟨.int, rfl, rfl⟩⟩
  refine k_aload_n (pc := 0) h 0 dX7_ask_0 rfl ?_
  refine k_iload_n (pc := 1) h 1 dX7_ask_1 rfl ?_
  obtain ⟨p2, hc1, hk⟩ := bd_some hk
  refine k_callV1 (pc := 2) h (c_X7_isQuestion hc1) cw_X7_102 ly_0 rfl ⟨⟨by decide, by decide⟩, Nat.zero_le _, Nat.zero_le _⟩ rfl (Nat.le_of_ble_eq_true rfl) dX7_ask_2 ?_
  refine k_if_eq (tgt := 18) (pc := 5) h dX7_ask_5 rfl hk (fun hc hk => ?_) (fun hc hk => ?_)
  · refine k_sub h [0] (lv' := [(0, .ref 0)]) rfl ?_
    exact EJ18 _ hk
  · refine k_iload_n (pc := 8) h 2 dX7_ask_8 rfl ?_
    refine k_iconst (pc := 9) h (x := (0 : Int32)) dX7_ask_9 (by decide) ?_
    refine k_bipush (pc := 10) h (x := (15 : Int32)) dX7_ask_10 (by decide) ?_
    obtain ⟨p6, hc5, hk⟩ := bd_some hk
    refine k_callS1 (pc := 12) h (c_X7_within hc5) cw_X7_75 ⟨⟨by decide, by decide⟩, Nat.zero_le _, Nat.zero_le _⟩ rfl (Nat.le_of_ble_eq_true rfl) dX7_ask_12 ?_
    refine k_if_ne (tgt := 27) (pc := 15) h dX7_ask_15 rfl hk (fun hc hk => ?_) (fun hc hk => ?_)
    · refine k_aload_n (pc := 27) h 0 dX7_ask_27 rfl ?_
      refine k_getr (pc := 28) h fl_X7_10 ly_0 rfl dX7_ask_28 ?_
      refine k_geti (pc := 31) h fl_X7_128 ly_1 rfl dX7_ask_31 ?_
      refine k_bipush (pc := 34) h (x := (8 : Int32)) dX7_ask_34 (by decide) ?_
      refine k_icmp_lt (tgt := 48) (pc := 36) h dX7_ask_36 rfl hk (fun hc hk => ?_) (fun hc hk => ?_)
      · refine k_aload_n (pc := 48) h 0 dX7_ask_48 rfl ?_
        refine k_getr (pc := 49) h fl_X7_10 ly_0 rfl dX7_ask_49 ?_
        refine k_iload_n (pc := 52) h 1 dX7_ask_52 rfl ?_
        refine k_iload_n (pc := 53) h 2 dX7_ask_53 rfl ?_
        obtain ⟨p8, hc7, hk⟩ := bd_some hk
        refine k_callV0 (pc := 54) h (c_X6_addAsked st_1 hc7) cw_X7_131 ly_1 rfl ⟨⟨by decide, by decide⟩, Nat.zero_le _, Nat.zero_le _⟩ rfl (Nat.le_of_ble_eq_true rfl) dX7_ask_54 ?_
        refine k_aload_n (pc := 57) h 0 dX7_ask_57 rfl ?_
        refine k_getr (pc := 58) h fl_X7_10 ly_0 rfl dX7_ask_58 ?_
        refine k_iconst (pc := 61) h (x := (0 : Int32)) dX7_ask_61 (by decide) ?_
        obtain ⟨p10, hc9, hk⟩ := bd_some hk
        refine k_callV1 (pc := 62) h (c_X6_fitting st_1 hc9) cw_X7_135 ly_1 rfl ⟨⟨by decide, by decide⟩, Nat.zero_le _, Nat.zero_le _⟩ rfl (Nat.le_of_ble_eq_true rfl) dX7_ask_62 ?_
        have hk := Option.some.inj hk
        subst hk
        exact k_iret (pc := 65) h dX7_ask_65 ⟨rfl, rfl, rfl, rfl, rfl, ⟨.int, rfl, rfl⟩⟩
      · refine k_aload_n (pc := 39) h 0 dX7_ask_39 rfl ?_
        refine k_bipush (pc := 40) h (x := (-4 : Int32)) dX7_ask_40 (by decide) ?_
        refine k_bipush (pc := 42) h (x := (-4 : Int32)) dX7_ask_42 (by decide) ?_
        obtain ⟨p12, hc11, hk⟩ := bd_some hk
        refine k_callV1 (pc := 44) h (c_X7_refuse hc11) cw_X7_79 ly_0 rfl ⟨⟨by decide, by decide⟩, Nat.zero_le _, Nat.zero_le _⟩ rfl (Nat.le_of_ble_eq_true rfl) dX7_ask_44 ?_
        have hk := Option.some.inj hk
        subst hk
        exact k_iret (pc := 47) h dX7_ask_47 ⟨rfl, rfl, rfl, rfl, rfl, ⟨.int, rfl, rfl⟩⟩
    · refine k_sub h [0] (lv' := [(0, .ref 0)]) rfl ?_
      exact EJ18 _ hk
def f_X7_atOnce (w : WW) (l1 : Int32) : Option (Int32 × WW) := (f_X7_within w l1 (0 : Int32) (1 : Int32)).bind (fun p2 => if p2 = 0 then (f_X7_refuse w (-2 : Int32) (-2 : Int32)).bind (fun p8 => some (p8.1, p8.2)) else (f_X6_fitting 1 w (0 : Int32)).bind (fun p4 => (f_X3_seek 38 1 w p4 (0 : Int32) (0 : Int32)).bind (fun p6 => if l1 = 0 then some ((p6.1 38 0), p6) else some ((p6.1 38 1), p6))))
set_option maxRecDepth 20000 in
set_option maxHeartbeats 4000000 in
theorem c_X7_atOnce {w : WW} {l1 : Int32} {z : Int32 × WW} (hk : f_X7_atOnce w l1 = some z) : Cn 5 yX7_atOnce cX7_atOnce 2 (some .int) LAY [.ref 0, .int l1] w (some (.int z.1)) z.2 := by
  refine Cn.of (by decide +kernel) (Nat.le_of_ble_eq_true rfl) (fun G h => ?_)
  have h : Rules cX7_atOnce RX7 "atOnce" 2 (rmd 5 0 0) none _ _ LAY 0 0 G := h
  show G 0 [(0, .ref 0), (1, .int l1)] [] w
  unfold f_X7_atOnce at hk
  refine k_iload_n (pc := 0) h 1 dX7_atOnce_0 rfl ?_
  refine k_iconst (pc := 1) h (x := (0 : Int32)) dX7_atOnce_1 (by decide) ?_
  refine k_iconst (pc := 2) h (x := (1 : Int32)) dX7_atOnce_2 (by decide) ?_
  obtain ⟨p2, hc1, hk⟩ := bd_some hk
  refine k_callS1 (pc := 3) h (c_X7_within hc1) cw_X7_75 ⟨⟨by decide, by decide⟩, Nat.zero_le _, Nat.zero_le _⟩ rfl (Nat.le_of_ble_eq_true rfl) dX7_atOnce_3 ?_
  refine k_if_ne (tgt := 18) (pc := 6) h dX7_atOnce_6 rfl hk (fun hc hk => ?_) (fun hc hk => ?_)
  · refine k_aload_n (pc := 18) h 0 dX7_atOnce_18 rfl ?_
    refine k_getr (pc := 19) h fl_X7_47 ly_0 rfl dX7_atOnce_19 ?_
    refine k_aload_n (pc := 22) h 0 dX7_atOnce_22 rfl ?_
    refine k_getr (pc := 23) h fl_X7_10 ly_0 rfl dX7_atOnce_23 ?_
    refine k_aload_n (pc := 26) h 0 dX7_atOnce_26 rfl ?_
    refine k_getr (pc := 27) h fl_X7_10 ly_0 rfl dX7_atOnce_27 ?_
    refine k_iconst (pc := 30) h (x := (0 : Int32)) dX7_atOnce_30 (by decide) ?_
    obtain ⟨p4, hc3, hk⟩ := bd_some hk
    refine k_callV1 (pc := 31) h (c_X6_fitting st_1 hc3) cw_X7_135 ly_1 rfl ⟨⟨by decide, by decide⟩, Nat.zero_le _, Nat.zero_le _⟩ rfl (Nat.le_of_ble_eq_true rfl) dX7_atOnce_31 ?_
    refine k_iconst (pc := 34) h (x := (0 : Int32)) dX7_atOnce_34 (by decide) ?_
    refine k_iconst (pc := 35) h (x := (0 : Int32)) dX7_atOnce_35 (by decide) ?_
    obtain ⟨p6, hc5, hk⟩ := bd_some hk
    refine k_callV0 (pc := 36) h (c_X3_seek ly_38 st_1 hc5) cw_X7_169 ly_38 rfl ⟨⟨by decide, by decide⟩, Nat.zero_le _, Nat.zero_le _⟩ rfl (Nat.le_of_ble_eq_true rfl) dX7_atOnce_36 ?_
    refine k_iload_n (pc := 39) h 1 dX7_atOnce_39 rfl ?_
    refine k_if_ne (tgt := 53) (pc := 40) h dX7_atOnce_40 rfl hk (fun hc hk => ?_) (fun hc hk => ?_)
    · refine k_aload_n (pc := 53) h 0 dX7_atOnce_53 rfl ?_
      refine k_getr (pc := 54) h fl_X7_47 ly_0 rfl dX7_atOnce_54 ?_
      refine k_geti (pc := 57) h fl_X7_176 ly_38 rfl dX7_atOnce_57 ?_
      have hk := Option.some.inj hk
      subst hk
      exact k_iret (pc := 60) h dX7_atOnce_60 ⟨rfl, rfl, rfl, rfl, rfl, ⟨.int, rfl, rfl⟩⟩
    · refine k_aload_n (pc := 43) h 0 dX7_atOnce_43 rfl ?_
      refine k_getr (pc := 44) h fl_X7_47 ly_0 rfl dX7_atOnce_44 ?_
      refine k_geti (pc := 47) h fl_X7_173 ly_38 rfl dX7_atOnce_47 ?_
      refine k_goto (tgt := 60) (pc := 50) h dX7_atOnce_50 rfl ?_
      have hk := Option.some.inj hk
      subst hk
      exact k_iret (pc := 60) h dX7_atOnce_60 ⟨rfl, rfl, rfl, rfl, rfl, ⟨.int, rfl, rfl⟩⟩
  · refine k_aload_n (pc := 9) h 0 dX7_atOnce_9 rfl ?_
    refine k_bipush (pc := 10) h (x := (-2 : Int32)) dX7_atOnce_10 (by decide) ?_
    refine k_bipush (pc := 12) h (x := (-2 : Int32)) dX7_atOnce_12 (by decide) ?_
    obtain ⟨p8, hc7, hk⟩ := bd_some hk
    refine k_callV1 (pc := 14) h (c_X7_refuse hc7) cw_X7_79 ly_0 rfl ⟨⟨by decide, by decide⟩, Nat.zero_le _, Nat.zero_le _⟩ rfl (Nat.le_of_ble_eq_true rfl) dX7_atOnce_14 ?_
    have hk := Option.some.inj hk
    subst hk
    exact k_iret (pc := 17) h dX7_atOnce_17 ⟨rfl, rfl, rfl, rfl, rfl, ⟨.int, rfl, rfl⟩⟩
def f_X7_best_j91 (w : WW) (l1 : Int32) (l2 : Int32) (l3 : Int32) (l4 : Int32) : Option ((Int32 × Int32 × Int32) ⊕ (Int32)) := some (.inl (l2, l3, (l4 + (1 : Int32))))
def f_X7_best_j85 (w : WW) (l1 : Int32) (l4 : Int32) (l5 : Int32) : Option ((Int32 × Int32 × Int32) ⊕ (Int32)) := f_X7_best_j91 w l1 l4 l5 l4
def f_X7_best_b22 (w : WW) (l1 : Int32) (l2 : Int32) (l3 : Int32) (l4 : Int32) : Option ((Int32 × Int32 × Int32) ⊕ (Int32)) := if (w.1 1 1) ≤ l4 then some (.inr l2) else (f_X6_greatestPart 1 w l4 l1).bind (fun p4 => if l2 = (-1 : Int32) then f_X7_best_j85 w l1 l4 p4 else if p4 < l3 then f_X7_best_j85 w l1 l4 p4 else if p4 = l3 then gd (inb l4 7) (gd (inb l2 7) (if (w.1 5 (l2).toNatClampNeg) ≤ (w.1 5 (l4).toNatClampNeg) then f_X7_best_j91 w l1 l2 l3 l4 else f_X7_best_j85 w l1 l4 p4)) else f_X7_best_j91 w l1 l2 l3 l4)
def f_X7_best (w : WW) : Option (Int32) := (f_X6_fitting 1 w (0 : Int32)).bind (fun p2 => if p2 = 0 then some ((-1 : Int32)) else (lpf (fun s : Int32 × Int32 × Int32 => f_X7_best_b22 w p2 s.1 s.2.1 s.2.2) FU ((-1 : Int32), (0 : Int32), (0 : Int32))).bind (fun r5 => some (r5)))
set_option maxRecDepth 20000 in
set_option maxHeartbeats 4000000 in
theorem c_X7_best {w : WW} {z : Int32} (hk : f_X7_best w = some z) : Cn 5 yX7_best cX7_best 6 (some .int) LAY [.ref 0] w (some (.int z)) w := by
  refine Cn.of (by decide +kernel) (Nat.le_of_ble_eq_true rfl) (fun G h => ?_)
  have h : Rules cX7_best RX7 "best" 6 (rmd 5 0 0) none _ _ LAY 0 0 G := h
  show G 0 [(0, .ref 0)] [] w
  unfold f_X7_best at hk
  have EJ91 : ∀ (l1 : Int32) (l2 : Int32) (l3 : Int32) (l4 : Int32) (z : (Int32 × Int32 × Int32) ⊕ (Int32)), f_X7_best_j91 w l1 l2 l3 l4 = some z → Sum.elim (fun s : Int32 × Int32 × Int32 => G 22 [(0, .ref 0), (1, .int l1), (2, .int s.1), (3, .int s.2.1), (4, .int s.2.2)] [] w) (fun r : Int32 => G 97 [(2, .int r)] [] w) z → G 91 [(0, .ref 0), (1, .int l1), (2, .int l2), (3, .int l3), (4, .int l4)] [] w := by
    intro l1 l2 l3 l4 z hk hz
    unfold f_X7_best_j91 at hk
    refine k_iinc (pc := 91) h 4 [1, 2, 3, 4, 0] (v := (l4 + (1 : Int32))) (lv' := [(0, .ref 0), (1, .int l1), (2, .int l2), (3, .int l3), (4, .int (l4 + (1 : Int32)))]) dX7_best_91 rfl rfl (by decide) rfl ?_
    refine k_goto (tgt := 22) (pc := 94) h dX7_best_94 rfl ?_
    have hk := Option.some.inj hk
    subst hk
    exact hz
  have EJ85 : ∀ (l1 : Int32) (l4 : Int32) (l5 : Int32) (z : (Int32 × Int32 × Int32) ⊕ (Int32)), f_X7_best_j85 w l1 l4 l5 = some z → Sum.elim (fun s : Int32 × Int32 × Int32 => G 22 [(0, .ref 0), (1, .int l1), (2, .int s.1), (3, .int s.2.1), (4, .int s.2.2)] [] w) (fun r : Int32 => G 97 [(2, .int r)] [] w) z → G 85 [(0, .ref 0), (1, .int l1), (4, .int l4), (5, .int l5)] [] w := by
    intro l1 l4 l5 z hk hz
    unfold f_X7_best_j85 at hk
    refine k_iload (pc := 85) h 2 dX7_best_85 rfl ?_
    refine k_istore_n (pc := 87) h [1, 2, 0, 3, 4] (lv' := [(0, .ref 0), (1, .int l1), (2, .int l4), (4, .int l4), (5, .int l5)]) dX7_best_87 rfl (by decide) rfl ?_
    refine k_iload (pc := 88) h 4 dX7_best_88 rfl ?_
    refine k_istore_n (pc := 90) h [1, 2, 3, 0, 4, 5] (lv' := [(0, .ref 0), (1, .int l1), (2, .int l4), (3, .int l5), (4, .int l4), (5, .int l5)]) dX7_best_90 rfl (by decide) rfl ?_
    refine k_sub h [0, 1, 2, 3, 4] (lv' := [(0, .ref 0), (1, .int l1), (2, .int l4), (3, .int l5), (4, .int l4)]) rfl ?_
    exact EJ91 _ _ _ _ _ hk hz
  have LB22 : ∀ (l1 : Int32), ∀ (nn : Nat) (s : Int32 × Int32 × Int32) (r : Int32), lpf (fun s : Int32 × Int32 × Int32 => f_X7_best_b22 w l1 s.1 s.2.1 s.2.2) nn s = some r → (fun r : Int32 => G 97 [(2, .int r)] [] w) r → (fun s : Int32 × Int32 × Int32 => G 22 [(0, .ref 0), (1, .int l1), (2, .int s.1), (3, .int s.2.1), (4, .int s.2.2)] [] w) s := by
    intro l1
    refine lpf_ind (fun s : Int32 × Int32 × Int32 => G 22 [(0, .ref 0), (1, .int l1), (2, .int s.1), (3, .int s.2.1), (4, .int s.2.2)] [] w) (fun r : Int32 => G 97 [(2, .int r)] [] w) ?_
    rintro ⟨l2, l3, l4⟩ z hk hz
    have hk : f_X7_best_b22 w l1 l2 l3 l4 = some z := hk
    unfold f_X7_best_b22 at hk
    show G 22 [(0, .ref 0), (1, .int l1), (2, .int l2), (3, .int l3), (4, .int l4)] [] w
    refine k_iload (pc := 22) h 4 dX7_best_22 rfl ?_
    refine k_aload_n (pc := 24) h 0 dX7_best_24 rfl ?_
    refine k_getr (pc := 25) h fl_X7_10 ly_0 rfl dX7_best_25 ?_
    refine k_geti (pc := 28) h fl_X7_83 ly_1 rfl dX7_best_28 ?_
    refine k_icmp_ge (tgt := 97) (pc := 31) h dX7_best_31 rfl hk (fun hc hk => ?_) (fun hc hk => ?_)
    · refine k_sub h [2] (lv' := [(2, .int l2)]) rfl ?_
      have hk := Option.some.inj hk
      subst hk
      exact hz
    · refine k_aload_n (pc := 34) h 0 dX7_best_34 rfl ?_
      refine k_getr (pc := 35) h fl_X7_10 ly_0 rfl dX7_best_35 ?_
      refine k_iload (pc := 38) h 4 dX7_best_38 rfl ?_
      refine k_iload_n (pc := 40) h 1 dX7_best_40 rfl ?_
      obtain ⟨p4, hc3, hk⟩ := bd_some hk
      refine k_callV1 (pc := 41) h (c_X6_greatestPart st_1 hc3) cw_X7_157 ly_1 rfl ⟨⟨by decide, by decide⟩, Nat.zero_le _, Nat.zero_le _⟩ rfl (Nat.le_of_ble_eq_true rfl) dX7_best_41 ?_
      refine k_istore (pc := 44) h [1, 2, 3, 4, 5, 0] (lv' := [(0, .ref 0), (1, .int l1), (2, .int l2), (3, .int l3), (4, .int l4), (5, .int p4)]) dX7_best_44 (by decide) rfl ?_
      refine k_iload_n (pc := 46) h 2 dX7_best_46 rfl ?_
      refine k_iconst (pc := 47) h (x := (-1 : Int32)) dX7_best_47 (by decide) ?_
      refine k_icmp_eq (tgt := 85) (pc := 48) h dX7_best_48 rfl hk (fun hc hk => ?_) (fun hc hk => ?_)
      · refine k_sub h [0, 1, 4, 5] (lv' := [(0, .ref 0), (1, .int l1), (4, .int l4), (5, .int p4)]) rfl ?_
        exact EJ85 _ _ _ _ hk hz
      · refine k_iload (pc := 51) h 5 dX7_best_51 rfl ?_
        refine k_iload_n (pc := 53) h 3 dX7_best_53 rfl ?_
        refine k_icmp_lt (tgt := 85) (pc := 54) h dX7_best_54 rfl hk (fun hc hk => ?_) (fun hc hk => ?_)
        · refine k_sub h [0, 1, 4, 5] (lv' := [(0, .ref 0), (1, .int l1), (4, .int l4), (5, .int p4)]) rfl ?_
          exact EJ85 _ _ _ _ hk hz
        · refine k_iload (pc := 57) h 5 dX7_best_57 rfl ?_
          refine k_iload_n (pc := 59) h 3 dX7_best_59 rfl ?_
          refine k_icmp_ne (tgt := 91) (pc := 60) h dX7_best_60 rfl hk (fun hc hk => ?_) (fun hc hk => ?_)
          · refine k_sub h [0, 1, 2, 3, 4] (lv' := [(0, .ref 0), (1, .int l1), (2, .int l2), (3, .int l3), (4, .int l4)]) rfl ?_
            exact EJ91 _ _ _ _ _ hk hz
          · refine k_aload_n (pc := 63) h 0 dX7_best_63 rfl ?_
            refine k_getr (pc := 64) h fl_X7_10 ly_0 rfl dX7_best_64 ?_
            refine k_getr (pc := 67) h fl_X7_105 ly_1 rfl dX7_best_67 ?_
            refine k_iload (pc := 70) h 4 dX7_best_70 rfl ?_
            refine k_iald (pc := 72) h ly_5 dX7_best_72 hk (fun hk => ?_)
            refine k_aload_n (pc := 73) h 0 dX7_best_73 rfl ?_
            refine k_getr (pc := 74) h fl_X7_10 ly_0 rfl dX7_best_74 ?_
            refine k_getr (pc := 77) h fl_X7_105 ly_1 rfl dX7_best_77 ?_
            refine k_iload_n (pc := 80) h 2 dX7_best_80 rfl ?_
            refine k_iald (pc := 81) h ly_5 dX7_best_81 hk (fun hk => ?_)
            refine k_icmp_ge (tgt := 91) (pc := 82) h dX7_best_82 rfl hk (fun hc hk => ?_) (fun hc hk => ?_)
            · refine k_sub h [0, 1, 2, 3, 4] (lv' := [(0, .ref 0), (1, .int l1), (2, .int l2), (3, .int l3), (4, .int l4)]) rfl ?_
              exact EJ91 _ _ _ _ _ hk hz
            · refine k_sub h [0, 1, 4, 5] (lv' := [(0, .ref 0), (1, .int l1), (4, .int l4), (5, .int p4)]) rfl ?_
              exact EJ85 _ _ _ _ hk hz
  refine k_aload_n (pc := 0) h 0 dX7_best_0 rfl ?_
  refine k_getr (pc := 1) h fl_X7_10 ly_0 rfl dX7_best_1 ?_
  refine k_iconst (pc := 4) h (x := (0 : Int32)) dX7_best_4 (by decide) ?_
  obtain ⟨p2, hc1, hk⟩ := bd_some hk
  refine k_callV1 (pc := 5) h (c_X6_fitting st_1 hc1) cw_X7_135 ly_1 rfl ⟨⟨by decide, by decide⟩, Nat.zero_le _, Nat.zero_le _⟩ rfl (Nat.le_of_ble_eq_true rfl) dX7_best_5 ?_
  refine k_istore_n (pc := 8) h [1, 0] (lv' := [(0, .ref 0), (1, .int p2)]) dX7_best_8 rfl (by decide) rfl ?_
  refine k_iload_n (pc := 9) h 1 dX7_best_9 rfl ?_
  refine k_if_ne (tgt := 15) (pc := 10) h dX7_best_10 rfl hk (fun hc hk => ?_) (fun hc hk => ?_)
  · refine k_iconst (pc := 15) h (x := (-1 : Int32)) dX7_best_15 (by decide) ?_
    refine k_istore_n (pc := 16) h [1, 2, 0] (lv' := [(0, .ref 0), (1, .int p2), (2, .int (-1 : Int32))]) dX7_best_16 rfl (by decide) rfl ?_
    refine k_iconst (pc := 17) h (x := (0 : Int32)) dX7_best_17 (by decide) ?_
    refine k_istore_n (pc := 18) h [1, 2, 3, 0] (lv' := [(0, .ref 0), (1, .int p2), (2, .int (-1 : Int32)), (3, .int (0 : Int32))]) dX7_best_18 rfl (by decide) rfl ?_
    refine k_iconst (pc := 19) h (x := (0 : Int32)) dX7_best_19 (by decide) ?_
    refine k_istore (pc := 20) h [1, 2, 3, 4, 0] (lv' := [(0, .ref 0), (1, .int p2), (2, .int (-1 : Int32)), (3, .int (0 : Int32)), (4, .int (0 : Int32))]) dX7_best_20 (by decide) rfl ?_
    obtain ⟨r5, hl6, hk⟩ := bd_some hk
    refine LB22 _ _ _ _ hl6 ?_
    show G 97 [(2, .int r5)] [] w
    refine k_iload_n (pc := 97) h 0 dX7_best_97 rfl ?_
    have hk := Option.some.inj hk
    subst hk
    exact k_iret (pc := 98) h dX7_best_98 ⟨rfl, rfl, rfl, rfl, rfl, ⟨.int, rfl, rfl⟩⟩
  · refine k_iconst (pc := 13) h (x := (-1 : Int32)) dX7_best_13 (by decide) ?_
    have hk := Option.some.inj hk
    subst hk
    exact k_iret (pc := 14) h dX7_best_14 ⟨rfl, rfl, rfl, rfl, rfl, ⟨.int, rfl, rfl⟩⟩
def f_X7_bestRow (w : WW) : Option (Int32 × WW) := (f_X6_fitting 1 w (0 : Int32)).bind (fun p2 => if p2 = 0 then (f_X7_refuse w (-3 : Int32) (-3 : Int32)).bind (fun p10 => some (p10.1, p10.2)) else (f_X5_leastRow 1 w p2).bind (fun p4 => gd (inb (0 : Int32) 128) ((f_X6_weightOf 1 p4.2 p2).bind (fun p6 => (f_X1_become p4.2 (((p4.2.1 44 ((0 : Int32)).toNatClampNeg)).toInt64) ((p6).toInt64)).bind (fun p8 => some (p4.1, p8))))))
set_option maxRecDepth 20000 in
set_option maxHeartbeats 4000000 in
theorem c_X7_bestRow {w : WW} {z : Int32 × WW} (hk : f_X7_bestRow w = some z) : Cn 5 yX7_bestRow cX7_bestRow 3 (some .int) LAY [.ref 0] w (some (.int z.1)) z.2 := by
  refine Cn.of (by decide +kernel) (Nat.le_of_ble_eq_true rfl) (fun G h => ?_)
  have h : Rules cX7_bestRow RX7 "bestRow" 3 (rmd 5 0 0) none _ _ LAY 0 0 G := h
  show G 0 [(0, .ref 0)] [] w
  unfold f_X7_bestRow at hk
  refine k_aload_n (pc := 0) h 0 dX7_bestRow_0 rfl ?_
  refine k_getr (pc := 1) h fl_X7_10 ly_0 rfl dX7_bestRow_1 ?_
  refine k_iconst (pc := 4) h (x := (0 : Int32)) dX7_bestRow_4 (by decide) ?_
  obtain ⟨p2, hc1, hk⟩ := bd_some hk
  refine k_callV1 (pc := 5) h (c_X6_fitting st_1 hc1) cw_X7_135 ly_1 rfl ⟨⟨by decide, by decide⟩, Nat.zero_le _, Nat.zero_le _⟩ rfl (Nat.le_of_ble_eq_true rfl) dX7_bestRow_5 ?_
  refine k_istore_n (pc := 8) h [1, 0] (lv' := [(0, .ref 0), (1, .int p2)]) dX7_bestRow_8 rfl (by decide) rfl ?_
  refine k_iload_n (pc := 9) h 1 dX7_bestRow_9 rfl ?_
  refine k_if_ne (tgt := 22) (pc := 10) h dX7_bestRow_10 rfl hk (fun hc hk => ?_) (fun hc hk => ?_)
  · refine k_aload_n (pc := 22) h 0 dX7_bestRow_22 rfl ?_
    refine k_getr (pc := 23) h fl_X7_64 ly_0 rfl dX7_bestRow_23 ?_
    refine k_aload_n (pc := 26) h 0 dX7_bestRow_26 rfl ?_
    refine k_getr (pc := 27) h fl_X7_10 ly_0 rfl dX7_bestRow_27 ?_
    refine k_iload_n (pc := 30) h 1 dX7_bestRow_30 rfl ?_
    obtain ⟨p4, hc3, hk⟩ := bd_some hk
    refine k_callV1 (pc := 31) h (c_X5_leastRow st_1 hc3) cw_X7_216 ly_43 rfl ⟨⟨by decide, by decide⟩, Nat.zero_le _, Nat.zero_le _⟩ rfl (Nat.le_of_ble_eq_true rfl) dX7_bestRow_31 ?_
    refine k_istore_n (pc := 34) h [1, 2, 0] (lv' := [(0, .ref 0), (1, .int p2), (2, .int p4.1)]) dX7_bestRow_34 rfl (by decide) rfl ?_
    refine k_aload_n (pc := 35) h 0 dX7_bestRow_35 rfl ?_
    refine k_getr (pc := 36) h fl_X7_36 ly_0 rfl dX7_bestRow_36 ?_
    refine k_aload_n (pc := 39) h 0 dX7_bestRow_39 rfl ?_
    refine k_getr (pc := 40) h fl_X7_64 ly_0 rfl dX7_bestRow_40 ?_
    refine k_getr (pc := 43) h fl_X7_220 ly_43 rfl dX7_bestRow_43 ?_
    refine k_iconst (pc := 46) h (x := (0 : Int32)) dX7_bestRow_46 (by decide) ?_
    refine k_iald (pc := 47) h ly_44 dX7_bestRow_47 hk (fun hk => ?_)
    refine k_i2l (pc := 48) h dX7_bestRow_48 ?_
    refine k_aload_n (pc := 49) h 0 dX7_bestRow_49 rfl ?_
    refine k_getr (pc := 50) h fl_X7_10 ly_0 rfl dX7_bestRow_50 ?_
    refine k_iload_n (pc := 53) h 1 dX7_bestRow_53 rfl ?_
    obtain ⟨p6, hc5, hk⟩ := bd_some hk
    refine k_callV1 (pc := 54) h (c_X6_weightOf st_1 hc5) cw_X7_209 ly_1 rfl ⟨⟨by decide, by decide⟩, Nat.zero_le _, Nat.zero_le _⟩ rfl (Nat.le_of_ble_eq_true rfl) dX7_bestRow_54 ?_
    refine k_i2l (pc := 57) h dX7_bestRow_57 ?_
    obtain ⟨p8, hc7, hk⟩ := bd_some hk
    refine k_callV0 (pc := 58) h (c_X1_become hc7) cw_X7_212 ly_36 rfl ⟨⟨by decide, by decide⟩, Nat.zero_le _, Nat.zero_le _⟩ rfl (Nat.le_of_ble_eq_true rfl) dX7_bestRow_58 ?_
    refine k_iload_n (pc := 61) h 2 dX7_bestRow_61 rfl ?_
    have hk := Option.some.inj hk
    subst hk
    exact k_iret (pc := 62) h dX7_bestRow_62 ⟨rfl, rfl, rfl, rfl, rfl, ⟨.int, rfl, rfl⟩⟩
  · refine k_aload_n (pc := 13) h 0 dX7_bestRow_13 rfl ?_
    refine k_bipush (pc := 14) h (x := (-3 : Int32)) dX7_bestRow_14 (by decide) ?_
    refine k_bipush (pc := 16) h (x := (-3 : Int32)) dX7_bestRow_16 (by decide) ?_
    obtain ⟨p10, hc9, hk⟩ := bd_some hk
    refine k_callV1 (pc := 18) h (c_X7_refuse hc9) cw_X7_79 ly_0 rfl ⟨⟨by decide, by decide⟩, Nat.zero_le _, Nat.zero_le _⟩ rfl (Nat.le_of_ble_eq_true rfl) dX7_bestRow_18 ?_
    have hk := Option.some.inj hk
    subst hk
    exact k_iret (pc := 21) h dX7_bestRow_21 ⟨rfl, rfl, rfl, rfl, rfl, ⟨.int, rfl, rfl⟩⟩
def f_X7_cuts_j17 (w : WW) : Option (Int32 × WW) := (f_X7_refuse w (-2 : Int32) (-2 : Int32)).bind (fun p4 => some (p4.1, p4.2))
def f_X7_cuts (w : WW) (l1 : Int32) (l2 : Int32) : Option (Int32 × WW) := (f_X7_isQuestion w l1).bind (fun p2 => if p2 = 0 then f_X7_cuts_j17 w else (f_X7_within w l2 (0 : Int32) (2 : Int32)).bind (fun p6 => if p6 = 0 then f_X7_cuts_j17 w else (f_X6_fitting 1 w (0 : Int32)).bind (fun p8 => if l2 = (0 : Int32) then (f_X6_greatestPart 1 w l1 p8).bind (fun p10 => some (p10, w)) else if l2 = (1 : Int32) then (f_X6_howManyParts 1 w l1 p8).bind (fun p12 => some (p12, w)) else (f_X6_lightestPart 1 w l1 p8).bind (fun p14 => some (p14, w)))))
set_option maxRecDepth 20000 in
set_option maxHeartbeats 4000000 in
theorem c_X7_cuts {w : WW} {l1 : Int32} {l2 : Int32} {z : Int32 × WW} (hk : f_X7_cuts w l1 l2 = some z) : Cn 5 yX7_cuts cX7_cuts 4 (some .int) LAY [.ref 0, .int l1, .int l2] w (some (.int z.1)) z.2 := by
  refine Cn.of (by decide +kernel) (Nat.le_of_ble_eq_true rfl) (fun G h => ?_)
  have h : Rules cX7_cuts RX7 "cuts" 4 (rmd 5 0 0) none _ _ LAY 0 0 G := h
  show G 0 [(0, .ref 0), (1, .int l1), (2, .int l2)] [] w
  unfold f_X7_cuts at hk
  have EJ17 : ∀ (w : WW), f_X7_cuts_j17 w = some z → G 17 [(0, .ref 0)] [] w := by
    intro w hk
    unfold f_X7_cuts_j17 at hk
    refine k_aload_n (pc := 17) h 0 dX7_cuts_17 rfl ?_
    refine k_bipush (pc := 18) h (x := (-2 : Int32)) dX7_cuts_18 (by decide) ?_
    refine k_bipush (pc := 20) h (x := (-2 : Int32)) dX7_cuts_20 (by decide) ?_
    obtain ⟨p4, hc3, hk⟩ := bd_some hk
    refine k_callV1 (pc := 22) h (c_X7_refuse hc3) cw_X7_79 ly_0 rfl ⟨⟨by decide, by decide⟩, Nat.zero_le _, Nat.zero_le _⟩ rfl (Nat.le_of_ble_eq_true rfl) dX7_cuts_22 ?_
    have hk := Option.some.inj hk
    subst hk
    exact k_iret (pc := 25) h dX7_cuts_25 ⟨rfl, rfl, rfl, rfl, rfl, ⟨.int, rfl, rfl⟩⟩
  refine k_aload_n (pc := 0) h 0 dX7_cuts_0 rfl ?_
  refine k_iload_n (pc := 1) h 1 dX7_cuts_1 rfl ?_
  obtain ⟨p2, hc1, hk⟩ := bd_some hk
  refine k_callV1 (pc := 2) h (c_X7_isQuestion hc1) cw_X7_102 ly_0 rfl ⟨⟨by decide, by decide⟩, Nat.zero_le _, Nat.zero_le _⟩ rfl (Nat.le_of_ble_eq_true rfl) dX7_cuts_2 ?_
  refine k_if_eq (tgt := 17) (pc := 5) h dX7_cuts_5 rfl hk (fun hc hk => ?_) (fun hc hk => ?_)
  · refine k_sub h [0] (lv' := [(0, .ref 0)]) rfl ?_
    exact EJ17 _ hk
  · refine k_iload_n (pc := 8) h 2 dX7_cuts_8 rfl ?_
    refine k_iconst (pc := 9) h (x := (0 : Int32)) dX7_cuts_9 (by decide) ?_
    refine k_iconst (pc := 10) h (x := (2 : Int32)) dX7_cuts_10 (by decide) ?_
    obtain ⟨p6, hc5, hk⟩ := bd_some hk
    refine k_callS1 (pc := 11) h (c_X7_within hc5) cw_X7_75 ⟨⟨by decide, by decide⟩, Nat.zero_le _, Nat.zero_le _⟩ rfl (Nat.le_of_ble_eq_true rfl) dX7_cuts_11 ?_
    refine k_if_ne (tgt := 26) (pc := 14) h dX7_cuts_14 rfl hk (fun hc hk => ?_) (fun hc hk => ?_)
    · refine k_aload_n (pc := 26) h 0 dX7_cuts_26 rfl ?_
      refine k_getr (pc := 27) h fl_X7_10 ly_0 rfl dX7_cuts_27 ?_
      refine k_iconst (pc := 30) h (x := (0 : Int32)) dX7_cuts_30 (by decide) ?_
      obtain ⟨p8, hc7, hk⟩ := bd_some hk
      refine k_callV1 (pc := 31) h (c_X6_fitting st_1 hc7) cw_X7_135 ly_1 rfl ⟨⟨by decide, by decide⟩, Nat.zero_le _, Nat.zero_le _⟩ rfl (Nat.le_of_ble_eq_true rfl) dX7_cuts_31 ?_
      refine k_istore_n (pc := 34) h [1, 2, 3, 0] (lv' := [(0, .ref 0), (1, .int l1), (2, .int l2), (3, .int p8)]) dX7_cuts_34 rfl (by decide) rfl ?_
      refine k_iload_n (pc := 35) h 2 dX7_cuts_35 rfl ?_
      refine k_look (a := (0 : Int32)) (tgt := 64) (pc := 36) h dX7_cuts_36 rfl rfl rfl hk (fun hk => ?_) (fun q0 hk => ?_)
      · refine k_aload_n (pc := 64) h 0 dX7_cuts_64 rfl ?_
        refine k_getr (pc := 65) h fl_X7_10 ly_0 rfl dX7_cuts_65 ?_
        refine k_iload_n (pc := 68) h 1 dX7_cuts_68 rfl ?_
        refine k_iload_n (pc := 69) h 3 dX7_cuts_69 rfl ?_
        obtain ⟨p10, hc9, hk⟩ := bd_some hk
        refine k_callV1 (pc := 70) h (c_X6_greatestPart st_1 hc9) cw_X7_157 ly_1 rfl ⟨⟨by decide, by decide⟩, Nat.zero_le _, Nat.zero_le _⟩ rfl (Nat.le_of_ble_eq_true rfl) dX7_cuts_70 ?_
        have hk := Option.some.inj hk
        subst hk
        exact k_iret (pc := 73) h dX7_cuts_73 ⟨rfl, rfl, rfl, rfl, rfl, ⟨.int, rfl, rfl⟩⟩
      · refine k_look (a := (1 : Int32)) (tgt := 74) (pc := 36) h dX7_cuts_36 rfl rfl rfl hk (fun hk => ?_) (fun q1 hk => ?_)
        · refine k_aload_n (pc := 74) h 0 dX7_cuts_74 rfl ?_
          refine k_getr (pc := 75) h fl_X7_10 ly_0 rfl dX7_cuts_75 ?_
          refine k_iload_n (pc := 78) h 1 dX7_cuts_78 rfl ?_
          refine k_iload_n (pc := 79) h 3 dX7_cuts_79 rfl ?_
          obtain ⟨p12, hc11, hk⟩ := bd_some hk
          refine k_callV1 (pc := 80) h (c_X6_howManyParts st_1 hc11) cw_X7_160 ly_1 rfl ⟨⟨by decide, by decide⟩, Nat.zero_le _, Nat.zero_le _⟩ rfl (Nat.le_of_ble_eq_true rfl) dX7_cuts_80 ?_
          have hk := Option.some.inj hk
          subst hk
          exact k_iret (pc := 83) h dX7_cuts_83 ⟨rfl, rfl, rfl, rfl, rfl, ⟨.int, rfl, rfl⟩⟩
        · refine k_lookD (tgt := 84) (pc := 36) h dX7_cuts_36 rfl (by show Op.lookupswitch.offset [(0, 28), (1, 38)] 48 _ = _; rw [lv_osw q0 (by decide), lv_osw q1 (by decide)]; rfl) rfl ?_
          refine k_aload_n (pc := 84) h 0 dX7_cuts_84 rfl ?_
          refine k_getr (pc := 85) h fl_X7_10 ly_0 rfl dX7_cuts_85 ?_
          refine k_iload_n (pc := 88) h 1 dX7_cuts_88 rfl ?_
          refine k_iload_n (pc := 89) h 3 dX7_cuts_89 rfl ?_
          obtain ⟨p14, hc13, hk⟩ := bd_some hk
          refine k_callV1 (pc := 90) h (c_X6_lightestPart st_1 hc13) cw_X7_163 ly_1 rfl ⟨⟨by decide, by decide⟩, Nat.zero_le _, Nat.zero_le _⟩ rfl (Nat.le_of_ble_eq_true rfl) dX7_cuts_90 ?_
          have hk := Option.some.inj hk
          subst hk
          exact k_iret (pc := 93) h dX7_cuts_93 ⟨rfl, rfl, rfl, rfl, rfl, ⟨.int, rfl, rfl⟩⟩
    · refine k_sub h [0] (lv' := [(0, .ref 0)]) rfl ?_
      exact EJ17 _ hk
def f_X7_empty_j43 (w : WW) (l1 : Int32) (l2 : Int32) (l3 : Int32) : Option ((Int32 × Int32) ⊕ (Int32)) := some (.inl (l2, (l3 + (1 : Int32))))
def f_X7_empty_b13 (w : WW) (l1 : Int32) (l2 : Int32) (l3 : Int32) : Option ((Int32 × Int32) ⊕ (Int32)) := if (w.1 1 1) ≤ l3 then some (.inr l2) else (f_X6_howManyParts 1 w l3 l1).bind (fun p4 => if (2 : Int32) ≤ p4 then f_X7_empty_j43 w l1 l2 l3 else nmv (l2 ||| (shl32 (1 : Int32) l3)) (fun v5 => f_X7_empty_j43 w l1 v5 l3))
def f_X7_empty (w : WW) : Option (Int32) := (f_X6_fitting 1 w (0 : Int32)).bind (fun p2 => (lpf (fun s : Int32 × Int32 => f_X7_empty_b13 w p2 s.1 s.2) FU ((0 : Int32), (0 : Int32))).bind (fun r6 => some (r6)))
set_option maxRecDepth 20000 in
set_option maxHeartbeats 4000000 in
theorem c_X7_empty {w : WW} {z : Int32} (hk : f_X7_empty w = some z) : Cn 5 yX7_empty cX7_empty 4 (some .int) LAY [.ref 0] w (some (.int z)) w := by
  refine Cn.of (by decide +kernel) (Nat.le_of_ble_eq_true rfl) (fun G h => ?_)
  have h : Rules cX7_empty RX7 "empty" 4 (rmd 5 0 0) none _ _ LAY 0 0 G := h
  show G 0 [(0, .ref 0)] [] w
  unfold f_X7_empty at hk
  have EJ43 : ∀ (l1 : Int32) (l2 : Int32) (l3 : Int32) (z : (Int32 × Int32) ⊕ (Int32)), f_X7_empty_j43 w l1 l2 l3 = some z → Sum.elim (fun s : Int32 × Int32 => G 13 [(0, .ref 0), (1, .int l1), (2, .int s.1), (3, .int s.2)] [] w) (fun r : Int32 => G 49 [(2, .int r)] [] w) z → G 43 [(0, .ref 0), (1, .int l1), (2, .int l2), (3, .int l3)] [] w := by
    intro l1 l2 l3 z hk hz
    unfold f_X7_empty_j43 at hk
    refine k_iinc (pc := 43) h 3 [1, 2, 3, 0] (v := (l3 + (1 : Int32))) (lv' := [(0, .ref 0), (1, .int l1), (2, .int l2), (3, .int (l3 + (1 : Int32)))]) dX7_empty_43 rfl rfl (by decide) rfl ?_
    refine k_goto (tgt := 13) (pc := 46) h dX7_empty_46 rfl ?_
    have hk := Option.some.inj hk
    subst hk
    exact hz
  have LB13 : ∀ (l1 : Int32), ∀ (nn : Nat) (s : Int32 × Int32) (r : Int32), lpf (fun s : Int32 × Int32 => f_X7_empty_b13 w l1 s.1 s.2) nn s = some r → (fun r : Int32 => G 49 [(2, .int r)] [] w) r → (fun s : Int32 × Int32 => G 13 [(0, .ref 0), (1, .int l1), (2, .int s.1), (3, .int s.2)] [] w) s := by
    intro l1
    refine lpf_ind (fun s : Int32 × Int32 => G 13 [(0, .ref 0), (1, .int l1), (2, .int s.1), (3, .int s.2)] [] w) (fun r : Int32 => G 49 [(2, .int r)] [] w) ?_
    rintro ⟨l2, l3⟩ z hk hz
    have hk : f_X7_empty_b13 w l1 l2 l3 = some z := hk
    unfold f_X7_empty_b13 at hk
    show G 13 [(0, .ref 0), (1, .int l1), (2, .int l2), (3, .int l3)] [] w
    refine k_iload_n (pc := 13) h 3 dX7_empty_13 rfl ?_
    refine k_aload_n (pc := 14) h 0 dX7_empty_14 rfl ?_
    refine k_getr (pc := 15) h fl_X7_10 ly_0 rfl dX7_empty_15 ?_
    refine k_geti (pc := 18) h fl_X7_83 ly_1 rfl dX7_empty_18 ?_
    refine k_icmp_ge (tgt := 49) (pc := 21) h dX7_empty_21 rfl hk (fun hc hk => ?_) (fun hc hk => ?_)
    · refine k_sub h [2] (lv' := [(2, .int l2)]) rfl ?_
      have hk := Option.some.inj hk
      subst hk
      exact hz
    · refine k_aload_n (pc := 24) h 0 dX7_empty_24 rfl ?_
      refine k_getr (pc := 25) h fl_X7_10 ly_0 rfl dX7_empty_25 ?_
      refine k_iload_n (pc := 28) h 3 dX7_empty_28 rfl ?_
      refine k_iload_n (pc := 29) h 1 dX7_empty_29 rfl ?_
      obtain ⟨p4, hc3, hk⟩ := bd_some hk
      refine k_callV1 (pc := 30) h (c_X6_howManyParts st_1 hc3) cw_X7_160 ly_1 rfl ⟨⟨by decide, by decide⟩, Nat.zero_le _, Nat.zero_le _⟩ rfl (Nat.le_of_ble_eq_true rfl) dX7_empty_30 ?_
      refine k_iconst (pc := 33) h (x := (2 : Int32)) dX7_empty_33 (by decide) ?_
      refine k_icmp_ge (tgt := 43) (pc := 34) h dX7_empty_34 rfl hk (fun hc hk => ?_) (fun hc hk => ?_)
      · exact EJ43 _ _ _ _ hk hz
      · refine k_iload_n (pc := 37) h 2 dX7_empty_37 rfl ?_
        refine k_iconst (pc := 38) h (x := (1 : Int32)) dX7_empty_38 (by decide) ?_
        refine k_iload_n (pc := 39) h 3 dX7_empty_39 rfl ?_
        refine k_ishl (pc := 40) h dX7_empty_40 ?_
        refine k_ior (pc := 41) h dX7_empty_41 ?_
        refine k_nmi (pc := 42) h hk (fun v5 hk => ?_)
        refine k_istore_n (pc := 42) h [1, 2, 0, 3] (lv' := [(0, .ref 0), (1, .int l1), (2, .int v5), (3, .int l3)]) dX7_empty_42 rfl (by decide) rfl ?_
        exact EJ43 _ _ _ _ hk hz
  refine k_aload_n (pc := 0) h 0 dX7_empty_0 rfl ?_
  refine k_getr (pc := 1) h fl_X7_10 ly_0 rfl dX7_empty_1 ?_
  refine k_iconst (pc := 4) h (x := (0 : Int32)) dX7_empty_4 (by decide) ?_
  obtain ⟨p2, hc1, hk⟩ := bd_some hk
  refine k_callV1 (pc := 5) h (c_X6_fitting st_1 hc1) cw_X7_135 ly_1 rfl ⟨⟨by decide, by decide⟩, Nat.zero_le _, Nat.zero_le _⟩ rfl (Nat.le_of_ble_eq_true rfl) dX7_empty_5 ?_
  refine k_istore_n (pc := 8) h [1, 0] (lv' := [(0, .ref 0), (1, .int p2)]) dX7_empty_8 rfl (by decide) rfl ?_
  refine k_iconst (pc := 9) h (x := (0 : Int32)) dX7_empty_9 (by decide) ?_
  refine k_istore_n (pc := 10) h [1, 2, 0] (lv' := [(0, .ref 0), (1, .int p2), (2, .int (0 : Int32))]) dX7_empty_10 rfl (by decide) rfl ?_
  refine k_iconst (pc := 11) h (x := (0 : Int32)) dX7_empty_11 (by decide) ?_
  refine k_istore_n (pc := 12) h [1, 2, 3, 0] (lv' := [(0, .ref 0), (1, .int p2), (2, .int (0 : Int32)), (3, .int (0 : Int32))]) dX7_empty_12 rfl (by decide) rfl ?_
  obtain ⟨r6, hl7, hk⟩ := bd_some hk
  refine LB13 _ _ _ _ hl7 ?_
  show G 49 [(2, .int r6)] [] w
  refine k_iload_n (pc := 49) h 0 dX7_empty_49 rfl ?_
  have hk := Option.some.inj hk
  subst hk
  exact k_iret (pc := 50) h dX7_empty_50 ⟨rfl, rfl, rfl, rfl, rfl, ⟨.int, rfl, rfl⟩⟩
def f_X7_haggle_j131 (w : WW) (l4 : Int32) : Option (Int32 × WW) := if 0 ≤ l4 then (f_J9_min_7cf53 w l4 (99 : Int32)).bind (fun p14 => some (p14, w)) else some ((-1 : Int32), w)
def f_X7_haggle (w : WW) (l1 : Int32) : Option (Int32 × WW) := (f_X7_isQuestion w l1).bind (fun p2 => if p2 = 0 then (f_X7_refuse w (-2 : Int32) (-2 : Int32)).bind (fun p16 => some (p16.1, p16.2)) else (f_X6_fitting 1 w (0 : Int32)).bind (fun p4 => (f_X3_seek 38 1 w p4 (shl32 (1 : Int32) l1) (0 : Int32)).bind (fun p6 => (f_X3_seek 39 1 p6 p4 (0 : Int32) (shl32 (1 : Int32) l1)).bind (fun p8 => if (p8.1 38 0) = (-1 : Int32) then some ((-1 : Int32), p8) else if (p8.1 39 0) = (-1 : Int32) then some ((99 : Int32), p8) else gd (inb l1 7) (nmv ((p8.1 38 1) - (p8.1 5 (l1).toNatClampNeg)) (fun v9 => nmv ((p8.1 39 1) - v9) (fun v10 => (f_X3_winsWhenPenceAreLike 38 39 p8).bind (fun p12 => if p12 = 0 then f_X7_haggle_j131 p8 (v10 + (-1 : Int32)) else f_X7_haggle_j131 p8 v10))))))))
set_option maxRecDepth 20000 in
set_option maxHeartbeats 4000000 in
theorem c_X7_haggle {w : WW} {l1 : Int32} {z : Int32 × WW} (hk : f_X7_haggle w l1 = some z) : Cn 5 yX7_haggle cX7_haggle 5 (some .int) LAY [.ref 0, .int l1] w (some (.int z.1)) z.2 := by
  refine Cn.of (by decide +kernel) (Nat.le_of_ble_eq_true rfl) (fun G h => ?_)
  have h : Rules cX7_haggle RX7 "haggle" 5 (rmd 5 0 0) none _ _ LAY 0 0 G := h
  show G 0 [(0, .ref 0), (1, .int l1)] [] w
  unfold f_X7_haggle at hk
  have EJ131 : ∀ (w : WW) (l4 : Int32), f_X7_haggle_j131 w l4 = some z → G 131 [(4, .int l4)] [] w := by
    intro w l4 hk
    unfold f_X7_haggle_j131 at hk
    refine k_iload (pc := 131) h 0 dX7_haggle_131 rfl ?_
    refine k_if_ge (tgt := 140) (pc := 133) h dX7_haggle_133 rfl hk (fun hc hk => ?_) (fun hc hk => ?_)
    · refine k_iload (pc := 140) h 0 dX7_haggle_140 rfl ?_
      refine k_bipush (pc := 142) h (x := (99 : Int32)) dX7_haggle_142 (by decide) ?_
      obtain ⟨p14, hc13, hk⟩ := bd_some hk
      refine k_callS1 (pc := 144) h (c_J9_min_7cf53 hc13) cw_X7_227 ⟨⟨by decide, by decide⟩, Nat.zero_le _, Nat.zero_le _⟩ rfl (Nat.le_of_ble_eq_true rfl) dX7_haggle_144 ?_
      have hk := Option.some.inj hk
      subst hk
      exact k_iret (pc := 147) h dX7_haggle_147 ⟨rfl, rfl, rfl, rfl, rfl, ⟨.int, rfl, rfl⟩⟩
    · refine k_iconst (pc := 136) h (x := (-1 : Int32)) dX7_haggle_136 (by decide) ?_
      refine k_goto (tgt := 147) (pc := 137) h dX7_haggle_137 rfl ?_
      have hk := Option.some.inj hk
      subst hk
      exact k_iret (pc := 147) h dX7_haggle_147 ⟨rfl, rfl, rfl, rfl, rfl, ⟨.int, rfl, rfl⟩⟩
  refine k_aload_n (pc := 0) h 0 dX7_haggle_0 rfl ?_
  refine k_iload_n (pc := 1) h 1 dX7_haggle_1 rfl ?_
  obtain ⟨p2, hc1, hk⟩ := bd_some hk
  refine k_callV1 (pc := 2) h (c_X7_isQuestion hc1) cw_X7_102 ly_0 rfl ⟨⟨by decide, by decide⟩, Nat.zero_le _, Nat.zero_le _⟩ rfl (Nat.le_of_ble_eq_true rfl) dX7_haggle_2 ?_
  refine k_if_ne (tgt := 17) (pc := 5) h dX7_haggle_5 rfl hk (fun hc hk => ?_) (fun hc hk => ?_)
  · refine k_aload_n (pc := 17) h 0 dX7_haggle_17 rfl ?_
    refine k_getr (pc := 18) h fl_X7_10 ly_0 rfl dX7_haggle_18 ?_
    refine k_iconst (pc := 21) h (x := (0 : Int32)) dX7_haggle_21 (by decide) ?_
    obtain ⟨p4, hc3, hk⟩ := bd_some hk
    refine k_callV1 (pc := 22) h (c_X6_fitting st_1 hc3) cw_X7_135 ly_1 rfl ⟨⟨by decide, by decide⟩, Nat.zero_le _, Nat.zero_le _⟩ rfl (Nat.le_of_ble_eq_true rfl) dX7_haggle_22 ?_
    refine k_istore_n (pc := 25) h [1, 2, 0] (lv' := [(0, .ref 0), (1, .int l1), (2, .int p4)]) dX7_haggle_25 rfl (by decide) rfl ?_
    refine k_aload_n (pc := 26) h 0 dX7_haggle_26 rfl ?_
    refine k_getr (pc := 27) h fl_X7_47 ly_0 rfl dX7_haggle_27 ?_
    refine k_aload_n (pc := 30) h 0 dX7_haggle_30 rfl ?_
    refine k_getr (pc := 31) h fl_X7_10 ly_0 rfl dX7_haggle_31 ?_
    refine k_iload_n (pc := 34) h 2 dX7_haggle_34 rfl ?_
    refine k_iconst (pc := 35) h (x := (1 : Int32)) dX7_haggle_35 (by decide) ?_
    refine k_iload_n (pc := 36) h 1 dX7_haggle_36 rfl ?_
    refine k_ishl (pc := 37) h dX7_haggle_37 ?_
    refine k_iconst (pc := 38) h (x := (0 : Int32)) dX7_haggle_38 (by decide) ?_
    obtain ⟨p6, hc5, hk⟩ := bd_some hk
    refine k_callV0 (pc := 39) h (c_X3_seek ly_38 st_1 hc5) cw_X7_169 ly_38 rfl ⟨⟨by decide, by decide⟩, Nat.zero_le _, Nat.zero_le _⟩ rfl (Nat.le_of_ble_eq_true rfl) dX7_haggle_39 ?_
    refine k_aload_n (pc := 42) h 0 dX7_haggle_42 rfl ?_
    refine k_getr (pc := 43) h fl_X7_51 ly_0 rfl dX7_haggle_43 ?_
    refine k_aload_n (pc := 46) h 0 dX7_haggle_46 rfl ?_
    refine k_getr (pc := 47) h fl_X7_10 ly_0 rfl dX7_haggle_47 ?_
    refine k_iload_n (pc := 50) h 2 dX7_haggle_50 rfl ?_
    refine k_iconst (pc := 51) h (x := (0 : Int32)) dX7_haggle_51 (by decide) ?_
    refine k_iconst (pc := 52) h (x := (1 : Int32)) dX7_haggle_52 (by decide) ?_
    refine k_iload_n (pc := 53) h 1 dX7_haggle_53 rfl ?_
    refine k_ishl (pc := 54) h dX7_haggle_54 ?_
    obtain ⟨p8, hc7, hk⟩ := bd_some hk
    refine k_callV0 (pc := 55) h (c_X3_seek ly_39 st_1 hc7) cw_X7_169 ly_39 rfl ⟨⟨by decide, by decide⟩, Nat.zero_le _, Nat.zero_le _⟩ rfl (Nat.le_of_ble_eq_true rfl) dX7_haggle_55 ?_
    refine k_aload_n (pc := 58) h 0 dX7_haggle_58 rfl ?_
    refine k_getr (pc := 59) h fl_X7_47 ly_0 rfl dX7_haggle_59 ?_
    refine k_geti (pc := 62) h fl_X7_173 ly_38 rfl dX7_haggle_62 ?_
    refine k_iconst (pc := 65) h (x := (-1 : Int32)) dX7_haggle_65 (by decide) ?_
    refine k_icmp_ne (tgt := 71) (pc := 66) h dX7_haggle_66 rfl hk (fun hc hk => ?_) (fun hc hk => ?_)
    · refine k_aload_n (pc := 71) h 0 dX7_haggle_71 rfl ?_
      refine k_getr (pc := 72) h fl_X7_51 ly_0 rfl dX7_haggle_72 ?_
      refine k_geti (pc := 75) h fl_X7_173 ly_39 rfl dX7_haggle_75 ?_
      refine k_iconst (pc := 78) h (x := (-1 : Int32)) dX7_haggle_78 (by decide) ?_
      refine k_icmp_ne (tgt := 85) (pc := 79) h dX7_haggle_79 rfl hk (fun hc hk => ?_) (fun hc hk => ?_)
      · refine k_aload_n (pc := 85) h 0 dX7_haggle_85 rfl ?_
        refine k_getr (pc := 86) h fl_X7_47 ly_0 rfl dX7_haggle_86 ?_
        refine k_geti (pc := 89) h fl_X7_176 ly_38 rfl dX7_haggle_89 ?_
        refine k_aload_n (pc := 92) h 0 dX7_haggle_92 rfl ?_
        refine k_getr (pc := 93) h fl_X7_10 ly_0 rfl dX7_haggle_93 ?_
        refine k_getr (pc := 96) h fl_X7_105 ly_1 rfl dX7_haggle_96 ?_
        refine k_iload_n (pc := 99) h 1 dX7_haggle_99 rfl ?_
        refine k_iald (pc := 100) h ly_5 dX7_haggle_100 hk (fun hk => ?_)
        refine k_isub (pc := 101) h dX7_haggle_101 ?_
        refine k_nmi (pc := 102) h hk (fun v9 hk => ?_)
        refine k_istore_n (pc := 102) h [1, 2, 3, 0] (lv' := [(0, .ref 0), (1, .int l1), (2, .int p4), (3, .int v9)]) dX7_haggle_102 rfl (by decide) rfl ?_
        refine k_aload_n (pc := 103) h 0 dX7_haggle_103 rfl ?_
        refine k_getr (pc := 104) h fl_X7_51 ly_0 rfl dX7_haggle_104 ?_
        refine k_geti (pc := 107) h fl_X7_176 ly_39 rfl dX7_haggle_107 ?_
        refine k_iload_n (pc := 110) h 3 dX7_haggle_110 rfl ?_
        refine k_isub (pc := 111) h dX7_haggle_111 ?_
        refine k_nmi (pc := 112) h hk (fun v10 hk => ?_)
        refine k_istore (pc := 112) h [1, 2, 3, 4, 0] (lv' := [(0, .ref 0), (1, .int l1), (2, .int p4), (3, .int v9), (4, .int v10)]) dX7_haggle_112 (by decide) rfl ?_
        refine k_aload_n (pc := 114) h 0 dX7_haggle_114 rfl ?_
        refine k_getr (pc := 115) h fl_X7_47 ly_0 rfl dX7_haggle_115 ?_
        refine k_aload_n (pc := 118) h 0 dX7_haggle_118 rfl ?_
        refine k_getr (pc := 119) h fl_X7_51 ly_0 rfl dX7_haggle_119 ?_
        obtain ⟨p12, hc11, hk⟩ := bd_some hk
        refine k_callV1 (pc := 122) h (c_X3_winsWhenPenceAreLike ly_38 ly_39 hc11) cw_X7_223 ly_38 rfl ⟨⟨by decide, by decide⟩, Nat.zero_le _, Nat.zero_le _⟩ rfl (Nat.le_of_ble_eq_true rfl) dX7_haggle_122 ?_
        refine k_if_ne (tgt := 131) (pc := 125) h dX7_haggle_125 rfl hk (fun hc hk => ?_) (fun hc hk => ?_)
        · refine k_sub h [4] (lv' := [(4, .int v10)]) rfl ?_
          exact EJ131 _ _ hk
        · refine k_iinc (pc := 128) h 4 [1, 2, 3, 4, 0] (v := (v10 + (-1 : Int32))) (lv' := [(0, .ref 0), (1, .int l1), (2, .int p4), (3, .int v9), (4, .int (v10 + (-1 : Int32)))]) dX7_haggle_128 rfl rfl (by decide) rfl ?_
          refine k_sub h [4] (lv' := [(4, .int (v10 + (-1 : Int32)))]) rfl ?_
          exact EJ131 _ _ hk
      · refine k_bipush (pc := 82) h (x := (99 : Int32)) dX7_haggle_82 (by decide) ?_
        have hk := Option.some.inj hk
        subst hk
        exact k_iret (pc := 84) h dX7_haggle_84 ⟨rfl, rfl, rfl, rfl, rfl, ⟨.int, rfl, rfl⟩⟩
    · refine k_iconst (pc := 69) h (x := (-1 : Int32)) dX7_haggle_69 (by decide) ?_
      have hk := Option.some.inj hk
      subst hk
      exact k_iret (pc := 70) h dX7_haggle_70 ⟨rfl, rfl, rfl, rfl, rfl, ⟨.int, rfl, rfl⟩⟩
  · refine k_aload_n (pc := 8) h 0 dX7_haggle_8 rfl ?_
    refine k_bipush (pc := 9) h (x := (-2 : Int32)) dX7_haggle_9 (by decide) ?_
    refine k_bipush (pc := 11) h (x := (-2 : Int32)) dX7_haggle_11 (by decide) ?_
    obtain ⟨p16, hc15, hk⟩ := bd_some hk
    refine k_callV1 (pc := 13) h (c_X7_refuse hc15) cw_X7_79 ly_0 rfl ⟨⟨by decide, by decide⟩, Nat.zero_le _, Nat.zero_le _⟩ rfl (Nat.le_of_ble_eq_true rfl) dX7_haggle_13 ?_
    have hk := Option.some.inj hk
    subst hk
    exact k_iret (pc := 16) h dX7_haggle_16 ⟨rfl, rfl, rfl, rfl, rfl, ⟨.int, rfl, rfl⟩⟩
def f_X7_howMany (w : WW) (l1 : Int32) : Option (Int32) := if l1 = (0 : Int32) then some ((w.1 1 0)) else if l1 = (1 : Int32) then some ((w.1 1 1)) else if l1 = (2 : Int32) then some ((w.1 1 2)) else if l1 = (3 : Int32) then (f_X6_fitting 1 w (0 : Int32)).bind (fun p2 => (f_J6_bitCount_0f7a4 w p2).bind (fun p4 => some (p4))) else if l1 = (4 : Int32) then some ((w.1 1 3)) else some ((w.1 26 1))
set_option maxRecDepth 20000 in
set_option maxHeartbeats 4000000 in
theorem c_X7_howMany {w : WW} {l1 : Int32} {z : Int32} (hk : f_X7_howMany w l1 = some z) : Cn 5 yX7_howMany cX7_howMany 2 (some .int) LAY [.ref 0, .int l1] w (some (.int z)) w := by
  refine Cn.of (by decide +kernel) (Nat.le_of_ble_eq_true rfl) (fun G h => ?_)
  have h : Rules cX7_howMany RX7 "howMany" 2 (rmd 5 0 0) none _ _ LAY 0 0 G := h
  show G 0 [(0, .ref 0), (1, .int l1)] [] w
  unfold f_X7_howMany at hk
  refine k_iload_n (pc := 0) h 1 dX7_howMany_0 rfl ?_
  refine k_tab (a := (0 : Int32)) (tgt := 36) (pc := 1) h dX7_howMany_1 (by decide) (by decide) rfl rfl hk (fun hk => ?_) (fun q0 hk => ?_)
  · refine k_aload_n (pc := 36) h 0 dX7_howMany_36 rfl ?_
    refine k_getr (pc := 37) h fl_X7_10 ly_0 rfl dX7_howMany_37 ?_
    refine k_geti (pc := 40) h fl_X7_260 ly_1 rfl dX7_howMany_40 ?_
    have hk := Option.some.inj hk
    subst hk
    exact k_iret (pc := 43) h dX7_howMany_43 ⟨rfl, rfl, rfl, rfl, rfl, ⟨.int, rfl, rfl⟩⟩
  · refine k_tab (a := (1 : Int32)) (tgt := 44) (pc := 1) h dX7_howMany_1 (by decide) (by decide) rfl rfl hk (fun hk => ?_) (fun q1 hk => ?_)
    · refine k_aload_n (pc := 44) h 0 dX7_howMany_44 rfl ?_
      refine k_getr (pc := 45) h fl_X7_10 ly_0 rfl dX7_howMany_45 ?_
      refine k_geti (pc := 48) h fl_X7_83 ly_1 rfl dX7_howMany_48 ?_
      have hk := Option.some.inj hk
      subst hk
      exact k_iret (pc := 51) h dX7_howMany_51 ⟨rfl, rfl, rfl, rfl, rfl, ⟨.int, rfl, rfl⟩⟩
    · refine k_tab (a := (2 : Int32)) (tgt := 52) (pc := 1) h dX7_howMany_1 (by decide) (by decide) rfl rfl hk (fun hk => ?_) (fun q2 hk => ?_)
      · refine k_aload_n (pc := 52) h 0 dX7_howMany_52 rfl ?_
        refine k_getr (pc := 53) h fl_X7_10 ly_0 rfl dX7_howMany_53 ?_
        refine k_geti (pc := 56) h fl_X7_128 ly_1 rfl dX7_howMany_56 ?_
        have hk := Option.some.inj hk
        subst hk
        exact k_iret (pc := 59) h dX7_howMany_59 ⟨rfl, rfl, rfl, rfl, rfl, ⟨.int, rfl, rfl⟩⟩
      · refine k_tab (a := (3 : Int32)) (tgt := 60) (pc := 1) h dX7_howMany_1 (by decide) (by decide) rfl rfl hk (fun hk => ?_) (fun q3 hk => ?_)
        · refine k_aload_n (pc := 60) h 0 dX7_howMany_60 rfl ?_
          refine k_getr (pc := 61) h fl_X7_10 ly_0 rfl dX7_howMany_61 ?_
          refine k_iconst (pc := 64) h (x := (0 : Int32)) dX7_howMany_64 (by decide) ?_
          obtain ⟨p2, hc1, hk⟩ := bd_some hk
          refine k_callV1 (pc := 65) h (c_X6_fitting st_1 hc1) cw_X7_135 ly_1 rfl ⟨⟨by decide, by decide⟩, Nat.zero_le _, Nat.zero_le _⟩ rfl (Nat.le_of_ble_eq_true rfl) dX7_howMany_65 ?_
          obtain ⟨p4, hc3, hk⟩ := bd_some hk
          refine k_callS1 (pc := 68) h (c_J6_bitCount_0f7a4 hc3) cw_X7_263 ⟨⟨by decide, by decide⟩, Nat.zero_le _, Nat.zero_le _⟩ rfl (Nat.le_of_ble_eq_true rfl) dX7_howMany_68 ?_
          have hk := Option.some.inj hk
          subst hk
          exact k_iret (pc := 71) h dX7_howMany_71 ⟨rfl, rfl, rfl, rfl, rfl, ⟨.int, rfl, rfl⟩⟩
        · refine k_tab (a := (4 : Int32)) (tgt := 72) (pc := 1) h dX7_howMany_1 (by decide) (by decide) rfl rfl hk (fun hk => ?_) (fun q4 hk => ?_)
          · refine k_aload_n (pc := 72) h 0 dX7_howMany_72 rfl ?_
            refine k_getr (pc := 73) h fl_X7_10 ly_0 rfl dX7_howMany_73 ?_
            refine k_geti (pc := 76) h fl_X7_142 ly_1 rfl dX7_howMany_76 ?_
            have hk := Option.some.inj hk
            subst hk
            exact k_iret (pc := 79) h dX7_howMany_79 ⟨rfl, rfl, rfl, rfl, rfl, ⟨.int, rfl, rfl⟩⟩
          · refine k_tabD (tgt := 80) (pc := 1) h dX7_howMany_1 (by have n0 := lv_neT q0 (a := 0) (by decide); have n1 := lv_neT q1 (a := 1) (by decide); have n2 := lv_neT q2 (a := 2) (by decide); have n3 := lv_neT q3 (a := 3) (by decide); have n4 := lv_neT q4 (a := 4) (by decide); omega) rfl ?_
            refine k_aload_n (pc := 80) h 0 dX7_howMany_80 rfl ?_
            refine k_getr (pc := 81) h fl_X7_29 ly_0 rfl dX7_howMany_81 ?_
            refine k_geti (pc := 84) h fl_X7_108 ly_26 rfl dX7_howMany_84 ?_
            have hk := Option.some.inj hk
            subst hk
            exact k_iret (pc := 87) h dX7_howMany_87 ⟨rfl, rfl, rfl, rfl, rfl, ⟨.int, rfl, rfl⟩⟩

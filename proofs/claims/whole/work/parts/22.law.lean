def f_L_law_j924 (L : Nat) (xs : Nat → Int32) (w : WW) (l3 : Int32) : Option ((Int32 × WW) ⊕ (WW)) := some (.inl ((l3 + (4 : Int32)), w))
def f_L_law_b18 (L : Nat) (xs : Nat → Int32) (l3 : Int32) (w : WW) : Option ((Int32 × WW) ⊕ (WW)) := if ((Int32.ofNat L) - (4 : Int32)) < l3 then some (.inr w) else gd (inb l3 L) (if ((xs (l3).toNatClampNeg) &&& (31 : Int32)) = (0 : Int32) then gd (inb (l3 + (1 : Int32)) L) ((f_X7_fair w (xs ((l3 + (1 : Int32))).toNatClampNeg)).bind (fun p2 => gd (inb (l3 + (1 : Int32)) L) ((f_X8_fair p2.2 (xs ((l3 + (1 : Int32))).toNatClampNeg)).bind (fun p4 => if p2.1 = p4.1 then f_L_law_j924 L xs p4.2 l3 else none)))) else if ((xs (l3).toNatClampNeg) &&& (31 : Int32)) = (1 : Int32) then gd (inb (l3 + (1 : Int32)) L) (gd (inb (l3 + (2 : Int32)) L) ((f_X7_weigh w (xs ((l3 + (1 : Int32))).toNatClampNeg) (xs ((l3 + (2 : Int32))).toNatClampNeg)).bind (fun p6 => gd (inb (l3 + (1 : Int32)) L) (gd (inb (l3 + (2 : Int32)) L) ((f_X8_weigh p6.2 (xs ((l3 + (1 : Int32))).toNatClampNeg) (xs ((l3 + (2 : Int32))).toNatClampNeg)).bind (fun p8 => if p6.1 = p8.1 then f_L_law_j924 L xs p8.2 l3 else none)))))) else if ((xs (l3).toNatClampNeg) &&& (31 : Int32)) = (2 : Int32) then gd (inb (l3 + (1 : Int32)) L) (gd (inb (l3 + (2 : Int32)) L) (gd (inb (l3 + (3 : Int32)) L) ((f_X7_question w (xs ((l3 + (1 : Int32))).toNatClampNeg) (xs ((l3 + (2 : Int32))).toNatClampNeg) (xs ((l3 + (3 : Int32))).toNatClampNeg)).bind (fun p10 => gd (inb (l3 + (1 : Int32)) L) (gd (inb (l3 + (2 : Int32)) L) (gd (inb (l3 + (3 : Int32)) L) ((f_X8_question p10.2 (xs ((l3 + (1 : Int32))).toNatClampNeg) (xs ((l3 + (2 : Int32))).toNatClampNeg) (xs ((l3 + (3 : Int32))).toNatClampNeg)).bind (fun p12 => if p10.1 = p12.1 then f_L_law_j924 L xs p12.2 l3 else none)))))))) else if ((xs (l3).toNatClampNeg) &&& (31 : Int32)) = (3 : Int32) then gd (inb (l3 + (1 : Int32)) L) (gd (inb (l3 + (2 : Int32)) L) ((f_X7_price w (xs ((l3 + (1 : Int32))).toNatClampNeg) (xs ((l3 + (2 : Int32))).toNatClampNeg)).bind (fun p14 => gd (inb (l3 + (1 : Int32)) L) (gd (inb (l3 + (2 : Int32)) L) ((f_X8_price p14.2 (xs ((l3 + (1 : Int32))).toNatClampNeg) (xs ((l3 + (2 : Int32))).toNatClampNeg)).bind (fun p16 => if p14.1 = p16.1 then f_L_law_j924 L xs p16.2 l3 else none)))))) else if ((xs (l3).toNatClampNeg) &&& (31 : Int32)) = (4 : Int32) then gd (inb (l3 + (1 : Int32)) L) ((f_X7_type w (xs ((l3 + (1 : Int32))).toNatClampNeg)).bind (fun p18 => gd (inb (l3 + (1 : Int32)) L) ((f_X8_type p18.2 (xs ((l3 + (1 : Int32))).toNatClampNeg)).bind (fun p20 => if p18.1 = p20.1 then f_L_law_j924 L xs p20.2 l3 else none)))) else if ((xs (l3).toNatClampNeg) &&& (31 : Int32)) = (5 : Int32) then (f_X7_clear w).bind (fun p22 => (f_X8_clear p22.2).bind (fun p24 => if p22.1 = p24.1 then f_L_law_j924 L xs p24.2 l3 else none)) else if ((xs (l3).toNatClampNeg) &&& (31 : Int32)) = (6 : Int32) then (f_X7_read w).bind (fun p26 => (f_X8_read p26.2).bind (fun p28 => if p26.1 = p28.1 then f_L_law_j924 L xs p28.2 l3 else none)) else if ((xs (l3).toNatClampNeg) &&& (31 : Int32)) = (7 : Int32) then gd (inb (l3 + (1 : Int32)) L) (gd (inb (l3 + (2 : Int32)) L) ((f_X7_ask w (xs ((l3 + (1 : Int32))).toNatClampNeg) (xs ((l3 + (2 : Int32))).toNatClampNeg)).bind (fun p30 => gd (inb (l3 + (1 : Int32)) L) (gd (inb (l3 + (2 : Int32)) L) ((f_X8_ask p30.2 (xs ((l3 + (1 : Int32))).toNatClampNeg) (xs ((l3 + (2 : Int32))).toNatClampNeg)).bind (fun p32 => if p30.1 = p32.1 then f_L_law_j924 L xs p32.2 l3 else none)))))) else if ((xs (l3).toNatClampNeg) &&& (31 : Int32)) = (8 : Int32) then (f_X7_forget w).bind (fun p34 => (f_X8_forget p34.2).bind (fun p36 => if p34.1 = p36.1 then f_L_law_j924 L xs p36.2 l3 else none)) else if ((xs (l3).toNatClampNeg) &&& (31 : Int32)) = (9 : Int32) then (f_X7_undo w).bind (fun p38 => (f_X8_undo p38.2).bind (fun p40 => if p38.1 = p40.1 then f_L_law_j924 L xs p40.2 l3 else none)) else if ((xs (l3).toNatClampNeg) &&& (31 : Int32)) = (10 : Int32) then gd (inb (l3 + (1 : Int32)) L) (gd (inb (l3 + (2 : Int32)) L) ((f_X7_of w (xs ((l3 + (1 : Int32))).toNatClampNeg) (xs ((l3 + (2 : Int32))).toNatClampNeg)).bind (fun p42 => gd (inb (l3 + (1 : Int32)) L) (gd (inb (l3 + (2 : Int32)) L) ((f_X8_of p42.2 (xs ((l3 + (1 : Int32))).toNatClampNeg) (xs ((l3 + (2 : Int32))).toNatClampNeg)).bind (fun p44 => if p42.1 = p44.1 then f_L_law_j924 L xs p44.2 l3 else none)))))) else if ((xs (l3).toNatClampNeg) &&& (31 : Int32)) = (11 : Int32) then gd (inb (l3 + (1 : Int32)) L) (gd (inb (l3 + (2 : Int32)) L) ((f_X7_answer w (xs ((l3 + (1 : Int32))).toNatClampNeg) (xs ((l3 + (2 : Int32))).toNatClampNeg)).bind (fun p46 => gd (inb (l3 + (1 : Int32)) L) (gd (inb (l3 + (2 : Int32)) L) ((f_X8_answer p46.2 (xs ((l3 + (1 : Int32))).toNatClampNeg) (xs ((l3 + (2 : Int32))).toNatClampNeg)).bind (fun p48 => if p46.1 = p48.1 then f_L_law_j924 L xs p48.2 l3 else none)))))) else if ((xs (l3).toNatClampNeg) &&& (31 : Int32)) = (12 : Int32) then (f_X7_left w).bind (fun p50 => (f_X8_left w).bind (fun p52 => if p50 = p52 then f_L_law_j924 L xs w l3 else none)) else if ((xs (l3).toNatClampNeg) &&& (31 : Int32)) = (13 : Int32) then gd (inb (l3 + (1 : Int32)) L) (gd (inb (l3 + (2 : Int32)) L) ((f_X7_cuts w (xs ((l3 + (1 : Int32))).toNatClampNeg) (xs ((l3 + (2 : Int32))).toNatClampNeg)).bind (fun p54 => gd (inb (l3 + (1 : Int32)) L) (gd (inb (l3 + (2 : Int32)) L) ((f_X8_cuts p54.2 (xs ((l3 + (1 : Int32))).toNatClampNeg) (xs ((l3 + (2 : Int32))).toNatClampNeg)).bind (fun p56 => if p54.1 = p56.1 then f_L_law_j924 L xs p56.2 l3 else none)))))) else if ((xs (l3).toNatClampNeg) &&& (31 : Int32)) = (14 : Int32) then (f_X7_empty w).bind (fun p58 => (f_X8_empty w).bind (fun p60 => if p58 = p60 then f_L_law_j924 L xs w l3 else none)) else if ((xs (l3).toNatClampNeg) &&& (31 : Int32)) = (15 : Int32) then gd (inb (l3 + (1 : Int32)) L) ((f_X7_same w (xs ((l3 + (1 : Int32))).toNatClampNeg)).bind (fun p62 => gd (inb (l3 + (1 : Int32)) L) ((f_X8_same p62.2 (xs ((l3 + (1 : Int32))).toNatClampNeg)).bind (fun p64 => if p62.1 = p64.1 then f_L_law_j924 L xs p64.2 l3 else none)))) else if ((xs (l3).toNatClampNeg) &&& (31 : Int32)) = (16 : Int32) then (f_X7_best w).bind (fun p66 => (f_X8_best w).bind (fun p68 => if p66 = p68 then f_L_law_j924 L xs w l3 else none)) else if ((xs (l3).toNatClampNeg) &&& (31 : Int32)) = (17 : Int32) then gd (inb (l3 + (1 : Int32)) L) ((f_X7_atOnce w (xs ((l3 + (1 : Int32))).toNatClampNeg)).bind (fun p70 => gd (inb (l3 + (1 : Int32)) L) ((f_X8_atOnce p70.2 (xs ((l3 + (1 : Int32))).toNatClampNeg)).bind (fun p72 => if p70.1 = p72.1 then f_L_law_j924 L xs p72.2 l3 else none)))) else if ((xs (l3).toNatClampNeg) &&& (31 : Int32)) = (18 : Int32) then gd (inb (l3 + (1 : Int32)) L) ((f_X7_oneByOne w (xs ((l3 + (1 : Int32))).toNatClampNeg)).bind (fun p74 => gd (inb (l3 + (1 : Int32)) L) ((f_X8_oneByOne p74.2 (xs ((l3 + (1 : Int32))).toNatClampNeg)).bind (fun p76 => if p74.1 = p76.1 then f_L_law_j924 L xs p76.2 l3 else none)))) else if ((xs (l3).toNatClampNeg) &&& (31 : Int32)) = (19 : Int32) then (f_X7_oneWrong w).bind (fun p78 => (f_X8_oneWrong w).bind (fun p80 => if p78 = p80 then f_L_law_j924 L xs w l3 else none)) else if ((xs (l3).toNatClampNeg) &&& (31 : Int32)) = (20 : Int32) then gd (inb (l3 + (1 : Int32)) L) (gd (inb (l3 + (2 : Int32)) L) (gd (inb (l3 + (3 : Int32)) L) ((f_X7_knows w (xs ((l3 + (1 : Int32))).toNatClampNeg) (xs ((l3 + (2 : Int32))).toNatClampNeg) (xs ((l3 + (3 : Int32))).toNatClampNeg)).bind (fun p82 => gd (inb (l3 + (1 : Int32)) L) (gd (inb (l3 + (2 : Int32)) L) (gd (inb (l3 + (3 : Int32)) L) ((f_X8_knows p82.2 (xs ((l3 + (1 : Int32))).toNatClampNeg) (xs ((l3 + (2 : Int32))).toNatClampNeg) (xs ((l3 + (3 : Int32))).toNatClampNeg)).bind (fun p84 => if p82.1 = p84.1 then f_L_law_j924 L xs p84.2 l3 else none)))))))) else if ((xs (l3).toNatClampNeg) &&& (31 : Int32)) = (21 : Int32) then gd (inb (l3 + (1 : Int32)) L) ((f_X7_parted w (xs ((l3 + (1 : Int32))).toNatClampNeg)).bind (fun p86 => gd (inb (l3 + (1 : Int32)) L) ((f_X8_parted p86.2 (xs ((l3 + (1 : Int32))).toNatClampNeg)).bind (fun p88 => if p86.1 = p88.1 then f_L_law_j924 L xs p88.2 l3 else none)))) else if ((xs (l3).toNatClampNeg) &&& (31 : Int32)) = (22 : Int32) then gd (inb (l3 + (1 : Int32)) L) ((f_X7_row w (xs ((l3 + (1 : Int32))).toNatClampNeg)).bind (fun p90 => gd (inb (l3 + (1 : Int32)) L) ((f_X8_row p90.2 (xs ((l3 + (1 : Int32))).toNatClampNeg)).bind (fun p92 => if p90.1 = p92.1 then f_L_law_j924 L xs p92.2 l3 else none)))) else if ((xs (l3).toNatClampNeg) &&& (31 : Int32)) = (23 : Int32) then (f_X7_bestRow w).bind (fun p94 => (f_X8_bestRow p94.2).bind (fun p96 => if p94.1 = p96.1 then f_L_law_j924 L xs p96.2 l3 else none)) else if ((xs (l3).toNatClampNeg) &&& (31 : Int32)) = (24 : Int32) then gd (inb (l3 + (1 : Int32)) L) ((f_X7_haggle w (xs ((l3 + (1 : Int32))).toNatClampNeg)).bind (fun p98 => gd (inb (l3 + (1 : Int32)) L) ((f_X8_haggle p98.2 (xs ((l3 + (1 : Int32))).toNatClampNeg)).bind (fun p100 => if p98.1 = p100.1 then f_L_law_j924 L xs p100.2 l3 else none)))) else if ((xs (l3).toNatClampNeg) &&& (31 : Int32)) = (25 : Int32) then gd (inb (l3 + (1 : Int32)) L) (gd (inb (l3 + (2 : Int32)) L) ((f_X7_stalls w (xs ((l3 + (1 : Int32))).toNatClampNeg) (xs ((l3 + (2 : Int32))).toNatClampNeg)).bind (fun p102 => gd (inb (l3 + (1 : Int32)) L) (gd (inb (l3 + (2 : Int32)) L) ((f_X8_stalls p102.2 (xs ((l3 + (1 : Int32))).toNatClampNeg) (xs ((l3 + (2 : Int32))).toNatClampNeg)).bind (fun p104 => if p102.1 = p104.1 then f_L_law_j924 L xs p104.2 l3 else none)))))) else if ((xs (l3).toNatClampNeg) &&& (31 : Int32)) = (26 : Int32) then gd (inb (l3 + (1 : Int32)) L) ((f_X7_part w (xs ((l3 + (1 : Int32))).toNatClampNeg)).bind (fun p106 => gd (inb (l3 + (1 : Int32)) L) ((f_X8_part p106.2 (xs ((l3 + (1 : Int32))).toNatClampNeg)).bind (fun p108 => if (lg_cmp p106.1 p108.1) = 0 then f_L_law_j924 L xs p108.2 l3 else none)))) else if ((xs (l3).toNatClampNeg) &&& (31 : Int32)) = (27 : Int32) then gd (inb (l3 + (1 : Int32)) L) ((f_X7_image w (xs ((l3 + (1 : Int32))).toNatClampNeg)).bind (fun p110 => gd (inb (l3 + (1 : Int32)) L) ((f_X8_image p110.2 (xs ((l3 + (1 : Int32))).toNatClampNeg)).bind (fun p112 => if p110.1 = p112.1 then f_L_law_j924 L xs p112.2 l3 else none)))) else if ((xs (l3).toNatClampNeg) &&& (31 : Int32)) = (28 : Int32) then gd (inb (l3 + (1 : Int32)) L) ((f_X7_from w (xs ((l3 + (1 : Int32))).toNatClampNeg)).bind (fun p114 => gd (inb (l3 + (1 : Int32)) L) ((f_X8_from p114.2 (xs ((l3 + (1 : Int32))).toNatClampNeg)).bind (fun p116 => if p114.1 = p116.1 then f_L_law_j924 L xs p116.2 l3 else none)))) else if ((xs (l3).toNatClampNeg) &&& (31 : Int32)) = (29 : Int32) then gd (inb (l3 + (1 : Int32)) L) ((f_X7_status w (xs ((l3 + (1 : Int32))).toNatClampNeg)).bind (fun p118 => gd (inb (l3 + (1 : Int32)) L) ((f_X8_status p118.2 (xs ((l3 + (1 : Int32))).toNatClampNeg)).bind (fun p120 => if p118.1 = p120.1 then f_L_law_j924 L xs p120.2 l3 else none)))) else if ((xs (l3).toNatClampNeg) &&& (31 : Int32)) = (30 : Int32) then gd (inb (l3 + (1 : Int32)) L) ((f_X7_count w (xs ((l3 + (1 : Int32))).toNatClampNeg)).bind (fun p122 => gd (inb (l3 + (1 : Int32)) L) ((f_X8_count p122.2 (xs ((l3 + (1 : Int32))).toNatClampNeg)).bind (fun p124 => if p122.1 = p124.1 then f_L_law_j924 L xs p124.2 l3 else none)))) else if ((xs (l3).toNatClampNeg) &&& (31 : Int32)) = (31 : Int32) then (f_X7_digest w).bind (fun p126 => (f_X8_digest w).bind (fun p128 => if (lg_cmp p126 p128.1) = 0 then f_L_law_j924 L xs p128.2 l3 else none)) else f_L_law_j924 L xs w l3)
def f_law (L : Nat) (xs : Nat → Int32) (w : WW) : Option Int32 := (lpf (fun s : Int32 × WW => f_L_law_b18 L xs s.1 s.2) FU ((0 : Int32), w)).bind (fun r129 => some (1 : Int32))
def lwR : List LyS → Nat → Nat → Option Value → WW → Prop := fun _ k n v _ => v = some (.int 1) ∧ k ≤ 600000 ∧ n ≤ 7302250
set_option maxRecDepth 20000 in
set_option maxHeartbeats 8000000 in
theorem law_main {nm : String} {b L : Nat} {xs : Nat → Int32} {w : WW} {z : Int32} {G : Nat → List (Nat × Value) → List Value → WW → Prop} (h : Rules cL_law RL nm 4 room_1 (some 0) (lwX b L xs) lwR LAY 64 202766 G) (hk : f_law L xs w = some z) : G 18 [(0, .retAddr b), (1, .ref 0), (2, .ref 46), (3, .int (0 : Int32))] [] w := by
  unfold f_law at hk
  have EJ924 : ∀ (w : WW) (l3 : Int32) (z : (Int32 × WW) ⊕ (WW)), f_L_law_j924 L xs w l3 = some z → Sum.elim (fun s : Int32 × WW => G 18 [(0, .retAddr b), (1, .ref 0), (2, .ref 46), (3, .int s.1)] [] s.2) (fun r : WW => G 930 [] [] r) z → G 924 [(0, .retAddr b), (1, .ref 0), (2, .ref 46), (3, .int l3)] [] w := by
    intro w l3 z hk hz
    unfold f_L_law_j924 at hk
    refine k_iinc (pc := 924) h 3 [1, 2, 3, 0] (v := (l3 + (4 : Int32))) (lv' := [(0, .retAddr b), (1, .ref 0), (2, .ref 46), (3, .int (l3 + (4 : Int32)))]) dL_law_924 rfl rfl (by decide) rfl ?_
    refine k_goto (tgt := 18) (pc := 927) h dL_law_927 rfl ?_
    have hk := Option.some.inj hk
    subst hk
    exact hz
  have LB18 : ∀ (nn : Nat) (s : Int32 × WW) (r : WW), lpf (fun s : Int32 × WW => f_L_law_b18 L xs s.1 s.2) nn s = some r → (fun r : WW => G 930 [] [] r) r → (fun s : Int32 × WW => G 18 [(0, .retAddr b), (1, .ref 0), (2, .ref 46), (3, .int s.1)] [] s.2) s := by
    refine lpf_ind (fun s : Int32 × WW => G 18 [(0, .retAddr b), (1, .ref 0), (2, .ref 46), (3, .int s.1)] [] s.2) (fun r : WW => G 930 [] [] r) ?_
    rintro ⟨l3, w⟩ z hk hz
    have hk : f_L_law_b18 L xs l3 w = some z := hk
    unfold f_L_law_b18 at hk
    show G 18 [(0, .retAddr b), (1, .ref 0), (2, .ref 46), (3, .int l3)] [] w
    refine k_iload_n (pc := 18) h 3 dL_law_18 rfl ?_
    refine k_aload_nR (pc := 19) h 0 dL_law_19 rfl ?_
    refine k_slen (pc := 20) h dL_law_20 ?_
    refine k_iconst (pc := 21) h (x := (4 : Int32)) dL_law_21 (by decide) ?_
    refine k_isub (pc := 22) h dL_law_22 ?_
    refine k_icmp_gt (tgt := 930) (pc := 23) h dL_law_23 rfl hk (fun hc hk => ?_) (fun hc hk => ?_)
    · refine k_sub h [] (lv' := []) rfl ?_
      have hk := Option.some.inj hk
      subst hk
      exact hz
    · refine k_aload_nR (pc := 26) h 0 dL_law_26 rfl ?_
      refine k_iload_n (pc := 27) h 3 dL_law_27 rfl ?_
      refine k_sld (pc := 28) h dL_law_28 hk (fun hk => ?_)
      refine k_bipush (pc := 29) h (x := (31 : Int32)) dL_law_29 (by decide) ?_
      refine k_iand (pc := 31) h dL_law_31 ?_
      refine k_tab (a := (0 : Int32)) (tgt := 176) (pc := 32) h dL_law_32 (by decide) (by decide) rfl rfl hk (fun hk => ?_) (fun q0 hk => ?_)
      · refine k_aload_n (pc := 176) h 1 dL_law_176 rfl ?_
        refine k_aload_nR (pc := 177) h 0 dL_law_177 rfl ?_
        refine k_iload_n (pc := 178) h 3 dL_law_178 rfl ?_
        refine k_iconst (pc := 179) h (x := (1 : Int32)) dL_law_179 (by decide) ?_
        refine k_iadd (pc := 180) h dL_law_180 ?_
        refine k_sld (pc := 181) h dL_law_181 hk (fun hk => ?_)
        obtain ⟨p2, hc1, hk⟩ := bd_some hk
        refine k_callV1 (pc := 182) h (c_X7_fair hc1) cw_L_13 ly_0 rfl ⟨⟨by decide, by decide⟩, by decide, by decide⟩ rfl (Nat.le_of_ble_eq_true rfl) dL_law_182 ?_
        refine k_aload_n (pc := 185) h 2 dL_law_185 rfl ?_
        refine k_aload_nR (pc := 186) h 0 dL_law_186 rfl ?_
        refine k_iload_n (pc := 187) h 3 dL_law_187 rfl ?_
        refine k_iconst (pc := 188) h (x := (1 : Int32)) dL_law_188 (by decide) ?_
        refine k_iadd (pc := 189) h dL_law_189 ?_
        refine k_sld (pc := 190) h dL_law_190 hk (fun hk => ?_)
        obtain ⟨p4, hc3, hk⟩ := bd_some hk
        refine k_callV1 (pc := 191) h (c_X8_fair hc3) cw_L_17 ly_46 rfl ⟨⟨by decide, by decide⟩, by decide, by decide⟩ rfl (Nat.le_of_ble_eq_true rfl) dL_law_191 ?_
        refine k_icmp_eq (tgt := 924) (pc := 194) h dL_law_194 rfl hk (fun hc hk => ?_) (fun hc hk => ?_)
        · exact EJ924 _ _ _ hk hz
        · cases hk
      · refine k_tab (a := (1 : Int32)) (tgt := 199) (pc := 32) h dL_law_32 (by decide) (by decide) rfl rfl hk (fun hk => ?_) (fun q1 hk => ?_)
        · refine k_aload_n (pc := 199) h 1 dL_law_199 rfl ?_
          refine k_aload_nR (pc := 200) h 0 dL_law_200 rfl ?_
          refine k_iload_n (pc := 201) h 3 dL_law_201 rfl ?_
          refine k_iconst (pc := 202) h (x := (1 : Int32)) dL_law_202 (by decide) ?_
          refine k_iadd (pc := 203) h dL_law_203 ?_
          refine k_sld (pc := 204) h dL_law_204 hk (fun hk => ?_)
          refine k_aload_nR (pc := 205) h 0 dL_law_205 rfl ?_
          refine k_iload_n (pc := 206) h 3 dL_law_206 rfl ?_
          refine k_iconst (pc := 207) h (x := (2 : Int32)) dL_law_207 (by decide) ?_
          refine k_iadd (pc := 208) h dL_law_208 ?_
          refine k_sld (pc := 209) h dL_law_209 hk (fun hk => ?_)
          obtain ⟨p6, hc5, hk⟩ := bd_some hk
          refine k_callV1 (pc := 210) h (c_X7_weigh hc5) cw_L_18 ly_0 rfl ⟨⟨by decide, by decide⟩, by decide, by decide⟩ rfl (Nat.le_of_ble_eq_true rfl) dL_law_210 ?_
          refine k_aload_n (pc := 213) h 2 dL_law_213 rfl ?_
          refine k_aload_nR (pc := 214) h 0 dL_law_214 rfl ?_
          refine k_iload_n (pc := 215) h 3 dL_law_215 rfl ?_
          refine k_iconst (pc := 216) h (x := (1 : Int32)) dL_law_216 (by decide) ?_
          refine k_iadd (pc := 217) h dL_law_217 ?_
          refine k_sld (pc := 218) h dL_law_218 hk (fun hk => ?_)
          refine k_aload_nR (pc := 219) h 0 dL_law_219 rfl ?_
          refine k_iload_n (pc := 220) h 3 dL_law_220 rfl ?_
          refine k_iconst (pc := 221) h (x := (2 : Int32)) dL_law_221 (by decide) ?_
          refine k_iadd (pc := 222) h dL_law_222 ?_
          refine k_sld (pc := 223) h dL_law_223 hk (fun hk => ?_)
          obtain ⟨p8, hc7, hk⟩ := bd_some hk
          refine k_callV1 (pc := 224) h (c_X8_weigh hc7) cw_L_22 ly_46 rfl ⟨⟨by decide, by decide⟩, by decide, by decide⟩ rfl (Nat.le_of_ble_eq_true rfl) dL_law_224 ?_
          refine k_icmp_eq (tgt := 924) (pc := 227) h dL_law_227 rfl hk (fun hc hk => ?_) (fun hc hk => ?_)
          · exact EJ924 _ _ _ hk hz
          · cases hk
        · refine k_tab (a := (2 : Int32)) (tgt := 232) (pc := 32) h dL_law_32 (by decide) (by decide) rfl rfl hk (fun hk => ?_) (fun q2 hk => ?_)
          · refine k_aload_n (pc := 232) h 1 dL_law_232 rfl ?_
            refine k_aload_nR (pc := 233) h 0 dL_law_233 rfl ?_
            refine k_iload_n (pc := 234) h 3 dL_law_234 rfl ?_
            refine k_iconst (pc := 235) h (x := (1 : Int32)) dL_law_235 (by decide) ?_
            refine k_iadd (pc := 236) h dL_law_236 ?_
            refine k_sld (pc := 237) h dL_law_237 hk (fun hk => ?_)
            refine k_aload_nR (pc := 238) h 0 dL_law_238 rfl ?_
            refine k_iload_n (pc := 239) h 3 dL_law_239 rfl ?_
            refine k_iconst (pc := 240) h (x := (2 : Int32)) dL_law_240 (by decide) ?_
            refine k_iadd (pc := 241) h dL_law_241 ?_
            refine k_sld (pc := 242) h dL_law_242 hk (fun hk => ?_)
            refine k_aload_nR (pc := 243) h 0 dL_law_243 rfl ?_
            refine k_iload_n (pc := 244) h 3 dL_law_244 rfl ?_
            refine k_iconst (pc := 245) h (x := (3 : Int32)) dL_law_245 (by decide) ?_
            refine k_iadd (pc := 246) h dL_law_246 ?_
            refine k_sld (pc := 247) h dL_law_247 hk (fun hk => ?_)
            obtain ⟨p10, hc9, hk⟩ := bd_some hk
            refine k_callV1 (pc := 248) h (c_X7_question hc9) cw_L_23 ly_0 rfl ⟨⟨by decide, by decide⟩, by decide, by decide⟩ rfl (Nat.le_of_ble_eq_true rfl) dL_law_248 ?_
            refine k_aload_n (pc := 251) h 2 dL_law_251 rfl ?_
            refine k_aload_nR (pc := 252) h 0 dL_law_252 rfl ?_
            refine k_iload_n (pc := 253) h 3 dL_law_253 rfl ?_
            refine k_iconst (pc := 254) h (x := (1 : Int32)) dL_law_254 (by decide) ?_
            refine k_iadd (pc := 255) h dL_law_255 ?_
            refine k_sld (pc := 256) h dL_law_256 hk (fun hk => ?_)
            refine k_aload_nR (pc := 257) h 0 dL_law_257 rfl ?_
            refine k_iload_n (pc := 258) h 3 dL_law_258 rfl ?_
            refine k_iconst (pc := 259) h (x := (2 : Int32)) dL_law_259 (by decide) ?_
            refine k_iadd (pc := 260) h dL_law_260 ?_
            refine k_sld (pc := 261) h dL_law_261 hk (fun hk => ?_)
            refine k_aload_nR (pc := 262) h 0 dL_law_262 rfl ?_
            refine k_iload_n (pc := 263) h 3 dL_law_263 rfl ?_
            refine k_iconst (pc := 264) h (x := (3 : Int32)) dL_law_264 (by decide) ?_
            refine k_iadd (pc := 265) h dL_law_265 ?_
            refine k_sld (pc := 266) h dL_law_266 hk (fun hk => ?_)
            obtain ⟨p12, hc11, hk⟩ := bd_some hk
            refine k_callV1 (pc := 267) h (c_X8_question hc11) cw_L_27 ly_46 rfl ⟨⟨by decide, by decide⟩, by decide, by decide⟩ rfl (Nat.le_of_ble_eq_true rfl) dL_law_267 ?_
            refine k_icmp_eq (tgt := 924) (pc := 270) h dL_law_270 rfl hk (fun hc hk => ?_) (fun hc hk => ?_)
            · exact EJ924 _ _ _ hk hz
            · cases hk
          · refine k_tab (a := (3 : Int32)) (tgt := 275) (pc := 32) h dL_law_32 (by decide) (by decide) rfl rfl hk (fun hk => ?_) (fun q3 hk => ?_)
            · refine k_aload_n (pc := 275) h 1 dL_law_275 rfl ?_
              refine k_aload_nR (pc := 276) h 0 dL_law_276 rfl ?_
              refine k_iload_n (pc := 277) h 3 dL_law_277 rfl ?_
              refine k_iconst (pc := 278) h (x := (1 : Int32)) dL_law_278 (by decide) ?_
              refine k_iadd (pc := 279) h dL_law_279 ?_
              refine k_sld (pc := 280) h dL_law_280 hk (fun hk => ?_)
              refine k_aload_nR (pc := 281) h 0 dL_law_281 rfl ?_
              refine k_iload_n (pc := 282) h 3 dL_law_282 rfl ?_
              refine k_iconst (pc := 283) h (x := (2 : Int32)) dL_law_283 (by decide) ?_
              refine k_iadd (pc := 284) h dL_law_284 ?_
              refine k_sld (pc := 285) h dL_law_285 hk (fun hk => ?_)
              obtain ⟨p14, hc13, hk⟩ := bd_some hk
              refine k_callV1 (pc := 286) h (c_X7_price hc13) cw_L_28 ly_0 rfl ⟨⟨by decide, by decide⟩, by decide, by decide⟩ rfl (Nat.le_of_ble_eq_true rfl) dL_law_286 ?_
              refine k_aload_n (pc := 289) h 2 dL_law_289 rfl ?_
              refine k_aload_nR (pc := 290) h 0 dL_law_290 rfl ?_
              refine k_iload_n (pc := 291) h 3 dL_law_291 rfl ?_
              refine k_iconst (pc := 292) h (x := (1 : Int32)) dL_law_292 (by decide) ?_
              refine k_iadd (pc := 293) h dL_law_293 ?_
              refine k_sld (pc := 294) h dL_law_294 hk (fun hk => ?_)
              refine k_aload_nR (pc := 295) h 0 dL_law_295 rfl ?_
              refine k_iload_n (pc := 296) h 3 dL_law_296 rfl ?_
              refine k_iconst (pc := 297) h (x := (2 : Int32)) dL_law_297 (by decide) ?_
              refine k_iadd (pc := 298) h dL_law_298 ?_
              refine k_sld (pc := 299) h dL_law_299 hk (fun hk => ?_)
              obtain ⟨p16, hc15, hk⟩ := bd_some hk
              refine k_callV1 (pc := 300) h (c_X8_price hc15) cw_L_31 ly_46 rfl ⟨⟨by decide, by decide⟩, by decide, by decide⟩ rfl (Nat.le_of_ble_eq_true rfl) dL_law_300 ?_
              refine k_icmp_eq (tgt := 924) (pc := 303) h dL_law_303 rfl hk (fun hc hk => ?_) (fun hc hk => ?_)
              · exact EJ924 _ _ _ hk hz
              · cases hk
            · refine k_tab (a := (4 : Int32)) (tgt := 308) (pc := 32) h dL_law_32 (by decide) (by decide) rfl rfl hk (fun hk => ?_) (fun q4 hk => ?_)
              · refine k_aload_n (pc := 308) h 1 dL_law_308 rfl ?_
                refine k_aload_nR (pc := 309) h 0 dL_law_309 rfl ?_
                refine k_iload_n (pc := 310) h 3 dL_law_310 rfl ?_
                refine k_iconst (pc := 311) h (x := (1 : Int32)) dL_law_311 (by decide) ?_
                refine k_iadd (pc := 312) h dL_law_312 ?_
                refine k_sld (pc := 313) h dL_law_313 hk (fun hk => ?_)
                obtain ⟨p18, hc17, hk⟩ := bd_some hk
                refine k_callV1 (pc := 314) h (c_X7_type hc17) cw_L_32 ly_0 rfl ⟨⟨by decide, by decide⟩, by decide, by decide⟩ rfl (Nat.le_of_ble_eq_true rfl) dL_law_314 ?_
                refine k_aload_n (pc := 317) h 2 dL_law_317 rfl ?_
                refine k_aload_nR (pc := 318) h 0 dL_law_318 rfl ?_
                refine k_iload_n (pc := 319) h 3 dL_law_319 rfl ?_
                refine k_iconst (pc := 320) h (x := (1 : Int32)) dL_law_320 (by decide) ?_
                refine k_iadd (pc := 321) h dL_law_321 ?_
                refine k_sld (pc := 322) h dL_law_322 hk (fun hk => ?_)
                obtain ⟨p20, hc19, hk⟩ := bd_some hk
                refine k_callV1 (pc := 323) h (c_X8_type hc19) cw_L_35 ly_46 rfl ⟨⟨by decide, by decide⟩, by decide, by decide⟩ rfl (Nat.le_of_ble_eq_true rfl) dL_law_323 ?_
                refine k_icmp_eq (tgt := 924) (pc := 326) h dL_law_326 rfl hk (fun hc hk => ?_) (fun hc hk => ?_)
                · exact EJ924 _ _ _ hk hz
                · cases hk
              · refine k_tab (a := (5 : Int32)) (tgt := 331) (pc := 32) h dL_law_32 (by decide) (by decide) rfl rfl hk (fun hk => ?_) (fun q5 hk => ?_)
                · refine k_aload_n (pc := 331) h 1 dL_law_331 rfl ?_
                  obtain ⟨p22, hc21, hk⟩ := bd_some hk
                  refine k_callV1 (pc := 332) h (c_X7_clear hc21) cw_L_36 ly_0 rfl ⟨⟨by decide, by decide⟩, by decide, by decide⟩ rfl (Nat.le_of_ble_eq_true rfl) dL_law_332 ?_
                  refine k_aload_n (pc := 335) h 2 dL_law_335 rfl ?_
                  obtain ⟨p24, hc23, hk⟩ := bd_some hk
                  refine k_callV1 (pc := 336) h (c_X8_clear hc23) cw_L_40 ly_46 rfl ⟨⟨by decide, by decide⟩, by decide, by decide⟩ rfl (Nat.le_of_ble_eq_true rfl) dL_law_336 ?_
                  refine k_icmp_eq (tgt := 924) (pc := 339) h dL_law_339 rfl hk (fun hc hk => ?_) (fun hc hk => ?_)
                  · exact EJ924 _ _ _ hk hz
                  · cases hk
                · refine k_tab (a := (6 : Int32)) (tgt := 344) (pc := 32) h dL_law_32 (by decide) (by decide) rfl rfl hk (fun hk => ?_) (fun q6 hk => ?_)
                  · refine k_aload_n (pc := 344) h 1 dL_law_344 rfl ?_
                    obtain ⟨p26, hc25, hk⟩ := bd_some hk
                    refine k_callV1 (pc := 345) h (c_X7_read hc25) cw_L_41 ly_0 rfl ⟨⟨by decide, by decide⟩, by decide, by decide⟩ rfl (Nat.le_of_ble_eq_true rfl) dL_law_345 ?_
                    refine k_aload_n (pc := 348) h 2 dL_law_348 rfl ?_
                    obtain ⟨p28, hc27, hk⟩ := bd_some hk
                    refine k_callV1 (pc := 349) h (c_X8_read hc27) cw_L_44 ly_46 rfl ⟨⟨by decide, by decide⟩, by decide, by decide⟩ rfl (Nat.le_of_ble_eq_true rfl) dL_law_349 ?_
                    refine k_icmp_eq (tgt := 924) (pc := 352) h dL_law_352 rfl hk (fun hc hk => ?_) (fun hc hk => ?_)
                    · exact EJ924 _ _ _ hk hz
                    · cases hk
                  · refine k_tab (a := (7 : Int32)) (tgt := 357) (pc := 32) h dL_law_32 (by decide) (by decide) rfl rfl hk (fun hk => ?_) (fun q7 hk => ?_)
                    · refine k_aload_n (pc := 357) h 1 dL_law_357 rfl ?_
                      refine k_aload_nR (pc := 358) h 0 dL_law_358 rfl ?_
                      refine k_iload_n (pc := 359) h 3 dL_law_359 rfl ?_
                      refine k_iconst (pc := 360) h (x := (1 : Int32)) dL_law_360 (by decide) ?_
                      refine k_iadd (pc := 361) h dL_law_361 ?_
                      refine k_sld (pc := 362) h dL_law_362 hk (fun hk => ?_)
                      refine k_aload_nR (pc := 363) h 0 dL_law_363 rfl ?_
                      refine k_iload_n (pc := 364) h 3 dL_law_364 rfl ?_
                      refine k_iconst (pc := 365) h (x := (2 : Int32)) dL_law_365 (by decide) ?_
                      refine k_iadd (pc := 366) h dL_law_366 ?_
                      refine k_sld (pc := 367) h dL_law_367 hk (fun hk => ?_)
                      obtain ⟨p30, hc29, hk⟩ := bd_some hk
                      refine k_callV1 (pc := 368) h (c_X7_ask hc29) cw_L_45 ly_0 rfl ⟨⟨by decide, by decide⟩, by decide, by decide⟩ rfl (Nat.le_of_ble_eq_true rfl) dL_law_368 ?_
                      refine k_aload_n (pc := 371) h 2 dL_law_371 rfl ?_
                      refine k_aload_nR (pc := 372) h 0 dL_law_372 rfl ?_
                      refine k_iload_n (pc := 373) h 3 dL_law_373 rfl ?_
                      refine k_iconst (pc := 374) h (x := (1 : Int32)) dL_law_374 (by decide) ?_
                      refine k_iadd (pc := 375) h dL_law_375 ?_
                      refine k_sld (pc := 376) h dL_law_376 hk (fun hk => ?_)
                      refine k_aload_nR (pc := 377) h 0 dL_law_377 rfl ?_
                      refine k_iload_n (pc := 378) h 3 dL_law_378 rfl ?_
                      refine k_iconst (pc := 379) h (x := (2 : Int32)) dL_law_379 (by decide) ?_
                      refine k_iadd (pc := 380) h dL_law_380 ?_
                      refine k_sld (pc := 381) h dL_law_381 hk (fun hk => ?_)
                      obtain ⟨p32, hc31, hk⟩ := bd_some hk
                      refine k_callV1 (pc := 382) h (c_X8_ask hc31) cw_L_48 ly_46 rfl ⟨⟨by decide, by decide⟩, by decide, by decide⟩ rfl (Nat.le_of_ble_eq_true rfl) dL_law_382 ?_
                      refine k_icmp_eq (tgt := 924) (pc := 385) h dL_law_385 rfl hk (fun hc hk => ?_) (fun hc hk => ?_)
                      · exact EJ924 _ _ _ hk hz
                      · cases hk
                    · refine k_tab (a := (8 : Int32)) (tgt := 390) (pc := 32) h dL_law_32 (by decide) (by decide) rfl rfl hk (fun hk => ?_) (fun q8 hk => ?_)
                      · refine k_aload_n (pc := 390) h 1 dL_law_390 rfl ?_
                        obtain ⟨p34, hc33, hk⟩ := bd_some hk
                        refine k_callV1 (pc := 391) h (c_X7_forget hc33) cw_L_49 ly_0 rfl ⟨⟨by decide, by decide⟩, by decide, by decide⟩ rfl (Nat.le_of_ble_eq_true rfl) dL_law_391 ?_
                        refine k_aload_n (pc := 394) h 2 dL_law_394 rfl ?_
                        obtain ⟨p36, hc35, hk⟩ := bd_some hk
                        refine k_callV1 (pc := 395) h (c_X8_forget hc35) cw_L_52 ly_46 rfl ⟨⟨by decide, by decide⟩, by decide, by decide⟩ rfl (Nat.le_of_ble_eq_true rfl) dL_law_395 ?_
                        refine k_icmp_eq (tgt := 924) (pc := 398) h dL_law_398 rfl hk (fun hc hk => ?_) (fun hc hk => ?_)
                        · exact EJ924 _ _ _ hk hz
                        · cases hk
                      · refine k_tab (a := (9 : Int32)) (tgt := 403) (pc := 32) h dL_law_32 (by decide) (by decide) rfl rfl hk (fun hk => ?_) (fun q9 hk => ?_)
                        · refine k_aload_n (pc := 403) h 1 dL_law_403 rfl ?_
                          obtain ⟨p38, hc37, hk⟩ := bd_some hk
                          refine k_callV1 (pc := 404) h (c_X7_undo hc37) cw_L_53 ly_0 rfl ⟨⟨by decide, by decide⟩, by decide, by decide⟩ rfl (Nat.le_of_ble_eq_true rfl) dL_law_404 ?_
                          refine k_aload_n (pc := 407) h 2 dL_law_407 rfl ?_
                          obtain ⟨p40, hc39, hk⟩ := bd_some hk
                          refine k_callV1 (pc := 408) h (c_X8_undo hc39) cw_L_56 ly_46 rfl ⟨⟨by decide, by decide⟩, by decide, by decide⟩ rfl (Nat.le_of_ble_eq_true rfl) dL_law_408 ?_
                          refine k_icmp_eq (tgt := 924) (pc := 411) h dL_law_411 rfl hk (fun hc hk => ?_) (fun hc hk => ?_)
                          · exact EJ924 _ _ _ hk hz
                          · cases hk
                        · refine k_tab (a := (10 : Int32)) (tgt := 416) (pc := 32) h dL_law_32 (by decide) (by decide) rfl rfl hk (fun hk => ?_) (fun q10 hk => ?_)
                          · refine k_aload_n (pc := 416) h 1 dL_law_416 rfl ?_
                            refine k_aload_nR (pc := 417) h 0 dL_law_417 rfl ?_
                            refine k_iload_n (pc := 418) h 3 dL_law_418 rfl ?_
                            refine k_iconst (pc := 419) h (x := (1 : Int32)) dL_law_419 (by decide) ?_
                            refine k_iadd (pc := 420) h dL_law_420 ?_
                            refine k_sld (pc := 421) h dL_law_421 hk (fun hk => ?_)
                            refine k_aload_nR (pc := 422) h 0 dL_law_422 rfl ?_
                            refine k_iload_n (pc := 423) h 3 dL_law_423 rfl ?_
                            refine k_iconst (pc := 424) h (x := (2 : Int32)) dL_law_424 (by decide) ?_
                            refine k_iadd (pc := 425) h dL_law_425 ?_
                            refine k_sld (pc := 426) h dL_law_426 hk (fun hk => ?_)
                            obtain ⟨p42, hc41, hk⟩ := bd_some hk
                            refine k_callV1 (pc := 427) h (c_X7_of hc41) cw_L_57 ly_0 rfl ⟨⟨by decide, by decide⟩, by decide, by decide⟩ rfl (Nat.le_of_ble_eq_true rfl) dL_law_427 ?_
                            refine k_aload_n (pc := 430) h 2 dL_law_430 rfl ?_
                            refine k_aload_nR (pc := 431) h 0 dL_law_431 rfl ?_
                            refine k_iload_n (pc := 432) h 3 dL_law_432 rfl ?_
                            refine k_iconst (pc := 433) h (x := (1 : Int32)) dL_law_433 (by decide) ?_
                            refine k_iadd (pc := 434) h dL_law_434 ?_
                            refine k_sld (pc := 435) h dL_law_435 hk (fun hk => ?_)
                            refine k_aload_nR (pc := 436) h 0 dL_law_436 rfl ?_
                            refine k_iload_n (pc := 437) h 3 dL_law_437 rfl ?_
                            refine k_iconst (pc := 438) h (x := (2 : Int32)) dL_law_438 (by decide) ?_
                            refine k_iadd (pc := 439) h dL_law_439 ?_
                            refine k_sld (pc := 440) h dL_law_440 hk (fun hk => ?_)
                            obtain ⟨p44, hc43, hk⟩ := bd_some hk
                            refine k_callV1 (pc := 441) h (c_X8_of hc43) cw_L_60 ly_46 rfl ⟨⟨by decide, by decide⟩, by decide, by decide⟩ rfl (Nat.le_of_ble_eq_true rfl) dL_law_441 ?_
                            refine k_icmp_eq (tgt := 924) (pc := 444) h dL_law_444 rfl hk (fun hc hk => ?_) (fun hc hk => ?_)
                            · exact EJ924 _ _ _ hk hz
                            · cases hk
                          · refine k_tab (a := (11 : Int32)) (tgt := 449) (pc := 32) h dL_law_32 (by decide) (by decide) rfl rfl hk (fun hk => ?_) (fun q11 hk => ?_)
                            · refine k_aload_n (pc := 449) h 1 dL_law_449 rfl ?_
                              refine k_aload_nR (pc := 450) h 0 dL_law_450 rfl ?_
                              refine k_iload_n (pc := 451) h 3 dL_law_451 rfl ?_
                              refine k_iconst (pc := 452) h (x := (1 : Int32)) dL_law_452 (by decide) ?_
                              refine k_iadd (pc := 453) h dL_law_453 ?_
                              refine k_sld (pc := 454) h dL_law_454 hk (fun hk => ?_)
                              refine k_aload_nR (pc := 455) h 0 dL_law_455 rfl ?_
                              refine k_iload_n (pc := 456) h 3 dL_law_456 rfl ?_
                              refine k_iconst (pc := 457) h (x := (2 : Int32)) dL_law_457 (by decide) ?_
                              refine k_iadd (pc := 458) h dL_law_458 ?_
                              refine k_sld (pc := 459) h dL_law_459 hk (fun hk => ?_)
                              obtain ⟨p46, hc45, hk⟩ := bd_some hk
                              refine k_callV1 (pc := 460) h (c_X7_answer hc45) cw_L_61 ly_0 rfl ⟨⟨by decide, by decide⟩, by decide, by decide⟩ rfl (Nat.le_of_ble_eq_true rfl) dL_law_460 ?_
                              refine k_aload_n (pc := 463) h 2 dL_law_463 rfl ?_
                              refine k_aload_nR (pc := 464) h 0 dL_law_464 rfl ?_
                              refine k_iload_n (pc := 465) h 3 dL_law_465 rfl ?_
                              refine k_iconst (pc := 466) h (x := (1 : Int32)) dL_law_466 (by decide) ?_
                              refine k_iadd (pc := 467) h dL_law_467 ?_
                              refine k_sld (pc := 468) h dL_law_468 hk (fun hk => ?_)
                              refine k_aload_nR (pc := 469) h 0 dL_law_469 rfl ?_
                              refine k_iload_n (pc := 470) h 3 dL_law_470 rfl ?_
                              refine k_iconst (pc := 471) h (x := (2 : Int32)) dL_law_471 (by decide) ?_
                              refine k_iadd (pc := 472) h dL_law_472 ?_
                              refine k_sld (pc := 473) h dL_law_473 hk (fun hk => ?_)
                              obtain ⟨p48, hc47, hk⟩ := bd_some hk
                              refine k_callV1 (pc := 474) h (c_X8_answer hc47) cw_L_64 ly_46 rfl ⟨⟨by decide, by decide⟩, by decide, by decide⟩ rfl (Nat.le_of_ble_eq_true rfl) dL_law_474 ?_
                              refine k_icmp_eq (tgt := 924) (pc := 477) h dL_law_477 rfl hk (fun hc hk => ?_) (fun hc hk => ?_)
                              · exact EJ924 _ _ _ hk hz
                              · cases hk
                            · refine k_tab (a := (12 : Int32)) (tgt := 482) (pc := 32) h dL_law_32 (by decide) (by decide) rfl rfl hk (fun hk => ?_) (fun q12 hk => ?_)
                              · refine k_aload_n (pc := 482) h 1 dL_law_482 rfl ?_
                                obtain ⟨p50, hc49, hk⟩ := bd_some hk
                                refine k_callV1 (pc := 483) h (c_X7_left hc49) cw_L_65 ly_0 rfl ⟨⟨by decide, by decide⟩, by decide, by decide⟩ rfl (Nat.le_of_ble_eq_true rfl) dL_law_483 ?_
                                refine k_aload_n (pc := 486) h 2 dL_law_486 rfl ?_
                                obtain ⟨p52, hc51, hk⟩ := bd_some hk
                                refine k_callV1 (pc := 487) h (c_X8_left hc51) cw_L_68 ly_46 rfl ⟨⟨by decide, by decide⟩, by decide, by decide⟩ rfl (Nat.le_of_ble_eq_true rfl) dL_law_487 ?_
                                refine k_icmp_eq (tgt := 924) (pc := 490) h dL_law_490 rfl hk (fun hc hk => ?_) (fun hc hk => ?_)
                                · exact EJ924 _ _ _ hk hz
                                · cases hk
                              · refine k_tab (a := (13 : Int32)) (tgt := 495) (pc := 32) h dL_law_32 (by decide) (by decide) rfl rfl hk (fun hk => ?_) (fun q13 hk => ?_)
                                · refine k_aload_n (pc := 495) h 1 dL_law_495 rfl ?_
                                  refine k_aload_nR (pc := 496) h 0 dL_law_496 rfl ?_
                                  refine k_iload_n (pc := 497) h 3 dL_law_497 rfl ?_
                                  refine k_iconst (pc := 498) h (x := (1 : Int32)) dL_law_498 (by decide) ?_
                                  refine k_iadd (pc := 499) h dL_law_499 ?_
                                  refine k_sld (pc := 500) h dL_law_500 hk (fun hk => ?_)
                                  refine k_aload_nR (pc := 501) h 0 dL_law_501 rfl ?_
                                  refine k_iload_n (pc := 502) h 3 dL_law_502 rfl ?_
                                  refine k_iconst (pc := 503) h (x := (2 : Int32)) dL_law_503 (by decide) ?_
                                  refine k_iadd (pc := 504) h dL_law_504 ?_
                                  refine k_sld (pc := 505) h dL_law_505 hk (fun hk => ?_)
                                  obtain ⟨p54, hc53, hk⟩ := bd_some hk
                                  refine k_callV1 (pc := 506) h (c_X7_cuts hc53) cw_L_69 ly_0 rfl ⟨⟨by decide, by decide⟩, by decide, by decide⟩ rfl (Nat.le_of_ble_eq_true rfl) dL_law_506 ?_
                                  refine k_aload_n (pc := 509) h 2 dL_law_509 rfl ?_
                                  refine k_aload_nR (pc := 510) h 0 dL_law_510 rfl ?_
                                  refine k_iload_n (pc := 511) h 3 dL_law_511 rfl ?_
                                  refine k_iconst (pc := 512) h (x := (1 : Int32)) dL_law_512 (by decide) ?_
                                  refine k_iadd (pc := 513) h dL_law_513 ?_
                                  refine k_sld (pc := 514) h dL_law_514 hk (fun hk => ?_)
                                  refine k_aload_nR (pc := 515) h 0 dL_law_515 rfl ?_
                                  refine k_iload_n (pc := 516) h 3 dL_law_516 rfl ?_
                                  refine k_iconst (pc := 517) h (x := (2 : Int32)) dL_law_517 (by decide) ?_
                                  refine k_iadd (pc := 518) h dL_law_518 ?_
                                  refine k_sld (pc := 519) h dL_law_519 hk (fun hk => ?_)
                                  obtain ⟨p56, hc55, hk⟩ := bd_some hk
                                  refine k_callV1 (pc := 520) h (c_X8_cuts hc55) cw_L_72 ly_46 rfl ⟨⟨by decide, by decide⟩, by decide, by decide⟩ rfl (Nat.le_of_ble_eq_true rfl) dL_law_520 ?_
                                  refine k_icmp_eq (tgt := 924) (pc := 523) h dL_law_523 rfl hk (fun hc hk => ?_) (fun hc hk => ?_)
                                  · exact EJ924 _ _ _ hk hz
                                  · cases hk
                                · refine k_tab (a := (14 : Int32)) (tgt := 528) (pc := 32) h dL_law_32 (by decide) (by decide) rfl rfl hk (fun hk => ?_) (fun q14 hk => ?_)
                                  · refine k_aload_n (pc := 528) h 1 dL_law_528 rfl ?_
                                    obtain ⟨p58, hc57, hk⟩ := bd_some hk
                                    refine k_callV1 (pc := 529) h (c_X7_empty hc57) cw_L_73 ly_0 rfl ⟨⟨by decide, by decide⟩, by decide, by decide⟩ rfl (Nat.le_of_ble_eq_true rfl) dL_law_529 ?_
                                    refine k_aload_n (pc := 532) h 2 dL_law_532 rfl ?_
                                    obtain ⟨p60, hc59, hk⟩ := bd_some hk
                                    refine k_callV1 (pc := 533) h (c_X8_empty hc59) cw_L_76 ly_46 rfl ⟨⟨by decide, by decide⟩, by decide, by decide⟩ rfl (Nat.le_of_ble_eq_true rfl) dL_law_533 ?_
                                    refine k_icmp_eq (tgt := 924) (pc := 536) h dL_law_536 rfl hk (fun hc hk => ?_) (fun hc hk => ?_)
                                    · exact EJ924 _ _ _ hk hz
                                    · cases hk
                                  · refine k_tab (a := (15 : Int32)) (tgt := 541) (pc := 32) h dL_law_32 (by decide) (by decide) rfl rfl hk (fun hk => ?_) (fun q15 hk => ?_)
                                    · refine k_aload_n (pc := 541) h 1 dL_law_541 rfl ?_
                                      refine k_aload_nR (pc := 542) h 0 dL_law_542 rfl ?_
                                      refine k_iload_n (pc := 543) h 3 dL_law_543 rfl ?_
                                      refine k_iconst (pc := 544) h (x := (1 : Int32)) dL_law_544 (by decide) ?_
                                      refine k_iadd (pc := 545) h dL_law_545 ?_
                                      refine k_sld (pc := 546) h dL_law_546 hk (fun hk => ?_)
                                      obtain ⟨p62, hc61, hk⟩ := bd_some hk
                                      refine k_callV1 (pc := 547) h (c_X7_same hc61) cw_L_77 ly_0 rfl ⟨⟨by decide, by decide⟩, by decide, by decide⟩ rfl (Nat.le_of_ble_eq_true rfl) dL_law_547 ?_
                                      refine k_aload_n (pc := 550) h 2 dL_law_550 rfl ?_
                                      refine k_aload_nR (pc := 551) h 0 dL_law_551 rfl ?_
                                      refine k_iload_n (pc := 552) h 3 dL_law_552 rfl ?_
                                      refine k_iconst (pc := 553) h (x := (1 : Int32)) dL_law_553 (by decide) ?_
                                      refine k_iadd (pc := 554) h dL_law_554 ?_
                                      refine k_sld (pc := 555) h dL_law_555 hk (fun hk => ?_)
                                      obtain ⟨p64, hc63, hk⟩ := bd_some hk
                                      refine k_callV1 (pc := 556) h (c_X8_same hc63) cw_L_80 ly_46 rfl ⟨⟨by decide, by decide⟩, by decide, by decide⟩ rfl (Nat.le_of_ble_eq_true rfl) dL_law_556 ?_
                                      refine k_icmp_eq (tgt := 924) (pc := 559) h dL_law_559 rfl hk (fun hc hk => ?_) (fun hc hk => ?_)
                                      · exact EJ924 _ _ _ hk hz
                                      · cases hk
                                    · refine k_tab (a := (16 : Int32)) (tgt := 564) (pc := 32) h dL_law_32 (by decide) (by decide) rfl rfl hk (fun hk => ?_) (fun q16 hk => ?_)
                                      · refine k_aload_n (pc := 564) h 1 dL_law_564 rfl ?_
                                        obtain ⟨p66, hc65, hk⟩ := bd_some hk
                                        refine k_callV1 (pc := 565) h (c_X7_best hc65) cw_L_81 ly_0 rfl ⟨⟨by decide, by decide⟩, by decide, by decide⟩ rfl (Nat.le_of_ble_eq_true rfl) dL_law_565 ?_
                                        refine k_aload_n (pc := 568) h 2 dL_law_568 rfl ?_
                                        obtain ⟨p68, hc67, hk⟩ := bd_some hk
                                        refine k_callV1 (pc := 569) h (c_X8_best hc67) cw_L_84 ly_46 rfl ⟨⟨by decide, by decide⟩, by decide, by decide⟩ rfl (Nat.le_of_ble_eq_true rfl) dL_law_569 ?_
                                        refine k_icmp_eq (tgt := 924) (pc := 572) h dL_law_572 rfl hk (fun hc hk => ?_) (fun hc hk => ?_)
                                        · exact EJ924 _ _ _ hk hz
                                        · cases hk
                                      · refine k_tab (a := (17 : Int32)) (tgt := 577) (pc := 32) h dL_law_32 (by decide) (by decide) rfl rfl hk (fun hk => ?_) (fun q17 hk => ?_)
                                        · refine k_aload_n (pc := 577) h 1 dL_law_577 rfl ?_
                                          refine k_aload_nR (pc := 578) h 0 dL_law_578 rfl ?_
                                          refine k_iload_n (pc := 579) h 3 dL_law_579 rfl ?_
                                          refine k_iconst (pc := 580) h (x := (1 : Int32)) dL_law_580 (by decide) ?_
                                          refine k_iadd (pc := 581) h dL_law_581 ?_
                                          refine k_sld (pc := 582) h dL_law_582 hk (fun hk => ?_)
                                          obtain ⟨p70, hc69, hk⟩ := bd_some hk
                                          refine k_callV1 (pc := 583) h (c_X7_atOnce hc69) cw_L_85 ly_0 rfl ⟨⟨by decide, by decide⟩, by decide, by decide⟩ rfl (Nat.le_of_ble_eq_true rfl) dL_law_583 ?_
                                          refine k_aload_n (pc := 586) h 2 dL_law_586 rfl ?_
                                          refine k_aload_nR (pc := 587) h 0 dL_law_587 rfl ?_
                                          refine k_iload_n (pc := 588) h 3 dL_law_588 rfl ?_
                                          refine k_iconst (pc := 589) h (x := (1 : Int32)) dL_law_589 (by decide) ?_
                                          refine k_iadd (pc := 590) h dL_law_590 ?_
                                          refine k_sld (pc := 591) h dL_law_591 hk (fun hk => ?_)
                                          obtain ⟨p72, hc71, hk⟩ := bd_some hk
                                          refine k_callV1 (pc := 592) h (c_X8_atOnce hc71) cw_L_88 ly_46 rfl ⟨⟨by decide, by decide⟩, by decide, by decide⟩ rfl (Nat.le_of_ble_eq_true rfl) dL_law_592 ?_
                                          refine k_icmp_eq (tgt := 924) (pc := 595) h dL_law_595 rfl hk (fun hc hk => ?_) (fun hc hk => ?_)
                                          · exact EJ924 _ _ _ hk hz
                                          · cases hk
                                        · refine k_tab (a := (18 : Int32)) (tgt := 600) (pc := 32) h dL_law_32 (by decide) (by decide) rfl rfl hk (fun hk => ?_) (fun q18 hk => ?_)
                                          · refine k_aload_n (pc := 600) h 1 dL_law_600 rfl ?_
                                            refine k_aload_nR (pc := 601) h 0 dL_law_601 rfl ?_
                                            refine k_iload_n (pc := 602) h 3 dL_law_602 rfl ?_
                                            refine k_iconst (pc := 603) h (x := (1 : Int32)) dL_law_603 (by decide) ?_
                                            refine k_iadd (pc := 604) h dL_law_604 ?_
                                            refine k_sld (pc := 605) h dL_law_605 hk (fun hk => ?_)
                                            obtain ⟨p74, hc73, hk⟩ := bd_some hk
                                            refine k_callV1 (pc := 606) h (c_X7_oneByOne hc73) cw_L_89 ly_0 rfl ⟨⟨by decide, by decide⟩, by decide, by decide⟩ rfl (Nat.le_of_ble_eq_true rfl) dL_law_606 ?_
                                            refine k_aload_n (pc := 609) h 2 dL_law_609 rfl ?_
                                            refine k_aload_nR (pc := 610) h 0 dL_law_610 rfl ?_
                                            refine k_iload_n (pc := 611) h 3 dL_law_611 rfl ?_
                                            refine k_iconst (pc := 612) h (x := (1 : Int32)) dL_law_612 (by decide) ?_
                                            refine k_iadd (pc := 613) h dL_law_613 ?_
                                            refine k_sld (pc := 614) h dL_law_614 hk (fun hk => ?_)
                                            obtain ⟨p76, hc75, hk⟩ := bd_some hk
                                            refine k_callV1 (pc := 615) h (c_X8_oneByOne hc75) cw_L_92 ly_46 rfl ⟨⟨by decide, by decide⟩, by decide, by decide⟩ rfl (Nat.le_of_ble_eq_true rfl) dL_law_615 ?_
                                            refine k_icmp_eq (tgt := 924) (pc := 618) h dL_law_618 rfl hk (fun hc hk => ?_) (fun hc hk => ?_)
                                            · exact EJ924 _ _ _ hk hz
                                            · cases hk
                                          · refine k_tab (a := (19 : Int32)) (tgt := 623) (pc := 32) h dL_law_32 (by decide) (by decide) rfl rfl hk (fun hk => ?_) (fun q19 hk => ?_)
                                            · refine k_aload_n (pc := 623) h 1 dL_law_623 rfl ?_
                                              obtain ⟨p78, hc77, hk⟩ := bd_some hk
                                              refine k_callV1 (pc := 624) h (c_X7_oneWrong hc77) cw_L_93 ly_0 rfl ⟨⟨by decide, by decide⟩, by decide, by decide⟩ rfl (Nat.le_of_ble_eq_true rfl) dL_law_624 ?_
                                              refine k_aload_n (pc := 627) h 2 dL_law_627 rfl ?_
                                              obtain ⟨p80, hc79, hk⟩ := bd_some hk
                                              refine k_callV1 (pc := 628) h (c_X8_oneWrong hc79) cw_L_96 ly_46 rfl ⟨⟨by decide, by decide⟩, by decide, by decide⟩ rfl (Nat.le_of_ble_eq_true rfl) dL_law_628 ?_
                                              refine k_icmp_eq (tgt := 924) (pc := 631) h dL_law_631 rfl hk (fun hc hk => ?_) (fun hc hk => ?_)
                                              · exact EJ924 _ _ _ hk hz
                                              · cases hk
                                            · refine k_tab (a := (20 : Int32)) (tgt := 636) (pc := 32) h dL_law_32 (by decide) (by decide) rfl rfl hk (fun hk => ?_) (fun q20 hk => ?_)
                                              · refine k_aload_n (pc := 636) h 1 dL_law_636 rfl ?_
                                                refine k_aload_nR (pc := 637) h 0 dL_law_637 rfl ?_
                                                refine k_iload_n (pc := 638) h 3 dL_law_638 rfl ?_
                                                refine k_iconst (pc := 639) h (x := (1 : Int32)) dL_law_639 (by decide) ?_
                                                refine k_iadd (pc := 640) h dL_law_640 ?_
                                                refine k_sld (pc := 641) h dL_law_641 hk (fun hk => ?_)
                                                refine k_aload_nR (pc := 642) h 0 dL_law_642 rfl ?_
                                                refine k_iload_n (pc := 643) h 3 dL_law_643 rfl ?_
                                                refine k_iconst (pc := 644) h (x := (2 : Int32)) dL_law_644 (by decide) ?_
                                                refine k_iadd (pc := 645) h dL_law_645 ?_
                                                refine k_sld (pc := 646) h dL_law_646 hk (fun hk => ?_)
                                                refine k_aload_nR (pc := 647) h 0 dL_law_647 rfl ?_
                                                refine k_iload_n (pc := 648) h 3 dL_law_648 rfl ?_
                                                refine k_iconst (pc := 649) h (x := (3 : Int32)) dL_law_649 (by decide) ?_
                                                refine k_iadd (pc := 650) h dL_law_650 ?_
                                                refine k_sld (pc := 651) h dL_law_651 hk (fun hk => ?_)
                                                obtain ⟨p82, hc81, hk⟩ := bd_some hk
                                                refine k_callV1 (pc := 652) h (c_X7_knows hc81) cw_L_97 ly_0 rfl ⟨⟨by decide, by decide⟩, by decide, by decide⟩ rfl (Nat.le_of_ble_eq_true rfl) dL_law_652 ?_
                                                refine k_aload_n (pc := 655) h 2 dL_law_655 rfl ?_
                                                refine k_aload_nR (pc := 656) h 0 dL_law_656 rfl ?_
                                                refine k_iload_n (pc := 657) h 3 dL_law_657 rfl ?_
                                                refine k_iconst (pc := 658) h (x := (1 : Int32)) dL_law_658 (by decide) ?_
                                                refine k_iadd (pc := 659) h dL_law_659 ?_
                                                refine k_sld (pc := 660) h dL_law_660 hk (fun hk => ?_)
                                                refine k_aload_nR (pc := 661) h 0 dL_law_661 rfl ?_
                                                refine k_iload_n (pc := 662) h 3 dL_law_662 rfl ?_
                                                refine k_iconst (pc := 663) h (x := (2 : Int32)) dL_law_663 (by decide) ?_
                                                refine k_iadd (pc := 664) h dL_law_664 ?_
                                                refine k_sld (pc := 665) h dL_law_665 hk (fun hk => ?_)
                                                refine k_aload_nR (pc := 666) h 0 dL_law_666 rfl ?_
                                                refine k_iload_n (pc := 667) h 3 dL_law_667 rfl ?_
                                                refine k_iconst (pc := 668) h (x := (3 : Int32)) dL_law_668 (by decide) ?_
                                                refine k_iadd (pc := 669) h dL_law_669 ?_
                                                refine k_sld (pc := 670) h dL_law_670 hk (fun hk => ?_)
                                                obtain ⟨p84, hc83, hk⟩ := bd_some hk
                                                refine k_callV1 (pc := 671) h (c_X8_knows hc83) cw_L_100 ly_46 rfl ⟨⟨by decide, by decide⟩, by decide, by decide⟩ rfl (Nat.le_of_ble_eq_true rfl) dL_law_671 ?_
                                                refine k_icmp_eq (tgt := 924) (pc := 674) h dL_law_674 rfl hk (fun hc hk => ?_) (fun hc hk => ?_)
                                                · exact EJ924 _ _ _ hk hz
                                                · cases hk
                                              · refine k_tab (a := (21 : Int32)) (tgt := 679) (pc := 32) h dL_law_32 (by decide) (by decide) rfl rfl hk (fun hk => ?_) (fun q21 hk => ?_)
                                                · refine k_aload_n (pc := 679) h 1 dL_law_679 rfl ?_
                                                  refine k_aload_nR (pc := 680) h 0 dL_law_680 rfl ?_
                                                  refine k_iload_n (pc := 681) h 3 dL_law_681 rfl ?_
                                                  refine k_iconst (pc := 682) h (x := (1 : Int32)) dL_law_682 (by decide) ?_
                                                  refine k_iadd (pc := 683) h dL_law_683 ?_
                                                  refine k_sld (pc := 684) h dL_law_684 hk (fun hk => ?_)
                                                  obtain ⟨p86, hc85, hk⟩ := bd_some hk
                                                  refine k_callV1 (pc := 685) h (c_X7_parted hc85) cw_L_101 ly_0 rfl ⟨⟨by decide, by decide⟩, by decide, by decide⟩ rfl (Nat.le_of_ble_eq_true rfl) dL_law_685 ?_
                                                  refine k_aload_n (pc := 688) h 2 dL_law_688 rfl ?_
                                                  refine k_aload_nR (pc := 689) h 0 dL_law_689 rfl ?_
                                                  refine k_iload_n (pc := 690) h 3 dL_law_690 rfl ?_
                                                  refine k_iconst (pc := 691) h (x := (1 : Int32)) dL_law_691 (by decide) ?_
                                                  refine k_iadd (pc := 692) h dL_law_692 ?_
                                                  refine k_sld (pc := 693) h dL_law_693 hk (fun hk => ?_)
                                                  obtain ⟨p88, hc87, hk⟩ := bd_some hk
                                                  refine k_callV1 (pc := 694) h (c_X8_parted hc87) cw_L_104 ly_46 rfl ⟨⟨by decide, by decide⟩, by decide, by decide⟩ rfl (Nat.le_of_ble_eq_true rfl) dL_law_694 ?_
                                                  refine k_icmp_eq (tgt := 924) (pc := 697) h dL_law_697 rfl hk (fun hc hk => ?_) (fun hc hk => ?_)
                                                  · exact EJ924 _ _ _ hk hz
                                                  · cases hk
                                                · refine k_tab (a := (22 : Int32)) (tgt := 702) (pc := 32) h dL_law_32 (by decide) (by decide) rfl rfl hk (fun hk => ?_) (fun q22 hk => ?_)
                                                  · refine k_aload_n (pc := 702) h 1 dL_law_702 rfl ?_
                                                    refine k_aload_nR (pc := 703) h 0 dL_law_703 rfl ?_
                                                    refine k_iload_n (pc := 704) h 3 dL_law_704 rfl ?_
                                                    refine k_iconst (pc := 705) h (x := (1 : Int32)) dL_law_705 (by decide) ?_
                                                    refine k_iadd (pc := 706) h dL_law_706 ?_
                                                    refine k_sld (pc := 707) h dL_law_707 hk (fun hk => ?_)
                                                    obtain ⟨p90, hc89, hk⟩ := bd_some hk
                                                    refine k_callV1 (pc := 708) h (c_X7_row hc89) cw_L_105 ly_0 rfl ⟨⟨by decide, by decide⟩, by decide, by decide⟩ rfl (Nat.le_of_ble_eq_true rfl) dL_law_708 ?_
                                                    refine k_aload_n (pc := 711) h 2 dL_law_711 rfl ?_
                                                    refine k_aload_nR (pc := 712) h 0 dL_law_712 rfl ?_
                                                    refine k_iload_n (pc := 713) h 3 dL_law_713 rfl ?_
                                                    refine k_iconst (pc := 714) h (x := (1 : Int32)) dL_law_714 (by decide) ?_
                                                    refine k_iadd (pc := 715) h dL_law_715 ?_
                                                    refine k_sld (pc := 716) h dL_law_716 hk (fun hk => ?_)
                                                    obtain ⟨p92, hc91, hk⟩ := bd_some hk
                                                    refine k_callV1 (pc := 717) h (c_X8_row hc91) cw_L_108 ly_46 rfl ⟨⟨by decide, by decide⟩, by decide, by decide⟩ rfl (Nat.le_of_ble_eq_true rfl) dL_law_717 ?_
                                                    refine k_icmp_eq (tgt := 924) (pc := 720) h dL_law_720 rfl hk (fun hc hk => ?_) (fun hc hk => ?_)
                                                    · exact EJ924 _ _ _ hk hz
                                                    · cases hk
                                                  · refine k_tab (a := (23 : Int32)) (tgt := 725) (pc := 32) h dL_law_32 (by decide) (by decide) rfl rfl hk (fun hk => ?_) (fun q23 hk => ?_)
                                                    · refine k_aload_n (pc := 725) h 1 dL_law_725 rfl ?_
                                                      obtain ⟨p94, hc93, hk⟩ := bd_some hk
                                                      refine k_callV1 (pc := 726) h (c_X7_bestRow hc93) cw_L_109 ly_0 rfl ⟨⟨by decide, by decide⟩, by decide, by decide⟩ rfl (Nat.le_of_ble_eq_true rfl) dL_law_726 ?_
                                                      refine k_aload_n (pc := 729) h 2 dL_law_729 rfl ?_
                                                      obtain ⟨p96, hc95, hk⟩ := bd_some hk
                                                      refine k_callV1 (pc := 730) h (c_X8_bestRow hc95) cw_L_112 ly_46 rfl ⟨⟨by decide, by decide⟩, by decide, by decide⟩ rfl (Nat.le_of_ble_eq_true rfl) dL_law_730 ?_
                                                      refine k_icmp_eq (tgt := 924) (pc := 733) h dL_law_733 rfl hk (fun hc hk => ?_) (fun hc hk => ?_)
                                                      · exact EJ924 _ _ _ hk hz
                                                      · cases hk
                                                    · refine k_tab (a := (24 : Int32)) (tgt := 738) (pc := 32) h dL_law_32 (by decide) (by decide) rfl rfl hk (fun hk => ?_) (fun q24 hk => ?_)
                                                      · refine k_aload_n (pc := 738) h 1 dL_law_738 rfl ?_
                                                        refine k_aload_nR (pc := 739) h 0 dL_law_739 rfl ?_
                                                        refine k_iload_n (pc := 740) h 3 dL_law_740 rfl ?_
                                                        refine k_iconst (pc := 741) h (x := (1 : Int32)) dL_law_741 (by decide) ?_
                                                        refine k_iadd (pc := 742) h dL_law_742 ?_
                                                        refine k_sld (pc := 743) h dL_law_743 hk (fun hk => ?_)
                                                        obtain ⟨p98, hc97, hk⟩ := bd_some hk
                                                        refine k_callV1 (pc := 744) h (c_X7_haggle hc97) cw_L_113 ly_0 rfl ⟨⟨by decide, by decide⟩, by decide, by decide⟩ rfl (Nat.le_of_ble_eq_true rfl) dL_law_744 ?_
                                                        refine k_aload_n (pc := 747) h 2 dL_law_747 rfl ?_
                                                        refine k_aload_nR (pc := 748) h 0 dL_law_748 rfl ?_
                                                        refine k_iload_n (pc := 749) h 3 dL_law_749 rfl ?_
                                                        refine k_iconst (pc := 750) h (x := (1 : Int32)) dL_law_750 (by decide) ?_
                                                        refine k_iadd (pc := 751) h dL_law_751 ?_
                                                        refine k_sld (pc := 752) h dL_law_752 hk (fun hk => ?_)
                                                        obtain ⟨p100, hc99, hk⟩ := bd_some hk
                                                        refine k_callV1 (pc := 753) h (c_X8_haggle hc99) cw_L_116 ly_46 rfl ⟨⟨by decide, by decide⟩, by decide, by decide⟩ rfl (Nat.le_of_ble_eq_true rfl) dL_law_753 ?_
                                                        refine k_icmp_eq (tgt := 924) (pc := 756) h dL_law_756 rfl hk (fun hc hk => ?_) (fun hc hk => ?_)
                                                        · exact EJ924 _ _ _ hk hz
                                                        · cases hk
                                                      · refine k_tab (a := (25 : Int32)) (tgt := 761) (pc := 32) h dL_law_32 (by decide) (by decide) rfl rfl hk (fun hk => ?_) (fun q25 hk => ?_)
                                                        · refine k_aload_n (pc := 761) h 1 dL_law_761 rfl ?_
                                                          refine k_aload_nR (pc := 762) h 0 dL_law_762 rfl ?_
                                                          refine k_iload_n (pc := 763) h 3 dL_law_763 rfl ?_
                                                          refine k_iconst (pc := 764) h (x := (1 : Int32)) dL_law_764 (by decide) ?_
                                                          refine k_iadd (pc := 765) h dL_law_765 ?_
                                                          refine k_sld (pc := 766) h dL_law_766 hk (fun hk => ?_)
                                                          refine k_aload_nR (pc := 767) h 0 dL_law_767 rfl ?_
                                                          refine k_iload_n (pc := 768) h 3 dL_law_768 rfl ?_
                                                          refine k_iconst (pc := 769) h (x := (2 : Int32)) dL_law_769 (by decide) ?_
                                                          refine k_iadd (pc := 770) h dL_law_770 ?_
                                                          refine k_sld (pc := 771) h dL_law_771 hk (fun hk => ?_)
                                                          obtain ⟨p102, hc101, hk⟩ := bd_some hk
                                                          refine k_callV1 (pc := 772) h (c_X7_stalls hc101) cw_L_117 ly_0 rfl ⟨⟨by decide, by decide⟩, by decide, by decide⟩ rfl (Nat.le_of_ble_eq_true rfl) dL_law_772 ?_
                                                          refine k_aload_n (pc := 775) h 2 dL_law_775 rfl ?_
                                                          refine k_aload_nR (pc := 776) h 0 dL_law_776 rfl ?_
                                                          refine k_iload_n (pc := 777) h 3 dL_law_777 rfl ?_
                                                          refine k_iconst (pc := 778) h (x := (1 : Int32)) dL_law_778 (by decide) ?_
                                                          refine k_iadd (pc := 779) h dL_law_779 ?_
                                                          refine k_sld (pc := 780) h dL_law_780 hk (fun hk => ?_)
                                                          refine k_aload_nR (pc := 781) h 0 dL_law_781 rfl ?_
                                                          refine k_iload_n (pc := 782) h 3 dL_law_782 rfl ?_
                                                          refine k_iconst (pc := 783) h (x := (2 : Int32)) dL_law_783 (by decide) ?_
                                                          refine k_iadd (pc := 784) h dL_law_784 ?_
                                                          refine k_sld (pc := 785) h dL_law_785 hk (fun hk => ?_)
                                                          obtain ⟨p104, hc103, hk⟩ := bd_some hk
                                                          refine k_callV1 (pc := 786) h (c_X8_stalls hc103) cw_L_120 ly_46 rfl ⟨⟨by decide, by decide⟩, by decide, by decide⟩ rfl (Nat.le_of_ble_eq_true rfl) dL_law_786 ?_
                                                          refine k_icmp_eq (tgt := 924) (pc := 789) h dL_law_789 rfl hk (fun hc hk => ?_) (fun hc hk => ?_)
                                                          · exact EJ924 _ _ _ hk hz
                                                          · cases hk
                                                        · refine k_tab (a := (26 : Int32)) (tgt := 794) (pc := 32) h dL_law_32 (by decide) (by decide) rfl rfl hk (fun hk => ?_) (fun q26 hk => ?_)
                                                          · refine k_aload_n (pc := 794) h 1 dL_law_794 rfl ?_
                                                            refine k_aload_nR (pc := 795) h 0 dL_law_795 rfl ?_
                                                            refine k_iload_n (pc := 796) h 3 dL_law_796 rfl ?_
                                                            refine k_iconst (pc := 797) h (x := (1 : Int32)) dL_law_797 (by decide) ?_
                                                            refine k_iadd (pc := 798) h dL_law_798 ?_
                                                            refine k_sld (pc := 799) h dL_law_799 hk (fun hk => ?_)
                                                            obtain ⟨p106, hc105, hk⟩ := bd_some hk
                                                            refine k_callV1 (pc := 800) h (c_X7_part hc105) cw_L_121 ly_0 rfl ⟨⟨by decide, by decide⟩, by decide, by decide⟩ rfl (Nat.le_of_ble_eq_true rfl) dL_law_800 ?_
                                                            refine k_aload_n (pc := 803) h 2 dL_law_803 rfl ?_
                                                            refine k_aload_nR (pc := 804) h 0 dL_law_804 rfl ?_
                                                            refine k_iload_n (pc := 805) h 3 dL_law_805 rfl ?_
                                                            refine k_iconst (pc := 806) h (x := (1 : Int32)) dL_law_806 (by decide) ?_
                                                            refine k_iadd (pc := 807) h dL_law_807 ?_
                                                            refine k_sld (pc := 808) h dL_law_808 hk (fun hk => ?_)
                                                            obtain ⟨p108, hc107, hk⟩ := bd_some hk
                                                            refine k_callV1 (pc := 809) h (c_X8_part hc107) cw_L_125 ly_46 rfl ⟨⟨by decide, by decide⟩, by decide, by decide⟩ rfl (Nat.le_of_ble_eq_true rfl) dL_law_809 ?_
                                                            refine k_lcmp (pc := 812) h dL_law_812 ?_
                                                            refine k_if_eq (tgt := 924) (pc := 813) h dL_law_813 rfl hk (fun hc hk => ?_) (fun hc hk => ?_)
                                                            · exact EJ924 _ _ _ hk hz
                                                            · cases hk
                                                          · refine k_tab (a := (27 : Int32)) (tgt := 818) (pc := 32) h dL_law_32 (by decide) (by decide) rfl rfl hk (fun hk => ?_) (fun q27 hk => ?_)
                                                            · refine k_aload_n (pc := 818) h 1 dL_law_818 rfl ?_
                                                              refine k_aload_nR (pc := 819) h 0 dL_law_819 rfl ?_
                                                              refine k_iload_n (pc := 820) h 3 dL_law_820 rfl ?_
                                                              refine k_iconst (pc := 821) h (x := (1 : Int32)) dL_law_821 (by decide) ?_
                                                              refine k_iadd (pc := 822) h dL_law_822 ?_
                                                              refine k_sld (pc := 823) h dL_law_823 hk (fun hk => ?_)
                                                              obtain ⟨p110, hc109, hk⟩ := bd_some hk
                                                              refine k_callV1 (pc := 824) h (c_X7_image hc109) cw_L_126 ly_0 rfl ⟨⟨by decide, by decide⟩, by decide, by decide⟩ rfl (Nat.le_of_ble_eq_true rfl) dL_law_824 ?_
                                                              refine k_aload_n (pc := 827) h 2 dL_law_827 rfl ?_
                                                              refine k_aload_nR (pc := 828) h 0 dL_law_828 rfl ?_
                                                              refine k_iload_n (pc := 829) h 3 dL_law_829 rfl ?_
                                                              refine k_iconst (pc := 830) h (x := (1 : Int32)) dL_law_830 (by decide) ?_
                                                              refine k_iadd (pc := 831) h dL_law_831 ?_
                                                              refine k_sld (pc := 832) h dL_law_832 hk (fun hk => ?_)
                                                              obtain ⟨p112, hc111, hk⟩ := bd_some hk
                                                              refine k_callV1 (pc := 833) h (c_X8_image hc111) cw_L_129 ly_46 rfl ⟨⟨by decide, by decide⟩, by decide, by decide⟩ rfl (Nat.le_of_ble_eq_true rfl) dL_law_833 ?_
                                                              refine k_icmp_eq (tgt := 924) (pc := 836) h dL_law_836 rfl hk (fun hc hk => ?_) (fun hc hk => ?_)
                                                              · exact EJ924 _ _ _ hk hz
                                                              · cases hk
                                                            · refine k_tab (a := (28 : Int32)) (tgt := 841) (pc := 32) h dL_law_32 (by decide) (by decide) rfl rfl hk (fun hk => ?_) (fun q28 hk => ?_)
                                                              · refine k_aload_n (pc := 841) h 1 dL_law_841 rfl ?_
                                                                refine k_aload_nR (pc := 842) h 0 dL_law_842 rfl ?_
                                                                refine k_iload_n (pc := 843) h 3 dL_law_843 rfl ?_
                                                                refine k_iconst (pc := 844) h (x := (1 : Int32)) dL_law_844 (by decide) ?_
                                                                refine k_iadd (pc := 845) h dL_law_845 ?_
                                                                refine k_sld (pc := 846) h dL_law_846 hk (fun hk => ?_)
                                                                obtain ⟨p114, hc113, hk⟩ := bd_some hk
                                                                refine k_callV1 (pc := 847) h (c_X7_from hc113) cw_L_130 ly_0 rfl ⟨⟨by decide, by decide⟩, by decide, by decide⟩ rfl (Nat.le_of_ble_eq_true rfl) dL_law_847 ?_
                                                                refine k_aload_n (pc := 850) h 2 dL_law_850 rfl ?_
                                                                refine k_aload_nR (pc := 851) h 0 dL_law_851 rfl ?_
                                                                refine k_iload_n (pc := 852) h 3 dL_law_852 rfl ?_
                                                                refine k_iconst (pc := 853) h (x := (1 : Int32)) dL_law_853 (by decide) ?_
                                                                refine k_iadd (pc := 854) h dL_law_854 ?_
                                                                refine k_sld (pc := 855) h dL_law_855 hk (fun hk => ?_)
                                                                obtain ⟨p116, hc115, hk⟩ := bd_some hk
                                                                refine k_callV1 (pc := 856) h (c_X8_from hc115) cw_L_133 ly_46 rfl ⟨⟨by decide, by decide⟩, by decide, by decide⟩ rfl (Nat.le_of_ble_eq_true rfl) dL_law_856 ?_
                                                                refine k_icmp_eq (tgt := 924) (pc := 859) h dL_law_859 rfl hk (fun hc hk => ?_) (fun hc hk => ?_)
                                                                · exact EJ924 _ _ _ hk hz
                                                                · cases hk
                                                              · refine k_tab (a := (29 : Int32)) (tgt := 864) (pc := 32) h dL_law_32 (by decide) (by decide) rfl rfl hk (fun hk => ?_) (fun q29 hk => ?_)
                                                                · refine k_aload_n (pc := 864) h 1 dL_law_864 rfl ?_
                                                                  refine k_aload_nR (pc := 865) h 0 dL_law_865 rfl ?_
                                                                  refine k_iload_n (pc := 866) h 3 dL_law_866 rfl ?_
                                                                  refine k_iconst (pc := 867) h (x := (1 : Int32)) dL_law_867 (by decide) ?_
                                                                  refine k_iadd (pc := 868) h dL_law_868 ?_
                                                                  refine k_sld (pc := 869) h dL_law_869 hk (fun hk => ?_)
                                                                  obtain ⟨p118, hc117, hk⟩ := bd_some hk
                                                                  refine k_callV1 (pc := 870) h (c_X7_status hc117) cw_L_134 ly_0 rfl ⟨⟨by decide, by decide⟩, by decide, by decide⟩ rfl (Nat.le_of_ble_eq_true rfl) dL_law_870 ?_
                                                                  refine k_aload_n (pc := 873) h 2 dL_law_873 rfl ?_
                                                                  refine k_aload_nR (pc := 874) h 0 dL_law_874 rfl ?_
                                                                  refine k_iload_n (pc := 875) h 3 dL_law_875 rfl ?_
                                                                  refine k_iconst (pc := 876) h (x := (1 : Int32)) dL_law_876 (by decide) ?_
                                                                  refine k_iadd (pc := 877) h dL_law_877 ?_
                                                                  refine k_sld (pc := 878) h dL_law_878 hk (fun hk => ?_)
                                                                  obtain ⟨p120, hc119, hk⟩ := bd_some hk
                                                                  refine k_callV1 (pc := 879) h (c_X8_status hc119) cw_L_137 ly_46 rfl ⟨⟨by decide, by decide⟩, by decide, by decide⟩ rfl (Nat.le_of_ble_eq_true rfl) dL_law_879 ?_
                                                                  refine k_icmp_eq (tgt := 924) (pc := 882) h dL_law_882 rfl hk (fun hc hk => ?_) (fun hc hk => ?_)
                                                                  · exact EJ924 _ _ _ hk hz
                                                                  · cases hk
                                                                · refine k_tab (a := (30 : Int32)) (tgt := 887) (pc := 32) h dL_law_32 (by decide) (by decide) rfl rfl hk (fun hk => ?_) (fun q30 hk => ?_)
                                                                  · refine k_aload_n (pc := 887) h 1 dL_law_887 rfl ?_
                                                                    refine k_aload_nR (pc := 888) h 0 dL_law_888 rfl ?_
                                                                    refine k_iload_n (pc := 889) h 3 dL_law_889 rfl ?_
                                                                    refine k_iconst (pc := 890) h (x := (1 : Int32)) dL_law_890 (by decide) ?_
                                                                    refine k_iadd (pc := 891) h dL_law_891 ?_
                                                                    refine k_sld (pc := 892) h dL_law_892 hk (fun hk => ?_)
                                                                    obtain ⟨p122, hc121, hk⟩ := bd_some hk
                                                                    refine k_callV1 (pc := 893) h (c_X7_count hc121) cw_L_138 ly_0 rfl ⟨⟨by decide, by decide⟩, by decide, by decide⟩ rfl (Nat.le_of_ble_eq_true rfl) dL_law_893 ?_
                                                                    refine k_aload_n (pc := 896) h 2 dL_law_896 rfl ?_
                                                                    refine k_aload_nR (pc := 897) h 0 dL_law_897 rfl ?_
                                                                    refine k_iload_n (pc := 898) h 3 dL_law_898 rfl ?_
                                                                    refine k_iconst (pc := 899) h (x := (1 : Int32)) dL_law_899 (by decide) ?_
                                                                    refine k_iadd (pc := 900) h dL_law_900 ?_
                                                                    refine k_sld (pc := 901) h dL_law_901 hk (fun hk => ?_)
                                                                    obtain ⟨p124, hc123, hk⟩ := bd_some hk
                                                                    refine k_callV1 (pc := 902) h (c_X8_count hc123) cw_L_141 ly_46 rfl ⟨⟨by decide, by decide⟩, by decide, by decide⟩ rfl (Nat.le_of_ble_eq_true rfl) dL_law_902 ?_
                                                                    refine k_icmp_eq (tgt := 924) (pc := 905) h dL_law_905 rfl hk (fun hc hk => ?_) (fun hc hk => ?_)
                                                                    · exact EJ924 _ _ _ hk hz
                                                                    · cases hk
                                                                  · refine k_tab (a := (31 : Int32)) (tgt := 910) (pc := 32) h dL_law_32 (by decide) (by decide) rfl rfl hk (fun hk => ?_) (fun q31 hk => ?_)
                                                                    · refine k_aload_n (pc := 910) h 1 dL_law_910 rfl ?_
                                                                      obtain ⟨p126, hc125, hk⟩ := bd_some hk
                                                                      refine k_callV1 (pc := 911) h (c_X7_digest hc125) cw_L_142 ly_0 rfl ⟨⟨by decide, by decide⟩, by decide, by decide⟩ rfl (Nat.le_of_ble_eq_true rfl) dL_law_911 ?_
                                                                      refine k_aload_n (pc := 914) h 2 dL_law_914 rfl ?_
                                                                      obtain ⟨p128, hc127, hk⟩ := bd_some hk
                                                                      refine k_callV1 (pc := 915) h (c_X8_digest hc127) cw_L_146 ly_46 rfl ⟨⟨by decide, by decide⟩, by decide, by decide⟩ rfl (Nat.le_of_ble_eq_true rfl) dL_law_915 ?_
                                                                      refine k_lcmp (pc := 918) h dL_law_918 ?_
                                                                      refine k_if_eq (tgt := 924) (pc := 919) h dL_law_919 rfl hk (fun hc hk => ?_) (fun hc hk => ?_)
                                                                      · exact EJ924 _ _ _ hk hz
                                                                      · cases hk
                                                                    · refine k_tabD (tgt := 924) (pc := 32) h dL_law_32 (by have n0 := lv_neT q0 (a := 0) (by decide); have n1 := lv_neT q1 (a := 1) (by decide); have n2 := lv_neT q2 (a := 2) (by decide); have n3 := lv_neT q3 (a := 3) (by decide); have n4 := lv_neT q4 (a := 4) (by decide); have n5 := lv_neT q5 (a := 5) (by decide); have n6 := lv_neT q6 (a := 6) (by decide); have n7 := lv_neT q7 (a := 7) (by decide); have n8 := lv_neT q8 (a := 8) (by decide); have n9 := lv_neT q9 (a := 9) (by decide); have n10 := lv_neT q10 (a := 10) (by decide); have n11 := lv_neT q11 (a := 11) (by decide); have n12 := lv_neT q12 (a := 12) (by decide); have n13 := lv_neT q13 (a := 13) (by decide); have n14 := lv_neT q14 (a := 14) (by decide); have n15 := lv_neT q15 (a := 15) (by decide); have n16 := lv_neT q16 (a := 16) (by decide); have n17 := lv_neT q17 (a := 17) (by decide); have n18 := lv_neT q18 (a := 18) (by decide); have n19 := lv_neT q19 (a := 19) (by decide); have n20 := lv_neT q20 (a := 20) (by decide); have n21 := lv_neT q21 (a := 21) (by decide); have n22 := lv_neT q22 (a := 22) (by decide); have n23 := lv_neT q23 (a := 23) (by decide); have n24 := lv_neT q24 (a := 24) (by decide); have n25 := lv_neT q25 (a := 25) (by decide); have n26 := lv_neT q26 (a := 26) (by decide); have n27 := lv_neT q27 (a := 27) (by decide); have n28 := lv_neT q28 (a := 28) (by decide); have n29 := lv_neT q29 (a := 29) (by decide); have n30 := lv_neT q30 (a := 30) (by decide); have n31 := lv_neT q31 (a := 31) (by decide); omega) rfl ?_
                                                                      exact EJ924 _ _ _ hk hz
  obtain ⟨r129, hl130, hk⟩ := bd_some hk
  refine LB18 _ _ _ hl130 ?_
  show G 930 [] [] r129
  refine k_iconst (pc := 930) h (x := (1 : Int32)) dL_law_930 (by decide) ?_
  exact k_iret (pc := 931) h dL_law_931 ⟨rfl, by decide, by decide⟩
def f_start (L : Nat) (xs : Nat → Int32) (w : WW) : Option Int32 := nz w 0 (fun u1 => (f_X7_init_0 u1).bind (fun u2 => nz u2 46 (fun u3 => (f_X8_init_46 u3).bind (fun u4 => f_law L xs u4))))
set_option maxRecDepth 20000 in
set_option maxHeartbeats 8000000 in
theorem law_all {nm : String} {b L : Nat} {xs : Nat → Int32} {w : WW} {z : Int32} {G : Nat → List (Nat × Value) → List Value → WW → Prop} (h : Rules cL_law RL nm 4 room_1 (some 0) (lwX b L xs) lwR [] 0 0 G) (hk : f_start L xs w = some z) : G 0 [(0, .retAddr b)] [] w := by
  unfold f_start at hk
  refine k_newF (ci := 7) (lay' := LQ0) (k' := 1) (n' := 12) (pc := 0) h rfl inTX7 tyX7_ok (tb_pl _ [88, 89, 72] (by decide +kernel) (by decide +kernel)) (fds := [.inr none, .inr none, .inr none, .inr none, .inr none, .inr none, .inr none, .inr none, .inr none, .inr none, .inr none, .inr none]) (by decide +kernel) (by decide) (by decide +kernel) (by decide) rfl rfl ⟨by decide, by decide⟩ dL_law_0 (K := 0) rfl rfl rfl rfl hk (fun G1 u1 h1 hk => ?_)
  refine k_dup (pc := 3) h1 dL_law_3 rfl ?_
  obtain ⟨u2, hc2, hk⟩ := bd_some hk
  refine k_callIF (k' := 46) (n' := 5115) (pc := 4) h1 (c_X7_init_0 hc2) (tb_pl _ [90, 91, 72, 92] (by decide +kernel) (by decide +kernel)) (by decide +kernel) ⟨⟨by decide, by decide⟩, by decide, by decide⟩ (Nat.le_of_ble_eq_true rfl) (by decide) rfl rfl dL_law_4 rfl rfl (fun G2 h2 => ?_)
  refine k_astore_n (pc := 7) h2 [1, 0] (lv' := [(0, .retAddr b), (1, .ref 0)]) dL_law_7 rfl (by decide) rfl ?_
  refine k_newF (ci := 8) (lay' := LQ91) (k' := 47) (n' := 5146) (pc := 8) h2 rfl inTX8 tyX8_ok (tb_pl _ [775, 776, 80] (by decide +kernel) (by decide +kernel)) (fds := [.inr none, .inl 0, .inl 0, .inl 0, .inr none, .inr none, .inr none, .inr none, .inr none, .inr none, .inl 0, .inl 0, .inl 0, .inl 0, .inr none, .inr none, .inl 0, .inr none, .inl 0, .inr none, .inr none, .inr none, .inr none, .inr none, .inl 1, .inl 1, .inr none, .inl 0, .inl 1, .inr none, .inl 1]) (by decide +kernel) (by decide) (by decide +kernel) (by decide) rfl rfl ⟨by decide, by decide⟩ dL_law_8 (K := 46) rfl rfl rfl rfl hk (fun G3 u3 h3 hk => ?_)
  refine k_dup (pc := 11) h3 dL_law_11 rfl ?_
  obtain ⟨u4, hc4, hk⟩ := bd_some hk
  refine k_callIF (k' := 64) (n' := 202766) (pc := 12) h3 (c_X8_init_46 hc4) (tb_pl _ [777, 778, 80, 779] (by decide +kernel) (by decide +kernel)) (by decide +kernel) ⟨⟨by decide, by decide⟩, by decide, by decide⟩ (Nat.le_of_ble_eq_true rfl) (by decide) rfl rfl dL_law_12 rfl rfl (fun G4 h4 => ?_)
  refine k_astore_n (pc := 15) h4 [1, 2, 0] (lv' := [(0, .retAddr b), (1, .ref 0), (2, .ref 46)]) dL_law_15 rfl (by decide) rfl ?_
  refine k_iconst (pc := 16) h4 (x := (0 : Int32)) dL_law_16 (by decide) ?_
  refine k_istore_n (pc := 17) h4 [1, 2, 3, 0] (lv' := [(0, .retAddr b), (1, .ref 0), (2, .ref 46), (3, .int (0 : Int32))]) dL_law_17 rfl (by decide) rfl ?_
  exact law_main h4 hk

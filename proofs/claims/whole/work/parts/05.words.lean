def FU : Nat := 100000
def lpf {σ ρ : Type} (body : σ → Option (σ ⊕ ρ)) : Nat → σ → Option ρ
  | 0, _ => none
  | n + 1, s => (body s).bind (fun z => Sum.elim (fun s' => lpf body n s') some z)
theorem lpf_ind {σ ρ : Type} {body : σ → Option (σ ⊕ ρ)} (P : σ → Prop) (Q : ρ → Prop) (hb : ∀ s z, body s = some z → Sum.elim P Q z → P s) : ∀ (n : Nat) (s : σ) (r : ρ), lpf body n s = some r → Q r → P s := by
  intro n
  induction n with
  | zero => intro s r h; cases h
  | succ n ih =>
    intro s r h hq
    obtain ⟨z, h1, h2⟩ := bd_some h
    cases z with
    | inl s' => exact hb s (.inl s') h1 (ih s' r h2 hq)
    | inr r' => cases h2; exact hb s (.inr r) h1 hq
theorem elim_l {α β γ : Type} {f : α → Option γ} {g : β → Option γ} {r : α} {z : γ} (h : Sum.elim f g (.inl r) = some z) : f r = some z := h
theorem elim_r {α β γ : Type} {f : α → Option γ} {g : β → Option γ} {r : β} {z : γ} (h : Sum.elim f g (.inr r) = some z) : g r = some z := h
theorem nar_b {x : Int32} (h : x &&& 1 = x) : narrow .boolean (.int x) = .int x := by
  show Value.int (x &&& 1) = .int x
  rw [h]
def StAt (lay : List LyS) (b : Nat) : Prop := lay[b]? = some (.inr (6, [.inl 0, .inl 0, .inl 0, .inl 0, .inr (some (b + 1)), .inr (some (b + 2)), .inr (some (b + 3)), .inr (some (b + 4)), .inr (some (b + 5)), .inr (some (b + 6)), .inr (some (b + 7))])) ∧ lay[b + 1]? = some (.inl (.int, 16)) ∧ lay[b + 2]? = some (.inl (.int, 7)) ∧ lay[b + 3]? = some (.inl (.int, 7)) ∧ lay[b + 4]? = some (.inl (.int, 7)) ∧ lay[b + 5]? = some (.inl (.int, 112)) ∧ lay[b + 6]? = some (.inl (.int, 8)) ∧ lay[b + 7]? = some (.inl (.int, 8))
def PuAt (lay : List LyS) (b : Nat) : Prop := lay[b]? = some (.inr (3, [.inl 0, .inl 0]))
theorem tb_pl (ws : List Cond) (ps : List Nat) (hp : ws = ps.filterMap (fun i => lw_tbl[i]?)) (hg : ws.all goodWord = true) : ∀ w ∈ ws, w ∈ tb := by
  intro w hw
  refine List.mem_filter.mpr ⟨?_, List.all_eq_true.mp hg w hw⟩
  rw [hp] at hw
  obtain ⟨i, -, hi⟩ := List.mem_filterMap.mp hw
  exact List.mem_of_getElem? hi
theorem tb_p1 {w : Cond} (i : Nat) (h : lw_tbl[i]? = some w) (hg : goodWord w = true) : w ∈ tb := List.mem_filter.mpr ⟨List.mem_of_getElem? h, hg⟩
def LAY : List LyS := [.inr (7, [.inr (some 1), .inr (some 9), .inr (some 17), .inr (some 25), .inr (some 26), .inr (some 36), .inr (some 37), .inr (some 38), .inr (some 39), .inr (some 40), .inr (some 43), .inr (some 45)]), .inr (6, [.inl 0, .inl 0, .inl 0, .inl 0, .inr (some 2), .inr (some 3), .inr (some 4), .inr (some 5), .inr (some 6), .inr (some 7), .inr (some 8)]), .inl (.int, 16), .inl (.int, 7), .inl (.int, 7), .inl (.int, 7), .inl (.int, 112), .inl (.int, 8), .inl (.int, 8), .inr (6, [.inl 0, .inl 0, .inl 0, .inl 0, .inr (some 10), .inr (some 11), .inr (some 12), .inr (some 13), .inr (some 14), .inr (some 15), .inr (some 16)]), .inl (.int, 16), .inl (.int, 7), .inl (.int, 7), .inl (.int, 7), .inl (.int, 112), .inl (.int, 8), .inl (.int, 8), .inr (6, [.inl 0, .inl 0, .inl 0, .inl 0, .inr (some 18), .inr (some 19), .inr (some 20), .inr (some 21), .inr (some 22), .inr (some 23), .inr (some 24)]), .inl (.int, 16), .inl (.int, 7), .inl (.int, 7), .inl (.int, 7), .inl (.int, 112), .inl (.int, 8), .inl (.int, 8), .inl (.boolean, 2), .inr (4, [.inr (some 27), .inl 0, .inr (some 28), .inl 0, .inl 0, .inl 0, .inl 0]), .inl (.byte, 150), .inr (6, [.inl 0, .inl 0, .inl 0, .inl 0, .inr (some 29), .inr (some 30), .inr (some 31), .inr (some 32), .inr (some 33), .inr (some 34), .inr (some 35)]), .inl (.int, 16), .inl (.int, 7), .inl (.int, 7), .inl (.int, 7), .inl (.int, 112), .inl (.int, 8), .inl (.int, 8), .inr (1, [.inl 1, .inl 1]), .inl (.int, 3), .inr (3, [.inl 0, .inl 0]), .inr (3, [.inl 0, .inl 0]), .inr (2, [.inl 0, .inl 0, .inl 0, .inr (some 41), .inr (some 42)]), .inl (.int, 2048), .inl (.int, 2048), .inr (5, [.inr (some 44)]), .inl (.int, 128), .inr (0, [.inl 1]), .inr (8, [.inr (some 47), .inl 0, .inl 0, .inl 0, .inr (some 48), .inr (some 49), .inr (some 50), .inr (some 51), .inr (some 52), .inr (some 53), .inl 0, .inl 0, .inl 0, .inl 0, .inr (some 54), .inr (some 55), .inl 0, .inr (some 56), .inl 0, .inr (some 57), .inr (some 58), .inr (some 59), .inr (some 60), .inr (some 61), .inl 1, .inl 1, .inr (some 62), .inl 0, .inl 1, .inr (some 63), .inl 1]), .inl (.int, 3), .inl (.int, 16), .inl (.int, 7), .inl (.int, 7), .inl (.int, 7), .inl (.int, 16), .inl (.int, 150), .inl (.int, 16), .inl (.int, 21), .inl (.int, 136), .inl (.boolean, 128), .inl (.int, 65536), .inl (.int, 65536), .inl (.int, 65536), .inl (.int, 112), .inl (.int, 7), .inl (.int, 386)]
theorem ly_0 : LAY[0]? = some (.inr (7, [.inr (some 1), .inr (some 9), .inr (some 17), .inr (some 25), .inr (some 26), .inr (some 36), .inr (some 37), .inr (some 38), .inr (some 39), .inr (some 40), .inr (some 43), .inr (some 45)])) := rfl
theorem ly_1 : LAY[1]? = some (.inr (6, [.inl 0, .inl 0, .inl 0, .inl 0, .inr (some 2), .inr (some 3), .inr (some 4), .inr (some 5), .inr (some 6), .inr (some 7), .inr (some 8)])) := rfl
theorem ly_2 : LAY[2]? = some (.inl (.int, 16)) := rfl
theorem ly_3 : LAY[3]? = some (.inl (.int, 7)) := rfl
theorem ly_4 : LAY[4]? = some (.inl (.int, 7)) := rfl
theorem ly_5 : LAY[5]? = some (.inl (.int, 7)) := rfl
theorem ly_6 : LAY[6]? = some (.inl (.int, 112)) := rfl
theorem ly_7 : LAY[7]? = some (.inl (.int, 8)) := rfl
theorem ly_8 : LAY[8]? = some (.inl (.int, 8)) := rfl
theorem ly_9 : LAY[9]? = some (.inr (6, [.inl 0, .inl 0, .inl 0, .inl 0, .inr (some 10), .inr (some 11), .inr (some 12), .inr (some 13), .inr (some 14), .inr (some 15), .inr (some 16)])) := rfl
theorem ly_10 : LAY[10]? = some (.inl (.int, 16)) := rfl
theorem ly_11 : LAY[11]? = some (.inl (.int, 7)) := rfl
theorem ly_12 : LAY[12]? = some (.inl (.int, 7)) := rfl
theorem ly_13 : LAY[13]? = some (.inl (.int, 7)) := rfl
theorem ly_14 : LAY[14]? = some (.inl (.int, 112)) := rfl
theorem ly_15 : LAY[15]? = some (.inl (.int, 8)) := rfl
theorem ly_16 : LAY[16]? = some (.inl (.int, 8)) := rfl
theorem ly_17 : LAY[17]? = some (.inr (6, [.inl 0, .inl 0, .inl 0, .inl 0, .inr (some 18), .inr (some 19), .inr (some 20), .inr (some 21), .inr (some 22), .inr (some 23), .inr (some 24)])) := rfl
theorem ly_18 : LAY[18]? = some (.inl (.int, 16)) := rfl
theorem ly_19 : LAY[19]? = some (.inl (.int, 7)) := rfl
theorem ly_20 : LAY[20]? = some (.inl (.int, 7)) := rfl
theorem ly_21 : LAY[21]? = some (.inl (.int, 7)) := rfl
theorem ly_22 : LAY[22]? = some (.inl (.int, 112)) := rfl
theorem ly_23 : LAY[23]? = some (.inl (.int, 8)) := rfl
theorem ly_24 : LAY[24]? = some (.inl (.int, 8)) := rfl
theorem ly_25 : LAY[25]? = some (.inl (.boolean, 2)) := rfl
theorem ly_26 : LAY[26]? = some (.inr (4, [.inr (some 27), .inl 0, .inr (some 28), .inl 0, .inl 0, .inl 0, .inl 0])) := rfl
theorem ly_27 : LAY[27]? = some (.inl (.byte, 150)) := rfl
theorem ly_28 : LAY[28]? = some (.inr (6, [.inl 0, .inl 0, .inl 0, .inl 0, .inr (some 29), .inr (some 30), .inr (some 31), .inr (some 32), .inr (some 33), .inr (some 34), .inr (some 35)])) := rfl
theorem ly_29 : LAY[29]? = some (.inl (.int, 16)) := rfl
theorem ly_30 : LAY[30]? = some (.inl (.int, 7)) := rfl
theorem ly_31 : LAY[31]? = some (.inl (.int, 7)) := rfl
theorem ly_32 : LAY[32]? = some (.inl (.int, 7)) := rfl
theorem ly_33 : LAY[33]? = some (.inl (.int, 112)) := rfl
theorem ly_34 : LAY[34]? = some (.inl (.int, 8)) := rfl
theorem ly_35 : LAY[35]? = some (.inl (.int, 8)) := rfl
theorem ly_36 : LAY[36]? = some (.inr (1, [.inl 1, .inl 1])) := rfl
theorem ly_37 : LAY[37]? = some (.inl (.int, 3)) := rfl
theorem ly_38 : LAY[38]? = some (.inr (3, [.inl 0, .inl 0])) := rfl
theorem ly_39 : LAY[39]? = some (.inr (3, [.inl 0, .inl 0])) := rfl
theorem ly_40 : LAY[40]? = some (.inr (2, [.inl 0, .inl 0, .inl 0, .inr (some 41), .inr (some 42)])) := rfl
theorem ly_41 : LAY[41]? = some (.inl (.int, 2048)) := rfl
theorem ly_42 : LAY[42]? = some (.inl (.int, 2048)) := rfl
theorem ly_43 : LAY[43]? = some (.inr (5, [.inr (some 44)])) := rfl
theorem ly_44 : LAY[44]? = some (.inl (.int, 128)) := rfl
theorem ly_45 : LAY[45]? = some (.inr (0, [.inl 1])) := rfl
theorem ly_46 : LAY[46]? = some (.inr (8, [.inr (some 47), .inl 0, .inl 0, .inl 0, .inr (some 48), .inr (some 49), .inr (some 50), .inr (some 51), .inr (some 52), .inr (some 53), .inl 0, .inl 0, .inl 0, .inl 0, .inr (some 54), .inr (some 55), .inl 0, .inr (some 56), .inl 0, .inr (some 57), .inr (some 58), .inr (some 59), .inr (some 60), .inr (some 61), .inl 1, .inl 1, .inr (some 62), .inl 0, .inl 1, .inr (some 63), .inl 1])) := rfl
theorem ly_47 : LAY[47]? = some (.inl (.int, 3)) := rfl
theorem ly_48 : LAY[48]? = some (.inl (.int, 16)) := rfl
theorem ly_49 : LAY[49]? = some (.inl (.int, 7)) := rfl
theorem ly_50 : LAY[50]? = some (.inl (.int, 7)) := rfl
theorem ly_51 : LAY[51]? = some (.inl (.int, 7)) := rfl
theorem ly_52 : LAY[52]? = some (.inl (.int, 16)) := rfl
theorem ly_53 : LAY[53]? = some (.inl (.int, 150)) := rfl
theorem ly_54 : LAY[54]? = some (.inl (.int, 16)) := rfl
theorem ly_55 : LAY[55]? = some (.inl (.int, 21)) := rfl
theorem ly_56 : LAY[56]? = some (.inl (.int, 136)) := rfl
theorem ly_57 : LAY[57]? = some (.inl (.boolean, 128)) := rfl
theorem ly_58 : LAY[58]? = some (.inl (.int, 65536)) := rfl
theorem ly_59 : LAY[59]? = some (.inl (.int, 65536)) := rfl
theorem ly_60 : LAY[60]? = some (.inl (.int, 65536)) := rfl
theorem ly_61 : LAY[61]? = some (.inl (.int, 112)) := rfl
theorem ly_62 : LAY[62]? = some (.inl (.int, 7)) := rfl
theorem ly_63 : LAY[63]? = some (.inl (.int, 386)) := rfl
theorem st_1 : StAt LAY 1 := ⟨rfl, rfl, rfl, rfl, rfl, rfl, rfl, rfl⟩
theorem st_9 : StAt LAY 9 := ⟨rfl, rfl, rfl, rfl, rfl, rfl, rfl, rfl⟩
theorem st_17 : StAt LAY 17 := ⟨rfl, rfl, rfl, rfl, rfl, rfl, rfl, rfl⟩
theorem st_28 : StAt LAY 28 := ⟨rfl, rfl, rfl, rfl, rfl, rfl, rfl, rfl⟩
theorem inTX0 : ∀ w ∈ u_ws RX0 TX0 1, w ∈ tb := tb_pl _ [270] (by decide +kernel) (by decide +kernel)
theorem inTX1 : ∀ w ∈ u_ws RX1 TX1 2, w ∈ tb := tb_pl _ [206, 208] (by decide +kernel) (by decide +kernel)
theorem inTX2 : ∀ w ∈ u_ws RX2 TX2 5, w ∈ tb := tb_pl _ [240, 242, 244, 246, 248] (by decide +kernel) (by decide +kernel)
theorem inTX3 : ∀ w ∈ u_ws RX3 TX3 2, w ∈ tb := tb_pl _ [221, 223] (by decide +kernel) (by decide +kernel)
theorem inTX4 : ∀ w ∈ u_ws RX4 TX4 7, w ∈ tb := tb_pl _ [179, 181, 183, 185, 187, 189, 191] (by decide +kernel) (by decide +kernel)
theorem inTX5 : ∀ w ∈ u_ws RX5 TX5 1, w ∈ tb := tb_pl _ [259] (by decide +kernel) (by decide +kernel)
theorem inTX6 : ∀ w ∈ u_ws RX6 TX6 11, w ∈ tb := tb_pl _ [137, 139, 141, 143, 145, 147, 149, 151, 153, 155, 157] (by decide +kernel) (by decide +kernel)
theorem inTX7 : ∀ w ∈ u_ws RX7 TX7 12, w ∈ tb := tb_pl _ [285, 287, 289, 291, 293, 295, 297, 299, 301, 303, 305, 307] (by decide +kernel) (by decide +kernel)
theorem inTX8 : ∀ w ∈ u_ws RX8 TX8 31, w ∈ tb := tb_pl _ [817, 819, 821, 823, 825, 827, 829, 831, 833, 835, 837, 839, 841, 843, 845, 847, 849, 851, 853, 855, 857, 859, 861, 863, 865, 867, 869, 871, 873, 875, 877] (by decide +kernel) (by decide +kernel)
theorem fl_X7_10 : FL RX7 10 7 0 (.object "QuestionFair$Stand") true := ⟨RX7, TX7, 12, tyX7, rfl, by decide, inTX7, tb_p1 273 (by decide +kernel) (by decide +kernel), tyX7_ok, nmX7, by decide +kernel, rfl, rfl⟩
theorem fl_X7_16 : FL RX7 16 7 1 (.object "QuestionFair$Stand") true := ⟨RX7, TX7, 12, tyX7, rfl, by decide, inTX7, tb_p1 274 (by decide +kernel) (by decide +kernel), tyX7_ok, nmX7, by decide +kernel, rfl, rfl⟩
theorem fl_X7_19 : FL RX7 19 7 2 (.object "QuestionFair$Stand") true := ⟨RX7, TX7, 12, tyX7, rfl, by decide, inTX7, tb_p1 275 (by decide +kernel) (by decide +kernel), tyX7_ok, nmX7, by decide +kernel, rfl, rfl⟩
theorem fl_X7_22 : FL RX7 22 7 3 (.array .boolean) true := ⟨RX7, TX7, 12, tyX7, rfl, by decide, inTX7, tb_p1 276 (by decide +kernel) (by decide +kernel), tyX7_ok, nmX7, by decide +kernel, rfl, rfl⟩
theorem fl_X7_29 : FL RX7 29 7 4 (.object "QuestionFair$Reader") true := ⟨RX7, TX7, 12, tyX7, rfl, by decide, inTX7, tb_p1 277 (by decide +kernel) (by decide +kernel), tyX7_ok, nmX7, by decide +kernel, rfl, rfl⟩
theorem fl_X7_36 : FL RX7 36 7 5 (.object "QuestionFair$Fraction") true := ⟨RX7, TX7, 12, tyX7, rfl, by decide, inTX7, tb_p1 278 (by decide +kernel) (by decide +kernel), tyX7_ok, nmX7, by decide +kernel, rfl, rfl⟩
theorem fl_X7_40 : FL RX7 40 7 6 (.array .int) true := ⟨RX7, TX7, 12, tyX7, rfl, by decide, inTX7, tb_p1 279 (by decide +kernel) (by decide +kernel), tyX7_ok, nmX7, by decide +kernel, rfl, rfl⟩
theorem fl_X7_47 : FL RX7 47 7 7 (.object "QuestionFair$Purchase") true := ⟨RX7, TX7, 12, tyX7, rfl, by decide, inTX7, tb_p1 280 (by decide +kernel) (by decide +kernel), tyX7_ok, nmX7, by decide +kernel, rfl, rfl⟩
theorem fl_X7_51 : FL RX7 51 7 8 (.object "QuestionFair$Purchase") true := ⟨RX7, TX7, 12, tyX7, rfl, by decide, inTX7, tb_p1 281 (by decide +kernel) (by decide +kernel), tyX7_ok, nmX7, by decide +kernel, rfl, rfl⟩
theorem fl_X7_57 : FL RX7 57 7 9 (.object "QuestionFair$Plan") true := ⟨RX7, TX7, 12, tyX7, rfl, by decide, inTX7, tb_p1 282 (by decide +kernel) (by decide +kernel), tyX7_ok, nmX7, by decide +kernel, rfl, rfl⟩
theorem fl_X7_64 : FL RX7 64 7 10 (.object "QuestionFair$Rows") true := ⟨RX7, TX7, 12, tyX7, rfl, by decide, inTX7, tb_p1 283 (by decide +kernel) (by decide +kernel), tyX7_ok, nmX7, by decide +kernel, rfl, rfl⟩
theorem fl_X7_71 : FL RX7 71 7 11 (.object "QuestionFair$Draw") true := ⟨RX7, TX7, 12, tyX7, rfl, by decide, inTX7, tb_p1 284 (by decide +kernel) (by decide +kernel), tyX7_ok, nmX7, by decide +kernel, rfl, rfl⟩
theorem fl_X7_83 : FL RX7 83 6 1 .int false := ⟨RX6, TX6, 11, tyX6, rfl, by decide, inTX6, tb_p1 111 (by decide +kernel) (by decide +kernel), tyX6_ok, nmX6, by decide +kernel, rfl, rfl⟩
theorem fl_X7_95 : FL RX7 95 6 4 (.array .int) true := ⟨RX6, TX6, 11, tyX6, rfl, by decide, inTX6, tb_p1 121 (by decide +kernel) (by decide +kernel), tyX6_ok, nmX6, by decide +kernel, rfl, rfl⟩
theorem fl_X7_105 : FL RX7 105 6 7 (.array .int) true := ⟨RX6, TX6, 11, tyX6, rfl, by decide, inTX6, tb_p1 131 (by decide +kernel) (by decide +kernel), tyX6_ok, nmX6, by decide +kernel, rfl, rfl⟩
theorem fl_X7_108 : FL RX7 108 4 1 .int false := ⟨RX4, TX4, 7, tyX4, rfl, by decide, inTX4, tb_p1 171 (by decide +kernel) (by decide +kernel), tyX4_ok, nmX4, by decide +kernel, rfl, rfl⟩
theorem fl_X7_118 : FL RX7 118 4 3 .int false := ⟨RX4, TX4, 7, tyX4, rfl, by decide, inTX4, tb_p1 174 (by decide +kernel) (by decide +kernel), tyX4_ok, nmX4, by decide +kernel, rfl, rfl⟩
theorem fl_X7_121 : FL RX7 121 4 2 (.object "QuestionFair$Stand") true := ⟨RX4, TX4, 7, tyX4, rfl, by decide, inTX4, tb_p1 173 (by decide +kernel) (by decide +kernel), tyX4_ok, nmX4, by decide +kernel, rfl, rfl⟩
theorem fl_X7_128 : FL RX7 128 6 2 .int false := ⟨RX6, TX6, 11, tyX6, rfl, by decide, inTX6, tb_p1 117 (by decide +kernel) (by decide +kernel), tyX6_ok, nmX6, by decide +kernel, rfl, rfl⟩
theorem fl_X7_142 : FL RX7 142 6 3 .int false := ⟨RX6, TX6, 11, tyX6, rfl, by decide, inTX6, tb_p1 119 (by decide +kernel) (by decide +kernel), tyX6_ok, nmX6, by decide +kernel, rfl, rfl⟩
theorem fl_X7_148 : FL RX7 148 6 5 (.array .int) true := ⟨RX6, TX6, 11, tyX6, rfl, by decide, inTX6, tb_p1 124 (by decide +kernel) (by decide +kernel), tyX6_ok, nmX6, by decide +kernel, rfl, rfl⟩
theorem fl_X7_151 : FL RX7 151 6 6 (.array .int) true := ⟨RX6, TX6, 11, tyX6, rfl, by decide, inTX6, tb_p1 126 (by decide +kernel) (by decide +kernel), tyX6_ok, nmX6, by decide +kernel, rfl, rfl⟩
theorem fl_X7_173 : FL RX7 173 3 0 .int false := ⟨RX3, TX3, 2, tyX3, rfl, by decide, inTX3, tb_p1 218 (by decide +kernel) (by decide +kernel), tyX3_ok, nmX3, by decide +kernel, rfl, rfl⟩
theorem fl_X7_176 : FL RX7 176 3 1 .int false := ⟨RX3, TX3, 2, tyX3, rfl, by decide, inTX3, tb_p1 220 (by decide +kernel) (by decide +kernel), tyX3_ok, nmX3, by decide +kernel, rfl, rfl⟩
theorem fl_X7_182 : FL RX7 182 2 0 .int false := ⟨RX2, TX2, 5, tyX2, rfl, by decide, inTX2, tb_p1 233 (by decide +kernel) (by decide +kernel), tyX2_ok, nmX2, by decide +kernel, rfl, rfl⟩
theorem fl_X7_183 : FL RX7 183 2 1 .int false := ⟨RX2, TX2, 5, tyX2, rfl, by decide, inTX2, tb_p1 235 (by decide +kernel) (by decide +kernel), tyX2_ok, nmX2, by decide +kernel, rfl, rfl⟩
theorem fl_X7_186 : FL RX7 186 2 2 .int false := ⟨RX2, TX2, 5, tyX2, rfl, by decide, inTX2, tb_p1 237 (by decide +kernel) (by decide +kernel), tyX2_ok, nmX2, by decide +kernel, rfl, rfl⟩
theorem fl_X7_220 : FL RX7 220 5 0 (.array .int) true := ⟨RX5, TX5, 1, tyX5, rfl, by decide, inTX5, tb_p1 258 (by decide +kernel) (by decide +kernel), tyX5_ok, nmX5, by decide +kernel, rfl, rfl⟩
theorem fl_X7_233 : FL RX7 233 0 0 .long false := ⟨RX0, TX0, 1, tyX0, rfl, by decide, inTX0, tb_p1 269 (by decide +kernel) (by decide +kernel), tyX0_ok, nmX0, by decide +kernel, rfl, rfl⟩
theorem fl_X7_240 : FL RX7 240 1 0 .long false := ⟨RX1, TX1, 2, tyX1, rfl, by decide, inTX1, tb_p1 203 (by decide +kernel) (by decide +kernel), tyX1_ok, nmX1, by decide +kernel, rfl, rfl⟩
theorem fl_X7_243 : FL RX7 243 1 1 .long false := ⟨RX1, TX1, 2, tyX1, rfl, by decide, inTX1, tb_p1 205 (by decide +kernel) (by decide +kernel), tyX1_ok, nmX1, by decide +kernel, rfl, rfl⟩
theorem fl_X7_260 : FL RX7 260 6 0 .int false := ⟨RX6, TX6, 11, tyX6, rfl, by decide, inTX6, tb_p1 109 (by decide +kernel) (by decide +kernel), tyX6_ok, nmX6, by decide +kernel, rfl, rfl⟩
theorem fl_X0_24 : FL RX0 24 6 1 .int false := ⟨RX6, TX6, 11, tyX6, rfl, by decide, inTX6, tb_p1 113 (by decide +kernel) (by decide +kernel), tyX6_ok, nmX6, by decide +kernel, rfl, rfl⟩
theorem fl_X0_30 : FL RX0 30 6 7 (.array .int) true := ⟨RX6, TX6, 11, tyX6, rfl, by decide, inTX6, tb_p1 128 (by decide +kernel) (by decide +kernel), tyX6_ok, nmX6, by decide +kernel, rfl, rfl⟩
theorem fl_X0_34 : FL RX0 34 6 8 (.array .int) true := ⟨RX6, TX6, 11, tyX6, rfl, by decide, inTX6, tb_p1 133 (by decide +kernel) (by decide +kernel), tyX6_ok, nmX6, by decide +kernel, rfl, rfl⟩
theorem fl_X0_37 : FL RX0 37 0 0 .long false := ⟨RX0, TX0, 1, tyX0, rfl, by decide, inTX0, tb_p1 268 (by decide +kernel) (by decide +kernel), tyX0_ok, nmX0, by decide +kernel, rfl, rfl⟩
theorem fl_X1_7 : FL RX1 7 1 0 .long false := ⟨RX1, TX1, 2, tyX1, rfl, by decide, inTX1, tb_p1 202 (by decide +kernel) (by decide +kernel), tyX1_ok, nmX1, by decide +kernel, rfl, rfl⟩
theorem fl_X1_13 : FL RX1 13 1 1 .long false := ⟨RX1, TX1, 2, tyX1, rfl, by decide, inTX1, tb_p1 204 (by decide +kernel) (by decide +kernel), tyX1_ok, nmX1, by decide +kernel, rfl, rfl⟩
theorem fl_X2_9 : FL RX2 9 2 3 (.array .int) true := ⟨RX2, TX2, 5, tyX2, rfl, by decide, inTX2, tb_p1 238 (by decide +kernel) (by decide +kernel), tyX2_ok, nmX2, by decide +kernel, rfl, rfl⟩
theorem fl_X2_15 : FL RX2 15 2 4 (.array .int) true := ⟨RX2, TX2, 5, tyX2, rfl, by decide, inTX2, tb_p1 239 (by decide +kernel) (by decide +kernel), tyX2_ok, nmX2, by decide +kernel, rfl, rfl⟩
theorem fl_X2_18 : FL RX2 18 2 0 .int false := ⟨RX2, TX2, 5, tyX2, rfl, by decide, inTX2, tb_p1 232 (by decide +kernel) (by decide +kernel), tyX2_ok, nmX2, by decide +kernel, rfl, rfl⟩
theorem fl_X2_22 : FL RX2 22 2 1 .int false := ⟨RX2, TX2, 5, tyX2, rfl, by decide, inTX2, tb_p1 234 (by decide +kernel) (by decide +kernel), tyX2_ok, nmX2, by decide +kernel, rfl, rfl⟩
theorem fl_X2_25 : FL RX2 25 2 2 .int false := ⟨RX2, TX2, 5, tyX2, rfl, by decide, inTX2, tb_p1 236 (by decide +kernel) (by decide +kernel), tyX2_ok, nmX2, by decide +kernel, rfl, rfl⟩
theorem fl_X2_34 : FL RX2 34 6 0 .int false := ⟨RX6, TX6, 11, tyX6, rfl, by decide, inTX6, tb_p1 107 (by decide +kernel) (by decide +kernel), tyX6_ok, nmX6, by decide +kernel, rfl, rfl⟩
theorem fl_X2_49 : FL RX2 49 6 1 .int false := ⟨RX6, TX6, 11, tyX6, rfl, by decide, inTX6, tb_p1 114 (by decide +kernel) (by decide +kernel), tyX6_ok, nmX6, by decide +kernel, rfl, rfl⟩
theorem fl_X2_60 : FL RX2 60 6 7 (.array .int) true := ⟨RX6, TX6, 11, tyX6, rfl, by decide, inTX6, tb_p1 130 (by decide +kernel) (by decide +kernel), tyX6_ok, nmX6, by decide +kernel, rfl, rfl⟩
theorem fl_X2_67 : FL RX2 67 6 8 (.array .int) true := ⟨RX6, TX6, 11, tyX6, rfl, by decide, inTX6, tb_p1 134 (by decide +kernel) (by decide +kernel), tyX6_ok, nmX6, by decide +kernel, rfl, rfl⟩
theorem fl_X3_9 : FL RX3 9 3 0 .int false := ⟨RX3, TX3, 2, tyX3, rfl, by decide, inTX3, tb_p1 217 (by decide +kernel) (by decide +kernel), tyX3_ok, nmX3, by decide +kernel, rfl, rfl⟩
theorem fl_X3_15 : FL RX3 15 3 1 .int false := ⟨RX3, TX3, 2, tyX3, rfl, by decide, inTX3, tb_p1 219 (by decide +kernel) (by decide +kernel), tyX3_ok, nmX3, by decide +kernel, rfl, rfl⟩
theorem fl_X4_9 : FL RX4 9 4 0 (.array .byte) true := ⟨RX4, TX4, 7, tyX4, rfl, by decide, inTX4, tb_p1 169 (by decide +kernel) (by decide +kernel), tyX4_ok, nmX4, by decide +kernel, rfl, rfl⟩
theorem fl_X4_18 : FL RX4 18 4 2 (.object "QuestionFair$Stand") true := ⟨RX4, TX4, 7, tyX4, rfl, by decide, inTX4, tb_p1 172 (by decide +kernel) (by decide +kernel), tyX4_ok, nmX4, by decide +kernel, rfl, rfl⟩
theorem fl_X4_22 : FL RX4 22 4 1 .int false := ⟨RX4, TX4, 7, tyX4, rfl, by decide, inTX4, tb_p1 170 (by decide +kernel) (by decide +kernel), tyX4_ok, nmX4, by decide +kernel, rfl, rfl⟩
theorem fl_X4_26 : FL RX4 26 4 4 .int false := ⟨RX4, TX4, 7, tyX4, rfl, by decide, inTX4, tb_p1 176 (by decide +kernel) (by decide +kernel), tyX4_ok, nmX4, by decide +kernel, rfl, rfl⟩
theorem fl_X4_36 : FL RX4 36 4 5 .int false := ⟨RX4, TX4, 7, tyX4, rfl, by decide, inTX4, tb_p1 177 (by decide +kernel) (by decide +kernel), tyX4_ok, nmX4, by decide +kernel, rfl, rfl⟩
theorem fl_X4_52 : FL RX4 52 4 6 .int false := ⟨RX4, TX4, 7, tyX4, rfl, by decide, inTX4, tb_p1 178 (by decide +kernel) (by decide +kernel), tyX4_ok, nmX4, by decide +kernel, rfl, rfl⟩
theorem fl_X4_62 : FL RX4 62 6 1 .int false := ⟨RX6, TX6, 11, tyX6, rfl, by decide, inTX6, tb_p1 115 (by decide +kernel) (by decide +kernel), tyX6_ok, nmX6, by decide +kernel, rfl, rfl⟩
theorem fl_X4_65 : FL RX4 65 6 0 .int false := ⟨RX6, TX6, 11, tyX6, rfl, by decide, inTX6, tb_p1 108 (by decide +kernel) (by decide +kernel), tyX6_ok, nmX6, by decide +kernel, rfl, rfl⟩
theorem fl_X4_68 : FL RX4 68 6 4 (.array .int) true := ⟨RX6, TX6, 11, tyX6, rfl, by decide, inTX6, tb_p1 122 (by decide +kernel) (by decide +kernel), tyX6_ok, nmX6, by decide +kernel, rfl, rfl⟩
theorem fl_X4_80 : FL RX4 80 4 3 .int false := ⟨RX4, TX4, 7, tyX4, rfl, by decide, inTX4, tb_p1 175 (by decide +kernel) (by decide +kernel), tyX4_ok, nmX4, by decide +kernel, rfl, rfl⟩
theorem fl_X5_9 : FL RX5 9 5 0 (.array .int) true := ⟨RX5, TX5, 1, tyX5, rfl, by decide, inTX5, tb_p1 257 (by decide +kernel) (by decide +kernel), tyX5_ok, nmX5, by decide +kernel, rfl, rfl⟩
theorem fl_X5_16 : FL RX5 16 6 1 .int false := ⟨RX6, TX6, 11, tyX6, rfl, by decide, inTX6, tb_p1 112 (by decide +kernel) (by decide +kernel), tyX6_ok, nmX6, by decide +kernel, rfl, rfl⟩
theorem fl_X5_26 : FL RX5 26 6 7 (.array .int) true := ⟨RX6, TX6, 11, tyX6, rfl, by decide, inTX6, tb_p1 129 (by decide +kernel) (by decide +kernel), tyX6_ok, nmX6, by decide +kernel, rfl, rfl⟩
theorem fl_X6_9 : FL RX6 9 6 4 (.array .int) true := ⟨RX6, TX6, 11, tyX6, rfl, by decide, inTX6, tb_p1 120 (by decide +kernel) (by decide +kernel), tyX6_ok, nmX6, by decide +kernel, rfl, rfl⟩
theorem fl_X6_15 : FL RX6 15 6 5 (.array .int) true := ⟨RX6, TX6, 11, tyX6, rfl, by decide, inTX6, tb_p1 123 (by decide +kernel) (by decide +kernel), tyX6_ok, nmX6, by decide +kernel, rfl, rfl⟩
theorem fl_X6_18 : FL RX6 18 6 6 (.array .int) true := ⟨RX6, TX6, 11, tyX6, rfl, by decide, inTX6, tb_p1 125 (by decide +kernel) (by decide +kernel), tyX6_ok, nmX6, by decide +kernel, rfl, rfl⟩
theorem fl_X6_21 : FL RX6 21 6 7 (.array .int) true := ⟨RX6, TX6, 11, tyX6, rfl, by decide, inTX6, tb_p1 127 (by decide +kernel) (by decide +kernel), tyX6_ok, nmX6, by decide +kernel, rfl, rfl⟩
theorem fl_X6_24 : FL RX6 24 6 8 (.array .int) true := ⟨RX6, TX6, 11, tyX6, rfl, by decide, inTX6, tb_p1 132 (by decide +kernel) (by decide +kernel), tyX6_ok, nmX6, by decide +kernel, rfl, rfl⟩
theorem fl_X6_27 : FL RX6 27 6 9 (.array .int) true := ⟨RX6, TX6, 11, tyX6, rfl, by decide, inTX6, tb_p1 135 (by decide +kernel) (by decide +kernel), tyX6_ok, nmX6, by decide +kernel, rfl, rfl⟩
theorem fl_X6_30 : FL RX6 30 6 10 (.array .int) true := ⟨RX6, TX6, 11, tyX6, rfl, by decide, inTX6, tb_p1 136 (by decide +kernel) (by decide +kernel), tyX6_ok, nmX6, by decide +kernel, rfl, rfl⟩
theorem fl_X6_37 : FL RX6 37 6 0 .int false := ⟨RX6, TX6, 11, tyX6, rfl, by decide, inTX6, tb_p1 106 (by decide +kernel) (by decide +kernel), tyX6_ok, nmX6, by decide +kernel, rfl, rfl⟩
theorem fl_X6_41 : FL RX6 41 6 1 .int false := ⟨RX6, TX6, 11, tyX6, rfl, by decide, inTX6, tb_p1 110 (by decide +kernel) (by decide +kernel), tyX6_ok, nmX6, by decide +kernel, rfl, rfl⟩
theorem fl_X6_44 : FL RX6 44 6 2 .int false := ⟨RX6, TX6, 11, tyX6, rfl, by decide, inTX6, tb_p1 116 (by decide +kernel) (by decide +kernel), tyX6_ok, nmX6, by decide +kernel, rfl, rfl⟩
theorem fl_X6_47 : FL RX6 47 6 3 .int false := ⟨RX6, TX6, 11, tyX6, rfl, by decide, inTX6, tb_p1 118 (by decide +kernel) (by decide +kernel), tyX6_ok, nmX6, by decide +kernel, rfl, rfl⟩
theorem fl_X8_1 : FL RX8 1 8 0 (.array .int) true := ⟨RX8, TX8, 31, tyX8, rfl, by decide, inTX8, tb_p1 786 (by decide +kernel) (by decide +kernel), tyX8_ok, nmX8, by decide +kernel, rfl, rfl⟩
theorem fl_X8_13 : FL RX8 13 8 1 .int false := ⟨RX8, TX8, 31, tyX8, rfl, by decide, inTX8, tb_p1 787 (by decide +kernel) (by decide +kernel), tyX8_ok, nmX8, by decide +kernel, rfl, rfl⟩
theorem fl_X8_17 : FL RX8 17 8 4 (.array .int) true := ⟨RX8, TX8, 31, tyX8, rfl, by decide, inTX8, tb_p1 790 (by decide +kernel) (by decide +kernel), tyX8_ok, nmX8, by decide +kernel, rfl, rfl⟩
theorem fl_X8_20 : FL RX8 20 8 5 (.array .int) true := ⟨RX8, TX8, 31, tyX8, rfl, by decide, inTX8, tb_p1 791 (by decide +kernel) (by decide +kernel), tyX8_ok, nmX8, by decide +kernel, rfl, rfl⟩
theorem fl_X8_23 : FL RX8 23 8 6 (.array .int) true := ⟨RX8, TX8, 31, tyX8, rfl, by decide, inTX8, tb_p1 792 (by decide +kernel) (by decide +kernel), tyX8_ok, nmX8, by decide +kernel, rfl, rfl⟩
theorem fl_X8_26 : FL RX8 26 8 7 (.array .int) true := ⟨RX8, TX8, 31, tyX8, rfl, by decide, inTX8, tb_p1 793 (by decide +kernel) (by decide +kernel), tyX8_ok, nmX8, by decide +kernel, rfl, rfl⟩
theorem fl_X8_29 : FL RX8 29 8 8 (.array .int) true := ⟨RX8, TX8, 31, tyX8, rfl, by decide, inTX8, tb_p1 794 (by decide +kernel) (by decide +kernel), tyX8_ok, nmX8, by decide +kernel, rfl, rfl⟩
theorem fl_X8_32 : FL RX8 32 8 9 (.array .int) true := ⟨RX8, TX8, 31, tyX8, rfl, by decide, inTX8, tb_p1 795 (by decide +kernel) (by decide +kernel), tyX8_ok, nmX8, by decide +kernel, rfl, rfl⟩
theorem fl_X8_35 : FL RX8 35 8 14 (.array .int) true := ⟨RX8, TX8, 31, tyX8, rfl, by decide, inTX8, tb_p1 800 (by decide +kernel) (by decide +kernel), tyX8_ok, nmX8, by decide +kernel, rfl, rfl⟩
theorem fl_X8_38 : FL RX8 38 8 15 (.array .int) true := ⟨RX8, TX8, 31, tyX8, rfl, by decide, inTX8, tb_p1 801 (by decide +kernel) (by decide +kernel), tyX8_ok, nmX8, by decide +kernel, rfl, rfl⟩
theorem fl_X8_41 : FL RX8 41 8 17 (.array .int) true := ⟨RX8, TX8, 31, tyX8, rfl, by decide, inTX8, tb_p1 803 (by decide +kernel) (by decide +kernel), tyX8_ok, nmX8, by decide +kernel, rfl, rfl⟩
theorem fl_X8_44 : FL RX8 44 8 19 (.array .boolean) true := ⟨RX8, TX8, 31, tyX8, rfl, by decide, inTX8, tb_p1 805 (by decide +kernel) (by decide +kernel), tyX8_ok, nmX8, by decide +kernel, rfl, rfl⟩
theorem fl_X8_49 : FL RX8 49 8 20 (.array .int) true := ⟨RX8, TX8, 31, tyX8, rfl, by decide, inTX8, tb_p1 806 (by decide +kernel) (by decide +kernel), tyX8_ok, nmX8, by decide +kernel, rfl, rfl⟩
theorem fl_X8_52 : FL RX8 52 8 21 (.array .int) true := ⟨RX8, TX8, 31, tyX8, rfl, by decide, inTX8, tb_p1 807 (by decide +kernel) (by decide +kernel), tyX8_ok, nmX8, by decide +kernel, rfl, rfl⟩
theorem fl_X8_55 : FL RX8 55 8 22 (.array .int) true := ⟨RX8, TX8, 31, tyX8, rfl, by decide, inTX8, tb_p1 808 (by decide +kernel) (by decide +kernel), tyX8_ok, nmX8, by decide +kernel, rfl, rfl⟩
theorem fl_X8_58 : FL RX8 58 8 23 (.array .int) true := ⟨RX8, TX8, 31, tyX8, rfl, by decide, inTX8, tb_p1 809 (by decide +kernel) (by decide +kernel), tyX8_ok, nmX8, by decide +kernel, rfl, rfl⟩
theorem fl_X8_61 : FL RX8 61 8 25 .long false := ⟨RX8, TX8, 31, tyX8, rfl, by decide, inTX8, tb_p1 811 (by decide +kernel) (by decide +kernel), tyX8_ok, nmX8, by decide +kernel, rfl, rfl⟩
theorem fl_X8_65 : FL RX8 65 8 26 (.array .int) true := ⟨RX8, TX8, 31, tyX8, rfl, by decide, inTX8, tb_p1 812 (by decide +kernel) (by decide +kernel), tyX8_ok, nmX8, by decide +kernel, rfl, rfl⟩
theorem fl_X8_68 : FL RX8 68 8 29 (.array .int) true := ⟨RX8, TX8, 31, tyX8, rfl, by decide, inTX8, tb_p1 815 (by decide +kernel) (by decide +kernel), tyX8_ok, nmX8, by decide +kernel, rfl, rfl⟩
theorem fl_X8_75 : FL RX8 75 8 2 .int false := ⟨RX8, TX8, 31, tyX8, rfl, by decide, inTX8, tb_p1 788 (by decide +kernel) (by decide +kernel), tyX8_ok, nmX8, by decide +kernel, rfl, rfl⟩
theorem fl_X8_78 : FL RX8 78 8 3 .int false := ⟨RX8, TX8, 31, tyX8, rfl, by decide, inTX8, tb_p1 789 (by decide +kernel) (by decide +kernel), tyX8_ok, nmX8, by decide +kernel, rfl, rfl⟩
theorem fl_X8_81 : FL RX8 81 8 18 .int false := ⟨RX8, TX8, 31, tyX8, rfl, by decide, inTX8, tb_p1 804 (by decide +kernel) (by decide +kernel), tyX8_ok, nmX8, by decide +kernel, rfl, rfl⟩
theorem fl_X8_106 : FL RX8 106 8 10 .int false := ⟨RX8, TX8, 31, tyX8, rfl, by decide, inTX8, tb_p1 796 (by decide +kernel) (by decide +kernel), tyX8_ok, nmX8, by decide +kernel, rfl, rfl⟩
theorem fl_X8_109 : FL RX8 109 8 11 .int false := ⟨RX8, TX8, 31, tyX8, rfl, by decide, inTX8, tb_p1 797 (by decide +kernel) (by decide +kernel), tyX8_ok, nmX8, by decide +kernel, rfl, rfl⟩
theorem fl_X8_131 : FL RX8 131 8 16 .int false := ⟨RX8, TX8, 31, tyX8, rfl, by decide, inTX8, tb_p1 802 (by decide +kernel) (by decide +kernel), tyX8_ok, nmX8, by decide +kernel, rfl, rfl⟩
theorem fl_X8_134 : FL RX8 134 8 12 .int false := ⟨RX8, TX8, 31, tyX8, rfl, by decide, inTX8, tb_p1 798 (by decide +kernel) (by decide +kernel), tyX8_ok, nmX8, by decide +kernel, rfl, rfl⟩
theorem fl_X8_145 : FL RX8 145 8 13 .int false := ⟨RX8, TX8, 31, tyX8, rfl, by decide, inTX8, tb_p1 799 (by decide +kernel) (by decide +kernel), tyX8_ok, nmX8, by decide +kernel, rfl, rfl⟩
theorem fl_X8_234 : FL RX8 234 8 24 .long false := ⟨RX8, TX8, 31, tyX8, rfl, by decide, inTX8, tb_p1 810 (by decide +kernel) (by decide +kernel), tyX8_ok, nmX8, by decide +kernel, rfl, rfl⟩
theorem fl_X8_237 : FL RX8 237 8 27 .int false := ⟨RX8, TX8, 31, tyX8, rfl, by decide, inTX8, tb_p1 813 (by decide +kernel) (by decide +kernel), tyX8_ok, nmX8, by decide +kernel, rfl, rfl⟩
theorem fl_X8_256 : FL RX8 256 8 28 .long false := ⟨RX8, TX8, 31, tyX8, rfl, by decide, inTX8, tb_p1 814 (by decide +kernel) (by decide +kernel), tyX8_ok, nmX8, by decide +kernel, rfl, rfl⟩
theorem fl_X8_279 : FL RX8 279 8 30 .long false := ⟨RX8, TX8, 31, tyX8, rfl, by decide, inTX8, tb_p1 816 (by decide +kernel) (by decide +kernel), tyX8_ok, nmX8, by decide +kernel, rfl, rfl⟩
theorem fj_J0_9 : Cond.fieldLink RJ0 9 "java/lang/String" "value" "[B" ∈ tb := tb_p1 1213 (by decide +kernel) (by decide +kernel)
theorem fj_J0_15 : Cond.fieldLink RJ0 15 "java/lang/String" "coder" "B" ∈ tb := tb_p1 1214 (by decide +kernel) (by decide +kernel)
theorem fj_J0_38 : Cond.fieldLink RJ0 38 "java/lang/String" "COMPACT_STRINGS" "Z" ∈ tb := tb_p1 415 (by decide +kernel) (by decide +kernel)
theorem fj_J0_1053 : Cond.fieldLink RJ0 1053 "jdk/internal/util/Preconditions" "SIOOBE_FORMATTER" "Ljava/util/function/BiFunction;" ∈ tb := tb_p1 431 (by decide +kernel) (by decide +kernel)
theorem fj_J2_44 : Cond.fieldLink RJ2 44 "java/lang/StringUTF16" "$assertionsDisabled" "Z" ∈ tb := tb_p1 449 (by decide +kernel) (by decide +kernel)
theorem fj_J2_59 : Cond.fieldLink RJ2 59 "java/lang/StringUTF16" "HI_BYTE_SHIFT" "I" ∈ tb := tb_p1 451 (by decide +kernel) (by decide +kernel)
theorem fj_J2_63 : Cond.fieldLink RJ2 63 "java/lang/StringUTF16" "LO_BYTE_SHIFT" "I" ∈ tb := tb_p1 453 (by decide +kernel) (by decide +kernel)
theorem cs_X7_232 : Cond.constant RX7 232 (999999) ∈ tb := tb_p1 718 (by decide +kernel) (by decide +kernel)
theorem cs_X7_252 : Cond.constantLong RX7 252 (1091) ∈ tb := tb_p1 768 (by decide +kernel) (by decide +kernel)
theorem cs_X7_254 : Cond.constantLong RX7 254 (31) ∈ tb := tb_p1 769 (by decide +kernel) (by decide +kernel)
theorem cs_X7_268 : Cond.constant RX7 268 (7777777) ∈ tb := tb_p1 664 (by decide +kernel) (by decide +kernel)
theorem cs_X0_41 : Cond.constantLong RX0 41 (1103515245) ∈ tb := tb_p1 728 (by decide +kernel) (by decide +kernel)
theorem cs_X0_43 : Cond.constantLong RX0 43 (12345) ∈ tb := tb_p1 729 (by decide +kernel) (by decide +kernel)
theorem cs_X0_45 : Cond.constantLong RX0 45 (2147483648) ∈ tb := tb_p1 730 (by decide +kernel) (by decide +kernel)
theorem cs_X0_47 : Cond.constantLong RX0 47 (65536) ∈ tb := tb_p1 731 (by decide +kernel) (by decide +kernel)
theorem cs_X5_15 : Cond.constant RX5 15 (1000000) ∈ tb := tb_p1 669 (by decide +kernel) (by decide +kernel)
theorem cs_X6_91 : Cond.constantLong RX6 91 (31) ∈ tb := tb_p1 774 (by decide +kernel) (by decide +kernel)
theorem cs_X8_48 : Cond.constant RX8 48 (65536) ∈ tb := tb_p1 781 (by decide +kernel) (by decide +kernel)
theorem cs_X8_191 : Cond.constant RX8 191 (1048576) ∈ tb := tb_p1 1044 (by decide +kernel) (by decide +kernel)
theorem cs_X8_259 : Cond.constantLong RX8 259 (1103515245) ∈ tb := tb_p1 1172 (by decide +kernel) (by decide +kernel)
theorem cs_X8_261 : Cond.constantLong RX8 261 (12345) ∈ tb := tb_p1 1173 (by decide +kernel) (by decide +kernel)
theorem cs_X8_263 : Cond.constantLong RX8 263 (2147483648) ∈ tb := tb_p1 1174 (by decide +kernel) (by decide +kernel)
theorem cs_X8_265 : Cond.constantLong RX8 265 (65536) ∈ tb := tb_p1 1175 (by decide +kernel) (by decide +kernel)
theorem cs_X8_267 : Cond.constant RX8 267 (999999) ∈ tb := tb_p1 1167 (by decide +kernel) (by decide +kernel)
theorem cs_X8_277 : Cond.constantLong RX8 277 (31) ∈ tb := tb_p1 1212 (by decide +kernel) (by decide +kernel)
theorem cs_X8_282 : Cond.constantLong RX8 282 (1091) ∈ tb := tb_p1 1207 (by decide +kernel) (by decide +kernel)
theorem cs_J6_265 : Cond.constant RJ6 265 (1431655765) ∈ tb := tb_p1 550 (by decide +kernel) (by decide +kernel)
theorem cs_J6_266 : Cond.constant RJ6 266 (858993459) ∈ tb := tb_p1 551 (by decide +kernel) (by decide +kernel)
theorem cs_J6_267 : Cond.constant RJ6 267 (252645135) ∈ tb := tb_p1 552 (by decide +kernel) (by decide +kernel)
theorem cw_J0_492 : CVw RJ0 492 RJ0 yJ0_isLatin1_aae02 cJ0_isLatin1_aae02 1 (some .boolean) 0 := ⟨tb_pl _ [421, 422, 423, 82, 424] (by decide +kernel) (by decide +kernel), by decide +kernel⟩
theorem cw_J0_495 : CSw RJ0 495 yJ1_charAt_3b067 cJ1_charAt_3b067 2 (some .char) 2 := ⟨tb_pl _ [425, 426, 83, 427] (by decide +kernel) (by decide +kernel), by decide +kernel⟩
theorem cw_J0_498 : CSw RJ0 498 yJ2_charAt_3b067 cJ2_charAt_3b067 2 (some .char) 2 := ⟨tb_pl _ [436, 437, 85, 438] (by decide +kernel) (by decide +kernel), by decide +kernel⟩
theorem cw_J0_1059 : CSw RJ0 1059 yJ3_checkIndex_8e157 cJ3_checkIndex_8e157 3 (some .int) 3 := ⟨tb_pl _ [433, 434, 84, 435] (by decide +kernel) (by decide +kernel), by decide +kernel⟩
theorem cw_J0_335 : CVw RJ0 335 RJ0 yJ0_coder_7d493 cJ0_coder_7d493 1 (some .byte) 0 := ⟨tb_pl _ [411, 412, 413, 82, 414] (by decide +kernel) (by decide +kernel), by decide +kernel⟩
theorem cw_J1_9 : CSw RJ1 9 yJ0_checkIndex_df160 cJ0_checkIndex_df160 2 none 2 := ⟨tb_pl _ [428, 429, 82, 430] (by decide +kernel) (by decide +kernel), by decide +kernel⟩
theorem cw_X0_9 : CSw RX0 9 yJ6_bitCount_0f7a4 cJ6_bitCount_0f7a4 1 (some .int) 1 := ⟨tb_pl _ [723, 548, 87, 549] (by decide +kernel) (by decide +kernel), by decide +kernel⟩
theorem cw_X0_15 : CVw RX0 15 RX0 yX0_pick cX0_pick 2 (some .int) 1 := ⟨tb_pl _ [724, 726, 23, 79, 727] (by decide +kernel) (by decide +kernel), by decide +kernel⟩
theorem cw_X0_20 : CSw RX0 20 yX0_bitAt cX0_bitAt 4 (some .int) 2 := ⟨tb_pl _ [732, 733, 79, 734] (by decide +kernel) (by decide +kernel), by decide +kernel⟩
theorem cw_X1_16 : CSw RX1 16 yX1_commonDivisor cX1_commonDivisor 11 (some .long) 2 := ⟨tb_pl _ [681, 682, 75, 683] (by decide +kernel) (by decide +kernel), by decide +kernel⟩
theorem cw_X2_52 : CVw RX2 52 RX6 yX6_howManyParts cX6_howManyParts 6 (some .int) 2 := ⟨tb_pl _ [628, 554, 555, 73, 556] (by decide +kernel) (by decide +kernel), by decide +kernel⟩
theorem cw_X2_56 : CVw RX2 56 RX2 yX2_worstOf cX2_worstOf 10 (some .int) 5 := ⟨tb_pl _ [629, 631, 19, 77, 632] (by decide +kernel) (by decide +kernel), by decide +kernel⟩
theorem cw_X2_28 : CVw RX2 28 RX6 yX6_allSets cX6_allSets 1 (some .int) 0 := ⟨tb_pl _ [618, 590, 591, 73, 592] (by decide +kernel) (by decide +kernel), by decide +kernel⟩
theorem cw_X2_37 : CVw RX2 37 RX6 yX6_behind cX6_behind 6 (some .int) 3 := ⟨tb_pl _ [619, 607, 608, 73, 609] (by decide +kernel) (by decide +kernel), by decide +kernel⟩
theorem cw_X2_41 : CVw RX2 41 RX2 yX2_settle cX2_settle 5 none 4 := ⟨tb_pl _ [620, 622, 17, 77, 623] (by decide +kernel) (by decide +kernel), by decide +kernel⟩
theorem cw_X2_45 : CVw RX2 45 RX2 yX2_chooseNext cX2_chooseNext 6 none 3 := ⟨tb_pl _ [624, 626, 18, 77, 627] (by decide +kernel) (by decide +kernel), by decide +kernel⟩
theorem cw_X2_62 : CSw RX2 62 yJ9_max_7cf53 cJ9_max_7cf53 2 (some .int) 2 := ⟨tb_pl _ [633, 524, 81, 525] (by decide +kernel) (by decide +kernel), by decide +kernel⟩
theorem cw_X3_18 : CVw RX3 18 RX6 yX6_allSets cX6_allSets 1 (some .int) 0 := ⟨tb_pl _ [589, 590, 591, 73, 592] (by decide +kernel) (by decide +kernel), by decide +kernel⟩
theorem cw_X3_24 : CVw RX3 24 RX3 yX3_weighUp cX3_weighUp 6 none 3 := ⟨tb_pl _ [593, 595, 16, 76, 596] (by decide +kernel) (by decide +kernel), by decide +kernel⟩
theorem cw_X3_28 : CVw RX3 28 RX6 yX6_penceOf cX6_penceOf 4 (some .int) 1 := ⟨tb_pl _ [597, 598, 599, 73, 600] (by decide +kernel) (by decide +kernel), by decide +kernel⟩
theorem cw_X3_32 : CSw RX3 32 yJ6_bitCount_0f7a4 cJ6_bitCount_0f7a4 1 (some .int) 1 := ⟨tb_pl _ [601, 548, 87, 549] (by decide +kernel) (by decide +kernel), by decide +kernel⟩
theorem cw_X3_37 : CVw RX3 37 RX6 yX6_notYetKnown cX6_notYetKnown 5 (some .int) 2 := ⟨tb_pl _ [602, 603, 604, 73, 605] (by decide +kernel) (by decide +kernel), by decide +kernel⟩
theorem cw_X4_48 : CVw RX4 48 RX4 yX4_stepToNumber cX4_stepToNumber 3 (some .boolean) 2 := ⟨tb_pl _ [457, 459, 9, 74, 460] (by decide +kernel) (by decide +kernel), by decide +kernel⟩
theorem cw_X4_59 : CVw RX4 59 RX4 yX4_stepToStop cX4_stepToStop 1 (some .boolean) 0 := ⟨tb_pl _ [463, 465, 10, 74, 466] (by decide +kernel) (by decide +kernel), by decide +kernel⟩
theorem cw_X4_33 : CVw RX4 33 RX4 yX4_step cX4_step 1 none 0 := ⟨tb_pl _ [384, 386, 5, 74, 387] (by decide +kernel) (by decide +kernel), by decide +kernel⟩
theorem cw_X4_55 : CVw RX4 55 RX6 yX6_begin cX6_begin 3 none 1 := ⟨tb_pl _ [462, 103, 104, 73, 105] (by decide +kernel) (by decide +kernel), by decide +kernel⟩
theorem cw_X4_29 : CVw RX4 29 RX4 yX4_readFair cX4_readFair 1 (some .boolean) 0 := ⟨tb_pl _ [380, 382, 4, 74, 383] (by decide +kernel) (by decide +kernel), by decide +kernel⟩
theorem cw_X4_39 : CVw RX4 39 RX4 yX4_readCase cX4_readCase 2 (some .boolean) 0 := ⟨tb_pl _ [467, 469, 11, 74, 470] (by decide +kernel) (by decide +kernel), by decide +kernel⟩
theorem cw_X4_42 : CVw RX4 42 RX4 yX4_mayAskMore cX4_mayAskMore 1 (some .boolean) 0 := ⟨tb_pl _ [471, 473, 12, 74, 474] (by decide +kernel) (by decide +kernel), by decide +kernel⟩
theorem cw_X4_45 : CVw RX4 45 RX4 yX4_readQuestion cX4_readQuestion 3 (some .boolean) 0 := ⟨tb_pl _ [475, 477, 13, 74, 478] (by decide +kernel) (by decide +kernel), by decide +kernel⟩
theorem cw_X4_72 : CVw RX4 72 RX6 yX6_addQuestion cX6_addQuestion 5 none 3 := ⟨tb_pl _ [479, 335, 336, 73, 337] (by decide +kernel) (by decide +kernel), by decide +kernel⟩
theorem cw_X4_106 : CVw RX4 106 RJ0 yJ0_length_8abf5 cJ0_length_8abf5 1 (some .int) 0 := ⟨tb_pl _ [407, 408, 409, 82, 410] (by decide +kernel) (by decide +kernel), by decide +kernel⟩
theorem cw_X4_111 : CVw RX4 111 RJ0 yJ0_charAt_5068e cJ0_charAt_5068e 2 (some .char) 1 := ⟨tb_pl _ [417, 418, 419, 82, 420] (by decide +kernel) (by decide +kernel), by decide +kernel⟩
theorem cw_X4_83 : CSw RX4 83 yX4_isFigure cX4_isFigure 1 (some .boolean) 1 := ⟨tb_pl _ [388, 389, 74, 390] (by decide +kernel) (by decide +kernel), by decide +kernel⟩
theorem cw_X4_87 : CVw RX4 87 RX4 yX4_stepOverNumber cX4_stepOverNumber 1 none 0 := ⟨tb_pl _ [391, 393, 6, 74, 394] (by decide +kernel) (by decide +kernel), by decide +kernel⟩
theorem cw_X4_90 : CSw RX4 90 yX4_isLetter cX4_isLetter 1 (some .boolean) 1 := ⟨tb_pl _ [395, 396, 74, 397] (by decide +kernel) (by decide +kernel), by decide +kernel⟩
theorem cw_X4_93 : CVw RX4 93 RX4 yX4_stepOverWord cX4_stepOverWord 1 none 0 := ⟨tb_pl _ [398, 400, 7, 74, 401] (by decide +kernel) (by decide +kernel), by decide +kernel⟩
theorem cw_X4_98 : CVw RX4 98 RX4 yX4_spells cX4_spells 3 (some .boolean) 1 := ⟨tb_pl _ [403, 405, 8, 74, 406] (by decide +kernel) (by decide +kernel), by decide +kernel⟩
theorem cw_X4_76 : CNw RX4 RX7 76 yX7_within cX7_within 3 (some .boolean) 3 := ⟨List.mem_of_getElem? (i := 461) (by decide +kernel), tb_pl _ [315, 72, 316] (by decide +kernel) (by decide +kernel), by decide +kernel⟩
theorem cw_X5_29 : CSw RX5 29 yX5_unknownWeight cX5_unknownWeight 3 (some .int) 3 := ⟨tb_pl _ [671, 672, 78, 673] (by decide +kernel) (by decide +kernel), by decide +kernel⟩
theorem cw_X5_33 : CVw RX5 33 RX6 yX6_allSets cX6_allSets 1 (some .int) 0 := ⟨tb_pl _ [692, 590, 591, 73, 592] (by decide +kernel) (by decide +kernel), by decide +kernel⟩
theorem cw_X5_37 : CVw RX5 37 RX5 yX5_settle cX5_settle 8 none 3 := ⟨tb_pl _ [693, 695, 21, 78, 696] (by decide +kernel) (by decide +kernel), by decide +kernel⟩
theorem cw_X5_41 : CVw RX5 41 RX5 yX5_firstOfLeast cX5_firstOfLeast 6 (some .int) 3 := ⟨tb_pl _ [701, 703, 22, 78, 704] (by decide +kernel) (by decide +kernel), by decide +kernel⟩
theorem cw_X5_44 : CSw RX5 44 yJ9_min_7cf53 cJ9_min_7cf53 2 (some .int) 2 := ⟨tb_pl _ [697, 698, 81, 699] (by decide +kernel) (by decide +kernel), by decide +kernel⟩
theorem cw_X5_50 : CSw RX5 50 yJ9_max_7cf53 cJ9_max_7cf53 2 (some .int) 2 := ⟨tb_pl _ [700, 524, 81, 525] (by decide +kernel) (by decide +kernel), by decide +kernel⟩
theorem cw_X5_53 : CVw RX5 53 RX6 yX6_notYetKnown cX6_notYetKnown 5 (some .int) 2 := ⟨tb_pl _ [674, 603, 604, 73, 605] (by decide +kernel) (by decide +kernel), by decide +kernel⟩
theorem cw_X5_56 : CVw RX5 56 RX6 yX6_weightOf cX6_weightOf 4 (some .int) 1 := ⟨tb_pl _ [675, 562, 563, 73, 564] (by decide +kernel) (by decide +kernel), by decide +kernel⟩
theorem cw_X5_22 : CNw RX5 RX7 22 yX7_within cX7_within 3 (some .boolean) 3 := ⟨List.mem_of_getElem? (i := 670) (by decide +kernel), tb_pl _ [315, 72, 316] (by decide +kernel) (by decide +kernel), by decide +kernel⟩
theorem cw_X6_68 : CVw RX6 68 RX6 yX6_remember cX6_remember 2 none 1 := ⟨tb_pl _ [495, 497, 14, 73, 498] (by decide +kernel) (by decide +kernel), by decide +kernel⟩
theorem cw_X6_56 : CVw RX6 56 RX6 yX6_setAlike cX6_setAlike 6 none 2 := ⟨tb_pl _ [338, 340, 2, 73, 341] (by decide +kernel) (by decide +kernel), by decide +kernel⟩
theorem cw_X6_64 : CNw RX6 RX7 64 yX7_answerOf cX7_answerOf 6 (some .int) 3 := ⟨List.mem_of_getElem? (i := 346) (by decide +kernel), tb_pl _ [347, 72, 348] (by decide +kernel) (by decide +kernel), by decide +kernel⟩
theorem cp_X6_50 : ∀ w ∈ [Cond.methodLink RX6 50 arraycopyName, Cond.native arraycopyName, Cond.static arraycopyName, Cond.initialized "java/lang/System"], w ∈ tb := tb_pl _ [484, 486, 485, 86] (by decide +kernel) (by decide +kernel)
theorem cw_X6_76 : CVw RX6 76 RX6 yX6_misfits cX6_misfits 4 (some .int) 1 := ⟨tb_pl _ [503, 505, 15, 73, 506] (by decide +kernel) (by decide +kernel), by decide +kernel⟩
theorem cw_X6_80 : CSw RX6 80 yJ6_bitCount_0f7a4 cJ6_bitCount_0f7a4 1 (some .int) 1 := ⟨tb_pl _ [547, 548, 87, 549] (by decide +kernel) (by decide +kernel), by decide +kernel⟩
theorem cw_X6_71 : CSw RX6 71 yJ9_max_7cf53 cJ9_max_7cf53 2 (some .int) 2 := ⟨tb_pl _ [523, 524, 81, 525] (by decide +kernel) (by decide +kernel), by decide +kernel⟩
theorem cw_X6_33 : CVw RX6 33 RX6 yX6_begin cX6_begin 3 none 1 := ⟨tb_pl _ [102, 103, 104, 73, 105] (by decide +kernel) (by decide +kernel), by decide +kernel⟩
theorem cw_X6_85 : CVw RX6 85 RX6 yX6_weightOf cX6_weightOf 4 (some .int) 1 := ⟨tb_pl _ [561, 562, 563, 73, 564] (by decide +kernel) (by decide +kernel), by decide +kernel⟩
theorem cw_X6_60 : CVw RX6 60 RX6 yX6_answerIn cX6_answerIn 3 (some .int) 2 := ⟨tb_pl _ [342, 343, 344, 73, 345] (by decide +kernel) (by decide +kernel), by decide +kernel⟩
theorem cw_X6_88 : CVw RX6 88 RX6 yX6_behind cX6_behind 6 (some .int) 3 := ⟨tb_pl _ [606, 607, 608, 73, 609] (by decide +kernel) (by decide +kernel), by decide +kernel⟩
theorem cw_X7_102 : CVw RX7 102 RX7 yX7_isQuestion cX7_isQuestion 2 (some .boolean) 1 := ⟨tb_pl _ [356, 358, 3, 72, 359] (by decide +kernel) (by decide +kernel), by decide +kernel⟩
theorem cw_X7_91 : CVw RX7 91 RX7 yX7_isCase cX7_isCase 2 (some .boolean) 1 := ⟨tb_pl _ [326, 328, 1, 72, 329] (by decide +kernel) (by decide +kernel), by decide +kernel⟩
theorem cw_X7_79 : CVw RX7 79 RX7 yX7_refuse cX7_refuse 4 (some .int) 2 := ⟨tb_pl _ [317, 319, 0, 72, 320] (by decide +kernel) (by decide +kernel), by decide +kernel⟩
theorem cw_X7_154 : CVw RX7 154 RX6 yX6_answerIn cX6_answerIn 3 (some .int) 2 := ⟨tb_pl _ [534, 343, 344, 73, 345] (by decide +kernel) (by decide +kernel), by decide +kernel⟩
theorem cw_X7_269 : CSw RX7 269 yJ9_floorMod_7cf53 cJ9_floorMod_7cf53 3 (some .int) 2 := ⟨tb_pl _ [349, 350, 81, 351] (by decide +kernel) (by decide +kernel), by decide +kernel⟩
theorem cw_X7_75 : CSw RX7 75 yX7_within cX7_within 3 (some .boolean) 3 := ⟨tb_pl _ [314, 315, 72, 316] (by decide +kernel) (by decide +kernel), by decide +kernel⟩
theorem cw_X7_131 : CVw RX7 131 RX6 yX6_addAsked cX6_addAsked 3 none 2 := ⟨tb_pl _ [491, 492, 493, 73, 494] (by decide +kernel) (by decide +kernel), by decide +kernel⟩
theorem cw_X7_135 : CVw RX7 135 RX6 yX6_fitting cX6_fitting 4 (some .int) 1 := ⟨tb_pl _ [499, 500, 501, 73, 502] (by decide +kernel) (by decide +kernel), by decide +kernel⟩
theorem cw_X7_169 : CVw RX7 169 RX3 yX3_seek cX3_seek 6 none 4 := ⟨tb_pl _ [585, 586, 587, 76, 588] (by decide +kernel) (by decide +kernel), by decide +kernel⟩
theorem cw_X7_157 : CVw RX7 157 RX6 yX6_greatestPart cX6_greatestPart 5 (some .int) 2 := ⟨tb_pl _ [543, 544, 545, 73, 546] (by decide +kernel) (by decide +kernel), by decide +kernel⟩
theorem cw_X7_216 : CVw RX7 216 RX5 yX5_leastRow cX5_leastRow 7 (some .int) 2 := ⟨tb_pl _ [688, 689, 690, 78, 691] (by decide +kernel) (by decide +kernel), by decide +kernel⟩
theorem cw_X7_209 : CVw RX7 209 RX6 yX6_weightOf cX6_weightOf 4 (some .int) 1 := ⟨tb_pl _ [676, 562, 563, 73, 564] (by decide +kernel) (by decide +kernel), by decide +kernel⟩
theorem cw_X7_212 : CVw RX7 212 RX1 yX1_become cX1_become 7 none 2 := ⟨tb_pl _ [677, 678, 679, 75, 680] (by decide +kernel) (by decide +kernel), by decide +kernel⟩
theorem cw_X7_250 : CVw RX7 250 RX7 yX7_howMany cX7_howMany 2 (some .int) 1 := ⟨tb_pl _ [759, 761, 25, 72, 762] (by decide +kernel) (by decide +kernel), by decide +kernel⟩
theorem cw_X7_160 : CVw RX7 160 RX6 yX6_howManyParts cX6_howManyParts 6 (some .int) 2 := ⟨tb_pl _ [553, 554, 555, 73, 556] (by decide +kernel) (by decide +kernel), by decide +kernel⟩
theorem cw_X7_163 : CVw RX7 163 RX6 yX6_lightestPart cX6_lightestPart 7 (some .int) 2 := ⟨tb_pl _ [557, 558, 559, 73, 560] (by decide +kernel) (by decide +kernel), by decide +kernel⟩
theorem cw_X7_256 : CVw RX7 256 RX6 yX6_mixInto cX6_mixInto 6 (some .long) 1 := ⟨tb_pl _ [770, 771, 772, 73, 773] (by decide +kernel) (by decide +kernel), by decide +kernel⟩
theorem cw_X7_87 : CVw RX7 87 RX6 yX6_begin cX6_begin 3 none 1 := ⟨tb_pl _ [321, 103, 104, 73, 105] (by decide +kernel) (by decide +kernel), by decide +kernel⟩
theorem cw_X7_139 : CVw RX7 139 RX6 yX6_dropFirstAsked cX6_dropFirstAsked 1 none 0 := ⟨tb_pl _ [511, 512, 513, 73, 514] (by decide +kernel) (by decide +kernel), by decide +kernel⟩
theorem cw_X7_246 : CVw RX7 246 RX7 yX7_imageAt cX7_imageAt 2 (some (.object "QuestionFair$Stand")) 1 := ⟨tb_pl _ [743, 745, 24, 72, 746] (by decide +kernel) (by decide +kernel), by decide +kernel⟩
theorem cw_X7_124 : CVw RX7 124 RX6 yX6_takeFrom cX6_takeFrom 2 none 1 := ⟨tb_pl _ [480, 481, 482, 73, 483] (by decide +kernel) (by decide +kernel), by decide +kernel⟩
theorem cw_X7_223 : CVw RX7 223 RX3 yX3_winsWhenPenceAreLike cX3_winsWhenPenceAreLike 4 (some .boolean) 1 := ⟨tb_pl _ [709, 710, 711, 76, 712] (by decide +kernel) (by decide +kernel), by decide +kernel⟩
theorem cw_X7_227 : CSw RX7 227 yJ9_min_7cf53 cJ9_min_7cf53 2 (some .int) 2 := ⟨tb_pl _ [713, 698, 81, 699] (by decide +kernel) (by decide +kernel), by decide +kernel⟩
theorem cw_X7_263 : CSw RX7 263 yJ6_bitCount_0f7a4 cJ6_bitCount_0f7a4 1 (some .int) 1 := ⟨tb_pl _ [763, 548, 87, 549] (by decide +kernel) (by decide +kernel), by decide +kernel⟩
theorem cw_X7_189 : CVw RX7 189 RX6 yX6_allCases cX6_allCases 1 (some .int) 0 := ⟨tb_pl _ [642, 643, 644, 73, 645] (by decide +kernel) (by decide +kernel), by decide +kernel⟩
theorem cw_X7_192 : CVw RX7 192 RX6 yX6_allSets cX6_allSets 1 (some .int) 0 := ⟨tb_pl _ [646, 590, 591, 73, 592] (by decide +kernel) (by decide +kernel), by decide +kernel⟩
theorem cw_X7_195 : CVw RX7 195 RX6 yX6_behind cX6_behind 6 (some .int) 3 := ⟨tb_pl _ [647, 607, 608, 73, 609] (by decide +kernel) (by decide +kernel), by decide +kernel⟩
theorem cw_X7_178 : CVw RX7 178 RX2 yX2_lay cX2_lay 7 none 2 := ⟨tb_pl _ [614, 615, 616, 77, 617] (by decide +kernel) (by decide +kernel), by decide +kernel⟩
theorem cw_X7_199 : CVw RX7 199 RX6 yX6_pairsParted cX6_pairsParted 5 (some .int) 2 := ⟨tb_pl _ [652, 653, 654, 73, 655] (by decide +kernel) (by decide +kernel), by decide +kernel⟩
theorem cw_X7_98 : CVw RX7 98 RX6 yX6_addQuestion cX6_addQuestion 5 none 3 := ⟨tb_pl _ [334, 335, 336, 73, 337] (by decide +kernel) (by decide +kernel), by decide +kernel⟩
theorem cw_X7_114 : CVw RX7 114 RX4 yX4_readItems cX4_readItems 4 (some .int) 0 := ⟨tb_pl _ [376, 377, 378, 74, 379] (by decide +kernel) (by decide +kernel), by decide +kernel⟩
theorem cw_X7_202 : CVw RX7 202 RX7 yX7_isRow cX7_isRow 4 (some .boolean) 1 := ⟨tb_pl _ [660, 662, 20, 72, 663] (by decide +kernel) (by decide +kernel), by decide +kernel⟩
theorem cw_X7_205 : CVw RX7 205 RX5 yX5_weighedPence cX5_weighedPence 9 (some .int) 3 := ⟨tb_pl _ [665, 666, 667, 78, 668] (by decide +kernel) (by decide +kernel), by decide +kernel⟩
theorem cw_X7_166 : CVw RX7 166 RX6 yX6_partAlike cX6_partAlike 6 (some .boolean) 3 := ⟨tb_pl _ [573, 574, 575, 73, 576] (by decide +kernel) (by decide +kernel), by decide +kernel⟩
theorem cw_X7_237 : CVw RX7 237 RX0 yX0_oneStall cX0_oneStall 8 (some .int) 2 := ⟨tb_pl _ [719, 720, 721, 79, 722] (by decide +kernel) (by decide +kernel), by decide +kernel⟩
theorem cw_X7_111 : CVw RX7 111 RX4 yX4_addByte cX4_addByte 2 none 1 := ⟨tb_pl _ [364, 365, 366, 74, 367] (by decide +kernel) (by decide +kernel), by decide +kernel⟩
theorem cw_X7_145 : CVw RX7 145 RX6 yX6_stepBack cX6_stepBack 2 none 0 := ⟨tb_pl _ [519, 520, 521, 73, 522] (by decide +kernel) (by decide +kernel), by decide +kernel⟩
theorem cw_X8_103 : CVw RX8 103 RX8 yX8_isQuestion cX8_isQuestion 2 (some .boolean) 1 := ⟨tb_pl _ [915, 917, 31, 80, 918] (by decide +kernel) (by decide +kernel), by decide +kernel⟩
theorem cw_X8_92 : CVw RX8 92 RX8 yX8_isCase cX8_isCase 2 (some .boolean) 1 := ⟨tb_pl _ [895, 897, 28, 80, 898] (by decide +kernel) (by decide +kernel), by decide +kernel⟩
theorem cw_X8_169 : CVw RX8 169 RX8 yX8_answerOf cX8_answerOf 3 (some .int) 2 := ⟨tb_pl _ [1005, 1007, 48, 80, 1008] (by decide +kernel) (by decide +kernel), by decide +kernel⟩
theorem cw_X8_88 : CVw RX8 88 RX8 yX8_bad cX8_bad 1 (some .int) 0 := ⟨tb_pl _ [887, 889, 27, 80, 890] (by decide +kernel) (by decide +kernel), by decide +kernel⟩
theorem cw_X8_166 : CSw RX8 166 yX8_answerBy cX8_answerBy 5 (some .int) 3 := ⟨tb_pl _ [1009, 1010, 80, 1011] (by decide +kernel) (by decide +kernel), by decide +kernel⟩
theorem cw_X8_188 : CSw RX8 188 yX8_has cX8_has 2 (some .boolean) 2 := ⟨tb_pl _ [1052, 1053, 80, 1054] (by decide +kernel) (by decide +kernel), by decide +kernel⟩
theorem cw_X8_201 : CVw RX8 201 RX8 yX8_parts cX8_parts 4 (some .boolean) 3 := ⟨tb_pl _ [1071, 1073, 54, 80, 1074] (by decide +kernel) (by decide +kernel), by decide +kernel⟩
theorem cw_X8_84 : CSw RX8 84 yX8_in cX8_in 3 (some .boolean) 3 := ⟨tb_pl _ [884, 885, 80, 886] (by decide +kernel) (by decide +kernel), by decide +kernel⟩
theorem cw_X8_96 : CVw RX8 96 RX8 yX8_full cX8_full 1 (some .int) 0 := ⟨tb_pl _ [903, 905, 29, 80, 906] (by decide +kernel) (by decide +kernel), by decide +kernel⟩
theorem cw_X8_179 : CVw RX8 179 RX8 yX8_notes cX8_notes 3 none 0 := ⟨tb_pl _ [989, 991, 44, 80, 992] (by decide +kernel) (by decide +kernel), by decide +kernel⟩
theorem cw_X8_182 : CVw RX8 182 RX8 yX8_leftOver cX8_leftOver 3 (some .int) 0 := ⟨tb_pl _ [993, 995, 45, 80, 996] (by decide +kernel) (by decide +kernel), by decide +kernel⟩
theorem cw_X8_213 : CVw RX8 213 RX8 yX8_setTells cX8_setTells 6 none 1 := ⟨tb_pl _ [1083, 1085, 55, 80, 1086] (by decide +kernel) (by decide +kernel), by decide +kernel⟩
theorem cw_X8_216 : CVw RX8 216 RX8 yX8_cheapest cX8_cheapest 4 (some .int) 0 := ⟨tb_pl _ [1087, 1089, 56, 80, 1090] (by decide +kernel) (by decide +kernel), by decide +kernel⟩
theorem cw_X8_210 : CVw RX8 210 RX8 yX8_costOf cX8_costOf 4 (some .int) 1 := ⟨tb_pl _ [1091, 1093, 57, 80, 1094] (by decide +kernel) (by decide +kernel), by decide +kernel⟩
theorem cw_X8_198 : CVw RX8 198 RX8 yX8_cutOf cX8_cutOf 11 (some .int) 3 := ⟨tb_pl _ [1040, 1042, 50, 80, 1043] (by decide +kernel) (by decide +kernel), by decide +kernel⟩
theorem cw_X8_185 : CVw RX8 185 RX8 yX8_no cX8_no 1 (some .int) 0 := ⟨tb_pl _ [1016, 1018, 49, 80, 1019] (by decide +kernel) (by decide +kernel), by decide +kernel⟩
theorem cw_X8_250 : CVw RX8 250 RX8 yX8_lineNumber cX8_lineNumber 3 (some .int) 0 := ⟨tb_pl _ [1155, 1157, 66, 80, 1158] (by decide +kernel) (by decide +kernel), by decide +kernel⟩
theorem cw_X8_243 : CVw RX8 243 RX8 yX8_paidBy cX8_paidBy 7 (some .int) 1 := ⟨tb_pl _ [1143, 1145, 64, 80, 1146] (by decide +kernel) (by decide +kernel), by decide +kernel⟩
theorem cw_X8_253 : CVw RX8 253 RX8 yX8_nextLine cX8_nextLine 6 (some .boolean) 0 := ⟨tb_pl _ [1159, 1161, 67, 80, 1162] (by decide +kernel) (by decide +kernel), by decide +kernel⟩
theorem cw_X8_195 : CVw RX8 195 RX8 yX8_weightOf cX8_weightOf 4 (some .int) 1 := ⟨tb_pl _ [1048, 1050, 51, 80, 1051] (by decide +kernel) (by decide +kernel), by decide +kernel⟩
theorem cw_X8_246 : CVw RX8 246 RX8 yX8_lay cX8_lay 11 none 2 := ⟨tb_pl _ [1147, 1149, 65, 80, 1150] (by decide +kernel) (by decide +kernel), by decide +kernel⟩
theorem cw_X8_192 : CSw RX8 192 yX8_bits cX8_bits 3 (some .int) 1 := ⟨tb_pl _ [1045, 1046, 80, 1047] (by decide +kernel) (by decide +kernel), by decide +kernel⟩
theorem cw_X8_274 : CVw RX8 274 RX8 yX8_countOf cX8_countOf 2 (some .int) 1 := ⟨tb_pl _ [1199, 1201, 69, 80, 1202] (by decide +kernel) (by decide +kernel), by decide +kernel⟩
theorem cw_X8_176 : CVw RX8 176 RX8 yX8_casesBy cX8_casesBy 5 (some .int) 2 := ⟨tb_pl _ [1001, 1003, 47, 80, 1004] (by decide +kernel) (by decide +kernel), by decide +kernel⟩
theorem cw_X8_284 : CVw RX8 284 RX8 yX8_mix cX8_mix 3 none 1 := ⟨tb_pl _ [1208, 1210, 70, 80, 1211] (by decide +kernel) (by decide +kernel), by decide +kernel⟩
theorem cw_X8_125 : CVw RX8 125 RX8 yX8_skip cX8_skip 1 none 0 := ⟨tb_pl _ [939, 941, 34, 80, 942] (by decide +kernel) (by decide +kernel), by decide +kernel⟩
theorem cw_X8_112 : CVw RX8 112 RX8 yX8_here cX8_here 1 (some .int) 0 := ⟨tb_pl _ [943, 945, 35, 80, 946] (by decide +kernel) (by decide +kernel), by decide +kernel⟩
theorem cw_X8_71 : CVw RX8 71 RX8 yX8_begin cX8_begin 3 none 1 := ⟨tb_pl _ [782, 784, 26, 80, 785] (by decide +kernel) (by decide +kernel), by decide +kernel⟩
theorem cw_X8_173 : CVw RX8 173 RX8 yX8_everyCase cX8_everyCase 1 (some .int) 0 := ⟨tb_pl _ [997, 999, 46, 80, 1000] (by decide +kernel) (by decide +kernel), by decide +kernel⟩
theorem cw_X8_204 : CVw RX8 204 RX8 yX8_ten cX8_ten 1 (some .int) 0 := ⟨tb_pl _ [1063, 1065, 52, 80, 1066] (by decide +kernel) (by decide +kernel), by decide +kernel⟩
theorem cw_X8_225 : CVw RX8 225 RX8 yX8_knownBy cX8_knownBy 5 (some .int) 2 := ⟨tb_pl _ [1119, 1121, 60, 80, 1122] (by decide +kernel) (by decide +kernel), by decide +kernel⟩
theorem cw_X8_128 : CSw RX8 128 yX8_isFigure cX8_isFigure 1 (some .boolean) 1 := ⟨tb_pl _ [966, 967, 80, 968] (by decide +kernel) (by decide +kernel), by decide +kernel⟩
theorem cw_X8_222 : CVw RX8 222 RX8 yX8_setLeast cX8_setLeast 4 none 1 := ⟨tb_pl _ [1103, 1105, 58, 80, 1106] (by decide +kernel) (by decide +kernel), by decide +kernel⟩
theorem cw_X8_228 : CVw RX8 228 RX8 yX8_partedByAny cX8_partedByAny 7 (some .int) 1 := ⟨tb_pl _ [1127, 1129, 61, 80, 1130] (by decide +kernel) (by decide +kernel), by decide +kernel⟩
theorem cw_X8_231 : CVw RX8 231 RX8 yX8_partedBy cX8_partedBy 6 (some .int) 2 := ⟨tb_pl _ [1131, 1133, 62, 80, 1134] (by decide +kernel) (by decide +kernel), by decide +kernel⟩
theorem cw_X8_99 : CVw RX8 99 RX8 yX8_add cX8_add 4 (some .int) 3 := ⟨tb_pl _ [907, 909, 30, 80, 910] (by decide +kernel) (by decide +kernel), by decide +kernel⟩
theorem cw_X8_163 : CVw RX8 163 RX8 yX8_readsFair cX8_readsFair 2 (some .int) 0 := ⟨tb_pl _ [931, 933, 32, 80, 934] (by decide +kernel) (by decide +kernel), by decide +kernel⟩
theorem cw_X8_137 : CVw RX8 137 RX8 yX8_number cX8_number 5 (some .boolean) 2 := ⟨tb_pl _ [962, 964, 39, 80, 965] (by decide +kernel) (by decide +kernel), by decide +kernel⟩
theorem cw_X8_141 : CVw RX8 141 RX8 yX8_ends cX8_ends 1 (some .boolean) 0 := ⟨tb_pl _ [969, 971, 40, 80, 972] (by decide +kernel) (by decide +kernel), by decide +kernel⟩
theorem cw_X8_157 : CVw RX8 157 RX8 yX8_readsFirst cX8_readsFirst 1 (some .boolean) 0 := ⟨tb_pl _ [935, 937, 33, 80, 938] (by decide +kernel) (by decide +kernel), by decide +kernel⟩
theorem cw_X8_160 : CVw RX8 160 RX8 yX8_readsItem cX8_readsItem 2 (some .boolean) 0 := ⟨tb_pl _ [973, 975, 41, 80, 976] (by decide +kernel) (by decide +kernel), by decide +kernel⟩
theorem cw_X8_148 : CVw RX8 148 RX8 yX8_wordHere cX8_wordHere 3 (some .int) 0 := ⟨tb_pl _ [947, 949, 36, 80, 950] (by decide +kernel) (by decide +kernel), by decide +kernel⟩
theorem cw_X8_151 : CVw RX8 151 RX8 yX8_readsCase cX8_readsCase 2 (some .boolean) 0 := ⟨tb_pl _ [977, 979, 42, 80, 980] (by decide +kernel) (by decide +kernel), by decide +kernel⟩
theorem cw_X8_154 : CVw RX8 154 RX8 yX8_readsQuestion cX8_readsQuestion 2 (some .boolean) 0 := ⟨tb_pl _ [981, 983, 43, 80, 984] (by decide +kernel) (by decide +kernel), by decide +kernel⟩
theorem cw_X8_240 : CVw RX8 240 RX8 yX8_layLine cX8_layLine 6 (some .boolean) 1 := ⟨tb_pl _ [1139, 1141, 63, 80, 1142] (by decide +kernel) (by decide +kernel), by decide +kernel⟩
theorem cw_X8_207 : CVw RX8 207 RX8 yX8_areSame cX8_areSame 7 (some .boolean) 3 := ⟨tb_pl _ [1067, 1069, 53, 80, 1070] (by decide +kernel) (by decide +kernel), by decide +kernel⟩
theorem cw_X8_219 : CVw RX8 219 RX8 yX8_setOne cX8_setOne 9 none 1 := ⟨tb_pl _ [1107, 1109, 59, 80, 1110] (by decide +kernel) (by decide +kernel), by decide +kernel⟩
theorem cw_X8_268 : CVw RX8 268 RX8 yX8_drawn cX8_drawn 2 (some .int) 1 := ⟨tb_pl _ [1168, 1170, 68, 80, 1171] (by decide +kernel) (by decide +kernel), by decide +kernel⟩
theorem cw_X8_271 : CSw RX8 271 yX8_placed cX8_placed 4 (some .int) 2 := ⟨tb_pl _ [1176, 1177, 80, 1178] (by decide +kernel) (by decide +kernel), by decide +kernel⟩
theorem cw_X8_118 : CVw RX8 118 RX8 yX8_wordSize cX8_wordSize 2 (some .int) 0 := ⟨tb_pl _ [951, 953, 37, 80, 954] (by decide +kernel) (by decide +kernel), by decide +kernel⟩
theorem cw_X8_121 : CVw RX8 121 RX8 yX8_letter cX8_letter 2 (some .int) 1 := ⟨tb_pl _ [958, 960, 38, 80, 961] (by decide +kernel) (by decide +kernel), by decide +kernel⟩
theorem cw_X8_115 : CSw RX8 115 yX8_isLetter cX8_isLetter 1 (some .boolean) 1 := ⟨tb_pl _ [955, 956, 80, 957] (by decide +kernel) (by decide +kernel), by decide +kernel⟩
theorem cw_L_13 : CVw RL 13 RX7 yX7_fair cX7_fair 3 (some .int) 1 := ⟨tb_pl _ [310, 311, 312, 72, 313] (by decide +kernel) (by decide +kernel), by decide +kernel⟩
theorem cw_L_17 : CVw RL 17 RX8 yX8_fair cX8_fair 3 (some .int) 1 := ⟨tb_pl _ [880, 881, 882, 80, 883] (by decide +kernel) (by decide +kernel), by decide +kernel⟩
theorem cw_L_18 : CVw RL 18 RX7 yX7_weigh cX7_weigh 4 (some .int) 2 := ⟨tb_pl _ [322, 323, 324, 72, 325] (by decide +kernel) (by decide +kernel), by decide +kernel⟩
theorem cw_L_22 : CVw RL 22 RX8 yX8_weigh cX8_weigh 4 (some .int) 2 := ⟨tb_pl _ [891, 892, 893, 80, 894] (by decide +kernel) (by decide +kernel), by decide +kernel⟩
theorem cw_L_23 : CVw RL 23 RX7 yX7_question cX7_question 4 (some .int) 3 := ⟨tb_pl _ [330, 331, 332, 72, 333] (by decide +kernel) (by decide +kernel), by decide +kernel⟩
theorem cw_L_27 : CVw RL 27 RX8 yX8_question cX8_question 4 (some .int) 3 := ⟨tb_pl _ [899, 900, 901, 80, 902] (by decide +kernel) (by decide +kernel), by decide +kernel⟩
theorem cw_L_28 : CVw RL 28 RX7 yX7_price cX7_price 4 (some .int) 2 := ⟨tb_pl _ [352, 353, 354, 72, 355] (by decide +kernel) (by decide +kernel), by decide +kernel⟩
theorem cw_L_31 : CVw RL 31 RX8 yX8_price cX8_price 4 (some .int) 2 := ⟨tb_pl _ [911, 912, 913, 80, 914] (by decide +kernel) (by decide +kernel), by decide +kernel⟩
theorem cw_L_32 : CVw RL 32 RX7 yX7_type cX7_type 2 (some .int) 1 := ⟨tb_pl _ [360, 361, 362, 72, 363] (by decide +kernel) (by decide +kernel), by decide +kernel⟩
theorem cw_L_35 : CVw RL 35 RX8 yX8_type cX8_type 2 (some .int) 1 := ⟨tb_pl _ [919, 920, 921, 80, 922] (by decide +kernel) (by decide +kernel), by decide +kernel⟩
theorem cw_L_36 : CVw RL 36 RX7 yX7_clear cX7_clear 2 (some .int) 0 := ⟨tb_pl _ [368, 369, 370, 72, 371] (by decide +kernel) (by decide +kernel), by decide +kernel⟩
theorem cw_L_40 : CVw RL 40 RX8 yX8_clear cX8_clear 2 (some .int) 0 := ⟨tb_pl _ [923, 924, 925, 80, 926] (by decide +kernel) (by decide +kernel), by decide +kernel⟩
theorem cw_L_41 : CVw RL 41 RX7 yX7_read cX7_read 2 (some .int) 0 := ⟨tb_pl _ [372, 373, 374, 72, 375] (by decide +kernel) (by decide +kernel), by decide +kernel⟩
theorem cw_L_44 : CVw RL 44 RX8 yX8_read cX8_read 3 (some .int) 0 := ⟨tb_pl _ [927, 928, 929, 80, 930] (by decide +kernel) (by decide +kernel), by decide +kernel⟩
theorem cw_L_45 : CVw RL 45 RX7 yX7_ask cX7_ask 3 (some .int) 2 := ⟨tb_pl _ [487, 488, 489, 72, 490] (by decide +kernel) (by decide +kernel), by decide +kernel⟩
theorem cw_L_48 : CVw RL 48 RX8 yX8_ask cX8_ask 3 (some .int) 2 := ⟨tb_pl _ [985, 986, 987, 80, 988] (by decide +kernel) (by decide +kernel), by decide +kernel⟩
theorem cw_L_49 : CVw RL 49 RX7 yX7_forget cX7_forget 1 (some .int) 0 := ⟨tb_pl _ [507, 508, 509, 72, 510] (by decide +kernel) (by decide +kernel), by decide +kernel⟩
theorem cw_L_52 : CVw RL 52 RX8 yX8_forget cX8_forget 2 (some .int) 0 := ⟨tb_pl _ [1012, 1013, 1014, 80, 1015] (by decide +kernel) (by decide +kernel), by decide +kernel⟩
theorem cw_L_53 : CVw RL 53 RX7 yX7_undo cX7_undo 1 (some .int) 0 := ⟨tb_pl _ [515, 516, 517, 72, 518] (by decide +kernel) (by decide +kernel), by decide +kernel⟩
theorem cw_L_56 : CVw RL 56 RX8 yX8_undo cX8_undo 3 (some .int) 0 := ⟨tb_pl _ [1020, 1021, 1022, 80, 1023] (by decide +kernel) (by decide +kernel), by decide +kernel⟩
theorem cw_L_57 : CVw RL 57 RX7 yX7_of cX7_of 3 (some .int) 2 := ⟨tb_pl _ [526, 527, 528, 72, 529] (by decide +kernel) (by decide +kernel), by decide +kernel⟩
theorem cw_L_60 : CVw RL 60 RX8 yX8_of cX8_of 3 (some .int) 2 := ⟨tb_pl _ [1024, 1025, 1026, 80, 1027] (by decide +kernel) (by decide +kernel), by decide +kernel⟩
theorem cw_L_61 : CVw RL 61 RX7 yX7_answer cX7_answer 3 (some .int) 2 := ⟨tb_pl _ [530, 531, 532, 72, 533] (by decide +kernel) (by decide +kernel), by decide +kernel⟩
theorem cw_L_64 : CVw RL 64 RX8 yX8_answer cX8_answer 3 (some .int) 2 := ⟨tb_pl _ [1028, 1029, 1030, 80, 1031] (by decide +kernel) (by decide +kernel), by decide +kernel⟩
theorem cw_L_65 : CVw RL 65 RX7 yX7_left cX7_left 1 (some .int) 0 := ⟨tb_pl _ [535, 536, 537, 72, 538] (by decide +kernel) (by decide +kernel), by decide +kernel⟩
theorem cw_L_68 : CVw RL 68 RX8 yX8_left cX8_left 1 (some .int) 0 := ⟨tb_pl _ [1032, 1033, 1034, 80, 1035] (by decide +kernel) (by decide +kernel), by decide +kernel⟩
theorem cw_L_69 : CVw RL 69 RX7 yX7_cuts cX7_cuts 4 (some .int) 2 := ⟨tb_pl _ [539, 540, 541, 72, 542] (by decide +kernel) (by decide +kernel), by decide +kernel⟩
theorem cw_L_72 : CVw RL 72 RX8 yX8_cuts cX8_cuts 3 (some .int) 2 := ⟨tb_pl _ [1036, 1037, 1038, 80, 1039] (by decide +kernel) (by decide +kernel), by decide +kernel⟩
theorem cw_L_73 : CVw RL 73 RX7 yX7_empty cX7_empty 4 (some .int) 0 := ⟨tb_pl _ [565, 566, 567, 72, 568] (by decide +kernel) (by decide +kernel), by decide +kernel⟩
theorem cw_L_76 : CVw RL 76 RX8 yX8_empty cX8_empty 4 (some .int) 0 := ⟨tb_pl _ [1055, 1056, 1057, 80, 1058] (by decide +kernel) (by decide +kernel), by decide +kernel⟩
theorem cw_L_77 : CVw RL 77 RX7 yX7_same cX7_same 6 (some .int) 1 := ⟨tb_pl _ [569, 570, 571, 72, 572] (by decide +kernel) (by decide +kernel), by decide +kernel⟩
theorem cw_L_80 : CVw RL 80 RX8 yX8_same cX8_same 7 (some .int) 1 := ⟨tb_pl _ [1059, 1060, 1061, 80, 1062] (by decide +kernel) (by decide +kernel), by decide +kernel⟩
theorem cw_L_81 : CVw RL 81 RX7 yX7_best cX7_best 6 (some .int) 0 := ⟨tb_pl _ [577, 578, 579, 72, 580] (by decide +kernel) (by decide +kernel), by decide +kernel⟩
theorem cw_L_84 : CVw RL 84 RX8 yX8_best cX8_best 5 (some .int) 0 := ⟨tb_pl _ [1075, 1076, 1077, 80, 1078] (by decide +kernel) (by decide +kernel), by decide +kernel⟩
theorem cw_L_85 : CVw RL 85 RX7 yX7_atOnce cX7_atOnce 2 (some .int) 1 := ⟨tb_pl _ [581, 582, 583, 72, 584] (by decide +kernel) (by decide +kernel), by decide +kernel⟩
theorem cw_L_88 : CVw RL 88 RX8 yX8_atOnce cX8_atOnce 3 (some .int) 1 := ⟨tb_pl _ [1079, 1080, 1081, 80, 1082] (by decide +kernel) (by decide +kernel), by decide +kernel⟩
theorem cw_L_89 : CVw RL 89 RX7 yX7_oneByOne cX7_oneByOne 2 (some .int) 1 := ⟨tb_pl _ [610, 611, 612, 72, 613] (by decide +kernel) (by decide +kernel), by decide +kernel⟩
theorem cw_L_92 : CVw RL 92 RX8 yX8_oneByOne cX8_oneByOne 3 (some .int) 1 := ⟨tb_pl _ [1099, 1100, 1101, 80, 1102] (by decide +kernel) (by decide +kernel), by decide +kernel⟩
theorem cw_L_93 : CVw RL 93 RX7 yX7_oneWrong cX7_oneWrong 1 (some .int) 0 := ⟨tb_pl _ [634, 635, 636, 72, 637] (by decide +kernel) (by decide +kernel), by decide +kernel⟩
theorem cw_L_96 : CVw RL 96 RX8 yX8_oneWrong cX8_oneWrong 5 (some .int) 0 := ⟨tb_pl _ [1111, 1112, 1113, 80, 1114] (by decide +kernel) (by decide +kernel), by decide +kernel⟩
theorem cw_L_97 : CVw RL 97 RX7 yX7_knows cX7_knows 7 (some .int) 3 := ⟨tb_pl _ [638, 639, 640, 72, 641] (by decide +kernel) (by decide +kernel), by decide +kernel⟩
theorem cw_L_100 : CVw RL 100 RX8 yX8_knows cX8_knows 7 (some .int) 3 := ⟨tb_pl _ [1115, 1116, 1117, 80, 1118] (by decide +kernel) (by decide +kernel), by decide +kernel⟩
theorem cw_L_101 : CVw RL 101 RX7 yX7_parted cX7_parted 3 (some .int) 1 := ⟨tb_pl _ [648, 649, 650, 72, 651] (by decide +kernel) (by decide +kernel), by decide +kernel⟩
theorem cw_L_104 : CVw RL 104 RX8 yX8_parted cX8_parted 3 (some .int) 1 := ⟨tb_pl _ [1123, 1124, 1125, 80, 1126] (by decide +kernel) (by decide +kernel), by decide +kernel⟩
theorem cw_L_105 : CVw RL 105 RX7 yX7_row cX7_row 3 (some .int) 1 := ⟨tb_pl _ [656, 657, 658, 72, 659] (by decide +kernel) (by decide +kernel), by decide +kernel⟩
theorem cw_L_108 : CVw RL 108 RX8 yX8_row cX8_row 3 (some .int) 1 := ⟨tb_pl _ [1135, 1136, 1137, 80, 1138] (by decide +kernel) (by decide +kernel), by decide +kernel⟩
theorem cw_L_109 : CVw RL 109 RX7 yX7_bestRow cX7_bestRow 3 (some .int) 0 := ⟨tb_pl _ [684, 685, 686, 72, 687] (by decide +kernel) (by decide +kernel), by decide +kernel⟩
theorem cw_L_112 : CVw RL 112 RX8 yX8_bestRow cX8_bestRow 5 (some .int) 0 := ⟨tb_pl _ [1151, 1152, 1153, 80, 1154] (by decide +kernel) (by decide +kernel), by decide +kernel⟩
theorem cw_L_113 : CVw RL 113 RX7 yX7_haggle cX7_haggle 5 (some .int) 1 := ⟨tb_pl _ [705, 706, 707, 72, 708] (by decide +kernel) (by decide +kernel), by decide +kernel⟩
theorem cw_L_116 : CVw RL 116 RX8 yX8_haggle cX8_haggle 6 (some .int) 1 := ⟨tb_pl _ [1095, 1096, 1097, 80, 1098] (by decide +kernel) (by decide +kernel), by decide +kernel⟩
theorem cw_L_117 : CVw RL 117 RX7 yX7_stalls cX7_stalls 6 (some .int) 2 := ⟨tb_pl _ [714, 715, 716, 72, 717] (by decide +kernel) (by decide +kernel), by decide +kernel⟩
theorem cw_L_120 : CVw RL 120 RX8 yX8_stalls cX8_stalls 10 (some .int) 2 := ⟨tb_pl _ [1163, 1164, 1165, 80, 1166] (by decide +kernel) (by decide +kernel), by decide +kernel⟩
theorem cw_L_121 : CVw RL 121 RX7 yX7_part cX7_part 2 (some .long) 1 := ⟨tb_pl _ [735, 736, 737, 72, 738] (by decide +kernel) (by decide +kernel), by decide +kernel⟩
theorem cw_L_125 : CVw RL 125 RX8 yX8_part cX8_part 2 (some .long) 1 := ⟨tb_pl _ [1179, 1180, 1181, 80, 1182] (by decide +kernel) (by decide +kernel), by decide +kernel⟩
theorem cw_L_126 : CVw RL 126 RX7 yX7_image cX7_image 2 (some .int) 1 := ⟨tb_pl _ [739, 740, 741, 72, 742] (by decide +kernel) (by decide +kernel), by decide +kernel⟩
theorem cw_L_129 : CVw RL 129 RX8 yX8_image cX8_image 4 (some .int) 1 := ⟨tb_pl _ [1183, 1184, 1185, 80, 1186] (by decide +kernel) (by decide +kernel), by decide +kernel⟩
theorem cw_L_130 : CVw RL 130 RX7 yX7_from cX7_from 2 (some .int) 1 := ⟨tb_pl _ [747, 748, 749, 72, 750] (by decide +kernel) (by decide +kernel), by decide +kernel⟩
theorem cw_L_133 : CVw RL 133 RX8 yX8_from cX8_from 4 (some .int) 1 := ⟨tb_pl _ [1187, 1188, 1189, 80, 1190] (by decide +kernel) (by decide +kernel), by decide +kernel⟩
theorem cw_L_134 : CVw RL 134 RX7 yX7_status cX7_status 2 (some .int) 1 := ⟨tb_pl _ [751, 752, 753, 72, 754] (by decide +kernel) (by decide +kernel), by decide +kernel⟩
theorem cw_L_137 : CVw RL 137 RX8 yX8_status cX8_status 2 (some .int) 1 := ⟨tb_pl _ [1191, 1192, 1193, 80, 1194] (by decide +kernel) (by decide +kernel), by decide +kernel⟩
theorem cw_L_138 : CVw RL 138 RX7 yX7_count cX7_count 2 (some .int) 1 := ⟨tb_pl _ [755, 756, 757, 72, 758] (by decide +kernel) (by decide +kernel), by decide +kernel⟩
theorem cw_L_141 : CVw RL 141 RX8 yX8_count cX8_count 2 (some .int) 1 := ⟨tb_pl _ [1195, 1196, 1197, 80, 1198] (by decide +kernel) (by decide +kernel), by decide +kernel⟩
theorem cw_L_142 : CVw RL 142 RX7 yX7_digest cX7_digest 4 (some .long) 0 := ⟨tb_pl _ [764, 765, 766, 72, 767] (by decide +kernel) (by decide +kernel), by decide +kernel⟩
theorem cw_L_146 : CVw RL 146 RX8 yX8_digest cX8_digest 2 (some .long) 0 := ⟨tb_pl _ [1203, 1204, 1205, 80, 1206] (by decide +kernel) (by decide +kernel), by decide +kernel⟩

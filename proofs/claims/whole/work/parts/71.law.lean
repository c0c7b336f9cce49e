/-! the law's loop -/
def Good (w : WW) : Prop := ∃ S, SInv S ∧ CInv w S ∧ MInv w S
theorem both_law {L : Nat} {xs : Nat → Int32} {l3 : Int32} {oc : Option (Int32 × WW)} {om : WW → Option (Int32 × WW)} (h : Both oc om) : ∃ w', (oc.bind (fun p => (om p.2).bind (fun q => if p.1 = q.1 then f_L_law_j924 L xs q.2 l3 else none))) = some (.inl (l3 + 4, w')) ∧ Good w' := by
  obtain ⟨r, w', w'', S', e1, e2, h⟩ := h
  refine ⟨w'', ?_, S', h⟩
  rw [e1, Option.bind_some]
  dsimp only
  rw [e2, Option.bind_some]
  dsimp only
  rw [if_pos rfl]
  rfl
theorem both64_law {L : Nat} {xs : Nat → Int32} {l3 : Int32} {oc : Option (Int64 × WW)} {om : WW → Option (Int64 × WW)} (h : Both64 oc om) : ∃ w', (oc.bind (fun p => (om p.2).bind (fun q => if lg_cmp p.1 q.1 = 0 then f_L_law_j924 L xs q.2 l3 else none))) = some (.inl (l3 + 4, w')) ∧ Good w' := by
  obtain ⟨r, w', w'', S', e1, e2, h⟩ := h
  refine ⟨w'', ?_, S', h⟩
  rw [e1, Option.bind_some]
  dsimp only
  rw [e2, Option.bind_some]
  dsimp only
  rw [if_pos ((lg_cmp_eq _ _).mpr rfl)]
  rfl
theorem val_law {L : Nat} {xs : Nat → Int32} {l3 : Int32} {oc om : Option Int32} {w : WW} {r : Int32} (hc : oc = some r) (hm : om = some r) (h : Good w) : ∃ w', (oc.bind (fun p => om.bind (fun q => if p = q then f_L_law_j924 L xs w l3 else none))) = some (.inl (l3 + 4, w')) ∧ Good w' := by
  refine ⟨w, ?_, h⟩
  rw [hc, Option.bind_some, hm, Option.bind_some, if_pos rfl]
  rfl
theorem digest_law {L : Nat} {xs : Nat → Int32} {l3 : Int32} {w : WW} {S : StT} (I : SInv S) (C : CInv w S) (M : MInv w S) : ∃ w', ((f_X7_digest w).bind (fun p => (f_X8_digest w).bind (fun q => if lg_cmp p q.1 = 0 then f_L_law_j924 L xs q.2 l3 else none))) = some (.inl (l3 + 4, w')) ∧ Good w' := by
  refine ⟨sL w 46 30 (dg5 S), ?_, S, I, C.high (HighM.sL (by omega)), M.same (show SameM w (sL w 46 30 (dg5 S)) from ⟨fun _ _ _ => rfl, fun k j h => if_neg (by omega)⟩)⟩
  rw [digestC I C, Option.bind_some, digestM I M, Option.bind_some]
  dsimp only
  rw [if_pos ((lg_cmp_eq _ _).mpr rfl)]
  rfl
set_option maxHeartbeats 4000000 in
set_option maxRecDepth 20000 in
theorem law_step {L : Nat} {xs : Nat → Int32} {t : Nat} (hL : L ≤ 2048) (ht : 4 * t + 4 ≤ L) {w : WW} {S : StT} (I : SInv S) (C : CInv w S) (M : MInv w S) : ∃ w', f_L_law_b18 L xs (nI (4 * t)) w = some (.inl (nI (4 * t) + 4, w')) ∧ Good w' := by
  have G : Good w := ⟨S, I, C, M⟩
  have hx : ¬ Int32.ofNat L - 4 < nI (4 * t) := by
    rw [show Int32.ofNat L - 4 = nI (L - 4) from pk_sub (b := 4) (by omega)]
    exact nI_nlt (by omega) (by omega)
  have g1 : ∀ f : Option ((Int32 × WW) ⊕ WW), gd (inb (nI (4 * t) + 1) L) f = f := fun f => gd_t (by rw [nI_1]; exact inb_n (by omega) (by omega)) f
  have g2 : ∀ f : Option ((Int32 × WW) ⊕ WW), gd (inb (nI (4 * t) + 2) L) f = f := fun f => gd_t (by rw [show (2 : Int32) = nI 2 from rfl, nI_add]; exact inb_n (by omega) (by omega)) f
  have g3 : ∀ f : Option ((Int32 × WW) ⊕ WW), gd (inb (nI (4 * t) + 3) L) f = f := fun f => gd_t (by rw [show (3 : Int32) = nI 3 from rfl, nI_add]; exact inb_n (by omega) (by omega)) f
  unfold f_L_law_b18
  rw [if_neg hx, gd_t (inb_n (by omega) (by omega))]
  simp only [g1, g2, g3]
  generalize xs (nI (4 * t)).toNatClampNeg &&& 31 = a
  by_cases h0 : a = 0
  · rw [if_pos h0]; exact both_law (fair_ok I C M _)
  rw [if_neg h0]
  by_cases h1 : a = 1
  · rw [if_pos h1]; exact both_law (weigh_ok I C M _ _)
  rw [if_neg h1]
  by_cases h2 : a = 2
  · rw [if_pos h2]; exact both_law (question_ok I C M _ _ _)
  rw [if_neg h2]
  by_cases h3 : a = 3
  · rw [if_pos h3]; exact both_law (price_ok I C M _ _)
  rw [if_neg h3]
  by_cases h4 : a = 4
  · rw [if_pos h4]; exact both_law (type_ok I C M _)
  rw [if_neg h4]
  by_cases h5 : a = 5
  · rw [if_pos h5]; exact both_law (clear_ok I C M)
  rw [if_neg h5]
  by_cases h6 : a = 6
  · rw [if_pos h6]; exact both_law (read_ok I C M)
  rw [if_neg h6]
  by_cases h7 : a = 7
  · rw [if_pos h7]; exact both_law (ask_ok I C M _ _)
  rw [if_neg h7]
  by_cases h8 : a = 8
  · rw [if_pos h8]; exact both_law (forget_ok I C M)
  rw [if_neg h8]
  by_cases h9 : a = 9
  · rw [if_pos h9]; exact both_law (undo_ok I C M)
  rw [if_neg h9]
  by_cases h10 : a = 10
  · rw [if_pos h10]; exact both_law (of_ok I C M _ _)
  rw [if_neg h10]
  by_cases h11 : a = 11
  · rw [if_pos h11]; exact both_law (answer_ok I C M _ _)
  rw [if_neg h11]
  by_cases h12 : a = 12
  · rw [if_pos h12]; exact val_law (left_ok I C M).1 (left_ok I C M).2 G
  rw [if_neg h12]
  by_cases h13 : a = 13
  · rw [if_pos h13]; exact both_law (cuts_ok I C M _ _)
  rw [if_neg h13]
  by_cases h14 : a = 14
  · rw [if_pos h14]; obtain ⟨r, e1, e2⟩ := empty_ok I C M; exact val_law e1 e2 G
  rw [if_neg h14]
  by_cases h15 : a = 15
  · rw [if_pos h15]; exact both_law (same_ok I C M _)
  rw [if_neg h15]
  by_cases h16 : a = 16
  · rw [if_pos h16]; obtain ⟨r, e1, e2⟩ := best_ok I C M; exact val_law e1 e2 G
  rw [if_neg h16]
  by_cases h17 : a = 17
  · rw [if_pos h17]; exact both_law (atOnce_ok I C M _)
  rw [if_neg h17]
  by_cases h18 : a = 18
  · rw [if_pos h18]; exact both_law (oneByOne_ok I C M _)
  rw [if_neg h18]
  by_cases h19 : a = 19
  · rw [if_pos h19]; exact val_law (oneWrong_ok I C M).1 (oneWrong_ok I C M).2 G
  rw [if_neg h19]
  by_cases h20 : a = 20
  · rw [if_pos h20]; exact both_law (knows_ok I C M _ _ _)
  rw [if_neg h20]
  by_cases h21 : a = 21
  · rw [if_pos h21]; exact both_law (parted_ok I C M _)
  rw [if_neg h21]
  by_cases h22 : a = 22
  · rw [if_pos h22]; exact both_law (row_ok I C M _)
  rw [if_neg h22]
  by_cases h23 : a = 23
  · rw [if_pos h23]; exact both_law (bestRow_ok I C M)
  rw [if_neg h23]
  by_cases h24 : a = 24
  · rw [if_pos h24]; exact both_law (haggle_ok I C M _)
  rw [if_neg h24]
  by_cases h25 : a = 25
  · rw [if_pos h25]; exact both_law (stalls_ok I C M _ _)
  rw [if_neg h25]
  by_cases h26 : a = 26
  · rw [if_pos h26]; exact both64_law (part_ok I C M _)
  rw [if_neg h26]
  by_cases h27 : a = 27
  · rw [if_pos h27]; exact both_law (image_ok I C M _)
  rw [if_neg h27]
  by_cases h28 : a = 28
  · rw [if_pos h28]; exact both_law (from_ok I C M _)
  rw [if_neg h28]
  by_cases h29 : a = 29
  · rw [if_pos h29]; exact both_law (status_ok I C M _)
  rw [if_neg h29]
  by_cases h30 : a = 30
  · rw [if_pos h30]; exact both_law (count_ok I C M _)
  rw [if_neg h30]
  by_cases h31 : a = 31
  · rw [if_pos h31]; exact digest_law I C M
  rw [if_neg h31]
  exact ⟨w, rfl, G⟩
theorem law_ok {L : Nat} (xs : Nat → Int32) (hL : L ≤ 2048) {w : WW} (G : Good w) : f_law L xs w = some 1 := by
  unfold f_law
  have Lp : Ev (lpf (fun s : Int32 × WW => f_L_law_b18 L xs s.1 s.2) FU ((0 : Int32), w)) (fun _ => True) := by
    refine lpf_inv (fun t s => s.1 = nI (4 * t) ∧ Good s.2) _ (L / 4) (by omega) ⟨rfl, G⟩ (fun t s ht hI => Or.inl ?_) (fun s hI => ?_)
    · obtain ⟨a, u⟩ := s
      obtain ⟨rfl, S, I, C, M⟩ := hI
      obtain ⟨u', e, G'⟩ := law_step (L := L) (xs := xs) (t := t) hL (by omega) I C M
      refine ⟨_, e, ?_, G'⟩
      dsimp only
      rw [show (4 : Int32) = nI 4 from rfl, nI_add]
      rfl
    · obtain ⟨a, u⟩ := s
      obtain ⟨rfl, -⟩ := hI
      have hx : Int32.ofNat L - 4 < nI (4 * (L / 4)) := by
        by_cases h : 4 ≤ L
        · rw [show Int32.ofNat L - 4 = nI (L - 4) from pk_sub (b := 4) h]
          exact nI_lt (by omega) (by omega)
        · have : L = 0 ∨ L = 1 ∨ L = 2 ∨ L = 3 := by omega
          rcases this with rfl | rfl | rfl | rfl <;> decide
      refine ⟨u, ?_, trivial⟩
      unfold f_L_law_b18
      rw [if_pos hx]
  obtain ⟨r, e, -⟩ := Lp
  rw [e]
  rfl
/-! the start -/
def Fo (a b : Nat) (w u : WW) : Prop := ∀ k, ¬ (a ≤ k ∧ k ≤ b) → u.1 k = w.1 k ∧ u.2 k = w.2 k
theorem Fo.tr {a b c d e f : Nat} {w u x : WW} (h1 : Fo a b w u) (h2 : Fo c d u x) (h : e ≤ a ∧ b ≤ f ∧ e ≤ c ∧ d ≤ f) : Fo e f w x := fun k hk => ⟨(h2 k (by omega)).1.trans (h1 k (by omega)).1, (h2 k (by omega)).2.trans (h1 k (by omega)).2⟩
theorem Fo.wd {a b e f : Nat} {w u : WW} (h1 : Fo a b w u) (h : e ≤ a ∧ b ≤ f) : Fo e f w u := fun k hk => h1 k (by omega)
theorem Fo.zW (w : WW) (k : Nat) : Fo k k w (zW w k) := fun i hi => ⟨funext fun j => by unfold Jvm.Pilot.CQuestionFairLaw_law_r7216_cf1c65.zW; simp [show ¬ i = k by omega], funext fun j => by unfold Jvm.Pilot.CQuestionFairLaw_law_r7216_cf1c65.zW; simp [show ¬ i = k by omega]⟩
theorem zW_0 (w : WW) (k j : Nat) : (zW w k).1 k j = 0 := by unfold zW; simp
theorem zW_0L (w : WW) (k j : Nat) : (zW w k).2 k j = 0 := by unfold zW; simp
theorem begin_Fo (b : Nat) (w : WW) (n : Nat) : Fo b (b + 1) w (fillF (sI (sI (sI (sI w b 0 (nI n)) b 1 0) b 2 0) b 3 0) (b + 1) 0 (fun _ => 1) 16) := fun k hk => ⟨funext fun j => by rw [fillF_ne _ _ _ _ (by omega), sI_ne _ _ (by omega), sI_ne _ _ (by omega), sI_ne _ _ (by omega), sI_ne _ _ (by omega)], by rw [fillF_2]; rfl⟩
theorem init1 (w : WW) : ∃ u, f_X6_init_1 w = some u ∧ Fo 1 8 w u ∧ CA u 1 (v0 8, []) := by
  simp only [f_X6_init_1, nz]
  rw [show (8 : Int32) = nI 8 from rfl, begin_ev, Option.bind_some]
  refine ⟨_, rfl, ?_, CA_begin 1 _ 8⟩
  refine Fo.tr (a := 1) (b := 8) (c := 1) (d := 2) ?_ (begin_Fo 1 _ 8) (by omega)
  refine Fo.tr (a := 1) (b := 8) ?_ (Fo.zW _ 8) (by omega)
  refine Fo.tr (a := 1) (b := 8) ?_ (Fo.zW _ 7) (by omega)
  refine Fo.tr (a := 1) (b := 8) ?_ (Fo.zW _ 6) (by omega)
  refine Fo.tr (a := 1) (b := 8) ?_ (Fo.zW _ 5) (by omega)
  refine Fo.tr (a := 1) (b := 8) ?_ (Fo.zW _ 4) (by omega)
  refine Fo.tr (a := 1) (b := 8) ?_ (Fo.zW _ 3) (by omega)
  exact (Fo.zW _ 2).wd (by omega)
theorem init9 (w : WW) : ∃ u, f_X6_init_9 w = some u ∧ Fo 9 16 w u ∧ CA u 9 (v0 8, []) := by
  simp only [f_X6_init_9, nz]
  rw [show (8 : Int32) = nI 8 from rfl, begin_ev, Option.bind_some]
  refine ⟨_, rfl, ?_, CA_begin 9 _ 8⟩
  refine Fo.tr (a := 9) (b := 16) (c := 9) (d := 10) ?_ (begin_Fo 9 _ 8) (by omega)
  refine Fo.tr (a := 9) (b := 16) ?_ (Fo.zW _ 16) (by omega)
  refine Fo.tr (a := 9) (b := 16) ?_ (Fo.zW _ 15) (by omega)
  refine Fo.tr (a := 9) (b := 16) ?_ (Fo.zW _ 14) (by omega)
  refine Fo.tr (a := 9) (b := 16) ?_ (Fo.zW _ 13) (by omega)
  refine Fo.tr (a := 9) (b := 16) ?_ (Fo.zW _ 12) (by omega)
  refine Fo.tr (a := 9) (b := 16) ?_ (Fo.zW _ 11) (by omega)
  exact (Fo.zW _ 10).wd (by omega)
theorem init17 (w : WW) : ∃ u, f_X6_init_17 w = some u ∧ Fo 17 24 w u ∧ CA u 17 (v0 8, []) := by
  simp only [f_X6_init_17, nz]
  rw [show (8 : Int32) = nI 8 from rfl, begin_ev, Option.bind_some]
  refine ⟨_, rfl, ?_, CA_begin 17 _ 8⟩
  refine Fo.tr (a := 17) (b := 24) (c := 17) (d := 18) ?_ (begin_Fo 17 _ 8) (by omega)
  refine Fo.tr (a := 17) (b := 24) ?_ (Fo.zW _ 24) (by omega)
  refine Fo.tr (a := 17) (b := 24) ?_ (Fo.zW _ 23) (by omega)
  refine Fo.tr (a := 17) (b := 24) ?_ (Fo.zW _ 22) (by omega)
  refine Fo.tr (a := 17) (b := 24) ?_ (Fo.zW _ 21) (by omega)
  refine Fo.tr (a := 17) (b := 24) ?_ (Fo.zW _ 20) (by omega)
  refine Fo.tr (a := 17) (b := 24) ?_ (Fo.zW _ 19) (by omega)
  exact (Fo.zW _ 18).wd (by omega)
theorem init28 (w : WW) : ∃ u, f_X6_init_28 w = some u ∧ Fo 28 35 w u ∧ CA u 28 (v0 8, []) := by
  simp only [f_X6_init_28, nz]
  rw [show (8 : Int32) = nI 8 from rfl, begin_ev, Option.bind_some]
  refine ⟨_, rfl, ?_, CA_begin 28 _ 8⟩
  refine Fo.tr (a := 28) (b := 35) (c := 28) (d := 29) ?_ (begin_Fo 28 _ 8) (by omega)
  refine Fo.tr (a := 28) (b := 35) ?_ (Fo.zW _ 35) (by omega)
  refine Fo.tr (a := 28) (b := 35) ?_ (Fo.zW _ 34) (by omega)
  refine Fo.tr (a := 28) (b := 35) ?_ (Fo.zW _ 33) (by omega)
  refine Fo.tr (a := 28) (b := 35) ?_ (Fo.zW _ 32) (by omega)
  refine Fo.tr (a := 28) (b := 35) ?_ (Fo.zW _ 31) (by omega)
  refine Fo.tr (a := 28) (b := 35) ?_ (Fo.zW _ 30) (by omega)
  exact (Fo.zW _ 29).wd (by omega)

/-! operations that change what is there now: over the cells' contents -/
theorem both_ref {w : WW} {S : StT} {oc : Option (Int32 × WW)} {om : WW → Option (Int32 × WW)} (I : SInv S) (C : CInv w S) (M : MInv w S) (r : Int32) (i : Nat) (hi : i < 3) (hc : oc = some (r, sI w 37 i (w.1 37 i + 1))) (hm : ∀ w', MInv w' S → om w' = some (r, sI w' 47 i (w'.1 47 i + 1))) : Both oc om :=
  Both.of (S' := bump S i) (r := r) M I.bump (by rw [hc]; exact OpC.bump hi C) (fun w' M' => by rw [hm w' M']; exact OpM.bump hi M')
theorem both_ro {w : WW} {S : StT} {oc : Option (Int32 × WW)} {om : WW → Option (Int32 × WW)} (I : SInv S) (C : CInv w S) (M : MInv w S) (r : Int32) {w1 : WW} (hc : oc = some (r, w1)) (hs : SameC w w1) (hl : LowC w w1) (hm : ∀ w', MInv w' S → ∃ w2, om w' = some (r, w2) ∧ SameM w' w2 ∧ HighM w' w2) : Both oc om :=
  Both.of (S' := S) (r := r) M I ⟨w1, hc, hl, C.same hs⟩ (fun w' M' => by
    obtain ⟨w2, e1, e2, e3⟩ := hm w' M'
    exact ⟨w2, e1, e3, M'.same e2⟩)
theorem both_st {w : WW} {S : StT} {oc : Option (Int32 × WW)} {om : WW → Option (Int32 × WW)} (I : SInv S) (C : CInv w S) (M : MInv w S) (r : Int32) {w1 : WW} {im' : Im} (hR : Rim im') (hc : oc = some (r, w1)) (h1 : ∀ k j, ¬ (1 ≤ k ∧ k ≤ 8) → w1.1 k j = w.1 k j) (h2 : w1.2 = w.2) (A : CA w1 1 im')
    (hm : ∀ w', MInv w' S → ∃ w2, om w' = some (r, w2) ∧ (∀ k j, ¬ ((k = 46 ∧ (j = 1 ∨ j = 2 ∨ j = 3 ∨ j = 18)) ∨ (48 ≤ k ∧ k ≤ 52) ∨ k = 56) → w2.1 k j = w'.1 k j) ∧ w2.2 = w'.2 ∧ MA w2 im') : Both oc om :=
  Both.of (S' := (im', S.2)) (r := r) M ⟨hR, I.2.1, I.2.2.1, I.2.2.2⟩ ⟨w1, hc, fun k hk => ⟨funext fun j => h1 k j (by omega), by rw [h2]⟩, C.st h1 h2 A⟩ (fun w' M' => by
    obtain ⟨w2, e1, e2, e3, e4⟩ := hm w' M'
    exact ⟨w2, e1, fun k hk => ⟨funext fun j => e2 k j (by omega), by rw [e3]⟩, M'.st e2 e3 e4⟩)
theorem fair_ok {w : WW} {S : StT} (I : SInv S) (C : CInv w S) (M : MInv w S) (x : Int32) : Both (f_X7_fair w x) (fun w => f_X8_fair w x) := by
  by_cases h : 1 ≤ x ∧ x ≤ 16
  · obtain ⟨n, h1, h2, rfl⟩ := rng1_of ((rng1_iff (n := 16) rfl (by omega)).mp h) (by omega)
    refine both_st I C M (nI (S.1.1 0 1)) (Rim_v0 h1 h2) (by simp only [f_X7_fair, within_ev, Option.bind_some, if_pos h, nmv, begin_ev, C.1.1.2.1]; rfl) (fun k j hk => ?_) (by rw [fillF_2]; rfl) (CA_begin 1 w n) (fun w' M' => ⟨_, by simp only [f_X8_fair, in_ev, Option.bind_some, if_pos h, nmv, beginM_ev, M'.1.2.1]; rfl, fun k j hk => ?_, by rw [fillF_2]; rfl, MA_begin w' n⟩)
    · rw [fillF_ne _ _ _ _ (by omega), sI_ne _ _ (by omega), sI_ne _ _ (by omega), sI_ne _ _ (by omega), sI_ne _ _ (by omega)]
    · rw [fillF_ne _ _ _ _ (by omega), sI_ne _ _ (by omega), sI_ne _ _ (by omega), sI_ne _ _ (by omega), sI_ne _ _ (by omega)]
  · exact both_ref I C M (-2) 0 (by omega) (by simp only [f_X7_fair, within_ev, Option.bind_some, if_neg h, refuse_0]; rfl) (fun w' M' => by simp only [f_X8_fair, in_ev, Option.bind_some, if_neg h, bad_0]; rfl)
/-- one number of the state anew -/
def vup (v : Vt) (t i x : Nat) : Vt := fun a b => if a = t ∧ b = i then x else v a b
theorem cl_congr {v v' : Vt} (h0 : v' 0 2 = v 0 2) (h : ∀ i, i < v 0 2 → v' 5 i = v 5 i ∧ v' 6 i = v 6 i) : cl v' = cl v := by
  unfold cl
  rw [h0]
  apply List.map_congr_left
  intro i hi
  rw [(h i (List.mem_range.mp hi)).1, (h i (List.mem_range.mp hi)).2]
theorem CA_weigh {w : WW} {b : Nat} {v : Vt} {U : List (List Nat)} (i n : Nat) (h : CA w b (v, U)) : CA (sI w (b + 1) i (nI n)) b (vup v 1 i n, U) := by
  obtain ⟨⟨c1, c2, c3, c4, c5, c6, c7⟩, d1, d2⟩ := h
  refine ⟨⟨by simpa [sI, vup] using c1, by simpa [sI, vup] using c2, by simpa [sI, vup] using c3, fun x hx => ?_, by simpa [sI, vup] using c5, fun j x hj hx => (sI_ne _ _ (by omega)).trans (c6 j x hj hx), by simpa [sI, vup] using c7⟩, by simpa [sI] using d1, ?_⟩
  · by_cases e : x = i
    · simp [sI, vup, e]
    · simpa [sI, vup, e] using c4 x hx
  · have e1 : cl (vup v 1 i n) = cl v := cl_congr (by simp [vup]) (fun j _ => by simp [vup])
    have e2 : (sI w (b + 1) i (nI n)).1 (b + 7) = w.1 (b + 7) := funext fun j => by simp [sI]
    show TRl ((sI w (b + 1) i (nI n)).1 (b + 7)) (cl (vup v 1 i n)) U
    rw [e1, e2]; exact d2
theorem MA_weigh {w : WW} {v : Vt} {U : List (List Nat)} (i n : Nat) (h : MA w (v, U)) : MA (sI w 48 i (nI n)) (vup v 1 i n, U) := by
  obtain ⟨c1, c2, c3, c4, c5, c6, c7, c8⟩ := h
  refine ⟨by simpa [sI, vup] using c1, by simpa [sI, vup] using c2, by simpa [sI, vup] using c3, by simpa [sI] using c4, fun x hx => ?_, by simpa [sI, vup] using c6, by simpa [sI, vup] using c7, ?_⟩
  · by_cases e : x = i
    · simp [sI, vup, e]
    · simpa [sI, vup, e] using c5 x hx
  · have e2 : (sI w 48 i (nI n)).1 56 = w.1 56 := funext fun j => by simp [sI]
    rw [e2]; exact c8
theorem Rim_weigh {v : Vt} {U : List (List Nat)} {i n : Nat} (h1 : 1 ≤ n) (h2 : n ≤ 9) (h : Rim (v, U)) : Rim (vup v 1 i n, U) := by
  obtain ⟨⟨r1, r2, r3, r4, r5, r6⟩, u1, u2⟩ := h
  refine ⟨⟨by simpa [vup] using r1, by simpa [vup] using r2, by simpa [vup] using r3, fun x hx => ?_, by simpa [vup] using r5, by simpa [vup] using r6⟩, u1, by simpa [vup] using u2⟩
  by_cases e : x = i
  · simp [vup, e]; omega
  · simpa [vup, e] using r4 x hx
theorem weigh_ok {w : WW} {S : StT} (I : SInv S) (C : CInv w S) (M : MInv w S) (x y : Int32) : Both (f_X7_weigh w x y) (fun w => f_X8_weigh w x y) := by
  have hn := I.1.1.1.2
  by_cases hx : inb x (S.1.1 0 0)
  · by_cases h : 1 ≤ y ∧ y ≤ 9
    · obtain ⟨i, hi, rfl⟩ := inb_of hx (by omega)
      obtain ⟨n, h1, h2, rfl⟩ := rng1_of ((rng1_iff (n := 9) rfl (by omega)).mp h) (by omega)
      refine both_st I C M (nI (S.1.1 1 i)) (Rim_weigh (i := i) h1 h2 I.1) (w1 := sI w 2 i (nI n)) ?_ (fun k j hk => sI_ne _ _ (by omega)) rfl (CA_weigh i n C.1) (fun w' M' => ⟨sI w' 48 i (nI n), ?_, fun k j hk => sI_ne _ _ (by omega), rfl, MA_weigh i n M'.1⟩)
      · simp only [f_X7_weigh, isC_ev (q := S.1.1 0 0) (by omega) C.1.1.1, within_ev, Option.bind_some, if_pos hx, if_pos h, nmv, stI]
        rw [if_neg (by decide), if_neg (by decide), gd_t (inb_n (by omega) (by omega)), gd_t (inb_n (by omega) (by omega)), cl_n (by omega), C.1.1.2.2.2.1 i (by omega)]
      · simp only [f_X8_weigh, isCm_ev (q := S.1.1 0 0) (by omega) M'.1.1, in_ev, Option.bind_some, if_pos hx, if_pos h, nmv, stI]
        rw [if_neg (by decide), if_neg (by decide), gd_t (inb_n (by omega) (by omega)), gd_t (inb_n (by omega) (by omega)), cl_n (by omega), M'.1.2.2.2.2.1 i (by omega)]
    · exact both_ref I C M (-2) 0 (by omega) (by simp only [f_X7_weigh, f_X7_weigh_j18, isC_ev (q := S.1.1 0 0) (by omega) C.1.1.1, within_ev, Option.bind_some, if_pos hx, if_neg h, refuse_0]; rfl) (fun w' M' => by simp only [f_X8_weigh, f_X8_weigh_j18, isCm_ev (q := S.1.1 0 0) (by omega) M'.1.1, in_ev, Option.bind_some, if_pos hx, if_neg h, bad_0]; rfl)
  · exact both_ref I C M (-2) 0 (by omega) (by simp only [f_X7_weigh, f_X7_weigh_j18, isC_ev (q := S.1.1 0 0) (by omega) C.1.1.1, Option.bind_some, if_neg hx, refuse_0]; rfl) (fun w' M' => by simp only [f_X8_weigh, f_X8_weigh_j18, isCm_ev (q := S.1.1 0 0) (by omega) M'.1.1, Option.bind_some, if_neg hx, bad_0]; rfl)
theorem CA_price {w : WW} {b : Nat} {v : Vt} {U : List (List Nat)} (i n : Nat) (h : CA w b (v, U)) : CA (sI w (b + 4) i (nI n)) b (vup v 4 i n, U) := by
  obtain ⟨⟨c1, c2, c3, c4, c5, c6, c7⟩, d1, d2⟩ := h
  refine ⟨⟨by simpa [sI, vup] using c1, by simpa [sI, vup] using c2, by simpa [sI, vup] using c3, by simpa [sI, vup] using c4, fun j hj => ?_, fun j x hj hx => (sI_ne _ _ (by omega)).trans (c6 j x hj hx), by simpa [sI, vup] using c7⟩, by simpa [sI] using d1, ?_⟩
  · have hj : j < v 0 1 := by simpa [vup] using hj
    by_cases e : j = i
    · subst e; simpa [sI, vup] using ⟨(c5 j hj).1, (c5 j hj).2.1⟩
    · simpa [sI, vup, e] using c5 j hj
  · have e1 : cl (vup v 4 i n) = cl v := cl_congr (by simp [vup]) (fun j _ => by simp [vup])
    have e2 : (sI w (b + 4) i (nI n)).1 (b + 7) = w.1 (b + 7) := funext fun j => by simp [sI]
    show TRl ((sI w (b + 4) i (nI n)).1 (b + 7)) (cl (vup v 4 i n)) U
    rw [e1, e2]; exact d2
theorem MA_price {w : WW} {v : Vt} {U : List (List Nat)} (i n : Nat) (h : MA w (v, U)) : MA (sI w 51 i (nI n)) (vup v 4 i n, U) := by
  obtain ⟨c1, c2, c3, c4, c5, c6, c7, c8⟩ := h
  refine ⟨by simpa [sI, vup] using c1, by simpa [sI, vup] using c2, by simpa [sI, vup] using c3, by simpa [sI] using c4, by simpa [sI, vup] using c5, fun j hj => ?_, by simpa [sI, vup] using c7, ?_⟩
  · have hj : j < v 0 1 := by simpa [vup] using hj
    by_cases e : j = i
    · subst e; simpa [sI, vup] using ⟨(c6 j hj).1, (c6 j hj).2.1⟩
    · simpa [sI, vup, e] using c6 j hj
  · have e2 : (sI w 51 i (nI n)).1 56 = w.1 56 := funext fun j => by simp [sI]
    rw [e2]; exact c8
theorem Rim_price {v : Vt} {U : List (List Nat)} {i n : Nat} (h2 : n ≤ 99) (h : Rim (v, U)) : Rim (vup v 4 i n, U) := by
  obtain ⟨⟨r1, r2, r3, r4, r5, r6⟩, u1, u2⟩ := h
  refine ⟨⟨by simpa [vup] using r1, by simpa [vup] using r2, by simpa [vup] using r3, by simpa [vup] using r4, fun j hj => ?_, by simpa [vup] using r6⟩, u1, by simpa [vup] using u2⟩
  have hj : j < v 0 1 := by simpa [vup] using hj
  by_cases e : j = i
  · subst e; simpa [vup] using ⟨(r5 j hj).1, (r5 j hj).2.1, h2⟩
  · simpa [vup, e] using r5 j hj
theorem price_ok {w : WW} {S : StT} (I : SInv S) (C : CInv w S) (M : MInv w S) (x y : Int32) : Both (f_X7_price w x y) (fun w => f_X8_price w x y) := by
  have hq := I.1.1.2.1
  by_cases hx : inb x (S.1.1 0 1)
  · by_cases h : inb y 100
    · obtain ⟨i, hi, rfl⟩ := inb_of hx (by omega)
      obtain ⟨n, h2, rfl⟩ := inb_of h (by omega)
      refine both_st I C M (nI (S.1.1 4 i)) (Rim_price (i := i) (n := n) (by omega) I.1) (w1 := sI w 5 i (nI n)) ?_ (fun k j hk => sI_ne _ _ (by omega)) rfl (CA_price i n C.1) (fun w' M' => ⟨sI w' 51 i (nI n), ?_, fun k j hk => sI_ne _ _ (by omega), rfl, MA_price i n M'.1⟩)
      · simp only [f_X7_price, isQ_ev (q := S.1.1 0 1) (by omega) C.1.1.2.1, within_nn (n := 100) w _ (show (99 : Int32) = nI 100 - 1 from rfl) (by omega), Option.bind_some, if_pos hx, if_pos h, nmv, stI]
        rw [if_neg (by decide), if_neg (by decide), gd_t (inb_n (by omega) (by omega)), gd_t (inb_n (by omega) (by omega)), cl_n (by omega), (C.1.1.2.2.2.2.1 i (by omega)).2.2]
      · simp only [f_X8_price, isQm_ev (q := S.1.1 0 1) (by omega) M'.1.2.1, in_nn (n := 100) w' _ (show (99 : Int32) = nI 100 - 1 from rfl) (by omega), Option.bind_some, if_pos hx, if_pos h, nmv, stI]
        rw [if_neg (by decide), if_neg (by decide), gd_t (inb_n (by omega) (by omega)), gd_t (inb_n (by omega) (by omega)), cl_n (by omega), (M'.1.2.2.2.2.2.1 i (by omega)).2.2]
    · exact both_ref I C M (-2) 0 (by omega) (by simp only [f_X7_price, f_X7_price_j18, isQ_ev (q := S.1.1 0 1) (by omega) C.1.1.2.1, within_nn (n := 100) w _ (show (99 : Int32) = nI 100 - 1 from rfl) (by omega), Option.bind_some, if_pos hx, if_neg h, refuse_0]; rfl) (fun w' M' => by simp only [f_X8_price, f_X8_price_j18, isQm_ev (q := S.1.1 0 1) (by omega) M'.1.2.1, in_nn (n := 100) w' _ (show (99 : Int32) = nI 100 - 1 from rfl) (by omega), Option.bind_some, if_pos hx, if_neg h, bad_0]; rfl)
  · exact both_ref I C M (-2) 0 (by omega) (by simp only [f_X7_price, f_X7_price_j18, isQ_ev (q := S.1.1 0 1) (by omega) C.1.1.2.1, Option.bind_some, if_neg hx, refuse_0]; rfl) (fun w' M' => by simp only [f_X8_price, f_X8_price_j18, isQm_ev (q := S.1.1 0 1) (by omega) M'.1.2.1, Option.bind_some, if_neg hx, bad_0]; rfl)

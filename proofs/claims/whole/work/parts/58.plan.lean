/-! one behind the other, in the class -/
theorem first_rs {v : Vt} {i : Nat} {Q : Nat → Bool} (hQ : ∀ x, x < 16 → Q x = true → x < v 0 0) {A : Nat} (h : cnt (pa v i Q A) ≠ 0) : ∃ x, x < v 0 0 ∧ rs v i Q x x = true ∧ an v i x = A := by
  obtain ⟨x, hx, hx2, hx3⟩ := fb_first (p := fun x => pa v i Q A x = true) (fb_ct_pos.mp (Nat.pos_of_ne_zero h))
  have hx4 := hx2
  unfold pa at hx4
  rw [Bool.and_eq_true, decide_eq_true_eq] at hx4
  refine ⟨x, hQ x hx hx4.1, ?_, hx4.2⟩
  unfold rs
  rw [Bool.and_eq_true]
  refine ⟨hx4.1, ?_⟩
  cases q : sn v i Q x (an v i x) with
  | false => rfl
  | true =>
    obtain ⟨y, y1, y2, y3⟩ := sn_iff.mp q
    exact absurd (show pa v i Q A y = true by unfold pa; simp [y2, y3, hx4.2]) (hx3 y y1)
theorem rs_in {v : Vt} {i : Nat} {Q : Nat → Bool} {k x : Nat} (h : rs v i Q k x = true) : Q x = true := by
  unfold rs at h
  rw [Bool.and_eq_true] at h
  exact h.1
theorem or_pow {a q : Nat} (ha : a < 128) (hq : q < 7) : nI a ||| shl32 1 (nI q) = nI (a ||| 2 ^ q) ∧ a ||| 2 ^ q < 128 := by
  have hlt : a ||| 2 ^ q < 2 ^ 7 := Nat.or_lt_two_pow ha (Nat.pow_lt_pow_right (by omega) hq)
  refine ⟨?_, hlt⟩
  rw [bs_nI (s := a) (by omega), bs_add _ (by omega), bs_nI (s := a ||| 2 ^ q) (by omega)]
  exact bs_congr (fun i _ => (fb_bit_set a q i).symm)
theorem worstOf_ev {w : WW} {v : Vt} (C : CSt w 1 v) (R : Rg v) {t T q : Nat} (hT : T < 128) (hq : q < v 0 1) {Q : Nat → Bool} (hQ : ∀ x, x < 16 → Q x = true → x < v 0 0) (L G : Nat → Nat) (hent : ∀ x, x < v 0 0 → rs v q Q x x = true → w.1 t (16 * (T ||| 2 ^ q) + x) = if L (an v q x) = 1048576 then -1 else nI (G (an v q x))) (hG : ∀ A, G A ≤ 1048576) (hL : ∀ A, L A ≤ 1048576) (h0 : ∀ A, cnt (pa v q Q A) = 0 → L A = 0 ∧ G A = 0) : f_X2_worstOf t 1 w (nI T) (nI q) (bs Q) = some (if mx L 10 < 1048576 then nI (mx G 10) else -1) := by
  have hn := R.1.2
  have h7 := R.2.1
  obtain ⟨o1, o2⟩ := or_pow hT (show q < 7 by omega)
  unfold f_X2_worstOf
  have hm : ∀ k, mx (fun x => if rs v q Q x x = true then G (an v q x) else 0) k ≤ 1048576 := fun k => mx_le (fun x _ => by have := hG (an v q x); split <;> omega)
  have Lp : Ev (lpf (fun s : Int32 × Int32 × Int32 => f_X2_worstOf_b10 t 1 w (nI T) (nI q) s.1 s.2.1 s.2.2) FU ((0 : Int32), bs Q, (0 : Int32))) (fun z => (z = .inl () ∧ ¬ mx L 10 < 1048576) ∨ (z = .inr (nI (mx G 10)) ∧ mx L 10 < 1048576)) := by
    refine lpf_inv (fun k s => s = (nI (mx (fun x => if rs v q Q x x = true then G (an v q x) else 0) k), bs (rs v q Q k), nI k) ∧ ∀ x, x < k → rs v q Q x x = true → L (an v q x) ≠ 1048576) _ (v 0 0) (by omega) ⟨by rw [show bs Q = bs (rs v q Q 0) from bs_congr (fun x _ => by unfold rs; simp [sn])]; rfl, fun x hx => by omega⟩ (fun k s hk hI => ?_) (fun s hI => ?_)
    · obtain ⟨rfl, hI⟩ := hI
      have hA := an_le R hq (show k < 16 by omega)
      simp only [f_X2_worstOf_b10, f_X2_worstOf_j83, C.1, nmv]
      rw [if_neg (nI_ge hk (by omega)), o1, ixq, ixq, gd_t (inb_n (by omega) (by omega)), cl_n (by omega), cl_n (by omega), nI_1]
      by_cases h : rs v q Q k k = true
      · rw [if_pos ((bs_hasT (by omega)).mpr h), hent k hk h]
        by_cases hl : L (an v q k) = 1048576
        · rw [if_pos hl, if_pos rfl]
          refine Or.inr ⟨_, rfl, Or.inl ⟨rfl, fun e => ?_⟩⟩
          have := le_mx L (n := 10) (show an v q k < 10 from hA)
          omega
        · have hg := hG (an v q k)
          have hk1 := hm k
          rw [if_neg hl, if_neg (m1_ne (by omega)), maxN w (by omega) (by omega), Option.bind_some, gd_t (inb_n (by omega) (by omega)), alkN C _ hq (by omega), bs_congr (fun y _ => rs_step h y)]
          refine Or.inl ⟨_, rfl, ?_, fun x hx hx2 => ?_⟩
          · rw [mx, if_pos h]
          · by_cases e : x = k
            · rw [e]; exact hl
            · exact hI x (by omega) hx2
      · rw [if_neg (fun e => h ((bs_hasT (by omega)).mp e))]
        refine Or.inl ⟨_, rfl, ?_, fun x hx hx2 => ?_⟩
        · rw [mx, if_neg h, if_neg (Nat.not_lt_zero _), bs_congr (fun y _ => rs_stay h y)]
        · by_cases e : x = k
          · rw [e] at hx2; exact absurd hx2 h
          · exact hI x (by omega) hx2
    · obtain ⟨rfl, hI⟩ := hI
      simp only [f_X2_worstOf_b10, C.1]
      rw [if_pos (nI_le (Nat.le_refl _) (by omega))]
      have e1 : mx (fun x => if rs v q Q x x = true then G (an v q x) else 0) (v 0 0) = mx G 10 := by
        refine mx_eq (fun x hx h => ?_) (fun A hA h => ?_)
        · by_cases hp : rs v q Q x x = true
          · rw [if_pos hp]
            exact ⟨an v q x, an_le R hq (by omega), rfl⟩
          · rw [if_neg hp] at h; exact absurd rfl h
        · obtain ⟨x, hx, hx2, hx3⟩ := first_rs (v := v) (i := q) hQ (A := A) (fun e => h (h0 A e).2)
          exact ⟨x, hx, by rw [if_pos hx2, hx3]⟩
      have e2 : mx L 10 < 1048576 := by
        have : mx L 10 ≤ 1048575 := mx_le (fun A hA => by
          by_cases hc : cnt (pa v q Q A) = 0
          · rw [(h0 A hc).1]; omega
          · obtain ⟨x, hx, hx2, hx3⟩ := first_rs (v := v) (i := q) hQ hc
            have := hI x hx hx2
            rw [hx3] at this
            have := hL A
            omega)
        omega
      exact ⟨_, rfl, Or.inr ⟨by rw [e1], e2⟩⟩
  obtain ⟨z, e, h⟩ := Lp
  rw [e, Option.bind_some]
  rcases h with ⟨rfl, h⟩ | ⟨rfl, h⟩
  · rw [if_neg h]; rfl
  · rw [if_pos h]; rfl
/-- the plan's three numbers -/
def cw (w : WW) (a b c : Int32) : WW := sI (sI (sI w 40 0 a) 40 1 b) 40 2 c
theorem cw_0 (w : WW) (a b c x : Int32) : sI (cw w a b c) 40 0 x = cw w x b c := by
  unfold cw sI
  refine Prod.ext (funext fun k => funext fun j => ?_) rfl
  dsimp only
  by_cases h : k = 40
  · by_cases h0 : j = 0
    · simp [h, h0]
    · by_cases h1 : j = 1
      · simp [h, h1]
      · by_cases h2 : j = 2 <;> simp [h, h0, h1, h2]
  · simp [h]
theorem cw_1 (w : WW) (a b c x : Int32) : sI (cw w a b c) 40 1 x = cw w a x c := by
  unfold cw sI
  refine Prod.ext (funext fun k => funext fun j => ?_) rfl
  dsimp only
  by_cases h : k = 40
  · by_cases h0 : j = 0
    · simp [h, h0]
    · by_cases h1 : j = 1
      · simp [h, h1]
      · by_cases h2 : j = 2 <;> simp [h, h0, h1, h2]
  · simp [h]
theorem cw_2 (w : WW) (a b c x : Int32) : sI (cw w a b c) 40 2 x = cw w a b x := by unfold cw; rw [sI_sI]
theorem cw_cw (w : WW) (a b c a' b' c' : Int32) : cw (cw w a b c) a' b' c' = cw w a' b' c' := by
  rw [cw, cw_0, cw_1, cw_2]
theorem cw_r0 (w : WW) (a b c : Int32) : (cw w a b c).1 40 0 = a := by unfold cw; rw [sI_ne _ _ (by omega), sI_ne _ _ (by omega), sI_at]
theorem cw_r1 (w : WW) (a b c : Int32) : (cw w a b c).1 40 1 = b := by unfold cw; rw [sI_ne _ _ (by omega), sI_at]
theorem cw_r2 (w : WW) (a b c : Int32) : (cw w a b c).1 40 2 = c := by unfold cw; rw [sI_at]
theorem cw_ne (w : WW) (a b c : Int32) {k j : Nat} (h : k ≠ 40) : (cw w a b c).1 k j = w.1 k j := by unfold cw; rw [sI_ne _ _ (by omega), sI_ne _ _ (by omega), sI_ne _ _ (by omega)]
theorem cw_CSt {w : WW} {v : Vt} (C : CSt w 1 v) (a b c : Int32) : CSt (cw w a b c) 1 v := CSt_congr (fun k j h1 h2 => cw_ne w a b c (by omega)) C
def cL (t : Nat × Int32 × Nat) : Int32 := if t.1 = 1048576 then -1 else nI t.1
def cD (t : Nat × Int32 × Nat) : Int32 := if t.1 = 1048576 then -1 else nI t.2.2
theorem chooseNext_ev {w : WW} {v : Vt} (C : CSt w 1 v) (R : Rg v) {T : Nat} (hT : T < 128) {Q : Nat → Bool} (hQ : ∀ x, x < 16 → Q x = true → x < v 0 0) (h2 : ¬ cnt Q ≤ 1) (hTQ : ∀ q, q < v 0 1 → T.testBit q = true → np v q Q ≤ 1)
    (h41 : ∀ q x, q < v 0 1 → T.testBit q = false → x < v 0 0 → rs v q Q x x = true → w.1 41 (16 * (T ||| 2 ^ q) + x) = eL v (pa v q Q (an v q x)) ∧ w.1 42 (16 * (T ||| 2 ^ q) + x) = eD v (pa v q Q (an v q x))) : f_X2_chooseNext 1 (cw w (-1) (-1) (-1)) (nI T) (bs Q) = some (cw w (eL v Q) (U v Q).2.1 (eD v Q)) := by
  have h7 := R.2.1
  have hU := U_two (v := v) h2
  have worst : ∀ (a b : Int32) q, q < v 0 1 → T.testBit q = false → f_X2_worstOf 41 1 (cw w a b (-1)) (nI T) (nI q) (bs Q) = some (if Wq v Q q < 1048576 then nI (Wq v Q q) else -1) ∧ f_X2_worstOf 42 1 (cw w a b (-1)) (nI T) (nI q) (bs Q) = some (if Wq v Q q < 1048576 then nI (Eq' v Q q) else -1) := fun a b q hq hb => by
    refine ⟨?_, ?_⟩
    · refine worstOf_ev (cw_CSt C a b (-1)) R hT hq hQ (fun A => (U v (pa v q Q A)).1) (fun A => (U v (pa v q Q A)).1) (fun x hx hx2 => ?_) (fun A => by have := (U_bound R (pa v q Q A)).1; omega) (fun A => by have := (U_bound R (pa v q Q A)).1; omega) (fun A hA => by rw [U_one (by omega)]; exact ⟨rfl, rfl⟩)
      rw [cw_ne _ _ _ _ (by omega), (h41 q x hq hb hx hx2).1]; rfl
    · refine worstOf_ev (cw_CSt C a b (-1)) R hT hq hQ (fun A => (U v (pa v q Q A)).1) (fun A => (U v (pa v q Q A)).2.2) (fun x hx hx2 => ?_) (fun A => by have := (U_bound R (pa v q Q A)).2; omega) (fun A => by have := (U_bound R (pa v q Q A)).1; omega) (fun A hA => by rw [U_one (by omega)]; exact ⟨rfl, rfl⟩)
      rw [cw_ne _ _ _ _ (by omega), (h41 q x hq hb hx hx2).2]; rfl
  unfold f_X2_chooseNext
  have L := lpf_seq (body := fun s : Int32 × WW => f_X2_chooseNext_b3 1 (nI T) (bs Q) s.1 s.2) (fun k => (nI k, cw w (cL (sqf v Q (Wq v Q) (Eq' v Q) k)) (sqf v Q (Wq v Q) (Eq' v Q) k).2.1 (-1))) (v 0 1) (cw w (cL (sqf v Q (Wq v Q) (Eq' v Q) (v 0 1))) (sqf v Q (Wq v Q) (Eq' v Q) (v 0 1)).2.1 (-1)) (by omega) (fun k hk => ?_) ?_
  · rw [show ((0 : Int32), cw w (-1) (-1) (-1)) = (nI 0, cw w (cL (sqf v Q (Wq v Q) (Eq' v Q) 0)) (sqf v Q (Wq v Q) (Eq' v Q) 0).2.1 (-1)) from rfl, L, Option.bind_some, cw_r1]
    unfold eL eD
    rw [hU]
    rcases sq_bound R (Q := Q) (Nat.le_refl (v 0 1)) with e | ⟨b1, ⟨k, hk, b2, b3, b4, b5⟩, b6⟩
    · rw [e, if_pos rfl]
      rfl
    · have hkb : T.testBit k = false := by
        cases hb : T.testBit k with
        | false => rfl
        | true => have := hTQ k hk hb; omega
      have he := Eq_bound R Q k
      rw [b2, if_neg (m1_ne (by omega)), (worst _ _ k hk hkb).2, Option.bind_some, if_pos b5, show (1 : Int32) = nI 1 from rfl, nI_add, ← b3]
      unfold stI
      rw [cw_2]
      unfold cL
      rw [if_neg (show ¬ (sqf v Q (Wq v Q) (Eq' v Q) (v 0 1)).1 = 1048576 by omega), if_neg (show ¬ (sqf v Q (Wq v Q) (Eq' v Q) (v 0 1)).1 = 1048576 by omega), if_neg (show ¬ (sqf v Q (Wq v Q) (Eq' v Q) (v 0 1)).1 = 1048576 by omega)]
  · have hp := (R.2.2.2.2.1 k hk).2.2
    have hnp := np_le v k Q
    simp only [f_X2_chooseNext_b3, f_X2_chooseNext_j98, f_X2_chooseNext_j78, stI]
    rw [cw_ne _ _ _ _ (by omega), C.2.1, if_neg (nI_ge hk (by omega)), nI_1, bs_nI (s := T) (by omega), bs_has _ (show k < 16 by omega), ← bs_nI (s := T) (by omega)]
    have stay : ¬ (2 ≤ np v k Q ∧ Wq v Q k < 1048576 ∧ Wq v Q k + v 4 k < (sqf v Q (Wq v Q) (Eq' v Q) k).1) → sqf v Q (Wq v Q) (Eq' v Q) (k + 1) = sqf v Q (Wq v Q) (Eq' v Q) k := fun h => by rw [sqf, if_neg h]
    cases hb : T.testBit k with
    | true =>
      have := hTQ k hk hb
      rw [if_pos rfl, if_neg (by decide), stay (by omega)]
    | false =>
      rw [if_pos (by decide), howManyParts_ev (cw_CSt C _ _ _) R hQ hk, Option.bind_some]
      by_cases h1 : 2 ≤ np v k Q
      · rw [if_neg (show ¬ nI (np v k Q) ≤ 1 from nI_ge (a := 1) (by omega) (by omega)), (worst _ _ k hk hb).1, Option.bind_some]
        by_cases hW : Wq v Q k < 1048576
        · have hWl := Wq_low R hW
          rw [if_pos hW, if_neg (m1_ne (by omega)), cw_r1, cw_r0, gd_t (inb_n (by omega) (by omega)), cl_n (by omega), cw_ne _ _ _ _ (by omega), cw_1, show w.1 (1 + 4) k = nI (v 4 k) from (C.2.2.2.2.1 k hk).2.2, cw_ne _ _ _ _ (by omega), show w.1 (1 + 4) k = nI (v 4 k) from (C.2.2.2.2.1 k hk).2.2, cw_0, gd_t (inb_n (by omega) (by omega)), nI_add, Nat.add_comm (v 4 k)]
          have take : Wq v Q k + v 4 k < (sqf v Q (Wq v Q) (Eq' v Q) k).1 → cw w (nI (Wq v Q k + v 4 k)) (nI k) (-1) = cw w (cL (sqf v Q (Wq v Q) (Eq' v Q) (k + 1))) (sqf v Q (Wq v Q) (Eq' v Q) (k + 1)).2.1 (-1) := fun h => by
            rw [sqf, if_pos ⟨h1, hW, h⟩]
            unfold cL
            rw [if_neg (show ¬ Wq v Q k + v 4 k = 1048576 by omega)]
          rcases sq_bound R (Q := Q) (show k ≤ v 0 1 by omega) with e | ⟨b1, ⟨k', hk', b2, -⟩, -⟩
          · rw [← take (by rw [e]; dsimp only; omega), e, if_pos rfl]
          · rw [b2, if_neg (m1_ne (by omega)), show cL (sqf v Q (Wq v Q) (Eq' v Q) k) = nI (sqf v Q (Wq v Q) (Eq' v Q) k).1 from if_neg (by omega)]
            by_cases hl : Wq v Q k + v 4 k < (sqf v Q (Wq v Q) (Eq' v Q) k).1
            · rw [if_neg (nI_ge hl (by omega)), take hl]
            · rw [if_pos (nI_le (by omega) (by omega)), stay (fun e => hl e.2.2), b2, show cL (sqf v Q (Wq v Q) (Eq' v Q) k) = nI (sqf v Q (Wq v Q) (Eq' v Q) k).1 from if_neg (by omega)]
        · rw [if_neg hW, if_pos rfl, stay (fun e => hW e.2.1)]
      · rw [if_pos (show nI (np v k Q) ≤ 1 from nI_le (b := 1) (by omega) (by omega)), stay (fun e => h1 e.1)]
  · simp only [f_X2_chooseNext_b3]
    rw [cw_ne _ _ _ _ (by omega), C.2.1, if_pos (nI_le (Nat.le_refl _) (by omega))]
theorem settle_ev {w : WW} {v : Vt} (C : CSt w 1 v) (R : Rg v) {T : Nat} (hT : T < 128) {x : Nat} (hx : x < 16) {Q : Nat → Bool} (hQ : ∀ x, x < 16 → Q x = true → x < v 0 0) (hQx : Q x = true) (hTQ : ∀ q, q < v 0 1 → T.testBit q = true → np v q Q ≤ 1)
    (h41 : ∀ q x, q < v 0 1 → T.testBit q = false → x < v 0 0 → rs v q Q x x = true → w.1 41 (16 * (T ||| 2 ^ q) + x) = eL v (pa v q Q (an v q x)) ∧ w.1 42 (16 * (T ||| 2 ^ q) + x) = eD v (pa v q Q (an v q x))) : f_X2_settle 1 w (nI T) (nI x) (bs Q) = some (sI (sI (cw w (eL v Q) (U v Q).2.1 (eD v Q)) 41 (16 * T + x) (eL v Q)) 42 (16 * T + x) (eD v Q)) := by
  unfold f_X2_settle
  simp only [stI]
  have j44 : ∀ (a b c : Int32), f_X2_settle_j44 1 (cw w a b c) (nI T) (nI x) = some (sI (sI (cw w a b c) 41 (16 * T + x) a) 42 (16 * T + x) c) := fun a b c => by
    unfold f_X2_settle_j44
    simp only [stI]
    rw [ixq, gd_t (inb_n (by omega) (by omega)), gd_t (inb_n (by omega) (by omega)), cl_n (by omega), cw_r0, sI_ne _ _ (by omega), cw_r2]
  have e0 : sI (sI (sI w 40 0 (-1)) 40 1 (-1)) 40 2 (-1) = cw w (-1) (-1) (-1) := rfl
  rw [e0, bs_one hx]
  by_cases h : cnt Q ≤ 1
  · have hs : bs Q = bs (fun y => decide (y = x)) := (sing_iff hx hQx).mp ((sing_c Q).mpr h)
    rw [if_pos hs, cw_0, cw_2, j44]
    unfold eL eD
    rw [U_one h]
    rfl
  · have hs : ¬ bs Q = bs (fun y => decide (y = x)) := fun e => h ((sing_c Q).mp ((sing_iff hx hQx).mpr e))
    rw [if_neg hs, chooseNext_ev C R hT hQ h hTQ h41, Option.bind_some, j44]

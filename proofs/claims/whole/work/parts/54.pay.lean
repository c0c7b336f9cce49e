/-! what is paid in a row -/
theorem sing_n {n : Nat} (h : n < 65536) : n &&& (n - 1) = 0 ↔ pcN n ≤ 1 := by
  have := List.all_eq_true.mp (snM (n / 1024) (by omega)) (n % 1024) (List.mem_range.mpr (Nat.mod_lt _ (by omega)))
  rw [Nat.div_add_mod] at this
  cases e : Nat.ble 2 (pcN n) with
  | true =>
    rw [e] at this
    have h2 : 2 ≤ pcN n := Nat.le_of_ble_eq_true e
    refine ⟨fun q => ?_, fun q => by omega⟩
    rw [q] at this
    exact absurd this (by decide)
  | false =>
    rw [e, Bool.xor_false] at this
    have h2 : ¬ 2 ≤ pcN n := fun q => by rw [Nat.ble_eq_true_of_le q] at e; cases e
    exact ⟨fun _ => by omega, fun _ => Nat.eq_of_beq_eq_true this⟩
theorem sing_iff {Q : Nat → Bool} {x : Nat} (hx : x < 16) (hQ : Q x = true) : bs Q &&& (bs Q - 1) = 0 ↔ bs Q = bs (fun y => decide (y = x)) := by
  have hm : mk Q 16 < 65536 := mk_lt Q 16
  have hc : pcN (mk Q 16) = cnt Q := by
    rw [pcN_ct]
    exact fb_ct_cong (fun k hk => by rw [mk_bit]; simp [hk])
  have h1 : cnt Q ≠ 0 := cntN0 hx hQ
  have hpos : 1 ≤ mk Q 16 := by
    cases h : mk Q 16 with
    | zero => rw [h] at hc; exact absurd hc.symm h1
    | succ n => omega
  have e1 : bs Q &&& (bs Q - 1) = 0 ↔ cnt Q ≤ 1 := by
    rw [← hc, ← sing_n hm]
    unfold bs
    have : nI (mk Q 16) - 1 = nI (mk Q 16 - 1) := pk_sub (b := 1) hpos
    rw [this, nx_and, show (0 : Int32) = nI 0 from rfl, nI_eq (by have : mk Q 16 &&& (mk Q 16 - 1) ≤ mk Q 16 := Nat.and_le_left; omega) (by omega)]
  rw [e1, bs_inj]
  have hu := fb_ct_upd Q false hx
  rw [hQ] at hu
  simp only [if_true, Bool.false_eq_true, if_false, Nat.add_zero] at hu
  constructor
  · intro h y hy
    have hz : fb_ct (fun k => if k = x then false else Q k) 16 = 0 := by unfold cnt at h; omega
    have := fb_ct_zero.mp hz y hy
    by_cases e : y = x
    · subst e; simp [hQ]
    · rw [if_neg e] at this
      simp [this, e]
  · intro h
    have : fb_ct (fun k => if k = x then false else Q k) 16 = 0 := fb_ct_zero.mpr (fun y hy => by
      by_cases e : y = x
      · simp [e]
      · simp [e, h y hy])
    unfold cnt
    omega
/-- the questions asked before the k-th of a row -/
def tset (qs : Nat → Nat) : Nat → Nat → Bool
  | 0, _ => false
  | k + 1, i => tset qs k i || decide (i = qs k)
theorem tset_iff {qs : Nat → Nat} {i : Nat} : ∀ {k : Nat}, tset qs k i = true ↔ ∃ j, j < k ∧ i = qs j
  | 0 => by simp [tset]
  | k + 1 => by
    rw [tset, Bool.or_eq_true, tset_iff, decide_eq_true_eq]
    constructor
    · rintro (⟨j, h1, h2⟩ | h)
      · exact ⟨j, by omega, h2⟩
      · exact ⟨k, by omega, h⟩
    · rintro ⟨j, h1, h2⟩
      by_cases e : j = k
      · subst e; exact Or.inr h2
      · exact Or.inl ⟨j, by omega, h2⟩
def pay (v : Vt) (P : Nat → Bool) (qs : Nat → Nat) (n : Nat) : Nat := fb_sm (fun k => v 4 (qs k) * wgt v (nyk v (tset qs k) P)) n
theorem pay_le {v : Vt} (R : Rg v) (P : Nat → Bool) {qs : Nat → Nat} {n : Nat} (hn : n ≤ 7) (hq : ∀ k, k < n → qs k < v 0 1) : pay v P qs n ≤ 99792 := by
  have := fb_sm_bound (f := fun k => v 4 (qs k) * wgt v (nyk v (tset qs k) P)) (c := 99 * 144) (n := n) (fun k hk => Nat.mul_le_mul (R.2.2.2.2.1 _ (hq k hk)).2.2 (wgt_le R _))
  have h2 : n * (99 * 144) ≤ 7 * (99 * 144) := Nat.mul_le_mul_right _ hn
  unfold pay
  omega
theorem unknownWeight_ev {w : WW} {b : Nat} {v : Vt} (C : CSt w b v) (R : Rg v) (T : Nat → Bool) {P : Nat → Bool} (hP : ∀ x, x < 16 → P x = true → x < v 0 0) : f_X5_unknownWeight b w (bs P) (bs T) = some (nI (wgt v (nyk v T P))) := by
  unfold f_X5_unknownWeight
  rw [notYetKnown_ev C R T hP, Option.bind_some, weightOf_ev C R, Option.bind_some]
theorem sum_swap (a : Nat → Nat → Nat) (c : Nat → Nat) : ∀ (n N : Nat), fb_sm (fun x => fb_sm (fun k => a k x) n * c x) N = fb_sm (fun k => fb_sm (fun x => a k x * c x) N) n
  | 0, N => by
    induction N with
    | zero => rfl
    | succ N ih => rw [fb_sm_succ, ih]; simp [fb_sm]
  | n + 1, N => by
    rw [fb_sm_succ, ← sum_swap a c n N, ← fb_sm_add]
    exact fb_sm_cong (fun x _ => by rw [fb_sm_succ, Nat.add_mul])
theorem sm_mul (p : Nat) (f : Nat → Nat) : ∀ n, fb_sm (fun x => p * f x) n = p * fb_sm f n
  | 0 => rfl
  | n + 1 => by rw [fb_sm_succ, fb_sm_succ, sm_mul p f n, Nat.mul_add]
theorem pay_alt (v : Vt) (P : Nat → Bool) (qs : Nat → Nat) (n : Nat) : fb_sm (fun x => fb_sm (fun k => if nyk v (tset qs k) P x = true then v 4 (qs k) else 0) n * v 1 x) (v 0 0) = pay v P qs n := by
  rw [sum_swap]
  unfold pay wgt
  refine fb_sm_cong (fun k _ => ?_)
  rw [← sm_mul]
  refine fb_sm_cong (fun x _ => ?_)
  split <;> simp
theorem paidBy_ev {w : WW} {v : Vt} (C : MSt w v) (R : Rg v) {P : Nat → Bool} (hP : ∀ x, x < 16 → P x = true → x < v 0 0) {qs : Nat → Nat} {n : Nat} (hn : n ≤ 7) (hq : ∀ k, k < n → qs k < v 0 1) (h27 : w.1 46 27 = nI n) (h62 : ∀ k, k < n → w.1 62 k = nI (qs k)) : f_X8_paidBy w (bs P) = some (nI (pay v P qs n)) := by
  have h16 := R.1.2
  have h7 := R.2.1
  have hpd : ∀ x m, m ≤ n → fb_sm (fun k => if nyk v (tset qs k) P x = true then v 4 (qs k) else 0) m ≤ 693 := fun x m hm => by
    have := fb_sm_bound (f := fun k => if nyk v (tset qs k) P x = true then v 4 (qs k) else 0) (c := 99) (n := m) (fun k hk => by
      have := (R.2.2.2.2.1 _ (hq k (by omega))).2.2
      split <;> omega)
    omega
  unfold f_X8_paidBy
  rw [← pay_alt]
  have h := lpf_seq (body := fun s : Int32 × Int32 => f_X8_paidBy_b4 w (bs P) s.1 s.2) (fun k => (nI (fb_sm (fun x => fb_sm (fun k => if nyk v (tset qs k) P x = true then v 4 (qs k) else 0) n * v 1 x) k), nI k)) (v 0 0) (nI (fb_sm (fun x => fb_sm (fun k => if nyk v (tset qs k) P x = true then v 4 (qs k) else 0) n * v 1 x) (v 0 0))) (by omega) (fun x hx => ?_) ?_
  · rw [show ((0 : Int32), (0 : Int32)) = (nI (fb_sm (fun x => fb_sm (fun k => if nyk v (tset qs k) P x = true then v 4 (qs k) else 0) n * v 1 x) 0), nI 0) from rfl, h]; rfl
  · have L : lpf (fun s : Int32 × Int32 × Int32 => f_X8_paidBy_b21 w (bs P) (nI (fb_sm (fun x => fb_sm (fun k => if nyk v (tset qs k) P x = true then v 4 (qs k) else 0) n * v 1 x) x)) (nI x) s.1 s.2.1 s.2.2) FU (bs P, (0 : Int32), (0 : Int32)) = some (nI (fb_sm (fun k => if nyk v (tset qs k) P x = true then v 4 (qs k) else 0) n)) := by
      by_cases px : P x = true
      · have h2 := lpf_seq (body := fun s : Int32 × Int32 × Int32 => f_X8_paidBy_b21 w (bs P) (nI (fb_sm (fun x => fb_sm (fun k => if nyk v (tset qs k) P x = true then v 4 (qs k) else 0) n * v 1 x) x)) (nI x) s.1 s.2.1 s.2.2) (fun k => (bs (fun y => P y && bh v (tset qs k) x y), nI (fb_sm (fun k => if nyk v (tset qs k) P x = true then v 4 (qs k) else 0) k), nI k)) n (nI (fb_sm (fun k => if nyk v (tset qs k) P x = true then v 4 (qs k) else 0) n)) (by omega) (fun k hk => ?_) ?_
        · rw [show (bs P, (0 : Int32), (0 : Int32)) = (bs (fun y => P y && bh v (tset qs 0) x y), nI (fb_sm (fun k => if nyk v (tset qs k) P x = true then v 4 (qs k) else 0) 0), nI 0) by
            rw [bs_congr (P := P) (Q := fun y => P y && bh v (tset qs 0) x y) (fun y _ => by rw [show bh v (tset qs 0) x y = true from bh_iff.mpr (fun q _ hq => by simp [tset] at hq)]; simp)]; rfl]
          exact h2
        · have hqk := hq k hk
          have hA := an_le R hqk (show x < 16 by omega)
          have hself : (P x && bh v (tset qs k) x x) = true := by rw [px, bh_self]; rfl
          have hnext : bs (fun y => P y && bh v (tset qs k) x y) &&& bs (cby v (qs k) (an v (qs k) x)) = bs (fun y => P y && bh v (tset qs (k + 1)) x y) := by
            rw [bs_and]
            refine bs_congr (fun y hy => ?_)
            have hb : bh v (tset qs (k + 1)) x y = (bh v (tset qs k) x y && decide (an v (qs k) y = an v (qs k) x)) := by
              rw [Bool.eq_iff_iff, Bool.and_eq_true, bh_iff, bh_iff, decide_eq_true_eq]
              constructor
              · intro h
                exact ⟨fun q hq1 hq2 => h q hq1 (by rw [tset, hq2]; rfl), h _ hqk (by simp [tset])⟩
              · rintro ⟨g1, g2⟩ q hq1 hq2
                rw [tset, Bool.or_eq_true, decide_eq_true_eq] at hq2
                rcases hq2 with hq2 | hq2
                · exact g1 q hq1 hq2
                · rw [hq2]; exact g2
            rw [hb]
            unfold cby
            cases e : P y with
            | false => simp
            | true => simp [hP y hy e]
          simp only [f_X8_paidBy_b21, f_X8_paidBy_j93, h27, nmv]
          rw [if_neg (nI_ge hk (by omega)), hasM w P (by omega), Option.bind_some, if_pos px, if_neg (by decide), gd_t (inb_n (by omega) (by omega)), cl_n (by omega), h62 k hk, gd_t (inb_n (by omega) (by omega)), gd_t (inb_n (by omega) (by omega)), gd_t (inb_n (by omega) (by omega)), answerOf_ev C R hqk (by omega), Option.bind_some, casesBy_ev C R hqk (by omega), Option.bind_some, hnext, cl_n (by omega), (C.2.2.2.2.1 _ hqk).2.2, nI_1, nI_add, fb_sm_succ]
          by_cases hs : bs (fun y => P y && bh v (tset qs k) x y) = bs (fun y => decide (y = x))
          · have hny : nyk v (tset qs k) P x = false := by unfold nyk; rw [(only_iff px).mp hs]; simp
            rw [if_pos ((sing_iff (Q := fun y => P y && bh v (tset qs k) x y) (by omega) hself).mpr hs), hny, if_neg (by decide), ← hnext, hs, bs_and, Nat.add_zero, bs_congr (P := fun y => decide (y = x)) (Q := fun i => decide (i = x) && cby v (qs k) (an v (qs k) x) i) (fun y _ => by
              by_cases e : y = x
              · subst e; unfold cby; simp [hx]
              · simp [e])]
            rfl
          · have hny : nyk v (tset qs k) P x = true := by
              unfold nyk
              rw [px]
              cases q : allB (fun y => !(P y && bh v (tset qs k) x y) || decide (y = x)) 16 with
              | false => rfl
              | true => exact absurd ((only_iff px).mpr q) hs
            rw [if_neg (fun e => hs ((sing_iff (Q := fun y => P y && bh v (tset qs k) x y) (by omega) hself).mp e)), hny, if_pos rfl]
        · simp only [f_X8_paidBy_b21, h27]
          rw [if_pos (nI_le (Nat.le_refl _) (by omega))]
      · have hz : fb_sm (fun k => if nyk v (tset qs k) P x = true then v 4 (qs k) else 0) n = 0 := by
          have := fb_sm_bound (f := fun k => if nyk v (tset qs k) P x = true then v 4 (qs k) else 0) (c := 0) (n := n) (fun k _ => by unfold nyk; simp [px])
          omega
        rw [hz]
        refine lpf_seq (fun _ => (bs P, (0 : Int32), (0 : Int32))) 0 _ (by omega) (fun i hi => by omega) ?_
        simp only [f_X8_paidBy_b21, h27]
        rw [hasM w P (by omega), Option.bind_some, if_neg px, if_pos rfl]
        split <;> rfl
    simp only [f_X8_paidBy_b4, C.1, nmv]
    rw [if_neg (nI_ge hx (by omega)), L, Option.bind_some, gd_t (inb_n (by omega) (by omega)), cl_n (by omega), C.2.2.2.1 x (by omega), pk_mul, nI_add, nI_1, fb_sm_succ]
  · simp only [f_X8_paidBy_b4, C.1]
    rw [if_pos (nI_le (Nat.le_refl _) (by omega))]
/-! the fraction -/
theorem gcd_pos' {a b : Nat} (hb : 0 < b) : 0 < Nat.gcd a b := Nat.gcd_pos_of_pos_right _ hb
theorem lN0 : (0 : Int64) = lN 0 := rfl
theorem lgz : lg_cmp (lN 0) 0 = 0 := by decide
theorem divisorC (w : WW) {a b : Nat} (ha : a < 2 ^ 31) (hb : b ≤ 144) : f_X1_commonDivisor w (lN a) (lN b) = some (lN (Nat.gcd a b)) := by
  unfold f_X1_commonDivisor
  have L : Ev (lpf (fun s : Int64 × Int64 × Int32 => f_X1_commonDivisor_b9 w s.1 s.2.1 s.2.2) FU (lN a, lN b, (0 : Int32))) (fun r => r = lN (Nat.gcd a b)) := by
    refine lpf_inv (fun k s => ∃ c d, s = (lN c, lN d, nI k) ∧ Nat.gcd c d = Nat.gcd a b ∧ d + k ≤ 144 + (if d = 0 then k else 0) ∧ c < 2 ^ 31) _ 145 (by omega) ⟨a, b, rfl, rfl, by split <;> omega, ha⟩ (fun k s hk hI => ?_) (fun s hI => ?_)
    · obtain ⟨c, d, rfl, h1, h2, h3⟩ := hI
      simp only [f_X1_commonDivisor_b9, nmv]
      by_cases d0 : d = 0
      · subst d0
        rw [show (200 : Int32) = nI 200 from rfl, if_neg (nI_ge (by omega) (by omega)), if_pos lgz]
        rw [Nat.gcd_zero_right] at h1
        exact Or.inr ⟨_, rfl, by rw [h1]⟩
      · rw [if_neg d0] at h2
        have e0 : ¬ lN d = 0 := by rw [lN0, pk_lEQ (by omega) (by omega)]; exact d0
        rw [show (200 : Int32) = nI 200 from rfl, if_neg (nI_ge (by omega) (by omega)), if_neg (fun e => e0 ((lg_cmp_eq _ _).mp e)), gd_t e0, nI_1]
        unfold rm64
        rw [pk_lRem (by omega) (by omega) (by omega)]
        have hm : c % d < d := Nat.mod_lt _ (by omega)
        refine Or.inl ⟨_, rfl, d, c % d, rfl, ?_, by split <;> omega, by omega⟩
        rw [← h1, Nat.gcd_comm c d, Nat.gcd_rec d c, Nat.gcd_comm]
    · obtain ⟨c, d, rfl, h1, h2, h3⟩ := hI
      have d0 : d = 0 := by
        by_cases d0 : d = 0
        · exact d0
        · rw [if_neg d0] at h2; omega
      subst d0
      simp only [f_X1_commonDivisor_b9]
      rw [if_neg (by decide), if_pos lgz]
      rw [Nat.gcd_zero_right] at h1
      exact ⟨_, rfl, by rw [h1]⟩
  obtain ⟨r, e, rfl⟩ := L
  rw [e]; rfl
theorem layLoop (w : WW) (l1 l3 : Int64) {a b : Nat} (ha : a < 2 ^ 31) (hb : b ≤ 144) : lpf (fun s : Int64 × Int64 => f_X8_lay_b6 w l1 l3 s.1 s.2) FU (lN a, lN b) = some (lN (Nat.gcd a b)) := by
  have L : Ev (lpf (fun s : Int64 × Int64 => f_X8_lay_b6 w l1 l3 s.1 s.2) FU (lN a, lN b)) (fun r => r = lN (Nat.gcd a b)) := by
    refine lpf_inv (fun k s => ∃ c d, s = (lN c, lN d) ∧ Nat.gcd c d = Nat.gcd a b ∧ d + k ≤ 144 + (if d = 0 then k else 0) ∧ c < 2 ^ 31) _ 145 (by omega) ⟨a, b, rfl, rfl, by split <;> omega, ha⟩ (fun k s hk hI => ?_) (fun s hI => ?_)
    · obtain ⟨c, d, rfl, h1, h2, h3⟩ := hI
      simp only [f_X8_lay_b6, nmv]
      by_cases d0 : d = 0
      · subst d0
        rw [if_pos lgz]
        rw [Nat.gcd_zero_right] at h1
        exact Or.inr ⟨_, rfl, by rw [h1]⟩
      · rw [if_neg d0] at h2
        have e0 : ¬ lN d = 0 := by rw [lN0, pk_lEQ (by omega) (by omega)]; exact d0
        rw [if_neg (fun e => e0 ((lg_cmp_eq _ _).mp e)), gd_t e0]
        unfold rm64
        rw [pk_lRem (by omega) (by omega) (by omega)]
        have hm : c % d < d := Nat.mod_lt _ (by omega)
        refine Or.inl ⟨_, rfl, d, c % d, rfl, ?_, by split <;> omega, by omega⟩
        rw [← h1, Nat.gcd_comm c d, Nat.gcd_rec d c, Nat.gcd_comm]
    · obtain ⟨c, d, rfl, h1, h2, h3⟩ := hI
      have d0 : d = 0 := by
        by_cases d0 : d = 0
        · exact d0
        · rw [if_neg d0] at h2; omega
      subst d0
      simp only [f_X8_lay_b6]
      rw [if_pos lgz]
      rw [Nat.gcd_zero_right] at h1
      exact ⟨_, rfl, by rw [h1]⟩
  obtain ⟨r, e, rfl⟩ := L
  exact e
def frc (a b : Nat) : Int64 × Int64 := (lN (a / Nat.gcd a b), lN (b / Nat.gcd a b))
theorem become_ev (w : WW) {a b : Nat} (ha : a < 2 ^ 31) (hb : b ≤ 144) (h1 : 1 ≤ b) : f_X1_become w (nI a).toInt64 (nI b).toInt64 = some (sL (sL w 36 0 (frc a b).1) 36 1 (frc a b).2) := by
  have hg := gcd_pos' (a := a) (show 0 < b by omega)
  have hg2 : Nat.gcd a b ≤ b := Nat.gcd_le_right _ (by omega)
  have g0 : ¬ lN (Nat.gcd a b) = 0 := by rw [lN0, pk_lEQ (by omega) (by omega)]; omega
  unfold f_X1_become
  rw [nI_l (by omega), nI_l (by omega), divisorC w ha hb, Option.bind_some, if_neg (by rw [lg_cmp_le, lN0, pk_lLE (by omega) (by omega)]; omega), if_neg (by rw [lg_cmp_le, lN0, pk_lLE (by omega) (by omega)]; omega), gd_t g0]
  simp only [stL]
  rw [gd_t g0, pk_lDiv (by omega) hg (by omega), pk_lDiv (by omega) hg (by omega)]
  rfl
theorem lay_ev (w : WW) {a b : Nat} (ha : a < 2 ^ 31) (hb : b ≤ 144) (h1 : 1 ≤ b) : f_X8_lay w (nI a).toInt64 (nI b).toInt64 = some (sL (sL w 46 24 (frc a b).1) 46 25 (frc a b).2) := by
  have hg := gcd_pos' (a := a) (show 0 < b by omega)
  have hg2 : Nat.gcd a b ≤ b := Nat.gcd_le_right _ (by omega)
  have g0 : ¬ lN (Nat.gcd a b) = 0 := by rw [lN0, pk_lEQ (by omega) (by omega)]; omega
  unfold f_X8_lay
  rw [nI_l (by omega), nI_l (by omega), layLoop w _ _ ha hb, Option.bind_some, gd_t g0]
  simp only [stL]
  rw [gd_t g0, pk_lDiv (by omega) hg (by omega), pk_lDiv (by omega) hg (by omega)]
  rfl
theorem frc_pos {a b : Nat} (hb : b ≤ 144) (h1 : 1 ≤ b) : 0 < (frc a b).2 := by
  have hg := gcd_pos' (a := a) (show 0 < b by omega)
  have hd : 1 ≤ b / Nat.gcd a b := (Nat.le_div_iff_mul_le hg).mpr (by rw [Nat.one_mul]; exact Nat.gcd_le_right _ (by omega))
  have hle : b / Nat.gcd a b ≤ b := Nat.div_le_self _ _
  unfold frc
  rw [lN0, pk_lLT (by omega) (by omega)]
  omega
theorem CInv.frac {w : WW} {S : StT} (C : CInv w S) (f : Int64 × Int64) : CInv (sL (sL w 36 0 f.1) 36 1 f.2) (S.1, S.2.1, S.2.2.1, f, S.2.2.2.2) := by
  obtain ⟨c1, c2, c3, c4, c5⟩ := C
  exact ⟨CA_congr (fun _ _ _ _ => rfl) c1, fun i hi => CImg_congr rfl (fun _ _ _ _ => rfl) (c2 i hi), c3, ⟨by rw [sL_ne _ _ (by omega), sL_at], sL_at _ _ _ _⟩, c5⟩
theorem MInv.frac {w : WW} {S : StT} (C : MInv w S) (f : Int64 × Int64) : MInv (sL (sL w 46 24 f.1) 46 25 f.2) (S.1, S.2.1, S.2.2.1, f, S.2.2.2.2) := by
  obtain ⟨c1, c2, c3, c4, c5⟩ := C
  exact ⟨MA_congr (fun _ _ => rfl) (fun _ _ _ => rfl) c1, fun i hi => MImg_congr (fun _ => rfl) (c2 i hi), c3, ⟨by rw [sL_ne _ _ (by omega), sL_at], sL_at _ _ _ _⟩, c5⟩

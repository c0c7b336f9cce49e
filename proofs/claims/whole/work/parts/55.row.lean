/-! a row's figures -/
def dg (r j : Nat) : Nat := r / 10 ^ j % 10
def nd (r : Nat) : Nat := if r < 1 then 0 else if r < 10 then 1 else if r < 100 then 2 else if r < 1000 then 3 else if r < 10000 then 4 else if r < 100000 then 5 else if r < 1000000 then 6 else 7
theorem nd_le (r : Nat) : nd r ≤ 7 := by
  unfold nd
  repeat' split
  all_goals omega
theorem nd_iff (r : Nat) {j : Nat} (hj : j < 7) : j < nd r ↔ 10 ^ j ≤ r := by
  have : j = 0 ∨ j = 1 ∨ j = 2 ∨ j = 3 ∨ j = 4 ∨ j = 5 ∨ j = 6 := by omega
  unfold nd
  rcases this with rfl | rfl | rfl | rfl | rfl | rfl | rfl
  all_goals
    simp only [show (10 : Nat) ^ 0 = 1 from rfl, show (10 : Nat) ^ 1 = 10 from rfl, show (10 : Nat) ^ 2 = 100 from rfl, show (10 : Nat) ^ 3 = 1000 from rfl, show (10 : Nat) ^ 4 = 10000 from rfl, show (10 : Nat) ^ 5 = 100000 from rfl, show (10 : Nat) ^ 6 = 1000000 from rfl]
    repeat' split
    all_goals omega
theorem q_pos {r j : Nat} : 0 < r / 10 ^ j ↔ 10 ^ j ≤ r := by
  have h : 0 < 10 ^ j := Nat.pow_pos (by omega)
  constructor
  · intro h1
    have := (Nat.le_div_iff_mul_le h).mp h1
    omega
  · intro h1
    exact (Nat.le_div_iff_mul_le h).mpr (by omega)
theorem q_step (r j : Nat) : r / 10 ^ j / 10 = r / 10 ^ (j + 1) := by rw [Nat.div_div_eq_div_mul, Nat.pow_succ]
theorem nd_0 {r : Nat} (h : nd r < 7) : r / 10 ^ nd r = 0 := by
  exact Nat.div_eq_of_lt (Nat.lt_of_not_le (fun e => Nat.lt_irrefl _ ((nd_iff r h).mpr e)))
theorem nd_not {r j : Nat} (hj : j < 7) (h : ¬ j < nd r) : r < 10 ^ j := Nat.lt_of_not_le (fun e => h ((nd_iff r hj).mpr e))
theorem q7 (r : Nat) : r / 10 ^ nd r = 0 ↔ r < 10000000 := by
  have h1 := nd_le r
  by_cases h : nd r = 7
  · rw [h, show (10 : Nat) ^ 7 = 10000000 from rfl]
    omega
  · refine ⟨fun _ => ?_, fun _ => nd_0 (by omega)⟩
    have := nd_not (r := r) (show 6 < 7 by omega) (by omega)
    rw [show (10 : Nat) ^ 6 = 1000000 from rfl] at this
    omega
def okd (q r j : Nat) : Bool := decide (1 ≤ dg r j ∧ dg r j ≤ q)
def rowB (q r : Nat) : Bool := allB (okd q r) (nd r)
theorem inb_dg {d q : Nat} (hd : d < 10) (hq : q ≤ 7) : inb (nI d - 1) q ↔ (1 ≤ d ∧ d ≤ q) := by
  cases d with
  | zero =>
    unfold inb
    have : (nI 0 - 1).toInt = -1 := by decide
    rw [this]
    omega
  | succ d =>
    rw [nI_pred]
    unfold inb
    rw [nI_toInt (by omega)]
    omega
theorem row_max {q r : Nat} (hq : q ≤ 7) (h : rowB q r = true) (hr : r < 10000000) : r ≤ 7777777 := by
  have key : ∀ j, j < 7 → dg r j ≤ 7 := fun j hj => by
    by_cases hn : j < nd r
    · have := allB_iff.mp h j hn
      unfold okd at this
      rw [decide_eq_true_eq] at this
      omega
    · have h1 := nd_not hj hn
      unfold dg
      rw [Nat.div_eq_of_lt (by omega)]
      omega
  have k0 := key 0 (by omega)
  have k1 := key 1 (by omega)
  have k2 := key 2 (by omega)
  have k3 := key 3 (by omega)
  have k4 := key 4 (by omega)
  have k5 := key 5 (by omega)
  have k6 := key 6 (by omega)
  unfold dg at k0 k1 k2 k3 k4 k5 k6
  rw [show (10 : Nat) ^ 0 = 1 from rfl] at k0
  rw [show (10 : Nat) ^ 1 = 10 from rfl] at k1
  rw [show (10 : Nat) ^ 2 = 100 from rfl] at k2
  rw [show (10 : Nat) ^ 3 = 1000 from rfl] at k3
  rw [show (10 : Nat) ^ 4 = 10000 from rfl] at k4
  rw [show (10 : Nat) ^ 5 = 100000 from rfl] at k5
  rw [show (10 : Nat) ^ 6 = 1000000 from rfl] at k6
  omega
theorem isRow_in {w : WW} {q : Nat} (hq : q ≤ 7) (h1 : w.1 1 1 = nI q) {r : Nat} (hr : r ≤ 7777777) : f_X7_isRow w (nI r) = some (b2i (rowB q r)) := by
  have hx : inb (nI r) 7777778 := inb_n (by omega) (by omega)
  unfold f_X7_isRow
  rw [within_nn w (nI r) (show (7777777 : Int32) = nI 7777778 - 1 from rfl) (by omega), Option.bind_some, if_pos hx, if_neg (by decide)]
  have L : Ev (lpf (fun s : Int32 × Int32 => f_X7_isRow_b17 w s.1 s.2) FU (nI r, (0 : Int32))) (fun z => (z = .inl () ∧ rowB q r = false) ∨ (z = .inr () ∧ rowB q r = true)) := by
    refine lpf_inv (fun j s => s = (nI (r / 10 ^ j), nI j) ∧ allB (okd q r) j = true ∧ j ≤ nd r) _ 7 (by omega) ⟨by rw [Nat.pow_zero, Nat.div_one]; rfl, rfl, Nat.zero_le _⟩ (fun j s hj hI => ?_) (fun s hI => ?_)
    · obtain ⟨rfl, h2, h3⟩ := hI
      have hle : r / 10 ^ j ≤ r := Nat.div_le_self _ _
      simp only [f_X7_isRow_b17, nmv]
      rw [show (7 : Int32) = nI 7 from rfl, if_neg (nI_ge hj (by omega))]
      by_cases h0 : r / 10 ^ j = 0
      · rw [h0, if_pos (by decide)]
        have : ¬ j < nd r := fun e => by have := q_pos.mpr ((nd_iff r hj).mp e); omega
        refine Or.inr ⟨_, rfl, Or.inr ⟨rfl, ?_⟩⟩
        unfold rowB
        rw [show nd r = j by omega]
        exact h2
      · have hjn : j < nd r := (nd_iff r hj).mpr (q_pos.mp (Nat.pos_of_ne_zero h0))
        have hd : r / 10 ^ j % 10 < 10 := Nat.mod_lt _ (by omega)
        rw [if_neg (nI_nle (Nat.pos_of_ne_zero h0) (by omega)), gd_t (by decide), gd_t (by decide), show (10 : Int32) = nI 10 from rfl, rm_n (by omega) (by omega) (by omega), isQ_ev (q := q) (by omega) h1, Option.bind_some, pk_div (by omega) (by omega) (by omega), q_step, nI_1]
        by_cases ho : inb (nI (r / 10 ^ j % 10) - 1) q
        · rw [if_pos ho, if_neg (by decide)]
          refine Or.inl ⟨_, rfl, rfl, ?_, by omega⟩
          rw [allB, h2, Bool.true_and]
          exact decide_eq_true ((inb_dg hd hq).mp ho)
        · rw [if_neg ho, if_pos (by decide)]
          refine Or.inr ⟨_, rfl, Or.inl ⟨rfl, ?_⟩⟩
          cases e : rowB q r with
          | false => rfl
          | true =>
            have := allB_iff.mp e j hjn
            unfold okd at this
            exact absurd ((inb_dg hd hq).mpr (of_decide_eq_true this)) ho
    · obtain ⟨rfl, h2, h3⟩ := hI
      simp only [f_X7_isRow_b17]
      rw [if_pos (by decide)]
      have := nd_le r
      refine ⟨_, rfl, Or.inr ⟨rfl, ?_⟩⟩
      unfold rowB
      rw [show nd r = 7 by omega]
      exact h2
  obtain ⟨z, e, h⟩ := L
  rw [e, Option.bind_some]
  rcases h with ⟨rfl, h⟩ | ⟨rfl, h⟩
  · rw [h]; rfl
  · rw [h]; rfl
theorem isRow_out {w : WW} {x : Int32} (hx : ¬ inb x 7777778) : f_X7_isRow w x = some 0 := by
  unfold f_X7_isRow
  rw [within_nn w x (show (7777777 : Int32) = nI 7777778 - 1 from rfl) (by omega), Option.bind_some, if_neg hx, if_pos (by decide)]
/-- the row laid out by the reference -/
def Lin (w0 w : WW) (n : Nat) : Prop := (∀ k j, k ≠ 62 → ¬ (k = 46 ∧ j = 27) → w.1 k j = w0.1 k j) ∧ w.2 = w0.2 ∧ w.1 46 27 = nI n
theorem Lin.same {w0 w : WW} {n : Nat} (h : Lin w0 w n) : SameM w0 w ∧ HighM w0 w := ⟨⟨fun k j hk => h.1 k j (by unfold scrM at hk; omega) (by unfold scrM at hk; omega), fun k j _ => by rw [h.2.1]⟩, fun k hk => ⟨funext fun j => h.1 k j (by omega) (by omega), by rw [h.2.1]⟩⟩
theorem sub1 (x : Int32) : x + -1 = x - 1 := (Int32.sub_eq_add_neg x 1).symm
theorem layLine_in {w : WW} {q : Nat} (hq : q ≤ 7) (h1 : w.1 46 2 = nI q) {r : Nat} (hr : r < 2 ^ 31) : Ev (f_X8_layLine w (nI r)) (fun z => z.1 = b2i (decide (r < 10000000) && rowB q r) ∧ Lin w z.2 (nd r) ∧ ∀ k, k < nd r → z.2.1 62 k = nI (dg r (nd r - 1 - k)) - 1) := by
  have hn7 := nd_le r
  unfold f_X8_layLine
  have L1 : lpf (fun s : Int32 × Int32 => f_X8_layLine_b4 w (nI r) s.1 s.2) FU (nI r, (0 : Int32)) = some (nI (r / 10 ^ nd r), nI (nd r)) := by
    have h := lpf_seq (body := fun s : Int32 × Int32 => f_X8_layLine_b4 w (nI r) s.1 s.2) (fun j => (nI (r / 10 ^ j), nI j)) (nd r) (nI (r / 10 ^ nd r), nI (nd r)) (by omega) (fun j hj => ?_) ?_
    · rw [show (nI r, (0 : Int32)) = (nI (r / 10 ^ 0), nI 0) by rw [Nat.pow_zero, Nat.div_one]; rfl]
      exact h
    · have hle : r / 10 ^ j ≤ r := Nat.div_le_self _ _
      have hp := q_pos.mpr ((nd_iff r (show j < 7 by omega)).mp hj)
      simp only [f_X8_layLine_b4, nmv]
      rw [if_neg (nI_nle hp (by omega)), show (7 : Int32) = nI 7 from rfl, if_neg (nI_ge (by omega) (by omega)), gd_t (by decide), show (10 : Int32) = nI 10 from rfl, pk_div (by omega) (by omega) (by omega), q_step, nI_1]
    · simp only [f_X8_layLine_b4]
      by_cases h : nd r = 7
      · rw [h, if_pos (show (7 : Int32) ≤ nI 7 by decide)]
        split <;> rfl
      · rw [nd_0 (by omega), if_pos (by decide)]
  rw [L1, Option.bind_some, if_neg (nI_pos hr)]
  have L2 : ∀ s0 : Bool, Ev (f_X8_layLine_j38 w (nI r) (nI (nd r)) (b2i s0)) (fun z => z.1 = b2i (s0 && rowB q r) ∧ Lin w z.2 (nd r) ∧ ∀ k, k < nd r → z.2.1 62 k = nI (dg r (nd r - 1 - k)) - 1) := fun s0 => by
    simp only [f_X8_layLine_j38, nmv]
    have L3 : Ev (lpf (fun s : Int32 × Int32 × Int32 × WW => f_X8_layLine_b47 (nI (nd r)) s.1 s.2.1 s.2.2.1 s.2.2.2) FU (nI r, b2i s0, nI (nd r) - 1, w)) (fun z => z.1 = b2i (s0 && rowB q r) ∧ (∀ k j, k ≠ 62 → z.2.1 k j = w.1 k j) ∧ z.2.2 = w.2 ∧ ∀ k, k < nd r → z.2.1 62 k = nI (dg r (nd r - 1 - k)) - 1) := by
      refine lpf_inv (fun j s => s.1 = nI (r / 10 ^ j) ∧ s.2.1 = b2i (s0 && allB (okd q r) j) ∧ s.2.2.1 = nI (nd r - j) - 1 ∧ (∀ k j, k ≠ 62 → s.2.2.2.1 k j = w.1 k j) ∧ s.2.2.2.2 = w.2 ∧ ∀ i, i < j → s.2.2.2.1 62 (nd r - 1 - i) = nI (dg r i) - 1) _ (nd r) (by omega) ⟨by rw [Nat.pow_zero, Nat.div_one], by simp [allB], by rw [Nat.sub_zero], fun _ _ _ => rfl, rfl, fun i hi => by omega⟩ (fun j s hj hI => Or.inl ?_) (fun s hI => ?_)
      · obtain ⟨a, b, c, u⟩ := s
        obtain ⟨rfl, rfl, rfl, i1, i2, i3⟩ := hI
        have hle : r / 10 ^ j ≤ r := Nat.div_le_self _ _
        have hd : r / 10 ^ j % 10 < 10 := Nat.mod_lt _ (by omega)
        obtain ⟨m, hm⟩ : ∃ m, nd r - j = m + 1 := ⟨nd r - j - 1, by omega⟩
        refine ⟨(nI (r / 10 ^ (j + 1)), b2i (s0 && allB (okd q r) (j + 1)), nI (nd r - (j + 1)) - 1, sI u 62 m (nI (dg r j) - 1)), ?_, rfl, rfl, rfl, fun k j' hk => by dsimp only; rw [sI_ne _ _ (by omega)]; exact i1 k j' hk, i2, fun i hi => ?_⟩
        · show f_X8_layLine_b47 (nI (nd r)) (nI (r / 10 ^ j)) (b2i (s0 && allB (okd q r) j)) (nI (nd r - j) - 1) u = _
          simp only [f_X8_layLine_b47, f_X8_layLine_j88, f_X8_layLine_j89, nmv, stI]
          rw [hm, nI_pred, if_neg (nI_pos (by omega)), gd_t (by decide), gd_t (inb_n (by omega) (by omega)), gd_t (by decide), gd_t (inb_n (by omega) (by omega)), gd_t (by decide), show (10 : Int32) = nI 10 from rfl, rm_n (by omega) (by omega) (by omega), pk_div (by omega) (by omega) (by omega), q_step, cl_n (by omega), sub1, sI_at, isQm_ev (q := q) (by omega) (by rw [sI_ne _ _ (by omega), i1 _ _ (by omega), h1]), Option.bind_some, show nd r - (j + 1) = m by omega, show allB (okd q r) (j + 1) = (allB (okd q r) j && okd q r j) from rfl, ← Bool.and_assoc]
          cases (s0 && allB (okd q r) j) with
          | false => rw [if_pos (by decide)]; rfl
          | true =>
            rw [if_neg (by decide), Bool.true_and]
            by_cases ho : inb (nI (r / 10 ^ j % 10) - 1) q
            · rw [if_pos ho, if_neg (by decide), show okd q r j = true from decide_eq_true ((inb_dg hd hq).mp ho)]; rfl
            · rw [if_neg ho, if_pos (by decide), show okd q r j = false from decide_eq_false (fun e => ho ((inb_dg hd hq).mpr e))]; rfl
        · dsimp only
          by_cases e : i = j
          · subst e; rw [show nd r - 1 - i = m by omega, sI_at]
          · rw [sI_ne _ _ (by omega)]; exact i3 i (by omega)
      · obtain ⟨a, b, c, u⟩ := s
        obtain ⟨rfl, rfl, rfl, i1, i2, i3⟩ := hI
        refine ⟨(b2i (s0 && allB (okd q r) (nd r)), u), ?_, rfl, i1, i2, fun k hk => ?_⟩
        · show f_X8_layLine_b47 (nI (nd r)) _ (b2i (s0 && allB (okd q r) (nd r))) (nI (nd r - nd r) - 1) u = _
          simp only [f_X8_layLine_b47]
          rw [Nat.sub_self, if_pos (by decide)]
        · have := i3 (nd r - 1 - k) (by omega)
          rw [show nd r - 1 - (nd r - 1 - k) = k by omega] at this
          exact this
    obtain ⟨z, e, z1, z2, z3, z4⟩ := L3
    obtain ⟨zf, zw⟩ := z
    rw [e, Option.bind_some]
    have z1 : zf = b2i (s0 && rowB q r) := z1
    subst z1
    simp only [stI]
    rw [gd_t (by cases (s0 && rowB q r) <;> decide)]
    exact ⟨_, rfl, rfl, ⟨fun k j hk hk2 => by dsimp only; rw [sI_ne _ _ (by omega)]; exact z2 k j hk, z3, sI_at _ _ _ _⟩, fun k hk => by dsimp only; rw [sI_ne _ _ (by omega)]; exact z4 k hk⟩
  have hq7 : nI (r / 10 ^ nd r) = 0 ↔ r < 10000000 := by
    have hle : r / 10 ^ nd r ≤ r := Nat.div_le_self _ _
    rw [← q7 r, show (0 : Int32) = nI 0 from rfl, nI_eq (by omega) (by omega)]
  by_cases h : r < 10000000
  · rw [if_pos (hq7.mpr h), decide_eq_true h]
    exact L2 true
  · rw [if_neg (fun e => h (hq7.mp e)), decide_eq_false h]
    exact L2 false
theorem layLine_neg {w : WW} {x : Int32} (hx : x < 0) : f_X8_layLine w x = some (0, sI w 46 27 0) := by
  have hle : x ≤ 0 := Int32.le_of_lt hx
  unfold f_X8_layLine
  rw [lpf_seq (body := fun s : Int32 × Int32 => f_X8_layLine_b4 w x s.1 s.2) (fun _ => (x, (0 : Int32))) 0 (x, 0) (by omega) (fun i hi => by omega) (by simp only [f_X8_layLine_b4]; rw [if_pos hle]), Option.bind_some, if_pos hx]
  simp only [f_X8_layLine_j37, f_X8_layLine_j38, nmv]
  rw [lpf_seq (body := fun s : Int32 × Int32 × Int32 × WW => f_X8_layLine_b47 0 s.1 s.2.1 s.2.2.1 s.2.2.2) (fun _ => (x, 0, 0 - 1, w)) 0 (0, w) (by omega) (fun i hi => by omega) (by simp only [f_X8_layLine_b47]; rw [if_pos (by decide)]), Option.bind_some]
  simp only [stI]
  rw [gd_t (by decide)]
/-- a row as questions -/
def rq (r k : Nat) : Nat := dg r (nd r - 1 - k) - 1
theorem rq_lt {q r : Nat} (h : rowB q r = true) {k : Nat} (hk : k < nd r) : rq r k < q ∧ nI (dg r (nd r - 1 - k)) - 1 = nI (rq r k) := by
  have := allB_iff.mp h (nd r - 1 - k) (by omega)
  unfold okd at this
  rw [decide_eq_true_eq] at this
  unfold rq
  exact ⟨by omega, pk_sub (b := 1) (by omega)⟩
theorem weighedPence_ev {w : WW} {v : Vt} (C : CSt w 1 v) (R : Rg v) {P : Nat → Bool} (hP : ∀ x, x < 16 → P x = true → x < v 0 0) {r : Nat} (hr : r ≤ 7777777) (h : rowB (v 0 1) r = true) : f_X5_weighedPence 1 w (bs P) (nI r) = some (nI (pay v P (rq r) (nd r))) := by
  have h7 := R.2.1
  have hn7 := nd_le r
  unfold f_X5_weighedPence
  have hl := lpf_seq (body := fun s : Int32 × Int32 × Int32 × Int32 => f_X5_weighedPence_b13 1 w (bs P) (nI r) s.1 s.2.1 s.2.2.1 s.2.2.2) (fun i => (nI (pay v P (rq r) (i - (7 - nd r))), bs (tset (rq r) (i - (7 - nd r))), nI (1000000 / 10 ^ i), nI i)) 7 (nI (pay v P (rq r) (nd r))) (by omega) (fun i hi => ?_) ?_
  · rw [show ((0 : Int32), (0 : Int32), (1000000 : Int32), (0 : Int32)) = (nI (pay v P (rq r) (0 - (7 - nd r))), bs (tset (rq r) (0 - (7 - nd r))), nI (1000000 / 10 ^ 0), nI 0) by
      rw [Nat.zero_sub, show bs (tset (rq r) 0) = 0 from bs_eq0.mpr (fun _ _ => rfl)]; rfl]
    rw [hl]; rfl
  · have hu : 1000000 / 10 ^ i = 10 ^ (6 - i) := by
      have : i = 0 ∨ i = 1 ∨ i = 2 ∨ i = 3 ∨ i = 4 ∨ i = 5 ∨ i = 6 := by omega
      rcases this with rfl | rfl | rfl | rfl | rfl | rfl | rfl <;> rfl
    have hup : 0 < 10 ^ (6 - i) := Nat.pow_pos (by omega)
    have hul : 10 ^ (6 - i) ≤ 1000000 := Nat.le_trans (Nat.pow_le_pow_right (by omega) (show 6 - i ≤ 6 by omega)) (by decide)
    have hqu : r / 10 ^ (6 - i) ≤ r := Nat.div_le_self _ _
    have hd : r / 10 ^ (6 - i) % 10 < 10 := Nat.mod_lt _ (by omega)
    simp only [f_X5_weighedPence_b13, f_X5_weighedPence_j80, nmv]
    rw [show (7 : Int32) = nI 7 from rfl, if_neg (nI_ge hi (by omega)), hu, if_neg (nI_nle hup (by omega)), gd_t (nI_ne0 hup (by omega)), gd_t (by decide), show (10 : Int32) = nI 10 from rfl, pk_div (by omega) hup (by omega), rm_n (by omega) (by omega) (by omega), within_nn (n := v 0 1) w _ (by rw [C.2.1]) (by omega), Option.bind_some]
    have hun : nI (10 ^ (6 - i)) / nI 10 = nI (1000000 / 10 ^ (i + 1)) := by rw [pk_div (by omega) (by omega) (by omega), ← hu, q_step]
    by_cases hs : i < 7 - nd r
    · have hz : r / 10 ^ (6 - i) % 10 = 0 := by
        have := nd_not (r := r) (show 6 - i < 7 by omega) (by omega)
        rw [Nat.div_eq_of_lt (by omega)]
      rw [hz, if_neg (show ¬ inb (nI 0 - 1) (v 0 1) from fun e => by have := (inb_dg (by omega) h7).mp e; omega), if_pos rfl, gd_t (by decide), hun, nI_1, show i - (7 - nd r) = 0 by omega, show i + 1 - (7 - nd r) = 0 by omega]
    · obtain ⟨k, hk⟩ : ∃ k, i = k + (7 - nd r) := ⟨i - (7 - nd r), by omega⟩
      have hkn : k < nd r := by omega
      obtain ⟨g1, g2⟩ := rq_lt h hkn
      have e6 : nd r - 1 - k = 6 - i := by omega
      rw [e6] at g2
      unfold dg at g2
      have hin : inb (nI (r / 10 ^ (6 - i) % 10) - 1) (v 0 1) := by rw [g2]; exact inb_n g1 (by omega)
      rw [if_pos hin, if_neg (by decide), g2, gd_t (inb_n (by omega) (by omega)), unknownWeight_ev C R _ hP, Option.bind_some, gd_t (by decide), hun, nI_1, cl_n (by omega), (C.2.2.2.2.1 _ g1).2.2, pk_mul, nI_add, bs_add _ (by omega), show i - (7 - nd r) = k by omega, show i + 1 - (7 - nd r) = k + 1 by omega]
      rfl
  · simp only [f_X5_weighedPence_b13]
    rw [if_pos (by decide), show 7 - (7 - nd r) = nd r by omega]
theorem lft_w {v : Vt} (R : Rg v) (h : ¬ bs (lft v) = 0) : 1 ≤ wgt v (lft v) := by
  have hw := wgt0 R (P := lft v) (fun x _ h => lft_lt h)
  have : cnt (lft v) ≠ 0 := fun e => h (bs0.mpr e)
  have : wgt v (lft v) ≠ 0 := fun e => this (hw.mp e)
  omega
theorem row_ok {w : WW} {S : StT} (I : SInv S) (C : CInv w S) (M : MInv w S) (x : Int32) : Both (f_X7_row w x) (fun w => f_X8_row w x) := by
  have h7 := I.1.1.2.1
  have hP : ∀ x, x < 16 → lft S.1.1 x = true → x < S.1.1 0 0 := fun x _ h => lft_lt h
  -- what is no row
  have bad : f_X7_isRow w x = some 0 → (∀ w', MInv w' S → ∃ w2, f_X8_layLine w' x = some (0, w2) ∧ SameM w' w2 ∧ HighM w' w2) → Both (f_X7_row w x) (fun w => f_X8_row w x) := fun h1 h2 => by
    refine Both.of (S' := bump S 0) (r := -2) M I.bump ?_ (fun w' M' => ?_)
    · unfold f_X7_row
      rw [h1, Option.bind_some, if_pos rfl, refuse_0]
      exact OpC.bump (by omega) C
    · obtain ⟨w2, e, e1, e2⟩ := h2 w' M'
      show OpM w' (f_X8_row w' x) _ _
      unfold f_X8_row
      rw [e, Option.bind_some, if_pos rfl, bad_0]
      exact ⟨_, rfl, e2.tr (HighM.sI (by omega)), (M'.same e1).bump (by omega)⟩
  by_cases hneg : x < 0
  · refine bad (isRow_out (fun e => ?_)) (fun w' M' => ⟨_, layLine_neg hneg, ?_, HighM.sI (by omega)⟩)
    · have h1 := e.1
      rw [Int32.lt_iff_toInt_lt] at hneg
      have h0 : (0 : Int32).toInt = 0 := rfl
      omega
    · exact ⟨fun k j hk => sI_ne _ _ (by unfold scrM at hk; omega), fun _ _ _ => rfl⟩
  · obtain ⟨r, hr, rfl⟩ := nI_of hneg
    have hn7 := nd_le r
    by_cases hok : (decide (r < 10000000) && rowB (S.1.1 0 1) r) = true
    · rw [Bool.and_eq_true, decide_eq_true_eq] at hok
      obtain ⟨hr7, hB⟩ := hok
      have hmax := row_max h7 hB hr7
      have hq : ∀ k, k < nd r → rq r k < S.1.1 0 1 := fun k hk => (rq_lt hB hk).1
      have hpl := pay_le I.1.1 (lft S.1.1) hn7 hq
      have hwl := wgt_le I.1.1 (lft S.1.1)
      by_cases h0 : bs (lft S.1.1) = 0
      · refine Both.of (S' := bump S 1) (r := -3) M I.bump ?_ (fun w' M' => ?_)
        · unfold f_X7_row
          rw [isRow_in h7 C.1.1.2.1 hmax, Option.bind_some, hB, if_neg (by decide), fit0 I C, Option.bind_some, if_pos h0, refuse_1]
          exact OpC.bump (by omega) C
        · obtain ⟨⟨f, w2⟩, e, e1, e2, e3⟩ := layLine_in (w := w') h7 M'.1.2.1 hr
          have e1 : f = _ := e1
          subst e1
          have hs := e2.same
          have M2 := M'.same hs.1
          show OpM w' (f_X8_row w' (nI r)) _ _
          unfold f_X8_row
          rw [e, Option.bind_some, decide_eq_true hr7, hB, if_neg (show ¬ (b2i (true && true)) = 0 by decide)]
          dsimp only
          rw [leftOver_ev M2.1.st I.1.1, Option.bind_some, if_pos h0, no_1]
          exact ⟨_, rfl, hs.2.tr (HighM.sI (by omega)), M2.bump (by omega)⟩
      · have hw1 := lft_w I.1.1 h0
        refine Both.of (S' := (S.1, S.2.1, S.2.2.1, frc (pay S.1.1 (lft S.1.1) (rq r) (nd r)) (wgt S.1.1 (lft S.1.1)), S.2.2.2.2)) (r := 1) M ⟨I.1, I.2.1, I.2.2.1, frc_pos hwl hw1⟩ ?_ (fun w' M' => ?_)
        · refine ⟨_, ?_, ?_, C.frac _⟩
          · unfold f_X7_row
            rw [isRow_in h7 C.1.1.2.1 hmax, Option.bind_some, hB, if_neg (by decide), fit0 I C, Option.bind_some, if_neg h0, weighedPence_ev C.1.1 I.1.1 hP hmax hB, Option.bind_some, weightOf_ev C.1.1 I.1.1, Option.bind_some, become_ev w (by omega) hwl hw1, Option.bind_some]
          · exact (LowC.sL (by omega)).tr (LowC.sL (by omega))
        · obtain ⟨⟨f, w2⟩, e, e1, e2, e3⟩ := layLine_in (w := w') h7 M'.1.2.1 hr
          have e1 : f = _ := e1
          subst e1
          have hs := e2.same
          have M2 := M'.same hs.1
          refine ⟨_, ?_, ?_, M2.frac _⟩
          · show f_X8_row w' (nI r) = _
            unfold f_X8_row
            rw [e, Option.bind_some, decide_eq_true hr7, hB, if_neg (show ¬ (b2i (true && true)) = 0 by decide)]
            dsimp only
            rw [leftOver_ev M2.1.st I.1.1, Option.bind_some, if_neg h0, paidBy_ev M2.1.st I.1.1 hP hn7 hq e2.2.2 (fun k hk => (e3 k hk).trans (rq_lt hB hk).2), Option.bind_some, weightOfM_ev M2.1.st I.1.1, Option.bind_some, lay_ev w2 (by omega) hwl hw1, Option.bind_some]
          · exact hs.2.tr ((HighM.sL (by omega)).tr (HighM.sL (by omega)))
    · have hok : (decide (r < 10000000) && rowB (S.1.1 0 1) r) = false := by simpa using hok
      refine bad ?_ (fun w' M' => ?_)
      · by_cases hm : r ≤ 7777777
        · rw [isRow_in h7 C.1.1.2.1 hm]
          rw [show decide (r < 10000000) = true from decide_eq_true (by omega), Bool.true_and] at hok
          rw [hok]; rfl
        · exact isRow_out (fun e => by
            have := e.2
            rw [nI_toInt hr] at this
            omega)
      · obtain ⟨⟨f, w2⟩, e, e1, e2, e3⟩ := layLine_in (w := w') h7 M'.1.2.1 hr
        have e1 : f = _ := e1
        subst e1
        rw [hok] at e
        exact ⟨w2, e, e2.same⟩

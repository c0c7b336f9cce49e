/-! what stands behind a set of questions; pairs that are parted -/
def bh (v : Vt) (T : Nat → Bool) (x y : Nat) : Bool := allB (fun q => !T q || decide (an v q y = an v q x)) (v 0 1)
theorem bh_iff {v : Vt} {T : Nat → Bool} {x y : Nat} : bh v T x y = true ↔ ∀ q, q < v 0 1 → T q = true → an v q y = an v q x := by
  unfold bh
  rw [allB_iff]
  refine ⟨fun h q hq ht => ?_, fun h q hq => ?_⟩
  · have := h q hq
    rw [ht] at this
    simpa using this
  · cases ht : T q with
    | false => rfl
    | true => simp [h q hq ht]
theorem bh_symm (v : Vt) (T : Nat → Bool) (x y : Nat) : bh v T x y = bh v T y x := by
  rw [Bool.eq_iff_iff, bh_iff, bh_iff]
  exact ⟨fun h q hq ht => (h q hq ht).symm, fun h q hq ht => (h q hq ht).symm⟩
theorem bh_self (v : Vt) (T : Nat → Bool) (x : Nat) : bh v T x x = true := bh_iff.mpr (fun _ _ _ => rfl)
theorem bh_one {v : Vt} {q : Nat} (hq : q < v 0 1) (x y : Nat) : bh v (fun i => decide (i = q)) x y = decide (an v q y = an v q x) := by
  rw [Bool.eq_iff_iff, bh_iff, decide_eq_true_eq]
  exact ⟨fun h => h q hq (by simp), fun h i _ hi => by simp at hi; rw [hi]; exact h⟩
theorem bh_congr {v : Vt} {T U : Nat → Bool} (h : ∀ q, q < v 0 1 → T q = U q) (x y : Nat) : bh v T x y = bh v U x y := by
  rw [Bool.eq_iff_iff, bh_iff, bh_iff]
  exact ⟨fun g q hq ht => g q hq (by rw [h q hq]; exact ht), fun g q hq ht => g q hq (by rw [← h q hq]; exact ht)⟩
theorem bs_nI {s : Nat} (hs : s < 65536) : nI s = bs s.testBit := by
  apply b_ext
  intro i hi
  rw [bt_nI _ _ hi, bt_bs]
  by_cases h : i < 16
  · simp [h]
  · have : s < 2 ^ i := Nat.lt_of_lt_of_le (show s < 2 ^ 16 from hs) (Nat.pow_le_pow_right (by omega) (by omega))
    simp [h, Nat.testBit_lt_two_pow this]
theorem behind_ev {w : WW} {b : Nat} {v : Vt} (C : CSt w b v) (R : Rg v) (T P : Nat → Bool) {x : Nat} (hx : x < 16) : f_X6_behind b w (bs T) (nI x) (bs P) = some (bs (fun y => P y && bh v T x y)) := by
  have hq := R.2.1
  unfold f_X6_behind
  have h := lpf_seq (body := fun s : Int32 × Int32 => f_X6_behind_b6 b w (bs T) (nI x) s.1 s.2) (fun k => (bs (fun y => P y && allB (fun q => !T q || decide (an v q y = an v q x)) k), nI k)) (v 0 1) (bs (fun y => P y && bh v T x y)) (by omega) (fun k hk => ?_) ?_
  · rw [show (bs P, (0 : Int32)) = (bs (fun y => P y && allB (fun q => !T q || decide (an v q y = an v q x)) 0), nI 0) by
      rw [bs_congr (P := P) (Q := fun y => P y && allB (fun q => !T q || decide (an v q y = an v q x)) 0) (fun y _ => by simp [allB])]; rfl]
    rw [h]; rfl
  · simp only [f_X6_behind_b6, f_X6_behind_j42, C.2.1, nmv]
    rw [if_neg (nI_ge hk (by omega)), nI_1]
    by_cases h : T k = true
    · rw [if_pos ((bs_hasT (by omega)).mpr h), ixq, gd_t (inb_n (by omega) (by omega)), cl_n (by omega), C.2.2.2.2.2.1 k x hk hx, bs_and]
      refine pr_bs (fun y _ => ?_)
      rw [allB, h]
      simp [Bool.and_assoc]
    · rw [if_neg (fun e => h ((bs_hasT (by omega)).mp e))]
      refine pr_bs (fun y _ => ?_)
      rw [allB]
      simp [h]
  · simp only [f_X6_behind_b6, C.2.1]
    rw [if_pos (nI_le (Nat.le_refl _) (by omega))]
    rfl
theorem allSets_ev {w : WW} {b : Nat} {v : Vt} (C : CSt w b v) (R : Rg v) : f_X6_allSets b w = some (nI (2 ^ v 0 1)) := by
  unfold f_X6_allSets
  have hq := R.2.1
  rw [C.2.1, bs_pow (by omega)]
theorem allCases_ev {w : WW} {b : Nat} {v : Vt} (C : CSt w b v) (R : Rg v) : f_X6_allCases b w = some (bs (fun x => decide (x < v 0 0))) := by
  unfold f_X6_allCases
  have hq := R.1.2
  rw [C.1, bs_full (by omega)]
theorem p2q {q : Nat} (h : q ≤ 7) : 2 ^ q ≤ 128 := by
  have : 2 ^ q ≤ 2 ^ 7 := Nat.pow_le_pow_right (by omega) h
  omega
/-- each pair twice -/
theorem twice_pairs {f : Nat → Nat → Bool} (h1 : ∀ x y, f x y = f y x) (h2 : ∀ x, f x x = false) : ∀ n, fb_sm (fun x => fb_ct (f x) n) n = 2 * fb_sm (fun x => fb_ct (f x) x) n
  | 0 => rfl
  | n + 1 => by
    have ih := twice_pairs h1 h2 n
    rw [fb_sm_succ, fb_sm_succ, fb_ct_succ, h2 n]
    have e : fb_sm (fun x => fb_ct (f x) (n + 1)) n = fb_sm (fun x => fb_ct (f x) n) n + fb_ct (f n) n := by
      have : ∀ m, fb_sm (fun x => fb_ct (f x) (n + 1)) m = fb_sm (fun x => fb_ct (f x) n) m + fb_ct (f n) m := fun m => by
        induction m with
        | zero => rfl
        | succ m ih => rw [fb_sm_succ, fb_sm_succ, ih, fb_ct_succ, fb_ct_succ, h1 m n]; omega
      exact this n
    rw [e, ih]
    simp only [Bool.false_eq_true, if_false]
    omega
def fpr (v : Vt) (T P : Nat → Bool) (x y : Nat) : Bool := P x && (P y && !bh v T x y)
def prd (v : Vt) (T P : Nat → Bool) : Nat := fb_sm (fun x => fb_ct (fpr v T P x) x) (v 0 0)
theorem fpr_16 {v : Vt} (hn : v 0 0 ≤ 16) {T P : Nat → Bool} (hP : ∀ x, x < 16 → P x = true → x < v 0 0) (x : Nat) : fb_ct (fpr v T P x) 16 = fb_ct (fpr v T P x) (v 0 0) := by
  have h := fb_ct_split (fpr v T P x) (v 0 0) (16 - v 0 0)
  rw [show v 0 0 + (16 - v 0 0) = 16 by omega] at h
  rw [h, show fb_ct (fun k => fpr v T P x (v 0 0 + k)) (16 - v 0 0) = 0 from fb_ct_zero.mpr (fun k hk => ?_), Nat.add_zero]
  unfold fpr
  cases e : P (v 0 0 + k) with
  | false => simp
  | true => have := hP _ (by omega) e; omega
theorem pairsParted_ev {w : WW} {b : Nat} {v : Vt} (C : CSt w b v) (R : Rg v) (T : Nat → Bool) {P : Nat → Bool} (hP : ∀ x, x < 16 → P x = true → x < v 0 0) : f_X6_pairsParted b w (bs T) (bs P) = some (nI (prd v T P)) := by
  have hn := R.1.2
  have h16 : ∀ k, fb_sm (fun x => fb_ct (fpr v T P x) 16) k ≤ k * 16 := fun k => fb_sm_bound (fun x _ => fb_ct_le _ _)
  have e2 : fb_sm (fun x => fb_ct (fpr v T P x) 16) (v 0 0) = 2 * prd v T P := by
    rw [fb_sm_cong (fun x _ => fpr_16 hn hP x)]
    exact twice_pairs (fun x y => by unfold fpr; rw [bh_symm v T x y]; cases P x <;> cases P y <;> rfl) (fun x => by unfold fpr; rw [bh_self]; simp) _
  unfold f_X6_pairsParted
  have h := lpf_seq (body := fun s : Int32 × Int32 => f_X6_pairsParted_b5 b w (bs T) (bs P) s.1 s.2) (fun k => (nI (fb_sm (fun x => fb_ct (fpr v T P x) 16) k), nI k)) (v 0 0) (nI (2 * prd v T P)) (by omega) (fun k hk => ?_) ?_
  · rw [show ((0 : Int32), (0 : Int32)) = (nI (fb_sm (fun x => fb_ct (fpr v T P x) 16) 0), nI 0) from rfl, h, Option.bind_some, gd_t (by decide), q_2, pk_div (by have := h16 (v 0 0); omega) (by omega) (by omega), Nat.mul_div_cancel_left _ (by omega)]
  · simp only [f_X6_pairsParted_b5, f_X6_pairsParted_j42, C.1, nmv]
    rw [if_neg (nI_ge hk (by omega)), nI_1, fb_sm_succ]
    by_cases h : P k = true
    · rw [if_pos ((bs_hasT (by omega)).mpr h), behind_ev C R T P (by omega), Option.bind_some, bs_dif, bitCount_ev, Option.bind_some, nI_add, show cnt (fun y => P y && !(P y && bh v T k y)) = fb_ct (fpr v T P k) 16 from fb_ct_cong (fun y _ => by unfold fpr; rw [h]; cases P y <;> simp)]
    · rw [if_neg (fun e => h ((bs_hasT (by omega)).mp e)), show fb_ct (fpr v T P k) 16 = 0 from fb_ct_zero.mpr (fun y _ => by unfold fpr; simp [h])]; rfl
  · simp only [f_X6_pairsParted_b5, C.1]
    rw [if_pos (nI_le (Nat.le_refl _) (by omega)), e2]
theorem partedBy_ev {w : WW} {v : Vt} (C : MSt w v) (R : Rg v) (P : Nat → Bool) {q : Nat} (hq : q < v 0 1) : f_X8_partedBy w (nI q) (bs P) = some (nI (prd v (fun i => decide (i = q)) P)) := by
  have hn := R.1.2
  unfold f_X8_partedBy
  have h := lpf_seq (body := fun s : Int32 × Int32 => f_X8_partedBy_b5 w (nI q) (bs P) s.1 s.2) (fun k => (nI (fb_sm (fun x => fb_ct (fpr v (fun i => decide (i = q)) P x) x) k), nI k)) (v 0 0) (nI (prd v (fun i => decide (i = q)) P)) (by omega) (fun k hk => ?_) ?_
  · rw [show ((0 : Int32), (0 : Int32)) = (nI (fb_sm (fun x => fb_ct (fpr v (fun i => decide (i = q)) P x) x) 0), nI 0) from rfl, h, Option.bind_some]
  · simp only [f_X8_partedBy_b5, C.1]
    rw [if_neg (nI_ge hk (by omega)), nI_1]
    have h2 := lpf_seq (body := fun s : Int32 × Int32 => f_X8_partedBy_b17 w (nI q) (bs P) (nI k) s.1 s.2) (fun m => (nI (fb_sm (fun x => fb_ct (fpr v (fun i => decide (i = q)) P x) x) k + fb_ct (fpr v (fun i => decide (i = q)) P k) m), nI m)) k (nI (fb_sm (fun x => fb_ct (fpr v (fun i => decide (i = q)) P x) x) (k + 1))) (by omega) (fun m hm => ?_) ?_
    · have h2' : lpf (fun s : Int32 × Int32 => f_X8_partedBy_b17 w (nI q) (bs P) (nI k) s.1 s.2) FU (nI (fb_sm (fun x => fb_ct (fpr v (fun i => decide (i = q)) P x) x) k), 0) = _ := h2
      rw [h2', Option.bind_some]
    · simp only [f_X8_partedBy_b17, f_X8_partedBy_j59, f_X8_partedBy_j60, nmv]
      rw [if_neg (nI_ge hm (by omega)), nI_1, fb_ct_succ, hasM w P (by omega), Option.bind_some]
      have hf : fpr v (fun i => decide (i = q)) P k m = (P k && (P m && !decide (an v q m = an v q k))) := by unfold fpr; rw [bh_one hq]
      rw [hf]
      cases P k with
      | false => rw [if_pos (by decide), show (0 : Int32) = nI 0 from rfl, nI_add]; rfl
      | true =>
        rw [if_neg (by decide), hasM w P (by omega), Option.bind_some]
        cases P m with
        | false => rw [if_pos (by decide), show (0 : Int32) = nI 0 from rfl, nI_add]; rfl
        | true =>
          rw [if_neg (by decide), partsM C R hq (by omega) (by omega), Option.bind_some]
          by_cases e : an v q k = an v q m
          · rw [if_pos e, if_pos rfl, show (0 : Int32) = nI 0 from rfl, nI_add]
            simp [e]
          · have e' : ¬ an v q m = an v q k := fun z => e z.symm
            rw [if_neg e, if_neg (by decide), nI_1]
            simp [e', Nat.add_assoc]
    · simp only [f_X8_partedBy_b17]
      rw [if_pos (nI_le (Nat.le_refl _) (by omega))]
      rfl
  · simp only [f_X8_partedBy_b5, C.1]
    rw [if_pos (nI_le (Nat.le_refl _) (by omega))]
    rfl
theorem partedByAny_ev {w : WW} {v : Vt} (C : MSt w v) (R : Rg v) (P : Nat → Bool) : f_X8_partedByAny w (bs P) = some (nI (prd v (fun i => decide (i < v 0 1)) P)) := by
  have hn := R.1.2
  have hq7 := R.2.1
  unfold f_X8_partedByAny
  have h := lpf_seq (body := fun s : Int32 × Int32 => f_X8_partedByAny_b4 w (bs P) s.1 s.2) (fun k => (nI (fb_sm (fun x => fb_ct (fpr v (fun i => decide (i < v 0 1)) P x) x) k), nI k)) (v 0 0) (nI (prd v (fun i => decide (i < v 0 1)) P)) (by omega) (fun k hk => ?_) ?_
  · rw [show ((0 : Int32), (0 : Int32)) = (nI (fb_sm (fun x => fb_ct (fpr v (fun i => decide (i < v 0 1)) P x) x) 0), nI 0) from rfl, h, Option.bind_some]
  · simp only [f_X8_partedByAny_b4, C.1]
    rw [if_neg (nI_ge hk (by omega)), nI_1]
    have h2 := lpf_seq (body := fun s : Int32 × Int32 => f_X8_partedByAny_b15 w (bs P) (nI k) s.1 s.2) (fun m => (nI (fb_sm (fun x => fb_ct (fpr v (fun i => decide (i < v 0 1)) P x) x) k + fb_ct (fpr v (fun i => decide (i < v 0 1)) P k) m), nI m)) k (nI (fb_sm (fun x => fb_ct (fpr v (fun i => decide (i < v 0 1)) P x) x) (k + 1))) (by omega) (fun m hm => ?_) ?_
    · have h2' : lpf (fun s : Int32 × Int32 => f_X8_partedByAny_b15 w (bs P) (nI k) s.1 s.2) FU (nI (fb_sm (fun x => fb_ct (fpr v (fun i => decide (i < v 0 1)) P x) x) k), 0) = _ := h2
      rw [h2', Option.bind_some]
    · have h3 : lpf (fun s : Int32 × Int32 => f_X8_partedByAny_b27 w (bs P) (nI (fb_sm (fun x => fb_ct (fpr v (fun i => decide (i < v 0 1)) P x) x) k + fb_ct (fpr v (fun i => decide (i < v 0 1)) P k) m)) (nI k) (nI m) s.1 s.2) FU (0, 0) = some (b2i (!bh v (fun i => decide (i < v 0 1)) k m)) := by
        have e0 : (!bh v (fun i => decide (i < v 0 1)) k m) = !allB (fun j => decide (an v j m = an v j k)) (v 0 1) := by
          congr 1
          rw [Bool.eq_iff_iff, bh_iff, allB_iff]
          exact ⟨fun g j hj => by simp [g j hj (by simp [hj])], fun g j hj _ => by simpa using g j hj⟩
        rw [e0]
        refine lpf_seq (fun j => (b2i (!allB (fun j => decide (an v j m = an v j k)) j), nI j)) (v 0 1) _ (by omega) (fun j hj => ?_) ?_
        · simp only [f_X8_partedByAny_b27, f_X8_partedByAny_j58, f_X8_partedByAny_j53, C.2.1]
          rw [if_neg (nI_ge hj (by omega)), nI_1, show allB (fun j => decide (an v j m = an v j k)) (j + 1) = (allB (fun j => decide (an v j m = an v j k)) j && decide (an v j m = an v j k)) from rfl, partsM C R hj (by omega) (by omega), Option.bind_some]
          cases allB (fun j => decide (an v j m = an v j k)) j with
          | false => rw [if_neg (by decide)]; rfl
          | true =>
            rw [if_pos (by decide)]
            by_cases e : an v j k = an v j m
            · rw [if_pos e, if_pos rfl]
              simp [e, b2i]
            · have e' : ¬ an v j m = an v j k := fun z => e z.symm
              rw [if_neg e, if_neg (by decide)]
              simp [e', b2i]
        · simp only [f_X8_partedByAny_b27, C.2.1]
          rw [if_pos (nI_le (Nat.le_refl _) (by omega))]
      simp only [f_X8_partedByAny_b15, f_X8_partedByAny_j94, f_X8_partedByAny_j93, nmv]
      rw [if_neg (nI_ge hm (by omega)), h3, Option.bind_some, nI_1, fb_ct_succ, hasM w P (by omega), Option.bind_some, hasM w P (by omega), Option.bind_some]
      have hf : fpr v (fun i => decide (i < v 0 1)) P k m = (P k && (P m && !bh v (fun i => decide (i < v 0 1)) k m)) := rfl
      rw [hf]
      cases bh v (fun i => decide (i < v 0 1)) k m with
      | true =>
        rw [if_pos (by decide), show (0 : Int32) = nI 0 from rfl, nI_add]
        simp
      | false =>
        rw [if_neg (by decide)]
        cases P k with
        | false => rw [if_pos (by decide), show (0 : Int32) = nI 0 from rfl, nI_add]; rfl
        | true =>
          rw [if_neg (by decide)]
          cases P m with
          | false => rw [if_pos (by decide), show (0 : Int32) = nI 0 from rfl, nI_add]; rfl
          | true => rw [if_neg (by decide), nI_1]; rfl
    · simp only [f_X8_partedByAny_b15]
      rw [if_pos (nI_le (Nat.le_refl _) (by omega))]
      rfl
  · simp only [f_X8_partedByAny_b4, C.1]
    rw [if_pos (nI_le (Nat.le_refl _) (by omega))]
    rfl
theorem parted_ok {w : WW} {S : StT} (I : SInv S) (C : CInv w S) (M : MInv w S) (x : Int32) : Both (f_X7_parted w x) (fun w => f_X8_parted w x) := by
  have hq := I.1.1.2.1
  have hP : ∀ x, x < 16 → lft S.1.1 x = true → x < S.1.1 0 0 := fun x _ h => lft_lt h
  by_cases h1 : x = -1
  · refine ro0 I C M (nI (prd S.1.1 (fun i => decide (i < S.1.1 0 1)) (lft S.1.1))) ?_ (fun w' M' => ?_)
    · unfold f_X7_parted f_X7_parted_j22 f_X7_parted_j42
      rw [if_pos h1, if_pos h1]
      unfold f_X6_allSets
      rw [Option.bind_some, C.1.1.2.1, bs_full (by omega), fit0 I C, Option.bind_some, pairsParted_ev C.1.1 I.1.1 _ hP, Option.bind_some]
    · show f_X8_parted w' x = _
      unfold f_X8_parted f_X8_parted_j18
      rw [if_pos h1, leftOver_ev M'.1.st I.1.1, Option.bind_some, if_pos h1, partedByAny_ev M'.1.st I.1.1, Option.bind_some]
  · by_cases hx : inb x (S.1.1 0 1)
    · obtain ⟨i, hi, rfl⟩ := inb_of hx (by omega)
      refine ro0 I C M (nI (prd S.1.1 (fun j => decide (j = i)) (lft S.1.1))) ?_ (fun w' M' => ?_)
      · unfold f_X7_parted f_X7_parted_j22 f_X7_parted_j42
        rw [if_neg h1, isQ_ev (q := S.1.1 0 1) (by omega) C.1.1.2.1, Option.bind_some, if_pos hx, if_neg (by decide), if_neg h1, bs_one (by omega), fit0 I C, Option.bind_some, pairsParted_ev C.1.1 I.1.1 _ hP, Option.bind_some]
      · show f_X8_parted w' (nI i) = _
        unfold f_X8_parted f_X8_parted_j18
        rw [if_neg h1, isQm_ev (q := S.1.1 0 1) (by omega) M'.1.2.1, Option.bind_some, if_pos hx, if_neg (by decide), leftOver_ev M'.1.st I.1.1, Option.bind_some, if_neg h1, partedBy_ev M'.1.st I.1.1 _ hi, Option.bind_some]
    · exact both_ref I C M (-10) 0 (by omega) (by simp only [f_X7_parted, isQ_ev (q := S.1.1 0 1) (by omega) C.1.1.2.1, Option.bind_some, if_neg hx, if_neg h1, refuse_0]; rfl) (fun w' M' => by simp only [f_X8_parted, isQm_ev (q := S.1.1 0 1) (by omega) M'.1.2.1, Option.bind_some, if_neg hx, if_neg h1, ten_0]; rfl)

/-! who asked already, by what he knows -/
theorem knownBy_ev {w : WW} {v : Vt} (C : MSt w v) (R : Rg v) (T : Nat → Bool) {x : Nat} (hx : x < 16) : f_X8_knownBy w (bs T) (nI x) = some (bs (fun y => decide (y < v 0 0) && bh v T x y)) := by
  have hq := R.2.1
  unfold f_X8_knownBy
  rw [everyCase_ev C R, Option.bind_some]
  have h := lpf_seq (body := fun s : Int32 × Int32 => f_X8_knownBy_b8 w (bs T) (nI x) s.1 s.2) (fun k => (bs (fun y => decide (y < v 0 0) && allB (fun q => !T q || decide (an v q y = an v q x)) k), nI k)) (v 0 1) (bs (fun y => decide (y < v 0 0) && bh v T x y)) (by omega) (fun k hk => ?_) ?_
  · rw [show (bs (fun x => decide (x < v 0 0)), (0 : Int32)) = (bs (fun y => decide (y < v 0 0) && allB (fun q => !T q || decide (an v q y = an v q x)) 0), nI 0) by
      rw [bs_congr (P := fun x => decide (x < v 0 0)) (Q := fun y => decide (y < v 0 0) && allB (fun q => !T q || decide (an v q y = an v q x)) 0) (fun y _ => by simp [allB])]; rfl]
    rw [h]; rfl
  · simp only [f_X8_knownBy_b8, f_X8_knownBy_j44, C.2.1, nmv]
    rw [if_neg (nI_ge hk (by omega)), nI_1, hasM w T (by omega), Option.bind_some]
    have hA := an_le R hk hx
    by_cases h : T k = true
    · rw [if_pos h, if_neg (by decide), answerOf_ev C R hk hx, Option.bind_some, casesBy_ev C R hk (by omega), Option.bind_some, bs_and]
      refine pr_bs (fun y _ => ?_)
      unfold cby
      rw [allB, h]
      by_cases a : y < v 0 0 <;> simp [a]
    · rw [if_neg h, if_pos (by decide), bs_and]
      refine pr_bs (fun y _ => ?_)
      rw [allB]
      simp [h]
  · simp only [f_X8_knownBy_b8, C.2.1]
    rw [if_pos (nI_le (Nat.le_refl _) (by omega))]
    rfl
def kn (v : Vt) (x : Nat) (s : Int32) (t : Nat) : Bool := decide (bs (fun y => decide (y < v 0 0) && bh v t.testBit x y) = s)
def knA (v : Vt) (x : Nat) (s : Int32) (k : Nat) : Int32 := bs (fun i => decide (i < v 0 1) && allB (fun t => !kn v x s t || t.testBit i) k)
theorem knC {w : WW} {v : Vt} (C : CSt w 1 v) (R : Rg v) {x : Nat} (hx : x < 16) (s what : Int32) : lpf (fun z : Int32 × Int32 × Int32 => f_X7_knows_b66 w (nI x) s what z.1 z.2.1 z.2.2) FU (0, bs (fun i => decide (i < v 0 1)), 0) = some (nI (fb_ct (kn v x s) (2 ^ v 0 1)), knA v x s (2 ^ v 0 1)) := by
  have hq := R.2.1
  have hp := p2q hq
  have h := lpf_seq (body := fun z : Int32 × Int32 × Int32 => f_X7_knows_b66 w (nI x) s what z.1 z.2.1 z.2.2) (fun k => (nI (fb_ct (kn v x s) k), knA v x s k, nI k)) (2 ^ v 0 1) (nI (fb_ct (kn v x s) (2 ^ v 0 1)), knA v x s (2 ^ v 0 1)) (by omega) (fun k hk => ?_) ?_
  · rw [show ((0 : Int32), bs (fun i => decide (i < v 0 1)), (0 : Int32)) = (nI (fb_ct (kn v x s) 0), knA v x s 0, nI 0) by
      unfold knA
      rw [bs_congr (P := fun i => decide (i < v 0 1)) (Q := fun i => decide (i < v 0 1) && allB (fun t => !kn v x s t || t.testBit i) 0) (fun y _ => by simp [allB])]; rfl]
    exact h
  · simp only [f_X7_knows_b66, f_X7_knows_j109, nmv]
    rw [allSets_ev C R, Option.bind_some, if_neg (nI_ge hk (by omega)), allCases_ev C R, Option.bind_some, bs_nI (s := k) (by omega), behind_ev C R _ _ hx, Option.bind_some, fb_ct_succ, ← bs_nI (s := k) (by omega), nI_1]
    by_cases e : bs (fun y => decide (y < v 0 0) && bh v k.testBit x y) = s
    · have e2 : kn v x s k = true := decide_eq_true e
      rw [if_pos e, e2, if_pos rfl, nI_1, show knA v x s k &&& nI k = knA v x s (k + 1) by
        rw [bs_nI (s := k) (by omega)]
        unfold knA
        rw [bs_and]
        refine bs_congr (fun i _ => ?_)
        rw [allB, e2]
        simp [Bool.and_assoc]]
    · have e2 : kn v x s k = false := decide_eq_false e
      rw [if_neg e, e2, if_neg (by decide), show knA v x s (k + 1) = knA v x s k by
        unfold knA
        refine bs_congr (fun i _ => ?_)
        rw [allB, e2]
        simp]
      rw [nI_1]; rfl
  · simp only [f_X7_knows_b66]
    rw [allSets_ev C R, Option.bind_some, if_pos (nI_le (Nat.le_refl _) (by omega))]
theorem knM {w : WW} {v : Vt} (C : MSt w v) (R : Rg v) {x : Nat} (hx : x < 16) (s what : Int32) : lpf (fun z : Int32 × Int32 × Int32 => f_X8_knows_b51 w (nI x) s what z.1 z.2.1 z.2.2) FU (0, -1, 0) = some (nI (fb_ct (kn v x s) (2 ^ v 0 1)), if fb_ct (kn v x s) (2 ^ v 0 1) = 0 then -1 else knA v x s (2 ^ v 0 1)) := by
  have hq := R.2.1
  have hp := p2q hq
  refine lpf_seq (body := fun z : Int32 × Int32 × Int32 => f_X8_knows_b51 w (nI x) s what z.1 z.2.1 z.2.2) (fun k => (nI (fb_ct (kn v x s) k), if fb_ct (kn v x s) k = 0 then -1 else knA v x s k, nI k)) (2 ^ v 0 1) _ (by omega) (fun k hk => ?_) ?_
  · have hc := fb_ct_le (kn v x s) k
    simp only [f_X8_knows_b51, f_X8_knows_j88, f_X8_knows_j93, C.2.1]
    rw [bs_pow (by omega), if_neg (nI_ge hk (by omega)), bs_nI (s := k) (by omega), knownBy_ev C R _ hx, Option.bind_some, fb_ct_succ, ← bs_nI (s := k) (by omega)]
    by_cases e : bs (fun y => decide (y < v 0 0) && bh v k.testBit x y) = s
    · have e2 : kn v x s k = true := decide_eq_true e
      have hs : knA v x s k &&& nI k = knA v x s (k + 1) := by
        rw [bs_nI (s := k) (by omega)]
        unfold knA
        rw [bs_and]
        refine bs_congr (fun i _ => ?_)
        rw [allB, e2]
        simp [Bool.and_assoc]
      rw [if_pos e, e2, if_pos rfl, nI_1, nI_1, if_neg (show ¬ fb_ct (kn v x s) k + 1 = 0 by omega)]
      by_cases c0 : fb_ct (kn v x s) k = 0
      · rw [c0, if_pos (by decide), ← hs, show knA v x s k &&& nI k = nI k by
          rw [bs_nI (s := k) (by omega)]
          unfold knA
          rw [bs_and]
          refine bs_congr (fun i _ => ?_)
          have : allB (fun t => !kn v x s t || t.testBit i) k = true := allB_iff.mpr (fun t ht => by rw [fb_ct_zero.mp c0 t ht]; rfl)
          rw [this]
          by_cases hi : i < v 0 1
          · simp [hi]
          · have : k < 2 ^ i := Nat.lt_of_lt_of_le hk (Nat.pow_le_pow_right (by omega) (by omega))
            simp [Nat.testBit_lt_two_pow this]]
      · rw [if_neg (nI_ne0 (by omega) (by omega)), if_neg c0, hs]
    · have e2 : kn v x s k = false := decide_eq_false e
      rw [if_neg e, e2, nI_1, show knA v x s (k + 1) = knA v x s k by
        unfold knA
        refine bs_congr (fun i _ => ?_)
        rw [allB, e2]
        simp]
      simp only [Bool.false_eq_true, if_false, Nat.add_zero]
  · simp only [f_X8_knows_b51, C.2.1]
    rw [bs_pow (by omega), if_pos (nI_le (Nat.le_refl _) (by omega))]
theorem knows_ok {w : WW} {S : StT} (I : SInv S) (C : CInv w S) (M : MInv w S) (x s t : Int32) : Both (f_X7_knows w x s t) (fun w => f_X8_knows w x s t) := by
  have hn := I.1.1.1.2
  have hq := I.1.1.2.1
  have hp : 2 ^ S.1.1 0 0 ≤ 65536 := by
    have : 2 ^ S.1.1 0 0 ≤ 2 ^ 16 := Nat.pow_le_pow_right (by omega) hn
    omega
  have l1 : (1 : Int32) = nI 2 - 1 := rfl
  have aC : f_X6_allCases 1 w = some (nI (2 ^ S.1.1 0 0) - 1) := by
    unfold f_X6_allCases
    rw [C.1.1.1, bs_pow (by omega)]
  have aM : ∀ w', MInv w' S → f_X8_everyCase w' = some (nI (2 ^ S.1.1 0 0) - 1) := fun w' M' => by
    unfold f_X8_everyCase
    rw [M'.1.1, bs_pow (by omega)]
  have ref : (¬ (inb x (S.1.1 0 0) ∧ inb s (2 ^ S.1.1 0 0) ∧ inb t 2 ∧ shr32 s x &&& 1 = 1)) → Both (f_X7_knows w x s t) (fun w => f_X8_knows w x s t) := fun hno => by
    have hbit : inb x (S.1.1 0 0) → inb s (2 ^ S.1.1 0 0) → (shr32 s x &&& 1 = 1 ∨ shr32 s x &&& 1 = 0) := fun hx hs => by
      obtain ⟨i, hi, rfl⟩ := inb_of hx (by omega)
      obtain ⟨u, hu, rfl⟩ := inb_of hs (by omega)
      rw [bs_nI (s := u) (by omega), bs_has _ (by omega)]
      split
      · exact Or.inl rfl
      · exact Or.inr rfl
    refine both_ref I C M (-10) 0 (by omega) ?_ (fun w' M' => ?_)
    · simp only [f_X7_knows, f_X7_knows_j40, isC_ev (q := S.1.1 0 0) (by omega) C.1.1.1, aC, within_nn w s rfl (show 2 ^ S.1.1 0 0 < 2 ^ 31 by omega), within_nn w t l1 (by omega), Option.bind_some, refuse_0]
      by_cases hx : inb x (S.1.1 0 0)
      · rw [if_pos hx, if_neg (by decide)]
        by_cases hs : inb s (2 ^ S.1.1 0 0)
        · rw [if_pos hs, if_neg (by decide)]
          by_cases ht : inb t 2
          · rw [if_pos ht, if_neg (by decide)]
            rcases hbit hx hs with hb | hb
            · exact absurd ⟨hx, hs, ht, hb⟩ hno
            · rw [if_pos hb]
          · rw [if_neg ht, if_pos (by decide)]
        · rw [if_neg hs, if_pos (by decide)]
      · rw [if_neg hx, if_pos (by decide)]
    · simp only [f_X8_knows, f_X8_knows_j37, isCm_ev (q := S.1.1 0 0) (by omega) M'.1.1, aM w' M', in_nn w' s rfl (show 2 ^ S.1.1 0 0 < 2 ^ 31 by omega), in_nn w' t l1 (by omega), Option.bind_some, ten_0, f_X8_has]
      by_cases hx : inb x (S.1.1 0 0)
      · rw [if_pos hx, if_neg (by decide)]
        by_cases hs : inb s (2 ^ S.1.1 0 0)
        · rw [if_pos hs, if_neg (by decide)]
          rcases hbit hx hs with hb | hb
          · rw [if_pos hb, Option.bind_some, if_neg (by decide)]
            by_cases ht : inb t 2
            · exact absurd ⟨hx, hs, ht, hb⟩ hno
            · rw [if_neg ht, if_pos (by decide)]
          · rw [hb, if_neg (by decide), Option.bind_some, if_pos (by decide)]
        · rw [if_neg hs, if_pos (by decide)]
      · rw [if_neg hx, if_pos (by decide)]
  by_cases hno : inb x (S.1.1 0 0) ∧ inb s (2 ^ S.1.1 0 0) ∧ inb t 2 ∧ shr32 s x &&& 1 = 1
  · obtain ⟨hx, hs, ht, hb⟩ := hno
    obtain ⟨i, hi, rfl⟩ := inb_of hx (by omega)
    refine ro0 I C M (if t = 0 then nI (fb_ct (kn S.1.1 i s) (2 ^ S.1.1 0 1)) else if fb_ct (kn S.1.1 i s) (2 ^ S.1.1 0 1) = 0 then -1 else knA S.1.1 i s (2 ^ S.1.1 0 1)) ?_ (fun w' M' => ?_)
    · have hc := fb_ct_le (kn S.1.1 i s) (2 ^ S.1.1 0 1)
      have hp7 := p2q hq
      simp only [f_X7_knows, isC_ev (q := S.1.1 0 0) (by omega) C.1.1.1, aC, within_nn w s rfl (show 2 ^ S.1.1 0 0 < 2 ^ 31 by omega), within_nn w t l1 (by omega), Option.bind_some, nmv]
      rw [if_pos hx, if_neg (by decide), if_pos hs, if_neg (by decide), if_pos ht, if_neg (by decide), hb, if_neg (by decide)]
      unfold f_X6_allSets
      rw [Option.bind_some, C.1.1.2.1, bs_full (by omega), knC C.1.1 I.1.1 (by omega), Option.bind_some]
      dsimp only
      by_cases t0 : t = 0
      · rw [if_pos t0, if_pos t0]
      · rw [if_neg t0, if_neg t0]
        by_cases c0 : fb_ct (kn S.1.1 i s) (2 ^ S.1.1 0 1) = 0
        · rw [c0, if_pos (by decide), if_pos rfl]
        · rw [if_neg (nI_ne0 (by omega) (by omega)), if_neg c0]
    · simp only [f_X8_knows, isCm_ev (q := S.1.1 0 0) (by omega) M'.1.1, aM w' M', in_nn w' s rfl (show 2 ^ S.1.1 0 0 < 2 ^ 31 by omega), in_nn w' t l1 (by omega), Option.bind_some, f_X8_has]
      rw [if_pos hx, if_neg (by decide), if_pos hs, if_neg (by decide), if_pos hb, Option.bind_some, if_neg (by decide), if_pos ht, if_neg (by decide), knM M'.1.st I.1.1 (by omega), Option.bind_some]
      split <;> rfl
  · exact ref hno

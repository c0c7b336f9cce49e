/-! counts and digest -/
/-- the six counts -/
def cntV (S : StT) : Nat → Nat
  | 0 => S.1.1 0 0
  | 1 => S.1.1 0 1
  | 2 => S.1.1 0 2
  | 3 => cnt (lft S.1.1)
  | 4 => S.1.2.length
  | _ => S.2.2.1.length
theorem howMany_ev {w : WW} {S : StT} (I : SInv S) (C : CInv w S) {i : Nat} (hi : i < 6) : f_X7_howMany w (nI i) = some (nI (cntV S i)) := by
  have hf : f_X6_fitting 1 w 0 = some (bs (lft S.1.1)) := by
    rw [show (0 : Int32) = nI 0 from rfl, fitting_ev C.1.1 I.1.1 (by omega)]; rfl
  have : i = 0 ∨ i = 1 ∨ i = 2 ∨ i = 3 ∨ i = 4 ∨ i = 5 := by omega
  unfold f_X7_howMany
  rcases this with rfl | rfl | rfl | rfl | rfl | rfl
  · rw [if_pos (by decide), C.1.1.1]; rfl
  · rw [if_neg (by decide), if_pos (by decide), C.1.1.2.1]; rfl
  · rw [if_neg (by decide), if_neg (by decide), if_pos (by decide), C.1.1.2.2.1]; rfl
  · rw [if_neg (by decide), if_neg (by decide), if_neg (by decide), if_pos (by decide), hf, Option.bind_some, bitCount_ev, Option.bind_some]; rfl
  · rw [if_neg (by decide), if_neg (by decide), if_neg (by decide), if_neg (by decide), if_pos (by decide), C.1.2.1]; rfl
  · rw [if_neg (by decide), if_neg (by decide), if_neg (by decide), if_neg (by decide), if_neg (by decide), C.2.2.1.1]; rfl
theorem countOf_ev {w : WW} {S : StT} (I : SInv S) (M : MInv w S) {i : Nat} (hi : i < 6) : f_X8_countOf w (nI i) = some (nI (cntV S i)) := by
  have hf := leftOver_ev M.1.st I.1.1
  have : i = 0 ∨ i = 1 ∨ i = 2 ∨ i = 3 ∨ i = 4 ∨ i = 5 := by omega
  unfold f_X8_countOf
  rcases this with rfl | rfl | rfl | rfl | rfl | rfl
  · rw [if_pos (by decide), M.1.1]; rfl
  · rw [if_neg (by decide), if_pos (by decide), M.1.2.1]; rfl
  · rw [if_neg (by decide), if_neg (by decide), if_pos (by decide), M.1.2.2.1]; rfl
  · rw [if_neg (by decide), if_neg (by decide), if_neg (by decide), if_pos (by decide), hf, Option.bind_some, bitsM_ev, Option.bind_some]; rfl
  · rw [if_neg (by decide), if_neg (by decide), if_neg (by decide), if_neg (by decide), if_pos (by decide), M.1.2.2.2.1]; rfl
  · rw [if_neg (by decide), if_neg (by decide), if_neg (by decide), if_neg (by decide), if_neg (by decide), M.2.2.1.1]; rfl
theorem count_ok {w : WW} {S : StT} (I : SInv S) (C : CInv w S) (M : MInv w S) (x : Int32) : Both (f_X7_count w x) (fun w => f_X8_count w x) := by
  have l5 : (5 : Int32) = nI 6 - 1 := rfl
  by_cases hx : inb x 6
  · obtain ⟨i, hi, rfl⟩ := inb_of hx (by omega)
    refine ro0 I C M (nI (cntV S i)) ?_ (fun w' M' => ?_)
    · simp only [f_X7_count, within_nn w _ l5 (by omega), Option.bind_some, if_pos hx]
      rw [if_neg (by decide), howMany_ev I C hi, Option.bind_some]
    · simp only [f_X8_count, in_nn w' _ l5 (by omega), Option.bind_some, if_pos hx]
      rw [if_neg (by decide), countOf_ev I M' hi, Option.bind_some]
  · exact both_ref I C M (-2) 0 (by omega) (by simp only [f_X7_count, within_nn w _ l5 (by omega), Option.bind_some, if_neg hx, refuse_0]; rfl) (fun w' M' => by simp only [f_X8_count, in_nn w' _ l5 (by omega), Option.bind_some, if_neg hx, bad_0]; rfl)
/-- the digest's step -/
def mixs (f : Nat → Int64) (h : Int64) : Nat → Int64
  | 0 => h
  | k + 1 => 31 * mixs f h k + f k
theorem sL_sL (w : WW) (k j : Nat) (x y : Int64) : sL (sL w k j x) k j y = sL w k j y := by
  unfold sL
  refine Prod.ext rfl (funext fun a => funext fun b => ?_)
  by_cases h : a = k ∧ b = j <;> simp [h]
theorem sL_at (w : WW) (k j : Nat) (x : Int64) : (sL w k j x).2 k j = x := if_pos ⟨rfl, rfl⟩
theorem sL_ne (w : WW) {k j a b : Nat} (x : Int64) (h : ¬ (a = k ∧ b = j)) : (sL w k j x).2 a b = w.2 a b := if_neg h
theorem mix_ev (w : WW) (h x : Int64) : f_X8_mix (sL w 46 30 h) x = some (sL w 46 30 (31 * h + x)) := by
  unfold f_X8_mix stL
  rw [sL_at, sL_sL]
def dg1 (S : StT) : Int64 := mixs (fun i => (nI (cntV S i)).toInt64) 1091 6
def dg2 (S : StT) : Int64 := mixs (fun i => (nI (S.1.1 1 i)).toInt64) (dg1 S) (S.1.1 0 0)
def dg3 (S : StT) : Int64 := mixs (fun i => (nI (S.1.1 (2 + i % 3) (i / 3))).toInt64) (dg2 S) (3 * S.1.1 0 1)
def dg4 (S : StT) : Int64 := mixs (fun i => (nI (S.1.1 (5 + i % 2) (i / 2))).toInt64) (dg3 S) (2 * S.1.1 0 2)
def dg5 (S : StT) : Int64 := 31 * (31 * dg4 S + S.2.2.2.1.1) + S.2.2.2.1.2
theorem mixs3 (v : Vt) (h : Int64) (k : Nat) : mixs (fun i => (nI (v (2 + i % 3) (i / 3))).toInt64) h (3 * (k + 1)) = 31 * (31 * (31 * mixs (fun i => (nI (v (2 + i % 3) (i / 3))).toInt64) h (3 * k) + (nI (v 2 k)).toInt64) + (nI (v 3 k)).toInt64) + (nI (v 4 k)).toInt64 := by
  rw [show 3 * (k + 1) = 3 * k + 1 + 1 + 1 by omega, mixs, mixs, mixs]
  simp only [show (3 * k + 1 + 1) % 3 = 2 by omega, show (3 * k + 1) % 3 = 1 by omega, show 3 * k % 3 = 0 by omega, show (3 * k + 1 + 1) / 3 = k by omega, show (3 * k + 1) / 3 = k by omega, show 3 * k / 3 = k by omega]
theorem mixs2 (v : Vt) (h : Int64) (k : Nat) : mixs (fun i => (nI (v (5 + i % 2) (i / 2))).toInt64) h (2 * (k + 1)) = 31 * (31 * mixs (fun i => (nI (v (5 + i % 2) (i / 2))).toInt64) h (2 * k) + (nI (v 5 k)).toInt64) + (nI (v 6 k)).toInt64 := by
  rw [show 2 * (k + 1) = 2 * k + 1 + 1 by omega, mixs, mixs]
  simp only [show (2 * k + 1) % 2 = 1 by omega, show 2 * k % 2 = 0 by omega, show (2 * k + 1) / 2 = k by omega, show 2 * k / 2 = k by omega]
theorem digestC {w : WW} {S : StT} (I : SInv S) (C : CInv w S) : f_X7_digest w = some (dg5 S) := by
  have hn := I.1.1.1.2
  have hq := I.1.1.2.1
  have ha : S.1.1 0 2 ≤ 8 := I.1.1.2.2.1
  obtain ⟨cn, cq, ca, cw, ck, -, ct⟩ := C.1.1
  have L1 : lpf (fun s : Int64 × Int32 => f_X7_digest_b6 w s.1 s.2) FU ((1091 : Int64), (0 : Int32)) = some (dg1 S) := by
    refine lpf_seq (fun k => (mixs (fun i => (nI (cntV S i)).toInt64) 1091 k, nI k)) 6 _ (by omega) (fun k hk => ?_) rfl
    unfold f_X7_digest_b6
    dsimp only
    rw [show (6 : Int32) = nI 6 from rfl, if_neg (nI_ge hk (by omega)), howMany_ev I C hk, Option.bind_some, nI_1]
    rfl
  have L2 : lpf (fun s : Int64 × Int32 => f_X6_mixInto_b5 1 w s.1 s.2) FU (dg1 S, (0 : Int32)) = some (dg2 S) := by
    refine lpf_seq (fun k => (mixs (fun i => (nI (S.1.1 1 i)).toInt64) (dg1 S) k, nI k)) (S.1.1 0 0) _ (by omega) (fun k hk => ?_) ?_
    · unfold f_X6_mixInto_b5
      dsimp only
      rw [cn, if_neg (nI_ge hk (by omega)), gd_t (inb_n (by omega) (by omega)), cl_n (by omega), cw k (by omega), nI_1]
      rfl
    · unfold f_X6_mixInto_b5
      dsimp only
      rw [cn, if_pos (nI_le (Nat.le_refl _) (by omega))]; rfl
  have L3 : lpf (fun s : Int64 × Int32 => f_X6_mixInto_b38 1 w s.1 s.2) FU (dg2 S, (0 : Int32)) = some (dg3 S) := by
    refine lpf_seq (fun k => (mixs (fun i => (nI (S.1.1 (2 + i % 3) (i / 3))).toInt64) (dg2 S) (3 * k), nI k)) (S.1.1 0 1) _ (by omega) (fun k hk => ?_) ?_
    · obtain ⟨k1, k2, k3⟩ := ck k hk
      unfold f_X6_mixInto_b38
      simp only [nmv]
      rw [cq, if_neg (nI_ge hk (by omega)), gd_t (inb_n (by omega) (by omega)), gd_t (inb_n (by omega) (by omega)), gd_t (inb_n (by omega) (by omega)), cl_n (by omega), show w.1 (1 + 2) k = _ from k1, show w.1 (1 + 3) k = _ from k2, show w.1 (1 + 4) k = _ from k3, nI_1, mixs3]
    · unfold f_X6_mixInto_b38
      dsimp only
      rw [cq, if_pos (nI_le (Nat.le_refl _) (by omega))]; rfl
  have L4 : lpf (fun s : Int64 × Int32 => f_X6_mixInto_b101 1 w s.1 s.2) FU (dg3 S, (0 : Int32)) = some (dg4 S) := by
    refine lpf_seq (fun k => (mixs (fun i => (nI (S.1.1 (5 + i % 2) (i / 2))).toInt64) (dg3 S) (2 * k), nI k)) (S.1.1 0 2) _ (by omega) (fun k hk => ?_) ?_
    · have t1 := I.1.1.2.2.2.2.2 k hk
      unfold f_X6_mixInto_b101
      simp only [nmv]
      rw [ca, if_neg (nI_ge hk (by omega)), gd_t (inb_n (by omega) (by omega)), gd_t (by decide), gd_t (inb_n (by omega) (by omega)), gd_t (by decide), cl_n (by omega), nI_1, mixs2]
      rw [show w.1 (1 + 6) k = nI (16 * S.1.1 5 k + S.1.1 6 k) from ct k hk, q_16, pk_div (by omega) (by omega) (by omega), rm_n (by omega) (by omega) (by omega), show (16 * S.1.1 5 k + S.1.1 6 k) / 16 = S.1.1 5 k by omega, show (16 * S.1.1 5 k + S.1.1 6 k) % 16 = S.1.1 6 k by omega]
    · unfold f_X6_mixInto_b101
      dsimp only
      rw [ca, if_pos (nI_le (Nat.le_refl _) (by omega))]; rfl
  unfold f_X7_digest
  rw [L1, Option.bind_some]
  unfold f_X6_mixInto nmv
  rw [L2, Option.bind_some, L3, Option.bind_some, L4, Option.bind_some, Option.bind_some, C.2.2.2.1.1, C.2.2.2.1.2]
  rfl
theorem SameM.sL30 (w : WW) (h : Int64) : SameM w (sL w 46 30 h) := ⟨fun _ _ _ => rfl, fun k j hk => sL_ne w h (by omega)⟩
theorem digestM {w : WW} {S : StT} (I : SInv S) (M : MInv w S) : f_X8_digest w = some (dg5 S, sL w 46 30 (dg5 S)) := by
  have hn := I.1.1.1.2
  have hq := I.1.1.2.1
  have ha : S.1.1 0 2 ≤ 8 := I.1.1.2.2.1
  obtain ⟨cn, cq, ca, cw, ck, ct⟩ := M.1.st
  have L1 : lpf (fun s : Int32 × WW => f_X8_digest_b9 s.1 s.2) FU ((0 : Int32), sL w 46 30 1091) = some (sL w 46 30 (dg1 S)) := by
    refine lpf_seq (fun k => (nI k, sL w 46 30 (mixs (fun i => (nI (cntV S i)).toInt64) 1091 k))) 6 _ (by omega) (fun k hk => ?_) rfl
    unfold f_X8_digest_b9
    dsimp only
    rw [show (5 : Int32) = nI 5 from rfl, if_neg (nI_nlt (by omega) (by omega)), countOf_ev I (M.same (SameM.sL30 w _)) hk, Option.bind_some, mix_ev, Option.bind_some, nI_1]
    rfl
  have L2 : lpf (fun s : Int32 × WW => f_X8_digest_b32 s.1 s.2) FU ((0 : Int32), sL w 46 30 (dg1 S)) = some (sL w 46 30 (dg2 S)) := by
    refine lpf_seq (fun k => (nI k, sL w 46 30 (mixs (fun i => (nI (S.1.1 1 i)).toInt64) (dg1 S) k))) (S.1.1 0 0) _ (by omega) (fun k hk => ?_) ?_
    · simp only [f_X8_digest_b32, sL_1, cn]
      rw [if_neg (nI_ge hk (by omega)), gd_t (inb_n (by omega) (by omega)), cl_n (by omega), cw k (by omega), mix_ev, Option.bind_some, nI_1]
      rfl
    · simp only [f_X8_digest_b32, sL_1, cn]
      rw [if_pos (nI_le (Nat.le_refl _) (by omega))]; rfl
  have L3 : lpf (fun s : Int32 × WW => f_X8_digest_b59 s.1 s.2) FU ((0 : Int32), sL w 46 30 (dg2 S)) = some (sL w 46 30 (dg3 S)) := by
    refine lpf_seq (fun k => (nI k, sL w 46 30 (mixs (fun i => (nI (S.1.1 (2 + i % 3) (i / 3))).toInt64) (dg2 S) (3 * k)))) (S.1.1 0 1) _ (by omega) (fun k hk => ?_) ?_
    · obtain ⟨k1, k2, k3⟩ := ck k hk
      simp only [f_X8_digest_b59, sL_1, cq]
      rw [if_neg (nI_ge hk (by omega)), gd_t (inb_n (by omega) (by omega)), cl_n (by omega), k1, mix_ev, Option.bind_some, gd_t (inb_n (by omega) (by omega)), sL_1, k2, mix_ev, Option.bind_some, gd_t (inb_n (by omega) (by omega)), sL_1, k3, mix_ev, Option.bind_some, nI_1, mixs3]
    · simp only [f_X8_digest_b59, sL_1, cq]
      rw [if_pos (nI_le (Nat.le_refl _) (by omega))]; rfl
  have L4 : lpf (fun s : Int32 × WW => f_X8_digest_b108 s.1 s.2) FU ((0 : Int32), sL w 46 30 (dg3 S)) = some (sL w 46 30 (dg4 S)) := by
    refine lpf_seq (fun k => (nI k, sL w 46 30 (mixs (fun i => (nI (S.1.1 (5 + i % 2) (i / 2))).toInt64) (dg3 S) k))) (2 * S.1.1 0 2) _ (by omega) (fun k hk => ?_) ?_
    · obtain ⟨t1, t2⟩ := ct (k / 2) (by omega)
      have e : w.1 52 k = nI (S.1.1 (5 + k % 2) (k / 2)) := by
        rcases Nat.mod_two_eq_zero_or_one k with h | h
        · rw [h, show 5 + 0 = 5 from rfl, ← t1, show 2 * (k / 2) = k by omega]
        · rw [h, show 5 + 1 = 6 from rfl, ← t2, show 2 * (k / 2) + 1 = k by omega]
      simp only [f_X8_digest_b108, sL_1, ca]
      rw [q_2, pk_mul, if_neg (nI_ge hk (by omega)), gd_t (inb_n (by omega) (by omega)), cl_n (by omega), e, mix_ev, Option.bind_some, nI_1]
      rfl
    · simp only [f_X8_digest_b108, sL_1, ca]
      rw [q_2, pk_mul, if_pos (nI_le (Nat.le_refl _) (by omega))]; rfl
  unfold f_X8_digest stL
  show (lpf (fun s : Int32 × WW => f_X8_digest_b9 s.1 s.2) FU ((0 : Int32), sL w 46 30 1091)).bind _ = _
  rw [L1, Option.bind_some, L2, Option.bind_some, L3, Option.bind_some, L4, Option.bind_some, mix_ev, Option.bind_some, mix_ev, Option.bind_some, sL_at, sL_ne _ _ (by omega), sL_ne _ _ (by omega), M.2.2.2.1.1, M.2.2.2.1.2]
  rfl

/-! all bought at once, on the reference's side -/
def Tab (w0 w : WW) (T : Nat → Bool) : Prop := (∀ k j, k ≠ 57 → w.1 k j = w0.1 k j) ∧ w.2 = w0.2 ∧ ∀ s, s < 128 → w.1 57 s = b2i (T s)
theorem MSt_congr {w w' : WW} {v : Vt} (h0 : ∀ j, j < 4 → w'.1 46 j = w.1 46 j) (h : ∀ k j, 48 ≤ k → k ≤ 52 → w'.1 k j = w.1 k j) (C : MSt w v) : MSt w' v := by
  obtain ⟨c1, c2, c3, c4, c5, c6⟩ := C
  exact ⟨(h0 _ (by omega)).trans c1, (h0 _ (by omega)).trans c2, (h0 _ (by omega)).trans c3, fun x hx => (h _ _ (by omega) (by omega)).trans (c4 x hx), fun i hi => ⟨(h _ _ (by omega) (by omega)).trans (c5 i hi).1, (h _ _ (by omega) (by omega)).trans (c5 i hi).2.1, (h _ _ (by omega) (by omega)).trans (c5 i hi).2.2⟩, fun i hi => ⟨(h _ _ (by omega) (by omega)).trans (c6 i hi).1, (h _ _ (by omega) (by omega)).trans (c6 i hi).2⟩⟩
theorem Tab.st {w0 w : WW} {T : Nat → Bool} {v : Vt} (h : Tab w0 w T) (C : MSt w0 v) : MSt w v := MSt_congr (fun j _ => h.1 _ _ (by omega)) (fun k j _ _ => h.1 _ _ (by omega)) C
theorem bool0 : vp_nar .boolean (0 : Int32) = 0 := by decide
theorem bool1 : vp_nar .boolean (1 : Int32) = 1 := by decide
theorem nb_b2i (b : Bool) : vp_nar .boolean (b2i b) = b2i b := by cases b <;> decide
theorem Tab.step {w0 w w' : WW} {T T' : Nat → Bool} {m : Nat} {x : Int32} (h1 : ∀ k j, k ≠ 57 → w.1 k j = w0.1 k j) (h2 : w.2 = w0.2) (h3 : ∀ s, s < 128 → w.1 57 s = b2i (if s < m then T' s else T s)) (hx : x = b2i (T' m)) : (∀ k j, k ≠ 57 → (sI w 57 m x).1 k j = w0.1 k j) ∧ (sI w 57 m x).2 = w0.2 ∧ ∀ s, s < 128 → (sI w 57 m x).1 57 s = b2i (if s < m + 1 then T' s else T s) := by
  refine ⟨fun k j hk => by rw [sI_ne _ _ (by omega)]; exact h1 k j hk, h2, fun s hs => ?_⟩
  by_cases e : s = m
  · subst e; rw [sI_at, if_pos (by omega), hx]
  · rw [sI_ne _ _ (by omega), h3 s hs]
    by_cases l : s < m
    · rw [if_pos l, if_pos (by omega)]
    · rw [if_neg l, if_neg (by omega)]
/-- the table once the pairs (x', y') before (x, y) are through -/
def tbx (v : Vt) (P : Nat → Bool) (x y s : Nat) : Bool := decide (s < 2 ^ v 0 1) && (allB (fun x => allB (okp v P s.testBit x) x) x && allB (okp v P s.testBit x) y)
theorem tells_by {w : WW} {v : Vt} (C : MSt w v) (R : Rg v) (l1 : Int32) {x y : Nat} (hx : x < 16) (hy : y < 16) : lpf (fun s : Int32 × Int32 => f_X8_setTells_b59 w l1 (nI x) (nI y) s.1 s.2) FU ((0 : Int32), (0 : Int32)) = some (bs (fun q => decide (q < v 0 1) && !decide (an v q x = an v q y))) := by
  have hq := R.2.1
  have h := lpf_seq (body := fun s : Int32 × Int32 => f_X8_setTells_b59 w l1 (nI x) (nI y) s.1 s.2) (fun k => (bs (fun q => decide (q < k) && !decide (an v q x = an v q y)), nI k)) (v 0 1) (bs (fun q => decide (q < v 0 1) && !decide (an v q x = an v q y))) (by omega) (fun k hk => ?_) ?_
  · rw [st_bs0 (P := fun q => decide (q < 0) && !decide (an v q x = an v q y)) (fun i _ => by simp), h]
  · simp only [f_X8_setTells_b59, f_X8_setTells_j89, C.2.1, nmv]
    rw [if_neg (nI_ge hk (by omega)), partsM C R hk hx hy, Option.bind_some, nI_1]
    by_cases e : an v k x = an v k y
    · rw [if_pos e, if_pos rfl, ← bs_none, bs_or]
      refine pr_bs (fun i _ => ?_)
      by_cases hi : i = k
      · subst hi; simp [e]
      · have : (i < k + 1) = (i < k) := by simp; omega
        simp [this]
    · rw [if_neg e, if_neg (by decide), bs_add _ (by omega)]
      refine pr_bs (fun i _ => ?_)
      by_cases hi : i = k
      · subst hi; simp [e]
      · have : (i < k + 1) = (i < k) := by simp; omega
        simp [hi, this]
  · simp only [f_X8_setTells_b59, C.2.1]
    rw [if_pos (nI_le (Nat.le_refl _) (by omega))]
theorem by_bh {v : Vt} (hq : v 0 1 ≤ 7) {s x y : Nat} (hs : s < 128) : nI s &&& bs (fun q => decide (q < v 0 1) && !decide (an v q x = an v q y)) = 0 ↔ bh v s.testBit x y = true := by
  rw [bs_nI (s := s) (by omega), bs_and, bs_eq0, bh_iff]
  refine ⟨fun h q hq' ht => ?_, fun h q _ => ?_⟩
  · have := h q (by omega)
    rw [ht] at this
    have h2 : an v q x = an v q y := by simpa [hq'] using this
    exact h2.symm
  · cases ht : s.testBit q with
    | false => rfl
    | true =>
      by_cases hq' : q < v 0 1
      · simp [hq', h q hq' ht]
      · simp [hq']
theorem setTells_ev {w : WW} {v : Vt} (C : MSt w v) (R : Rg v) (P : Nat → Bool) : Ev (f_X8_setTells w (bs P)) (fun w' => Tab w w' (fun s => decide (s < 2 ^ v 0 1) && tll v P s.testBit)) := by
  have hq := R.2.1
  have hp7 := p2q hq
  have hn := R.1.2
  unfold f_X8_setTells
  have L1 : Ev (lpf (fun s : Int32 × WW => f_X8_setTells_b2 (bs P) s.1 s.2) FU ((0 : Int32), w)) (fun u => Tab w u (tbx v P 0 0)) := by
    refine lpf_inv (fun m z => z.1 = nI m ∧ (∀ k j, k ≠ 57 → z.2.1 k j = w.1 k j) ∧ z.2.2 = w.2 ∧ ∀ s, s < m → z.2.1 57 s = b2i (decide (s < 2 ^ v 0 1))) _ 128 (by omega) ⟨rfl, fun _ _ _ => rfl, rfl, fun s hs => by omega⟩ (fun m z hm hI => Or.inl ?_) (fun z hI => ?_)
    · obtain ⟨x, u⟩ := z
      obtain ⟨rfl, i1, i2, i3⟩ := hI
      refine ⟨(nI (m + 1), sI u 57 m (b2i (decide (m < 2 ^ v 0 1)))), ?_, rfl, fun k j hk => by dsimp only; rw [sI_ne _ _ (by omega)]; exact i1 k j hk, i2, fun s hs => ?_⟩
      · show f_X8_setTells_b2 (bs P) (nI m) u = _
        simp only [f_X8_setTells_b2, f_X8_setTells_j29, stI]
        rw [show (128 : Int32) = nI 128 from rfl, if_neg (nI_ge hm (by omega)), i1 46 2 (by omega), C.2.1, bs_pow (by omega), gd_t (inb_n hm (by omega)), cl_n (by omega), nI_1]
        by_cases e : m < 2 ^ v 0 1
        · rw [if_neg (nI_ge e (by omega)), gd_t (inb_n hm (by omega)), bool1, decide_eq_true e]; rfl
        · rw [if_pos (nI_le (by omega) (by omega)), bool0, decide_eq_false e]; rfl
      · dsimp only
        by_cases e : s = m
        · subst e; rw [sI_at]
        · rw [sI_ne _ _ (by omega)]; exact i3 s (by omega)
    · obtain ⟨x, u⟩ := z
      obtain ⟨rfl, i1, i2, i3⟩ := hI
      refine ⟨u, rfl, i1, i2, fun s hs => ?_⟩
      rw [i3 s hs]
      unfold tbx
      simp [allB]
  obtain ⟨r1, E1, T1⟩ := L1
  rw [E1, Option.bind_some]
  have L2 : Ev (lpf (fun s : Int32 × WW => f_X8_setTells_b38 (bs P) s.1 s.2) FU ((0 : Int32), r1)) (fun u => Tab w u (tbx v P (v 0 0) 0)) := by
    refine lpf_inv (fun x z => z.1 = nI x ∧ Tab w z.2 (tbx v P x 0)) _ (v 0 0) (by omega) ⟨rfl, T1⟩ (fun x z hx hI => Or.inl ?_) (fun z hI => ?_)
    · obtain ⟨i, u⟩ := z
      obtain ⟨rfl, TI⟩ := hI
      have Cu : MSt u v := Tab.st TI C
      have L3 : Ev (lpf (fun s : Int32 × WW => f_X8_setTells_b48 (bs P) (nI x) s.1 s.2) FU ((0 : Int32), u)) (fun u' => Tab w u' (tbx v P (x + 1) 0)) := by
        refine lpf_inv (fun y z => z.1 = nI y ∧ Tab w z.2 (tbx v P x y)) _ x (by omega) ⟨rfl, TI⟩ (fun y z hy hI => Or.inl ?_) (fun z hI => ?_)
        · obtain ⟨i, u1⟩ := z
          obtain ⟨rfl, TI1⟩ := hI
          have Cu1 : MSt u1 v := Tab.st TI1 C
          have L4 : Ev (lpf (fun s : Int32 × WW => f_X8_setTells_b101 (bs P) (nI x) (nI y) (bs (fun q => decide (q < v 0 1) && !decide (an v q x = an v q y))) s.1 s.2) FU ((0 : Int32), u1)) (fun u' => Tab w u' (tbx v P x (y + 1))) := by
            by_cases hPP : P x = true ∧ P y = true
            · refine lpf_inv (fun m z => z.1 = nI m ∧ (∀ k j, k ≠ 57 → z.2.1 k j = w.1 k j) ∧ z.2.2 = w.2 ∧ ∀ s, s < 128 → z.2.1 57 s = b2i (if s < m then tbx v P x (y + 1) s else tbx v P x y s)) _ 128 (by omega) ⟨rfl, TI1.1, TI1.2.1, fun s hs => by rw [if_neg (by omega)]; exact TI1.2.2 s hs⟩ (fun m z hm hI => Or.inl ?_) (fun z hI => ?_)
              · obtain ⟨i, u2⟩ := z
                obtain ⟨rfl, i1, i2, i3⟩ := hI
                refine ⟨(nI (m + 1), sI u2 57 m (b2i (tbx v P x (y + 1) m))), ?_, rfl, Tab.step (w' := u2) i1 i2 i3 rfl⟩
                show f_X8_setTells_b101 (bs P) (nI x) (nI y) _ (nI m) u2 = _
                simp only [f_X8_setTells_b101, f_X8_setTells_j153, f_X8_setTells_j154, stI]
                have h57 := i3 m hm
                rw [if_neg (by omega)] at h57
                have hstep : tbx v P x (y + 1) m = (tbx v P x y m && !bh v m.testBit x y) := by
                  unfold tbx
                  rw [show allB (okp v P m.testBit x) (y + 1) = (allB (okp v P m.testBit x) y && okp v P m.testBit x y) from rfl]
                  have : okp v P m.testBit x y = !bh v m.testBit x y := by unfold okp; rw [hPP.1, hPP.2]; rfl
                  rw [this, Bool.and_assoc, Bool.and_assoc]
                rw [show (128 : Int32) = nI 128 from rfl, if_neg (nI_ge hm (by omega)), hasM u2 P (by omega), Option.bind_some, if_pos hPP.1, if_neg (by decide), hasM u2 P (by omega), Option.bind_some, if_pos hPP.2, if_neg (by decide), gd_t (inb_n hm (by omega)), gd_t (inb_n hm (by omega)), gd_t (inb_n hm (by omega)), cl_n (by omega), h57, bool0, bool1, nI_1, hstep]
                cases tbx v P x y m with
                | false => rw [if_pos (by decide)]; rfl
                | true =>
                  rw [if_neg (by decide)]
                  cases hb : bh v m.testBit x y with
                  | true => rw [if_pos ((by_bh hq hm).mpr hb)]; rfl
                  | false => rw [if_neg (fun e => by have := (by_bh hq hm).mp e; rw [hb] at this; cases this)]; rfl
              · obtain ⟨i, u2⟩ := z
                obtain ⟨rfl, i1, i2, i3⟩ := hI
                exact ⟨u2, rfl, i1, i2, fun s hs => by have := i3 s hs; rw [if_pos hs] at this; exact this⟩
            · have same : ∀ s, tbx v P x (y + 1) s = tbx v P x y s := fun s => by
                unfold tbx
                rw [show allB (okp v P s.testBit x) (y + 1) = (allB (okp v P s.testBit x) y && okp v P s.testBit x y) from rfl]
                have : okp v P s.testBit x y = true := by
                  unfold okp
                  cases h1 : P x with
                  | false => rfl
                  | true =>
                    cases h2 : P y with
                    | false => rfl
                    | true => exact absurd ⟨h1, h2⟩ hPP
                rw [this, Bool.and_true]
              refine ⟨u1, ?_, TI1.1, TI1.2.1, fun s hs => by rw [same]; exact TI1.2.2 s hs⟩
              refine lpf_seq (fun _ => ((0 : Int32), u1)) 0 _ (by omega) (fun i hi => by omega) ?_
              simp only [f_X8_setTells_b101]
              rw [if_neg (by decide), hasM u1 P (by omega), Option.bind_some]
              by_cases h1 : P x = true
              · rw [if_pos h1, if_neg (by decide), hasM u1 P (by omega), Option.bind_some, if_neg (fun h2 => hPP ⟨h1, h2⟩), if_pos rfl]
              · rw [if_neg h1, if_pos rfl]
          obtain ⟨r4, E4, T4⟩ := L4
          refine ⟨(nI (y + 1), r4), ?_, rfl, T4⟩
          show f_X8_setTells_b48 (bs P) (nI x) (nI y) u1 = _
          simp only [f_X8_setTells_b48]
          rw [if_neg (nI_ge hy (by omega)), tells_by Cu1 R _ (by omega) (by omega), Option.bind_some, E4, Option.bind_some, nI_1]
        · obtain ⟨i, u1⟩ := z
          obtain ⟨rfl, TI1⟩ := hI
          refine ⟨u1, ?_, TI1.1, TI1.2.1, fun s hs => ?_⟩
          · show f_X8_setTells_b48 (bs P) (nI x) (nI x) u1 = _
            simp only [f_X8_setTells_b48]
            rw [if_pos (nI_le (Nat.le_refl _) (by omega))]
          · rw [TI1.2.2 s hs]
            unfold tbx
            rw [show allB (fun x => allB (okp v P s.testBit x) x) (x + 1) = (allB (fun x => allB (okp v P s.testBit x) x) x && allB (okp v P s.testBit x) x) from rfl]
            simp [allB]
      obtain ⟨r3, E3, T3⟩ := L3
      refine ⟨(nI (x + 1), r3), ?_, rfl, T3⟩
      show f_X8_setTells_b38 (bs P) (nI x) u = _
      simp only [f_X8_setTells_b38, Cu.1]
      rw [if_neg (nI_ge hx (by omega)), E3, Option.bind_some, nI_1]
    · obtain ⟨i, u⟩ := z
      obtain ⟨rfl, TI⟩ := hI
      have Cu : MSt u v := Tab.st TI C
      refine ⟨u, ?_, TI⟩
      show f_X8_setTells_b38 (bs P) (nI (v 0 0)) u = _
      simp only [f_X8_setTells_b38, Cu.1]
      rw [if_pos (nI_le (Nat.le_refl _) (by omega))]
  obtain ⟨r2, E2, T2⟩ := L2
  rw [E2, Option.bind_some]
  refine ⟨r2, rfl, T2.1, T2.2.1, fun s hs => ?_⟩
  rw [T2.2.2 s hs]
  unfold tbx tll
  simp [allB]
theorem cheapest_ev {w : WW} {v : Vt} (C : MSt w v) (R : Rg v) {T : Nat → Bool} (hT : ∀ s, s < 128 → w.1 57 s = b2i (T s)) : f_X8_cheapest w = some (oS (scan T (cs v) pop (2 ^ v 0 1))) := by
  have hq := R.2.1
  have hp7 := p2q hq
  unfold f_X8_cheapest
  have h := lpf_seq (body := fun s : Int32 × Int32 => f_X8_cheapest_b4 w s.1 s.2) (fun k => (oS (scan T (cs v) pop k), nI k)) (2 ^ v 0 1) (oS (scan T (cs v) pop (2 ^ v 0 1))) (by omega) (fun k hk => ?_) ?_
  · rw [show ((-1 : Int32), (0 : Int32)) = (oS (scan T (cs v) pop 0), nI 0) from rfl, h]; rfl
  · simp only [f_X8_cheapest_b4, f_X8_cheapest_j69, f_X8_cheapest_j43, f_X8_cheapest_j63, f_X8_cheapest_j68, f_X8_cheapest_j67, C.2.1]
    rw [bs_pow (by omega), if_neg (nI_ge hk (by omega)), gd_t (inb_n (by omega) (by omega)), cl_n (by omega), hT k (by omega), nI_1]
    cases hk2 : T k with
    | false =>
      rw [if_pos (by decide), show scan T (cs v) pop (k + 1) = scan T (cs v) pop k by rw [scan, hk2]; rfl]
    | true =>
      rw [if_neg (by decide)]
      rcases scan_char T (cs v) pop k with ⟨e, -⟩ | ⟨b, e, b1, -⟩
      · rw [e, if_pos (show oS none = -1 from rfl), if_pos (by decide), show scan T (cs v) pop (k + 1) = some k by rw [scan, hk2, e]; rfl]
        rfl
      · have c1 : cs v k ≤ 693 := csB_le R k.testBit
        have c2 : cs v b ≤ 693 := csB_le R b.testBit
        have hck : f_X8_costOf w (nI k) = some (nI (cs v k)) := by rw [bs_nI (s := k) (by omega)]; exact costOf_ev C R _
        have hcb : f_X8_costOf w (nI b) = some (nI (cs v b)) := by rw [bs_nI (s := b) (by omega)]; exact costOf_ev C R _
        have hbk : f_X8_bits w (nI k) = some (nI (pop k)) := by rw [bs_nI (s := k) (by omega)]; exact bitsM_ev w _
        have hbb : f_X8_bits w (nI b) = some (nI (pop b)) := by rw [bs_nI (s := b) (by omega)]; exact bitsM_ev w _
        have p1 : pop k ≤ 16 := cnt_le k.testBit
        have p2 : pop b ≤ 16 := cnt_le b.testBit
        rw [e, show oS (some b) = nI b from rfl, if_neg (m1_ne (by omega)), hck, Option.bind_some, hcb, Option.bind_some, hbk, Option.bind_some, hbb, Option.bind_some, show scan T (cs v) pop (k + 1) = if cs v k < cs v b ∨ (cs v k = cs v b ∧ pop k < pop b) then some k else some b by rw [scan, hk2, e]; rfl]
        by_cases a1 : cs v k < cs v b
        · rw [if_pos ((sub_lt0 (by omega) (by omega)).mpr a1), if_pos (Or.inl a1)]; rfl
        · rw [if_neg (fun q => a1 ((sub_lt0 (by omega) (by omega)).mp q))]
          by_cases a2 : cs v k = cs v b
          · rw [if_pos ((sub_eq0 (by omega) (by omega)).mpr a2)]
            by_cases a3 : pop k < pop b
            · rw [if_neg (nI_ge a3 (by omega)), if_pos (Or.inr ⟨a2, a3⟩)]; rfl
            · rw [if_pos (nI_le (by omega) (by omega)), if_neg (by omega)]; rfl
          · rw [if_neg (fun q => a2 ((sub_eq0 (by omega) (by omega)).mp q)), if_neg (by omega)]; rfl
  · simp only [f_X8_cheapest_b4, C.2.1]
    rw [bs_pow (by omega), if_pos (nI_le (Nat.le_refl _) (by omega))]
theorem SameM.tab {w w' : WW} {T : Nat → Bool} (h : Tab w w' T) : SameM w w' ∧ HighM w w' := ⟨⟨fun k j hk => h.1 k j (by unfold scrM at hk; omega), fun k j _ => by rw [h.2.1]⟩, fun k hk => ⟨funext fun j => h.1 k j (by omega), by rw [h.2.1]⟩⟩
theorem sw_same (w : WW) {pb : Nat} (h1 : 38 ≤ pb) (h2 : pb ≤ 45) (c : Nat → Nat) (o : Option Nat) : SameC w (sw w pb c o) ∧ LowC w (sw w pb c o) := ⟨⟨fun k j hk => by
  unfold sw
  unfold scr at hk
  rw [sI_ne _ _ (by omega), sI_ne _ _ (by omega)], fun _ _ _ => rfl⟩, (LowC.sI (by omega)).tr (LowC.sI (by omega))⟩
theorem atOnce_ok {w : WW} {S : StT} (I : SInv S) (C : CInv w S) (M : MInv w S) (x : Int32) : Both (f_X7_atOnce w x) (fun w => f_X8_atOnce w x) := by
  have l1 : (1 : Int32) = nI 2 - 1 := rfl
  have hq := I.1.1.2.1
  have hp7 := p2q hq
  have hP : ∀ x, x < 16 → lft S.1.1 x = true → x < S.1.1 0 0 := fun x _ h => lft_lt h
  by_cases hx : inb x 2
  · have hsc : scan (fun s => decide (nI s &&& bs (fun _ => false) = bs (fun _ => false)) && decide (nI s &&& bs (fun _ => false) = 0) && tll S.1.1 (lft S.1.1) s.testBit) (cs S.1.1) pop (2 ^ S.1.1 0 1) = scan (fun s => decide (s < 2 ^ S.1.1 0 1) && tll S.1.1 (lft S.1.1) s.testBit) (cs S.1.1) pop (2 ^ S.1.1 0 1) := by
      refine scan_congr (fun s hs => ⟨?_, rfl⟩)
      have z : nI s &&& bs (fun _ => false) = 0 := by
        rw [bs_nI (s := s) (by omega), bs_and, bs_congr (Q := fun _ => false) (fun i _ => by simp), bs_none]
      rw [z, bs_none]
      simp [hs]
    generalize ho : scan (fun s => decide (s < 2 ^ S.1.1 0 1) && tll S.1.1 (lft S.1.1) s.testBit) (cs S.1.1) pop (2 ^ S.1.1 0 1) = o at hsc
    obtain ⟨a1, a2⟩ := sw_same w (pb := 38) (by omega) (by omega) (cs S.1.1) o
    refine both_ro I C M (if x = 0 then oS o else oC (cs S.1.1) o) (w1 := sw w 38 (cs S.1.1) o) ?_ a1 a2 (fun w' M' => ?_)
    · simp only [f_X7_atOnce, within_nn w _ l1 (by omega), Option.bind_some, if_pos hx]
      rw [if_neg (by decide), fit0 I C, Option.bind_some]
      have hs := seek_ev C.1.1 I.1.1 hP (pb := 38) (by omega) (fun _ => false) (fun _ => false)
      rw [hsc] at hs
      rw [bs_none] at hs
      rw [hs, Option.bind_some]
      by_cases x0 : x = 0
      · rw [if_pos x0, if_pos x0]; unfold sw; rw [sI_ne _ _ (by omega), sI_at]
      · rw [if_neg x0, if_neg x0]; unfold sw; rw [sI_at]
    · obtain ⟨w2, E, T⟩ := setTells_ev M'.1.st I.1.1 (lft S.1.1)
      refine ⟨w2, ?_, (SameM.tab T).1, (SameM.tab T).2⟩
      show f_X8_atOnce w' x = _
      simp only [f_X8_atOnce, f_X8_atOnce_j36, in_nn w' _ l1 (by omega), Option.bind_some, if_pos hx]
      rw [if_neg (by decide), leftOver_ev M'.1.st I.1.1, Option.bind_some, E, Option.bind_some, cheapest_ev (T.st M'.1.st) I.1.1 T.2.2, Option.bind_some, ho]
      rcases scan_char (fun s => decide (s < 2 ^ S.1.1 0 1) && tll S.1.1 (lft S.1.1) s.testBit) (cs S.1.1) pop (2 ^ S.1.1 0 1) with ⟨e, -⟩ | ⟨b, e, b1, -⟩
      · rw [ho] at e
        subst e
        rw [if_pos (show oS none = -1 from rfl)]
        split <;> rfl
      · rw [ho] at e
        subst e
        rw [show oS (some b) = nI b from rfl, if_neg (m1_ne (by omega))]
        by_cases x0 : x = 0
        · rw [if_pos x0, if_pos x0]
        · have hcb := costOf_ev (T.st M'.1.st) I.1.1 b.testBit
          rw [← bs_nI (s := b) (by omega)] at hcb
          rw [if_neg x0, if_neg x0, hcb]; rfl
  · exact both_ref I C M (-2) 0 (by omega) (by simp only [f_X7_atOnce, within_nn w _ l1 (by omega), Option.bind_some, if_neg hx, refuse_0]; rfl) (fun w' M' => by simp only [f_X8_atOnce, in_nn w' _ l1 (by omega), Option.bind_some, if_neg hx, bad_0]; rfl)

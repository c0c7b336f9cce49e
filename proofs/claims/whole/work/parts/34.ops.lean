/-! the small operations -/
theorem CInv.st {w w' : WW} {S : StT} {im' : Im} (C : CInv w S) (h : ∀ k j, ¬ (1 ≤ k ∧ k ≤ 8) → w'.1 k j = w.1 k j) (h2 : w'.2 = w.2) (A : CA w' 1 im') : CInv w' (im', S.2) := by
  obtain ⟨c1, c2, c3, c4, c5⟩ := C
  refine ⟨A, fun i hi => CImg_congr (h _ _ (by omega)) (fun k j h1 h2 => h k j (by omega)) (c2 i hi), ⟨(h _ _ (by omega)).trans c3.1, fun j hj => (h _ _ (by omega)).trans (c3.2 j hj)⟩, ?_, fun i hi => (h _ _ (by omega)).trans (c5 i hi)⟩
  rw [h2]; exact c4
theorem MInv.st {w w' : WW} {S : StT} {im' : Im} (C : MInv w S) (h : ∀ k j, ¬ ((k = 46 ∧ (j = 1 ∨ j = 2 ∨ j = 3 ∨ j = 18)) ∨ (48 ≤ k ∧ k ≤ 52) ∨ k = 56) → w'.1 k j = w.1 k j) (h2 : w'.2 = w.2) (A : MA w' im') : MInv w' (im', S.2) := by
  obtain ⟨c1, c2, c3, c4, c5⟩ := C
  refine ⟨A, fun i hi => MImg_congr (fun j => h _ _ (by omega)) (c2 i hi), ⟨(h _ _ (by omega)).trans c3.1, fun j hj => (h _ _ (by omega)).trans (c3.2 j hj)⟩, ?_, fun i hi => (h _ _ (by omega)).trans (c5 i hi)⟩
  rw [h2]; exact c4
def Both (oc : Option (Int32 × WW)) (om : WW → Option (Int32 × WW)) : Prop := ∃ r w' w'' S', oc = some (r, w') ∧ om w' = some (r, w'') ∧ SInv S' ∧ CInv w'' S' ∧ MInv w'' S'
theorem Both.of {w : WW} {S S' : StT} {oc : Option (Int32 × WW)} {om : WW → Option (Int32 × WW)} {r : Int32} (M : MInv w S) (hS : SInv S') (hc : OpC w oc r S') (hm : ∀ w', MInv w' S → OpM w' (om w') r S') : Both oc om := by
  obtain ⟨w', e1, l1, C⟩ := hc
  obtain ⟨w'', e2, l2, M2⟩ := hm w' (M.low l1)
  exact ⟨r, w', w'', S', e1, e2, hS, C.high l2, M2⟩
theorem OpC.bump {w : WW} {S : StT} {r : Int32} {i : Nat} (hi : i < 3) (C : CInv w S) : OpC w (some (r, sI w 37 i (w.1 37 i + 1))) r (bump S i) := ⟨_, rfl, LowC.sI (by omega), C.bump hi⟩
theorem OpM.bump {w : WW} {S : StT} {r : Int32} {i : Nat} (hi : i < 3) (C : MInv w S) : OpM w (some (r, sI w 47 i (w.1 47 i + 1))) r (bump S i) := ⟨_, rfl, HighM.sI (by omega), C.bump hi⟩
theorem OpC.stay {w : WW} {S : StT} {r : Int32} (C : CInv w S) : OpC w (some (r, w)) r S := ⟨w, rfl, LowC.rf w, C⟩
theorem OpM.stay {w : WW} {S : StT} {r : Int32} (C : MInv w S) : OpM w (some (r, w)) r S := ⟨w, rfl, HighM.rf w, C⟩
/-- a stretch of cells is written, one behind the other -/
def fillF (w : WW) (k base : Nat) (f : Nat → Int32) : Nat → WW
  | 0 => w
  | n + 1 => sI (fillF w k base f n) k (base + n) (f n)
theorem fillF_2 (w : WW) (k base : Nat) (f : Nat → Int32) : ∀ n, (fillF w k base f n).2 = w.2
  | 0 => rfl
  | n + 1 => fillF_2 w k base f n
theorem fillF_ne (w : WW) (k base : Nat) (f : Nat → Int32) {k' j : Nat} (h : k' ≠ k) : ∀ n, (fillF w k base f n).1 k' j = w.1 k' j
  | 0 => rfl
  | n + 1 => by rw [fillF, sI_ne _ _ (by omega), fillF_ne w k base f h n]
theorem fillF_out (w : WW) (k base : Nat) (f : Nat → Int32) {j : Nat} : ∀ n, (j < base ∨ base + n ≤ j) → (fillF w k base f n).1 k j = w.1 k j
  | 0, _ => rfl
  | n + 1, h => by rw [fillF, sI_ne _ _ (by omega), fillF_out w k base f n (by omega)]
theorem fillF_in (w : WW) (k base : Nat) (f : Nat → Int32) {i : Nat} : ∀ n, i < n → (fillF w k base f n).1 k (base + i) = f i
  | 0, h => by omega
  | n + 1, h => by
    rw [fillF]
    by_cases hi : i = n
    · subst hi; rw [sI_at]
    · rw [sI_ne _ _ (by omega), fillF_in w k base f n (by omega)]
theorem within_nn (w : WW) (x : Int32) {hi : Int32} {n : Nat} (h : hi = nI n - 1) (hn : n < 2 ^ 31) : f_X7_within w x 0 hi = some (if inb x n then 1 else 0) := by
  rw [within_ev, h, ite_congr (propext (le_inb hn)) (fun _ => rfl) (fun _ => rfl)]
theorem in_nn (w : WW) (x : Int32) {hi : Int32} {n : Nat} (h : hi = nI n - 1) (hn : n < 2 ^ 31) : f_X8_in w x 0 hi = some (if inb x n then 1 else 0) := by
  rw [in_ev, h, ite_congr (propext (le_inb hn)) (fun _ => rfl) (fun _ => rfl)]
def rng1 (x : Int32) (n : Nat) : Prop := 1 ≤ x.toInt ∧ x.toInt ≤ (n : Int)
theorem rng1_iff {x hi : Int32} {n : Nat} (h : hi = nI n) (hn : n < 2 ^ 31) : (1 ≤ x ∧ x ≤ hi) ↔ rng1 x n := by
  unfold rng1
  rw [h, Int32.le_iff_toInt_le, Int32.le_iff_toInt_le, nI_toInt hn]
  rfl
theorem rng1_of {x : Int32} {n : Nat} (h : rng1 x n) (hn : n + 1 < 2 ^ 31) : ∃ i, 1 ≤ i ∧ i ≤ n ∧ x = nI i := by
  have h2 : inb x (n + 1) := ⟨by unfold rng1 at h; omega, by unfold rng1 at h; omega⟩
  obtain ⟨i, hi, rfl⟩ := vp_in_of (n := n + 1) (vp_in_iff.mpr h2) hn
  refine ⟨i, ?_, by omega, rfl⟩
  have := h.1
  rw [nI_toInt (by omega)] at this
  omega
def v0 (n : Nat) : Vt := fun t i => match t with
  | 0 => if i = 0 then n else 0
  | 1 => 1
  | _ => 0
theorem begin_ev (b : Nat) (w : WW) (x : Int32) : f_X6_begin b w x = some (fillF (sI (sI (sI (sI w b 0 x) b 1 0) b 2 0) b 3 0) (b + 1) 0 (fun _ => 1) 16) := by
  simp only [f_X6_begin, stI]
  rw [show ((0 : Int32), sI (sI (sI (sI w b 0 x) b 1 0) b 2 0) b 3 0) = (fun k => (nI k, fillF (sI (sI (sI (sI w b 0 x) b 1 0) b 2 0) b 3 0) (b + 1) 0 (fun _ => 1) k)) 0 from rfl]
  rw [lpf_seq (body := fun s : Int32 × WW => f_X6_begin_b22 b s.1 s.2) (fun k => (nI k, fillF (sI (sI (sI (sI w b 0 x) b 1 0) b 2 0) b 3 0) (b + 1) 0 (fun _ => 1) k)) 16 (fillF (sI (sI (sI (sI w b 0 x) b 1 0) b 2 0) b 3 0) (b + 1) 0 (fun _ => 1) 16) (by omega) (fun k hk => ?_) rfl]
  · rfl
  · unfold f_X6_begin_b22
    dsimp only
    rw [q_16, if_neg (nI_ge hk (by omega)), gd_t (inb_n hk (by omega))]
    unfold stI
    rw [cl_n (by omega), nI_1, fillF, Nat.zero_add]
theorem beginM_ev (w : WW) (x : Int32) : f_X8_begin w x = some (fillF (sI (sI (sI (sI w 46 1 x) 46 2 0) 46 3 0) 46 18 0) 48 0 (fun _ => 1) 16) := by
  simp only [f_X8_begin, stI]
  rw [show ((0 : Int32), sI (sI (sI (sI w 46 1 x) 46 2 0) 46 3 0) 46 18 0) = (fun k => (nI k, fillF (sI (sI (sI (sI w 46 1 x) 46 2 0) 46 3 0) 46 18 0) 48 0 (fun _ => 1) k)) 0 from rfl]
  rw [lpf_seq (body := fun s : Int32 × WW => f_X8_begin_b22 s.1 s.2) (fun k => (nI k, fillF (sI (sI (sI (sI w 46 1 x) 46 2 0) 46 3 0) 46 18 0) 48 0 (fun _ => 1) k)) 16 (fillF (sI (sI (sI (sI w 46 1 x) 46 2 0) 46 3 0) 46 18 0) 48 0 (fun _ => 1) 16) (by omega) (fun k hk => ?_) rfl]
  · rfl
  · unfold f_X8_begin_b22
    dsimp only
    rw [q_16, if_neg (nI_ge hk (by omega)), gd_t (inb_n hk (by omega))]
    unfold stI
    rw [cl_n (by omega), nI_1, fillF, Nat.zero_add]
theorem CA_begin (b : Nat) (w : WW) (n : Nat) : CA (fillF (sI (sI (sI (sI w b 0 (nI n)) b 1 0) b 2 0) b 3 0) (b + 1) 0 (fun _ => 1) 16) b (v0 n, []) := by
  refine ⟨⟨?_, ?_, ?_, fun x hx => ?_, fun i hi => by simp [v0] at hi, fun i x hi => by simp [v0] at hi, fun i hi => by simp [v0] at hi⟩, ?_, trivial⟩
  · rw [fillF_ne _ _ _ _ (by omega), sI_ne _ _ (by omega), sI_ne _ _ (by omega), sI_ne _ _ (by omega), sI_at]; rfl
  · rw [fillF_ne _ _ _ _ (by omega), sI_ne _ _ (by omega), sI_ne _ _ (by omega), sI_at]; rfl
  · rw [fillF_ne _ _ _ _ (by omega), sI_ne _ _ (by omega), sI_at]; rfl
  · have := fillF_in (sI (sI (sI (sI w b 0 (nI n)) b 1 0) b 2 0) b 3 0) (b + 1) 0 (fun _ => 1) 16 hx
    rw [Nat.zero_add] at this
    rw [this]; rfl
  · rw [fillF_ne _ _ _ _ (by omega), sI_at]; rfl
theorem MA_begin (w : WW) (n : Nat) : MA (fillF (sI (sI (sI (sI w 46 1 (nI n)) 46 2 0) 46 3 0) 46 18 0) 48 0 (fun _ => 1) 16) (v0 n, []) := by
  refine ⟨?_, ?_, ?_, ?_, fun x hx => ?_, fun i hi => by simp [v0] at hi, fun i hi => by simp [v0] at hi, trivial⟩
  · rw [fillF_ne _ _ _ _ (by omega), sI_ne _ _ (by omega), sI_ne _ _ (by omega), sI_ne _ _ (by omega), sI_at]; rfl
  · rw [fillF_ne _ _ _ _ (by omega), sI_ne _ _ (by omega), sI_ne _ _ (by omega), sI_at]; rfl
  · rw [fillF_ne _ _ _ _ (by omega), sI_ne _ _ (by omega), sI_at]; rfl
  · rw [fillF_ne _ _ _ _ (by omega), sI_at]; rfl
  · have := fillF_in (sI (sI (sI (sI w 46 1 (nI n)) 46 2 0) 46 3 0) 46 18 0) 48 0 (fun _ => 1) 16 hx
    rw [Nat.zero_add] at this
    rw [this]; rfl
theorem Rim_v0 {n : Nat} (h1 : 1 ≤ n) (h2 : n ≤ 16) : Rim (v0 n, []) := by
  refine ⟨⟨⟨h1, h2⟩, by simp [v0], by simp [v0], fun x _ => by simp [v0], fun i hi => by simp [v0] at hi, fun i hi => by simp [v0] at hi⟩, by simp, by simp⟩

/-! a question more -/
theorem answerIn_raw {w : WW} {b i k a x : Nat} (hi : i < 7) (h1 : w.1 (b + 2) i = nI k) (h2 : w.1 (b + 3) i = nI a) (hk : k ≤ 5) (ha : a ≤ 15) (hx : x < 16) : f_X6_answerIn b w (nI i) (nI x) = some (nI (ans k a x)) := by
  unfold f_X6_answerIn
  rw [gd_t (inb_n (by omega) (by omega)), gd_t (inb_n (by omega) (by omega)), cl_n (by omega), h1, h2, ansC w hk ha hx]
  rfl
def alk (k a x : Nat) : Int32 := bs (fun y => decide (ans k a y = ans k a x))
theorem setAlike_ev {w : WW} {b i k a x : Nat} (hi : i < 7) (h1 : w.1 (b + 2) i = nI k) (h2 : w.1 (b + 3) i = nI a) (hk : k ≤ 5) (ha : a ≤ 15) (hx : x < 16) : f_X6_setAlike b w (nI i) (nI x) = some (sI w (b + 5) (16 * i + x) (alk k a x)) := by
  unfold f_X6_setAlike
  rw [answerIn_raw hi h1 h2 hk ha hx, Option.bind_some]
  have hA := ans_le k (by omega) a (by omega) x hx
  have h := lpf_seq (body := fun s : Int32 × Int32 => f_X6_setAlike_b13 b w (nI i) (nI x) (nI (ans k a x)) s.1 s.2) (fun m => (bs (fun y => decide (y < m) && decide (ans k a y = ans k a x)), nI m)) 16 (alk k a x) (by omega) (fun m hm => ?_) ?_
  · rw [st_bs0 (P := fun y => decide (y < 0) && decide (ans k a y = ans k a x)) (fun i _ => by simp), h, Option.bind_some, q_16, pk_mul, nI_add, gd_t (inb_n (by omega) (by omega)), cl_n (by omega)]
    unfold stI
    rw [Nat.mul_comm]
  · unfold f_X6_setAlike_b13
    dsimp only
    rw [q_16, if_neg (nI_ge hm (by omega)), answerIn_raw hi h1 h2 hk ha hm, Option.bind_some]
    have hB := ans_le k (by omega) a (by omega) m hm
    by_cases e : ans k a m = ans k a x
    · rw [if_pos (by rw [e])]
      unfold f_X6_setAlike_j40 nmv
      rw [nI_1, bs_add _ (by omega)]
      refine pr_bs (fun y _ => ?_)
      by_cases hy : y = m
      · subst hy; simp [e]
      · have : (y < m + 1) = (y < m) := by simp; omega
        simp [hy, this]
    · rw [if_neg (by rw [nI_eq (by omega) (by omega)]; exact e)]
      unfold f_X6_setAlike_j40
      rw [nI_1]
      refine pr_bs (fun y _ => ?_)
      by_cases hy : y = m
      · subst hy; simp [e]
      · have : (y < m + 1) = (y < m) := by simp; omega
        simp [this]
  · unfold f_X6_setAlike_b13
    dsimp only
    rw [q_16, if_pos (nI_le (Nat.le_refl _) (by omega))]
    unfold alk
    rw [bs_congr (Q := fun y => decide (ans k a y = ans k a x)) (fun y hy => by simp [hy])]
def addW (b : Nat) (w : WW) (q k a p : Nat) : WW := sI (sI (fillF (sI (sI (sI w (b + 2) q (nI k)) (b + 3) q (nI a)) (b + 4) q (nI p)) (b + 5) (16 * q) (alk k a) 16) b 1 (nI (q + 1))) b 3 0
theorem addW_2 (b : Nat) (w : WW) (q k a p : Nat) : (addW b w q k a p).2 = w.2 := by simp only [addW, sI_2, fillF_2]
theorem addW_out {b : Nat} {w : WW} {q k a p k' j : Nat} (h : ¬ (b ≤ k' ∧ k' ≤ b + 7)) : (addW b w q k a p).1 k' j = w.1 k' j := by
  unfold addW
  rw [sI_ne _ _ (by omega), sI_ne _ _ (by omega), fillF_ne _ _ _ _ (by omega), sI_ne _ _ (by omega), sI_ne _ _ (by omega), sI_ne _ _ (by omega)]
theorem addQuestion_ev {w : WW} {b q k a p : Nat} (hq : q < 7) (h : w.1 b 1 = nI q) (hk : k ≤ 5) (ha : a ≤ 15) : f_X6_addQuestion b w (nI k) (nI a) (nI p) = some (addW b w q k a p) := by
  have e1 : ∀ x, (sI w (b + 2) q x).1 b 1 = nI q := fun x => by rw [sI_ne _ _ (by omega)]; exact h
  have e2 : ∀ x y, (sI (sI w (b + 2) q x) (b + 3) q y).1 b 1 = nI q := fun x y => by rw [sI_ne _ _ (by omega)]; exact e1 x
  unfold f_X6_addQuestion
  rw [h, show (7 : Int32) = nI 7 from rfl, if_pos (nI_lt hq (by omega)), gd_t (inb_n hq (by omega)), cl_n (by omega)]
  simp only [stI]
  rw [e1, gd_t (inb_n hq (by omega)), cl_n (by omega), e2, gd_t (inb_n hq (by omega)), cl_n (by omega)]
  generalize hu : sI (sI (sI w (b + 2) q (nI k)) (b + 3) q (nI a)) (b + 4) q (nI p) = u
  have u1 : u.1 b 1 = nI q := by rw [← hu, sI_ne _ _ (by omega)]; exact e2 _ _
  have u2 : u.1 (b + 2) q = nI k := by rw [← hu, sI_ne _ _ (by omega), sI_ne _ _ (by omega), sI_at]
  have u3 : u.1 (b + 3) q = nI a := by rw [← hu, sI_ne _ _ (by omega), sI_at]
  have hl := lpf_seq (body := fun s : Int32 × WW => f_X6_addQuestion_b43 b s.1 s.2) (fun m => (nI m, fillF u (b + 5) (16 * q) (alk k a) m)) 16 (fillF u (b + 5) (16 * q) (alk k a) 16) (by omega) (fun m hm => ?_) ?_
  · rw [show ((0 : Int32), u) = (nI 0, fillF u (b + 5) (16 * q) (alk k a) 0) from rfl, hl, Option.bind_some]
    unfold addW
    rw [hu, fillF_ne _ _ _ _ (by omega), u1, nI_1]
  · unfold f_X6_addQuestion_b43
    dsimp only
    rw [q_16, if_neg (nI_ge hm (by omega)), fillF_ne _ _ _ _ (by omega), u1, setAlike_ev hq (by rw [fillF_ne _ _ _ _ (by omega)]; exact u2) (by rw [fillF_ne _ _ _ _ (by omega)]; exact u3) hk ha hm, Option.bind_some, nI_1]
    rfl
  · rfl
def addV (v : Vt) (k a p : Nat) : Vt := vup (vup (vup (vup v 0 1 (v 0 1 + 1)) 2 (v 0 1) k) 3 (v 0 1) a) 4 (v 0 1) p
theorem addV_0 (v : Vt) (k a p i : Nat) : addV v k a p 0 i = if i = 1 then v 0 1 + 1 else v 0 i := by simp [addV, vup]
theorem addV_1 (v : Vt) (k a p i : Nat) : addV v k a p 1 i = v 1 i := by simp [addV, vup]
theorem addV_2 (v : Vt) (k a p i : Nat) : addV v k a p 2 i = if i = v 0 1 then k else v 2 i := by simp [addV, vup]
theorem addV_3 (v : Vt) (k a p i : Nat) : addV v k a p 3 i = if i = v 0 1 then a else v 3 i := by simp [addV, vup]
theorem addV_4 (v : Vt) (k a p i : Nat) : addV v k a p 4 i = if i = v 0 1 then p else v 4 i := by simp [addV, vup]
theorem addV_5 (v : Vt) (k a p i : Nat) : addV v k a p 5 i = v 5 i := by simp [addV, vup]
theorem addV_6 (v : Vt) (k a p i : Nat) : addV v k a p 6 i = v 6 i := by simp [addV, vup]
theorem CA_add {w : WW} {b : Nat} {v : Vt} (k a p : Nat) (h : CSt w b v) : CA (addW b w (v 0 1) k a p) b (addV v k a p, []) := by
  obtain ⟨c1, c2, c3, c4, c5, c6, c7⟩ := h
  have hw : ∀ t j, t ≠ 0 → t ≠ 2 → t ≠ 3 → t ≠ 4 → t ≠ 5 → (addW b w (v 0 1) k a p).1 (b + t) j = w.1 (b + t) j := by
    intro t j h0 h2 h3 h4 h5
    unfold addW
    rw [sI_ne _ _ (by omega), sI_ne _ _ (by omega), fillF_ne _ _ _ _ (by omega), sI_ne _ _ (by omega), sI_ne _ _ (by omega), sI_ne _ _ (by omega)]
  have hq : ∀ t j, t = 2 ∨ t = 3 ∨ t = 4 → j ≠ v 0 1 → (addW b w (v 0 1) k a p).1 (b + t) j = w.1 (b + t) j := by
    intro t j ht hj
    unfold addW
    rw [sI_ne _ _ (by omega), sI_ne _ _ (by omega), fillF_ne _ _ _ _ (by omega), sI_ne _ _ (by omega), sI_ne _ _ (by omega), sI_ne _ _ (by omega)]
  have h0 : ∀ j, j ≠ 1 → j ≠ 3 → (addW b w (v 0 1) k a p).1 b j = w.1 b j := by
    intro j h1 h3
    unfold addW
    rw [sI_ne _ _ (by omega), sI_ne _ _ (by omega), fillF_ne _ _ _ _ (by omega), sI_ne _ _ (by omega), sI_ne _ _ (by omega), sI_ne _ _ (by omega)]
  suffices hC : CSt (addW b w (v 0 1) k a p) b (addV v k a p) from ⟨hC, by unfold addW; rw [sI_at]; rfl, trivial⟩
  refine ⟨?_, ?_, ?_, fun x hx => ?_, fun i hi => ?_, fun i x hi hx => ?_, fun i hi => ?_⟩
  · rw [h0 0 (by omega) (by omega), addV_0, if_neg (by omega)]; exact c1
  · rw [addV_0, if_pos rfl]; unfold addW; rw [sI_ne _ _ (by omega), sI_at]
  · rw [h0 2 (by omega) (by omega), addV_0, if_neg (by omega)]; exact c3
  · rw [hw 1 x (by omega) (by omega) (by omega) (by omega) (by omega), addV_1]; exact c4 x hx
  · rw [addV_0, if_pos rfl] at hi
    rw [addV_2, addV_3, addV_4]
    by_cases e : i = v 0 1
    · subst e
      rw [if_pos rfl, if_pos rfl, if_pos rfl]
      unfold addW
      refine ⟨?_, ?_, ?_⟩
      · rw [sI_ne _ _ (by omega), sI_ne _ _ (by omega), fillF_ne _ _ _ _ (by omega), sI_ne _ _ (by omega), sI_ne _ _ (by omega), sI_at]
      · rw [sI_ne _ _ (by omega), sI_ne _ _ (by omega), fillF_ne _ _ _ _ (by omega), sI_ne _ _ (by omega), sI_at]
      · rw [sI_ne _ _ (by omega), sI_ne _ _ (by omega), fillF_ne _ _ _ _ (by omega), sI_at]
    · rw [if_neg e, if_neg e, if_neg e, hq 2 i (by omega) e, hq 3 i (by omega) e, hq 4 i (by omega) e]
      exact c5 i (by omega)
  · rw [addV_0, if_pos rfl] at hi
    unfold an
    rw [addV_2, addV_3]
    by_cases e : i = v 0 1
    · subst e
      rw [if_pos rfl, if_pos rfl]
      unfold addW
      rw [sI_ne _ _ (by omega), sI_ne _ _ (by omega), fillF_in _ _ _ _ _ hx]
      rfl
    · rw [if_neg e, if_neg e]
      unfold addW
      rw [sI_ne _ _ (by omega), sI_ne _ _ (by omega), fillF_out _ _ _ _ _ (by omega), sI_ne _ _ (by omega), sI_ne _ _ (by omega), sI_ne _ _ (by omega)]
      exact c6 i x (by omega) hx
  · rw [addV_0, if_neg (by omega)] at hi
    rw [addV_5, addV_6, hw 6 i (by omega) (by omega) (by omega) (by omega) (by omega)]
    exact c7 i hi
def addM (w : WW) (q k a p : Nat) : WW := sI (sI (sI (sI (sI w 49 q (nI k)) 50 q (nI a)) 51 q (nI p)) 46 2 (nI (q + 1))) 46 18 0
theorem addM_out {w : WW} {q k a p k' j : Nat} (h : ¬ ((k' = 46 ∧ (j = 2 ∨ j = 18)) ∨ k' = 49 ∨ k' = 50 ∨ k' = 51)) : (addM w q k a p).1 k' j = w.1 k' j := by
  unfold addM
  rw [sI_ne _ _ (by omega), sI_ne _ _ (by omega), sI_ne _ _ (by omega), sI_ne _ _ (by omega), sI_ne _ _ (by omega)]
theorem addM_ev {w : WW} {q k a p : Nat} (hq : q < 7) (h : w.1 46 2 = nI q) : f_X8_add w (nI k) (nI a) (nI p) = some (nI q, addM w q k a p) := by
  have e1 : ∀ x, (sI w 49 q x).1 46 2 = nI q := fun x => by rw [sI_ne _ _ (by omega)]; exact h
  have e2 : ∀ x y, (sI (sI w 49 q x) 50 q y).1 46 2 = nI q := fun x y => by rw [sI_ne _ _ (by omega)]; exact e1 x
  have e3 : ∀ x y z, (sI (sI (sI w 49 q x) 50 q y) 51 q z).1 46 2 = nI q := fun x y z => by rw [sI_ne _ _ (by omega)]; exact e2 x y
  unfold f_X8_add
  rw [h, gd_t (inb_n hq (by omega)), cl_n (by omega)]
  simp only [stI]
  rw [e1, gd_t (inb_n hq (by omega)), cl_n (by omega), e2, gd_t (inb_n hq (by omega)), cl_n (by omega), e3, nI_1]
  unfold addM
  rw [sI_ne _ _ (by omega), sI_at, nI_pred]
theorem MA_add {w : WW} {v : Vt} (k a p : Nat) (h : MSt w v) : MA (addM w (v 0 1) k a p) (addV v k a p, []) := by
  obtain ⟨c1, c2, c3, c5, c6, c7⟩ := h
  refine ⟨?_, ?_, ?_, ?_, fun x hx => ?_, fun i hi => ?_, fun i hi => ?_, trivial⟩
  · simpa [addM, sI, addV_0] using c1
  · simp [addM, sI, addV_0]
  · simpa [addM, sI, addV_0] using c3
  · simp [addM, sI]; rfl
  · simpa [addM, sI, addV_1] using c5 x hx
  · have hi : i < v 0 1 + 1 := by simpa [addV_0] using hi
    by_cases e : i = v 0 1
    · subst e; simp [addM, sI, addV_2, addV_3, addV_4]
    · simpa [addM, sI, addV_2, addV_3, addV_4, e] using c6 i (by omega)
  · have hi : i < v 0 2 := by simpa [addV_0] using hi
    simpa [addM, sI, addV_5, addV_6] using c7 i hi
theorem Rim_add {v : Vt} {U : List (List Nat)} {k a p : Nat} (hq : v 0 1 < 7) (hk : k ≤ 5) (ha : a ≤ 15) (hp : p ≤ 99) (h : Rim (v, U)) : Rim (addV v k a p, []) := by
  have hR : Rg v := h.1
  obtain ⟨r1, r2, r3, r4, r5, r6⟩ := hR
  suffices hR' : Rg (addV v k a p) from ⟨hR', by simp, by simp⟩
  refine ⟨by simpa [addV_0] using r1, by simp [addV_0]; omega, by simpa [addV_0] using r3, by simpa [addV_1] using r4, fun j hj => ?_, fun j hj => ?_⟩
  · have hj : j < v 0 1 + 1 := by simpa [addV_0] using hj
    by_cases e : j = v 0 1
    · subst e; simpa [addV_2, addV_3, addV_4] using ⟨hk, ha, hp⟩
    · simpa [addV_2, addV_3, addV_4, e] using r5 j (by omega)
  · have hj : j < v 0 2 := by simpa [addV_0] using hj
    have := r6 j hj
    simp [addV_0, addV_5, addV_6]
    exact ⟨by have := this.1; omega, this.2⟩

/-! two that give the same -/
def allB (f : Nat → Bool) : Nat → Bool
  | 0 => true
  | n + 1 => allB f n && f n
theorem allB_iff {f : Nat → Bool} : ∀ {n : Nat}, allB f n = true ↔ ∀ x, x < n → f x = true
  | 0 => ⟨fun _ x hx => by omega, fun _ => rfl⟩
  | n + 1 => by
    rw [allB, Bool.and_eq_true, allB_iff]
    refine ⟨fun ⟨h1, h2⟩ x hx => ?_, fun h => ⟨fun x hx => h x (by omega), h n (by omega)⟩⟩
    by_cases e : x = n
    · rw [e]; exact h2
    · exact h1 x (by omega)
def gdp (v : Vt) (P : Nat → Bool) (i j x y : Nat) : Bool := !P x || !P y || (decide (an v i x = an v i y) == decide (an v j x = an v j y))
def smB (v : Vt) (P : Nat → Bool) (i j : Nat) : Bool := allB (fun x => allB (gdp v P i j x) x) (v 0 0)
def b2i (b : Bool) : Int32 := if b = true then 1 else 0
theorem partsM {w : WW} {v : Vt} (C : MSt w v) (R : Rg v) {i x y : Nat} (hi : i < v 0 1) (hx : x < 16) (hy : y < 16) : f_X8_parts w (nI i) (nI x) (nI y) = some (if an v i x = an v i y then 0 else 1) := by
  unfold f_X8_parts
  have h1 := an_le R hi hx
  have h2 := an_le R hi hy
  rw [answerOf_ev C R hi hx, Option.bind_some, answerOf_ev C R hi hy, Option.bind_some]
  by_cases h : an v i x = an v i y
  · rw [if_pos (by rw [h]), if_pos h]
  · rw [if_neg (by rw [nI_eq (by omega) (by omega)]; exact h), if_neg h]
theorem areSame_ev {w : WW} {v : Vt} (C : MSt w v) (R : Rg v) (P : Nat → Bool) {i j : Nat} (hi : i < v 0 1) (hj : j < v 0 1) : f_X8_areSame w (nI i) (nI j) (bs P) = some (b2i (smB v P i j)) := by
  have hn := R.1.2
  unfold f_X8_areSame
  have h := lpf_seq (body := fun s : Int32 × Int32 => f_X8_areSame_b6 w (nI i) (nI j) (bs P) s.1 s.2) (fun k => (b2i (allB (fun x => allB (gdp v P i j x) x) k), nI k)) (v 0 0) (b2i (smB v P i j)) (by omega) (fun k hk => ?_) ?_
  · rw [show ((1 : Int32), (0 : Int32)) = (b2i (allB (fun x => allB (gdp v P i j x) x) 0), nI 0) from rfl, h, Option.bind_some]
    cases smB v P i j <;> rfl
  · simp only [f_X8_areSame_b6, C.1]
    rw [if_neg (nI_ge hk (by omega))]
    have h2 := lpf_seq (body := fun s : Int32 × Int32 => f_X8_areSame_b18 w (nI i) (nI j) (bs P) (nI k) s.1 s.2) (fun m => (b2i (allB (fun x => allB (gdp v P i j x) x) k && allB (gdp v P i j k) m), nI m)) k (b2i (allB (fun x => allB (gdp v P i j x) x) (k + 1))) (by omega) (fun m hm => ?_) ?_
    · simp only [allB, Bool.and_true] at h2
      rw [show (0 : Int32) = nI 0 from rfl, h2, Option.bind_some, nI_1]
      rfl
    · simp only [f_X8_areSame_b18, f_X8_areSame_j73, f_X8_areSame_j74, f_X8_areSame_j69]
      rw [if_neg (nI_ge hm (by omega)), nI_1, show allB (gdp v P i j k) (m + 1) = (allB (gdp v P i j k) m && gdp v P i j k m) from rfl, ← Bool.and_assoc]
      cases hA : (allB (fun x => allB (gdp v P i j x) x) k && allB (gdp v P i j k) m) with
      | false => rfl
      | true =>
        rw [if_neg (by decide), hasM w P (by omega), Option.bind_some, Bool.true_and]
        cases hPk : P k with
        | false =>
          rw [if_pos (by decide)]
          simp [gdp, hPk, b2i]
        | true =>
          rw [if_pos rfl, if_neg (by decide), hasM w P (by omega), Option.bind_some]
          cases hPm : P m with
          | false =>
            rw [if_pos (by decide)]
            simp [gdp, hPm, b2i]
          | true =>
            rw [if_pos rfl, if_neg (by decide), partsM C R hi (by omega) (by omega), Option.bind_some, partsM C R hj (by omega) (by omega), Option.bind_some]
            unfold gdp
            rw [hPk, hPm]
            by_cases a1 : an v i k = an v i m <;> by_cases a2 : an v j k = an v j m <;> simp [a1, a2, b2i]
    · simp only [f_X8_areSame_b18]
      rw [if_pos (nI_le (Nat.le_refl _) (by omega))]
      rfl
  · simp only [f_X8_areSame_b6, C.1]
    rw [if_pos (nI_le (Nat.le_refl _) (by omega))]
    rfl
theorem smB_iff {v : Vt} {P : Nat → Bool} {i j : Nat} : smB v P i j = true ↔ ∀ x y, x < v 0 0 → y < v 0 0 → P x = true → P y = true → (an v i x = an v i y ↔ an v j x = an v j y) := by
  unfold smB
  rw [allB_iff]
  constructor
  · intro h x y hx hy px py
    rcases Nat.lt_trichotomy x y with e | e | e
    · have := allB_iff.mp (h y hy) x e
      unfold gdp at this
      rw [px, py] at this
      simp at this
      rw [eq_comm, this, eq_comm]
    · subst e; simp
    · have := allB_iff.mp (h x hx) y e
      unfold gdp at this
      rw [px, py] at this
      simpa using this
  · intro h x hx
    refine allB_iff.mpr (fun y hy => ?_)
    unfold gdp
    cases px : P x with
    | false => rfl
    | true =>
      cases py : P y with
      | false => rfl
      | true =>
        have := h x y hx (by omega) px py
        simpa using this
theorem partAlike_ev {w : WW} {b : Nat} {v : Vt} (C : CSt w b v) (R : Rg v) {P : Nat → Bool} (hP : ∀ x, x < 16 → P x = true → x < v 0 0) {i j : Nat} (hi : i < v 0 1) (hj : j < v 0 1) : f_X6_partAlike b w (nI i) (nI j) (bs P) = some (b2i (smB v P i j)) := by
  have hn := R.1.2
  have hq := R.2.1
  unfold f_X6_partAlike
  have L : Ev (lpf (fun s : Int32 => f_X6_partAlike_b3 b w (nI i) (nI j) (bs P) s) FU (0 : Int32)) (fun r => (r = .inl () ∧ smB v P i j = false) ∨ (r = .inr () ∧ smB v P i j = true)) := by
    refine lpf_inv (fun k s => s = nI k ∧ ∀ x y, x < k → y < v 0 0 → P x = true → P y = true → (an v i x = an v i y ↔ an v j x = an v j y)) _ (v 0 0) (by omega) ⟨rfl, fun x y hx => by omega⟩ (fun k s hk hI => ?_) (fun s hI => ?_)
    · obtain ⟨rfl, h⟩ := hI
      simp only [f_X6_partAlike_b3, f_X6_partAlike_j58, C.1, nmv]
      rw [if_neg (nI_ge hk (by omega)), ixq, ixq, gd_t (inb_n (by omega) (by omega)), gd_t (inb_n (by omega) (by omega)), cl_n (by omega), cl_n (by omega), C.2.2.2.2.2.1 i k hi (by omega), C.2.2.2.2.2.1 j k hj (by omega), bs_xor, bs_and, nI_1]
      by_cases px : P k = true
      · rw [if_pos ((bs_hasT (by omega)).mpr px)]
        by_cases e : bs (fun y => (decide (an v i y = an v i k) ^^ decide (an v j y = an v j k)) && P y) = 0
        · rw [if_pos e]
          refine Or.inl ⟨_, rfl, rfl, fun x y hx hy h1 h2 => ?_⟩
          by_cases ex : x = k
          · subst ex
            have := bs_eq0.mp e y (by omega)
            rw [h2, Bool.and_true] at this
            rw [eq_comm, @eq_comm _ (an v j x)]
            simpa using this
          · exact h x y (by omega) hy h1 h2
        · rw [if_neg e]
          refine Or.inr ⟨_, rfl, Or.inl ⟨rfl, ?_⟩⟩
          cases q : smB v P i j with
          | false => rfl
          | true =>
            refine absurd (bs_eq0.mpr (fun y hy => ?_)) e
            cases py : P y with
            | false => simp
            | true =>
              have := smB_iff.mp q k y hk (hP y hy py) px py
              rw [eq_comm, @eq_comm _ (an v j k)] at this
              simpa using this
      · rw [if_neg (fun e => px ((bs_hasT (by omega)).mp e))]
        refine Or.inl ⟨_, rfl, rfl, fun x y hx hy h1 h2 => ?_⟩
        by_cases ex : x = k
        · subst ex; exact absurd h1 px
        · exact h x y (by omega) hy h1 h2
    · obtain ⟨rfl, h⟩ := hI
      simp only [f_X6_partAlike_b3, C.1]
      rw [if_pos (nI_le (Nat.le_refl _) (by omega))]
      exact ⟨_, rfl, Or.inr ⟨rfl, smB_iff.mpr h⟩⟩
  obtain ⟨r, e, h⟩ := L
  rw [e, Option.bind_some]
  rcases h with ⟨rfl, h⟩ | ⟨rfl, h⟩
  · rw [h]; rfl
  · rw [h]; rfl
/-- the walk over the pairs: how many, and which one is told -/
def inn (sm : Nat → Nat → Bool) (k : Int32) (i : Nat) (s : Nat × Int32) : Nat → Nat × Int32
  | 0 => s
  | d + 1 => if sm i (i + 1 + d) = true then ((inn sm k i s d).1 + 1, if nI (inn sm k i s d).1 = k then nI (10 * i + (i + 1 + d)) else (inn sm k i s d).2) else inn sm k i s d
def outp (sm : Nat → Nat → Bool) (k : Int32) (q : Nat) : Nat → Nat × Int32
  | 0 => (0, -5)
  | i + 1 => inn sm k i (outp sm k q i) (q - (i + 1))
theorem inn_le (sm : Nat → Nat → Bool) (k : Int32) (i : Nat) (s : Nat × Int32) : ∀ d, s.1 ≤ (inn sm k i s d).1 ∧ (inn sm k i s d).1 ≤ s.1 + d
  | 0 => ⟨Nat.le_refl _, Nat.le_refl _⟩
  | d + 1 => by
    have := inn_le sm k i s d
    rw [inn]
    split
    · dsimp only; omega
    · omega
theorem outp_le (sm : Nat → Nat → Bool) (k : Int32) (q : Nat) : ∀ i, (outp sm k q i).1 ≤ i * q
  | 0 => Nat.zero_le _
  | i + 1 => by
    have h1 := outp_le sm k q i
    have h2 := inn_le sm k i (outp sm k q i) (q - (i + 1))
    rw [outp, Nat.succ_mul]
    omega
theorem inn_mono (sm : Nat → Nat → Bool) (k : Int32) (i : Nat) (s : Nat × Int32) (d : Nat) : ∀ e, (inn sm k i s d).1 ≤ (inn sm k i s (d + e)).1
  | 0 => Nat.le_refl _
  | e + 1 => by
    have := inn_mono sm k i s d e
    rw [show d + (e + 1) = d + e + 1 from rfl, inn.eq_2 sm k i s (d + e)]
    split
    · dsimp only; omega
    · exact this
/-- once told, it stays -/
theorem inn_told {sm : Nat → Nat → Bool} {k : Int32} {i : Nat} {s : Nat × Int32} {d c0 : Nat} (hk : nI c0 = k) (hc : c0 < (inn sm k i s d).1) (hs : s.1 ≤ 100) : ∀ e, d + e ≤ 100 → (inn sm k i s (d + e)).2 = (inn sm k i s d).2
  | 0, _ => rfl
  | e + 1, he => by
    have h1 := inn_told hk hc hs e (by omega)
    have h2 := inn_le sm k i s (d + e)
    have h3 := inn_mono sm k i s d e
    rw [show d + (e + 1) = d + e + 1 from rfl, inn]
    split
    · dsimp only
      rw [if_neg (fun q => by
        have q2 := q.trans hk.symm
        rw [nI_eq (by omega) (by omega)] at q2
        omega)]
      exact h1
    · exact h1
theorem outp_told {sm : Nat → Nat → Bool} {k : Int32} {q : Nat} (hq : q ≤ 7) {i c0 : Nat} (hk : nI c0 = k) (hc : c0 < (outp sm k q i).1) : ∀ e, i + e ≤ q → (outp sm k q (i + e)).2 = (outp sm k q i).2 ∧ c0 < (outp sm k q (i + e)).1
  | 0, _ => ⟨rfl, hc⟩
  | e + 1, he => by
    obtain ⟨h1, h2⟩ := outp_told hq hk hc e (by omega)
    have h3 := outp_le sm k q (i + e)
    have h4 : (i + e) * q ≤ 7 * 7 := Nat.mul_le_mul (by omega) hq
    have h5 := inn_told (sm := sm) (i := i + e) (s := outp sm k q (i + e)) (d := 0) hk (by exact h2) (by omega) (q - (i + e + 1)) (by omega)
    have h6 := inn_le sm k (i + e) (outp sm k q (i + e)) (q - (i + e + 1))
    rw [show i + (e + 1) = i + e + 1 from rfl, outp]
    rw [Nat.zero_add] at h5
    exact ⟨h5.trans h1, by omega⟩
theorem sameM_ev {w : WW} {v : Vt} (C : MSt w v) (R : Rg v) (P : Nat → Bool) (k : Int32) : lpf (fun s : Int32 × Int32 × Int32 => f_X8_same_b24 w k (bs P) s.1 s.2.1 s.2.2) FU ((0 : Int32), (-5 : Int32), (0 : Int32)) = some (nI (outp (smB v P) k (v 0 1) (v 0 1)).1, (outp (smB v P) k (v 0 1) (v 0 1)).2) := by
  have hq := R.2.1
  refine lpf_seq (fun i => (nI (outp (smB v P) k (v 0 1) i).1, (outp (smB v P) k (v 0 1) i).2, nI i)) (v 0 1) _ (by omega) (fun i hi => ?_) ?_
  · simp only [f_X8_same_b24, C.2.1, nmv]
    rw [if_neg (nI_ge hi (by omega)), nI_1]
    have h := lpf_seq (body := fun s : Int32 × Int32 × Int32 => f_X8_same_b39 w k (bs P) (nI i) s.1 s.2.1 s.2.2) (fun d => (nI (inn (smB v P) k i (outp (smB v P) k (v 0 1) i) d).1, (inn (smB v P) k i (outp (smB v P) k (v 0 1) i) d).2, nI (i + 1 + d))) (v 0 1 - (i + 1)) (nI (outp (smB v P) k (v 0 1) (i + 1)).1, (outp (smB v P) k (v 0 1) (i + 1)).2) (by omega) (fun d hd => ?_) ?_
    · have h' : lpf (fun s : Int32 × Int32 × Int32 => f_X8_same_b39 w k (bs P) (nI i) s.1 s.2.1 s.2.2) FU (nI (outp (smB v P) k (v 0 1) i).1, (outp (smB v P) k (v 0 1) i).2, nI (i + 1)) = _ := h
      rw [h', Option.bind_some]
    · simp only [f_X8_same_b39, f_X8_same_j83, f_X8_same_j78, C.2.1]
      rw [if_neg (nI_ge (by omega) (by omega)), areSame_ev C R P hi (by omega), Option.bind_some, inn]
      cases h : smB v P i (i + 1 + d) with
      | false =>
        rw [if_pos (by decide), if_neg (by decide), nI_1]; rfl
      | true =>
        rw [if_neg (by decide), if_pos rfl, nI_1, nI_1, show (10 : Int32) = nI 10 from rfl, pk_mul, nI_add]
        dsimp only
        split <;> rfl
    · simp only [f_X8_same_b39, C.2.1]
      rw [if_pos (nI_le (by omega) (by omega))]
      rfl
  · simp only [f_X8_same_b24, C.2.1]
    rw [if_pos (nI_le (Nat.le_refl _) (by omega))]
theorem sameC_ev {w : WW} {v : Vt} (C : CSt w 1 v) (R : Rg v) {P : Nat → Bool} (hP : ∀ x, x < 16 → P x = true → x < v 0 0) (k : Int32) : Ev (lpf (fun s : Int32 × Int32 => f_X7_same_b28 w k (bs P) s.1 s.2) FU ((0 : Int32), (0 : Int32))) (fun r => (∃ c0, c0 < 2 ^ 31 ∧ nI c0 = k ∧ ∃ p, r = .inl p ∧ 10 * p.1 + p.2 = (outp (smB v P) k (v 0 1) (v 0 1)).2) ∨ (r = .inr (nI (outp (smB v P) k (v 0 1) (v 0 1)).1) ∧ (outp (smB v P) k (v 0 1) (v 0 1)).2 = -5)) := by
  have hq := R.2.1
  refine lpf_inv (fun i s => s = (nI (outp (smB v P) k (v 0 1) i).1, nI i) ∧ (outp (smB v P) k (v 0 1) i).2 = -5) _ (v 0 1) (by omega) ⟨rfl, rfl⟩ (fun i s hi hI => ?_) (fun s hI => ?_)
  · obtain ⟨rfl, h5⟩ := hI
    simp only [f_X7_same_b28, C.2.1, nmv]
    rw [if_neg (nI_ge hi (by omega)), nI_1]
    have hc0 := outp_le (smB v P) k (v 0 1) i
    have hc1 : i * v 0 1 ≤ 7 * 7 := Nat.mul_le_mul (by omega) hq
    have L : Ev (lpf (fun s : Int32 × Int32 => f_X7_same_b46 w k (bs P) (nI i) s.1 s.2) FU (nI (outp (smB v P) k (v 0 1) i).1, nI (i + 1))) (fun r => (∃ c0, c0 < 2 ^ 31 ∧ nI c0 = k ∧ ∃ j, r = .inl (nI j) ∧ nI (10 * i + j) = (outp (smB v P) k (v 0 1) (i + 1)).2 ∧ c0 < (outp (smB v P) k (v 0 1) (i + 1)).1) ∨ (r = .inr (nI (outp (smB v P) k (v 0 1) (i + 1)).1) ∧ (outp (smB v P) k (v 0 1) (i + 1)).2 = -5)) := by
      refine lpf_inv (fun d s => s = (nI (inn (smB v P) k i (outp (smB v P) k (v 0 1) i) d).1, nI (i + 1 + d)) ∧ (inn (smB v P) k i (outp (smB v P) k (v 0 1) i) d).2 = -5) _ (v 0 1 - (i + 1)) (by omega) ⟨rfl, h5⟩ (fun d s hd hI => ?_) (fun s hI => ?_)
      · obtain ⟨rfl, h6⟩ := hI
        have hle := inn_le (smB v P) k i (outp (smB v P) k (v 0 1) i) d
        simp only [f_X7_same_b46, f_X7_same_j90, C.2.1]
        rw [if_neg (nI_ge (by omega) (by omega)), partAlike_ev C R hP hi (by omega), Option.bind_some, nI_1]
        cases h : smB v P i (i + 1 + d) with
        | false =>
          rw [if_pos (by decide)]
          refine Or.inl ⟨_, rfl, ?_⟩
          rw [inn, h, if_neg (by decide)]
          exact ⟨rfl, h6⟩
        | true =>
          rw [if_neg (by decide)]
          by_cases e : nI (inn (smB v P) k i (outp (smB v P) k (v 0 1) i) d).1 = k
          · rw [if_pos e]
            refine Or.inr ⟨_, rfl, Or.inl ⟨_, by omega, e, i + 1 + d, rfl, ?_⟩⟩
            have hs : inn (smB v P) k i (outp (smB v P) k (v 0 1) i) (d + 1) = ((inn (smB v P) k i (outp (smB v P) k (v 0 1) i) d).1 + 1, nI (10 * i + (i + 1 + d))) := by
              rw [inn, h, if_pos rfl, if_pos e]
            have ht := inn_told (sm := smB v P) (i := i) (s := outp (smB v P) k (v 0 1) i) (d := d + 1) (c0 := (inn (smB v P) k i (outp (smB v P) k (v 0 1) i) d).1) e (by rw [hs]; exact Nat.lt_succ_self _) (by omega) (v 0 1 - (i + 1) - (d + 1)) (by omega)
            have hdd : d + 1 + (v 0 1 - (i + 1) - (d + 1)) = v 0 1 - (i + 1) := by omega
            have hm := inn_mono (smB v P) k i (outp (smB v P) k (v 0 1) i) (d + 1) (v 0 1 - (i + 1) - (d + 1))
            rw [hdd] at ht hm
            rw [hs] at ht hm
            exact ⟨ht.symm, hm⟩
          · rw [if_neg e, nI_1]
            refine Or.inl ⟨_, rfl, ?_⟩
            rw [inn, h, if_pos rfl, if_neg e]
            exact ⟨rfl, h6⟩
      · obtain ⟨rfl, h6⟩ := hI
        simp only [f_X7_same_b46, C.2.1]
        rw [if_pos (nI_le (by omega) (by omega))]
        exact ⟨_, rfl, Or.inr ⟨rfl, h6⟩⟩
    obtain ⟨r, e, h⟩ := L
    rw [e, Option.bind_some]
    rcases h with ⟨c0, hc, hk, j, rfl, h2, h3⟩ | ⟨rfl, h2⟩
    · refine Or.inr ⟨_, rfl, Or.inl ⟨c0, hc, hk, _, rfl, ?_⟩⟩
      have ht := outp_told (sm := smB v P) hq (i := i + 1) hk h3 (v 0 1 - (i + 1)) (by omega)
      rw [show i + 1 + (v 0 1 - (i + 1)) = v 0 1 by omega] at ht
      rw [ht.1, ← h2, show (10 : Int32) = nI 10 from rfl, pk_mul, nI_add]
    · exact Or.inl ⟨_, rfl, rfl, h2⟩
  · obtain ⟨rfl, h5⟩ := hI
    simp only [f_X7_same_b28, C.2.1]
    rw [if_pos (nI_le (Nat.le_refl _) (by omega))]
    exact ⟨_, rfl, Or.inr ⟨rfl, h5⟩⟩
theorem same_ok {w : WW} {S : StT} (I : SInv S) (C : CInv w S) (M : MInv w S) (k : Int32) : Both (f_X7_same w k) (fun w => f_X8_same w k) := by
  have hP : ∀ x, x < 16 → lft S.1.1 x = true → x < S.1.1 0 0 := fun x _ h => lft_lt h
  by_cases h : (-1 : Int32) ≤ k
  · obtain ⟨r, e, hr⟩ := sameC_ev C.1.1 I.1.1 hP k
    refine ro0 I C M (if k = -1 then nI (outp (smB S.1.1 (lft S.1.1)) k (S.1.1 0 1) (S.1.1 0 1)).1 else (outp (smB S.1.1 (lft S.1.1)) k (S.1.1 0 1) (S.1.1 0 1)).2) ?_ (fun w' M' => ?_)
    · unfold f_X7_same
      rw [if_pos h, fit0 I C, Option.bind_some, e, Option.bind_some]
      rcases hr with ⟨c0, hc, hk, p, rfl, h2⟩ | ⟨rfl, h2⟩
      · rw [if_neg (fun q => by
          rw [q] at hk
          have := congrArg Int32.toInt hk
          rw [nI_toInt hc] at this
          have h3 : (-1 : Int32).toInt = -1 := rfl
          omega)]
        show some (10 * p.1 + p.2, w) = _
        rw [h2]
      · rw [Sum.elim_inr, h2]
        split <;> rfl
    · unfold f_X8_same
      rw [if_pos h, leftOver_ev M'.1.st I.1.1, Option.bind_some, sameM_ev M'.1.st I.1.1, Option.bind_some]
      split <;> rfl
  · exact both_ref I C M (-10) 0 (by omega) (by unfold f_X7_same; rw [if_neg h, refuse_0]; rfl) (fun w' M' => by show f_X8_same w' k = _; unfold f_X8_same; rw [if_neg h, ten_0]; rfl)

/-! one behind the other: the value of a set of cases -/
def sqf (v : Vt) (Q : Nat → Bool) (W E : Nat → Nat) : Nat → Nat × Int32 × Nat
  | 0 => (1048576, -1, 0)
  | k + 1 => if 2 ≤ np v k Q ∧ W k < 1048576 ∧ W k + v 4 k < (sqf v Q W E k).1 then (W k + v 4 k, nI k, 1 + E k) else sqf v Q W E k
def V (v : Vt) : Nat → (Nat → Bool) → Nat × Int32 × Nat
  | 0, _ => (0, -1, 0)
  | d + 1, Q => if cnt Q ≤ 1 then (0, -1, 0) else sqf v Q (fun k => mx (fun A => (V v d (pa v k Q A)).1) 10) (fun k => mx (fun A => (V v d (pa v k Q A)).2.2) 10) (v 0 1)
theorem cnt_congr {P Q : Nat → Bool} (h : ∀ y, y < 16 → P y = Q y) : cnt P = cnt Q := fb_ct_cong h
theorem pa_congr {v : Vt} {i A : Nat} {P Q : Nat → Bool} (h : ∀ y, y < 16 → P y = Q y) : ∀ y, y < 16 → pa v i P A y = pa v i Q A y := fun y hy => by unfold pa; rw [h y hy]
theorem np_congr {v : Vt} {i : Nat} {P Q : Nat → Bool} (h : ∀ y, y < 16 → P y = Q y) : np v i P = np v i Q := fb_ct_cong (fun A _ => by rw [cnt_congr (pa_congr (v := v) (i := i) (A := A) h)])
theorem sqf_congr {v : Vt} {Q Q' : Nat → Bool} {W E W' E' : Nat → Nat} (hQ : ∀ y, y < 16 → Q y = Q' y) : ∀ {n : Nat}, (∀ k, k < n → 2 ≤ np v k Q → W k = W' k ∧ E k = E' k) → sqf v Q W E n = sqf v Q' W' E' n
  | 0, _ => rfl
  | n + 1, h => by
    rw [sqf, sqf, ← sqf_congr hQ (W := W) (E := E) (W' := W') (E' := E') (n := n) (fun k hk => h k (by omega)), ← np_congr (v := v) (i := n) hQ]
    by_cases hp : 2 ≤ np v n Q
    · rw [(h n (by omega) hp).1, (h n (by omega) hp).2]
    · rw [if_neg (fun e => hp e.1), if_neg (fun e => hp e.1)]
theorem mx_congr {f g : Nat → Nat} : ∀ {n : Nat}, (∀ x, x < n → f x = g x) → mx f n = mx g n
  | 0, _ => rfl
  | n + 1, h => by rw [mx, mx, mx_congr (f := f) (g := g) (n := n) (fun x hx => h x (by omega)), h n (by omega)]
theorem V_congr {v : Vt} : ∀ {d : Nat} {Q Q' : Nat → Bool}, (∀ y, y < 16 → Q y = Q' y) → V v d Q = V v d Q'
  | 0, _, _, _ => rfl
  | d + 1, Q, Q', h => by
    rw [V, V, cnt_congr h]
    split
    · rfl
    · refine sqf_congr h (fun k _ _ => ⟨mx_congr (fun A _ => ?_), mx_congr (fun A _ => ?_)⟩)
      · rw [V_congr (pa_congr h)]
      · rw [V_congr (pa_congr h)]
/-- a part by a question that parts is smaller -/
theorem pa_small {v : Vt} {k : Nat} {Q : Nat → Bool} (h : 2 ≤ np v k Q) (A : Nat) : cnt (pa v k Q A) + 1 ≤ cnt Q := by
  have hex : ∃ y, y < 16 ∧ Q y = true ∧ an v k y ≠ A := by
    refine Classical.byContradiction (fun hno => ?_)
    have hall : ∀ y, y < 16 → Q y = true → an v k y = A := fun y hy hq => Classical.byContradiction (fun e => hno ⟨y, hy, hq, e⟩)
    have h1 : np v k Q ≤ fb_ct (fun B => decide (B = A)) 16 := fb_ct_sub (fun B hB hc => by
      rw [decide_eq_true_eq] at hc ⊢
      obtain ⟨y, hy, hy2⟩ := fb_ct_pos.mp (Nat.pos_of_ne_zero hc)
      unfold pa at hy2
      rw [Bool.and_eq_true, decide_eq_true_eq] at hy2
      rw [← hy2.2, hall y hy hy2.1])
    have h2 : fb_ct (fun B => decide (B = A)) 16 ≤ 1 := by
      by_cases hA : A < 16
      · have := fb_ct_upd (fun _ => false) true hA
        simp only [Bool.false_eq_true, if_false, if_true, Nat.add_zero] at this
        rw [show fb_ct (fun _ => false) 16 = 0 from fb_ct_zero.mpr (fun _ _ => rfl)] at this
        rw [fb_ct_cong (q := fun B => if B = A then true else false) (fun B _ => by by_cases e : B = A <;> simp [e]), this]
        exact Nat.le_refl _
      · rw [fb_ct_zero.mpr (fun B hB => by simp; omega)]
        omega
    omega
  obtain ⟨y, hy, hq, hA⟩ := hex
  have h1 := fb_ct_upd (pa v k Q A) true hy
  have h2 : pa v k Q A y = false := by unfold pa; simp [hA]
  rw [h2] at h1
  simp only [Bool.false_eq_true, if_false, if_true, Nat.add_zero] at h1
  unfold cnt
  rw [← h1]
  exact fb_ct_sub (fun z hz hz2 => by
    by_cases e : z = y
    · rw [e]; exact hq
    · rw [if_neg e] at hz2
      unfold pa at hz2
      rw [Bool.and_eq_true] at hz2
      exact hz2.1)
theorem V_fuel {v : Vt} : ∀ {d d' : Nat} {Q : Nat → Bool}, cnt Q < d → cnt Q < d' → V v d Q = V v d' Q
  | 0, _, _, h, _ => by omega
  | _ + 1, 0, _, _, h => by omega
  | d + 1, d' + 1, Q, h, h' => by
    rw [V, V]
    split
    · rfl
    · refine sqf_congr (fun _ _ => rfl) (fun k _ hp => ⟨mx_congr (fun A _ => ?_), mx_congr (fun A _ => ?_)⟩)
      · rw [V_fuel (d := d) (d' := d') (by have := pa_small hp A; omega) (by have := pa_small hp A; omega)]
      · rw [V_fuel (d := d) (d' := d') (by have := pa_small hp A; omega) (by have := pa_small hp A; omega)]
theorem sqf_cases (v : Vt) (Q : Nat → Bool) (W E : Nat → Nat) : ∀ n, sqf v Q W E n = (1048576, -1, 0) ∨ ∃ k, k < n ∧ 2 ≤ np v k Q ∧ W k < 1048576 ∧ sqf v Q W E n = (W k + v 4 k, nI k, 1 + E k)
  | 0 => Or.inl rfl
  | n + 1 => by
    rw [sqf]
    by_cases h : 2 ≤ np v n Q ∧ W n < 1048576 ∧ W n + v 4 n < (sqf v Q W E n).1
    · rw [if_pos h]
      exact Or.inr ⟨n, by omega, h.1, h.2.1, rfl⟩
    · rw [if_neg h]
      rcases sqf_cases v Q W E n with e | ⟨k, h1, h2, h3, e⟩
      · exact Or.inl e
      · exact Or.inr ⟨k, by omega, h2, h3, e⟩
theorem V_bound {v : Vt} (R : Rg v) : ∀ {d : Nat} {Q : Nat → Bool}, cnt Q < d → ((V v d Q).1 ≤ 99 * cnt Q ∨ (V v d Q).1 = 1048576) ∧ (V v d Q).2.2 ≤ cnt Q
  | 0, _, h => by omega
  | d + 1, Q, h => by
    rw [V]
    by_cases hc : cnt Q ≤ 1
    · rw [if_pos hc]
      exact ⟨Or.inl (Nat.zero_le _), Nat.zero_le _⟩
    · rw [if_neg hc]
      rcases sqf_cases v Q (fun k => mx (fun A => (V v d (pa v k Q A)).1) 10) (fun k => mx (fun A => (V v d (pa v k Q A)).2.2) 10) (v 0 1) with e | ⟨k, h1, h2, h3, e⟩
      · rw [e]
        exact ⟨Or.inr rfl, Nat.zero_le _⟩
      · rw [e]
        have hp := (R.2.2.2.2.1 k h1).2.2
        have hW : mx (fun A => (V v d (pa v k Q A)).1) 10 ≤ 99 * (cnt Q - 1) := mx_le (fun A hA => by
          have hs := pa_small h2 A
          have hle := le_mx (fun A => (V v d (pa v k Q A)).1) hA
          rcases (V_bound R (d := d) (Q := pa v k Q A) (by omega)).1 with b | b
          · omega
          · rw [b] at hle; omega)
        have hE : mx (fun A => (V v d (pa v k Q A)).2.2) 10 ≤ cnt Q - 1 := mx_le (fun A hA => by
          have hs := pa_small h2 A
          have := (V_bound R (d := d) (Q := pa v k Q A) (by omega)).2
          omega)
        dsimp only
        exact ⟨Or.inl (by omega), by omega⟩
/-- the value, with fuel that is enough -/
def U (v : Vt) (Q : Nat → Bool) : Nat × Int32 × Nat := V v 17 Q
theorem U_congr {v : Vt} {Q Q' : Nat → Bool} (h : ∀ y, y < 16 → Q y = Q' y) : U v Q = U v Q' := V_congr h
def Wq (v : Vt) (Q : Nat → Bool) (k : Nat) : Nat := mx (fun A => (U v (pa v k Q A)).1) 10
def Eq' (v : Vt) (Q : Nat → Bool) (k : Nat) : Nat := mx (fun A => (U v (pa v k Q A)).2.2) 10
theorem U_one {v : Vt} {Q : Nat → Bool} (h : cnt Q ≤ 1) : U v Q = (0, -1, 0) := by unfold U; rw [V, if_pos h]
theorem U_two {v : Vt} {Q : Nat → Bool} (h : ¬ cnt Q ≤ 1) : U v Q = sqf v Q (Wq v Q) (Eq' v Q) (v 0 1) := by
  have h16 := cnt_le Q
  unfold U
  rw [V, if_neg h]
  refine sqf_congr (fun _ _ => rfl) (fun k _ hp => ⟨mx_congr (fun A _ => ?_), mx_congr (fun A _ => ?_)⟩)
  · unfold U; rw [V_fuel (d := 16) (d' := 17) (by have := pa_small hp A; omega) (by have := pa_small hp A; omega)]
  · unfold U; rw [V_fuel (d := 16) (d' := 17) (by have := pa_small hp A; omega) (by have := pa_small hp A; omega)]
theorem U_bound {v : Vt} (R : Rg v) (Q : Nat → Bool) : ((U v Q).1 ≤ 1584 ∨ (U v Q).1 = 1048576) ∧ (U v Q).2.2 ≤ 16 := by
  have h16 := cnt_le Q
  have := V_bound R (d := 17) (Q := Q) (by omega)
  unfold U
  omega
theorem Wq_bound {v : Vt} (R : Rg v) (Q : Nat → Bool) (k : Nat) : Wq v Q k ≤ 1048576 := mx_le (fun A _ => by have := (U_bound R (pa v k Q A)).1; omega)
theorem Wq_low {v : Vt} (R : Rg v) {Q : Nat → Bool} {k : Nat} (h : Wq v Q k < 1048576) : Wq v Q k ≤ 1584 := mx_le (fun A hA => by
  have h1 := (U_bound R (pa v k Q A)).1
  have h2 : (U v (pa v k Q A)).1 ≤ Wq v Q k := le_mx (fun A => (U v (pa v k Q A)).1) hA
  omega)
theorem Eq_bound {v : Vt} (R : Rg v) (Q : Nat → Bool) (k : Nat) : Eq' v Q k ≤ 16 := mx_le (fun A _ => (U_bound R (pa v k Q A)).2)
theorem sq_bound {v : Vt} (R : Rg v) {Q : Nat → Bool} {n : Nat} (hn : n ≤ v 0 1) : (sqf v Q (Wq v Q) (Eq' v Q) n = (1048576, -1, 0)) ∨ ((sqf v Q (Wq v Q) (Eq' v Q) n).1 ≤ 1683 ∧ (∃ k, k < n ∧ (sqf v Q (Wq v Q) (Eq' v Q) n).2.1 = nI k ∧ (sqf v Q (Wq v Q) (Eq' v Q) n).2.2 = 1 + Eq' v Q k ∧ 2 ≤ np v k Q ∧ Wq v Q k < 1048576) ∧ (sqf v Q (Wq v Q) (Eq' v Q) n).2.2 ≤ 17) := by
  rcases sqf_cases v Q (Wq v Q) (Eq' v Q) n with e | ⟨k, h1, h2, h3, e⟩
  · exact Or.inl e
  · have hp := (R.2.2.2.2.1 k (by omega)).2.2
    have h4 := Wq_low R h3
    have h5 := Eq_bound R Q k
    rw [e]
    exact Or.inr ⟨by dsimp only; omega, ⟨k, h1, rfl, rfl, h2, h3⟩, by dsimp only; omega⟩
/-- as the class writes them -/
def eL (v : Vt) (Q : Nat → Bool) : Int32 := if (U v Q).1 = 1048576 then -1 else nI (U v Q).1
def eD (v : Vt) (Q : Nat → Bool) : Int32 := if (U v Q).1 = 1048576 then -1 else nI (U v Q).2.2

/-! sets as predicates on the bits below 16; evaluation of partial functions -/
def mk (P : Nat → Bool) : Nat → Nat
  | 0 => 0
  | n + 1 => 2 ^ n * (P n).toNat + mk P n
theorem mk_lt (P : Nat → Bool) : ∀ n, mk P n < 2 ^ n
  | 0 => by simp [mk]
  | n + 1 => by
    have h := mk_lt P n
    have h2 : (P n).toNat ≤ 1 := by cases P n <;> simp
    have h3 : 2 ^ n * (P n).toNat ≤ 2 ^ n * 1 := Nat.mul_le_mul_left _ h2
    rw [mk, Nat.pow_succ]
    omega
theorem mk_bit (P : Nat → Bool) : ∀ (n i : Nat), (mk P n).testBit i = (decide (i < n) && P i)
  | 0, i => by simp [mk]
  | n + 1, i => by
    rw [mk, Nat.testBit_two_pow_mul_add _ (mk_lt P n)]
    by_cases h : i < n
    · rw [if_pos h, mk_bit P n i]
      simp [h, Nat.lt_succ_of_lt h]
    · rw [if_neg h]
      by_cases h2 : i = n
      · subst h2
        cases P i <;> simp
      · have h3 : ¬ i < n + 1 := by omega
        have h4 : i - n ≠ 0 := by omega
        cases P n with
        | false => simp [h3]
        | true =>
          simp only [h3, decide_false, Bool.false_and]
          rw [show (true : Bool).toNat = 1 from rfl, Bool.eq_false_iff.mpr (fun e => h4 (Nat.testBit_one_eq_true_iff_self_eq_zero.mp e))]
def bs (P : Nat → Bool) : Int32 := nI (mk P 16)
theorem bt_nI (m i : Nat) (hi : i < 32) : bt (nI m) i = m.testBit i := by
  show (BitVec.ofNat 32 m).getLsbD i = _
  rw [BitVec.getLsbD_ofNat]
  simp [hi]
theorem bt_bs (P : Nat → Bool) (i : Nat) : bt (bs P) i = (decide (i < 16) && P i) := by
  by_cases hi : i < 32
  · unfold bs
    rw [bt_nI _ _ hi, mk_bit]
  · rw [b_big (by omega)]
    simp [show ¬ i < 16 by omega]
theorem bs_congr {P Q : Nat → Bool} (h : ∀ i, i < 16 → P i = Q i) : bs P = bs Q := by
  apply b_ext
  intro i _
  rw [bt_bs, bt_bs]
  by_cases hi : i < 16
  · simp [h i hi]
  · simp [hi]
theorem bs_inj {P Q : Nat → Bool} : bs P = bs Q ↔ ∀ i, i < 16 → P i = Q i := by
  refine ⟨fun h i hi => ?_, bs_congr⟩
  have := congrArg (fun x => bt x i) h
  simpa [bt_bs, hi] using this
theorem bs_and (P Q : Nat → Bool) : bs P &&& bs Q = bs (fun i => P i && Q i) := by
  apply b_ext
  intro i _
  rw [b_and, bt_bs, bt_bs, bt_bs]
  cases decide (i < 16) <;> simp
theorem bs_or (P Q : Nat → Bool) : bs P ||| bs Q = bs (fun i => P i || Q i) := by
  apply b_ext
  intro i _
  rw [b_or, bt_bs, bt_bs, bt_bs]
  cases decide (i < 16) <;> simp
theorem bs_xor (P Q : Nat → Bool) : bs P ^^^ bs Q = bs (fun i => P i ^^ Q i) := by
  apply b_ext
  intro i _
  rw [b_xor, bt_bs, bt_bs, bt_bs]
  cases decide (i < 16) <;> simp
theorem bs_dif (P Q : Nat → Bool) : bs P &&& (bs Q ^^^ (-1)) = bs (fun i => P i && !Q i) := by
  apply b_ext
  intro i hi
  rw [b_and, b_xor, b_m1 i hi, bt_bs, bt_bs, bt_bs]
  cases decide (i < 16) <;> simp
theorem bs_none : bs (fun _ => false) = 0 := by decide +kernel
theorem bs_eq0 {P : Nat → Bool} : bs P = 0 ↔ ∀ i, i < 16 → P i = false := by rw [← bs_none]; exact bs_inj
theorem bs_one {x : Nat} (hx : x < 16) : shl32 1 (nI x) = bs (fun i => decide (i = x)) := by
  exact (by decide +kernel : ∀ x, x < 16 → shl32 1 (nI x) = bs (fun i => decide (i = x))) x hx
theorem bs_add (P : Nat → Bool) {x : Nat} (hx : x < 16) : bs P ||| shl32 1 (nI x) = bs (fun i => P i || decide (i = x)) := by rw [bs_one hx, bs_or]
theorem bs_full {n : Nat} (hn : n ≤ 16) : shl32 1 (nI n) - 1 = bs (fun i => decide (i < n)) := by
  exact (by decide +kernel : ∀ n, n ≤ 16 → shl32 1 (nI n) - 1 = bs (fun i => decide (i < n))) n hn
theorem bs_pow {n : Nat} (hn : n ≤ 16) : shl32 1 (nI n) = nI (2 ^ n) := by
  exact (by decide +kernel : ∀ n, n ≤ 16 → shl32 1 (nI n) = nI (2 ^ n)) n hn
theorem bt_one (i : Nat) (hi : i < 32) : bt 1 i = decide (i = 0) := (by decide +kernel : ∀ i, i < 32 → bt 1 i = decide (i = 0)) i hi
theorem bs_has (P : Nat → Bool) {x : Nat} (hx : x < 16) : shr32 (bs P) (nI x) &&& 1 = if P x = true then 1 else 0 := by
  apply b_ext
  intro i hi
  unfold shr32
  rw [b_and, b_sshr x (by omega) _ hi, bt_one i hi, bt_bs, bt_bs]
  by_cases h0 : i = 0
  · subst h0
    have : x + 0 < 32 := by omega
    cases h : P x <;> simp [this, hx, h, b_0, bt_one, show x < 32 by omega]
  · cases h : P x <;> simp [h0, b_0, bt_one i hi]
theorem bs_hasT {P : Nat → Bool} {x : Nat} (hx : x < 16) : shr32 (bs P) (nI x) &&& 1 = 1 ↔ P x = true := by
  rw [bs_has P hx]
  cases P x <;> simp
/-- evaluation with a postcondition -/
def Ev {α : Type} (o : Option α) (Q : α → Prop) : Prop := ∃ r, o = some r ∧ Q r
theorem Ev.some {α : Type} {r : α} {Q : α → Prop} (h : Q r) : Ev (some r) Q := ⟨r, rfl, h⟩
theorem Ev.bind {α β : Type} {o : Option α} {f : α → Option β} {P : α → Prop} {Q : β → Prop} (h : Ev o P) (hf : ∀ r, P r → Ev (f r) Q) : Ev (o.bind f) Q := by
  obtain ⟨r, rfl, hp⟩ := h
  exact hf r hp
theorem Ev.eqb {α β : Type} {o : Option α} {f : α → Option β} {r : α} {Q : β → Prop} (h : o = .some r) (hf : Ev (f r) Q) : Ev (o.bind f) Q := by rw [h]; exact hf
theorem Ev.gd {α : Type} {c : Prop} [Decidable c] {f : Option α} {Q : α → Prop} (hc : c) (h : Ev f Q) : Ev (gd c f) Q := by
  unfold Jvm.Pilot.CQuestionFairLaw_law_r7216_cf1c65.gd
  rw [if_pos hc]; exact h
theorem Ev.t {α : Type} {c : Prop} [Decidable c] {a b : Option α} {Q : α → Prop} (hc : c) (h : Ev a Q) : Ev (if c then a else b) Q := by rw [if_pos hc]; exact h
theorem Ev.f {α : Type} {c : Prop} [Decidable c] {a b : Option α} {Q : α → Prop} (hc : ¬ c) (h : Ev b Q) : Ev (if c then a else b) Q := by rw [if_neg hc]; exact h
theorem Ev.mono {α : Type} {o : Option α} {P Q : α → Prop} (h : Ev o P) (hPQ : ∀ r, P r → Q r) : Ev o Q := by
  obtain ⟨r, e, hp⟩ := h
  exact ⟨r, e, hPQ r hp⟩
theorem gd_t {α : Type} {c : Prop} [Decidable c] (hc : c) (f : Option α) : gd c f = f := if_pos hc
theorem lpf_succ {σ ρ : Type} (body : σ → Option (σ ⊕ ρ)) (n : Nat) (s : σ) : lpf body (n + 1) s = (body s).bind (fun z => Sum.elim (fun s' => lpf body n s') some z) := rfl
/-- a loop whose states are known -/
theorem lpf_seqN {σ ρ : Type} {body : σ → Option (σ ⊕ ρ)} (g : Nat → σ) (N : Nat) (r : ρ) (hs : ∀ i, i < N → body (g i) = some (.inl (g (i + 1)))) (he : body (g N) = some (.inr r)) : ∀ (k F : Nat), k ≤ N → N - k < F → lpf body F (g k) = some r := by
  intro k F
  induction F generalizing k with
  | zero => intro _ h; omega
  | succ F ih =>
    intro hk hF
    rw [lpf_succ]
    by_cases hkN : k = N
    · subst hkN
      rw [he]; rfl
    · rw [hs k (by omega)]
      show lpf body F (g (k + 1)) = some r
      exact ih (k + 1) (by omega) (by omega)
theorem lpf_seq {σ ρ : Type} {body : σ → Option (σ ⊕ ρ)} (g : Nat → σ) (N : Nat) (r : ρ) (hN : N < 100000) (hs : ∀ i, i < N → body (g i) = some (.inl (g (i + 1)))) (he : body (g N) = some (.inr r)) : lpf body FU (g 0) = some r := lpf_seqN g N r hs he 0 FU (Nat.zero_le _) (by unfold FU; omega)
/-- a loop by an invariant that counts up -/
theorem lpf_invN {σ ρ : Type} {body : σ → Option (σ ⊕ ρ)} (I : Nat → σ → Prop) (Q : ρ → Prop) (N : Nat) (hs : ∀ i s, i < N → I i s → (∃ s', body s = some (.inl s') ∧ I (i + 1) s') ∨ (∃ r, body s = some (.inr r) ∧ Q r)) (he : ∀ s, I N s → ∃ r, body s = some (.inr r) ∧ Q r) : ∀ (F k : Nat) (s : σ), k ≤ N → N - k < F → I k s → Ev (lpf body F s) Q := by
  intro F
  induction F with
  | zero => intro k s _ h; omega
  | succ F ih =>
    intro k s hk hF hI
    by_cases hkN : k = N
    · subst hkN
      obtain ⟨r, e1, e2⟩ := he s hI
      exact ⟨r, by rw [lpf_succ, e1]; rfl, e2⟩
    · rcases hs k s (by omega) hI with ⟨s', e1, e2⟩ | ⟨r, e1, e2⟩
      · obtain ⟨r, q1, q2⟩ := ih (k + 1) s' (by omega) (by omega) e2
        exact ⟨r, by rw [lpf_succ, e1]; exact q1, q2⟩
      · exact ⟨r, by rw [lpf_succ, e1]; rfl, e2⟩
theorem lpf_inv {σ ρ : Type} {body : σ → Option (σ ⊕ ρ)} (I : Nat → σ → Prop) (Q : ρ → Prop) (N : Nat) (hN : N < 100000) {s : σ} (h0 : I 0 s) (hs : ∀ i s, i < N → I i s → (∃ s', body s = some (.inl s') ∧ I (i + 1) s') ∨ (∃ r, body s = some (.inr r) ∧ Q r)) (he : ∀ s, I N s → ∃ r, body s = some (.inr r) ∧ Q r) : Ev (lpf body FU s) Q := lpf_invN I Q N hs he FU 0 s (Nat.zero_le _) (by unfold FU; omega) h0
theorem inb_n {i n : Nat} (h : i < n) (hn : n < 2 ^ 31) : inb (nI i) n := by
  unfold inb
  rw [nI_toInt (by omega)]
  omega
theorem sI_at (w : WW) (k j : Nat) (x : Int32) : (sI w k j x).1 k j = x := by simp [sI]
theorem sI_ne (w : WW) {k j k' j' : Nat} (x : Int32) (h : ¬ (k' = k ∧ j' = j)) : (sI w k j x).1 k' j' = w.1 k' j' := by
  unfold sI
  exact if_neg h
theorem sI_2 (w : WW) (k j : Nat) (x : Int32) : (sI w k j x).2 = w.2 := rfl
theorem sL_1 (w : WW) (k j : Nat) (x : Int64) : (sL w k j x).1 = w.1 := rfl
theorem nI_one (n : Nat) : nI n + 1 = nI (n + 1) := nI_1 n

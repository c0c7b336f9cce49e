/-! a text is read: what it says -/
def rl (f : Nat → Bool) : List Nat → Nat
  | [] => 0
  | x :: t => if f x = true then rl f t + 1 else 0
theorem rl_spec (f : Nat → Bool) : ∀ l : List Nat, rl f l ≤ l.length ∧ (∀ i, i < rl f l → f (l.getD i 0) = true) ∧ (rl f l < l.length → f (l.getD (rl f l) 0) = false)
  | [] => ⟨Nat.le_refl _, fun i hi => by rw [rl] at hi; omega, fun h => by rw [rl] at h; exact absurd h (Nat.lt_irrefl _)⟩
  | x :: t => by
    obtain ⟨h1, h2, h3⟩ := rl_spec f t
    rw [rl, List.length_cons]
    cases hf : f x with
    | false =>
      rw [if_neg (by decide)]
      exact ⟨by omega, fun i hi => by omega, fun _ => by rw [List.getD_cons_zero]; exact hf⟩
    | true =>
      rw [if_pos rfl]
      refine ⟨by omega, fun i hi => ?_, fun h => ?_⟩
      · cases i with
        | zero => rw [List.getD_cons_zero]; exact hf
        | succ i => rw [List.getD_cons_succ]; exact h2 i (by omega)
      · rw [List.getD_cons_succ]; exact h3 (by omega)
def rn (tx : List Nat) (f : Nat → Bool) (p : Nat) : Nat := rl f (tx.drop p)
theorem getD_drop (tx : List Nat) (p i : Nat) : (tx.drop p).getD i 0 = tx.getD (p + i) 0 := by
  rw [List.getD_eq_getElem?_getD, List.getD_eq_getElem?_getD, List.getElem?_drop]
theorem rn_spec (tx : List Nat) (f : Nat → Bool) {p : Nat} (hp : p ≤ tx.length) : p + rn tx f p ≤ tx.length ∧ (∀ i, i < rn tx f p → f (tx.getD (p + i) 0) = true) ∧ (p + rn tx f p < tx.length → f (tx.getD (p + rn tx f p) 0) = false) := by
  obtain ⟨h1, h2, h3⟩ := rl_spec f (tx.drop p)
  rw [List.length_drop] at h1 h3
  unfold rn
  refine ⟨by omega, fun i hi => ?_, fun h => ?_⟩
  · rw [← getD_drop]; exact h2 i hi
  · rw [← getD_drop]; exact h3 (by omega)
def blB (x : Nat) : Bool := decide (x = 32)
def fgB (x : Nat) : Bool := decide (48 ≤ x) && decide (x ≤ 57)
def ltB (x : Nat) : Bool := decide (97 ≤ x) && decide (x ≤ 122)
theorem fgB_iff {x : Nat} : fgB x = true ↔ 48 ≤ x ∧ x ≤ 57 := by unfold fgB; rw [Bool.and_eq_true, decide_eq_true_eq, decide_eq_true_eq]
theorem ltB_iff {x : Nat} : ltB x = true ↔ 97 ≤ x ∧ x ≤ 122 := by unfold ltB; rw [Bool.and_eq_true, decide_eq_true_eq, decide_eq_true_eq]
def skp (tx : List Nat) (p : Nat) : Nat := p + rn tx blB p
theorem skp_le {tx : List Nat} {p : Nat} (h : p ≤ tx.length) : p ≤ skp tx p ∧ skp tx p ≤ tx.length := ⟨Nat.le_add_right _ _, (rn_spec tx blB h).1⟩
def nvl (tx : List Nat) (s : Nat) : Nat := if rn tx fgB s = 1 then tx.getD s 0 - 48 else 10 * (tx.getD s 0 - 48) + (tx.getD (s + 1) 0 - 48)
def okN (tx : List Nat) (s lo hi : Nat) : Bool := (decide (rn tx fgB s = 1) || decide (rn tx fgB s = 2)) && (decide (lo ≤ nvl tx s) && decide (nvl tx s ≤ hi))
theorem okN_iff {tx : List Nat} {s lo hi : Nat} : okN tx s lo hi = true ↔ (rn tx fgB s = 1 ∨ rn tx fgB s = 2) ∧ lo ≤ nvl tx s ∧ nvl tx s ≤ hi := by
  unfold okN
  simp
def okE (tx : List Nat) (s : Nat) : Bool := decide (s < tx.length) && decide (tx.getD s 0 = 59)
theorem okE_iff {tx : List Nat} {s : Nat} : okE tx s = true ↔ s < tx.length ∧ tx.getD s 0 = 59 := by
  unfold okE
  simp
def wrd : Nat → List Nat
  | 0 => [102, 97, 105, 114]
  | 1 => [99, 97, 115, 101]
  | _ => [113, 117, 101, 115, 116, 105, 111, 110]
def spl (tx : List Nat) (s k : Nat) : Bool := decide (rn tx ltB s = (wrd k).length) && allB (fun i => decide (tx.getD (s + i) 0 = (wrd k).getD i 0)) (wrd k).length
def wdS (tx : List Nat) (s : Nat) : Nat := if spl tx s 0 = true then 3 else if spl tx s 1 = true then 4 else if spl tx s 2 = true then 5 else 6
def tokS (tx : List Nat) (s : Nat) : Nat := if s < tx.length then (if fgB (tx.getD s 0) = true then (if rn tx fgB s ≤ 2 then 1 else 6) else if ltB (tx.getD s 0) = true then wdS tx s else if tx.getD s 0 = 59 then 2 else 6) else 0
def nxtS (tx : List Nat) (s : Nat) : Nat := if s < tx.length then (if fgB (tx.getD s 0) = true then s + rn tx fgB s else if ltB (tx.getD s 0) = true then s + rn tx ltB s else s + 1) else s
theorem rn_pos {tx : List Nat} {f : Nat → Bool} {s : Nat} (hs : s < tx.length) : 1 ≤ rn tx f s ↔ f (tx.getD s 0) = true := by
  obtain ⟨h1, h2, h3⟩ := rn_spec tx f (Nat.le_of_lt hs)
  constructor
  · intro h
    exact h2 0 (by omega)
  · intro h
    cases e : rn tx f s with
    | zero => rw [e] at h3; rw [Nat.add_zero] at h3; rw [h3 hs] at h; cases h
    | succ n => omega
theorem rn_end {tx : List Nat} {f : Nat → Bool} {s : Nat} (hs : ¬ s < tx.length) : rn tx f s = 0 := by
  unfold rn
  rw [List.drop_eq_nil_of_le (by omega)]
  rfl
theorem wdS_6 (tx : List Nat) (s : Nat) : 3 ≤ wdS tx s ∧ wdS tx s ≤ 6 := by
  unfold wdS
  split
  · omega
  · split
    · omega
    · split <;> omega
theorem spl_rn {tx : List Nat} {s k : Nat} (h : spl tx s k = true) : rn tx ltB s = (wrd k).length := by
  unfold spl at h
  rw [Bool.and_eq_true, decide_eq_true_eq] at h
  exact h.1
/-- a word that is one: its letters -/
theorem wdS_rn {tx : List Nat} {s : Nat} (h : wdS tx s ≠ 6) : rn tx ltB s = (if wdS tx s = 5 then 8 else 4) := by
  unfold wdS at h ⊢
  by_cases h0 : spl tx s 0 = true
  · rw [if_pos h0] at h ⊢
    rw [spl_rn h0]; rfl
  · rw [if_neg h0] at h ⊢
    by_cases h1 : spl tx s 1 = true
    · rw [if_pos h1] at h ⊢
      rw [spl_rn h1]; rfl
    · rw [if_neg h1] at h ⊢
      by_cases h2 : spl tx s 2 = true
      · rw [if_pos h2] at h ⊢
        rw [spl_rn h2]; rfl
      · rw [if_neg h2] at h; exact absurd rfl h
theorem fig_nlet {x : Nat} (h : ltB x = true) : fgB x = false := by
  rw [ltB_iff] at h
  cases e : fgB x with
  | false => rfl
  | true => rw [fgB_iff] at e; omega
/-- which token, by its kind -/
theorem tok_word {tx : List Nat} {s t : Nat} (h3 : 3 ≤ t) (h5 : t ≤ 5) : tokS tx s = t ↔ wdS tx s = t := by
  have h6 := wdS_6 tx s
  constructor
  · intro h
    unfold tokS at h
    split at h
    · split at h
      · split at h <;> omega
      · split at h
        · exact h
        · split at h <;> omega
    · omega
  · intro h
    have hr := wdS_rn (tx := tx) (s := s) (by omega)
    have hs : s < tx.length := by
      by_cases hs : s < tx.length
      · exact hs
      · rw [rn_end hs] at hr
        split at hr <;> omega
    have hl := (rn_pos (f := ltB) hs).mp (by rw [hr]; split <;> omega)
    unfold tokS
    rw [if_pos hs, if_neg (by rw [fig_nlet hl]; decide), if_pos hl]
    exact h
theorem nxt_word {tx : List Nat} {s : Nat} (h : wdS tx s ≠ 6) : nxtS tx s = s + (if wdS tx s = 5 then 8 else 4) ∧ nxtS tx s ≤ tx.length := by
  have hr := wdS_rn h
  have hs : s < tx.length := by
    by_cases hs : s < tx.length
    · exact hs
    · rw [rn_end hs] at hr
      split at hr <;> omega
  have hl := (rn_pos (f := ltB) hs).mp (by rw [hr]; split <;> omega)
  have h1 := (rn_spec tx ltB (Nat.le_of_lt hs)).1
  unfold nxtS
  rw [if_pos hs, if_neg (by rw [fig_nlet hl]; decide), if_pos hl]
  exact ⟨by rw [hr], h1⟩
theorem tok_0 {tx : List Nat} {s : Nat} : tokS tx s = 0 ↔ ¬ s < tx.length := by
  have h6 := wdS_6 tx s
  unfold tokS
  constructor
  · intro h hs
    rw [if_pos hs] at h
    split at h
    · split at h <;> omega
    · split at h
      · omega
      · split at h <;> omega
  · intro hs
    rw [if_neg hs]
theorem tok_2 {tx : List Nat} {s : Nat} : tokS tx s = 2 ↔ okE tx s = true := by
  have h6 := wdS_6 tx s
  rw [okE_iff]
  unfold tokS
  by_cases hs : s < tx.length
  · rw [if_pos hs]
    by_cases e : tx.getD s 0 = 59
    · rw [e, if_neg (by decide), if_neg (by decide), if_pos rfl]
      simp [hs]
    · constructor
      · intro h
        split at h
        · split at h <;> omega
        · split at h
          · omega
          · omega
      · intro h; exact absurd h.2 e
  · rw [if_neg hs]
    constructor
    · intro h; omega
    · intro h; exact absurd h.1 hs
theorem tok_1 {tx : List Nat} {s : Nat} : tokS tx s = 1 ↔ rn tx fgB s = 1 ∨ rn tx fgB s = 2 := by
  have h6 := wdS_6 tx s
  unfold tokS
  by_cases hs : s < tx.length
  · have hp := rn_pos (f := fgB) hs
    rw [if_pos hs]
    by_cases e : fgB (tx.getD s 0) = true
    · rw [if_pos e]
      have := hp.mpr e
      split
      · exact ⟨fun _ => by omega, fun _ => rfl⟩
      · exact ⟨fun h => by omega, fun h => by omega⟩
    · rw [if_neg e]
      have : ¬ 1 ≤ rn tx fgB s := fun q => e (hp.mp q)
      constructor
      · intro h
        split at h
        · omega
        · split at h <;> omega
      · intro h; omega
  · rw [if_neg hs, rn_end hs]
    omega
theorem nvl_le {tx : List Nat} {s : Nat} (h : rn tx fgB s = 1 ∨ rn tx fgB s = 2) : nvl tx s ≤ 99 ∧ s < tx.length ∧ s + rn tx fgB s ≤ tx.length := by
  have hs : s < tx.length := by
    by_cases hs : s < tx.length
    · exact hs
    · rw [rn_end hs] at h; omega
  obtain ⟨h1, h2, h3⟩ := rn_spec tx fgB (Nat.le_of_lt hs)
  refine ⟨?_, hs, h1⟩
  have a := fgB_iff.mp (h2 0 (by omega))
  rw [Nat.add_zero] at a
  unfold nvl
  rcases h with h | h
  · rw [if_pos h]; omega
  · have b := fgB_iff.mp (h2 1 (by omega))
    rw [if_neg (by omega)]; omega

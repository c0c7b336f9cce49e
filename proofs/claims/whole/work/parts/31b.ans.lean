/-! the answers; the state as numbers v: v 0 0 cases, v 0 1 questions, v 0 2 asked; v 1 weights, v 2 kinds, v 3 marks, v 4 pence, v 5 and v 6 asked questions and answers -/
def ans (k a x : Nat) : Nat := match k with
  | 0 => if a ≤ x then 1 else 0
  | 1 => if a ≤ x then 0 else 1
  | 2 => x % (a % 4 + 2)
  | 3 => x % (a % 4 + 2) / 2
  | 4 => x % (a % 4 + 2) + (if a ≤ x then 5 else 0)
  | _ => if x = a then 2 else if a ≤ x then 0 else 1
theorem ans_le : ∀ k, k < 6 → ∀ a, a < 16 → ∀ x, x < 16 → ans k a x < 10 := by decide +kernel
theorem ansC0 : ∀ k, k < 6 → ∀ a, a < 16 → ∀ x, x < 16 → f_X7_answerOf w00 (nI k) (nI a) (nI x) = some (nI (ans k a x)) := by decide +kernel
theorem ansM0 : ∀ k, k < 6 → ∀ a, a < 16 → ∀ x, x < 16 → f_X8_answerBy w00 (nI k) (nI a) (nI x) = some (nI (ans k a x)) := by decide +kernel
theorem ansC (w : WW) {k a x : Nat} (hk : k ≤ 5) (ha : a ≤ 15) (hx : x < 16) : f_X7_answerOf w (nI k) (nI a) (nI x) = some (nI (ans k a x)) := ansC0 k (by omega) a (by omega) x hx
theorem ansM (w : WW) {k a x : Nat} (hk : k ≤ 5) (ha : a ≤ 15) (hx : x < 16) : f_X8_answerBy w (nI k) (nI a) (nI x) = some (nI (ans k a x)) := ansM0 k (by omega) a (by omega) x hx

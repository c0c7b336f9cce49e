/-! rows of all questions, in their order -/
def rmn (Q T : Nat) : List Nat := (List.range Q).filter (fun q => !T.testBit q)
def perms (Q : Nat) : Nat → Nat → List (List Nat)
  | 0, _ => [[]]
  | n + 1, T => (rmn Q T).flatMap (fun x => (perms Q n (T ||| 2 ^ x)).map (fun p => x :: p))
def fmin (f : List Nat → Nat) : List (List Nat) → List Nat × Nat → List Nat × Nat
  | [], a => a
  | p :: t, a => fmin f t (if f p < a.2 then (p, f p) else a)
def big : List Nat × Nat := ([], 1000000)
theorem fmin_app (f : List Nat → Nat) : ∀ (l1 l2 : List (List Nat)) (a : List Nat × Nat), fmin f (l1 ++ l2) a = fmin f l2 (fmin f l1 a)
  | [], _, _ => rfl
  | p :: t, l2, a => fmin_app f t l2 _
theorem fmin_le (f : List Nat → Nat) : ∀ (l : List (List Nat)) (a : List Nat × Nat), (fmin f l a).2 ≤ a.2
  | [], _ => Nat.le_refl _
  | p :: t, a => by
    rw [fmin]
    refine Nat.le_trans (fmin_le f t _) ?_
    by_cases h : f p < a.2
    · rw [if_pos h]; exact Nat.le_of_lt h
    · rw [if_neg h]; exact Nat.le_refl _
theorem fmin_acc (f : List Nat → Nat) : ∀ (l : List (List Nat)) (a : List Nat × Nat), a.2 ≤ 1000000 → (∀ p, p ∈ l → f p < 1000000) → fmin f l a = if (fmin f l big).2 < a.2 then fmin f l big else a
  | [], a, ha, _ => by
    rw [fmin, fmin, if_neg (show ¬ big.2 < a.2 from Nat.not_lt.mpr ha)]
  | p :: t, a, ha, hl => by
    have hp := hl p (List.mem_cons_self ..)
    have ih := fun b hb => fmin_acc f t b hb (fun q hq => hl q (List.mem_cons_of_mem _ hq))
    have hx : (if f p < big.2 then (p, f p) else big) = (p, f p) := if_pos hp
    rw [fmin, fmin, hx, ih (p, f p) (Nat.le_of_lt hp)]
    by_cases h : f p < a.2
    · rw [if_pos h, ih (p, f p) (Nat.le_of_lt hp)]
      by_cases h2 : (fmin f t big).2 < f p
      · rw [if_pos h2, if_pos (by omega)]
      · rw [if_neg h2, if_pos h]
    · rw [if_neg h, ih a ha]
      by_cases h2 : (fmin f t big).2 < f p
      · rw [if_pos h2]
      · rw [if_neg h2, if_neg (by omega), if_neg h]
theorem fmin_map {f f' : List Nat → Nat} {x c : Nat} (h : ∀ p, f' (x :: p) = c + f p) : ∀ (l : List (List Nat)) (a : List Nat × Nat), fmin f' (l.map (fun p => x :: p)) (x :: a.1, c + a.2) = (x :: (fmin f l a).1, c + (fmin f l a).2)
  | [], _ => rfl
  | p :: t, a => by
    rw [List.map_cons, fmin, fmin, h p, ← fmin_map h t]
    congr 1
    by_cases e : f p < a.2
    · rw [if_pos e, if_pos (by omega)]
    · rw [if_neg e, if_neg (by omega)]
theorem fmin_mapb {f f' : List Nat → Nat} {x c : Nat} (h : ∀ p, f' (x :: p) = c + f p) {l : List (List Nat)} (hl : l ≠ []) (hb : ∀ p, p ∈ l → c + f p < 1000000) : fmin f' (l.map (fun p => x :: p)) big = (x :: (fmin f l big).1, c + (fmin f l big).2) := by
  cases l with
  | nil => exact absurd rfl hl
  | cons p t =>
    have hp := hb p (List.mem_cons_self ..)
    rw [List.map_cons, fmin, fmin, h p, if_pos (show c + f p < big.2 from hp), if_pos (show f p < big.2 from Nat.lt_of_le_of_lt (Nat.le_add_left _ _) hp)]
    exact fmin_map h t (p, f p)
def scn (c : Nat → List Nat × Nat) (ok : Nat → Bool) : Nat → List Nat × Nat
  | 0 => big
  | k + 1 => if ok k = true ∧ (c k).2 < (scn c ok k).2 then c k else scn c ok k
theorem scn_le (c : Nat → List Nat × Nat) (ok : Nat → Bool) : ∀ k, (scn c ok k).2 ≤ 1000000
  | 0 => Nat.le_refl _
  | k + 1 => by
    rw [scn]
    have := scn_le c ok k
    by_cases h : ok k = true ∧ (c k).2 < (scn c ok k).2
    · rw [if_pos h]; omega
    · rw [if_neg h]; exact this
theorem scn_first (c : Nat → List Nat × Nat) (ok : Nat → Bool) (hb : ∀ j, ok j = true → (c j).2 < 1000000) : ∀ k, (scn c ok k = big ∧ ∀ j, j < k → ok j = false) ∨ ∃ j, j < k ∧ ok j = true ∧ scn c ok k = c j ∧ (∀ i, i < k → ok i = true → (c j).2 ≤ (c i).2) ∧ ∀ i, i < j → ok i = true → (c j).2 < (c i).2
  | 0 => Or.inl ⟨rfl, fun j hj => by omega⟩
  | k + 1 => by
    rw [scn]
    cases hk : ok k with
    | false =>
      rw [if_neg (by simp)]
      rcases scn_first c ok hb k with ⟨a, b⟩ | ⟨j, a, b, e, f, g⟩
      · refine Or.inl ⟨a, fun j hj => ?_⟩
        by_cases e : j = k
        · rw [e]; exact hk
        · exact b j (by omega)
      · refine Or.inr ⟨j, by omega, b, e, fun i hi hi2 => ?_, g⟩
        by_cases e : i = k
        · rw [e, hk] at hi2; cases hi2
        · exact f i (by omega) hi2
    | true =>
      have hck := hb k hk
      rcases scn_first c ok hb k with ⟨a, b⟩ | ⟨j, a, b, e, f, g⟩
      · rw [a, if_pos ⟨rfl, hck⟩]
        refine Or.inr ⟨k, by omega, hk, rfl, fun i hi hi2 => ?_, fun i hi hi2 => ?_⟩
        · by_cases e : i = k
          · rw [e]; exact Nat.le_refl _
          · rw [b i (by omega)] at hi2; cases hi2
        · rw [b i hi] at hi2; cases hi2
      · rw [e]
        by_cases h : (c k).2 < (c j).2
        · rw [if_pos ⟨rfl, h⟩]
          refine Or.inr ⟨k, by omega, hk, rfl, fun i hi hi2 => ?_, fun i hi hi2 => ?_⟩
          · by_cases e : i = k
            · rw [e]; exact Nat.le_refl _
            · have := f i (by omega) hi2; omega
          · have := f i hi hi2; omega
        · rw [if_neg (fun q => h q.2)]
          refine Or.inr ⟨j, by omega, b, rfl, fun i hi hi2 => ?_, g⟩
          by_cases e : i = k
          · rw [e]; omega
          · exact f i (by omega) hi2
/-- how many questions are not in T -/
def rc (Q T : Nat) : Nat := fb_ct (fun q => !T.testBit q) Q
theorem rc_more {Q T q : Nat} (hq : q < Q) (hb : T.testBit q = false) : rc Q (T ||| 2 ^ q) + 1 = rc Q T := by
  have h := fb_ct_upd (fun q => !T.testBit q) false hq
  rw [hb] at h
  simp only [Bool.not_false, if_true, Bool.false_eq_true, if_false, Nat.add_zero] at h
  unfold rc
  rw [← h]
  congr 1
  refine fb_ct_cong (fun k _ => ?_)
  rw [fb_bit_set]
  by_cases e : k = q
  · simp [e]
  · simp [e]
theorem rc_0 (Q : Nat) : rc Q 0 = Q := fb_ct_all.mpr (fun k _ => by simp)
theorem rc_pos {Q T : Nat} (h : rc Q T ≠ 0) : ∃ q, q < Q ∧ T.testBit q = false := by
  obtain ⟨q, hq, h2⟩ := fb_ct_pos.mp (Nat.pos_of_ne_zero h)
  exact ⟨q, hq, by simpa using h2⟩
theorem mem_rmn {Q T x : Nat} : x ∈ rmn Q T ↔ x < Q ∧ T.testBit x = false := by
  unfold rmn
  rw [List.mem_filter, List.mem_range]
  simp
theorem perms_mem {Q : Nat} : ∀ {n T : Nat} {p : List Nat}, p ∈ perms Q n T → p.length = n ∧ ∀ x, x ∈ p → x < Q
  | 0, T, p, h => by
    rw [perms, List.mem_singleton] at h
    subst h
    exact ⟨rfl, fun x hx => by cases hx⟩
  | n + 1, T, p, h => by
    rw [perms, List.mem_flatMap] at h
    obtain ⟨x, hx, h⟩ := h
    rw [List.mem_map] at h
    obtain ⟨p', hp', rfl⟩ := h
    obtain ⟨h1, h2⟩ := perms_mem hp'
    refine ⟨by rw [List.length_cons, h1], fun y hy => ?_⟩
    rcases List.mem_cons.mp hy with rfl | hy
    · exact (mem_rmn.mp hx).1
    · exact h2 y hy
theorem perms_ne {Q : Nat} : ∀ {n T : Nat}, rc Q T = n → perms Q n T ≠ []
  | 0, T, _ => by rw [perms]; exact List.cons_ne_nil _ _
  | n + 1, T, h => by
    obtain ⟨q, hq, hb⟩ := rc_pos (Q := Q) (T := T) (by omega)
    have h2 := rc_more hq hb
    have ih := perms_ne (Q := Q) (n := n) (T := T ||| 2 ^ q) (by omega)
    intro e
    rw [perms, List.flatMap_eq_nil_iff] at e
    have := e q (mem_rmn.mpr ⟨hq, hb⟩)
    rw [List.map_eq_nil_iff] at this
    exact ih this
/-- what a question costs when T was asked -/
def cst (v : Vt) (P : Nat → Bool) (T x : Nat) : Nat := v 4 x * wgt v (nyk v T.testBit P)
theorem cst_le {v : Vt} (R : Rg v) (P : Nat → Bool) (T : Nat) {x : Nat} (hx : x < v 0 1) : cst v P T x ≤ 14256 := Nat.mul_le_mul (R.2.2.2.2.1 _ hx).2.2 (wgt_le R _)
def payT (v : Vt) (P : Nat → Bool) : List Nat → Nat → Nat
  | [], _ => 0
  | x :: p, T => cst v P T x + payT v P p (T ||| 2 ^ x)
theorem payT_le {v : Vt} (R : Rg v) (P : Nat → Bool) : ∀ {p : List Nat} (T : Nat), (∀ x, x ∈ p → x < v 0 1) → payT v P p T ≤ 14256 * p.length
  | [], _, _ => Nat.zero_le _
  | x :: p, T, h => by
    have h1 := cst_le R P T (h x (List.mem_cons_self ..))
    have h2 := payT_le R P (p := p) (T ||| 2 ^ x) (fun y hy => h y (List.mem_cons_of_mem _ hy))
    rw [payT, List.length_cons]
    omega
/-- the least, and the first row of it -/
def DD (v : Vt) (P : Nat → Bool) : Nat → Nat → List Nat × Nat
  | 0, _ => ([], 0)
  | n + 1, T => scn (fun q => (q :: (DD v P n (T ||| 2 ^ q)).1, cst v P T q + (DD v P n (T ||| 2 ^ q)).2)) (fun q => decide (q < v 0 1) && !T.testBit q) (v 0 1)
theorem DD_perms {v : Vt} (R : Rg v) (P : Nat → Bool) : ∀ {n T : Nat}, rc (v 0 1) T = n → n ≤ 7 → fmin (fun p => payT v P p T) (perms (v 0 1) n T) big = DD v P n T
  | 0, T, _, _ => by
    rw [perms, fmin, fmin, DD, if_pos (show payT v P [] T < big.2 by show 0 < 1000000; omega)]
    rfl
  | n + 1, T, h, hn => by
    rw [perms, DD]
    have key : ∀ k, k ≤ v 0 1 → fmin (fun p => payT v P p T) (((List.range k).filter (fun q => !T.testBit q)).flatMap (fun x => (perms (v 0 1) n (T ||| 2 ^ x)).map (fun p => x :: p))) big = scn (fun q => (q :: (DD v P n (T ||| 2 ^ q)).1, cst v P T q + (DD v P n (T ||| 2 ^ q)).2)) (fun q => decide (q < v 0 1) && !T.testBit q) k := fun k => by
      induction k with
      | zero => intro _; rfl
      | succ k ih =>
        intro hk
        rw [List.range_succ, List.filter_append, List.flatMap_append, fmin_app, ih (by omega), scn]
        cases hb : T.testBit k with
        | true =>
          rw [show List.filter (fun q => !T.testBit q) [k] = [] by simp [hb], if_neg (by simp)]
          rfl
        | false =>
          have hr := rc_more (show k < v 0 1 by omega) hb
          have hc := cst_le R P T (show k < v 0 1 by omega)
          have hbd : ∀ p, p ∈ perms (v 0 1) n (T ||| 2 ^ k) → cst v P T k + payT v P p (T ||| 2 ^ k) < 1000000 := fun p hp => by
            obtain ⟨g1, g2⟩ := perms_mem hp
            have := payT_le R P (T ||| 2 ^ k) g2
            rw [g1] at this
            omega
          have hm := fmin_mapb (f := fun p => payT v P p (T ||| 2 ^ k)) (f' := fun p => payT v P p T) (x := k) (c := cst v P T k) (fun p => rfl) (perms_ne (Q := v 0 1) (n := n) (T := T ||| 2 ^ k) (by omega)) hbd
          rw [DD_perms R P (n := n) (T := T ||| 2 ^ k) (by omega) (by omega)] at hm
          rw [show List.filter (fun q => !T.testBit q) [k] = [k] by simp [hb], List.flatMap_singleton, fmin_acc _ _ _ (scn_le _ _ _) (fun p hp => ?_), hm]
          · dsimp only
            by_cases e : cst v P T k + (DD v P n (T ||| 2 ^ k)).2 < (scn (fun q => (q :: (DD v P n (T ||| 2 ^ q)).1, cst v P T q + (DD v P n (T ||| 2 ^ q)).2)) (fun q => decide (q < v 0 1) && !T.testBit q) k).2
            · rw [if_pos e, if_pos ⟨by simp; omega, e⟩]
            · rw [if_neg e, if_neg (fun q => e q.2)]
          · rw [List.mem_map] at hp
            obtain ⟨p', hp', rfl⟩ := hp
            exact hbd p' hp'
    exact key (v 0 1) (Nat.le_refl _)
theorem DD_le {v : Vt} (R : Rg v) (P : Nat → Bool) : ∀ {n T : Nat}, rc (v 0 1) T = n → n ≤ 7 → (DD v P n T).2 ≤ 14256 * n
  | 0, T, _, _ => by rw [DD]; exact Nat.zero_le _
  | n + 1, T, h, hn => by
    have hb : ∀ j, (decide (j < v 0 1) && !T.testBit j) = true → cst v P T j + (DD v P n (T ||| 2 ^ j)).2 ≤ 14256 * (n + 1) := fun j hj => by
      rw [Bool.and_eq_true, decide_eq_true_eq] at hj
      have h0 : T.testBit j = false := by simpa using hj.2
      have h1 := rc_more hj.1 h0
      have h2 := DD_le R P (n := n) (T := T ||| 2 ^ j) (by omega) (by omega)
      have h3 := cst_le R P T hj.1
      omega
    rw [DD]
    rcases scn_first (fun q => (q :: (DD v P n (T ||| 2 ^ q)).1, cst v P T q + (DD v P n (T ||| 2 ^ q)).2)) (fun q => decide (q < v 0 1) && !T.testBit q) (fun j hj => Nat.lt_of_le_of_lt (hb j hj) (by omega)) (v 0 1) with ⟨-, b⟩ | ⟨j, a, b, e, -, -⟩
    · obtain ⟨q, hq, hb0⟩ := rc_pos (Q := v 0 1) (T := T) (by omega)
      have := b q hq
      simp [hq, hb0] at this
    · rw [e]
      exact hb j b
/-- the head of the first row -/
theorem DD_first {v : Vt} (R : Rg v) (P : Nat → Bool) {n T : Nat} (h : rc (v 0 1) T = n + 1) (hn : n < 7) : ∃ j, j < v 0 1 ∧ T.testBit j = false ∧ DD v P (n + 1) T = (j :: (DD v P n (T ||| 2 ^ j)).1, cst v P T j + (DD v P n (T ||| 2 ^ j)).2) ∧ ∀ i, i < j → T.testBit i = false → cst v P T j + (DD v P n (T ||| 2 ^ j)).2 < cst v P T i + (DD v P n (T ||| 2 ^ i)).2 := by
  have hb : ∀ j, (decide (j < v 0 1) && !T.testBit j) = true → cst v P T j + (DD v P n (T ||| 2 ^ j)).2 < 1000000 := fun j hj => by
    rw [Bool.and_eq_true, decide_eq_true_eq] at hj
    have h0 : T.testBit j = false := by simpa using hj.2
    have h1 := rc_more hj.1 h0
    have h2 := DD_le R P (n := n) (T := T ||| 2 ^ j) (by omega) (by omega)
    have h3 := cst_le R P T hj.1
    omega
  rcases scn_first (fun q => (q :: (DD v P n (T ||| 2 ^ q)).1, cst v P T q + (DD v P n (T ||| 2 ^ q)).2)) (fun q => decide (q < v 0 1) && !T.testBit q) hb (v 0 1) with ⟨-, b⟩ | ⟨j, a, b, e, -, g⟩
  · obtain ⟨q, hq, hb0⟩ := rc_pos (Q := v 0 1) (T := T) (by omega)
    have := b q hq
    simp [hq, hb0] at this
  · rw [Bool.and_eq_true, decide_eq_true_eq] at b
    refine ⟨j, a, by simpa using b.2, by rw [DD]; exact e, fun i hi hi2 => ?_⟩
    have := g i hi (by rw [hi2]; simp; omega)
    exact this

/-! the next row in the machine; the loop over all rows -/
theorem fk_le (L : Nat → Nat) : ∀ m, fk L m ≤ m
  | 0 => Nat.le_refl _
  | m + 1 => by
    rw [fk]
    have := fk_le L m
    cases Nat.ble (L m) (L (m + 1))
    · rw [cond_false]; omega
    · rw [cond_true]; exact Nat.le_refl _
theorem fk_up (L : Nat → Nat) : ∀ m, 1 ≤ fk L m → L (fk L m - 1) ≤ L (fk L m)
  | 0, h => by rw [fk] at h; omega
  | m + 1, h => by
    rw [fk] at h ⊢
    cases e : Nat.ble (L m) (L (m + 1)) with
    | true => rw [cond_true]; exact Nat.le_of_ble_eq_true e
    | false => rw [e, cond_false] at h; rw [cond_false]; exact fk_up L m h
theorem kLoop {w : WW} {L : Nat → Nat} {n : Nat} (hn : n ≤ 7) (h62 : ∀ k, k < n → w.1 62 k = nI (L k)) (hL : ∀ k, k < n → L k < 100) : ∀ (m F : Nat), m < F → m < n → lpf (fun s : Int32 => f_X8_nextLine_b7 w s) F (nI m - 1) = some (nI (fk L m) - 1)
  | _, 0, h, _ => by omega
  | 0, F + 1, _, _ => by
    rw [lpf_succ]
    unfold f_X8_nextLine_b7
    rw [if_pos (by decide)]
    rfl
  | m + 1, F + 1, hF, hm => by
    have h1 := hL m (by omega)
    have h2 := hL (m + 1) hm
    rw [lpf_succ]
    unfold f_X8_nextLine_b7
    rw [nI_pred, if_neg (nI_pos (by omega)), nI_1, gd_t (inb_n (by omega) (by omega)), gd_t (inb_n (by omega) (by omega)), cl_n (by omega), cl_n (by omega), h62 m (by omega), h62 (m + 1) hm, fk]
    by_cases h : L m ≤ L (m + 1)
    · rw [if_pos (nI_le h (by omega)), Nat.ble_eq_true_of_le h, cond_true, nI_pred]
      rfl
    · have e : Nat.ble (L m) (L (m + 1)) = false := by
        cases q : Nat.ble (L m) (L (m + 1)) with
        | false => rfl
        | true => exact absurd (Nat.le_of_ble_eq_true q) h
      rw [if_neg (nI_ge (by omega) (by omega)), e, cond_false, sub1]
      exact kLoop hn h62 hL m F (by omega) (by omega)
theorem jLoop {w : WW} {L : Nat → Nat} {n k0 : Nat} (hn : n ≤ 7) (h62 : ∀ k, k < n → w.1 62 k = nI (L k)) (hL : ∀ k, k < n → L k < 100) (hk : k0 < n) : ∀ (j F : Nat), j < F → j < n → (∃ i, 1 ≤ i ∧ i ≤ j ∧ L k0 ≤ L i) → lpf (fun s : Int32 => f_X8_nextLine_b47 w (nI k0) s) F (nI j) = some (nI (fj L (L k0) j))
  | _, 0, h, _, _ => by omega
  | 0, F + 1, _, _, hex => by
    obtain ⟨i, h1, h2, -⟩ := hex
    omega
  | j + 1, F + 1, hF, hj, hex => by
    have h1 := hL k0 hk
    have h2 := hL (j + 1) hj
    have hb : f_X8_nextLine_b47 w (nI k0) (nI (j + 1)) = if L k0 ≤ L (j + 1) then some (.inr (nI (j + 1))) else some (.inl (nI j)) := by
      unfold f_X8_nextLine_b47
      rw [gd_t (inb_n (by omega) (by omega)), gd_t (inb_n (by omega) (by omega)), cl_n (by omega), cl_n (by omega), h62 k0 hk, h62 (j + 1) hj]
      by_cases h : L k0 ≤ L (j + 1)
      · rw [if_pos (nI_le h (by omega)), if_pos h]
      · rw [if_neg (nI_ge (by omega) (by omega)), if_neg h, sub1, nI_pred]
    rw [lpf_succ]
    show (f_X8_nextLine_b47 w (nI k0) (nI (j + 1))).bind _ = _
    rw [hb, fj]
    by_cases h : L k0 ≤ L (j + 1)
    · rw [if_pos h, Nat.ble_eq_true_of_le h, cond_true]
      rfl
    · have e : Nat.ble (L k0) (L (j + 1)) = false := by
        cases q : Nat.ble (L k0) (L (j + 1)) with
        | false => rfl
        | true => exact absurd (Nat.le_of_ble_eq_true q) h
      rw [if_neg h, e, cond_false]
      obtain ⟨i, i1, i2, i3⟩ := hex
      refine jLoop hn h62 hL hk j F (by omega) (by omega) ⟨i, i1, ?_, i3⟩
      by_cases q : i = j + 1
      · rw [q] at i3; exact absurd i3 h
      · omega
theorem fj_le (L : Nat → Nat) (c : Nat) : ∀ j, fj L c j ≤ j
  | 0 => Nat.le_refl _
  | j + 1 => by
    rw [fj]
    have := fj_le L c j
    cases Nat.ble c (L (j + 1))
    · rw [cond_false]; omega
    · rw [cond_true]; exact Nat.le_refl _
theorem rLoop {w : WW} {S : Nat → Nat} {n m : Nat} (hn : n ≤ 7) (hm : m < n) (h62 : ∀ k, k < n → w.1 62 k = nI (S k)) : Ev (lpf (fun s : Int32 × Int32 × WW => f_X8_nextLine_b107 s.1 s.2.1 s.2.2) FU (nI m, nI (n - 1), w)) (fun u => (∀ k j, k ≠ 62 → u.1 k j = w.1 k j) ∧ u.2 = w.2 ∧ ∀ i, i < n → u.1 62 i = nI (if m ≤ i ∧ i ≤ n - 1 then S (m + (n - 1) - i) else S i)) := by
  refine lpf_inv (fun t s => s.1 = nI (m + t) ∧ s.2.1 = nI (n - 1 - t) ∧ (∀ k j, k ≠ 62 → s.2.2.1 k j = w.1 k j) ∧ s.2.2.2 = w.2 ∧ ∀ i, i < n → s.2.2.1 62 i = nI (if (m ≤ i ∧ i < m + t) ∨ (n - 1 < i + t ∧ i ≤ n - 1) then S (m + (n - 1) - i) else S i)) _ ((n - m) / 2) (by omega) ⟨rfl, rfl, fun _ _ _ => rfl, rfl, fun i hi => by rw [if_neg (by omega)]; exact h62 i hi⟩ (fun t s ht hI => Or.inl ?_) (fun s hI => ?_)
  · obtain ⟨a, b, u⟩ := s
    obtain ⟨rfl, rfl, i1, i2, i3⟩ := hI
    dsimp only at i1 i2 i3
    have ea := i3 (m + t) (by omega)
    have eb := i3 (n - 1 - t) (by omega)
    rw [if_neg (by omega)] at ea eb
    refine ⟨(nI (m + (t + 1)), nI (n - 1 - (t + 1)), sI (sI u 62 (m + t) (nI (S (n - 1 - t)))) 62 (n - 1 - t) (nI (S (m + t)))), ?_, rfl, rfl, fun k j hk => ?_, i2, fun i hi => ?_⟩
    · simp only [f_X8_nextLine_b107, stI, nmv]
      rw [if_neg (nI_ge (by omega) (by omega)), gd_t (inb_n (by omega) (by omega)), gd_t (inb_n (by omega) (by omega)), gd_t (inb_n (by omega) (by omega)), gd_t (inb_n (by omega) (by omega)), cl_n (by omega), cl_n (by omega), ea, eb, nI_1, sub1, show n - 1 - t = n - 1 - (t + 1) + 1 by omega, nI_pred]
      rfl
    · dsimp only
      rw [sI_ne _ _ (by omega), sI_ne _ _ (by omega)]
      exact i1 k j hk
    · dsimp only
      by_cases e1 : i = n - 1 - t
      · subst e1
        rw [sI_at, if_pos (by omega), show m + (n - 1) - (n - 1 - t) = m + t by omega]
      · rw [sI_ne _ _ (by omega)]
        by_cases e2 : i = m + t
        · subst e2
          rw [sI_at, if_pos (by omega), show m + (n - 1) - (m + t) = n - 1 - t by omega]
        · rw [sI_ne _ _ (by omega), i3 i hi]
          by_cases c : (m ≤ i ∧ i < m + t) ∨ (n - 1 < i + t ∧ i ≤ n - 1)
          · rw [if_pos c, if_pos (by omega)]
          · rw [if_neg c, if_neg (by omega)]
  · obtain ⟨a, b, u⟩ := s
    obtain ⟨rfl, rfl, i1, i2, i3⟩ := hI
    dsimp only at i1 i2 i3
    refine ⟨u, ?_, i1, i2, fun i hi => ?_⟩
    · simp only [f_X8_nextLine_b107]
      rw [if_pos (nI_le (by omega) (by omega))]
    · rw [i3 i hi]
      by_cases c : (m ≤ i ∧ i < m + (n - m) / 2) ∨ (n - 1 < i + (n - m) / 2 ∧ i ≤ n - 1)
      · rw [if_pos c, if_pos (by omega)]
      · rw [if_neg c]
        by_cases d : m ≤ i ∧ i ≤ n - 1
        · rw [if_pos d, show m + (n - 1) - i = i by omega]
        · rw [if_neg d]
/-- a world that holds a row -/
def HL (w0 w : WW) (n : Nat) (L : Nat → Nat) : Prop := Lin w0 w n ∧ ∀ k, k < n → w.1 62 k = nI (L k)
theorem next_no {w0 w : WW} {L : Nat → Nat} {n : Nat} (hn : n ≤ 7) (H : HL w0 w n L) (hL : ∀ k, k < n → L k < 100) (h : fk L (n - 1) = 0) : f_X8_nextLine w = some (0, w) := by
  simp only [f_X8_nextLine, nmv]
  rw [H.1.2.2]
  by_cases h0 : n = 0
  · subst h0
    rw [lpf_seq (body := fun s : Int32 => f_X8_nextLine_b7 w s) (fun _ => nI 0 - 2) 0 (nI 0 - 2) (by omega) (fun i hi => by omega) (by unfold f_X8_nextLine_b7; rw [if_pos (by decide)]), Option.bind_some, if_neg (by decide)]
  · have e2 : nI n - 2 = nI (n - 1) - 1 := by
      obtain ⟨m, rfl⟩ : ∃ m, n = m + 1 := ⟨n - 1, by omega⟩
      show nI (m + 1) - 2 = nI m - 1
      rw [← nI_1, Int32.sub_eq_add_neg, Int32.add_assoc, show (1 : Int32) + -2 = -1 by decide, sub1]
    rw [e2, kLoop hn H.2 hL (n - 1) FU (by unfold FU; omega) (by omega), Option.bind_some, h, if_neg (by decide)]
theorem next_yes {w0 w : WW} {L : Nat → Nat} {n : Nat} (hn : n ≤ 7) (H : HL w0 w n L) (hL : ∀ k, k < n → L k < 100) (h : 1 ≤ fk L (n - 1)) (hj : fk L (n - 1) ≤ fj L (L (fk L (n - 1) - 1)) (n - 1)) : ∃ u, f_X8_nextLine w = some (1, u) ∧ HL w0 u n (nxL L (fk L (n - 1)) (fj L (L (fk L (n - 1) - 1)) (n - 1)) (n - 1)) := by
  have hm := fk_le L (n - 1)
  have hup := fk_up L (n - 1) h
  have hjl := fj_le L (L (fk L (n - 1) - 1)) (n - 1)
  have K := kLoop hn H.2 hL (n - 1) FU (by unfold FU; omega) (by omega)
  have J := jLoop hn H.2 hL (k0 := fk L (n - 1) - 1) (by omega) (n - 1) FU (by unfold FU; omega) (by omega) ⟨fk L (n - 1), h, hm, hup⟩
  generalize fj L (L (fk L (n - 1) - 1)) (n - 1) = j at J hj hjl ⊢
  generalize fk L (n - 1) = m at K J h hm hup hj ⊢
  have e2 : nI n - 2 = nI (n - 1) - 1 := by
    obtain ⟨m, rfl⟩ : ∃ m, n = m + 1 := ⟨n - 1, by omega⟩
    show nI (m + 1) - 2 = nI m - 1
    rw [← nI_1, Int32.sub_eq_add_neg, Int32.add_assoc, show (1 : Int32) + -2 = -1 by decide, sub1]
  have e1 : nI n - 1 = nI (n - 1) := pk_sub (b := 1) (by omega)
  have em : nI m - 1 = nI (m - 1) := pk_sub (b := 1) (by omega)
  have w1 := H.2 (m - 1) (by omega)
  have w2 := H.2 j (by omega)
  have hcell : ∀ i, i < n → (sI (sI w 62 (m - 1) (nI (L j))) 62 j (nI (L (m - 1)))).1 62 i = nI (sw2 L (m - 1) j i) := fun i hi => by
    unfold sw2
    by_cases a : i = j
    · subst a
      rw [sI_at, if_neg (by omega), if_pos rfl]
    · rw [sI_ne _ _ (by omega)]
      by_cases b : i = m - 1
      · subst b
        rw [sI_at, if_pos rfl]
      · rw [sI_ne _ _ (by omega), if_neg b, if_neg a]
        exact H.2 i hi
  obtain ⟨u, eu, u1, u2, u3⟩ := rLoop (w := sI (sI w 62 (m - 1) (nI (L j))) 62 j (nI (L (m - 1)))) (S := sw2 L (m - 1) j) (n := n) (m := m) hn (by omega) hcell
  refine ⟨u, ?_, ⟨⟨fun k i hk hk2 => ?_, ?_, ?_⟩, fun i hi => u3 i hi⟩⟩
  · simp only [f_X8_nextLine, stI, nmv]
    rw [H.1.2.2, e2, K, Option.bind_some, em, if_pos (nI_pos' (by omega)), e1, J, Option.bind_some, gd_t (inb_n (by omega) (by omega)), gd_t (inb_n (by omega) (by omega)), gd_t (inb_n (by omega) (by omega)), gd_t (inb_n (by omega) (by omega)), cl_n (by omega), cl_n (by omega), w1, w2, sI_ne _ _ (by omega), sI_ne _ _ (by omega), H.1.2.2, e1, nI_1, show m - 1 + 1 = m by omega, eu]
    rfl
  · rw [u1 k i hk, sI_ne _ _ (by omega), sI_ne _ _ (by omega)]
    exact H.1.1 k i hk hk2
  · exact u2.trans H.1.2.1
  · rw [u1 46 27 (by omega), sI_ne _ _ (by omega), sI_ne _ _ (by omega)]
    exact H.1.2.2
def numL (p : List Nat) : Nat := p.foldl (fun a x => 10 * a + x + 1) 0
theorem numL_snoc (p : List Nat) (x : Nat) : numL (p ++ [x]) = 10 * numL p + x + 1 := by
  unfold numL
  rw [List.foldl_append]
  rfl
theorem gl_at {p : List Nat} {k : Nat} (h : k < p.length) : gl p k = p[k] := by
  unfold gl
  rw [List.getD_eq_getElem?_getD, List.getElem?_eq_getElem h]
  rfl
theorem lineNumber_ev {w0 w : WW} {p : List Nat} (hn : p.length ≤ 7) (H : HL w0 w p.length (gl p)) : f_X8_lineNumber w = some (nI (numL p)) := by
  unfold f_X8_lineNumber
  have h := lpf_seq (body := fun s : Int32 × Int32 => f_X8_lineNumber_b4 w s.1 s.2) (fun k => (nI (numL (p.take k)), nI k)) p.length (nI (numL p)) (by omega) (fun k hk => ?_) ?_
  · rw [show ((0 : Int32), (0 : Int32)) = (nI (numL (p.take 0)), nI 0) by rw [List.take_zero]; rfl, h]; rfl
  · simp only [f_X8_lineNumber_b4, nmv, H.1.2.2]
    rw [if_neg (nI_ge hk (by omega)), gd_t (inb_n (by omega) (by omega)), cl_n (by omega), H.2 k hk, show (10 : Int32) = nI 10 from rfl, pk_mul, nI_add, nI_1, nI_1, List.take_succ, List.getElem?_eq_getElem hk, Option.toList_some, numL_snoc, gl_at hk]
  · simp only [f_X8_lineNumber_b4, H.1.2.2]
    rw [if_pos (nI_le (Nat.le_refl _) (by omega)), List.take_length]
theorem tset_cons (x : Nat) (p : List Nat) (i : Nat) : ∀ k, tset (gl (x :: p)) (1 + k) i = (decide (i = x) || tset (gl p) k i)
  | 0 => by
    rw [show 1 + 0 = 0 + 1 from rfl, tset, tset, tset]
    simp [gl]
  | k + 1 => by
    rw [show 1 + (k + 1) = (1 + k) + 1 by omega, tset, tset, tset_cons x p i k, Bool.or_assoc, show gl (x :: p) (1 + k) = gl p k by unfold gl; rw [Nat.add_comm, List.getD_cons_succ]]
theorem payT_sum (v : Vt) (P : Nat → Bool) : ∀ (p : List Nat) (T : Nat), payT v P p T = fb_sm (fun k => v 4 (gl p k) * wgt v (nyk v (fun i => T.testBit i || tset (gl p) k i) P)) p.length
  | [], T => rfl
  | x :: p, T => by
    rw [payT, payT_sum v P p (T ||| 2 ^ x), List.length_cons, Nat.add_comm p.length 1, fb_sm_split]
    congr 1
    · rw [show fb_sm (fun k => v 4 (gl (x :: p) k) * wgt v (nyk v (fun i => T.testBit i || tset (gl (x :: p)) k i) P)) 1 = v 4 x * wgt v (nyk v (fun i => T.testBit i || tset (gl (x :: p)) 0 i) P) by rw [fb_sm_succ]; simp [fb_sm, gl]]
      unfold cst
      rw [show (fun i => T.testBit i || tset (gl (x :: p)) 0 i) = T.testBit from funext fun i => by simp [tset]]
    · refine fb_sm_cong (fun k _ => ?_)
      rw [show gl (x :: p) (1 + k) = gl p k by unfold gl; rw [Nat.add_comm, List.getD_cons_succ], show (fun i => T.testBit i || tset (gl (x :: p)) (1 + k) i) = (fun i => (T ||| 2 ^ x).testBit i || tset (gl p) k i) from funext fun i => by rw [tset_cons, fb_bit_set, Bool.or_assoc]]
theorem payT_pay (v : Vt) (P : Nat → Bool) (p : List Nat) : payT v P p 0 = pay v P (gl p) p.length := by
  rw [payT_sum]
  unfold pay
  refine fb_sm_cong (fun k _ => ?_)
  rw [show (fun i => Nat.testBit 0 i || tset (gl p) k i) = tset (gl p) k from funext fun i => by simp]
/-- the loop over the rows that follow -/
theorem rowsLoop {w0 : WW} {v : Vt} (M : ∀ w n, Lin w0 w n → MSt w v) (R : Rg v) {P : Nat → Bool} (hP : ∀ x, x < 16 → P x = true → x < v 0 0) : ∀ (t : List (List Nat)) (p : List Nat) (a : List Nat × Nat) (w : WW) (F : Nat), t.length < F → chn (v 0 1) t p = true → (∀ r, r ∈ p :: t → r.length = v 0 1 ∧ ∀ x, x ∈ r → x < v 0 1) → a.2 < 2 ^ 31 → HL w0 w (v 0 1) (gl p) → Ev (lpf (fun s : Int32 × Int32 × WW => f_X8_bestRow_b56 (bs P) s.1 s.2.1 s.2.2) F (nI (numL a.1), nI a.2, w)) (fun r => r.1 = nI (numL (fmin (fun q => payT v P q 0) t a).1) ∧ r.2.1 = nI (fmin (fun q => payT v P q 0) t a).2 ∧ Lin w0 r.2.2 (v 0 1))
  | _, _, _, _, 0, h, _, _, _, _ => by omega
  | [], p, a, w, F + 1, _, hc, hr, ha, H => by
    have h7 := R.2.1
    have hp := hr p (List.mem_cons_self ..)
    have hL : ∀ k, k < v 0 1 → gl p k < 100 := fun k hk => by
      have hk2 : k < p.length := by omega
      rw [gl_at hk2]
      have := hp.2 p[k] (List.getElem_mem hk2)
      omega
    rw [chn] at hc
    rw [lpf_succ]
    unfold f_X8_bestRow_b56
    rw [next_no h7 H hL (Nat.eq_of_beq_eq_true hc), Option.bind_some, if_pos rfl]
    exact ⟨_, rfl, rfl, rfl, H.1⟩
  | p' :: t, p, a, w, F + 1, hF, hc, hr, ha, H => by
    have h7 := R.2.1
    have hp := hr p (List.mem_cons_self ..)
    have hp' := hr p' (List.mem_cons_of_mem _ (List.mem_cons_self ..))
    have hL : ∀ k, k < v 0 1 → gl p k < 100 := fun k hk => by
      have hk2 : k < p.length := by omega
      rw [gl_at hk2]
      have := hp.2 p[k] (List.getElem_mem hk2)
      omega
    rw [chn, Bool.and_eq_true] at hc
    obtain ⟨hs, hc⟩ := hc
    unfold stp at hs
    rw [Bool.and_eq_true, Bool.and_eq_true] at hs
    obtain ⟨s1, s2, s3⟩ := hs
    obtain ⟨u, eu, Hu⟩ := next_yes h7 H hL (Nat.le_of_ble_eq_true s1) (Nat.le_of_ble_eq_true s2)
    have Hu' : HL w0 u (v 0 1) (gl p') := ⟨Hu.1, fun k hk => by
      rw [Hu.2 k hk, Nat.eq_of_beq_eq_true (List.all_eq_true.mp s3 k (List.mem_range.mpr hk))]⟩
    have hq' : ∀ k, k < v 0 1 → gl p' k < v 0 1 := fun k hk => by
      have hk2 : k < p'.length := by omega
      rw [gl_at hk2]
      exact hp'.2 p'[k] (List.getElem_mem hk2)
    have hpay := paidBy_ev (M u _ Hu.1) R hP h7 hq' Hu'.1.2.2 Hu'.2
    have hpl := pay_le R P h7 hq'
    have hnum := lineNumber_ev (w0 := w0) (w := u) (p := p') (by omega) (by rw [hp'.1]; exact Hu')
    have hpt : payT v P p' 0 = pay v P (gl p') (v 0 1) := by rw [payT_pay, hp'.1]
    rw [lpf_succ]
    unfold f_X8_bestRow_b56
    rw [eu, Option.bind_some, if_neg (show ¬ (1 : Int32) = 0 by decide)]
    dsimp only
    rw [hpay, Option.bind_some, fmin, hpt]
    by_cases h : pay v P (gl p') (v 0 1) < a.2
    · rw [if_neg (nI_ge h ha), hnum, Option.bind_some]
      unfold f_X8_bestRow_j84 f_X8_bestRow_j97
      rw [if_neg (nI_ge h ha), if_pos h]
      exact rowsLoop M R hP t p' (p', pay v P (gl p') (v 0 1)) u F (by rw [List.length_cons] at hF; omega) hc (fun r hr2 => hr r (List.mem_cons_of_mem _ hr2)) (by dsimp only; omega) Hu'
    · rw [if_pos (nI_le (by omega) (by omega))]
      unfold f_X8_bestRow_j84 f_X8_bestRow_j97
      rw [if_pos (nI_le (by omega) (by omega)), if_neg h]
      exact rowsLoop M R hP t p' a u F (by rw [List.length_cons] at hF; omega) hc (fun r hr2 => hr r (List.mem_cons_of_mem _ hr2)) ha Hu'

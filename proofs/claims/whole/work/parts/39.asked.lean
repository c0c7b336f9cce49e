/-! what was asked, as a list; what may be undone -/
def setT (v : Vt) (T : List Nat) : Vt := fun t i => if t = 0 ∧ i = 2 then T.length else if t = 5 then T.getD i 0 / 16 else if t = 6 then T.getD i 0 % 16 else v t i
theorem setT_a (v : Vt) (T : List Nat) : setT v T 0 2 = T.length := by simp [setT]
theorem setT_0 (v : Vt) (T : List Nat) {i : Nat} (h : i ≠ 2) : setT v T 0 i = v 0 i := by simp [setT, h]
theorem setT_5 (v : Vt) (T : List Nat) (i : Nat) : setT v T 5 i = T.getD i 0 / 16 := by simp [setT]
theorem setT_6 (v : Vt) (T : List Nat) (i : Nat) : setT v T 6 i = T.getD i 0 % 16 := by simp [setT]
theorem setT_t (v : Vt) (T : List Nat) {t : Nat} (i : Nat) (h0 : t ≠ 0) (h5 : t ≠ 5) (h6 : t ≠ 6) : setT v T t i = v t i := by simp [setT, h0, h5, h6]
theorem cl_len (v : Vt) : (cl v).length = v 0 2 := by simp [cl]
theorem cl_get {v : Vt} {i : Nat} (h : i < v 0 2) : (cl v).getD i 0 = 16 * v 5 i + v 6 i := by simp [cl, List.getD, h]
theorem cl_set (v : Vt) (T : List Nat) : cl (setT v T) = T := by
  apply List.ext_getElem?
  intro i
  unfold cl
  rw [setT_a, List.getElem?_map]
  by_cases h : i < T.length
  · rw [List.getElem?_range h, List.getElem?_eq_getElem h]
    simp only [Option.map_some, setT_5, setT_6]
    have : T.getD i 0 = T[i] := by simp [List.getD, h]
    rw [this]
    congr 1
    omega
  · rw [List.getElem?_eq_none (by simp; omega), List.getElem?_eq_none (by omega)]
    rfl
theorem cl_mem {v : Vt} (R : Rg v) {x : Nat} (h : x ∈ cl v) : x / 16 < v 0 1 ∧ x < 128 := by
  obtain ⟨i, hi, rfl⟩ := List.mem_map.mp h
  have := R.2.2.2.2.2 i (List.mem_range.mp hi)
  have h7 := R.2.1
  omega
theorem Rg_setT {v : Vt} (R : Rg v) {T : List Nat} (hl : T.length ≤ 8) (h : ∀ x ∈ T, x / 16 < v 0 1) : Rg (setT v T) := by
  obtain ⟨r1, r2, r3, r4, r5, r6⟩ := R
  refine ⟨by rw [setT_0 _ _ (by omega)]; exact r1, by rw [setT_0 _ _ (by omega)]; exact r2, by rw [setT_a]; exact hl, fun x hx => by rw [setT_t _ _ _ (by omega) (by omega) (by omega)]; exact r4 x hx, fun i hi => ?_, fun i hi => ?_⟩
  · rw [setT_0 _ _ (by omega)] at hi
    rw [setT_t _ _ _ (by omega) (by omega) (by omega), setT_t _ _ _ (by omega) (by omega) (by omega), setT_t _ _ _ (by omega) (by omega) (by omega)]
    exact r5 i hi
  · rw [setT_a] at hi
    rw [setT_0 _ _ (by omega), setT_5, setT_6]
    have e : T.getD i 0 = T[i] := by simp [List.getD, hi]
    rw [e]
    exact ⟨h _ (List.getElem_mem hi), by omega⟩
theorem CSt_setT {w w' : WW} {b : Nat} {v : Vt} {T : List Nat} (C : CSt w b v) (h : ∀ k j, ¬ (k = b ∧ (j = 2 ∨ j = 3)) → k ≠ b + 6 → k ≠ b + 7 → w'.1 k j = w.1 k j) (ha : w'.1 b 2 = nI T.length) (ht : ∀ i, i < T.length → w'.1 (b + 6) i = nI (T.getD i 0)) : CSt w' b (setT v T) := by
  obtain ⟨c1, c2, c3, c4, c5, c6, c7⟩ := C
  refine ⟨by rw [setT_0 _ _ (by omega), h _ _ (by omega) (by omega) (by omega)]; exact c1, by rw [setT_0 _ _ (by omega), h _ _ (by omega) (by omega) (by omega)]; exact c2, by rw [setT_a]; exact ha, fun x hx => by rw [setT_t _ _ _ (by omega) (by omega) (by omega), h _ _ (by omega) (by omega) (by omega)]; exact c4 x hx, fun i hi => ?_, fun i x hi hx => ?_, fun i hi => ?_⟩
  · rw [setT_0 _ _ (by omega)] at hi
    rw [setT_t _ _ _ (by omega) (by omega) (by omega), setT_t _ _ _ (by omega) (by omega) (by omega), setT_t _ _ _ (by omega) (by omega) (by omega), h _ _ (by omega) (by omega) (by omega), h _ _ (by omega) (by omega) (by omega), h _ _ (by omega) (by omega) (by omega)]
    exact c5 i hi
  · rw [setT_0 _ _ (by omega)] at hi
    unfold an
    rw [setT_t _ _ _ (by omega) (by omega) (by omega), setT_t _ _ _ (by omega) (by omega) (by omega), h _ _ (by omega) (by omega) (by omega)]
    exact c6 i x hi hx
  · rw [setT_a] at hi
    rw [setT_5, setT_6, ht i hi]
    congr 1
    omega
theorem TRl_congr {tr tr' : Nat → Int32} : ∀ {U : List (List Nat)} {c : List Nat}, (∀ j, j < U.length → tr' j = tr j) → TRl tr c U → TRl tr' c U
  | [], _, _, _ => trivial
  | S :: U, c, h, ⟨h1, h2⟩ => ⟨by rw [h _ (by simp)]; exact h1, TRl_congr (fun j hj => h j (by simp; omega)) h2⟩
theorem TRl_shift {tr : Nat → Int32} : ∀ {U : List (List Nat)} {c : List Nat} {k : Nat}, U.length = k + 1 → TRl tr c U → TRl (fun j => tr (j + 1)) c (U.take k)
  | [], _, _, h, _ => by simp at h
  | S :: U, c, 0, _, _ => trivial
  | S :: U, c, k + 1, h, ⟨h1, h2⟩ => by
    have hU : U.length = k + 1 := by simpa using h
    refine ⟨?_, TRl_shift hU h2⟩
    rw [List.length_take, hU, Nat.min_eq_left (by omega)]
    rw [hU] at h1
    exact h1
theorem sC_ne (w : WW) {k0 k1 sp dp n k j : Nat} (h : k ≠ k1) : (sC w k0 k1 sp dp n).1 k j = w.1 k j := by simp [sC, h]
theorem sC_at (w : WW) {k0 k1 sp dp n j : Nat} : (sC w k0 k1 sp dp n).1 k1 j = va_cpy (w.1 k0) (w.1 k1) sp dp n j := by simp [sC]
theorem sC_2 (w : WW) (k0 k1 sp dp n : Nat) : (sC w k0 k1 sp dp n).2 = w.2 := rfl
theorem remember_ev {w : WW} {b : Nat} {U : List (List Nat)} (t : Int32) (hu : w.1 b 3 = nI U.length) (hl : U.length ≤ 8) : ∃ w', f_X6_remember b w t = some w' ∧ (∀ k j, ¬ (k = b ∧ j = 3) → k ≠ b + 7 → w'.1 k j = w.1 k j) ∧ w'.2 = w.2 ∧ ∀ S c, w'.1 b 3 = nI ((S :: U).take 8).length ∧ (TS t S c → TRl (w.1 (b + 7)) S U → TRl (w'.1 (b + 7)) c ((S :: U).take 8)) := by
  by_cases h : U.length < 8
  · refine ⟨sI (sI w (b + 7) U.length t) b 3 (nI (U.length + 1)), ?_, fun k j h1 h2 => by rw [sI_ne _ _ h1, sI_ne _ _ (by omega)], rfl, fun S c => ⟨?_, fun h1 h2 => ?_⟩⟩
    · unfold f_X6_remember f_X6_remember_j30
      rw [hu, show (8 : Int32) = nI 8 from rfl, if_pos (nI_lt h (by omega)), gd_t (inb_n h (by omega)), cl_n (by omega)]
      simp only [stI]
      rw [sI_ne _ _ (by omega), hu, nI_1]
    · rw [sI_at, List.take_of_length_le (by simp; omega)]; simp
    · rw [List.take_of_length_le (by simp; omega)]
      refine ⟨?_, TRl_congr (fun j hj => ?_) h2⟩
      · rw [sI_ne _ _ (by omega), sI_at]; exact h1
      · rw [sI_ne _ _ (by omega), sI_ne _ _ (by omega)]
  · have e8 : U.length = 8 := by omega
    refine ⟨sI (sI (sI (sC w (b + 7) (b + 7) 1 0 7) b 3 7) (b + 7) 7 t) b 3 8, ?_, fun k j h1 h2 => by rw [sI_ne _ _ h1, sI_ne _ _ (by omega), sI_ne _ _ h1, sC_ne _ (by omega)], rfl, fun S c => ⟨?_, fun h1 h2 => ?_⟩⟩
    · unfold f_X6_remember f_X6_remember_j30
      rw [hu, e8, if_neg (by decide), gd_t (by decide)]
      simp only [stI, stC]
      rw [sI_at, gd_t (by decide), sI_ne _ _ (by omega), sI_at]
      rfl
    · rw [sI_at]; simp [e8]; rfl
    · rw [show (S :: U).take 8 = S :: U.take 7 from rfl]
      have hlen : (U.take 7).length = 7 := by simp [e8]
      refine ⟨?_, TRl_congr (fun j hj => ?_) (TRl_shift (k := 7) e8 h2)⟩
      · rw [hlen, sI_ne _ _ (by omega), sI_at]; exact h1
      · rw [hlen] at hj
        rw [sI_ne _ _ (by omega), sI_ne _ _ (by omega), sI_ne _ _ (by omega), sC_at, pk_cpy_in (by omega) (by omega)]
        show w.1 (b + 7) (1 + (j - 0)) = w.1 (b + 7) (j + 1)
        rw [show 1 + (j - 0) = j + 1 by omega]
theorem AH_congr {ah ah' : Nat → Int32} : ∀ {U : List (List Nat)}, (∀ T ∈ U, T.length ≤ 8) → (∀ j, j < 17 * U.length → ah' j = ah j) → AH ah U → AH ah' U
  | [], _, _, _ => trivial
  | S :: U, hT, h, ⟨⟨h1, h2⟩, h3⟩ => by
    have hS := hT S List.mem_cons_self
    have hl : 17 * (S :: U).length = 17 * U.length + 17 := by simp; omega
    rw [hl] at h
    exact ⟨⟨by rw [h _ (by omega)]; exact h1, fun i hi => by rw [h _ (by omega), h _ (by omega)]; exact h2 i hi⟩, AH_congr (fun T hm => hT T (List.mem_cons_of_mem _ hm)) (fun j hj => h j (by omega)) h3⟩
theorem AH_shift {ah : Nat → Int32} : ∀ {U : List (List Nat)} {k : Nat}, U.length = k + 1 → AH ah U → AH (fun j => ah (j + 17)) (U.take k)
  | [], _, h, _ => by simp at h
  | S :: U, 0, _, _ => trivial
  | S :: U, k + 1, h, ⟨⟨h1, h2⟩, h3⟩ => by
    have hU : U.length = k + 1 := by simpa using h
    rw [hU] at h1 h2
    refine ⟨?_, AH_shift hU h3⟩
    rw [List.length_take, hU, Nat.min_eq_left (by omega)]
    refine ⟨by dsimp only; rw [show 17 * k + 17 = 17 * (k + 1) by omega]; exact h1, fun i hi => ?_⟩
    dsimp only
    rw [show 17 * k + 1 + 2 * i + 17 = 17 * (k + 1) + 1 + 2 * i by omega, show 17 * k + 2 + 2 * i + 17 = 17 * (k + 1) + 2 + 2 * i by omega]
    exact h2 i hi
/-- the asked row holds the list T -/
def AT (A : Nat → Int32) (T : List Nat) : Prop := ∀ i, i < T.length → A (2 * i) = nI (T.getD i 0 / 16) ∧ A (2 * i + 1) = nI (T.getD i 0 % 16)
theorem notes_tail {w : WW} {U : List (List Nat)} {T : List Nat} (hu : w.1 46 18 = nI U.length) (hl : U.length < 8) (ha : w.1 46 3 = nI T.length) (hT : T.length ≤ 8) (hU : ∀ T ∈ U, T.length ≤ 8) (hA : AT (w.1 52) T) (hH : AH (w.1 56) U) : ∃ w', f_X8_notes_j48 w = some w' ∧ (∀ k j, ¬ (k = 46 ∧ j = 18) → k ≠ 56 → w'.1 k j = w.1 k j) ∧ w'.2 = w.2 ∧ w'.1 46 18 = nI (U.length + 1) ∧ AH (w'.1 56) (T :: U) := by
  have h1 : ∀ k, k ≤ 16 → lpf (fun s : Int32 × WW => f_X8_notes_b68 (nI (17 * U.length)) s.1 s.2) FU (nI 0, sI w 56 (17 * U.length) (nI T.length)) = some (fillF (sI w 56 (17 * U.length) (nI T.length)) 56 (17 * U.length + 1) (w.1 52) 16) := by
    intro _ _
    refine lpf_seq (fun k => (nI k, fillF (sI w 56 (17 * U.length) (nI T.length)) 56 (17 * U.length + 1) (w.1 52) k)) 16 _ (by omega) (fun k hk => ?_) rfl
    unfold f_X8_notes_b68
    dsimp only
    rw [q_16, if_neg (nI_ge hk (by omega)), gd_t (inb_n hk (by omega)), nI_1, nI_add, gd_t (inb_n (by omega) (by omega)), cl_n (by omega), cl_n (by omega)]
    unfold stI
    rw [nI_1, fillF_ne _ _ _ _ (by omega), sI_ne _ _ (by omega)]
    rfl
  refine ⟨sI (fillF (sI w 56 (17 * U.length) (nI T.length)) 56 (17 * U.length + 1) (w.1 52) 16) 46 18 (nI (U.length + 1)), ?_, fun k j h1 h2 => by rw [sI_ne _ _ h1, fillF_ne _ _ _ _ h2, sI_ne _ _ (by omega)], by rw [sI_2, fillF_2]; rfl, sI_at _ _ _ _, ⟨⟨?_, fun i hi => ?_⟩, ?_⟩⟩
  · simp only [f_X8_notes_j48, nmv]
    rw [hu, show (17 : Int32) = nI 17 from rfl, pk_mul, gd_t (inb_n (by omega) (by omega)), cl_n (by omega), ha]
    simp only [stI]
    rw [show (0 : Int32) = nI 0 from rfl, h1 16 (by omega), Option.bind_some, fillF_ne _ _ _ _ (by omega), sI_ne _ _ (by omega), hu, nI_1]
  · rw [sI_ne _ _ (by omega), fillF_out _ _ _ _ _ (by omega), sI_at]
  · have a := hA i hi
    have e1 := fillF_in (sI w 56 (17 * U.length) (nI T.length)) 56 (17 * U.length + 1) (w.1 52) 16 (i := 2 * i) (by omega)
    have e2 := fillF_in (sI w 56 (17 * U.length) (nI T.length)) 56 (17 * U.length + 1) (w.1 52) 16 (i := 2 * i + 1) (by omega)
    rw [sI_ne _ _ (by omega), sI_ne _ _ (by omega), e1, show 17 * U.length + 2 + 2 * i = 17 * U.length + 1 + (2 * i + 1) by omega, e2]
    exact a
  · refine AH_congr hU (fun j hj => ?_) hH
    rw [sI_ne _ _ (by omega), fillF_out _ _ _ _ _ (by omega), sI_ne _ _ (by omega)]
theorem notes_ev {w : WW} {U : List (List Nat)} {T : List Nat} (hu : w.1 46 18 = nI U.length) (hl : U.length ≤ 8) (ha : w.1 46 3 = nI T.length) (hT : T.length ≤ 8) (hU : ∀ T ∈ U, T.length ≤ 8) (hA : AT (w.1 52) T) (hH : AH (w.1 56) U) : ∃ w', f_X8_notes w = some w' ∧ (∀ k j, ¬ (k = 46 ∧ j = 18) → k ≠ 56 → w'.1 k j = w.1 k j) ∧ w'.2 = w.2 ∧ w'.1 46 18 = nI ((T :: U).take 8).length ∧ AH (w'.1 56) ((T :: U).take 8) := by
  by_cases h : U.length < 8
  · obtain ⟨w', e1, e2, e3, e4, e5⟩ := notes_tail hu h ha hT hU hA hH
    refine ⟨w', ?_, e2, e3, ?_, ?_⟩
    · unfold f_X8_notes
      rw [hu, show (8 : Int32) = nI 8 from rfl, if_neg (by rw [nI_eq (by omega) (by omega)]; omega)]
      exact e1
    · rw [List.take_of_length_le (by simp; omega)]; simpa using e4
    · rw [List.take_of_length_le (by simp; omega)]; exact e5
  · have e8 : U.length = 8 := by omega
    have h1 : lpf (fun s : Int32 × WW => f_X8_notes_b11 s.1 s.2) FU (nI 0, w) = some (fillF w 56 0 (fun j => w.1 56 (j + 17)) 119) := by
      refine lpf_seq (fun k => (nI k, fillF w 56 0 (fun j => w.1 56 (j + 17)) k)) 119 _ (by omega) (fun k hk => ?_) rfl
      unfold f_X8_notes_b11
      dsimp only
      rw [show (119 : Int32) = nI 119 from rfl, if_neg (nI_ge hk (by omega)), show (17 : Int32) = nI 17 from rfl, nI_add, gd_t (inb_n (by omega) (by omega)), gd_t (inb_n (by omega) (by omega)), cl_n (by omega), cl_n (by omega)]
      unfold stI
      rw [nI_1, fillF_out _ _ _ _ _ (by omega), fillF, Nat.zero_add]
    have hlen : (U.take 7).length = 7 := by simp [e8]
    generalize hr : fillF w 56 0 (fun j => w.1 56 (j + 17)) 119 = r at h1
    have r0 : ∀ k j, k ≠ 56 → r.1 k j = w.1 k j := fun k j hk => by rw [← hr, fillF_ne _ _ _ _ hk]
    have r1 : ∀ j, j < 119 → r.1 56 j = w.1 56 (j + 17) := fun j hj => by
      rw [← hr]
      have := fillF_in w 56 0 (fun j => w.1 56 (j + 17)) 119 hj
      rwa [Nat.zero_add] at this
    have r2 : r.2 = w.2 := by rw [← hr, fillF_2]
    obtain ⟨w', e1, e2, e3, e4, e5⟩ := notes_tail (w := sI r 46 18 (nI 7)) (U := U.take 7) (T := T) (by rw [sI_at, hlen]) (by omega) (by rw [sI_ne _ _ (by omega), r0 _ _ (by omega)]; exact ha) hT (fun T hm => hU T (List.mem_of_mem_take hm)) (fun i hi => by rw [sI_ne _ _ (by omega), sI_ne _ _ (by omega), r0 _ _ (by omega), r0 _ _ (by omega)]; exact hA i hi) (AH_congr (fun T hm => hU T (List.mem_of_mem_take hm)) (fun j hj => by rw [hlen] at hj; rw [sI_ne _ _ (by omega), r1 j (by omega)]) (AH_shift (k := 7) e8 hH))
    refine ⟨w', ?_, fun k j h1 h2 => by rw [e2 k j h1 h2, sI_ne _ _ h1, r0 k j h2], by rw [e3, sI_2, r2], ?_, ?_⟩
    · unfold f_X8_notes
      rw [hu, e8, if_pos (by decide), show (0 : Int32) = nI 0 from rfl, h1, Option.bind_some]
      unfold stI
      rw [r0 _ _ (by omega), hu, e8, show nI 8 - 1 = nI 7 from rfl]
      exact e1
    · rw [e4, hlen]; simp [e8]
    · exact e5

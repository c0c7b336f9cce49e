/-! the reference reads a text -/
def TM (w : WW) (tx : List Nat) : Prop := TXt tx (w.1 46 10) (w.1 53)
def RdM (w u : WW) : Prop := (∀ k j, ¬ (k = 46 ∧ (j = 11 ∨ j = 16)) → u.1 k j = w.1 k j) ∧ u.2 = w.2
theorem RdM.rf (w : WW) : RdM w w := ⟨fun _ _ _ => rfl, rfl⟩
theorem RdM.tr {a b c : WW} (h1 : RdM a b) (h2 : RdM b c) : RdM a c := ⟨fun k j h => (h2.1 k j h).trans (h1.1 k j h), h2.2.trans h1.2⟩
theorem RdM.sI {w : WW} {j : Nat} {x : Int32} (h : j = 11 ∨ j = 16) : RdM w (sI w 46 j x) := ⟨fun k i hk => sI_ne _ _ (by omega), rfl⟩
theorem RdM.tm {w u : WW} {tx : List Nat} (h : RdM w u) (T : TM w tx) : TM u tx := ⟨(h.1 _ _ (by omega)).trans T.1, fun j hj => (h.1 _ _ (by omega)).trans (T.2 j hj)⟩
theorem figM0 : ∀ x, x < 128 → f_X8_isFigure w00 (nI x) = some (b2i (fgB x)) := by decide +kernel
theorem letM0 : ∀ x, x < 128 → f_X8_isLetter w00 (nI x) = some (b2i (ltB x)) := by decide +kernel
theorem figM (w : WW) {x : Nat} (hx : x < 128) : f_X8_isFigure w (nI x) = some (b2i (fgB x)) := figM0 x hx
theorem letM (w : WW) {x : Nat} (hx : x < 128) : f_X8_isLetter w (nI x) = some (b2i (ltB x)) := letM0 x hx
theorem here_ev {w : WW} {tx : List Nat} (P : TP tx) (T : TM w tx) {p : Nat} (hp : p ≤ tx.length) (h4 : w.1 46 11 = nI p) : f_X8_here w = some (if p < tx.length then nI (tx.getD p 0) else -1) := by
  have hl := P.1
  unfold f_X8_here
  rw [T.1, h4]
  by_cases h : p < tx.length
  · rw [if_neg (nI_ge h (by omega)), gd_t (inb_n (by omega) (by omega)), cl_n (by omega), T.2 p h, if_pos h]
  · rw [if_pos (nI_le (by omega) (by omega)), if_neg h]
theorem skipM_ev {w : WW} {tx : List Nat} (P : TP tx) (T : TM w tx) {p : Nat} (hp : p ≤ tx.length) (h4 : w.1 46 11 = nI p) : f_X8_skip w = some (sI w 46 11 (nI (skp tx p))) := by
  have hl := P.1
  obtain ⟨r1, r2, r3⟩ := rn_spec tx blB hp
  unfold f_X8_skip
  have h := lpf_seq (body := fun s : WW => f_X8_skip_b0 s) (fun i => sI w 46 11 (nI (p + i))) (rn tx blB p) (sI w 46 11 (nI (skp tx p))) (by omega) (fun i hi => ?_) ?_
  · rw [show sI w 46 11 (nI (p + 0)) = w from sI_slf h4] at h
    rw [h]; rfl
  · have hb := r2 i hi
    unfold blB at hb
    rw [decide_eq_true_eq] at hb
    simp only [f_X8_skip_b0, stI]
    rw [here_ev P ((RdM.sI (by omega)).tm T) (p := p + i) (by omega) (sI_at _ _ _ _), Option.bind_some, if_pos (show p + i < tx.length by omega), hb, if_pos (show nI 32 = 32 from rfl), sI_at, sI_sI, nI_1]
    rfl
  · simp only [f_X8_skip_b0, stI]
    rw [here_ev P ((RdM.sI (by omega)).tm T) (p := p + rn tx blB p) r1 (sI_at _ _ _ _), Option.bind_some]
    by_cases e : p + rn tx blB p < tx.length
    · have hb := r3 e
      unfold blB at hb
      rw [decide_eq_false_iff_not] at hb
      have := P.2 (p + rn tx blB p)
      rw [if_pos e, if_neg (by rw [show (32 : Int32) = nI 32 from rfl, nI_eq (by omega) (by omega)]; exact hb)]
      rfl
    · rw [if_neg e, if_neg (by decide)]
      rfl
def mac (tx : List Nat) (s : Nat) : Nat → Int32
  | 0 => 0
  | i + 1 => if 2 ≤ i then mac tx s i else 10 * mac tx s i + nI (tx.getD (s + i) 0) - 48
theorem mac_1 {tx : List Nat} {s : Nat} (h : 48 ≤ tx.getD s 0) : mac tx s 1 = nI (tx.getD s 0 - 48) := by
  show (10 : Int32) * 0 + nI (tx.getD (s + 0) 0) - 48 = _
  rw [Nat.add_zero, show (10 : Int32) * 0 = nI 0 from rfl, nI_add, Nat.zero_add]
  exact pk_sub (b := 48) h
theorem mac_2 {tx : List Nat} {s : Nat} (h : 48 ≤ tx.getD s 0) (h2 : 48 ≤ tx.getD (s + 1) 0) : mac tx s 2 = nI (10 * (tx.getD s 0 - 48) + (tx.getD (s + 1) 0 - 48)) := by
  show (10 : Int32) * mac tx s 1 + nI (tx.getD (s + 1) 0) - 48 = _
  rw [mac_1 h, show (10 : Int32) = nI 10 from rfl, pk_mul, nI_add, show (48 : Int32) = nI 48 from rfl, pk_sub (by omega)]
  congr 1
  omega
theorem mac_nvl {tx : List Nat} {s : Nat} (h : rn tx fgB s = 1 ∨ rn tx fgB s = 2) : mac tx s (rn tx fgB s) = nI (nvl tx s) := by
  obtain ⟨-, hs, -⟩ := nvl_le h
  obtain ⟨-, h2, -⟩ := rn_spec tx fgB (Nat.le_of_lt hs)
  have a := fgB_iff.mp (h2 0 (by omega))
  rw [Nat.add_zero] at a
  unfold nvl
  rcases h with h | h
  · rw [if_pos h, h]; exact mac_1 a.1
  · have b := fgB_iff.mp (h2 1 (by omega))
    rw [if_neg (by omega), h]; exact mac_2 a.1 b.1
theorem number_ev {w : WW} {tx : List Nat} (P : TP tx) (T : TM w tx) {p : Nat} (hp : p ≤ tx.length) (h4 : w.1 46 11 = nI p) {lo hi : Nat} (hlo : lo < 2 ^ 31) (hhi : hi < 2 ^ 31) : ∃ u, f_X8_number w (nI lo) (nI hi) = some (b2i (okN tx (skp tx p) lo hi), u) ∧ RdM w u ∧ u.1 46 11 = nI (if okN tx (skp tx p) lo hi = true then skp tx p + rn tx fgB (skp tx p) else skp tx p) ∧ (okN tx (skp tx p) lo hi = true → u.1 46 16 = nI (nvl tx (skp tx p)) ∧ skp tx p + rn tx fgB (skp tx p) ≤ tx.length) := by
  have hl := P.1
  have hsk := skipM_ev P T hp h4
  obtain ⟨-, hs⟩ := skp_le hp
  generalize skp tx p = s at hsk hs ⊢
  obtain ⟨r1, r2, r3⟩ := rn_spec tx fgB hs
  have bR : RdM w (sI w 46 11 (nI s)) := RdM.sI (by omega)
  have bT := bR.tm T
  have b4 : (sI w 46 11 (nI s)).1 46 11 = nI s := sI_at _ _ _ _
  unfold f_X8_number
  rw [hsk, Option.bind_some]
  generalize sI w 46 11 (nI s) = x at bR bT b4 ⊢
  have L := lpf_seq (body := fun z : Int32 × Int32 => f_X8_number_b9 x (nI lo) (nI hi) z.1 z.2) (fun i => (nI i, mac tx s i)) (rn tx fgB s) (nI (rn tx fgB s), mac tx s (rn tx fgB s)) (by omega) (fun i hi => ?_) ?_
  · have L' : lpf (fun z : Int32 × Int32 => f_X8_number_b9 x (nI lo) (nI hi) z.1 z.2) FU ((0 : Int32), (0 : Int32)) = _ := L
    rw [L', Option.bind_some, in_ev, Option.bind_some]
    unfold f_X8_number_j96
    by_cases hr : rn tx fgB s = 1 ∨ rn tx fgB s = 2
    · have hc : (1 : Int32) ≤ nI (rn tx fgB s) ∧ nI (rn tx fgB s) ≤ 2 := ⟨nI_le (a := 1) (by omega) (by omega), nI_le (b := 2) (by omega) (by omega)⟩
      have hn := nvl_le hr
      dsimp only
      rw [if_pos hc, if_neg (by decide), mac_nvl hr, in_ev, Option.bind_some]
      have e : (nI lo ≤ nI (nvl tx s) ∧ nI (nvl tx s) ≤ nI hi) ↔ okN tx s lo hi = true := by
        rw [okN_iff, nI_leI (by omega) (by omega), nI_leI (by omega) (by omega)]
        exact ⟨fun h => ⟨hr, h⟩, fun h => h.2⟩
      cases ho : okN tx s lo hi with
      | true =>
        rw [if_pos (e.mpr ho), if_neg (by decide)]
        simp only [stI]
        refine ⟨_, rfl, bR.tr ((RdM.sI (by omega)).tr (RdM.sI (by omega))), ?_, fun _ => ⟨?_, hn.2.2⟩⟩
        · rw [sI_at, sI_ne _ _ (by omega), b4, nI_add, if_pos trivial]
        · rw [sI_ne _ _ (by omega), sI_at]
      | false =>
        have hne : ¬ (nI lo ≤ nI (nvl tx s) ∧ nI (nvl tx s) ≤ nI hi) := fun q => by rw [e.mp q] at ho; cases ho
        rw [if_neg hne, if_pos rfl, if_neg (show ¬ false = true by decide)]
        exact ⟨x, rfl, bR, b4, fun e => by cases e⟩
    · have hc : ¬ ((1 : Int32) ≤ nI (rn tx fgB s) ∧ nI (rn tx fgB s) ≤ 2) := fun q => hr (by
        have q1 := (nI_leI (a := 1) (by omega) (by omega)).mp q.1
        have q2 := (nI_leI (b := 2) (by omega) (by omega)).mp q.2
        omega)
      have ho : okN tx s lo hi = false := by
        cases q : okN tx s lo hi with
        | false => rfl
        | true => exact absurd (okN_iff.mp q).1 hr
      dsimp only
      rw [if_neg hc, if_pos rfl, ho, if_neg (show ¬ false = true by decide)]
      exact ⟨x, rfl, bR, b4, fun e => by cases e⟩
  · have hb := r2 i hi
    have := P.2 (s + i)
    simp only [f_X8_number_b9, f_X8_number_j69]
    rw [bT.1, b4, nI_add, if_neg (nI_ge (by omega) (by omega)), gd_t (inb_n (by omega) (by omega)), gd_t (inb_n (by omega) (by omega)), cl_n (by omega), bT.2 (s + i) (by omega), figM _ this, hb, Option.bind_some, if_neg (by decide), nI_1, mac]
    by_cases e : 2 ≤ i
    · rw [if_pos e, if_pos (show (2 : Int32) ≤ nI i from nI_le (a := 2) e (by omega))]
    · rw [if_neg e, if_neg (show ¬ (2 : Int32) ≤ nI i from nI_ge (b := 2) (by omega) (by omega))]
  · simp only [f_X8_number_b9]
    rw [bT.1, b4, nI_add]
    by_cases e : s + rn tx fgB s < tx.length
    · have hb := r3 e
      have := P.2 (s + rn tx fgB s)
      rw [if_neg (nI_ge (by omega) (by omega)), gd_t (inb_n (by omega) (by omega)), cl_n (by omega), bT.2 _ e, figM _ this, hb, Option.bind_some, if_pos (by decide)]
    · rw [if_pos (nI_le (by omega) (by omega))]
theorem ends_ev {w : WW} {tx : List Nat} (P : TP tx) (T : TM w tx) {p : Nat} (hp : p ≤ tx.length) (h4 : w.1 46 11 = nI p) : ∃ u, f_X8_ends w = some (b2i (okE tx (skp tx p)), u) ∧ RdM w u ∧ u.1 46 11 = nI (if okE tx (skp tx p) = true then skp tx p + 1 else skp tx p) := by
  have hl := P.1
  have hsk := skipM_ev P T hp h4
  obtain ⟨-, hs⟩ := skp_le hp
  generalize skp tx p = s at hsk hs ⊢
  have bR : RdM w (sI w 46 11 (nI s)) := RdM.sI (by omega)
  have bT := bR.tm T
  have b4 : (sI w 46 11 (nI s)).1 46 11 = nI s := sI_at _ _ _ _
  have hc := P.2 s
  unfold f_X8_ends
  rw [hsk, Option.bind_some, here_ev P bT hs b4, Option.bind_some]
  simp only [stI]
  cases ho : okE tx s with
  | true =>
    have h := okE_iff.mp ho
    rw [if_pos h.1, h.2, if_pos (show nI 59 = 59 from rfl), if_pos rfl]
    exact ⟨_, rfl, bR.tr (RdM.sI (by omega)), by rw [sI_at, b4, nI_1]⟩
  | false =>
    have hne : ¬ (if s < tx.length then nI (tx.getD s 0) else -1) = (59 : Int32) := by
      by_cases h : s < tx.length
      · rw [if_pos h, show (59 : Int32) = nI 59 from rfl, nI_eq (by omega) (by omega)]
        intro e
        rw [okE_iff.mpr ⟨h, e⟩] at ho
        cases ho
      · rw [if_neg h]; decide
    rw [if_neg hne, if_neg (show ¬ false = true by decide)]
    exact ⟨_, rfl, bR, b4⟩
theorem wordSize_ev {w : WW} {tx : List Nat} (P : TP tx) (T : TM w tx) {s : Nat} (hs : s ≤ tx.length) (h4 : w.1 46 11 = nI s) : f_X8_wordSize w = some (nI (rn tx ltB s)) := by
  have hl := P.1
  obtain ⟨r1, r2, r3⟩ := rn_spec tx ltB hs
  unfold f_X8_wordSize
  have L := lpf_seq (body := fun z : Int32 => f_X8_wordSize_b2 w z) (fun i => nI i) (rn tx ltB s) (nI (rn tx ltB s)) (by omega) (fun i hi => ?_) ?_
  · rw [show (0 : Int32) = nI 0 from rfl, L]; rfl
  · have hb := r2 i hi
    have := P.2 (s + i)
    simp only [f_X8_wordSize_b2]
    rw [T.1, h4, nI_add, if_neg (nI_ge (by omega) (by omega)), gd_t (inb_n (by omega) (by omega)), cl_n (by omega), T.2 (s + i) (by omega), letM _ this, hb, Option.bind_some, if_neg (by decide), nI_1]
  · simp only [f_X8_wordSize_b2]
    rw [T.1, h4, nI_add]
    by_cases e : s + rn tx ltB s < tx.length
    · have hb := r3 e
      have := P.2 (s + rn tx ltB s)
      rw [if_neg (nI_ge (by omega) (by omega)), gd_t (inb_n (by omega) (by omega)), cl_n (by omega), T.2 _ e, letM _ this, hb, Option.bind_some, if_pos (by decide)]
    · rw [if_pos (nI_le (by omega) (by omega))]
theorem letter_ev {w : WW} {tx : List Nat} (P : TP tx) (T : TM w tx) {s : Nat} (h4 : w.1 46 11 = nI s) {i : Nat} (hi : s + i < tx.length) : f_X8_letter w (nI i) = some (nI (tx.getD (s + i) 0)) := by
  have hl := P.1
  unfold f_X8_letter
  rw [h4, nI_add, gd_t (inb_n (by omega) (by omega)), cl_n (by omega), T.2 _ hi]
theorem spl0_iff {tx : List Nat} {s : Nat} : spl tx s 0 = true ↔ rn tx ltB s = 4 ∧ tx.getD (s + 0) 0 = 102 ∧ tx.getD (s + 1) 0 = 97 ∧ tx.getD (s + 2) 0 = 105 ∧ tx.getD (s + 3) 0 = 114 := by
  unfold spl
  rw [Bool.and_eq_true, decide_eq_true_eq, show (wrd 0).length = 4 from rfl]
  simp only [allB, Bool.and_eq_true, decide_eq_true_eq, Bool.true_and]
  show (_ ∧ ((_ = 102 ∧ _ = 97) ∧ _ = 105) ∧ _ = 114) ↔ _
  rw [and_assoc, and_assoc]
theorem spl1_iff {tx : List Nat} {s : Nat} : spl tx s 1 = true ↔ rn tx ltB s = 4 ∧ tx.getD (s + 0) 0 = 99 ∧ tx.getD (s + 1) 0 = 97 ∧ tx.getD (s + 2) 0 = 115 ∧ tx.getD (s + 3) 0 = 101 := by
  unfold spl
  rw [Bool.and_eq_true, decide_eq_true_eq, show (wrd 1).length = 4 from rfl]
  simp only [allB, Bool.and_eq_true, decide_eq_true_eq, Bool.true_and]
  show (_ ∧ ((_ = 99 ∧ _ = 97) ∧ _ = 115) ∧ _ = 101) ↔ _
  rw [and_assoc, and_assoc]
theorem spl2_iff {tx : List Nat} {s : Nat} : spl tx s 2 = true ↔ rn tx ltB s = 8 ∧ tx.getD (s + 0) 0 = 113 ∧ tx.getD (s + 1) 0 = 117 ∧ tx.getD (s + 2) 0 = 101 ∧ tx.getD (s + 3) 0 = 115 ∧ tx.getD (s + 4) 0 = 116 ∧ tx.getD (s + 5) 0 = 105 ∧ tx.getD (s + 6) 0 = 111 ∧ tx.getD (s + 7) 0 = 110 := by
  unfold spl
  rw [Bool.and_eq_true, decide_eq_true_eq, show (wrd 2).length = 8 from rfl]
  simp only [allB, Bool.and_eq_true, decide_eq_true_eq, Bool.true_and]
  show (_ ∧ ((((((_ = 113 ∧ _ = 117) ∧ _ = 101) ∧ _ = 115) ∧ _ = 116) ∧ _ = 105) ∧ _ = 111) ∧ _ = 110) ↔ _
  rw [and_assoc, and_assoc, and_assoc, and_assoc, and_assoc, and_assoc]

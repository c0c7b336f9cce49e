/-! the class's tokens -/
def TP (tx : List Nat) : Prop := tx.length ≤ 150 ∧ ∀ j, tx.getD j 0 < 128
def TC (w : WW) (tx : List Nat) : Prop := TXt tx (w.1 26 1) (w.1 27)
def RdC (w u : WW) : Prop := (∀ k j, ¬ (k = 26 ∧ 3 ≤ j ∧ j ≤ 6) → u.1 k j = w.1 k j) ∧ u.2 = w.2
theorem RdC.rf (w : WW) : RdC w w := ⟨fun _ _ _ => rfl, rfl⟩
theorem RdC.tr {a b c : WW} (h1 : RdC a b) (h2 : RdC b c) : RdC a c := ⟨fun k j h => (h2.1 k j h).trans (h1.1 k j h), h2.2.trans h1.2⟩
theorem RdC.sI {w : WW} {j : Nat} {x : Int32} (h : 3 ≤ j ∧ j ≤ 6) : RdC w (sI w 26 j x) := ⟨fun k i hk => sI_ne _ _ (by omega), rfl⟩
theorem RdC.tc {w u : WW} {tx : List Nat} (h : RdC w u) (T : TC w tx) : TC u tx := ⟨(h.1 _ _ (by omega)).trans T.1, fun j hj => (h.1 _ _ (by omega)).trans (T.2 j hj)⟩
theorem sI_slf {w : WW} {k j : Nat} {x : Int32} (h : w.1 k j = x) : sI w k j x = w := by
  unfold sI
  refine Prod.ext (funext fun a => funext fun b => ?_) rfl
  dsimp only
  by_cases e : a = k ∧ b = j
  · rw [if_pos e, e.1, e.2, h]
  · rw [if_neg e]
theorem figC0 : ∀ x, x < 128 → f_X4_isFigure w00 (nI x) = some (b2i (fgB x)) := by decide +kernel
theorem letC0 : ∀ x, x < 128 → f_X4_isLetter w00 (nI x) = some (b2i (ltB x)) := by decide +kernel
theorem figC (w : WW) {x : Nat} (hx : x < 128) : f_X4_isFigure w (nI x) = some (b2i (fgB x)) := figC0 x hx
theorem letC (w : WW) {x : Nat} (hx : x < 128) : f_X4_isLetter w (nI x) = some (b2i (ltB x)) := letC0 x hx
theorem skipC_ev {w : WW} {tx : List Nat} (P : TP tx) (T : TC w tx) {p : Nat} (hp : p ≤ tx.length) (h4 : w.1 26 4 = nI p) : lpf (fun s : WW => f_X4_step_b0 s) FU w = some (sI w 26 4 (nI (skp tx p))) := by
  have hl := P.1
  obtain ⟨r1, r2, r3⟩ := rn_spec tx blB hp
  have h := lpf_seq (body := fun s : WW => f_X4_step_b0 s) (fun i => sI w 26 4 (nI (p + i))) (rn tx blB p) (sI w 26 4 (nI (skp tx p))) (by omega) (fun i hi => ?_) ?_
  · rw [show sI w 26 4 (nI (p + 0)) = w from sI_slf h4] at h
    exact h
  · have hb := r2 i hi
    unfold blB at hb
    rw [decide_eq_true_eq] at hb
    simp only [f_X4_step_b0, stI]
    rw [sI_ne _ _ (by omega), T.1, sI_at, if_neg (nI_ge (by omega) (by omega)), gd_t (inb_n (by omega) (by omega)), cl_n (by omega), sI_ne _ _ (by omega), T.2 (p + i) (by omega), hb, if_pos (show nI 32 = 32 from rfl), sI_sI, nI_1]
    rfl
  · simp only [f_X4_step_b0, stI]
    rw [sI_ne _ _ (by omega), T.1, sI_at]
    by_cases e : p + rn tx blB p < tx.length
    · have hb := r3 e
      unfold blB at hb
      rw [decide_eq_false_iff_not] at hb
      have := P.2 (p + rn tx blB p)
      rw [if_neg (nI_ge (by omega) (by omega)), gd_t (inb_n (by omega) (by omega)), cl_n (by omega), sI_ne _ _ (by omega), T.2 _ e, if_neg (by rw [show (32 : Int32) = nI 32 from rfl, nI_eq (by omega) (by omega)]; exact hb)]
      rfl
    · rw [if_pos (nI_le (by omega) (by omega))]
      rfl
/-- the figures, as the class adds them up -/
def dac (tx : List Nat) (s : Nat) : Nat → Int32
  | 0 => 0
  | i + 1 => dac tx s i * 10 + nI (tx.getD (s + i) 0) - 48
theorem dac_1 {tx : List Nat} {s : Nat} (h : 48 ≤ tx.getD s 0) : dac tx s 1 = nI (tx.getD s 0 - 48) := by
  show (0 : Int32) * 10 + nI (tx.getD (s + 0) 0) - 48 = _
  rw [Nat.add_zero, show (0 : Int32) * 10 = nI 0 from rfl, nI_add, Nat.zero_add]
  exact pk_sub (b := 48) h
theorem dac_2 {tx : List Nat} {s : Nat} (h : 48 ≤ tx.getD s 0) (h2 : 48 ≤ tx.getD (s + 1) 0) : dac tx s 2 = nI (10 * (tx.getD s 0 - 48) + (tx.getD (s + 1) 0 - 48)) := by
  show dac tx s 1 * 10 + nI (tx.getD (s + 1) 0) - 48 = _
  rw [dac_1 h, show (10 : Int32) = nI 10 from rfl, pk_mul, nI_add, show (48 : Int32) = nI 48 from rfl, pk_sub (by omega)]
  congr 1
  omega
theorem dac_nvl {tx : List Nat} {s : Nat} (h : rn tx fgB s = 1 ∨ rn tx fgB s = 2) : dac tx s (rn tx fgB s) = nI (nvl tx s) := by
  obtain ⟨-, hs, -⟩ := nvl_le h
  obtain ⟨-, h2, -⟩ := rn_spec tx fgB (Nat.le_of_lt hs)
  have a := fgB_iff.mp (h2 0 (by omega))
  rw [Nat.add_zero] at a
  unfold nvl
  rcases h with h | h
  · rw [if_pos h, h]; exact dac_1 a.1
  · have b := fgB_iff.mp (h2 1 (by omega))
    rw [if_neg (by omega), h]; exact dac_2 a.1 b.1
theorem overNum_ev {w : WW} {tx : List Nat} (P : TP tx) (T : TC w tx) {s : Nat} (hs : s ≤ tx.length) (h3 : w.1 26 3 = nI s) (h4 : w.1 26 4 = nI s) : f_X4_stepOverNumber w = some (sI (sI (sI w 26 6 (dac tx s (rn tx fgB s))) 26 4 (nI (s + rn tx fgB s))) 26 5 (if rn tx fgB s ≤ 2 then 1 else 6)) := by
  have hl := P.1
  obtain ⟨r1, r2, r3⟩ := rn_spec tx fgB hs
  have h := lpf_seq (body := fun s : WW => f_X4_stepOverNumber_b5 s) (fun i => sI (sI w 26 6 (dac tx s i)) 26 4 (nI (s + i))) (rn tx fgB s) (sI (sI w 26 6 (dac tx s (rn tx fgB s))) 26 4 (nI (s + rn tx fgB s))) (by omega) (fun i hi => ?_) ?_
  · simp only [f_X4_stepOverNumber, stI, f_X4_stepOverNumber_j88]
    rw [show sI (sI w 26 6 (dac tx s 0)) 26 4 (nI (s + 0)) = sI w 26 6 0 from sI_slf (by rw [sI_ne _ _ (by omega)]; exact h4)] at h
    rw [h, Option.bind_some, sI_at, sI_ne _ _ (by omega), sI_ne _ _ (by omega), h3, pk_sub (by omega), show s + rn tx fgB s - s = rn tx fgB s by omega]
    by_cases e : rn tx fgB s ≤ 2
    · rw [if_pos e, if_neg (show ¬ (2 : Int32) < nI (rn tx fgB s) from nI_nlt (a := 2) (b := rn tx fgB s) e (by omega))]
    · rw [if_neg e, if_pos (show (2 : Int32) < nI (rn tx fgB s) from nI_lt (a := 2) (b := rn tx fgB s) (by omega) (by omega))]
  · have hb := r2 i hi
    have := P.2 (s + i)
    simp only [f_X4_stepOverNumber_b5, stI]
    rw [sI_ne _ _ (by omega), sI_ne _ _ (by omega), T.1, sI_at, if_neg (nI_ge (by omega) (by omega)), gd_t (inb_n (by omega) (by omega)), gd_t (inb_n (by omega) (by omega)), cl_n (by omega), sI_ne _ _ (by omega), sI_ne _ _ (by omega), T.2 (s + i) (by omega), figC _ this, hb, Option.bind_some, if_neg (by decide), sI_ne _ _ (by omega), sI_at, sI_ne _ _ (by omega), sI_at, nI_1]
    congr 2
    rw [← show dac tx s (i + 1) = dac tx s i * 10 + nI (tx.getD (s + i) 0) - 48 from rfl]
    unfold sI
    refine Prod.ext (funext fun a => funext fun b => ?_) rfl
    dsimp only
    by_cases ha : a = 26
    · by_cases h6 : b = 6
      · simp [ha, h6]
      · by_cases h4 : b = 4 <;> simp [ha, h4, h6]
        rfl
    · simp [ha]
  · simp only [f_X4_stepOverNumber_b5, stI]
    rw [sI_ne _ _ (by omega), sI_ne _ _ (by omega), T.1, sI_at]
    by_cases e : s + rn tx fgB s < tx.length
    · have hb := r3 e
      have := P.2 (s + rn tx fgB s)
      rw [if_neg (nI_ge (by omega) (by omega)), gd_t (inb_n (by omega) (by omega)), cl_n (by omega), sI_ne _ _ (by omega), sI_ne _ _ (by omega), T.2 _ e, figC _ this, hb, Option.bind_some, if_pos (by decide)]
    · rw [if_pos (nI_le (by omega) (by omega))]
-- the three words
theorem len0 (si : Nat) (h : si < 3) (w : WW) : f_J0_length_8abf5 si w = some (nI (wrd si).length) := by
  have : si = 0 ∨ si = 1 ∨ si = 2 := by omega
  rcases this with rfl | rfl | rfl <;> rfl
theorem chA0 : ∀ si, si < 3 → ∀ i, i < (wrd si).length → f_J0_charAt_5068e si w00 (nI i) = some (nI ((wrd si).getD i 0)) := by decide +kernel
theorem chA (w : WW) {si i : Nat} (h : si < 3) (hi : i < (wrd si).length) : f_J0_charAt_5068e si w (nI i) = some (nI ((wrd si).getD i 0)) := chA0 si h i hi
theorem wrdS : ∀ si, si < 3 → (wrd si).length ≤ 8 ∧ 4 ≤ (wrd si).length ∧ ∀ i, i < 8 → (wrd si).getD i 0 < 128 := by decide +kernel
theorem spells_ev {w : WW} {tx : List Nat} (P : TP tx) (T : TC w tx) {s si : Nat} (hsi : si < 3) (hs : s ≤ tx.length) (h3 : w.1 26 3 = nI s) (h4 : w.1 26 4 = nI (s + rn tx ltB s)) : f_X4_spells si w = some (b2i (spl tx s si)) := by
  have hl := P.1
  obtain ⟨r1, r2, r3⟩ := rn_spec tx ltB hs
  obtain ⟨k1, k2, k3⟩ := wrdS si hsi
  unfold f_X4_spells spl
  rw [len0 si hsi, Option.bind_some, h3, h4, pk_sub (by omega), show s + rn tx ltB s - s = rn tx ltB s by omega]
  by_cases e : rn tx ltB s = (wrd si).length
  · rw [if_pos (by rw [e]), decide_eq_true e, Bool.true_and]
    have L : Ev (lpf (fun z : Int32 => f_X4_spells_b20 si w z) FU (0 : Int32)) (fun r => (r = .inl () ∧ allB (fun i => decide (tx.getD (s + i) 0 = (wrd si).getD i 0)) (wrd si).length = false) ∨ (r = .inr () ∧ allB (fun i => decide (tx.getD (s + i) 0 = (wrd si).getD i 0)) (wrd si).length = true)) := by
      refine lpf_inv (fun i z => z = nI i ∧ ∀ j, j < i → tx.getD (s + j) 0 = (wrd si).getD j 0) _ (wrd si).length (by omega) ⟨rfl, fun j hj => by omega⟩ (fun i z hi hI => ?_) (fun z hI => ?_)
      · obtain ⟨rfl, hI⟩ := hI
        have c1 := P.2 (s + i)
        have c2 := k3 i (by omega)
        simp only [f_X4_spells_b20]
        rw [len0 si hsi, Option.bind_some, if_neg (nI_ge hi (by omega)), h3, nI_add, gd_t (inb_n (by omega) (by omega)), chA w hsi hi, Option.bind_some, cl_n (by omega), T.2 (s + i) (by omega), nI_1]
        by_cases q : tx.getD (s + i) 0 = (wrd si).getD i 0
        · rw [if_pos (by rw [q])]
          refine Or.inl ⟨_, rfl, rfl, fun j hj => ?_⟩
          by_cases ej : j = i
          · rw [ej]; exact q
          · exact hI j (by omega)
        · rw [if_neg (by rw [nI_eq (by omega) (by omega)]; exact q)]
          refine Or.inr ⟨_, rfl, Or.inl ⟨rfl, ?_⟩⟩
          cases a : allB (fun i => decide (tx.getD (s + i) 0 = (wrd si).getD i 0)) (wrd si).length with
          | false => rfl
          | true =>
            have := allB_iff.mp a i hi
            rw [decide_eq_true_eq] at this
            exact absurd this q
      · obtain ⟨rfl, hI⟩ := hI
        simp only [f_X4_spells_b20]
        rw [len0 si hsi, Option.bind_some, if_pos (nI_le (Nat.le_refl _) (by omega))]
        exact ⟨_, rfl, Or.inr ⟨rfl, allB_iff.mpr (fun j hj => decide_eq_true (hI j hj))⟩⟩
    obtain ⟨r, er, h⟩ := L
    rw [er, Option.bind_some]
    rcases h with ⟨rfl, h⟩ | ⟨rfl, h⟩
    · rw [h]; rfl
    · rw [h]; rfl
  · rw [if_neg (by rw [nI_eq (by omega) (by omega)]; exact e), decide_eq_false e, Bool.false_and]
    rfl
theorem overWord_ev {w : WW} {tx : List Nat} (P : TP tx) (T : TC w tx) {s : Nat} (hs : s ≤ tx.length) (h3 : w.1 26 3 = nI s) (h4 : w.1 26 4 = nI s) : f_X4_stepOverWord w = some (sI (sI w 26 4 (nI (s + rn tx ltB s))) 26 5 (nI (wdS tx s))) := by
  have hl := P.1
  obtain ⟨r1, r2, r3⟩ := rn_spec tx ltB hs
  have h := lpf_seq (body := fun s : WW => f_X4_stepOverWord_b0 s) (fun i => sI w 26 4 (nI (s + i))) (rn tx ltB s) (sI w 26 4 (nI (s + rn tx ltB s))) (by omega) (fun i hi => ?_) ?_
  · rw [show sI w 26 4 (nI (s + 0)) = w from sI_slf h4] at h
    have T2 : TC (sI w 26 4 (nI (s + rn tx ltB s))) tx := (RdC.sI (by omega)).tc T
    have sp : ∀ si, si < 3 → f_X4_spells si (sI w 26 4 (nI (s + rn tx ltB s))) = some (b2i (spl tx s si)) := fun si hsi => spells_ev P T2 hsi hs (by rw [sI_ne _ _ (by omega)]; exact h3) (sI_at _ _ _ _)
    simp only [f_X4_stepOverWord, stI]
    rw [h, Option.bind_some, sp 0 (by omega), Option.bind_some, sp 1 (by omega), Option.bind_some, sp 2 (by omega), Option.bind_some]
    unfold wdS
    cases spl tx s 0 <;> cases spl tx s 1 <;> cases spl tx s 2 <;> rfl
  · have hb := r2 i hi
    have := P.2 (s + i)
    simp only [f_X4_stepOverWord_b0, stI]
    rw [sI_ne _ _ (by omega), T.1, sI_at, if_neg (nI_ge (by omega) (by omega)), gd_t (inb_n (by omega) (by omega)), cl_n (by omega), sI_ne _ _ (by omega), T.2 (s + i) (by omega), letC _ this, hb, Option.bind_some, if_neg (by decide), sI_sI, nI_1]
    rfl
  · simp only [f_X4_stepOverWord_b0, stI]
    rw [sI_ne _ _ (by omega), T.1, sI_at]
    by_cases e : s + rn tx ltB s < tx.length
    · have hb := r3 e
      have := P.2 (s + rn tx ltB s)
      rw [if_neg (nI_ge (by omega) (by omega)), gd_t (inb_n (by omega) (by omega)), cl_n (by omega), sI_ne _ _ (by omega), T.2 _ e, letC _ this, hb, Option.bind_some, if_pos (by decide)]
    · rw [if_pos (nI_le (by omega) (by omega))]
theorem step_ev {w : WW} {tx : List Nat} (P : TP tx) (T : TC w tx) {p : Nat} (hp : p ≤ tx.length) (h4 : w.1 26 4 = nI p) : ∃ u, f_X4_step w = some u ∧ RdC w u ∧ u.1 26 3 = nI (skp tx p) ∧ u.1 26 4 = nI (nxtS tx (skp tx p)) ∧ u.1 26 5 = nI (tokS tx (skp tx p)) ∧ (tokS tx (skp tx p) = 1 → u.1 26 6 = nI (nvl tx (skp tx p))) := by
  have hl := P.1
  obtain ⟨-, hs⟩ := skp_le hp
  have hsk := skipC_ev P T hp h4
  generalize hsp : skp tx p = s at hs hsk ⊢
  have b3 : (sI (sI w 26 4 (nI s)) 26 3 (nI s)).1 26 3 = nI s := sI_at _ _ _ _
  have b4 : (sI (sI w 26 4 (nI s)) 26 3 (nI s)).1 26 4 = nI s := by rw [sI_ne _ _ (by omega), sI_at]
  have bR : RdC w (sI (sI w 26 4 (nI s)) 26 3 (nI s)) := (RdC.sI (by omega)).tr (RdC.sI (by omega))
  have bT := bR.tc T
  simp only [f_X4_step, stI, f_X4_step_j130]
  rw [hsk, Option.bind_some, sI_at]
  generalize sI (sI w 26 4 (nI s)) 26 3 (nI s) = x at b3 b4 bR bT ⊢
  rw [b4, bT.1]
  by_cases hn : s < tx.length
  · have hc := P.2 s
    rw [if_pos (nI_lt hn (by omega)), gd_t (inb_n (by omega) (by omega)), gd_t (inb_n (by omega) (by omega)), gd_t (inb_n (by omega) (by omega)), cl_n (by omega), bT.2 s hn, figC _ hc, Option.bind_some, letC _ hc, Option.bind_some]
    have ht : tokS tx s = if fgB (tx.getD s 0) = true then (if rn tx fgB s ≤ 2 then 1 else 6) else if ltB (tx.getD s 0) = true then wdS tx s else if tx.getD s 0 = 59 then 2 else 6 := by unfold tokS; rw [if_pos hn]
    have hx : nxtS tx s = if fgB (tx.getD s 0) = true then s + rn tx fgB s else if ltB (tx.getD s 0) = true then s + rn tx ltB s else s + 1 := by unfold nxtS; rw [if_pos hn]
    cases hf : fgB (tx.getD s 0) with
    | true =>
      rw [hf, if_pos rfl] at ht hx
      rw [if_neg (by decide), overNum_ev P bT hs b3 b4, Option.bind_some]
      refine ⟨_, rfl, bR.tr ((RdC.sI (by omega)).tr ((RdC.sI (by omega)).tr (RdC.sI (by omega)))), ?_, ?_, ?_, fun h1 => ?_⟩
      · rw [sI_ne _ _ (by omega), sI_ne _ _ (by omega), sI_ne _ _ (by omega)]; exact b3
      · rw [sI_ne _ _ (by omega), sI_at, hx]
      · rw [sI_at, ht]
        split <;> rfl
      · rw [sI_ne _ _ (by omega), sI_ne _ _ (by omega), sI_at, dac_nvl (tok_1.mp h1)]
    | false =>
      rw [hf, if_neg (by decide)] at ht hx
      rw [if_pos (by decide)]
      cases hlt : ltB (tx.getD s 0) with
      | true =>
        rw [hlt, if_pos rfl] at ht hx
        rw [if_neg (by decide), overWord_ev P bT hs b3 b4, Option.bind_some]
        have h6 := wdS_6 tx s
        refine ⟨_, rfl, bR.tr ((RdC.sI (by omega)).tr (RdC.sI (by omega))), ?_, ?_, ?_, fun h1 => by omega⟩
        · rw [sI_ne _ _ (by omega), sI_ne _ _ (by omega)]; exact b3
        · rw [sI_ne _ _ (by omega), sI_at, hx]
        · rw [sI_at, ht]
      | false =>
        rw [hlt, if_neg (by decide)] at ht hx
        rw [if_pos (by decide)]
        by_cases e : tx.getD s 0 = 59
        · rw [if_pos e] at ht
          rw [e, if_pos (show nI 59 = 59 from rfl)]
          refine ⟨_, rfl, bR.tr ((RdC.sI (by omega)).tr (RdC.sI (by omega))), ?_, ?_, ?_, fun h1 => by omega⟩
          · rw [sI_ne _ _ (by omega), sI_ne _ _ (by omega)]; exact b3
          · rw [sI_at, sI_ne _ _ (by omega), b4, nI_1, hx]
          · rw [sI_ne _ _ (by omega), sI_at, ht]; rfl
        · rw [if_neg e] at ht
          rw [if_neg (by rw [show (59 : Int32) = nI 59 from rfl, nI_eq (by omega) (by omega)]; exact e)]
          refine ⟨_, rfl, bR.tr ((RdC.sI (by omega)).tr (RdC.sI (by omega))), ?_, ?_, ?_, fun h1 => by omega⟩
          · rw [sI_ne _ _ (by omega), sI_ne _ _ (by omega)]; exact b3
          · rw [sI_at, sI_ne _ _ (by omega), b4, nI_1, hx]
          · rw [sI_ne _ _ (by omega), sI_at, ht]; rfl
  · rw [if_neg (nI_nlt (by omega) (by omega))]
    refine ⟨_, rfl, bR.tr (RdC.sI (by omega)), ?_, ?_, ?_, fun h1 => ?_⟩
    · rw [sI_ne _ _ (by omega)]; exact b3
    · rw [sI_ne _ _ (by omega), b4]
      unfold nxtS
      rw [if_neg hn]
    · rw [sI_at, tok_0.mpr hn]; rfl
    · have := tok_0.mpr hn; omega
/-- the token behind a number -/
def nxn (tx : List Nat) (s : Nat) : Nat := skp tx (s + rn tx fgB s)
theorem toNum_ev {w : WW} {tx : List Nat} (P : TP tx) (T : TC w tx) {p : Nat} (hp : p ≤ tx.length) (h4 : w.1 26 4 = nI p) {lo hi : Nat} (hlo : lo < 2 ^ 31) (hhi : hi < 2 ^ 31) : ∃ u, f_X4_stepToNumber w (nI lo) (nI hi) = some (b2i (okN tx (skp tx p) lo hi), u) ∧ RdC w u ∧ u.1 26 3 = nI (skp tx p) ∧ (okN tx (skp tx p) lo hi = true → u.1 26 4 = nI (skp tx p + rn tx fgB (skp tx p)) ∧ u.1 26 6 = nI (nvl tx (skp tx p)) ∧ skp tx p + rn tx fgB (skp tx p) ≤ tx.length ∧ p < skp tx p + rn tx fgB (skp tx p)) := by
  have hl := P.1
  obtain ⟨u, eu, u1, u3, u4, u5, u6⟩ := step_ev P T hp h4
  obtain ⟨hps, hs⟩ := skp_le hp
  generalize skp tx p = s at hps hs u3 u4 u5 u6 ⊢
  refine ⟨u, ?_, u1, u3, fun ho => ?_⟩
  · simp only [f_X4_stepToNumber, f_X4_stepToNumber_j28]
    rw [eu, Option.bind_some, u5]
    by_cases ht : tokS tx s = 1
    · have hn := (nvl_le (tok_1.mp ht)).1
      rw [ht, if_pos (show nI 1 = 1 from rfl), u6 ht, within_ev, Option.bind_some]
      have e : (nI lo ≤ nI (nvl tx s) ∧ nI (nvl tx s) ≤ nI hi) ↔ okN tx s lo hi = true := by
        rw [okN_iff, nI_leI (by omega) (by omega), nI_leI (by omega) (by omega)]
        exact ⟨fun h => ⟨tok_1.mp ht, h⟩, fun h => h.2⟩
      cases ho : okN tx s lo hi with
      | true => rw [if_pos (e.mpr ho), if_neg (by decide)]; rfl
      | false =>
        have hne : ¬ (nI lo ≤ nI (nvl tx s) ∧ nI (nvl tx s) ≤ nI hi) := fun q => by rw [e.mp q] at ho; cases ho
        rw [if_neg hne, if_pos rfl]; rfl
    · have h6 : tokS tx s ≤ 6 := by
        have := wdS_6 tx s
        unfold tokS
        split
        · split
          · split <;> omega
          · split
            · omega
            · split <;> omega
        · omega
      have ho : okN tx s lo hi = false := by
        cases q : okN tx s lo hi with
        | false => rfl
        | true => exact absurd (tok_1.mpr (okN_iff.mp q).1) ht
      rw [if_neg (by rw [show (1 : Int32) = nI 1 from rfl, nI_eq (by omega) (by omega)]; exact ht), ho]
      rfl
  · have hr := (okN_iff.mp ho).1
    obtain ⟨-, hn, hle⟩ := nvl_le hr
    have hf := (rn_pos (f := fgB) hn).mp (by omega)
    refine ⟨?_, u6 (tok_1.mpr hr), hle, by omega⟩
    rw [u4]
    unfold nxtS
    rw [if_pos hn, if_pos hf]
theorem toStop_ev {w : WW} {tx : List Nat} (P : TP tx) (T : TC w tx) {p : Nat} (hp : p ≤ tx.length) (h4 : w.1 26 4 = nI p) : ∃ u, f_X4_stepToStop w = some (b2i (okE tx (skp tx p)), u) ∧ RdC w u ∧ u.1 26 3 = nI (skp tx p) ∧ (okE tx (skp tx p) = true → u.1 26 4 = nI (skp tx p + 1) ∧ skp tx p + 1 ≤ tx.length) := by
  have hl := P.1
  obtain ⟨u, eu, u1, u3, u4, u5, u6⟩ := step_ev P T hp h4
  obtain ⟨hps, hs⟩ := skp_le hp
  generalize skp tx p = s at hps hs u3 u4 u5 u6 ⊢
  refine ⟨u, ?_, u1, u3, fun ho => ?_⟩
  · simp only [f_X4_stepToStop]
    rw [eu, Option.bind_some, u5]
    cases ho : okE tx s with
    | true => rw [tok_2.mpr ho, if_pos (show nI 2 = 2 from rfl)]; rfl
    | false =>
      have h6 : tokS tx s ≤ 6 := by
        have := wdS_6 tx s
        unfold tokS
        split
        · split
          · split <;> omega
          · split
            · omega
            · split <;> omega
        · omega
      rw [if_neg (fun e => by
        rw [show (2 : Int32) = nI 2 from rfl, nI_eq (by omega) (by omega)] at e
        rw [tok_2.mp e] at ho; cases ho)]
      rfl
  · have h := okE_iff.mp ho
    rw [u4]
    unfold nxtS
    rw [if_pos h.1, h.2, if_neg (by decide), if_neg (by decide)]
    exact ⟨rfl, h.1⟩

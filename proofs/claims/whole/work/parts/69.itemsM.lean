/-! words and items in the reference -/
theorem nI_c {a : Nat} (k : Nat) (ha : a < 128) (hk : k < 128) : nI a = nI k ↔ a = k := nI_eq (by omega) (by omega)
theorem word99 {w : WW} {tx : List Nat} (P : TP tx) (T : TM w tx) {s : Nat} (hs : s ≤ tx.length) (h4 : w.1 46 11 = nI s) : f_X8_wordHere_j99 w (nI (rn tx ltB s)) = some (if spl tx s 2 = true then 2 else -1) := by
  have hl := P.1
  have r1 := (rn_spec tx ltB hs).1
  have lt := fun i => P.2 (s + i)
  have le : ∀ i, s + i < tx.length → f_X8_letter w (nI i) = some (nI (tx.getD (s + i) 0)) := fun i hi => letter_ev P T h4 hi
  have iff := spl2_iff (tx := tx) (s := s)
  unfold f_X8_wordHere_j99 f_X8_wordHere_j149 f_X8_wordHere_j150 f_X8_wordHere_j201
  by_cases h8 : rn tx ltB s = 8
  · have l0 : f_X8_letter w 0 = _ := le 0 (by omega)
    have l1 : f_X8_letter w 1 = _ := le 1 (by omega)
    have l2 : f_X8_letter w 2 = _ := le 2 (by omega)
    have l3 : f_X8_letter w 3 = _ := le 3 (by omega)
    have l4 : f_X8_letter w 4 = _ := le 4 (by omega)
    have l5 : f_X8_letter w 5 = _ := le 5 (by omega)
    have l6 : f_X8_letter w 6 = _ := le 6 (by omega)
    have l7 : f_X8_letter w 7 = _ := le 7 (by omega)
    rw [if_pos (show nI (rn tx ltB s) = 8 by rw [h8]; rfl), l0, l1, l2, l3, l4, l5, l6, l7]
    simp only [Option.bind_some]
    have e0 : nI (tx.getD (s + 0) 0) = 113 ↔ tx.getD (s + 0) 0 = 113 := nI_c 113 (lt 0) (by omega)
    have e1 : nI (tx.getD (s + 1) 0) = 117 ↔ tx.getD (s + 1) 0 = 117 := nI_c 117 (lt 1) (by omega)
    have e2 : nI (tx.getD (s + 2) 0) = 101 ↔ tx.getD (s + 2) 0 = 101 := nI_c 101 (lt 2) (by omega)
    have e3 : nI (tx.getD (s + 3) 0) = 115 ↔ tx.getD (s + 3) 0 = 115 := nI_c 115 (lt 3) (by omega)
    have e4 : nI (tx.getD (s + 4) 0) = 116 ↔ tx.getD (s + 4) 0 = 116 := nI_c 116 (lt 4) (by omega)
    have e5 : nI (tx.getD (s + 5) 0) = 105 ↔ tx.getD (s + 5) 0 = 105 := nI_c 105 (lt 5) (by omega)
    have e6 : nI (tx.getD (s + 6) 0) = 111 ↔ tx.getD (s + 6) 0 = 111 := nI_c 111 (lt 6) (by omega)
    have e7 : nI (tx.getD (s + 7) 0) = 110 ↔ tx.getD (s + 7) 0 = 110 := nI_c 110 (lt 7) (by omega)
    by_cases c0 : tx.getD (s + 0) 0 = 113
    · rw [if_pos (e0.mpr c0)]
      by_cases c1 : tx.getD (s + 1) 0 = 117
      · rw [if_pos (e1.mpr c1)]
        by_cases c2 : tx.getD (s + 2) 0 = 101
        · rw [if_pos (e2.mpr c2)]
          by_cases c3 : tx.getD (s + 3) 0 = 115
          · rw [if_pos (e3.mpr c3), if_neg (show ¬ (1 : Int32) = 0 by decide)]
            by_cases c4 : tx.getD (s + 4) 0 = 116
            · rw [if_pos (e4.mpr c4)]
              by_cases c5 : tx.getD (s + 5) 0 = 105
              · rw [if_pos (e5.mpr c5)]
                by_cases c6 : tx.getD (s + 6) 0 = 111
                · rw [if_pos (e6.mpr c6)]
                  by_cases c7 : tx.getD (s + 7) 0 = 110
                  · rw [if_pos (e7.mpr c7), if_pos (iff.mpr ⟨h8, c0, c1, c2, c3, c4, c5, c6, c7⟩)]
                  · rw [if_neg (fun q => c7 (e7.mp q)), if_neg (fun q => c7 (iff.mp q).2.2.2.2.2.2.2.2)]
                · rw [if_neg (fun q => c6 (e6.mp q)), if_neg (fun q => c6 (iff.mp q).2.2.2.2.2.2.2.1)]
              · rw [if_neg (fun q => c5 (e5.mp q)), if_neg (fun q => c5 (iff.mp q).2.2.2.2.2.2.1)]
            · rw [if_neg (fun q => c4 (e4.mp q)), if_neg (fun q => c4 (iff.mp q).2.2.2.2.2.1)]
          · rw [if_neg (fun q => c3 (e3.mp q)), if_pos trivial, if_neg (fun q => c3 (iff.mp q).2.2.2.2.1)]
        · rw [if_neg (fun q => c2 (e2.mp q)), if_pos trivial, if_neg (fun q => c2 (iff.mp q).2.2.2.1)]
      · rw [if_neg (fun q => c1 (e1.mp q)), if_pos trivial, if_neg (fun q => c1 (iff.mp q).2.2.1)]
    · rw [if_neg (fun q => c0 (e0.mp q)), if_pos trivial, if_neg (fun q => c0 (iff.mp q).2.1)]
  · rw [if_neg (show ¬ nI (rn tx ltB s) = 8 by rw [show (8 : Int32) = nI 8 from rfl, nI_eq (by omega) (by omega)]; exact h8), if_pos rfl, if_neg (fun q => h8 (iff.mp q).1)]
theorem word52 {w : WW} {tx : List Nat} (P : TP tx) (T : TM w tx) {s : Nat} (hs : s ≤ tx.length) (h4 : w.1 46 11 = nI s) : f_X8_wordHere_j52 w (nI (rn tx ltB s)) = some (if spl tx s 1 = true then 1 else if spl tx s 2 = true then 2 else -1) := by
  have hl := P.1
  have r1 := (rn_spec tx ltB hs).1
  have lt := fun i => P.2 (s + i)
  have le : ∀ i, s + i < tx.length → f_X8_letter w (nI i) = some (nI (tx.getD (s + i) 0)) := fun i hi => letter_ev P T h4 hi
  have iff := spl1_iff (tx := tx) (s := s)
  unfold f_X8_wordHere_j52
  rw [word99 P T hs h4]
  by_cases h8 : rn tx ltB s = 4
  · have l0 : f_X8_letter w 0 = _ := le 0 (by omega)
    have l1 : f_X8_letter w 1 = _ := le 1 (by omega)
    have l2 : f_X8_letter w 2 = _ := le 2 (by omega)
    have l3 : f_X8_letter w 3 = _ := le 3 (by omega)
    rw [if_pos (show nI (rn tx ltB s) = 4 by rw [h8]; rfl), l0, l1, l2, l3]
    simp only [Option.bind_some]
    have e0 : nI (tx.getD (s + 0) 0) = 99 ↔ tx.getD (s + 0) 0 = 99 := nI_c 99 (lt 0) (by omega)
    have e1 : nI (tx.getD (s + 1) 0) = 97 ↔ tx.getD (s + 1) 0 = 97 := nI_c 97 (lt 1) (by omega)
    have e2 : nI (tx.getD (s + 2) 0) = 115 ↔ tx.getD (s + 2) 0 = 115 := nI_c 115 (lt 2) (by omega)
    have e3 : nI (tx.getD (s + 3) 0) = 101 ↔ tx.getD (s + 3) 0 = 101 := nI_c 101 (lt 3) (by omega)
    by_cases c0 : tx.getD (s + 0) 0 = 99
    · rw [if_pos (e0.mpr c0)]
      by_cases c1 : tx.getD (s + 1) 0 = 97
      · rw [if_pos (e1.mpr c1)]
        by_cases c2 : tx.getD (s + 2) 0 = 115
        · rw [if_pos (e2.mpr c2)]
          by_cases c3 : tx.getD (s + 3) 0 = 101
          · rw [if_pos (e3.mpr c3), if_pos (iff.mpr ⟨h8, c0, c1, c2, c3⟩)]
          · rw [if_neg (fun q => c3 (e3.mp q)), if_neg (show ¬ spl tx s 1 = true from fun q => c3 (iff.mp q).2.2.2.2)]
        · rw [if_neg (fun q => c2 (e2.mp q)), if_neg (show ¬ spl tx s 1 = true from fun q => c2 (iff.mp q).2.2.2.1)]
      · rw [if_neg (fun q => c1 (e1.mp q)), if_neg (show ¬ spl tx s 1 = true from fun q => c1 (iff.mp q).2.2.1)]
    · rw [if_neg (fun q => c0 (e0.mp q)), if_neg (show ¬ spl tx s 1 = true from fun q => c0 (iff.mp q).2.1)]
  · rw [if_neg (show ¬ nI (rn tx ltB s) = 4 by rw [show (4 : Int32) = nI 4 from rfl, nI_eq (by omega) (by omega)]; exact h8), if_neg (show ¬ spl tx s 1 = true from fun q => h8 (iff.mp q).1)]
theorem word_ev {w : WW} {tx : List Nat} (P : TP tx) (T : TM w tx) {s : Nat} (hs : s ≤ tx.length) (h4 : w.1 46 11 = nI s) : f_X8_wordHere w = some (if wdS tx s = 3 then 0 else if wdS tx s = 4 then 1 else if wdS tx s = 5 then 2 else -1) := by
  have hl := P.1
  have r1 := (rn_spec tx ltB hs).1
  have lt := fun i => P.2 (s + i)
  have le : ∀ i, s + i < tx.length → f_X8_letter w (nI i) = some (nI (tx.getD (s + i) 0)) := fun i hi => letter_ev P T h4 hi
  have iff := spl0_iff (tx := tx) (s := s)
  have fin : (if wdS tx s = 3 then (0 : Int32) else if wdS tx s = 4 then 1 else if wdS tx s = 5 then 2 else -1) = if spl tx s 0 = true then 0 else if spl tx s 1 = true then 1 else if spl tx s 2 = true then 2 else -1 := by
    unfold wdS
    cases spl tx s 0 <;> cases spl tx s 1 <;> cases spl tx s 2 <;> rfl
  rw [fin]
  unfold f_X8_wordHere
  rw [wordSize_ev P T hs h4, Option.bind_some, word52 P T hs h4]
  by_cases h8 : rn tx ltB s = 4
  · have l0 : f_X8_letter w 0 = _ := le 0 (by omega)
    have l1 : f_X8_letter w 1 = _ := le 1 (by omega)
    have l2 : f_X8_letter w 2 = _ := le 2 (by omega)
    have l3 : f_X8_letter w 3 = _ := le 3 (by omega)
    rw [if_pos (show nI (rn tx ltB s) = 4 by rw [h8]; rfl), l0, l1, l2, l3]
    simp only [Option.bind_some]
    have e0 : nI (tx.getD (s + 0) 0) = 102 ↔ tx.getD (s + 0) 0 = 102 := nI_c 102 (lt 0) (by omega)
    have e1 : nI (tx.getD (s + 1) 0) = 97 ↔ tx.getD (s + 1) 0 = 97 := nI_c 97 (lt 1) (by omega)
    have e2 : nI (tx.getD (s + 2) 0) = 105 ↔ tx.getD (s + 2) 0 = 105 := nI_c 105 (lt 2) (by omega)
    have e3 : nI (tx.getD (s + 3) 0) = 114 ↔ tx.getD (s + 3) 0 = 114 := nI_c 114 (lt 3) (by omega)
    by_cases c0 : tx.getD (s + 0) 0 = 102
    · rw [if_pos (e0.mpr c0)]
      by_cases c1 : tx.getD (s + 1) 0 = 97
      · rw [if_pos (e1.mpr c1)]
        by_cases c2 : tx.getD (s + 2) 0 = 105
        · rw [if_pos (e2.mpr c2)]
          by_cases c3 : tx.getD (s + 3) 0 = 114
          · rw [if_pos (e3.mpr c3), if_pos (iff.mpr ⟨h8, c0, c1, c2, c3⟩)]
          · rw [if_neg (fun q => c3 (e3.mp q)), if_neg (show ¬ spl tx s 0 = true from fun q => c3 (iff.mp q).2.2.2.2)]
        · rw [if_neg (fun q => c2 (e2.mp q)), if_neg (show ¬ spl tx s 0 = true from fun q => c2 (iff.mp q).2.2.2.1)]
      · rw [if_neg (fun q => c1 (e1.mp q)), if_neg (show ¬ spl tx s 0 = true from fun q => c1 (iff.mp q).2.2.1)]
    · rw [if_neg (fun q => c0 (e0.mp q)), if_neg (show ¬ spl tx s 0 = true from fun q => c0 (iff.mp q).2.1)]
  · rw [if_neg (show ¬ nI (rn tx ltB s) = 4 by rw [show (4 : Int32) = nI 4 from rfl, nI_eq (by omega) (by omega)]; exact h8), if_neg (show ¬ spl tx s 0 = true from fun q => h8 (iff.mp q).1)]
/-- the reference's draft -/
def DM (w : WW) (v : Vt) : Prop := w.1 46 12 = nI (v 0 0) ∧ w.1 46 13 = nI (v 0 1) ∧ (∀ x, x < 16 → w.1 54 x = nI (v 1 x)) ∧ ∀ i, i < v 0 1 → w.1 55 (3 * i) = nI (v 2 i) ∧ w.1 55 (3 * i + 1) = nI (v 3 i) ∧ w.1 55 (3 * i + 2) = nI (v 4 i)
def RmM (w u : WW) : Prop := (∀ k j, ¬ ((k = 46 ∧ (j = 11 ∨ j = 12 ∨ j = 13 ∨ j = 16)) ∨ k = 54 ∨ k = 55) → u.1 k j = w.1 k j) ∧ u.2 = w.2
theorem RmM.of {w u : WW} (h : RdM w u) : RmM w u := ⟨fun k j hk => h.1 k j (by omega), h.2⟩
theorem RmM.rf (w : WW) : RmM w w := ⟨fun _ _ _ => rfl, rfl⟩
theorem RmM.tr {a b c : WW} (h1 : RmM a b) (h2 : RmM b c) : RmM a c := ⟨fun k j h => (h2.1 k j h).trans (h1.1 k j h), h2.2.trans h1.2⟩
theorem RmM.sI {w : WW} {k j : Nat} {x : Int32} (h : (k = 46 ∧ (j = 11 ∨ j = 12 ∨ j = 13 ∨ j = 16)) ∨ k = 54 ∨ k = 55) : RmM w (sI w k j x) := ⟨fun a b hk => sI_ne _ _ (by omega), rfl⟩
theorem RmM.tm {w u : WW} {tx : List Nat} (h : RmM w u) (T : TM w tx) : TM u tx := ⟨(h.1 _ _ (by omega)).trans T.1, fun j hj => (h.1 _ _ (by omega)).trans (T.2 j hj)⟩
theorem RdM.dm {w u : WW} {v : Vt} (h : RdM w u) (D : DM w v) : DM u v := ⟨(h.1 _ _ (by omega)).trans D.1, (h.1 _ _ (by omega)).trans D.2.1, fun x hx => (h.1 _ _ (by omega)).trans (D.2.2.1 x hx), fun i hi => ⟨(h.1 _ _ (by omega)).trans (D.2.2.2 i hi).1, (h.1 _ _ (by omega)).trans (D.2.2.2 i hi).2.1, (h.1 _ _ (by omega)).trans (D.2.2.2 i hi).2.2⟩⟩
def EndM (w : WW) (o : Option (Int32 × WW)) (r : Bool × Nat × Vt) : Prop := ∃ u, o = some (b2i r.1, u) ∧ RmM w u ∧ u.1 46 11 = nI r.2.1 ∧ (r.1 = true → DM u r.2.2)
theorem stopM_ev {w0 w : WW} {tx : List Nat} (P : TP tx) (T : TM w tx) (W : RmM w0 w) {p : Nat} (hp : p ≤ tx.length) (h4 : w.1 46 11 = nI p) {v v' : Vt} (C : DM w v) : EndM w0 ((f_X8_ends w).bind (fun p8 => gd (p8.1 &&& 1 = p8.1) (some (p8.1, p8.2)))) (if okE tx (skp tx p) = false then (false, skp tx p, v') else (true, skp tx p + 1, v)) := by
  obtain ⟨u, eu, u1, u2⟩ := ends_ev P T hp h4
  refine ⟨u, ?_, W.tr (RmM.of u1), ?_, ?_⟩
  · rw [eu, Option.bind_some, gd_t (b2i_and _)]
    cases okE tx (skp tx p) <;> rfl
  · rw [u2]
    cases okE tx (skp tx p) <;> rfl
  · cases h : okE tx (skp tx p) with
    | false => rw [if_pos rfl]; exact fun e => by cases e
    | true => rw [if_neg (by decide)]; exact fun _ => u1.dm C
theorem readsCase_ev {w : WW} {tx : List Nat} (P : TP tx) (T : TM w tx) {p : Nat} (hp : p ≤ tx.length) (h4 : w.1 46 11 = nI p) {v : Vt} (D : Dr v) (C : DM w v) : EndM w (f_X8_readsCase w) (caseA tx (skp tx p) v) := by
  have hn : 1 ≤ v 0 0 ∧ v 0 0 ≤ 16 := D.1.1.1
  have e1 : w.1 46 12 - 1 = nI (v 0 0 - 1) := by rw [C.1]; exact pk_sub (b := 1) hn.1
  obtain ⟨u, eu, u1, u2, u3⟩ := number_ev P T hp h4 (lo := 0) (hi := v 0 0 - 1) (by omega) (by omega)
  unfold f_X8_readsCase caseA
  rw [e1, show (0 : Int32) = nI 0 from rfl, eu, Option.bind_some]
  cases h1 : okN tx (skp tx p) 0 (v 0 0 - 1) with
  | false =>
    rw [h1, if_neg (show ¬ false = true by decide)] at u2
    rw [if_pos rfl, if_pos (show b2i false = nI 0 from rfl)]
    exact ⟨u, rfl, RmM.of u1, u2, fun e => by cases e⟩
  | true =>
    rw [h1, if_pos rfl] at u2
    obtain ⟨a2, a3⟩ := u3 h1
    have hx := (okN_iff.mp h1).2.2
    obtain ⟨x, ex, x1, x2, x3⟩ := number_ev P (u1.tm T) a3 u2 (lo := 1) (hi := 9) (by omega) (by omega)
    have ex' : f_X8_number u 1 9 = _ := ex
    dsimp only
    rw [if_neg (show ¬ b2i true = nI 0 by decide), if_neg (show ¬ true = false by decide)]
    simp only [nmv, stI]
    rw [ex', Option.bind_some]
    show EndM w _ (if okN tx (nxn tx (skp tx p)) 1 9 = false then _ else _)
    cases h2 : okN tx (skp tx (skp tx p + rn tx fgB (skp tx p))) 1 9 with
    | false =>
      have h2' : okN tx (nxn tx (skp tx p)) 1 9 = false := h2
      rw [h2, if_neg (show ¬ false = true by decide)] at x2
      rw [if_pos h2', if_pos (show b2i false = nI 0 from rfl)]
      exact ⟨x, rfl, RmM.of (u1.tr x1), x2, fun e => by cases e⟩
    | true =>
      have h2' : okN tx (nxn tx (skp tx p)) 1 9 = true := h2
      rw [h2, if_pos rfl] at x2
      obtain ⟨b2, b3⟩ := x3 h2
      dsimp only
      rw [if_neg (show ¬ b2i true = nI 0 by decide), if_neg (show ¬ okN tx (nxn tx (skp tx p)) 1 9 = false by rw [h2']; decide), a2, gd_t (inb_n (by omega) (by omega)), cl_n (by omega), b2]
      have C2 := x1.dm (u1.dm C)
      have DM2 : DM (sI x 54 (nvl tx (skp tx p)) (nI (nvl tx (nxn tx (skp tx p))))) (vup v 1 (nvl tx (skp tx p)) (nvl tx (nxn tx (skp tx p)))) := by
        obtain ⟨d1, d2, d3, d4⟩ := C2
        refine ⟨by rw [sI_ne _ _ (by omega)]; simpa [vup] using d1, by rw [sI_ne _ _ (by omega)]; simpa [vup] using d2, fun y hy => ?_, fun i hi => ?_⟩
        · by_cases e : y = nvl tx (skp tx p)
          · rw [e, sI_at]; simp [vup]
          · rw [sI_ne _ _ (by omega), d3 y hy]; simp [vup, e]
        · have hi : i < v 0 1 := by simpa [vup] using hi
          rw [sI_ne _ _ (by omega), sI_ne _ _ (by omega), sI_ne _ _ (by omega)]
          simpa [vup] using d4 i hi
      exact stopM_ev P ((RmM.sI (by omega)).tm ((RmM.of x1).tm (u1.tm T))) (((RmM.of u1).tr (RmM.of x1)).tr (RmM.sI (by omega))) b3 (by rw [sI_ne _ _ (by omega)]; exact x2) DM2
theorem lpf_go {σ ρ : Type} {body : σ → Option (σ ⊕ ρ)} {s s' : σ} (h : body s = some (.inl s')) (F : Nat) : lpf body (F + 1) s = lpf body F s' := by rw [lpf_succ, h]; rfl
theorem lpf_ex {σ ρ : Type} {body : σ → Option (σ ⊕ ρ)} {s : σ} {r : ρ} (h : body s = some (.inr r)) (F : Nat) : lpf body (F + 1) s = some r := by rw [lpf_succ, h]; rfl
theorem FU_4 : FU = 99996 + 1 + 1 + 1 + 1 := rfl
theorem readsQuest_ev {w : WW} {tx : List Nat} (P : TP tx) (T : TM w tx) {p : Nat} (hp : p ≤ tx.length) (h4 : w.1 46 11 = nI p) {v : Vt} (hq : v 0 1 < 7) (C : DM w v) : EndM w (f_X8_readsQuestion w) (questA tx (skp tx p) v) := by
  obtain ⟨u, eu, u1, u2, u3⟩ := number_ev P T hp h4 (lo := 0) (hi := 5) (by omega) (by omega)
  have eu' : f_X8_number w 0 5 = _ := eu
  have b0 : f_X8_readsQuestion_b2 0 w = (f_X8_number w 0 5).bind (fun p2 => if p2.1 = 0 then some (.inr (.inl p2.2)) else gd (inb (((3 : Int32) * (p2.2.1 46 13)) + 0) 21) (stI p2.2 55 ((((3 : Int32) * (p2.2.1 46 13)) + 0)).toNatClampNeg (p2.2.1 46 16) (fun u3 => some (.inl ((0 + (1 : Int32)), u3))))) := rfl
  rw [eu', Option.bind_some] at b0
  unfold f_X8_readsQuestion questA
  rw [FU_4]
  cases h1 : okN tx (skp tx p) 0 5 with
  | false =>
    rw [h1, if_neg (show ¬ false = true by decide)] at u2
    rw [h1] at b0
    dsimp only at b0
    rw [if_pos (show b2i false = 0 from rfl)] at b0
    rw [lpf_ex (body := fun s : Int32 × WW => f_X8_readsQuestion_b2 s.1 s.2) b0, if_pos rfl]
    exact ⟨u, rfl, RmM.of u1, u2, fun e => by cases e⟩
  | true =>
    rw [h1, if_pos rfl] at u2
    obtain ⟨a2, a3⟩ := u3 h1
    have C1 := u1.dm C
    have hx := (okN_iff.mp h1).2.2
    rw [h1] at b0
    dsimp only at b0
    rw [if_neg (show ¬ b2i true = 0 by decide), C1.2.1, show (3 : Int32) * nI (v 0 1) + 0 = nI (3 * v 0 1) by rw [show (3 : Int32) = nI 3 from rfl, pk_mul, show (0 : Int32) = nI 0 from rfl, nI_add]; rfl, gd_t (inb_n (by omega) (by omega)), cl_n (by omega), a2] at b0
    simp only [stI] at b0
    rw [lpf_go (body := fun s : Int32 × WW => f_X8_readsQuestion_b2 s.1 s.2) b0, if_neg (show ¬ true = false by decide)]
    -- the second
    have R1 : RmM u (sI u 55 (3 * v 0 1) (nI (nvl tx (skp tx p)))) := RmM.sI (by omega)
    have p1 : (sI u 55 (3 * v 0 1) (nI (nvl tx (skp tx p)))).1 46 11 = nI (skp tx p + rn tx fgB (skp tx p)) := by rw [sI_ne _ _ (by omega)]; exact u2
    have q1 : (sI u 55 (3 * v 0 1) (nI (nvl tx (skp tx p)))).1 55 (3 * v 0 1) = nI (nvl tx (skp tx p)) := sI_at _ _ _ _
    have c1 : DM (sI u 55 (3 * v 0 1) (nI (nvl tx (skp tx p)))) v := by
      obtain ⟨d1, d2, d3, d4⟩ := C1
      exact ⟨by rw [sI_ne _ _ (by omega)]; exact d1, by rw [sI_ne _ _ (by omega)]; exact d2, fun y hy => by rw [sI_ne _ _ (by omega)]; exact d3 y hy, fun i hi => by rw [sI_ne _ _ (by omega), sI_ne _ _ (by omega), sI_ne _ _ (by omega)]; exact d4 i hi⟩
    generalize sI u 55 (3 * v 0 1) (nI (nvl tx (skp tx p))) = y at R1 p1 q1 c1 ⊢
    have Ty : TM y tx := R1.tm (u1.tm T)
    obtain ⟨x, ex, x1, x2, x3⟩ := number_ev P Ty a3 p1 (lo := 0) (hi := 15) (by omega) (by omega)
    have ex' : f_X8_number y 0 15 = _ := ex
    have b1 : f_X8_readsQuestion_b2 (0 + 1) y = (f_X8_number y 0 15).bind (fun p2 => if p2.1 = 0 then some (.inr (.inl p2.2)) else gd (inb (((3 : Int32) * (p2.2.1 46 13)) + 1) 21) (stI p2.2 55 ((((3 : Int32) * (p2.2.1 46 13)) + 1)).toNatClampNeg (p2.2.1 46 16) (fun u3 => some (.inl ((1 + (1 : Int32)), u3))))) := rfl
    rw [ex', Option.bind_some] at b1
    show EndM w _ (if okN tx (nxn tx (skp tx p)) 0 15 = false then _ else _)
    cases h2 : okN tx (skp tx (skp tx p + rn tx fgB (skp tx p))) 0 15 with
    | false =>
      have h2' : okN tx (nxn tx (skp tx p)) 0 15 = false := h2
      rw [h2, if_neg (show ¬ false = true by decide)] at x2
      rw [h2] at b1
      dsimp only at b1
      rw [if_pos (show b2i false = 0 from rfl)] at b1
      rw [lpf_ex (body := fun s : Int32 × WW => f_X8_readsQuestion_b2 s.1 s.2) b1, if_pos h2']
      exact ⟨x, rfl, ((RmM.of u1).tr R1).tr (RmM.of x1), x2, fun e => by cases e⟩
    | true =>
      have h2' : okN tx (nxn tx (skp tx p)) 0 15 = true := h2
      rw [h2, if_pos rfl] at x2
      obtain ⟨bb2, bb3⟩ := x3 h2
      have C2 := x1.dm c1
      rw [h2] at b1
      dsimp only at b1
      rw [if_neg (show ¬ b2i true = 0 by decide), C2.2.1, show (3 : Int32) * nI (v 0 1) + 1 = nI (3 * v 0 1 + 1) by rw [show (3 : Int32) = nI 3 from rfl, pk_mul, nI_1], gd_t (inb_n (by omega) (by omega)), cl_n (by omega), bb2] at b1
      simp only [stI] at b1
      rw [lpf_go (body := fun s : Int32 × WW => f_X8_readsQuestion_b2 s.1 s.2) b1, if_neg (show ¬ okN tx (nxn tx (skp tx p)) 0 15 = false by rw [h2']; decide)]
      -- the third
      have R2 : RmM x (sI x 55 (3 * v 0 1 + 1) (nI (nvl tx (nxn tx (skp tx p))))) := RmM.sI (by omega)
      have p2 : (sI x 55 (3 * v 0 1 + 1) (nI (nvl tx (nxn tx (skp tx p))))).1 46 11 = nI (nxn tx (skp tx p) + rn tx fgB (nxn tx (skp tx p))) := by rw [sI_ne _ _ (by omega)]; exact x2
      have q2 : (sI x 55 (3 * v 0 1 + 1) (nI (nvl tx (nxn tx (skp tx p))))).1 55 (3 * v 0 1) = nI (nvl tx (skp tx p)) := by rw [sI_ne _ _ (by omega), x1.1 _ _ (by omega)]; exact q1
      have q3 : (sI x 55 (3 * v 0 1 + 1) (nI (nvl tx (nxn tx (skp tx p))))).1 55 (3 * v 0 1 + 1) = nI (nvl tx (nxn tx (skp tx p))) := sI_at _ _ _ _
      have c2 : DM (sI x 55 (3 * v 0 1 + 1) (nI (nvl tx (nxn tx (skp tx p))))) v := by
        obtain ⟨d1, d2, d3, d4⟩ := C2
        exact ⟨by rw [sI_ne _ _ (by omega)]; exact d1, by rw [sI_ne _ _ (by omega)]; exact d2, fun y hy => by rw [sI_ne _ _ (by omega)]; exact d3 y hy, fun i hi => by rw [sI_ne _ _ (by omega), sI_ne _ _ (by omega), sI_ne _ _ (by omega)]; exact d4 i hi⟩
      have bb3' : nxn tx (skp tx p) + rn tx fgB (nxn tx (skp tx p)) ≤ tx.length := bb3
      show EndM w ((lpf (fun s : Int32 × WW => f_X8_readsQuestion_b2 s.1 s.2) (99996 + 1 + 1) (1 + 1, sI x 55 (3 * v 0 1 + 1) (nI (nvl tx (nxn tx (skp tx p)))))).bind _) _
      generalize sI x 55 (3 * v 0 1 + 1) (nI (nvl tx (nxn tx (skp tx p)))) = z at R2 p2 q2 q3 c2 ⊢
      have Tz : TM z tx := R2.tm (x1.tm Ty)
      obtain ⟨t, et, t1, t2, t3⟩ := number_ev P Tz bb3' p2 (lo := 0) (hi := 99) (by omega) (by omega)
      have et' : f_X8_number z 0 99 = _ := et
      have b2 : f_X8_readsQuestion_b2 (1 + 1) z = (f_X8_number z 0 99).bind (fun p2 => if p2.1 = 0 then some (.inr (.inl p2.2)) else gd (inb (((3 : Int32) * (p2.2.1 46 13)) + 2) 21) (stI p2.2 55 ((((3 : Int32) * (p2.2.1 46 13)) + 2)).toNatClampNeg (p2.2.1 46 16) (fun u3 => some (.inl ((2 + (1 : Int32)), u3))))) := rfl
      rw [et', Option.bind_some] at b2
      show EndM w _ (if okN tx (nxn tx (nxn tx (skp tx p))) 0 99 = false then _ else _)
      cases h3 : okN tx (skp tx (nxn tx (skp tx p) + rn tx fgB (nxn tx (skp tx p)))) 0 99 with
      | false =>
        have h3' : okN tx (nxn tx (nxn tx (skp tx p))) 0 99 = false := h3
        rw [h3, if_neg (show ¬ false = true by decide)] at t2
        rw [h3] at b2
        dsimp only at b2
        rw [if_pos (show b2i false = 0 from rfl)] at b2
        rw [lpf_ex (body := fun s : Int32 × WW => f_X8_readsQuestion_b2 s.1 s.2) b2, if_pos h3']
        exact ⟨t, rfl, ((((RmM.of u1).tr R1).tr (RmM.of x1)).tr R2).tr (RmM.of t1), t2, fun e => by cases e⟩
      | true =>
        have h3' : okN tx (nxn tx (nxn tx (skp tx p))) 0 99 = true := h3
        rw [h3, if_pos rfl] at t2
        obtain ⟨cc2, cc3⟩ := t3 h3
        have C3 := t1.dm c2
        rw [h3] at b2
        dsimp only at b2
        rw [if_neg (show ¬ b2i true = 0 by decide), C3.2.1, show (3 : Int32) * nI (v 0 1) + 2 = nI (3 * v 0 1 + 2) by rw [show (3 : Int32) = nI 3 from rfl, pk_mul, show (2 : Int32) = nI 2 from rfl, nI_add], gd_t (inb_n (by omega) (by omega)), cl_n (by omega), cc2] at b2
        simp only [stI] at b2
        have b3 : f_X8_readsQuestion_b2 (2 + 1) (sI t 55 (3 * v 0 1 + 2) (nI (nvl tx (skp tx (nxn tx (skp tx p) + rn tx fgB (nxn tx (skp tx p))))))) = some (.inr (.inr (sI t 55 (3 * v 0 1 + 2) (nI (nvl tx (skp tx (nxn tx (skp tx p) + rn tx fgB (nxn tx (skp tx p))))))))) := rfl
        rw [lpf_go (body := fun s : Int32 × WW => f_X8_readsQuestion_b2 s.1 s.2) b2, lpf_ex (body := fun s : Int32 × WW => f_X8_readsQuestion_b2 s.1 s.2) b3, if_neg (show ¬ okN tx (nxn tx (nxn tx (skp tx p))) 0 99 = false by rw [h3']; decide), Option.bind_some]
        simp only [Sum.elim_inr, stI]
        rw [show (sI t 55 (3 * v 0 1 + 2) (nI (nvl tx (skp tx (nxn tx (skp tx p) + rn tx fgB (nxn tx (skp tx p))))))).1 46 13 = nI (v 0 1) by rw [sI_ne _ _ (by omega)]; exact C3.2.1, nI_1]
        have DM2 : DM (sI (sI t 55 (3 * v 0 1 + 2) (nI (nvl tx (skp tx (nxn tx (skp tx p) + rn tx fgB (nxn tx (skp tx p))))))) 46 13 (nI (v 0 1 + 1))) (addV v (nvl tx (skp tx p)) (nvl tx (nxn tx (skp tx p))) (nvl tx (nxn tx (nxn tx (skp tx p))))) := by
          obtain ⟨d1, d2, d3, d4⟩ := C3
          refine ⟨by rw [sI_ne _ _ (by omega), sI_ne _ _ (by omega)]; simpa [addV_0] using d1, by rw [sI_at]; simp [addV_0], fun y hy => by rw [sI_ne _ _ (by omega), sI_ne _ _ (by omega)]; simpa [addV_1] using d3 y hy, fun i hi => ?_⟩
          have hi : i < v 0 1 + 1 := by simpa [addV_0] using hi
          rw [addV_2, addV_3, addV_4]
          by_cases e : i = v 0 1
          · subst e
            rw [if_pos rfl, if_pos rfl, if_pos rfl]
            refine ⟨?_, ?_, ?_⟩
            · rw [sI_ne _ _ (by omega), sI_ne _ _ (by omega), t1.1 _ _ (by omega)]; exact q2
            · rw [sI_ne _ _ (by omega), sI_ne _ _ (by omega), t1.1 _ _ (by omega)]; exact q3
            · rw [sI_ne _ _ (by omega), sI_at]; rfl
          · rw [if_neg e, if_neg e, if_neg e, sI_ne _ _ (by omega), sI_ne _ _ (by omega), sI_ne _ _ (by omega), sI_ne _ _ (by omega), sI_ne _ _ (by omega), sI_ne _ _ (by omega)]
            exact d4 i (by omega)
        have RR : RmM t (sI (sI t 55 (3 * v 0 1 + 2) (nI (nvl tx (skp tx (nxn tx (skp tx p) + rn tx fgB (nxn tx (skp tx p))))))) 46 13 (nI (v 0 1 + 1))) := (RmM.sI (by omega)).tr (RmM.sI (by omega))
        exact stopM_ev P (RR.tm (t1.tm Tz)) (((((RmM.of u1).tr R1).tr (RmM.of x1)).tr R2).tr ((RmM.of t1).tr RR)) cc3 (by rw [sI_ne _ _ (by omega), sI_ne _ _ (by omega)]; exact t2) DM2
theorem readsFirst_ev {w : WW} {tx : List Nat} (P : TP tx) (T : TM w tx) {p : Nat} (hp : p ≤ tx.length) (h4 : w.1 46 11 = nI p) (h13 : w.1 46 13 = nI 0) (h54 : ∀ x, x < 16 → w.1 54 x = nI 1) : EndM w (f_X8_readsFirst w) (fairA tx (skp tx p)) := by
  have hl := P.1
  have hsk := skipM_ev P T hp h4
  obtain ⟨-, hs⟩ := skp_le hp
  generalize skp tx p = s at hsk hs ⊢
  have bR : RdM w (sI w 46 11 (nI s)) := RdM.sI (by omega)
  have bT := bR.tm T
  have b4 : (sI w 46 11 (nI s)).1 46 11 = nI s := sI_at _ _ _ _
  unfold f_X8_readsFirst fairA
  rw [hsk, Option.bind_some]
  generalize sI w 46 11 (nI s) = x at bR bT b4 ⊢
  rw [word_ev P bT hs b4, Option.bind_some]
  by_cases h0 : wdS tx s = 3
  · have hw := word_le (tx := tx) (s := s) (by omega)
    rw [if_neg (by omega)] at hw
    rw [if_pos h0, if_pos rfl, if_pos h0]
    simp only [stI]
    rw [b4, show nI s + 4 = nI (s + 4) by rw [show (4 : Int32) = nI 4 from rfl, nI_add]]
    have cR : RdM w (sI x 46 11 (nI (s + 4))) := bR.tr (RdM.sI (by omega))
    obtain ⟨u, eu, u1, u2, u3⟩ := number_ev P (cR.tm T) (p := s + 4) hw (sI_at _ _ _ _) (lo := 1) (hi := 16) (by omega) (by omega)
    have eu' : f_X8_number (sI x 46 11 (nI (s + 4))) 1 16 = _ := eu
    rw [eu', Option.bind_some]
    cases h1 : okN tx (skp tx (s + 4)) 1 16 with
    | false =>
      rw [h1, if_neg (show ¬ false = true by decide)] at u2
      rw [if_pos (show b2i false = 0 from rfl), if_pos rfl]
      exact ⟨u, rfl, RmM.of (cR.tr u1), u2, fun e => by cases e⟩
    | true =>
      rw [h1, if_pos rfl] at u2
      obtain ⟨a2, a3⟩ := u3 h1
      dsimp only
      rw [if_neg (show ¬ b2i true = 0 by decide), if_neg (show ¬ true = false by decide), a2]
      have R2 := cR.tr u1
      have DM2 : DM (sI u 46 12 (nI (nvl tx (skp tx (s + 4))))) (v0 (nvl tx (skp tx (s + 4)))) := ⟨sI_at _ _ _ _, by rw [sI_ne _ _ (by omega), R2.1 _ _ (by omega)]; exact h13, fun y hy => by rw [sI_ne _ _ (by omega), R2.1 _ _ (by omega)]; exact h54 y hy, fun i hi => by simp [v0] at hi⟩
      exact stopM_ev P ((RmM.sI (by omega)).tm (R2.tm T)) ((RmM.of R2).tr (RmM.sI (by omega))) a3 (by rw [sI_ne _ _ (by omega)]; exact u2) DM2
  · rw [if_neg h0, if_neg h0]
    have hne : ¬ (if wdS tx s = 4 then (1 : Int32) else if wdS tx s = 5 then 2 else -1) = 0 := by
      by_cases a : wdS tx s = 4
      · rw [if_pos a]; decide
      · rw [if_neg a]
        by_cases b : wdS tx s = 5
        · rw [if_pos b]; decide
        · rw [if_neg b]; decide
    rw [if_neg hne]
    exact ⟨x, rfl, RmM.of bR, b4, fun e => by cases e⟩
theorem EndM.gd {w : WW} {o : Option (Int32 × WW)} {r : Bool × Nat × Vt} (h : EndM w o r) : EndM w (o.bind (fun p7 => gd (p7.1 &&& 1 = p7.1) (some (p7.1, p7.2)))) r := by
  obtain ⟨u, e, h⟩ := h
  exact ⟨u, by rw [e, Option.bind_some, gd_t (b2i_and _)], h⟩
theorem EndM.from {w0 w : WW} {o : Option (Int32 × WW)} {r : Bool × Nat × Vt} (R : RmM w0 w) (h : EndM w o r) : EndM w0 o r := by
  obtain ⟨u, e, h1, h2⟩ := h
  exact ⟨u, e, R.tr h1, h2⟩
theorem readsItem_ev {w : WW} {tx : List Nat} (P : TP tx) (T : TM w tx) {s : Nat} (hs : s ≤ tx.length) (h4 : w.1 46 11 = nI s) {v : Vt} (D : Dr v) (C : DM w v) : EndM w (f_X8_readsItem w) (itemA tx s v) := by
  have hl := P.1
  have h6 := wdS_6 tx s
  have hq7 : v 0 1 ≤ 7 := D.1.1.2.1
  unfold f_X8_readsItem f_X8_readsItem_j24 f_X8_readsItem_j26 itemA
  rw [word_ev P T hs h4, Option.bind_some]
  have stay : EndM w (some (0, w)) (false, s, v) := ⟨w, rfl, RmM.rf w, h4, fun e => by cases e⟩
  by_cases h3 : wdS tx s = 3
  · rw [if_pos h3, if_pos (by decide), if_neg (by omega), if_neg (by omega)]
    exact stay
  · rw [if_neg h3]
    by_cases hw4 : wdS tx s = 4
    · have hw := word_le (tx := tx) (s := s) (by omega)
      rw [if_neg (by omega)] at hw
      rw [if_pos hw4, if_neg (by decide), if_neg (by decide), if_pos rfl, if_pos hw4]
      simp only [f_X8_readsItem_j42, stI]
      rw [if_pos trivial, h4, show nI s + 4 = nI (s + 4) by rw [show (4 : Int32) = nI 4 from rfl, nI_add]]
      have cR : RdM w (sI w 46 11 (nI (s + 4))) := RdM.sI (by omega)
      exact ((readsCase_ev P (cR.tm T) hw (sI_at _ _ _ _) D (cR.dm C)).from (RmM.of cR)).gd
    · rw [if_neg hw4, if_neg hw4]
      by_cases hw5 : wdS tx s = 5
      · have hw := word_le (tx := tx) (s := s) (by omega)
        rw [if_pos hw5] at hw
        rw [if_pos hw5, if_neg (by decide), if_pos rfl, C.2.1]
        by_cases hq : v 0 1 < 7
        · rw [if_neg (by rw [show (7 : Int32) = nI 7 from rfl, nI_eq (by omega) (by omega)]; omega), if_neg (by decide), if_pos ⟨hw5, hq⟩]
          simp only [f_X8_readsItem_j42, stI]
          rw [if_neg (by decide), h4, show nI s + 8 = nI (s + 8) by rw [show (8 : Int32) = nI 8 from rfl, nI_add]]
          have cR : RdM w (sI w 46 11 (nI (s + 8))) := RdM.sI (by omega)
          exact ((readsQuest_ev P (cR.tm T) hw (sI_at _ _ _ _) hq (cR.dm C)).from (RmM.of cR)).gd
        · rw [show v 0 1 = 7 by omega, if_pos (show nI 7 = 7 from rfl), if_neg (by omega)]
          exact stay
      · rw [if_neg hw5, if_pos (by decide), if_neg (fun e => hw5 e.1)]
        exact stay

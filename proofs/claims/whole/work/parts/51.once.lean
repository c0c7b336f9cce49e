/-! all bought at once -/
def csB (v : Vt) (T : Nat → Bool) : Nat := fb_sm (fun q => if T q = true then v 4 q else 0) (v 0 1)
theorem csB_le {v : Vt} (R : Rg v) (T : Nat → Bool) : csB v T ≤ 693 := by
  have hq := R.2.1
  have := fb_sm_bound (f := fun q => if T q = true then v 4 q else 0) (c := 99) (n := v 0 1) (fun k hk => by
    have := R.2.2.2.2.1 k hk
    split <;> omega)
  unfold csB; omega
theorem penceOf_ev {w : WW} {b : Nat} {v : Vt} (C : CSt w b v) (R : Rg v) (T : Nat → Bool) : f_X6_penceOf b w (bs T) = some (nI (csB v T)) := by
  have hn := R.2.1
  unfold f_X6_penceOf
  have h := lpf_seq (body := fun s : Int32 × Int32 => f_X6_penceOf_b4 b w (bs T) s.1 s.2) (fun k => (nI (fb_sm (fun q => if T q = true then v 4 q else 0) k), nI k)) (v 0 1) (nI (csB v T)) (by omega) (fun k hk => ?_) ?_
  · rw [show ((0 : Int32), (0 : Int32)) = (nI (fb_sm (fun q => if T q = true then v 4 q else 0) 0), nI 0) from rfl, h]; rfl
  · simp only [f_X6_penceOf_b4, f_X6_penceOf_j30, C.2.1, nmv]
    rw [if_neg (nI_ge hk (by omega)), nI_1, fb_sm_succ]
    by_cases h : T k = true
    · rw [if_pos ((bs_hasT (by omega)).mpr h), gd_t (inb_n (by omega) (by omega)), cl_n (by omega), (C.2.2.2.2.1 k hk).2.2, nI_add, if_pos h]
    · rw [if_neg (fun e => h ((bs_hasT (by omega)).mp e)), if_neg h]; rfl
  · simp only [f_X6_penceOf_b4, C.2.1]
    rw [if_pos (nI_le (Nat.le_refl _) (by omega))]; rfl
theorem costOf_ev {w : WW} {v : Vt} (C : MSt w v) (R : Rg v) (T : Nat → Bool) : f_X8_costOf w (bs T) = some (nI (csB v T)) := by
  have hn := R.2.1
  unfold f_X8_costOf
  have h := lpf_seq (body := fun s : Int32 × Int32 => f_X8_costOf_b4 w (bs T) s.1 s.2) (fun k => (nI (fb_sm (fun q => if T q = true then v 4 q else 0) k), nI k)) (v 0 1) (nI (csB v T)) (by omega) (fun k hk => ?_) ?_
  · rw [show ((0 : Int32), (0 : Int32)) = (nI (fb_sm (fun q => if T q = true then v 4 q else 0) 0), nI 0) from rfl, h]; rfl
  · simp only [f_X8_costOf_b4, f_X8_costOf_j31, C.2.1, nmv]
    rw [if_neg (nI_ge hk (by omega)), nI_1, fb_sm_succ, hasM w T (by omega), Option.bind_some]
    by_cases h : T k = true
    · rw [if_pos h, if_neg (by decide), gd_t (inb_n (by omega) (by omega)), cl_n (by omega), (C.2.2.2.2.1 k hk).2.2, nI_add, if_pos h]
    · rw [if_neg h, if_pos (by decide), if_neg h, show (0 : Int32) = nI 0 from rfl, nI_add]
  · simp only [f_X8_costOf_b4, C.2.1]
    rw [if_pos (nI_le (Nat.le_refl _) (by omega))]; rfl
/-- the cases of P that the questions of T don't part from all others -/
def nyk (v : Vt) (T P : Nat → Bool) (x : Nat) : Bool := P x && !allB (fun y => !(P y && bh v T x y) || decide (y = x)) 16
theorem only_iff {v : Vt} {T P : Nat → Bool} {x : Nat} (hP : P x = true) : bs (fun y => P y && bh v T x y) = bs (fun y => decide (y = x)) ↔ allB (fun y => !(P y && bh v T x y) || decide (y = x)) 16 = true := by
  rw [bs_inj, allB_iff]
  refine ⟨fun h y hy => ?_, fun h y hy => ?_⟩
  · rw [h y hy]; cases decide (y = x) <;> rfl
  · have := h y hy
    by_cases e : y = x
    · subst e; simp [hP, bh_self]
    · cases py : P y with
      | false => simp [e]
      | true =>
        rw [py] at this
        simp [e] at this ⊢
        exact this
theorem notYetKnown_ev {w : WW} {b : Nat} {v : Vt} (C : CSt w b v) (R : Rg v) (T : Nat → Bool) {P : Nat → Bool} (hP : ∀ x, x < 16 → P x = true → x < v 0 0) : f_X6_notYetKnown b w (bs T) (bs P) = some (bs (nyk v T P)) := by
  have hn := R.1.2
  unfold f_X6_notYetKnown
  have h := lpf_seq (body := fun s : Int32 × Int32 => f_X6_notYetKnown_b5 b w (bs T) (bs P) s.1 s.2) (fun k => (bs (fun x => decide (x < k) && nyk v T P x), nI k)) (v 0 0) (bs (nyk v T P)) (by omega) (fun k hk => ?_) ?_
  · rw [st_bs0 (P := fun x => decide (x < 0) && nyk v T P x) (fun i _ => by simp), h]; rfl
  · simp only [f_X6_notYetKnown_b5, f_X6_notYetKnown_j46, C.1, nmv]
    rw [if_neg (nI_ge hk (by omega)), nI_1]
    have stay : nyk v T P k = false → ∀ x, x < 16 → (decide (x < k) && nyk v T P x) = (decide (x < k + 1) && nyk v T P x) := fun hf x _ => by
      by_cases hx : x = k
      · subst hx; simp [hf]
      · have : (x < k + 1) = (x < k) := by simp; omega
        simp [this]
    by_cases h : P k = true
    · rw [if_pos ((bs_hasT (by omega)).mpr h), behind_ev C R T P (by omega), Option.bind_some, bs_one (by omega)]
      by_cases e : bs (fun y => P y && bh v T k y) = bs (fun y => decide (y = k))
      · rw [if_pos e]
        refine pr_bs (stay ?_)
        unfold nyk
        rw [(only_iff h).mp e]
        simp
      · rw [if_neg e, bs_or]
        refine pr_bs (fun x _ => ?_)
        by_cases hx : x = k
        · subst hx
          have : nyk v T P x = true := by
            unfold nyk
            rw [h]
            cases q : allB (fun y => !(P y && bh v T x y) || decide (y = x)) 16 with
            | false => rfl
            | true => exact absurd ((only_iff h).mpr q) e
          simp [this]
        · have : (x < k + 1) = (x < k) := by simp; omega
          simp [hx, this]
    · rw [if_neg (fun e => h ((bs_hasT (by omega)).mp e))]
      refine pr_bs (stay ?_)
      unfold nyk
      simp [h]
  · simp only [f_X6_notYetKnown_b5, C.1]
    rw [if_pos (nI_le (Nat.le_refl _) (by omega)), bs_congr (P := fun x => decide (x < v 0 0) && nyk v T P x) (Q := nyk v T P) (fun x hx => ?_)]
    unfold nyk
    cases e : P x with
    | false => simp
    | true => simp [hP x hx e]
/-- a set of questions parts all of P -/
def okp (v : Vt) (P T : Nat → Bool) (x y : Nat) : Bool := !(P x && P y) || !bh v T x y
def tll (v : Vt) (P T : Nat → Bool) : Bool := allB (fun x => allB (okp v P T x) x) (v 0 0)
theorem tll_iff {v : Vt} {P T : Nat → Bool} : tll v P T = true ↔ ∀ x y, x < v 0 0 → y < v 0 0 → P x = true → P y = true → bh v T x y = true → y = x := by
  unfold tll
  rw [allB_iff]
  constructor
  · intro h x y hx hy px py hb
    rcases Nat.lt_trichotomy x y with e | e | e
    · have := allB_iff.mp (h y hy) x e
      unfold okp at this
      rw [px, py, bh_symm, hb] at this
      cases this
    · exact e.symm
    · have := allB_iff.mp (h x hx) y e
      unfold okp at this
      rw [px, py, hb] at this
      cases this
  · intro h x hx
    refine allB_iff.mpr (fun y hy => ?_)
    unfold okp
    cases px : P x with
    | false => rfl
    | true =>
      cases py : P y with
      | false => rfl
      | true =>
        cases hb : bh v T x y with
        | false => rfl
        | true => have := h x y hx (by omega) px py hb; omega
theorem nyk0 {v : Vt} (hn : v 0 0 ≤ 16) {T P : Nat → Bool} (hP : ∀ x, x < 16 → P x = true → x < v 0 0) : bs (nyk v T P) = 0 ↔ tll v P T = true := by
  rw [bs_eq0, tll_iff]
  constructor
  · intro h x y hx hy px py hb
    have := h x (by omega)
    unfold nyk at this
    rw [px] at this
    have h2 := allB_iff.mp (by simpa using this) y (by omega)
    rw [py, hb] at h2
    simpa using h2
  · intro h x hx
    unfold nyk
    cases px : P x with
    | false => rfl
    | true =>
      have : allB (fun y => !(P y && bh v T x y) || decide (y = x)) 16 = true := allB_iff.mpr (fun y hy => by
        cases py : P y with
        | false => simp
        | true =>
          cases hb : bh v T x y with
          | false => simp
          | true => simp [h x y (hP x hx px) (hP y hy py) px py hb])
      rw [this]; rfl
/-- the first of the cheapest, and smallest -/
def scan (F : Nat → Bool) (c p : Nat → Nat) : Nat → Option Nat
  | 0 => none
  | k + 1 => if F k = true then (match scan F c p k with
    | none => some k
    | some b => if c k < c b ∨ (c k = c b ∧ p k < p b) then some k else some b) else scan F c p k
def LX (c p : Nat → Nat) (a s : Nat) : Prop := c a < c s ∨ (c a = c s ∧ (p a < p s ∨ (p a = p s ∧ a ≤ s)))
theorem scan_char (F : Nat → Bool) (c p : Nat → Nat) : ∀ n, (scan F c p n = none ∧ ∀ s, s < n → F s = false) ∨ ∃ b, scan F c p n = some b ∧ b < n ∧ F b = true ∧ ∀ s, s < n → F s = true → LX c p b s
  | 0 => Or.inl ⟨rfl, fun s hs => by omega⟩
  | n + 1 => by
    rw [scan]
    rcases scan_char F c p n with ⟨a, h⟩ | ⟨b, a, h1, h2, h3⟩
    · rw [a]
      by_cases hF : F n = true
      · rw [if_pos hF]
        refine Or.inr ⟨n, rfl, by omega, hF, fun s hs hs2 => ?_⟩
        by_cases e : s = n
        · subst e; unfold LX; omega
        · have := h s (by omega)
          rw [hs2] at this; cases this
      · rw [if_neg hF]
        exact Or.inl ⟨rfl, fun s hs => by
          by_cases e : s = n
          · subst e; simpa using hF
          · exact h s (by omega)⟩
    · rw [a]
      by_cases hF : F n = true
      · rw [if_pos hF]
        dsimp only
        by_cases hb : c n < c b ∨ (c n = c b ∧ p n < p b)
        · rw [if_pos hb]
          refine Or.inr ⟨n, rfl, by omega, hF, fun s hs hs2 => ?_⟩
          by_cases e : s = n
          · subst e; unfold LX; omega
          · have := h3 s (by omega) hs2
            unfold LX at this ⊢
            omega
        · rw [if_neg hb]
          refine Or.inr ⟨b, rfl, by omega, h2, fun s hs hs2 => ?_⟩
          by_cases e : s = n
          · subst e; unfold LX; omega
          · exact h3 s (by omega) hs2
      · rw [if_neg hF]
        refine Or.inr ⟨b, rfl, by omega, h2, fun s hs hs2 => ?_⟩
        by_cases e : s = n
        · subst e; exact absurd hs2 hF
        · exact h3 s (by omega) hs2
theorem scan_is {F : Nat → Bool} {c p : Nat → Nat} {n b : Nat} (h1 : b < n) (h2 : F b = true) (h3 : ∀ s, s < n → F s = true → LX c p b s) : scan F c p n = some b := by
  rcases scan_char F c p n with ⟨-, h⟩ | ⟨a, e, a1, a2, a3⟩
  · have := h b h1
    rw [h2] at this; cases this
  · rw [e]
    have q1 := h3 a a1 a2
    have q2 := a3 b h1 h2
    unfold LX at q1 q2
    congr 1
    omega
theorem scan_congr {F G : Nat → Bool} {c d p : Nat → Nat} : ∀ {n : Nat}, (∀ s, s < n → F s = G s ∧ c s = d s) → scan F c p n = scan G d p n
  | 0, _ => rfl
  | n + 1, h => by
    have ih := scan_congr (F := F) (G := G) (c := c) (d := d) (p := p) (n := n) (fun s hs => h s (by omega))
    rw [scan, scan, ih, (h n (by omega)).1]
    rcases scan_char G d p n with ⟨e, -⟩ | ⟨b, e, e2, -⟩
    · rw [e]
    · rw [e]
      dsimp only
      rw [(h n (by omega)).2, (h b (by omega)).2]
def cs (v : Vt) (s : Nat) : Nat := csB v s.testBit
def pop (s : Nat) : Nat := cnt s.testBit
def oS : Option Nat → Int32
  | none => -1
  | some s => nI s
def oC (c : Nat → Nat) : Option Nat → Int32
  | none => -1
  | some s => nI (c s)
def sw (w : WW) (pb : Nat) (c : Nat → Nat) (o : Option Nat) : WW := sI (sI w pb 0 (oS o)) pb 1 (oC c o)
theorem sw_sw (w : WW) (pb : Nat) (c : Nat → Nat) (o : Option Nat) (x y : Int32) : sI (sI (sw w pb c o) pb 0 x) pb 1 y = sI (sI w pb 0 x) pb 1 y := by
  unfold sw sI
  refine Prod.ext (funext fun a => funext fun b => ?_) rfl
  dsimp only
  by_cases h : a = pb
  · by_cases h0 : b = 0
    · simp [h, h0]
    · by_cases h1 : b = 1 <;> simp [h, h0, h1]
  · simp [h]
theorem sw_CSt {w : WW} {pb : Nat} {c : Nat → Nat} {o : Option Nat} {v : Vt} (hp : 38 ≤ pb) (C : CSt w 1 v) : CSt (sw w pb c o) 1 v := CSt_congr (fun k j h1 h2 => by unfold sw; rw [sI_ne _ _ (by omega), sI_ne _ _ (by omega)]) C
theorem m1_ne {s : Nat} (h : s < 2 ^ 31) : ¬ nI s = -1 := fun e => by
  have := congrArg Int32.toInt e
  rw [nI_toInt h] at this
  have h2 : (-1 : Int32).toInt = -1 := rfl
  omega
theorem seek_ev {w : WW} {v : Vt} (C : CSt w 1 v) (R : Rg v) {P : Nat → Bool} (hP : ∀ x, x < 16 → P x = true → x < v 0 0) {pb : Nat} (hp : 38 ≤ pb) (W N : Nat → Bool) : f_X3_seek pb 1 w (bs P) (bs W) (bs N) = some (sw w pb (cs v) (scan (fun s => decide (nI s &&& bs W = bs W) && decide (nI s &&& bs N = 0) && tll v P s.testBit) (cs v) pop (2 ^ v 0 1))) := by
  have hq := R.2.1
  have hp7 := p2q hq
  have hn := R.1.2
  unfold f_X3_seek
  simp only [stI]
  have h := lpf_seq (body := fun s : Int32 × WW => f_X3_seek_b13 pb 1 (bs P) (bs W) (bs N) s.1 s.2) (fun k => (nI k, sw w pb (cs v) (scan (fun s => decide (nI s &&& bs W = bs W) && decide (nI s &&& bs N = 0) && tll v P s.testBit) (cs v) pop k))) (2 ^ v 0 1) (sw w pb (cs v) (scan (fun s => decide (nI s &&& bs W = bs W) && decide (nI s &&& bs N = 0) && tll v P s.testBit) (cs v) pop (2 ^ v 0 1))) (by omega) (fun k hk => ?_) ?_
  · rw [show ((0 : Int32), sI (sI w pb 0 (-1)) pb 1 (-1)) = (nI 0, sw w pb (cs v) (scan (fun s => decide (nI s &&& bs W = bs W) && decide (nI s &&& bs N = 0) && tll v P s.testBit) (cs v) pop 0)) from rfl, h]; rfl
  · have Cw := sw_CSt (pb := pb) (c := cs v) (o := scan (fun s => decide (nI s &&& bs W = bs W) && decide (nI s &&& bs N = 0) && tll v P s.testBit) (cs v) pop k) hp C
    generalize hF : (fun s => decide (nI s &&& bs W = bs W) && decide (nI s &&& bs N = 0) && tll v P s.testBit) = F at Cw
    have hFk : F k = (decide (nI k &&& bs W = bs W) && decide (nI k &&& bs N = 0) && tll v P k.testBit) := by rw [← hF]
    simp only [f_X3_seek_b13, f_X3_seek_j46]
    rw [allSets_ev Cw R, Option.bind_some, if_neg (nI_ge hk (by omega)), nI_1]
    have hno : F k = false → some (Sum.inl (nI (k + 1), sw w pb (cs v) (scan F (cs v) pop k))) = (some (Sum.inl (nI (k + 1), sw w pb (cs v) (scan F (cs v) pop (k + 1)))) : Option ((Int32 × WW) ⊕ WW)) := fun e => by
      rw [show scan F (cs v) pop (k + 1) = scan F (cs v) pop k by rw [scan, e]; rfl]
    by_cases hW : nI k &&& bs W = bs W
    · rw [if_pos hW]
      by_cases hN : nI k &&& bs N = 0
      · rw [if_pos hN]
        have hFk2 : F k = tll v P k.testBit := by rw [hFk]; simp [hW, hN]
        have c693 := csB_le R k.testBit
        have e0 : ∀ o, (sw w pb (cs v) o).1 pb 0 = oS o := fun o => by unfold sw; rw [sI_ne _ _ (by omega), sI_at]
        have e1 : ∀ o, (sw w pb (cs v) o).1 pb 1 = oC (cs v) o := fun o => by unfold sw; rw [sI_at]
        have yes : ∀ o, scan F (cs v) pop k = o → (F k = true → scan F (cs v) pop (k + 1) = some k) → f_X3_weighUp_j52 pb 1 (sw w pb (cs v) o) (bs P) (nI k) (nI (cs v k)) 1 = some (sw w pb (cs v) (scan F (cs v) pop (k + 1))) := fun o ho hy => by
          unfold f_X3_weighUp_j52
          rw [if_neg (by decide), show nI k = bs k.testBit from bs_nI (by omega), notYetKnown_ev (sw_CSt hp C) R _ hP, Option.bind_some]
          cases ht : tll v P k.testBit with
          | true =>
            rw [if_pos ((nyk0 hn hP).mpr ht), hy (by rw [hFk2, ht])]
            unfold stI
            show some (sI (sI (sw w pb (cs v) o) pb 0 (bs k.testBit)) pb 1 (nI (cs v k))) = _
            rw [sw_sw, ← bs_nI (s := k) (by omega)]
            rfl
          | false =>
            rw [if_neg (fun e => by have := (nyk0 hn hP).mp e; rw [ht] at this; cases this), scan, hFk2, ht, ho]
            rfl
        have nob : ∀ o, scan F (cs v) pop k = o → scan F (cs v) pop (k + 1) = o → f_X3_weighUp_j52 pb 1 (sw w pb (cs v) o) (bs P) (nI k) (nI (cs v k)) 0 = some (sw w pb (cs v) (scan F (cs v) pop (k + 1))) := fun o _ hy => by
          unfold f_X3_weighUp_j52
          rw [if_pos rfl, hy]
        unfold f_X3_weighUp f_X3_weighUp_j47 f_X3_weighUp_j51
        have hpk := penceOf_ev Cw R k.testBit
        rw [← bs_nI (s := k) (by omega)] at hpk
        rw [hpk, Option.bind_some, e0, e1, show csB v k.testBit = cs v k from rfl]
        rcases scan_char F (cs v) pop k with ⟨e, -⟩ | ⟨b, e, b1, b2, b3⟩
        · rw [e]
          rw [if_pos (show oS none = -1 from rfl), yes none e (fun hy => by rw [scan, hy, e]; rfl), Option.bind_some]
        · have cb := csB_le R b.testBit
          rw [e]
          show ((if nI b = -1 then _ else if nI (cs v k) < nI (cs v b) then _ else if nI (cs v k) = nI (cs v b) then _ else _) : Option WW).bind _ = _
          have hbk := bitCount_ev (sw w pb (cs v) (some b)) k.testBit
          have hbb := bitCount_ev (sw w pb (cs v) (some b)) b.testBit
          rw [← bs_nI (s := k) (by omega)] at hbk
          rw [← bs_nI (s := b) (by omega)] at hbb
          have p1 := cnt_le k.testBit
          have p2 := cnt_le b.testBit
          have q1 : cs v k ≤ 693 := c693
          have q2 : cs v b ≤ 693 := cb
          rw [if_neg (m1_ne (by omega)), hbk, Option.bind_some, show oS (some b) = nI b from rfl, hbb, Option.bind_some]
          by_cases a1 : cs v k < cs v b
          · rw [if_pos (nI_lt a1 (by omega)), yes (some b) e (fun hy => by rw [scan, hy, e]; exact if_pos (Or.inl a1)), Option.bind_some]
          · rw [if_neg (nI_nlt (by omega) (by omega))]
            by_cases a2 : cs v k = cs v b
            · rw [if_pos (by rw [a2])]
              by_cases a3 : pop k < pop b
              · rw [if_neg (nI_ge (show cnt k.testBit < cnt b.testBit from a3) (by omega)), yes (some b) e (fun hy => by rw [scan, hy, e]; exact if_pos (Or.inr ⟨a2, a3⟩)), Option.bind_some]
              · have a3' : cnt b.testBit ≤ cnt k.testBit := by unfold pop at a3; omega
                rw [if_pos (nI_le a3' (by omega)), nob (some b) e (by
                  rw [scan, e]
                  split
                  · exact if_neg (by omega)
                  · rfl), Option.bind_some]
            · rw [if_neg (by rw [nI_eq (by omega) (by omega)]; exact a2), nob (some b) e (by
                rw [scan, e]
                split
                · exact if_neg (by omega)
                · rfl), Option.bind_some]
      · rw [if_neg hN]
        exact hno (by rw [hFk]; simp [hN])
    · rw [if_neg hW]
      exact hno (by rw [hFk]; simp [hW])
  · have Cw := sw_CSt (pb := pb) (c := cs v) (o := scan (fun s => decide (nI s &&& bs W = bs W) && decide (nI s &&& bs N = 0) && tll v P s.testBit) (cs v) pop (2 ^ v 0 1)) hp C
    simp only [f_X3_seek_b13]
    rw [allSets_ev Cw R, Option.bind_some, if_pos (nI_le (Nat.le_refl _) (by omega))]

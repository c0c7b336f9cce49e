/-! the items of a text, and the class that reads them -/
def caseA (tx : List Nat) (s : Nat) (v : Vt) : Bool × Nat × Vt :=
  if okN tx s 0 (v 0 0 - 1) = false then (false, s, v) else
  if okN tx (nxn tx s) 1 9 = false then (false, nxn tx s, v) else
  if okE tx (nxn tx (nxn tx s)) = false then (false, nxn tx (nxn tx s), v) else
  (true, nxn tx (nxn tx s) + 1, vup v 1 (nvl tx s) (nvl tx (nxn tx s)))
def questA (tx : List Nat) (s : Nat) (v : Vt) : Bool × Nat × Vt :=
  if okN tx s 0 5 = false then (false, s, v) else
  if okN tx (nxn tx s) 0 15 = false then (false, nxn tx s, v) else
  if okN tx (nxn tx (nxn tx s)) 0 99 = false then (false, nxn tx (nxn tx s), v) else
  if okE tx (nxn tx (nxn tx (nxn tx s))) = false then (false, nxn tx (nxn tx (nxn tx s)), v) else
  (true, nxn tx (nxn tx (nxn tx s)) + 1, addV v (nvl tx s) (nvl tx (nxn tx s)) (nvl tx (nxn tx (nxn tx s))))
def fairA (tx : List Nat) (s : Nat) : Bool × Nat × Vt :=
  if wdS tx s = 3 then
    if okN tx (skp tx (s + 4)) 1 16 = false then (false, skp tx (s + 4), v0 1) else
    if okE tx (nxn tx (skp tx (s + 4))) = false then (false, nxn tx (skp tx (s + 4)), v0 1) else
    (true, nxn tx (skp tx (s + 4)) + 1, v0 (nvl tx (skp tx (s + 4))))
  else (false, s, v0 1)
def itemA (tx : List Nat) (s : Nat) (v : Vt) : Bool × Nat × Vt :=
  if wdS tx s = 4 then caseA tx (skp tx (s + 4)) v else
  if wdS tx s = 5 ∧ v 0 1 < 7 then questA tx (skp tx (s + 8)) v else (false, s, v)
def itemsA (tx : List Nat) : Nat → Nat → Nat → Vt → Bool × Nat × Vt
  | 0, _, _, v => (false, 0, v)
  | d + 1, i, s, v => if s < tx.length then (if (itemA tx s v).1 = true then itemsA tx d (i + 1) (skp tx (itemA tx s v).2.1) (itemA tx s v).2.2 else (false, (itemA tx s v).2.1, v)) else (true, i, v)
/-- a draft: none asked, all in range -/
def Dr (v : Vt) : Prop := Rim (v, []) ∧ v 0 2 = 0
theorem Dr_v0 {n : Nat} (h1 : 1 ≤ n) (h2 : n ≤ 16) : Dr (v0 n) := ⟨Rim_v0 h1 h2, rfl⟩
theorem Dr_weigh {v : Vt} {i n : Nat} (h1 : 1 ≤ n) (h2 : n ≤ 9) (h : Dr v) : Dr (vup v 1 i n) := ⟨Rim_weigh h1 h2 h.1, by simpa [vup] using h.2⟩
theorem Dr_add {v : Vt} {k a p : Nat} (hq : v 0 1 < 7) (hk : k ≤ 5) (ha : a ≤ 15) (hp : p ≤ 99) (h : Dr v) : Dr (addV v k a p) := ⟨Rim_add hq hk ha hp h.1, by simpa [addV_0] using h.2⟩
theorem nxn_le {tx : List Nat} {s : Nat} (h : s + rn tx fgB s ≤ tx.length) : s + rn tx fgB s ≤ nxn tx s ∧ nxn tx s ≤ tx.length := skp_le h
theorem okN_pos {tx : List Nat} {s lo hi : Nat} (h : okN tx s lo hi = true) : s < s + rn tx fgB s ∧ s + rn tx fgB s ≤ tx.length ∧ s < nxn tx s ∧ nxn tx s ≤ tx.length := by
  have h1 := (okN_iff.mp h).1
  obtain ⟨-, h2, h3⟩ := nvl_le h1
  obtain ⟨h4, h5⟩ := nxn_le h3
  exact ⟨by omega, h3, by omega, h5⟩
theorem of_not_false {b : Bool} (h : ¬ b = false) : b = true := by
  cases b with
  | false => exact absurd rfl h
  | true => rfl
theorem caseA_ok {tx : List Nat} {s : Nat} {v : Vt} (D : Dr v) (h : (caseA tx s v).1 = true) : s < (caseA tx s v).2.1 ∧ (caseA tx s v).2.1 ≤ tx.length ∧ Dr (caseA tx s v).2.2 := by
  unfold caseA at h ⊢
  by_cases h1 : okN tx s 0 (v 0 0 - 1) = false
  · rw [if_pos h1] at h; cases h
  · rw [if_neg h1] at h ⊢
    by_cases h2 : okN tx (nxn tx s) 1 9 = false
    · rw [if_pos h2] at h; cases h
    · rw [if_neg h2] at h ⊢
      by_cases h3 : okE tx (nxn tx (nxn tx s)) = false
      · rw [if_pos h3] at h; cases h
      · rw [if_neg h3]
        have a := okN_pos (of_not_false h1)
        have b := okN_pos (of_not_false h2)
        have c := (okE_iff.mp (of_not_false h3)).1
        have r := (okN_iff.mp (of_not_false h2)).2
        exact ⟨by dsimp only; omega, c, Dr_weigh r.1 r.2 D⟩
theorem questA_ok {tx : List Nat} {s : Nat} {v : Vt} (D : Dr v) (hq : v 0 1 < 7) (h : (questA tx s v).1 = true) : s < (questA tx s v).2.1 ∧ (questA tx s v).2.1 ≤ tx.length ∧ Dr (questA tx s v).2.2 := by
  unfold questA at h ⊢
  by_cases h1 : okN tx s 0 5 = false
  · rw [if_pos h1] at h; cases h
  · rw [if_neg h1] at h ⊢
    by_cases h2 : okN tx (nxn tx s) 0 15 = false
    · rw [if_pos h2] at h; cases h
    · rw [if_neg h2] at h ⊢
      by_cases h4 : okN tx (nxn tx (nxn tx s)) 0 99 = false
      · rw [if_pos h4] at h; cases h
      · rw [if_neg h4] at h ⊢
        by_cases h3 : okE tx (nxn tx (nxn tx (nxn tx s))) = false
        · rw [if_pos h3] at h; cases h
        · rw [if_neg h3]
          have a := okN_pos (of_not_false h1)
          have b := okN_pos (of_not_false h2)
          have d := okN_pos (of_not_false h4)
          have c := (okE_iff.mp (of_not_false h3)).1
          exact ⟨by dsimp only; omega, c, Dr_add hq (okN_iff.mp (of_not_false h1)).2.2 (okN_iff.mp (of_not_false h2)).2.2 (okN_iff.mp (of_not_false h4)).2.2 D⟩
theorem word_le {tx : List Nat} {s : Nat} (h : wdS tx s ≠ 6) : s + (if wdS tx s = 5 then 8 else 4) ≤ tx.length := by
  have := nxt_word h
  omega
theorem fairA_ok {tx : List Nat} {s : Nat} (h : (fairA tx s).1 = true) : s < (fairA tx s).2.1 ∧ (fairA tx s).2.1 ≤ tx.length ∧ Dr (fairA tx s).2.2 := by
  unfold fairA at h ⊢
  by_cases h0 : wdS tx s = 3
  · rw [if_pos h0] at h ⊢
    have hw := word_le (tx := tx) (s := s) (by omega)
    rw [if_neg (by omega)] at hw
    have hk := (skp_le hw).1
    by_cases h1 : okN tx (skp tx (s + 4)) 1 16 = false
    · rw [if_pos h1] at h; cases h
    · rw [if_neg h1] at h ⊢
      by_cases h3 : okE tx (nxn tx (skp tx (s + 4))) = false
      · rw [if_pos h3] at h; cases h
      · rw [if_neg h3]
        have a := okN_pos (of_not_false h1)
        have c := (okE_iff.mp (of_not_false h3)).1
        have r := (okN_iff.mp (of_not_false h1)).2
        exact ⟨by dsimp only; omega, c, Dr_v0 r.1 r.2⟩
  · rw [if_neg h0] at h; cases h
theorem itemA_ok {tx : List Nat} {s : Nat} {v : Vt} (D : Dr v) (h : (itemA tx s v).1 = true) : s < (itemA tx s v).2.1 ∧ (itemA tx s v).2.1 ≤ tx.length ∧ Dr (itemA tx s v).2.2 := by
  unfold itemA at h ⊢
  by_cases h0 : wdS tx s = 4
  · rw [if_pos h0] at h ⊢
    have hw := word_le (tx := tx) (s := s) (by omega)
    rw [if_neg (by omega)] at hw
    have hk := (skp_le hw).1
    have := caseA_ok D h
    exact ⟨by omega, this.2⟩
  · rw [if_neg h0] at h ⊢
    by_cases h1 : wdS tx s = 5 ∧ v 0 1 < 7
    · rw [if_pos h1] at h ⊢
      have hw := word_le (tx := tx) (s := s) (by omega)
      rw [if_pos h1.1] at hw
      have hk := (skp_le hw).1
      have := questA_ok D h1.2 h
      exact ⟨by omega, this.2⟩
    · rw [if_neg h1] at h; cases h
/-- what reading may change in the class -/
def RcC (w u : WW) : Prop := (∀ k j, ¬ ((k = 26 ∧ 3 ≤ j ∧ j ≤ 6) ∨ (28 ≤ k ∧ k ≤ 35)) → u.1 k j = w.1 k j) ∧ u.2 = w.2
theorem RcC.of {w u : WW} (h : RdC w u) : RcC w u := ⟨fun k j hk => h.1 k j (by omega), h.2⟩
theorem RcC.tr {a b c : WW} (h1 : RcC a b) (h2 : RcC b c) : RcC a c := ⟨fun k j h => (h2.1 k j h).trans (h1.1 k j h), h2.2.trans h1.2⟩
theorem RcC.sI {w : WW} {k j : Nat} {x : Int32} (h : 28 ≤ k ∧ k ≤ 35) : RcC w (sI w k j x) := ⟨fun a b hk => sI_ne _ _ (by omega), rfl⟩
theorem RcC.tc {w u : WW} {tx : List Nat} (h : RcC w u) (T : TC w tx) : TC u tx := ⟨(h.1 _ _ (by omega)).trans T.1, fun j hj => (h.1 _ _ (by omega)).trans (T.2 j hj)⟩
theorem RdC.ca {w u : WW} {im : Im} (h : RdC w u) (C : CA w 28 im) : CA u 28 im := CA_congr (fun k j h1 h2 => h.1 k j (by omega)) C
theorem b2i_and (b : Bool) : b2i b &&& 1 = b2i b := by cases b <;> decide
/-- how a reader ends -/
def EndC (w : WW) (o : Option (Int32 × WW)) (r : Bool × Nat × Vt) : Prop := ∃ u, o = some (b2i r.1, u) ∧ RcC w u ∧ (r.1 = false → u.1 26 3 = nI r.2.1) ∧ (r.1 = true → u.1 26 4 = nI r.2.1 ∧ CA u 28 (r.2.2, []))
theorem stop_ev {w0 w : WW} {tx : List Nat} (P : TP tx) (T : TC w tx) (W : RcC w0 w) {p : Nat} (hp : p ≤ tx.length) (h4 : w.1 26 4 = nI p) {v v' : Vt} (C : CA w 28 (v, [])) : EndC w0 ((f_X4_stepToStop w).bind (fun p8 => gd (p8.1 &&& 1 = p8.1) (some (p8.1, p8.2)))) (if okE tx (skp tx p) = false then (false, skp tx p, v') else (true, skp tx p + 1, v)) := by
  obtain ⟨u, eu, u1, u2, u3⟩ := toStop_ev P T hp h4
  refine ⟨u, ?_, W.tr (RcC.of u1), ?_, ?_⟩
  · rw [eu, Option.bind_some, gd_t (b2i_and _)]
    cases okE tx (skp tx p) <;> rfl
  · cases h : okE tx (skp tx p) with
    | false => rw [if_pos rfl]; exact fun _ => u2
    | true => rw [if_neg (by decide)]; exact fun e => by cases e
  · cases h : okE tx (skp tx p) with
    | false => rw [if_pos rfl]; exact fun e => by cases e
    | true => rw [if_neg (by decide)]; exact fun _ => ⟨(u3 h).1, u1.ca C⟩
theorem readCase_ev {w : WW} {tx : List Nat} (P : TP tx) (T : TC w tx) {p : Nat} (hp : p ≤ tx.length) (h4 : w.1 26 4 = nI p) {v : Vt} (D : Dr v) (C : CA w 28 (v, [])) : EndC w (f_X4_readCase w) (caseA tx (skp tx p) v) := by
  have hn : 1 ≤ v 0 0 ∧ v 0 0 ≤ 16 := D.1.1.1
  have e1 : w.1 28 0 - 1 = nI (v 0 0 - 1) := by rw [C.1.1]; exact pk_sub (b := 1) hn.1
  obtain ⟨u, eu, u1, u2, u3⟩ := toNum_ev P T hp h4 (lo := 0) (hi := v 0 0 - 1) (by omega) (by omega)
  unfold f_X4_readCase caseA
  rw [e1, show (0 : Int32) = nI 0 from rfl, eu, Option.bind_some]
  cases h1 : okN tx (skp tx p) 0 (v 0 0 - 1) with
  | false =>
    rw [if_pos rfl, if_pos (show b2i false = nI 0 from rfl)]
    exact ⟨u, rfl, RcC.of u1, fun _ => u2, fun e => by cases e⟩
  | true =>
    obtain ⟨a1, a2, a3, a4⟩ := u3 h1
    have hx := (okN_iff.mp h1).2.2
    obtain ⟨x, ex, x1, x2, x3⟩ := toNum_ev P (u1.tc T) a3 a1 (lo := 1) (hi := 9) (by omega) (by omega)
    have ex' : f_X4_stepToNumber u 1 9 = _ := ex
    dsimp only
    rw [if_neg (show ¬ b2i true = nI 0 by decide), if_neg (show ¬ true = false by decide)]
    simp only [nmv, stI]
    rw [ex', Option.bind_some]
    show EndC w _ (if okN tx (nxn tx (skp tx p)) 1 9 = false then _ else _)
    cases h2 : okN tx (skp tx (skp tx p + rn tx fgB (skp tx p))) 1 9 with
    | false =>
      have h2' : okN tx (nxn tx (skp tx p)) 1 9 = false := h2
      rw [if_pos h2', if_pos (show b2i false = nI 0 from rfl)]
      exact ⟨x, rfl, RcC.of (u1.tr x1), fun _ => x2, fun e => by cases e⟩
    | true =>
      have h2' : okN tx (nxn tx (skp tx p)) 1 9 = true := h2
      obtain ⟨b1, b2, b3, b4⟩ := x3 h2
      dsimp only
      rw [if_neg (show ¬ b2i true = nI 0 by decide), if_neg (show ¬ okN tx (nxn tx (skp tx p)) 1 9 = false by rw [h2']; decide), a2, gd_t (inb_n (by omega) (by omega)), cl_n (by omega), b2]
      have CA2 := CA_weigh (nvl tx (skp tx p)) (nvl tx (nxn tx (skp tx p))) (x1.ca (u1.ca C))
      exact stop_ev P ((RcC.sI (by omega)).tc ((RcC.of x1).tc (u1.tc T))) (((RcC.of u1).tr (RcC.of x1)).tr (RcC.sI (by omega))) b3 (by rw [sI_ne _ _ (by omega)]; exact b1) CA2
theorem readQuest_ev {w : WW} {tx : List Nat} (P : TP tx) (T : TC w tx) {p : Nat} (hp : p ≤ tx.length) (h4 : w.1 26 4 = nI p) {v : Vt} (hq : v 0 1 < 7) (C : CA w 28 (v, [])) : EndC w (f_X4_readQuestion w) (questA tx (skp tx p) v) := by
  obtain ⟨u, eu, u1, u2, u3⟩ := toNum_ev P T hp h4 (lo := 0) (hi := 5) (by omega) (by omega)
  have eu' : f_X4_stepToNumber w 0 5 = _ := eu
  unfold f_X4_readQuestion questA
  rw [eu', Option.bind_some]
  cases h1 : okN tx (skp tx p) 0 5 with
  | false =>
    rw [if_pos rfl, if_pos (show b2i false = 0 from rfl)]
    exact ⟨u, rfl, RcC.of u1, fun _ => u2, fun e => by cases e⟩
  | true =>
    obtain ⟨a1, a2, a3, a4⟩ := u3 h1
    have hx := (okN_iff.mp h1).2.2
    obtain ⟨x, ex, x1, x2, x3⟩ := toNum_ev P (u1.tc T) a3 a1 (lo := 0) (hi := 15) (by omega) (by omega)
    have ex' : f_X4_stepToNumber u 0 15 = _ := ex
    dsimp only
    rw [if_neg (show ¬ b2i true = 0 by decide), if_neg (show ¬ true = false by decide)]
    simp only [nmv]
    rw [ex', Option.bind_some]
    show EndC w _ (if okN tx (nxn tx (skp tx p)) 0 15 = false then _ else _)
    cases h2 : okN tx (skp tx (skp tx p + rn tx fgB (skp tx p))) 0 15 with
    | false =>
      have h2' : okN tx (nxn tx (skp tx p)) 0 15 = false := h2
      rw [if_pos h2', if_pos (show b2i false = 0 from rfl)]
      exact ⟨x, rfl, RcC.of (u1.tr x1), fun _ => x2, fun e => by cases e⟩
    | true =>
      have h2' : okN tx (nxn tx (skp tx p)) 0 15 = true := h2
      obtain ⟨b1, b2, b3, b4⟩ := x3 h2
      have hy := (okN_iff.mp h2).2.2
      obtain ⟨y, ey, y1, y2, y3⟩ := toNum_ev P (x1.tc (u1.tc T)) b3 b1 (lo := 0) (hi := 99) (by omega) (by omega)
      have ey' : f_X4_stepToNumber x 0 99 = _ := ey
      dsimp only
      rw [if_neg (show ¬ b2i true = 0 by decide), if_neg (show ¬ okN tx (nxn tx (skp tx p)) 0 15 = false by rw [h2']; decide), ey', Option.bind_some]
      show EndC w _ (if okN tx (nxn tx (nxn tx (skp tx p))) 0 99 = false then _ else _)
      cases h3 : okN tx (skp tx (skp tx (skp tx p + rn tx fgB (skp tx p)) + rn tx fgB (skp tx (skp tx p + rn tx fgB (skp tx p))))) 0 99 with
      | false =>
        have h3' : okN tx (nxn tx (nxn tx (skp tx p))) 0 99 = false := h3
        rw [if_pos h3', if_pos (show b2i false = 0 from rfl)]
        exact ⟨y, rfl, RcC.of ((u1.tr x1).tr y1), fun _ => y2, fun e => by cases e⟩
      | true =>
        have h3' : okN tx (nxn tx (nxn tx (skp tx p))) 0 99 = true := h3
        obtain ⟨c1, c2, c3, c4⟩ := y3 h3
        have C3 := y1.ca (x1.ca (u1.ca C))
        dsimp only
        rw [if_neg (show ¬ b2i true = 0 by decide), if_neg (show ¬ okN tx (nxn tx (nxn tx (skp tx p))) 0 99 = false by rw [h3']; decide), a2, b2, c2, addQuestion_ev hq C3.1.2.1 hx hy, Option.bind_some]
        have CA2 := CA_add (nvl tx (skp tx p)) (nvl tx (nxn tx (skp tx p))) (nvl tx (nxn tx (nxn tx (skp tx p)))) C3.1
        have hR : RcC y (addW 28 y (v 0 1) (nvl tx (skp tx p)) (nvl tx (nxn tx (skp tx p))) (nvl tx (nxn tx (nxn tx (skp tx p))))) := ⟨fun k j hk => addW_out (by omega), addW_2 _ _ _ _ _ _⟩
        exact stop_ev P (hR.tc (y1.tc (x1.tc (u1.tc T)))) (((RcC.of u1).tr ((RcC.of x1).tr (RcC.of y1))).tr hR) c3 ((addW_out (by omega)).trans c1) CA2
theorem readFair_ev {w : WW} {tx : List Nat} (P : TP tx) (T : TC w tx) {p : Nat} (hp : p ≤ tx.length) (h4 : w.1 26 4 = nI p) : EndC w (f_X4_readFair w) (fairA tx (skp tx p)) := by
  have hl := P.1
  obtain ⟨u, eu, u1, u2, u3, u4, -⟩ := step_ev P T hp h4
  unfold f_X4_readFair fairA f_X4_readFair_j22
  rw [eu, Option.bind_some, u4]
  have h6 : tokS tx (skp tx p) ≤ 6 := by
    have := wdS_6 tx (skp tx p)
    unfold tokS
    split
    · split
      · split <;> omega
      · split
        · omega
        · split <;> omega
    · omega
  by_cases h0 : wdS tx (skp tx p) = 3
  · have hx := nxt_word (tx := tx) (s := skp tx p) (by omega)
    rw [if_neg (by omega)] at hx
    obtain ⟨x, ex, x1, x2, x3⟩ := toNum_ev P (u1.tc T) (p := skp tx p + 4) (by omega) (by rw [u3, hx.1]) (lo := 1) (hi := 16) (by omega) (by omega)
    have ex' : f_X4_stepToNumber u 1 16 = _ := ex
    rw [if_pos h0, (tok_word (by omega) (by omega)).mpr h0, if_pos (show nI 3 = 3 from rfl), ex', Option.bind_some]
    cases h1 : okN tx (skp tx (skp tx p + 4)) 1 16 with
    | false =>
      rw [if_pos rfl, if_pos (show b2i false = 0 from rfl)]
      exact ⟨x, rfl, RcC.of (u1.tr x1), fun _ => x2, fun e => by cases e⟩
    | true =>
      obtain ⟨a1, a2, a3, a4⟩ := x3 h1
      dsimp only
      rw [if_neg (show ¬ b2i true = 0 by decide), if_neg (show ¬ true = false by decide), a2, begin_ev, Option.bind_some]
      have CA2 := CA_begin 28 x (nvl tx (skp tx (skp tx p + 4)))
      have hR : RcC x (fillF (sI (sI (sI (sI x 28 0 (nI (nvl tx (skp tx (skp tx p + 4))))) 28 1 0) 28 2 0) 28 3 0) (28 + 1) 0 (fun _ => 1) 16) := ⟨fun k j hk => by rw [fillF_ne _ _ _ _ (by omega), sI_ne _ _ (by omega), sI_ne _ _ (by omega), sI_ne _ _ (by omega), sI_ne _ _ (by omega)], by rw [fillF_2]; rfl⟩
      exact stop_ev P (hR.tc (x1.tc (u1.tc T))) (((RcC.of u1).tr (RcC.of x1)).tr hR) a3 (by rw [fillF_ne _ _ _ _ (by omega), sI_ne _ _ (by omega), sI_ne _ _ (by omega), sI_ne _ _ (by omega), sI_ne _ _ (by omega)]; exact a1) CA2
  · rw [if_neg h0, if_neg (fun e => h0 ((tok_word (by omega) (by omega)).mp (by rw [show (3 : Int32) = nI 3 from rfl, nI_eq (by omega) (by omega)] at e; exact e)))]
    exact ⟨u, rfl, RcC.of u1, fun _ => u2, fun e => by cases e⟩
theorem tok_6 (tx : List Nat) (s : Nat) : tokS tx s ≤ 6 := by
  have := wdS_6 tx s
  unfold tokS
  split
  · split
    · split <;> omega
    · split
      · omega
      · split <;> omega
  · omega
/-- how all items end, in the class -/
theorem itemsC {tx : List Nat} (P : TP tx) : ∀ (d i r p : Nat) (v : Vt) (w0 w : WW) (F : Nat), tx.length + 1 - skp tx p ≤ d → d < F → r < p → p ≤ tx.length → i ≤ r + 1 → Dr v → TC w tx → RcC w0 w → w.1 26 4 = nI p → CA w 28 (v, []) → ∃ o u, lpf (fun s : Int32 × Int32 × WW => f_X4_readItems_b18 s.1 s.2.1 s.2.2) F (nI i, nI r, w) = some o ∧ RcC w0 u ∧ (((itemsA tx d i (skp tx p) v).1 = true ∧ o = .inl (nI (itemsA tx d i (skp tx p) v).2.1, u) ∧ (itemsA tx d i (skp tx p) v).2.1 ≤ 151 ∧ Dr (itemsA tx d i (skp tx p) v).2.2 ∧ CA u 28 ((itemsA tx d i (skp tx p) v).2.2, [])) ∨ ((itemsA tx d i (skp tx p) v).1 = false ∧ o = .inr (.inl u) ∧ u.1 26 3 = nI (itemsA tx d i (skp tx p) v).2.1))
  | 0, i, r, p, v, w0, w, F, h1, h2, h3, h4, h4i, h5, h6, h7, h8, h9 => by
    have := (skp_le h4).2
    omega
  | d + 1, i, r, p, v, w0, w, 0, h1, h2, h3, h4, h4i, h5, h6, h7, h8, h9 => by omega
  | d + 1, i, r, p, v, w0, w, F + 1, h1, h2, h3, h4, h4i, h5, h6, h7, h8, h9 => by
    have hl := P.1
    obtain ⟨k1, k2⟩ := skp_le h4
    obtain ⟨u, eu, u1, u2, u3, u4, -⟩ := step_ev P h6 h4 h8
    have ht6 := tok_6 tx (skp tx p)
    have R1 : RcC w0 u := h7.tr (RcC.of u1)
    have body : f_X4_readItems_b18 (nI i) (nI r) w = if nI (tokS tx (skp tx p)) = 0 then some (.inr (.inl (nI i, u))) else if nI (tokS tx (skp tx p)) = (4 : Int32) then (f_X4_readCase u).bind (fun p11 => f_X4_readItems_j72 p11.2 (nI i) (nI r) p11.1) else (f_X4_mayAskMore u).bind (fun p7 => if p7 = 0 then f_X4_readItems_j71 u (nI i) (nI r) else (f_X4_readQuestion u).bind (fun p9 => if p9.1 = 0 then f_X4_readItems_j71 p9.2 (nI i) (nI r) else f_X4_readItems_j72 p9.2 (nI i) (nI r) (1 : Int32))) := by
      unfold f_X4_readItems_b18
      rw [show (150 : Int32) = nI 150 from rfl, if_neg (nI_ge (by omega) (by omega)), eu, Option.bind_some, u4]
    -- what an item gives
    have go : ∀ (o : Option (Int32 × WW)) (q : Bool × Nat × Vt), skp tx p < tx.length → itemA tx (skp tx p) v = q → EndC u o q → f_X4_readItems_b18 (nI i) (nI r) w = o.bind (fun p11 => f_X4_readItems_j72 p11.2 (nI i) (nI r) p11.1) → ∃ o u, lpf (fun s : Int32 × Int32 × WW => f_X4_readItems_b18 s.1 s.2.1 s.2.2) (F + 1) (nI i, nI r, w) = some o ∧ RcC w0 u ∧ (((itemsA tx (d + 1) i (skp tx p) v).1 = true ∧ o = .inl (nI (itemsA tx (d + 1) i (skp tx p) v).2.1, u) ∧ (itemsA tx (d + 1) i (skp tx p) v).2.1 ≤ 151 ∧ Dr (itemsA tx (d + 1) i (skp tx p) v).2.2 ∧ CA u 28 ((itemsA tx (d + 1) i (skp tx p) v).2.2, [])) ∨ ((itemsA tx (d + 1) i (skp tx p) v).1 = false ∧ o = .inr (.inl u) ∧ u.1 26 3 = nI (itemsA tx (d + 1) i (skp tx p) v).2.1)) := fun o q hs hq hE hb => by
      obtain ⟨x, ex, x1, x2, x3⟩ := hE
      subst hq
      rw [lpf_succ]
      show ∃ o u, (f_X4_readItems_b18 (nI i) (nI r) w).bind _ = some o ∧ _
      rw [hb, ex, Option.bind_some, itemsA, if_pos hs]
      unfold f_X4_readItems_j72
      dsimp only
      cases hq1 : (itemA tx (skp tx p) v).1 with
      | false =>
        rw [if_pos (show b2i false = 0 from rfl), if_neg (show ¬ false = true by decide)]
        exact ⟨_, x, rfl, R1.tr x1, Or.inr ⟨rfl, rfl, x2 hq1⟩⟩
      | true =>
        obtain ⟨y1, y2⟩ := x3 hq1
        obtain ⟨g1, g2, g3⟩ := itemA_ok h5 hq1
        have hk := (skp_le g2).1
        rw [if_neg (show ¬ b2i true = 0 by decide), if_pos rfl, nI_1, nI_1]
        exact itemsC P d (i + 1) (r + 1) (itemA tx (skp tx p) v).2.1 (itemA tx (skp tx p) v).2.2 w0 x F (by omega) (by omega) (by omega) g2 (by omega) g3 (x1.tc (u1.tc h6)) (R1.tr x1) y1 y2
    by_cases hs : skp tx p < tx.length
    · have ht0 : tokS tx (skp tx p) ≠ 0 := fun e => tok_0.mp e hs
      rw [if_neg (by rw [show (0 : Int32) = nI 0 from rfl, nI_eq (by omega) (by omega)]; exact ht0)] at body
      by_cases hw4 : wdS tx (skp tx p) = 4
      · have hx := nxt_word (tx := tx) (s := skp tx p) (by omega)
        rw [if_neg (by omega)] at hx
        rw [(tok_word (by omega) (by omega)).mpr hw4, if_pos (show nI 4 = 4 from rfl)] at body
        refine go _ _ hs ?_ (readCase_ev P (u1.tc h6) (p := skp tx p + 4) (by omega) (by rw [u3, hx.1]) h5 (u1.ca h9)) body
        unfold itemA
        rw [if_pos hw4]
      · have ht4 : tokS tx (skp tx p) ≠ 4 := fun e => hw4 ((tok_word (by omega) (by omega)).mp e)
        rw [if_neg (by rw [show (4 : Int32) = nI 4 from rfl, nI_eq (by omega) (by omega)]; exact ht4)] at body
        have hq7 : v 0 1 ≤ 7 := h5.1.1.2.1
        have hc : u.1 28 1 = nI (v 0 1) := (u1.ca h9).1.2.1
        unfold f_X4_mayAskMore f_X4_mayAskMore_j24 at body
        rw [u4, hc] at body
        by_cases hw5 : wdS tx (skp tx p) = 5
        · have hx := nxt_word (tx := tx) (s := skp tx p) (by omega)
          rw [if_pos hw5] at hx
          rw [(tok_word (by omega) (by omega)).mpr hw5, if_pos (show nI 5 = 5 from rfl)] at body
          by_cases hq : v 0 1 < 7
          · rw [show (7 : Int32) = nI 7 from rfl, if_neg (nI_ge hq (by omega)), Option.bind_some, if_neg (by decide)] at body
            have hE := readQuest_ev P (u1.tc h6) (p := skp tx p + 8) (by omega) (by rw [u3, hx.1]) hq (u1.ca h9)
            refine go _ _ hs ?_ hE ?_
            · unfold itemA
              rw [if_neg hw4, if_pos ⟨hw5, hq⟩]
            · rw [body]
              obtain ⟨x, ex, -⟩ := hE
              rw [ex, Option.bind_some, Option.bind_some]
              dsimp only
              cases (questA tx (skp tx (skp tx p + 8)) v).1 with
              | false => rw [if_pos (show b2i false = 0 from rfl)]; rfl
              | true => rw [if_neg (show ¬ b2i true = 0 by decide)]; rfl
          · rw [show (7 : Int32) = nI 7 from rfl, if_pos (nI_le (by omega) (by omega)), Option.bind_some, if_pos rfl] at body
            refine go (some (0, u)) (false, skp tx p, v) hs ?_ ⟨u, rfl, RcC.of (RdC.rf u), fun _ => u2, fun e => by cases e⟩ body
            unfold itemA
            rw [if_neg hw4, if_neg (fun e => hq e.2)]
        · have ht5 : tokS tx (skp tx p) ≠ 5 := fun e => hw5 ((tok_word (by omega) (by omega)).mp e)
          rw [if_neg (by rw [show (5 : Int32) = nI 5 from rfl, nI_eq (by omega) (by omega)]; exact ht5), Option.bind_some, if_pos rfl] at body
          refine go (some (0, u)) (false, skp tx p, v) hs ?_ ⟨u, rfl, RcC.of (RdC.rf u), fun _ => u2, fun e => by cases e⟩ body
          unfold itemA
          rw [if_neg hw4, if_neg (fun e => hw5 e.1)]
    · rw [lpf_succ]
      show ∃ o u, (f_X4_readItems_b18 (nI i) (nI r) w).bind _ = some o ∧ _
      rw [body, tok_0.mpr hs, if_pos (show nI 0 = 0 from rfl), itemsA, if_neg hs]
      exact ⟨_, u, rfl, R1, Or.inl ⟨rfl, rfl, by dsimp only; omega, h5, u1.ca h9⟩⟩
/-- what a text says: items and the fair, or the fault -/
def textA (tx : List Nat) : Bool × Nat × Vt := if (fairA tx (skp tx 0)).1 = true then itemsA tx 152 1 (skp tx (fairA tx (skp tx 0)).2.1) (fairA tx (skp tx 0)).2.2 else fairA tx (skp tx 0)
theorem readItems_ev {w : WW} {tx : List Nat} (P : TP tx) (T : TC w tx) : ∃ u, f_X4_readItems w = some (if (textA tx).1 = true then nI (textA tx).2.1 else -1, u) ∧ RcC w u ∧ ((textA tx).1 = true → (textA tx).2.1 ≤ 151 ∧ Dr (textA tx).2.2 ∧ CA u 28 ((textA tx).2.2, [])) ∧ ((textA tx).1 = false → u.1 26 3 = nI (textA tx).2.1) := by
  have hl := P.1
  have R0 : RdC w (sI w 26 4 0) := RdC.sI (by omega)
  obtain ⟨x, ex, x1, x2, x3⟩ := readFair_ev P (R0.tc T) (p := 0) (Nat.zero_le _) (sI_at _ _ _ _)
  unfold f_X4_readItems textA
  simp only [stI]
  rw [ex, Option.bind_some]
  cases h : (fairA tx (skp tx 0)).1 with
  | false =>
    rw [if_pos (show b2i false = 0 from rfl), if_neg (show ¬ false = true by decide), h, if_neg (show ¬ false = true by decide)]
    exact ⟨x, rfl, (RcC.of R0).tr x1, (fun e => by cases e), fun _ => x2 h⟩
  | true =>
    obtain ⟨y1, y2⟩ := x3 h
    obtain ⟨g1, g2, g3⟩ := fairA_ok h
    obtain ⟨o, u, eo, u1, hu⟩ := itemsC P 152 1 0 (fairA tx (skp tx 0)).2.1 (fairA tx (skp tx 0)).2.2 x x FU (by omega) (by unfold FU; omega) (by omega) g2 (by omega) g3 (x1.tc (R0.tc T)) ⟨fun _ _ _ => rfl, rfl⟩ y1 y2
    have eo' : lpf (fun s : Int32 × Int32 × WW => f_X4_readItems_b18 s.1 s.2.1 s.2.2) FU (1, 0, x) = some o := eo
    rw [if_neg (show ¬ b2i true = 0 by decide), if_pos rfl]
    dsimp only
    rw [eo', Option.bind_some]
    rcases hu with ⟨q1, rfl, q2, q3, q4⟩ | ⟨q1, rfl, q2⟩
    · rw [q1, if_pos rfl]
      exact ⟨u, rfl, ((RcC.of R0).tr x1).tr u1, fun _ => ⟨q2, q3, q4⟩, fun e => by cases e⟩
    · rw [q1, if_neg (show ¬ false = true by decide)]
      exact ⟨u, rfl, ((RcC.of R0).tr x1).tr u1, (fun e => by cases e), fun _ => q2⟩

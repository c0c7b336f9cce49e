/-! haggling -/
theorem sI_sI (w : WW) (a b : Nat) (x y : Int32) : sI (sI w a b x) a b y = sI w a b y := by
  unfold sI
  refine Prod.ext (funext fun k => funext fun j => ?_) rfl
  by_cases h : k = a ∧ j = b <;> simp [h]
theorem sI_self (w : WW) (a b : Nat) : sI w a b (w.1 a b) = w := by
  unfold sI
  refine Prod.ext (funext fun k => funext fun j => ?_) rfl
  by_cases h : k = a ∧ j = b
  · simp [h]
  · simp [h]
theorem csk (v : Vt) {q : Nat} (hq : q < v 0 1) (k s : Nat) : cs (vup v 4 q k) s + (if s.testBit q = true then v 4 q else 0) = cs v s + (if s.testBit q = true then k else 0) := by
  have h := fb_sm_upd (fun j => if s.testBit j = true then v 4 j else 0) (if s.testBit q = true then k else 0) hq
  rw [← show cs (vup v 4 q k) s = fb_sm (fun j => if j = q then (if s.testBit q = true then k else 0) else (if s.testBit j = true then v 4 j else 0)) (v 0 1) from ?_] at h
  · exact h
  · unfold cs csB
    rw [show vup v 4 q k 0 1 = v 0 1 from if_neg (by omega)]
    refine fb_sm_cong (fun j _ => ?_)
    by_cases e : j = q
    · subst e; simp [vup]
    · simp [vup, e]
def hasq (o : Option Nat) (q : Nat) : Bool := match o with
  | none => false
  | some b => b.testBit q
def hm (A : Nat → Bool) : Nat → Int32
  | 0 => -1
  | k + 1 => if A k = true then nI k else hm A k
theorem hm_z {A : Nat → Bool} {z : Int} (h : ∀ k, A k = true ↔ (k : Int) ≤ z) : ∀ n, hm A n = if z < 0 ∨ n = 0 then -1 else nI (min z.toNat (n - 1))
  | 0 => by rw [if_pos (Or.inr rfl)]; rfl
  | n + 1 => by
    rw [hm, hm_z h n]
    by_cases hA : A n = true
    · have := (h n).mp hA
      rw [if_pos hA, if_neg (by omega)]
      congr 1
      omega
    · have : ¬ (n : Int) ≤ z := fun e => hA ((h n).mpr e)
      rw [if_neg hA]
      by_cases hz : z < 0
      · rw [if_pos (Or.inl hz), if_pos (Or.inl hz)]
      · rw [if_neg (show ¬ (z < 0 ∨ n + 1 = 0) by omega)]
        have : n ≠ 0 := by omega
        rw [if_neg (by omega)]
        congr 1
        omega
theorem hm_no {A : Nat → Bool} (h : ∀ k, A k = false) : ∀ n, hm A n = -1
  | 0 => rfl
  | n + 1 => by rw [hm, h n]; exact hm_no h n
theorem haggleM {w : WW} {S : StT} (I : SInv S) (M : MInv w S) {q : Nat} (hq : q < S.1.1 0 1) : ∃ w2, f_X8_haggle w (nI q) = some (hm (fun k => hasq (scan (fun s => decide (s < 2 ^ S.1.1 0 1) && tll S.1.1 (lft S.1.1) s.testBit) (cs (vup S.1.1 4 q k)) pop (2 ^ S.1.1 0 1)) q) 100, w2) ∧ SameM w w2 ∧ HighM w w2 := by
  have h7 := I.1.1.2.1
  have hp7 := p2q h7
  obtain ⟨w2, E, T⟩ := setTells_ev M.1.st I.1.1 (lft S.1.1)
  have M2 := M.same (SameM.tab T).1
  refine ⟨w2, ?_, (SameM.tab T).1, (SameM.tab T).2⟩
  have L : lpf (fun s : Int32 × Int32 × WW => f_X8_haggle_b33 (nI q) (w2.1 51 q) s.1 s.2.1 s.2.2) FU ((-1 : Int32), (0 : Int32), w2) = some (hm (fun k => hasq (scan (fun s => decide (s < 2 ^ S.1.1 0 1) && tll S.1.1 (lft S.1.1) s.testBit) (cs (vup S.1.1 4 q k)) pop (2 ^ S.1.1 0 1)) q) 100, sI w2 51 q (nI 99)) := by
    refine lpf_seq (fun k => (hm (fun k => hasq (scan (fun s => decide (s < 2 ^ S.1.1 0 1) && tll S.1.1 (lft S.1.1) s.testBit) (cs (vup S.1.1 4 q k)) pop (2 ^ S.1.1 0 1)) q) k, nI k, if k = 0 then w2 else sI w2 51 q (nI (k - 1)))) 100 _ (by omega) (fun k hk => ?_) rfl
    have hw : sI (if k = 0 then w2 else sI w2 51 q (nI (k - 1))) 51 q (nI k) = sI w2 51 q (nI k) := by
      split
      · rfl
      · exact sI_sI _ _ _ _ _
    simp only [f_X8_haggle_b33, f_X8_haggle_j74, f_X8_haggle_j75, stI]
    have Ck : MSt (sI w2 51 q (nI k)) (vup S.1.1 4 q k) := (MA_price (U := S.1.2) q k M2.1).st
    have Rk : Rg (vup S.1.1 4 q k) := (Rim_price (U := S.1.2) (i := q) (n := k) (by omega) I.1).1
    have hT : ∀ s, s < 128 → (sI w2 51 q (nI k)).1 57 s = b2i (decide (s < 2 ^ S.1.1 0 1) && tll S.1.1 (lft S.1.1) s.testBit) := fun s hs => by rw [sI_ne _ _ (by omega)]; exact T.2.2 s hs
    rw [show (100 : Int32) = nI 100 from rfl, if_neg (nI_ge hk (by omega)), gd_t (inb_n (by omega) (by omega)), cl_n (by omega), hw, cheapest_ev Ck Rk hT, Option.bind_some, nI_1, if_neg (show ¬ k + 1 = 0 by omega), show k + 1 - 1 = k by omega, show vup S.1.1 4 q k 0 1 = S.1.1 0 1 from if_neg (by omega)]
    rw [show hm (fun k => hasq (scan (fun s => decide (s < 2 ^ S.1.1 0 1) && tll S.1.1 (lft S.1.1) s.testBit) (cs (vup S.1.1 4 q k)) pop (2 ^ S.1.1 0 1)) q) (k + 1) = if hasq (scan (fun s => decide (s < 2 ^ S.1.1 0 1) && tll S.1.1 (lft S.1.1) s.testBit) (cs (vup S.1.1 4 q k)) pop (2 ^ S.1.1 0 1)) q = true then nI k else hm (fun k => hasq (scan (fun s => decide (s < 2 ^ S.1.1 0 1) && tll S.1.1 (lft S.1.1) s.testBit) (cs (vup S.1.1 4 q k)) pop (2 ^ S.1.1 0 1)) q) k from rfl]
    rcases scan_char (fun s => decide (s < 2 ^ S.1.1 0 1) && tll S.1.1 (lft S.1.1) s.testBit) (cs (vup S.1.1 4 q k)) pop (2 ^ S.1.1 0 1) with ⟨e, -⟩ | ⟨b, e, b1, -⟩
    · rw [e, if_pos (show oS none = -1 from rfl)]
      rfl
    · rw [e, show oS (some b) = nI b from rfl, if_neg (m1_ne (by omega)), bs_nI (s := b) (by omega), hasM _ _ (by omega), Option.bind_some, show hasq (some b) q = b.testBit q from rfl]
      cases b.testBit q <;> rfl
  simp only [f_X8_haggle, isQm_ev (q := S.1.1 0 1) (by omega) M.1.2.1, Option.bind_some, if_pos (inb_n hq (show S.1.1 0 1 < 2 ^ 31 by omega)), nmv, stI]
  rw [if_neg (by decide), leftOver_ev M.1.st I.1.1, Option.bind_some, E, Option.bind_some, gd_t (inb_n (by omega) (by omega)), cl_n (by omega), L, Option.bind_some, gd_t (inb_n (by omega) (by omega))]
  dsimp only
  rw [sI_sI, sI_self]
theorem haggle_z {v : Vt} {q : Nat} (hq : q < v 0 1) {T : Nat → Bool} {N : Nat} : (∀ k, hasq (scan T (cs (vup v 4 q k)) pop N) q = match scan (fun s => s.testBit q && T s) (cs v) pop N with
    | none => false
    | some a => match scan (fun s => !s.testBit q && T s) (cs v) pop N with
      | none => true
      | some b => decide (cs v a + k < cs v b + v 4 q ∨ (cs v a + k = cs v b + v 4 q ∧ (pop a < pop b ∨ (pop a = pop b ∧ a < b))))) := fun k => by
  have hk := csk v hq k
  rcases scan_char (fun s => s.testBit q && T s) (cs v) pop N with ⟨ea, na⟩ | ⟨a, ea, a1, a2, a3⟩
  · rw [ea]
    dsimp only
    rcases scan_char T (cs (vup v 4 q k)) pop N with ⟨e, -⟩ | ⟨c, e, c1, c2, -⟩
    · rw [e]; rfl
    · rw [e]
      show c.testBit q = false
      have := na c c1
      rw [c2, Bool.and_true] at this
      exact this
  · rw [ea]
    dsimp only
    rw [Bool.and_eq_true] at a2
    have ka := hk a
    rw [a2.1, if_pos rfl, if_pos rfl] at ka
    rcases scan_char (fun s => !s.testBit q && T s) (cs v) pop N with ⟨eb, nb⟩ | ⟨b, eb, b1, b2, b3⟩
    · rw [eb]
      dsimp only
      rw [scan_is (b := a) a1 a2.2 (fun s hs hT => ?_)]
      · exact a2.1
      · have hsq : s.testBit q = true := by
          have := nb s hs
          rw [hT, Bool.and_true] at this
          simpa using this
        have h3 := a3 s hs (by rw [hsq, hT]; rfl)
        have ks := hk s
        rw [hsq, if_pos rfl, if_pos rfl] at ks
        unfold LX at h3 ⊢
        omega
    · rw [eb]
      dsimp only
      rw [Bool.and_eq_true] at b2
      have hbq : b.testBit q = false := by simpa using b2.1
      have kb := hk b
      rw [hbq, if_neg (by decide), if_neg (by decide)] at kb
      have key : ∀ s, s < N → T s = true → (s.testBit q = true → LX (cs (vup v 4 q k)) pop a s) ∧ (s.testBit q = false → LX (cs (vup v 4 q k)) pop b s) := fun s hs hT => by
        have ks := hk s
        refine ⟨fun hsq => ?_, fun hsq => ?_⟩
        · have h3 := a3 s hs (by rw [hsq, hT]; rfl)
          rw [hsq, if_pos rfl, if_pos rfl] at ks
          unfold LX at h3 ⊢
          omega
        · have h3 := b3 s hs (by rw [hsq, hT]; rfl)
          rw [hsq, if_neg (by decide), if_neg (by decide)] at ks
          unfold LX at h3 ⊢
          omega
      have hab : a ≠ b := fun e => by rw [e, hbq] at a2; exact absurd a2.1 (by decide)
      by_cases hc : cs v a + k < cs v b + v 4 q ∨ (cs v a + k = cs v b + v 4 q ∧ (pop a < pop b ∨ (pop a = pop b ∧ a < b)))
      · rw [decide_eq_true hc, scan_is (b := a) a1 a2.2 (fun s hs hT => ?_)]
        · exact a2.1
        · cases hsq : s.testBit q with
          | true => exact (key s hs hT).1 hsq
          | false =>
            have := (key s hs hT).2 hsq
            unfold LX at this ⊢
            omega
      · rw [decide_eq_false hc, scan_is (b := b) b1 b2.2 (fun s hs hT => ?_)]
        · exact hbq
        · cases hsq : s.testBit q with
          | false => exact (key s hs hT).2 hsq
          | true =>
            have := (key s hs hT).1 hsq
            unfold LX at this ⊢
            omega
theorem wins_ev (w : WW) {pb pb2 a b : Nat} (ha : a < 65536) (hb : b < 65536) (h1 : w.1 pb 0 = nI a) (h2 : w.1 pb2 0 = nI b) : f_X3_winsWhenPenceAreLike pb pb2 w = some (if pop a < pop b ∨ (pop a = pop b ∧ a < b) then 1 else 0) := by
  unfold f_X3_winsWhenPenceAreLike f_X3_winsWhenPenceAreLike_j37 f_X3_winsWhenPenceAreLike_j41
  have hba : f_J6_bitCount_0f7a4 w (nI a) = some (nI (pop a)) := by rw [bs_nI ha]; exact bitCount_ev w _
  have hbb : f_J6_bitCount_0f7a4 w (nI b) = some (nI (pop b)) := by rw [bs_nI hb]; exact bitCount_ev w _
  have p1 : pop a ≤ 16 := cnt_le a.testBit
  have p2 : pop b ≤ 16 := cnt_le b.testBit
  rw [h1, h2, hba, Option.bind_some, hbb, Option.bind_some]
  by_cases c1 : pop a < pop b
  · rw [if_pos (nI_lt c1 (by omega)), if_pos (Or.inl c1)]
  · rw [if_neg (nI_nlt (by omega) (by omega))]
    by_cases c2 : pop a = pop b
    · rw [if_pos (by rw [c2])]
      by_cases c3 : a < b
      · rw [if_neg (nI_ge c3 (by omega)), if_pos (Or.inr ⟨c2, c3⟩)]
      · rw [if_pos (nI_le (by omega) (by omega)), if_neg (by omega)]
    · rw [if_neg (by rw [nI_eq (by omega) (by omega)]; exact c2), if_neg (by omega)]
theorem min99 (w : WW) {x : Int32} {z : Int} (h : x.toInt = z) (hz : 0 ≤ z) : f_J9_min_7cf53 w x 99 = some (nI (min z.toNat 99)) := by
  rw [min_ev]
  congr 1
  have hx : x = nI z.toNat := Int32.toInt_inj.mp (by
    have := fb_rng x
    rw [nI_toInt (by omega)]
    omega)
  have := fb_rng x
  rw [hx, show (99 : Int32) = nI 99 from rfl]
  by_cases c : 99 < z.toNat
  · rw [if_pos (nI_lt c (by omega))]
    congr 1
    omega
  · rw [if_neg (nI_nlt (by omega) (by omega))]
    congr 1
    omega
theorem j131_ev (w : WW) {x : Int32} {z : Int} (h : x.toInt = z) : f_X7_haggle_j131 w x = some (if z < 0 ∨ (100 : Nat) = 0 then -1 else nI (min z.toNat (100 - 1)), w) := by
  unfold f_X7_haggle_j131
  by_cases h0 : (0 : Int) ≤ z
  · rw [if_pos (by rw [Int32.le_iff_toInt_le, h]; exact h0), if_neg (by omega), min99 w h h0, Option.bind_some]
  · rw [if_neg (by rw [Int32.le_iff_toInt_le, h]; exact h0), if_pos (Or.inl (by omega))]
theorem m1_add {x : Int32} {z : Int} (h : x.toInt = z) (h1 : -1000 ≤ z) (h2 : z ≤ 1000) : (x + -1).toInt = z - 1 := by
  have e1 : (-1 : Int32).toInt = -1 := rfl
  rw [fb_addI (by rw [h, e1]; omega) (by rw [h, e1]; omega), h, e1]
  rfl
theorem haggleC {w : WW} {S : StT} (I : SInv S) (C : CInv w S) {q : Nat} (hq : q < S.1.1 0 1) : ∃ w1, f_X7_haggle w (nI q) = some (hm (fun k => hasq (scan (fun s => decide (s < 2 ^ S.1.1 0 1) && tll S.1.1 (lft S.1.1) s.testBit) (cs (vup S.1.1 4 q k)) pop (2 ^ S.1.1 0 1)) q) 100, w1) ∧ SameC w w1 ∧ LowC w w1 := by
  have h7 := I.1.1.2.1
  have hp7 := p2q h7
  have hP : ∀ x, x < 16 → lft S.1.1 x = true → x < S.1.1 0 0 := fun x _ h => lft_lt h
  have hz := haggle_z (v := S.1.1) hq (T := fun s => decide (s < 2 ^ S.1.1 0 1) && tll S.1.1 (lft S.1.1) s.testBit) (N := 2 ^ S.1.1 0 1)
  have s1 : scan (fun s => decide (nI s &&& bs (fun i => decide (i = q)) = bs (fun i => decide (i = q))) && decide (nI s &&& bs (fun _ => false) = 0) && tll S.1.1 (lft S.1.1) s.testBit) (cs S.1.1) pop (2 ^ S.1.1 0 1) = scan (fun s => s.testBit q && (decide (s < 2 ^ S.1.1 0 1) && tll S.1.1 (lft S.1.1) s.testBit)) (cs S.1.1) pop (2 ^ S.1.1 0 1) := by
    refine scan_congr (fun s hs => ⟨?_, rfl⟩)
    have z : nI s &&& bs (fun _ => false) = 0 := by
      rw [bs_nI (s := s) (by omega), bs_and, bs_congr (Q := fun _ => false) (fun i _ => by simp), bs_none]
    have z2 : (nI s &&& bs (fun i => decide (i = q)) = bs (fun i => decide (i = q))) ↔ s.testBit q = true := by
      rw [bs_nI (s := s) (by omega), bs_and, bs_inj]
      refine ⟨fun h => by simpa using h q (by omega), fun h i _ => ?_⟩
      by_cases e : i = q
      · subst e; simp [h]
      · simp [e]
    rw [z]
    cases hb : s.testBit q with
    | true => rw [decide_eq_true (z2.mpr hb)]; simp [hs]
    | false => rw [decide_eq_false (fun e => by have := z2.mp e; rw [hb] at this; cases this)]; rfl
  have s2 : scan (fun s => decide (nI s &&& bs (fun _ => false) = bs (fun _ => false)) && decide (nI s &&& bs (fun i => decide (i = q)) = 0) && tll S.1.1 (lft S.1.1) s.testBit) (cs S.1.1) pop (2 ^ S.1.1 0 1) = scan (fun s => !s.testBit q && (decide (s < 2 ^ S.1.1 0 1) && tll S.1.1 (lft S.1.1) s.testBit)) (cs S.1.1) pop (2 ^ S.1.1 0 1) := by
    refine scan_congr (fun s hs => ⟨?_, rfl⟩)
    have z : nI s &&& bs (fun _ => false) = bs (fun _ => false) := by
      rw [bs_nI (s := s) (by omega), bs_and, bs_congr (Q := fun _ => false) (fun i _ => by simp)]
    have z2 : (nI s &&& bs (fun i => decide (i = q)) = 0) ↔ s.testBit q = false := by
      rw [bs_nI (s := s) (by omega), bs_and, bs_eq0]
      refine ⟨fun h => by simpa using h q (by omega), fun h i _ => ?_⟩
      by_cases e : i = q
      · subst e; simp [h]
      · simp [e]
    rw [z]
    cases hb : s.testBit q with
    | false => rw [decide_eq_true (z2.mpr hb)]; simp [hs]
    | true => rw [show decide (nI s &&& bs (fun i => decide (i = q)) = 0) = false from decide_eq_false (fun e => by have := z2.mp e; rw [hb] at this; cases this)]; simp
  generalize ho1 : scan (fun s => s.testBit q && (decide (s < 2 ^ S.1.1 0 1) && tll S.1.1 (lft S.1.1) s.testBit)) (cs S.1.1) pop (2 ^ S.1.1 0 1) = o1 at s1
  generalize ho2 : scan (fun s => !s.testBit q && (decide (s < 2 ^ S.1.1 0 1) && tll S.1.1 (lft S.1.1) s.testBit)) (cs S.1.1) pop (2 ^ S.1.1 0 1) = o2 at s2
  rw [ho1, ho2] at hz
  have k1 := seek_ev C.1.1 I.1.1 hP (pb := 38) (by omega) (fun i => decide (i = q)) (fun _ => false)
  rw [s1, bs_none] at k1
  have C2 : CSt (sw w 38 (cs S.1.1) o1) 1 S.1.1 := sw_CSt (by omega) C.1.1
  have k2 := seek_ev C2 I.1.1 hP (pb := 39) (by omega) (fun _ => false) (fun i => decide (i = q))
  rw [s2, bs_none] at k2
  have a1 := sw_same w (pb := 38) (by omega) (by omega) (cs S.1.1) o1
  have a2 := sw_same (sw w 38 (cs S.1.1) o1) (pb := 39) (by omega) (by omega) (cs S.1.1) o2
  refine ⟨sw (sw w 38 (cs S.1.1) o1) 39 (cs S.1.1) o2, ?_, a1.1.tr a2.1, a1.2.tr a2.2⟩
  generalize hw8 : sw (sw w 38 (cs S.1.1) o1) 39 (cs S.1.1) o2 = w8 at *
  have r1 : w8.1 38 0 = oS o1 := by rw [← hw8]; unfold sw; rw [sI_ne _ _ (by omega), sI_ne _ _ (by omega), sI_ne _ _ (by omega), sI_at]
  have r2 : w8.1 38 1 = oC (cs S.1.1) o1 := by rw [← hw8]; unfold sw; rw [sI_ne _ _ (by omega), sI_ne _ _ (by omega), sI_at]
  have r3 : w8.1 39 0 = oS o2 := by rw [← hw8]; unfold sw; rw [sI_ne _ _ (by omega), sI_at]
  have r4 : w8.1 39 1 = oC (cs S.1.1) o2 := by rw [← hw8]; unfold sw; rw [sI_at]
  have r5 : w8.1 5 q = nI (S.1.1 4 q) := by rw [← hw8]; unfold sw; rw [sI_ne _ _ (by omega), sI_ne _ _ (by omega), sI_ne _ _ (by omega), sI_ne _ _ (by omega)]; exact (C.1.1.2.2.2.2.1 q hq).2.2
  simp only [f_X7_haggle, isQ_ev (q := S.1.1 0 1) (by omega) C.1.1.2.1, Option.bind_some, if_pos (inb_n hq (show S.1.1 0 1 < 2 ^ 31 by omega)), nmv]
  rw [if_neg (by decide), fit0 I C, Option.bind_some, bs_one (by omega), k1, Option.bind_some, k2, Option.bind_some, gd_t (inb_n (by omega) (by omega)), cl_n (by omega), r1, r2, r3, r4, r5]
  rcases scan_char (fun s => s.testBit q && (decide (s < 2 ^ S.1.1 0 1) && tll S.1.1 (lft S.1.1) s.testBit)) (cs S.1.1) pop (2 ^ S.1.1 0 1) with ⟨ea, -⟩ | ⟨a, ea, a1', a2', -⟩
  · rw [ho1] at ea
    subst ea
    rw [if_pos (show oS none = -1 from rfl), hm_no (fun k => hz k)]
  · rw [ho1] at ea
    subst ea
    rw [show oS (some a) = nI a from rfl, if_neg (m1_ne (by omega))]
    rcases scan_char (fun s => !s.testBit q && (decide (s < 2 ^ S.1.1 0 1) && tll S.1.1 (lft S.1.1) s.testBit)) (cs S.1.1) pop (2 ^ S.1.1 0 1) with ⟨eb, -⟩ | ⟨b, eb, b1', -⟩
    · rw [ho2] at eb
      subst eb
      rw [if_pos (show oS none = -1 from rfl), hm, if_pos (hz 99)]
      rfl
    · rw [ho2] at eb
      subst eb
      rw [Bool.and_eq_true] at a2'
      have hka := csk S.1.1 hq 0 a
      rw [a2'.1, if_pos rfl, if_pos rfl] at hka
      have ca : cs S.1.1 a ≤ 693 := csB_le I.1.1 _
      have cb : cs S.1.1 b ≤ 693 := csB_le I.1.1 _
      rw [show oS (some b) = nI b from rfl, if_neg (m1_ne (by omega)), show oC (cs S.1.1) (some a) = nI (cs S.1.1 a) from rfl, show oC (cs S.1.1) (some b) = nI (cs S.1.1 b) from rfl, pk_sub (show S.1.1 4 q ≤ cs S.1.1 a by omega), wins_ev w8 (by omega) (by omega) r1 r3, Option.bind_some]
      have hA : ∀ k, hasq (scan (fun s => decide (s < 2 ^ S.1.1 0 1) && tll S.1.1 (lft S.1.1) s.testBit) (cs (vup S.1.1 4 q k)) pop (2 ^ S.1.1 0 1)) q = decide (cs S.1.1 a + k < cs S.1.1 b + S.1.1 4 q ∨ (cs S.1.1 a + k = cs S.1.1 b + S.1.1 4 q ∧ (pop a < pop b ∨ (pop a = pop b ∧ a < b)))) := hz
      clear hz
      generalize cs S.1.1 a = ca' at *
      generalize cs S.1.1 b = cb' at *
      generalize S.1.1 4 q = p' at *
      have t1 : (nI cb' - nI (ca' - p')).toInt = (cb' : Int) - ((ca' - p' : Nat) : Int) := pk_sub_toInt (by omega) (by omega)
      by_cases hwin : pop a < pop b ∨ (pop a = pop b ∧ a < b)
      · rw [if_pos hwin, if_neg (by decide), j131_ev w8 t1, hm_z (z := (cb' : Int) - ((ca' - p' : Nat) : Int)) (fun k => by
          rw [hA k]
          rw [decide_eq_true_eq]
          clear t1 hA hw8 r1 r2 r3 r4 r5 s1 s2 ho1 ho2 k1 k2
          omega)]
      · have t2 := m1_add t1 (by clear t1; omega) (by clear t1; omega)
        rw [if_neg hwin, if_pos (by decide), j131_ev w8 t2, hm_z (z := (cb' : Int) - ((ca' - p' : Nat) : Int) - 1) (fun k => by
          rw [hA k]
          rw [decide_eq_true_eq]
          clear t1 t2 hA hw8 r1 r2 r3 r4 r5 s1 s2 ho1 ho2 k1 k2
          omega)]
theorem haggle_ok {w : WW} {S : StT} (I : SInv S) (C : CInv w S) (M : MInv w S) (x : Int32) : Both (f_X7_haggle w x) (fun w => f_X8_haggle w x) := by
  have hq := I.1.1.2.1
  by_cases hx : inb x (S.1.1 0 1)
  · obtain ⟨q, hq', rfl⟩ := inb_of hx (by omega)
    obtain ⟨w1, e, e1, e2⟩ := haggleC I C hq'
    exact both_ro I C M _ e e1 e2 (fun w' M' => haggleM I M' hq')
  · exact both_ref I C M (-2) 0 (by omega) (by simp only [f_X7_haggle, isQ_ev (q := S.1.1 0 1) (by omega) C.1.1.2.1, Option.bind_some, if_neg hx, refuse_0]; rfl) (fun w' M' => by simp only [f_X8_haggle, isQm_ev (q := S.1.1 0 1) (by omega) M'.1.2.1, Option.bind_some, if_neg hx, bad_0]; rfl)

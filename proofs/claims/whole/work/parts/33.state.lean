/-! the whole state: what is there now, the images, the text, the fraction, what was refused -/
abbrev Im : Type := Vt × List (List Nat)
abbrev StT : Type := Im × (Nat → Option Im) × List Nat × (Int64 × Int64) × (Nat → Int32)
def cl (v : Vt) : List Nat := (List.range (v 0 2)).map (fun i => 16 * v 5 i + v 6 i)
/-- a step of the trail: from c back to a -/
def TS (t : Int32) (a c : List Nat) : Prop := (t = -1 ∧ ∃ x, c = a ++ [x]) ∨ (∃ x, x < 128 ∧ t = nI x ∧ a = x :: c)
def TRl (tr : Nat → Int32) : List Nat → List (List Nat) → Prop
  | _, [] => True
  | cur, S :: U => TS (tr U.length) S cur ∧ TRl tr S U
def AH (ah : Nat → Int32) : List (List Nat) → Prop
  | [] => True
  | S :: U => (ah (17 * U.length) = nI S.length ∧ ∀ i, i < S.length → ah (17 * U.length + 1 + 2 * i) = nI (S.getD i 0 / 16) ∧ ah (17 * U.length + 2 + 2 * i) = nI (S.getD i 0 % 16)) ∧ AH ah U
def Rim (im : Im) : Prop := Rg im.1 ∧ im.2.length ≤ 8 ∧ ∀ T ∈ im.2, T.length ≤ 8 ∧ ∀ x ∈ T, x / 16 < im.1 0 1
def CA (w : WW) (b : Nat) (im : Im) : Prop := CSt w b im.1 ∧ w.1 b 3 = nI im.2.length ∧ TRl (w.1 (b + 7)) (cl im.1) im.2
def MG (n q a u : Int32) (W A K M P H : Nat → Int32) (im : Im) : Prop := n = nI (im.1 0 0) ∧ q = nI (im.1 0 1) ∧ a = nI (im.1 0 2) ∧ u = nI im.2.length ∧ (∀ x, x < 16 → W x = nI (im.1 1 x)) ∧ (∀ i, i < im.1 0 1 → K i = nI (im.1 2 i) ∧ M i = nI (im.1 3 i) ∧ P i = nI (im.1 4 i)) ∧ (∀ i, i < im.1 0 2 → A (2 * i) = nI (im.1 5 i) ∧ A (2 * i + 1) = nI (im.1 6 i)) ∧ AH H im.2
def MA (w : WW) (im : Im) : Prop := MG (w.1 46 1) (w.1 46 2) (w.1 46 3) (w.1 46 18) (w.1 48) (w.1 52) (w.1 49) (w.1 50) (w.1 51) (w.1 56) im
def MI (w : WW) (i : Nat) (im : Im) : Prop := MG (w.1 63 (193 * i)) (w.1 63 (193 * i + 1)) (w.1 63 (193 * i + 2)) (w.1 63 (193 * i + 3)) (fun k => w.1 63 (193 * i + 4 + k)) (fun k => w.1 63 (193 * i + 20 + k)) (fun k => w.1 63 (193 * i + 36 + k)) (fun k => w.1 63 (193 * i + 43 + k)) (fun k => w.1 63 (193 * i + 50 + k)) (fun k => w.1 63 (193 * i + 57 + k)) im
theorem MA.st {w : WW} {im : Im} (h : MA w im) : MSt w im.1 := ⟨h.1, h.2.1, h.2.2.1, h.2.2.2.2.1, h.2.2.2.2.2.1, h.2.2.2.2.2.2.1⟩
def TXt (tx : List Nat) (n : Int32) (f : Nat → Int32) : Prop := n = nI tx.length ∧ ∀ j, j < tx.length → f j = nI (tx.getD j 0)
/-- what holds of the state itself -/
def SInv (S : StT) : Prop := Rim S.1 ∧ (∀ i im, i < 2 → S.2.1 i = some im → Rim im) ∧ (S.2.2.1.length ≤ 150 ∧ ∀ c ∈ S.2.2.1, c < 128) ∧ 0 < S.2.2.2.1.2
def CImg (w : WW) (i : Nat) (o : Option Im) : Prop := match o with
  | none => w.1 25 i = 0
  | some im => w.1 25 i = 1 ∧ CA w (9 + 8 * i) im
def MImg (w : WW) (i : Nat) (o : Option Im) : Prop := match o with
  | none => w.1 63 (193 * i) = 0
  | some im => MI w i im
def CInv (w : WW) (S : StT) : Prop := CA w 1 S.1 ∧ (∀ i, i < 2 → CImg w i (S.2.1 i)) ∧ TXt S.2.2.1 (w.1 26 1) (w.1 27) ∧ (w.2 36 0 = S.2.2.2.1.1 ∧ w.2 36 1 = S.2.2.2.1.2) ∧ ∀ i, i < 3 → w.1 37 i = S.2.2.2.2 i
def MInv (w : WW) (S : StT) : Prop := MA w S.1 ∧ (∀ i, i < 2 → MImg w i (S.2.1 i)) ∧ TXt S.2.2.1 (w.1 46 10) (w.1 53) ∧ (w.2 46 24 = S.2.2.2.1.1 ∧ w.2 46 25 = S.2.2.2.1.2) ∧ ∀ i, i < 3 → w.1 47 i = S.2.2.2.2 i
/-- the class's cells that tell something: all below 46 but the reader's own numbers, the draft and what is laid anew at each use -/
def scr (k j : Nat) : Prop := (k = 26 ∧ j ≠ 1) ∨ (28 ≤ k ∧ k ≤ 35) ∨ (38 ≤ k ∧ k ≤ 45)
def scrM (k j : Nat) : Prop := (k = 46 ∧ (j = 11 ∨ j = 12 ∨ j = 13 ∨ j = 16 ∨ j = 27)) ∨ k = 54 ∨ k = 55 ∨ k = 57 ∨ k = 58 ∨ k = 59 ∨ k = 60 ∨ k = 61 ∨ k = 62
/-- only scratch cells of the class differ -/
def SameC (w w' : WW) : Prop := (∀ k j, ¬ scr k j → w'.1 k j = w.1 k j) ∧ ∀ k j, ¬ (38 ≤ k ∧ k ≤ 45) → w'.2 k j = w.2 k j
def SameM (w w' : WW) : Prop := (∀ k j, ¬ scrM k j → w'.1 k j = w.1 k j) ∧ ∀ k j, ¬ (k = 46 ∧ (j = 28 ∨ j = 30)) → w'.2 k j = w.2 k j
theorem SameC.rf (w : WW) : SameC w w := ⟨fun _ _ _ => rfl, fun _ _ _ => rfl⟩
theorem SameM.rf (w : WW) : SameM w w := ⟨fun _ _ _ => rfl, fun _ _ _ => rfl⟩
theorem SameC.tr {a b c : WW} (h1 : SameC a b) (h2 : SameC b c) : SameC a c := ⟨fun k j h => (h2.1 k j h).trans (h1.1 k j h), fun k j h => (h2.2 k j h).trans (h1.2 k j h)⟩
theorem SameM.tr {a b c : WW} (h1 : SameM a b) (h2 : SameM b c) : SameM a c := ⟨fun k j h => (h2.1 k j h).trans (h1.1 k j h), fun k j h => (h2.2 k j h).trans (h1.2 k j h)⟩
theorem CSt_congr {w w' : WW} {b : Nat} {v : Vt} (h : ∀ k j, b ≤ k → k ≤ b + 6 → w'.1 k j = w.1 k j) (C : CSt w b v) : CSt w' b v := by
  obtain ⟨c1, c2, c3, c4, c5, c6, c7⟩ := C
  exact ⟨(h _ _ (by omega) (by omega)).trans c1, (h _ _ (by omega) (by omega)).trans c2, (h _ _ (by omega) (by omega)).trans c3, fun x hx => (h _ _ (by omega) (by omega)).trans (c4 x hx), fun i hi => ⟨(h _ _ (by omega) (by omega)).trans (c5 i hi).1, (h _ _ (by omega) (by omega)).trans (c5 i hi).2.1, (h _ _ (by omega) (by omega)).trans (c5 i hi).2.2⟩, fun i x hi hx => (h _ _ (by omega) (by omega)).trans (c6 i x hi hx), fun i hi => (h _ _ (by omega) (by omega)).trans (c7 i hi)⟩
theorem CA_congr {w w' : WW} {b : Nat} {im : Im} (h : ∀ k j, b ≤ k → k ≤ b + 7 → w'.1 k j = w.1 k j) (C : CA w b im) : CA w' b im := by
  obtain ⟨c1, c2, c3⟩ := C
  refine ⟨CSt_congr (fun k j h1 h2 => h k j h1 (by omega)) c1, (h _ _ (by omega) (by omega)).trans c2, ?_⟩
  rw [show w'.1 (b + 7) = w.1 (b + 7) from funext fun j => h _ _ (by omega) (by omega)]
  exact c3
theorem CImg_congr {w w' : WW} {i : Nat} {o : Option Im} (h0 : w'.1 25 i = w.1 25 i) (h : ∀ k j, 9 + 8 * i ≤ k → k ≤ 9 + 8 * i + 7 → w'.1 k j = w.1 k j) (C : CImg w i o) : CImg w' i o := by
  cases o with
  | none => exact h0.trans C
  | some im => exact ⟨h0.trans C.1, CA_congr h C.2⟩
theorem CInv.same {w w' : WW} {S : StT} (h : SameC w w') (C : CInv w S) : CInv w' S := by
  obtain ⟨c1, c2, c3, c4, c5⟩ := C
  refine ⟨CA_congr (fun k j h1 h2 => h.1 k j (by unfold scr; omega)) c1, fun i hi => CImg_congr (h.1 _ _ (by unfold scr; omega)) (fun k j h1 h2 => h.1 k j (by unfold scr; omega)) (c2 i hi), ⟨(h.1 _ _ (by unfold scr; omega)).trans c3.1, fun j hj => (h.1 _ _ (by unfold scr; omega)).trans (c3.2 j hj)⟩, ⟨(h.2 _ _ (by omega)).trans c4.1, (h.2 _ _ (by omega)).trans c4.2⟩, fun i hi => (h.1 _ _ (by unfold scr; omega)).trans (c5 i hi)⟩
theorem MG_congr {n q a u n' q' a' u' : Int32} {W A K M P H W' A' K' M' P' H' : Nat → Int32} {im : Im} (hn : n' = n) (hq : q' = q) (ha : a' = a) (hu : u' = u) (hW : W' = W) (hA : A' = A) (hK : K' = K) (hM : M' = M) (hP : P' = P) (hH : H' = H) (h : MG n q a u W A K M P H im) : MG n' q' a' u' W' A' K' M' P' H' im := by
  subst hn hq ha hu hW hA hK hM hP hH
  exact h
theorem MA_congr {w w' : WW} {im : Im} (h0 : ∀ j, j = 1 ∨ j = 2 ∨ j = 3 ∨ j = 18 → w'.1 46 j = w.1 46 j) (h : ∀ k j, k = 48 ∨ k = 49 ∨ k = 50 ∨ k = 51 ∨ k = 52 ∨ k = 56 → w'.1 k j = w.1 k j) (C : MA w im) : MA w' im :=
  MG_congr (h0 _ (by omega)) (h0 _ (by omega)) (h0 _ (by omega)) (h0 _ (by omega)) (funext fun j => h _ j (by omega)) (funext fun j => h _ j (by omega)) (funext fun j => h _ j (by omega)) (funext fun j => h _ j (by omega)) (funext fun j => h _ j (by omega)) (funext fun j => h _ j (by omega)) C
theorem MImg_congr {w w' : WW} {i : Nat} {o : Option Im} (h : ∀ j, w'.1 63 j = w.1 63 j) (C : MImg w i o) : MImg w' i o := by
  cases o with
  | none => exact (h _).trans C
  | some im => exact MG_congr (h _) (h _) (h _) (h _) (funext fun j => h _) (funext fun j => h _) (funext fun j => h _) (funext fun j => h _) (funext fun j => h _) (funext fun j => h _) C
theorem MInv.same {w w' : WW} {S : StT} (h : SameM w w') (C : MInv w S) : MInv w' S := by
  obtain ⟨c1, c2, c3, c4, c5⟩ := C
  refine ⟨MA_congr (fun j hj => h.1 _ _ (by unfold scrM; omega)) (fun k j hk => h.1 _ _ (by unfold scrM; omega)) c1, fun i hi => MImg_congr (fun j => h.1 _ _ (by unfold scrM; omega)) (c2 i hi), ⟨(h.1 _ _ (by unfold scrM; omega)).trans c3.1, fun j hj => (h.1 _ _ (by unfold scrM; omega)).trans (c3.2 j hj)⟩, ⟨(h.2 _ _ (by omega)).trans c4.1, (h.2 _ _ (by omega)).trans c4.2⟩, fun i hi => (h.1 _ _ (by unfold scrM; omega)).trans (c5 i hi)⟩
/-- the class's side of an operation: it answers r, the state becomes S', the reference's cells stay -/
def LowC (w w' : WW) : Prop := ∀ k, 46 ≤ k → w'.1 k = w.1 k ∧ w'.2 k = w.2 k
def HighM (w w' : WW) : Prop := ∀ k, k < 46 → w'.1 k = w.1 k ∧ w'.2 k = w.2 k
theorem LowC.rf (w : WW) : LowC w w := fun _ _ => ⟨rfl, rfl⟩
theorem HighM.rf (w : WW) : HighM w w := fun _ _ => ⟨rfl, rfl⟩
theorem LowC.tr {a b c : WW} (h1 : LowC a b) (h2 : LowC b c) : LowC a c := fun k h => ⟨(h2 k h).1.trans (h1 k h).1, (h2 k h).2.trans (h1 k h).2⟩
theorem HighM.tr {a b c : WW} (h1 : HighM a b) (h2 : HighM b c) : HighM a c := fun k h => ⟨(h2 k h).1.trans (h1 k h).1, (h2 k h).2.trans (h1 k h).2⟩
theorem MInv.low {w w' : WW} {S : StT} (h : LowC w w') (C : MInv w S) : MInv w' S := by
  obtain ⟨c1, c2, c3, c4, c5⟩ := C
  refine ⟨MA_congr (fun j hj => by rw [(h 46 (by omega)).1]) (fun k j hk => by rw [(h k (by omega)).1]) c1, fun i hi => MImg_congr (fun j => by rw [(h 63 (by omega)).1]) (c2 i hi), ⟨by rw [(h 46 (by omega)).1]; exact c3.1, fun j hj => by rw [(h 53 (by omega)).1]; exact c3.2 j hj⟩, ⟨by rw [(h 46 (by omega)).2]; exact c4.1, by rw [(h 46 (by omega)).2]; exact c4.2⟩, fun i hi => by rw [(h 47 (by omega)).1]; exact c5 i hi⟩
theorem CInv.high {w w' : WW} {S : StT} (h : HighM w w') (C : CInv w S) : CInv w' S := by
  obtain ⟨c1, c2, c3, c4, c5⟩ := C
  refine ⟨CA_congr (fun k j h1 h2 => by rw [(h k (by omega)).1]) c1, fun i hi => CImg_congr (by rw [(h 25 (by omega)).1]) (fun k j h1 h2 => by rw [(h k (by omega)).1]) (c2 i hi), ⟨by rw [(h 26 (by omega)).1]; exact c3.1, fun j hj => by rw [(h 27 (by omega)).1]; exact c3.2 j hj⟩, ⟨by rw [(h 36 (by omega)).2]; exact c4.1, by rw [(h 36 (by omega)).2]; exact c4.2⟩, fun i hi => by rw [(h 37 (by omega)).1]; exact c5 i hi⟩
/-- both sides of an operation with its answer -/
def OpC (w : WW) (o : Option (Int32 × WW)) (r : Int32) (S' : StT) : Prop := ∃ w', o = some (r, w') ∧ LowC w w' ∧ CInv w' S'
def OpM (w : WW) (o : Option (Int32 × WW)) (r : Int32) (S' : StT) : Prop := ∃ w', o = some (r, w') ∧ HighM w w' ∧ MInv w' S'
/-- one more refused -/
def bump (S : StT) (i : Nat) : StT := (S.1, S.2.1, S.2.2.1, S.2.2.2.1, fun j => if j = i then S.2.2.2.2 j + 1 else S.2.2.2.2 j)
theorem LowC.sI {w : WW} {k j : Nat} {x : Int32} (hk : k < 46) : LowC w (sI w k j x) := fun a ha => ⟨funext fun b => sI_ne w x (by omega), rfl⟩
theorem HighM.sI {w : WW} {k j : Nat} {x : Int32} (hk : 46 ≤ k) : HighM w (sI w k j x) := fun a ha => ⟨funext fun b => sI_ne w x (by omega), rfl⟩
theorem LowC.sL {w : WW} {k j : Nat} {x : Int64} (hk : k < 46) : LowC w (sL w k j x) := fun a ha => ⟨rfl, funext fun b => if_neg (by omega)⟩
theorem HighM.sL {w : WW} {k j : Nat} {x : Int64} (hk : 46 ≤ k) : HighM w (sL w k j x) := fun a ha => ⟨rfl, funext fun b => if_neg (by omega)⟩
theorem CInv.bump {w : WW} {S : StT} {i : Nat} (hi : i < 3) (C : CInv w S) : CInv (sI w 37 i (w.1 37 i + 1)) (bump S i) := by
  obtain ⟨c1, c2, c3, c4, c5⟩ := C
  refine ⟨CA_congr (fun k j h1 h2 => sI_ne w _ (by omega)) c1, fun i hi => CImg_congr (sI_ne w _ (by omega)) (fun k j h1 h2 => sI_ne w _ (by omega)) (c2 i hi), ⟨(sI_ne w _ (by omega)).trans c3.1, fun j hj => (sI_ne w _ (by omega)).trans (c3.2 j hj)⟩, c4, fun j hj => ?_⟩
  show _ = if j = i then S.2.2.2.2 j + 1 else S.2.2.2.2 j
  by_cases h : j = i
  · subst h; rw [sI_at, if_pos rfl, c5 j hj]
  · rw [sI_ne w _ (by omega), if_neg h, c5 j hj]
theorem MInv.bump {w : WW} {S : StT} {i : Nat} (hi : i < 3) (C : MInv w S) : MInv (sI w 47 i (w.1 47 i + 1)) (bump S i) := by
  obtain ⟨c1, c2, c3, c4, c5⟩ := C
  refine ⟨MA_congr (fun j hj => sI_ne w _ (by omega)) (fun k j hk => sI_ne w _ (by omega)) c1, fun i hi => MImg_congr (fun j => sI_ne w _ (by omega)) (c2 i hi), ⟨(sI_ne w _ (by omega)).trans c3.1, fun j hj => (sI_ne w _ (by omega)).trans (c3.2 j hj)⟩, c4, fun j hj => ?_⟩
  show _ = if j = i then S.2.2.2.2 j + 1 else S.2.2.2.2 j
  by_cases h : j = i
  · subst h; rw [sI_at, if_pos rfl, c5 j hj]
  · rw [sI_ne w _ (by omega), if_neg h, c5 j hj]
theorem SInv.bump {S : StT} {i : Nat} (h : SInv S) : SInv (bump S i) := h
-- refusing
theorem refuse_0 (w : WW) (r : Int32) : f_X7_refuse w (-2) r = some (r, sI w 37 0 (w.1 37 0 + 1)) := rfl
theorem refuse_1 (w : WW) (r : Int32) : f_X7_refuse w (-3) r = some (r, sI w 37 1 (w.1 37 1 + 1)) := rfl
theorem refuse_2 (w : WW) (r : Int32) : f_X7_refuse w (-4) r = some (r, sI w 37 2 (w.1 37 2 + 1)) := rfl
theorem bad_0 (w : WW) : f_X8_bad w = some (-2, sI w 47 0 (w.1 47 0 + 1)) := rfl
theorem ten_0 (w : WW) : f_X8_ten w = some (-10, sI w 47 0 (w.1 47 0 + 1)) := rfl
theorem no_1 (w : WW) : f_X8_no w = some (-3, sI w 47 1 (w.1 47 1 + 1)) := rfl
theorem full_2 (w : WW) : f_X8_full w = some (-4, sI w 47 2 (w.1 47 2 + 1)) := rfl
theorem within_ev (w : WW) (x lo hi : Int32) : f_X7_within w x lo hi = some (if lo ≤ x ∧ x ≤ hi then 1 else 0) := by
  unfold f_X7_within f_X7_within_j14
  by_cases h1 : x < lo
  · rw [if_pos h1, if_neg (show ¬ (lo ≤ x ∧ x ≤ hi) from fun h => Int32.not_lt.mpr h.1 h1)]
  · rw [if_neg h1]
    by_cases h2 : hi < x
    · rw [if_pos h2, if_neg (show ¬ (lo ≤ x ∧ x ≤ hi) from fun h => Int32.not_lt.mpr h.2 h2)]
    · rw [if_neg h2, if_pos ⟨Int32.not_lt.mp h1, Int32.not_lt.mp h2⟩]
theorem in_ev (w : WW) (x lo hi : Int32) : f_X8_in w x lo hi = some (if lo ≤ x ∧ x ≤ hi then 1 else 0) := by
  unfold f_X8_in f_X8_in_j14
  by_cases h1 : x < lo
  · rw [if_pos h1, if_neg (show ¬ (lo ≤ x ∧ x ≤ hi) from fun h => Int32.not_lt.mpr h.1 h1)]
  · rw [if_neg h1]
    by_cases h2 : hi < x
    · rw [if_pos h2, if_neg (show ¬ (lo ≤ x ∧ x ≤ hi) from fun h => Int32.not_lt.mpr h.2 h2)]
    · rw [if_neg h2, if_pos ⟨Int32.not_lt.mp h1, Int32.not_lt.mp h2⟩]
theorem le_inb {x : Int32} {n : Nat} (hn : n < 2 ^ 31) : (0 ≤ x ∧ x ≤ nI n - 1) ↔ inb x n := by
  unfold inb
  rw [Int32.le_iff_toInt_le, Int32.le_iff_toInt_le]
  have h0 : (0 : Int32).toInt = 0 := rfl
  rw [h0]
  cases n with
  | zero =>
    have : (nI 0 - 1).toInt = -1 := by decide
    rw [this]; omega
  | succ n => rw [nI_pred, nI_toInt (by omega)]; omega
theorem isQ_ev {w : WW} {q : Nat} (hq : q < 2 ^ 31) (h : w.1 1 1 = nI q) (x : Int32) : f_X7_isQuestion w x = some (if inb x q then 1 else 0) := by
  unfold f_X7_isQuestion
  rw [h, within_ev, Option.bind_some, ite_congr (propext (le_inb hq)) (fun _ => rfl) (fun _ => rfl)]
  by_cases hx : inb x q
  · rw [if_pos hx]; rfl
  · rw [if_neg hx]; rfl
theorem isC_ev {w : WW} {q : Nat} (hq : q < 2 ^ 31) (h : w.1 1 0 = nI q) (x : Int32) : f_X7_isCase w x = some (if inb x q then 1 else 0) := by
  unfold f_X7_isCase
  rw [h, within_ev, Option.bind_some, ite_congr (propext (le_inb hq)) (fun _ => rfl) (fun _ => rfl)]
  by_cases hx : inb x q
  · rw [if_pos hx]; rfl
  · rw [if_neg hx]; rfl
theorem isQm_ev {w : WW} {q : Nat} (hq : q < 2 ^ 31) (h : w.1 46 2 = nI q) (x : Int32) : f_X8_isQuestion w x = some (if inb x q then 1 else 0) := by
  unfold f_X8_isQuestion
  rw [h, in_ev, Option.bind_some, ite_congr (propext (le_inb hq)) (fun _ => rfl) (fun _ => rfl)]
  by_cases hx : inb x q
  · rw [if_pos hx]; rfl
  · rw [if_neg hx]; rfl
theorem isCm_ev {w : WW} {q : Nat} (hq : q < 2 ^ 31) (h : w.1 46 1 = nI q) (x : Int32) : f_X8_isCase w x = some (if inb x q then 1 else 0) := by
  unfold f_X8_isCase
  rw [h, in_ev, Option.bind_some, ite_congr (propext (le_inb hq)) (fun _ => rfl) (fun _ => rfl)]
  by_cases hx : inb x q
  · rw [if_pos hx]; rfl
  · rw [if_neg hx]; rfl
theorem inb_of {x : Int32} {n : Nat} (h : inb x n) (hn : n < 2 ^ 31) : ∃ i, i < n ∧ x = nI i := vp_in_of (vp_in_iff.mpr h) hn

theorem tbl_good : tb.all goodWord = true := List.all_eq_true.mpr (fun _ h => (List.mem_filter.mp h).2)
theorem tbl_in {w : Cond} (h : w ∈ tb) : GoodIn tb [w] := fun v hv => by
  rw [List.mem_singleton] at hv
  subst hv
  exact ⟨h, good_of_word (List.all_eq_true.mp tbl_good _ h)⟩
theorem tbl_sub {ws : List Cond} (h : ∀ w ∈ ws, w ∈ tb) : GoodIn tb ws := fun v hv => ⟨h v hv, good_of_word (List.all_eq_true.mp tbl_good _ (h v hv))⟩
/-- what the tables say of a field that an instruction links -/
def FL (own : String) (ix ci j : Nat) (ty : FieldType) (fin : Bool) : Prop := ∃ (C : String) (T : u_T) (N : Nat) (ty0 : Nat → FieldType), vwCl[ci]? = some (C, T, N) ∧ j < N ∧ (∀ w ∈ u_ws C T N, w ∈ tb) ∧ Cond.fieldLink own ix (T j).1 (T j).2.1 (T j).2.2.1 ∈ tb ∧ (∀ k, k < N → parseFieldDescriptor (T k).2.2.1 = some (ty0 k)) ∧ (∀ a, a < N → ∀ b, b < N → a ≠ b → (T a).2.1 ≠ (T b).2.1) ∧ parseFieldDescriptor (T j).2.2.1 = some ty ∧ (T j).2.2.2 = fin ∧ (T j).1 = C
abbrev inb (i : Int32) (n : Nat) : Prop := 0 ≤ i.toInt ∧ i.toInt < (n : Int)
def stI {τ : Type} (w : WW) (k j : Nat) (x : Int32) (f : WW → Option τ) : Option τ := f (sI w k j x)
def stL {τ : Type} (w : WW) (k j : Nat) (x : Int64) (f : WW → Option τ) : Option τ := f (sL w k j x)
def stC {τ : Type} (w : WW) (k0 k1 : Nat) (sp dp m : Int32) (f : WW → Option τ) : Option τ := f (sC w k0 k1 sp.toNatClampNeg dp.toNatClampNeg m.toNatClampNeg)
abbrev cpOk (n0 n1 : Nat) (sp dp m : Int32) : Prop := ¬ sp < 0 ∧ ¬ dp < 0 ∧ ¬ m < 0 ∧ sp.toNatClampNeg + m.toNatClampNeg ≤ n0 ∧ dp.toNatClampNeg + m.toNatClampNeg ≤ n1
section KM
variable {cc : ByteArray} {own nm : String} {nL : Nat} {R : Room} {nA : Option Nat} {X : (Nat → Prop) → State → Prop} {Rt : List LyS → Nat → Nat → Option Value → WW → Prop} {lay : List LyS} {k n : Nat} {G : Nat → List (Nat × Value) → List Value → WW → Prop} {pc : Nat} {lv : List (Nat × Value)} {st : List Value} {w : WW}
theorem k_geti (h : Rules cc own nm nL R nA X Rt lay k n G) {ix kb ci j : Nat} {fs : List (Nat ⊕ Option Nat)} {ty : FieldType} {fin : Bool} (hf : FL own ix ci j ty fin) (hl : lay[kb]? = some (.inr (ci, fs))) (hj : fs[j]? = some (.inl 0)) (hd : decode cc pc = .ok (.getfield ix, 3)) (g : G (pc + 3) lv (.int (w.1 kb j) :: st) w) : G pc lv (.ref kb :: st) w := by
  obtain ⟨p, l, e, s, m, args, below, meth, c, D, A, Pa, Q, hx, hb, hml, hown, hts, hK, hnm, hXX, hA, hE, hPa, hR, rfl⟩ := h
  obtain ⟨C, T, N, ty0, f1, f2, f3, f4, f5, f6, f7, f8, f9⟩ := hf
  intro H locs ls ca ad h1 h2 h3 h4 h5 h6
  exact va_get hx hb hts f3 hown hK h2 kb (wl_at hl) f1 j f2 (hts _ f4) (fun _ z => z) (by simp [List.getElem?_mapIdx, hj, fv]; rfl) hd (g H locs ls ca ad h1 h2 h3 h4 h5 h6)
theorem k_getl (h : Rules cc own nm nL R nA X Rt lay k n G) {ix kb ci j : Nat} {fs : List (Nat ⊕ Option Nat)} {ty : FieldType} {fin : Bool} (hf : FL own ix ci j ty fin) (hl : lay[kb]? = some (.inr (ci, fs))) (hj : fs[j]? = some (.inl 1)) (hd : decode cc pc = .ok (.getfield ix, 3)) (g : G (pc + 3) lv (.long (w.2 kb j) :: st) w) : G pc lv (.ref kb :: st) w := by
  obtain ⟨p, l, e, s, m, args, below, meth, c, D, A, Pa, Q, hx, hb, hml, hown, hts, hK, hnm, hXX, hA, hE, hPa, hR, rfl⟩ := h
  obtain ⟨C, T, N, ty0, f1, f2, f3, f4, f5, f6, f7, f8, f9⟩ := hf
  intro H locs ls ca ad h1 h2 h3 h4 h5 h6
  exact va_get hx hb hts f3 hown hK h2 kb (wl_at hl) f1 j f2 (hts _ f4) (fun _ z => z) (by simp [List.getElem?_mapIdx, hj, fv]; rfl) hd (g H locs ls ca ad h1 h2 h3 h4 h5 h6)
theorem k_getr (h : Rules cc own nm nL R nA X Rt lay k n G) {ix kb ci j : Nat} {r : Nat} {fs : List (Nat ⊕ Option Nat)} {ty : FieldType} {fin : Bool} (hf : FL own ix ci j ty fin) (hl : lay[kb]? = some (.inr (ci, fs))) (hj : fs[j]? = some (.inr (some r))) (hd : decode cc pc = .ok (.getfield ix, 3)) (g : G (pc + 3) lv (.ref r :: st) w) : G pc lv (.ref kb :: st) w := by
  obtain ⟨p, l, e, s, m, args, below, meth, c, D, A, Pa, Q, hx, hb, hml, hown, hts, hK, hnm, hXX, hA, hE, hPa, hR, rfl⟩ := h
  obtain ⟨C, T, N, ty0, f1, f2, f3, f4, f5, f6, f7, f8, f9⟩ := hf
  intro H locs ls ca ad h1 h2 h3 h4 h5 h6
  exact va_get hx hb hts f3 hown hK h2 kb (wl_at hl) f1 j f2 (hts _ f4) (fun _ z => z) (by simp [List.getElem?_mapIdx, hj, fv]; rfl) hd (g H locs ls ca ad h1 h2 h3 h4 h5 h6)
theorem k_puti (h : Rules cc own nm nL R nA X Rt lay k n G) {τ : Type} {z : τ} {ix kb ci j : Nat} {x : Int32} {F : WW → Option τ} {fs : List (Nat ⊕ Option Nat)} (hf : FL own ix ci j .int false) (hl : lay[kb]? = some (.inr (ci, fs))) (hj : fs[j]? = some (.inl 0)) (hd : decode cc pc = .ok (.putfield ix, 3)) (hk : stI w kb j x F = some z) (g : ∀ u : WW, F u = some z → G (pc + 3) lv st u) : G pc lv (.int x :: .ref kb :: st) w := by
  have g := g _ hk
  obtain ⟨p, l, e, s, m, args, below, meth, c, D, A, Pa, Q, hx, hb, hml, hown, hts, hK, hnm, hXX, hA, hE, hPa, hR, rfl⟩ := h
  obtain ⟨C, T, N, ty0, f1, f2, f3, f4, f5, f6, f7, f8, f9⟩ := hf
  intro H locs ls ca ad h1 h2 h3 h4 h5 h6
  refine va_put hx hb hts f3 ty0 f5 f6 hown hK h2 h3.D h5 kb (wl_at hl) f1 j f2 (hts _ f4) (fun _ z => z) f8 f7 rfl rfl (by simpa using (List.getElem?_eq_some_iff.mp hj).1) hd (fun H1 locs1 q1 q2 q3 => ?_)
  have q1 : va_P D vwCl ((wl ad ca w lay).set kb (ad kb, .inr (ci, (fs.mapIdx (fv ad w kb)).set j (.int x)))) H1 := q1
  rw [wl_objI hl hj] at q1
  exact g H1 locs1 ls ca ad h1 q1 h3 h4 q3 h6
theorem k_putl (h : Rules cc own nm nL R nA X Rt lay k n G) {τ : Type} {z : τ} {ix kb ci j : Nat} {x : Int64} {F : WW → Option τ} {fs : List (Nat ⊕ Option Nat)} (hf : FL own ix ci j .long false) (hl : lay[kb]? = some (.inr (ci, fs))) (hj : fs[j]? = some (.inl 1)) (hd : decode cc pc = .ok (.putfield ix, 3)) (hk : stL w kb j x F = some z) (g : ∀ u : WW, F u = some z → G (pc + 3) lv st u) : G pc lv (.long x :: .ref kb :: st) w := by
  have g := g _ hk
  obtain ⟨p, l, e, s, m, args, below, meth, c, D, A, Pa, Q, hx, hb, hml, hown, hts, hK, hnm, hXX, hA, hE, hPa, hR, rfl⟩ := h
  obtain ⟨C, T, N, ty0, f1, f2, f3, f4, f5, f6, f7, f8, f9⟩ := hf
  intro H locs ls ca ad h1 h2 h3 h4 h5 h6
  refine va_put hx hb hts f3 ty0 f5 f6 hown hK h2 h3.D h5 kb (wl_at hl) f1 j f2 (hts _ f4) (fun _ z => z) f8 f7 rfl rfl (by simpa using (List.getElem?_eq_some_iff.mp hj).1) hd (fun H1 locs1 q1 q2 q3 => ?_)
  have q1 : va_P D vwCl ((wl ad ca w lay).set kb (ad kb, .inr (ci, (fs.mapIdx (fv ad w kb)).set j (.long x)))) H1 := q1
  rw [wl_objL hl hj] at q1
  exact g H1 locs1 ls ca ad h1 q1 h3 h4 q3 h6
theorem k_iald (h : Rules cc own nm nL R nA X Rt lay k n G) {τ : Type} {z : τ} {E : Option τ} {kb N : Nat} {i : Int32} (hl : lay[kb]? = some (.inl (.int, N))) (hd : decode cc pc = .ok (.iaload, 1)) (hk : gd (inb i N) E = some z) (g : E = some z → G (pc + 1) lv (.int (w.1 kb i.toNatClampNeg) :: st) w) : G pc lv (.int i :: .ref kb :: st) w := by
  obtain ⟨hi, hk⟩ := gd_some hk
  have g := g hk
  obtain ⟨p, l, e, s, m, args, below, meth, c, D, A, Pa, Q, hx, hb, hml, hown, hts, hK, hnm, hXX, hA, hE, hPa, hR, rfl⟩ := h
  intro H locs ls ca ad h1 h2 h3 h4 h5 h6
  exact va_iald hx hb (h4.K hK hl) h2 kb 0 (wl_at hl) rfl (vp_in_iff.mpr hi) hd (g H locs ls ca ad h1 h2 h3 h4 h5 h6)
theorem k_bald (h : Rules cc own nm nL R nA X Rt lay k n G) {τ : Type} {z : τ} {E : Option τ} {kb N : Nat} {i : Int32} (hl : lay[kb]? = some (.inl (.byte, N))) (hd : decode cc pc = .ok (.baload, 1)) (hk : gd (inb i N) E = some z) (g : E = some z → G (pc + 1) lv (.int (w.1 kb i.toNatClampNeg) :: st) w) : G pc lv (.int i :: .ref kb :: st) w := by
  obtain ⟨hi, hk⟩ := gd_some hk
  have g := g hk
  obtain ⟨p, l, e, s, m, args, below, meth, c, D, A, Pa, Q, hx, hb, hml, hown, hts, hK, hnm, hXX, hA, hE, hPa, hR, rfl⟩ := h
  intro H locs ls ca ad h1 h2 h3 h4 h5 h6
  exact va_bald hx hb (h4.K hK hl) h2 kb 0 (wl_at hl) rfl (vp_in_iff.mpr hi) hd (g H locs ls ca ad h1 h2 h3 h4 h5 h6)
theorem k_zald (h : Rules cc own nm nL R nA X Rt lay k n G) {τ : Type} {z : τ} {E : Option τ} {kb N : Nat} {i : Int32} (hl : lay[kb]? = some (.inl (.boolean, N))) (hd : decode cc pc = .ok (.baload, 1)) (hk : gd (inb i N) E = some z) (g : E = some z → G (pc + 1) lv (.int (w.1 kb i.toNatClampNeg) :: st) w) : G pc lv (.int i :: .ref kb :: st) w := by
  obtain ⟨hi, hk⟩ := gd_some hk
  have g := g hk
  obtain ⟨p, l, e, s, m, args, below, meth, c, D, A, Pa, Q, hx, hb, hml, hown, hts, hK, hnm, hXX, hA, hE, hPa, hR, rfl⟩ := h
  intro H locs ls ca ad h1 h2 h3 h4 h5 h6
  exact va_zald hx hb (h4.K hK hl) h2 kb 0 (wl_at hl) rfl (vp_in_iff.mpr hi) hd (g H locs ls ca ad h1 h2 h3 h4 h5 h6)
theorem k_iast (h : Rules cc own nm nL R nA X Rt lay k n G) {τ : Type} {z : τ} {F : WW → Option τ} {kb N : Nat} {i x : Int32} (hl : lay[kb]? = some (.inl (.int, N))) (hd : decode cc pc = .ok (.iastore, 1)) (hk : gd (inb i N) (stI w kb i.toNatClampNeg (x) F) = some z) (g : ∀ u : WW, F u = some z → G (pc + 1) lv st u) : G pc lv (.int x :: .int i :: .ref kb :: st) w := by
  obtain ⟨hi, hk⟩ := gd_some hk
  have g := g _ hk
  obtain ⟨p, l, e, s, m, args, below, meth, c, D, A, Pa, Q, hx, hb, hml, hown, hts, hK, hnm, hXX, hA, hE, hPa, hR, rfl⟩ := h
  intro H locs ls ca ad h1 h2 h3 h4 h5 h6
  refine va_iast hx hb (h4.K hK hl) h2 h3.D h5 kb 0 (wl_at hl) rfl (vp_in_iff.mpr hi) hd (fun H1 locs1 q1 q2 q3 => ?_)
  have q1 : va_P D vwCl ((wl ad ca w lay).set kb (ad kb, .inl (ca kb, N, .inl (upd (w.1 kb) i.toNatClampNeg (x))))) H1 := q1
  rw [wl_arr hl] at q1
  exact g H1 locs1 ls ca ad h1 q1 h3 h4 q3 h6
theorem k_bast (h : Rules cc own nm nL R nA X Rt lay k n G) {τ : Type} {z : τ} {F : WW → Option τ} {kb N : Nat} {i x : Int32} (hl : lay[kb]? = some (.inl (.byte, N))) (hd : decode cc pc = .ok (.bastore, 1)) (hk : gd (inb i N) (stI w kb i.toNatClampNeg (vp_nar .byte x) F) = some z) (g : ∀ u : WW, F u = some z → G (pc + 1) lv st u) : G pc lv (.int x :: .int i :: .ref kb :: st) w := by
  obtain ⟨hi, hk⟩ := gd_some hk
  have g := g _ hk
  obtain ⟨p, l, e, s, m, args, below, meth, c, D, A, Pa, Q, hx, hb, hml, hown, hts, hK, hnm, hXX, hA, hE, hPa, hR, rfl⟩ := h
  intro H locs ls ca ad h1 h2 h3 h4 h5 h6
  refine va_bast hx hb (h4.K hK hl) h2 h3.D h5 kb 0 (wl_at hl) rfl (vp_in_iff.mpr hi) hd (fun H1 locs1 q1 q2 q3 => ?_)
  have q1 : va_P D vwCl ((wl ad ca w lay).set kb (ad kb, .inl (ca kb, N, .inl (upd (w.1 kb) i.toNatClampNeg (vp_nar .byte x))))) H1 := q1
  rw [wl_arr hl] at q1
  exact g H1 locs1 ls ca ad h1 q1 h3 h4 q3 h6
theorem k_zast (h : Rules cc own nm nL R nA X Rt lay k n G) {τ : Type} {z : τ} {F : WW → Option τ} {kb N : Nat} {i x : Int32} (hl : lay[kb]? = some (.inl (.boolean, N))) (hd : decode cc pc = .ok (.bastore, 1)) (hk : gd (inb i N) (stI w kb i.toNatClampNeg (vp_nar .boolean x) F) = some z) (g : ∀ u : WW, F u = some z → G (pc + 1) lv st u) : G pc lv (.int x :: .int i :: .ref kb :: st) w := by
  obtain ⟨hi, hk⟩ := gd_some hk
  have g := g _ hk
  obtain ⟨p, l, e, s, m, args, below, meth, c, D, A, Pa, Q, hx, hb, hml, hown, hts, hK, hnm, hXX, hA, hE, hPa, hR, rfl⟩ := h
  intro H locs ls ca ad h1 h2 h3 h4 h5 h6
  refine va_zast hx hb (h4.K hK hl) h2 h3.D h5 kb 0 (wl_at hl) rfl (vp_in_iff.mpr hi) hd (fun H1 locs1 q1 q2 q3 => ?_)
  have q1 : va_P D vwCl ((wl ad ca w lay).set kb (ad kb, .inl (ca kb, N, .inl (upd (w.1 kb) i.toNatClampNeg (vp_nar .boolean x))))) H1 := q1
  rw [wl_arr hl] at q1
  exact g H1 locs1 ls ca ad h1 q1 h3 h4 q3 h6
theorem k_copyi (h : Rules cc own nm nL R nA X Rt lay k n G) {τ : Type} {z : τ} {F : WW → Option τ} {ix k0 k1 n0 n1 : Nat} {sp dp m : Int32} (hw : ∀ w ∈ [Cond.methodLink own ix arraycopyName, Cond.native arraycopyName, Cond.static arraycopyName, Cond.initialized "java/lang/System"], w ∈ tb) (hl0 : lay[k0]? = some (.inl (.int, n0))) (hl1 : lay[k1]? = some (.inl (.int, n1))) (hf : 1 ≤ R.frames) (hlo : (st.map fun v => v.category).sum + (nativeFrameWords "java/lang/System" "arraycopy" 5 + 11) ≤ R.locals) (hd : decode cc pc = .ok (.invokestatic ix, 3)) (hk : gd (cpOk n0 n1 sp dp m) (stC w k0 k1 sp dp m F) = some z) (g : ∀ u : WW, F u = some z → G (pc + 3) lv st u) : G pc lv (.int m :: .int dp :: .ref k1 :: .int sp :: .ref k0 :: st) w := by
  obtain ⟨hi, hk⟩ := gd_some hk
  have g := g _ hk
  obtain ⟨p, l, e, s, mm, args, below, meth, c, D, A, Pa, Q, hx, hb, hml, hown, hts, hK, hnm, hXX, hA, hE, hPa, hR, rfl⟩ := h
  intro H locs ls ca ad h1 h2 h3 h4 h5 h6
  refine va_copyi hx hb (hml.trans h6.1.symm) hown (hts _ (hw _ (by simp))) (hts _ (hw _ (by simp))) (hts _ (hw _ (by simp))) (hts _ (hw _ (by simp))) (h4.K2 hK hl0 hl1) h2 h3.D h5 k0 k1 0 1 (wl_at hl0) (wl_at hl1) rfl rfl rfl hi.1 hi.2.1 hi.2.2.1 hi.2.2.2.1 hi.2.2.2.2 (fun _ _ => rfl) hf (by rw [tl_map_cat]; exact hlo) hd (fun H1 locs1 q1 q2 q3 => ?_)
  have q1 : va_P D vwCl ((wl ad ca w lay).set k1 (ad k1, .inl (ca k1, n1, .inl (va_cpy (w.1 k0) (w.1 k1) sp.toNatClampNeg dp.toNatClampNeg m.toNatClampNeg)))) H1 := q1
  rw [wl_cpy hl1] at q1
  exact g H1 locs1 ls ca ad h1 q1 h3 h4 q3 h6
/-- a switch, a case at a time -/
theorem k_tab (h : Rules cc own nm nL R nA X Rt lay k n G) {τ : Type} {z : τ} {E1 E2 : Option τ} {dflt lo hi : Int} {offs : Array Int} {len : Nat} {x a : Int32} {off : Int} {tgt : Nat} (hd : decode cc pc = .ok (.tableswitch dflt lo hi offs, len)) (h1 : ¬ a.toInt < lo) (h2 : ¬ hi < a.toInt) (ho : offs[(a.toInt - lo).toNat]? = some off) (ht : (pc : Int) + off = (tgt : Int)) (hk : (if x = a then E1 else E2) = some z) (g1 : E1 = some z → G tgt lv st w) (g2 : ¬ x = a → E2 = some z → G pc lv (.int x :: st) w) : G pc lv (.int x :: st) w := by
  by_cases hc : x = a
  · have g := g1 (ite_t hk hc)
    subst hc
    exact h.lift (fun _ _ _ _ _ _ _ _ _ _ _ _ ls ad hx hb _ _ _ k => lv_tableIn hx hb hd h1 h2 ho ht k) g
  · exact g2 hc (ite_f hk hc)
theorem k_tabD (h : Rules cc own nm nL R nA X Rt lay k n G) {dflt lo hi : Int} {offs : Array Int} {len : Nat} {x : Int32} {tgt : Nat} (hd : decode cc pc = .ok (.tableswitch dflt lo hi offs, len)) (h1 : x.toInt < lo ∨ hi < x.toInt) (ht : (pc : Int) + dflt = (tgt : Int)) (g : G tgt lv st w) : G pc lv (.int x :: st) w := h.lift (fun _ _ _ _ _ _ _ _ _ _ _ _ ls ad hx hb _ _ _ k => lv_tableOut hx hb hd h1 ht k) g
theorem k_look (h : Rules cc own nm nL R nA X Rt lay k n G) {τ : Type} {z : τ} {E1 E2 : Option τ} {dflt : Int} {ps : Array (Int × Int)} {len : Nat} {x a : Int32} {off : Int} {tgt : Nat} (hd : decode cc pc = .ok (.lookupswitch dflt ps, len)) (hp : (ps.toList.zip (ps.toList.drop 1)).all (fun (a, next) => a.1 < next.1) = true) (ho : Op.lookupswitch.offset ps.toList dflt a.toInt = off) (ht : (pc : Int) + off = (tgt : Int)) (hk : (if x = a then E1 else E2) = some z) (g1 : E1 = some z → G tgt lv st w) (g2 : ¬ x = a → E2 = some z → G pc lv (.int x :: st) w) : G pc lv (.int x :: st) w := by
  by_cases hc : x = a
  · have g := g1 (ite_t hk hc)
    subst hc
    exact h.lift (fun _ _ _ _ _ _ _ _ _ _ _ _ ls ad hx hb _ _ _ k => lv_lookup hx hb hd hp ho ht k) g
  · exact g2 hc (ite_f hk hc)
theorem k_lookD (h : Rules cc own nm nL R nA X Rt lay k n G) {dflt : Int} {ps : Array (Int × Int)} {len : Nat} {x : Int32} {tgt : Nat} (hd : decode cc pc = .ok (.lookupswitch dflt ps, len)) (hp : (ps.toList.zip (ps.toList.drop 1)).all (fun (a, next) => a.1 < next.1) = true) (ho : Op.lookupswitch.offset ps.toList dflt x.toInt = dflt) (ht : (pc : Int) + dflt = (tgt : Int)) (g : G tgt lv st w) : G pc lv (.int x :: st) w := h.lift (fun _ _ _ _ _ _ _ _ _ _ _ _ ls ad hx hb _ _ _ k => lv_lookup hx hb hd hp ho ht k) g
end KM
def rmd (d mc ms : Nat) : Room := { frames := d, cells := mc, slots := ms, locals := 40 * d }
/-- what holds where a method begins: the layout's cells with the world's numbers -/
def cPc (A : Nat → Prop) (D : va_G) (ad : Nat → Nat) (ca : Nat → ClassId) (sz : Nat) (lay : List LyS) (as : List Value) (w : WW) : Array Value → State → Prop := va_Pc (as.map (tv ad)) (fun U => U.heap.size = sz ∧ va_P D vwCl (wl ad ca w lay) U.heap ∧ va_K D vwCl [] U ∧ KA lay ca U ∧ EV ad A U)
theorem cPc_blind {A : Nat → Prop} {D : va_G} {ad : Nat → Nat} {ca : Nat → ClassId} {sz : Nat} {lay : List LyS} {as : List Value} {w : WW} : FrameBlind (cPc A D ad ca sz lay as w) := fun a U g mk q => by
  obtain ⟨q0, q1, qP, qK, qA, qE⟩ := q
  exact ⟨q0, q1, qP, va_K.moved (u := U) (U := U.calling g mk a) (Vm.Alike.refl U.vm) qK, KA.moved (s := U) (U := U.calling g mk a) (Vm.Alike.refl U.vm) qA, qE.calling g mk a⟩
/-- a contract: called so, the method answers v0, and the world is u0 -/
def Cn (d : Nat) (y : MethodName) (cc : ByteArray) (nL : Nat) (ret : Option FieldType) (lay : List LyS) (as : List Value) (w : WW) (v0 : Option Value) (u0 : WW) : Prop :=
  ∀ (l : Launch) (D : va_G) (ad : Nat → Nat) (ca : Nat → ClassId) (A : Nat → Prop) (sz : Nat), (∀ q, sz ≤ q → A q) → AD A ad lay.length →
    Met l y (.code y cc nL ret :: tb) (rmd d 0 0) (cPc A D ad ca sz lay as w) (fun _ st oc t => (oc = .returned (v0.map (tv ad)) ∧ va_P D vwCl (wl ad ca u0 lay) t.heap) ∧ va_F A st t) 0 0 A
def RV (ret : Option FieldType) (v : Option Value) : Prop := match v with
  | none => ret = none
  | some (.int r) => ∃ ty, ret = some ty ∧ narrow ty (.int r) = .int r
  | some (.long _) => ret = some .long
  | some (.ref _) => ∃ c, ret = some (.object c)
  | _ => False
theorem lg_len (ad : Nat → Nat) (as : List Value) : (lg_sl (as.map (tv ad))).length = (lg_sl as).length := by
  induction as with
  | nil => rfl
  | cons v t ih =>
    simp only [lg_sl, List.map_cons, List.flatMap_cons, List.length_append, tv_cat] at ih ⊢
    rw [ih]
    split <;> rfl
theorem lv_args_tl (ad : Nat → Nat) (as : List Value) : ∀ i, lv_args i (as.map (tv ad)) = tl ad (lv_args i as) := by
  induction as with
  | nil => intro i; rfl
  | cons v t ih =>
    intro i
    simp only [List.map_cons, lv_args, tl, tv_cat]
    rw [ih]
    rfl
theorem metW {l : Launch} {y : MethodName} {ws ws' : List Cond} {rm : Room} {Pc : Array Value → State → Prop} {Qc : Array Value → State → Outcome → State → Prop} {mc ms : Nat} {free : Addr → Prop} {cc : ByteArray} {maxL : Nat} {ret : Option FieldType} (hy : plainFor y = true) (hw : ws = Cond.code y cc maxL ret :: ws')
    (body : ∀ p e s m args below meth c s₁, BodyLoose p l y (headSpec ws rm) cc maxL ret e s m args below meth c s₁ → c.maxLocals = maxL → Pc args s →
      W p l e (headSpec ws rm).room s m args below meth c s.heap [] 0 0 (MQ below Qc args s mc ms free) (entryFrame m args maxL)) : Met l y ws rm Pc Qc mc ms free := by
  refine MetFree.of_bodySF (code := cc) (maxLocals := maxL) (ret := ret) hy ?_ ?_
  · intro args s m h hn
    obtain ⟨meth, c, h1, h2, h3, h4, h5, h6, -, -⟩ := Cond.code_spec hn (atoms_spec (ws := ws) h _ (by rw [hw]; exact List.mem_cons_self))
    exact ⟨meth, c, h1, h2, h3, h4, h5, h6⟩
  · intro p e s m args below meth c s₁ B hml hP _
    have hh0 : s₁.heap = s.heap := by rw [B.state]; rfl
    obtain ⟨t, a1, o, b1, b2, b3⟩ := body p e s m args below meth c s₁ B hml hP s₁ hh0 (Stand.of_body B)
    exact ⟨t, o, a1, b1, b2, b3.1, b3.2⟩
theorem Cn.of {d : Nat} {y : MethodName} {cc : ByteArray} {nL : Nat} {ret : Option FieldType} {lay : List LyS} {as : List Value} {w : WW} {v0 : Option Value} {u0 : WW} (hy : plainFor y = true) (hs : (lg_sl as).length ≤ nL)
    (body : ∀ G, Rules cc y.cls y.name nL (rmd d 0 0) none (fun _ _ => True) (fun lay' k n v u => lay' = lay ∧ k = 0 ∧ n = 0 ∧ v = v0 ∧ u = u0 ∧ RV ret v) lay 0 0 G → G 0 (lv_args 0 as) [] w) : Cn d y cc nL ret lay as w v0 u0 := by
  intro l D ad ca A sz hA hAD
  refine metW (cc := cc) (maxL := nL) (ret := ret) hy rfl ?_
  intro p e s m args below meth c s₁ B hml hv
  obtain ⟨rfl, hsz, hP, hK, hKA, hEV⟩ := hv
  subst hsz
  have hx := B.exec
  have hb := B.bytes
  have hr := B.returns
  have hts0 := atoms_spec (ws := .code y cc nL ret :: tb) B.pre
  have hts : ∀ w ∈ tb, w.before (as.map (tv ad)).toArray s = true := fun w h => hts0 w (List.mem_cons_of_mem _ h)
  have hown : s.vm.findClass y.cls = some m.cls := findClass_of_methodNamed B.named
  have hlocks := B.notSynchronized
  have hnm : meth.name = y.name := (name_of_methodNamed B.named B.method).1
  have hl := lv_entry (as.map (tv ad)) (n := nL) (by rw [lg_len]; exact hs)
  rw [lg_entry_eq]
  rw [lv_args_tl] at hl
  refine body (Kd p l e (rmd d 0 0) s m _ below meth c D A (fun a b => a = ad ∧ b = ca) nL (MQ below _ _ s 0 0 A) lay 0 0) ⟨p, l, e, s, m, _, below, meth, c, D, A, fun a b => a = ad ∧ b = ca, _, hx, hb, hml, hown, hts, hK, hnm, trivial, hA, (fun a b h => by rw [h.1]; exact hEV), (fun _ h => by cases h), ?_, rfl⟩ s.heap [] _ ca ad ⟨rfl, rfl⟩ hP hAD hKA va_S.rf hl
  rintro lay' k n pc v u H locs ls ca' ad' ⟨rfl, rfl, rfl, rfl, rfl, hrv⟩ hop ⟨rfl, rfl⟩ h2 h3 h4 h5
  have hq : ∀ t : State, t.heap = H → s.WarmedH t.vm → ((Outcome.returned (v.map (tv ad')) = .returned (v.map (tv ad')) ∧ va_P D vwCl (wl ad' ca' u lay') t.heap) ∧ va_F A s t) := fun t ht _ => ⟨⟨rfl, by rw [ht]; exact h2⟩, h5.F ht⟩
  match v, hrv, hop, hq with
  | none, hrv, hop, hq => exact W.vret hx hb (hr.trans hrv) hq h5.2.2 hop hlocks
  | some (.int r), ⟨ty, e1, e2⟩, hop, hq => exact W.zret hx hb (hr.trans e1) e2 hq h5.2.2 hop hlocks
  | some (.long r), hrv, hop, hq => exact W.lret hx hb (hr.trans hrv) hq h5.2.2 hop hlocks
  | some (.ref r), ⟨cn, e1⟩, hop, hq => exact W.aret hx hb (hr.trans e1) (Or.inl ⟨cn, rfl⟩) (Or.inr ⟨_, rfl⟩) hq h5.2.2 hop hlocks
section KC
variable {p : Program} {l : Launch} {e : Env} {R : Room} {s : State} {m : MethodId} {args : Array Value} {below : List Frame} {meth : Method} {c : Code} {H : Heap} {locs : List Loc} {cells slots : Nat} {Q : State → Prop}
/-- behind a call -/
theorem kcall {pc : Nat} {ls : Array Slot} {st0 rest : List Value} {mc ms : Nat} {A : Nat → Prop} {v : Option Value} {B : State → Prop} (hr : va_Run p l e R s m args below meth c H locs cells slots mc ms (F0 m pc ls st0) rest (fun st oc t => (oc = .returned v ∧ B t) ∧ va_F A st t) A) (hS : va_S A s.heap H locs)
    (kk : ∀ (t : State) (locs1 : List Loc), s.vm.Alike t.vm → B t → va_S A s.heap t.heap locs1 → W p l e R s m args below meth c t.heap locs1 (cells + mc) (slots + ms) Q (F0 m (pc + 3) ls (v.toList ++ rest))) : W p l e R s m args below meth c H locs cells slots Q (F0 m pc ls st0) := by
  intro T hT X
  obtain ⟨v', st₀, t, T', L, h0, X', hL, e1, e2, ⟨⟨hv, hb⟩, hz, hk⟩, st⟩ := hr T hT X
  cases hv
  rw [h0] at hz hk
  obtain ⟨t2, a1, b1⟩ := kk t (locs ++ L) (by rw [← e2]; exact X'.warmed.alike) hb
    ⟨Nat.le_trans hS.1 hz, fun q h1 h2 => by rw [hk q (Nat.lt_of_lt_of_le h1 hS.1) h2]; exact hS.2.1 q h1 h2, fun q hq => by
      rcases List.mem_append.mp hq with h | h
      · exact hS.2.2 q h
      · exact hL q h⟩ T' e1 X'
  exact ⟨t2, st t2 a1, b1⟩
end KC
def CVw (own : String) (ix : Nat) (C : String) (y : MethodName) (cc : ByteArray) (nL : Nat) (ret : Option FieldType) (np : Nat) : Prop := (∀ w ∈ [Cond.methodLink own ix y, .instanceMethod y, .selects C y y, .initialized C, .code y cc nL ret], w ∈ tb) ∧ (y.cls = C ∧ y.cls ≠ "java/lang/invoke/MethodHandle" ∧ y.cls ≠ "java/lang/invoke/VarHandle" ∧ (parseMethodDescriptor y.desc).map (fun d => d.parameters.length) = some np)
def CSw (own : String) (ix : Nat) (y : MethodName) (cc : ByteArray) (nL : Nat) (ret : Option FieldType) (np : Nat) : Prop := (∀ w ∈ [Cond.methodLink own ix y, .static y, .initialized y.cls, .code y cc nL ret], w ∈ tb) ∧ (y.cls ≠ "java/lang/invoke/MethodHandle" ∧ y.cls ≠ "java/lang/invoke/VarHandle" ∧ (parseMethodDescriptor y.desc).map (fun d => d.parameters.length) = some np)
def CNw (own host : String) (ix : Nat) (y : MethodName) (cc : ByteArray) (nL : Nat) (ret : Option FieldType) (np : Nat) : Prop := Cond.methodLinkNest own ix y host ∈ lw_tbl ∧ (∀ w ∈ [Cond.static y, .initialized y.cls, .code y cc nL ret], w ∈ tb) ∧ (y.cls ≠ "java/lang/invoke/MethodHandle" ∧ y.cls ≠ "java/lang/invoke/VarHandle" ∧ (parseMethodDescriptor y.desc).map (fun d => d.parameters.length) = some np)
theorem code_sub {y : MethodName} {cc : ByteArray} {nL : Nat} {ret : Option FieldType} (h : Cond.code y cc nL ret ∈ tb) : ∀ w ∈ (Cond.code y cc nL ret :: tb), w ∈ tb := fun w hw => by
  rcases List.mem_cons.mp hw with e | e
  · rw [e]; exact h
  · exact e
section KN
variable {cc : ByteArray} {own nm : String} {nL : Nat} {R : Room} {nA : Option Nat} {X : (Nat → Prop) → State → Prop} {Rt : List LyS → Nat → Nat → Option Value → WW → Prop} {lay : List LyS} {k n : Nat} {G : Nat → List (Nat × Value) → List Value → WW → Prop} {pc : Nat} {lv : List (Nat × Value)} {st : List Value} {w : WW}
theorem k_callV (h : Rules cc own nm nL R nA X Rt lay k n G) {d : Nat} {y : MethodName} {cc' : ByteArray} {nL' ix kb ci : Nat} {ret : Option FieldType} {C : String} {T : u_T} {N : Nat} {fs : List (Nat ⊕ Option Nat)} {as rest : List Value} {v0 : Option Value} {u0 : WW} (hc : Cn d y cc' nL' ret lay (.ref kb :: as) w v0 u0) (hw : CVw own ix C y cc' nL' ret as.length) (hl : lay[kb]? = some (.inr (ci, fs))) (hci : vwCl[ci]? = some (C, T, N)) (hR : (d + 1 ≤ R.frames ∧ 8 + (nL' + 11) + 40 * d ≤ R.locals) ∧ k ≤ R.cells ∧ n ≤ R.slots) (hst : st = as.reverse ++ .ref kb :: rest) (hsum : (rest.map fun v => v.category).sum ≤ 8) (hd : decode cc pc = .ok (.invokevirtual ix, 3)) (g : G (pc + 3) lv (v0.toList ++ rest) u0) : G pc lv st w := by
  obtain ⟨p, l, e, s, m, args, below, meth, c, D, A, Pa, Q, hx, hb, hml, hown, hts, hK, hnm, hXX, hA, hE, hPa, hRt, rfl⟩ := h
  subst hst
  intro H locs ls ca ad h1 h2 h3 h4 h5 h6
  have hM := hc l D ad ca A H.size (fun q hq => hA q (Nat.le_trans h5.1 hq)) h3
  have hmem := hw.1
  have cw := cwV (own := own) (index := ix) (C := C) (y := y) (ws := .code y cc' nL' ret :: tb) (bytes := cc') (maxL := nL') (ret := ret) (ws' := tb) (rm := rmd d 0 0) (mc := 0) (ms := 0) (R := R) as.length hts (tbl_sub (fun w hw => by
    unfold wsV at hw
    rcases List.mem_append.mp hw with e | e
    · exact hmem w (show w ∈ [Cond.methodLink own ix y, .instanceMethod y, .selects C y y, .initialized C] ++ [.code y cc' nL' ret] from List.mem_append_left _ e)
    · exact code_sub (hmem _ (by simp)) w e)) rfl rfl rfl hw.2 hR.1
  have hrun := va_runV (p := p) (e := e) (below := below) (meth := meth) (locs := locs) (cells := k) (slots := n) (H := H) (cc := cc) (nL := nL) (b := ad kb) (As := as.map (tv ad)) (rest := rest.map (tv ad)) (g := F0 m pc ls ((as.reverse ++ .ref kb :: rest).map (tv ad))) ⟨hx, hb, hml, hown, hts⟩ hM cw ⟨cPc_blind, va_recv hK h2 hci (wl_at hl), fun U hU hW => ⟨rfl, by rw [hU], by rw [hU]; exact h2, va_K.moved hW.alike hK, h4.moved hW.alike, (hE ad ca h1).go hW hU h5⟩⟩ rfl (by simp) h6.1 (by simp [tv]) (lv_room (by rw [tl_map_cat]; exact hsum)) hd ⟨hR.2.1, hR.2.2⟩
  refine kcall hrun h5 (fun t locs1 _ hB hS1 => ?_)
  have := g t.heap locs1 ls ca ad h1 hB h3 h4 hS1 h6
  rw [List.map_append] at this
  have e2 : (v0.map (tv ad)).toList = v0.toList.map (tv ad) := by cases v0 <;> rfl
  rw [e2]
  exact this
theorem k_callS (h : Rules cc own nm nL R nA X Rt lay k n G) {d : Nat} {y : MethodName} {cc' : ByteArray} {nL' ix : Nat} {ret : Option FieldType} {as rest : List Value} {v0 : Option Value} {u0 : WW} (hc : Cn d y cc' nL' ret lay as w v0 u0) (hw : CSw own ix y cc' nL' ret as.length) (hR : (d + 1 ≤ R.frames ∧ 8 + (nL' + 11) + 40 * d ≤ R.locals) ∧ k ≤ R.cells ∧ n ≤ R.slots) (hst : st = as.reverse ++ rest) (hsum : (rest.map fun v => v.category).sum ≤ 8) (hd : decode cc pc = .ok (.invokestatic ix, 3)) (g : G (pc + 3) lv (v0.toList ++ rest) u0) : G pc lv st w := by
  obtain ⟨p, l, e, s, m, args, below, meth, c, D, A, Pa, Q, hx, hb, hml, hown, hts, hK, hnm, hXX, hA, hE, hPa, hRt, rfl⟩ := h
  subst hst
  intro H locs ls ca ad h1 h2 h3 h4 h5 h6
  have hM := hc l D ad ca A H.size (fun q hq => hA q (Nat.le_trans h5.1 hq)) h3
  have hmem := hw.1
  have cw := callB_of (own := own) (index := ix) (y := y) (ws := .code y cc' nL' ret :: tb) (bytes := cc') (maxL := nL') (ret := ret) (ws' := tb) (rm := rmd d 0 0) (mc := 0) (ms := 0) (R := R) as.length hts (tbl_sub (code_sub (hmem _ (by simp)))) rfl rfl rfl (hts _ (hmem _ (by simp))) (hts _ (hmem _ (by simp))) hw.2 hR.1
  have hrun := va_runS (p := p) (e := e) (below := below) (meth := meth) (locs := locs) (cells := k) (slots := n) (H := H) (cc := cc) (nL := nL) (As := as.map (tv ad)) (rest := rest.map (tv ad)) (g := F0 m pc ls ((as.reverse ++ rest).map (tv ad))) ⟨hx, hb, hml, hown, hts⟩ hM ⟨cw, hts _ (hmem _ (by simp))⟩ ⟨cPc_blind, fun U hU hW => ⟨rfl, by rw [hU], by rw [hU]; exact h2, va_K.moved hW.alike hK, h4.moved hW.alike, (hE ad ca h1).go hW hU h5⟩⟩ rfl (by simp) h6.1 (by simp) (lv_room (by rw [tl_map_cat]; exact hsum)) hd ⟨hR.2.1, hR.2.2⟩
  refine kcall hrun h5 (fun t locs1 _ hB hS1 => ?_)
  have := g t.heap locs1 ls ca ad h1 hB h3 h4 hS1 h6
  rw [List.map_append] at this
  have e2 : (v0.map (tv ad)).toList = v0.toList.map (tv ad) := by cases v0 <;> rfl
  rw [e2]
  exact this
theorem k_callN (h : Rules cc own nm nL R nA X Rt lay k n G) {d : Nat} {y : MethodName} {host : String} {cc' : ByteArray} {nL' ix : Nat} {ret : Option FieldType} {as rest : List Value} {v0 : Option Value} {u0 : WW} (hc : Cn d y cc' nL' ret lay as w v0 u0) (hw : CNw own host ix y cc' nL' ret as.length) (hR : (d + 1 ≤ R.frames ∧ 8 + (nL' + 11) + 40 * d ≤ R.locals) ∧ k ≤ R.cells ∧ n ≤ R.slots) (hst : st = as.reverse ++ rest) (hsum : (rest.map fun v => v.category).sum ≤ 8) (hd : decode cc pc = .ok (.invokestatic ix, 3)) (g : G (pc + 3) lv (v0.toList ++ rest) u0) : G pc lv st w := by
  obtain ⟨p, l, e, s, m, args, below, meth, c, D, A, Pa, Q, hx, hb, hml, hown, hts, hK, hnm, hXX, hA, hE, hPa, hRt, rfl⟩ := h
  subst hst
  intro H locs ls ca ad h1 h2 h3 h4 h5 h6
  have hM := hc l D ad ca A H.size (fun q hq => hA q (Nat.le_trans h5.1 hq)) h3
  have hmem := hw.2.1
  have hnest : va_Nw (.methodLinkNest own ix y host) s := (hE ad ca h1).1 _ _ _ _ hw.1
  have cw := va_cnB (own := own) (index := ix) (y := y) (host := host) (ws := .code y cc' nL' ret :: tb) (bytes := cc') (maxL := nL') (ret := ret) (ws' := tb) (rm := rmd d 0 0) (mc := 0) (ms := 0) (R := R) as.length hts (tbl_sub (code_sub (hmem _ (by simp)))) rfl rfl rfl hnest (hts _ (hmem _ (by simp))) hw.2.2 hR.1
  have hrun := va_runSN (p := p) (e := e) (below := below) (meth := meth) (locs := locs) (cells := k) (slots := n) (H := H) (cc := cc) (nL := nL) (As := as.map (tv ad)) (rest := rest.map (tv ad)) (g := F0 m pc ls ((as.reverse ++ rest).map (tv ad))) ⟨hx, hb, hml, hown, hts⟩ hM ⟨cw, hts _ (hmem _ (by simp)), trivial⟩ ⟨cPc_blind, fun U hU hW => ⟨rfl, by rw [hU], by rw [hU]; exact h2, va_K.moved hW.alike hK, h4.moved hW.alike, (hE ad ca h1).go hW hU h5⟩⟩ rfl (by simp) h6.1 (by simp) (lv_room (by rw [tl_map_cat]; exact hsum)) hd ⟨hR.2.1, hR.2.2⟩
  refine kcall hrun h5 (fun t locs1 _ hB hS1 => ?_)
  have := g t.heap locs1 ls ca ad h1 hB h3 h4 hS1 h6
  rw [List.map_append] at this
  have e2 : (v0.map (tv ad)).toList = v0.toList.map (tv ad) := by cases v0 <;> rfl
  rw [e2]
  exact this
theorem k_callV1 (h : Rules cc own nm nL R nA X Rt lay k n G) {d : Nat} {y : MethodName} {cc' : ByteArray} {nL' ix kb ci : Nat} {ret : Option FieldType} {C : String} {T : u_T} {N : Nat} {fs : List (Nat ⊕ Option Nat)} {as rest : List Value} {v : Value} {u0 : WW} (hc : Cn d y cc' nL' ret lay (.ref kb :: as) w (some v) u0) (hw : CVw own ix C y cc' nL' ret as.length) (hl : lay[kb]? = some (.inr (ci, fs))) (hci : vwCl[ci]? = some (C, T, N)) (hR : (d + 1 ≤ R.frames ∧ 8 + (nL' + 11) + 40 * d ≤ R.locals) ∧ k ≤ R.cells ∧ n ≤ R.slots) (hst : st = as.reverse ++ .ref kb :: rest) (hsum : (rest.map fun v => v.category).sum ≤ 8) (hd : decode cc pc = .ok (.invokevirtual ix, 3)) (g : G (pc + 3) lv (v :: rest) u0) : G pc lv st w := k_callV h hc hw hl hci hR hst hsum hd g
theorem k_callV0 (h : Rules cc own nm nL R nA X Rt lay k n G) {d : Nat} {y : MethodName} {cc' : ByteArray} {nL' ix kb ci : Nat} {ret : Option FieldType} {C : String} {T : u_T} {N : Nat} {fs : List (Nat ⊕ Option Nat)} {as rest : List Value} {u0 : WW} (hc : Cn d y cc' nL' ret lay (.ref kb :: as) w none u0) (hw : CVw own ix C y cc' nL' ret as.length) (hl : lay[kb]? = some (.inr (ci, fs))) (hci : vwCl[ci]? = some (C, T, N)) (hR : (d + 1 ≤ R.frames ∧ 8 + (nL' + 11) + 40 * d ≤ R.locals) ∧ k ≤ R.cells ∧ n ≤ R.slots) (hst : st = as.reverse ++ .ref kb :: rest) (hsum : (rest.map fun v => v.category).sum ≤ 8) (hd : decode cc pc = .ok (.invokevirtual ix, 3)) (g : G (pc + 3) lv rest u0) : G pc lv st w := k_callV h hc hw hl hci hR hst hsum hd g
theorem k_callS1 (h : Rules cc own nm nL R nA X Rt lay k n G) {d : Nat} {y : MethodName} {cc' : ByteArray} {nL' ix : Nat} {ret : Option FieldType} {as rest : List Value} {v : Value} {u0 : WW} (hc : Cn d y cc' nL' ret lay as w (some v) u0) (hw : CSw own ix y cc' nL' ret as.length) (hR : (d + 1 ≤ R.frames ∧ 8 + (nL' + 11) + 40 * d ≤ R.locals) ∧ k ≤ R.cells ∧ n ≤ R.slots) (hst : st = as.reverse ++ rest) (hsum : (rest.map fun v => v.category).sum ≤ 8) (hd : decode cc pc = .ok (.invokestatic ix, 3)) (g : G (pc + 3) lv (v :: rest) u0) : G pc lv st w := k_callS h hc hw hR hst hsum hd g
theorem k_callS0 (h : Rules cc own nm nL R nA X Rt lay k n G) {d : Nat} {y : MethodName} {cc' : ByteArray} {nL' ix : Nat} {ret : Option FieldType} {as rest : List Value} {u0 : WW} (hc : Cn d y cc' nL' ret lay as w none u0) (hw : CSw own ix y cc' nL' ret as.length) (hR : (d + 1 ≤ R.frames ∧ 8 + (nL' + 11) + 40 * d ≤ R.locals) ∧ k ≤ R.cells ∧ n ≤ R.slots) (hst : st = as.reverse ++ rest) (hsum : (rest.map fun v => v.category).sum ≤ 8) (hd : decode cc pc = .ok (.invokestatic ix, 3)) (g : G (pc + 3) lv rest u0) : G pc lv st w := k_callS h hc hw hR hst hsum hd g
theorem k_callN1 (h : Rules cc own nm nL R nA X Rt lay k n G) {d : Nat} {y : MethodName} {host : String} {cc' : ByteArray} {nL' ix : Nat} {ret : Option FieldType} {as rest : List Value} {v : Value} {u0 : WW} (hc : Cn d y cc' nL' ret lay as w (some v) u0) (hw : CNw own host ix y cc' nL' ret as.length) (hR : (d + 1 ≤ R.frames ∧ 8 + (nL' + 11) + 40 * d ≤ R.locals) ∧ k ≤ R.cells ∧ n ≤ R.slots) (hst : st = as.reverse ++ rest) (hsum : (rest.map fun v => v.category).sum ≤ 8) (hd : decode cc pc = .ok (.invokestatic ix, 3)) (g : G (pc + 3) lv (v :: rest) u0) : G pc lv st w := k_callN h hc hw hR hst hsum hd g
theorem k_callN0 (h : Rules cc own nm nL R nA X Rt lay k n G) {d : Nat} {y : MethodName} {host : String} {cc' : ByteArray} {nL' ix : Nat} {ret : Option FieldType} {as rest : List Value} {u0 : WW} (hc : Cn d y cc' nL' ret lay as w none u0) (hw : CNw own host ix y cc' nL' ret as.length) (hR : (d + 1 ≤ R.frames ∧ 8 + (nL' + 11) + 40 * d ≤ R.locals) ∧ k ≤ R.cells ∧ n ≤ R.slots) (hst : st = as.reverse ++ rest) (hsum : (rest.map fun v => v.category).sum ≤ 8) (hd : decode cc pc = .ok (.invokestatic ix, 3)) (g : G (pc + 3) lv rest u0) : G pc lv st w := k_callN h hc hw hR hst hsum hd g
end KN

section KS
variable {cc : ByteArray} {own nm : String} {nL : Nat} {R : Room} {nA : Option Nat} {X : (Nat → Prop) → State → Prop} {Rt : List LyS → Nat → Nat → Option Value → WW → Prop} {lay : List LyS} {k n : Nat} {G : Nat → List (Nat × Value) → List Value → WW → Prop} {pc : Nat} {lv : List (Nat × Value)} {st : List Value} {w : WW}
theorem k_i2c (h : Rules cc own nm nL R nA X Rt lay k n G) {x : Int32} (hd : decode cc pc = .ok (.i2c, 1)) (g : G (pc + 1) lv (.int ((x.toUInt32 % 65536).toInt32) :: st) w) : G pc lv (.int x :: st) w := h.lift (fun _ _ _ _ _ _ _ _ _ _ _ _ ls ad hx hb _ _ _ k => lv_i2c hx hb hd rfl k) g
theorem k_ldcS (h : Rules cc own nm nL R nA X Rt lay k n G) (si : Nat) {ix : Nat} (hs : (ix, si) ∈ [(96, 0), (102, 1), (104, 2)]) (ho : own = RX4) (hd : decode cc pc = .ok (.ldc ix, 2)) (g : G (pc + 2) lv (.ref (1000000 + si) :: st) w) : G pc lv st w := by
  obtain ⟨p, l, e, s, m, args, below, meth, c, D, A, Pa, Q, hx, hb, hml, hown, hts, hK, hnm, hXX, hA, hE, hPa, hR, rfl⟩ := h
  subst ho
  intro H locs ls ca ad h1 h2 h3 h4 h5 h6
  obtain ⟨-, -, -, -, e1, e2, e3⟩ := hE ad ca h1
  simp only [List.mem_cons, Prod.mk.injEq, List.not_mem_nil, or_false] at hs
  rcases hs with ⟨rfl, rfl⟩ | ⟨rfl, rfl⟩ | ⟨rfl, rfl⟩
  · exact va_ldcS hx hb hown e1 hd (g H locs ls ca ad h1 h2 h3 h4 h5 h6)
  · exact va_ldcS hx hb hown e2 hd (g H locs ls ca ad h1 h2 h3 h4 h5 h6)
  · exact va_ldcS hx hb hown e3 hd (g H locs ls ca ad h1 h2 h3 h4 h5 h6)
theorem k_getSv (h : Rules cc own nm nL R nA X Rt lay k n G) {si ix : Nat} (hsi : si < 3) (hlk : Cond.fieldLink own ix "java/lang/String" "value" "[B" ∈ tb) (hd : decode cc pc = .ok (.getfield ix, 3)) (g : G (pc + 3) lv (.ref (2000000 + si) :: st) w) : G pc lv (.ref (1000000 + si) :: st) w := by
  obtain ⟨p, l, e, s, m, args, below, meth, c, D, A, Pa, Q, hx, hb, hml, hown, hts, hK, hnm, hXX, hA, hE, hPa, hR, rfl⟩ := h
  intro H locs ls ca ad h1 h2 h3 h4 h5 h6
  exact vk_getf hx hb ((hE ad ca h1).2.2.2.1.1 si hsi).2.2.1 h5 hown (hts _ hlk) (fun _ z => z) hd (g H locs ls ca ad h1 h2 h3 h4 h5 h6)
theorem k_getSc (h : Rules cc own nm nL R nA X Rt lay k n G) {si ix : Nat} (hsi : si < 3) (hlk : Cond.fieldLink own ix "java/lang/String" "coder" "B" ∈ tb) (hd : decode cc pc = .ok (.getfield ix, 3)) (g : G (pc + 3) lv (.int (0 : Int32) :: st) w) : G pc lv (.ref (1000000 + si) :: st) w := by
  obtain ⟨p, l, e, s, m, args, below, meth, c, D, A, Pa, Q, hx, hb, hml, hown, hts, hK, hnm, hXX, hA, hE, hPa, hR, rfl⟩ := h
  intro H locs ls ca ad h1 h2 h3 h4 h5 h6
  exact vk_getf hx hb ((hE ad ca h1).2.2.2.1.1 si hsi).2.1 h5 hown (hts _ hlk) (fun _ z => z) hd (g H locs ls ca ad h1 h2 h3 h4 h5 h6)
theorem k_gets (h : Rules cc own nm nL R nA X Rt lay k n G) {ix : Nat} (hlk : Cond.fieldLink own ix "java/lang/String" "COMPACT_STRINGS" "Z" ∈ tb) (hd : decode cc pc = .ok (.getstatic ix, 3)) (g : G (pc + 3) lv (.int (1 : Int32) :: st) w) : G pc lv st w := by
  obtain ⟨p, l, e, s, m, args, below, meth, c, D, A, Pa, Q, hx, hb, hml, hown, hts, hK, hnm, hXX, hA, hE, hPa, hR, rfl⟩ := h
  intro H locs ls ca ad h1 h2 h3 h4 h5 h6
  exact va_gets hx hb (hE ad ca h1).2.1 h5 hown (hts _ hlk) (fun _ z => z) hd (g H locs ls ca ad h1 h2 h3 h4 h5 h6)
def isF (v : Value) : Prop := v = .null ∨ ∃ a, v = .retAddr a
theorem k_getsF (h : Rules cc own nm nL R nA X Rt lay k n G) {ix : Nat} (hlk : Cond.fieldLink own ix "jdk/internal/util/Preconditions" "SIOOBE_FORMATTER" "Ljava/util/function/BiFunction;" ∈ tb) (hd : decode cc pc = .ok (.getstatic ix, 3)) (g : ∀ v, isF v → G (pc + 3) lv (v :: st) w) : G pc lv st w := by
  obtain ⟨p, l, e, s, m, args, below, meth, c, D, A, Pa, Q, hx, hb, hml, hown, hts, hK, hnm, hXX, hA, hE, hPa, hR, rfl⟩ := h
  intro H locs ls ca ad h1 h2 h3 h4 h5 h6
  rcases (hE ad ca h1).2.2.1 with hz | ⟨t, hz⟩
  · exact va_gets hx hb hz h5 hown (hts _ hlk) (fun _ z => z) hd (g .null (Or.inl rfl) H locs ls ca ad h1 h2 h3 h4 h5 h6)
  · exact va_gets hx hb hz h5 hown (hts _ hlk) (fun _ z => z) hd (g (.retAddr t) (Or.inr ⟨t, rfl⟩) H locs ls ca ad h1 h2 h3 h4 h5 h6)
theorem k_alenS (h : Rules cc own nm nL R nA X Rt lay k n G) {si : Nat} (hsi : si < 3) (hd : decode cc pc = .ok (.arraylength, 1)) (g : G (pc + 1) lv (.int (Int32.ofNat (jsL.getD si 0)) :: st) w) : G pc lv (.ref (2000000 + si) :: st) w := by
  obtain ⟨p, l, e, s, m, args, below, meth, c, D, A, Pa, Q, hx, hb, hml, hown, hts, hK, hnm, hXX, hA, hE, hPa, hR, rfl⟩ := h
  intro H locs ls ca ad h1 h2 h3 h4 h5 h6
  exact va_tlen hx hb ((hE ad ca h1).2.2.2.1.1 si hsi).2.2.2 h5 rfl hd (g H locs ls ca ad h1 h2 h3 h4 h5 h6)
theorem k_baldS (h : Rules cc own nm nL R nA X Rt lay k n G) {τ : Type} {z : τ} {E : Option τ} {si : Nat} {i : Int32} (hsi : si < 3) (hd : decode cc pc = .ok (.baload, 1)) (hk : gd (inb i (jsL.getD si 0)) E = some z) (g : E = some z → G (pc + 1) lv (.int ((jsB.getD si []).getD i.toNatClampNeg 0) :: st) w) : G pc lv (.int i :: .ref (2000000 + si) :: st) w := by
  obtain ⟨hi, hk⟩ := gd_some hk
  have g := g hk
  obtain ⟨p, l, e, s, m, args, below, meth, c, D, A, Pa, Q, hx, hb, hml, hown, hts, hK, hnm, hXX, hA, hE, hPa, hR, rfl⟩ := h
  intro H locs ls ca ad h1 h2 h3 h4 h5 h6
  exact va_tb hx hb ((hE ad ca h1).2.2.2.1.1 si hsi).2.2.2 h5 (vp_in_iff.mpr hi) rfl hd (g H locs ls ca ad h1 h2 h3 h4 h5 h6)
theorem k_callVS1 (h : Rules cc own nm nL R nA X Rt lay k n G) {d : Nat} {y : MethodName} {cc' : ByteArray} {nL' ix si : Nat} {ret : Option FieldType} {as rest : List Value} {v : Value} {u0 : WW} (hc : Cn d y cc' nL' ret lay (.ref (1000000 + si) :: as) w (some v) u0) (hw : CVw own ix "java/lang/String" y cc' nL' ret as.length) (hsi : si < 3) (hR : (d + 1 ≤ R.frames ∧ 8 + (nL' + 11) + 40 * d ≤ R.locals) ∧ k ≤ R.cells ∧ n ≤ R.slots) (hst : st = as.reverse ++ .ref (1000000 + si) :: rest) (hsum : (rest.map fun v => v.category).sum ≤ 8) (hd : decode cc pc = .ok (.invokevirtual ix, 3)) (g : G (pc + 3) lv (v :: rest) u0) : G pc lv st w := by
  obtain ⟨p, l, e, s, m, args, below, meth, c, D, A, Pa, Q, hx, hb, hml, hown, hts, hK, hnm, hXX, hA, hE, hPa, hRt, rfl⟩ := h
  subst hst
  intro H locs ls ca ad h1 h2 h3 h4 h5 h6
  have hM := hc l D ad ca A H.size (fun q hq => hA q (Nat.le_trans h5.1 hq)) h3
  have hmem := hw.1
  have cw := cwV (own := own) (index := ix) (C := "java/lang/String") (y := y) (ws := .code y cc' nL' ret :: tb) (bytes := cc') (maxL := nL') (ret := ret) (ws' := tb) (rm := rmd d 0 0) (mc := 0) (ms := 0) (R := R) as.length hts (tbl_sub (fun w hw => by
    unfold wsV at hw
    rcases List.mem_append.mp hw with e | e
    · exact hmem w (show w ∈ [Cond.methodLink own ix y, .instanceMethod y, .selects "java/lang/String" y y, .initialized "java/lang/String"] ++ [.code y cc' nL' ret] from List.mem_append_left _ e)
    · exact code_sub (hmem _ (by simp)) w e)) rfl rfl rfl hw.2 hR.1
  have hrun := va_runV (p := p) (e := e) (below := below) (meth := meth) (locs := locs) (cells := k) (slots := n) (H := H) (cc := cc) (nL := nL) (b := ad (1000000 + si)) (As := as.map (tv ad)) (rest := rest.map (tv ad)) (g := F0 m pc ls ((as.reverse ++ .ref (1000000 + si) :: rest).map (tv ad))) ⟨hx, hb, hml, hown, hts⟩ hM cw ⟨cPc_blind, vk_recv (adK := fun i => ad (1000000 + i)) (i := si) (hE ad ca h1).2.2.2.1 hsi h5, fun U hU hW => ⟨rfl, by rw [hU], by rw [hU]; exact h2, va_K.moved hW.alike hK, h4.moved hW.alike, (hE ad ca h1).go hW hU h5⟩⟩ rfl (by simp) h6.1 (by simp [tv]) (lv_room (by rw [tl_map_cat]; exact hsum)) hd ⟨hR.2.1, hR.2.2⟩
  refine kcall hrun h5 (fun t locs1 _ hB hS1 => ?_)
  exact g t.heap locs1 ls ca ad h1 hB h3 h4 hS1 h6
end KS
def rf1 (n : Nat) (v : Value) : Bool := match v with
  | .ref k => decide (k < n) || decide (1000000 ≤ k)
  | _ => true
theorem tv_eq {n : Nat} {ad ad' : Nat → Nat} (h : ∀ i, i < n ∨ 1000000 ≤ i → ad' i = ad i) {v : Value} (hv : rf1 n v = true) : tv ad' v = tv ad v := by
  cases v with
  | ref k =>
    simp only [rf1, Bool.or_eq_true, decide_eq_true_eq] at hv
    show Value.ref (ad' k) = .ref (ad k)
    rw [h k hv]
  | _ => rfl
theorem tvs_eq {n : Nat} {ad ad' : Nat → Nat} (h : ∀ i, i < n ∨ 1000000 ≤ i → ad' i = ad i) {st : List Value} (hv : st.all (rf1 n) = true) : st.map (tv ad') = st.map (tv ad) := List.map_congr_left (fun v hm => tv_eq h (List.all_eq_true.mp hv v hm))
theorem tl_eq {n : Nat} {ad ad' : Nat → Nat} (h : ∀ i, i < n ∨ 1000000 ≤ i → ad' i = ad i) {lv : List (Nat × Value)} (hv : lv.all (fun q => rf1 n q.2) = true) : tl ad' lv = tl ad lv := List.map_congr_left (fun q hm => by rw [tv_eq h (List.all_eq_true.mp hv q hm)])
/-- every reference in a layout is to a cell below n -/
def lyb (n : Nat) (lay : List LyS) : Bool := lay.all (fun s => match s with
  | .inl _ => true
  | .inr o => o.2.all (fun f => match f with
    | .inr (some r) => decide (r < n)
    | _ => true))
def zW (w : WW) (k : Nat) : WW := (fun a b => if a = k then 0 else w.1 a b, fun a b => if a = k then 0 else w.2 a b)
theorem wl_push {ad : Nat → Nat} {ca ca' : Nat → ClassId} {w : WW} {lay : List LyS} {q : Nat} {sh : LyS} {e : va_E} (hl : lyb lay.length lay = true) (hca : ∀ i, i < lay.length → ca' i = ca i) (he : ce (adU ad lay.length q) ca' (zW w lay.length) lay.length sh = (q, e)) : wl (adU ad lay.length q) ca' (zW w lay.length) (lay ++ [sh]) = wl ad ca w lay ++ [(q, e)] := by
  apply List.ext_getElem?
  intro i
  have hlen : (wl ad ca w lay).length = lay.length := by simp [wl]
  by_cases hi : i < lay.length
  · rw [List.getElem?_append_left (by rw [hlen]; exact hi), wl_get, wl_get, List.getElem?_append_left hi]
    cases hs : lay[i]? with
    | none => rfl
    | some s =>
      simp only [Option.map_some]
      congr 1
      have hne : ¬ i = lay.length := Nat.ne_of_lt hi
      have hlb := List.all_eq_true.mp hl s (List.mem_of_getElem? hs)
      cases s with
      | inl a =>
        have e1 : (zW w lay.length).1 i = w.1 i := by funext b; simp [zW, hne]
        simp only [ce, e1, hca i hi, adU, hne, if_false]
      | inr o =>
        simp only [ce, adU, hne, if_false]
        congr 3
        apply List.ext_getElem?
        intro j
        rw [List.getElem?_mapIdx, List.getElem?_mapIdx]
        cases hf : o.2[j]? with
        | none => rfl
        | some f =>
          have hfb := List.all_eq_true.mp hlb f (List.mem_of_getElem? hf)
          match f, hfb with
          | .inl 0, _ => simp [fv, zW, hne]
          | .inl (_ + 1), _ => simp [fv, zW, hne]
          | .inr none, _ => rfl
          | .inr (some r), hfb =>
            have hr : r < lay.length := by simpa using hfb
            have hne2 : ¬ r = lay.length := Nat.ne_of_lt hr
            simp [fv, adU, hne2]
  · by_cases hi2 : i = lay.length
    · subst hi2
      rw [wl_get, List.getElem?_append_right (Nat.le_refl _), List.getElem?_append_right (by rw [hlen]; exact Nat.le_refl _), hlen]
      simp [he]
    · rw [wl_get, List.getElem?_eq_none (by simp; omega), List.getElem?_eq_none (by simp [hlen]; omega)]
      rfl
theorem AD.push {A : Nat → Prop} {ad : Nat → Nat} {ca : Nat → ClassId} {w : WW} {lay : List LyS} {q : Nat} {e : va_E} (h : AD A ad lay.length) (hD : va_D A (wl ad ca w lay ++ [(q, e)])) : AD A (adU ad lay.length q) (lay.length + 1) := by
  have hlen : (wl ad ca w lay).length = lay.length := by simp [wl]
  have hq : (wl ad ca w lay ++ [(q, e)])[lay.length]? = some (q, e) := by rw [List.getElem?_append_right (by rw [hlen]; exact Nat.le_refl _), hlen]; simp
  have hi : ∀ i, i < lay.length → ∃ x, (wl ad ca w lay ++ [(q, e)])[i]? = some x ∧ x.1 = ad i := by
    intro i hi
    have h1 : lay[i]? = some lay[i] := List.getElem?_eq_getElem hi
    exact ⟨_, by rw [List.getElem?_append_left (by rw [hlen]; exact hi), wl_get, h1]; rfl, rfl⟩
  refine ⟨fun i j h1 h2 e1 => ?_, fun i h1 => ?_⟩
  · by_cases a : i = lay.length <;> by_cases b : j = lay.length
    · omega
    · exfalso
      obtain ⟨x, hx, hx1⟩ := hi j (by omega)
      have := hD.1 lay.length j _ _ hq hx (by rw [hx1]; simpa [adU, a, b] using e1)
      omega
    · exfalso
      obtain ⟨x, hx, hx1⟩ := hi i (by omega)
      have := hD.1 i lay.length _ _ hx hq (by rw [hx1]; simpa [adU, a, b] using e1)
      omega
    · exact h.1 i j (by omega) (by omega) (by simpa [adU, a, b] using e1)
  · by_cases a : i = lay.length
    · subst a; simpa [adU] using hD.2 lay.length _ hq
    · simpa [adU, a] using h.2 i (by omega)
def dv (f : Nat ⊕ Option Nat) : Value := match f with
  | .inl 0 => .int 0
  | .inl (_ + 1) => .long 0
  | .inr _ => .null
section KA1
variable {cc : ByteArray} {own nm : String} {nL : Nat} {R : Room} {nA : Option Nat} {X : (Nat → Prop) → State → Prop} {Rt : List LyS → Nat → Nat → Option Value → WW → Prop} {lay : List LyS} {k n : Nat} {G : Nat → List (Nat × Value) → List Value → WW → Prop} {pc : Nat} {lv : List (Nat × Value)} {st : List Value} {w : WW} {n0 : Nat}
theorem adU_ag {ad : Nat → Nat} {m q : Nat} (hm : m < 1000000) : ∀ i, i < m ∨ 1000000 ≤ i → adU ad m q i = ad i := by
  intro i hi
  have : ¬ i = m := by omega
  simp [adU, this]
theorem k_new (h : Rules cc own nm nL R (some n0) X Rt lay k n G) {ix N ci : Nat} {C : String} {T : u_T} {ty : Nat → FieldType} {fds : List (Nat ⊕ Option Nat)} (hc : vwCl[ci]? = some (C, T, N)) (hin : ∀ w ∈ u_ws C T N, w ∈ tb) (hty : ∀ k, k < N → parseFieldDescriptor (T k).2.2.1 = some (ty k)) (hw : ∀ w ∈ [Cond.classLink own ix C, .instantiable C N, .initialized C], w ∈ tb) (hfd : ∀ j, j < N → defaultValue (ty j) = dv (fds.getD j (.inr none)) ∧ (fds.getD j (.inr none) = .inr none ∨ ∃ a, fds.getD j (.inr none) = .inl a)) (hfl : fds.length ≤ N) (hlb : lyb lay.length lay = true) (hm : lay.length < 1000000) (hr : st.all (rf1 lay.length) = true) (hr2 : lv.all (fun q => rf1 lay.length q.2) = true) (hcell : k + 1 ≤ R.cells ∧ n + N ≤ R.slots) (hd : decode cc pc = .ok (.new ix, 3))
    (g : ∀ G', Rules cc own nm nL R (some n0) X Rt (lay ++ [.inr (ci, fds)]) (k + 1) (n + N) G' → G' (pc + 3) lv (.ref lay.length :: st) (zW w lay.length)) : G pc lv st w := by
  obtain ⟨p, l, e, s, m, args, below, meth, c, D, A, Pa, Q, hx, hb, hml, hown, hts, hK, hnm, hXX, hA, hE, hPa, hR, rfl⟩ := h
  intro H locs ls ca ad h1 h2 h3 h4 h5 h6
  obtain ⟨hn0, hcl⟩ := hPa n0 rfl
  refine va_new (fs := fds.mapIdx (fv (adU ad lay.length 0) (zW w lay.length) lay.length)) hx hb hts hin ty hty hown (hts _ (hw _ (by simp))) (hts _ (hw _ (by simp))) (hts _ (hw _ (by simp))) hK h2 h3.D h5 hA hc (fun j hj => ?_) hcell.1 hcell.2 hd (fun q H1 q1 q2 q3 => ?_)
  · obtain ⟨e1, e2⟩ := hfd j hj
    rw [e1]
    simp only [vp_V, List.getD_eq_getElem?_getD, List.getElem?_mapIdx] at e2 ⊢
    cases hf : fds[j]? with
    | none => rfl
    | some f =>
      rw [hf] at e2
      match f, e2 with
      | .inl 0, _ => simp [dv, fv, zW]
      | .inl (_ + 1), _ => simp [dv, fv, zW]
      | .inr none, _ => rfl
      | .inr (some r), e2 => rcases e2 with e2 | ⟨a, e2⟩ <;> cases e2
  · have hfe : fds.mapIdx (fv (adU ad lay.length 0) (zW w lay.length) lay.length) = fds.mapIdx (fv (adU ad lay.length q) (zW w lay.length) lay.length) := by
      apply List.ext_getElem?
      intro j
      rw [List.getElem?_mapIdx, List.getElem?_mapIdx]
      cases hf : fds[j]? with
      | none => rfl
      | some f =>
        match f, hf with
        | .inl 0, _ => rfl
        | .inl (_ + 1), _ => rfl
        | .inr none, _ => rfl
        | .inr (some r), hf =>
          by_cases hjN : j < N
          · have e2 := (hfd j hjN).2
            simp only [List.getD_eq_getElem?_getD, hf] at e2
            rcases e2 with e2 | ⟨a, e2⟩ <;> cases e2
          · exact absurd (Nat.lt_of_lt_of_le (List.getElem?_eq_some_iff.mp hf).1 hfl) hjN
    have hag : ∀ i, i < lay.length ∨ 1000000 ≤ i → adU ad lay.length q i = ad i := adU_ag hm
    rw [hfe, ← wl_push (ca' := ca) (sh := .inr (ci, fds)) hlb (fun _ _ => rfl) (by simp [ce, adU])] at q1
    have hlen1 : (lay ++ [(Sum.inr (ci, fds) : LyS)]).length = lay.length + 1 := by simp
    have := g (Kd p l e R s m args below meth c D A Pa nL Q (lay ++ [.inr (ci, fds)]) (k + 1) (n + N)) ⟨p, l, e, s, m, args, below, meth, c, D, A, Pa, Q, hx, hb, hml, hown, hts, hK, hnm, hXX, hA, hE, fun n1 e1 => by cases e1; exact ⟨by rw [hlen1]; omega, hcl⟩, hR, rfl⟩ H1 locs ls ca (adU ad lay.length q) (hcl ad ca _ _ (fun i hi => hag i (by omega)) h1) q1 (by rw [hlen1]; exact h3.push q2) (fun i ty' n' hi => ?_) q3 (by rw [tl_eq hag hr2]; exact h6)
    · rw [List.map_cons, tvs_eq hag hr] at this
      simpa [tv, adU] using this
    · by_cases hil : i < lay.length
      · rw [List.getElem?_append_left hil] at hi
        exact h4 i ty' n' hi
      · rw [List.getElem?_append_right (by omega)] at hi
        by_cases hz : i - lay.length = 0
        · rw [hz] at hi; cases hi
        · rw [List.getElem?_eq_none (by simp; omega)] at hi; cases hi
theorem k_newarr (h : Rules cc own nm nL R (some n0) X Rt lay k n G) {atype : ArrayType} {ty : FieldType} {x : Int32} {N : Nat} (hty : newarray.typeOf atype = ty) (hdv : defaultValue ty = .int 0) (hw : Cond.arrayClass (newarray.typeOf atype) ∈ tb) (hx0 : ¬ x < 0) (hN : x.toNatClampNeg = N) (hby : N * componentBytes ty ≤ 536870912) (hlb : lyb lay.length lay = true) (hm : lay.length < 1000000) (hr : st.all (rf1 lay.length) = true) (hr2 : lv.all (fun q => rf1 lay.length q.2) = true) (hcell : k + 1 ≤ R.cells ∧ n + N ≤ R.slots) (hd : decode cc pc = .ok (.newarray atype, 2))
    (g : ∀ G', Rules cc own nm nL R (some n0) X Rt (lay ++ [.inl (ty, N)]) (k + 1) (n + N) G' → G' (pc + 2) lv (.ref lay.length :: st) (zW w lay.length)) : G pc lv (.int x :: st) w := by
  obtain ⟨p, l, e, s, m, args, below, meth, c, D, A, Pa, Q, hx, hb, hml, hown, hts, hK, hnm, hXX, hA, hE, hPa, hR, rfl⟩ := h
  intro H locs ls ca ad h1 h2 h3 h4 h5 h6
  obtain ⟨hn0, hcl⟩ := hPa n0 rfl
  refine va_newa (a0 := (N, .inl (fun _ => 0))) hx hb (hts _ hw) hty hK h2 h3.D h5 hA (fun cA => by rw [vp_cell_i, hdv]) hx0 hN hby hcell.1 hcell.2 hd (fun q cA H1 q0 q1 q2 q3 => ?_)
  have hag : ∀ i, i < lay.length ∨ 1000000 ≤ i → adU ad lay.length q i = ad i := adU_ag hm
  have hzf : (zW w lay.length).1 lay.length = fun _ => 0 := by funext b; simp [zW]
  rw [← wl_push (ca' := fun i => if i = lay.length then cA else ca i) (sh := .inl (ty, N)) hlb (fun i hi => by simp [Nat.ne_of_lt hi]) (by simp [ce, adU, hzf])] at q1
  have hlen1 : (lay ++ [(Sum.inl (ty, N) : LyS)]).length = lay.length + 1 := by simp
  have := g (Kd p l e R s m args below meth c D A Pa nL Q (lay ++ [.inl (ty, N)]) (k + 1) (n + N)) ⟨p, l, e, s, m, args, below, meth, c, D, A, Pa, Q, hx, hb, hml, hown, hts, hK, hnm, hXX, hA, hE, fun n1 e1 => by cases e1; exact ⟨by rw [hlen1]; omega, hcl⟩, hR, rfl⟩ H1 locs ls (fun i => if i = lay.length then cA else ca i) (adU ad lay.length q) (hcl ad ca _ _ (fun i hi => hag i (by omega)) h1) q1 (by rw [hlen1]; exact h3.push q2) (fun i ty' n' hi => ?_) q3 (by rw [tl_eq hag hr2]; exact h6)
  · rw [List.map_cons, tvs_eq hag hr] at this
    simpa [tv, adU] using this
  · by_cases hil : i < lay.length
    · rw [List.getElem?_append_left hil] at hi
      have hne : ¬ i = lay.length := Nat.ne_of_lt hil
      simp only [hne, if_false]
      exact h4 i ty' n' hi
    · rw [List.getElem?_append_right (by omega)] at hi
      by_cases hz : i - lay.length = 0
      · rw [hz] at hi
        cases hi
        have hie : i = lay.length := by omega
        simp only [hie, if_true]
        exact q0.2 0 (cA, ty) rfl
      · rw [List.getElem?_eq_none (by simp; omega)] at hi; cases hi
theorem k_putr (h : Rules cc own nm nL R (some n0) X Rt lay k n G) {ix kb ci j r : Nat} {ty : FieldType} {fds : List (Nat ⊕ Option Nat)} (hf : FL own ix ci j ty true) (hl : lay[kb]? = some (.inr (ci, fds))) (hj : j < fds.length) (hnmi : nm = "<init>") (hcl' : ∀ C T N, vwCl[ci]? = some (C, T, N) → C = own) (hty : (∃ c, ty = .object c) ∨ ∃ t, ty = .array t) (hd : decode cc pc = .ok (.putfield ix, 3))
    (g : ∀ G', Rules cc own nm nL R (some n0) X Rt (lay.set kb (.inr (ci, fds.set j (.inr (some r))))) k n G' → G' (pc + 3) lv st w) : G pc lv (.ref r :: .ref kb :: st) w := by
  obtain ⟨p, l, e, s, m, args, below, meth, c, D, A, Pa, Q, hx, hb, hml, hown, hts, hK, hnm, hXX, hA, hE, hPa, hR, rfl⟩ := h
  obtain ⟨C, T, N, ty0, f1, f2, f3, f4, f5, f6, f7, f8, f9⟩ := hf
  intro H locs ls ca ad h1 h2 h3 h4 h5 h6
  obtain ⟨hn0, hcl⟩ := hPa n0 rfl
  have hfit : fits ty (Value.ref (ad r)) = true := by rcases hty with ⟨c, rfl⟩ | ⟨t, rfl⟩ <;> rfl
  have hnar : narrow ty (Value.ref (ad r)) = Value.ref (ad r) := by rcases hty with ⟨c, rfl⟩ | ⟨t, rfl⟩ <;> rfl
  refine va_putF hx hb hts f3 ty0 f5 f6 hown hK h2 h3.D h5 kb (wl_at hl) f1 j f2 (hts _ f4) (fun _ z => z) f8 (hnm.trans hnmi) (f9.trans (hcl' C T N f1)) f7 hnar hfit (by simpa using hj) hd (fun H1 locs1 q1 q2 q3 => ?_)
  have q1 : va_P D vwCl ((wl ad ca w lay).set kb (ad kb, .inr (ci, (fds.mapIdx (fv ad w kb)).set j (.ref (ad r))))) H1 := q1
  rw [wl_objR hl] at q1
  exact g (Kd p l e R s m args below meth c D A Pa nL Q (lay.set kb (.inr (ci, fds.set j (.inr (some r))))) k n) ⟨p, l, e, s, m, args, below, meth, c, D, A, Pa, Q, hx, hb, hml, hown, hts, hK, hnm, hXX, hA, hE, fun n1 e1 => by cases e1; exact ⟨by simpa using hn0, hcl⟩, hR, rfl⟩ H1 locs1 ls ca ad h1 q1 (by simpa using h3) (fun i ty' n' hi => by
    by_cases hik : kb = i
    · subst hik
      rw [List.getElem?_set_self (List.getElem?_eq_some_iff.mp hl).1] at hi
      cases hi
    · rw [List.getElem?_set_ne hik] at hi
      exact h4 i ty' n' hi) q3 h6
theorem k_objI (h : Rules cc own nm nL R nA X Rt lay k n G) {ix a : Nat} (hw : ∀ w ∈ [Cond.methodLink own ix objectInit, .instanceMethod objectInit, .code objectInit ⟨#[0xb1]⟩ 1 none], w ∈ tb) (hf : 1 ≤ R.frames) (hlo : (st.map fun v => v.category).sum + 12 ≤ R.locals) (hd : decode cc pc = .ok (.invokespecial ix, 3)) (g : G (pc + 3) lv st w) : G pc lv (.ref a :: st) w := by
  obtain ⟨p, l, e, s, m, args, below, meth, c, D, A, Pa, Q, hx, hb, hml, hown, hts, hK, hnm, hXX, hA, hE, hPa, hR, rfl⟩ := h
  intro H locs ls ca ad h1 h2 h3 h4 h5 h6
  exact W.objInit hx hb hown (hts _ (hw _ (by simp))) (hts _ (hw _ (by simp))) (hts _ (hw _ (by simp))) rfl (by rw [hml]; exact h6.1) rfl hd hf (by show 2 * 0 + _ + 12 ≤ _; rw [tl_map_cat]; omega) (g H locs ls ca ad h1 h2 h3 h4 h5 h6)
end KA1
def CnA (d mc ms : Nat) (y : MethodName) (cc : ByteArray) (nL : Nat) (lay : List LyS) (as : List Value) (w : WW) (lay' : List LyS) (u0 : WW) : Prop :=
  ∀ (l : Launch) (D : va_G) (ad : Nat → Nat) (ca : Nat → ClassId) (A : Nat → Prop) (sz : Nat), (∀ q, sz ≤ q → A q) → AD A ad lay.length →
    Met l y (.code y cc nL none :: tb) (rmd d mc ms) (cPc A D ad ca sz lay as w) (fun _ st oc t => (oc = .returned none ∧ ∃ (ad' : Nat → Nat) (ca' : Nat → ClassId), (∀ i, i < lay.length ∨ 1000000 ≤ i → ad' i = ad i) ∧ AD A ad' lay'.length ∧ KA lay' ca' t ∧ va_P D vwCl (wl ad' ca' u0 lay') t.heap) ∧ va_F A st t) mc ms A
theorem CnA.of {d mc ms : Nat} {y : MethodName} {cc : ByteArray} {nL : Nat} {lay : List LyS} {as : List Value} {w : WW} {lay' : List LyS} {u0 : WW} (hy : plainFor y = true) (hs : (lg_sl as).length ≤ nL)
    (body : ∀ G, Rules cc y.cls y.name nL (rmd d mc ms) (some lay.length) (fun _ _ => True) (fun l2 k n v u => l2 = lay' ∧ k = mc ∧ n = ms ∧ v = none ∧ u = u0) lay 0 0 G → G 0 (lv_args 0 as) [] w) : CnA d mc ms y cc nL lay as w lay' u0 := by
  intro l D ad ca A sz hA hAD
  refine metW (cc := cc) (maxL := nL) (ret := none) hy rfl ?_
  intro p e s m args below meth c s₁ B hml hv
  obtain ⟨rfl, hsz, hP, hK, hKA, hEV⟩ := hv
  subst hsz
  have hx := B.exec
  have hb := B.bytes
  have hr := B.returns
  have hts0 := atoms_spec (ws := .code y cc nL none :: tb) B.pre
  have hts : ∀ w ∈ tb, w.before (as.map (tv ad)).toArray s = true := fun w h => hts0 w (List.mem_cons_of_mem _ h)
  have hown : s.vm.findClass y.cls = some m.cls := findClass_of_methodNamed B.named
  have hlocks := B.notSynchronized
  have hnm : meth.name = y.name := (name_of_methodNamed B.named B.method).1
  have hl := lv_entry (as.map (tv ad)) (n := nL) (by rw [lg_len]; exact hs)
  rw [lg_entry_eq]
  rw [lv_args_tl] at hl
  refine body (Kd p l e (rmd d mc ms) s m _ below meth c D A (fun a _ => ∀ i, i < lay.length ∨ 1000000 ≤ i → a i = ad i) nL (MQ below _ _ s mc ms A) lay 0 0) ⟨p, l, e, s, m, _, below, meth, c, D, A, fun a _ => ∀ i, i < lay.length ∨ 1000000 ≤ i → a i = ad i, _, hx, hb, hml, hown, hts, hK, hnm, trivial, hA, (fun a b h => hEV.ad (fun i hi => h i (Or.inr hi))), (fun n0 h => by cases h; exact ⟨Nat.le_refl _, fun a b a' b' h1 h2 i hi => (h1 i hi).trans (h2 i hi)⟩), ?_, rfl⟩ s.heap [] _ ca ad (fun _ _ => rfl) hP hAD hKA va_S.rf hl
  rintro l2 k n pc v u H locs ls ca' ad' ⟨rfl, rfl, rfl, rfl, rfl⟩ hop hpa h2 h3 h4 h5
  exact W.vret hx hb hr (fun t ht hW => ⟨⟨rfl, ad', ca', hpa, h3, h4.moved hW.alike, by rw [ht]; exact h2⟩, h5.F ht⟩) h5.2.2 hop hlocks
section KA2
variable {cc : ByteArray} {own nm : String} {nL : Nat} {R : Room} {nA : Option Nat} {X : (Nat → Prop) → State → Prop} {Rt : List LyS → Nat → Nat → Option Value → WW → Prop} {lay : List LyS} {k n : Nat} {G : Nat → List (Nat × Value) → List Value → WW → Prop} {pc : Nat} {lv : List (Nat × Value)} {st : List Value} {w : WW} {n0 : Nat}
/-- behind a constructor -/
theorem k_behI {p : Program} {l : Launch} {e : Env} {s : State} {m : MethodId} {args : Array Value} {below : List Frame} {meth : Method} {c : Code} {D : va_G} {A : Nat → Prop} {Pa : (Nat → Nat) → (Nat → ClassId) → Prop} {Q : State → Prop} {mc ms : Nat} {lay' : List LyS} {u0 : WW} {rest st0 : List Value} {H : Heap} {locs : List Loc} {ls : Array Slot} {ca : Nat → ClassId} {ad : Nat → Nat}
    (hpk : ∀ lay', n0 ≤ lay'.length → Rules cc own nm nL R (some n0) X Rt lay' (k + mc) (n + ms) (Kd p l e R s m args below meth c D A Pa nL Q lay' (k + mc) (n + ms)))
    (hcl : ∀ ad ca ad' ca', (∀ i, i < n0 ∨ 1000000 ≤ i → ad' i = ad i) → Pa ad ca → Pa ad' ca') (hn0 : n0 ≤ lay.length) (h1 : Pa ad ca) (h5 : va_S A s.heap H locs) (h6 : lv_has ls nL (tl ad lv))
    (hlen : lay.length ≤ lay'.length) (hr : rest.all (rf1 lay.length) = true) (hr2 : lv.all (fun q => rf1 lay.length q.2) = true)
    (hrun : va_Run p l e R s m args below meth c H locs k n mc ms (F0 m pc ls st0) (rest.map (tv ad)) (fun st oc t => (oc = .returned none ∧ ∃ (ad' : Nat → Nat) (ca' : Nat → ClassId), (∀ i, i < lay.length ∨ 1000000 ≤ i → ad' i = ad i) ∧ AD A ad' lay'.length ∧ KA lay' ca' t ∧ va_P D vwCl (wl ad' ca' u0 lay') t.heap) ∧ va_F A st t) A)
    (g : ∀ G', Rules cc own nm nL R (some n0) X Rt lay' (k + mc) (n + ms) G' → G' (pc + 3) lv rest u0) : W p l e R s m args below meth c H locs k n Q (F0 m pc ls st0) := by
  refine kcall hrun h5 (fun t locs1 hal hB hS1 => ?_)
  obtain ⟨ad', ca', b1, b2, b3, b4⟩ := hB
  have := g _ (hpk lay' (Nat.le_trans hn0 hlen)) t.heap locs1 ls ca' ad' (hcl ad ca ad' ca' (fun i hi => b1 i (by omega)) h1) b4 b2 (b3.moved hal.symm) hS1 (by rw [tl_eq b1 hr2]; exact h6)
  rw [tvs_eq b1 hr] at this
  exact this
theorem k_callI (h : Rules cc own nm nL R (some n0) X Rt lay k n G) {d mc ms : Nat} {y : MethodName} {cc' : ByteArray} {nL' ix kb : Nat} {rest : List Value} {lay' : List LyS} {u0 : WW} (hc : CnA d mc ms y cc' nL' lay [.ref kb] w lay' u0) (hw : ∀ w ∈ [Cond.methodLink own ix y, .instanceMethod y, .initialized y.cls, .code y cc' nL' none], w ∈ tb) (hy : y.name = "<init>" ∧ y.cls ≠ "java/lang/invoke/MethodHandle" ∧ y.cls ≠ "java/lang/invoke/VarHandle" ∧ (parseMethodDescriptor y.desc).map (fun d => d.parameters.length) = some 0) (hR0 : (d + 1 ≤ R.frames ∧ 8 + (nL' + 11) + 40 * d ≤ R.locals) ∧ k + mc ≤ R.cells ∧ n + ms ≤ R.slots) (hsum : (rest.map fun v => v.category).sum ≤ 8) (hlen : lay.length ≤ lay'.length) (hr : rest.all (rf1 lay.length) = true) (hr2 : lv.all (fun q => rf1 lay.length q.2) = true) (hd : decode cc pc = .ok (.invokespecial ix, 3))
    (g : ∀ G', Rules cc own nm nL R (some n0) X Rt lay' (k + mc) (n + ms) G' → G' (pc + 3) lv rest u0) : G pc lv (.ref kb :: rest) w := by
  obtain ⟨p, l, e, s, m, args, below, meth, c, D, A, Pa, Q, hx, hb, hml, hown, hts, hK, hnm, hXX, hA, hE, hPa, hR, rfl⟩ := h
  intro H locs ls ca ad h1 h2 h3 h4 h5 h6
  obtain ⟨hn0, hcl⟩ := hPa n0 rfl
  have hM := hc l D ad ca A H.size (fun q hq => hA q (Nat.le_trans h5.1 hq)) h3
  have cw := cwI (own := own) (index := ix) (y := y) (ws := .code y cc' nL' none :: tb) (bytes := cc') (maxL := nL') (ws' := tb) (rm := rmd d mc ms) (mc := mc) (ms := ms) (R := R) 0 hts (tbl_sub (code_sub (hw _ (by simp)))) rfl rfl rfl (hts _ (hw _ (by simp))) (hts _ (hw _ (by simp))) (hts _ (hw _ (by simp))) hy.1 hy.2 hR0.1
  have hrun := va_runI (p := p) (e := e) (below := below) (meth := meth) (locs := locs) (cells := k) (slots := n) (H := H) (cc := cc) (nL := nL) (b := ad kb) (As := []) (rest := rest.map (tv ad)) (g := F0 m pc ls ((.ref kb :: rest).map (tv ad))) ⟨hx, hb, hml, hown, hts⟩ hM cw ⟨cPc_blind, fun U hU hW => ⟨rfl, by rw [hU], by rw [hU]; exact h2, va_K.moved hW.alike hK, h4.moved hW.alike, (hE ad ca h1).go hW hU h5⟩⟩ rfl rfl h6.1 rfl (lv_room (by rw [tl_map_cat]; exact hsum)) hd hR0.2
  exact k_behI (fun lay' hl' => ⟨p, l, e, s, m, args, below, meth, c, D, A, Pa, Q, hx, hb, hml, hown, hts, hK, hnm, hXX, hA, hE, fun n1 e1 => by cases e1; exact ⟨hl', hcl⟩, hR, rfl⟩) hcl hn0 h1 h5 h6 hlen hr hr2 hrun g
theorem k_callIN (h : Rules cc own nm nL R (some n0) X Rt lay k n G) {d mc ms : Nat} {y : MethodName} {host : String} {cc' : ByteArray} {nL' ix kb : Nat} {rest : List Value} {lay' : List LyS} {u0 : WW} (hc : CnA d mc ms y cc' nL' lay [.ref kb] w lay' u0) (hnest : Cond.methodLinkNest own ix y host ∈ lw_tbl) (hw : ∀ w ∈ [Cond.instanceMethod y, .initialized y.cls, .code y cc' nL' none], w ∈ tb) (hy : y.name = "<init>" ∧ y.cls ≠ "java/lang/invoke/MethodHandle" ∧ y.cls ≠ "java/lang/invoke/VarHandle" ∧ (parseMethodDescriptor y.desc).map (fun d => d.parameters.length) = some 0) (hR0 : (d + 1 ≤ R.frames ∧ 8 + (nL' + 11) + 40 * d ≤ R.locals) ∧ k + mc ≤ R.cells ∧ n + ms ≤ R.slots) (hsum : (rest.map fun v => v.category).sum ≤ 8) (hlen : lay.length ≤ lay'.length) (hr : rest.all (rf1 lay.length) = true) (hr2 : lv.all (fun q => rf1 lay.length q.2) = true) (hd : decode cc pc = .ok (.invokespecial ix, 3))
    (g : ∀ G', Rules cc own nm nL R (some n0) X Rt lay' (k + mc) (n + ms) G' → G' (pc + 3) lv rest u0) : G pc lv (.ref kb :: rest) w := by
  obtain ⟨p, l, e, s, m, args, below, meth, c, D, A, Pa, Q, hx, hb, hml, hown, hts, hK, hnm, hXX, hA, hE, hPa, hR, rfl⟩ := h
  intro H locs ls ca ad h1 h2 h3 h4 h5 h6
  obtain ⟨hn0, hcl⟩ := hPa n0 rfl
  have hM := hc l D ad ca A H.size (fun q hq => hA q (Nat.le_trans h5.1 hq)) h3
  have cw := va_cnB (own := own) (host := host) (index := ix) (y := y) (ws := .code y cc' nL' none :: tb) (bytes := cc') (maxL := nL') (ret := none) (ws' := tb) (rm := rmd d mc ms) (mc := mc) (ms := ms) (R := R) 0 hts (tbl_sub (code_sub (hw _ (by simp)))) rfl rfl rfl ((hE ad ca h1).1 _ _ _ _ hnest) (hts _ (hw _ (by simp))) hy.2 hR0.1
  have hrun := va_runIN (p := p) (e := e) (below := below) (meth := meth) (locs := locs) (cells := k) (slots := n) (H := H) (cc := cc) (nL := nL) (b := ad kb) (As := []) (rest := rest.map (tv ad)) (g := F0 m pc ls ((.ref kb :: rest).map (tv ad))) ⟨hx, hb, hml, hown, hts⟩ hM ⟨cw, hy.1, hts _ (hw _ (by simp))⟩ ⟨cPc_blind, fun U hU hW => ⟨rfl, by rw [hU], by rw [hU]; exact h2, va_K.moved hW.alike hK, h4.moved hW.alike, (hE ad ca h1).go hW hU h5⟩⟩ rfl rfl h6.1 rfl (lv_room (by rw [tl_map_cat]; exact hsum)) hd hR0.2
  exact k_behI (fun lay' hl' => ⟨p, l, e, s, m, args, below, meth, c, D, A, Pa, Q, hx, hb, hml, hown, hts, hK, hnm, hXX, hA, hE, fun n1 e1 => by cases e1; exact ⟨hl', hcl⟩, hR, rfl⟩) hcl hn0 h1 h5 h6 hlen hr hr2 hrun g
end KA2
/-- the law's script -/
def lwX (b L : Nat) (xs : Nat → Int32) : (Nat → Prop) → State → Prop := fun A s => va_X b L xs s s.heap ∧ b < s.heap.size ∧ ¬ A b
section KL
variable {cc : ByteArray} {own nm : String} {nL : Nat} {R : Room} {nA : Option Nat} {b L : Nat} {xs : Nat → Int32} {Rt : List LyS → Nat → Nat → Option Value → WW → Prop} {lay : List LyS} {k n : Nat} {G : Nat → List (Nat × Value) → List Value → WW → Prop} {pc : Nat} {lv : List (Nat × Value)} {st : List Value} {w : WW}
theorem k_sld (h : Rules cc own nm nL R nA (lwX b L xs) Rt lay k n G) {τ : Type} {z : τ} {E : Option τ} {i : Int32} (hd : decode cc pc = .ok (.iaload, 1)) (hk : gd (inb i L) E = some z) (g : E = some z → G (pc + 1) lv (.int (xs i.toNatClampNeg) :: st) w) : G pc lv (.int i :: .retAddr b :: st) w := by
  obtain ⟨hi, hk⟩ := gd_some hk
  have g := g hk
  obtain ⟨p, l, e, s, m, args, below, meth, c, D, A, Pa, Q, hx, hb, hml, hown, hts, hK, hnm, hXX, hA, hE, hPa, hR, rfl⟩ := h
  intro H locs ls ca ad h1 h2 h3 h4 h5 h6
  exact va_sld hx hb hXX.1 hXX.2.1 hXX.2.2 h5 (vp_in_iff.mpr hi) hd (g H locs ls ca ad h1 h2 h3 h4 h5 h6)
theorem k_slen (h : Rules cc own nm nL R nA (lwX b L xs) Rt lay k n G) (hd : decode cc pc = .ok (.arraylength, 1)) (g : G (pc + 1) lv (.int (Int32.ofNat L) :: st) w) : G pc lv (.retAddr b :: st) w := by
  obtain ⟨p, l, e, s, m, args, below, meth, c, D, A, Pa, Q, hx, hb, hml, hown, hts, hK, hnm, hXX, hA, hE, hPa, hR, rfl⟩ := h
  intro H locs ls ca ad h1 h2 h3 h4 h5 h6
  exact va_slen hx hb hXX.1 hXX.2.1 hXX.2.2 h5 hd (g H locs ls ca ad h1 h2 h3 h4 h5 h6)
end KL

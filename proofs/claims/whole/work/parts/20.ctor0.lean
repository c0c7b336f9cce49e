def nz {τ : Type} (w : WW) (k : Nat) (f : WW → Option τ) : Option τ := f (zW w k)
def isN (f : Nat ⊕ Option Nat) : Bool := match f with
  | .inr (some _) => false
  | _ => true
theorem isN_or {f : Nat ⊕ Option Nat} (h : isN f = true) : f = .inr none ∨ ∃ a, f = .inl a := by
  match f, h with
  | .inl a, _ => exact Or.inr ⟨a, rfl⟩
  | .inr none, _ => exact Or.inl rfl
  | .inr (some r), h => cases h
section KF
variable {cc : ByteArray} {own nm : String} {nL : Nat} {R : Room} {X : (Nat → Prop) → State → Prop} {Rt : List LyS → Nat → Nat → Option Value → WW → Prop} {lay : List LyS} {k n : Nat} {G : Nat → List (Nat × Value) → List Value → WW → Prop} {pc : Nat} {lv : List (Nat × Value)} {st : List Value} {w : WW} {n0 : Nat} {τ : Type} {z : τ}
theorem k_newF (h : Rules cc own nm nL R (some n0) X Rt lay k n G) {ix N ci K k' n' : Nat} {lay' : List LyS} {C : String} {T : u_T} {ty : Nat → FieldType} {fds : List (Nat ⊕ Option Nat)} {F : WW → Option τ} (hc : vwCl[ci]? = some (C, T, N)) (hin : ∀ w ∈ u_ws C T N, w ∈ tb) (hty : ∀ k, k < N → parseFieldDescriptor (T k).2.2.1 = some (ty k)) (hw : ∀ w ∈ [Cond.classLink own ix C, .instantiable C N, .initialized C], w ∈ tb) (hfd : ∀ j, j < N → defaultValue (ty j) = dv (fds.getD j (.inr none)) ∧ isN (fds.getD j (.inr none)) = true) (hfl : fds.length ≤ N) (hlb : lyb lay.length lay = true) (hm : lay.length < 1000000) (hr : st.all (rf1 lay.length) = true) (hr2 : lv.all (fun q => rf1 lay.length q.2) = true) (hcell : k + 1 ≤ R.cells ∧ n + N ≤ R.slots) (hd : decode cc pc = .ok (.new ix, 3)) (e1 : lay.length = K) (e2 : lay ++ [.inr (ci, fds)] = lay') (e3 : k + 1 = k') (e4 : n + N = n') (hk : nz w K F = some z)
    (g : ∀ G' u, Rules cc own nm nL R (some n0) X Rt lay' k' n' G' → F u = some z → G' (pc + 3) lv (.ref K :: st) u) : G pc lv st w := by
  subst e1 e2 e3 e4
  exact k_new h hc hin hty hw (fun j hj => ⟨(hfd j hj).1, isN_or (hfd j hj).2⟩) hfl hlb hm hr hr2 hcell hd (fun G' h' => g G' _ h' hk)
theorem k_newarrF (h : Rules cc own nm nL R (some n0) X Rt lay k n G) {atype : ArrayType} {ty : FieldType} {x : Int32} {N K k' n' : Nat} {lay' : List LyS} {F : WW → Option τ} (hty : newarray.typeOf atype = ty) (hdv : defaultValue ty = .int 0) (hw : Cond.arrayClass (newarray.typeOf atype) ∈ tb) (hx0 : ¬ x < 0) (hN : x.toNatClampNeg = N) (hby : N * componentBytes ty ≤ 536870912) (hlb : lyb lay.length lay = true) (hm : lay.length < 1000000) (hr : st.all (rf1 lay.length) = true) (hr2 : lv.all (fun q => rf1 lay.length q.2) = true) (hcell : k + 1 ≤ R.cells ∧ n + N ≤ R.slots) (hd : decode cc pc = .ok (.newarray atype, 2)) (e1 : lay.length = K) (e2 : lay ++ [.inl (ty, N)] = lay') (e3 : k + 1 = k') (e4 : n + N = n') (hk : nz w K F = some z)
    (g : ∀ G' u, Rules cc own nm nL R (some n0) X Rt lay' k' n' G' → F u = some z → G' (pc + 2) lv (.ref K :: st) u) : G pc lv (.int x :: st) w := by
  subst e1 e2 e3 e4
  exact k_newarr h hty hdv hw hx0 hN hby hlb hm hr hr2 hcell hd (fun G' h' => g G' _ h' hk)
theorem k_putrF (h : Rules cc own nm nL R (some n0) X Rt lay k n G) {ix kb ci j r : Nat} {lay' : List LyS} {ty : FieldType} {fds : List (Nat ⊕ Option Nat)} (hf : FL own ix ci j ty true) (hl : lay[kb]? = some (.inr (ci, fds))) (hj : j < fds.length) (hnmi : nm = "<init>") (hcl' : ∀ C T N, vwCl[ci]? = some (C, T, N) → C = own) (hty : (∃ c, ty = .object c) ∨ ∃ t, ty = .array t) (hd : decode cc pc = .ok (.putfield ix, 3)) (e2 : lay.set kb (.inr (ci, fds.set j (.inr (some r)))) = lay')
    (g : ∀ G', Rules cc own nm nL R (some n0) X Rt lay' k n G' → G' (pc + 3) lv st w) : G pc lv (.ref r :: .ref kb :: st) w := by
  subst e2
  exact k_putr h hf hl hj hnmi hcl' hty hd g
theorem k_callIF (h : Rules cc own nm nL R (some n0) X Rt lay k n G) {d mc ms : Nat} {y : MethodName} {cc' : ByteArray} {nL' ix kb k' n' : Nat} {rest : List Value} {lay' : List LyS} {u0 : WW} (hc : CnA d mc ms y cc' nL' lay [.ref kb] w lay' u0) (hw : ∀ w ∈ [Cond.methodLink own ix y, .instanceMethod y, .initialized y.cls, .code y cc' nL' none], w ∈ tb) (hy : y.name = "<init>" ∧ y.cls ≠ "java/lang/invoke/MethodHandle" ∧ y.cls ≠ "java/lang/invoke/VarHandle" ∧ (parseMethodDescriptor y.desc).map (fun d => d.parameters.length) = some 0) (hR0 : (d + 1 ≤ R.frames ∧ 8 + (nL' + 11) + 40 * d ≤ R.locals) ∧ k + mc ≤ R.cells ∧ n + ms ≤ R.slots) (hsum : (rest.map fun v => v.category).sum ≤ 8) (hlen : lay.length ≤ lay'.length) (hr : rest.all (rf1 lay.length) = true) (hr2 : lv.all (fun q => rf1 lay.length q.2) = true) (hd : decode cc pc = .ok (.invokespecial ix, 3)) (e3 : k + mc = k') (e4 : n + ms = n')
    (g : ∀ G', Rules cc own nm nL R (some n0) X Rt lay' k' n' G' → G' (pc + 3) lv rest u0) : G pc lv (.ref kb :: rest) w := by
  subst e3 e4
  exact k_callI h hc hw hy hR0 hsum hlen hr hr2 hd g
theorem k_callINF (h : Rules cc own nm nL R (some n0) X Rt lay k n G) {d mc ms : Nat} {y : MethodName} {host : String} {cc' : ByteArray} {nL' ix kb k' n' : Nat} {rest : List Value} {lay' : List LyS} {u0 : WW} (hc : CnA d mc ms y cc' nL' lay [.ref kb] w lay' u0) (hnest : Cond.methodLinkNest own ix y host ∈ lw_tbl) (hw : ∀ w ∈ [Cond.instanceMethod y, .initialized y.cls, .code y cc' nL' none], w ∈ tb) (hy : y.name = "<init>" ∧ y.cls ≠ "java/lang/invoke/MethodHandle" ∧ y.cls ≠ "java/lang/invoke/VarHandle" ∧ (parseMethodDescriptor y.desc).map (fun d => d.parameters.length) = some 0) (hR0 : (d + 1 ≤ R.frames ∧ 8 + (nL' + 11) + 40 * d ≤ R.locals) ∧ k + mc ≤ R.cells ∧ n + ms ≤ R.slots) (hsum : (rest.map fun v => v.category).sum ≤ 8) (hlen : lay.length ≤ lay'.length) (hr : rest.all (rf1 lay.length) = true) (hr2 : lv.all (fun q => rf1 lay.length q.2) = true) (hd : decode cc pc = .ok (.invokespecial ix, 3)) (e3 : k + mc = k') (e4 : n + ms = n')
    (g : ∀ G', Rules cc own nm nL R (some n0) X Rt lay' k' n' G' → G' (pc + 3) lv rest u0) : G pc lv (.ref kb :: rest) w := by
  subst e3 e4
  exact k_callIN h hc hnest hw hy hR0 hsum hlen hr hr2 hd g
end KF

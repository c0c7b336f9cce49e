/-! THE CLAIM OUT OF ONE WALK OF THE LAW'S BODY. Your part is whole_start (and what it stands on); all else here is the same for every law, but numbers. -/
def R_law : String := "QuestionFairLaw"
def lw_P (b : Addr) (xs : List Int32) (args : Array Value) (s : State) : Prop := args = #[.ref b] ∧ s.IntsAt b xs ∧ xs.length ≤ 2048 ∧ (Jvm.Cond.and given_1 narrow_1).before args s = true
def lw_Q (_ : Array Value) (s : State) (o : Outcome) (t : State) : Prop := o = .returned (some (.int 1)) ∧ Framed s o t [] 600000 7302250
def lw_Z (below : List Frame) (a : Array Value) (s : State) : State → Prop := fun t => ∃ o, t.status = .running ∧ Ended t below o ∧ lw_Q a s o t
/-- the law's own end, with 1 on the stack, nothing written that was there before, its room as the claim has it -/
theorem lw_ret {p : Program} {l : Launch} {e : Env} {s : State} {m : MethodId} {below : List Frame} {meth : Method} {c : Code} {b : Nat} (hx : p.tables.exec = Jvm.exec) (hb : c.code = code) (hr : meth.sig.returnType = ret) (hlocks : meth.locks = false) {pc : Nat} {H : Heap} {ls : Array Slot} (hdg : decode code pc = .ok (.ireturn, 1)) : W p l e room_1 s m #[Value.ref b] below meth c H [] 600000 7302250 (lw_Z below #[Value.ref b] s) (F0 m pc ls [.int 1]) := by
  intro T hT X
  obtain ⟨fs, hret, hrun, hended, hW, hframe⟩ := X.leave (v := some (.int 1)) (hlocks := hlocks) (fun h => by rw [hr] at h; cases h)
  have hmeth' : T.vm.method? m = some meth := X.method'
  refine ⟨T.setFrames fs, ?_, .returned (some (.int 1)), hrun, hended, rfl, ⟨_, rfl⟩, hW, hframe⟩
  jvm_step X.here [X.here.top, hx, hb, hdg, hmeth', hr, ret, narrow_b1]
  (try refine ⟨rfl, ?_⟩); (try refine ⟨rfl, ?_⟩)
  first | (intro acts; rw [hret _ acts rfl rfl rfl]) | rw [hret _ _ rfl rfl rfl]
  exact Steps.refl _
/-- what holds at the law's entry: the machine, the code, the tables' words (any of lw_tbl by 'hts w (by decide +kernel)'), the script of L ints xs at the cell b, what the Statement gives of the start (any of its parts by flat_of_before) -/
def lw_At (p : Program) (s : State) (m : MethodId) (meth : Method) (c : Code) (b L : Nat) (xs : Nat → Int32) : Prop :=
  p.tables.exec = Jvm.exec ∧ c.code = code ∧ meth.sig.returnType = ret ∧ c.maxLocals = 4 ∧ s.vm.findClass R_law = some m.cls ∧ (∀ w ∈ lw_tbl, w.before #[Value.ref b] s = true) ∧ va_X b L xs s s.heap ∧ b < s.heap.size ∧ meth.locks = false ∧ (Jvm.Cond.and given_1 narrow_1).before #[Value.ref b] s = true
def w00 : WW := (fun _ _ => 0, fun _ _ => 0)
theorem va_eqt2 {args : Array Value} {s : State} {t : Term} {v : Int32} (h : (Cond.eq t (.int v)).before args s = true) : t.eval args s none [] s = some (.int v) := va_eqt h
/-- the classes' numbers and slots -/
theorem known_all {args : Array Value} {s : State} (hts : ∀ w ∈ tb, w.before args s = true) : ∃ D : va_G, va_K D vwCl [] s := by
  have h : ∀ c : Nat, ∃ d : ClassId × (Nat → Nat), ∀ q : vw_C, vwCl[c]? = some q → u_Kn s q.1 q.2.1 q.2.2 d.1 d.2 := by
    intro c
    match c with
    | 0 =>
      obtain ⟨cC, iS, hk⟩ := u_known (n := 1) hts inTX0 (hts (.instantiable RX0 1) (tb_p1 263 (by decide +kernel) (by decide +kernel)))
      exact ⟨(cC, iS), fun q hq => by cases hq; exact hk⟩
    | 1 =>
      obtain ⟨cC, iS, hk⟩ := u_known (n := 2) hts inTX1 (hts (.instantiable RX1 2) (tb_p1 197 (by decide +kernel) (by decide +kernel)))
      exact ⟨(cC, iS), fun q hq => by cases hq; exact hk⟩
    | 2 =>
      obtain ⟨cC, iS, hk⟩ := u_known (n := 5) hts inTX2 (hts (.instantiable RX2 5) (tb_p1 227 (by decide +kernel) (by decide +kernel)))
      exact ⟨(cC, iS), fun q hq => by cases hq; exact hk⟩
    | 3 =>
      obtain ⟨cC, iS, hk⟩ := u_known (n := 2) hts inTX3 (hts (.instantiable RX3 2) (tb_p1 212 (by decide +kernel) (by decide +kernel)))
      exact ⟨(cC, iS), fun q hq => by cases hq; exact hk⟩
    | 4 =>
      obtain ⟨cC, iS, hk⟩ := u_known (n := 7) hts inTX4 (hts (.instantiable RX4 7) (tb_p1 162 (by decide +kernel) (by decide +kernel)))
      exact ⟨(cC, iS), fun q hq => by cases hq; exact hk⟩
    | 5 =>
      obtain ⟨cC, iS, hk⟩ := u_known (n := 1) hts inTX5 (hts (.instantiable RX5 1) (tb_p1 252 (by decide +kernel) (by decide +kernel)))
      exact ⟨(cC, iS), fun q hq => by cases hq; exact hk⟩
    | 6 =>
      obtain ⟨cC, iS, hk⟩ := u_known (n := 11) hts inTX6 (hts (.instantiable RX6 11) (tb_p1 97 (by decide +kernel) (by decide +kernel)))
      exact ⟨(cC, iS), fun q hq => by cases hq; exact hk⟩
    | 7 =>
      obtain ⟨cC, iS, hk⟩ := u_known (n := 12) hts inTX7 (hts (.instantiable RX7 12) (tb_p1 89 (by decide +kernel) (by decide +kernel)))
      exact ⟨(cC, iS), fun q hq => by cases hq; exact hk⟩
    | 8 =>
      obtain ⟨cC, iS, hk⟩ := u_known (n := 31) hts inTX8 (hts (.instantiable RX8 31) (tb_p1 776 (by decide +kernel) (by decide +kernel)))
      exact ⟨(cC, iS), fun q hq => by cases hq; exact hk⟩
    | c + 9 => exact ⟨(0, fun _ => 0), fun q hq => by simp [vwCl] at hq⟩
  obtain ⟨D, hD⟩ := Classical.axiomOfChoice h
  exact ⟨(fun c => (D c).1, fun c => (D c).2), fun c q hq => hD c q hq, fun k q hq => by simp at hq⟩
def adS (adK adV : Nat → Nat) : Nat → Nat := fun j => if 2000000 ≤ j then adV (j - 2000000) else adK (j - 1000000)
theorem adS_K {adK adV : Nat → Nat} (i : Nat) (hi : i < 1000000) : adS adK adV (1000000 + i) = adK i := by
  unfold adS
  rw [if_neg (by omega), Nat.add_sub_cancel_left]
theorem adS_V {adK adV : Nat → Nat} (i : Nat) : adS adK adV (2000000 + i) = adV i := by
  unfold adS
  rw [if_pos (by omega), Nat.add_sub_cancel_left]
def jsT (i : Nat) : Term := match i with
  | 0 => .string "QuestionFair$Reader" 96
  | 1 => .string "QuestionFair$Reader" 102
  | _ => .string "QuestionFair$Reader" 104
set_option maxRecDepth 20000 in
set_option maxHeartbeats 4000000 in
theorem env_all {b : Nat} {s : State} (hts : ∀ w ∈ lw_tbl, w.before #[Value.ref b] s = true) (hgv : (Jvm.Cond.and given_1 narrow_1).before #[Value.ref b] s = true) : ∃ ad : Nat → Nat, EV ad (fun q => s.heap.size ≤ q) s := by
  have hs := flat_of_before _ hgv
  have hA : ∀ a : Nat, a < s.heap.size → ¬ s.heap.size ≤ a := fun a h => by omega
  obtain ⟨adK, adV, hS, hT⟩ := vk_Sof (args := #[Value.ref b]) (s := s) (N := 3) (tm := jsT) (len := jsL) (byt := jsB) (A := fun q => s.heap.size ≤ q) (by decide)
    (fun i hi => by match i, hi with
      | 0, _ => exact hs _ (by decide +kernel)
      | 1, _ => exact hs _ (by decide +kernel)
      | 2, _ => exact hs _ (by decide +kernel))
    (fun i hi => by match i, hi with
      | 0, _ => exact hs _ (by decide +kernel)
      | 1, _ => exact hs _ (by decide +kernel)
      | 2, _ => exact hs _ (by decide +kernel))
    (fun i hi => by match i, hi with
      | 0, _ => exact hs _ (by decide +kernel)
      | 1, _ => exact hs _ (by decide +kernel)
      | 2, _ => exact hs _ (by decide +kernel))
    (fun i hi => by match i, hi with
      | 0, _ => exact hs _ (by decide +kernel)
      | 1, _ => exact hs _ (by decide +kernel)
      | 2, _ => exact hs _ (by decide +kernel))
    (fun i hi j hj => by match i, hi, j, hj with
      | 0, _, 0, _ => exact hs _ (by decide +kernel)
      | 0, _, 1, _ => exact hs _ (by decide +kernel)
      | 0, _, 2, _ => exact hs _ (by decide +kernel)
      | 0, _, 3, _ => exact hs _ (by decide +kernel)
      | 1, _, 0, _ => exact hs _ (by decide +kernel)
      | 1, _, 1, _ => exact hs _ (by decide +kernel)
      | 1, _, 2, _ => exact hs _ (by decide +kernel)
      | 1, _, 3, _ => exact hs _ (by decide +kernel)
      | 2, _, 0, _ => exact hs _ (by decide +kernel)
      | 2, _, 1, _ => exact hs _ (by decide +kernel)
      | 2, _, 2, _ => exact hs _ (by decide +kernel)
      | 2, _, 3, _ => exact hs _ (by decide +kernel)
      | 2, _, 4, _ => exact hs _ (by decide +kernel)
      | 2, _, 5, _ => exact hs _ (by decide +kernel)
      | 2, _, 6, _ => exact hs _ (by decide +kernel)
      | 2, _, 7, _ => exact hs _ (by decide +kernel))
    (fun i j hi hj hne => by match i, j, hi, hj, hne with
      | 0, 1, _, _, _ => exact Or.inl (hs _ (by decide +kernel))
      | 0, 2, _, _, _ => exact Or.inl (hs _ (by decide +kernel))
      | 1, 2, _, _, _ => exact Or.inl (hs _ (by decide +kernel))
      | 1, 0, _, _, _ => exact Or.inr (hs _ (by decide +kernel))
      | 2, 0, _, _, _ => exact Or.inr (hs _ (by decide +kernel))
      | 2, 1, _, _, _ => exact Or.inr (hs _ (by decide +kernel))
      | 0, 0, _, _, h => exact absurd rfl h
      | 1, 1, _, _, h => exact absurd rfl h
      | 2, 2, _, _, h => exact absurd rfl h) hA
  refine ⟨adS adK adV, fun a i x h hm => va_Nw.of rfl (hts _ hm), va_Zof (args := #[Value.ref b]) (hts _ (by decide +kernel)) (hts _ (by decide +kernel)) (va_eqt (hs (Cond.eq (.static "java/lang/String" "COMPACT_STRINGS" "Z") (.int 1)) (by decide +kernel))) hA, va_Zqof (args := #[Value.ref b]) (hts _ (by decide +kernel)) (hts _ (by decide +kernel)) (hs (Cond.isRef (.static "jdk/internal/util/Preconditions" "SIOOBE_FORMATTER" "Ljava/util/function/BiFunction;")) (by decide +kernel)) hA, ?_, ?_, ?_, ?_⟩
  · refine ⟨fun i hi => ?_, fun i j hi hj e => ?_⟩
    · dsimp only
      rw [adS_K i (by omega), adS_V i]
      exact hS.1 i hi
    · dsimp only at e
      rw [adS_K i (by omega), adS_K j (by omega)] at e
      exact hS.2 i j hi hj e
  · have q := hT 0 (by decide)
    rw [← adS_K (adK := adK) (adV := adV) 0 (by omega)] at q
    exact vk_R.of (A := #[Value.ref b]) (hts _ (by decide +kernel)) q
  · have q := hT 1 (by decide)
    rw [← adS_K (adK := adK) (adV := adV) 1 (by omega)] at q
    exact vk_R.of (A := #[Value.ref b]) (hts _ (by decide +kernel)) q
  · have q := hT 2 (by decide)
    rw [← adS_K (adK := adK) (adV := adV) 2 (by omega)] at q
    exact vk_R.of (A := #[Value.ref b]) (hts _ (by decide +kernel)) q
/-- the machine's side: what is left is a fact on the pure function -/
theorem whole_of (pm : ∀ (L : Nat) (xs : Nat → Int32), L ≤ 2048 → f_start L xs w00 = some 1) {p : Program} {e : Env} {s : State} {m : MethodId} {below : List Frame} {meth : Method} {c : Code} (l : Launch) {b L : Nat} {xs : Nat → Int32} (hL : L ≤ 2048) (C0 : lw_At p s m meth c b L xs) : W p l e room_1 s m #[Value.ref b] below meth c s.heap [] 0 0 (lw_Z below #[Value.ref b] s) (entryFrame m ([Value.ref b] : List Value).toArray 4) := by
  obtain ⟨hx, hb, hr, hml, hown, hts0, hX, hbl, hlocks, hgv⟩ := C0
  have hts : ∀ w ∈ tb, w.before #[Value.ref b] s = true := fun w h => hts0 w (List.mem_filter.mp h).1
  obtain ⟨D, hK⟩ := known_all hts
  obtain ⟨ad, hEV⟩ := env_all hts0 hgv
  have hl := lv_entry ([Value.retAddr b].map (tv ad)) (n := 4) (by rw [lg_len]; exact Nat.le_of_ble_eq_true rfl)
  rw [lg_entry_eq]
  rw [lv_args_tl] at hl
  refine law_all (nm := meth.name) (b := b) (L := L) (xs := xs) (w := w00) (G := Kd p l e room_1 s m #[Value.ref b] below meth c D (fun q => s.heap.size ≤ q) (fun a _ => ∀ i, 1000000 ≤ i → a i = ad i) 4 (lw_Z below #[Value.ref b] s) [] 0 0) ⟨p, l, e, s, m, #[Value.ref b], below, meth, c, D, fun q => s.heap.size ≤ q, fun a _ => ∀ i, 1000000 ≤ i → a i = ad i, _, hx, hb, hml, hown, hts, hK, rfl, ⟨hX, hbl, fun h => by omega⟩, fun q h => h, fun a _ h => hEV.ad h, fun n0 h => by cases h; exact ⟨Nat.zero_le _, fun a b a' b' h1 h2 i hi => (h1 i (Or.inr hi)).trans (h2 i hi)⟩, ?_, rfl⟩ (pm L xs hL) s.heap [] _ (fun _ => 0) ad (fun _ _ => rfl) (fun k q hq => by simp [wl] at hq) ⟨fun i j hi => by simp at hi, fun i hi => by simp at hi⟩ (fun k ty n hk => by simp at hk) va_S.rf hl
  rintro lay k n pc v u H locs ls ca ad' ⟨rfl, hk1, hn1⟩ hop hpa h2 h3 h4 h5
  refine va_forget (fun q hq => h5.2.2 q hq) ?_
  refine W.widen hk1 hn1 ?_
  exact lw_ret hx hb hr hlocks hop

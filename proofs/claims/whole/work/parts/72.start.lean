/-! the start, and all -/
theorem CA_fo {w u : WW} {a b c : Nat} {im : Im} (h : Fo a b w u) (hc : c + 7 < a) (C : CA w c im) : CA u c im := CA_congr (fun k j h1 h2 => by rw [(h k (by omega)).1]) C
def S00 : StT := ((v0 8, []), fun _ => none, [], (0, 1), fun _ => 0)
theorem SInv00 : SInv S00 := by
  exact ⟨Rim_v0 (by omega) (by omega), (fun i im _ h => by cases h), ⟨(by show 0 ≤ 150; omega), (fun c h => by cases h)⟩, (by decide)⟩
theorem init_C (w : WW) : ∃ u, f_X7_init_0 w = some u ∧ CInv u S00 := by
  obtain ⟨a1, b1, c1, d1⟩ := init1 (zW w 1)
  obtain ⟨a2, b2, c2, d2⟩ := init9 (zW a1 9)
  obtain ⟨a3, b3, c3, d3⟩ := init17 (zW a2 17)
  obtain ⟨a4, b4, c4, d4⟩ := init28 (zW (zW (zW (zW a3 25) 26) 27) 28)
  simp only [f_X7_init_0, nz, f_X4_init_26, f_X1_init_36, f_X3_init_38, f_X3_init_39, f_X2_init_40, f_X5_init_43, f_X0_init_45, stL, b1, b2, b3, b4, Option.bind_some]
  refine ⟨_, rfl, ?_⟩
  have f4 : Fo 37 45 (sL (sL (zW a4 36) 36 0 0) 36 1 1) (zW (zW (zW (zW (zW (zW (zW (zW (zW (sL (sL (zW a4 36) 36 0 0) 36 1 1) 37) 38) 39) 40) 41) 42) 43) 44) 45) := by
    refine Fo.tr (a := 37) (b := 45) ?_ (Fo.zW _ 45) (by omega)
    refine Fo.tr (a := 37) (b := 45) ?_ (Fo.zW _ 44) (by omega)
    refine Fo.tr (a := 37) (b := 45) ?_ (Fo.zW _ 43) (by omega)
    refine Fo.tr (a := 37) (b := 45) ?_ (Fo.zW _ 42) (by omega)
    refine Fo.tr (a := 37) (b := 45) ?_ (Fo.zW _ 41) (by omega)
    refine Fo.tr (a := 37) (b := 45) ?_ (Fo.zW _ 40) (by omega)
    refine Fo.tr (a := 37) (b := 45) ?_ (Fo.zW _ 39) (by omega)
    refine Fo.tr (a := 37) (b := 45) ?_ (Fo.zW _ 38) (by omega)
    exact (Fo.zW _ 37).wd (by omega)
  have f5 : Fo 38 45 (zW (sL (sL (zW a4 36) 36 0 0) 36 1 1) 37) (zW (zW (zW (zW (zW (zW (zW (zW (zW (sL (sL (zW a4 36) 36 0 0) 36 1 1) 37) 38) 39) 40) 41) 42) 43) 44) 45) := by
    refine Fo.tr (a := 38) (b := 45) ?_ (Fo.zW _ 45) (by omega)
    refine Fo.tr (a := 38) (b := 45) ?_ (Fo.zW _ 44) (by omega)
    refine Fo.tr (a := 38) (b := 45) ?_ (Fo.zW _ 43) (by omega)
    refine Fo.tr (a := 38) (b := 45) ?_ (Fo.zW _ 42) (by omega)
    refine Fo.tr (a := 38) (b := 45) ?_ (Fo.zW _ 41) (by omega)
    refine Fo.tr (a := 38) (b := 45) ?_ (Fo.zW _ 40) (by omega)
    refine Fo.tr (a := 38) (b := 45) ?_ (Fo.zW _ 39) (by omega)
    exact (Fo.zW _ 38).wd (by omega)
  have f3 : Fo 36 36 a4 (sL (sL (zW a4 36) 36 0 0) 36 1 1) := fun k hk => ⟨((Fo.zW a4 36) k hk).1, by
    show (sL (sL (zW a4 36) 36 0 0) 36 1 1).2 k = a4.2 k
    rw [← ((Fo.zW a4 36) k hk).2]
    funext j
    unfold sL
    dsimp only
    rw [if_neg (by omega), if_neg (by omega)]⟩
  generalize hx : zW (zW (zW (zW (zW (zW (zW (zW (zW (sL (sL (zW a4 36) 36 0 0) 36 1 1) 37) 38) 39) 40) 41) 42) 43) 44) 45 = x at f4 f5 ⊢
  have f43 : Fo 36 45 a4 x := f3.tr f4 (by omega)
  have f28 : Fo 28 35 (zW (zW (zW (zW a3 25) 26) 27) 28) a4 := c4
  have z28 : Fo 25 28 a3 (zW (zW (zW (zW a3 25) 26) 27) 28) := by
    refine Fo.tr (a := 25) (b := 28) ?_ (Fo.zW _ 28) (by omega)
    refine Fo.tr (a := 25) (b := 28) ?_ (Fo.zW _ 27) (by omega)
    refine Fo.tr (a := 25) (b := 28) ?_ (Fo.zW _ 26) (by omega)
    exact (Fo.zW _ 25).wd (by omega)
  have fx3 : Fo 25 45 a3 x := (z28.tr f28 (e := 25) (f := 35) (by omega)).tr f43 (by omega)
  have fx1 : Fo 9 45 a1 x := (((Fo.zW a1 9).tr c2 (e := 9) (f := 16) (by omega)).tr ((Fo.zW a2 17).tr c3 (e := 17) (f := 24) (by omega)) (e := 9) (f := 24) (by omega)).tr fx3 (by omega)
  have h25 : ∀ i, x.1 25 i = 0 := fun i => by
    rw [(f43 25 (by omega)).1, (f28 25 (by omega)).1, (Fo.zW _ 28 25 (by omega)).1, (Fo.zW _ 27 25 (by omega)).1, (Fo.zW _ 26 25 (by omega)).1, zW_0]
  have h26 : ∀ i, x.1 26 i = 0 := fun i => by
    rw [(f43 26 (by omega)).1, (f28 26 (by omega)).1, (Fo.zW _ 28 26 (by omega)).1, (Fo.zW _ 27 26 (by omega)).1, zW_0]
  refine ⟨CA_fo fx1 (by omega) d1, fun i hi => h25 i, ⟨h26 1, fun j hj => by cases hj⟩, ⟨?_, ?_⟩, fun i hi => ?_⟩
  · rw [(f4 36 (by omega)).2]; rfl
  · rw [(f4 36 (by omega)).2]; rfl
  · rw [(f5 37 (by omega)).1, zW_0]; rfl
theorem init_M (w : WW) (C : CInv w S00) : ∃ u, f_X8_init_46 (zW w 46) = some u ∧ Good u := by
  simp only [f_X8_init_46, nz, stI, stL]
  rw [show (8 : Int32) = nI 8 from rfl, beginM_ev, Option.bind_some]
  refine ⟨_, rfl, S00, SInv00, C.high (fun k hk => ⟨funext fun j => ?_, funext fun j => ?_⟩), MA_begin _ 8, fun i hi => ?_, ⟨?_, fun j hj => by cases hj⟩, ⟨?_, ?_⟩, fun i hi => ?_⟩
  · rw [fillF_ne _ _ _ _ (by omega), sI_ne _ _ (by omega), sI_ne _ _ (by omega), sI_ne _ _ (by omega), sI_ne _ _ (by omega)]
    simp [zW, sI, sL, show ¬ k = 46 by omega, show ¬ k = 47 by omega, show ¬ k = 48 by omega, show ¬ k = 49 by omega, show ¬ k = 50 by omega, show ¬ k = 51 by omega, show ¬ k = 52 by omega, show ¬ k = 53 by omega, show ¬ k = 54 by omega, show ¬ k = 55 by omega, show ¬ k = 56 by omega, show ¬ k = 57 by omega, show ¬ k = 58 by omega, show ¬ k = 59 by omega, show ¬ k = 60 by omega, show ¬ k = 61 by omega, show ¬ k = 62 by omega, show ¬ k = 63 by omega]
  · rw [fillF_2]
    simp [zW, sI, sL, show ¬ k = 46 by omega, show ¬ k = 47 by omega, show ¬ k = 48 by omega, show ¬ k = 49 by omega, show ¬ k = 50 by omega, show ¬ k = 51 by omega, show ¬ k = 52 by omega, show ¬ k = 53 by omega, show ¬ k = 54 by omega, show ¬ k = 55 by omega, show ¬ k = 56 by omega, show ¬ k = 57 by omega, show ¬ k = 58 by omega, show ¬ k = 59 by omega, show ¬ k = 60 by omega, show ¬ k = 61 by omega, show ¬ k = 62 by omega, show ¬ k = 63 by omega]
  · show (fillF _ 48 0 (fun _ => 1) 16).1 63 (193 * i) = 0
    rw [fillF_ne _ _ _ _ (by omega), sI_ne _ _ (by omega), sI_ne _ _ (by omega), sI_ne _ _ (by omega), sI_ne _ _ (by omega), zW_0]
  · show (fillF _ 48 0 (fun _ => 1) 16).1 46 10 = nI 0
    rw [fillF_ne _ _ _ _ (by omega), sI_ne _ _ (by omega), sI_ne _ _ (by omega), sI_ne _ _ (by omega), sI_ne _ _ (by omega)]
    simp [zW, sI, sL]
    rfl
  · show (fillF _ 48 0 (fun _ => 1) 16).2 46 24 = 0
    rw [fillF_2]
    simp [zW, sI, sL]
  · show (fillF _ 48 0 (fun _ => 1) 16).2 46 25 = 1
    rw [fillF_2]
    simp [zW, sI, sL]
  · show (fillF _ 48 0 (fun _ => 1) 16).1 47 i = 0
    rw [fillF_ne _ _ _ _ (by omega), sI_ne _ _ (by omega), sI_ne _ _ (by omega), sI_ne _ _ (by omega), sI_ne _ _ (by omega)]
    simp [zW, sI, sL]
theorem pure_main (L : Nat) (xs : Nat → Int32) (hL : L ≤ 2048) : f_start L xs w00 = some 1 := by
  simp only [f_start, nz]
  obtain ⟨u, eu, C⟩ := init_C (zW w00 0)
  obtain ⟨x, ex, G⟩ := init_M u C
  rw [eu, Option.bind_some, ex, Option.bind_some]
  exact law_ok xs hL G

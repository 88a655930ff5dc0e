/-! WORLDS ARE MADE -/
def ZW (I : mu_M) (w : Int) : Prop := I w 1 = 6 ∧ I w 2 = 6 ∧ I w 5 = 0 ∧ I w 6 = 0 ∧ (∀ j, I (w + 8) j = 0) ∧ I (w + 1) 0 = 0 ∧ NW I w
/-- a world with the first i of its people -/
def GW0 (G : mu_G) (w : Int) : Prop := sh G w = (10, 0) ∧ rf G w 0 = w + 1 ∧ rf G w 3 = w + 8 ∧ rf G w 4 = w + 9 ∧ rf G w 7 = w + 10 ∧ GL G (w + 1) ∧ sh G (w + 8) = (101, 64) ∧ sh G (w + 9) = (102, 4) ∧ sh G (w + 10) = (100, 6)
def ZW0 (I : mu_M) (w : Int) : Prop := I w 1 = 6 ∧ I w 2 = 6 ∧ I w 5 = 0 ∧ I w 6 = 0 ∧ (∀ j, I (w + 8) j = 0) ∧ I (w + 1) 0 = 0
theorem GP.at {G G1 : mu_G} {a : Int} (h : GP G a) (hk : ∀ b, a ≤ b → b < a + 5 → sh G1 b = sh G b ∧ ∀ j, rf G1 b j = rf G b j) : GP G1 a := by
  unfold GP at h ⊢
  obtain ⟨h1, h2, h3, h4, h5, h6, h7⟩ := h
  exact ⟨by rw [(hk a (by omega) (by omega)).1, h1], by rw [(hk a (by omega) (by omega)).2, h2], by rw [(hk a (by omega) (by omega)).2, h3], by rw [(hk a (by omega) (by omega)).2, h4], by rw [(hk (a + 2) (by omega) (by omega)).1, h5], by rw [(hk (a + 3) (by omega) (by omega)).1, h6], by rw [(hk (a + 4) (by omega) (by omega)).1, h7]⟩
theorem GL.at {G G1 : mu_G} {a : Int} (h : GL G a) (hk : ∀ b, a ≤ b → b < a + 7 → sh G1 b = sh G b ∧ ∀ j, rf G1 b j = rf G b j) : GL G1 a := by
  unfold GL at h ⊢
  obtain ⟨h1, h2, h3, h4, h5, h6, h7, h8, h9, h10, h11, h12, h13⟩ := h
  exact ⟨by rw [(hk a (by omega) (by omega)).1, h1], by rw [(hk a (by omega) (by omega)).2, h2], by rw [(hk a (by omega) (by omega)).2, h3], by rw [(hk a (by omega) (by omega)).2, h4], by rw [(hk a (by omega) (by omega)).2, h5], by rw [(hk a (by omega) (by omega)).2, h6], by rw [(hk a (by omega) (by omega)).2, h7], by rw [(hk (a + 1) (by omega) (by omega)).1, h8], by rw [(hk (a + 2) (by omega) (by omega)).1, h9], by rw [(hk (a + 3) (by omega) (by omega)).1, h10], by rw [(hk (a + 4) (by omega) (by omega)).1, h11], by rw [(hk (a + 5) (by omega) (by omega)).1, h12], by rw [(hk (a + 6) (by omega) (by omega)).1, h13]⟩
section
variable {d : Nat} {G : mu_G} {I : mu_M} {Q : Int → mu_G → mu_M → Prop}
theorem n_LawX (hd : d < 1000) {a : Int} (ha : 0 ≤ a) (hz : gz G = a + 1) (hw : sh G a = (1, 0)) (h0 : ∀ j, I a j = 0)
  (h : ∀ (G1 : mu_G) (I1 : mu_M), gz G1 = a + 7 → gu G1 = gu G + 240 → KG G G1 a → KI I I1 a → GL G1 a → (∀ b j, a ≤ b → b < a + 7 → I1 b j = 0) → (∀ b, a + 7 ≤ b → sh G1 b = sh G b) → Q 0 G1 I1) : mu_WP mu_code d 3 0 [(1, a)] [] G I Q := by
  refine vc_3_0 hd _ ?_
  refine ⟨ha, ?_⟩
  intro G2 e2 I3 e3
  refine ⟨by subst_vars; simp only [gz_grf, gz_gnew, sh_grf, sh_gnew]; grind, ?_⟩
  intro G5 e5 G8 e8 I9 e9
  refine ⟨by subst_vars; simp only [gz_grf, gz_gnew, sh_grf, sh_gnew]; grind, ?_⟩
  intro G11 e11 G14 e14 I15 e15
  refine ⟨by subst_vars; simp only [gz_grf, gz_gnew, sh_grf, sh_gnew]; grind, ?_⟩
  intro G17 e17 G20 e20 I21 e21
  refine ⟨by subst_vars; simp only [gz_grf, gz_gnew, sh_grf, sh_gnew]; grind, ?_⟩
  intro G23 e23 G26 e26 I27 e27
  refine ⟨by subst_vars; simp only [gz_grf, gz_gnew, sh_grf, sh_gnew]; grind, ?_⟩
  intro G29 e29 G32 e32 I33 e33
  refine ⟨by subst_vars; simp only [gz_grf, gz_gnew, sh_grf, sh_gnew]; grind, ?_⟩
  intro G35 e35
  have h0' : ∀ b j, b = a → I b j = 0 := fun b j e => e ▸ h0 j
  clear hd
  apply h <;> clear h <;> (subst_vars; simp only [KG, KI, GL, gu_gnew, gu_grf, gz_grf, gz_gnew, sh_grf, sh_gnew, rf_gnew, rf_grf, mu_inew_at] <;> grind (splits := 60))
theorem n_RowsX (hd : d < 1000) {a n : Int} (ha : 0 ≤ a) (hn : 0 ≤ n ∧ n ≤ 1000) (hz : gz G = a + 1) (hw : sh G a = (5, 0)) (h0 : ∀ j, I a j = 0)
  (h : ∀ (G1 : mu_G) (I1 : mu_M), gz G1 = a + 2 → gu G1 = gu G + n → KG G G1 a → KI I I1 a → GO G1 a n → (∀ b j, a ≤ b → b < a + 2 → I1 b j = 0) → (∀ b, a + 2 ≤ b → sh G1 b = sh G b) → Q 0 G1 I1) : mu_WP mu_code d 47 0 [(1, a), (0, n)] [] G I Q := by
  refine vc_47_0 hd _ _ ?_
  rw [if_neg (show ¬ n < 0 by omega)]
  refine ⟨ha, hn, ?_⟩
  intro G2 e2 I3 e3
  refine ⟨by subst_vars; simp only [gz_grf, gz_gnew, sh_grf, sh_gnew]; grind, ?_⟩
  intro G5 e5
  have h0' : ∀ b j, b = a → I b j = 0 := fun b j e => e ▸ h0 j
  clear hd
  apply h <;> clear h <;> (subst_vars; simp only [KG, KI, GO, gu_gnew, gu_grf, gz_grf, gz_gnew, sh_grf, sh_gnew, rf_gnew, rf_grf, mu_inew_at] <;> grind (splits := 60))
theorem n_PersonX (hd : d + 1 < 1000) {a x : Int} (ha : 0 ≤ a) (hz : gz G = a + 1) (hw : sh G a = (2, 0)) (h0 : ∀ j, I a j = 0)
  (h : ∀ (G1 : mu_G) (I1 : mu_M), gz G1 = a + 5 → gu G1 = gu G + 11 → KG G G1 a → KI I I1 a → GP G1 a → rf G1 a 1 = a + 1 → sh G1 (a + 1) = (9, 0) → I1 a 0 = x → (∀ b j, a ≤ b → b < a + 5 → (b ≠ a ∨ j ≠ 0) → I1 b j = 0) → (∀ b, a + 5 ≤ b → sh G1 b = sh G b) → Q 0 G1 I1) : mu_WP mu_code d 22 0 [(1, a), (0, x)] [] G I Q := by
  refine vc_22_0 (by omega) _ _ ?_
  refine ⟨ha, ?_⟩
  intro G2 e2 I3 e3
  refine ⟨by subst_vars; simp only [sh_gnew]; grind, ?_⟩
  refine n_Walker hd (by omega) (by subst_vars; unfold mu_wk; simp only [sh_gnew]; grind) ?_
  refine ⟨by subst_vars; simp only [gz_grf, gz_gnew, sh_grf, sh_gnew]; grind, ?_⟩
  intro G9 e9 G12 e12 I13 e13
  refine ⟨by subst_vars; simp only [gz_grf, gz_gnew, sh_grf, sh_gnew]; grind, ?_⟩
  intro G15 e15 G18 e18 I19 e19
  refine ⟨by subst_vars; simp only [gz_grf, gz_gnew, sh_grf, sh_gnew]; grind, ?_⟩
  intro G21 e21 G24 e24 I25 e25
  refine ⟨by subst_vars; simp only [gz_grf, gz_gnew, sh_grf, sh_gnew]; grind, ?_⟩
  intro G27 e27
  refine ⟨by subst_vars; simp only [gz_grf, gz_gnew, sh_grf, sh_gnew]; grind, ?_⟩
  intro I30 e30
  have h0' : ∀ b j, b = a → I b j = 0 := fun b j e => e ▸ h0 j
  clear hd
  apply h <;> clear h <;> (subst_vars; simp only [KG, KI, GP, gu_gnew, gu_grf, gz_grf, gz_gnew, sh_grf, sh_gnew, rf_gnew, rf_grf, mu_inew_at, mu_set_at] <;> grind (splits := 60))
theorem n_People (hd : d + 2 < 1000) {w : Int} (ha : 0 ≤ w) {g0 : Int} {G0 : mu_G} {I0 : mu_M} (h : ∀ (G1 : mu_G) (I1 : mu_M), gz G1 = w + 31 → gu G1 = g0 + 96 → KG G0 G1 w → KI I0 I1 w → GW G1 w → ZW I1 w → (∀ b, w + 31 ≤ b → sh G1 b = sh G0 b) → Q 0 G1 I1) : ∀ (n : Nat) (i : Int) (G3 : mu_G) (I4 : mu_M), i + n = 4 → 0 ≤ i → gz G3 = w + 11 + 5 * i → gu G3 = g0 + 24 * i → KG G0 G3 w → KI I0 I4 w → GW0 G3 w → (∀ m, 0 ≤ m → m < i → rf G3 (w + 9) m = w + 11 + 5 * m ∧ GP G3 (w + 11 + 5 * m)) → ZW0 I4 w → (∀ m, 0 ≤ m → m < i → I4 (w + 11 + 5 * m) 0 = m) → (∀ b, w + 11 + 5 * i ≤ b → sh G3 b = sh G0 b) → mu_WP mu_code d 69 53 [(1, w), (0, i)] [] G3 I4 Q := by
  intro n
  induction n with
  | zero =>
    intro i G3 I4 hi i0 hz3 hu3 k3 ki3 g3 p3 z3 n3 v3
    obtain ⟨a1, a2, a3, a4, a5, a6, a7, a8, a9⟩ := g3
    obtain ⟨b1, b2, b3, b4, b5, b6⟩ := z3
    exact vc_69_53 (by omega) _ _ ⟨fun h1 => absurd h1 (by omega), fun _ => h G3 I4 (by omega) (by omega) k3 ki3 ⟨a1, a2, a3, a4, a5, a6, a7, a8, a9, fun m m0 m1 => p3 m m0 (by omega)⟩ ⟨b1, b2, b3, b4, b5, b6, fun m m0 m1 => n3 m m0 (by omega)⟩ (fun b hb => v3 b (by omega))⟩
  | succ n ih =>
    intro i G3 I4 hi i0 hz3 hu3 k3 ki3 g3 p3 z3 n3 v3
    obtain ⟨a1, a2, a3, a4, a5, a6, a7, a8, a9⟩ := g3
    obtain ⟨b1, b2, b3, b4, b5, b6⟩ := z3
    refine vc_69_53 (by omega) _ _ ⟨fun _ => ⟨a1, ?_⟩, fun h1 => absurd (by omega) h1⟩
    intro G5 e5 I6 e6
    rw [hz3, a4, wr_id (x := i + 1) (by omega) (by omega)]
    have z5 : gz G5 = w + 11 + 5 * i + 1 := by rw [e5, gz_gnew, hz3]
    have s5 : sh G5 (w + 11 + 5 * i) = (2, 0) := by rw [e5, sh_gnew, if_pos hz3.symm]
    have i6 : ∀ j, I6 (w + 11 + 5 * i) j = 0 := fun j => by rw [e6, mu_inew_at, if_pos hz3.symm]
    have pos : 0 ≤ w + 11 + 5 * i := by omega
    generalize hA : w + 11 + 5 * i = A at *
    refine ⟨s5, n_PersonX (a := A) (x := i) (by omega) pos z5 s5 i6 ?_⟩
    intro G7 I8 z7 u7 k7 ki7 gp7 _ _ n7 _ v7
    have lo : ∀ b, b < A → sh G7 b = sh G3 b ∧ ∀ j, rf G7 b j = rf G3 b j := fun b hb => ⟨by rw [(k7 b hb).1, e5, sh_gnew, if_neg (by omega)], fun j => by rw [(k7 b hb).2, e5, rf_gnew, if_neg (by omega)]⟩
    have li : ∀ b, b < A → ∀ j, I8 b j = I4 b j := fun b hb j => by rw [ki7 b hb, e6, mu_inew_at, if_neg (by omega)]
    refine ⟨⟨by rw [(lo (w + 9) (by omega)).1, a8], i0, by rw [(lo (w + 9) (by omega)).1, a8]; dsimp only; omega, by
      have := gp7.1
      exact this⟩, ?_⟩
    intro G10 e10
    have ls : ∀ b, sh G10 b = sh G7 b := fun b => by rw [e10, sh_grf]
    have lr : ∀ b j, b ≠ w + 9 → rf G10 b j = rf G7 b j := fun b j hb => by rw [e10, rf_grf, if_neg (by omega)]
    refine ih (i + 1) G10 I8 (by omega) (by omega) (by rw [e10, gz_grf, z7]; omega) (by rw [e10, gu_grf, u7, e5, gu_gnew, hu3]; omega) (fun b hb => ⟨by rw [ls, (lo b (by omega)).1, (k3 b hb).1], fun j => by rw [lr b j (by omega), (lo b (by omega)).2, (k3 b hb).2]⟩) (fun b hb j => by rw [li b (by omega), ki3 b hb]) ⟨?_, ?_, ?_, ?_, ?_, ?_, ?_, ?_, ?_⟩ ?_ ⟨?_, ?_, ?_, ?_, ?_, ?_⟩ ?_ (fun b hb => by rw [ls, v7 b (by omega), e5, sh_gnew, if_neg (by omega)]; exact v3 b (by omega))
    · rw [ls, (lo _ (by omega)).1]; exact a1
    · rw [lr _ _ (by omega), (lo _ (by omega)).2]; exact a2
    · rw [lr _ _ (by omega), (lo _ (by omega)).2]; exact a3
    · rw [lr _ _ (by omega), (lo _ (by omega)).2]; exact a4
    · rw [lr _ _ (by omega), (lo _ (by omega)).2]; exact a5
    · exact a6.at (fun b h1 h2 => ⟨by rw [ls, (lo b (by omega)).1], fun j => by rw [lr b j (by omega), (lo b (by omega)).2]⟩)
    · rw [ls, (lo _ (by omega)).1]; exact a7
    · rw [ls, (lo _ (by omega)).1]; exact a8
    · rw [ls, (lo _ (by omega)).1]; exact a9
    · intro m m0 m1
      by_cases hm : m = i
      · rw [hm, hA]
        exact ⟨by rw [e10, rf_grf, if_pos ⟨rfl, rfl⟩], gp7.at (fun b h1 h2 => ⟨ls b, fun j => lr b j (by omega)⟩)⟩
      · obtain ⟨p1, p2⟩ := p3 m m0 (by omega)
        exact ⟨by rw [e10, rf_grf, if_neg (by omega), (lo _ (by omega)).2]; exact p1, p2.at (fun b h1 h2 => ⟨by rw [ls, (lo b (by omega)).1], fun j => by rw [lr b j (by omega), (lo b (by omega)).2]⟩)⟩
    · rw [li _ (by omega)]; exact b1
    · rw [li _ (by omega)]; exact b2
    · rw [li _ (by omega)]; exact b3
    · rw [li _ (by omega)]; exact b4
    · intro j; rw [li _ (by omega)]; exact b5 j
    · rw [li _ (by omega)]; exact b6
    · intro m m0 m1
      by_cases hm : m = i
      · rw [hm, hA]; exact n7
      · rw [li _ (by omega)]; exact n3 m m0 (by omega)
theorem n_WorldB {w : Int} (ha : 0 ≤ w) {G6 : mu_G} {I7 : mu_M} (z6 : gz G6 = w + 8) (hs : sh G6 w = (10, 0)) (gl6 : GL G6 (w + 1)) (j5 : I7 w 5 = 0) (j6 : I7 w 6 = 0) (j1 : I7 (w + 1) 0 = 0)
  (h : ∀ (G32 : mu_G) (I30 : mu_M), gz G32 = w + 11 → gu G32 = gu G6 + 74 → KG G6 G32 w → KI I7 I30 w → GW0 G32 w → ZW0 I30 w → (∀ b, w + 11 ≤ b → sh G32 b = sh G6 b) → mu_WP mu_code d 69 53 [(1, w), (0, 0)] [] G32 I30 Q) :
  sh G6 w = (10, 0) ∧ (∀ G9 : mu_G, G9 = mu_grf G6 w 0 (w + 1) → sh G9 w = (10, 0) ∧ (∀ I12 : mu_M, I12 = mu_set I7 w 1 6 → (∀ I15 : mu_M, I15 = mu_set I12 w 2 6 → (∀ G17 : mu_G, G17 = mu_gnew G9 101 64 64 → ∀ I18 : mu_M, I18 = mu_inew G9 I15 → sh G17 w = (10, 0) ∧ (∀ G20 : mu_G, G20 = mu_grf G17 w 3 (gz G9) → (∀ G23 : mu_G, G23 = mu_gnew G20 102 4 4 → ∀ I24 : mu_M, I24 = mu_inew G20 I18 → sh G23 w = (10, 0) ∧ (∀ G26 : mu_G, G26 = mu_grf G23 w 4 (gz G20) → (∀ G29 : mu_G, G29 = mu_gnew G26 100 6 6 → ∀ I30 : mu_M, I30 = mu_inew G26 I24 → sh G29 w = (10, 0) ∧ (∀ G32 : mu_G, G32 = mu_grf G29 w 7 (gz G26) → mu_WP mu_code d 69 53 [(1, w), (0, 0)] [] G32 I30 Q))))))))) := by
  refine ⟨hs, ?_⟩
  intro G9 e9
  have z9 : gz G9 = w + 8 := by rw [e9, gz_grf, z6]
  refine ⟨by rw [e9, sh_grf]; exact hs, ?_⟩
  intro I12 e12 I15 e15 G17 e17 I18 e18
  have z17 : gz G17 = w + 9 := by rw [e17, gz_gnew, z9]; omega
  refine ⟨by rw [e17, sh_gnew, if_neg (by omega), e9, sh_grf]; exact hs, ?_⟩
  intro G20 e20
  rw [z9] at e20
  have z20 : gz G20 = w + 9 := by rw [e20, gz_grf, z17]
  intro G23 e23 I24 e24
  have z23 : gz G23 = w + 10 := by rw [e23, gz_gnew, z20]; omega
  refine ⟨by rw [e23, sh_gnew, if_neg (by omega), e20, sh_grf, e17, sh_gnew, if_neg (by omega), e9, sh_grf]; exact hs, ?_⟩
  intro G26 e26
  rw [z20] at e26
  have z26 : gz G26 = w + 10 := by rw [e26, gz_grf, z23]
  intro G29 e29 I30 e30
  have z29 : gz G29 = w + 11 := by rw [e29, gz_gnew, z26]; omega
  have sG : ∀ b, sh G29 b = if b = w + 10 then (100, 6) else if b = w + 9 then (102, 4) else if b = w + 8 then (101, 64) else sh G6 b := by
    intro b
    rw [e29, sh_gnew, z26, e26, sh_grf, e23, sh_gnew, z20, e20, sh_grf, e17, sh_gnew, z9, e9, sh_grf]
  refine ⟨by rw [sG, if_neg (by omega), if_neg (by omega), if_neg (by omega)]; exact hs, ?_⟩
  intro G32 e32
  rw [z26] at e32
  have z32 : gz G32 = w + 11 := by rw [e32, gz_grf, z29]
  have u32 : gu G32 = gu G6 + 74 := by rw [e32, gu_grf, e29, gu_gnew, e26, gu_grf, e23, gu_gnew, e20, gu_grf, e17, gu_gnew, e9, gu_grf]; omega
  have s32 : ∀ b, sh G32 b = if b = w + 10 then (100, 6) else if b = w + 9 then (102, 4) else if b = w + 8 then (101, 64) else sh G6 b := fun b => by rw [e32, sh_grf, sG]
  have r32 : ∀ b j, b < w + 8 → rf G32 b j = if b = w ∧ j = 7 then w + 10 else if b = w ∧ j = 4 then w + 9 else if b = w ∧ j = 3 then w + 8 else if b = w ∧ j = 0 then w + 1 else rf G6 b j := by
    intro b j hb
    rw [e32, rf_grf, e29, rf_gnew, if_neg (show ¬ b = gz G26 by omega), e26, rf_grf, e23, rf_gnew, if_neg (show ¬ b = gz G20 by omega), e20, rf_grf, e17, rf_gnew, if_neg (show ¬ b = gz G9 by omega), e9, rf_grf]
  have iL : ∀ b j, b < w + 8 → I30 b j = if b = w ∧ j = 2 then 6 else if b = w ∧ j = 1 then 6 else I7 b j := by
    intro b j hb
    rw [e30, mu_inew_at, if_neg (by omega), e24, mu_inew_at, if_neg (by omega), e18, mu_inew_at, if_neg (by omega), e15, mu_set_at, e12, mu_set_at]
  have i8 : ∀ j, I30 (w + 8) j = 0 := by
    intro j
    rw [e30, mu_inew_at, if_neg (by omega), e24, mu_inew_at, if_neg (by omega), e18, mu_inew_at, if_pos (by omega)]
  have k32 : KG G6 G32 w := fun b hb => ⟨by rw [s32, if_neg (by omega), if_neg (by omega), if_neg (by omega)], fun j => by rw [r32 b j (by omega), if_neg (by omega), if_neg (by omega), if_neg (by omega), if_neg (by omega)]⟩
  have ki32 : KI I7 I30 w := fun b hb j => by rw [iL b j (by omega), if_neg (by omega), if_neg (by omega)]
  have gl32 : GL G32 (w + 1) := gl6.at (fun b h1 h2 => ⟨by rw [s32, if_neg (by omega), if_neg (by omega), if_neg (by omega)], fun j => by rw [r32 b j (by omega), if_neg (by omega), if_neg (by omega), if_neg (by omega), if_neg (by omega)]⟩)
  clear e9 e12 e15 e17 e18 e20 e23 e24 e26 e29 e30 e32 sG
  refine h G32 I30 z32 u32 k32 ki32 ⟨?_, ?_, ?_, ?_, ?_, gl32, ?_, ?_, ?_⟩ ⟨?_, ?_, ?_, ?_, i8, ?_⟩ (fun b hb => by rw [s32, if_neg (by omega), if_neg (by omega), if_neg (by omega)])
  · rw [s32, if_neg (by omega), if_neg (by omega), if_neg (by omega)]; exact hs
  · rw [r32 w 0 (by omega), if_neg (by omega), if_neg (by omega), if_neg (by omega), if_pos ⟨rfl, rfl⟩]
  · rw [r32 w 3 (by omega), if_neg (by omega), if_neg (by omega), if_pos ⟨rfl, rfl⟩]
  · rw [r32 w 4 (by omega), if_neg (by omega), if_pos ⟨rfl, rfl⟩]
  · rw [r32 w 7 (by omega), if_pos ⟨rfl, rfl⟩]
  · rw [s32, if_neg (by omega), if_neg (by omega), if_pos rfl]
  · rw [s32, if_neg (by omega), if_pos rfl]
  · rw [s32, if_pos rfl]
  · rw [iL w 1 (by omega), if_neg (by omega), if_pos ⟨rfl, rfl⟩]
  · rw [iL w 2 (by omega), if_pos ⟨rfl, rfl⟩]
  · rw [iL w 5 (by omega), if_neg (by omega), if_neg (by omega)]; exact j5
  · rw [iL w 6 (by omega), if_neg (by omega), if_neg (by omega)]; exact j6
  · rw [iL (w + 1) 0 (by omega), if_neg (by omega), if_neg (by omega)]; exact j1
theorem n_World0 (hd : d + 2 < 1000) {w : Int} (ha : 0 ≤ w) (hz : gz G = w + 1) (hs : sh G w = (10, 0)) (h0 : ∀ j, I w j = 0)
  (h : ∀ (G32 : mu_G) (I30 : mu_M), gz G32 = w + 11 → gu G32 = gu G + 325 → KG G G32 w → KI I I30 w → GW0 G32 w → ZW0 I30 w → (∀ b, w + 11 ≤ b → sh G32 b = sh G b) → mu_WP mu_code d 69 53 [(1, w), (0, 0)] [] G32 I30 Q) : mu_WP mu_code d 69 0 [(1, w), (3, 0)] [] G I Q := by
  refine vc_69_0 (by omega) _ ⟨ha, ?_⟩
  intro G2 e2 I3 e3
  rw [hz]
  have z2 : gz G2 = w + 2 := by rw [e2, gz_gnew, hz]; omega
  refine ⟨by rw [e2, sh_gnew, hz, if_pos rfl], n_LawX (by omega) (a := w + 1) (by omega) (by omega) (by rw [e2, sh_gnew, hz, if_pos rfl]) (fun j => by rw [e3, mu_inew_at, hz, if_pos rfl]) ?_⟩
  intro G6 I7 z6 u6 kg6 ki6 gl6 zi6 v6
  have s6 : ∀ b, b < w + 1 → sh G6 b = sh G b := fun b hb => by rw [(kg6 b hb).1, e2, sh_gnew, hz, if_neg (by omega)]
  have r6 : ∀ b j, b < w + 1 → rf G6 b j = rf G b j := fun b j hb => by rw [(kg6 b hb).2, e2, rf_gnew, hz, if_neg (by omega)]
  have i7 : ∀ b j, b < w + 1 → I7 b j = I b j := fun b j hb => by rw [ki6 b hb, e3, mu_inew_at, hz, if_neg (by omega)]
  have u6' : gu G6 = gu G + 251 := by rw [u6, e2, gu_gnew]; omega
  refine n_WorldB ha (by omega) (by rw [s6 w (by omega)]; exact hs) gl6 (by rw [i7 w 5 (by omega)]; exact h0 5) (by rw [i7 w 6 (by omega)]; exact h0 6) (zi6 _ _ (by omega) (by omega)) ?_
  intro G32 I30 z32 u32 k32 ki32 g32 z30 v32
  exact h G32 I30 z32 (by omega) (fun b hb => ⟨by rw [(k32 b hb).1, s6 b (by omega)], fun j => by rw [(k32 b hb).2, r6 b j (by omega)]⟩) (fun b hb j => by rw [ki32 b hb, i7 b j (by omega)]) g32 z30 (fun b hb => by rw [v32 b hb, v6 b (by omega), e2, sh_gnew, if_neg (by omega)])
theorem n_World (hd : d + 2 < 1000) {w : Int} (ha : 0 ≤ w) (hz : gz G = w + 1) (hs : sh G w = (10, 0)) (h0 : ∀ j, I w j = 0)
  (h : ∀ (G1 : mu_G) (I1 : mu_M), gz G1 = w + 31 → gu G1 = gu G + 421 → KG G G1 w → KI I I1 w → GW G1 w → ZW I1 w → (∀ b, w + 31 ≤ b → sh G1 b = sh G b) → Q 0 G1 I1) : mu_WP mu_code d 69 0 [(1, w), (3, 0)] [] G I Q := by
  refine n_World0 hd ha hz hs h0 ?_
  intro G32 I30 z32 u32 k32 ki32 g32 z30 v32
  exact n_People (g0 := gu G + 325) hd ha (fun G1 I1 a1 a2 a3 a4 a5 a6 a7 => h G1 I1 a1 (by omega) a3 a4 a5 a6 a7) 4 0 G32 I30 (by omega) (by omega) (by omega) (by omega) k32 ki32 g32 (fun m m0 m1 => by omega) z30 (fun m m0 m1 => by omega) (fun b hb => v32 b (by omega))
end

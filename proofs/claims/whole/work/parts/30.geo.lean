/-! WHERE EVERYTHING STANDS: the law's own cells by number -/
def GL (G : mu_G) (a : Int) : Prop := sh G a = (1, 0) ∧ rf G a 1 = a + 1 ∧ rf G a 2 = a + 2 ∧ rf G a 3 = a + 3 ∧ rf G a 4 = a + 4 ∧ rf G a 5 = a + 5 ∧ rf G a 7 = a + 6 ∧ sh G (a + 1) = (100, 10) ∧ sh G (a + 2) = (100, 10) ∧ sh G (a + 3) = (100, 10) ∧ sh G (a + 4) = (100, 10) ∧ sh G (a + 5) = (100, 100) ∧ sh G (a + 6) = (100, 100)
def GO (G : mu_G) (a n : Int) : Prop := sh G a = (5, 0) ∧ rf G a 0 = a + 1 ∧ sh G (a + 1) = (100, n)
def GP (G : mu_G) (a : Int) : Prop := sh G a = (2, 0) ∧ rf G a 7 = a + 2 ∧ rf G a 8 = a + 3 ∧ rf G a 9 = a + 4 ∧ sh G (a + 2) = (100, 4) ∧ sh G (a + 3) = (100, 3) ∧ sh G (a + 4) = (100, 3)
def GW (G : mu_G) (w : Int) : Prop := sh G w = (10, 0) ∧ rf G w 0 = w + 1 ∧ rf G w 3 = w + 8 ∧ rf G w 4 = w + 9 ∧ rf G w 7 = w + 10 ∧ GL G (w + 1) ∧ sh G (w + 8) = (101, 64) ∧ sh G (w + 9) = (102, 4) ∧ sh G (w + 10) = (100, 6) ∧ ∀ i : Int, 0 ≤ i → i < 4 → rf G (w + 9) i = w + 11 + 5 * i ∧ GP G (w + 11 + 5 * i)
/-- what is below z is as it was -/
def KG (G G1 : mu_G) (z : Int) : Prop := ∀ b : Int, b < z → sh G1 b = sh G b ∧ ∀ j : Int, rf G1 b j = rf G b j
def KI (I I1 : mu_M) (z : Int) : Prop := ∀ b : Int, b < z → ∀ j : Int, I1 b j = I b j
theorem KG.tr {G G1 G2 : mu_G} {z y : Int} (h : KG G G1 z) (h2 : KG G1 G2 y) (hz : z ≤ y) : KG G G2 z := fun b hb => ⟨by rw [(h2 b (by omega)).1, (h b hb).1], fun j => by rw [(h2 b (by omega)).2, (h b hb).2]⟩
theorem KI.tr {I I1 I2 : mu_M} {z y : Int} (h : KI I I1 z) (h2 : KI I1 I2 y) (hz : z ≤ y) : KI I I2 z := fun b hb j => by rw [h2 b (by omega), h b hb]
theorem KG.lo {G G1 : mu_G} {z y : Int} (h : KG G G1 z) (hz : y ≤ z) : KG G G1 y := fun b hb => h b (by omega)
theorem KI.lo {I I1 : mu_M} {z y : Int} (h : KI I I1 z) (hz : y ≤ z) : KI I I1 y := fun b hb => h b (by omega)
theorem GP.keep {G G1 : mu_G} {a z : Int} (h : GP G a) (hk : KG G G1 z) (hz : a + 5 ≤ z) : GP G1 a := by
  unfold GP at h ⊢
  obtain ⟨h1, h2, h3, h4, h5, h6, h7⟩ := h
  refine ⟨?_, ?_, ?_, ?_, ?_, ?_, ?_⟩
  · rw [(hk a (by omega)).1, h1]
  · rw [(hk a (by omega)).2, h2]
  · rw [(hk a (by omega)).2, h3]
  · rw [(hk a (by omega)).2, h4]
  · rw [(hk (a + 2) (by omega)).1, h5]
  · rw [(hk (a + 3) (by omega)).1, h6]
  · rw [(hk (a + 4) (by omega)).1, h7]
theorem GL.keep {G G1 : mu_G} {a z : Int} (h : GL G a) (hk : KG G G1 z) (hz : a + 7 ≤ z) : GL G1 a := by
  unfold GL at h ⊢
  obtain ⟨h1, h2, h3, h4, h5, h6, h7, h8, h9, h10, h11, h12, h13⟩ := h
  refine ⟨?_, ?_, ?_, ?_, ?_, ?_, ?_, ?_, ?_, ?_, ?_, ?_, ?_⟩
  · rw [(hk a (by omega)).1, h1]
  · rw [(hk a (by omega)).2, h2]
  · rw [(hk a (by omega)).2, h3]
  · rw [(hk a (by omega)).2, h4]
  · rw [(hk a (by omega)).2, h5]
  · rw [(hk a (by omega)).2, h6]
  · rw [(hk a (by omega)).2, h7]
  · rw [(hk (a + 1) (by omega)).1, h8]
  · rw [(hk (a + 2) (by omega)).1, h9]
  · rw [(hk (a + 3) (by omega)).1, h10]
  · rw [(hk (a + 4) (by omega)).1, h11]
  · rw [(hk (a + 5) (by omega)).1, h12]
  · rw [(hk (a + 6) (by omega)).1, h13]
theorem GO.keep {G G1 : mu_G} {a n z : Int} (h : GO G a n) (hk : KG G G1 z) (hz : a + 2 ≤ z) : GO G1 a n := by
  unfold GO at h ⊢
  obtain ⟨h1, h2, h3⟩ := h
  refine ⟨?_, ?_, ?_⟩
  · rw [(hk a (by omega)).1, h1]
  · rw [(hk a (by omega)).2, h2]
  · rw [(hk (a + 1) (by omega)).1, h3]
theorem GW.keep {G G1 : mu_G} {w z : Int} (h : GW G w) (hk : KG G G1 z) (hz : w + 31 ≤ z) : GW G1 w := by
  unfold GW at h ⊢
  obtain ⟨h1, h2, h3, h4, h5, h6, h7, h8, h9, h10⟩ := h
  refine ⟨?_, ?_, ?_, ?_, ?_, h6.keep hk (by omega), ?_, ?_, ?_, fun i i0 i4 => ⟨?_, (h10 i i0 i4).2.keep hk (by omega)⟩⟩
  · rw [(hk w (by omega)).1, h1]
  · rw [(hk w (by omega)).2, h2]
  · rw [(hk w (by omega)).2, h3]
  · rw [(hk w (by omega)).2, h4]
  · rw [(hk w (by omega)).2, h5]
  · rw [(hk (w + 8) (by omega)).1, h7]
  · rw [(hk (w + 9) (by omega)).1, h8]
  · rw [(hk (w + 10) (by omega)).1, h9]
  · rw [(hk (w + 9) (by omega)).2, (h10 i i0 i4).1]
section
variable {d : Nat} {G : mu_G} {I : mu_M} {Q : Int → mu_G → mu_M → Prop}
theorem n_Law (hd : d < 1000) {a : Int} (ha : 0 ≤ a) (hz : gz G = a + 1) (hw : sh G a = (1, 0)) (h0 : ∀ j, I a j = 0)
  (h : ∀ (G1 : mu_G) (I1 : mu_M), gz G1 = a + 7 → gu G1 = gu G + 240 → KG G G1 a → KI I I1 a → GL G1 a → (∀ b j, a ≤ b → b < a + 7 → I1 b j = 0) → Q 0 G1 I1) : mu_WP mu_code d 3 0 [(1, a)] [] G I Q := by
  refine vc_3_0 hd _ ?_
  refine ⟨ha, ?_⟩
  intro G2 e2 I3 e3
  refine ⟨by subst_vars; simp only [gz_grf, gz_gnew, sh_grf, sh_gnew]; grind, ?_⟩
  intro G5 e5 G8 e8 I9 e9
  refine ⟨by subst_vars; simp only [gz_grf, gz_gnew, sh_grf, sh_gnew]; grind, ?_⟩
  intro G11 e11 G14 e14 I15 e15
  refine ⟨by subst_vars; simp only [gz_grf, gz_gnew, sh_grf, sh_gnew]; grind, ?_⟩
  intro G17 e17 G20 e20 I21 e21
  refine ⟨by subst_vars; simp only [gz_grf, gz_gnew, sh_grf, sh_gnew]; grind, ?_⟩
  intro G23 e23 G26 e26 I27 e27
  refine ⟨by subst_vars; simp only [gz_grf, gz_gnew, sh_grf, sh_gnew]; grind, ?_⟩
  intro G29 e29 G32 e32 I33 e33
  refine ⟨by subst_vars; simp only [gz_grf, gz_gnew, sh_grf, sh_gnew]; grind, ?_⟩
  intro G35 e35
  have h0' : ∀ b j, b = a → I b j = 0 := fun b j e => e ▸ h0 j
  clear hd
  apply h <;> clear h <;> (subst_vars; simp only [KG, KI, GL, gu_gnew, gu_grf, gz_grf, gz_gnew, sh_grf, sh_gnew, rf_gnew, rf_grf, mu_inew_at] <;> grind (splits := 60))
theorem n_Rows (hd : d < 1000) {a n : Int} (ha : 0 ≤ a) (hn : 0 ≤ n ∧ n ≤ 1000) (hz : gz G = a + 1) (hw : sh G a = (5, 0)) (h0 : ∀ j, I a j = 0)
  (h : ∀ (G1 : mu_G) (I1 : mu_M), gz G1 = a + 2 → gu G1 = gu G + n → KG G G1 a → KI I I1 a → GO G1 a n → (∀ b j, a ≤ b → b < a + 2 → I1 b j = 0) → Q 0 G1 I1) : mu_WP mu_code d 47 0 [(1, a), (0, n)] [] G I Q := by
  refine vc_47_0 hd _ _ ?_
  rw [if_neg (show ¬ n < 0 by omega)]
  refine ⟨ha, hn, ?_⟩
  intro G2 e2 I3 e3
  refine ⟨by subst_vars; simp only [gz_grf, gz_gnew, sh_grf, sh_gnew]; grind, ?_⟩
  intro G5 e5
  have h0' : ∀ b j, b = a → I b j = 0 := fun b j e => e ▸ h0 j
  clear hd
  apply h <;> clear h <;> (subst_vars; simp only [KG, KI, GO, gu_gnew, gu_grf, gz_grf, gz_gnew, sh_grf, sh_gnew, rf_gnew, rf_grf, mu_inew_at] <;> grind (splits := 60))
theorem n_Walker (hd : d < 1000) {a x : Int} (ha : 0 ≤ a) (hw : mu_wk (sh G a)) (h : Q 0 G (mu_set I a 0 x)) : mu_WP mu_code d 62 0 [(1, a), (0, x)] [] G I Q := vc_62_0 hd _ _ ⟨ha, hw, fun I2 e2 => e2 ▸ h⟩
theorem n_Person (hd : d + 1 < 1000) {a x : Int} (ha : 0 ≤ a) (hz : gz G = a + 1) (hw : sh G a = (2, 0)) (h0 : ∀ j, I a j = 0)
  (h : ∀ (G1 : mu_G) (I1 : mu_M), gz G1 = a + 5 → gu G1 = gu G + 11 → KG G G1 a → KI I I1 a → GP G1 a → rf G1 a 1 = a + 1 → sh G1 (a + 1) = (9, 0) → I1 a 0 = x → (∀ b j, a ≤ b → b < a + 5 → (b ≠ a ∨ j ≠ 0) → I1 b j = 0) → Q 0 G1 I1) : mu_WP mu_code d 22 0 [(1, a), (0, x)] [] G I Q := by
  refine vc_22_0 (by omega) _ _ ?_
  refine ⟨ha, ?_⟩
  intro G2 e2 I3 e3
  refine ⟨by subst_vars; simp only [sh_gnew]; grind, ?_⟩
  refine n_Walker hd (by omega) (by subst_vars; unfold mu_wk; simp only [sh_gnew]; grind) ?_
  refine ⟨by subst_vars; simp only [gz_grf, gz_gnew, sh_grf, sh_gnew]; grind, ?_⟩
  intro G9 e9 G12 e12 I13 e13
  refine ⟨by subst_vars; simp only [gz_grf, gz_gnew, sh_grf, sh_gnew]; grind, ?_⟩
  intro G15 e15 G18 e18 I19 e19
  refine ⟨by subst_vars; simp only [gz_grf, gz_gnew, sh_grf, sh_gnew]; grind, ?_⟩
  intro G21 e21 G24 e24 I25 e25
  refine ⟨by subst_vars; simp only [gz_grf, gz_gnew, sh_grf, sh_gnew]; grind, ?_⟩
  intro G27 e27
  refine ⟨by subst_vars; simp only [gz_grf, gz_gnew, sh_grf, sh_gnew]; grind, ?_⟩
  intro I30 e30
  have h0' : ∀ b j, b = a → I b j = 0 := fun b j e => e ▸ h0 j
  clear hd
  apply h <;> clear h <;> (subst_vars; simp only [KG, KI, GP, gu_gnew, gu_grf, gz_grf, gz_gnew, sh_grf, sh_gnew, rf_gnew, rf_grf, mu_inew_at, mu_set_at] <;> grind (splits := 60))
end

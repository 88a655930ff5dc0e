/-! THE LOOP OF THE LAW: its calls -/
theorem mu_cmp_rf (a : Int) : mu_cmp a a = 0 := by unfold mu_cmp; simp
section
variable {d : Nat} {u0 c N x : Int} {G : mu_G} {I : mu_M} {Q : Int → mu_G → mu_M → Prop} {S M : Row} {L : List Int}
theorem lp_172 (hd : d < 800) (hS : SF N G I) (hR : RR u0 c G I S M L) (hx : 0 ≤ x ∧ x + 5 ≤ N ∧ N ≤ 100000) (h : ∀ G1 I1 S1 M1 L1, SF N G1 I1 → RR u0 (c + 1) G1 I1 S1 M1 L1 → mu_WP mu_code d 229 1113 [(1, -2), (1, 0), (1, 115), (0, x)] [] G1 I1 Q) : mu_WP mu_code d 229 172 [(1, -2), (1, 0), (1, 115), (0, x)] [] G I Q := by
  obtain ⟨hG, hX, hO, ⟨s1, s2, s3⟩, hm, hz⟩ := id hR
  obtain ⟨o1, o2, o3, o4, o5, o6, o7, o8, o9, o10, o11⟩ := id hO
  have gM : MR G := hG.2.2.2.2.2.2.2.1
  refine vc_229_172 (by omega) _ _ _ _ ?_
  rw [wr_id (x := x + 1) (by omega) (by omega), hS.1]
  refine ⟨⟨rfl, by omega, by dsimp only; omega⟩, hG.1.1, c_feed (by omega) hG hX hO _ ?_⟩
  intro I1 f1 c1
  have fg : FXg G G I I1 := f1.g
  have g1 := hG
  obtain ⟨m1, m2, m3⟩ := hR.mid fg
  have gM1 : MR G := g1.2.2.2.2.2.2.2.1
  have hS1 := hS.fxg hG fg
  have n1 : I1 (-2) = I (-2) := fg.1 (-2) (by omega)
  rw [n1, hS1.1]
  refine ⟨⟨rfl, by omega, by dsimp only; omega⟩, gM1.1, r_feed (by omega) gM1 _ (by rw [m1]; exact o9) ?_⟩
  intro I2 f2 r2
  rw [m1] at r2 ⊢
  exact ⟨fun _ => h G I2 _ M L (hS1.q (FE.q f2.fe)) (hR.next g1 fg c1 hO.feed (FE.q f2.fe) r2 (m2.fe f2.fe) s3), fun hne => absurd rfl hne⟩
theorem lp_208 (hd : d < 800) (hS : SF N G I) (hR : RR u0 c G I S M L) (hx : 0 ≤ x ∧ x + 5 ≤ N ∧ N ≤ 100000) (h : ∀ G1 I1 S1 M1 L1, SF N G1 I1 → RR u0 (c + 1) G1 I1 S1 M1 L1 → mu_WP mu_code d 229 1113 [(1, -2), (1, 0), (1, 115), (0, x)] [] G1 I1 Q) : mu_WP mu_code d 229 208 [(1, -2), (1, 0), (1, 115), (0, x)] [] G I Q := by
  obtain ⟨hG, hX, hO, ⟨s1, s2, s3⟩, hm, hz⟩ := id hR
  obtain ⟨o1, o2, o3, o4, o5, o6, o7, o8, o9, o10, o11⟩ := id hO
  have gM : MR G := hG.2.2.2.2.2.2.2.1
  refine vc_229_208 (by omega) _ _ _ _ ?_
  rw [wr_id (x := x + 1) (by omega) (by omega), wr_id (x := x + 2) (by omega) (by omega), hS.1]
  refine ⟨⟨rfl, by omega, by dsimp only; omega⟩, ⟨rfl, by omega, by dsimp only; omega⟩, hG.1.1, c_valley (by omega) hG hX hO _ _ ?_⟩
  intro I1 f1 c1
  have fg : FXg G G I I1 := f1.g
  have g1 := hG
  obtain ⟨m1, m2, m3⟩ := hR.mid fg
  have gM1 : MR G := g1.2.2.2.2.2.2.2.1
  have hS1 := hS.fxg hG fg
  have n1 : I1 (-2) = I (-2) := fg.1 (-2) (by omega)
  rw [n1, hS1.1]
  refine ⟨⟨rfl, by omega, by dsimp only; omega⟩, ⟨rfl, by omega, by dsimp only; omega⟩, gM1.1, r_valley (by omega) gM1 _ _ (by rw [m1]; exact o1) ?_⟩
  intro I2 f2 r2
  rw [m1] at r2 ⊢
  exact ⟨fun _ => h G I2 _ M L (hS1.q (FE.q f2.fe)) (hR.next g1 fg c1 hO.valley (FE.q f2.fe) r2 (m2.fe f2.fe) s3), fun hne => absurd rfl hne⟩
theorem lp_290 (hd : d < 800) (hS : SF N G I) (hR : RR u0 c G I S M L) (hx : 0 ≤ x ∧ x + 5 ≤ N ∧ N ≤ 100000) (h : ∀ G1 I1 S1 M1 L1, SF N G1 I1 → RR u0 (c + 1) G1 I1 S1 M1 L1 → mu_WP mu_code d 229 1113 [(1, -2), (1, 0), (1, 115), (0, x)] [] G1 I1 Q) : mu_WP mu_code d 229 290 [(1, -2), (1, 0), (1, 115), (0, x)] [] G I Q := by
  obtain ⟨hG, hX, hO, ⟨s1, s2, s3⟩, hm, hz⟩ := id hR
  obtain ⟨o1, o2, o3, o4, o5, o6, o7, o8, o9, o10, o11⟩ := id hO
  have gM : MR G := hG.2.2.2.2.2.2.2.1
  refine vc_229_290 (by omega) _ _ _ _ ?_
  rw [wr_id (x := x + 1) (by omega) (by omega), wr_id (x := x + 2) (by omega) (by omega), wr_id (x := x + 3) (by omega) (by omega), wr_id (x := x + 4) (by omega) (by omega), hS.1]
  refine ⟨⟨rfl, by omega, by dsimp only; omega⟩, ⟨rfl, by omega, by dsimp only; omega⟩, ⟨rfl, by omega, by dsimp only; omega⟩, ⟨rfl, by omega, by dsimp only; omega⟩, hG.1.1, c_person (by omega) hG hX hO _ _ _ _ ?_⟩
  intro G1 I1 g1 fg c1
  obtain ⟨m1, m2, m3⟩ := hR.mid fg
  have gM1 : MR G1 := g1.2.2.2.2.2.2.2.1
  have hS1 := hS.fxg hG fg
  have n1 : I1 (-2) = I (-2) := fg.1 (-2) (by omega)
  rw [n1, hS1.1]
  refine ⟨⟨rfl, by omega, by dsimp only; omega⟩, ⟨rfl, by omega, by dsimp only; omega⟩, ⟨rfl, by omega, by dsimp only; omega⟩, ⟨rfl, by omega, by dsimp only; omega⟩, gM1.1, r_person (by omega) gM1 _ _ _ _ (by rw [m1]; exact o1) ?_⟩
  intro I2 f2 r2
  rw [m1] at r2 ⊢
  exact ⟨fun _ => h G1 I2 _ M L (hS1.q (FE.q f2.fe)) (hR.next g1 fg c1 hO.person (FE.q f2.fe) r2 (m2.fe f2.fe) s3), fun hne => absurd rfl hne⟩
theorem lp_343 (hd : d < 800) (hS : SF N G I) (hR : RR u0 c G I S M L) (hx : 0 ≤ x ∧ x + 5 ≤ N ∧ N ≤ 100000) (h : ∀ G1 I1 S1 M1 L1, SF N G1 I1 → RR u0 (c + 1) G1 I1 S1 M1 L1 → mu_WP mu_code d 229 1113 [(1, -2), (1, 0), (1, 115), (0, x)] [] G1 I1 Q) : mu_WP mu_code d 229 343 [(1, -2), (1, 0), (1, 115), (0, x)] [] G I Q := by
  obtain ⟨hG, hX, hO, ⟨s1, s2, s3⟩, hm, hz⟩ := id hR
  obtain ⟨o1, o2, o3, o4, o5, o6, o7, o8, o9, o10, o11⟩ := id hO
  have gM : MR G := hG.2.2.2.2.2.2.2.1
  refine vc_229_343 (by omega) _ _ _ _ ?_
  rw [wr_id (x := x + 1) (by omega) (by omega), wr_id (x := x + 2) (by omega) (by omega), hS.1]
  refine ⟨⟨rfl, by omega, by dsimp only; omega⟩, ⟨rfl, by omega, by dsimp only; omega⟩, hG.1.1, c_of (by omega) hG hX hO _ _ (hS.2.1 _ (by omega) (by omega)) ?_⟩
  intro I1 f1 c1
  have fg : FXg G G I I1 := f1.g
  have g1 := hG
  obtain ⟨m1, m2, m3⟩ := hR.mid fg
  have gM1 : MR G := g1.2.2.2.2.2.2.2.1
  have hS1 := hS.fxg hG fg
  have n1 : I1 (-2) = I (-2) := fg.1 (-2) (by omega)
  rw [n1, hS1.1]
  refine ⟨⟨rfl, by omega, by dsimp only; omega⟩, ⟨rfl, by omega, by dsimp only; omega⟩, gM1.1, r_of (by omega) gM1 _ _ (by rw [m1]; exact o1) (by rw [m1]; exact o2) (hS.2.1 _ (by omega) (by omega)) ?_⟩
  intro I2 f2
  have r2 : I2 116 = I1 116 := f2.1 116 (by decide) (by decide) (by decide)
  rw [m1] at r2 ⊢
  exact ⟨fun _ => h G I2 _ M L (hS1.q (FE.q f2.fd.fe)) (hR.next g1 fg c1 hO (FE.q f2.fd.fe) r2 (m2.fe f2.fd.fe) s3), fun hne => absurd rfl hne⟩
theorem lp_376 (hd : d < 800) (hS : SF N G I) (hR : RR u0 c G I S M L) (hx : 0 ≤ x ∧ x + 5 ≤ N ∧ N ≤ 100000) (h : ∀ G1 I1 S1 M1 L1, SF N G1 I1 → RR u0 (c + 1) G1 I1 S1 M1 L1 → mu_WP mu_code d 229 1113 [(1, -2), (1, 0), (1, 115), (0, x)] [] G1 I1 Q) : mu_WP mu_code d 229 376 [(1, -2), (1, 0), (1, 115), (0, x)] [] G I Q := by
  obtain ⟨hG, hX, hO, ⟨s1, s2, s3⟩, hm, hz⟩ := id hR
  obtain ⟨o1, o2, o3, o4, o5, o6, o7, o8, o9, o10, o11⟩ := id hO
  have gM : MR G := hG.2.2.2.2.2.2.2.1
  refine vc_229_376 (by omega) _ _ _ _ ?_
  rw [wr_id (x := x + 1) (by omega) (by omega), wr_id (x := x + 2) (by omega) (by omega), wr_id (x := x + 3) (by omega) (by omega), hS.1]
  refine ⟨⟨rfl, by omega, by dsimp only; omega⟩, ⟨rfl, by omega, by dsimp only; omega⟩, ⟨rfl, by omega, by dsimp only; omega⟩, hG.1.1, c_owe (by omega) hG hX hO _ _ _ ?_⟩
  intro I1 f1 c1
  have fg : FXg G G I I1 := f1.g
  have g1 := hG
  obtain ⟨m1, m2, m3⟩ := hR.mid fg
  have gM1 : MR G := g1.2.2.2.2.2.2.2.1
  have hS1 := hS.fxg hG fg
  have n1 : I1 (-2) = I (-2) := fg.1 (-2) (by omega)
  rw [n1, hS1.1]
  refine ⟨⟨rfl, by omega, by dsimp only; omega⟩, ⟨rfl, by omega, by dsimp only; omega⟩, ⟨rfl, by omega, by dsimp only; omega⟩, gM1.1, r_owe (by omega) gM1 _ _ _ (by rw [m1]; exact o1) (by rw [m1]; exact o3) ?_⟩
  intro I2 f2 r2
  rw [m1] at r2 ⊢
  exact ⟨fun _ => h G I2 _ M L (hS1.q (FE.q f2.fe)) (hR.next g1 fg c1 hO.owe (FE.q f2.fe) r2 (m2.fe f2.fe) s3), fun hne => absurd rfl hne⟩
theorem lp_419 (hd : d < 800) (hS : SF N G I) (hR : RR u0 c G I S M L) (hx : 0 ≤ x ∧ x + 5 ≤ N ∧ N ≤ 100000) (h : ∀ G1 I1 S1 M1 L1, SF N G1 I1 → RR u0 (c + 1) G1 I1 S1 M1 L1 → mu_WP mu_code d 229 1113 [(1, -2), (1, 0), (1, 115), (0, x)] [] G1 I1 Q) : mu_WP mu_code d 229 419 [(1, -2), (1, 0), (1, 115), (0, x)] [] G I Q := by
  obtain ⟨hG, hX, hO, ⟨s1, s2, s3⟩, hm, hz⟩ := id hR
  obtain ⟨o1, o2, o3, o4, o5, o6, o7, o8, o9, o10, o11⟩ := id hO
  have gM : MR G := hG.2.2.2.2.2.2.2.1
  refine vc_229_419 (by omega) _ _ _ _ ?_
  rw [wr_id (x := x + 1) (by omega) (by omega), wr_id (x := x + 2) (by omega) (by omega), wr_id (x := x + 3) (by omega) (by omega), hS.1]
  refine ⟨⟨rfl, by omega, by dsimp only; omega⟩, ⟨rfl, by omega, by dsimp only; omega⟩, ⟨rfl, by omega, by dsimp only; omega⟩, hG.1.1, c_row (by omega) hG hX hO _ _ _ ?_⟩
  intro I1 f1 c1
  have fg : FXg G G I I1 := f1.g
  have g1 := hG
  obtain ⟨m1, m2, m3⟩ := hR.mid fg
  have gM1 : MR G := g1.2.2.2.2.2.2.2.1
  have hS1 := hS.fxg hG fg
  have n1 : I1 (-2) = I (-2) := fg.1 (-2) (by omega)
  rw [n1, hS1.1]
  refine ⟨⟨rfl, by omega, by dsimp only; omega⟩, ⟨rfl, by omega, by dsimp only; omega⟩, ⟨rfl, by omega, by dsimp only; omega⟩, gM1.1, r_row (by omega) gM1 _ _ _ (by rw [m1]; exact o1) ?_⟩
  intro I2 f2 r2
  rw [m1] at r2 ⊢
  exact ⟨fun _ => h G I2 _ M L (hS1.q (FE.q f2.fe)) (hR.next g1 fg c1 hO.row (FE.q f2.fe) r2 (m2.fe f2.fe) s3), fun hne => absurd rfl hne⟩
theorem lp_475 (hd : d < 800) (hS : SF N G I) (hR : RR u0 c G I S M L) (hx : 0 ≤ x ∧ x + 5 ≤ N ∧ N ≤ 100000) (h : ∀ G1 I1 S1 M1 L1, SF N G1 I1 → RR u0 (c + 1) G1 I1 S1 M1 L1 → mu_WP mu_code d 229 1113 [(1, -2), (1, 0), (1, 115), (0, x)] [] G1 I1 Q) : mu_WP mu_code d 229 475 [(1, -2), (1, 0), (1, 115), (0, x)] [] G I Q := by
  obtain ⟨hG, hX, hO, ⟨s1, s2, s3⟩, hm, hz⟩ := id hR
  obtain ⟨o1, o2, o3, o4, o5, o6, o7, o8, o9, o10, o11⟩ := id hO
  have gM : MR G := hG.2.2.2.2.2.2.2.1
  refine vc_229_475 (by omega) _ _ _ _ ?_
  refine ⟨hG.1.1, c_day (by omega) hG hX hO ?_⟩
  intro I1 f1 c1
  have fg : FXg G G I I1 := f1.g
  have g1 := hG
  obtain ⟨m1, m2, m3⟩ := hR.mid fg
  have gM1 : MR G := g1.2.2.2.2.2.2.2.1
  have hS1 := hS.fxg hG fg
  refine ⟨gM1.1, r_day (by omega) gM1 (by rw [m1]; exact hO.wd.lo (by omega)) ?_⟩
  intro I2 f2 r2
  rw [m1] at r2 ⊢
  exact ⟨fun _ => h G I2 _ M L (hS1.q (FE.q f2.fe)) (hR.next g1 fg c1 hO.day (FE.q f2.fe) r2 (m2.fe f2.fe) s3), fun hne => absurd rfl hne⟩
theorem lp_488 (hd : d < 800) (hS : SF N G I) (hR : RR u0 c G I S M L) (hx : 0 ≤ x ∧ x + 5 ≤ N ∧ N ≤ 100000) (h : ∀ G1 I1 S1 M1 L1, SF N G1 I1 → RR u0 (c + 1) G1 I1 S1 M1 L1 → mu_WP mu_code d 229 1113 [(1, -2), (1, 0), (1, 115), (0, x)] [] G1 I1 Q) : mu_WP mu_code d 229 488 [(1, -2), (1, 0), (1, 115), (0, x)] [] G I Q := by
  obtain ⟨hG, hX, hO, ⟨s1, s2, s3⟩, hm, hz⟩ := id hR
  obtain ⟨o1, o2, o3, o4, o5, o6, o7, o8, o9, o10, o11⟩ := id hO
  have gM : MR G := hG.2.2.2.2.2.2.2.1
  refine vc_229_488 (by omega) _ _ _ _ ?_
  rw [wr_id (x := x + 1) (by omega) (by omega), wr_id (x := x + 2) (by omega) (by omega), wr_id (x := x + 3) (by omega) (by omega), hS.1]
  refine ⟨⟨rfl, by omega, by dsimp only; omega⟩, ⟨rfl, by omega, by dsimp only; omega⟩, ⟨rfl, by omega, by dsimp only; omega⟩, hG.1.1, c_on (by omega) hG hX hO _ _ _ ?_⟩
  intro G1 I1 g1 fg c1
  obtain ⟨m1, m2, m3⟩ := hR.mid fg
  have gM1 : MR G1 := g1.2.2.2.2.2.2.2.1
  have hS1 := hS.fxg hG fg
  have n1 : I1 (-2) = I (-2) := fg.1 (-2) (by omega)
  rw [n1, hS1.1]
  refine ⟨⟨rfl, by omega, by dsimp only; omega⟩, ⟨rfl, by omega, by dsimp only; omega⟩, ⟨rfl, by omega, by dsimp only; omega⟩, gM1.1, r_on (by omega) gM1 _ _ _ (by rw [m1]; exact hO.wd100) ?_⟩
  intro I2 f2 r2
  rw [m1] at r2 ⊢
  exact ⟨fun _ => h G1 I2 _ M L (hS1.q (FE.q f2)) (hR.next g1 fg c1 hO (FE.q f2) r2 (m2.fe f2) s3), fun hne => absurd rfl hne⟩
theorem lp_531 (hd : d < 800) (hS : SF N G I) (hR : RR u0 c G I S M L) (hx : 0 ≤ x ∧ x + 5 ≤ N ∧ N ≤ 100000) (h : ∀ G1 I1 S1 M1 L1, SF N G1 I1 → RR u0 (c + 1) G1 I1 S1 M1 L1 → mu_WP mu_code d 229 1113 [(1, -2), (1, 0), (1, 115), (0, x)] [] G1 I1 Q) : mu_WP mu_code d 229 531 [(1, -2), (1, 0), (1, 115), (0, x)] [] G I Q := by
  obtain ⟨hG, hX, hO, ⟨s1, s2, s3⟩, hm, hz⟩ := id hR
  obtain ⟨o1, o2, o3, o4, o5, o6, o7, o8, o9, o10, o11⟩ := id hO
  have gM : MR G := hG.2.2.2.2.2.2.2.1
  refine vc_229_531 (by omega) _ _ _ _ ?_
  rw [wr_id (x := x + 1) (by omega) (by omega), wr_id (x := x + 2) (by omega) (by omega), hS.1]
  refine ⟨⟨rfl, by omega, by dsimp only; omega⟩, ⟨rfl, by omega, by dsimp only; omega⟩, hG.1.1, c_meet (by omega) hG hX hO _ _ ?_⟩
  intro G1 I1 g1 fg c1
  obtain ⟨m1, m2, m3⟩ := hR.mid fg
  have gM1 : MR G1 := g1.2.2.2.2.2.2.2.1
  have hS1 := hS.fxg hG fg
  have n1 : I1 (-2) = I (-2) := fg.1 (-2) (by omega)
  rw [n1, hS1.1]
  refine ⟨⟨rfl, by omega, by dsimp only; omega⟩, ⟨rfl, by omega, by dsimp only; omega⟩, gM1.1, r_meet (by omega) gM1 _ _ (by rw [m1]; exact hO.wd100) ?_⟩
  intro I2 f2 r2
  rw [m1] at r2 ⊢
  exact ⟨fun _ => h G1 I2 _ M L (hS1.q (FE.q f2)) (hR.next g1 fg c1 hO (FE.q f2) r2 (m2.fe f2) s3), fun hne => absurd rfl hne⟩
theorem lp_564 (hd : d < 800) (hS : SF N G I) (hR : RR u0 c G I S M L) (hx : 0 ≤ x ∧ x + 5 ≤ N ∧ N ≤ 100000) (h : ∀ G1 I1 S1 M1 L1, SF N G1 I1 → RR u0 (c + 1) G1 I1 S1 M1 L1 → mu_WP mu_code d 229 1113 [(1, -2), (1, 0), (1, 115), (0, x)] [] G1 I1 Q) : mu_WP mu_code d 229 564 [(1, -2), (1, 0), (1, 115), (0, x)] [] G I Q := by
  obtain ⟨hG, hX, hO, ⟨s1, s2, s3⟩, hm, hz⟩ := id hR
  obtain ⟨o1, o2, o3, o4, o5, o6, o7, o8, o9, o10, o11⟩ := id hO
  have gM : MR G := hG.2.2.2.2.2.2.2.1
  refine vc_229_564 (by omega) _ _ _ _ ?_
  rw [wr_id (x := x + 1) (by omega) (by omega), hS.1]
  refine ⟨⟨rfl, by omega, by dsimp only; omega⟩, hG.1.1, c_free (by omega) hG hX hO _ ?_⟩
  intro G1 I1 g1 fg c1
  obtain ⟨m1, m2, m3⟩ := hR.mid fg
  have gM1 : MR G1 := g1.2.2.2.2.2.2.2.1
  have hS1 := hS.fxg hG fg
  have n1 : I1 (-2) = I (-2) := fg.1 (-2) (by omega)
  rw [n1, hS1.1]
  refine ⟨⟨rfl, by omega, by dsimp only; omega⟩, gM1.1, r_free (by omega) gM1 _ (by rw [m1]; exact hO.wd100) ?_⟩
  intro I2 f2 r2
  rw [m1] at r2 ⊢
  exact ⟨fun _ => h G1 I2 _ M L (hS1.q (FE.q f2)) (hR.next g1 fg c1 hO (FE.q f2) r2 (m2.fe f2) s3), fun hne => absurd rfl hne⟩
theorem lp_587 (hd : d < 800) (hS : SF N G I) (hR : RR u0 c G I S M L) (hx : 0 ≤ x ∧ x + 5 ≤ N ∧ N ≤ 100000) (h : ∀ G1 I1 S1 M1 L1, SF N G1 I1 → RR u0 (c + 1) G1 I1 S1 M1 L1 → mu_WP mu_code d 229 1113 [(1, -2), (1, 0), (1, 115), (0, x)] [] G1 I1 Q) : mu_WP mu_code d 229 587 [(1, -2), (1, 0), (1, 115), (0, x)] [] G I Q := by
  obtain ⟨hG, hX, hO, ⟨s1, s2, s3⟩, hm, hz⟩ := id hR
  obtain ⟨o1, o2, o3, o4, o5, o6, o7, o8, o9, o10, o11⟩ := id hO
  have gM : MR G := hG.2.2.2.2.2.2.2.1
  refine vc_229_587 (by omega) _ _ _ _ ?_
  refine ⟨hG.1.1, c_spot (by omega) hG hX hO ?_⟩
  intro G1 I1 g1 fg c1
  obtain ⟨m1, m2, m3⟩ := hR.mid fg
  have gM1 : MR G1 := g1.2.2.2.2.2.2.2.1
  have hS1 := hS.fxg hG fg
  refine ⟨gM1.1, r_spot (by omega) gM1 (by rw [m1]; exact hO.wd100) ?_⟩
  intro I2 f2 r2
  rw [m1] at r2 ⊢
  exact ⟨fun _ => h G1 I2 _ M L (hS1.q (FE.q f2)) (hR.next g1 fg c1 hO (FE.q f2) r2 (m2.fe f2) s3), fun hne => absurd rfl hne⟩
theorem lp_600 (hd : d < 800) (hS : SF N G I) (hR : RR u0 c G I S M L) (hx : 0 ≤ x ∧ x + 5 ≤ N ∧ N ≤ 100000) (h : ∀ G1 I1 S1 M1 L1, SF N G1 I1 → RR u0 (c + 1) G1 I1 S1 M1 L1 → mu_WP mu_code d 229 1113 [(1, -2), (1, 0), (1, 115), (0, x)] [] G1 I1 Q) : mu_WP mu_code d 229 600 [(1, -2), (1, 0), (1, 115), (0, x)] [] G I Q := by
  obtain ⟨hG, hX, hO, ⟨s1, s2, s3⟩, hm, hz⟩ := id hR
  obtain ⟨o1, o2, o3, o4, o5, o6, o7, o8, o9, o10, o11⟩ := id hO
  have gM : MR G := hG.2.2.2.2.2.2.2.1
  refine vc_229_600 (by omega) _ _ _ _ ?_
  rw [wr_id (x := x + 1) (by omega) (by omega), hS.1]
  refine ⟨⟨rfl, by omega, by dsimp only; omega⟩, hG.1.1, c_again (by omega) hG hX hO _ ?_⟩
  intro G1 I1 g1 fg c1
  obtain ⟨m1, m2, m3⟩ := hR.mid fg
  have gM1 : MR G1 := g1.2.2.2.2.2.2.2.1
  have hS1 := hS.fxg hG fg
  have n1 : I1 (-2) = I (-2) := fg.1 (-2) (by omega)
  rw [n1, hS1.1]
  refine ⟨⟨rfl, by omega, by dsimp only; omega⟩, gM1.1, r_again (by omega) gM1 _ (by rw [m1]; exact hO.wd100) ?_⟩
  intro I2 f2 r2
  rw [m1] at r2 ⊢
  exact ⟨fun _ => h G1 I2 _ M L (hS1.q (FE.q f2)) (hR.next g1 fg c1 hO (FE.q f2) r2 (m2.fe f2) s3), fun hne => absurd rfl hne⟩
theorem lp_623 (hd : d < 800) (hS : SF N G I) (hR : RR u0 c G I S M L) (hx : 0 ≤ x ∧ x + 5 ≤ N ∧ N ≤ 100000) (h : ∀ G1 I1 S1 M1 L1, SF N G1 I1 → RR u0 (c + 1) G1 I1 S1 M1 L1 → mu_WP mu_code d 229 1113 [(1, -2), (1, 0), (1, 115), (0, x)] [] G1 I1 Q) : mu_WP mu_code d 229 623 [(1, -2), (1, 0), (1, 115), (0, x)] [] G I Q := by
  obtain ⟨hG, hX, hO, ⟨s1, s2, s3⟩, hm, hz⟩ := id hR
  obtain ⟨o1, o2, o3, o4, o5, o6, o7, o8, o9, o10, o11⟩ := id hO
  have gM : MR G := hG.2.2.2.2.2.2.2.1
  refine vc_229_623 (by omega) _ _ _ _ ?_
  rw [wr_id (x := x + 1) (by omega) (by omega), wr_id (x := x + 2) (by omega) (by omega), wr_id (x := x + 3) (by omega) (by omega), hS.1]
  refine ⟨⟨rfl, by omega, by dsimp only; omega⟩, ⟨rfl, by omega, by dsimp only; omega⟩, ⟨rfl, by omega, by dsimp only; omega⟩, hG.1.1, c_whom (by omega) hG hX hO _ _ _ ?_⟩
  intro G1 I1 g1 fg c1
  obtain ⟨m1, m2, m3⟩ := hR.mid fg
  have gM1 : MR G1 := g1.2.2.2.2.2.2.2.1
  have hS1 := hS.fxg hG fg
  have n1 : I1 (-2) = I (-2) := fg.1 (-2) (by omega)
  rw [n1, hS1.1]
  refine ⟨⟨rfl, by omega, by dsimp only; omega⟩, ⟨rfl, by omega, by dsimp only; omega⟩, ⟨rfl, by omega, by dsimp only; omega⟩, gM1.1, r_whom (by omega) gM1 _ _ _ (by rw [m1]; exact hO.wd100) (by rw [m1]; exact o3) ?_⟩
  intro I2 f2 r2
  rw [m1] at r2 ⊢
  exact ⟨fun _ => h G1 I2 _ M L (hS1.q (FE.q f2)) (hR.next g1 fg c1 hO (FE.q f2) r2 (m2.fe f2) s3), fun hne => absurd rfl hne⟩
theorem lp_666 (hd : d < 800) (hS : SF N G I) (hR : RR u0 c G I S M L) (hx : 0 ≤ x ∧ x + 5 ≤ N ∧ N ≤ 100000) (h : ∀ G1 I1 S1 M1 L1, SF N G1 I1 → RR u0 (c + 1) G1 I1 S1 M1 L1 → mu_WP mu_code d 229 1113 [(1, -2), (1, 0), (1, 115), (0, x)] [] G1 I1 Q) : mu_WP mu_code d 229 666 [(1, -2), (1, 0), (1, 115), (0, x)] [] G I Q := by
  obtain ⟨hG, hX, hO, ⟨s1, s2, s3⟩, hm, hz⟩ := id hR
  obtain ⟨o1, o2, o3, o4, o5, o6, o7, o8, o9, o10, o11⟩ := id hO
  have gM : MR G := hG.2.2.2.2.2.2.2.1
  refine vc_229_666 (by omega) _ _ _ _ ?_
  rw [wr_id (x := x + 1) (by omega) (by omega), wr_id (x := x + 2) (by omega) (by omega), hS.1]
  refine ⟨⟨rfl, by omega, by dsimp only; omega⟩, ⟨rfl, by omega, by dsimp only; omega⟩, hG.1.1, c_order (by omega) hG hX hO hS.2.2.2 _ _ ?_⟩
  intro G1 I1 g1 fg c1
  obtain ⟨m1, m2, m3⟩ := hR.mid fg
  have gM1 : MR G1 := g1.2.2.2.2.2.2.2.1
  have hS1 := hS.fxg hG fg
  have n1 : I1 (-2) = I (-2) := fg.1 (-2) (by omega)
  rw [n1, hS1.1]
  refine ⟨⟨rfl, by omega, by dsimp only; omega⟩, ⟨rfl, by omega, by dsimp only; omega⟩, gM1.1, r_order (by omega) gM1 _ _ (by rw [m1]; exact hO.wd100) (by rw [m1]; exact o3) ?_⟩
  intro I2 f2 r2
  rw [m1] at r2 ⊢
  exact ⟨fun _ => h G1 I2 _ M L (hS1.q (FE.q f2)) (hR.next g1 fg c1 hO (FE.q f2) r2 (m2.fe f2) s3), fun hne => absurd rfl hne⟩
theorem lp_699 (hd : d < 800) (hS : SF N G I) (hR : RR u0 c G I S M L) (hx : 0 ≤ x ∧ x + 5 ≤ N ∧ N ≤ 100000) (h : ∀ G1 I1 S1 M1 L1, SF N G1 I1 → RR u0 (c + 1) G1 I1 S1 M1 L1 → mu_WP mu_code d 229 1113 [(1, -2), (1, 0), (1, 115), (0, x)] [] G1 I1 Q) : mu_WP mu_code d 229 699 [(1, -2), (1, 0), (1, 115), (0, x)] [] G I Q := by
  obtain ⟨hG, hX, hO, ⟨s1, s2, s3⟩, hm, hz⟩ := id hR
  obtain ⟨o1, o2, o3, o4, o5, o6, o7, o8, o9, o10, o11⟩ := id hO
  have gM : MR G := hG.2.2.2.2.2.2.2.1
  refine vc_229_699 (by omega) _ _ _ _ ?_
  rw [wr_id (x := x + 1) (by omega) (by omega), wr_id (x := x + 2) (by omega) (by omega), hS.1]
  refine ⟨⟨rfl, by omega, by dsimp only; omega⟩, ⟨rfl, by omega, by dsimp only; omega⟩, hG.1.1, c_late (by omega) hG hX hO _ _ ?_⟩
  intro G1 I1 g1 fg c1
  obtain ⟨m1, m2, m3⟩ := hR.mid fg
  have gM1 : MR G1 := g1.2.2.2.2.2.2.2.1
  have hS1 := hS.fxg hG fg
  have n1 : I1 (-2) = I (-2) := fg.1 (-2) (by omega)
  rw [n1, hS1.1]
  refine ⟨⟨rfl, by omega, by dsimp only; omega⟩, ⟨rfl, by omega, by dsimp only; omega⟩, gM1.1, r_late (by omega) gM1 _ _ (by rw [m1]; exact hO.wd100) ?_⟩
  intro I2 f2 r2
  rw [m1] at r2 ⊢
  exact ⟨fun _ => h G1 I2 _ M L (hS1.q (FE.q f2)) (hR.next g1 fg c1 hO (FE.q f2) r2 (m2.fe f2) s3), fun hne => absurd rfl hne⟩
theorem lp_732 (hd : d < 800) (hS : SF N G I) (hR : RR u0 c G I S M L) (hx : 0 ≤ x ∧ x + 5 ≤ N ∧ N ≤ 100000) (h : ∀ G1 I1 S1 M1 L1, SF N G1 I1 → RR u0 (c + 1) G1 I1 S1 M1 L1 → mu_WP mu_code d 229 1113 [(1, -2), (1, 0), (1, 115), (0, x)] [] G1 I1 Q) : mu_WP mu_code d 229 732 [(1, -2), (1, 0), (1, 115), (0, x)] [] G I Q := by
  obtain ⟨hG, hX, hO, ⟨s1, s2, s3⟩, hm, hz⟩ := id hR
  obtain ⟨o1, o2, o3, o4, o5, o6, o7, o8, o9, o10, o11⟩ := id hO
  have gM : MR G := hG.2.2.2.2.2.2.2.1
  refine vc_229_732 (by omega) _ _ _ _ ?_
  rw [wr_id (x := x + 1) (by omega) (by omega), wr_id (x := x + 2) (by omega) (by omega), wr_id (x := x + 3) (by omega) (by omega), hS.1]
  refine ⟨⟨rfl, by omega, by dsimp only; omega⟩, ⟨rfl, by omega, by dsimp only; omega⟩, ⟨rfl, by omega, by dsimp only; omega⟩, hG.1.1, c_sit (by omega) hG hX hO _ _ _ ?_⟩
  intro G1 I1 g1 fg c1
  obtain ⟨m1, m2, m3⟩ := hR.mid fg
  have gM1 : MR G1 := g1.2.2.2.2.2.2.2.1
  have hS1 := hS.fxg hG fg
  have n1 : I1 (-2) = I (-2) := fg.1 (-2) (by omega)
  rw [n1, hS1.1]
  refine ⟨⟨rfl, by omega, by dsimp only; omega⟩, ⟨rfl, by omega, by dsimp only; omega⟩, ⟨rfl, by omega, by dsimp only; omega⟩, gM1.1, r_sit (by omega) gM1 _ _ _ (by rw [m1]; exact hO.wd100) ?_⟩
  intro I2 f2 r2
  rw [m1] at r2 ⊢
  exact ⟨fun _ => h G1 I2 _ M L (hS1.q (FE.q f2)) (hR.next g1 fg c1 hO (FE.q f2) r2 (m2.fe f2) s3), fun hne => absurd rfl hne⟩
theorem lp_775 (hd : d < 800) (hS : SF N G I) (hR : RR u0 c G I S M L) (hx : 0 ≤ x ∧ x + 5 ≤ N ∧ N ≤ 100000) (h : ∀ G1 I1 S1 M1 L1, SF N G1 I1 → RR u0 (c + 1) G1 I1 S1 M1 L1 → mu_WP mu_code d 229 1113 [(1, -2), (1, 0), (1, 115), (0, x)] [] G1 I1 Q) : mu_WP mu_code d 229 775 [(1, -2), (1, 0), (1, 115), (0, x)] [] G I Q := by
  obtain ⟨hG, hX, hO, ⟨s1, s2, s3⟩, hm, hz⟩ := id hR
  obtain ⟨o1, o2, o3, o4, o5, o6, o7, o8, o9, o10, o11⟩ := id hO
  have gM : MR G := hG.2.2.2.2.2.2.2.1
  refine vc_229_775 (by omega) _ _ _ _ ?_
  rw [wr_id (x := x + 1) (by omega) (by omega), hS.1]
  refine ⟨⟨rfl, by omega, by dsimp only; omega⟩, hG.1.1, c_track (by omega) hG hX hO _ ?_⟩
  intro I1 f1 c1
  have fg : FXg G G I I1 := f1.g
  have g1 := hG
  obtain ⟨m1, m2, m3⟩ := hR.mid fg
  have gM1 : MR G := g1.2.2.2.2.2.2.2.1
  have hS1 := hS.fxg hG fg
  have n1 : I1 (-2) = I (-2) := fg.1 (-2) (by omega)
  rw [n1, hS1.1]
  refine ⟨⟨rfl, by omega, by dsimp only; omega⟩, gM1.1, r_track (by omega) gM1 _ (by rw [m1]; exact o1) (by rw [m1]; exact o7) ?_⟩
  intro I2 f2 r2
  rw [m1] at r2 ⊢
  exact ⟨fun _ => h G I2 _ M L (hS1.q (FE.q f2.fe)) (hR.next g1 fg c1 hO.track (FE.q f2.fe) r2 (m2.fe f2.fe) s3), fun hne => absurd rfl hne⟩
theorem lp_798 (hd : d < 800) (hS : SF N G I) (hR : RR u0 c G I S M L) (hx : 0 ≤ x ∧ x + 5 ≤ N ∧ N ≤ 100000) (h : ∀ G1 I1 S1 M1 L1, SF N G1 I1 → RR u0 (c + 1) G1 I1 S1 M1 L1 → mu_WP mu_code d 229 1113 [(1, -2), (1, 0), (1, 115), (0, x)] [] G1 I1 Q) : mu_WP mu_code d 229 798 [(1, -2), (1, 0), (1, 115), (0, x)] [] G I Q := by
  obtain ⟨hG, hX, hO, ⟨s1, s2, s3⟩, hm, hz⟩ := id hR
  obtain ⟨o1, o2, o3, o4, o5, o6, o7, o8, o9, o10, o11⟩ := id hO
  have gM : MR G := hG.2.2.2.2.2.2.2.1
  refine vc_229_798 (by omega) _ _ _ _ ?_
  rw [wr_id (x := x + 1) (by omega) (by omega), hS.1]
  refine ⟨⟨rfl, by omega, by dsimp only; omega⟩, hG.1.1, c_owed (by omega) hG hX hO _ ?_⟩
  intro G1 I1 g1 fg c1
  obtain ⟨m1, m2, m3⟩ := hR.mid fg
  have gM1 : MR G1 := g1.2.2.2.2.2.2.2.1
  have hS1 := hS.fxg hG fg
  have n1 : I1 (-2) = I (-2) := fg.1 (-2) (by omega)
  rw [n1, hS1.1]
  refine ⟨⟨rfl, by omega, by dsimp only; omega⟩, gM1.1, r_owed (by omega) gM1 _ (by rw [m1]; exact hO.wd100) (by rw [m1]; exact o7) ?_⟩
  intro I2 f2 r2
  rw [m1] at r2 ⊢
  exact ⟨fun _ => h G1 I2 _ M L (hS1.q (FE.q f2)) (hR.next g1 fg c1 hO (FE.q f2) r2 (m2.fe f2) s3), fun hne => absurd rfl hne⟩
theorem lp_821 (hd : d < 800) (hS : SF N G I) (hR : RR u0 c G I S M L) (hx : 0 ≤ x ∧ x + 5 ≤ N ∧ N ≤ 100000) (h : ∀ G1 I1 S1 M1 L1, SF N G1 I1 → RR u0 (c + 1) G1 I1 S1 M1 L1 → mu_WP mu_code d 229 1113 [(1, -2), (1, 0), (1, 115), (0, x)] [] G1 I1 Q) : mu_WP mu_code d 229 821 [(1, -2), (1, 0), (1, 115), (0, x)] [] G I Q := by
  obtain ⟨hG, hX, hO, ⟨s1, s2, s3⟩, hm, hz⟩ := id hR
  obtain ⟨o1, o2, o3, o4, o5, o6, o7, o8, o9, o10, o11⟩ := id hO
  have gM : MR G := hG.2.2.2.2.2.2.2.1
  refine vc_229_821 (by omega) _ _ _ _ ?_
  rw [wr_id (x := x + 1) (by omega) (by omega), wr_id (x := x + 2) (by omega) (by omega), wr_id (x := x + 3) (by omega) (by omega), wr_id (x := x + 4) (by omega) (by omega), hS.1]
  refine ⟨⟨rfl, by omega, by dsimp only; omega⟩, ⟨rfl, by omega, by dsimp only; omega⟩, ⟨rfl, by omega, by dsimp only; omega⟩, ⟨rfl, by omega, by dsimp only; omega⟩, hG.1.1, c_odds (by omega) hG hX hO _ _ _ _ ?_⟩
  intro G1 I1 g1 fg c1
  obtain ⟨m1, m2, m3⟩ := hR.mid fg
  have gM1 : MR G1 := g1.2.2.2.2.2.2.2.1
  have hS1 := hS.fxg hG fg
  have n1 : I1 (-2) = I (-2) := fg.1 (-2) (by omega)
  rw [n1, hS1.1]
  refine ⟨⟨rfl, by omega, by dsimp only; omega⟩, ⟨rfl, by omega, by dsimp only; omega⟩, ⟨rfl, by omega, by dsimp only; omega⟩, ⟨rfl, by omega, by dsimp only; omega⟩, gM1.1, r_odds (by omega) gM1 _ _ _ _ (by rw [m1]; exact hO.wd100) (by rw [m1]; exact o3) ?_⟩
  intro I2 f2 r2
  rw [m1] at r2 ⊢
  rw [mu_cmp_rf]
  exact ⟨fun _ => h G1 I2 _ M L (hS1.q (FE.q f2)) (hR.next g1 fg c1 hO (FE.q f2) r2 (m2.fe f2) s3), fun hne => absurd rfl hne⟩
theorem lp_875 (hd : d < 800) (hS : SF N G I) (hR : RR u0 c G I S M L) (hx : 0 ≤ x ∧ x + 5 ≤ N ∧ N ≤ 100000) (h : ∀ G1 I1 S1 M1 L1, SF N G1 I1 → RR u0 (c + 1) G1 I1 S1 M1 L1 → mu_WP mu_code d 229 1113 [(1, -2), (1, 0), (1, 115), (0, x)] [] G1 I1 Q) : mu_WP mu_code d 229 875 [(1, -2), (1, 0), (1, 115), (0, x)] [] G I Q := by
  obtain ⟨hG, hX, hO, ⟨s1, s2, s3⟩, hm, hz⟩ := id hR
  obtain ⟨o1, o2, o3, o4, o5, o6, o7, o8, o9, o10, o11⟩ := id hO
  have gM : MR G := hG.2.2.2.2.2.2.2.1
  refine vc_229_875 (by omega) _ _ _ _ ?_
  rw [wr_id (x := x + 1) (by omega) (by omega), wr_id (x := x + 2) (by omega) (by omega), hS.1]
  refine ⟨⟨rfl, by omega, by dsimp only; omega⟩, ⟨rfl, by omega, by dsimp only; omega⟩, hG.1.1, c_mean (by omega) hG hX hO _ _ ?_⟩
  intro G1 I1 g1 fg c1
  obtain ⟨m1, m2, m3⟩ := hR.mid fg
  have gM1 : MR G1 := g1.2.2.2.2.2.2.2.1
  have hS1 := hS.fxg hG fg
  have n1 : I1 (-2) = I (-2) := fg.1 (-2) (by omega)
  rw [n1, hS1.1]
  refine ⟨⟨rfl, by omega, by dsimp only; omega⟩, ⟨rfl, by omega, by dsimp only; omega⟩, gM1.1, r_mean (by omega) gM1 _ _ (by rw [m1]; exact hO.wd100) ?_⟩
  intro I2 f2 r2
  rw [m1] at r2 ⊢
  rw [mu_cmp_rf]
  exact ⟨fun _ => h G1 I2 _ M L (hS1.q (FE.q f2)) (hR.next g1 fg c1 hO (FE.q f2) r2 (m2.fe f2) s3), fun hne => absurd rfl hne⟩
theorem lp_909 (hd : d < 800) (hS : SF N G I) (hR : RR u0 c G I S M L) (hx : 0 ≤ x ∧ x + 5 ≤ N ∧ N ≤ 100000) (h : ∀ G1 I1 S1 M1 L1, SF N G1 I1 → RR u0 (c + 1) G1 I1 S1 M1 L1 → mu_WP mu_code d 229 1113 [(1, -2), (1, 0), (1, 115), (0, x)] [] G1 I1 Q) : mu_WP mu_code d 229 909 [(1, -2), (1, 0), (1, 115), (0, x)] [] G I Q := by
  obtain ⟨hG, hX, hO, ⟨s1, s2, s3⟩, hm, hz⟩ := id hR
  obtain ⟨o1, o2, o3, o4, o5, o6, o7, o8, o9, o10, o11⟩ := id hO
  have gM : MR G := hG.2.2.2.2.2.2.2.1
  refine vc_229_909 (by omega) _ _ _ _ ?_
  rw [wr_id (x := x + 1) (by omega) (by omega), wr_id (x := x + 2) (by omega) (by omega), wr_id (x := x + 3) (by omega) (by omega), hS.1]
  refine ⟨⟨rfl, by omega, by dsimp only; omega⟩, ⟨rfl, by omega, by dsimp only; omega⟩, ⟨rfl, by omega, by dsimp only; omega⟩, hG.1.1, c_book (by omega) hG hX hO _ _ _ ?_⟩
  intro I1 f1 c1
  have fg : FXg G G I I1 := f1.g
  have g1 := hG
  obtain ⟨m1, m2, m3⟩ := hR.mid fg
  have gM1 : MR G := g1.2.2.2.2.2.2.2.1
  have hS1 := hS.fxg hG fg
  have n1 : I1 (-2) = I (-2) := fg.1 (-2) (by omega)
  rw [n1, hS1.1]
  refine ⟨⟨rfl, by omega, by dsimp only; omega⟩, ⟨rfl, by omega, by dsimp only; omega⟩, ⟨rfl, by omega, by dsimp only; omega⟩, gM1.1, r_book (by omega) gM1 _ _ _ (by rw [m1]; exact o1) (by rw [m1]; exact o8) ?_⟩
  intro I2 f2 r2
  rw [m1] at r2 ⊢
  exact ⟨fun _ => h G I2 _ M L (hS1.q (FE.q f2.fe)) (hR.next g1 fg c1 hO.book (FE.q f2.fe) r2 (m2.fe f2.fe) s3), fun hne => absurd rfl hne⟩
theorem lp_952 (hd : d < 800) (hS : SF N G I) (hR : RR u0 c G I S M L) (hx : 0 ≤ x ∧ x + 5 ≤ N ∧ N ≤ 100000) (h : ∀ G1 I1 S1 M1 L1, SF N G1 I1 → RR u0 (c + 1) G1 I1 S1 M1 L1 → mu_WP mu_code d 229 1113 [(1, -2), (1, 0), (1, 115), (0, x)] [] G1 I1 Q) : mu_WP mu_code d 229 952 [(1, -2), (1, 0), (1, 115), (0, x)] [] G I Q := by
  obtain ⟨hG, hX, hO, ⟨s1, s2, s3⟩, hm, hz⟩ := id hR
  obtain ⟨o1, o2, o3, o4, o5, o6, o7, o8, o9, o10, o11⟩ := id hO
  have gM : MR G := hG.2.2.2.2.2.2.2.1
  refine vc_229_952 (by omega) _ _ _ _ ?_
  refine ⟨hG.1.1, c_looked (by omega) hG hX hO ?_⟩
  intro G1 I1 g1 fg c1
  obtain ⟨m1, m2, m3⟩ := hR.mid fg
  have gM1 : MR G1 := g1.2.2.2.2.2.2.2.1
  have hS1 := hS.fxg hG fg
  refine ⟨gM1.1, r_looked (by omega) gM1 (by rw [m1]; exact hO.wd100) (by rw [m1]; exact o8) ?_⟩
  intro I2 f2 r2
  rw [m1] at r2 ⊢
  exact ⟨fun _ => h G1 I2 _ M L (hS1.q (FE.q f2)) (hR.next g1 fg c1 hO (FE.q f2) r2 (m2.fe f2) s3), fun hne => absurd rfl hne⟩
end

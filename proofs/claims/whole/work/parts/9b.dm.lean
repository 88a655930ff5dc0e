/-! THE LOOP OF THE LAW: its calls, the rest -/
theorem RR.more {u0 c : Int} {G : mu_G} {I : mu_M} {S M : Row} {L : List Int} (h : RR u0 c G I S M L) : RR u0 (c + 1) G I S M L := by
  obtain ⟨a1, a2, a3, a4, a5, a6, a7⟩ := h
  exact ⟨a1, a2, a3, a4, a5, by omega, by omega⟩
section
variable {d : Nat} {u0 c N x : Int} {G : mu_G} {I : mu_M} {Q : Int → mu_G → mu_M → Prop} {S M : Row} {L : List Int}
theorem lp_462 (hd : d < 800) (hS : SF N G I) (hR : RR u0 c G I S M L) (hx : 0 ≤ x ∧ x + 5 ≤ N ∧ N ≤ 100000) (h : ∀ G1 I1 S1 M1 L1, SF N G1 I1 → RR u0 (c + 1) G1 I1 S1 M1 L1 → mu_WP mu_code d 229 1113 [(1, -2), (1, 0), (1, 115), (0, x)] [] G1 I1 Q) : mu_WP mu_code d 229 462 [(1, -2), (1, 0), (1, 115), (0, x)] [] G I Q := by
  obtain ⟨hG, hX, hO, ⟨s1, s2, s3⟩, hm, hz⟩ := id hR
  obtain ⟨o1, o2, o3, o4, o5, o6, o7, o8, o9, o10, o11⟩ := id hO
  have gM : MR G := hG.2.2.2.2.2.2.2.1
  refine vc_229_462 (by omega) _ _ _ _ ?_
  refine ⟨hG.1.1, c_now (by omega) hG hX ⟨gM.1, r_now (by omega) gM ?_⟩⟩
  rw [s1]
  exact ⟨fun _ => h G I S M L hS (hR.more), fun hne => absurd rfl hne⟩
theorem lp_1008 (hd : d < 800) (hS : SF N G I) (hR : RR u0 c G I S M L) (hx : 0 ≤ x ∧ x + 5 ≤ N ∧ N ≤ 100000) (h : ∀ G1 I1 S1 M1 L1, SF N G1 I1 → RR u0 (c + 1) G1 I1 S1 M1 L1 → mu_WP mu_code d 229 1113 [(1, -2), (1, 0), (1, 115), (0, x)] [] G1 I1 Q) : mu_WP mu_code d 229 1008 [(1, -2), (1, 0), (1, 115), (0, x)] [] G I Q := by
  obtain ⟨hG, hX, hO, ⟨s1, s2, s3⟩, hm, hz⟩ := id hR
  obtain ⟨o1, o2, o3, o4, o5, o6, o7, o8, o9, o10, o11⟩ := id hO
  have gM : MR G := hG.2.2.2.2.2.2.2.1
  refine vc_229_1008 (by omega) _ _ _ _ ?_
  rw [wr_id (x := x + 1) (by omega) (by omega), hS.1]
  refine ⟨⟨rfl, by omega, by dsimp only; omega⟩, hG.1.1, c_trace (by omega) hG hX (by omega) _ ⟨⟨by rw [hS.1], by omega, by rw [hS.1]; dsimp only; omega⟩, gM.1, r_trace (by omega) gM _ s2 (by omega) ?_⟩⟩
  exact ⟨fun _ => h G I S M L hS (hR.more), fun hne => absurd rfl hne⟩
theorem lp_1031 (hd : d < 800) (hS : SF N G I) (hR : RR u0 c G I S M L) (hx : 0 ≤ x ∧ x + 5 ≤ N ∧ N ≤ 100000) (h : ∀ G1 I1 S1 M1 L1, SF N G1 I1 → RR u0 (c + 1) G1 I1 S1 M1 L1 → mu_WP mu_code d 229 1113 [(1, -2), (1, 0), (1, 115), (0, x)] [] G1 I1 Q) : mu_WP mu_code d 229 1031 [(1, -2), (1, 0), (1, 115), (0, x)] [] G I Q := by
  obtain ⟨hG, hX, hO, ⟨s1, s2, s3⟩, hm, hz⟩ := id hR
  obtain ⟨o1, o2, o3, o4, o5, o6, o7, o8, o9, o10, o11⟩ := id hO
  have gM : MR G := hG.2.2.2.2.2.2.2.1
  refine vc_229_1031 (by omega) _ _ _ _ ?_
  rw [wr_id (x := x + 1) (by omega) (by omega), wr_id (x := x + 2) (by omega) (by omega), hS.1]
  refine ⟨⟨rfl, by omega, by dsimp only; omega⟩, ⟨rfl, by omega, by dsimp only; omega⟩, hG.1.1, c_as (by omega) hG hX hO _ _ ⟨⟨by rw [hS.1], by omega, by rw [hS.1]; dsimp only; omega⟩, ⟨by rw [hS.1], by omega, by rw [hS.1]; dsimp only; omega⟩, gM.1, r_as (by omega) gM _ _ (by rw [s1]; exact o1) ?_⟩⟩
  rw [s1]
  exact ⟨fun _ => h G I S M L hS (hR.more), fun hne => absurd rfl hne⟩
theorem lp_1090 (hd : d < 800) (hS : SF N G I) (hR : RR u0 c G I S M L) (hx : 0 ≤ x ∧ x + 5 ≤ N ∧ N ≤ 100000) (h : ∀ G1 I1 S1 M1 L1, SF N G1 I1 → RR u0 (c + 1) G1 I1 S1 M1 L1 → mu_WP mu_code d 229 1113 [(1, -2), (1, 0), (1, 115), (0, x)] [] G1 I1 Q) : mu_WP mu_code d 229 1090 [(1, -2), (1, 0), (1, 115), (0, x)] [] G I Q := by
  obtain ⟨hG, hX, hO, ⟨s1, s2, s3⟩, hm, hz⟩ := id hR
  obtain ⟨o1, o2, o3, o4, o5, o6, o7, o8, o9, o10, o11⟩ := id hO
  have gM : MR G := hG.2.2.2.2.2.2.2.1
  refine vc_229_1090 (by omega) _ _ _ _ ?_
  rw [wr_id (x := x + 1) (by omega) (by omega), hS.1]
  refine ⟨⟨rfl, by omega, by dsimp only; omega⟩, hG.1.1, c_count (by omega) hG hX _ ⟨⟨by rw [hS.1], by omega, by rw [hS.1]; dsimp only; omega⟩, gM.1, r_count (by omega) gM _ ?_⟩⟩
  rw [s1, s2.1]
  exact ⟨fun _ => h G I S M L hS (hR.more), fun hne => absurd rfl hne⟩
theorem lp_241 (hd : d < 800) (hS : SF N G I) (hR : RR u0 c G I S M L) (hx : 0 ≤ x ∧ x + 5 ≤ N ∧ N ≤ 100000) (h : ∀ G1 I1 S1 M1 L1, SF N G1 I1 → RR u0 (c + 1) G1 I1 S1 M1 L1 → mu_WP mu_code d 229 1113 [(1, -2), (1, 0), (1, 115), (0, x)] [] G1 I1 Q) : mu_WP mu_code d 229 241 [(1, -2), (1, 0), (1, 115), (0, x)] [] G I Q := by
  obtain ⟨hG, hX, hO, ⟨s1, s2, s3⟩, hm, hz⟩ := id hR
  obtain ⟨o1, o2, o3, o4, o5, o6, o7, o8, o9, o10, o11⟩ := id hO
  have gM : MR G := hG.2.2.2.2.2.2.2.1
  refine vc_229_241 (by omega) _ _ _ _ ?_
  rw [wr_id (x := x + 1) (by omega) (by omega), wr_id (x := x + 2) (by omega) (by omega), hS.1]
  refine ⟨⟨rfl, by omega, by dsimp only; omega⟩, ⟨rfl, by omega, by dsimp only; omega⟩, fun hz => ⟨hG.1.1, ?_⟩, fun hz => ⟨hG.1.1, ?_⟩⟩
  · refine c_wall (by omega) hG hX hO _ 0 (Or.inl rfl) ?_
    intro I1 f1 c1
    have fg : FXg G G I I1 := f1.g
    obtain ⟨m1, m2, m3⟩ := hR.mid fg
    have hS1 := hS.fxg hG fg
    have n1 : I1 (-2) = I (-2) := fg.1 (-2) (by omega)
    rw [n1, hS1.1]
    refine ⟨⟨rfl, by omega, by dsimp only; omega⟩, ⟨rfl, by omega, by dsimp only; omega⟩, fun _ => ⟨gM.1, r_wall (by omega) gM _ _ (by rw [m1]; exact o1) ?_⟩, fun hn => absurd hz hn⟩
    intro I2 f2 r2
    rw [m1] at r2 ⊢
    exact ⟨fun _ => h G I2 _ M L (hS1.q (FE.q f2.fe)) (hR.next hG fg c1 hO.wall (FE.q f2.fe) r2 (m2.fe f2.fe) s3), fun hne => absurd rfl hne⟩
  · refine c_wall (by omega) hG hX hO _ 1 (Or.inr rfl) ?_
    intro I1 f1 c1
    have fg : FXg G G I I1 := f1.g
    obtain ⟨m1, m2, m3⟩ := hR.mid fg
    have hS1 := hS.fxg hG fg
    have n1 : I1 (-2) = I (-2) := fg.1 (-2) (by omega)
    rw [n1, hS1.1]
    refine ⟨⟨rfl, by omega, by dsimp only; omega⟩, ⟨rfl, by omega, by dsimp only; omega⟩, fun hn => absurd hn hz, fun _ => ⟨gM.1, r_wall (by omega) gM _ _ (by rw [m1]; exact o1) ?_⟩⟩
    intro I2 f2 r2
    rw [m1] at r2 ⊢
    exact ⟨fun _ => h G I2 _ M L (hS1.q (FE.q f2.fe)) (hR.next hG fg c1 hO.wall (FE.q f2.fe) r2 (m2.fe f2.fe) s3), fun hne => absurd rfl hne⟩
theorem lp_965 (hd : d < 800) (hS : SF N G I) (hR : RR u0 c G I S M L) (hx : 0 ≤ x ∧ x + 5 ≤ N ∧ N ≤ 100000) (h : ∀ G1 I1 S1 M1 L1, SF N G1 I1 → RR u0 (c + 1) G1 I1 S1 M1 L1 → mu_WP mu_code d 229 1113 [(1, -2), (1, 0), (1, 115), (0, x)] [] G1 I1 Q) : mu_WP mu_code d 229 965 [(1, -2), (1, 0), (1, 115), (0, x)] [] G I Q := by
  obtain ⟨hG, hX, hO, ⟨s1, s2, s3⟩, hm, hz⟩ := id hR
  obtain ⟨o1, o2, o3, o4, o5, o6, o7, o8, o9, o10, o11⟩ := id hO
  have gM : MR G := hG.2.2.2.2.2.2.2.1
  refine vc_229_965 (by omega) _ _ _ _ ?_
  rw [wr_id (x := x + 1) (by omega) (by omega), wr_id (x := x + 2) (by omega) (by omega), wr_id (x := x + 3) (by omega) (by omega), hS.1]
  have fin : ∀ (y : Int) (I1 : mu_M) (L1 : List Int), FX I I1 → CX G I1 S L1 → (∀ I2, FB I1 I2 → TR I2 L1 → L1.length ≤ 8 → ((y = y → mu_WP mu_code d 229 1113 [(1, -2), (1, 0), (1, 115), (0, x)] [] G I2 Q) ∧ (¬ y = y → Q 0 G I2))) := by
    intro y I1 L1 f1 c1 I2 f2 t2 l2
    have fg : FXg G G I I1 := f1.g
    obtain ⟨m1, m2, m3⟩ := hR.mid fg
    exact ⟨fun _ => h G I2 _ M L1 ((hS.fxg hG fg).q f2.q) (hR.next hG fg c1 hO f2.q (by rw [f2.1 116 (by decide) (by decide)]; exact m1) t2 l2), fun hne => absurd rfl hne⟩
  refine ⟨⟨rfl, by omega, by dsimp only; omega⟩, ⟨rfl, by omega, by dsimp only; omega⟩, ⟨rfl, by omega, by dsimp only; omega⟩, hG.1.1, c_act (by omega) hG hX hO _ _ _ (fun hn I1 f1 c1 => ?_) (fun hy I1 f1 c1 => ?_)⟩
  · have fg : FXg G G I I1 := f1.g
    obtain ⟨m1, m2, m3⟩ := hR.mid fg
    have n1 : I1 (-2) = I (-2) := fg.1 (-2) (by omega)
    rw [n1, hS.1]
    refine ⟨⟨rfl, by omega, by dsimp only; omega⟩, ⟨rfl, by omega, by dsimp only; omega⟩, ⟨rfl, by omega, by dsimp only; omega⟩, gM.1, r_act (by omega) gM _ _ _ (by rw [m1]; exact o1) (fun _ I2 f2 t2 => fin 0 I1 [] f1 c1 I2 f2 t2 (by simp)) (fun hy => absurd (by rw [m1] at hy; exact hy) hn)⟩
  · have fg : FXg G G I I1 := f1.g
    obtain ⟨m1, m2, m3⟩ := hR.mid fg
    have n1 : I1 (-2) = I (-2) := fg.1 (-2) (by omega)
    rw [n1, hS.1]
    refine ⟨⟨rfl, by omega, by dsimp only; omega⟩, ⟨rfl, by omega, by dsimp only; omega⟩, ⟨rfl, by omega, by dsimp only; omega⟩, gM.1, r_act (by omega) gM _ _ _ (by rw [m1]; exact o1) (fun hn => absurd hy (by rw [m1] at hn; exact hn)) (fun _ I2 f2 t2 => ?_)⟩
    rw [m1] at t2 ⊢
    exact fin _ I1 _ f1 c1 I2 f2 t2 (actA_len _ _ _ _ _)
theorem lp_1064 (hd : d < 800) (hS : SF N G I) (hR : RR u0 c G I S M L) (hx : 0 ≤ x ∧ x + 5 ≤ N ∧ N ≤ 100000) (h : ∀ G1 I1 S1 M1 L1, SF N G1 I1 → RR u0 (c + 1) G1 I1 S1 M1 L1 → mu_WP mu_code d 229 1113 [(1, -2), (1, 0), (1, 115), (0, x)] [] G1 I1 Q) : mu_WP mu_code d 229 1064 [(1, -2), (1, 0), (1, 115), (0, x)] [] G I Q := by
  obtain ⟨hG, hX, hO, ⟨s1, s2, s3⟩, hm, hz⟩ := id hR
  obtain ⟨o1, o2, o3, o4, o5, o6, o7, o8, o9, o10, o11⟩ := id hO
  have gM : MR G := hG.2.2.2.2.2.2.2.1
  refine vc_229_1064 (by omega) _ _ _ _ ?_
  refine ⟨hG.1.1, c_image (by omega) hG hX hO ?_⟩
  intro G1 I1 g1 f1 c1 i1 e13
  obtain ⟨fb, fs, fr, fz, fu⟩ := f1
  have m1 : I1 116 = S := by rw [fb 116 (by omega)]; exact s1
  have gM1 : MR G1 := g1.2.2.2.2.2.2.2.1
  refine ⟨gM1.1, r_image (by omega) gM1 ?_⟩
  intro I2 q1 q2 q3 q4
  rw [m1] at q4 ⊢
  have far : ∀ b, (b < 115 ∨ 127 ≤ b) → I2 b = I1 b := fun b hb => q1 b (by omega) (by omega)
  refine ⟨fun _ => h G1 I2 S S L (hS.to (fun b _ => fs b) (fun b hb => by rw [far b (by omega), fb b (by omega)])) ⟨g1, c1.far o1 far, hO, ⟨by rw [q1 116 (by decide) (by decide)]; exact m1, ⟨?_, ?_⟩, s3⟩, ⟨⟨fun hz => ?_, fun hz => ?_⟩, fun _ => ⟨i1.far o1 far, hO, fun j j0 j1 => q4 j j0 j1⟩⟩, by omega, by omega⟩, fun hne => absurd rfl hne⟩
  · rw [q2 21 (by decide), fb 115 (by omega)]; exact s2.1
  · rw [q1 126 (by decide) (by decide), fb 126 (by omega)]; exact s2.2
  · rw [far 0 (by omega), e13] at hz; exact absurd hz (by decide)
  · rw [q3] at hz; exact absurd hz (by decide)
theorem lp_1077 (hd : d < 800) (hS : SF N G I) (hR : RR u0 c G I S M L) (hx : 0 ≤ x ∧ x + 5 ≤ N ∧ N ≤ 100000) (h : ∀ G1 I1 S1 M1 L1, SF N G1 I1 → RR u0 (c + 1) G1 I1 S1 M1 L1 → mu_WP mu_code d 229 1113 [(1, -2), (1, 0), (1, 115), (0, x)] [] G1 I1 Q) : mu_WP mu_code d 229 1077 [(1, -2), (1, 0), (1, 115), (0, x)] [] G I Q := by
  obtain ⟨hG, hX, hO, ⟨s1, s2, s3⟩, hm, hz⟩ := id hR
  obtain ⟨o1, o2, o3, o4, o5, o6, o7, o8, o9, o10, o11⟩ := id hO
  have gM : MR G := hG.2.2.2.2.2.2.2.1
  refine vc_229_1077 (by omega) _ _ _ _ ?_
  refine ⟨hG.1.1, c_undo (M := M) (by omega) hG hX (fun hh => ⟨(hm.2 hh).1, (hm.2 hh).2.1⟩) (fun h0 => ⟨gM.1, r_undo (by omega) gM (fun _ => ?_) (fun hn => absurd (hm.1.1 h0) hn)⟩) (fun hh G1 I1 g1 f1 c1 i1 e13 => ?_)⟩
  · exact ⟨fun _ => h G I S M L hS (hR.more), fun hne => absurd rfl hne⟩
  obtain ⟨b1, b2, b3⟩ := hm.2 hh
  obtain ⟨fb, fs, fr, fz, fu⟩ := f1
  have m1 : I1 116 = S := by rw [fb 116 (by omega)]; exact s1
  have m7 : I1 117 = I 117 := fb 117 (by omega)
  have m5 : I1 115 = I 115 := fb 115 (by omega)
  have gM1 : MR G1 := g1.2.2.2.2.2.2.2.1
  refine ⟨gM1.1, r_undo (by omega) gM1 (fun h0 => absurd (hm.1.2 (by rw [m5] at h0; exact h0)) hh) (fun _ I2 f2 r2 => ?_)⟩
  have eb : backS (I1 116) (I1 117) = backS S M := by
    rw [m1, m7]
    funext j
    unfold backS
    by_cases hj : 0 ≤ j ∧ j < 977
    · rw [if_pos hj, if_pos hj]; exact b3 j hj.1 hj.2
    · rw [if_neg hj, if_neg hj]
  rw [eb] at r2
  have far : ∀ b, (b < 115 ∨ 127 ≤ b) → I2 b = I1 b := fun b hb => f2 b (by omega)
  have hOM : OkS (backS S M) := b2.all (fun j j0 j1 => by unfold backS; rw [if_pos ⟨j0, j1⟩])
  rw [m7, b3 37 (by omega) (by omega)]
  refine ⟨fun _ => h G1 I2 (backS S M) M L (hS.to (fun b _ => fs b) (fun b hb => by rw [far b (by omega), fb b (by omega)])) ⟨g1, c1.far hOM.1 far, hOM, ⟨r2, ⟨?_, ?_⟩, s3⟩, ⟨?_, fun _ => ⟨i1.far b2.1 far, b2, fun j j0 j1 => by rw [f2 117 (by decide), m7]; exact b3 j j0 j1⟩⟩, by omega, by omega⟩, fun hne => absurd rfl hne⟩
  · rw [f2 115 (by decide), m5]; exact s2.1
  · rw [f2 126 (by decide), fb 126 (by omega)]; exact s2.2
  · rw [far 0 (by omega), e13, f2 115 (by decide), m5]; exact hm.1
theorem lp_195 (hd : d < 800) (hS : SF N G I) (hR : RR u0 c G I S M L) (hx : 0 ≤ x ∧ x + 5 ≤ N ∧ N ≤ 100000) (h : ∀ G1 I1 S1 M1 L1, SF N G1 I1 → RR u0 (c + 1) G1 I1 S1 M1 L1 → mu_WP mu_code d 229 1113 [(1, -2), (1, 0), (1, 115), (0, x)] [] G1 I1 Q) : mu_WP mu_code d 229 195 [(1, -2), (1, 0), (1, 115), (0, x)] [] G I Q := by
  obtain ⟨hG, hX, hO, ⟨s1, s2, s3⟩, hm, hz⟩ := id hR
  obtain ⟨o1, o2, o3, o4, o5, o6, o7, o8, o9, o10, o11⟩ := id hO
  have gM : MR G := hG.2.2.2.2.2.2.2.1
  refine vc_229_195 (by omega) _ _ _ _ ?_
  refine ⟨hG.1.1, c_law (by omega) hG hX hO hS.2.2.1 (fun h5 => ⟨gM.1, ?_⟩) (fun h5 I1 f1 c1 => ?_)⟩
  · refine r_law (by omega) gM hS.2.2.1 (by rw [s1]; omega) (by rw [s1]; exact o9) (fun _ => ?_) (fun hn => absurd (by rw [s1]; exact h5) hn)
    exact ⟨fun _ => h G I S M L hS (hR.more), fun hne => absurd rfl hne⟩
  have fg : FXg G G I I1 := f1.g
  obtain ⟨m1, m2, m3⟩ := hR.mid fg
  have hS1 := hS.fxg hG fg
  have tr2 : ∀ I2, FLa (S 38) I1 I2 → TR I2 L := fun I2 f2 => ⟨by rw [f2.2.1 21 (by decide)]; exact m2.1, by rw [f2.1 126 (by decide) (by decide)]; exact m2.2⟩
  have row : ∀ I2, FLa (S 38) I1 I2 → ∀ j, j ≠ 38 → j ≠ 41 → j ≠ 42 → j ≠ 267 + S 38 → j ≠ 272 + S 38 → (j < 277 + 140 * S 38 ∨ 277 + 140 * S 38 + 140 ≤ j) → I2 116 j = S j := fun I2 f2 j a b c d e f => by rw [f2.2.2 j a b c d e f, m1]
  have main : ∀ (y z : Int), y = z → mu_WP mu_code (d + 1) 148 0 [(1, 115), (3, 0)] [] G I1 (fun r5 G6 I7 => ((y = r5 → mu_WP mu_code d 229 1113 [(1, -2), (1, 0), (1, 115), (0, x)] [] G6 I7 Q) ∧ (¬ y = r5 → Q 0 G6 I7))) → sh G 115 = (12, 0) ∧ mu_WP mu_code (d + 1) 148 0 [(1, 115), (3, 0)] [] G I1 (fun r5 G6 I7 => ((y = r5 → mu_WP mu_code d 229 1113 [(1, -2), (1, 0), (1, 115), (0, x)] [] G6 I7 Q) ∧ (¬ y = r5 → Q 0 G6 I7))) := fun y z _ hw => ⟨gM.1, hw⟩
  refine ⟨fun gp => main _ _ rfl ?_, fun gp => main _ _ rfl ?_⟩
  · refine r_law (by omega) gM hS1.2.2.1 (by rw [m1]; omega) (by rw [m1]; exact o9) (fun hn => absurd (by rw [m1] at hn; exact hn) h5) (fun _ I2 f2 h41 => ?_)
    rw [m1] at f2 ⊢
    refine ⟨fun _ h38 h42 hL hc => ?_, fun hn => absurd gp hn⟩
    obtain ⟨ln, ok⟩ := law_row hO h5 (row I2 f2) h41 (fun _ => ⟨h38, h42, hL, hc⟩) (fun hn => absurd gp hn)
    exact ⟨fun _ => h G I2 _ M L (hS1.q f2.q) (hR.next hG fg (c1 _ ln) ok f2.q rfl (tr2 I2 f2) s3), fun hne => absurd rfl hne⟩
  · refine r_law (by omega) gM hS1.2.2.1 (by rw [m1]; omega) (by rw [m1]; exact o9) (fun hn => absurd (by rw [m1] at hn; exact hn) h5) (fun _ I2 f2 h41 => ?_)
    rw [m1] at f2 ⊢
    refine ⟨fun hg => absurd hg gp, fun _ h38 h42 => ?_⟩
    obtain ⟨ln, ok⟩ := law_row hO h5 (row I2 f2) h41 (fun hg => absurd hg gp) (fun _ => ⟨h38, h42⟩)
    exact ⟨fun _ => h G I2 _ M L (hS1.q f2.q) (hR.next hG fg (c1 _ ln) ok f2.q rfl (tr2 I2 f2) s3), fun hne => absurd rfl hne⟩
end

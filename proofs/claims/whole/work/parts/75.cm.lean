/-! THE CLASS'S CALLS: walls, what is asked of one, debts, rows, days -/
section
variable {d : Nat} {G : mu_G} {I : mu_M} {Q : Int → mu_G → mu_M → Prop} {S : Row} {L : List Int}
theorem CX.set {I1 : mu_M} {w : Int} (h : CW G I w S) (h1 : CW G I1 w S) : CW G I1 w S := h1
theorem c_setWall (hd : d < 970) {w : Int} (hG : GW G w) (hw : 0 ≤ w ∧ w + 31 ≤ 115) (hC : CW G I w S) (hI : Inv S) (hL : LW S) (c x : Int) (hc : 0 ≤ c ∧ c < S 43 * S 44) (hx : x = 0 ∨ x = 1) (h : ∀ I1, FW w I I1 → CW G I1 w (upR S (103 + c) x) → Q 0 G I1) : mu_WP mu_code d 75 0 [(1, w), (0, c), (0, x)] [] G I Q := by
  have hwh := hI.wh
  refine vc_75_0 (by omega) _ _ _ ⟨hG.1, k_isCell (by omega) hG hC hI c ⟨fun h1 => absurd hc (ifn h1), fun _ => ⟨hG.1, ?_⟩⟩⟩
  rw [hG.2.2.1, hG.2.2.2.2.2.2.1]
  refine ⟨⟨rfl, hc.1, by dsimp only; omega, hx⟩, ?_⟩
  intro I7 q7
  have ho : ∀ b, b ≠ w + 8 → I7 b = I b := fun b hb => by rw [q7, set_off _ hb]
  obtain ⟨⟨a1, a2, a3, a4, a5⟩, ⟨cls, hl, hA⟩, hn, hp⟩ := hC
  have hT : ∀ j, j ≠ 103 + c → upR S (103 + c) x j = S j := fun j hj => upR_ne _ hj
  have h4 := hI.2.1
  refine h I7 (fun b hb => ho b (by omega)) ⟨⟨by rw [ho _ (by omega), hT _ (by omega)]; exact a1, by rw [ho _ (by omega), hT _ (by omega)]; exact a2, by rw [ho _ (by omega), hT _ (by omega)]; exact a3, by rw [ho _ (by omega), hT _ (by omega)]; exact a4, ?_⟩, ⟨cls, hl.hi hL (fun j hj => hT j (by omega)), hA.keep (by rw [ho _ (by omega)]) (fun b b0 b1 => ho b (by omega))⟩, fun i i0 i1 => by rw [ho _ (by omega)]; exact hn i i0 i1, ?_⟩
  · intro e e0 e1
    rw [q7, set_row, upR_at, upR_at]
    by_cases hec : e = c
    · rw [if_pos hec, if_pos (by omega)]
    · rw [if_neg hec, if_neg (by omega)]; exact a5 e e0 e1
  · intro i i0 i1
    rw [hT 37 (by omega)] at i1
    have h9 := (hI.2.2.2.2.1 i i0 i1).2.2.1.2
    exact (hp i i0 i1).keep h9 (fun j _ => by rw [ho _ (by omega)]) (fun k _ _ => by rw [ho _ (by omega)]) (fun k _ _ => by rw [ho _ (by omega)]) (fun k _ _ => by rw [ho _ (by omega)]) (fun b hb => ho b (by omega)) (fun _ => rfl) rfl ⟨hT _ (by omega), hT _ (by omega), hT _ (by omega), hT _ (by omega), hT _ (by omega), hT _ (by omega), fun k k0 k1 => hT _ (by omega), fun k k0 k1 => ⟨hT _ (by omega), hT _ (by omega)⟩⟩
theorem c_wall (hd : d < 900) (hG : GS G) (hX : CX G I S L) (hO : OkS S) (c x : Int) (hx : x = 0 ∨ x = 1) (h : ∀ I1, FX I I1 → CX G I1 (wallS S c x).2 L → Q (wallS S c x).1 G I1) : mu_WP mu_code d 105 0 [(1, 0), (0, c), (0, x), (3, 0)] [] G I Q := by
  have c1 := hX.1
  obtain ⟨o1, o2, o3, o4, o5, o6, o7, o8, o9, o10, o11⟩ := id hO
  have gw := hG.2.2.2.1
  have hwh := o1.wh
  unfold wallS at h
  refine vc_105_0 (by omega) _ _ _ ?_
  rw [hG.1.2.2.2.2.2.2.1]
  refine ⟨hG.1.1, gw.1, k_isCell (by omega) gw c1 o1 c ⟨fun h1 => ?_, fun h1 => ⟨hG.1.1, ?_⟩⟩⟩
  · rw [if_pos (ifn h1)] at h; exact h I (FX.rf I) hX
  have hc := ifp h1
  rw [if_neg (fun hn => hn hc)] at h
  rw [hG.1.2.2.2.2.2.2.1]
  refine ⟨gw.1, k_isTaken (by omega) gw c1 o1 c ?_⟩
  by_cases ht : taken S c
  · rw [if_pos (pb_t ht)] at h
    exact ⟨fun h2 => absurd h2 (by rw [pb_t ht]; decide), fun _ => h I (FX.rf I) hX⟩
  rw [if_neg (by rw [pb_f ht]; decide)] at h
  have h : ∀ I1, FX I I1 → CX G I1 (upR S (103 + c) (if x = 0 then 0 else 1)) L → Q (S (103 + c)) G I1 := h
  have ex : (if x = 0 then 0 else 1) = x := by rcases hx with hx | hx <;> rw [hx] <;> rfl
  rw [ex] at h
  refine ⟨fun _ => ⟨hG.1.1, ?_⟩, fun h2 => absurd (by rw [pb_f ht]; rfl) h2⟩
  rw [hG.1.2.2.2.2.2.2.1]
  refine ⟨gw.1, k_hasWall (by omega) gw c1 o1 c ⟨hG.1.1, ?_⟩⟩
  rw [hG.1.2.2.2.2.2.2.1]
  refine ⟨gw.1, c_setWall (by omega) gw (by omega) c1 o1 o2 c x hc hx ?_⟩
  intro I1 f1 w1
  have hr := h I1 (f1.fx (Or.inl rfl)) (hX.world hO f1 w1 (fun j hj => upR_ne _ (by omega)))
  have h01 := o1.2.2.2.2.2 c hc.1 (by omega)
  refine ⟨fun h2 => ?_, fun h2 => ?_⟩
  · by_cases hs : S (103 + c) = 1
    · rw [if_pos ⟨hc, hs⟩] at h2; omega
    · rw [show S (103 + c) = 0 by omega] at hr; exact hr
  · by_cases hs : S (103 + c) = 1
    · rw [hs] at hr; exact hr
    · rw [if_neg (fun hh => hs hh.2)] at h2; exact absurd rfl h2
theorem c_now (hd : d < 900) (hG : GS G) (hX : CX G I S L) (h : Q (S 0) G I) : mu_WP mu_code d 112 0 [(1, 0)] [] G I Q := by
  have gw := hG.2.2.2.1
  refine vc_112_0 (by omega) _ ?_
  rw [hG.1.2.2.2.2.2.2.1, hX.1.1.2.2.2.1]
  exact ⟨hG.1.1, gw.1, h⟩
theorem c_day (hd : d < 900) (hG : GS G) (hX : CX G I S L) (hO : OkS S) (h : ∀ I1, FX I I1 → CX G I1 (dayA S).2 L → Q (dayA S).1 G I1) : mu_WP mu_code d 113 0 [(1, 0)] [] G I Q := by
  have c1 := hX.1
  obtain ⟨o1, o2, o3, o4, o5, o6, o7, o8, o9, o10, o11⟩ := id hO
  have gw := hG.2.2.2.1
  unfold dayA at h
  refine vc_113_0 (by omega) _ ?_
  rw [hG.1.2.2.2.2.2.2.1, c1.1.2.2.2.1]
  refine ⟨hG.1.1, gw.1, fun h1 => ?_, fun h1 => ?_⟩
  · rw [if_neg (by omega)] at h
    have h : ∀ I1, FX I I1 → CX G I1 (dayS S) L → Q (dayS S 0) G I1 := h
    refine k_goOneDay (by omega) gw (by omega) c1 o1 o2 (by omega) ?_
    intro I1 f1 w1
    rw [hG.1.2.2.2.2.2.2.1, w1.1.2.2.2.1]
    exact ⟨hG.1.1, gw.1, h I1 (f1.fx (Or.inl rfl)) (hX.world hO f1 w1 (fun j hj => dayS_hi o1 o2 j (by omega)))⟩
  · rw [if_pos (by omega)] at h
    exact h I (FX.rf I) hX
theorem c_of (hd : d < 900) (hG : GS G) (hX : CX G I S L) (hO : OkS S) (p w : Int) (hw : -2147483648 ≤ w ∧ w ≤ 2147483647) (h : ∀ I1, FX I I1 → CX G I1 S L → Q (ofS S p w) G I1) : mu_WP mu_code d 109 0 [(1, 0), (0, p), (0, w), (3, 0)] [] G I Q := by
  have c1 := hX.1
  obtain ⟨o1, o2, o3, o4, o5, o6, o7, o8, o9, o10, o11⟩ := id hO
  have gw := hG.2.2.2.1
  have h4 := o1.2.1
  unfold ofS at h
  refine vc_109_0 (by omega) _ _ _ ?_
  rw [hG.1.2.2.2.2.2.2.1]
  refine ⟨hG.1.1, gw.1, k_personAt (by omega) gw c1 o1 p ?_⟩
  by_cases hp : 0 ≤ p ∧ p < S 37
  · rw [if_pos hp]
    rw [if_neg (fun hn => hn hp)] at h
    obtain ⟨j1, j2, j3, j4, j5, j6, j7, j8⟩ := o1.2.2.2.2.1 p hp.1 hp.2
    obtain ⟨g1, g2⟩ := gw.p (i := p) (by omega)
    have hP := c1.2.2.2 p hp.1 hp.2
    obtain ⟨⟨p0, p2, p3, p4, p5, p6⟩, p7, p8, pk1, pk2, pk3⟩ := id hP
    have kk : mu_wk (sh G (rf G (16 + 11 + 5 * p) 1)) := by
      rw [pk2]
      unfold mu_wk kcl
      repeat' split
      all_goals simp
    rw [hG.1.2.2.2.2.2.2.1, p2, p3, p4, p5, p6, pk3]
    have same := h I (FX.rf I) hX
    refine ⟨fun hc => absurd hc (by omega), fun _ => ⟨fun h1 => ⟨g2.1, kk, ?_⟩, fun h1 => ⟨fun h2 => ⟨g2.1, ?_⟩, fun h2 => ⟨fun h3 => ⟨g2.1, ?_⟩, fun h3 => ⟨fun h5 => ⟨g2.1, ?_⟩, fun h5 => ⟨fun h6 => ⟨g2.1, ?_⟩, fun h6 => ⟨fun h7 => ⟨g2.1, ?_⟩, fun h7 => ⟨fun h8 => ⟨hG.1.1, gw.1, ?_⟩, fun h8 => ⟨fun h9 => ⟨hG.1.1, gw.1, ?_⟩, fun h9 => ⟨fun h10 => ⟨hG.1.1, gw.1, ?_⟩, fun h10 => ⟨fun h11 => ⟨g2.1, ?_⟩, fun h11 => ⟨g2.1, ?_⟩⟩⟩⟩⟩⟩⟩⟩⟩⟩⟩⟩
    · rw [if_pos h1] at same; exact same
    · rw [if_neg h1, if_pos h2] at same; exact same
    · rw [if_neg h1, if_neg h2, if_pos h3] at same; exact same
    · rw [if_neg h1, if_neg h2, if_neg h3, if_pos h5] at same; exact same
    · rw [if_neg h1, if_neg h2, if_neg h3, if_neg h5, if_pos h6] at same; exact same
    · rw [if_neg h1, if_neg h2, if_neg h3, if_neg h5, if_neg h6, if_pos h7] at same; exact same
    · rw [if_neg h1, if_neg h2, if_neg h3, if_neg h5, if_neg h6, if_neg h7, if_pos h8] at same
      exact k_aimOf (by omega) gw c1 o1 (by omega) p hp same
    · refine k_stepsOf (by omega) gw c1 o1 (by omega) p hp ?_
      intro I1 f1
      have := h I1 (f1.fw.fx (Or.inl rfl)) (hX.world hO f1.fw (f1.cw c1 o1 (by omega)) (fun _ _ => rfl))
      rw [if_neg h1, if_neg h2, if_neg h3, if_neg h5, if_neg h6, if_neg h7, if_neg h8, if_pos h9] at this
      exact this
    · refine k_earnsOf (by omega) gw c1 o1 (by omega) p hp ?_
      intro I1 f1
      have := h I1 (f1.fw.fx (Or.inl rfl)) (hX.world hO f1.fw (f1.cw c1 o1 (by omega)) (fun _ _ => rfl))
      rw [if_neg h1, if_neg h2, if_neg h3, if_neg h5, if_neg h6, if_neg h7, if_neg h8, if_neg h9, if_pos h10] at this
      exact this
    · rw [if_neg h1, if_neg h2, if_neg h3, if_neg h5, if_neg h6, if_neg h7, if_neg h8, if_neg h9, if_neg h10] at same
      refine k_creditorAt (by omega) g2 hP j3.2 _ ?_
      have wo : wr (w - 10) = w - 10 ∨ (w - 10 < -2147483648 ∧ 3 < wr (w - 10)) := by
        by_cases hh : -2147483648 ≤ w - 10
        · exact Or.inl (wr_id hh (by omega))
        · refine Or.inr ⟨by omega, ?_⟩
          have : wr (w - 10) = w - 10 + 4294967296 := wr_lowrap (by omega) (by omega)
          omega
      by_cases hc : 10 ≤ w ∧ w < 10 + S (9 + p)
      · rw [if_pos hc] at same
        rw [if_pos (by omega), show wr (w - 10) = w - 10 by omega]
        exact same
      · rw [if_neg hc, if_neg (by omega)] at same
        rw [if_neg (by omega)]
        exact same
    · rw [if_neg h1, if_neg h2, if_neg h3, if_neg h5, if_neg h6, if_neg h7, if_neg h8, if_neg h9, if_neg h10, if_neg (by omega)] at same
      refine k_sumAt (by omega) g2 hP j3.2 _ ?_
      rw [wr_id (x := w - 20) (by omega) (by omega)]
      by_cases hc : 20 ≤ w ∧ w < 20 + S (9 + p)
      · rw [if_pos hc] at same
        rw [if_pos (by omega)]
        exact same
      · rw [if_neg hc] at same
        rw [if_neg (by omega)]
        exact same
  · rw [if_neg hp]
    rw [if_pos hp] at h
    exact ⟨fun _ => h I (FX.rf I) hX, fun hn => absurd rfl hn⟩
theorem c_row (hd : d < 900) (hG : GS G) (hX : CX G I S L) (hO : OkS S) (p k w : Int) (h : ∀ I1, FX I I1 → CX G I1 (rowS S p k w).2 L → Q (rowS S p k w).1 G I1) : mu_WP mu_code d 111 0 [(1, 0), (0, p), (0, k), (0, w), (3, 0), (3, 0)] [] G I Q := by
  have c1 := hX.1
  obtain ⟨o1, o2, o3, o4, o5, o6, o7, o8, o9, o10, o11⟩ := id hO
  have gw := hG.2.2.2.1
  have h4 := o1.2.1
  unfold rowS at h
  refine vc_111_0 (by omega) _ _ _ _ ?_
  rw [hG.1.2.2.2.2.2.2.1]
  refine ⟨hG.1.1, gw.1, k_personAt (by omega) gw c1 o1 p ?_⟩
  by_cases hp : 0 ≤ p ∧ p < S 37
  · rw [if_pos hp]
    obtain ⟨j1, j2, j3, j4, j5, j6, j7, j8⟩ := o1.2.2.2.2.1 p hp.1 hp.2
    obtain ⟨g1, g2⟩ := gw.p (i := p) (by omega)
    have hP := c1.2.2.2 p hp.1 hp.2
    obtain ⟨⟨p0, p2, p3, p4, p5, p6⟩, p7, p8, pk1, pk2, pk3⟩ := id hP
    have kk : mu_wk (sh G (rf G (16 + 11 + 5 * p) 1)) := by
      rw [pk2]
      unfold mu_wk kcl
      repeat' split
      all_goals simp
    have htd : mu_b (mu_sub (sh G (rf G (16 + 11 + 5 * p) 1)).1 [8]) = (if S (45 + p) = 6 then 1 else 0) := by
      rw [pk2]
      have hk : S (45 + p) = 0 ∨ S (45 + p) = 1 ∨ S (45 + p) = 2 ∨ S (45 + p) = 3 ∨ S (45 + p) = 4 ∨ S (45 + p) = 5 ∨ S (45 + p) = 6 := by omega
      rcases hk with hk | hk | hk | hk | hk | hk | hk <;> rw [hk] <;> simp [kcl, mu_b, mu_sub]
    have none : ¬ (0 ≤ k ∧ k ≤ 3) → Q (-1) G I := by
      intro hk
      rw [if_pos (fun hc => hk hc.2)] at h
      exact h I (FX.rf I) hX
    refine ⟨fun hc => absurd hc (by omega), fun _ => ⟨fun h1 => none (by omega), fun h1 => ⟨fun h2 => ?_, fun h2 => none (by omega)⟩⟩⟩
    rw [if_neg (fun hc => hc ⟨hp, by omega⟩)] at h
    have bad : ¬ (0 ≤ w ∧ w ≤ 4) → Q (-2) G I := by
      intro hw
      rw [if_pos hw] at h
      exact h I (FX.rf I) hX
    refine ⟨fun h3 => bad (by omega), fun h3 => ⟨fun h5 => bad (by omega), fun h5 => ⟨g2.1, kk, ?_⟩⟩⟩
    rw [if_neg (fun hc => hc (show 0 ≤ w ∧ w ≤ 4 by omega))] at h
    rw [htd]
    refine ⟨fun h6 => ?_, fun h6 => ?_⟩
    · rw [if_pos (fun hc => by rw [if_pos hc] at h6; omega)] at h
      exact h I (FX.rf I) hX
    · have h66 : S (45 + p) = 6 := by
        by_cases hc : S (45 + p) = 6
        · exact hc
        · rw [if_neg hc] at h6; exact absurd rfl h6
      rw [if_neg (fun hc => hc h66)] at h
      have h : ∀ I1, FX I I1 → CX G I1 (upR S (57 + 4 * p + k) w) L → Q (S (57 + 4 * p + k)) G I1 := h
      rw [g2.2.1, g2.2.2.2.2.1, p7 k (by omega) (by omega)]
      refine ⟨⟨rfl, by omega, by dsimp only; omega⟩, ⟨by omega, rfl, by omega, by dsimp only; omega⟩, ?_⟩
      intro I1 q1
      have hT : ∀ j, j ≠ 57 + 4 * p + k → upR S (57 + 4 * p + k) w j = S j := fun j hj => upR_ne _ hj
      have ho : ∀ b, b ≠ 16 + 11 + 5 * p + 2 → I1 b = I b := fun b hb => by rw [q1, set_off _ hb]
      have fw : FW 16 I I1 := fun b hb => ho b (by omega)
      have f1 : FP1 (16 + 11 + 5 * p) I I1 := q1 ▸ FP1.w I (Or.inl (by omega))
      refine h I1 (fw.fx (Or.inl rfl)) (hX.world hO fw ?_ (fun j hj => hT j (by omega)))
      obtain ⟨⟨a1, a2, a3, a4, a5⟩, ⟨cls, hl, hA⟩, hn, hp2⟩ := c1
      refine ⟨⟨by rw [ho _ (by omega), hT _ (by omega)]; exact a1, by rw [ho _ (by omega), hT _ (by omega)]; exact a2, by rw [ho _ (by omega), hT _ (by omega)]; exact a3, by rw [ho _ (by omega), hT _ (by omega)]; exact a4, fun c e0 e1 => by rw [ho _ (by omega), hT _ (by omega)]; exact a5 c e0 e1⟩, ⟨cls, hl.hi o2 (fun j hj => hT j (by omega)), hA.keep (by rw [ho _ (by omega)]) (fun b b0 b1 => ho b (by omega))⟩, fun i i0 i1 => by rw [ho _ (by omega)]; exact hn i i0 i1, ?_⟩
      intro i i0 i1
      rw [hT 37 (by omega)] at i1
      have h9 := (o1.2.2.2.2.1 i i0 i1).2.2.1.2
      by_cases hip : i = p
      · subst hip
        refine ⟨⟨by rw [ho _ (by omega)]; exact p0, by rw [ho _ (by omega), hT _ (by omega)]; exact p2, by rw [ho _ (by omega), hT _ (by omega)]; exact p3, by rw [ho _ (by omega), hT _ (by omega)]; exact p4, by rw [ho _ (by omega), hT _ (by omega)]; exact p5, by rw [ho _ (by omega), hT _ (by omega)]; exact p6⟩, ?_, ?_, ?_⟩
        · intro m m0 m1
          rw [q1, set_row, upR_at, upR_at]
          by_cases hmk : m = k
          · rw [if_pos hmk, if_pos (by omega)]
          · rw [if_neg hmk, if_neg (by omega)]; exact p7 m m0 m1
        · intro m m0 m1
          rw [hT (9 + i) (by omega)] at m1
          rw [ho _ (by omega), ho _ (by omega), hT (13 + 3 * i + m) (by omega), hT (25 + 3 * i + m) (by omega)]
          exact p8 m m0 m1
        · rw [hT _ (by omega)]
          exact (show KD G I _ _ from ⟨pk1, pk2, pk3⟩).keep (fun b hb => ho b (by omega)) (fun _ => rfl)
      · exact (hp2 i i0 i1).keep h9 (fun j _ => by rw [ho _ (by omega)]) (fun k _ _ => by rw [ho _ (by omega)]) (fun k _ _ => by rw [ho _ (by omega)]) (fun k _ _ => by rw [ho _ (by omega)]) (fun b hb => ho b (by omega)) (fun _ => rfl) rfl ⟨hT _ (by omega), hT _ (by omega), hT _ (by omega), hT _ (by omega), hT _ (by omega), hT _ (by omega), fun k k0 k1 => hT _ (by omega), fun k k0 k1 => ⟨hT _ (by omega), hT _ (by omega)⟩⟩
  · rw [if_neg hp]
    rw [if_pos (fun hc => hp hc.1)] at h
    exact ⟨fun _ => h I (FX.rf I) hX, fun hn => absurd rfl hn⟩
end

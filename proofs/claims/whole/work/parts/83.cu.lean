/-! THE CLASS'S QUESTIONS: late, sit; its tracks -/
theorem PE.at {G : mu_G} {I : mu_M} {a i c : Int} {S : Row} (h : PE G I a S i) (hi : 0 ≤ i ∧ i < 4) (h9 : S (9 + i) ≤ 3) (ha : 0 ≤ a ∧ a + 5 ≤ 115) : PE G (mu_set I a 4 c) a (upR S (1 + i) c) i := by
  obtain ⟨⟨a1, a2, a3, a4, a5, a6⟩, a7, a8, a9⟩ := h
  have hT : ∀ j, j ≠ 1 + i → upR S (1 + i) c j = S j := fun j hj => upR_ne _ hj
  have h0 : ∀ j, j ≠ 4 → mu_set I a 4 c a j = I a j := fun j hj => by rw [set_row, upR_ne _ hj]
  refine ⟨⟨by rw [h0 _ (by decide)]; exact a1, by rw [h0 _ (by decide), hT _ (by omega)]; exact a2, by rw [h0 _ (by decide), hT _ (by omega)]; exact a3, by rw [set_row, upR_same, upR_same], by rw [h0 _ (by decide), hT _ (by omega)]; exact a5, by rw [h0 _ (by decide), hT _ (by omega)]; exact a6⟩, ?_, ?_, ?_⟩
  · intro k k0 k1
    rw [set_off _ (by omega), hT _ (by omega)]
    exact a7 k k0 k1
  · intro k k0 k1
    rw [hT _ (by omega)] at k1
    rw [set_off _ (by omega), set_off _ (by omega), hT _ (by omega), hT _ (by omega)]
    exact a8 k k0 k1
  · rw [hT _ (by omega)]
    exact a9.keep (fun b hb => set_off _ (by omega)) (fun _ => rfl)
section
variable {d : Nat} {G : mu_G} {I : mu_M} {Q : Int → mu_G → mu_M → Prop} {S T : Row} {L : List Int}
theorem c_late (hd : d < 880) (hG : GS G) (hX : CX G I S L) (hO : OkS S) (p c : Int) (h : ∀ G1 I1, GS G1 → FXg G G1 I I1 → CX G1 I1 S L → Q (lateS S p c) G1 I1) : mu_WP mu_code d 127 0 [(1, 0), (0, p), (0, c), (3, 0), (3, 0)] [] G I Q := by
  have o1 := hO.1
  have gw := hG.2.2.2.1
  have gt := hG.2.2.2.2.1
  have h4 := o1.2.1
  have hwh := o1.wh
  have r5 := hG.1.2.2.2.2.2.2.1
  have r6 : rf G 0 6 = 47 := hG.1.2.2.2.2.2.2.2.1
  have same : ∀ y, (∀ G1 I1, GS G1 → FXg G G1 I I1 → CX G1 I1 S L → Q y G1 I1) → Q y G I := fun y hy => hy G I hG (FX.rf I).g hX
  unfold lateS at h
  refine vc_127_0 (by omega) _ _ _ ?_
  rw [r5]
  refine ⟨hG.1.1, gw.1, k_isPerson (by omega) gw hX.1 o1 p ⟨fun h1 => ?_, fun h1 => ⟨hG.1.1, ?_⟩⟩⟩
  · rw [if_pos (fun hc => ifn h1 hc.1)] at h
    exact same _ h
  have hp := ifp h1
  rw [r5]
  refine ⟨gw.1, k_isCell (by omega) gw hX.1 o1 c ⟨fun h2 => ?_, fun h2 => ⟨hG.1.1, ?_⟩⟩⟩
  · rw [if_pos (fun hc => ifn h2 hc.2)] at h
    exact same _ h
  have hc := ifp h2
  rw [if_neg (fun hn => hn ⟨hp, hc⟩)] at h
  rw [r5]
  refine ⟨gw.1, k_hasWall (by omega) gw hX.1 o1 c ?_⟩
  by_cases hs : S (103 + c) = 1
  · rw [if_pos hs] at h
    rw [if_pos ⟨hc, hs⟩]
    exact ⟨fun hh => absurd hh (by decide), fun _ => same _ h⟩
  rw [if_neg hs] at h
  rw [if_neg (fun hh => hs hh.2)]
  refine ⟨fun _ => ⟨hG.1.1, ?_⟩, fun hh => absurd rfl hh⟩
  rw [r5]
  refine ⟨gw.1, k_isTaken (by omega) gw hX.1 o1 c ?_⟩
  by_cases ht : taken S c
  · rw [if_pos (pb_t ht)] at h
    exact ⟨fun h2 => absurd h2 (by rw [pb_t ht]; decide), fun _ => same _ h⟩
  rw [if_neg (by rw [pb_f ht]; decide)] at h
  refine ⟨fun _ => ⟨hG.1.1, ?_⟩, fun h2 => absurd (by rw [pb_f ht]; rfl) h2⟩
  rw [r5, r6]
  refine ⟨gt.1, t_copy (by omega) hG hX hO ?_⟩
  intro G1 I1 f1 x1
  have e : soC 1 p 0 = fun T => decide (T (9 + p) = 0) := by funext T; simp [soC]
  refine ⟨x1.1.1.1, t_firstDay (by omega) x1 o1 (hO.wd.lo (by omega)) 1 p 0 (Or.inr ⟨hp.1, hp.2, Or.inl rfl⟩) ?_⟩
  intro I2 f2 ⟨U2, x2⟩
  rw [e, show ffS (fun T : Row => decide (T (9 + p) = 0)) 61 0 S = freeF S p from rfl]
  have gs1 := x1.1
  have gt1 := gs1.2.2.2.2.1
  rw [gs1.1.2.2.2.2.2.2.1, gs1.1.2.2.2.2.2.2.2.1]
  refine ⟨gs1.1.1, gt1.1, t_copy (by omega) gs1 x2.2.1 hO ?_⟩
  intro G3 I3 f3 x3
  have gs3 := x3.1
  have gt3 := gs3.2.2.2.2.1
  rw [gs3.1.2.2.2.2.2.2.2.1]
  refine ⟨gs3.1.1, gt3.1, c_setWall (by omega) gt3 (by omega) x3.2.2 o1 hO.2.1 c 1 hc (Or.inr rfl) ?_⟩
  intro I4 f4 c4
  have x4 := x3.to o1 f4 c4
  have w4 : WD (upR S (103 + c) 1) 1000 := ⟨o1.wall (by omega) (Or.inr rfl), hO.2.1.off (by omega), by rw [upR_ne _ (by omega)]; exact hO.wd.2.2⟩
  refine ⟨gs3.1.1, t_firstDay (by omega) x4 o1 (w4.lo (by omega)) 1 p 0 (Or.inr ⟨hp.1, by rw [upR_ne _ (by omega)]; exact hp.2, Or.inl rfl⟩) ?_⟩
  intro I5 f5 ⟨U5, x5⟩
  rw [e, show ffS (fun T : Row => decide (T (9 + p) = 0)) 61 0 (upR S (103 + c) 1) = freeF (upR S (103 + c) 1) p from rfl]
  have ft := ((f1.tr f2).tr f3).tr ((show FT G3 G3 I3 I4 from ⟨GK.rf' 47 G3, f4⟩).tr f5)
  have hh := h G3 I5 gs3 ft.g x5.2.1
  have b1 := ffS_bd (c := fun T => decide (T (9 + p) = 0)) 61 0 S (by omega)
  have b2 := ffS_bd (c := fun T => decide (T (9 + p) = 0)) 61 0 (upR S (103 + c) 1) (by omega)
  change freeF S p = -5 ∨ (0 ≤ freeF S p ∧ freeF S p < 0 + (61 : Nat)) at b1
  change freeF (upR S (103 + c) 1) p = -5 ∨ (0 ≤ freeF (upR S (103 + c) 1) p ∧ freeF (upR S (103 + c) 1) p < 0 + (61 : Nat)) at b2
  generalize freeF (upR S (103 + c) 1) p = y at *
  generalize freeF S p = x at *
  refine ⟨fun h5 => ?_, fun h5 => ⟨fun h6 => ?_, fun h6 => ?_⟩⟩
  · rw [if_pos (Or.inr h5)] at hh; exact hh
  · rw [if_pos (Or.inl h6)] at hh; exact hh
  · rw [if_neg (by omega)] at hh
    rw [wr_id (by omega) (by omega)]; exact hh
theorem c_owedWhenAt (hd : d < 880) (hG : GS G) (hX : CX G I S L) (hO : OkS S) (p c n : Int) (hp : 0 ≤ p ∧ p < S 37) (hc : 0 ≤ c ∧ c < S 43 * S 44) (hn : 0 ≤ n ∧ n ≤ 30) (h : ∀ G1 I1, GS G1 → FT G G1 I I1 → CX G1 I1 S L → Q (sitF S p n c) G1 I1) : mu_WP mu_code d 129 0 [(1, 0), (0, p), (0, c), (0, n), (3, 0)] [] G I Q := by
  have o1 := hO.1
  have gw := hG.2.2.2.1
  have gt := hG.2.2.2.2.1
  have h4 := o1.2.1
  have hp4 : 0 ≤ p ∧ p < 4 := by omega
  have r5 := hG.1.2.2.2.2.2.2.1
  have r6 : rf G 0 6 = 47 := hG.1.2.2.2.2.2.2.2.1
  have j3 := (o1.2.2.2.2.1 p hp.1 hp.2).2.2.1
  refine vc_129_0 (by omega) _ _ _ _ ?_
  rw [r5, r6]
  refine ⟨hG.1.1, gt.1, t_copy (by omega) hG hX hO ?_⟩
  intro G1 I1 f1 x1
  have gs1 := x1.1
  have gt1 := gs1.2.2.2.2.1
  have r61 : rf G1 0 6 = 47 := gs1.1.2.2.2.2.2.2.2.1
  rw [r61]
  refine ⟨gs1.1.1, gt1.1, k_personAt (by omega) gt1 x1.2.2 o1 p ?_⟩
  rw [if_pos hp]
  refine ⟨fun hh => absurd hh (by omega), fun _ => ⟨(gt1.p hp4).2.1, ?_⟩⟩
  intro I2 q2
  have P2 : PE G1 I2 (47 + 11 + 5 * p) (upR S (1 + p) c) p := q2 ▸ (x1.2.2.2.2.2 p hp.1 hp.2).at hp4 j3.2 (by omega)
  have f2 : FP1 (47 + 11 + 5 * p) I1 I2 := q2 ▸ FP1.w I1 (Or.inr ⟨rfl, by omega⟩)
  have c2 : CW G1 I2 47 (upR S (1 + p) c) := x1.2.2.one o1 hO.2.1 (by omega) hp f2 P2 (upR_ne _ (by omega)) (fun j hj => upR_ne _ (by omega)) (fun r r0 r1 hrp => ⟨upR_ne _ (by omega), upR_ne _ (by omega), upR_ne _ (by omega), fun k k0 k1 => ⟨upR_ne _ (by omega), upR_ne _ (by omega)⟩⟩)
  have x2 := x1.to o1 (f2.fw hp4) c2
  have w2 : WD (upR S (1 + p) c) 1000 := ⟨o1.isC hp4 hc, hO.2.1.off (by omega), by rw [upR_ne _ (by omega)]; exact hO.wd.2.2⟩
  rw [r61, show n = (n.toNat : Int) by omega]
  refine ⟨gs1.1.1, gt1.1, k_goDays (by omega) gt1 (by omega) c2 n.toNat (by omega) (w2.lo (by omega)) ?_⟩
  intro I3 f3 c3
  have x3 := x2.to o1 f3 c3
  have w3 := goS_WD n.toNat _ 0 (w2.lo (by omega))
  rw [r61]
  refine ⟨gs1.1.1, gt1.1, k_owedTo (by omega) gt1 c3 w3.1 p ?_⟩
  exact h G1 I3 gs1 (f1.tr ⟨GK.rf' 47 G1, (f2.fw hp4).tr f3⟩) x3.2.1
theorem c_sit (hd : d < 870) (hG : GS G) (hX : CX G I S L) (hO : OkS S) (p n w : Int) (h : ∀ G1 I1, GS G1 → FXg G G1 I I1 → CX G1 I1 S L → Q (sitS S p n w) G1 I1) : mu_WP mu_code d 128 0 [(1, 0), (0, p), (0, n), (0, w), (3, 0), (3, 0), (3, 0), (3, 0)] [] G I Q := by
  have o1 := hO.1
  have gw := hG.2.2.2.1
  have h4 := o1.2.1
  have hwh := o1.wh
  have r5 := hG.1.2.2.2.2.2.2.1
  have same : ∀ y, (∀ G1 I1, GS G1 → FXg G G1 I I1 → CX G1 I1 S L → Q y G1 I1) → Q y G I := fun y hy => hy G I hG (FX.rf I).g hX
  unfold sitS at h
  refine vc_128_0 (by omega) _ _ _ _ ?_
  rw [r5]
  refine ⟨hG.1.1, gw.1, k_isPerson (by omega) gw hX.1 o1 p ⟨fun h1 => ?_, fun h1 => ?_⟩⟩
  · rw [if_pos (fun hc => ifn h1 hc.1)] at h
    exact same _ h
  have hp := ifp h1
  have none : ¬ (0 ≤ w ∧ w ≤ 1) → Q (-1) G I := by
    intro hw
    rw [if_pos (fun hc => hw hc.2)] at h
    exact same _ h
  refine ⟨fun h3 => none (by omega), fun h3 => ⟨fun h5 => none (by omega), fun h5 => ?_⟩⟩
  rw [if_neg (fun hn => hn ⟨hp, by omega, by omega⟩)] at h
  have bad : ¬ (0 ≤ n ∧ n ≤ 30) → Q (-2) G I := by
    intro hw
    rw [if_pos hw] at h
    exact same _ h
  refine ⟨fun h6 => bad (by omega), fun h6 => ⟨fun h7 => bad (by omega), fun h7 => ?_⟩⟩
  have hn : 0 ≤ n ∧ n ≤ 30 := by omega
  rw [if_neg (fun hc => hc hn)] at h
  obtain ⟨j1, j2, j3, j4, j5, j6, j7, j8⟩ := o1.2.2.2.2.1 p hp.1 hp.2
  have hhome := hO.2.2.2.2.1 p hp.1 hp.2
  suffices H : ∀ (m : Nat) (c b g l : Int) (v7 : mu_V) (G2 : mu_G) (I2 : mu_M), c + m = 64 → 0 ≤ c → ((g = -5 ∧ b = -1 ∧ c ≤ S (53 + p)) ∨ (g = b ∧ 0 ≤ b)) → FT G G2 I I2 → GS G2 → CX G2 I2 S L → (∀ G1 I1, GS G1 → FXg G G1 I I1 → CX G1 I1 S L → Q (siA w (siL S p n m c b l)) G1 I1) → mu_WP mu_code d 128 45 [(1, 0), (0, p), (0, n), (0, w), (0, g), (0, l), (0, c), v7] [] G2 I2 Q from
    H 64 0 (-1) (-5) 0 _ G I (by omega) (by omega) (by omega) (FT.rf' G I) hG hX h
  clear h none same bad
  have fin : ∀ (c b g l : Int) (v7 : mu_V) (G2 : mu_G) (I2 : mu_M), ¬ c < S 43 * S 44 → ((g = -5 ∧ b = -1 ∧ c ≤ S (53 + p)) ∨ (g = b ∧ 0 ≤ b)) → FT G G2 I I2 → GS G2 → CX G2 I2 S L → (∀ G1 I1, GS G1 → FXg G G1 I I1 → CX G1 I1 S L → Q (siA w (b, l)) G1 I1) → mu_WP mu_code d 128 45 [(1, 0), (0, p), (0, n), (0, w), (0, g), (0, l), (0, c), v7] [] G2 I2 Q := by
    intro c b g l v7 G2 I2 hc hg hf gs2 x2 hh
    have hh := hh G2 I2 gs2 hf.g x2
    unfold siA at hh
    refine vc_128_45 (by omega) _ _ _ _ _ _ _ _ ?_
    rw [gs2.1.2.2.2.2.2.2.1]
    refine ⟨gs2.1.1, gs2.2.2.2.1.1, k_cells (by omega) gs2.2.2.2.1 x2.1 o1 ⟨fun h1 => absurd h1 hc, fun _ => ⟨fun h1 => ?_, fun h1 => ?_⟩⟩⟩
    · rw [if_pos h1] at hh
      have e : g = b := by omega
      rw [e]; exact hh
    · rw [if_neg h1] at hh; exact hh
  intro m
  induction m with
  | zero =>
    intro c b g l v7 G2 I2 hc c0 hg hf gs2 x2 hh
    exact fin c b g l v7 G2 I2 (by omega) hg hf gs2 x2 hh
  | succ m ih =>
    intro c b g l v7 G2 I2 hc c0 hg hf gs2 x2 hh
    rw [siL] at hh
    by_cases hlt : c < S 43 * S 44
    · rw [if_pos hlt] at hh
      have gw2 := gs2.2.2.2.1
      refine vc_128_45 (by omega) _ _ _ _ _ _ _ _ ?_
      rw [gs2.1.2.2.2.2.2.2.1, wr_id (x := c + 1) (by omega) (by omega)]
      refine ⟨gs2.1.1, gw2.1, k_cells (by omega) gw2 x2.1 o1 ⟨fun _ => ⟨gs2.1.1, ?_⟩, fun h1 => absurd hlt h1⟩⟩
      rw [gs2.1.2.2.2.2.2.2.1]
      have h01 := o1.2.2.2.2.2 c c0 (by omega)
      refine ⟨gw2.1, k_hasWall (by omega) gw2 x2.1 o1 c ?_⟩
      by_cases hs : S (103 + c) = 1
      · rw [if_pos ⟨⟨c0, hlt⟩, hs⟩]
        rw [if_neg (fun hc => absurd hc.1 (by omega))] at hh
        refine ⟨fun hz => absurd hz (by decide), fun _ => ?_⟩
        refine ih (c + 1) b g l v7 G2 I2 (by omega) (by omega) ?_ hf gs2 x2 hh
        rcases hg with hg | hg
        · by_cases hcp : c = S (53 + p)
          · rw [hcp, hhome] at hs; omega
          · exact Or.inl ⟨hg.1, hg.2.1, by omega⟩
        · exact Or.inr hg
      · rw [if_neg (fun hz => hs hz.2)]
        refine ⟨fun _ => ⟨gs2.1.1, c_owedWhenAt (by omega) gs2 x2 hO p c n hp ⟨c0, hlt⟩ hn ?_⟩, fun hz => absurd rfl hz⟩
        intro G3 I3 gs3 f3 x3
        have yes : (b = -1 ∨ sitF S p n c < l) → mu_WP mu_code d 128 45 [(1, 0), (0, p), (0, n), (0, w), (0, c), (0, sitF S p n c), (0, c + 1), (0, sitF S p n c)] [] G3 I3 Q := by
          intro hy
          rw [if_pos ⟨by omega, hy⟩] at hh
          exact ih (c + 1) c c _ _ G3 I3 (by omega) (by omega) (Or.inr ⟨rfl, c0⟩) (hf.tr f3) gs3 x3 hh
        refine ⟨fun h8 => yes (by omega), fun h8 => ⟨fun h9 => yes (Or.inr h9), fun h9 => ?_⟩⟩
        rw [if_neg (fun hc => by have := hc.2; omega)] at hh
        exact ih (c + 1) b g l _ G3 I3 (by omega) (by omega) (Or.inr (by omega)) (hf.tr f3) gs3 x3 hh
    · rw [if_neg hlt] at hh
      exact fin c b g l v7 G2 I2 hlt hg hf gs2 x2 hh
theorem c_track (hd : d < 900) (hG : GS G) (hX : CX G I S L) (hO : OkS S) (c : Int) (h : ∀ I1, FX I I1 → CX G I1 (trackS S c).2 L → Q (trackS S c).1 G I1) : mu_WP mu_code d 130 0 [(1, 0), (0, c)] [] G I Q := by
  obtain ⟨c1, c2, c3, c4, c5, c6, c7, c8⟩ := id hX
  obtain ⟨o1, o2, o3, o4, o5, o6, o7, o8, o9, o10, o11⟩ := id hO
  have g1 := hG.2.1.2.1
  have gw := hG.2.2.2.1
  have r1 : rf G 0 1 = 3 := hG.1.2.2.1
  have r5 := hG.1.2.2.2.2.2.2.1
  unfold trackS at h
  refine vc_130_0 (by omega) _ _ ⟨fun h1 => ⟨hG.1.1, ?_⟩, fun h1 => ⟨hG.1.1, ?_⟩⟩
  · rw [if_pos h1] at h
    have h : ∀ I1, FX I I1 → CX G I1 (upR S 39 0) L → Q 0 G I1 := h
    rw [r1]
    refine ⟨g1.1, k_clear (by omega) (f := fun k => upR S 39 0 (73 + k)) g1 ?_⟩
    intro I1 f1 q1
    have hT : ∀ j, j ≠ 39 → upR S 39 0 j = S j := fun j hj => upR_ne _ hj
    refine h I1 (f1.fx (by omega)) (hX.rows o1 o2 (fun b hb => f1 b (by omega)) (fun j hj => hT j (by omega)) ?_ ?_ ?_ ?_ ?_)
    · exact RS.r (c := 100) (c4.keep (f1 _ (by omega)) (f1 _ (by omega))) (hT 41 (by omega)) o9.2 (fun j h0 h1 => hT j (by omega))
    · exact q1.same (by rw [upR_same]) (fun k k0 k1 => rfl)
    · exact RS.b (c6.keep (f1 _ (by omega)) (f1 _ (by omega))) (hT 40 (by omega)) o8.2 (fun j h0 h1 => hT j (by omega))
    · exact c7.keep (f1 _ (by omega)) (f1 _ (by omega))
    · rw [f1 0 (by omega), hT 38 (by omega)]; exact c8
  rw [if_neg h1] at h
  rw [r5]
  refine ⟨gw.1, k_isCell (by omega) gw hX.1 o1 c ⟨fun h2 => ?_, fun h2 => ⟨hG.1.1, ?_⟩⟩⟩
  · rw [if_pos (ifn h2)] at h
    exact h I (FX.rf I) hX
  have hc := ifp h2
  rw [if_neg (fun hn => hn hc)] at h
  rw [r1]
  refine ⟨g1.1, k_isFull (by omega) g1 c5 ⟨fun h3 => ?_, fun h3 => ?_⟩⟩
  · have hlt : S 39 < 6 := by
      by_cases hc : S 39 < 6
      · exact hc
      · rw [if_neg hc] at h3; omega
    rw [if_neg (by omega)] at h
    have h : ∀ I1, FX I I1 → CX G I1 (upR (upR S (73 + S 39) c) 39 (S 39 + 1)) L → Q (S 39 + 1) G I1 := h
    rw [r1]
    refine ⟨hG.1.1, g1.1, k_add (by omega) (by omega) g1 c5 ⟨o7.1, hlt, by omega⟩ c ?_⟩
    intro I1 f1 q1
    rw [r1]
    refine ⟨hG.1.1, g1.1, ?_⟩
    rw [q1.1.1]
    have hT : ∀ j, j ≠ 39 → j ≠ 73 + S 39 → upR (upR S (73 + S 39) c) 39 (S 39 + 1) j = S j := fun j h1 h2 => by rw [upR_ne _ h1, upR_ne _ h2]
    refine h I1 (f1.fx (by omega)) (hX.rows o1 o2 (fun b hb => f1 b (by omega)) (fun j hj => hT j (by omega) (by omega)) ?_ ?_ ?_ ?_ ?_)
    · exact RS.r (c := 100) (c4.keep (f1 _ (by omega)) (f1 _ (by omega))) (hT 41 (by omega) (by omega)) o9.2 (fun j h0 h1 => hT j (by omega) (by omega))
    · refine q1.same (by rw [upR_same]) (fun k k0 k1 => ?_)
      by_cases hk : k = S 39
      · rw [if_pos hk, upR_ne _ (by omega), hk, upR_same]
      · rw [if_neg hk, hT _ (by omega) (by omega)]
    · exact RS.b (c6.keep (f1 _ (by omega)) (f1 _ (by omega))) (hT 40 (by omega) (by omega)) o8.2 (fun j h0 h1 => hT j (by omega) (by omega))
    · exact c7.keep (f1 _ (by omega)) (f1 _ (by omega))
    · rw [f1 0 (by omega), hT 38 (by omega) (by omega)]; exact c8
  · have hge : ¬ S 39 < 6 := by
      intro hc
      rw [if_pos hc] at h3
      exact h3 rfl
    rw [if_pos (by omega)] at h
    exact h I (FX.rf I) hX
end

/-! THE CLASS'S QUESTIONS: the trial -/
/-- the trial stands as T, the rest as S says -/
def TX (G : mu_G) (I : mu_M) (S : Row) (L : List Int) (T : Row) : Prop := GS G ∧ CX G I S L ∧ CW G I 47 T
def FT (G G1 : mu_G) (I I1 : mu_M) : Prop := GK 47 G G1 ∧ FW 47 I I1
theorem FT.rf' (G : mu_G) (I : mu_M) : FT G G I I := ⟨GK.rf' 47 G, FW.rf 47 I⟩
theorem FT.tr {G G1 G2 : mu_G} {I I1 I2 : mu_M} (h : FT G G1 I I1) (h2 : FT G1 G2 I1 I2) : FT G G2 I I2 := ⟨h.1.tr h2.1, h.2.tr h2.2⟩
theorem FT.g {G G1 : mu_G} {I I1 : mu_M} (h : FT G G1 I I1) : FXg G G1 I I1 := (h.2.fx (Or.inr rfl)).gk h.1 (Or.inr rfl)
/-- the trial has changed -/
theorem TX.to {G : mu_G} {I I1 : mu_M} {S T U : Row} {L : List Int} (h : TX G I S L T) (hI : Inv S) (hf : FW 47 I I1) (hC : CW G I1 47 U) : TX G I1 S L U := ⟨h.1, h.2.1.trial hI (GK.rf' 47 G) hf hC.2.2.1, hC⟩
/-- what may be asked of a day -/
def soC (n a b : Int) : Row → Bool := fun T => if n = 2 then atOne T else if n = 1 then decide (T (9 + a) = 0) else if n = 3 then decide (T (1 + a) = b) else decide (T (1 + a) = T (1 + b))
section
variable {d : Nat} {G : mu_G} {I : mu_M} {Q : Int → mu_G → mu_M → Prop} {S T : Row} {L : List Int}
theorem t_copy (hd : d < 960) (hG : GS G) (hX : CX G I S L) (hO : OkS S) (h : ∀ G1 I1, FT G G1 I I1 → TX G1 I1 S L S → Q 0 G1 I1) : mu_WP mu_code d 94 0 [(1, 47), (1, 16), (3, 0)] [] G I Q := by
  have o1 := hO.1
  refine k_worldCopy (by omega) hG.2.2.2.2.1 hG.2.2.2.1 (by omega) (by omega) (by omega) hX.1 o1 hX.2.1 ?_
  intro G1 I1 hk hf c1 c2
  exact h G1 I1 ⟨hk, hf⟩ ⟨hG.k hk (Or.inr (Or.inl rfl)), hX.trial o1 hk hf c1.2.2.1, c1⟩
theorem t_day (hd : d < 900) (hX : TX G I S L T) (hI : Inv S) {n : Nat} (hW : WD T (n + 1)) (h : ∀ I1, FT G G I I1 → TX G I1 S L (dayS T) → WD (dayS T) n → Q 0 G I1) : mu_WP mu_code d 86 0 [(1, 47), (3, 0), (3, 0)] [] G I Q := by
  refine k_goOneDay (by omega) hX.1.2.2.2.2.1 (by omega) hX.2.2 hW.1 hW.2.1 (by have := hW.2.2; omega) ?_
  intro I1 f1 c1
  exact h I1 ⟨GK.rf' 47 G, f1⟩ (hX.to hI f1 c1) hW.day
theorem t_isSo (hd : d < 930) (hX : TX G I S L T) (hI : Inv T) (n a b : Int) (h0 : n = 2 ∨ (0 ≤ a ∧ a < T 37 ∧ (n = 1 ∨ n = 3 ∨ (0 ≤ b ∧ b < T 37)))) (h : Q (bi (soC n a b T)) G I) : mu_WP mu_code d 118 0 [(1, 0), (0, n), (0, a), (0, b), (3, 0), (3, 0)] [] G I Q := by
  have hG := hX.1
  have gt := hG.2.2.2.2.1
  have hC := hX.2.2
  have r6 : rf G 0 6 = 47 := hG.1.2.2.2.2.2.2.2.1
  have h4 := hI.2.1
  unfold soC at h
  refine vc_118_0 (by omega) _ _ _ _ ?_
  rw [r6]
  refine ⟨fun h1 => ⟨hG.1.1, gt.1, k_areAllAtOneCell (by omega) gt hC hI ?_⟩, fun h1 => ⟨hG.1.1, gt.1, k_personAt (by omega) gt hC hI a ?_⟩⟩
  · rw [if_pos h1] at h
    exact ⟨by cases atOne T <;> simp [bi], h⟩
  · have ha : 0 ≤ a ∧ a < T 37 := by omega
    rw [if_pos ha, r6]
    rw [if_neg h1] at h
    have Pa := hC.2.2.2 a ha.1 ha.2
    have ga := (gt.p (i := a) (by omega)).2
    rw [Pa.1.2.2.2.2.2, Pa.1.2.2.2.1]
    refine ⟨fun hc => absurd hc (by omega), fun _ => ⟨fun h2 => ⟨ga.1, fun h3 => ?_, fun h3 => ?_⟩, fun h2 => ⟨fun h5 => ⟨ga.1, fun h3 => ?_, fun h3 => ?_⟩, fun h5 => ⟨hG.1.1, gt.1, k_personAt (by omega) gt hC hI b ?_⟩⟩⟩⟩
    · rw [if_pos h2, decide_eq_true h3] at h; exact h
    · rw [if_pos h2, decide_eq_false h3] at h; exact h
    · rw [if_neg h2, if_pos h5, decide_eq_true h3] at h; exact h
    · rw [if_neg h2, if_pos h5, decide_eq_false h3] at h; exact h
    · have hb : 0 ≤ b ∧ b < T 37 := by omega
      have Pb := hC.2.2.2 b hb.1 hb.2
      have gb := (gt.p (i := b) (by omega)).2
      rw [if_neg h2, if_neg h5] at h
      rw [if_pos hb, Pa.1.2.2.2.1, Pb.1.2.2.2.1]
      refine ⟨fun hc => absurd hc (by omega), fun _ => ⟨ga.1, gb.1, fun h3 => ?_, fun h3 => ?_⟩⟩
      · rw [decide_eq_true h3] at h; exact h
      · rw [decide_eq_false h3] at h; exact h
theorem t_firstDay (hd : d < 890) (hX : TX G I S L T) (hI : Inv S) (hW : WD T 61) (n a b : Int) (h0 : n = 2 ∨ (0 ≤ a ∧ a < T 37 ∧ (n = 1 ∨ n = 3 ∨ (0 ≤ b ∧ b < T 37)))) (h : ∀ I1, FT G G I I1 → (∃ U, TX G I1 S L U) → Q (ffS (soC n a b) 61 0 T) G I1) : mu_WP mu_code d 117 0 [(1, 0), (0, n), (0, a), (0, b), (3, 0)] [] G I Q := by
  refine vc_117_0 (by omega) _ _ _ _ ?_
  suffices H : ∀ (m : Nat) (k : Int) (U : Row) (I2 : mu_M), k + m = 61 → 0 ≤ k → FT G G I I2 → TX G I2 S L U → WD U m → U 37 = T 37 → (∀ I1, FT G G I I1 → (∃ U, TX G I1 S L U) → Q (ffS (soC n a b) m k U) G I1) → mu_WP mu_code d 117 3 [(1, 0), (0, n), (0, a), (0, b), (0, k)] [] G I2 Q from
    H 61 0 T I (by omega) (by omega) (FT.rf' G I) hX hW rfl h
  clear h hW
  intro m
  induction m with
  | zero =>
    intro k U I2 hk k0 hf hx hw h37 hq
    exact vc_117_3 (by omega) _ _ _ _ _ ⟨fun _ => hq I2 hf ⟨U, hx⟩, fun h1 => absurd (by omega) h1⟩
  | succ m ih =>
    intro k U I2 hk k0 hf hx hw h37 hq
    rw [ffS] at hq
    have r6 : rf G 0 6 = 47 := hx.1.1.2.2.2.2.2.2.2.1
    refine vc_117_3 (by omega) _ _ _ _ _ ⟨fun h1 => absurd h1 (by omega), fun _ => ⟨hx.1.1.1, t_isSo (by omega) hx hw.1 n a b (by rw [h37]; exact h0) ?_⟩⟩
    rw [r6, wr_id (x := k + 1) (by omega) (by omega)]
    refine ⟨fun h2 => ⟨hx.1.1.1, hx.1.2.2.2.2.1.1, t_day (by omega) hx hI hw ?_⟩, fun h2 => ?_⟩
    · intro I3 f3 x3 w3
      rw [if_neg (by rw [(bi_not _).1 h2]; decide)] at hq
      exact ih (k + 1) (dayS U) I3 (by omega) (by omega) (hf.tr f3) x3 w3 (by rw [dayS_hi hw.1 hw.2.1 37 (by omega), h37]) hq
    · have hb : soC n a b U = true := by cases hb : soC n a b U <;> simp [hb, bi] at h2 ⊢
      rw [if_pos hb] at hq
      exact hq I2 hf ⟨U, hx⟩
theorem c_isAhead (hd : d < 990) (x : Int) (h : Q (if 0 ≤ x ∧ x ≤ 60 then 1 else 0) G I) : mu_WP mu_code d 115 0 [(0, x)] [] G I Q := by
  refine vc_115_0 (by omega) _ ⟨fun h1 => ?_, fun h1 => ⟨fun h2 => ?_, fun h2 => ?_⟩⟩
  · rw [if_neg (by omega)] at h; exact h
  · rw [if_neg (by omega)] at h; exact h
  · rw [if_pos (by omega)] at h; exact h
theorem c_on (hd : d < 880) (hG : GS G) (hX : CX G I S L) (hO : OkS S) (p n w : Int) (h : ∀ G1 I1, GS G1 → FXg G G1 I I1 → CX G1 I1 S L → Q (onS S p n w) G1 I1) : mu_WP mu_code d 114 0 [(1, 0), (0, p), (0, n), (0, w), (3, 0)] [] G I Q := by
  have o1 := hO.1
  have gw := hG.2.2.2.1
  have gt := hG.2.2.2.2.1
  have h4 := o1.2.1
  have r5 := hG.1.2.2.2.2.2.2.1
  have r6 : rf G 0 6 = 47 := hG.1.2.2.2.2.2.2.2.1
  have same : ∀ y, (∀ G1 I1, GS G1 → FXg G G1 I I1 → CX G1 I1 S L → Q y G1 I1) → Q y G I := fun y hy => hy G I hG (FX.rf I).g hX
  unfold onS at h
  refine vc_114_0 (by omega) _ _ _ _ ?_
  rw [r5]
  refine ⟨hG.1.1, gw.1, k_isPerson (by omega) gw hX.1 o1 p ⟨fun h1 => ?_, fun h1 => ?_⟩⟩
  · rw [if_pos (fun hc => ifn h1 hc.1)] at h
    exact same _ h
  have hp := ifp h1
  have none : ¬ (0 ≤ w ∧ w ≤ 2) → Q (-1) G I := by
    intro hw
    rw [if_pos (fun hc => hw hc.2)] at h
    exact same _ h
  refine ⟨fun h2 => none (by omega), fun h2 => ⟨fun h3 => none (by omega), fun h3 => c_isAhead (by omega) n ⟨fun h5 => ?_, fun h5 => ⟨hG.1.1, ?_⟩⟩⟩⟩
  · rw [if_neg (fun hc => hc ⟨hp, by omega⟩), if_pos (ifm h5)] at h
    exact same _ h
  have hn := ifq h5
  rw [if_neg (fun hc => hc ⟨hp, by omega⟩), if_neg (fun hc => hc hn)] at h
  rw [r5, r6]
  refine ⟨gt.1, t_copy (by omega) hG hX hO ?_⟩
  intro G1 I1 f1 x1
  have gs1 := x1.1
  have gt1 := gs1.2.2.2.2.1
  have r61 : rf G1 0 6 = 47 := gs1.1.2.2.2.2.2.2.2.1
  rw [r61, show n = (n.toNat : Int) by omega]
  refine ⟨gs1.1.1, gt1.1, k_goDays (by omega) gt1 (by omega) x1.2.2 n.toNat (by omega) (hO.wd.lo (by omega)) ?_⟩
  intro I2 f2 c2
  have wT : WD (goS n.toNat S) 0 := goS_WD _ _ 0 (hO.wd.lo (by omega))
  have e37 : goS n.toNat S 37 = S 37 := goS_hi _ _ (hO.wd.lo (by omega)) 37 (by omega)
  have x2 := x1.to o1 f2 c2
  rw [r61]
  refine ⟨gs1.1.1, gt1.1, k_personAt (by omega) gt1 c2 wT.1 p ?_⟩
  rw [if_pos (by rw [e37]; exact hp)]
  have P := c2.2.2.2 p hp.1 (by rw [e37]; exact hp.2)
  obtain ⟨j1, j2, j3, j4, j5, j6, j7, j8⟩ := wT.1.2.2.2.2.1 p hp.1 (by rw [e37]; exact hp.2)
  have gp := (gt1.p (i := p) (by omega)).2
  have hf := h G1 I2 gs1 (f1.tr ⟨GK.rf' 47 G1, f2⟩).g x2.2.1
  rw [P.1.2.2.2.1, P.1.2.2.2.2.1]
  refine ⟨fun hc => absurd hc (by omega), fun _ => ⟨fun h6 => ⟨gp.1, ?_⟩, fun h6 => ⟨fun h7 => ⟨gp.1, ?_⟩, fun h7 => ⟨gp.1, ?_⟩⟩⟩⟩
  · rw [if_pos h6] at hf; exact hf
  · rw [if_neg h6, if_pos h7] at hf; exact hf
  · rw [if_neg h6, if_neg h7] at hf
    exact k_owesTogether (by omega) gp P j3.2 (fun k k0 k1 => (j7 k k0 k1).2) hf
theorem c_meet (hd : d < 880) (hG : GS G) (hX : CX G I S L) (hO : OkS S) (a b : Int) (h : ∀ G1 I1, GS G1 → FXg G G1 I I1 → CX G1 I1 S L → Q (meetS S a b) G1 I1) : mu_WP mu_code d 116 0 [(1, 0), (0, a), (0, b)] [] G I Q := by
  have o1 := hO.1
  have gw := hG.2.2.2.1
  have gt := hG.2.2.2.2.1
  have r5 := hG.1.2.2.2.2.2.2.1
  have r6 : rf G 0 6 = 47 := hG.1.2.2.2.2.2.2.2.1
  have same : ∀ y, (∀ G1 I1, GS G1 → FXg G G1 I I1 → CX G1 I1 S L → Q y G1 I1) → Q y G I := fun y hy => hy G I hG (FX.rf I).g hX
  unfold meetS at h
  refine vc_116_0 (by omega) _ _ _ ?_
  rw [r5]
  refine ⟨hG.1.1, gw.1, k_isPerson (by omega) gw hX.1 o1 a ⟨fun h1 => ?_, fun h1 => ⟨hG.1.1, ?_⟩⟩⟩
  · rw [if_pos (fun hc => ifn h1 hc.1)] at h
    exact same _ h
  have ha := ifp h1
  rw [r5]
  refine ⟨gw.1, k_isPerson (by omega) gw hX.1 o1 b ⟨fun h2 => ?_, fun h2 => ?_⟩⟩
  · rw [if_pos (fun hc => ifn h2 hc.2)] at h
    exact same _ h
  have hb := ifp h2
  rw [if_neg (fun hc => hc ⟨ha, hb⟩)] at h
  refine ⟨fun h3 => ?_, fun h3 => ⟨hG.1.1, ?_⟩⟩
  · rw [if_pos h3] at h
    exact same _ h
  rw [if_neg h3] at h
  rw [r5, r6]
  refine ⟨gt.1, t_copy (by omega) hG hX hO ?_⟩
  intro G1 I1 f1 x1
  refine ⟨x1.1.1.1, t_firstDay (by omega) x1 o1 (hO.wd.lo (by omega)) 0 a b (Or.inr ⟨ha.1, ha.2, Or.inr (Or.inr hb)⟩) ?_⟩
  intro I2 f2 ⟨U, x2⟩
  have e : soC 0 a b = fun T => decide (T (1 + a) = T (1 + b)) := by funext T; simp [soC]
  rw [e]
  exact h G1 I2 x2.1 (f1.tr f2).g x2.2.1
theorem c_free (hd : d < 880) (hG : GS G) (hX : CX G I S L) (hO : OkS S) (p : Int) (h : ∀ G1 I1, GS G1 → FXg G G1 I I1 → CX G1 I1 S L → Q (freeS S p) G1 I1) : mu_WP mu_code d 119 0 [(1, 0), (0, p)] [] G I Q := by
  have o1 := hO.1
  have gw := hG.2.2.2.1
  have gt := hG.2.2.2.2.1
  have r5 := hG.1.2.2.2.2.2.2.1
  have r6 : rf G 0 6 = 47 := hG.1.2.2.2.2.2.2.2.1
  unfold freeS at h
  refine vc_119_0 (by omega) _ _ ?_
  rw [r5]
  refine ⟨hG.1.1, gw.1, k_isPerson (by omega) gw hX.1 o1 p ⟨fun h1 => ?_, fun h1 => ⟨hG.1.1, ?_⟩⟩⟩
  · rw [if_pos (ifn h1)] at h
    exact h G I hG (FX.rf I).g hX
  have hp := ifp h1
  rw [if_neg (fun hc => hc hp)] at h
  rw [r5, r6]
  refine ⟨gt.1, t_copy (by omega) hG hX hO ?_⟩
  intro G1 I1 f1 x1
  refine ⟨x1.1.1.1, t_firstDay (by omega) x1 o1 (hO.wd.lo (by omega)) 1 p 0 (Or.inr ⟨hp.1, hp.2, Or.inl rfl⟩) ?_⟩
  intro I2 f2 ⟨U, x2⟩
  have e : soC 1 p 0 = fun T => decide (T (9 + p) = 0) := by funext T; simp [soC]
  rw [e]
  exact h G1 I2 x2.1 (f1.tr f2).g x2.2.1
theorem c_spot (hd : d < 880) (hG : GS G) (hX : CX G I S L) (hO : OkS S) (h : ∀ G1 I1, GS G1 → FXg G G1 I I1 → CX G1 I1 S L → Q (spotS S) G1 I1) : mu_WP mu_code d 120 0 [(1, 0)] [] G I Q := by
  have o1 := hO.1
  have gt := hG.2.2.2.2.1
  have r5 := hG.1.2.2.2.2.2.2.1
  have r6 : rf G 0 6 = 47 := hG.1.2.2.2.2.2.2.2.1
  refine vc_120_0 (by omega) _ ?_
  rw [r5, r6]
  refine ⟨hG.1.1, gt.1, t_copy (by omega) hG hX hO ?_⟩
  intro G1 I1 f1 x1
  refine ⟨x1.1.1.1, t_firstDay (by omega) x1 o1 (hO.wd.lo (by omega)) 2 0 0 (Or.inl rfl) ?_⟩
  intro I2 f2 ⟨U, x2⟩
  have e : soC 2 0 0 = atOne := by funext T; simp [soC]
  rw [e]
  exact h G1 I2 x2.1 (f1.tr f2).g x2.2.1
theorem c_again (hd : d < 880) (hG : GS G) (hX : CX G I S L) (hO : OkS S) (w : Int) (h : ∀ G1 I1, GS G1 → FXg G G1 I I1 → CX G1 I1 S L → Q (againS S w) G1 I1) : mu_WP mu_code d 121 0 [(1, 0), (0, w), (3, 0)] [] G I Q := by
  have o1 := hO.1
  have gt := hG.2.2.2.2.1
  have r5 := hG.1.2.2.2.2.2.2.1
  have r6 : rf G 0 6 = 47 := hG.1.2.2.2.2.2.2.2.1
  unfold againS at h
  have none : ¬ (0 ≤ w ∧ w ≤ 1) → Q (-1) G I := by
    intro hw
    rw [if_pos hw] at h
    exact h G I hG (FX.rf I).g hX
  refine vc_121_0 (by omega) _ _ ⟨fun h1 => none (by omega), fun h1 => ⟨fun h2 => none (by omega), fun h2 => ?_⟩⟩
  have hw : 0 ≤ w ∧ w ≤ 1 := by omega
  rw [if_neg (fun hc => hc hw)] at h
  rw [r5, r6]
  refine ⟨hG.1.1, gt.1, t_copy (by omega) hG hX hO ?_⟩
  intro G1 I1 f1 x1
  suffices H : ∀ (m : Nat) (k : Int) (T : Row) (I2 : mu_M), k + m = 61 → 1 ≤ k → FT G1 G1 I1 I2 → TX G1 I2 S L T → WD T m → T 37 = S 37 → (∀ G1 I1, GS G1 → FXg G G1 I I1 → CX G1 I1 S L → Q (ffS (fun T => pb (asK T S w)) m k (dayS T)) G1 I1) → mu_WP mu_code d 121 24 [(1, 0), (0, w), (0, k)] [] G1 I2 Q from
    H 60 1 S I1 (by omega) (by omega) (FT.rf' G1 I1) x1 (hO.wd.lo (by omega)) rfl h
  clear h
  intro m
  induction m with
  | zero =>
    intro k T I2 hk k0 hf hx hw2 h37 hq
    exact vc_121_24 (by omega) _ _ _ ⟨fun _ => hq G1 I2 hx.1 (f1.tr hf).g hx.2.1, fun h1 => absurd (by omega) h1⟩
  | succ m ih =>
    intro k T I2 hk k0 hf hx hw2 h37 hq
    have r51 := x1.1.1.2.2.2.2.2.2.1
    have r61 : rf G1 0 6 = 47 := x1.1.1.2.2.2.2.2.2.2.1
    have gt1 := x1.1.2.2.2.2.1
    have gw1 := x1.1.2.2.2.1
    rw [ffS] at hq
    refine vc_121_24 (by omega) _ _ _ ⟨fun h1 => absurd h1 (by omega), fun _ => ?_⟩
    rw [r61]
    refine ⟨x1.1.1.1, gt1.1, t_day (by omega) hx o1 hw2 ?_⟩
    intro I3 f3 x3 w3
    have e37 : dayS T 37 = S 37 := by rw [dayS_hi hw2.1 hw2.2.1 37 (by omega), h37]
    rw [r51, r61, wr_id (x := k + 1) (by omega) (by omega)]
    have go : ∀ x : Int, (if x = 0 then 1 else 0) = w → mu_WP mu_code (d + 1) 97 0 [(1, 47), (1, 16), (0, x), (3, 0), (3, 0), (3, 0)] [] G1 I3 (fun r G2 I4 => (r = 0 → mu_WP mu_code d 121 24 [(1, 0), (0, w), (0, k + 1)] [] G2 I4 Q) ∧ (¬ r = 0 → Q k G2 I4)) := by
      intro x hx2
      refine k_isAs (by omega) gt1 gw1 x3.2.2 x3.2.1.1 w3.1 o1 e37 x (fun hs => ⟨fun hc => absurd hc (by decide), fun _ => ?_⟩) (fun hs => ⟨fun _ => ?_, fun hc => absurd rfl hc⟩)
      · rw [hx2] at hs
        rw [if_pos (pb_t hs)] at hq
        exact hq G1 I3 x3.1 (f1.tr (hf.tr f3)).g x3.2.1
      · rw [hx2] at hs
        rw [if_neg (by rw [pb_f hs]; decide)] at hq
        exact ih (k + 1) (dayS T) I3 (by omega) (by omega) (hf.tr f3) x3 w3 e37 hq
    refine ⟨x1.1.1.1, fun h5 => ⟨gt1.1, go 1 (by rw [if_neg (by decide)]; exact h5.symm)⟩, fun h5 => ⟨gt1.1, go 0 (by rw [if_pos rfl]; omega)⟩⟩
end

/-! THE CLASS'S QUESTIONS: whom -/
section
variable {d : Nat} {G : mu_G} {I : mu_M} {Q : Int → mu_G → mu_M → Prop} {S T : Row} {L : List Int}
/-- the one at p of the trial owes otherwise -/
theorem TX.debts {I1 : mu_M} {p : Int} {U : Row} (hX : TX G I S L T) (hI : Inv S) (hT : Inv T) (hL : LW T) (hp : 0 ≤ p ∧ p < T 37) (f1 : FP1 (47 + 11 + 5 * p) I I1) (p1 : PE G I1 (47 + 11 + 5 * p) U p) (off : ∀ j, (j ≠ 5 + p ∧ j ≠ 9 + p ∧ (j < 13 + 3 * p ∨ 13 + 3 * p + 3 ≤ j) ∧ (j < 25 + 3 * p ∨ 25 + 3 * p + 3 ≤ j)) → U j = T j) : FT G G I I1 ∧ TX G I1 S L U := by
  have h4 := hT.2.1
  have hp4 : 0 ≤ p ∧ p < 4 := by omega
  refine ⟨⟨GK.rf' 47 G, f1.fw hp4⟩, hX.to hI (f1.fw hp4) (hX.2.2.one hT hL (by omega) hp f1 p1 (off 0 (by omega)) (fun j hj => off j (by omega)) ?_)⟩
  intro r r0 r1 hrp
  exact ⟨off _ (by omega), off _ (by omega), off _ (by omega), fun k k0 k1 => ⟨off _ (by omega), off _ (by omega)⟩⟩
theorem c_tryOwing (hd : d < 890) (hG : GS G) (hX : CX G I S L) (hO : OkS S) (p q : Int) (hp : 0 ≤ p ∧ p < S 37) (hq : 0 ≤ q ∧ q < S 37) (h0 : ¬ (q ≠ p ∧ debtTo S p q = -1) → Q 0 G I) (h1 : (q ≠ p ∧ debtTo S p q = -1) → ∀ G1 I1, FT G G1 I I1 → TX G1 I1 S L (ptS S p 0 q 99) → WD (ptS S p 0 q 99) 1000 → Q 1 G1 I1) : mu_WP mu_code d 123 0 [(1, 0), (0, p), (0, q), (3, 0), (3, 0)] [] G I Q := by
  have o1 := hO.1
  have gw := hG.2.2.2.1
  have gt := hG.2.2.2.2.1
  have h4 := o1.2.1
  have hp4 : 0 ≤ p ∧ p < 4 := by omega
  have r5 := hG.1.2.2.2.2.2.2.1
  have r6 : rf G 0 6 = 47 := hG.1.2.2.2.2.2.2.2.1
  have j3 := (o1.2.2.2.2.1 p hp.1 hp.2).2.2.1
  have gp := (gw.p hp4).2
  have P := hX.1.2.2.2 p hp.1 hp.2
  refine vc_123_0 (by omega) _ _ _ ?_
  rw [r5]
  refine ⟨hG.1.1, gw.1, k_personAt (by omega) gw hX.1 o1 p ?_⟩
  rw [if_pos hp]
  refine ⟨fun hc => absurd hc (by omega), fun _ => ⟨fun h2 => h0 (fun hc => hc.1 h2.symm), fun h2 => ⟨gp.1, k_placeOfDebt (by omega) gp P j3.2 q ⟨fun h3 => ⟨hG.1.1, ?_⟩, fun h3 => h0 (fun hc => h3 (by rw [hc.2]; decide))⟩⟩⟩⟩
  have hn : debtTo S p q = -1 := by
    by_cases hc : debtTo S p q = -1
    · exact hc
    · have := (dT_some 3 0 (by omega) hc).1
      change 0 ≤ debtTo S p q at this
      omega
  have hqp : q ≠ p := fun e => h2 e.symm
  have h9 := room o1 hO.2.2.1 hp hq hqp hn
  rw [r5, r6]
  refine ⟨gt.1, t_copy (by omega) hG hX hO ?_⟩
  intro G1 I1 f1 x1
  have gs1 := x1.1
  have gt1 := gs1.2.2.2.2.1
  have r61 : rf G1 0 6 = 47 := gs1.1.2.2.2.2.2.2.2.1
  rw [r61]
  refine ⟨gs1.1.1, gt1.1, k_personAt (by omega) gt1 x1.2.2 o1 p ?_⟩
  rw [if_pos hp]
  have gp1 := (gt1.p hp4).2
  refine ⟨fun hc => absurd hc (by omega), fun _ => ⟨gp1.1, vc_37_0 (by omega) _ _ _ ⟨gp1.1, ?_⟩⟩⟩
  refine k_insertDebt (by omega) gp1 (x1.2.2.2.2.2 p hp.1 hp.2) hp4 (by omega) ⟨j3.1, h9⟩ 0 (by omega) q 99 ?_
  intro I2 f2 p2
  have T2 := x1.debts o1 o1 hO.2.1 hp f2 p2 (fun j hj => ptS_off hp4 (by omega) h9 hj.2.1 hj.2.2.1 hj.2.2.2)
  exact h1 ⟨hqp, hn⟩ G1 I2 (f1.tr T2.1) T2.2 (hO.wd.pt hp ⟨by omega, by omega⟩ h9 ⟨hq.1, hq.2, hqp⟩ (by omega))
theorem c_isSooner (hd : d < 990) (x y : Int) (h : Q (if x ≠ -5 ∧ (y = -5 ∨ x < y) then 1 else 0) G I) : mu_WP mu_code d 124 0 [(0, x), (0, y)] [] G I Q := by
  refine vc_124_0 (by omega) _ _ ⟨fun h1 => ?_, fun h1 => ⟨fun h2 => ?_, fun h2 => ⟨fun h3 => ?_, fun h3 => ?_⟩⟩⟩
  · rw [if_neg (by omega)] at h; exact h
  · rw [if_pos (by omega)] at h; exact h
  · rw [if_pos (by omega)] at h; exact h
  · rw [if_neg (by omega)] at h; exact h
theorem c_whom (hd : d < 880) (hG : GS G) (hX : CX G I S L) (hO : OkS S) (p c w : Int) (h : ∀ G1 I1, GS G1 → FXg G G1 I I1 → CX G1 I1 S L → Q (whomS S p c w) G1 I1) : mu_WP mu_code d 122 0 [(1, 0), (0, p), (0, c), (0, w), (3, 0), (3, 0), (3, 0), (3, 0)] [] G I Q := by
  have o1 := hO.1
  have gw := hG.2.2.2.1
  have h4 := o1.2.1
  have r5 := hG.1.2.2.2.2.2.2.1
  have same : ∀ y, (∀ G1 I1, GS G1 → FXg G G1 I I1 → CX G1 I1 S L → Q y G1 I1) → Q y G I := fun y hy => hy G I hG (FX.rf I).g hX
  unfold whomS at h
  refine vc_122_0 (by omega) _ _ _ _ ?_
  rw [r5]
  refine ⟨hG.1.1, gw.1, k_isPerson (by omega) gw hX.1 o1 p ⟨fun h1 => ?_, fun h1 => ⟨hG.1.1, ?_⟩⟩⟩
  · rw [if_pos (fun hc => ifn h1 hc.1)] at h
    exact same _ h
  have hp := ifp h1
  rw [r5]
  refine ⟨gw.1, k_isCell (by omega) gw hX.1 o1 c ⟨fun h2 => ?_, fun h2 => ?_⟩⟩
  · rw [if_pos (fun hc => ifn h2 hc.2.1)] at h
    exact same _ h
  have hc := ifp h2
  have none : ¬ (0 ≤ w ∧ w ≤ 1) → Q (-1) G I := by
    intro hw
    rw [if_pos (fun hc => hw hc.2.2)] at h
    exact same _ h
  refine ⟨fun h3 => none (by omega), fun h3 => ⟨fun h5 => none (by omega), fun h5 => ?_⟩⟩
  rw [if_neg (fun hn => hn ⟨hp, hc, by omega, by omega⟩)] at h
  suffices H : ∀ (n : Nat) (q b f g : Int) (v7 : mu_V) (G2 : mu_G) (I2 : mu_M), q + n = 4 → 0 ≤ q → ((g = -5 ∧ b = -5 ∧ f = 61) ∨ (g = f ∧ 0 ≤ b ∧ 0 ≤ f ∧ f < 61)) → FT G G2 I I2 → GS G2 → CX G2 I2 S L → (∀ G1 I1, GS G1 → FXg G G1 I I1 → CX G1 I1 S L → Q (whA w (whL S p c n q b f)) G1 I1) → mu_WP mu_code d 122 44 [(1, 0), (0, p), (0, c), (0, w), (0, b), (0, g), (0, q), v7] [] G2 I2 Q from
    H 4 0 (-5) 61 (-5) _ G I (by omega) (by omega) (by omega) (FT.rf' G I) hG hX h
  clear h none same
  have fin : ∀ (q b f g : Int) (v7 : mu_V) (G2 : mu_G) (I2 : mu_M), ¬ q < S 37 → ((g = -5 ∧ b = -5 ∧ f = 61) ∨ (g = f ∧ 0 ≤ b ∧ 0 ≤ f ∧ f < 61)) → FT G G2 I I2 → GS G2 → CX G2 I2 S L → (∀ G1 I1, GS G1 → FXg G G1 I I1 → CX G1 I1 S L → Q (whA w (b, f)) G1 I1) → mu_WP mu_code d 122 44 [(1, 0), (0, p), (0, c), (0, w), (0, b), (0, g), (0, q), v7] [] G2 I2 Q := by
    intro q b f g v7 G2 I2 hq hg hf gs2 x2 hh
    have r52 := gs2.1.2.2.2.2.2.2.1
    unfold whA at hh
    have hh := hh G2 I2 gs2 hf.g x2
    refine vc_122_44 (by omega) _ _ _ _ _ _ _ _ ?_
    rw [r52, x2.1.1.2.2.1]
    refine ⟨gs2.1.1, gs2.2.2.2.1.1, fun h1 => absurd h1 hq, fun _ => ⟨fun h1 => ?_, fun h1 => ?_⟩⟩
    · rw [if_pos (Or.inl h1)] at hh; exact hh
    · by_cases h2 : b = -5
      · rw [if_pos (Or.inr h2)] at hh
        have e : g = b := by omega
        rw [e]; exact hh
      · rw [if_neg (by omega)] at hh
        have e : g = f := by omega
        rw [e]; exact hh
  intro n
  induction n with
  | zero =>
    intro q b f g v7 G2 I2 hq h0 hg hf gs2 x2 hh
    exact fin q b f g v7 G2 I2 (by omega) hg hf gs2 x2 hh
  | succ n ih =>
    intro q b f g v7 G2 I2 hq h0 hg hf gs2 x2 hh
    by_cases hlt : q < S 37
    · have e7 : wr (q + 1) = q + 1 := wr_id (by omega) (by omega)
      rw [whL, if_pos hlt] at hh
      refine vc_122_44 (by omega) _ _ _ _ _ _ _ _ ?_
      rw [gs2.1.2.2.2.2.2.2.1, x2.1.1.2.2.1, e7]
      refine ⟨gs2.1.1, gs2.2.2.2.1.1, fun _ => c_tryOwing (by omega) gs2 x2 hO p q hp ⟨h0, hlt⟩ (fun hn => ⟨fun _ => ?_, fun hz => absurd rfl hz⟩) (fun hy => ?_), fun h1 => absurd hlt h1⟩
      · rw [if_neg (fun hc => hn hc.1)] at hh
        exact ih (q + 1) b f g v7 G2 I2 (by omega) (by omega) hg hf gs2 x2 hh
      · intro G3 I3 f3 x3 w3
        refine ⟨fun hc => absurd hc (by decide), fun _ => ⟨x3.1.1.1, ?_⟩⟩
        have h9 := room o1 hO.2.2.1 hp ⟨h0, hlt⟩ hy.1 hy.2
        have e37 : ptS S p 0 q 99 37 = S 37 := ptS_off (by omega) (by omega) h9 (by omega) (by omega) (by omega)
        refine t_firstDay (by omega) x3 o1 (w3.lo (by omega)) 3 p c (Or.inr (by rw [e37]; exact ⟨hp.1, hp.2, Or.inr (Or.inl rfl)⟩)) ?_
        intro I4 f4 ⟨U, x4⟩
        have e : soC 3 p c = fun T => decide (T (1 + p) = c) := by funext T; simp [soC]
        rw [e]
        change mu_WP mu_code _ 124 0 [(0, owF S p q c), (0, g)] [] G3 I4 _
        have hb : owF S p q c = -5 ∨ (0 ≤ owF S p q c ∧ owF S p q c < 61) := by
          have hb := ffS_bd (c := fun T => decide (T (1 + p) = c)) 61 0 (ptS S p 0 q 99) (by omega)
          unfold owF
          omega
        refine c_isSooner (by omega) _ _ ?_
        have ft := hf.tr (f3.tr f4)
        by_cases ho : owF S p q c ≠ -5 ∧ owF S p q c < f
        · rw [if_pos ⟨hy, ho⟩] at hh
          rw [if_pos (by omega)]
          refine ⟨fun hc => absurd hc (by decide), fun _ => ?_⟩
          exact ih (q + 1) q (owF S p q c) (owF S p q c) _ G3 I4 (by omega) (by omega) (Or.inr ⟨rfl, h0, by omega, by omega⟩) ft x4.1 x4.2.1 hh
        · rw [if_neg (fun hc => ho hc.2)] at hh
          rw [if_neg (by omega)]
          refine ⟨fun _ => ?_, fun hc => absurd rfl hc⟩
          exact ih (q + 1) b f g _ G3 I4 (by omega) (by omega) hg ft x4.1 x4.2.1 hh
    · rw [whL, if_neg hlt] at hh
      exact fin q b f g v7 G2 I2 hlt hg hf gs2 x2 hh
end

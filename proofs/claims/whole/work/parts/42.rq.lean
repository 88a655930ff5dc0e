/-! THE REFERENCE PAYS: the walk -/
section
variable {d : Nat} {G : mu_G} {I : mu_M} {Q : Int → mu_G → mu_M → Prop}
theorem r_pays (hd : d < 988) (hM : MR G) (p : Int) (hI : Inv (I 116)) (hp : 0 ≤ p ∧ p < I 116 37) (h : ∀ I1, FR I I1 → I1 116 = payL p 4 (I 116) → Q 0 G I1) : mu_WP mu_code d 187 0 [(1, 115), (0, p), (3, 0), (3, 0), (3, 0)] [] G I Q := by
  suffices H : ∀ (n : Nat) (I2 : mu_M) (v2 v3 v4 : mu_V), Inv (I2 116) → p < I2 116 37 → I2 116 (9 + p) + 1 ≤ n ∨ (I2 116 (5 + p) = 0 ∧ 1 ≤ n) → FR I I2 → (∀ I1, FR I I1 → I1 116 = payL p n (I2 116) → Q 0 G I1) → mu_WP mu_code d 187 0 [(1, 115), (0, p), v2, v3, v4] [] G I2 Q from
    H 4 I _ _ _ hI hp.2 (by have := (hI.2.2.2.2.1 p hp.1 hp.2).2.2.1; omega) (FR.rf I) h
  intro n
  induction n with
  | zero =>
    intro I2 v2 v3 v4 hI2 hp2 hm hfr hq
    have := (hI2.2.2.2.2.1 p hp.1 hp2).2.2.1
    omega
  | succ n ih =>
    intro I2 v2 v3 v4 hI2 hp2 hm hfr hq
    have h37 := hI2.2.1
    have hp4 : 0 ≤ p ∧ p < 4 := by omega
    obtain ⟨j1, j2, j3, j4, j5, j6, j7, j8⟩ := hI2.2.2.2.2.1 p hp.1 hp2
    have e1 : wr (9 + p) = 9 + p := wr_id (by omega) (by omega)
    have e2 : wr (5 + p) = 5 + p := wr_id (by omega) (by omega)
    have e3 : wr (3 * p) = 3 * p := wr_id (by omega) (by omega)
    have e4 : wr (13 + 3 * p) = 13 + 3 * p := wr_id (by omega) (by omega)
    have e5 : wr (25 + 3 * p) = 25 + 3 * p := wr_id (by omega) (by omega)
    have e6 : wr (1 + p) = 1 + p := wr_id (by omega) (by omega)
    have stop : ¬ canP (I2 116) p → mu_WP mu_code d 187 187 [(1, 115), (0, p), v2, v3, v4] [] G I2 Q := by
      intro hc
      refine vc_187_187 (by omega) _ _ _ _ _ ?_
      refine hq I2 hfr ?_
      rw [payL, if_neg hc]
    refine vc_187_0 (by omega) _ _ _ _ _ ?_
    simp only [hM, e1, e2, e3, e4, e5, e6]
    refine ⟨trivial, by grind, fun h1 => ⟨by grind, fun h2 => ?_, fun h2 => stop (fun hc => h2 hc.2.1)⟩, fun h1 => stop (fun hc => h1 hc.1)⟩
    have j70 := j7 0 (by omega) h1
    simp only [Int.add_zero] at j70
    have e7 : wr (1 + I2 116 (13 + 3 * p)) = 1 + I2 116 (13 + 3 * p) := wr_id (by omega) (by omega)
    have e8 : wr (5 + I2 116 (13 + 3 * p)) = 5 + I2 116 (13 + 3 * p) := wr_id (by omega) (by omega)
    rw [e7]
    refine ⟨by grind, by grind, by grind, fun h3 => ⟨by grind, ?_⟩, fun h3 => stop (fun hc => h3 hc.2.2)⟩
    have hc : canP (I2 116) p := ⟨h1, h2, h3⟩
    obtain ⟨b1, b2, b3, b4, b5, b6, b7⟩ := paid_bd hI2 ⟨hp.1, hp2⟩ hc
    obtain ⟨i1, i37, i9⟩ := hI2.pay1 ⟨hp.1, hp2⟩ hc
    have iB := hI2.payB ⟨hp.1, hp2⟩ hc
    have back : ∀ (I3 : mu_M) (v2 v3 v4 : mu_V), FR I I3 → I3 116 = pay1 (I2 116) p → mu_WP mu_code d 187 184 [(1, 115), (0, p), v2, v3, v4] [] G I3 Q := by
      intro I3 v2 v3 v4 f3 r3
      refine vc_187_184 (by omega) _ _ _ _ _ ?_
      refine ih I3 _ _ _ (by rw [r3]; exact i1) (by rw [r3, i37]; exact hp2) ?_ f3 ?_
      · rw [r3]
        omega
      · intro I1 g1 g2
        refine hq I1 g1 ?_
        rw [payL, if_pos hc, g2, r3]
    have pay : mu_WP mu_code d 187 100 [(1, 115), (0, p), (0, I2 116 (13 + 3 * p)), (0, I2 116 (25 + 3 * p)), v4] [(0, paidS (I2 116) p)] G I2 Q := by
      refine vc_187_100 (by omega) _ _ _ _ _ _ ?_
      have e9 : wr (I2 116 (5 + p) - paidS (I2 116) p) = I2 116 (5 + p) - paidS (I2 116) p := wr_id (by omega) (by omega)
      simp only [hM, e2, e8, e9]
      refine ⟨trivial, by grind, by grind, ?_⟩
      intro I3 q3
      have r3 : I3 116 = upR (I2 116) (5 + p) (I2 116 (5 + p) - paidS (I2 116) p) := by rw [q3, set_row]
      have ia : Inv (I3 116) := by rw [r3]; exact hI2.purse hp4 (by omega)
      have hq5 := (ia.2.2.2.2.1 (I2 116 (13 + 3 * p)) b6.1 (by rw [r3, upR_ne _ (by omega)]; exact b6.2.1)).2.1
      have e10 : wr (I3 116 (5 + I2 116 (13 + 3 * p)) + paidS (I2 116) p) = I3 116 (5 + I2 116 (13 + 3 * p)) + paidS (I2 116) p := wr_id (by omega) (by omega)
      rw [e10]
      have next : ∀ y, y = cap (I3 116 (5 + I2 116 (13 + 3 * p)) + paidS (I2 116) p) → mu_WP mu_code d 187 156 [(1, 115), (0, p), (0, I2 116 (13 + 3 * p)), (0, I2 116 (25 + 3 * p)), (0, paidS (I2 116) p)] [(0, y), (0, 5 + I2 116 (13 + 3 * p)), (1, 116)] G I3 Q := by
        intro y hy
        refine vc_187_156 (by omega) _ _ _ _ _ _ _ _ ?_
        have e11 : wr (I2 116 (25 + 3 * p) - paidS (I2 116) p) = I2 116 (25 + 3 * p) - paidS (I2 116) p := wr_id (by omega) (by omega)
        simp only [hM, e3, e5, e11]
        refine ⟨by grind, ?_⟩
        intro I4 q4
        refine ⟨trivial, by grind, ?_⟩
        intro I5 q5
        have r5 : I5 116 = payB (I2 116) p := by
          rw [q5, set_row, q4, set_row, hy, r3]
          rfl
        have f5 : FR I I5 := by
          rw [q5, q4, q3]
          exact ((hfr.tr (FR.w _ _ _)).tr (FR.w _ _ _)).tr (FR.w _ _ _)
        refine ⟨fun h5 => ?_, fun h5 => ?_⟩
        · have e9' := payB_9 (S := I2 116) hp4 (by omega)
          refine r_takesOut (by omega) hM p 0 hp4 (by omega) (by rw [r5, e9']; omega) ?_
          intro I6 f6 r6
          refine back I6 _ _ _ (f5.tr f6) ?_
          rw [r6, r5, pay1, if_pos h5]
        · refine back I5 _ _ _ f5 ?_
          rw [r5, pay1, if_neg h5]
      refine ⟨by grind, fun h4 => next _ ?_, fun h4 => next _ ?_⟩
      · unfold cap; rw [if_pos h4]
      · unfold cap; rw [if_neg h4]
    refine ⟨fun h4 => ?_, fun h4 => ?_⟩
    · have hpd : paidS (I2 116) p = I2 116 (25 + 3 * p) := by unfold paidS; rw [if_pos h4]
      rw [hpd] at pay
      exact pay
    · have hpd : paidS (I2 116) p = I2 116 (5 + p) := by unfold paidS; rw [if_neg h4]
      rw [hpd] at pay
      exact pay
end

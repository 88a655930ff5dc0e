/-! QUESTIONS TO THE REFERENCE: odds -/
section
variable {d : Nat} {G : mu_G} {I : mu_M} {Q : Int → mu_G → mu_M → Prop}
theorem r_odds (hd : d < 930) (hM : MR G) (a b n part : Int) (hW : WD (I 116) 100) (hD : Dst (I 116)) (h : ∀ I1, FE I I1 → I1 116 = I 116 → Q (oddsS (I 116) a b n part) G I1) : mu_WP mu_code d 210 0 [(1, 115), (0, a), (0, b), (0, n), (0, part), (3, 0), (3, 0), (3, 0), (3, 0), (3, 0), (3, 0), (3, 0)] [] G I Q := by
  have h4 := hW.1.2.1
  unfold oddsS at h
  refine vc_210_0 (by omega) _ _ _ _ _ ⟨hM.1, r_isPerson (by omega) hM a h4 ⟨fun h1 => ?_, fun h1 => ⟨hM.1, r_isPerson (by omega) hM b h4 ⟨fun h2 => ?_, fun h2 => ⟨fun h3 => ?_, fun h3 => r_in (by omega) _ _ _ ⟨fun h5 => ?_, fun h5 => r_in (by omega) _ _ _ ⟨fun h6 => ?_, fun h6 => ⟨hM.1, ?_⟩⟩⟩⟩⟩⟩⟩⟩
  · rw [if_pos (fun hc => ifn h1 hc.1.1)] at h; exact h I (FE.rf I) rfl
  · rw [if_pos (fun hc => ifn h2 hc.1.2)] at h; exact h I (FE.rf I) rfl
  · rw [if_pos (fun hc => hc.2.1 h3)] at h; exact h I (FE.rf I) rfl
  · rw [if_pos (fun hc => ifm h5 hc.2.2.1)] at h; exact h I (FE.rf I) rfl
  · rw [if_pos (fun hc => ifm h6 hc.2.2.2)] at h; exact h I (FE.rf I) rfl
  have ha := ifp h1
  have hb := ifp h2
  have hn := ifq h5
  rw [if_neg (fun hc => hc ⟨⟨ha, hb⟩, h3, hn, ifq h6⟩)] at h
  clear h1 h2 h5 h6
  refine r_keeps (by omega) hM ?_
  intro I1 f1 r1 _ k1
  have e1 : wr (1 + a) = 1 + a := wr_id (by omega) (by omega)
  have e2 : wr (1 + b) = 1 + b := wr_id (by omega) (by omega)
  suffices H : ∀ (m : Nat) (q u l : Int) (v10 v11 : mu_V) (I2 : mu_M), q + m = 4 → 0 ≤ q → (0 ≤ u ∧ u ≤ q ∧ 0 ≤ l ∧ l ≤ q) → FE I I2 → KP (I 116) I2 → I2 116 = I 116 → (∀ I1, FE I I1 → I1 116 = I 116 → Q (odA (odL (I 116) a b n m q u l) part) G I1) → mu_WP mu_code d 210 58 [(1, 115), (0, a), (0, b), (0, n), (0, part), (2, u), (3, 0), (2, l), (3, 0), (0, q), v10, v11] [] G I2 Q from
    H 4 0 0 0 _ _ I1 (by omega) (by omega) (by omega) f1 k1 r1 h
  have fin : ∀ (q u l : Int) (v10 v11 : mu_V) (I2 : mu_M), ¬ q < I 116 37 → (0 ≤ u ∧ u ≤ 4 ∧ 0 ≤ l ∧ l ≤ 4) → FE I I2 → I2 116 = I 116 → (∀ I1, FE I I1 → I1 116 = I 116 → Q (odA (u, l) part) G I1) → mu_WP mu_code d 210 58 [(1, 115), (0, a), (0, b), (0, n), (0, part), (2, u), (3, 0), (2, l), (3, 0), (0, q), v10, v11] [] G I2 Q := by
    intro q u l v10 v11 I2 hq hu hf hr hh
    unfold odA at hh
    refine vc_210_58 (by omega) _ _ _ _ _ _ _ _ _ _ ?_
    simp only [hM, hr]
    refine ⟨trivial, by grind, fun h1 => absurd h1 hq, fun _ => ⟨fun h1 => ?_, fun h1 => ?_⟩⟩
    · have hl : l = 0 := by
        unfold mu_cmp at h1
        by_cases hl : 0 < l
        · rw [if_pos hl] at h1; omega
        · omega
      rw [if_pos hl] at hh
      exact hh I2 hf hr
    · have hl : l ≠ 0 := by
        intro hl
        rw [hl] at h1
        exact h1 (by decide)
      rw [if_neg hl] at hh
      exact r_lowest (by omega) _ _ _ (by omega) (by omega) (hh I2 hf hr)
  intro m
  induction m with
  | zero =>
    intro q u l v10 v11 I2 hq h0 hu hf hK hr hh
    exact fin q u l v10 v11 I2 (by omega) (by omega) hf hr hh
  | succ m ih =>
    intro q u l v10 v11 I2 hq h0 hu hf hK hr hh
    by_cases hlt : q < I 116 37
    · have e7 : wr (q + 1) = q + 1 := wr_id (by omega) (by omega)
      have e8 : wl (l + 1) = l + 1 := wl_id (by omega) (by omega)
      have e9 : wl (u + 1) = u + 1 := wl_id (by omega) (by omega)
      have e10 : wl (u + 0) = u := by rw [Int.add_zero]; exact wl_id (by omega) (by omega)
      rw [odL, if_pos hlt] at hh
      have skip : ∀ (I3 : mu_M), I3 = I2 → ¬ (q ≠ a ∧ debtTo (I 116) a q = -1) → mu_WP mu_code d 210 58 [(1, 115), (0, a), (0, b), (0, n), (0, part), (2, u), (3, 0), (2, l), (3, 0), (0, q + 1), v10, v11] [] G I3 Q := by
        intro I3 e3 hne
        subst e3
        refine ih (q + 1) u l v10 v11 I3 (by omega) (by omega) (by omega) hf hK hr ?_
        rw [if_neg hne] at hh
        exact hh
      refine vc_210_58 (by omega) _ _ _ _ _ _ _ _ _ _ ?_
      simp only [hM, hr, e1, e2, e7]
      refine ⟨trivial, by grind, fun _ => ⟨fun h1 => skip _ rfl (fun hc => hc.1 h1), fun h1 => ?_⟩, fun h1 => absurd hlt h1⟩
      refine r_debtTo (by omega) hM a q (by omega) (by rw [hr]; exact (hW.1.2.2.2.2.1 a ha.1 ha.2).2.2.1.2) ?_
      rw [hr]
      refine ⟨fun h2 => ⟨hM.1, ?_⟩, fun h2 => skip _ rfl (fun hc => h2 hc.2)⟩
      rw [if_pos ⟨h1, h2⟩] at hh
      have h9 := room hW.1 hD ha ⟨h0, hlt⟩ h1 h2
      have h90 := (hW.1.2.2.2.2.1 a ha.1 ha.2).2.2.1
      refine r_puts (by omega) hM a 0 q 99 (by omega) (by rw [hr]; omega) (by rw [hr]; omega) ?_
      intro I3 f3 r3
      rw [hr] at r3
      have k3 : KP (I 116) I3 := hK.pt f3 (by rw [hr]; exact r3) (by omega) (by omega) (by rw [hr]; exact h9)
      have w3 : WD (I3 116) 61 := by rw [r3]; exact (hW.lo (by omega)).pt ha (by omega) h9 ⟨h0, hlt, h1⟩ (by omega)
      have cut := ffS_cut (c := fun T => decide (T (1 + a) = T (1 + b))) (n.toNat + 1) 61 0 (I3 116) (by omega) (by omega)
      have eF : ffS (fun T => decide (T (1 + a) = T (1 + b))) 61 0 (I3 116) = meF (I 116) a b q := by rw [r3]; rfl
      rw [eF, show (0 : Int) + ((n.toNat + 1 : Nat) : Int) = n + 1 by omega] at cut
      have f13 : FE I I3 := hf.tr f3.fe
      -- the end of one of the others
      have yes : (meF (I 116) a b q ≠ -5 ∧ meF (I 116) a b q ≤ n) → ∀ (x10 x11 : mu_V) (I4 : mu_M), FE I I4 → KP (I 116) I4 → mu_WP mu_code (d + 1) 192 0 [(1, 115), (3, 0)] [] G I4 (fun _ G1 I5 => mu_WP mu_code d 210 58 [(1, 115), (0, a), (0, b), (0, n), (0, part), (2, u + 1), (3, 0), (2, l + 1), (3, 0), (0, q + 1), x10, x11] [] G1 I5 Q) := by
        intro hy x10 x11 I4 hf4 hk4
        refine r_goesBack (by omega) hM hk4 ?_
        intro I5 f5 r5
        rw [if_pos hy] at hh
        exact ih (q + 1) (u + 1) (l + 1) _ _ I5 (by omega) (by omega) (by omega) (hf4.tr f5.fe) ⟨fun j j0 j1 => by rw [f5 118 (by decide)]; exact hk4.1 j j0 j1, fun j _ => by rw [r5]⟩ r5 hh
      have no : ¬ (meF (I 116) a b q ≠ -5 ∧ meF (I 116) a b q ≤ n) → ∀ (x10 x11 : mu_V) (I4 : mu_M), FE I I4 → KP (I 116) I4 → mu_WP mu_code (d + 1) 192 0 [(1, 115), (3, 0)] [] G I4 (fun _ G1 I5 => mu_WP mu_code d 210 58 [(1, 115), (0, a), (0, b), (0, n), (0, part), (2, u), (3, 0), (2, l + 1), (3, 0), (0, q + 1), x10, x11] [] G1 I5 Q) := by
        intro hy x10 x11 I4 hf4 hk4
        refine r_goesBack (by omega) hM hk4 ?_
        intro I5 f5 r5
        rw [if_neg hy] at hh
        exact ih (q + 1) u (l + 1) _ _ I5 (by omega) (by omega) (by omega) (hf4.tr f5.fe) ⟨fun j j0 j1 => by rw [f5 118 (by decide)]; exact hk4.1 j j0 j1, fun j _ => by rw [r5]⟩ r5 hh
      have met : (meF (I 116) a b q ≠ -5 ∧ meF (I 116) a b q ≤ n) → ∀ (k : Int) (I4 : mu_M), FE I I4 → KP (I 116) I4 → mu_WP mu_code d 210 126 [(1, 115), (0, a), (0, b), (0, n), (0, part), (2, u), (3, 0), (2, l), (3, 0), (0, q), (0, 1), (0, k)] [] G I4 Q := by
        intro hy k I4 hf4 hk4
        refine vc_210_126 (by omega) _ _ _ _ _ _ _ _ _ _ ⟨fun _ => ⟨fun hx => absurd hx (by omega), fun _ => ⟨hM.1, ?_⟩⟩, fun _ => ⟨fun hx => absurd hx (by omega), fun _ => ⟨hM.1, ?_⟩⟩⟩
        · rw [e7, e8, e9]; exact yes hy _ _ I4 hf4 hk4
        · rw [e7, e8, e9]; exact yes hy _ _ I4 hf4 hk4
      have search : ∀ (s : Nat) (k : Int) (I4 : mu_M), k + s = n → 0 ≤ k → FE I I4 → KP (I 116) I4 → WD (I4 116) s → ((meF (I 116) a b q ≠ -5 ∧ meF (I 116) a b q ≤ n) ↔ ffS (fun T => decide (T (1 + a) = T (1 + b))) s (k + 1) (dayS (I4 116)) ≠ -5) → mu_WP mu_code d 210 126 [(1, 115), (0, a), (0, b), (0, n), (0, part), (2, u), (3, 0), (2, l), (3, 0), (0, q), (0, 0), (0, k)] [] G I4 Q := by
        intro s
        induction s with
        | zero =>
          intro k I4 hk k0 hf4 hk4 hw4 hs
          have hy : ¬ (meF (I 116) a b q ≠ -5 ∧ meF (I 116) a b q ≤ n) := by rw [hs]; intro hc; exact hc rfl
          refine vc_210_126 (by omega) _ _ _ _ _ _ _ _ _ _ ⟨fun hx => absurd hx (by omega), fun _ => ⟨fun _ => ⟨hM.1, ?_⟩, fun hx => absurd rfl hx⟩⟩
          rw [e7, e8, e10]; exact no hy _ _ I4 hf4 hk4
        | succ s ihs =>
          intro k I4 hk k0 hf4 hk4 hw4 hs
          have e11 : wr (k + 1) = k + 1 := wr_id (by omega) (by omega)
          refine vc_210_126 (by omega) _ _ _ _ _ _ _ _ _ _ ⟨fun _ => ⟨fun _ => ⟨hM.1, r_day1 (by omega) hM hk4 hw4 ?_⟩, fun hx => absurd rfl hx⟩, fun hx => absurd hx (by omega)⟩
          intro I5 f5 r5 k5 w5
          rw [ffS, ← r5] at hs
          simp only [hM, e1, e2, e11]
          refine ⟨trivial, by grind, by grind, fun h5 => ?_, fun h5 => ?_⟩
          · rw [if_pos (by simpa using h5)] at hs
            exact met (hs.2 (by omega)) (k + 1) I5 (hf4.tr f5.fe) k5
          · rw [if_neg (by simpa using h5)] at hs
            exact ihs (k + 1) I5 (by omega) (by omega) (hf4.tr f5.fe) k5 w5 hs
      have hmeet : (meF (I 116) a b q ≠ -5 ∧ meF (I 116) a b q ≤ n) ↔ ffS (fun T => decide (T (1 + a) = T (1 + b))) (n.toNat + 1) 0 (I3 116) ≠ -5 := by
        rw [cut]
        constructor
        · intro hc
          rw [if_pos ⟨hc.1, by omega⟩]
          exact hc.1
        · intro hc
          by_cases hc2 : meF (I 116) a b q ≠ -5 ∧ meF (I 116) a b q < n + 1
          · exact ⟨hc2.1, by omega⟩
          · rw [if_neg hc2] at hc
            exact absurd rfl hc
      rw [ffS] at hmeet
      simp only [hM]
      refine ⟨trivial, by grind, by grind, fun h5 => ?_, fun h5 => ?_⟩
      · rw [if_pos (by simpa using h5)] at hmeet
        exact met (hmeet.2 (by omega)) 0 I3 f13 k3
      · rw [if_neg (by simpa using h5)] at hmeet
        exact search n.toNat 0 I3 (by omega) (by omega) f13 k3 (w3.lo (by omega)) hmeet
    · rw [odL, if_neg hlt] at hh
      exact fin q u l v10 v11 I2 hlt (by omega) hf hr hh
end

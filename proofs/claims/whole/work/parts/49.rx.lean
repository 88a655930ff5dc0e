/-! QUESTIONS TO THE REFERENCE: whom -/
theorem ffS_cut {c : Row → Bool} : ∀ (m k : Nat) (n : Int) (S : Row), 0 ≤ n → m ≤ k → ffS c m n S = (if ffS c k n S ≠ -5 ∧ ffS c k n S < n + m then ffS c k n S else -5)
  | 0, k, n, S, hn, hk => by
    have key : ∀ (k : Nat) (n : Int) (S : Row), ffS c k n S = -5 ∨ n ≤ ffS c k n S := by
      intro k
      induction k with
      | zero => exact fun _ _ => Or.inl rfl
      | succ k ih =>
        intro n S
        rw [ffS]
        split
        · exact Or.inr (Int.le_refl _)
        · rcases ih (n + 1) (dayS S) with h | h
          · exact Or.inl h
          · exact Or.inr (by omega)
    have := key k n S
    rw [ffS, if_neg (by omega)]
  | m + 1, 0, n, S, hn, hk => by omega
  | m + 1, k + 1, n, S, hn, hk => by
    rw [ffS, ffS]
    split
    · rw [if_pos (by omega)]
    · have := ffS_cut (c := c) m k (n + 1) (dayS S) (by omega) (by omega)
      rw [this]
      have e : n + 1 + (m : Int) = n + ((m + 1 : Nat) : Int) := by omega
      rw [e]
theorem ffS_bd {c : Row → Bool} : ∀ (k : Nat) (n : Int) (S : Row), 0 ≤ n → ffS c k n S = -5 ∨ (n ≤ ffS c k n S ∧ ffS c k n S < n + k)
  | 0, _, _, _ => Or.inl rfl
  | k + 1, n, S, hn => by
    rw [ffS]
    split
    · exact Or.inr (by omega)
    · rcases ffS_bd k (n + 1) (dayS S) (by omega) with h | h
      · exact Or.inl h
      · exact Or.inr (by omega)
def owF (S : Row) (p q c : Int) : Int := ffS (fun T => decide (T (1 + p) = c)) 61 0 (ptS S p 0 q 99)
def whL (S : Row) (p c : Int) : Nat → Int → Int → Int → Int × Int
  | 0, _, b, f => (b, f)
  | n + 1, q, b, f => if q < S 37 then (if (q ≠ p ∧ debtTo S p q = -1) ∧ owF S p q c ≠ -5 ∧ owF S p q c < f then whL S p c n (q + 1) q (owF S p q c) else whL S p c n (q + 1) b f) else (b, f)
def whA (w : Int) (x : Int × Int) : Int := if w = 0 ∨ x.1 = -5 then x.1 else x.2
def whomS (S : Row) (p c w : Int) : Int := if ¬ ((0 ≤ p ∧ p < S 37) ∧ (0 ≤ c ∧ c < S 43 * S 44) ∧ 0 ≤ w ∧ w ≤ 1) then -1 else whA w (whL S p c 4 0 (-5) 61)
section
variable {d : Nat} {G : mu_G} {I : mu_M} {Q : Int → mu_G → mu_M → Prop}
theorem r_whom (hd : d < 950) (hM : MR G) (p c w : Int) (hW : WD (I 116) 100) (hD : Dst (I 116)) (h : ∀ I1, FE I I1 → I1 116 = I 116 → Q (whomS (I 116) p c w) G I1) : mu_WP mu_code d 200 0 [(1, 115), (0, p), (0, c), (0, w), (3, 0), (3, 0), (3, 0), (3, 0)] [] G I Q := by
  have h4 := hW.1.2.1
  unfold whomS at h
  refine vc_200_0 (by omega) _ _ _ _ ⟨hM.1, r_isPerson (by omega) hM p h4 ⟨fun h1 => ?_, fun h1 => ?_⟩⟩
  · rw [if_pos (by intro hc; rw [if_pos hc.1] at h1; omega)] at h
    exact h I (FE.rf I) rfl
  have hp : 0 ≤ p ∧ p < I 116 37 := by
    by_cases hc : 0 ≤ p ∧ p < I 116 37
    · exact hc
    · rw [if_neg hc] at h1; exact absurd rfl h1
  clear h1
  refine ⟨hM.1, r_isCell (by omega) hM c hW.1.2.2.1 hW.1.2.2.2.1 ⟨fun h1 => ?_, fun h1 => ?_⟩⟩
  · rw [if_pos (by intro hc; rw [if_pos hc.2.1] at h1; omega)] at h
    exact h I (FE.rf I) rfl
  have hc : 0 ≤ c ∧ c < I 116 43 * I 116 44 := by
    by_cases hc : 0 ≤ c ∧ c < I 116 43 * I 116 44
    · exact hc
    · rw [if_neg hc] at h1; exact absurd rfl h1
  clear h1
  refine r_in (by omega) _ _ _ ⟨fun h1 => ?_, fun h1 => ?_⟩
  · rw [if_pos (by intro hc; rw [if_pos hc.2.2] at h1; omega)] at h
    exact h I (FE.rf I) rfl
  have hw : 0 ≤ w ∧ w ≤ 1 := by
    by_cases hc : 0 ≤ w ∧ w ≤ 1
    · exact hc
    · rw [if_neg hc] at h1; exact absurd rfl h1
  clear h1
  rw [if_neg (by intro hn; exact hn ⟨hp, hc, hw⟩)] at h
  refine ⟨hM.1, r_keeps (by omega) hM ?_⟩
  intro I1 f1 r1 _ k1
  have e1 : wr (1 + p) = 1 + p := wr_id (by omega) (by omega)
  -- the loop over the others
  suffices H : ∀ (n : Nat) (q b f : Int) (v7 : mu_V) (I2 : mu_M), q + n = 4 → 0 ≤ q → (0 ≤ f ∧ f ≤ 61) → FE I I2 → KP (I 116) I2 → I2 116 = I 116 → (∀ I1, FE I I1 → I1 116 = I 116 → Q (whA w (whL (I 116) p c n q b f)) G I1) → mu_WP mu_code d 200 42 [(1, 115), (0, p), (0, c), (0, w), (0, b), (0, f), (0, q), v7] [] G I2 Q from
    H 4 0 (-5) 61 _ I1 (by omega) (by omega) (by omega) f1 k1 r1 h
  have fin : ∀ (q b f : Int) (v7 : mu_V) (I2 : mu_M), ¬ q < I 116 37 → FE I I2 → I2 116 = I 116 → (∀ I1, FE I I1 → I1 116 = I 116 → Q (whA w (b, f)) G I1) → mu_WP mu_code d 200 42 [(1, 115), (0, p), (0, c), (0, w), (0, b), (0, f), (0, q), v7] [] G I2 Q := by
    intro q b f v7 I2 hq hf hr hh
    unfold whA at hh
    refine vc_200_42 (by omega) _ _ _ _ _ _ _ _ ?_
    simp only [hM, hr]
    refine ⟨trivial, by grind, fun h1 => absurd h1 hq, fun _ => ⟨fun h1 => ?_, fun h1 => ⟨fun h2 => ?_, fun h2 => ?_⟩⟩⟩
    · rw [if_pos (Or.inl h1)] at hh; exact hh I2 hf hr
    · rw [if_pos (Or.inr h2)] at hh; exact hh I2 hf hr
    · rw [if_neg (by omega)] at hh; exact hh I2 hf hr
  intro n
  induction n with
  | zero =>
    intro q b f v7 I2 hq h0 hff hf hK hr hh
    exact fin q b f v7 I2 (by omega) hf hr hh
  | succ n ih =>
    intro q b f v7 I2 hq h0 hff hf hK hr hh
    by_cases hlt : q < I 116 37
    · have e7 : wr (q + 1) = q + 1 := wr_id (by omega) (by omega)
      rw [whL, if_pos hlt] at hh
      have skip : ¬ (q ≠ p ∧ debtTo (I 116) p q = -1) → mu_WP mu_code d 200 42 [(1, 115), (0, p), (0, c), (0, w), (0, b), (0, f), (0, q + 1), v7] [] G I2 Q := by
        intro hn
        refine ih (q + 1) b f v7 I2 (by omega) (by omega) hff hf hK hr ?_
        rw [if_neg (fun hc => hn hc.1)] at hh
        exact hh
      refine vc_200_42 (by omega) _ _ _ _ _ _ _ _ ?_
      simp only [hM, hr, e7]
      refine ⟨trivial, by grind, fun _ => ⟨fun h1 => skip (fun hc => hc.1 h1), fun h1 => ?_⟩, fun h1 => absurd hlt h1⟩
      refine r_debtTo (by omega) hM p q (by omega) (by rw [hr]; exact (hW.1.2.2.2.2.1 p hp.1 hp.2).2.2.1.2) ?_
      rw [hr]
      refine ⟨fun h2 => ⟨hM.1, ?_⟩, fun h2 => skip (fun hc => h2 hc.2)⟩
      have h9 := room hW.1 hD hp ⟨h0, hlt⟩ h1 h2
      have h90 := (hW.1.2.2.2.2.1 p hp.1 hp.2).2.2.1
      refine r_puts (by omega) hM p 0 q 99 (by omega) (by rw [hr]; omega) (by rw [hr]; omega) ?_
      intro I3 f3 r3
      rw [hr] at r3
      have k3 : KP (I 116) I3 := hK.pt f3 (by rw [hr]; exact r3) (by omega) (by omega) (by rw [hr]; exact h9)
      have w3 : WD (I3 116) 61 := by rw [r3]; exact (hW.lo (by omega)).pt hp (by omega) h9 ⟨h0, hlt, h1⟩ (by omega)
      -- the inner loop
      have cut := ffS_cut (c := fun T => decide (T (1 + p) = c)) f.toNat 61 0 (I3 116) (by omega) (by omega)
      rw [show ffS (fun T => decide (T (1 + p) = c)) 61 0 (I3 116) = owF (I 116) p q c by rw [r3]; rfl, show (0 : Int) + (f.toNat : Int) = f by omega] at cut
      have after : ∀ (b1 f1 : Int) (I4 : mu_M) (x7 : Int), (0 ≤ f1 ∧ f1 ≤ 61) → ¬ x7 < f1 → FE I I4 → KP (I 116) I4 → (∀ I1, FE I I1 → I1 116 = I 116 → Q (whA w (whL (I 116) p c n (q + 1) b1 f1)) G I1) → mu_WP mu_code d 200 84 [(1, 115), (0, p), (0, c), (0, w), (0, b1), (0, f1), (0, q), (0, x7)] [] G I4 Q := by
        intro b1 f1 I4 x7 hf1 hx hf4 hk4 hq4
        refine vc_200_84 (by omega) _ _ _ _ _ _ _ _ ⟨fun h5 => absurd h5 hx, fun _ => ⟨hM.1, r_goesBack (by omega) hM hk4 ?_⟩⟩
        intro I5 f5 r5
        rw [e7]
        exact ih (q + 1) b1 f1 _ I5 (by omega) (by omega) hf1 (hf4.tr f5.fe) ⟨fun j j0 j1 => by rw [f5 118 (by decide)]; exact hk4.1 j j0 j1, fun j _ => by rw [r5]⟩ r5 hq4
      have hcond : ((q ≠ p ∧ debtTo (I 116) p q = -1) ∧ owF (I 116) p q c ≠ -5 ∧ owF (I 116) p q c < f) ↔ (owF (I 116) p q c ≠ -5 ∧ owF (I 116) p q c < f) := ⟨fun hc => hc.2, fun hc => ⟨⟨h1, h2⟩, hc⟩⟩
      suffices HH : ∀ (m : Nat) (x : Int) (I4 : mu_M), x + m = f → 0 ≤ x → FE I I4 → KP (I 116) I4 → WD (I4 116) m → ffS (fun T => decide (T (1 + p) = c)) m x (I4 116) = (if owF (I 116) p q c ≠ -5 ∧ owF (I 116) p q c < f then owF (I 116) p q c else -5) → mu_WP mu_code d 200 84 [(1, 115), (0, p), (0, c), (0, w), (0, b), (0, f), (0, q), (0, x)] [] G I4 Q from
        HH f.toNat 0 I3 (by omega) (by omega) (hf.tr f3.fe) k3 (w3.lo (by omega)) cut
      intro m
      induction m with
      | zero =>
        intro x I4 hx hx0 hf4 hk4 hw4 hffs
        refine after b f I4 x hff (by omega) hf4 hk4 ?_
        rw [if_neg ?_] at hh
        · exact hh
        · rw [hcond]
          intro hc
          rw [if_pos hc, ffS] at hffs
          exact hc.1 hffs.symm
      | succ m ihm =>
        intro x I4 hx hx0 hf4 hk4 hw4 hffs
        have e8 : wr (x + 1) = x + 1 := wr_id (by omega) (by omega)
        rw [ffS] at hffs
        refine vc_200_84 (by omega) _ _ _ _ _ _ _ _ ⟨fun _ => ?_, fun h5 => absurd h5 (by omega)⟩
        simp only [hM, e1, e8]
        refine ⟨trivial, by grind, fun h5 => r_day1 (by omega) hM hk4 hw4 ?_, fun h5 => r_day1 (by omega) hM hk4 hw4 ?_⟩
        · intro I5 f5 r5 k5 w5
          rw [if_pos (by simpa using h5)] at hffs
          refine after q x I5 (x + 1) (by omega) (by omega) (hf4.tr f5.fe) k5 ?_
          by_cases hc : owF (I 116) p q c ≠ -5 ∧ owF (I 116) p q c < f
          · rw [if_pos hc] at hffs
            rw [if_pos (hcond.2 hc), ← hffs] at hh
            exact hh
          · rw [if_neg hc] at hffs
            omega
        · intro I5 f5 r5 k5 w5
          rw [if_neg (by simpa using h5)] at hffs
          refine ihm (x + 1) I5 (by omega) (by omega) (hf4.tr f5.fe) k5 w5 ?_
          rw [r5]
          exact hffs
    · refine fin q b f v7 I2 hlt hf hr ?_
      rw [whL, if_neg hlt] at hh
      exact hh
end

/-! A DAY OF THE REFERENCE: the walk -/
/-- cells in which a day of the reference leaves its marks, the row among them -/
def FD (I I1 : mu_M) : Prop := (∀ b, b ≠ 115 → b ≠ 116 → b ≠ 119 → b ≠ 120 → b ≠ 121 → b ≠ 122 → b ≠ 123 → I1 b = I b) ∧ ∀ j, j ≠ 12 → j ≠ 13 → I1 115 j = I 115 j
theorem FD.rf (I : mu_M) : FD I I := ⟨fun _ _ _ _ _ _ _ _ => rfl, fun _ _ _ => rfl⟩
theorem FD.tr {I I1 I2 : mu_M} (h : FD I I1) (h2 : FD I1 I2) : FD I I2 := ⟨fun b h3 h4 h5 h6 h7 h8 h9 => by rw [h2.1 b h3 h4 h5 h6 h7 h8 h9, h.1 b h3 h4 h5 h6 h7 h8 h9], fun j h3 h4 => by rw [h2.2 j h3 h4, h.2 j h3 h4]⟩
theorem FL.fd {I I1 : mu_M} (h : FL I I1) : FD I I1 := ⟨fun b h1 _ h3 h4 _ _ _ => h.1 b h1 h3 h4, h.2⟩
theorem FR.fd {I I1 : mu_M} (h : FR I I1) : FD I I1 := ⟨fun b _ h2 _ _ _ _ _ => h b h2, fun j _ _ => by rw [h 115 (by decide)]⟩
theorem FD.w (I : mu_M) {b : Int} (k x : Int) (h : b = 116 ∨ b = 121 ∨ b = 122 ∨ b = 123) : FD I (mu_set I b k x) := ⟨fun c _ _ _ _ _ _ _ => set_off I (by omega), fun j _ _ => by rw [set_off I (by omega)]⟩
theorem mvS_i {S : Row} (h : Inv S) : ∀ j, (j ≤ 0 ∨ S 37 < j) → mvS S j = S j := fun j hj => by unfold mvS; rw [if_neg (by omega)]
section
variable {d : Nat} {G : mu_G} {I : mu_M} {Q : Int → mu_G → mu_M → Prop}
theorem d_173 (hd : d < 980) (hM : MR G) {S : Row} (hL : LW S) {v2 v3 v4 : mu_V} : ∀ (n : Nat) (p : Int) (I2 : mu_M), p + n = 4 → 0 ≤ p → Inv (I2 116) → (I2 116) 0 + 1 < 100000 → (∀ q, p ≤ q → q < I2 116 37 → I2 122 q = earnS S q) → (∀ I1, FD I2 I1 → I1 116 = upR (erL S n p (I2 116)) 0 (erL S n p (I2 116) 0 + 1) → Q 0 G I1) → mu_WP mu_code d 180 173 [(1, 115), (0, p), v2, v3, v4] [] G I2 Q := by
  have fin : ∀ (p : Int) (I2 : mu_M), Inv (I2 116) → (I2 116) 0 + 1 < 100000 → ¬ p < I2 116 37 → (∀ I1, FD I2 I1 → I1 116 = upR (I2 116) 0 (I2 116 0 + 1) → Q 0 G I1) → mu_WP mu_code d 180 173 [(1, 115), (0, p), v2, v3, v4] [] G I2 Q := by
    intro p I2 hI hday hlt hq
    have h0 := hI.1
    have e1 : wr (I2 116 0 + 1) = I2 116 0 + 1 := wr_id (by omega) (by omega)
    refine vc_180_173 (by omega) _ _ _ _ _ ?_
    simp only [hM, e1]
    refine ⟨trivial, by grind, fun h1 => absurd h1 hlt, fun _ => ⟨by grind, by grind, ?_⟩⟩
    intro I3 q3
    refine hq I3 (by rw [q3]; exact FD.w _ _ _ (by simp)) (by rw [q3, set_row])
  intro n
  induction n with
  | zero =>
    intro p I2 hp h0 hI hday hE hq
    have := hI.2.1
    exact fin p I2 hI hday (by omega) hq
  | succ n ih =>
    intro p I2 hp h0 hI hday hE hq
    by_cases hlt : p < I2 116 37
    · have h4 := hI.2.1
      have h5 := (hI.2.2.2.2.1 p h0 hlt).2.1
      have he := earnS_bd hL p
      have eE := hE p (by omega) hlt
      have e1 : wr (5 + p) = 5 + p := wr_id (by omega) (by omega)
      have e2 : wr (I2 116 (5 + p) + earnS S p) = I2 116 (5 + p) + earnS S p := wr_id (by omega) (by omega)
      have e3 : wr (p + 1) = p + 1 := wr_id (by omega) (by omega)
      have step : ∀ I3, I3 = mu_set I2 116 (5 + p) (cap (I2 116 (5 + p) + earnS S p)) → mu_WP mu_code (d + 1) 187 0 [(1, 115), (0, p), (3, 0), (3, 0), (3, 0)] [] G I3 (fun _ G1 I4 => mu_WP mu_code d 180 173 [(1, 115), (0, p + 1), v2, v3, v4] [] G1 I4 Q) := by
        intro I3 q3
        have r3 : I3 116 = upR (I2 116) (5 + p) (cap (I2 116 (5 + p) + earnS S p)) := by rw [q3, set_row]
        have i3 : Inv (I3 116) := by rw [r3]; exact hI.purse (by omega) (cap_bd (by omega))
        have l3 : p < I3 116 37 := by rw [r3, upR_ne _ (by omega)]; exact hlt
        refine r_pays (by omega) hM p i3 ⟨h0, l3⟩ ?_
        intro I4 f4 r4
        have i4 : Inv (I4 116) ∧ ∀ j, (j < 0 ∨ 37 ≤ j) → I4 116 j = I3 116 j := by rw [r4]; exact payL_hi h0 4 _ i3 l3
        have d4 : I4 116 0 = I2 116 0 := by
          rw [r4, payL_0 h0 4 _ i3 l3, r3, upR_ne _ (by omega)]
        refine ih (p + 1) I4 (by omega) (by omega) i4.1 (by rw [d4]; exact hday) ?_ ?_
        · intro q hq1 hq2
          rw [f4 122 (by decide), q3, set_off _ (by decide)]
          refine hE q (by omega) ?_
          rw [i4.2 37 (by omega), r3, upR_ne _ (by omega)] at hq2
          exact hq2
        · intro I1 f1 r1
          refine hq I1 (((q3 ▸ FD.w I2 (b := 116) (5 + p) (cap (I2 116 (5 + p) + earnS S p)) (by simp)).tr f4.fd).tr f1) ?_
          rw [r1, r4, r3, erL, if_pos hlt]
      refine vc_180_173 (by omega) _ _ _ _ _ ?_
      simp only [hM, e1, e3, eE, e2]
      refine ⟨trivial, by grind, fun _ => ⟨by grind, by grind, fun h9 => ⟨by grind, ?_⟩, fun h9 => ⟨by grind, ?_⟩⟩, fun h1 => absurd hlt h1⟩
      · intro I3 q3
        refine step I3 ?_
        rw [q3]; unfold cap; rw [if_pos h9]
      · intro I3 q3
        refine step I3 ?_
        rw [q3]; unfold cap; rw [if_neg h9]
    · refine fin p I2 hI hday hlt ?_
      intro I1 f1 r1
      refine hq I1 f1 ?_
      rw [r1, erL, if_neg hlt]
/-- the third loop: who moves -/
theorem d_120 (hd : d < 980) (hM : MR G) {S : Row} (hI : Inv S) (h00 : S 0 + 1 < 100000) (hL : LW S) {v2 v3 v4 : mu_V} (hQ : ∀ I1, FD I I1 → I1 116 = dayS S → Q 0 G I1) : ∀ (n : Nat) (p : Int) (I2 : mu_M), p + n = 4 → 0 ≤ p → FD I I2 → (∀ j, I2 116 j = if j ≤ p then mvS S j else S j) → (∀ q, 0 ≤ q → q < S 37 → I2 122 q = earnS S q ∧ I2 121 q = toS S q ∧ I2 123 q = bi (stayS S q)) → mu_WP mu_code d 180 120 [(1, 115), (0, p), v2, v3, v4] [] G I2 Q := by
  have fin : ∀ (p : Int) (I2 : mu_M), FD I I2 → (∀ j, I2 116 j = if j ≤ p then mvS S j else S j) → (∀ q, 0 ≤ q → q < S 37 → I2 122 q = earnS S q ∧ I2 121 q = toS S q ∧ I2 123 q = bi (stayS S q)) → 0 ≤ p → p ≤ 4 → ¬ p < S 37 → mu_WP mu_code d 180 120 [(1, 115), (0, p), v2, v3, v4] [] G I2 Q := by
    intro p I2 hf hr hE h0 hp4 hlt
    have r2 : I2 116 = mvS S := by
      funext j
      rw [hr j]
      split
      · rfl
      · rw [mvS_i hI j (by omega)]
    have e37 : I2 116 37 = S 37 := by rw [r2, mvS_i hI 37 (by have := hI.2.1; omega)]
    have e0 : I2 116 0 = S 0 := by rw [r2, mvS_i hI 0 (by omega)]
    refine vc_180_120 (by omega) _ _ _ _ _ ?_
    simp only [hM, e37]
    refine ⟨trivial, by grind, fun h1 => absurd h1 hlt, fun _ => ?_⟩
    refine d_173 hd hM hL 4 0 I2 (by omega) (by omega) (by rw [r2]; exact hI.mv) (by rw [e0]; exact h00) ?_ ?_
    · intro q q0 q1
      rw [e37] at q1
      exact (hE q q0 q1).1
    · intro I1 f1 r1
      refine hQ I1 (hf.tr f1) ?_
      rw [r1, r2]
      rfl
  intro n
  induction n with
  | zero =>
    intro p I2 hp h0 hf hr hE
    exact fin p I2 hf hr hE h0 (by omega) (by have := hI.2.1; omega)
  | succ n ih =>
    intro p I2 hp h0 hf hr hE
    by_cases hlt : p < S 37
    · have h4 := hI.2.1
      have e37 : I2 116 37 = S 37 := by rw [hr 37, if_neg (by omega)]
      have e1 : wr (1 + p) = 1 + p := wr_id (by omega) (by omega)
      have e3 : wr (p + 1) = p + 1 := wr_id (by omega) (by omega)
      obtain ⟨a1, a2, a3⟩ := hE p h0 hlt
      have r1p : I2 116 (1 + p) = S (1 + p) := by rw [hr, if_neg (by omega)]
      have next : ∀ x I3, I3 = mu_set I2 116 (1 + p) x → x = mvS S (1 + p) → mu_WP mu_code d 180 120 [(1, 115), (0, p + 1), v2, v3, v4] [] G I3 Q := by
        intro x I3 q3 hx
        refine ih (p + 1) I3 (by omega) (by omega) (hf.tr (q3 ▸ FD.w I2 (b := 116) _ _ (by simp))) ?_ ?_
        · intro j
          rw [q3, set_row, upR_at]
          by_cases hj : j = 1 + p
          · rw [if_pos hj, if_pos (by omega), hx, hj]
          · rw [if_neg hj, hr j]
            by_cases hj2 : j ≤ p
            · rw [if_pos hj2, if_pos (by omega)]
            · rw [if_neg hj2, if_neg (by omega)]
        · intro q q0 q1
          rw [q3, set_off _ (by decide), set_off _ (by decide), set_off _ (by decide)]
          exact hE q q0 q1
      refine vc_180_120 (by omega) _ _ _ _ _ ?_
      simp only [hM, e37, e1, e3, a2, a3, r1p]
      have mvp : mvS S (1 + p) = if stayS S p = true then S (1 + p) else toS S p := by
        unfold mvS
        rw [if_pos (by omega), show 1 + p - 1 = p by omega]
      refine ⟨trivial, by grind, fun _ => ⟨by grind, fun h1 => ⟨by grind, by grind, ?_⟩, fun h1 => ⟨by grind, by grind, ?_⟩⟩, fun h1 => absurd hlt h1⟩
      · intro I3 q3
        refine next _ I3 q3 ?_
        rw [mvp, (bi_not _).1 h1]
        simp
      · intro I3 q3
        refine next _ I3 q3 ?_
        rw [mvp, if_pos (by
          cases hb : stayS S p with
          | true => rfl
          | false => rw [hb] at h1; exact absurd rfl h1)]
    · exact fin p I2 hf hr hE h0 (by omega) hlt
/-- the second loop: who stays -/
theorem d_90 (hd : d < 980) (hM : MR G) {S : Row} (hI : Inv S) (h00 : S 0 + 1 < 100000) (hL : LW S) {v2 v3 v4 : mu_V} (hQ : ∀ I1, FD I I1 → I1 116 = dayS S → Q 0 G I1) : ∀ (n : Nat) (p : Int) (I2 : mu_M), p + n = 4 → 0 ≤ p → FD I I2 → I2 116 = S → (∀ q, 0 ≤ q → q < S 37 → I2 122 q = earnS S q ∧ I2 121 q = toS S q) → (∀ q, 0 ≤ q → q < p → I2 123 q = bi (stayS S q)) → mu_WP mu_code d 180 90 [(1, 115), (0, p), v2, v3, v4] [] G I2 Q := by
  have fin : ∀ (p : Int) (I2 : mu_M), FD I I2 → I2 116 = S → (∀ q, 0 ≤ q → q < S 37 → I2 122 q = earnS S q ∧ I2 121 q = toS S q) → (∀ q, 0 ≤ q → q < p → I2 123 q = bi (stayS S q)) → ¬ p < S 37 → mu_WP mu_code d 180 90 [(1, 115), (0, p), v2, v3, v4] [] G I2 Q := by
    intro p I2 hf hr hE hs hlt
    refine vc_180_90 (by omega) _ _ _ _ _ ?_
    simp only [hM, hr]
    refine ⟨trivial, by grind, fun h1 => absurd h1 hlt, fun _ => ?_⟩
    refine d_120 hd hM hI h00 hL hQ 4 0 I2 (by omega) (by omega) hf ?_ ?_
    · intro j
      rw [hr]
      split
      · rw [mvS_i hI j (by omega)]
      · rfl
    · intro q q0 q1
      exact ⟨(hE q q0 q1).1, (hE q q0 q1).2, hs q q0 (by omega)⟩
  intro n
  induction n with
  | zero =>
    intro p I2 hp h0 hf hr hE hs
    exact fin p I2 hf hr hE hs (by have := hI.2.1; omega)
  | succ n ih =>
    intro p I2 hp h0 hf hr hE hs
    by_cases hlt : p < S 37
    · have h4 := hI.2.1
      have e3 : wr (p + 1) = p + 1 := wr_id (by omega) (by omega)
      refine vc_180_90 (by omega) _ _ _ _ _ ?_
      simp only [hM, hr, e3]
      refine ⟨trivial, by grind, fun _ => ?_, fun h1 => absurd hlt h1⟩
      refine r_stays (by omega) hM p (by omega) ?_
      have hsw : swL (I2 116) (I2 121) p 4 0 false = stayS S p := by
        rw [hr]
        exact swL_same (fun q q0 q1 => (hE q q0 (by omega)).2) 4 0 false (by omega)
      rw [hsw]
      simp only [hM]
      refine ⟨⟨trivial, by omega, by omega, by cases stayS S p <;> simp [bi]⟩, ?_⟩
      intro I3 q3
      refine ih (p + 1) I3 (by omega) (by omega) (hf.tr (q3 ▸ FD.w I2 (b := 123) _ _ (by simp))) (by rw [q3, set_off _ (by decide)]; exact hr) ?_ ?_
      · intro q q0 q1
        rw [q3, set_off _ (by decide), set_off _ (by decide)]
        exact hE q q0 q1
      · intro q q0 q1
        rw [q3, set_row, upR_at]
        by_cases hqp : q = p
        · rw [if_pos hqp, hqp]
        · rw [if_neg hqp]
          exact hs q q0 (by omega)
    · exact fin p I2 hf hr hE hs hlt
/-- the first loop: where the steps lead -/
theorem r_dayGoes (hd : d < 970) (hM : MR G) (hI : Inv (I 116)) (hL : LW (I 116)) (h00 : I 116 0 + 1 < 100000) (hQ : ∀ I1, FD I I1 → I1 116 = dayS (I 116) → Q 0 G I1) : mu_WP mu_code d 180 0 [(1, 115), (3, 0), (3, 0), (3, 0), (3, 0)] [] G I Q := by
  have hwh := hI.wh
  have h4 := hI.2.1
  refine vc_180_0 (by omega) _ ?_
  suffices H : ∀ (n : Nat) (p : Int) (I2 : mu_M) (v2 v3 v4 : mu_V), p + n = 4 → 0 ≤ p → FD I I2 → I2 116 = I 116 → (∀ q, 0 ≤ q → q < p → I2 122 q = earnS (I 116) q ∧ I2 121 q = toS (I 116) q) → mu_WP mu_code d 180 2 [(1, 115), (0, p), v2, v3, v4] [] G I2 Q from
    H 4 0 I _ _ _ (by omega) (by omega) (FD.rf I) rfl (fun q q0 q1 => by omega)
  have fin : ∀ (p : Int) (I2 : mu_M) (v2 v3 v4 : mu_V), FD I I2 → I2 116 = I 116 → (∀ q, 0 ≤ q → q < p → I2 122 q = earnS (I 116) q ∧ I2 121 q = toS (I 116) q) → ¬ p < I 116 37 → mu_WP mu_code d 180 2 [(1, 115), (0, p), v2, v3, v4] [] G I2 Q := by
    intro p I2 v2 v3 v4 hf hr hE hlt
    refine vc_180_2 (by omega) _ _ _ _ _ ?_
    simp only [hM, hr]
    refine ⟨trivial, by grind, fun h1 => absurd h1 hlt, fun _ => ?_⟩
    exact d_90 (by omega) hM hI h00 hL hQ 4 0 I2 (by omega) (by omega) hf hr (fun q q0 q1 => hE q q0 (by omega)) (fun q q0 q1 => by omega)
  intro n
  induction n with
  | zero =>
    intro p I2 v2 v3 v4 hp h0 hf hr hE
    exact fin p I2 v2 v3 v4 hf hr hE (by omega)
  | succ n ih =>
    intro p I2 v2 v3 v4 hp h0 hf hr hE
    by_cases hlt : p < I 116 37
    · have e1 : wr (1 + p) = 1 + p := wr_id (by omega) (by omega)
      have e3 : wr (p + 1) = p + 1 := wr_id (by omega) (by omega)
      obtain ⟨j1, j2, j3, j4, j5, j6, j7, j8⟩ := hI.2.2.2.2.1 p h0 hlt
      have hst := stepsS_bd (I 116) p
      have haim := aimS_bd hI ⟨h0, hlt⟩
      refine vc_180_2 (by omega) _ _ _ _ _ ?_
      simp only [hM, hr, e1]
      refine ⟨trivial, by grind, fun _ => ?_, fun h1 => absurd hlt h1⟩
      refine r_stepsOf (by omega) hM p (by rw [hr]; exact hI) (by rw [hr]; exact hL) (by rw [hr]; exact ⟨h0, hlt⟩) ?_
      intro I6 f6 g6
      have r6 : I6 116 = I 116 := by rw [f6.1 116 (by decide) (by decide) (by decide), hr]
      rw [hr] at g6
      simp only [hM, hr, g6]
      refine ⟨trivial, by grind, ?_⟩
      intro I9 q9
      have r9 : I9 116 = I 116 := by rw [q9, set_off _ (by decide), r6]
      refine r_aimOf (by omega) hM p (by rw [r9]; exact hI) (by rw [r9]; exact hL) (by rw [r9]; exact ⟨h0, hlt⟩) ?_
      simp only [hM, r9]
      refine ⟨trivial, by grind, by grind, ?_⟩
      intro I18 q18
      have r18 : I18 116 = I 116 := by rw [q18, set_off _ (by decide), r9]
      have f18 : FD I I18 := (hf.tr f6.fd).tr ((q9 ▸ FD.w I6 (b := 122) _ _ (by simp)).tr (q18 ▸ FD.w I9 (b := 121) _ _ (by simp)))
      have o18 : ∀ q, 0 ≤ q → q < p → I18 122 q = earnS (I 116) q ∧ I18 121 q = toS (I 116) q := by
        intro q q0 q1
        rw [q18, set_off (I9) (show (122 : Int) ≠ 121 by decide), set_row, upR_ne _ (by omega), q9, set_row, upR_ne _ (by omega), set_off _ (by decide), f6.1 121 (by decide) (by decide) (by decide), f6.1 122 (by decide) (by decide) (by decide)]
        exact hE q q0 q1
      have e18 : I18 122 p = earnS (I 116) p := by
        rw [q18, set_off _ (by decide), q9, set_row, upR_same]
        rfl
      have t18 : I18 121 p = I 116 (1 + p) := by rw [q18, set_row, upR_same]
      -- the steps
      have steps : ∀ (m : Nat) (k : Int) (I3 : mu_M), 0 ≤ k → (stepsS (I 116) p - k).toNat = m → k ≤ stepsS (I 116) p → FD I I3 → I3 116 = I 116 → (∀ q, 0 ≤ q → q < p → I3 122 q = earnS (I 116) q ∧ I3 121 q = toS (I 116) q) → I3 122 p = earnS (I 116) p → (0 ≤ I3 121 p ∧ I3 121 p < I 116 43 * I 116 44) → toL (I 116) p (aimS (I 116) p) m (I3 121 p) = toS (I 116) p → mu_WP mu_code d 180 52 [(1, 115), (0, p), (0, stepsS (I 116) p), (0, aimS (I 116) p), (0, k)] [] G I3 Q := by
        intro m
        induction m with
        | zero =>
          intro k I3 hk hm hk2 f3 r3 o3 e3' b3 t3
          refine vc_180_52 (by omega) _ _ _ _ _ ⟨fun h1 => absurd h1 (by omega), fun _ => ?_⟩
          rw [e3]
          refine ih (p + 1) I3 _ _ _ (by omega) (by omega) f3 r3 ?_
          intro q q0 q1
          by_cases hqp : q = p
          · subst hqp
            exact ⟨e3', t3⟩
          · exact o3 q q0 (by omega)
        | succ m ihm =>
          intro k I3 hk hm hk2 f3 r3 o3 e3' b3 t3
          have hb := stS_bd (p := p) (aim := aimS (I 116) p) hI.2.2.1 hI.2.2.2.1 b3
          refine vc_180_52 (by omega) _ _ _ _ _ ⟨fun _ => ?_, fun h1 => absurd h1 (by omega)⟩
          have ek : wr (k + 1) = k + 1 := wr_id (by omega) (by omega)
          simp only [hM, ek]
          refine ⟨trivial, by grind, ?_⟩
          refine r_stepFrom (by omega) hM p _ _ (by rw [r3]; exact hI) (by rw [r3]; exact ⟨h0, hlt⟩) (by omega) (by omega) ?_
          refine ⟨by grind, ?_⟩
          intro I8 q8
          rw [r3] at q8
          refine ihm (k + 1) I8 (by omega) (by omega) (by omega) (f3.tr (q8 ▸ FD.w I3 (b := 121) _ _ (by simp))) (by rw [q8, set_off _ (by decide), r3]) ?_ ?_ ?_ ?_
          · intro q q0 q1
            rw [q8, set_off I3 (show (122 : Int) ≠ 121 by decide), set_row, upR_ne _ (by omega)]
            exact o3 q q0 q1
          · rw [q8, set_off _ (by decide)]; exact e3'
          · rw [q8, set_row, upR_same]; exact hb
          · rw [q8, set_row, upR_same]; exact t3
      refine steps (stepsS (I 116) p).toNat 0 I18 (by omega) (by simp) (by omega) f18 r18 o18 e18 (by rw [t18]; exact j1) ?_
      rw [t18]
      rfl
    · exact fin p I2 v2 v3 v4 hf hr hE hlt
end

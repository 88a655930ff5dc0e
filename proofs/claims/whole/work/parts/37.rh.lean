/-! THE REFERENCE'S STEPS OF A DAY, EARNED, AND ROWS OF DEBTS -/
def tkL (p : Int) : Nat → Int → Row → Row
  | 0, _, S => S
  | n + 1, j, S => if j < S (9 + p) then tkL p n (j + 1) (upR (upR S (13 + 3 * p + j) (S (13 + 3 * p + j + 1))) (25 + 3 * p + j) (S (25 + 3 * p + j + 1))) else S
/-- the debt at place k of p goes -/
def tkS (S : Row) (p k : Int) : Row := tkL p 3 k (upR S (9 + p) (S (9 + p) - 1))
def ptL (p k : Int) : Nat → Int → Row → Row
  | 0, _, S => S
  | n + 1, j, S => if k < j then ptL p k n (j - 1) (upR (upR S (13 + 3 * p + j) (S (13 + 3 * p + j - 1))) (25 + 3 * p + j) (S (25 + 3 * p + j - 1))) else S
/-- p owes q at place k -/
def ptS (S : Row) (p k q x : Int) : Row :=
  (fun T : Row => upR (upR (upR T (13 + 3 * p + k) q) (25 + 3 * p + k) x) (9 + p) (T (9 + p) + 1)) (ptL p k 3 (S (9 + p)) S)
/-- all but the row is as it was -/
def FR (I I1 : mu_M) : Prop := ∀ b, b ≠ 116 → I1 b = I b
theorem FR.rf (I : mu_M) : FR I I := fun _ _ => rfl
theorem FR.tr {I I1 I2 : mu_M} (h : FR I I1) (h2 : FR I1 I2) : FR I I2 := fun b hb => by rw [h2 b hb, h b hb]
theorem FR.w (I : mu_M) (k x : Int) : FR I (mu_set I 116 k x) := fun _ hb => set_off I hb
section
variable {d : Nat} {G : mu_G} {I : mu_M} {Q : Int → mu_G → mu_M → Prop}
theorem r_earnsOf (hd : d < 989) (hM : MR G) (p : Int) (hI : Inv (I 116)) (hL : LW (I 116)) (hp : 0 ≤ p ∧ p < I 116 37) (h : ∀ I1, FL I I1 → Q (lookS (I 116) p).2 G I1) : mu_WP mu_code d 173 0 [(1, 115), (0, p)] [] G I Q := by
  have hwh := hI.wh
  obtain ⟨i1, i2, i3, i4, i5, i6⟩ := hI
  obtain ⟨j1, j2, j3, j4, j5, j6, j7, j8⟩ := i5 p hp.1 hp.2
  refine vc_173_0 (by omega) _ _ ⟨hM.1, r_looks (by omega) hM p (by omega) i3 (by omega) hL ?_⟩
  intro I1 f1 f2 f3
  refine ⟨hM.1, ?_⟩
  rw [f3]
  exact h I1 f1
theorem r_stepsOf (hd : d < 989) (hM : MR G) (p : Int) (hI : Inv (I 116)) (hL : LW (I 116)) (hp : 0 ≤ p ∧ p < I 116 37) (h : ∀ I1, FL I I1 → I1 115 13 = (lookS (I 116) p).2 → Q (stepsS (I 116) p) G I1) : mu_WP mu_code d 171 0 [(1, 115), (0, p), (3, 0), (3, 0)] [] G I Q := by
  have hwh := hI.wh
  obtain ⟨i1, i2, i3, i4, i5, i6⟩ := hI
  obtain ⟨j1, j2, j3, j4, j5, j6, j7, j8⟩ := i5 p hp.1 hp.2
  refine vc_171_0 (by omega) _ _ ⟨hM.1, r_looks (by omega) hM p (by omega) i3 (by omega) hL ?_⟩
  intro I1 f1 f2 f3
  have r1 : I1 116 = I 116 := f1.1 116 (by decide) (by decide) (by decide)
  have h := h I1 f1 f3
  have e1 : wr (45 + p) = 45 + p := wr_id (by omega) (by omega)
  have e2 : wr (49 + p) = 49 + p := wr_id (by omega) (by omega)
  have e3 : wr (5 + p) = 5 + p := wr_id (by omega) (by omega)
  have e4 : wr (I 116 (49 + p) + 2) = I 116 (49 + p) + 2 := wr_id (by omega) (by omega)
  have e5 : wr (10 * I 116 (49 + p)) = 10 * I 116 (49 + p) := wr_id (by omega) (by omega)
  simp only [hM, r1, e1, e2, e3, e4, e5, f2]
  unfold stepsS at h
  generalize hl : (lookS (I 116) p).1 = l at *
  cases l
  · simp only [bi]
    grind
  · simp only [bi]
    grind
theorem r_takesOut (hd : d < 989) (hM : MR G) (p k : Int) (hp : 0 ≤ p ∧ p < 4) (hk : 0 ≤ k ∧ k ≤ 3) (ho : 1 ≤ I 116 (9 + p) ∧ I 116 (9 + p) ≤ 3) (h : ∀ I1, FR I I1 → I1 116 = tkS (I 116) p k → Q 0 G I1) : mu_WP mu_code d 175 0 [(1, 115), (0, p), (0, k), (3, 0)] [] G I Q := by
  have e1 : wr (9 + p) = 9 + p := wr_id (by omega) (by omega)
  have e2 : wr (3 * p) = 3 * p := wr_id (by omega) (by omega)
  have e3 : wr (13 + 3 * p) = 13 + 3 * p := wr_id (by omega) (by omega)
  have e4 : wr (25 + 3 * p) = 25 + 3 * p := wr_id (by omega) (by omega)
  have e5 : wr (I 116 (9 + p) - 1) = I 116 (9 + p) - 1 := wr_id (by omega) (by omega)
  have loop : ∀ (n : Nat) (j : Int) (I2 : mu_M), k ≤ j → j + n = 3 + k → I2 116 (9 + p) ≤ 2 → FR I I2 → (∀ I1, FR I I1 → I1 116 = tkL p n j (I2 116) → Q 0 G I1) → mu_WP mu_code d 175 15 [(1, 115), (0, p), (0, k), (0, j)] [] G I2 Q := by
    intro n
    induction n with
    | zero =>
      intro j I2 hj hn h9 hfr hq
      refine vc_175_15 (by omega) _ _ _ _ ?_
      simp only [hM, e1]
      exact ⟨trivial, by grind, fun h1 => absurd h1 (by omega), fun _ => hq I2 hfr rfl⟩
    | succ n ih =>
      intro j I2 hj hn h9 hfr hq
      refine vc_175_15 (by omega) _ _ _ _ ?_
      have hj0 : 0 ≤ j := by omega
      by_cases hlt : j < I2 116 (9 + p)
      · have e6 : wr (13 + 3 * p + j) = 13 + 3 * p + j := wr_id (by omega) (by omega)
        have e7 : wr (25 + 3 * p + j) = 25 + 3 * p + j := wr_id (by omega) (by omega)
        have e8 : wr (13 + 3 * p + j + 1) = 13 + 3 * p + j + 1 := wr_id (by omega) (by omega)
        have e9 : wr (25 + 3 * p + j + 1) = 25 + 3 * p + j + 1 := wr_id (by omega) (by omega)
        have e10 : wr (j + 1) = j + 1 := wr_id (by omega) (by omega)
        simp only [hM, e1, e2, e3, e4, e6, e7, e8, e9, e10]
        refine ⟨trivial, by grind, fun _ => ⟨by grind, by grind, ?_⟩, fun h1 => absurd hlt h1⟩
        intro I5 q5
        refine ⟨by grind, by grind, ?_⟩
        intro I9 q9
        have r9 : I9 116 = upR (upR (I2 116) (13 + 3 * p + j) (I2 116 (13 + 3 * p + j + 1))) (25 + 3 * p + j) (I2 116 (25 + 3 * p + j + 1)) := by
          rw [q9, set_row, q5, set_row]
          rw [upR_ne (I2 116) (show 25 + 3 * p + j + 1 ≠ 13 + 3 * p + j by omega)]
        refine ih (j + 1) I9 (by omega) (by omega) ?_ (by rw [q9, q5]; exact (hfr.tr (FR.w _ _ _)).tr (FR.w _ _ _)) ?_
        · rw [r9, upR_ne _ (by omega), upR_ne _ (by omega)]
          exact h9
        · intro I1 g1 g2
          refine hq I1 g1 ?_
          rw [tkL, if_pos hlt, g2, r9]
      · simp only [hM, e1]
        refine ⟨trivial, by grind, fun h1 => absurd h1 hlt, fun _ => hq I2 hfr ?_⟩
        rw [tkL, if_neg hlt]
  refine vc_175_0 (by omega) _ _ _ ?_
  simp only [hM, e1, e5]
  refine ⟨trivial, by grind, by grind, ?_⟩
  intro I3 q3
  refine loop 3 k I3 (by omega) (by omega) (by rw [q3, set_row, upR_same]; omega) (by rw [q3]; exact FR.w _ _ _) ?_
  intro I1 g1 g2
  refine h I1 g1 ?_
  rw [g2, q3, set_row]
  rfl
end

/-! THE REFERENCE'S ROWS OF DEBTS, WHO STAYS -/
section
variable {d : Nat} {G : mu_G} {I : mu_M} {Q : Int → mu_G → mu_M → Prop}
theorem r_puts (hd : d < 989) (hM : MR G) (p k q x : Int) (hp : 0 ≤ p ∧ p < 4) (hk : 0 ≤ k ∧ k ≤ I 116 (9 + p)) (ho : 0 ≤ I 116 (9 + p) ∧ I 116 (9 + p) ≤ 2) (h : ∀ I1, FR I I1 → I1 116 = ptS (I 116) p k q x → Q 0 G I1) : mu_WP mu_code d 176 0 [(1, 115), (0, p), (0, k), (0, q), (0, x), (3, 0)] [] G I Q := by
  have e1 : wr (9 + p) = 9 + p := wr_id (by omega) (by omega)
  have e2 : wr (3 * p) = 3 * p := wr_id (by omega) (by omega)
  have e3 : wr (13 + 3 * p) = 13 + 3 * p := wr_id (by omega) (by omega)
  have e4 : wr (25 + 3 * p) = 25 + 3 * p := wr_id (by omega) (by omega)
  have e5 : wr (13 + 3 * p + k) = 13 + 3 * p + k := wr_id (by omega) (by omega)
  have e6 : wr (25 + 3 * p + k) = 25 + 3 * p + k := wr_id (by omega) (by omega)
  have fin : ∀ (j : Int) (I2 : mu_M), ¬ k < j → I2 116 (9 + p) = I 116 (9 + p) → FR I I2 → (∀ I1, FR I I1 → I1 116 = upR (upR (upR (I2 116) (13 + 3 * p + k) q) (25 + 3 * p + k) x) (9 + p) (I2 116 (9 + p) + 1) → Q 0 G I1) → mu_WP mu_code d 176 11 [(1, 115), (0, p), (0, k), (0, q), (0, x), (0, j)] [] G I2 Q := by
    intro j I2 hj h9 hfr hq
    have e7 : wr (I2 116 (9 + p) + 1) = I2 116 (9 + p) + 1 := wr_id (by omega) (by omega)
    refine vc_176_11 (by omega) _ _ _ _ _ _ ⟨fun h1 => absurd h1 hj, fun _ => ?_⟩
    simp only [hM, e1, e2, e3, e4, e5, e6]
    refine ⟨trivial, by grind, ?_⟩
    intro I17 q17
    refine ⟨by grind, ?_⟩
    intro I20 q20
    have r20 : I20 116 = upR (upR (I2 116) (13 + 3 * p + k) q) (25 + 3 * p + k) x := by rw [q20, set_row, q17, set_row]
    have r9 : I20 116 (9 + p) = I2 116 (9 + p) := by rw [r20, upR_ne _ (by omega), upR_ne _ (by omega)]
    rw [r9, e7]
    refine ⟨by grind, by grind, ?_⟩
    intro I24 q24
    refine hq I24 ?_ ?_
    · rw [q24, q20, q17]
      exact ((hfr.tr (FR.w _ _ _)).tr (FR.w _ _ _)).tr (FR.w _ _ _)
    · rw [q24, set_row, r20]
  have loop : ∀ (n : Nat) (j : Int) (I2 : mu_M), j ≤ n → j ≤ 2 → I2 116 (9 + p) = I 116 (9 + p) → FR I I2 → (∀ I1, FR I I1 → I1 116 = upR (upR (upR (ptL p k n j (I2 116)) (13 + 3 * p + k) q) (25 + 3 * p + k) x) (9 + p) (ptL p k n j (I2 116) (9 + p) + 1) → Q 0 G I1) → mu_WP mu_code d 176 11 [(1, 115), (0, p), (0, k), (0, q), (0, x), (0, j)] [] G I2 Q := by
    intro n
    induction n with
    | zero =>
      intro j I2 hj hj2 h9 hfr hq
      exact fin j I2 (by omega) h9 hfr hq
    | succ n ih =>
      intro j I2 hj hj2 h9 hfr hq
      by_cases hlt : k < j
      · refine vc_176_11 (by omega) _ _ _ _ _ _ ⟨fun _ => ?_, fun h1 => absurd hlt h1⟩
        have e6 : wr (13 + 3 * p + j) = 13 + 3 * p + j := wr_id (by omega) (by omega)
        have e7 : wr (25 + 3 * p + j) = 25 + 3 * p + j := wr_id (by omega) (by omega)
        have e8 : wr (13 + 3 * p + j - 1) = 13 + 3 * p + j - 1 := wr_id (by omega) (by omega)
        have e9 : wr (25 + 3 * p + j - 1) = 25 + 3 * p + j - 1 := wr_id (by omega) (by omega)
        have e10 : wr (j + -1) = j - 1 := by rw [wr_id (by omega) (by omega)]; omega
        simp only [hM, e2, e3, e4, e6, e7, e8, e9, e10]
        refine ⟨trivial, by grind, by grind, ?_⟩
        intro I5 q5
        refine ⟨by grind, by grind, ?_⟩
        intro I9 q9
        have r9 : I9 116 = upR (upR (I2 116) (13 + 3 * p + j) (I2 116 (13 + 3 * p + j - 1))) (25 + 3 * p + j) (I2 116 (25 + 3 * p + j - 1)) := by
          rw [q9, set_row, q5, set_row]
          rw [upR_ne (I2 116) (show 25 + 3 * p + j - 1 ≠ 13 + 3 * p + j by omega)]
        refine ih (j - 1) I9 (by omega) (by omega) ?_ (by rw [q9, q5]; exact (hfr.tr (FR.w _ _ _)).tr (FR.w _ _ _)) ?_
        · rw [r9, upR_ne _ (by omega), upR_ne _ (by omega)]
          exact h9
        · intro I1 g1 g2
          refine hq I1 g1 ?_
          rw [ptL, if_pos hlt, g2, r9]
      · refine fin j I2 hlt h9 hfr ?_
        intro I1 g1 g2
        refine hq I1 g1 ?_
        rw [ptL, if_neg hlt, g2]
  refine vc_176_0 (by omega) _ _ _ _ _ ?_
  simp only [hM, e1]
  refine ⟨trivial, by grind, ?_⟩
  exact loop 3 (I 116 (9 + p)) I (by omega) (by omega) rfl (FR.rf I) h
theorem r_areSwapped (hd : d < 989) (hM : MR G) (p q : Int) (hp : 0 ≤ p ∧ p < 4) (hq : 0 ≤ q ∧ q < 4) (h : Q (if I 116 (1 + p) ≠ I 116 (1 + q) ∧ I 121 p = I 116 (1 + q) ∧ I 121 q = I 116 (1 + p) then 1 else 0) G I) : mu_WP mu_code d 186 0 [(1, 115), (0, p), (0, q)] [] G I Q := by
  have e1 : wr (1 + p) = 1 + p := wr_id (by omega) (by omega)
  have e2 : wr (1 + q) = 1 + q := wr_id (by omega) (by omega)
  refine vc_186_0 (by omega) _ _ _ ?_
  simp only [hM, e1, e2]
  grind
def swL (S T : Row) (q : Int) : Nat → Int → Bool → Bool
  | 0, _, b => b
  | n + 1, p, b => if p < q then swL S T q n (p + 1) (b || decide (S (1 + p) ≠ S (1 + q) ∧ T p = S (1 + q) ∧ T q = S (1 + p))) else b
theorem r_stays (hd : d < 988) (hM : MR G) (q : Int) (hq : 0 ≤ q ∧ q < 4) (h : Q (bi (swL (I 116) (I 121) q 4 0 false)) G I) : mu_WP mu_code d 185 0 [(1, 115), (0, q), (3, 0), (3, 0)] [] G I Q := by
  have loop : ∀ (n : Nat) (p : Int) (b : Bool), p + n = 4 → 0 ≤ p → Q (bi (swL (I 116) (I 121) q n p b)) G I → mu_WP mu_code d 185 4 [(1, 115), (0, q), (0, bi b), (0, p)] [] G I Q := by
    intro n
    induction n with
    | zero =>
      intro p b hp h0 h
      refine vc_185_4 (by omega) _ _ _ _ ⟨fun h1 => absurd h1 (by omega), fun _ => ⟨by cases b <;> simp [bi], h⟩⟩
    | succ n ih =>
      intro p b hp h0 h
      have e1 : wr (p + 1) = p + 1 := wr_id (by omega) (by omega)
      refine vc_185_4 (by omega) _ _ _ _ ⟨fun h1 => ?_, fun h1 => ⟨by cases b <;> simp [bi], ?_⟩⟩
      · rw [swL, if_pos h1] at h
        rw [e1]
        refine ⟨fun h2 => ⟨hM.1, r_areSwapped (by omega) hM p q (by omega) hq ⟨fun h3 => ?_, fun h3 => ?_⟩⟩, fun h2 => ?_⟩
        · have hb := (bi_not b).1 h2
          subst hb
          refine ih (p + 1) false (by omega) (by omega) ?_
          have hn : ¬ (I 116 (1 + p) ≠ I 116 (1 + q) ∧ I 121 p = I 116 (1 + q) ∧ I 121 q = I 116 (1 + p)) := by
            intro hc
            rw [if_pos hc] at h3
            omega
          rw [decide_eq_false hn] at h
          exact h
        · have hb := (bi_not b).1 h2
          subst hb
          refine ih (p + 1) true (by omega) (by omega) ?_
          have hn : I 116 (1 + p) ≠ I 116 (1 + q) ∧ I 121 p = I 116 (1 + q) ∧ I 121 q = I 116 (1 + p) := by
            by_cases hc : I 116 (1 + p) ≠ I 116 (1 + q) ∧ I 121 p = I 116 (1 + q) ∧ I 121 q = I 116 (1 + p)
            · exact hc
            · rw [if_neg hc] at h3
              exact absurd rfl h3
          rw [decide_eq_true hn] at h
          exact h
        · have hb : b = true := by cases b <;> simp [bi] at h2 ⊢
          subst hb
          refine ih (p + 1) true (by omega) (by omega) ?_
          rw [Bool.true_or] at h
          exact h
      · rw [swL, if_neg h1] at h
        exact h
  exact vc_185_0 (by omega) _ _ (loop 4 0 false (by omega) (by omega) h)
end

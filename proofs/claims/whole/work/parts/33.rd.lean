/-! THE REFERENCE'S LOOK: facts of one of the people -/
def byF (S : Row) (p : Int) : Row := fun j => if j = 0 then p else if j = 1 then S (45 + p) else if j = 2 then Int.tmod (S (1 + p)) (S 43) else if j = 3 then Int.tdiv (S (1 + p)) (S 43) else if j = 4 then Int.tmod (S 0) 7 else S (9 + p)
def manyS (S : Row) : Int := if S 42 = -1 then 0 else S (272 + S 42)
def textS (S : Row) : List Int := codes S (277 + 140 * S 42) (manyS S).toNat
def lookS (S : Row) (p : Int) : Bool × Int := runL (byF S p) (textS S) [] false 0
/-- the law that holds can be read -/
def LW (S : Row) : Prop := (-1 ≤ S 42 ∧ S 42 ≤ 4) ∧ (0 ≤ manyS S ∧ manyS S ≤ 140) ∧ okC (textS S) 0
theorem FL.w {I : mu_M} {b k x : Int} (h : b = 119 ∨ b = 120 ∨ (b = 115 ∧ (k = 12 ∨ k = 13))) : FL I (mu_set I b k x) := by
  rcases h with h | h | ⟨h, h | h⟩
  · subst h; exact FL.s119 I k x
  · subst h; exact FL.s120 I k x
  · subst h; subst h; exact FL.s12 I x
  · subst h; subst h; exact FL.s13 I x
section
variable {d : Nat} {G : mu_G} {I : mu_M} {Q : Int → mu_G → mu_M → Prop}
theorem r_looks (hd : d < 990) (hM : MR G) (p : Int) (hp : 0 ≤ p ∧ p < 4) (hw : 2 ≤ I 116 43 ∧ I 116 43 ≤ 8) (hc : 0 ≤ I 116 (1 + p) ∧ I 116 (1 + p) < 64) (hL : LW (I 116))
  (h : ∀ I1, FL I I1 → I1 115 12 = bi (lookS (I 116) p).1 → I1 115 13 = (lookS (I 116) p).2 → Q 0 G I1) : mu_WP mu_code d 172 0 [(1, 115), (0, p), (3, 0), (3, 0), (3, 0), (3, 0), (3, 0), (3, 0), (3, 0), (3, 0)] [] G I Q := by
  obtain ⟨l1, l2, l3⟩ := hL
  have e1 : wr (45 + p) = 45 + p := wr_id (by omega) (by omega)
  have e2 : wr (1 + p) = 1 + p := wr_id (by omega) (by omega)
  have e3 : wr (9 + p) = 9 + p := wr_id (by omega) (by omega)
  have e4 : wr (140 * I 116 42) = 140 * I 116 42 := wr_id (by omega) (by omega)
  have e5 : wr (277 + 140 * I 116 42) = 277 + 140 * I 116 42 := wr_id (by omega) (by omega)
  have t3 : Int.tdiv (I 116 (1 + p)) (I 116 43) = I 116 (1 + p) / I 116 43 := Int.tdiv_eq_ediv_of_nonneg hc.1
  have t4 : 0 ≤ I 116 (1 + p) / I 116 43 := Int.ediv_nonneg hc.1 (by omega)
  have t5 : I 116 (1 + p) / I 116 43 ≤ I 116 (1 + p) := Int.ediv_le_self _ hc.1
  have e6 : wr (Int.tdiv (I 116 (1 + p)) (I 116 43)) = Int.tdiv (I 116 (1 + p)) (I 116 43) := by rw [t3]; exact wr_id (by omega) (by omega)
  refine vc_172_0 (by omega) _ _ ?_
  simp only [hM, e1, e2, e3]
  refine ⟨trivial, by grind, ?_⟩
  intro I2 q2
  refine ⟨by grind, by grind, ?_⟩
  intro I6 q6
  have r6 : I6 116 = I 116 := by rw [q6, set_off _ (by decide), q2, set_off _ (by decide)]
  rw [r6]
  refine ⟨by grind, by grind, by omega, by grind, ?_⟩
  intro I12 q12
  have r12 : I12 116 = I 116 := by rw [q12, set_off _ (by decide), r6]
  rw [r12, e6]
  refine ⟨by omega, by grind, ?_⟩
  intro I16 q16
  have r16 : I16 116 = I 116 := by rw [q16, set_off _ (by decide), r12]
  rw [r16]
  refine ⟨by grind, by grind, ?_⟩
  intro I20 q20
  have r20 : I20 116 = I 116 := by rw [q20, set_off _ (by decide), r16]
  rw [r20]
  refine ⟨by grind, by grind, ?_⟩
  intro I24 q24 I27 q27 I29 q29
  have r29 : I29 116 = I 116 := by rw [q29, set_off _ (by decide), q27, set_off _ (by decide), q24, set_off _ (by decide), r20]
  have r2 : I2 116 = I 116 := by rw [q2, set_off _ (by decide)]
  have hfl : FL I I29 := by
    rw [q29, q27, q24, q20, q16, q12, q6, q2]
    exact (((((((FL.w (by simp)).tr (FL.w (by simp))).tr (FL.w (by simp))).tr (FL.w (by simp))).tr (FL.w (by simp))).tr (FL.w (by simp))).tr (FL.w (by simp))).tr (FL.w (by simp))
  refine r_tellsOf (by omega) hM 272 (by omega) (by rw [r29]; exact l1) ?_
  refine ⟨hM.1, by grind, ?_⟩
  simp only [hM, r29, e4, e5]
  change mu_WP mu_code d 172 136 [(1, 115), (0, p), (0, manyS (I 116)), (0, 277 + 140 * I 116 42), (0, (([] : List Bool).length : Int)), (0, 277 + 140 * I 116 42), (3, 0), (3, 0), (3, 0), (3, 0)] [] G I29 Q
  have hm : manyS (I 116) = 0 ∨ 0 ≤ I 116 42 := by
    unfold manyS
    split <;> omega
  by_cases h1 : I 116 42 = -1
  · have hm0 : manyS (I 116) = 0 := by unfold manyS; rw [if_pos h1]
    refine l_136 (f := byF (I 116) p) (by omega) hM (by omega) (by omega) (manyS (I 116)).toNat (277 + 140 * I 116 42) [] false 0 I29 (0, p) _ _ _ _ (by omega) (by omega) ?_ ?_ trivial (by simp) (by rw [r29]; exact l3) ?_ (by omega) (by omega) ?_
    · rw [q29, set_row, upR_ne _ (by decide), q27, set_row, upR_same]; rfl
    · rw [q29, set_row, upR_same]
    · intro j j0 j6
      rw [q29, set_off _ (by decide), q27, set_off _ (by decide), q24, q20, q16, q12, q6, r2, q2]
      have hj : j = 0 ∨ j = 1 ∨ j = 2 ∨ j = 3 ∨ j = 4 ∨ j = 5 := by omega
      rcases hj with rfl | rfl | rfl | rfl | rfl | rfl <;> simp [mu_set, byF]
    · intro I1 f1 f2 f3
      rw [r29] at f2 f3
      exact h I1 (hfl.tr f1) f2 f3
  · refine l_136 (f := byF (I 116) p) (by omega) hM (by omega) (by omega) (manyS (I 116)).toNat (277 + 140 * I 116 42) [] false 0 I29 (0, p) _ _ _ _ (by omega) (by omega) ?_ ?_ trivial (by simp) (by rw [r29]; exact l3) ?_ (by omega) (by omega) ?_
    · rw [q29, set_row, upR_ne _ (by decide), q27, set_row, upR_same]; rfl
    · rw [q29, set_row, upR_same]
    · intro j j0 j6
      rw [q29, set_off _ (by decide), q27, set_off _ (by decide), q24, q20, q16, q12, q6, r2, q2]
      have hj : j = 0 ∨ j = 1 ∨ j = 2 ∨ j = 3 ∨ j = 4 ∨ j = 5 := by omega
      rcases hj with rfl | rfl | rfl | rfl | rfl | rfl <;> simp [mu_set, byF]
    · intro I1 f1 f2 f3
      rw [r29] at f2 f3
      exact h I1 (hfl.tr f1) f2 f3
end

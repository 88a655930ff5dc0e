/-! WHAT A ROW OF DEBTS IS AFTER ONE WENT OUT, AFTER ONE CAME IN -/
theorem tkL_w {p : Int} (hp : 0 ≤ p ∧ p < 4) : ∀ (n : Nat) (j : Int) (S : Row) (i : Int), 0 ≤ j → 3 ≤ j + n → S (9 + p) ≤ 2 → 0 ≤ i → i < 3 → tkL p n j S (13 + 3 * p + i) = (if j ≤ i ∧ i < S (9 + p) then S (13 + 3 * p + i + 1) else S (13 + 3 * p + i)) ∧ tkL p n j S (25 + 3 * p + i) = (if j ≤ i ∧ i < S (9 + p) then S (25 + 3 * p + i + 1) else S (25 + 3 * p + i))
  | 0, j, S, i, hj, hn, h9, hi, hi3 => by
    rw [tkL, if_neg (by omega), if_neg (by omega)]
    exact ⟨rfl, rfl⟩
  | n + 1, j, S, i, hj, hn, h9, hi, hi3 => by
    rw [tkL]
    by_cases hlt : j < S (9 + p)
    · rw [if_pos hlt]
      have h9' : upR (upR S (13 + 3 * p + j) (S (13 + 3 * p + j + 1))) (25 + 3 * p + j) (S (25 + 3 * p + j + 1)) (9 + p) = S (9 + p) := by rw [upR_ne _ (by omega), upR_ne _ (by omega)]
      obtain ⟨a1, a2⟩ := tkL_w hp n (j + 1) (upR (upR S (13 + 3 * p + j) (S (13 + 3 * p + j + 1))) (25 + 3 * p + j) (S (25 + 3 * p + j + 1))) i (by omega) (by omega) (by rw [h9']; exact h9) hi hi3
      rw [a1, a2, h9']
      simp only [upR_at]
      constructor <;> grind
    · rw [if_neg hlt, if_neg (by omega), if_neg (by omega)]
      exact ⟨rfl, rfl⟩
theorem tkS_off {S : Row} {p k i : Int} (hp : 0 ≤ p ∧ p < 4) (hk : 0 ≤ k) (h9 : S (9 + p) ≤ 3) (h0 : i ≠ 9 + p) (h1 : i < 13 + 3 * p ∨ 13 + 3 * p + 3 ≤ i) (h2 : i < 25 + 3 * p ∨ 25 + 3 * p + 3 ≤ i) : tkS S p k i = S i := by
  unfold tkS
  rw [tkL_off 3 k _ i hk (by rw [upR_same]; omega) hp.1 hp.2 h1 h2, upR_ne _ h0]
theorem tkS_9 {S : Row} {p k : Int} (hp : 0 ≤ p ∧ p < 4) (hk : 0 ≤ k) (h9 : S (9 + p) ≤ 3) : tkS S p k (9 + p) = S (9 + p) - 1 := by
  unfold tkS
  rw [tkL_off 3 k _ (9 + p) hk (by rw [upR_same]; omega) hp.1 hp.2 (by omega) (by omega), upR_same]
theorem tkS_w {S : Row} {p k i : Int} (hp : 0 ≤ p ∧ p < 4) (hk : 0 ≤ k) (h9 : S (9 + p) ≤ 3) (hi : 0 ≤ i) (hi3 : i < 3) : tkS S p k (13 + 3 * p + i) = (if k ≤ i ∧ i < S (9 + p) - 1 then S (13 + 3 * p + i + 1) else S (13 + 3 * p + i)) ∧ tkS S p k (25 + 3 * p + i) = (if k ≤ i ∧ i < S (9 + p) - 1 then S (25 + 3 * p + i + 1) else S (25 + 3 * p + i)) := by
  unfold tkS
  obtain ⟨a1, a2⟩ := tkL_w hp 3 k (upR S (9 + p) (S (9 + p) - 1)) i hk (by omega) (by rw [upR_same]; omega) hi hi3
  rw [a1, a2, upR_same, upR_ne _ (by omega), upR_ne _ (by omega), upR_ne _ (by omega), upR_ne _ (by omega)]
  exact ⟨rfl, rfl⟩
theorem Inv.tk {S : Row} {p k : Int} (h : Inv S) (hp : 0 ≤ p ∧ p < S 37) (hk : 0 ≤ k) (h1 : 1 ≤ S (9 + p)) : Inv (tkS S p k) := by
  have hp4 : 0 ≤ p ∧ p < 4 := by
    have := h.2.1
    omega
  have hP := h.2.2.2.2.1 p hp.1 hp.2
  obtain ⟨j1, j2, j3, j4, j5, j6, j7, j8⟩ := hP
  have off : ∀ i, i ≠ 9 + p → (i < 13 + 3 * p ∨ 13 + 3 * p + 3 ≤ i) → (i < 25 + 3 * p ∨ 25 + 3 * p + 3 ≤ i) → tkS S p k i = S i := fun i a b c => tkS_off hp4 hk j3.2 a b c
  refine h.one hp4 ?_ (fun j hj => off j (by omega) (by omega) (by omega)) ?_ ?_
  · rw [off 0 (by omega) (by omega) (by omega)]; exact h.1
  · intro q q0 q1 hqp
    refine ⟨off _ (by omega) (by omega) (by omega), off _ (by omega) (by omega) (by omega), off _ (by omega) (by omega) (by omega), fun k k0 k1 => ⟨off _ (by omega) (by omega) (by omega), off _ (by omega) (by omega) (by omega)⟩⟩
  · intro _
    have e37 : tkS S p k 37 = S 37 := off 37 (by omega) (by omega) (by omega)
    have e43 : tkS S p k 43 = S 43 := off 43 (by omega) (by omega) (by omega)
    have e44 : tkS S p k 44 = S 44 := off 44 (by omega) (by omega) (by omega)
    refine ⟨?_, ?_, ?_, ?_, ?_, ?_, ?_, ?_⟩
    · rw [off (1 + p) (by omega) (by omega) (by omega), e43, e44]; exact j1
    · rw [off (5 + p) (by omega) (by omega) (by omega)]; exact j2
    · rw [tkS_9 hp4 hk j3.2]; omega
    · rw [off (45 + p) (by omega) (by omega) (by omega)]; exact j4
    · rw [off (49 + p) (by omega) (by omega) (by omega)]; exact j5
    · rw [off (53 + p) (by omega) (by omega) (by omega), e43, e44]; exact j6
    · intro i i0 i1
      rw [tkS_9 hp4 hk j3.2] at i1
      obtain ⟨a1, a2⟩ := tkS_w (S := S) hp4 hk j3.2 i0 (by omega)
      rw [a1, a2, e37]
      have b1 := j7 i i0 (by omega)
      have b2 := j7 (i + 1) (by omega) (by omega)
      rw [show 13 + 3 * p + (i + 1) = 13 + 3 * p + i + 1 by omega, show 25 + 3 * p + (i + 1) = 25 + 3 * p + i + 1 by omega] at b2
      split
      · exact b2
      · exact b1
    · intro i i0 i1
      rw [off _ (by omega) (by omega) (by omega)]
      exact j8 i i0 i1

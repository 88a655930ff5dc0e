/-! A ROW STAYS ONE -/
theorem PI.same {S T : Row} {p : Int} (h : PI S p) (h37 : T 37 = S 37) (h43 : T 43 = S 43) (h44 : T 44 = S 44) (h1 : T (1 + p) = S (1 + p)) (h5 : T (5 + p) = S (5 + p)) (h9 : T (9 + p) = S (9 + p)) (h45 : T (45 + p) = S (45 + p)) (h49 : T (49 + p) = S (49 + p)) (h53 : T (53 + p) = S (53 + p)) (hk : ∀ k, 0 ≤ k → k < 3 → T (13 + 3 * p + k) = S (13 + 3 * p + k) ∧ T (25 + 3 * p + k) = S (25 + 3 * p + k)) (hw : ∀ k, 0 ≤ k → k < 4 → T (57 + 4 * p + k) = S (57 + 4 * p + k)) : PI T p := by
  obtain ⟨j1, j2, j3, j4, j5, j6, j7, j8⟩ := h
  refine ⟨by rw [h1, h43, h44]; exact j1, by rw [h5]; exact j2, by rw [h9]; exact j3, by rw [h45]; exact j4, by rw [h49]; exact j5, by rw [h53, h43, h44]; exact j6, ?_, ?_⟩
  · intro k k0 k1
    rw [h9] at k1
    rw [(hk k k0 (by omega)).1, (hk k k0 (by omega)).2, h37]
    exact j7 k k0 k1
  · intro k k0 k1
    rw [hw k k0 k1]
    exact j8 k k0 k1
theorem Inv.one {S T : Row} {p : Int} (h : Inv S) (hp : 0 ≤ p ∧ p < 4) (h0 : 0 ≤ T 0 ∧ T 0 < 100000) (hT : ∀ j, 37 ≤ j → T j = S j) (hq : ∀ q, 0 ≤ q → q < 4 → q ≠ p → T (1 + q) = S (1 + q) ∧ T (5 + q) = S (5 + q) ∧ T (9 + q) = S (9 + q) ∧ ∀ k, 0 ≤ k → k < 3 → T (13 + 3 * q + k) = S (13 + 3 * q + k) ∧ T (25 + 3 * q + k) = S (25 + 3 * q + k)) (hP : p < S 37 → PI T p) : Inv T := by
  obtain ⟨i1, i2, i3, i4, i5, i6⟩ := h
  refine ⟨h0, by rw [hT 37 (by omega)]; exact i2, by rw [hT 43 (by omega)]; exact i3, by rw [hT 44 (by omega)]; exact i4, ?_, ?_⟩
  · intro q q0 q1
    rw [hT 37 (by omega)] at q1
    by_cases hqp : q = p
    · subst hqp; exact hP q1
    · obtain ⟨a1, a5, a9, ak⟩ := hq q q0 (by omega) hqp
      exact (i5 q q0 q1).same (hT 37 (by omega)) (hT 43 (by omega)) (hT 44 (by omega)) a1 a5 a9 (hT _ (by omega)) (hT _ (by omega)) (hT _ (by omega)) ak (fun k k0 _ => hT _ (by omega))
  · intro c c0 c1
    rw [hT _ (by omega)]
    exact i6 c c0 c1
theorem Inv.purse {S : Row} {p x : Int} (h : Inv S) (hp : 0 ≤ p ∧ p < 4) (hx : 0 ≤ x ∧ x ≤ 999) : Inv (upR S (5 + p) x) := by
  refine h.one hp ?_ (fun j hj => upR_ne _ (by omega)) ?_ ?_
  · rw [upR_ne _ (by omega)]; exact h.1
  · intro q q0 q1 hqp
    refine ⟨upR_ne _ (by omega), upR_ne _ (by omega), upR_ne _ (by omega), fun k k0 k1 => ⟨upR_ne _ (by omega), upR_ne _ (by omega)⟩⟩
  · intro hp2
    obtain ⟨j1, j2, j3, j4, j5, j6, j7, j8⟩ := h.2.2.2.2.1 p hp.1 hp2
    refine ⟨?_, ?_, ?_, ?_, ?_, ?_, ?_, ?_⟩
    · rw [upR_ne _ (by omega), upR_ne _ (by omega), upR_ne _ (by omega)]; exact j1
    · rw [upR_same]; exact hx
    · rw [upR_ne _ (by omega)]; exact j3
    · rw [upR_ne _ (by omega)]; exact j4
    · rw [upR_ne _ (by omega)]; exact j5
    · rw [upR_ne _ (by omega), upR_ne _ (by omega), upR_ne _ (by omega)]; exact j6
    · intro k k0 k1
      rw [upR_ne _ (by omega)] at k1
      rw [upR_ne _ (by omega), upR_ne _ (by omega), upR_ne _ (by omega)]
      exact j7 k k0 k1
    · intro k k0 k1
      rw [upR_ne _ (by omega)]
      exact j8 k k0 k1
theorem Inv.is {S : Row} {p x : Int} (h : Inv S) (hp : 0 ≤ p ∧ p < 4) (hx : 0 ≤ x ∧ x < S 43 * S 44) : Inv (upR S (1 + p) x) := by
  refine h.one hp ?_ (fun j hj => upR_ne _ (by omega)) ?_ ?_
  · rw [upR_ne _ (by omega)]; exact h.1
  · intro q q0 q1 hqp
    refine ⟨upR_ne _ (by omega), upR_ne _ (by omega), upR_ne _ (by omega), fun k k0 k1 => ⟨upR_ne _ (by omega), upR_ne _ (by omega)⟩⟩
  · intro hp2
    obtain ⟨j1, j2, j3, j4, j5, j6, j7, j8⟩ := h.2.2.2.2.1 p hp.1 hp2
    refine ⟨?_, ?_, ?_, ?_, ?_, ?_, ?_, ?_⟩
    · rw [upR_same, upR_ne _ (by omega), upR_ne _ (by omega)]; exact hx
    · rw [upR_ne _ (by omega)]; exact j2
    · rw [upR_ne _ (by omega)]; exact j3
    · rw [upR_ne _ (by omega)]; exact j4
    · rw [upR_ne _ (by omega)]; exact j5
    · rw [upR_ne _ (by omega), upR_ne _ (by omega), upR_ne _ (by omega)]; exact j6
    · intro k k0 k1
      rw [upR_ne _ (by omega)] at k1
      rw [upR_ne _ (by omega), upR_ne _ (by omega), upR_ne _ (by omega)]
      exact j7 k k0 k1
    · intro k k0 k1
      rw [upR_ne _ (by omega)]
      exact j8 k k0 k1
theorem Inv.sum {S : Row} {p k x : Int} (h : Inv S) (hp : 0 ≤ p ∧ p < 4) (hk : 0 ≤ k ∧ k < 3) (hx : 0 ≤ x ∧ x ≤ 99) : Inv (upR S (25 + 3 * p + k) x) := by
  refine h.one hp ?_ (fun j hj => upR_ne _ (by omega)) ?_ ?_
  · rw [upR_ne _ (by omega)]; exact h.1
  · intro q q0 q1 hqp
    refine ⟨upR_ne _ (by omega), upR_ne _ (by omega), upR_ne _ (by omega), fun k k0 k1 => ⟨upR_ne _ (by omega), upR_ne _ (by omega)⟩⟩
  · intro hp2
    obtain ⟨j1, j2, j3, j4, j5, j6, j7, j8⟩ := h.2.2.2.2.1 p hp.1 hp2
    refine ⟨?_, ?_, ?_, ?_, ?_, ?_, ?_, ?_⟩
    · rw [upR_ne _ (by omega), upR_ne _ (by omega), upR_ne _ (by omega)]; exact j1
    · rw [upR_ne _ (by omega)]; exact j2
    · rw [upR_ne _ (by omega)]; exact j3
    · rw [upR_ne _ (by omega)]; exact j4
    · rw [upR_ne _ (by omega)]; exact j5
    · rw [upR_ne _ (by omega), upR_ne _ (by omega), upR_ne _ (by omega)]; exact j6
    · intro k2 k0 k1
      rw [upR_ne _ (by omega)] at k1
      rw [upR_ne _ (by omega), upR_ne _ (by omega)]
      refine ⟨(j7 k2 k0 k1).1, ?_⟩
      rw [upR_at]
      split
      · exact hx
      · exact (j7 k2 k0 k1).2
    · intro k k0 k1
      rw [upR_ne _ (by omega)]
      exact j8 k k0 k1
theorem Inv.day {S : Row} {x : Int} (h : Inv S) (hx : 0 ≤ x ∧ x < 100000) : Inv (upR S 0 x) := by
  refine h.one (p := 0) (by omega) (by rw [upR_same]; exact hx) (fun j hj => upR_ne _ (by omega)) ?_ ?_
  · intro q q0 q1 hqp
    refine ⟨upR_ne _ (by omega), upR_ne _ (by omega), upR_ne _ (by omega), fun k k0 k1 => ⟨upR_ne _ (by omega), upR_ne _ (by omega)⟩⟩
  · intro hp2
    exact (h.2.2.2.2.1 0 (by omega) hp2).same (upR_ne _ (by omega)) (upR_ne _ (by omega)) (upR_ne _ (by omega)) (upR_ne _ (by omega)) (upR_ne _ (by omega)) (upR_ne _ (by omega)) (upR_ne _ (by omega)) (upR_ne _ (by omega)) (upR_ne _ (by omega)) (fun k k0 k1 => ⟨upR_ne _ (by omega), upR_ne _ (by omega)⟩) (fun k k0 k1 => upR_ne _ (by omega))
/-- what a row of debts may be after shifts: off the debts of p all is as it was -/
theorem tkL_off {p : Int} : ∀ (n : Nat) (j : Int) (S : Row) (i : Int), 0 ≤ j → S (9 + p) ≤ 2 → 0 ≤ p → p < 4 → (i < 13 + 3 * p ∨ 13 + 3 * p + 3 ≤ i) → (i < 25 + 3 * p ∨ 25 + 3 * p + 3 ≤ i) → tkL p n j S i = S i
  | 0, _, _, _, _, _, _, _, _, _ => rfl
  | n + 1, j, S, i, hj, h9, hp, hp4, h1, h2 => by
    rw [tkL]
    split
    · rename_i hlt
      rw [tkL_off n (j + 1) _ i (by omega) (by rw [upR_ne _ (by omega), upR_ne _ (by omega)]; exact h9) hp hp4 h1 h2, upR_ne _ (by omega), upR_ne _ (by omega)]
    · rfl

/-! WHAT HOLDS BETWEEN CALLS IS KEPT: valley, people, days, laws -/
theorem OkS.valley {S : Row} {w h : Int} (hO : OkS S) : OkS (valleyS S w h).2 := by
  obtain ⟨o1, o2, o3, o4, o5, o6, o7, o8, o9, o10, o11⟩ := id hO
  unfold valleyS
  split
  · exact hO
  rename_i hwh
  split
  · exact hO
  rename_i h37
  have hwh : (2 ≤ w ∧ w ≤ 8) ∧ 2 ≤ h ∧ h ≤ 8 := Decidable.not_not.1 hwh
  dsimp only
  have h4 := o1.2.1
  have z37 : S 37 = 0 := by omega
  have e : ∀ j, j ≠ 43 → j ≠ 44 → (j < 103 ∨ 167 ≤ j) → clrS (upR (upR S 43 w) 44 h) j = S j := by
    intro j h1 h2 h3
    unfold clrS
    rw [if_neg (by omega), upR_ne _ h2, upR_ne _ h1]
  have e43 : clrS (upR (upR S 43 w) 44 h) 43 = w := by unfold clrS; rw [if_neg (by omega), upR_ne _ (by decide), upR_same]
  have e44 : clrS (upR (upR S 43 w) 44 h) 44 = h := by unfold clrS; rw [if_neg (by omega), upR_same]
  have e37 := e 37 (by omega) (by omega) (by omega)
  refine ⟨⟨by rw [e 0 (by omega) (by omega) (by omega)]; exact o1.1, by rw [e37]; exact h4, by rw [e43]; exact hwh.1, by rw [e44]; exact hwh.2, fun p p0 p1 => by rw [e37] at p1; omega, fun c c0 c1 => ?_⟩, o2.eq (fun j hj => e j (by omega) (by omega) (by omega)), fun p p0 p1 => by rw [e37] at p1; omega, by rw [e 0 (by omega) (by omega) (by omega)]; exact o4, fun p p0 p1 => by rw [e37] at p1; omega, by rw [e 38 (by omega) (by omega) (by omega), e 42 (by omega) (by omega) (by omega)]; exact o6, by rw [e 39 (by omega) (by omega) (by omega)]; exact o7, by rw [e 40 (by omega) (by omega) (by omega)]; exact o8, by rw [e 41 (by omega) (by omega) (by omega)]; exact o9, ?_, ?_⟩
  · left
    unfold clrS
    rw [if_pos (by omega)]
  · intro k k0 k1
    rw [e 41 (by omega) (by omega) (by omega)] at k1
    rw [e _ (by omega) (by omega) (by omega)]
    exact o10 k k0 k1
  · intro k k0 k1
    rw [e 40 (by omega) (by omega) (by omega)] at k1
    rw [e _ (by omega) (by omega) (by omega), e _ (by omega) (by omega) (by omega), e _ (by omega) (by omega) (by omega)]
    exact o11 k k0 k1
/-- people, walls or days have changed -/
theorem OkS.world {S T : Row} (hO : OkS S) (hI : Inv T) (hD : Dst T) (h0 : T 0 ≤ 999) (hh : ∀ p, 0 ≤ p → p < T 37 → T (103 + T (53 + p)) = 0) (e : ∀ j, (38 ≤ j ∧ j ≤ 42) ∨ (73 ≤ j ∧ j < 103) ∨ (167 ≤ j ∧ j < 977) → T j = S j) : OkS T := by
  obtain ⟨o1, o2, o3, o4, o5, o6, o7, o8, o9, o10, o11⟩ := id hO
  refine ⟨hI, o2.eq (fun j hj => e j (by omega)), hD, h0, hh, by rw [e 38 (by omega), e 42 (by omega)]; exact o6, by rw [e 39 (by omega)]; exact o7, by rw [e 40 (by omega)]; exact o8, by rw [e 41 (by omega)]; exact o9, ?_, ?_⟩
  · intro k k0 k1
    rw [e 41 (by omega)] at k1
    rw [e _ (by omega)]
    exact o10 k k0 k1
  · intro k k0 k1
    rw [e 40 (by omega)] at k1
    rw [e _ (by omega), e _ (by omega), e _ (by omega)]
    exact o11 k k0 k1
theorem OkS.wall {S : Row} {c b : Int} (hO : OkS S) : OkS (wallS S c b).2 := by
  obtain ⟨o1, o2, o3, o4, o5, o6, o7, o8, o9, o10, o11⟩ := id hO
  have hwh := o1.wh
  have h4 := o1.2.1
  unfold wallS
  split
  · exact hO
  rename_i hc
  split
  · exact hO
  rename_i ht
  have hc : 0 ≤ c ∧ c < S 43 * S 44 := Decidable.not_not.1 hc
  have ht : ¬ taken S c := fun hh => ht (pb_t hh)
  dsimp only
  have hx : (if b = 0 then (0 : Int) else 1) = 0 ∨ (if b = 0 then (0 : Int) else 1) = 1 := by split <;> simp
  generalize (if b = 0 then (0 : Int) else 1) = x at *
  refine hO.world (o1.wall (by omega) hx) (o3.up o1 (by omega)) (by rw [upR_ne _ (by omega)]; exact o4) ?_ (fun j hj => upR_ne _ (by omega))
  intro p p0 p1
  rw [upR_ne _ (by omega)] at p1
  have j6 := (o1.2.2.2.2.1 p p0 p1).2.2.2.2.2.1
  rw [upR_ne _ (show 53 + p ≠ 103 + c by omega)]
  have hne : S (53 + p) ≠ c := fun hh => ht ⟨p, p0, p1, Or.inl hh⟩
  rw [upR_ne _ (by omega)]
  exact o5 p p0 p1
theorem OkS.person {S : Row} {k v c x : Int} (hO : OkS S) : OkS (personS S k v c x).2 := by
  obtain ⟨o1, o2, o3, o4, o5, o6, o7, o8, o9, o10, o11⟩ := id hO
  have hwh := o1.wh
  have h4 := o1.2.1
  unfold personS
  split
  · exact hO
  rename_i h1
  split
  · exact hO
  rename_i h2
  split
  · exact hO
  rename_i h3
  split
  · exact hO
  rename_i h5
  have h1 : (0 ≤ k ∧ k ≤ 6) ∧ 0 ≤ c ∧ c < S 43 * S 44 := Decidable.not_not.1 h1
  have h2 : (0 ≤ v ∧ v ≤ 9) ∧ 0 ≤ x ∧ x ≤ 999 := Decidable.not_not.1 h2
  dsimp only
  have hw0 := o1.2.2.2.2.2 c h1.2.1 (by omega)
  obtain ⟨i1, i2, i3, i4, i5, i6⟩ := id o1
  generalize hpp : S 37 = p at *
  have hT : ∀ j, (j ≠ 45 + p ∧ j ≠ 49 + p ∧ j ≠ 53 + p ∧ j ≠ 1 + p ∧ j ≠ 5 + p ∧ j ≠ 9 + p ∧ (j < 57 + 4 * p ∨ 57 + 4 * p + 4 ≤ j) ∧ j ≠ 37) → comeS S k v c x j = S j := by
    intro j hj
    unfold comeS
    dsimp only
    rw [hpp, if_neg hj.1, if_neg hj.2.1, if_neg hj.2.2.1, if_neg hj.2.2.2.1, if_neg hj.2.2.2.2.1, if_neg hj.2.2.2.2.2.1, if_neg (by omega), if_neg hj.2.2.2.2.2.2.2]
  have tv : comeS S k v c x (45 + p) = k ∧ comeS S k v c x (49 + p) = v ∧ comeS S k v c x (53 + p) = c ∧ comeS S k v c x (1 + p) = c ∧ comeS S k v c x (5 + p) = x ∧ comeS S k v c x (9 + p) = 0 ∧ comeS S k v c x 37 = p + 1 ∧ ∀ m, 0 ≤ m → m < 4 → comeS S k v c x (57 + 4 * p + m) = 0 := by
    unfold comeS
    dsimp only
    rw [hpp]
    refine ⟨if_pos rfl, ?_, ?_, ?_, ?_, ?_, ?_, ?_⟩
    · rw [if_neg (by omega), if_pos rfl]
    · rw [if_neg (by omega), if_neg (by omega), if_pos rfl]
    · rw [if_neg (by omega), if_neg (by omega), if_neg (by omega), if_pos rfl]
    · rw [if_neg (by omega), if_neg (by omega), if_neg (by omega), if_neg (by omega), if_pos rfl]
    · rw [if_neg (by omega), if_neg (by omega), if_neg (by omega), if_neg (by omega), if_neg (by omega), if_pos rfl]
    · rw [if_neg (by omega), if_neg (by omega), if_neg (by omega), if_neg (by omega), if_neg (by omega), if_neg (by omega), if_neg (by omega), if_pos rfl]
    · intro m m0 m1
      rw [if_neg (by omega), if_neg (by omega), if_neg (by omega), if_neg (by omega), if_neg (by omega), if_neg (by omega), if_pos (by omega)]
  obtain ⟨t45, t49, t53, t1, t5, t9, t37, tw⟩ := tv
  generalize comeS S k v c x = T at *
  have e43 := hT 43 (by omega)
  have e44 := hT 44 (by omega)
  refine hO.world ⟨by rw [hT 0 (by omega)]; exact i1, by rw [t37]; omega, by rw [e43]; exact i3, by rw [e44]; exact i4, ?_, ?_⟩ ?_ (by rw [hT 0 (by omega)]; exact o4) ?_ (fun j hj => hT j (by omega))
  · intro q q0 q1
    rw [t37] at q1
    by_cases hq : q = p
    · subst hq
      refine ⟨by rw [t1, e43, e44]; exact h1.2, by rw [t5]; exact h2.2, by rw [t9]; omega, by rw [t45]; exact h1.1, by rw [t49]; exact h2.1, by rw [t53, e43, e44]; exact h1.2, fun m m0 m1 => by rw [t9] at m1; omega, fun m m0 m1 => by rw [tw m m0 m1]; omega⟩
    · obtain ⟨j1, j2, j3, j4, j5, j6, j7, j8⟩ := i5 q q0 (by omega)
      refine ⟨by rw [hT _ (by omega), e43, e44]; exact j1, by rw [hT _ (by omega)]; exact j2, by rw [hT _ (by omega)]; exact j3, by rw [hT _ (by omega)]; exact j4, by rw [hT _ (by omega)]; exact j5, by rw [hT (53 + q) (by omega), e43, e44]; exact j6, ?_, ?_⟩
      · intro m m0 m1
        rw [hT (9 + q) (by omega)] at m1
        have := j7 m m0 m1
        rw [hT (13 + 3 * q + m) (by omega), hT (25 + 3 * q + m) (by omega), t37]
        omega
      · intro m m0 m1
        rw [hT _ (by omega)]
        exact j8 m m0 m1
  · intro e e0 e1
    rw [hT _ (by omega)]
    exact i6 e e0 e1
  · intro q q0 q1 i j i0 ij j1
    rw [t37] at q1
    by_cases hq : q = p
    · subst hq
      rw [t9] at j1
      omega
    · have j3 := (i5 q q0 (by omega)).2.2.1
      rw [hT (9 + q) (by omega)] at j1
      rw [hT _ (by omega), hT _ (by omega)]
      exact o3 q q0 (by omega) i j i0 ij j1
  · intro q q0 q1
    rw [t37] at q1
    by_cases hq : q = p
    · subst hq
      rw [t53, hT _ (by omega)]
      omega
    · have j6 := (i5 q q0 (by omega)).2.2.2.2.2.1
      rw [hT (53 + q) (by omega), hT _ (by omega)]
      exact o5 q q0 (by omega)
theorem OkS.row {S : Row} {p k w : Int} (hO : OkS S) : OkS (rowS S p k w).2 := by
  obtain ⟨o1, o2, o3, o4, o5, o6, o7, o8, o9, o10, o11⟩ := id hO
  have h4 := o1.2.1
  unfold rowS
  split
  · exact hO
  rename_i h1
  split
  · exact hO
  rename_i h2
  split
  · exact hO
  have h1 : (0 ≤ p ∧ p < S 37) ∧ 0 ≤ k ∧ k ≤ 3 := Decidable.not_not.1 h1
  have h2 : 0 ≤ w ∧ w ≤ 4 := Decidable.not_not.1 h2
  dsimp only
  have e : ∀ j, j ≠ 57 + 4 * p + k → upR S (57 + 4 * p + k) w j = S j := fun j hj => upR_ne _ hj
  obtain ⟨i1, i2, i3, i4, i5, i6⟩ := id o1
  refine hO.world ⟨by rw [e 0 (by omega)]; exact i1, by rw [e 37 (by omega)]; exact i2, by rw [e 43 (by omega)]; exact i3, by rw [e 44 (by omega)]; exact i4, ?_, fun c c0 c1 => by rw [e _ (by omega)]; exact i6 c c0 c1⟩ (o3.up o1 (by omega)) (by rw [e 0 (by omega)]; exact o4) ?_ (fun j hj => e j (by omega))
  · intro q q0 q1
    rw [e 37 (by omega)] at q1
    obtain ⟨j1, j2, j3, j4, j5, j6, j7, j8⟩ := i5 q q0 q1
    refine ⟨by rw [e (1 + q) (by omega), e 43 (by omega), e 44 (by omega)]; exact j1, by rw [e _ (by omega)]; exact j2, by rw [e _ (by omega)]; exact j3, by rw [e _ (by omega)]; exact j4, by rw [e _ (by omega)]; exact j5, by rw [e (53 + q) (by omega), e 43 (by omega), e 44 (by omega)]; exact j6, ?_, ?_⟩
    · intro m m0 m1
      rw [e (9 + q) (by omega)] at m1
      rw [e (13 + 3 * q + m) (by omega), e (25 + 3 * q + m) (by omega), e 37 (by omega)]
      exact j7 m m0 m1
    · intro m m0 m1
      rw [upR_at]
      split
      · exact h2
      · exact j8 m m0 m1
  · intro q q0 q1
    rw [e 37 (by omega)] at q1
    have j6 := (i5 q q0 q1).2.2.2.2.2.1
    have := o1.wh
    rw [e (53 + q) (by omega), e _ (by omega)]
    exact o5 q q0 q1
theorem OkS.day {S : Row} (hO : OkS S) : OkS (dayA S).2 := by
  obtain ⟨o1, o2, o3, o4, o5, o6, o7, o8, o9, o10, o11⟩ := id hO
  unfold dayA
  split
  · exact hO
  rename_i h9
  dsimp only
  have hi := dayS_hi o1 o2
  refine hO.world (o1.dayS o2 (by omega)) (o3.day o1 o2) (by rw [dayS_day o1 o2]; omega) ?_ (fun j hj => hi j (by omega))
  intro p p0 p1
  rw [hi 37 (by omega)] at p1
  have j6 := (o1.2.2.2.2.1 p p0 p1).2.2.2.2.2.1
  have := o1.wh
  rw [hi (53 + p) (by omega), hi _ (by omega)]
  exact o5 p p0 p1
theorem S00_ok : OkS S00 := by
  have z : ∀ j, j ≠ 42 → j ≠ 43 → j ≠ 44 → S00 j = 0 := fun j h1 h2 h3 => by unfold S00; rw [if_neg h3, if_neg h2, if_neg h1]
  have z37 := z 37 (by decide) (by decide) (by decide)
  refine ⟨⟨by rw [z 0 (by decide) (by decide) (by decide)]; decide, by rw [z37]; decide, by decide, by decide, fun p p0 p1 => by rw [z37] at p1; omega, fun c c0 c1 => Or.inl (z _ (by omega) (by omega) (by omega))⟩, ⟨by decide, by decide, ?_⟩, fun p p0 p1 => by rw [z37] at p1; omega, by rw [z 0 (by decide) (by decide) (by decide)]; decide, fun p p0 p1 => by rw [z37] at p1; omega, by decide, by decide, by decide, by decide, fun k k0 k1 => by rw [z 41 (by decide) (by decide) (by decide)] at k1; omega, fun k k0 k1 => by rw [z 40 (by decide) (by decide) (by decide)] at k1; omega⟩
  have : textS S00 = [] := by decide
  rw [this]
  trivial

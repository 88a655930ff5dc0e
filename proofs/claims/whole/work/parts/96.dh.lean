/-! WHAT HOLDS BETWEEN CALLS IS KEPT -/
theorem Dst.eq {S T : Row} (h : Dst S) (h4 : S 37 ≤ 4) (h9 : ∀ p, 0 ≤ p → p < S 37 → S (9 + p) ≤ 3) (e : ∀ j, 9 ≤ j → j < 38 → T j = S j) : Dst T := by
  intro p p0 p1 i j i0 ij j1
  rw [e 37 (by omega) (by omega)] at p1
  rw [e (9 + p) (by omega) (by omega)] at j1
  have := h9 p p0 p1
  rw [e _ (by omega) (by omega), e _ (by omega) (by omega)]
  exact h p p0 p1 i j i0 ij j1
theorem Dst.tk {S : Row} {p k : Int} (h : Dst S) (hI : Inv S) (hp : 0 ≤ p ∧ p < S 37) (hk : 0 ≤ k) : Dst (tkS S p k) := by
  have h4 := hI.2.1
  have hp4 : 0 ≤ p ∧ p < 4 := by omega
  have h9 := (hI.2.2.2.2.1 p hp.1 hp.2).2.2.1.2
  have off : ∀ j, j ≠ 9 + p → (j < 13 + 3 * p ∨ 13 + 3 * p + 3 ≤ j) → (j < 25 + 3 * p ∨ 25 + 3 * p + 3 ≤ j) → tkS S p k j = S j := fun j a b c => tkS_off hp4 hk h9 a b c
  intro q q0 q1 i j i0 ij j1
  rw [off 37 (by omega) (by omega) (by omega)] at q1
  by_cases hqp : q = p
  · subst hqp
    rw [tkS_9 hp4 hk h9] at j1
    rw [(tkS_w hp4 hk h9 i0 (by omega)).1, (tkS_w hp4 hk h9 (i := j) (by omega) (by omega)).1]
    have hd := h q q0 q1
    by_cases h1 : k ≤ i
    · rw [if_pos ⟨h1, by omega⟩, if_pos ⟨by omega, by omega⟩]
      have := hd (i + 1) (j + 1) (by omega) (by omega) (by omega)
      rw [show 13 + 3 * q + (i + 1) = 13 + 3 * q + i + 1 by omega, show 13 + 3 * q + (j + 1) = 13 + 3 * q + j + 1 by omega] at this
      exact this
    · rw [if_neg (by omega)]
      by_cases h2 : k ≤ j
      · rw [if_pos ⟨h2, by omega⟩]
        have := hd i (j + 1) (by omega) (by omega) (by omega)
        rw [show 13 + 3 * q + (j + 1) = 13 + 3 * q + j + 1 by omega] at this
        exact this
      · rw [if_neg (by omega)]
        exact hd i j (by omega) (by omega) (by omega)
  · have hq9 := (hI.2.2.2.2.1 q q0 q1).2.2.1.2
    rw [off (9 + q) (by omega) (by omega) (by omega)] at j1
    rw [off _ (by omega) (by omega) (by omega), off _ (by omega) (by omega) (by omega)]
    exact h q q0 q1 i j i0 ij j1
theorem Dst.up {S : Row} {k x : Int} (h : Dst S) (hI : Inv S) (hk : k < 9 ∨ 38 ≤ k ∨ (25 ≤ k ∧ k < 37)) : Dst (upR S k x) := by
  have h4 := hI.2.1
  intro p p0 p1 i j i0 ij j1
  rw [upR_ne _ (by omega)] at p1
  rw [upR_ne _ (by omega)] at j1
  have := (hI.2.2.2.2.1 p p0 p1).2.2.1.2
  rw [upR_ne _ (by omega), upR_ne _ (by omega)]
  exact h p p0 p1 i j i0 ij j1
theorem payL_sc (p : Int) (n : Nat) (S : Row) : payL p (n + 1) S = if canP S p then payL p n (pay1 S p) else S := rfl
theorem Dst.payL {p : Int} (hp : 0 ≤ p) : ∀ (n : Nat) (S : Row), Dst S → Inv S → p < S 37 → Dst (payL p n S)
  | 0, _, h, _, _ => h
  | n + 1, S, h, hI, h37 => by
    rw [payL_sc]
    by_cases hc : canP S p
    · rw [if_pos hc]
      have h4 := hI.2.1
      have hp4 : 0 ≤ p ∧ p < 4 := by omega
      have h9 := (hI.2.2.2.2.1 p hp h37).2.2.1
      obtain ⟨b1, b2, b3, b4, b5, b6, b7⟩ := paid_bd hI ⟨hp, h37⟩ hc
      obtain ⟨i1, i2, i3⟩ := hI.pay1 ⟨hp, h37⟩ hc
      refine Dst.payL hp n _ ?_ i1 (by omega)
      have d1 : Dst (payB S p) := by
        intro q q0 q1 i j i0 ij j1
        have e : ∀ m, 9 ≤ m → (m < 25 ∨ m = 37) → payB S p m = S m := by
          intro m m0 m1
          unfold payB payA
          rw [upR_ne _ (by omega), upR_ne _ (by omega), upR_ne _ (by omega)]
        rw [e 37 (by omega) (by omega)] at q1
        have hq9 := (hI.2.2.2.2.1 q q0 q1).2.2.1
        rw [e _ (by omega) (by omega)] at j1
        rw [e _ (by omega) (by omega), e _ (by omega) (by omega)]
        exact h q q0 q1 i j i0 ij j1
      unfold pay1
      split
      · exact d1.tk (hI.payB ⟨hp, h37⟩ hc) ⟨hp, by rw [payB_37 hp4 (by omega)]; exact h37⟩ (by omega)
      · exact d1
    · rw [if_neg hc]; exact h
theorem erL_sc (S : Row) (n : Nat) (p : Int) (T : Row) : erL S (n + 1) p T = if p < T 37 then erL S n (p + 1) (payL p 4 (upR T (5 + p) (cap (T (5 + p) + earnS S p)))) else T := rfl
theorem Dst.erL {S : Row} (hE : ∀ p, 0 ≤ earnS S p) : ∀ (n : Nat) (p : Int) (T : Row), 0 ≤ p → Inv T → Dst T → Dst (erL S n p T) := by
  intro n
  induction n with
  | zero => exact fun p T _ _ h => h
  | succ n ih =>
    intro p T hp h hD
    rw [erL_sc]
    split
    · rename_i hlt
      have h4 := h.2.1
      have h5 := (h.2.2.2.2.1 p hp hlt).2.1
      have he := hE p
      have i1 : Inv (upR T (5 + p) (cap (T (5 + p) + earnS S p))) := h.purse (by omega) (cap_bd (by omega))
      have l1 : p < upR T (5 + p) (cap (T (5 + p) + earnS S p)) 37 := by rw [upR_ne _ (by omega)]; exact hlt
      exact ih (p + 1) _ (by omega) (payL_hi hp 4 _ i1 l1).1 (Dst.payL hp 4 _ (hD.up h (by omega)) i1 l1)
    · exact hD
theorem Dst.day {S : Row} (hD : Dst S) (h : Inv S) (hL : LW S) : Dst (dayS S) := by
  have hE := fun p => (earnS_bd hL p).1
  have h4 := h.2.1
  have dm : Dst (mvS S) := hD.eq h4.2 (fun p p0 p1 => (h.2.2.2.2.1 p p0 p1).2.2.1.2) (fun j j0 j1 => mvS_i h j (by omega))
  have de := Dst.erL hE 4 0 _ (by omega) h.mv dm
  have ie := (erL_hi hE 4 0 _ (by omega) h.mv).1
  unfold dayS erS
  exact de.up ie (by omega)
theorem Inv.eq {S T : Row} (h : Inv S) (e : ∀ j, 0 ≤ j → j < 167 → ¬ (38 ≤ j ∧ j ≤ 42) → ¬ (73 ≤ j ∧ j < 103) → T j = S j) : Inv T := by
  obtain ⟨i1, i2, i3, i4, i5, i6⟩ := h
  refine ⟨by rw [e 0 (by omega) (by omega) (by omega) (by omega)]; exact i1, by rw [e 37 (by omega) (by omega) (by omega) (by omega)]; exact i2, by rw [e 43 (by omega) (by omega) (by omega) (by omega)]; exact i3, by rw [e 44 (by omega) (by omega) (by omega) (by omega)]; exact i4, ?_, ?_⟩
  · intro p p0 p1
    rw [e 37 (by omega) (by omega) (by omega) (by omega)] at p1
    have f : ∀ j, 0 ≤ j → j < 73 → ¬ (38 ≤ j ∧ j ≤ 42) → T j = S j := fun j a b c => e j a (by omega) c (by omega)
    exact (i5 p p0 p1).same (f _ (by omega) (by omega) (by omega)) (f _ (by omega) (by omega) (by omega)) (f _ (by omega) (by omega) (by omega)) (f _ (by omega) (by omega) (by omega)) (f _ (by omega) (by omega) (by omega)) (f _ (by omega) (by omega) (by omega)) (f _ (by omega) (by omega) (by omega)) (f _ (by omega) (by omega) (by omega)) (f _ (by omega) (by omega) (by omega)) (fun k k0 k1 => ⟨f _ (by omega) (by omega) (by omega), f _ (by omega) (by omega) (by omega)⟩) (fun k k0 k1 => f _ (by omega) (by omega) (by omega))
  · intro c c0 c1
    rw [e _ (by omega) (by omega) (by omega) (by omega)]
    exact i6 c c0 c1
theorem LW.eq {S T : Row} (hL : LW S) (e : ∀ j, (j = 42 ∨ (267 ≤ j ∧ j < 977)) → T j = S j) : LW T := by
  obtain ⟨l1, l2, l3⟩ := hL
  have e42 := e 42 (by omega)
  have em : manyS T = manyS S := by
    unfold manyS
    rw [e42]
    split
    · rfl
    · rw [e _ (by omega)]
  have et : textS T = textS S := by
    by_cases h1 : S 42 = -1
    · unfold textS
      rw [em]
      unfold manyS
      rw [if_pos h1]
      rfl
    · unfold textS
      rw [e42, em]
      exact codes_in _ _ (fun j h2 h3 => e j (by omega))
  exact ⟨by rw [e42]; exact l1, by rw [em]; exact l2, by rw [et]; exact l3⟩
/-- tape, tracks, book have changed -/
theorem OkS.eq {S T : Row} (h : OkS S) (e : ∀ j, 0 ≤ j → j < 167 → ¬ (38 ≤ j ∧ j ≤ 42) → ¬ (73 ≤ j ∧ j < 103) → T j = S j) (e2 : ∀ j, (j = 42 ∨ (267 ≤ j ∧ j < 977)) → T j = S j) (h38 : T 38 = S 38) (h39 : 0 ≤ T 39 ∧ T 39 ≤ 6) (h40 : 0 ≤ T 40 ∧ T 40 ≤ 8) (h41 : 0 ≤ T 41 ∧ T 41 ≤ 100) (ht : ∀ k, 0 ≤ k → k < T 41 → 0 ≤ T (167 + k) ∧ T (167 + k) ≤ 127) (hb : ∀ k, 0 ≤ k → k < T 40 → (0 ≤ T (79 + k) ∧ T (79 + k) < 4) ∧ (0 ≤ T (87 + k) ∧ T (87 + k) ≤ 60) ∧ 0 ≤ T (95 + k) ∧ T (95 + k) < 64) : OkS T := by
  obtain ⟨o1, o2, o3, o4, o5, o6, o7, o8, o9, o10, o11⟩ := h
  have h4 := o1.2.1
  have hwh := o1.wh
  refine ⟨o1.eq e, o2.eq e2, o3.eq h4.2 (fun p p0 p1 => (o1.2.2.2.2.1 p p0 p1).2.2.1.2) (fun j j0 j1 => e j (by omega) (by omega) (by omega) (by omega)), by rw [e 0 (by omega) (by omega) (by omega) (by omega)]; exact o4, ?_, by rw [h38, e2 42 (by omega)]; exact o6, h39, h40, h41, ht, hb⟩
  intro p p0 p1
  rw [e 37 (by omega) (by omega) (by omega) (by omega)] at p1
  have j6 := (o1.2.2.2.2.1 p p0 p1).2.2.2.2.2.1
  rw [e (53 + p) (by omega) (by omega) (by omega) (by omega), e _ (by omega) (by omega) (by omega) (by omega)]
  exact o5 p p0 p1
theorem OkS.all {S T : Row} (h : OkS S) (e : ∀ j, 0 ≤ j → j < 977 → T j = S j) : OkS T := by
  obtain ⟨o1, o2, o3, o4, o5, o6, o7, o8, o9, o10, o11⟩ := id h
  exact h.eq (fun j a b _ _ => e j a (by omega)) (fun j hj => e j (by omega) (by omega)) (e 38 (by omega) (by omega)) (by rw [e 39 (by omega) (by omega)]; exact o7) (by rw [e 40 (by omega) (by omega)]; exact o8) (by rw [e 41 (by omega) (by omega)]; exact o9) (fun k k0 k1 => by rw [e 41 (by omega) (by omega)] at k1; rw [e _ (by omega) (by omega)]; exact o10 k k0 k1) (fun k k0 k1 => by rw [e 40 (by omega) (by omega)] at k1; rw [e _ (by omega) (by omega), e _ (by omega) (by omega), e _ (by omega) (by omega)]; exact o11 k k0 k1)
theorem OkS.feed {S : Row} {x : Int} (h : OkS S) : OkS (feedS S x).2 := by
  obtain ⟨o1, o2, o3, o4, o5, o6, o7, o8, o9, o10, o11⟩ := id h
  unfold feedS
  split
  · exact h
  split
  · exact h
  rename_i hx hf
  have e : ∀ j, j ≠ 41 → j ≠ 167 + S 41 → upR (upR S (167 + S 41) x) 41 (S 41 + 1) j = S j := fun j h1 h2 => by rw [upR_ne _ h1, upR_ne _ h2]
  have e41 : upR (upR S (167 + S 41) x) 41 (S 41 + 1) 41 = S 41 + 1 := upR_same _ _ _
  dsimp only
  refine h.eq (fun j a b c d => e j (by omega) (by omega)) (fun j hj => e j (by omega) (by omega)) (e 38 (by omega) (by omega)) (by rw [e 39 (by omega) (by omega)]; exact o7) (by rw [e 40 (by omega) (by omega)]; exact o8) (by rw [e41]; omega) ?_ ?_
  · intro k k0 k1
    rw [e41] at k1
    by_cases hk : k = S 41
    · rw [hk, upR_ne _ (by omega), upR_same]; omega
    · rw [e _ (by omega) (by omega)]; exact o10 k k0 (by omega)
  · intro k k0 k1
    rw [e 40 (by omega) (by omega)] at k1
    rw [e _ (by omega) (by omega), e _ (by omega) (by omega), e _ (by omega) (by omega)]
    exact o11 k k0 k1
theorem OkS.track {S : Row} {c : Int} (h : OkS S) : OkS (trackS S c).2 := by
  obtain ⟨o1, o2, o3, o4, o5, o6, o7, o8, o9, o10, o11⟩ := id h
  have key : ∀ T : Row, (∀ j, j ≠ 39 → (j < 73 ∨ 79 ≤ j) → T j = S j) → (0 ≤ T 39 ∧ T 39 ≤ 6) → OkS T := by
    intro T e h39
    exact h.eq (fun j a b c d => e j (by omega) (by omega)) (fun j hj => e j (by omega) (by omega)) (e 38 (by omega) (by omega)) h39 (by rw [e 40 (by omega) (by omega)]; exact o8) (by rw [e 41 (by omega) (by omega)]; exact o9) (fun k k0 k1 => by rw [e 41 (by omega) (by omega)] at k1; rw [e _ (by omega) (by omega)]; exact o10 k k0 k1) (fun k k0 k1 => by rw [e 40 (by omega) (by omega)] at k1; rw [e _ (by omega) (by omega), e _ (by omega) (by omega), e _ (by omega) (by omega)]; exact o11 k k0 k1)
  unfold trackS
  split
  · dsimp only
    exact key _ (fun j h1 h2 => upR_ne _ h1) (by rw [upR_same]; omega)
  split
  · exact h
  split
  · exact h
  · dsimp only
    exact key _ (fun j h1 h2 => by rw [upR_ne _ h1, upR_ne _ (by omega)]) (by rw [upR_same]; omega)
theorem OkS.book {S : Row} {p n c : Int} (h : OkS S) : OkS (bookS S p n c).2 := by
  obtain ⟨o1, o2, o3, o4, o5, o6, o7, o8, o9, o10, o11⟩ := id h
  have h4 := o1.2.1
  have hwh := o1.wh
  have key : ∀ T : Row, (∀ j, j ≠ 40 → (j < 79 ∨ 103 ≤ j) → T j = S j) → (0 ≤ T 40 ∧ T 40 ≤ 8) → (∀ k, 0 ≤ k → k < T 40 → (0 ≤ T (79 + k) ∧ T (79 + k) < 4) ∧ (0 ≤ T (87 + k) ∧ T (87 + k) ≤ 60) ∧ 0 ≤ T (95 + k) ∧ T (95 + k) < 64) → OkS T := by
    intro T e h40 hb
    exact h.eq (fun j a b c d => e j (by omega) (by omega)) (fun j hj => e j (by omega) (by omega)) (e 38 (by omega) (by omega)) (by rw [e 39 (by omega) (by omega)]; exact o7) h40 (by rw [e 41 (by omega) (by omega)]; exact o9) (fun k k0 k1 => by rw [e 41 (by omega) (by omega)] at k1; rw [e _ (by omega) (by omega)]; exact o10 k k0 k1) hb
  unfold bookS
  split
  · dsimp only
    exact key _ (fun j h1 h2 => upR_ne _ h1) (by rw [upR_same]; omega) (fun k k0 k1 => by rw [upR_same] at k1; omega)
  split
  · exact h
  rename_i hpc
  split
  · exact h
  rename_i hn
  split
  · exact h
  rename_i hf
  have hpc : (0 ≤ p ∧ p < S 37) ∧ 0 ≤ c ∧ c < S 43 * S 44 := Decidable.not_not.1 hpc
  have hn : 0 ≤ n ∧ n ≤ 60 := Decidable.not_not.1 hn
  have e : ∀ j, j ≠ 40 → j ≠ 79 + S 40 → j ≠ 87 + S 40 → j ≠ 95 + S 40 → upR (upR (upR (upR S (79 + S 40) p) (87 + S 40) n) (95 + S 40) c) 40 (S 40 + 1) j = S j := fun j h1 h2 h3 h4 => by rw [upR_ne _ h1, upR_ne _ h4, upR_ne _ h3, upR_ne _ h2]
  dsimp only
  refine key _ (fun j h1 h2 => e j h1 (by omega) (by omega) (by omega)) (by rw [upR_same]; omega) (fun k k0 k1 => ?_)
  rw [upR_same] at k1
  by_cases hk : k = S 40
  · rw [hk, upR_ne _ (show 79 + S 40 ≠ 40 by omega), upR_ne _ (show 79 + S 40 ≠ 95 + S 40 by omega), upR_ne _ (show 79 + S 40 ≠ 87 + S 40 by omega), upR_same, upR_ne _ (show 87 + S 40 ≠ 40 by omega), upR_ne _ (show 87 + S 40 ≠ 95 + S 40 by omega), upR_same, upR_ne _ (show 95 + S 40 ≠ 40 by omega), upR_same]
    omega
  · rw [e (79 + k) (by omega) (by omega) (by omega) (by omega), e (87 + k) (by omega) (by omega) (by omega) (by omega), e (95 + k) (by omega) (by omega) (by omega) (by omega)]
    exact o11 k k0 (by omega)

/-! WHAT HOLDS BETWEEN CALLS IS KEPT: debts, laws -/
theorem Dst.pt {S : Row} {p q x : Int} (h : Dst S) (hI : Inv S) (hp : 0 ≤ p ∧ p < S 37) (h9 : S (9 + p) ≤ 2) (hn : debtTo S p q = -1) : Dst (ptS S p (S (9 + p)) q x) := by
  have h4 := hI.2.1
  have hp4 : 0 ≤ p ∧ p < 4 := by omega
  have j3 := (hI.2.2.2.2.1 p hp.1 hp.2).2.2.1
  have off : ∀ j, j ≠ 9 + p → (j < 13 + 3 * p ∨ 13 + 3 * p + 3 ≤ j) → (j < 25 + 3 * p ∨ 25 + 3 * p + 3 ≤ j) → ptS S p (S (9 + p)) q x j = S j := fun j a b c => ptS_off hp4 ⟨j3.1, h9⟩ h9 a b c
  have hne := dT_none 3 0 (by omega) hn
  intro r r0 r1 i j i0 ij j1
  rw [off 37 (by omega) (by omega) (by omega)] at r1
  by_cases hrp : r = p
  · subst hrp
    rw [ptS_9 hp4 ⟨j3.1, h9⟩ h9] at j1
    rw [(ptS_w (S := S) (q := q) (x := x) hp4 ⟨j3.1, Int.le_refl _⟩ h9 i0 (by omega)).1, (ptS_w (S := S) (q := q) (x := x) hp4 ⟨j3.1, Int.le_refl _⟩ h9 (i := j) (by omega) (by omega)).1]
    rw [if_neg (by omega), if_neg (by omega)]
    by_cases hj : j = S (9 + r)
    · rw [if_pos hj]
      exact hne i i0 (by omega) (by omega)
    · rw [if_neg hj, if_neg (by omega)]
      exact h r r0 r1 i j i0 ij (by omega)
  · have := (hI.2.2.2.2.1 r r0 r1).2.2.1.2
    rw [off (9 + r) (by omega) (by omega) (by omega)] at j1
    rw [off _ (by omega) (by omega) (by omega), off _ (by omega) (by omega) (by omega)]
    exact h r r0 r1 i j i0 ij j1
theorem Inv.tkk {S : Row} {p k : Int} (h : Inv S) (hp : 0 ≤ p ∧ p < S 37) (hk : 0 ≤ k) (h1 : 1 ≤ S (9 + p)) : Inv (tkS S p k) := by
  have h4 := h.2.1
  have hp4 : 0 ≤ p ∧ p < 4 := by omega
  obtain ⟨j1, j2, j3, j4, j5, j6, j7, j8⟩ := h.2.2.2.2.1 p hp.1 hp.2
  have off : ∀ j, j ≠ 9 + p → (j < 13 + 3 * p ∨ 13 + 3 * p + 3 ≤ j) → (j < 25 + 3 * p ∨ 25 + 3 * p + 3 ≤ j) → tkS S p k j = S j := fun j a b c => tkS_off hp4 hk j3.2 a b c
  refine h.one hp4 (by rw [off 0 (by omega) (by omega) (by omega)]; exact h.1) (fun j hj => off j (by omega) (by omega) (by omega)) ?_ ?_
  · intro r r0 r1 hrp
    exact ⟨off _ (by omega) (by omega) (by omega), off _ (by omega) (by omega) (by omega), off _ (by omega) (by omega) (by omega), fun m m0 m1 => ⟨off _ (by omega) (by omega) (by omega), off _ (by omega) (by omega) (by omega)⟩⟩
  · intro _
    have e37 := off 37 (by omega) (by omega) (by omega)
    have e43 := off 43 (by omega) (by omega) (by omega)
    have e44 := off 44 (by omega) (by omega) (by omega)
    refine ⟨by rw [off (1 + p) (by omega) (by omega) (by omega), e43, e44]; exact j1, by rw [off _ (by omega) (by omega) (by omega)]; exact j2, by rw [tkS_9 hp4 hk j3.2]; omega, by rw [off _ (by omega) (by omega) (by omega)]; exact j4, by rw [off _ (by omega) (by omega) (by omega)]; exact j5, by rw [off (53 + p) (by omega) (by omega) (by omega), e43, e44]; exact j6, ?_, fun m m0 m1 => by rw [off _ (by omega) (by omega) (by omega)]; exact j8 m m0 m1⟩
    intro m m0 m1
    rw [tkS_9 hp4 hk j3.2] at m1
    obtain ⟨w1, w2⟩ := tkS_w (S := S) hp4 hk j3.2 m0 (by omega)
    rw [w1, w2, e37]
    by_cases hc : k ≤ m ∧ m < S (9 + p) - 1
    · rw [if_pos hc, if_pos hc]
      have := j7 (m + 1) (by omega) (by omega)
      rw [show 13 + 3 * p + (m + 1) = 13 + 3 * p + m + 1 by omega, show 25 + 3 * p + (m + 1) = 25 + 3 * p + m + 1 by omega] at this
      exact this
    · rw [if_neg hc, if_neg hc]
      exact j7 m m0 (by omega)
theorem OkS.owe {S : Row} {p q x : Int} (hO : OkS S) : OkS (oweS S p q x).2 := by
  obtain ⟨o1, o2, o3, o4, o5, o6, o7, o8, o9, o10, o11⟩ := id hO
  have h4 := o1.2.1
  unfold oweS
  split
  · exact hO
  rename_i h1
  split
  · exact hO
  rename_i h2
  have h1 : (0 ≤ p ∧ p < S 37) ∧ 0 ≤ q ∧ q < S 37 := Decidable.not_not.1 h1
  dsimp only
  have hp4 : 0 ≤ p ∧ p < 4 := by omega
  have j3 := (o1.2.2.2.2.1 p h1.1.1 h1.1.2).2.2.1
  have hr := room o1 o3 h1.1 h1.2 (fun e => h2 (Or.inl e.symm))
  have off : ∀ j, (j ≠ 9 + p ∧ (j < 13 + 3 * p ∨ 13 + 3 * p + 3 ≤ j) ∧ (j < 25 + 3 * p ∨ 25 + 3 * p + 3 ≤ j)) → oweR S p q x j = S j := fun j hj => oweR_off hp4 j3 hr hj
  have key : Inv (oweR S p q x) ∧ Dst (oweR S p q x) := by
    unfold oweR
    split
    · rename_i hn
      split
      · exact ⟨o1.pt h1.1 ⟨j3.1, Int.le_refl _⟩ (hr hn) ⟨h1.2.1, h1.2.2, fun e => h2 (Or.inl e.symm)⟩ (by omega), o3.pt o1 h1.1 (hr hn) hn⟩
      · exact ⟨o1, o3⟩
    · rename_i hn
      obtain ⟨a1, a2, a3, a4⟩ := dT_some 3 0 (by omega) hn
      change 0 ≤ debtTo S p q at a1
      change debtTo S p q < S (9 + p) at a3
      split
      · exact ⟨o1.tkk h1.1 a1 (by omega), o3.tk o1 h1.1 a1⟩
      · exact ⟨o1.sum hp4 (by omega) (by omega), o3.up o1 (by omega)⟩
  refine hO.world key.1 key.2 (by rw [off 0 (by omega)]; exact o4) ?_ (fun j hj => off j (by omega))
  intro r r0 r1
  rw [off 37 (by omega)] at r1
  have j6 := (o1.2.2.2.2.1 r r0 r1).2.2.2.2.2.1
  have := o1.wh
  rw [off (53 + r) (by omega), off _ (by omega)]
  exact o5 r r0 r1
theorem claS_ok {T : Row} {e k : Int} (k0 : 0 ≤ k) (hk : k ≤ e) (hg : (claS T e k).1 = true) : okL (claS T e k).2.2 ∧ 0 ≤ (claS T e k).2.1 ∧ (claS T e k).2.1 ≤ e := by
  have sp : ∀ i : Nat, i < 5 → ∀ c ∈ mu_str i, 0 ≤ c := by
    intro i hi
    have : i = 0 ∨ i = 1 ∨ i = 2 ∨ i = 3 ∨ i = 4 := by omega
    rcases this with rfl | rfl | rfl | rfl | rfl <;> decide
  unfold claS at hg ⊢
  by_cases h1 : sgn8 T e k = 99
  · rw [if_pos h1] at hg ⊢
    have sb := spS_bd (T := T) (e := e) (mu_str 4) k (sp 4 (by omega)) hk
    unfold cla1 at hg ⊢
    by_cases hs : (spS T e (mu_str 4) k).1 = true
    · rw [if_pos hs] at hg ⊢
      have nb := numS_bd (T := T) (e := e) sb.2.1
      dsimp only
      exact ⟨⟨Or.inr (Or.inr rfl), ⟨nb.2.2.1, nb.2.2.2.1⟩, fun hz => absurd rfl hz⟩, by omega, nb.2.1⟩
    · rw [if_neg hs] at hg; exact absurd hg Bool.false_ne_true
  rw [if_neg h1] at hg ⊢
  by_cases h2 : sgn8 T e k = 101
  · rw [if_pos h2] at hg ⊢
    have sb := spS_bd (T := T) (e := e) (mu_str 0) k (sp 0 (by omega)) hk
    by_cases hs : (spS T e (mu_str 0) k).1 = true
    · rw [if_pos hs] at hg ⊢
      have nb := numS_bd (T := T) (e := e) sb.2.1
      unfold cla3 at hg ⊢
      by_cases hn : (numS T e (spS T e (mu_str 0) k).2).1 = true
      · rw [if_pos hn] at hg ⊢
        by_cases h32 : sgn8 T e (numS T e (spS T e (mu_str 0) k).2).2.1 = 32
        · rw [if_pos h32] at hg ⊢
          have hlt := sg_e h32 (by omega)
          unfold cla2 at hg ⊢
          have hb := exS_bd (T := T) (e := e) (k := (numS T e (spS T e (mu_str 0) k).2).2.1 + 1) (by omega) (by omega)
          obtain ⟨hB1, hB2⟩ := hb
          obtain ⟨hB3, hB4, hB5⟩ := hB2 hg
          dsimp only
          exact ⟨⟨Or.inl rfl, ⟨nb.2.2.1, nb.2.2.2.1⟩, fun _ => hB5 0 (by omega)⟩, by omega, hB1.2⟩
        · rw [if_neg h32] at hg; exact absurd hg Bool.false_ne_true
      · rw [if_neg hn] at hg; exact absurd hg Bool.false_ne_true
    · rw [if_neg hs] at hg; exact absurd hg Bool.false_ne_true
  rw [if_neg h2] at hg ⊢
  by_cases h3 : sgn8 T e k = 114
  · rw [if_pos h3] at hg ⊢
    have sb := spS_bd (T := T) (e := e) (mu_str 3) k (sp 3 (by omega)) hk
    by_cases hs : (spS T e (mu_str 3) k).1 = true
    · rw [if_pos hs] at hg ⊢
      unfold cla2 at hg ⊢
      have hb := exS_bd (T := T) (e := e) (k := (spS T e (mu_str 3) k).2) (by omega) (by omega)
      obtain ⟨hB1, hB2⟩ := hb
      obtain ⟨hB3, hB4, hB5⟩ := hB2 hg
      dsimp only
      exact ⟨⟨Or.inr (Or.inl rfl), (show (0 : Int) ≤ 0 ∧ (0 : Int) ≤ 99 from by decide), fun _ => hB5 0 (by omega)⟩, by omega, hB1.2⟩
    · rw [if_neg hs] at hg; exact absurd hg Bool.false_ne_true
  · rw [if_neg h3] at hg; exact absurd hg Bool.false_ne_true
theorem laL_ok {T : Row} {e : Int} : ∀ (n : Nat) (k : Int) (l : List Cla), 0 ≤ k → k ≤ e → (∀ c ∈ l, okL c) → (laL T e n k l).1 = true → ∀ c ∈ (laL T e n k l).2.2, okL c
  | 0, _, _, _, _, h, _ => h
  | n + 1, k, l, k0, hk, h, hg => by
    rw [laL] at hg ⊢
    by_cases hs : sgn8 T e k = 59
    · rw [if_pos hs] at hg ⊢
      have hlt := sg_e hs (by omega)
      by_cases hc : (claS T e (k + 1)).1 = true
      · rw [if_pos hc] at hg ⊢
        obtain ⟨a, b, c⟩ := claS_ok (T := T) (e := e) (k := k + 1) (by omega) (by omega) hc
        refine laL_ok n _ _ b c ?_ hg
        intro x hx
        rcases List.mem_append.1 hx with h1 | h1
        · exact h x h1
        · rw [List.mem_singleton] at h1
          rw [h1]; exact a
      · rw [if_neg hc] at hg; exact absurd hg Bool.false_ne_true
    · rw [if_neg hs] at hg ⊢
      exact h
theorem parS_ok {T : Row} {e : Int} (e0 : 0 ≤ e) (hg : (parS T e).1 = true) : ∀ c ∈ (parS T e).2.2, okL c := by
  unfold parS at hg ⊢
  by_cases hc : (claS T e 0).1 = true
  · rw [if_pos hc] at hg ⊢
    obtain ⟨a, b, c⟩ := claS_ok (T := T) (e := e) (k := 0) (by omega) e0 hc
    exact laL_ok 9 _ _ b c (fun x hx => by rw [List.mem_singleton] at hx; rw [hx]; exact a) hg
  · rw [if_neg hc] at hg; exact absurd hg Bool.false_ne_true
theorem okC_txt : ∀ (l : List Cla), (∀ c ∈ l, okL c) → okC (txtC l) 0
  | [], _ => trivial
  | c :: l, h => by
    have hr := okC_txt l (fun x hx => h x (List.mem_cons_of_mem _ hx))
    obtain ⟨h1, h2, h3⟩ := h c (by simp)
    rw [txtC]
    unfold txt1
    rcases h1 with h1 | h1 | h1
    · rw [if_pos h1, List.append_assoc]
      refine okE_okC (h3 (by omega)) ?_
      exact ⟨by omega, fun h => by omega, fun h => by omega, fun h5 h6 => by omega, fun _ => ⟨rfl, hr⟩⟩
    · rw [if_neg (by omega), if_pos h1, List.append_assoc]
      refine okE_okC (h3 (by omega)) ?_
      exact ⟨by omega, fun h => by omega, fun h => by omega, fun h5 h6 => by omega, fun _ => ⟨rfl, hr⟩⟩
    · rw [if_neg (by omega), if_neg (by omega)]
      exact hr
theorem codes_lst {T : Row} : ∀ {L : List Int} {a : Int}, lst T a L → codes T a L.length = L
  | [], _, _ => rfl
  | x :: L, a, h => by rw [List.length_cons, codes, h.1, codes_lst h.2]
/-- the row after a law -/
theorem law_row {S T : Row} (hO : OkS S) (h5 : S 38 ≠ 5) (hT : ∀ j, j ≠ 38 → j ≠ 41 → j ≠ 42 → j ≠ 267 + S 38 → j ≠ 272 + S 38 → (j < 277 + 140 * S 38 ∨ 277 + 140 * S 38 + 140 ≤ j) → T j = S j) (h41 : T 41 = 0)
  (hg : goodP S → T 38 = S 38 + 1 ∧ T 42 = S 38 ∧ (∃ L : List Int, L = txtC (parS (tpS S) (S 41)).2.2 ∧ T (272 + S 38) = L.length ∧ lst T (277 + 140 * S 38) L ∧ (L.length : Int) ≤ 100) ∧ T (267 + S 38) = comC 0 (parS (tpS S) (S 41)).2.2) (hb : ¬ goodP S → T 38 = S 38 ∧ T 42 = S 42) : LNew S T ∧ OkS T := by
  obtain ⟨o1, o2, o3, o4, o5, o6, o7, o8, o9, o10, o11⟩ := id hO
  have h4 := o1.2.1
  have hwh := o1.wh
  have e : ∀ j, 0 ≤ j → j < 267 → j ≠ 38 → j ≠ 41 → j ≠ 42 → T j = S j := fun j a b c d f => hT j c d f (by omega) (by omega) (by omega)
  have base : (0 ≤ T 38 ∧ T 38 ≤ 5 ∧ T 42 < T 38) → LW T → OkS T := by
    intro h38 hL
    have ei : ∀ j, 0 ≤ j → j < 167 → ¬ (38 ≤ j ∧ j ≤ 42) → ¬ (73 ≤ j ∧ j < 103) → T j = S j := fun j a b c d => e j a (by omega) (by omega) (by omega) (by omega)
    refine ⟨o1.eq ei, hL, o3.eq h4.2 (fun p p0 p1 => (o1.2.2.2.2.1 p p0 p1).2.2.1.2) (fun j a b => e j (by omega) (by omega) (by omega) (by omega) (by omega)), by rw [e 0 (by omega) (by omega) (by omega) (by omega) (by omega)]; exact o4, ?_, h38, by rw [e 39 (by omega) (by omega) (by omega) (by omega) (by omega)]; exact o7, by rw [e 40 (by omega) (by omega) (by omega) (by omega) (by omega)]; exact o8, by rw [h41]; decide, fun k k0 k1 => by rw [h41] at k1; omega, ?_⟩
    · intro p p0 p1
      rw [e 37 (by omega) (by omega) (by omega) (by omega) (by omega)] at p1
      have j6 := (o1.2.2.2.2.1 p p0 p1).2.2.2.2.2.1
      rw [e (53 + p) (by omega) (by omega) (by omega) (by omega) (by omega), e _ (by omega) (by omega) (by omega) (by omega) (by omega)]
      exact o5 p p0 p1
    · intro k k0 k1
      rw [e 40 (by omega) (by omega) (by omega) (by omega) (by omega)] at k1
      rw [e _ (by omega) (by omega) (by omega) (by omega) (by omega), e _ (by omega) (by omega) (by omega) (by omega) (by omega), e _ (by omega) (by omega) (by omega) (by omega) (by omega)]
      exact o11 k k0 k1
  by_cases gp : goodP S
  · obtain ⟨g1, g2, ⟨L, l1, l2, l3, l4⟩, g4⟩ := hg gp
    have em : manyS T = L.length := by unfold manyS; rw [if_neg (by omega), g2]; exact l2
    have et : textS T = txtC (parS (tpS S) (S 41)).2.2 := by
      unfold textS
      rw [em, g2, Int.toNat_natCast, codes_lst l3, l1]
    refine ⟨⟨e, h41, fun _ => ⟨g1, et, ?_⟩, fun hn => absurd gp hn⟩, base (by omega) ⟨by omega, by rw [em]; omega, ?_⟩⟩
    · unfold tellS
      rw [if_neg (by omega), g2]; exact g4
    · rw [et]
      exact okC_txt _ (parS_ok o9.1 gp.1)
  · obtain ⟨b1, b2⟩ := hb gp
    have hl := o2
    obtain ⟨l1, l2, l3⟩ := o2
    have em : manyS T = manyS S := by
      unfold manyS
      rw [b2]
      split
      · rfl
      · rw [hT _ (by omega) (by omega) (by omega) (by omega) (by omega) (by omega)]
    have et : textS T = textS S := by
      by_cases h1 : S 42 = -1
      · unfold textS
        rw [em]
        unfold manyS
        rw [if_pos h1]
        rfl
      · unfold textS
        rw [b2, em]
        exact codes_in _ _ (fun j h2 h3 => hT j (by omega) (by omega) (by omega) (by omega) (by omega) (by omega))
    have ec : tellS T 267 = tellS S 267 := by
      unfold tellS
      rw [b2]
      split
      · rfl
      · rw [hT _ (by omega) (by omega) (by omega) (by omega) (by omega) (by omega)]
    exact ⟨⟨e, h41, fun hh => absurd hh gp, fun _ => ⟨b1, fun cls hc => ⟨by rw [et]; exact hc.1, by rw [ec]; exact hc.2⟩⟩⟩, base (by omega) ⟨by omega, by rw [em]; exact l2, by rw [et]; exact l3⟩⟩

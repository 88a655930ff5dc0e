/-! THE REFERENCE'S LAW -/
def tpS (S : Row) : Row := fun k => S (167 + k)
/-- whether the tape is a law -/
def goodP (S : Row) : Prop := (parS (tpS S) (S 41)).1 = true ∧ (parS (tpS S) (S 41)).2.1 = S 41
/-- what a law leaves as it is: all but the tape's size, the slot a, who holds -/
def FLa (a : Int) (I I1 : mu_M) : Prop := (∀ b, b ≠ 115 → b ≠ 116 → I1 b = I b) ∧ (∀ j, (j < 5 ∨ 9 < j) → I1 115 j = I 115 j) ∧ ∀ j, j ≠ 38 → j ≠ 41 → j ≠ 42 → j ≠ 267 + a → j ≠ 272 + a → (j < 277 + 140 * a ∨ 277 + 140 * a + 140 ≤ j) → I1 116 j = I 116 j
section
variable {d : Nat} {G : mu_G} {I : mu_M} {Q : Int → mu_G → mu_M → Prop}
theorem r_law (hd : d < 880) (hM : MR G) (hX : TXs G I) (hA : 0 ≤ I 116 38 ∧ I 116 38 ≤ 5) (hT : 0 ≤ I 116 41 ∧ I 116 41 ≤ 100)
  (h5 : I 116 38 = 5 → Q (-4) G I)
  (h : I 116 38 ≠ 5 → ∀ I1, FLa (I 116 38) I I1 → I1 116 41 = 0 →
    (goodP (I 116) → I1 116 38 = I 116 38 + 1 → I1 116 42 = I 116 38 → (∃ L : List Int, L = txtC (parS (tpS (I 116)) (I 116 41)).2.2 ∧ I1 116 (272 + I 116 38) = L.length ∧ lst (I1 116) (277 + 140 * I 116 38) L ∧ (L.length : Int) ≤ 100) → I1 116 (267 + I 116 38) = comC 0 (parS (tpS (I 116)) (I 116 41)).2.2 → Q (I 116 38) G I1) ∧
    (¬ goodP (I 116) → I1 116 38 = I 116 38 → I1 116 42 = I 116 42 → Q (-10 - (parS (tpS (I 116)) (I 116 41)).2.1) G I1)) :
  mu_WP mu_code d 148 0 [(1, 115), (3, 0)] [] G I Q := by
  refine vc_148_0 (d := d) (by omega) 115 ?_
  simp only [hM]
  refine ⟨trivial, by (try simp only [true_and]); omega, h5, fun hn5 => ?_⟩
  have h := h hn5
  clear h5
  unfold goodP at h
  generalize ha : I 116 38 = a at *
  generalize he : I 116 41 = e at *
  generalize hTT : tpS (I 116) = T at *
  have e1 : wr (267 + a) = 267 + a := wr_id (by omega) (by omega)
  have e2 : wr (272 + a) = 272 + a := wr_id (by omega) (by omega)
  intro I4 q4
  have r4 : I4 116 = I 116 := by rw [q4, set_off _ (by decide)]
  rw [r4]
  refine ⟨by (try simp only [true_and]); omega, ?_⟩
  intro I7 q7
  refine ⟨by (try simp only [true_and]); omega, ?_⟩
  intro I9 q9
  have a9 : I9 115 5 = a := by rw [q9, set_off _ (by decide), q7, set_row, upR_ne _ (by decide), q4, set_row, upR_same]
  rw [a9, e1]
  refine ⟨by (try simp only [true_and]); omega, ?_⟩
  intro I12 q12
  have a12 : I12 115 5 = a := by rw [q12, set_off _ (by decide)]; exact a9
  rw [a12, e2]
  refine ⟨by (try simp only [true_and]); omega, ?_⟩
  intro I15 q15 I18 q18 I20 q20 I22 q22
  -- the reader begins
  have o116 : I22 116 = upR (upR (upR (I 116) 41 0) (267 + a) 0) (272 + a) 0 := by
    rw [q22, set_off _ (by decide), q20, set_off _ (by decide), q18, set_off _ (by decide), q15, set_row, q12, set_row, q9, set_row, q7, set_off _ (by decide), r4]
  have o115 : I22 115 = upR (upR (upR (upR (upR (I 115) 5 a) 7 e) 6 0) 8 0) 9 0 := by
    rw [q22, set_row, q20, set_row, q18, set_row, q15, set_off _ (by decide), q12, set_off _ (by decide), q9, set_off _ (by decide), q7, set_row, q4, set_row, he]
  have oth : ∀ b, b ≠ 115 → b ≠ 116 → I22 b = I b := by
    intro b h1 h2
    rw [q22, set_off _ h1, q20, set_off _ h1, q18, set_off _ h1, q15, set_off _ h2, q12, set_off _ h2, q9, set_off _ h2, q7, set_off _ h1, q4, set_off _ h1]
  clear q4 q7 q9 q12 q15 q18 q20 q22 a9 a12 r4
  have p22 : PSt a e T 0 0 0 [] I22 := by
    refine ⟨⟨?_, ?_, ?_, ?_, ?_⟩, ⟨by rw [o116, upR_same]; rfl, trivial⟩, ?_, by omega, by omega⟩
    · rw [o115]; rfl
    · rw [o115]; rfl
    · rw [o115]; rfl
    · rw [o115]; rfl
    · rw [o115]; rfl
    · intro j j0 j1
      rw [o116, upR_ne _ (by omega), upR_ne _ (by omega), upR_ne _ (by omega), ← hTT]
      rfl
  have x22 : TXs G I22 := hX.keep (fun b hb => oth b (by omega) (by omega))
  have c22 : I22 116 (267 + a) = 0 := by rw [o116, upR_ne _ (by omega), upR_same]
  -- the state between clauses
  have fin : ∀ (I2 : mu_M), FPc a I22 I2 → I2 116 41 = 0 ∧ I2 116 38 = a ∧ I2 116 42 = I 116 42 ∧ FLa a I I2 := by
    intro I2 hf
    refine ⟨?_, ?_, ?_, ⟨fun b h1 h2 => by rw [hf.1 b h1 h2, oth b h1 h2], fun j hj => by rw [hf.2.1 j (by omega) (by omega) (by omega), o115, upR_ne _ (by omega), upR_ne _ (by omega), upR_ne _ (by omega), upR_ne _ (by omega), upR_ne _ (by omega)], fun j j1 j2 j3 j4 j5 j6 => by rw [hf.2.2 j j4 j5 j6, o116, upR_ne _ j5, upR_ne _ j4, upR_ne _ j2]⟩⟩
    · rw [hf.2.2 41 (by omega) (by omega) (by omega), o116, upR_ne _ (by omega), upR_ne _ (by omega), upR_same]
    · rw [hf.2.2 38 (by omega) (by omega) (by omega), o116, upR_ne _ (by omega), upR_ne _ (by omega), upR_ne _ (by omega), ha]
    · rw [hf.2.2 42 (by omega) (by omega) (by omega), o116, upR_ne _ (by omega), upR_ne _ (by omega), upR_ne _ (by omega)]
  -- it is wrong
  have bad : ∀ (n k : Int) (L : List Int) (I2 : mu_M), FPc a I22 I2 → PSt a e T k 1 0 L I2 → (∀ I1, FLa a I I1 → I1 116 41 = 0 → I1 116 38 = a → I1 116 42 = I 116 42 → Q (-10 - k) G I1) → mu_WP mu_code d 148 93 [(1, 115), (0, n)] [] G I2 Q := by
    intro n k L I2 hf hp hq
    have hk := hp.2.2.2.2
    obtain ⟨g1, g2, g3, g4⟩ := fin I2 hf
    refine vc_148_93 (by omega) _ _ ⟨hM.1, fun hc => absurd hc (by rw [hp.1.2.2.2.1]; decide), fun _ => ?_⟩
    rw [hp.1.2.1, wr_id (x := -10 - k) (by omega) (by omega)]
    exact hq I2 g4 g1 g2 g3
  -- no more clauses
  have ends : ∀ (k : Int) (cls : List Cla) (I2 : mu_M), FPc a I22 I2 → PSt a e T k 0 0 (txtC cls) I2 → ((txtC cls).length : Int) ≤ k → I2 116 (267 + a) = comC 0 cls →
      (∀ I1, FLa a I I1 → I1 116 41 = 0 → (k = e → I1 116 38 = a + 1 → I1 116 42 = a → (∃ L : List Int, L = txtC cls ∧ I1 116 (272 + a) = L.length ∧ lst (I1 116) (277 + 140 * a) L ∧ (L.length : Int) ≤ 100) → I1 116 (267 + a) = comC 0 cls → Q a G I1) ∧ (¬ k = e → I1 116 38 = a → I1 116 42 = I 116 42 → Q (-10 - k) G I1)) →
      ((I2 115 6 = I2 115 7 → ((sh G 116).1 = 100 ∧ (0 : Int) ≤ 38 ∧ 38 < (sh G 116).2) ∧ ((0 : Int) ≤ 116 ∧ (sh G 116).1 = 100 ∧ (0 : Int) ≤ 38 ∧ 38 < (sh G 116).2) ∧ (∀ I40 : mu_M, I40 = mu_set I2 116 38 (wr (I2 116 38 + 1)) → ((0 : Int) ≤ 116 ∧ (sh G 116).1 = 100 ∧ (0 : Int) ≤ 42 ∧ 42 < (sh G 116).2) ∧ (∀ I43 : mu_M, I43 = mu_set I40 116 42 (I40 115 5) → Q (I43 115 5) G I43))) ∧ (¬ I2 115 6 = I2 115 7 → Q (wr (-10 - I2 115 6)) G I2)) := by
    intro k cls I2 hf hp hl hc hq
    have hk := hp.2.2.2.2
    obtain ⟨g1, g2, g3, g4⟩ := fin I2 hf
    rw [hp.1.2.1, hp.1.2.2.1]
    refine ⟨fun hke => ⟨by simp only [hM]; decide, by simp only [hM]; decide, ?_⟩, fun hke => ?_⟩
    · intro I40 q40
      refine ⟨by simp only [hM]; decide, ?_⟩
      intro I43 q43
      rw [g2, wr_id (x := a + 1) (by omega) (by omega)] at q40
      have a40 : I40 115 5 = a := by rw [q40, set_off _ (by decide)]; exact hp.1.1
      rw [a40] at q43
      have a43 : I43 115 5 = a := by rw [q43, set_off _ (by decide)]; exact a40
      have o43 : I43 116 = upR (upR (I2 116) 38 (a + 1)) 42 a := by rw [q43, set_row, q40, set_row]
      rw [a43]
      refine (hq I43 ⟨fun b h1 h2 => ?_, fun j hj => ?_, fun j j1 j2 j3 j4 j5 j6 => ?_⟩ ?_).1 hke ?_ ?_ ⟨_, rfl, ?_, ?_, by omega⟩ ?_
      · rw [q43, set_off _ h2, q40, set_off _ h2]; exact g4.1 b h1 h2
      · rw [q43, set_off _ (by decide), q40, set_off _ (by decide)]; exact g4.2.1 j hj
      · rw [o43, upR_ne _ j3, upR_ne _ j1]; exact g4.2.2 j j1 j2 j3 j4 j5 j6
      · rw [o43, upR_ne _ (by decide), upR_ne _ (by decide)]; exact g1
      · rw [o43, upR_ne _ (by decide), upR_same]
      · rw [o43, upR_same]
      · rw [o43, upR_ne _ (by omega), upR_ne _ (by omega)]; exact hp.2.1.1
      · rw [o43]; exact lst_lo (lst_lo hp.2.1.2 (by omega)) (by omega)
      · rw [o43, upR_ne _ (by omega), upR_ne _ (by omega)]; exact hc
    · rw [wr_id (x := -10 - k) (by omega) (by omega)]
      exact (hq I2 g4 g1).2 hke g2 g3
  -- the loop
  have loop : ∀ (n : Nat) (k : Int) (cls : List Cla) (I2 : mu_M), n ≤ 9 → FPc a I22 I2 → TXs G I2 → PSt a e T k 0 0 (txtC cls) I2 → ((txtC cls).length : Int) ≤ k → I2 116 (267 + a) = comC 0 cls →
      (∀ I1, FLa a I I1 → I1 116 41 = 0 → ((laL T e n k cls).1 = true ∧ (laL T e n k cls).2.1 = e → I1 116 38 = a + 1 → I1 116 42 = a → (∃ L : List Int, L = txtC (laL T e n k cls).2.2 ∧ I1 116 (272 + a) = L.length ∧ lst (I1 116) (277 + 140 * a) L ∧ (L.length : Int) ≤ 100) → I1 116 (267 + a) = comC 0 (laL T e n k cls).2.2 → Q a G I1) ∧ (¬ ((laL T e n k cls).1 = true ∧ (laL T e n k cls).2.1 = e) → I1 116 38 = a → I1 116 42 = I 116 42 → Q (-10 - (laL T e n k cls).2.1) G I1)) →
      mu_WP mu_code d 148 93 [(1, 115), (0, 10 - (n : Int))] [] G I2 Q := by
    intro n
    induction n with
    | zero =>
      intro k cls I2 hn hf hx hp hl hc hq
      refine vc_148_93 (by omega) _ _ ⟨hM.1, fun _ => ⟨fun h1 => absurd h1 (by omega), fun _ => ?_⟩, fun hc => absurd hp.1.2.2.2.1 hc⟩
      simp only [hM.2.1]
      refine ends k cls I2 hf hp hl hc (fun I1 g1 g2 => ⟨fun g3 => (hq I1 g1 g2).1 ⟨rfl, g3⟩, fun g3 => (hq I1 g1 g2).2 (fun g4 => g3 g4.2)⟩)
    | succ n ih =>
      intro k cls I2 hn hf hx hp hl hc hq
      have hk := hp.2.2.2.2
      rw [laL] at hq
      refine vc_148_93 (by omega) _ _ ⟨hM.1, fun _ => ⟨fun _ => r_here (by omega) hM hp ⟨fun h1 => ⟨hM.1, ?_⟩, fun h1 => ⟨hM.1, ?_⟩⟩, fun h1 => absurd (by omega) h1⟩, fun hc => absurd hp.1.2.2.2.1 hc⟩
      · intro I10 q10
        have hlt := sg_e h1 (by omega)
        rw [if_pos h1] at hq
        rw [hp.1.2.1, wr_id (x := k + 1) (by omega) (by omega)] at q10
        have p10 : PSt a e T (k + 1) 0 0 (txtC cls) I10 := by rw [q10]; exact hp.place (by omega)
        have f10 : FPa a I2 I10 := q10 ▸ FPa.w I2 (by simp)
        have c10 : I10 116 (267 + a) = comC 0 cls := by rw [q10, set_off _ (by decide)]; exact hc
        refine r_clause hM (s := 0) (by omega) p10 (hx.fp f10) (by omega) (by omega) c10 ?_
        intro I11 f11 p11
        obtain ⟨L', p11, l11, t11, m11⟩ := p11
        have f211 : FPc a I22 I11 := (hf.tr f10.c).tr f11
        have en : wr (10 - ((n + 1 : Nat) : Int) + 1) = 10 - (n : Int) := by rw [wr_id (by omega) (by omega)]; omega
        rw [en]
        by_cases hg : (claS T e (k + 1)).1 = true
        · rw [if_pos hg] at hq p11
          have t11 := t11 hg
          rw [← txtC_add] at t11
          subst t11
          refine ih _ _ I11 (by omega) f211 (hx.keep (fun b hb => by rw [f11.1 b (by omega) (by omega), f10.1 b (by omega) (by omega)])) p11 (by omega) ?_ hq
          rw [m11, comC_add]
          by_cases hc2 : (claS T e (k + 1)).2.2.1 = 2
          · rw [if_pos ⟨hg, hc2⟩, if_pos hc2]
          · rw [if_neg (fun hh => hc2 hh.2), if_neg hc2]
        · rw [if_neg hg] at hq p11
          refine bad _ _ L' I11 f211 p11 (fun I1 g1 g2 g3 g4 => (hq I1 g1 g2).2 (fun hh => absurd hh.1 Bool.false_ne_true) g3 g4)
      · rw [if_neg h1] at hq
        refine ⟨fun _ => ?_, fun hc => absurd hp.1.2.2.2.1 hc⟩
        simp only [hM.2.1]
        refine ends k cls I2 hf hp hl hc (fun I1 g1 g2 => ⟨fun g3 => (hq I1 g1 g2).1 ⟨rfl, g3⟩, fun g3 => (hq I1 g1 g2).2 (fun g4 => g3 g4.2)⟩)
  -- the first clause
  unfold parS at h
  refine r_clause hM (s := 0) (by omega) p22 x22 (by omega) (by simp) c22 ?_
  intro I2 f2 p2
  obtain ⟨L', p2, l2, t2, m2⟩ := p2
  by_cases hg : (claS T e 0).1 = true
  · rw [if_pos hg] at p2
    rw [if_pos hg] at h
    have t2 := t2 hg
    have ht : L' = txtC [(claS T e 0).2.2] := by rw [t2]; simp [txtC]
    subst ht
    have := loop 9 _ _ I2 (by omega) f2 (x22.keep (fun b hb => f2.1 b (by omega) (by omega))) p2 (by omega) (by
      rw [m2, comC, comC]
      by_cases hc2 : (claS T e 0).2.2.1 = 2
      · rw [if_pos ⟨hg, hc2⟩, if_pos hc2]
      · rw [if_neg (fun hh => hc2 hh.2), if_neg hc2]) h
    exact this
  · rw [if_neg hg] at p2
    rw [if_neg hg] at h
    exact bad _ _ L' I2 f2 p2 (fun I1 g1 g2 g3 g4 => (h I1 g1 g2).2 (fun hh => absurd hh.1 Bool.false_ne_true) g3 g4)
end

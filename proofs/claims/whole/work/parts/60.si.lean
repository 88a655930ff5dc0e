/-! THE REFERENCE READS A LAW: what is joined -/
/-- what a reader leaves -/
def PO (a e : Int) (T : Row) (o : Int) (L : List Int) (s : Int) (x : PRs) (I1 : mu_M) : Prop := ∃ L' : List Int, PSt a e T x.2.1 (if x.1 = true then 0 else 1) o L' I1 ∧ (L'.length : Int) + s ≤ x.2.1 ∧ (x.1 = true → L' = L ++ x.2.2)
section
variable {d : Nat} {G : mu_G} {I : mu_M} {Q : Int → mu_G → mu_M → Prop} {a e : Int} {T : Row} {k w o : Int} {L : List Int}
theorem r_factor1 (hd : d < 980) (hM : MR G) (hP : PSt a e T k 1 o L I) (h : Q 0 G I) : mu_WP mu_code d 156 0 [(1, 115), (3, 0), (3, 0), (3, 0), (3, 0)] [] G I Q :=
  vc_156_0 (by omega) _ ⟨hM.1, fun h1 => absurd h1 (by rw [hP.1.2.2.2.1]; omega), fun _ => h⟩
theorem r_every1 (hd : d < 979) (hM : MR G) (hP : PSt a e T k 1 o L I) (h : Q 0 G I) : mu_WP mu_code d 155 0 [(1, 115)] [] G I Q :=
  vc_155_0 (by omega) _ ⟨hM.1, r_factor1 (by omega) hM hP (vc_155_4 (by omega) _ ⟨hM.1, fun h1 => absurd h1 (by rw [hP.1.2.2.2.1]; omega), fun _ => h⟩)⟩
theorem r_some1 (hd : d < 978) (hM : MR G) (hP : PSt a e T k 1 o L I) (h : Q 0 G I) : mu_WP mu_code d 154 0 [(1, 115)] [] G I Q :=
  vc_154_0 (by omega) _ ⟨hM.1, r_every1 (by omega) hM hP (vc_154_4 (by omega) _ ⟨hM.1, fun h1 => absurd h1 (by rw [hP.1.2.2.2.1]; omega), fun _ => h⟩)⟩
/-- the walk of a factor, so many frames deep at most -/
def HF (G : mu_G) (a e : Int) (T : Row) (o : Int) (D : Nat) (F : Int → PRs) : Prop := ∀ (d : Nat) (k s : Int) (L : List Int) (I : mu_M) (Q : Int → mu_G → mu_M → Prop), d + D < 950 → PSt a e T k 0 o L I → TXs G I → 0 ≤ s → (L.length : Int) + s ≤ k → (∀ I1, FPa a I I1 → PO a e T o L s (F k) I1 → Q 0 G I1) → mu_WP mu_code d 156 0 [(1, 115), (3, 0), (3, 0), (3, 0), (3, 0)] [] G I Q
theorem r_every {D dd : Nat} {F : Int → PRs} (hM : MR G) (hdd : 0 < dd) (hF : HF G a e T o D F) (hB : ∀ k, 0 ≤ k → k ≤ e → RB e k dd (F k)) {s : Int} (hd : d + 1 + D < 950) (hP : PSt a e T k 0 o L I) (hX : TXs G I) (hs : 0 ≤ s) (hl : (L.length : Int) + s ≤ k)
  (h : ∀ I1, FPa a I I1 → PO a e T o L s (evrS T e F k) I1 → Q 0 G I1) : mu_WP mu_code d 155 0 [(1, 115)] [] G I Q := by
  have hk := hP.2.2.2.2
  refine vc_155_0 (by omega) _ ⟨hM.1, hF (d + 1) k s L I _ (by omega) hP hX hs hl ?_⟩
  intro I1 f1 p1
  unfold evrS at h
  have hb := hB k hk.1 hk.2.1
  by_cases hg : (F k).1 = true
  · rw [if_pos hg] at h
    obtain ⟨L1, p1, p2, p3⟩ := p1
    rw [if_pos hg] at p1
    have p3 := p3 hg
    subst p3
    obtain ⟨g1, g2, g3⟩ := hb.2 hg
    suffices H : ∀ (n : Nat) (k : Int) (cs : List Int) (I2 : mu_M), e - k ≤ n → FPa a I I2 → TXs G I2 → PSt a e T k 0 o (L ++ cs) I2 → ((L ++ cs).length : Int) + s ≤ k → (∀ I1, FPa a I I1 → PO a e T o L s (evL T e F n k cs) I1 → Q 0 G I1) → mu_WP mu_code d 155 4 [(1, 115)] [] G I2 Q from
      H 100 _ _ I1 (by omega) f1 (hX.fp f1) p1 p2 h
    intro n
    induction n with
    | zero =>
      intro k cs I2 hn hf hx hp hl hq
      refine vc_155_4 (by omega) _ ⟨hM.1, fun _ => r_here (by omega) hM hp ⟨fun h2 => ?_, fun _ => ?_⟩, fun h2 => absurd hp.1.2.2.2.1 h2⟩
      · have := sg_e h2 (by omega)
        omega
      · exact hq I2 hf ⟨L ++ cs, hp, hl, fun _ => rfl⟩
    | succ n ih =>
      intro k cs I2 hn hf hx hp hl hq
      rw [evL] at hq
      have hk2 := hp.2.2.2.2
      refine vc_155_4 (by omega) _ ⟨hM.1, fun _ => r_here (by omega) hM hp ⟨fun h2 => ⟨hM.1, ?_⟩, fun h2 => ?_⟩, fun h2 => absurd hp.1.2.2.2.1 h2⟩
      · intro I3 q3
        have hlt := sg_e h2 (by omega)
        rw [if_pos h2] at hq
        rw [hp.1.2.1, wr_id (x := k + 1) (by omega) (by omega)] at q3
        have p3 : PSt a e T (k + 1) 0 o (L ++ cs) I3 := by rw [q3]; exact hp.place (by omega)
        have f3 : FPa a I2 I3 := q3 ▸ FPa.w I2 (by simp)
        refine hF (d + 1) (k + 1) (s + 1) (L ++ cs) I3 _ (by omega) p3 (hx.fp f3) (by omega) (by omega) ?_
        intro I4 f4 p4
        obtain ⟨L4, p4, p5, p6⟩ := p4
        have hb2 := hB (k + 1) (by omega) (by omega)
        by_cases hg2 : (F (k + 1)).1 = true
        · rw [if_pos hg2] at hq p4
          have p6 := p6 hg2
          subst p6
          have p4k := p4.2.2.2.2
          obtain ⟨b1, b2, b3⟩ := hb2.2 hg2
          refine ⟨hM.1, r_emits (by omega) hM p4 (by omega) (-2) ?_⟩
          intro I5 f5 p7
          rw [List.append_assoc, List.append_assoc] at p7
          refine ih _ _ I5 (by omega) ((hf.tr f3).tr (f4.tr f5)) (hx.fp (f3.tr (f4.tr f5))) (by simpa using p7) ?_ hq
          simp only [List.length_append, List.length_cons, List.length_nil] at p5 ⊢
          omega
        · rw [if_neg hg2] at hq p4
          refine ⟨hM.1, r_emits1 (by omega) hM p4 _ ?_⟩
          exact vc_155_4 (by omega) _ ⟨hM.1, fun h5 => absurd h5 (by rw [p4.1.2.2.2.1]; omega), fun _ => hq I4 ((hf.tr f3).tr f4) ⟨L4, p4, by dsimp only; omega, fun hc => by cases hc⟩⟩
      · rw [if_neg h2] at hq
        exact hq I2 hf ⟨L ++ cs, hp, hl, fun _ => rfl⟩
  · rw [if_neg hg] at h
    obtain ⟨L1, p1, p2, p3⟩ := p1
    rw [if_neg hg] at p1
    exact vc_155_4 (by omega) _ ⟨hM.1, fun h5 => absurd h5 (by rw [p1.1.2.2.2.1]; omega), fun _ => h I1 f1 ⟨L1, p1, p2, fun hc => by cases hc⟩⟩
theorem r_some {D dd : Nat} {F : Int → PRs} (hM : MR G) (hdd : 0 < dd) (hF : HF G a e T o D F) (hB : ∀ k, 0 ≤ k → k ≤ e → RB e k dd (F k)) {s : Int} (hd : d + 2 + D < 950) (hP : PSt a e T k 0 o L I) (hX : TXs G I) (hs : 0 ≤ s) (hl : (L.length : Int) + s ≤ k)
  (h : ∀ I1, FPa a I I1 → PO a e T o L s (somS T e F k) I1 → Q 0 G I1) : mu_WP mu_code d 154 0 [(1, 115)] [] G I Q := by
  have hk := hP.2.2.2.2
  have hE : ∀ k, 0 ≤ k → k ≤ e → RB e k (dd + 1) (evrS T e F k) := fun k h0 hk => evrS_bd hdd hB h0 hk
  refine vc_154_0 (by omega) _ ⟨hM.1, r_every hM hdd hF hB (by omega) hP hX hs hl ?_⟩
  intro I1 f1 p1
  unfold somS at h
  have hb := hE k hk.1 hk.2.1
  by_cases hg : (evrS T e F k).1 = true
  · rw [if_pos hg] at h
    obtain ⟨L1, p1, p2, p3⟩ := p1
    rw [if_pos hg] at p1
    have p3 := p3 hg
    subst p3
    obtain ⟨g1, g2, g3⟩ := hb.2 hg
    suffices H : ∀ (n : Nat) (k : Int) (cs : List Int) (I2 : mu_M), e - k ≤ n → FPa a I I2 → TXs G I2 → PSt a e T k 0 o (L ++ cs) I2 → ((L ++ cs).length : Int) + s ≤ k → (∀ I1, FPa a I I1 → PO a e T o L s (soL T e F n k cs) I1 → Q 0 G I1) → mu_WP mu_code d 154 4 [(1, 115)] [] G I2 Q from
      H 100 _ _ I1 (by omega) f1 (hX.fp f1) p1 p2 h
    intro n
    induction n with
    | zero =>
      intro k cs I2 hn hf hx hp hl hq
      refine vc_154_4 (by omega) _ ⟨hM.1, fun _ => r_here (by omega) hM hp ⟨fun h2 => ?_, fun _ => ?_⟩, fun h2 => absurd hp.1.2.2.2.1 h2⟩
      · have := sg_e h2 (by omega)
        omega
      · exact hq I2 hf ⟨L ++ cs, hp, hl, fun _ => rfl⟩
    | succ n ih =>
      intro k cs I2 hn hf hx hp hl hq
      rw [soL] at hq
      have hk2 := hp.2.2.2.2
      refine vc_154_4 (by omega) _ ⟨hM.1, fun _ => r_here (by omega) hM hp ⟨fun h2 => ⟨hM.1, ?_⟩, fun h2 => ?_⟩, fun h2 => absurd hp.1.2.2.2.1 h2⟩
      · intro I3 q3
        have hlt := sg_e h2 (by omega)
        rw [if_pos h2] at hq
        rw [hp.1.2.1, wr_id (x := k + 1) (by omega) (by omega)] at q3
        have p3 : PSt a e T (k + 1) 0 o (L ++ cs) I3 := by rw [q3]; exact hp.place (by omega)
        have f3 : FPa a I2 I3 := q3 ▸ FPa.w I2 (by simp)
        refine r_every hM hdd hF hB (s := s + 1) (by omega) p3 (hx.fp f3) (by omega) (by omega) ?_
        intro I4 f4 p4
        obtain ⟨L4, p4, p5, p6⟩ := p4
        have hb2 := hE (k + 1) (by omega) (by omega)
        by_cases hg2 : (evrS T e F (k + 1)).1 = true
        · rw [if_pos hg2] at hq p4
          have p6 := p6 hg2
          subst p6
          have p4k := p4.2.2.2.2
          obtain ⟨b1, b2, b3⟩ := hb2.2 hg2
          refine ⟨hM.1, r_emits (by omega) hM p4 (by omega) (-3) ?_⟩
          intro I5 f5 p7
          rw [List.append_assoc, List.append_assoc] at p7
          refine ih _ _ I5 (by omega) ((hf.tr f3).tr (f4.tr f5)) (hx.fp (f3.tr (f4.tr f5))) (by simpa using p7) ?_ hq
          simp only [List.length_append, List.length_cons, List.length_nil] at p5 ⊢
          omega
        · rw [if_neg hg2] at hq p4
          refine ⟨hM.1, r_emits1 (by omega) hM p4 _ ?_⟩
          exact vc_154_4 (by omega) _ ⟨hM.1, fun h5 => absurd h5 (by rw [p4.1.2.2.2.1]; omega), fun _ => hq I4 ((hf.tr f3).tr f4) ⟨L4, p4, by dsimp only; omega, fun hc => by cases hc⟩⟩
      · rw [if_neg h2] at hq
        exact hq I2 hf ⟨L ++ cs, hp, hl, fun _ => rfl⟩
  · rw [if_neg hg] at h
    obtain ⟨L1, p1, p2, p3⟩ := p1
    rw [if_neg hg] at p1
    exact vc_154_4 (by omega) _ ⟨hM.1, fun h5 => absurd h5 (by rw [p1.1.2.2.2.1]; omega), fun _ => h I1 f1 ⟨L1, p1, p2, fun hc => by cases hc⟩⟩
/-- a test -/
theorem r_test (hM : MR G) {s : Int} (hd : d < 950) (hP : PSt a e T k 0 o L I) (hX : TXs G I) (hs : 0 ≤ s) (hl : (L.length : Int) + s ≤ k) (hn : ¬ (sgn8 T e k = 33 ∨ sgn8 T e k = 40))
  (h : ∀ I1, FPa a I I1 → PO a e T o L s (tesS T e k) I1 → Q 0 G I1) : mu_WP mu_code d 156 0 [(1, 115), (3, 0), (3, 0), (3, 0), (3, 0)] [] G I Q := by
  have hk := hP.2.2.2.2
  have l1 : ((mu_str 1).length : Int) = 6 := rfl
  have l2 : ((mu_str 2).length : Int) = 3 := rfl
  have a1 := ixL_bd (sgn8 T e k) (mu_str 1) 0 (by omega)
  rw [l1] at a1
  unfold tesS at h
  -- a number and its code, from 169
  have end1 : ∀ (k1 w1 g1 x s1 : Int) (v1 v4 : mu_V) (I2 : mu_M), FPa a I I2 → PSt a e T k1 1 o L I2 → k ≤ k1 → (∀ I1, FPa a I I1 → PO a e T o L s (false, k1, []) I1 → Q 0 G I1) → mu_WP mu_code d 156 169 [(1, 115), v1, (0, w1), (0, g1), v4] [(0, 1), (1, 115)] G I2 Q := by
    intro k1 w1 g1 x s1 v1 v4 I2 hf hp hk1 hq
    refine vc_156_169 (by omega) _ _ _ _ _ _ _ ⟨⟨hM.1, Or.inr rfl⟩, fun I3 q3 => ⟨hM.1, ?_⟩⟩
    rw [set_same hp.1.2.2.2.1] at q3
    subst q3
    refine r_figures1 (by omega) hM hp ⟨hM.1, r_emits1 (by omega) hM hp _ ?_⟩
    exact hq I3 hf ⟨L, hp, by dsimp only; omega, fun hc => by cases hc⟩
  refine vc_156_0 (by omega) _ ⟨hM.1, fun _ => r_here (by omega) hM hP ⟨fun h2 => absurd (Or.inl h2) hn, fun _ => ⟨fun h2 => absurd (Or.inr h2) hn, fun _ => ⟨hM.1, r_among (by omega) hM hX 1 (by omega) hP ?_⟩⟩⟩, fun h2 => absurd hP.1.2.2.2.1 h2⟩
  intro I2 f2 p2
  by_cases h1 : ixL (sgn8 T e k) (mu_str 1) 0 = -1
  · rw [if_pos h1] at h p2
    refine ⟨fun _ => ?_, fun hc => absurd h1 hc⟩
    rw [h1]
    refine vc_156_130 (by omega) _ _ _ _ _ _ _ ⟨⟨hM.1, Or.inr rfl⟩, fun I3 q3 => ⟨hM.1, ?_⟩⟩
    have p3 : PSt a e T k 1 o L I3 := by rw [q3]; exact p2.wrong
    have f3 : FPa a I I3 := f2.tr (q3 ▸ FPa.w I2 (by simp))
    refine ⟨fun hc => absurd hc (by rw [p3.1.2.2.2.1]; omega), fun _ => ?_⟩
    refine vc_156_150 (by omega) _ _ _ _ _ _ ⟨hM.1, fun hc => absurd hc (by rw [p3.1.2.2.2.1]; omega), fun _ => vc_156_164 (by omega) _ _ _ _ _ _ ?_⟩
    exact end1 k _ _ 0 0 _ _ I3 f3 p3 (by omega) h
  rw [if_neg h1] at h p2
  have hk2 := p2.2.2.2.2
  have hc1 : 0 ≤ ixL (sgn8 T e k) (mu_str 1) 0 := by omega
  refine ⟨fun hc => absurd hc h1, fun _ => ?_⟩
  refine vc_156_130 (by omega) _ _ _ _ _ _ _ ⟨⟨hM.1, Or.inl rfl⟩, fun I3 q3 => ⟨hM.1, ?_⟩⟩
  rw [set_same p2.1.2.2.2.1] at q3
  subst q3
  refine ⟨fun _ => r_among (by omega) hM (hX.fp f2) 2 (by omega) p2 ?_, fun hc => absurd p2.1.2.2.2.1 hc⟩
  intro I4 f4 p4
  have a2 := ixL_bd (sgn8 T e (k + 1)) (mu_str 2) 0 (by omega)
  rw [l2] at a2
  by_cases h3 : ixL (sgn8 T e (k + 1)) (mu_str 2) 0 = -1
  · rw [if_pos h3] at h p4
    refine vc_156_150 (by omega) _ _ _ _ _ _ ⟨hM.1, fun _ => ⟨fun _ => vc_156_164 (by omega) _ _ _ _ _ _ ?_, fun hc => absurd h3 hc⟩, fun hc => absurd p4.1.2.2.2.1 hc⟩
    refine vc_156_169 (by omega) _ _ _ _ _ _ _ ⟨⟨hM.1, Or.inr rfl⟩, fun I5 q5 => ⟨hM.1, ?_⟩⟩
    have p5 : PSt a e T (k + 1) 1 o L I5 := by rw [q5]; exact p4.wrong
    have f5 : FPa a I I5 := (f2.tr f4).tr (q5 ▸ FPa.w I4 (by simp))
    refine r_figures1 (by omega) hM p5 ⟨hM.1, r_emits1 (by omega) hM p5 _ ?_⟩
    exact h I5 f5 ⟨L, p5, by dsimp only; omega, fun hc => by cases hc⟩
  rw [if_neg h3] at h p4
  refine vc_156_150 (by omega) _ _ _ _ _ _ ⟨hM.1, fun _ => ⟨fun hc => absurd hc h3, fun _ => ?_⟩, fun hc => absurd p4.1.2.2.2.1 hc⟩
  refine vc_156_169 (by omega) _ _ _ _ _ _ _ ⟨⟨hM.1, Or.inl rfl⟩, fun I5 q5 => ⟨hM.1, ?_⟩⟩
  rw [set_same p4.1.2.2.2.1] at q5
  subst q5
  rw [show k + 1 + 1 = k + 2 by omega] at p4
  have hk4 := p4.2.2.2.2
  have nb := numS_bd (T := T) (e := e) (k := k + 2) (by omega)
  refine r_figures (by omega) hM p4 ?_
  intro I6 f6 p6
  generalize hw : ixL (sgn8 T e k) (mu_str 1) 0 = w at *
  generalize hg : ixL (sgn8 T e (k + 1)) (mu_str 2) 0 = g at *
  generalize hv : (numS T e (k + 2)).2.2 = v at *
  have e1 : wr (wr (w + wr (8 * g)) + wr (32 * v)) = w + 8 * g + 32 * v := by
    rw [wr_id (x := 8 * g) (by omega) (by omega), wr_id (x := 32 * v) (by omega) (by omega), wr_id (x := w + 8 * g) (by omega) (by omega), wr_id (by omega) (by omega)]
  rw [e1]
  by_cases hn1 : (numS T e (k + 2)).1 = true
  · rw [if_pos hn1] at h p6
    refine ⟨hM.1, r_emits (by omega) hM p6 (by omega) _ ?_⟩
    intro I7 f7 p7
    refine h I7 ((f2.tr f4).tr (f6.tr f7)) ⟨_, p7, ?_, fun _ => rfl⟩
    simp only [List.length_append, List.length_cons, List.length_nil]
    omega
  · rw [if_neg hn1] at h p6
    refine ⟨hM.1, r_emits1 (by omega) hM p6 _ ?_⟩
    exact h I6 ((f2.tr f4).tr f6) ⟨L, p6, by dsimp only; omega, fun hc => by cases hc⟩
theorem r_factor (hM : MR G) : ∀ r : Nat, r ≤ 5 → HF G a e T (5 - (r : Int)) (3 * r + 5) (facS T e r) := by
  intro r
  induction r with
  | zero =>
    intro hr d k s L I Q hd hP hX hs hl h
    have hk := hP.2.2.2.2
    rw [facS] at h
    by_cases hn : sgn8 T e k = 33 ∨ sgn8 T e k = 40
    · rw [if_pos hn] at h
      have open5 : ∀ x1, x1 = 33 ∨ x1 = 40 → mu_WP mu_code d 156 25 [(1, 115), (0, x1), (3, 0), (3, 0), (3, 0)] [] G I Q := by
        intro x1 hx1
        have h9 : I 115 9 = 5 := by have := hP.1.2.2.2.2; simpa using this
        refine vc_156_25 (by omega) _ _ _ _ _ ⟨hM.1, fun _ => ?_, fun hc => absurd h9 hc⟩
        refine vc_156_39 (by omega) _ _ _ _ _ _ _ ⟨⟨hM.1, Or.inr rfl⟩, fun I1 q1 => ⟨hM.1, fun I5 q5 => ?_⟩⟩
        have p1 : PSt a e T k 1 5 L I1 := by rw [q1]; have := hP.wrong (x := 1); simpa using this
        have p5 : PSt a e T k 1 6 L I5 := by rw [q5, p1.1.2.2.2.2]; exact p1.opens
        have f5 : FPa a I I5 := (q1 ▸ FPa.w I (by simp)).tr (q5 ▸ FPa.w I1 (by simp))
        rw [p5.1.2.2.2.1, p5.1.2.1]
        refine ⟨fun hc => absurd hc (by omega), fun _ => ?_⟩
        refine vc_156_69 (by omega) _ _ _ _ _ _ _ _ ⟨hM.1, fun I6 q6 => ?_⟩
        rw [Int.add_zero, wr_id (x := k) (by omega) (by omega), set_same p5.1.2.1] at q6
        subst q6
        have fin : mu_WP mu_code d 156 101 [(1, 115), (0, x1), (3, 0), (3, 0), (3, 0)] [] G I6 Q := by
          refine vc_156_101 (by omega) _ _ _ _ _ ⟨hM.1, fun I7 q7 => ?_⟩
          have p7 : PSt a e T k 1 5 L I7 := by rw [q7, p5.1.2.2.2.2]; exact p5.opens
          exact h I7 (f5.tr (q7 ▸ FPa.w I6 (by simp))) ⟨L, by simpa using p7, by dsimp only; omega, fun hc => by cases hc⟩
        refine ⟨fun _ => ⟨hM.1, r_factor1 (by omega) hM p5 ⟨hM.1, r_emits1 (by omega) hM p5 _ fin⟩⟩, fun _ => ⟨hM.1, r_some1 (by omega) hM p5 ⟨hM.1, r_must1 (by omega) hM p5 _ fin⟩⟩⟩
      refine vc_156_0 (by omega) _ ⟨hM.1, fun _ => r_here (by omega) hM hP ⟨fun h2 => ?_, fun h2 => ⟨fun h3 => ?_, fun h3 => absurd hn (by omega)⟩⟩, fun h2 => absurd hP.1.2.2.2.1 h2⟩
      · exact open5 _ (Or.inl h2)
      · exact open5 _ (Or.inr h3)
    · rw [if_neg hn] at h
      exact r_test hM (by omega) hP hX hs hl hn h
  | succ r ih =>
    intro hr d k s L I Q hd hP hX hs hl h
    have ih := ih (by omega)
    have hk := hP.2.2.2.2
    have hB : ∀ k, 0 ≤ k → k ≤ e → RB e k (2 * r + 1) (facS T e r k) := fun k h0 hk => facS_bd r k h0 hk
    rw [facS] at h
    by_cases hn : sgn8 T e k = 33 ∨ sgn8 T e k = 40
    · have hlt : k < e := by
        rcases hn with hn | hn
        · exact sg_e hn (by omega)
        · exact sg_e hn (by omega)
      have h9 : I 115 9 = 4 - (r : Int) := by rw [hP.1.2.2.2.2]; omega
      have go : ∀ x1, x1 = sgn8 T e k → mu_WP mu_code d 156 25 [(1, 115), (0, x1), (3, 0), (3, 0), (3, 0)] [] G I Q := by
        intro x1 hx1
        refine vc_156_25 (by omega) _ _ _ _ _ ⟨hM.1, fun hc => absurd hc (by omega), fun _ => ?_⟩
        refine vc_156_39 (by omega) _ _ _ _ _ _ _ ⟨⟨hM.1, Or.inl rfl⟩, fun I1 q1 => ⟨hM.1, fun I5 q5 => ?_⟩⟩
        rw [set_same hP.1.2.2.2.1] at q1
        subst q1
        have p5 : PSt a e T k 0 (5 - (r : Int)) L I5 := by rw [q5, h9, wr_id (by omega) (by omega), show 4 - (r : Int) + 1 = 5 - r by omega]; exact hP.opens
        have f5 : FPa a I1 I5 := q5 ▸ FPa.w I1 (by simp)
        rw [p5.1.2.2.2.1, p5.1.2.1]
        refine ⟨fun _ => ?_, fun hc => absurd rfl hc⟩
        refine vc_156_69 (by omega) _ _ _ _ _ _ _ _ ⟨hM.1, fun I6 q6 => ?_⟩
        rw [wr_id (x := k + 1) (by omega) (by omega)] at q6
        have p6 : PSt a e T (k + 1) 0 (5 - (r : Int)) L I6 := by rw [q6]; exact p5.place (by omega)
        have f6 : FPa a I1 I6 := f5.tr (q6 ▸ FPa.w I5 (by simp))
        have fin : ∀ (x : PRs) (w : Int) (L' : List Int) (I7 : mu_M), FPa a I1 I7 → PSt a e T x.2.1 w (5 - (r : Int)) L' I7 → w = (if x.1 = true then 0 else 1) → (L'.length : Int) + s ≤ x.2.1 → (x.1 = true → L' = L ++ x.2.2) → (∀ I1', FPa a I1 I1' → PO a e T (5 - ((r + 1 : Nat) : Int)) L s x I1' → Q 0 G I1') → mu_WP mu_code d 156 101 [(1, 115), (0, x1), (3, 0), (3, 0), (3, 0)] [] G I7 Q := by
          intro x w L' I7 f7 p7 hw hl7 hx hq
          refine vc_156_101 (by omega) _ _ _ _ _ ⟨hM.1, fun I8 q8 => ?_⟩
          rw [p7.1.2.2.2.2, wr_id (x := 5 - (r : Int) - 1) (by omega) (by omega)] at q8
          have p8 : PSt a e T x.2.1 w (5 - ((r + 1 : Nat) : Int)) L' I8 := by rw [q8, show 5 - ((r + 1 : Nat) : Int) = 5 - (r : Int) - 1 by omega]; exact p7.opens
          rw [hw] at p8
          exact hq I8 (f7.tr (q8 ▸ FPa.w I7 (by simp))) ⟨L', p8, hl7, hx⟩
        have hx6 : TXs G I6 := hX.fp f6
        refine ⟨fun h33 => ⟨hM.1, ?_⟩, fun h33 => ⟨hM.1, ?_⟩⟩
        · rw [if_pos (hx1 ▸ h33)] at h
          refine ih (d + 1) (k + 1) (s + 1) L I6 _ (by omega) p6 hx6 (by omega) (by omega) ?_
          intro I7 f7 p7
          obtain ⟨L', p7, p8, p9⟩ := p7
          unfold neg at h
          by_cases hg : (facS T e r (k + 1)).1 = true
          · rw [if_pos hg] at h p7
            have p9 := p9 hg
            have hk7 := p7.2.2.2.2
            refine ⟨hM.1, r_emits (by omega) hM p7 (by omega) (-1) ?_⟩
            intro I8 f8 p10
            refine fin (true, (facS T e r (k + 1)).2.1, (facS T e r (k + 1)).2.2 ++ [-1]) 0 _ I8 (f6.tr (f7.tr f8)) p10 (by simp) ?_ (fun _ => by rw [p9]; simp) h
            simp only [List.length_append, List.length_cons, List.length_nil]
            omega
          · rw [if_neg hg] at h p7
            refine ⟨hM.1, r_emits1 (by omega) hM p7 _ ?_⟩
            exact fin (facS T e r (k + 1)) 1 L' I7 (f6.tr f7) p7 (by rw [if_neg hg]) (by omega) (fun hc => absurd hc hg) h
        · have h40 : sgn8 T e k = 40 := by omega
          rw [if_neg (by omega), if_pos h40] at h
          refine r_some hM (by omega) ih hB (s := s + 1) (by omega) p6 hx6 (by omega) (by omega) ?_
          intro I7 f7 p7
          obtain ⟨L', p7, p8, p9⟩ := p7
          unfold clo at h
          by_cases hg : (somS T e (facS T e r) (k + 1)).1 = true
          · rw [if_pos hg] at h p7
            have p9 := p9 hg
            have hk7 := p7.2.2.2.2
            refine ⟨hM.1, r_must (by omega) hM p7 41 (by omega) ?_⟩
            intro I8 f8 p10
            by_cases hc : sgn8 T e (somS T e (facS T e r) (k + 1)).2.1 = 41
            · rw [if_pos hc] at h p10
              exact fin (true, (somS T e (facS T e r) (k + 1)).2.1 + 1, (somS T e (facS T e r) (k + 1)).2.2) 0 L' I8 (f6.tr (f7.tr f8)) p10 (by simp) (by dsimp only; omega) (fun _ => p9) h
            · rw [if_neg hc] at h p10
              exact fin (false, (somS T e (facS T e r) (k + 1)).2.1, []) 1 L' I8 (f6.tr (f7.tr f8)) p10 (by simp) (by dsimp only; omega) (fun hc => by cases hc) h
          · rw [if_neg hg] at h p7
            refine ⟨hM.1, r_must1 (by omega) hM p7 _ ?_⟩
            exact fin (somS T e (facS T e r) (k + 1)) 1 L' I7 (f6.tr f7) p7 (by rw [if_neg hg]) (by omega) (fun hc => absurd hc hg) h
      refine vc_156_0 (by omega) _ ⟨hM.1, fun _ => r_here (by omega) hM hP ⟨fun h2 => go _ rfl, fun h2 => ⟨fun h3 => go _ rfl, fun h3 => absurd hn (by omega)⟩⟩, fun h2 => absurd hP.1.2.2.2.1 h2⟩
    · rw [if_neg (by omega), if_neg (by omega)] at h
      exact r_test (d := d) hM (by omega) hP hX hs hl hn h
end

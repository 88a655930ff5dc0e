/-! THE REFERENCE READS A LAW: clauses, all of it -/
theorem txtC_add : ∀ (cs : List Cla) (c : Cla), txtC (cs ++ [c]) = txtC cs ++ txt1 c
  | [], c => by simp [txtC]
  | x :: cs, c => by simp [txtC, txtC_add cs c]
theorem comC_add : ∀ (cs : List Cla) (x : Int) (c : Cla), comC x (cs ++ [c]) = if c.1 = 2 then c.2.1 else comC x cs
  | [], x, c => rfl
  | y :: cs, x, c => by rw [List.cons_append, comC, comC_add cs, comC]
theorem spS_bd {T : Row} {e : Int} : ∀ (r : List Int) (k : Int), (∀ c ∈ r, 0 ≤ c) → k ≤ e → k ≤ (spS T e r k).2 ∧ (spS T e r k).2 ≤ e ∧ ((spS T e r k).1 = true → (spS T e r k).2 = k + r.length)
  | [], k, _, hk => ⟨by simp [spS], by simpa [spS] using hk, fun _ => by simp [spS]⟩
  | c :: r, k, hc, hk => by
    rw [spS]
    by_cases hs : sgn8 T e k = c
    · rw [if_pos hs]
      have hlt := sg_e hs (hc c (by simp))
      obtain ⟨a1, a2, a3⟩ := spS_bd (T := T) (e := e) r (k + 1) (fun x hx => hc x (by simp [hx])) (by omega)
      exact ⟨by omega, a2, fun h => by rw [a3 h]; simp only [List.length_cons]; omega⟩
    · rw [if_neg hs]
      exact ⟨by dsimp only; omega, hk, fun h => by cases h⟩
theorem str_ok : ∀ i : Fin 5, (∀ c ∈ mu_str i.val, 0 ≤ c) := by decide
section
variable {d : Nat} {G : mu_G} {I : mu_M} {Q : Int → mu_G → mu_M → Prop} {a e : Int} {T : Row} {k w o : Int} {L : List Int}
/-- what a clause leaves -/
def PC (a e : Int) (T : Row) (L : List Int) (m : Int) (s : Int) (x : Bool × Int × Cla) (I1 : mu_M) : Prop := ∃ L' : List Int, PSt a e T x.2.1 (if x.1 = true then 0 else 1) 0 L' I1 ∧ (L'.length : Int) + s ≤ x.2.1 ∧ (x.1 = true → L' = L ++ txt1 x.2.2) ∧ I1 116 (267 + a) = (if x.1 = true ∧ x.2.2.1 = 2 then x.2.2.2.1 else m)
/-- the same, and what comes -/
def FPc (a : Int) (I I1 : mu_M) : Prop := (∀ b, b ≠ 115 → b ≠ 116 → I1 b = I b) ∧ (∀ j, j ≠ 6 → j ≠ 8 → j ≠ 9 → I1 115 j = I 115 j) ∧ ∀ j, j ≠ 267 + a → j ≠ 272 + a → (j < 277 + 140 * a ∨ 277 + 140 * a + 140 ≤ j) → I1 116 j = I 116 j
theorem FPa.c {a : Int} {I I1 : mu_M} (h : FPa a I I1) : FPc a I I1 := ⟨h.1, h.2.1, fun j _ h2 h3 => h.2.2 j h2 h3⟩
theorem FPc.tr {a : Int} {I I1 I2 : mu_M} (h : FPc a I I1) (h2 : FPc a I1 I2) : FPc a I I2 := ⟨fun b h3 h4 => by rw [h2.1 b h3 h4, h.1 b h3 h4], fun j h3 h4 h5 => by rw [h2.2.1 j h3 h4 h5, h.2.1 j h3 h4 h5], fun j h3 h4 h5 => by rw [h2.2.2 j h3 h4 h5, h.2.2 j h3 h4 h5]⟩
theorem FPa.come {a : Int} {I I1 : mu_M} (h : FPa a I I1) (ha : 0 ≤ a ∧ a ≤ 4) : I1 116 (267 + a) = I 116 (267 + a) := h.2.2 _ (by omega) (by omega)
theorem r_ex (hM : MR G) {s : Int} (hd : d < 900) (hP : PSt a e T k 0 0 L I) (hX : TXs G I) (hs : 0 ≤ s) (hl : (L.length : Int) + s ≤ k)
  (h : ∀ I1, FPa a I I1 → PO a e T 0 L s (exS T e k) I1 → Q 0 G I1) : mu_WP mu_code d 154 0 [(1, 115)] [] G I Q :=
  r_some hM (dd := 11) (D := 20) (by omega) (by have := r_factor (a := a) (e := e) (T := T) hM 5 (by omega); simpa using this) (fun k h0 hk => facS_bd 5 k h0 hk) (by omega) hP hX hs hl h
theorem r_clause (hM : MR G) {s m : Int} (hd : d < 890) (hP : PSt a e T k 0 0 L I) (hX : TXs G I) (hs : 0 ≤ s) (hl : (L.length : Int) + s ≤ k) (hm : I 116 (267 + a) = m)
  (h : ∀ I1, FPc a I I1 → PC a e T L m s (claS T e k) I1 → Q 0 G I1) : mu_WP mu_code d 149 0 [(1, 115), (3, 0), (3, 0)] [] G I Q := by
  have hk := hP.2.2.2.2
  have ha := hP.2.2.2.1
  unfold claS at h
  -- words
  have sp : ∀ i : Nat, i < 5 → (mu_str i).length = 5 → ∀ I1, FPa a I I1 → PSt a e T (spS T e (mu_str i) k).2 (if (spS T e (mu_str i) k).1 = true then 0 else 1) 0 L I1 → (k ≤ (spS T e (mu_str i) k).2 ∧ (spS T e (mu_str i) k).2 ≤ e ∧ ((spS T e (mu_str i) k).1 = true → (spS T e (mu_str i) k).2 = k + 5)) := by
    intro i hi hl5 I1 f1 p1
    have := spS_bd (T := T) (e := e) (mu_str i) k (str_ok ⟨i, hi⟩) hk.2.1
    rw [hl5] at this
    exact this
  -- what an E leaves, and its mark
  have ends : ∀ (dd : Nat) (k1 c w1 a1 : Int) (Q1 : Int → mu_G → mu_M → Prop) (I1 : mu_M), dd < 895 → FPa a I I1 → PSt a e T k1 0 0 L I1 → k + 1 ≤ k1 → txt1 (w1, a1, ((exS T e k1).2.2)) = (exS T e k1).2.2 ++ [c] → w1 ≠ 2 → (∀ I2, FPa a I I2 → PC a e T L m s (cla2 T e a1 w1 (exS T e k1)) I2 → Q1 0 G I2) → mu_WP mu_code dd 154 0 [(1, 115)] [] G I1 (fun _ G2 I2 => sh G2 115 = (12, 0) ∧ mu_WP mu_code dd 157 0 [(1, 115), (0, c)] [] G2 I2 (fun _ G3 I3 => Q1 0 G3 I3)) := by
    intro dd k1 c w1 a1 Q1 I1 hdd f1 p1 hk1 ht hw hq
    refine r_ex hM (s := s + 1) (by omega) p1 (hX.fp f1) (by omega) (by omega) ?_
    intro I2 f2 p2
    obtain ⟨L2, p2, p3, p4⟩ := p2
    have hk2 := p2.2.2.2.2
    unfold cla2 at hq
    by_cases hg : (exS T e k1).1 = true
    · rw [if_pos hg] at p2
      have p4 := p4 hg
      refine ⟨hM.1, r_emits (by omega) hM p2 (by omega) c ?_⟩
      intro I3 f3 p5
      have f13 : FPa a I I3 := (f1.tr f2).tr f3
      refine hq I3 f13 ⟨_, by dsimp only; rw [if_pos hg]; exact p5, ?_, fun _ => ?_, ?_⟩
      · simp only [List.length_append, List.length_cons, List.length_nil]
        omega
      · dsimp only
        rw [p4, ht, List.append_assoc]
      · rw [f13.come ha, hm, if_neg (fun hc => hw hc.2)]
    · rw [if_neg hg] at p2
      refine ⟨hM.1, r_emits1 (by omega) hM p2 _ ?_⟩
      have f12 : FPa a I I2 := f1.tr f2
      refine hq I2 f12 ⟨L2, by dsimp only; rw [if_neg hg]; exact p2, by dsimp only; omega, fun hc => absurd hc hg, ?_⟩
      rw [f12.come ha, hm, if_neg (fun hc => hw hc.2)]
  have ends1 : ∀ (dd : Nat) (k1 c : Int) (x : Bool × Int × Cla) (Q1 : Int → mu_G → mu_M → Prop) (I1 : mu_M), dd < 895 → FPa a I I1 → PSt a e T k1 1 0 L I1 → k ≤ k1 → x.1 = false → x.2.1 = k1 → (∀ I2, FPa a I I2 → PC a e T L m s x I2 → Q1 0 G I2) → mu_WP mu_code dd 154 0 [(1, 115)] [] G I1 (fun _ G2 I2 => sh G2 115 = (12, 0) ∧ mu_WP mu_code dd 157 0 [(1, 115), (0, c)] [] G2 I2 (fun _ G3 I3 => Q1 0 G3 I3)) := by
    intro dd k1 c x Q1 I1 hdd f1 p1 hk1 hx hx2 hq
    refine r_some1 (by omega) hM p1 ⟨hM.1, r_emits1 (by omega) hM p1 _ ?_⟩
    refine hq I1 f1 ⟨L, by rw [hx, hx2]; exact p1, by omega, fun hc => absurd hc (by rw [hx]; decide), ?_⟩
    rw [f1.come ha, hm, if_neg (fun hc => absurd hc.1 (by rw [hx]; decide))]
  refine vc_149_0 (by omega) _ ⟨hM.1, r_here (by omega) hM hP ⟨fun h1 => ⟨hM.1, ?_⟩, fun h1 => ⟨fun h2 => ⟨hM.1, ?_⟩, fun h2 => ⟨fun h3 => ⟨hM.1, ?_⟩, fun h3 => ⟨hM.1, ?_⟩⟩⟩⟩⟩
  · -- come
    rw [if_pos h1] at h
    refine r_spells (by omega) hM hX 4 (by omega) hP ?_
    intro I1 f1 p1
    have b1 := sp 4 (by omega) rfl I1 f1 p1
    have e1 : wr (267 + a) = 267 + a := wr_id (by omega) (by omega)
    unfold cla1 at h
    by_cases hg : (spS T e (mu_str 4) k).1 = true
    · rw [if_pos hg] at p1 h
      have nb := numS_bd (T := T) (e := e) (k := (spS T e (mu_str 4) k).2) (by omega)
      refine ⟨hM.1, r_figures (by omega) hM p1 ?_⟩
      intro I2 f2 p2
      have f12 := f1.tr f2
      have hc2 : I2 116 (267 + a) = m := by rw [f12.come ha, hm]
      rw [p2.1.1, p2.1.2.2.2.1]
      simp only [hM, e1]
      have st : ∀ (v : Int) (w : Int) (I3 : mu_M), I3 = mu_set I2 116 (267 + a) v → PSt a e T (numS T e (spS T e (mu_str 4) k).2).2.1 w 0 L I2 → FPc a I I3 ∧ PSt a e T (numS T e (spS T e (mu_str 4) k).2).2.1 w 0 L I3 := by
        intro v w I3 q3 p2
        have o3 : I3 115 = I2 115 := by rw [q3, set_off _ (by decide)]
        refine ⟨⟨fun b hb hb2 => by rw [q3, set_off _ hb2]; exact f12.1 b hb hb2, fun j a1 a2 a3 => by rw [o3]; exact f12.2.1 j a1 a2 a3, fun j a1 a2 a3 => by rw [q3, set_row, upR_ne _ a1]; exact f12.2.2 j a2 a3⟩, by rw [o3]; exact p2.1, ⟨by rw [q3, set_row, upR_ne _ (by omega)]; exact p2.2.1.1, by rw [q3, set_row]; exact lst_lo p2.2.1.2 (by omega)⟩, fun j j0 j1 => by rw [q3, set_row, upR_ne _ (by omega)]; exact p2.2.2.1 j j0 j1, p2.2.2.2⟩
      by_cases hn : (numS T e (spS T e (mu_str 4) k).2).1 = true
      · rw [if_pos hn] at p2
        refine ⟨trivial, fun _ => ⟨by (try simp only [true_and]); omega, ?_⟩, fun hc => absurd (by rw [if_pos hn]) hc⟩
        intro I3 q3
        obtain ⟨g1, g2⟩ := st _ _ I3 q3 p2
        refine h I3 g1 ⟨L, by dsimp only; rw [if_pos hn]; exact g2, by dsimp only; omega, fun _ => by simp [txt1], ?_⟩
        rw [q3, set_row, upR_same, if_pos ⟨hn, rfl⟩]
      · rw [if_neg hn] at p2
        refine ⟨trivial, fun hc => absurd hc (by rw [if_neg hn]; decide), fun _ => ⟨by (try simp only [true_and]); omega, by (try simp only [true_and]); omega, ?_⟩⟩
        intro I3 q3
        obtain ⟨g1, g2⟩ := st _ _ I3 q3 p2
        refine h I3 g1 ⟨L, by dsimp only; rw [if_neg hn]; exact g2, by dsimp only; omega, fun hc => absurd hc hn, ?_⟩
        rw [q3, set_row, upR_same, if_neg (fun hc => hn hc.1), hc2]
    · rw [if_neg hg] at p1 h
      refine ⟨hM.1, r_figures1 (by omega) hM p1 ?_⟩
      have hc2 : I1 116 (267 + a) = m := by rw [f1.come ha, hm]
      rw [p1.1.1, p1.1.2.2.2.1]
      simp only [hM, e1]
      refine ⟨trivial, fun hc => absurd hc (by decide), fun _ => ⟨by (try simp only [true_and]); omega, by (try simp only [true_and]); omega, ?_⟩⟩
      intro I3 q3
      rw [set_same rfl] at q3
      subst q3
      exact h I3 f1.c ⟨L, p1, by dsimp only; omega, fun hc => absurd hc Bool.false_ne_true, by rw [hc2, if_neg (fun hc => absurd hc.1 Bool.false_ne_true)]⟩
  · -- earn
    rw [if_neg h1, if_pos h2] at h
    refine r_spells (by omega) hM hX 0 (by omega) hP ?_
    intro I1 f1 p1
    have b1 := sp 0 (by omega) rfl I1 f1 p1
    by_cases hg : (spS T e (mu_str 0) k).1 = true
    · rw [if_pos hg] at p1 h
      have nb := numS_bd (T := T) (e := e) (k := (spS T e (mu_str 0) k).2) (by omega)
      refine ⟨hM.1, r_figures (by omega) hM p1 ?_⟩
      intro I2 f2 p2
      unfold cla3 at h
      have b5 := b1.2.2 hg
      have ew : wr (-200 - (numS T e (spS T e (mu_str 0) k).2).2.2) = -200 - (numS T e (spS T e (mu_str 0) k).2).2.2 := wr_id (by omega) (by omega)
      rw [ew]
      by_cases hn : (numS T e (spS T e (mu_str 0) k).2).1 = true
      · rw [if_pos hn] at p2 h
        refine ⟨hM.1, r_must (by omega) hM p2 32 (by omega) ?_⟩
        intro I3 f3 p3
        by_cases hc : sgn8 T e (numS T e (spS T e (mu_str 0) k).2).2.1 = 32
        · rw [if_pos hc] at p3 h
          exact ⟨hM.1, ends _ _ _ 0 _ (fun _ G3 I3 => Q 0 G3 I3) I3 (by omega) ((f1.tr f2).tr f3) p3 (by omega) rfl (by decide) (fun I4 f4 p4 => h I4 f4.c p4)⟩
        · rw [if_neg hc] at p3 h
          exact ⟨hM.1, ends1 _ _ _ (false, (numS T e (spS T e (mu_str 0) k).2).2.1, (0, 0, [])) (fun _ G3 I3 => Q 0 G3 I3) I3 (by omega) ((f1.tr f2).tr f3) p3 (by omega) rfl rfl (fun I4 f4 p4 => h I4 f4.c p4)⟩
      · rw [if_neg hn] at p2 h
        refine ⟨hM.1, r_must1 (by omega) hM p2 _ ⟨hM.1, ?_⟩⟩
        exact ends1 _ _ _ (false, (numS T e (spS T e (mu_str 0) k).2).2.1, (0, 0, [])) (fun _ G3 I3 => Q 0 G3 I3) I2 (by omega) (f1.tr f2) p2 (by omega) rfl rfl (fun I4 f4 p4 => h I4 f4.c p4)
    · rw [if_neg hg] at p1 h
      refine ⟨hM.1, r_figures1 (by omega) hM p1 ⟨hM.1, r_must1 (by omega) hM p1 _ ⟨hM.1, ?_⟩⟩⟩
      exact ends1 _ _ _ (false, (spS T e (mu_str 0) k).2, (0, 0, [])) (fun _ G3 I3 => Q 0 G3 I3) I1 (by omega) f1 p1 (by omega) rfl rfl (fun I4 f4 p4 => h I4 f4.c p4)
  · -- rest
    rw [if_neg h1, if_neg h2, if_pos h3] at h
    refine r_spells (by omega) hM hX 3 (by omega) hP ?_
    intro I1 f1 p1
    have b1 := sp 3 (by omega) rfl I1 f1 p1
    by_cases hg : (spS T e (mu_str 3) k).1 = true
    · rw [if_pos hg] at p1 h
      have b5 := b1.2.2 hg
      exact ⟨hM.1, ends _ _ _ 1 0 (fun _ G3 I3 => Q 0 G3 I3) I1 (by omega) f1 p1 (by omega) rfl (by decide) (fun I4 f4 p4 => h I4 f4.c p4)⟩
    · rw [if_neg hg] at p1 h
      exact ⟨hM.1, ends1 _ _ _ (false, (spS T e (mu_str 3) k).2, (1, 0, [])) (fun _ G3 I3 => Q 0 G3 I3) I1 (by omega) f1 p1 (by omega) rfl rfl (fun I4 f4 p4 => h I4 f4.c p4)⟩
  · rw [if_neg h1, if_neg h2, if_neg h3] at h
    intro I1 q1
    have f1 : FPa a I I1 := q1 ▸ FPa.w I (by simp)
    have p1 : PSt a e T k 1 0 L I1 := by rw [q1]; exact hP.wrong
    exact h I1 f1.c ⟨L, p1, by dsimp only; omega, fun hc => absurd hc Bool.false_ne_true, by rw [f1.come ha, hm, if_neg (fun hc => absurd hc.1 Bool.false_ne_true)]⟩
end

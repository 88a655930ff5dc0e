/-! THE REFERENCE'S CALLS: rows, days, tracks, books, images -/
section
variable {d : Nat} {G : mu_G} {I : mu_M} {Q : Int → mu_G → mu_M → Prop}
theorem r_row (hd : d < 940) (hM : MR G) (p k w : Int) (hI : Inv (I 116)) (h : ∀ I1, FR I I1 → I1 116 = (rowS (I 116) p k w).2 → Q (rowS (I 116) p k w).1 G I1) : mu_WP mu_code d 177 0 [(1, 115), (0, p), (0, k), (0, w), (3, 0)] [] G I Q := by
  have h4 := hI.2.1
  unfold rowS at h
  refine vc_177_0 (by omega) _ _ _ _ ⟨hM.1, r_isPerson (by omega) hM p h4 ⟨fun h1 => ?_, fun h1 => r_in (by omega) _ _ _ ⟨fun h2 => ?_, fun h2 => r_in (by omega) _ _ _ ⟨fun h3 => ?_, fun h3 => ?_⟩⟩⟩⟩
  · rw [if_pos (by intro hc; exact ifn h1 hc.1)] at h
    exact h I (FR.rf I) rfl
  · rw [if_pos (by intro hc; exact ifm h2 hc.2)] at h
    exact h I (FR.rf I) rfl
  · rw [if_neg (by intro hc; exact hc ⟨ifp h1, ifq h2⟩), if_pos (ifm h3)] at h
    exact h I (FR.rf I) rfl
  have hp := ifp h1
  have hk := ifq h2
  have hw := ifq h3
  rw [if_neg (by intro hc; exact hc ⟨hp, hk⟩), if_neg (by intro hc; exact hc hw)] at h
  have e1 : wr (45 + p) = 45 + p := wr_id (by omega) (by omega)
  have e2 : wr (4 * p) = 4 * p := wr_id (by omega) (by omega)
  have e3 : wr (57 + 4 * p) = 57 + 4 * p := wr_id (by omega) (by omega)
  have e4 : wr (57 + 4 * p + k) = 57 + 4 * p + k := wr_id (by omega) (by omega)
  simp only [hM, e1, e2, e3, e4]
  refine ⟨trivial, by grind, fun h5 => ⟨by grind, by grind, ?_⟩, fun h5 => ?_⟩
  · intro I3 q3
    rw [if_neg (by omega)] at h
    exact h I3 (q3 ▸ FR.w I _ _) (by rw [q3, set_row])
  · rw [if_pos h5] at h
    exact h I (FR.rf I) rfl
theorem r_now (hd : d < 940) (hM : MR G) (h : Q (I 116 0) G I) : mu_WP mu_code d 178 0 [(1, 115)] [] G I Q := by
  refine vc_178_0 (by omega) _ ?_
  simp only [hM]
  exact ⟨trivial, by grind, h⟩
theorem r_day (hd : d < 940) (hM : MR G) (hW : WD (I 116) 1) (h : ∀ I1, FD I I1 → I1 116 = (dayA (I 116)).2 → Q (dayA (I 116)).1 G I1) : mu_WP mu_code d 179 0 [(1, 115)] [] G I Q := by
  unfold dayA at h
  refine vc_179_0 (by omega) _ ?_
  simp only [hM]
  refine ⟨trivial, by grind, fun h1 => ?_, fun h1 => ?_⟩
  · rw [if_pos h1] at h
    exact h I (FD.rf I) rfl
  · rw [if_neg h1] at h
    refine r_dayGoes (by omega) hM hW.1 hW.2.1 (by have := hW.2.2; omega) ?_
    intro I1 f1 r1
    simp only [hM, r1]
    exact ⟨trivial, by grind, h I1 f1 r1⟩
theorem r_track (hd : d < 940) (hM : MR G) (c : Int) (hI : Inv (I 116)) (hT : 0 ≤ I 116 39 ∧ I 116 39 ≤ 6) (h : ∀ I1, FR I I1 → I1 116 = (trackS (I 116) c).2 → Q (trackS (I 116) c).1 G I1) : mu_WP mu_code d 207 0 [(1, 115), (0, c)] [] G I Q := by
  unfold trackS at h
  refine vc_207_0 (by omega) _ _ ?_
  simp only [hM]
  refine ⟨fun h1 => ⟨trivial, by grind, ?_⟩, fun h1 => ⟨trivial, r_isCell (by omega) hM c hI.2.2.1 hI.2.2.2.1 ⟨fun h2 => ?_, fun h2 => ?_⟩⟩⟩
  · intro I3 q3
    rw [if_pos h1] at h
    exact h I3 (q3 ▸ FR.w I _ _) (by rw [q3, set_row])
  · rw [if_neg h1, if_pos (ifn h2)] at h
    exact h I (FR.rf I) rfl
  have hc := ifp h2
  rw [if_neg h1, if_neg (by intro hn; exact hn hc)] at h
  have e1 : wr (73 + I 116 39) = 73 + I 116 39 := wr_id (by omega) (by omega)
  simp only [hM, e1]
  refine ⟨trivial, by grind, fun h3 => ?_, fun h3 => ⟨by grind, ?_⟩⟩
  · rw [if_pos h3] at h
    exact h I (FR.rf I) rfl
  rw [if_neg h3] at h
  intro I9 q9
  refine ⟨by grind, ?_⟩
  intro I12 q12
  have r9 : I9 116 39 = I 116 39 := by rw [q9, set_row, upR_ne _ (by omega)]
  rw [r9, wr_id (by omega) (by omega)] at q12
  have r12 : I12 116 = upR (upR (I 116) (73 + I 116 39) c) 39 (I 116 39 + 1) := by rw [q12, set_row, q9, set_row]
  rw [r12, upR_same]
  exact h I12 ((q9 ▸ FR.w I _ _).tr (q12 ▸ FR.w I9 _ _)) r12
theorem r_book (hd : d < 940) (hM : MR G) (p n c : Int) (hI : Inv (I 116)) (hT : 0 ≤ I 116 40 ∧ I 116 40 ≤ 8) (h : ∀ I1, FR I I1 → I1 116 = (bookS (I 116) p n c).2 → Q (bookS (I 116) p n c).1 G I1) : mu_WP mu_code d 213 0 [(1, 115), (0, p), (0, n), (0, c)] [] G I Q := by
  unfold bookS at h
  refine vc_213_0 (by omega) _ _ _ _ ?_
  simp only [hM]
  refine ⟨fun h1 => ⟨trivial, by grind, ?_⟩, fun h1 => ⟨trivial, r_isPerson (by omega) hM p hI.2.1 ⟨fun h2 => ?_, fun h2 => ⟨hM.1, r_isCell (by omega) hM c hI.2.2.1 hI.2.2.2.1 ⟨fun h3 => ?_, fun h3 => r_in (by omega) _ _ _ ⟨fun h5 => ?_, fun h5 => ?_⟩⟩⟩⟩⟩⟩
  · intro I3 q3
    rw [if_pos h1] at h
    exact h I3 (q3 ▸ FR.w I _ _) (by rw [q3, set_row])
  · rw [if_neg h1, if_pos (by intro hc; exact ifn h2 hc.1)] at h
    exact h I (FR.rf I) rfl
  · rw [if_neg h1, if_pos (by intro hc; exact ifn h3 hc.2)] at h
    exact h I (FR.rf I) rfl
  · rw [if_neg h1, if_neg (by intro hc; exact hc ⟨ifp h2, ifp h3⟩), if_pos (ifm h5)] at h
    exact h I (FR.rf I) rfl
  rw [if_neg h1, if_neg (by intro hc; exact hc ⟨ifp h2, ifp h3⟩), if_neg (by intro hc; exact hc (ifq h5))] at h
  have e1 : wr (79 + I 116 40) = 79 + I 116 40 := wr_id (by omega) (by omega)
  have e2 : wr (87 + I 116 40) = 87 + I 116 40 := wr_id (by omega) (by omega)
  have e3 : wr (95 + I 116 40) = 95 + I 116 40 := wr_id (by omega) (by omega)
  simp only [hM, e1]
  refine ⟨trivial, by grind, fun h6 => ?_, fun h6 => ⟨by grind, ?_⟩⟩
  · rw [if_pos h6] at h
    exact h I (FR.rf I) rfl
  rw [if_neg h6] at h
  intro Ia qa
  have ra : Ia 116 = upR (I 116) (79 + I 116 40) p := by rw [qa, set_row]
  have ra40 : Ia 116 40 = I 116 40 := by rw [ra, upR_ne _ (by omega)]
  rw [ra40, e2]
  refine ⟨by grind, ?_⟩
  intro Ib qb
  have rb : Ib 116 = upR (upR (I 116) (79 + I 116 40) p) (87 + I 116 40) n := by rw [qb, set_row, ra]
  have rb40 : Ib 116 40 = I 116 40 := by rw [rb, upR_ne _ (by omega), upR_ne _ (by omega)]
  rw [rb40, e3]
  refine ⟨by grind, ?_⟩
  intro Ic qc
  have rc : Ic 116 = upR (upR (upR (I 116) (79 + I 116 40) p) (87 + I 116 40) n) (95 + I 116 40) c := by rw [qc, set_row, rb]
  have rc40 : Ic 116 40 = I 116 40 := by rw [rc, upR_ne _ (by omega), upR_ne _ (by omega), upR_ne _ (by omega)]
  rw [rc40, wr_id (x := I 116 40 + 1) (by omega) (by omega)]
  refine ⟨by grind, ?_⟩
  intro Id qd
  have rd : Id 116 = upR (upR (upR (upR (I 116) (79 + I 116 40) p) (87 + I 116 40) n) (95 + I 116 40) c) 40 (I 116 40 + 1) := by rw [qd, set_row, rc]
  rw [rd, upR_same]
  exact h Id (((qa ▸ FR.w I _ _).tr (qb ▸ FR.w Ia _ _)).tr ((qc ▸ FR.w Ib _ _).tr (qd ▸ FR.w Ic _ _))) rd
theorem r_isUnder (hd : d < 940) (k j : Int) (hk : 0 ≤ k ∧ k ≤ 6) (hj : 0 ≤ j ∧ j ≤ 6) (h : Q (bi (under k j)) G I) : mu_WP mu_code d 217 0 [(0, k), (0, j)] [] G I Q := by
  have e1 : wr (j + 3) = j + 3 := wr_id (by omega) (by omega)
  unfold under bi at h
  refine vc_217_0 (by omega) _ _ ?_
  rw [e1]
  grind
theorem r_as (hd : d < 930) (hM : MR G) (p k : Int) (hI : Inv (I 116)) (h : Q (asS (I 116) p k) G I) : mu_WP mu_code d 225 0 [(1, 115), (0, p), (0, k)] [] G I Q := by
  have h4 := hI.2.1
  unfold asS at h
  refine vc_225_0 (by omega) _ _ _ ⟨hM.1, r_isPerson (by omega) hM p hI.2.1 ⟨fun h1 => ?_, fun h1 => r_in (by omega) _ _ _ ⟨fun h2 => ?_, fun h2 => ?_⟩⟩⟩
  · rw [if_pos (by intro hc; exact ifn h1 hc.1)] at h; exact h
  · rw [if_pos (by intro hc; exact ifm h2 hc.2)] at h; exact h
  have hp := ifp h1
  have hk := ifq h2
  rw [if_neg (by intro hc; exact hc ⟨hp, hk⟩)] at h
  obtain ⟨j1, j2, j3, j4, j5, j6, j7, j8⟩ := hI.2.2.2.2.1 p hp.1 hp.2
  have e1 : wr (45 + p) = 45 + p := wr_id (by omega) (by omega)
  have e2 : wr (49 + p) = 49 + p := wr_id (by omega) (by omega)
  simp only [hM, e1, e2]
  refine ⟨trivial, by grind, r_isUnder (by omega) _ _ j4 hk ⟨fun h3 => ?_, fun h3 => ?_⟩⟩
  · rw [if_neg (by rw [(bi_not _).1 h3]; decide)] at h; exact h
  · rw [if_pos (by cases hb : under (I 116 (45 + p)) k <;> simp [hb, bi] at h3 ⊢)] at h
    simp only [hM]
    exact ⟨trivial, by grind, h⟩
/-- the image is taken -/
theorem r_image (hd : d < 930) (hM : MR G) (h : ∀ I1 : mu_M, (∀ b, b ≠ 117 → b ≠ 115 → I1 b = I b) → (∀ j, j ≠ 4 → I1 115 j = I 115 j) → I1 115 4 = 1 → (∀ j, 0 ≤ j → j < 977 → I1 117 j = I 116 j) → Q (I 116 37) G I1) : mu_WP mu_code d 226 0 [(1, 115), (3, 0)] [] G I Q := by
  refine vc_226_0 (by omega) _ ?_
  suffices H : ∀ (n : Nat) (k : Int) (I2 : mu_M), k + n = 977 → 0 ≤ k → (∀ b, b ≠ 117 → I2 b = I b) → (∀ j, 0 ≤ j → j < k → I2 117 j = I 116 j) → mu_WP mu_code d 226 2 [(1, 115), (0, k)] [] G I2 Q from
    H 977 0 I (by omega) (by omega) (fun _ _ => rfl) (fun j h0 h1 => by omega)
  intro n
  induction n with
  | zero =>
    intro k I2 hk h0 hb hj
    refine vc_226_2 (by omega) _ _ ⟨fun h1 => absurd h1 (by omega), fun _ => ⟨hM.1, ?_⟩⟩
    intro I3 q3
    have r3 : I3 116 = I 116 := by rw [q3, set_off _ (by decide), hb 116 (by decide)]
    simp only [hM, r3]
    refine ⟨by grind, h I3 ?_ ?_ ?_ ?_⟩
    · intro b h1 h2
      rw [q3, set_off _ h2, hb b h1]
    · intro j hj2
      rw [q3, set_row, upR_ne _ hj2, hb 115 (by decide)]
    · rw [q3, set_row, upR_same]
    · intro j j0 j1
      rw [q3, set_off _ (by decide)]
      exact hj j j0 (by omega)
  | succ n ih =>
    intro k I2 hk h0 hb hj
    have e1 : wr (k + 1) = k + 1 := wr_id (by omega) (by omega)
    refine vc_226_2 (by omega) _ _ ⟨fun _ => ?_, fun h1 => absurd h1 (by omega)⟩
    simp only [hM, e1]
    refine ⟨trivial, by grind, by grind, ?_⟩
    intro I4 q4
    refine ih (k + 1) I4 (by omega) (by omega) ?_ ?_
    · intro b hb2
      rw [q4, set_off _ hb2]
      exact hb b hb2
    · intro j j0 j1
      rw [q4, set_row, upR_at]
      by_cases hjk : j = k
      · rw [if_pos hjk, hjk, hb 116 (by decide)]
      · rw [if_neg hjk]
        exact hj j j0 (by omega)
def backS (S T : Row) : Row := fun j => if 0 ≤ j ∧ j < 977 then T j else S j
theorem r_undo (hd : d < 930) (hM : MR G) (h0 : I 115 4 = 0 → Q (-3) G I) (h : I 115 4 ≠ 0 → ∀ I1, FR I I1 → I1 116 = backS (I 116) (I 117) → Q (I 117 37) G I1) : mu_WP mu_code d 227 0 [(1, 115), (3, 0)] [] G I Q := by
  refine vc_227_0 (by omega) _ ⟨hM.1, h0, fun hn => ?_⟩
  have h := h hn
  suffices H : ∀ (n : Nat) (k : Int) (I2 : mu_M), k + n = 977 → 0 ≤ k → FR I I2 → (∀ j, I2 116 j = if 0 ≤ j ∧ j < k then I 117 j else I 116 j) → mu_WP mu_code d 227 12 [(1, 115), (0, k)] [] G I2 Q from
    H 977 0 I (by omega) (by omega) (FR.rf I) (fun j => by rw [if_neg (by omega)])
  intro n
  induction n with
  | zero =>
    intro k I2 hk h0 hf hj
    refine vc_227_12 (by omega) _ _ ⟨fun h1 => absurd h1 (by omega), fun _ => ?_⟩
    have hk : k = 977 := by omega
    subst hk
    have r37 : I2 116 37 = I 117 37 := by rw [hj 37, if_pos (by omega)]
    simp only [hM, r37]
    exact ⟨trivial, by grind, h I2 hf (by funext j; rw [hj j]; rfl)⟩
  | succ n ih =>
    intro k I2 hk h0 hf hj
    have e1 : wr (k + 1) = k + 1 := wr_id (by omega) (by omega)
    refine vc_227_12 (by omega) _ _ ⟨fun _ => ?_, fun h1 => absurd h1 (by omega)⟩
    simp only [hM, e1]
    refine ⟨trivial, by grind, by grind, ?_⟩
    intro I4 q4
    refine ih (k + 1) I4 (by omega) (by omega) (hf.tr (q4 ▸ FR.w I2 _ _)) ?_
    intro j
    rw [q4, set_row, upR_at, hj j, hf 117 (by decide)]
    clear ih h hj
    by_cases hjk : j = k
    · rw [if_pos hjk, hjk, if_pos (by omega)]
    · rw [if_neg hjk]
      by_cases hj2 : 0 ≤ j ∧ j < k
      · rw [if_pos hj2, if_pos (by omega)]
      · rw [if_neg hj2, if_neg (by omega)]
theorem r_count (hd : d < 930) (hM : MR G) (w : Int) (h : Q (if w = 5 then I 115 21 else if 0 ≤ w ∧ w ≤ 4 then I 116 (37 + w) else -1) G I) : mu_WP mu_code d 228 0 [(1, 115), (0, w)] [] G I Q := by
  refine vc_228_0 (by omega) _ _ ⟨fun h1 => ⟨hM.1, ?_⟩, fun h1 => r_in (by omega) _ _ _ ⟨fun h2 => ?_, fun h2 => ?_⟩⟩
  · rw [if_pos h1] at h; exact h
  · rw [if_neg h1, if_neg (ifm h2)] at h; exact h
  · have hw := ifq h2
    rw [if_neg h1, if_pos hw] at h
    have e1 : wr (37 + w) = 37 + w := wr_id (by omega) (by omega)
    simp only [hM, e1]
    exact ⟨trivial, by grind, h⟩
end

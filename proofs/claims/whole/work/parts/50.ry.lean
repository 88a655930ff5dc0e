/-! QUESTIONS TO THE REFERENCE: late, sit -/
def taken (S : Row) (c : Int) : Prop := ∃ p, 0 ≤ p ∧ p < S 37 ∧ (S (53 + p) = c ∨ S (1 + p) = c)
noncomputable def lateS (S : Row) (p c : Int) : Int := if ¬ ((0 ≤ p ∧ p < S 37) ∧ 0 ≤ c ∧ c < S 43 * S 44) then -1002 else if S (103 + c) = 1 then -1003 else if pb (taken S c) = true then -1003 else if freeF (upR S (103 + c) 1) p = -5 ∨ freeF S p = -5 then -1001 else freeF (upR S (103 + c) 1) p - freeF S p
def owL (S : Row) (p : Int) : Nat → Int → Int → Int
  | 0, _, x => x
  | n + 1, q, x => if q < S 37 then owL S p n (q + 1) (x + (if debtTo S q p = -1 then 0 else S (25 + 3 * q + debtTo S q p))) else x
def owedTo (S : Row) (p : Int) : Int := owL S p 4 0 0
/-- what is owed to p after so many days, if it were at c now -/
def sitF (S : Row) (p n c : Int) : Int := owedTo (goS n.toNat (upR S (1 + p) c)) p
def siL (S : Row) (p m : Int) : Nat → Int → Int → Int → Int × Int
  | 0, _, b, l => (b, l)
  | n + 1, c, b, l => if c < S 43 * S 44 then (if S (103 + c) = 0 ∧ (b = -1 ∨ sitF S p m c < l) then siL S p m n (c + 1) c (sitF S p m c) else siL S p m n (c + 1) b l) else (b, l)
def siA (w : Int) (x : Int × Int) : Int := if w = 0 then x.1 else x.2
def sitS (S : Row) (p n w : Int) : Int := if ¬ ((0 ≤ p ∧ p < S 37) ∧ 0 ≤ w ∧ w ≤ 1) then -1 else if ¬ (0 ≤ n ∧ n ≤ 30) then -2 else siA w (siL S p n 64 0 (-1) 0)
theorem Inv.wall {S : Row} {c x : Int} (h : Inv S) (hc : 0 ≤ c ∧ c < 64) (hx : x = 0 ∨ x = 1) : Inv (upR S (103 + c) x) := by
  obtain ⟨i1, i2, i3, i4, i5, i6⟩ := h
  have e : ∀ j, j < 103 → upR S (103 + c) x j = S j := fun j hj => upR_ne _ (by omega)
  refine ⟨by rw [e 0 (by omega)]; exact i1, by rw [e 37 (by omega)]; exact i2, by rw [e 43 (by omega)]; exact i3, by rw [e 44 (by omega)]; exact i4, ?_, ?_⟩
  · intro p p0 p1
    rw [e 37 (by omega)] at p1
    have j3 := (i5 p p0 p1).2.2.1
    exact (i5 p p0 p1).same (e _ (by omega)) (e _ (by omega)) (e _ (by omega)) (e _ (by omega)) (e _ (by omega)) (e _ (by omega)) (e _ (by omega)) (e _ (by omega)) (e _ (by omega)) (fun k k0 k1 => ⟨e _ (by omega), e _ (by omega)⟩) (fun k k0 k1 => e _ (by omega))
  · intro c1 c0 c2
    rw [upR_at]
    split
    · exact hx
    · exact i6 c1 c0 c2
theorem LW.off {S : Row} {j x : Int} (h : LW S) (hj : (0 ≤ j ∧ j < 42) ∨ (43 ≤ j ∧ j < 267)) : LW (upR S j x) := by
  obtain ⟨h1, h2, h3⟩ := h
  have e : ∀ i, i = 42 ∨ 267 ≤ i → upR S j x i = S i := fun i hi => upR_ne _ (by omega)
  have e42 := e 42 (by omega)
  have em : manyS (upR S j x) = manyS S := by
    unfold manyS
    rw [e42]
    split
    · rfl
    · rw [e _ (by omega)]
  have et : textS (upR S j x) = textS S := by
    by_cases hm : S 42 = -1
    · unfold textS
      rw [em]
      unfold manyS
      rw [if_pos hm]
      rfl
    · unfold textS
      rw [e42, em]
      exact codes_same _ _ (fun i hi => e i (by omega))
  refine ⟨by rw [e42]; exact h1, by rw [em]; exact h2, by rw [et]; exact h3⟩
theorem Inv.isC {S : Row} {p c : Int} (h : Inv S) (hp : 0 ≤ p ∧ p < 4) (hc : 0 ≤ c ∧ c < S 43 * S 44) : Inv (upR S (1 + p) c) := by
  refine h.one hp ?_ (fun j hj => upR_ne _ (by omega)) ?_ ?_
  · rw [upR_ne _ (by omega)]; exact h.1
  · intro q q0 q1 hqp
    refine ⟨upR_ne _ (by omega), upR_ne _ (by omega), upR_ne _ (by omega), fun k k0 k1 => ⟨upR_ne _ (by omega), upR_ne _ (by omega)⟩⟩
  · intro hp2
    obtain ⟨j1, j2, j3, j4, j5, j6, j7, j8⟩ := h.2.2.2.2.1 p hp.1 hp2
    have e : ∀ j, j ≠ 1 + p → upR S (1 + p) c j = S j := fun j hj => upR_ne _ hj
    refine ⟨by rw [upR_same, e _ (by omega), e _ (by omega)]; exact hc, by rw [e _ (by omega)]; exact j2, by rw [e _ (by omega)]; exact j3, by rw [e _ (by omega)]; exact j4, by rw [e _ (by omega)]; exact j5, by rw [e (53 + p) (by omega), e 43 (by omega), e 44 (by omega)]; exact j6, ?_, ?_⟩
    · intro k k0 k1
      rw [e (9 + p) (by omega)] at k1
      rw [e (13 + 3 * p + k) (by omega), e (25 + 3 * p + k) (by omega), e 37 (by omega)]
      exact j7 k k0 k1
    · intro k k0 k1
      rw [e _ (by omega)]
      exact j8 k k0 k1
section
variable {d : Nat} {G : mu_G} {I : mu_M} {Q : Int → mu_G → mu_M → Prop}
theorem r_isTaken (hd : d < 950) (hM : MR G) (c : Int) (h4 : 0 ≤ I 116 37 ∧ I 116 37 ≤ 4) (h : Q (bi (pb (taken (I 116) c))) G I) : mu_WP mu_code d 164 0 [(1, 115), (0, c), (3, 0), (3, 0)] [] G I Q := by
  refine vc_164_0 (by omega) _ _ ?_
  suffices H : ∀ (n : Nat) (p b : Int), p + n = 4 → 0 ≤ p → (b = 0 ∨ b = 1) → (b = 1 ↔ ∃ q, 0 ≤ q ∧ q < p ∧ q < I 116 37 ∧ (I 116 (53 + q) = c ∨ I 116 (1 + q) = c)) → mu_WP mu_code d 164 4 [(1, 115), (0, c), (0, b), (0, p)] [] G I Q from
    H 4 0 0 (by omega) (by omega) (Or.inl rfl) ⟨fun h => by omega, fun ⟨q, q0, q1, _⟩ => by omega⟩
  have fin : ∀ (p b : Int), ¬ p < I 116 37 → (b = 0 ∨ b = 1) → (b = 1 ↔ ∃ q, 0 ≤ q ∧ q < p ∧ q < I 116 37 ∧ (I 116 (53 + q) = c ∨ I 116 (1 + q) = c)) → mu_WP mu_code d 164 4 [(1, 115), (0, c), (0, b), (0, p)] [] G I Q := by
    intro p b hp hb hs
    have hq : b = bi (pb (taken (I 116) c)) := by
      have ht : taken (I 116) c ↔ b = 1 := by
        rw [hs]
        exact ⟨fun ⟨q, q0, q1, q2⟩ => ⟨q, q0, by omega, q1, q2⟩, fun ⟨q, q0, _, q1, q2⟩ => ⟨q, q0, q1, q2⟩⟩
      rcases hb with hb | hb
      · rw [pb_f (by rw [ht]; omega)]; exact hb
      · rw [pb_t (by rw [ht]; exact hb)]; exact hb
    refine vc_164_4 (by omega) _ _ _ _ ?_
    simp only [hM]
    refine ⟨trivial, by grind, fun h1 => absurd h1 hp, fun _ => ⟨hb, ?_⟩⟩
    rw [hq]
    exact h
  intro n
  induction n with
  | zero =>
    intro p b hp h0 hb hs
    exact fin p b (by omega) hb hs
  | succ n ih =>
    intro p b hp h0 hb hs
    by_cases hlt : p < I 116 37
    · have e1 : wr (1 + p) = 1 + p := wr_id (by omega) (by omega)
      have e2 : wr (53 + p) = 53 + p := wr_id (by omega) (by omega)
      have e3 : wr (p + 1) = p + 1 := wr_id (by omega) (by omega)
      have yes : b = 1 ∨ (I 116 (53 + p) = c ∨ I 116 (1 + p) = c) → mu_WP mu_code d 164 4 [(1, 115), (0, c), (0, 1), (0, p + 1)] [] G I Q := by
        intro hy
        refine ih (p + 1) 1 (by omega) (by omega) (Or.inr rfl) ⟨fun _ => ?_, fun _ => rfl⟩
        rcases hy with hy | hy
        · obtain ⟨q, q0, q1, q2⟩ := hs.1 hy
          exact ⟨q, q0, by omega, q2⟩
        · exact ⟨p, h0, by omega, hlt, hy⟩
      refine vc_164_4 (by omega) _ _ _ _ ?_
      simp only [hM, e1, e2, e3]
      refine ⟨trivial, by grind, fun _ => ⟨fun h1 => ⟨by grind, fun h2 => yes (Or.inr (Or.inl h2)), fun h2 => ⟨by grind, fun h3 => yes (Or.inr (Or.inr h3)), fun h3 => ?_⟩⟩, fun h1 => yes (Or.inl (by omega))⟩, fun h1 => absurd hlt h1⟩
      refine ih (p + 1) 0 (by omega) (by omega) (Or.inl rfl) ⟨fun h => by omega, ?_⟩
      rintro ⟨q, q0, q1, q2, q3⟩
      by_cases hqp : q = p
      · subst hqp
        rcases q3 with q3 | q3
        · exact absurd q3 h2
        · exact absurd q3 h3
      · have := hs.2 ⟨q, q0, by omega, q2, q3⟩
        omega
    · exact fin p b hlt hb hs
theorem r_late (hd : d < 940) (hM : MR G) (p c : Int) (hW : WD (I 116) 100) (h : ∀ I1, FE I I1 → I1 116 = I 116 → Q (lateS (I 116) p c) G I1) : mu_WP mu_code d 204 0 [(1, 115), (0, p), (0, c), (3, 0), (3, 0)] [] G I Q := by
  have h4 := hW.1.2.1
  have hwh := hW.1.wh
  unfold lateS at h
  refine vc_204_0 (by omega) _ _ _ ⟨hM.1, r_isPerson (by omega) hM p h4 ⟨fun h1 => ?_, fun h1 => ?_⟩⟩
  · rw [if_pos (by intro hc; rw [if_pos hc.1] at h1; omega)] at h
    exact h I (FE.rf I) rfl
  have hp : 0 ≤ p ∧ p < I 116 37 := by
    by_cases hc : 0 ≤ p ∧ p < I 116 37
    · exact hc
    · rw [if_neg hc] at h1; exact absurd rfl h1
  clear h1
  refine ⟨hM.1, r_isCell (by omega) hM c hW.1.2.2.1 hW.1.2.2.2.1 ⟨fun h1 => ?_, fun h1 => ?_⟩⟩
  · rw [if_pos (by intro hc; rw [if_pos hc.2] at h1; omega)] at h
    exact h I (FE.rf I) rfl
  have hc : 0 ≤ c ∧ c < I 116 43 * I 116 44 := by
    by_cases hc : 0 ≤ c ∧ c < I 116 43 * I 116 44
    · exact hc
    · rw [if_neg hc] at h1; exact absurd rfl h1
  clear h1
  rw [if_neg (by intro hn; exact hn ⟨hp, hc⟩)] at h
  have e1 : wr (103 + c) = 103 + c := wr_id (by omega) (by omega)
  simp only [hM, e1]
  refine ⟨trivial, by grind, fun h1 => ?_, fun h1 => ?_⟩
  · rw [if_pos h1] at h
    exact h I (FE.rf I) rfl
  rw [if_neg h1] at h
  by_cases ht : taken (I 116) c
  · rw [if_pos (pb_t ht)] at h
    exact r_isTaken (by omega) hM c h4 ⟨fun h2 => absurd h2 (by rw [pb_t ht]; decide), fun _ => h I (FE.rf I) rfl⟩
  rw [if_neg (by rw [pb_f ht]; decide)] at h
  refine r_isTaken (by omega) hM c h4 ⟨fun h2 => ?_, fun h2 => absurd (by rw [pb_f ht]; rfl) h2⟩
  have hx0 : I 116 (103 + c) = 0 := by
    rcases hW.1.2.2.2.2.2 c hc.1 (by omega) with h3 | h3
    · exact h3
    · exact absurd h3 h1
  refine ⟨hM.1, r_free (by omega) hM p hW ?_⟩
  intro I1 f1 r1
  have s1 : freeS (I 116) p = freeF (I 116) p := by unfold freeS; rw [if_neg (by intro hn; exact hn hp)]
  rw [s1]
  simp only [hM]
  refine ⟨trivial, by grind, ?_⟩
  intro I2 q2
  have r2 : I2 116 = upR (I 116) (103 + c) 1 := by rw [q2, set_row, r1]
  have w2 : WD (I2 116) 100 := by
    rw [r2]
    refine ⟨hW.1.wall (by omega) (Or.inr rfl), hW.2.1.off (by omega), ?_⟩
    rw [upR_ne _ (by omega)]
    exact hW.2.2
  refine r_free (by omega) hM p w2 ?_
  intro I3 f3 r3
  have s2 : freeS (I2 116) p = freeF (upR (I 116) (103 + c) 1) p := by
    rw [r2]
    unfold freeS
    rw [if_neg (by intro hn; exact hn (by rw [upR_ne _ (by omega)]; exact hp))]
  rw [s2]
  simp only [hM]
  refine ⟨trivial, by grind, ?_⟩
  intro I4 q4
  have r4 : I4 116 = I 116 := by
    rw [q4, set_row, r3, r2]
    funext j
    simp only [upR_at]
    by_cases hj : j = 103 + c
    · rw [if_pos hj, hj, hx0]
    · rw [if_neg hj, if_neg hj]
  have f4 : FE I I4 := (f1.tr (q2 ▸ FE.w I1 _ _ (by simp))).tr (f3.tr (q4 ▸ FE.w I3 _ _ (by simp)))
  have b1 := ffS_bd (c := fun T => decide (T (9 + p) = 0)) 61 0 (I 116) (by omega)
  have b2 := ffS_bd (c := fun T => decide (T (9 + p) = 0)) 61 0 (upR (I 116) (103 + c) 1) (by omega)
  change freeF (I 116) p = -5 ∨ (0 ≤ freeF (I 116) p ∧ freeF (I 116) p < 0 + ((61 : Nat) : Int)) at b1
  change freeF (upR (I 116) (103 + c) 1) p = -5 ∨ (0 ≤ freeF (upR (I 116) (103 + c) 1) p ∧ freeF (upR (I 116) (103 + c) 1) p < 0 + ((61 : Nat) : Int)) at b2
  have h := h I4 f4 r4
  refine ⟨fun h3 => ?_, fun h3 => ⟨fun h5 => ?_, fun h5 => ?_⟩⟩
  · rw [if_pos (Or.inl h3)] at h; exact h
  · rw [if_pos (Or.inr h5)] at h; exact h
  · rw [if_neg (by omega)] at h
    rw [wr_id (by omega) (by omega)]
    exact h
theorem r_owedTo (hd : d < 950) (hM : MR G) (p : Int) (hI : Inv (I 116)) (h : Q (owedTo (I 116) p) G I) : mu_WP mu_code d 206 0 [(1, 115), (0, p), (3, 0), (3, 0), (3, 0)] [] G I Q := by
  have h4 := hI.2.1
  refine vc_206_0 (by omega) _ _ ?_
  suffices H : ∀ (n : Nat) (q x : Int) (v4 : mu_V), q + n = 4 → 0 ≤ q → (0 ≤ x ∧ x ≤ 99 * q) → Q (owL (I 116) p n q x) G I → mu_WP mu_code d 206 4 [(1, 115), (0, p), (0, x), (0, q), v4] [] G I Q from
    H 4 0 0 _ (by omega) (by omega) (by omega) h
  intro n
  induction n with
  | zero =>
    intro q x v4 hq h0 hx h
    refine vc_206_4 (by omega) _ _ _ _ _ ?_
    simp only [hM]
    exact ⟨trivial, by grind, fun h1 => absurd h1 (by omega), fun _ => h⟩
  | succ n ih =>
    intro q x v4 hq h0 hx h
    rw [owL] at h
    refine vc_206_4 (by omega) _ _ _ _ _ ?_
    simp only [hM]
    refine ⟨trivial, by grind, fun h1 => ?_, fun h1 => ?_⟩
    · rw [if_pos h1] at h
      obtain ⟨j1, j2, j3, j4, j5, j6, j7, j8⟩ := hI.2.2.2.2.1 q h0 h1
      refine r_debtTo (by omega) hM q p (by omega) j3.2 ⟨fun h2 => ?_, fun h2 => ?_⟩
      · rw [if_pos h2] at h
        rw [wr_id (x := x + 0) (by omega) (by omega), wr_id (x := q + 1) (by omega) (by omega)]
        exact ih (q + 1) _ _ (by omega) (by omega) (by omega) h
      · rw [if_neg h2] at h
        obtain ⟨a1, a2, a3, a4⟩ := dT_some 3 0 (by omega) h2
        change 0 ≤ debtTo (I 116) q p at a1
        change debtTo (I 116) q p < 0 + ((3 : Nat) : Int) at a2
        change debtTo (I 116) q p < I 116 (9 + q) at a3
        have e1 : wr (3 * q) = 3 * q := wr_id (by omega) (by omega)
        have e2 : wr (25 + 3 * q) = 25 + 3 * q := wr_id (by omega) (by omega)
        have e3 : wr (25 + 3 * q + debtTo (I 116) q p) = 25 + 3 * q + debtTo (I 116) q p := wr_id (by omega) (by omega)
        have j7k := (j7 _ a1 a3).2
        simp only [hM, e1, e2, e3]
        rw [wr_id (x := x + _) (by omega) (by omega), wr_id (x := q + 1) (by omega) (by omega)]
        exact ⟨trivial, by grind, ih (q + 1) _ _ (by omega) (by omega) (by omega) h⟩
    · rw [if_neg h1] at h
      exact h
theorem KP.is {S : Row} {I I1 : mu_M} {p c : Int} (h : KP S I) (q : I1 = mu_set I 116 (1 + p) c) (hp : 0 ≤ p ∧ p < 4) : KP S I1 := by
  refine ⟨fun j h0 h1 => ?_, fun j hj => ?_⟩
  · rw [q, set_off _ (by decide)]
    exact h.1 j h0 h1
  · rw [q, set_row, upR_ne _ (by omega)]
    exact h.2 j hj
theorem r_sit (hd : d < 940) (hM : MR G) (p n w : Int) (hW : WD (I 116) 100) (h : ∀ I1, FE I I1 → I1 116 = I 116 → Q (sitS (I 116) p n w) G I1) : mu_WP mu_code d 205 0 [(1, 115), (0, p), (0, n), (0, w), (3, 0), (3, 0), (3, 0), (3, 0), (3, 0)] [] G I Q := by
  have h4 := hW.1.2.1
  have hwh := hW.1.wh
  unfold sitS at h
  refine vc_205_0 (by omega) _ _ _ _ ⟨hM.1, r_isPerson (by omega) hM p h4 ⟨fun h1 => ?_, fun h1 => ?_⟩⟩
  · rw [if_pos (by intro hc; rw [if_pos hc.1] at h1; omega)] at h
    exact h I (FE.rf I) rfl
  have hp : 0 ≤ p ∧ p < I 116 37 := by
    by_cases hc : 0 ≤ p ∧ p < I 116 37
    · exact hc
    · rw [if_neg hc] at h1; exact absurd rfl h1
  clear h1
  refine r_in (by omega) _ _ _ ⟨fun h1 => ?_, fun h1 => ?_⟩
  · rw [if_pos (by intro hc; rw [if_pos hc.2] at h1; omega)] at h
    exact h I (FE.rf I) rfl
  have hw : 0 ≤ w ∧ w ≤ 1 := by
    by_cases hc : 0 ≤ w ∧ w ≤ 1
    · exact hc
    · rw [if_neg hc] at h1; exact absurd rfl h1
  clear h1
  rw [if_neg (by intro hn; exact hn ⟨hp, hw⟩)] at h
  refine r_in (by omega) _ _ _ ⟨fun h1 => ?_, fun h1 => ?_⟩
  · rw [if_pos (by intro hc; rw [if_pos hc] at h1; omega)] at h
    exact h I (FE.rf I) rfl
  have hn : 0 ≤ n ∧ n ≤ 30 := by
    by_cases hc : 0 ≤ n ∧ n ≤ 30
    · exact hc
    · rw [if_neg hc] at h1; exact absurd rfl h1
  clear h1
  rw [if_neg (by intro hc; exact hc hn)] at h
  refine ⟨hM.1, r_keeps (by omega) hM ?_⟩
  intro I1 f1 r1 _ k1
  have e1 : wr (1 + p) = 1 + p := wr_id (by omega) (by omega)
  suffices H : ∀ (m : Nat) (c b l : Int) (v7 v8 : mu_V) (I2 : mu_M), c + m = 64 → 0 ≤ c → FE I I2 → KP (I 116) I2 → I2 116 = I 116 → (∀ I1, FE I I1 → I1 116 = I 116 → Q (siA w (siL (I 116) p n m c b l)) G I1) → mu_WP mu_code d 205 45 [(1, 115), (0, p), (0, n), (0, w), (0, b), (0, l), (0, c), v7, v8] [] G I2 Q from
    H 64 0 (-1) 0 _ _ I1 (by omega) (by omega) f1 k1 r1 h
  have fin : ∀ (c b l : Int) (v7 v8 : mu_V) (I2 : mu_M), ¬ c < I 116 43 * I 116 44 → FE I I2 → I2 116 = I 116 → (∀ I1, FE I I1 → I1 116 = I 116 → Q (siA w (b, l)) G I1) → mu_WP mu_code d 205 45 [(1, 115), (0, p), (0, n), (0, w), (0, b), (0, l), (0, c), v7, v8] [] G I2 Q := by
    intro c b l v7 v8 I2 hc hf hr hh
    unfold siA at hh
    refine vc_205_45 (by omega) _ _ _ _ _ _ _ _ _ ⟨hM.1, r_cells (by omega) hM (by rw [hr]; exact hW.1.2.2.1) (by rw [hr]; exact hW.1.2.2.2.1) ?_⟩
    rw [hr]
    refine ⟨fun h1 => absurd h1 hc, fun _ => ⟨fun h1 => ?_, fun h1 => ?_⟩⟩
    · rw [if_pos h1] at hh; exact hh I2 hf hr
    · rw [if_neg h1] at hh; exact hh I2 hf hr
  intro m
  induction m with
  | zero =>
    intro c b l v7 v8 I2 hc h0 hf hK hr hh
    exact fin c b l v7 v8 I2 (by omega) hf hr hh
  | succ m ih =>
    intro c b l v7 v8 I2 hc h0 hf hK hr hh
    by_cases hlt : c < I 116 43 * I 116 44
    · have e2 : wr (103 + c) = 103 + c := wr_id (by omega) (by omega)
      have e3 : wr (c + 1) = c + 1 := wr_id (by omega) (by omega)
      rw [siL, if_pos hlt] at hh
      refine vc_205_45 (by omega) _ _ _ _ _ _ _ _ _ ⟨hM.1, r_cells (by omega) hM (by rw [hr]; exact hW.1.2.2.1) (by rw [hr]; exact hW.1.2.2.2.1) ?_⟩
      simp only [hM, hr, e1, e2, e3]
      refine ⟨fun _ => ⟨trivial, by grind, fun h1 => ⟨by grind, ?_⟩, fun h1 => ?_⟩, fun h1 => absurd hlt h1⟩
      · intro I3 q3
        have r3 : I3 116 = upR (I 116) (1 + p) c := by rw [q3, set_row, hr]
        have k3 : KP (I 116) I3 := hK.is q3 (by omega)
        have w3 : WD (I3 116) 100 := by
          rw [r3]
          refine ⟨hW.1.isC (by omega) (by omega), hW.2.1.off (by omega), ?_⟩
          rw [upR_ne _ (by omega)]
          exact hW.2.2
        rw [show n = (n.toNat : Int) by omega]
        refine r_goes (by omega) hM k3 n.toNat (by omega) (w3.lo (by omega)) ?_
        intro I4 f4 r4 k4
        rw [r3] at r4
        have w4 : WD (I4 116) 0 := by rw [r4, ← r3]; exact goS_WD _ _ 0 (w3.lo (by omega))
        have eS : owedTo (I4 116) p = sitF (I 116) p n c := by rw [r4]; rfl
        rw [show (n.toNat : Int) = n by omega]
        refine ⟨hM.1, r_owedTo (by omega) hM p w4.1 ?_⟩
        rw [eS]
        have back : ∀ (b1 l1 : Int) (v7 v8 : mu_V), (∀ I1, FE I I1 → I1 116 = I 116 → Q (siA w (siL (I 116) p n m (c + 1) b1 l1)) G I1) → mu_WP mu_code (d + 1) 192 0 [(1, 115), (3, 0)] [] G I4 (fun _ G1 I5 => mu_WP mu_code d 205 45 [(1, 115), (0, p), (0, n), (0, w), (0, b1), (0, l1), (0, c + 1), v7, v8] [] G1 I5 Q) := by
          intro b1 l1 v7 v8 hq
          refine r_goesBack (by omega) hM k4 ?_
          intro I5 f5 r5
          refine ih (c + 1) b1 l1 v7 v8 I5 (by omega) (by omega) (((hf.tr (q3 ▸ FE.w I2 _ _ (by simp))).tr f4).tr f5.fe) ⟨fun j j0 j1 => by rw [f5 118 (by decide)]; exact k4.1 j j0 j1, fun j _ => by rw [r5]⟩ r5 hq
        refine ⟨fun h2 => ⟨hM.1, back _ _ _ _ ?_⟩, fun h2 => ⟨fun h3 => ⟨hM.1, back _ _ _ _ ?_⟩, fun h3 => ⟨hM.1, back _ _ _ _ ?_⟩⟩⟩
        · rw [if_pos ⟨h1, Or.inl h2⟩] at hh; exact hh
        · rw [if_pos ⟨h1, Or.inr h3⟩] at hh; exact hh
        · rw [if_neg (by intro hc; rcases hc.2 with hc | hc; exact h2 hc; exact h3 hc)] at hh; exact hh
      · rw [if_neg (fun hc => h1 hc.1)] at hh
        exact ih (c + 1) b l v7 v8 I2 (by omega) (by omega) hf hK hr hh
    · refine fin c b l v7 v8 I2 hlt hf hr ?_
      rw [siL, if_neg hlt] at hh
      exact hh
end

/-! THE REFERENCE'S STEP, AIM, STEPS, EARNS -/
section
variable {d : Nat} {G : mu_G} {I : mu_M} {Q : Int → mu_G → mu_M → Prop}
theorem s_96 (hd : d < 990) (hM : MR G) {v0 v1 v2 v3 v4 v6 v7 v8 v9 : mu_V} (c w dx : Int) (hw : 2 ≤ I 116 43 ∧ I 116 43 ≤ 8) (hh : 2 ≤ I 116 44 ∧ I 116 44 ≤ 8) (hc : 0 ≤ c ∧ c < 64) (hx : -1 ≤ dx ∧ dx ≤ 1)
  (h : Q (movedS (I 116) c dx (if w = 3 then 1 else if w = 4 then -1 else 0)) G I) : mu_WP mu_code d 181 75 [v0, v1, v2, v3, v4, (0, w), v6, v7, v8, v9] [(0, dx), (0, c), (1, 115)] G I Q := by
  have key : ∀ (v5 : mu_V) (dy : Int), -1 ≤ dy ∧ dy ≤ 1 → Q (movedS (I 116) c dx dy) G I → mu_WP mu_code d 181 96 [v0, v1, v2, v3, v4, v5, v6, v7, v8, v9] [(0, dy), (0, dx), (0, c), (1, 115)] G I Q := fun v5 dy hy hq =>
    vc_181_96 (by omega) _ _ _ _ _ _ _ _ _ _ _ _ _ _ ⟨hM.1, r_moved (by omega) hM _ _ _ hw hh hc hx hy hq⟩
  refine vc_181_75 (by omega) _ _ _ _ _ _ _ _ _ _ _ _ _ ⟨fun h0 => ?_, fun h0 => ⟨fun h1 => ?_, fun h1 => ?_⟩⟩
  · rw [if_pos h0] at h; exact key _ _ (by omega) h
  · rw [if_neg h0, if_pos h1] at h; exact key _ _ (by omega) h
  · rw [if_neg h0, if_neg h1] at h; exact key _ _ (by omega) h
theorem s_100 (hd : d < 990) (hM : MR G) {v1 v5 v6 v7 : mu_V} (c aim kind : Int) (hw : 2 ≤ I 116 43 ∧ I 116 43 ≤ 8) (hh : 2 ≤ I 116 44 ∧ I 116 44 ≤ 8) (hc : 0 ≤ c ∧ c < 64) (ha : aim = -5 ∨ (0 ≤ aim ∧ aim < 64))
  (h : Q (if aim = -5 then c else
    (fun (dx dy : Int) =>
      if dy = 0 ∨ (dx ≠ 0 ∧ (if kind = 2 ∨ kind = 5 then mag dx ≤ mag dy else mag dy ≤ mag dx)) then
        (if movedS (I 116) c (sgn dx) 0 ≠ c then movedS (I 116) c (sgn dx) 0 else movedS (I 116) c 0 (sgn dy))
      else (if movedS (I 116) c 0 (sgn dy) ≠ c then movedS (I 116) c 0 (sgn dy) else movedS (I 116) c (sgn dx) 0))
    (Int.tmod aim (I 116 43) - Int.tmod c (I 116 43)) (Int.tdiv aim (I 116 43) - Int.tdiv c (I 116 43))) G I) :
  mu_WP mu_code d 181 100 [(1, 115), v1, (0, c), (0, aim), (0, kind), v5, v6, v7, (3, 0), (3, 0)] [] G I Q := by
  refine vc_181_100 (by omega) _ _ _ _ _ _ _ _ _ _ ⟨fun h0 => ?_, fun h0 => ?_⟩
  · rw [if_pos h0] at h; exact h
  · rw [if_neg h0] at h
    obtain ⟨t1, t2, t3, t4⟩ := td_le hc hw
    obtain ⟨u1, u2, u3, u4⟩ := td_le (c := aim) (by omega) hw
    simp only [hM]
    have e1 : wr (Int.tdiv aim (I 116 43)) = Int.tdiv aim (I 116 43) := wr_id (by omega) (by omega)
    have e2 : wr (Int.tdiv c (I 116 43)) = Int.tdiv c (I 116 43) := wr_id (by omega) (by omega)
    have e3 : wr (Int.tdiv aim (I 116 43) - Int.tdiv c (I 116 43)) = Int.tdiv aim (I 116 43) - Int.tdiv c (I 116 43) := wr_id (by omega) (by omega)
    have e4 : wr (Int.tmod aim (I 116 43) - Int.tmod c (I 116 43)) = Int.tmod aim (I 116 43) - Int.tmod c (I 116 43) := wr_id (by omega) (by omega)
    rw [e1, e2, e3, e4]
    refine ⟨trivial, by grind, by omega, fun h1 => ?_, fun h1 => ⟨fun h2 => ?_, fun h2 => ?_⟩⟩
    · refine vc_181_162 (by omega) _ _ _ _ _ _ _ _ _ _ (s_167 hd hM c _ _ 1 hw hh hc (by omega) (by omega) ?_)
      simp only [h1, true_or, if_true] at h
      simpa using h
    · refine vc_181_162 (by omega) _ _ _ _ _ _ _ _ _ _ (s_167 hd hM c _ _ 1 hw hh hc (by omega) (by omega) ?_)
      simp only [h2, or_true, if_true] at h
      simpa using h
    · refine s_167 hd hM c _ _ 0 hw hh hc (by omega) (by omega) ?_
      simp only [h1, h2, or_false, if_false] at h
      simpa using h
theorem r_stepFrom (hd : d < 989) (hM : MR G) (p c aim : Int) (hI : Inv (I 116)) (hp : 0 ≤ p ∧ p < I 116 37) (hc : 0 ≤ c ∧ c < 64) (ha : aim = -5 ∨ (0 ≤ aim ∧ aim < 64)) (h : Q (stS (I 116) p c aim) G I) :
  mu_WP mu_code d 181 0 [(1, 115), (0, p), (0, c), (0, aim), (3, 0), (3, 0), (3, 0), (3, 0), (3, 0), (3, 0)] [] G I Q := by
  obtain ⟨i1, i2, i3, i4, i5, i6⟩ := hI
  obtain ⟨j1, j2, j3, j4, j5, j6, j7, j8⟩ := i5 p hp.1 hp.2
  have e1 : wr (45 + p) = 45 + p := wr_id (by omega) (by omega)
  have e2 : wr (9 + p) = 9 + p := wr_id (by omega) (by omega)
  have e3 : wr (4 * p) = 4 * p := wr_id (by omega) (by omega)
  have e4 : wr (57 + 4 * p) = 57 + 4 * p := wr_id (by omega) (by omega)
  have m4 : Int.tmod (I 116 0) 4 = I 116 0 % 4 := Int.tmod_eq_emod_of_nonneg i1.1
  have e5 : wr (57 + 4 * p + Int.tmod (I 116 0) 4) = 57 + 4 * p + Int.tmod (I 116 0) 4 := wr_id (by omega) (by omega)
  refine vc_181_0 (by omega) _ _ _ _ ?_
  simp only [hM, e1, e2, e3, e4, e5]
  unfold stS at h
  refine ⟨trivial, by grind, fun h0 => ⟨by grind, fun h1 => ⟨by grind, by grind, ?_⟩, fun h1 => ?_⟩, fun h0 => ?_⟩
  · rw [if_pos ⟨h0, h1⟩] at h
    refine ⟨fun h2 => ?_, fun h2 => ⟨fun h3 => ?_, fun h3 => ?_⟩⟩
    · rw [if_pos h2] at h; exact s_96 (by omega) hM _ _ _ i3 i4 hc (by omega) h
    · rw [if_neg h2, if_pos h3] at h; exact s_96 (by omega) hM _ _ _ i3 i4 hc (by omega) h
    · rw [if_neg h2, if_neg h3] at h; exact s_96 (by omega) hM _ _ _ i3 i4 hc (by omega) h
  · rw [if_neg (by omega)] at h
    exact s_100 (by omega) hM _ _ _ i3 i4 hc ha h
  · rw [if_neg (by omega)] at h
    exact s_100 (by omega) hM _ _ _ i3 i4 hc ha h
theorem r_aimOf (hd : d < 990) (hM : MR G) (p : Int) (hI : Inv (I 116)) (hL : LW (I 116)) (hp : 0 ≤ p ∧ p < I 116 37) (h : Q (aimS (I 116) p) G I) :
  mu_WP mu_code d 168 0 [(1, 115), (0, p), (3, 0)] [] G I Q := by
  obtain ⟨i1, i2, i3, i4, i5, i6⟩ := hI
  obtain ⟨j1, j2, j3, j4, j5, j6, j7, j8⟩ := i5 p hp.1 hp.2
  have e1 : wr (9 + p) = 9 + p := wr_id (by omega) (by omega)
  have e2 : wr (3 * p) = 3 * p := wr_id (by omega) (by omega)
  have e3 : wr (13 + 3 * p) = 13 + 3 * p := wr_id (by omega) (by omega)
  have e4 : wr (45 + p) = 45 + p := wr_id (by omega) (by omega)
  have e5 : wr (53 + p) = 53 + p := wr_id (by omega) (by omega)
  unfold aimS at h
  have loop : Q (if Int.tmod (tellS (I 116) 267) 2 = 1 then fdS (I 116) p 4 0 else -5) G I → mu_WP mu_code d 168 70 [(1, 115), (0, p), (0, 0)] [] G I Q := by
    intro h
    suffices H : ∀ (n : Nat) (k : Int), k + n = 4 → 0 ≤ k → Q (if Int.tmod (tellS (I 116) 267) 2 = 1 then fdS (I 116) p n k else -5) G I → mu_WP mu_code d 168 70 [(1, 115), (0, p), (0, k)] [] G I Q from H 4 0 (by omega) (by omega) h
    clear h
    intro n
    induction n with
    | zero =>
      intro k hk h0 h
      refine vc_168_70 (by omega) _ _ _ ?_
      simp only [hM]
      refine ⟨trivial, by grind, fun h1 => absurd h1 (by omega), fun _ => ?_⟩
      unfold fdS at h
      simpa using h
    | succ n ih =>
      intro k hk h0 h
      have e6 : wr (1 + k) = 1 + k := wr_id (by omega) (by omega)
      have e7 : wr (k + 1) = k + 1 := wr_id (by omega) (by omega)
      refine vc_168_70 (by omega) _ _ _ ?_
      simp only [hM, e6, e7]
      unfold fdS at h
      refine ⟨trivial, by grind, fun h1 => r_tellsOf (by omega) hM _ (by omega) hL.1 ⟨fun h2 => ?_, fun h2 => ?_⟩, fun h1 => ?_⟩
      · change Int.tmod (tellS (I 116) 267) 2 = 1 at h2
        rw [if_pos h2, if_pos h1] at h
        refine ⟨hM.1, r_debtTo (by omega) hM _ _ (by omega) (i5 k h0 h1).2.2.1.2 ⟨fun h3 => ?_, fun h3 => ?_⟩⟩
        · rw [if_pos h3] at h
          refine ih (k + 1) (by omega) (by omega) ?_
          rw [if_pos h2]; exact h
        · rw [if_neg h3] at h
          refine ⟨hM.1, by grind, ?_⟩
          simp only [hM]
          exact h
      · change ¬ Int.tmod (tellS (I 116) 267) 2 = 1 at h2
        rw [if_neg h2] at h; exact h
      · rw [if_neg h1] at h
        simpa using h
  refine vc_168_0 (by omega) _ _ ?_
  simp only [hM, e1, e2, e3, e4, e5]
  refine ⟨trivial, by grind, fun h0 => ?_, fun h0 => ⟨by grind, fun h1 => ⟨by grind, ?_⟩, fun h1 => ⟨fun h2 => ⟨by grind, ?_⟩, fun h2 => ?_⟩⟩⟩
  · have j70 := j7 0 (by omega) h0
    rw [Int.add_zero] at j70
    have e6 : wr (1 + I 116 (13 + 3 * p)) = 1 + I 116 (13 + 3 * p) := wr_id (by omega) (by omega)
    rw [e6]
    rw [if_pos h0] at h
    refine ⟨by grind, by grind, h⟩
  · rw [if_neg h0, if_pos (Or.inl h1)] at h; exact h
  · rw [if_neg h0, if_pos (Or.inr h2)] at h; exact h
  · rw [if_neg h0, if_neg (by omega)] at h
    exact loop h
end

/-! THE REFERENCE'S STEPS -/
def sgn (d : Int) : Int := if 0 < d then 1 else if d < 0 then -1 else 0
def mag (d : Int) : Int := if d < 0 then -d else d
def atXY (S : Row) (cell x y : Int) : Int := if (0 ≤ x ∧ x ≤ S 43 - 1) ∧ 0 ≤ y ∧ y ≤ S 44 - 1 then (if S (103 + (S 43 * y + x)) = 1 then cell else S 43 * y + x) else cell
def movedS (S : Row) (cell dx dy : Int) : Int := atXY S cell (Int.tmod cell (S 43) + dx) (Int.tdiv cell (S 43) + dy)
theorem sm_xy {w h x y : Int} (hw : 2 ≤ w ∧ w ≤ 8) (hh : 2 ≤ h ∧ h ≤ 8) (hx : 0 ≤ x ∧ x ≤ w - 1) (hy : 0 ≤ y ∧ y ≤ h - 1) : 0 ≤ w * y ∧ w * y ≤ 56 ∧ 0 ≤ w * y + x ∧ w * y + x < w * h ∧ w * h ≤ 64 := by
  have h1 : 0 ≤ w * y := Int.mul_nonneg (by omega) hy.1
  have h2 : w * y ≤ 8 * 7 := Int.mul_le_mul hw.2 (by omega) hy.1 (by omega)
  have h3 : w * y ≤ w * (h - 1) := Int.mul_le_mul_of_nonneg_left hy.2 (by omega)
  have h4 : w * (h - 1) = w * h - w := by rw [Int.mul_sub, Int.mul_one]
  have h5 : w * h ≤ 8 * 8 := Int.mul_le_mul hw.2 hh.2 (by omega) (by omega)
  omega
theorem td_le {c w : Int} (hc : 0 ≤ c ∧ c < 64) (hw : 2 ≤ w ∧ w ≤ 8) : 0 ≤ Int.tdiv c w ∧ Int.tdiv c w < 64 ∧ 0 ≤ Int.tmod c w ∧ Int.tmod c w < w := by
  rw [Int.tdiv_eq_ediv_of_nonneg hc.1, Int.tmod_eq_emod_of_nonneg hc.1]
  have t4 : 0 ≤ c / w := Int.ediv_nonneg hc.1 (by omega)
  have t5 : c / w ≤ c := Int.ediv_le_self _ hc.1
  have t6 : 0 ≤ c % w := Int.emod_nonneg _ (by omega)
  have t7 : c % w < w := Int.emod_lt_of_pos _ (by omega)
  omega
theorem td_lt {c w h : Int} (hc : 0 ≤ c ∧ c < w * h) (hw : 2 ≤ w ∧ w ≤ 8) : Int.tdiv c w < h := by
  rw [Int.tdiv_eq_ediv_of_nonneg hc.1]
  exact Int.ediv_lt_of_lt_mul (by omega) (by rw [Int.mul_comm]; exact hc.2)
section
variable {d : Nat} {G : mu_G} {I : mu_M} {Q : Int → mu_G → mu_M → Prop}
theorem r_toward (hd : d < 999) (x : Int) (h : Q (sgn x) G I) : mu_WP mu_code d 184 0 [(0, x)] [] G I Q := by
  refine vc_184_0 (by omega) _ ?_
  unfold sgn at h
  grind
theorem r_size (hd : d < 999) (x : Int) (hx : -1000 < x ∧ x < 1000) (h : Q (mag x) G I) : mu_WP mu_code d 183 0 [(0, x)] [] G I Q := by
  refine vc_183_0 (by omega) _ ?_
  rw [wr_id (by omega) (by omega)]
  unfold mag at h
  grind
theorem r_moved (hd : d < 998) (hM : MR G) (c dx dy : Int) (hw : 2 ≤ I 116 43 ∧ I 116 43 ≤ 8) (hh : 2 ≤ I 116 44 ∧ I 116 44 ≤ 8) (hc : 0 ≤ c ∧ c < 64) (hx : -1 ≤ dx ∧ dx ≤ 1) (hy : -1 ≤ dy ∧ dy ≤ 1) (h : Q (movedS (I 116) c dx dy) G I) : mu_WP mu_code d 182 0 [(1, 115), (0, c), (0, dx), (0, dy), (3, 0), (3, 0), (3, 0)] [] G I Q := by
  obtain ⟨t1, t2, t3, t4⟩ := td_le hc hw
  have e1 : wr (Int.tmod c (I 116 43) + dx) = Int.tmod c (I 116 43) + dx := wr_id (by omega) (by omega)
  have e2 : wr (Int.tdiv c (I 116 43)) = Int.tdiv c (I 116 43) := wr_id (by omega) (by omega)
  have e3 : wr (Int.tdiv c (I 116 43) + dy) = Int.tdiv c (I 116 43) + dy := wr_id (by omega) (by omega)
  have e4 : wr (I 116 43 - 1) = I 116 43 - 1 := wr_id (by omega) (by omega)
  have e5 : wr (I 116 44 - 1) = I 116 44 - 1 := wr_id (by omega) (by omega)
  unfold movedS at h
  refine vc_182_0 (by omega) _ _ _ _ ?_
  simp only [hM, e1, e2, e3, e4]
  generalize Int.tmod c (I 116 43) + dx = x at *
  generalize Int.tdiv c (I 116 43) + dy = y at *
  refine ⟨trivial, by grind, by omega, r_in (by omega) _ _ _ ?_⟩
  refine ⟨fun h0 => ?_, fun h0 => ⟨hM.1, by grind, ?_⟩⟩
  · unfold atXY at h
    grind
  · have hx : 0 ≤ x ∧ x ≤ I 116 43 - 1 := by grind
    simp only [hM, e5]
    refine r_in (by omega) _ _ _ ?_
    refine ⟨fun h1 => ?_, fun h1 => ?_⟩
    · unfold atXY at h
      grind
    · have hy : 0 ≤ y ∧ y ≤ I 116 44 - 1 := by grind
      obtain ⟨s1, s2, s3, s4, s5⟩ := sm_xy hw hh hx hy
      have e6 : wr (I 116 43 * y) = I 116 43 * y := wr_id (by omega) (by omega)
      have e7 : wr (I 116 43 * y + x) = I 116 43 * y + x := wr_id (by omega) (by omega)
      have e8 : wr (103 + (I 116 43 * y + x)) = 103 + (I 116 43 * y + x) := wr_id (by omega) (by omega)
      simp only [hM, e6, e7, e8]
      unfold atXY at h
      rw [if_pos ⟨hx, hy⟩] at h
      refine ⟨trivial, by grind, by grind, fun h2 => ?_, fun h2 => ?_⟩
      · rw [if_pos h2] at h; exact h
      · rw [if_neg h2] at h; exact h
end

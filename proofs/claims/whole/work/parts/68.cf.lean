/-! THE CLASS'S STEPS AND AIMS -/
theorem mag_if (x : Int) (h : -1000 < x ∧ x < 1000) : (if 0 ≤ wr x then wr x else wr (-(wr x))) = mag x := by
  rw [wr_id (x := x) (by omega) (by omega), wr_id (x := -x) (by omega) (by omega)]
  unfold mag
  split <;> split <;> omega
theorem atXY_here {S : Row} {c : Int} (hI : Inv S) (hc : 0 ≤ c ∧ c < S 43 * S 44) : atXY S c (Int.tmod c (S 43)) (Int.tdiv c (S 43)) = c := by
  have e : S 43 * Int.tdiv c (S 43) + Int.tmod c (S 43) = c := Int.mul_tdiv_add_tmod c (S 43)
  unfold atXY
  split
  · split
    · rfl
    · exact e
  · rfl
section
variable {d : Nat} {G : mu_G} {I : mu_M} {Q : Int → mu_G → mu_M → Prop} {w : Int} {S : Row}
theorem k_stepsOf (hd : d < 950) (hG : GW G w) (hC : CW G I w S) (hI : Inv S) (hw : 0 ≤ w ∧ w + 31 ≤ 115) (i : Int) (hi : 0 ≤ i ∧ i < S 37) (h : ∀ I1, FF1 w I I1 → Q (stepsS S i) G I1) : mu_WP mu_code d 81 0 [(1, w), (1, w + 11 + 5 * i)] [] G I Q := by
  have h4 := hI.2.1
  obtain ⟨j1, j2, j3, j4, j5, j6, j7, j8⟩ := hI.2.2.2.2.1 i hi.1 hi.2
  have g2 := (hG.p (i := i) (by omega)).2
  refine vc_81_0 (by omega) _ _ ⟨hG.1, k_factsOf (by omega) hG hC hI hw i hi ?_⟩
  intro I1 f1 v1
  have C1 := f1.cw hC hI hw
  obtain ⟨cls, hA, hlk, _⟩ := C1.cls i
  have gl : GL G (w + 1) := hG.2.2.2.2.2.1
  have er : (lookS S i).1 = reC (byF S i) cls := by rw [hlk]
  rw [hG.2.1]
  refine ⟨gl.1, k_rests (by omega) gl hG.2.2.2.2.2.2.2.2.1 v1 hA ?_⟩
  rw [← er]
  have h := h I1 f1
  unfold stepsS at h
  refine ⟨fun hb => ⟨g2.1, hG.1, ?_⟩, fun hb => ?_⟩
  · have hb := (bi_not _).1 hb
    rw [hb] at h
    obtain ⟨⟨p0, p2, p3, p4, p5, p6⟩, p7, p8, pk1, pk2, pk3⟩ := C1.2.2.2 i hi.1 hi.2
    have e6 : I1 w 6 = S 0 := C1.1.2.2.2.1
    have day := hI.1
    rw [e6]
    have fin : ∀ x, Q x G I1 → mu_WP mu_code d 81 31 [(1, w), (1, w + 11 + 5 * i)] [(0, x)] G I1 Q := fun x hq => vc_81_31 (by omega) _ _ _ hq
    have hk : S (45 + i) = 0 ∨ S (45 + i) = 1 ∨ S (45 + i) = 2 ∨ S (45 + i) = 3 ∨ S (45 + i) = 4 ∨ S (45 + i) = 5 ∨ S (45 + i) = 6 := by omega
    rw [pk2]
    rcases hk with hk | hk | hk | hk | hk | hk | hk
    · rw [hk] at h ⊢
      refine ⟨fun _ => vc_63_0 (by omega) _ _ _ (fin _ ?_), fun hn => absurd rfl hn⟩
      simpa using h
    · rw [hk] at h ⊢
      refine ⟨fun hn => absurd hn (by decide), fun _ => ⟨fun hn => absurd hn (by decide), fun _ => ⟨fun hn => absurd hn (by decide), fun _ => ⟨fun hn => absurd hn (by decide), fun _ => ⟨fun hn => absurd hn (by decide), fun _ => ⟨fun _ => vc_57_0 (by omega) _ _ _ (fin _ ?_), fun hn => absurd rfl hn⟩⟩⟩⟩⟩⟩
      simpa using h
    · rw [hk] at h ⊢
      refine ⟨fun hn => absurd hn (by decide), fun _ => ⟨fun hn => absurd hn (by decide), fun _ => ⟨fun hn => absurd hn (by decide), fun _ => ⟨fun hn => absurd hn (by decide), fun _ => ⟨fun _ => vc_63_0 (by omega) _ _ _ (fin _ ?_), fun hn => absurd rfl hn⟩⟩⟩⟩⟩
      simpa using h
    · rw [hk] at h ⊢
      refine ⟨fun hn => absurd hn (by decide), fun _ => ⟨fun _ => vc_63_0 (by omega) _ _ _ (fin _ ?_), fun hn => absurd rfl hn⟩⟩
      simpa using h
    · rw [hk] at h ⊢
      refine ⟨fun hn => absurd hn (by decide), fun _ => ⟨fun hn => absurd hn (by decide), fun _ => ⟨fun hn => absurd hn (by decide), fun _ => ⟨fun _ => vc_45_0 (by omega) _ _ _ ⟨g2.1, ?_⟩, fun hn => absurd rfl hn⟩⟩⟩⟩
      rw [p2, p5, wr_id (x := 10 * S (49 + i)) (by omega) (by omega)]
      refine ⟨fun hc => fin _ ?_, fun hc => fin _ ?_⟩
      · simpa [hc] using h
      · simpa [hc] using h
    · rw [hk] at h ⊢
      refine ⟨fun hn => absurd hn (by decide), fun _ => ⟨fun hn => absurd hn (by decide), fun _ => ⟨fun _ => vc_42_0 (by omega) _ _ _ ⟨g2.1, ?_⟩, fun hn => absurd rfl hn⟩⟩⟩
      rw [p2, wr_id (x := S (49 + i) + 2) (by omega) (by omega)]
      refine ⟨fun _ => ⟨by omega, fun hc => fin _ ?_, fun hc => fin _ ?_⟩, fun hn => absurd (by omega) hn⟩
      · simpa [hc] using h
      · simpa [hc] using h
    · rw [hk] at h ⊢
      refine ⟨fun hn => absurd hn (by decide), fun _ => ⟨fun hn => absurd hn (by decide), fun _ => ⟨fun hn => absurd hn (by decide), fun _ => ⟨fun hn => absurd hn (by decide), fun _ => ⟨fun hn => absurd hn (by decide), fun _ => ⟨fun hn => absurd hn (by decide), fun _ => ⟨rfl, vc_63_0 (by omega) _ _ _ (fin _ ?_)⟩⟩⟩⟩⟩⟩⟩
      simpa using h
  · have hb : (lookS S i).1 = true := by cases hb2 : (lookS S i).1 <;> simp [hb2, bi] at hb ⊢
    rw [if_pos (Or.inl hb)] at h
    exact vc_81_31 (by omega) _ _ _ h
theorem k_firstDebtorsCell (hd : d < 960) (hG : GW G w) (hC : CW G I w S) (hI : Inv S) (i : Int) (hi : 0 ≤ i ∧ i < S 37) (h : Q (fdS S i 4 0) G I) : mu_WP mu_code d 80 0 [(1, w), (1, w + 11 + 5 * i), (3, 0)] [] G I Q := by
  have h4 := hI.2.1
  have gi := (hG.p (i := i) (by omega)).2
  refine vc_80_0 (by omega) _ _ ?_
  suffices H : ∀ (n : Nat) (k : Int), k + n = 4 → 0 ≤ k → Q (fdS S i n k) G I → mu_WP mu_code d 80 2 [(1, w), (1, w + 11 + 5 * i), (0, k)] [] G I Q from H 4 0 (by omega) (by omega) h
  intro n
  induction n with
  | zero =>
    intro k hk h0 h
    exact vc_80_2 (by omega) _ _ _ ⟨hG.1, fun h1 => absurd h1 (by rw [hC.1.2.2.1]; omega), fun _ => h⟩
  | succ n ih =>
    intro k hk h0 h
    rw [fdS] at h
    refine vc_80_2 (by omega) _ _ _ ?_
    rw [hC.1.2.2.1, hG.2.2.2.1, hG.2.2.2.2.2.2.2.1, (hC.2.2.2 i hi.1 hi.2).1.1]
    refine ⟨hG.1, fun h1 => ⟨fun _ => ?_, fun h2 => absurd (by omega) h2⟩, fun h1 => ?_⟩
    · rw [if_pos h1] at h
      obtain ⟨g1, g2⟩ := hG.p (i := k) (by omega)
      have hP := hC.2.2.2 k h0 h1
      have h9 := (hI.2.2.2.2.1 k h0 h1).2.2.1
      rw [g1, wr_id (x := k + 1) (by omega) (by omega)]
      refine ⟨⟨rfl, h0, by dsimp only; omega⟩, gi.1, g2.1, k_placeOfDebt (by omega) g2 hP h9.2 i ?_⟩
      refine ⟨fun h2 => ?_, fun h2 => ⟨hG.1, ?_⟩⟩
      · have hn : debtTo S k i = -1 := by
          by_cases hc : debtTo S k i = -1
          · exact hc
          · have := (dT_some 3 0 (by omega) hc).1
            change 0 ≤ debtTo S k i at this
            omega
        rw [if_pos hn] at h
        exact ih (k + 1) (by omega) (by omega) h
      · rw [if_neg (by omega)] at h
        rw [hG.2.2.2.1, hG.2.2.2.2.2.2.2.1, g1, hP.1.2.2.2.1]
        exact ⟨⟨rfl, h0, by dsimp only; omega⟩, g2.1, h⟩
    · rw [if_neg h1] at h
      exact h
theorem k_aimOf (hd : d < 950) (hG : GW G w) (hC : CW G I w S) (hI : Inv S) (hw : 0 ≤ w ∧ w + 31 ≤ 115) (i : Int) (hi : 0 ≤ i ∧ i < S 37) (h : Q (aimS S i) G I) : mu_WP mu_code d 79 0 [(1, w), (1, w + 11 + 5 * i), (3, 0)] [] G I Q := by
  have h4 := hI.2.1
  obtain ⟨g1, g2⟩ := hG.p (i := i) (by omega)
  have hP := hC.2.2.2 i hi.1 hi.2
  obtain ⟨j1, j2, j3, j4, j5, j6, j7, j8⟩ := hI.2.2.2.2.1 i hi.1 hi.2
  unfold aimS at h
  refine vc_79_0 (by omega) _ _ ⟨g2.1, k_creditorAt (by omega) g2 hP j3.2 0 ⟨hG.1, ?_⟩⟩
  by_cases h0 : 0 < S (9 + i)
  · have j70 := j7 0 (by omega) h0
    rw [if_pos ⟨by omega, h0⟩]
    rw [Int.add_zero] at j70 ⊢
    rw [if_pos h0] at h
    refine k_personAt (by omega) hG hC hI _ ?_
    rw [if_pos ⟨j70.1.1, j70.1.2.1⟩]
    refine ⟨fun hn => absurd hn (by omega), fun _ => ⟨(hG.p (i := S (13 + 3 * i)) (by omega)).2.1, ?_⟩⟩
    rw [(hC.2.2.2 _ j70.1.1 j70.1.2.1).1.2.2.2.1]
    exact h
  · rw [if_neg (fun hc => h0 hc.2)]
    rw [if_neg h0] at h
    refine k_personAt (by omega) hG hC hI _ ?_
    rw [if_neg (by omega)]
    refine ⟨fun _ => ⟨g2.1, ?_⟩, fun hn => absurd rfl hn⟩
    obtain ⟨⟨p0, p2, p3, p4, p5, p6⟩, p7, p8, pk1, pk2, pk3⟩ := hP
    have kk : mu_wk (sh G (rf G (w + 11 + 5 * i) 1)) := by
      rw [pk2]
      unfold mu_wk kcl
      repeat' split
      all_goals simp
    refine ⟨kk, ?_⟩
    have hom : mu_b (mu_sub (sh G (rf G (w + 11 + 5 * i) 1)).1 [0, 8]) = (if S (45 + i) = 3 ∨ S (45 + i) = 6 then 1 else 0) := by
      rw [pk2]
      have hk : S (45 + i) = 0 ∨ S (45 + i) = 1 ∨ S (45 + i) = 2 ∨ S (45 + i) = 3 ∨ S (45 + i) = 4 ∨ S (45 + i) = 5 ∨ S (45 + i) = 6 := by omega
      rcases hk with hk | hk | hk | hk | hk | hk | hk <;> rw [hk] <;> simp [kcl, mu_b, mu_sub]
    rw [hom, p3]
    refine ⟨fun hh => ⟨hG.1, ?_⟩, fun hh => ?_⟩
    · have hh : ¬ (S (45 + i) = 3 ∨ S (45 + i) = 6) := fun hc => by rw [if_pos hc] at hh; omega
      rw [if_neg hh] at h
      have gl : GL G (w + 1) := hG.2.2.2.2.2.1
      obtain ⟨cls, hA, _, hcm⟩ := hC.cls i
      rw [hG.2.1]
      refine ⟨gl.1, k_comesOdd (by omega) gl hA ?_⟩
      rw [← hcm]
      refine ⟨fun hc => ?_, fun hc => ⟨hG.1, k_firstDebtorsCell (by omega) hG hC hI i hi ?_⟩⟩
      · rw [if_neg (fun hx => by rw [if_pos hx] at hc; omega)] at h
        exact h
      · rw [if_pos (by
          by_cases hx : Int.tmod (tellS S 267) 2 = 1
          · exact hx
          · rw [if_neg hx] at hc; exact absurd rfl hc)] at h
        exact h
    · have hh : S (45 + i) = 3 ∨ S (45 + i) = 6 := by
        by_cases hc : S (45 + i) = 3 ∨ S (45 + i) = 6
        · exact hc
        · rw [if_neg hc] at hh; exact absurd rfl hh
      rw [if_pos hh] at h
      exact h
theorem k_cellOr (hd : d < 980) (hG : GW G w) (hC : CW G I w S) (hI : Inv S) (x y c : Int) (h : Q (atXY S c x y) G I) : mu_WP mu_code d 89 0 [(1, w), (0, x), (0, y), (0, c), (3, 0)] [] G I Q := by
  unfold atXY at h
  refine vc_89_0 (by omega) _ _ _ _ ?_
  rw [hC.1.1, hC.1.2.1]
  by_cases hx : 0 ≤ x ∧ x ≤ S 43 - 1
  · by_cases hy : 0 ≤ y ∧ y ≤ S 44 - 1
    · obtain ⟨s1, s2, s3, s4, s5⟩ := sm_xy hI.2.2.1 hI.2.2.2.1 hx hy
      rw [if_pos ⟨hx, hy⟩] at h
      rw [wr_id (x := S 43 * y) (by omega) (by omega), wr_id (x := S 43 * y + x) (by omega) (by omega), hG.2.2.1, hG.2.2.2.2.2.2.1, hC.1.2.2.2.2 _ s3 (by omega)]
      have h01 := hI.2.2.2.2.2 _ s3 (show S 43 * y + x < 64 by omega)
      refine ⟨fun h1 => absurd h1 (by omega), fun _ => ⟨hG.1, fun _ => ⟨fun h1 => absurd h1 (by omega), fun _ => ⟨fun _ => ⟨fun _ => ⟨⟨rfl, s3, by dsimp only; omega⟩, fun h2 => ?_, fun h2 => ?_⟩, fun h1 => absurd (by omega) h1⟩, fun h1 => absurd (by omega) h1⟩⟩, fun h1 => absurd (by omega) h1⟩⟩
      · rw [if_neg (by omega)] at h; exact h
      · rw [if_pos (by omega)] at h; exact h
    · rw [if_neg (fun hc => hy hc.2)] at h
      refine ⟨fun h1 => absurd h1 (by omega), fun _ => ⟨hG.1, fun _ => ⟨fun _ => h, fun h2 => ⟨fun h3 => absurd (show 0 ≤ y ∧ y ≤ S 44 - 1 by omega) hy, fun _ => h⟩⟩, fun h1 => absurd (by omega) h1⟩⟩
  · rw [if_neg (fun hc => hx hc.1)] at h
    refine ⟨fun _ => h, fun h2 => ⟨hG.1, fun h3 => absurd (show 0 ≤ x ∧ x ≤ S 43 - 1 by omega) hx, fun _ => h⟩⟩
theorem k_beside (hd : d < 970) (hG : GW G w) (hC : CW G I w S) (hI : Inv S) (c way : Int) (hc : 0 ≤ c ∧ c < S 43 * S 44) (h : Q (movedS S c (if way = 1 then 1 else if way = 2 then -1 else 0) (if way = 3 then 1 else if way = 4 then -1 else 0)) G I) : mu_WP mu_code d 88 0 [(1, w), (0, c), (0, way), (3, 0), (3, 0)] [] G I Q := by
  have hwh := hI.wh
  have w8 := hI.2.2.1
  have ht := td_le (c := c) (by omega) hI.2.2.1
  unfold movedS at h
  refine vc_88_0 (by omega) _ _ _ ⟨hG.1, k_xOf (by omega) hG hC hI c ⟨hG.1, k_yOf (by omega) hG hC hI c (by omega) ?_⟩⟩
  have e1 : wr (Int.tmod c (S 43) + 1) = Int.tmod c (S 43) + 1 := wr_id (by omega) (by omega)
  have e2 : wr (Int.tmod c (S 43) - 1) = Int.tmod c (S 43) + -1 := by rw [wr_id (by omega) (by omega)]; omega
  have e3 : wr (Int.tdiv c (S 43) + 1) = Int.tdiv c (S 43) + 1 := wr_id (by omega) (by omega)
  have e4 : wr (Int.tdiv c (S 43) - 1) = Int.tdiv c (S 43) + -1 := by rw [wr_id (by omega) (by omega)]; omega
  rw [e1, e2, e3, e4]
  refine ⟨fun h1 => ⟨hG.1, k_cellOr (by omega) hG hC hI _ _ _ ?_⟩, fun h1 => ⟨fun h2 => ⟨hG.1, k_cellOr (by omega) hG hC hI _ _ _ ?_⟩, fun h2 => ⟨fun h3 => ⟨hG.1, k_cellOr (by omega) hG hC hI _ _ _ ?_⟩, fun h3 => ⟨fun h4 => ⟨hG.1, k_cellOr (by omega) hG hC hI _ _ _ ?_⟩, fun h4 => ?_⟩⟩⟩⟩
  · subst h1
    simpa using h
  · subst h2
    simpa using h
  · subst h3
    simpa using h
  · subst h4
    simpa using h
  · rw [if_neg h1, if_neg h2, if_neg h3, if_neg h4, Int.add_zero, Int.add_zero, atXY_here hI hc] at h
    exact h
theorem k_nearer (hd : d < 990) (x y : Int) (hx : 0 ≤ x ∧ x < 1000) (hy : 0 ≤ y ∧ y < 1000) (h : Q (x + sgn (y - x)) G I) : mu_WP mu_code d 91 0 [(0, x), (0, y)] [] G I Q := by
  unfold sgn at h
  refine vc_91_0 (by omega) _ _ ⟨fun h1 => ?_, fun h1 => ⟨fun h2 => ?_, fun h2 => ?_⟩⟩
  · rw [if_pos (by omega)] at h
    rw [wr_id (by omega) (by omega)]; exact h
  · rw [if_neg (by omega), if_pos (by omega)] at h
    rw [wr_id (by omega) (by omega)]; exact h
  · rw [if_neg (by omega), if_neg (by omega), Int.add_zero] at h
    exact h
theorem mag_0 (x : Int) : (mag x = 0 ↔ x = 0) ∧ 0 ≤ mag x := by unfold mag; split <;> omega
theorem k_stepToward (hd : d < 960) (hG : GW G w) (hC : CW G I w S) (hI : Inv S) (c aim z : Int) (hc : 0 ≤ c ∧ c < S 43 * S 44) (ha : aim = -5 ∨ (0 ≤ aim ∧ aim < S 43 * S 44)) (h : Q (if aim = -5 then c else
    (fun (dx dy : Int) =>
      if dy = 0 ∨ (dx ≠ 0 ∧ (if z ≠ 0 then mag dx ≤ mag dy else mag dy ≤ mag dx)) then
        (if movedS S c (sgn dx) 0 ≠ c then movedS S c (sgn dx) 0 else movedS S c 0 (sgn dy))
      else (if movedS S c 0 (sgn dy) ≠ c then movedS S c 0 (sgn dy) else movedS S c (sgn dx) 0))
    (Int.tmod aim (S 43) - Int.tmod c (S 43)) (Int.tdiv aim (S 43) - Int.tdiv c (S 43))) G I) : mu_WP mu_code d 90 0 [(1, w), (0, c), (0, aim), (0, z), (3, 0), (3, 0), (3, 0), (3, 0), (3, 0), (3, 0), (3, 0), (3, 0)] [] G I Q := by
  have hwh := hI.wh
  have w8 := hI.2.2.1
  have ht := td_le (c := c) (by omega) hI.2.2.1
  refine vc_90_0 (by omega) _ _ _ _ ⟨fun h1 => ?_, fun h1 => ⟨hG.1, ?_⟩⟩
  · rw [if_pos h1] at h; exact h
  rw [if_neg h1] at h
  have hu := td_le (c := aim) (by omega) hI.2.2.1
  dsimp only at h
  refine k_xOf (by omega) hG hC hI c ⟨hG.1, k_yOf (by omega) hG hC hI c (by omega) ⟨hG.1, k_xOf (by omega) hG hC hI aim ⟨hG.1, k_yOf (by omega) hG hC hI aim (by omega) ⟨hG.1, k_xOf (by omega) hG hC hI aim (k_nearer (by omega) _ _ (by omega) (by omega) ⟨hG.1, k_cellOr (by omega) hG hC hI _ _ _ ⟨hG.1, k_yOf (by omega) hG hC hI aim (by omega) (k_nearer (by omega) _ _ (by omega) (by omega) ⟨hG.1, k_cellOr (by omega) hG hC hI _ _ _ ?_⟩)⟩⟩)⟩⟩⟩⟩
  have m1 : atXY S c (Int.tmod c (S 43) + sgn (Int.tmod aim (S 43) - Int.tmod c (S 43))) (Int.tdiv c (S 43)) = movedS S c (sgn (Int.tmod aim (S 43) - Int.tmod c (S 43))) 0 := by unfold movedS; rw [Int.add_zero]
  have m2 : atXY S c (Int.tmod c (S 43)) (Int.tdiv c (S 43) + sgn (Int.tdiv aim (S 43) - Int.tdiv c (S 43))) = movedS S c 0 (sgn (Int.tdiv aim (S 43) - Int.tdiv c (S 43))) := by unfold movedS; rw [Int.add_zero]
  rw [m1, m2, mag_if _ (by omega), mag_if _ (by omega)]
  generalize hdx : Int.tmod aim (S 43) - Int.tmod c (S 43) = dx at *
  generalize hdy : Int.tdiv aim (S 43) - Int.tdiv c (S 43) = dy at *
  have mx := mag_0 dx
  have my := mag_0 dy
  generalize hmx : mag dx = ax at *
  generalize hmy : mag dy = ay at *
  generalize movedS S c (sgn dx) 0 = bx at *
  generalize movedS S c 0 (sgn dy) = bY at *
  have goX : (dy = 0 ∨ (dx ≠ 0 ∧ (if z ≠ 0 then ax ≤ ay else ay ≤ ax))) → (bx = c → Q bY G I) ∧ (¬ bx = c → Q bx G I) := by
    intro hc
    rw [if_pos hc] at h
    refine ⟨fun hb => ?_, fun hb => ?_⟩
    · rw [if_neg (by omega)] at h; exact h
    · rw [if_pos hb] at h; exact h
  have goY : ¬ (dy = 0 ∨ (dx ≠ 0 ∧ (if z ≠ 0 then ax ≤ ay else ay ≤ ax))) → (bY = c → Q bx G I) ∧ (¬ bY = c → Q bY G I) := by
    intro hc
    rw [if_neg hc] at h
    refine ⟨fun hb => ?_, fun hb => ?_⟩
    · rw [if_neg (by omega)] at h; exact h
    · rw [if_pos hb] at h; exact h
  refine ⟨fun hz => ⟨fun hl => goY ?_, fun hl => goX ?_⟩, fun hz => ⟨fun hl => goX ?_, fun hl => ⟨fun hk => goY ?_, fun hk => ⟨fun hm => goY ?_, fun hm => goX ?_⟩⟩⟩⟩
  · rw [if_neg (by omega)]; omega
  · rw [if_neg (by omega)]; omega
  · exact Or.inl (my.1.1 hl)
  · rw [if_pos hz]; omega
  · rw [if_pos hz]; omega
  · rw [if_pos hz]; omega
end

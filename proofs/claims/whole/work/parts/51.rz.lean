/-! THE REFERENCE'S CALLS: tape, valley, people -/
def feedS (S : Row) (x : Int) : Int × Row := if ¬ (0 ≤ x ∧ x ≤ 127) then (-2, S) else if S 41 = 100 then (-4, S) else (S 41 + 1, upR (upR S (167 + S 41) x) 41 (S 41 + 1))
def clrS (S : Row) : Row := fun j => if 103 ≤ j ∧ j < 167 then 0 else S j
def valleyS (S : Row) (w h : Int) : Int × Row := if ¬ ((2 ≤ w ∧ w ≤ 8) ∧ 2 ≤ h ∧ h ≤ 8) then (-2, S) else if 0 < S 37 then (-3, S) else (S 43 * S 44, clrS (upR (upR S 43 w) 44 h))
noncomputable def wallS (S : Row) (c b : Int) : Int × Row := if ¬ (0 ≤ c ∧ c < S 43 * S 44) then (-1, S) else if pb (taken S c) = true then (-3, S) else (S (103 + c), upR S (103 + c) (if b = 0 then 0 else 1))
/-- one comes: kind, v, home, purse -/
def comeS (S : Row) (k v c x : Int) : Row := (fun p => fun j => if j = 45 + p then k else if j = 49 + p then v else if j = 53 + p then c else if j = 1 + p then c else if j = 5 + p then x else if j = 9 + p then 0 else if 57 + 4 * p ≤ j ∧ j < 57 + 4 * p + 4 then 0 else if j = 37 then p + 1 else S j) (S 37)
def personS (S : Row) (k v c x : Int) : Int × Row := if ¬ ((0 ≤ k ∧ k ≤ 6) ∧ 0 ≤ c ∧ c < S 43 * S 44) then (-1, S) else if ¬ ((0 ≤ v ∧ v ≤ 9) ∧ 0 ≤ x ∧ x ≤ 999) then (-2, S) else if S (103 + c) = 1 then (-3, S) else if S 37 = 4 then (-4, S) else (S 37, comeS S k v c x)
def ofS (S : Row) (p w : Int) : Int := if ¬ (0 ≤ p ∧ p < S 37) then -1 else if w = 0 then S (45 + p) else if w = 1 then S (49 + p) else if w = 2 then S (53 + p) else if w = 3 then S (1 + p) else if w = 4 then S (5 + p) else if w = 5 then S (9 + p) else if w = 6 then aimS S p else if w = 7 then stepsS S p else if w = 8 then earnS S p else if 10 ≤ w ∧ w < 10 + S (9 + p) then S (13 + 3 * p + (w - 10)) else if 20 ≤ w ∧ w < 20 + S (9 + p) then S (25 + 3 * p + (w - 20)) else -1
def oweR (S : Row) (p q x : Int) : Row := if debtTo S p q = -1 then (if 0 < x then ptS S p (S (9 + p)) q x else S) else if x = 0 then tkS S p (debtTo S p q) else upR S (25 + 3 * p + debtTo S p q) x
def oweS (S : Row) (p q x : Int) : Int × Row := if ¬ ((0 ≤ p ∧ p < S 37) ∧ 0 ≤ q ∧ q < S 37) then (-1, S) else if p = q ∨ ¬ (0 ≤ x ∧ x ≤ 99) then (-2, S) else (oweR S p q x (9 + p), oweR S p q x)
def rowS (S : Row) (p k w : Int) : Int × Row := if ¬ ((0 ≤ p ∧ p < S 37) ∧ 0 ≤ k ∧ k ≤ 3) then (-1, S) else if ¬ (0 ≤ w ∧ w ≤ 4) then (-2, S) else if S (45 + p) ≠ 6 then (-3, S) else (S (57 + 4 * p + k), upR S (57 + 4 * p + k) w)
def dayA (S : Row) : Int × Row := if S 0 = 999 then (-3, S) else (dayS S 0, dayS S)
def trackS (S : Row) (c : Int) : Int × Row := if c = -1 then (0, upR S 39 0) else if ¬ (0 ≤ c ∧ c < S 43 * S 44) then (-1, S) else if S 39 = 6 then (-4, S) else (S 39 + 1, upR (upR S (73 + S 39) c) 39 (S 39 + 1))
def bookS (S : Row) (p n c : Int) : Int × Row := if p = -1 then (0, upR S 40 0) else if ¬ ((0 ≤ p ∧ p < S 37) ∧ 0 ≤ c ∧ c < S 43 * S 44) then (-1, S) else if ¬ (0 ≤ n ∧ n ≤ 60) then (-2, S) else if S 40 = 8 then (-4, S) else (S 40 + 1, upR (upR (upR (upR S (79 + S 40) p) (87 + S 40) n) (95 + S 40) c) 40 (S 40 + 1))
def under (k j : Int) : Bool := decide (j = 0 ∨ j = k ∨ (0 < j ∧ j < 4 ∧ k = j + 3))
def asS (S : Row) (p k : Int) : Int := if ¬ ((0 ≤ p ∧ p < S 37) ∧ 0 ≤ k ∧ k ≤ 6) then -1 else if under (S (45 + p)) k = true then S (49 + p) else -6
theorem wr_lowrap {x : Int} (h1 : -4294967296 ≤ x) (h2 : x < -2147483648) : wr x = x + 4294967296 := by
  have e : wr x = wr (x + 4294967296) := by
    unfold wr
    rw [Int32.toInt_ofInt, Int32.toInt_ofInt]
    simp only [Int.bmod_def, Int32.size]
    omega
  rw [e]
  exact wr_id (by omega) (by omega)
theorem ifp {p : Int} {n : Int} (h : ¬ (if 0 ≤ p ∧ p < n then (1 : Int) else 0) = 0) : 0 ≤ p ∧ p < n := by
  by_cases hc : 0 ≤ p ∧ p < n
  · exact hc
  · rw [if_neg hc] at h; exact absurd rfl h
theorem ifn {p : Int} {n : Int} (h : (if 0 ≤ p ∧ p < n then (1 : Int) else 0) = 0) : ¬ (0 ≤ p ∧ p < n) := by
  intro hc
  rw [if_pos hc] at h
  omega
theorem ifq {p l u : Int} (h : ¬ (if l ≤ p ∧ p ≤ u then (1 : Int) else 0) = 0) : l ≤ p ∧ p ≤ u := by
  by_cases hc : l ≤ p ∧ p ≤ u
  · exact hc
  · rw [if_neg hc] at h; exact absurd rfl h
theorem ifm {p l u : Int} (h : (if l ≤ p ∧ p ≤ u then (1 : Int) else 0) = 0) : ¬ (l ≤ p ∧ p ≤ u) := by
  intro hc
  rw [if_pos hc] at h
  omega
section
variable {d : Nat} {G : mu_G} {I : mu_M} {Q : Int → mu_G → mu_M → Prop}
theorem r_feed (hd : d < 940) (hM : MR G) (x : Int) (hT : 0 ≤ I 116 41 ∧ I 116 41 ≤ 100) (h : ∀ I1, FR I I1 → I1 116 = (feedS (I 116) x).2 → Q (feedS (I 116) x).1 G I1) : mu_WP mu_code d 146 0 [(1, 115), (0, x)] [] G I Q := by
  unfold feedS at h
  refine vc_146_0 (by omega) _ _ (r_in (by omega) _ _ _ ⟨fun h1 => ?_, fun h1 => ?_⟩)
  · rw [if_pos (ifm h1)] at h
    exact h I (FR.rf I) rfl
  rw [if_neg (by intro hc; exact hc (ifq h1))] at h
  have e1 : wr (167 + I 116 41) = 167 + I 116 41 := wr_id (by omega) (by omega)
  simp only [hM, e1]
  refine ⟨trivial, by grind, fun h2 => ?_, fun h2 => ⟨by grind, ?_⟩⟩
  · rw [if_pos h2] at h
    exact h I (FR.rf I) rfl
  rw [if_neg h2] at h
  intro I9 q9
  refine ⟨by grind, ?_⟩
  intro I12 q12
  have r9 : I9 116 41 = I 116 41 := by rw [q9, set_row, upR_ne _ (by omega)]
  rw [r9, wr_id (by omega) (by omega)] at q12
  have r12 : I12 116 = upR (upR (I 116) (167 + I 116 41) x) 41 (I 116 41 + 1) := by rw [q12, set_row, q9, set_row]
  rw [r12, upR_same]
  exact h I12 ((q9 ▸ FR.w I _ _).tr (q12 ▸ FR.w I9 _ _)) r12
theorem r_clears (hd : d < 950) (hM : MR G) (h : ∀ I1, FR I I1 → I1 116 = clrS (I 116) → Q 0 G I1) : mu_WP mu_code d 161 0 [(1, 115), (3, 0)] [] G I Q := by
  refine vc_161_0 (by omega) _ ?_
  suffices H : ∀ (n : Nat) (k : Int) (I2 : mu_M), k + n = 64 → 0 ≤ k → FR I I2 → (∀ j, I2 116 j = if 103 ≤ j ∧ j < 103 + k then 0 else I 116 j) → mu_WP mu_code d 161 2 [(1, 115), (0, k)] [] G I2 Q from
    H 64 0 I (by omega) (by omega) (FR.rf I) (fun j => by rw [if_neg (by omega)])
  intro n
  induction n with
  | zero =>
    intro k I2 hk h0 hf hr
    refine vc_161_2 (by omega) _ _ ⟨fun h1 => absurd h1 (by omega), fun _ => h I2 hf ?_⟩
    funext j
    rw [hr j]
    unfold clrS
    rw [show 103 + k = 167 by omega]
  | succ n ih =>
    intro k I2 hk h0 hf hr
    have e1 : wr (103 + k) = 103 + k := wr_id (by omega) (by omega)
    have e2 : wr (k + 1) = k + 1 := wr_id (by omega) (by omega)
    refine vc_161_2 (by omega) _ _ ⟨fun _ => ?_, fun h1 => absurd h1 (by omega)⟩
    simp only [hM, e1, e2]
    refine ⟨trivial, by grind, ?_⟩
    intro I3 q3
    refine ih (k + 1) I3 (by omega) (by omega) (hf.tr (q3 ▸ FR.w I2 _ _)) ?_
    intro j
    rw [q3, set_row, upR_at, hr j]
    grind
theorem r_valley (hd : d < 940) (hM : MR G) (w v : Int) (hI : Inv (I 116)) (h : ∀ I1, FR I I1 → I1 116 = (valleyS (I 116) w v).2 → Q (valleyS (I 116) w v).1 G I1) : mu_WP mu_code d 159 0 [(1, 115), (0, w), (0, v), (3, 0)] [] G I Q := by
  unfold valleyS at h
  refine vc_159_0 (by omega) _ _ _ (r_in (by omega) _ _ _ ⟨fun h1 => ?_, fun h1 => r_in (by omega) _ _ _ ⟨fun h2 => ?_, fun h2 => ?_⟩⟩)
  · rw [if_pos (by intro hc; exact ifm h1 hc.1)] at h
    exact h I (FR.rf I) rfl
  · rw [if_pos (by intro hc; exact ifm h2 hc.2)] at h
    exact h I (FR.rf I) rfl
  rw [if_neg (by intro hc; exact hc ⟨ifq h1, ifq h2⟩)] at h
  simp only [hM]
  refine ⟨trivial, by grind, fun h3 => ?_, fun h3 => r_cells (by omega) hM hI.2.2.1 hI.2.2.2.1 ?_⟩
  · rw [if_pos h3] at h
    exact h I (FR.rf I) rfl
  rw [if_neg h3] at h
  simp only [hM]
  refine ⟨trivial, by grind, ?_⟩
  intro I3 q3
  refine ⟨by grind, ?_⟩
  intro I4 q4
  refine r_clears (by omega) hM ?_
  intro I5 f5 r5
  refine h I5 (((q3 ▸ FR.w I _ _).tr (q4 ▸ FR.w I3 _ _)).tr f5) ?_
  rw [r5, q4, set_row, q3, set_row]
theorem r_wall (hd : d < 940) (hM : MR G) (c b : Int) (hI : Inv (I 116)) (h : ∀ I1, FR I I1 → I1 116 = (wallS (I 116) c b).2 → Q (wallS (I 116) c b).1 G I1) : mu_WP mu_code d 162 0 [(1, 115), (0, c), (0, b), (3, 0)] [] G I Q := by
  have hwh := hI.wh
  unfold wallS at h
  refine vc_162_0 (by omega) _ _ _ ⟨hM.1, r_isCell (by omega) hM c hI.2.2.1 hI.2.2.2.1 ⟨fun h1 => ?_, fun h1 => ?_⟩⟩
  · rw [if_pos (ifn h1)] at h
    exact h I (FR.rf I) rfl
  have hc := ifp h1
  rw [if_neg (by intro hn; exact hn hc)] at h
  refine ⟨hM.1, ?_⟩
  by_cases ht : taken (I 116) c
  · rw [if_pos (pb_t ht)] at h
    exact r_isTaken (by omega) hM c hI.2.1 ⟨fun h2 => absurd h2 (by rw [pb_t ht]; decide), fun _ => h I (FR.rf I) rfl⟩
  rw [if_neg (by rw [pb_f ht]; decide)] at h
  refine r_isTaken (by omega) hM c hI.2.1 ⟨fun h2 => ?_, fun h2 => absurd (by rw [pb_f ht]; rfl) h2⟩
  have e1 : wr (103 + c) = 103 + c := wr_id (by omega) (by omega)
  simp only [hM, e1]
  refine ⟨trivial, by grind, fun h3 => ⟨by grind, ?_⟩, fun h3 => ⟨by grind, ?_⟩⟩
  · intro I3 q3
    rw [if_pos h3] at h
    exact h I3 (q3 ▸ FR.w I _ _) (by rw [q3, set_row])
  · intro I3 q3
    rw [if_neg h3] at h
    exact h I3 (q3 ▸ FR.w I _ _) (by rw [q3, set_row])
theorem r_person (hd : d < 940) (hM : MR G) (k v c x : Int) (hI : Inv (I 116)) (h : ∀ I1, FR I I1 → I1 116 = (personS (I 116) k v c x).2 → Q (personS (I 116) k v c x).1 G I1) : mu_WP mu_code d 165 0 [(1, 115), (0, k), (0, v), (0, c), (0, x), (3, 0), (3, 0)] [] G I Q := by
  have hwh := hI.wh
  have h4 := hI.2.1
  unfold personS at h
  refine vc_165_0 (by omega) _ _ _ _ _ (r_in (by omega) _ _ _ ⟨fun h1 => ?_, fun h1 => ⟨hM.1, r_isCell (by omega) hM c hI.2.2.1 hI.2.2.2.1 ⟨fun h2 => ?_, fun h2 => r_in (by omega) _ _ _ ⟨fun h3 => ?_, fun h3 => r_in (by omega) _ _ _ ⟨fun h5 => ?_, fun h5 => ?_⟩⟩⟩⟩⟩)
  · rw [if_pos (by intro hc; exact ifm h1 hc.1)] at h
    exact h I (FR.rf I) rfl
  · rw [if_pos (by intro hc; exact ifn h2 hc.2)] at h
    exact h I (FR.rf I) rfl
  · rw [if_neg (by intro hc; exact hc ⟨ifq h1, ifp h2⟩), if_pos (by intro hc; exact ifm h3 hc.1)] at h
    exact h I (FR.rf I) rfl
  · rw [if_neg (by intro hc; exact hc ⟨ifq h1, ifp h2⟩), if_pos (by intro hc; exact ifm h5 hc.2)] at h
    exact h I (FR.rf I) rfl
  have hc := ifp h2
  rw [if_neg (by intro hc; exact hc ⟨ifq h1, ifp h2⟩), if_neg (by intro hc; exact hc ⟨ifq h3, ifq h5⟩)] at h
  have e1 : wr (103 + c) = 103 + c := wr_id (by omega) (by omega)
  simp only [hM, e1]
  refine ⟨trivial, by grind, fun h6 => ?_, fun h6 => ⟨by grind, fun h7 => ?_, fun h7 => ?_⟩⟩
  · rw [if_pos h6] at h
    exact h I (FR.rf I) rfl
  · rw [if_neg h6, if_pos h7] at h
    exact h I (FR.rf I) rfl
  rw [if_neg h6, if_neg h7] at h
  unfold comeS at h
  dsimp only at h
  generalize hp : I 116 37 = p at *
  have e2 : wr (45 + p) = 45 + p := wr_id (by omega) (by omega)
  have e3 : wr (49 + p) = 49 + p := wr_id (by omega) (by omega)
  have e4 : wr (53 + p) = 53 + p := wr_id (by omega) (by omega)
  have e5 : wr (1 + p) = 1 + p := wr_id (by omega) (by omega)
  have e6 : wr (5 + p) = 5 + p := wr_id (by omega) (by omega)
  have e7 : wr (9 + p) = 9 + p := wr_id (by omega) (by omega)
  simp only [e2, e3, e4, e5, e6, e7]
  refine ⟨by grind, ?_⟩
  intro Ia qa
  refine ⟨by grind, ?_⟩
  intro Ib qb
  refine ⟨by grind, ?_⟩
  intro Ic qc
  refine ⟨by grind, ?_⟩
  intro Id qd
  refine ⟨by grind, ?_⟩
  intro Ie qe
  refine ⟨by grind, ?_⟩
  intro If qf
  have ff : FR I If := ((qa ▸ FR.w I _ _).tr (qb ▸ FR.w Ia _ _)).tr (((qc ▸ FR.w Ib _ _).tr (qd ▸ FR.w Ic _ _)).tr ((qe ▸ FR.w Id _ _).tr (qf ▸ FR.w Ie _ _)))
  have rf0 : ∀ j, If 116 j = if j = 45 + p then k else if j = 49 + p then v else if j = 53 + p then c else if j = 1 + p then c else if j = 5 + p then x else if j = 9 + p then 0 else I 116 j := by
    intro j
    rw [qf, set_row, qe, set_row, qd, set_row, qc, set_row, qb, set_row, qa, set_row]
    simp only [upR_at]
    grind
  clear qa qb qc qd qe qf
  suffices H : ∀ (n : Nat) (i : Int) (I2 : mu_M), i + n = 4 → 0 ≤ i → FR I I2 → (∀ j, I2 116 j = if 57 + 4 * p ≤ j ∧ j < 57 + 4 * p + i then 0 else If 116 j) → mu_WP mu_code d 165 152 [(1, 115), (0, k), (0, v), (0, c), (0, x), (0, p), (0, i)] [] G I2 Q from
    H 4 0 If (by omega) (by omega) ff (fun j => by rw [if_neg (by omega)])
  intro n
  induction n with
  | zero =>
    intro i I2 hi h0 hf hr
    refine vc_165_152 (by omega) _ _ _ _ _ _ _ ⟨fun h1 => absurd h1 (by omega), fun _ => ?_⟩
    have r37 : I2 116 37 = p := by rw [hr 37, rf0 37, hp]; grind
    simp only [hM, r37]
    refine ⟨trivial, by grind, by grind, ?_⟩
    intro I3 q3
    rw [wr_id (by omega) (by omega)] at q3
    refine h I3 (hf.tr (q3 ▸ FR.w I2 _ _)) ?_
    funext j
    rw [q3, set_row, upR_at, hr j, rf0 j, show 57 + 4 * p + i = 57 + 4 * p + 4 by omega]
    grind
  | succ n ih =>
    intro i I2 hi h0 hf hr
    have e8 : wr (4 * p) = 4 * p := wr_id (by omega) (by omega)
    have e9 : wr (57 + 4 * p) = 57 + 4 * p := wr_id (by omega) (by omega)
    have e10 : wr (57 + 4 * p + i) = 57 + 4 * p + i := wr_id (by omega) (by omega)
    have e11 : wr (i + 1) = i + 1 := wr_id (by omega) (by omega)
    refine vc_165_152 (by omega) _ _ _ _ _ _ _ ⟨fun _ => ?_, fun h1 => absurd h1 (by omega)⟩
    simp only [hM, e8, e9, e10, e11]
    refine ⟨trivial, by grind, ?_⟩
    intro I3 q3
    refine ih (i + 1) I3 (by omega) (by omega) (hf.tr (q3 ▸ FR.w I2 _ _)) ?_
    intro j
    rw [q3, set_row, upR_at, hr j]
    clear rf0 ih h hr
    by_cases hj : j = 57 + 4 * p + i
    · rw [if_pos hj, if_pos (by omega)]
    · rw [if_neg hj]
      by_cases hj2 : 57 + 4 * p ≤ j ∧ j < 57 + 4 * p + i
      · rw [if_pos hj2, if_pos (by omega)]
      · rw [if_neg hj2, if_neg (by omega)]
theorem r_of (hd : d < 940) (hM : MR G) (p w : Int) (hI : Inv (I 116)) (hL : LW (I 116)) (hw : -2147483648 ≤ w ∧ w ≤ 2147483647) (h : ∀ I1, FL I I1 → Q (ofS (I 116) p w) G I1) : mu_WP mu_code d 166 0 [(1, 115), (0, p), (0, w), (3, 0)] [] G I Q := by
  have h4 := hI.2.1
  unfold ofS at h
  refine vc_166_0 (by omega) _ _ _ ⟨hM.1, r_isPerson (by omega) hM p h4 ⟨fun h1 => ?_, fun h1 => ?_⟩⟩
  · rw [if_pos (ifn h1)] at h
    exact h I (FL.rf I)
  have hp := ifp h1
  rw [if_neg (by intro hn; exact hn hp)] at h
  clear h1
  obtain ⟨j1, j2, j3, j4, j5, j6, j7, j8⟩ := hI.2.2.2.2.1 p hp.1 hp.2
  have e1 : wr (45 + p) = 45 + p := wr_id (by omega) (by omega)
  have e2 : wr (49 + p) = 49 + p := wr_id (by omega) (by omega)
  have e3 : wr (53 + p) = 53 + p := wr_id (by omega) (by omega)
  have e4 : wr (1 + p) = 1 + p := wr_id (by omega) (by omega)
  have e5 : wr (5 + p) = 5 + p := wr_id (by omega) (by omega)
  have e6 : wr (9 + p) = 9 + p := wr_id (by omega) (by omega)
  have e7 : wr (3 * p) = 3 * p := wr_id (by omega) (by omega)
  have e8 : wr (25 + 3 * p) = 25 + 3 * p := wr_id (by omega) (by omega)
  have e9 : wr (13 + 3 * p) = 13 + 3 * p := wr_id (by omega) (by omega)
  have e10 : wr (I 116 (9 + p) - 1) = I 116 (9 + p) - 1 := wr_id (by omega) (by omega)
  simp only [hM, e1, e2, e3, e4, e5, e6, e7, e8, e9, e10]
  refine ⟨fun h1 => ⟨trivial, by grind, ?_⟩, fun h1 => ?_⟩
  · rw [if_pos h1] at h; exact h I (FL.rf I)
  rw [if_neg h1] at h
  refine ⟨fun h1 => ⟨trivial, by grind, ?_⟩, fun h1 => ?_⟩
  · rw [if_pos h1] at h; exact h I (FL.rf I)
  rw [if_neg h1] at h
  refine ⟨fun h1 => ⟨trivial, by grind, ?_⟩, fun h1 => ?_⟩
  · rw [if_pos h1] at h; exact h I (FL.rf I)
  rw [if_neg h1] at h
  refine ⟨fun h1 => ⟨trivial, by grind, ?_⟩, fun h1 => ?_⟩
  · rw [if_pos h1] at h; exact h I (FL.rf I)
  rw [if_neg h1] at h
  refine ⟨fun h1 => ⟨trivial, by grind, ?_⟩, fun h1 => ?_⟩
  · rw [if_pos h1] at h; exact h I (FL.rf I)
  rw [if_neg h1] at h
  refine ⟨fun h1 => ⟨trivial, by grind, ?_⟩, fun h1 => ?_⟩
  · rw [if_pos h1] at h; exact h I (FL.rf I)
  rw [if_neg h1] at h
  refine ⟨fun h1 => ⟨trivial, r_aimOf (by omega) hM p hI hL hp ?_⟩, fun h1 => ?_⟩
  · rw [if_pos h1] at h; exact h I (FL.rf I)
  rw [if_neg h1] at h
  refine ⟨fun h1 => ⟨trivial, r_stepsOf (by omega) hM p hI hL hp ?_⟩, fun h1 => ?_⟩
  · intro I1 f1 _
    rw [if_pos h1] at h; exact h I1 f1
  rw [if_neg h1] at h
  refine ⟨fun h1 => ⟨trivial, r_earnsOf (by omega) hM p hI hL hp ?_⟩, fun h1 => ?_⟩
  · intro I1 f1
    rw [if_pos h1] at h; exact h I1 f1
  rw [if_neg h1] at h
  have wo : ∀ k : Int, 0 ≤ k → k ≤ 20 → (wr (w - k) = w - k ∨ (w - k < -2147483648 ∧ 3 < wr (w - k))) := by
    intro k k0 k1
    by_cases hh : -2147483648 ≤ w - k
    · exact Or.inl (wr_id hh (by omega))
    · refine Or.inr ⟨by omega, ?_⟩
      have : wr (w - k) = w - k + 4294967296 := wr_lowrap (by omega) (by omega)
      omega
  have w10 := wo 10 (by omega) (by omega)
  have w20 := wo 20 (by omega) (by omega)
  refine ⟨trivial, by grind, r_in (by omega) _ _ _ ⟨fun h2 => r_in (by omega) _ _ _ ⟨fun h3 => ?_, fun h3 => ?_⟩, fun h2 => ?_⟩⟩
  · have h2 := ifm h2
    have h3 := ifm h3
    rw [if_neg (by omega), if_neg (by omega)] at h
    exact h I (FL.rf I)
  · have h2 := ifm h2
    have h3 := ifq h3
    rw [if_neg (by omega), if_pos (by omega)] at h
    have e11 : wr (25 + 3 * p + w) = 25 + 3 * p + w := wr_id (by omega) (by omega)
    have e12 : wr (25 + 3 * p + w - 20) = 25 + 3 * p + (w - 20) := by rw [wr_id (by omega) (by omega)]; omega
    simp only [hM, e11, e12]
    exact ⟨trivial, by grind, h I (FL.rf I)⟩
  · have h2 := ifq h2
    rw [if_pos (by omega)] at h
    have e11 : wr (13 + 3 * p + w) = 13 + 3 * p + w := wr_id (by omega) (by omega)
    have e12 : wr (13 + 3 * p + w - 10) = 13 + 3 * p + (w - 10) := by rw [wr_id (by omega) (by omega)]; omega
    simp only [hM, e11, e12]
    exact ⟨trivial, by grind, h I (FL.rf I)⟩
theorem r_owe (hd : d < 940) (hM : MR G) (p q x : Int) (hI : Inv (I 116)) (hD : Dst (I 116)) (h : ∀ I1, FR I I1 → I1 116 = (oweS (I 116) p q x).2 → Q (oweS (I 116) p q x).1 G I1) : mu_WP mu_code d 174 0 [(1, 115), (0, p), (0, q), (0, x), (3, 0)] [] G I Q := by
  have h4 := hI.2.1
  unfold oweS at h
  refine vc_174_0 (by omega) _ _ _ _ ⟨hM.1, r_isPerson (by omega) hM p h4 ⟨fun h1 => ?_, fun h1 => ⟨hM.1, r_isPerson (by omega) hM q h4 ⟨fun h2 => ?_, fun h2 => ?_⟩⟩⟩⟩
  · rw [if_pos (by intro hc; exact ifn h1 hc.1)] at h
    exact h I (FR.rf I) rfl
  · rw [if_pos (by intro hc; exact ifn h2 hc.2)] at h
    exact h I (FR.rf I) rfl
  have hp := ifp h1
  have hq := ifp h2
  rw [if_neg (by intro hc; exact hc ⟨hp, hq⟩)] at h
  refine ⟨fun h3 => ?_, fun h3 => r_in (by omega) _ _ _ ⟨fun h5 => ?_, fun h5 => ⟨hM.1, ?_⟩⟩⟩
  · rw [if_pos (Or.inl h3)] at h
    exact h I (FR.rf I) rfl
  · rw [if_pos (Or.inr (ifm h5))] at h
    exact h I (FR.rf I) rfl
  have hx := ifq h5
  rw [if_neg (by intro hc; rcases hc with hc | hc; exact h3 hc; exact hc hx)] at h
  obtain ⟨j1, j2, j3, j4, j5, j6, j7, j8⟩ := hI.2.2.2.2.1 p hp.1 hp.2
  have e1 : wr (9 + p) = 9 + p := wr_id (by omega) (by omega)
  have e2 : wr (3 * p) = 3 * p := wr_id (by omega) (by omega)
  have e3 : wr (25 + 3 * p) = 25 + 3 * p := wr_id (by omega) (by omega)
  unfold oweR at h
  refine r_debtTo (by omega) hM p q (by omega) j3.2 ⟨fun h6 => ?_, fun h6 => ?_⟩
  · rw [if_pos h6] at h
    have h9 := room hI hD hp hq (fun e => h3 e.symm) h6
    simp only [hM, e1]
    refine ⟨fun h7 => ⟨trivial, by grind, r_puts (by omega) hM p _ q x (by omega) (by omega) (by omega) ?_⟩, fun h7 => ⟨trivial, by grind, ?_⟩⟩
    · intro I3 f3 r3
      rw [if_pos h7] at h
      simp only [hM]
      refine ⟨trivial, by grind, ?_⟩
      rw [r3]
      exact h I3 f3 r3
    · rw [if_neg h7] at h
      exact h I (FR.rf I) rfl
  · rw [if_neg h6] at h
    obtain ⟨a1, a2, a3, a4⟩ := dT_some 3 0 (by omega) h6
    change 0 ≤ debtTo (I 116) p q at a1
    change debtTo (I 116) p q < 0 + ((3 : Nat) : Int) at a2
    change debtTo (I 116) p q < I 116 (9 + p) at a3
    have e4 : wr (25 + 3 * p + debtTo (I 116) p q) = 25 + 3 * p + debtTo (I 116) p q := wr_id (by omega) (by omega)
    simp only [hM, e1, e2, e3, e4]
    refine ⟨fun h7 => ⟨trivial, r_takesOut (by omega) hM p _ (by omega) (by omega) (by omega) ?_⟩, fun h7 => ⟨trivial, by grind, ?_⟩⟩
    · intro I3 f3 r3
      rw [if_pos h7] at h
      simp only [hM]
      refine ⟨trivial, by grind, ?_⟩
      rw [r3]
      exact h I3 f3 r3
    · intro I3 q3
      rw [if_neg h7] at h
      refine ⟨by grind, ?_⟩
      have r3 : I3 116 = upR (I 116) (25 + 3 * p + debtTo (I 116) p q) x := by rw [q3, set_row]
      rw [r3]
      exact h I3 (q3 ▸ FR.w I _ _) r3
end

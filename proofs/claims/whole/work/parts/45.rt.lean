/-! QUESTIONS TO THE REFERENCE: what is kept, what comes back -/
/-- all but the row's first 37 places, and the marks that questions leave, is as it was -/
def FE (I I1 : mu_M) : Prop := (∀ b, b < 115 ∨ 126 ≤ b ∨ b = 117 → I1 b = I b) ∧ ∀ j, j ≠ 12 → j ≠ 13 → j ≠ 19 → I1 115 j = I 115 j
theorem FE.rf (I : mu_M) : FE I I := ⟨fun _ _ => rfl, fun _ _ _ _ => rfl⟩
theorem FE.tr {I I1 I2 : mu_M} (h : FE I I1) (h2 : FE I1 I2) : FE I I2 := ⟨fun b h3 => by rw [h2.1 b h3, h.1 b h3], fun j h3 h4 h5 => by rw [h2.2 j h3 h4 h5, h.2 j h3 h4 h5]⟩
theorem FD.fe {I I1 : mu_M} (h : FD I I1) : FE I I1 := ⟨fun b hb => h.1 b (by omega) (by omega) (by omega) (by omega) (by omega) (by omega) (by omega), fun j h1 h2 _ => h.2 j h1 h2⟩
theorem FR.fe {I I1 : mu_M} (h : FR I I1) : FE I I1 := h.fd.fe
theorem FE.w (I : mu_M) {b : Int} (k x : Int) (h : b = 116 ∨ b = 118 ∨ b = 124 ∨ b = 125) : FE I (mu_set I b k x) := ⟨fun c _ => set_off I (by omega), fun j _ _ _ => by rw [set_off I (by omega)]⟩
/-- the row S is kept: in the frame its first places, in the row the others -/
def KP (S : Row) (I : mu_M) : Prop := (∀ j, 0 ≤ j → j < 37 → I 118 j = S j) ∧ ∀ j, (j < 0 ∨ 37 ≤ j) → I 116 j = S j
theorem dayS_hi {S : Row} (h : Inv S) (hL : LW S) : ∀ j, (j < 0 ∨ 37 ≤ j) → dayS S j = S j := by
  intro j hj
  have h4 := h.2.1
  have hE := fun p => (earnS_bd hL p).1
  unfold dayS erS
  rw [upR_ne _ (by omega), (erL_hi hE 4 0 _ (by omega) h.mv).2 j hj, mvS_i h j (by omega)]
theorem erL_0 {S : Row} (hE : ∀ p, 0 ≤ earnS S p) : ∀ (n : Nat) (p : Int) (T : Row), 0 ≤ p → Inv T → erL S n p T 0 = T 0 := by
  intro n
  induction n with
  | zero => exact fun p T _ h => rfl
  | succ n ih =>
    intro p T hp h
    rw [erL]
    split
    · rename_i hlt
      have h4 := h.2.1
      have h5 := (h.2.2.2.2.1 p hp hlt).2.1
      have he := hE p
      have i1 : Inv (upR T (5 + p) (cap (T (5 + p) + earnS S p))) := h.purse (by omega) (cap_bd (by omega))
      have l1 : p < upR T (5 + p) (cap (T (5 + p) + earnS S p)) 37 := by rw [upR_ne _ (by omega)]; exact hlt
      rw [ih (p + 1) _ (by omega) (payL_hi hp 4 _ i1 l1).1, payL_0 hp 4 _ i1 l1, upR_ne _ (by omega)]
    · rfl
theorem dayS_day {S : Row} (h : Inv S) (hL : LW S) : dayS S 0 = S 0 + 1 := by
  have hE := fun p => (earnS_bd hL p).1
  rw [dayS_0]
  unfold erS
  rw [erL_0 hE 4 0 _ (by omega) h.mv, mvS_i h 0 (by omega)]
theorem Inv.dayS {S : Row} (h : Inv S) (hL : LW S) (h0 : S 0 + 1 < 100000) : Inv (dayS S) := by
  have hE := fun p => (earnS_bd hL p).1
  have h00 := h.1
  refine (erL_hi hE 4 0 _ (by omega) h.mv).1.day ?_
  have e := dayS_day h hL
  rw [dayS_0] at e
  rw [e]
  omega
theorem codes_same {S T : Row} : ∀ (n : Nat) (a : Int), (∀ j, a ≤ j → S j = T j) → codes S a n = codes T a n
  | 0, _, _ => rfl
  | n + 1, a, h => by rw [codes, codes, h a (by omega), codes_same n (a + 1) (fun j hj => h j (by omega))]
theorem LW.same {S T : Row} (h : LW S) (hT : ∀ j, 37 ≤ j → T j = S j) : LW T := by
  obtain ⟨h1, h2, h3⟩ := h
  have e42 := hT 42 (by omega)
  have em : manyS T = manyS S := by
    unfold manyS
    rw [e42]
    split
    · rfl
    · rw [hT _ (by omega)]
  have et : textS T = textS S := by
    unfold textS
    rw [e42, em]
    exact codes_same _ _ (fun j hj => hT j (by omega))
  refine ⟨by rw [e42]; exact h1, by rw [em]; exact h2, by rw [et]; exact h3⟩
theorem LW.dayS {S : Row} (hL : LW S) (h : Inv S) : LW (dayS S) := hL.same (fun j hj => dayS_hi h hL j (by omega))
/-- a row with its law, and so many days may go yet -/
def WD (S : Row) (n : Nat) : Prop := Inv S ∧ LW S ∧ S 0 + n < 100000
theorem WD.day {S : Row} {n : Nat} (h : WD S (n + 1)) : WD (dayS S) n := by
  obtain ⟨h1, h2, h3⟩ := h
  have h3' : S 0 + n + 1 < 100000 := by simpa [Int.add_assoc] using h3
  refine ⟨h1.dayS h2 (by omega), h2.dayS h1, ?_⟩
  rw [dayS_day h1 h2]
  omega
theorem WD.lo {S : Row} {n m : Nat} (h : WD S n) (hm : m ≤ n) : WD S m := ⟨h.1, h.2.1, by have := h.2.2; omega⟩
def goS : Nat → Row → Row
  | 0, S => S
  | n + 1, S => goS n (dayS S)
theorem goS_hi : ∀ (n : Nat) (S : Row), WD S n → ∀ j, (j < 0 ∨ 37 ≤ j) → goS n S j = S j
  | 0, S, _, j, _ => rfl
  | n + 1, S, h, j, hj => by rw [goS, goS_hi n _ h.day j hj, dayS_hi h.1 h.2.1 j hj]
theorem KP.day {S : Row} {I I1 : mu_M} (h : KP S I) (hf : FD I I1) (hr : I1 116 = dayS (I 116)) (hI : Inv (I 116)) (hL : LW (I 116)) : KP S I1 := by
  refine ⟨fun j h0 h1 => ?_, fun j hj => ?_⟩
  · rw [hf.1 118 (by decide) (by decide) (by decide) (by decide) (by decide) (by decide) (by decide)]
    exact h.1 j h0 h1
  · rw [hr, dayS_hi hI hL j hj]
    exact h.2 j hj
section
variable {d : Nat} {G : mu_G} {I : mu_M} {Q : Int → mu_G → mu_M → Prop}
theorem r_keeps (hd : d < 990) (hM : MR G) (h : ∀ I1, FE I I1 → I1 116 = I 116 → (∀ b, b ≠ 118 → I1 b = I b) → KP (I 116) I1 → Q 0 G I1) : mu_WP mu_code d 189 0 [(1, 115), (3, 0)] [] G I Q := by
  refine vc_189_0 (by omega) _ ?_
  suffices H : ∀ (n : Nat) (k : Int) (I2 : mu_M), k + n = 37 → 0 ≤ k → (∀ b, b ≠ 118 → I2 b = I b) → (∀ j, 0 ≤ j → j < k → I2 118 j = I 116 j) → mu_WP mu_code d 189 2 [(1, 115), (0, k)] [] G I2 Q from
    H 37 0 I (by omega) (by omega) (fun _ _ => rfl) (fun j h0 h1 => by omega)
  intro n
  induction n with
  | zero =>
    intro k I2 hk h0 hb hj
    refine vc_189_2 (by omega) _ _ ⟨fun h1 => absurd h1 (by omega), fun _ => ?_⟩
    exact h I2 ⟨fun b hb2 => hb b (by omega), fun j _ _ _ => by rw [hb 115 (by decide)]⟩ (hb 116 (by decide)) hb ⟨fun j j0 j1 => hj j j0 (by omega), fun j _ => by rw [hb 116 (by decide)]⟩
  | succ n ih =>
    intro k I2 hk h0 hb hj
    have e1 : wr (k + 1) = k + 1 := wr_id (by omega) (by omega)
    refine vc_189_2 (by omega) _ _ ⟨fun _ => ?_, fun h1 => absurd h1 (by omega)⟩
    simp only [hM, e1]
    refine ⟨trivial, by grind, by grind, ?_⟩
    intro I4 q4
    refine ih (k + 1) I4 (by omega) (by omega) ?_ ?_
    · intro b hb2
      rw [q4, set_off _ hb2]
      exact hb b hb2
    · intro j j0 j1
      rw [q4, set_row, upR_at]
      by_cases hjk : j = k
      · rw [if_pos hjk, hjk, hb 116 (by decide)]
      · rw [if_neg hjk]
        exact hj j j0 (by omega)
theorem r_goesBack (hd : d < 990) (hM : MR G) {S : Row} (hK : KP S I) (h : ∀ I1, FR I I1 → I1 116 = S → Q 0 G I1) : mu_WP mu_code d 192 0 [(1, 115), (3, 0)] [] G I Q := by
  refine vc_192_0 (by omega) _ ?_
  suffices H : ∀ (n : Nat) (k : Int) (I2 : mu_M), k + n = 37 → 0 ≤ k → FR I I2 → (∀ j, (j < k ∨ 37 ≤ j) → I2 116 j = S j) → mu_WP mu_code d 192 2 [(1, 115), (0, k)] [] G I2 Q from
    H 37 0 I (by omega) (by omega) (FR.rf I) hK.2
  intro n
  induction n with
  | zero =>
    intro k I2 hk h0 hf hj
    refine vc_192_2 (by omega) _ _ ⟨fun h1 => absurd h1 (by omega), fun _ => ?_⟩
    exact h I2 hf (by funext j; exact hj j (by omega))
  | succ n ih =>
    intro k I2 hk h0 hf hj
    have e1 : wr (k + 1) = k + 1 := wr_id (by omega) (by omega)
    refine vc_192_2 (by omega) _ _ ⟨fun _ => ?_, fun h1 => absurd h1 (by omega)⟩
    simp only [hM, e1]
    refine ⟨trivial, by grind, by grind, ?_⟩
    intro I4 q4
    refine ih (k + 1) I4 (by omega) (by omega) (hf.tr (q4 ▸ FR.w I2 _ _)) ?_
    intro j hj2
    rw [q4, set_row, upR_at]
    by_cases hjk : j = k
    · rw [if_pos hjk, hjk, hf 118 (by decide)]
      exact hK.1 k h0 (by omega)
    · rw [if_neg hjk]
      exact hj j (by omega)
/-- one day more, in a question -/
theorem r_day1 (hd : d < 970) (hM : MR G) {S : Row} {n : Nat} (hK : KP S I) (hW : WD (I 116) (n + 1)) (h : ∀ I1, FD I I1 → I1 116 = dayS (I 116) → KP S I1 → WD (I1 116) n → Q 0 G I1) : mu_WP mu_code d 180 0 [(1, 115), (3, 0), (3, 0), (3, 0), (3, 0)] [] G I Q := by
  refine r_dayGoes hd hM hW.1 hW.2.1 (by have := hW.2.2; omega) ?_
  intro I1 f1 r1
  refine h I1 f1 r1 (hK.day f1 r1 hW.1 hW.2.1) ?_
  rw [r1]
  exact hW.day
theorem r_goes (hd : d < 969) (hM : MR G) {S : Row} (hK : KP S I) (n : Nat) (hn : n < 1000) (hW : WD (I 116) n) (h : ∀ I1, FE I I1 → I1 116 = goS n (I 116) → KP S I1 → Q 0 G I1) : mu_WP mu_code d 190 0 [(1, 115), (0, (n : Int)), (3, 0)] [] G I Q := by
  refine vc_190_0 (by omega) _ _ ?_
  suffices H : ∀ (m : Nat) (k : Int) (I2 : mu_M), k + m = n → 0 ≤ k → FE I I2 → KP S I2 → WD (I2 116) m → goS m (I2 116) = goS n (I 116) → mu_WP mu_code d 190 2 [(1, 115), (0, (n : Int)), (0, k)] [] G I2 Q from
    H n 0 I (by omega) (by omega) (FE.rf I) hK hW rfl
  intro m
  induction m with
  | zero =>
    intro k I2 hk h0 hf hK2 hW2 hg
    refine vc_190_2 (by omega) _ _ _ ⟨fun h1 => absurd h1 (by omega), fun _ => ?_⟩
    exact h I2 hf hg hK2
  | succ m ih =>
    intro k I2 hk h0 hf hK2 hW2 hg
    have e1 : wr (k + 1) = k + 1 := wr_id (by omega) (by omega)
    refine vc_190_2 (by omega) _ _ _ ⟨fun _ => ?_, fun h1 => absurd h1 (by omega)⟩
    rw [e1]
    refine ⟨hM.1, r_day1 (by omega) hM hK2 hW2 ?_⟩
    intro I3 f3 r3 k3 w3
    refine ih (k + 1) I3 (by omega) (by omega) (hf.tr f3.fe) k3 w3 ?_
    rw [r3]
    exact hg
def smL (S : Row) (p : Int) : Nat → Int → Int → Int
  | 0, _, x => x
  | n + 1, k, x => if k < S (9 + p) then smL S p n (k + 1) (x + S (25 + 3 * p + k)) else x
def sumsS (S : Row) (p : Int) : Int := smL S p 3 0 0
theorem r_sumsOf (hd : d < 990) (hM : MR G) (p : Int) (hI : Inv (I 116)) (hp : 0 ≤ p ∧ p < I 116 37) (h : Q (sumsS (I 116) p) G I) : mu_WP mu_code d 191 0 [(1, 115), (0, p), (3, 0), (3, 0)] [] G I Q := by
  obtain ⟨j1, j2, j3, j4, j5, j6, j7, j8⟩ := hI.2.2.2.2.1 p hp.1 hp.2
  have h4 := hI.2.1
  have e1 : wr (9 + p) = 9 + p := wr_id (by omega) (by omega)
  have e2 : wr (3 * p) = 3 * p := wr_id (by omega) (by omega)
  have e3 : wr (25 + 3 * p) = 25 + 3 * p := wr_id (by omega) (by omega)
  refine vc_191_0 (by omega) _ _ ?_
  suffices H : ∀ (n : Nat) (k x : Int), k + n = 3 → 0 ≤ k → 0 ≤ x ∧ x ≤ 99 * k → Q (smL (I 116) p n k x) G I → mu_WP mu_code d 191 4 [(1, 115), (0, p), (0, x), (0, k)] [] G I Q from
    H 3 0 0 (by omega) (by omega) (by omega) h
  intro n
  induction n with
  | zero =>
    intro k x hk h0 hx h
    refine vc_191_4 (by omega) _ _ _ _ ?_
    simp only [hM, e1]
    exact ⟨trivial, by grind, fun h1 => absurd h1 (by omega), fun _ => h⟩
  | succ n ih =>
    intro k x hk h0 hx h
    refine vc_191_4 (by omega) _ _ _ _ ?_
    have e4 : wr (25 + 3 * p + k) = 25 + 3 * p + k := wr_id (by omega) (by omega)
    have e5 : wr (k + 1) = k + 1 := wr_id (by omega) (by omega)
    simp only [hM, e1, e2, e3, e4, e5]
    rw [smL] at h
    refine ⟨trivial, by grind, fun h1 => ⟨by grind, ?_⟩, fun h1 => ?_⟩
    · have j7k := (j7 k h0 h1).2
      rw [if_pos h1] at h
      rw [wr_id (by omega) (by omega)]
      exact ih (k + 1) _ (by omega) (by omega) (by omega) h
    · rw [if_neg h1] at h
      exact h
end

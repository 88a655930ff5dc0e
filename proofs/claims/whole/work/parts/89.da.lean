/-! THE CLASS READS A LAW: signs, words, numbers, tests -/
/-- the reader at a stands at k of the tape T, that ends at e -/
def KS (I : mu_M) (a e : Int) (T : Row) (k : Int) : Prop := (I a 8 = e ∧ I a 9 = k) ∧ (∀ j, 0 ≤ j → j < e → I (a + 6) j = T j) ∧ 0 ≤ k ∧ k ≤ e ∧ e ≤ 100
/-- it has written cs -/
def KW (I : mu_M) (a : Int) (cs : List Int) : Prop := I a 6 = cs.length ∧ lst (I (a + 5)) 0 cs
/-- what it leaves, where it writes nothing; where it writes -/
def FK (a : Int) (I I1 : mu_M) : Prop := (∀ b, b ≠ a → I1 b = I b) ∧ ∀ j, j ≠ 9 → j ≠ 10 → I1 a j = I a j
def FRd (a : Int) (I I1 : mu_M) : Prop := (∀ b, b ≠ a → b ≠ a + 5 → I1 b = I b) ∧ ∀ j, j ≠ 6 → j ≠ 9 → j ≠ 10 → I1 a j = I a j
theorem FK.rf (a : Int) (I : mu_M) : FK a I I := ⟨fun _ _ => rfl, fun _ _ _ => rfl⟩
theorem FK.tr {a : Int} {I I1 I2 : mu_M} (h : FK a I I1) (h2 : FK a I1 I2) : FK a I I2 := ⟨fun b hb => by rw [h2.1 b hb, h.1 b hb], fun j h3 h4 => by rw [h2.2 j h3 h4, h.2 j h3 h4]⟩
theorem FRd.rf (a : Int) (I : mu_M) : FRd a I I := ⟨fun _ _ _ => rfl, fun _ _ _ _ => rfl⟩
theorem FRd.tr {a : Int} {I I1 I2 : mu_M} (h : FRd a I I1) (h2 : FRd a I1 I2) : FRd a I I2 := ⟨fun b hb hc => by rw [h2.1 b hb hc, h.1 b hb hc], fun j h3 h4 h5 => by rw [h2.2 j h3 h4 h5, h.2 j h3 h4 h5]⟩
theorem FK.rd {a : Int} {I I1 : mu_M} (h : FK a I I1) : FRd a I I1 := ⟨fun b hb _ => h.1 b hb, fun j _ h4 h5 => h.2 j h4 h5⟩
theorem FK.kw {a : Int} {I I1 : mu_M} {cs : List Int} (h : FK a I I1) (hw : KW I a cs) : KW I1 a cs := ⟨by rw [h.2 6 (by decide) (by decide)]; exact hw.1, by rw [h.1 _ (by omega)]; exact hw.2⟩
theorem KS.fk {a e k x : Int} {T : Row} {I I1 : mu_M} (h : KS I a e T k) (hf : FRd a I I1) (h9 : I1 a 9 = x) (hx : 0 ≤ x ∧ x ≤ e) : KS I1 a e T x := ⟨⟨by rw [hf.2 8 (by decide) (by decide) (by decide)]; exact h.1.1, h9⟩, by rw [hf.1 (a + 6) (by omega) (by omega)]; exact h.2.1, hx.1, hx.2, h.2.2.2.2⟩
theorem ixF_is {f : Int → Int} {c : Int} : ∀ (L : List Int) (k : Int), lst f k L → mu_ixF f c L.length k = ixL c L k
  | [], _, _ => rfl
  | x :: r, k, h => by
    rw [List.length_cons, mu_ixF, ixL, h.1, ixF_is r (k + 1) h.2]
    by_cases hc : x = c
    · rw [if_pos hc, if_pos hc.symm]
    · rw [if_neg hc, if_neg (fun e => hc e.symm)]
theorem ixL_no {c : Int} : ∀ (L : List Int) (k : Int), (∀ x ∈ L, x ≠ c) → ixL c L k = -1
  | [], _, _ => rfl
  | x :: r, k, h => by
    rw [ixL, if_neg (fun e => h x (by simp) e.symm)]
    exact ixL_no r (k + 1) (fun y hy => h y (by simp [hy]))
theorem i2c_lo : ∀ x : Fin 128, mu_i2c (x.val : Int) = (x.val : Int) := by decide +kernel
theorem i2c_no : mu_i2c (-1) = 65535 := by decide +kernel
/-- the index of a sign in a text -/
theorem ix_is {f : Int → Int} {x : Int} {i : Nat} (hi : i = 1 ∨ i = 2) (hx : x = -1 ∨ (0 ≤ x ∧ x ≤ 127)) (hl : lst f 0 (mu_str i)) : mu_ixF f (mu_i2c x) (mu_str i).length 0 = ixL x (mu_str i) 0 := by
  rw [ixF_is _ _ hl]
  rcases hx with hx | hx
  · subst hx
    rw [i2c_no]
    rcases hi with hi | hi <;> subst hi <;> decide
  · have := i2c_lo ⟨x.toNat, by omega⟩
    simp only [show ((x.toNat : Nat) : Int) = x by omega] at this
    rw [this]
section
variable {d : Nat} {G : mu_G} {I : mu_M} {Q : Int → mu_G → mu_M → Prop} {a e k : Int} {T : Row}
/-- what a reader answers: x -/
def KR (G : mu_G) (a e : Int) (T : Row) (k : Int) (I : mu_M) (x : PRs) (Q : Int → mu_G → mu_M → Prop) : Prop :=
  (x.1 = true → ∀ I1, FRd a I I1 → KS I1 a e T x.2.1 → (∀ cs, KW I a cs → (cs.length : Int) ≤ k → KW I1 a (cs ++ x.2.2.map cv)) → Q 1 G I1) ∧ (x.1 = false → ∀ I1, FRd a I I1 → KS I1 a e T x.2.1 → Q 0 G I1)
theorem k_sign (hd : d < 990) (hG : GL G a) (hK : KS I a e T k) (h : Q (sgn8 T e k) G I) : mu_WP mu_code d 6 0 [(1, a)] [] G I Q := by
  obtain ⟨g1, r1, r2, r3, r4, r5, r7, s1, s2, s3, s4, s5, s6⟩ := id hG
  obtain ⟨⟨h8, h9⟩, ht, k0, k1, e1⟩ := hK
  unfold sgn8 at h
  refine vc_6_0 (by omega) _ ?_
  rw [h8, h9, r7, s6]
  refine ⟨g1, fun h1 => absurd h1 (by omega), fun _ => ⟨fun h1 => ⟨fun _ => ⟨⟨rfl, k0, by dsimp only; omega⟩, ?_⟩, fun h2 => absurd (by omega) h2⟩, fun h1 => ?_⟩⟩
  · rw [if_pos h1] at h
    rw [ht k k0 h1]; exact h
  · rw [if_neg h1] at h; exact h
theorem k_take1 (hd : d < 980) (hG : GL G a) (hK : KS I a e T k) (c : Int) (hc : 0 ≤ c) (hy : sgn8 T e k = c → ∀ I1, FK a I I1 → KS I1 a e T (k + 1) → Q 1 G I1) (hn : sgn8 T e k ≠ c → Q 0 G I) : mu_WP mu_code d 8 0 [(1, a), (0, c)] [] G I Q := by
  have h9 := hK.1.2
  have hb := hK.2.2
  refine vc_8_0 (by omega) _ _ ⟨hG.1, k_sign (by omega) hG hK ⟨fun h1 => ⟨hG.1, ?_⟩, fun h1 => hn h1⟩⟩
  intro I1 q1
  have hlt := sg_e h1 hc
  rw [h9, wr_id (x := k + 1) (by omega) (by omega)] at q1
  have f1 : FK a I I1 := ⟨fun b hb => by rw [q1, set_off _ hb], fun j h3 _ => by rw [q1, set_row, upR_ne _ h3]⟩
  exact hy h1 I1 f1 (hK.fk f1.rd (by rw [q1, set_row, upR_same]) (by omega))
theorem k_isDigit (hd : d < 990) (x : Int) (h : Q (if 48 ≤ x ∧ x ≤ 57 then 1 else 0) G I) : mu_WP mu_code d 10 0 [(0, x)] [] G I Q := by
  refine vc_10_0 (by omega) _ ⟨fun h1 => ?_, fun h1 => ⟨fun h2 => ?_, fun h2 => ?_⟩⟩
  · rw [if_neg (by omega)] at h; exact h
  · rw [if_neg (by omega)] at h; exact h
  · rw [if_pos (by omega)] at h; exact h
theorem k_word (hd : d < 970) (hG : GL G a) (ha : 0 ≤ a) (hX : TXs G I) (i : Nat) (hi : i < 5) (hK : KS I a e T k) (hy : (spS T e (mu_str i) k).1 = true → ∀ I1, FK a I I1 → KS I1 a e T (spS T e (mu_str i) k).2 → Q 1 G I1) (hn : (spS T e (mu_str i) k).1 = false → ∀ I1, FK a I I1 → KS I1 a e T (spS T e (mu_str i) k).2 → Q 0 G I1) : mu_WP mu_code d 7 0 [(1, a), (1, -10 - (i : Int)), (3, 0)] [] G I Q := by
  obtain ⟨x1, x2⟩ := hX i hi
  have hl : (mu_str i).length ≤ 6 ∧ ∀ c ∈ mu_str i, 0 ≤ c := by
    have : i = 0 ∨ i = 1 ∨ i = 2 ∨ i = 3 ∨ i = 4 := by omega
    rcases this with rfl | rfl | rfl | rfl | rfl <;> exact ⟨by decide, by decide⟩
  refine vc_7_0 (by omega) _ _ ?_
  suffices H : ∀ (r : List Int) (j k : Int) (I2 : mu_M), j + r.length = (mu_str i).length → 0 ≤ j → lst (I (-10 - (i : Int))) j r → (∀ c ∈ r, 0 ≤ c) → FK a I I2 → KS I2 a e T k → ((spS T e r k).1 = true → ∀ I1, FK a I I1 → KS I1 a e T (spS T e r k).2 → Q 1 G I1) → ((spS T e r k).1 = false → ∀ I1, FK a I I1 → KS I1 a e T (spS T e r k).2 → Q 0 G I1) → mu_WP mu_code d 7 2 [(1, a), (1, -10 - (i : Int)), (0, j)] [] G I2 Q from
    H (mu_str i) 0 k I (by omega) (by omega) x2 hl.2 (FK.rf a I) hK hy hn
  clear hy hn
  intro r
  induction r with
  | nil =>
    intro j k I2 hj j0 hx hc hf hK2 hy hn
    refine vc_7_2 (by omega) _ _ _ ?_
    rw [x1]
    exact ⟨rfl, fun h1 => absurd h1 (by dsimp only; simp at hj; omega), fun _ => hy rfl I2 hf hK2⟩
  | cons c r ih =>
    intro j k I2 hj j0 hx hc hf hK2 hy hn
    have hl2 : ((c :: r).length : Int) = r.length + 1 := by simp
    rw [hl2] at hj
    rw [spS] at hy hn
    refine vc_7_2 (by omega) _ _ _ ?_
    rw [x1, wr_id (x := j + 1) (by omega) (by omega), hf.1 _ (by omega), hx.1]
    refine ⟨rfl, fun h1 => ⟨⟨rfl, j0, h1⟩, hG.1, k_take1 (by omega) hG hK2 c (hc c (by simp)) (fun hs I3 f3 k3 => ⟨fun hz => absurd hz (by decide), fun _ => ?_⟩) (fun hs => ⟨fun _ => ?_, fun hz => absurd rfl hz⟩)⟩, fun h1 => absurd (show j < _ by dsimp only; omega) h1⟩
    · rw [if_pos hs] at hy hn
      exact ih (j + 1) (k + 1) I3 (by omega) (by omega) hx.2 (fun y hy => hc y (by simp [hy])) (hf.tr f3) k3 hy hn
    · rw [if_neg hs] at hn
      exact hn rfl I2 hf hK2
theorem k_number (hd : d < 970) (hG : GL G a) (hK : KS I a e T k) (hy : (numS T e k).1 = true → ∀ I1, FK a I I1 → KS I1 a e T (numS T e k).2.1 → I1 a 10 = (numS T e k).2.2 → Q 1 G I1) (hn : (numS T e k).1 = false → ∀ I1, FK a I I1 → KS I1 a e T (numS T e k).2.1 → Q 0 G I1) : mu_WP mu_code d 9 0 [(1, a)] [] G I Q := by
  have h9 := hK.1.2
  have hb := hK.2.2
  unfold numS at hy hn
  refine vc_9_0 (by omega) _ ⟨hG.1, k_sign (by omega) hG hK (k_isDigit (by omega) _ ⟨fun h1 => ?_, fun h1 => ⟨hG.1, k_sign (by omega) hG hK ⟨hG.1, ?_⟩⟩⟩)⟩
  · rw [if_neg (ifm h1)] at hn
    exact hn rfl I (FK.rf a I) hK
  have hs := ifq h1
  have hlt : k < e := sg_e (T := T) rfl (by omega)
  rw [if_pos hs] at hy
  clear hn
  generalize hsg : sgn8 T e k = s at *
  intro I1 q1 I2 q2
  have e1 : wr (s - 48) = s - 48 := wr_id (by omega) (by omega)
  rw [e1] at q1
  have a9 : I1 a 9 = k := by rw [q1, set_row, upR_ne _ (by decide)]; exact h9
  rw [a9, wr_id (x := k + 1) (by omega) (by omega)] at q2
  have f2 : FK a I I2 := ⟨fun b hb => by rw [q2, set_off _ hb, q1, set_off _ hb], fun j h3 h4 => by rw [q2, set_row, upR_ne _ h3, q1, set_row, upR_ne _ h4]⟩
  have k2 : KS I2 a e T (k + 1) := hK.fk f2.rd (by rw [q2, set_row, upR_same]) (by omega)
  have n2 : I2 a 10 = s - 48 := by rw [q2, set_row, upR_ne _ (by decide), q1, set_row, upR_same]
  have one : ¬ (0 < s - 48 ∧ 48 ≤ sgn8 T e (k + 1) ∧ sgn8 T e (k + 1) ≤ 57) → Q 1 G I2 := by
    intro hno
    rw [if_neg hno] at hy
    exact hy rfl I2 f2 k2 n2
  rw [n2]
  refine ⟨fun h2 => k_sign (by omega) hG k2 (k_isDigit (by omega) _ ⟨fun h3 => one (fun hc => ifm h3 hc.2), fun h3 => ⟨hG.1, k_sign (by omega) hG k2 ⟨hG.1, ?_⟩⟩⟩), fun h2 => one (fun hc => h2 hc.1)⟩
  have hs3 := ifq h3
  have hlt3 : k + 1 < e := sg_e (T := T) rfl (by omega)
  rw [if_pos ⟨h2, hs3⟩] at hy
  generalize hsg3 : sgn8 T e (k + 1) = u at *
  intro I3 q3 I4 q4
  rw [n2, wr_id (x := 10 * (s - 48)) (by omega) (by omega), wr_id (x := 10 * (s - 48) + u) (by omega) (by omega), wr_id (x := 10 * (s - 48) + u - 48) (by omega) (by omega)] at q3
  have a93 : I3 a 9 = k + 1 := by rw [q3, set_row, upR_ne _ (by decide)]; exact k2.1.2
  rw [a93, wr_id (x := k + 1 + 1) (by omega) (by omega)] at q4
  have f4 : FK a I I4 := f2.tr ⟨fun b hb => by rw [q4, set_off _ hb, q3, set_off _ hb], fun j h3 h4 => by rw [q4, set_row, upR_ne _ h3, q3, set_row, upR_ne _ h4]⟩
  refine hy rfl I4 f4 (hK.fk f4.rd (by rw [q4, set_row, upR_same]; dsimp only; omega) (by dsimp only; omega)) ?_
  rw [q4, set_row, upR_ne _ (by decide), q3, set_row, upR_same]
theorem k_write (hd : d < 990) (hG : GL G a) (ha : 0 ≤ a) (x : Int) (h : ∀ I1, FRd a I I1 → I1 a 9 = I a 9 → (∀ cs, KW I a cs → (cs.length : Int) < 100 → KW I1 a (cs ++ [x])) → Q 0 G I1) : mu_WP mu_code d 13 0 [(1, a), (0, x)] [] G I Q := by
  obtain ⟨g1, r1, r2, r3, r4, r5, r7, s1, s2, s3, s4, s5, s6⟩ := id hG
  have no : ¬ (0 ≤ I a 6 ∧ I a 6 < 100) → Q 0 G I := fun hn => h I (FRd.rf a I) rfl (fun cs hw hl => absurd ⟨by rw [hw.1]; omega, by rw [hw.1]; exact hl⟩ hn)
  refine vc_13_0 (by omega) _ _ ⟨g1, fun h1 => no (by omega), fun h1 => ⟨fun h2 => ?_, fun h2 => no (by omega)⟩⟩
  rw [r5, s5]
  refine ⟨⟨by omega, rfl, by omega, by dsimp only; omega⟩, ?_⟩
  intro I1 q1 I2 q2
  have a6 : I1 a 6 = I a 6 := by rw [q1, set_off _ (by omega)]
  rw [a6, wr_id (x := I a 6 + 1) (by omega) (by omega)] at q2
  refine h I2 ⟨fun b hb hc => by rw [q2, set_off _ hb, q1, set_off _ hc], fun j h6 h9 h10 => by rw [q2, set_row, upR_ne _ h6, q1, set_off _ (by omega)]⟩ (by rw [q2, set_row, upR_ne _ (by decide), q1, set_off _ (by omega)]) ?_
  intro cs hw hl
  refine ⟨?_, ?_⟩
  · rw [q2, set_row, upR_same, hw.1]; simp
  · rw [q2, set_off _ (by omega), q1, set_row, hw.1]
    have := lst_add (x := x) hw.2
    rw [Int.zero_add] at this
    exact this
theorem k_test (hd : d < 960) (hG : GL G a) (ha : 0 ≤ a) (hX : TXs G I) (hT : ∀ j, 0 ≤ j → j < e → 0 ≤ T j ∧ T j ≤ 127) (hK : KS I a e T k) (h : KR G a e T k I (tesS T e k) Q) : mu_WP mu_code d 14 0 [(1, a), (3, 0), (3, 0)] [] G I Q := by
  have h9 := hK.1.2
  have hb := hK.2.2
  have sg : ∀ j, 0 ≤ j → sgn8 T e j = -1 ∨ (0 ≤ sgn8 T e j ∧ sgn8 T e j ≤ 127) := by
    intro j j0
    unfold sgn8
    by_cases hj : j < e
    · rw [if_pos hj]; exact Or.inr (hT j j0 hj)
    · rw [if_neg hj]; exact Or.inl rfl
  have x1 := hX 1 (by omega)
  have x2 := hX 2 (by omega)
  change sh G (-11) = _ ∧ lst (I (-11)) 0 _ at x1
  change sh G (-12) = _ ∧ lst (I (-12)) 0 _ at x2
  unfold tesS at h
  have b1 := ixL_bd (sgn8 T e k) (mu_str 1) 0 (by omega)
  have b2 := ixL_bd (sgn8 T e (k + 1)) (mu_str 2) 0 (by omega)
  have l1 : (mu_str 1).length = 6 := rfl
  have l2 : (mu_str 2).length = 3 := rfl
  refine vc_14_0 (by omega) _ ⟨hG.1, k_sign (by omega) hG hK ?_⟩
  rw [x1.1]
  have t1 : ((((mu_str 1).length : Int))).toNat = (mu_str 1).length := Int.toNat_natCast _
  have t2 : ((((mu_str 2).length : Int))).toNat = (mu_str 2).length := Int.toNat_natCast _
  dsimp only
  rw [t1, ix_is (Or.inl rfl) (sg k hb.1) x1.2]
  refine ⟨rfl, fun h1 => ?_, fun h1 => ⟨hG.1, ?_⟩⟩
  · rw [if_pos (by omega)] at h
    exact h.2 rfl I (FRd.rf a I) hK
  rw [if_neg (by omega)] at h
  have hlt : k < e := by
    by_cases hc : k < e
    · exact hc
    · have e1 : sgn8 T e k = -1 := by unfold sgn8; rw [if_neg hc]
      rw [e1] at h1
      exact absurd (show ixL (-1) (mu_str 1) 0 < 0 by decide) h1
  intro I1 q1
  rw [h9, wr_id (x := k + 1) (by omega) (by omega)] at q1
  have f1 : FK a I I1 := ⟨fun b hb => by rw [q1, set_off _ hb], fun j h3 _ => by rw [q1, set_row, upR_ne _ h3]⟩
  have k1 : KS I1 a e T (k + 1) := hK.fk f1.rd (by rw [q1, set_row, upR_same]) (by omega)
  refine k_sign (by omega) hG k1 ?_
  rw [x2.1]
  dsimp only
  rw [t2, ix_is (Or.inr rfl) (sg (k + 1) (by omega)) (by rw [f1.1 (-12) (by omega)]; exact x2.2)]
  refine ⟨rfl, fun h2 => ?_, fun h2 => ⟨hG.1, ?_⟩⟩
  · rw [if_pos (by omega)] at h
    exact h.2 rfl I1 f1.rd k1
  rw [if_neg (by omega)] at h
  have hlt2 : k + 1 < e := by
    by_cases hc : k + 1 < e
    · exact hc
    · have e1 : sgn8 T e (k + 1) = -1 := by unfold sgn8; rw [if_neg hc]
      rw [e1] at h2
      exact absurd (show ixL (-1) (mu_str 2) 0 < 0 by decide) h2
  intro I2 q2
  rw [k1.1.2, wr_id (x := k + 1 + 1) (by omega) (by omega)] at q2
  have f2 : FK a I I2 := f1.tr ⟨fun b hb => by rw [q2, set_off _ hb], fun j h3 _ => by rw [q2, set_row, upR_ne _ h3]⟩
  have k2 : KS I2 a e T (k + 2) := hK.fk f2.rd (by rw [q2, set_row, upR_same]; omega) (by omega)
  have nb := numS_bd (T := T) (e := e) (k := k + 2) (by omega)
  rw [l1] at b1
  rw [l2] at b2
  generalize ixL (sgn8 T e k) (mu_str 1) 0 = f at *
  generalize ixL (sgn8 T e (k + 1)) (mu_str 2) 0 = r at *
  refine k_number (by omega) hG k2 ?_ ?_
  · intro hg I3 f3 k3 n3
    rw [if_pos hg] at h
    rw [n3, wr_id (x := f * 3) (by omega) (by omega), wr_id (x := f * 3 + r) (by omega) (by omega), wr_id (x := (f * 3 + r) * 100) (by omega) (by omega), wr_id (x := (f * 3 + r) * 100 + (numS T e (k + 2)).2.2) (by omega) (by omega)]
    refine ⟨fun hz => absurd hz (by decide), fun _ => ⟨hG.1, k_write (by omega) hG ha _ ?_⟩⟩
    intro I4 f4 e4 w4
    refine h.1 rfl I4 ((f2.tr f3).rd.tr f4) (k3.fk f4 (by rw [e4]; exact k3.1.2) ⟨k3.2.2.1, k3.2.2.2.1⟩) ?_
    intro cs hw hl
    have := w4 cs ((f2.tr f3).kw hw) (by omega)
    have ec : cv (f + 8 * r + 32 * (numS T e (k + 2)).2.2) = (f * 3 + r) * 100 + (numS T e (k + 2)).2.2 := by
      unfold cv
      rw [if_neg (by omega)]
      omega
    dsimp only
    rw [List.map_cons, List.map_nil, ec]
    exact this
  · intro hg I3 f3 k3
    rw [if_neg (by rw [hg]; decide)] at h
    exact ⟨fun _ => h.2 rfl I3 (f2.tr f3).rd k3, fun hz => absurd rfl hz⟩
end

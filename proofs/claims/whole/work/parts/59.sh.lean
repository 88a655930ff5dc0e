/-! THE REFERENCE READS A LAW: signs, words, numbers -/
theorem set_same {I : mu_M} {a k v : Int} (h : I a k = v) : mu_set I a k v = I := by
  funext b j
  unfold mu_set
  split
  · rename_i hh
    rw [hh.1, hh.2, h]
  · rfl
theorem lst_lo {T : Row} {j x : Int} : ∀ {L : List Int} {a : Int}, lst T a L → j < a → lst (upR T j x) a L
  | [], _, _, _ => trivial
  | y :: L, a, h, hj => ⟨by rw [upR_ne _ (by omega)]; exact h.1, lst_lo h.2 (by omega)⟩
/-- the reader's state: the slot a, the end e, the tape T, the place k, whether it is wrong, how many are open, what it has written -/
def PSt (a e : Int) (T : Row) (k w o : Int) (L : List Int) (I : mu_M) : Prop := (I 115 5 = a ∧ I 115 6 = k ∧ I 115 7 = e ∧ I 115 8 = w ∧ I 115 9 = o) ∧ (I 116 (272 + a) = L.length ∧ lst (I 116) (277 + 140 * a) L) ∧ (∀ j, 0 ≤ j → j < 100 → I 116 (167 + j) = T j) ∧ (0 ≤ a ∧ a ≤ 4) ∧ (0 ≤ k ∧ k ≤ e ∧ e ≤ 100)
/-- what reading leaves as it is -/
def FPa (a : Int) (I I1 : mu_M) : Prop := (∀ b, b ≠ 115 → b ≠ 116 → I1 b = I b) ∧ (∀ j, j ≠ 6 → j ≠ 8 → j ≠ 9 → I1 115 j = I 115 j) ∧ ∀ j, j ≠ 272 + a → (j < 277 + 140 * a ∨ 277 + 140 * a + 140 ≤ j) → I1 116 j = I 116 j
theorem FPa.rf (a : Int) (I : mu_M) : FPa a I I := ⟨fun _ _ _ => rfl, fun _ _ _ _ => rfl, fun _ _ _ => rfl⟩
theorem FPa.tr {a : Int} {I I1 I2 : mu_M} (h : FPa a I I1) (h2 : FPa a I1 I2) : FPa a I I2 := ⟨fun b h3 h4 => by rw [h2.1 b h3 h4, h.1 b h3 h4], fun j h3 h4 h5 => by rw [h2.2.1 j h3 h4 h5, h.2.1 j h3 h4 h5], fun j h3 h4 => by rw [h2.2.2 j h3 h4, h.2.2 j h3 h4]⟩
theorem FPa.w {a : Int} (I : mu_M) {k x : Int} (hk : k = 6 ∨ k = 8 ∨ k = 9) : FPa a I (mu_set I 115 k x) := ⟨fun b h _ => set_off I h, fun j h1 h2 h3 => by rw [set_row, upR_ne _ (by omega)], fun j _ _ => by rw [set_off _ (by decide)]⟩
theorem PSt.place {a e : Int} {T : Row} {k w o : Int} {L : List Int} {I : mu_M} (h : PSt a e T k w o L I) {x : Int} (hx : 0 ≤ x ∧ x ≤ e) : PSt a e T x w o L (mu_set I 115 6 x) := by
  obtain ⟨⟨h1, h2, h3, h4, h5⟩, h6, h7, h8, h9⟩ := h
  refine ⟨⟨?_, ?_, ?_, ?_, ?_⟩, by rw [set_off _ (by decide)]; exact h6, by rw [set_off _ (by decide)]; exact h7, h8, by omega⟩
  · rw [set_row, upR_ne _ (by decide)]; exact h1
  · rw [set_row, upR_same]
  · rw [set_row, upR_ne _ (by decide)]; exact h3
  · rw [set_row, upR_ne _ (by decide)]; exact h4
  · rw [set_row, upR_ne _ (by decide)]; exact h5
theorem PSt.wrong {a e : Int} {T : Row} {k w o : Int} {L : List Int} {I : mu_M} (h : PSt a e T k w o L I) {x : Int} : PSt a e T k x o L (mu_set I 115 8 x) := by
  obtain ⟨⟨h1, h2, h3, h4, h5⟩, h6, h7, h8, h9⟩ := h
  refine ⟨⟨?_, ?_, ?_, ?_, ?_⟩, by rw [set_off _ (by decide)]; exact h6, by rw [set_off _ (by decide)]; exact h7, h8, h9⟩
  · rw [set_row, upR_ne _ (by decide)]; exact h1
  · rw [set_row, upR_ne _ (by decide)]; exact h2
  · rw [set_row, upR_ne _ (by decide)]; exact h3
  · rw [set_row, upR_same]
  · rw [set_row, upR_ne _ (by decide)]; exact h5
theorem PSt.opens {a e : Int} {T : Row} {k w o : Int} {L : List Int} {I : mu_M} (h : PSt a e T k w o L I) {x : Int} : PSt a e T k w x L (mu_set I 115 9 x) := by
  obtain ⟨⟨h1, h2, h3, h4, h5⟩, h6, h7, h8, h9⟩ := h
  refine ⟨⟨?_, ?_, ?_, ?_, ?_⟩, by rw [set_off _ (by decide)]; exact h6, by rw [set_off _ (by decide)]; exact h7, h8, h9⟩
  · rw [set_row, upR_ne _ (by decide)]; exact h1
  · rw [set_row, upR_ne _ (by decide)]; exact h2
  · rw [set_row, upR_ne _ (by decide)]; exact h3
  · rw [set_row, upR_ne _ (by decide)]; exact h4
  · rw [set_row, upR_same]
/-- the texts that were there before -/
def TXs (G : mu_G) (I : mu_M) : Prop := ∀ i : Nat, i < 5 → sh G (-10 - (i : Int)) = (50, ((mu_str i).length : Int)) ∧ lst (I (-10 - (i : Int))) 0 (mu_str i)
theorem TXs.keep {G : mu_G} {I I1 : mu_M} (h : TXs G I) (hI : ∀ b, b < 0 → I1 b = I b) : TXs G I1 := fun i hi => ⟨(h i hi).1, by rw [hI _ (by omega)]; exact (h i hi).2⟩
theorem TXs.fp {G : mu_G} {I I1 : mu_M} {a : Int} (h : TXs G I) (hI : FPa a I I1) : TXs G I1 := h.keep (fun b hb => hI.1 b (by omega) (by omega))
section
variable {d : Nat} {G : mu_G} {I : mu_M} {Q : Int → mu_G → mu_M → Prop} {a e : Int} {T : Row} {k w o : Int} {L : List Int}
theorem r_here (hd : d < 990) (hM : MR G) (hP : PSt a e T k w o L I) (h : Q (sgn8 T e k) G I) : mu_WP mu_code d 150 0 [(1, 115)] [] G I Q := by
  obtain ⟨⟨h1, h2, h3, h4, h5⟩, h6, h7, h8, h9⟩ := hP
  refine vc_150_0 (by omega) _ ?_
  unfold sgn8 at h
  rw [h2, h3]
  refine ⟨hM.1, fun h10 => ?_, fun h10 => ?_⟩
  · rw [if_pos h10] at h
    have e1 : wr (167 + k) = 167 + k := wr_id (by omega) (by omega)
    simp only [hM, e1]
    rw [h7 k (by omega) (by omega)]
    exact ⟨by (try simp only [true_and]); omega, h⟩
  · rw [if_neg h10] at h
    exact h
/-- a reader that is wrong stays as it is -/
theorem r_must1 (hd : d < 980) (hM : MR G) (hP : PSt a e T k 1 o L I) (c : Int) (h : Q 0 G I) : mu_WP mu_code d 152 0 [(1, 115), (0, c)] [] G I Q := by
  have h8 : I 115 8 = 1 := hP.1.2.2.2.1
  have h6 : I 115 6 = k := hP.1.2.1
  have hk := hP.2.2.2.2
  have e1 : wr (k + 0) = k := by rw [Int.add_zero]; exact wr_id (by omega) (by omega)
  refine vc_152_0 (by omega) _ _ ⟨hM.1, fun h1 => absurd h1 (by omega), fun _ => ?_⟩
  intro I1 q1
  rw [set_same h8] at q1
  subst q1
  rw [h8, h6, e1]
  refine ⟨fun h1 => absurd h1 (by omega), fun _ I2 q2 => ?_⟩
  rw [set_same h6] at q2
  subst q2
  exact h
theorem r_must (hd : d < 980) (hM : MR G) (hP : PSt a e T k 0 o L I) (c : Int) (hc : 0 ≤ c)
  (h : ∀ I1, FPa a I I1 → (if sgn8 T e k = c then PSt a e T (k + 1) 0 o L I1 else PSt a e T k 1 o L I1) → Q 0 G I1) : mu_WP mu_code d 152 0 [(1, 115), (0, c)] [] G I Q := by
  have h8 : I 115 8 = 0 := hP.1.2.2.2.1
  have h6 : I 115 6 = k := hP.1.2.1
  have hk := hP.2.2.2.2
  refine vc_152_0 (by omega) _ _ ⟨hM.1, fun _ => r_here (by omega) hM hP ⟨fun h1 => ⟨hM.1, ?_⟩, fun h1 => ⟨hM.1, ?_⟩⟩, fun h1 => absurd h8 h1⟩
  · intro I1 q1
    rw [set_same h8] at q1
    subst q1
    have hlt := sg_e h1 hc
    have e1 : wr (k + 1) = k + 1 := wr_id (by omega) (by omega)
    rw [h8, h6, e1]
    refine ⟨fun _ I2 q2 => ?_, fun h2 => absurd rfl h2⟩
    subst q2
    refine h _ (FPa.w I1 (by simp)) ?_
    rw [if_pos h1]
    exact hP.place (by omega)
  · intro I1 q1
    have P1 : PSt a e T k 1 o L I1 := by rw [q1]; exact hP.wrong
    have e1 : wr (k + 0) = k := by rw [Int.add_zero]; exact wr_id (by omega) (by omega)
    rw [P1.1.2.2.2.1, P1.1.2.1, e1]
    refine ⟨fun h2 => absurd h2 (by omega), fun _ I2 q2 => ?_⟩
    rw [set_same P1.1.2.1] at q2
    subst q2
    refine h _ (q1 ▸ FPa.w I (by simp)) ?_
    rw [if_neg h1]
    exact P1
/-- a word -/
theorem r_spells1 (hd : d < 970) (hM : MR G) (hX : TXs G I) (i : Nat) (hi : i < 5) (hP : PSt a e T k 1 o L I) (h : Q 0 G I) : mu_WP mu_code d 151 0 [(1, 115), (1, -10 - (i : Int)), (3, 0)] [] G I Q := by
  obtain ⟨x1, x2⟩ := hX i hi
  have hl : (mu_str i).length ≤ 6 := by
    have : i = 0 ∨ i = 1 ∨ i = 2 ∨ i = 3 ∨ i = 4 := by omega
    rcases this with rfl | rfl | rfl | rfl | rfl <;> decide
  refine vc_151_0 (by omega) _ _ ?_
  suffices H : ∀ (n : Nat) (j : Int), j + n = (mu_str i).length → 0 ≤ j → mu_WP mu_code d 151 2 [(1, 115), (1, -10 - (i : Int)), (0, j)] [] G I Q from H (mu_str i).length 0 (by omega) (by omega)
  intro n
  induction n with
  | zero =>
    intro j hj j0
    refine vc_151_2 (by omega) _ _ _ ?_
    rw [x1]
    exact ⟨rfl, fun h1 => absurd h1 (by dsimp only; omega), fun _ => h⟩
  | succ n ih =>
    intro j hj j0
    refine vc_151_2 (by omega) _ _ _ ?_
    rw [x1, wr_id (x := j + 1) (by omega) (by omega)]
    refine ⟨rfl, fun h1 => ⟨⟨rfl, j0, h1⟩, hM.1, r_must1 (by omega) hM hP _ (ih (j + 1) (by omega) (by omega))⟩, fun h1 => absurd (show j < _ by dsimp only; omega) h1⟩
theorem r_spells (hd : d < 970) (hM : MR G) (hX : TXs G I) (i : Nat) (hi : i < 5) (hP : PSt a e T k 0 o L I)
  (h : ∀ I1, FPa a I I1 → PSt a e T (spS T e (mu_str i) k).2 (if (spS T e (mu_str i) k).1 = true then 0 else 1) o L I1 → Q 0 G I1) : mu_WP mu_code d 151 0 [(1, 115), (1, -10 - (i : Int)), (3, 0)] [] G I Q := by
  obtain ⟨x1, x2⟩ := hX i hi
  have hl : (mu_str i).length ≤ 6 ∧ ∀ c ∈ mu_str i, 0 ≤ c := by
    have : i = 0 ∨ i = 1 ∨ i = 2 ∨ i = 3 ∨ i = 4 := by omega
    rcases this with rfl | rfl | rfl | rfl | rfl <;> exact ⟨by decide, by decide⟩
  refine vc_151_0 (by omega) _ _ ?_
  suffices H : ∀ (r : List Int) (j k : Int) (I2 : mu_M), j + r.length = (mu_str i).length → 0 ≤ j → lst (I (-10 - (i : Int))) j r → (∀ c ∈ r, 0 ≤ c) → FPa a I I2 → PSt a e T k 0 o L I2 → (∀ I1, FPa a I I1 → PSt a e T (spS T e r k).2 (if (spS T e r k).1 = true then 0 else 1) o L I1 → Q 0 G I1) → mu_WP mu_code d 151 2 [(1, 115), (1, -10 - (i : Int)), (0, j)] [] G I2 Q from
    H (mu_str i) 0 k I (by omega) (by omega) x2 hl.2 (FPa.rf a I) hP h
  intro r
  induction r with
  | nil =>
    intro j k I2 hj j0 hx hc hf hP2 hq
    refine vc_151_2 (by omega) _ _ _ ?_
    rw [x1]
    refine ⟨rfl, fun h1 => absurd h1 (by dsimp only; simp at hj; omega), fun _ => hq I2 hf ?_⟩
    exact hP2
  | cons c r ih =>
    intro j k I2 hj j0 hx hc hf hP2 hq
    have hl2 : ((c :: r).length : Int) = r.length + 1 := by simp
    rw [hl2] at hj
    refine vc_151_2 (by omega) _ _ _ ?_
    rw [x1, wr_id (x := j + 1) (by omega) (by omega), hf.1 _ (by omega) (by omega), hx.1]
    have hcc := hc c (by simp)
    refine ⟨rfl, fun h1 => ⟨⟨rfl, j0, h1⟩, hM.1, r_must (by omega) hM hP2 c hcc ?_⟩, fun h1 => absurd (show j < _ by dsimp only; omega) h1⟩
    intro I3 f3 p3
    rw [spS] at hq
    by_cases hs : sgn8 T e k = c
    · rw [if_pos hs] at p3 hq
      exact ih (j + 1) (k + 1) I3 (by omega) (by omega) hx.2 (fun c hc2 => hc c (by simp [hc2])) (hf.tr f3) p3 hq
    · rw [if_neg hs] at p3 hq
      -- wrong from here on
      suffices HH : ∀ (n : Nat) (j : Int), j + n = (mu_str i).length → 0 ≤ j → mu_WP mu_code d 151 2 [(1, 115), (1, -10 - (i : Int)), (0, j)] [] G I3 Q from HH r.length (j + 1) (by omega) (by omega)
      intro n
      induction n with
      | zero =>
        intro j hj j0
        refine vc_151_2 (by omega) _ _ _ ?_
        rw [x1]
        exact ⟨rfl, fun h1 => absurd h1 (by dsimp only; omega), fun _ => hq I3 (hf.tr f3) p3⟩
      | succ n ihn =>
        intro j hj j0
        refine vc_151_2 (by omega) _ _ _ ?_
        rw [x1, wr_id (x := j + 1) (by omega) (by omega)]
        refine ⟨rfl, fun h1 => ⟨⟨rfl, j0, h1⟩, hM.1, r_must1 (by omega) hM p3 _ (ihn (j + 1) (by omega) (by omega))⟩, fun h1 => absurd (show j < _ by dsimp only; omega) h1⟩
/-- one among letters -/
theorem r_among (hd : d < 970) (hM : MR G) (hX : TXs G I) (i : Nat) (hi : i < 5) (hP : PSt a e T k w o L I)
  (h : ∀ I1, FPa a I I1 → PSt a e T (if ixL (sgn8 T e k) (mu_str i) 0 = -1 then k else k + 1) w o L I1 → Q (ixL (sgn8 T e k) (mu_str i) 0) G I1) : mu_WP mu_code d 158 0 [(1, 115), (1, -10 - (i : Int)), (3, 0)] [] G I Q := by
  obtain ⟨x1, x2⟩ := hX i hi
  have hl : (mu_str i).length ≤ 6 ∧ ∀ c ∈ mu_str i, 0 ≤ c := by
    have : i = 0 ∨ i = 1 ∨ i = 2 ∨ i = 3 ∨ i = 4 := by omega
    rcases this with rfl | rfl | rfl | rfl | rfl <;> exact ⟨by decide, by decide⟩
  have hk := hP.2.2.2.2
  refine vc_158_0 (by omega) _ _ ?_
  suffices H : ∀ (r : List Int) (j : Int), j + r.length = (mu_str i).length → 0 ≤ j → lst (I (-10 - (i : Int))) j r → (∀ c ∈ r, 0 ≤ c) → (∀ I1, FPa a I I1 → PSt a e T (if ixL (sgn8 T e k) r j = -1 then k else k + 1) w o L I1 → Q (ixL (sgn8 T e k) r j) G I1) → mu_WP mu_code d 158 2 [(1, 115), (1, -10 - (i : Int)), (0, j)] [] G I Q from
    H (mu_str i) 0 (by omega) (by omega) x2 hl.2 h
  intro r
  induction r with
  | nil =>
    intro j hj j0 hx hc hq
    refine vc_158_2 (by omega) _ _ _ ?_
    rw [x1]
    refine ⟨rfl, fun h1 => absurd h1 (by dsimp only; simp at hj; omega), fun _ => ?_⟩
    exact hq I (FPa.rf a I) (by rw [ixL, if_pos rfl]; exact hP)
  | cons c r ih =>
    intro j hj j0 hx hc hq
    have hl2 : ((c :: r).length : Int) = r.length + 1 := by simp
    rw [hl2] at hj
    refine vc_158_2 (by omega) _ _ _ ?_
    rw [x1, wr_id (x := j + 1) (by omega) (by omega)]
    have hcc := hc c (by simp)
    refine ⟨rfl, fun h1 => ⟨hM.1, r_here (by omega) hM hP ⟨⟨by rw [x1], j0, by rw [x1]; exact h1⟩, ?_⟩⟩, fun h1 => absurd (show j < _ by dsimp only; omega) h1⟩
    rw [hx.1]
    rw [ixL] at hq
    refine ⟨fun h2 => ⟨hM.1, ?_⟩, fun h2 => ?_⟩
    · intro I2 q2
      have hlt := sg_e h2 hcc
      rw [hP.1.2.1, wr_id (x := k + 1) (by omega) (by omega)] at q2
      subst q2
      rw [if_pos h2, if_neg (by omega)] at hq
      exact hq _ (FPa.w I (by simp)) (hP.place (by omega))
    · rw [if_neg h2] at hq
      exact ih (j + 1) (by omega) (by omega) hx.2 (fun c hc2 => hc c (by simp [hc2])) hq
/-- a number -/
theorem r_figures1 (hd : d < 970) (hM : MR G) (hP : PSt a e T k 1 o L I) (h : Q 0 G I) : mu_WP mu_code d 153 0 [(1, 115), (3, 0), (3, 0)] [] G I Q := by
  have h8 : I 115 8 = 1 := hP.1.2.2.2.1
  refine vc_153_0 (by omega) _ ⟨hM.1, fun h1 => absurd h1 (by omega), fun _ I1 q1 => ?_⟩
  rw [set_same h8] at q1
  subst q1
  refine vc_153_34 (by omega) _ _ _ ⟨fun _ => ⟨hM.1, fun h1 => absurd h1 (by omega), fun _ => h⟩, fun h1 => absurd (by omega) h1⟩
theorem r_figures (hd : d < 970) (hM : MR G) (hP : PSt a e T k 0 o L I)
  (h : ∀ I1, FPa a I I1 → PSt a e T (numS T e k).2.1 (if (numS T e k).1 = true then 0 else 1) o L I1 → Q (numS T e k).2.2 G I1) : mu_WP mu_code d 153 0 [(1, 115), (3, 0), (3, 0)] [] G I Q := by
  have h8 : I 115 8 = 0 := hP.1.2.2.2.1
  have hk := hP.2.2.2.2
  unfold numS at h
  refine vc_153_0 (by omega) _ ⟨hM.1, fun _ => r_here (by omega) hM hP (r_in (by omega) _ _ _ ⟨fun h1 => ⟨hM.1, fun I1 q1 => ?_⟩, fun h1 => ⟨hM.1, fun I1 q1 => ?_⟩⟩), fun h1 => absurd h8 h1⟩
  · have P1 : PSt a e T k 1 o L I1 := by rw [q1]; exact hP.wrong
    rw [if_neg (ifm h1)] at h
    exact vc_153_34 (by omega) _ _ _ ⟨fun _ => ⟨hM.1, fun h1 => absurd h1 (by rw [P1.1.2.2.2.1]; omega), fun _ => h I1 (q1 ▸ FPa.w I (by simp)) P1⟩, fun h1 => absurd (by omega) h1⟩
  · have hd1 := ifq h1
    rw [set_same h8] at q1
    subst q1
    rw [if_pos hd1] at h
    have hlt : k < e := sg_e (T := T) rfl (show 0 ≤ sgn8 T e k by omega)
    have e1 : wr (wr (wr (10 * 0) + sgn8 T e k) - 48) = sgn8 T e k - 48 := by
      rw [wr_id (x := 10 * 0) (by omega) (by omega), wr_id (x := 10 * 0 + sgn8 T e k) (by omega) (by omega), wr_id (by omega) (by omega)]
      omega
    refine vc_153_34 (by omega) _ _ _ ⟨fun _ => ⟨hM.1, fun _ => r_here (by omega) hM hP (r_in (by omega) _ _ _ ⟨fun h2 => absurd hd1 (ifm h2), fun _ => ⟨fun _ => ⟨hM.1, r_here (by omega) hM hP ⟨hM.1, fun I2 q2 => ?_⟩⟩, fun h2 => absurd rfl h2⟩⟩), fun h2 => absurd h8 h2⟩, fun h2 => absurd (by omega) h2⟩
    rw [hP.1.2.1, wr_id (x := k + 1) (by omega) (by omega)] at q2
    have P2 : PSt a e T (k + 1) 0 o L I2 := by rw [q2]; exact hP.place (by omega)
    have f2 : FPa a I1 I2 := q2 ▸ FPa.w I1 (by simp)
    rw [e1, wr_id (x := 0 + 1) (by omega) (by omega)]
    generalize hv : sgn8 T e k - 48 = v at *
    refine vc_153_34 (by omega) _ _ _ ⟨fun _ => ⟨hM.1, fun _ => r_here (by omega) hM P2 (r_in (by omega) _ _ _ ⟨fun h2 => ?_, fun h2 => ⟨fun h3 => absurd h3 (by omega), fun _ => ⟨fun h3 => ⟨hM.1, r_here (by omega) hM P2 ⟨hM.1, fun I3 q3 => ?_⟩⟩, fun h3 => ?_⟩⟩⟩), fun h2 => absurd P2.1.2.2.2.1 h2⟩, fun h2 => absurd (by omega) h2⟩
    · rw [if_neg (by intro hc; exact ifm h2 hc.2)] at h
      exact h I2 f2 P2
    · have hd2 := ifq h2
      rw [if_pos ⟨h3, hd2⟩] at h
      have hlt2 : k + 1 < e := sg_e (T := T) rfl (show 0 ≤ sgn8 T e (k + 1) by omega)
      rw [P2.1.2.1, wr_id (x := k + 1 + 1) (by omega) (by omega)] at q3
      have P3 : PSt a e T (k + 2) 0 o L I3 := by rw [q3, show k + 1 + 1 = k + 2 by omega]; exact P2.place (by omega)
      have e2 : wr (wr (wr (10 * v) + sgn8 T e (k + 1)) - 48) = 10 * v + sgn8 T e (k + 1) - 48 := by
        rw [wr_id (x := 10 * v) (by omega) (by omega), wr_id (x := 10 * v + sgn8 T e (k + 1)) (by omega) (by omega), wr_id (by omega) (by omega)]
      rw [e2, wr_id (x := 0 + 1 + 1) (by omega) (by omega)]
      exact vc_153_34 (by omega) _ _ _ ⟨fun h4 => absurd h4 (by omega), fun _ => h I3 (f2.tr (q3 ▸ FPa.w I2 (by simp))) P3⟩
    · rw [if_neg (by intro hc; exact h3 hc.1)] at h
      exact h I2 f2 P2
/-- a code is written -/
theorem r_emits1 (hd : d < 970) (hM : MR G) (hP : PSt a e T k 1 o L I) (c : Int) (h : Q 0 G I) : mu_WP mu_code d 157 0 [(1, 115), (0, c)] [] G I Q :=
  vc_157_0 (by omega) _ _ ⟨hM.1, fun h1 => absurd h1 (by rw [hP.1.2.2.2.1]; omega), fun _ => h⟩
theorem r_emits (hd : d < 970) (hM : MR G) (hP : PSt a e T k 0 o L I) (hl : L.length < 140) (c : Int) (h : ∀ I1, FPa a I I1 → PSt a e T k 0 o (L ++ [c]) I1 → Q 0 G I1) : mu_WP mu_code d 157 0 [(1, 115), (0, c)] [] G I Q := by
  obtain ⟨⟨h1, h2, h3, h4, h5⟩, ⟨h6, h61⟩, h7, h8, h9⟩ := hP
  have e1 : wr (272 + a) = 272 + a := wr_id (by omega) (by omega)
  have e2 : wr (140 * a) = 140 * a := wr_id (by omega) (by omega)
  have e3 : wr (277 + 140 * a) = 277 + 140 * a := wr_id (by omega) (by omega)
  have e4 : wr (277 + 140 * a + (L.length : Int)) = 277 + 140 * a + L.length := wr_id (by omega) (by omega)
  refine vc_157_0 (by omega) _ _ ⟨hM.1, fun _ => ?_, fun hn => absurd h4 hn⟩
  simp only [hM, h1, e1, e2, e3, h6, e4]
  refine ⟨by (try simp only [true_and]); omega, by (try simp only [true_and]); omega, ?_⟩
  intro I4 q4
  have a4 : I4 115 5 = a := by rw [q4, set_off _ (by decide)]; exact h1
  have m4 : I4 116 (272 + a) = L.length := by rw [q4, set_row, upR_ne _ (by omega)]; exact h6
  rw [a4, e1, m4, wr_id (x := (L.length : Int) + 1) (by omega) (by omega)]
  refine ⟨by (try simp only [true_and]); omega, by (try simp only [true_and]); omega, ?_⟩
  intro I8 q8
  refine h I8 ⟨fun b hb hb2 => by rw [q8, set_off _ hb2, q4, set_off _ hb2], fun j _ _ _ => by rw [q8, set_off _ (by decide), q4, set_off _ (by decide)], fun j j1 j2 => by rw [q8, set_row, upR_ne _ (by omega), q4, set_row, upR_ne _ (by omega)]⟩ ?_
  have o115 : I8 115 = I 115 := by rw [q8, set_off _ (by decide), q4, set_off _ (by decide)]
  refine ⟨by rw [o115]; exact ⟨h1, h2, h3, h4, h5⟩, ⟨by rw [q8, set_row, upR_same]; simp, ?_⟩, fun j j0 j1 => by rw [q8, set_row, upR_ne _ (by omega), q4, set_row, upR_ne _ (by omega)]; exact h7 j j0 j1, h8, h9⟩
  rw [q8, set_row, q4, set_row]
  have hlow := lst_lo (j := 272 + a) (x := (L.length : Int) + 1) (lst_add (x := c) h61) (by omega)
  exact hlow
end

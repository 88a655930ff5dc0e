/-! THE CLASS'S PEOPLE: what their cells say -/
/-- the class of a kind -/
def kcl (n : Int) : Int := if n = 1 then 7 else if n = 2 then 6 else if n = 3 then 0 else if n = 4 then 4 else if n = 5 then 3 else if n = 6 then 8 else 9
def KD (G : mu_G) (I : mu_M) (K n : Int) : Prop := 127 ≤ K ∧ sh G K = (kcl n, 0) ∧ I K 0 = n
/-- the one at a is the i-th of the row S -/
def PE (G : mu_G) (I : mu_M) (a : Int) (S : Row) (i : Int) : Prop := (I a 0 = i ∧ I a 2 = S (49 + i) ∧ I a 3 = S (53 + i) ∧ I a 4 = S (1 + i) ∧ I a 5 = S (5 + i) ∧ I a 6 = S (9 + i)) ∧ (∀ k, 0 ≤ k → k < 4 → I (a + 2) k = S (57 + 4 * i + k)) ∧ (∀ k, 0 ≤ k → k < S (9 + i) → I (a + 3) k = S (13 + 3 * i + k) ∧ I (a + 4) k = S (25 + 3 * i + k)) ∧ KD G I (rf G a 1) (S (45 + i))
theorem KD.keep {G G1 : mu_G} {I I1 : mu_M} {K n : Int} (h : KD G I K n) (hI : ∀ b, 127 ≤ b → I1 b = I b) (hG : ∀ b, sh G1 b = sh G b) : KD G1 I1 K n := ⟨h.1, by rw [hG]; exact h.2.1, by rw [hI K h.1]; exact h.2.2⟩
/-- the same row, where it speaks of i -/
def SameAt (S T : Row) (i : Int) : Prop := T (1 + i) = S (1 + i) ∧ T (5 + i) = S (5 + i) ∧ T (9 + i) = S (9 + i) ∧ T (45 + i) = S (45 + i) ∧ T (49 + i) = S (49 + i) ∧ T (53 + i) = S (53 + i) ∧ (∀ k, 0 ≤ k → k < 4 → T (57 + 4 * i + k) = S (57 + 4 * i + k)) ∧ ∀ k, 0 ≤ k → k < 3 → T (13 + 3 * i + k) = S (13 + 3 * i + k) ∧ T (25 + 3 * i + k) = S (25 + 3 * i + k)
theorem PE.keep {G G1 : mu_G} {I I1 : mu_M} {a i : Int} {S T : Row} (h : PE G I a S i) (h9 : S (9 + i) ≤ 3) (h0 : ∀ j, j < 10 → I1 a j = I a j) (h2 : ∀ k, 0 ≤ k → k < 4 → I1 (a + 2) k = I (a + 2) k) (h3 : ∀ k, 0 ≤ k → k < 3 → I1 (a + 3) k = I (a + 3) k) (h4 : ∀ k, 0 ≤ k → k < 3 → I1 (a + 4) k = I (a + 4) k) (hK : ∀ b, 127 ≤ b → I1 b = I b) (hs : ∀ b, sh G1 b = sh G b) (hr : rf G1 a 1 = rf G a 1) (hT : SameAt S T i) : PE G1 I1 a T i := by
  obtain ⟨⟨a1, a2, a3, a4, a5, a6⟩, a7, a8, a9⟩ := h
  obtain ⟨t1, t5, t9, t45, t49, t53, tw, td⟩ := hT
  refine ⟨⟨by rw [h0 _ (by omega)]; exact a1, by rw [h0 _ (by omega), t49]; exact a2, by rw [h0 _ (by omega), t53]; exact a3, by rw [h0 _ (by omega), t1]; exact a4, by rw [h0 _ (by omega), t5]; exact a5, by rw [h0 _ (by omega), t9]; exact a6⟩, ?_, ?_, ?_⟩
  · intro k k0 k1
    rw [h2 k k0 k1, tw k k0 k1]
    exact a7 k k0 k1
  · intro k k0 k1
    rw [t9] at k1
    rw [h3 k k0 (by omega), h4 k k0 (by omega), (td k k0 (by omega)).1, (td k k0 (by omega)).2]
    exact a8 k k0 k1
  · rw [hr, t45]
    exact a9.keep hK hs
theorem SameAt.rf (S : Row) (i : Int) : SameAt S S i := ⟨rfl, rfl, rfl, rfl, rfl, rfl, fun _ _ _ => rfl, fun _ _ _ => ⟨rfl, rfl⟩⟩
/-- what a change of the one at a leaves: all other cells, and what a day has made of it -/
def FP1 (a : Int) (I I1 : mu_M) : Prop := (∀ b, (b < a ∨ a + 5 ≤ b) → I1 b = I b) ∧ ∀ j, 10 ≤ j → I1 a j = I a j
theorem FP1.rf (a : Int) (I : mu_M) : FP1 a I I := ⟨fun _ _ => rfl, fun _ _ => rfl⟩
theorem FP1.tr {a : Int} {I I1 I2 : mu_M} (h : FP1 a I I1) (h2 : FP1 a I1 I2) : FP1 a I I2 := ⟨fun b hb => by rw [h2.1 b hb, h.1 b hb], fun j hj => by rw [h2.2 j hj, h.2 j hj]⟩
theorem FP1.w {a : Int} (I : mu_M) {b k x : Int} (hb : (a < b ∧ b < a + 5) ∨ (b = a ∧ k < 10)) : FP1 a I (mu_set I b k x) := ⟨fun c hc => set_off I (by omega), fun j hj => by
  rcases hb with hb | hb
  · rw [set_off I (by omega)]
  · rw [hb.1, set_row, upR_ne _ (by omega)]⟩
section
variable {d : Nat} {G : mu_G} {I : mu_M} {Q : Int → mu_G → mu_M → Prop} {a i : Int} {S : Row}
theorem k_isDebt (hd : d < 990) (hG : GP G a) (hP : PE G I a S i) (h9 : S (9 + i) ≤ 3) (x : Int) (h : Q (if 0 ≤ x ∧ x < S (9 + i) then 1 else 0) G I) : mu_WP mu_code d 25 0 [(1, a), (0, x)] [] G I Q := by
  refine vc_25_0 (by omega) _ _ ?_
  rw [hP.1.2.2.2.2.2]
  refine ⟨fun h1 => ?_, fun h1 => ⟨hG.1, fun h2 => ⟨fun _ => ?_, fun h3 => absurd (by omega) h3⟩, fun h2 => ?_⟩⟩
  · rw [if_neg (by omega)] at h; exact h
  · rw [if_pos (by omega)] at h; exact h
  · rw [if_neg (by omega)] at h; exact h
theorem k_creditorAt (hd : d < 980) (hG : GP G a) (hP : PE G I a S i) (h9 : S (9 + i) ≤ 3) (x : Int) (h : Q (if 0 ≤ x ∧ x < S (9 + i) then S (13 + 3 * i + x) else -1) G I) : mu_WP mu_code d 24 0 [(1, a), (0, x)] [] G I Q := by
  refine vc_24_0 (by omega) _ _ ⟨hG.1, k_isDebt (by omega) hG hP h9 x ⟨fun h1 => ?_, fun h1 => ⟨hG.1, ?_⟩⟩⟩
  · rw [if_neg (ifn h1)] at h; exact h
  · have hx := ifp h1
    rw [if_pos hx] at h
    rw [hG.2.2.1, hG.2.2.2.2.2.1, (hP.2.2.1 x hx.1 hx.2).1]
    exact ⟨⟨rfl, hx.1, by dsimp only; omega⟩, h⟩
theorem k_sumAt (hd : d < 980) (hG : GP G a) (hP : PE G I a S i) (h9 : S (9 + i) ≤ 3) (x : Int) (h : Q (if 0 ≤ x ∧ x < S (9 + i) then S (25 + 3 * i + x) else -1) G I) : mu_WP mu_code d 27 0 [(1, a), (0, x)] [] G I Q := by
  refine vc_27_0 (by omega) _ _ ⟨hG.1, k_isDebt (by omega) hG hP h9 x ⟨fun h1 => ?_, fun h1 => ⟨hG.1, ?_⟩⟩⟩
  · rw [if_neg (ifn h1)] at h; exact h
  · have hx := ifp h1
    rw [if_pos hx] at h
    rw [hG.2.2.2.1, hG.2.2.2.2.2.2, (hP.2.2.1 x hx.1 hx.2).2]
    exact ⟨⟨rfl, hx.1, by dsimp only; omega⟩, h⟩
theorem k_placeOfDebt (hd : d < 980) (hG : GP G a) (hP : PE G I a S i) (h9 : S (9 + i) ≤ 3) (q : Int) (h : Q (debtTo S i q) G I) : mu_WP mu_code d 26 0 [(1, a), (0, q), (3, 0)] [] G I Q := by
  refine vc_26_0 (by omega) _ _ ?_
  suffices H : ∀ (n : Nat) (k : Int), k + n = 3 → 0 ≤ k → Q (dT S i q n k) G I → mu_WP mu_code d 26 2 [(1, a), (0, q), (0, k)] [] G I Q from H 3 0 (by omega) (by omega) h
  intro n
  induction n with
  | zero =>
    intro k hk h0 h
    exact vc_26_2 (by omega) _ _ _ ⟨fun h1 => absurd h1 (by omega), fun _ => h⟩
  | succ n ih =>
    intro k hk h0 h
    rw [dT] at h
    refine vc_26_2 (by omega) _ _ _ ⟨fun _ => ⟨hG.1, k_isDebt (by omega) hG hP h9 k ⟨fun h1 => ?_, fun h1 => ⟨hG.1, ?_⟩⟩⟩, fun h1 => absurd (by omega) h1⟩
    · have h1 := ifn h1
      rw [if_neg (by omega)] at h; exact h
    · have hx := ifp h1
      rw [if_pos hx.2] at h
      rw [hG.2.2.1, hG.2.2.2.2.2.1, (hP.2.2.1 k hx.1 hx.2).1, wr_id (x := k + 1) (by omega) (by omega)]
      refine ⟨⟨rfl, hx.1, by dsimp only; omega⟩, fun h2 => ?_, fun h2 => ?_⟩
      · rw [if_pos h2] at h; exact h
      · rw [if_neg h2] at h
        exact ih (k + 1) (by omega) (by omega) h
theorem k_owesTogether (hd : d < 980) (hG : GP G a) (hP : PE G I a S i) (h9 : S (9 + i) ≤ 3) (hs : ∀ k, 0 ≤ k → k < S (9 + i) → 0 ≤ S (25 + 3 * i + k) ∧ S (25 + 3 * i + k) ≤ 99) (h : Q (sumsS S i) G I) : mu_WP mu_code d 35 0 [(1, a), (3, 0), (3, 0)] [] G I Q := by
  refine vc_35_0 (by omega) _ ?_
  suffices H : ∀ (n : Nat) (k x : Int), k + n = 3 → 0 ≤ k → (0 ≤ x ∧ x ≤ 99 * k) → Q (smL S i n k x) G I → mu_WP mu_code d 35 4 [(1, a), (0, x), (0, k)] [] G I Q from H 3 0 0 (by omega) (by omega) (by omega) h
  intro n
  induction n with
  | zero =>
    intro k x hk h0 hx h
    exact vc_35_4 (by omega) _ _ _ ⟨fun h1 => absurd h1 (by omega), fun _ => h⟩
  | succ n ih =>
    intro k x hk h0 hx h
    rw [smL] at h
    refine vc_35_4 (by omega) _ _ _ ⟨fun _ => ⟨hG.1, k_isDebt (by omega) hG hP h9 k ⟨fun h1 => ?_, fun h1 => ⟨hG.1, ?_⟩⟩⟩, fun h1 => absurd (by omega) h1⟩
    · have h1 := ifn h1
      rw [if_neg (by omega)] at h; exact h
    · have hk2 := ifp h1
      have hs := hs k h0 hk2.2
      rw [if_pos hk2.2] at h
      rw [hG.2.2.2.1, hG.2.2.2.2.2.2, (hP.2.2.1 k hk2.1 hk2.2).2, wr_id (x := k + 1) (by omega) (by omega), wr_id (x := x + S (25 + 3 * i + k)) (by omega) (by omega)]
      exact ⟨⟨rfl, hk2.1, by dsimp only; omega⟩, ih (k + 1) _ (by omega) (by omega) (by omega) h⟩
theorem k_owesAs (hd : d < 980) {b : Int} {T : Row} (hG : GP G a) (hG2 : GP G b) (hP : PE G I a S i) (hP2 : PE G I b T i) (h9 : S (9 + i) ≤ 3) (h91 : T (9 + i) ≤ 3)
  (h1 : (S (9 + i) = T (9 + i) ∧ ∀ k, 0 ≤ k → k < S (9 + i) → S (13 + 3 * i + k) = T (13 + 3 * i + k) ∧ S (25 + 3 * i + k) = T (25 + 3 * i + k)) → Q 1 G I)
  (h0 : ¬ (S (9 + i) = T (9 + i) ∧ ∀ k, 0 ≤ k → k < S (9 + i) → S (13 + 3 * i + k) = T (13 + 3 * i + k) ∧ S (25 + 3 * i + k) = T (25 + 3 * i + k)) → Q 0 G I) : mu_WP mu_code d 36 0 [(1, a), (1, b), (3, 0)] [] G I Q := by
  refine vc_36_0 (by omega) _ _ ⟨hG.1, hG2.1, ?_⟩
  rw [hP.1.2.2.2.2.2, hP2.1.2.2.2.2.2]
  refine ⟨fun he => ?_, fun he => h0 (fun hc => he hc.1)⟩
  suffices H : ∀ (n : Nat) (k : Int), k + n = 3 → 0 ≤ k → (∀ j, 0 ≤ j → j < k → j < S (9 + i) → S (13 + 3 * i + j) = T (13 + 3 * i + j) ∧ S (25 + 3 * i + j) = T (25 + 3 * i + j)) → mu_WP mu_code d 36 15 [(1, a), (1, b), (0, k)] [] G I Q from H 3 0 (by omega) (by omega) (fun j j0 j1 => by omega)
  intro n
  induction n with
  | zero =>
    intro k hk k0 hs
    exact vc_36_15 (by omega) _ _ _ ⟨fun h1 => absurd h1 (by omega), fun _ => h1 ⟨he, fun j j0 j1 => hs j j0 (by omega) j1⟩⟩
  | succ n ih =>
    intro k hk k0 hs
    refine vc_36_15 (by omega) _ _ _ ⟨fun _ => ⟨hG.1, k_isDebt (by omega) hG hP h9 k ⟨fun h2 => ?_, fun h2 => ⟨hG.1, ?_⟩⟩⟩, fun h1 => absurd (by omega) h1⟩
    · have h2 := ifn h2
      exact h1 ⟨he, fun j j0 j1 => hs j j0 (by omega) j1⟩
    · have hx := ifp h2
      have g1 := hP.2.2.1 k hx.1 hx.2
      have g2 := hP2.2.2.1 k hx.1 (by omega)
      rw [hG.2.2.1, hG.2.2.2.2.2.1, hG.2.2.2.1, hG.2.2.2.2.2.2, hG2.2.2.1, hG2.2.2.2.2.2.1, hG2.2.2.2.1, hG2.2.2.2.2.2.2, g1.1, g1.2, g2.1, g2.2, wr_id (x := k + 1) (by omega) (by omega)]
      refine ⟨⟨rfl, hx.1, by dsimp only; omega⟩, hG2.1, ⟨rfl, hx.1, by dsimp only; omega⟩, fun h3 => ⟨⟨rfl, hx.1, by dsimp only; omega⟩, ⟨rfl, hx.1, by dsimp only; omega⟩, fun h5 => ?_, fun h5 => ?_⟩, fun h3 => ?_⟩
      · refine ih (k + 1) (by omega) (by omega) ?_
        intro j j0 j1 j2
        by_cases hj : j = k
        · rw [hj]; exact ⟨h3, h5⟩
        · exact hs j j0 (by omega) j2
      · exact h0 (fun hc => h5 (hc.2 k hx.1 hx.2).2)
      · exact h0 (fun hc => h3 (hc.2 k hx.1 hx.2).1)
end

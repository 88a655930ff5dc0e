/-! THE CLASS'S PEOPLE: debts and purses change -/
theorem PE.build {G : mu_G} {I I1 : mu_M} {a i : Int} {S T : Row} (h : PE G I a S i) (hi : 0 ≤ i ∧ i < 4) (ha : 0 ≤ a ∧ a + 5 ≤ 115) (hf : ∀ b, (b < a ∨ a + 5 ≤ b) → I1 b = I b) (h0 : ∀ j, j ≠ 5 → j ≠ 6 → j < 10 → I1 a j = I a j) (hw : I1 (a + 2) = I (a + 2)) (h5 : I1 a 5 = T (5 + i)) (h6 : I1 a 6 = T (9 + i)) (hT : ∀ j, (j ≠ 5 + i ∧ j ≠ 9 + i ∧ (j < 13 + 3 * i ∨ 13 + 3 * i + 3 ≤ j) ∧ (j < 25 + 3 * i ∨ 25 + 3 * i + 3 ≤ j)) → T j = S j) (hd : ∀ k, 0 ≤ k → k < T (9 + i) → I1 (a + 3) k = T (13 + 3 * i + k) ∧ I1 (a + 4) k = T (25 + 3 * i + k)) : PE G I1 a T i := by
  obtain ⟨⟨a1, a2, a3, a4, a5, a6⟩, a7, a8, a9⟩ := h
  refine ⟨⟨by rw [h0 0 (by omega) (by omega) (by omega)]; exact a1, by rw [h0 2 (by omega) (by omega) (by omega), hT _ (by omega)]; exact a2, by rw [h0 3 (by omega) (by omega) (by omega), hT _ (by omega)]; exact a3, by rw [h0 4 (by omega) (by omega) (by omega), hT _ (by omega)]; exact a4, h5, h6⟩, ?_, hd, ?_⟩
  · intro k k0 k1
    rw [hw, hT _ (by omega)]
    exact a7 k k0 k1
  · rw [hT _ (by omega)]
    exact a9.keep (fun b hb => hf b (by omega)) (fun _ => rfl)
section
variable {d : Nat} {G : mu_G} {I : mu_M} {Q : Int → mu_G → mu_M → Prop} {a i : Int} {S : Row}
theorem k_isD (hd : d < 990) (hG : sh G a = (2, 0)) {n : Int} (h6 : I a 6 = n) (h9 : n ≤ 3) (x : Int) (h : Q (if 0 ≤ x ∧ x < n then 1 else 0) G I) : mu_WP mu_code d 25 0 [(1, a), (0, x)] [] G I Q := by
  refine vc_25_0 (by omega) _ _ ?_
  rw [h6]
  refine ⟨fun h1 => ?_, fun h1 => ⟨hG, fun h2 => ⟨fun _ => ?_, fun h3 => absurd (by omega) h3⟩, fun h2 => ?_⟩⟩
  · rw [if_neg (by omega)] at h; exact h
  · rw [if_pos (by omega)] at h; exact h
  · rw [if_neg (by omega)] at h; exact h
theorem k_insertDebt (hd : d < 980) (hG : GP G a) (hP : PE G I a S i) (hi : 0 ≤ i ∧ i < 4) (ha : 0 ≤ a ∧ a + 5 ≤ 115) (h9 : 0 ≤ S (9 + i) ∧ S (9 + i) ≤ 2) (k : Int) (hk : 0 ≤ k ∧ k ≤ S (9 + i)) (q x : Int) (h : ∀ I1, FP1 a I I1 → PE G I1 a (ptS S i k q x) i → Q 0 G I1) : mu_WP mu_code d 29 0 [(1, a), (0, k), (0, q), (0, x), (3, 0)] [] G I Q := by
  have h6 := hP.1.2.2.2.2.2
  refine vc_29_0 (by omega) _ _ _ _ ?_
  rw [h6]
  refine ⟨hG.1, fun _ => ⟨fun h1 => absurd h1 (by omega), fun _ => ⟨fun h1 => absurd h1 (by omega), fun _ => ?_⟩⟩, fun h1 => absurd (by omega) h1⟩
  suffices H : ∀ (n : Nat) (j : Int) (I2 : mu_M), j ≤ k + n → k ≤ j → j ≤ S (9 + i) → FP1 a I I2 → (∀ m, m < 10 → I2 a m = I a m) → I2 (a + 2) = I (a + 2) → (∀ m, 0 ≤ m → m < 3 → ((j < m ∧ m ≤ S (9 + i) → I2 (a + 3) m = S (13 + 3 * i + m - 1) ∧ I2 (a + 4) m = S (25 + 3 * i + m - 1)) ∧ (m ≤ j ∧ m < S (9 + i) → I2 (a + 3) m = S (13 + 3 * i + m) ∧ I2 (a + 4) m = S (25 + 3 * i + m)))) → mu_WP mu_code d 29 27 [(1, a), (0, k), (0, q), (0, x), (0, j)] [] G I2 Q from
    H (S (9 + i) - k).toNat (S (9 + i)) I (by omega) hk.2 (by omega) (FP1.rf a I) (fun _ _ => rfl) rfl (fun m m0 m1 => ⟨fun hm => by omega, fun hm => hP.2.2.1 m m0 hm.2⟩)
  intro n
  induction n with
  | zero =>
    intro j I2 hj hkj hj9 hf h0 hw hm
    have hjk : j = k := by omega
    subst hjk
    refine vc_29_27 (by omega) _ _ _ _ _ ⟨fun h1 => absurd h1 (by omega), fun _ => ?_⟩
    simp only [hG.2.2.1, hG.2.2.2.1, hG.2.2.2.2.2.1, hG.2.2.2.2.2.2]
    refine ⟨hG.1, ⟨by omega, trivial, hk.1, by omega⟩, ?_⟩
    intro I17 q17
    refine ⟨⟨by omega, trivial, hk.1, by omega⟩, ?_⟩
    intro I20 q20 I23 q23
    have e6 : I20 a 6 = S (9 + i) := by rw [q20, set_off _ (by omega), q17, set_off _ (by omega), h0 6 (by omega), h6]
    rw [e6, wr_id (x := S (9 + i) + 1) (by omega) (by omega)] at q23
    have f23 : FP1 a I I23 := ((hf.tr (q17 ▸ FP1.w I2 (Or.inl (by omega)))).tr (q20 ▸ FP1.w I17 (Or.inl (by omega)))).tr (q23 ▸ FP1.w I20 (Or.inr ⟨rfl, by omega⟩))
    have eT9 : ptS S i j q x (9 + i) = S (9 + i) + 1 := ptS_9 hi (by omega) h9.2
    refine h I23 f23 (hP.build hi ha f23.1 ?_ ?_ ?_ ?_ ?_ ?_)
    · intro m m5 m6 m10
      rw [q23, set_row, upR_ne _ m6, q20, set_off _ (by omega), q17, set_off _ (by omega)]
      exact h0 m m10
    · rw [q23, set_off _ (by omega), q20, set_off _ (by omega), q17, set_off _ (by omega), hw]
    · rw [q23, set_row, upR_ne _ (by omega), q20, set_off _ (by omega), q17, set_off _ (by omega), h0 5 (by omega), hP.1.2.2.2.2.1, ptS_off hi (by omega) h9.2 (by omega) (by omega) (by omega)]
    · rw [q23, set_row, upR_same, eT9]
    · intro m hmm
      exact ptS_off hi (by omega) h9.2 hmm.2.1 hmm.2.2.1 hmm.2.2.2
    · intro m m0 m1
      rw [eT9] at m1
      obtain ⟨w1, w2⟩ := ptS_w (S := S) (q := q) (x := x) hi hk h9.2 m0 (by omega)
      obtain ⟨g1, g2⟩ := hm m m0 (by omega)
      rw [w1, w2]
      have c3 : I23 (a + 3) m = if m = j then q else I2 (a + 3) m := by
        rw [q23, set_off _ (by omega), q20, set_off _ (by omega), q17, set_row, upR_at]
      have c4 : I23 (a + 4) m = if m = j then x else I2 (a + 4) m := by
        rw [q23, set_off _ (by omega), q20, set_row, upR_at, q17, set_off _ (by omega)]
      rw [c3, c4]
      by_cases hmj : m = j
      · rw [if_pos hmj, if_pos hmj, if_pos hmj, if_pos hmj]; exact ⟨rfl, rfl⟩
      · rw [if_neg hmj, if_neg hmj, if_neg hmj, if_neg hmj]
        by_cases hlt : j < m
        · rw [if_pos ⟨hlt, by omega⟩, if_pos ⟨hlt, by omega⟩]
          exact g1 ⟨hlt, by omega⟩
        · rw [if_neg (by omega), if_neg (by omega)]
          exact g2 ⟨by omega, by omega⟩
  | succ n ih =>
    intro j I2 hj hkj hj9 hf h0 hw hm
    by_cases hjk : j = k
    · exact ih j I2 (by omega) hkj hj9 hf h0 hw hm
    refine vc_29_27 (by omega) _ _ _ _ _ ⟨fun _ => ?_, fun h1 => absurd (by omega) h1⟩
    simp only [hG.2.2.1, hG.2.2.2.1, hG.2.2.2.2.2.1, hG.2.2.2.2.2.2]
    rw [wr_id (x := j - 1) (by omega) (by omega), wr_id (x := j + -1) (by omega) (by omega)]
    obtain ⟨_, g2⟩ := hm (j - 1) (by omega) (by omega)
    have g2 := g2 ⟨by omega, by omega⟩
    refine ⟨hG.1, ⟨trivial, by omega, by omega⟩, ⟨by omega, trivial, by omega, by omega⟩, ?_⟩
    intro I4 q4
    refine ⟨⟨trivial, by omega, by omega⟩, ⟨by omega, trivial, by omega, by omega⟩, ?_⟩
    intro I8 q8
    have e4 : I4 (a + 4) (j - 1) = S (25 + 3 * i + (j - 1)) := by rw [q4, set_off _ (by omega)]; exact g2.2
    refine ih (j + -1) I8 (by omega) (by omega) (by omega) ((hf.tr (q4 ▸ FP1.w I2 (Or.inl (by omega)))).tr (q8 ▸ FP1.w I4 (Or.inl (by omega)))) ?_ ?_ ?_
    · intro m m10
      rw [q8, set_off _ (by omega), q4, set_off _ (by omega)]
      exact h0 m m10
    · rw [q8, set_off _ (by omega), q4, set_off _ (by omega), hw]
    · intro m m0 m3
      obtain ⟨k1, k2⟩ := hm m m0 m3
      have c3 : I8 (a + 3) m = if m = j then S (13 + 3 * i + (j - 1)) else I2 (a + 3) m := by
        rw [q8, set_off _ (by omega), q4, set_row, upR_at, g2.1]
      have c4 : I8 (a + 4) m = if m = j then S (25 + 3 * i + (j - 1)) else I2 (a + 4) m := by
        rw [q8, set_row, upR_at, e4, q4, set_off _ (by omega)]
      rw [c3, c4]
      by_cases hmj : m = j
      · rw [if_pos hmj, if_pos hmj]
        refine ⟨fun _ => ?_, fun hh => by omega⟩
        rw [hmj, show 13 + 3 * i + j - 1 = 13 + 3 * i + (j - 1) by omega, show 25 + 3 * i + j - 1 = 25 + 3 * i + (j - 1) by omega]
        exact ⟨rfl, rfl⟩
      · rw [if_neg hmj, if_neg hmj]
        exact ⟨fun hh => k1 ⟨by omega, hh.2⟩, fun hh => k2 ⟨by omega, hh.2⟩⟩
theorem k_setSum (hd : d < 980) (hG : GP G a) (hP : PE G I a S i) (hi : 0 ≤ i ∧ i < 4) (ha : 0 ≤ a ∧ a + 5 ≤ 115) (h9 : S (9 + i) ≤ 3) (k x : Int) (hk : 0 ≤ k ∧ k < S (9 + i)) (h : ∀ I1, FP1 a I I1 → PE G I1 a (upR S (25 + 3 * i + k) x) i → Q 0 G I1) : mu_WP mu_code d 30 0 [(1, a), (0, k), (0, x)] [] G I Q := by
  refine vc_30_0 (by omega) _ _ _ ⟨hG.1, k_isDebt (by omega) hG hP h9 k ⟨fun h1 => absurd hk (ifn h1), fun _ => ⟨hG.1, ?_⟩⟩⟩
  simp only [hG.2.2.1, hG.2.2.2.1, hG.2.2.2.2.2.1, hG.2.2.2.2.2.2]
  refine ⟨⟨by omega, trivial, hk.1, by omega⟩, ?_⟩
  intro I7 q7
  have f7 : FP1 a I I7 := q7 ▸ FP1.w I (Or.inl (by omega))
  have eT9 : upR S (25 + 3 * i + k) x (9 + i) = S (9 + i) := upR_ne _ (by omega)
  refine h I7 f7 (hP.build hi ha f7.1 ?_ ?_ ?_ ?_ ?_ ?_)
  · intro m m5 m6 m10
    rw [q7, set_off _ (by omega)]
  · rw [q7, set_off _ (by omega)]
  · rw [q7, set_off _ (by omega), hP.1.2.2.2.2.1, upR_ne _ (by omega)]
  · rw [q7, set_off _ (by omega), hP.1.2.2.2.2.2, eT9]
  · intro m hmm
    exact upR_ne _ (by omega)
  · intro m m0 m1
    rw [eT9] at m1
    obtain ⟨g1, g2⟩ := hP.2.2.1 m m0 m1
    refine ⟨?_, ?_⟩
    · rw [q7, set_off _ (by omega), upR_ne _ (by omega)]; exact g1
    · rw [q7, set_row, upR_at, upR_at, g2]
      by_cases hmk : m = k
      · rw [if_pos hmk, if_pos (by omega)]
      · rw [if_neg hmk, if_neg (by omega)]
theorem k_dropDebt (hd : d < 980) (hG : GP G a) (hP : PE G I a S i) (hi : 0 ≤ i ∧ i < 4) (ha : 0 ≤ a ∧ a + 5 ≤ 115) (h9 : S (9 + i) ≤ 3) (k : Int) (hk : 0 ≤ k ∧ k < S (9 + i)) (h : ∀ I1, FP1 a I I1 → PE G I1 a (tkS S i k) i → Q 0 G I1) : mu_WP mu_code d 31 0 [(1, a), (0, k), (3, 0)] [] G I Q := by
  have h6 := hP.1.2.2.2.2.2
  refine vc_31_0 (by omega) _ _ ⟨hG.1, k_isDebt (by omega) hG hP h9 k ⟨fun h1 => absurd hk (ifn h1), fun _ => ?_⟩⟩
  rw [wr_id (x := k + 1) (by omega) (by omega)]
  have fin : ∀ (j : Int) (I2 : mu_M), j = S (9 + i) → FP1 a I I2 → (∀ m, m < 10 → I2 a m = I a m) → I2 (a + 2) = I (a + 2) → (∀ m, 0 ≤ m → m < S (9 + i) → ((k ≤ m ∧ m < j - 1 → I2 (a + 3) m = S (13 + 3 * i + m + 1) ∧ I2 (a + 4) m = S (25 + 3 * i + m + 1)) ∧ (m < k ∨ j - 1 ≤ m → I2 (a + 3) m = S (13 + 3 * i + m) ∧ I2 (a + 4) m = S (25 + 3 * i + m)))) → ∀ I8, I8 = mu_set I2 a 6 (wr (I2 a 6 - 1)) → Q 0 G I8 := by
    intro j I2 hj hf h0 hw hm I8 q8
    rw [h0 6 (by omega), h6, wr_id (x := S (9 + i) - 1) (by omega) (by omega)] at q8
    have f8 : FP1 a I I8 := hf.tr (q8 ▸ FP1.w I2 (Or.inr ⟨rfl, by omega⟩))
    have eT9 : tkS S i k (9 + i) = S (9 + i) - 1 := tkS_9 hi hk.1 h9
    refine h I8 f8 (hP.build hi ha f8.1 ?_ ?_ ?_ ?_ ?_ ?_)
    · intro m m5 m6 m10
      rw [q8, set_row, upR_ne _ m6]
      exact h0 m m10
    · rw [q8, set_off _ (by omega), hw]
    · rw [q8, set_row, upR_ne _ (by omega), h0 5 (by omega), hP.1.2.2.2.2.1, tkS_off hi hk.1 h9 (by omega) (by omega) (by omega)]
    · rw [q8, set_row, upR_same, eT9]
    · intro m hmm
      exact tkS_off hi hk.1 h9 hmm.2.1 hmm.2.2.1 hmm.2.2.2
    · intro m m0 m1
      rw [eT9] at m1
      obtain ⟨w1, w2⟩ := tkS_w (S := S) (k := k) hi hk.1 h9 m0 (by omega)
      obtain ⟨g1, g2⟩ := hm m m0 (by omega)
      rw [w1, w2, q8, set_off _ (by omega), set_off _ (by omega)]
      by_cases hlt : k ≤ m
      · rw [if_pos ⟨hlt, m1⟩, if_pos ⟨hlt, m1⟩]
        exact g1 ⟨hlt, by omega⟩
      · rw [if_neg (by omega), if_neg (by omega)]
        exact g2 (Or.inl (by omega))
  suffices H : ∀ (n : Nat) (j : Int) (I2 : mu_M), j + n = S (9 + i) → k + 1 ≤ j → FP1 a I I2 → (∀ m, m < 10 → I2 a m = I a m) → I2 (a + 2) = I (a + 2) → (∀ m, 0 ≤ m → m < S (9 + i) → ((k ≤ m ∧ m < j - 1 → I2 (a + 3) m = S (13 + 3 * i + m + 1) ∧ I2 (a + 4) m = S (25 + 3 * i + m + 1)) ∧ (m < k ∨ j - 1 ≤ m → I2 (a + 3) m = S (13 + 3 * i + m) ∧ I2 (a + 4) m = S (25 + 3 * i + m)))) → mu_WP mu_code d 31 13 [(1, a), (0, k), (0, j)] [] G I2 Q from
    H (S (9 + i) - (k + 1)).toNat (k + 1) I (by omega) (by omega) (FP1.rf a I) (fun _ _ => rfl) rfl (fun m m0 m1 => ⟨fun hm => by omega, fun _ => hP.2.2.1 m m0 m1⟩)
  intro n
  induction n with
  | zero =>
    intro j I2 hj hkj hf h0 hw hm
    refine vc_31_13 (by omega) _ _ _ ⟨fun _ => ⟨hG.1, k_isD (by omega) hG.1 (by rw [h0 6 (by omega)]; exact h6) h9 j ⟨fun _ => ⟨hG.1, fun I8 q8 => fin j I2 (by omega) hf h0 hw hm I8 q8⟩, fun h1 => absurd (ifp h1) (by omega)⟩⟩, fun _ => ⟨hG.1, fun I8 q8 => fin j I2 (by omega) hf h0 hw hm I8 q8⟩⟩
  | succ n ih =>
    intro j I2 hj hkj hf h0 hw hm
    refine vc_31_13 (by omega) _ _ _ ⟨fun _ => ⟨hG.1, k_isD (by omega) hG.1 (by rw [h0 6 (by omega)]; exact h6) h9 j ⟨fun h1 => absurd (show 0 ≤ j ∧ j < S (9 + i) by omega) (ifn h1), fun _ => ⟨hG.1, ?_⟩⟩⟩, fun h1 => absurd (by omega) h1⟩
    simp only [hG.2.2.1, hG.2.2.2.1, hG.2.2.2.2.2.1, hG.2.2.2.2.2.2]
    rw [wr_id (x := j - 1) (by omega) (by omega), wr_id (x := j + 1) (by omega) (by omega)]
    obtain ⟨_, g2⟩ := hm j (by omega) (by omega)
    have g2 := g2 (Or.inr (by omega))
    refine ⟨⟨trivial, by omega, by omega⟩, ⟨by omega, trivial, by omega, by omega⟩, ?_⟩
    intro I4 q4
    refine ⟨⟨trivial, by omega, by omega⟩, ⟨by omega, trivial, by omega, by omega⟩, ?_⟩
    intro I8 q8
    have e4 : I4 (a + 4) j = S (25 + 3 * i + j) := by rw [q4, set_off _ (by omega)]; exact g2.2
    refine ih (j + 1) I8 (by omega) (by omega) ((hf.tr (q4 ▸ FP1.w I2 (Or.inl (by omega)))).tr (q8 ▸ FP1.w I4 (Or.inl (by omega)))) ?_ ?_ ?_
    · intro m m10
      rw [q8, set_off _ (by omega), q4, set_off _ (by omega)]
      exact h0 m m10
    · rw [q8, set_off _ (by omega), q4, set_off _ (by omega), hw]
    · intro m m0 m3
      obtain ⟨k1, k2⟩ := hm m m0 m3
      have c3 : I8 (a + 3) m = if m = j - 1 then S (13 + 3 * i + j) else I2 (a + 3) m := by
        rw [q8, set_off _ (by omega), q4, set_row, upR_at, g2.1]
      have c4 : I8 (a + 4) m = if m = j - 1 then S (25 + 3 * i + j) else I2 (a + 4) m := by
        rw [q8, set_row, upR_at, e4, q4, set_off _ (by omega)]
      rw [c3, c4]
      by_cases hmj : m = j - 1
      · rw [if_pos hmj, if_pos hmj]
        refine ⟨fun _ => ?_, fun hh => by omega⟩
        rw [show 13 + 3 * i + m + 1 = 13 + 3 * i + j by omega, show 25 + 3 * i + m + 1 = 25 + 3 * i + j by omega]
        exact ⟨rfl, rfl⟩
      · rw [if_neg hmj, if_neg hmj]
        exact ⟨fun hh => k1 ⟨hh.1, by omega⟩, fun hh => k2 (by omega)⟩
theorem k_take (hd : d < 980) (hG : GP G a) (hP : PE G I a S i) (hi : 0 ≤ i ∧ i < 4) (ha : 0 ≤ a ∧ a + 5 ≤ 115) (x : Int) (hx : 0 ≤ S (5 + i) ∧ S (5 + i) ≤ 999 ∧ 0 ≤ x ∧ x ≤ 100000) (h : ∀ I1, FP1 a I I1 → PE G I1 a (upR S (5 + i) (cap (S (5 + i) + x))) i → Q 0 G I1) : mu_WP mu_code d 32 0 [(1, a), (0, x)] [] G I Q := by
  refine vc_32_0 (by omega) _ _ ⟨hG.1, ?_⟩
  intro I2 q2
  rw [hP.1.2.2.2.2.1, wr_id (x := S (5 + i) + x) (by omega) (by omega)] at q2
  have f2 : FP1 a I I2 := q2 ▸ FP1.w I (Or.inr ⟨rfl, by omega⟩)
  refine h I2 f2 (hP.build hi ha f2.1 ?_ ?_ ?_ ?_ ?_ ?_)
  · intro m m5 m6 m10
    rw [q2, set_row, upR_ne _ m5]
  · rw [q2, set_off _ (by omega)]
  · rw [q2, set_row, upR_same, upR_same]; rfl
  · rw [q2, set_row, upR_ne _ (by omega), hP.1.2.2.2.2.2, upR_ne _ (by omega)]
  · intro m hmm
    exact upR_ne _ (by omega)
  · intro m m0 m1
    rw [upR_ne _ (by omega)] at m1
    rw [q2, set_off _ (by omega), set_off _ (by omega), upR_ne _ (by omega), upR_ne _ (by omega)]
    exact hP.2.2.1 m m0 m1
/-- what one's paying leaves of oneself -/
def ownP (S : Row) (i : Int) : Row := if S (25 + 3 * i) = paidS S i then tkS (upR (upR S (5 + i) (S (5 + i) - paidS S i)) (25 + 3 * i) (S (25 + 3 * i) - paidS S i)) i 0 else upR (upR S (5 + i) (S (5 + i) - paidS S i)) (25 + 3 * i) (S (25 + 3 * i) - paidS S i)
theorem k_payFirst (hd : d < 970) (hG : GP G a) (hP : PE G I a S i) (hi : 0 ≤ i ∧ i < 4) (ha : 0 ≤ a ∧ a + 5 ≤ 115) (h9 : 0 < S (9 + i) ∧ S (9 + i) ≤ 3) (hx : 0 ≤ S (5 + i) ∧ S (5 + i) ≤ 999 ∧ 0 ≤ S (25 + 3 * i) ∧ S (25 + 3 * i) ≤ 99) (h : ∀ I1, FP1 a I I1 → PE G I1 a (ownP S i) i → Q (paidS S i) G I1) : mu_WP mu_code d 33 0 [(1, a), (3, 0)] [] G I Q := by
  have g0 := (hP.2.2.1 0 (by omega) h9.1).2
  rw [Int.add_zero] at g0
  have hpd : 0 ≤ paidS S i ∧ paidS S i ≤ S (5 + i) ∧ paidS S i ≤ S (25 + 3 * i) := by unfold paidS; split <;> omega
  refine vc_33_0 (by omega) _ ⟨hG.1, k_isDebt (by omega) hG hP h9.2 0 ⟨fun h1 => absurd (show (0 : Int) ≤ 0 ∧ 0 < S (9 + i) by omega) (ifn h1), fun _ => ⟨hG.1, ?_⟩⟩⟩
  simp only [hG.2.2.2.1, hG.2.2.2.2.2.2, g0, hP.1.2.2.2.2.1]
  have ep : (if S (25 + 3 * i) < S (5 + i) then S (25 + 3 * i) else S (5 + i)) = paidS S i := rfl
  rw [ep]
  unfold ownP at h
  generalize hpp : paidS S i = pd at *
  rw [wr_id (x := S (5 + i) - pd) (by omega) (by omega)]
  refine ⟨⟨trivial, by omega, by omega⟩, ?_⟩
  intro I8 q8
  refine ⟨⟨by omega, trivial, by omega, by omega⟩, ?_⟩
  intro I10 q10
  have e8 : I8 (a + 4) 0 = S (25 + 3 * i) := by rw [q8, set_off _ (by omega)]; exact g0
  rw [e8, wr_id (x := S (25 + 3 * i) - pd) (by omega) (by omega)] at q10
  have f10 : FP1 a I I10 := (q8 ▸ FP1.w I (Or.inr ⟨rfl, by omega⟩)).tr (q10 ▸ FP1.w I8 (Or.inl (by omega)))
  have e10 : I10 (a + 4) 0 = S (25 + 3 * i) - pd := by rw [q10, set_row, upR_same]
  have P10 : PE G I10 a (upR (upR S (5 + i) (S (5 + i) - pd)) (25 + 3 * i) (S (25 + 3 * i) - pd)) i := by
    refine hP.build hi ha f10.1 ?_ ?_ ?_ ?_ ?_ ?_
    · intro m m5 m6 m10
      rw [q10, set_off _ (by omega), q8, set_row, upR_ne _ m5]
    · rw [q10, set_off _ (by omega), q8, set_off _ (by omega)]
    · rw [q10, set_off _ (by omega), q8, set_row, upR_same, upR_ne _ (by omega), upR_same]
    · rw [q10, set_off _ (by omega), q8, set_row, upR_ne _ (by omega), hP.1.2.2.2.2.2, upR_ne _ (by omega), upR_ne _ (by omega)]
    · intro m hmm
      rw [upR_ne _ (by omega), upR_ne _ (by omega)]
    · intro m m0 m1
      rw [upR_ne _ (by omega), upR_ne _ (by omega)] at m1
      obtain ⟨k1, k2⟩ := hP.2.2.1 m m0 m1
      refine ⟨?_, ?_⟩
      · rw [q10, set_off _ (by omega), q8, set_off _ (by omega), upR_ne _ (by omega), upR_ne _ (by omega)]; exact k1
      · rw [q10, set_row, upR_at, q8, set_off _ (by omega), upR_at]
        by_cases hm0 : m = 0
        · rw [if_pos hm0, if_pos (by omega)]
        · rw [if_neg hm0, if_neg (by omega), upR_ne _ (by omega)]; exact k2
  rw [e10]
  have n9 : upR (upR S (5 + i) (S (5 + i) - pd)) (25 + 3 * i) (S (25 + 3 * i) - pd) (9 + i) = S (9 + i) := by rw [upR_ne _ (by omega), upR_ne _ (by omega)]
  refine ⟨fun h1 => k_dropDebt (by omega) hG P10 hi ha (by omega) 0 (by omega) ?_, fun h1 => ?_⟩
  · intro I11 f11 p11
    rw [if_pos (by omega)] at h
    exact h I11 (f10.tr f11) p11
  · rw [if_neg (by omega)] at h
    exact h I10 f10 P10
end

/-! ONE OWES ONE MORE: bounds -/
/-- no one twice -/
def Dst (S : Row) : Prop := ∀ p, 0 ≤ p → p < S 37 → ∀ i j, 0 ≤ i → i < j → j < S (9 + p) → S (13 + 3 * p + i) ≠ S (13 + 3 * p + j)
theorem dT_none {S : Row} {p q : Int} : ∀ (n : Nat) (k : Int), 0 ≤ k → dT S p q n k = -1 → ∀ i, k ≤ i → i < k + n → i < S (9 + p) → S (13 + 3 * p + i) ≠ q
  | 0, k, _, _, i, h1, h2, _ => by omega
  | n + 1, k, hk, h, i, h1, h2, h3 => by
    rw [dT] at h
    rw [if_pos (by omega)] at h
    by_cases hq : S (13 + 3 * p + k) = q
    · rw [if_pos hq] at h; omega
    · rw [if_neg hq] at h
      by_cases hi : i = k
      · rw [hi]; exact hq
      · exact dT_none n (k + 1) (by omega) h i (by omega) (by omega) h3
theorem dT_some {S : Row} {p q : Int} : ∀ (n : Nat) (k : Int), 0 ≤ k → dT S p q n k ≠ -1 → k ≤ dT S p q n k ∧ dT S p q n k < k + n ∧ dT S p q n k < S (9 + p) ∧ S (13 + 3 * p + dT S p q n k) = q
  | 0, k, _, h => absurd rfl h
  | n + 1, k, hk, h => by
    rw [dT] at h ⊢
    by_cases h1 : k < S (9 + p)
    · rw [if_pos h1] at h ⊢
      by_cases hq : S (13 + 3 * p + k) = q
      · rw [if_pos hq]; exact ⟨by omega, by omega, h1, hq⟩
      · rw [if_neg hq] at h ⊢
        obtain ⟨a, b, c, e⟩ := dT_some n (k + 1) (by omega) h
        exact ⟨by omega, by omega, c, e⟩
    · rw [if_neg h1] at h; exact absurd rfl h
theorem room {S : Row} {p q : Int} (h : Inv S) (hD : Dst S) (hp : 0 ≤ p ∧ p < S 37) (hq : 0 ≤ q ∧ q < S 37) (hqp : q ≠ p) (hn : debtTo S p q = -1) : S (9 + p) ≤ 2 := by
  obtain ⟨j1, j2, j3, j4, j5, j6, j7, j8⟩ := h.2.2.2.2.1 p hp.1 hp.2
  have h4 := h.2.1
  have hne := dT_none 3 0 (by omega) hn
  by_cases h3 : S (9 + p) = 3
  · have a0 := (j7 0 (by omega) (by omega)).1
    have a1 := (j7 1 (by omega) (by omega)).1
    have a2 := (j7 2 (by omega) (by omega)).1
    have b0 := hne 0 (by omega) (by omega) (by omega)
    have b1 := hne 1 (by omega) (by omega) (by omega)
    have b2 := hne 2 (by omega) (by omega) (by omega)
    have c1 := hD p hp.1 hp.2 0 1 (by omega) (by omega) (by omega)
    have c2 := hD p hp.1 hp.2 0 2 (by omega) (by omega) (by omega)
    have c3 := hD p hp.1 hp.2 1 2 (by omega) (by omega) (by omega)
    omega
  · omega
theorem ptL_off {p k : Int} : ∀ (n : Nat) (j : Int) (S : Row) (i : Int), 0 ≤ k → j ≤ 2 → 0 ≤ p → p < 4 → (i < 13 + 3 * p ∨ 13 + 3 * p + 3 ≤ i) → (i < 25 + 3 * p ∨ 25 + 3 * p + 3 ≤ i) → ptL p k n j S i = S i
  | 0, _, _, _, _, _, _, _, _, _ => rfl
  | n + 1, j, S, i, hk, hj, hp, hp4, h1, h2 => by
    rw [ptL]
    split
    · rename_i hlt
      rw [ptL_off n (j - 1) _ i hk (by omega) hp hp4 h1 h2, upR_ne _ (by omega), upR_ne _ (by omega)]
    · rfl
theorem ptL_w {p k : Int} (hp : 0 ≤ p ∧ p < 4) (hk : 0 ≤ k) : ∀ (n : Nat) (j : Int) (S : Row) (i : Int), j ≤ n → j ≤ 2 → 0 ≤ i → i < 3 → ptL p k n j S (13 + 3 * p + i) = (if k < i ∧ i ≤ j then S (13 + 3 * p + i - 1) else S (13 + 3 * p + i)) ∧ ptL p k n j S (25 + 3 * p + i) = (if k < i ∧ i ≤ j then S (25 + 3 * p + i - 1) else S (25 + 3 * p + i))
  | 0, j, S, i, hj, hj2, hi, hi3 => by
    rw [ptL, if_neg (by omega), if_neg (by omega)]
    exact ⟨rfl, rfl⟩
  | n + 1, j, S, i, hj, hj2, hi, hi3 => by
    rw [ptL]
    by_cases hlt : k < j
    · rw [if_pos hlt]
      obtain ⟨a1, a2⟩ := ptL_w hp hk n (j - 1) (upR (upR S (13 + 3 * p + j) (S (13 + 3 * p + j - 1))) (25 + 3 * p + j) (S (25 + 3 * p + j - 1))) i (by omega) (by omega) hi hi3
      rw [a1, a2]
      simp only [upR_at]
      constructor <;> grind
    · rw [if_neg hlt, if_neg (by omega), if_neg (by omega)]
      exact ⟨rfl, rfl⟩
theorem ptS_off {S : Row} {p k q x i : Int} (hp : 0 ≤ p ∧ p < 4) (hk : 0 ≤ k ∧ k ≤ 2) (h9 : S (9 + p) ≤ 2) (h0 : i ≠ 9 + p) (h1 : i < 13 + 3 * p ∨ 13 + 3 * p + 3 ≤ i) (h2 : i < 25 + 3 * p ∨ 25 + 3 * p + 3 ≤ i) : ptS S p k q x i = S i := by
  unfold ptS
  dsimp only
  rw [upR_ne _ h0, upR_ne _ (by omega), upR_ne _ (by omega), ptL_off 3 _ _ i hk.1 h9 hp.1 hp.2 h1 h2]
theorem ptS_9 {S : Row} {p k q x : Int} (hp : 0 ≤ p ∧ p < 4) (hk : 0 ≤ k ∧ k ≤ 2) (h9 : S (9 + p) ≤ 2) : ptS S p k q x (9 + p) = S (9 + p) + 1 := by
  unfold ptS
  dsimp only
  rw [upR_same, ptL_off 3 _ _ (9 + p) hk.1 h9 hp.1 hp.2 (by omega) (by omega)]
theorem ptS_w {S : Row} {p k q x i : Int} (hp : 0 ≤ p ∧ p < 4) (hk : 0 ≤ k ∧ k ≤ S (9 + p)) (h9 : S (9 + p) ≤ 2) (hi : 0 ≤ i) (hi3 : i < 3) : ptS S p k q x (13 + 3 * p + i) = (if i = k then q else if k < i ∧ i ≤ S (9 + p) then S (13 + 3 * p + i - 1) else S (13 + 3 * p + i)) ∧ ptS S p k q x (25 + 3 * p + i) = (if i = k then x else if k < i ∧ i ≤ S (9 + p) then S (25 + 3 * p + i - 1) else S (25 + 3 * p + i)) := by
  unfold ptS
  dsimp only
  obtain ⟨a1, a2⟩ := ptL_w (k := k) hp hk.1 3 (S (9 + p)) S i (by omega) h9 hi hi3
  by_cases hik : i = k
  · subst hik
    rw [if_pos rfl, if_pos rfl, upR_ne _ (by omega), upR_ne _ (by omega), upR_same, upR_ne _ (by omega), upR_same]
    exact ⟨rfl, rfl⟩
  · rw [if_neg hik, if_neg hik, upR_ne _ (by omega), upR_ne _ (by omega), upR_ne _ (by omega), upR_ne _ (by omega), upR_ne _ (by omega), upR_ne _ (by omega)]
    exact ⟨a1, a2⟩
theorem Inv.pt {S : Row} {p k q x : Int} (h : Inv S) (hp : 0 ≤ p ∧ p < S 37) (hk : 0 ≤ k ∧ k ≤ S (9 + p)) (h9 : S (9 + p) ≤ 2) (hq : 0 ≤ q ∧ q < S 37 ∧ q ≠ p) (hx : 0 ≤ x ∧ x ≤ 99) : Inv (ptS S p k q x) := by
  have hp4 : 0 ≤ p ∧ p < 4 := by
    have := h.2.1
    omega
  obtain ⟨j1, j2, j3, j4, j5, j6, j7, j8⟩ := h.2.2.2.2.1 p hp.1 hp.2
  have off : ∀ i, i ≠ 9 + p → (i < 13 + 3 * p ∨ 13 + 3 * p + 3 ≤ i) → (i < 25 + 3 * p ∨ 25 + 3 * p + 3 ≤ i) → ptS S p k q x i = S i := fun i a b c => ptS_off hp4 (by omega) h9 a b c
  refine h.one hp4 ?_ (fun j hj => off j (by omega) (by omega) (by omega)) ?_ ?_
  · rw [off 0 (by omega) (by omega) (by omega)]; exact h.1
  · intro r q0 q1 hqp
    refine ⟨off _ (by omega) (by omega) (by omega), off _ (by omega) (by omega) (by omega), off _ (by omega) (by omega) (by omega), fun k k0 k1 => ⟨off _ (by omega) (by omega) (by omega), off _ (by omega) (by omega) (by omega)⟩⟩
  · intro _
    have e37 : ptS S p k q x 37 = S 37 := off 37 (by omega) (by omega) (by omega)
    have e43 : ptS S p k q x 43 = S 43 := off 43 (by omega) (by omega) (by omega)
    have e44 : ptS S p k q x 44 = S 44 := off 44 (by omega) (by omega) (by omega)
    refine ⟨?_, ?_, ?_, ?_, ?_, ?_, ?_, ?_⟩
    · rw [off (1 + p) (by omega) (by omega) (by omega), e43, e44]; exact j1
    · rw [off (5 + p) (by omega) (by omega) (by omega)]; exact j2
    · rw [ptS_9 hp4 (by omega) h9]; omega
    · rw [off (45 + p) (by omega) (by omega) (by omega)]; exact j4
    · rw [off (49 + p) (by omega) (by omega) (by omega)]; exact j5
    · rw [off (53 + p) (by omega) (by omega) (by omega), e43, e44]; exact j6
    · intro i i0 i1
      rw [ptS_9 hp4 (by omega) h9] at i1
      obtain ⟨a1, a2⟩ := ptS_w (S := S) (q := q) (x := x) hp4 hk h9 i0 (by omega)
      rw [a1, a2, e37]
      by_cases hik : i = k
      · rw [if_pos hik, if_pos hik]
        exact ⟨hq, hx⟩
      · rw [if_neg hik, if_neg hik]
        by_cases hc : k < i ∧ i ≤ S (9 + p)
        · rw [if_pos hc, if_pos hc]
          have b2 := j7 (i - 1) (by omega) (by omega)
          rw [show 13 + 3 * p + (i - 1) = 13 + 3 * p + i - 1 by omega, show 25 + 3 * p + (i - 1) = 25 + 3 * p + i - 1 by omega] at b2
          exact b2
        · rw [if_neg hc, if_neg hc]
          exact j7 i i0 (by omega)
    · intro i i0 i1
      rw [off _ (by omega) (by omega) (by omega)]
      exact j8 i i0 i1
theorem WD.pt {S : Row} {n : Nat} {p k q x : Int} (h : WD S n) (hp : 0 ≤ p ∧ p < S 37) (hk : 0 ≤ k ∧ k ≤ S (9 + p)) (h9 : S (9 + p) ≤ 2) (hq : 0 ≤ q ∧ q < S 37 ∧ q ≠ p) (hx : 0 ≤ x ∧ x ≤ 99) : WD (ptS S p k q x) n := by
  have h4 := h.1.2.1
  refine ⟨h.1.pt hp hk h9 hq hx, h.2.1.same (fun j hj => ptS_off (by omega) (by omega) h9 (by omega) (by omega) (by omega)), ?_⟩
  rw [ptS_off (by omega) (by omega) h9 (by omega) (by omega) (by omega)]
  exact h.2.2
theorem KP.pt {S : Row} {I I1 : mu_M} {p k q x : Int} (h : KP S I) (hf : FR I I1) (hr : I1 116 = ptS (I 116) p k q x) (hp : 0 ≤ p ∧ p < 4) (hk : 0 ≤ k ∧ k ≤ 2) (h9 : I 116 (9 + p) ≤ 2) : KP S I1 := by
  refine ⟨fun j h0 h1 => ?_, fun j hj => ?_⟩
  · rw [hf 118 (by decide)]
    exact h.1 j h0 h1
  · rw [hr, ptS_off hp hk h9 (by omega) (by omega) (by omega)]
    exact h.2 j hj

/-! A DAY OF THE REFERENCE: bounds -/
theorem atXY_bd {S : Row} {c x y : Int} (h3 : 2 ≤ S 43 ∧ S 43 ≤ 8) (h4 : 2 ≤ S 44 ∧ S 44 ≤ 8) (hc : 0 ≤ c ∧ c < S 43 * S 44) : 0 ≤ atXY S c x y ∧ atXY S c x y < S 43 * S 44 := by
  unfold atXY
  split
  · rename_i h
    obtain ⟨s1, s2, s3, s4, s5⟩ := sm_xy h3 h4 h.1 h.2
    split
    · exact hc
    · exact ⟨s3, s4⟩
  · exact hc
theorem stS_bd {S : Row} {p c aim : Int} (h3 : 2 ≤ S 43 ∧ S 43 ≤ 8) (h4 : 2 ≤ S 44 ∧ S 44 ≤ 8) (hc : 0 ≤ c ∧ c < S 43 * S 44) : 0 ≤ stS S p c aim ∧ stS S p c aim < S 43 * S 44 := by
  have key : ∀ dx dy, 0 ≤ movedS S c dx dy ∧ movedS S c dx dy < S 43 * S 44 := fun dx dy => atXY_bd h3 h4 hc
  unfold stS
  dsimp only
  by_cases h1 : S (45 + p) = 6 ∧ 0 < S (9 + p)
  · rw [if_pos h1]; exact key _ _
  · rw [if_neg h1]
    repeat' split
    all_goals first | exact hc | exact key _ _
theorem fdS_bd {S : Row} (h : Inv S) (p : Int) : ∀ (n : Nat) (q : Int), 0 ≤ q → fdS S p n q = -5 ∨ (0 ≤ fdS S p n q ∧ fdS S p n q < S 43 * S 44)
  | 0, _, _ => Or.inl rfl
  | n + 1, q, hq => by
    unfold fdS
    split
    · rename_i hlt
      split
      · exact fdS_bd h p n (q + 1) (by omega)
      · exact Or.inr (h.2.2.2.2.1 q hq hlt).1
    · exact Or.inl rfl
theorem aimS_bd {S : Row} (h : Inv S) {p : Int} (hp : 0 ≤ p ∧ p < S 37) : aimS S p = -5 ∨ (0 ≤ aimS S p ∧ aimS S p < S 43 * S 44) := by
  obtain ⟨j1, j2, j3, j4, j5, j6, j7, j8⟩ := h.2.2.2.2.1 p hp.1 hp.2
  unfold aimS
  split
  · rename_i h0
    have j70 := j7 0 (by omega) h0
    rw [Int.add_zero] at j70
    exact Or.inr (h.2.2.2.2.1 _ j70.1.1 j70.1.2.1).1
  · split
    · exact Or.inr j6
    · split
      · exact fdS_bd h p 4 0 (by omega)
      · exact Or.inl rfl
theorem stepsS_bd (S : Row) (p : Int) : 0 ≤ stepsS S p ∧ stepsS S p ≤ 2 := by
  unfold stepsS
  split
  · omega
  · split <;> omega
theorem runL_e {f : Row} : ∀ (cs : List Int) (st : List Bool) (r : Bool) (e : Int), okC cs st.length → 0 ≤ e → 0 ≤ (runL f cs st r e).2 ∧ (runL f cs st r e).2 ≤ e + 99 * cs.length
  | [], st, r, e, _, he => by simp [runL]; omega
  | c :: cs, st, r, e, h, he => by
    obtain ⟨hc, ok1, ok2, ok3, ok4⟩ := h
    have hl : ((c :: cs).length : Int) = cs.length + 1 := by simp
    rw [hl]
    by_cases h0 : 0 ≤ c
    · have := runL_e (f := f) cs (tst f c :: st) r e (by simpa using (ok1 h0).2.2) he
      rw [runL.eq_def]
      dsimp only
      rw [if_pos h0]
      omega
    · by_cases h1 : c = -1
      · cases st with
        | nil => exact absurd (ok2 h1).1 (by simp)
        | cons b st =>
          have := runL_e (f := f) cs ((!b) :: st) r e (by simpa using (ok2 h1).2) he
          rw [runL, if_neg h0, if_pos h1]
          omega
      · by_cases h10 : -10 < c
        · match st, (ok3 h10 (by omega)) with
          | b :: a :: st, ok =>
            have := runL_e (f := f) cs ((if c = -2 then a && b else a || b) :: st) r e (by simpa using ok.2) he
            rw [runL, if_neg h0, if_neg h1, if_pos h10]
            dsimp only
            omega
        · match st, (ok4 (by omega)) with
          | [b], ok =>
            have he2 : 0 ≤ (if b = true ∧ c ≤ -200 then e + (-200 - c) else e) ∧ (if b = true ∧ c ≤ -200 then e + (-200 - c) else e) ≤ e + 99 := by split <;> omega
            have := runL_e (f := f) cs [] (r || (b && decide (c = -10))) (if b = true ∧ c ≤ -200 then e + (-200 - c) else e) (by simpa using ok.2) he2.1
            rw [runL, if_neg h0, if_neg h1, if_neg h10]
            omega
theorem codes_len (S : Row) : ∀ (n : Nat) (a : Int), (codes S a n).length = n
  | 0, _ => rfl
  | n + 1, a => by simp [codes, codes_len S n]
def earnS (S : Row) (p : Int) : Int := (lookS S p).2
theorem earnS_bd {S : Row} (h : LW S) (p : Int) : 0 ≤ earnS S p ∧ earnS S p ≤ 20000 := by
  obtain ⟨h1, h2, h3⟩ := h
  have := runL_e (f := byF S p) (textS S) [] false 0 (by simpa using h3) (by omega)
  have hl : ((textS S).length : Int) = manyS S := by unfold textS; rw [codes_len]; omega
  unfold earnS lookS
  omega
/-- where the steps alone lead -/
def toL (S : Row) (p aim : Int) : Nat → Int → Int
  | 0, c => c
  | n + 1, c => toL S p aim n (stS S p c aim)
def toS (S : Row) (p : Int) : Int := toL S p (aimS S p) (stepsS S p).toNat (S (1 + p))
def stayS (S : Row) (q : Int) : Bool := swL S (toS S) q 4 0 false
def mvS (S : Row) : Row := fun j => if 1 ≤ j ∧ j ≤ S 37 then (if stayS S (j - 1) = true then S j else toS S (j - 1)) else S j
def erL (S : Row) : Nat → Int → Row → Row
  | 0, _, T => T
  | n + 1, p, T => if p < T 37 then erL S n (p + 1) (payL p 4 (upR T (5 + p) (cap (T (5 + p) + earnS S p)))) else T
def erS (S : Row) : Row := erL S 4 0 (mvS S)
def dayS (S : Row) : Row := upR (erS S) 0 (erS S 0 + 1)
theorem toL_bd {S : Row} {p aim : Int} (h3 : 2 ≤ S 43 ∧ S 43 ≤ 8) (h4 : 2 ≤ S 44 ∧ S 44 ≤ 8) : ∀ (n : Nat) (c : Int), 0 ≤ c ∧ c < S 43 * S 44 → 0 ≤ toL S p aim n c ∧ toL S p aim n c < S 43 * S 44
  | 0, c, hc => hc
  | n + 1, c, hc => toL_bd h3 h4 n _ (stS_bd h3 h4 hc)
theorem toS_bd {S : Row} (h : Inv S) {p : Int} (hp : 0 ≤ p ∧ p < S 37) : 0 ≤ toS S p ∧ toS S p < S 43 * S 44 := toL_bd h.2.2.1 h.2.2.2.1 _ _ (h.2.2.2.2.1 p hp.1 hp.2).1
theorem payL_hi {p : Int} (hp : 0 ≤ p) : ∀ (n : Nat) (S : Row), Inv S → p < S 37 → Inv (payL p n S) ∧ ∀ j, (j < 0 ∨ 37 ≤ j) → payL p n S j = S j := by
  intro n
  induction n with
  | zero => exact fun S h _ => ⟨h, fun _ _ => rfl⟩
  | succ n ih =>
    intro S h hp2
    rw [payL]
    split
    · rename_i hc
      obtain ⟨a1, a2, a3⟩ := h.pay1 ⟨hp, hp2⟩ hc
      obtain ⟨b1, b2⟩ := ih _ a1 (by rw [a2]; exact hp2)
      refine ⟨b1, fun j hj => ?_⟩
      rw [b2 j hj]
      obtain ⟨c1, c2, c3, c4, c5, c6, c7⟩ := paid_bd h ⟨hp, hp2⟩ hc
      have h4 := h.2.1
      have hB : payB S p j = S j := by
        unfold payB payA
        rw [upR_ne _ (by omega), upR_ne _ (by omega), upR_ne _ (by omega)]
      unfold pay1
      split
      · have e9 := payB_9 (S := S) (p := p) (by omega) (by omega)
        have := (h.2.2.2.2.1 p hp hp2).2.2.1
        rw [tkS_off (by omega) (by omega) (by omega) (by omega) (by omega) (by omega), hB]
      · exact hB
    · exact ⟨h, fun _ _ => rfl⟩
theorem Inv.mv {S : Row} (h : Inv S) : Inv (mvS S) := by
  obtain ⟨i1, i2, i3, i4, i5, i6⟩ := id h
  have hi : ∀ j, 5 ≤ j ∨ j = 0 → mvS S j = S j := fun j hj => by unfold mvS; rw [if_neg (by omega)]
  have e37 := hi 37 (by omega)
  have e43 := hi 43 (by omega)
  have e44 := hi 44 (by omega)
  refine ⟨by rw [hi 0 (by omega)]; exact i1, by rw [e37]; exact i2, by rw [e43]; exact i3, by rw [e44]; exact i4, ?_, ?_⟩
  · intro p p0 p1
    rw [e37] at p1
    obtain ⟨j1, j2, j3, j4, j5, j6, j7, j8⟩ := i5 p p0 p1
    refine ⟨?_, by rw [hi _ (by omega)]; exact j2, by rw [hi _ (by omega)]; exact j3, by rw [hi _ (by omega)]; exact j4, by rw [hi _ (by omega)]; exact j5, by rw [hi _ (by omega), e43, e44]; exact j6, ?_, ?_⟩
    · rw [e43, e44]
      unfold mvS
      rw [if_pos (by omega)]
      split
      · exact j1
      · rw [show 1 + p - 1 = p by omega]
        exact toS_bd h ⟨p0, p1⟩
    · intro k k0 k1
      rw [hi _ (by omega)] at k1
      rw [hi (13 + 3 * p + k) (by omega), hi (25 + 3 * p + k) (by omega), e37]
      exact j7 k k0 k1
    · intro k k0 k1
      rw [hi _ (by omega)]
      exact j8 k k0 k1
  · intro c c0 c1
    rw [hi _ (by omega)]
    exact i6 c c0 c1
theorem erL_hi {S : Row} (hE : ∀ p, 0 ≤ earnS S p) : ∀ (n : Nat) (p : Int) (T : Row), 0 ≤ p → Inv T → Inv (erL S n p T) ∧ ∀ j, (j < 0 ∨ 37 ≤ j) → erL S n p T j = T j := by
  intro n
  induction n with
  | zero => exact fun p T _ h => ⟨h, fun _ _ => rfl⟩
  | succ n ih =>
    intro p T hp h
    rw [erL]
    split
    · rename_i hlt
      have h4 := h.2.1
      have h5 := (h.2.2.2.2.1 p hp hlt).2.1
      have he := hE p
      have i1 : Inv (upR T (5 + p) (cap (T (5 + p) + earnS S p))) := h.purse (by omega) (cap_bd (by omega))
      obtain ⟨a1, a2⟩ := payL_hi hp 4 _ i1 (by rw [upR_ne _ (by omega)]; exact hlt)
      obtain ⟨b1, b2⟩ := ih (p + 1) _ (by omega) a1
      refine ⟨b1, fun j hj => ?_⟩
      rw [b2 j hj, a2 j hj, upR_ne _ (by omega)]
    · exact ⟨h, fun _ _ => rfl⟩
theorem tk_lo {S : Row} {p : Int} (hp : 0 ≤ p ∧ p < 4) (h9 : S (9 + p) ≤ 3) : tkS S p 0 0 = S 0 := tkS_off hp (by omega) h9 (by omega) (by omega) (by omega)
theorem payL_0 {p : Int} (hp : 0 ≤ p) : ∀ (n : Nat) (S : Row), Inv S → p < S 37 → payL p n S 0 = S 0 := by
  intro n
  induction n with
  | zero => exact fun S h _ => rfl
  | succ n ih =>
    intro S h hp2
    rw [payL]
    split
    · rename_i hc
      obtain ⟨a1, a2, a3⟩ := h.pay1 ⟨hp, hp2⟩ hc
      rw [ih _ a1 (by rw [a2]; exact hp2)]
      obtain ⟨c1, c2, c3, c4, c5, c6, c7⟩ := paid_bd h ⟨hp, hp2⟩ hc
      have h4 := h.2.1
      have hB : payB S p 0 = S 0 := by
        unfold payB payA
        rw [upR_ne _ (by omega), upR_ne _ (by omega), upR_ne _ (by omega)]
      unfold pay1
      split
      · have e9 := payB_9 (S := S) (p := p) (by omega) (by omega)
        have := (h.2.2.2.2.1 p hp hp2).2.2.1
        rw [tk_lo (by omega) (by omega), hB]
      · exact hB
    · rfl
theorem swL_same {S T T1 : Row} {q : Int} (h : ∀ p, 0 ≤ p → p ≤ q → T1 p = T p) : ∀ (n : Nat) (p : Int) (b : Bool), 0 ≤ p → swL S T1 q n p b = swL S T q n p b
  | 0, _, _, _ => rfl
  | n + 1, p, b, hp => by
    rw [swL, swL]
    split
    · rename_i hlt
      rw [h p hp (by omega), h q (by omega) (by omega)]
      exact swL_same h n (p + 1) _ (by omega)
    · rfl
theorem dayS_0 {S : Row} : dayS S 0 = erS S 0 + 1 := upR_same _ _ _

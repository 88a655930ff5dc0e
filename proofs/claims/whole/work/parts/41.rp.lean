/-! THE REFERENCE PAYS -/
def paidS (S : Row) (p : Int) : Int := if S (25 + 3 * p) < S (5 + p) then S (25 + 3 * p) else S (5 + p)
def cap (x : Int) : Int := if 999 < x then 999 else x
def payA (S : Row) (p : Int) : Row := upR (upR S (5 + p) (S (5 + p) - paidS S p)) (5 + S (13 + 3 * p)) (cap (upR S (5 + p) (S (5 + p) - paidS S p) (5 + S (13 + 3 * p)) + paidS S p))
def payB (S : Row) (p : Int) : Row := upR (payA S p) (25 + 3 * p) (S (25 + 3 * p) - paidS S p)
def pay1 (S : Row) (p : Int) : Row := if S (25 + 3 * p) = paidS S p then tkS (payB S p) p 0 else payB S p
abbrev canP (S : Row) (p : Int) : Prop := 0 < S (9 + p) ∧ 0 < S (5 + p) ∧ S (1 + S (13 + 3 * p)) = S (1 + p)
def payL (p : Int) : Nat → Row → Row
  | 0, S => S
  | n + 1, S => if canP S p then payL p n (pay1 S p) else S
theorem paid_bd {S : Row} {p : Int} (h : Inv S) (hp : 0 ≤ p ∧ p < S 37) (hc : canP S p) : 0 ≤ paidS S p ∧ paidS S p ≤ S (5 + p) ∧ paidS S p ≤ S (25 + 3 * p) ∧ S (5 + p) ≤ 999 ∧ (0 ≤ S (25 + 3 * p) ∧ S (25 + 3 * p) ≤ 99) ∧ (0 ≤ S (13 + 3 * p) ∧ S (13 + 3 * p) < S 37 ∧ S (13 + 3 * p) ≠ p) ∧ (S (25 + 3 * p) = paidS S p ∨ paidS S p = S (5 + p)) := by
  obtain ⟨j1, j2, j3, j4, j5, j6, j7, j8⟩ := h.2.2.2.2.1 p hp.1 hp.2
  have j70 := j7 0 (by omega) hc.1
  simp only [Int.add_zero] at j70
  unfold paidS
  split <;> omega
theorem cap_bd {x : Int} (h : 0 ≤ x) : 0 ≤ cap x ∧ cap x ≤ 999 := by unfold cap; split <;> omega
theorem Inv.payB {S : Row} {p : Int} (h : Inv S) (hp : 0 ≤ p ∧ p < S 37) (hc : canP S p) : Inv (payB S p) := by
  obtain ⟨b1, b2, b3, b4, b5, b6, b7⟩ := paid_bd h hp hc
  have h4 := h.2.1
  have i1 : Inv (upR S (5 + p) (S (5 + p) - paidS S p)) := h.purse (by omega) (by omega)
  have hq := i1.2.2.2.2.1 (S (13 + 3 * p)) b6.1 (by rw [upR_ne _ (by omega)]; exact b6.2.1)
  have i2 : Inv (payA S p) := i1.purse (by omega) (cap_bd (by have := hq.2.1; omega))
  have i3 := i2.sum (p := p) (k := 0) (x := S (25 + 3 * p) - paidS S p) (by omega) (by omega) (by omega)
  rw [Int.add_zero] at i3
  exact i3
theorem payB_37 {S : Row} {p : Int} (hp : 0 ≤ p ∧ p < 4) (hq : 0 ≤ S (13 + 3 * p) ∧ S (13 + 3 * p) < 4) : payB S p 37 = S 37 := by
  unfold payB payA
  rw [upR_ne _ (by omega), upR_ne _ (by omega), upR_ne _ (by omega)]
theorem payB_9 {S : Row} {p : Int} (hp : 0 ≤ p ∧ p < 4) (hq : 0 ≤ S (13 + 3 * p) ∧ S (13 + 3 * p) < 4) : payB S p (9 + p) = S (9 + p) := by
  unfold payB payA
  rw [upR_ne _ (by omega), upR_ne _ (by omega), upR_ne _ (by omega)]
theorem payB_5 {S : Row} {p : Int} (hp : 0 ≤ p ∧ p < 4) (hq : 0 ≤ S (13 + 3 * p) ∧ S (13 + 3 * p) < 4 ∧ S (13 + 3 * p) ≠ p) : payB S p (5 + p) = S (5 + p) - paidS S p := by
  unfold payB payA
  rw [upR_ne _ (by omega), upR_ne _ (by omega), upR_same]
theorem pay1_eq (S : Row) (p : Int) : pay1 S p = if S (25 + 3 * p) = paidS S p then tkS (payB S p) p 0 else payB S p := rfl
theorem Inv.pay1 {S : Row} {p : Int} (h : Inv S) (hp : 0 ≤ p ∧ p < S 37) (hc : canP S p) : Inv (pay1 S p) ∧ pay1 S p 37 = S 37 ∧ (pay1 S p (9 + p) = S (9 + p) - 1 ∨ pay1 S p (5 + p) = 0) := by
  obtain ⟨b1, b2, b3, b4, b5, b6, b7⟩ := paid_bd h hp hc
  have h4 := h.2.1
  have hp4 : 0 ≤ p ∧ p < 4 := by omega
  have j3 := (h.2.2.2.2.1 p hp.1 hp.2).2.2.1
  have i1 := h.payB hp hc
  have e37 := payB_37 (S := S) hp4 (by omega)
  have e9 := payB_9 (S := S) hp4 (by omega)
  have e5 := payB_5 (S := S) hp4 (by omega)
  rw [pay1_eq]
  have hc1 := hc.1
  by_cases he : S (25 + 3 * p) = paidS S p
  · rw [if_pos he]
    refine ⟨i1.tk (by rw [e37]; exact hp) (by omega) (by omega), ?_, Or.inl ?_⟩
    · rw [tkS_off hp4 (by omega) (by omega) (by omega) (by omega) (by omega), e37]
    · rw [tkS_9 hp4 (by omega) (by omega), e9]
  · rw [if_neg he]
    refine ⟨i1, e37, Or.inr ?_⟩
    rw [e5]
    omega

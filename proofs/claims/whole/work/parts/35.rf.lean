/-! THE REFERENCE'S AIMS AND STEPS, of one of the people -/
def stS (S : Row) (p cell aim : Int) : Int :=
  if S (45 + p) = 6 ∧ 0 < S (9 + p) then
    movedS S cell (if S (57 + 4 * p + Int.tmod (S 0) 4) = 1 then 1 else if S (57 + 4 * p + Int.tmod (S 0) 4) = 2 then -1 else 0) (if S (57 + 4 * p + Int.tmod (S 0) 4) = 3 then 1 else if S (57 + 4 * p + Int.tmod (S 0) 4) = 4 then -1 else 0)
  else if aim = -5 then cell
  else
    (fun (dx dy : Int) =>
      if dy = 0 ∨ (dx ≠ 0 ∧ (if S (45 + p) = 2 ∨ S (45 + p) = 5 then mag dx ≤ mag dy else mag dy ≤ mag dx)) then
        (if movedS S cell (sgn dx) 0 ≠ cell then movedS S cell (sgn dx) 0 else movedS S cell 0 (sgn dy))
      else (if movedS S cell 0 (sgn dy) ≠ cell then movedS S cell 0 (sgn dy) else movedS S cell (sgn dx) 0))
    (Int.tmod aim (S 43) - Int.tmod cell (S 43)) (Int.tdiv aim (S 43) - Int.tdiv cell (S 43))
def tellS (S : Row) (w : Int) : Int := if S 42 = -1 then 0 else S (w + S 42)
def fdS (S : Row) (p : Int) : Nat → Int → Int
  | 0, _ => -5
  | n + 1, q => if q < S 37 then (if debtTo S q p = -1 then fdS S p n (q + 1) else S (1 + q)) else -5
def aimS (S : Row) (p : Int) : Int := if 0 < S (9 + p) then S (1 + S (13 + 3 * p)) else if S (45 + p) = 3 ∨ S (45 + p) = 6 then S (53 + p) else if Int.tmod (tellS S 267) 2 = 1 then fdS S p 4 0 else -5
def stepsS (S : Row) (p : Int) : Int := if (lookS S p).1 = true ∨ (S (45 + p) = 5 ∧ Int.tmod (S 0) (S (49 + p) + 2) = 0) then 0 else if S (45 + p) = 1 ∨ (S (45 + p) = 4 ∧ 10 * S (49 + p) < S (5 + p)) then 2 else 1
theorem sgn_lo (x : Int) : -1 ≤ sgn x ∧ sgn x ≤ 1 := by unfold sgn; split <;> (try split) <;> omega
/-- one of the people is as one of the people may be -/
def PI (S : Row) (p : Int) : Prop := (0 ≤ S (1 + p) ∧ S (1 + p) < S 43 * S 44) ∧ (0 ≤ S (5 + p) ∧ S (5 + p) ≤ 999) ∧ (0 ≤ S (9 + p) ∧ S (9 + p) ≤ 3) ∧ (0 ≤ S (45 + p) ∧ S (45 + p) ≤ 6) ∧ (0 ≤ S (49 + p) ∧ S (49 + p) ≤ 9) ∧ (0 ≤ S (53 + p) ∧ S (53 + p) < S 43 * S 44) ∧ (∀ k, 0 ≤ k → k < S (9 + p) → (0 ≤ S (13 + 3 * p + k) ∧ S (13 + 3 * p + k) < S 37 ∧ S (13 + 3 * p + k) ≠ p) ∧ 0 ≤ S (25 + 3 * p + k) ∧ S (25 + 3 * p + k) ≤ 99) ∧ ∀ k, 0 ≤ k → k < 4 → 0 ≤ S (57 + 4 * p + k) ∧ S (57 + 4 * p + k) ≤ 4
def Inv (S : Row) : Prop := (0 ≤ S 0 ∧ S 0 < 100000) ∧ (0 ≤ S 37 ∧ S 37 ≤ 4) ∧ (2 ≤ S 43 ∧ S 43 ≤ 8) ∧ (2 ≤ S 44 ∧ S 44 ≤ 8) ∧ (∀ p, 0 ≤ p → p < S 37 → PI S p) ∧ ∀ c, 0 ≤ c → c < 64 → S (103 + c) = 0 ∨ S (103 + c) = 1
theorem Inv.wh {S : Row} (h : Inv S) : 0 ≤ S 43 * S 44 ∧ S 43 * S 44 ≤ 64 := by
  obtain ⟨_, _, h2, h3, _⟩ := h
  have h5 : S 43 * S 44 ≤ 8 * 8 := Int.mul_le_mul h2.2 h3.2 (by omega) (by omega)
  have h6 : 0 ≤ S 43 * S 44 := Int.mul_nonneg (by omega) (by omega)
  omega
section
variable {d : Nat} {G : mu_G} {I : mu_M} {Q : Int → mu_G → mu_M → Prop}
theorem s_218 (hd : d < 990) (hM : MR G) {v1 v3 v4 v7 v9 : mu_V} (c dx dy s0 : Int) (hw : 2 ≤ I 116 43 ∧ I 116 43 ≤ 8) (hh : 2 ≤ I 116 44 ∧ I 116 44 ≤ 8) (hc : 0 ≤ c ∧ c < 64)
  (h : Q (if s0 ≠ 0 then (if movedS (I 116) c (sgn dx) 0 ≠ c then movedS (I 116) c (sgn dx) 0 else movedS (I 116) c 0 (sgn dy)) else (if movedS (I 116) c 0 (sgn dy) ≠ c then movedS (I 116) c 0 (sgn dy) else movedS (I 116) c (sgn dx) 0)) G I) :
  mu_WP mu_code d 181 218 [(1, 115), v1, (0, c), v3, v4, (0, dx), (0, dy), v7, (3, 0), v9] [(0, s0)] G I Q := by
  have gx := sgn_lo dx
  have gy := sgn_lo dy
  refine vc_181_218 (by omega) _ _ _ _ _ _ _ _ _ _ _ ⟨fun h0 => ?_, fun h0 => ?_⟩
  · refine r_toward (by omega) _ ⟨hM.1, r_moved (by omega) hM _ _ _ hw hh hc (by omega) gy ?_⟩
    rw [if_neg (by omega)] at h
    refine vc_181_250 (by omega) _ _ _ _ _ _ _ _ _ _ _ ⟨fun h1 => ⟨fun h2 => ?_, fun h2 => absurd h0 h2⟩, fun h1 => ?_⟩
    · refine r_toward (by omega) _ ⟨hM.1, r_moved (by omega) hM _ _ _ hw hh hc gx (by omega) ?_⟩
      refine vc_181_291 (by omega) _ _ _ _ _ _ _ _ _ _ _ ?_
      rw [if_neg (by omega)] at h
      exact h
    · rw [if_pos h1] at h
      exact h
  · refine r_toward (by omega) _ ⟨hM.1, r_moved (by omega) hM _ _ _ hw hh hc gx (by omega) ?_⟩
    rw [if_pos h0] at h
    refine vc_181_250 (by omega) _ _ _ _ _ _ _ _ _ _ _ ⟨fun h1 => ⟨fun h2 => absurd h2 h0, fun h2 => ?_⟩, fun h1 => ?_⟩
    · refine r_toward (by omega) _ ⟨hM.1, r_moved (by omega) hM _ _ _ hw hh hc (by omega) gy ?_⟩
      refine vc_181_291 (by omega) _ _ _ _ _ _ _ _ _ _ _ ?_
      rw [if_neg (by omega)] at h
      exact h
    · rw [if_pos h1] at h
      exact h
theorem s_167 (hd : d < 990) (hM : MR G) {v1 v3 v4 v7 : mu_V} (c dx dy s0 : Int) (hw : 2 ≤ I 116 43 ∧ I 116 43 ≤ 8) (hh : 2 ≤ I 116 44 ∧ I 116 44 ≤ 8) (hc : 0 ≤ c ∧ c < 64) (hx : -1000 < dx ∧ dx < 1000) (hy : -1000 < dy ∧ dy < 1000)
  (h : Q (if dy = 0 ∨ (dx ≠ 0 ∧ (if s0 ≠ 0 then mag dx ≤ mag dy else mag dy ≤ mag dx)) then (if movedS (I 116) c (sgn dx) 0 ≠ c then movedS (I 116) c (sgn dx) 0 else movedS (I 116) c 0 (sgn dy)) else (if movedS (I 116) c 0 (sgn dy) ≠ c then movedS (I 116) c 0 (sgn dy) else movedS (I 116) c (sgn dx) 0)) G I) :
  mu_WP mu_code d 181 167 [(1, 115), v1, (0, c), v3, v4, (0, dx), (0, dy), v7, (3, 0), (3, 0)] [(0, s0)] G I Q := by
  refine vc_181_167 (by omega) _ _ _ _ _ _ _ _ _ _ _ ⟨fun h0 => ?_, fun h0 => ⟨fun h1 => ?_, fun h1 => ⟨fun h2 => ?_, fun h2 => ?_⟩⟩⟩
  · refine vc_181_213 (by omega) _ _ _ _ _ _ _ _ _ _ (s_218 hd hM c dx dy 1 hw hh hc ?_)
    rw [if_pos (Or.inl h0)] at h
    rw [if_pos (by omega)]
    exact h
  · refine vc_181_217 (by omega) _ _ _ _ _ _ _ _ _ _ (s_218 hd hM c dx dy 0 hw hh hc ?_)
    rw [if_neg (by omega)] at h
    rw [if_neg (by omega)]
    exact h
  · refine r_size (by omega) _ hx (r_size (by omega) _ hy ⟨fun h3 => ?_, fun h3 => ?_⟩)
    · refine vc_181_217 (by omega) _ _ _ _ _ _ _ _ _ _ (s_218 hd hM c dx dy 0 hw hh hc ?_)
      rw [if_neg (by omega)]
      rw [if_neg (by rw [if_neg (by omega)]; omega)] at h
      exact h
    · refine vc_181_213 (by omega) _ _ _ _ _ _ _ _ _ _ (s_218 hd hM c dx dy 1 hw hh hc ?_)
      rw [if_pos (by omega)]
      rw [if_pos (by rw [if_neg (by omega)]; omega)] at h
      exact h
  · refine r_size (by omega) _ hx (r_size (by omega) _ hy ⟨fun h3 => ?_, fun h3 => ?_⟩)
    · refine vc_181_217 (by omega) _ _ _ _ _ _ _ _ _ _ (s_218 hd hM c dx dy 0 hw hh hc ?_)
      rw [if_neg (by omega)]
      rw [if_neg (by rw [if_pos (by omega)]; omega)] at h
      exact h
    · refine vc_181_213 (by omega) _ _ _ _ _ _ _ _ _ _ (s_218 hd hM c dx dy 1 hw hh hc ?_)
      rw [if_pos (by omega)]
      rw [if_pos (by rw [if_pos (by omega)]; omega)] at h
      exact h
end

/-! THE REFERENCE'S OWN CELLS: the model stands at 115, its row at 116 -/
abbrev MR (G : mu_G) : Prop := sh G 115 = (12, 0) ∧ rf G 115 1 = 116 ∧ rf G 115 2 = 117 ∧ rf G 115 3 = 118 ∧ rf G 115 10 = 119 ∧ rf G 115 11 = 120 ∧ rf G 115 14 = 121 ∧ rf G 115 15 = 122 ∧ rf G 115 16 = 123 ∧ rf G 115 17 = 124 ∧ rf G 115 18 = 125 ∧ rf G 115 20 = 126 ∧ sh G 116 = (100, 977) ∧ sh G 117 = (100, 977) ∧ sh G 118 = (100, 37) ∧ sh G 119 = (100, 6) ∧ sh G 120 = (101, 64) ∧ sh G 121 = (100, 4) ∧ sh G 122 = (100, 4) ∧ sh G 123 = (101, 4) ∧ sh G 124 = (100, 3) ∧ sh G 125 = (100, 3) ∧ sh G 126 = (100, 20)
abbrev Row : Type := Int → Int
def upR (S : Row) (k x : Int) : Row := fun j => if j = k then x else S j
theorem upR_at (S : Row) (k x j : Int) : upR S k x j = if j = k then x else S j := rfl
theorem upR_same (S : Row) (k x : Int) : upR S k x k = x := if_pos rfl
theorem upR_ne (S : Row) {k x j : Int} (h : j ≠ k) : upR S k x j = S j := if_neg h
theorem set_row (I : mu_M) (a k x : Int) : mu_set I a k x a = upR (I a) k x := by
  funext j
  simp [mu_set, upR]
theorem set_off (I : mu_M) {a k x b : Int} (h : b ≠ a) : mu_set I a k x b = I b := by
  funext j
  simp [mu_set, h]
/-- what may be looked for in a row of the reference -/
def dT (S : Row) (p q : Int) : Nat → Int → Int
  | 0, _ => -1
  | n + 1, k => if k < S (9 + p) then (if S (13 + 3 * p + k) = q then k else dT S p q n (k + 1)) else -1
def debtTo (S : Row) (p q : Int) : Int := dT S p q 3 0
section
variable {d : Nat} {G : mu_G} {I : mu_M} {Q : Int → mu_G → mu_M → Prop}
theorem r_in (hd : d < 999) (x l u : Int) (h : Q (if l ≤ x ∧ x ≤ u then 1 else 0) G I) : mu_WP mu_code d 147 0 [(0, x), (0, l), (0, u)] [] G I Q := by
  refine vc_147_0 (by omega) _ _ _ ?_
  grind
theorem r_isPerson (hd : d < 998) (hM : MR G) (p : Int) (hn : 0 ≤ I 116 37 ∧ I 116 37 ≤ 4) (h : Q (if 0 ≤ p ∧ p < I 116 37 then 1 else 0) G I) : mu_WP mu_code d 167 0 [(1, 115), (0, p)] [] G I Q := by
  refine vc_167_0 (by omega) _ _ ?_
  simp only [hM]
  refine ⟨trivial, by grind, ?_⟩
  refine r_in (by omega) _ _ _ ?_
  rw [wr_id (by omega) (by omega)]
  grind
theorem r_cells (hd : d < 999) (hM : MR G) (h2 : 2 ≤ I 116 43 ∧ I 116 43 ≤ 8) (h3 : 2 ≤ I 116 44 ∧ I 116 44 ≤ 8) (h : Q (I 116 43 * I 116 44) G I) : mu_WP mu_code d 160 0 [(1, 115)] [] G I Q := by
  refine vc_160_0 (by omega) _ ?_
  simp only [hM]
  have h4 : 0 ≤ I 116 43 * I 116 44 := Int.mul_nonneg (by omega) (by omega)
  have h5 : I 116 43 * I 116 44 ≤ 8 * 8 := Int.mul_le_mul h2.2 h3.2 (by omega) (by omega)
  rw [wr_id (by omega) (by omega)]
  grind
theorem r_isCell (hd : d < 998) (hM : MR G) (c : Int) (h2 : 2 ≤ I 116 43 ∧ I 116 43 ≤ 8) (h3 : 2 ≤ I 116 44 ∧ I 116 44 ≤ 8) (h : Q (if 0 ≤ c ∧ c < I 116 43 * I 116 44 then 1 else 0) G I) : mu_WP mu_code d 163 0 [(1, 115), (0, c)] [] G I Q := by
  refine vc_163_0 (by omega) _ _ ?_
  refine ⟨hM.1, ?_⟩
  refine r_cells (by omega) hM h2 h3 ?_
  have h4 : 0 ≤ I 116 43 * I 116 44 := Int.mul_nonneg (by omega) (by omega)
  have h5 : I 116 43 * I 116 44 ≤ 8 * 8 := Int.mul_le_mul h2.2 h3.2 (by omega) (by omega)
  refine r_in (by omega) _ _ _ ?_
  rw [wr_id (by omega) (by omega)]
  grind
theorem r_tellsOf (hd : d < 999) (hM : MR G) (w : Int) (hw : 0 ≤ w ∧ w ≤ 800) (hc : -1 ≤ I 116 42 ∧ I 116 42 ≤ 4) (h : Q (if I 116 42 = -1 then 0 else I 116 (w + I 116 42)) G I) : mu_WP mu_code d 169 0 [(1, 115), (0, w)] [] G I Q := by
  refine vc_169_0 (by omega) _ _ ?_
  simp only [hM]
  rw [wr_id (by omega) (by omega)]
  grind
theorem r_debtTo (hd : d < 999) (hM : MR G) (p q : Int) (hp : 0 ≤ p ∧ p < 4) (ho : I 116 (9 + p) ≤ 3) (h : Q (debtTo (I 116) p q) G I) : mu_WP mu_code d 170 0 [(1, 115), (0, p), (0, q), (3, 0)] [] G I Q := by
  refine vc_170_0 (by omega) _ _ _ ?_
  suffices H : ∀ (n : Nat) (k : Int), k + n = 3 → 0 ≤ k → Q (dT (I 116) p q n k) G I → mu_WP mu_code d 170 2 [(1, 115), (0, p), (0, q), (0, k)] [] G I Q from H 3 0 (by omega) (by omega) h
  intro n
  induction n with
  | zero =>
    intro k hk h0 h
    refine vc_170_2 (by omega) _ _ _ _ ?_
    unfold dT at h
    simp only [hM]
    rw [wr_id (by omega) (by omega)]
    grind
  | succ n ih =>
    intro k hk h0 h
    refine vc_170_2 (by omega) _ _ _ _ ?_
    unfold dT at h
    simp only [hM]
    have e1 : wr (9 + p) = 9 + p := wr_id (by omega) (by omega)
    have e2 : wr (3 * p) = 3 * p := wr_id (by omega) (by omega)
    have e3 : wr (13 + 3 * p) = 13 + 3 * p := wr_id (by omega) (by omega)
    have e4 : wr (13 + 3 * p + k) = 13 + 3 * p + k := wr_id (by omega) (by omega)
    have e5 : wr (k + 1) = k + 1 := wr_id (by omega) (by omega)
    simp only [e1, e2, e3, e4, e5]
    have ih2 := ih (k + 1) (by omega) (by omega)
    clear ih
    grind
end

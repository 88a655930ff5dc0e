/-! QUESTIONS TO THE REFERENCE: tracks, odds, means, books -/
def gbL (S : Row) (p : Int) : Nat → Int → Row → Bool
  | 0, _, _ => true
  | n + 1, k, T => if k < S 39 then (if dayS T (1 + p) = S (73 + k) then gbL S p n (k + 1) (dayS T) else false) else true
def gbT (S : Row) (p q : Int) : Bool := gbL S p 6 0 (ptS (upR S (9 + p) 0) p 0 q 99)
def obL (S : Row) (p : Int) : Nat → Int → Int → Int
  | 0, _, x => x
  | n + 1, q, x => if q < S 37 then (if q ≠ p ∧ gbT S p q = true then obL S p n (q + 1) (mu_or x (mu_shl 1 q)) else obL S p n (q + 1) x) else x
def owedS (S : Row) (p : Int) : Int := if ¬ (0 ≤ p ∧ p < S 37) then -1 else obL S p 4 0 0
def meF (S : Row) (a b q : Int) : Int := ffS (fun T => decide (T (1 + a) = T (1 + b))) 61 0 (ptS S a 0 q 99)
def odL (S : Row) (a b n : Int) : Nat → Int → Int → Int → Int × Int
  | 0, _, u, l => (u, l)
  | m + 1, q, u, l => if q < S 37 then (if q ≠ a ∧ debtTo S a q = -1 then (if meF S a b q ≠ -5 ∧ meF S a b q ≤ n then odL S a b n m (q + 1) (u + 1) (l + 1) else odL S a b n m (q + 1) u (l + 1)) else odL S a b n m (q + 1) u l) else (u, l)
/-- in lowest terms -/
def lowS (u l part : Int) : Int := Int.tdiv (if part = 0 then u else l) (Nat.gcd u.toNat l.toNat)
def odA (x : Int × Int) (part : Int) : Int := if x.2 = 0 then -9223372036854775808 else lowS x.1 x.2 part
def oddsS (S : Row) (a b n part : Int) : Int := if ¬ (((0 ≤ a ∧ a < S 37) ∧ 0 ≤ b ∧ b < S 37) ∧ a ≠ b ∧ (0 ≤ n ∧ n ≤ 60) ∧ 0 ≤ part ∧ part ≤ 1) then -9223372036854775808 else odA (odL S a b n 4 0 0 0) part
def puL (S : Row) : Nat → Int → Int → Int
  | 0, _, x => x
  | n + 1, p, x => if p < S 37 then puL S n (p + 1) (x + S (5 + p)) else x
def meanS (S : Row) (n part : Int) : Int := if ¬ ((0 ≤ n ∧ n ≤ 60) ∧ (0 ≤ part ∧ part ≤ 1) ∧ S 37 ≠ 0) then -9223372036854775808 else lowS (puL (goS n.toNat S) 4 0 0) (S 37) part
def lkL (S : Row) : Nat → Int → Int
  | 0, _ => -5
  | n + 1, k => if k < S 40 then (if onS S (S (79 + k)) (S (87 + k)) 0 = S (95 + k) then lkL S n (k + 1) else k) else -5
def lookedS (S : Row) : Int := lkL S 8 0
theorem mu_or0 {x : Int} (h1 : -2147483648 ≤ x) (h2 : x ≤ 2147483647) : mu_or x 0 = x := by
  unfold mu_or
  rw [show Int32.ofInt 0 = 0 from rfl, Int32.or_zero]
  exact wr_id h1 h2
theorem mu_or_lo (x y : Int) : -2147483648 ≤ mu_or x y ∧ mu_or x y ≤ 2147483647 := by
  unfold mu_or
  have h1 := Int32.le_toInt (Int32.ofInt x ||| Int32.ofInt y)
  have h2 := Int32.toInt_lt (Int32.ofInt x ||| Int32.ofInt y)
  constructor
  · exact h1
  · omega
theorem Inv.owes0 {S : Row} {p : Int} (h : Inv S) (hp : 0 ≤ p ∧ p < 4) : Inv (upR S (9 + p) 0) := by
  refine h.one hp ?_ (fun j hj => upR_ne _ (by omega)) ?_ ?_
  · rw [upR_ne _ (by omega)]; exact h.1
  · intro q q0 q1 hqp
    refine ⟨upR_ne _ (by omega), upR_ne _ (by omega), upR_ne _ (by omega), fun k k0 k1 => ⟨upR_ne _ (by omega), upR_ne _ (by omega)⟩⟩
  · intro hp2
    obtain ⟨j1, j2, j3, j4, j5, j6, j7, j8⟩ := h.2.2.2.2.1 p hp.1 hp2
    have e : ∀ j, j ≠ 9 + p → upR S (9 + p) 0 j = S j := fun j hj => upR_ne _ hj
    refine ⟨by rw [e (1 + p) (by omega), e 43 (by omega), e 44 (by omega)]; exact j1, by rw [e _ (by omega)]; exact j2, by rw [upR_same]; omega, by rw [e _ (by omega)]; exact j4, by rw [e _ (by omega)]; exact j5, by rw [e (53 + p) (by omega), e 43 (by omega), e 44 (by omega)]; exact j6, ?_, ?_⟩
    · intro k k0 k1
      rw [upR_same] at k1
      omega
    · intro k k0 k1
      rw [e _ (by omega)]
      exact j8 k k0 k1
section
variable {d : Nat} {G : mu_G} {I : mu_M} {Q : Int → mu_G → mu_M → Prop}
theorem r_goesByTracks (hd : d < 940) (hM : MR G) {S : Row} (p : Int) (hp : 0 ≤ p ∧ p < 4) (hK : KP S I) (hT : 0 ≤ S 39 ∧ S 39 ≤ 6) (hW : WD (I 116) 6) (h : ∀ I1, FE I I1 → KP S I1 → Q (bi (gbL S p 6 0 (I 116))) G I1) : mu_WP mu_code d 209 0 [(1, 115), (0, p), (3, 0)] [] G I Q := by
  have e1 : wr (1 + p) = 1 + p := wr_id (by omega) (by omega)
  refine vc_209_0 (by omega) _ _ ?_
  suffices H : ∀ (n : Nat) (k : Int) (I2 : mu_M), k + n = 6 → 0 ≤ k → FE I I2 → KP S I2 → WD (I2 116) n → (∀ I1, FE I I1 → KP S I1 → Q (bi (gbL S p n k (I2 116))) G I1) → mu_WP mu_code d 209 2 [(1, 115), (0, p), (0, k)] [] G I2 Q from
    H 6 0 I (by omega) (by omega) (FE.rf I) hK hW h
  intro n
  induction n with
  | zero =>
    intro k I2 hk h0 hf hK2 hw hq
    refine vc_209_2 (by omega) _ _ _ ?_
    simp only [hM, hK2.2 39 (by omega)]
    exact ⟨trivial, by grind, fun h1 => absurd h1 (by omega), fun _ => hq I2 hf hK2⟩
  | succ n ih =>
    intro k I2 hk h0 hf hK2 hw hq
    have e2 : wr (73 + k) = 73 + k := wr_id (by omega) (by omega)
    have e3 : wr (k + 1) = k + 1 := wr_id (by omega) (by omega)
    rw [gbL] at hq
    refine vc_209_2 (by omega) _ _ _ ?_
    simp only [hM, hK2.2 39 (by omega), e1, e2, e3]
    refine ⟨trivial, by grind, fun h1 => r_day1 (by omega) hM hK2 hw ?_, fun h1 => ?_⟩
    · intro I3 f3 r3 k3 w3
      rw [if_pos h1] at hq
      simp only [hM, k3.2 (73 + k) (by omega)]
      rw [r3]
      refine ⟨trivial, by grind, by grind, fun h2 => ?_, fun h2 => ?_⟩
      · rw [if_pos h2, ← r3] at hq
        exact ih (k + 1) I3 (by omega) (by omega) (hf.tr f3.fe) k3 w3 hq
      · rw [if_neg h2] at hq
        exact hq I3 (hf.tr f3.fe) k3
    · rw [if_neg h1] at hq
      exact hq I2 hf hK2
theorem r_owed (hd : d < 930) (hM : MR G) (p : Int) (hW : WD (I 116) 100) (hT : 0 ≤ I 116 39 ∧ I 116 39 ≤ 6) (h : ∀ I1, FE I I1 → I1 116 = I 116 → Q (owedS (I 116) p) G I1) : mu_WP mu_code d 208 0 [(1, 115), (0, p), (3, 0), (3, 0)] [] G I Q := by
  have h4 := hW.1.2.1
  unfold owedS at h
  refine vc_208_0 (by omega) _ _ ⟨hM.1, r_isPerson (by omega) hM p h4 ⟨fun h1 => ?_, fun h1 => ?_⟩⟩
  · rw [if_pos (ifn h1)] at h
    exact h I (FE.rf I) rfl
  have hp := ifp h1
  rw [if_neg (by intro hc; exact hc hp)] at h
  refine ⟨hM.1, r_keeps (by omega) hM ?_⟩
  intro I1 f1 r1 _ k1
  have e1 : wr (9 + p) = 9 + p := wr_id (by omega) (by omega)
  suffices H : ∀ (n : Nat) (q x : Int) (I2 : mu_M), q + n = 4 → 0 ≤ q → (-2147483648 ≤ x ∧ x ≤ 2147483647) → FE I I2 → KP (I 116) I2 → I2 116 = I 116 → (∀ I1, FE I I1 → I1 116 = I 116 → Q (obL (I 116) p n q x) G I1) → mu_WP mu_code d 208 18 [(1, 115), (0, p), (0, x), (0, q)] [] G I2 Q from
    H 4 0 0 I1 (by omega) (by omega) (by omega) f1 k1 r1 h
  intro n
  induction n with
  | zero =>
    intro q x I2 hq h0 hx hf hK hr hh
    refine vc_208_18 (by omega) _ _ _ _ ?_
    simp only [hM, hr]
    exact ⟨trivial, by grind, fun h1 => absurd h1 (by omega), fun _ => hh I2 hf hr⟩
  | succ n ih =>
    intro q x I2 hq h0 hx hf hK hr hh
    have e2 : wr (q + 1) = q + 1 := wr_id (by omega) (by omega)
    rw [obL] at hh
    refine vc_208_18 (by omega) _ _ _ _ ?_
    simp only [hM, hr, e1, e2]
    refine ⟨trivial, by grind, fun h1 => ⟨fun h2 => ?_, fun h2 => ⟨by grind, ?_⟩⟩, fun h1 => ?_⟩
    · rw [if_pos h1, if_neg (fun hc => hc.1 h2)] at hh
      exact ih (q + 1) x I2 (by omega) (by omega) hx hf hK hr hh
    · intro I3 q3
      rw [if_pos h1] at hh
      have r3 : I3 116 = upR (I 116) (9 + p) 0 := by rw [q3, set_row, hr]
      have i3 : Inv (I3 116) := by rw [r3]; exact hW.1.owes0 (by omega)
      have w3 : WD (I3 116) 6 := by
        refine ⟨i3, by rw [r3]; exact hW.2.1.off (by omega), ?_⟩
        rw [r3, upR_ne _ (by omega)]
        have := hW.2.2
        omega
      have e9 : I3 116 (9 + p) = 0 := by rw [r3, upR_same]
      have e37 : I3 116 37 = I 116 37 := by rw [r3, upR_ne _ (by omega)]
      have k3 : KP (I 116) I3 := by
        refine ⟨fun j j0 j1 => ?_, fun j hj => ?_⟩
        · rw [q3, set_off _ (by decide)]
          exact hK.1 j j0 j1
        · rw [r3, upR_ne _ (by omega)]
      refine r_puts (by omega) hM p 0 q 99 (by omega) (by omega) (by omega) ?_
      intro I4 f4 r4
      have k4 : KP (I 116) I4 := k3.pt f4 r4 (by omega) (by omega) (by omega)
      have w4 : WD (I4 116) 6 := by rw [r4]; exact w3.pt (by omega) (by omega) (by omega) (by omega) (by omega)
      refine ⟨hM.1, r_goesByTracks (by omega) hM p (by omega) k4 hT w4 ?_⟩
      intro I5 f5 k5
      have eg : gbL (I 116) p 6 0 (I4 116) = gbT (I 116) p q := by rw [r4, r3]; rfl
      rw [eg]
      have back : ∀ x1, (-2147483648 ≤ x1 ∧ x1 ≤ 2147483647) → (∀ I1, FE I I1 → I1 116 = I 116 → Q (obL (I 116) p n (q + 1) x1) G I1) → mu_WP mu_code (d + 1) 192 0 [(1, 115), (3, 0)] [] G I5 (fun _ G1 I6 => mu_WP mu_code d 208 18 [(1, 115), (0, p), (0, x1), (0, q + 1)] [] G1 I6 Q) := by
        intro x1 hx1 hq1
        refine r_goesBack (by omega) hM k5 ?_
        intro I6 f6 r6
        exact ih (q + 1) x1 I6 (by omega) (by omega) hx1 (((hf.tr (q3 ▸ FE.w I2 _ _ (by simp))).tr f4.fe).tr (f5.tr f6.fe)) ⟨fun j j0 j1 => by rw [f6 118 (by decide)]; exact k5.1 j j0 j1, fun j _ => by rw [r6]⟩ r6 hq1
      refine ⟨fun h3 => ⟨hM.1, ?_⟩, fun h3 => ⟨hM.1, ?_⟩⟩
      · rw [if_neg (by rw [(bi_not _).1 h3]; simp)] at hh
        rw [mu_or0 hx.1 hx.2]
        exact back x hx hh
      · rw [if_pos ⟨h2, by cases hb : gbT (I 116) p q <;> simp [hb, bi] at h3 ⊢⟩] at hh
        exact back _ (mu_or_lo _ _) hh
    · rw [if_neg h1] at hh
      exact hh I2 hf hr
theorem r_lowest (hd : d < 940) (u l part : Int) (hu : 0 ≤ u ∧ u < 1000000) (hl : 0 < l ∧ l < 1000000) (h : Q (lowS u l part) G I) : mu_WP mu_code d 211 0 [(2, u), (3, 0), (2, l), (3, 0), (0, part), (3, 0), (3, 0), (3, 0), (3, 0), (3, 0), (3, 0)] [] G I Q := by
  refine vc_211_0 (by omega) _ _ _ ?_
  suffices H : ∀ (n x y : Nat) (v9 v10 : mu_V), y ≤ n → 0 < x + y → Nat.gcd x y = Nat.gcd u.toNat l.toNat → mu_WP mu_code d 211 6 [(2, u), (3, 0), (2, l), (3, 0), (0, part), (2, (x : Int)), (3, 0), (2, (y : Int)), (3, 0), v9, v10] [] G I Q by
    have := H l.toNat u.toNat l.toNat (3, 0) (3, 0) (Nat.le_refl _) (by omega) rfl
    rw [show ((u.toNat : Nat) : Int) = u by omega, show ((l.toNat : Nat) : Int) = l by omega] at this
    exact this
  intro n
  induction n with
  | zero =>
    intro x y v9 v10 hy hxy hg
    have hy0 : y = 0 := by omega
    subst hy0
    rw [Nat.gcd_zero_right] at hg
    have hb : ∀ z : Int, 0 ≤ z → z < 1000000 → wl (Int.tdiv z (x : Int)) = Int.tdiv z (x : Int) := by
      intro z z0 z1
      have h1 : Int.tdiv z (x : Int) = z / (x : Int) := Int.tdiv_eq_ediv_of_nonneg z0
      rw [h1]
      have h2 : z / (x : Int) ≤ z := Int.ediv_le_self _ z0
      have h3 : 0 ≤ z / (x : Int) := Int.ediv_nonneg z0 (by omega)
      exact wl_id (by omega) (by omega)
    unfold lowS at h
    rw [← hg] at h
    refine vc_211_6 (by omega) _ _ _ _ _ _ _ ⟨fun _ => ⟨fun h1 => ⟨by omega, ?_⟩, fun h1 => ⟨by omega, ?_⟩⟩, fun h1 => absurd (show mu_cmp ((0 : Nat) : Int) 0 = 0 by simp [mu_cmp]) h1⟩
    · rw [if_pos h1] at h
      rw [hb u (by omega) (by omega)]; exact h
    · rw [if_neg h1] at h
      rw [hb l (by omega) (by omega)]; exact h
  | succ n ih =>
    intro x y v9 v10 hy hxy hg
    by_cases hy0 : y = 0
    · exact ih x y v9 v10 (by omega) hxy hg
    · have hne : ¬ mu_cmp (y : Int) 0 = 0 := by
        unfold mu_cmp
        rw [if_pos (by omega)]
        decide
      refine vc_211_6 (by omega) _ _ _ _ _ _ _ ⟨fun h1 => absurd h1 hne, fun _ => ⟨by omega, ?_⟩⟩
      have em : Int.tmod (x : Int) (y : Int) = ((x % y : Nat) : Int) := by
        rw [Int.tmod_eq_emod_of_nonneg (by omega)]
        rfl
      have hlt : x % y < y := Nat.mod_lt _ (by omega)
      rw [em]
      refine ih y (x % y) _ _ (by omega) (by omega) ?_
      rw [← hg, Nat.gcd_comm x y, Nat.gcd_rec y x, Nat.gcd_comm]
theorem r_mean (hd : d < 930) (hM : MR G) (n part : Int) (hW : WD (I 116) 100) (h : ∀ I1, FE I I1 → I1 116 = I 116 → Q (meanS (I 116) n part) G I1) : mu_WP mu_code d 212 0 [(1, 115), (0, n), (0, part), (3, 0), (3, 0), (3, 0)] [] G I Q := by
  have h4 := hW.1.2.1
  unfold meanS at h
  refine vc_212_0 (by omega) _ _ _ (r_in (by omega) _ _ _ ⟨fun h1 => ?_, fun h1 => r_in (by omega) _ _ _ ⟨fun h2 => ?_, fun h2 => ?_⟩⟩)
  · rw [if_pos (fun hc => ifm h1 hc.1)] at h
    exact h I (FE.rf I) rfl
  · rw [if_pos (fun hc => ifm h2 hc.2.1)] at h
    exact h I (FE.rf I) rfl
  have hn := ifq h1
  have hpt := ifq h2
  simp only [hM]
  refine ⟨trivial, by grind, fun h3 => ?_, fun h3 => r_keeps (by omega) hM ?_⟩
  · rw [if_pos (fun hc => hc.2.2 h3)] at h
    exact h I (FE.rf I) rfl
  rw [if_neg (by intro hc; exact hc ⟨hn, hpt, h3⟩)] at h
  intro I1 f1 r1 _ k1
  refine ⟨hM.1, ?_⟩
  rw [show n = (n.toNat : Int) by omega]
  refine r_goes (by omega) hM k1 n.toNat (by omega) (by rw [r1]; exact hW.lo (by omega)) ?_
  intro I2 f2 r2 k2
  rw [r1] at r2
  rw [show (n.toNat : Int) = n by omega]
  have wT : WD (I2 116) 0 := by rw [r2]; exact goS_WD _ _ 0 (hW.lo (by omega))
  have e37 : I2 116 37 = I 116 37 := k2.2 37 (by omega)
  rw [← r2] at h
  suffices H : ∀ (m : Nat) (p x : Int), p + m = 4 → 0 ≤ p → (0 ≤ x ∧ x ≤ 999 * p) → (∀ I1, FE I I1 → I1 116 = I 116 → Q (lowS (puL (I2 116) m p x) (I 116 37) part) G I1) → mu_WP mu_code d 212 47 [(1, 115), (0, n), (0, part), (2, x), (3, 0), (0, p)] [] G I2 Q from
    H 4 0 0 (by omega) (by omega) (by omega) h
  have fin : ∀ (p x : Int), ¬ p < I 116 37 → (0 ≤ x ∧ x ≤ 3996) → (∀ I1, FE I I1 → I1 116 = I 116 → Q (lowS x (I 116 37) part) G I1) → mu_WP mu_code d 212 47 [(1, 115), (0, n), (0, part), (2, x), (3, 0), (0, p)] [] G I2 Q := by
    intro p x hp hx hq
    refine vc_212_47 (by omega) _ _ _ _ _ ?_
    simp only [hM, e37]
    refine ⟨trivial, by grind, fun h1 => absurd h1 hp, fun _ => r_goesBack (by omega) hM k2 ?_⟩
    intro I3 f3 r3
    simp only [hM, r3]
    exact ⟨trivial, by grind, r_lowest (by omega) _ _ _ (by omega) (by omega) (hq I3 ((f1.tr f2).tr f3.fe) r3)⟩
  intro m
  induction m with
  | zero =>
    intro p x hp h0 hx hq
    exact fin p x (by omega) (by omega) hq
  | succ m ih =>
    intro p x hp h0 hx hq
    by_cases hlt : p < I 116 37
    · have e1 : wr (5 + p) = 5 + p := wr_id (by omega) (by omega)
      have e2 : wr (p + 1) = p + 1 := wr_id (by omega) (by omega)
      have hb := (wT.1.2.2.2.2.1 p h0 (by omega)).2.1
      rw [puL, if_pos (by omega)] at hq
      refine vc_212_47 (by omega) _ _ _ _ _ ?_
      simp only [hM, e37, e1, e2]
      rw [wl_id (x := x + I2 116 (5 + p)) (by omega) (by omega)]
      exact ⟨trivial, by grind, fun _ => ⟨by grind, ih (p + 1) _ (by omega) (by omega) (by omega) hq⟩, fun h1 => absurd hlt h1⟩
    · rw [puL, if_neg (by omega)] at hq
      exact fin p x hlt (by omega) hq
theorem r_looked (hd : d < 930) (hM : MR G) (hW : WD (I 116) 100) (hB : 0 ≤ I 116 40 ∧ I 116 40 ≤ 8) (h : ∀ I1, FE I I1 → I1 116 = I 116 → Q (lookedS (I 116)) G I1) : mu_WP mu_code d 214 0 [(1, 115), (3, 0)] [] G I Q := by
  refine vc_214_0 (by omega) _ ?_
  suffices H : ∀ (n : Nat) (k : Int) (I2 : mu_M), k + n = 8 → 0 ≤ k → FE I I2 → I2 116 = I 116 → (∀ I1, FE I I1 → I1 116 = I 116 → Q (lkL (I 116) n k) G I1) → mu_WP mu_code d 214 2 [(1, 115), (0, k)] [] G I2 Q from
    H 8 0 I (by omega) (by omega) (FE.rf I) rfl h
  intro n
  induction n with
  | zero =>
    intro k I2 hk h0 hf hr hq
    refine vc_214_2 (by omega) _ _ ?_
    simp only [hM, hr]
    exact ⟨trivial, by grind, fun h1 => absurd h1 (by omega), fun _ => hq I2 hf hr⟩
  | succ n ih =>
    intro k I2 hk h0 hf hr hq
    have e1 : wr (79 + k) = 79 + k := wr_id (by omega) (by omega)
    have e2 : wr (87 + k) = 87 + k := wr_id (by omega) (by omega)
    have e3 : wr (95 + k) = 95 + k := wr_id (by omega) (by omega)
    have e4 : wr (k + 1) = k + 1 := wr_id (by omega) (by omega)
    rw [lkL] at hq
    refine vc_214_2 (by omega) _ _ ?_
    simp only [hM, hr, e1, e2, e3, e4]
    refine ⟨trivial, by grind, fun h1 => ⟨by grind, by grind, r_on (by omega) hM _ _ _ (by rw [hr]; exact hW) ?_⟩, fun h1 => ?_⟩
    · intro I3 f3 r3
      rw [if_pos h1] at hq
      rw [hr] at r3
      simp only [hM, hr, r3]
      refine ⟨trivial, by grind, fun h2 => ?_, fun h2 => ?_⟩
      · rw [if_pos h2] at hq
        exact ih (k + 1) I3 (by omega) (by omega) (hf.tr f3) r3 hq
      · rw [if_neg h2] at hq
        exact hq I3 (hf.tr f3) r3
    · rw [if_neg h1] at hq
      exact hq I2 hf hr
end

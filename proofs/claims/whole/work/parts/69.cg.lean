/-! THE CLASS'S DAY: where steps lead, who stays, who pays -/
theorem upR_comm (S : Row) {a b x y : Int} (h : a ≠ b) : upR (upR S a x) b y = upR (upR S b y) a x := by
  funext j
  simp only [upR_at]
  by_cases h1 : j = b
  · rw [if_pos h1, if_neg (by omega), if_pos h1]
  · rw [if_neg h1]
    by_cases h2 : j = a
    · rw [if_pos h2, if_pos h2]
    · rw [if_neg h2, if_neg h2, if_neg h1]
theorem tkL_comm {p j x : Int} (hp : 0 ≤ p ∧ p < 4) (hj : j ≠ 9 + p ∧ (j < 13 + 3 * p ∨ 13 + 3 * p + 3 ≤ j) ∧ (j < 25 + 3 * p ∨ 25 + 3 * p + 3 ≤ j)) : ∀ (n : Nat) (k : Int) (S : Row), 0 ≤ k → S (9 + p) ≤ 2 → tkL p n k (upR S j x) = upR (tkL p n k S) j x
  | 0, _, _, _, _ => rfl
  | n + 1, k, S, hk, h9 => by
    rw [tkL, tkL, upR_ne _ (show 9 + p ≠ j by omega)]
    by_cases hlt : k < S (9 + p)
    · rw [if_pos hlt, if_pos hlt, upR_ne _ (show 13 + 3 * p + k + 1 ≠ j by omega), upR_ne _ (show 25 + 3 * p + k + 1 ≠ j by omega)]
      rw [upR_comm S (show j ≠ 13 + 3 * p + k by omega), upR_comm _ (show j ≠ 25 + 3 * p + k by omega)]
      exact tkL_comm hp hj n (k + 1) _ (by omega) (by rw [upR_ne _ (by omega), upR_ne _ (by omega)]; exact h9)
    · rw [if_neg hlt, if_neg hlt]
theorem tkS_comm {S : Row} {p k j x : Int} (hp : 0 ≤ p ∧ p < 4) (hk : 0 ≤ k) (h9 : S (9 + p) ≤ 3) (hj : j ≠ 9 + p ∧ (j < 13 + 3 * p ∨ 13 + 3 * p + 3 ≤ j) ∧ (j < 25 + 3 * p ∨ 25 + 3 * p + 3 ≤ j)) : tkS (upR S j x) p k = upR (tkS S p k) j x := by
  unfold tkS
  rw [upR_ne _ (show 9 + p ≠ j by omega), upR_comm S hj.1]
  exact tkL_comm hp hj 3 k _ hk (by rw [upR_same]; omega)
/-- a payment, as the class makes it -/
theorem pay1_is {S : Row} {p : Int} (h : Inv S) (hp : 0 ≤ p ∧ p < S 37) (hc : canP S p) : pay1 S p = upR (ownP S p) (5 + S (13 + 3 * p)) (cap (ownP S p (5 + S (13 + 3 * p)) + paidS S p)) := by
  obtain ⟨b1, b2, b3, b4, b5, b6, b7⟩ := paid_bd h hp hc
  have h4 := h.2.1
  have j3 := (h.2.2.2.2.1 p hp.1 hp.2).2.2.1
  have e : payB S p = upR (upR (upR S (5 + p) (S (5 + p) - paidS S p)) (25 + 3 * p) (S (25 + 3 * p) - paidS S p)) (5 + S (13 + 3 * p)) (cap (S (5 + S (13 + 3 * p)) + paidS S p)) := by
    unfold payB payA
    rw [upR_comm _ (show 5 + S (13 + 3 * p) ≠ 25 + 3 * p by omega), upR_ne S (show 5 + S (13 + 3 * p) ≠ 5 + p by omega)]
  unfold pay1 ownP
  by_cases hs : S (25 + 3 * p) = paidS S p
  · rw [if_pos hs, if_pos hs, e, tkS_comm (by omega) (by omega) (by rw [upR_ne _ (by omega), upR_ne _ (by omega)]; omega) (by omega)]
    rw [tkS_off (S := upR (upR S (5 + p) (S (5 + p) - paidS S p)) (25 + 3 * p) (S (25 + 3 * p) - paidS S p)) (by omega) (by omega) (by rw [upR_ne _ (by omega), upR_ne _ (by omega)]; omega) (by omega) (by omega) (by omega), upR_ne _ (by omega), upR_ne _ (by omega)]
  · rw [if_neg hs, if_neg hs, e, upR_ne (upR S (5 + p) (S (5 + p) - paidS S p)) (by omega), upR_ne S (by omega)]
theorem Inv.own {S : Row} {p : Int} (h : Inv S) (hp : 0 ≤ p ∧ p < S 37) (hc : canP S p) : Inv (ownP S p) := by
  obtain ⟨b1, b2, b3, b4, b5, b6, b7⟩ := paid_bd h hp hc
  have h4 := h.2.1
  have i1 : Inv (upR S (5 + p) (S (5 + p) - paidS S p)) := h.purse (by omega) (by omega)
  have i3 := i1.sum (p := p) (k := 0) (x := S (25 + 3 * p) - paidS S p) (by omega) (by omega) (by omega)
  rw [Int.add_zero] at i3
  unfold ownP
  split
  · exact i3.tk (by rw [upR_ne _ (by omega), upR_ne _ (by omega)]; exact hp) (by omega) (by rw [upR_ne _ (by omega), upR_ne _ (by omega)]; have := hc.1; omega)
  · exact i3
theorem own_off {S : Row} {p j : Int} (hp : 0 ≤ p ∧ p < 4) (h9 : S (9 + p) ≤ 3) (hj : j ≠ 5 + p ∧ j ≠ 9 + p ∧ (j < 13 + 3 * p ∨ 13 + 3 * p + 3 ≤ j) ∧ (j < 25 + 3 * p ∨ 25 + 3 * p + 3 ≤ j)) : ownP S p j = S j := by
  unfold ownP
  split
  · rw [tkS_off hp (by omega) (by rw [upR_ne _ (by omega), upR_ne _ (by omega)]; exact h9) hj.2.1 hj.2.2.1 hj.2.2.2, upR_ne _ (by omega), upR_ne _ (by omega)]
  · rw [upR_ne _ (by omega), upR_ne _ (by omega)]
theorem and3 {x : Int} (h : 0 ≤ x ∧ x < 100000) : mu_and x 3 = Int.tmod x 4 := by
  have := mn_and (a := x.toNat) (b := 3) (by omega) (by omega)
  rw [show ((x.toNat : Nat) : Int) = x by omega, show ((3 : Nat) : Int) = 3 from rfl] at this
  rw [this, Int.tmod_eq_emod_of_nonneg h.1, show (3 : Nat) = 2 ^ 2 - 1 from rfl, Nat.and_two_pow_sub_one_eq_mod]
  omega
/-- all outside of the world at w is as it was -/
def FW (w : Int) (I I1 : mu_M) : Prop := ∀ b, (b < w ∨ w + 31 ≤ b) → I1 b = I b
theorem FW.rf (w : Int) (I : mu_M) : FW w I I := fun _ _ => rfl
theorem FW.tr {w : Int} {I I1 I2 : mu_M} (h : FW w I I1) (h2 : FW w I1 I2) : FW w I I2 := fun b hb => by rw [h2 b hb, h b hb]
theorem FF1.fw {w : Int} {I I1 : mu_M} (h : FF1 w I I1) : FW w I I1 := fun b hb => h b (by omega)
theorem FP1.fw {w i : Int} {I I1 : mu_M} (h : FP1 (w + 11 + 5 * i) I I1) (hi : 0 ≤ i ∧ i < 4) : FW w I I1 := fun b hb => h.1 b (by omega)
/-- what a day has made of people is as it was -/
def MK (w : Int) (I I1 : mu_M) : Prop := ∀ q, 0 ≤ q → q < 4 → ∀ j, 10 ≤ j → I1 (w + 11 + 5 * q) j = I (w + 11 + 5 * q) j
theorem MK.rf (w : Int) (I : mu_M) : MK w I I := fun _ _ _ _ _ => rfl
theorem MK.tr {w : Int} {I I1 I2 : mu_M} (h : MK w I I1) (h2 : MK w I1 I2) : MK w I I2 := fun q a b j hj => by rw [h2 q a b j hj, h q a b j hj]
theorem FP1.mk {w i : Int} {I I1 : mu_M} (h : FP1 (w + 11 + 5 * i) I I1) : MK w I I1 := by
  intro q q0 q1 j hj
  by_cases hqi : q = i
  · rw [hqi]; exact h.2 j hj
  · rw [h.1 _ (by omega)]
section
variable {d : Nat} {G : mu_G} {I : mu_M} {Q : Int → mu_G → mu_M → Prop} {w : Int} {S : Row}
theorem k_cellAfter (hd : d < 940) (hG : GW G w) (hC : CW G I w S) (hI : Inv S) (hw : 0 ≤ w ∧ w + 31 ≤ 115) (i : Int) (hi : 0 ≤ i ∧ i < S 37) (n : Nat) (hn : n ≤ 2) (aim : Int) (ha : aim = -5 ∨ (0 ≤ aim ∧ aim < S 43 * S 44)) (h : Q (toL S i aim n (S (1 + i))) G I) : mu_WP mu_code d 87 0 [(1, w), (1, w + 11 + 5 * i), (0, (n : Int)), (0, aim), (3, 0), (3, 0)] [] G I Q := by
  have h4 := hI.2.1
  have hwh := hI.wh
  obtain ⟨j1, j2, j3, j4, j5, j6, j7, j8⟩ := hI.2.2.2.2.1 i hi.1 hi.2
  have g2 := (hG.p (i := i) (by omega)).2
  obtain ⟨⟨p0, p2, p3, p4, p5, p6⟩, p7, p8, pk1, pk2, pk3⟩ := hC.2.2.2 i hi.1 hi.2
  have day := hI.1
  have e6 : I w 6 = S 0 := hC.1.2.2.2.1
  refine vc_87_0 (by omega) _ _ _ _ ⟨g2.1, ?_⟩
  rw [p4]
  suffices H : ∀ (m : Nat) (k c : Int), k + m = n → 0 ≤ k → (0 ≤ c ∧ c < S 43 * S 44) → Q (toL S i aim m c) G I → mu_WP mu_code d 87 9 [(1, w), (1, w + 11 + 5 * i), (0, (n : Int)), (0, aim), (0, c), (0, k)] [] G I Q from H n 0 _ (by omega) (by omega) j1 h
  clear h
  intro m
  induction m with
  | zero =>
    intro k c hk k0 hc h
    exact vc_87_9 (by omega) _ _ _ _ _ _ ⟨fun h1 => absurd h1 (by omega), fun _ => h⟩
  | succ m ih =>
    intro k c hk k0 hc h
    rw [toL] at h
    have hb := stS_bd (S := S) (p := i) (aim := aim) hI.2.2.1 hI.2.2.2.1 hc
    have e1 : wr (k + 1) = k + 1 := wr_id (by omega) (by omega)
    have next : ∀ c1, c1 = stS S i c aim → mu_WP mu_code d 87 9 [(1, w), (1, w + 11 + 5 * i), (0, (n : Int)), (0, aim), (0, c1), (0, k + 1)] [] G I Q := by
      intro c1 hc1
      rw [hc1]
      exact ih (k + 1) _ (by omega) (by omega) hb h
    -- by its aim
    have aimed : ¬ (S (45 + i) = 6 ∧ 0 < S (9 + i)) → mu_WP mu_code d 87 29 [(1, w), (1, w + 11 + 5 * i), (0, (n : Int)), (0, aim), (0, c), (0, k)] [(0, 0)] G I Q := by
      intro hk6
      have go : ∀ z : Int, (z ≠ 0 ↔ S (45 + i) = 2 ∨ S (45 + i) = 5) → mu_WP mu_code d 87 63 [(1, w), (1, w + 11 + 5 * i), (0, (n : Int)), (0, aim), (0, c), (0, k)] [(0, z), (0, aim), (0, c), (1, w)] G I Q := by
        intro z hz
        refine vc_87_63 (by omega) _ _ _ _ _ _ _ _ _ _ ⟨hG.1, k_stepToward (by omega) hG hC hI c aim z hc ha ?_⟩
        rw [e1]
        refine next _ ?_
        unfold stS
        rw [if_neg hk6]
        by_cases hz2 : z ≠ 0
        · simp only [if_pos hz2, if_pos (hz.1 hz2)]
        · simp only [if_neg hz2, if_neg (fun hc => hz2 (hz.2 hc))]
      refine vc_87_29 (by omega) _ _ _ _ _ _ _ ⟨fun _ => ⟨g2.1, ?_⟩, fun hn => absurd rfl hn⟩
      have hkk : S (45 + i) = 0 ∨ S (45 + i) = 1 ∨ S (45 + i) = 2 ∨ S (45 + i) = 3 ∨ S (45 + i) = 4 ∨ S (45 + i) = 5 ∨ S (45 + i) = 6 := by omega
      rw [pk2]
      rcases hkk with hk | hk | hk | hk | hk | hk | hk
      · rw [hk]
        exact ⟨fun _ => vc_65_0 (by omega) _ (go 0 (by omega)), fun hn => absurd rfl hn⟩
      · rw [hk]
        exact ⟨fun hn => absurd hn (by decide), fun _ => ⟨fun hn => absurd hn (by decide), fun _ => ⟨fun hn => absurd hn (by decide), fun _ => ⟨fun hn => absurd hn (by decide), fun _ => ⟨fun hn => absurd hn (by decide), fun _ => ⟨fun _ => vc_65_0 (by omega) _ (go 0 (by omega)), fun hn => absurd rfl hn⟩⟩⟩⟩⟩⟩
      · rw [hk]
        exact ⟨fun hn => absurd hn (by decide), fun _ => ⟨fun hn => absurd hn (by decide), fun _ => ⟨fun hn => absurd hn (by decide), fun _ => ⟨fun hn => absurd hn (by decide), fun _ => ⟨fun _ => vc_54_0 (by omega) _ (go 1 (by omega)), fun hn => absurd rfl hn⟩⟩⟩⟩⟩
      · rw [hk]
        exact ⟨fun hn => absurd hn (by decide), fun _ => ⟨fun _ => vc_65_0 (by omega) _ (go 0 (by omega)), fun hn => absurd rfl hn⟩⟩
      · rw [hk]
        exact ⟨fun hn => absurd hn (by decide), fun _ => ⟨fun hn => absurd hn (by decide), fun _ => ⟨fun hn => absurd hn (by decide), fun _ => ⟨fun _ => vc_65_0 (by omega) _ (go 0 (by omega)), fun hn => absurd rfl hn⟩⟩⟩⟩
      · rw [hk]
        exact ⟨fun hn => absurd hn (by decide), fun _ => ⟨fun hn => absurd hn (by decide), fun _ => ⟨fun _ => vc_54_0 (by omega) _ (go 1 (by omega)), fun hn => absurd rfl hn⟩⟩⟩
      · rw [hk]
        exact ⟨fun hn => absurd hn (by decide), fun _ => ⟨fun hn => absurd hn (by decide), fun _ => ⟨fun hn => absurd hn (by decide), fun _ => ⟨fun hn => absurd hn (by decide), fun _ => ⟨fun hn => absurd hn (by decide), fun _ => ⟨fun hn => absurd hn (by decide), fun _ => ⟨rfl, vc_65_0 (by omega) _ (go 0 (by omega))⟩⟩⟩⟩⟩⟩⟩
    -- by its row
    have told : S (45 + i) = 6 ∧ 0 < S (9 + i) → mu_WP mu_code d 87 29 [(1, w), (1, w + 11 + 5 * i), (0, (n : Int)), (0, aim), (0, c), (0, k)] [(0, 1)] G I Q := by
      intro hk6
      refine vc_87_29 (by omega) _ _ _ _ _ _ _ ⟨fun hn => absurd hn (by decide), fun _ => ⟨g2.1, hG.1, ?_⟩⟩
      have tm : 0 ≤ Int.tmod (S 0) 4 ∧ Int.tmod (S 0) 4 < 4 := by rw [Int.tmod_eq_emod_of_nonneg day.1]; omega
      rw [e6, and3 day, g2.2.1, g2.2.2.2.2.1, e1, p7 _ tm.1 tm.2]
      refine ⟨⟨rfl, tm.1, tm.2⟩, k_beside (by omega) hG hC hI c _ hc ?_⟩
      refine next _ ?_
      unfold stS
      rw [if_pos hk6]
    refine vc_87_9 (by omega) _ _ _ _ _ _ ⟨fun _ => ⟨fun _ => ⟨g2.1, ?_⟩, fun h1 => absurd (by omega) h1⟩, fun h1 => absurd (by omega) h1⟩
    have hkk : S (45 + i) = 0 ∨ S (45 + i) = 1 ∨ S (45 + i) = 2 ∨ S (45 + i) = 3 ∨ S (45 + i) = 4 ∨ S (45 + i) = 5 ∨ S (45 + i) = 6 := by omega
    rw [pk2]
    rcases hkk with hk | hk | hk | hk | hk | hk | hk
    · have a0 := aimed (by omega)
      rw [hk]
      exact ⟨fun _ => vc_64_0 (by omega) _ _ a0, fun hn => absurd rfl hn⟩
    · have a0 := aimed (by omega)
      rw [hk]
      exact ⟨fun hn => absurd hn (by decide), fun _ => ⟨fun hn => absurd hn (by decide), fun _ => ⟨fun hn => absurd hn (by decide), fun _ => ⟨fun hn => absurd hn (by decide), fun _ => ⟨fun hn => absurd hn (by decide), fun _ => ⟨fun _ => vc_64_0 (by omega) _ _ a0, fun hn => absurd rfl hn⟩⟩⟩⟩⟩⟩
    · have a0 := aimed (by omega)
      rw [hk]
      exact ⟨fun hn => absurd hn (by decide), fun _ => ⟨fun hn => absurd hn (by decide), fun _ => ⟨fun hn => absurd hn (by decide), fun _ => ⟨fun hn => absurd hn (by decide), fun _ => ⟨fun _ => vc_64_0 (by omega) _ _ a0, fun hn => absurd rfl hn⟩⟩⟩⟩⟩
    · have a0 := aimed (by omega)
      rw [hk]
      exact ⟨fun hn => absurd hn (by decide), fun _ => ⟨fun _ => vc_64_0 (by omega) _ _ a0, fun hn => absurd rfl hn⟩⟩
    · have a0 := aimed (by omega)
      rw [hk]
      exact ⟨fun hn => absurd hn (by decide), fun _ => ⟨fun hn => absurd hn (by decide), fun _ => ⟨fun hn => absurd hn (by decide), fun _ => ⟨fun _ => vc_64_0 (by omega) _ _ a0, fun hn => absurd rfl hn⟩⟩⟩⟩
    · have a0 := aimed (by omega)
      rw [hk]
      exact ⟨fun hn => absurd hn (by decide), fun _ => ⟨fun hn => absurd hn (by decide), fun _ => ⟨fun _ => vc_64_0 (by omega) _ _ a0, fun hn => absurd rfl hn⟩⟩⟩
    · have a6 := hk
      rw [hk]
      refine ⟨fun hn => absurd hn (by decide), fun _ => ⟨fun hn => absurd hn (by decide), fun _ => ⟨fun hn => absurd hn (by decide), fun _ => ⟨fun hn => absurd hn (by decide), fun _ => ⟨fun hn => absurd hn (by decide), fun _ => ⟨fun hn => absurd hn (by decide), fun _ => ⟨rfl, vc_60_0 (by omega) _ _ ⟨g2.1, ?_⟩⟩⟩⟩⟩⟩⟩⟩
      rw [p6]
      exact ⟨fun h9 => told ⟨a6, h9⟩, fun h9 => aimed (fun hc => h9 hc.2)⟩
theorem k_keepCrossingApart (hd : d < 960) (hG : GW G w) (hC : CW G I w S) (hI : Inv S) (hw : 0 ≤ w ∧ w + 31 ≤ 115) {T : Row} (hm : ∀ q, 0 ≤ q → q < S 37 → I (w + 11 + 5 * q) 10 = T q ∧ I (w + 11 + 5 * q) 12 = 0) (h : ∀ I1, FW w I I1 → CW G I1 w S → (∀ q, 0 ≤ q → q < S 37 → I1 (w + 11 + 5 * q) 10 = T q ∧ I1 (w + 11 + 5 * q) 11 = I (w + 11 + 5 * q) 11 ∧ I1 (w + 11 + 5 * q) 12 = bi (swL S T q 4 0 false)) → Q 0 G I1) : mu_WP mu_code d 92 0 [(1, w), (3, 0), (3, 0), (3, 0), (3, 0)] [] G I Q := by
  have h4 := hI.2.1
  refine vc_92_0 (by omega) _ ?_
  have fin : ∀ (j : Int) (I2 : mu_M), ¬ j < S 37 → FW w I I2 → CW G I2 w S → (∀ q, 0 ≤ q → q < S 37 → I2 (w + 11 + 5 * q) 10 = T q ∧ I2 (w + 11 + 5 * q) 11 = I (w + 11 + 5 * q) 11 ∧ I2 (w + 11 + 5 * q) 12 = (if q < j then bi (swL S T q 4 0 false) else 0)) → Q 0 G I2 := by
    intro j I2 hj hf hC2 hm2
    refine h I2 hf hC2 ?_
    intro q q0 q1
    obtain ⟨m1, m2, m3⟩ := hm2 q q0 q1
    rw [if_pos (by omega)] at m3
    exact ⟨m1, m2, m3⟩
  suffices H : ∀ (n : Nat) (j : Int) (v2 v3 v4 : mu_V) (I2 : mu_M), j + n = 4 → 1 ≤ j → FW w I I2 → CW G I2 w S → (∀ q, 0 ≤ q → q < S 37 → I2 (w + 11 + 5 * q) 10 = T q ∧ I2 (w + 11 + 5 * q) 11 = I (w + 11 + 5 * q) 11 ∧ I2 (w + 11 + 5 * q) 12 = (if q < j then bi (swL S T q 4 0 false) else 0)) → mu_WP mu_code d 92 2 [(1, w), (0, j), v2, v3, v4] [] G I2 Q by
    refine H 3 1 _ _ _ I (by omega) (by omega) (FW.rf w I) hC ?_
    intro q q0 q1
    refine ⟨(hm q q0 q1).1, rfl, ?_⟩
    rw [(hm q q0 q1).2]
    split
    · have hq : q = 0 := by omega
      subst hq
      rfl
    · rfl
  intro n
  induction n with
  | zero =>
    intro j v2 v3 v4 I2 hj j1 hf hC2 hm2
    exact vc_92_2 (by omega) _ _ _ _ _ ⟨hG.1, fun h1 => ⟨fun h2 => absurd h2 (by omega), fun _ => fin j I2 (by omega) hf hC2 hm2⟩, fun _ => fin j I2 (by omega) hf hC2 hm2⟩
  | succ n ih =>
    intro j v2 v3 v4 I2 hj j1 hf hC2 hm2
    refine vc_92_2 (by omega) _ _ _ _ _ ⟨hG.1, fun h1 => ⟨fun _ => ?_, fun h2 => absurd (by omega) h2⟩, fun h1 => fin j I2 (by rw [hC2.1.2.2.1] at h1; exact h1) hf hC2 hm2⟩
    rw [hC2.1.2.2.1] at h1
    -- the inner loop
    suffices HH : ∀ (m : Nat) (p : Int) (b : Bool) (v3 v4 : mu_V) (I3 : mu_M), p + m = 4 → 0 ≤ p → FW w I I3 → CW G I3 w S → (∀ q, 0 ≤ q → q < S 37 → I3 (w + 11 + 5 * q) 10 = T q ∧ I3 (w + 11 + 5 * q) 11 = I (w + 11 + 5 * q) 11 ∧ I3 (w + 11 + 5 * q) 12 = (if q < j then bi (swL S T q 4 0 false) else if q = j then bi b else 0)) → swL S T j m p b = swL S T j 4 0 false → mu_WP mu_code d 92 17 [(1, w), (0, j), (0, p), v3, v4] [] G I3 Q by
      refine HH 4 0 false _ _ I2 (by omega) (by omega) hf hC2 ?_ rfl
      intro q q0 q1
      obtain ⟨m1, m2, m3⟩ := hm2 q q0 q1
      refine ⟨m1, m2, ?_⟩
      rw [m3]
      split
      · rfl
      · split <;> rfl
    intro m
    induction m with
    | zero =>
      intro p b v3 v4 I3 hp p0 hf3 hC3 hm3 hs
      refine vc_92_17 (by omega) _ _ _ _ _ ⟨fun h2 => absurd h2 (by omega), fun _ => ?_⟩
      rw [wr_id (x := j + 1) (by omega) (by omega)]
      refine ih (j + 1) _ _ _ I3 (by omega) (by omega) hf3 hC3 ?_
      intro q q0 q1
      obtain ⟨m1, m2, m3⟩ := hm3 q q0 q1
      refine ⟨m1, m2, ?_⟩
      rw [m3]
      by_cases hq : q < j
      · rw [if_pos hq, if_pos (by omega)]
      · rw [if_neg hq]
        by_cases hqj : q = j
        · rw [if_pos hqj, if_pos (by omega), hqj, ← hs]; rfl
        · rw [if_neg hqj, if_neg (by omega)]
    | succ m ihm =>
      intro p b v3 v4 I3 hp p0 hf3 hC3 hm3 hs
      rw [swL] at hs
      by_cases hlt : p < j
      · rw [if_pos hlt] at hs
        obtain ⟨gp1, gp2⟩ := hG.p (i := p) (by omega)
        obtain ⟨gj1, gj2⟩ := hG.p (i := j) (by omega)
        have Pp := hC3.2.2.2 p p0 (by omega)
        have Pj := hC3.2.2.2 j (by omega) h1
        obtain ⟨a1, a2, a3⟩ := hm3 p p0 (by omega)
        obtain ⟨b1, b2, b3⟩ := hm3 j (by omega) h1
        refine vc_92_17 (by omega) _ _ _ _ _ ⟨fun _ => ?_, fun h2 => absurd hlt h2⟩
        simp only [hG.2.2.2.1, hG.2.2.2.2.2.2.2.1, gp1, gj1, gp2.1, gj2.1, Pp.1.2.2.2.1, Pj.1.2.2.2.1, a1, b1]
        rw [wr_id (x := p + 1) (by omega) (by omega)]
        have no : ¬ (S (1 + p) ≠ S (1 + j) ∧ T p = S (1 + j) ∧ T j = S (1 + p)) → mu_WP mu_code d 92 17 [(1, w), (0, j), (0, p + 1), (1, w + 11 + 5 * p), (1, w + 11 + 5 * j)] [] G I3 Q := by
          intro hn
          rw [decide_eq_false hn, Bool.or_false] at hs
          exact ihm (p + 1) b _ _ I3 (by omega) (by omega) hf3 hC3 hm3 hs
        refine ⟨hG.1, ⟨trivial, p0, by omega⟩, ⟨trivial, by omega, by omega⟩, trivial, trivial, fun h2 => no (fun hc => hc.1 h2), fun h2 => ⟨fun h3 => ⟨fun h5 => ?_, fun h5 => no (fun hc => h5 hc.2.2)⟩, fun h3 => no (fun hc => h3 hc.2.1)⟩⟩
        intro I4 q4
        rw [decide_eq_true ⟨h2, h3, h5⟩, Bool.or_true] at hs
        refine ihm (p + 1) true _ _ I4 (by omega) (by omega) ?_ ?_ ?_ hs
        · intro bb hb
          rw [q4, set_off _ (by omega)]
          exact hf3 bb hb
        · refine hC3.keep hI ?_ ?_ (fun _ => rfl) (fun _ _ _ => rfl)
          · intro bb jj c1 c2 c3 c4
            rw [q4, mu_set_at]
            by_cases hh : bb = w + 11 + 5 * j ∧ jj = 12
            · omega
            · rw [if_neg hh]
          · intro bb hb
            rw [q4, set_off _ (by omega)]
        · intro q q0 q1
          obtain ⟨m1, m2, m3⟩ := hm3 q q0 q1
          rw [q4, mu_set_at, mu_set_at, mu_set_at, if_neg (by omega), if_neg (by omega)]
          refine ⟨m1, m2, ?_⟩
          by_cases hqj : q = j
          · rw [if_pos ⟨by omega, rfl⟩, if_neg (by omega), if_pos hqj]; rfl
          · rw [if_neg (by omega), m3, if_neg hqj, if_neg hqj]
      · rw [if_neg hlt] at hs
        refine vc_92_17 (by omega) _ _ _ _ _ ⟨fun h2 => absurd h2 hlt, fun _ => ?_⟩
        rw [wr_id (x := j + 1) (by omega) (by omega)]
        refine ih (j + 1) _ _ _ I3 (by omega) (by omega) hf3 hC3 ?_
        intro q q0 q1
        obtain ⟨m1, m2, m3⟩ := hm3 q q0 q1
        refine ⟨m1, m2, ?_⟩
        rw [m3]
        by_cases hq : q < j
        · rw [if_pos hq, if_pos (by omega)]
        · rw [if_neg hq]
          by_cases hqj : q = j
          · rw [if_pos hqj, if_pos (by omega), hqj, ← hs]
          · rw [if_neg hqj, if_neg (by omega)]
end

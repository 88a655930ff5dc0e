/-! THE CLASS'S QUESTIONS: owed, odds, mean -/
section
variable {d : Nat} {G : mu_G} {I : mu_M} {Q : Int → mu_G → mu_M → Prop} {S T : Row} {L : List Int}
theorem c_goesByTracks (hd : d < 880) (hG : GS G) (hX : CX G I S L) (hO : OkS S) (p q : Int) (hp : 0 ≤ p ∧ p < S 37) (hq : 0 ≤ q ∧ q < S 37) (hqp : q ≠ p) (h : ∀ G1 I1, GS G1 → FT G G1 I I1 → CX G1 I1 S L → Q (bi (gbT S p q)) G1 I1) : mu_WP mu_code d 132 0 [(1, 0), (0, p), (0, q), (3, 0), (3, 0)] [] G I Q := by
  have o1 := hO.1
  have gw := hG.2.2.2.1
  have gt := hG.2.2.2.2.1
  have h4 := o1.2.1
  have hp4 : 0 ≤ p ∧ p < 4 := by omega
  have r5 := hG.1.2.2.2.2.2.2.1
  have r6 : rf G 0 6 = 47 := hG.1.2.2.2.2.2.2.2.1
  have o7 := hO.2.2.2.2.2.2.1
  have j3 := (o1.2.2.2.2.1 p hp.1 hp.2).2.2.1
  refine vc_132_0 (by omega) _ _ _ ?_
  rw [r5, r6]
  refine ⟨hG.1.1, gt.1, t_copy (by omega) hG hX hO ?_⟩
  intro G1 I1 f1 x1
  have gs1 := x1.1
  have gt1 := gs1.2.2.2.2.1
  have r61 : rf G1 0 6 = 47 := gs1.1.2.2.2.2.2.2.2.1
  have gp1 := (gt1.p hp4).2
  rw [r61]
  refine ⟨gs1.1.1, gt1.1, k_personAt (by omega) gt1 x1.2.2 o1 p ?_⟩
  rw [if_pos hp]
  refine ⟨fun hh => absurd hh (by omega), fun _ => ⟨gp1.1, ?_⟩⟩
  intro I2 q2
  have f2 : FP1 (47 + 11 + 5 * p) I1 I2 := q2 ▸ FP1.w I1 (Or.inr ⟨rfl, by omega⟩)
  have hT : ∀ j, j ≠ 9 + p → upR S (9 + p) 0 j = S j := fun j hj => upR_ne _ hj
  have P1 := x1.2.2.2.2.2 p hp.1 hp.2
  have e90 : upR S (9 + p) 0 (9 + p) = 0 := upR_same _ _ _
  have P2 : PE G1 I2 (47 + 11 + 5 * p) (upR S (9 + p) 0) p := by
    refine P1.build hp4 (by omega) f2.1 ?_ ?_ ?_ ?_ ?_ ?_
    · intro j _ j6 _
      rw [q2, set_row, upR_ne _ j6]
    · rw [q2, set_off _ (by omega)]
    · rw [q2, set_row, upR_ne _ (by decide), P1.1.2.2.2.2.1, hT _ (by omega)]
    · rw [q2, set_row, upR_same, e90]
    · intro j hj
      exact hT j hj.2.1
    · intro k k0 k1
      rw [e90] at k1
      omega
  clear q2
  refine vc_37_0 (by omega) _ _ _ ⟨gp1.1, ?_⟩
  refine k_insertDebt (by omega) gp1 P2 hp4 (by omega) (by rw [e90]; omega) 0 (by rw [e90]; omega) q 99 ?_
  intro I3 f3 p3
  have off : ∀ j, (j ≠ 5 + p ∧ j ≠ 9 + p ∧ (j < 13 + 3 * p ∨ 13 + 3 * p + 3 ≤ j) ∧ (j < 25 + 3 * p ∨ 25 + 3 * p + 3 ≤ j)) → ptS (upR S (9 + p) 0) p 0 q 99 j = S j := fun j hj => by
    rw [ptS_off hp4 (by omega) (by rw [e90]; omega) hj.2.1 hj.2.2.1 hj.2.2.2]
    exact hT j hj.2.1
  obtain ⟨t3, x3⟩ := x1.debts o1 o1 hO.2.1 hp (f2.tr f3) p3 off
  have w0 : WD (upR S (9 + p) 0) 100 := ⟨o1.owes0 hp4, hO.2.1.off (by omega), by rw [hT 0 (by omega)]; have := hO.2.2.2.1; omega⟩
  have w3 : WD (ptS (upR S (9 + p) 0) p 0 q 99) 100 := w0.pt (by rw [hT 37 (by omega)]; exact hp) (by rw [e90]; omega) (by rw [e90]; omega) (by rw [hT 37 (by omega)]; exact ⟨hq.1, hq.2, hqp⟩) (by omega)
  have e37 : ptS (upR S (9 + p) 0) p 0 q 99 37 = S 37 := off 37 (by omega)
  unfold gbT at h
  suffices H : ∀ (n : Nat) (k : Int) (U : Row) (I4 : mu_M), k + n = 6 → 0 ≤ k → FT G G1 I I4 → TX G1 I4 S L U → WD U n → U 37 = S 37 → (∀ G1 I1, GS G1 → FT G G1 I I1 → CX G1 I1 S L → Q (bi (gbL S p n k U)) G1 I1) → mu_WP mu_code d 132 41 [(1, 0), (0, p), (0, q), (1, 47 + 11 + 5 * p), (0, k)] [] G1 I4 Q from
    H 6 0 _ I3 (by omega) (by omega) (f1.tr t3) x3 (w3.lo (by omega)) e37 h
  clear h x3 t3 p3 f3 P2 f2
  intro n
  induction n with
  | zero =>
    intro k U I4 hk k0 hf hx hw h37 hh
    have rs := hx.2.1.2.2.2.2.1
    refine vc_132_41 (by omega) _ _ _ _ _ ?_
    rw [gs1.1.2.2.1, rs.1.1]
    exact ⟨gs1.1.1, gs1.2.1.2.1.1, fun h1 => absurd h1 (by omega), fun _ => hh G1 I4 gs1 hf hx.2.1⟩
  | succ n ih =>
    intro k U I4 hk k0 hf hx hw h37 hh
    have rs := hx.2.1.2.2.2.2.1
    rw [gbL] at hh
    refine vc_132_41 (by omega) _ _ _ _ _ ?_
    rw [gs1.1.2.2.1, rs.1.1, r61, wr_id (x := k + 1) (by omega) (by omega)]
    refine ⟨gs1.1.1, gs1.2.1.2.1.1, fun h1 => ⟨gt1.1, t_day (by omega) hx o1 hw ?_⟩, fun h1 => ?_⟩
    · intro I5 f5 x5 w5
      have P5 := x5.2.2.2.2.2 p hp.1 (by rw [dayS_hi hw.1 hw.2.1 37 (by omega), h37]; exact hp.2)
      rw [gs1.1.2.2.1, P5.1.2.2.2.1]
      refine ⟨gp1.1, gs1.1.1, gs1.2.1.2.1.1, k_itemAt (by omega) gs1.2.1.2.1 x5.2.1.2.2.2.2.1 (by omega) k ?_⟩
      rw [if_pos ⟨k0, h1⟩]
      rw [if_pos h1] at hh
      refine ⟨fun h2 => ?_, fun h2 => ?_⟩
      · rw [if_pos h2] at hh
        exact ih (k + 1) _ I5 (by omega) (by omega) (hf.tr f5) x5 w5 (by rw [dayS_hi hw.1 hw.2.1 37 (by omega), h37]) hh
      · rw [if_neg h2] at hh
        exact hh G1 I5 gs1 (hf.tr f5) x5.2.1
    · rw [if_neg h1] at hh
      exact hh G1 I4 gs1 hf hx.2.1
theorem c_owed (hd : d < 870) (hG : GS G) (hX : CX G I S L) (hO : OkS S) (p : Int) (h : ∀ G1 I1, GS G1 → FXg G G1 I I1 → CX G1 I1 S L → Q (owedS S p) G1 I1) : mu_WP mu_code d 131 0 [(1, 0), (0, p), (3, 0), (3, 0)] [] G I Q := by
  have o1 := hO.1
  have gw := hG.2.2.2.1
  have h4 := o1.2.1
  have r5 := hG.1.2.2.2.2.2.2.1
  unfold owedS at h
  refine vc_131_0 (by omega) _ _ ?_
  rw [r5]
  refine ⟨hG.1.1, gw.1, k_isPerson (by omega) gw hX.1 o1 p ⟨fun h1 => ?_, fun h1 => ?_⟩⟩
  · rw [if_pos (ifn h1)] at h
    exact h G I hG (FX.rf I).g hX
  have hp := ifp h1
  rw [if_neg (fun hc => hc hp)] at h
  suffices H : ∀ (n : Nat) (q x : Int) (G2 : mu_G) (I2 : mu_M), q + n = 4 → 0 ≤ q → FT G G2 I I2 → GS G2 → CX G2 I2 S L → (∀ G1 I1, GS G1 → FXg G G1 I I1 → CX G1 I1 S L → Q (obL S p n q x) G1 I1) → mu_WP mu_code d 131 17 [(1, 0), (0, p), (0, x), (0, q)] [] G2 I2 Q from
    H 4 0 0 G I (by omega) (by omega) (FT.rf' G I) hG hX h
  clear h
  intro n
  induction n with
  | zero =>
    intro q x G2 I2 hq q0 hf gs2 x2 hh
    refine vc_131_17 (by omega) _ _ _ _ ?_
    rw [gs2.1.2.2.2.2.2.2.1, x2.1.1.2.2.1]
    exact ⟨gs2.1.1, gs2.2.2.2.1.1, fun h2 => absurd h2 (by omega), fun _ => hh G2 I2 gs2 hf.g x2⟩
  | succ n ih =>
    intro q x G2 I2 hq q0 hf gs2 x2 hh
    rw [obL] at hh
    refine vc_131_17 (by omega) _ _ _ _ ?_
    rw [gs2.1.2.2.2.2.2.2.1, x2.1.1.2.2.1, wr_id (x := q + 1) (by omega) (by omega)]
    refine ⟨gs2.1.1, gs2.2.2.2.1.1, fun h2 => ?_, fun h2 => ?_⟩
    · rw [if_pos h2] at hh
      refine ⟨fun h3 => ?_, fun h3 => c_goesByTracks (by omega) gs2 x2 hO p q hp ⟨q0, h2⟩ h3 ?_⟩
      · rw [if_neg (fun hc => hc.1 h3)] at hh
        exact ih (q + 1) x G2 I2 (by omega) (by omega) hf gs2 x2 hh
      · intro G3 I3 gs3 f3 x3
        by_cases hb : gbT S p q = true
        · rw [if_pos ⟨h3, hb⟩] at hh
          rw [hb]
          exact ⟨fun hc => absurd hc (by decide), fun _ => ih (q + 1) _ G3 I3 (by omega) (by omega) (hf.tr f3) gs3 x3 hh⟩
        · rw [if_neg (fun hc => hb hc.2)] at hh
          have hb2 : gbT S p q = false := by simpa using hb
          rw [hb2]
          exact ⟨fun _ => ih (q + 1) _ G3 I3 (by omega) (by omega) (hf.tr f3) gs3 x3 hh, fun hc => absurd rfl hc⟩
    · rw [if_neg h2] at hh
      exact hh G2 I2 gs2 hf.g x2
theorem gcd1 (m : Nat) : Nat.gcd m 1 = 1 := Nat.gcd_one_right m
theorem gcd2 (m : Nat) : Nat.gcd m 2 = if m % 2 = 0 then 2 else 1 := by
  rw [Nat.gcd_comm, Nat.gcd_rec]
  have : m % 2 = 0 ∨ m % 2 = 1 := by omega
  rcases this with h | h <;> rw [h] <;> rfl
theorem gcd3 (m : Nat) : Nat.gcd m 3 = if m % 3 = 0 then 3 else 1 := by
  rw [Nat.gcd_comm, Nat.gcd_rec]
  have : m % 3 = 0 ∨ m % 3 = 1 ∨ m % 3 = 2 := by omega
  rcases this with h | h | h <;> rw [h] <;> rfl
theorem gcd4 (m : Nat) : Nat.gcd m 4 = if m % 4 = 0 then 4 else if m % 4 = 2 then 2 else 1 := by
  rw [Nat.gcd_comm, Nat.gcd_rec]
  have : m % 4 = 0 ∨ m % 4 = 1 ∨ m % 4 = 2 ∨ m % 4 = 3 := by omega
  rcases this with h | h | h | h <;> rw [h] <;> rfl
theorem k_partOf (hd : d < 990) (u l part : Int) (hu : 0 ≤ u ∧ u < 1000000) (hl : 1 ≤ l ∧ l ≤ 4) (h : Q (lowS u l part) G I) : mu_WP mu_code d 134 0 [(0, u), (0, l), (0, part), (3, 0)] [] G I Q := by
  obtain ⟨m, hm⟩ : ∃ m : Nat, u = m := ⟨u.toNat, by omega⟩
  subst hm
  have low : ∀ g : Int, 1 ≤ g → g ≤ 4 → lowS m l part = Int.tdiv (if part = 0 then (m : Int) else l) g → (part = 0 → Q ((m : Int) / g) G I) ∧ (¬ part = 0 → Q (l / g) G I) := by
    intro g g0 g1 he
    rw [he] at h
    refine ⟨fun h1 => ?_, fun h1 => ?_⟩
    · rw [if_pos h1, Int.tdiv_eq_ediv_of_nonneg (by omega)] at h; exact h
    · rw [if_neg h1, Int.tdiv_eq_ediv_of_nonneg (by omega)] at h; exact h
  have last : lowS m l part = Int.tdiv (if part = 0 then (m : Int) else l) 1 → mu_WP mu_code d 134 2 [(0, (m : Int)), (0, l), (0, part), (0, 1)] [] G I Q := by
    intro he
    obtain ⟨a, b⟩ := low 1 (by omega) (by omega) he
    refine vc_134_2 (by omega) _ _ _ _ ⟨fun h1 => absurd h1 (by decide), fun _ => ⟨fun h1 => ?_, fun h1 => ?_⟩⟩
    · have := a h1; rw [Int.ediv_one] at this; exact this
    · have := b h1; rw [Int.ediv_one] at this; exact this
  have step : ∀ x : Int, 2 ≤ x → x ≤ 4 → ((m : Int) % x = 0 ∧ l % x = 0 → lowS m l part = Int.tdiv (if part = 0 then (m : Int) else l) x) → (¬ ((m : Int) % x = 0 ∧ l % x = 0) → mu_WP mu_code d 134 2 [(0, (m : Int)), (0, l), (0, part), (0, x - 1)] [] G I Q) → mu_WP mu_code d 134 2 [(0, (m : Int)), (0, l), (0, part), (0, x)] [] G I Q := by
    intro x x0 x1 hy hn
    refine vc_134_2 (by omega) _ _ _ _ ⟨fun _ => ⟨by omega, ?_⟩, fun h1 => absurd (by omega) h1⟩
    rw [Int.tmod_eq_emod_of_nonneg (by omega), Int.tmod_eq_emod_of_nonneg (by omega), Int.tdiv_eq_ediv_of_nonneg (by omega), Int.tdiv_eq_ediv_of_nonneg (by omega), wr_id (x := x + -1) (by omega) (by omega), show x + -1 = x - 1 by omega]
    refine ⟨fun h1 => ⟨fun h2 => ?_, fun h2 => hn (fun hc => h2 hc.2)⟩, fun h1 => hn (fun hc => h1 hc.1)⟩
    obtain ⟨a, b⟩ := low x (by omega) x1 (hy ⟨h1, h2⟩)
    have xx : x = 2 ∨ x = 3 ∨ x = 4 := by omega
    refine ⟨fun h3 => ?_, fun h3 => ?_⟩
    · rw [wr_id (x := (m : Int) / x) (by rcases xx with e | e | e <;> subst e <;> omega) (by rcases xx with e | e | e <;> subst e <;> omega)]
      exact a h3
    · rw [wr_id (x := l / x) (by rcases xx with e | e | e <;> subst e <;> omega) (by rcases xx with e | e | e <;> subst e <;> omega)]
      exact b h3
  clear low
  refine vc_134_0 (by omega) _ _ _ ?_
  have hc : l = 1 ∨ l = 2 ∨ l = 3 ∨ l = 4 := by omega
  rcases hc with hc | hc | hc | hc
  · subst hc
    refine last ?_
    unfold lowS
    rw [show (1 : Int).toNat = 1 from rfl, gcd1]
    rfl
  · subst hc
    have g2 : (m : Int) % 2 = 0 ∧ (2 : Int) % 2 = 0 ↔ m % 2 = 0 := by omega
    refine step 2 (by omega) (by omega) (fun hy => ?_) (fun hn => last ?_)
    · unfold lowS
      rw [show (2 : Int).toNat = 2 from rfl, Int.toNat_natCast, show Nat.gcd m 2 = 2 from by rw [gcd2, if_pos (g2.1 hy)]]
      rfl
    · unfold lowS
      rw [show (2 : Int).toNat = 2 from rfl, Int.toNat_natCast, show Nat.gcd m 2 = 1 from by rw [gcd2, if_neg (fun hz => hn (g2.2 hz))]]
      rfl
  · subst hc
    have g3 : (m : Int) % 3 = 0 ∧ (3 : Int) % 3 = 0 ↔ m % 3 = 0 := by omega
    refine step 3 (by omega) (by omega) (fun hy => ?_) (fun hn => step 2 (by omega) (by omega) (fun hy => absurd hy.2 (by decide)) (fun hn2 => last ?_))
    · unfold lowS
      rw [show (3 : Int).toNat = 3 from rfl, Int.toNat_natCast, show Nat.gcd m 3 = 3 from by rw [gcd3, if_pos (g3.1 hy)]]
      rfl
    · unfold lowS
      rw [show (3 : Int).toNat = 3 from rfl, Int.toNat_natCast, show Nat.gcd m 3 = 1 from by rw [gcd3, if_neg (fun hz => hn (g3.2 hz))]]
      rfl
  · subst hc
    have g4 : (m : Int) % 4 = 0 ∧ (4 : Int) % 4 = 0 ↔ m % 4 = 0 := by omega
    have g2 : (m : Int) % 2 = 0 ∧ (4 : Int) % 2 = 0 ↔ m % 2 = 0 := by omega
    refine step 4 (by omega) (by omega) (fun hy => ?_) (fun hn => step 3 (by omega) (by omega) (fun hy => absurd hy.2 (by decide)) (fun hn2 => step 2 (by omega) (by omega) (fun hy => ?_) (fun hn3 => last ?_)))
    · unfold lowS
      rw [show (4 : Int).toNat = 4 from rfl, Int.toNat_natCast, show Nat.gcd m 4 = 4 from by rw [gcd4, if_pos (g4.1 hy)]]
      rfl
    · unfold lowS
      rw [show (4 : Int).toNat = 4 from rfl, Int.toNat_natCast, show Nat.gcd m 4 = 2 from by rw [gcd4, if_neg (fun hz => hn (g4.2 hz)), if_pos (by omega)]]
      rfl
    · unfold lowS
      rw [show (4 : Int).toNat = 4 from rfl, Int.toNat_natCast, show Nat.gcd m 4 = 1 from by rw [gcd4, if_neg (fun hz => hn (g4.2 hz)), if_neg (by omega)]]
      rfl
theorem puL_bd {T : Row} (hI : Inv T) : ∀ (n : Nat) (p x : Int), p + n = 4 → 0 ≤ p → (0 ≤ x ∧ x ≤ 999 * p) → 0 ≤ puL T n p x ∧ puL T n p x ≤ 3996
  | 0, p, x, h1, h2, h3 => by rw [puL]; omega
  | n + 1, p, x, h1, h2, h3 => by
    rw [puL]
    split
    · have hj := (hI.2.2.2.2.1 p h2 (by assumption)).2.1
      exact puL_bd hI n (p + 1) _ (by omega) (by omega) (by omega)
    · omega
theorem c_mean (hd : d < 870) (hG : GS G) (hX : CX G I S L) (hO : OkS S) (n part : Int) (h : ∀ G1 I1, GS G1 → FXg G G1 I I1 → CX G1 I1 S L → Q (meanS S n part) G1 I1) : mu_WP mu_code d 135 0 [(1, 0), (0, n), (0, part)] [] G I Q := by
  have o1 := hO.1
  have gw := hG.2.2.2.1
  have gt := hG.2.2.2.2.1
  have h4 := o1.2.1
  have r5 := hG.1.2.2.2.2.2.2.1
  have r6 : rf G 0 6 = 47 := hG.1.2.2.2.2.2.2.2.1
  have same : ∀ y, (∀ G1 I1, GS G1 → FXg G G1 I I1 → CX G1 I1 S L → Q y G1 I1) → Q y G I := fun y hy => hy G I hG (FX.rf I).g hX
  unfold meanS at h
  have none : ¬ ((0 ≤ n ∧ n ≤ 60) ∧ (0 ≤ part ∧ part ≤ 1) ∧ S 37 ≠ 0) → Q (-9223372036854775808) G I := by
    intro hw
    rw [if_pos hw] at h
    exact same _ h
  refine vc_135_0 (by omega) _ _ _ (c_isAhead (by omega) n ⟨fun h1 => none (fun hc => ifm h1 hc.1), fun h1 => ⟨fun h2 => none (by omega), fun h2 => ⟨fun h3 => none (by omega), fun h3 => ⟨hG.1.1, ?_⟩⟩⟩⟩)
  have hn := ifq h1
  rw [r5, r6, hX.1.1.2.2.1]
  refine ⟨gw.1, fun h5 => none (fun hc => hc.2.2 h5), fun h5 => ⟨gt.1, t_copy (by omega) hG hX hO ?_⟩⟩
  intro G1 I1 f1 x1
  rw [if_neg (fun hc => hc ⟨hn, by omega, h5⟩)] at h
  have gs1 := x1.1
  have gt1 := gs1.2.2.2.2.1
  have r61 : rf G1 0 6 = 47 := gs1.1.2.2.2.2.2.2.2.1
  have w2 : WD S (n.toNat + 0) := hO.wd.lo (by omega)
  rw [r61, show n = (n.toNat : Int) by omega]
  refine ⟨gs1.1.1, gt1.1, k_goDays (by omega) gt1 (by omega) x1.2.2 n.toNat (by omega) w2 ?_⟩
  intro I2 f2 c2
  have x2 := x1.to o1 f2 c2
  have w3 := goS_WD n.toNat S 0 w2
  rw [r61]
  refine ⟨gs1.1.1, gt1.1, k_pursesTogether (by omega) gt1 c2 w3.1 ?_⟩
  rw [r61, c2.1.2.2.1, goS_hi n.toNat S w2 37 (by omega)]
  have hb := puL_bd w3.1 4 0 0 (by omega) (by omega) (by omega)
  exact ⟨gs1.1.1, gt1.1, k_partOf (by omega) _ _ _ (by omega) (by omega) (h G1 I2 gs1 (f1.tr ⟨GK.rf' 47 G1, f2⟩).g x2.2.1)⟩
theorem c_odds (hd : d < 870) (hG : GS G) (hX : CX G I S L) (hO : OkS S) (a b n part : Int) (h : ∀ G1 I1, GS G1 → FXg G G1 I I1 → CX G1 I1 S L → Q (oddsS S a b n part) G1 I1) : mu_WP mu_code d 133 0 [(1, 0), (0, a), (0, b), (0, n), (0, part), (3, 0), (3, 0), (3, 0), (3, 0)] [] G I Q := by
  have o1 := hO.1
  have gw := hG.2.2.2.1
  have h4 := o1.2.1
  have r5 := hG.1.2.2.2.2.2.2.1
  have same : ∀ y, (∀ G1 I1, GS G1 → FXg G G1 I I1 → CX G1 I1 S L → Q y G1 I1) → Q y G I := fun y hy => hy G I hG (FX.rf I).g hX
  unfold oddsS at h
  have none : ¬ (((0 ≤ a ∧ a < S 37) ∧ 0 ≤ b ∧ b < S 37) ∧ a ≠ b ∧ (0 ≤ n ∧ n ≤ 60) ∧ 0 ≤ part ∧ part ≤ 1) → Q (-9223372036854775808) G I := by
    intro hw
    rw [if_pos hw] at h
    exact same _ h
  refine vc_133_0 (by omega) _ _ _ _ _ ?_
  rw [r5]
  refine ⟨hG.1.1, gw.1, k_isPerson (by omega) gw hX.1 o1 a ⟨fun h1 => none (fun hc => ifn h1 hc.1.1), fun h1 => ⟨hG.1.1, ?_⟩⟩⟩
  have ha := ifp h1
  rw [r5]
  refine ⟨gw.1, k_isPerson (by omega) gw hX.1 o1 b ⟨fun h2 => none (fun hc => ifn h2 hc.1.2), fun h2 => ⟨fun h3 => none (fun hc => hc.2.1 h3), fun h3 => c_isAhead (by omega) n ⟨fun h5 => none (fun hc => ifm h5 hc.2.2.1), fun h5 => ⟨fun h6 => none (by omega), fun h6 => ⟨fun h7 => none (by omega), fun h7 => ?_⟩⟩⟩⟩⟩⟩
  have hb := ifp h2
  have hn := ifq h5
  rw [if_neg (fun hc => hc ⟨⟨ha, hb⟩, h3, hn, by omega, by omega⟩)] at h
  suffices H : ∀ (m : Nat) (q u l : Int) (v8 : mu_V) (G2 : mu_G) (I2 : mu_M), q + m = 4 → 0 ≤ q → (0 ≤ u ∧ u ≤ l ∧ l ≤ q) → FT G G2 I I2 → GS G2 → CX G2 I2 S L → (∀ G1 I1, GS G1 → FXg G G1 I I1 → CX G1 I1 S L → Q (odA (odL S a b n m q u l) part) G1 I1) → mu_WP mu_code d 133 62 [(1, 0), (0, a), (0, b), (0, n), (0, part), (0, l), (0, u), (0, q), v8] [] G2 I2 Q from
    H 4 0 0 0 _ G I (by omega) (by omega) (by omega) (FT.rf' G I) hG hX h
  clear h none same
  have fin : ∀ (q u l : Int) (v8 : mu_V) (G2 : mu_G) (I2 : mu_M), q ≤ 4 → ¬ q < S 37 → (0 ≤ u ∧ u ≤ l ∧ l ≤ q) → FT G G2 I I2 → GS G2 → CX G2 I2 S L → (∀ G1 I1, GS G1 → FXg G G1 I I1 → CX G1 I1 S L → Q (odA (u, l) part) G1 I1) → mu_WP mu_code d 133 62 [(1, 0), (0, a), (0, b), (0, n), (0, part), (0, l), (0, u), (0, q), v8] [] G2 I2 Q := by
    intro q u l v8 G2 I2 hq hq2 hul hf gs2 x2 hh
    have hh := hh G2 I2 gs2 hf.g x2
    unfold odA at hh
    dsimp only at hh
    refine vc_133_62 (by omega) _ _ _ _ _ _ _ _ _ ?_
    rw [gs2.1.2.2.2.2.2.2.1, x2.1.1.2.2.1]
    refine ⟨gs2.1.1, gs2.2.2.2.1.1, fun h8 => absurd h8 hq2, fun _ => ⟨fun h8 => ?_, fun h8 => ?_⟩⟩
    · rw [if_pos h8] at hh; exact hh
    · rw [if_neg h8] at hh
      exact k_partOf (by omega) _ _ _ (by omega) (by omega) hh
  intro m
  induction m with
  | zero =>
    intro q u l v8 G2 I2 hq q0 hul hf gs2 x2 hh
    exact fin q u l v8 G2 I2 (by omega) (by omega) hul hf gs2 x2 hh
  | succ m ih =>
    intro q u l v8 G2 I2 hq q0 hul hf gs2 x2 hh
    rw [odL] at hh
    by_cases hlt : q < S 37
    · rw [if_pos hlt] at hh
      refine vc_133_62 (by omega) _ _ _ _ _ _ _ _ _ ?_
      rw [gs2.1.2.2.2.2.2.2.1, x2.1.1.2.2.1, wr_id (x := q + 1) (by omega) (by omega), wr_id (x := l + 1) (by omega) (by omega), wr_id (x := u + 1) (by omega) (by omega)]
      refine ⟨gs2.1.1, gs2.2.2.2.1.1, fun _ => c_tryOwing (by omega) gs2 x2 hO a q ha ⟨q0, hlt⟩ (fun hno => ⟨fun _ => ?_, fun hz => absurd rfl hz⟩) (fun hy => ?_), fun h8 => absurd hlt h8⟩
      · rw [if_neg hno] at hh
        exact ih (q + 1) u l _ G2 I2 (by omega) (by omega) (by omega) hf gs2 x2 hh
      · intro G3 I3 f3 x3 w3
        rw [if_pos hy] at hh
        refine ⟨fun hc => absurd hc (by decide), fun _ => ⟨x3.1.1.1, ?_⟩⟩
        have h9 := room o1 hO.2.2.1 ha ⟨q0, hlt⟩ hy.1 hy.2
        have e37 : ptS S a 0 q 99 37 = S 37 := ptS_off (by omega) (by omega) h9 (by omega) (by omega) (by omega)
        refine t_firstDay (by omega) x3 o1 (w3.lo (by omega)) 0 a b (Or.inr (by rw [e37]; exact ⟨ha.1, ha.2, Or.inr (Or.inr hb)⟩)) ?_
        intro I4 f4 ⟨U, x4⟩
        have e : soC 0 a b = fun T => decide (T (1 + a) = T (1 + b)) := by funext T; simp [soC]
        rw [e, show ffS (fun T : Row => decide (T (1 + a) = T (1 + b))) 61 0 (ptS S a 0 q 99) = meF S a b q from rfl]
        have ft := hf.tr (f3.tr f4)
        have no : ¬ (meF S a b q ≠ -5 ∧ meF S a b q ≤ n) → mu_WP mu_code d 133 62 [(1, 0), (0, a), (0, b), (0, n), (0, part), (0, l + 1), (0, u), (0, q + 1), (0, meF S a b q)] [] G3 I4 Q := by
          intro hz
          rw [if_neg hz] at hh
          exact ih (q + 1) u (l + 1) _ G3 I4 (by omega) (by omega) (by omega) ft x4.1 x4.2.1 hh
        refine ⟨fun h8 => no (fun hc => hc.1 h8), fun h8 => ⟨fun h10 => no (by omega), fun h10 => ?_⟩⟩
        rw [if_pos ⟨h8, by omega⟩] at hh
        exact ih (q + 1) (u + 1) (l + 1) _ G3 I4 (by omega) (by omega) (by omega) ft x4.1 x4.2.1 hh
    · rw [if_neg hlt] at hh
      exact fin q u l v8 G2 I2 (by omega) hlt hul hf gs2 x2 hh
end

/-! THE CLASS'S DAY -/
section
variable {d : Nat} {G : mu_G} {I : mu_M} {Q : Int → mu_G → mu_M → Prop} {w : Int} {S : Row}
theorem k_payDebts (hd : d < 940) (hG : GW G w) (hw : 0 ≤ w ∧ w + 31 ≤ 115) (i : Int) (hC : CW G I w S) (hI : Inv S) (hL : LW S) (hi : 0 ≤ i ∧ i < S 37) (h : ∀ I1, FW w I I1 → MK w I I1 → CW G I1 w (payL i 4 S) → Q 0 G I1) : mu_WP mu_code d 93 0 [(1, w), (1, w + 11 + 5 * i), (3, 0), (3, 0)] [] G I Q := by
  have h4 := hI.2.1
  have hi4 : 0 ≤ i ∧ i < 4 := by omega
  have g2 := (hG.p hi4).2
  refine vc_93_0 (by omega) _ _ ?_
  suffices H : ∀ (m : Nat) (k : Int) (T : Row) (v3 : mu_V) (I2 : mu_M), k + m = 3 → 0 ≤ k → FW w I I2 → MK w I I2 → CW G I2 w T → Inv T → LW T → i < T 37 → (T (9 + i) ≤ m ∨ T (5 + i) = 0) → payL i (m + 1) T = payL i 4 S → mu_WP mu_code d 93 2 [(1, w), (1, w + 11 + 5 * i), (0, k), v3] [] G I2 Q from
    H 3 0 S _ I (by omega) (by omega) (FW.rf w I) (MK.rf w I) hC hI hL hi.2 (Or.inl (hI.2.2.2.2.1 i hi.1 hi.2).2.2.1.2) rfl
  intro m
  induction m with
  | zero =>
    intro k T v3 I2 hk k0 hf hmk hC2 hI2 hL2 hi2 hs hp
    have hn : ¬ canP T i := by
      intro hc
      have a := hc.1
      have b := hc.2.1
      omega
    rw [payL, if_neg hn] at hp
    exact vc_93_2 (by omega) _ _ _ _ ⟨fun h1 => absurd h1 (by omega), fun _ => h I2 hf hmk (by rw [← hp]; exact hC2)⟩
  | succ m ih =>
    intro k T v3 I2 hk k0 hf hmk hC2 hI2 hL2 hi2 hs hp
    have hP := hC2.2.2.2 i hi.1 hi2
    have h42 := hI2.2.1
    obtain ⟨j1, j2, j3, j4, j5, j6, j7, j8⟩ := hI2.2.2.2.2.1 i hi.1 hi2
    have stop : ¬ canP T i → Q 0 G I2 := by
      intro hn
      rw [payL, if_neg hn] at hp
      exact h I2 hf hmk (by rw [← hp]; exact hC2)
    refine vc_93_2 (by omega) _ _ _ _ ⟨fun _ => ⟨g2.1, k_creditorAt (by omega) g2 hP j3.2 0 ⟨hG.1, ?_⟩⟩, fun h1 => absurd (by omega) h1⟩
    by_cases h9 : 0 < T (9 + i)
    · have j70 := j7 0 (by omega) h9
      rw [if_pos ⟨by omega, h9⟩]
      rw [Int.add_zero] at j70 ⊢
      have hq4 : 0 ≤ T (13 + 3 * i) ∧ T (13 + 3 * i) < 4 := by omega
      have gq := (hG.p hq4).2
      have hPq := hC2.2.2.2 _ j70.1.1 j70.1.2.1
      refine k_personAt (by omega) hG hC2 hI2 _ ?_
      rw [if_pos ⟨j70.1.1, j70.1.2.1⟩]
      rw [hP.1.2.2.2.2.1, hP.1.2.2.2.1, hPq.1.2.2.2.1]
      refine ⟨fun h1 => absurd h1 (by omega), fun _ => ⟨g2.1, fun h5 => stop (fun hc => by have := hc.2.1; omega), fun h5 => ⟨gq.1, fun h1 => ?_, fun h1 => stop (fun hc => h1 hc.2.2.symm)⟩⟩⟩
      have hc : canP T i := ⟨h9, by omega, h1.symm⟩
      obtain ⟨b1, b2, b3, b4, b5, b6, b7⟩ := paid_bd hI2 ⟨hi.1, hi2⟩ hc
      obtain ⟨n1, n2, n3⟩ := hI2.pay1 ⟨hi.1, hi2⟩ hc
      have iO := hI2.own ⟨hi.1, hi2⟩ hc
      have off : ∀ j, (j ≠ 5 + i ∧ j ≠ 9 + i ∧ (j < 13 + 3 * i ∨ 13 + 3 * i + 3 ≤ j) ∧ (j < 25 + 3 * i ∨ 25 + 3 * i + 3 ≤ j)) → ownP T i j = T j := fun j hj => own_off hi4 j3.2 hj
      refine k_payFirst (by omega) g2 hP hi4 (by omega) ⟨h9, j3.2⟩ ⟨j2.1, j2.2, b5.1, b5.2⟩ ?_
      intro I3 f3 p3
      have C3 : CW G I3 w (ownP T i) := by
        refine hC2.one hI2 hL2 hw ⟨hi.1, hi2⟩ f3 p3 (off 0 (by omega)) (fun j hj => off j (by omega)) ?_
        intro q q0 q1 hqi
        exact ⟨off _ (by omega), off _ (by omega), off _ (by omega), fun k k0 k1 => ⟨off _ (by omega), off _ (by omega)⟩⟩
      have lO : LW (ownP T i) := hL2.same (fun j hj => off j (by omega))
      have o37 : ownP T i 37 = T 37 := off 37 (by omega)
      have Pq3 := C3.2.2.2 _ j70.1.1 (by rw [o37]; exact j70.1.2.1)
      have q5 := (iO.2.2.2.2.1 _ j70.1.1 (by rw [o37]; exact j70.1.2.1)).2.1
      have e1 := pay1_is hI2 ⟨hi.1, hi2⟩ hc
      have lO1 := lO
      refine ⟨gq.1, k_take (by omega) gq Pq3 hq4 (by omega) _ ⟨q5.1, q5.2, b1, by omega⟩ ?_⟩
      intro I4 f4 p4
      rw [← e1] at p4
      have C4 : CW G I4 w (pay1 T i) := by
        refine C3.one iO lO hw (i := T (13 + 3 * i)) ⟨j70.1.1, by rw [o37]; exact j70.1.2.1⟩ f4 p4 ?_ ?_ ?_
        · rw [e1, upR_ne _ (by omega)]
        · intro j hj; rw [e1, upR_ne _ (by omega)]
        · intro q q0 q1 hqi
          rw [e1]
          exact ⟨upR_ne _ (by omega), upR_ne _ (by omega), upR_ne _ (by omega), fun k k0 k1 => ⟨upR_ne _ (by omega), upR_ne _ (by omega)⟩⟩
      rw [wr_id (x := k + 1) (by omega) (by omega)]
      have l1 : LW (pay1 T i) := hL2.same (fun j hj => by
        rw [e1, upR_ne _ (by omega)]
        exact off j (by omega))
      refine ih (k + 1) (pay1 T i) _ I4 (by omega) (by omega) ((hf.tr (f3.fw hi4)).tr (f4.fw hq4)) ((hmk.tr f3.mk).tr f4.mk) C4 n1 l1 (by rw [n2]; exact hi2) (by omega) ?_
      rw [payL, if_pos hc] at hp
      exact hp
    · rw [if_neg (fun hc => h9 hc.2)]
      refine k_personAt (by omega) hG hC2 hI2 _ ?_
      rw [if_neg (by omega)]
      exact ⟨fun _ => stop (fun hc => h9 hc.1), fun hn => absurd rfl hn⟩
/-- marks of people in the cells of a day -/
def MD (w : Int) (S : Row) (I : mu_M) (n : Int) : Prop := ∀ q, 0 ≤ q → q < n → I (w + 11 + 5 * q) 10 = toS S q ∧ I (w + 11 + 5 * q) 11 = earnS S q ∧ I (w + 11 + 5 * q) 12 = 0
theorem CW.mark {G : mu_G} {I I1 : mu_M} (hC : CW G I w S) (hI : Inv S) (hw : 0 ≤ w ∧ w + 31 ≤ 115) {a k x : Int} (q : I1 = mu_set I a k x) (ha : w + 11 ≤ a ∧ a < w + 31) (hk : 10 ≤ k) : CW G I1 w S := by
  refine hC.keep hI ?_ ?_ (fun _ => rfl) (fun _ _ _ => rfl)
  · intro b j c1 c2 c3 c4
    rw [q, mu_set_at, if_neg (by omega)]
  · intro b hb
    rw [q, set_off _ (by omega)]
/-- the third loop: earned, paid -/
theorem k_day3 (hd : d < 930) (hG : GW G w) (hw : 0 ≤ w ∧ w + 31 ≤ 115) {S0 : Row} (hE : ∀ p, 0 ≤ earnS S0 p ∧ earnS S0 p ≤ 20000) {v2 : mu_V} : ∀ (n : Nat) (p : Int) (T : Row) (I2 : mu_M), p + n = 4 → 0 ≤ p → CW G I2 w T → Inv T → LW T → T 0 + 1 < 100000 → (∀ q, p ≤ q → q < T 37 → I2 (w + 11 + 5 * q) 11 = earnS S0 q) → (∀ I1, FW w I2 I1 → CW G I1 w (upR (erL S0 n p T) 0 (erL S0 n p T 0 + 1)) → Q 0 G I1) → mu_WP mu_code d 86 118 [(1, w), (0, p), v2] [] G I2 Q := by
  have fin : ∀ (p : Int) (T : Row) (I2 : mu_M), ¬ p < T 37 → CW G I2 w T → Inv T → LW T → T 0 + 1 < 100000 → (∀ I1, FW w I2 I1 → CW G I1 w (upR T 0 (T 0 + 1)) → Q 0 G I1) → ∀ I20, I20 = mu_set I2 w 6 (wr (I2 w 6 + 1)) → Q 0 G I20 := by
    intro p T I2 hp hC2 hI2 hL2 h0 hq I20 q20
    have day := hI2.1
    obtain ⟨⟨a1, a2, a3, a4, a5⟩, ⟨cls, hl, hA⟩, hn, hpe⟩ := hC2
    rw [a4, wr_id (x := T 0 + 1) (by omega) (by omega)] at q20
    have ho : ∀ b, b ≠ w → I20 b = I2 b := fun b hb => by rw [q20, set_off _ hb]
    have hT : ∀ j, j ≠ 0 → upR T 0 (T 0 + 1) j = T j := fun j hj => upR_ne _ hj
    have h42 := hI2.2.1
    refine hq I20 (fun b hb => ho b (by omega)) ⟨⟨?_, ?_, ?_, ?_, ?_⟩, ⟨cls, hl.same (fun j hj => hT j (by omega)) hL2, ?_⟩, ?_, ?_⟩
    · rw [q20, set_row, upR_ne _ (by omega), hT 43 (by omega)]; exact a1
    · rw [q20, set_row, upR_ne _ (by omega), hT 44 (by omega)]; exact a2
    · rw [q20, set_row, upR_ne _ (by omega), hT 37 (by omega)]; exact a3
    · rw [q20, set_row, upR_same, upR_same]
    · intro c c0 c1
      rw [ho _ (by omega), hT _ (by omega)]; exact a5 c c0 c1
    · exact hA.keep (by rw [ho _ (by omega)]) (fun b b0 b1 => ho b (by omega))
    · intro i i0 i1
      rw [ho _ (by omega)]; exact hn i i0 i1
    · intro i i0 i1
      rw [hT 37 (by omega)] at i1
      refine (hpe i i0 i1).keep ((hI2.2.2.2.2.1 i i0 i1).2.2.1.2) ?_ ?_ ?_ ?_ (fun b hb => ho b (by omega)) (fun _ => rfl) rfl ⟨hT _ (by omega), hT _ (by omega), hT _ (by omega), hT _ (by omega), hT _ (by omega), hT _ (by omega), fun k k0 k1 => hT _ (by omega), fun k k0 k1 => ⟨hT _ (by omega), hT _ (by omega)⟩⟩
      · intro m _; rw [ho _ (by omega)]
      · intro m _ _; rw [ho _ (by omega)]
      · intro m _ _; rw [ho _ (by omega)]
      · intro m _ _; rw [ho _ (by omega)]
  intro n
  induction n with
  | zero =>
    intro p T I2 hp p0 hC2 hI2 hL2 h0 hm hq
    have h42 := hI2.2.1
    exact vc_86_118 (by omega) _ _ _ ⟨hG.1, fun h1 => ⟨fun h2 => absurd h2 (by omega), fun _ => fin p T I2 (by omega) hC2 hI2 hL2 h0 hq⟩, fun _ => fin p T I2 (by omega) hC2 hI2 hL2 h0 hq⟩
  | succ n ih =>
    intro p T I2 hp p0 hC2 hI2 hL2 h0 hm hq
    have h42 := hI2.2.1
    refine vc_86_118 (by omega) _ _ _ ?_
    rw [hC2.1.2.2.1]
    rw [erL] at hq
    refine ⟨hG.1, fun h1 => ⟨fun _ => ?_, fun h2 => absurd (by omega) h2⟩, fun h1 => ?_⟩
    · rw [if_pos h1] at hq
      obtain ⟨g1, g2⟩ := hG.p (i := p) (by omega)
      have hP := hC2.2.2.2 p p0 h1
      have h5 := (hI2.2.2.2.2.1 p p0 h1).2.1
      have he := hE p
      simp only [hG.2.2.2.1, hG.2.2.2.2.2.2.2.1, g1, g2.1, hm p (by omega) h1]
      refine ⟨⟨trivial, p0, by omega⟩, trivial, k_take (by omega) g2 hP (by omega) (by omega) _ ⟨h5.1, h5.2, he.1, by omega⟩ ?_⟩
      intro I3 f3 p3
      have hT : ∀ j, j ≠ 5 + p → upR T (5 + p) (cap (T (5 + p) + earnS S0 p)) j = T j := fun j hj => upR_ne _ hj
      have i3 : Inv (upR T (5 + p) (cap (T (5 + p) + earnS S0 p))) := hI2.purse (by omega) (cap_bd (by omega))
      have C3 : CW G I3 w (upR T (5 + p) (cap (T (5 + p) + earnS S0 p))) := by
        refine hC2.one hI2 hL2 hw ⟨p0, h1⟩ f3 p3 (hT 0 (by omega)) (fun j hj => hT j (by omega)) ?_
        intro q q0 q1 hqi
        exact ⟨hT _ (by omega), hT _ (by omega), hT _ (by omega), fun k k0 k1 => ⟨hT _ (by omega), hT _ (by omega)⟩⟩
      have l3 : LW (upR T (5 + p) (cap (T (5 + p) + earnS S0 p))) := hL2.same (fun j hj => hT j (by omega))
      have n3 : p < upR T (5 + p) (cap (T (5 + p) + earnS S0 p)) 37 := by rw [hT 37 (by omega)]; exact h1
      simp only [hG.2.2.2.1, hG.2.2.2.2.2.2.2.1, g1]
      refine ⟨hG.1, ⟨trivial, p0, by omega⟩, k_payDebts (by omega) hG hw p C3 i3 l3 ⟨p0, n3⟩ ?_⟩
      intro I4 f4 m4 C4
      obtain ⟨i4, hi4⟩ := payL_hi p0 4 _ i3 n3
      have d4 := payL_0 p0 4 _ i3 n3
      rw [wr_id (x := p + 1) (by omega) (by omega)]
      refine ih (p + 1) _ I4 (by omega) (by omega) C4 i4 (l3.same (fun j hj => hi4 j (Or.inr hj))) (by rw [d4, hT 0 (by omega)]; exact h0) ?_ ?_
      · intro q hq1 hq2
        rw [hi4 37 (by omega), hT 37 (by omega)] at hq2
        rw [m4 q (by omega) (by omega) 11 (by omega), f3.mk q (by omega) (by omega) 11 (by omega)]
        exact hm q (by omega) hq2
      · intro I1 f1 c1
        exact hq I1 (((f3.fw (by omega)).tr f4).tr f1) c1
    · rw [if_neg h1] at hq
      exact fin p T I2 h1 hC2 hI2 hL2 h0 hq
/-- the second loop: they move -/
theorem k_day2 (hd : d < 930) (hG : GW G w) (hw : 0 ≤ w ∧ w + 31 ≤ 115) (hI : Inv S) (hL : LW S) (h00 : S 0 + 1 < 100000) {v2 : mu_V} (hq : ∀ I1, FW w I I1 → CW G I1 w (dayS S) → Q 0 G I1) : ∀ (n : Nat) (p : Int) (T : Row) (I2 : mu_M), p + n = 4 → 0 ≤ p → FW w I I2 → CW G I2 w T → Inv T → LW T → (∀ j, T j = if j ≤ p then mvS S j else S j) → (∀ q, 0 ≤ q → q < S 37 → I2 (w + 11 + 5 * q) 10 = toS S q ∧ I2 (w + 11 + 5 * q) 11 = earnS S q ∧ I2 (w + 11 + 5 * q) 12 = bi (stayS S q)) → mu_WP mu_code d 86 67 [(1, w), (0, p), v2] [] G I2 Q := by
  have h4 := hI.2.1
  have fin : ∀ (p : Int) (T : Row) (I2 : mu_M), ¬ p < S 37 → 0 ≤ p → p ≤ 4 → FW w I I2 → CW G I2 w T → Inv T → LW T → (∀ j, T j = if j ≤ p then mvS S j else S j) → (∀ q, 0 ≤ q → q < S 37 → I2 (w + 11 + 5 * q) 10 = toS S q ∧ I2 (w + 11 + 5 * q) 11 = earnS S q ∧ I2 (w + 11 + 5 * q) 12 = bi (stayS S q)) → mu_WP mu_code d 86 118 [(1, w), (0, 0), v2] [] G I2 Q := by
    intro p T I2 hp p0 p4 hf hC2 hI2 hL2 hT hm
    have eT : T = mvS S := by
      funext j
      rw [hT j]
      split
      · rfl
      · rw [mvS_i hI j (by omega)]
    subst eT
    have e37 : mvS S 37 = S 37 := mvS_i hI 37 (by omega)
    have e0 : mvS S 0 = S 0 := mvS_i hI 0 (by omega)
    refine k_day3 hd hG hw (fun p => earnS_bd hL p) 4 0 _ I2 (by omega) (by omega) hC2 hI2 hL2 (by rw [e0]; exact h00) ?_ ?_
    · intro q q0 q1
      rw [e37] at q1
      exact (hm q q0 q1).2.1
    · intro I1 f1 c1
      exact hq I1 (hf.tr f1) c1
  intro n
  induction n with
  | zero =>
    intro p T I2 hp p0 hf hC2 hI2 hL2 hT hm
    exact vc_86_67 (by omega) _ _ _ ⟨hG.1, fun h1 => ⟨fun h2 => absurd h2 (by omega), fun _ => fin p T I2 (by omega) p0 (by omega) hf hC2 hI2 hL2 hT hm⟩, fun _ => fin p T I2 (by omega) p0 (by omega) hf hC2 hI2 hL2 hT hm⟩
  | succ n ih =>
    intro p T I2 hp p0 hf hC2 hI2 hL2 hT hm
    have e37 : T 37 = S 37 := by rw [hT 37, if_neg (by omega)]
    refine vc_86_67 (by omega) _ _ _ ?_
    rw [hC2.1.2.2.1, e37]
    refine ⟨hG.1, fun h1 => ⟨fun _ => ?_, fun h2 => absurd (by omega) h2⟩, fun h1 => fin p T I2 h1 p0 (by omega) hf hC2 hI2 hL2 hT hm⟩
    obtain ⟨g1, g2⟩ := hG.p (i := p) (by omega)
    obtain ⟨m1, m2, m3⟩ := hm p p0 h1
    simp only [hG.2.2.2.1, hG.2.2.2.2.2.2.2.1, g1, g2.1, m3, m1]
    rw [wr_id (x := p + 1) (by omega) (by omega)]
    have mvp : mvS S (1 + p) = if stayS S p = true then S (1 + p) else toS S p := by
      unfold mvS
      rw [if_pos (by omega), show 1 + p - 1 = p by omega]
    refine ⟨⟨trivial, p0, by omega⟩, trivial, fun h2 => ?_, fun h2 => ?_⟩
    · have hst := (bi_not _).1 h2
      intro I3 q3
      have htb := toS_bd hI ⟨p0, h1⟩
      have e43 : T 43 = S 43 := by rw [hT 43, if_neg (by omega)]
      have e44 : T 44 = S 44 := by rw [hT 44, if_neg (by omega)]
      have hU : ∀ j, j ≠ 1 + p → upR T (1 + p) (toS S p) j = T j := fun j hj => upR_ne _ hj
      have i3 : Inv (upR T (1 + p) (toS S p)) := hI2.isC (by omega) (by rw [e43, e44]; exact htb)
      have hP := hC2.2.2.2 p p0 (by rw [e37]; exact h1)
      have f3 : FP1 (w + 11 + 5 * p) I2 I3 := q3 ▸ FP1.w I2 (Or.inr ⟨rfl, by omega⟩)
      have p3 : PE G I3 (w + 11 + 5 * p) (upR T (1 + p) (toS S p)) p := by
        obtain ⟨⟨a0, a2, a3, a4, a5, a6⟩, a7, a8, a9⟩ := hP
        have ha : ∀ j, j ≠ 4 → I3 (w + 11 + 5 * p) j = I2 (w + 11 + 5 * p) j := fun j hj => by rw [q3, set_row, upR_ne _ hj]
        have hb : ∀ b, b ≠ w + 11 + 5 * p → I3 b = I2 b := fun b hb => by rw [q3, set_off _ hb]
        refine ⟨⟨by rw [ha 0 (by omega)]; exact a0, by rw [ha 2 (by omega), hU _ (by omega)]; exact a2, by rw [ha 3 (by omega), hU _ (by omega)]; exact a3, by rw [q3, set_row, upR_same, upR_same], by rw [ha 5 (by omega), hU _ (by omega)]; exact a5, by rw [ha 6 (by omega), hU _ (by omega)]; exact a6⟩, ?_, ?_, ?_⟩
        · intro k k0 k1
          rw [hb _ (by omega), hU _ (by omega)]; exact a7 k k0 k1
        · intro k k0 k1
          rw [hU (9 + p) (by omega)] at k1
          rw [hb _ (by omega), hb _ (by omega), hU (13 + 3 * p + k) (by omega), hU (25 + 3 * p + k) (by omega)]; exact a8 k k0 k1
        · rw [hU _ (by omega)]
          exact a9.keep (fun b hb2 => hb b (by omega)) (fun _ => rfl)
      refine ih (p + 1) (upR T (1 + p) (toS S p)) I3 (by omega) (by omega) (hf.tr (f3.fw (by omega))) ?_ i3 (hL2.same (fun j hj => hU j (by omega))) ?_ ?_
      · refine hC2.one hI2 hL2 hw ⟨p0, by rw [e37]; exact h1⟩ f3 p3 (hU 0 (by omega)) (fun j hj => hU j (by omega)) ?_
        intro q q0 q1 hqi
        exact ⟨hU _ (by omega), hU _ (by omega), hU _ (by omega), fun k k0 k1 => ⟨hU _ (by omega), hU _ (by omega)⟩⟩
      · intro j
        rw [upR_at]
        by_cases hj : j = 1 + p
        · rw [if_pos hj, if_pos (by omega), hj, mvp, hst]; rfl
        · rw [if_neg hj, hT j]
          by_cases hj2 : j ≤ p
          · rw [if_pos hj2, if_pos (by omega)]
          · rw [if_neg hj2, if_neg (by omega)]
      · intro q q0 q1
        rw [f3.mk q q0 (by omega) 10 (by omega), f3.mk q q0 (by omega) 11 (by omega), f3.mk q q0 (by omega) 12 (by omega)]
        exact hm q q0 q1
    · have hst : stayS S p = true := by cases hb : stayS S p <;> simp [hb, bi] at h2 ⊢
      refine ih (p + 1) T I2 (by omega) (by omega) hf hC2 hI2 hL2 ?_ hm
      intro j
      rw [hT j]
      by_cases hj2 : j ≤ p
      · rw [if_pos hj2, if_pos (by omega)]
      · rw [if_neg hj2]
        by_cases hj : j = 1 + p
        · rw [if_pos (by omega), hj, mvp, if_pos hst]
        · rw [if_neg (by omega)]
theorem k_goOneDay (hd : d < 920) (hG : GW G w) (hw : 0 ≤ w ∧ w + 31 ≤ 115) (hC : CW G I w S) (hI : Inv S) (hL : LW S) (h00 : S 0 + 1 < 100000) (hq : ∀ I1, FW w I I1 → CW G I1 w (dayS S) → Q 0 G I1) : mu_WP mu_code d 86 0 [(1, w), (3, 0), (3, 0)] [] G I Q := by
  have h4 := hI.2.1
  refine vc_86_0 (by omega) _ ?_
  have fin : ∀ (v2 : mu_V) (I2 : mu_M) (p : Int), ¬ p < S 37 → FW w I I2 → CW G I2 w S → MD w S I2 p → mu_WP mu_code (d + 1) 92 0 [(1, w), (3, 0), (3, 0), (3, 0), (3, 0)] [] G I2 (fun _ G1 I3 => mu_WP mu_code d 86 67 [(1, w), (0, 0), v2] [] G1 I3 Q) := by
    intro v2 I2 p hp hf hC2 hm
    refine k_keepCrossingApart (by omega) hG hC2 hI hw (T := toS S) (fun q q0 q1 => ⟨(hm q q0 (by omega)).1, (hm q q0 (by omega)).2.2⟩) ?_
    intro I3 f3 c3 m3
    refine k_day2 (by omega) hG hw hI hL h00 hq 4 0 S I3 (by omega) (by omega) (hf.tr f3) c3 hI hL ?_ ?_
    · intro j
      split
      · rw [mvS_i hI j (by omega)]
      · rfl
    · intro q q0 q1
      obtain ⟨a, b, c⟩ := m3 q q0 q1
      exact ⟨a, by rw [b]; exact (hm q q0 (by omega)).2.1, c⟩
  suffices H : ∀ (n : Nat) (p : Int) (v2 : mu_V) (I2 : mu_M), p + n = 4 → 0 ≤ p → FW w I I2 → CW G I2 w S → MD w S I2 p → mu_WP mu_code d 86 2 [(1, w), (0, p), v2] [] G I2 Q from
    H 4 0 _ I (by omega) (by omega) (FW.rf w I) hC (fun q q0 q1 => by omega)
  intro n
  induction n with
  | zero =>
    intro p v2 I2 hp p0 hf hC2 hm
    exact vc_86_2 (by omega) _ _ _ ⟨hG.1, fun h1 => ⟨fun h2 => absurd h2 (by omega), fun _ => fin v2 I2 p (by omega) hf hC2 hm⟩, fun _ => fin v2 I2 p (by omega) hf hC2 hm⟩
  | succ n ih =>
    intro p v2 I2 hp p0 hf hC2 hm
    refine vc_86_2 (by omega) _ _ _ ?_
    rw [hC2.1.2.2.1]
    refine ⟨hG.1, fun h1 => ⟨fun _ => ?_, fun h2 => absurd (by omega) h2⟩, fun h1 => fin v2 I2 p h1 hf hC2 hm⟩
    obtain ⟨g1, g2⟩ := hG.p (i := p) (by omega)
    have hst := stepsS_bd S p
    simp only [hG.2.2.2.1, hG.2.2.2.2.2.2.2.1, g1, g2.1]
    refine ⟨⟨trivial, p0, by omega⟩, k_earnsOf (by omega) hG hC2 hI hw p ⟨p0, h1⟩ ?_⟩
    intro I3 f3
    have c3 := f3.cw hC2 hI hw
    refine ⟨g2.1, ?_⟩
    intro I4 q4
    have c4 := c3.mark hI hw q4 (by omega) (by omega)
    refine ⟨hG.1, k_stepsOf (by omega) hG c4 hI hw p ⟨p0, h1⟩ ?_⟩
    intro I5 f5
    have c5 := f5.cw c4 hI hw
    refine ⟨hG.1, k_aimOf (by omega) hG c5 hI hw p ⟨p0, h1⟩ ⟨hG.1, ?_⟩⟩
    rw [show stepsS S p = ((stepsS S p).toNat : Int) by omega]
    refine k_cellAfter (by omega) hG c5 hI hw p ⟨p0, h1⟩ _ (by omega) _ (aimS_bd hI ⟨p0, h1⟩) ⟨g2.1, ?_⟩
    intro I6 q6 I7 q7
    have c6 := c5.mark hI hw q6 (by omega) (by omega)
    have c7 := c6.mark hI hw q7 (by omega) (by omega)
    rw [wr_id (x := p + 1) (by omega) (by omega)]
    refine ih (p + 1) _ I7 (by omega) (by omega) ?_ c7 ?_
    · intro b hb
      rw [q7, set_off _ (by omega), q6, set_off _ (by omega), f5 b (by omega), q4, set_off _ (by omega), f3 b (by omega)]
      exact hf b hb
    · intro q q0 q1
      have r : ∀ j, I7 (w + 11 + 5 * q) j = if q = p ∧ j = 12 then 0 else if q = p ∧ j = 10 then toS S p else if q = p ∧ j = 11 then earnS S p else I2 (w + 11 + 5 * q) j := by
        intro j
        rw [q7, mu_set_at]
        by_cases hc : q = p ∧ j = 12
        · rw [if_pos ⟨by omega, hc.2⟩, if_pos hc]
        · rw [if_neg (by omega), if_neg hc, q6, mu_set_at]
          by_cases hc2 : q = p ∧ j = 10
          · rw [if_pos ⟨by omega, hc2.2⟩, if_pos hc2]; rfl
          · rw [if_neg (by omega), if_neg hc2, f5 _ (by omega), q4, mu_set_at]
            by_cases hc3 : q = p ∧ j = 11
            · rw [if_pos ⟨by omega, hc3.2⟩, if_pos hc3]
            · rw [if_neg (by omega), if_neg hc3, f3 _ (by omega)]
      rw [r 10, r 11, r 12]
      by_cases hqp : q = p
      · subst hqp
        simp
      · have hm2 := hm q q0 (by omega)
        simp [hqp]
        exact hm2
end

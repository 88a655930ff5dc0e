/-! THE CLASS'S WORLDS: days in a row, what is asked of one, copies -/
/-- the same geometry, but for the kinds of the people of the world at w -/
def GK (w : Int) (G G1 : mu_G) : Prop := (∀ b, sh G1 b = sh G b) ∧ gz G1 = gz G ∧ gu G1 = gu G ∧ ∀ b j, (j ≠ 1 ∨ b < w + 11 ∨ w + 31 ≤ b) → rf G1 b j = rf G b j
theorem GK.rf' (w : Int) (G : mu_G) : GK w G G := ⟨fun _ => rfl, rfl, rfl, fun _ _ _ => rfl⟩
theorem GK.tr {w : Int} {G G1 G2 : mu_G} (h : GK w G G1) (h2 : GK w G1 G2) : GK w G G2 := ⟨fun b => by rw [h2.1, h.1], by rw [h2.2.1, h.2.1], by rw [h2.2.2.1, h.2.2.1], fun b j hj => by rw [h2.2.2.2 b j hj, h.2.2.2 b j hj]⟩
theorem GP.k {w a : Int} {G G1 : mu_G} (h : GP G a) (hk : GK w G G1) : GP G1 a := by
  obtain ⟨h1, h2, h3, h4, h5, h6, h7⟩ := h
  exact ⟨by rw [hk.1]; exact h1, by rw [hk.2.2.2 _ _ (by omega)]; exact h2, by rw [hk.2.2.2 _ _ (by omega)]; exact h3, by rw [hk.2.2.2 _ _ (by omega)]; exact h4, by rw [hk.1]; exact h5, by rw [hk.1]; exact h6, by rw [hk.1]; exact h7⟩
theorem GL.k {w a : Int} {G G1 : mu_G} (h : GL G a) (hk : GK w G G1) (ha : a < w + 11 ∨ w + 31 ≤ a) : GL G1 a := by
  obtain ⟨h1, h2, h3, h4, h5, h6, h7, h8, h9, h10, h11, h12, h13⟩ := h
  exact ⟨by rw [hk.1]; exact h1, by rw [hk.2.2.2 _ _ (by omega)]; exact h2, by rw [hk.2.2.2 _ _ (by omega)]; exact h3, by rw [hk.2.2.2 _ _ (by omega)]; exact h4, by rw [hk.2.2.2 _ _ (by omega)]; exact h5, by rw [hk.2.2.2 _ _ (by omega)]; exact h6, by rw [hk.2.2.2 _ _ (by omega)]; exact h7, by rw [hk.1]; exact h8, by rw [hk.1]; exact h9, by rw [hk.1]; exact h10, by rw [hk.1]; exact h11, by rw [hk.1]; exact h12, by rw [hk.1]; exact h13⟩
theorem GW.k {w v : Int} {G G1 : mu_G} (h : GW G v) (hk : GK w G G1) (hv : v = w ∨ v + 31 ≤ w ∨ w + 31 ≤ v) : GW G1 v := by
  obtain ⟨h1, h2, h3, h4, h5, h6, h7, h8, h9, h10⟩ := h
  refine ⟨by rw [hk.1]; exact h1, by rw [hk.2.2.2 _ _ (by omega)]; exact h2, by rw [hk.2.2.2 _ _ (by omega)]; exact h3, by rw [hk.2.2.2 _ _ (by omega)]; exact h4, by rw [hk.2.2.2 _ _ (by omega)]; exact h5, h6.k hk (by omega), by rw [hk.1]; exact h7, by rw [hk.1]; exact h8, by rw [hk.1]; exact h9, fun i i0 i4 => ⟨?_, (h10 i i0 i4).2.k hk⟩⟩
  rw [hk.2.2.2 _ _ (by omega)]
  exact (h10 i i0 i4).1
theorem aoL_f (S : Row) : ∀ (n : Nat) (p : Int), aoL S n p false = false
  | 0, _ => rfl
  | n + 1, p => by
    rw [aoL]
    split
    · rw [Bool.false_and]; exact aoL_f S n (p + 1)
    · rfl
theorem cpy_at (I : mu_M) (a0 a n b j : Int) : mu_cpy I a0 0 a 0 n b j = if b = a ∧ 0 ≤ j ∧ j < n then I a0 j else I b j := by
  unfold mu_cpy
  by_cases h : b = a ∧ 0 ≤ j ∧ j < 0 + n
  · rw [if_pos h, if_pos (by omega), show 0 + (j - 0) = j by omega]
  · rw [if_neg h, if_neg (by omega)]
theorem lst_copy {T U : Row} : ∀ {L : List Int} {a : Int}, lst T a L → (∀ j, a ≤ j → j < a + L.length → U j = T j) → lst U a L
  | [], _, _, _ => trivial
  | x :: L, a, h, hU => by
    have hl : ((x :: L).length : Int) = L.length + 1 := by simp
    rw [hl] at hU
    exact ⟨by rw [hU a (by omega) (by omega)]; exact h.1, lst_copy h.2 (fun j h0 h1 => hU j (by omega) (by omega))⟩
theorem LI.copy {I I1 : mu_M} {l m : Int} (h : ∀ x j, 1 ≤ x → x ≤ 4 → 0 ≤ j → j < 10 → I1 (l + x) j = I (m + x) j) (h5 : ∀ j, 0 ≤ j → j < 100 → I1 (l + 5) j = I (m + 5) j) : ∀ {r : List Cla} {i : Int}, 0 ≤ i → i + r.length ≤ 10 → LI I m i r → LI I1 l i r
  | [], _, _, _, _ => trivial
  | c :: r, i, hi, hr, hl => by
    have hlen : ((c :: r).length : Int) = r.length + 1 := by simp
    rw [hlen] at hr
    obtain ⟨⟨l1, l2, l3, l4, l5, l6⟩, l7⟩ := hl
    refine ⟨?_, LI.copy h h5 (by omega) (by omega) l7⟩
    rw [h 1 i (by omega) (by omega) (by omega) (by omega), h 2 i (by omega) (by omega) (by omega) (by omega), h 3 i (by omega) (by omega) (by omega) (by omega), h 4 i (by omega) (by omega) (by omega) (by omega)]
    exact ⟨l1, l2, l3, l4, l5, lst_copy l6 (fun j h0 h1 => h5 j (by omega) (by simp at h1; omega))⟩
section
variable {d : Nat} {G : mu_G} {I : mu_M} {Q : Int → mu_G → mu_M → Prop} {w : Int} {S : Row}
theorem k_goDays (hd : d < 910) (hG : GW G w) (hw : 0 ≤ w ∧ w + 31 ≤ 115) (hC : CW G I w S) (n : Nat) (hn : n ≤ 60) (hW : WD S n) (hq : ∀ I1, FW w I I1 → CW G I1 w (goS n S) → Q 0 G I1) : mu_WP mu_code d 95 0 [(1, w), (0, (n : Int)), (3, 0)] [] G I Q := by
  refine vc_95_0 (by omega) _ _ ?_
  suffices H : ∀ (m : Nat) (k : Int) (T : Row) (I2 : mu_M), k + m = n → 0 ≤ k → FW w I I2 → CW G I2 w T → WD T m → goS m T = goS n S → mu_WP mu_code d 95 2 [(1, w), (0, (n : Int)), (0, k)] [] G I2 Q from
    H n 0 S I (by omega) (by omega) (FW.rf w I) hC hW rfl
  intro m
  induction m with
  | zero =>
    intro k T I2 hk k0 hf hC2 hw2 hg
    have hg : T = goS n S := hg
    exact vc_95_2 (by omega) _ _ _ ⟨fun h1 => absurd h1 (by omega), fun _ => hq I2 hf (hg ▸ hC2)⟩
  | succ m ih =>
    intro k T I2 hk k0 hf hC2 hw2 hg
    refine vc_95_2 (by omega) _ _ _ ⟨fun _ => ⟨fun _ => ⟨hG.1, k_goOneDay (by omega) hG hw hC2 hw2.1 hw2.2.1 (by have := hw2.2.2; omega) ?_⟩, fun h1 => absurd (by omega) h1⟩, fun h1 => absurd (by omega) h1⟩
    intro I3 f3 c3
    rw [wr_id (x := k + 1) (by omega) (by omega)]
    exact ih (k + 1) _ I3 (by omega) (by omega) (hf.tr f3) c3 hw2.day hg
theorem k_areAllAtOneCell (hd : d < 960) (hG : GW G w) (hC : CW G I w S) (hI : Inv S) (h : Q (bi (atOne S)) G I) : mu_WP mu_code d 96 0 [(1, w), (3, 0)] [] G I Q := by
  have h4 := hI.2.1
  refine vc_96_0 (by omega) _ ?_
  suffices H : ∀ (n : Nat) (p : Int), p + n = 4 → 1 ≤ p → Q (bi (aoL S n p true)) G I → mu_WP mu_code d 96 2 [(1, w), (0, p)] [] G I Q from H 3 1 (by omega) (by omega) h
  intro n
  induction n with
  | zero =>
    intro p hp p1 h
    exact vc_96_2 (by omega) _ _ ⟨hG.1, fun h1 => ⟨fun h2 => absurd h2 (by omega), fun _ => h⟩, fun _ => h⟩
  | succ n ih =>
    intro p hp p1 h
    rw [aoL] at h
    refine vc_96_2 (by omega) _ _ ?_
    rw [hC.1.2.2.1]
    refine ⟨hG.1, fun h1 => ⟨fun _ => ?_, fun h2 => absurd (by omega) h2⟩, fun h1 => ?_⟩
    · rw [if_pos h1, Bool.true_and] at h
      obtain ⟨g1, g2⟩ := hG.p (i := p) (by omega)
      obtain ⟨k1, k2⟩ := hG.p (i := 0) (by omega)
      have P1 := (hC.2.2.2 p (by omega) h1).1.2.2.2.1
      have P0 := (hC.2.2.2 0 (by omega) (by omega)).1.2.2.2.1
      rw [Int.add_zero] at P0
      simp only [hG.2.2.2.1, hG.2.2.2.2.2.2.2.1, g1, g2.1, k1, k2.1, P1, P0]
      rw [wr_id (x := p + 1) (by omega) (by omega)]
      refine ⟨⟨trivial, by omega, by omega⟩, trivial, ⟨trivial, by omega, by omega⟩, trivial, fun h2 => ?_, fun h2 => ?_⟩
      · rw [decide_eq_true h2] at h
        exact ih (p + 1) (by omega) (by omega) h
      · rw [decide_eq_false h2, aoL_f] at h
        exact h
    · rw [if_neg h1] at h
      exact h
theorem k_isAs (hd : d < 950) {v : Int} {B : Row} (hG : GW G w) (hG2 : GW G v) (hC : CW G I w S) (hC2 : CW G I v B) (hI : Inv S) (hB : Inv B) (h37 : S 37 = B 37) (x : Int) (h1 : asK S B (if x = 0 then 1 else 0) → Q 1 G I) (h0 : ¬ asK S B (if x = 0 then 1 else 0) → Q 0 G I) : mu_WP mu_code d 97 0 [(1, w), (1, v), (0, x), (3, 0), (3, 0), (3, 0)] [] G I Q := by
  have h4 := hI.2.1
  refine vc_97_0 (by omega) _ _ _ ?_
  suffices H : ∀ (n : Nat) (p : Int) (v4 v5 : mu_V), p + n = 4 → 0 ≤ p → (∀ q, 0 ≤ q → q < p → q < S 37 → sameP S B (if x = 0 then 1 else 0) q) → mu_WP mu_code d 97 2 [(1, w), (1, v), (0, x), (0, p), v4, v5] [] G I Q from H 4 0 _ _ (by omega) (by omega) (fun q q0 q1 => by omega)
  intro n
  induction n with
  | zero =>
    intro p v4 v5 hp p0 hs
    have fin : Q 1 G I := h1 (fun q q0 q1 => hs q q0 (by omega) q1)
    exact vc_97_2 (by omega) _ _ _ _ _ _ ⟨hG.1, fun h1 => ⟨fun h2 => absurd h2 (by omega), fun _ => fin⟩, fun _ => fin⟩
  | succ n ih =>
    intro p v4 v5 hp p0 hs
    refine vc_97_2 (by omega) _ _ _ _ _ _ ?_
    rw [hC.1.2.2.1]
    refine ⟨hG.1, fun hlt => ⟨fun _ => ?_, fun h2 => absurd (by omega) h2⟩, fun hlt => h1 (fun q q0 q1 => hs q q0 (by omega) q1)⟩
    obtain ⟨g1, g2⟩ := hG.p (i := p) (by omega)
    obtain ⟨k1, k2⟩ := hG2.p (i := p) (by omega)
    have P1 := hC.2.2.2 p p0 hlt
    have P2 := hC2.2.2.2 p p0 (by omega)
    have n1 := (hI.2.2.2.2.1 p p0 hlt).2.2.1.2
    have n2 := (hB.2.2.2.2.1 p p0 (by omega)).2.2.1.2
    simp only [hG.2.2.2.1, hG.2.2.2.2.2.2.2.1, hG2.2.2.2.1, hG2.2.2.2.2.2.2.2.1, g1, g2.1, k1, k2.1, P1.1.2.2.2.1, P1.1.2.2.2.2.1, P2.1.2.2.2.1, P2.1.2.2.2.2.1]
    rw [wr_id (x := p + 1) (by omega) (by omega)]
    have next : sameP S B (if x = 0 then 1 else 0) p → mu_WP mu_code d 97 2 [(1, w), (1, v), (0, x), (0, p + 1), (1, w + 11 + 5 * p), (1, v + 11 + 5 * p)] [] G I Q := by
      intro hsp
      refine ih (p + 1) _ _ (by omega) (by omega) ?_
      intro q q0 q1 q2
      by_cases hqp : q = p
      · rw [hqp]; exact hsp
      · exact hs q q0 (by omega) q2
    have no : ¬ sameP S B (if x = 0 then 1 else 0) p → Q 0 G I := fun hn => h0 (fun hc => hn (hc p p0 hlt))
    refine ⟨⟨trivial, p0, by omega⟩, hG2.1, ⟨trivial, p0, by omega⟩, trivial, trivial, fun h2 => ⟨fun h3 => ?_, fun h3 => ⟨fun h5 => ?_, fun h5 => ?_⟩⟩, fun h2 => no (fun hc => h2 hc.1)⟩
    · exact next ⟨h2, Or.inl (by rw [if_pos h3]; decide)⟩
    · refine k_owesAs (by omega) g2 k2 P1 P2 n1 n2 (fun hc => ⟨fun hx => absurd hx (by decide), fun _ => next ⟨h2, Or.inr ⟨h5, hc.1, hc.2⟩⟩⟩) (fun hc => ⟨fun _ => no (fun hd => ?_), fun hx => absurd rfl hx⟩)
      rcases hd.2 with hd | hd
      · rw [if_neg h3] at hd; exact hd rfl
      · exact hc hd.2
    · refine no (fun hd => ?_)
      rcases hd.2 with hd | hd
      · rw [if_neg h3] at hd; exact hd rfl
      · exact h5 hd.1
theorem k_owedTo (hd : d < 950) (hG : GW G w) (hC : CW G I w S) (hI : Inv S) (p : Int) (h : Q (owedTo S p) G I) : mu_WP mu_code d 98 0 [(1, w), (0, p), (3, 0), (3, 0), (3, 0)] [] G I Q := by
  have h4 := hI.2.1
  refine vc_98_0 (by omega) _ _ ?_
  suffices H : ∀ (n : Nat) (q x : Int) (v4 : mu_V), q + n = 4 → 0 ≤ q → (0 ≤ x ∧ x ≤ 99 * q) → Q (owL S p n q x) G I → mu_WP mu_code d 98 4 [(1, w), (0, p), (0, x), (0, q), v4] [] G I Q from H 4 0 0 _ (by omega) (by omega) (by omega) h
  intro n
  induction n with
  | zero =>
    intro q x v4 hq q0 hx h
    exact vc_98_4 (by omega) _ _ _ _ _ ⟨hG.1, fun h1 => ⟨fun h2 => absurd h2 (by omega), fun _ => h⟩, fun _ => h⟩
  | succ n ih =>
    intro q x v4 hq q0 hx h
    rw [owL] at h
    refine vc_98_4 (by omega) _ _ _ _ _ ?_
    rw [hC.1.2.2.1]
    refine ⟨hG.1, fun h1 => ⟨fun _ => ?_, fun h2 => absurd (by omega) h2⟩, fun h1 => ?_⟩
    · rw [if_pos h1] at h
      obtain ⟨g1, g2⟩ := hG.p (i := q) (by omega)
      have P := hC.2.2.2 q q0 h1
      obtain ⟨j1, j2, j3, j4, j5, j6, j7, j8⟩ := hI.2.2.2.2.1 q q0 h1
      simp only [hG.2.2.2.1, hG.2.2.2.2.2.2.2.1, g1, g2.1]
      rw [wr_id (x := q + 1) (by omega) (by omega)]
      refine ⟨⟨trivial, q0, by omega⟩, trivial, k_placeOfDebt (by omega) g2 P j3.2 p ⟨fun h2 => ?_, fun h2 => ⟨hG.1, ?_⟩⟩⟩
      · have hn : debtTo S q p = -1 := by
          by_cases hc : debtTo S q p = -1
          · exact hc
          · have := (dT_some 3 0 (by omega) hc).1
            change 0 ≤ debtTo S q p at this
            omega
        rw [if_pos hn, Int.add_zero] at h
        exact ih (q + 1) x _ (by omega) (by omega) (by omega) h
      · have hn : debtTo S q p ≠ -1 := by omega
        obtain ⟨a1, a2, a3, a4⟩ := dT_some 3 0 (by omega) hn
        change 0 ≤ debtTo S q p at a1
        change debtTo S q p < S (9 + q) at a3
        rw [if_neg hn] at h
        have j7k := (j7 _ a1 a3).2
        simp only [hG.2.2.2.1, hG.2.2.2.2.2.2.2.1, g1, g2.1]
        refine ⟨⟨trivial, q0, by omega⟩, trivial, k_sumAt (by omega) g2 P j3.2 _ ?_⟩
        rw [if_pos ⟨a1, a3⟩, wr_id (x := x + _) (by omega) (by omega)]
        exact ih (q + 1) _ _ (by omega) (by omega) (by omega) h
    · rw [if_neg h1] at h
      exact h
theorem k_pursesTogether (hd : d < 950) (hG : GW G w) (hC : CW G I w S) (hI : Inv S) (h : Q (puL S 4 0 0) G I) : mu_WP mu_code d 99 0 [(1, w), (3, 0), (3, 0)] [] G I Q := by
  have h4 := hI.2.1
  refine vc_99_0 (by omega) _ ?_
  suffices H : ∀ (n : Nat) (q x : Int), q + n = 4 → 0 ≤ q → (0 ≤ x ∧ x ≤ 999 * q) → Q (puL S n q x) G I → mu_WP mu_code d 99 4 [(1, w), (0, x), (0, q)] [] G I Q from H 4 0 0 (by omega) (by omega) (by omega) h
  intro n
  induction n with
  | zero =>
    intro q x hq q0 hx h
    exact vc_99_4 (by omega) _ _ _ ⟨hG.1, fun h1 => ⟨fun h2 => absurd h2 (by omega), fun _ => h⟩, fun _ => h⟩
  | succ n ih =>
    intro q x hq q0 hx h
    rw [puL] at h
    refine vc_99_4 (by omega) _ _ _ ?_
    rw [hC.1.2.2.1]
    refine ⟨hG.1, fun h1 => ⟨fun _ => ?_, fun h2 => absurd (by omega) h2⟩, fun h1 => ?_⟩
    · rw [if_pos h1] at h
      obtain ⟨g1, g2⟩ := hG.p (i := q) (by omega)
      have P := (hC.2.2.2 q q0 h1).1.2.2.2.2.1
      have hb := (hI.2.2.2.2.1 q q0 h1).2.1
      simp only [hG.2.2.2.1, hG.2.2.2.2.2.2.2.1, g1, g2.1, P]
      rw [wr_id (x := q + 1) (by omega) (by omega), wr_id (x := x + S (5 + q)) (by omega) (by omega)]
      exact ⟨⟨trivial, q0, by omega⟩, trivial, ih (q + 1) _ (by omega) (by omega) (by omega) h⟩
    · rw [if_neg h1] at h
      exact h
/-- a law is copied from m to l -/
theorem k_lawCopy (hd : d < 980) {l m : Int} (hl : GL G l) (hm : GL G m) (h0 : 0 ≤ l ∧ 0 ≤ m) (hlm : l + 7 ≤ m ∨ m + 7 ≤ l) {cls : List Cla} (hA : LA I m cls) (h : ∀ I1, (∀ b, (b < l ∨ l + 7 ≤ b) → I1 b = I b) → LA I1 l cls → Q 0 G I1) : mu_WP mu_code d 16 0 [(1, l), (1, m)] [] G I Q := by
  obtain ⟨a1, a2, a3, a4, a5, a6, a7, a8, a9, a10, a11, a12, a13⟩ := hl
  obtain ⟨b1, b2, b3, b4, b5, b6, b7, b8, b9, b10, b11, b12, b13⟩ := hm
  refine vc_16_0 (by omega) _ _ ?_
  simp only [a2, a3, a4, a5, a6, a8, a9, a10, a11, a12, b2, b3, b4, b5, b6, b8, b9, b10, b11, b12]
  refine ⟨b1, a1, ?_⟩
  intro I1 q1
  refine ⟨⟨by omega, by omega, trivial, trivial, by omega, by omega⟩, ?_⟩
  intro I2 q2
  refine ⟨⟨by omega, by omega, trivial, trivial, by omega, by omega⟩, ?_⟩
  intro I3 q3
  refine ⟨⟨by omega, by omega, trivial, trivial, by omega, by omega⟩, ?_⟩
  intro I4 q4
  refine ⟨⟨by omega, by omega, trivial, trivial, by omega, by omega⟩, ?_⟩
  intro I5 q5
  refine ⟨⟨by omega, by omega, trivial, trivial, by omega, by omega⟩, ?_⟩
  intro I6 q6
  have r : ∀ b j, I6 b j = if b = l + 5 ∧ 0 ≤ j ∧ j < 100 then I (m + 5) j else if b = l + 4 ∧ 0 ≤ j ∧ j < 10 then I (m + 4) j else if b = l + 3 ∧ 0 ≤ j ∧ j < 10 then I (m + 3) j else if b = l + 2 ∧ 0 ≤ j ∧ j < 10 then I (m + 2) j else if b = l + 1 ∧ 0 ≤ j ∧ j < 10 then I (m + 1) j else if b = l ∧ j = 0 then I m 0 else I b j := by
    intro b j
    have n : ∀ x, 1 ≤ x → x ≤ 5 → m + x ≠ l ∧ ∀ y, 1 ≤ y → y ≤ 5 → m + x ≠ l + y := fun x _ _ => ⟨by omega, fun y _ _ => by omega⟩
    rw [q6, cpy_at, q5, cpy_at, cpy_at, q4, cpy_at, cpy_at, cpy_at, q3, cpy_at, cpy_at, cpy_at, cpy_at, q2, cpy_at, cpy_at, cpy_at, cpy_at, cpy_at, q1]
    simp only [mu_set_at]
    rw [if_neg (show ¬ (m + 5 = l + 4 ∧ 0 ≤ j ∧ j < 10) by omega), if_neg (show ¬ (m + 5 = l + 3 ∧ 0 ≤ j ∧ j < 10) by omega), if_neg (show ¬ (m + 4 = l + 3 ∧ 0 ≤ j ∧ j < 10) by omega), if_neg (show ¬ (m + 5 = l + 2 ∧ 0 ≤ j ∧ j < 10) by omega), if_neg (show ¬ (m + 4 = l + 2 ∧ 0 ≤ j ∧ j < 10) by omega), if_neg (show ¬ (m + 3 = l + 2 ∧ 0 ≤ j ∧ j < 10) by omega), if_neg (show ¬ (m + 5 = l + 1 ∧ 0 ≤ j ∧ j < 10) by omega), if_neg (show ¬ (m + 4 = l + 1 ∧ 0 ≤ j ∧ j < 10) by omega), if_neg (show ¬ (m + 3 = l + 1 ∧ 0 ≤ j ∧ j < 10) by omega), if_neg (show ¬ (m + 2 = l + 1 ∧ 0 ≤ j ∧ j < 10) by omega), if_neg (show ¬ (m + 5 = l ∧ j = 0) by omega), if_neg (show ¬ (m + 4 = l ∧ j = 0) by omega), if_neg (show ¬ (m + 3 = l ∧ j = 0) by omega), if_neg (show ¬ (m + 2 = l ∧ j = 0) by omega), if_neg (show ¬ (m + 1 = l ∧ j = 0) by omega)]
  clear q1 q2 q3 q4 q5 q6
  refine h I6 ?_ ⟨?_, hA.2.1, hA.2.2.1, ?_⟩
  · intro b hb
    funext j
    rw [r b j, if_neg (by omega), if_neg (by omega), if_neg (by omega), if_neg (by omega), if_neg (by omega), if_neg (by omega)]
  · rw [r l 0, if_neg (by omega), if_neg (by omega), if_neg (by omega), if_neg (by omega), if_neg (by omega), if_pos ⟨rfl, rfl⟩]
    exact hA.1
  · have hlen := hA.2.1
    refine LI.copy ?_ ?_ (by omega) (by omega) hA.2.2.2
    · intro x j x1 x4 j0 j1
      have hx : x = 1 ∨ x = 2 ∨ x = 3 ∨ x = 4 := by omega
      rcases hx with rfl | rfl | rfl | rfl
      · rw [r, if_neg (by omega), if_neg (by omega), if_neg (by omega), if_neg (by omega), if_pos ⟨rfl, j0, j1⟩]
      · rw [r, if_neg (by omega), if_neg (by omega), if_neg (by omega), if_pos ⟨rfl, j0, j1⟩]
      · rw [r, if_neg (by omega), if_neg (by omega), if_pos ⟨rfl, j0, j1⟩]
      · rw [r, if_neg (by omega), if_pos ⟨rfl, j0, j1⟩]
    · intro j j0 j1
      rw [r, if_pos ⟨rfl, j0, j1⟩]
end

/-! THE CLASS'S CALLS: the book -/
theorem pk_is {p n c : Int} (hp : 0 ≤ p ∧ p < 4) (hn : 0 ≤ n ∧ n ≤ 60) (hc : 0 ≤ c ∧ c < 64) : mu_or (mu_or (mu_shl p 12) (mu_shl n 6)) c = p * 4096 + n * 64 + c := by
  obtain ⟨a, ha⟩ : ∃ a : Nat, p = a := ⟨p.toNat, by omega⟩
  obtain ⟨b, hb⟩ : ∃ b : Nat, n = b := ⟨n.toNat, by omega⟩
  obtain ⟨e, he⟩ : ∃ e : Nat, c = e := ⟨c.toNat, by omega⟩
  subst ha hb he
  have e1 : mu_shl (a : Int) 12 = ((a * 2 ^ 12 : Nat) : Int) := mn_shl (k := 12) (by omega) (by omega)
  have e2 : mu_shl (b : Int) 6 = ((b * 2 ^ 6 : Nat) : Int) := mn_shl (k := 6) (by omega) (by omega)
  have o1 : a * 2 ^ 12 ||| b * 2 ^ 6 = a * 4096 + b * 64 := by
    have := Nat.two_pow_add_eq_or_of_lt (i := 12) (b := b * 2 ^ 6) (by omega) a
    rw [Nat.mul_comm] at this
    rw [← this]
  have o2 : (a * 4096 + b * 64) ||| e = a * 4096 + b * 64 + e := by
    have := Nat.two_pow_add_eq_or_of_lt (i := 6) (b := e) (by omega) (a * 64 + b)
    rw [show a * 4096 + b * 64 = 2 ^ 6 * (a * 64 + b) by omega, ← this]
  rw [e1, e2, mn_or (by omega) (by omega), o1, mn_or (by omega) (by omega), o2]
  omega
theorem pk_out {p n c : Int} (hp : 0 ≤ p ∧ p < 4) (hn : 0 ≤ n ∧ n ≤ 60) (hc : 0 ≤ c ∧ c < 64) : mu_shr (p * 4096 + n * 64 + c) 12 = p ∧ mu_and (mu_shr (p * 4096 + n * 64 + c) 6) 63 = n ∧ mu_and (p * 4096 + n * 64 + c) 63 = c := by
  obtain ⟨x, hx⟩ : ∃ x : Nat, p * 4096 + n * 64 + c = x := ⟨(p * 4096 + n * 64 + c).toNat, by omega⟩
  rw [hx]
  have e1 : mu_shr (x : Int) 12 = ((x / 2 ^ 12 : Nat) : Int) := mn_shr (k := 12) (by omega) (by omega)
  have e2 : mu_shr (x : Int) 6 = ((x / 2 ^ 6 : Nat) : Int) := mn_shr (k := 6) (by omega) (by omega)
  have e3 : mu_and ((x / 2 ^ 6 : Nat) : Int) 63 = ((x / 2 ^ 6 &&& 63 : Nat) : Int) := mn_and (b := 63) (by omega) (by omega)
  have e4 : mu_and (x : Int) 63 = ((x &&& 63 : Nat) : Int) := mn_and (b := 63) (by omega) (by omega)
  have m : ∀ y : Nat, y &&& 63 = y % 64 := fun y => Nat.and_two_pow_sub_one_eq_mod y 6
  rw [e1, e2, e3, e4, m, m]
  omega
section
variable {d : Nat} {G : mu_G} {I : mu_M} {Q : Int → mu_G → mu_M → Prop} {S T : Row} {L : List Int}
theorem c_book (hd : d < 900) (hG : GS G) (hX : CX G I S L) (hO : OkS S) (p n c : Int) (h : ∀ I1, FX I I1 → CX G I1 (bookS S p n c).2 L → Q (bookS S p n c).1 G I1) : mu_WP mu_code d 136 0 [(1, 0), (0, p), (0, n), (0, c)] [] G I Q := by
  obtain ⟨c1, c2, c3, c4, c5, c6, c7, c8⟩ := id hX
  obtain ⟨o1, o2, o3, o4, o5, o6, o7, o8, o9, o10, o11⟩ := id hO
  have h4 := o1.2.1
  have hwh := o1.wh
  have g1 := hG.2.1.2.2.1
  have gw := hG.2.2.2.1
  have r1 : rf G 0 2 = 5 := hG.1.2.2.2.1
  have r5 := hG.1.2.2.2.2.2.2.1
  unfold bookS at h
  refine vc_136_0 (by omega) _ _ _ _ ⟨fun h1 => ⟨hG.1.1, ?_⟩, fun h1 => ⟨hG.1.1, ?_⟩⟩
  · rw [if_pos h1] at h
    have h : ∀ I1, FX I I1 → CX G I1 (upR S 40 0) L → Q 0 G I1 := h
    rw [r1]
    refine ⟨g1.1, k_clear (by omega) (f := bkF (upR S 40 0)) g1 ?_⟩
    intro I1 f1 q1
    have hT : ∀ j, j ≠ 40 → upR S 40 0 j = S j := fun j hj => upR_ne _ hj
    refine h I1 (f1.fx (by omega)) (hX.rows o1 o2 (fun b hb => f1 b (by omega)) (fun j hj => hT j (by omega)) ?_ ?_ ?_ ?_ ?_)
    · exact RS.r (c := 100) (c4.keep (f1 _ (by omega)) (f1 _ (by omega))) (hT 41 (by omega)) o9.2 (fun j h0 h1 => hT j (by omega))
    · exact RS.r (c := 6) (c5.keep (f1 _ (by omega)) (f1 _ (by omega))) (hT 39 (by omega)) o7.2 (fun j h0 h1 => hT j (by omega))
    · exact q1.same (by rw [upR_same]) (fun k k0 k1 => rfl)
    · exact c7.keep (f1 _ (by omega)) (f1 _ (by omega))
    · rw [f1 0 (by omega), hT 38 (by omega)]; exact c8
  rw [if_neg h1] at h
  rw [r5]
  refine ⟨gw.1, k_isPerson (by omega) gw hX.1 o1 p ⟨fun h2 => ?_, fun h2 => ⟨hG.1.1, ?_⟩⟩⟩
  · rw [if_pos (fun hc => ifn h2 hc.1)] at h
    exact h I (FX.rf I) hX
  have hp := ifp h2
  rw [r5]
  refine ⟨gw.1, k_isCell (by omega) gw hX.1 o1 c ⟨fun h3 => ?_, fun h3 => c_isAhead (by omega) n ⟨fun h5 => ?_, fun h5 => ⟨hG.1.1, ?_⟩⟩⟩⟩
  · rw [if_pos (fun hc => ifn h3 hc.2)] at h
    exact h I (FX.rf I) hX
  · rw [if_neg (fun hc => hc ⟨hp, ifp h3⟩), if_pos (ifm h5)] at h
    exact h I (FX.rf I) hX
  have hc := ifp h3
  have hn := ifq h5
  rw [if_neg (fun hz => hz ⟨hp, hc⟩), if_neg (fun hz => hz hn)] at h
  rw [r1]
  refine ⟨g1.1, k_isFull (by omega) g1 c6 ⟨fun h3 => ?_, fun h3 => ?_⟩⟩
  · have hlt : S 40 < 8 := by
      by_cases hc : S 40 < 8
      · exact hc
      · rw [if_neg hc] at h3; omega
    rw [if_neg (by omega)] at h
    have h : ∀ I1, FX I I1 → CX G I1 (upR (upR (upR (upR S (79 + S 40) p) (87 + S 40) n) (95 + S 40) c) 40 (S 40 + 1)) L → Q (S 40 + 1) G I1 := h
    rw [r1]
    refine ⟨hG.1.1, g1.1, k_add (by omega) (by omega) g1 c6 ⟨o8.1, hlt, by omega⟩ _ ?_⟩
    intro I1 f1 q1
    rw [r1]
    refine ⟨hG.1.1, g1.1, ?_⟩
    rw [q1.1.1]
    rw [pk_is ⟨hp.1, by omega⟩ hn ⟨hc.1, by omega⟩] at q1
    have hT : ∀ j, j ≠ 40 → j ≠ 79 + S 40 → j ≠ 87 + S 40 → j ≠ 95 + S 40 → upR (upR (upR (upR S (79 + S 40) p) (87 + S 40) n) (95 + S 40) c) 40 (S 40 + 1) j = S j := fun j h1 h2 h3 h4 => by rw [upR_ne _ h1, upR_ne _ h4, upR_ne _ h3, upR_ne _ h2]
    refine h I1 (f1.fx (by omega)) (hX.rows o1 o2 (fun b hb => f1 b (by omega)) (fun j hj => hT j (by omega) (by omega) (by omega) (by omega)) ?_ ?_ ?_ ?_ ?_)
    · exact RS.r (c := 100) (c4.keep (f1 _ (by omega)) (f1 _ (by omega))) (hT 41 (by omega) (by omega) (by omega) (by omega)) o9.2 (fun j h0 h1 => hT j (by omega) (by omega) (by omega) (by omega))
    · exact RS.r (c := 6) (c5.keep (f1 _ (by omega)) (f1 _ (by omega))) (hT 39 (by omega) (by omega) (by omega) (by omega)) o7.2 (fun j h0 h1 => hT j (by omega) (by omega) (by omega) (by omega))
    · refine q1.same (by rw [upR_same]) (fun k k0 k1 => ?_)
      unfold bkF
      by_cases hk : k = S 40
      · rw [if_pos hk, hk]
        rw [upR_ne _ (show 79 + S 40 ≠ 40 by omega), upR_ne _ (show 79 + S 40 ≠ 95 + S 40 by omega), upR_ne _ (show 79 + S 40 ≠ 87 + S 40 by omega), upR_same, upR_ne _ (show 87 + S 40 ≠ 40 by omega), upR_ne _ (show 87 + S 40 ≠ 95 + S 40 by omega), upR_same, upR_ne _ (show 95 + S 40 ≠ 40 by omega), upR_same]
      · rw [if_neg hk, hT (79 + k) (by omega) (by omega) (by omega) (by omega), hT (87 + k) (by omega) (by omega) (by omega) (by omega), hT (95 + k) (by omega) (by omega) (by omega) (by omega)]
    · exact c7.keep (f1 _ (by omega)) (f1 _ (by omega))
    · rw [f1 0 (by omega), hT 38 (by omega) (by omega) (by omega) (by omega)]; exact c8
  · have hge : ¬ S 40 < 8 := by
      intro hc
      rw [if_pos hc] at h3
      exact h3 rfl
    rw [if_pos (by omega)] at h
    exact h I (FX.rf I) hX
theorem c_looked (hd : d < 870) (hG : GS G) (hX : CX G I S L) (hO : OkS S) (h : ∀ G1 I1, GS G1 → FXg G G1 I I1 → CX G1 I1 S L → Q (lookedS S) G1 I1) : mu_WP mu_code d 137 0 [(1, 0), (3, 0), (3, 0), (3, 0)] [] G I Q := by
  obtain ⟨o1, o2, o3, o4, o5, o6, o7, o8, o9, o10, o11⟩ := id hO
  have h4 := o1.2.1
  unfold lookedS at h
  refine vc_137_0 (by omega) _ ?_
  suffices H : ∀ (n : Nat) (k : Int) (y z : mu_V) (G2 : mu_G) (I2 : mu_M), k + n = 8 → 0 ≤ k → FT G G2 I I2 → GS G2 → CX G2 I2 S L → (∀ G1 I1, GS G1 → FXg G G1 I I1 → CX G1 I1 S L → Q (lkL S n k) G1 I1) → mu_WP mu_code d 137 2 [(1, 0), (0, k), y, z] [] G2 I2 Q from
    H 8 0 _ _ G I (by omega) (by omega) (FT.rf' G I) hG hX h
  clear h
  intro n
  induction n with
  | zero =>
    intro k y z G2 I2 hk k0 hf gs2 x2 hh
    have rs := x2.2.2.2.2.2.1
    refine vc_137_2 (by omega) _ _ _ _ ?_
    rw [gs2.1.2.2.2.1, rs.1.1]
    exact ⟨gs2.1.1, gs2.2.1.2.2.1.1, fun h1 => absurd h1 (by omega), fun _ => hh G2 I2 gs2 hf.g x2⟩
  | succ n ih =>
    intro k y z G2 I2 hk k0 hf gs2 x2 hh
    have rs := x2.2.2.2.2.2.1
    rw [lkL] at hh
    refine vc_137_2 (by omega) _ _ _ _ ?_
    rw [gs2.1.2.2.2.1, rs.1.1]
    refine ⟨gs2.1.1, gs2.2.1.2.2.1.1, fun h1 => k_itemAt (by omega) gs2.2.1.2.2.1 rs (by omega) k ?_, fun h1 => ?_⟩
    · obtain ⟨b1, b2, b3⟩ := o11 k k0 h1
      rw [if_pos h1] at hh
      rw [if_pos ⟨k0, h1⟩, show bkF S k = S (79 + k) * 4096 + S (87 + k) * 64 + S (95 + k) from rfl]
      obtain ⟨u1, u2, u3⟩ := pk_out b1 b2 b3
      rw [u1, u2, u3, gs2.1.2.2.2.2.2.2.1, gs2.1.2.2.2.2.2.2.2.1, wr_id (x := k + 1) (by omega) (by omega)]
      refine ⟨gs2.1.1, gs2.2.2.2.2.1.1, t_copy (by omega) gs2 x2 hO ?_⟩
      intro G3 I3 f3 x3
      have gs3 := x3.1
      have gt3 := gs3.2.2.2.2.1
      have w3 : WD S ((S (87 + k)).toNat + 0) := hO.wd.lo (by omega)
      have r63 : rf G3 0 6 = 47 := gs3.1.2.2.2.2.2.2.2.1
      rw [r63, show S (87 + k) = ((S (87 + k)).toNat : Int) by omega]
      refine ⟨gs3.1.1, gt3.1, k_goDays (by omega) gt3 (by omega) x3.2.2 (S (87 + k)).toNat (by omega) w3 ?_⟩
      intro I4 f4 c4
      have x4 := x3.to o1 f4 c4
      have w4 := goS_WD (S (87 + k)).toNat S 0 w3
      have e37 : goS (S (87 + k)).toNat S 37 = S 37 := goS_hi _ _ w3 37 (by omega)
      have ft : FT G G3 I I4 := (hf.tr f3).tr ⟨GK.rf' 47 G3, f4⟩
      rw [r63]
      refine ⟨gs3.1.1, gt3.1, k_personAt (by omega) gt3 c4 w4.1 (S (79 + k)) ?_⟩
      rw [e37]
      by_cases hp : 0 ≤ S (79 + k) ∧ S (79 + k) < S 37
      · rw [if_pos hp]
        have P := c4.2.2.2 (S (79 + k)) hp.1 (by rw [e37]; exact hp.2)
        have hon : onS S (S (79 + k)) (S (87 + k)) 0 = goS (S (87 + k)).toNat S (1 + S (79 + k)) := by
          unfold onS
          rw [if_neg (fun hc => hc ⟨hp, by omega⟩), if_neg (fun hc => hc b2), if_pos rfl]
        rw [hon] at hh
        rw [P.1.2.2.2.1]
        refine ⟨fun hc => absurd hc (by omega), fun _ => ⟨(gt3.p b1).2.1, fun h5 => ?_, fun h5 => ?_⟩⟩
        · rw [if_pos h5] at hh
          exact ih (k + 1) _ _ G3 I4 (by omega) (by omega) ft gs3 x4.2.1 hh
        · rw [if_neg h5] at hh
          exact hh G3 I4 gs3 ft.g x4.2.1
      · rw [if_neg hp]
        have hon : onS S (S (79 + k)) (S (87 + k)) 0 = -1 := by
          unfold onS
          rw [if_pos (fun hc => hp hc.1)]
        rw [hon, if_neg (by omega)] at hh
        exact ⟨fun _ => hh G3 I4 gs3 ft.g x4.2.1, fun hc => absurd rfl hc⟩
    · rw [if_neg h1] at hh
      exact hh G2 I2 gs2 hf.g x2
end

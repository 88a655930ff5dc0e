/-! THE CLASS'S CALLS: one more comes -/
/-- what a call leaves: the image, and all that is not the class's -/
def FXg (G G1 : mu_G) (I I1 : mu_M) : Prop := (∀ b, (b < 0 ∨ (78 ≤ b ∧ b < gz G)) → I1 b = I b) ∧ (∀ j, 12 ≤ j → I1 0 j = I 0 j) ∧ (∀ b, b < gz G → sh G1 b = sh G b) ∧ (∀ b j, 78 ≤ b → b < gz G → rf G1 b j = rf G b j) ∧ (gz G ≤ gz G1 ∧ gz G1 ≤ gz G + 1) ∧ gu G ≤ gu G1 ∧ gu G1 ≤ gu G + 1
theorem FX.g {G : mu_G} {I I1 : mu_M} (h : FX I I1) : FXg G G I I1 := ⟨fun b hb => h.1 b (by omega), h.2, fun _ _ => rfl, fun _ _ _ _ => rfl, by omega, by omega, by omega⟩
theorem FX.gk {G G1 : mu_G} {I I1 : mu_M} {w : Int} (h : FX I I1) (hk : GK w G G1) (hw : w = 16 ∨ w = 47) : FXg G G1 I I1 := ⟨fun b hb => h.1 b (by omega), h.2, fun b _ => hk.1 b, fun b j hb _ => hk.2.2.2 b j (by omega), by rw [hk.2.1]; omega, by rw [hk.2.2.1]; omega, by rw [hk.2.2.1]; omega⟩
/-- a world stays, where cells below gz stay -/
theorem CW.fxg {G G1 : mu_G} {I I1 : mu_M} {w : Int} {S : Row} (h : CW G I w S) (hI : Inv S) (hz : ∀ a, gz G ≤ a → sh G a = (-1, 0)) (hf : ∀ b, 0 ≤ b → b < gz G → (w ≤ b → b < w + 31 → False) ∨ I1 b = I b) (hw : 78 ≤ w ∧ w + 31 ≤ 115 ∧ 127 ≤ gz G) (hg : FXg G G1 I I1) : CW G1 I1 w S := by
  obtain ⟨⟨a1, a2, a3, a4, a5⟩, ⟨cls, hl, hA⟩, hn, hp⟩ := h
  have h4 := hI.2.1
  have ho : ∀ b, 78 ≤ b → b < gz G → I1 b = I b := fun b h0 h1 => hg.1 b (by omega)
  refine ⟨⟨by rw [ho _ (by omega) (by omega)]; exact a1, by rw [ho _ (by omega) (by omega)]; exact a2, by rw [ho _ (by omega) (by omega)]; exact a3, by rw [ho _ (by omega) (by omega)]; exact a4, fun e e0 e1 => by rw [ho _ (by omega) (by omega)]; exact a5 e e0 e1⟩, ⟨cls, hl, hA.keep (by rw [ho _ (by omega) (by omega)]) (fun b b0 b1 => ho b (by omega) (by omega))⟩, fun i i0 i1 => by rw [ho _ (by omega) (by omega)]; exact hn i i0 i1, ?_⟩
  intro i i0 i1
  obtain ⟨⟨p0, p2, p3, p4, p5, p6⟩, p7, p8, pk1, pk2, pk3⟩ := hp i i0 i1
  have hk : rf G (w + 11 + 5 * i) 1 < gz G := by
    by_cases hc : rf G (w + 11 + 5 * i) 1 < gz G
    · exact hc
    · have := hz (rf G (w + 11 + 5 * i) 1) (by omega)
      rw [pk2] at this
      have h0 := congrArg Prod.fst this
      have := kcl_nn (S (45 + i))
      simp only at h0
      omega
  have hr : rf G1 (w + 11 + 5 * i) 1 = rf G (w + 11 + 5 * i) 1 := hg.2.2.2.1 _ _ (by omega) (by omega)
  refine ⟨⟨by rw [ho _ (by omega) (by omega)]; exact p0, by rw [ho _ (by omega) (by omega)]; exact p2, by rw [ho _ (by omega) (by omega)]; exact p3, by rw [ho _ (by omega) (by omega)]; exact p4, by rw [ho _ (by omega) (by omega)]; exact p5, by rw [ho _ (by omega) (by omega)]; exact p6⟩, fun k k0 k1 => by rw [ho _ (by omega) (by omega)]; exact p7 k k0 k1, fun k k0 k1 => by rw [ho _ (by omega) (by omega), ho _ (by omega) (by omega)]; exact p8 k k0 k1, ?_⟩
  rw [hr]
  exact ⟨pk1, by rw [hg.2.2.1 _ hk]; exact pk2, by rw [ho _ (by omega) hk]; exact pk3⟩
theorem CI.fxg {G G1 : mu_G} {I I1 : mu_M} {M : Row} (h : CI G I M) (hG : GS G) (hI : Inv M) (hg : FXg G G1 I I1) : CI G1 I1 M := by
  obtain ⟨c1, c2, c3, c4, c5⟩ := h
  have hz := hG.2.2.2.2.2.2.2.2.2
  exact ⟨c1.fxg hI hz.2 (fun b h0 h1 => by
    by_cases hb : 78 ≤ b
    · exact Or.inr (hg.1 b (by omega))
    · exact Or.inl (fun h2 _ => by omega)) ⟨by omega, by omega, hz.1⟩ hg, c2.keep (hg.1 _ (by omega)) (hg.1 _ (by omega)), c3.keep (hg.1 _ (by omega)) (hg.1 _ (by omega)), c4.keep (hg.1 _ (by omega)) (hg.1 _ (by omega)), by rw [hg.2.1 12 (by omega)]; exact c5⟩
section
variable {d : Nat} {G : mu_G} {I : mu_M} {Q : Int → mu_G → mu_M → Prop} {S : Row} {L : List Int}
theorem k_settleP (hd : d < 980) {a K : Int} (hG : GP G a) (ha : 0 ≤ a) (v c x : Int) (h : ∀ I1 : mu_M, (∀ b, (b < a ∨ a + 5 ≤ b) → I1 b = I b) → I1 a 0 = I a 0 → (I1 a 2 = v ∧ I1 a 3 = c ∧ I1 a 4 = c ∧ I1 a 5 = x ∧ I1 a 6 = 0) → (∀ k, 0 ≤ k → k < 4 → I1 (a + 2) k = 0) → Q 0 (mu_grf G a 1 K) I1) : mu_WP mu_code d 23 0 [(1, a), (1, K), (0, v), (0, c), (0, x), (3, 0)] [] G I Q := by
  obtain ⟨a1, a2, a3, a4, a5, a6, a7⟩ := hG
  refine vc_23_0 (by omega) _ _ _ _ _ ⟨a1, ?_⟩
  intro G1 e1
  subst e1
  have s1 : ∀ b, sh (mu_grf G a 1 K) b = sh G b := fun b => sh_grf G a 1 K b
  have r1 : rf (mu_grf G a 1 K) a 7 = a + 2 := by rw [rf_grf, if_neg (by omega)]; exact a2
  refine ⟨by rw [s1]; exact a1, ?_⟩
  intro I4 q4 I7 q7 I9 q9 I11 q11 I13 q13
  have r13 : ∀ b j, I13 b j = if b = a ∧ j = 6 then 0 else if b = a ∧ j = 5 then x else if b = a ∧ j = 4 then c else if b = a ∧ j = 3 then c else if b = a ∧ j = 2 then v else I b j := fun b j => by rw [q13, q11, q9, q7, q4]; simp only [mu_set_at]
  clear q4 q7 q9 q11 q13
  suffices H : ∀ (n : Nat) (k : Int) (I2 : mu_M), k + n = 4 → 0 ≤ k → (∀ b, b ≠ a + 2 → I2 b = I13 b) → (∀ j, 0 ≤ j → j < k → I2 (a + 2) j = 0) → mu_WP mu_code d 23 34 [(1, a), (1, K), (0, v), (0, c), (0, x), (0, k)] [] (mu_grf G a 1 K) I2 Q from
    H 4 0 I13 (by omega) (by omega) (fun _ _ => rfl) (fun j h0 h1 => by omega)
  intro n
  induction n with
  | zero =>
    intro k I2 hk k0 hf hz
    refine vc_23_34 (by omega) _ _ _ _ _ _ ⟨fun h1 => absurd h1 (by omega), fun _ => ?_⟩
    have ha2 := hf a (by omega)
    refine h I2 ?_ ?_ ⟨?_, ?_, ?_, ?_, ?_⟩ (fun j j0 j1 => hz j j0 (by omega))
    · intro b hb
      rw [hf b (by omega)]
      funext j
      rw [r13 b j, if_neg (by omega), if_neg (by omega), if_neg (by omega), if_neg (by omega), if_neg (by omega)]
    · rw [ha2, r13 a 0, if_neg (by omega), if_neg (by omega), if_neg (by omega), if_neg (by omega), if_neg (by omega)]
    · rw [ha2, r13 a 2, if_neg (by omega), if_neg (by omega), if_neg (by omega), if_neg (by omega), if_pos ⟨rfl, rfl⟩]
    · rw [ha2, r13 a 3, if_neg (by omega), if_neg (by omega), if_neg (by omega), if_pos ⟨rfl, rfl⟩]
    · rw [ha2, r13 a 4, if_neg (by omega), if_neg (by omega), if_pos ⟨rfl, rfl⟩]
    · rw [ha2, r13 a 5, if_neg (by omega), if_pos ⟨rfl, rfl⟩]
    · rw [ha2, r13 a 6, if_pos ⟨rfl, rfl⟩]
  | succ n ih =>
    intro k I2 hk k0 hf hz
    refine vc_23_34 (by omega) _ _ _ _ _ _ ⟨fun _ => ?_, fun h1 => absurd (by omega) h1⟩
    rw [s1, r1, s1, a5, wr_id (x := k + 1) (by omega) (by omega)]
    refine ⟨a1, ⟨by omega, rfl, k0, by dsimp only; omega⟩, ?_⟩
    intro I3 q3
    refine ih (k + 1) I3 (by omega) (by omega) (fun b hb => by rw [q3, set_off _ hb]; exact hf b hb) ?_
    intro j j0 j1
    rw [q3, set_row, upR_at]
    by_cases hj : j = k
    · rw [if_pos hj]
    · rw [if_neg hj]; exact hz j j0 (by omega)
theorem c_person (hd : d < 900) (hG : GS G) (hX : CX G I S L) (hO : OkS S) (k v c x : Int) (h : ∀ G1 I1, GS G1 → FXg G G1 I I1 → CX G1 I1 (personS S k v c x).2 L → Q (personS S k v c x).1 G1 I1) : mu_WP mu_code d 106 0 [(1, 0), (0, k), (0, v), (0, c), (0, x)] [] G I Q := by
  have c1 := hX.1
  obtain ⟨o1, o2, o3, o4, o5, o6, o7, o8, o9, o10, o11⟩ := id hO
  have gw := hG.2.2.2.1
  have h4 := o1.2.1
  have hwh := o1.wh
  unfold personS at h
  have same : ∀ y, (∀ G1 I1, GS G1 → FXg G G1 I I1 → CX G1 I1 S L → Q y G1 I1) → Q y G I := fun y hy => hy G I hG (FX.rf I).g hX
  refine vc_106_0 (by omega) _ _ _ _ _ (c_isKind (by omega) k ⟨fun h1 => ?_, fun h1 => ⟨hG.1.1, ?_⟩⟩)
  · rw [if_pos (fun hc => ifm h1 hc.1)] at h
    exact same _ h
  have hk := ifq h1
  rw [hG.1.2.2.2.2.2.2.1]
  refine ⟨gw.1, k_isCell (by omega) gw c1 o1 c ⟨fun h2 => ?_, fun h2 => ?_⟩⟩
  · rw [if_pos (fun hc => ifn h2 hc.2)] at h
    exact same _ h
  have hc := ifp h2
  rw [if_neg (fun hn => hn ⟨hk, hc⟩)] at h
  have bad : ¬ ((0 ≤ v ∧ v ≤ 9) ∧ 0 ≤ x ∧ x ≤ 999) → Q (-2) G I := by
    intro hb
    rw [if_pos hb] at h
    exact same _ h
  refine ⟨fun h3 => bad (by omega), fun h3 => ⟨fun h5 => bad (by omega), fun h5 => ⟨fun h6 => bad (by omega), fun h6 => ⟨fun h7 => bad (by omega), fun h7 => ⟨hG.1.1, ?_⟩⟩⟩⟩⟩
  rw [if_neg (by omega)] at h
  rw [hG.1.2.2.2.2.2.2.1]
  by_cases hs : S (103 + c) = 1
  · rw [if_pos hs] at h
    exact ⟨gw.1, k_hasWall (by omega) gw c1 o1 c ⟨fun h8 => absurd h8 (by rw [if_pos ⟨hc, hs⟩]; decide), fun _ => same _ h⟩⟩
  rw [if_neg hs] at h
  refine ⟨gw.1, k_hasWall (by omega) gw c1 o1 c ⟨fun _ => ⟨hG.1.1, ?_⟩, fun h8 => absurd (by rw [if_neg (fun hh => hs hh.2)]) h8⟩⟩
  rw [hG.1.2.2.2.2.2.2.1, c1.1.2.2.1]
  by_cases hfull : S 37 = 4
  · rw [if_pos hfull] at h
    exact ⟨gw.1, fun h9 => absurd h9 (by omega), fun _ => same _ h⟩
  rw [if_neg hfull] at h
  refine ⟨gw.1, fun _ => ?_, fun h9 => absurd (by omega) h9⟩
  have h : ∀ G1 I1, GS G1 → FXg G G1 I I1 → CX G1 I1 (comeS S k v c x) L → Q (S 37) G1 I1 := h
  have gz7 := hG.2.2.2.2.2.2.2.2.2
  refine c_kindOf (by omega) hG k hk ?_
  intro I1 f1 e1
  have gs1 := hG.new (kcl k)
  have gw1 := gs1.2.2.2.1
  have w1 := c1.new o1 gz7.2 (by omega) gz7.1 (kcl k) f1
  have hp4 : 0 ≤ S 37 ∧ S 37 < 4 := by omega
  obtain ⟨g1, g2⟩ := gw1.p hp4
  refine ⟨gw1.1, vc_76_0 (by omega) _ _ _ _ _ ⟨gw1.1, ?_⟩⟩
  rw [w1.1.2.2.1, gw1.2.2.2.1, gw1.2.2.2.2.2.2.2.1, g1]
  refine ⟨fun hx => absurd hx (by omega), fun _ => ⟨fun _ => ⟨⟨rfl, hp4.1, by dsimp only; omega⟩, g2.1, ?_⟩, fun hx => absurd (by omega) hx⟩⟩
  generalize hpp : S 37 = p at *
  refine k_settleP (by omega) g2 (by omega) v c x ?_
  intro I2 f2 n2 e2 z2
  have gk : GK 16 (mu_gnew G (kcl k) 0 1) (mu_grf (mu_gnew G (kcl k) 0 1) (16 + 11 + 5 * p) 1 (gz G)) := ⟨fun b => sh_grf _ _ 1 _ b, rfl, rfl, fun b j hj => by rw [rf_grf, if_neg (by omega)]⟩
  have gs2 := gs1.k gk (Or.inl rfl)
  refine ⟨gs2.2.2.2.1.1, ?_⟩
  intro I3 q3
  have i5 : I2 16 5 = p := by rw [f2 16 (by omega), f1 16 (by omega), c1.1.2.2.1, hpp]
  rw [i5, wr_id (x := p + 1) (by omega) (by omega)] at q3
  have e35 : I3 16 5 = p + 1 := by rw [q3, set_row, upR_same]
  rw [e35, wr_id (x := p + 1 - 1) (by omega) (by omega), show p + 1 - 1 = p by omega]
  have hT : ∀ j, (j ≠ 45 + p ∧ j ≠ 49 + p ∧ j ≠ 53 + p ∧ j ≠ 1 + p ∧ j ≠ 5 + p ∧ j ≠ 9 + p ∧ (j < 57 + 4 * p ∨ 57 + 4 * p + 4 ≤ j) ∧ j ≠ 37) → comeS S k v c x j = S j := by
    intro j hj
    unfold comeS
    dsimp only
    rw [hpp, if_neg hj.1, if_neg hj.2.1, if_neg hj.2.2.1, if_neg hj.2.2.2.1, if_neg hj.2.2.2.2.1, if_neg hj.2.2.2.2.2.1, if_neg (by omega), if_neg hj.2.2.2.2.2.2.2]
  have tv : comeS S k v c x (45 + p) = k ∧ comeS S k v c x (49 + p) = v ∧ comeS S k v c x (53 + p) = c ∧ comeS S k v c x (1 + p) = c ∧ comeS S k v c x (5 + p) = x ∧ comeS S k v c x (9 + p) = 0 ∧ comeS S k v c x 37 = p + 1 ∧ ∀ m, 0 ≤ m → m < 4 → comeS S k v c x (57 + 4 * p + m) = 0 := by
    unfold comeS
    dsimp only
    rw [hpp]
    refine ⟨if_pos rfl, ?_, ?_, ?_, ?_, ?_, ?_, ?_⟩
    · rw [if_neg (by omega), if_pos rfl]
    · rw [if_neg (by omega), if_neg (by omega), if_pos rfl]
    · rw [if_neg (by omega), if_neg (by omega), if_neg (by omega), if_pos rfl]
    · rw [if_neg (by omega), if_neg (by omega), if_neg (by omega), if_neg (by omega), if_pos rfl]
    · rw [if_neg (by omega), if_neg (by omega), if_neg (by omega), if_neg (by omega), if_neg (by omega), if_pos rfl]
    · rw [if_neg (by omega), if_neg (by omega), if_neg (by omega), if_neg (by omega), if_neg (by omega), if_neg (by omega), if_neg (by omega), if_pos rfl]
    · intro m m0 m1
      rw [if_neg (by omega), if_neg (by omega), if_neg (by omega), if_neg (by omega), if_neg (by omega), if_neg (by omega), if_pos (by omega)]
  obtain ⟨t45, t49, t53, t1, t5, t9, t37, tw⟩ := tv
  generalize hTT : comeS S k v c x = T at *
  have ho : ∀ b, (b < 16 + 11 + 5 * p ∨ 16 + 11 + 5 * p + 5 ≤ b) → b ≠ 16 → b ≠ gz G → I3 b = I b := fun b h1 h2 h3 => by rw [q3, set_off _ h2, f2 b h1, f1 b h3]
  have hoP : ∀ b, b ≠ 16 → I3 b = I2 b := fun b h2 => by rw [q3, set_off _ h2]
  have o16 : ∀ j, j ≠ 5 → I3 16 j = I 16 j := fun j hj => by rw [q3, set_row, upR_ne _ hj, f2 16 (by omega), f1 16 (by omega)]
  refine h _ I3 gs2 ⟨fun b hb => ho b (by omega) (by omega) (by omega), fun j _ => by rw [ho 0 (by omega) (by omega) (by omega)], fun b hb => by rw [sh_grf, sh_gnew, if_neg (by omega)], fun b j h0 h1 => by rw [rf_grf, if_neg (by omega), rf_gnew, if_neg (by omega)], ?_, ?_, ?_⟩ ?_
  · rw [gz_grf, gz_gnew]; omega
  · rw [gu_grf, gu_gnew]; omega
  · rw [gu_grf, gu_gnew]; omega
  · obtain ⟨z1, z2', z3, z4, z5, z6, z7, z8⟩ := hX
    have hl127 := gz7.1
    refine ⟨⟨⟨?_, ?_, ?_, ?_, ?_⟩, ?_, ?_, ?_⟩, ?_, ?_, ?_, ?_, ?_, ?_, ?_⟩
    · rw [o16 1 (by omega), hT 43 (by omega)]; exact c1.1.1
    · rw [o16 2 (by omega), hT 44 (by omega)]; exact c1.1.2.1
    · rw [e35, t37]
    · rw [o16 6 (by omega), hT 0 (by omega)]; exact c1.1.2.2.2.1
    · intro e e0 e64
      rw [ho (16 + 8) (by omega) (by omega) (by omega), hT _ (by omega)]; exact c1.1.2.2.2.2 e e0 e64
    · obtain ⟨cls, hl, hA⟩ := c1.2.1
      exact ⟨cls, hl.hi o2 (fun j hj => hT j (by omega)), hA.keep (by rw [ho _ (by omega) (by omega) (by omega)]) (fun b b0 b1 => ho b (by omega) (by omega) (by omega))⟩
    · intro i i0 i1
      by_cases hip : i = p
      · rw [hip, hoP _ (by omega), n2, f1 _ (by omega)]; exact c1.2.2.1 p hp4.1 hp4.2
      · rw [ho _ (by omega) (by omega) (by omega)]; exact c1.2.2.1 i i0 i1
    · intro i i0 i1
      rw [t37] at i1
      by_cases hip : i = p
      · subst hip
        have hr : rf (mu_grf (mu_gnew G (kcl k) 0 1) (16 + 11 + 5 * i) 1 (gz G)) (16 + 11 + 5 * i) 1 = gz G := by rw [rf_grf, if_pos ⟨rfl, rfl⟩]
        refine ⟨⟨?_, ?_, ?_, ?_, ?_, ?_⟩, ?_, ?_, ?_⟩
        · rw [hoP _ (by omega), n2, f1 _ (by omega)]; exact c1.2.2.1 i hp4.1 hp4.2
        · rw [hoP _ (by omega), t49]; exact e2.1
        · rw [hoP _ (by omega), t53]; exact e2.2.1
        · rw [hoP _ (by omega), t1]; exact e2.2.2.1
        · rw [hoP _ (by omega), t5]; exact e2.2.2.2.1
        · rw [hoP _ (by omega), t9]; exact e2.2.2.2.2
        · intro m m0 m1
          rw [hoP _ (by omega), tw m m0 m1]; exact z2 m m0 m1
        · intro m m0 m1
          rw [t9] at m1
          omega
        · rw [hr, t45]
          exact ⟨gz7.1, by rw [sh_grf, sh_gnew, if_pos rfl], by rw [hoP _ (by omega), f2 _ (by omega)]; exact e1⟩
      · have P := w1.2.2.2 i i0 (by omega)
        have h9 := (o1.2.2.2.2.1 i i0 (by omega)).2.2.1.2
        refine P.keep h9 ?_ ?_ ?_ ?_ ?_ (fun b => sh_grf _ _ 1 _ b) (by rw [rf_grf, if_neg (by omega)]) ⟨hT _ (by omega), hT _ (by omega), hT _ (by omega), hT _ (by omega), hT _ (by omega), hT _ (by omega), fun m m0 m1 => hT _ (by omega), fun m m0 m1 => ⟨hT _ (by omega), hT _ (by omega)⟩⟩
        · intro j _; rw [hoP _ (by omega), f2 _ (by omega)]
        · intro j _ _; rw [hoP _ (by omega), f2 _ (by omega)]
        · intro j _ _; rw [hoP _ (by omega), f2 _ (by omega)]
        · intro j _ _; rw [hoP _ (by omega), f2 _ (by omega)]
        · intro b hb; rw [hoP _ (by omega), f2 _ (by omega)]
    · intro i i0 i1
      rw [ho _ (by omega) (by omega) (by omega)]; exact z2' i i0 i1
    · intro i i0 i1
      rw [ho _ (by omega) (by omega) (by omega)]; exact z3 i i0 i1
    · exact RS.r (c := 100) (z4.keep (ho _ (by omega) (by omega) (by omega)) (ho _ (by omega) (by omega) (by omega))) (hT 41 (by omega)) o9.2 (fun j h0 h1 => hT j (by omega))
    · exact RS.r (c := 6) (z5.keep (ho _ (by omega) (by omega) (by omega)) (ho _ (by omega) (by omega) (by omega))) (hT 39 (by omega)) o7.2 (fun j h0 h1 => hT j (by omega))
    · exact RS.b (z6.keep (ho _ (by omega) (by omega) (by omega)) (ho _ (by omega) (by omega) (by omega))) (hT 40 (by omega)) o8.2 (fun j h0 h1 => hT j (by omega))
    · exact z7.keep (ho _ (by omega) (by omega) (by omega)) (ho _ (by omega) (by omega) (by omega))
    · rw [ho 0 (by omega) (by omega) (by omega), hT 38 (by omega)]; exact z8
end

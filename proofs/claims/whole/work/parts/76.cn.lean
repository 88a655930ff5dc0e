/-! THE CLASS'S CALLS: debts, people -/
theorem GS.new {G : mu_G} (h : GS G) (c : Int) : GS (mu_gnew G c 0 1) := by
  obtain ⟨⟨a0, a1, a2, a3, a4, a5, a6, a7, a8, a9, a10, a11⟩, ⟨b1, b2, b3, b4⟩, c1, c2, c3, ⟨d1, d2, d3⟩, c4, m, o1, o2, o3⟩ := h
  have s : ∀ b, b < 127 → sh (mu_gnew G c 0 1) b = sh G b := fun b hb => by rw [sh_gnew, if_neg (by omega)]
  have r : ∀ b j, b < 127 → rf (mu_gnew G c 0 1) b j = rf G b j := fun b j hb => by rw [rf_gnew, if_neg (by omega)]
  have go : ∀ a n, a < 100 → GO G a n → GO (mu_gnew G c 0 1) a n := fun a n ha hg => ⟨by rw [s _ (by omega)]; exact hg.1, by rw [r _ _ (by omega)]; exact hg.2.1, by rw [s _ (by omega)]; exact hg.2.2⟩
  have kg : KG G (mu_gnew G c 0 1) 127 := fun b hb => ⟨s b hb, fun j => r b j hb⟩
  refine ⟨⟨by rw [s _ (by omega)]; exact a0, by rw [r _ _ (by omega)]; exact a1, by rw [r _ _ (by omega)]; exact a2, by rw [r _ _ (by omega)]; exact a3, by rw [r _ _ (by omega)]; exact a4, by rw [r _ _ (by omega)]; exact a5, by rw [r _ _ (by omega)]; exact a6, by rw [r _ _ (by omega)]; exact a7, by rw [r _ _ (by omega)]; exact a8, by rw [r _ _ (by omega)]; exact a9, by rw [r _ _ (by omega)]; exact a10, by rw [r _ _ (by omega)]; exact a11⟩, ⟨go _ _ (by omega) b1, go _ _ (by omega) b2, go _ _ (by omega) b3, go _ _ (by omega) b4⟩, c1.keep kg (by omega), c2.keep kg (by omega), c3.keep kg (by omega), ⟨go _ _ (by omega) d1, go _ _ (by omega) d2, go _ _ (by omega) d3⟩, c4.keep kg (by omega), ?_, by rw [s _ (by omega)]; exact o1, by rw [gz_gnew]; omega, ?_⟩
  · have r2 : ∀ j, rf (mu_gnew G c 0 1) 115 j = rf G 115 j := fun j => r 115 j (by omega)
    have s2 : ∀ b, (115 ≤ b ∧ b < 127) → sh (mu_gnew G c 0 1) b = sh G b := fun b hb => s b hb.2
    unfold MR at m ⊢
    rw [s2 115 (by omega), s2 116 (by omega), s2 117 (by omega), s2 118 (by omega), s2 119 (by omega), s2 120 (by omega), s2 121 (by omega), s2 122 (by omega), s2 123 (by omega), s2 124 (by omega), s2 125 (by omega), s2 126 (by omega)]
    simp only [r2]
    exact m
  · intro a ha
    rw [gz_gnew] at ha
    rw [sh_gnew, if_neg (by omega)]
    exact o3 a (by omega)
theorem kcl_nn (n : Int) : 0 ≤ kcl n := by unfold kcl; repeat' split
                                           all_goals omega
/-- a world beside which a new cell is made -/
theorem CW.new {G : mu_G} {I I1 : mu_M} {w : Int} {S : Row} (h : CW G I w S) (hI : Inv S) (hz : ∀ a, gz G ≤ a → sh G a = (-1, 0)) (hw : w + 31 ≤ 115) (h7 : 127 ≤ gz G) (c : Int) (hf : ∀ b, b ≠ gz G → I1 b = I b) : CW (mu_gnew G c 0 1) I1 w S := by
  obtain ⟨⟨a1, a2, a3, a4, a5⟩, ⟨cls, hl, hA⟩, hn, hp⟩ := h
  have h4 := hI.2.1
  refine ⟨⟨by rw [hf _ (by omega)]; exact a1, by rw [hf _ (by omega)]; exact a2, by rw [hf _ (by omega)]; exact a3, by rw [hf _ (by omega)]; exact a4, fun e e0 e1 => by rw [hf _ (by omega)]; exact a5 e e0 e1⟩, ⟨cls, hl, hA.keep (by rw [hf _ (by omega)]) (fun b b0 b1 => hf b (by omega))⟩, fun i i0 i1 => by rw [hf _ (by omega)]; exact hn i i0 i1, ?_⟩
  intro i i0 i1
  obtain ⟨⟨p0, p2, p3, p4, p5, p6⟩, p7, p8, pk1, pk2, pk3⟩ := hp i i0 i1
  have hk : rf G (w + 11 + 5 * i) 1 ≠ gz G := by
    intro he
    have := hz _ (Int.le_of_eq he.symm)
    rw [pk2] at this
    have h0 := congrArg Prod.fst this
    have := kcl_nn (S (45 + i))
    simp only at h0
    omega
  have hr : rf (mu_gnew G c 0 1) (w + 11 + 5 * i) 1 = rf G (w + 11 + 5 * i) 1 := by rw [rf_gnew, if_neg (by omega)]
  refine ⟨⟨by rw [hf _ (by omega)]; exact p0, by rw [hf _ (by omega)]; exact p2, by rw [hf _ (by omega)]; exact p3, by rw [hf _ (by omega)]; exact p4, by rw [hf _ (by omega)]; exact p5, by rw [hf _ (by omega)]; exact p6⟩, fun k k0 k1 => by rw [hf _ (by omega)]; exact p7 k k0 k1, fun k k0 k1 => by rw [hf _ (by omega), hf _ (by omega)]; exact p8 k k0 k1, ?_⟩
  rw [hr]
  exact ⟨pk1, by rw [sh_gnew, if_neg hk]; exact pk2, by rw [hf _ hk]; exact pk3⟩
section
variable {d : Nat} {G : mu_G} {I : mu_M} {Q : Int → mu_G → mu_M → Prop} {S : Row} {L : List Int}
theorem k_oweBehind (hd : d < 960) {a i : Int} (hG : GP G a) (hP : PE G I a S i) (hi : 0 ≤ i ∧ i < 4) (ha : 0 ≤ a ∧ a + 5 ≤ 115) (h9 : 0 ≤ S (9 + i) ∧ S (9 + i) ≤ 3) (q x : Int) (hx : 0 ≤ x) (hr : debtTo S i q = -1 → S (9 + i) ≤ 2) (h : ∀ I1, FP1 a I I1 → PE G I1 a (oweR S i q x) i → Q 0 G I1) : mu_WP mu_code d 28 0 [(1, a), (0, q), (0, x), (3, 0)] [] G I Q := by
  unfold oweR at h
  refine vc_28_0 (by omega) _ _ _ ⟨hG.1, k_placeOfDebt (by omega) hG hP h9.2 q ⟨fun h1 => ?_, fun h1 => ?_⟩⟩
  · have hn : debtTo S i q = -1 := by
      by_cases hc : debtTo S i q = -1
      · exact hc
      · have := (dT_some 3 0 (by omega) hc).1
        change 0 ≤ debtTo S i q at this
        omega
    rw [if_pos hn] at h
    refine ⟨fun h2 => ⟨hG.1, ?_⟩, fun h2 => ?_⟩
    · rw [if_pos h2] at h
      rw [hP.1.2.2.2.2.2]
      exact k_insertDebt (by omega) hG hP hi ha ⟨h9.1, hr hn⟩ _ ⟨h9.1, Int.le_refl _⟩ q x (fun I1 f1 p1 => h I1 f1 p1)
    · rw [if_neg h2] at h
      exact h I (FP1.rf a I) hP
  · have hn : debtTo S i q ≠ -1 := by omega
    rw [if_neg hn] at h
    obtain ⟨a1, a2, a3, a4⟩ := dT_some 3 0 (by omega) hn
    change 0 ≤ debtTo S i q at a1
    change debtTo S i q < S (9 + i) at a3
    refine ⟨fun h2 => ⟨hG.1, ?_⟩, fun h2 => ⟨hG.1, ?_⟩⟩
    · rw [if_neg (by omega)] at h
      exact k_setSum (by omega) hG hP hi ha h9.2 _ _ ⟨a1, a3⟩ (fun I1 f1 p1 => h I1 f1 p1)
    · rw [if_pos (by omega)] at h
      exact k_dropDebt (by omega) hG hP hi ha h9.2 _ ⟨a1, a3⟩ (fun I1 f1 p1 => h I1 f1 p1)
theorem oweR_off {S : Row} {p q x j : Int} (hp : 0 ≤ p ∧ p < 4) (h9 : 0 ≤ S (9 + p) ∧ S (9 + p) ≤ 3) (hr : debtTo S p q = -1 → S (9 + p) ≤ 2) (hj : j ≠ 9 + p ∧ (j < 13 + 3 * p ∨ 13 + 3 * p + 3 ≤ j) ∧ (j < 25 + 3 * p ∨ 25 + 3 * p + 3 ≤ j)) : oweR S p q x j = S j := by
  unfold oweR
  by_cases hn : debtTo S p q = -1
  · rw [if_pos hn]
    split
    · exact ptS_off hp ⟨h9.1, hr hn⟩ (hr hn) hj.1 hj.2.1 hj.2.2
    · rfl
  · rw [if_neg hn]
    obtain ⟨a1, a2, a3, a4⟩ := dT_some 3 0 (by omega) hn
    change 0 ≤ debtTo S p q at a1
    change debtTo S p q < S (9 + p) at a3
    split
    · exact tkS_off hp a1 h9.2 hj.1 hj.2.1 hj.2.2
    · exact upR_ne _ (by omega)
theorem c_owe (hd : d < 900) (hG : GS G) (hX : CX G I S L) (hO : OkS S) (p q x : Int) (h : ∀ I1, FX I I1 → CX G I1 (oweS S p q x).2 L → Q (oweS S p q x).1 G I1) : mu_WP mu_code d 110 0 [(1, 0), (0, p), (0, q), (0, x), (3, 0)] [] G I Q := by
  have c1 := hX.1
  obtain ⟨o1, o2, o3, o4, o5, o6, o7, o8, o9, o10, o11⟩ := id hO
  have gw := hG.2.2.2.1
  have h4 := o1.2.1
  unfold oweS at h
  refine vc_110_0 (by omega) _ _ _ _ ?_
  rw [hG.1.2.2.2.2.2.2.1]
  refine ⟨hG.1.1, gw.1, k_personAt (by omega) gw c1 o1 p ?_⟩
  by_cases hp : 0 ≤ p ∧ p < S 37
  · rw [if_pos hp, hG.1.2.2.2.2.2.2.1]
    obtain ⟨j1, j2, j3, j4, j5, j6, j7, j8⟩ := o1.2.2.2.2.1 p hp.1 hp.2
    have hp4 : 0 ≤ p ∧ p < 4 := by omega
    obtain ⟨g1, g2⟩ := gw.p hp4
    have hP := c1.2.2.2 p hp.1 hp.2
    refine ⟨fun hc => absurd hc (by omega), fun _ => ⟨hG.1.1, gw.1, k_isPerson (by omega) gw c1 o1 q ⟨fun h1 => ?_, fun h1 => ?_⟩⟩⟩
    · rw [if_pos (fun hc => ifn h1 hc.2)] at h
      exact h I (FX.rf I) hX
    have hq := ifp h1
    rw [if_neg (fun hc => hc ⟨hp, hq⟩)] at h
    have bad : (p = q ∨ ¬ (0 ≤ x ∧ x ≤ 99)) → Q (-2) G I := by
      intro hb
      rw [if_pos hb] at h
      exact h I (FX.rf I) hX
    refine ⟨fun h2 => bad (Or.inl h2), fun h2 => ⟨fun h3 => bad (Or.inr (by omega)), fun h3 => ⟨fun h5 => bad (Or.inr (by omega)), fun h5 => ⟨g2.1, ?_⟩⟩⟩⟩
    rw [if_neg (by omega)] at h
    have h : ∀ I1, FX I I1 → CX G I1 (oweR S p q x) L → Q (oweR S p q x (9 + p)) G I1 := h
    have hr := room o1 o3 hp hq (fun e => h2 e.symm)
    have off : ∀ j, (j ≠ 9 + p ∧ (j < 13 + 3 * p ∨ 13 + 3 * p + 3 ≤ j) ∧ (j < 25 + 3 * p ∨ 25 + 3 * p + 3 ≤ j)) → oweR S p q x j = S j := fun j hj => oweR_off hp4 j3 hr hj
    refine k_oweBehind (by omega) g2 hP hp4 (by omega) j3 q x (by omega) hr ?_
    intro I1 f1 p1
    rw [p1.1.2.2.2.2.2]
    refine ⟨g2.1, h I1 ((f1.fw hp4).fx (Or.inl rfl)) (hX.world hO (f1.fw hp4) ?_ (fun j hj => off j (by omega)))⟩
    refine c1.one o1 o2 (by omega) hp f1 p1 (off 0 (by omega)) (fun j hj => off j (by omega)) ?_
    intro r r0 r1 hrp
    exact ⟨off _ (by omega), off _ (by omega), off _ (by omega), fun k k0 k1 => ⟨off _ (by omega), off _ (by omega)⟩⟩
  · rw [if_neg hp]
    rw [if_pos (fun hc => hp hc.1)] at h
    exact ⟨fun _ => h I (FX.rf I) hX, fun hn => absurd rfl hn⟩
/-- a new one of a kind -/
theorem c_kindOf (hd : d < 960) (hG : GS G) (x : Int) (hx : 0 ≤ x ∧ x ≤ 6) (h : ∀ I1 : mu_M, (∀ b, b ≠ gz G → I1 b = I b) → I1 (gz G) 0 = x → Q (gz G) (mu_gnew G (kcl x) 0 1) I1) : mu_WP mu_code d 108 0 [(0, x)] [] G I Q := by
  have o2 := hG.2.2.2.2.2.2.2.2.2.1
  have s : ∀ c, sh (mu_gnew G c 0 1) (gz G) = (c, 0) := fun c => by rw [sh_gnew, if_pos rfl]
  have wal : ∀ (dd : Nat) (c : Int) (Q1 : Int → mu_G → mu_M → Prop) (I3 : mu_M), dd < 990 → kcl x = c → mu_wk (c, 0) → I3 = mu_inew G I → (∀ I1 : mu_M, (∀ b, b ≠ gz G → I1 b = I b) → I1 (gz G) 0 = x → Q1 0 (mu_gnew G c 0 1) I1) → mu_WP mu_code dd 62 0 [(1, gz G), (0, x)] [] (mu_gnew G c 0 1) I3 Q1 := by
    intro dd c Q1 I3 hdd hc hwk e3 hq
    refine n_Walker (by omega) (by omega) (by rw [s]; exact hwk) ?_
    subst e3
    refine hq _ (fun b hb => ?_) ?_
    · funext j
      rw [mu_set_at, if_neg (fun hh => hb hh.1), mu_inew_at, if_neg hb]
    · rw [mu_set_at, if_pos ⟨rfl, rfl⟩]
  refine vc_108_0 (by omega) _ ?_
  have hk : x = 0 ∨ x = 1 ∨ x = 2 ∨ x = 3 ∨ x = 4 ∨ x = 5 ∨ x = 6 := by omega
  rcases hk with hk | hk | hk | hk | hk | hk | hk
  · refine ⟨fun hc => absurd hc (by omega), fun _ => ⟨fun hc => absurd hc (by omega), fun _ => ⟨fun hc => absurd hc (by omega), fun _ => ⟨fun hc => absurd hc (by omega), fun _ => ⟨fun hc => absurd hc (by omega), fun _ => ⟨fun hc => absurd hc (by omega), fun _ => ?_⟩⟩⟩⟩⟩⟩
    intro G2 e2 I3 e3
    subst e2
    have hkc : kcl x = 9 := by rw [hk]; rfl
    rw [hkc] at h
    exact ⟨s 9, wal _ 9 (fun _ G6 I7 => Q (gz G) G6 I7) I3 (by omega) hkc (by unfold mu_wk; simp) e3 h⟩
  · refine ⟨fun _ => ?_, fun hc => absurd hk hc⟩
    intro G2 e2 I3 e3
    subst e2
    have hkc : kcl x = 7 := by rw [hk]; rfl
    rw [hkc] at h
    refine ⟨s 7, vc_56_0 (by omega) _ _ ⟨fun hc => absurd hc (by rw [s]; decide), fun _ => ⟨s 7, ?_⟩⟩⟩
    exact wal _ 7 (fun _ G6 I7 => Q (gz G) G6 I7) I3 (by omega) hkc (by unfold mu_wk; simp) e3 h
  · refine ⟨fun hc => absurd hc (by omega), fun _ => ⟨fun _ => ?_, fun hc => absurd hk hc⟩⟩
    intro G2 e2 I3 e3
    subst e2
    have hkc : kcl x = 6 := by rw [hk]; rfl
    rw [hkc] at h
    refine ⟨s 6, vc_53_0 (by omega) _ _ ⟨fun hc => absurd hc (by rw [s]; decide), fun _ => ⟨s 6, ?_⟩⟩⟩
    exact wal _ 6 (fun _ G6 I7 => Q (gz G) G6 I7) I3 (by omega) hkc (by unfold mu_wk; simp) e3 h
  · refine ⟨fun hc => absurd hc (by omega), fun _ => ⟨fun hc => absurd hc (by omega), fun _ => ⟨fun _ => ?_, fun hc => absurd hk hc⟩⟩⟩
    intro G2 e2 I3 e3
    subst e2
    have hkc : kcl x = 0 := by rw [hk]; rfl
    rw [hkc] at h
    refine ⟨s 0, vc_1_0 (by omega) _ _ ⟨fun _ => ?_, fun hc => absurd (s 0) hc⟩⟩
    exact wal _ 0 (fun _ G6 I7 => Q (gz G) G6 I7) I3 (by omega) hkc (by unfold mu_wk; simp) e3 h
  · refine ⟨fun hc => absurd hc (by omega), fun _ => ⟨fun hc => absurd hc (by omega), fun _ => ⟨fun hc => absurd hc (by omega), fun _ => ⟨fun _ => ?_, fun hc => absurd hk hc⟩⟩⟩⟩
    intro G2 e2 I3 e3
    subst e2
    have hkc : kcl x = 4 := by rw [hk]; rfl
    rw [hkc] at h
    refine ⟨s 4, vc_44_0 (by omega) _ _ ⟨s 4, vc_56_0 (by omega) _ _ ⟨fun _ => ?_, fun hc => absurd (s 4) hc⟩⟩⟩
    exact wal _ 4 (fun _ G6 I7 => Q (gz G) G6 I7) I3 (by omega) hkc (by unfold mu_wk; simp) e3 h
  · refine ⟨fun hc => absurd hc (by omega), fun _ => ⟨fun hc => absurd hc (by omega), fun _ => ⟨fun hc => absurd hc (by omega), fun _ => ⟨fun hc => absurd hc (by omega), fun _ => ⟨fun _ => ?_, fun hc => absurd hk hc⟩⟩⟩⟩⟩
    intro G2 e2 I3 e3
    subst e2
    have hkc : kcl x = 3 := by rw [hk]; rfl
    rw [hkc] at h
    refine ⟨s 3, vc_41_0 (by omega) _ _ ⟨s 3, vc_53_0 (by omega) _ _ ⟨fun _ => ?_, fun hc => absurd (s 3) hc⟩⟩⟩
    exact wal _ 3 (fun _ G6 I7 => Q (gz G) G6 I7) I3 (by omega) hkc (by unfold mu_wk; simp) e3 h
  · refine ⟨fun hc => absurd hc (by omega), fun _ => ⟨fun hc => absurd hc (by omega), fun _ => ⟨fun hc => absurd hc (by omega), fun _ => ⟨fun hc => absurd hc (by omega), fun _ => ⟨fun hc => absurd hc (by omega), fun _ => ⟨fun _ => ?_, fun hc => absurd hk hc⟩⟩⟩⟩⟩⟩
    intro G2 e2 I3 e3
    subst e2
    have hkc : kcl x = 8 := by rw [hk]; rfl
    rw [hkc] at h
    refine ⟨s 8, vc_59_0 (by omega) _ _ ⟨s 8, vc_1_0 (by omega) _ _ ⟨fun hc => absurd hc (by rw [s]; decide), fun _ => ⟨s 8, ?_⟩⟩⟩⟩
    exact wal _ 8 (fun _ G6 I7 => Q (gz G) G6 I7) I3 (by omega) hkc (by unfold mu_wk; simp) e3 h
end

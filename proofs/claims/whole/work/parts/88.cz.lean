/-! THE CLASS'S CALLS: image, undo -/
/-- all but the class's own cells -/
def FXi (G G1 : mu_G) (I I1 : mu_M) : Prop := (∀ b, (b < 0 ∨ 115 ≤ b) → I1 b = I b) ∧ (∀ b, sh G1 b = sh G b) ∧ (∀ b j, 115 ≤ b → rf G1 b j = rf G b j) ∧ gz G1 = gz G ∧ gu G1 = gu G
theorem codes_in {S T : Row} : ∀ (n : Nat) (a : Int), (∀ j, a ≤ j → j < a + n → S j = T j) → codes S a n = codes T a n
  | 0, _, _ => rfl
  | n + 1, a, h => by rw [codes, codes, h a (by omega) (by omega), codes_in n (a + 1) (fun j h1 h2 => h j (by omega) (by omega))]
theorem textS_in {S T : Row} (hL : LW S) (hT : ∀ j, 0 ≤ j → j < 977 → T j = S j) : textS T = textS S ∧ manyS T = manyS S ∧ tellS T 267 = tellS S 267 := by
  obtain ⟨l1, l2, l3⟩ := hL
  have e42 := hT 42 (by omega) (by omega)
  have em : manyS T = manyS S := by
    unfold manyS
    rw [e42]
    split
    · rfl
    · rw [hT _ (by omega) (by omega)]
  refine ⟨?_, em, ?_⟩
  · by_cases h1 : S 42 = -1
    · unfold textS
      rw [em]
      unfold manyS
      rw [if_pos h1]
      rfl
    · unfold textS
      rw [e42, em]
      exact codes_in _ _ (fun j h2 h3 => hT j (by omega) (by omega))
  · unfold tellS
    rw [e42]
    split
    · rfl
    · rw [hT _ (by omega) (by omega)]
theorem CW.congr {G : mu_G} {I : mu_M} {w : Int} {S T : Row} (h : CW G I w S) (hI : Inv S) (hL : LW S) (hT : ∀ j, 0 ≤ j → j < 977 → T j = S j) : CW G I w T := by
  obtain ⟨⟨a1, a2, a3, a4, a5⟩, ⟨cls, ⟨hl1, hl2⟩, hA⟩, hn, hp⟩ := h
  obtain ⟨t1, t2, t3⟩ := textS_in hL hT
  have h4 := hI.2.1
  refine ⟨⟨by rw [hT 43 (by omega) (by omega)]; exact a1, by rw [hT 44 (by omega) (by omega)]; exact a2, by rw [hT 37 (by omega) (by omega)]; exact a3, by rw [hT 0 (by omega) (by omega)]; exact a4, fun c c0 c1 => by rw [hT _ (by omega) (by omega)]; exact a5 c c0 c1⟩, ⟨cls, ⟨by rw [t1]; exact hl1, by rw [t3]; exact hl2⟩, hA⟩, hn, ?_⟩
  intro i i0 i1
  rw [hT 37 (by omega) (by omega)] at i1
  have h9 := (hI.2.2.2.2.1 i i0 i1).2.2.1.2
  exact (hp i i0 i1).keep h9 (fun _ _ => rfl) (fun _ _ _ => rfl) (fun _ _ _ => rfl) (fun _ _ _ => rfl) (fun _ _ => rfl) (fun _ => rfl) rfl ⟨hT _ (by omega) (by omega), hT _ (by omega) (by omega), hT _ (by omega) (by omega), hT _ (by omega) (by omega), hT _ (by omega) (by omega), hT _ (by omega) (by omega), fun k k0 k1 => hT _ (by omega) (by omega), fun k k0 k1 => ⟨hT _ (by omega) (by omega), hT _ (by omega) (by omega)⟩⟩
section
variable {d : Nat} {G : mu_G} {I : mu_M} {Q : Int → mu_G → mu_M → Prop} {S M T : Row} {L : List Int}
theorem c_image (hd : d < 900) (hG : GS G) (hX : CX G I S L) (hO : OkS S) (h : ∀ G1 I1, GS G1 → FXi G G1 I I1 → CX G1 I1 S L → CI G1 I1 S → I1 0 13 = 1 → Q (S 37) G1 I1) : mu_WP mu_code d 142 0 [(1, 0)] [] G I Q := by
  obtain ⟨c1, c2, c3, c4, c5, c6, c7, c8⟩ := id hX
  obtain ⟨o1, o2, o3, o4, o5, o6, o7, o8, o9, o10, o11⟩ := id hO
  have h4 := o1.2.1
  have gw := hG.2.2.2.1
  obtain ⟨g78, g80, g82⟩ := hG.2.2.2.2.2.1
  have g84 := hG.2.2.2.2.2.2.1
  refine vc_142_0 (by omega) _ ?_
  rw [hG.1.2.2.2.2.2.2.2.2.1, hG.1.2.1]
  refine ⟨hG.1.1, g78.1, k_rowsCopy (by omega) (by omega) (by omega) (by omega) g78 hG.2.1.1 c4 (by omega) ?_⟩
  intro I1 f1 r1
  rw [hG.1.2.2.2.2.2.2.2.2.2.1, hG.1.2.2.1]
  refine ⟨hG.1.1, g80.1, k_rowsCopy (by omega) (by omega) (by omega) (by omega) g80 hG.2.1.2.1 (c5.keep (f1 _ (by omega)) (f1 _ (by omega))) (by omega) ?_⟩
  intro I2 f2 r2
  rw [hG.1.2.2.2.2.2.2.2.2.2.2.1, hG.1.2.2.2.1]
  refine ⟨hG.1.1, g82.1, k_rowsCopy (by omega) (by omega) (by omega) (by omega) g82 hG.2.1.2.2.1 (c6.keep (by rw [f2 _ (by omega), f1 _ (by omega)]) (by rw [f2 _ (by omega), f1 _ (by omega)])) (by omega) ?_⟩
  intro I3 f3 r3
  rw [hG.1.2.2.2.2.2.2.2.2.2.2.2, hG.1.2.2.2.2.2.2.1]
  have o3' : ∀ b, (b < 78 ∨ 84 ≤ b) → I3 b = I b := fun b hb => by rw [f3 b (by omega), f2 b (by omega), f1 b (by omega)]
  have cw3 : CW G I3 16 S := c1.keep o1 (fun b j h0 h1 h2 h3 => by rw [o3' b (by omega)]) (fun b hb => by rw [o3' b (by omega)]) (fun _ => rfl) (fun i i0 i1 => rfl)
  refine ⟨hG.1.1, g84.1, k_worldCopy (by omega) g84 gw (by omega) (by omega) (by omega) cw3 o1 (fun i i0 i1 => by rw [o3' _ (by omega)]; exact c3 i i0 i1) ?_⟩
  intro G4 I4 k4 f4 w84 w16
  have gs4 := hG.k k4 (Or.inr (Or.inr rfl))
  refine ⟨gs4.1.1, ?_⟩
  intro I5 q5 I6 q6
  rw [gs4.1.2.2.2.2.2.2.1]
  have e4 : ∀ b, (b < 78) → I4 b = I b := fun b hb => by rw [f4 b (by omega), o3' b (by omega)]
  have e6 : ∀ b, b ≠ 0 → I6 b = I4 b := fun b hb => by rw [q6, set_off _ hb, q5, set_off _ hb]
  have x16 : CW G4 I6 16 S := w16.keep o1 (fun b j h0 h1 h2 h3 => by rw [e6 b (by omega)]) (fun b hb => by rw [e6 b (by omega)]) (fun _ => rfl) (fun i i0 i1 => rfl)
  have x84 : CW G4 I6 84 S := w84.keep o1 (fun b j h0 h1 h2 h3 => by rw [e6 b (by omega)]) (fun b hb => by rw [e6 b (by omega)]) (fun _ => rfl) (fun i i0 i1 => rfl)
  have low : ∀ b, b ≠ 0 → b < 78 → I6 b = I b := fun b h0 h1 => by rw [e6 b h0, e4 b h1]
  refine ⟨gs4.2.2.2.1.1, ?_⟩
  rw [x16.1.2.2.1]
  refine h G4 I6 gs4 ⟨fun b hb => by rw [e6 b (by omega), f4 b (by omega), o3' b (by omega)], k4.1, fun b j hb => k4.2.2.2 b j (by omega), k4.2.1, k4.2.2.1⟩ ⟨x16, ?_, x84.2.2.1, ?_, ?_, ?_, ?_, ?_⟩ ⟨x84, ?_, ?_, ?_, ?_⟩ ?_
  · intro i i0 i1
    rw [low _ (by omega) (by omega)]; exact c2 i i0 i1
  · exact c4.keep (low _ (by omega) (by omega)) (low _ (by omega) (by omega))
  · exact c5.keep (low _ (by omega) (by omega)) (low _ (by omega) (by omega))
  · exact c6.keep (low _ (by omega) (by omega)) (low _ (by omega) (by omega))
  · exact c7.keep (low _ (by omega) (by omega)) (low _ (by omega) (by omega))
  · rw [q6, set_row, upR_ne _ (by decide), q5, set_row, upR_ne _ (by decide), e4 0 (by omega)]; exact c8
  · exact r1.keep (by rw [e6 _ (by omega), f4 _ (by omega), f3 _ (by omega), f2 _ (by omega)]) (by rw [e6 _ (by omega), f4 _ (by omega), f3 _ (by omega), f2 _ (by omega)])
  · exact r2.keep (by rw [e6 _ (by omega), f4 _ (by omega), f3 _ (by omega)]) (by rw [e6 _ (by omega), f4 _ (by omega), f3 _ (by omega)])
  · exact r3.keep (by rw [e6 _ (by omega), f4 _ (by omega)]) (by rw [e6 _ (by omega), f4 _ (by omega)])
  · rw [q6, set_row, upR_ne _ (by decide), q5, set_row, upR_same, e4 0 (by omega)]; exact c8
  · rw [q6, set_row, upR_same]
theorem c_undo (hd : d < 900) (hG : GS G) (hX : CX G I S L) (hM : I 0 13 ≠ 0 → CI G I M ∧ OkS M) (h0 : I 0 13 = 0 → Q (-3) G I) (h : I 0 13 ≠ 0 → ∀ G1 I1, GS G1 → FXi G G1 I I1 → CX G1 I1 (backS S M) L → CI G1 I1 M → I1 0 13 = I 0 13 → Q (M 37) G1 I1) : mu_WP mu_code d 143 0 [(1, 0)] [] G I Q := by
  obtain ⟨c1, c2, c3, c4, c5, c6, c7, c8⟩ := id hX
  have gw := hG.2.2.2.1
  obtain ⟨g78, g80, g82⟩ := hG.2.2.2.2.2.1
  have g84 := hG.2.2.2.2.2.2.1
  refine vc_143_0 (by omega) _ ⟨hG.1.1, h0, fun hh => ?_⟩
  obtain ⟨⟨i1, i2, i3, i4, i5⟩, hO⟩ := hM hh
  have h := h hh
  obtain ⟨o1, o2, o3, o4, o5, o6, o7, o8, o9, o10, o11⟩ := id hO
  have h4 := o1.2.1
  rw [hG.1.2.2.2.2.2.2.2.2.1, hG.1.2.1]
  refine ⟨hG.2.1.1.1, k_rowsCopy (by omega) (by omega) (by omega) (by omega) hG.2.1.1 g78 i2 (by omega) ?_⟩
  intro I1 f1 r1
  rw [hG.1.2.2.2.2.2.2.2.2.2.1, hG.1.2.2.1]
  refine ⟨hG.1.1, hG.2.1.2.1.1, k_rowsCopy (by omega) (by omega) (by omega) (by omega) hG.2.1.2.1 g80 (i3.keep (f1 _ (by omega)) (f1 _ (by omega))) (by omega) ?_⟩
  intro I2 f2 r2
  rw [hG.1.2.2.2.2.2.2.2.2.2.2.1, hG.1.2.2.2.1]
  refine ⟨hG.1.1, hG.2.1.2.2.1.1, k_rowsCopy (by omega) (by omega) (by omega) (by omega) hG.2.1.2.2.1 g82 (i4.keep (by rw [f2 _ (by omega), f1 _ (by omega)]) (by rw [f2 _ (by omega), f1 _ (by omega)])) (by omega) ?_⟩
  intro I3 f3 r3
  rw [hG.1.2.2.2.2.2.2.2.2.2.2.2, hG.1.2.2.2.2.2.2.1]
  have o3' : ∀ b, (b < 1 ∨ 7 ≤ b) → I3 b = I b := fun b hb => by rw [f3 b (by omega), f2 b (by omega), f1 b (by omega)]
  have cw3 : CW G I3 84 M := i1.keep o1 (fun b j h0 h1 h2 h3 => by rw [o3' b (by omega)]) (fun b hb => by rw [o3' b (by omega)]) (fun _ => rfl) (fun i i0 i1 => rfl)
  refine ⟨hG.1.1, gw.1, k_worldCopy (by omega) gw g84 (by omega) (by omega) (by omega) cw3 o1 (fun i i0 i1 => by rw [o3' _ (by omega)]; exact c1.2.2.1 i i0 i1) ?_⟩
  intro G4 I4 k4 f4 w16 w84
  have gs4 := hG.k k4 (Or.inl rfl)
  refine ⟨gs4.1.1, ?_⟩
  intro I5 q5
  rw [gs4.1.2.2.2.2.2.2.1]
  have e4 : ∀ b, (b < 1 ∨ 47 ≤ b ∨ (7 ≤ b ∧ b < 16)) → I4 b = I b := fun b hb => by rw [f4 b (by omega), o3' b (by omega)]
  have e5 : ∀ b, b ≠ 0 → I5 b = I4 b := fun b hb => by rw [q5, set_off _ hb]
  have x16 : CW G4 I5 16 M := w16.keep o1 (fun b j h0 h1 h2 h3 => by rw [e5 b (by omega)]) (fun b hb => by rw [e5 b (by omega)]) (fun _ => rfl) (fun i i0 i1 => rfl)
  have x84 : CW G4 I5 84 M := w84.keep o1 (fun b j h0 h1 h2 h3 => by rw [e5 b (by omega)]) (fun b hb => by rw [e5 b (by omega)]) (fun _ => rfl) (fun i i0 i1 => rfl)
  have hi : ∀ b, b ≠ 0 → (47 ≤ b ∨ (7 ≤ b ∧ b < 16)) → I5 b = I b := fun b h0 h1 => by rw [e5 b h0, e4 b (by omega)]
  have hT : ∀ j, 0 ≤ j → j < 977 → backS S M j = M j := fun j h0 h1 => by unfold backS; rw [if_pos ⟨h0, h1⟩]
  have l7 : ∀ b, b ≠ 0 → b < 7 → I5 b = I3 b := fun b h0 h1 => by rw [e5 b h0, f4 b (by omega)]
  refine ⟨gs4.2.2.2.1.1, ?_⟩
  rw [x16.1.2.2.1]
  refine h G4 I5 gs4 ⟨fun b hb => by rw [e5 b (by omega), e4 b (by omega)], k4.1, fun b j hb => k4.2.2.2 b j (by omega), k4.2.1, k4.2.2.1⟩ ⟨x16.congr o1 o2 hT, ?_, x84.2.2.1, ?_, ?_, ?_, ?_, ?_⟩ ⟨x84, ?_, ?_, ?_, ?_⟩ ?_
  · intro i i0 i1
    rw [hi _ (by omega) (by omega)]; exact c2 i i0 i1
  · exact RS.r (c := 100) (r1.keep (by rw [l7 _ (by omega) (by omega), f3 _ (by omega), f2 _ (by omega)]) (by rw [l7 _ (by omega) (by omega), f3 _ (by omega), f2 _ (by omega)])) (hT 41 (by omega) (by omega)) o9.2 (fun j h0 h1 => hT j (by omega) (by omega))
  · exact RS.r (c := 6) (r2.keep (by rw [l7 _ (by omega) (by omega), f3 _ (by omega)]) (by rw [l7 _ (by omega) (by omega), f3 _ (by omega)])) (hT 39 (by omega) (by omega)) o7.2 (fun j h0 h1 => hT j (by omega) (by omega))
  · exact RS.b (r3.keep (l7 _ (by omega) (by omega)) (l7 _ (by omega) (by omega))) (hT 40 (by omega) (by omega)) o8.2 (fun j h0 h1 => hT j (by omega) (by omega))
  · exact c7.keep (hi _ (by omega) (by omega)) (hi _ (by omega) (by omega))
  · rw [q5, set_row, upR_same, e4 0 (by omega), hT 38 (by omega) (by omega)]; exact i5
  · exact i2.keep (hi _ (by omega) (by omega)) (hi _ (by omega) (by omega))
  · exact i3.keep (hi _ (by omega) (by omega)) (hi _ (by omega) (by omega))
  · exact i4.keep (hi _ (by omega) (by omega)) (hi _ (by omega) (by omega))
  · rw [q5, set_row, upR_ne _ (by decide), e4 0 (by omega)]; exact i5
  · rw [q5, set_row, upR_ne _ (by decide), e4 0 (by omega)]
end

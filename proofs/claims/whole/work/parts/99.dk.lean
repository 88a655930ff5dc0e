/-! THE CLASS AND THE REFERENCE SAY THE SAME -/
/-- the script (N values), the texts, the orders -/
def SF (N : Int) (G : mu_G) (I : mu_M) : Prop := sh G (-2) = (100, N) ∧ (∀ j, 0 ≤ j → j < N → -2147483648 ≤ I (-2) j ∧ I (-2) j ≤ 2147483647) ∧ TXs G I ∧ ∀ j : Int, 0 ≤ j → j < 18 → I (-3) j = mu_ords.getD j.toNat 0
theorem SF.to {N : Int} {G G1 : mu_G} {I I1 : mu_M} (h : SF N G I) (hs : ∀ b, b < 0 → sh G1 b = sh G b) (hi : ∀ b, b < 0 → I1 b = I b) : SF N G1 I1 := ⟨by rw [hs _ (by decide)]; exact h.1, fun j j0 j1 => by rw [hi _ (by decide)]; exact h.2.1 j j0 j1, fun i h5 => ⟨by rw [hs _ (by omega)]; exact (h.2.2.1 i h5).1, by rw [hi _ (by omega)]; exact (h.2.2.1 i h5).2⟩, fun j j0 j1 => by rw [hi _ (by decide)]; exact h.2.2.2 j j0 j1⟩
/-- the class's object and the reference say S, the trace L, the image M; so much room is taken after c calls -/
def RR (u0 c : Int) (G : mu_G) (I : mu_M) (S M : Row) (L : List Int) : Prop := GS G ∧ CX G I S L ∧ OkS S ∧ (I 116 = S ∧ TR I L ∧ L.length ≤ 8) ∧ ((I 0 13 = 0 ↔ I 115 4 = 0) ∧ (I 0 13 ≠ 0 → CI G I M ∧ OkS M ∧ ∀ j, 0 ≤ j → j < 977 → I 117 j = M j)) ∧ gz G ≤ 127 + c ∧ gu G ≤ u0 + c
theorem CX.far {G : mu_G} {I I1 : mu_M} {S : Row} {L : List Int} (h : CX G I S L) (hI : Inv S) (hf : ∀ b, (b < 115 ∨ 127 ≤ b) → I1 b = I b) : CX G I1 S L := by
  obtain ⟨c1, c2, c3, c4, c5, c6, c7, c8⟩ := h
  exact ⟨c1.keep hI (fun b j h0 h1 _ _ => by rw [hf b (by omega)]) (fun b hb => hf b (by omega)) (fun _ => rfl) (fun _ _ _ => rfl), fun i i0 i1 => by rw [hf _ (by omega)]; exact c2 i i0 i1, fun i i0 i1 => by rw [hf _ (by omega)]; exact c3 i i0 i1, c4.keep (hf _ (by omega)) (hf _ (by omega)), c5.keep (hf _ (by omega)) (hf _ (by omega)), c6.keep (hf _ (by omega)) (hf _ (by omega)), c7.keep (hf _ (by omega)) (hf _ (by omega)), by rw [hf 0 (by omega)]; exact c8⟩
theorem CI.far {G : mu_G} {I I1 : mu_M} {M : Row} (h : CI G I M) (hI : Inv M) (hf : ∀ b, (b < 115 ∨ 127 ≤ b) → I1 b = I b) : CI G I1 M := by
  obtain ⟨c1, c2, c3, c4, c5⟩ := h
  exact ⟨c1.keep hI (fun b j h0 h1 _ _ => by rw [hf b (by omega)]) (fun b hb => hf b (by omega)) (fun _ => rfl) (fun _ _ _ => rfl), c2.keep (hf _ (by omega)) (hf _ (by omega)), c3.keep (hf _ (by omega)) (hf _ (by omega)), c4.keep (hf _ (by omega)) (hf _ (by omega)), by rw [hf 0 (by omega)]; exact c5⟩
/-- what the reference leaves -/
def FQ (I I1 : mu_M) : Prop := (∀ b, (b < 115 ∨ 127 ≤ b ∨ b = 117) → I1 b = I b) ∧ I1 115 4 = I 115 4
theorem FE.q {I I1 : mu_M} (h : FE I I1) : FQ I I1 := ⟨fun b hb => h.1 b (by omega), h.2 4 (by decide) (by decide) (by decide)⟩
theorem FB.q {I I1 : mu_M} (h : FB I I1) : FQ I I1 := ⟨fun b hb => h.1 b (by omega) (by omega), h.2 4 (by decide)⟩
theorem FLa.q {a : Int} {I I1 : mu_M} (h : FLa a I I1) : FQ I I1 := ⟨fun b hb => h.1 b (by omega) (by omega), h.2.1 4 (by decide)⟩
theorem TR.fe {I I1 : mu_M} {L : List Int} (h : TR I L) (hf : FE I I1) : TR I1 L := ⟨by rw [hf.2 21 (by decide) (by decide) (by decide)]; exact h.1, by rw [hf.1 126 (by decide)]; exact h.2⟩
section
variable {u0 c N : Int} {G G1 : mu_G} {I I1 I2 : mu_M} {S T M : Row} {L L1 : List Int}
theorem RR.mid (h : RR u0 c G I S M L) (hf : FXg G G1 I I1) : I1 116 = S ∧ TR I1 L ∧ I1 115 = I 115 := by
  have hz := h.1.2.2.2.2.2.2.2.2.2.1
  have e : ∀ b, 115 ≤ b → b < 127 → I1 b = I b := fun b h1 h2 => hf.1 b (by omega)
  obtain ⟨r1, r2, r3⟩ := h.2.2.2.1
  exact ⟨by rw [e 116 (by omega) (by omega)]; exact r1, ⟨by rw [e 115 (by omega) (by omega)]; exact r2.1, by rw [e 126 (by omega) (by omega)]; exact r2.2⟩, e 115 (by omega) (by omega)⟩
theorem RR.next (h : RR u0 c G I S M L) (hg : GS G1) (hf : FXg G G1 I I1) (hX : CX G1 I1 T L1) (hO : OkS T) (hq : FQ I1 I2) (hr : I2 116 = T) (ht : TR I2 L1) (hl : L1.length ≤ 8) : RR u0 (c + 1) G1 I2 T M L1 := by
  obtain ⟨a1, a2, a3, a4, ⟨a5, a6⟩, a7, a8⟩ := h
  have hz := a1.2.2.2.2.2.2.2.2.2.1
  have far : ∀ b, (b < 115 ∨ 127 ≤ b) → I2 b = I1 b := fun b hb => hq.1 b (by omega)
  have e13 : I2 0 13 = I 0 13 := by rw [far 0 (by omega), hf.2.1 13 (by decide)]
  have e4 : I2 115 4 = I 115 4 := by rw [hq.2, hf.1 115 (by omega)]
  refine ⟨hg, hX.far hO.1 far, hO, ⟨hr, ht, hl⟩, ⟨by rw [e13, e4]; exact a5, ?_⟩, by have := hf.2.2.2.2.1; omega, by have := hf.2.2.2.2.2; omega⟩
  rw [e13]
  intro hh
  obtain ⟨b1, b2, b3⟩ := a6 hh
  exact ⟨(b1.fxg a1 b2.1 hf).far b2.1 far, b2, fun j j0 j1 => by rw [hq.1 117 (by omega), hf.1 117 (by omega)]; exact b3 j j0 j1⟩
theorem SF.fxg (h : SF N G I) (hG : GS G) (hf : FXg G G1 I I1) : SF N G1 I1 := h.to (fun b hb => hf.2.2.1 b (by have := hG.2.2.2.2.2.2.2.2.2.1; omega)) (fun b hb => hf.1 b (by omega))
theorem SF.q (h : SF N G I) (hq : FQ I I1) : SF N G I1 := h.to (fun _ _ => rfl) (fun b hb => hq.1 b (by omega))
theorem OkS.wd100 (h : OkS S) : WD S 100 := h.wd.lo (by omega)
end

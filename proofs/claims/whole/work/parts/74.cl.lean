/-! THE CLASS'S CALLS: what stays -/
/-- all but the class's own cells (the image is not among them) -/
def FX (I I1 : mu_M) : Prop := (∀ b, (b < 0 ∨ 78 ≤ b) → I1 b = I b) ∧ ∀ j, 12 ≤ j → I1 0 j = I 0 j
theorem FX.rf (I : mu_M) : FX I I := ⟨fun _ _ => rfl, fun _ _ => rfl⟩
theorem FX.tr {I I1 I2 : mu_M} (h : FX I I1) (h2 : FX I1 I2) : FX I I2 := ⟨fun b hb => by rw [h2.1 b hb, h.1 b hb], fun j hj => by rw [h2.2 j hj, h.2 j hj]⟩
theorem FW.fx {I I1 : mu_M} {w : Int} (h : FW w I I1) (hw : w = 16 ∨ w = 47) : FX I I1 := ⟨fun b hb => h b (by omega), fun j _ => by rw [h 0 (by omega)]⟩
theorem FO.fx {I I1 : mu_M} {a : Int} (h : FO a I I1) (ha : 0 < a ∧ a + 2 ≤ 78) : FX I I1 := ⟨fun b hb => h b (by omega), fun j _ => by rw [h 0 (by omega)]⟩
/-- rows of the tape, the tracks, the book are as they were -/
def SameR (S T : Row) : Prop := ∀ j, ((38 ≤ j ∧ j ≤ 41) ∨ (73 ≤ j ∧ j < 103) ∨ (167 ≤ j ∧ j < 267)) → T j = S j
theorem RS.r {I : mu_M} {a n m s : Int} {S T : Row} {c : Int} (h : RS I a n (fun k => S (s + k))) (hm : m = n) (hn : n ≤ c) (hT : ∀ j, s ≤ j → j < s + c → T j = S j) : RS I a m (fun k => T (s + k)) := h.same hm (fun k k0 k1 => hT _ (by omega) (by omega))
theorem RS.b {I : mu_M} {n m : Int} {a : Int} {S T : Row} (h : RS I a n (bkF S)) (hm : m = n) (hn : n ≤ 8) (hT : ∀ j, 79 ≤ j → j < 103 → T j = S j) : RS I a m (bkF T) := h.same hm (fun k k0 k1 => by unfold bkF; rw [hT _ (by omega) (by omega), hT _ (by omega) (by omega), hT _ (by omega) (by omega)])
/-- the world becomes another row -/
theorem CX.world {G G1 : mu_G} {I I1 : mu_M} {S T : Row} {L : List Int} (h : CX G I S L) (hO : OkS S) (hf : FW 16 I I1) (hC : CW G1 I1 16 T) (hT : SameR S T) : CX G1 I1 T L := by
  obtain ⟨c1, c2, c3, c4, c5, c6, c7, c8⟩ := h
  obtain ⟨o1, o2, o3, o4, o5, o6, o7, o8, o9, o10, o11⟩ := hO
  refine ⟨hC, fun i i0 i1 => by rw [hf _ (by omega)]; exact c2 i i0 i1, fun i i0 i1 => by rw [hf _ (by omega)]; exact c3 i i0 i1, ?_, ?_, ?_, ?_, ?_⟩
  · exact RS.r (c := 100) (c4.keep (hf _ (by omega)) (hf _ (by omega))) (hT 41 (by omega)) o9.2 (fun j h0 h1 => hT j (by omega))
  · exact RS.r (c := 6) (c5.keep (hf _ (by omega)) (hf _ (by omega))) (hT 39 (by omega)) o7.2 (fun j h0 h1 => hT j (by omega))
  · exact RS.b (c6.keep (hf _ (by omega)) (hf _ (by omega))) (hT 40 (by omega)) o8.2 (fun j h0 h1 => hT j (by omega))
  · exact c7.keep (hf _ (by omega)) (hf _ (by omega))
  · rw [hf 0 (by omega), hT 38 (by omega)]; exact c8
/-- the trial has changed alone -/
theorem CX.trial {G G1 : mu_G} {I I1 : mu_M} {S : Row} {L : List Int} (h : CX G I S L) (hI : Inv S) (hg : GK 47 G G1) (hf : FW 47 I I1) (hn : NW I1 47) : CX G1 I1 S L := by
  obtain ⟨c1, c2, c3, c4, c5, c6, c7, c8⟩ := h
  refine ⟨?_, hn, fun i i0 i1 => by rw [hf _ (by omega)]; exact c3 i i0 i1, c4.keep (hf _ (by omega)) (hf _ (by omega)), c5.keep (hf _ (by omega)) (hf _ (by omega)), c6.keep (hf _ (by omega)) (hf _ (by omega)), c7.keep (hf _ (by omega)) (hf _ (by omega)), by rw [hf 0 (by omega)]; exact c8⟩
  exact c1.keep hI (fun b j h0 h1 h2 h3 => by rw [hf b (by omega)]) (fun b hb => hf b (by omega)) hg.1 (fun i i0 i1 => hg.2.2.2 _ _ (by omega))
theorem LT.hi {S T : Row} {cls : List Cla} (hl : LT S cls) (hL : LW S) (hT : ∀ j, (j = 42 ∨ 267 ≤ j) → T j = S j) : LT T cls := by
  obtain ⟨l1, l2⟩ := hl
  have hb := hL.1
  have e42 := hT 42 (by omega)
  have em : manyS T = manyS S := by
    unfold manyS
    rw [e42]
    split
    · rfl
    · rw [hT _ (by omega)]
  refine ⟨?_, ?_⟩
  · rw [← l1]
    by_cases h1 : S 42 = -1
    · unfold textS
      rw [em]
      unfold manyS
      rw [if_pos h1]
      rfl
    · unfold textS
      rw [e42, em]
      exact codes_same _ _ (fun j hj => hT j (by omega))
  · rw [← l2]
    unfold tellS
    rw [e42]
    split
    · rfl
    · rw [hT _ (by omega)]
/-- rows and marks have changed, not the world -/
theorem CX.rows {G : mu_G} {I I1 : mu_M} {S T : Row} {L L1 : List Int} (h : CX G I S L) (hI : Inv S) (hL : LW S) (hf : ∀ b, 16 ≤ b → I1 b = I b) (hT : ∀ j, (j < 38 ∨ (42 ≤ j ∧ j < 73) ∨ (103 ≤ j ∧ j < 167) ∨ 267 ≤ j) → T j = S j) (r1 : RS I1 1 (T 41) (fun k => T (167 + k))) (r2 : RS I1 3 (T 39) (fun k => T (73 + k))) (r3 : RS I1 5 (T 40) (bkF T)) (r4 : RS I1 7 L1.length (fun k => L1.getD k.toNat 0)) (r5 : I1 0 7 = T 38) : CX G I1 T L1 := by
  obtain ⟨c1, c2, c3, c4, c5, c6, c7, c8⟩ := h
  refine ⟨?_, fun i i0 i1 => by rw [hf _ (by omega)]; exact c2 i i0 i1, fun i i0 i1 => by rw [hf _ (by omega)]; exact c3 i i0 i1, r1, r2, r3, r4, r5⟩
  have k1 := c1.keep (G1 := G) (I1 := I1) hI (fun b j h0 h1 h2 h3 => by rw [hf b (by omega)]) (fun b hb => hf b (by omega)) (fun _ => rfl) (fun i i0 i1 => rfl)
  obtain ⟨⟨a1, a2, a3, a4, a5⟩, ⟨cls, hl, hA⟩, hn, hp⟩ := k1
  have h4 := hI.2.1
  refine ⟨⟨by rw [hT 43 (by omega)]; exact a1, by rw [hT 44 (by omega)]; exact a2, by rw [hT 37 (by omega)]; exact a3, by rw [hT 0 (by omega)]; exact a4, fun c h0 h1 => by rw [hT _ (by omega)]; exact a5 c h0 h1⟩, ⟨cls, ?_, hA⟩, hn, ?_⟩
  · exact hl.hi hL (fun j hj => hT j (by omega))
  · intro i i0 i1
    rw [hT 37 (by omega)] at i1
    exact (hp i i0 i1).keep ((hI.2.2.2.2.1 i i0 i1).2.2.1.2) (fun _ _ => rfl) (fun _ _ _ => rfl) (fun _ _ _ => rfl) (fun _ _ _ => rfl) (fun _ _ => rfl) (fun _ => rfl) rfl ⟨hT _ (by omega), hT _ (by omega), hT _ (by omega), hT _ (by omega), hT _ (by omega), hT _ (by omega), fun k k0 k1 => hT _ (by omega), fun k k0 k1 => ⟨hT _ (by omega), hT _ (by omega)⟩⟩
section
variable {d : Nat} {G : mu_G} {I : mu_M} {Q : Int → mu_G → mu_M → Prop} {S : Row} {L : List Int}
theorem c_feed (hd : d < 900) (hG : GS G) (hX : CX G I S L) (hO : OkS S) (x : Int) (h : ∀ I1, FX I I1 → CX G I1 (feedS S x).2 L → Q (feedS S x).1 G I1) : mu_WP mu_code d 101 0 [(1, 0), (0, x)] [] G I Q := by
  obtain ⟨c1, c2, c3, c4, c5, c6, c7, c8⟩ := id hX
  obtain ⟨o1, o2, o3, o4, o5, o6, o7, o8, o9, o10, o11⟩ := id hO
  have g1 := hG.2.1.1
  unfold feedS at h
  refine vc_101_0 (by omega) _ _ ⟨fun h1 => ?_, fun h1 => ⟨fun h2 => ?_, fun h2 => ⟨hG.1.1, ?_⟩⟩⟩
  · rw [if_pos (by omega)] at h; exact h I (FX.rf I) hX
  · rw [if_pos (by omega)] at h; exact h I (FX.rf I) hX
  rw [if_neg (by omega)] at h
  rw [hG.1.2.1]
  refine ⟨g1.1, k_isFull (by omega) g1 c4 ⟨fun h3 => ?_, fun h3 => ?_⟩⟩
  · have hlt : S 41 < 100 := by
      by_cases hc : S 41 < 100
      · exact hc
      · rw [if_neg hc] at h3; omega
    rw [if_neg (by omega)] at h
    have h : ∀ I1, FX I I1 → CX G I1 (upR (upR S (167 + S 41) x) 41 (S 41 + 1)) L → Q (S 41 + 1) G I1 := h
    rw [hG.1.2.1]
    refine ⟨hG.1.1, g1.1, k_add (by omega) (by omega) g1 c4 ⟨o9.1, hlt, by omega⟩ x ?_⟩
    intro I1 f1 r1
    rw [hG.1.2.1]
    refine ⟨hG.1.1, g1.1, ?_⟩
    rw [r1.1.1]
    have hT : ∀ j, j ≠ 41 → j ≠ 167 + S 41 → upR (upR S (167 + S 41) x) 41 (S 41 + 1) j = S j := fun j h1 h2 => by rw [upR_ne _ h1, upR_ne _ h2]
    refine h I1 (f1.fx (by omega)) (hX.rows o1 o2 (fun b hb => f1 b (by omega)) (fun j hj => hT j (by omega) (by omega)) ?_ ?_ ?_ ?_ ?_)
    · refine r1.same (by rw [upR_same]) (fun k k0 k1 => ?_)
      by_cases hk : k = S 41
      · rw [if_pos hk, upR_ne _ (by omega), hk, upR_same]
      · rw [if_neg hk, hT _ (by omega) (by omega)]
    · exact RS.r (c := 6) (c5.keep (f1 _ (by omega)) (f1 _ (by omega))) (hT 39 (by omega) (by omega)) o7.2 (fun j h0 h1 => hT j (by omega) (by omega))
    · exact RS.b (c6.keep (f1 _ (by omega)) (f1 _ (by omega))) (hT 40 (by omega) (by omega)) o8.2 (fun j h0 h1 => hT j (by omega) (by omega))
    · exact c7.keep (f1 _ (by omega)) (f1 _ (by omega))
    · rw [f1 0 (by omega), hT 38 (by omega) (by omega)]; exact c8
  · have hge : ¬ S 41 < 100 := by
      intro hc
      rw [if_pos hc] at h3
      exact h3 rfl
    rw [if_pos (by omega)] at h
    exact h I (FX.rf I) hX
theorem c_isSide (hd : d < 990) (x : Int) (h : Q (if 2 ≤ x ∧ x ≤ 8 then 1 else 0) G I) : mu_WP mu_code d 104 0 [(0, x)] [] G I Q := by
  refine vc_104_0 (by omega) _ ⟨fun h1 => ?_, fun h1 => ⟨fun h2 => ?_, fun h2 => ?_⟩⟩
  · rw [if_neg (by omega)] at h; exact h
  · rw [if_neg (by omega)] at h; exact h
  · rw [if_pos (by omega)] at h; exact h
theorem c_isKind (hd : d < 990) (x : Int) (h : Q (if 0 ≤ x ∧ x ≤ 6 then 1 else 0) G I) : mu_WP mu_code d 107 0 [(0, x)] [] G I Q := by
  refine vc_107_0 (by omega) _ ⟨fun h1 => ?_, fun h1 => ⟨fun h2 => ?_, fun h2 => ?_⟩⟩
  · rw [if_neg (by omega)] at h; exact h
  · rw [if_neg (by omega)] at h; exact h
  · rw [if_pos (by omega)] at h; exact h
theorem c_valley (hd : d < 900) (hG : GS G) (hX : CX G I S L) (hO : OkS S) (w v : Int) (h : ∀ I1, FX I I1 → CX G I1 (valleyS S w v).2 L → Q (valleyS S w v).1 G I1) : mu_WP mu_code d 103 0 [(1, 0), (0, w), (0, v), (3, 0)] [] G I Q := by
  obtain ⟨c1, c2, c3, c4, c5, c6, c7, c8⟩ := id hX
  obtain ⟨o1, o2, o3, o4, o5, o6, o7, o8, o9, o10, o11⟩ := id hO
  have gw := hG.2.2.2.1
  unfold valleyS at h
  refine vc_103_0 (by omega) _ _ _ (c_isSide (by omega) _ ⟨fun h1 => ?_, fun h1 => c_isSide (by omega) _ ⟨fun h2 => ?_, fun h2 => ⟨hG.1.1, ?_⟩⟩⟩)
  · rw [if_pos (fun hc => ifm h1 hc.1)] at h; exact h I (FX.rf I) hX
  · rw [if_pos (fun hc => ifm h2 hc.2)] at h; exact h I (FX.rf I) hX
  have hw := ifq h1
  have hv := ifq h2
  rw [if_neg (fun hc => hc ⟨hw, hv⟩)] at h
  rw [hG.1.2.2.2.2.2.2.1, c1.1.2.2.1]
  refine ⟨gw.1, fun h3 => ?_, fun h3 => k_cells (by omega) gw c1 o1 ?_⟩
  · rw [if_pos h3] at h; exact h I (FX.rf I) hX
  rw [if_neg h3] at h
  have h : ∀ I1, FX I I1 → CX G I1 (clrS (upR (upR S 43 w) 44 v)) L → Q (S 43 * S 44) G I1 := h
  rw [hG.1.2.2.2.2.2.2.1]
  refine ⟨hG.1.1, gw.1, vc_71_0 (by omega) _ _ _ ⟨gw.1, ?_⟩⟩
  intro Ia qa Ib qb
  have hb0 : ∀ b, b ≠ 16 → Ib b = I b := fun b hb => by rw [qb, set_off _ hb, qa, set_off _ hb]
  have e16 : ∀ j, Ib 16 j = if j = 2 then v else if j = 1 then w else I 16 j := fun j => by rw [qb, set_row, upR_at, qa, set_row, upR_at]
  suffices H : ∀ (n : Nat) (k : Int) (I2 : mu_M), k + n = 64 → 0 ≤ k → (∀ b, b ≠ 24 → I2 b = Ib b) → (∀ c, 0 ≤ c → c < k → I2 24 c = 0) → mu_WP mu_code (d + 1) 71 12 [(1, 16), (0, w), (0, v), (0, k)] [] G I2 (fun _ G20 I21 => Q (S 43 * S 44) G20 I21) from
    H 64 0 Ib (by omega) (by omega) (fun _ _ => rfl) (fun c h0 h1 => by omega)
  intro n
  induction n with
  | zero =>
    intro k I2 hk k0 hf hz
    refine vc_71_12 (by omega) _ _ _ _ ⟨fun hx => absurd hx (by omega), fun _ => ?_⟩
    have fw : FW 16 I I2 := fun b hb => by rw [hf b (by omega), hb0 b (by omega)]
    have hT : ∀ j, (j < 103 ∨ 167 ≤ j) → j ≠ 43 → j ≠ 44 → clrS (upR (upR S 43 w) 44 v) j = S j := fun j h1 h2 h3 => by
      unfold clrS
      rw [if_neg (by omega), upR_ne _ h3, upR_ne _ h2]
    have e37 : S 37 = 0 := by have := o1.2.1; omega
    refine h I2 (fw.fx (Or.inl rfl)) (hX.world hO fw ⟨⟨?_, ?_, ?_, ?_, ?_⟩, ?_, ?_, ?_⟩ (fun j hj => hT j (by omega) (by omega) (by omega)))
    · rw [hf 16 (by omega), e16]
      rfl
    · rw [hf 16 (by omega), e16]
      rfl
    · rw [hf 16 (by omega), e16, if_neg (by decide), if_neg (by decide), hT 37 (by omega) (by omega) (by omega)]; exact c1.1.2.2.1
    · rw [hf 16 (by omega), e16, if_neg (by decide), if_neg (by decide), hT 0 (by omega) (by omega) (by omega)]; exact c1.1.2.2.2.1
    · intro c h0 h1
      rw [show (16 : Int) + 8 = 24 from rfl, hz c h0 (by omega)]
      unfold clrS
      rw [if_pos (by omega)]
    · obtain ⟨cls, hl, hA⟩ := c1.2.1
      exact ⟨cls, hl.hi o2 (fun j hj => hT j (by omega) (by omega) (by omega)), hA.keep (by rw [hf _ (by omega), hb0 _ (by omega)]) (fun b h0 h1 => by rw [hf b (by omega), hb0 b (by omega)])⟩
    · intro i i0 i1
      rw [hf _ (by omega), hb0 _ (by omega)]; exact c1.2.2.1 i i0 i1
    · intro i i0 i1
      rw [hT 37 (by omega) (by omega) (by omega)] at i1
      omega
  | succ n ih =>
    intro k I2 hk k0 hf hz
    refine vc_71_12 (by omega) _ _ _ _ ⟨fun _ => ?_, fun hx => absurd (by omega) hx⟩
    rw [gw.2.2.1, gw.2.2.2.2.2.2.1, wr_id (x := k + 1) (by omega) (by omega)]
    refine ⟨gw.1, ⟨rfl, k0, by dsimp only; omega⟩, ?_⟩
    intro I3 q3
    refine ih (k + 1) I3 (by omega) (by omega) (fun b hb => by rw [q3, set_off _ (by omega)]; exact hf b hb) ?_
    intro c h0 h1
    rw [q3, show (16 : Int) + 8 = 24 from rfl, set_row, upR_at]
    by_cases hc : c = k
    · rw [if_pos hc]
    · rw [if_neg hc]; exact hz c h0 (by omega)
end

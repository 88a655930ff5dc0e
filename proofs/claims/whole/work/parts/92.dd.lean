/-! THE CLASS'S CALL: law -/
section
variable {d : Nat} {G : mu_G} {I : mu_M} {Q : Int → mu_G → mu_M → Prop} {a e : Int} {S T : Row} {L : List Int}
theorem k_read (hd : d < 890) (hG : GL G a) (ha : 0 ≤ a) {t : Int} (ht : (t < a ∧ t + 1 < a) ∧ 0 ≤ t) (hgt : GO G t 100) (hX : TXs G I) (he : 0 ≤ e ∧ e ≤ 100) (hR : RS I t e T) (hT : ∀ j, 0 ≤ j → j < e → 0 ≤ T j ∧ T j ≤ 127)
  (hy : (parS T e).1 = true → (parS T e).2.1 = e → ∀ I1, FRl a I I1 → LA I1 a (parS T e).2.2 → Q (-1) G I1)
  (hn : ¬ ((parS T e).1 = true ∧ (parS T e).2.1 = e) → (0 ≤ (parS T e).2.1 ∧ (parS T e).2.1 ≤ e) → ∀ I1, FRl a I I1 → Q (parS T e).2.1 G I1) : mu_WP mu_code d 4 0 [(1, a), (1, t), (3, 0), (3, 0)] [] G I Q := by
  obtain ⟨g1, r1, r2, r3, r4, r5, r7, s1, s2, s3, s4, s5, s6⟩ := id hG
  refine vc_4_0 (by omega) _ _ ⟨hgt.1, g1, ?_⟩
  intro I1 q1
  rw [hR.1.1, if_neg (by omega)] at q1
  have f1 : FRl a I I1 := fun b hb => by rw [q1, set_off _ (by omega)]
  have e1 : I1 a 8 = e := by rw [q1, set_row, upR_same]
  clear q1
  -- the tape is taken over
  suffices H : ∀ (n : Nat) (k : Int) (v : mu_V) (I2 : mu_M), k + n = e → 0 ≤ k → FRl a I I2 → I2 a 8 = e → (∀ j, 0 ≤ j → j < k → I2 (a + 6) j = T j) → mu_WP mu_code d 4 15 [(1, a), (1, t), (0, k), v] [] G I2 Q from
    H e.toNat 0 _ I1 (by omega) (by omega) f1 e1 (fun j h1 h2 => by omega)
  clear e1 f1
  intro n
  induction n with
  | succ n ih =>
    intro k v I2 hk k0 hf h8 htx
    refine vc_4_15 (by omega) _ _ _ _ ⟨g1, fun _ => ⟨hgt.1, ?_⟩, fun h1 => absurd (by rw [h8]; omega) h1⟩
    have rs : RS I2 t e T := hR.keep (hf t (by omega)) (hf (t + 1) (by omega))
    refine k_itemAt (by omega) hgt rs (by omega) k ?_
    rw [r7, s6, if_pos ⟨k0, by omega⟩, wr_id (x := k + 1) (by omega) (by omega)]
    refine ⟨⟨by omega, rfl, k0, by dsimp only; omega⟩, ?_⟩
    intro I3 q3
    refine ih (k + 1) _ I3 (by omega) (by omega) (fun b hb => by rw [q3, set_off _ (by omega), hf b hb]) (by rw [q3, set_off _ (by omega)]; exact h8) ?_
    intro j j0 j1
    rw [q3, set_row, upR_at]
    by_cases hj : j = k
    · rw [if_pos hj, hj]
    · rw [if_neg hj]; exact htx j j0 (by omega)
  | zero =>
    intro k v I2 hk k0 hf h8 htx
    refine vc_4_15 (by omega) _ _ _ _ ⟨g1, fun h1 => absurd h1 (by rw [h8]; omega), fun _ => ?_⟩
    intro I3 q3 I4 q4 I5 q5
    have f5 : FRl a I I5 := fun b hb => by rw [q5, set_off _ (by omega), q4, set_off _ (by omega), q3, set_off _ (by omega), hf b hb]
    have k5 : KS I5 a e T 0 := by
      refine ⟨⟨?_, by rw [q5, set_row, upR_same]⟩, ?_, by omega, he.1, he.2⟩
      · rw [q5, set_row, upR_ne _ (by decide), q4, set_row, upR_ne _ (by decide), q3, set_row, upR_ne _ (by decide)]; exact h8
      · intro j j0 j1
        rw [q5, set_off _ (by omega), q4, set_off _ (by omega), q3, set_off _ (by omega)]
        exact htx j j0 (by omega)
    have c5 : KC I5 a [] := by
      refine ⟨?_, trivial, ?_, trivial⟩
      · rw [q5, set_row, upR_ne _ (by decide), q4, set_row, upR_ne _ (by decide), q3, set_row, upR_same]; rfl
      · rw [q5, set_row, upR_ne _ (by decide), q4, set_row, upR_same]; rfl
    clear q3 q4 q5 htx h8 hf
    have tx : ∀ {I1 : mu_M}, FRl a I I1 → TXs G I1 := fun hf => hX.keep (fun b hb => hf b (by omega))
    unfold parS at hy hn
    -- wrong: it ends
    have wrong : ∀ (k1 x3 : Int) (I6 : mu_M), KS I6 a e T k1 → FRl a I I6 → ((0 ≤ k1 ∧ k1 ≤ e) → ∀ I1, FRl a I I1 → Q k1 G I1) → mu_WP mu_code d 4 62 [(1, a), (1, t), (0, 0), (0, x3)] [] G I6 Q := by
      intro k1 x3 I6 k6 f6 hq
      have h9 := k6.1.2
      refine vc_4_62 (by omega) _ _ _ _ ⟨fun _ => ⟨fun _ => ⟨g1, ?_⟩, fun hz => absurd rfl hz⟩, fun _ => ⟨fun _ => ⟨g1, ?_⟩, fun hz => absurd rfl hz⟩⟩
      · rw [h9]; exact hq ⟨k6.2.2.1, k6.2.2.2.1⟩ I6 f6
      · rw [h9]; exact hq ⟨k6.2.2.1, k6.2.2.2.1⟩ I6 f6
    -- the loop of clauses
    have loop : ∀ (m : Nat) (k1 x3 : Int) (l : List Cla) (I6 : mu_M), x3 + m = 10 → 1 ≤ x3 → KS I6 a e T k1 → FRl a I I6 → KC I6 a l → (l.length : Int) = x3 → ((catL l).length : Int) ≤ k1 → (∀ c ∈ l, okL c) →
        ((laL T e m k1 l).1 = true → (laL T e m k1 l).2.1 = e → ∀ I1, FRl a I I1 → LA I1 a (laL T e m k1 l).2.2 → Q (-1) G I1) → (¬ ((laL T e m k1 l).1 = true ∧ (laL T e m k1 l).2.1 = e) → (0 ≤ (laL T e m k1 l).2.1 ∧ (laL T e m k1 l).2.1 ≤ e) → ∀ I1, FRl a I I1 → Q (laL T e m k1 l).2.1 G I1) → mu_WP mu_code d 4 62 [(1, a), (1, t), (0, 1), (0, x3)] [] G I6 Q := by
      -- it ends well
      have stop : ∀ (k1 : Int) (l : List Cla) (I6 : mu_M), KS I6 a e T k1 → FRl a I I6 → KC I6 a l → l.length ≤ 10 → ((catL l).length : Int) ≤ k1 → (∀ c ∈ l, okL c) → ((true : Bool) = true → k1 = e → ∀ I1, FRl a I I1 → LA I1 a l → Q (-1) G I1) → (¬ ((true : Bool) = true ∧ k1 = e) → (0 ≤ k1 ∧ k1 ≤ e) → ∀ I1, FRl a I I1 → Q k1 G I1) → (((I6 a 9) = (I6 a 8) → Q (-1) G I6) ∧ (¬ (I6 a 9) = (I6 a 8) → Q (I6 a 9) G I6)) := by
        intro k1 l I6 k6 f6 c6 hl hc ho hyy hnn
        rw [k6.1.1, k6.1.2]
        refine ⟨fun h1 => hyy rfl h1 I6 f6 ⟨c6.1, hl, ho, LI_of c6.2.1 c6.2.2.2 (by omega) (by have := k6.2.2; omega)⟩, fun h1 => hnn (fun hc => h1 hc.2) ⟨k6.2.2.1, k6.2.2.2.1⟩ I6 f6⟩
      intro m
      induction m with
      | zero =>
        intro k1 x3 l I6 hm h1 k6 f6 c6 hl hc ho hyy hnn
        rw [laL] at hyy hnn
        refine vc_4_62 (by omega) _ _ _ _ ⟨fun hz => absurd hz (by omega), fun _ => ⟨fun hz => absurd hz (by decide), fun _ => ⟨g1, ?_⟩⟩⟩
        exact stop k1 l I6 k6 f6 c6 (by omega) hc ho hyy hnn
      | succ m ihm =>
        intro k1 x3 l I6 hm h1 k6 f6 c6 hl hc ho hyy hnn
        rw [laL] at hyy hnn
        have hb := k6.2.2
        refine vc_4_62 (by omega) _ _ _ _ ⟨fun _ => ⟨fun hz => absurd hz (by decide), fun _ => ⟨g1, ?_⟩⟩, fun hz => absurd (by omega) hz⟩
        rw [wr_id (x := x3 + 1) (by omega) (by omega)]
        refine k_take1 (by omega) hG k6 59 (by omega) (fun hs I7 f7 k7 => ⟨fun hz => absurd hz (by decide), fun _ => ⟨g1, ?_⟩⟩) (fun hs => ⟨fun _ => ⟨fun hz => absurd hz (by decide), fun _ => ⟨g1, ?_⟩⟩, fun hz => absurd rfl hz⟩)
        · rw [if_pos hs] at hyy hnn
          have c7 : KC I7 a l := ⟨by rw [f7.2 0 (by decide) (by decide)]; exact c6.1, c6.2.1.keep (fun b j h1 h2 _ => by rw [f7.1 b (by omega)]), f7.kw c6.2.2⟩
          refine k_clause (by omega) hG ha (tx (f6.tr f7.rd.l)) hT k7 c7 (by omega) (by omega) (fun hg I8 f8 k8 c8 hc8 o8 => ?_) (fun hg I8 f8 k8 => ?_)
          · rw [if_pos hg] at hyy hnn
            refine ihm _ (x3 + 1) _ I8 (by omega) (by omega) k8 ((f6.tr f7.rd.l).tr f8) c8 (by simp; omega) hc8 ?_ hyy hnn
            intro c hcm
            rcases List.mem_append.1 hcm with h | h
            · exact ho c h
            · rw [List.mem_singleton] at h
              rw [h]; exact o8
          · rw [if_neg (by rw [hg]; decide)] at hnn
            exact wrong _ _ I8 k8 ((f6.tr f7.rd.l).tr f8) (hnn (fun hc => absurd hc.1 Bool.false_ne_true))
        · rw [if_neg hs] at hyy hnn
          exact stop k1 l I6 k6 f6 c6 (by omega) hc ho hyy hnn
    refine k_clause (by omega) hG ha (tx f5) hT k5 c5 (by simp) (by simp [catL]) (fun hg I8 f8 k8 c8 hc8 o8 => ?_) (fun hg I8 f8 k8 => ?_)
    · rw [if_pos hg] at hy hn
      exact loop 9 _ 1 _ I8 (by omega) (by omega) k8 (f5.tr f8) c8 (by simp) hc8 (fun c hcm => by simp at hcm; rw [hcm]; exact o8) hy hn
    · rw [if_neg (by rw [hg]; decide)] at hn
      exact wrong _ _ I8 k8 (f5.tr f8) (hn (fun hc => absurd hc.1 Bool.false_ne_true))
/-- what a law makes of the row -/
def LNew (S T : Row) : Prop := (∀ j, 0 ≤ j → j < 267 → j ≠ 38 → j ≠ 41 → j ≠ 42 → T j = S j) ∧ T 41 = 0 ∧ (goodP S → T 38 = S 38 + 1 ∧ LT T (parS (tpS S) (S 41)).2.2) ∧ (¬ goodP S → T 38 = S 38 ∧ ∀ cls, LT S cls → LT T cls)
theorem c_law (hd : d < 880) (hG : GS G) (hX : CX G I S L) (hO : OkS S) (hTx : TXs G I) (h5 : S 38 = 5 → Q (-4) G I)
  (h : S 38 ≠ 5 → ∀ I1, FX I I1 → (∀ T, LNew S T → CX G I1 T L) → (goodP S → Q (S 38) G I1) ∧ (¬ goodP S → Q (-10 - (parS (tpS S) (S 41)).2.1) G I1)) : mu_WP mu_code d 102 0 [(1, 0), (3, 0)] [] G I Q := by
  obtain ⟨c1, c2, c3, c4, c5, c6, c7, c8⟩ := id hX
  obtain ⟨o1, o2, o3, o4, o5, o6, o7, o8, o9, o10, o11⟩ := id hO
  have g1 := hG.2.1.1
  have gw := hG.2.2.2.1
  have h4 := o1.2.1
  have gl := hG.2.2.1
  refine vc_102_0 (by omega) _ ⟨hG.1.1, fun hlt => ?_, fun hz => h5 (by omega)⟩
  have hne : S 38 ≠ 5 := by omega
  have h := h hne
  rw [hG.1.2.1, hG.1.2.2.2.2.2.1]
  -- the row after
  have fin : ∀ (I1 : mu_M) (T : Row) (cls : List Cla), LNew S T → LT T cls → LA I1 17 cls → (∀ b, (b = 16 ∨ (24 ≤ b ∧ b < 115) ∨ (3 ≤ b ∧ b < 9) ∨ 127 ≤ b) → I1 b = I b) → RS I1 1 0 (fun k => T (167 + k)) → I1 0 7 = T 38 → CX G I1 T L := by
    intro I1 T cls hT hl hA hf hr h7
    obtain ⟨⟨a1, a2, a3, a4, a5⟩, _, hn, hp⟩ := c1
    have hT1 := hT.1
    refine ⟨⟨⟨by rw [hf 16 (by omega), hT1 43 (by omega) (by omega) (by omega) (by omega) (by omega)]; exact a1, by rw [hf 16 (by omega), hT1 44 (by omega) (by omega) (by omega) (by omega) (by omega)]; exact a2, by rw [hf 16 (by omega), hT1 37 (by omega) (by omega) (by omega) (by omega) (by omega)]; exact a3, by rw [hf 16 (by omega), hT1 0 (by omega) (by omega) (by omega) (by omega) (by omega)]; exact a4, fun c c0 c1 => by rw [hf _ (by omega), hT1 _ (by omega) (by omega) (by omega) (by omega) (by omega)]; exact a5 c c0 c1⟩, ⟨cls, hl, hA⟩, fun i i0 i1 => by rw [hf _ (by omega)]; exact hn i i0 i1, ?_⟩, fun i i0 i1 => by rw [hf _ (by omega)]; exact c2 i i0 i1, fun i i0 i1 => by rw [hf _ (by omega)]; exact c3 i i0 i1, ?_, ?_, ?_, ?_, h7⟩
    · intro i i0 i1
      rw [hT1 37 (by omega) (by omega) (by omega) (by omega) (by omega)] at i1
      have h9 := (o1.2.2.2.2.1 i i0 i1).2.2.1.2
      have t : ∀ j, 0 ≤ j → j < 267 → j ≠ 38 → j ≠ 41 → j ≠ 42 → T j = S j := hT1
      exact (hp i i0 i1).keep h9 (fun j _ => by rw [hf _ (by omega)]) (fun k _ _ => by rw [hf _ (by omega)]) (fun k _ _ => by rw [hf _ (by omega)]) (fun k _ _ => by rw [hf _ (by omega)]) (fun b hb => hf b (by omega)) (fun _ => rfl) rfl ⟨t _ (by omega) (by omega) (by omega) (by omega) (by omega), t _ (by omega) (by omega) (by omega) (by omega) (by omega), t _ (by omega) (by omega) (by omega) (by omega) (by omega), t _ (by omega) (by omega) (by omega) (by omega) (by omega), t _ (by omega) (by omega) (by omega) (by omega) (by omega), t _ (by omega) (by omega) (by omega) (by omega) (by omega), fun k k0 k1 => t _ (by omega) (by omega) (by omega) (by omega) (by omega), fun k k0 k1 => ⟨t _ (by omega) (by omega) (by omega) (by omega) (by omega), t _ (by omega) (by omega) (by omega) (by omega) (by omega)⟩⟩
    · exact hr.same hT.2.1 (fun k k0 k1 => rfl)
    · exact RS.r (c := 6) (c5.keep (hf _ (by omega)) (hf _ (by omega))) (hT1 39 (by omega) (by omega) (by omega) (by omega) (by omega)) o7.2 (fun j h0 h1 => hT1 j (by omega) (by omega) (by omega) (by omega) (by omega))
    · exact RS.b (c6.keep (hf _ (by omega)) (hf _ (by omega))) (hT1 40 (by omega) (by omega) (by omega) (by omega) (by omega)) o8.2 (fun j h0 h1 => hT1 j (by omega) (by omega) (by omega) (by omega) (by omega))
    · exact c7.keep (hf _ (by omega)) (hf _ (by omega))
  refine ⟨gl.1, k_read (e := S 41) (T := tpS S) (by omega) gl (by omega) (by omega) g1 hTx o9 c4 o10 (fun hg he I1 f1 A1 => ?_) (fun hg pb2 I1 f1 => ?_)⟩
  · rw [hG.1.2.1]
    refine ⟨hG.1.1, g1.1, k_clear (by omega) (f := fun k => S (167 + k)) g1 ?_⟩
    intro I2 f2 q2
    rw [hG.1.2.2.2.2.2.2.1, hG.1.2.2.2.2.2.1, gw.2.1]
    have A2 : LA I2 9 (parS (tpS S) (S 41)).2.2 := A1.keep (by rw [f2 _ (by omega)]) (fun b b0 b1 => f2 b (by omega))
    refine ⟨fun _ => ⟨hG.1.1, gw.1, gw.2.2.2.2.2.1.1, k_lawCopy (by omega) gw.2.2.2.2.2.1 gl (by omega) (by omega) A2 ?_⟩, fun hz => absurd rfl hz⟩
    intro I3 f3 A3
    refine ⟨hG.1.1, ?_⟩
    intro I4 q4
    have b7 : I3 0 7 = S 38 := by rw [f3 0 (by omega), f2 0 (by omega), f1 0 (by omega)]; exact c8
    rw [b7, wr_id (x := S 38 + 1) (by omega) (by omega)] at q4
    have b74 : I4 0 7 = S 38 + 1 := by rw [q4, set_row, upR_same]
    rw [b74, wr_id (x := S 38 + 1 - 1) (by omega) (by omega), show S 38 + 1 - 1 = S 38 by omega]
    have ho : ∀ b, (b = 16 ∨ 24 ≤ b ∨ (3 ≤ b ∧ b < 9) ∨ b < 0) → I4 b = I b := fun b hb => by rw [q4, set_off _ (by omega), f3 b (by omega), f2 b (by omega), f1 b (by omega)]
    have gp : goodP S := ⟨hg, he⟩
    refine (h I4 ⟨fun b hb => ho b (by omega), fun j hj => by rw [q4, set_row, upR_ne _ (by omega), f3 0 (by omega), f2 0 (by omega), f1 0 (by omega)]⟩ (fun T hT => ?_)).1 gp
    have hT3 := hT.2.2.1 gp
    refine fin I4 T _ hT hT3.2 (A3.keep (by rw [q4, set_off _ (by omega)]) (fun b b0 b1 => by rw [q4, set_off _ (by omega)])) (fun b hb => ho b (by omega)) ?_ (by rw [b74, hT3.1])
    exact (q2.keep (by rw [q4, set_off _ (by omega), f3 _ (by omega)]) (by rw [q4, set_off _ (by omega), f3 _ (by omega)])).same rfl (fun k k0 k1 => by omega)
  · rw [hG.1.2.1]
    refine ⟨hG.1.1, g1.1, k_clear (by omega) (f := fun k => S (167 + k)) g1 ?_⟩
    intro I2 f2 q2
    have gp : ¬ goodP S := hg
    refine ⟨fun hz => absurd hz (by omega), fun _ => ?_⟩
    rw [wr_id (x := -10 - (parS (tpS S) (S 41)).2.1) (by omega) (by omega)]
    have ho : ∀ b, (b < 1 ∨ (3 ≤ b ∧ b < 9) ∨ 16 ≤ b) → I2 b = I b := fun b hb => by rw [f2 b (by omega), f1 b (by omega)]
    refine (h I2 ⟨fun b hb => ho b (by omega), fun j hj => by rw [ho 0 (by omega)]⟩ (fun T hT => ?_)).2 gp
    have hT4 := hT.2.2.2 gp
    obtain ⟨cls, hl, hA⟩ := c1.2.1
    refine fin I2 T cls hT (hT4.2 cls hl) (hA.keep (by rw [ho _ (by omega)]) (fun b b0 b1 => ho b (by omega))) (fun b hb => ho b (by omega)) (q2.same rfl (fun k k0 k1 => by omega)) (by rw [ho 0 (by omega), hT4.1]; exact c8)
end

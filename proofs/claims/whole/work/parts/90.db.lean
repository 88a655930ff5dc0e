/-! THE CLASS READS A LAW: what is joined -/
theorem facS0 {T : Row} {e k : Int} : facS T e 0 k = tesS T e k := by
  rw [facS]
  by_cases h : sgn8 T e k = 33 ∨ sgn8 T e k = 40
  · rw [if_pos h]
    unfold tesS
    rcases h with h | h <;> rw [h, if_pos (by decide)]
  · rw [if_neg h]
theorem bi_n (w : Bool) : (bi w = 0 ↔ w = false) := by cases w <;> simp [bi]
section
variable {G : mu_G} {a e : Int} {T : Row}
/-- the codes before one that is joined late -/
def cof (w : Bool) (co ci : List Int) : List Int := if w = true then co ++ ci ++ [-3] else ci
theorem k_any (hG : GL G a) (ha : 0 ≤ a) {x1 : Int} {F : Int → PRs} {dd D : Nat} (hDD : D ≤ 950) (hB : ∀ k, 0 ≤ k → k ≤ e → RB e k dd (F k))
  (hP : ∀ (d : Nat) (k : Int) (I : mu_M) (Q : Int → mu_G → mu_M → Prop), d < D → TXs G I → KS I a e T k → KR G a e T k I (F k) Q → mu_WP mu_code d 12 0 [(1, a), (0, x1), (3, 0)] [] G I Q)
  (d : Nat) (k : Int) (I : mu_M) (Q : Int → mu_G → mu_M → Prop) (hd : d + 1 < D) (hX : TXs G I) (hK : KS I a e T k) (h : KR G a e T k I (somS T e F k) Q) : mu_WP mu_code d 11 0 [(1, a), (0, x1), (3, 0), (3, 0), (3, 0)] [] G I Q := by
  have hb := hK.2.2
  have tx : ∀ {I1 : mu_M}, FRd a I I1 → TXs G I1 := fun hf => hX.keep (fun b hb => hf.1 b (by omega) (by omega))
  -- wrong: it ends
  have wrong : ∀ (w x4 k1 : Int) (I2 : mu_M), FRd a I I2 → KS I2 a e T k1 → (∀ I1, FRd a I I1 → KS I1 a e T k1 → Q 0 G I1) → mu_WP mu_code d 11 11 [(1, a), (0, x1), (0, 0), (0, w), (0, x4)] [] G I2 Q := by
    intro w x4 k1 I2 hf hk hq
    have wr1 : mu_WP mu_code (d + 1) 13 0 [(1, a), (0, (-3))] [] G I2 (fun r4 G5 I6 => ((0 : Int) = 0 ∨ (0 : Int) = 1) ∧ Q 0 G5 I6) := by
      refine k_write (by omega) hG ha _ ?_
      intro I3 f3 e3 _
      exact ⟨Or.inl rfl, hq I3 (hf.tr f3) (hk.fk f3 (by rw [e3]; exact hk.1.2) ⟨hk.2.2.1, hk.2.2.2.1⟩)⟩
    exact vc_11_11 (by omega) _ _ _ _ _ ⟨fun _ => ⟨fun _ => ⟨fun _ => ⟨Or.inl rfl, hq I2 hf hk⟩, fun _ => ⟨hG.1, wr1⟩⟩, fun hz => absurd rfl hz⟩, fun _ => ⟨fun _ => ⟨Or.inl rfl, hq I2 hf hk⟩, fun _ => ⟨hG.1, wr1⟩⟩⟩
  -- the loop
  have loop : ∀ (N m n : Nat) (k1 x4 : Int) (co ci : List Int) (w : Bool) (I2 : mu_M), e - k1 ≤ N → 0 ≤ x4 → x4 + 1 ≤ k1 → k ≤ k1 → 101 ≤ n + k1 → 101 ≤ m + k1 → KS I2 a e T k1 → FRd a I I2 → (w = false → co = []) → (∀ cs, KW I a cs → (cs.length : Int) ≤ k → KW I2 a (cs ++ (co ++ ci).map cv)) → (co.length : Int) + ci.length + bi w ≤ k1 - k →
      KR G a e T k I ((fun y : PRs => if y.1 = true then soL T e F m y.2.1 (cof w co y.2.2) else (false, y.2.1, [])) (evL T e F n k1 ci)) Q → mu_WP mu_code d 11 11 [(1, a), (0, x1), (0, 1), (0, bi w), (0, x4)] [] G I2 Q := by
    intro N
    induction N with
    | zero =>
      intro m n k1 x4 co ci w I2 hN hx0 hx hk hn hm hK2 hf hco hw hlen hr
      have hb2 := hK2.2.2
      have sg : sgn8 T e k1 = -1 := by unfold sgn8; rw [if_neg (by omega)]
      have en : evL T e F n k1 ci = (true, k1, ci) := by
        cases n with
        | zero => rfl
        | succ n => rw [evL, if_neg (by rw [sg]; decide)]
      have so : soL T e F m k1 (cof w co ci) = (true, k1, cof w co ci) := by
        cases m with
        | zero => rfl
        | succ m => rw [soL, if_neg (by rw [sg]; decide)]
      rw [en] at hr
      dsimp only at hr
      rw [if_pos rfl, so] at hr
      refine vc_11_11 (by omega) _ _ _ _ _ ⟨fun _ => ⟨fun hz => absurd hz (by decide), fun _ => ⟨hG.1, k_take1 (by omega) hG hK2 38 (by omega) (fun hs => absurd hs (by rw [sg]; decide)) (fun _ => ⟨fun _ => ⟨hG.1, k_take1 (by omega) hG hK2 124 (by omega) (fun hs => absurd hs (by rw [sg]; decide)) (fun _ => ⟨fun _ => ⟨fun hz => ⟨Or.inr rfl, ?_⟩, fun hz => ⟨hG.1, k_write (by omega) hG ha _ ?_⟩⟩, fun hz => absurd rfl hz⟩)⟩, fun hz => absurd rfl hz⟩)⟩⟩, fun h4 => absurd (show x4 < 100 by omega) h4⟩
      · have hw0 := (bi_n w).1 hz
        subst hw0
        rw [hco rfl] at hw
        exact hr.1 rfl I2 hf hK2 (fun cs hc hl => hw cs hc hl)
      · intro I3 f3 e3 w3
        have hw1 : w = true := by cases w <;> simp_all [bi]
        subst hw1
        refine ⟨Or.inr rfl, hr.1 rfl I3 (hf.tr f3) (hK2.fk f3 (by rw [e3]; exact hK2.1.2) ⟨hb2.1, hb2.2.1⟩) (fun cs hc hl => ?_)⟩
        have h1 := w3 _ (hw cs hc hl) (by simp [bi] at hlen ⊢; omega)
        unfold cof
        rw [if_pos rfl, List.map_append, ← List.append_assoc]
        exact h1
    | succ N ih =>
      intro m n k1 x4 co ci w I2 hN hx0 hx hk hn hm hK2 hf hco hw hlen hr
      have hb2 := hK2.2.2
      obtain ⟨m, rfl⟩ : ∃ m2, m = m2 + 1 := ⟨m - 1, by omega⟩
      obtain ⟨n, rfl⟩ : ∃ n2, n = n2 + 1 := ⟨n - 1, by omega⟩
      have e4 : wr (x4 + 1) = x4 + 1 := wr_id (by omega) (by omega)
      refine vc_11_11 (by omega) _ _ _ _ _ ⟨fun _ => ⟨fun hz => absurd hz (by decide), fun _ => ⟨hG.1, ?_⟩⟩, fun h4 => absurd (show x4 < 100 by omega) h4⟩
      rw [e4]
      rw [evL] at hr
      refine k_take1 (by omega) hG hK2 38 (by omega) (fun hs I3 f3 k3 => ⟨fun hz => absurd hz (by decide), fun _ => ⟨hG.1, ?_⟩⟩) (fun hs => ⟨fun _ => ⟨hG.1, ?_⟩, fun hz => absurd rfl hz⟩)
      · -- & joins
        rw [if_pos hs] at hr
        have hlt := sg_e hs (by omega)
        have hBk := hB (k1 + 1) (by omega) (by omega)
        refine hP (d + 1) (k1 + 1) I3 _ (by omega) (tx (hf.tr f3.rd)) k3 ⟨fun hg I4 f4 k4 w4 => ⟨hG.1, k_write (by omega) hG ha _ ?_⟩, fun hg I4 f4 k4 => ⟨hG.1, k_write (by omega) hG ha _ ?_⟩⟩
        · intro I5 f5 e5 w5
          rw [if_pos hg] at hr
          obtain ⟨hB1, hB2⟩ := hBk
          obtain ⟨hB3, hB4, hB5⟩ := hB2 hg
          have k5 := k4.fk f5 (by rw [e5]; exact k4.1.2) ⟨k4.2.2.1, k4.2.2.2.1⟩
          refine ih (m + 1) n (F (k1 + 1)).2.1 (x4 + 1) co (ci ++ (F (k1 + 1)).2.2 ++ [-2]) w I5 (by omega) (by omega) (by omega) (by omega) (by omega) (by omega) k5 (((hf.tr f3.rd).tr f4).tr f5) hco ?_ ?_ hr
          · intro cs hc hl
            have h1 := f3.kw (hw cs hc hl)
            have h2 := w4 _ h1 (by simp [bi] at hlen ⊢; omega)
            have h3 := w5 _ h2 (by simp [bi] at hlen ⊢; omega)
            have e6 : cs ++ (co ++ (ci ++ (F (k1 + 1)).2.2 ++ [-2])).map cv = cs ++ (co ++ ci).map cv ++ (F (k1 + 1)).2.2.map cv ++ [-2] := by
              simp [List.map_append, List.append_assoc, cv]
            rw [e6]
            exact h3
          · simp only [List.length_append, List.length_cons, List.length_nil] at hlen ⊢
            omega
        · intro I5 f5 e5 _
          rw [if_neg (by rw [hg]; decide)] at hr
          dsimp only at hr
          rw [if_neg (by decide)] at hr
          have k5 := k4.fk f5 (by rw [e5]; exact k4.1.2) ⟨k4.2.2.1, k4.2.2.2.1⟩
          exact wrong _ _ _ I5 (((hf.tr f3.rd).tr f4).tr f5) k5 (hr.2 rfl)
      · -- no &
        rw [if_neg hs] at hr
        dsimp only at hr
        rw [if_pos rfl, soL] at hr
        refine k_take1 (by omega) hG hK2 124 (by omega) (fun ho I3 f3 k3 => ⟨fun hz => absurd hz (by decide), fun _ => ?_⟩) (fun ho => ⟨fun _ => ?_, fun hz => absurd rfl hz⟩)
        · -- | joins
          rw [if_pos ho] at hr
          have hlt := sg_e ho (by omega)
          have hBk := hB (k1 + 1) (by omega) (by omega)
          -- what is behind |
          have behind : ∀ (I4 : mu_M), FRd a I I4 → KS I4 a e T (k1 + 1) → (∀ cs, KW I a cs → (cs.length : Int) ≤ k → KW I4 a (cs ++ (cof w co ci).map cv)) → ((cof w co ci).length : Int) + 1 ≤ k1 + 1 - k → mu_WP mu_code (d + 1) 12 0 [(1, a), (0, x1), (3, 0)] [] G I4 (fun r28 G29 I30 => mu_WP mu_code d 11 11 [(1, a), (0, x1), (0, r28), (0, 1), (0, x4 + 1)] [] G29 I30 Q) := by
            intro I4 f4 k4 w4 hl4
            generalize cof w co ci = C at *
            refine hP (d + 1) (k1 + 1) I4 _ (by omega) (tx f4) k4 ⟨fun hg I5 f5 k5 w5 => ?_, fun hg I5 f5 k5 => ?_⟩
            · obtain ⟨hB1, hB2⟩ := hBk
              obtain ⟨hB3, hB4, hB5⟩ := hB2 hg
              refine ih m 100 (F (k1 + 1)).2.1 (x4 + 1) C (F (k1 + 1)).2.2 true I5 (by omega) (by omega) (by omega) (by omega) (by omega) (by omega) k5 (f4.tr f5) (fun hz => by cases hz) ?_ ?_ ?_
              · intro cs hc hl
                have h2 := w5 _ (w4 cs hc hl) (by simp; omega)
                rw [List.map_append, ← List.append_assoc]
                exact h2
              · simp only [bi]
                omega
              · have e7 : evrS T e F (k1 + 1) = evL T e F 100 (F (k1 + 1)).2.1 (F (k1 + 1)).2.2 := by unfold evrS; rw [if_pos hg]
                rw [e7] at hr
                dsimp only
                unfold cof
                simp only [if_true]
                exact hr
            · have e7 : evrS T e F (k1 + 1) = (false, (F (k1 + 1)).2.1, []) := by unfold evrS; rw [if_neg (by rw [hg]; decide)]
              rw [e7] at hr
              dsimp only at hr
              rw [if_neg (by decide)] at hr
              exact wrong _ _ _ I5 (f4.tr f5) k5 (hr.2 rfl)
          refine ⟨fun hz => ⟨hG.1, ?_⟩, fun hz => ⟨hG.1, k_write (by omega) hG ha _ ?_⟩⟩
          · have hw0 := (bi_n w).1 hz
            subst hw0
            rw [hco rfl] at hw hlen
            refine behind I3 (hf.tr f3.rd) k3 (fun cs hc hl => f3.kw (hw cs hc hl)) ?_
            simp [bi, cof] at hlen ⊢
            omega
          · intro I4 f4 e5 w4
            have hw1 : w = true := by cases w <;> simp_all [bi]
            subst hw1
            refine ⟨hG.1, behind I4 ((hf.tr f3.rd).tr f4) (k3.fk f4 (by rw [e5]; exact k3.1.2) ⟨k3.2.2.1, k3.2.2.2.1⟩) (fun cs hc hl => ?_) ?_⟩
            · have h1 := w4 _ (f3.kw (hw cs hc hl)) (by simp [bi] at hlen ⊢; omega)
              unfold cof
              rw [if_pos rfl, List.map_append, ← List.append_assoc]
              exact h1
            · simp [bi, cof] at hlen ⊢
              omega
        · -- neither
          rw [if_neg ho] at hr
          refine ⟨fun hz => ⟨Or.inr rfl, ?_⟩, fun hz => ⟨hG.1, k_write (by omega) hG ha _ ?_⟩⟩
          · have hw0 := (bi_n w).1 hz
            subst hw0
            rw [hco rfl] at hw
            exact hr.1 rfl I2 hf hK2 (fun cs hc hl => hw cs hc hl)
          · intro I3 f3 e3 w3
            have hw1 : w = true := by cases w <;> simp_all [bi]
            subst hw1
            refine ⟨Or.inr rfl, hr.1 rfl I3 (hf.tr f3) (hK2.fk f3 (by rw [e3]; exact hK2.1.2) ⟨hb2.1, hb2.2.1⟩) (fun cs hc hl => ?_)⟩
            have h1 := w3 _ (hw cs hc hl) (by simp [bi] at hlen ⊢; omega)
            unfold cof
            rw [if_pos rfl, List.map_append, ← List.append_assoc]
            exact h1
  have hBk := hB k hb.1 hb.2.1
  refine vc_11_0 (by omega) _ _ ⟨hG.1, hP (d + 1) k I _ (by omega) hX hK ⟨fun hg I3 f3 k3 w3 => ?_, fun hg I3 f3 k3 => ?_⟩⟩
  · obtain ⟨hB1, hB2⟩ := hBk
    obtain ⟨hB3, hB4, hB5⟩ := hB2 hg
    refine loop (e - (F k).2.1).toNat 100 100 (F k).2.1 0 [] (F k).2.2 false I3 (by omega) (by omega) (by omega) (by omega) (by omega) (by omega) k3 f3 (fun _ => rfl) (fun cs hc hl => w3 cs hc hl) (by simp [bi]; omega) ?_
    have e7 : evrS T e F k = evL T e F 100 (F k).2.1 (F k).2.2 := by unfold evrS; rw [if_pos hg]
    unfold somS at h
    rw [e7] at h
    dsimp only
    unfold cof
    simp only [Bool.false_eq_true, if_false]
    exact h
  · have e7 : evrS T e F k = (false, (F k).2.1, []) := by unfold evrS; rw [if_neg (by rw [hg]; decide)]
    unfold somS at h
    rw [e7] at h
    dsimp only at h
    rw [if_neg (by decide)] at h
    exact wrong _ _ _ I3 f3 k3 (h.2 rfl)
theorem k_fac (hG : GL G a) (ha : 0 ≤ a) (hT : ∀ j, 0 ≤ j → j < e → 0 ≤ T j ∧ T j ≤ 127) : ∀ (r : Nat), r ≤ 5 → ∀ (d : Nat) (k : Int) (I : mu_M) (Q : Int → mu_G → mu_M → Prop), d < 950 - 4 * r → TXs G I → KS I a e T k → KR G a e T k I (facS T e r k) Q → mu_WP mu_code d 12 0 [(1, a), (0, 5 - (r : Int)), (3, 0)] [] G I Q := by
  intro r
  induction r with
  | zero =>
    intro _ d k I Q hd hX hK h
    rw [facS0] at h
    refine vc_12_0 (by omega) _ _ ⟨fun h1 => absurd h1 (by omega), fun _ => ⟨hG.1, k_test (by omega) hG ha hX hT hK ⟨fun hg I1 f1 k1 w1 => ⟨Or.inr rfl, h.1 hg I1 f1 k1 w1⟩, fun hg I1 f1 k1 => ⟨Or.inl rfl, h.2 hg I1 f1 k1⟩⟩⟩⟩
  | succ r ih =>
    intro hr d k I Q hd hX hK h
    have hb := hK.2.2
    rw [facS] at h
    have e5 : wr (5 - ((r + 1 : Nat) : Int) + 1) = 5 - (r : Int) := by rw [wr_id (by omega) (by omega)]; omega
    refine vc_12_0 (by omega) _ _ ⟨fun _ => ⟨hG.1, ?_⟩, fun h1 => absurd (by omega) h1⟩
    rw [e5]
    refine k_take1 (by omega) hG hK 33 (by omega) (fun hs I1 f1 k1 => ⟨fun hz => absurd hz (by decide), fun _ => ⟨hG.1, ?_⟩⟩) (fun hs => ⟨fun _ => ⟨fun _ => ⟨hG.1, ?_⟩, fun h1 => absurd (by omega) h1⟩, fun hz => absurd rfl hz⟩)
    · rw [if_pos hs] at h
      have hlt := sg_e hs (by omega)
      have hBk := facS_bd (T := T) (e := e) r (k + 1) (by omega) (by omega)
      have hX1 : TXs G I1 := hX.keep (fun b hb => f1.1 b (by omega))
      unfold neg at h
      refine ih (by omega) (d + 1) (k + 1) I1 _ (by omega) hX1 k1 ⟨fun hg I2 f2 k2 w2 => ⟨hG.1, k_write (by omega) hG ha _ ?_⟩, fun hg I2 f2 k2 => ⟨hG.1, k_write (by omega) hG ha _ ?_⟩⟩
      · intro I3 f3 e3 w3
        rw [if_pos hg] at h
        obtain ⟨hB1, hB2⟩ := hBk
        obtain ⟨hB3, hB4, hB5⟩ := hB2 hg
        refine ⟨Or.inr rfl, h.1 rfl I3 ((f1.rd.tr f2).tr f3) (k2.fk f3 (by rw [e3]; exact k2.1.2) ⟨k2.2.2.1, k2.2.2.2.1⟩) (fun cs hc hl => ?_)⟩
        have h1 := w3 _ (w2 cs (f1.kw hc) (by omega)) (by simp; omega)
        dsimp only
        rw [List.map_append, ← List.append_assoc]
        exact h1
      · intro I3 f3 e3 _
        rw [if_neg (by rw [hg]; decide)] at h
        exact ⟨Or.inl rfl, h.2 hg I3 ((f1.rd.tr f2).tr f3) (k2.fk f3 (by rw [e3]; exact k2.1.2) ⟨k2.2.2.1, k2.2.2.2.1⟩)⟩
    · rw [if_neg hs] at h
      refine k_take1 (by omega) hG hK 40 (by omega) (fun ho I1 f1 k1 => ⟨fun hz => absurd hz (by decide), fun _ => ⟨hG.1, ?_⟩⟩) (fun ho => ⟨fun _ => ⟨hG.1, ?_⟩, fun hz => absurd rfl hz⟩)
      · rw [if_pos ho] at h
        have hlt := sg_e ho (by omega)
        have hX1 : TXs G I1 := hX.keep (fun b hb => f1.1 b (by omega))
        unfold clo at h
        have hBk := somS_bd (T := T) (e := e) (F := facS T e r) (d := 2 * r + 1) (by omega) (fun k h0 hk => facS_bd r k h0 hk) (k := k + 1) (by omega) (by omega)
        refine k_any hG ha (F := facS T e r) (dd := 2 * r + 1) (D := 950 - 4 * r) (by omega) (fun k h0 hk => facS_bd r k h0 hk) (ih (by omega)) (d + 1) (k + 1) I1 _ (by omega) hX1 k1 ⟨fun hg I2 f2 k2 w2 => ⟨fun hz => absurd hz (by decide), fun _ => ⟨hG.1, ?_⟩⟩, fun hg I2 f2 k2 => ⟨fun _ => ?_, fun hz => absurd rfl hz⟩⟩
        · rw [if_pos hg] at h
          obtain ⟨hB1, hB2⟩ := hBk
          obtain ⟨hB3, hB4, hB5⟩ := hB2 hg
          refine k_take1 (by omega) hG k2 41 (by omega) (fun hq I3 f3 k3 => ⟨fun hz => absurd hz (by decide), fun _ => ?_⟩) (fun hq => ⟨fun _ => ?_, fun hz => absurd rfl hz⟩)
          · rw [if_pos hq] at h
            exact h.1 rfl I3 ((f1.rd.tr f2).tr f3.rd) k3 (fun cs hc hl => f3.kw (w2 cs (f1.kw hc) (by omega)))
          · rw [if_neg hq] at h
            exact h.2 rfl I2 (f1.rd.tr f2) k2
        · rw [if_neg (by rw [hg]; decide)] at h
          exact h.2 hg I2 (f1.rd.tr f2) k2
      · rw [if_neg ho] at h
        exact k_test (by omega) hG ha hX hT hK ⟨fun hg I1 f1 k1 w1 => ⟨Or.inr rfl, h.1 hg I1 f1 k1 w1⟩, fun hg I1 f1 k1 => ⟨Or.inl rfl, h.2 hg I1 f1 k1⟩⟩
end

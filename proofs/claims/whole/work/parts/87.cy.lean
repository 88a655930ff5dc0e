/-! THE CLASS'S CALLS: acts, image, undo, count -/
theorem CX.trace {G : mu_G} {I I1 : mu_M} {S : Row} {L L1 : List Int} (hX : CX G I S L) (hO : OkS S) (hf : FO 7 I I1) (ht : TC I1 L1) : CX G I1 S L1 := by
  obtain ⟨c1, c2, c3, c4, c5, c6, c7, c8⟩ := id hX
  exact hX.rows hO.1 hO.2.1 (fun b hb => hf b (by omega)) (fun j hj => rfl) (c4.keep (hf _ (by omega)) (hf _ (by omega))) (c5.keep (hf _ (by omega)) (hf _ (by omega))) (c6.keep (hf _ (by omega)) (hf _ (by omega))) ht (by rw [hf 0 (by omega)]; exact c8)
theorem mu_b_mem (c : Int) (cs : List Int) : mu_b (mu_sub c cs) = if c ∈ cs then 1 else 0 := by
  unfold mu_b
  by_cases h : c ∈ cs
  · rw [if_pos h, if_pos (mu_sub_iff.2 h)]
  · rw [if_neg h, if_neg (fun hc => h (mu_sub_iff.1 hc))]
section
variable {d : Nat} {G : mu_G} {I : mu_M} {Q : Int → mu_G → mu_M → Prop} {S M T : Row} {L : List Int}
theorem c_act (hd : d < 900) (hG : GS G) (hX : CX G I S L) (hO : OkS S) (p a x : Int)
  (h0 : ¬ ((0 ≤ p ∧ p < S 37) ∧ 0 ≤ a ∧ a ≤ 2) → ∀ I1, FX I I1 → CX G I1 S [] → Q 0 G I1)
  (h : ((0 ≤ p ∧ p < S 37) ∧ 0 ≤ a ∧ a ≤ 2) → ∀ I1, FX I I1 → CX G I1 S (actA (S (45 + p)) p (S (49 + p)) a x).2 → Q (actA (S (45 + p)) p (S (49 + p)) a x).1 G I1) : mu_WP mu_code d 138 0 [(1, 0), (0, p), (0, a), (0, x), (3, 0)] [] G I Q := by
  have o1 := hO.1
  have h4 := o1.2.1
  have gw := hG.2.2.2.1
  have g7 := hG.2.1.2.2.2
  have r3 : rf G 0 3 = 7 := hG.1.2.2.2.2.1
  have r5 := hG.1.2.2.2.2.2.2.1
  refine vc_138_0 (by omega) _ _ _ _ ?_
  rw [r3]
  refine ⟨hG.1.1, g7.1, k_clear (by omega) (f := fun k => ([] : List Int).getD k.toNat 0) g7 ?_⟩
  intro I1 f1 t1
  have t1 : TC I1 [] := t1.same rfl (fun _ _ _ => rfl)
  have x1 := hX.trace hO f1 t1
  rw [r5]
  refine ⟨hG.1.1, gw.1, k_personAt (by omega) gw x1.1 o1 p ?_⟩
  by_cases hp : 0 ≤ p ∧ p < S 37
  · rw [if_pos hp]
    have hp4 : 0 ≤ p ∧ p < 4 := by omega
    have gp := (gw.p hp4).2
    have P := x1.1.2.2.2 p hp.1 hp.2
    have j4 := (o1.2.2.2.2.1 p hp.1 hp.2).2.2.2.1
    have hA : AC G I1 (16 + 11 + 5 * p) (rf G (16 + 11 + 5 * p) 1) (S (45 + p)) p (S (49 + p)) := ⟨⟨gp.1, by omega⟩, ⟨P.1.1, P.1.2.1⟩, ⟨P.2.2.2.2.1, j4⟩, g7⟩
    refine ⟨fun hc => absurd hc (by omega), fun _ => ⟨fun h1 => ⟨gp.1, hG.1.1, ?_⟩, fun h1 => ⟨fun h2 => ⟨gp.1, hG.1.1, ?_⟩, fun h2 => ⟨fun h3 => ⟨gp.1, hG.1.1, ?_⟩, fun h3 => ?_⟩⟩⟩⟩
    · rw [r3]
      refine a_goD (by omega) hA t1 (by simp) x ?_
      intro I2 f2 t2
      have h := h ⟨hp, by omega⟩
      unfold actA at h
      rw [if_pos h1] at h
      exact vc_138_67 (by omega) _ _ _ _ _ _ (h I2 ((f1.tr f2).fx (by omega)) (hX.trace hO (f1.tr f2) t2))
    · rw [r3]
      refine a_paD (by omega) hA t1 (by simp) x ?_
      intro I2 f2 t2
      have h := h ⟨hp, by omega⟩
      unfold actA at h
      rw [if_neg h1, if_pos h2] at h
      exact vc_138_83 (by omega) _ _ _ _ _ _ (h I2 ((f1.tr f2).fx (by omega)) (hX.trace hO (f1.tr f2) t2))
    · rw [r3]
      refine a_teD (by omega) hA t1 (by simp) x ?_
      intro I2 f2 t2
      have h := h ⟨hp, by omega⟩
      unfold actA at h
      rw [if_neg h1, if_neg h2] at h
      exact vc_138_99 (by omega) _ _ _ _ _ _ (h I2 ((f1.tr f2).fx (by omega)) (hX.trace hO (f1.tr f2) t2))
    · exact h0 (by omega) I1 (f1.fx (by omega)) x1
  · rw [if_neg hp]
    exact ⟨fun _ => h0 (fun hc => hp hc.1) I1 (f1.fx (by omega)) x1, fun hc => absurd rfl hc⟩
theorem c_trace (hd : d < 900) (hG : GS G) (hX : CX G I S L) (hl : L.length ≤ 20) (i : Int) (h : Q (if 0 ≤ i ∧ i < L.length then L.getD i.toNat 0 else -1) G I) : mu_WP mu_code d 139 0 [(1, 0), (0, i)] [] G I Q := by
  have g7 := hG.2.1.2.2.2
  have r3 : rf G 0 3 = 7 := hG.1.2.2.2.2.1
  have rs := hX.2.2.2.2.2.2.1
  refine vc_139_0 (by omega) _ _ ⟨fun h1 => ?_, fun h1 => ?_⟩
  · rw [if_neg (by omega)] at h; exact h
  · rw [r3, rs.1.1]
    refine ⟨hG.1.1, g7.1, fun h2 => k_itemAt (by omega) g7 rs (by omega) i h, fun h2 => ?_⟩
    rw [if_neg (by omega)] at h; exact h
theorem k_isUnder (hd : d < 980) {K k : Int} (hK : sh G K = (kcl k, 0)) (hk : 0 ≤ k ∧ k ≤ 6) (j : Int) (hj : 0 ≤ j ∧ j ≤ 6) (h : Q (bi (under k j)) G I) : mu_WP mu_code d 141 0 [(1, K), (0, j)] [] G I Q := by
  have hc := kcl_of hk
  have wk : mu_wk (sh G K) := by
    rw [hK]
    unfold mu_wk
    rcases hc with ⟨_, e⟩ | ⟨_, e⟩ | ⟨_, e⟩ | ⟨_, e⟩ | ⟨_, e⟩ | ⟨_, e⟩ | ⟨_, e⟩ <;> rw [e] <;> simp
  have go : ∀ cs : List Int, mu_b (mu_sub (kcl k) cs) = bi (under k j) → mu_wk (sh G K) ∧ ((mu_b (mu_sub (sh G K).1 cs)) = 0 ∨ (mu_b (mu_sub (sh G K).1 cs)) = 1) ∧ Q (mu_b (mu_sub (sh G K).1 cs)) G I := by
    intro cs e
    refine ⟨wk, ?_, ?_⟩
    · rw [mu_b_mem]
      by_cases hm : (sh G K).1 ∈ cs
      · rw [if_pos hm]; exact Or.inr rfl
      · rw [if_neg hm]; exact Or.inl rfl
    · rw [hK]
      dsimp only
      rw [e]; exact h
  have hk7 : k = 0 ∨ k = 1 ∨ k = 2 ∨ k = 3 ∨ k = 4 ∨ k = 5 ∨ k = 6 := by omega
  have t : ∀ (j : Int) (cs : List Int), (∀ k : Int, (k = 0 ∨ k = 1 ∨ k = 2 ∨ k = 3 ∨ k = 4 ∨ k = 5 ∨ k = 6) → (if kcl k ∈ cs then (1 : Int) else 0) = bi (under k j)) → mu_b (mu_sub (kcl k) cs) = bi (under k j) := fun j cs hh => by rw [mu_b_mem]; exact hh k hk7
  refine vc_141_0 (by omega) _ _ ⟨fun h1 => go _ ?_, fun h1 => ⟨fun h2 => go _ ?_, fun h2 => ⟨fun h3 => go _ ?_, fun h3 => ⟨fun h4 => go _ ?_, fun h4 => ⟨fun h5 => go _ ?_, fun h5 => ⟨fun h6 => go _ ?_, fun h6 => ?_⟩⟩⟩⟩⟩⟩
  · subst h1
    exact t 1 _ (fun k hk => by rcases hk with e | e | e | e | e | e | e <;> subst e <;> decide)
  · subst h2
    exact t 2 _ (fun k hk => by rcases hk with e | e | e | e | e | e | e <;> subst e <;> decide)
  · subst h3
    exact t 3 _ (fun k hk => by rcases hk with e | e | e | e | e | e | e <;> subst e <;> decide)
  · subst h4
    exact t 4 _ (fun k hk => by rcases hk with e | e | e | e | e | e | e <;> subst e <;> decide)
  · subst h5
    exact t 5 _ (fun k hk => by rcases hk with e | e | e | e | e | e | e <;> subst e <;> decide)
  · subst h6
    exact t 6 _ (fun k hk => by rcases hk with e | e | e | e | e | e | e <;> subst e <;> decide)
  · have e : under k j = true := by unfold under; exact decide_eq_true (Or.inl (by omega))
    rw [e] at h; exact h
theorem c_as (hd : d < 900) (hG : GS G) (hX : CX G I S L) (hO : OkS S) (p k : Int) (h : Q (asS S p k) G I) : mu_WP mu_code d 140 0 [(1, 0), (0, p), (0, k), (3, 0)] [] G I Q := by
  have o1 := hO.1
  have h4 := o1.2.1
  have gw := hG.2.2.2.1
  have r5 := hG.1.2.2.2.2.2.2.1
  unfold asS at h
  refine vc_140_0 (by omega) _ _ _ ?_
  rw [r5]
  refine ⟨hG.1.1, gw.1, k_personAt (by omega) gw hX.1 o1 p ?_⟩
  by_cases hp : 0 ≤ p ∧ p < S 37
  · rw [if_pos hp]
    have hp4 : 0 ≤ p ∧ p < 4 := by omega
    have gp := (gw.p hp4).2
    have P := hX.1.2.2.2 p hp.1 hp.2
    have j4 := (o1.2.2.2.2.1 p hp.1 hp.2).2.2.2.1
    refine ⟨fun hc => absurd hc (by omega), fun _ => c_isKind (by omega) k ⟨fun h1 => ?_, fun h1 => ⟨gp.1, k_isUnder (by omega) P.2.2.2.2.1 j4 k (ifq h1) ?_⟩⟩⟩
    · rw [if_pos (fun hc => ifm h1 hc.2)] at h; exact h
    · rw [if_neg (fun hc => hc ⟨hp, ifq h1⟩)] at h
      rw [P.1.2.1]
      by_cases hu : under (S (45 + p)) k = true
      · rw [if_pos hu] at h
        rw [hu]
        exact ⟨fun hc => absurd hc (by decide), fun _ => ⟨gp.1, h⟩⟩
      · rw [if_neg hu] at h
        have hu2 : under (S (45 + p)) k = false := by simpa using hu
        rw [hu2]
        exact ⟨fun _ => h, fun hc => absurd rfl hc⟩
  · rw [if_neg hp]
    rw [if_pos (fun hc => hp hc.1)] at h
    exact ⟨fun _ => h, fun hc => absurd rfl hc⟩
theorem c_count (hd : d < 900) (hG : GS G) (hX : CX G I S L) (w : Int) (h : Q (if w = 5 then (L.length : Int) else if 0 ≤ w ∧ w ≤ 4 then S (37 + w) else -1) G I) : mu_WP mu_code d 144 0 [(1, 0), (0, w)] [] G I Q := by
  obtain ⟨c1, c2, c3, c4, c5, c6, c7, c8⟩ := id hX
  refine vc_144_0 (by omega) _ _ ?_
  rw [hG.1.2.1, hG.1.2.2.1, hG.1.2.2.2.1, hG.1.2.2.2.2.1, hG.1.2.2.2.2.2.2.1, c1.1.2.2.1, c8, c5.1.1, c6.1.1, c4.1.1, c7.1.2]
  refine ⟨fun h1 => ⟨hG.1.1, hG.2.2.2.1.1, ?_⟩, fun h1 => ⟨fun h2 => ⟨hG.1.1, ?_⟩, fun h2 => ⟨fun h3 => ⟨hG.1.1, hG.2.1.2.1.1, ?_⟩, fun h3 => ⟨fun h4 => ⟨hG.1.1, hG.2.1.2.2.1.1, ?_⟩, fun h4 => ⟨fun h5 => ⟨hG.1.1, hG.2.1.1.1, ?_⟩, fun h5 => ⟨fun h6 => ⟨hG.1.1, hG.2.1.2.2.2.1, ?_⟩, fun h6 => ?_⟩⟩⟩⟩⟩⟩
  · subst h1; exact h
  · subst h2; exact h
  · subst h3; exact h
  · subst h4; exact h
  · subst h5; exact h
  · subst h6; exact h
  · rw [if_neg h6, if_neg (by omega)] at h; exact h
end

/-! THE CLASS'S QUESTIONS: order -/
section
variable {d : Nat} {G : mu_G} {I : mu_M} {Q : Int → mu_G → mu_M → Prop} {S T : Row} {L : List Int} {a i : Int}
theorem TL_tr {p x : Int} (hO : OkS S) (hp : 0 ≤ p ∧ p < S 37) (hv : inO (crL S p) x = true) : TL S p (trO (crL S p) x) ∧ ((trO (crL S p) x).length : Int) = S (9 + p) := by
  obtain ⟨j1, j2, j3, j4, j5, j6, j7, j8⟩ := hO.1.2.2.2.2.1 p hp.1 hp.2
  have hl := crL_len j3
  have hc := crL_at j3
  refine ⟨?_, by rw [trO_len]; exact hl⟩
  intro q hq
  unfold trO at hq
  rw [List.mem_map] at hq
  obtain ⟨k, hk, he⟩ := hq
  rw [List.mem_range] at hk
  have hb := plL_bd (c := crL S p) (r := mu_ords.getD (x * 3 + (k : Int)).toNat 0) 3 0 (by omega)
  change plI (crL S p) x k = -1 ∨ (0 ≤ plI (crL S p) x k ∧ plI (crL S p) x k < (crL S p).length) at hb
  have h0 := inO_t.1 hv k (by omega) (by omega)
  have hpl : 0 ≤ plI (crL S p) x k ∧ plI (crL S p) x k < S (9 + p) := by omega
  rw [hc _ hpl.1 hpl.2] at he
  have hj := (j7 _ hpl.1 hpl.2).1
  rw [he] at hj
  exact ⟨hj.1, hj.2.1, by rw [debt_is hO.2.2.1 hp j3.2 hpl he]; omega⟩
theorem WD_tr {p x : Int} (hO : OkS S) (hp : 0 ≤ p ∧ p < S 37) (hv : inO (crL S p) x = true) : WD (odR S p (trO (crL S p) x) (S (9 + p))) 1000 := by
  obtain ⟨t1, t2⟩ := TL_tr hO hp hv
  have hW := hO.wd
  have h4 := hO.1.2.1
  obtain ⟨j1, j2, j3, j4, j5, j6, j7, j8⟩ := hO.1.2.2.2.2.1 p hp.1 hp.2
  refine ⟨odR_Inv hW.1 hp t1 t2, hW.2.1.same (fun j hj => ?_), ?_⟩
  · unfold odR
    rw [if_neg (by omega), if_neg (by omega)]
  · have := hW.2.2
    unfold odR
    rw [if_neg (by omega), if_neg (by omega)]
    omega
theorem c_tryOrder (hd : d < 880) (hG : GS G) (hX : CX G I S L) (hO : OkS S) (hM : ∀ j : Int, 0 ≤ j → j < 18 → I (-3) j = mu_ords.getD j.toNat 0) {p : Int} (hp : 0 ≤ p ∧ p < S 37) {x : Int} (hx : 0 ≤ x ∧ x < 6) (h0 : inO (crL S p) x = false → ∀ G1 I1, GS G1 → FT G G1 I I1 → CX G1 I1 S L → Q 0 G1 I1) (h1 : inO (crL S p) x = true → ∀ G1 I1, FT G G1 I I1 → TX G1 I1 S L (odR S p (trO (crL S p) x) (S (9 + p))) → Q 1 G1 I1) : mu_WP mu_code d 126 0 [(1, 0), (1, 16 + 11 + 5 * p), (0, x), (3, 0)] [] G I Q := by
  have o1 := hO.1
  have gw := hG.2.2.2.1
  have gt := hG.2.2.2.2.1
  have h4 := o1.2.1
  have hp4 : 0 ≤ p ∧ p < 4 := by omega
  have r5 := hG.1.2.2.2.2.2.2.1
  have r6 : rf G 0 6 = 47 := hG.1.2.2.2.2.2.2.2.1
  refine vc_126_0 (by omega) _ _ _ ?_
  rw [r5, r6]
  refine ⟨hG.1.1, gt.1, t_copy (by omega) hG hX hO ?_⟩
  intro G1 I1 f1 x1
  have gs1 := x1.1
  have gt1 := gs1.2.2.2.2.1
  have gw1 := gs1.2.2.2.1
  have r61 : rf G1 0 6 = 47 := gs1.1.2.2.2.2.2.2.2.1
  have P1 := x1.2.1.1.2.2.2 p hp.1 hp.2
  rw [r61, P1.1.1]
  refine ⟨gs1.1.1, (gw1.p hp4).2.1, gt1.1, k_personAt (by omega) gt1 x1.2.2 o1 p ?_⟩
  rw [if_pos hp]
  refine ⟨fun hc => absurd hc (by omega), fun _ => ⟨(gt1.p hp4).2.1, ?_⟩⟩
  refine c_takeInOrder (by omega) x1 hO (fun j a b => by rw [f1.2 _ (by omega)]; exact hM j a b) hp hx ?_ ?_
  · intro hv I2 f2 x2
    exact ⟨fun _ => h0 hv G1 I2 gs1 (f1.tr f2) x2, fun hc => absurd rfl hc⟩
  · intro hv I2 f2 x2
    exact ⟨fun hc => absurd hc (by decide), fun _ => h1 hv G1 I2 (f1.tr f2) x2⟩
theorem c_order (hd : d < 870) (hG : GS G) (hX : CX G I S L) (hO : OkS S) (hM : ∀ j : Int, 0 ≤ j → j < 18 → I (-3) j = mu_ords.getD j.toNat 0) (p k : Int) (h : ∀ G1 I1, GS G1 → FXg G G1 I I1 → CX G1 I1 S L → Q (orderS S p k) G1 I1) : mu_WP mu_code d 125 0 [(1, 0), (0, p), (0, k), (3, 0), (3, 0), (3, 0), (3, 0), (3, 0)] [] G I Q := by
  have o1 := hO.1
  have gw := hG.2.2.2.1
  have h4 := o1.2.1
  have r5 := hG.1.2.2.2.2.2.2.1
  have same : ∀ y, (∀ G1 I1, GS G1 → FXg G G1 I I1 → CX G1 I1 S L → Q y G1 I1) → Q y G I := fun y hy => hy G I hG (FX.rf I).g hX
  unfold orderS at h
  refine vc_125_0 (by omega) _ _ _ ?_
  rw [r5]
  refine ⟨hG.1.1, gw.1, k_personAt (by omega) gw hX.1 o1 p ?_⟩
  by_cases hp : 0 ≤ p ∧ p < S 37
  · rw [if_pos hp]
    have hp4 : 0 ≤ p ∧ p < 4 := by omega
    have none : ¬ (-1 ≤ k ∧ k ≤ 3) → Q (-1) G I := by
      intro hk
      rw [if_pos (fun hc => hk hc.2)] at h
      exact same _ h
    refine ⟨fun hc => absurd hc (by omega), fun _ => ⟨fun h1 => none (by omega), fun h1 => ⟨fun h2 => none (by omega), fun h2 => ?_⟩⟩⟩
    rw [if_neg (fun hn => hn ⟨hp, by omega, by omega⟩)] at h
    obtain ⟨j1, j2, j3, j4, j5, j6, j7, j8⟩ := o1.2.2.2.2.1 p hp.1 hp.2
    rw [← order_is o1 hO.2.2.1 hp] at h
    have hl := crL_len j3
    have hc := crL_at j3
    suffices H : ∀ (n : Nat) (x b : Int) (st : OSt) (v7 : mu_V) (G2 : mu_G) (I2 : mu_M), x + n = 6 → 0 ≤ x → ((b = -5 ∧ st = (-5, [])) ∨ ((0 ≤ b ∧ b < 6) ∧ inO (crL S p) b = true ∧ st.2 = trO (crL S p) b ∧ b ≠ -5)) → FT G G2 I I2 → GS G2 → CX G2 I2 S L → (∀ G1 I1, GS G1 → FXg G G1 I I1 → CX G1 I1 S L → Q (if k = -1 then ((ordL (crL S p) n x).foldl (fun st tr => tryS S p tr st) st).1 else if k = 3 then -5 else ((ordL (crL S p) n x).foldl (fun st tr => tryS S p tr st) st).2.getD k.toNat (-5)) G1 I1) → mu_WP mu_code d 125 36 [(1, 0), (0, p), (0, k), (1, 16 + 11 + 5 * p), (0, b), (0, st.1), (0, x), v7] [] G2 I2 Q from
      H 6 0 (-5) (-5, []) _ G I (by omega) (by omega) (Or.inl ⟨rfl, rfl⟩) (FT.rf' G I) hG hX h
    clear h none same
    intro n
    induction n with
    | zero =>
      intro x b st v7 G2 I2 hx x0 hb hf gs2 x2 hh
      have hh := hh G2 I2 gs2 hf.g x2
      rw [ordL, List.foldl_nil] at hh
      refine vc_125_36 (by omega) _ _ _ _ _ _ _ _ ⟨fun h3 => absurd h3 (by omega), fun _ => ⟨fun h3 => ?_, fun h3 => ⟨fun h5 => ?_, fun h5 => ?_⟩⟩⟩
      · rw [if_pos h3] at hh; exact hh
      · rw [if_neg h3] at hh
        rcases hb with hb | hb
        · rw [hb.2] at hh
          simp at hh
          exact hh
        · exact absurd h5 hb.2.2.2
      · rw [if_neg h3] at hh
        rcases hb with hb | hb
        · exact absurd hb.1 h5
        have gp2 := (gs2.2.2.2.1.p hp4).2
        have P2 := x2.1.2.2.2 p hp.1 hp.2
        rw [P2.1.2.2.2.2.2]
        have k0 : 0 ≤ k := by omega
        refine ⟨gp2.1, fun h6 => ?_, fun h6 => ?_⟩
        · refine k_placeInOrder (by omega) gp2 P2 j3 gs2.2.2.2.2.2.2.2.2.1 (fun j a b => by rw [hf.2 _ (by omega)]; exact hM j a b) hl hc b k hb.1 (by omega) ⟨gp2.1, k_creditorAt (by omega) gp2 P2 j3.2 _ ?_⟩
          have hbd := plL_bd (c := crL S p) (r := mu_ords.getD (b * 3 + k).toNat 0) 3 0 (by omega)
          change plI (crL S p) b k = -1 ∨ (0 ≤ plI (crL S p) b k ∧ plI (crL S p) b k < (crL S p).length) at hbd
          have hv := inO_t.1 hb.2.1 k k0 (by omega)
          rw [if_pos ⟨hv, by omega⟩]
          rw [if_neg (by omega), hb.2.2.1, trO_at k k0 (by omega), hc _ hv (by omega)] at hh
          exact hh
        · have e : st.2.getD k.toNat (-5) = -5 := by
            rw [hb.2.2.1]
            have : (trO (crL S p) b).length ≤ k.toNat := by rw [trO_len]; omega
            simp [List.getD, this]
          rw [e] at hh
          by_cases h7 : k = 3
          · rw [if_pos h7] at hh; exact hh
          · rw [if_neg h7] at hh; exact hh
    | succ n ih =>
      intro x b st v7 G2 I2 hx x0 hb hf gs2 x2 hh
      rw [ordL] at hh
      have e7 : wr (x + 1) = x + 1 := wr_id (by omega) (by omega)
      refine vc_125_36 (by omega) _ _ _ _ _ _ _ _ ⟨fun _ => ?_, fun h3 => absurd (by omega) h3⟩
      rw [e7]
      refine ⟨gs2.1.1, c_tryOrder (by omega) gs2 x2 hO (fun j a b => by rw [hf.2 _ (by omega)]; exact hM j a b) hp ⟨x0, by omega⟩ ?_ ?_⟩
      · intro hv G3 I3 gs3 f3 x3
        rw [hv] at hh
        refine ⟨fun _ => ih (x + 1) b st v7 G3 I3 (by omega) (by omega) hb (hf.tr f3) gs3 x3 hh, fun hc => absurd rfl hc⟩
      · intro hv G3 I3 f3 x3
        rw [hv, if_pos rfl, List.singleton_append, List.foldl_cons] at hh
        refine ⟨fun hc => absurd hc (by decide), fun _ => ⟨x3.1.1.1, ?_⟩⟩
        have w3 := WD_tr hO hp hv
        have e37 : odR S p (trO (crL S p) x) (S (9 + p)) 37 = S 37 := by unfold odR; rw [if_neg (by omega), if_neg (by omega)]
        refine t_firstDay (by omega) x3 o1 (w3.lo (by omega)) 1 p 0 (Or.inr (by rw [e37]; exact ⟨hp.1, hp.2, Or.inl rfl⟩)) ?_
        intro I4 f4 ⟨U, x4⟩
        have e : soC 1 p 0 = fun T => decide (T (9 + p) = 0) := by funext T; simp [soC]
        rw [e, show ffS (fun T : Row => decide (T (9 + p) = 0)) 61 0 (odR S p (trO (crL S p) x) (S (9 + p))) = freeF (odR S p (trO (crL S p) x) (S (9 + p))) p from rfl]
        refine c_isSooner (by omega) _ _ ?_
        have ft := hf.tr (f3.tr f4)
        rw [show tryS S p (trO (crL S p) x) st = if freeF (odR S p (trO (crL S p) x) (S (9 + p))) p ≠ -5 ∧ (st.1 = -5 ∨ freeF (odR S p (trO (crL S p) x) (S (9 + p))) p < st.1) then (freeF (odR S p (trO (crL S p) x) (S (9 + p))) p, trO (crL S p) x) else st from rfl] at hh
        generalize freeF (odR S p (trO (crL S p) x) (S (9 + p))) p = m at *
        by_cases ho : m ≠ -5 ∧ (st.1 = -5 ∨ m < st.1)
        · rw [if_pos ho]
          refine ⟨fun hc => absurd hc (by decide), fun _ => ?_⟩
          exact ih (x + 1) x (m, trO (crL S p) x) _ G3 I4 (by omega) (by omega) (Or.inr ⟨⟨x0, by omega⟩, hv, rfl, by omega⟩) ft x4.1 x4.2.1 (by rw [if_pos ho] at hh; exact hh)
        · rw [if_neg ho]
          refine ⟨fun _ => ?_, fun hc => absurd rfl hc⟩
          exact ih (x + 1) b st _ G3 I4 (by omega) (by omega) hb ft x4.1 x4.2.1 (by rw [if_neg ho] at hh; exact hh)
  · rw [if_neg hp]
    rw [if_pos (fun hc => hp hc.1)] at h
    exact ⟨fun _ => same _ h, fun hn => absurd rfl hn⟩
end

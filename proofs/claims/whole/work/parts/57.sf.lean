/-! QUESTIONS TO THE REFERENCE: the order of debts, the walk -/
section
variable {d : Nat} {G : mu_G} {I : mu_M} {Q : Int → mu_G → mu_M → Prop}
theorem r_ordersFrom (hM : MR G) {S : Row} (p : Int) (hp : 0 ≤ p ∧ p < S 37) (hW : WD S 100) (hD : Dst S) : ∀ (m : Nat) (d : Nat) (tr : List Int) (u : Int) (I : mu_M) (st : OSt) (Q : Int → mu_G → mu_M → Prop), d + m < 940 → I 116 = S → KP S I → TL S p tr → (tr.length : Int) + m = S (9 + p) → UB u tr → (∀ j : Int, 0 ≤ j → j < tr.length → I 124 j = tr.getD j.toNat 0) → BO I st → (∀ I1, FE I I1 → I1 116 = S → KP S I1 → (∀ j : Int, j < tr.length → I1 124 j = I 124 j) → BO I1 (oF S p m tr st) → Q 0 G I1) → mu_WP mu_code d 202 0 [(1, 115), (0, p), (0, (tr.length : Int)), (0, S (9 + p)), (0, u), (3, 0)] [] G I Q := by
  have h4 := hW.1.2.1
  obtain ⟨j1, j2, j3, j4, j5, j6, j7, j8⟩ := hW.1.2.2.2.2.1 p hp.1 hp.2
  intro m
  induction m with
  | zero =>
    intro d tr u I st Q hd hr hK ht hl hu h17 hB h
    refine vc_202_0 (by omega) _ _ _ _ _ ⟨fun _ => ⟨hM.1, r_triesOrder (by omega) hM p hp hW hD hr hK ht (by omega) (fun j j0 j1 => h17 j j0 (by omega)) hB ?_⟩, fun h1 => absurd (by omega) h1⟩
    intro I1 f1 r1 k1 o1 b1
    exact h I1 f1 r1 k1 (fun j _ => by rw [o1]) b1
  | succ m ih =>
    intro d tr u I st Q hd hr hK ht hl hu h17 hB h
    refine vc_202_0 (by omega) _ _ _ _ _ ⟨fun h1 => absurd h1 (by omega), fun _ => ?_⟩
    rw [oF] at h
    suffices H : ∀ (n : Nat) (q : Int) (st1 : OSt) (I2 : mu_M), q + n = 4 → 0 ≤ q → FE I I2 → I2 116 = S → KP S I2 → (∀ j : Int, j < tr.length → I2 124 j = I 124 j) → BO I2 st1 → (∀ I1, FE I I1 → I1 116 = S → KP S I1 → (∀ j : Int, j < tr.length → I1 124 j = I 124 j) → BO I1 (qfL (fun q st => oF S p m (tr ++ [q]) st) S p tr n q st1) → Q 0 G I1) → mu_WP mu_code d 202 15 [(1, 115), (0, p), (0, (tr.length : Int)), (0, S (9 + p)), (0, u), (0, q)] [] G I2 Q from
      H 4 0 st I (by omega) (by omega) (FE.rf I) hr hK (fun _ _ => rfl) hB h
    intro n
    induction n with
    | zero =>
      intro q st1 I2 hq q0 f2 r2 k2 o2 b2 hh
      refine vc_202_15 (by omega) _ _ _ _ _ _ ?_
      simp only [hM, r2]
      exact ⟨trivial, by grind, fun h1 => absurd h1 (by omega), fun _ => hh I2 f2 r2 k2 o2 b2⟩
    | succ n ihn =>
      intro q st1 I2 hq q0 f2 r2 k2 o2 b2 hh
      rw [qfL] at hh
      have e1 : wr (q + 1) = q + 1 := wr_id (by omega) (by omega)
      have e2 : wr ((tr.length : Int) + 1) = (tr.length : Int) + 1 := wr_id (by omega) (by omega)
      refine vc_202_15 (by omega) _ _ _ _ _ _ ?_
      simp only [hM, r2, e1, e2]
      refine ⟨trivial, by (try simp only [true_and]); omega, fun h1 => ?_, fun h1 => ?_⟩
      · rw [if_pos h1] at hh
        refine r_debtTo (by omega) hM p q (by omega) (by rw [r2]; omega) ?_
        rw [r2]
        have skip : ¬ (debtTo S p q ≠ -1 ∧ q ∉ tr) → mu_WP mu_code d 202 15 [(1, 115), (0, p), (0, (tr.length : Int)), (0, S (9 + p)), (0, u), (0, q + 1)] [] G I2 Q := by
          intro hn
          rw [if_neg hn] at hh
          exact ihn (q + 1) st1 I2 (by omega) (by omega) f2 r2 k2 o2 b2 hh
        refine ⟨fun h2 => skip (fun hc => hc.1 h2), fun h2 => ⟨fun h3 => ?_, fun h3 => skip (fun hc => h3 ((hu.2 q q0 (by omega)).2 hc.2))⟩⟩
        have hnt := (hu.2 q q0 (by omega)).1 h3
        rw [if_pos ⟨h2, hnt⟩] at hh
        simp only [hM]
        refine ⟨trivial, by (try simp only [true_and]); omega, ?_⟩
        intro I3 q3
        have hlen : ((tr ++ [q]).length : Int) = (tr.length : Int) + 1 := by simp
        have o3 : ∀ j : Int, j < tr.length → I3 124 j = I 124 j := by
          intro j hj
          rw [q3, set_row, upR_ne _ (by omega)]
          exact o2 j hj
        have hrec := ih (d + 1) (tr ++ [q]) (mu_or u (mu_shl 1 q)) I3 st1 (fun _ G15 I16 => mu_WP mu_code d 202 15 [(1, 115), (0, p), (0, (tr.length : Int)), (0, S (9 + p)), (0, u), (0, q + 1)] [] G15 I16 Q) (by omega) (by rw [q3, set_off _ (by decide)]; exact r2) ⟨fun j j0 j1 => by rw [q3, set_off _ (by decide)]; exact k2.1 j j0 j1, fun j hj => by rw [q3, set_off _ (by decide)]; exact k2.2 j hj⟩ ?_ (by rw [hlen]; omega) (hu.add ⟨q0, by omega⟩) ?_ (b2.keep (by rw [q3, set_off _ (by decide)]) (by rw [q3, set_off _ (by decide)])) ?_
        · rw [hlen] at hrec
          exact hrec
        · intro x hx
          simp only [List.mem_append, List.mem_singleton] at hx
          rcases hx with hx | hx
          · exact ht x hx
          · rw [hx]; exact ⟨q0, h1, h2⟩
        · intro j j0 j1
          rw [hlen] at j1
          by_cases hj : j = tr.length
          · rw [q3, hj, set_row, upR_same]
            simp [List.getD]
          · rw [o3 j (by omega), h17 j j0 (by omega)]
            have hlt : j.toNat < tr.length := by omega
            simp [List.getD, List.getElem?_append_left hlt]
        · intro I4 f4 r4 k4 o4 b4
          refine ihn (q + 1) _ I4 (by omega) (by omega) ((f2.tr (q3 ▸ FE.w I2 (b := 124) _ _ (by simp))).tr f4) r4 k4 ?_ b4 hh
          intro j hj
          rw [o4 j (by rw [hlen]; omega)]
          exact o3 j hj
      · rw [if_neg h1] at hh
        exact hh I2 f2 r2 k2 o2 b2
theorem r_order (hd : d < 920) (hM : MR G) (p k : Int) (hW : WD (I 116) 100) (hD : Dst (I 116)) (h : ∀ I1, FE I I1 → I1 116 = I 116 → Q (orderS (I 116) p k) G I1) : mu_WP mu_code d 201 0 [(1, 115), (0, p), (0, k), (3, 0)] [] G I Q := by
  have h4 := hW.1.2.1
  unfold orderS at h
  refine vc_201_0 (by omega) _ _ _ ⟨hM.1, r_isPerson (by omega) hM p h4 ⟨fun h1 => ?_, fun h1 => r_in (by omega) _ _ _ ⟨fun h2 => ?_, fun h2 => ⟨hM.1, ?_⟩⟩⟩⟩
  · rw [if_pos (fun hc => ifn h1 hc.1)] at h; exact h I (FE.rf I) rfl
  · rw [if_pos (fun hc => ifm h2 hc.2)] at h; exact h I (FE.rf I) rfl
  have hp := ifp h1
  have hk := ifq h2
  rw [if_neg (fun hc => hc ⟨hp, hk⟩)] at h
  clear h1 h2
  obtain ⟨j1, j2, j3, j4, j5, j6, j7, j8⟩ := hW.1.2.2.2.2.1 p hp.1 hp.2
  intro I1 q1
  have f1 : FE I I1 := ⟨fun b hb => by rw [q1, set_off _ (by omega)], fun j a b c => by rw [q1, set_row, upR_ne _ c]⟩
  suffices H : ∀ (n : Nat) (j : Int) (I2 : mu_M), j + n = 3 → 0 ≤ j → FE I I2 → I2 116 = I 116 → I2 115 19 = -5 → (∀ i : Int, 0 ≤ i → i < j → I2 125 i = -5) → mu_WP mu_code d 201 27 [(1, 115), (0, p), (0, k), (0, j)] [] G I2 Q from
    H 3 0 I1 (by omega) (by omega) f1 (by rw [q1, set_off _ (by decide)]) (by rw [q1, set_row, upR_same]) (fun i i0 i1 => by omega)
  intro n
  induction n with
  | succ n ih =>
    intro j I2 hj j0 f2 r2 b19 b25
    have e1 : wr (j + 1) = j + 1 := wr_id (by omega) (by omega)
    refine vc_201_27 (by omega) _ _ _ _ ⟨fun _ => ?_, fun h1 => absurd h1 (by omega)⟩
    simp only [hM, e1]
    refine ⟨trivial, by (try simp only [true_and]); omega, ?_⟩
    intro I3 q3
    refine ih (j + 1) I3 (by omega) (by omega) (f2.tr (q3 ▸ FE.w I2 (b := 125) _ _ (by simp))) (by rw [q3, set_off _ (by decide)]; exact r2) (by rw [q3, set_off _ (by decide)]; exact b19) ?_
    intro i i0 i1
    rw [q3, set_row, upR_at]
    by_cases hij : i = j
    · rw [if_pos hij]
    · rw [if_neg hij]; exact b25 i i0 (by omega)
  | zero =>
    intro j I2 hj j0 f2 r2 b19 b25
    refine vc_201_27 (by omega) _ _ _ _ ⟨fun h1 => absurd h1 (by omega), fun _ => ⟨hM.1, r_keeps (by omega) hM ?_⟩⟩
    intro I3 f3 r3 o3 k3
    rw [r2] at r3 k3
    have e1 : wr (9 + p) = 9 + p := wr_id (by omega) (by omega)
    simp only [hM, e1, r3]
    refine ⟨trivial, by (try simp only [true_and]); omega, ?_⟩
    have B3 : BO I3 (-5, []) := ⟨by rw [o3 115 (by decide)]; exact b19, fun i i0 i1 => by rw [o3 125 (by decide), b25 i i0 (by omega)]; rfl⟩
    refine r_ordersFrom hM p hp hW hD (I 116 (9 + p)).toNat (d + 1) [] 0 I3 (-5, []) _ (by omega) r3 k3 (fun x hx => by cases hx) (by simp; omega) UB.nil (fun j j0 j1 => by simp at j1; omega) B3 ?_
    intro I4 f4 r4 k4 o4 b4
    generalize oF (I 116) p (I 116 (9 + p)).toNat [] (-5, []) = st at *
    have f14 : FE I I4 := (f2.tr f3).tr f4
    refine ⟨fun h1 => ⟨hM.1, ?_⟩, fun h1 => ⟨fun h2 => ?_, fun h2 => ?_⟩⟩
    · rw [if_pos h1] at h
      rw [b4.1]
      exact h I4 f14 r4
    · rw [if_neg h1, if_pos h2] at h
      exact h I4 f14 r4
    · rw [if_neg h1, if_neg h2] at h
      simp only [hM]
      refine ⟨trivial, by (try simp only [true_and]); omega, ?_⟩
      rw [b4.2 k (by omega) (by omega)]
      exact h I4 f14 r4
end

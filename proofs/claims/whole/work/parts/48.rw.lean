/-! QUESTIONS TO THE REFERENCE: again -/
noncomputable def pb (c : Prop) : Bool := @decide c (Classical.propDecidable c)
theorem pb_t {c : Prop} (h : c) : pb c = true := by unfold pb; exact @decide_eq_true c (Classical.propDecidable c) h
theorem pb_f {c : Prop} (h : ¬ c) : pb c = false := by unfold pb; exact @decide_eq_false c (Classical.propDecidable c) h
theorem pb_iff {c : Prop} : pb c = true ↔ c := by
  by_cases h : c
  · exact ⟨fun _ => h, fun _ => pb_t h⟩
  · exact ⟨fun h1 => absurd (h1.symm.trans (pb_f h)) (by decide), fun h1 => absurd h1 h⟩
theorem pb_eq {c e : Prop} (h : c ↔ e) : pb c = pb e := by rw [propext h]
def sameP (T B : Row) (w p : Int) : Prop := T (1 + p) = B (1 + p) ∧ (w ≠ 0 ∨ (T (5 + p) = B (5 + p) ∧ T (9 + p) = B (9 + p) ∧ ∀ k, 0 ≤ k → k < T (9 + p) → T (13 + 3 * p + k) = B (13 + 3 * p + k) ∧ T (25 + 3 * p + k) = B (25 + 3 * p + k)))
def asK (T B : Row) (w : Int) : Prop := ∀ p, 0 ≤ p → p < T 37 → sameP T B w p
theorem asK_same {T B B1 : Row} {w : Int} (hI : Inv T) (h : ∀ j, 0 ≤ j → j < 37 → B j = B1 j) : asK T B w ↔ asK T B1 w := by
  have h4 := hI.2.1
  have key : ∀ p, 0 ≤ p → p < T 37 → (sameP T B w p ↔ sameP T B1 w p) := by
    intro p p0 p1
    have j3 := (hI.2.2.2.2.1 p p0 p1).2.2.1
    unfold sameP
    rw [h (1 + p) (by omega) (by omega), h (5 + p) (by omega) (by omega), h (9 + p) (by omega) (by omega)]
    have hk : (∀ k, 0 ≤ k → k < T (9 + p) → T (13 + 3 * p + k) = B (13 + 3 * p + k) ∧ T (25 + 3 * p + k) = B (25 + 3 * p + k)) ↔ (∀ k, 0 ≤ k → k < T (9 + p) → T (13 + 3 * p + k) = B1 (13 + 3 * p + k) ∧ T (25 + 3 * p + k) = B1 (25 + 3 * p + k)) := by
      constructor
      · intro hh k k0 k1
        rw [← h _ (by omega) (by omega), ← h _ (by omega) (by omega)]
        exact hh k k0 k1
      · intro hh k k0 k1
        rw [h _ (by omega) (by omega), h _ (by omega) (by omega)]
        exact hh k k0 k1
    rw [hk]
  exact ⟨fun hh p p0 p1 => (key p p0 p1).1 (hh p p0 p1), fun hh p p0 p1 => (key p p0 p1).2 (hh p p0 p1)⟩
noncomputable def againS (S : Row) (w : Int) : Int := if ¬ (0 ≤ w ∧ w ≤ 1) then -1 else ffS (fun T => pb (asK T S w)) 60 1 (dayS S)
section
variable {d : Nat} {G : mu_G} {I : mu_M} {Q : Int → mu_G → mu_M → Prop}
theorem r_isAsKept (hd : d < 960) (hM : MR G) (w : Int) (hI : Inv (I 116)) (h : ∀ b, (b = 0 ∨ b = 1) → (b = 1 ↔ asK (I 116) (I 118) w) → Q b G I) : mu_WP mu_code d 199 0 [(1, 115), (0, w), (3, 0), (3, 0), (3, 0)] [] G I Q := by
  have h4 := hI.2.1
  refine vc_199_0 (by omega) _ _ ?_
  suffices H : ∀ (n : Nat) (p b : Int) (v4 : mu_V), p + n = 4 → 0 ≤ p → (b = 0 ∨ b = 1) → (b = 1 ↔ ∀ q, 0 ≤ q → q < p → q < I 116 37 → sameP (I 116) (I 118) w q) → mu_WP mu_code d 199 4 [(1, 115), (0, w), (0, b), (0, p), v4] [] G I Q from
    H 4 0 1 _ (by omega) (by omega) (Or.inr rfl) ⟨fun _ q q0 q1 => absurd q1 (by omega), fun _ => rfl⟩
  have fin : ∀ (p b : Int) (v4 : mu_V), ¬ p < I 116 37 → (b = 0 ∨ b = 1) → (b = 1 ↔ ∀ q, 0 ≤ q → q < p → q < I 116 37 → sameP (I 116) (I 118) w q) → mu_WP mu_code d 199 4 [(1, 115), (0, w), (0, b), (0, p), v4] [] G I Q := by
    intro p b v4 hp hb hs
    refine vc_199_4 (by omega) _ _ _ _ _ ?_
    simp only [hM]
    refine ⟨trivial, by grind, fun h1 => absurd h1 hp, fun _ => ⟨hb, h b hb ?_⟩⟩
    rw [hs]
    exact ⟨fun hh q q0 q1 => hh q q0 (by omega) q1, fun hh q q0 _ q1 => hh q q0 q1⟩
  intro n
  induction n with
  | zero =>
    intro p b v4 hp h0 hb hs
    exact fin p b v4 (by omega) hb hs
  | succ n ih =>
    intro p b v4 hp h0 hb hs
    by_cases hlt : p < I 116 37
    · obtain ⟨j1, j2, j3, j4, j5, j6, j7, j8⟩ := hI.2.2.2.2.1 p h0 hlt
      have e1 : wr (1 + p) = 1 + p := wr_id (by omega) (by omega)
      have e2 : wr (5 + p) = 5 + p := wr_id (by omega) (by omega)
      have e3 : wr (9 + p) = 9 + p := wr_id (by omega) (by omega)
      have e4 : wr (3 * p) = 3 * p := wr_id (by omega) (by omega)
      have e5 : wr (13 + 3 * p) = 13 + 3 * p := wr_id (by omega) (by omega)
      have e6 : wr (25 + 3 * p) = 25 + 3 * p := wr_id (by omega) (by omega)
      have e7 : wr (p + 1) = p + 1 := wr_id (by omega) (by omega)
      have next : ∀ (b : Int) (v4 : mu_V), (b = 0 ∨ b = 1) → (b = 1 ↔ (∀ q, 0 ≤ q → q < p → q < I 116 37 → sameP (I 116) (I 118) w q) ∧ sameP (I 116) (I 118) w p) → mu_WP mu_code d 199 4 [(1, 115), (0, w), (0, b), (0, p + 1), v4] [] G I Q := by
        intro b v4 hb hs
        refine ih (p + 1) b v4 (by omega) (by omega) hb ?_
        rw [hs]
        constructor
        · rintro ⟨h1, h2⟩ q q0 q1 q2
          by_cases hqp : q = p
          · rw [hqp]; exact h2
          · exact h1 q q0 (by omega) q2
        · intro hh
          exact ⟨fun q q0 q1 q2 => hh q q0 (by omega) q2, hh p h0 (by omega) hlt⟩
      have inner : ∀ (m : Nat) (k b : Int), k + m = 3 → 0 ≤ k → k ≤ I 116 (9 + p) → (b = 0 ∨ b = 1) → (b = 1 ↔ (∀ q, 0 ≤ q → q < p → q < I 116 37 → sameP (I 116) (I 118) w q) ∧ I 116 (1 + p) = I 118 (1 + p) ∧ (w ≠ 0 ∨ (I 116 (5 + p) = I 118 (5 + p) ∧ I 116 (9 + p) = I 118 (9 + p) ∧ ∀ i, 0 ≤ i → i < k → I 116 (13 + 3 * p + i) = I 118 (13 + 3 * p + i) ∧ I 116 (25 + 3 * p + i) = I 118 (25 + 3 * p + i)))) → mu_WP mu_code d 199 91 [(1, 115), (0, w), (0, b), (0, p), (0, k)] [] G I Q := by
        have stop : ∀ (k b : Int), ¬ k < I 116 (9 + p) → k ≤ I 116 (9 + p) → (b = 0 ∨ b = 1) → (b = 1 ↔ (∀ q, 0 ≤ q → q < p → q < I 116 37 → sameP (I 116) (I 118) w q) ∧ I 116 (1 + p) = I 118 (1 + p) ∧ (w ≠ 0 ∨ (I 116 (5 + p) = I 118 (5 + p) ∧ I 116 (9 + p) = I 118 (9 + p) ∧ ∀ i, 0 ≤ i → i < k → I 116 (13 + 3 * p + i) = I 118 (13 + 3 * p + i) ∧ I 116 (25 + 3 * p + i) = I 118 (25 + 3 * p + i)))) → mu_WP mu_code d 199 91 [(1, 115), (0, w), (0, b), (0, p), (0, k)] [] G I Q := by
          intro k b hk hk2 hb hs
          refine vc_199_91 (by omega) _ _ _ _ _ ?_
          simp only [hM, e3, e7]
          refine ⟨trivial, by grind, fun h1 => absurd h1 hk, fun _ => next b _ hb ?_⟩
          rw [hs]
          have hkk : k = I 116 (9 + p) := by omega
          subst hkk
          rfl
        intro m
        induction m with
        | zero =>
          intro k b hk k0 hk2 hb hs
          exact stop k b (by omega) hk2 hb hs
        | succ m ihm =>
          intro k b hk k0 hk2 hb hs
          by_cases hkl : k < I 116 (9 + p)
          · have e8 : wr (13 + 3 * p + k) = 13 + 3 * p + k := wr_id (by omega) (by omega)
            have e9 : wr (25 + 3 * p + k) = 25 + 3 * p + k := wr_id (by omega) (by omega)
            have e10 : wr (k + 1) = k + 1 := wr_id (by omega) (by omega)
            refine vc_199_91 (by omega) _ _ _ _ _ ?_
            simp only [hM, e3, e4, e5, e6, e7, e8, e9, e10]
            refine ⟨trivial, by grind, fun _ => ⟨fun h1 => ?_, fun h1 => ⟨fun h2 => ?_, fun h2 => ?_⟩⟩, fun h1 => absurd hkl h1⟩
            · refine next b _ hb ?_
              subst h1
              constructor
              · intro h; omega
              · rintro ⟨g1, g2, g3⟩
                refine hs.2 ⟨g1, g2, ?_⟩
                rcases g3 with g3 | ⟨g4, g5, g6⟩
                · exact Or.inl g3
                · exact Or.inr ⟨g4, g5, fun i i0 i1 => g6 i i0 (by omega)⟩
            · have hb1 : b = 1 := by omega
              obtain ⟨g1, g2, g3⟩ := hs.1 hb1
              have g3 : I 116 (5 + p) = I 118 (5 + p) ∧ I 116 (9 + p) = I 118 (9 + p) ∧ ∀ i, 0 ≤ i → i < k → I 116 (13 + 3 * p + i) = I 118 (13 + 3 * p + i) ∧ I 116 (25 + 3 * p + i) = I 118 (25 + 3 * p + i) := by
                rcases g3 with g3 | g3
                · exact absurd h2 g3
                · exact g3
              have no : ∀ (hn : ¬ (I 116 (13 + 3 * p + k) = I 118 (13 + 3 * p + k) ∧ I 116 (25 + 3 * p + k) = I 118 (25 + 3 * p + k))), mu_WP mu_code d 199 91 [(1, 115), (0, w), (0, 0), (0, p), (0, k + 1)] [] G I Q := by
                intro hn
                refine ihm (k + 1) 0 (by omega) (by omega) (by omega) (Or.inl rfl) ⟨fun h => by omega, ?_⟩
                rintro ⟨_, _, f3⟩
                rcases f3 with f3 | f3
                · exact absurd h2 f3
                · exact absurd (f3.2.2 k k0 (by omega)) hn
              refine ⟨by grind, by grind, fun h3 => ⟨by grind, by grind, fun h5 => ?_, fun h5 => no (fun hc => h5 hc.2)⟩, fun h3 => no (fun hc => h3 hc.1)⟩
              refine ihm (k + 1) 1 (by omega) (by omega) (by omega) (Or.inr rfl) ⟨fun _ => ⟨g1, g2, Or.inr ⟨g3.1, g3.2.1, ?_⟩⟩, fun _ => rfl⟩
              intro i i0 i1
              by_cases hik : i = k
              · rw [hik]; exact ⟨h3, h5⟩
              · exact g3.2.2 i i0 (by omega)
            · refine next b _ hb ?_
              rw [hs]
              constructor
              · rintro ⟨g1, g2, g3⟩
                exact ⟨g1, g2, Or.inl h2⟩
              · rintro ⟨g1, g2, g3⟩
                exact ⟨g1, g2, Or.inl h2⟩
          · exact stop k b hkl hk2 hb hs
      have zero : ∀ (hn : ¬ ((∀ q, 0 ≤ q → q < p → q < I 116 37 → sameP (I 116) (I 118) w q) ∧ I 116 (1 + p) = I 118 (1 + p) ∧ (w ≠ 0 ∨ (I 116 (5 + p) = I 118 (5 + p) ∧ I 116 (9 + p) = I 118 (9 + p))))), mu_WP mu_code d 199 91 [(1, 115), (0, w), (0, 0), (0, p), (0, 0)] [] G I Q := by
        intro hn
        refine inner 3 0 0 (by omega) (by omega) (by omega) (Or.inl rfl) ⟨fun h => by omega, ?_⟩
        rintro ⟨g1, g2, g3⟩
        refine absurd ⟨g1, g2, ?_⟩ hn
        rcases g3 with g3 | g3
        · exact Or.inl g3
        · exact Or.inr ⟨g3.1, g3.2.1⟩
      have one : ((∀ q, 0 ≤ q → q < p → q < I 116 37 → sameP (I 116) (I 118) w q) ∧ I 116 (1 + p) = I 118 (1 + p) ∧ (w ≠ 0 ∨ (I 116 (5 + p) = I 118 (5 + p) ∧ I 116 (9 + p) = I 118 (9 + p)))) → mu_WP mu_code d 199 91 [(1, 115), (0, w), (0, 1), (0, p), (0, 0)] [] G I Q := by
        rintro ⟨g1, g2, g3⟩
        refine inner 3 0 1 (by omega) (by omega) (by omega) (Or.inr rfl) ⟨fun _ => ⟨g1, g2, ?_⟩, fun _ => rfl⟩
        rcases g3 with g3 | g3
        · exact Or.inl g3
        · exact Or.inr ⟨g3.1, g3.2, fun i i0 i1 => absurd i1 (by omega)⟩
      refine vc_199_4 (by omega) _ _ _ _ _ ?_
      simp only [hM, e1, e2, e3]
      refine ⟨trivial, by grind, fun _ => ⟨fun h1 => ?_, fun h1 => ?_⟩, fun h1 => absurd hlt h1⟩
      · refine zero (fun hc => ?_)
        have := hs.2 hc.1
        omega
      · have g1 := hs.1 (by omega)
        refine ⟨by grind, by grind, fun h2 => ⟨fun h3 => ⟨by grind, by grind, fun h5 => ⟨by grind, by grind, fun h6 => one ⟨g1, h2, Or.inr ⟨h5, h6⟩⟩, fun h6 => zero (fun hc => ?_)⟩, fun h5 => zero (fun hc => ?_)⟩, fun h3 => one ⟨g1, h2, Or.inl h3⟩⟩, fun h2 => zero (fun hc => h2 hc.2.1)⟩
        · rcases hc.2.2 with hc | hc
          · exact hc h3
          · exact h6 hc.2
        · rcases hc.2.2 with hc | hc
          · exact hc h3
          · exact h5 hc.1
    · exact fin p b v4 hlt hb hs
theorem r_again (hd : d < 950) (hM : MR G) (w : Int) (hW : WD (I 116) 100) (h : ∀ I1, FE I I1 → I1 116 = I 116 → Q (againS (I 116) w) G I1) : mu_WP mu_code d 198 0 [(1, 115), (0, w), (3, 0), (3, 0)] [] G I Q := by
  unfold againS at h
  refine vc_198_0 (by omega) _ _ ?_
  refine r_in (by omega) _ _ _ ⟨fun h1 => ?_, fun h1 => ?_⟩
  · rw [if_pos (by intro hc; rw [if_pos hc] at h1; omega)] at h
    exact h I (FE.rf I) rfl
  have hw : 0 ≤ w ∧ w ≤ 1 := by
    by_cases hc : 0 ≤ w ∧ w ≤ 1
    · exact hc
    · rw [if_neg hc] at h1; exact absurd rfl h1
  rw [if_neg (by intro hc; exact hc hw)] at h
  refine ⟨hM.1, r_keeps (by omega) hM ?_⟩
  intro I1 f1 r1 _ k1
  have out : ∀ (x n : Int) (I2 : mu_M), (x ≠ -5 ∨ 60 < n) → FE I I2 → KP (I 116) I2 → (∀ I1, FE I I1 → I1 116 = I 116 → Q x G I1) → mu_WP mu_code d 198 20 [(1, 115), (0, w), (0, x), (0, n)] [] G I2 Q := by
    intro x n I2 hx hf hK hq
    have go : mu_WP mu_code (d + 1) 192 0 [(1, 115), (3, 0)] [] G I2 (fun _ G1 I3 => Q x G1 I3) := by
      refine r_goesBack (by omega) hM hK ?_
      intro I3 f3 r3
      exact hq I3 (hf.tr f3.fe) r3
    exact vc_198_20 (by omega) _ _ _ _ ⟨fun _ => ⟨hM.1, go⟩, fun h1 => ⟨fun h2 => absurd h2 (by omega), fun _ => ⟨hM.1, go⟩⟩⟩
  suffices H : ∀ (m : Nat) (n : Int) (I2 : mu_M), n + m = 61 → 0 ≤ n → FE I I2 → KP (I 116) I2 → WD (I2 116) m → (∀ I1, FE I I1 → I1 116 = I 116 → Q (ffS (fun T => pb (asK T (I 116) w)) m n (dayS (I2 116))) G I1) → mu_WP mu_code d 198 20 [(1, 115), (0, w), (0, -5), (0, n)] [] G I2 Q from
    H 60 1 I1 (by omega) (by omega) f1 k1 (by rw [r1]; exact hW.lo (by omega)) (by rw [r1]; exact h)
  intro m
  induction m with
  | zero =>
    intro n I2 hn h0 hf hK hw2 hq
    exact out _ _ I2 (by omega) hf hK hq
  | succ m ih =>
    intro n I2 hn h0 hf hK hw2 hq
    have e3 : wr (n + 1) = n + 1 := wr_id (by omega) (by omega)
    have tail : ∀ (w1 : Int), (w1 = w) → ∀ (I3 : mu_M), FE I I3 → I3 116 = dayS (I2 116) → KP (I 116) I3 → WD (I3 116) m → mu_WP mu_code (d + 1) 199 0 [(1, 115), (0, w1), (3, 0), (3, 0), (3, 0)] [] G I3 (fun r G1 I4 => (r = 0 → mu_WP mu_code d 198 20 [(1, 115), (0, w), (0, -5), (0, n + 1)] [] G1 I4 Q) ∧ (¬ r = 0 → mu_WP mu_code d 198 20 [(1, 115), (0, w), (0, n), (0, n + 1)] [] G1 I4 Q)) := by
      intro w1 hw1 I3 f3 r3 k3 w3
      subst hw1
      refine r_isAsKept (by omega) hM _ w3.1 ?_
      intro b hb hs
      have hs2 : b = 1 ↔ asK (I3 116) (I 116) w1 := hs.trans (asK_same w3.1 (fun j j0 j1 => k3.1 j j0 j1))
      rw [ffS, ← r3] at hq
      refine ⟨fun hc => ?_, fun hc => ?_⟩
      · rw [if_neg (by rw [pb_iff, ← hs2]; omega)] at hq
        exact ih (n + 1) I3 (by omega) (by omega) f3 k3 w3 hq
      · rw [if_pos (by rw [pb_iff, ← hs2]; omega)] at hq
        exact out n (n + 1) I3 (by omega) f3 k3 hq
    refine vc_198_20 (by omega) _ _ _ _ ⟨fun hx => absurd hx (by omega), fun _ => ⟨fun _ => ⟨hM.1, r_day1 (by omega) hM hK hw2 ?_⟩, fun hx => absurd rfl hx⟩⟩
    intro I3 f3 r3 k3 w3
    rw [e3]
    exact ⟨fun h1 => ⟨hM.1, tail 1 h1.symm I3 (hf.tr f3.fe) r3 k3 w3⟩, fun h1 => ⟨hM.1, tail 0 (by omega) I3 (hf.tr f3.fe) r3 k3 w3⟩⟩
end

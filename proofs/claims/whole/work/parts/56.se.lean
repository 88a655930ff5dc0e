/-! QUESTIONS TO THE REFERENCE: the order of debts -/
def odR (S : Row) (p : Int) (tr : List Int) (k : Int) : Row := fun j => if 13 + 3 * p ≤ j ∧ j < 13 + 3 * p + k then tr.getD (j - 13 - 3 * p).toNat 0 else if 25 + 3 * p ≤ j ∧ j < 25 + 3 * p + k then S (25 + 3 * p + debtTo S p (tr.getD (j - 25 - 3 * p).toNat 0)) else S j
/-- what is best so far: when, and to whom -/
abbrev OSt : Type := Int × List Int
def tryS (S : Row) (p : Int) (tr : List Int) (st : OSt) : OSt := if freeF (odR S p tr (S (9 + p))) p ≠ -5 ∧ (st.1 = -5 ∨ freeF (odR S p tr (S (9 + p))) p < st.1) then (freeF (odR S p tr (S (9 + p))) p, tr) else st
def qfL (f : Int → OSt → OSt) (S : Row) (p : Int) (tr : List Int) : Nat → Int → OSt → OSt
  | 0, _, st => st
  | n + 1, q, st => if q < S 37 then (if debtTo S p q ≠ -1 ∧ q ∉ tr then qfL f S p tr n (q + 1) (f q st) else qfL f S p tr n (q + 1) st) else st
def oF (S : Row) (p : Int) : Nat → List Int → OSt → OSt
  | 0, tr, st => tryS S p tr st
  | m + 1, tr, st => qfL (fun q st => oF S p m (tr ++ [q]) st) S p tr 4 0 st
def orderS (S : Row) (p k : Int) : Int := if ¬ ((0 ≤ p ∧ p < S 37) ∧ -1 ≤ k ∧ k ≤ 3) then -1 else if k = -1 then (oF S p (S (9 + p)).toNat [] (-5, [])).1 else if k = 3 then -5 else (oF S p (S (9 + p)).toNat [] (-5, [])).2.getD k.toNat (-5)
def bitF (u q : Int) : Int := mu_and (mu_shr u q) 1
theorem bits_ok : ∀ u : Fin 16, ∀ q : Fin 4, (0 ≤ mu_or (u.val : Int) (mu_shl 1 (q.val : Int)) ∧ mu_or (u.val : Int) (mu_shl 1 (q.val : Int)) < 16) ∧ ∀ r : Fin 4, (bitF (mu_or (u.val : Int) (mu_shl 1 (q.val : Int))) (r.val : Int) = 0 ↔ (r ≠ q ∧ bitF (u.val : Int) (r.val : Int) = 0)) := by decide +kernel
theorem bits_0 : ∀ r : Fin 4, bitF 0 (r.val : Int) = 0 := by decide +kernel
/-- the bits of those in the list -/
def UB (u : Int) (tr : List Int) : Prop := (0 ≤ u ∧ u < 16) ∧ ∀ q, 0 ≤ q → q < 4 → (bitF u q = 0 ↔ q ∉ tr)
theorem UB.nil : UB 0 [] := ⟨by omega, fun q q0 q1 => ⟨fun _ => by simp, fun _ => by
  have := bits_0 ⟨q.toNat, by omega⟩
  simp only [show ((q.toNat : Nat) : Int) = q by omega] at this
  exact this⟩⟩
theorem UB.add {u : Int} {tr : List Int} {q : Int} (h : UB u tr) (hq : 0 ≤ q ∧ q < 4) : UB (mu_or u (mu_shl 1 q)) (tr ++ [q]) := by
  obtain ⟨h1, h2⟩ := h
  have hb := bits_ok ⟨u.toNat, by omega⟩ ⟨q.toNat, by omega⟩
  simp only [show ((u.toNat : Nat) : Int) = u by omega, show ((q.toNat : Nat) : Int) = q by omega] at hb
  refine ⟨hb.1, fun r r0 r1 => ?_⟩
  have hr := hb.2 ⟨r.toNat, by omega⟩
  simp only [show ((r.toNat : Nat) : Int) = r by omega] at hr
  rw [hr, h2 r r0 r1]
  have hne : (⟨r.toNat, by omega⟩ : Fin 4) ≠ ⟨q.toNat, by omega⟩ ↔ r ≠ q := by
    constructor
    · intro hh e
      exact hh (by simp [e])
    · intro hh e
      have := congrArg Fin.val e
      simp at this
      omega
  rw [hne]
  simp only [List.mem_append, List.mem_singleton, not_or]
  exact ⟨fun ⟨a, b⟩ => ⟨b, a⟩, fun ⟨a, b⟩ => ⟨b, a⟩⟩
theorem debt_is {S : Row} {p q k : Int} (hD : Dst S) (hp : 0 ≤ p ∧ p < S 37) (h9 : S (9 + p) ≤ 3) (hk : 0 ≤ k ∧ k < S (9 + p)) (hq : S (13 + 3 * p + k) = q) : debtTo S p q = k := by
  have hs : debtTo S p q ≠ -1 := by
    intro hn
    exact dT_none 3 0 (by omega) hn k hk.1 (by omega) hk.2 hq
  obtain ⟨a1, a2, a3, a4⟩ := dT_some 3 0 (by omega) hs
  change 0 ≤ debtTo S p q at a1
  change debtTo S p q < S (9 + p) at a3
  change S (13 + 3 * p + debtTo S p q) = q at a4
  rcases Int.lt_trichotomy (debtTo S p q) k with h | h | h
  · exact absurd (a4.trans hq.symm) (hD p hp.1 hp.2 _ _ a1 h hk.2)
  · exact h
  · exact absurd (hq.trans a4.symm) (hD p hp.1 hp.2 _ _ hk.1 h a3)
/-- a row of those to whom one owes -/
def TL (S : Row) (p : Int) (tr : List Int) : Prop := ∀ q ∈ tr, 0 ≤ q ∧ q < S 37 ∧ debtTo S p q ≠ -1
theorem TL.at {S : Row} {p : Int} {tr : List Int} (h : TL S p tr) (k : Nat) (hk : k < tr.length) : 0 ≤ tr.getD k 0 ∧ tr.getD k 0 < S 37 ∧ debtTo S p (tr.getD k 0) ≠ -1 := by
  have e : tr.getD k 0 = tr[k] := by simp [List.getD, hk]
  rw [e]
  exact h _ (List.getElem_mem hk)
theorem odR_Inv {S : Row} {p : Int} {tr : List Int} (h : Inv S) (hp : 0 ≤ p ∧ p < S 37) (ht : TL S p tr) (hl : (tr.length : Int) = S (9 + p)) : Inv (odR S p tr (S (9 + p))) := by
  have h4 := h.2.1
  obtain ⟨j1, j2, j3, j4, j5, j6, j7, j8⟩ := h.2.2.2.2.1 p hp.1 hp.2
  have off : ∀ j, (j < 13 + 3 * p ∨ 13 + 3 * p + 3 ≤ j) → (j < 25 + 3 * p ∨ 25 + 3 * p + 3 ≤ j) → odR S p tr (S (9 + p)) j = S j := by
    intro j a b
    unfold odR
    rw [if_neg (by omega), if_neg (by omega)]
  refine h.one (p := p) (by omega) ?_ (fun j hj => off j (by omega) (by omega)) ?_ ?_
  · rw [off 0 (by omega) (by omega)]; exact h.1
  · intro q q0 q1 hqp
    refine ⟨off _ (by omega) (by omega), off _ (by omega) (by omega), off _ (by omega) (by omega), fun k k0 k1 => ⟨off _ (by omega) (by omega), off _ (by omega) (by omega)⟩⟩
  · intro _
    refine ⟨by rw [off (1 + p) (by omega) (by omega), off 43 (by omega) (by omega), off 44 (by omega) (by omega)]; exact j1, by rw [off _ (by omega) (by omega)]; exact j2, by rw [off _ (by omega) (by omega)]; exact j3, by rw [off _ (by omega) (by omega)]; exact j4, by rw [off _ (by omega) (by omega)]; exact j5, by rw [off (53 + p) (by omega) (by omega), off 43 (by omega) (by omega), off 44 (by omega) (by omega)]; exact j6, ?_, ?_⟩
    · intro k k0 k1
      rw [off (9 + p) (by omega) (by omega)] at k1
      obtain ⟨t1, t2, t3⟩ := ht.at k.toNat (by omega)
      obtain ⟨a1, a2, a3, a4⟩ := dT_some 3 0 (by omega) t3
      have b1 := j7 _ a1 a3
      rw [a4] at b1
      have e1 : odR S p tr (S (9 + p)) (13 + 3 * p + k) = tr.getD k.toNat 0 := by
        unfold odR
        rw [if_pos (by omega), show 13 + 3 * p + k - 13 - 3 * p = k by omega]
      have e2 : odR S p tr (S (9 + p)) (25 + 3 * p + k) = S (25 + 3 * p + debtTo S p (tr.getD k.toNat 0)) := by
        unfold odR
        rw [if_neg (by omega), if_pos (by omega), show 25 + 3 * p + k - 25 - 3 * p = k by omega]
      rw [e1, e2, off 37 (by omega) (by omega)]
      exact b1
    · intro k k0 k1
      rw [off _ (by omega) (by omega)]
      exact j8 k k0 k1
theorem odR_step {S : Row} {p : Int} {tr : List Int} {k i : Int} (hk : 0 ≤ k ∧ k < 3) : odR S p tr (k + 1) i = if i = 13 + 3 * p + k then tr.getD k.toNat 0 else if i = 25 + 3 * p + k then S (25 + 3 * p + debtTo S p (tr.getD k.toNat 0)) else odR S p tr k i := by
  unfold odR
  by_cases h1 : i = 13 + 3 * p + k
  · have c : 13 + 3 * p ≤ i ∧ i < 13 + 3 * p + (k + 1) := by omega
    rw [if_pos c, if_pos h1, show i - 13 - 3 * p = k by omega]
  · rw [if_neg h1]
    by_cases h2 : i = 25 + 3 * p + k
    · have c : ¬ (13 + 3 * p ≤ i ∧ i < 13 + 3 * p + (k + 1)) := by omega
      have e : 25 + 3 * p ≤ i ∧ i < 25 + 3 * p + (k + 1) := by omega
      rw [if_neg c, if_pos e, if_pos h2, show i - 25 - 3 * p = k by omega]
    · rw [if_neg h2]
      by_cases c1 : 13 + 3 * p ≤ i ∧ i < 13 + 3 * p + k
      · have c : 13 + 3 * p ≤ i ∧ i < 13 + 3 * p + (k + 1) := by omega
        rw [if_pos c, if_pos c1]
      · have c : ¬ (13 + 3 * p ≤ i ∧ i < 13 + 3 * p + (k + 1)) := by omega
        rw [if_neg c, if_neg c1]
        by_cases c2 : 25 + 3 * p ≤ i ∧ i < 25 + 3 * p + k
        · have e : 25 + 3 * p ≤ i ∧ i < 25 + 3 * p + (k + 1) := by omega
          rw [if_pos e, if_pos c2]
        · have e : ¬ (25 + 3 * p ≤ i ∧ i < 25 + 3 * p + (k + 1)) := by omega
          rw [if_neg e, if_neg c2]
/-- what is kept of the best order -/
def BO (I : mu_M) (st : OSt) : Prop := I 115 19 = st.1 ∧ ∀ j : Int, 0 ≤ j → j < 3 → I 125 j = st.2.getD j.toNat (-5)
theorem BO.keep {I I1 : mu_M} {st : OSt} (h : BO I st) (h1 : I1 115 19 = I 115 19) (h2 : I1 125 = I 125) : BO I1 st := ⟨by rw [h1]; exact h.1, by rw [h2]; exact h.2⟩
/-- freeFrom leaves more than that alone -/
def FF (I I1 : mu_M) : Prop := (∀ b, b ≠ 115 → b ≠ 116 → b ≠ 119 → b ≠ 120 → b ≠ 121 → b ≠ 122 → b ≠ 123 → I1 b = I b) ∧ ∀ j, j ≠ 12 → j ≠ 13 → I1 115 j = I 115 j
section
variable {d : Nat} {G : mu_G} {I : mu_M} {Q : Int → mu_G → mu_M → Prop}
theorem r_freeFromD (hd : d < 960) (hM : MR G) {S : Row} (p : Int) (hp : 0 ≤ p ∧ p < 4) (hK : KP S I) (hW : WD (I 116) 61) (h : ∀ I1, FD I I1 → KP S I1 → Q (freeF (I 116) p) G I1) : mu_WP mu_code d 195 0 [(1, 115), (0, p), (3, 0)] [] G I Q := by
  have e1 : wr (9 + p) = 9 + p := wr_id (by omega) (by omega)
  refine vc_195_0 (by omega) _ _ ?_
  suffices H : ∀ (m : Nat) (n : Int) (I2 : mu_M), n + m = 61 → 0 ≤ n → FD I I2 → KP S I2 → WD (I2 116) m → (∀ I1, FD I I1 → KP S I1 → Q (ffS (fun T => decide (T (9 + p) = 0)) m n (I2 116)) G I1) → mu_WP mu_code d 195 2 [(1, 115), (0, p), (0, n)] [] G I2 Q from
    H 61 0 I (by omega) (by omega) (FD.rf I) hK hW h
  intro m
  induction m with
  | zero =>
    intro n I2 hn h0 hf hK hw hq
    exact vc_195_2 (by omega) _ _ _ ⟨fun _ => hq I2 hf hK, fun h1 => absurd h1 (by omega)⟩
  | succ m ih =>
    intro n I2 hn h0 hf hK hw hq
    have e3 : wr (n + 1) = n + 1 := wr_id (by omega) (by omega)
    refine vc_195_2 (by omega) _ _ _ ⟨fun h1 => absurd h1 (by omega), fun _ => ?_⟩
    simp only [hM, e1, e3]
    rw [ffS] at hq
    refine ⟨trivial, by grind, fun hc => ?_, fun hc => ?_⟩
    · rw [if_pos (by simpa using hc)] at hq
      exact hq I2 hf hK
    · rw [if_neg (by simpa using hc)] at hq
      refine r_day1 (by omega) hM hK hw ?_
      intro I3 f3 r3 k3 w3
      exact ih (n + 1) I3 (by omega) (by omega) (hf.tr f3) k3 w3 (by rw [r3]; exact hq)
theorem r_triesOrder (hd : d < 950) (hM : MR G) {S : Row} (p : Int) (hp : 0 ≤ p ∧ p < S 37) (hW : WD S 100) (hD : Dst S) (hr : I 116 = S) (hK : KP S I) {tr : List Int} (ht : TL S p tr) (hl : (tr.length : Int) = S (9 + p)) (h17 : ∀ j : Int, 0 ≤ j → j < S (9 + p) → I 124 j = tr.getD j.toNat 0) {st : OSt} (hB : BO I st) (h : ∀ I1, FE I I1 → I1 116 = S → KP S I1 → I1 124 = I 124 → BO I1 (tryS S p tr st) → Q 0 G I1) : mu_WP mu_code d 203 0 [(1, 115), (0, p), (0, S (9 + p)), (3, 0), (3, 0)] [] G I Q := by
  have h4 := hW.1.2.1
  obtain ⟨j1, j2, j3, j4, j5, j6, j7, j8⟩ := hW.1.2.2.2.2.1 p hp.1 hp.2
  have e1 : wr (3 * p) = 3 * p := wr_id (by omega) (by omega)
  have e2 : wr (13 + 3 * p) = 13 + 3 * p := wr_id (by omega) (by omega)
  have e3 : wr (25 + 3 * p) = 25 + 3 * p := wr_id (by omega) (by omega)
  refine vc_203_0 (by omega) _ _ _ ?_
  -- the end: try it
  have fin : ∀ (k : Int) (v4 : mu_V) (I2 : mu_M), ¬ k < S (9 + p) → FR I I2 → I2 116 = odR S p tr (S (9 + p)) → KP S I2 → mu_WP mu_code d 203 2 [(1, 115), (0, p), (0, S (9 + p)), (0, k), v4] [] G I2 Q := by
    intro k v4 I2 hk hf hr2 hK2
    have w2 : WD (I2 116) 61 := by
      rw [hr2]
      refine ⟨odR_Inv hW.1 hp ht hl, hW.2.1.same (fun j hj => ?_), ?_⟩
      · unfold odR
        rw [if_neg (by omega), if_neg (by omega)]
      · have := hW.2.2
        unfold odR
        rw [if_neg (by omega), if_neg (by omega)]
        omega
    refine vc_203_2 (by omega) _ _ _ _ _ ⟨fun h1 => absurd h1 hk, fun _ => ⟨hM.1, r_freeFromD (by omega) hM p (by omega) hK2 w2 ?_⟩⟩
    intro I3 f3 k3
    rw [hr2]
    unfold tryS at h
    generalize freeF (odR S p tr (S (9 + p))) p = n at *
    refine ⟨hM.1, r_goesBack (by omega) hM k3 ?_⟩
    intro I4 f4 r4
    have k4 : KP S I4 := ⟨fun j j0 j1 => by rw [f4 118 (by decide)]; exact k3.1 j j0 j1, fun j _ => by rw [r4]⟩
    have fe4 : FE I I4 := (hf.fe.tr f3.fe).tr f4.fe
    have o124 : I4 124 = I 124 := by rw [f4 124 (by decide), f3.1 124 (by decide) (by decide) (by decide) (by decide) (by decide) (by decide) (by decide), hf 124 (by decide)]
    have o125 : I4 125 = I 125 := by rw [f4 125 (by decide), f3.1 125 (by decide) (by decide) (by decide) (by decide) (by decide) (by decide) (by decide), hf 125 (by decide)]
    have o19 : I4 115 19 = I 115 19 := by rw [f4 115 (by decide), f3.2 19 (by decide) (by decide), hf 115 (by decide)]
    have B4 : BO I4 st := hB.keep o19 o125
    have write : (n ≠ -5 ∧ (st.1 = -5 ∨ n < st.1)) → ∀ I5, I5 = mu_set I4 115 19 n → mu_WP mu_code d 203 154 [(1, 115), (0, p), (0, S (9 + p)), (0, n), (0, 0)] [] G I5 Q := by
      intro hc I5 q5
      rw [if_pos hc] at h
      have f5 : FE I4 I5 := ⟨fun b hb => by rw [q5, set_off _ (by omega)], fun j a b c => by rw [q5, set_row, upR_ne _ c]⟩
      suffices H : ∀ (m : Nat) (j : Int) (I6 : mu_M), j + m = 3 → 0 ≤ j → FE I4 I6 → I6 116 = S → KP S I6 → I6 124 = I 124 → I6 115 19 = n → (∀ i : Int, 0 ≤ i → i < j → I6 125 i = tr.getD i.toNat (-5)) → mu_WP mu_code d 203 154 [(1, 115), (0, p), (0, S (9 + p)), (0, n), (0, j)] [] G I6 Q from
        H 3 0 I5 (by omega) (by omega) f5 (by rw [q5, set_off _ (by decide)]; exact r4) ⟨fun j j0 j1 => by rw [q5, set_off _ (by decide)]; exact k4.1 j j0 j1, fun j hj => by rw [q5, set_off _ (by decide)]; exact k4.2 j hj⟩ (by rw [q5, set_off _ (by decide)]; exact o124) (by rw [q5, set_row, upR_same]) (fun i i0 i1 => by omega)
      intro m
      induction m with
      | zero =>
        intro j I6 hj j0 f6 r6 k6 o6 b19 b25
        refine vc_203_154 (by omega) _ _ _ _ _ ⟨fun h1 => absurd h1 (by omega), fun _ => ?_⟩
        exact h I6 (fe4.tr f6) r6 k6 o6 ⟨b19, fun i i0 i1 => b25 i i0 (by omega)⟩
      | succ m ih =>
        intro j I6 hj j0 f6 r6 k6 o6 b19 b25
        have e5 : wr (j + 1) = j + 1 := wr_id (by omega) (by omega)
        have next : ∀ x, x = tr.getD j.toNat (-5) → ∀ I7, I7 = mu_set I6 125 j x → mu_WP mu_code d 203 154 [(1, 115), (0, p), (0, S (9 + p)), (0, n), (0, j + 1)] [] G I7 Q := by
          intro x hx I7 q7
          refine ih (j + 1) I7 (by omega) (by omega) (f6.tr (q7 ▸ FE.w I6 (b := 125) _ _ (by simp))) (by rw [q7, set_off _ (by decide)]; exact r6) ⟨fun i i0 i1 => by rw [q7, set_off _ (by decide)]; exact k6.1 i i0 i1, fun i hi => by rw [q7, set_off _ (by decide)]; exact k6.2 i hi⟩ (by rw [q7, set_off _ (by decide)]; exact o6) (by rw [q7, set_off _ (by decide)]; exact b19) ?_
          intro i i0 i1
          rw [q7, set_row, upR_at]
          by_cases hij : i = j
          · rw [if_pos hij, hij, hx]
          · rw [if_neg hij]
            exact b25 i i0 (by omega)
        refine vc_203_154 (by omega) _ _ _ _ _ ⟨fun _ => ?_, fun h1 => absurd h1 (by omega)⟩
        simp only [hM, e5]
        refine ⟨trivial, fun h1 => ⟨by (try simp only [true_and]); omega, by (try simp only [true_and]); omega, ?_⟩, fun h1 => ⟨by (try simp only [true_and]); omega, ?_⟩⟩
        · refine next _ ?_
          rw [o6, h17 j j0 h1]
          have hlt : j.toNat < tr.length := by omega
          simp [List.getD, hlt]
        · refine next _ ?_
          have hge : tr.length ≤ j.toNat := by omega
          simp [List.getD, hge]
    refine ⟨fun h1 => ?_, fun h1 => ⟨hM.1, ?_⟩⟩
    · rw [if_neg (fun hc => hc.1 h1)] at h
      exact h I4 fe4 r4 k4 o124 B4
    · rw [B4.1]
      refine ⟨fun h2 I5 q5 => write ⟨h1, Or.inl h2⟩ I5 q5, fun h2 => ⟨fun h3 I5 q5 => write ⟨h1, Or.inr h3⟩ I5 q5, fun h3 => ?_⟩⟩
      rw [if_neg (by omega)] at h
      exact h I4 fe4 r4 k4 o124 B4
  have odR0 : odR S p tr 0 = S := by
    funext j
    unfold odR
    rw [if_neg (by omega), if_neg (by omega)]
  suffices H : ∀ (n : Nat) (k : Int) (v4 : mu_V) (I2 : mu_M), k + n = S (9 + p) → 0 ≤ k → FR I I2 → I2 116 = odR S p tr k → KP S I2 → mu_WP mu_code d 203 2 [(1, 115), (0, p), (0, S (9 + p)), (0, k), v4] [] G I2 Q from
    H (S (9 + p)).toNat 0 _ I (by omega) (by omega) (FR.rf I) (by rw [odR0]; exact hr) hK
  intro n
  induction n with
  | zero =>
    intro k v4 I2 hk h0 hf hr2 hK2
    exact fin k v4 I2 (by omega) hf (by rw [hr2, show k = S (9 + p) by omega]) hK2
  | succ n ih =>
    intro k v4 I2 hk h0 hf hr2 hK2
    have e4 : wr (13 + 3 * p + k) = 13 + 3 * p + k := wr_id (by omega) (by omega)
    have e5 : wr (25 + 3 * p + k) = 25 + 3 * p + k := wr_id (by omega) (by omega)
    have e6 : wr (k + 1) = k + 1 := wr_id (by omega) (by omega)
    have htk : I2 124 k = tr.getD k.toNat 0 := by rw [hf 124 (by decide)]; exact h17 k h0 (by omega)
    obtain ⟨t1, t2, t3⟩ := ht.at k.toNat (by omega)
    refine vc_203_2 (by omega) _ _ _ _ _ ⟨fun _ => ?_, fun h1 => absurd h1 (by omega)⟩
    simp only [hM, e1, e2, e4, htk]
    refine ⟨trivial, by (try simp only [true_and]); omega, by (try simp only [true_and]); omega, ?_⟩
    intro I3 q3
    generalize hq : tr.getD k.toNat 0 = q at *
    obtain ⟨a1, a2, a3, a4⟩ := dT_some 3 0 (by omega) t3
    change 0 ≤ debtTo S p q at a1
    change debtTo S p q < S (9 + p) at a3
    change S (13 + 3 * p + debtTo S p q) = q at a4
    have r3 : I3 116 = upR (odR S p tr k) (13 + 3 * p + k) q := by rw [q3, set_row, hr2]
    have k3 : KP S I3 := ⟨fun j j0 j1 => by rw [q3, set_off _ (by decide)]; exact hK2.1 j j0 j1, fun j hj => by rw [q3, set_row, upR_ne _ (by omega)]; exact hK2.2 j hj⟩
    have f3 : FR I I3 := hf.tr (q3 ▸ FR.w I2 _ _)
    suffices HH : ∀ (m : Nat) (j : Int) (I4 : mu_M), j + m = S (9 + p) → 0 ≤ j → FR I I4 → KP S I4 → (∀ i, i ≠ 25 + 3 * p + k → I4 116 i = I3 116 i) → (debtTo S p q < j → I4 116 (25 + 3 * p + k) = S (25 + 3 * p + debtTo S p q)) → mu_WP mu_code d 203 29 [(1, 115), (0, p), (0, S (9 + p)), (0, k), (0, j)] [] G I4 Q from
      HH (S (9 + p)).toNat 0 I3 (by omega) (by omega) f3 k3 (fun _ _ => rfl) (fun h1 => by omega)
    intro m
    induction m with
    | zero =>
      intro j I4 hj j0 f4 k4 o4 v4
      refine vc_203_29 (by omega) _ _ _ _ _ ⟨fun h1 => absurd h1 (by omega), fun _ => ?_⟩
      rw [e6]
      refine ih (k + 1) _ I4 (by omega) (by omega) f4 ?_ k4
      funext i
      have v4 := v4 (by omega)
      rw [odR_step (by omega), hq]
      by_cases hi : i = 25 + 3 * p + k
      · subst hi
        rw [if_neg (show ¬ 25 + 3 * p + k = 13 + 3 * p + k by omega), if_pos rfl, v4]
      · rw [o4 i hi, r3, upR_at, if_neg hi]
    | succ m ihm =>
      intro j I4 hj j0 f4 k4 o4 v4
      have e7 : wr (13 + 3 * p + j) = 13 + 3 * p + j := wr_id (by omega) (by omega)
      have e8 : wr (25 + 3 * p + j) = 25 + 3 * p + j := wr_id (by omega) (by omega)
      have e9 : wr (j + 1) = j + 1 := wr_id (by omega) (by omega)
      have g1 : I4 118 (13 + 3 * p + j) = S (13 + 3 * p + j) := k4.1 _ (by omega) (by omega)
      have g2 : I4 118 (25 + 3 * p + j) = S (25 + 3 * p + j) := k4.1 _ (by omega) (by omega)
      have g3 : I4 124 k = q := by rw [f4 124 (by decide), ← hq]; exact h17 k h0 (by omega)
      refine vc_203_29 (by omega) _ _ _ _ _ ⟨fun _ => ?_, fun h1 => absurd h1 (by omega)⟩
      simp only [hM, e1, e2, e3, e5, e7, e8, e9, g1, g2, g3]
      refine ⟨trivial, by (try simp only [true_and]); omega, by (try simp only [true_and]); omega, fun h5 => ⟨by (try simp only [true_and]); omega, by (try simp only [true_and]); omega, ?_⟩, fun h5 => ⟨by (try simp only [true_and]); omega, by (try simp only [true_and]); omega, ?_⟩⟩
      · intro I5 q5
        have hj2 := debt_is hD hp j3.2 ⟨j0, by omega⟩ h5
        refine ihm (j + 1) I5 (by omega) (by omega) (f4.tr (q5 ▸ FR.w I4 _ _)) ⟨fun i i0 i1 => by rw [q5, set_off _ (by decide)]; exact k4.1 i i0 i1, fun i hi => by rw [q5, set_row, upR_ne _ (by omega)]; exact k4.2 i hi⟩ ?_ ?_
        · intro i hi
          rw [q5, set_row, upR_ne _ hi]
          exact o4 i hi
        · intro _
          rw [q5, set_row, upR_same, hj2]
      · intro I5 q5
        have same : I5 116 = I4 116 := by
          rw [q5, set_row]
          funext i
          rw [upR_at]
          split
          · rename_i hi
            rw [hi]
          · rfl
        refine ihm (j + 1) I5 (by omega) (by omega) (f4.tr (q5 ▸ FR.w I4 _ _)) ⟨fun i i0 i1 => by rw [q5, set_off _ (by decide)]; exact k4.1 i i0 i1, fun i hi => by rw [same]; exact k4.2 i hi⟩ ?_ ?_
        · intro i hi
          rw [same]
          exact o4 i hi
        · intro h6
          rw [same]
          refine v4 ?_
          have : debtTo S p q ≠ j := by
            intro e
            rw [e] at a4
            exact h5 a4
          omega
end

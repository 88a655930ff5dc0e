/-! THE CLASS'S QUESTIONS: the order of debts, as it is tried -/
/-- the row so far -/
def odT (S : Row) (p : Int) (tr : List Int) (k : Int) : Row := upR (odR S p tr k) (9 + p) k
theorem odT_off {S : Row} {p k j : Int} {tr : List Int} (hk : k ≤ 3) (hj : j ≠ 9 + p ∧ (j < 13 + 3 * p ∨ 13 + 3 * p + 3 ≤ j) ∧ (j < 25 + 3 * p ∨ 25 + 3 * p + 3 ≤ j)) : odT S p tr k j = S j := by
  unfold odT odR
  rw [upR_ne _ hj.1]
  rw [if_neg (by omega), if_neg (by omega)]
theorem odT_end {S : Row} {p : Int} {tr : List Int} (hp : 0 ≤ p ∧ p < 4) (h9 : S (9 + p) ≤ 3) : odT S p tr (S (9 + p)) = odR S p tr (S (9 + p)) := by
  unfold odT
  have e : odR S p tr (S (9 + p)) (9 + p) = S (9 + p) := by unfold odR; rw [if_neg (by omega), if_neg (by omega)]
  funext j
  rw [upR_at]
  by_cases hj : j = 9 + p
  · rw [if_pos hj, hj, e]
  · rw [if_neg hj]
theorem odT_step {S : Row} {p k q x : Int} {tr : List Int} (hp : 0 ≤ p ∧ p < 4) (hk : 0 ≤ k ∧ k < 3) (hq : tr.getD k.toNat 0 = q) (hx : S (25 + 3 * p + debtTo S p q) = x) : ptS (odT S p tr k) p k q x = odT S p tr (k + 1) := by
  have e9 : odT S p tr k (9 + p) = k := by unfold odT; rw [upR_same]
  unfold ptS
  rw [e9, ptL, if_neg (by omega)]
  dsimp only
  rw [e9]
  unfold odT
  funext j
  simp only [upR_at, odR_step hk, hq, hx]
  by_cases h1 : j = 9 + p
  · rw [if_pos h1, if_pos h1]
  · rw [if_neg h1, if_neg h1]
    by_cases h2 : j = 13 + 3 * p + k
    · rw [if_neg (by omega), if_pos h2, if_pos h2, if_neg h1]
    · rw [if_neg h2, if_neg h2, if_neg h1]
theorem plL_bd {c : List Int} {r : Int} : ∀ (n : Nat) (i : Int), 0 ≤ i → plL c r n i = -1 ∨ (0 ≤ plL c r n i ∧ plL c r n i < c.length)
  | 0, _, _ => Or.inl rfl
  | n + 1, i, hi => by
    rw [plL]
    split
    · split
      · exact Or.inr ⟨hi, by assumption⟩
      · exact plL_bd n (i + 1) (by omega)
    · exact Or.inl rfl
theorem trO_at {c : List Int} {x : Int} (k : Int) (k0 : 0 ≤ k) (k1 : k < c.length) (y : Int) : (trO c x).getD k.toNat y = c.getD (plI c x k).toNat 0 := by
  have hlt : k.toNat < c.length := by omega
  unfold trO
  simp [List.getD, hlt]
  rw [show max k 0 = k by omega]
theorem trO_len (c : List Int) (x : Int) : (trO c x).length = c.length := by unfold trO; simp
theorem inO_t {c : List Int} {x : Int} : inO c x = true ↔ ∀ k : Int, 0 ≤ k → k < c.length → 0 ≤ plI c x k := by
  unfold inO
  rw [List.all_eq_true]
  constructor
  · intro h k k0 k1
    have := h k.toNat (by rw [List.mem_range]; omega)
    rw [show ((k.toNat : Nat) : Int) = k by omega] at this
    exact of_decide_eq_true this
  · intro h k hk
    rw [List.mem_range] at hk
    exact decide_eq_true (h k (by omega) (by omega))
section
variable {d : Nat} {G : mu_G} {I : mu_M} {Q : Int → mu_G → mu_M → Prop} {S T : Row} {L : List Int} {a i : Int}
theorem k_placeOfRank (hd : d < 980) (hG : GP G a) (hP : PE G I a S i) (h9 : 0 ≤ S (9 + i) ∧ S (9 + i) ≤ 3) {c : List Int} (hl : (c.length : Int) = S (9 + i)) (hc : ∀ k, 0 ≤ k → k < S (9 + i) → c.getD k.toNat 0 = S (13 + 3 * i + k)) (r : Int) (h : Q (plL c r 3 0) G I) : mu_WP mu_code d 40 0 [(1, a), (0, r), (3, 0), (3, 0), (3, 0)] [] G I Q := by
  refine vc_40_0 (by omega) _ _ ?_
  suffices H : ∀ (n : Nat) (k : Int) (y z : mu_V), k + n = 3 → 0 ≤ k → Q (plL c r n k) G I → mu_WP mu_code d 40 2 [(1, a), (0, r), (0, k), y, z] [] G I Q from H 3 0 _ _ (by omega) (by omega) h
  intro n
  induction n with
  | zero =>
    intro k y z hk h0 h
    exact vc_40_2 (by omega) _ _ _ _ _ ⟨fun h1 => absurd h1 (by omega), fun _ => h⟩
  | succ n ih =>
    intro k y z hk h0 h
    rw [plL] at h
    refine vc_40_2 (by omega) _ _ _ _ _ ⟨fun _ => ⟨hG.1, k_isDebt (by omega) hG hP h9.2 k ⟨fun h1 => ?_, fun h1 => ?_⟩⟩, fun h1 => absurd (by omega) h1⟩
    · have h1 := ifn h1
      rw [if_neg (by omega)] at h; exact h
    have hk2 := ifp h1
    rw [if_pos (by omega)] at h
    have next : ¬ lowL c (c.getD k.toNat 0) 3 0 = r → ∀ x j : Int, mu_WP mu_code d 40 2 [(1, a), (0, r), (0, wr (k + 1)), (0, x), (0, j)] [] G I Q := by
      intro hn x j
      rw [if_neg hn] at h
      rw [wr_id (x := k + 1) (by omega) (by omega)]
      exact ih (k + 1) _ _ (by omega) (by omega) h
    have found : lowL c (c.getD k.toNat 0) 3 0 = r → Q k G I := by
      intro hn
      rw [if_pos hn] at h
      exact h
    clear h ih
    suffices H : ∀ (m : Nat) (j x : Int), j + m = 3 → 0 ≤ j → 0 ≤ x → x ≤ j → x + lowL c (c.getD k.toNat 0) m j = lowL c (c.getD k.toNat 0) 3 0 → mu_WP mu_code d 40 20 [(1, a), (0, r), (0, k), (0, x), (0, j)] [] G I Q from H 3 0 0 (by omega) (by omega) (by omega) (by omega) (by omega)
    intro m
    induction m with
    | zero =>
      intro j x hj j0 x0 x1 he
      rw [lowL, Int.add_zero] at he
      exact vc_40_20 (by omega) _ _ _ _ _ ⟨fun h1 => absurd h1 (by omega), fun _ => ⟨fun h2 => found (he ▸ h2), fun h2 => next (he ▸ h2) _ _⟩⟩
    | succ m ihm =>
      intro j x hj j0 x0 x1 he
      rw [lowL] at he
      refine vc_40_20 (by omega) _ _ _ _ _ ⟨fun _ => ⟨hG.1, k_isDebt (by omega) hG hP h9.2 j ⟨fun h1 => ?_, fun h1 => ⟨hG.1, ?_⟩⟩⟩, fun h1 => absurd (by omega) h1⟩
      · have h1 := ifn h1
        rw [if_neg (by omega), Int.add_zero] at he
        exact ⟨fun h2 => found (he ▸ h2), fun h2 => next (he ▸ h2) _ _⟩
      · have hj2 := ifp h1
        rw [if_pos (by omega), hc j hj2.1 hj2.2] at he
        rw [hG.2.2.1, hG.2.2.2.2.2.1, (hP.2.2.1 j hj2.1 hj2.2).1, (hP.2.2.1 k hk2.1 hk2.2).1, wr_id (x := x + 1) (by omega) (by omega), wr_id (x := j + 1) (by omega) (by omega)]
        rw [hc k hk2.1 hk2.2] at he ihm
        refine ⟨⟨rfl, hj2.1, by dsimp only; omega⟩, ⟨rfl, hk2.1, by dsimp only; omega⟩, fun h2 => ?_, fun h2 => ?_⟩
        · rw [if_pos h2] at he
          exact ihm (j + 1) (x + 1) (by omega) (by omega) (by omega) (by omega) (by omega)
        · rw [if_neg h2] at he
          exact ihm (j + 1) x (by omega) (by omega) (by omega) (by omega) (by omega)
theorem k_placeInOrder (hd : d < 970) (hG : GP G a) (hP : PE G I a S i) (h9 : 0 ≤ S (9 + i) ∧ S (9 + i) ≤ 3) (hS : sh G (-3) = (100, 18)) (hM : ∀ j : Int, 0 ≤ j → j < 18 → I (-3) j = mu_ords.getD j.toNat 0) {c : List Int} (hl : (c.length : Int) = S (9 + i)) (hc : ∀ k, 0 ≤ k → k < S (9 + i) → c.getD k.toNat 0 = S (13 + 3 * i + k)) (x k : Int) (hx : 0 ≤ x ∧ x < 6) (hk : 0 ≤ k ∧ k < 3) (h : Q (plI c x k) G I) : mu_WP mu_code d 39 0 [(1, a), (0, x), (0, k), (3, 0)] [] G I Q := by
  refine vc_39_0 (by omega) _ _ _ ⟨fun h1 => absurd h1 (by omega), fun _ => ⟨fun _ => ?_, fun h1 => absurd hk.2 h1⟩⟩
  rw [wr_id (x := x * 3) (by omega) (by omega), wr_id (x := x * 3 + k) (by omega) (by omega), hS, hM _ (by omega) (by omega)]
  refine ⟨fun h1 => absurd h1 (by omega), fun _ => ⟨rfl, fun _ => ⟨⟨rfl, by omega, by dsimp only; omega⟩, hG.1, ?_⟩, fun h1 => absurd (show x * 3 + k < 18 by omega) h1⟩⟩
  exact k_placeOfRank (by omega) hG hP h9 hl hc _ h
theorem c_takeInOrder (hd : d < 890) (hX : TX G I S L S) (hO : OkS S) (hM : ∀ j : Int, 0 ≤ j → j < 18 → I (-3) j = mu_ords.getD j.toNat 0) {p : Int} (hp : 0 ≤ p ∧ p < S 37) {x : Int} (hx : 0 ≤ x ∧ x < 6) (h0 : inO (crL S p) x = false → ∀ I1, FT G G I I1 → CX G I1 S L → Q 0 G I1) (h1 : inO (crL S p) x = true → ∀ I1, FT G G I I1 → TX G I1 S L (odR S p (trO (crL S p) x) (S (9 + p))) → Q 1 G I1) : mu_WP mu_code d 38 0 [(1, 47 + 11 + 5 * p), (1, 16 + 11 + 5 * p), (0, x), (3, 0), (3, 0)] [] G I Q := by
  have o1 := hO.1
  have hG := hX.1
  have h4 := o1.2.1
  have hp4 : 0 ≤ p ∧ p < 4 := by omega
  have gt := hG.2.2.2.2.1
  have gw := hG.2.2.2.1
  have gp := (gt.p hp4).2
  have gw1 := (gw.p hp4).2
  obtain ⟨j1, j2, j3, j4, j5, j6, j7, j8⟩ := o1.2.2.2.2.1 p hp.1 hp.2
  have hl := crL_len j3
  have hc := crL_at j3
  generalize crL S p = c at *
  have P0 := hX.2.2.2.2.2 p hp.1 hp.2
  refine vc_38_0 (by omega) _ _ _ ⟨gp.1, ?_⟩
  intro I1 q1
  have f1 : FP1 (47 + 11 + 5 * p) I I1 := q1 ▸ FP1.w I (Or.inr ⟨rfl, by omega⟩)
  have odR0 : ∀ j, odR S p (trO c x) 0 j = S j := by
    intro j
    unfold odR
    rw [if_neg (by omega), if_neg (by omega)]
  have p1 : PE G I1 (47 + 11 + 5 * p) (odT S p (trO c x) 0) p := by
    have e9 : odT S p (trO c x) 0 (9 + p) = 0 := by unfold odT; rw [upR_same]
    refine P0.build hp4 (by omega) f1.1 ?_ ?_ ?_ ?_ ?_ ?_
    · intro j _ j6 _
      rw [q1, set_row, upR_ne _ j6]
    · rw [q1, set_off _ (by omega)]
    · rw [q1, set_row, upR_ne _ (by decide), P0.1.2.2.2.2.1]
      unfold odT
      rw [upR_ne _ (by omega), odR0]
    · rw [q1, set_row, upR_same, e9]
    · intro j hj
      exact odT_off (by omega) hj.2
    · intro k k0 k1
      rw [e9] at k1
      omega
  clear q1
  suffices H : ∀ (n : Nat) (k : Int) (v : mu_V) (I2 : mu_M), k + n = S (9 + p) → 0 ≤ k → (∀ j, 0 ≤ j → j < k → 0 ≤ plI c x j) → FP1 (47 + 11 + 5 * p) I I2 → PE G I2 (47 + 11 + 5 * p) (odT S p (trO c x) k) p → mu_WP mu_code d 38 7 [(1, 47 + 11 + 5 * p), (1, 16 + 11 + 5 * p), (0, x), (0, k), v] [] G I2 Q from
    H (S (9 + p)).toNat 0 _ I1 (by omega) (by omega) (fun j a b => by omega) f1 p1
  clear p1 f1
  intro n
  induction n with
  | zero =>
    intro k v I2 hk k0 hv hf hP
    obtain ⟨t1, t2⟩ := hX.debts o1 o1 hO.2.1 hp hf hP (fun j hj => odT_off (by omega) hj.2)
    have P := t2.2.1.1.2.2.2 p hp.1 hp.2
    refine vc_38_7 (by omega) _ _ _ _ _ ⟨gw1.1, ?_⟩
    rw [P.1.2.2.2.2.2]
    refine ⟨fun hh => absurd hh (by omega), fun _ => ?_⟩
    refine h1 (inO_t.2 (fun j a b => hv j a (by omega))) I2 t1 ?_
    rw [show k = S (9 + p) by omega, odT_end hp4 j3.2] at t2
    exact t2
  | succ n ih =>
    intro k v I2 hk k0 hv hf hP
    obtain ⟨t1, t2⟩ := hX.debts o1 o1 hO.2.1 hp hf hP (fun j hj => odT_off (by omega) hj.2)
    have P := t2.2.1.1.2.2.2 p hp.1 hp.2
    refine vc_38_7 (by omega) _ _ _ _ _ ⟨gw1.1, ?_⟩
    rw [P.1.2.2.2.2.2]
    refine ⟨fun _ => k_placeInOrder (by omega) gw1 P j3 hG.2.2.2.2.2.2.2.2.1 (fun j a b => by rw [hf.1 _ (by omega)]; exact hM j a b) hl hc x k hx (by omega) ?_, fun hh => absurd (by omega) hh⟩
    have hb := plL_bd (c := c) (r := mu_ords.getD (x * 3 + k).toNat 0) 3 0 (by omega)
    change plI c x k = -1 ∨ (0 ≤ plI c x k ∧ plI c x k < c.length) at hb
    refine ⟨fun hh => ?_, fun hh => ⟨gw1.1, k_creditorAt (by omega) gw1 P j3.2 _ ⟨gw1.1, k_sumAt (by omega) gw1 P j3.2 _ ⟨gp.1, ?_⟩⟩⟩⟩
    · refine h0 ?_ I2 t1 t2.2.1
      cases he : inO c x
      · rfl
      · exact absurd (inO_t.1 he k k0 (by omega)) (by omega)
    · have hpl : 0 ≤ plI c x k ∧ plI c x k < S (9 + p) := by omega
      rw [if_pos hpl, if_pos hpl, wr_id (x := k + 1) (by omega) (by omega)]
      have e9 : odT S p (trO c x) k (9 + p) = k := by unfold odT; rw [upR_same]
      refine k_insertDebt (by omega) gp hP hp4 (by omega) (by rw [e9]; omega) k (by rw [e9]; omega) _ _ ?_
      intro I3 f3 p3
      rw [odT_step hp4 ⟨k0, by omega⟩ (q := S (13 + 3 * p + plI c x k)) (x := S (25 + 3 * p + plI c x k)) (by rw [trO_at k k0 (by omega)]; exact hc _ hpl.1 hpl.2) (by rw [debt_is hO.2.2.1 hp j3.2 hpl rfl])] at p3
      refine ih (k + 1) _ I3 (by omega) (by omega) ?_ (hf.tr f3) p3
      intro j j0 jk
      by_cases hj : j = k
      · rw [hj]; exact hpl.1
      · exact hv j j0 (by omega)
end

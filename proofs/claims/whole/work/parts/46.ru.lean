/-! QUESTIONS TO THE REFERENCE: on, meet, free, spot -/
/-- the first day from n on, of m days, on which it is so, or -5 -/
def ffS (c : Row → Bool) : Nat → Int → Row → Int
  | 0, _, _ => -5
  | m + 1, n, S => if c S = true then n else ffS c m (n + 1) (dayS S)
def onS (S : Row) (p n w : Int) : Int := if ¬ ((0 ≤ p ∧ p < S 37) ∧ 0 ≤ w ∧ w ≤ 2) then -1 else if ¬ (0 ≤ n ∧ n ≤ 60) then -2 else if w = 0 then goS n.toNat S (1 + p) else if w = 1 then goS n.toNat S (5 + p) else sumsS (goS n.toNat S) p
def meetS (S : Row) (a b : Int) : Int := if ¬ ((0 ≤ a ∧ a < S 37) ∧ 0 ≤ b ∧ b < S 37) then -1 else if a = b then -2 else ffS (fun T => decide (T (1 + a) = T (1 + b))) 61 0 S
def freeF (S : Row) (p : Int) : Int := ffS (fun T => decide (T (9 + p) = 0)) 61 0 S
def freeS (S : Row) (p : Int) : Int := if ¬ (0 ≤ p ∧ p < S 37) then -1 else freeF S p
def aoL (S : Row) : Nat → Int → Bool → Bool
  | 0, _, b => b
  | n + 1, p, b => if p < S 37 then aoL S n (p + 1) (b && decide (S (1 + p) = S 1)) else b
def atOne (S : Row) : Bool := aoL S 3 1 true
def spotS (S : Row) : Int := ffS atOne 61 0 S
theorem goS_WD : ∀ (n : Nat) (S : Row) (m : Nat), WD S (n + m) → WD (goS n S) m
  | 0, S, m, h => by simpa [goS] using h
  | n + 1, S, m, h => by
    rw [goS]
    exact goS_WD n _ m (WD.day (by rw [show n + m + 1 = n + 1 + m by omega]; exact h))
section
variable {d : Nat} {G : mu_G} {I : mu_M} {Q : Int → mu_G → mu_M → Prop}
theorem r_on (hd : d < 960) (hM : MR G) (p n w : Int) (hW : WD (I 116) 100) (h : ∀ I1, FE I I1 → I1 116 = I 116 → Q (onS (I 116) p n w) G I1) : mu_WP mu_code d 188 0 [(1, 115), (0, p), (0, n), (0, w), (3, 0)] [] G I Q := by
  have h4 := hW.1.2.1
  unfold onS at h
  refine vc_188_0 (by omega) _ _ _ _ ⟨hM.1, r_isPerson (by omega) hM p h4 ⟨fun h1 => ?_, fun h1 => ?_⟩⟩
  · rw [if_pos (by intro hc; rw [if_pos hc.1] at h1; omega)] at h
    exact h I (FE.rf I) rfl
  have hp : 0 ≤ p ∧ p < I 116 37 := by
    by_cases hc : 0 ≤ p ∧ p < I 116 37
    · exact hc
    · rw [if_neg hc] at h1; exact absurd rfl h1
  clear h1
  refine r_in (by omega) _ _ _ ⟨fun h1 => ?_, fun h1 => ?_⟩
  · rw [if_pos (by intro hc; rw [if_pos hc.2] at h1; omega)] at h
    exact h I (FE.rf I) rfl
  have hw : 0 ≤ w ∧ w ≤ 2 := by
    by_cases hc : 0 ≤ w ∧ w ≤ 2
    · exact hc
    · rw [if_neg hc] at h1; exact absurd rfl h1
  clear h1
  rw [if_neg (by intro hc; exact hc ⟨hp, hw⟩)] at h
  refine r_in (by omega) _ _ _ ⟨fun h1 => ?_, fun h1 => ?_⟩
  · rw [if_pos (by intro hc; rw [if_pos hc] at h1; omega)] at h
    exact h I (FE.rf I) rfl
  have hn : 0 ≤ n ∧ n ≤ 60 := by
    by_cases hc : 0 ≤ n ∧ n ≤ 60
    · exact hc
    · rw [if_neg hc] at h1; exact absurd rfl h1
  clear h1
  rw [if_neg (by intro hc; exact hc hn)] at h
  refine ⟨hM.1, r_keeps (by omega) hM ?_⟩
  intro I1 f1 r1 _ k1
  have hnn : n = (n.toNat : Int) := by omega
  refine ⟨hM.1, ?_⟩
  rw [hnn]
  refine r_goes (by omega) hM k1 n.toNat (by omega) (by rw [r1]; exact hW.lo (by omega)) ?_
  intro I2 f2 r2 k2
  rw [r1] at r2
  have wT : WD (I2 116) 0 := by rw [r2]; exact goS_WD _ _ 0 (hW.lo (by omega))
  have e37 : I2 116 37 = I 116 37 := k2.2 37 (by omega)
  have e1 : wr (1 + p) = 1 + p := wr_id (by omega) (by omega)
  have e5 : wr (5 + p) = 5 + p := wr_id (by omega) (by omega)
  have key : ∀ x, x = (if w = 0 then goS n.toNat (I 116) (1 + p) else if w = 1 then goS n.toNat (I 116) (5 + p) else sumsS (goS n.toNat (I 116)) p) → mu_WP mu_code (d + 1) 192 0 [(1, 115), (3, 0)] [] G I2 (fun _ G1 I3 => Q x G1 I3) := by
    intro x hx
    refine r_goesBack (by omega) hM k2 ?_
    intro I3 f3 r3
    rw [hx]
    exact h I3 ((f1.tr f2).tr f3.fe) r3
  refine ⟨fun h1 => ?_, fun h1 => ⟨fun h2 => ?_, fun h2 => ?_⟩⟩
  · simp only [hM, e1]
    refine ⟨trivial, by grind, key _ ?_⟩
    rw [if_pos h1, r2]
  · simp only [hM, e5]
    refine ⟨trivial, by grind, key _ ?_⟩
    rw [if_neg h1, if_pos h2, r2]
  · refine ⟨hM.1, r_sumsOf (by omega) hM p wT.1 (by rw [e37]; exact hp) ⟨hM.1, key _ ?_⟩⟩
    rw [if_neg h1, if_neg h2, r2]
theorem r_meet (hd : d < 960) (hM : MR G) (a b : Int) (hW : WD (I 116) 100) (h : ∀ I1, FE I I1 → I1 116 = I 116 → Q (meetS (I 116) a b) G I1) : mu_WP mu_code d 193 0 [(1, 115), (0, a), (0, b), (3, 0), (3, 0)] [] G I Q := by
  have h4 := hW.1.2.1
  unfold meetS at h
  refine vc_193_0 (by omega) _ _ _ ⟨hM.1, r_isPerson (by omega) hM a h4 ⟨fun h1 => ?_, fun h1 => ?_⟩⟩
  · rw [if_pos (by intro hc; rw [if_pos hc.1] at h1; omega)] at h
    exact h I (FE.rf I) rfl
  have ha : 0 ≤ a ∧ a < I 116 37 := by
    by_cases hc : 0 ≤ a ∧ a < I 116 37
    · exact hc
    · rw [if_neg hc] at h1; exact absurd rfl h1
  clear h1
  refine ⟨hM.1, r_isPerson (by omega) hM b h4 ⟨fun h1 => ?_, fun h1 => ?_⟩⟩
  · rw [if_pos (by intro hc; rw [if_pos hc.2] at h1; omega)] at h
    exact h I (FE.rf I) rfl
  have hb : 0 ≤ b ∧ b < I 116 37 := by
    by_cases hc : 0 ≤ b ∧ b < I 116 37
    · exact hc
    · rw [if_neg hc] at h1; exact absurd rfl h1
  clear h1
  rw [if_neg (by intro hc; exact hc ⟨ha, hb⟩)] at h
  refine ⟨fun h1 => ?_, fun h1 => ?_⟩
  · rw [if_pos h1] at h
    exact h I (FE.rf I) rfl
  rw [if_neg h1] at h
  refine ⟨hM.1, r_keeps (by omega) hM ?_⟩
  intro I1 f1 r1 _ k1
  have e1 : wr (1 + a) = 1 + a := wr_id (by omega) (by omega)
  have e2 : wr (1 + b) = 1 + b := wr_id (by omega) (by omega)
  have out : ∀ (x n : Int) (I2 : mu_M), (x ≠ -5 ∨ 60 < n) → FE I I2 → KP (I 116) I2 → (∀ I1, FE I I1 → I1 116 = I 116 → Q x G I1) → mu_WP mu_code d 193 36 [(1, 115), (0, a), (0, b), (0, x), (0, n)] [] G I2 Q := by
    intro x n I2 hx hf hK hq
    have go : mu_WP mu_code (d + 1) 192 0 [(1, 115), (3, 0)] [] G I2 (fun _ G1 I3 => Q x G1 I3) := by
      refine r_goesBack (by omega) hM hK ?_
      intro I3 f3 r3
      exact hq I3 (hf.tr f3.fe) r3
    exact vc_193_36 (by omega) _ _ _ _ _ ⟨fun _ => ⟨hM.1, go⟩, fun h1 => ⟨fun h2 => absurd h2 (by omega), fun _ => ⟨hM.1, go⟩⟩⟩
  suffices H : ∀ (m : Nat) (n : Int) (I2 : mu_M), n + m = 61 → 0 ≤ n → FE I I2 → KP (I 116) I2 → WD (I2 116) m → (∀ I1, FE I I1 → I1 116 = I 116 → Q (ffS (fun T => decide (T (1 + a) = T (1 + b))) m n (I2 116)) G I1) → mu_WP mu_code d 193 36 [(1, 115), (0, a), (0, b), (0, -5), (0, n)] [] G I2 Q from
    H 61 0 I1 (by omega) (by omega) f1 k1 (by rw [r1]; exact hW.lo (by omega)) (by rw [r1]; exact h)
  intro m
  induction m with
  | zero =>
    intro n I2 hn h0 hf hK hw hq
    exact out _ _ I2 (by omega) hf hK hq
  | succ m ih =>
    intro n I2 hn h0 hf hK hw hq
    have e3 : wr (n + 1) = n + 1 := wr_id (by omega) (by omega)
    refine vc_193_36 (by omega) _ _ _ _ _ ⟨fun hx => absurd hx (by omega), fun _ => ⟨fun _ => ?_, fun hx => absurd rfl hx⟩⟩
    simp only [hM, e1, e2, e3]
    rw [ffS] at hq
    refine ⟨trivial, by grind, by grind, fun hc => ?_, fun hc => ?_⟩
    · rw [if_pos (by simpa using hc)] at hq
      refine r_day1 (by omega) hM hK hw ?_
      intro I3 f3 r3 k3 w3
      exact out n (n + 1) I3 (by omega) (hf.tr f3.fe) k3 hq
    · rw [if_neg (by simpa using hc)] at hq
      refine r_day1 (by omega) hM hK hw ?_
      intro I3 f3 r3 k3 w3
      exact ih (n + 1) I3 (by omega) (by omega) (hf.tr f3.fe) k3 w3 (by rw [r3]; exact hq)
theorem r_freeFrom (hd : d < 960) (hM : MR G) {S : Row} (p : Int) (hp : 0 ≤ p ∧ p < 4) (hK : KP S I) (hW : WD (I 116) 61) (h : ∀ I1, FE I I1 → KP S I1 → Q (freeF (I 116) p) G I1) : mu_WP mu_code d 195 0 [(1, 115), (0, p), (3, 0)] [] G I Q := by
  have e1 : wr (9 + p) = 9 + p := wr_id (by omega) (by omega)
  refine vc_195_0 (by omega) _ _ ?_
  suffices H : ∀ (m : Nat) (n : Int) (I2 : mu_M), n + m = 61 → 0 ≤ n → FE I I2 → KP S I2 → WD (I2 116) m → (∀ I1, FE I I1 → KP S I1 → Q (ffS (fun T => decide (T (9 + p) = 0)) m n (I2 116)) G I1) → mu_WP mu_code d 195 2 [(1, 115), (0, p), (0, n)] [] G I2 Q from
    H 61 0 I (by omega) (by omega) (FE.rf I) hK hW h
  intro m
  induction m with
  | zero =>
    intro n I2 hn h0 hf hK hw hq
    exact vc_195_2 (by omega) _ _ _ ⟨fun _ => hq I2 hf hK, fun h1 => absurd h1 (by omega)⟩
  | succ m ih =>
    intro n I2 hn h0 hf hK hw hq
    have e3 : wr (n + 1) = n + 1 := wr_id (by omega) (by omega)
    refine vc_195_2 (by omega) _ _ _ ⟨fun h1 => absurd h1 (by omega), fun _ => ?_⟩
    simp only [hM, e1, e3]
    rw [ffS] at hq
    refine ⟨trivial, by grind, fun hc => ?_, fun hc => ?_⟩
    · rw [if_pos (by simpa using hc)] at hq
      exact hq I2 hf hK
    · rw [if_neg (by simpa using hc)] at hq
      refine r_day1 (by omega) hM hK hw ?_
      intro I3 f3 r3 k3 w3
      exact ih (n + 1) I3 (by omega) (by omega) (hf.tr f3.fe) k3 w3 (by rw [r3]; exact hq)
theorem r_free (hd : d < 950) (hM : MR G) (p : Int) (hW : WD (I 116) 100) (h : ∀ I1, FE I I1 → I1 116 = I 116 → Q (freeS (I 116) p) G I1) : mu_WP mu_code d 194 0 [(1, 115), (0, p), (3, 0)] [] G I Q := by
  have h4 := hW.1.2.1
  unfold freeS at h
  refine vc_194_0 (by omega) _ _ ⟨hM.1, r_isPerson (by omega) hM p h4 ⟨fun h1 => ?_, fun h1 => ?_⟩⟩
  · rw [if_pos (by intro hc; rw [if_pos hc] at h1; omega)] at h
    exact h I (FE.rf I) rfl
  have hp : 0 ≤ p ∧ p < I 116 37 := by
    by_cases hc : 0 ≤ p ∧ p < I 116 37
    · exact hc
    · rw [if_neg hc] at h1; exact absurd rfl h1
  rw [if_neg (by intro hc; exact hc hp)] at h
  refine ⟨hM.1, r_keeps (by omega) hM ?_⟩
  intro I1 f1 r1 _ k1
  refine ⟨hM.1, r_freeFrom (by omega) hM p (by omega) k1 (by rw [r1]; exact hW.lo (by omega)) ?_⟩
  intro I2 f2 k2
  refine ⟨hM.1, r_goesBack (by omega) hM k2 ?_⟩
  intro I3 f3 r3
  rw [r1]
  exact h I3 ((f1.tr f2).tr f3.fe) r3
theorem r_areAtOne (hd : d < 960) (hM : MR G) (h4 : 0 ≤ I 116 37 ∧ I 116 37 ≤ 4) (h : Q (bi (atOne (I 116))) G I) : mu_WP mu_code d 197 0 [(1, 115), (3, 0), (3, 0)] [] G I Q := by
  refine vc_197_0 (by omega) _ ?_
  suffices H : ∀ (n : Nat) (p : Int) (b : Bool), p + n = 4 → 0 ≤ p → Q (bi (aoL (I 116) n p b)) G I → mu_WP mu_code d 197 4 [(1, 115), (0, bi b), (0, p)] [] G I Q from
    H 3 1 true (by omega) (by omega) h
  intro n
  induction n with
  | zero =>
    intro p b hp h0 h
    refine vc_197_4 (by omega) _ _ _ ?_
    simp only [hM]
    exact ⟨trivial, by grind, fun h1 => absurd h1 (by omega), fun _ => ⟨by cases b <;> simp [bi], h⟩⟩
  | succ n ih =>
    intro p b hp h0 h
    refine vc_197_4 (by omega) _ _ _ ?_
    have e1 : wr (1 + p) = 1 + p := wr_id (by omega) (by omega)
    have e3 : wr (p + 1) = p + 1 := wr_id (by omega) (by omega)
    simp only [hM, e1, e3]
    rw [aoL] at h
    refine ⟨trivial, by grind, fun h1 => ⟨fun h2 => ?_, fun h2 => ⟨by grind, by grind, fun h3 => ?_, fun h3 => ?_⟩⟩, fun h1 => ⟨by cases b <;> simp [bi], ?_⟩⟩
    · rw [if_pos h1, (bi_not b).1 h2, Bool.false_and] at h
      exact ih (p + 1) false (by omega) (by omega) h
    · have hb : b = true := by cases b <;> simp [bi] at h2 ⊢
      rw [if_pos h1, hb, Bool.true_and, decide_eq_true h3] at h
      exact ih (p + 1) true (by omega) (by omega) h
    · rw [if_pos h1, decide_eq_false h3, Bool.and_false] at h
      exact ih (p + 1) false (by omega) (by omega) h
    · rw [if_neg h1] at h
      exact h
theorem r_spot (hd : d < 950) (hM : MR G) (hW : WD (I 116) 100) (h : ∀ I1, FE I I1 → I1 116 = I 116 → Q (spotS (I 116)) G I1) : mu_WP mu_code d 196 0 [(1, 115), (3, 0), (3, 0)] [] G I Q := by
  refine vc_196_0 (by omega) _ ⟨hM.1, r_keeps (by omega) hM ?_⟩
  intro I1 f1 r1 _ k1
  have out : ∀ (x n : Int) (I2 : mu_M), (x ≠ -5 ∨ 60 < n) → FE I I2 → KP (I 116) I2 → (∀ I1, FE I I1 → I1 116 = I 116 → Q x G I1) → mu_WP mu_code d 196 9 [(1, 115), (0, x), (0, n)] [] G I2 Q := by
    intro x n I2 hx hf hK hq
    have go : mu_WP mu_code (d + 1) 192 0 [(1, 115), (3, 0)] [] G I2 (fun _ G1 I3 => Q x G1 I3) := by
      refine r_goesBack (by omega) hM hK ?_
      intro I3 f3 r3
      exact hq I3 (hf.tr f3.fe) r3
    exact vc_196_9 (by omega) _ _ _ ⟨fun _ => ⟨hM.1, go⟩, fun h1 => ⟨fun h2 => absurd h2 (by omega), fun _ => ⟨hM.1, go⟩⟩⟩
  suffices H : ∀ (m : Nat) (n : Int) (I2 : mu_M), n + m = 61 → 0 ≤ n → FE I I2 → KP (I 116) I2 → WD (I2 116) m → (∀ I1, FE I I1 → I1 116 = I 116 → Q (ffS atOne m n (I2 116)) G I1) → mu_WP mu_code d 196 9 [(1, 115), (0, -5), (0, n)] [] G I2 Q from
    H 61 0 I1 (by omega) (by omega) f1 k1 (by rw [r1]; exact hW.lo (by omega)) (by rw [r1]; exact h)
  intro m
  induction m with
  | zero =>
    intro n I2 hn h0 hf hK hw hq
    exact out _ _ I2 (by omega) hf hK hq
  | succ m ih =>
    intro n I2 hn h0 hf hK hw hq
    have e3 : wr (n + 1) = n + 1 := wr_id (by omega) (by omega)
    refine vc_196_9 (by omega) _ _ _ ⟨fun hx => absurd hx (by omega), fun _ => ⟨fun _ => ⟨hM.1, r_areAtOne (by omega) hM hw.1.2.1 ?_⟩, fun hx => absurd rfl hx⟩⟩
    rw [e3]
    rw [ffS] at hq
    refine ⟨fun hc => ⟨hM.1, ?_⟩, fun hc => ⟨hM.1, ?_⟩⟩
    · rw [if_neg (by rw [(bi_not _).1 hc]; simp)] at hq
      refine r_day1 (by omega) hM hK hw ?_
      intro I3 f3 r3 k3 w3
      exact ih (n + 1) I3 (by omega) (by omega) (hf.tr f3.fe) k3 w3 (by rw [r3]; exact hq)
    · rw [if_pos (by cases hb : atOne (I2 116) <;> simp [hb, bi] at hc ⊢)] at hq
      refine r_day1 (by omega) hM hK hw ?_
      intro I3 f3 r3 k3 w3
      exact out n (n + 1) I3 (by omega) (hf.tr f3.fe) k3 hq
end

/-! THE REFERENCE'S ACTS -/
/-- what one act answers, and the bodies that ran -/
def goA (k i x : Int) : Int × List Int := if k = 1 ∨ k = 4 then (wr (wr (x * 3) + i), [11, 1]) else if k = 5 then (mu_xor (wr (x + i)) i, [51, 1]) else (wr (x + i), [1])
def plP (k i v x : Int) : Int × List Int := (wr ((goA k i x).1 - v), 2 :: (goA k i x).2)
def paA (k i v x : Int) : Int × List Int := if k = 2 ∨ k = 5 then (wr (-(plP k i v x).1), 21 :: (plP k i v x).2) else if k = 6 then (wr ((plP k i v x).1 + v), 61 :: (plP k i v x).2) else plP k i v x
def plT (k i v x : Int) : Int × List Int := (wr ((paA k i v x).1 * 2), 3 :: (paA k i v x).2)
def teA (k i v x : Int) : Int × List Int := if k = 3 ∨ k = 6 then (mu_xor (plT k i v x).1 7, 31 :: (plT k i v x).2) else if k = 4 then (wr ((plT k i v (wr (x - 1))).1 + (goA k i 2).1), 41 :: ((plT k i v (wr (x - 1))).2 ++ (goA k i 2).2)) else plT k i v x
def actA (k i v a x : Int) : Int × List Int := if a = 0 then goA k i x else if a = 1 then paA k i v x else teA k i v x
def lst (T : Row) : Int → List Int → Prop
  | _, [] => True
  | a, x :: r => T a = x ∧ lst T (a + 1) r
theorem lst_off {T : Row} {j x : Int} : ∀ {L : List Int} {a : Int}, lst T a L → a + L.length ≤ j → lst (upR T j x) a L
  | [], _, _, _ => trivial
  | y :: L, a, h, hj => by
    have hl : ((y :: L).length : Int) = L.length + 1 := by simp
    rw [hl] at hj
    exact ⟨by rw [upR_ne _ (by omega)]; exact h.1, lst_off h.2 (by omega)⟩
theorem lst_add {T : Row} {x : Int} : ∀ {L : List Int} {a : Int}, lst T a L → lst (upR T (a + L.length) x) a (L ++ [x])
  | [], a, _ => ⟨by simp [upR], trivial⟩
  | y :: L, a, h => by
    have hl : a + ((y :: L).length : Int) = a + 1 + L.length := by simp; omega
    rw [hl]
    exact ⟨by rw [upR_ne _ (by omega)]; exact h.1, lst_add h.2⟩
theorem lst_at {T : Row} : ∀ {L : List Int} {a : Int} (k : Nat), lst T a L → k < L.length → T (a + k) = L.getD k 0
  | [], _, _, _, h => absurd h (by simp)
  | y :: L, a, 0, h, _ => by simpa using h.1
  | y :: L, a, k + 1, h, hk => by
    have := lst_at (a := a + 1) k h.2 (by simpa using hk)
    rw [show a + ((k + 1 : Nat) : Int) = a + 1 + k by omega, this]
    rfl
/-- the trace of the reference -/
def TR (I : mu_M) (L : List Int) : Prop := I 115 21 = L.length ∧ lst (I 126) 0 L
/-- what acts change -/
def FA (I I1 : mu_M) : Prop := (∀ b, b ≠ 115 → b ≠ 126 → I1 b = I b) ∧ ∀ j, j ≠ 21 → I1 115 j = I 115 j
theorem FA.rf (I : mu_M) : FA I I := ⟨fun _ _ _ => rfl, fun _ _ => rfl⟩
theorem FA.tr {I I1 I2 : mu_M} (h : FA I I1) (h2 : FA I1 I2) : FA I I2 := ⟨fun b h3 h4 => by rw [h2.1 b h3 h4, h.1 b h3 h4], fun j h3 => by rw [h2.2 j h3, h.2 j h3]⟩
section
variable {d : Nat} {G : mu_G} {I : mu_M} {Q : Int → mu_G → mu_M → Prop}
theorem r_ranBody (hd : d < 940) (hM : MR G) (x : Int) {L : List Int} (hT : TR I L) (hl : L.length < 20) (h : ∀ I1, FA I I1 → TR I1 (L ++ [x]) → Q 0 G I1) : mu_WP mu_code d 218 0 [(1, 115), (0, x)] [] G I Q := by
  obtain ⟨t1, t2⟩ := hT
  refine vc_218_0 (by omega) _ _ ?_
  simp only [hM, t1]
  refine ⟨trivial, fun h1 => ⟨by grind, ?_⟩, fun h1 => absurd h1 (by omega)⟩
  intro I3 q3 I6 q6
  have r3 : I3 115 21 = L.length := by rw [q3, set_off _ (by decide)]; exact t1
  rw [r3, wr_id (by omega) (by omega)] at q6
  refine h I6 ⟨fun b h1 h2 => by rw [q6, set_off _ h1, q3, set_off _ h2], fun j hj => by rw [q6, set_row, upR_ne _ hj, q3, set_off _ (by decide)]⟩ ⟨?_, ?_⟩
  · rw [q6, set_row, upR_same]; simp
  · rw [q6, set_off _ (by decide), q3, set_row]
    have := lst_add (x := x) t2
    rw [Int.zero_add] at this
    exact this
theorem r_plainGoes (hd : d < 939) (hM : MR G) (x i : Int) (hi : I 115 23 = i) {L : List Int} (hT : TR I L) (hl : L.length < 20) (h : ∀ I1, FA I I1 → TR I1 (L ++ [1]) → Q (wr (x + i)) G I1) : mu_WP mu_code d 219 0 [(1, 115), (0, x)] [] G I Q := by
  refine vc_219_0 (by omega) _ _ ⟨hM.1, r_ranBody (by omega) hM 1 hT hl ?_⟩
  intro I1 f1 t1
  refine ⟨hM.1, ?_⟩
  rw [f1.2 23 (by decide), hi]
  exact h I1 f1 t1
theorem r_goesActs (hd : d < 938) (hM : MR G) (x k i : Int) (hk : 0 ≤ k ∧ k ≤ 6) (h22 : I 115 22 = k) (hi : I 115 23 = i) {L : List Int} (hT : TR I L) (hl : L.length < 18) (h : ∀ I1, FA I I1 → TR I1 (L ++ (goA k i x).2) → Q (goA k i x).1 G I1) : mu_WP mu_code d 216 0 [(1, 115), (0, x)] [] G I Q := by
  unfold goA at h
  refine vc_216_0 (by omega) _ _ ?_
  rw [h22]
  refine ⟨hM.1, r_isUnder (by omega) k 1 hk (by omega) ⟨fun h1 => ⟨hM.1, ?_⟩, fun h1 => ⟨hM.1, ?_⟩⟩⟩
  · have hu : ¬ (k = 1 ∨ k = 4) := by
      have := (bi_not _).1 h1
      unfold under at this
      have := of_decide_eq_false this
      omega
    rw [if_neg hu] at h
    rw [h22]
    refine ⟨fun h2 => r_ranBody (by omega) hM 51 hT (by omega) ?_, fun h2 => r_plainGoes (by omega) hM x i hi hT (by omega) ?_⟩
    · intro I3 f3 t3
      refine ⟨hM.1, r_plainGoes (by omega) hM x i (by rw [f3.2 23 (by decide)]; exact hi) t3 (by simp; omega) ?_⟩
      intro I4 f4 t4
      refine ⟨hM.1, ?_⟩
      rw [f4.2 23 (by decide), f3.2 23 (by decide), hi]
      rw [if_pos h2] at h
      exact h I4 (f3.tr f4) (by simpa using t4)
    · rw [if_neg h2] at h
      exact h
  · have hu : k = 1 ∨ k = 4 := by
      have hb : under k 1 = true := by cases hb : under k 1 <;> simp [hb, bi] at h1 ⊢
      unfold under at hb
      have := of_decide_eq_true hb
      omega
    rw [if_pos hu] at h
    refine r_ranBody (by omega) hM 11 hT (by omega) ?_
    intro I3 f3 t3
    refine ⟨hM.1, r_plainGoes (by omega) hM _ i (by rw [f3.2 23 (by decide)]; exact hi) t3 (by simp; omega) ?_⟩
    intro I4 f4 t4
    exact h I4 (f3.tr f4) (by simpa using t4)
theorem goA_len (k i x : Int) : (goA k i x).2.length ≤ 2 := by
  unfold goA
  repeat' split
  all_goals simp
theorem plP_len (k i v x : Int) : (plP k i v x).2.length ≤ 3 := by
  have := goA_len k i x
  unfold plP
  simp only [List.length_cons]
  omega
theorem paA_len (k i v x : Int) : (paA k i v x).2.length ≤ 4 := by
  have := plP_len k i v x
  unfold paA
  repeat' split
  all_goals first | omega | (simp only [List.length_cons]; omega)
theorem plT_len (k i v x : Int) : (plT k i v x).2.length ≤ 5 := by
  have := paA_len k i v x
  unfold plT
  simp only [List.length_cons]
  omega
theorem teA_len (k i v x : Int) : (teA k i v x).2.length ≤ 8 := by
  have := plT_len k i v x
  have := plT_len k i v (wr (x - 1))
  have := goA_len k i 2
  unfold teA
  repeat' split
  all_goals first | omega | (simp only [List.length_cons, List.length_append]; omega) | (simp only [List.length_cons]; omega)
theorem actA_len (k i v a x : Int) : (actA k i v a x).2.length ≤ 8 := by
  have := goA_len k i x
  have := paA_len k i v x
  have := teA_len k i v x
  unfold actA
  repeat' split
  all_goals omega
theorem r_plainPays (hd : d < 937) (hM : MR G) (x k i v : Int) (hk : 0 ≤ k ∧ k ≤ 6) (h22 : I 115 22 = k) (hi : I 115 23 = i) (hv : I 115 24 = v) {L : List Int} (hT : TR I L) (hl : L.length < 16) (h : ∀ I1, FA I I1 → TR I1 (L ++ (plP k i v x).2) → Q (plP k i v x).1 G I1) : mu_WP mu_code d 221 0 [(1, 115), (0, x)] [] G I Q := by
  refine vc_221_0 (by omega) _ _ ⟨hM.1, r_ranBody (by omega) hM 2 hT (by omega) ?_⟩
  intro I3 f3 t3
  refine ⟨hM.1, r_goesActs (by omega) hM x k i hk (by rw [f3.2 22 (by decide)]; exact h22) (by rw [f3.2 23 (by decide)]; exact hi) t3 (by simp; omega) ?_⟩
  intro I4 f4 t4
  refine ⟨hM.1, ?_⟩
  rw [f4.2 24 (by decide), f3.2 24 (by decide), hv]
  exact h I4 (f3.tr f4) (by simpa [plP] using t4)
theorem r_paysActs (hd : d < 936) (hM : MR G) (x k i v : Int) (hk : 0 ≤ k ∧ k ≤ 6) (h22 : I 115 22 = k) (hi : I 115 23 = i) (hv : I 115 24 = v) {L : List Int} (hT : TR I L) (hl : L.length < 15) (h : ∀ I1, FA I I1 → TR I1 (L ++ (paA k i v x).2) → Q (paA k i v x).1 G I1) : mu_WP mu_code d 220 0 [(1, 115), (0, x)] [] G I Q := by
  unfold paA at h
  refine vc_220_0 (by omega) _ _ ?_
  rw [h22]
  refine ⟨hM.1, r_isUnder (by omega) k 2 hk (by omega) ⟨fun h1 => ⟨hM.1, ?_⟩, fun h1 => ⟨hM.1, ?_⟩⟩⟩
  · have hu : ¬ (k = 2 ∨ k = 5) := by
      have := (bi_not _).1 h1
      unfold under at this
      have := of_decide_eq_false this
      omega
    rw [if_neg hu] at h
    rw [h22]
    refine ⟨fun h2 => r_ranBody (by omega) hM 61 hT (by omega) ?_, fun h2 => r_plainPays (by omega) hM x k i v hk h22 hi hv hT (by omega) ?_⟩
    · intro I3 f3 t3
      refine ⟨hM.1, r_plainPays (by omega) hM x k i v hk (by rw [f3.2 22 (by decide)]; exact h22) (by rw [f3.2 23 (by decide)]; exact hi) (by rw [f3.2 24 (by decide)]; exact hv) t3 (by simp; omega) ?_⟩
      intro I4 f4 t4
      refine ⟨hM.1, ?_⟩
      rw [f4.2 24 (by decide), f3.2 24 (by decide), hv]
      rw [if_pos h2] at h
      exact h I4 (f3.tr f4) (by simpa using t4)
    · rw [if_neg h2] at h
      exact h
  · have hu : k = 2 ∨ k = 5 := by
      have hb : under k 2 = true := by cases hb : under k 2 <;> simp [hb, bi] at h1 ⊢
      unfold under at hb
      have := of_decide_eq_true hb
      omega
    rw [if_pos hu] at h
    refine r_ranBody (by omega) hM 21 hT (by omega) ?_
    intro I3 f3 t3
    refine ⟨hM.1, r_plainPays (by omega) hM x k i v hk (by rw [f3.2 22 (by decide)]; exact h22) (by rw [f3.2 23 (by decide)]; exact hi) (by rw [f3.2 24 (by decide)]; exact hv) t3 (by simp; omega) ?_⟩
    intro I4 f4 t4
    exact h I4 (f3.tr f4) (by simpa using t4)
theorem r_plainTells (hd : d < 935) (hM : MR G) (x k i v : Int) (hk : 0 ≤ k ∧ k ≤ 6) (h22 : I 115 22 = k) (hi : I 115 23 = i) (hv : I 115 24 = v) {L : List Int} (hT : TR I L) (hl : L.length < 14) (h : ∀ I1, FA I I1 → TR I1 (L ++ (plT k i v x).2) → Q (plT k i v x).1 G I1) : mu_WP mu_code d 223 0 [(1, 115), (0, x)] [] G I Q := by
  refine vc_223_0 (by omega) _ _ ⟨hM.1, r_ranBody (by omega) hM 3 hT (by omega) ?_⟩
  intro I3 f3 t3
  refine ⟨hM.1, r_paysActs (by omega) hM x k i v hk (by rw [f3.2 22 (by decide)]; exact h22) (by rw [f3.2 23 (by decide)]; exact hi) (by rw [f3.2 24 (by decide)]; exact hv) t3 (by simp; omega) ?_⟩
  intro I4 f4 t4
  exact h I4 (f3.tr f4) (by simpa [plT] using t4)
theorem r_tellsActs (hd : d < 934) (hM : MR G) (x k i v : Int) (hk : 0 ≤ k ∧ k ≤ 6) (h22 : I 115 22 = k) (hi : I 115 23 = i) (hv : I 115 24 = v) {L : List Int} (hT : TR I L) (hl : L.length < 10) (h : ∀ I1, FA I I1 → TR I1 (L ++ (teA k i v x).2) → Q (teA k i v x).1 G I1) : mu_WP mu_code d 222 0 [(1, 115), (0, x), (3, 0)] [] G I Q := by
  unfold teA at h
  refine vc_222_0 (by omega) _ _ ?_
  rw [h22]
  refine ⟨hM.1, r_isUnder (by omega) k 3 hk (by omega) ⟨fun h1 => ⟨hM.1, ?_⟩, fun h1 => ⟨hM.1, ?_⟩⟩⟩
  · have hu : ¬ (k = 3 ∨ k = 6) := by
      have := (bi_not _).1 h1
      unfold under at this
      have := of_decide_eq_false this
      omega
    rw [if_neg hu] at h
    rw [h22]
    refine ⟨fun h2 => r_ranBody (by omega) hM 41 hT (by omega) ?_, fun h2 => r_plainTells (by omega) hM x k i v hk h22 hi hv hT (by omega) ?_⟩
    · intro I3 f3 t3
      have l2 := plT_len k i v (wr (x - 1))
      refine ⟨hM.1, r_plainTells (by omega) hM _ k i v hk (by rw [f3.2 22 (by decide)]; exact h22) (by rw [f3.2 23 (by decide)]; exact hi) (by rw [f3.2 24 (by decide)]; exact hv) t3 (by simp; omega) ?_⟩
      intro I4 f4 t4
      refine ⟨hM.1, r_goesActs (by omega) hM _ k i hk (by rw [f4.2 22 (by decide), f3.2 22 (by decide)]; exact h22) (by rw [f4.2 23 (by decide), f3.2 23 (by decide)]; exact hi) t4 (by simp; omega) ?_⟩
      intro I5 f5 t5
      rw [if_pos h2] at h
      exact h I5 ((f3.tr f4).tr f5) (by simpa using t5)
    · rw [if_neg h2] at h
      exact h
  · have hu : k = 3 ∨ k = 6 := by
      have hb : under k 3 = true := by cases hb : under k 3 <;> simp [hb, bi] at h1 ⊢
      unfold under at hb
      have := of_decide_eq_true hb
      omega
    rw [if_pos hu] at h
    refine r_ranBody (by omega) hM 31 hT (by omega) ?_
    intro I3 f3 t3
    refine ⟨hM.1, r_plainTells (by omega) hM x k i v hk (by rw [f3.2 22 (by decide)]; exact h22) (by rw [f3.2 23 (by decide)]; exact hi) (by rw [f3.2 24 (by decide)]; exact hv) t3 (by simp; omega) ?_⟩
    intro I4 f4 t4
    exact h I4 (f3.tr f4) (by simpa using t4)
/-- what an act of the reference changes -/
def FB (I I1 : mu_M) : Prop := (∀ b, b ≠ 115 → b ≠ 126 → I1 b = I b) ∧ ∀ j, j < 21 → I1 115 j = I 115 j
theorem r_act (hd : d < 930) (hM : MR G) (p a x : Int) (hI : Inv (I 116))
  (h0 : ¬ ((0 ≤ p ∧ p < I 116 37) ∧ 0 ≤ a ∧ a ≤ 2) → ∀ I1, FB I I1 → TR I1 [] → Q 0 G I1)
  (h : ((0 ≤ p ∧ p < I 116 37) ∧ 0 ≤ a ∧ a ≤ 2) → ∀ I1, FB I I1 → TR I1 (actA (I 116 (45 + p)) p (I 116 (49 + p)) a x).2 → Q (actA (I 116 (45 + p)) p (I 116 (49 + p)) a x).1 G I1) : mu_WP mu_code d 215 0 [(1, 115), (0, p), (0, a), (0, x)] [] G I Q := by
  have h4 := hI.2.1
  refine vc_215_0 (by omega) _ _ _ _ ⟨hM.1, ?_⟩
  intro I1 q1
  have r1 : I1 116 = I 116 := by rw [q1, set_off _ (by decide)]
  have t1 : TR I1 [] := ⟨by rw [q1, set_row, upR_same]; rfl, trivial⟩
  have f1 : FB I I1 := ⟨fun b h1 h2 => by rw [q1, set_off _ h1], fun j hj => by rw [q1, set_row, upR_ne _ (by omega)]⟩
  refine r_isPerson (by omega) hM p (by rw [r1]; exact h4) ?_
  rw [r1]
  refine ⟨fun h1 => h0 (fun hc => ifn h1 hc.1) I1 f1 t1, fun h1 => r_in (by omega) _ _ _ ⟨fun h2 => h0 (fun hc => ifm h2 hc.2) I1 f1 t1, fun h2 => ?_⟩⟩
  have hp := ifp h1
  have ha := ifq h2
  have h := h ⟨hp, ha⟩
  obtain ⟨j1, j2, j3, j4, j5, j6, j7, j8⟩ := hI.2.2.2.2.1 p hp.1 hp.2
  have e1 : wr (45 + p) = 45 + p := wr_id (by omega) (by omega)
  have e2 : wr (49 + p) = 49 + p := wr_id (by omega) (by omega)
  simp only [hM, e1, e2, r1]
  refine ⟨trivial, by grind, ?_⟩
  intro I2 q2 I3 q3
  have r3 : I3 116 = I 116 := by rw [q3, set_off _ (by decide), q2, set_off _ (by decide), r1]
  rw [r3]
  refine ⟨by grind, ?_⟩
  intro I4 q4
  have a22 : I4 115 22 = I 116 (45 + p) := by rw [q4, set_row, upR_ne _ (by decide), q3, set_row, upR_ne _ (by decide), q2, set_row, upR_same]
  have a23 : I4 115 23 = p := by rw [q4, set_row, upR_ne _ (by decide), q3, set_row, upR_same]
  have a24 : I4 115 24 = I 116 (49 + p) := by rw [q4, set_row, upR_same]
  have t4 : TR I4 [] := ⟨by rw [q4, set_row, upR_ne _ (by decide), q3, set_row, upR_ne _ (by decide), q2, set_row, upR_ne _ (by decide)]; exact t1.1, trivial⟩
  have f4 : FB I I4 := ⟨fun b h1 h2 => by rw [q4, set_off _ h1, q3, set_off _ h1, q2, set_off _ h1, f1.1 b h1 h2], fun j hj => by rw [q4, set_row, upR_ne _ (by omega), q3, set_row, upR_ne _ (by omega), q2, set_row, upR_ne _ (by omega), f1.2 j hj]⟩
  have fin : ∀ I5, FA I4 I5 → FB I I5 := fun I5 f5 => ⟨fun b h1 h2 => by rw [f5.1 b h1 h2, f4.1 b h1 h2], fun j hj => by rw [f5.2 j (by omega), f4.2 j hj]⟩
  unfold actA at h
  refine ⟨fun h5 => r_goesActs (by omega) hM x _ _ j4 a22 a23 t4 (by simp) ?_, fun h5 => ⟨fun h6 => r_paysActs (by omega) hM x _ _ _ j4 a22 a23 a24 t4 (by simp) ?_, fun h6 => r_tellsActs (by omega) hM x _ _ _ j4 a22 a23 a24 t4 (by simp) ?_⟩⟩
  · intro I5 f5 t5
    rw [if_pos h5] at h
    exact h I5 (fin I5 f5) (by simpa using t5)
  · intro I5 f5 t5
    rw [if_neg h5, if_pos h6] at h
    exact h I5 (fin I5 f5) (by simpa using t5)
  · intro I5 f5 t5
    rw [if_neg h5, if_neg h6] at h
    exact h I5 (fin I5 f5) (by simpa using t5)
theorem r_trace (hd : d < 930) (hM : MR G) (i : Int) {L : List Int} (hT : TR I L) (hl : L.length ≤ 20) (h : Q (if 0 ≤ i ∧ i < L.length then L.getD i.toNat 0 else -1) G I) : mu_WP mu_code d 224 0 [(1, 115), (0, i)] [] G I Q := by
  obtain ⟨t1, t2⟩ := hT
  have ans : ∀ u : Int, u = (L.length : Int) - 1 → mu_WP mu_code (d + 1) 147 0 [(0, i), (0, 0), (0, u)] [] G I (fun r3 G4 I5 => ((r3 = 0 → Q (-1) G4 I5) ∧ (¬ r3 = 0 → sh G4 115 = (12, 0) ∧ ((sh G4 (rf G4 115 20)).1 = 100 ∧ (0 : Int) ≤ i ∧ i < (sh G4 (rf G4 115 20)).2) ∧ Q (I5 (rf G4 115 20) i) G4 I5))) := by
    intro u hu
    refine r_in (by omega) _ _ _ ⟨fun h1 => ?_, fun h1 => ?_⟩
    · have h1 := ifm h1
      rw [if_neg (by omega)] at h
      exact h
    · have h1 := ifq h1
      rw [if_pos (by omega)] at h
      have := lst_at (k := i.toNat) t2 (by omega)
      rw [show (0 : Int) + (i.toNat : Int) = i by omega] at this
      simp only [hM]
      refine ⟨trivial, by grind, ?_⟩
      rw [this]
      exact h
  refine vc_224_0 (by omega) _ _ ⟨hM.1, ?_⟩
  rw [t1]
  refine ⟨fun h1 => ?_, fun h1 => ?_⟩
  · exact ans _ (wr_id (by omega) (by omega))
  · refine ans _ ?_
    rw [wr_id (by omega) (by omega)]
    omega
end

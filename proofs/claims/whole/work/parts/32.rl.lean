/-! THE REFERENCE READS ITS LAW: codes on a stack of truths -/
def bi (b : Bool) : Int := if b then 1 else 0
theorem bi_t : bi true = 1 := rfl
theorem bi_f : bi false = 0 := rfl
def codes (S : Row) (a : Int) : Nat → List Int
  | 0 => []
  | n + 1 => S a :: codes S (a + 1) n
def tst (f : Row) (c : Int) : Bool := if Int.tmod (Int.tdiv c 8) 4 = 0 then decide (f (Int.tmod c 8) < Int.tdiv c 32) else if Int.tmod (Int.tdiv c 8) 4 = 1 then decide (f (Int.tmod c 8) = Int.tdiv c 32) else decide (Int.tdiv c 32 < f (Int.tmod c 8))
def okC : List Int → Nat → Prop
  | [], _ => True
  | c :: cs, n => (-300 < c ∧ c < 4096) ∧ (0 ≤ c → Int.tmod c 8 < 6 ∧ n < 60 ∧ okC cs (n + 1)) ∧ (c = -1 → 1 ≤ n ∧ okC cs n) ∧ (-10 < c → c < -1 → 2 ≤ n ∧ okC cs (n - 1)) ∧ (c ≤ -10 → n = 1 ∧ okC cs 0)
def stk (T : Row) : List Bool → Prop
  | [] => True
  | b :: r => T r.length = bi b ∧ stk T r
def runL (f : Row) : List Int → List Bool → Bool → Int → Bool × Int
  | [], _, r, e => (r, e)
  | c :: cs, st, r, e =>
    if 0 ≤ c then runL f cs (tst f c :: st) r e
    else if c = -1 then (match st with
      | b :: st => runL f cs ((!b) :: st) r e
      | [] => (r, e))
    else if -10 < c then (match st with
      | b :: a :: st => runL f cs ((if c = -2 then a && b else a || b) :: st) r e
      | _ => (r, e))
    else (match st with
      | b :: _ => runL f cs [] (r || (b && decide (c = -10))) (if b = true ∧ c ≤ -200 then e + (-200 - c) else e)
      | [] => (r, e))
theorem stk_set {T : Row} {k x : Int} : ∀ {st : List Bool}, stk T st → (st.length : Int) ≤ k → stk (upR T k x) st
  | [], _, _ => trivial
  | b :: r, h, hk => by
    have hk2 : (r.length : Int) + 1 ≤ k := by simpa using hk
    refine ⟨?_, stk_set h.2 (by omega)⟩
    rw [upR_ne _ (by omega)]
    exact h.1
/-- the cells in which a look at the law leaves its marks -/
def FL (I I1 : mu_M) : Prop := (∀ b, b ≠ 115 → b ≠ 119 → b ≠ 120 → I1 b = I b) ∧ ∀ j, j ≠ 12 → j ≠ 13 → I1 115 j = I 115 j
theorem FL.rf (I : mu_M) : FL I I := ⟨fun _ _ _ _ => rfl, fun _ _ _ => rfl⟩
theorem FL.tr {I I1 I2 : mu_M} (h : FL I I1) (h2 : FL I1 I2) : FL I I2 := ⟨fun b h3 h4 h5 => by rw [h2.1 b h3 h4 h5, h.1 b h3 h4 h5], fun j h3 h4 => by rw [h2.2 j h3 h4, h.2 j h3 h4]⟩
theorem FL.s119 (I : mu_M) (k x : Int) : FL I (mu_set I 119 k x) := ⟨fun b _ h _ => set_off I h, fun j _ _ => by rw [set_off I (by decide)]⟩
theorem FL.s120 (I : mu_M) (k x : Int) : FL I (mu_set I 120 k x) := ⟨fun b _ _ h => set_off I h, fun j _ _ => by rw [set_off I (by decide)]⟩
theorem FL.s12 (I : mu_M) (x : Int) : FL I (mu_set I 115 12 x) := ⟨fun b h _ _ => set_off I h, fun j h _ => by rw [set_row, upR_ne _ h]⟩
theorem FL.s13 (I : mu_M) (x : Int) : FL I (mu_set I 115 13 x) := ⟨fun b h _ _ => set_off I h, fun j _ h => by rw [set_row, upR_ne _ h]⟩
section
variable {d : Nat} {G : mu_G} {I : mu_M} {Q : Int → mu_G → mu_M → Prop}
theorem l_444 (hd : d < 999) {v1 v6 v7 v8 v9 : mu_V} {x2 x3 x4 x5 : Int} (hx : 0 ≤ x5 ∧ x5 < 2000) (h : mu_WP mu_code d 172 136 [(1, 115), v1, (0, x2), (0, x3), (0, x4), (0, x5 + 1), v6, v7, v8, v9] [] G I Q) : mu_WP mu_code d 172 444 [(1, 115), v1, (0, x2), (0, x3), (0, x4), (0, x5), v6, v7, v8, v9] [] G I Q := by
  refine vc_172_444 (by omega) _ _ _ _ _ _ _ _ _ _ ?_
  rw [wr_id (by omega) (by omega)]
  exact h
theorem l_245 (hd : d < 999) (hM : MR G) {v1 v6 v7 v8 v9 : mu_V} {x2 x3 x4 x5 : Int} (hx : 0 ≤ x5 ∧ x5 < 2000) (h4 : 0 ≤ x4 ∧ x4 < 60) (b : Bool) (h : mu_WP mu_code d 172 136 [(1, 115), v1, (0, x2), (0, x3), (0, x4 + 1), (0, x5 + 1), v6, v7, v8, v9] [] G (mu_set I 120 x4 (bi b)) Q) : mu_WP mu_code d 172 245 [(1, 115), v1, (0, x2), (0, x3), (0, x4), (0, x5), v6, v7, v8, v9] [(0, bi b), (0, x4), (1, 120)] G I Q := by
  refine vc_172_245 (by omega) _ _ _ _ _ _ _ _ _ _ _ _ _ ?_
  simp only [hM]
  refine ⟨⟨trivial, by omega, by omega, by cases b <;> simp [bi]⟩, ?_⟩
  intro I1 e1
  rw [wr_id (by omega) (by omega), e1]
  exact l_444 hd hx h
theorem l_283 (hd : d < 999) (hM : MR G) {v1 v6 v7 v8 v9 : mu_V} {x2 x3 x4 x5 s1 : Int} (hx : 0 ≤ x5 ∧ x5 < 2000) (h4 : 0 ≤ s1 ∧ s1 < 60) (b : Bool) (h : mu_WP mu_code d 172 136 [(1, 115), v1, (0, x2), (0, x3), (0, x4), (0, x5 + 1), v6, v7, v8, v9] [] G (mu_set I 120 s1 (bi b)) Q) : mu_WP mu_code d 172 283 [(1, 115), v1, (0, x2), (0, x3), (0, x4), (0, x5), v6, v7, v8, v9] [(0, bi b), (0, s1), (1, 120)] G I Q := by
  refine vc_172_283 (by omega) _ _ _ _ _ _ _ _ _ _ _ _ _ ?_
  simp only [hM]
  refine ⟨⟨trivial, by omega, by omega, by cases b <;> simp [bi]⟩, ?_⟩
  intro I1 e1
  rw [e1]
  exact l_444 hd hx h
theorem l_369 (hd : d < 999) (hM : MR G) {v1 v6 v7 v8 v9 : mu_V} {x2 x3 x4 x5 s1 : Int} (hx : 0 ≤ x5 ∧ x5 < 2000) (h4 : 0 ≤ s1 ∧ s1 < 60) (b : Bool) (h : mu_WP mu_code d 172 136 [(1, 115), v1, (0, x2), (0, x3), (0, x4), (0, x5 + 1), v6, v7, v8, v9] [] G (mu_set I 120 s1 (bi b)) Q) : mu_WP mu_code d 172 369 [(1, 115), v1, (0, x2), (0, x3), (0, x4), (0, x5), v6, v7, v8, v9] [(0, bi b), (0, s1), (1, 120)] G I Q := by
  refine vc_172_369 (by omega) _ _ _ _ _ _ _ _ _ _ _ _ _ ?_
  simp only [hM]
  refine ⟨⟨trivial, by omega, by omega, by cases b <;> simp [bi]⟩, ?_⟩
  intro I1 e1
  rw [e1]
  exact l_444 hd hx h
theorem l_440 (hd : d < 999) (hM : MR G) {v1 v6 v7 v8 v9 : mu_V} {x2 x3 x4 x5 s0 s1 : Int} (hx : 0 ≤ x5 ∧ x5 < 2000) (hs : 0 ≤ s1 ∧ s1 < 1000000 ∧ 0 ≤ s0 ∧ s0 < 100000) (h : mu_WP mu_code d 172 136 [(1, 115), v1, (0, x2), (0, x3), (0, x4), (0, x5 + 1), v6, v7, v8, v9] [] G (mu_set I 115 13 (s1 + s0)) Q) : mu_WP mu_code d 172 440 [(1, 115), v1, (0, x2), (0, x3), (0, x4), (0, x5), v6, v7, v8, v9] [(0, s0), (0, s1), (1, 115)] G I Q := by
  refine vc_172_440 (by omega) _ _ _ _ _ _ _ _ _ _ _ _ _ ?_
  refine ⟨hM.1, ?_⟩
  intro I1 e1
  rw [e1, wr_id (by omega) (by omega)]
  exact l_444 hd hx h
theorem l_405 (hd : d < 999) (hM : MR G) {v1 v7 v8 v9 : mu_V} {x2 x3 x4 x5 x6 : Int} (hx : 0 ≤ x5 ∧ x5 < 2000) (r t : Bool) (ht : I 120 0 = bi t) (he : 0 ≤ I 115 13 ∧ I 115 13 < 1000000) (h6 : -300 < x6) (h : mu_WP mu_code d 172 136 [(1, 115), v1, (0, x2), (0, x3), (0, x4), (0, x5 + 1), (0, x6), v7, v8, v9] [] G (mu_set (mu_set I 115 12 (bi r)) 115 13 (I 115 13 + (if t = true ∧ x6 ≤ -200 then -200 - x6 else 0))) Q) : mu_WP mu_code d 172 405 [(1, 115), v1, (0, x2), (0, x3), (0, x4), (0, x5), (0, x6), v7, v8, v9] [(0, bi r), (1, 115)] G I Q := by
  refine vc_172_405 (by omega) _ _ _ _ _ _ _ _ _ _ _ _ ?_
  simp only [hM]
  refine ⟨⟨trivial, by cases r <;> simp [bi]⟩, ?_⟩
  intro I1 e1
  have e13 : I1 115 13 = I 115 13 := by rw [e1]; simp [mu_set]
  have e120 : I1 120 0 = bi t := by rw [e1, set_off _ (by decide), ht]
  rw [e13, e120]
  have w1 : wr (-200 - x6) = -200 - x6 ∨ ¬ x6 ≤ -200 := by
    by_cases hh : x6 ≤ -200
    · exact Or.inl (wr_id (by omega) (by omega))
    · exact Or.inr hh
  subst e1
  refine ⟨trivial, by simp, fun h0 => ?_, fun h1 => ⟨fun h2 => ?_, fun h2 => ?_⟩⟩
  · refine vc_172_439 (by omega) _ _ _ _ _ _ _ _ _ _ _ _ (l_440 hd hM hx (by omega) ?_)
    cases t
    · simpa using h
    · simp [bi] at h0
  · refine vc_172_439 (by omega) _ _ _ _ _ _ _ _ _ _ _ _ (l_440 hd hM hx (by omega) ?_)
    rw [if_neg (by omega)] at h
    exact h
  · cases t
    · simp [bi] at h1
    · rw [if_pos ⟨rfl, by omega⟩] at h
      rw [wr_id (by omega) (by omega)]
      exact l_440 hd hM hx (by omega) h
theorem bi_not (b : Bool) : (bi b = 0) ↔ b = false := by cases b <;> simp [bi]
theorem l_136 (hd : d < 999) (hM : MR G) {f : Row} {fr many : Int} (hf : 0 ≤ fr ∧ fr ≤ 860) (hm : 0 ≤ many ∧ fr + many ≤ 977) : ∀ (n : Nat) (a : Int) (st : List Bool) (r : Bool) (e : Int) (I : mu_M) (v1 v6 v7 v8 v9 : mu_V), a + n = fr + many → 0 ≤ a → I 115 12 = bi r → I 115 13 = e → stk (I 120) st → st.length ≤ 60 → okC (codes (I 116) a n) st.length → (∀ j, 0 ≤ j → j < 6 → I 119 j = f j) → 0 ≤ e → e + 99 * n ≤ 100000 →
    (∀ I1, FL I I1 → I1 115 12 = bi (runL f (codes (I 116) a n) st r e).1 → I1 115 13 = (runL f (codes (I 116) a n) st r e).2 → Q 0 G I1) →
    mu_WP mu_code d 172 136 [(1, 115), v1, (0, many), (0, fr), (0, (st.length : Int)), (0, a), v6, v7, v8, v9] [] G I Q := by
  intro n
  induction n with
  | zero =>
    intro a st r e I v1 v6 v7 v8 v9 ha h0 h12 h13 hst h60 hok hby he hb hQ
    refine vc_172_136 (by omega) _ _ _ _ _ _ _ _ _ _ ?_
    rw [wr_id (by omega) (by omega)]
    exact ⟨fun hlt => absurd hlt (by omega), fun _ => hQ I (FL.rf I) h12 h13⟩
  | succ n ih =>
    intro a st r e I v1 v6 v7 v8 v9 ha h0 h12 h13 hst h60 hok hby he hb hQ
    refine vc_172_136 (by omega) _ _ _ _ _ _ _ _ _ _ ?_
    rw [wr_id (x := fr + many) (by omega) (by omega)]
    refine ⟨fun _ => ?_, fun hge => absurd hge (by omega)⟩
    simp only [hM]
    unfold codes at hok hQ
    obtain ⟨hc, ok1, ok2, ok3, ok4⟩ := hok
    have ih2 : ∀ (st : List Bool) (r : Bool) (e : Int) (I1 : mu_M) (v1 v6 v7 v8 v9 : mu_V), FL I I1 → I1 115 12 = bi r → I1 115 13 = e → stk (I1 120) st → st.length ≤ 60 → okC (codes (I 116) (a + 1) n) st.length → (∀ j, 0 ≤ j → j < 6 → I1 119 j = f j) → 0 ≤ e → e + 99 * n ≤ 100000 →
        (∀ I2, FL I1 I2 → I2 115 12 = bi (runL f (codes (I 116) (a + 1) n) st r e).1 → I2 115 13 = (runL f (codes (I 116) (a + 1) n) st r e).2 → Q 0 G I2) →
        mu_WP mu_code d 172 136 [(1, 115), v1, (0, many), (0, fr), (0, (st.length : Int)), (0, a + 1), v6, v7, v8, v9] [] G I1 Q := by
      intro st r e I1 v1 v6 v7 v8 v9 hfl b1 b2 b3 b60 b4 b5 b6 b7 b8
      have e116 : I1 116 = I 116 := hfl.1 116 (by decide) (by decide) (by decide)
      rw [← e116] at b4 b8
      exact ih (a + 1) st r e I1 v1 v6 v7 v8 v9 (by omega) (by omega) b1 b2 b3 b60 b4 b5 b6 b7 b8
    clear ih
    generalize hcs : codes (I 116) (a + 1) n = cs at *
    generalize hcc : I 116 a = c at *
    have hxa : 0 ≤ a ∧ a < 2000 := by omega
    have wm : wr ((st.length : Int) - 1) = (st.length : Int) - 1 := wr_id (by omega) (by omega)
    refine ⟨trivial, by grind, fun hneg => ⟨fun h1 => ?_, fun h1 => ⟨fun h10 => ⟨fun h2 => ?_, fun h2 => ?_⟩, fun h10 => ?_⟩⟩, fun hpos => ?_⟩
    · -- not
      obtain ⟨on, ok⟩ := ok2 h1
      cases st with
      | nil => exact absurd on (by simp)
      | cons b st =>
        have hl : ((b :: st).length : Int) = st.length + 1 := by simp
        have hl2 : ((((!b) :: st).length : Nat) : Int) = st.length + 1 := by simp
        obtain ⟨hb1, hst2⟩ := hst
        rw [hl] at wm ⊢
        have wm2 : wr ((st.length : Int) + 1 - 1) = st.length := by rw [wm]; omega
        rw [wm2, hb1]
        have hfin : mu_WP mu_code d 172 136 [(1, 115), v1, (0, many), (0, fr), (0, (st.length : Int) + 1), (0, a + 1), (0, c), v7, v8, v9] [] G (mu_set I 120 (st.length : Int) (bi (!b))) Q := by
          have := ih2 ((!b) :: st) r e (mu_set I 120 (st.length : Int) (bi (!b))) v1 (0, c) v7 v8 v9 (FL.s120 _ _ _) (by rw [set_off _ (by decide)]; exact h12) (by rw [set_off _ (by decide)]; exact h13) (by rw [set_row]; exact ⟨upR_same _ _ _, stk_set hst2 (by omega)⟩) (by simpa using h60) ok (by rw [set_off _ (by decide)]; exact hby) he (by omega) ?_
          · rw [hl2] at this
            exact this
          · intro I2 f1 f2 f3
            have hr : runL f (c :: cs) (b :: st) r e = runL f cs ((!b) :: st) r e := by
              rw [runL, if_neg (by omega), if_pos h1]
            rw [hr] at hQ
            exact hQ I2 ((FL.s120 _ _ _).tr f1) f2 f3
        have hlen : 0 ≤ (st.length : Int) ∧ (st.length : Int) < 60 := by
          have := h60
          simp at this
          omega
        refine ⟨by grind, fun hb0 => ?_, fun hb0 => ?_⟩
        · have hbf : b = false := (bi_not b).1 hb0
          subst hbf
          exact l_283 hd hM hxa hlen true hfin
        · have hbt : b = true := by cases b <;> simp [bi] at hb0 ⊢
          subst hbt
          exact l_283 hd hM hxa hlen false hfin
    · -- and
      obtain ⟨on, ok⟩ := ok3 h10 (by omega)
      match st, hst, h60, on, ok, hQ with
      | b :: b2 :: st, hst, h60, on, ok, hQ =>
        have hl : ((b :: b2 :: st).length : Int) = st.length + 2 := by simp; omega
        have hl2 : ((((b2 && b) :: st).length : Nat) : Int) = st.length + 1 := by simp
        obtain ⟨hb1, hb2, hst2⟩ := hst
        rw [show ((b2 :: st).length : Int) = st.length + 1 by simp] at hb1
        rw [hl]
        have h60i : 0 ≤ (st.length : Int) ∧ (st.length : Int) + 2 ≤ 60 := by
          have := h60
          simp at this
          omega
        have w1 : wr ((st.length : Int) + 2 + -1) = st.length + 1 := by rw [wr_id (by omega) (by omega)]; omega
        have w2 : wr ((st.length : Int) + 1 - 1) = st.length := by rw [wr_id (by omega) (by omega)]; omega
        simp only [w1, w2, hb1, hb2]
        have hfin : mu_WP mu_code d 172 136 [(1, 115), v1, (0, many), (0, fr), (0, (st.length : Int) + 1), (0, a + 1), (0, c), v7, v8, v9] [] G (mu_set I 120 (st.length : Int) (bi ((b2 && b)))) Q := by
          have := ih2 (((b2 && b)) :: st) r e (mu_set I 120 (st.length : Int) (bi ((b2 && b)))) v1 (0, c) v7 v8 v9 (FL.s120 _ _ _) (by rw [set_off _ (by decide)]; exact h12) (by rw [set_off _ (by decide)]; exact h13) (by rw [set_row]; exact ⟨upR_same _ _ _, stk_set hst2 (by omega)⟩) (by simp; omega) ok (by rw [set_off _ (by decide)]; exact hby) he (by omega) ?_
          · rw [hl2] at this
            exact this
          · intro I2 f1 f2 f3
            have hr : runL f (c :: cs) (b :: b2 :: st) r e = runL f cs (((b2 && b)) :: st) r e := by
              rw [runL, if_neg (by omega), if_neg h1, if_pos h10]
              dsimp only
              rw [if_pos h2]
            rw [hr] at hQ
            exact hQ I2 ((FL.s120 _ _ _).tr f1) f2 f3
        have hlen : 0 ≤ (st.length : Int) ∧ (st.length : Int) < 60 := by omega
        refine ⟨by grind, fun ha0 => ?_, fun ha0 => ⟨by grind, fun hb0 => ?_, fun hb0 => ?_⟩⟩
        · have : b2 = false := (bi_not b2).1 ha0
          subst this
          exact vc_172_338 (by omega) _ _ _ _ _ _ _ _ _ _ _ _ (l_369 hd hM hxa hlen false hfin)
        · have : b = false := (bi_not b).1 hb0
          subst this
          refine vc_172_338 (by omega) _ _ _ _ _ _ _ _ _ _ _ _ (l_369 hd hM hxa hlen false ?_)
          simpa using hfin
        · have : b2 = true := by cases b2 <;> simp [bi] at ha0 ⊢
          subst this
          have : b = true := by cases b <;> simp [bi] at hb0 ⊢
          subst this
          exact l_369 hd hM hxa hlen true hfin
    · -- or
      obtain ⟨on, ok⟩ := ok3 h10 (by omega)
      match st, hst, h60, on, ok, hQ with
      | b :: b2 :: st, hst, h60, on, ok, hQ =>
        have hl : ((b :: b2 :: st).length : Int) = st.length + 2 := by simp; omega
        have hl2 : ((((b2 || b) :: st).length : Nat) : Int) = st.length + 1 := by simp
        obtain ⟨hb1, hb2, hst2⟩ := hst
        rw [show ((b2 :: st).length : Int) = st.length + 1 by simp] at hb1
        rw [hl]
        have h60i : 0 ≤ (st.length : Int) ∧ (st.length : Int) + 2 ≤ 60 := by
          have := h60
          simp at this
          omega
        have w1 : wr ((st.length : Int) + 2 + -1) = st.length + 1 := by rw [wr_id (by omega) (by omega)]; omega
        have w2 : wr ((st.length : Int) + 1 - 1) = st.length := by rw [wr_id (by omega) (by omega)]; omega
        simp only [w1, w2, hb1, hb2]
        have hfin : mu_WP mu_code d 172 136 [(1, 115), v1, (0, many), (0, fr), (0, (st.length : Int) + 1), (0, a + 1), (0, c), v7, v8, v9] [] G (mu_set I 120 (st.length : Int) (bi ((b2 || b)))) Q := by
          have := ih2 (((b2 || b)) :: st) r e (mu_set I 120 (st.length : Int) (bi ((b2 || b)))) v1 (0, c) v7 v8 v9 (FL.s120 _ _ _) (by rw [set_off _ (by decide)]; exact h12) (by rw [set_off _ (by decide)]; exact h13) (by rw [set_row]; exact ⟨upR_same _ _ _, stk_set hst2 (by omega)⟩) (by simp; omega) ok (by rw [set_off _ (by decide)]; exact hby) he (by omega) ?_
          · rw [hl2] at this
            exact this
          · intro I2 f1 f2 f3
            have hr : runL f (c :: cs) (b :: b2 :: st) r e = runL f cs (((b2 || b)) :: st) r e := by
              rw [runL, if_neg (by omega), if_neg h1, if_pos h10]
              dsimp only
              rw [if_neg h2]
            rw [hr] at hQ
            exact hQ I2 ((FL.s120 _ _ _).tr f1) f2 f3
        have hlen : 0 ≤ (st.length : Int) ∧ (st.length : Int) < 60 := by omega
        refine ⟨by grind, fun ha0 => ⟨by grind, fun hb0 => ?_, fun hb0 => ?_⟩, fun ha0 => ?_⟩
        · have : b2 = false := (bi_not b2).1 ha0
          subst this
          have : b = false := (bi_not b).1 hb0
          subst this
          exact l_369 hd hM hxa hlen false hfin
        · have : b = true := by cases b <;> simp [bi] at hb0 ⊢
          subst this
          refine vc_172_364 (by omega) _ _ _ _ _ _ _ _ _ _ _ _ (l_369 hd hM hxa hlen true ?_)
          simpa using hfin
        · have : b2 = true := by cases b2 <;> simp [bi] at ha0 ⊢
          subst this
          exact vc_172_364 (by omega) _ _ _ _ _ _ _ _ _ _ _ _ (l_369 hd hM hxa hlen true hfin)
    · -- the clause's end
      obtain ⟨on, ok⟩ := ok4 (by omega)
      match st, hst, h60, on, ok, hQ with
      | [b], hst, h60, on, ok, hQ =>
        have hb : I 120 0 = bi b := hst.1
        have hfin : ∀ v1 : mu_V, mu_WP mu_code d 172 136 [(1, 115), v1, (0, many), (0, fr), (0, 0), (0, a + 1), (0, c), v7, v8, v9] [] G (mu_set (mu_set I 115 12 (bi (r || (b && decide (c = -10))))) 115 13 (I 115 13 + (if b = true ∧ c ≤ -200 then -200 - c else 0))) Q := by
          intro v1
          refine ih2 [] (r || (b && decide (c = -10))) (if b = true ∧ c ≤ -200 then e + (-200 - c) else e) (mu_set (mu_set I 115 12 (bi (r || (b && decide (c = -10))))) 115 13 (I 115 13 + (if b = true ∧ c ≤ -200 then -200 - c else 0))) v1 (0, c) v7 v8 v9 ((FL.s12 _ _).tr (FL.s13 _ _)) (by simp [mu_set]) (by simp only [mu_set]; rw [if_pos ⟨trivial, trivial⟩, h13]; split <;> omega) trivial (by simp) ok (by rw [set_off _ (by decide), set_off _ (by decide)]; exact hby) (by split <;> omega) (by split <;> omega) ?_
          intro I2 f1 f2 f3
          have hr : runL f (c :: cs) [b] r e = runL f cs [] (r || (b && decide (c = -10))) (if b = true ∧ c ≤ -200 then e + (-200 - c) else e) := by
            rw [runL, if_neg (by omega), if_neg h1, if_neg h10]
          rw [hr] at hQ
          exact hQ I2 (((FL.s12 _ _).tr (FL.s13 _ _)).tr f1) f2 f3
        rw [h12, hb]
        have hee : 0 ≤ I 115 13 ∧ I 115 13 < 1000000 := by omega
        refine ⟨fun hr0 => ⟨by grind, fun hb0 => ?_, fun hb0 => ⟨fun hc0 => ?_, fun hc0 => ?_⟩⟩, fun hr0 => ?_⟩
        · have : r = false := (bi_not r).1 hr0
          subst this
          have : b = false := (bi_not b).1 hb0
          subst this
          refine vc_172_404 (by omega) _ _ _ _ _ _ _ _ _ _ _ (l_405 hd hM hxa false false hb hee (by omega) ?_)
          simpa using hfin _
        · have : r = false := (bi_not r).1 hr0
          subst this
          have : b = true := by cases b <;> simp [bi] at hb0 ⊢
          subst this
          refine vc_172_400 (by omega) _ _ _ _ _ _ _ _ _ _ _ (l_405 hd hM hxa true true hb hee (by omega) ?_)
          have := hfin v1
          simpa [hc0] using this
        · have : r = false := (bi_not r).1 hr0
          subst this
          have : b = true := by cases b <;> simp [bi] at hb0 ⊢
          subst this
          refine vc_172_404 (by omega) _ _ _ _ _ _ _ _ _ _ _ (l_405 hd hM hxa false true hb hee (by omega) ?_)
          have := hfin v1
          simpa [hc0] using this
        · have : r = true := by cases r <;> simp [bi] at hr0 ⊢
          subst this
          refine vc_172_400 (by omega) _ _ _ _ _ _ _ _ _ _ _ (l_405 hd hM hxa true b hb hee (by omega) ?_)
          have := hfin v1
          simpa using this
    · -- a test
      have hc0 : 0 ≤ c := by omega
      obtain ⟨om, on, ok⟩ := ok1 hc0
      have t8 : Int.tdiv c 8 = c / 8 := Int.tdiv_eq_ediv_of_nonneg hc0
      have t32 : Int.tdiv c 32 = c / 32 := Int.tdiv_eq_ediv_of_nonneg hc0
      have m8 : Int.tmod c 8 = c % 8 := Int.tmod_eq_emod_of_nonneg hc0
      have w8 : wr (Int.tdiv c 8) = Int.tdiv c 8 := by rw [t8]; exact wr_id (by omega) (by omega)
      have w32 : wr (Int.tdiv c 32) = Int.tdiv c 32 := by rw [t32]; exact wr_id (by omega) (by omega)
      have hby2 : I 119 (Int.tmod c 8) = f (Int.tmod c 8) := hby _ (by omega) om
      have hl2 : (((tst f c :: st).length : Nat) : Int) = st.length + 1 := by simp
      have hlen : 0 ≤ (st.length : Int) ∧ (st.length : Int) < 60 := by omega
      simp only [w8, w32, hby2]
      have hfin : ∀ v6 v7 v8 v9 : mu_V, mu_WP mu_code d 172 136 [(1, 115), v1, (0, many), (0, fr), (0, (st.length : Int) + 1), (0, a + 1), v6, v7, v8, v9] [] G (mu_set I 120 (st.length : Int) (bi (tst f c))) Q := by
        intro v6 v7 v8 v9
        have := ih2 (tst f c :: st) r e (mu_set I 120 (st.length : Int) (bi (tst f c))) v1 v6 v7 v8 v9 (FL.s120 _ _ _) (by rw [set_off _ (by decide)]; exact h12) (by rw [set_off _ (by decide)]; exact h13) (by rw [set_row]; exact ⟨upR_same _ _ _, stk_set hst (by omega)⟩) (by simp; omega) ok (by rw [set_off _ (by decide)]; exact hby) he (by omega) ?_
        · rw [hl2] at this
          exact this
        · intro I2 f1 f2 f3
          have hr : runL f (c :: cs) st r e = runL f cs (tst f c :: st) r e := by
            rw [runL.eq_def]
            dsimp only
            rw [if_pos hc0]
          rw [hr] at hQ
          exact hQ I2 ((FL.s120 _ _ _).tr f1) f2 f3
      refine ⟨by grind, fun q0 => ⟨fun q1 => ?_, fun q1 => ?_⟩, fun q0 => ⟨fun p0 => ⟨fun q1 => ?_, fun q1 => ?_⟩, fun p0 => ⟨fun q1 => ?_, fun q1 => ?_⟩⟩⟩
      · have : tst f c = true := by simp [tst, q0, q1]
        rw [this] at hfin
        exact l_245 hd hM hxa hlen true (hfin _ _ _ _)
      · have : tst f c = false := by simp [tst, q0]; omega
        rw [this] at hfin
        exact l_245 hd hM hxa hlen false (hfin _ _ _ _)
      · have : tst f c = true := by simp [tst, p0, q1]
        rw [this] at hfin
        exact l_245 hd hM hxa hlen true (hfin _ _ _ _)
      · have : tst f c = false := by simp [tst, p0]; omega
        rw [this] at hfin
        exact l_245 hd hM hxa hlen false (hfin _ _ _ _)
      · have : tst f c = true := by simp [tst, q0, p0, q1]
        rw [this] at hfin
        exact l_245 hd hM hxa hlen true (hfin _ _ _ _)
      · have : tst f c = false := by simp [tst, q0, p0]; omega
        rw [this] at hfin
        exact l_245 hd hM hxa hlen false (hfin _ _ _ _)
end

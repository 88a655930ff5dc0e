/-! THE CLASS'S WORLD IS A ROW -/
def WA (I : mu_M) (w : Int) (S : Row) : Prop := I w 1 = S 43 ∧ I w 2 = S 44 ∧ I w 5 = S 37 ∧ I w 6 = S 0 ∧ ∀ c, 0 ≤ c → c < 64 → I (w + 8) c = S (103 + c)
def LT (S : Row) (cls : List Cla) : Prop := textS S = txtC cls ∧ tellS S 267 = comC 0 cls
def CW (G : mu_G) (I : mu_M) (w : Int) (S : Row) : Prop := WA I w S ∧ (∃ cls, LT S cls ∧ LA I (w + 1) cls) ∧ (∀ i, 0 ≤ i → i < 4 → I (w + 11 + 5 * i) 0 = i) ∧ ∀ i, 0 ≤ i → i < S 37 → PE G I (w + 11 + 5 * i) S i
theorem LI.keep {I I1 : mu_M} {l : Int} (h : ∀ b, l < b → b < l + 6 → I1 b = I b) : ∀ {r : List Cla} {i : Int}, LI I l i r → LI I1 l i r
  | [], _, _ => trivial
  | c :: r, i, hl => by
    refine ⟨?_, LI.keep h hl.2⟩
    rw [h (l + 1) (by omega) (by omega), h (l + 2) (by omega) (by omega), h (l + 3) (by omega) (by omega), h (l + 4) (by omega) (by omega), h (l + 5) (by omega) (by omega)]
    exact hl.1
theorem LA.keep {I I1 : mu_M} {l : Int} {cls : List Cla} (hl : LA I l cls) (h0 : I1 l 0 = I l 0) (h : ∀ b, l < b → b < l + 6 → I1 b = I b) : LA I1 l cls := ⟨by rw [h0]; exact hl.1, hl.2.1, hl.2.2.1, LI.keep h hl.2.2.2⟩
theorem LT.same {S T : Row} {cls : List Cla} (h : LT S cls) (hT : ∀ j, 37 ≤ j → T j = S j) (hL : LW S) : LT T cls := by
  obtain ⟨h1, h2⟩ := h
  have e42 := hT 42 (by omega)
  have hb := hL.1
  have em : manyS T = manyS S := by
    unfold manyS
    rw [e42]
    split
    · rfl
    · rw [hT _ (by omega)]
  refine ⟨?_, ?_⟩
  · rw [← h1]
    unfold textS
    rw [e42, em]
    exact codes_same _ _ (fun j hj => hT j (by omega))
  · rw [← h2]
    unfold tellS
    rw [e42]
    split
    · rfl
    · rw [hT _ (by omega)]
/-- cells outside of what a world's row speaks of may change -/
theorem CW.keep {G G1 : mu_G} {I I1 : mu_M} {w : Int} {S : Row} (h : CW G I w S) (hI : Inv S) (hk : ∀ b j, w ≤ b → b < w + 31 → b ≠ w + 10 → (j < 10 ∨ b < w + 11) → I1 b j = I b j) (hK : ∀ b, 127 ≤ b → I1 b = I b) (hs : ∀ b, sh G1 b = sh G b) (hr : ∀ i, 0 ≤ i → i < 4 → rf G1 (w + 11 + 5 * i) 1 = rf G (w + 11 + 5 * i) 1) : CW G1 I1 w S := by
  obtain ⟨⟨a1, a2, a3, a4, a5⟩, ⟨cls, hl, hA⟩, hn, hp⟩ := h
  have h4 := hI.2.1
  refine ⟨⟨by rw [hk _ _ (by omega) (by omega) (by omega) (by omega)]; exact a1, by rw [hk _ _ (by omega) (by omega) (by omega) (by omega)]; exact a2, by rw [hk _ _ (by omega) (by omega) (by omega) (by omega)]; exact a3, by rw [hk _ _ (by omega) (by omega) (by omega) (by omega)]; exact a4, ?_⟩, ⟨cls, hl, ?_⟩, ?_, ?_⟩
  · intro c c0 c1
    rw [hk _ _ (by omega) (by omega) (by omega) (by omega)]
    exact a5 c c0 c1
  · refine hA.keep (hk _ _ (by omega) (by omega) (by omega) (by omega)) (fun b b0 b1 => ?_)
    funext j
    exact hk _ _ (by omega) (by omega) (by omega) (by omega)
  · intro i i0 i1
    rw [hk _ _ (by omega) (by omega) (by omega) (by omega)]
    exact hn i i0 i1
  · intro i i0 i1
    refine (hp i i0 i1).keep ((hI.2.2.2.2.1 i i0 i1).2.2.1.2) ?_ ?_ ?_ ?_ hK hs (hr i i0 (by omega)) (SameAt.rf S i)
    · intro j hj
      exact hk _ _ (by omega) (by omega) (by omega) (by omega)
    · intro k k0 k1
      exact hk _ _ (by omega) (by omega) (by omega) (by omega)
    · intro k k0 k1
      exact hk _ _ (by omega) (by omega) (by omega) (by omega)
    · intro k k0 k1
      exact hk _ _ (by omega) (by omega) (by omega) (by omega)
/-- one of the people changes -/
theorem CW.one {G : mu_G} {I I1 : mu_M} {w i : Int} {S T : Row} (h : CW G I w S) (hI : Inv S) (hL : LW S) (hw : 0 ≤ w ∧ w + 31 ≤ 115) (hi : 0 ≤ i ∧ i < S 37) (hf : FP1 (w + 11 + 5 * i) I I1) (hP : PE G I1 (w + 11 + 5 * i) T i) (h0 : T 0 = S 0) (h37 : ∀ j, 37 ≤ j → T j = S j) (hq : ∀ q, 0 ≤ q → q < 4 → q ≠ i → T (1 + q) = S (1 + q) ∧ T (5 + q) = S (5 + q) ∧ T (9 + q) = S (9 + q) ∧ ∀ k, 0 ≤ k → k < 3 → T (13 + 3 * q + k) = S (13 + 3 * q + k) ∧ T (25 + 3 * q + k) = S (25 + 3 * q + k)) : CW G I1 w T := by
  obtain ⟨⟨a1, a2, a3, a4, a5⟩, ⟨cls, hl, hA⟩, hn, hp⟩ := h
  have h4 := hI.2.1
  have ho := hf.1
  refine ⟨⟨by rw [ho _ (by omega), h37 _ (by omega)]; exact a1, by rw [ho _ (by omega), h37 _ (by omega)]; exact a2, by rw [ho _ (by omega), h37 _ (by omega)]; exact a3, by rw [ho _ (by omega), h0]; exact a4, ?_⟩, ⟨cls, hl.same h37 hL, ?_⟩, ?_, ?_⟩
  · intro c c0 c1
    rw [ho _ (by omega), h37 _ (by omega)]
    exact a5 c c0 c1
  · exact hA.keep (by rw [ho _ (by omega)]) (fun b b0 b1 => ho _ (by omega))
  · intro j j0 j1
    by_cases hji : j = i
    · rw [hji]; exact hP.1.1
    · rw [ho _ (by omega)]
      exact hn j j0 j1
  · intro j j0 j1
    rw [h37 37 (by omega)] at j1
    by_cases hji : j = i
    · rw [hji]; exact hP
    · obtain ⟨q1, q5, q9, qk⟩ := hq j j0 (by omega) hji
      refine (hp j j0 j1).keep ((hI.2.2.2.2.1 j j0 j1).2.2.1.2) ?_ ?_ ?_ ?_ (fun b hb => ho b (by omega)) (fun _ => rfl) rfl ⟨q1, q5, q9, h37 _ (by omega), h37 _ (by omega), h37 _ (by omega), fun k k0 k1 => h37 _ (by omega), qk⟩
      · intro m _; rw [ho _ (by omega)]
      · intro m _ _; rw [ho _ (by omega)]
      · intro m _ _; rw [ho _ (by omega)]
      · intro m _ _; rw [ho _ (by omega)]
theorem CW.cls {G : mu_G} {I : mu_M} {w : Int} {S : Row} (h : CW G I w S) (p : Int) : ∃ cls, LA I (w + 1) cls ∧ lookS S p = (reC (byF S p) cls, eaC (byF S p) 0 cls) ∧ tellS S 267 = comC 0 cls := by
  obtain ⟨_, ⟨cls, hl, hA⟩, _⟩ := h
  refine ⟨cls, hA, ?_, hl.2⟩
  unfold lookS
  rw [hl.1, runL_txt _ _ _ hA.2.2.1, Bool.false_or]
theorem GW.p {G : mu_G} {w : Int} (h : GW G w) {i : Int} (hi : 0 ≤ i ∧ i < 4) : rf G (w + 9) i = w + 11 + 5 * i ∧ GP G (w + 11 + 5 * i) := h.2.2.2.2.2.2.2.2.2 i hi.1 hi.2
section
variable {d : Nat} {G : mu_G} {I : mu_M} {Q : Int → mu_G → mu_M → Prop} {w : Int} {S : Row}
theorem k_cells (hd : d < 990) (hG : GW G w) (hC : CW G I w S) (hI : Inv S) (h : Q (S 43 * S 44) G I) : mu_WP mu_code d 70 0 [(1, w)] [] G I Q := by
  have hwh := hI.wh
  refine vc_70_0 (by omega) _ ⟨hG.1, ?_⟩
  rw [hC.1.1, hC.1.2.1, wr_id (by omega) (by omega)]
  exact h
theorem k_isCell (hd : d < 990) (hG : GW G w) (hC : CW G I w S) (hI : Inv S) (c : Int) (h : Q (if 0 ≤ c ∧ c < S 43 * S 44 then 1 else 0) G I) : mu_WP mu_code d 72 0 [(1, w), (0, c)] [] G I Q := by
  have hwh := hI.wh
  refine vc_72_0 (by omega) _ _ ?_
  rw [hC.1.1, hC.1.2.1, wr_id (by omega) (by omega)]
  refine ⟨fun h1 => ?_, fun h1 => ⟨hG.1, fun h2 => ⟨fun _ => ?_, fun h3 => absurd (by omega) h3⟩, fun h2 => ?_⟩⟩
  · rw [if_neg (by omega)] at h; exact h
  · rw [if_pos (by omega)] at h; exact h
  · rw [if_neg (by omega)] at h; exact h
theorem k_hasWall (hd : d < 980) (hG : GW G w) (hC : CW G I w S) (hI : Inv S) (c : Int) (h : Q (if (0 ≤ c ∧ c < S 43 * S 44) ∧ S (103 + c) = 1 then 1 else 0) G I) : mu_WP mu_code d 74 0 [(1, w), (0, c)] [] G I Q := by
  have hwh := hI.wh
  refine vc_74_0 (by omega) _ _ ⟨hG.1, k_isCell (by omega) hG hC hI c ⟨fun h1 => ?_, fun h1 => ⟨hG.1, ?_⟩⟩⟩
  · rw [if_neg (fun hc => ifn h1 hc.1)] at h; exact h
  · have hc := ifp h1
    have h01 := hI.2.2.2.2.2 c hc.1 (by omega)
    rw [hG.2.2.1, hG.2.2.2.2.2.2.1, hC.1.2.2.2.2 c hc.1 (by omega)]
    refine ⟨⟨rfl, hc.1, by dsimp only; omega⟩, fun h2 => ?_, fun h2 => ?_⟩
    · rw [if_neg (by omega)] at h; exact h
    · rw [if_pos (by omega)] at h; exact h
theorem k_isTaken (hd : d < 980) (hG : GW G w) (hC : CW G I w S) (hI : Inv S) (c : Int) (h : Q (bi (pb (taken S c))) G I) : mu_WP mu_code d 73 0 [(1, w), (0, c), (3, 0)] [] G I Q := by
  have h4 := hI.2.1
  refine vc_73_0 (by omega) _ _ ?_
  suffices H : ∀ (n : Nat) (p : Int), p + n = 4 → 0 ≤ p → (∀ q, 0 ≤ q → q < p → q < S 37 → ¬ (S (53 + q) = c ∨ S (1 + q) = c)) → mu_WP mu_code d 73 2 [(1, w), (0, c), (0, p)] [] G I Q from H 4 0 (by omega) (by omega) (fun q q0 q1 => by omega)
  have no : ∀ p : Int, ¬ p < S 37 → (∀ q, 0 ≤ q → q < p → q < S 37 → ¬ (S (53 + q) = c ∨ S (1 + q) = c)) → Q 0 G I := by
    intro p hp hs
    rw [pb_f (fun ⟨q, q0, q1, q2⟩ => hs q q0 (by omega) q1 q2)] at h
    exact h
  intro n
  induction n with
  | zero =>
    intro p hp h0 hs
    refine vc_73_2 (by omega) _ _ _ ⟨hG.1, fun h1 => absurd h1 (by rw [hC.1.2.2.1]; omega), fun _ => no p (by omega) hs⟩
  | succ n ih =>
    intro p hp h0 hs
    refine vc_73_2 (by omega) _ _ _ ?_
    rw [hC.1.2.2.1, hG.2.2.2.1, hG.2.2.2.2.2.2.2.1]
    refine ⟨hG.1, fun h1 => ⟨fun _ => ⟨⟨rfl, h0, by dsimp only; omega⟩, ?_⟩, fun h2 => absurd (by omega) h2⟩, fun h1 => no p h1 hs⟩
    obtain ⟨g1, g2⟩ := hG.p (i := p) (by omega)
    have hP := hC.2.2.2 p h0 h1
    rw [g1, hP.1.2.2.1, hP.1.2.2.2.1, wr_id (x := p + 1) (by omega) (by omega)]
    have yes : (S (53 + p) = c ∨ S (1 + p) = c) → Q 1 G I := by
      intro hy
      rw [pb_t ⟨p, h0, h1, hy⟩] at h
      exact h
    refine ⟨g2.1, fun h2 => yes (Or.inl h2), fun h2 => ⟨fun h3 => yes (Or.inr h3), fun h3 => ?_⟩⟩
    refine ih (p + 1) (by omega) (by omega) ?_
    intro q q0 q1 q2
    by_cases hqp : q = p
    · rw [hqp]
      intro hc
      rcases hc with hc | hc
      · exact h2 hc
      · exact h3 hc
    · exact hs q q0 (by omega) q2
theorem k_isPerson (hd : d < 990) (hG : GW G w) (hC : CW G I w S) (hI : Inv S) (p : Int) (h : Q (if 0 ≤ p ∧ p < S 37 then 1 else 0) G I) : mu_WP mu_code d 78 0 [(1, w), (0, p)] [] G I Q := by
  have h4 := hI.2.1
  refine vc_78_0 (by omega) _ _ ?_
  rw [hC.1.2.2.1]
  refine ⟨fun h1 => ?_, fun h1 => ⟨hG.1, fun h2 => ⟨fun _ => ?_, fun h3 => absurd (by omega) h3⟩, fun h2 => ?_⟩⟩
  · rw [if_neg (by omega)] at h; exact h
  · rw [if_pos (by omega)] at h; exact h
  · rw [if_neg (by omega)] at h; exact h
theorem k_personAt (hd : d < 980) (hG : GW G w) (hC : CW G I w S) (hI : Inv S) (p : Int) (h : Q (if 0 ≤ p ∧ p < S 37 then w + 11 + 5 * p else -1) G I) : mu_WP mu_code d 77 0 [(1, w), (0, p)] [] G I Q := by
  have h4 := hI.2.1
  refine vc_77_0 (by omega) _ _ ⟨hG.1, k_isPerson (by omega) hG hC hI p ⟨fun h1 => ?_, fun h1 => ⟨hG.1, ?_⟩⟩⟩
  · rw [if_neg (ifn h1)] at h; exact h
  · have hp := ifp h1
    rw [if_pos hp] at h
    rw [hG.2.2.2.1, hG.2.2.2.2.2.2.2.1, (hG.p (i := p) (by omega)).1]
    exact ⟨⟨rfl, hp.1, by dsimp only; omega⟩, h⟩
theorem k_xOf (hd : d < 990) (hG : GW G w) (hC : CW G I w S) (hI : Inv S) (c : Int) (h : Q (Int.tmod c (S 43)) G I) : mu_WP mu_code d 83 0 [(1, w), (0, c)] [] G I Q := by
  have h2 := hI.2.2.1
  refine vc_83_0 (by omega) _ _ ?_
  rw [hC.1.1]
  exact ⟨hG.1, fun _ => ⟨by omega, h⟩, fun h1 => absurd (by omega) h1⟩
theorem k_yOf (hd : d < 990) (hG : GW G w) (hC : CW G I w S) (hI : Inv S) (c : Int) (hc : 0 ≤ c ∧ c < 64) (h : Q (Int.tdiv c (S 43)) G I) : mu_WP mu_code d 84 0 [(1, w), (0, c)] [] G I Q := by
  have h2 := hI.2.2.1
  have ht := td_le hc h2
  refine vc_84_0 (by omega) _ _ ?_
  rw [hC.1.1, wr_id (by omega) (by omega)]
  exact ⟨hG.1, fun _ => ⟨by omega, h⟩, fun h1 => absurd (by omega) h1⟩
/-- all but the facts -/
def FF1 (w : Int) (I I1 : mu_M) : Prop := ∀ b, b ≠ w + 10 → I1 b = I b
theorem FF1.cw {I I1 : mu_M} (h : FF1 w I I1) (hC : CW G I w S) (hI : Inv S) (hw : 0 ≤ w ∧ w + 31 ≤ 115) : CW G I1 w S := hC.keep hI (fun b j h1 h2 h3 h4 => by rw [h b h3]) (fun b hb => h b (by omega)) (fun _ => rfl) (fun _ _ _ => rfl)
theorem k_factsOf (hd : d < 980) (hG : GW G w) (hC : CW G I w S) (hI : Inv S) (hw : 0 ≤ w ∧ w + 31 ≤ 115) (i : Int) (hi : 0 ≤ i ∧ i < S 37) (h : ∀ I1, FF1 w I I1 → (∀ j, 0 ≤ j → j < 6 → I1 (w + 10) j = byF S i j) → Q (w + 10) G I1) : mu_WP mu_code d 82 0 [(1, w), (1, w + 11 + 5 * i)] [] G I Q := by
  have h4 := hI.2.1
  have hwh := hI.wh
  have hP := hC.2.2.2 i hi.1 hi.2
  obtain ⟨j1, j2, j3, j4, j5, j6, j7, j8⟩ := hI.2.2.2.2.1 i hi.1 hi.2
  obtain ⟨g1, g2⟩ := hG.p (i := i) (by omega)
  obtain ⟨⟨p0, p2, p3, p4, p5, p6⟩, p7, p8, pk1, pk2, pk3⟩ := hP
  have gsh : sh G (w + 10) = (100, 6) := hG.2.2.2.2.2.2.2.2.1
  have gr : rf G w 7 = w + 10 := hG.2.2.2.2.1
  have kk : mu_wk (sh G (rf G (w + 11 + 5 * i) 1)) := by
    rw [pk2]
    unfold mu_wk kcl
    repeat' split
    all_goals simp
  refine vc_82_0 (by omega) _ _ ?_
  simp only [gr, gsh]
  refine ⟨hG.1, g2.1, ⟨by omega, trivial, by omega, by omega⟩, ?_⟩
  intro Ia qa
  refine ⟨kk, ⟨by omega, trivial, by omega, by omega⟩, ?_⟩
  intro Ib qb
  have fb : FF1 w I Ib := fun b hb => by rw [qb, set_off _ hb, qa, set_off _ hb]
  rw [fb _ (by omega), p4]
  refine k_xOf (by omega) hG (fb.cw hC hI hw) hI _ ?_
  simp only [gr, gsh]
  refine ⟨⟨by omega, trivial, by omega, by omega⟩, ?_⟩
  intro Ic qc
  have fc : FF1 w I Ic := fun b hb => by rw [qc, set_off _ hb, fb b hb]
  rw [fc _ (by omega), p4]
  refine ⟨hG.1, g2.1, k_yOf (by omega) hG (fc.cw hC hI hw) hI _ (by omega) ?_⟩
  simp only [gr, gsh]
  refine ⟨⟨by omega, trivial, by omega, by omega⟩, ?_⟩
  intro Id qd
  have fd : FF1 w I Id := fun b hb => by rw [qd, set_off _ hb, fc b hb]
  rw [fd w (by omega), hC.1.2.2.2.1]
  refine ⟨hG.1, ⟨by omega, trivial, by omega, by omega⟩, ?_⟩
  intro Ie qe
  have fe : FF1 w I Ie := fun b hb => by rw [qe, set_off _ hb, fd b hb]
  rw [fe (w + 11 + 5 * i) (by omega), p6]
  refine ⟨g2.1, ⟨by omega, trivial, by omega, by omega⟩, ?_⟩
  intro If qf
  have ff : FF1 w I If := fun b hb => by rw [qf, set_off _ hb, fe b hb]
  have va : I (w + 11 + 5 * i) 0 = i := p0
  have vb : Ia (rf G (w + 11 + 5 * i) 1) 0 = S (45 + i) := by rw [qa, set_off _ (by omega)]; exact pk3
  refine h If ff ?_
  intro j j0 j6
  rw [qf, set_row, qe, set_row, qd, set_row, qc, set_row, qb, set_row, qa, set_row, ← qa, vb, va]
  have hj : j = 0 ∨ j = 1 ∨ j = 2 ∨ j = 3 ∨ j = 4 ∨ j = 5 := by omega
  rcases hj with rfl | rfl | rfl | rfl | rfl | rfl <;> simp [upR, byF]
theorem k_earnsOf (hd : d < 960) (hG : GW G w) (hC : CW G I w S) (hI : Inv S) (hw : 0 ≤ w ∧ w + 31 ≤ 115) (i : Int) (hi : 0 ≤ i ∧ i < S 37) (h : ∀ I1, FF1 w I I1 → Q (earnS S i) G I1) : mu_WP mu_code d 85 0 [(1, w), (1, w + 11 + 5 * i)] [] G I Q := by
  refine vc_85_0 (by omega) _ _ ⟨hG.1, k_factsOf (by omega) hG hC hI hw i hi ?_⟩
  intro I1 f1 v1
  obtain ⟨cls, hA, hlk, _⟩ := (f1.cw hC hI hw).cls i
  have gl : GL G (w + 1) := hG.2.2.2.2.2.1
  rw [hG.2.1]
  refine ⟨gl.1, k_earns (by omega) gl hG.2.2.2.2.2.2.2.2.1 v1 hA ?_⟩
  have e : earnS S i = eaC (byF S i) 0 cls := by unfold earnS; rw [hlk]
  rw [← e]
  exact h I1 f1
end

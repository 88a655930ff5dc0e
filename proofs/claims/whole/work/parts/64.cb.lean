/-! THE CLASS LOOKS AT ITS LAW -/
/-- a code of the reference as the class has it -/
def cv (c : Int) : Int := if c < 0 then c else (c % 8 * 3 + c / 8 % 4) * 100 + c / 32
def evalS (f : Row) : List Int → List Bool → List Bool
  | [], st => st
  | c :: cs, st => if 0 ≤ c then evalS f cs (tst f c :: st) else if c = -1 then (match st with
      | b :: st => evalS f cs ((!b) :: st)
      | [] => []) else (match st with
      | b :: a :: st => evalS f cs ((if c = -2 then a && b else a || b) :: st)
      | _ => [])
theorem eval_len {f : Row} : ∀ (cs : List Int) (st : List Bool) (m : Nat), okE cs st.length m → (evalS f cs st).length = m
  | [], st, m, h => h
  | c :: cs, st, m, h => by
    rw [evalS.eq_def]
    dsimp only
    by_cases h0 : 0 ≤ c
    · rw [if_pos h0]
      exact eval_len cs _ m (by simpa using (h.2.1 h0).2.2)
    · rw [if_neg h0]
      by_cases h1 : c = -1
      · rw [if_pos h1]
        obtain ⟨on, ok⟩ := h.2.2.1 h1
        cases st with
        | nil => exact absurd on (by simp)
        | cons b st => exact eval_len cs _ m (by simpa using ok)
      · rw [if_neg h1]
        obtain ⟨on, ok⟩ := h.2.2.2 (by omega)
        match st, on, ok with
        | b :: a :: st, on, ok => exact eval_len cs _ m (by simpa using ok)
theorem runL_eval {f : Row} : ∀ (cs : List Int) (st : List Bool) (m : Nat) (rest : List Int) (r : Bool) (e : Int), okE cs st.length m → runL f (cs ++ rest) st r e = runL f rest (evalS f cs st) r e
  | [], st, m, rest, r, e, h => rfl
  | c :: cs, st, m, rest, r, e, h => by
    rw [List.cons_append, evalS.eq_def f (c :: cs) st]
    dsimp only
    by_cases h0 : 0 ≤ c
    · rw [if_pos h0, runL.eq_def]
      dsimp only
      rw [if_pos h0]
      exact runL_eval cs _ m rest r e (by simpa using (h.2.1 h0).2.2)
    · rw [if_neg h0]
      by_cases h1 : c = -1
      · rw [if_pos h1]
        obtain ⟨on, ok⟩ := h.2.2.1 h1
        cases st with
        | nil => exact absurd on (by simp)
        | cons b st =>
          rw [runL, if_neg h0, if_pos h1]
          exact runL_eval cs _ m rest r e (by simpa using ok)
      · rw [if_neg h1]
        obtain ⟨on, ok⟩ := h.2.2.2 (by omega)
        have hr := h.1
        match st, on, ok with
        | b :: a :: st, on, ok =>
          rw [runL, if_neg h0, if_neg h1, if_pos (by omega)]
          exact runL_eval cs _ m rest r e (by simpa using ok)
/-- what an E says -/
def evB (f : Row) (cs : List Int) : Bool := (evalS f cs []).headD false
theorem evB_is {f : Row} {cs : List Int} (h : okE cs 0 1) : evalS f cs [] = [evB f cs] := by
  have := eval_len (f := f) cs [] 1 h
  unfold evB
  match hh : evalS f cs [], this with
  | [b], _ => rfl
def okL (c : Cla) : Prop := (c.1 = 0 ∨ c.1 = 1 ∨ c.1 = 2) ∧ (0 ≤ c.2.1 ∧ c.2.1 ≤ 99) ∧ (c.1 ≠ 2 → okE c.2.2 0 1)
def eaC (f : Row) : Int → List Cla → Int
  | x, [] => x
  | x, c :: r => eaC f (if c.1 = 0 ∧ evB f c.2.2 = true then x + c.2.1 else x) r
def reC (f : Row) : List Cla → Bool
  | [] => false
  | c :: r => (decide (c.1 = 1) && evB f c.2.2) || reC f r
theorem runL_txt {f : Row} : ∀ (cls : List Cla) (r : Bool) (e : Int), (∀ c ∈ cls, okL c) → runL f (txtC cls) [] r e = (r || reC f cls, eaC f e cls)
  | [], r, e, _ => by simp [txtC, runL, reC, eaC]
  | c :: cls, r, e, h => by
    obtain ⟨h1, h2, h3⟩ := h c (by simp)
    have ih := fun r e => runL_txt (f := f) cls r e (fun c hc => h c (by simp [hc]))
    rw [txtC, reC, eaC]
    unfold txt1
    rcases h1 with h1 | h1 | h1
    · rw [if_pos h1, List.append_assoc, runL_eval _ _ 1 _ _ _ (h3 (by omega)), evB_is (h3 (by omega)), List.singleton_append, runL, if_neg (by omega), if_neg (by omega), if_neg (by omega)]
      have e1 : decide (-200 - c.2.1 = -10) = false := decide_eq_false (by omega)
      have e2 : decide (c.1 = 1) = false := decide_eq_false (by omega)
      rw [ih, e1, e2]
      by_cases hb : evB f c.2.2 = true
      · rw [if_pos ⟨hb, by omega⟩, if_pos ⟨h1, hb⟩]
        simp only [Bool.and_false, Bool.or_false, Bool.false_and, Bool.false_or]
        rw [show e + (-200 - (-200 - c.2.1)) = e + c.2.1 by omega]
      · rw [if_neg (fun hc => hb hc.1), if_neg (fun hc => hb hc.2)]
        simp only [Bool.and_false, Bool.or_false, Bool.false_and, Bool.false_or]
    · rw [if_neg (by omega), if_pos h1, List.append_assoc, runL_eval _ _ 1 _ _ _ (h3 (by omega)), evB_is (h3 (by omega)), List.singleton_append, runL, if_neg (by omega), if_neg (by omega), if_neg (by omega), ih]
      rw [if_neg (fun hc => absurd hc.2 (by decide)), if_neg (fun hc => by omega)]
      have e1 : decide ((-10 : Int) = -10) = true := rfl
      have e2 : decide (c.1 = 1) = true := decide_eq_true h1
      rw [e1, e2, Bool.and_true, Bool.true_and, Bool.or_assoc]
    · rw [if_neg (by omega), if_neg (by omega), List.nil_append, ih, if_neg (fun hc => by omega)]
      have e2 : decide (c.1 = 1) = false := decide_eq_false (by omega)
      rw [e2, Bool.false_and, Bool.false_or]
/-- the cells of a law at l, from clause i on -/
def LI (I : mu_M) (l : Int) : Int → List Cla → Prop
  | _, [] => True
  | i, c :: r => (I (l + 1) i = c.1 ∧ I (l + 2) i = c.2.1 ∧ 0 ≤ I (l + 3) i ∧ I (l + 4) i = I (l + 3) i + c.2.2.length ∧ I (l + 4) i ≤ 100 ∧ lst (I (l + 5)) (I (l + 3) i) (c.2.2.map cv)) ∧ LI I l (i + 1) r
def LA (I : mu_M) (l : Int) (cls : List Cla) : Prop := I l 0 = cls.length ∧ cls.length ≤ 10 ∧ (∀ c ∈ cls, okL c) ∧ LI I l 0 cls
theorem tst_le {f : Row} {c : Int} (h0 : 0 ≤ c) : tst f c = if c / 8 % 4 = 0 then decide (f (c % 8) < c / 32) else if c / 8 % 4 = 1 then decide (f (c % 8) = c / 32) else decide (c / 32 < f (c % 8)) := by
  unfold tst
  rw [Int.tdiv_eq_ediv_of_nonneg h0, Int.tdiv_eq_ediv_of_nonneg h0, Int.tmod_eq_emod_of_nonneg h0, Int.tmod_eq_emod_of_nonneg (show 0 ≤ c / 8 by omega)]
section
variable {d : Nat} {G : mu_G} {I : mu_M} {Q : Int → mu_G → mu_M → Prop}
theorem k_passes (hd : d < 990) {F : Int} (hF : sh G F = (100, 6)) {f : Row} (hf : ∀ j, 0 ≤ j → j < 6 → I F j = f j) (c : Int) (h0 : 0 ≤ c ∧ c < 3200) (h1 : Int.tmod c 8 < 6 ∧ c / 8 % 4 < 3) (h : Q (bi (tst f c)) G I) : mu_WP mu_code d 20 0 [(0, cv c), (1, F), (3, 0), (3, 0), (3, 0)] [] G I Q := by
  rw [Int.tmod_eq_emod_of_nonneg h0.1] at h1
  have hx : 0 ≤ cv c := by unfold cv; rw [if_neg (by omega)]; omega
  have e1 : Int.tdiv (cv c) 300 = c % 8 := by
    rw [Int.tdiv_eq_ediv_of_nonneg hx]
    unfold cv; rw [if_neg (by omega)]; omega
  have e2 : Int.tdiv (cv c) 100 = c % 8 * 3 + c / 8 % 4 := by
    rw [Int.tdiv_eq_ediv_of_nonneg hx]
    unfold cv; rw [if_neg (by omega)]; omega
  have e3 : Int.tmod (cv c) 100 = c / 32 := by
    rw [Int.tmod_eq_emod_of_nonneg hx]
    unfold cv; rw [if_neg (by omega)]; omega
  have e4 : Int.tmod (c % 8 * 3 + c / 8 % 4) 3 = c / 8 % 4 := by
    rw [Int.tmod_eq_emod_of_nonneg (by omega)]; omega
  have e5 : I F (c % 8) = f (c % 8) := hf _ (by omega) (by omega)
  rw [tst_le h0.1] at h
  refine vc_20_0 (by omega) _ _ ?_
  rw [e1, e2, wr_id (x := c % 8) (by omega) (by omega), wr_id (x := c % 8 * 3 + c / 8 % 4) (by omega) (by omega), e3, e4, e5, hF]
  refine ⟨fun hc => absurd hc (by omega), fun _ => ⟨rfl, fun _ => ⟨⟨rfl, by omega, by dsimp only; omega⟩, fun q0 => ?_, fun q0 => ⟨fun q1 => ?_, fun q1 => ?_⟩⟩, fun hc => absurd (show c % 8 < 6 by omega) hc⟩⟩
  · rw [if_pos q0] at h
    refine ⟨fun q2 => ?_, fun q2 => ?_⟩
    · rw [decide_eq_true q2] at h; exact h
    · rw [decide_eq_false q2] at h; exact h
  · rw [if_neg q0, if_pos q1] at h
    refine ⟨fun q2 => ?_, fun q2 => ?_⟩
    · rw [decide_eq_true q2] at h; exact h
    · rw [decide_eq_false q2] at h; exact h
  · rw [if_neg q0, if_neg q1] at h
    refine ⟨fun q2 => ?_, fun q2 => ?_⟩
    · rw [decide_eq_true q2] at h; exact h
    · rw [decide_eq_false q2] at h; exact h
theorem k_holds (hd : d < 980) {l : Int} (hG : GL G l) {F : Int} (hF : sh G F = (100, 6)) {f : Row} (hf : ∀ j, 0 ≤ j → j < 6 → I F j = f j) (i : Int) (hi : 0 ≤ i ∧ i < 10) (cs : List Int) (hst : 0 ≤ I (l + 3) i) (hen : I (l + 4) i = I (l + 3) i + cs.length) (h100 : I (l + 4) i ≤ 100) (hl : lst (I (l + 5)) (I (l + 3) i) (cs.map cv)) (hok : okE cs 0 1) (h : Q (bi (evB f cs)) G I) : mu_WP mu_code d 19 0 [(1, l), (0, i), (1, F), (3, 0), (3, 0), (3, 0), (3, 0)] [] G I Q := by
  obtain ⟨g1, g2, g3, g4, g5, g6, g7, g8, g9, g10, g11, g12, g13⟩ := hG
  refine vc_19_0 (by omega) _ _ _ ⟨g1, by rw [g4, g10]; exact ⟨rfl, hi.1, hi.2⟩, ?_⟩
  rw [g4, if_neg (by omega)]
  have key : ∀ st : List Bool, st.length = 1 → mu_and (bst st : Int) 1 = bi (st.headD false) := by
    intro st hs
    match st, hs with
    | [b], _ => exact b_top (by simp)
  suffices H : ∀ (cs : List Int) (x4 : Int) (st : List Bool) (v5 v6 : mu_V), I (l + 4) i = x4 + cs.length → 0 ≤ x4 → lst (I (l + 5)) x4 (cs.map cv) → okE cs st.length 1 → st.length ≤ 30 → Q (bi ((evalS f cs st).headD false)) G I → mu_WP mu_code d 19 14 [(1, l), (0, i), (1, F), (0, (bst st : Int)), (0, x4), v5, v6] [] G I Q from
    H cs _ [] _ _ hen hst hl hok (by simp) h
  clear h hok hl hst hen
  intro cs
  induction cs with
  | nil =>
    intro x4 st v5 v6 he h0 hl hok hs hq
    have hok : st.length = 1 := hok
    have hq : Q (bi (st.headD false)) G I := hq
    have e1 := key st hok
    refine vc_19_14 (by omega) _ _ _ _ _ _ _ ?_
    rw [g5, g11, e1]
    have fin : (bi (st.headD false) = 1 → Q 1 G I) ∧ (¬ bi (st.headD false) = 1 → Q 0 G I) := by
      cases hb : st.headD false
      · rw [hb] at hq; exact ⟨fun hc => absurd hc (by decide), fun _ => hq⟩
      · rw [hb] at hq; exact ⟨fun _ => hq, fun hc => absurd rfl hc⟩
    exact ⟨g1, ⟨rfl, hi.1, hi.2⟩, fun hc => absurd hc (by simp at he; omega), fun _ => fin⟩
  | cons c cs ih =>
    intro x4 st v5 v6 he h0 hl hok hs hq
    have hlen : ((c :: cs).length : Int) = cs.length + 1 := by simp
    rw [hlen] at he
    obtain ⟨hr, ok1, ok2, ok3⟩ := hok
    have hv : I (l + 5) x4 = cv c := hl.1
    have hl2 : lst (I (l + 5)) (x4 + 1) (cs.map cv) := hl.2
    have e4 : wr (x4 + 1) = x4 + 1 := wr_id (by omega) (by omega)
    rw [evalS.eq_def] at hq
    dsimp only at hq
    refine vc_19_14 (by omega) _ _ _ _ _ _ _ ?_
    rw [g5, g11, g6, g12, hv, e4]
    refine ⟨g1, ⟨rfl, hi.1, hi.2⟩, fun _ => ⟨fun _ => ⟨⟨rfl, h0, by dsimp only; omega⟩, fun q1 => ?_, fun q1 => ⟨fun q2 => ?_, fun q2 => ⟨fun q3 => ?_, fun q3 => ?_⟩⟩⟩, fun hc => absurd (show x4 < 100 by omega) hc⟩, fun hc => absurd (show x4 < _ by omega) hc⟩
    · have hc : c = -1 := by unfold cv at q1; split at q1 <;> omega
      obtain ⟨on, ok⟩ := ok2 hc
      rw [if_neg (by omega), if_pos hc] at hq
      cases st with
      | nil => exact absurd on (by simp)
      | cons b st =>
        rw [b_not hs]
        exact ih (x4 + 1) ((!b) :: st) _ _ (by omega) (by omega) hl2 (by simpa using ok) (by simpa using hs) hq
    · have hc : c = -2 := by unfold cv at q2; split at q2 <;> omega
      obtain ⟨on, ok⟩ := ok3 (by omega)
      rw [if_neg (by omega), if_neg (by omega)] at hq
      match st, hs, on, ok, hq with
      | b :: a :: st, hs, on, ok, hq =>
        dsimp only at hq
        rw [if_pos hc] at hq
        rw [b_and hs]
        exact ih (x4 + 1) ((a && b) :: st) _ _ (by omega) (by omega) hl2 (by simpa using ok) (by simp at hs ⊢; omega) hq
    · have hc : c = -3 := by unfold cv at q3; split at q3 <;> omega
      obtain ⟨on, ok⟩ := ok3 (by omega)
      rw [if_neg (by omega), if_neg (by omega)] at hq
      match st, hs, on, ok, hq with
      | b :: a :: st, hs, on, ok, hq =>
        dsimp only at hq
        rw [if_neg (by omega)] at hq
        rw [b_or hs]
        exact ih (x4 + 1) ((a || b) :: st) _ _ (by omega) (by omega) hl2 (by simpa using ok) (by simp at hs ⊢; omega) hq
    · have hc : 0 ≤ c := by
        unfold cv at q1 q2 q3
        split at q1 <;> omega
      obtain ⟨o1, o2, o3⟩ := ok1 hc
      rw [if_pos hc] at hq
      refine k_passes (by omega) hF hf c ⟨hc, hr.2⟩ o1 ?_
      have hp := b_push (b := tst f c) o2
      refine ⟨fun hb => ?_, fun hb => ?_⟩
      · have hb := (bi_not _).1 hb
        rw [hb] at hp hq
        rw [show mu_or (mu_shl (bst st : Int) 1) 0 = (bst (false :: st) : Int) from hp]
        exact ih (x4 + 1) (false :: st) _ _ (by omega) (by omega) hl2 (by simpa using o3) (by simp; omega) hq
      · have hb : tst f c = true := by cases hb2 : tst f c <;> simp [hb2, bi] at hb ⊢
        rw [hb] at hp hq
        rw [show mu_or (mu_shl (bst st : Int) 1) 1 = (bst (true :: st) : Int) from hp]
        exact ih (x4 + 1) (true :: st) _ _ (by omega) (by omega) hl2 (by simpa using o3) (by simp; omega) hq
theorem k_earns (hd : d < 970) {l : Int} (hG : GL G l) {F : Int} (hF : sh G F = (100, 6)) {f : Row} (hf : ∀ j, 0 ≤ j → j < 6 → I F j = f j) {cls : List Cla} (hA : LA I l cls) (h : Q (eaC f 0 cls) G I) : mu_WP mu_code d 21 0 [(1, l), (1, F), (3, 0), (3, 0)] [] G I Q := by
  have hG2 := hG
  obtain ⟨g1, g2, g3, g4, g5, g6, g7, g8, g9, g10, g11, g12, g13⟩ := hG
  obtain ⟨a1, a2, a3, a4⟩ := hA
  refine vc_21_0 (by omega) _ _ ?_
  suffices H : ∀ (r : List Cla) (i x : Int), i + r.length = cls.length → 0 ≤ i → (0 ≤ x ∧ x ≤ 99 * i) → (∀ c ∈ r, okL c) → LI I l i r → Q (eaC f x r) G I → mu_WP mu_code d 21 4 [(1, l), (1, F), (0, x), (0, i)] [] G I Q from
    H cls 0 0 (by omega) (by omega) (by omega) a3 a4 h
  intro r
  induction r with
  | nil =>
    intro i x hi h0 hx hr hl hq
    refine vc_21_4 (by omega) _ _ _ _ ⟨g1, fun hc => absurd hc (by rw [a1]; simp at hi; omega), fun _ => hq⟩
  | cons c r ih =>
    intro i x hi h0 hx hr hl hq
    have hlen : ((c :: r).length : Int) = r.length + 1 := by simp
    rw [hlen] at hi
    obtain ⟨⟨l1, l2, l3, l4, l5, l6⟩, l7⟩ := hl
    obtain ⟨k1, k2, k3⟩ := hr c (by simp)
    have e4 : wr (i + 1) = i + 1 := wr_id (by omega) (by omega)
    have e5 : wr (x + c.2.1) = x + c.2.1 := wr_id (by omega) (by omega)
    rw [eaC] at hq
    have ih2 := fun x hx => ih (i + 1) x (by omega) (by omega) hx (fun c hc => hr c (by simp [hc])) l7
    refine vc_21_4 (by omega) _ _ _ _ ?_
    rw [g2, g8, l1, a1, e4]
    refine ⟨g1, fun _ => ⟨fun _ => ⟨⟨rfl, h0, by dsimp only; omega⟩, fun q1 => ?_, fun q1 => ?_⟩, fun hc => absurd (show i < 10 by omega) hc⟩, fun hc => absurd (show i < _ by omega) hc⟩
    · refine k_holds (by omega) hG2 hF hf i (by omega) c.2.2 l3 l4 l5 l6 (k3 (by omega)) ⟨fun hb => ?_, fun hb => ⟨g1, ?_⟩⟩
      · rw [if_neg (fun hc => by rw [(bi_not _).1 hb] at hc; exact absurd hc.2 (by decide))] at hq
        exact ih2 x (by omega) hq
      · have hb : evB f c.2.2 = true := by cases hb2 : evB f c.2.2 <;> simp [hb2, bi] at hb ⊢
        rw [if_pos ⟨q1, hb⟩] at hq
        rw [g3, g9, l2, e5]
        exact ⟨⟨rfl, h0, by dsimp only; omega⟩, ih2 _ (by omega) hq⟩
    · rw [if_neg (fun hc => q1 hc.1)] at hq
      exact ih2 x (by omega) hq
theorem k_rests (hd : d < 970) {l : Int} (hG : GL G l) {F : Int} (hF : sh G F = (100, 6)) {f : Row} (hf : ∀ j, 0 ≤ j → j < 6 → I F j = f j) {cls : List Cla} (hA : LA I l cls) (h : Q (bi (reC f cls)) G I) : mu_WP mu_code d 18 0 [(1, l), (1, F), (3, 0)] [] G I Q := by
  have hG2 := hG
  obtain ⟨g1, g2, g3, g4, g5, g6, g7, g8, g9, g10, g11, g12, g13⟩ := hG
  obtain ⟨a1, a2, a3, a4⟩ := hA
  refine vc_18_0 (by omega) _ _ ?_
  suffices H : ∀ (r : List Cla) (i : Int), i + r.length = cls.length → 0 ≤ i → (∀ c ∈ r, okL c) → LI I l i r → Q (bi (reC f r)) G I → mu_WP mu_code d 18 2 [(1, l), (1, F), (0, i)] [] G I Q from
    H cls 0 (by omega) (by omega) a3 a4 h
  intro r
  induction r with
  | nil =>
    intro i hi h0 hr hl hq
    refine vc_18_2 (by omega) _ _ _ ⟨g1, fun hc => absurd hc (by rw [a1]; simp at hi; omega), fun _ => hq⟩
  | cons c r ih =>
    intro i hi h0 hr hl hq
    have hlen : ((c :: r).length : Int) = r.length + 1 := by simp
    rw [hlen] at hi
    obtain ⟨⟨l1, l2, l3, l4, l5, l6⟩, l7⟩ := hl
    obtain ⟨k1, k2, k3⟩ := hr c (by simp)
    have e4 : wr (i + 1) = i + 1 := wr_id (by omega) (by omega)
    rw [reC] at hq
    have ih2 := ih (i + 1) (by omega) (by omega) (fun c hc => hr c (by simp [hc])) l7
    refine vc_18_2 (by omega) _ _ _ ?_
    rw [g2, g8, l1, a1, e4]
    refine ⟨g1, fun _ => ⟨fun _ => ⟨⟨rfl, h0, by dsimp only; omega⟩, fun q1 => ?_, fun q1 => ?_⟩, fun hc => absurd (show i < 10 by omega) hc⟩, fun hc => absurd (show i < _ by omega) hc⟩
    · rw [decide_eq_true q1, Bool.true_and] at hq
      refine k_holds (by omega) hG2 hF hf i (by omega) c.2.2 l3 l4 l5 l6 (k3 (by omega)) ⟨fun hb => ?_, fun hb => ?_⟩
      · rw [(bi_not _).1 hb, Bool.false_or] at hq
        exact ih2 hq
      · have hb : evB f c.2.2 = true := by cases hb2 : evB f c.2.2 <;> simp [hb2, bi] at hb ⊢
        rw [hb, Bool.true_or] at hq
        exact hq
    · rw [decide_eq_false q1, Bool.false_and, Bool.false_or] at hq
      exact ih2 hq
theorem k_comesOdd (hd : d < 970) {l : Int} (hG : GL G l) {cls : List Cla} (hA : LA I l cls) (h : Q (if Int.tmod (comC 0 cls) 2 = 1 then 1 else 0) G I) : mu_WP mu_code d 17 0 [(1, l), (3, 0), (3, 0)] [] G I Q := by
  obtain ⟨g1, g2, g3, g4, g5, g6, g7, g8, g9, g10, g11, g12, g13⟩ := hG
  obtain ⟨a1, a2, a3, a4⟩ := hA
  refine vc_17_0 (by omega) _ ?_
  suffices H : ∀ (r : List Cla) (i x : Int), i + r.length = cls.length → 0 ≤ i → LI I l i r → Q (if Int.tmod (comC x r) 2 = 1 then 1 else 0) G I → mu_WP mu_code d 17 4 [(1, l), (0, x), (0, i)] [] G I Q from
    H cls 0 0 (by omega) (by omega) a4 h
  intro r
  induction r with
  | nil =>
    intro i x hi h0 hl hq
    refine vc_17_4 (by omega) _ _ _ ⟨g1, fun hc => absurd hc (by rw [a1]; simp at hi; omega), fun _ => ⟨fun q1 => ?_, fun q1 => ?_⟩⟩
    · rw [comC, if_pos q1] at hq; exact hq
    · rw [comC, if_neg q1] at hq; exact hq
  | cons c r ih =>
    intro i x hi h0 hl hq
    have hlen : ((c :: r).length : Int) = r.length + 1 := by simp
    rw [hlen] at hi
    obtain ⟨⟨l1, l2, l3, l4, l5, l6⟩, l7⟩ := hl
    have e4 : wr (i + 1) = i + 1 := wr_id (by omega) (by omega)
    rw [comC] at hq
    refine vc_17_4 (by omega) _ _ _ ?_
    rw [g2, g8, g3, g9, l1, l2, a1, e4]
    refine ⟨g1, fun _ => ⟨fun _ => ⟨⟨rfl, h0, by dsimp only; omega⟩, fun q1 => ⟨⟨rfl, h0, by dsimp only; omega⟩, ?_⟩, fun q1 => ?_⟩, fun hc => absurd (show i < 10 by omega) hc⟩, fun hc => absurd (show i < _ by omega) hc⟩
    · rw [if_pos q1] at hq
      exact ih (i + 1) _ (by omega) (by omega) l7 hq
    · rw [if_neg q1] at hq
      exact ih (i + 1) _ (by omega) (by omega) l7 hq
end

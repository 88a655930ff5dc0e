/-! THE CLASS'S QUESTIONS: the order of debts -/
/-- how many are below x -/
def lowL (c : List Int) (x : Int) : Nat → Int → Int
  | 0, _ => 0
  | n + 1, j => if j < c.length then (if c.getD j.toNat 0 < x then 1 else 0) + lowL c x n (j + 1) else 0
/-- where the one is below whom r stand -/
def plL (c : List Int) (r : Int) : Nat → Int → Int
  | 0, _ => -1
  | n + 1, i => if i < c.length then (if lowL c (c.getD i.toNat 0) 3 0 = r then i else plL c r n (i + 1)) else -1
def plI (c : List Int) (x k : Int) : Int := plL c (mu_ords.getD (x * 3 + k).toNat 0) 3 0
def inO (c : List Int) (x : Int) : Bool := (List.range c.length).all (fun k => decide (0 ≤ plI c x k))
def trO (c : List Int) (x : Int) : List Int := (List.range c.length).map (fun k : Nat => c.getD (plI c x k).toNat 0)
def ordL (c : List Int) : Nat → Int → List (List Int)
  | 0, _ => []
  | n + 1, x => (if inO c x then [trO c x] else []) ++ ordL c n (x + 1)
def ddL : List (List Int) → List (List Int)
  | [] => []
  | [x] => [x]
  | x :: y :: r => if x = y then ddL (y :: r) else x :: ddL (y :: r)
def genL (c : List Int) : Nat → List Int → List (List Int)
  | 0, tr => [tr]
  | m + 1, tr => [(0 : Int), 1, 2, 3].flatMap (fun q => if q ∈ c ∧ q ∉ tr then genL c m (tr ++ [q]) else [])
def okO (c : List Int) : Bool := decide (ddL (ordL c 6 0) = genL c c.length [])
theorem okO_0 : okO [] = true := by decide +kernel
theorem okO_1 : ∀ a : Fin 4, okO [(a.val : Int)] = true := by decide +kernel
theorem okO_2 : ∀ a b : Fin 4, a ≠ b → okO [(a.val : Int), (b.val : Int)] = true := by decide +kernel
theorem okO_3 : ∀ a b e : Fin 4, a ≠ b → a ≠ e → b ≠ e → okO [(a.val : Int), (b.val : Int), (e.val : Int)] = true := by decide +kernel
/-- those to whom p owes -/
def crL (S : Row) (p : Int) : List Int := if S (9 + p) = 0 then [] else if S (9 + p) = 1 then [S (13 + 3 * p)] else if S (9 + p) = 2 then [S (13 + 3 * p), S (13 + 3 * p + 1)] else [S (13 + 3 * p), S (13 + 3 * p + 1), S (13 + 3 * p + 2)]
theorem crL_len {S : Row} {p : Int} (h9 : 0 ≤ S (9 + p) ∧ S (9 + p) ≤ 3) : ((crL S p).length : Int) = S (9 + p) := by
  unfold crL
  have hc : S (9 + p) = 0 ∨ S (9 + p) = 1 ∨ S (9 + p) = 2 ∨ S (9 + p) = 3 := by omega
  rcases hc with h | h | h | h <;> rw [h] <;> simp
theorem crL_at {S : Row} {p : Int} (h9 : 0 ≤ S (9 + p) ∧ S (9 + p) ≤ 3) (k : Int) (k0 : 0 ≤ k) (k1 : k < S (9 + p)) : (crL S p).getD k.toNat 0 = S (13 + 3 * p + k) := by
  unfold crL
  have hk : k = 0 ∨ k = 1 ∨ k = 2 := by omega
  have hc : S (9 + p) = 1 ∨ S (9 + p) = 2 ∨ S (9 + p) = 3 := by omega
  rcases hc with h | h | h <;> rw [h] at k1 ⊢ <;> rcases hk with hk | hk | hk <;> subst hk <;> first | omega | simp
theorem crL_ok {S : Row} {p : Int} (hI : Inv S) (hD : Dst S) (hp : 0 ≤ p ∧ p < S 37) : okO (crL S p) = true := by
  obtain ⟨j1, j2, j3, j4, j5, j6, j7, j8⟩ := hI.2.2.2.2.1 p hp.1 hp.2
  have h4 := hI.2.1
  have hd := hD p hp.1 hp.2
  have f : ∀ x : Int, (hx : 0 ≤ x ∧ x < 4) → ((⟨x.toNat, by omega⟩ : Fin 4).val : Int) = x := fun x hx => by simp only; omega
  unfold crL
  have hc : S (9 + p) = 0 ∨ S (9 + p) = 1 ∨ S (9 + p) = 2 ∨ S (9 + p) = 3 := by omega
  rcases hc with h | h | h | h
  · rw [h]; exact okO_0
  · rw [h, if_neg (by decide), if_pos rfl]
    have a0 := (j7 0 (by omega) (by omega)).1
    rw [Int.add_zero] at a0
    have := okO_1 ⟨(S (13 + 3 * p)).toNat, by omega⟩
    rw [f _ (by omega)] at this
    exact this
  · rw [h, if_neg (by decide), if_neg (by decide), if_pos rfl]
    have a0 := (j7 0 (by omega) (by omega)).1
    have a1 := (j7 1 (by omega) (by omega)).1
    have c1 := hd 0 1 (by omega) (by omega) (by omega)
    rw [Int.add_zero] at a0 c1
    have := okO_2 ⟨(S (13 + 3 * p)).toNat, by omega⟩ ⟨(S (13 + 3 * p + 1)).toNat, by omega⟩ (fun e => by have := congrArg Fin.val e; simp only at this; omega)
    rw [f _ (by omega), f _ (by omega)] at this
    exact this
  · rw [h, if_neg (by decide), if_neg (by decide), if_neg (by decide)]
    have a0 := (j7 0 (by omega) (by omega)).1
    have a1 := (j7 1 (by omega) (by omega)).1
    have a2 := (j7 2 (by omega) (by omega)).1
    have c1 := hd 0 1 (by omega) (by omega) (by omega)
    have c2 := hd 0 2 (by omega) (by omega) (by omega)
    have c3 := hd 1 2 (by omega) (by omega) (by omega)
    rw [Int.add_zero] at a0 c1 c2
    have := okO_3 ⟨(S (13 + 3 * p)).toNat, by omega⟩ ⟨(S (13 + 3 * p + 1)).toNat, by omega⟩ ⟨(S (13 + 3 * p + 2)).toNat, by omega⟩ (fun e => by have := congrArg Fin.val e; simp only at this; omega) (fun e => by have := congrArg Fin.val e; simp only at this; omega) (fun e => by have := congrArg Fin.val e; simp only at this; omega)
    rw [f _ (by omega), f _ (by omega), f _ (by omega)] at this
    exact this
theorem crL_mem {S : Row} {p : Int} (hI : Inv S) (hD : Dst S) (hp : 0 ≤ p ∧ p < S 37) (q : Int) : q ∈ crL S p ↔ (q < S 37 ∧ debtTo S p q ≠ -1) := by
  obtain ⟨j1, j2, j3, j4, j5, j6, j7, j8⟩ := hI.2.2.2.2.1 p hp.1 hp.2
  have hl := crL_len j3
  have ha := crL_at j3
  constructor
  · intro hm
    obtain ⟨k, hk, he⟩ := List.getElem_of_mem hm
    have h1 := ha k (by omega) (by omega)
    have e : (crL S p).getD ((k : Int)).toNat 0 = q := by rw [Int.toNat_natCast]; simp [List.getD, hk, he]
    rw [e] at h1
    refine ⟨by have := (j7 k (by omega) (by omega)).1; omega, ?_⟩
    rw [debt_is hD hp j3.2 ⟨by omega, by omega⟩ h1.symm]
    omega
  · intro ⟨h1, h2⟩
    obtain ⟨a1, a2, a3, a4⟩ := dT_some 3 0 (by omega) h2
    change 0 ≤ debtTo S p q at a1
    change debtTo S p q < S (9 + p) at a3
    change S (13 + 3 * p + debtTo S p q) = q at a4
    have h3 := ha _ a1 a3
    rw [a4] at h3
    rw [← h3]
    have hlt : (debtTo S p q).toNat < (crL S p).length := by omega
    have e : (crL S p).getD (debtTo S p q).toNat 0 = (crL S p)[(debtTo S p q).toNat] := by simp [List.getD, hlt]
    rw [e]
    exact List.getElem_mem hlt
theorem qfL_is {f : Int → OSt → OSt} {S : Row} {p : Int} {tr c : List Int} (hS : ∀ q : Int, q ∈ c ↔ (q < S 37 ∧ debtTo S p q ≠ -1)) (h4 : S 37 ≤ 4) (st : OSt) : qfL f S p tr 4 0 st = [(0 : Int), 1, 2, 3].foldl (fun st q => if q ∈ c ∧ q ∉ tr then f q st else st) st := by
  have step : ∀ (n : Nat) (q : Int) (st : OSt), qfL f S p tr (n + 1) q st = qfL f S p tr n (q + 1) (if q ∈ c ∧ q ∉ tr then f q st else st) := by
    intro n q st
    rw [qfL]
    by_cases h : q < S 37
    · rw [if_pos h]
      by_cases h2 : debtTo S p q ≠ -1 ∧ q ∉ tr
      · rw [if_pos h2, if_pos ⟨(hS q).2 ⟨h, h2.1⟩, h2.2⟩]
      · rw [if_neg h2, if_neg (fun hc => h2 ⟨((hS q).1 hc.1).2, hc.2⟩)]
    · rw [if_neg h, if_neg (fun hc => h ((hS q).1 hc.1).1)]
      cases n with
      | zero => rw [qfL]
      | succ n => rw [qfL, if_neg (by omega)]
  rw [step, step, step, step, qfL]
  rfl
theorem oF_is {S : Row} {p : Int} {c : List Int} (hS : ∀ q : Int, q ∈ c ↔ (q < S 37 ∧ debtTo S p q ≠ -1)) (h4 : S 37 ≤ 4) : ∀ (m : Nat) (tr : List Int) (st : OSt), oF S p m tr st = (genL c m tr).foldl (fun st tr => tryS S p tr st) st
  | 0, tr, st => by rw [oF, genL]; rfl
  | m + 1, tr, st => by
    rw [oF, genL, qfL_is hS h4]
    have e : ∀ (l : List Int) (st : OSt), l.foldl (fun st q => if q ∈ c ∧ q ∉ tr then oF S p m (tr ++ [q]) st else st) st = (l.flatMap (fun q => if q ∈ c ∧ q ∉ tr then genL c m (tr ++ [q]) else [])).foldl (fun st tr => tryS S p tr st) st := by
      intro l
      induction l with
      | nil => intro st; rfl
      | cons q l ih =>
        intro st
        rw [List.foldl_cons, List.flatMap_cons, List.foldl_append, ih]
        by_cases h : q ∈ c ∧ q ∉ tr
        · rw [if_pos h, if_pos h, oF_is hS h4 m]
        · rw [if_neg h, if_neg h]; rfl
    exact e _ st
theorem tryS_two {S : Row} {p : Int} {tr : List Int} (st : OSt) : tryS S p tr (tryS S p tr st) = tryS S p tr st := by
  unfold tryS
  generalize freeF (odR S p tr (S (9 + p))) p = n
  by_cases h : n ≠ -5 ∧ (st.1 = -5 ∨ n < st.1)
  · rw [if_pos h, if_neg (by dsimp only; omega)]
  · rw [if_neg h, if_neg h]
theorem ddL_is {S : Row} {p : Int} : ∀ (l : List (List Int)) (st : OSt), (ddL l).foldl (fun st tr => tryS S p tr st) st = l.foldl (fun st tr => tryS S p tr st) st
  | [], _ => rfl
  | [x], _ => rfl
  | x :: y :: r, st => by
    rw [ddL]
    by_cases h : x = y
    · rw [if_pos h, ddL_is (y :: r), h, List.foldl_cons, List.foldl_cons, List.foldl_cons, tryS_two]
    · rw [if_neg h]
      simp only [List.foldl_cons]
      rw [ddL_is (y :: r)]
      rfl
theorem order_is {S : Row} {p : Int} (hI : Inv S) (hD : Dst S) (hp : 0 ≤ p ∧ p < S 37) (st : OSt) : (ordL (crL S p) 6 0).foldl (fun st tr => tryS S p tr st) st = oF S p (S (9 + p)).toNat [] st := by
  have j3 := (hI.2.2.2.2.1 p hp.1 hp.2).2.2.1
  have hl := crL_len j3
  have hk := crL_ok hI hD hp
  unfold okO at hk
  rw [oF_is (crL_mem hI hD hp) hI.2.1.2, ← ddL_is, of_decide_eq_true hk]
  rw [show (S (9 + p)).toNat = (crL S p).length by omega]

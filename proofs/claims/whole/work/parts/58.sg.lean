/-! A LAW IS READ: what a text says -/
abbrev PRs : Type := Bool × Int × List Int
def sgn8 (T : Row) (e k : Int) : Int := if k < e then T k else -1
def ixL (c : Int) : List Int → Int → Int
  | [], _ => -1
  | x :: r, k => if c = x then k else ixL c r (k + 1)
/-- a number: good, where it ends, what it is -/
def numS (T : Row) (e k : Int) : Bool × Int × Int :=
  if 48 ≤ sgn8 T e k ∧ sgn8 T e k ≤ 57 then
    (if 0 < sgn8 T e k - 48 ∧ 48 ≤ sgn8 T e (k + 1) ∧ sgn8 T e (k + 1) ≤ 57 then (true, k + 2, 10 * (sgn8 T e k - 48) + sgn8 T e (k + 1) - 48) else (true, k + 1, sgn8 T e k - 48))
  else (false, k, 0)
def tesS (T : Row) (e k : Int) : PRs :=
  if ixL (sgn8 T e k) (mu_str 1) 0 = -1 then (false, k, [])
  else if ixL (sgn8 T e (k + 1)) (mu_str 2) 0 = -1 then (false, k + 1, [])
  else if (numS T e (k + 2)).1 = true then (true, (numS T e (k + 2)).2.1, [ixL (sgn8 T e k) (mu_str 1) 0 + 8 * ixL (sgn8 T e (k + 1)) (mu_str 2) 0 + 32 * (numS T e (k + 2)).2.2])
  else (false, (numS T e (k + 2)).2.1, [])
def evL (T : Row) (e : Int) (F : Int → PRs) : Nat → Int → List Int → PRs
  | 0, k, cs => (true, k, cs)
  | n + 1, k, cs => if sgn8 T e k = 38 then (if (F (k + 1)).1 = true then evL T e F n (F (k + 1)).2.1 (cs ++ (F (k + 1)).2.2 ++ [-2]) else (false, (F (k + 1)).2.1, [])) else (true, k, cs)
def evrS (T : Row) (e : Int) (F : Int → PRs) (k : Int) : PRs := if (F k).1 = true then evL T e F 100 (F k).2.1 (F k).2.2 else (false, (F k).2.1, [])
def soL (T : Row) (e : Int) (F : Int → PRs) : Nat → Int → List Int → PRs
  | 0, k, cs => (true, k, cs)
  | n + 1, k, cs => if sgn8 T e k = 124 then (if (evrS T e F (k + 1)).1 = true then soL T e F n (evrS T e F (k + 1)).2.1 (cs ++ (evrS T e F (k + 1)).2.2 ++ [-3]) else (false, (evrS T e F (k + 1)).2.1, [])) else (true, k, cs)
def somS (T : Row) (e : Int) (F : Int → PRs) (k : Int) : PRs := if (evrS T e F k).1 = true then soL T e F 100 (evrS T e F k).2.1 (evrS T e F k).2.2 else (false, (evrS T e F k).2.1, [])
def clo (T : Row) (e : Int) (x : PRs) : PRs := if x.1 = true then (if sgn8 T e x.2.1 = 41 then (true, x.2.1 + 1, x.2.2) else (false, x.2.1, [])) else x
def neg (x : PRs) : PRs := if x.1 = true then (true, x.2.1, x.2.2 ++ [-1]) else x
/-- what may be joined, so many ! and ( open yet -/
def facS (T : Row) (e : Int) : Nat → Int → PRs
  | 0, k => if sgn8 T e k = 33 ∨ sgn8 T e k = 40 then (false, k, []) else tesS T e k
  | r + 1, k => if sgn8 T e k = 33 then neg (facS T e r (k + 1)) else if sgn8 T e k = 40 then clo T e (somS T e (facS T e r) (k + 1)) else tesS T e k
abbrev Cla : Type := Int × Int × List Int
def spS (T : Row) (e : Int) : List Int → Int → Bool × Int
  | [], k => (true, k)
  | c :: r, k => if sgn8 T e k = c then spS T e r (k + 1) else (false, k)
def exS (T : Row) (e k : Int) : PRs := somS T e (facS T e 5) k
/-- a clause: good, where it ends, what it says -/
def cla1 (T : Row) (e : Int) (s : Bool × Int) : Bool × Int × Cla := if s.1 = true then ((numS T e s.2).1, (numS T e s.2).2.1, (2, (numS T e s.2).2.2, [])) else (false, s.2, (2, 0, []))
def cla2 (T : Row) (e a : Int) (w : Int) (x : PRs) : Bool × Int × Cla := (x.1, x.2.1, (w, a, x.2.2))
def cla3 (T : Row) (e : Int) (n : Bool × Int × Int) : Bool × Int × Cla := if n.1 = true then (if sgn8 T e n.2.1 = 32 then cla2 T e n.2.2 0 (exS T e (n.2.1 + 1)) else (false, n.2.1, (0, 0, []))) else (false, n.2.1, (0, 0, []))
def claS (T : Row) (e k : Int) : Bool × Int × Cla :=
  if sgn8 T e k = 99 then cla1 T e (spS T e (mu_str 4) k)
  else if sgn8 T e k = 101 then (if (spS T e (mu_str 0) k).1 = true then cla3 T e (numS T e (spS T e (mu_str 0) k).2) else (false, (spS T e (mu_str 0) k).2, (0, 0, [])))
  else if sgn8 T e k = 114 then (if (spS T e (mu_str 3) k).1 = true then cla2 T e 0 1 (exS T e (spS T e (mu_str 3) k).2) else (false, (spS T e (mu_str 3) k).2, (1, 0, [])))
  else (false, k, (0, 0, []))
def laL (T : Row) (e : Int) : Nat → Int → List Cla → Bool × Int × List Cla
  | 0, k, cs => (true, k, cs)
  | n + 1, k, cs => if sgn8 T e k = 59 then (if (claS T e (k + 1)).1 = true then laL T e n (claS T e (k + 1)).2.1 (cs ++ [(claS T e (k + 1)).2.2]) else (false, (claS T e (k + 1)).2.1, [])) else (true, k, cs)
def parS (T : Row) (e : Int) : Bool × Int × List Cla := if (claS T e 0).1 = true then laL T e 9 (claS T e 0).2.1 [(claS T e 0).2.2] else (false, (claS T e 0).2.1, [])
/-- the reference's text of clauses, and what comes last -/
def txt1 (c : Cla) : List Int := if c.1 = 0 then c.2.2 ++ [-200 - c.2.1] else if c.1 = 1 then c.2.2 ++ [-10] else []
def txtC : List Cla → List Int
  | [] => []
  | c :: r => txt1 c ++ txtC r
def comC (x : Int) : List Cla → Int
  | [] => x
  | c :: r => comC (if c.1 = 2 then c.2.1 else x) r
/-! bounds -/
def okE : List Int → Nat → Nat → Prop
  | [], n, m => n = m
  | c :: cs, n, m => (-4 < c ∧ c < 3200) ∧ (0 ≤ c → (Int.tmod c 8 < 6 ∧ c / 8 % 4 < 3) ∧ n < 30 ∧ okE cs (n + 1) m) ∧ (c = -1 → 1 ≤ n ∧ okE cs n m) ∧ (c < -1 → 2 ≤ n ∧ okE cs (n - 1) m)
theorem okE_app : ∀ {a b : List Int} {n m l : Nat}, okE a n m → okE b m l → okE (a ++ b) n l
  | [], b, n, m, l, h, h2 => by
    have h : n = m := h
    subst h
    exact h2
  | c :: a, b, n, m, l, h, h2 => ⟨h.1, fun h0 => ⟨(h.2.1 h0).1, (h.2.1 h0).2.1, okE_app (h.2.1 h0).2.2 h2⟩, fun h1 => ⟨(h.2.2.1 h1).1, okE_app (h.2.2.1 h1).2 h2⟩, fun h3 => ⟨(h.2.2.2 h3).1, okE_app (h.2.2.2 h3).2 h2⟩⟩
theorem okE_okC : ∀ {a b : List Int} {n m : Nat}, okE a n m → okC b m → okC (a ++ b) n
  | [], b, n, m, h, h2 => by
    have h : n = m := h
    subst h
    exact h2
  | c :: a, b, n, m, h, h2 => ⟨⟨by have := h.1; omega, by have := h.1; omega⟩, fun h0 => ⟨(h.2.1 h0).1.1, by have := (h.2.1 h0).2.1; omega, okE_okC (h.2.1 h0).2.2 h2⟩, fun h1 => ⟨(h.2.2.1 h1).1, okE_okC (h.2.2.1 h1).2 h2⟩, fun _ h3 => ⟨(h.2.2.2 h3).1, okE_okC (h.2.2.2 h3).2 h2⟩, fun h4 => by have := h.1; omega⟩
theorem sg_e {T : Row} {e k c : Int} (h : sgn8 T e k = c) (hc : 0 ≤ c) : k < e := by
  unfold sgn8 at h
  by_cases hk : k < e
  · exact hk
  · rw [if_neg hk] at h; omega
theorem numS_bd {T : Row} {e k : Int} (hk : k ≤ e) : k ≤ (numS T e k).2.1 ∧ (numS T e k).2.1 ≤ e ∧ 0 ≤ (numS T e k).2.2 ∧ (numS T e k).2.2 ≤ 99 ∧ ((numS T e k).1 = true → k < (numS T e k).2.1) := by
  unfold numS
  split
  · rename_i h
    have h1 : k < e := sg_e (T := T) rfl (by omega)
    split
    · rename_i h2
      have h3 : k + 1 < e := sg_e (T := T) rfl (by omega)
      exact ⟨by dsimp only; omega, by dsimp only; omega, by dsimp only; omega, by dsimp only; omega, fun _ => by dsimp only; omega⟩
    · exact ⟨by dsimp only; omega, by dsimp only; omega, by dsimp only; omega, by dsimp only; omega, fun _ => by dsimp only; omega⟩
  · exact ⟨by dsimp only; omega, by dsimp only; omega, by dsimp only; omega, by dsimp only; omega, fun hh => by cases hh⟩
theorem ixL_bd (c : Int) : ∀ (L : List Int) (k : Int), 0 ≤ k → ixL c L k = -1 ∨ (k ≤ ixL c L k ∧ ixL c L k < k + L.length ∧ c ∈ L)
  | [], _, _ => Or.inl rfl
  | x :: r, k, hk => by
    have hl : ((x :: r).length : Int) = r.length + 1 := by simp
    rw [ixL, hl]
    split
    · rename_i h
      exact Or.inr ⟨by omega, by omega, by rw [h]; simp⟩
    · rcases ixL_bd c r (k + 1) (by omega) with h | ⟨h1, h2, h3⟩
      · exact Or.inl h
      · exact Or.inr ⟨by omega, by omega, List.mem_cons_of_mem _ h3⟩
/-- a reader's bounds: it stands between k and e; if good, further; no more codes than signs; the codes go from n to n + 1 -/
def RB (e k : Int) (d : Nat) (x : PRs) : Prop := (k ≤ x.2.1 ∧ x.2.1 ≤ e) ∧ (x.1 = true → k < x.2.1 ∧ (x.2.2.length : Int) ≤ x.2.1 - k ∧ ∀ n : Nat, n + d ≤ 30 → okE x.2.2 n (n + 1))
theorem tesS_bd {T : Row} {e k : Int} (hk : k ≤ e) : RB e k 1 (tesS T e k) := by
  unfold tesS
  by_cases h1 : ixL (sgn8 T e k) (mu_str 1) 0 = -1
  · rw [if_pos h1]
    exact ⟨by dsimp only; omega, fun h => by cases h⟩
  rw [if_neg h1]
  have a1 := ixL_bd (sgn8 T e k) (mu_str 1) 0 (by omega)
  have m1 : sgn8 T e k ∈ mu_str 1 := by
    rcases a1 with a1 | a1
    · exact absurd a1 h1
    · exact a1.2.2
  have k1 : k < e := by
    refine sg_e (T := T) rfl ?_
    simp [mu_str] at m1
    omega
  by_cases h2 : ixL (sgn8 T e (k + 1)) (mu_str 2) 0 = -1
  · rw [if_pos h2]
    exact ⟨by dsimp only; omega, fun h => by cases h⟩
  rw [if_neg h2]
  have a2 := ixL_bd (sgn8 T e (k + 1)) (mu_str 2) 0 (by omega)
  have m2 : sgn8 T e (k + 1) ∈ mu_str 2 := by
    rcases a2 with a2 | a2
    · exact absurd a2 h2
    · exact a2.2.2
  have k2 : k + 1 < e := by
    refine sg_e (T := T) rfl ?_
    simp [mu_str] at m2
    omega
  have nb := numS_bd (T := T) (e := e) (k := k + 2) (by omega)
  by_cases h3 : (numS T e (k + 2)).1 = true
  · rw [if_pos h3]
    have nb5 := nb.2.2.2.2 h3
    have l1 : ((mu_str 1).length : Int) = 6 := rfl
    have l2 : ((mu_str 2).length : Int) = 3 := rfl
    rw [l1] at a1
    rw [l2] at a2
    generalize hw : ixL (sgn8 T e k) (mu_str 1) 0 = w at *
    generalize hh : ixL (sgn8 T e (k + 1)) (mu_str 2) 0 = g at *
    generalize hv : (numS T e (k + 2)).2.2 = v at *
    refine ⟨by dsimp only; omega, fun _ => ⟨by dsimp only; omega, by simp; omega, fun n hn => ⟨by omega, fun _ => ⟨⟨?_, by omega⟩, by omega, rfl⟩, fun hc => by omega, fun hc => by omega⟩⟩⟩
    rw [Int.tmod_eq_emod_of_nonneg (by omega)]
    omega
  · rw [if_neg h3]
    exact ⟨by dsimp only; omega, fun h => by cases h⟩
theorem evL_bd {T : Row} {e : Int} {F : Int → PRs} {d : Nat} (hd : 0 < d) (hF : ∀ k, 0 ≤ k → k ≤ e → RB e k d (F k)) : ∀ (n : Nat) (k0 k : Int) (cs : List Int), 0 ≤ k0 → k0 < k → k ≤ e → (cs.length : Int) ≤ k - k0 → (∀ n : Nat, n + (d + 1) ≤ 30 → okE cs n (n + 1)) → RB e k0 (d + 1) (evL T e F n k cs)
  | 0, k0, k, cs, h0, h1, h2, h3, h4 => ⟨by dsimp only [evL]; omega, fun _ => ⟨h1, h3, h4⟩⟩
  | n + 1, k0, k, cs, h0, h1, h2, h3, h4 => by
    rw [evL]
    by_cases hs : sgn8 T e k = 38
    · rw [if_pos hs]
      have hk : k < e := sg_e hs (by omega)
      have hf := hF (k + 1) (by omega) (by omega)
      by_cases hg : (F (k + 1)).1 = true
      · rw [if_pos hg]
        obtain ⟨g1, g2, g3⟩ := hf.2 hg
        refine evL_bd hd hF n k0 _ _ h0 (by have := hf.1; omega) hf.1.2 (by simp only [List.length_append, List.length_cons, List.length_nil]; omega) ?_
        intro m hm
        refine okE_app (okE_app (h4 m hm) (g3 (m + 1) (by omega))) ?_
        exact ⟨by omega, fun hc => by omega, fun hc => by omega, fun _ => ⟨by omega, by show m + 1 + 1 - 1 = m + 1; omega⟩⟩
      · rw [if_neg hg]
        exact ⟨by have := hf.1; dsimp only; omega, fun h => by cases h⟩
    · rw [if_neg hs]
      exact ⟨by dsimp only; omega, fun _ => ⟨h1, h3, h4⟩⟩
theorem evrS_bd {T : Row} {e : Int} {F : Int → PRs} {d : Nat} (hd : 0 < d) (hF : ∀ k, 0 ≤ k → k ≤ e → RB e k d (F k)) {k : Int} (h0 : 0 ≤ k) (hk : k ≤ e) : RB e k (d + 1) (evrS T e F k) := by
  unfold evrS
  have hf := hF k h0 hk
  by_cases hg : (F k).1 = true
  · rw [if_pos hg]
    obtain ⟨g1, g2, g3⟩ := hf.2 hg
    exact evL_bd hd hF 100 k _ _ h0 g1 hf.1.2 g2 (fun n hn => g3 n (by omega))
  · rw [if_neg hg]
    exact ⟨hf.1, fun h => by cases h⟩
theorem soL_bd {T : Row} {e : Int} {F : Int → PRs} {d : Nat} (hd : 0 < d) (hF : ∀ k, 0 ≤ k → k ≤ e → RB e k d (F k)) : ∀ (n : Nat) (k0 k : Int) (cs : List Int), 0 ≤ k0 → k0 < k → k ≤ e → (cs.length : Int) ≤ k - k0 → (∀ n : Nat, n + (d + 2) ≤ 30 → okE cs n (n + 1)) → RB e k0 (d + 2) (soL T e F n k cs)
  | 0, k0, k, cs, h0, h1, h2, h3, h4 => ⟨by dsimp only [soL]; omega, fun _ => ⟨h1, h3, h4⟩⟩
  | n + 1, k0, k, cs, h0, h1, h2, h3, h4 => by
    rw [soL]
    by_cases hs : sgn8 T e k = 124
    · rw [if_pos hs]
      have hk : k < e := sg_e hs (by omega)
      have hf := evrS_bd (T := T) (e := e) hd hF (k := k + 1) (by omega) (by omega)
      by_cases hg : (evrS T e F (k + 1)).1 = true
      · rw [if_pos hg]
        obtain ⟨g1, g2, g3⟩ := hf.2 hg
        refine soL_bd hd hF n k0 _ _ h0 (by have := hf.1; omega) hf.1.2 (by simp only [List.length_append, List.length_cons, List.length_nil]; omega) ?_
        intro m hm
        refine okE_app (okE_app (h4 m hm) (g3 (m + 1) (by omega))) ?_
        exact ⟨by omega, fun hc => by omega, fun hc => by omega, fun _ => ⟨by omega, by show m + 1 + 1 - 1 = m + 1; omega⟩⟩
      · rw [if_neg hg]
        exact ⟨by have := hf.1; dsimp only; omega, fun h => by cases h⟩
    · rw [if_neg hs]
      exact ⟨by dsimp only; omega, fun _ => ⟨h1, h3, h4⟩⟩
theorem somS_bd {T : Row} {e : Int} {F : Int → PRs} {d : Nat} (hd : 0 < d) (hF : ∀ k, 0 ≤ k → k ≤ e → RB e k d (F k)) {k : Int} (h0 : 0 ≤ k) (hk : k ≤ e) : RB e k (d + 2) (somS T e F k) := by
  unfold somS
  have hf := evrS_bd (T := T) hd hF h0 hk
  by_cases hg : (evrS T e F k).1 = true
  · rw [if_pos hg]
    obtain ⟨g1, g2, g3⟩ := hf.2 hg
    exact soL_bd hd hF 100 k _ _ h0 g1 hf.1.2 g2 (fun n hn => g3 n (by omega))
  · rw [if_neg hg]
    exact ⟨hf.1, fun h => by cases h⟩
theorem facS_bd {T : Row} {e : Int} : ∀ (r : Nat) (k : Int), 0 ≤ k → k ≤ e → RB e k (2 * r + 1) (facS T e r k)
  | 0, k, h0, hk => by
    rw [facS]
    split
    · exact ⟨by dsimp only; omega, fun h => by cases h⟩
    · exact tesS_bd hk
  | r + 1, k, h0, hk => by
    rw [facS]
    by_cases h1 : sgn8 T e k = 33
    · rw [if_pos h1]
      have hk2 : k < e := sg_e h1 (by omega)
      have hf := facS_bd (T := T) (e := e) r (k + 1) (by omega) (by omega)
      unfold neg
      by_cases hg : (facS T e r (k + 1)).1 = true
      · rw [if_pos hg]
        obtain ⟨g1, g2, g3⟩ := hf.2 hg
        refine ⟨by have := hf.1; dsimp only; omega, fun _ => ⟨by dsimp only; omega, by simp only [List.length_append, List.length_cons, List.length_nil]; omega, fun n hn => okE_app (g3 n (by omega)) ?_⟩⟩
        exact ⟨by omega, fun hc => by omega, fun _ => ⟨by omega, rfl⟩, fun hc => by omega⟩
      · rw [if_neg hg]
        exact ⟨by have := hf.1; omega, fun h => absurd h hg⟩
    · rw [if_neg h1]
      by_cases h2 : sgn8 T e k = 40
      · rw [if_pos h2]
        have hk2 : k < e := sg_e h2 (by omega)
        have hf := somS_bd (T := T) (e := e) (F := facS T e r) (d := 2 * r + 1) (by omega) (fun k h0 hk => facS_bd r k h0 hk) (k := k + 1) (by omega) (by omega)
        unfold clo
        by_cases hg : (somS T e (facS T e r) (k + 1)).1 = true
        · rw [if_pos hg]
          obtain ⟨g1, g2, g3⟩ := hf.2 hg
          by_cases hc : sgn8 T e (somS T e (facS T e r) (k + 1)).2.1 = 41
          · rw [if_pos hc]
            have hk3 := sg_e hc (by omega)
            exact ⟨by have := hf.1; dsimp only; omega, fun _ => ⟨by dsimp only; omega, by dsimp only; omega, fun n hn => g3 n (by omega)⟩⟩
          · rw [if_neg hc]
            exact ⟨by have := hf.1; dsimp only; omega, fun h => by cases h⟩
        · rw [if_neg hg]
          exact ⟨by have := hf.1; omega, fun h => absurd h hg⟩
      · rw [if_neg h2]
        have ht := tesS_bd (T := T) hk
        exact ⟨ht.1, fun h => ⟨(ht.2 h).1, (ht.2 h).2.1, fun n hn => (ht.2 h).2.2 n (by omega)⟩⟩
theorem exS_bd {T : Row} {e k : Int} (h0 : 0 ≤ k) (hk : k ≤ e) : RB e k 13 (exS T e k) := somS_bd (by omega) (fun k h0 hk => facS_bd 5 k h0 hk) h0 hk

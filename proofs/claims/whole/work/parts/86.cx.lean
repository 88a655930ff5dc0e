/-! THE CLASS'S ACTS -/
def TC (I : mu_M) (L : List Int) : Prop := RS I 7 L.length (fun k => L.getD k.toNat 0)
/-- one acts: a, of the kind at K -/
def AC (G : mu_G) (I : mu_M) (a K k i v : Int) : Prop := (sh G a = (2, 0) ∧ 20 ≤ a) ∧ (I a 0 = i ∧ I a 2 = v) ∧ (sh G K = (kcl k, 0) ∧ 0 ≤ k ∧ k ≤ 6) ∧ GO G 7 20
theorem AC.keep {G : mu_G} {I I1 : mu_M} {a K k i v : Int} (h : AC G I a K k i v) (hf : FO 7 I I1) : AC G I1 a K k i v := ⟨h.1, by rw [hf a (by have := h.1.2; omega)]; exact h.2.1, h.2.2⟩
theorem kcl_of {k : Int} (h : 0 ≤ k ∧ k ≤ 6) : (k = 0 ∧ kcl k = 9) ∨ (k = 1 ∧ kcl k = 7) ∨ (k = 2 ∧ kcl k = 6) ∨ (k = 3 ∧ kcl k = 0) ∨ (k = 4 ∧ kcl k = 4) ∨ (k = 5 ∧ kcl k = 3) ∨ (k = 6 ∧ kcl k = 8) := by
  have hk : k = 0 ∨ k = 1 ∨ k = 2 ∨ k = 3 ∨ k = 4 ∨ k = 5 ∨ k = 6 := by omega
  rcases hk with h | h | h | h | h | h | h <;> subst h <;> decide
theorem AC.c {G : mu_G} {I : mu_M} {a K k i v c : Int} (h : AC G I a K k i v) (hc : sh G K = (c, 0)) : kcl k = c := congrArg Prod.fst (h.2.2.1.1.symm.trans hc)
theorem AC.n {G : mu_G} {I : mu_M} {a K k i v c : Int} (h : AC G I a K k i v) (hc : ¬ sh G K = (c, 0)) : kcl k ≠ c := fun e => hc (by rw [h.2.2.1.1, e])
section
variable {d : Nat} {G : mu_G} {I : mu_M} {Q : Int → mu_G → mu_M → Prop} {a K k i v x : Int} {L : List Int}
theorem a_add (hd : d < 990) (hG : GO G 7 20) (hL : TC I L) (hl : L.length < 20) (y : Int) (h : ∀ I1, FO 7 I I1 → TC I1 (L ++ [y]) → Q 0 G I1) : mu_WP mu_code d 49 0 [(1, 7), (0, y)] [] G I Q := by
  refine k_add (by omega) (by omega) hG hL ⟨by omega, by omega, by omega⟩ y ?_
  intro I1 f1 r1
  refine h I1 f1 (r1.same (by simp) (fun k k0 k1 => ?_))
  have hn : ((k.toNat : Nat) : Int) = k := by omega
  by_cases hk : k = L.length
  · rw [if_pos hk]
    have e : k.toNat = L.length := by omega
    simp [List.getD, e]
  · rw [if_neg hk]
    have e : k.toNat < L.length := by omega
    simp [List.getD, e, List.getElem?_append_left]
theorem a_plain (hd : d < 980) (hA : AC G I a K k i v) (hL : TC I L) (hl : L.length < 20) (x : Int) (h : ∀ I1, FO 7 I I1 → TC I1 (L ++ [1]) → Q (wr (x + i)) G I1) : mu_WP mu_code d 66 0 [(1, K), (1, a), (0, x), (1, 7)] [] G I Q := by
  refine vc_66_0 (by omega) _ _ _ _ ⟨hA.2.2.2.1, a_add (by omega) hA.2.2.2 hL hl 1 ?_⟩
  intro I1 f1 l1
  have h := h I1 f1 l1
  rw [← (hA.keep f1).2.1.1] at h
  exact ⟨hA.1.1, h⟩
theorem a_three (hd : d < 970) (hA : AC G I a K k i v) (hk : k = 1 ∨ k = 4) (hL : TC I L) (hl : L.length < 19) (x : Int) (h : ∀ I1, FO 7 I I1 → TC I1 (L ++ (goA k i x).2) → Q (goA k i x).1 G I1) : mu_WP mu_code d 58 0 [(1, K), (1, a), (0, x), (1, 7)] [] G I Q := by
  unfold goA at h
  rw [if_pos hk] at h
  have hc := kcl_of hA.2.2.1.2
  refine vc_58_0 (by omega) _ _ _ _ ⟨hA.2.2.2.1, a_add (by omega) hA.2.2.2 hL (by omega) 11 ?_⟩
  intro I1 f1 l1
  have go : ∀ Q1 : Int → mu_G → mu_M → Prop, (∀ I1, FO 7 I I1 → TC I1 (L ++ [11, 1]) → Q1 (wr (wr (x * 3) + i)) G I1) → mu_WP mu_code (d + 1) 66 0 [(1, K), (1, a), (0, wr (x * 3)), (1, 7)] [] G I1 Q1 := by
    intro Q1 hq
    refine a_plain (by omega) (hA.keep f1) l1 (by simp; omega) _ ?_
    intro I2 f2 l2
    rw [List.append_assoc] at l2
    exact hq I2 (f1.tr f2) l2
  refine ⟨fun h1 => go _ h, fun h1 => ⟨?_, go _ h⟩⟩
  have := hA.n h1
  rw [hA.2.2.1.1, show kcl k = 7 by omega]
theorem a_xor (hd : d < 970) (hA : AC G I a K k i v) (hk : k = 5) (hL : TC I L) (hl : L.length < 19) (x : Int) (h : ∀ I1, FO 7 I I1 → TC I1 (L ++ (goA k i x).2) → Q (goA k i x).1 G I1) : mu_WP mu_code d 43 0 [(1, K), (1, a), (0, x), (1, 7)] [] G I Q := by
  unfold goA at h
  rw [if_neg (by omega), if_pos hk] at h
  have hc := kcl_of hA.2.2.1.2
  refine vc_43_0 (by omega) _ _ _ _ ⟨hA.2.2.2.1, a_add (by omega) hA.2.2.2 hL (by omega) 51 ?_⟩
  intro I1 f1 l1
  refine ⟨by rw [hA.2.2.1.1, show kcl k = 3 by omega], a_plain (by omega) (hA.keep f1) l1 (by simp; omega) _ ?_⟩
  intro I2 f2 l2
  rw [List.append_assoc] at l2
  have h := h I2 (f1.tr f2) l2
  rw [((hA.keep f1).keep f2).2.1.1]
  exact ⟨hA.1.1, h⟩
/-- the kinds go -/
theorem a_goD (hd : d < 970) (hA : AC G I a K k i v) (hL : TC I L) (hl : L.length < 18) (x : Int) (h : ∀ I1, FO 7 I I1 → TC I1 (L ++ (goA k i x).2) → Q (goA k i x).1 G I1) :
  ((sh G K = (9, 0) → mu_WP mu_code d 66 0 [(1, K), (1, a), (0, x), (1, 7)] [] G I Q) ∧ (¬ sh G K = (9, 0) → ((sh G K = (0, 0) → mu_WP mu_code d 66 0 [(1, K), (1, a), (0, x), (1, 7)] [] G I Q) ∧ (¬ sh G K = (0, 0) → ((sh G K = (3, 0) → mu_WP mu_code d 43 0 [(1, K), (1, a), (0, x), (1, 7)] [] G I Q) ∧ (¬ sh G K = (3, 0) → ((sh G K = (4, 0) → mu_WP mu_code d 58 0 [(1, K), (1, a), (0, x), (1, 7)] [] G I Q) ∧ (¬ sh G K = (4, 0) → ((sh G K = (6, 0) → mu_WP mu_code d 66 0 [(1, K), (1, a), (0, x), (1, 7)] [] G I Q) ∧ (¬ sh G K = (6, 0) → ((sh G K = (7, 0) → mu_WP mu_code d 58 0 [(1, K), (1, a), (0, x), (1, 7)] [] G I Q) ∧ (¬ sh G K = (7, 0) → sh G K = (8, 0) ∧ mu_WP mu_code d 66 0 [(1, K), (1, a), (0, x), (1, 7)] [] G I Q)))))))))))) := by
  have hc := kcl_of hA.2.2.1.2
  have pl : (k ≠ 1 ∧ k ≠ 4 ∧ k ≠ 5) → mu_WP mu_code d 66 0 [(1, K), (1, a), (0, x), (1, 7)] [] G I Q := by
    intro hk
    unfold goA at h
    rw [if_neg (by omega), if_neg (by omega)] at h
    exact a_plain (by omega) hA hL (by omega) x h
  refine ⟨fun h1 => pl (by have := hA.c h1; omega), fun n9 => ⟨fun h1 => pl (by have := hA.c h1; omega), fun n0 => ⟨fun h1 => a_xor (by omega) hA (by have := hA.c h1; omega) hL (by omega) x h, fun n3 => ⟨fun h1 => a_three (by omega) hA (by have := hA.c h1; omega) hL (by omega) x h, fun n4 => ⟨fun h1 => pl (by have := hA.c h1; omega), fun n6 => ⟨fun h1 => a_three (by omega) hA (by have := hA.c h1; omega) hL (by omega) x h, fun n7 => ?_⟩⟩⟩⟩⟩⟩
  have := hA.n n9
  have := hA.n n0
  have := hA.n n3
  have := hA.n n4
  have := hA.n n6
  have := hA.n n7
  exact ⟨by rw [hA.2.2.1.1, show kcl k = 8 by omega], pl (by omega)⟩
theorem a_plP (hd : d < 960) (hA : AC G I a K k i v) (hL : TC I L) (hl : L.length < 16) (x : Int) (h : ∀ I1, FO 7 I I1 → TC I1 (L ++ (plP k i v x).2) → Q (plP k i v x).1 G I1) : mu_WP mu_code d 67 0 [(1, K), (1, a), (0, x), (1, 7)] [] G I Q := by
  unfold plP at h
  refine vc_67_0 (by omega) _ _ _ _ ⟨hA.2.2.2.1, a_add (by omega) hA.2.2.2 hL (by omega) 2 ?_⟩
  intro I1 f1 l1
  refine a_goD (by omega) (hA.keep f1) l1 (by simp; omega) x ?_
  intro I2 f2 l2
  rw [List.append_assoc] at l2
  have h := h I2 (f1.tr f2) l2
  have hv := ((hA.keep f1).keep f2).2.1.2
  refine vc_67_12 (by omega) _ _ _ _ _ ⟨hA.1.1, ?_⟩
  rw [hv]
  exact h
theorem a_neg (hd : d < 950) (hA : AC G I a K k i v) (hk : k = 2 ∨ k = 5) (hL : TC I L) (hl : L.length < 15) (x : Int) (h : ∀ I1, FO 7 I I1 → TC I1 (L ++ (paA k i v x).2) → Q (paA k i v x).1 G I1) : mu_WP mu_code d 55 0 [(1, K), (1, a), (0, x), (1, 7)] [] G I Q := by
  unfold paA at h
  rw [if_pos hk] at h
  have hc := kcl_of hA.2.2.1.2
  refine vc_55_0 (by omega) _ _ _ _ ⟨hA.2.2.2.1, a_add (by omega) hA.2.2.2 hL (by omega) 21 ?_⟩
  intro I1 f1 l1
  have go : mu_WP mu_code (d + 1) 67 0 [(1, K), (1, a), (0, x), (1, 7)] [] G I1 (fun r5 G6 I7 => Q (wr (-r5)) G6 I7) := by
    refine a_plP (by omega) (hA.keep f1) l1 (by simp; omega) x ?_
    intro I2 f2 l2
    rw [List.append_assoc] at l2
    exact h I2 (f1.tr f2) l2
  refine ⟨fun h1 => go, fun h1 => ⟨?_, go⟩⟩
  have := hA.n h1
  rw [hA.2.2.1.1, show kcl k = 6 by omega]
theorem a_more (hd : d < 950) (hA : AC G I a K k i v) (hk : k = 6) (hL : TC I L) (hl : L.length < 15) (x : Int) (h : ∀ I1, FO 7 I I1 → TC I1 (L ++ (paA k i v x).2) → Q (paA k i v x).1 G I1) : mu_WP mu_code d 61 0 [(1, K), (1, a), (0, x), (1, 7)] [] G I Q := by
  unfold paA at h
  rw [if_neg (by omega), if_pos hk] at h
  have hc := kcl_of hA.2.2.1.2
  refine vc_61_0 (by omega) _ _ _ _ ⟨hA.2.2.2.1, a_add (by omega) hA.2.2.2 hL (by omega) 61 ?_⟩
  intro I1 f1 l1
  refine ⟨by rw [hA.2.2.1.1, show kcl k = 8 by omega], a_plP (by omega) (hA.keep f1) l1 (by simp; omega) x ?_⟩
  intro I2 f2 l2
  rw [List.append_assoc] at l2
  have h := h I2 (f1.tr f2) l2
  rw [((hA.keep f1).keep f2).2.1.2]
  exact ⟨hA.1.1, h⟩
/-- the kinds pay -/
theorem a_paD (hd : d < 950) (hA : AC G I a K k i v) (hL : TC I L) (hl : L.length < 15) (x : Int) (h : ∀ I1, FO 7 I I1 → TC I1 (L ++ (paA k i v x).2) → Q (paA k i v x).1 G I1) :
  ((sh G K = (9, 0) → mu_WP mu_code d 67 0 [(1, K), (1, a), (0, x), (1, 7)] [] G I Q) ∧ (¬ sh G K = (9, 0) → ((sh G K = (0, 0) → mu_WP mu_code d 67 0 [(1, K), (1, a), (0, x), (1, 7)] [] G I Q) ∧ (¬ sh G K = (0, 0) → ((sh G K = (3, 0) → mu_WP mu_code d 55 0 [(1, K), (1, a), (0, x), (1, 7)] [] G I Q) ∧ (¬ sh G K = (3, 0) → ((sh G K = (4, 0) → mu_WP mu_code d 67 0 [(1, K), (1, a), (0, x), (1, 7)] [] G I Q) ∧ (¬ sh G K = (4, 0) → ((sh G K = (6, 0) → mu_WP mu_code d 55 0 [(1, K), (1, a), (0, x), (1, 7)] [] G I Q) ∧ (¬ sh G K = (6, 0) → ((sh G K = (7, 0) → mu_WP mu_code d 67 0 [(1, K), (1, a), (0, x), (1, 7)] [] G I Q) ∧ (¬ sh G K = (7, 0) → sh G K = (8, 0) ∧ mu_WP mu_code d 61 0 [(1, K), (1, a), (0, x), (1, 7)] [] G I Q)))))))))))) := by
  have hc := kcl_of hA.2.2.1.2
  have pl : (k ≠ 2 ∧ k ≠ 5 ∧ k ≠ 6) → mu_WP mu_code d 67 0 [(1, K), (1, a), (0, x), (1, 7)] [] G I Q := by
    intro hk
    unfold paA at h
    rw [if_neg (by omega), if_neg (by omega)] at h
    exact a_plP (by omega) hA hL (by omega) x h
  refine ⟨fun h1 => pl (by have := hA.c h1; omega), fun n9 => ⟨fun h1 => pl (by have := hA.c h1; omega), fun n0 => ⟨fun h1 => a_neg (by omega) hA (by have := hA.c h1; omega) hL (by omega) x h, fun n3 => ⟨fun h1 => pl (by have := hA.c h1; omega), fun n4 => ⟨fun h1 => a_neg (by omega) hA (by have := hA.c h1; omega) hL (by omega) x h, fun n6 => ⟨fun h1 => pl (by have := hA.c h1; omega), fun n7 => ?_⟩⟩⟩⟩⟩⟩
  have := hA.n n9
  have := hA.n n0
  have := hA.n n3
  have := hA.n n4
  have := hA.n n6
  have := hA.n n7
  exact ⟨by rw [hA.2.2.1.1, show kcl k = 8 by omega], a_more (by omega) hA (by omega) hL (by omega) x h⟩
theorem a_plT (hd : d < 940) (hA : AC G I a K k i v) (hL : TC I L) (hl : L.length < 14) (x : Int) (h : ∀ I1, FO 7 I I1 → TC I1 (L ++ (plT k i v x).2) → Q (plT k i v x).1 G I1) : mu_WP mu_code d 68 0 [(1, K), (1, a), (0, x), (1, 7)] [] G I Q := by
  unfold plT at h
  refine vc_68_0 (by omega) _ _ _ _ ⟨hA.2.2.2.1, a_add (by omega) hA.2.2.2 hL (by omega) 3 ?_⟩
  intro I1 f1 l1
  refine a_paD (by omega) (hA.keep f1) l1 (by simp; omega) x ?_
  intro I2 f2 l2
  rw [List.append_assoc] at l2
  have h := h I2 (f1.tr f2) l2
  exact vc_68_12 (by omega) _ _ _ _ _ h
theorem a_seven (hd : d < 930) (hA : AC G I a K k i v) (hk : k = 3 ∨ k = 6) (hL : TC I L) (hl : L.length < 10) (x : Int) (h : ∀ I1, FO 7 I I1 → TC I1 (L ++ (teA k i v x).2) → Q (teA k i v x).1 G I1) : mu_WP mu_code d 2 0 [(1, K), (1, a), (0, x), (1, 7)] [] G I Q := by
  unfold teA at h
  rw [if_pos hk] at h
  have hc := kcl_of hA.2.2.1.2
  refine vc_2_0 (by omega) _ _ _ _ ⟨hA.2.2.2.1, a_add (by omega) hA.2.2.2 hL (by omega) 31 ?_⟩
  intro I1 f1 l1
  have go : mu_WP mu_code (d + 1) 68 0 [(1, K), (1, a), (0, x), (1, 7)] [] G I1 (fun r5 G6 I7 => Q (mu_xor r5 7) G6 I7) := by
    refine a_plT (by omega) (hA.keep f1) l1 (by simp; omega) x ?_
    intro I2 f2 l2
    rw [List.append_assoc] at l2
    exact h I2 (f1.tr f2) l2
  refine ⟨fun h1 => go, fun h1 => ⟨?_, go⟩⟩
  have := hA.n h1
  rw [hA.2.2.1.1, show kcl k = 8 by omega]
theorem a_both (hd : d < 930) (hA : AC G I a K k i v) (hk : k = 4) (hL : TC I L) (hl : L.length < 10) (x : Int) (h : ∀ I1, FO 7 I I1 → TC I1 (L ++ (teA k i v x).2) → Q (teA k i v x).1 G I1) : mu_WP mu_code d 46 0 [(1, K), (1, a), (0, x), (1, 7)] [] G I Q := by
  unfold teA at h
  rw [if_neg (by omega), if_pos hk] at h
  have hc := kcl_of hA.2.2.1.2
  have hK : sh G K = (4, 0) := by rw [hA.2.2.1.1, show kcl k = 4 by omega]
  refine vc_46_0 (by omega) _ _ _ _ ⟨hA.2.2.2.1, a_add (by omega) hA.2.2.2 hL (by omega) 41 ?_⟩
  intro I1 f1 l1
  refine ⟨hK, a_plT (by omega) (hA.keep f1) l1 (by simp; omega) _ ?_⟩
  intro I2 f2 l2
  have hlen := plT_len k i v (wr (x - 1))
  refine ⟨hK, a_three (by omega) ((hA.keep f1).keep f2) (Or.inr hk) l2 (by simp; omega) 2 ?_⟩
  intro I3 f3 l3
  rw [List.append_assoc, List.append_assoc] at l3
  exact h I3 ((f1.tr f2).tr f3) l3
/-- the kinds tell -/
theorem a_teD (hd : d < 930) (hA : AC G I a K k i v) (hL : TC I L) (hl : L.length < 10) (x : Int) (h : ∀ I1, FO 7 I I1 → TC I1 (L ++ (teA k i v x).2) → Q (teA k i v x).1 G I1) :
  ((sh G K = (9, 0) → mu_WP mu_code d 68 0 [(1, K), (1, a), (0, x), (1, 7)] [] G I Q) ∧ (¬ sh G K = (9, 0) → ((sh G K = (0, 0) → mu_WP mu_code d 2 0 [(1, K), (1, a), (0, x), (1, 7)] [] G I Q) ∧ (¬ sh G K = (0, 0) → ((sh G K = (3, 0) → mu_WP mu_code d 68 0 [(1, K), (1, a), (0, x), (1, 7)] [] G I Q) ∧ (¬ sh G K = (3, 0) → ((sh G K = (4, 0) → mu_WP mu_code d 46 0 [(1, K), (1, a), (0, x), (1, 7)] [] G I Q) ∧ (¬ sh G K = (4, 0) → ((sh G K = (6, 0) → mu_WP mu_code d 68 0 [(1, K), (1, a), (0, x), (1, 7)] [] G I Q) ∧ (¬ sh G K = (6, 0) → ((sh G K = (7, 0) → mu_WP mu_code d 68 0 [(1, K), (1, a), (0, x), (1, 7)] [] G I Q) ∧ (¬ sh G K = (7, 0) → sh G K = (8, 0) ∧ mu_WP mu_code d 2 0 [(1, K), (1, a), (0, x), (1, 7)] [] G I Q)))))))))))) := by
  have hc := kcl_of hA.2.2.1.2
  have pl : (k ≠ 3 ∧ k ≠ 4 ∧ k ≠ 6) → mu_WP mu_code d 68 0 [(1, K), (1, a), (0, x), (1, 7)] [] G I Q := by
    intro hk
    unfold teA at h
    rw [if_neg (by omega), if_neg (by omega)] at h
    exact a_plT (by omega) hA hL (by omega) x h
  refine ⟨fun h1 => pl (by have := hA.c h1; omega), fun n9 => ⟨fun h1 => a_seven (by omega) hA (by have := hA.c h1; omega) hL hl x h, fun n0 => ⟨fun h1 => pl (by have := hA.c h1; omega), fun n3 => ⟨fun h1 => a_both (by omega) hA (by have := hA.c h1; omega) hL hl x h, fun n4 => ⟨fun h1 => pl (by have := hA.c h1; omega), fun n6 => ⟨fun h1 => pl (by have := hA.c h1; omega), fun n7 => ?_⟩⟩⟩⟩⟩⟩
  have := hA.n n9
  have := hA.n n0
  have := hA.n n3
  have := hA.n n4
  have := hA.n n6
  have := hA.n n7
  exact ⟨by rw [hA.2.2.1.1, show kcl k = 8 by omega], a_seven (by omega) hA (by omega) hL hl x h⟩
end

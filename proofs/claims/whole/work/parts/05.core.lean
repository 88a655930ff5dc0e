/-! WHAT THE SMALL MACHINE'S STATE SAYS OF THE HEAP -/
abbrev mu_K : Type := Nat × (Int → Nat) × Nat × (Nat → Int32) × va_G × ClassId × ClassId × ClassId
def kB (K : mu_K) : Nat := K.1
def kx (K : mu_K) : Int → Nat := K.2.1
def kL (K : mu_K) : Nat := K.2.2.1
def kxs (K : mu_K) : Nat → Int32 := K.2.2.2.1
def kD (K : mu_K) : va_G := K.2.2.2.2.1
def kI (K : mu_K) : ClassId := K.2.2.2.2.2.1
def kZ (K : mu_K) : ClassId := K.2.2.2.2.2.2.1
def kP (K : mu_K) : ClassId := K.2.2.2.2.2.2.2
/-- the cells of the law's own -/
def kA (K : mu_K) : Nat → Prop := fun q => kB K ≤ q
def mu_ad (K : mu_K) (x : Int) : Nat := if 0 ≤ x then kB K + x.toNat else kx K x
def mu_ro (K : mu_K) (x : Int) : Option Nat := if x = -1 then none else some (mu_ad K x)
def mu_rv (K : mu_K) (x : Int) : Value := va_rf (mu_ro K x)
def mu_cv (K : mu_K) : mu_V → Value
  | (0, x) => .int (Int32.ofInt x)
  | (1, x) => mu_rv K x
  | (_, x) => .long (Int64.ofInt x)
def mu_tags (K : mu_K) : List (ClassId × FieldType) := [(kI K, .int), (kZ K, .boolean), (kP K, .object "StepOwed$Person")]
def mu_fv (K : mu_K) (G : mu_G) (I : mu_M) (a : Int) (ci k : Nat) : Value := if mc_rk ci k = true then mu_rv K (rf G a k) else .int (Int32.ofInt (I a k))
/-- what stands in the cell of number a -/
def mu_CR (K : mu_K) (G : mu_G) (I : mu_M) (H : Heap) (a : Int) : Prop :=
  (∀ ci : Nat, ci < 13 → sh G a = ((ci : Int), 0) → t_OB (mu_ad K a) ((kD K).1 ci) (mc_N ci) ((kD K).2 ci) H (fun k => mu_fv K G I a ci k)) ∧
  (∀ n : Nat, sh G a = (100, (n : Int)) → H[mu_ad K a]? = some (arrV (kI K) n (fun j => .int (Int32.ofInt (I a j))))) ∧
  (∀ n : Nat, sh G a = (101, (n : Int)) → H[mu_ad K a]? = some (arrV (kZ K) n (fun j => .int (Int32.ofInt (I a j)))) ∧ ∀ j : Nat, j < n → I a j = 0 ∨ I a j = 1) ∧
  (∀ n : Nat, sh G a = (102, (n : Int)) → H[mu_ad K a]? = some (arrV (kP K) n (fun j => mu_rv K (rf G a j))))
def mu_okS (q : Int × Int) : Prop := (0 ≤ q.1 ∧ q.1 < 13 ∧ q.2 = 0) ∨ ((q.1 = 100 ∨ q.1 = 101 ∨ q.1 = 102) ∧ 0 ≤ q.2 ∧ q.2 ≤ 1000)
def mu_ords : List Int := [0, 1, 2, 0, 2, 1, 1, 0, 2, 1, 2, 0, 2, 0, 1, 2, 1, 0]
def mu_str : Nat → List Int
  | 0 => [101, 97, 114, 110, 32]
  | 1 => [112, 107, 120, 121, 100, 111]
  | 2 => [60, 61, 62]
  | 3 => [114, 101, 115, 116, 32]
  | 4 => [99, 111, 109, 101, 32]
  | _ => []
/-- the shapes of the cells that were there before: -2 the script, -3 the orders, -10 .. -14 the texts -/
def mu_xs (K : mu_K) (a : Int) : Int × Int := if a = -2 then (100, (kL K : Int)) else if a = -3 then (100, 18) else if a ≤ -10 ∧ -14 ≤ a then (50, ((mu_str (-10 - a).toNat).length : Int)) else (-1, 0)
def mu_xi (K : mu_K) (a j : Int) : Int := if a = -2 then (kxs K j.toNat).toInt else if a = -3 then mu_ords.getD j.toNat 0 else if a ≤ -10 ∧ -14 ≤ a then (mu_str (-10 - a).toNat).getD j.toNat 0 else 0
def mu_Rel (K : mu_K) (G : mu_G) (I : mu_M) (H : Heap) : Prop :=
  0 ≤ gz G ∧ H.size = kB K + (gz G).toNat ∧ (∀ a : Int, 0 ≤ a → a < gz G → mu_okS (sh G a) ∧ mu_CR K G I H a) ∧ (∀ a : Int, (a < 0 ∨ gz G ≤ a) → sh G a = mu_xs K a) ∧ (∀ a j : Int, a < 0 → I a j = mu_xi K a j) ∧ (∀ a j : Int, -2147483648 ≤ I a j ∧ I a j ≤ 2147483647)
def mu_sref : List (String × Nat × String × Int) := [("StepOwed$Law", 74, "earn ", -10), ("StepOwed$Law", 108, "pkxydo", -11), ("StepOwed$Law", 115, "<=>", -12), ("StepOwed$Law", 94, "rest ", -13), ("StepOwed$Law", 96, "come ", -14), ("StepOwedModel", 113, "earn ", -10), ("StepOwedModel", 99, "pkxydo", -11), ("StepOwedModel", 105, "<=>", -12), ("StepOwedModel", 119, "rest ", -13), ("StepOwedModel", 121, "come ", -14)]
def mu_len5 : List Nat := [5, 6, 3, 5, 5]
def mu_byt5 : List (List Int32) := [[101, 97, 114, 110, 32], [112, 107, 120, 121, 100, 111], [60, 61, 62], [114, 101, 115, 116, 32], [99, 111, 109, 101, 32]]
def mu_walk : List (Int × List Int) := [(0, [0, 8]), (8, [8]), (7, [7, 4]), (6, [6, 3]), (4, [4]), (3, [3])]
def mu_wks : List Nat := [9, 0, 3, 4, 6, 7, 8]
def mu_cas : List (Nat × Nat) := [(8, 0), (4, 7), (3, 6)]
/-- what holds of the machine's tables and of the cells that were there before -/
def mu_E (K : mu_K) (U : State) : Prop :=
  va_K (kD K) mc_cls (mu_tags K) U ∧ kB K ≤ U.heap.size ∧ (va_X (kx K (-2)) (kL K) (kxs K) U U.heap ∧ kx K (-2) < kB K ∧ kL K ≤ 2560) ∧
  (va_Z "StepOwed" "ORDERS" "[I" (.ref (kx K (-3))) (kA K) U U.heap ∧ va_T .int (kx K (-3)) 18 (fun j => .int (Int32.ofInt (mu_ords.getD j 0))) (kA K) U U.heap) ∧
  (vk_S 5 mu_len5 mu_byt5 (fun i => kx K (-10 - (i : Int))) (fun i => kx K (-20 - (i : Int))) (kA K) U U.heap ∧ (∀ q ∈ mu_sref, vk_R q.1 q.2.1 q.2.2.1 (kx K q.2.2.2) U) ∧ va_Z "java/lang/String" "COMPACT_STRINGS" "Z" (.int 1) (kA K) U U.heap ∧ va_Zq "jdk/internal/util/Preconditions" "SIOOBE_FORMATTER" "Ljava/util/function/BiFunction;" (kA K) U U.heap) ∧
  (∀ q ∈ mu_walk, ∀ c ∈ mu_wks, (c : Int) ∉ q.2 → va_Nc (mc_R c) (mc_R q.1.toNat) U) ∧
  (va_Nw (.fieldLinkNest "StepOwed$Person" 80 "StepOwed" "ORDERS" "[I" "StepOwed") U ∧ va_AO "StepOwed$Person" U ∧ ∀ q ∈ mu_cas, va_Nw (.castable (mc_R q.1) (mc_R q.2)) U)
theorem mu_E.go {K : mu_K} {s U : State} {H : Heap} {locs : List Loc} (h : mu_E K s) (hW : s.WarmedH U.vm) (hU : U.heap = H) (hS : va_S (kA K) s.heap H locs) : mu_E K U := by
  obtain ⟨h1, h2, ⟨h3, h4, h5⟩, ⟨h6, h7⟩, ⟨h8, h9, h10, h11⟩, h12, h13, h14, h15⟩ := h
  subst hU
  have hvm := hW.alike
  have kq : ∀ a : Nat, a < s.heap.size → ¬ kA K a → U.heap[a]? = s.heap[a]? := hS.2.1
  refine ⟨va_K.moved hvm h1, Nat.le_trans h2 hS.1, ⟨va_X.moved hvm (h3.kept (kq _ (by omega) (Nat.not_le.mpr h4))), h4, h5⟩, ⟨va_Z.moved hvm (h6.kept kq), va_T.moved hvm (h7.kept kq)⟩, ⟨vk_S.moved hvm (h8.kept kq), fun q hq => vk_R.warm hW (h9 q hq), va_Z.moved hvm (h10.kept kq), va_Zq.moved hvm (h11.kept kq)⟩, fun q hq c hc hn => va_Nc.moved hvm (h12 q hq c hc hn), va_Nw.warmF hW h13, va_AO.moved hvm h14, fun q hq => va_Nw.warmC hW (h15 q hq)⟩
theorem mu_E.same {K : mu_K} {s U : State} (h : mu_E K s) (hv : U.vm = s.vm) (hh : U.heap = s.heap) : mu_E K U :=
  h.go (H := s.heap) (locs := []) (by rw [hv]; exact State.WarmedH.refl s) hh va_S.rf
-- numbers
theorem mu_i32w (x : Int) : Int32.ofInt (wr x) = Int32.ofInt x := Int32.ofInt_toInt _
theorem mu_i64w (x : Int) : Int64.ofInt (wl x) = Int64.ofInt x := Int64.ofInt_toInt _
theorem mu_t32 {x : Int} (h1 : -2147483648 ≤ x) (h2 : x ≤ 2147483647) : (Int32.ofInt x).toInt = x := wr_id h1 h2
theorem mu_t64 {x : Int} (h1 : -9223372036854775808 ≤ x) (h2 : x ≤ 9223372036854775807) : (Int64.ofInt x).toInt = x := wl_id h1 h2
theorem wl_lo (x : Int) : -9223372036854775808 ≤ wl x := Int64.le_toInt _
theorem wl_hi (x : Int) : wl x ≤ 9223372036854775807 := by
  have := Int64.toInt_lt (Int64.ofInt x)
  show (Int64.ofInt x).toInt ≤ _
  omega
theorem mu_tn {x : Int} (h1 : 0 ≤ x) (h2 : x ≤ 2147483647) : (Int32.ofInt x).toNatClampNeg = x.toNat := by
  show (Int32.ofInt x).toInt.toNat = _
  rw [mu_t32 (by omega) h2]
theorem mu_ng {x : Int} (h1 : 0 ≤ x) (h2 : x ≤ 2147483647) : ¬ Int32.ofInt x < 0 := by
  rw [Int32.lt_iff_toInt_lt, mu_t32 (by omega) h2]
  show ¬ x < 0
  omega
theorem mu_in {x : Int} {n : Nat} (h1 : 0 ≤ x) (h2 : x < n) (h3 : x ≤ 2147483647) : vp_in (Int32.ofInt x) n := by
  intro h
  rcases h with h | h
  · exact mu_ng h1 h3 h
  · rw [mu_tn h1 h3] at h
    omega
theorem mu_lt {x y : Int} (h1 : -2147483648 ≤ x) (h2 : x ≤ 2147483647) (h3 : -2147483648 ≤ y) (h4 : y ≤ 2147483647) : Int32.ofInt x < Int32.ofInt y ↔ x < y := by
  rw [Int32.lt_iff_toInt_lt, mu_t32 h1 h2, mu_t32 h3 h4]
theorem mu_le {x y : Int} (h1 : -2147483648 ≤ x) (h2 : x ≤ 2147483647) (h3 : -2147483648 ≤ y) (h4 : y ≤ 2147483647) : Int32.ofInt x ≤ Int32.ofInt y ↔ x ≤ y := by
  rw [Int32.le_iff_toInt_le, mu_t32 h1 h2, mu_t32 h3 h4]
theorem mu_eq {x y : Int} (h1 : -2147483648 ≤ x) (h2 : x ≤ 2147483647) (h3 : -2147483648 ≤ y) (h4 : y ≤ 2147483647) : Int32.ofInt x = Int32.ofInt y ↔ x = y := by
  rw [← Int32.toInt_inj, mu_t32 h1 h2, mu_t32 h3 h4]
theorem mu_eq64 {x y : Int} (h1 : -9223372036854775808 ≤ x) (h2 : x ≤ 9223372036854775807) (h3 : -9223372036854775808 ≤ y) (h4 : y ≤ 9223372036854775807) : Int64.ofInt x = Int64.ofInt y ↔ x = y := by
  rw [← Int64.toInt_inj, mu_t64 h1 h2, mu_t64 h3 h4]
theorem mu_lt64 {x y : Int} (h1 : -9223372036854775808 ≤ x) (h2 : x ≤ 9223372036854775807) (h3 : -9223372036854775808 ≤ y) (h4 : y ≤ 9223372036854775807) : Int64.ofInt x < Int64.ofInt y ↔ x < y := by
  rw [Int64.lt_iff_toInt_lt, mu_t64 h1 h2, mu_t64 h3 h4]
def mu_okv : mu_V → Prop
  | (0, x) => -2147483648 ≤ x ∧ x ≤ 2147483647
  | (1, _) => True
  | (2, x) => -9223372036854775808 ≤ x ∧ x ≤ 9223372036854775807
  | (3, _) => True
  | _ => False
theorem mu_ok4 {t : Nat} {x : Int} (h : mu_okv (t, x)) : t < 4 := by
  match t, h with
  | 0, _ => decide
  | 1, _ => decide
  | 2, _ => decide
  | 3, _ => decide
  | n + 4, h => exact h.elim
-- locals
def mu_lv (K : mu_K) : Nat → List mu_V → List (Nat × Value)
  | _, [] => []
  | i, (3, _) :: r => mu_lv K (i + 1) r
  | i, v :: r => (i, mu_cv K v) :: mu_lv K (i + 1) r
theorem mu_lv_mem {K : mu_K} {q : Nat × Value} : ∀ {L : List mu_V} {i : Nat}, q ∈ mu_lv K i L ↔ ∃ (k : Nat) (t : Nat) (x : Int), L[k]? = some (t, x) ∧ t ≠ 3 ∧ q = (i + k, mu_cv K (t, x))
  | [], i => by simp [mu_lv]
  | (t, x) :: r, i => by
    have ih := @mu_lv_mem K q r (i + 1)
    have h2 : q ∈ mu_lv K i ((t, x) :: r) ↔ (t ≠ 3 ∧ q = (i, mu_cv K (t, x))) ∨ q ∈ mu_lv K (i + 1) r := by
      by_cases ht : t = 3
      · subst ht
        rw [show mu_lv K i ((3, x) :: r) = mu_lv K (i + 1) r from rfl]
        simp
      · have e : mu_lv K i ((t, x) :: r) = (i, mu_cv K (t, x)) :: mu_lv K (i + 1) r := by
          rw [mu_lv]
          intro y hy
          cases hy
          exact ht rfl
        rw [e]
        simp [ht]
    rw [h2, ih]
    constructor
    · rintro (⟨h1, h2⟩ | ⟨k, t1, x1, h1, h2, h3⟩)
      · exact ⟨0, t, x, rfl, h1, h2⟩
      · exact ⟨k + 1, t1, x1, h1, h2, by rw [h3]; congr 1; omega⟩
    · rintro ⟨k, t1, x1, h1, h2, h3⟩
      cases k with
      | zero => cases h1; exact Or.inl ⟨h2, h3⟩
      | succ k => exact Or.inr ⟨k, t1, x1, h1, h2, by rw [h3]; congr 1; omega⟩
theorem mu_lg_at : ∀ {L : List mu_V} {k t : Nat} {x : Int}, mu_lg L k = (t, x) → t ≠ 3 → L[k]? = some (t, x)
  | [], _, _, _, h, ht => by cases h; exact absurd rfl ht
  | v :: _, 0, _, _, h, _ => by rw [← h]; rfl
  | _ :: r, k + 1, _, _, h, ht => mu_lg_at (L := r) (k := k) h ht
theorem mu_ls_at : ∀ {L : List mu_V} {k j : Nat} {x v : mu_V}, (mu_ls L k x)[j]? = some v → (j = k ∧ v = x) ∨ (j ≠ k ∧ L[j]? = some v)
  | [], _, _, _, _, h => by cases h
  | _ :: r, 0, 0, _, _, h => by cases h; exact Or.inl ⟨rfl, rfl⟩
  | _ :: r, 0, j + 1, _, _, h => Or.inr ⟨by omega, h⟩
  | v :: r, k + 1, 0, _, _, h => Or.inr ⟨by omega, h⟩
  | _ :: r, k + 1, j + 1, _, _, h => by
    rcases mu_ls_at (L := r) (k := k) (j := j) h with ⟨h1, h2⟩ | ⟨h1, h2⟩
    · exact Or.inl ⟨by omega, h2⟩
    · exact Or.inr ⟨by omega, h2⟩
theorem mu_ld {K : mu_K} {ls : Array Slot} {n k t : Nat} {L : List mu_V} {x : Int} (hl : lv_has ls n (mu_lv K 0 L)) (h : mu_lg L k = (t, x)) (ht : t ≠ 3) : ls[k]? = some (.val (mu_cv K (t, x))) := by
  have := hl.2.2 (k, mu_cv K (t, x)) (mu_lv_mem.mpr ⟨k, t, x, mu_lg_at h ht, ht, by simp⟩)
  exact this
theorem lv_less {ls : Array Slot} {n : Nat} {l l' : List (Nat × Value)} (h : lv_has ls n l) (hs : ∀ q ∈ l', q ∈ l) : lv_has ls n l' := ⟨h.1, h.2.1, fun q hq => h.2.2 q (hs q hq)⟩
theorem mu_cat {K : mu_K} {t : Nat} {x : Int} (h : t ≠ 2) (h3 : t ≠ 3) (h4 : t < 4) : (mu_cv K (t, x)).category = 1 := by
  rcases (show t = 0 ∨ t = 1 by omega) with rfl | rfl
  · rfl
  · show (va_rf _).category = 1
    cases mu_ro K x <;> rfl

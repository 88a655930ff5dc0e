/-! BITS -/
theorem mn_bv {n : Nat} (h : n < 2147483648) : (Int32.ofInt (n : Int)).toBitVec.toNat = n := by
  rw [Int32.toBitVec_ofInt, BitVec.ofInt_natCast, BitVec.toNat_ofNat]
  omega
theorem mn_out {x : Int32} {m : Nat} (h : x.toBitVec.toNat = m) (hm : m < 2147483648) : x.toInt = (m : Int) := by
  have : x.toBitVec.toInt = (x.toBitVec.toNat : Int) := BitVec.toInt_eq_toNat_of_lt (by rw [h]; omega)
  rw [h] at this
  exact this
theorem mn_and {a b : Nat} (ha : a < 2147483648) (hb : b < 2147483648) : mu_and (a : Int) (b : Int) = ((a &&& b : Nat) : Int) := by
  unfold mu_and
  refine mn_out ?_ (Nat.lt_of_le_of_lt Nat.and_le_left ha)
  rw [Int32.toBitVec_and, BitVec.toNat_and, mn_bv ha, mn_bv hb]
theorem mn_or {a b : Nat} (ha : a < 2147483648) (hb : b < 2147483648) : mu_or (a : Int) (b : Int) = ((a ||| b : Nat) : Int) := by
  unfold mu_or
  refine mn_out ?_ (Nat.or_lt_two_pow (n := 31) ha hb)
  rw [Int32.toBitVec_or, BitVec.toNat_or, mn_bv ha, mn_bv hb]
theorem mn_xor {a b : Nat} (ha : a < 2147483648) (hb : b < 2147483648) : mu_xor (a : Int) (b : Int) = ((a ^^^ b : Nat) : Int) := by
  unfold mu_xor
  refine mn_out ?_ (Nat.xor_lt_two_pow (n := 31) ha hb)
  rw [Int32.toBitVec_xor, BitVec.toNat_xor, mn_bv ha, mn_bv hb]
theorem mn_shl {a k : Nat} (hk : k < 31) (ha : a * 2 ^ k < 2147483648) : mu_shl (a : Int) (k : Int) = ((a * 2 ^ k : Nat) : Int) := by
  unfold mu_shl
  have h2 : 0 < 2 ^ k := Nat.two_pow_pos k
  have ha2 : a < 2147483648 := Nat.lt_of_le_of_lt (Nat.le_mul_of_pos_right a h2) ha
  refine mn_out ?_ ha
  have hs : ((Int32.ofInt (k : Int) &&& 31).toBitVec.smod 32).toNat = k := by
    have : ∀ j : Fin 31, ((Int32.ofInt ((j.val : Nat) : Int) &&& 31).toBitVec.smod 32).toNat = j.val := by decide +kernel
    exact this ⟨k, hk⟩
  have e : (Int32.ofInt (a : Int) <<< (Int32.ofInt (k : Int) &&& 31)).toBitVec = (Int32.ofInt (a : Int)).toBitVec <<< ((Int32.ofInt (k : Int) &&& 31).toBitVec.smod 32).toNat := rfl
  rw [e, hs, BitVec.toNat_shiftLeft, mn_bv ha2, Nat.shiftLeft_eq]
  omega
theorem mn_shr {a k : Nat} (hk : k < 31) (ha : a < 2147483648) : mu_shr (a : Int) (k : Int) = ((a / 2 ^ k : Nat) : Int) := by
  unfold mu_shr
  refine mn_out ?_ (Nat.lt_of_le_of_lt (Nat.div_le_self _ _) ha)
  have hs : ((Int32.ofInt (k : Int) &&& 31).toBitVec.smod 32).toNat = k := by
    have : ∀ j : Fin 31, ((Int32.ofInt ((j.val : Nat) : Int) &&& 31).toBitVec.smod 32).toNat = j.val := by decide +kernel
    exact this ⟨k, hk⟩
  have e : (Int32.ofInt (a : Int) >>> (Int32.ofInt (k : Int) &&& 31)).toBitVec = BitVec.sshiftRight (Int32.ofInt (a : Int)).toBitVec ((Int32.ofInt (k : Int) &&& 31).toBitVec.smod 32).toNat := rfl
  have hm : (Int32.ofInt (a : Int)).toBitVec.msb = false := by
    rw [BitVec.msb_eq_false_iff_two_mul_lt, mn_bv ha]
    omega
  rw [e, hs, BitVec.toNat_sshiftRight_of_msb_false hm, mn_bv ha, Nat.shiftRight_eq_div_pow]
/-- the bits of a stack of truths, the top lowest -/
def bst : List Bool → Nat
  | [] => 0
  | b :: st => 2 * bst st + (if b = true then 1 else 0)
theorem bst_lt : ∀ st : List Bool, bst st < 2 ^ st.length
  | [] => by simp [bst]
  | b :: st => by
    have := bst_lt st
    simp only [bst, List.length_cons, Nat.pow_succ]
    split <;> omega
theorem bst_lt30 {st : List Bool} (h : st.length ≤ 30) : bst st < 1073741824 + 1 := by
  have h1 := bst_lt st
  have h2 : 2 ^ st.length ≤ 2 ^ 30 := Nat.pow_le_pow_right (by omega) h
  omega
theorem b_top {b : Bool} {st : List Bool} (h : (b :: st).length ≤ 30) : mu_and (bst (b :: st) : Int) 1 = bi b := by
  have h1 := bst_lt30 h
  have := mn_and (a := bst (b :: st)) (b := 1) (by omega) (by omega)
  rw [show ((1 : Nat) : Int) = 1 from rfl] at this
  rw [this, Nat.and_one_is_mod]
  cases b <;> simp [bst, bi] <;> omega
theorem b_push {b : Bool} {st : List Bool} (h : st.length < 30) : mu_or (mu_shl (bst st : Int) 1) (bi b) = (bst (b :: st) : Int) := by
  have h1 := bst_lt st
  have h2 : 2 ^ st.length ≤ 2 ^ 29 := Nat.pow_le_pow_right (by omega) (by omega)
  have e1 := mn_shl (a := bst st) (k := 1) (by omega) (by omega)
  rw [show ((1 : Nat) : Int) = 1 from rfl] at e1
  rw [e1]
  have e2 : bi b = (((if b = true then 1 else 0 : Nat)) : Int) := by cases b <;> rfl
  rw [e2, mn_or (by omega) (by split <;> omega)]
  have e3 : bst st * 2 ^ 1 ||| (if b = true then 1 else 0) = bst (b :: st) := by
    have := Nat.shiftLeft_add_eq_or_of_lt (i := 1) (b := if b = true then 1 else 0) (by split <;> omega) (bst st)
    rw [Nat.shiftLeft_eq] at this
    rw [← this]
    simp only [bst]
    omega
  rw [e3]
theorem nat_xor1 (a : Nat) (b : Bool) : (2 * a + (if b = true then 1 else 0)) ^^^ 1 = 2 * a + (if b = true then 0 else 1) := by
  have h1 : ∀ c : Nat, c < 2 → 2 * a + c = 2 * a ||| c := by
    intro c hc
    have := Nat.shiftLeft_add_eq_or_of_lt (i := 1) (b := c) (by omega) a
    rw [Nat.shiftLeft_eq] at this
    rw [← show a * 2 ^ 1 = 2 * a by omega]
    exact this
  apply Nat.eq_of_testBit_eq
  intro i
  rw [Nat.testBit_xor]
  cases i with
  | zero =>
    simp only [Nat.testBit_zero]
    cases b <;> simp <;> omega
  | succ i =>
    rw [Nat.testBit_succ, Nat.testBit_succ, Nat.testBit_succ]
    have e1 : (2 * a + (if b = true then 1 else 0)) / 2 = a := by split <;> omega
    have e2 : (2 * a + (if b = true then 0 else 1)) / 2 = a := by split <;> omega
    rw [e1, e2]
    simp
theorem b_not {b : Bool} {st : List Bool} (h : (b :: st).length ≤ 30) : mu_xor (bst (b :: st) : Int) 1 = (bst ((!b) :: st) : Int) := by
  have h1 := bst_lt30 h
  have := mn_xor (a := bst (b :: st)) (b := 1) (by omega) (by omega)
  rw [show ((1 : Nat) : Int) = 1 from rfl] at this
  rw [this]
  simp only [bst]
  rw [nat_xor1]
  cases b <;> simp
theorem b_shr {b : Bool} {st : List Bool} (h : (b :: st).length ≤ 30) : mu_shr (bst (b :: st) : Int) 1 = (bst st : Int) := by
  have h1 := bst_lt30 h
  have := mn_shr (a := bst (b :: st)) (k := 1) (by omega) (by omega)
  rw [show ((1 : Nat) : Int) = 1 from rfl] at this
  rw [this]
  have : bst (b :: st) / 2 ^ 1 = bst st := by
    simp only [bst]
    split <;> omega
  rw [this]
theorem mu_and_m1 {x : Int} (h : -2147483648 ≤ x ∧ x ≤ 2147483647) : mu_and x (-1) = x := by
  unfold mu_and
  rw [show Int32.ofInt (-1) = -1 from rfl, Int32.and_neg_one]
  exact wr_id h.1 h.2
theorem nat_low0 (a : Nat) : 2 * a + 1 - 1 = 2 * a := by omega
theorem b_and {a b : Bool} {st : List Bool} (h : (b :: a :: st).length ≤ 30) : mu_and (mu_shr (bst (b :: a :: st) : Int) 1) (mu_or (-2) (mu_and (bst (b :: a :: st) : Int) 1)) = (bst ((a && b) :: st) : Int) := by
  have h1 : (a :: st).length ≤ 30 := by simp at h ⊢; omega
  have h2 := bst_lt30 h1
  rw [b_shr h, b_top h]
  cases b with
  | true =>
    rw [show mu_or (-2) (bi true) = -1 by decide, mu_and_m1 (by omega), Bool.and_true]
  | false =>
    rw [show mu_or (-2) (bi false) = -2 by decide, Bool.and_false]
    have e1 : mu_and (bst (a :: st) : Int) (-2) = mu_and (mu_xor (mu_or (bst (a :: st) : Int) 1) 1) (-1) := by
      unfold mu_and mu_xor mu_or
      simp only [Int32.ofInt_toInt]
      have key : ∀ x : Int32, x &&& Int32.ofInt (-2) = ((x ||| Int32.ofInt 1) ^^^ Int32.ofInt 1) &&& Int32.ofInt (-1) := by
        intro x
        apply Int32.toBitVec_inj.1
        simp only [Int32.toBitVec_and, Int32.toBitVec_or, Int32.toBitVec_xor]
        apply BitVec.eq_of_getLsbD_eq
        intro i hi
        have hc : ∀ j : Fin 32, (Int32.ofInt (-2)).toBitVec.getLsbD j.val = !(Int32.ofInt 1).toBitVec.getLsbD j.val := by decide +kernel
        have hd : ∀ j : Fin 32, (Int32.ofInt (-1)).toBitVec.getLsbD j.val = true := by decide +kernel
        have hc := hc ⟨i, hi⟩
        have hd := hd ⟨i, hi⟩
        simp only at hc hd
        rw [BitVec.getLsbD_and, BitVec.getLsbD_and, BitVec.getLsbD_xor, BitVec.getLsbD_or, hc, hd]
        cases x.toBitVec.getLsbD i <;> cases (Int32.ofInt 1).toBitVec.getLsbD i <;> rfl
      rw [key]
    rw [e1]
    have e2 := mn_or (a := bst (a :: st)) (b := 1) (by omega) (by omega)
    rw [show ((1 : Nat) : Int) = 1 from rfl] at e2
    have e3 : bst (a :: st) ||| 1 = bst (true :: st) := by
      have k1 : bst (true :: st) = 2 * bst st ||| 1 := by
        have := Nat.shiftLeft_add_eq_or_of_lt (i := 1) (b := 1) (by omega) (bst st)
        rw [Nat.shiftLeft_eq, show bst st * 2 ^ 1 = 2 * bst st by omega] at this
        rw [← this]
        simp [bst]
      rw [k1]
      cases a with
      | true => rw [k1, Nat.or_assoc, Nat.or_self]
      | false => simp [bst]
    have h3 : (true :: st).length ≤ 30 := by simpa using h1
    have h4 : ((!true) :: st).length ≤ 30 := by simpa using h1
    have h5 := bst_lt30 h4
    rw [e2, e3, b_not h3, mu_and_m1 (by omega)]
    rfl
theorem b_or {a b : Bool} {st : List Bool} (h : (b :: a :: st).length ≤ 30) : mu_or (mu_shr (bst (b :: a :: st) : Int) 1) (mu_and (bst (b :: a :: st) : Int) 1) = (bst ((a || b) :: st) : Int) := by
  have h1 : (a :: st).length ≤ 30 := by simp at h ⊢; omega
  have h2 := bst_lt30 h1
  rw [b_shr h, b_top h]
  cases b with
  | false =>
    rw [Bool.or_false]
    exact mu_or0 (by omega) (by omega)
  | true =>
    rw [Bool.or_true]
    have e2 := mn_or (a := bst (a :: st)) (b := 1) (by omega) (by omega)
    rw [show ((1 : Nat) : Int) = 1 from rfl] at e2
    have e3 : bst (a :: st) ||| 1 = bst (true :: st) := by
      have k1 : bst (true :: st) = 2 * bst st ||| 1 := by
        have := Nat.shiftLeft_add_eq_or_of_lt (i := 1) (b := 1) (by omega) (bst st)
        rw [Nat.shiftLeft_eq, show bst st * 2 ^ 1 = 2 * bst st by omega] at this
        rw [← this]
        simp [bst]
      rw [k1]
      cases a with
      | true => rw [k1, Nat.or_assoc, Nat.or_self]
      | false => simp [bst]
    rw [show bi true = 1 from rfl, e2, e3]

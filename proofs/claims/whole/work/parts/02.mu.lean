/-! THE SMALL MACHINE: values are pairs (kind, number): 0 an int, 1 a reference (-1 null, from 0 on a cell made by the law, below -1 a cell that was there before), 2 a long, 3 nothing. -/
abbrev mu_V : Type := Nat × Int
/-- next cell, slots made, the cells' shapes, the references that cells hold -/
abbrev mu_G : Type := Int × Int × (Int → Int × Int) × (Int → Int → Int)
/-- the ints that cells hold -/
abbrev mu_M : Type := Int → Int → Int
abbrev mu_Fr : Type := Nat × List mu_V × List mu_V
abbrev mu_Al : Type := List (Prop × Nat × Nat)
/-- a step: on | on if | by cases | back | a static call | a call by the receiver's class | back from a boolean method -/
abbrev mu_SR : Type := (mu_Fr × mu_G × mu_M) ⊕ (Prop × mu_Fr × mu_G × mu_M) ⊕ (List (Prop × Nat) × Nat × List mu_V × List mu_V) ⊕ Int ⊕ ((Nat × Nat) × List mu_V × Nat × mu_Fr) ⊕ (mu_Al × List mu_V × Nat × mu_Fr) ⊕ Int
abbrev mu_Sem : Type := List mu_V → List mu_V → mu_G → mu_M → Option mu_SR
abbrev mu_R : Type := Int × mu_G × mu_M
def mu_nx (pc : Nat) (L st : List mu_V) (G : mu_G) (I : mu_M) : Option mu_SR := some (.inl ((pc, L, st), G, I))
def mu_gd (c : Prop) (pc : Nat) (L st : List mu_V) (G : mu_G) (I : mu_M) : Option mu_SR := some (.inr (.inl (c, (pc, L, st), G, I)))
def mu_ms (cs : List (Prop × Nat)) (df : Nat) (L st : List mu_V) : Option mu_SR := some (.inr (.inr (.inl (cs, df, L, st))))
def mu_rt (x : Int) : Option mu_SR := some (.inr (.inr (.inr (.inl x))))
def mu_cl (y mx : Nat) (as : List mu_V) (rty pc : Nat) (L st : List mu_V) : Option mu_SR := some (.inr (.inr (.inr (.inr (.inl ((y, mx), as, rty, (pc, L, st)))))))
def mu_vc (al : mu_Al) (as : List mu_V) (rty pc : Nat) (L st : List mu_V) : Option mu_SR := some (.inr (.inr (.inr (.inr (.inr (.inl (al, as, rty, (pc, L, st))))))))
def mu_rz (x : Int) : Option mu_SR := some (.inr (.inr (.inr (.inr (.inr (.inr x))))))
-- the geometry
def gz (G : mu_G) : Int := G.1
def gu (G : mu_G) : Int := G.2.1
def sh (G : mu_G) (a : Int) : Int × Int := G.2.2.1 a
def rf (G : mu_G) (a k : Int) : Int := G.2.2.2 a k
def mu_set (I : mu_M) (a k v : Int) : mu_M := fun b j => if b = a ∧ j = k then v else I b j
def mu_grf (G : mu_G) (a k v : Int) : mu_G := (G.1, G.2.1, G.2.2.1, mu_set G.2.2.2 a k v)
/-- a new cell of a shape, with so many slots -/
def mu_gnew (G : mu_G) (c n : Int) (w : Int) : mu_G := (G.1 + 1, G.2.1 + w, (fun b => if b = G.1 then (c, n) else G.2.2.1 b), (fun b j => if b = G.1 then -1 else G.2.2.2 b j))
def mu_inew (G : mu_G) (I : mu_M) : mu_M := fun b j => if b = G.1 then 0 else I b j
theorem gz_grf (G : mu_G) (a k v : Int) : gz (mu_grf G a k v) = gz G := rfl
theorem gu_grf (G : mu_G) (a k v : Int) : gu (mu_grf G a k v) = gu G := rfl
theorem sh_grf (G : mu_G) (a k v b : Int) : sh (mu_grf G a k v) b = sh G b := rfl
theorem rf_grf (G : mu_G) (a k v b j : Int) : rf (mu_grf G a k v) b j = if b = a ∧ j = k then v else rf G b j := rfl
theorem gz_gnew (G : mu_G) (c n w : Int) : gz (mu_gnew G c n w) = gz G + 1 := rfl
theorem gu_gnew (G : mu_G) (c n w : Int) : gu (mu_gnew G c n w) = gu G + w := rfl
theorem sh_gnew (G : mu_G) (c n w b : Int) : sh (mu_gnew G c n w) b = if b = gz G then (c, n) else sh G b := rfl
theorem rf_gnew (G : mu_G) (c n w b j : Int) : rf (mu_gnew G c n w) b j = if b = gz G then -1 else rf G b j := rfl
theorem mu_set_at (I : mu_M) (a k v b j : Int) : mu_set I a k v b j = if b = a ∧ j = k then v else I b j := rfl
theorem mu_inew_at (G : mu_G) (I : mu_M) (b j : Int) : mu_inew G I b j = if b = gz G then 0 else I b j := rfl
-- numbers as the machine has them
def wr (x : Int) : Int := (Int32.ofInt x).toInt
def wl (x : Int) : Int := (Int64.ofInt x).toInt
theorem wr_id {x : Int} (h1 : -2147483648 ≤ x) (h2 : x ≤ 2147483647) : wr x = x := Int32.toInt_ofInt_of_le (by omega) (by omega)
theorem wl_id {x : Int} (h1 : -9223372036854775808 ≤ x) (h2 : x ≤ 9223372036854775807) : wl x = x := Int64.toInt_ofInt_of_le (by omega) (by omega)
theorem wr_lo (x : Int) : -2147483648 ≤ wr x := Int32.le_toInt _
theorem wr_hi (x : Int) : wr x ≤ 2147483647 := by
  have := Int32.toInt_lt (Int32.ofInt x)
  show (Int32.ofInt x).toInt ≤ _
  omega
def mu_and (x y : Int) : Int := (Int32.ofInt x &&& Int32.ofInt y).toInt
def mu_or (x y : Int) : Int := (Int32.ofInt x ||| Int32.ofInt y).toInt
def mu_xor (x y : Int) : Int := (Int32.ofInt x ^^^ Int32.ofInt y).toInt
def mu_shl (x y : Int) : Int := (Int32.ofInt x <<< (Int32.ofInt y &&& 31)).toInt
def mu_shr (x y : Int) : Int := (Int32.ofInt x >>> (Int32.ofInt y &&& 31)).toInt
def mu_i2c (x : Int) : Int := (((Int32.ofInt x).toUInt32 % 65536).toInt32).toInt
def mu_i2b (x : Int) : Int := ((Int32.ofInt x).toInt8.toInt32).toInt
-- locals and stack
def mu_lg : List mu_V → Nat → mu_V
  | [], _ => (3, 0)
  | v :: _, 0 => v
  | _ :: r, k + 1 => mu_lg r k
def mu_ls : List mu_V → Nat → mu_V → List mu_V
  | [], _, _ => []
  | _ :: r, 0, x => x :: r
  | v :: r, k + 1, x => v :: mu_ls r k x
def mu_rev : List mu_V → List mu_V → List mu_V
  | [], b => b
  | v :: a, b => mu_rev a (v :: b)
/-- so many from the stack's top, the lowest first, and the rest -/
def mu_pop : Nat → List mu_V → List mu_V → Option (List mu_V × List mu_V)
  | 0, acc, st => some (acc, st)
  | n + 1, acc, v :: st => mu_pop n (v :: acc) st
  | _ + 1, _, [] => none
def mu_wide : List mu_V → List mu_V
  | [] => []
  | (2, x) :: r => (2, x) :: (3, 0) :: mu_wide r
  | v :: r => v :: mu_wide r
def mu_pad : Nat → List mu_V → List mu_V
  | 0, _ => []
  | n + 1, [] => (3, 0) :: mu_pad n []
  | n + 1, v :: r => v :: mu_pad n r
def mu_psh (rty : Nat) (v : Int) (st : List mu_V) : List mu_V := match rty with
  | 9 => st
  | t => (t, v) :: st
def mu_len : List mu_V → Nat
  | [] => 0
  | _ :: r => mu_len r + 1
-- the instructions (nx: where the next one stands)
def s_push (n : Int) (nx : Nat) : mu_Sem := fun L st G I => mu_nx nx L ((0, n) :: st) G I
def s_lpush (n : Int) (nx : Nat) : mu_Sem := fun L st G I => mu_nx nx L ((2, n) :: st) G I
def s_null (nx : Nat) : mu_Sem := fun L st G I => mu_nx nx L ((1, -1) :: st) G I
/-- a reference to a cell that was there before (a String, a static array) -/
def s_ext (a : Int) (nx : Nat) : mu_Sem := fun L st G I => mu_nx nx L ((1, a) :: st) G I
def s_iload (k nx : Nat) : mu_Sem := fun L st G I => match mu_lg L k with
  | (0, x) => mu_nx nx L ((0, x) :: st) G I
  | _ => none
def s_aload (k nx : Nat) : mu_Sem := fun L st G I => match mu_lg L k with
  | (1, x) => mu_nx nx L ((1, x) :: st) G I
  | _ => none
def s_lload (k nx : Nat) : mu_Sem := fun L st G I => match mu_lg L k with
  | (2, x) => mu_nx nx L ((2, x) :: st) G I
  | _ => none
def s_istore (k nx : Nat) : mu_Sem := fun L st G I => match st with
  | (0, x) :: st => mu_nx nx (mu_ls L k (0, x)) st G I
  | _ => none
def s_astore (k nx : Nat) : mu_Sem := fun L st G I => match st with
  | (1, x) :: st => mu_nx nx (mu_ls L k (1, x)) st G I
  | _ => none
/-- in a method that has longs among its locals: the place below is no long -/
def s_istoreX (k nx : Nat) : mu_Sem := fun L st G I => match st with
  | (0, x) :: st => match mu_lg L (k - 1) with
    | (0, _) => mu_nx nx (mu_ls L k (0, x)) st G I
    | (3, _) => mu_nx nx (mu_ls L k (0, x)) st G I
    | _ => none
  | _ => none
def s_lstore (k nx : Nat) : mu_Sem := fun L st G I => match st with
  | (2, x) :: st => match mu_lg L (k - 1) with
    | (0, _) => mu_nx nx (mu_ls (mu_ls L k (2, x)) (k + 1) (3, 0)) st G I
    | (3, _) => mu_nx nx (mu_ls (mu_ls L k (2, x)) (k + 1) (3, 0)) st G I
    | _ => none
  | _ => none
def s_iinc (k : Nat) (n : Int) (nx : Nat) : mu_Sem := fun L st G I => match mu_lg L k with
  | (0, x) => mu_nx nx (mu_ls L k (0, wr (x + n))) st G I
  | _ => none
def s_iadd (nx : Nat) : mu_Sem := fun L st G I => match st with
  | (0, y) :: (0, x) :: st => mu_nx nx L ((0, wr (x + y)) :: st) G I
  | _ => none
def s_isub (nx : Nat) : mu_Sem := fun L st G I => match st with
  | (0, y) :: (0, x) :: st => mu_nx nx L ((0, wr (x - y)) :: st) G I
  | _ => none
def s_imul (nx : Nat) : mu_Sem := fun L st G I => match st with
  | (0, y) :: (0, x) :: st => mu_nx nx L ((0, wr (x * y)) :: st) G I
  | _ => none
def s_iand (nx : Nat) : mu_Sem := fun L st G I => match st with
  | (0, y) :: (0, x) :: st => mu_nx nx L ((0, mu_and x y) :: st) G I
  | _ => none
def s_ior (nx : Nat) : mu_Sem := fun L st G I => match st with
  | (0, y) :: (0, x) :: st => mu_nx nx L ((0, mu_or x y) :: st) G I
  | _ => none
def s_ixor (nx : Nat) : mu_Sem := fun L st G I => match st with
  | (0, y) :: (0, x) :: st => mu_nx nx L ((0, mu_xor x y) :: st) G I
  | _ => none
def s_ishl (nx : Nat) : mu_Sem := fun L st G I => match st with
  | (0, y) :: (0, x) :: st => mu_nx nx L ((0, mu_shl x y) :: st) G I
  | _ => none
def s_ishr (nx : Nat) : mu_Sem := fun L st G I => match st with
  | (0, y) :: (0, x) :: st => mu_nx nx L ((0, mu_shr x y) :: st) G I
  | _ => none
def s_ineg (nx : Nat) : mu_Sem := fun L st G I => match st with
  | (0, x) :: st => mu_nx nx L ((0, wr (-x)) :: st) G I
  | _ => none
def s_idiv (nx : Nat) : mu_Sem := fun L st G I => match st with
  | (0, y) :: (0, x) :: st => mu_gd (y ≠ 0) nx L ((0, wr (x.tdiv y)) :: st) G I
  | _ => none
def s_irem (nx : Nat) : mu_Sem := fun L st G I => match st with
  | (0, y) :: (0, x) :: st => mu_gd (y ≠ 0) nx L ((0, x.tmod y) :: st) G I
  | _ => none
def s_i2l (nx : Nat) : mu_Sem := fun L st G I => match st with
  | (0, x) :: st => mu_nx nx L ((2, x) :: st) G I
  | _ => none
def s_i2c (nx : Nat) : mu_Sem := fun L st G I => match st with
  | (0, x) :: st => mu_nx nx L ((0, mu_i2c x) :: st) G I
  | _ => none
def s_i2b (nx : Nat) : mu_Sem := fun L st G I => match st with
  | (0, x) :: st => mu_nx nx L ((0, mu_i2b x) :: st) G I
  | _ => none
def s_ladd (nx : Nat) : mu_Sem := fun L st G I => match st with
  | (2, y) :: (2, x) :: st => mu_nx nx L ((2, wl (x + y)) :: st) G I
  | _ => none
def s_ldiv (nx : Nat) : mu_Sem := fun L st G I => match st with
  | (2, y) :: (2, x) :: st => mu_gd (y ≠ 0) nx L ((2, wl (x.tdiv y)) :: st) G I
  | _ => none
def s_lrem (nx : Nat) : mu_Sem := fun L st G I => match st with
  | (2, y) :: (2, x) :: st => mu_gd (y ≠ 0) nx L ((2, x.tmod y) :: st) G I
  | _ => none
def mu_cmp (x y : Int) : Int := if y < x then 1 else if x = y then 0 else -1
def s_lcmp (nx : Nat) : mu_Sem := fun L st G I => match st with
  | (2, y) :: (2, x) :: st => mu_nx nx L ((0, mu_cmp x y) :: st) G I
  | _ => none
def s_dup (nx : Nat) : mu_Sem := fun L st G I => match st with
  | (0, x) :: st => mu_nx nx L ((0, x) :: (0, x) :: st) G I
  | (1, x) :: st => mu_nx nx L ((1, x) :: (1, x) :: st) G I
  | _ => none
/-- of an array and a place -/
def s_dup2 (nx : Nat) : mu_Sem := fun L st G I => match st with
  | (0, x) :: (1, a) :: st => mu_nx nx L ((0, x) :: (1, a) :: (0, x) :: (1, a) :: st) G I
  | _ => none
def s_pop (nx : Nat) : mu_Sem := fun L st G I => match st with
  | (0, _) :: st => mu_nx nx L st G I
  | (1, _) :: st => mu_nx nx L st G I
  | _ => none
def s_goto (t : Nat) : mu_Sem := fun L st G I => mu_nx t L st G I
def s_ifeq (t nx : Nat) : mu_Sem := fun L st _ _ => match st with
  | (0, x) :: st => mu_ms [(x = 0, t)] nx L st
  | _ => none
def s_ifne (t nx : Nat) : mu_Sem := fun L st _ _ => match st with
  | (0, x) :: st => mu_ms [(x = 0, nx)] t L st
  | _ => none
def s_iflt (t nx : Nat) : mu_Sem := fun L st _ _ => match st with
  | (0, x) :: st => mu_ms [(x < 0, t)] nx L st
  | _ => none
def s_ifge (t nx : Nat) : mu_Sem := fun L st _ _ => match st with
  | (0, x) :: st => mu_ms [(x < 0, nx)] t L st
  | _ => none
def s_ifgt (t nx : Nat) : mu_Sem := fun L st _ _ => match st with
  | (0, x) :: st => mu_ms [(0 < x, t)] nx L st
  | _ => none
def s_ifle (t nx : Nat) : mu_Sem := fun L st _ _ => match st with
  | (0, x) :: st => mu_ms [(0 < x, nx)] t L st
  | _ => none
def s_icmpeq (t nx : Nat) : mu_Sem := fun L st _ _ => match st with
  | (0, y) :: (0, x) :: st => mu_ms [(x = y, t)] nx L st
  | _ => none
def s_icmpne (t nx : Nat) : mu_Sem := fun L st _ _ => match st with
  | (0, y) :: (0, x) :: st => mu_ms [(x = y, nx)] t L st
  | _ => none
def s_icmplt (t nx : Nat) : mu_Sem := fun L st _ _ => match st with
  | (0, y) :: (0, x) :: st => mu_ms [(x < y, t)] nx L st
  | _ => none
def s_icmpge (t nx : Nat) : mu_Sem := fun L st _ _ => match st with
  | (0, y) :: (0, x) :: st => mu_ms [(x < y, nx)] t L st
  | _ => none
def s_icmpgt (t nx : Nat) : mu_Sem := fun L st _ _ => match st with
  | (0, y) :: (0, x) :: st => mu_ms [(y < x, t)] nx L st
  | _ => none
def s_icmple (t nx : Nat) : mu_Sem := fun L st _ _ => match st with
  | (0, y) :: (0, x) :: st => mu_ms [(y < x, nx)] t L st
  | _ => none
def s_ifnull (t nx : Nat) : mu_Sem := fun L st _ _ => match st with
  | (1, x) :: st => mu_ms [(x = -1, t)] nx L st
  | _ => none
def s_ifnonnull (t nx : Nat) : mu_Sem := fun L st _ _ => match st with
  | (1, x) :: st => mu_ms [(x = -1, nx)] t L st
  | _ => none
def mu_sw (x : Int) : List (Int × Nat) → List (Prop × Nat)
  | [] => []
  | (k, t) :: r => (x = k, t) :: mu_sw x r
def s_switch (ts : List (Int × Nat)) (df : Nat) : mu_Sem := fun L st _ _ => match st with
  | (0, x) :: st => mu_ms (mu_sw x ts) df L st
  | _ => none
/-- a field k of an object of class c: t 0 an int, 1 a reference -/
def s_getf (c : Int) (k : Int) (nx : Nat) : mu_Sem := fun L st G I => match st with
  | (1, a) :: st => mu_gd (sh G a = (c, 0)) nx L ((0, I a k) :: st) G I
  | _ => none
def s_getr (c : Int) (k : Int) (nx : Nat) : mu_Sem := fun L st G I => match st with
  | (1, a) :: st => mu_gd (sh G a = (c, 0)) nx L ((1, rf G a k) :: st) G I
  | _ => none
def mu_wk (q : Int × Int) : Prop := q = (9, 0) ∨ q = (0, 0) ∨ q = (3, 0) ∨ q = (4, 0) ∨ q = (6, 0) ∨ q = (7, 0) ∨ q = (8, 0)
/-- the field of a Walker or of one under it -/
def s_getw (nx : Nat) : mu_Sem := fun L st G I => match st with
  | (1, a) :: st => mu_gd (mu_wk (sh G a)) nx L ((0, I a 0) :: st) G I
  | _ => none
def s_putf (c : Int) (k : Int) (nx : Nat) : mu_Sem := fun L st G I => match st with
  | (0, v) :: (1, a) :: st => mu_gd (sh G a = (c, 0)) nx L st G (mu_set I a k v)
  | _ => none
/-- a boolean field -/
def s_putz (c : Int) (k : Int) (nx : Nat) : mu_Sem := fun L st G I => match st with
  | (0, v) :: (1, a) :: st => mu_gd (sh G a = (c, 0) ∧ (v = 0 ∨ v = 1)) nx L st G (mu_set I a k v)
  | _ => none
def s_putr (c : Int) (k : Int) (nx : Nat) : mu_Sem := fun L st G I => match st with
  | (1, v) :: (1, a) :: st => mu_gd (sh G a = (c, 0)) nx L st (mu_grf G a k v) I
  | _ => none
/-- Walker's own field, in Walker's constructor, of an object of any class under it -/
def s_putw (nx : Nat) : mu_Sem := fun L st G I => match st with
  | (0, v) :: (1, a) :: st => mu_gd (mu_wk (sh G a)) nx L st G (mu_set I a 0 v)
  | _ => none
def s_iald (nx : Nat) : mu_Sem := fun L st G I => match st with
  | (0, j) :: (1, a) :: st => mu_gd ((sh G a).1 = 100 ∧ 0 ≤ j ∧ j < (sh G a).2) nx L ((0, I a j) :: st) G I
  | _ => none
def s_iast (nx : Nat) : mu_Sem := fun L st G I => match st with
  | (0, v) :: (0, j) :: (1, a) :: st => mu_gd (0 ≤ a ∧ (sh G a).1 = 100 ∧ 0 ≤ j ∧ j < (sh G a).2) nx L st G (mu_set I a j v)
  | _ => none
def s_zald (nx : Nat) : mu_Sem := fun L st G I => match st with
  | (0, j) :: (1, a) :: st => mu_gd ((sh G a).1 = 101 ∧ 0 ≤ j ∧ j < (sh G a).2) nx L ((0, I a j) :: st) G I
  | _ => none
def s_zast (nx : Nat) : mu_Sem := fun L st G I => match st with
  | (0, v) :: (0, j) :: (1, a) :: st => mu_gd ((sh G a).1 = 101 ∧ 0 ≤ j ∧ j < (sh G a).2 ∧ (v = 0 ∨ v = 1)) nx L st G (mu_set I a j v)
  | _ => none
def s_aald (nx : Nat) : mu_Sem := fun L st G I => match st with
  | (0, j) :: (1, a) :: st => mu_gd ((sh G a).1 = 102 ∧ 0 ≤ j ∧ j < (sh G a).2) nx L ((1, rf G a j) :: st) G I
  | _ => none
/-- a Person into an array of them -/
def s_aast (nx : Nat) : mu_Sem := fun L st G I => match st with
  | (1, v) :: (0, j) :: (1, a) :: st => mu_gd ((sh G a).1 = 102 ∧ 0 ≤ j ∧ j < (sh G a).2 ∧ sh G v = (2, 0)) nx L st (mu_grf G a j v) I
  | _ => none
def s_alen (nx : Nat) : mu_Sem := fun L st G I => match st with
  | (1, a) :: st => mu_gd ((sh G a).1 = 100) nx L ((0, (sh G a).2) :: st) G I
  | _ => none
/-- a new object of class c with w fields -/
def s_new (c w : Int) (nx : Nat) : mu_Sem := fun L st G I => mu_nx nx L ((1, gz G) :: st) (mu_gnew G c 0 w) (mu_inew G I)
/-- a new array: 100 of ints, 101 of booleans, 102 of Persons -/
def s_newa (t : Int) (nx : Nat) : mu_Sem := fun L st G I => match st with
  | (0, n) :: st => mu_gd (0 ≤ n ∧ n ≤ 1000) nx L ((1, gz G) :: st) (mu_gnew G t n n) (mu_inew G I)
  | _ => none
/-- whether an object is of one of these classes (of the classes all) -/
def mu_sub (c : Int) : List Int → Prop
  | [] => False
  | [k] => c = k
  | k :: r => c = k ∨ mu_sub c r
noncomputable def mu_b (c : Prop) : Int := @ite _ c (Classical.propDecidable c) 1 0
noncomputable def s_inst (cs : List Int) (nx : Nat) : mu_Sem := fun L st G I => match st with
  | (1, a) :: st => mu_gd (mu_wk (sh G a)) nx L ((0, mu_b (mu_sub (sh G a).1 cs)) :: st) G I
  | _ => none
def s_ireturn : mu_Sem := fun _ st _ _ => match st with
  | [(0, x)] => mu_rt x
  | _ => none
/-- of a boolean method -/
def s_zreturn : mu_Sem := fun _ st _ _ => match st with
  | [(0, x)] => mu_rz x
  | _ => none
def s_areturn : mu_Sem := fun _ st _ _ => match st with
  | [(1, x)] => mu_rt x
  | _ => none
def s_lreturn : mu_Sem := fun _ st _ _ => match st with
  | [(2, x)] => mu_rt x
  | _ => none
def s_return : mu_Sem := fun _ st _ _ => match st with
  | [] => mu_rt 0
  | _ => none
def s_min (nx : Nat) : mu_Sem := fun L st G I => match st with
  | (0, y) :: (0, x) :: st => bif Nat.ble (mu_len st) 4 then mu_nx nx L ((0, if y < x then y else x) :: st) G I else none
  | _ => none
def s_max (nx : Nat) : mu_Sem := fun L st G I => match st with
  | (0, y) :: (0, x) :: st => bif Nat.ble (mu_len st) 4 then mu_nx nx L ((0, if x < y then y else x) :: st) G I else none
  | _ => none
def s_abs (nx : Nat) : mu_Sem := fun L st G I => match st with
  | (0, x) :: st => bif Nat.ble (mu_len st) 4 then mu_nx nx L ((0, if 0 ≤ x then x else wr (-x)) :: st) G I else none
  | _ => none
/-- Object's own constructor -/
def s_objinit (nx : Nat) : mu_Sem := fun L st G I => match st with
  | (1, a) :: st => bif Nat.ble (mu_len st) 4 then mu_gd (0 ≤ a) nx L st G I else none
  | _ => none
def mu_cpy (I : mu_M) (a0 sp a dp n : Int) : mu_M := fun b j => if b = a ∧ dp ≤ j ∧ j < dp + n then I a0 (sp + (j - dp)) else I b j
/-- System.arraycopy of ints or booleans -/
def s_copy (t : Int) (nx : Nat) : mu_Sem := fun L st G I => match st with
  | (0, n) :: (0, dp) :: (1, a) :: (0, sp) :: (1, a0) :: st => bif Nat.ble (mu_len st) 4 then mu_gd (0 ≤ a ∧ 0 ≤ a0 ∧ (sh G a0).1 = t ∧ (sh G a).1 = t ∧ 0 ≤ sp ∧ 0 ≤ dp ∧ 0 ≤ n ∧ sp + n ≤ (sh G a0).2 ∧ dp + n ≤ (sh G a).2) nx L st G (mu_cpy I a0 sp a dp n) else none
  | _ => none
/-- the length of a String that was there before -/
def s_slen (nx : Nat) : mu_Sem := fun L st G I => match st with
  | (1, a) :: st => bif Nat.ble (mu_len st) 4 then mu_gd ((sh G a).1 = 50) nx L ((0, (sh G a).2) :: st) G I else none
  | _ => none
def s_sat (nx : Nat) : mu_Sem := fun L st G I => match st with
  | (0, j) :: (1, a) :: st => bif Nat.ble (mu_len st) 4 then mu_gd ((sh G a).1 = 50 ∧ 0 ≤ j ∧ j < (sh G a).2) nx L ((0, I a j) :: st) G I else none
  | _ => none
/-- the first place from k on, of n places more, at which f is c, or -1 -/
def mu_ixF (f : Int → Int) (c : Int) : Nat → Int → Int
  | 0, _ => -1
  | n + 1, k => if f k = c then k else mu_ixF f c n (k + 1)
def s_six (nx : Nat) : mu_Sem := fun L st G I => match st with
  | (0, c) :: (1, a) :: st => bif Nat.ble (mu_len st) 4 then mu_gd ((sh G a).1 = 50) nx L ((0, mu_ixF (I a) c (sh G a).2.toNat 0) :: st) G I else none
  | _ => none
/-- no longs among them -/
def mu_low : List mu_V → Bool
  | [] => true
  | (0, _) :: r => mu_low r
  | (1, _) :: r => mu_low r
  | _ => false
def mu_lowL : List mu_V → Bool
  | [] => true
  | (0, _) :: r => mu_lowL r
  | (1, _) :: r => mu_lowL r
  | (2, _) :: r => mu_lowL r
  | _ => false
/-- a static call of method y, which has mx locals, with na arguments; rty: the kind of the answer, 9 none -/
def s_call (y mx na rty nx : Nat) : mu_Sem := fun L st _ _ => match mu_pop na [] st with
  | some (as, rest) => bif and (Nat.ble (mu_len rest) 4) (and (mu_low as) (Nat.ble (mu_len (mu_wide as)) mx)) then mu_cl y mx (mu_pad mx (mu_wide as)) rty nx L rest else none
  | none => none
/-- the same, with longs among the arguments -/
def s_callL (y mx na rty nx : Nat) : mu_Sem := fun L st _ _ => match mu_pop na [] st with
  | some (as, rest) => bif and (Nat.ble (mu_len rest) 4) (and (mu_lowL as) (Nat.ble (mu_len (mu_wide as)) mx)) then mu_cl y mx (mu_pad mx (mu_wide as)) rty nx L rest else none
  | none => none
def mu_alts (q : Int × Int) : List (Int × Nat × Nat) → mu_Al
  | [] => []
  | (c, y, mx) :: r => (q = (c, 0), y, mx) :: mu_alts q r
/-- a call of a method of the object: by its class; na arguments beside the receiver, of methods that have na + 1 locals or more -/
def s_callv (al : List (Int × Nat × Nat)) (na rty nx : Nat) : mu_Sem := fun L st G _ => match mu_pop na [] st with
  | some (as, (1, a) :: rest) => bif and (Nat.ble (mu_len rest) 4) (mu_low as) then mu_vc (mu_alts (sh G a) al) ((1, a) :: mu_wide as) rty nx L rest else none
  | _ => none

/-! THE INSTRUCTIONS: each step of the small machine is a step of the machine. -/
def mu_At (K : mu_K) (lg : Bool) (mx : Nat) (p : Program) (l : Launch) (e : Env) (R : Room) (s : State) (m : MethodId) (args : Array Value) (below : List Frame) (meth : Method) (c : Code) (Q : State → Prop) (z0 u0 : Int) (pc : Nat) (L st : List mu_V) (G : mu_G) (I : mu_M) : Prop :=
  ∀ (H : Heap) (locs : List Loc) (ls : Array Slot), mu_Rel K G I H → va_S (kA K) s.heap H locs → lv_has ls mx (mu_lv K 0 L) → (∀ v ∈ L, mu_okv v ∧ (lg = false → v.1 ≠ 2)) → (∀ v ∈ st, mu_okv v) → z0 ≤ gz G → u0 ≤ gu G → W p l e R s m args below meth c H locs (gz G - z0).toNat (gu G - u0).toNat Q (F0 m pc ls (st.map (mu_cv K)))
/-- the method's end: which answers may come, and the machine at the instruction that brings them back -/
def mu_Ret (K : mu_K) (lg : Bool) (mx : Nat) (p : Program) (l : Launch) (e : Env) (R : Room) (s : State) (m : MethodId) (args : Array Value) (below : List Frame) (meth : Method) (c : Code) (Q : State → Prop) (z0 u0 : Int) (cc : ByteArray) (rt : Option FieldType) (x : Int) (G : mu_G) (I : mu_M) : Prop :=
  ∀ (H : Heap) (locs : List Loc) (ls : Array Slot) (pc : Nat), mu_Rel K G I H → va_S (kA K) s.heap H locs → z0 ≤ gz G → u0 ≤ gu G →
    (rt = none → decode cc pc = .ok (.return_, 1) → W p l e R s m args below meth c H locs (gz G - z0).toNat (gu G - u0).toNat Q (F0 m pc ls [])) ∧
    (rt = some .int → decode cc pc = .ok (.ireturn, 1) → mu_okv (0, x) → W p l e R s m args below meth c H locs (gz G - z0).toNat (gu G - u0).toNat Q (F0 m pc ls [.int (Int32.ofInt x)])) ∧
    (rt = some .boolean → decode cc pc = .ok (.ireturn, 1) → (x = 0 ∨ x = 1) → W p l e R s m args below meth c H locs (gz G - z0).toNat (gu G - u0).toNat Q (F0 m pc ls [.int (Int32.ofInt x)])) ∧
    (rt = some .long → decode cc pc = .ok (.lreturn, 1) → mu_okv (2, x) → W p l e R s m args below meth c H locs (gz G - z0).toNat (gu G - u0).toNat Q (F0 m pc ls [.long (Int64.ofInt x)])) ∧
    (((∃ n, rt = some (.object n)) ∨ ∃ t, rt = some (.array t)) → decode cc pc = .ok (.areturn, 1) → W p l e R s m args below meth c H locs (gz G - z0).toNat (gu G - u0).toNat Q (F0 m pc ls [mu_rv K x]))
def mu_rm (d mc ms : Nat) : Room := { frames := 1012 - d, cells := mc, slots := ms, locals := 64 * (1012 - d) }
/-- what a call of a method brings -/
def mu_Qc (K : mu_K) (rt : Option FieldType) (v : Int) (G1 : mu_G) (I1 : mu_M) : Array Value → State → Outcome → State → Prop := match rt with
  | none => va_Qv (fun _ : Unit => True) (fun _ t => mu_Rel K G1 I1 t.heap) (kA K)
  | some .int => va_Qi (fun r (_ : Unit) => r = Int32.ofInt v ∧ mu_okv (0, v)) (fun _ t => mu_Rel K G1 I1 t.heap) (kA K)
  | some .boolean => va_Qi (fun r (_ : Unit) => r = Int32.ofInt v ∧ mu_okv (0, v)) (fun _ t => mu_Rel K G1 I1 t.heap) (kA K)
  | some .long => va_Ql (fun r (_ : Unit) => r = Int64.ofInt v ∧ mu_okv (2, v)) (fun _ t => mu_Rel K G1 I1 t.heap) (kA K)
  | some _ => va_Qq (fun r (_ : Unit) => r = mu_ro K v) (fun _ t => mu_Rel K G1 I1 t.heap) (kA K)
def mu_Met (K : mu_K) (l : Launch) (q : mu_Mi) (d : Nat) (ra : List mu_V) (G : mu_G) (I : mu_M) (v : Int) (G1 : mu_G) (I1 : mu_M) : Prop :=
  Met l q.1 (Cond.code q.1 q.2.1 q.2.2.1 q.2.2.2 :: mu_tb) (mu_rm d (gz G1 - gz G).toNat (gu G1 - gu G).toNat) (va_Pc (ra.map (mu_cv K)) (fun U => mu_Rel K G I U.heap ∧ mu_E K U)) (mu_Qc K q.2.2.2 v G1 I1) (gz G1 - gz G).toNat (gu G1 - gu G).toNat (kA K)
def mu_kd : Option FieldType → Nat
  | none => 9
  | some .int => 0
  | some .boolean => 0
  | some .long => 2
  | some _ => 1
/-- the methods that have longs among their locals -/
def mu_lng (y : Nat) : Bool := y == 210 || y == 211 || y == 212
/-- a call that comes back -/
def mu_Cal (K : mu_K) (lg : Bool) (mx : Nat) (p : Program) (l : Launch) (e : Env) (R : Room) (s : State) (m : MethodId) (args : Array Value) (below : List Frame) (meth : Method) (c : Code) (Q : State → Prop) (z0 u0 : Int) (d y mx1 : Nat) (as : List mu_V) (rty pc1 : Nat) (L1 st1 : List mu_V) (G : mu_G) (I : mu_M) : Prop :=
  ∃ (q : mu_Mi) (v : Int) (G1 : mu_G) (I1 : mu_M), mu_mi[y]? = some q ∧ (∀ ra : List mu_V, mu_pad mx1 (mu_wide ra) = as → q.2.2.1 = mx1 → (∀ v ∈ ra, mu_okv v) → (mu_low ra = true ∨ (mu_lowL ra = true ∧ mu_lng y = true)) → mu_len (mu_wide ra) ≤ mx1 → mu_Met K l q (d + 1) ra G I v G1 I1) ∧ d < 1000 ∧ gz G ≤ gz G1 ∧ gu G ≤ gu G1 ∧ (gz G1 - z0).toNat ≤ R.cells ∧ (gu G1 - u0).toNat ≤ R.slots ∧ mu_At K lg mx p l e R s m args below meth c Q z0 u0 pc1 L1 (mu_psh rty v st1) G1 I1
def mu_Ok (K : mu_K) (lg : Bool) (mx : Nat) (p : Program) (l : Launch) (e : Env) (R : Room) (s : State) (m : MethodId) (args : Array Value) (below : List Frame) (meth : Method) (c : Code) (Q : State → Prop) (z0 u0 : Int) (cc : ByteArray) (rt : Option FieldType) (d : Nat) (G : mu_G) (I : mu_M) : mu_SR → Prop
  | .inl ((pc1, L1, st1), G1, I1) => (gz G1 - z0).toNat ≤ R.cells ∧ (gu G1 - u0).toNat ≤ R.slots ∧ mu_At K lg mx p l e R s m args below meth c Q z0 u0 pc1 L1 st1 G1 I1
  | .inr (.inl (g, (pc1, L1, st1), G1, I1)) => g ∧ (gz G1 - z0).toNat ≤ R.cells ∧ (gu G1 - u0).toNat ≤ R.slots ∧ mu_At K lg mx p l e R s m args below meth c Q z0 u0 pc1 L1 st1 G1 I1
  | .inr (.inr (.inl (cs, df, L1, st1))) => mu_At K lg mx p l e R s m args below meth c Q z0 u0 (mu_sel cs df) L1 st1 G I
  | .inr (.inr (.inr (.inl x))) => mu_Ret K lg mx p l e R s m args below meth c Q z0 u0 cc rt x G I
  | .inr (.inr (.inr (.inr (.inl ((y1, mx1), as, rty, (pc1, L1, st1)))))) => mu_Cal K lg mx p l e R s m args below meth c Q z0 u0 d y1 mx1 as rty pc1 L1 st1 G I
  | .inr (.inr (.inr (.inr (.inr (.inl (al, as, rty, (pc1, L1, st1))))))) => ∃ y1 mx1, mu_vsel al = some (y1, mx1) ∧ mu_Cal K lg mx p l e R s m args below meth c Q z0 u0 d y1 mx1 (mu_pad mx1 as) rty pc1 L1 st1 G I
  | .inr (.inr (.inr (.inr (.inr (.inr x))))) => (x = 0 ∨ x = 1) ∧ mu_Ret K lg mx p l e R s m args below meth c Q z0 u0 cc rt x G I
/-- what holds of the method's own start -/
def mu_Cx (K : mu_K) (own : String) (cc : ByteArray) (mx : Nat) (rt : Option FieldType) (nm : String) (d : Nat) (p : Program) (R : Room) (s : State) (m : MethodId) (args : Array Value) (meth : Method) (c : Code) : Prop :=
  p.tables.exec = Jvm.exec ∧ c.code = cc ∧ c.maxLocals = mx ∧ s.vm.findClass own = some m.cls ∧ (∀ w ∈ mu_tb, w.before args s = true) ∧ mu_E K s ∧ meth.sig.returnType = rt ∧ meth.locks = false ∧ meth.name = nm ∧ d ≤ 1000 ∧ 1012 - d ≤ R.frames ∧ 64 * (1012 - d) ≤ R.locals
/-- what a step makes is no less than what was -/
def mu_mon (f : mu_Sem) : Prop := ∀ (L st : List mu_V) (G : mu_G) (I : mu_M), (∀ fr G1 I1, f L st G I = some (.inl (fr, G1, I1)) → gz G ≤ gz G1 ∧ gu G ≤ gu G1) ∧ ∀ g fr G1 I1, f L st G I = some (.inr (.inl (g, fr, G1, I1))) → g → gz G ≤ gz G1 ∧ gu G ≤ gu G1
def mu_Sim (own : String) (cc : ByteArray) (mx : Nat) (rt : Option FieldType) (nm : String) (lg : Bool) (pc : Nat) (f : mu_Sem) : Prop :=
  mu_mon f ∧ ∀ (K : mu_K) (p : Program) (l : Launch) (e : Env) (R : Room) (s : State) (m : MethodId) (args : Array Value) (below : List Frame) (meth : Method) (c : Code) (Q : State → Prop) (z0 u0 : Int) (d : Nat), mu_Cx K own cc mx rt nm d p R s m args meth c → ∀ (L st : List mu_V) (G : mu_G) (I : mu_M) (sr : mu_SR), f L st G I = some sr → mu_Ok K lg mx p l e R s m args below meth c Q z0 u0 cc rt d G I sr → mu_At K lg mx p l e R s m args below meth c Q z0 u0 pc L st G I
theorem mu_bif {α : Type} {b : Bool} {x : Option α} {y : α} (h : (bif b then x else none) = some y) : b = true ∧ x = some y := by
  cases b with
  | true => exact ⟨rfl, h⟩
  | false => cases h
theorem mu_okc {v : mu_V} {st : List mu_V} (h : mu_okv v) (hs : ∀ w ∈ st, mu_okv w) : ∀ w ∈ v :: st, mu_okv w := List.forall_mem_cons.mpr ⟨h, hs⟩
theorem mu_okt {v : mu_V} {st : List mu_V} (h : ∀ w ∈ v :: st, mu_okv w) : ∀ w ∈ st, mu_okv w := (List.forall_mem_cons.mp h).2
theorem mu_okh {v : mu_V} {st : List mu_V} (h : ∀ w ∈ v :: st, mu_okv w) : mu_okv v := (List.forall_mem_cons.mp h).1
theorem mu_rng (x : Int32) : mu_okv (0, x.toInt) := ⟨Int32.le_toInt _, by
  have := Int32.toInt_lt x
  omega⟩
theorem mu_rem {x y : Int} (hx : mu_okv (0, x)) (hy : mu_okv (0, y)) : Int32.ofInt (x.tmod y) = Int32.ofInt x - Int32.ofInt x / Int32.ofInt y * Int32.ofInt y := by
  have h := Int.tmod_def x y
  rw [h, Int32.ofInt_sub, Int32.ofInt_mul, Int32.ofInt_tdiv hx.1 hx.2 hy.1 hy.2, Int32.mul_comm]
theorem mu_rem64 {x y : Int} (hx : mu_okv (2, x)) (hy : mu_okv (2, y)) : Int64.ofInt (x.tmod y) = Int64.ofInt x - Int64.ofInt x / Int64.ofInt y * Int64.ofInt y := by
  have h := Int.tmod_def x y
  rw [h, Int64.ofInt_sub, Int64.ofInt_mul, Int64.ofInt_tdiv hx.1 hx.2 hy.1 hy.2, Int64.mul_comm]
theorem mu_tmod_ok {x y : Int} {t : Nat} (ht : t = 0 ∨ t = 2) (hx : mu_okv (t, x)) : mu_okv (t, x.tmod y) := by
  have h1 := Int.natAbs_tmod x y
  have h2 : (x.tmod y).natAbs ≤ x.natAbs := by rw [h1]; exact Nat.mod_le _ _
  have h3 : 0 ≤ x → 0 ≤ x.tmod y := fun h => Int.tmod_nonneg _ h
  have h4 : x ≤ 0 → x.tmod y ≤ 0 := fun h => by
    have := Int.tmod_nonneg (a := -x) y (by omega)
    rw [Int.neg_tmod] at this
    omega
  rcases ht with rfl | rfl <;> (obtain ⟨a, b⟩ := hx; constructor <;> omega)
theorem sim_iadd {own nm : String} {cc : ByteArray} {mx pc : Nat} {rt : Option FieldType} {lg : Bool} (h : decode cc pc = .ok (.iadd, 1)) : mu_Sim own cc mx rt nm lg pc (s_iadd (pc + 1)) := by
  refine ⟨fun L st G I => ⟨fun fr G1 I1 h => ?_, fun g fr G1 I1 h hg => ?_⟩, ?_⟩
  · unfold s_iadd at h; (try split at h) <;> (try split at h) <;> (try split at h) <;> first | (cases h; done) | (cases h; exact ⟨Int.le_refl _, Int.le_refl _⟩) | (cases h; simp only [gz_gnew, gu_gnew]; omega) | (obtain ⟨-, h⟩ := mu_bif h; cases h; done) | (obtain ⟨-, h⟩ := mu_bif h; cases h; exact ⟨Int.le_refl _, Int.le_refl _⟩)
  · unfold s_iadd at h; (try split at h) <;> (try split at h) <;> (try split at h) <;> first | (cases h; done) | (cases h; exact ⟨Int.le_refl _, Int.le_refl _⟩) | (cases h; simp only [gz_gnew, gu_gnew]; omega) | (obtain ⟨-, h⟩ := mu_bif h; cases h; done) | (obtain ⟨-, h⟩ := mu_bif h; cases h; exact ⟨Int.le_refl _, Int.le_refl _⟩)
  intro K p l e R s m args below meth c Q z0 u0 d C L st G I sr hs hok H locs ls hR hS hl hL hst hz hu
  unfold s_iadd at hs
  split at hs
  · rename_i y x st1
    cases hs
    obtain ⟨-, -, k⟩ := hok
    have oy := mu_okh hst
    have ox := mu_okh (mu_okt hst)
    refine lv_iadd C.1 C.2.1 h ?_
    have e1 : mu_cv K (0, wr (x + y)) = .int (Int32.ofInt x + Int32.ofInt y) := by
      show Value.int (Int32.ofInt (wr (x + y))) = _
      rw [mu_i32w, Int32.ofInt_add]
    have k2 := k H locs ls hR hS hl hL (mu_okc (⟨wr_lo _, wr_hi _⟩) (mu_okt (mu_okt hst))) hz hu
    rw [List.map_cons, e1] at k2
    exact k2
  · cases hs
theorem sim_isub {own nm : String} {cc : ByteArray} {mx pc : Nat} {rt : Option FieldType} {lg : Bool} (h : decode cc pc = .ok (.isub, 1)) : mu_Sim own cc mx rt nm lg pc (s_isub (pc + 1)) := by
  refine ⟨fun L st G I => ⟨fun fr G1 I1 h => ?_, fun g fr G1 I1 h hg => ?_⟩, ?_⟩
  · unfold s_isub at h; (try split at h) <;> (try split at h) <;> (try split at h) <;> first | (cases h; done) | (cases h; exact ⟨Int.le_refl _, Int.le_refl _⟩) | (cases h; simp only [gz_gnew, gu_gnew]; omega) | (obtain ⟨-, h⟩ := mu_bif h; cases h; done) | (obtain ⟨-, h⟩ := mu_bif h; cases h; exact ⟨Int.le_refl _, Int.le_refl _⟩)
  · unfold s_isub at h; (try split at h) <;> (try split at h) <;> (try split at h) <;> first | (cases h; done) | (cases h; exact ⟨Int.le_refl _, Int.le_refl _⟩) | (cases h; simp only [gz_gnew, gu_gnew]; omega) | (obtain ⟨-, h⟩ := mu_bif h; cases h; done) | (obtain ⟨-, h⟩ := mu_bif h; cases h; exact ⟨Int.le_refl _, Int.le_refl _⟩)
  intro K p l e R s m args below meth c Q z0 u0 d C L st G I sr hs hok H locs ls hR hS hl hL hst hz hu
  unfold s_isub at hs
  split at hs
  · rename_i y x st1
    cases hs
    obtain ⟨-, -, k⟩ := hok
    have oy := mu_okh hst
    have ox := mu_okh (mu_okt hst)
    refine lv_isub C.1 C.2.1 h ?_
    have e1 : mu_cv K (0, wr (x - y)) = .int (Int32.ofInt x - Int32.ofInt y) := by
      show Value.int (Int32.ofInt (wr (x - y))) = _
      rw [mu_i32w, Int32.ofInt_sub]
    have k2 := k H locs ls hR hS hl hL (mu_okc (⟨wr_lo _, wr_hi _⟩) (mu_okt (mu_okt hst))) hz hu
    rw [List.map_cons, e1] at k2
    exact k2
  · cases hs
theorem sim_imul {own nm : String} {cc : ByteArray} {mx pc : Nat} {rt : Option FieldType} {lg : Bool} (h : decode cc pc = .ok (.imul, 1)) : mu_Sim own cc mx rt nm lg pc (s_imul (pc + 1)) := by
  refine ⟨fun L st G I => ⟨fun fr G1 I1 h => ?_, fun g fr G1 I1 h hg => ?_⟩, ?_⟩
  · unfold s_imul at h; (try split at h) <;> (try split at h) <;> (try split at h) <;> first | (cases h; done) | (cases h; exact ⟨Int.le_refl _, Int.le_refl _⟩) | (cases h; simp only [gz_gnew, gu_gnew]; omega) | (obtain ⟨-, h⟩ := mu_bif h; cases h; done) | (obtain ⟨-, h⟩ := mu_bif h; cases h; exact ⟨Int.le_refl _, Int.le_refl _⟩)
  · unfold s_imul at h; (try split at h) <;> (try split at h) <;> (try split at h) <;> first | (cases h; done) | (cases h; exact ⟨Int.le_refl _, Int.le_refl _⟩) | (cases h; simp only [gz_gnew, gu_gnew]; omega) | (obtain ⟨-, h⟩ := mu_bif h; cases h; done) | (obtain ⟨-, h⟩ := mu_bif h; cases h; exact ⟨Int.le_refl _, Int.le_refl _⟩)
  intro K p l e R s m args below meth c Q z0 u0 d C L st G I sr hs hok H locs ls hR hS hl hL hst hz hu
  unfold s_imul at hs
  split at hs
  · rename_i y x st1
    cases hs
    obtain ⟨-, -, k⟩ := hok
    have oy := mu_okh hst
    have ox := mu_okh (mu_okt hst)
    refine lv_imul C.1 C.2.1 h ?_
    have e1 : mu_cv K (0, wr (x * y)) = .int (Int32.ofInt x * Int32.ofInt y) := by
      show Value.int (Int32.ofInt (wr (x * y))) = _
      rw [mu_i32w, Int32.ofInt_mul]
    have k2 := k H locs ls hR hS hl hL (mu_okc (⟨wr_lo _, wr_hi _⟩) (mu_okt (mu_okt hst))) hz hu
    rw [List.map_cons, e1] at k2
    exact k2
  · cases hs
theorem sim_iand {own nm : String} {cc : ByteArray} {mx pc : Nat} {rt : Option FieldType} {lg : Bool} (h : decode cc pc = .ok (.iand, 1)) : mu_Sim own cc mx rt nm lg pc (s_iand (pc + 1)) := by
  refine ⟨fun L st G I => ⟨fun fr G1 I1 h => ?_, fun g fr G1 I1 h hg => ?_⟩, ?_⟩
  · unfold s_iand at h; (try split at h) <;> (try split at h) <;> (try split at h) <;> first | (cases h; done) | (cases h; exact ⟨Int.le_refl _, Int.le_refl _⟩) | (cases h; simp only [gz_gnew, gu_gnew]; omega) | (obtain ⟨-, h⟩ := mu_bif h; cases h; done) | (obtain ⟨-, h⟩ := mu_bif h; cases h; exact ⟨Int.le_refl _, Int.le_refl _⟩)
  · unfold s_iand at h; (try split at h) <;> (try split at h) <;> (try split at h) <;> first | (cases h; done) | (cases h; exact ⟨Int.le_refl _, Int.le_refl _⟩) | (cases h; simp only [gz_gnew, gu_gnew]; omega) | (obtain ⟨-, h⟩ := mu_bif h; cases h; done) | (obtain ⟨-, h⟩ := mu_bif h; cases h; exact ⟨Int.le_refl _, Int.le_refl _⟩)
  intro K p l e R s m args below meth c Q z0 u0 d C L st G I sr hs hok H locs ls hR hS hl hL hst hz hu
  unfold s_iand at hs
  split at hs
  · rename_i y x st1
    cases hs
    obtain ⟨-, -, k⟩ := hok
    have oy := mu_okh hst
    have ox := mu_okh (mu_okt hst)
    refine lv_iand C.1 C.2.1 h ?_
    have e1 : mu_cv K (0, mu_and x y) = .int (Int32.ofInt x &&& Int32.ofInt y) := by
      show Value.int (Int32.ofInt (mu_and x y)) = _
      rw [show mu_and x y = (Int32.ofInt x &&& Int32.ofInt y).toInt from rfl, Int32.ofInt_toInt]
    have k2 := k H locs ls hR hS hl hL (mu_okc (mu_rng _) (mu_okt (mu_okt hst))) hz hu
    rw [List.map_cons, e1] at k2
    exact k2
  · cases hs
theorem sim_ior {own nm : String} {cc : ByteArray} {mx pc : Nat} {rt : Option FieldType} {lg : Bool} (h : decode cc pc = .ok (.ior, 1)) : mu_Sim own cc mx rt nm lg pc (s_ior (pc + 1)) := by
  refine ⟨fun L st G I => ⟨fun fr G1 I1 h => ?_, fun g fr G1 I1 h hg => ?_⟩, ?_⟩
  · unfold s_ior at h; (try split at h) <;> (try split at h) <;> (try split at h) <;> first | (cases h; done) | (cases h; exact ⟨Int.le_refl _, Int.le_refl _⟩) | (cases h; simp only [gz_gnew, gu_gnew]; omega) | (obtain ⟨-, h⟩ := mu_bif h; cases h; done) | (obtain ⟨-, h⟩ := mu_bif h; cases h; exact ⟨Int.le_refl _, Int.le_refl _⟩)
  · unfold s_ior at h; (try split at h) <;> (try split at h) <;> (try split at h) <;> first | (cases h; done) | (cases h; exact ⟨Int.le_refl _, Int.le_refl _⟩) | (cases h; simp only [gz_gnew, gu_gnew]; omega) | (obtain ⟨-, h⟩ := mu_bif h; cases h; done) | (obtain ⟨-, h⟩ := mu_bif h; cases h; exact ⟨Int.le_refl _, Int.le_refl _⟩)
  intro K p l e R s m args below meth c Q z0 u0 d C L st G I sr hs hok H locs ls hR hS hl hL hst hz hu
  unfold s_ior at hs
  split at hs
  · rename_i y x st1
    cases hs
    obtain ⟨-, -, k⟩ := hok
    have oy := mu_okh hst
    have ox := mu_okh (mu_okt hst)
    refine lv_ior C.1 C.2.1 h ?_
    have e1 : mu_cv K (0, mu_or x y) = .int (Int32.ofInt x ||| Int32.ofInt y) := by
      show Value.int (Int32.ofInt (mu_or x y)) = _
      rw [show mu_or x y = (Int32.ofInt x ||| Int32.ofInt y).toInt from rfl, Int32.ofInt_toInt]
    have k2 := k H locs ls hR hS hl hL (mu_okc (mu_rng _) (mu_okt (mu_okt hst))) hz hu
    rw [List.map_cons, e1] at k2
    exact k2
  · cases hs
theorem sim_ixor {own nm : String} {cc : ByteArray} {mx pc : Nat} {rt : Option FieldType} {lg : Bool} (h : decode cc pc = .ok (.ixor, 1)) : mu_Sim own cc mx rt nm lg pc (s_ixor (pc + 1)) := by
  refine ⟨fun L st G I => ⟨fun fr G1 I1 h => ?_, fun g fr G1 I1 h hg => ?_⟩, ?_⟩
  · unfold s_ixor at h; (try split at h) <;> (try split at h) <;> (try split at h) <;> first | (cases h; done) | (cases h; exact ⟨Int.le_refl _, Int.le_refl _⟩) | (cases h; simp only [gz_gnew, gu_gnew]; omega) | (obtain ⟨-, h⟩ := mu_bif h; cases h; done) | (obtain ⟨-, h⟩ := mu_bif h; cases h; exact ⟨Int.le_refl _, Int.le_refl _⟩)
  · unfold s_ixor at h; (try split at h) <;> (try split at h) <;> (try split at h) <;> first | (cases h; done) | (cases h; exact ⟨Int.le_refl _, Int.le_refl _⟩) | (cases h; simp only [gz_gnew, gu_gnew]; omega) | (obtain ⟨-, h⟩ := mu_bif h; cases h; done) | (obtain ⟨-, h⟩ := mu_bif h; cases h; exact ⟨Int.le_refl _, Int.le_refl _⟩)
  intro K p l e R s m args below meth c Q z0 u0 d C L st G I sr hs hok H locs ls hR hS hl hL hst hz hu
  unfold s_ixor at hs
  split at hs
  · rename_i y x st1
    cases hs
    obtain ⟨-, -, k⟩ := hok
    have oy := mu_okh hst
    have ox := mu_okh (mu_okt hst)
    refine lv_ixor C.1 C.2.1 h ?_
    have e1 : mu_cv K (0, mu_xor x y) = .int (Int32.ofInt x ^^^ Int32.ofInt y) := by
      show Value.int (Int32.ofInt (mu_xor x y)) = _
      rw [show mu_xor x y = (Int32.ofInt x ^^^ Int32.ofInt y).toInt from rfl, Int32.ofInt_toInt]
    have k2 := k H locs ls hR hS hl hL (mu_okc (mu_rng _) (mu_okt (mu_okt hst))) hz hu
    rw [List.map_cons, e1] at k2
    exact k2
  · cases hs
theorem sim_ishl {own nm : String} {cc : ByteArray} {mx pc : Nat} {rt : Option FieldType} {lg : Bool} (h : decode cc pc = .ok (.ishl, 1)) : mu_Sim own cc mx rt nm lg pc (s_ishl (pc + 1)) := by
  refine ⟨fun L st G I => ⟨fun fr G1 I1 h => ?_, fun g fr G1 I1 h hg => ?_⟩, ?_⟩
  · unfold s_ishl at h; (try split at h) <;> (try split at h) <;> (try split at h) <;> first | (cases h; done) | (cases h; exact ⟨Int.le_refl _, Int.le_refl _⟩) | (cases h; simp only [gz_gnew, gu_gnew]; omega) | (obtain ⟨-, h⟩ := mu_bif h; cases h; done) | (obtain ⟨-, h⟩ := mu_bif h; cases h; exact ⟨Int.le_refl _, Int.le_refl _⟩)
  · unfold s_ishl at h; (try split at h) <;> (try split at h) <;> (try split at h) <;> first | (cases h; done) | (cases h; exact ⟨Int.le_refl _, Int.le_refl _⟩) | (cases h; simp only [gz_gnew, gu_gnew]; omega) | (obtain ⟨-, h⟩ := mu_bif h; cases h; done) | (obtain ⟨-, h⟩ := mu_bif h; cases h; exact ⟨Int.le_refl _, Int.le_refl _⟩)
  intro K p l e R s m args below meth c Q z0 u0 d C L st G I sr hs hok H locs ls hR hS hl hL hst hz hu
  unfold s_ishl at hs
  split at hs
  · rename_i y x st1
    cases hs
    obtain ⟨-, -, k⟩ := hok
    have oy := mu_okh hst
    have ox := mu_okh (mu_okt hst)
    refine lv_ishl C.1 C.2.1 h ?_
    have e1 : mu_cv K (0, mu_shl x y) = .int (Int32.ofInt x <<< (Int32.ofInt y &&& 31)) := by
      show Value.int (Int32.ofInt (mu_shl x y)) = _
      rw [show mu_shl x y = (Int32.ofInt x <<< (Int32.ofInt y &&& 31)).toInt from rfl, Int32.ofInt_toInt]
    have k2 := k H locs ls hR hS hl hL (mu_okc (mu_rng _) (mu_okt (mu_okt hst))) hz hu
    rw [List.map_cons, e1] at k2
    exact k2
  · cases hs
theorem sim_ishr {own nm : String} {cc : ByteArray} {mx pc : Nat} {rt : Option FieldType} {lg : Bool} (h : decode cc pc = .ok (.ishr, 1)) : mu_Sim own cc mx rt nm lg pc (s_ishr (pc + 1)) := by
  refine ⟨fun L st G I => ⟨fun fr G1 I1 h => ?_, fun g fr G1 I1 h hg => ?_⟩, ?_⟩
  · unfold s_ishr at h; (try split at h) <;> (try split at h) <;> (try split at h) <;> first | (cases h; done) | (cases h; exact ⟨Int.le_refl _, Int.le_refl _⟩) | (cases h; simp only [gz_gnew, gu_gnew]; omega) | (obtain ⟨-, h⟩ := mu_bif h; cases h; done) | (obtain ⟨-, h⟩ := mu_bif h; cases h; exact ⟨Int.le_refl _, Int.le_refl _⟩)
  · unfold s_ishr at h; (try split at h) <;> (try split at h) <;> (try split at h) <;> first | (cases h; done) | (cases h; exact ⟨Int.le_refl _, Int.le_refl _⟩) | (cases h; simp only [gz_gnew, gu_gnew]; omega) | (obtain ⟨-, h⟩ := mu_bif h; cases h; done) | (obtain ⟨-, h⟩ := mu_bif h; cases h; exact ⟨Int.le_refl _, Int.le_refl _⟩)
  intro K p l e R s m args below meth c Q z0 u0 d C L st G I sr hs hok H locs ls hR hS hl hL hst hz hu
  unfold s_ishr at hs
  split at hs
  · rename_i y x st1
    cases hs
    obtain ⟨-, -, k⟩ := hok
    have oy := mu_okh hst
    have ox := mu_okh (mu_okt hst)
    refine lv_ishr C.1 C.2.1 h ?_
    have e1 : mu_cv K (0, mu_shr x y) = .int (Int32.ofInt x >>> (Int32.ofInt y &&& 31)) := by
      show Value.int (Int32.ofInt (mu_shr x y)) = _
      rw [show mu_shr x y = (Int32.ofInt x >>> (Int32.ofInt y &&& 31)).toInt from rfl, Int32.ofInt_toInt]
    have k2 := k H locs ls hR hS hl hL (mu_okc (mu_rng _) (mu_okt (mu_okt hst))) hz hu
    rw [List.map_cons, e1] at k2
    exact k2
  · cases hs
theorem sim_idiv {own nm : String} {cc : ByteArray} {mx pc : Nat} {rt : Option FieldType} {lg : Bool} (h : decode cc pc = .ok (.idiv, 1)) : mu_Sim own cc mx rt nm lg pc (s_idiv (pc + 1)) := by
  refine ⟨fun L st G I => ⟨fun fr G1 I1 h => ?_, fun g fr G1 I1 h hg => ?_⟩, ?_⟩
  · unfold s_idiv at h; (try split at h) <;> (try split at h) <;> (try split at h) <;> first | (cases h; done) | (cases h; exact ⟨Int.le_refl _, Int.le_refl _⟩) | (cases h; simp only [gz_gnew, gu_gnew]; omega) | (obtain ⟨-, h⟩ := mu_bif h; cases h; done) | (obtain ⟨-, h⟩ := mu_bif h; cases h; exact ⟨Int.le_refl _, Int.le_refl _⟩)
  · unfold s_idiv at h; (try split at h) <;> (try split at h) <;> (try split at h) <;> first | (cases h; done) | (cases h; exact ⟨Int.le_refl _, Int.le_refl _⟩) | (cases h; simp only [gz_gnew, gu_gnew]; omega) | (obtain ⟨-, h⟩ := mu_bif h; cases h; done) | (obtain ⟨-, h⟩ := mu_bif h; cases h; exact ⟨Int.le_refl _, Int.le_refl _⟩)
  intro K p l e R s m args below meth c Q z0 u0 d C L st G I sr hs hok H locs ls hR hS hl hL hst hz hu
  unfold s_idiv at hs
  split at hs
  · rename_i y x st1
    cases hs
    obtain ⟨g, -, -, k⟩ := hok
    have oy := mu_okh hst
    have ox := mu_okh (mu_okt hst)
    refine lv_idiv C.1 C.2.1 h (fun z => g ?_) ?_
    · have z2 : Int32.ofInt y = Int32.ofInt 0 := z
      exact (mu_eq oy.1 oy.2 (by decide) (by decide)).mp z2
    have e1 : mu_cv K (0, wr (x.tdiv y)) = .int (Int32.ofInt x / Int32.ofInt y) := by
      show Value.int (Int32.ofInt (wr (x.tdiv y))) = _
      rw [mu_i32w, Int32.ofInt_tdiv ox.1 ox.2 oy.1 oy.2]
    have k2 := k H locs ls hR hS hl hL (mu_okc (⟨wr_lo _, wr_hi _⟩) (mu_okt (mu_okt hst))) hz hu
    rw [List.map_cons, e1] at k2
    exact k2
  · cases hs
theorem sim_irem {own nm : String} {cc : ByteArray} {mx pc : Nat} {rt : Option FieldType} {lg : Bool} (h : decode cc pc = .ok (.irem, 1)) : mu_Sim own cc mx rt nm lg pc (s_irem (pc + 1)) := by
  refine ⟨fun L st G I => ⟨fun fr G1 I1 h => ?_, fun g fr G1 I1 h hg => ?_⟩, ?_⟩
  · unfold s_irem at h; (try split at h) <;> (try split at h) <;> (try split at h) <;> first | (cases h; done) | (cases h; exact ⟨Int.le_refl _, Int.le_refl _⟩) | (cases h; simp only [gz_gnew, gu_gnew]; omega) | (obtain ⟨-, h⟩ := mu_bif h; cases h; done) | (obtain ⟨-, h⟩ := mu_bif h; cases h; exact ⟨Int.le_refl _, Int.le_refl _⟩)
  · unfold s_irem at h; (try split at h) <;> (try split at h) <;> (try split at h) <;> first | (cases h; done) | (cases h; exact ⟨Int.le_refl _, Int.le_refl _⟩) | (cases h; simp only [gz_gnew, gu_gnew]; omega) | (obtain ⟨-, h⟩ := mu_bif h; cases h; done) | (obtain ⟨-, h⟩ := mu_bif h; cases h; exact ⟨Int.le_refl _, Int.le_refl _⟩)
  intro K p l e R s m args below meth c Q z0 u0 d C L st G I sr hs hok H locs ls hR hS hl hL hst hz hu
  unfold s_irem at hs
  split at hs
  · rename_i y x st1
    cases hs
    obtain ⟨g, -, -, k⟩ := hok
    have oy := mu_okh hst
    have ox := mu_okh (mu_okt hst)
    refine lv_irem C.1 C.2.1 h (fun z => g ?_) ?_
    · have z2 : Int32.ofInt y = Int32.ofInt 0 := z
      exact (mu_eq oy.1 oy.2 (by decide) (by decide)).mp z2
    have e1 : mu_cv K (0, x.tmod y) = .int (Int32.ofInt x - Int32.ofInt x / Int32.ofInt y * Int32.ofInt y) := by
      show Value.int (Int32.ofInt (x.tmod y)) = _
      rw [mu_rem ox oy]
    have k2 := k H locs ls hR hS hl hL (mu_okc (mu_tmod_ok (Or.inl rfl) ox) (mu_okt (mu_okt hst))) hz hu
    rw [List.map_cons, e1] at k2
    exact k2
  · cases hs
theorem sim_ldiv {own nm : String} {cc : ByteArray} {mx pc : Nat} {rt : Option FieldType} {lg : Bool} (h : decode cc pc = .ok (.ldiv, 1)) : mu_Sim own cc mx rt nm lg pc (s_ldiv (pc + 1)) := by
  refine ⟨fun L st G I => ⟨fun fr G1 I1 h => ?_, fun g fr G1 I1 h hg => ?_⟩, ?_⟩
  · unfold s_ldiv at h; (try split at h) <;> (try split at h) <;> (try split at h) <;> first | (cases h; done) | (cases h; exact ⟨Int.le_refl _, Int.le_refl _⟩) | (cases h; simp only [gz_gnew, gu_gnew]; omega) | (obtain ⟨-, h⟩ := mu_bif h; cases h; done) | (obtain ⟨-, h⟩ := mu_bif h; cases h; exact ⟨Int.le_refl _, Int.le_refl _⟩)
  · unfold s_ldiv at h; (try split at h) <;> (try split at h) <;> (try split at h) <;> first | (cases h; done) | (cases h; exact ⟨Int.le_refl _, Int.le_refl _⟩) | (cases h; simp only [gz_gnew, gu_gnew]; omega) | (obtain ⟨-, h⟩ := mu_bif h; cases h; done) | (obtain ⟨-, h⟩ := mu_bif h; cases h; exact ⟨Int.le_refl _, Int.le_refl _⟩)
  intro K p l e R s m args below meth c Q z0 u0 d C L st G I sr hs hok H locs ls hR hS hl hL hst hz hu
  unfold s_ldiv at hs
  split at hs
  · rename_i y x st1
    cases hs
    obtain ⟨g, -, -, k⟩ := hok
    have oy := mu_okh hst
    have ox := mu_okh (mu_okt hst)
    refine lv_ldiv C.1 C.2.1 h (fun z => g ?_) ?_
    · have z2 : Int64.ofInt y = Int64.ofInt 0 := z
      exact (mu_eq64 oy.1 oy.2 (by decide) (by decide)).mp z2
    have e1 : mu_cv K (2, wl (x.tdiv y)) = .long (Int64.ofInt x / Int64.ofInt y) := by
      show Value.long (Int64.ofInt (wl (x.tdiv y))) = _
      rw [mu_i64w, Int64.ofInt_tdiv ox.1 ox.2 oy.1 oy.2]
    have k2 := k H locs ls hR hS hl hL (mu_okc (⟨wl_lo _, wl_hi _⟩) (mu_okt (mu_okt hst))) hz hu
    rw [List.map_cons, e1] at k2
    exact k2
  · cases hs
theorem sim_lrem {own nm : String} {cc : ByteArray} {mx pc : Nat} {rt : Option FieldType} {lg : Bool} (h : decode cc pc = .ok (.lrem, 1)) : mu_Sim own cc mx rt nm lg pc (s_lrem (pc + 1)) := by
  refine ⟨fun L st G I => ⟨fun fr G1 I1 h => ?_, fun g fr G1 I1 h hg => ?_⟩, ?_⟩
  · unfold s_lrem at h; (try split at h) <;> (try split at h) <;> (try split at h) <;> first | (cases h; done) | (cases h; exact ⟨Int.le_refl _, Int.le_refl _⟩) | (cases h; simp only [gz_gnew, gu_gnew]; omega) | (obtain ⟨-, h⟩ := mu_bif h; cases h; done) | (obtain ⟨-, h⟩ := mu_bif h; cases h; exact ⟨Int.le_refl _, Int.le_refl _⟩)
  · unfold s_lrem at h; (try split at h) <;> (try split at h) <;> (try split at h) <;> first | (cases h; done) | (cases h; exact ⟨Int.le_refl _, Int.le_refl _⟩) | (cases h; simp only [gz_gnew, gu_gnew]; omega) | (obtain ⟨-, h⟩ := mu_bif h; cases h; done) | (obtain ⟨-, h⟩ := mu_bif h; cases h; exact ⟨Int.le_refl _, Int.le_refl _⟩)
  intro K p l e R s m args below meth c Q z0 u0 d C L st G I sr hs hok H locs ls hR hS hl hL hst hz hu
  unfold s_lrem at hs
  split at hs
  · rename_i y x st1
    cases hs
    obtain ⟨g, -, -, k⟩ := hok
    have oy := mu_okh hst
    have ox := mu_okh (mu_okt hst)
    refine lv_lrem C.1 C.2.1 h (fun z => g ?_) ?_
    · have z2 : Int64.ofInt y = Int64.ofInt 0 := z
      exact (mu_eq64 oy.1 oy.2 (by decide) (by decide)).mp z2
    have e1 : mu_cv K (2, x.tmod y) = .long (Int64.ofInt x - Int64.ofInt x / Int64.ofInt y * Int64.ofInt y) := by
      show Value.long (Int64.ofInt (x.tmod y)) = _
      rw [mu_rem64 ox oy]
    have k2 := k H locs ls hR hS hl hL (mu_okc (mu_tmod_ok (Or.inr rfl) ox) (mu_okt (mu_okt hst))) hz hu
    rw [List.map_cons, e1] at k2
    exact k2
  · cases hs
theorem sim_ladd {own nm : String} {cc : ByteArray} {mx pc : Nat} {rt : Option FieldType} {lg : Bool} (h : decode cc pc = .ok (.ladd, 1)) : mu_Sim own cc mx rt nm lg pc (s_ladd (pc + 1)) := by
  refine ⟨fun L st G I => ⟨fun fr G1 I1 h => ?_, fun g fr G1 I1 h hg => ?_⟩, ?_⟩
  · unfold s_ladd at h; (try split at h) <;> (try split at h) <;> (try split at h) <;> first | (cases h; done) | (cases h; exact ⟨Int.le_refl _, Int.le_refl _⟩) | (cases h; simp only [gz_gnew, gu_gnew]; omega) | (obtain ⟨-, h⟩ := mu_bif h; cases h; done) | (obtain ⟨-, h⟩ := mu_bif h; cases h; exact ⟨Int.le_refl _, Int.le_refl _⟩)
  · unfold s_ladd at h; (try split at h) <;> (try split at h) <;> (try split at h) <;> first | (cases h; done) | (cases h; exact ⟨Int.le_refl _, Int.le_refl _⟩) | (cases h; simp only [gz_gnew, gu_gnew]; omega) | (obtain ⟨-, h⟩ := mu_bif h; cases h; done) | (obtain ⟨-, h⟩ := mu_bif h; cases h; exact ⟨Int.le_refl _, Int.le_refl _⟩)
  intro K p l e R s m args below meth c Q z0 u0 d C L st G I sr hs hok H locs ls hR hS hl hL hst hz hu
  unfold s_ladd at hs
  split at hs
  · rename_i y x st1
    cases hs
    obtain ⟨-, -, k⟩ := hok
    refine lv_ladd C.1 C.2.1 h ?_
    have e1 : mu_cv K (2, wl (x + y)) = .long (Int64.ofInt x + Int64.ofInt y) := by
      show Value.long (Int64.ofInt (wl (x + y))) = _
      rw [mu_i64w, Int64.ofInt_add]
    have k2 := k H locs ls hR hS hl hL (mu_okc ⟨wl_lo _, wl_hi _⟩ (mu_okt (mu_okt hst))) hz hu
    rw [List.map_cons, e1] at k2
    exact k2
  · cases hs
theorem sim_lcmp {own nm : String} {cc : ByteArray} {mx pc : Nat} {rt : Option FieldType} {lg : Bool} (h : decode cc pc = .ok (.lcmp, 1)) : mu_Sim own cc mx rt nm lg pc (s_lcmp (pc + 1)) := by
  refine ⟨fun L st G I => ⟨fun fr G1 I1 h => ?_, fun g fr G1 I1 h hg => ?_⟩, ?_⟩
  · unfold s_lcmp at h; (try split at h) <;> (try split at h) <;> (try split at h) <;> first | (cases h; done) | (cases h; exact ⟨Int.le_refl _, Int.le_refl _⟩) | (cases h; simp only [gz_gnew, gu_gnew]; omega) | (obtain ⟨-, h⟩ := mu_bif h; cases h; done) | (obtain ⟨-, h⟩ := mu_bif h; cases h; exact ⟨Int.le_refl _, Int.le_refl _⟩)
  · unfold s_lcmp at h; (try split at h) <;> (try split at h) <;> (try split at h) <;> first | (cases h; done) | (cases h; exact ⟨Int.le_refl _, Int.le_refl _⟩) | (cases h; simp only [gz_gnew, gu_gnew]; omega) | (obtain ⟨-, h⟩ := mu_bif h; cases h; done) | (obtain ⟨-, h⟩ := mu_bif h; cases h; exact ⟨Int.le_refl _, Int.le_refl _⟩)
  intro K p l e R s m args below meth c Q z0 u0 d C L st G I sr hs hok H locs ls hR hS hl hL hst hz hu
  unfold s_lcmp at hs
  split at hs
  · rename_i y x st1
    cases hs
    obtain ⟨-, -, k⟩ := hok
    have oy := mu_okh hst
    have ox := mu_okh (mu_okt hst)
    refine W.lcmp C.1 C.2.1 h ?_
    have e1 : mu_cv K (0, mu_cmp x y) = .int (lg_cmp (Int64.ofInt x) (Int64.ofInt y)) := by
      show Value.int (Int32.ofInt (mu_cmp x y)) = _
      congr 1
      unfold mu_cmp lg_cmp
      have a1 : (Int64.ofInt x > Int64.ofInt y) ↔ y < x := mu_lt64 oy.1 oy.2 ox.1 ox.2
      have a2 := mu_eq64 ox.1 ox.2 oy.1 oy.2
      by_cases b1 : y < x
      · rw [if_pos b1, if_pos (a1.mpr b1)]; rfl
      · rw [if_neg b1, if_neg (fun z => b1 (a1.mp z))]
        by_cases b2 : x = y
        · rw [if_pos b2, if_pos (a2.mpr b2)]; rfl
        · rw [if_neg b2, if_neg (fun z => b2 (a2.mp z))]; rfl
    have k2 := k H locs ls hR hS hl hL (mu_okc (by unfold mu_cmp; split <;> (try split) <;> exact ⟨by decide, by decide⟩) (mu_okt (mu_okt hst))) hz hu
    rw [List.map_cons, e1] at k2
    exact k2
  · cases hs
theorem sim_ineg {own nm : String} {cc : ByteArray} {mx pc : Nat} {rt : Option FieldType} {lg : Bool} (h : decode cc pc = .ok (.ineg, 1)) : mu_Sim own cc mx rt nm lg pc (s_ineg (pc + 1)) := by
  refine ⟨fun L st G I => ⟨fun fr G1 I1 h => ?_, fun g fr G1 I1 h hg => ?_⟩, ?_⟩
  · unfold s_ineg at h; (try split at h) <;> (try split at h) <;> (try split at h) <;> first | (cases h; done) | (cases h; exact ⟨Int.le_refl _, Int.le_refl _⟩) | (cases h; simp only [gz_gnew, gu_gnew]; omega) | (obtain ⟨-, h⟩ := mu_bif h; cases h; done) | (obtain ⟨-, h⟩ := mu_bif h; cases h; exact ⟨Int.le_refl _, Int.le_refl _⟩)
  · unfold s_ineg at h; (try split at h) <;> (try split at h) <;> (try split at h) <;> first | (cases h; done) | (cases h; exact ⟨Int.le_refl _, Int.le_refl _⟩) | (cases h; simp only [gz_gnew, gu_gnew]; omega) | (obtain ⟨-, h⟩ := mu_bif h; cases h; done) | (obtain ⟨-, h⟩ := mu_bif h; cases h; exact ⟨Int.le_refl _, Int.le_refl _⟩)
  intro K p l e R s m args below meth c Q z0 u0 d C L st G I sr hs hok H locs ls hR hS hl hL hst hz hu
  unfold s_ineg at hs
  split at hs
  · rename_i x st1
    cases hs
    obtain ⟨-, -, k⟩ := hok
    have ox := mu_okh hst
    refine lv_ineg C.1 C.2.1 h ?_
    have k2 := k H locs ls hR hS hl hL (mu_okc (⟨wr_lo _, wr_hi _⟩) (mu_okt hst)) hz hu
    refine W.eq ?_ k2
    congr 1
    rw [List.map_cons]
    congr 1
    symm
    · show Value.int (Int32.ofInt (wr (-x))) = Value.int (-Int32.ofInt x)
      rw [mu_i32w, Int32.ofInt_neg]
  · cases hs
theorem sim_i2c {own nm : String} {cc : ByteArray} {mx pc : Nat} {rt : Option FieldType} {lg : Bool} (h : decode cc pc = .ok (.i2c, 1)) : mu_Sim own cc mx rt nm lg pc (s_i2c (pc + 1)) := by
  refine ⟨fun L st G I => ⟨fun fr G1 I1 h => ?_, fun g fr G1 I1 h hg => ?_⟩, ?_⟩
  · unfold s_i2c at h; (try split at h) <;> (try split at h) <;> (try split at h) <;> first | (cases h; done) | (cases h; exact ⟨Int.le_refl _, Int.le_refl _⟩) | (cases h; simp only [gz_gnew, gu_gnew]; omega) | (obtain ⟨-, h⟩ := mu_bif h; cases h; done) | (obtain ⟨-, h⟩ := mu_bif h; cases h; exact ⟨Int.le_refl _, Int.le_refl _⟩)
  · unfold s_i2c at h; (try split at h) <;> (try split at h) <;> (try split at h) <;> first | (cases h; done) | (cases h; exact ⟨Int.le_refl _, Int.le_refl _⟩) | (cases h; simp only [gz_gnew, gu_gnew]; omega) | (obtain ⟨-, h⟩ := mu_bif h; cases h; done) | (obtain ⟨-, h⟩ := mu_bif h; cases h; exact ⟨Int.le_refl _, Int.le_refl _⟩)
  intro K p l e R s m args below meth c Q z0 u0 d C L st G I sr hs hok H locs ls hR hS hl hL hst hz hu
  unfold s_i2c at hs
  split at hs
  · rename_i x st1
    cases hs
    obtain ⟨-, -, k⟩ := hok
    have ox := mu_okh hst
    refine lv_i2c C.1 C.2.1 h rfl ?_
    have k2 := k H locs ls hR hS hl hL (mu_okc (mu_rng _) (mu_okt hst)) hz hu
    refine W.eq ?_ k2
    congr 1
    rw [List.map_cons]
    congr 1
    symm
    · show Value.int (Int32.ofInt (mu_i2c x)) = Value.int (((Int32.ofInt x).toUInt32 % 65536).toInt32)
      rw [show mu_i2c x = (((Int32.ofInt x).toUInt32 % 65536).toInt32).toInt from rfl, Int32.ofInt_toInt]
  · cases hs
theorem sim_i2b {own nm : String} {cc : ByteArray} {mx pc : Nat} {rt : Option FieldType} {lg : Bool} (h : decode cc pc = .ok (.i2b, 1)) : mu_Sim own cc mx rt nm lg pc (s_i2b (pc + 1)) := by
  refine ⟨fun L st G I => ⟨fun fr G1 I1 h => ?_, fun g fr G1 I1 h hg => ?_⟩, ?_⟩
  · unfold s_i2b at h; (try split at h) <;> (try split at h) <;> (try split at h) <;> first | (cases h; done) | (cases h; exact ⟨Int.le_refl _, Int.le_refl _⟩) | (cases h; simp only [gz_gnew, gu_gnew]; omega) | (obtain ⟨-, h⟩ := mu_bif h; cases h; done) | (obtain ⟨-, h⟩ := mu_bif h; cases h; exact ⟨Int.le_refl _, Int.le_refl _⟩)
  · unfold s_i2b at h; (try split at h) <;> (try split at h) <;> (try split at h) <;> first | (cases h; done) | (cases h; exact ⟨Int.le_refl _, Int.le_refl _⟩) | (cases h; simp only [gz_gnew, gu_gnew]; omega) | (obtain ⟨-, h⟩ := mu_bif h; cases h; done) | (obtain ⟨-, h⟩ := mu_bif h; cases h; exact ⟨Int.le_refl _, Int.le_refl _⟩)
  intro K p l e R s m args below meth c Q z0 u0 d C L st G I sr hs hok H locs ls hR hS hl hL hst hz hu
  unfold s_i2b at hs
  split at hs
  · rename_i x st1
    cases hs
    obtain ⟨-, -, k⟩ := hok
    have ox := mu_okh hst
    refine lv_i2b C.1 C.2.1 h rfl ?_
    have k2 := k H locs ls hR hS hl hL (mu_okc (mu_rng _) (mu_okt hst)) hz hu
    refine W.eq ?_ k2
    congr 1
    rw [List.map_cons]
    congr 1
    symm
    · show Value.int (Int32.ofInt (mu_i2b x)) = Value.int ((Int32.ofInt x).toInt8.toInt32)
      rw [show mu_i2b x = ((Int32.ofInt x).toInt8.toInt32).toInt from rfl, Int32.ofInt_toInt]
  · cases hs
theorem sim_i2l {own nm : String} {cc : ByteArray} {mx pc : Nat} {rt : Option FieldType} {lg : Bool} (h : decode cc pc = .ok (.i2l, 1)) : mu_Sim own cc mx rt nm lg pc (s_i2l (pc + 1)) := by
  refine ⟨fun L st G I => ⟨fun fr G1 I1 h => ?_, fun g fr G1 I1 h hg => ?_⟩, ?_⟩
  · unfold s_i2l at h; (try split at h) <;> (try split at h) <;> (try split at h) <;> first | (cases h; done) | (cases h; exact ⟨Int.le_refl _, Int.le_refl _⟩) | (cases h; simp only [gz_gnew, gu_gnew]; omega) | (obtain ⟨-, h⟩ := mu_bif h; cases h; done) | (obtain ⟨-, h⟩ := mu_bif h; cases h; exact ⟨Int.le_refl _, Int.le_refl _⟩)
  · unfold s_i2l at h; (try split at h) <;> (try split at h) <;> (try split at h) <;> first | (cases h; done) | (cases h; exact ⟨Int.le_refl _, Int.le_refl _⟩) | (cases h; simp only [gz_gnew, gu_gnew]; omega) | (obtain ⟨-, h⟩ := mu_bif h; cases h; done) | (obtain ⟨-, h⟩ := mu_bif h; cases h; exact ⟨Int.le_refl _, Int.le_refl _⟩)
  intro K p l e R s m args below meth c Q z0 u0 d C L st G I sr hs hok H locs ls hR hS hl hL hst hz hu
  unfold s_i2l at hs
  split at hs
  · rename_i x st1
    cases hs
    obtain ⟨-, -, k⟩ := hok
    have ox := mu_okh hst
    refine lv_i2l C.1 C.2.1 h (v := Int64.ofInt x) (by rw [Int32.toInt64_ofInt ox.1 ox.2]) ?_
    exact k H locs ls hR hS hl hL (mu_okc ⟨by have := ox.1; omega, by have := ox.2; omega⟩ (mu_okt hst)) hz hu
  · cases hs
theorem sim_iconst {own nm : String} {cc : ByteArray} {mx pc : Nat} {rt : Option FieldType} {lg : Bool} {n : Int} (h : decode cc pc = .ok (.iconst n, 1)) (hn : mu_okv (0, n)) : mu_Sim own cc mx rt nm lg pc (s_push n (pc + 1)) := by
  refine ⟨fun L st G I => ⟨fun fr G1 I1 h => ?_, fun g fr G1 I1 h hg => ?_⟩, ?_⟩
  · unfold s_push at h; (try split at h) <;> (try split at h) <;> (try split at h) <;> first | (cases h; done) | (cases h; exact ⟨Int.le_refl _, Int.le_refl _⟩) | (cases h; simp only [gz_gnew, gu_gnew]; omega) | (obtain ⟨-, h⟩ := mu_bif h; cases h; done) | (obtain ⟨-, h⟩ := mu_bif h; cases h; exact ⟨Int.le_refl _, Int.le_refl _⟩)
  · unfold s_push at h; (try split at h) <;> (try split at h) <;> (try split at h) <;> first | (cases h; done) | (cases h; exact ⟨Int.le_refl _, Int.le_refl _⟩) | (cases h; simp only [gz_gnew, gu_gnew]; omega) | (obtain ⟨-, h⟩ := mu_bif h; cases h; done) | (obtain ⟨-, h⟩ := mu_bif h; cases h; exact ⟨Int.le_refl _, Int.le_refl _⟩)
  intro K p l e R s m args below meth c Q z0 u0 d C L st G I sr hs hok H locs ls hR hS hl hL hst hz hu
  cases hs
  obtain ⟨-, -, k⟩ := hok
  exact lv_iconst C.1 C.2.1 h rfl (k H locs ls hR hS hl hL (mu_okc hn hst) hz hu)
theorem sim_bipush {own nm : String} {cc : ByteArray} {mx pc : Nat} {rt : Option FieldType} {lg : Bool} {n : Int} (h : decode cc pc = .ok (.bipush n, 2)) (hn : mu_okv (0, n)) (he : (Int8.ofInt n).toInt32 = Int32.ofInt n) : mu_Sim own cc mx rt nm lg pc (s_push n (pc + 2)) := by
  refine ⟨fun L st G I => ⟨fun fr G1 I1 h => ?_, fun g fr G1 I1 h hg => ?_⟩, ?_⟩
  · unfold s_push at h; (try split at h) <;> (try split at h) <;> (try split at h) <;> first | (cases h; done) | (cases h; exact ⟨Int.le_refl _, Int.le_refl _⟩) | (cases h; simp only [gz_gnew, gu_gnew]; omega) | (obtain ⟨-, h⟩ := mu_bif h; cases h; done) | (obtain ⟨-, h⟩ := mu_bif h; cases h; exact ⟨Int.le_refl _, Int.le_refl _⟩)
  · unfold s_push at h; (try split at h) <;> (try split at h) <;> (try split at h) <;> first | (cases h; done) | (cases h; exact ⟨Int.le_refl _, Int.le_refl _⟩) | (cases h; simp only [gz_gnew, gu_gnew]; omega) | (obtain ⟨-, h⟩ := mu_bif h; cases h; done) | (obtain ⟨-, h⟩ := mu_bif h; cases h; exact ⟨Int.le_refl _, Int.le_refl _⟩)
  intro K p l e R s m args below meth c Q z0 u0 d C L st G I sr hs hok H locs ls hR hS hl hL hst hz hu
  cases hs
  obtain ⟨-, -, k⟩ := hok
  exact lv_bipush C.1 C.2.1 h he (k H locs ls hR hS hl hL (mu_okc hn hst) hz hu)
theorem sim_sipush {own nm : String} {cc : ByteArray} {mx pc : Nat} {rt : Option FieldType} {lg : Bool} {n : Int} (h : decode cc pc = .ok (.sipush n, 3)) (hn : mu_okv (0, n)) (he : (Int16.ofInt n).toInt32 = Int32.ofInt n) : mu_Sim own cc mx rt nm lg pc (s_push n (pc + 3)) := by
  refine ⟨fun L st G I => ⟨fun fr G1 I1 h => ?_, fun g fr G1 I1 h hg => ?_⟩, ?_⟩
  · unfold s_push at h; (try split at h) <;> (try split at h) <;> (try split at h) <;> first | (cases h; done) | (cases h; exact ⟨Int.le_refl _, Int.le_refl _⟩) | (cases h; simp only [gz_gnew, gu_gnew]; omega) | (obtain ⟨-, h⟩ := mu_bif h; cases h; done) | (obtain ⟨-, h⟩ := mu_bif h; cases h; exact ⟨Int.le_refl _, Int.le_refl _⟩)
  · unfold s_push at h; (try split at h) <;> (try split at h) <;> (try split at h) <;> first | (cases h; done) | (cases h; exact ⟨Int.le_refl _, Int.le_refl _⟩) | (cases h; simp only [gz_gnew, gu_gnew]; omega) | (obtain ⟨-, h⟩ := mu_bif h; cases h; done) | (obtain ⟨-, h⟩ := mu_bif h; cases h; exact ⟨Int.le_refl _, Int.le_refl _⟩)
  intro K p l e R s m args below meth c Q z0 u0 d C L st G I sr hs hok H locs ls hR hS hl hL hst hz hu
  cases hs
  obtain ⟨-, -, k⟩ := hok
  exact lv_sipush C.1 C.2.1 h he (k H locs ls hR hS hl hL (mu_okc hn hst) hz hu)
theorem sim_lconst {own nm : String} {cc : ByteArray} {mx pc : Nat} {rt : Option FieldType} {lg : Bool} {n : Int} {kf : Fin 2} (h : decode cc pc = .ok (.lconst kf, 1)) (hn : mu_okv (2, n)) (hk : ((kf : Nat) : Int) = n) : mu_Sim own cc mx rt nm lg pc (s_lpush n (pc + 1)) := by
  refine ⟨fun L st G I => ⟨fun fr G1 I1 h => ?_, fun g fr G1 I1 h hg => ?_⟩, ?_⟩
  · unfold s_lpush at h; (try split at h) <;> (try split at h) <;> (try split at h) <;> first | (cases h; done) | (cases h; exact ⟨Int.le_refl _, Int.le_refl _⟩) | (cases h; simp only [gz_gnew, gu_gnew]; omega) | (obtain ⟨-, h⟩ := mu_bif h; cases h; done) | (obtain ⟨-, h⟩ := mu_bif h; cases h; exact ⟨Int.le_refl _, Int.le_refl _⟩)
  · unfold s_lpush at h; (try split at h) <;> (try split at h) <;> (try split at h) <;> first | (cases h; done) | (cases h; exact ⟨Int.le_refl _, Int.le_refl _⟩) | (cases h; simp only [gz_gnew, gu_gnew]; omega) | (obtain ⟨-, h⟩ := mu_bif h; cases h; done) | (obtain ⟨-, h⟩ := mu_bif h; cases h; exact ⟨Int.le_refl _, Int.le_refl _⟩)
  intro K p l e R s m args below meth c Q z0 u0 d C L st G I sr hs hok H locs ls hR hS hl hL hst hz hu
  cases hs
  obtain ⟨-, -, k⟩ := hok
  subst hk
  exact lv_lconst C.1 C.2.1 h (by first | rfl | exact Int64.ofInt_eq_ofNat.symm) (k H locs ls hR hS hl hL (mu_okc hn hst) hz hu)
theorem sim_ldc2 {own nm : String} {cc : ByteArray} {mx pc : Nat} {rt : Option FieldType} {lg : Bool} {n : Int} {ix : Nat} (h : decode cc pc = .ok (.ldc2_w ix, 3)) (hn : mu_okv (2, n)) (hw : Cond.constantLong own ix (Int64.ofInt n) ∈ mu_tb) : mu_Sim own cc mx rt nm lg pc (s_lpush n (pc + 3)) := by
  refine ⟨fun L st G I => ⟨fun fr G1 I1 h => ?_, fun g fr G1 I1 h hg => ?_⟩, ?_⟩
  · unfold s_lpush at h; (try split at h) <;> (try split at h) <;> (try split at h) <;> first | (cases h; done) | (cases h; exact ⟨Int.le_refl _, Int.le_refl _⟩) | (cases h; simp only [gz_gnew, gu_gnew]; omega) | (obtain ⟨-, h⟩ := mu_bif h; cases h; done) | (obtain ⟨-, h⟩ := mu_bif h; cases h; exact ⟨Int.le_refl _, Int.le_refl _⟩)
  · unfold s_lpush at h; (try split at h) <;> (try split at h) <;> (try split at h) <;> first | (cases h; done) | (cases h; exact ⟨Int.le_refl _, Int.le_refl _⟩) | (cases h; simp only [gz_gnew, gu_gnew]; omega) | (obtain ⟨-, h⟩ := mu_bif h; cases h; done) | (obtain ⟨-, h⟩ := mu_bif h; cases h; exact ⟨Int.le_refl _, Int.le_refl _⟩)
  intro K p l e R s m args below meth c Q z0 u0 d C L st G I sr hs hok H locs ls hR hS hl hL hst hz hu
  cases hs
  obtain ⟨-, -, k⟩ := hok
  exact lv_ldc2 C.1 C.2.1 C.2.2.2.1 (C.2.2.2.2.1 _ hw) h (k H locs ls hR hS hl hL (mu_okc hn hst) hz hu)
theorem sim_null {own nm : String} {cc : ByteArray} {mx pc : Nat} {rt : Option FieldType} {lg : Bool} (h : decode cc pc = .ok (.aconst_null, 1)) : mu_Sim own cc mx rt nm lg pc (s_null (pc + 1)) := by
  refine ⟨fun L st G I => ⟨fun fr G1 I1 h => ?_, fun g fr G1 I1 h hg => ?_⟩, ?_⟩
  · unfold s_null at h; (try split at h) <;> (try split at h) <;> (try split at h) <;> first | (cases h; done) | (cases h; exact ⟨Int.le_refl _, Int.le_refl _⟩) | (cases h; simp only [gz_gnew, gu_gnew]; omega) | (obtain ⟨-, h⟩ := mu_bif h; cases h; done) | (obtain ⟨-, h⟩ := mu_bif h; cases h; exact ⟨Int.le_refl _, Int.le_refl _⟩)
  · unfold s_null at h; (try split at h) <;> (try split at h) <;> (try split at h) <;> first | (cases h; done) | (cases h; exact ⟨Int.le_refl _, Int.le_refl _⟩) | (cases h; simp only [gz_gnew, gu_gnew]; omega) | (obtain ⟨-, h⟩ := mu_bif h; cases h; done) | (obtain ⟨-, h⟩ := mu_bif h; cases h; exact ⟨Int.le_refl _, Int.le_refl _⟩)
  intro K p l e R s m args below meth c Q z0 u0 d C L st G I sr hs hok H locs ls hR hS hl hL hst hz hu
  cases hs
  obtain ⟨-, -, k⟩ := hok
  exact lv_null C.1 C.2.1 h (k H locs ls hR hS hl hL (mu_okc trivial hst) hz hu)
theorem sim_iload_n {own nm : String} {cc : ByteArray} {mx pc : Nat} {rt : Option FieldType} {lg : Bool} {k : Nat} {kf : Fin 4} (h : decode cc pc = .ok (.iload_n kf, 1)) (hk : (kf : Nat) = k) : mu_Sim own cc mx rt nm lg pc (s_iload k (pc + 1)) := by
  refine ⟨fun L st G I => ⟨fun fr G1 I1 h => ?_, fun g fr G1 I1 h hg => ?_⟩, ?_⟩
  · unfold s_iload at h; (try split at h) <;> (try split at h) <;> (try split at h) <;> first | (cases h; done) | (cases h; exact ⟨Int.le_refl _, Int.le_refl _⟩) | (cases h; simp only [gz_gnew, gu_gnew]; omega) | (obtain ⟨-, h⟩ := mu_bif h; cases h; done) | (obtain ⟨-, h⟩ := mu_bif h; cases h; exact ⟨Int.le_refl _, Int.le_refl _⟩)
  · unfold s_iload at h; (try split at h) <;> (try split at h) <;> (try split at h) <;> first | (cases h; done) | (cases h; exact ⟨Int.le_refl _, Int.le_refl _⟩) | (cases h; simp only [gz_gnew, gu_gnew]; omega) | (obtain ⟨-, h⟩ := mu_bif h; cases h; done) | (obtain ⟨-, h⟩ := mu_bif h; cases h; exact ⟨Int.le_refl _, Int.le_refl _⟩)
  intro K p l e R s m args below meth c Q z0 u0 d C L st G I sr hs hok H locs ls hR hS hl hL hst hz hu
  unfold s_iload at hs
  split at hs
  · rename_i x heq
    cases hs
    obtain ⟨-, -, kk⟩ := hok
    exact lv_iload_n C.1 C.2.1 h hk (mu_ld hl heq (by decide)) (kk H locs ls hR hS hl hL (mu_okc (hL _ (List.mem_of_getElem? (mu_lg_at heq (by decide)))).1 hst) hz hu)
  · cases hs
theorem sim_iload {own nm : String} {cc : ByteArray} {mx pc : Nat} {rt : Option FieldType} {lg : Bool} {k : Nat} (h : decode cc pc = .ok (.iload k, 2)) : mu_Sim own cc mx rt nm lg pc (s_iload k (pc + 2)) := by
  refine ⟨fun L st G I => ⟨fun fr G1 I1 h => ?_, fun g fr G1 I1 h hg => ?_⟩, ?_⟩
  · unfold s_iload at h; (try split at h) <;> (try split at h) <;> (try split at h) <;> first | (cases h; done) | (cases h; exact ⟨Int.le_refl _, Int.le_refl _⟩) | (cases h; simp only [gz_gnew, gu_gnew]; omega) | (obtain ⟨-, h⟩ := mu_bif h; cases h; done) | (obtain ⟨-, h⟩ := mu_bif h; cases h; exact ⟨Int.le_refl _, Int.le_refl _⟩)
  · unfold s_iload at h; (try split at h) <;> (try split at h) <;> (try split at h) <;> first | (cases h; done) | (cases h; exact ⟨Int.le_refl _, Int.le_refl _⟩) | (cases h; simp only [gz_gnew, gu_gnew]; omega) | (obtain ⟨-, h⟩ := mu_bif h; cases h; done) | (obtain ⟨-, h⟩ := mu_bif h; cases h; exact ⟨Int.le_refl _, Int.le_refl _⟩)
  intro K p l e R s m args below meth c Q z0 u0 d C L st G I sr hs hok H locs ls hR hS hl hL hst hz hu
  unfold s_iload at hs
  split at hs
  · rename_i x heq
    cases hs
    obtain ⟨-, -, kk⟩ := hok
    exact lv_iload C.1 C.2.1 h (mu_ld hl heq (by decide)) (kk H locs ls hR hS hl hL (mu_okc (hL _ (List.mem_of_getElem? (mu_lg_at heq (by decide)))).1 hst) hz hu)
  · cases hs
theorem sim_lload_n {own nm : String} {cc : ByteArray} {mx pc : Nat} {rt : Option FieldType} {lg : Bool} {k : Nat} {kf : Fin 4} (h : decode cc pc = .ok (.lload_n kf, 1)) (hk : (kf : Nat) = k) : mu_Sim own cc mx rt nm lg pc (s_lload k (pc + 1)) := by
  refine ⟨fun L st G I => ⟨fun fr G1 I1 h => ?_, fun g fr G1 I1 h hg => ?_⟩, ?_⟩
  · unfold s_lload at h; (try split at h) <;> (try split at h) <;> (try split at h) <;> first | (cases h; done) | (cases h; exact ⟨Int.le_refl _, Int.le_refl _⟩) | (cases h; simp only [gz_gnew, gu_gnew]; omega) | (obtain ⟨-, h⟩ := mu_bif h; cases h; done) | (obtain ⟨-, h⟩ := mu_bif h; cases h; exact ⟨Int.le_refl _, Int.le_refl _⟩)
  · unfold s_lload at h; (try split at h) <;> (try split at h) <;> (try split at h) <;> first | (cases h; done) | (cases h; exact ⟨Int.le_refl _, Int.le_refl _⟩) | (cases h; simp only [gz_gnew, gu_gnew]; omega) | (obtain ⟨-, h⟩ := mu_bif h; cases h; done) | (obtain ⟨-, h⟩ := mu_bif h; cases h; exact ⟨Int.le_refl _, Int.le_refl _⟩)
  intro K p l e R s m args below meth c Q z0 u0 d C L st G I sr hs hok H locs ls hR hS hl hL hst hz hu
  unfold s_lload at hs
  split at hs
  · rename_i x heq
    cases hs
    obtain ⟨-, -, kk⟩ := hok
    exact lv_lload_n C.1 C.2.1 h hk (mu_ld hl heq (by decide)) (kk H locs ls hR hS hl hL (mu_okc (hL _ (List.mem_of_getElem? (mu_lg_at heq (by decide)))).1 hst) hz hu)
  · cases hs
theorem sim_lload {own nm : String} {cc : ByteArray} {mx pc : Nat} {rt : Option FieldType} {lg : Bool} {k : Nat} (h : decode cc pc = .ok (.lload k, 2)) : mu_Sim own cc mx rt nm lg pc (s_lload k (pc + 2)) := by
  refine ⟨fun L st G I => ⟨fun fr G1 I1 h => ?_, fun g fr G1 I1 h hg => ?_⟩, ?_⟩
  · unfold s_lload at h; (try split at h) <;> (try split at h) <;> (try split at h) <;> first | (cases h; done) | (cases h; exact ⟨Int.le_refl _, Int.le_refl _⟩) | (cases h; simp only [gz_gnew, gu_gnew]; omega) | (obtain ⟨-, h⟩ := mu_bif h; cases h; done) | (obtain ⟨-, h⟩ := mu_bif h; cases h; exact ⟨Int.le_refl _, Int.le_refl _⟩)
  · unfold s_lload at h; (try split at h) <;> (try split at h) <;> (try split at h) <;> first | (cases h; done) | (cases h; exact ⟨Int.le_refl _, Int.le_refl _⟩) | (cases h; simp only [gz_gnew, gu_gnew]; omega) | (obtain ⟨-, h⟩ := mu_bif h; cases h; done) | (obtain ⟨-, h⟩ := mu_bif h; cases h; exact ⟨Int.le_refl _, Int.le_refl _⟩)
  intro K p l e R s m args below meth c Q z0 u0 d C L st G I sr hs hok H locs ls hR hS hl hL hst hz hu
  unfold s_lload at hs
  split at hs
  · rename_i x heq
    cases hs
    obtain ⟨-, -, kk⟩ := hok
    exact lv_lload C.1 C.2.1 h (mu_ld hl heq (by decide)) (kk H locs ls hR hS hl hL (mu_okc (hL _ (List.mem_of_getElem? (mu_lg_at heq (by decide)))).1 hst) hz hu)
  · cases hs
theorem sim_aload_n {own nm : String} {cc : ByteArray} {mx pc : Nat} {rt : Option FieldType} {lg : Bool} {k : Nat} {kf : Fin 4} (h : decode cc pc = .ok (.aload_n kf, 1)) (hk : (kf : Nat) = k) : mu_Sim own cc mx rt nm lg pc (s_aload k (pc + 1)) := by
  refine ⟨fun L st G I => ⟨fun fr G1 I1 h => ?_, fun g fr G1 I1 h hg => ?_⟩, ?_⟩
  · unfold s_aload at h; (try split at h) <;> (try split at h) <;> (try split at h) <;> first | (cases h; done) | (cases h; exact ⟨Int.le_refl _, Int.le_refl _⟩) | (cases h; simp only [gz_gnew, gu_gnew]; omega) | (obtain ⟨-, h⟩ := mu_bif h; cases h; done) | (obtain ⟨-, h⟩ := mu_bif h; cases h; exact ⟨Int.le_refl _, Int.le_refl _⟩)
  · unfold s_aload at h; (try split at h) <;> (try split at h) <;> (try split at h) <;> first | (cases h; done) | (cases h; exact ⟨Int.le_refl _, Int.le_refl _⟩) | (cases h; simp only [gz_gnew, gu_gnew]; omega) | (obtain ⟨-, h⟩ := mu_bif h; cases h; done) | (obtain ⟨-, h⟩ := mu_bif h; cases h; exact ⟨Int.le_refl _, Int.le_refl _⟩)
  intro K p l e R s m args below meth c Q z0 u0 d C L st G I sr hs hok H locs ls hR hS hl hL hst hz hu
  unfold s_aload at hs
  split at hs
  · rename_i x heq
    cases hs
    obtain ⟨-, -, kk⟩ := hok
    have hv := mu_ld hl heq (by decide)
    have k2 := kk H locs ls hR hS hl hL (mu_okc (v := (1, x)) trivial hst) hz hu
    rw [List.map_cons] at k2
    change ls[k]? = some (.val (va_rf (mu_ro K x))) at hv
    change W p l e R s m args below meth c H locs _ _ Q (F0 m _ ls (va_rf (mu_ro K x) :: _)) at k2
    generalize mu_ro K x = r at hv k2
    cases r with
    | none => exact lv_aload_nN C.1 C.2.1 h hk hv k2
    | some a => exact lv_aload_n C.1 C.2.1 h hk hv k2
  · cases hs
theorem sim_aload {own nm : String} {cc : ByteArray} {mx pc : Nat} {rt : Option FieldType} {lg : Bool} {k : Nat} (h : decode cc pc = .ok (.aload k, 2)) : mu_Sim own cc mx rt nm lg pc (s_aload k (pc + 2)) := by
  refine ⟨fun L st G I => ⟨fun fr G1 I1 h => ?_, fun g fr G1 I1 h hg => ?_⟩, ?_⟩
  · unfold s_aload at h; (try split at h) <;> (try split at h) <;> (try split at h) <;> first | (cases h; done) | (cases h; exact ⟨Int.le_refl _, Int.le_refl _⟩) | (cases h; simp only [gz_gnew, gu_gnew]; omega) | (obtain ⟨-, h⟩ := mu_bif h; cases h; done) | (obtain ⟨-, h⟩ := mu_bif h; cases h; exact ⟨Int.le_refl _, Int.le_refl _⟩)
  · unfold s_aload at h; (try split at h) <;> (try split at h) <;> (try split at h) <;> first | (cases h; done) | (cases h; exact ⟨Int.le_refl _, Int.le_refl _⟩) | (cases h; simp only [gz_gnew, gu_gnew]; omega) | (obtain ⟨-, h⟩ := mu_bif h; cases h; done) | (obtain ⟨-, h⟩ := mu_bif h; cases h; exact ⟨Int.le_refl _, Int.le_refl _⟩)
  intro K p l e R s m args below meth c Q z0 u0 d C L st G I sr hs hok H locs ls hR hS hl hL hst hz hu
  unfold s_aload at hs
  split at hs
  · rename_i x heq
    cases hs
    obtain ⟨-, -, kk⟩ := hok
    have hv := mu_ld hl heq (by decide)
    have k2 := kk H locs ls hR hS hl hL (mu_okc (v := (1, x)) trivial hst) hz hu
    rw [List.map_cons] at k2
    change ls[k]? = some (.val (va_rf (mu_ro K x))) at hv
    change W p l e R s m args below meth c H locs _ _ Q (F0 m _ ls (va_rf (mu_ro K x) :: _)) at k2
    generalize mu_ro K x = r at hv k2
    cases r with
    | none => exact lv_aloadN C.1 C.2.1 h hv k2
    | some a => exact lv_aload C.1 C.2.1 h hv k2
  · cases hs
theorem mu_stI {K : mu_K} {lg : Bool} {mx k : Nat} {v : mu_V} {L : List mu_V} {ls1 : Array Slot} (hv : v.1 = 0 ∨ v.1 = 1) (hL : ∀ w ∈ L, mu_okv w ∧ (lg = false → w.1 ≠ 2)) (hno : ∀ (j : Nat) (w : mu_V), L[j]? = some w → j + 1 = k → w.1 ≠ 2) (hl1 : lv_has ls1 mx ((k, mu_cv K v) :: (mu_lv K 0 L).filter (fun q => !(q.1 == k) && !(q.1 + 1 == k && q.2.category == 2)))) : lv_has ls1 mx (mu_lv K 0 (mu_ls L k v)) := by
  refine lv_less hl1 fun q hq => ?_
  obtain ⟨j, t, x, h1, h2, h3⟩ := mu_lv_mem.mp hq
  rw [Nat.zero_add] at h3
  rcases mu_ls_at h1 with ⟨a1, a2⟩ | ⟨a1, a2⟩
  · rw [h3, a1, a2]
    exact List.mem_cons_self
  · refine List.mem_cons_of_mem _ (List.mem_filter.mpr ⟨mu_lv_mem.mpr ⟨j, t, x, a2, h2, by rw [h3, Nat.zero_add]⟩, ?_⟩)
    rw [h3]
    have b1 : (j == k) = false := by simpa using a1
    simp only [b1, Bool.not_false, Bool.true_and]
    by_cases b2 : j + 1 = k
    · have b3 := hno j _ a2 b2
      have b4 : (mu_cv K (t, x)).category ≠ 2 := by
        match t, h2, b3 with
        | 0, _, _ => show (1 : Nat) ≠ 2; decide
        | 1, _, _ =>
          show (va_rf (mu_ro K x)).category ≠ 2
          cases mu_ro K x <;> (show (1 : Nat) ≠ 2; decide)
        | 2, _, b3 => exact absurd rfl b3
        | 3, h2, _ => exact absurd rfl h2
        | n + 4, _, _ => have := mu_ok4 (hL _ (List.mem_of_getElem? a2)).1; omega
      simp [b4]
    · simp [b2]
theorem mu_lsOk {lg : Bool} {k : Nat} {v : mu_V} {L : List mu_V} (hL : ∀ w ∈ L, mu_okv w ∧ (lg = false → w.1 ≠ 2)) (hv : mu_okv v ∧ (lg = false → v.1 ≠ 2)) : ∀ w ∈ mu_ls L k v, mu_okv w ∧ (lg = false → w.1 ≠ 2) := by
  intro w hw
  obtain ⟨j, hj⟩ := List.getElem?_of_mem hw
  rcases mu_ls_at hj with ⟨a1, a2⟩ | ⟨a1, a2⟩
  · rw [a2]; exact hv
  · exact hL w (List.mem_of_getElem? a2)
theorem mu_lg_no {L : List mu_V} {k j t : Nat} {x : Int} {w : mu_V} (h : mu_lg L (k - 1) = (t, x)) (hw : L[j]? = some w) (hj : j + 1 = k) : w = (t, x) := by
  have e : k - 1 = j := by omega
  rw [e] at h
  clear hj e
  induction L generalizing j with
  | nil => cases hw
  | cons v r ih =>
    cases j with
    | zero => cases hw; exact h
    | succ j => exact ih h hw
theorem mu_stL {K : mu_K} {lg : Bool} {mx k : Nat} {x : Int} {L : List mu_V} {ls1 : Array Slot} (hL : ∀ w ∈ L, mu_okv w ∧ (lg = false → w.1 ≠ 2)) (hno : ∀ (j : Nat) (w : mu_V), L[j]? = some w → j + 1 = k → w.1 ≠ 2) (hl1 : lv_has ls1 mx ((k, Value.long (Int64.ofInt x)) :: (mu_lv K 0 L).filter (fun q => !(q.1 == k) && (!(q.1 == k + 1) && !(q.1 + 1 == k && q.2.category == 2))))) : lv_has ls1 mx (mu_lv K 0 (mu_ls (mu_ls L k (2, x)) (k + 1) (3, 0))) := by
  refine lv_less hl1 fun q hq => ?_
  obtain ⟨j, t, x1, h1, h2, h3⟩ := mu_lv_mem.mp hq
  rw [Nat.zero_add] at h3
  rcases mu_ls_at h1 with ⟨a1, a2⟩ | ⟨a1, a2⟩
  · cases a2; exact absurd rfl h2
  rcases mu_ls_at a2 with ⟨b1, b2⟩ | ⟨b1, b2⟩
  · cases b2
    rw [h3, b1]
    exact List.mem_cons_self
  · refine List.mem_cons_of_mem _ (List.mem_filter.mpr ⟨mu_lv_mem.mpr ⟨j, t, x1, b2, h2, by rw [h3, Nat.zero_add]⟩, ?_⟩)
    rw [h3]
    have c1 : (j == k) = false := by simpa using b1
    have c2 : (j == k + 1) = false := by simpa using a1
    simp only [c1, c2, Bool.not_false, Bool.true_and]
    by_cases c3 : j + 1 = k
    · have c4 := hno j _ b2 c3
      have c5 : (mu_cv K (t, x1)).category ≠ 2 := by
        match t, h2, c4 with
        | 0, _, _ => show (1 : Nat) ≠ 2; decide
        | 1, _, _ =>
          show (va_rf (mu_ro K x1)).category ≠ 2
          cases mu_ro K x1 <;> (show (1 : Nat) ≠ 2; decide)
        | 2, _, c4 => exact absurd rfl c4
        | 3, h2, _ => exact absurd rfl h2
        | n + 4, _, _ => have := mu_ok4 (hL _ (List.mem_of_getElem? b2)).1; omega
      simp [c5]
    · simp [c3]
theorem sim_istore_n {own nm : String} {cc : ByteArray} {mx pc : Nat} {rt : Option FieldType} {lg : Bool} {k : Nat} {kf : Fin 4} (h : decode cc pc = .ok (.istore_n kf, 1)) (hk : (kf : Nat) = k) (hm : k < mx) (hg : lg = false) : mu_Sim own cc mx rt nm lg pc (s_istore k (pc + 1)) := by
  refine ⟨fun L st G I => ⟨fun fr G1 I1 h => ?_, fun g fr G1 I1 h hg => ?_⟩, ?_⟩
  · unfold s_istore at h; (try split at h) <;> (try split at h) <;> (try split at h) <;> first | (cases h; done) | (cases h; exact ⟨Int.le_refl _, Int.le_refl _⟩) | (cases h; simp only [gz_gnew, gu_gnew]; omega) | (obtain ⟨-, h⟩ := mu_bif h; cases h; done) | (obtain ⟨-, h⟩ := mu_bif h; cases h; exact ⟨Int.le_refl _, Int.le_refl _⟩)
  · unfold s_istore at h; (try split at h) <;> (try split at h) <;> (try split at h) <;> first | (cases h; done) | (cases h; exact ⟨Int.le_refl _, Int.le_refl _⟩) | (cases h; simp only [gz_gnew, gu_gnew]; omega) | (obtain ⟨-, h⟩ := mu_bif h; cases h; done) | (obtain ⟨-, h⟩ := mu_bif h; cases h; exact ⟨Int.le_refl _, Int.le_refl _⟩)
  intro K p l e R s m args below meth c Q z0 u0 d C L st G I sr hs hok H locs ls hR hS hl hL hst hz hu
  unfold s_istore at hs
  split at hs
  · rename_i x st1
    cases hs
    obtain ⟨-, -, kk⟩ := hok
    have ox := mu_okh hst
    refine lv_istore_n C.1 C.2.1 h hk hl hm rfl (fun ls1 hl1 => ?_)
    exact kk H locs ls1 hR hS (mu_stI (v := (0, x)) (by simp) hL (fun j w hw _ => (hL w (List.mem_of_getElem? hw)).2 hg) hl1) (mu_lsOk hL ⟨ox, fun _ => by simp⟩) (mu_okt hst) hz hu
  · cases hs
theorem sim_istore {own nm : String} {cc : ByteArray} {mx pc : Nat} {rt : Option FieldType} {lg : Bool} {k : Nat} (h : decode cc pc = .ok (.istore k, 2)) (hm : k < mx) (hg : lg = false) : mu_Sim own cc mx rt nm lg pc (s_istore k (pc + 2)) := by
  refine ⟨fun L st G I => ⟨fun fr G1 I1 h => ?_, fun g fr G1 I1 h hg => ?_⟩, ?_⟩
  · unfold s_istore at h; (try split at h) <;> (try split at h) <;> (try split at h) <;> first | (cases h; done) | (cases h; exact ⟨Int.le_refl _, Int.le_refl _⟩) | (cases h; simp only [gz_gnew, gu_gnew]; omega) | (obtain ⟨-, h⟩ := mu_bif h; cases h; done) | (obtain ⟨-, h⟩ := mu_bif h; cases h; exact ⟨Int.le_refl _, Int.le_refl _⟩)
  · unfold s_istore at h; (try split at h) <;> (try split at h) <;> (try split at h) <;> first | (cases h; done) | (cases h; exact ⟨Int.le_refl _, Int.le_refl _⟩) | (cases h; simp only [gz_gnew, gu_gnew]; omega) | (obtain ⟨-, h⟩ := mu_bif h; cases h; done) | (obtain ⟨-, h⟩ := mu_bif h; cases h; exact ⟨Int.le_refl _, Int.le_refl _⟩)
  intro K p l e R s m args below meth c Q z0 u0 d C L st G I sr hs hok H locs ls hR hS hl hL hst hz hu
  unfold s_istore at hs
  split at hs
  · rename_i x st1
    cases hs
    obtain ⟨-, -, kk⟩ := hok
    have ox := mu_okh hst
    refine lv_istore C.1 C.2.1 h hl hm rfl (fun ls1 hl1 => ?_)
    exact kk H locs ls1 hR hS (mu_stI (v := (0, x)) (by simp) hL (fun j w hw _ => (hL w (List.mem_of_getElem? hw)).2 hg) hl1) (mu_lsOk hL ⟨ox, fun _ => by simp⟩) (mu_okt hst) hz hu
  · cases hs
theorem sim_astore_n {own nm : String} {cc : ByteArray} {mx pc : Nat} {rt : Option FieldType} {lg : Bool} {k : Nat} {kf : Fin 4} (h : decode cc pc = .ok (.astore_n kf, 1)) (hk : (kf : Nat) = k) (hm : k < mx) (hg : lg = false) : mu_Sim own cc mx rt nm lg pc (s_astore k (pc + 1)) := by
  refine ⟨fun L st G I => ⟨fun fr G1 I1 h => ?_, fun g fr G1 I1 h hg => ?_⟩, ?_⟩
  · unfold s_astore at h; (try split at h) <;> (try split at h) <;> (try split at h) <;> first | (cases h; done) | (cases h; exact ⟨Int.le_refl _, Int.le_refl _⟩) | (cases h; simp only [gz_gnew, gu_gnew]; omega) | (obtain ⟨-, h⟩ := mu_bif h; cases h; done) | (obtain ⟨-, h⟩ := mu_bif h; cases h; exact ⟨Int.le_refl _, Int.le_refl _⟩)
  · unfold s_astore at h; (try split at h) <;> (try split at h) <;> (try split at h) <;> first | (cases h; done) | (cases h; exact ⟨Int.le_refl _, Int.le_refl _⟩) | (cases h; simp only [gz_gnew, gu_gnew]; omega) | (obtain ⟨-, h⟩ := mu_bif h; cases h; done) | (obtain ⟨-, h⟩ := mu_bif h; cases h; exact ⟨Int.le_refl _, Int.le_refl _⟩)
  intro K p l e R s m args below meth c Q z0 u0 d C L st G I sr hs hok H locs ls hR hS hl hL hst hz hu
  unfold s_astore at hs
  split at hs
  · rename_i x st1
    cases hs
    obtain ⟨-, -, kk⟩ := hok
    have ox := mu_okh hst
    have key : mu_cv K (1, x) = va_rf (mu_ro K x) := rfl
    have hst2 : ∀ ls1 : Array Slot, lv_has ls1 mx ((k, va_rf (mu_ro K x)) :: (mu_lv K 0 L).filter (fun q => !(q.1 == k) && !(q.1 + 1 == k && q.2.category == 2))) → W p l e R s m args below meth c H locs (gz G - z0).toNat (gu G - u0).toNat Q (F0 m (pc + 1) ls1 (st1.map (mu_cv K))) := fun ls1 hl1 =>
      kk H locs ls1 hR hS (mu_stI (v := (1, x)) (by simp) hL (fun j w hw _ => (hL w (List.mem_of_getElem? hw)).2 hg) hl1) (mu_lsOk hL ⟨ox, fun _ => by simp⟩) (mu_okt hst) hz hu
    show W p l e R s m args below meth c H locs _ _ Q (F0 m pc ls (va_rf (mu_ro K x) :: st1.map (mu_cv K)))
    generalize mu_ro K x = r at hst2 ⊢
    cases r with
    | none => exact lv_astore_nN C.1 C.2.1 h hk hl hm rfl hst2
    | some a => exact lv_astore_n C.1 C.2.1 h hk hl hm rfl hst2
  · cases hs
theorem sim_astore {own nm : String} {cc : ByteArray} {mx pc : Nat} {rt : Option FieldType} {lg : Bool} {k : Nat} (h : decode cc pc = .ok (.astore k, 2)) (hm : k < mx) (hg : lg = false) : mu_Sim own cc mx rt nm lg pc (s_astore k (pc + 2)) := by
  refine ⟨fun L st G I => ⟨fun fr G1 I1 h => ?_, fun g fr G1 I1 h hg => ?_⟩, ?_⟩
  · unfold s_astore at h; (try split at h) <;> (try split at h) <;> (try split at h) <;> first | (cases h; done) | (cases h; exact ⟨Int.le_refl _, Int.le_refl _⟩) | (cases h; simp only [gz_gnew, gu_gnew]; omega) | (obtain ⟨-, h⟩ := mu_bif h; cases h; done) | (obtain ⟨-, h⟩ := mu_bif h; cases h; exact ⟨Int.le_refl _, Int.le_refl _⟩)
  · unfold s_astore at h; (try split at h) <;> (try split at h) <;> (try split at h) <;> first | (cases h; done) | (cases h; exact ⟨Int.le_refl _, Int.le_refl _⟩) | (cases h; simp only [gz_gnew, gu_gnew]; omega) | (obtain ⟨-, h⟩ := mu_bif h; cases h; done) | (obtain ⟨-, h⟩ := mu_bif h; cases h; exact ⟨Int.le_refl _, Int.le_refl _⟩)
  intro K p l e R s m args below meth c Q z0 u0 d C L st G I sr hs hok H locs ls hR hS hl hL hst hz hu
  unfold s_astore at hs
  split at hs
  · rename_i x st1
    cases hs
    obtain ⟨-, -, kk⟩ := hok
    have ox := mu_okh hst
    have key : mu_cv K (1, x) = va_rf (mu_ro K x) := rfl
    have hst2 : ∀ ls1 : Array Slot, lv_has ls1 mx ((k, va_rf (mu_ro K x)) :: (mu_lv K 0 L).filter (fun q => !(q.1 == k) && !(q.1 + 1 == k && q.2.category == 2))) → W p l e R s m args below meth c H locs (gz G - z0).toNat (gu G - u0).toNat Q (F0 m (pc + 2) ls1 (st1.map (mu_cv K))) := fun ls1 hl1 =>
      kk H locs ls1 hR hS (mu_stI (v := (1, x)) (by simp) hL (fun j w hw _ => (hL w (List.mem_of_getElem? hw)).2 hg) hl1) (mu_lsOk hL ⟨ox, fun _ => by simp⟩) (mu_okt hst) hz hu
    show W p l e R s m args below meth c H locs _ _ Q (F0 m pc ls (va_rf (mu_ro K x) :: st1.map (mu_cv K)))
    generalize mu_ro K x = r at hst2 ⊢
    cases r with
    | none => exact lv_astoreN C.1 C.2.1 h hl hm rfl hst2
    | some a => exact lv_astore C.1 C.2.1 h hl hm rfl hst2
  · cases hs
theorem sim_istoreX_n {own nm : String} {cc : ByteArray} {mx pc : Nat} {rt : Option FieldType} {lg : Bool} {k : Nat} {kf : Fin 4} (h : decode cc pc = .ok (.istore_n kf, 1)) (hk : (kf : Nat) = k) (hm : k < mx) : mu_Sim own cc mx rt nm lg pc (s_istoreX k (pc + 1)) := by
  refine ⟨fun L st G I => ⟨fun fr G1 I1 h => ?_, fun g fr G1 I1 h hg => ?_⟩, ?_⟩
  · unfold s_istoreX at h; (try split at h) <;> (try split at h) <;> (try split at h) <;> first | (cases h; done) | (cases h; exact ⟨Int.le_refl _, Int.le_refl _⟩) | (cases h; simp only [gz_gnew, gu_gnew]; omega) | (obtain ⟨-, h⟩ := mu_bif h; cases h; done) | (obtain ⟨-, h⟩ := mu_bif h; cases h; exact ⟨Int.le_refl _, Int.le_refl _⟩)
  · unfold s_istoreX at h; (try split at h) <;> (try split at h) <;> (try split at h) <;> first | (cases h; done) | (cases h; exact ⟨Int.le_refl _, Int.le_refl _⟩) | (cases h; simp only [gz_gnew, gu_gnew]; omega) | (obtain ⟨-, h⟩ := mu_bif h; cases h; done) | (obtain ⟨-, h⟩ := mu_bif h; cases h; exact ⟨Int.le_refl _, Int.le_refl _⟩)
  intro K p l e R s m args below meth c Q z0 u0 d C L st G I sr hs hok H locs ls hR hS hl hL hst hz hu
  unfold s_istoreX at hs
  split at hs
  · rename_i x st1
    have ox := mu_okh hst
    split at hs
    · rename_i heq
      cases hs
      obtain ⟨-, -, kk⟩ := hok
      refine lv_istore_n C.1 C.2.1 h hk hl hm rfl (fun ls1 hl1 => ?_)
      exact kk H locs ls1 hR hS (mu_stI (v := (0, x)) (by simp) hL (fun j w hw hj => by
        have e1 := mu_lg_no heq hw hj
        rw [e1]; simp) hl1) (mu_lsOk hL ⟨ox, fun _ => by simp⟩) (mu_okt hst) hz hu
    · rename_i heq
      cases hs
      obtain ⟨-, -, kk⟩ := hok
      refine lv_istore_n C.1 C.2.1 h hk hl hm rfl (fun ls1 hl1 => ?_)
      exact kk H locs ls1 hR hS (mu_stI (v := (0, x)) (by simp) hL (fun j w hw hj => by
        have e1 := mu_lg_no heq hw hj
        rw [e1]; simp) hl1) (mu_lsOk hL ⟨ox, fun _ => by simp⟩) (mu_okt hst) hz hu
    · cases hs
  · cases hs
theorem sim_lstore_n {own nm : String} {cc : ByteArray} {mx pc : Nat} {rt : Option FieldType} {lg : Bool} {k : Nat} {kf : Fin 4} (h : decode cc pc = .ok (.lstore_n kf, 1)) (hk : (kf : Nat) = k) (hm : k + 1 < mx) (hg : lg = true) : mu_Sim own cc mx rt nm lg pc (s_lstore k (pc + 1)) := by
  refine ⟨fun L st G I => ⟨fun fr G1 I1 h => ?_, fun g fr G1 I1 h hg => ?_⟩, ?_⟩
  · unfold s_lstore at h; (try split at h) <;> (try split at h) <;> (try split at h) <;> first | (cases h; done) | (cases h; exact ⟨Int.le_refl _, Int.le_refl _⟩) | (cases h; simp only [gz_gnew, gu_gnew]; omega) | (obtain ⟨-, h⟩ := mu_bif h; cases h; done) | (obtain ⟨-, h⟩ := mu_bif h; cases h; exact ⟨Int.le_refl _, Int.le_refl _⟩)
  · unfold s_lstore at h; (try split at h) <;> (try split at h) <;> (try split at h) <;> first | (cases h; done) | (cases h; exact ⟨Int.le_refl _, Int.le_refl _⟩) | (cases h; simp only [gz_gnew, gu_gnew]; omega) | (obtain ⟨-, h⟩ := mu_bif h; cases h; done) | (obtain ⟨-, h⟩ := mu_bif h; cases h; exact ⟨Int.le_refl _, Int.le_refl _⟩)
  intro K p l e R s m args below meth c Q z0 u0 d C L st G I sr hs hok H locs ls hR hS hl hL hst hz hu
  unfold s_lstore at hs
  split at hs
  · rename_i x st1
    have ox := mu_okh hst
    split at hs
    · rename_i heq
      cases hs
      obtain ⟨-, -, kk⟩ := hok
      refine lv_lstore_n C.1 C.2.1 h hk hl hm rfl (fun ls1 hl1 => ?_)
      exact kk H locs ls1 hR hS (mu_stL hL (fun j w hw hj => by
        have e1 := mu_lg_no heq hw hj
        rw [e1]; simp) hl1) (mu_lsOk (mu_lsOk hL ⟨ox, fun z => by rw [hg] at z; cases z⟩) ⟨trivial, fun _ => by simp⟩) (mu_okt hst) hz hu
    · rename_i heq
      cases hs
      obtain ⟨-, -, kk⟩ := hok
      refine lv_lstore_n C.1 C.2.1 h hk hl hm rfl (fun ls1 hl1 => ?_)
      exact kk H locs ls1 hR hS (mu_stL hL (fun j w hw hj => by
        have e1 := mu_lg_no heq hw hj
        rw [e1]; simp) hl1) (mu_lsOk (mu_lsOk hL ⟨ox, fun z => by rw [hg] at z; cases z⟩) ⟨trivial, fun _ => by simp⟩) (mu_okt hst) hz hu
    · cases hs
  · cases hs
theorem sim_istoreX {own nm : String} {cc : ByteArray} {mx pc : Nat} {rt : Option FieldType} {lg : Bool} {k : Nat} (h : decode cc pc = .ok (.istore k, 2)) (hm : k < mx) : mu_Sim own cc mx rt nm lg pc (s_istoreX k (pc + 2)) := by
  refine ⟨fun L st G I => ⟨fun fr G1 I1 h => ?_, fun g fr G1 I1 h hg => ?_⟩, ?_⟩
  · unfold s_istoreX at h; (try split at h) <;> (try split at h) <;> (try split at h) <;> first | (cases h; done) | (cases h; exact ⟨Int.le_refl _, Int.le_refl _⟩) | (cases h; simp only [gz_gnew, gu_gnew]; omega) | (obtain ⟨-, h⟩ := mu_bif h; cases h; done) | (obtain ⟨-, h⟩ := mu_bif h; cases h; exact ⟨Int.le_refl _, Int.le_refl _⟩)
  · unfold s_istoreX at h; (try split at h) <;> (try split at h) <;> (try split at h) <;> first | (cases h; done) | (cases h; exact ⟨Int.le_refl _, Int.le_refl _⟩) | (cases h; simp only [gz_gnew, gu_gnew]; omega) | (obtain ⟨-, h⟩ := mu_bif h; cases h; done) | (obtain ⟨-, h⟩ := mu_bif h; cases h; exact ⟨Int.le_refl _, Int.le_refl _⟩)
  intro K p l e R s m args below meth c Q z0 u0 d C L st G I sr hs hok H locs ls hR hS hl hL hst hz hu
  unfold s_istoreX at hs
  split at hs
  · rename_i x st1
    have ox := mu_okh hst
    split at hs
    · rename_i heq
      cases hs
      obtain ⟨-, -, kk⟩ := hok
      refine lv_istore C.1 C.2.1 h hl hm rfl (fun ls1 hl1 => ?_)
      exact kk H locs ls1 hR hS (mu_stI (v := (0, x)) (by simp) hL (fun j w hw hj => by
        have e1 := mu_lg_no heq hw hj
        rw [e1]; simp) hl1) (mu_lsOk hL ⟨ox, fun _ => by simp⟩) (mu_okt hst) hz hu
    · rename_i heq
      cases hs
      obtain ⟨-, -, kk⟩ := hok
      refine lv_istore C.1 C.2.1 h hl hm rfl (fun ls1 hl1 => ?_)
      exact kk H locs ls1 hR hS (mu_stI (v := (0, x)) (by simp) hL (fun j w hw hj => by
        have e1 := mu_lg_no heq hw hj
        rw [e1]; simp) hl1) (mu_lsOk hL ⟨ox, fun _ => by simp⟩) (mu_okt hst) hz hu
    · cases hs
  · cases hs
theorem sim_lstore {own nm : String} {cc : ByteArray} {mx pc : Nat} {rt : Option FieldType} {lg : Bool} {k : Nat} (h : decode cc pc = .ok (.lstore k, 2)) (hm : k + 1 < mx) (hg : lg = true) : mu_Sim own cc mx rt nm lg pc (s_lstore k (pc + 2)) := by
  refine ⟨fun L st G I => ⟨fun fr G1 I1 h => ?_, fun g fr G1 I1 h hg => ?_⟩, ?_⟩
  · unfold s_lstore at h; (try split at h) <;> (try split at h) <;> (try split at h) <;> first | (cases h; done) | (cases h; exact ⟨Int.le_refl _, Int.le_refl _⟩) | (cases h; simp only [gz_gnew, gu_gnew]; omega) | (obtain ⟨-, h⟩ := mu_bif h; cases h; done) | (obtain ⟨-, h⟩ := mu_bif h; cases h; exact ⟨Int.le_refl _, Int.le_refl _⟩)
  · unfold s_lstore at h; (try split at h) <;> (try split at h) <;> (try split at h) <;> first | (cases h; done) | (cases h; exact ⟨Int.le_refl _, Int.le_refl _⟩) | (cases h; simp only [gz_gnew, gu_gnew]; omega) | (obtain ⟨-, h⟩ := mu_bif h; cases h; done) | (obtain ⟨-, h⟩ := mu_bif h; cases h; exact ⟨Int.le_refl _, Int.le_refl _⟩)
  intro K p l e R s m args below meth c Q z0 u0 d C L st G I sr hs hok H locs ls hR hS hl hL hst hz hu
  unfold s_lstore at hs
  split at hs
  · rename_i x st1
    have ox := mu_okh hst
    split at hs
    · rename_i heq
      cases hs
      obtain ⟨-, -, kk⟩ := hok
      refine lv_lstore C.1 C.2.1 h hl hm rfl (fun ls1 hl1 => ?_)
      exact kk H locs ls1 hR hS (mu_stL hL (fun j w hw hj => by
        have e1 := mu_lg_no heq hw hj
        rw [e1]; simp) hl1) (mu_lsOk (mu_lsOk hL ⟨ox, fun z => by rw [hg] at z; cases z⟩) ⟨trivial, fun _ => by simp⟩) (mu_okt hst) hz hu
    · rename_i heq
      cases hs
      obtain ⟨-, -, kk⟩ := hok
      refine lv_lstore C.1 C.2.1 h hl hm rfl (fun ls1 hl1 => ?_)
      exact kk H locs ls1 hR hS (mu_stL hL (fun j w hw hj => by
        have e1 := mu_lg_no heq hw hj
        rw [e1]; simp) hl1) (mu_lsOk (mu_lsOk hL ⟨ox, fun z => by rw [hg] at z; cases z⟩) ⟨trivial, fun _ => by simp⟩) (mu_okt hst) hz hu
    · cases hs
  · cases hs
theorem sim_iinc {own nm : String} {cc : ByteArray} {mx pc : Nat} {rt : Option FieldType} {lg : Bool} {k : Nat} {n : Int} (h : decode cc pc = .ok (.iinc k n, 3)) (hm : k < mx) : mu_Sim own cc mx rt nm lg pc (s_iinc k n (pc + 3)) := by
  refine ⟨fun L st G I => ⟨fun fr G1 I1 h => ?_, fun g fr G1 I1 h hg => ?_⟩, ?_⟩
  · unfold s_iinc at h; (try split at h) <;> (try split at h) <;> (try split at h) <;> first | (cases h; done) | (cases h; exact ⟨Int.le_refl _, Int.le_refl _⟩) | (cases h; simp only [gz_gnew, gu_gnew]; omega) | (obtain ⟨-, h⟩ := mu_bif h; cases h; done) | (obtain ⟨-, h⟩ := mu_bif h; cases h; exact ⟨Int.le_refl _, Int.le_refl _⟩)
  · unfold s_iinc at h; (try split at h) <;> (try split at h) <;> (try split at h) <;> first | (cases h; done) | (cases h; exact ⟨Int.le_refl _, Int.le_refl _⟩) | (cases h; simp only [gz_gnew, gu_gnew]; omega) | (obtain ⟨-, h⟩ := mu_bif h; cases h; done) | (obtain ⟨-, h⟩ := mu_bif h; cases h; exact ⟨Int.le_refl _, Int.le_refl _⟩)
  intro K p l e R s m args below meth c Q z0 u0 d C L st G I sr hs hok H locs ls hR hS hl hL hst hz hu
  unfold s_iinc at hs
  split at hs
  · rename_i x heq
    cases hs
    obtain ⟨-, -, kk⟩ := hok
    have hat := mu_lg_at heq (by decide)
    have hmem : (k, Value.int (Int32.ofInt x)) ∈ mu_lv K 0 L := mu_lv_mem.mpr ⟨k, 0, x, hat, by decide, by rw [Nat.zero_add]; rfl⟩
    obtain ⟨j, hj⟩ := List.getElem?_of_mem hmem
    refine lv_iinc (v := Int32.ofInt (wr (x + n))) C.1 C.2.1 h hl hj (by rw [mu_i32w, Int32.ofInt_add]) hm rfl (fun ls1 hl1 => ?_)
    refine kk H locs ls1 hR hS (mu_stI (v := (0, wr (x + n))) (by simp) hL (fun i w hw hi => ?_) hl1) (mu_lsOk hL ⟨⟨wr_lo _, wr_hi _⟩, fun _ => by simp⟩) hst hz hu
    intro hw2
    have hw3 := hl.2.1.1 i (mu_cv K w) (hl.2.2 (i, mu_cv K w) (mu_lv_mem.mpr ⟨i, w.1, w.2, hw, by rw [hw2]; decide, by rw [Nat.zero_add]⟩)) (by obtain ⟨w1, w2⟩ := w; cases hw2; rfl)
    have hw4 := hl.2.2 _ hmem
    rw [hi, hw4] at hw3
    cases hw3
  · cases hs
theorem sim_dup {own nm : String} {cc : ByteArray} {mx pc : Nat} {rt : Option FieldType} {lg : Bool} (h : decode cc pc = .ok (.dup, 1)) : mu_Sim own cc mx rt nm lg pc (s_dup (pc + 1)) := by
  refine ⟨fun L st G I => ⟨fun fr G1 I1 h => ?_, fun g fr G1 I1 h hg => ?_⟩, ?_⟩
  · unfold s_dup at h; (try split at h) <;> (try split at h) <;> (try split at h) <;> first | (cases h; done) | (cases h; exact ⟨Int.le_refl _, Int.le_refl _⟩) | (cases h; simp only [gz_gnew, gu_gnew]; omega) | (obtain ⟨-, h⟩ := mu_bif h; cases h; done) | (obtain ⟨-, h⟩ := mu_bif h; cases h; exact ⟨Int.le_refl _, Int.le_refl _⟩)
  · unfold s_dup at h; (try split at h) <;> (try split at h) <;> (try split at h) <;> first | (cases h; done) | (cases h; exact ⟨Int.le_refl _, Int.le_refl _⟩) | (cases h; simp only [gz_gnew, gu_gnew]; omega) | (obtain ⟨-, h⟩ := mu_bif h; cases h; done) | (obtain ⟨-, h⟩ := mu_bif h; cases h; exact ⟨Int.le_refl _, Int.le_refl _⟩)
  intro K p l e R s m args below meth c Q z0 u0 d C L st G I sr hs hok H locs ls hR hS hl hL hst hz hu
  unfold s_dup at hs
  split at hs
  · rename_i x st1
    cases hs
    obtain ⟨-, -, kk⟩ := hok
    exact lv_dup C.1 C.2.1 h rfl (kk H locs ls hR hS hl hL (mu_okc (mu_okh hst) hst) hz hu)
  · rename_i x st1
    cases hs
    obtain ⟨-, -, kk⟩ := hok
    exact lv_dup C.1 C.2.1 h (mu_cat (t := 1) (by decide) (by decide) (by decide)) (kk H locs ls hR hS hl hL (mu_okc (mu_okh hst) hst) hz hu)
  · cases hs
theorem sim_dup2 {own nm : String} {cc : ByteArray} {mx pc : Nat} {rt : Option FieldType} {lg : Bool} (h : decode cc pc = .ok (.dup2, 1)) : mu_Sim own cc mx rt nm lg pc (s_dup2 (pc + 1)) := by
  refine ⟨fun L st G I => ⟨fun fr G1 I1 h => ?_, fun g fr G1 I1 h hg => ?_⟩, ?_⟩
  · unfold s_dup2 at h; (try split at h) <;> (try split at h) <;> (try split at h) <;> first | (cases h; done) | (cases h; exact ⟨Int.le_refl _, Int.le_refl _⟩) | (cases h; simp only [gz_gnew, gu_gnew]; omega) | (obtain ⟨-, h⟩ := mu_bif h; cases h; done) | (obtain ⟨-, h⟩ := mu_bif h; cases h; exact ⟨Int.le_refl _, Int.le_refl _⟩)
  · unfold s_dup2 at h; (try split at h) <;> (try split at h) <;> (try split at h) <;> first | (cases h; done) | (cases h; exact ⟨Int.le_refl _, Int.le_refl _⟩) | (cases h; simp only [gz_gnew, gu_gnew]; omega) | (obtain ⟨-, h⟩ := mu_bif h; cases h; done) | (obtain ⟨-, h⟩ := mu_bif h; cases h; exact ⟨Int.le_refl _, Int.le_refl _⟩)
  intro K p l e R s m args below meth c Q z0 u0 d C L st G I sr hs hok H locs ls hR hS hl hL hst hz hu
  unfold s_dup2 at hs
  split at hs
  · rename_i x a st1
    cases hs
    obtain ⟨-, -, kk⟩ := hok
    exact lv_dup2_11 C.1 C.2.1 h rfl (mu_cat (t := 1) (by decide) (by decide) (by decide)) (kk H locs ls hR hS hl hL (mu_okc (mu_okh hst) (mu_okc (mu_okh (mu_okt hst)) hst)) hz hu)
  · cases hs
theorem sim_pop {own nm : String} {cc : ByteArray} {mx pc : Nat} {rt : Option FieldType} {lg : Bool} (h : decode cc pc = .ok (.pop, 1)) : mu_Sim own cc mx rt nm lg pc (s_pop (pc + 1)) := by
  refine ⟨fun L st G I => ⟨fun fr G1 I1 h => ?_, fun g fr G1 I1 h hg => ?_⟩, ?_⟩
  · unfold s_pop at h; (try split at h) <;> (try split at h) <;> (try split at h) <;> first | (cases h; done) | (cases h; exact ⟨Int.le_refl _, Int.le_refl _⟩) | (cases h; simp only [gz_gnew, gu_gnew]; omega) | (obtain ⟨-, h⟩ := mu_bif h; cases h; done) | (obtain ⟨-, h⟩ := mu_bif h; cases h; exact ⟨Int.le_refl _, Int.le_refl _⟩)
  · unfold s_pop at h; (try split at h) <;> (try split at h) <;> (try split at h) <;> first | (cases h; done) | (cases h; exact ⟨Int.le_refl _, Int.le_refl _⟩) | (cases h; simp only [gz_gnew, gu_gnew]; omega) | (obtain ⟨-, h⟩ := mu_bif h; cases h; done) | (obtain ⟨-, h⟩ := mu_bif h; cases h; exact ⟨Int.le_refl _, Int.le_refl _⟩)
  intro K p l e R s m args below meth c Q z0 u0 d C L st G I sr hs hok H locs ls hR hS hl hL hst hz hu
  unfold s_pop at hs
  split at hs
  · rename_i x st1
    cases hs
    obtain ⟨-, -, kk⟩ := hok
    exact lv_pop C.1 C.2.1 h rfl (kk H locs ls hR hS hl hL (mu_okt hst) hz hu)
  · rename_i x st1
    cases hs
    obtain ⟨-, -, kk⟩ := hok
    exact lv_pop C.1 C.2.1 h (mu_cat (t := 1) (by decide) (by decide) (by decide)) (kk H locs ls hR hS hl hL (mu_okt hst) hz hu)
  · cases hs
theorem sim_goto {own nm : String} {cc : ByteArray} {mx pc : Nat} {rt : Option FieldType} {lg : Bool} {t : Nat} {off : Int} (h : decode cc pc = .ok (.goto off, 3)) (ht : (pc : Int) + off = (t : Int)) : mu_Sim own cc mx rt nm lg pc (s_goto t) := by
  refine ⟨fun L st G I => ⟨fun fr G1 I1 h => ?_, fun g fr G1 I1 h hg => ?_⟩, ?_⟩
  · unfold s_goto at h; (try split at h) <;> (try split at h) <;> (try split at h) <;> first | (cases h; done) | (cases h; exact ⟨Int.le_refl _, Int.le_refl _⟩) | (cases h; simp only [gz_gnew, gu_gnew]; omega) | (obtain ⟨-, h⟩ := mu_bif h; cases h; done) | (obtain ⟨-, h⟩ := mu_bif h; cases h; exact ⟨Int.le_refl _, Int.le_refl _⟩)
  · unfold s_goto at h; (try split at h) <;> (try split at h) <;> (try split at h) <;> first | (cases h; done) | (cases h; exact ⟨Int.le_refl _, Int.le_refl _⟩) | (cases h; simp only [gz_gnew, gu_gnew]; omega) | (obtain ⟨-, h⟩ := mu_bif h; cases h; done) | (obtain ⟨-, h⟩ := mu_bif h; cases h; exact ⟨Int.le_refl _, Int.le_refl _⟩)
  intro K p l e R s m args below meth c Q z0 u0 d C L st G I sr hs hok H locs ls hR hS hl hL hst hz hu
  cases hs
  obtain ⟨-, -, kk⟩ := hok
  exact lv_goto C.1 C.2.1 h ht (kk H locs ls hR hS hl hL hst hz hu)
theorem mu_sel1 {c : Prop} {a b : Nat} : (c → mu_sel [(c, a)] b = a) ∧ (¬ c → mu_sel [(c, a)] b = b) := ⟨fun h => mu_if_t h, fun h => mu_if_f h⟩
theorem sim_ifeq {own nm : String} {cc : ByteArray} {mx pc : Nat} {rt : Option FieldType} {lg : Bool} {t : Nat} {off : Int} (h : decode cc pc = .ok (.ifCond .eq off, 3)) (ht : (pc : Int) + off = (t : Int)) : mu_Sim own cc mx rt nm lg pc (s_ifeq t (pc + 3)) := by
  refine ⟨fun L st G I => ⟨fun fr G1 I1 h => ?_, fun g fr G1 I1 h hg => ?_⟩, ?_⟩
  · unfold s_ifeq at h; (try split at h) <;> (try split at h) <;> (try split at h) <;> first | (cases h; done) | (cases h; exact ⟨Int.le_refl _, Int.le_refl _⟩) | (cases h; simp only [gz_gnew, gu_gnew]; omega) | (obtain ⟨-, h⟩ := mu_bif h; cases h; done) | (obtain ⟨-, h⟩ := mu_bif h; cases h; exact ⟨Int.le_refl _, Int.le_refl _⟩)
  · unfold s_ifeq at h; (try split at h) <;> (try split at h) <;> (try split at h) <;> first | (cases h; done) | (cases h; exact ⟨Int.le_refl _, Int.le_refl _⟩) | (cases h; simp only [gz_gnew, gu_gnew]; omega) | (obtain ⟨-, h⟩ := mu_bif h; cases h; done) | (obtain ⟨-, h⟩ := mu_bif h; cases h; exact ⟨Int.le_refl _, Int.le_refl _⟩)
  intro K p l e R s m args below meth c Q z0 u0 d C L st G I sr hs hok H locs ls hR hS hl hL hst hz hu
  unfold s_ifeq at hs
  split at hs
  · rename_i x st1
    cases hs
    have ox := mu_okh hst
    change mu_At K lg mx p l e R s m args below meth c Q z0 u0 (mu_sel [(x = 0, t)] (pc + 3)) L st1 G I at hok
    have ot := mu_okt hst
    refine lv_if_eq C.1 C.2.1 h ht (fun z => ?_) (fun z => ?_)
    · have z1 : x = 0 := (mu_eq ox.1 ox.2 (by decide) (by decide)).mp z
      rw [mu_sel1.1 z1] at hok
      exact hok H locs ls hR hS hl hL ot hz hu
    · have z1 : ¬ x = 0 := fun w => z ((mu_eq ox.1 ox.2 (by decide) (by decide)).mpr w)
      rw [mu_sel1.2 z1] at hok
      exact hok H locs ls hR hS hl hL ot hz hu
  · cases hs
theorem sim_ifne {own nm : String} {cc : ByteArray} {mx pc : Nat} {rt : Option FieldType} {lg : Bool} {t : Nat} {off : Int} (h : decode cc pc = .ok (.ifCond .ne off, 3)) (ht : (pc : Int) + off = (t : Int)) : mu_Sim own cc mx rt nm lg pc (s_ifne t (pc + 3)) := by
  refine ⟨fun L st G I => ⟨fun fr G1 I1 h => ?_, fun g fr G1 I1 h hg => ?_⟩, ?_⟩
  · unfold s_ifne at h; (try split at h) <;> (try split at h) <;> (try split at h) <;> first | (cases h; done) | (cases h; exact ⟨Int.le_refl _, Int.le_refl _⟩) | (cases h; simp only [gz_gnew, gu_gnew]; omega) | (obtain ⟨-, h⟩ := mu_bif h; cases h; done) | (obtain ⟨-, h⟩ := mu_bif h; cases h; exact ⟨Int.le_refl _, Int.le_refl _⟩)
  · unfold s_ifne at h; (try split at h) <;> (try split at h) <;> (try split at h) <;> first | (cases h; done) | (cases h; exact ⟨Int.le_refl _, Int.le_refl _⟩) | (cases h; simp only [gz_gnew, gu_gnew]; omega) | (obtain ⟨-, h⟩ := mu_bif h; cases h; done) | (obtain ⟨-, h⟩ := mu_bif h; cases h; exact ⟨Int.le_refl _, Int.le_refl _⟩)
  intro K p l e R s m args below meth c Q z0 u0 d C L st G I sr hs hok H locs ls hR hS hl hL hst hz hu
  unfold s_ifne at hs
  split at hs
  · rename_i x st1
    cases hs
    have ox := mu_okh hst
    change mu_At K lg mx p l e R s m args below meth c Q z0 u0 (mu_sel [(x = 0, (pc + 3))] t) L st1 G I at hok
    have ot := mu_okt hst
    refine lv_if_ne C.1 C.2.1 h ht (fun z => ?_) (fun z => ?_)
    · have z1 : ¬ x = 0 := fun w => z ((mu_eq ox.1 ox.2 (by decide) (by decide)).mpr w)
      rw [mu_sel1.2 z1] at hok
      exact hok H locs ls hR hS hl hL ot hz hu
    · have z1 : x = 0 := (mu_eq ox.1 ox.2 (by decide) (by decide)).mp z
      rw [mu_sel1.1 z1] at hok
      exact hok H locs ls hR hS hl hL ot hz hu
  · cases hs
theorem sim_iflt {own nm : String} {cc : ByteArray} {mx pc : Nat} {rt : Option FieldType} {lg : Bool} {t : Nat} {off : Int} (h : decode cc pc = .ok (.ifCond .lt off, 3)) (ht : (pc : Int) + off = (t : Int)) : mu_Sim own cc mx rt nm lg pc (s_iflt t (pc + 3)) := by
  refine ⟨fun L st G I => ⟨fun fr G1 I1 h => ?_, fun g fr G1 I1 h hg => ?_⟩, ?_⟩
  · unfold s_iflt at h; (try split at h) <;> (try split at h) <;> (try split at h) <;> first | (cases h; done) | (cases h; exact ⟨Int.le_refl _, Int.le_refl _⟩) | (cases h; simp only [gz_gnew, gu_gnew]; omega) | (obtain ⟨-, h⟩ := mu_bif h; cases h; done) | (obtain ⟨-, h⟩ := mu_bif h; cases h; exact ⟨Int.le_refl _, Int.le_refl _⟩)
  · unfold s_iflt at h; (try split at h) <;> (try split at h) <;> (try split at h) <;> first | (cases h; done) | (cases h; exact ⟨Int.le_refl _, Int.le_refl _⟩) | (cases h; simp only [gz_gnew, gu_gnew]; omega) | (obtain ⟨-, h⟩ := mu_bif h; cases h; done) | (obtain ⟨-, h⟩ := mu_bif h; cases h; exact ⟨Int.le_refl _, Int.le_refl _⟩)
  intro K p l e R s m args below meth c Q z0 u0 d C L st G I sr hs hok H locs ls hR hS hl hL hst hz hu
  unfold s_iflt at hs
  split at hs
  · rename_i x st1
    cases hs
    have ox := mu_okh hst
    change mu_At K lg mx p l e R s m args below meth c Q z0 u0 (mu_sel [(x < 0, t)] (pc + 3)) L st1 G I at hok
    have ot := mu_okt hst
    refine lv_if_lt C.1 C.2.1 h ht (fun z => ?_) (fun z => ?_)
    · have z1 : x < 0 := (mu_lt ox.1 ox.2 (by decide) (by decide)).mp z
      rw [mu_sel1.1 z1] at hok
      exact hok H locs ls hR hS hl hL ot hz hu
    · have z1 : ¬ x < 0 := fun w => z ((mu_lt ox.1 ox.2 (by decide) (by decide)).mpr w)
      rw [mu_sel1.2 z1] at hok
      exact hok H locs ls hR hS hl hL ot hz hu
  · cases hs
theorem sim_ifge {own nm : String} {cc : ByteArray} {mx pc : Nat} {rt : Option FieldType} {lg : Bool} {t : Nat} {off : Int} (h : decode cc pc = .ok (.ifCond .ge off, 3)) (ht : (pc : Int) + off = (t : Int)) : mu_Sim own cc mx rt nm lg pc (s_ifge t (pc + 3)) := by
  refine ⟨fun L st G I => ⟨fun fr G1 I1 h => ?_, fun g fr G1 I1 h hg => ?_⟩, ?_⟩
  · unfold s_ifge at h; (try split at h) <;> (try split at h) <;> (try split at h) <;> first | (cases h; done) | (cases h; exact ⟨Int.le_refl _, Int.le_refl _⟩) | (cases h; simp only [gz_gnew, gu_gnew]; omega) | (obtain ⟨-, h⟩ := mu_bif h; cases h; done) | (obtain ⟨-, h⟩ := mu_bif h; cases h; exact ⟨Int.le_refl _, Int.le_refl _⟩)
  · unfold s_ifge at h; (try split at h) <;> (try split at h) <;> (try split at h) <;> first | (cases h; done) | (cases h; exact ⟨Int.le_refl _, Int.le_refl _⟩) | (cases h; simp only [gz_gnew, gu_gnew]; omega) | (obtain ⟨-, h⟩ := mu_bif h; cases h; done) | (obtain ⟨-, h⟩ := mu_bif h; cases h; exact ⟨Int.le_refl _, Int.le_refl _⟩)
  intro K p l e R s m args below meth c Q z0 u0 d C L st G I sr hs hok H locs ls hR hS hl hL hst hz hu
  unfold s_ifge at hs
  split at hs
  · rename_i x st1
    cases hs
    have ox := mu_okh hst
    change mu_At K lg mx p l e R s m args below meth c Q z0 u0 (mu_sel [(x < 0, (pc + 3))] t) L st1 G I at hok
    have ot := mu_okt hst
    refine lv_if_ge C.1 C.2.1 h ht (fun z => ?_) (fun z => ?_)
    · have z1 : ¬ x < 0 := fun w => Int.not_le.mpr w ((mu_le (by decide) (by decide) ox.1 ox.2).mp z)
      rw [mu_sel1.2 z1] at hok
      exact hok H locs ls hR hS hl hL ot hz hu
    · have z1 : x < 0 := Int.not_le.mp fun w => z ((mu_le (by decide) (by decide) ox.1 ox.2).mpr w)
      rw [mu_sel1.1 z1] at hok
      exact hok H locs ls hR hS hl hL ot hz hu
  · cases hs
theorem sim_ifgt {own nm : String} {cc : ByteArray} {mx pc : Nat} {rt : Option FieldType} {lg : Bool} {t : Nat} {off : Int} (h : decode cc pc = .ok (.ifCond .gt off, 3)) (ht : (pc : Int) + off = (t : Int)) : mu_Sim own cc mx rt nm lg pc (s_ifgt t (pc + 3)) := by
  refine ⟨fun L st G I => ⟨fun fr G1 I1 h => ?_, fun g fr G1 I1 h hg => ?_⟩, ?_⟩
  · unfold s_ifgt at h; (try split at h) <;> (try split at h) <;> (try split at h) <;> first | (cases h; done) | (cases h; exact ⟨Int.le_refl _, Int.le_refl _⟩) | (cases h; simp only [gz_gnew, gu_gnew]; omega) | (obtain ⟨-, h⟩ := mu_bif h; cases h; done) | (obtain ⟨-, h⟩ := mu_bif h; cases h; exact ⟨Int.le_refl _, Int.le_refl _⟩)
  · unfold s_ifgt at h; (try split at h) <;> (try split at h) <;> (try split at h) <;> first | (cases h; done) | (cases h; exact ⟨Int.le_refl _, Int.le_refl _⟩) | (cases h; simp only [gz_gnew, gu_gnew]; omega) | (obtain ⟨-, h⟩ := mu_bif h; cases h; done) | (obtain ⟨-, h⟩ := mu_bif h; cases h; exact ⟨Int.le_refl _, Int.le_refl _⟩)
  intro K p l e R s m args below meth c Q z0 u0 d C L st G I sr hs hok H locs ls hR hS hl hL hst hz hu
  unfold s_ifgt at hs
  split at hs
  · rename_i x st1
    cases hs
    have ox := mu_okh hst
    change mu_At K lg mx p l e R s m args below meth c Q z0 u0 (mu_sel [(0 < x, t)] (pc + 3)) L st1 G I at hok
    have ot := mu_okt hst
    refine lv_if_gt C.1 C.2.1 h ht (fun z => ?_) (fun z => ?_)
    · have z1 : 0 < x := (mu_lt (by decide) (by decide) ox.1 ox.2).mp z
      rw [mu_sel1.1 z1] at hok
      exact hok H locs ls hR hS hl hL ot hz hu
    · have z1 : ¬ 0 < x := fun w => z ((mu_lt (by decide) (by decide) ox.1 ox.2).mpr w)
      rw [mu_sel1.2 z1] at hok
      exact hok H locs ls hR hS hl hL ot hz hu
  · cases hs
theorem sim_ifle {own nm : String} {cc : ByteArray} {mx pc : Nat} {rt : Option FieldType} {lg : Bool} {t : Nat} {off : Int} (h : decode cc pc = .ok (.ifCond .le off, 3)) (ht : (pc : Int) + off = (t : Int)) : mu_Sim own cc mx rt nm lg pc (s_ifle t (pc + 3)) := by
  refine ⟨fun L st G I => ⟨fun fr G1 I1 h => ?_, fun g fr G1 I1 h hg => ?_⟩, ?_⟩
  · unfold s_ifle at h; (try split at h) <;> (try split at h) <;> (try split at h) <;> first | (cases h; done) | (cases h; exact ⟨Int.le_refl _, Int.le_refl _⟩) | (cases h; simp only [gz_gnew, gu_gnew]; omega) | (obtain ⟨-, h⟩ := mu_bif h; cases h; done) | (obtain ⟨-, h⟩ := mu_bif h; cases h; exact ⟨Int.le_refl _, Int.le_refl _⟩)
  · unfold s_ifle at h; (try split at h) <;> (try split at h) <;> (try split at h) <;> first | (cases h; done) | (cases h; exact ⟨Int.le_refl _, Int.le_refl _⟩) | (cases h; simp only [gz_gnew, gu_gnew]; omega) | (obtain ⟨-, h⟩ := mu_bif h; cases h; done) | (obtain ⟨-, h⟩ := mu_bif h; cases h; exact ⟨Int.le_refl _, Int.le_refl _⟩)
  intro K p l e R s m args below meth c Q z0 u0 d C L st G I sr hs hok H locs ls hR hS hl hL hst hz hu
  unfold s_ifle at hs
  split at hs
  · rename_i x st1
    cases hs
    have ox := mu_okh hst
    change mu_At K lg mx p l e R s m args below meth c Q z0 u0 (mu_sel [(0 < x, (pc + 3))] t) L st1 G I at hok
    have ot := mu_okt hst
    refine lv_if_le C.1 C.2.1 h ht (fun z => ?_) (fun z => ?_)
    · have z1 : ¬ 0 < x := fun w => Int.not_le.mpr w ((mu_le ox.1 ox.2 (by decide) (by decide)).mp z)
      rw [mu_sel1.2 z1] at hok
      exact hok H locs ls hR hS hl hL ot hz hu
    · have z1 : 0 < x := Int.not_le.mp fun w => z ((mu_le ox.1 ox.2 (by decide) (by decide)).mpr w)
      rw [mu_sel1.1 z1] at hok
      exact hok H locs ls hR hS hl hL ot hz hu
  · cases hs
theorem sim_icmpeq {own nm : String} {cc : ByteArray} {mx pc : Nat} {rt : Option FieldType} {lg : Bool} {t : Nat} {off : Int} (h : decode cc pc = .ok (.if_icmp .eq off, 3)) (ht : (pc : Int) + off = (t : Int)) : mu_Sim own cc mx rt nm lg pc (s_icmpeq t (pc + 3)) := by
  refine ⟨fun L st G I => ⟨fun fr G1 I1 h => ?_, fun g fr G1 I1 h hg => ?_⟩, ?_⟩
  · unfold s_icmpeq at h; (try split at h) <;> (try split at h) <;> (try split at h) <;> first | (cases h; done) | (cases h; exact ⟨Int.le_refl _, Int.le_refl _⟩) | (cases h; simp only [gz_gnew, gu_gnew]; omega) | (obtain ⟨-, h⟩ := mu_bif h; cases h; done) | (obtain ⟨-, h⟩ := mu_bif h; cases h; exact ⟨Int.le_refl _, Int.le_refl _⟩)
  · unfold s_icmpeq at h; (try split at h) <;> (try split at h) <;> (try split at h) <;> first | (cases h; done) | (cases h; exact ⟨Int.le_refl _, Int.le_refl _⟩) | (cases h; simp only [gz_gnew, gu_gnew]; omega) | (obtain ⟨-, h⟩ := mu_bif h; cases h; done) | (obtain ⟨-, h⟩ := mu_bif h; cases h; exact ⟨Int.le_refl _, Int.le_refl _⟩)
  intro K p l e R s m args below meth c Q z0 u0 d C L st G I sr hs hok H locs ls hR hS hl hL hst hz hu
  unfold s_icmpeq at hs
  split at hs
  · rename_i y x st1
    cases hs
    have oy := mu_okh hst
    have ox := mu_okh (mu_okt hst)
    change mu_At K lg mx p l e R s m args below meth c Q z0 u0 (mu_sel [(x = y, t)] (pc + 3)) L st1 G I at hok
    have ot := mu_okt (mu_okt hst)
    refine lv_icmp_eq C.1 C.2.1 h ht (fun z => ?_) (fun z => ?_)
    · have z1 : x = y := (mu_eq ox.1 ox.2 oy.1 oy.2).mp z
      rw [mu_sel1.1 z1] at hok
      exact hok H locs ls hR hS hl hL ot hz hu
    · have z1 : ¬ x = y := fun w => z ((mu_eq ox.1 ox.2 oy.1 oy.2).mpr w)
      rw [mu_sel1.2 z1] at hok
      exact hok H locs ls hR hS hl hL ot hz hu
  · cases hs
theorem sim_icmpne {own nm : String} {cc : ByteArray} {mx pc : Nat} {rt : Option FieldType} {lg : Bool} {t : Nat} {off : Int} (h : decode cc pc = .ok (.if_icmp .ne off, 3)) (ht : (pc : Int) + off = (t : Int)) : mu_Sim own cc mx rt nm lg pc (s_icmpne t (pc + 3)) := by
  refine ⟨fun L st G I => ⟨fun fr G1 I1 h => ?_, fun g fr G1 I1 h hg => ?_⟩, ?_⟩
  · unfold s_icmpne at h; (try split at h) <;> (try split at h) <;> (try split at h) <;> first | (cases h; done) | (cases h; exact ⟨Int.le_refl _, Int.le_refl _⟩) | (cases h; simp only [gz_gnew, gu_gnew]; omega) | (obtain ⟨-, h⟩ := mu_bif h; cases h; done) | (obtain ⟨-, h⟩ := mu_bif h; cases h; exact ⟨Int.le_refl _, Int.le_refl _⟩)
  · unfold s_icmpne at h; (try split at h) <;> (try split at h) <;> (try split at h) <;> first | (cases h; done) | (cases h; exact ⟨Int.le_refl _, Int.le_refl _⟩) | (cases h; simp only [gz_gnew, gu_gnew]; omega) | (obtain ⟨-, h⟩ := mu_bif h; cases h; done) | (obtain ⟨-, h⟩ := mu_bif h; cases h; exact ⟨Int.le_refl _, Int.le_refl _⟩)
  intro K p l e R s m args below meth c Q z0 u0 d C L st G I sr hs hok H locs ls hR hS hl hL hst hz hu
  unfold s_icmpne at hs
  split at hs
  · rename_i y x st1
    cases hs
    have oy := mu_okh hst
    have ox := mu_okh (mu_okt hst)
    change mu_At K lg mx p l e R s m args below meth c Q z0 u0 (mu_sel [(x = y, (pc + 3))] t) L st1 G I at hok
    have ot := mu_okt (mu_okt hst)
    refine lv_icmp_ne C.1 C.2.1 h ht (fun z => ?_) (fun z => ?_)
    · have z1 : ¬ x = y := fun w => z ((mu_eq ox.1 ox.2 oy.1 oy.2).mpr w)
      rw [mu_sel1.2 z1] at hok
      exact hok H locs ls hR hS hl hL ot hz hu
    · have z1 : x = y := (mu_eq ox.1 ox.2 oy.1 oy.2).mp z
      rw [mu_sel1.1 z1] at hok
      exact hok H locs ls hR hS hl hL ot hz hu
  · cases hs
theorem sim_icmplt {own nm : String} {cc : ByteArray} {mx pc : Nat} {rt : Option FieldType} {lg : Bool} {t : Nat} {off : Int} (h : decode cc pc = .ok (.if_icmp .lt off, 3)) (ht : (pc : Int) + off = (t : Int)) : mu_Sim own cc mx rt nm lg pc (s_icmplt t (pc + 3)) := by
  refine ⟨fun L st G I => ⟨fun fr G1 I1 h => ?_, fun g fr G1 I1 h hg => ?_⟩, ?_⟩
  · unfold s_icmplt at h; (try split at h) <;> (try split at h) <;> (try split at h) <;> first | (cases h; done) | (cases h; exact ⟨Int.le_refl _, Int.le_refl _⟩) | (cases h; simp only [gz_gnew, gu_gnew]; omega) | (obtain ⟨-, h⟩ := mu_bif h; cases h; done) | (obtain ⟨-, h⟩ := mu_bif h; cases h; exact ⟨Int.le_refl _, Int.le_refl _⟩)
  · unfold s_icmplt at h; (try split at h) <;> (try split at h) <;> (try split at h) <;> first | (cases h; done) | (cases h; exact ⟨Int.le_refl _, Int.le_refl _⟩) | (cases h; simp only [gz_gnew, gu_gnew]; omega) | (obtain ⟨-, h⟩ := mu_bif h; cases h; done) | (obtain ⟨-, h⟩ := mu_bif h; cases h; exact ⟨Int.le_refl _, Int.le_refl _⟩)
  intro K p l e R s m args below meth c Q z0 u0 d C L st G I sr hs hok H locs ls hR hS hl hL hst hz hu
  unfold s_icmplt at hs
  split at hs
  · rename_i y x st1
    cases hs
    have oy := mu_okh hst
    have ox := mu_okh (mu_okt hst)
    change mu_At K lg mx p l e R s m args below meth c Q z0 u0 (mu_sel [(x < y, t)] (pc + 3)) L st1 G I at hok
    have ot := mu_okt (mu_okt hst)
    refine lv_icmp_lt C.1 C.2.1 h ht (fun z => ?_) (fun z => ?_)
    · have z1 : x < y := (mu_lt ox.1 ox.2 oy.1 oy.2).mp z
      rw [mu_sel1.1 z1] at hok
      exact hok H locs ls hR hS hl hL ot hz hu
    · have z1 : ¬ x < y := fun w => z ((mu_lt ox.1 ox.2 oy.1 oy.2).mpr w)
      rw [mu_sel1.2 z1] at hok
      exact hok H locs ls hR hS hl hL ot hz hu
  · cases hs
theorem sim_icmpge {own nm : String} {cc : ByteArray} {mx pc : Nat} {rt : Option FieldType} {lg : Bool} {t : Nat} {off : Int} (h : decode cc pc = .ok (.if_icmp .ge off, 3)) (ht : (pc : Int) + off = (t : Int)) : mu_Sim own cc mx rt nm lg pc (s_icmpge t (pc + 3)) := by
  refine ⟨fun L st G I => ⟨fun fr G1 I1 h => ?_, fun g fr G1 I1 h hg => ?_⟩, ?_⟩
  · unfold s_icmpge at h; (try split at h) <;> (try split at h) <;> (try split at h) <;> first | (cases h; done) | (cases h; exact ⟨Int.le_refl _, Int.le_refl _⟩) | (cases h; simp only [gz_gnew, gu_gnew]; omega) | (obtain ⟨-, h⟩ := mu_bif h; cases h; done) | (obtain ⟨-, h⟩ := mu_bif h; cases h; exact ⟨Int.le_refl _, Int.le_refl _⟩)
  · unfold s_icmpge at h; (try split at h) <;> (try split at h) <;> (try split at h) <;> first | (cases h; done) | (cases h; exact ⟨Int.le_refl _, Int.le_refl _⟩) | (cases h; simp only [gz_gnew, gu_gnew]; omega) | (obtain ⟨-, h⟩ := mu_bif h; cases h; done) | (obtain ⟨-, h⟩ := mu_bif h; cases h; exact ⟨Int.le_refl _, Int.le_refl _⟩)
  intro K p l e R s m args below meth c Q z0 u0 d C L st G I sr hs hok H locs ls hR hS hl hL hst hz hu
  unfold s_icmpge at hs
  split at hs
  · rename_i y x st1
    cases hs
    have oy := mu_okh hst
    have ox := mu_okh (mu_okt hst)
    change mu_At K lg mx p l e R s m args below meth c Q z0 u0 (mu_sel [(x < y, (pc + 3))] t) L st1 G I at hok
    have ot := mu_okt (mu_okt hst)
    refine lv_icmp_ge C.1 C.2.1 h ht (fun z => ?_) (fun z => ?_)
    · have z1 : ¬ x < y := fun w => Int.not_le.mpr w ((mu_le oy.1 oy.2 ox.1 ox.2).mp z)
      rw [mu_sel1.2 z1] at hok
      exact hok H locs ls hR hS hl hL ot hz hu
    · have z1 : x < y := Int.not_le.mp fun w => z ((mu_le oy.1 oy.2 ox.1 ox.2).mpr w)
      rw [mu_sel1.1 z1] at hok
      exact hok H locs ls hR hS hl hL ot hz hu
  · cases hs
theorem sim_icmpgt {own nm : String} {cc : ByteArray} {mx pc : Nat} {rt : Option FieldType} {lg : Bool} {t : Nat} {off : Int} (h : decode cc pc = .ok (.if_icmp .gt off, 3)) (ht : (pc : Int) + off = (t : Int)) : mu_Sim own cc mx rt nm lg pc (s_icmpgt t (pc + 3)) := by
  refine ⟨fun L st G I => ⟨fun fr G1 I1 h => ?_, fun g fr G1 I1 h hg => ?_⟩, ?_⟩
  · unfold s_icmpgt at h; (try split at h) <;> (try split at h) <;> (try split at h) <;> first | (cases h; done) | (cases h; exact ⟨Int.le_refl _, Int.le_refl _⟩) | (cases h; simp only [gz_gnew, gu_gnew]; omega) | (obtain ⟨-, h⟩ := mu_bif h; cases h; done) | (obtain ⟨-, h⟩ := mu_bif h; cases h; exact ⟨Int.le_refl _, Int.le_refl _⟩)
  · unfold s_icmpgt at h; (try split at h) <;> (try split at h) <;> (try split at h) <;> first | (cases h; done) | (cases h; exact ⟨Int.le_refl _, Int.le_refl _⟩) | (cases h; simp only [gz_gnew, gu_gnew]; omega) | (obtain ⟨-, h⟩ := mu_bif h; cases h; done) | (obtain ⟨-, h⟩ := mu_bif h; cases h; exact ⟨Int.le_refl _, Int.le_refl _⟩)
  intro K p l e R s m args below meth c Q z0 u0 d C L st G I sr hs hok H locs ls hR hS hl hL hst hz hu
  unfold s_icmpgt at hs
  split at hs
  · rename_i y x st1
    cases hs
    have oy := mu_okh hst
    have ox := mu_okh (mu_okt hst)
    change mu_At K lg mx p l e R s m args below meth c Q z0 u0 (mu_sel [(y < x, t)] (pc + 3)) L st1 G I at hok
    have ot := mu_okt (mu_okt hst)
    refine lv_icmp_gt C.1 C.2.1 h ht (fun z => ?_) (fun z => ?_)
    · have z1 : y < x := (mu_lt oy.1 oy.2 ox.1 ox.2).mp z
      rw [mu_sel1.1 z1] at hok
      exact hok H locs ls hR hS hl hL ot hz hu
    · have z1 : ¬ y < x := fun w => z ((mu_lt oy.1 oy.2 ox.1 ox.2).mpr w)
      rw [mu_sel1.2 z1] at hok
      exact hok H locs ls hR hS hl hL ot hz hu
  · cases hs
theorem sim_icmple {own nm : String} {cc : ByteArray} {mx pc : Nat} {rt : Option FieldType} {lg : Bool} {t : Nat} {off : Int} (h : decode cc pc = .ok (.if_icmp .le off, 3)) (ht : (pc : Int) + off = (t : Int)) : mu_Sim own cc mx rt nm lg pc (s_icmple t (pc + 3)) := by
  refine ⟨fun L st G I => ⟨fun fr G1 I1 h => ?_, fun g fr G1 I1 h hg => ?_⟩, ?_⟩
  · unfold s_icmple at h; (try split at h) <;> (try split at h) <;> (try split at h) <;> first | (cases h; done) | (cases h; exact ⟨Int.le_refl _, Int.le_refl _⟩) | (cases h; simp only [gz_gnew, gu_gnew]; omega) | (obtain ⟨-, h⟩ := mu_bif h; cases h; done) | (obtain ⟨-, h⟩ := mu_bif h; cases h; exact ⟨Int.le_refl _, Int.le_refl _⟩)
  · unfold s_icmple at h; (try split at h) <;> (try split at h) <;> (try split at h) <;> first | (cases h; done) | (cases h; exact ⟨Int.le_refl _, Int.le_refl _⟩) | (cases h; simp only [gz_gnew, gu_gnew]; omega) | (obtain ⟨-, h⟩ := mu_bif h; cases h; done) | (obtain ⟨-, h⟩ := mu_bif h; cases h; exact ⟨Int.le_refl _, Int.le_refl _⟩)
  intro K p l e R s m args below meth c Q z0 u0 d C L st G I sr hs hok H locs ls hR hS hl hL hst hz hu
  unfold s_icmple at hs
  split at hs
  · rename_i y x st1
    cases hs
    have oy := mu_okh hst
    have ox := mu_okh (mu_okt hst)
    change mu_At K lg mx p l e R s m args below meth c Q z0 u0 (mu_sel [(y < x, (pc + 3))] t) L st1 G I at hok
    have ot := mu_okt (mu_okt hst)
    refine lv_icmp_le C.1 C.2.1 h ht (fun z => ?_) (fun z => ?_)
    · have z1 : ¬ y < x := fun w => Int.not_le.mpr w ((mu_le ox.1 ox.2 oy.1 oy.2).mp z)
      rw [mu_sel1.2 z1] at hok
      exact hok H locs ls hR hS hl hL ot hz hu
    · have z1 : y < x := Int.not_le.mp fun w => z ((mu_le ox.1 ox.2 oy.1 oy.2).mpr w)
      rw [mu_sel1.1 z1] at hok
      exact hok H locs ls hR hS hl hL ot hz hu
  · cases hs
theorem sim_ifnull {own nm : String} {cc : ByteArray} {mx pc : Nat} {rt : Option FieldType} {lg : Bool} {t : Nat} {off : Int} (h : decode cc pc = .ok (.ifnull off, 3)) (ht : (pc : Int) + off = (t : Int)) : mu_Sim own cc mx rt nm lg pc (s_ifnull t (pc + 3)) := by
  refine ⟨fun L st G I => ⟨fun fr G1 I1 h => ?_, fun g fr G1 I1 h hg => ?_⟩, ?_⟩
  · unfold s_ifnull at h; (try split at h) <;> (try split at h) <;> (try split at h) <;> first | (cases h; done) | (cases h; exact ⟨Int.le_refl _, Int.le_refl _⟩) | (cases h; simp only [gz_gnew, gu_gnew]; omega) | (obtain ⟨-, h⟩ := mu_bif h; cases h; done) | (obtain ⟨-, h⟩ := mu_bif h; cases h; exact ⟨Int.le_refl _, Int.le_refl _⟩)
  · unfold s_ifnull at h; (try split at h) <;> (try split at h) <;> (try split at h) <;> first | (cases h; done) | (cases h; exact ⟨Int.le_refl _, Int.le_refl _⟩) | (cases h; simp only [gz_gnew, gu_gnew]; omega) | (obtain ⟨-, h⟩ := mu_bif h; cases h; done) | (obtain ⟨-, h⟩ := mu_bif h; cases h; exact ⟨Int.le_refl _, Int.le_refl _⟩)
  intro K p l e R s m args below meth c Q z0 u0 d C L st G I sr hs hok H locs ls hR hS hl hL hst hz hu
  unfold s_ifnull at hs
  split at hs
  · rename_i x st1
    cases hs
    change mu_At K lg mx p l e R s m args below meth c Q z0 u0 (mu_sel [(x = -1, t)] (pc + 3)) L st1 G I at hok
    have ot := mu_okt hst
    by_cases hx : x = -1
    · rw [mu_sel1.1 hx] at hok
      show W p l e R s m args below meth c H locs _ _ Q (F0 m pc ls (va_rf (mu_ro K x) :: st1.map (mu_cv K)))
      rw [show mu_ro K x = none from by unfold mu_ro; rw [if_pos hx]]
      exact lv_ifnullN C.1 C.2.1 h ht (hok H locs ls hR hS hl hL ot hz hu)
    · rw [mu_sel1.2 hx] at hok
      show W p l e R s m args below meth c H locs _ _ Q (F0 m pc ls (va_rf (mu_ro K x) :: st1.map (mu_cv K)))
      rw [show mu_ro K x = some (mu_ad K x) from by unfold mu_ro; rw [if_neg hx]]
      exact lv_ifnull C.1 C.2.1 h (hok H locs ls hR hS hl hL ot hz hu)
  · cases hs
theorem sim_ifnonnull {own nm : String} {cc : ByteArray} {mx pc : Nat} {rt : Option FieldType} {lg : Bool} {t : Nat} {off : Int} (h : decode cc pc = .ok (.ifnonnull off, 3)) (ht : (pc : Int) + off = (t : Int)) : mu_Sim own cc mx rt nm lg pc (s_ifnonnull t (pc + 3)) := by
  refine ⟨fun L st G I => ⟨fun fr G1 I1 h => ?_, fun g fr G1 I1 h hg => ?_⟩, ?_⟩
  · unfold s_ifnonnull at h; (try split at h) <;> (try split at h) <;> (try split at h) <;> first | (cases h; done) | (cases h; exact ⟨Int.le_refl _, Int.le_refl _⟩) | (cases h; simp only [gz_gnew, gu_gnew]; omega) | (obtain ⟨-, h⟩ := mu_bif h; cases h; done) | (obtain ⟨-, h⟩ := mu_bif h; cases h; exact ⟨Int.le_refl _, Int.le_refl _⟩)
  · unfold s_ifnonnull at h; (try split at h) <;> (try split at h) <;> (try split at h) <;> first | (cases h; done) | (cases h; exact ⟨Int.le_refl _, Int.le_refl _⟩) | (cases h; simp only [gz_gnew, gu_gnew]; omega) | (obtain ⟨-, h⟩ := mu_bif h; cases h; done) | (obtain ⟨-, h⟩ := mu_bif h; cases h; exact ⟨Int.le_refl _, Int.le_refl _⟩)
  intro K p l e R s m args below meth c Q z0 u0 d C L st G I sr hs hok H locs ls hR hS hl hL hst hz hu
  unfold s_ifnonnull at hs
  split at hs
  · rename_i x st1
    cases hs
    change mu_At K lg mx p l e R s m args below meth c Q z0 u0 (mu_sel [(x = -1, (pc + 3))] t) L st1 G I at hok
    have ot := mu_okt hst
    by_cases hx : x = -1
    · rw [mu_sel1.1 hx] at hok
      show W p l e R s m args below meth c H locs _ _ Q (F0 m pc ls (va_rf (mu_ro K x) :: st1.map (mu_cv K)))
      rw [show mu_ro K x = none from by unfold mu_ro; rw [if_pos hx]]
      exact lv_ifnonnullN C.1 C.2.1 h (hok H locs ls hR hS hl hL ot hz hu)
    · rw [mu_sel1.2 hx] at hok
      show W p l e R s m args below meth c H locs _ _ Q (F0 m pc ls (va_rf (mu_ro K x) :: st1.map (mu_cv K)))
      rw [show mu_ro K x = some (mu_ad K x) from by unfold mu_ro; rw [if_neg hx]]
      exact lv_ifnonnull C.1 C.2.1 h ht (hok H locs ls hR hS hl hL ot hz hu)
  · cases hs
theorem mu_sw_hit {x : Int} {df : Nat} : ∀ {ts : List (Int × Nat)} {t : Nat}, (ts.find? (fun q => q.1 == x)) = some (x, t) → mu_sel (mu_sw x ts) df = t
  | [], _, h => by cases h
  | (k, t1) :: r, t, h => by
    by_cases hk : k = x
    · subst hk
      rw [List.find?_cons_of_pos (by simp)] at h
      cases h
      exact mu_if_t rfl
    · rw [List.find?_cons_of_neg (by simpa using hk)] at h
      show mu_if (x = k) t1 (mu_sel (mu_sw x r) df) = t
      rw [mu_if_f (fun z => hk z.symm)]
      exact mu_sw_hit h
theorem mu_sw_miss {x : Int} {df : Nat} : ∀ {ts : List (Int × Nat)}, (ts.find? (fun q => q.1 == x)) = none → mu_sel (mu_sw x ts) df = df
  | [], _ => rfl
  | (k, t1) :: r, h => by
    have h2 := List.find?_eq_none.mp h
    have hk : k ≠ x := fun e => by simpa [e] using h2 (k, t1) List.mem_cons_self
    show mu_if (x = k) t1 (mu_sel (mu_sw x r) df) = df
    rw [mu_if_f (fun z => hk z.symm)]
    exact mu_sw_miss (List.find?_eq_none.mpr fun q hq => h2 q (List.mem_cons_of_mem _ hq))
theorem sim_table {own nm : String} {cc : ByteArray} {mx pc : Nat} {rt : Option FieldType} {lg : Bool} {ts : List (Int × Nat)} {df : Nat} {lo hi : Int} {dd : Int} {offs : Array Int} {len : Nat} (h : decode cc pc = .ok (.tableswitch dd lo hi offs, len)) (hd : (pc : Int) + dd = (df : Int)) (hok1 : ∀ j : Nat, j < ts.length → ∃ t off, ts[j]? = some (lo + j, t) ∧ offs[j]? = some off ∧ (pc : Int) + off = (t : Int)) (hn : hi = lo + ts.length - 1) : mu_Sim own cc mx rt nm lg pc (s_switch ts df) := by
  refine ⟨fun L st G I => ⟨fun fr G1 I1 h => ?_, fun g fr G1 I1 h hg => ?_⟩, ?_⟩
  · unfold s_switch at h; (try split at h) <;> (try split at h) <;> (try split at h) <;> first | (cases h; done) | (cases h; exact ⟨Int.le_refl _, Int.le_refl _⟩) | (cases h; simp only [gz_gnew, gu_gnew]; omega) | (obtain ⟨-, h⟩ := mu_bif h; cases h; done) | (obtain ⟨-, h⟩ := mu_bif h; cases h; exact ⟨Int.le_refl _, Int.le_refl _⟩)
  · unfold s_switch at h; (try split at h) <;> (try split at h) <;> (try split at h) <;> first | (cases h; done) | (cases h; exact ⟨Int.le_refl _, Int.le_refl _⟩) | (cases h; simp only [gz_gnew, gu_gnew]; omega) | (obtain ⟨-, h⟩ := mu_bif h; cases h; done) | (obtain ⟨-, h⟩ := mu_bif h; cases h; exact ⟨Int.le_refl _, Int.le_refl _⟩)
  intro K p l e R s m args below meth c Q z0 u0 d C L st G I sr hs hok H locs ls hR hS hl hL hst hz hu
  unfold s_switch at hs
  split at hs
  · rename_i x st1
    cases hs
    have ox := mu_okh hst
    change mu_At K lg mx p l e R s m args below meth c Q z0 u0 (mu_sel (mu_sw x ts) df) L st1 G I at hok
    have ot := mu_okt hst
    have key : ∀ (k : Int) (t : Nat), (k, t) ∈ ts → ∃ j : Nat, j < ts.length ∧ k = lo + j ∧ ts[j]? = some (k, t) := by
      intro k t hm
      obtain ⟨j, hj⟩ := List.getElem?_of_mem hm
      have hlt := (List.getElem?_eq_some_iff.mp hj).1
      obtain ⟨t1, off, h1, -, -⟩ := hok1 j hlt
      have := hj.symm.trans h1
      cases this
      exact ⟨j, hlt, rfl, hj⟩
    by_cases hx : lo ≤ x ∧ x ≤ hi
    · obtain ⟨t, off, h1, h2, h3⟩ := hok1 (x - lo).toNat (by omega)
      have e1 : lo + ((x - lo).toNat : Int) = x := by omega
      rw [e1] at h1
      have hf : ts.find? (fun q => q.1 == x) = some (x, t) := by
        cases hq : ts.find? (fun q => q.1 == x) with
        | none => exact absurd (List.find?_eq_none.mp hq _ (List.mem_of_getElem? h1)) (by simp)
        | some q =>
          obtain ⟨k, t1⟩ := q
          have hk : k = x := by simpa using List.find?_some hq
          subst hk
          obtain ⟨j, g1, g2, g3⟩ := key _ _ (List.mem_of_find?_eq_some hq)
          have : j = (k - lo).toNat := by omega
          subst this
          have := g3.symm.trans h1
          cases this
          rfl
      rw [mu_sw_hit hf] at hok
      exact lv_tableIn C.1 C.2.1 h (by rw [mu_t32 ox.1 ox.2]; omega) (by rw [mu_t32 ox.1 ox.2]; omega) (by rw [mu_t32 ox.1 ox.2]; exact h2) h3 (hok H locs ls hR hS hl hL ot hz hu)
    · have hf : ts.find? (fun q => q.1 == x) = none := by
        refine List.find?_eq_none.mpr fun q hq => ?_
        obtain ⟨k, t1⟩ := q
        obtain ⟨j, g1, g2, g3⟩ := key _ _ hq
        simp only [beq_iff_eq]
        intro e
        omega
      rw [mu_sw_miss hf] at hok
      exact lv_tableOut C.1 C.2.1 h (by rw [mu_t32 ox.1 ox.2]; omega) hd (hok H locs ls hR hS hl hL ot hz hu)
  · cases hs

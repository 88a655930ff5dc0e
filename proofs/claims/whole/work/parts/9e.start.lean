/-! THE CLAIM OUT OF ONE WALK OF THE LAW'S BODY. Your part is whole_start (and what it stands on); all else here is the same for every law, but numbers. -/
def R_law : String := "StepOwedLaw"
def lw_P (b : Addr) (xs : List Int32) (args : Array Value) (s : State) : Prop := args = #[.ref b] ∧ s.IntsAt b xs ∧ xs.length ≤ 2560 ∧ (Jvm.Cond.and given_1 narrow_1).before args s = true
def lw_Q (_ : Array Value) (s : State) (o : Outcome) (t : State) : Prop := o = .returned (some (.int 1)) ∧ Framed s o t [] 667144 7100816
def lw_Z (below : List Frame) (a : Array Value) (s : State) : State → Prop := fun t => ∃ o, t.status = .running ∧ Ended t below o ∧ lw_Q a s o t
/-- the law's own end, with 1 on the stack, nothing written that was there before, its room as the claim has it -/
theorem lw_ret {p : Program} {l : Launch} {e : Env} {s : State} {m : MethodId} {below : List Frame} {meth : Method} {c : Code} {b : Nat} (hx : p.tables.exec = Jvm.exec) (hb : c.code = code) (hr : meth.sig.returnType = ret) (hlocks : meth.locks = false) {pc : Nat} {H : Heap} {ls : Array Slot} (hdg : decode code pc = .ok (.ireturn, 1)) : W p l e room_1 s m #[Value.ref b] below meth c H [] 667144 7100816 (lw_Z below #[Value.ref b] s) (F0 m pc ls [.int 1]) := by
  intro T hT X
  obtain ⟨fs, hret, hrun, hended, hW, hframe⟩ := X.leave (v := some (.int 1)) (hlocks := hlocks) (fun h => by rw [hr] at h; cases h)
  have hmeth' : T.vm.method? m = some meth := X.method'
  refine ⟨T.setFrames fs, ?_, .returned (some (.int 1)), hrun, hended, rfl, ⟨_, rfl⟩, hW, hframe⟩
  jvm_step X.here [X.here.top, hx, hb, hdg, hmeth', hr, ret, narrow_b1]
  (try refine ⟨rfl, ?_⟩); (try refine ⟨rfl, ?_⟩)
  first | (intro acts; rw [hret _ acts rfl rfl rfl]) | rw [hret _ _ rfl rfl rfl]
  exact Steps.refl _
/-- what holds at the law's entry: the machine, the code, the tables' words (any of lw_tbl by 'hts w (by decide +kernel)'), the script of L ints xs at the cell b, what the Statement gives of the start (any of its parts by flat_of_before) -/
def lw_At (p : Program) (s : State) (m : MethodId) (meth : Method) (c : Code) (b L : Nat) (xs : Nat → Int32) : Prop :=
  p.tables.exec = Jvm.exec ∧ c.code = code ∧ meth.sig.returnType = ret ∧ c.maxLocals = 4 ∧ s.vm.findClass R_law = some m.cls ∧ (∀ w ∈ lw_tbl, w.before #[Value.ref b] s = true) ∧ va_X b L xs s s.heap ∧ b < s.heap.size ∧ meth.locks = false ∧ (Jvm.Cond.and given_1 narrow_1).before #[Value.ref b] s = true
/-! WHAT HOLDS AT THE LAW'S ENTRY -/
abbrev st_C : Cond := Jvm.Cond.and given_1 narrow_1
theorem st_mem {args : Array Value} {s : State} (h : st_C.before args s = true) : ∀ w ∈ flatC st_C, w.before args s = true := flat_of_before _ h
theorem st_inst : ∀ ci, ci < 13 → Cond.instantiable (mc_R ci) (mc_N ci) ∈ lw_tbl := by decide +kernel
theorem st_tb {args : Array Value} {s : State} (hts : ∀ w ∈ lw_tbl, w.before args s = true) : ∀ w ∈ mu_tb, w.before args s = true := fun w hw => hts w (List.mem_filter.mp hw).1
/-- the classes -/
theorem st_cls {args : Array Value} {s : State} (hts : ∀ w ∈ lw_tbl, w.before args s = true) : ∃ D : va_G, ∀ (c : Nat) (q : vw_C), mc_cls[c]? = some q → u_Kn s q.1 q.2.1 q.2.2 (D.1 c) (D.2 c) := by
  have h : ∀ ci : Nat, ∃ z : ClassId × (Nat → Nat), ci < 13 → u_Kn s (mc_R ci) (mc_T ci) (mc_N ci) z.1 z.2 := by
    intro ci
    by_cases hc : ci < 13
    · obtain ⟨a, f, h⟩ := u_known (ws := mu_tb) (C := mc_R ci) (T := mc_T ci) (N := mc_N ci) (n := mc_N ci) (st_tb hts) (mc_lay ci hc) (hts _ (st_inst ci hc))
      exact ⟨(a, f), fun _ => h⟩
    · exact ⟨(0, fun _ => 0), fun q => absurd q hc⟩
  obtain ⟨f, hf⟩ := Classical.axiomOfChoice h
  refine ⟨(fun c => (f c).1, fun c => (f c).2), fun c q hq => ?_⟩
  have hc : c < 13 := (List.getElem?_eq_some_iff.mp hq).1
  rw [mc_cls_at c hc] at hq
  cases hq
  exact hf c hc
theorem st_w1 : Cond.arrayClass .int ∈ lw_tbl := List.mem_of_getElem? (i := 130) (by decide +kernel)
theorem st_w2 : Cond.arrayClass .boolean ∈ lw_tbl := List.mem_of_getElem? (i := 198) (by decide +kernel)
theorem st_w3 : Cond.arrayOver (.object "StepOwed$Person") ∈ lw_tbl := List.mem_of_getElem? (i := 180) (by decide +kernel)
theorem st_w4 : Cond.laysStatic "StepOwed" "ORDERS" "[I" ∈ lw_tbl := List.mem_of_getElem? (i := 924) (by decide +kernel)
theorem st_w5 : Cond.initialized "StepOwed" ∈ lw_tbl := List.mem_of_getElem? (i := 80) (by decide +kernel)
theorem st_w6 : Cond.laysStatic "java/lang/String" "COMPACT_STRINGS" "Z" ∈ lw_tbl := List.mem_of_getElem? (i := 382) (by decide +kernel)
theorem st_w7 : Cond.initialized "java/lang/String" ∈ lw_tbl := List.mem_of_getElem? (i := 88) (by decide +kernel)
theorem st_w8 : Cond.laysStatic "jdk/internal/util/Preconditions" "SIOOBE_FORMATTER" "Ljava/util/function/BiFunction;" ∈ lw_tbl := List.mem_of_getElem? (i := 398) (by decide +kernel)
theorem st_w9 : Cond.initialized "jdk/internal/util/Preconditions" ∈ lw_tbl := List.mem_of_getElem? (i := 90) (by decide +kernel)
theorem st_w10 : Cond.fieldLinkNest "StepOwed$Person" 80 "StepOwed" "ORDERS" "[I" "StepOwed" ∈ lw_tbl := List.mem_of_getElem? (i := 923) (by decide +kernel)
theorem st_w11 : ∀ q ∈ mu_cas, Cond.castable (mc_R q.1) (mc_R q.2) ∈ lw_tbl := by decide +kernel
theorem st_arr {args : Array Value} {s : State} (hts : ∀ w ∈ lw_tbl, w.before args s = true) : ∃ cI cZ cP : ClassId, ∀ (k : Nat) (q : ClassId × FieldType), [(cI, FieldType.int), (cZ, .boolean), (cP, .object "StepOwed$Person")][k]? = some q → ArrOfT s q.1 q.2 ∧ va_RA s q.1 q.2 := by
  obtain ⟨cI, kI, oI, i1, i2, i3⟩ := Cond.arrayClass_spec (hts _ st_w1)
  obtain ⟨cZ, kZ, oZ, z1, z2, z3⟩ := Cond.arrayClass_spec (hts _ st_w2)
  obtain ⟨comp, cP, kP, p1, -, p3, p4, p5⟩ := Cond.arrayOver_spec (hts _ st_w3)
  refine ⟨cI, cZ, cP, fun k q hq => ?_⟩
  match k, hq with
  | 0, hq => cases hq; exact ⟨fun n z => ⟨(fun k h => by cases h), kI, i2, oI, i3⟩, i1⟩
  | 1, hq => cases hq; exact ⟨fun n z => ⟨(fun k h => by cases h), kZ, z2, oZ, z3⟩, z1⟩
  | 2, hq => cases hq; exact ⟨fun n z => ⟨(fun k h => by cases h), kP, p3, comp, p4⟩, kP, comp, p3, p4, p1, p5⟩
  | k + 3, hq => cases hq
/-- the orders -/
theorem st_o1 : Cond.arrayOf (.static "StepOwed" "ORDERS" "[I") .int ∈ flatC st_C := by decide +kernel
theorem st_o2 : Cond.eq (.length (.static "StepOwed" "ORDERS" "[I")) (.int (Int32.ofNat 18)) ∈ flatC st_C := by decide +kernel
theorem st_o3 : ∀ j, j < 18 → Cond.eq (.elem (.static "StepOwed" "ORDERS" "[I") (.int (Int32.ofNat j))) (.int (Int32.ofInt (mu_ords.getD j 0))) ∈ flatC st_C := by decide +kernel
theorem st_ords {args : Array Value} {s : State} {A : Nat → Prop} (hts : ∀ w ∈ lw_tbl, w.before args s = true) (hs : st_C.before args s = true) (hA : ∀ a : Nat, a < s.heap.size → ¬ A a) : ∃ t : Nat, va_Z "StepOwed" "ORDERS" "[I" (.ref t) A s s.heap ∧ va_T .int t 18 (fun j => .int (Int32.ofInt (mu_ords.getD j 0))) A s s.heap := by
  obtain ⟨t, h1, h2⟩ := va_Tof (N := 18) (f := fun j => .int (Int32.ofInt (mu_ords.getD j 0))) (A := A) (by decide) (st_mem hs _ st_o1) (va_eqt (st_mem hs _ st_o2)) (fun j hj => va_eqt (st_mem hs _ (st_o3 j hj))) hA
  exact ⟨t, va_Zref (hts _ st_w4) (hts _ st_w5) h1 hA, h2⟩
/-- the texts -/
def st_tm (i : Nat) : Term := .string "StepOwed$Law" (([74, 108, 115, 94, 96] : List Nat).getD i 0)
def st_tm2 (i : Nat) : Term := .string "StepOwedModel" (([113, 99, 105, 119, 121] : List Nat).getD i 0)
theorem st_t1 : ∀ i, i < 5 → Cond.exactly (st_tm i) "java/lang/String" ∈ flatC st_C := by decide +kernel
theorem st_t2 : ∀ i, i < 5 → Cond.eq (.field (st_tm i) "java/lang/String" "coder" "B") (.int 0) ∈ flatC st_C := by decide +kernel
theorem st_t3 : ∀ i, i < 5 → Cond.arrayOf (.field (st_tm i) "java/lang/String" "value" "[B") .byte ∈ flatC st_C := by decide +kernel
theorem st_t4 : ∀ i, i < 5 → Cond.eq (.length (.field (st_tm i) "java/lang/String" "value" "[B")) (.int (Int32.ofNat (mu_len5.getD i 0))) ∈ flatC st_C := by decide +kernel
theorem st_t5 : ∀ i, i < 5 → ∀ j, j < mu_len5.getD i 0 → Cond.eq (.elem (.field (st_tm i) "java/lang/String" "value" "[B") (.int (Int32.ofNat j))) (.int ((mu_byt5.getD i []).getD j 0)) ∈ flatC st_C := by decide +kernel
theorem st_t6 : ∀ i, i < 5 → ∀ j, j < 5 → i ≠ j → Cond.not (.eq (st_tm i) (st_tm j)) ∈ flatC st_C ∨ Cond.not (.eq (st_tm j) (st_tm i)) ∈ flatC st_C := by decide +kernel
theorem st_t7 : ∀ i, i < 5 → Cond.eq (st_tm i) (st_tm2 i) ∈ flatC st_C := by decide +kernel
theorem st_t8 : ∀ i, i < 5 → mu_len5.getD i 0 < 2 ^ 31 := by decide +kernel
theorem st_txt {args : Array Value} {s : State} {A : Nat → Prop} (hs : st_C.before args s = true) (hA : ∀ a : Nat, a < s.heap.size → ¬ A a) : ∃ adK adV : Nat → Nat, vk_S 5 mu_len5 mu_byt5 adK adV A s s.heap ∧ ∀ i : Nat, i < 5 → (st_tm i).eval args s none [] s = some (.ref (adK i)) :=
  vk_Sof st_t8 (fun i hi => st_mem hs _ (st_t1 i hi)) (fun i hi => st_mem hs _ (st_t2 i hi)) (fun i hi => st_mem hs _ (st_t3 i hi)) (fun i hi => st_mem hs _ (st_t4 i hi)) (fun i hi j hj => st_mem hs _ (st_t5 i hi j hj)) (fun i j hi hj hij => (st_t6 i hi j hj hij).imp (st_mem hs _) (st_mem hs _)) hA
/-- which term a reference to a text is, and which text -/
def st_ix (q : String × Nat × String × Int) : Nat := (-10 - q.2.2.2).toNat
theorem st_r1 : ∀ q ∈ mu_sref, Cond.stringRef q.1 q.2.1 q.2.2.1 ∈ lw_tbl := by decide +kernel
theorem st_r2 : ∀ q ∈ mu_sref, st_ix q < 5 ∧ q.2.2.2 = -10 - ((st_ix q : Nat) : Int) ∧ ((q.1 = "StepOwed$Law" ∧ q.2.1 = ([74, 108, 115, 94, 96] : List Nat).getD (st_ix q) 0) ∨ (q.1 = "StepOwedModel" ∧ q.2.1 = ([113, 99, 105, 119, 121] : List Nat).getD (st_ix q) 0)) := by decide +kernel
theorem st_sref {args : Array Value} {s : State} {adK : Nat → Nat} (hts : ∀ w ∈ lw_tbl, w.before args s = true) (hs : st_C.before args s = true) (h : ∀ i : Nat, i < 5 → (st_tm i).eval args s none [] s = some (.ref (adK i))) : ∀ q ∈ mu_sref, vk_R q.1 q.2.1 q.2.2.1 (adK (st_ix q)) s := by
  intro q hq
  obtain ⟨h1, -, h2⟩ := st_r2 q hq
  refine vk_R.of (A := args) (hts _ (st_r1 q hq)) ?_
  have e := h _ h1
  rcases h2 with ⟨a, b⟩ | ⟨a, b⟩
  · rw [a, b]; exact e
  · rw [a, b]; exact va_eqR (st_mem hs _ (st_t7 _ h1)) e
theorem st_c1 : Cond.eq (.static "java/lang/String" "COMPACT_STRINGS" "Z") (.int 1) ∈ flatC st_C := by decide +kernel
theorem st_c2 : Cond.isRef (.static "jdk/internal/util/Preconditions" "SIOOBE_FORMATTER" "Ljava/util/function/BiFunction;") ∈ flatC st_C := by decide +kernel
theorem st_nc : ∀ q ∈ mu_walk, ∀ c ∈ mu_wks, (c : Int) ∉ q.2 → Cond.not (.castable (mc_R c) (mc_R q.1.toNat)) ∈ flatC st_C := by decide +kernel
/-- the numbers of the cells that were there before -/
def st_kx (b t : Nat) (adK adV : Nat → Nat) : Int → Nat := fun a => if a = -2 then b else if a = -3 then t else if a ≤ -20 then adV (-20 - a).toNat else adK (-10 - a).toNat
theorem st_E {args : Array Value} {s : State} {b L : Nat} {xs : Nat → Int32} (hL : L ≤ 2560) (hts : ∀ w ∈ lw_tbl, w.before args s = true) (hs : st_C.before args s = true) (hX : va_X b L xs s s.heap) (hbl : b < s.heap.size) : ∃ K : mu_K, kB K = s.heap.size ∧ kx K (-2) = b ∧ kL K = L ∧ kxs K = xs ∧ mu_E K s := by
  have hA : ∀ a : Nat, a < s.heap.size → ¬ (fun q : Nat => s.heap.size ≤ q) a := fun a h => Nat.not_le.mpr h
  obtain ⟨D, hD⟩ := st_cls hts
  obtain ⟨cI, cZ, cP, hr⟩ := st_arr hts
  obtain ⟨t, o1, o2⟩ := st_ords (A := fun q : Nat => s.heap.size ≤ q) hts hs hA
  obtain ⟨adK, adV, v1, v2⟩ := st_txt (A := fun q : Nat => s.heap.size ≤ q) hs hA
  have k1 : ∀ i : Nat, i < 5 → st_kx b t adK adV (-10 - (i : Int)) = adK i := by
    intro i hi
    unfold st_kx
    rw [if_neg (by omega), if_neg (by omega), if_neg (by omega), show (-10 - (-10 - (i : Int))).toNat = i by omega]
  have k2 : ∀ i : Nat, i < 5 → st_kx b t adK adV (-20 - (i : Int)) = adV i := by
    intro i hi
    unfold st_kx
    rw [if_neg (by omega), if_neg (by omega), if_pos (by omega), show (-20 - (-20 - (i : Int))).toNat = i by omega]
  refine ⟨(s.heap.size, st_kx b t adK adV, L, xs, D, cI, cZ, cP), rfl, rfl, rfl, rfl, ⟨hD, hr⟩, Nat.le_refl _, ⟨hX, hbl, hL⟩, ⟨o1, o2⟩, ⟨⟨fun i hi => ?_, fun i j hi hj e => ?_⟩, fun q hq => ?_, va_Zof (hts _ st_w6) (hts _ st_w7) (va_eqi (st_mem hs _ st_c1)) hA, va_Zqof (hts _ st_w8) (hts _ st_w9) (st_mem hs _ st_c2) hA⟩, fun q hq c hc hn => va_Nc.of (st_mem hs _ (st_nc q hq c hc hn)), va_Nw.of rfl (hts _ st_w10), va_AO.of (hts _ st_w3), fun q hq => va_Nw.of rfl (hts _ (st_w11 q hq))⟩
  · have h := v1.1 i hi
    rw [← k1 i hi, ← k2 i hi] at h
    exact h
  · exact v1.2 i j hi hj (by rw [← k1 i hi, ← k1 j hj]; exact e)
  · have h := st_sref hts hs v2 q hq
    obtain ⟨h1, h2, -⟩ := st_r2 q hq
    rw [← k1 _ h1, ← h2] at h
    exact h
/-- the small machine's start -/
def st_G (K : mu_K) : mu_G := (0, 0, mu_xs K, fun _ _ => -1)
def st_I (K : mu_K) : mu_M := fun a j => mu_xi K a j
theorem st_o4 : ∀ n : Nat, 0 ≤ mu_ords.getD n 0 ∧ mu_ords.getD n 0 ≤ 2 := by
  intro n
  have h : ∀ n, n < 18 → 0 ≤ mu_ords.getD n 0 ∧ mu_ords.getD n 0 ≤ 2 := by decide +kernel
  rcases Nat.lt_or_ge n 18 with q | q
  · exact h n q
  · rw [List.getD_eq_getElem?_getD, List.getElem?_eq_none (show mu_ords.length ≤ n from q)]
    decide
theorem st_t9 : ∀ i n : Nat, 0 ≤ (mu_str i).getD n 0 ∧ (mu_str i).getD n 0 < 128 := by
  intro i n
  rcases Nat.lt_or_ge n (mu_str i).length with q | q
  · rcases Nat.lt_or_ge i 5 with hi | hi
    · have := jf_5 i hi n q
      exact ⟨this.1, this.2.1⟩
    · have e : mu_str i = [] := by
        unfold mu_str
        split <;> first | omega | rfl
      rw [e] at q
      exact absurd q (by simp)
  · rw [List.getD_eq_getElem?_getD, List.getElem?_eq_none q]
    decide
theorem st_xi (K : mu_K) (a j : Int) : -2147483648 ≤ mu_xi K a j ∧ mu_xi K a j ≤ 2147483647 := by
  unfold mu_xi
  split
  · exact mu_rng _
  · split
    · have := st_o4 j.toNat
      omega
    · split
      · have := st_t9 (-10 - a).toNat j.toNat
        omega
      · decide
theorem st_Rel {K : mu_K} {H : Heap} (h : H.size = kB K) : mu_Rel K (st_G K) (st_I K) H := by
  refine ⟨Int.le_refl _, by rw [h]; rfl, fun a h0 h1 => ?_, fun a _ => rfl, fun a j _ => rfl, fun a j => st_xi K a j⟩
  have h1 : a < 0 := h1
  omega
theorem st_TXs (K : mu_K) : TXs (st_G K) (st_I K) := by
  intro i hi
  have e1 : mu_xs K (-10 - (i : Int)) = (50, ((mu_str i).length : Int)) := by
    unfold mu_xs
    rw [if_neg (by omega), if_neg (by omega), if_pos (by omega), show (-10 - (-10 - (i : Int))).toNat = i by omega]
  have e2 : st_I K (-10 - (i : Int)) = fun j => (mu_str i).getD j.toNat 0 := by
    funext j
    show mu_xi K (-10 - (i : Int)) j = _
    unfold mu_xi
    rw [if_neg (by omega), if_neg (by omega), if_pos (by omega), show (-10 - (-10 - (i : Int))).toNat = i by omega]
  refine ⟨e1, ?_⟩
  rw [e2]
  match i, hi with
  | 0, _ => exact ⟨rfl, rfl, rfl, rfl, rfl, trivial⟩
  | 1, _ => exact ⟨rfl, rfl, rfl, rfl, rfl, rfl, trivial⟩
  | 2, _ => exact ⟨rfl, rfl, rfl, trivial⟩
  | 3, _ => exact ⟨rfl, rfl, rfl, rfl, rfl, trivial⟩
  | 4, _ => exact ⟨rfl, rfl, rfl, rfl, rfl, trivial⟩
  | i + 5, h => omega
theorem st_SF {K : mu_K} : SF (kL K : Int) (st_G K) (st_I K) := by
  refine ⟨rfl, fun j _ _ => st_xi K (-2) j, st_TXs K, fun j _ _ => rfl⟩
theorem st_mi : mu_mi[229]? = some (⟨"StepOwedLaw", "law", "([I)Z"⟩, code, 4, some .boolean) := rfl
/-- from the entry, over 'all the code is the machine's own' -/
theorem st_start (hAll : mu_All mu_code) {p : Program} {e : Env} {s : State} {m : MethodId} {below : List Frame} {meth : Method} {c : Code} (l : Launch) (hnm : meth.name = "law") {b L : Nat} {xs : Nat → Int32} (hL : L ≤ 2560) (C0 : lw_At p s m meth c b L xs) : W p l e room_1 s m #[Value.ref b] below meth c s.heap [] 0 0 (lw_Z below #[Value.ref b] s) (entryFrame m ([Value.ref b] : List Value).toArray 4) := by
  obtain ⟨hx, hb, hr, hml, hown, hts, hX, hbl, hlocks, hgv⟩ := id C0
  obtain ⟨K, e1, e2, e3, e4, hE⟩ := st_E hL hts hgv hX hbl
  have hwp := law_start (d := 0) (N := (kL K : Int)) (G := st_G K) (I := st_I K) (Q := fun v G1 _ => v = 1 ∧ gz G1 ≤ 127 + (kL K : Int) ∧ gu G1 ≤ gu (st_G K) + 3945 + (kL K : Int)) (by decide) (by rw [e3]; omega) rfl st_SF rfl (fun a ha => by
    show mu_xs K a = _
    unfold mu_xs
    rw [if_neg (by omega), if_neg (by omega), if_neg (by omega)]) (fun G1 I1 h1 h2 => ⟨rfl, h1, h2⟩)
  obtain ⟨n, v, G1, I1, hrun, rfl, hz, hu⟩ := hwp
  have hu : gu G1 ≤ 0 + 3945 + (kL K : Int) := hu
  obtain ⟨-, -, key⟩ := mu_main hAll n 0 229 0 _ _ _ _ _ _ _ hrun
  have hl := lv_entry ([.ref b]) (n := 4) (Nat.le_of_ble_eq_true rfl)
  rw [lg_entry_eq]
  generalize (lg_sl ([.ref b]) ++ List.replicate (4 - (lg_sl ([.ref b])).length) Slot.unset).toArray = ls at hl ⊢
  have hl : lv_has ls 4 [(0, .ref b)] := hl
  have hlv : mu_lv K 0 [(1, -2), (3, 0), (3, 0), (3, 0)] = [(0, .ref b)] := by
    show [(0, mu_rv K (-2))] = _
    rw [mu_rv_ext (by decide), mu_ad_ext (by decide), e2]
  have k := key _ st_mi K p l e room_1 s m #[Value.ref b] below meth c (lw_Z below #[Value.ref b] s) 0 0 ⟨hx, hb, hml, hown, st_tb hts, hE, hr, hlocks, hnm, by decide, Nat.le_of_ble_eq_true rfl, Nat.le_of_ble_eq_true rfl⟩ (by show _ ≤ 667144; omega) (by show _ ≤ 7100816; omega) ?_
  · exact k s.heap [] ls (st_Rel (by rw [e1])) va_S.rf (by rw [hlv]; exact hl) (fun w hw => by
      simp only [List.mem_cons, List.not_mem_nil, or_false] at hw
      rcases hw with rfl | rfl | rfl | rfl <;> exact ⟨trivial, fun _ => by decide⟩) (fun w hw => by cases hw) (Int.le_refl _) (Int.le_refl _)
  · intro H locs ls1 pc hR hS h0 h1
    refine ⟨fun q => (by cases q), fun q => (by cases q), fun _ hd _ => ?_, fun q => (by cases q), fun q => ?_⟩
    · have hlo : ∀ q ∈ locs, s.heap.size ≤ q.base := fun q hq => by
        have := hS.2.2 q hq
        unfold kA at this
        rw [e1] at this
        exact this
      refine W.widen (k := 667144) (n := 7100816) (by omega) (by omega) (va_forget hlo ?_)
      exact lw_ret hx hb hr hlocks hd
    · rcases q with ⟨_, q⟩ | ⟨_, q⟩ <;> cases q

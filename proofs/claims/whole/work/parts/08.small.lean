/-! CALLS -/
theorem mu_sub_iff {c : Int} : ∀ {cs : List Int}, mu_sub c cs ↔ c ∈ cs
  | [] => by simp [mu_sub]
  | [k] => by simp [mu_sub]
  | k :: j :: r => by
    rw [mu_sub, mu_sub_iff (cs := j :: r)]
    · simp
    · simp
theorem mu_b_t {c : Prop} (h : c) : mu_b c = 1 := by unfold mu_b; rw [if_pos h]
theorem mu_b_f {c : Prop} (h : ¬ c) : mu_b c = 0 := by unfold mu_b; rw [if_neg h]
theorem sim_inst {own nm : String} {cc : ByteArray} {mx pc : Nat} {rt : Option FieldType} {lg : Bool} {T ix : Nat} {cs : List Int} (h : decode cc pc = .ok (.instanceof ix, 3)) (hw : Cond.classLink own ix (mc_R T) ∈ mu_tb) (hq : ((T : Int), cs) ∈ mu_walk) (hT : T < 13) (hy : ∀ c ∈ mu_wks, (c : Int) ∈ cs → c = T ∨ (c, T) ∈ mu_cas) : mu_Sim own cc mx rt nm lg pc (s_inst cs (pc + 3)) := by
  refine ⟨fun L st G I => ⟨fun fr G1 I1 h => ?_, fun g fr G1 I1 h hg => ?_⟩, ?_⟩
  · unfold s_inst at h; (try split at h) <;> (try split at h) <;> (try split at h) <;> first | (cases h; done) | (cases h; exact ⟨Int.le_refl _, Int.le_refl _⟩) | (cases h; simp only [gz_gnew, gu_gnew]; omega) | (obtain ⟨-, h⟩ := mu_bif h; cases h; done) | (obtain ⟨-, h⟩ := mu_bif h; cases h; exact ⟨Int.le_refl _, Int.le_refl _⟩)
  · unfold s_inst at h; (try split at h) <;> (try split at h) <;> (try split at h) <;> first | (cases h; done) | (cases h; exact ⟨Int.le_refl _, Int.le_refl _⟩) | (cases h; simp only [gz_gnew, gu_gnew]; omega) | (obtain ⟨-, h⟩ := mu_bif h; cases h; done) | (obtain ⟨-, h⟩ := mu_bif h; cases h; exact ⟨Int.le_refl _, Int.le_refl _⟩)
  intro K p l e R s m args below meth c Q z0 u0 d C L st G I sr hs hok H locs ls hR hS hl hL hst hz hu
  unfold s_inst at hs
  split at hs
  · rename_i a st1
    cases hs
    obtain ⟨g, -, -, kk⟩ := hok
    have hE := C.2.2.2.2.2.1
    have hts := C.2.2.2.2.1
    obtain ⟨ci, hc, ho, hk, -, -, -, hin⟩ := mu_wk_ci g
    obtain ⟨a0, -, hcr⟩ := mu_ownc hR ho hc
    obtain ⟨cell, q1, q2, q3, -⟩ := hcr.1 ci hc ho
    have hat := (hE.1.1 ci _ (mc_cls_at ci hc)).2
    have hr : ∃ cell : Cell, H[mu_ad K a]? = some cell ∧ cell.vm.isStatics = false ∧ s.vm.findClass (mc_R ci) = some cell.cls := ⟨cell, q1, by rw [q3]; rfl, by rw [q2]; exact hat.1⟩
    show W p l e R s m args below meth c H locs _ _ Q (F0 m pc ls (mu_rv K a :: st1.map (mu_cv K)))
    rw [mu_rv_own a0]
    by_cases hm : (ci : Int) ∈ cs
    · have e1 : mu_b (mu_sub (sh G a).1 cs) = 1 := mu_b_t (by rw [ho]; exact mu_sub_iff.mpr hm)
      rw [e1] at kk
      have k2 := kk H locs ls hR hS hl hL (mu_okc (v := (0, 1)) ⟨by decide, by decide⟩ (mu_okt hst)) hz hu
      rcases hy ci hin hm with e | e
      · subst e
        exact va_instS C.1 C.2.1 C.2.2.2.1 (hts _ hw) hat hr h k2
      · exact va_instY C.1 C.2.1 C.2.2.2.1 (hts _ hw) (C := mc_R ci) (hE.2.2.2.2.2.2.2.2 _ e) hr h k2
    · have e1 : mu_b (mu_sub (sh G a).1 cs) = 0 := mu_b_f (fun z => hm (by rw [ho] at z; exact mu_sub_iff.mp z))
      rw [e1] at kk
      have k2 := kk H locs ls hR hS hl hL (mu_okc (v := (0, 0)) ⟨by decide, by decide⟩ (mu_okt hst)) hz hu
      exact va_instNo C.1 C.2.1 C.2.2.2.1 (hts _ hw) (hE.2.2.2.2.2.1 _ hq ci hin hm) hr h k2
  · cases hs
theorem sim_orders {own nm : String} {cc : ByteArray} {mx pc : Nat} {rt : Option FieldType} {lg : Bool} {ix : Nat} (h : decode cc pc = .ok (.getstatic ix, 3)) (ho : own = "StepOwed$Person") (hi : ix = 80) : mu_Sim own cc mx rt nm lg pc (s_ext (-3) (pc + 3)) := by
  refine ⟨fun L st G I => ⟨fun fr G1 I1 h => ?_, fun g fr G1 I1 h hg => ?_⟩, ?_⟩
  · unfold s_ext at h; (try split at h) <;> (try split at h) <;> (try split at h) <;> first | (cases h; done) | (cases h; exact ⟨Int.le_refl _, Int.le_refl _⟩) | (cases h; simp only [gz_gnew, gu_gnew]; omega) | (obtain ⟨-, h⟩ := mu_bif h; cases h; done) | (obtain ⟨-, h⟩ := mu_bif h; cases h; exact ⟨Int.le_refl _, Int.le_refl _⟩)
  · unfold s_ext at h; (try split at h) <;> (try split at h) <;> (try split at h) <;> first | (cases h; done) | (cases h; exact ⟨Int.le_refl _, Int.le_refl _⟩) | (cases h; simp only [gz_gnew, gu_gnew]; omega) | (obtain ⟨-, h⟩ := mu_bif h; cases h; done) | (obtain ⟨-, h⟩ := mu_bif h; cases h; exact ⟨Int.le_refl _, Int.le_refl _⟩)
  intro K p l e R s m args below meth c Q z0 u0 d C L st G I sr hs hok H locs ls hR hS hl hL hst hz hu
  cases hs
  obtain ⟨-, -, kk⟩ := hok
  have hE := C.2.2.2.2.2.1
  have k2 := kk H locs ls hR hS hl hL (mu_okc (v := (1, -3)) trivial hst) hz hu
  rw [List.map_cons] at k2
  change W p l e R s m args below meth c H locs _ _ Q (F0 m (pc + 3) ls (mu_rv K (-3) :: _)) at k2
  rw [mu_rv_ext (by decide), mu_ad_ext (by decide)] at k2
  exact va_getsN C.1 C.2.1 hE.2.2.2.1.1 hS C.2.2.2.1 (by rw [ho, hi]; exact va_Nw.use rfl hE.2.2.2.2.2.2.1) (fun _ z => z) h k2
theorem sim_ldcs {own nm : String} {cc : ByteArray} {mx pc : Nat} {rt : Option FieldType} {lg : Bool} {ix : Nat} {tx : String} {a : Int} (h : decode cc pc = .ok (.ldc ix, 2)) (hq : (own, ix, tx, a) ∈ mu_sref) (ha : a < -1) : mu_Sim own cc mx rt nm lg pc (s_ext a (pc + 2)) := by
  refine ⟨fun L st G I => ⟨fun fr G1 I1 h => ?_, fun g fr G1 I1 h hg => ?_⟩, ?_⟩
  · unfold s_ext at h; (try split at h) <;> (try split at h) <;> (try split at h) <;> first | (cases h; done) | (cases h; exact ⟨Int.le_refl _, Int.le_refl _⟩) | (cases h; simp only [gz_gnew, gu_gnew]; omega) | (obtain ⟨-, h⟩ := mu_bif h; cases h; done) | (obtain ⟨-, h⟩ := mu_bif h; cases h; exact ⟨Int.le_refl _, Int.le_refl _⟩)
  · unfold s_ext at h; (try split at h) <;> (try split at h) <;> (try split at h) <;> first | (cases h; done) | (cases h; exact ⟨Int.le_refl _, Int.le_refl _⟩) | (cases h; simp only [gz_gnew, gu_gnew]; omega) | (obtain ⟨-, h⟩ := mu_bif h; cases h; done) | (obtain ⟨-, h⟩ := mu_bif h; cases h; exact ⟨Int.le_refl _, Int.le_refl _⟩)
  intro K p l e R s m args below meth c Q z0 u0 d C L st G I sr hs hok H locs ls hR hS hl hL hst hz hu
  cases hs
  obtain ⟨-, -, kk⟩ := hok
  have hE := C.2.2.2.2.2.1
  have k2 := kk H locs ls hR hS hl hL (mu_okc (v := (1, a)) trivial hst) hz hu
  rw [List.map_cons] at k2
  change W p l e R s m args below meth c H locs _ _ Q (F0 m (pc + 2) ls (mu_rv K a :: _)) at k2
  rw [mu_rv_ext ha, mu_ad_ext (by omega)] at k2
  exact va_ldcS C.1 C.2.1 C.2.2.2.1 (hE.2.2.2.2.1.2.1 _ hq) h k2
theorem mu_sum {K : mu_K} : ∀ {st : List mu_V}, Nat.ble (mu_len st) 4 = true → ((st.map (mu_cv K)).map fun v => v.category).sum ≤ 8 := by
  have key : ∀ st : List mu_V, ((st.map (mu_cv K)).map fun v => v.category).sum ≤ 2 * mu_len st := by
    intro st
    induction st with
    | nil => exact Nat.le_refl _
    | cons v r ih =>
      have hv : (mu_cv K v).category ≤ 2 := by rcases lv_cat (mu_cv K v) with h | h <;> omega
      simp only [List.map_cons, List.sum_cons, mu_len]
      omega
  intro st h
  have h1 := key st
  have h2 := Nat.le_of_ble_eq_true h
  omega
theorem sim_min {own nm : String} {cc : ByteArray} {mx pc : Nat} {rt : Option FieldType} {lg : Bool} {ix : Nat} (h : decode cc pc = .ok (.invokestatic ix, 3)) (hw : Cond.methodLink own ix Lib.Math.min.name ∈ mu_tb) (h1 : Cond.static Lib.Math.min.name ∈ mu_tb) (h2 : Cond.initialized "java/lang/Math" ∈ mu_tb) (h3 : Cond.code Lib.Math.min.name Lib.Math.min.code 2 (some .int) ∈ mu_tb) : mu_Sim own cc mx rt nm lg pc (s_min (pc + 3)) := by
  refine ⟨fun L st G I => ⟨fun fr G1 I1 h => ?_, fun g fr G1 I1 h hg => ?_⟩, ?_⟩
  · unfold s_min at h; (try split at h) <;> (try split at h) <;> (try split at h) <;> first | (cases h; done) | (cases h; exact ⟨Int.le_refl _, Int.le_refl _⟩) | (cases h; simp only [gz_gnew, gu_gnew]; omega) | (obtain ⟨-, h⟩ := mu_bif h; cases h; done) | (obtain ⟨-, h⟩ := mu_bif h; cases h; exact ⟨Int.le_refl _, Int.le_refl _⟩)
  · unfold s_min at h; (try split at h) <;> (try split at h) <;> (try split at h) <;> first | (cases h; done) | (cases h; exact ⟨Int.le_refl _, Int.le_refl _⟩) | (cases h; simp only [gz_gnew, gu_gnew]; omega) | (obtain ⟨-, h⟩ := mu_bif h; cases h; done) | (obtain ⟨-, h⟩ := mu_bif h; cases h; exact ⟨Int.le_refl _, Int.le_refl _⟩)
  intro K p l e R s m args below meth c Q z0 u0 d C L st G I sr hs hok H locs ls hR hS hl hL hst hz hu
  unfold s_min at hs
  split at hs
  · rename_i y x st1
    cases hb : Nat.ble (mu_len st1) 4 with
    | false => rw [hb] at hs; cases hs
    | true =>
    rw [hb] at hs
    cases hs
    obtain ⟨r1, r2, kk⟩ := hok
    have hts := C.2.2.2.2.1
    have oy := mu_okh hst
    have ox := mu_okh (mu_okt hst)
    have hd := C.2.2.2.2.2.2.2.2.2
    refine va_mmin C.1 C.2.1 (by rw [C.2.2.1]; exact hl.1.symm) C.2.2.2.1 (hts _ hw) (hts _ h1) (hts _ h2) (hts _ h3) (by omega) (by have := mu_sum (K := K) hb; omega) r1 r2 h ?_
    have k2 := kk H locs ls hR hS hl hL (mu_okc (v := (0, if y < x then y else x)) (by split <;> assumption) (mu_okt (mu_okt hst))) hz hu
    have e1 : (if Int32.ofInt y < Int32.ofInt x then Int32.ofInt y else Int32.ofInt x) = Int32.ofInt (if y < x then y else x) := by
      have := mu_lt oy.1 oy.2 ox.1 ox.2
      by_cases q : y < x
      · rw [if_pos q, if_pos (this.mpr q)]
      · rw [if_neg q, if_neg (fun z => q (this.mp z))]
    rw [e1]
    exact k2
  · cases hs
theorem sim_max {own nm : String} {cc : ByteArray} {mx pc : Nat} {rt : Option FieldType} {lg : Bool} {ix : Nat} (h : decode cc pc = .ok (.invokestatic ix, 3)) (hw : Cond.methodLink own ix Lib.Math.max.name ∈ mu_tb) (h1 : Cond.static Lib.Math.max.name ∈ mu_tb) (h2 : Cond.initialized "java/lang/Math" ∈ mu_tb) (h3 : Cond.code Lib.Math.max.name Lib.Math.max.code 2 (some .int) ∈ mu_tb) : mu_Sim own cc mx rt nm lg pc (s_max (pc + 3)) := by
  refine ⟨fun L st G I => ⟨fun fr G1 I1 h => ?_, fun g fr G1 I1 h hg => ?_⟩, ?_⟩
  · unfold s_max at h; (try split at h) <;> (try split at h) <;> (try split at h) <;> first | (cases h; done) | (cases h; exact ⟨Int.le_refl _, Int.le_refl _⟩) | (cases h; simp only [gz_gnew, gu_gnew]; omega) | (obtain ⟨-, h⟩ := mu_bif h; cases h; done) | (obtain ⟨-, h⟩ := mu_bif h; cases h; exact ⟨Int.le_refl _, Int.le_refl _⟩)
  · unfold s_max at h; (try split at h) <;> (try split at h) <;> (try split at h) <;> first | (cases h; done) | (cases h; exact ⟨Int.le_refl _, Int.le_refl _⟩) | (cases h; simp only [gz_gnew, gu_gnew]; omega) | (obtain ⟨-, h⟩ := mu_bif h; cases h; done) | (obtain ⟨-, h⟩ := mu_bif h; cases h; exact ⟨Int.le_refl _, Int.le_refl _⟩)
  intro K p l e R s m args below meth c Q z0 u0 d C L st G I sr hs hok H locs ls hR hS hl hL hst hz hu
  unfold s_max at hs
  split at hs
  · rename_i y x st1
    cases hb : Nat.ble (mu_len st1) 4 with
    | false => rw [hb] at hs; cases hs
    | true =>
    rw [hb] at hs
    cases hs
    obtain ⟨r1, r2, kk⟩ := hok
    have hts := C.2.2.2.2.1
    have oy := mu_okh hst
    have ox := mu_okh (mu_okt hst)
    have hd := C.2.2.2.2.2.2.2.2.2
    refine va_mmax C.1 C.2.1 (by rw [C.2.2.1]; exact hl.1.symm) C.2.2.2.1 (hts _ hw) (hts _ h1) (hts _ h2) (hts _ h3) (by omega) (by have := mu_sum (K := K) hb; omega) r1 r2 h ?_
    have k2 := kk H locs ls hR hS hl hL (mu_okc (v := (0, if x < y then y else x)) (by split <;> assumption) (mu_okt (mu_okt hst))) hz hu
    have e1 : (if Int32.ofInt x < Int32.ofInt y then Int32.ofInt y else Int32.ofInt x) = Int32.ofInt (if x < y then y else x) := by
      have := mu_lt ox.1 ox.2 oy.1 oy.2
      by_cases q : x < y
      · rw [if_pos q, if_pos (this.mpr q)]
      · rw [if_neg q, if_neg (fun z => q (this.mp z))]
    rw [e1]
    exact k2
  · cases hs
theorem sim_abs {own nm : String} {cc : ByteArray} {mx pc : Nat} {rt : Option FieldType} {lg : Bool} {ix : Nat} (h : decode cc pc = .ok (.invokestatic ix, 3)) (hw : Cond.methodLink own ix Lib.Math.abs.name ∈ mu_tb) (h1 : Cond.static Lib.Math.abs.name ∈ mu_tb) (h2 : Cond.initialized "java/lang/Math" ∈ mu_tb) (h3 : Cond.code Lib.Math.abs.name Lib.Math.abs.code 1 (some .int) ∈ mu_tb) : mu_Sim own cc mx rt nm lg pc (s_abs (pc + 3)) := by
  refine ⟨fun L st G I => ⟨fun fr G1 I1 h => ?_, fun g fr G1 I1 h hg => ?_⟩, ?_⟩
  · unfold s_abs at h; (try split at h) <;> (try split at h) <;> (try split at h) <;> first | (cases h; done) | (cases h; exact ⟨Int.le_refl _, Int.le_refl _⟩) | (cases h; simp only [gz_gnew, gu_gnew]; omega) | (obtain ⟨-, h⟩ := mu_bif h; cases h; done) | (obtain ⟨-, h⟩ := mu_bif h; cases h; exact ⟨Int.le_refl _, Int.le_refl _⟩)
  · unfold s_abs at h; (try split at h) <;> (try split at h) <;> (try split at h) <;> first | (cases h; done) | (cases h; exact ⟨Int.le_refl _, Int.le_refl _⟩) | (cases h; simp only [gz_gnew, gu_gnew]; omega) | (obtain ⟨-, h⟩ := mu_bif h; cases h; done) | (obtain ⟨-, h⟩ := mu_bif h; cases h; exact ⟨Int.le_refl _, Int.le_refl _⟩)
  intro K p l e R s m args below meth c Q z0 u0 d C L st G I sr hs hok H locs ls hR hS hl hL hst hz hu
  unfold s_abs at hs
  split at hs
  · rename_i x st1
    cases hb : Nat.ble (mu_len st1) 4 with
    | false => rw [hb] at hs; cases hs
    | true =>
    rw [hb] at hs
    cases hs
    obtain ⟨r1, r2, kk⟩ := hok
    have hts := C.2.2.2.2.1
    have ox := mu_okh hst
    have hd := C.2.2.2.2.2.2.2.2.2
    refine va_mabs C.1 C.2.1 (by rw [C.2.2.1]; exact hl.1.symm) C.2.2.2.1 (hts _ hw) (hts _ h1) (hts _ h2) (hts _ h3) (by omega) (by have := mu_sum (K := K) hb; omega) r1 r2 h ?_
    have k2 := kk H locs ls hR hS hl hL (mu_okc (v := (0, if 0 ≤ x then x else wr (-x))) (by split; exact ox; exact ⟨wr_lo _, wr_hi _⟩) (mu_okt hst)) hz hu
    have e1 : (if 0 ≤ Int32.ofInt x then Int32.ofInt x else 0 - Int32.ofInt x) = Int32.ofInt (if 0 ≤ x then x else wr (-x)) := by
      have : (0 : Int32) ≤ Int32.ofInt x ↔ (0 : Int) ≤ x := mu_le (x := 0) (by decide) (by decide) ox.1 ox.2
      by_cases q : 0 ≤ x
      · rw [if_pos q, if_pos (this.mpr q)]
      · rw [if_neg q, if_neg (fun z => q (this.mp z)), mu_i32w, Int32.ofInt_neg]
        exact Int32.zero_sub _
    rw [e1]
    exact k2
  · cases hs
theorem sim_objinit {own nm : String} {cc : ByteArray} {mx pc : Nat} {rt : Option FieldType} {lg : Bool} {ix : Nat} (h : decode cc pc = .ok (.invokespecial ix, 3)) (hw : Cond.methodLink own ix Lib.objectInit ∈ mu_tb) (h1 : Cond.instanceMethod Lib.objectInit ∈ mu_tb) (h2 : Cond.code Lib.objectInit ⟨#[0xb1]⟩ 1 none ∈ mu_tb) : mu_Sim own cc mx rt nm lg pc (s_objinit (pc + 3)) := by
  refine ⟨fun L st G I => ⟨fun fr G1 I1 h => ?_, fun g fr G1 I1 h hg => ?_⟩, ?_⟩
  · unfold s_objinit at h; (try split at h) <;> (try split at h) <;> (try split at h) <;> first | (cases h; done) | (cases h; exact ⟨Int.le_refl _, Int.le_refl _⟩) | (cases h; simp only [gz_gnew, gu_gnew]; omega) | (obtain ⟨-, h⟩ := mu_bif h; cases h; done) | (obtain ⟨-, h⟩ := mu_bif h; cases h; exact ⟨Int.le_refl _, Int.le_refl _⟩)
  · unfold s_objinit at h; (try split at h) <;> (try split at h) <;> (try split at h) <;> first | (cases h; done) | (cases h; exact ⟨Int.le_refl _, Int.le_refl _⟩) | (cases h; simp only [gz_gnew, gu_gnew]; omega) | (obtain ⟨-, h⟩ := mu_bif h; cases h; done) | (obtain ⟨-, h⟩ := mu_bif h; cases h; exact ⟨Int.le_refl _, Int.le_refl _⟩)
  intro K p l e R s m args below meth c Q z0 u0 d C L st G I sr hs hok H locs ls hR hS hl hL hst hz hu
  unfold s_objinit at hs
  split at hs
  · rename_i a st1
    cases hb : Nat.ble (mu_len st1) 4 with
    | false => rw [hb] at hs; cases hs
    | true =>
    rw [hb] at hs
    cases hs
    obtain ⟨g, -, -, kk⟩ := hok
    have hts := C.2.2.2.2.1
    have hd := C.2.2.2.2.2.2.2.2.2
    show W p l e R s m args below meth c H locs _ _ Q (F0 m pc ls (mu_rv K a :: st1.map (mu_cv K)))
    rw [mu_rv_own g]
    refine W.objInit C.1 C.2.1 C.2.2.2.1 (hts _ hw) (hts _ h1) (hts _ h2) rfl (by rw [C.2.2.1]; exact hl.1) rfl h (by omega) (by have := mu_sum (K := K) hb; show 2 * 0 + _ + 12 ≤ _; omega) ?_
    exact kk H locs ls hR hS hl hL (mu_okt hst) hz hu
  · cases hs
theorem mu_cpy_at (I : mu_M) (a0 sp a dp n b j : Int) : mu_cpy I a0 sp a dp n b j = if b = a ∧ dp ≤ j ∧ j < dp + n then I a0 (sp + (j - dp)) else I b j := rfl
theorem mu_nn {z : Int32} (hz : ¬ z < 0) : z.toInt = (z.toNatClampNeg : Int) := by
  have hz0 : (0 : Int) ≤ z.toInt := by
    have := Int32.not_lt.mp hz
    simpa using Int32.le_iff_toInt_le.mp this
  show z.toInt = ((z.toInt.toNat : Nat) : Int)
  omega
theorem sim_copy_int {own nm : String} {cc : ByteArray} {mx pc : Nat} {rt : Option FieldType} {lg : Bool} {ix : Nat} (h : decode cc pc = .ok (.invokestatic ix, 3)) (hw : Cond.methodLink own ix arraycopyName ∈ mu_tb) (w1 : Cond.native arraycopyName ∈ mu_tb) (w2 : Cond.static arraycopyName ∈ mu_tb) (w3 : Cond.initialized "java/lang/System" ∈ mu_tb) : mu_Sim own cc mx rt nm lg pc (s_copy 100 (pc + 3)) := by
  refine ⟨fun L st G I => ⟨fun fr G1 I1 h => ?_, fun g fr G1 I1 h hg => ?_⟩, ?_⟩
  · unfold s_copy at h; (try split at h) <;> (try split at h) <;> (try split at h) <;> first | (cases h; done) | (cases h; exact ⟨Int.le_refl _, Int.le_refl _⟩) | (cases h; simp only [gz_gnew, gu_gnew]; omega) | (obtain ⟨-, h⟩ := mu_bif h; cases h; done) | (obtain ⟨-, h⟩ := mu_bif h; cases h; exact ⟨Int.le_refl _, Int.le_refl _⟩)
  · unfold s_copy at h; (try split at h) <;> (try split at h) <;> (try split at h) <;> first | (cases h; done) | (cases h; exact ⟨Int.le_refl _, Int.le_refl _⟩) | (cases h; simp only [gz_gnew, gu_gnew]; omega) | (obtain ⟨-, h⟩ := mu_bif h; cases h; done) | (obtain ⟨-, h⟩ := mu_bif h; cases h; exact ⟨Int.le_refl _, Int.le_refl _⟩)
  intro K p l e R s m args below meth c Q z0 u0 d C L st G I sr hs hok H locs ls hR hS hl hL hst hz hu
  unfold s_copy at hs
  split at hs
  · rename_i n dp a sp a0 st1
    cases hb : Nat.ble (mu_len st1) 4 with
    | false => rw [hb] at hs; cases hs
    | true =>
    rw [hb] at hs
    cases hs
    obtain ⟨⟨ha, ha0, t0, t1, p1, p2, p3, p4, p5⟩, -, -, kk⟩ := hok
    have hts := C.2.2.2.2.1
    have hE := C.2.2.2.2.2.1
    have hd := C.2.2.2.2.2.2.2.2.2
    have own1 : ∀ b : Int, 0 ≤ b → (sh G b).1 = 100 → b < gz G := fun b hb0 ht => by
      rcases Int.lt_or_le b (gz G) with z | z
      · exact z
      · have e1 := hR.2.2.2.1 b (Or.inr z)
        rcases mu_xs1 K b with ⟨-, q⟩ | q | q
        · omega
        · rw [← e1, ht] at q; exact absurd q (by decide)
        · rw [← e1, ht] at q; exact absurd q (by decide)
    obtain ⟨ok0, cr0⟩ := hR.2.2.1 a0 ha0 (own1 a0 ha0 t0)
    obtain ⟨ok1, cr1⟩ := hR.2.2.1 a ha (own1 a ha t1)
    obtain ⟨n0, e0, m0⟩ := mu_nat ok0 t0 (by decide)
    obtain ⟨n1, e1, m1⟩ := mu_nat ok1 t1 (by decide)
    rw [e0] at p4
    rw [e1] at p5
    simp only at p4 p5
    have hc0 := cr0.2.1 n0 e0
    have hc1 := cr1.2.1 n1 e1
    have osp := mu_tn p1 (show sp ≤ 2147483647 by omega)
    have odp := mu_tn p2 (show dp ≤ 2147483647 by omega)
    have on := mu_tn p3 (show n ≤ 2147483647 by omega)
    have h1 := mu_ng p1 (show sp ≤ 2147483647 by omega)
    have h2 := mu_ng p2 (show dp ≤ 2147483647 by omega)
    have h3 := mu_ng p3 (show n ≤ 2147483647 by omega)
    show W p l e R s m args below meth c H locs _ _ Q (F0 m pc ls (.int (Int32.ofInt n) :: .int (Int32.ofInt dp) :: mu_rv K a :: .int (Int32.ofInt sp) :: mu_rv K a0 :: st1.map (mu_cv K)))
    rw [mu_rv_own ha, mu_rv_own ha0]
    intro T hT X
    obtain ⟨-, k0, hk0, cm0, hkk0⟩ := (mu_arr hE.1).1.1 n0 (fun j => .int (Int32.ofInt (I a0 j)))
    obtain ⟨-, k1, hk1, cm1, hkk1⟩ := (mu_arr hE.1).1.1 n1 (fun j => .int (Int32.ofInt (I a j)))
    obtain ⟨vm', X', step⟩ := X.arraycopy C.1 C.2.2.2.1 (hts _ hw) (hts _ w1) (hts _ w2) (hts _ w3) (src := mu_ad K a0) (dst := mu_ad K a) (cs := arrV (kI K) n0 (fun j => .int (Int32.ofInt (I a0 j)))) (cd := arrV (kI K) n1 (fun j => .int (Int32.ofInt (I a j)))) (srcPos := Int32.ofInt sp) (destPos := Int32.ofInt dp) (n := Int32.ofInt n) (by rw [hT]; exact hc0) (by rw [hT]; exact hc1)
      (fun _ h => by cases h) (fun _ h => by cases h) (fun h => by cases h) (fun h => by cases h) hk0 hk1 hkk0 hkk1 rfl h1 h2 h3
      (by rw [mu_nn h1, mu_nn h3, arrV_size, osp, on]; omega)
      (by rw [mu_nn h2, mu_nn h3, arrV_size, odp, on]; omega)
      (fun vm₁ _ i hi => by
        rw [on] at hi
        have e : (arrV (kI K) n0 (fun j => .int (Int32.ofInt (I a0 j)))).slots.getD ((Int32.ofInt sp).toNatClampNeg + i) .null = .int (Int32.ofInt (I a0 ((sp.toNat + i : Nat) : Int))) := by
          rw [Array.getD_eq_getD_getElem?, osp, arrV_read _ _ (by omega)]
          rfl
        refine ⟨?_, ?_⟩
        · rw [e]
          rfl
        · rw [e]
          exact trivial)
      (g := F0 m pc ls (.int (Int32.ofInt n) :: .int (Int32.ofInt dp) :: .ref (mu_ad K a) :: .int (Int32.ofInt sp) :: .ref (mu_ad K a0) :: st1.map (mu_cv K))) rfl (by rw [C.2.2.1]; exact hl.1) (rest := st1.map (mu_cv K)) rfl (by rw [C.2.1]; exact h) (by omega) (by
        have := mu_sum (K := K) hb
        show 2 * 0 + _ + (nativeFrameWords "java/lang/System" "arraycopy" 5 + 11) ≤ _
        have hnf : nativeFrameWords "java/lang/System" "arraycopy" 5 ≤ 40 := by decide +kernel
        omega)
    have ecp : copied (arrV (kI K) n0 (fun j => .int (Int32.ofInt (I a0 j)))) (arrV (kI K) n1 (fun j => .int (Int32.ofInt (I a j)))) (Int32.ofInt sp) (Int32.ofInt dp) (Int32.ofInt n) = arrV (kI K) n1 (fun j => .int (Int32.ofInt (mu_cpy I a0 sp a dp n a j))) := by
      have e0 : copied (arrV (kI K) n0 (fun j => .int (Int32.ofInt (I a0 j)))) (arrV (kI K) n1 (fun j => .int (Int32.ofInt (I a j)))) (Int32.ofInt sp) (Int32.ofInt dp) (Int32.ofInt n) = arrV (kI K) n1 (fun j => .int (Int32.ofInt (va_cpy (fun j : Nat => I a0 j) (fun j : Nat => I a j) (Int32.ofInt sp).toNatClampNeg (Int32.ofInt dp).toNatClampNeg (Int32.ofInt n).toNatClampNeg j))) := va_copied (fun z => Value.int (Int32.ofInt z)) (kI K) (kI K) (n0 := n0) (fun j : Nat => I a0 j) (fun j : Nat => I a j) (by rw [osp, on]; omega)
      rw [e0, osp, odp, on]
      congr 1
      funext j
      congr 2
      unfold va_cpy
      rw [mu_cpy_at]
      by_cases q : dp.toNat ≤ j ∧ j < dp.toNat + n.toNat
      · rw [if_pos q, if_pos ⟨rfl, by omega, by omega⟩]
        show I a0 ((sp.toNat + (j - dp.toNat) : Nat) : Int) = I a0 (sp + ((j : Int) - dp))
        rw [show ((sp.toNat + (j - dp.toNat) : Nat) : Int) = sp + ((j : Int) - dp) by omega]
      · rw [if_neg q, if_neg (fun z => q ⟨by omega, by omega⟩)]
    rw [ecp] at X' step
    have hlt : mu_ad K a < H.size := (Array.getElem?_eq_some_iff.mp hc1).1
    have hheap : ((T.setVm vm').setCell (mu_ad K a) (arrV (kI K) n1 (fun j => .int (Int32.ofInt (mu_cpy I a0 sp a dp n a j))))).heap = H.setIfInBounds (mu_ad K a) (arrV (kI K) n1 (fun j => .int (Int32.ofInt (mu_cpy I a0 sp a dp n a j)))) := by rw [← hT]; rfl
    have oq : ∀ q : Nat, q ≠ mu_ad K a → (H.setIfInBounds (mu_ad K a) (arrV (kI K) n1 (fun j => .int (Int32.ofInt (mu_cpy I a0 sp a dp n a j)))))[q]? = H[q]? := fun q hq => by simp [Array.getElem?_setIfInBounds, Ne.symm hq]
    have hA : kA K (mu_ad K a) := by rw [mu_ad_own ha]; exact Nat.le_add_right _ _
    have hRel : mu_Rel K G (mu_cpy I a0 sp a dp n) (H.setIfInBounds (mu_ad K a) (arrV (kI K) n1 (fun j => .int (Int32.ofInt (mu_cpy I a0 sp a dp n a j))))) := by
      refine mu_Rel_set hR ha rfl (fun _ => rfl) (fun _ _ _ => rfl) (fun b j hb2 => by rw [mu_cpy_at, if_neg (fun z => hb2 z.1)]) (fun j => by rw [mu_cpy_at]; split <;> exact hR.2.2.2.2.2 _ _) (by simp) oq ⟨fun ci hc q => ?_, fun n2 q => ?_, fun n2 q => ?_, fun n2 q => ?_⟩
      · rw [e1] at q; have := (Prod.mk.inj q).1; omega
      · rw [e1] at q
        have e2 : n1 = n2 := by have := (Prod.mk.inj q).2; omega
        subst e2
        have e3 : (H.setIfInBounds (mu_ad K a) (arrV (kI K) n1 (fun j => .int (Int32.ofInt (mu_cpy I a0 sp a dp n a j)))))[mu_ad K a]? = some (arrV (kI K) n1 (fun j => .int (Int32.ofInt (mu_cpy I a0 sp a dp n a j)))) := by simp [Array.getElem?_setIfInBounds, hlt]
        exact e3
      · rw [e1] at q; have := (Prod.mk.inj q).1; omega
      · rw [e1] at q; have := (Prod.mk.inj q).1; omega
    obtain ⟨t, a1, b1⟩ := kk _ _ ls hRel (show va_S (kA K) s.heap _ (locs ++ _) from ⟨by simp; exact hS.1, fun q g1 g2 => by
      rw [oq q (fun e => g2 (by rw [e]; exact hA))]
      exact hS.2.1 q g1 g2, fun q hq => by
      rcases List.mem_append.mp hq with h | h
      · exact hS.2.2 q h
      · obtain ⟨z, -, hz⟩ := List.mem_map.mp h
        rw [← hz]
        exact hA⟩) hl hL (mu_okt (mu_okt (mu_okt (mu_okt (mu_okt hst))))) hz hu _ hheap X'
    exact ⟨t, step t a1, b1⟩
  · cases hs
theorem sim_copy_bool {own nm : String} {cc : ByteArray} {mx pc : Nat} {rt : Option FieldType} {lg : Bool} {ix : Nat} (h : decode cc pc = .ok (.invokestatic ix, 3)) (hw : Cond.methodLink own ix arraycopyName ∈ mu_tb) (w1 : Cond.native arraycopyName ∈ mu_tb) (w2 : Cond.static arraycopyName ∈ mu_tb) (w3 : Cond.initialized "java/lang/System" ∈ mu_tb) : mu_Sim own cc mx rt nm lg pc (s_copy 101 (pc + 3)) := by
  refine ⟨fun L st G I => ⟨fun fr G1 I1 h => ?_, fun g fr G1 I1 h hg => ?_⟩, ?_⟩
  · unfold s_copy at h; (try split at h) <;> (try split at h) <;> (try split at h) <;> first | (cases h; done) | (cases h; exact ⟨Int.le_refl _, Int.le_refl _⟩) | (cases h; simp only [gz_gnew, gu_gnew]; omega) | (obtain ⟨-, h⟩ := mu_bif h; cases h; done) | (obtain ⟨-, h⟩ := mu_bif h; cases h; exact ⟨Int.le_refl _, Int.le_refl _⟩)
  · unfold s_copy at h; (try split at h) <;> (try split at h) <;> (try split at h) <;> first | (cases h; done) | (cases h; exact ⟨Int.le_refl _, Int.le_refl _⟩) | (cases h; simp only [gz_gnew, gu_gnew]; omega) | (obtain ⟨-, h⟩ := mu_bif h; cases h; done) | (obtain ⟨-, h⟩ := mu_bif h; cases h; exact ⟨Int.le_refl _, Int.le_refl _⟩)
  intro K p l e R s m args below meth c Q z0 u0 d C L st G I sr hs hok H locs ls hR hS hl hL hst hz hu
  unfold s_copy at hs
  split at hs
  · rename_i n dp a sp a0 st1
    cases hb : Nat.ble (mu_len st1) 4 with
    | false => rw [hb] at hs; cases hs
    | true =>
    rw [hb] at hs
    cases hs
    obtain ⟨⟨ha, ha0, t0, t1, p1, p2, p3, p4, p5⟩, -, -, kk⟩ := hok
    have hts := C.2.2.2.2.1
    have hE := C.2.2.2.2.2.1
    have hd := C.2.2.2.2.2.2.2.2.2
    have own1 : ∀ b : Int, 0 ≤ b → (sh G b).1 = 101 → b < gz G := fun b hb0 ht => by
      rcases Int.lt_or_le b (gz G) with z | z
      · exact z
      · have e1 := hR.2.2.2.1 b (Or.inr z)
        rcases mu_xs1 K b with ⟨-, q⟩ | q | q
        · omega
        · rw [← e1, ht] at q; exact absurd q (by decide)
        · rw [← e1, ht] at q; exact absurd q (by decide)
    obtain ⟨ok0, cr0⟩ := hR.2.2.1 a0 ha0 (own1 a0 ha0 t0)
    obtain ⟨ok1, cr1⟩ := hR.2.2.1 a ha (own1 a ha t1)
    obtain ⟨n0, e0, m0⟩ := mu_nat ok0 t0 (by decide)
    obtain ⟨n1, e1, m1⟩ := mu_nat ok1 t1 (by decide)
    rw [e0] at p4
    rw [e1] at p5
    simp only at p4 p5
    have hc0 := cr0.2.2.1 n0 e0
    have hc1 := cr1.2.2.1 n1 e1
    have osp := mu_tn p1 (show sp ≤ 2147483647 by omega)
    have odp := mu_tn p2 (show dp ≤ 2147483647 by omega)
    have on := mu_tn p3 (show n ≤ 2147483647 by omega)
    have h1 := mu_ng p1 (show sp ≤ 2147483647 by omega)
    have h2 := mu_ng p2 (show dp ≤ 2147483647 by omega)
    have h3 := mu_ng p3 (show n ≤ 2147483647 by omega)
    show W p l e R s m args below meth c H locs _ _ Q (F0 m pc ls (.int (Int32.ofInt n) :: .int (Int32.ofInt dp) :: mu_rv K a :: .int (Int32.ofInt sp) :: mu_rv K a0 :: st1.map (mu_cv K)))
    rw [mu_rv_own ha, mu_rv_own ha0]
    intro T hT X
    obtain ⟨-, k0, hk0, cm0, hkk0⟩ := (mu_arr hE.1).2.1.1 n0 (fun j => .int (Int32.ofInt (I a0 j)))
    obtain ⟨-, k1, hk1, cm1, hkk1⟩ := (mu_arr hE.1).2.1.1 n1 (fun j => .int (Int32.ofInt (I a j)))
    obtain ⟨vm', X', step⟩ := X.arraycopy C.1 C.2.2.2.1 (hts _ hw) (hts _ w1) (hts _ w2) (hts _ w3) (src := mu_ad K a0) (dst := mu_ad K a) (cs := arrV (kZ K) n0 (fun j => .int (Int32.ofInt (I a0 j)))) (cd := arrV (kZ K) n1 (fun j => .int (Int32.ofInt (I a j)))) (srcPos := Int32.ofInt sp) (destPos := Int32.ofInt dp) (n := Int32.ofInt n) (by rw [hT]; exact hc0.1) (by rw [hT]; exact hc1.1)
      (fun _ h => by cases h) (fun _ h => by cases h) (fun h => by cases h) (fun h => by cases h) hk0 hk1 hkk0 hkk1 rfl h1 h2 h3
      (by rw [mu_nn h1, mu_nn h3, arrV_size, osp, on]; omega)
      (by rw [mu_nn h2, mu_nn h3, arrV_size, odp, on]; omega)
      (fun vm₁ _ i hi => by
        rw [on] at hi
        have e : (arrV (kZ K) n0 (fun j => .int (Int32.ofInt (I a0 j)))).slots.getD ((Int32.ofInt sp).toNatClampNeg + i) .null = .int (Int32.ofInt (I a0 ((sp.toNat + i : Nat) : Int))) := by
          rw [Array.getD_eq_getD_getElem?, osp, arrV_read _ _ (by omega)]
          rfl
        refine ⟨?_, ?_⟩
        · rw [e]
          rcases hc0.2 (sp.toNat + i) (by omega) with z | z <;> (rw [z]; rfl)
        · rw [e]
          exact trivial)
      (g := F0 m pc ls (.int (Int32.ofInt n) :: .int (Int32.ofInt dp) :: .ref (mu_ad K a) :: .int (Int32.ofInt sp) :: .ref (mu_ad K a0) :: st1.map (mu_cv K))) rfl (by rw [C.2.2.1]; exact hl.1) (rest := st1.map (mu_cv K)) rfl (by rw [C.2.1]; exact h) (by omega) (by
        have := mu_sum (K := K) hb
        show 2 * 0 + _ + (nativeFrameWords "java/lang/System" "arraycopy" 5 + 11) ≤ _
        have hnf : nativeFrameWords "java/lang/System" "arraycopy" 5 ≤ 40 := by decide +kernel
        omega)
    have ecp : copied (arrV (kZ K) n0 (fun j => .int (Int32.ofInt (I a0 j)))) (arrV (kZ K) n1 (fun j => .int (Int32.ofInt (I a j)))) (Int32.ofInt sp) (Int32.ofInt dp) (Int32.ofInt n) = arrV (kZ K) n1 (fun j => .int (Int32.ofInt (mu_cpy I a0 sp a dp n a j))) := by
      have e0 : copied (arrV (kZ K) n0 (fun j => .int (Int32.ofInt (I a0 j)))) (arrV (kZ K) n1 (fun j => .int (Int32.ofInt (I a j)))) (Int32.ofInt sp) (Int32.ofInt dp) (Int32.ofInt n) = arrV (kZ K) n1 (fun j => .int (Int32.ofInt (va_cpy (fun j : Nat => I a0 j) (fun j : Nat => I a j) (Int32.ofInt sp).toNatClampNeg (Int32.ofInt dp).toNatClampNeg (Int32.ofInt n).toNatClampNeg j))) := va_copied (fun z => Value.int (Int32.ofInt z)) (kZ K) (kZ K) (n0 := n0) (fun j : Nat => I a0 j) (fun j : Nat => I a j) (by rw [osp, on]; omega)
      rw [e0, osp, odp, on]
      congr 1
      funext j
      congr 2
      unfold va_cpy
      rw [mu_cpy_at]
      by_cases q : dp.toNat ≤ j ∧ j < dp.toNat + n.toNat
      · rw [if_pos q, if_pos ⟨rfl, by omega, by omega⟩]
        show I a0 ((sp.toNat + (j - dp.toNat) : Nat) : Int) = I a0 (sp + ((j : Int) - dp))
        rw [show ((sp.toNat + (j - dp.toNat) : Nat) : Int) = sp + ((j : Int) - dp) by omega]
      · rw [if_neg q, if_neg (fun z => q ⟨by omega, by omega⟩)]
    rw [ecp] at X' step
    have hlt : mu_ad K a < H.size := (Array.getElem?_eq_some_iff.mp hc1.1).1
    have hheap : ((T.setVm vm').setCell (mu_ad K a) (arrV (kZ K) n1 (fun j => .int (Int32.ofInt (mu_cpy I a0 sp a dp n a j))))).heap = H.setIfInBounds (mu_ad K a) (arrV (kZ K) n1 (fun j => .int (Int32.ofInt (mu_cpy I a0 sp a dp n a j)))) := by rw [← hT]; rfl
    have oq : ∀ q : Nat, q ≠ mu_ad K a → (H.setIfInBounds (mu_ad K a) (arrV (kZ K) n1 (fun j => .int (Int32.ofInt (mu_cpy I a0 sp a dp n a j)))))[q]? = H[q]? := fun q hq => by simp [Array.getElem?_setIfInBounds, Ne.symm hq]
    have hA : kA K (mu_ad K a) := by rw [mu_ad_own ha]; exact Nat.le_add_right _ _
    have hRel : mu_Rel K G (mu_cpy I a0 sp a dp n) (H.setIfInBounds (mu_ad K a) (arrV (kZ K) n1 (fun j => .int (Int32.ofInt (mu_cpy I a0 sp a dp n a j))))) := by
      refine mu_Rel_set hR ha rfl (fun _ => rfl) (fun _ _ _ => rfl) (fun b j hb2 => by rw [mu_cpy_at, if_neg (fun z => hb2 z.1)]) (fun j => by rw [mu_cpy_at]; split <;> exact hR.2.2.2.2.2 _ _) (by simp) oq ⟨fun ci hc q => ?_, fun n2 q => ?_, fun n2 q => ?_, fun n2 q => ?_⟩
      · rw [e1] at q; have := (Prod.mk.inj q).1; omega
      · rw [e1] at q; have := (Prod.mk.inj q).1; omega
      · rw [e1] at q
        have e2 : n1 = n2 := by have := (Prod.mk.inj q).2; omega
        subst e2
        have e3 : (H.setIfInBounds (mu_ad K a) (arrV (kZ K) n1 (fun j => .int (Int32.ofInt (mu_cpy I a0 sp a dp n a j)))))[mu_ad K a]? = some (arrV (kZ K) n1 (fun j => .int (Int32.ofInt (mu_cpy I a0 sp a dp n a j)))) := by simp [Array.getElem?_setIfInBounds, hlt]
        refine ⟨e3, fun j hj => ?_⟩
        rw [mu_cpy_at]
        split
        · rename_i z
          have := hc0.2 (sp + (j - dp)).toNat (by omega)
          rw [show (((sp + (j - dp)).toNat : Nat) : Int) = sp + (j - dp) by omega] at this
          exact this
        · exact hc1.2 j hj
      · rw [e1] at q; have := (Prod.mk.inj q).1; omega
    obtain ⟨t, a1, b1⟩ := kk _ _ ls hRel (show va_S (kA K) s.heap _ (locs ++ _) from ⟨by simp; exact hS.1, fun q g1 g2 => by
      rw [oq q (fun e => g2 (by rw [e]; exact hA))]
      exact hS.2.1 q g1 g2, fun q hq => by
      rcases List.mem_append.mp hq with h | h
      · exact hS.2.2 q h
      · obtain ⟨z, -, hz⟩ := List.mem_map.mp h
        rw [← hz]
        exact hA⟩) hl hL (mu_okt (mu_okt (mu_okt (mu_okt (mu_okt hst))))) hz hu _ hheap X'
    exact ⟨t, step t a1, b1⟩
  · cases hs

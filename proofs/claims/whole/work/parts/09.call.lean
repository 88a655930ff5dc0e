/-! CALLS OF METHODS -/
theorem mu_tb_ws {ws : List Cond} (h : ∀ w ∈ ws, w ∈ mu_tb) : GoodIn mu_tb ws := fun w hw => mu_tb_good w (h w hw)
theorem mu_pop_eq : ∀ {n : Nat} {acc st as rest : List mu_V}, mu_pop n acc st = some (as, rest) → ∃ pre, st = pre ++ rest ∧ as = pre.reverse ++ acc ∧ pre.length = n
  | 0, acc, st, as, rest, h => by
    cases h
    exact ⟨[], rfl, rfl, rfl⟩
  | n + 1, acc, [], as, rest, h => by cases h
  | n + 1, acc, v :: st, as, rest, h => by
    obtain ⟨pre, h1, h2, h3⟩ := mu_pop_eq (n := n) h
    exact ⟨v :: pre, by rw [h1]; rfl, by rw [h2]; simp, by simp [h3]⟩
/-- what a call leaves on the stack -/
def mu_rs (K : mu_K) (rt : Option FieldType) (v : Int) : List Value := (mu_psh (mu_kd rt) v []).map (mu_cv K)
section
variable {p : Program} {l : Launch} {e : Env} {R : Room} {s : State} {m : MethodId} {args : Array Value} {below : List Frame} {meth : Method} {c : Code} {H : Heap} {locs : List Loc} {cells slots : Nat} {Q : State → Prop}
theorem mu_after {K : mu_K} {rt : Option FieldType} {v : Int} {G1 : mu_G} {I1 : mu_M} {mc ms pc : Nat} {ls : Array Slot} {st0 rest : List Value} {a : Array Value} (hr : va_Run p l e R s m args below meth c H locs cells slots mc ms (F0 m pc ls st0) rest (mu_Qc K rt v G1 I1 a) (kA K)) (hS : va_S (kA K) s.heap H locs)
    (kk : ∀ (H1 : Heap) (locs1 : List Loc), mu_Rel K G1 I1 H1 → va_S (kA K) s.heap H1 locs1 → (∀ w ∈ mu_psh (mu_kd rt) v [], mu_okv w) → W p l e R s m args below meth c H1 locs1 (cells + mc) (slots + ms) Q (F0 m (pc + 3) ls (mu_rs K rt v ++ rest))) : W p l e R s m args below meth c H locs cells slots Q (F0 m pc ls st0) := by
  have wi : ∀ {r : Int32} {rt : Option FieldType}, mu_kd rt = 0 → r = Int32.ofInt v ∧ mu_okv (0, v) → (mu_rs K rt v = [.int r]) ∧ ∀ w ∈ mu_psh (mu_kd rt) v [], mu_okv w := by
    intro r rt h q
    unfold mu_rs
    rw [h, q.1]
    exact ⟨rfl, fun w hw => by rw [List.mem_singleton.mp hw]; exact q.2⟩
  cases rt with
  | none => exact va_callv (a := a) hr hS (fun _ _ h => h) (fun _ h => h) (fun u t H1 locs1 ht _ _ hB _ _ hS1 => kk H1 locs1 (by rw [← ht]; exact hB) hS1 (fun w hw => by cases hw))
  | some ty =>
    cases ty with
    | int => exact va_calli (a := a) hr hS (fun _ _ h => h) (fun _ h => h) (fun r u t H1 locs1 ht _ hp hB _ _ hS1 => by
        obtain ⟨e1, e2⟩ := wi (rt := some .int) rfl hp
        have := kk H1 locs1 (by rw [← ht]; exact hB) hS1 e2
        rw [e1] at this
        exact this)
    | boolean => exact va_calli (a := a) hr hS (fun _ _ h => h) (fun _ h => h) (fun r u t H1 locs1 ht _ hp hB _ _ hS1 => by
        obtain ⟨e1, e2⟩ := wi (rt := some .boolean) rfl hp
        have := kk H1 locs1 (by rw [← ht]; exact hB) hS1 e2
        rw [e1] at this
        exact this)
    | long => exact va_calll (a := a) hr hS (fun _ _ h => h) (fun _ h => h) (fun r u t H1 locs1 ht _ hp hB _ _ hS1 => by
        have := kk H1 locs1 (by rw [← ht]; exact hB) hS1 (fun w hw => by rw [List.mem_singleton.mp hw]; exact hp.2)
        rw [hp.1]
        exact this)
    | _ => exact va_callq (a := a) hr hS (fun _ _ h => h) (fun _ h => h) (fun r u t H1 locs1 ht _ hp hB _ _ hS1 => by
        have := kk H1 locs1 (by rw [← ht]; exact hB) hS1 (fun w hw => by rw [List.mem_singleton.mp hw]; trivial)
        subst hp
        exact this)
end
theorem mu_blind {K : mu_K} {G : mu_G} {I : mu_M} {av : List Value} : FrameBlind (va_Pc av (fun U => mu_Rel K G I U.heap ∧ mu_E K U)) := fun a U g mk q => ⟨q.1, q.2.1, q.2.2.same rfl rfl⟩
/-- a site where a static method is called -/
def mu_SiteS (own : String) (cc : ByteArray) (mx : Nat) (rt : Option FieldType) (nm : String) (pc : Nat) (q : mu_Mi) (na : Nat) : Prop :=
  ∀ (K : mu_K) (p : Program) (l : Launch) (e : Env) (R : Room) (s : State) (m : MethodId) (args : Array Value) (below : List Frame) (meth : Method) (c : Code) (d : Nat) (G : mu_G) (I : mu_M) (H : Heap) (locs : List Loc) (cells slots : Nat) (ls : Array Slot) (ra : List mu_V) (v : Int) (G1 : mu_G) (I1 : mu_M) (rest : List Value),
    mu_Cx K own cc mx rt nm d p R s m args meth c → mu_Rel K G I H → va_S (kA K) s.heap H locs → ls.size = mx → ra.length = na → d < 1000 → mu_Met K l q (d + 1) ra G I v G1 I1 → (rest.map fun v => v.category).sum ≤ 8 → cells + (gz G1 - gz G).toNat ≤ R.cells → slots + (gu G1 - gu G).toNat ≤ R.slots →
    va_Run p l e R s m args below meth c H locs cells slots (gz G1 - gz G).toNat (gu G1 - gu G).toNat (F0 m pc ls ((ra.map (mu_cv K)).reverse ++ rest)) rest (mu_Qc K q.2.2.2 v G1 I1 (ra.map (mu_cv K)).toArray) (kA K)
/-- a site where a method of an object of class ci is called -/
def mu_SiteV (own : String) (cc : ByteArray) (mx : Nat) (rt : Option FieldType) (nm : String) (pc ci : Nat) (q : mu_Mi) (na : Nat) : Prop :=
  ∀ (K : mu_K) (p : Program) (l : Launch) (e : Env) (R : Room) (s : State) (m : MethodId) (args : Array Value) (below : List Frame) (meth : Method) (c : Code) (d : Nat) (G : mu_G) (I : mu_M) (H : Heap) (locs : List Loc) (cells slots : Nat) (ls : Array Slot) (a : Int) (ra : List mu_V) (v : Int) (G1 : mu_G) (I1 : mu_M) (rest : List Value),
    mu_Cx K own cc mx rt nm d p R s m args meth c → mu_Rel K G I H → va_S (kA K) s.heap H locs → sh G a = ((ci : Int), 0) → ls.size = mx → ra.length = na → d < 1000 → mu_Met K l q (d + 1) ((1, a) :: ra) G I v G1 I1 → (rest.map fun v => v.category).sum ≤ 8 → cells + (gz G1 - gz G).toNat ≤ R.cells → slots + (gu G1 - gu G).toNat ≤ R.slots →
    va_Run p l e R s m args below meth c H locs cells slots (gz G1 - gz G).toNat (gu G1 - gu G).toNat (F0 m pc ls ((ra.map (mu_cv K)).reverse ++ mu_rv K a :: rest)) rest (mu_Qc K q.2.2.2 v G1 I1 (mu_rv K a :: ra.map (mu_cv K)).toArray) (kA K)
section
variable {own nm : String} {cc : ByteArray} {mx pc ci na ix : Nat} {rt : Option FieldType} {q : mu_Mi}
theorem mu_siteS (h : decode cc pc = .ok (.invokestatic ix, 3)) (hm : q.2.2.1 ≤ 40) (hw1 : Cond.methodLink own ix q.1 ∈ mu_tb) (hw2 : Cond.static q.1 ∈ mu_tb) (hw3 : Cond.initialized own ∈ mu_tb) (hw4 : Cond.code q.1 q.2.1 q.2.2.1 q.2.2.2 ∈ mu_tb) (hd : q.1.cls = own ∧ q.1.cls ≠ "java/lang/invoke/MethodHandle" ∧ q.1.cls ≠ "java/lang/invoke/VarHandle" ∧ (parseMethodDescriptor q.1.desc).map (fun d => d.parameters.length) = some na) : mu_SiteS own cc mx rt nm pc q na := by
  intro K p l e R s m args below meth c d G I H locs cells slots ls ra v G1 I1 rest C hR hS hls hra hd1 hM hsum hc1 hc2
  have hts := C.2.2.2.2.1
  obtain ⟨-, c2, c3⟩ := C.2.2.2.2.2.2.2.2.2
  refine va_runS (nL := mx) (Ts := mu_tb) (own := own) ⟨C.1, C.2.1, C.2.2.1, C.2.2.2.1, hts⟩ hM (cwS na hts (mu_tb_ws ?_) rfl rfl rfl hd ⟨by show 1012 - (d + 1) + 1 ≤ _; omega, by show 8 + (q.2.2.1 + 11) + 64 * (1012 - (d + 1)) ≤ _; omega⟩) ⟨mu_blind, fun U hU hW => ⟨rfl, by rw [hU]; exact hR, C.2.2.2.2.2.1.go hW hU hS⟩⟩ rfl (by rw [List.length_map]; exact hra) hls rfl (lv_room hsum) h ⟨hc1, hc2⟩
  intro w hw
  rcases List.mem_append.mp hw with h1 | h1
  · simp only [List.mem_cons, List.not_mem_nil, or_false] at h1
    rcases h1 with rfl | rfl | rfl <;> assumption
  · rcases List.mem_cons.mp h1 with rfl | h1
    · exact hw4
    · exact h1
theorem mu_recv {K : mu_K} {G : mu_G} {I : mu_M} {H : Heap} {a : Int} {s : State} (hE : mu_E K s) (hR : mu_Rel K G I H) (ho : sh G a = ((ci : Int), 0)) (hc : ci < 13) : 0 ≤ a ∧ ∃ cell : Cell, H[mu_ad K a]? = some cell ∧ cell.vm.isStatics = false ∧ s.vm.findClass (mc_R ci) = some cell.cls := by
  obtain ⟨a0, -, hcr⟩ := mu_ownc hR ho hc
  obtain ⟨cell, q1, q2, q3, -⟩ := hcr.1 ci hc ho
  exact ⟨a0, cell, q1, by rw [q3]; rfl, by rw [q2]; exact (hE.1.1 ci _ (mc_cls_at ci hc)).2.1⟩
theorem mu_siteV (hc : ci < 13) (h : decode cc pc = .ok (.invokevirtual ix, 3)) (hm : q.2.2.1 ≤ 40) (hw1 : Cond.methodLink own ix q.1 ∈ mu_tb) (hw2 : Cond.instanceMethod q.1 ∈ mu_tb) (hw3 : Cond.initialized (mc_R ci) ∈ mu_tb) (hw4 : Cond.code q.1 q.2.1 q.2.2.1 q.2.2.2 ∈ mu_tb) (hw5 : Cond.selects (mc_R ci) q.1 q.1 ∈ mu_tb) (hd : q.1.cls = mc_R ci ∧ q.1.cls ≠ "java/lang/invoke/MethodHandle" ∧ q.1.cls ≠ "java/lang/invoke/VarHandle" ∧ (parseMethodDescriptor q.1.desc).map (fun d => d.parameters.length) = some na) : mu_SiteV own cc mx rt nm pc ci q na := by
  intro K p l e R s m args below meth c d G I H locs cells slots ls a ra v G1 I1 rest C hR hS ho hls hra hd1 hM hsum hc1 hc2
  have hts := C.2.2.2.2.1
  obtain ⟨-, c2, c3⟩ := C.2.2.2.2.2.2.2.2.2
  obtain ⟨a0, hrc⟩ := mu_recv C.2.2.2.2.2.1 hR ho hc
  unfold mu_Met at hM
  rw [List.map_cons, show mu_cv K (1, a) = .ref (mu_ad K a) from mu_rv_own a0] at hM
  rw [mu_rv_own a0]
  refine va_runV (C := mc_R ci) (nL := mx) (Ts := mu_tb) (own := own) ⟨C.1, C.2.1, C.2.2.1, C.2.2.2.1, hts⟩ hM (cwV na hts (mu_tb_ws ?_) rfl rfl rfl hd ⟨by show 1012 - (d + 1) + 1 ≤ _; omega, by show 8 + (q.2.2.1 + 11) + 64 * (1012 - (d + 1)) ≤ _; omega⟩) ⟨mu_blind, hrc, fun U hU hW => ⟨rfl, by rw [hU]; exact hR, C.2.2.2.2.2.1.go hW hU hS⟩⟩ rfl (by rw [List.length_map]; exact hra) hls rfl (lv_room hsum) h ⟨hc1, hc2⟩
  intro w hw
  rcases List.mem_append.mp hw with h1 | h1
  · simp only [List.mem_cons, List.not_mem_nil, or_false] at h1
    rcases h1 with rfl | rfl | rfl | rfl <;> assumption
  · rcases List.mem_cons.mp h1 with rfl | h1
    · exact hw4
    · exact h1
theorem mu_siteI (hc : ci < 13) (h : decode cc pc = .ok (.invokespecial ix, 3)) (hm : q.2.2.1 ≤ 40) (hrt : q.2.2.2 = none) (hw1 : Cond.methodLink own ix q.1 ∈ mu_tb) (hw2 : Cond.instanceMethod q.1 ∈ mu_tb) (hw3 : Cond.initialized q.1.cls ∈ mu_tb) (hw4 : Cond.code q.1 q.2.1 q.2.2.1 q.2.2.2 ∈ mu_tb) (hy : q.1.name = "<init>") (hd : q.1.cls ≠ "java/lang/invoke/MethodHandle" ∧ q.1.cls ≠ "java/lang/invoke/VarHandle" ∧ (parseMethodDescriptor q.1.desc).map (fun d => d.parameters.length) = some na) : mu_SiteV own cc mx rt nm pc ci q na := by
  intro K p l e R s m args below meth c d G I H locs cells slots ls a ra v G1 I1 rest C hR hS ho hls hra hd1 hM hsum hc1 hc2
  have hts := C.2.2.2.2.1
  obtain ⟨-, c2, c3⟩ := C.2.2.2.2.2.2.2.2.2
  obtain ⟨a0, hrc⟩ := mu_recv C.2.2.2.2.2.1 hR ho hc
  unfold mu_Met at hM
  rw [List.map_cons, show mu_cv K (1, a) = .ref (mu_ad K a) from mu_rv_own a0] at hM
  rw [mu_rv_own a0]
  rw [hrt] at hM hw4 ⊢
  refine va_runI (nL := mx) (Ts := mu_tb) (own := own) ⟨C.1, C.2.1, C.2.2.1, C.2.2.2.1, hts⟩ hM (cwI na hts (mu_tb_ws ?_) rfl rfl rfl (hts _ hw3) (hts _ hw1) (hts _ hw2) hy hd ⟨by show 1012 - (d + 1) + 1 ≤ _; omega, by show 8 + (q.2.2.1 + 11) + 64 * (1012 - (d + 1)) ≤ _; omega⟩) ⟨mu_blind, fun U hU hW => ⟨rfl, by rw [hU]; exact hR, C.2.2.2.2.2.1.go hW hU hS⟩⟩ rfl (by rw [List.length_map]; exact hra) hls rfl (lv_room hsum) h ⟨hc1, hc2⟩
  intro w hw
  rcases List.mem_cons.mp hw with rfl | h1
  · exact hw4
  · exact h1
theorem mu_siteU (hc : ci < 13) {x : MethodName} {owner : String} (h : decode cc pc = .ok (.invokevirtual ix, 3)) (hm : q.2.2.1 ≤ 40) (hw1 : Cond.methodLink own ix x ∈ mu_tb) (hw2 : Cond.sameMethod x.cls owner x.name x.desc ∈ mu_tb) (hw3 : Cond.selects (mc_R ci) x q.1 ∈ mu_tb) (hw4 : Cond.code q.1 q.2.1 q.2.2.1 q.2.2.2 ∈ mu_tb) (hw5 : Cond.instanceMethod q.1 ∈ mu_tb) (hw6 : Cond.initialized q.1.cls ∈ mu_tb) (hyx : q.1 = ⟨owner, x.name, x.desc⟩) (hd : owner ≠ "java/lang/invoke/MethodHandle" ∧ owner ≠ "java/lang/invoke/VarHandle" ∧ (parseMethodDescriptor x.desc).map (fun d => d.parameters.length) = some na) : mu_SiteV own cc mx rt nm pc ci q na := by
  intro K p l e R s m args below meth c d G I H locs cells slots ls a ra v G1 I1 rest C hR hS ho hls hra hd1 hM hsum hc1 hc2
  have hts := C.2.2.2.2.1
  obtain ⟨-, c2, c3⟩ := C.2.2.2.2.2.2.2.2.2
  obtain ⟨a0, hrc⟩ := mu_recv C.2.2.2.2.2.1 hR ho hc
  unfold mu_Met at hM
  rw [List.map_cons, show mu_cv K (1, a) = .ref (mu_ad K a) from mu_rv_own a0] at hM
  rw [mu_rv_own a0]
  refine va_runU (C := mc_R ci) (nL := mx) (Ts := mu_tb) (own := own) (x := x) (owner := owner) ⟨C.1, C.2.1, C.2.2.1, C.2.2.2.1, hts⟩ hM (va_cwU na hts (mu_tb_ws ?_) rfl rfl rfl hyx hd ⟨by show 1012 - (d + 1) + 1 ≤ _; omega, by show 8 + (q.2.2.1 + 11) + 64 * (1012 - (d + 1)) ≤ _; omega⟩) ⟨mu_blind, hrc, fun U hU hW => ⟨rfl, by rw [hU]; exact hR, C.2.2.2.2.2.1.go hW hU hS⟩⟩ rfl (by rw [List.length_map]; exact hra) hls rfl (lv_room hsum) h ⟨hc1, hc2⟩
  intro w hw
  rcases List.mem_append.mp hw with h1 | h1
  · simp only [List.mem_cons, List.not_mem_nil, or_false] at h1
    rcases h1 with rfl | rfl | rfl | rfl | rfl <;> assumption
  · rcases List.mem_cons.mp h1 with rfl | h1
    · exact hw4
    · exact h1
theorem mu_siteO (hc : ci < 13) {x : MethodName} {owner : String} {b0 : ByteArray} {m0 : Nat} {r0 : Option FieldType} (h : decode cc pc = .ok (.invokevirtual ix, 3)) (hm : q.2.2.1 ≤ 40) (hw1 : Cond.methodLink own ix x ∈ mu_tb) (hw2 : Cond.sameMethod x.cls owner x.name x.desc ∈ mu_tb) (hw3 : Cond.selects (mc_R ci) x q.1 ∈ mu_tb) (hw4 : Cond.code q.1 q.2.1 q.2.2.1 q.2.2.2 ∈ mu_tb) (hw5 : Cond.instanceMethod q.1 ∈ mu_tb) (hw6 : Cond.initialized q.1.cls ∈ mu_tb) (hw7 : Cond.instanceMethod ⟨owner, x.name, x.desc⟩ ∈ mu_tb) (hw8 : Cond.code ⟨owner, x.name, x.desc⟩ b0 m0 r0 ∈ mu_tb) (hd : owner ≠ "java/lang/invoke/MethodHandle" ∧ owner ≠ "java/lang/invoke/VarHandle" ∧ (parseMethodDescriptor x.desc).map (fun d => d.parameters.length) = some na) : mu_SiteV own cc mx rt nm pc ci q na := by
  intro K p l e R s m args below meth c d G I H locs cells slots ls a ra v G1 I1 rest C hR hS ho hls hra hd1 hM hsum hc1 hc2
  have hts := C.2.2.2.2.1
  obtain ⟨-, c2, c3⟩ := C.2.2.2.2.2.2.2.2.2
  obtain ⟨a0, hrc⟩ := mu_recv C.2.2.2.2.2.1 hR ho hc
  unfold mu_Met at hM
  rw [List.map_cons, show mu_cv K (1, a) = .ref (mu_ad K a) from mu_rv_own a0] at hM
  rw [mu_rv_own a0]
  refine va_runU (C := mc_R ci) (nL := mx) (Ts := mu_tb) (own := own) (x := x) (owner := owner) ⟨C.1, C.2.1, C.2.2.1, C.2.2.2.1, hts⟩ hM (va_cwO na hts (mu_tb_ws ?_) rfl rfl rfl hw8 hd ⟨by show 1012 - (d + 1) + 1 ≤ _; omega, by show 8 + (q.2.2.1 + 11) + 64 * (1012 - (d + 1)) ≤ _; omega⟩) ⟨mu_blind, hrc, fun U hU hW => ⟨rfl, by rw [hU]; exact hR, C.2.2.2.2.2.1.go hW hU hS⟩⟩ rfl (by rw [List.length_map]; exact hra) hls rfl (lv_room hsum) h ⟨hc1, hc2⟩
  intro w hw
  rcases List.mem_append.mp hw with h1 | h1
  · simp only [List.mem_cons, List.not_mem_nil, or_false] at h1
    rcases h1 with rfl | rfl | rfl | rfl | rfl | rfl <;> assumption
  · rcases List.mem_cons.mp h1 with rfl | h1
    · exact hw4
    · exact h1
theorem mu_siteP (hc : ci < 13) (h : decode cc pc = .ok (.invokespecial ix, 3)) (hm : q.2.2.1 ≤ 40) (hw1 : Cond.methodLink own ix q.1 ∈ mu_tb) (hw2 : Cond.sameMethod q.1.cls q.1.cls q.1.name q.1.desc ∈ mu_tb) (hw3 : Cond.superclass own q.1.cls ∈ mu_tb) (hw4 : Cond.code q.1 q.2.1 q.2.2.1 q.2.2.2 ∈ mu_tb) (hw5 : Cond.instanceMethod q.1 ∈ mu_tb) (hw6 : Cond.initialized q.1.cls ∈ mu_tb) (hd : q.1.name ≠ "<init>" ∧ (parseMethodDescriptor q.1.desc).map (fun d => d.parameters.length) = some na) : mu_SiteV own cc mx rt nm pc ci q na := by
  intro K p l e R s m args below meth c d G I H locs cells slots ls a ra v G1 I1 rest C hR hS ho hls hra hd1 hM hsum hc1 hc2
  have hts := C.2.2.2.2.1
  obtain ⟨-, c2, c3⟩ := C.2.2.2.2.2.2.2.2.2
  obtain ⟨a0, hrc⟩ := mu_recv C.2.2.2.2.2.1 hR ho hc
  unfold mu_Met at hM
  rw [List.map_cons, show mu_cv K (1, a) = .ref (mu_ad K a) from mu_rv_own a0] at hM
  rw [mu_rv_own a0]
  refine va_runSU (C := mc_R ci) (nL := mx) (Ts := mu_tb) (own := own) (C.2.2.2.2.2.1.1.1 ci _ (mc_cls_at ci hc)).2 ⟨C.1, C.2.1, C.2.2.1, C.2.2.2.1, hts⟩ hM (va_cwSU na hts (mu_tb_ws ?_) rfl rfl rfl hd ⟨by show 1012 - (d + 1) + 1 ≤ _; omega, by show 8 + (q.2.2.1 + 11) + 64 * (1012 - (d + 1)) ≤ _; omega⟩) ⟨mu_blind, hrc, fun U hU hW => ⟨rfl, by rw [hU]; exact hR, C.2.2.2.2.2.1.go hW hU hS⟩⟩ rfl (by rw [List.length_map]; exact hra) hls rfl (lv_room hsum) h ⟨hc1, hc2⟩
  intro w hw
  rcases List.mem_append.mp hw with h1 | h1
  · simp only [List.mem_cons, List.not_mem_nil, or_false] at h1
    rcases h1 with rfl | rfl | rfl | rfl | rfl <;> assumption
  · rcases List.mem_cons.mp h1 with rfl | h1
    · exact hw4
    · exact h1
/-- super.m(..), where the superclass inherits m from the class above it -/
theorem mu_siteQ (hc : ci < 13) {x : MethodName} (h : decode cc pc = .ok (.invokespecial ix, 3)) (hm : q.2.2.1 ≤ 40) (hw1 : Cond.methodLink own ix x ∈ mu_tb) (hw2 : Cond.sameMethod x.cls q.1.cls x.name x.desc ∈ mu_tb) (hw3 : Cond.superclass own x.cls ∈ mu_tb) (hw3b : Cond.superclass x.cls q.1.cls ∈ mu_tb) (hw4 : Cond.code q.1 q.2.1 q.2.2.1 q.2.2.2 ∈ mu_tb) (hw5 : Cond.instanceMethod q.1 ∈ mu_tb) (hw6 : Cond.initialized q.1.cls ∈ mu_tb) (hyx : q.1 = ⟨q.1.cls, x.name, x.desc⟩) (hd : x.name ≠ "<init>" ∧ (parseMethodDescriptor x.desc).map (fun d => d.parameters.length) = some na) : mu_SiteV own cc mx rt nm pc ci q na := by
  intro K p l e R s m args below meth c d G I H locs cells slots ls a ra v G1 I1 rest C hR hS ho hls hra hd1 hM hsum hc1 hc2
  have hts := C.2.2.2.2.1
  obtain ⟨-, c2, c3⟩ := C.2.2.2.2.2.2.2.2.2
  obtain ⟨a0, cellB, hcB, hoB, hclB⟩ := mu_recv C.2.2.2.2.2.1 hR ho hc
  have hat := (C.2.2.2.2.2.1.1.1 ci _ (mc_cls_at ci hc)).2
  obtain ⟨hfc, kB, hkB, -⟩ := hat
  unfold mu_Met at hM
  rw [List.map_cons, show mu_cv K (1, a) = .ref (mu_ad K a) from mu_rv_own a0] at hM
  rw [mu_rv_own a0]
  have ecls : (kD K).1 ci = cellB.cls := Option.some.inj (hfc.symm.trans hclB)
  have hkB : s.vm.classes[cellB.cls]? = some kB := by rw [← ecls]; exact hkB
  have hin : ∀ w ∈ Cond.code q.1 q.2.1 q.2.2.1 q.2.2.2 :: mu_tb, w ∈ mu_tb := fun w hw => by
    rcases List.mem_cons.mp hw with rfl | h1
    · exact hw4
    · exact h1
  have hcode := hts _ hw4
  have hK : Back l R p e below s args q.1 3 8 (PreOf R (gz G1 - gz G).toNat (gu G1 - gu G).toNat _) (PostOf _ _ _ (kA K)) := back_of (bytes := q.2.1) (maxL := q.2.2.1) (ret := q.2.2.2) hM mu_blind rfl rfl (by show 1012 - (d + 1) + 1 ≤ _; omega) (by show 8 + (q.2.2.1 + 11) + 64 * (1012 - (d + 1)) ≤ _; omega) (pay_in hts (mu_tb_ws hin)) List.mem_cons_self (fun a' U hW => word_at hW (Or.inl (by first | rfl | simp [Cond.onTables, Cond.keeps, Cond.steady])) (hts _ hw6))
  intro T hT X
  obtain ⟨mk, methM, hnamed, hmethM, hstM, habM⟩ := Cond.instanceMethod_spec (hts _ hw5)
  obtain ⟨methM', cM, hmethM', -, -, -, -, -, -, hsigM⟩ := Cond.code_spec hnamed hcode
  cases hmethM.symm.trans hmethM'
  obtain ⟨ps, dk, kp, hps, hdk, hkp, hsuper, -, -, hnid⟩ := Cond.superclass_spec C.2.2.2.1 (hts _ hw3)
  obtain ⟨ps2, dk2, kp2, hps2, hdk2, hkp2, hsuper2, -, -, -⟩ := Cond.superclass_spec hps (hts _ hw3b)
  have hpm : ps2 = mk.cls := Option.some.inj (hps2.symm.trans (findClass_of_methodNamed hnamed))
  have hsub : s.vm.isSubclass ps mk.cls = true := by
    rw [← hpm]
    have hz : 0 < s.vm.classes.size := Nat.lt_of_le_of_lt (Nat.zero_le _) (Array.getElem?_eq_some_iff.mp hdk2).1
    obtain ⟨z, hz2⟩ : ∃ z, s.vm.classes.size = z + 1 := ⟨s.vm.classes.size - 1, by omega⟩
    unfold Vm.isSubclass
    rw [hz2]
    simp [Vm.isSubclassAux, hdk2, hsuper2]
  have hn2 : s.methodNamed? ⟨q.1.cls, x.name, x.desc⟩ = some mk := by rw [← hyx]; exact hnamed
  have hlen : ∀ sig, parseMethodDescriptor q.1.desc = some sig → (ra.map (mu_cv K)).length = sig.parameters.length := by
    intro sig hsig
    have h2 := hd.2
    rw [hyx] at hsig
    rw [show parseMethodDescriptor x.desc = some sig from hsig] at h2
    rw [List.length_map, hra]
    exact (Option.some.inj h2).symm
  obtain ⟨vm₁, X₁, hstep₁⟩ := X.invokespecialUp C.1 C.2.2.2.1 (hts _ hw1) (hts _ hw2) hn2 hmethM hstM habM hd.1 hdk hnid hps hsuper hsub (a := mu_ad K a) (cell := cellB) (by rw [hT]; exact hcB)
    (fun z h => by rw [h] at hoB; cases hoB) hkB (g := F0 m pc ls ((ra.map (mu_cv K)).reverse ++ .ref (mu_ad K a) :: rest)) rfl (argsL := ra.map (mu_cv K)) (rest := rest) (hlen _ hsigM) rfl (by rw [C.2.1]; exact h)
  obtain ⟨v1, ⟨U', l2, c2', s2'⟩, X', ⟨g', mk', t, L, e1, e2, hq, h1, hL, h2, h3⟩, hsteps⟩ := hK m meth c ⟨T.setVm vm₁, locs, cells, slots⟩ { (F0 m pc ls ((ra.map (mu_cv K)).reverse ++ .ref (mu_ad K a) :: rest)) with stack := rest } (.invokespecial ix) mk (Value.ref (mu_ad K a) :: ra.map (mu_cv K)).toArray X₁ rfl (by rw [C.2.2.1]; exact hls) (by rw [C.2.1]; exact h) (lv_room hsum) (X₁.named hnamed) ⟨hc1, hc2, rfl, by show mu_Rel K G I T.heap; rw [hT]; exact hR, C.2.2.2.2.2.1.go (U := T.setVm vm₁) X₁.warmed hT hS⟩
  dsimp only [Pt.U, Pt.locs, Pt.cells, Pt.slots] at X' e1 e2 h1 h2 h3 hsteps
  subst h1; subst h2; subst h3
  exact ⟨v1, (T.setVm vm₁).calling g' mk' (Value.ref (mu_ad K a) :: ra.map (mu_cv K)).toArray, t, U', L, hT, X', hL, e1, e2, hq, fun target ht => hstep₁ _ (by rw [doInvoke_state]; exact hsteps.trans ht)⟩
end

/-! THE INSTRUCTIONS THAT READ AND WRITE CELLS -/
theorem mu_xs1 (K : mu_K) (a : Int) : (mu_xs K a).1 = 100 ∧ (a = -2 ∨ a = -3) ∨ (mu_xs K a).1 = 50 ∨ (mu_xs K a).1 = -1 := by
  unfold mu_xs
  split
  · exact Or.inl ⟨rfl, Or.inl (by assumption)⟩
  · split
    · exact Or.inl ⟨rfl, Or.inr (by assumption)⟩
    · split
      · exact Or.inr (Or.inl rfl)
      · exact Or.inr (Or.inr rfl)
theorem mu_own {K : mu_K} {G : mu_G} {I : mu_M} {H : Heap} {a : Int} (hR : mu_Rel K G I H) (h : (sh G a).1 ≠ 100) (h5 : (sh G a).1 ≠ 50) (h1 : (sh G a).1 ≠ -1) : 0 ≤ a ∧ a < gz G ∧ mu_okS (sh G a) ∧ mu_CR K G I H a := by
  by_cases ha : a < 0 ∨ gz G ≤ a
  · have e := hR.2.2.2.1 a ha
    rcases mu_xs1 K a with ⟨q, -⟩ | q | q
    · exact absurd (by rw [e]; exact q) h
    · exact absurd (by rw [e]; exact q) h5
    · exact absurd (by rw [e]; exact q) h1
  · have h0 : 0 ≤ a := by omega
    have hz : a < gz G := by omega
    exact ⟨h0, hz, hR.2.2.1 a h0 hz⟩
theorem mu_ownc {K : mu_K} {G : mu_G} {I : mu_M} {H : Heap} {a : Int} {ci : Nat} (hR : mu_Rel K G I H) (h : sh G a = ((ci : Int), 0)) (hc : ci < 13) : 0 ≤ a ∧ a < gz G ∧ mu_CR K G I H a := by
  obtain ⟨h1, h2, -, h3⟩ := mu_own hR (by rw [h]; show (ci : Int) ≠ 100; omega) (by rw [h]; show (ci : Int) ≠ 50; omega) (by rw [h]; show (ci : Int) ≠ -1; omega)
  exact ⟨h1, h2, h3⟩
theorem mu_rv_own {K : mu_K} {a : Int} (h : 0 ≤ a) : mu_rv K a = .ref (mu_ad K a) := by
  show va_rf (mu_ro K a) = _
  rw [show mu_ro K a = some (mu_ad K a) from by unfold mu_ro; rw [if_neg (by omega)]]
  rfl
theorem mu_rv_ext {K : mu_K} {a : Int} (h : a < -1) : mu_rv K a = .ref (mu_ad K a) := by
  show va_rf (mu_ro K a) = _
  rw [show mu_ro K a = some (mu_ad K a) from by unfold mu_ro; rw [if_neg (by omega)]]
  rfl
theorem mu_ad_own {K : mu_K} {a : Int} (h : 0 ≤ a) : mu_ad K a = kB K + a.toNat := by unfold mu_ad; rw [if_pos h]
theorem mu_ad_ext {K : mu_K} {a : Int} (h : a < 0) : mu_ad K a = kx K a := by unfold mu_ad; rw [if_neg (by omega)]
theorem mu_ad_ne {K : mu_K} {a b : Int} (ha : 0 ≤ a) (hb : 0 ≤ b) (h : b ≠ a) : mu_ad K b ≠ mu_ad K a := by rw [mu_ad_own ha, mu_ad_own hb]; omega
theorem mu_sing {K : mu_K} {H : Heap} {a ci : Nat} {V : Nat → Value} (hc : ci < 13) (h : t_OB a ((kD K).1 ci) (mc_N ci) ((kD K).2 ci) H V) : va_P (kD K) mc_cls [(a, .inr (ci, (List.range (mc_N ci)).map V))] H := by
  intro k q hk
  have hz : k < 1 := (List.getElem?_eq_some_iff.mp hk).1
  rw [show k = 0 by omega] at hk
  cases hk
  exact ⟨_, mc_cls_at ci hc, h.to (fun j hj => by simp [vp_V, hj])⟩
theorem mu_fs {ci k : Nat} {V : Nat → Value} (hk : k < mc_N ci) : ((List.range (mc_N ci)).map V)[k]? = some (V k) := by simp [hk]
theorem mu_CR_keep {K : mu_K} {G G1 : mu_G} {I I1 : mu_M} {H H1 : Heap} {b : Int} (hs : sh G1 b = sh G b) (hr : ∀ j, rf G1 b j = rf G b j) (hi : ∀ j, I1 b j = I b j) (hH : H1[mu_ad K b]? = H[mu_ad K b]?) (h : mu_CR K G I H b) : mu_CR K G1 I1 H1 b := by
  obtain ⟨h1, h2, h3, h4⟩ := h
  refine ⟨fun ci hc e => ?_, fun n e => ?_, fun n e => ?_, fun n e => ?_⟩
  · rw [hs] at e
    exact ((h1 ci hc e).kept hH).to (fun k _ => by unfold mu_fv; rw [hr, hi])
  · rw [hs] at e
    rw [hH, h2 n e]
    congr 2
    funext j
    rw [hi]
  · rw [hs] at e
    obtain ⟨a1, a2⟩ := h3 n e
    refine ⟨?_, fun j hj => by rw [hi]; exact a2 j hj⟩
    rw [hH, a1]
    congr 2
    funext j
    rw [hi]
  · rw [hs] at e
    rw [hH, h4 n e]
    congr 2
    funext j
    rw [hr]
/-- a cell is written: what must be seen of it alone -/
theorem mu_Rel_set {K : mu_K} {G G1 : mu_G} {I I1 : mu_M} {H H1 : Heap} {a : Int} (hR : mu_Rel K G I H) (h0 : 0 ≤ a) (hz : gz G1 = gz G) (hs : ∀ b, sh G1 b = sh G b) (hr : ∀ b j, b ≠ a → rf G1 b j = rf G b j) (hi : ∀ b j, b ≠ a → I1 b j = I b j) (hrg : ∀ j, -2147483648 ≤ I1 a j ∧ I1 a j ≤ 2147483647) (hn : H1.size = H.size) (hq : ∀ q, q ≠ mu_ad K a → H1[q]? = H[q]?) (hc : mu_CR K G1 I1 H1 a) : mu_Rel K G1 I1 H1 := by
  obtain ⟨a1, a2, a3, a4, a5, a6⟩ := hR
  refine ⟨by rw [hz]; exact a1, by rw [hn, a2, hz], fun b hb hbz => ?_, fun b hb => by rw [hs]; exact a4 b (by rw [hz] at hb; exact hb), fun b j hb => by rw [hi b j (by omega)]; exact a5 b j hb, fun b j => ?_⟩
  · rw [hz] at hbz
    obtain ⟨b1, b2⟩ := a3 b hb hbz
    refine ⟨by rw [hs]; exact b1, ?_⟩
    by_cases e : b = a
    · rw [e]; exact hc
    · exact mu_CR_keep (hs b) (fun j => hr b j e) (fun j => hi b j e) (hq _ (mu_ad_ne h0 hb e)) b2
  · by_cases e : b = a
    · rw [e]; exact hrg j
    · rw [hi b j e]; exact a6 b j
section
variable {own nm : String} {cc : ByteArray} {mx d : Nat} {rt : Option FieldType} {K : mu_K} {p : Program} {l : Launch} {e : Env} {R : Room} {s : State} {m : MethodId} {args : Array Value} {below : List Frame} {meth : Method} {c : Code} {H : Heap} {locs : List Loc} {cells slots : Nat} {Q : State → Prop} {G : mu_G} {I : mu_M}
theorem mu_get {ci k ix pc : Nat} {a : Int} {ls : Array Slot} {rest : List Value} (C : mu_Cx K own cc mx rt nm d p R s m args meth c) (hR : mu_Rel K G I H) (ho : sh G a = ((ci : Int), 0)) (hc : ci < 13) (hk : k < mc_N ci) (h : decode cc pc = .ok (.getfield ix, 3)) (hw : Cond.fieldLink own ix (mc_T ci k).1 (mc_T ci k).2.1 (mc_T ci k).2.2.1 ∈ mu_tb)
    (kk : W p l e R s m args below meth c H locs cells slots Q (F0 m (pc + 3) ls (mu_fv K G I a ci k :: rest))) : W p l e R s m args below meth c H locs cells slots Q (F0 m pc ls (mu_rv K a :: rest)) := by
  obtain ⟨g1, g2, g3⟩ := mu_ownc hR ho hc
  rw [mu_rv_own g1]
  exact va_get C.1 C.2.1 (C := mc_R ci) (T := mc_T ci) (N := mc_N ci) C.2.2.2.2.1 (mc_lay ci hc) C.2.2.2.1 C.2.2.2.2.2.1.1 (mu_sing hc (g3.1 ci hc ho)) 0 rfl (mc_cls_at ci hc) k hk (C.2.2.2.2.1 _ hw) (fun _ z => z) (mu_fs hk) h kk
theorem mu_put {ci k ix pc : Nat} {a : Int} {ls : Array Slot} {rest : List Value} {v : Value} (C : mu_Cx K own cc mx rt nm d p R s m args meth c) (hR : mu_Rel K G I H) (hS : va_S (kA K) s.heap H locs) (ho : sh G a = ((ci : Int), 0)) (hc : ci < 13) (hk : k < mc_N ci) (h : decode cc pc = .ok (.putfield ix, 3)) (hw : Cond.fieldLink own ix (mc_T ci k).1 (mc_T ci k).2.1 (mc_T ci k).2.2.1 ∈ mu_tb)
    (hf : (mc_T ci k).2.2.2 = false ∨ ((mc_T ci k).2.2.2 = true ∧ nm = "<init>" ∧ (mc_T ci k).1 = own)) (hn : narrow (mc_ty ci k) v = v) (hfit : fits (mc_ty ci k) v = true)
    (kk : ∀ (H1 : Heap) (locs1 : List Loc), t_OB (mu_ad K a) ((kD K).1 ci) (mc_N ci) ((kD K).2 ci) H1 (updV (fun j => mu_fv K G I a ci j) k v) → H1.size = H.size → (∀ q, q ≠ mu_ad K a → H1[q]? = H[q]?) → va_S (kA K) s.heap H1 locs1 → W p l e R s m args below meth c H1 locs1 cells slots Q (F0 m (pc + 3) ls rest)) : W p l e R s m args below meth c H locs cells slots Q (F0 m pc ls (v :: mu_rv K a :: rest)) := by
  obtain ⟨g1, g2, g3⟩ := mu_ownc hR ho hc
  have hK := C.2.2.2.2.2.1.1
  have hts := C.2.2.2.2.1
  have hown := C.2.2.2.1
  have hcl := mc_cls_at ci hc
  have hap := va_apart (own := own) (C := mc_R ci) (T := mc_T ci) (N := mc_N ci) hts (mc_lay ci hc) (mc_ty ci) (mc_ty_ok ci hc) (mc_nm_ok ci hc) hK hcl
  obtain ⟨cell, q1, q2, q3, q4⟩ := g3.1 ci hc ho
  obtain ⟨hSl, hfc, kC, hkC, hkind⟩ := hK.1 ci _ hcl
  obtain ⟨cf, kf, fi, f, hi, hsl⟩ := hSl k hk
  have hlay := hts _ (mc_lay ci hc _ (u_in_lay hk))
  have hst := (u_facts hfc hkC (u_lays hts (mc_lay ci hc) hk) hi).1
  have hA : kA K (mu_ad K a) := by rw [mu_ad_own g1]; exact Nat.le_add_right _ _
  rw [mu_rv_own g1]
  unfold u_lay at hlay
  rcases hf with hf | ⟨hf, hnm, hdc⟩
  · rw [if_neg (by rw [hf]; decide)] at hlay
    have h6 := u_store hfc hkC hkind hlay hi (mc_ty_ok ci hc k hk) hn hfit
    refine W.putK C.1 C.2.1 (f := f) ⟨hown, hts _ hw, ⟨_, _, _, hi⟩, hst⟩ (by rw [q2]; exact h6) q1 q3 (by rw [hsl]; exact k2_hasslot (q4 k hk)) rfl rfl h fun H' e1 e2 e3 => ?_
    rw [hsl] at e1 ⊢
    exact kk H' _ ⟨_, e1, q2, q3, t_set q4 hap hk v⟩ e2 e3 (hS.put e2 e3 hA)
  · rw [if_pos hf] at hlay
    have hcf : m.cls = cf := by
      obtain ⟨_, _, c', _, _, _, -, -, hf', -, -, -, hown2, -⟩ := Cond.laysFinal_spec hlay
      have e1 : c' = cf := by have := hi.symm.trans hf'; simp at this; exact this.1.symm
      rw [hdc] at hown2
      rw [← e1]; exact Option.some.inj (hown.symm.trans hown2)
    have h6 := u_fits hfc hkC hkind (Or.inr hlay) hi (mc_ty_ok ci hc k hk) hn hfit
    refine W.putFinK C.1 C.2.1 hown (hts _ hw) hi hst hcf (by rw [C.2.2.2.2.2.2.2.2.1]; exact hnm) (by rw [q2]; exact h6) q1 q3 (by rw [hsl]; exact k2_hasslot (q4 k hk)) rfl rfl h fun H' e1 e2 e3 => ?_
    rw [hsl] at e1 ⊢
    exact kk H' _ ⟨_, e1, q2, q3, t_set q4 hap hk v⟩ e2 e3 (hS.put e2 e3 hA)
end
theorem rf_grf_ne {G : mu_G} {a k v b j : Int} (h : b ≠ a ∨ j ≠ k) : rf (mu_grf G a k v) b j = rf G b j := by
  rw [rf_grf, if_neg]
  rintro ⟨h1, h2⟩
  rcases h with h | h
  · exact h h1
  · exact h h2
theorem mu_set_eq (I : mu_M) (a k v : Int) : mu_set I a k v a k = v := by simp [mu_set]
theorem mu_set_ne {I : mu_M} {a k v b j : Int} (h : b ≠ a ∨ j ≠ k) : mu_set I a k v b j = I b j := by
  unfold mu_set
  rw [if_neg]
  rintro ⟨h1, h2⟩
  rcases h with h | h
  · exact h h1
  · exact h h2
/-- an object's int field is written -/
theorem mu_Rel_putf {K : mu_K} {G : mu_G} {I : mu_M} {H H1 : Heap} {a x : Int} {ci k : Nat} (hR : mu_Rel K G I H) (ho : sh G a = ((ci : Int), 0)) (hc : ci < 13) (hr : mc_rk ci k = false) (hx : mu_okv (0, x)) (e1 : t_OB (mu_ad K a) ((kD K).1 ci) (mc_N ci) ((kD K).2 ci) H1 (updV (fun j => mu_fv K G I a ci j) k (.int (Int32.ofInt x)))) (e2 : H1.size = H.size) (e3 : ∀ q, q ≠ mu_ad K a → H1[q]? = H[q]?) : mu_Rel K G (mu_set I a k x) H1 := by
  obtain ⟨g1, g2, g3⟩ := mu_ownc hR ho hc
  refine mu_Rel_set hR g1 rfl (fun _ => rfl) (fun _ _ _ => rfl) (fun b j hb => mu_set_ne (Or.inl hb)) (fun j => ?_) e2 e3 ⟨fun ci2 hc2 h2 => ?_, fun n h2 => ?_, fun n h2 => ?_, fun n h2 => ?_⟩
  · by_cases hj : j = k
    · rw [hj, mu_set_eq]; exact hx
    · rw [mu_set_ne (Or.inr hj)]; exact hR.2.2.2.2.2 a j
  · rw [ho] at h2
    have e : ci = ci2 := by have := (Prod.mk.inj h2).1; omega
    subst e
    refine e1.to (fun j _ => ?_)
    unfold updV
    by_cases hj : j = k
    · subst hj
      rw [if_pos rfl]
      show _ = mu_fv K G (mu_set I a j x) a ci j
      unfold mu_fv
      rw [hr, mu_set_eq]
      rfl
    · rw [if_neg hj]
      show mu_fv K G I a ci j = mu_fv K G (mu_set I a k x) a ci j
      unfold mu_fv
      rw [mu_set_ne (Or.inr (by omega))]
  all_goals (rw [ho] at h2; have := (Prod.mk.inj h2).1; omega)
theorem mu_Rel_putr {K : mu_K} {G : mu_G} {I : mu_M} {H H1 : Heap} {a x : Int} {ci k : Nat} (hR : mu_Rel K G I H) (ho : sh G a = ((ci : Int), 0)) (hc : ci < 13) (hr : mc_rk ci k = true) (e1 : t_OB (mu_ad K a) ((kD K).1 ci) (mc_N ci) ((kD K).2 ci) H1 (updV (fun j => mu_fv K G I a ci j) k (mu_rv K x))) (e2 : H1.size = H.size) (e3 : ∀ q, q ≠ mu_ad K a → H1[q]? = H[q]?) : mu_Rel K (mu_grf G a k x) I H1 := by
  obtain ⟨g1, g2, g3⟩ := mu_ownc hR ho hc
  refine mu_Rel_set hR g1 rfl (fun _ => rfl) (fun b j hb => mu_set_ne (Or.inl hb)) (fun _ _ _ => rfl) (fun j => hR.2.2.2.2.2 a j) e2 e3 ⟨fun ci2 hc2 h2 => ?_, fun n h2 => ?_, fun n h2 => ?_, fun n h2 => ?_⟩
  · rw [sh_grf, ho] at h2
    have e : ci = ci2 := by have := (Prod.mk.inj h2).1; omega
    subst e
    refine e1.to (fun j _ => ?_)
    unfold updV
    by_cases hj : j = k
    · subst hj
      rw [if_pos rfl]
      show _ = mu_fv K (mu_grf G a j x) I a ci j
      unfold mu_fv
      rw [hr, rf_grf]
      simp
    · rw [if_neg hj]
      show mu_fv K G I a ci j = mu_fv K (mu_grf G a k x) I a ci j
      unfold mu_fv
      rw [rf_grf_ne (Or.inr (by omega))]
  all_goals (rw [sh_grf, ho] at h2; have := (Prod.mk.inj h2).1; omega)
theorem sim_getf {own nm : String} {cc : ByteArray} {mx pc : Nat} {rt : Option FieldType} {lg : Bool} {ci k ix : Nat} (h : decode cc pc = .ok (.getfield ix, 3)) (hc : ci < 13) (hk : k < mc_N ci) (hw : Cond.fieldLink own ix (mc_T ci k).1 (mc_T ci k).2.1 (mc_T ci k).2.2.1 ∈ mu_tb) (hr : mc_rk ci k = false) : mu_Sim own cc mx rt nm lg pc (s_getf ci k (pc + 3)) := by
  refine ⟨fun L st G I => ⟨fun fr G1 I1 h => ?_, fun g fr G1 I1 h hg => ?_⟩, ?_⟩
  · unfold s_getf at h; (try split at h) <;> (try split at h) <;> (try split at h) <;> first | (cases h; done) | (cases h; exact ⟨Int.le_refl _, Int.le_refl _⟩) | (cases h; simp only [gz_gnew, gu_gnew]; omega) | (obtain ⟨-, h⟩ := mu_bif h; cases h; done) | (obtain ⟨-, h⟩ := mu_bif h; cases h; exact ⟨Int.le_refl _, Int.le_refl _⟩)
  · unfold s_getf at h; (try split at h) <;> (try split at h) <;> (try split at h) <;> first | (cases h; done) | (cases h; exact ⟨Int.le_refl _, Int.le_refl _⟩) | (cases h; simp only [gz_gnew, gu_gnew]; omega) | (obtain ⟨-, h⟩ := mu_bif h; cases h; done) | (obtain ⟨-, h⟩ := mu_bif h; cases h; exact ⟨Int.le_refl _, Int.le_refl _⟩)
  intro K p l e R s m args below meth c Q z0 u0 d C L st G I sr hs hok H locs ls hR hS hl hL hst hz hu
  unfold s_getf at hs
  split at hs
  · rename_i a st1
    cases hs
    obtain ⟨g, -, -, kk⟩ := hok
    refine mu_get C hR g hc hk h hw ?_
    have k2 := kk H locs ls hR hS hl hL (mu_okc (v := (0, I a k)) (hR.2.2.2.2.2 a k) (mu_okt hst)) hz hu
    rw [List.map_cons] at k2
    unfold mu_fv
    rw [hr]
    exact k2
  · cases hs
theorem sim_getr {own nm : String} {cc : ByteArray} {mx pc : Nat} {rt : Option FieldType} {lg : Bool} {ci k ix : Nat} (h : decode cc pc = .ok (.getfield ix, 3)) (hc : ci < 13) (hk : k < mc_N ci) (hw : Cond.fieldLink own ix (mc_T ci k).1 (mc_T ci k).2.1 (mc_T ci k).2.2.1 ∈ mu_tb) (hr : mc_rk ci k = true) : mu_Sim own cc mx rt nm lg pc (s_getr ci k (pc + 3)) := by
  refine ⟨fun L st G I => ⟨fun fr G1 I1 h => ?_, fun g fr G1 I1 h hg => ?_⟩, ?_⟩
  · unfold s_getr at h; (try split at h) <;> (try split at h) <;> (try split at h) <;> first | (cases h; done) | (cases h; exact ⟨Int.le_refl _, Int.le_refl _⟩) | (cases h; simp only [gz_gnew, gu_gnew]; omega) | (obtain ⟨-, h⟩ := mu_bif h; cases h; done) | (obtain ⟨-, h⟩ := mu_bif h; cases h; exact ⟨Int.le_refl _, Int.le_refl _⟩)
  · unfold s_getr at h; (try split at h) <;> (try split at h) <;> (try split at h) <;> first | (cases h; done) | (cases h; exact ⟨Int.le_refl _, Int.le_refl _⟩) | (cases h; simp only [gz_gnew, gu_gnew]; omega) | (obtain ⟨-, h⟩ := mu_bif h; cases h; done) | (obtain ⟨-, h⟩ := mu_bif h; cases h; exact ⟨Int.le_refl _, Int.le_refl _⟩)
  intro K p l e R s m args below meth c Q z0 u0 d C L st G I sr hs hok H locs ls hR hS hl hL hst hz hu
  unfold s_getr at hs
  split at hs
  · rename_i a st1
    cases hs
    obtain ⟨g, -, -, kk⟩ := hok
    refine mu_get C hR g hc hk h hw ?_
    have k2 := kk H locs ls hR hS hl hL (mu_okc (v := (1, rf G a k)) trivial (mu_okt hst)) hz hu
    rw [List.map_cons] at k2
    unfold mu_fv
    rw [hr]
    exact k2
  · cases hs
theorem mu_wk_ci {q : Int × Int} (h : mu_wk q) : ∃ ci : Nat, ci < 13 ∧ q = ((ci : Int), 0) ∧ 0 < mc_N ci ∧ mc_T ci 0 = ("StepOwed$Walker", "number", "I", true) ∧ mc_rk ci 0 = false ∧ mc_ty ci 0 = .int ∧ ci ∈ mu_wks := by
  rcases h with h | h | h | h | h | h | h
  · exact ⟨9, by decide, h, by decide, rfl, rfl, rfl, by decide⟩
  · exact ⟨0, by decide, h, by decide, rfl, rfl, rfl, by decide⟩
  · exact ⟨3, by decide, h, by decide, rfl, rfl, rfl, by decide⟩
  · exact ⟨4, by decide, h, by decide, rfl, rfl, rfl, by decide⟩
  · exact ⟨6, by decide, h, by decide, rfl, rfl, rfl, by decide⟩
  · exact ⟨7, by decide, h, by decide, rfl, rfl, rfl, by decide⟩
  · exact ⟨8, by decide, h, by decide, rfl, rfl, rfl, by decide⟩
theorem sim_getw {own nm : String} {cc : ByteArray} {mx pc : Nat} {rt : Option FieldType} {lg : Bool} {ix : Nat} (h : decode cc pc = .ok (.getfield ix, 3)) (hw : Cond.fieldLink own ix "StepOwed$Walker" "number" "I" ∈ mu_tb) : mu_Sim own cc mx rt nm lg pc (s_getw (pc + 3)) := by
  refine ⟨fun L st G I => ⟨fun fr G1 I1 h => ?_, fun g fr G1 I1 h hg => ?_⟩, ?_⟩
  · unfold s_getw at h; (try split at h) <;> (try split at h) <;> (try split at h) <;> first | (cases h; done) | (cases h; exact ⟨Int.le_refl _, Int.le_refl _⟩) | (cases h; simp only [gz_gnew, gu_gnew]; omega) | (obtain ⟨-, h⟩ := mu_bif h; cases h; done) | (obtain ⟨-, h⟩ := mu_bif h; cases h; exact ⟨Int.le_refl _, Int.le_refl _⟩)
  · unfold s_getw at h; (try split at h) <;> (try split at h) <;> (try split at h) <;> first | (cases h; done) | (cases h; exact ⟨Int.le_refl _, Int.le_refl _⟩) | (cases h; simp only [gz_gnew, gu_gnew]; omega) | (obtain ⟨-, h⟩ := mu_bif h; cases h; done) | (obtain ⟨-, h⟩ := mu_bif h; cases h; exact ⟨Int.le_refl _, Int.le_refl _⟩)
  intro K p l e R s m args below meth c Q z0 u0 d C L st G I sr hs hok H locs ls hR hS hl hL hst hz hu
  unfold s_getw at hs
  split at hs
  · rename_i a st1
    cases hs
    obtain ⟨g, -, -, kk⟩ := hok
    obtain ⟨ci, hc, ho, hk, hT, hr, -, -⟩ := mu_wk_ci g
    refine mu_get C hR ho hc hk h (by rw [hT]; exact hw) ?_
    have k2 := kk H locs ls hR hS hl hL (mu_okc (v := (0, I a 0)) (hR.2.2.2.2.2 a 0) (mu_okt hst)) hz hu
    rw [List.map_cons] at k2
    unfold mu_fv
    rw [hr]
    exact k2
  · cases hs
theorem sim_putf {own nm : String} {cc : ByteArray} {mx pc : Nat} {rt : Option FieldType} {lg : Bool} {ci k ix : Nat} (h : decode cc pc = .ok (.putfield ix, 3)) (hc : ci < 13) (hk : k < mc_N ci) (hw : Cond.fieldLink own ix (mc_T ci k).1 (mc_T ci k).2.1 (mc_T ci k).2.2.1 ∈ mu_tb) (hr : mc_ty ci k = .int) (hf : (mc_T ci k).2.2.2 = false ∨ ((mc_T ci k).2.2.2 = true ∧ nm = "<init>" ∧ (mc_T ci k).1 = own)) : mu_Sim own cc mx rt nm lg pc (s_putf ci k (pc + 3)) := by
  refine ⟨fun L st G I => ⟨fun fr G1 I1 h => ?_, fun g fr G1 I1 h hg => ?_⟩, ?_⟩
  · unfold s_putf at h; (try split at h) <;> (try split at h) <;> (try split at h) <;> first | (cases h; done) | (cases h; exact ⟨Int.le_refl _, Int.le_refl _⟩) | (cases h; simp only [gz_gnew, gu_gnew]; omega) | (obtain ⟨-, h⟩ := mu_bif h; cases h; done) | (obtain ⟨-, h⟩ := mu_bif h; cases h; exact ⟨Int.le_refl _, Int.le_refl _⟩)
  · unfold s_putf at h; (try split at h) <;> (try split at h) <;> (try split at h) <;> first | (cases h; done) | (cases h; exact ⟨Int.le_refl _, Int.le_refl _⟩) | (cases h; simp only [gz_gnew, gu_gnew]; omega) | (obtain ⟨-, h⟩ := mu_bif h; cases h; done) | (obtain ⟨-, h⟩ := mu_bif h; cases h; exact ⟨Int.le_refl _, Int.le_refl _⟩)
  intro K p l e R s m args below meth c Q z0 u0 d C L st G I sr hs hok H locs ls hR hS hl hL hst hz hu
  unfold s_putf at hs
  split at hs
  · rename_i x a st1
    cases hs
    obtain ⟨g, -, -, kk⟩ := hok
    have hx := mu_okh hst
    have hr2 : mc_rk ci k = false := by unfold mc_rk; rw [hr]
    exact mu_put C hR hS g hc hk h hw hf (by rw [hr]; rfl) (by rw [hr]; rfl) (fun H1 locs1 e1 e2 e3 e4 => kk H1 locs1 ls (mu_Rel_putf hR g hc hr2 hx e1 e2 e3) e4 hl hL (mu_okt (mu_okt hst)) hz hu)
  · cases hs
theorem sim_putz {own nm : String} {cc : ByteArray} {mx pc : Nat} {rt : Option FieldType} {lg : Bool} {ci k ix : Nat} (h : decode cc pc = .ok (.putfield ix, 3)) (hc : ci < 13) (hk : k < mc_N ci) (hw : Cond.fieldLink own ix (mc_T ci k).1 (mc_T ci k).2.1 (mc_T ci k).2.2.1 ∈ mu_tb) (hr : mc_ty ci k = .boolean) (hf : (mc_T ci k).2.2.2 = false ∨ ((mc_T ci k).2.2.2 = true ∧ nm = "<init>" ∧ (mc_T ci k).1 = own)) : mu_Sim own cc mx rt nm lg pc (s_putz ci k (pc + 3)) := by
  refine ⟨fun L st G I => ⟨fun fr G1 I1 h => ?_, fun g fr G1 I1 h hg => ?_⟩, ?_⟩
  · unfold s_putz at h; (try split at h) <;> (try split at h) <;> (try split at h) <;> first | (cases h; done) | (cases h; exact ⟨Int.le_refl _, Int.le_refl _⟩) | (cases h; simp only [gz_gnew, gu_gnew]; omega) | (obtain ⟨-, h⟩ := mu_bif h; cases h; done) | (obtain ⟨-, h⟩ := mu_bif h; cases h; exact ⟨Int.le_refl _, Int.le_refl _⟩)
  · unfold s_putz at h; (try split at h) <;> (try split at h) <;> (try split at h) <;> first | (cases h; done) | (cases h; exact ⟨Int.le_refl _, Int.le_refl _⟩) | (cases h; simp only [gz_gnew, gu_gnew]; omega) | (obtain ⟨-, h⟩ := mu_bif h; cases h; done) | (obtain ⟨-, h⟩ := mu_bif h; cases h; exact ⟨Int.le_refl _, Int.le_refl _⟩)
  intro K p l e R s m args below meth c Q z0 u0 d C L st G I sr hs hok H locs ls hR hS hl hL hst hz hu
  unfold s_putz at hs
  split at hs
  · rename_i x a st1
    cases hs
    obtain ⟨⟨g, g01⟩, -, -, kk⟩ := hok
    have hx := mu_okh hst
    have hr2 : mc_rk ci k = false := by unfold mc_rk; rw [hr]
    refine mu_put C hR hS g hc hk h hw hf ?_ ?_ (fun H1 locs1 e1 e2 e3 e4 => kk H1 locs1 ls (mu_Rel_putf hR g hc hr2 hx e1 e2 e3) e4 hl hL (mu_okt (mu_okt hst)) hz hu)
    · rw [hr]
      rcases g01 with rfl | rfl <;> rfl
    · rw [hr]
      rcases g01 with rfl | rfl <;> rfl
  · cases hs
theorem sim_putr {own nm : String} {cc : ByteArray} {mx pc : Nat} {rt : Option FieldType} {lg : Bool} {ci k ix : Nat} (h : decode cc pc = .ok (.putfield ix, 3)) (hc : ci < 13) (hk : k < mc_N ci) (hw : Cond.fieldLink own ix (mc_T ci k).1 (mc_T ci k).2.1 (mc_T ci k).2.2.1 ∈ mu_tb) (hr : mc_rk ci k = true) (hn : ∀ r : Option Nat, narrow (mc_ty ci k) (va_rf r) = va_rf r ∧ fits (mc_ty ci k) (va_rf r) = true) (hf : (mc_T ci k).2.2.2 = false ∨ ((mc_T ci k).2.2.2 = true ∧ nm = "<init>" ∧ (mc_T ci k).1 = own)) : mu_Sim own cc mx rt nm lg pc (s_putr ci k (pc + 3)) := by
  refine ⟨fun L st G I => ⟨fun fr G1 I1 h => ?_, fun g fr G1 I1 h hg => ?_⟩, ?_⟩
  · unfold s_putr at h; (try split at h) <;> (try split at h) <;> (try split at h) <;> first | (cases h; done) | (cases h; exact ⟨Int.le_refl _, Int.le_refl _⟩) | (cases h; simp only [gz_gnew, gu_gnew]; omega) | (obtain ⟨-, h⟩ := mu_bif h; cases h; done) | (obtain ⟨-, h⟩ := mu_bif h; cases h; exact ⟨Int.le_refl _, Int.le_refl _⟩)
  · unfold s_putr at h; (try split at h) <;> (try split at h) <;> (try split at h) <;> first | (cases h; done) | (cases h; exact ⟨Int.le_refl _, Int.le_refl _⟩) | (cases h; simp only [gz_gnew, gu_gnew]; omega) | (obtain ⟨-, h⟩ := mu_bif h; cases h; done) | (obtain ⟨-, h⟩ := mu_bif h; cases h; exact ⟨Int.le_refl _, Int.le_refl _⟩)
  intro K p l e R s m args below meth c Q z0 u0 d C L st G I sr hs hok H locs ls hR hS hl hL hst hz hu
  unfold s_putr at hs
  split at hs
  · rename_i x a st1
    cases hs
    obtain ⟨g, -, -, kk⟩ := hok
    exact mu_put C hR hS g hc hk h hw hf (hn _).1 (hn _).2 (fun H1 locs1 e1 e2 e3 e4 => kk H1 locs1 ls (mu_Rel_putr hR g hc hr e1 e2 e3) e4 hl hL (mu_okt (mu_okt hst)) hz hu)
  · cases hs
theorem sim_putw {own nm : String} {cc : ByteArray} {mx pc : Nat} {rt : Option FieldType} {lg : Bool} {ix : Nat} (h : decode cc pc = .ok (.putfield ix, 3)) (hw : Cond.fieldLink own ix "StepOwed$Walker" "number" "I" ∈ mu_tb) (hi : nm = "<init>") (ho : own = "StepOwed$Walker") : mu_Sim own cc mx rt nm lg pc (s_putw (pc + 3)) := by
  refine ⟨fun L st G I => ⟨fun fr G1 I1 h => ?_, fun g fr G1 I1 h hg => ?_⟩, ?_⟩
  · unfold s_putw at h; (try split at h) <;> (try split at h) <;> (try split at h) <;> first | (cases h; done) | (cases h; exact ⟨Int.le_refl _, Int.le_refl _⟩) | (cases h; simp only [gz_gnew, gu_gnew]; omega) | (obtain ⟨-, h⟩ := mu_bif h; cases h; done) | (obtain ⟨-, h⟩ := mu_bif h; cases h; exact ⟨Int.le_refl _, Int.le_refl _⟩)
  · unfold s_putw at h; (try split at h) <;> (try split at h) <;> (try split at h) <;> first | (cases h; done) | (cases h; exact ⟨Int.le_refl _, Int.le_refl _⟩) | (cases h; simp only [gz_gnew, gu_gnew]; omega) | (obtain ⟨-, h⟩ := mu_bif h; cases h; done) | (obtain ⟨-, h⟩ := mu_bif h; cases h; exact ⟨Int.le_refl _, Int.le_refl _⟩)
  intro K p l e R s m args below meth c Q z0 u0 d C L st G I sr hs hok H locs ls hR hS hl hL hst hz hu
  unfold s_putw at hs
  split at hs
  · rename_i x a st1
    cases hs
    obtain ⟨g, -, -, kk⟩ := hok
    have hx := mu_okh hst
    obtain ⟨ci, hc, g2, hk, hT, hr, hty, -⟩ := mu_wk_ci g
    exact mu_put C hR hS g2 hc hk h (by rw [hT]; exact hw) (Or.inr ⟨by rw [hT], hi, by rw [hT, ho]⟩) (by rw [hty]; rfl) (by rw [hty]; rfl) (fun H1 locs1 e1 e2 e3 e4 => kk H1 locs1 ls (mu_Rel_putf (k := 0) hR g2 hc hr hx e1 e2 e3) e4 hl hL (mu_okt (mu_okt hst)) hz hu)
  · cases hs
theorem mu_arr {K : mu_K} {U : State} (h : va_K (kD K) mc_cls (mu_tags K) U) : (ArrOfT U (kI K) .int ∧ va_RA U (kI K) .int) ∧ (ArrOfT U (kZ K) .boolean ∧ va_RA U (kZ K) .boolean) ∧ (ArrOfT U (kP K) (.object "StepOwed$Person") ∧ va_RA U (kP K) (.object "StepOwed$Person")) := ⟨h.2 0 _ rfl, h.2 1 _ rfl, h.2 2 _ rfl⟩
theorem mu_vn {cI : ClassId} {n : Nat} {f : Nat → Value} : (arrV cI n f).vm ≠ .unknown := fun h => by cases h
theorem mu_vs {cI : ClassId} {n : Nat} {f : Nat → Value} {q} : (arrV cI n f).vm ≠ .statics q := fun h => by cases h
theorem mu_nat {q : Int × Int} {t : Int} (h : mu_okS q) (h1 : q.1 = t) (ht : 100 ≤ t) : ∃ n : Nat, q = (t, (n : Int)) ∧ n ≤ 1000 := by
  rcases h with ⟨a, b, -⟩ | ⟨-, a, b⟩
  · omega
  · exact ⟨q.2.toNat, by obtain ⟨x, y⟩ := q; simp only at h1 a b ⊢; rw [h1]; congr 1; omega, by omega⟩
theorem mu_ainD {cI : ClassId} {n : Nat} {f : Nat → Value} {j : Int} (h1 : 0 ≤ j) (h2 : j < n) (h3 : n ≤ 1000) : ¬ (Int32.ofInt j < 0 ∨ (arrV cI n f).slots.size ≤ (Int32.ofInt j).toNatClampNeg) := by
  rw [arrV_size]
  exact mu_in h1 h2 (by omega)
theorem mu_ardD {cI : ClassId} {n : Nat} {f : Nat → Value} {j : Int} (h1 : 0 ≤ j) (h2 : j < n) (h3 : n ≤ 1000) : (arrV cI n f).slots[(Int32.ofInt j).toNatClampNeg]? = some (f j.toNat) := by
  rw [mu_tn h1 (by omega)]
  exact arrV_read _ _ (by omega)
theorem sim_iald {own nm : String} {cc : ByteArray} {mx pc : Nat} {rt : Option FieldType} {lg : Bool} (h : decode cc pc = .ok (.iaload, 1)) : mu_Sim own cc mx rt nm lg pc (s_iald (pc + 1)) := by
  refine ⟨fun L st G I => ⟨fun fr G1 I1 h => ?_, fun g fr G1 I1 h hg => ?_⟩, ?_⟩
  · unfold s_iald at h; (try split at h) <;> (try split at h) <;> (try split at h) <;> first | (cases h; done) | (cases h; exact ⟨Int.le_refl _, Int.le_refl _⟩) | (cases h; simp only [gz_gnew, gu_gnew]; omega) | (obtain ⟨-, h⟩ := mu_bif h; cases h; done) | (obtain ⟨-, h⟩ := mu_bif h; cases h; exact ⟨Int.le_refl _, Int.le_refl _⟩)
  · unfold s_iald at h; (try split at h) <;> (try split at h) <;> (try split at h) <;> first | (cases h; done) | (cases h; exact ⟨Int.le_refl _, Int.le_refl _⟩) | (cases h; simp only [gz_gnew, gu_gnew]; omega) | (obtain ⟨-, h⟩ := mu_bif h; cases h; done) | (obtain ⟨-, h⟩ := mu_bif h; cases h; exact ⟨Int.le_refl _, Int.le_refl _⟩)
  intro K p l e R s m args below meth c Q z0 u0 d C L st G I sr hs hok H locs ls hR hS hl hL hst hz hu
  unfold s_iald at hs
  split at hs
  · rename_i j a st1
    cases hs
    obtain ⟨⟨g1, g2, g3⟩, -, -, kk⟩ := hok
    have k2 := kk H locs ls hR hS hl hL (mu_okc (v := (0, I a j)) (hR.2.2.2.2.2 a j) (mu_okt (mu_okt hst))) hz hu
    have hE := C.2.2.2.2.2.1
    show W p l e R s m args below meth c H locs _ _ Q (F0 m pc ls (.int (Int32.ofInt j) :: mu_rv K a :: st1.map (mu_cv K)))
    by_cases ha : a < 0 ∨ gz G ≤ a
    · have e1 := hR.2.2.2.1 a ha
      rcases mu_xs1 K a with ⟨-, q⟩ | q | q
      · rcases q with rfl | rfl
        · have e2 : sh G (-2) = (100, (kL K : Int)) := e1
          rw [e2] at g3
          have g4 : j < (kL K : Int) := g3
          have hL2 := hE.2.2.1.2.2
          rw [mu_rv_ext (by decide), mu_ad_ext (by decide)]
          refine va_sld C.1 C.2.1 hE.2.2.1.1 (Nat.lt_of_lt_of_le hE.2.2.1.2.1 hE.2.1) (Nat.not_le.mpr hE.2.2.1.2.1) hS (mu_in g2 g4 (by omega)) h ?_
          have e3 : I (-2) j = (kxs K j.toNat).toInt := hR.2.2.2.2.1 (-2) j (by decide)
          rw [mu_tn g2 (by omega)]
          rw [List.map_cons] at k2
          change W p l e R s m args below meth c H locs _ _ Q (F0 m (pc + 1) ls (.int (Int32.ofInt (I (-2) j)) :: _)) at k2
          rw [e3, Int32.ofInt_toInt] at k2
          exact k2
        · have e2 : sh G (-3) = (100, 18) := e1
          rw [e2] at g3
          have g4 : j < 18 := g3
          rw [mu_rv_ext (by decide), mu_ad_ext (by decide)]
          refine va_ti C.1 C.2.1 hE.2.2.2.1.2 hS (mu_in (n := 18) g2 (by omega) (by omega)) rfl h ?_
          have e3 : I (-3) j = mu_ords.getD j.toNat 0 := hR.2.2.2.2.1 (-3) j (by decide)
          rw [mu_tn g2 (by omega)]
          rw [List.map_cons] at k2
          change W p l e R s m args below meth c H locs _ _ Q (F0 m (pc + 1) ls (.int (Int32.ofInt (I (-3) j)) :: _)) at k2
          rw [e3] at k2
          exact k2
      · exact absurd (show (100 : Int) = 50 by rw [← g1, e1, q]) (by decide)
      · exact absurd (show (100 : Int) = -1 by rw [← g1, e1, q]) (by decide)
    · have a0 : 0 ≤ a := by omega
      obtain ⟨hok2, hcr⟩ := hR.2.2.1 a a0 (by omega)
      obtain ⟨n, hn, hn2⟩ := mu_nat hok2 g1 (by decide)
      have g4 : j < n := by rw [hn] at g3; exact g3
      rw [mu_rv_own a0]
      refine W.iald (v := .int (Int32.ofInt (I a j))) C.1 C.2.1 (hcr.2.1 n hn) ((mu_arr hE.1).1.1 n _) mu_vn (mu_ainD g2 g4 hn2) ?_ rfl rfl h k2
      rw [mu_ardD g2 g4 hn2, show ((j.toNat : Nat) : Int) = j by omega]
  · cases hs
theorem sim_zald {own nm : String} {cc : ByteArray} {mx pc : Nat} {rt : Option FieldType} {lg : Bool} (h : decode cc pc = .ok (.baload, 1)) : mu_Sim own cc mx rt nm lg pc (s_zald (pc + 1)) := by
  refine ⟨fun L st G I => ⟨fun fr G1 I1 h => ?_, fun g fr G1 I1 h hg => ?_⟩, ?_⟩
  · unfold s_zald at h; (try split at h) <;> (try split at h) <;> (try split at h) <;> first | (cases h; done) | (cases h; exact ⟨Int.le_refl _, Int.le_refl _⟩) | (cases h; simp only [gz_gnew, gu_gnew]; omega) | (obtain ⟨-, h⟩ := mu_bif h; cases h; done) | (obtain ⟨-, h⟩ := mu_bif h; cases h; exact ⟨Int.le_refl _, Int.le_refl _⟩)
  · unfold s_zald at h; (try split at h) <;> (try split at h) <;> (try split at h) <;> first | (cases h; done) | (cases h; exact ⟨Int.le_refl _, Int.le_refl _⟩) | (cases h; simp only [gz_gnew, gu_gnew]; omega) | (obtain ⟨-, h⟩ := mu_bif h; cases h; done) | (obtain ⟨-, h⟩ := mu_bif h; cases h; exact ⟨Int.le_refl _, Int.le_refl _⟩)
  intro K p l e R s m args below meth c Q z0 u0 d C L st G I sr hs hok H locs ls hR hS hl hL hst hz hu
  unfold s_zald at hs
  split at hs
  · rename_i j a st1
    cases hs
    obtain ⟨⟨g1, g2, g3⟩, -, -, kk⟩ := hok
    have k2 := kk H locs ls hR hS hl hL (mu_okc (v := (0, I a j)) (hR.2.2.2.2.2 a j) (mu_okt (mu_okt hst))) hz hu
    have hE := C.2.2.2.2.2.1
    obtain ⟨a0, -, hok2, hcr⟩ := mu_own hR (by rw [g1]; decide) (by rw [g1]; decide) (by rw [g1]; decide)
    obtain ⟨n, hn, hn2⟩ := mu_nat hok2 g1 (by decide)
    have g4 : j < n := by rw [hn] at g3; exact g3
    show W p l e R s m args below meth c H locs _ _ Q (F0 m pc ls (.int (Int32.ofInt j) :: mu_rv K a :: st1.map (mu_cv K)))
    rw [mu_rv_own a0]
    refine W.zald (v := .int (Int32.ofInt (I a j))) C.1 C.2.1 (hcr.2.2.1 n hn).1 ((mu_arr hE.1).2.1.1 n _) mu_vn (mu_ainD g2 g4 hn2) ?_ rfl rfl h k2
    rw [mu_ardD g2 g4 hn2, show ((j.toNat : Nat) : Int) = j by omega]
  · cases hs
theorem sim_aald {own nm : String} {cc : ByteArray} {mx pc : Nat} {rt : Option FieldType} {lg : Bool} (h : decode cc pc = .ok (.aaload, 1)) : mu_Sim own cc mx rt nm lg pc (s_aald (pc + 1)) := by
  refine ⟨fun L st G I => ⟨fun fr G1 I1 h => ?_, fun g fr G1 I1 h hg => ?_⟩, ?_⟩
  · unfold s_aald at h; (try split at h) <;> (try split at h) <;> (try split at h) <;> first | (cases h; done) | (cases h; exact ⟨Int.le_refl _, Int.le_refl _⟩) | (cases h; simp only [gz_gnew, gu_gnew]; omega) | (obtain ⟨-, h⟩ := mu_bif h; cases h; done) | (obtain ⟨-, h⟩ := mu_bif h; cases h; exact ⟨Int.le_refl _, Int.le_refl _⟩)
  · unfold s_aald at h; (try split at h) <;> (try split at h) <;> (try split at h) <;> first | (cases h; done) | (cases h; exact ⟨Int.le_refl _, Int.le_refl _⟩) | (cases h; simp only [gz_gnew, gu_gnew]; omega) | (obtain ⟨-, h⟩ := mu_bif h; cases h; done) | (obtain ⟨-, h⟩ := mu_bif h; cases h; exact ⟨Int.le_refl _, Int.le_refl _⟩)
  intro K p l e R s m args below meth c Q z0 u0 d C L st G I sr hs hok H locs ls hR hS hl hL hst hz hu
  unfold s_aald at hs
  split at hs
  · rename_i j a st1
    cases hs
    obtain ⟨⟨g1, g2, g3⟩, -, -, kk⟩ := hok
    have k2 := kk H locs ls hR hS hl hL (mu_okc (v := (1, rf G a j)) trivial (mu_okt (mu_okt hst))) hz hu
    have hE := C.2.2.2.2.2.1
    obtain ⟨a0, -, hok2, hcr⟩ := mu_own hR (by rw [g1]; decide) (by rw [g1]; decide) (by rw [g1]; decide)
    obtain ⟨n, hn, hn2⟩ := mu_nat hok2 g1 (by decide)
    have g4 : j < n := by rw [hn] at g3; exact g3
    show W p l e R s m args below meth c H locs _ _ Q (F0 m pc ls (.int (Int32.ofInt j) :: mu_rv K a :: st1.map (mu_cv K)))
    rw [mu_rv_own a0]
    refine W.aald (v := mu_rv K (rf G a j)) (ty := .object "StepOwed$Person") C.1 C.2.1 (hcr.2.2.2 n hn) ((mu_arr hE.1).2.2.1 n _) rfl mu_vn (mu_ainD g2 g4 hn2) ?_ rfl rfl h k2
    rw [mu_ardD g2 g4 hn2, show ((j.toNat : Nat) : Int) = j by omega]
  · cases hs
theorem mu_arr_st {cI : ClassId} {n : Nat} {f g : Nat → Value} {j : Int} {v : Value} (h1 : 0 ≤ j) (h2 : j < n) (h3 : n ≤ 1000) (hg : ∀ i : Nat, i < n → g i = if (i : Int) = j then v else f i) : (arrV cI n f).setSlot (Int32.ofInt j).toNatClampNeg v = arrV cI n g := by
  rw [mu_tn h1 (by omega), arrV_store]
  show ({ cls := cI, slots := _, vm := .none } : Cell) = { cls := cI, slots := _, vm := .none }
  congr 1
  apply Array.ext
  · simp
  · intro i a1 a2
    simp only [Array.getElem_ofFn]
    have hi : i < n := by simpa using a1
    rw [hg i hi]
    unfold updV
    by_cases e : i = j.toNat
    · rw [if_pos e, if_pos (by omega)]
    · rw [if_neg e, if_neg (by omega)]
theorem sim_iast {own nm : String} {cc : ByteArray} {mx pc : Nat} {rt : Option FieldType} {lg : Bool} (h : decode cc pc = .ok (.iastore, 1)) : mu_Sim own cc mx rt nm lg pc (s_iast (pc + 1)) := by
  refine ⟨fun L st G I => ⟨fun fr G1 I1 h => ?_, fun g fr G1 I1 h hg => ?_⟩, ?_⟩
  · unfold s_iast at h; (try split at h) <;> (try split at h) <;> (try split at h) <;> first | (cases h; done) | (cases h; exact ⟨Int.le_refl _, Int.le_refl _⟩) | (cases h; simp only [gz_gnew, gu_gnew]; omega) | (obtain ⟨-, h⟩ := mu_bif h; cases h; done) | (obtain ⟨-, h⟩ := mu_bif h; cases h; exact ⟨Int.le_refl _, Int.le_refl _⟩)
  · unfold s_iast at h; (try split at h) <;> (try split at h) <;> (try split at h) <;> first | (cases h; done) | (cases h; exact ⟨Int.le_refl _, Int.le_refl _⟩) | (cases h; simp only [gz_gnew, gu_gnew]; omega) | (obtain ⟨-, h⟩ := mu_bif h; cases h; done) | (obtain ⟨-, h⟩ := mu_bif h; cases h; exact ⟨Int.le_refl _, Int.le_refl _⟩)
  intro K p l e R s m args below meth c Q z0 u0 d C L st G I sr hs hok H locs ls hR hS hl hL hst hz hu
  unfold s_iast at hs
  split at hs
  · rename_i x j a st1
    cases hs
    obtain ⟨⟨a0, g1, g2, g3⟩, -, -, kk⟩ := hok
    have hx := mu_okh hst
    have hE := C.2.2.2.2.2.1
    have az : a < gz G := by
      rcases Int.lt_or_le a (gz G) with z | z
      · exact z
      · have e1 := hR.2.2.2.1 a (Or.inr z)
        rcases mu_xs1 K a with ⟨-, q⟩ | q | q
        · omega
        · exact absurd (show (100 : Int) = 50 by rw [← g1, e1, q]) (by decide)
        · exact absurd (show (100 : Int) = -1 by rw [← g1, e1, q]) (by decide)
    obtain ⟨hok2, hcr⟩ := hR.2.2.1 a a0 az
    obtain ⟨n, hn, hn2⟩ := mu_nat hok2 g1 (by decide)
    have g4 : j < n := by rw [hn] at g3; exact g3
    show W p l e R s m args below meth c H locs _ _ Q (F0 m pc ls (.int (Int32.ofInt x) :: .int (Int32.ofInt j) :: mu_rv K a :: st1.map (mu_cv K)))
    rw [mu_rv_own a0]
    refine W.iast C.1 C.2.1 (hcr.2.1 n hn) ((mu_arr hE.1).1.1 n _) mu_vn (mu_ainD g2 g4 hn2) rfl rfl h (fun H1 e1 e2 e3 => ?_)
    rw [mu_arr_st (g := fun i => .int (Int32.ofInt (mu_set I a j x a i))) g2 g4 hn2 (fun i _ => by
      by_cases e : (i : Int) = j
      · rw [if_pos e, e, mu_set_eq]
      · rw [if_neg e, mu_set_ne (Or.inr e)])] at e1
    refine kk H1 _ ls (mu_Rel_set hR a0 rfl (fun _ => rfl) (fun _ _ _ => rfl) (fun b i hb => mu_set_ne (Or.inl hb)) (fun i => ?_) e2 e3 ⟨fun ci hc q => ?_, fun n2 q => ?_, fun n2 q => ?_, fun n2 q => ?_⟩) (hS.put e2 e3 (by rw [mu_ad_own a0]; exact Nat.le_add_right _ _)) hl hL (mu_okt (mu_okt (mu_okt hst))) hz hu
    · by_cases e : i = j
      · rw [e, mu_set_eq]; exact hx
      · rw [mu_set_ne (Or.inr e)]; exact hR.2.2.2.2.2 a i
    · rw [hn] at q; have := (Prod.mk.inj q).1; omega
    · rw [hn] at q
      have := (Prod.mk.inj q).2
      have e : n = n2 := by omega
      subst e
      exact e1
    · rw [hn] at q; have := (Prod.mk.inj q).1; omega
    · rw [hn] at q; have := (Prod.mk.inj q).1; omega
  · cases hs
theorem sim_zast {own nm : String} {cc : ByteArray} {mx pc : Nat} {rt : Option FieldType} {lg : Bool} (h : decode cc pc = .ok (.bastore, 1)) : mu_Sim own cc mx rt nm lg pc (s_zast (pc + 1)) := by
  refine ⟨fun L st G I => ⟨fun fr G1 I1 h => ?_, fun g fr G1 I1 h hg => ?_⟩, ?_⟩
  · unfold s_zast at h; (try split at h) <;> (try split at h) <;> (try split at h) <;> first | (cases h; done) | (cases h; exact ⟨Int.le_refl _, Int.le_refl _⟩) | (cases h; simp only [gz_gnew, gu_gnew]; omega) | (obtain ⟨-, h⟩ := mu_bif h; cases h; done) | (obtain ⟨-, h⟩ := mu_bif h; cases h; exact ⟨Int.le_refl _, Int.le_refl _⟩)
  · unfold s_zast at h; (try split at h) <;> (try split at h) <;> (try split at h) <;> first | (cases h; done) | (cases h; exact ⟨Int.le_refl _, Int.le_refl _⟩) | (cases h; simp only [gz_gnew, gu_gnew]; omega) | (obtain ⟨-, h⟩ := mu_bif h; cases h; done) | (obtain ⟨-, h⟩ := mu_bif h; cases h; exact ⟨Int.le_refl _, Int.le_refl _⟩)
  intro K p l e R s m args below meth c Q z0 u0 d C L st G I sr hs hok H locs ls hR hS hl hL hst hz hu
  unfold s_zast at hs
  split at hs
  · rename_i x j a st1
    cases hs
    obtain ⟨⟨g1, g2, g3, g01⟩, -, -, kk⟩ := hok
    have hx := mu_okh hst
    have hE := C.2.2.2.2.2.1
    obtain ⟨a0, -, hok2, hcr⟩ := mu_own hR (by rw [g1]; decide) (by rw [g1]; decide) (by rw [g1]; decide)
    obtain ⟨n, hn, hn2⟩ := mu_nat hok2 g1 (by decide)
    have g4 : j < n := by rw [hn] at g3; exact g3
    obtain ⟨hc1, hc2⟩ := hcr.2.2.1 n hn
    show W p l e R s m args below meth c H locs _ _ Q (F0 m pc ls (.int (Int32.ofInt x) :: .int (Int32.ofInt j) :: mu_rv K a :: st1.map (mu_cv K)))
    rw [mu_rv_own a0]
    refine W.zast C.1 C.2.1 hc1 ((mu_arr hE.1).2.1.1 n _) mu_vn (mu_ainD g2 g4 hn2) rfl rfl h (fun H1 e1 e2 e3 => ?_)
    have en : narrow .boolean (.int (Int32.ofInt x)) = .int (Int32.ofInt x) := by rcases g01 with rfl | rfl <;> rfl
    rw [en, mu_arr_st (g := fun i => .int (Int32.ofInt (mu_set I a j x a i))) g2 g4 hn2 (fun i _ => by
      by_cases e : (i : Int) = j
      · rw [if_pos e, e, mu_set_eq]
      · rw [if_neg e, mu_set_ne (Or.inr e)])] at e1
    refine kk H1 _ ls (mu_Rel_set hR a0 rfl (fun _ => rfl) (fun _ _ _ => rfl) (fun b i hb => mu_set_ne (Or.inl hb)) (fun i => ?_) e2 e3 ⟨fun ci hc q => ?_, fun n2 q => ?_, fun n2 q => ?_, fun n2 q => ?_⟩) (hS.put e2 e3 (by rw [mu_ad_own a0]; exact Nat.le_add_right _ _)) hl hL (mu_okt (mu_okt (mu_okt hst))) hz hu
    · by_cases e : i = j
      · rw [e, mu_set_eq]; exact hx
      · rw [mu_set_ne (Or.inr e)]; exact hR.2.2.2.2.2 a i
    · rw [hn] at q; have := (Prod.mk.inj q).1; omega
    · rw [hn] at q; have := (Prod.mk.inj q).1; omega
    · rw [hn] at q
      have := (Prod.mk.inj q).2
      have e : n = n2 := by omega
      subst e
      refine ⟨e1, fun i hi => ?_⟩
      by_cases e : (i : Int) = j
      · rw [e, mu_set_eq]; exact g01
      · rw [mu_set_ne (Or.inr e)]; exact hc2 i hi
    · rw [hn] at q; have := (Prod.mk.inj q).1; omega
  · cases hs
theorem sim_aast {own nm : String} {cc : ByteArray} {mx pc : Nat} {rt : Option FieldType} {lg : Bool} (h : decode cc pc = .ok (.aastore, 1)) : mu_Sim own cc mx rt nm lg pc (s_aast (pc + 1)) := by
  refine ⟨fun L st G I => ⟨fun fr G1 I1 h => ?_, fun g fr G1 I1 h hg => ?_⟩, ?_⟩
  · unfold s_aast at h; (try split at h) <;> (try split at h) <;> (try split at h) <;> first | (cases h; done) | (cases h; exact ⟨Int.le_refl _, Int.le_refl _⟩) | (cases h; simp only [gz_gnew, gu_gnew]; omega) | (obtain ⟨-, h⟩ := mu_bif h; cases h; done) | (obtain ⟨-, h⟩ := mu_bif h; cases h; exact ⟨Int.le_refl _, Int.le_refl _⟩)
  · unfold s_aast at h; (try split at h) <;> (try split at h) <;> (try split at h) <;> first | (cases h; done) | (cases h; exact ⟨Int.le_refl _, Int.le_refl _⟩) | (cases h; simp only [gz_gnew, gu_gnew]; omega) | (obtain ⟨-, h⟩ := mu_bif h; cases h; done) | (obtain ⟨-, h⟩ := mu_bif h; cases h; exact ⟨Int.le_refl _, Int.le_refl _⟩)
  intro K p l e R s m args below meth c Q z0 u0 d C L st G I sr hs hok H locs ls hR hS hl hL hst hz hu
  unfold s_aast at hs
  split at hs
  · rename_i v j a st1
    cases hs
    obtain ⟨⟨g1, g2, g3, gv⟩, -, -, kk⟩ := hok
    have hE := C.2.2.2.2.2.1
    obtain ⟨a0, -, hok2, hcr⟩ := mu_own hR (by rw [g1]; decide) (by rw [g1]; decide) (by rw [g1]; decide)
    obtain ⟨n, hn, hn2⟩ := mu_nat hok2 g1 (by decide)
    have g4 : j < n := by rw [hn] at g3; exact g3
    obtain ⟨v0, -, hcv⟩ := mu_ownc (ci := 2) hR gv (by decide)
    obtain ⟨cellV, q1, q2, q3, -⟩ := hcv.1 2 (by decide) gv
    have hat := (hE.1.1 2 _ (mc_cls_at 2 (by decide))).2
    obtain ⟨kA2, comp, k1, k2, k3, -⟩ := (mu_arr hE.1).2.2.2
    have hcomp : comp = (kD K).1 2 := Option.some.inj (k3.symm.trans hat.1)
    subst hcomp
    obtain ⟨kC, hkC, -⟩ := hat.2
    show W p l e R s m args below meth c H locs _ _ Q (F0 m pc ls (mu_rv K v :: .int (Int32.ofInt j) :: mu_rv K a :: st1.map (mu_cv K)))
    rw [mu_rv_own a0, mu_rv_own v0]
    refine W.aast C.1 C.2.1 (hcr.2.2.2 n hn) (fun q => mu_vs) mu_vn k1 k2 rfl hkC ⟨mu_ng g2 (by omega), by rw [arrV_size, mu_tn g2 (by omega)]; omega⟩ q1 (fun q z => by rw [q3] at z; cases z) (by rw [q2]; exact hkC) (by rw [q2]; exact va_assign hat) rfl rfl h (fun H1 e1 e2 e3 => ?_)
    rw [mu_arr_st (g := fun i => mu_rv K (rf (mu_grf G a j v) a i)) g2 g4 hn2 (fun i _ => by
      by_cases e : (i : Int) = j
      · rw [if_pos e, rf_grf, if_pos ⟨rfl, e⟩, mu_rv_own v0]
      · rw [if_neg e, rf_grf, if_neg (fun z => e z.2)])] at e1
    refine kk H1 _ ls (mu_Rel_set hR a0 rfl (fun _ => rfl) (fun b i hb => mu_set_ne (Or.inl hb)) (fun _ _ _ => rfl) (fun i => hR.2.2.2.2.2 a i) e2 e3 ⟨fun ci hc q => ?_, fun n2 q => ?_, fun n2 q => ?_, fun n2 q => ?_⟩) (hS.put e2 e3 (by rw [mu_ad_own a0]; exact Nat.le_add_right _ _)) hl hL (mu_okt (mu_okt (mu_okt hst))) hz hu
    · rw [sh_grf, hn] at q; have := (Prod.mk.inj q).1; omega
    · rw [sh_grf, hn] at q; have := (Prod.mk.inj q).1; omega
    · rw [sh_grf, hn] at q; have := (Prod.mk.inj q).1; omega
    · rw [sh_grf, hn] at q
      have := (Prod.mk.inj q).2
      have e : n = n2 := by omega
      subst e
      exact e1
  · cases hs
theorem sim_alen {own nm : String} {cc : ByteArray} {mx pc : Nat} {rt : Option FieldType} {lg : Bool} (h : decode cc pc = .ok (.arraylength, 1)) : mu_Sim own cc mx rt nm lg pc (s_alen (pc + 1)) := by
  refine ⟨fun L st G I => ⟨fun fr G1 I1 h => ?_, fun g fr G1 I1 h hg => ?_⟩, ?_⟩
  · unfold s_alen at h; (try split at h) <;> (try split at h) <;> (try split at h) <;> first | (cases h; done) | (cases h; exact ⟨Int.le_refl _, Int.le_refl _⟩) | (cases h; simp only [gz_gnew, gu_gnew]; omega) | (obtain ⟨-, h⟩ := mu_bif h; cases h; done) | (obtain ⟨-, h⟩ := mu_bif h; cases h; exact ⟨Int.le_refl _, Int.le_refl _⟩)
  · unfold s_alen at h; (try split at h) <;> (try split at h) <;> (try split at h) <;> first | (cases h; done) | (cases h; exact ⟨Int.le_refl _, Int.le_refl _⟩) | (cases h; simp only [gz_gnew, gu_gnew]; omega) | (obtain ⟨-, h⟩ := mu_bif h; cases h; done) | (obtain ⟨-, h⟩ := mu_bif h; cases h; exact ⟨Int.le_refl _, Int.le_refl _⟩)
  intro K p l e R s m args below meth c Q z0 u0 d C L st G I sr hs hok H locs ls hR hS hl hL hst hz hu
  unfold s_alen at hs
  split at hs
  · rename_i a st1
    cases hs
    obtain ⟨g1, -, -, kk⟩ := hok
    have hE := C.2.2.2.2.2.1
    show W p l e R s m args below meth c H locs _ _ Q (F0 m pc ls (mu_rv K a :: st1.map (mu_cv K)))
    by_cases ha : a < 0 ∨ gz G ≤ a
    · have e1 := hR.2.2.2.1 a ha
      rcases mu_xs1 K a with ⟨-, q⟩ | q | q
      · rcases q with rfl | rfl
        · have e2 : sh G (-2) = (100, (kL K : Int)) := e1
          have hL2 := hE.2.2.1.2.2
          rw [e2] at kk
          have k2 := kk H locs ls hR hS hl hL (mu_okc (v := (0, (kL K : Int))) ⟨by omega, by omega⟩ (mu_okt hst)) hz hu
          rw [mu_rv_ext (by decide), mu_ad_ext (by decide)]
          refine va_slen C.1 C.2.1 hE.2.2.1.1 (Nat.lt_of_lt_of_le hE.2.2.1.2.1 hE.2.1) (Nat.not_le.mpr hE.2.2.1.2.1) hS h ?_
          rw [← Int32.ofInt_eq_ofNat]
          exact k2
        · have e2 : sh G (-3) = (100, 18) := e1
          rw [e2] at kk
          have k2 := kk H locs ls hR hS hl hL (mu_okc (v := (0, 18)) ⟨by decide, by decide⟩ (mu_okt hst)) hz hu
          rw [mu_rv_ext (by decide), mu_ad_ext (by decide)]
          exact va_tlen C.1 C.2.1 hE.2.2.2.1.2 hS rfl h k2
      · exact absurd (show (100 : Int) = 50 by rw [← g1, e1, q]) (by decide)
      · exact absurd (show (100 : Int) = -1 by rw [← g1, e1, q]) (by decide)
    · have a0 : 0 ≤ a := by omega
      obtain ⟨hok2, hcr⟩ := hR.2.2.1 a a0 (by omega)
      obtain ⟨n, hn, hn2⟩ := mu_nat hok2 g1 (by decide)
      rw [hn] at kk
      have k2 := kk H locs ls hR hS hl hL (mu_okc (v := (0, (n : Int))) ⟨by omega, by omega⟩ (mu_okt hst)) hz hu
      rw [mu_rv_own a0]
      exact W.alen (n := Int32.ofInt n) C.1 C.2.1 (hcr.2.1 n hn) ((mu_arr hE.1).1.1 n _) (by rw [arrV_size, Int32.ofInt_eq_ofNat]) rfl rfl h k2
  · cases hs
/-- a new cell -/
theorem mu_Rel_new {K : mu_K} {G : mu_G} {I : mu_M} {H H1 : Heap} {t n w : Int} (hR : mu_Rel K G I H) (hk : mu_okS (t, n)) (e1 : H1.size = H.size + 1) (e2 : ∀ q, q < H.size → H1[q]? = H[q]?) (hc : mu_CR K (mu_gnew G t n w) (mu_inew G I) H1 (gz G)) : mu_Rel K (mu_gnew G t n w) (mu_inew G I) H1 := by
  obtain ⟨a1, a2, a3, a4, a5, a6⟩ := hR
  refine ⟨by rw [gz_gnew]; omega, by rw [gz_gnew, e1, a2]; omega, fun b hb hbz => ?_, fun b hb => ?_, fun b j hb => ?_, fun b j => ?_⟩
  · by_cases e : b = gz G
    · subst e
      exact ⟨by rw [sh_gnew, if_pos rfl]; exact hk, hc⟩
    · rw [gz_gnew] at hbz
      obtain ⟨b1, b2⟩ := a3 b hb (by omega)
      refine ⟨by rw [sh_gnew, if_neg e]; exact b1, mu_CR_keep (by rw [sh_gnew, if_neg e]) (fun j => by rw [rf_gnew, if_neg e]) (fun j => by rw [mu_inew_at, if_neg e]) (e2 _ ?_) b2⟩
      rw [mu_ad_own hb, a2]
      omega
  · rw [gz_gnew] at hb
    rw [sh_gnew, if_neg (by omega)]
    exact a4 b (by omega)
  · rw [mu_inew_at, if_neg (by omega)]
    exact a5 b j hb
  · rw [mu_inew_at]
    split
    · decide
    · exact a6 b j
theorem mu_S_new {K : mu_K} {H0 H H1 : Heap} {locs : List Loc} (hS : va_S (kA K) H0 H locs) (e1 : H1.size = H.size + 1) (e2 : ∀ q, q < H.size → H1[q]? = H[q]?) : va_S (kA K) H0 H1 locs := ⟨Nat.le_trans hS.1 (by omega), fun x h1 h2 => (e2 x (Nat.lt_of_lt_of_le h1 hS.1)).trans (hS.2.1 x h1 h2), hS.2.2⟩
theorem sim_new {own nm : String} {cc : ByteArray} {mx pc : Nat} {rt : Option FieldType} {lg : Bool} {ci ix w : Nat} (h : decode cc pc = .ok (.new ix, 3)) (hc : ci < 13) (hN : mc_N ci = w) (hdv : ∀ k, k < mc_N ci → defaultValue (mc_ty ci k) = if mc_rk ci k = true then .null else .int 0) (hw : Cond.classLink own ix (mc_R ci) ∈ mu_tb) (hi : Cond.instantiable (mc_R ci) w ∈ mu_tb) (hii : Cond.initialized (mc_R ci) ∈ mu_tb) : mu_Sim own cc mx rt nm lg pc (s_new ci w (pc + 3)) := by
  refine ⟨fun L st G I => ⟨fun fr G1 I1 h => ?_, fun g fr G1 I1 h hg => ?_⟩, ?_⟩
  · unfold s_new at h; (try split at h) <;> (try split at h) <;> (try split at h) <;> first | (cases h; done) | (cases h; exact ⟨Int.le_refl _, Int.le_refl _⟩) | (cases h; simp only [gz_gnew, gu_gnew]; omega) | (obtain ⟨-, h⟩ := mu_bif h; cases h; done) | (obtain ⟨-, h⟩ := mu_bif h; cases h; exact ⟨Int.le_refl _, Int.le_refl _⟩)
  · unfold s_new at h; (try split at h) <;> (try split at h) <;> (try split at h) <;> first | (cases h; done) | (cases h; exact ⟨Int.le_refl _, Int.le_refl _⟩) | (cases h; simp only [gz_gnew, gu_gnew]; omega) | (obtain ⟨-, h⟩ := mu_bif h; cases h; done) | (obtain ⟨-, h⟩ := mu_bif h; cases h; exact ⟨Int.le_refl _, Int.le_refl _⟩)
  intro K p l e R s m args below meth c Q z0 u0 d C L st G I sr hs hok H locs ls hR hS hl hL hst hz hu
  cases hs
  obtain ⟨r1, r2, kk⟩ := hok
  have hE := C.2.2.2.2.2.1
  have hts := C.2.2.2.2.1
  have hKn := hE.1.1 ci _ (mc_cls_at ci hc)
  rw [gz_gnew] at r1
  rw [gu_gnew] at r2
  refine W.newcK C.1 C.2.1 C.2.2.2.1 (hts _ hw) (hts _ hi) (hts _ hii) rfl h (by omega) (by omega) hKn.2.1 rfl fun H1 kC hkC e1 z1 o1 => ?_
  have hob := u_born (mc_ty ci) hts (mc_lay ci hc) hKn hkC e1 (mc_ty_ok ci hc)
  have hrel : mu_Rel K (mu_gnew G ci 0 w) (mu_inew G I) H1 := mu_Rel_new hR (Or.inl ⟨Int.natCast_nonneg _, (show (ci : Int) < 13 by omega), rfl⟩) z1 o1 ⟨fun ci2 hc2 h2 => ?_, fun n h2 => ?_, fun n h2 => ?_, fun n h2 => ?_⟩
  · have k2 := kk H1 locs ls hrel (mu_S_new hS z1 o1) hl hL (mu_okc (v := (1, gz G)) trivial hst) (by rw [gz_gnew]; omega) (by rw [gu_gnew]; omega)
    rw [gz_gnew, gu_gnew, List.map_cons] at k2
    change W p l e R s m args below meth c H1 locs _ _ Q (F0 m (pc + 3) ls (mu_rv K (gz G) :: _)) at k2
    rw [mu_rv_own hR.1, mu_ad_own hR.1, ← hR.2.1, show (gz G + 1 - z0).toNat = (gz G - z0).toNat + 1 by omega, show (gu G + (w : Int) - u0).toNat = (gu G - u0).toNat + w by omega] at k2
    exact k2
  · rw [sh_gnew, if_pos rfl] at h2
    have e : ci = ci2 := by have := (Prod.mk.inj h2).1; omega
    subst e
    rw [mu_ad_own hR.1, ← hR.2.1]
    refine hob.to (fun k hk => ?_)
    rw [hdv k hk]
    unfold mu_fv
    rw [rf_gnew, if_pos rfl, mu_inew_at, if_pos rfl]
    rfl
  all_goals (rw [sh_gnew, if_pos rfl] at h2; have := (Prod.mk.inj h2).1; omega)
theorem sim_newa_int {own nm : String} {cc : ByteArray} {mx pc : Nat} {rt : Option FieldType} {lg : Bool} (h : decode cc pc = .ok (.newarray .int, 2)) (hw : Cond.arrayClass .int ∈ mu_tb) : mu_Sim own cc mx rt nm lg pc (s_newa 100 (pc + 2)) := by
  refine ⟨fun L st G I => ⟨fun fr G1 I1 h => ?_, fun g fr G1 I1 h hg => ?_⟩, ?_⟩
  · unfold s_newa at h; (try split at h) <;> (try split at h) <;> (try split at h) <;> first | (cases h; done) | (cases h; exact ⟨Int.le_refl _, Int.le_refl _⟩) | (cases h; simp only [gz_gnew, gu_gnew]; omega) | (obtain ⟨-, h⟩ := mu_bif h; cases h; done) | (obtain ⟨-, h⟩ := mu_bif h; cases h; exact ⟨Int.le_refl _, Int.le_refl _⟩)
  · unfold s_newa at h; (try split at h) <;> (try split at h) <;> (try split at h) <;> first | (cases h; done) | (cases h; exact ⟨Int.le_refl _, Int.le_refl _⟩) | (cases h; simp only [gz_gnew, gu_gnew]; omega) | (obtain ⟨-, h⟩ := mu_bif h; cases h; done) | (obtain ⟨-, h⟩ := mu_bif h; cases h; exact ⟨Int.le_refl _, Int.le_refl _⟩)
  intro K p l e R s m args below meth c Q z0 u0 d C L st G I sr hs hok H locs ls hR hS hl hL hst hz hu
  unfold s_newa at hs
  split at hs
  · rename_i n st1
    cases hs
    obtain ⟨⟨g0, g1⟩, r1, r2, kk⟩ := hok
    have hE := C.2.2.2.2.2.1
    have hts := C.2.2.2.2.1
    rw [gz_gnew] at r1
    rw [gu_gnew] at r2
    refine va_newaK (atype := .int) (N := n.toNat) C.1 C.2.1 (hts _ hw) rfl h rfl (mu_ng g0 (by omega)) (mu_tn g0 (by omega)) (by show n.toNat * 4 ≤ _; omega) (by omega) (by omega) rfl fun H1 cA e1 z1 o1 hAr hNm => ?_
    have hcA : cA = kI K := Option.some.inj (hNm.symm.trans ((mu_arr hE.1).1.2))
    subst hcA
    have hrel : mu_Rel K (mu_gnew G 100 n n) (mu_inew G I) H1 := mu_Rel_new hR (Or.inr ⟨by simp, g0, g1⟩) z1 o1 ⟨fun ci2 hc2 h2 => ?_, fun n2 h2 => ?_, fun n2 h2 => ?_, fun n2 h2 => ?_⟩
    · have k2 := kk H1 locs ls hrel (mu_S_new hS z1 o1) hl hL (mu_okc (v := (1, gz G)) trivial (mu_okt hst)) (by rw [gz_gnew]; omega) (by rw [gu_gnew]; omega)
      rw [gz_gnew, gu_gnew, List.map_cons] at k2
      change W p l e R s m args below meth c H1 locs _ _ Q (F0 m (pc + 2) ls (mu_rv K (gz G) :: _)) at k2
      rw [mu_rv_own hR.1, mu_ad_own hR.1, ← hR.2.1, show (gz G + 1 - z0).toNat = (gz G - z0).toNat + 1 by omega, show (gu G + n - u0).toNat = (gu G - u0).toNat + n.toNat by omega] at k2
      exact k2
    · rw [sh_gnew, if_pos rfl] at h2; have := (Prod.mk.inj h2).1; omega
    · rw [sh_gnew, if_pos rfl] at h2
      have e : n2 = n.toNat := by have := (Prod.mk.inj h2).2; omega
      subst e
      rw [mu_ad_own hR.1, ← hR.2.1]
      rw [e1]
      congr 2
      funext j
      rw [mu_inew_at, if_pos rfl]
      rfl
    · rw [sh_gnew, if_pos rfl] at h2; have := (Prod.mk.inj h2).1; omega
    · rw [sh_gnew, if_pos rfl] at h2; have := (Prod.mk.inj h2).1; omega
  · cases hs
theorem sim_newa_zbool {own nm : String} {cc : ByteArray} {mx pc : Nat} {rt : Option FieldType} {lg : Bool} (h : decode cc pc = .ok (.newarray .boolean, 2)) (hw : Cond.arrayClass .boolean ∈ mu_tb) : mu_Sim own cc mx rt nm lg pc (s_newa 101 (pc + 2)) := by
  refine ⟨fun L st G I => ⟨fun fr G1 I1 h => ?_, fun g fr G1 I1 h hg => ?_⟩, ?_⟩
  · unfold s_newa at h; (try split at h) <;> (try split at h) <;> (try split at h) <;> first | (cases h; done) | (cases h; exact ⟨Int.le_refl _, Int.le_refl _⟩) | (cases h; simp only [gz_gnew, gu_gnew]; omega) | (obtain ⟨-, h⟩ := mu_bif h; cases h; done) | (obtain ⟨-, h⟩ := mu_bif h; cases h; exact ⟨Int.le_refl _, Int.le_refl _⟩)
  · unfold s_newa at h; (try split at h) <;> (try split at h) <;> (try split at h) <;> first | (cases h; done) | (cases h; exact ⟨Int.le_refl _, Int.le_refl _⟩) | (cases h; simp only [gz_gnew, gu_gnew]; omega) | (obtain ⟨-, h⟩ := mu_bif h; cases h; done) | (obtain ⟨-, h⟩ := mu_bif h; cases h; exact ⟨Int.le_refl _, Int.le_refl _⟩)
  intro K p l e R s m args below meth c Q z0 u0 d C L st G I sr hs hok H locs ls hR hS hl hL hst hz hu
  unfold s_newa at hs
  split at hs
  · rename_i n st1
    cases hs
    obtain ⟨⟨g0, g1⟩, r1, r2, kk⟩ := hok
    have hE := C.2.2.2.2.2.1
    have hts := C.2.2.2.2.1
    rw [gz_gnew] at r1
    rw [gu_gnew] at r2
    refine va_newaK (atype := .boolean) (N := n.toNat) C.1 C.2.1 (hts _ hw) rfl h rfl (mu_ng g0 (by omega)) (mu_tn g0 (by omega)) (by show n.toNat * 1 ≤ _; omega) (by omega) (by omega) rfl fun H1 cA e1 z1 o1 hAr hNm => ?_
    have hcA : cA = kZ K := Option.some.inj (hNm.symm.trans ((mu_arr hE.1).2.1.2))
    subst hcA
    have hrel : mu_Rel K (mu_gnew G 101 n n) (mu_inew G I) H1 := mu_Rel_new hR (Or.inr ⟨by simp, g0, g1⟩) z1 o1 ⟨fun ci2 hc2 h2 => ?_, fun n2 h2 => ?_, fun n2 h2 => ?_, fun n2 h2 => ?_⟩
    · have k2 := kk H1 locs ls hrel (mu_S_new hS z1 o1) hl hL (mu_okc (v := (1, gz G)) trivial (mu_okt hst)) (by rw [gz_gnew]; omega) (by rw [gu_gnew]; omega)
      rw [gz_gnew, gu_gnew, List.map_cons] at k2
      change W p l e R s m args below meth c H1 locs _ _ Q (F0 m (pc + 2) ls (mu_rv K (gz G) :: _)) at k2
      rw [mu_rv_own hR.1, mu_ad_own hR.1, ← hR.2.1, show (gz G + 1 - z0).toNat = (gz G - z0).toNat + 1 by omega, show (gu G + n - u0).toNat = (gu G - u0).toNat + n.toNat by omega] at k2
      exact k2
    · rw [sh_gnew, if_pos rfl] at h2; have := (Prod.mk.inj h2).1; omega
    · rw [sh_gnew, if_pos rfl] at h2; have := (Prod.mk.inj h2).1; omega
    · rw [sh_gnew, if_pos rfl] at h2
      have e : n2 = n.toNat := by have := (Prod.mk.inj h2).2; omega
      subst e
      rw [mu_ad_own hR.1, ← hR.2.1]
      refine ⟨?_, fun j _ => Or.inl (by rw [mu_inew_at, if_pos rfl])⟩
      rw [e1]
      congr 2
      funext j
      rw [mu_inew_at, if_pos rfl]
      rfl
    · rw [sh_gnew, if_pos rfl] at h2; have := (Prod.mk.inj h2).1; omega
  · cases hs
theorem sim_anewa {own nm : String} {cc : ByteArray} {mx pc : Nat} {rt : Option FieldType} {lg : Bool} {ix : Nat} (h : decode cc pc = .ok (.anewarray ix, 3)) (hw : Cond.classLink own ix "StepOwed$Person" ∈ mu_tb) : mu_Sim own cc mx rt nm lg pc (s_newa 102 (pc + 3)) := by
  refine ⟨fun L st G I => ⟨fun fr G1 I1 h => ?_, fun g fr G1 I1 h hg => ?_⟩, ?_⟩
  · unfold s_newa at h; (try split at h) <;> (try split at h) <;> (try split at h) <;> first | (cases h; done) | (cases h; exact ⟨Int.le_refl _, Int.le_refl _⟩) | (cases h; simp only [gz_gnew, gu_gnew]; omega) | (obtain ⟨-, h⟩ := mu_bif h; cases h; done) | (obtain ⟨-, h⟩ := mu_bif h; cases h; exact ⟨Int.le_refl _, Int.le_refl _⟩)
  · unfold s_newa at h; (try split at h) <;> (try split at h) <;> (try split at h) <;> first | (cases h; done) | (cases h; exact ⟨Int.le_refl _, Int.le_refl _⟩) | (cases h; simp only [gz_gnew, gu_gnew]; omega) | (obtain ⟨-, h⟩ := mu_bif h; cases h; done) | (obtain ⟨-, h⟩ := mu_bif h; cases h; exact ⟨Int.le_refl _, Int.le_refl _⟩)
  intro K p l e R s m args below meth c Q z0 u0 d C L st G I sr hs hok H locs ls hR hS hl hL hst hz hu
  unfold s_newa at hs
  split at hs
  · rename_i n st1
    cases hs
    obtain ⟨⟨g0, g1⟩, r1, r2, kk⟩ := hok
    have hE := C.2.2.2.2.2.1
    have hts := C.2.2.2.2.1
    rw [gz_gnew] at r1
    rw [gu_gnew] at r2
    have etn := mu_tn g0 (show n ≤ 2147483647 by omega)
    refine W.anew C.1 C.2.1 C.2.2.2.1 (hts _ hw) hE.2.2.2.2.2.2.2.1.use rfl h rfl (mu_ng g0 (by omega)) (by rw [etn]; omega) (by omega) (by rw [etn]; omega) fun cA kA2 comp f1 f2 f3 f4 => ?_
    obtain ⟨kA3, comp3, k1, k2, k3, k4⟩ := (mu_arr hE.1).2.2.2
    have hcA : cA = kP K := Option.some.inj (f1.symm.trans k4)
    subst hcA
    rw [etn]
    generalize hH1 : H.push ({ cls := kP K, slots := Array.replicate n.toNat .null, vm := .none } : Cell) = H1
    have z1 : H1.size = H.size + 1 := by rw [← hH1, Array.size_push]
    have e1 : H1[H.size]? = some (arrV (kP K) n.toNat (fun _ => .null)) := by rw [← hH1, Array.getElem?_push_size, ← arrV_new]
    have o1 : ∀ q : Nat, q < H.size → H1[q]? = H[q]? := fun q hq => by rw [← hH1, Array.getElem?_push, if_neg (Nat.ne_of_lt hq)]
    have hrel : mu_Rel K (mu_gnew G 102 n n) (mu_inew G I) H1 := mu_Rel_new hR (Or.inr ⟨by simp, g0, g1⟩) z1 o1 ⟨fun ci2 hc2 h2 => ?_, fun n2 h2 => ?_, fun n2 h2 => ?_, fun n2 h2 => ?_⟩
    · have k2 := kk H1 locs ls hrel (mu_S_new hS z1 o1) hl hL (mu_okc (v := (1, gz G)) trivial (mu_okt hst)) (by rw [gz_gnew]; omega) (by rw [gu_gnew]; omega)
      rw [gz_gnew, gu_gnew, List.map_cons] at k2
      change W p l e R s m args below meth c H1 locs _ _ Q (F0 m (pc + 3) ls (mu_rv K (gz G) :: _)) at k2
      rw [mu_rv_own hR.1, mu_ad_own hR.1, ← hR.2.1, show (gz G + 1 - z0).toNat = (gz G - z0).toNat + 1 by omega, show (gu G + n - u0).toNat = (gu G - u0).toNat + n.toNat by omega] at k2
      exact k2
    · rw [sh_gnew, if_pos rfl] at h2; have := (Prod.mk.inj h2).1; omega
    · rw [sh_gnew, if_pos rfl] at h2; have := (Prod.mk.inj h2).1; omega
    · rw [sh_gnew, if_pos rfl] at h2; have := (Prod.mk.inj h2).1; omega
    · rw [sh_gnew, if_pos rfl] at h2
      have e : n2 = n.toNat := by have := (Prod.mk.inj h2).2; omega
      subst e
      rw [mu_ad_own hR.1, ← hR.2.1, e1]
      congr 2
      funext j
      rw [rf_gnew, if_pos rfl]
      rfl
  · cases hs
theorem sim_ireturn {own nm : String} {cc : ByteArray} {mx pc : Nat} {rt : Option FieldType} {lg : Bool} (h : decode cc pc = .ok (.ireturn, 1)) (hrt : rt = some .int) : mu_Sim own cc mx rt nm lg pc (s_ireturn) := by
  refine ⟨fun L st G I => ⟨fun fr G1 I1 h => ?_, fun g fr G1 I1 h hg => ?_⟩, ?_⟩
  · unfold s_ireturn at h; (try split at h) <;> (try split at h) <;> (try split at h) <;> first | (cases h; done) | (cases h; exact ⟨Int.le_refl _, Int.le_refl _⟩) | (cases h; simp only [gz_gnew, gu_gnew]; omega) | (obtain ⟨-, h⟩ := mu_bif h; cases h; done) | (obtain ⟨-, h⟩ := mu_bif h; cases h; exact ⟨Int.le_refl _, Int.le_refl _⟩)
  · unfold s_ireturn at h; (try split at h) <;> (try split at h) <;> (try split at h) <;> first | (cases h; done) | (cases h; exact ⟨Int.le_refl _, Int.le_refl _⟩) | (cases h; simp only [gz_gnew, gu_gnew]; omega) | (obtain ⟨-, h⟩ := mu_bif h; cases h; done) | (obtain ⟨-, h⟩ := mu_bif h; cases h; exact ⟨Int.le_refl _, Int.le_refl _⟩)
  intro K p l e R s m args below meth c Q z0 u0 d C L st G I sr hs hok H locs ls hR hS hl hL hst hz hu
  unfold s_ireturn at hs
  split at hs
  · rename_i x
    cases hs
    exact (hok H locs ls pc hR hS hz hu).2.1 hrt h (mu_okh hst)
  · cases hs
theorem sim_lreturn {own nm : String} {cc : ByteArray} {mx pc : Nat} {rt : Option FieldType} {lg : Bool} (h : decode cc pc = .ok (.lreturn, 1)) (hrt : rt = some .long) : mu_Sim own cc mx rt nm lg pc (s_lreturn) := by
  refine ⟨fun L st G I => ⟨fun fr G1 I1 h => ?_, fun g fr G1 I1 h hg => ?_⟩, ?_⟩
  · unfold s_lreturn at h; (try split at h) <;> (try split at h) <;> (try split at h) <;> first | (cases h; done) | (cases h; exact ⟨Int.le_refl _, Int.le_refl _⟩) | (cases h; simp only [gz_gnew, gu_gnew]; omega) | (obtain ⟨-, h⟩ := mu_bif h; cases h; done) | (obtain ⟨-, h⟩ := mu_bif h; cases h; exact ⟨Int.le_refl _, Int.le_refl _⟩)
  · unfold s_lreturn at h; (try split at h) <;> (try split at h) <;> (try split at h) <;> first | (cases h; done) | (cases h; exact ⟨Int.le_refl _, Int.le_refl _⟩) | (cases h; simp only [gz_gnew, gu_gnew]; omega) | (obtain ⟨-, h⟩ := mu_bif h; cases h; done) | (obtain ⟨-, h⟩ := mu_bif h; cases h; exact ⟨Int.le_refl _, Int.le_refl _⟩)
  intro K p l e R s m args below meth c Q z0 u0 d C L st G I sr hs hok H locs ls hR hS hl hL hst hz hu
  unfold s_lreturn at hs
  split at hs
  · rename_i x
    cases hs
    exact (hok H locs ls pc hR hS hz hu).2.2.2.1 hrt h (mu_okh hst)
  · cases hs
theorem sim_zreturn {own nm : String} {cc : ByteArray} {mx pc : Nat} {rt : Option FieldType} {lg : Bool} (h : decode cc pc = .ok (.ireturn, 1)) (hrt : rt = some .boolean) : mu_Sim own cc mx rt nm lg pc (s_zreturn) := by
  refine ⟨fun L st G I => ⟨fun fr G1 I1 h => ?_, fun g fr G1 I1 h hg => ?_⟩, ?_⟩
  · unfold s_zreturn at h; (try split at h) <;> (try split at h) <;> (try split at h) <;> first | (cases h; done) | (cases h; exact ⟨Int.le_refl _, Int.le_refl _⟩) | (cases h; simp only [gz_gnew, gu_gnew]; omega) | (obtain ⟨-, h⟩ := mu_bif h; cases h; done) | (obtain ⟨-, h⟩ := mu_bif h; cases h; exact ⟨Int.le_refl _, Int.le_refl _⟩)
  · unfold s_zreturn at h; (try split at h) <;> (try split at h) <;> (try split at h) <;> first | (cases h; done) | (cases h; exact ⟨Int.le_refl _, Int.le_refl _⟩) | (cases h; simp only [gz_gnew, gu_gnew]; omega) | (obtain ⟨-, h⟩ := mu_bif h; cases h; done) | (obtain ⟨-, h⟩ := mu_bif h; cases h; exact ⟨Int.le_refl _, Int.le_refl _⟩)
  intro K p l e R s m args below meth c Q z0 u0 d C L st G I sr hs hok H locs ls hR hS hl hL hst hz hu
  unfold s_zreturn at hs
  split at hs
  · rename_i x
    cases hs
    exact (hok.2 H locs ls pc hR hS hz hu).2.2.1 hrt h hok.1
  · cases hs
theorem sim_areturn {own nm : String} {cc : ByteArray} {mx pc : Nat} {rt : Option FieldType} {lg : Bool} (h : decode cc pc = .ok (.areturn, 1)) (hrt : (∃ n, rt = some (.object n)) ∨ ∃ t, rt = some (.array t)) : mu_Sim own cc mx rt nm lg pc (s_areturn) := by
  refine ⟨fun L st G I => ⟨fun fr G1 I1 h => ?_, fun g fr G1 I1 h hg => ?_⟩, ?_⟩
  · unfold s_areturn at h; (try split at h) <;> (try split at h) <;> (try split at h) <;> first | (cases h; done) | (cases h; exact ⟨Int.le_refl _, Int.le_refl _⟩) | (cases h; simp only [gz_gnew, gu_gnew]; omega) | (obtain ⟨-, h⟩ := mu_bif h; cases h; done) | (obtain ⟨-, h⟩ := mu_bif h; cases h; exact ⟨Int.le_refl _, Int.le_refl _⟩)
  · unfold s_areturn at h; (try split at h) <;> (try split at h) <;> (try split at h) <;> first | (cases h; done) | (cases h; exact ⟨Int.le_refl _, Int.le_refl _⟩) | (cases h; simp only [gz_gnew, gu_gnew]; omega) | (obtain ⟨-, h⟩ := mu_bif h; cases h; done) | (obtain ⟨-, h⟩ := mu_bif h; cases h; exact ⟨Int.le_refl _, Int.le_refl _⟩)
  intro K p l e R s m args below meth c Q z0 u0 d C L st G I sr hs hok H locs ls hR hS hl hL hst hz hu
  unfold s_areturn at hs
  split at hs
  · rename_i x
    cases hs
    exact (hok H locs ls pc hR hS hz hu).2.2.2.2 hrt h
  · cases hs
theorem sim_return {own nm : String} {cc : ByteArray} {mx pc : Nat} {rt : Option FieldType} {lg : Bool} (h : decode cc pc = .ok (.return_, 1)) (hrt : rt = none) : mu_Sim own cc mx rt nm lg pc (s_return) := by
  refine ⟨fun L st G I => ⟨fun fr G1 I1 h => ?_, fun g fr G1 I1 h hg => ?_⟩, ?_⟩
  · unfold s_return at h; (try split at h) <;> (try split at h) <;> (try split at h) <;> first | (cases h; done) | (cases h; exact ⟨Int.le_refl _, Int.le_refl _⟩) | (cases h; simp only [gz_gnew, gu_gnew]; omega) | (obtain ⟨-, h⟩ := mu_bif h; cases h; done) | (obtain ⟨-, h⟩ := mu_bif h; cases h; exact ⟨Int.le_refl _, Int.le_refl _⟩)
  · unfold s_return at h; (try split at h) <;> (try split at h) <;> (try split at h) <;> first | (cases h; done) | (cases h; exact ⟨Int.le_refl _, Int.le_refl _⟩) | (cases h; simp only [gz_gnew, gu_gnew]; omega) | (obtain ⟨-, h⟩ := mu_bif h; cases h; done) | (obtain ⟨-, h⟩ := mu_bif h; cases h; exact ⟨Int.le_refl _, Int.le_refl _⟩)
  intro K p l e R s m args below meth c Q z0 u0 d C L st G I sr hs hok H locs ls hR hS hl hL hst hz hu
  unfold s_return at hs
  split at hs
  · cases hs
    exact (hok H locs ls pc hR hS hz hu).1 hrt h
  · cases hs

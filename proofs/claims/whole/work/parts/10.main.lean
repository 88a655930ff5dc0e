/-! THE WHOLE: a run of the small machine is a run of the machine. -/
theorem mu_low_L : ∀ {l : List mu_V}, mu_low l = true → mu_lowL l = true
  | [], _ => rfl
  | (0, _) :: r, h => mu_low_L (l := r) h
  | (1, _) :: r, h => mu_low_L (l := r) h
  | (2, _) :: r, h => by cases h
  | (n + 3, _) :: r, h => by cases h
theorem mu_low_wide : ∀ {l : List mu_V}, mu_low l = true → mu_wide l = l
  | [], _ => rfl
  | (0, _) :: r, h => by rw [show mu_wide ((0, _) :: r) = (0, _) :: mu_wide r from rfl, mu_low_wide (l := r) h]
  | (1, _) :: r, h => by rw [show mu_wide ((1, _) :: r) = (1, _) :: mu_wide r from rfl, mu_low_wide (l := r) h]
  | (2, _) :: r, h => by cases h
  | (n + 3, _) :: r, h => by cases h
theorem mu_len_eq : ∀ {l : List mu_V}, mu_len l = l.length
  | [] => rfl
  | _ :: r => by rw [mu_len, mu_len_eq (l := r)]; rfl
theorem mu_low_no2 : ∀ {l : List mu_V}, mu_low l = true → ∀ v ∈ l, v.1 ≠ 2
  | [], _, v, hv => by cases hv
  | (0, x) :: r, h, v, hv => by
    rcases List.mem_cons.mp hv with rfl | hv
    · simp
    · exact mu_low_no2 (l := r) h v hv
  | (1, x) :: r, h, v, hv => by
    rcases List.mem_cons.mp hv with rfl | hv
    · simp
    · exact mu_low_no2 (l := r) h v hv
  | (2, _) :: r, h, _, _ => by cases h
  | (n + 3, _) :: r, h, _, _ => by cases h
theorem mu_wide_len {K : mu_K} : ∀ {l : List mu_V}, mu_lowL l = true → (lg_sl (l.map (mu_cv K))).length = mu_len (mu_wide l)
  | [], _ => rfl
  | (0, x) :: r, h => by
    have ih := mu_wide_len (K := K) (l := r) h
    show (lg_sl (mu_cv K (0, x) :: r.map (mu_cv K))).length = mu_len ((0, x) :: mu_wide r)
    unfold lg_sl at ih ⊢
    rw [List.flatMap_cons, List.length_append, ih, mu_len]
    show 1 + _ = _
    omega
  | (1, x) :: r, h => by
    have ih := mu_wide_len (K := K) (l := r) h
    have hc : (mu_cv K (1, x)).category = 1 := mu_cat (by decide) (by decide) (by decide)
    show (lg_sl (mu_cv K (1, x) :: r.map (mu_cv K))).length = mu_len ((1, x) :: mu_wide r)
    unfold lg_sl at ih ⊢
    rw [List.flatMap_cons, List.length_append, ih, mu_len, hc]
    show 1 + _ = _
    omega
  | (2, x) :: r, h => by
    have ih := mu_wide_len (K := K) (l := r) h
    show (lg_sl (mu_cv K (2, x) :: r.map (mu_cv K))).length = mu_len ((2, x) :: (3, 0) :: mu_wide r)
    unfold lg_sl at ih ⊢
    rw [List.flatMap_cons, List.length_append, ih, mu_len, mu_len]
    show 2 + _ = _
    omega
  | (n + 3, _) :: r, h => by cases h
theorem mu_pad_nil {K : mu_K} : ∀ {n i : Nat}, mu_lv K i (mu_pad n []) = []
  | 0, _ => rfl
  | n + 1, i => by
    show mu_lv K i ((3, 0) :: mu_pad n []) = []
    rw [mu_lv]
    exact mu_pad_nil
theorem mu_pad_args {K : mu_K} : ∀ {l : List mu_V} {n i : Nat}, mu_lowL l = true → ∀ q ∈ mu_lv K i (mu_pad n (mu_wide l)), q ∈ lv_args i (l.map (mu_cv K))
  | [], n, i, _, q, hq => by
    rw [show mu_wide [] = [] from rfl, mu_pad_nil] at hq
    cases hq
  | (0, x) :: r, 0, i, h, q, hq => by cases hq
  | (0, x) :: r, n + 1, i, h, q, hq => by
    have ih := mu_pad_args (K := K) (l := r) (n := n) (i := i + 1) h q
    have e : q ∈ (i, mu_cv K (0, x)) :: mu_lv K (i + 1) (mu_pad n (mu_wide r)) := hq
    show q ∈ (i, mu_cv K (0, x)) :: lv_args (i + 1) (r.map (mu_cv K))
    rcases List.mem_cons.mp e with h1 | h1
    · rw [h1]; exact List.mem_cons_self
    · exact List.mem_cons_of_mem _ (ih h1)
  | (1, x) :: r, 0, i, h, q, hq => by cases hq
  | (1, x) :: r, n + 1, i, h, q, hq => by
    have ih := mu_pad_args (K := K) (l := r) (n := n) (i := i + 1) h q
    have e : q ∈ (i, mu_cv K (1, x)) :: mu_lv K (i + 1) (mu_pad n (mu_wide r)) := hq
    have hc : (mu_cv K (1, x)).category = 1 := mu_cat (by decide) (by decide) (by decide)
    have e2 : lv_args i (List.map (mu_cv K) ((1, x) :: r)) = (i, mu_cv K (1, x)) :: lv_args (i + 1) (r.map (mu_cv K)) := by
      rw [List.map_cons, lv_args, hc]
      rfl
    rw [e2]
    rcases List.mem_cons.mp e with h1 | h1
    · rw [h1]; exact List.mem_cons_self
    · exact List.mem_cons_of_mem _ (ih h1)
  | (2, x) :: r, 0, i, h, q, hq => by cases hq
  | (2, x) :: r, 1, i, h, q, hq => by
    have e : q ∈ [(i, mu_cv K (2, x))] := hq
    rw [List.mem_singleton.mp e]
    exact List.mem_cons_self
  | (2, x) :: r, n + 2, i, h, q, hq => by
    have ih := mu_pad_args (K := K) (l := r) (n := n) (i := i + 2) h q
    have e : q ∈ (i, mu_cv K (2, x)) :: mu_lv K (i + 2) (mu_pad n (mu_wide r)) := hq
    show q ∈ (i, mu_cv K (2, x)) :: lv_args (i + 2) (r.map (mu_cv K))
    rcases List.mem_cons.mp e with h1 | h1
    · rw [h1]; exact List.mem_cons_self
    · exact List.mem_cons_of_mem _ (ih h1)
  | (k + 3, _) :: r, _, _, h, _, _ => by cases h
theorem mu_pad_mem {v : mu_V} : ∀ {n : Nat} {l : List mu_V}, v ∈ mu_pad n l → v ∈ l ∨ v = (3, 0)
  | 0, _, h => by cases h
  | n + 1, [], h => by
    rcases List.mem_cons.mp h with h1 | h1
    · exact Or.inr h1
    · exact mu_pad_mem (n := n) h1
  | n + 1, w :: r, h => by
    rcases List.mem_cons.mp h with h1 | h1
    · exact Or.inl (by rw [h1]; exact List.mem_cons_self)
    · rcases mu_pad_mem (n := n) h1 with h2 | h2
      · exact Or.inl (List.mem_cons_of_mem _ h2)
      · exact Or.inr h2
theorem mu_wide_mem {v : mu_V} : ∀ {l : List mu_V}, mu_lowL l = true → v ∈ mu_wide l → v ∈ l ∨ v = (3, 0)
  | [], _, h => by cases h
  | (0, x) :: r, hl, h => by
    have h : v ∈ (0, x) :: mu_wide r := h
    rcases List.mem_cons.mp h with h1 | h1
    · exact Or.inl (by rw [h1]; exact List.mem_cons_self)
    · rcases mu_wide_mem (l := r) hl h1 with h2 | h2
      · exact Or.inl (List.mem_cons_of_mem _ h2)
      · exact Or.inr h2
  | (1, x) :: r, hl, h => by
    have h : v ∈ (1, x) :: mu_wide r := h
    rcases List.mem_cons.mp h with h1 | h1
    · exact Or.inl (by rw [h1]; exact List.mem_cons_self)
    · rcases mu_wide_mem (l := r) hl h1 with h2 | h2
      · exact Or.inl (List.mem_cons_of_mem _ h2)
      · exact Or.inr h2
  | (2, x) :: r, hl, h => by
    have h : v ∈ (2, x) :: (3, 0) :: mu_wide r := h
    rcases List.mem_cons.mp h with h1 | h1
    · exact Or.inl (by rw [h1]; exact List.mem_cons_self)
    · rcases List.mem_cons.mp h1 with h1 | h1
      · exact Or.inr h1
      · rcases mu_wide_mem (l := r) hl h1 with h2 | h2
        · exact Or.inl (List.mem_cons_of_mem _ h2)
        · exact Or.inr h2
  | (k + 3, _) :: r, hl, _ => by cases hl
theorem mu_rs_psh {K : mu_K} {rt : Option FieldType} {v : Int} {st : List mu_V} : (mu_psh (mu_kd rt) v st).map (mu_cv K) = mu_rs K rt v ++ st.map (mu_cv K) := by
  unfold mu_rs
  cases rt with
  | none => rfl
  | some ty => cases ty <;> rfl
theorem mu_psh_ne {k : Nat} {v : Int} {st : List mu_V} (h : k ≠ 9) : mu_psh k v st = (k, v) :: st := by
  unfold mu_psh
  split
  · exact absurd rfl h
  · rfl
theorem mu_psh_ok {k : Nat} {v : Int} {st : List mu_V} (h : ∀ w ∈ mu_psh k v [], mu_okv w) (hs : ∀ w ∈ st, mu_okv w) : ∀ w ∈ mu_psh k v st, mu_okv w := by
  by_cases hk : k = 9
  · subst hk
    exact hs
  · rw [mu_psh_ne hk] at h ⊢
    exact mu_okc (h _ List.mem_cons_self) hs
theorem mu_and2 {a b : Bool} (h : and a b = true) : a = true ∧ b = true := by cases a <;> cases b <;> first | exact ⟨rfl, rfl⟩ | cases h
theorem sim_call {own nm : String} {cc : ByteArray} {mx pc : Nat} {rt : Option FieldType} {lg : Bool} {y mx1 na rty : Nat} {q : mu_Mi} (hq : mu_mi[y]? = some q) (hm : q.2.2.1 = mx1) (hk : mu_kd q.2.2.2 = rty) (hsite : mu_SiteS own cc mx rt nm pc q na) : mu_Sim own cc mx rt nm lg pc (s_call y mx1 na rty (pc + 3)) := by
  refine ⟨fun L st G I => ⟨fun fr G1 I1 h => ?_, fun g fr G1 I1 h hg => ?_⟩, ?_⟩
  · unfold s_call at h; (try split at h) <;> first | (cases h; done) | (obtain ⟨-, h⟩ := mu_bif h; cases h; done)
  · unfold s_call at h; (try split at h) <;> first | (cases h; done) | (obtain ⟨-, h⟩ := mu_bif h; cases h; done)
  intro K p l e R s m args below meth c Q z0 u0 d C L st G I sr hs hok H locs ls hR hS hl hL hst hz hu
  unfold s_call at hs
  split at hs
  · rename_i as rest heq
    obtain ⟨hb, hs⟩ := mu_bif hs
    obtain ⟨hb1, hb2⟩ := mu_and2 hb
    obtain ⟨hb2, hb3⟩ := mu_and2 hb2
    cases hs
    obtain ⟨q2, v, G1, I1, hq2, hMet, hd, hz1, hu1, r1, r2, kk⟩ := hok
    cases hq.symm.trans hq2
    obtain ⟨pre, e1, e2, e3⟩ := mu_pop_eq heq
    rw [List.append_nil] at e2
    have hok1 : ∀ w ∈ as, mu_okv w := fun w hw => hst w (by rw [e1]; rw [e2] at hw; exact List.mem_append_left _ (List.mem_reverse.mp hw))
    have hM := hMet as rfl hm hok1 (Or.inl hb2) (Nat.le_of_ble_eq_true hb3)
    have est : st.map (mu_cv K) = (as.map (mu_cv K)).reverse ++ rest.map (mu_cv K) := by
      rw [e1, List.map_append, e2, List.map_reverse, List.reverse_reverse]
    rw [est]
    have hrun := hsite K p l e R s m args below meth c d G I H locs (gz G - z0).toNat (gu G - u0).toNat ls as v G1 I1 (rest.map (mu_cv K)) C hR hS hl.1 (by rw [e2, List.length_reverse]; exact e3) hd hM (mu_sum hb1) (by omega) (by omega)
    refine mu_after hrun hS fun H1 locs1 hR1 hS1 ho1 => ?_
    have hrest : ∀ w ∈ rest, mu_okv w := fun w hw => hst w (by rw [e1]; exact List.mem_append_right _ hw)
    have k2 := kk H1 locs1 ls hR1 hS1 hl hL (mu_psh_ok (by rw [← hk]; exact ho1) hrest) (by omega) (by omega)
    rw [← hk, mu_rs_psh, show (gz G1 - z0).toNat = (gz G - z0).toNat + (gz G1 - gz G).toNat by omega, show (gu G1 - u0).toNat = (gu G - u0).toNat + (gu G1 - gu G).toNat by omega] at k2
    exact k2
  · cases hs
theorem sim_callL {own nm : String} {cc : ByteArray} {mx pc : Nat} {rt : Option FieldType} {lg : Bool} {y mx1 na rty : Nat} {q : mu_Mi} (hq : mu_mi[y]? = some q) (hm : q.2.2.1 = mx1) (hk : mu_kd q.2.2.2 = rty) (hsite : mu_SiteS own cc mx rt nm pc q na) (hlg : mu_lng y = true) : mu_Sim own cc mx rt nm lg pc (s_callL y mx1 na rty (pc + 3)) := by
  refine ⟨fun L st G I => ⟨fun fr G1 I1 h => ?_, fun g fr G1 I1 h hg => ?_⟩, ?_⟩
  · unfold s_callL at h; (try split at h) <;> first | (cases h; done) | (obtain ⟨-, h⟩ := mu_bif h; cases h; done)
  · unfold s_callL at h; (try split at h) <;> first | (cases h; done) | (obtain ⟨-, h⟩ := mu_bif h; cases h; done)
  intro K p l e R s m args below meth c Q z0 u0 d C L st G I sr hs hok H locs ls hR hS hl hL hst hz hu
  unfold s_callL at hs
  split at hs
  · rename_i as rest heq
    obtain ⟨hb, hs⟩ := mu_bif hs
    obtain ⟨hb1, hb2⟩ := mu_and2 hb
    obtain ⟨hb2, hb3⟩ := mu_and2 hb2
    cases hs
    obtain ⟨q2, v, G1, I1, hq2, hMet, hd, hz1, hu1, r1, r2, kk⟩ := hok
    cases hq.symm.trans hq2
    obtain ⟨pre, e1, e2, e3⟩ := mu_pop_eq heq
    rw [List.append_nil] at e2
    have hok1 : ∀ w ∈ as, mu_okv w := fun w hw => hst w (by rw [e1]; rw [e2] at hw; exact List.mem_append_left _ (List.mem_reverse.mp hw))
    have hM := hMet as rfl hm hok1 (Or.inr ⟨hb2, hlg⟩) (Nat.le_of_ble_eq_true hb3)
    have est : st.map (mu_cv K) = (as.map (mu_cv K)).reverse ++ rest.map (mu_cv K) := by
      rw [e1, List.map_append, e2, List.map_reverse, List.reverse_reverse]
    rw [est]
    have hrun := hsite K p l e R s m args below meth c d G I H locs (gz G - z0).toNat (gu G - u0).toNat ls as v G1 I1 (rest.map (mu_cv K)) C hR hS hl.1 (by rw [e2, List.length_reverse]; exact e3) hd hM (mu_sum hb1) (by omega) (by omega)
    refine mu_after hrun hS fun H1 locs1 hR1 hS1 ho1 => ?_
    have hrest : ∀ w ∈ rest, mu_okv w := fun w hw => hst w (by rw [e1]; exact List.mem_append_right _ hw)
    have k2 := kk H1 locs1 ls hR1 hS1 hl hL (mu_psh_ok (by rw [← hk]; exact ho1) hrest) (by omega) (by omega)
    rw [← hk, mu_rs_psh, show (gz G1 - z0).toNat = (gz G - z0).toNat + (gz G1 - gz G).toNat by omega, show (gu G1 - u0).toNat = (gu G - u0).toNat + (gu G1 - gu G).toNat by omega] at k2
    exact k2
  · cases hs
theorem mu_alts_sel {q : Int × Int} : ∀ {al : List (Int × Nat × Nat)} {y mx : Nat}, mu_vsel (mu_alts q al) = some (y, mx) → ∃ c, (c, y, mx) ∈ al ∧ q = (c, 0)
  | [], _, _, h => by cases h
  | (c, y1, m1) :: r, y, mx, h => by
    by_cases hc : q = (c, 0)
    · have e : mu_vsel (mu_alts q ((c, y1, m1) :: r)) = some (y1, m1) := mu_if_t hc
      rw [e] at h
      cases h
      exact ⟨c, List.mem_cons_self, hc⟩
    · have e : mu_vsel (mu_alts q ((c, y1, m1) :: r)) = mu_vsel (mu_alts q r) := mu_if_f hc
      rw [e] at h
      obtain ⟨c2, h1, h2⟩ := mu_alts_sel h
      exact ⟨c2, List.mem_cons_of_mem _ h1, h2⟩
theorem sim_callv {own nm : String} {cc : ByteArray} {mx pc : Nat} {rt : Option FieldType} {lg : Bool} {al : List (Int × Nat × Nat)} {na rty : Nat} (hsite : ∀ t ∈ al, ∃ (ci : Nat) (q : mu_Mi), t.1 = (ci : Int) ∧ mu_mi[t.2.1]? = some q ∧ q.2.2.1 = t.2.2 ∧ mu_kd q.2.2.2 = rty ∧ na + 1 ≤ t.2.2 ∧ mu_SiteV own cc mx rt nm pc ci q na) : mu_Sim own cc mx rt nm lg pc (s_callv al na rty (pc + 3)) := by
  refine ⟨fun L st G I => ⟨fun fr G1 I1 h => ?_, fun g fr G1 I1 h hg => ?_⟩, ?_⟩
  · unfold s_callv at h; (try split at h) <;> first | (cases h; done) | (obtain ⟨-, h⟩ := mu_bif h; cases h; done)
  · unfold s_callv at h; (try split at h) <;> first | (cases h; done) | (obtain ⟨-, h⟩ := mu_bif h; cases h; done)
  intro K p l e R s m args below meth c Q z0 u0 d C L st G I sr hs hok H locs ls hR hS hl hL hst hz hu
  unfold s_callv at hs
  split at hs
  · rename_i as a rest heq
    obtain ⟨hb, hs⟩ := mu_bif hs
    obtain ⟨hb1, hb2⟩ := mu_and2 hb
    cases hs
    obtain ⟨y1, m1, hsel, q2, v, G1, I1, hq2, hMet, hd, hz1, hu1, r1, r2, kk⟩ := hok
    obtain ⟨c1, hin, hsh⟩ := mu_alts_sel hsel
    obtain ⟨ci, q, e0, hq, hm, hk, hna, hsite⟩ := hsite _ hin
    dsimp only at e0 hq hm hna
    subst e0
    cases hq.symm.trans hq2
    obtain ⟨pre, e1, e2, e3⟩ := mu_pop_eq heq
    rw [List.append_nil] at e2
    have hok1 : ∀ w ∈ (1, a) :: as, mu_okv w := fun w hw => by
      rcases List.mem_cons.mp hw with h1 | h1
      · rw [h1]; trivial
      · exact hst w (by rw [e1]; rw [e2] at h1; exact List.mem_append_left _ (List.mem_reverse.mp h1))
    have hM := hMet ((1, a) :: as) rfl hm hok1 (Or.inl hb2) (by
      rw [show mu_wide ((1, a) :: as) = (1, a) :: mu_wide as from rfl, mu_low_wide hb2, mu_len_eq, List.length_cons, e2, List.length_reverse]
      omega)
    have est : st.map (mu_cv K) = (as.map (mu_cv K)).reverse ++ mu_rv K a :: rest.map (mu_cv K) := by
      rw [e1, List.map_append, e2, List.map_reverse, List.reverse_reverse]
      rfl
    rw [est]
    have hrun := hsite K p l e R s m args below meth c d G I H locs (gz G - z0).toNat (gu G - u0).toNat ls a as v G1 I1 (rest.map (mu_cv K)) C hR hS hsh hl.1 (by rw [e2, List.length_reverse]; exact e3) hd hM (mu_sum hb1) (by omega) (by omega)
    refine mu_after hrun hS fun H1 locs1 hR1 hS1 ho1 => ?_
    have hrest : ∀ w ∈ rest, mu_okv w := fun w hw => hst w (by rw [e1]; exact List.mem_append_right _ (List.mem_cons_of_mem _ hw))
    have k2 := kk H1 locs1 ls hR1 hS1 hl hL (mu_psh_ok (by rw [← hk]; exact ho1) hrest) (by omega) (by omega)
    rw [← hk, mu_rs_psh, show (gz G1 - z0).toNat = (gz G - z0).toNat + (gz G1 - gz G).toNat by omega, show (gu G1 - u0).toNat = (gu G - u0).toNat + (gu G1 - gu G).toNat by omega] at k2
    exact k2
  · cases hs
theorem mu_plain : ∀ q ∈ mu_mi.drop 1, plainName q.1.cls = true := by decide +kernel
/-- all the code is the machine's own -/
def mu_All (code : Nat → List (Nat × mu_Sem)) : Prop := (∀ (y : Nat) (q : mu_Mi), mu_mi[y]? = some q → ∀ t ∈ code y, mu_Sim q.1.cls q.2.1 q.2.2.1 q.2.2.2 q.1.name (mu_lng y) t.1 t.2) ∧ (∀ y : Nat, mu_mi[y]? = none → code y = []) ∧ code 0 = []
theorem mu_at_in : ∀ {cd : List (Nat × mu_Sem)} {pc : Nat} {L st : List mu_V} {G : mu_G} {I : mu_M} {sr : mu_SR}, mu_at cd pc L st G I = some sr → ∃ f, (pc, f) ∈ cd ∧ f L st G I = some sr
  | [], _, _, _, _, _, _, h => by cases h
  | (k, f) :: r, pc, L, st, G, I, sr, h => by
    cases hk : Nat.beq k pc with
    | true =>
      have e : mu_at ((k, f) :: r) pc = f := by show (bif Nat.beq k pc then f else mu_at r pc) = f; rw [hk]; rfl
      rw [e] at h
      have := Nat.eq_of_beq_eq_true hk
      subst this
      exact ⟨f, List.mem_cons_self, h⟩
    | false =>
      have e : mu_at ((k, f) :: r) pc = mu_at r pc := by show (bif Nat.beq k pc then f else mu_at r pc) = _; rw [hk]; rfl
      rw [e] at h
      obtain ⟨g, h1, h2⟩ := mu_at_in h
      exact ⟨g, List.mem_cons_of_mem _ h1, h2⟩
/-- a run of a method's body is what a call of it brings -/
theorem mu_toMet {K : mu_K} {l : Launch} {y d : Nat} {q : mu_Mi} {ra : List mu_V} {G : mu_G} {I : mu_M} {v : Int} {G1 : mu_G} {I1 : mu_M} (hq : mu_mi[y]? = some q) (hy : y ≠ 0) (hd : d ≤ 1000)
    (hrun : ∀ (p : Program) (e : Env) (R : Room) (s : State) (m : MethodId) (args : Array Value) (below : List Frame) (meth : Method) (c : Code) (Q : State → Prop) (z0 u0 : Int), mu_Cx K q.1.cls q.2.1 q.2.2.1 q.2.2.2 q.1.name d p R s m args meth c → (gz G1 - z0).toNat ≤ R.cells → (gu G1 - u0).toNat ≤ R.slots → mu_Ret K (mu_lng y) q.2.2.1 p l e R s m args below meth c Q z0 u0 q.2.1 q.2.2.2 v G1 I1 → mu_At K (mu_lng y) q.2.2.1 p l e R s m args below meth c Q z0 u0 0 (mu_pad q.2.2.1 (mu_wide ra)) [] G I)
    (hz : gz G ≤ gz G1) (hu : gu G ≤ gu G1) (hok : ∀ v ∈ ra, mu_okv v) (hlow : mu_low ra = true ∨ (mu_lowL ra = true ∧ mu_lng y = true)) (hlen : mu_len (mu_wide ra) ≤ q.2.2.1) : mu_Met K l q d ra G I v G1 I1 := by
  have hlowL : mu_lowL ra = true := by
    rcases hlow with h | h
    · exact mu_low_L h
    · exact h.1
  have hpl : plainName q.1.cls = true := mu_plain q (by
    obtain ⟨k, rfl⟩ : ∃ k, y = k + 1 := ⟨y - 1, by omega⟩
    refine List.mem_of_getElem? (i := k) ?_
    rw [List.getElem?_drop, Nat.add_comm]
    exact hq)
  refine Met.ofW (cc := q.2.1) (maxL := q.2.2.1) (ret := q.2.2.2) hpl rfl ?_
  intro p e s m args below meth c s₁ B hml hPc
  obtain ⟨rfl, hRel, hE⟩ := hPc
  have hpre := atoms_spec (ws := Cond.code q.1 q.2.1 q.2.2.1 q.2.2.2 :: mu_tb) B.pre
  have C : mu_Cx K q.1.cls q.2.1 q.2.2.1 q.2.2.2 q.1.name d p (mu_rm d (gz G1 - gz G).toNat (gu G1 - gu G).toNat) s m (ra.map (mu_cv K)).toArray meth c := ⟨B.exec, B.bytes, hml, findClass_of_methodNamed B.named, fun w hw => hpre w (List.mem_cons_of_mem _ hw), hE, B.returns, B.notSynchronized, (name_of_methodNamed B.named B.method).1, hd, Nat.le_refl _, Nat.le_refl _⟩
  have hl := lv_entry (ra.map (mu_cv K)) (n := q.2.2.1) (by rw [mu_wide_len hlowL]; exact hlen)
  rw [lg_entry_eq]
  generalize (lg_sl (ra.map (mu_cv K)) ++ List.replicate (q.2.2.1 - (lg_sl (ra.map (mu_cv K))).length) Slot.unset).toArray = ls at hl ⊢
  have key := hrun p e (mu_rm d (gz G1 - gz G).toNat (gu G1 - gu G).toNat) s m (ra.map (mu_cv K)).toArray below meth c (MQ below (mu_Qc K q.2.2.2 v G1 I1) (ra.map (mu_cv K)).toArray s (gz G1 - gz G).toNat (gu G1 - gu G).toNat (kA K)) (gz G) (gu G) C (Nat.le_refl _) (Nat.le_refl _) ?_ s.heap [] ls hRel va_S.rf (lv_less hl (fun t ht => mu_pad_args hlowL t ht)) ?_ (fun w hw => by cases hw) (Int.le_refl _) (Int.le_refl _)
  · rw [show (gz G - gz G).toNat = 0 by omega, show (gu G - gu G).toNat = 0 by omega] at key
    exact key
  · have hrt := B.returns
    have hlk : meth.locks = false := B.notSynchronized
    intro H locs ls2 pc hR hS _ _
    have hf : ∀ t ∈ locs, kA K t.base := hS.2.2
    refine ⟨fun e1 h => ?_, fun e1 h ho => ?_, fun e1 h ho => ?_, fun e1 h ho => ?_, fun e1 h => ?_⟩
    · rw [e1] at hrt ⊢
      exact W.vret C.1 C.2.1 hrt (fun t ht _ => ⟨⟨(), rfl, trivial, by show mu_Rel K G1 I1 t.heap; rw [ht]; exact hR⟩, hS.F ht⟩) hf h (hlocks := hlk)
    · rw [e1] at hrt ⊢
      exact W.iret C.1 C.2.1 hrt (fun t ht _ => ⟨⟨_, (), rfl, ⟨rfl, ho⟩, by show mu_Rel K G1 I1 t.heap; rw [ht]; exact hR⟩, hS.F ht⟩) hf h (hlocks := hlk)
    · rw [e1] at hrt ⊢
      exact W.zret C.1 C.2.1 hrt (by rcases ho with rfl | rfl <;> rfl) (fun t ht _ => ⟨⟨_, (), rfl, ⟨rfl, by rcases ho with rfl | rfl <;> exact ⟨by decide, by decide⟩⟩, by show mu_Rel K G1 I1 t.heap; rw [ht]; exact hR⟩, hS.F ht⟩) hf h (hlocks := hlk)
    · rw [e1] at hrt ⊢
      exact W.lret C.1 C.2.1 hrt (fun t ht _ => ⟨⟨_, (), rfl, ⟨rfl, ho⟩, by show mu_Rel K G1 I1 t.heap; rw [ht]; exact hR⟩, hS.F ht⟩) hf h (hlocks := hlk)
    · have hv : mu_rv K v = .null ∨ ∃ a, mu_rv K v = .ref a := by
        unfold mu_rv
        cases mu_ro K v with
        | none => exact Or.inl rfl
        | some a => exact Or.inr ⟨a, rfl⟩
      rcases e1 with ⟨n, e1⟩ | ⟨n, e1⟩
      · rw [e1] at hrt ⊢
        exact W.aret C.1 C.2.1 hrt (Or.inl ⟨_, rfl⟩) hv (fun t ht _ => ⟨⟨mu_ro K v, (), rfl, rfl, by show mu_Rel K G1 I1 t.heap; rw [ht]; exact hR⟩, hS.F ht⟩) hf h (hlocks := hlk)
      · rw [e1] at hrt ⊢
        exact W.aret C.1 C.2.1 hrt (Or.inr ⟨_, rfl⟩) hv (fun t ht _ => ⟨⟨mu_ro K v, (), rfl, rfl, by show mu_Rel K G1 I1 t.heap; rw [ht]; exact hR⟩, hS.F ht⟩) hf h (hlocks := hlk)
  · intro w hw
    rcases mu_pad_mem hw with h1 | h1
    · rcases mu_wide_mem hlowL h1 with h2 | h2
      · refine ⟨hok w h2, fun hlg => ?_⟩
        rcases hlow with h3 | h3
        · exact mu_low_no2 h3 w h2
        · rw [h3.2] at hlg; cases hlg
      · rw [h2]; exact ⟨trivial, fun _ => by simp⟩
    · rw [h1]; exact ⟨trivial, fun _ => by simp⟩
theorem mu_main {code : Nat → List (Nat × mu_Sem)} (hA : mu_All code) : ∀ (n d y pc : Nat) (L st : List mu_V) (G : mu_G) (I : mu_M) (v : Int) (G1 : mu_G) (I1 : mu_M), mu_run code n d y (pc, L, st) G I = some (v, G1, I1) → gz G ≤ gz G1 ∧ gu G ≤ gu G1 ∧ ∀ (q : mu_Mi), mu_mi[y]? = some q → ∀ (K : mu_K) (p : Program) (l : Launch) (e : Env) (R : Room) (s : State) (m : MethodId) (args : Array Value) (below : List Frame) (meth : Method) (c : Code) (Q : State → Prop) (z0 u0 : Int), mu_Cx K q.1.cls q.2.1 q.2.2.1 q.2.2.2 q.1.name d p R s m args meth c → (gz G1 - z0).toNat ≤ R.cells → (gu G1 - u0).toNat ≤ R.slots → mu_Ret K (mu_lng y) q.2.2.1 p l e R s m args below meth c Q z0 u0 q.2.1 q.2.2.2 v G1 I1 → mu_At K (mu_lng y) q.2.2.1 p l e R s m args below meth c Q z0 u0 pc L st G I := by
  intro n
  induction n with
  | zero => intro d y pc L st G I v G1 I1 h; cases h
  | succ n ih =>
    intro d y pc L st G I v G1 I1 h
    rw [mu_run] at h
    cases ho : mu_at (code y) pc L st G I with
    | none => rw [ho] at h; cases h
    | some sr =>
      obtain ⟨f, hin, hf⟩ := mu_at_in ho
      have hy : ∃ q, mu_mi[y]? = some q := by
        cases hq : mu_mi[y]? with
        | none => rw [hA.2.1 y hq] at hin; cases hin
        | some q => exact ⟨q, rfl⟩
      obtain ⟨q, hq⟩ := hy
      obtain ⟨hmon, hsim⟩ := hA.1 y q hq _ hin
      rw [ho] at h
      have fin : ∀ (P : Prop), (∀ (K : mu_K) (p : Program) (l : Launch) (e : Env) (R : Room) (s : State) (m : MethodId) (args : Array Value) (below : List Frame) (meth : Method) (c : Code) (Q : State → Prop) (z0 u0 : Int), mu_Cx K q.1.cls q.2.1 q.2.2.1 q.2.2.2 q.1.name d p R s m args meth c → (gz G1 - z0).toNat ≤ R.cells → (gu G1 - u0).toNat ≤ R.slots → mu_Ret K (mu_lng y) q.2.2.1 p l e R s m args below meth c Q z0 u0 q.2.1 q.2.2.2 v G1 I1 → mu_Ok K (mu_lng y) q.2.2.1 p l e R s m args below meth c Q z0 u0 q.2.1 q.2.2.2 d G I sr) → gz G ≤ gz G1 ∧ gu G ≤ gu G1 → gz G ≤ gz G1 ∧ gu G ≤ gu G1 ∧ ∀ (q : mu_Mi), mu_mi[y]? = some q → ∀ (K : mu_K) (p : Program) (l : Launch) (e : Env) (R : Room) (s : State) (m : MethodId) (args : Array Value) (below : List Frame) (meth : Method) (c : Code) (Q : State → Prop) (z0 u0 : Int), mu_Cx K q.1.cls q.2.1 q.2.2.1 q.2.2.2 q.1.name d p R s m args meth c → (gz G1 - z0).toNat ≤ R.cells → (gu G1 - u0).toNat ≤ R.slots → mu_Ret K (mu_lng y) q.2.2.1 p l e R s m args below meth c Q z0 u0 q.2.1 q.2.2.2 v G1 I1 → mu_At K (mu_lng y) q.2.2.1 p l e R s m args below meth c Q z0 u0 pc L st G I := by
        intro _ hk hz
        refine ⟨hz.1, hz.2, fun q' hq' K p l e R s m args below meth c Q z0 u0 C hc hs hret => ?_⟩
        cases hq.symm.trans hq'
        exact hsim K p l e R s m args below meth c Q z0 u0 d C L st G I sr hf (hk K p l e R s m args below meth c Q z0 u0 C hc hs hret)
      have step : ∀ (y1 mx1 : Nat) (as : List mu_V) (rty pc1 : Nat) (L1 st1 : List mu_V) (v2 : Int) (G2 : mu_G) (I2 : mu_M), d < 1000 → mu_run code n (d + 1) y1 (0, as, []) G I = some (v2, G2, I2) → mu_run code n d y (pc1, L1, mu_psh rty v2 st1) G2 I2 = some (v, G1, I1) → (gz G ≤ gz G1 ∧ gu G ≤ gu G1) ∧ ∀ (K : mu_K) (p : Program) (l : Launch) (e : Env) (R : Room) (s : State) (m : MethodId) (args : Array Value) (below : List Frame) (meth : Method) (c : Code) (Q : State → Prop) (z0 u0 : Int), mu_Cx K q.1.cls q.2.1 q.2.2.1 q.2.2.2 q.1.name d p R s m args meth c → (gz G1 - z0).toNat ≤ R.cells → (gu G1 - u0).toNat ≤ R.slots → mu_Ret K (mu_lng y) q.2.2.1 p l e R s m args below meth c Q z0 u0 q.2.1 q.2.2.2 v G1 I1 → mu_Cal K (mu_lng y) q.2.2.1 p l e R s m args below meth c Q z0 u0 d y1 mx1 as rty pc1 L1 st1 G I := by
        intro y1 mx1 as rty pc1 L1 st1 v2 G2 I2 hd h1 h2
        obtain ⟨a1, a2, a3⟩ := ih _ _ _ _ _ _ _ _ _ _ h1
        obtain ⟨b1, b2, b3⟩ := ih _ _ _ _ _ _ _ _ _ _ h2
        refine ⟨⟨by omega, by omega⟩, fun K p l e R s m args below meth c Q z0 u0 C hc hs hret => ?_⟩
        have hy0 : y1 ≠ 0 := by
          intro e0
          subst e0
          cases n with
          | zero => cases h1
          | succ n =>
            rw [mu_run, hA.2.2] at h1
            cases h1
        have hy : ∃ q, mu_mi[y1]? = some q := by
          cases hq1 : mu_mi[y1]? with
          | none =>
            cases n with
            | zero => cases h1
            | succ n =>
              rw [mu_run, hA.2.1 y1 hq1] at h1
              cases h1
          | some q => exact ⟨q, rfl⟩
        obtain ⟨q1, hq1⟩ := hy
        refine ⟨q1, v2, G2, I2, hq1, fun ra hra hmx hok hlow hlen => ?_, hd, a1, a2, by omega, by omega, b3 q hq K p l e R s m args below meth c Q z0 u0 C hc hs hret⟩
        subst hra
        refine mu_toMet hq1 hy0 (by omega) (fun p e R s m args below meth c Q z0 u0 C hc hs hret => ?_) a1 a2 hok hlow (by rw [hmx]; exact hlen)
        rw [hmx]
        have := a3 q1 hq1 K p l e R s m args below meth c Q z0 u0 C hc hs hret
        rw [hmx] at this
        exact this
      rcases sr with ⟨⟨pc1, L1, st1⟩, G2, I2⟩ | ⟨g, ⟨pc1, L1, st1⟩, G2, I2⟩ | ⟨cs, df, L1, st1⟩ | x | ⟨⟨y1, mx1⟩, as, rty, pc1, L1, st1⟩ | ⟨al, as, rty, pc1, L1, st1⟩ | x
      · obtain ⟨m1, m2⟩ := (hmon L st G I).1 _ _ _ hf
        obtain ⟨a1, a2, a3⟩ := ih _ _ _ _ _ _ _ _ _ _ h
        exact fin True (fun K p l e R s m args below meth c Q z0 u0 C hc hs hret => ⟨by omega, by omega, a3 q hq K p l e R s m args below meth c Q z0 u0 C hc hs hret⟩) ⟨by omega, by omega⟩
      · by_cases hg : g
        · have h : mu_if g (mu_run code n d y (pc1, L1, st1) G2 I2) none = some (v, G1, I1) := h
          rw [mu_if_t hg] at h
          obtain ⟨m1, m2⟩ := (hmon L st G I).2 _ _ _ _ hf hg
          obtain ⟨a1, a2, a3⟩ := ih _ _ _ _ _ _ _ _ _ _ h
          exact fin True (fun K p l e R s m args below meth c Q z0 u0 C hc hs hret => ⟨hg, by omega, by omega, a3 q hq K p l e R s m args below meth c Q z0 u0 C hc hs hret⟩) ⟨by omega, by omega⟩
        · have h : mu_if g (mu_run code n d y (pc1, L1, st1) G2 I2) none = some (v, G1, I1) := h
          rw [mu_if_f hg] at h
          cases h
      · obtain ⟨a1, a2, a3⟩ := ih _ _ _ _ _ _ _ _ _ _ h
        exact fin True (fun K p l e R s m args below meth c Q z0 u0 C hc hs hret => a3 q hq K p l e R s m args below meth c Q z0 u0 C hc hs hret) ⟨by omega, by omega⟩
      · cases h
        exact fin True (fun K p l e R s m args below meth c Q z0 u0 C hc hs hret => hret) ⟨by omega, by omega⟩
      · have h' : (bif Nat.blt d 1000 then match mu_run code n (d + 1) y1 (0, as, []) G I with
          | none => none
          | some (v, G1, I1) => mu_run code n d y (pc1, L1, mu_psh rty v st1) G1 I1 else none) = some (v, G1, I1) := h
        obtain ⟨hd, h'⟩ := mu_bif h'
        have hd2 : d < 1000 := by rw [Nat.blt_eq] at hd; exact hd
        cases hr : mu_run code n (d + 1) y1 (0, as, []) G I with
        | none => rw [hr] at h'; cases h'
        | some r =>
          obtain ⟨v2, G2, I2⟩ := r
          rw [hr] at h'
          obtain ⟨s1, s2⟩ := step y1 mx1 as rty pc1 L1 st1 v2 G2 I2 hd2 hr h'
          exact fin True s2 s1
      · cases hv : mu_vsel al with
        | none =>
          have h' : (match mu_vsel al with
            | none => none
            | some (y1, mx) => bif Nat.blt d 1000 then match mu_run code n (d + 1) y1 (0, mu_pad mx as, []) G I with
              | none => none
              | some (v, G1, I1) => mu_run code n d y (pc1, L1, mu_psh rty v st1) G1 I1 else none) = some (v, G1, I1) := h
          rw [hv] at h'
          cases h'
        | some q3 =>
          obtain ⟨y1, mx1⟩ := q3
          have h' : (match mu_vsel al with
            | none => none
            | some (y1, mx) => bif Nat.blt d 1000 then match mu_run code n (d + 1) y1 (0, mu_pad mx as, []) G I with
              | none => none
              | some (v, G1, I1) => mu_run code n d y (pc1, L1, mu_psh rty v st1) G1 I1 else none) = some (v, G1, I1) := h
          rw [hv] at h'
          obtain ⟨hd, h'⟩ := mu_bif h'
          have hd2 : d < 1000 := by rw [Nat.blt_eq] at hd; exact hd
          cases hr : mu_run code n (d + 1) y1 (0, mu_pad mx1 as, []) G I with
          | none => rw [hr] at h'; cases h'
          | some r =>
            obtain ⟨v2, G2, I2⟩ := r
            rw [hr] at h'
            obtain ⟨s1, s2⟩ := step y1 mx1 (mu_pad mx1 as) rty pc1 L1 st1 v2 G2 I2 hd2 hr h'
            exact fin True (fun K p l e R s m args below meth c Q z0 u0 C hc hs hret => ⟨y1, mx1, hv, s2 K p l e R s m args below meth c Q z0 u0 C hc hs hret⟩) s1
      · have h' : mu_if (x = 0 ∨ x = 1) (some (x, G, I)) none = some (v, G1, I1) := h
        by_cases hx : x = 0 ∨ x = 1
        · rw [mu_if_t hx] at h'
          cases h'
          exact fin True (fun K p l e R s m args below meth c Q z0 u0 C hc hs hret => ⟨hx, hret⟩) ⟨by omega, by omega⟩
        · rw [mu_if_f hx] at h'
          cases h'

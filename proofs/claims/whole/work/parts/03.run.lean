/-! RUNS of the small machine, and what holds behind one. -/
noncomputable def mu_if {α : Type} (c : Prop) (a b : α) : α := @ite α c (Classical.propDecidable c) a b
theorem mu_if_t {α : Type} {c : Prop} {a b : α} (h : c) : mu_if c a b = a := by unfold mu_if; exact if_pos h
theorem mu_if_f {α : Type} {c : Prop} {a b : α} (h : ¬ c) : mu_if c a b = b := by unfold mu_if; exact if_neg h
noncomputable def mu_sel : List (Prop × Nat) → Nat → Nat
  | [], df => df
  | (c, t) :: r, df => mu_if c t (mu_sel r df)
noncomputable def mu_vsel : mu_Al → Option (Nat × Nat)
  | [] => none
  | (c, q) :: r => mu_if c (some q) (mu_vsel r)
def mu_at : List (Nat × mu_Sem) → Nat → mu_Sem
  | [], _ => fun _ _ _ _ => none
  | (q, s) :: r, pc => bif Nat.beq q pc then s else mu_at r pc
/-- a run of at most n steps in method y at depth d (below 1000) -/
noncomputable def mu_run (code : Nat → List (Nat × mu_Sem)) : Nat → Nat → Nat → mu_Fr → mu_G → mu_M → Option mu_R
  | 0, _, _, _, _, _ => none
  | n + 1, d, y, (pc, L, st), G, I => match mu_at (code y) pc L st G I with
    | none => none
    | some (.inl (fr, G1, I1)) => mu_run code n d y fr G1 I1
    | some (.inr (.inl (c, fr, G1, I1))) => mu_if c (mu_run code n d y fr G1 I1) none
    | some (.inr (.inr (.inl (cs, df, L1, st1)))) => mu_run code n d y (mu_sel cs df, L1, st1) G I
    | some (.inr (.inr (.inr (.inl x)))) => some (x, G, I)
    | some (.inr (.inr (.inr (.inr (.inl ((y1, _), as, rty, (pc1, L1, st1))))))) => bif Nat.blt d 1000 then match mu_run code n (d + 1) y1 (0, as, []) G I with
      | none => none
      | some (v, G1, I1) => mu_run code n d y (pc1, L1, mu_psh rty v st1) G1 I1 else none
    | some (.inr (.inr (.inr (.inr (.inr (.inr x)))))) => mu_if (x = 0 ∨ x = 1) (some (x, G, I)) none
    | some (.inr (.inr (.inr (.inr (.inr (.inl (al, as, rty, (pc1, L1, st1)))))))) => match mu_vsel al with
      | none => none
      | some (y1, mx) => bif Nat.blt d 1000 then match mu_run code n (d + 1) y1 (0, mu_pad mx as, []) G I with
        | none => none
        | some (v, G1, I1) => mu_run code n d y (pc1, L1, mu_psh rty v st1) G1 I1 else none
theorem mu_mono (code : Nat → List (Nat × mu_Sem)) : ∀ (n d y : Nat) (fr : mu_Fr) (G : mu_G) (I : mu_M) (r : mu_R), mu_run code n d y fr G I = some r → mu_run code (n + 1) d y fr G I = some r := by
  intro n
  induction n with
  | zero => intro d y fr G I r h; simp [mu_run] at h
  | succ n ih =>
    intro d y fr G I r h
    obtain ⟨pc, L, st⟩ := fr
    rw [mu_run] at h ⊢
    generalize mu_at (code y) pc L st G I = o at h ⊢
    rcases o with _ | ⟨⟨fr, G1, I1⟩ | ⟨c, fr, G1, I1⟩ | ⟨cs, df, L1, st1⟩ | x | ⟨⟨y1, mx⟩, as, rty, pc1, L1, st1⟩ | ⟨al, as, rty, pc1, L1, st1⟩ | x⟩ <;> dsimp only at h ⊢
    · cases h
    · exact ih _ _ _ _ _ _ h
    · by_cases hc : c
      · rw [mu_if_t hc] at h ⊢; exact ih _ _ _ _ _ _ h
      · rw [mu_if_f hc] at h; cases h
    · exact ih _ _ _ _ _ _ h
    · exact h
    · cases hd : Nat.blt d 1000 with
      | false => rw [hd] at h; cases h
      | true =>
        rw [hd] at h
        simp only [cond_true] at h ⊢
        cases hq : mu_run code n (d + 1) y1 (0, as, []) G I with
        | none => rw [hq] at h; cases h
        | some q =>
          rw [hq] at h
          rw [ih _ _ _ _ _ _ hq]
          exact ih _ _ _ _ _ _ h
    · cases hv : mu_vsel al with
      | none => rw [hv] at h; cases h
      | some q =>
        obtain ⟨y1, mx⟩ := q
        rw [hv] at h
        dsimp only at h ⊢
        cases hd : Nat.blt d 1000 with
        | false => rw [hd] at h; cases h
        | true =>
          rw [hd] at h
          simp only [cond_true] at h ⊢
          cases hq : mu_run code n (d + 1) y1 (0, mu_pad mx as, []) G I with
          | none => rw [hq] at h; cases h
          | some q =>
            rw [hq] at h
            rw [ih _ _ _ _ _ _ hq]
            exact ih _ _ _ _ _ _ h
    · exact h
theorem mu_monoK (code : Nat → List (Nat × mu_Sem)) {n d y : Nat} {fr : mu_Fr} {G : mu_G} {I : mu_M} {r : mu_R} (h : mu_run code n d y fr G I = some r) (m : Nat) (hm : n ≤ m) : mu_run code m d y fr G I = some r := by
  obtain ⟨k, rfl⟩ : ∃ k, m = n + k := ⟨m - n, by omega⟩
  clear hm
  induction k with
  | zero => exact h
  | succ k ih => exact mu_mono code _ _ _ _ _ _ _ ih
/-- what holds behind: the run comes to an end, with Q -/
def mu_WP (code : Nat → List (Nat × mu_Sem)) (d y pc : Nat) (L st : List mu_V) (G : mu_G) (I : mu_M) (Q : Int → mu_G → mu_M → Prop) : Prop :=
  ∃ (n : Nat) (v : Int) (G1 : mu_G) (I1 : mu_M), mu_run code n d y (pc, L, st) G I = some (v, G1, I1) ∧ Q v G1 I1
section
variable {code : Nat → List (Nat × mu_Sem)} {d y pc : Nat} {L st : List mu_V} {G : mu_G} {I : mu_M} {Q Q1 : Int → mu_G → mu_M → Prop}
theorem mu_WP_imp (h : mu_WP code d y pc L st G I Q) (hq : ∀ v G1 I1, Q v G1 I1 → Q1 v G1 I1) : mu_WP code d y pc L st G I Q1 := by
  obtain ⟨n, v, G1, I1, h1, h2⟩ := h
  exact ⟨n, v, G1, I1, h1, hq _ _ _ h2⟩
theorem mu_WP_nx {pc1 : Nat} {L1 st1 : List mu_V} {G1 : mu_G} {I1 : mu_M} (e : mu_at (code y) pc L st G I = mu_nx pc1 L1 st1 G1 I1) (h : mu_WP code d y pc1 L1 st1 G1 I1 Q) : mu_WP code d y pc L st G I Q := by
  obtain ⟨n, v, G2, I2, h1, h2⟩ := h
  refine ⟨n + 1, v, G2, I2, ?_, h2⟩
  rw [mu_run, e]
  exact h1
theorem mu_WP_gd {c : Prop} {pc1 : Nat} {L1 st1 : List mu_V} {G1 : mu_G} {I1 : mu_M} (e : mu_at (code y) pc L st G I = mu_gd c pc1 L1 st1 G1 I1) (hc : c) (h : mu_WP code d y pc1 L1 st1 G1 I1 Q) : mu_WP code d y pc L st G I Q := by
  obtain ⟨n, v, G2, I2, h1, h2⟩ := h
  refine ⟨n + 1, v, G2, I2, ?_, h2⟩
  rw [mu_run, e]
  show mu_if c _ _ = _
  rw [mu_if_t hc]
  exact h1
theorem mu_WP_ms {cs : List (Prop × Nat)} {df : Nat} {L1 st1 : List mu_V} (e : mu_at (code y) pc L st G I = mu_ms cs df L1 st1) (h : mu_WP code d y (mu_sel cs df) L1 st1 G I Q) : mu_WP code d y pc L st G I Q := by
  obtain ⟨n, v, G2, I2, h1, h2⟩ := h
  refine ⟨n + 1, v, G2, I2, ?_, h2⟩
  rw [mu_run, e]
  exact h1
theorem mu_WP_rt {x : Int} (e : mu_at (code y) pc L st G I = mu_rt x) (h : Q x G I) : mu_WP code d y pc L st G I Q := by
  refine ⟨1, x, G, I, ?_, h⟩
  rw [mu_run, e]
  rfl
theorem mu_WP_rz {x : Int} (e : mu_at (code y) pc L st G I = mu_rz x) (hx : x = 0 ∨ x = 1) (h : Q x G I) : mu_WP code d y pc L st G I Q := by
  refine ⟨1, x, G, I, ?_, h⟩
  rw [mu_run, e]
  show mu_if _ _ _ = _
  rw [mu_if_t hx]
theorem mu_WP_cl {y1 mx rty pc1 : Nat} {as L1 st1 : List mu_V} (hd : d < 1000) (e : mu_at (code y) pc L st G I = mu_cl y1 mx as rty pc1 L1 st1) (h : mu_WP code (d + 1) y1 0 as [] G I (fun v G1 I1 => mu_WP code d y pc1 L1 (mu_psh rty v st1) G1 I1 Q)) : mu_WP code d y pc L st G I Q := by
  obtain ⟨n, v, G1, I1, h1, m, w, G2, I2, h2, h3⟩ := h
  refine ⟨n + m + 1, w, G2, I2, ?_, h3⟩
  rw [mu_run, e]
  show (bif Nat.blt d 1000 then _ else _) = _
  rw [show Nat.blt d 1000 = true from by rw [Nat.blt_eq]; exact hd]
  simp only [cond_true]
  rw [mu_monoK code h1 (n + m) (by omega)]
  exact mu_monoK code h2 _ (by omega)
theorem mu_WP_vc {al : mu_Al} {y1 mx rty pc1 : Nat} {as L1 st1 : List mu_V} (hd : d < 1000) (e : mu_at (code y) pc L st G I = mu_vc al as rty pc1 L1 st1) (hv : mu_vsel al = some (y1, mx)) (h : mu_WP code (d + 1) y1 0 (mu_pad mx as) [] G I (fun v G1 I1 => mu_WP code d y pc1 L1 (mu_psh rty v st1) G1 I1 Q)) : mu_WP code d y pc L st G I Q := by
  obtain ⟨n, v, G1, I1, h1, m, w, G2, I2, h2, h3⟩ := h
  refine ⟨n + m + 1, w, G2, I2, ?_, h3⟩
  rw [mu_run, e]
  simp only [mu_vc, hv]
  rw [show Nat.blt d 1000 = true from by rw [Nat.blt_eq]; exact hd]
  simp only [cond_true]
  rw [mu_monoK code h1 (n + m) (by omega)]
  exact mu_monoK code h2 _ (by omega)
end
/-- by cases -/
def mu_wms : List (Prop × Nat) → Nat → (Nat → Prop) → Prop
  | [], df, k => k df
  | (c, t) :: r, df, k => (c → k t) ∧ (¬ c → mu_wms r df k)
def mu_wvc : mu_Al → (Nat → Nat → Prop) → Prop
  | [], _ => False
  | [(c, y, mx)], k => c ∧ k y mx
  | (c, y, mx) :: r, k => (c → k y mx) ∧ (¬ c → mu_wvc r k)
theorem mu_wms_sel {k : Nat → Prop} : ∀ {cs : List (Prop × Nat)} {df : Nat}, mu_wms cs df k → k (mu_sel cs df)
  | [], _, h => h
  | (c, t) :: r, df, h => by
    by_cases hc : c
    · rw [mu_sel, mu_if_t hc]; exact h.1 hc
    · rw [mu_sel, mu_if_f hc]; exact mu_wms_sel (h.2 hc)
theorem mu_wvc_sel {k : Nat → Nat → Prop} : ∀ {al : mu_Al}, mu_wvc al k → ∃ y mx, mu_vsel al = some (y, mx) ∧ k y mx
  | [], h => h.elim
  | [(c, y, mx)], h => ⟨y, mx, by rw [mu_vsel, mu_if_t h.1], h.2⟩
  | (c, y, mx) :: q :: r, h => by
    by_cases hc : c
    · exact ⟨y, mx, by rw [mu_vsel, mu_if_t hc], h.1 hc⟩
    · obtain ⟨y1, m1, h1, h2⟩ := mu_wvc_sel (al := q :: r) (h.2 hc)
      exact ⟨y1, m1, by rw [mu_vsel, mu_if_f hc]; exact h1, h2⟩
theorem mu_wms_imp {k k1 : Nat → Prop} (hk : ∀ t, k t → k1 t) : ∀ {cs : List (Prop × Nat)} {df : Nat}, mu_wms cs df k → mu_wms cs df k1
  | [], _, h => hk _ h
  | (_, _) :: _, _, h => ⟨fun hc => hk _ (h.1 hc), fun hc => mu_wms_imp hk (h.2 hc)⟩
def mu_mem : List Nat → Nat → Bool
  | [], _ => false
  | k :: r, n => bif Nat.beq k n then true else mu_mem r n
/-- the text of a method from one place on, up to the places sp, in one formula -/
def mu_blk (code : Nat → List (Nat × mu_Sem)) (cd : List (Nat × mu_Sem)) (sp : List Nat) (d y : Nat) (Q : Int → mu_G → mu_M → Prop) : Nat → Nat → List mu_V → List mu_V → mu_G → mu_M → Prop
  | 0, pc, L, st, G, I => mu_WP code d y pc L st G I Q
  | n + 1, pc, L, st, G, I => match mu_at cd pc L st G I with
    | none => False
    | some (.inl ((pc1, L1, st1), G1, I1)) => bif mu_mem sp pc1 then mu_WP code d y pc1 L1 st1 G1 I1 Q else mu_blk code cd sp d y Q n pc1 L1 st1 G1 I1
    | some (.inr (.inl (c, (pc1, L1, st1), G1, I1))) => c ∧ bif mu_mem sp pc1 then mu_WP code d y pc1 L1 st1 G1 I1 Q else mu_blk code cd sp d y Q n pc1 L1 st1 G1 I1
    | some (.inr (.inr (.inl (cs, df, L1, st1)))) => mu_wms cs df (fun pc1 => bif mu_mem sp pc1 then mu_WP code d y pc1 L1 st1 G I Q else mu_blk code cd sp d y Q n pc1 L1 st1 G I)
    | some (.inr (.inr (.inr (.inl x)))) => Q x G I
    | some (.inr (.inr (.inr (.inr (.inl ((y1, _), as, rty, (pc1, L1, st1))))))) => mu_WP code (d + 1) y1 0 as [] G I (fun v G1 I1 => bif mu_mem sp pc1 then mu_WP code d y pc1 L1 (mu_psh rty v st1) G1 I1 Q else mu_blk code cd sp d y Q n pc1 L1 (mu_psh rty v st1) G1 I1)
    | some (.inr (.inr (.inr (.inr (.inr (.inr x)))))) => (x = 0 ∨ x = 1) ∧ Q x G I
    | some (.inr (.inr (.inr (.inr (.inr (.inl (al, as, rty, (pc1, L1, st1)))))))) => mu_wvc al (fun y1 mx => mu_WP code (d + 1) y1 0 (mu_pad mx as) [] G I (fun v G1 I1 => bif mu_mem sp pc1 then mu_WP code d y pc1 L1 (mu_psh rty v st1) G1 I1 Q else mu_blk code cd sp d y Q n pc1 L1 (mu_psh rty v st1) G1 I1))
theorem mu_blk_ok {code : Nat → List (Nat × mu_Sem)} {cd : List (Nat × mu_Sem)} {sp : List Nat} {d y : Nat} {Q : Int → mu_G → mu_M → Prop} (hc : code y = cd) (hd : d < 1000) : ∀ (n pc : Nat) (L st : List mu_V) (G : mu_G) (I : mu_M), mu_blk code cd sp d y Q n pc L st G I → mu_WP code d y pc L st G I Q := by
  intro n
  induction n with
  | zero => intro pc L st G I h; exact h
  | succ n ih =>
    intro pc L st G I h
    have key : ∀ pc1 L1 st1 G1 I1, (bif mu_mem sp pc1 then mu_WP code d y pc1 L1 st1 G1 I1 Q else mu_blk code cd sp d y Q n pc1 L1 st1 G1 I1) → mu_WP code d y pc1 L1 st1 G1 I1 Q := by
      intro pc1 L1 st1 G1 I1 h
      cases hm : mu_mem sp pc1 with
      | true => rw [hm] at h; exact h
      | false => rw [hm] at h; exact ih _ _ _ _ _ h
    rw [mu_blk] at h
    have e : mu_at (code y) pc L st G I = mu_at cd pc L st G I := by rw [hc]
    revert h e
    generalize mu_at cd pc L st G I = o
    rcases o with _ | ⟨⟨⟨pc1, L1, st1⟩, G1, I1⟩ | ⟨c, ⟨pc1, L1, st1⟩, G1, I1⟩ | ⟨cs, df, L1, st1⟩ | x | ⟨⟨y1, mx⟩, as, rty, pc1, L1, st1⟩ | ⟨al, as, rty, pc1, L1, st1⟩ | x⟩
    · intro h e; exact h.elim
    · intro h e; exact mu_WP_nx e (key _ _ _ _ _ h)
    · intro h e; exact mu_WP_gd e h.1 (key _ _ _ _ _ h.2)
    · intro h e
      have h2 := mu_wms_sel h
      exact mu_WP_ms e (key _ _ _ _ _ h2)
    · intro h e; exact mu_WP_rt e h
    · intro h e; exact mu_WP_cl hd e (mu_WP_imp h fun v G1 I1 h1 => key _ _ _ _ _ h1)
    · intro h e
      obtain ⟨y1, mx, h1, h2⟩ := mu_wvc_sel h
      exact mu_WP_vc hd e h1 (mu_WP_imp h2 fun v G1 I1 h1 => key _ _ _ _ _ h1)
    · intro h e; exact mu_WP_rz e h.1 h.2

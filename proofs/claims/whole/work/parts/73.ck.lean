/-! THE CLASS'S OBJECT: where all stands; its rows -/
def GS (G : mu_G) : Prop := (sh G 0 = (11, 0) ∧ rf G 0 0 = 1 ∧ rf G 0 1 = 3 ∧ rf G 0 2 = 5 ∧ rf G 0 3 = 7 ∧ rf G 0 4 = 9 ∧ rf G 0 5 = 16 ∧ rf G 0 6 = 47 ∧ rf G 0 8 = 78 ∧ rf G 0 9 = 80 ∧ rf G 0 10 = 82 ∧ rf G 0 11 = 84) ∧ (GO G 1 100 ∧ GO G 3 6 ∧ GO G 5 8 ∧ GO G 7 20) ∧ GL G 9 ∧ GW G 16 ∧ GW G 47 ∧ (GO G 78 100 ∧ GO G 80 6 ∧ GO G 82 8) ∧ GW G 84 ∧ MR G ∧ sh G (-3) = (100, 18) ∧ 127 ≤ gz G ∧ ∀ a, gz G ≤ a → sh G a = (-1, 0)
theorem GO.k {w a n : Int} {G G1 : mu_G} (h : GO G a n) (hk : GK w G G1) : GO G1 a n := ⟨by rw [hk.1]; exact h.1, by rw [hk.2.2.2 _ _ (by omega)]; exact h.2.1, by rw [hk.1]; exact h.2.2⟩
theorem GS.k {w : Int} {G G1 : mu_G} (h : GS G) (hk : GK w G G1) (hw : w = 16 ∨ w = 47 ∨ w = 84) : GS G1 := by
  obtain ⟨⟨a0, a1, a2, a3, a4, a5, a6, a7, a8, a9, a10, a11⟩, ⟨b1, b2, b3, b4⟩, c1, c2, c3, ⟨d1, d2, d3⟩, c4, m, o⟩ := h
  refine ⟨⟨by rw [hk.1]; exact a0, ?_, ?_, ?_, ?_, ?_, ?_, ?_, ?_, ?_, ?_, ?_⟩, ⟨b1.k hk, b2.k hk, b3.k hk, b4.k hk⟩, c1.k hk (by omega), c2.k hk (by omega), c3.k hk (by omega), ⟨d1.k hk, d2.k hk, d3.k hk⟩, c4.k hk (by omega), ?_, by rw [hk.1]; exact o.1, by rw [hk.2.1]; exact o.2.1, fun a ha => by rw [hk.1]; exact o.2.2 a (by rw [← hk.2.1]; exact ha)⟩
  · rw [hk.2.2.2 _ _ (by omega)]; exact a1
  · rw [hk.2.2.2 _ _ (by omega)]; exact a2
  · rw [hk.2.2.2 _ _ (by omega)]; exact a3
  · rw [hk.2.2.2 _ _ (by omega)]; exact a4
  · rw [hk.2.2.2 _ _ (by omega)]; exact a5
  · rw [hk.2.2.2 _ _ (by omega)]; exact a6
  · rw [hk.2.2.2 _ _ (by omega)]; exact a7
  · rw [hk.2.2.2 _ _ (by omega)]; exact a8
  · rw [hk.2.2.2 _ _ (by omega)]; exact a9
  · rw [hk.2.2.2 _ _ (by omega)]; exact a10
  · rw [hk.2.2.2 _ _ (by omega)]; exact a11
  · have r : ∀ j, rf G1 115 j = rf G 115 j := fun j => hk.2.2.2 _ _ (by omega)
    unfold MR at m ⊢
    simp only [r, hk.1]
    exact m
/-- rows: so many numbers -/
def RS (I : mu_M) (a n : Int) (f : Row) : Prop := (I a 1 = n ∧ I a 2 = n) ∧ ∀ k, 0 ≤ k → k < n → I (a + 1) k = f k
theorem RS.keep {I I1 : mu_M} {a n : Int} {f : Row} (h : RS I a n f) (h0 : I1 a = I a) (h1 : I1 (a + 1) = I (a + 1)) : RS I1 a n f := ⟨⟨by rw [h0]; exact h.1.1, by rw [h0]; exact h.1.2⟩, fun k k0 k1 => by rw [h1]; exact h.2 k k0 k1⟩
theorem RS.same {I : mu_M} {a n m : Int} {f g : Row} (h : RS I a n f) (hm : m = n) (hg : ∀ k, 0 ≤ k → k < n → g k = f k) : RS I a m g := ⟨⟨by rw [hm]; exact h.1.1, by rw [hm]; exact h.1.2⟩, fun k k0 k1 => by rw [hg k k0 (by omega)]; exact h.2 k k0 (by omega)⟩
/-- all but the rows at a -/
def FO (a : Int) (I I1 : mu_M) : Prop := ∀ b, (b < a ∨ a + 2 ≤ b) → I1 b = I b
theorem FO.tr {a : Int} {I I1 I2 : mu_M} (h : FO a I I1) (h2 : FO a I1 I2) : FO a I I2 := fun b hb => by rw [h2 b hb, h b hb]
section
variable {d : Nat} {G : mu_G} {I : mu_M} {Q : Int → mu_G → mu_M → Prop} {a n c : Int} {f : Row}
theorem k_isFull (hd : d < 990) (hG : GO G a c) (hR : RS I a n f) (h : Q (if n < c then 0 else 1) G I) : mu_WP mu_code d 48 0 [(1, a)] [] G I Q := by
  refine vc_48_0 (by omega) _ ?_
  rw [hG.2.1, hG.2.2, hR.1.1]
  refine ⟨hG.1, rfl, fun h1 => ?_, fun h1 => ?_⟩
  · rw [if_pos h1] at h; exact h
  · rw [if_neg h1] at h; exact h
theorem k_itemAt (hd : d < 990) (hG : GO G a c) (hR : RS I a n f) (hn : n ≤ c) (k : Int) (h : Q (if 0 ≤ k ∧ k < n then f k else -1) G I) : mu_WP mu_code d 50 0 [(1, a), (0, k)] [] G I Q := by
  refine vc_50_0 (by omega) _ _ ⟨fun h1 => ?_, fun h1 => ⟨hG.1, ?_⟩⟩
  · rw [if_neg (by omega)] at h; exact h
  · rw [hG.2.1, hG.2.2, hR.1.1]
    refine ⟨fun h2 => ⟨rfl, fun _ => ⟨⟨rfl, by omega, by dsimp only; omega⟩, ?_⟩, fun h3 => absurd (show k < c by omega) h3⟩, fun h2 => ?_⟩
    · rw [if_pos (by omega)] at h
      rw [hR.2 k (by omega) h2]; exact h
    · rw [if_neg (by omega)] at h; exact h
theorem k_clear (hd : d < 990) (hG : GO G a c) (h : ∀ I1, FO a I I1 → RS I1 a 0 f → Q 0 G I1) : mu_WP mu_code d 51 0 [(1, a)] [] G I Q := by
  refine vc_51_0 (by omega) _ ⟨hG.1, ?_⟩
  intro I1 q1 I2 q2
  refine h I2 (fun b hb => by rw [q2, set_off _ (by omega), q1, set_off _ (by omega)]) ⟨⟨?_, ?_⟩, fun k k0 k1 => by omega⟩
  · rw [q2, set_row, upR_ne _ (by decide), q1, set_row, upR_same]
  · rw [q2, set_row, upR_same]
theorem k_add (hd : d < 990) (ha : 0 ≤ a) (hG : GO G a c) (hR : RS I a n f) (hn : 0 ≤ n ∧ n < c ∧ c ≤ 1000) (x : Int) (h : ∀ I1, FO a I I1 → RS I1 a (n + 1) (fun k => if k = n then x else f k) → Q 0 G I1) : mu_WP mu_code d 49 0 [(1, a), (0, x)] [] G I Q := by
  refine vc_49_0 (by omega) _ _ ⟨hG.1, ?_⟩
  intro I2 q2
  rw [hR.1.2, wr_id (x := n + 1) (by omega) (by omega)] at q2
  have e1 : I2 a 1 = n := by rw [q2, set_row, upR_ne _ (by decide)]; exact hR.1.1
  rw [e1, hG.2.1, hG.2.2]
  refine ⟨fun h1 => absurd h1 (by omega), fun _ => ⟨rfl, fun _ => ⟨⟨by omega, rfl, by omega, by dsimp only; omega⟩, ?_⟩, fun h1 => absurd (show n < c by omega) h1⟩⟩
  intro I7 q7 I10 q10
  have e7 : I7 a 1 = n := by rw [q7, set_off _ (by omega)]; exact e1
  rw [e7, wr_id (x := n + 1) (by omega) (by omega)] at q10
  refine h I10 (fun b hb => by rw [q10, set_off _ (by omega), q7, set_off _ (by omega), q2, set_off _ (by omega)]) ⟨⟨by rw [q10, set_row, upR_same], ?_⟩, ?_⟩
  · rw [q10, set_row, upR_ne _ (by decide), q7, set_off _ (by omega), q2, set_row, upR_same]
  · intro k k0 k1
    rw [q10, set_off _ (by omega), q7, set_row, upR_at]
    dsimp only
    by_cases hk : k = n
    · rw [if_pos hk, if_pos hk]
    · rw [if_neg hk, if_neg hk, q2, set_off _ (by omega)]
      exact hR.2 k k0 (by omega)
theorem k_rowsCopy (hd : d < 980) {b : Int} (ha : 0 ≤ a) (hb : 0 ≤ b) (hab : a + 2 ≤ b ∨ b + 2 ≤ a) (hG : GO G a c) (hG2 : GO G b c) (hR : RS I b n f) (hn : 0 ≤ n ∧ n ≤ c ∧ c ≤ 900) (h : ∀ I1, FO a I I1 → RS I1 a n f → Q 0 G I1) : mu_WP mu_code d 52 0 [(1, a), (1, b), (3, 0)] [] G I Q := by
  refine vc_52_0 (by omega) _ _ ⟨hG.1, k_clear (by omega) (f := f) hG ?_⟩
  intro I1 f1 r1
  suffices H : ∀ (m : Nat) (k : Int) (I2 : mu_M), k + m = n → 0 ≤ k → FO a I I2 → RS I2 a k f → mu_WP mu_code d 52 6 [(1, a), (1, b), (0, k)] [] G I2 Q from
    H n.toNat 0 I1 (by omega) (by omega) f1 r1
  intro m
  induction m with
  | zero =>
    intro k I2 hk k0 hf hr
    have o1 : I2 b 1 = n := by rw [hf b (by omega)]; exact hR.1.1
    refine vc_52_6 (by omega) _ _ _ ⟨hG2.1, fun h1 => absurd h1 (by omega), fun _ => ?_⟩
    have hkn : k = n := by omega
    subst hkn
    exact h I2 hf hr
  | succ m ih =>
    intro k I2 hk k0 hf hr
    have rb : RS I2 b n f := hR.keep (hf b (by omega)) (hf (b + 1) (by omega))
    refine vc_52_6 (by omega) _ _ _ ⟨hG2.1, fun _ => k_itemAt (by omega) hG2 rb (by omega) k ⟨hG.1, ?_⟩, fun h1 => absurd (by rw [rb.1.1]; omega) h1⟩
    rw [if_pos ⟨k0, by omega⟩]
    refine k_add (by omega) ha hG hr (by omega) _ ?_
    intro I3 f3 r3
    rw [wr_id (x := k + 1) (by omega) (by omega)]
    refine ih (k + 1) I3 (by omega) (by omega) (hf.tr f3) (r3.same rfl (fun j j0 j1 => ?_))
    by_cases hj : j = k
    · rw [if_pos hj, hj]
    · rw [if_neg hj]
end
/-- a row of the book in one number -/
def bkF (S : Row) : Row := fun k => S (79 + k) * 4096 + S (87 + k) * 64 + S (95 + k)
/-- the class's object says what the row S says; the trace is L -/
def CX (G : mu_G) (I : mu_M) (S : Row) (L : List Int) : Prop := CW G I 16 S ∧ NW I 47 ∧ NW I 84 ∧ RS I 1 (S 41) (fun k => S (167 + k)) ∧ RS I 3 (S 39) (fun k => S (73 + k)) ∧ RS I 5 (S 40) (bkF S) ∧ RS I 7 L.length (fun k => L.getD k.toNat 0) ∧ I 0 7 = S 38
/-- its image says what the row M says -/
def CI (G : mu_G) (I : mu_M) (M : Row) : Prop := CW G I 84 M ∧ RS I 78 (M 41) (fun k => M (167 + k)) ∧ RS I 80 (M 39) (fun k => M (73 + k)) ∧ RS I 82 (M 40) (bkF M) ∧ I 0 12 = M 38
/-- all that holds of a row of the reference between calls -/
def OkS (S : Row) : Prop := Inv S ∧ LW S ∧ Dst S ∧ S 0 ≤ 999 ∧ (∀ p, 0 ≤ p → p < S 37 → S (103 + S (53 + p)) = 0) ∧ (0 ≤ S 38 ∧ S 38 ≤ 5 ∧ S 42 < S 38) ∧ (0 ≤ S 39 ∧ S 39 ≤ 6) ∧ (0 ≤ S 40 ∧ S 40 ≤ 8) ∧ (0 ≤ S 41 ∧ S 41 ≤ 100) ∧ (∀ k, 0 ≤ k → k < S 41 → 0 ≤ S (167 + k) ∧ S (167 + k) ≤ 127) ∧ ∀ k, 0 ≤ k → k < S 40 → (0 ≤ S (79 + k) ∧ S (79 + k) < 4) ∧ (0 ≤ S (87 + k) ∧ S (87 + k) ≤ 60) ∧ 0 ≤ S (95 + k) ∧ S (95 + k) < 64
theorem OkS.wd {S : Row} (h : OkS S) : WD S 1000 := ⟨h.1, h.2.1, by have := h.2.2.2.1; omega⟩

/-! THE CLASS'S WORLDS: one is copied into another -/
def NW (I : mu_M) (w : Int) : Prop := ∀ i, 0 ≤ i → i < 4 → I (w + 11 + 5 * i) 0 = i
section
variable {d : Nat} {G : mu_G} {I : mu_M} {Q : Int → mu_G → mu_M → Prop} {w : Int} {S : Row}
theorem k_personCopy (hd : d < 980) {a b : Int} (ha : GP G a) (hb : GP G b) (h0 : 0 ≤ a ∧ 0 ≤ b) (hab : a + 5 ≤ b ∨ b + 5 ≤ a) (h : ∀ I1 : mu_M, (∀ c, (c < a ∨ a + 5 ≤ c) → I1 c = I c) → I1 a 0 = I a 0 → (∀ j, 2 ≤ j → j ≤ 6 → I1 a j = I b j) → (∀ k, 0 ≤ k → k < 4 → I1 (a + 2) k = I (b + 2) k) → (∀ k, 0 ≤ k → k < 3 → I1 (a + 3) k = I (b + 3) k ∧ I1 (a + 4) k = I (b + 4) k) → Q 0 (mu_grf G a 1 (rf G b 1)) I1) : mu_WP mu_code d 34 0 [(1, a), (1, b)] [] G I Q := by
  obtain ⟨a1, a2, a3, a4, a5, a6, a7⟩ := ha
  obtain ⟨b1, b2, b3, b4, b5, b6, b7⟩ := hb
  refine vc_34_0 (by omega) _ _ ⟨b1, a1, ?_⟩
  intro G2 e2
  subst e2
  have s1 : ∀ c, sh (mu_grf G a 1 (rf G b 1)) c = sh G c := fun c => sh_grf G a 1 _ c
  have r1 : ∀ c j, j ≠ 1 → rf (mu_grf G a 1 (rf G b 1)) c j = rf G c j := fun c j hj => by rw [rf_grf, if_neg (by omega)]
  simp only [s1, r1 a 7 (by decide), r1 a 8 (by decide), r1 a 9 (by decide), r1 b 7 (by decide), r1 b 8 (by decide), r1 b 9 (by decide), a2, a3, a4, a5, a6, a7, b2, b3, b4, b5, b6, b7]
  refine ⟨b1, a1, ?_⟩
  intro I2 q2 I3 q3 I4 q4 I5 q5 I6 q6
  refine ⟨⟨by omega, by omega, trivial, trivial, by omega, by omega⟩, ?_⟩
  intro I7 q7
  refine ⟨⟨by omega, by omega, trivial, trivial, by omega, by omega⟩, ?_⟩
  intro I8 q8
  refine ⟨⟨by omega, by omega, trivial, trivial, by omega, by omega⟩, ?_⟩
  intro I9 q9
  have hba : b ≠ a := by omega
  have r6 : ∀ c j, I6 c j = if c = a ∧ 2 ≤ j ∧ j ≤ 6 then I b j else I c j := by
    intro c j
    rw [q6, q5, q4, q3, q2]
    simp only [mu_set_at]
    rw [if_neg (show ¬ (b = a ∧ (6 : Int) = 5) by omega), if_neg (show ¬ (b = a ∧ (6 : Int) = 4) by omega), if_neg (show ¬ (b = a ∧ (6 : Int) = 3) by omega), if_neg (show ¬ (b = a ∧ (6 : Int) = 2) by omega), if_neg (show ¬ (b = a ∧ (5 : Int) = 4) by omega), if_neg (show ¬ (b = a ∧ (5 : Int) = 3) by omega), if_neg (show ¬ (b = a ∧ (5 : Int) = 2) by omega), if_neg (show ¬ (b = a ∧ (4 : Int) = 3) by omega), if_neg (show ¬ (b = a ∧ (4 : Int) = 2) by omega), if_neg (show ¬ (b = a ∧ (3 : Int) = 2) by omega)]
    by_cases c6 : c = a ∧ j = 6
    · rw [if_pos c6, if_pos (by omega), c6.2]
    · rw [if_neg c6]
      by_cases c5 : c = a ∧ j = 5
      · rw [if_pos c5, if_pos (by omega), c5.2]
      · rw [if_neg c5]
        by_cases c4 : c = a ∧ j = 4
        · rw [if_pos c4, if_pos (by omega), c4.2]
        · rw [if_neg c4]
          by_cases c3 : c = a ∧ j = 3
          · rw [if_pos c3, if_pos (by omega), c3.2]
          · rw [if_neg c3]
            by_cases c2 : c = a ∧ j = 2
            · rw [if_pos c2, if_pos (by omega), c2.2]
            · rw [if_neg c2, if_neg (by omega)]
  clear q2 q3 q4 q5 q6
  have r9 : ∀ c j, I9 c j = if c = a + 4 ∧ 0 ≤ j ∧ j < 3 then I (b + 4) j else if c = a + 3 ∧ 0 ≤ j ∧ j < 3 then I (b + 3) j else if c = a + 2 ∧ 0 ≤ j ∧ j < 4 then I (b + 2) j else if c = a ∧ 2 ≤ j ∧ j ≤ 6 then I b j else I c j := by
    intro c j
    rw [q9, cpy_at, q8, cpy_at, cpy_at, q7, cpy_at, cpy_at, cpy_at]
    simp only [r6]
    rw [if_neg (show ¬ (b + 4 = a + 3 ∧ 0 ≤ j ∧ j < 3) by omega), if_neg (show ¬ (b + 4 = a + 2 ∧ 0 ≤ j ∧ j < 4) by omega), if_neg (show ¬ (b + 4 = a ∧ 2 ≤ j ∧ j ≤ 6) by omega), if_neg (show ¬ (b + 3 = a + 2 ∧ 0 ≤ j ∧ j < 4) by omega), if_neg (show ¬ (b + 3 = a ∧ 2 ≤ j ∧ j ≤ 6) by omega), if_neg (show ¬ (b + 2 = a ∧ 2 ≤ j ∧ j ≤ 6) by omega)]
  clear q7 q8 q9 r6
  refine h I9 ?_ ?_ ?_ ?_ ?_
  · intro c hc
    funext j
    rw [r9, if_neg (by omega), if_neg (by omega), if_neg (by omega), if_neg (by omega)]
  · rw [r9, if_neg (by omega), if_neg (by omega), if_neg (by omega), if_neg (by omega)]
  · intro j j2 j6
    rw [r9, if_neg (by omega), if_neg (by omega), if_neg (by omega), if_pos ⟨rfl, j2, j6⟩]
  · intro k k0 k1
    rw [r9, if_neg (by omega), if_neg (by omega), if_pos ⟨rfl, k0, k1⟩]
  · intro k k0 k1
    refine ⟨?_, ?_⟩
    · rw [r9, if_neg (by omega), if_pos ⟨rfl, k0, k1⟩]
    · rw [r9, if_pos ⟨rfl, k0, k1⟩]
theorem k_wallsCopy (hd : d < 970) {v : Int} (hG : GW G w) (hG2 : GW G v) (hwv : w + 31 ≤ v ∨ v + 31 ≤ w) (h01 : ∀ c, 0 ≤ c → c < 64 → I (v + 8) c = 0 ∨ I (v + 8) c = 1) (h : ∀ I1 : mu_M, (∀ b, b ≠ w + 8 → I1 b = I b) → (∀ c, 0 ≤ c → c < 64 → I1 (w + 8) c = I (v + 8) c) → mu_WP mu_code d 94 71 [(1, w), (1, v), (0, 0)] [] G I1 Q) : mu_WP mu_code d 94 45 [(1, w), (1, v), (0, 0)] [] G I Q := by
  suffices H : ∀ (n : Nat) (k : Int) (I2 : mu_M), k + n = 64 → 0 ≤ k → (∀ b, b ≠ w + 8 → I2 b = I b) → (∀ c, 0 ≤ c → c < k → I2 (w + 8) c = I (v + 8) c) → mu_WP mu_code d 94 45 [(1, w), (1, v), (0, k)] [] G I2 Q from
    H 64 0 I (by omega) (by omega) (fun _ _ => rfl) (fun c c0 c1 => by omega)
  intro n
  induction n with
  | zero =>
    intro k I2 hk k0 o e
    exact vc_94_45 (by omega) _ _ _ ⟨fun h1 => absurd h1 (by omega), fun _ => h I2 o (fun c c0 c1 => e c c0 (by omega))⟩
  | succ n ih =>
    intro k I2 hk k0 o e
    refine vc_94_45 (by omega) _ _ _ ⟨fun _ => ?_, fun h1 => absurd (by omega) h1⟩
    simp only [hG.2.2.1, hG2.2.2.1, hG.2.2.2.2.2.2.1, hG2.2.2.2.2.2.2.1]
    rw [wr_id (x := k + 1) (by omega) (by omega)]
    have ov : I2 (v + 8) = I (v + 8) := o _ (by omega)
    refine ⟨hG.1, hG2.1, ⟨trivial, k0, by omega⟩, ⟨trivial, k0, by omega, by rw [ov]; exact h01 k k0 (by omega)⟩, ?_⟩
    intro I5 q5
    refine ih (k + 1) I5 (by omega) (by omega) (fun b hb => ?_) (fun c c0 c1 => ?_)
    · funext j
      rw [q5, mu_set_at, if_neg (fun z => hb z.1), o b hb]
    · rw [q5, mu_set_at]
      by_cases hc : c = k
      · rw [if_pos ⟨rfl, hc⟩, ov, hc]
      · rw [if_neg (fun z => hc z.2)]
        exact e c c0 (by omega)
theorem k_worldCopy (hd : d < 970) {v : Int} (hG : GW G w) (hG2 : GW G v) (hw : 0 ≤ w ∧ w + 31 ≤ 115) (hv : 0 ≤ v ∧ v + 31 ≤ 115) (hwv : w + 31 ≤ v ∨ v + 31 ≤ w) (hC : CW G I v S) (hI : Inv S) (hn : NW I w) (h : ∀ G1 I1, GK w G G1 → FW w I I1 → CW G1 I1 w S → CW G1 I1 v S → Q 0 G1 I1) : mu_WP mu_code d 94 0 [(1, w), (1, v), (3, 0)] [] G I Q := by
  obtain ⟨⟨c1, c2, c3, c4, c5⟩, ⟨cls, hl, hA⟩, cn, cp⟩ := id hC
  have h4 := hI.2.1
  refine vc_94_0 (by omega) _ _ ⟨hG.1, hG2.1, ?_⟩
  rw [hG.2.1, hG2.2.1]
  refine ⟨hG.2.2.2.2.2.1.1, k_lawCopy (by omega) hG.2.2.2.2.2.1 hG2.2.2.2.2.2.1 (by omega) (by omega) hA ?_⟩
  intro I1 f1 A1
  refine ⟨hG2.1, hG.1, ?_⟩
  intro Ia qa Ib qb Ic qc Id qd
  have hvw : v ≠ w := by omega
  -- what stands after the plain fields
  have rd : ∀ b j, Id b j = if b = w ∧ j = 6 then I1 v 6 else if b = w ∧ j = 5 then I1 v 5 else if b = w ∧ j = 2 then I1 v 2 else if b = w ∧ j = 1 then I1 v 1 else I1 b j := by
    intro b j
    rw [qd, qc, qb, qa]
    simp only [mu_set_at]
    rw [if_neg (show ¬ (v = w ∧ (6 : Int) = 5) by omega), if_neg (show ¬ (v = w ∧ (6 : Int) = 2) by omega), if_neg (show ¬ (v = w ∧ (6 : Int) = 1) by omega), if_neg (show ¬ (v = w ∧ (5 : Int) = 2) by omega), if_neg (show ¬ (v = w ∧ (5 : Int) = 1) by omega), if_neg (show ¬ (v = w ∧ (2 : Int) = 1) by omega)]
  clear qa qb qc qd
  have rv : ∀ j, Id (v + 8) j = I1 (v + 8) j := fun j => by rw [rd, if_neg (by omega), if_neg (by omega), if_neg (by omega), if_neg (by omega)]
  refine k_wallsCopy (by omega) hG hG2 hwv (fun c c0 c1 => ?_) ?_
  · rw [rv, f1 (v + 8) (by omega), c5 c c0 c1]
    exact hI.2.2.2.2.2 c c0 c1
  intro Ie oe we8
  -- what stands after the walls
  have r : ∀ b j, (b ≠ w + 8 ∨ (0 ≤ j ∧ j < 64)) → Ie b j = if b = w + 8 ∧ 0 ≤ j ∧ j < 64 then I1 (v + 8) j else if b = w ∧ j = 6 then I1 v 6 else if b = w ∧ j = 5 then I1 v 5 else if b = w ∧ j = 2 then I1 v 2 else if b = w ∧ j = 1 then I1 v 1 else I1 b j := by
    intro b j hbj
    by_cases hb : b = w + 8
    · rw [if_pos (by omega), hb, we8 j (by omega) (by omega), rv]
    · rw [if_neg (by omega), oe b hb, rd]
  clear rd rv oe we8
  have fe : FW w I Ie := by
    intro b hb
    funext j
    rw [r b j (by omega), if_neg (by omega), if_neg (by omega), if_neg (by omega), if_neg (by omega), if_neg (by omega), f1 b (by omega)]
  have i1v : I1 v = I v := f1 v (by omega)
  have we : WA Ie w S := by
    refine ⟨?_, ?_, ?_, ?_, ?_⟩
    · rw [r w 1 (by omega), if_neg (by omega), if_neg (by omega), if_neg (by omega), if_neg (by omega), if_pos ⟨rfl, rfl⟩, i1v]; exact c1
    · rw [r w 2 (by omega), if_neg (by omega), if_neg (by omega), if_neg (by omega), if_pos ⟨rfl, rfl⟩, i1v]; exact c2
    · rw [r w 5 (by omega), if_neg (by omega), if_neg (by omega), if_pos ⟨rfl, rfl⟩, i1v]; exact c3
    · rw [r w 6 (by omega), if_neg (by omega), if_pos ⟨rfl, rfl⟩, i1v]; exact c4
    · intro c c0 c64
      rw [r (w + 8) c (by omega), if_pos ⟨rfl, c0, c64⟩, f1 (v + 8) (by omega)]; exact c5 c c0 c64
  have ae : LA Ie (w + 1) cls := by
    refine A1.keep ?_ ?_
    · rw [r (w + 1) 0 (by omega), if_neg (by omega), if_neg (by omega), if_neg (by omega), if_neg (by omega), if_neg (by omega)]
    · intro b b0 b1
      funext j
      rw [r b j (by omega), if_neg (by omega), if_neg (by omega), if_neg (by omega), if_neg (by omega), if_neg (by omega)]
  have ne : NW Ie w := by
    intro i i0 i1
    rw [r (w + 11 + 5 * i) 0 (by omega), if_neg (by omega), if_neg (by omega), if_neg (by omega), if_neg (by omega), if_neg (by omega), f1 _ (by omega)]
    exact hn i i0 i1
  clear r f1 A1
  suffices H : ∀ (n : Nat) (k : Int) (G2 : mu_G) (I2 : mu_M), k + n = 4 → 0 ≤ k → GK w G G2 → FW w I I2 → WA I2 w S → LA I2 (w + 1) cls → NW I2 w → (∀ q, 0 ≤ q → q < k → q < S 37 → PE G2 I2 (w + 11 + 5 * q) S q) → mu_WP mu_code d 94 71 [(1, w), (1, v), (0, k)] [] G2 I2 Q from
    H 4 0 G Ie (by omega) (by omega) (GK.rf' w G) fe we ae ne (fun q q0 q1 => by omega)
  intro n
  induction n with
  | zero =>
    intro k G2 I2 hk k0 hg hf wa la nw pe
    refine vc_94_71 (by omega) _ _ _ ⟨fun h1 => absurd h1 (by omega), fun _ => ?_⟩
    refine h G2 I2 hg hf ⟨wa, ⟨cls, hl, la⟩, nw, fun i i0 i1 => pe i i0 (by omega) i1⟩ ?_
    exact hC.keep hI (fun b j b0 b1 b2 b3 => by rw [hf b (by omega)]) (fun b hb => hf b (by omega)) hg.1 (fun i i0 i1 => hg.2.2.2 _ _ (by omega))
  | succ n ih =>
    intro k G2 I2 hk k0 hg hf wa la nw pe
    have gw := hG.k hg (Or.inl rfl)
    have gv := hG2.k hg (by omega)
    obtain ⟨g1, g2⟩ := gw.p (i := k) (by omega)
    obtain ⟨k1, k2⟩ := gv.p (i := k) (by omega)
    refine vc_94_71 (by omega) _ _ _ ⟨fun _ => ?_, fun h1 => absurd (by omega) h1⟩
    simp only [gw.2.2.2.1, gw.2.2.2.2.2.2.2.1, gv.2.2.2.1, gv.2.2.2.2.2.2.2.1, g1, g2.1, k1]
    rw [wr_id (x := k + 1) (by omega) (by omega)]
    refine ⟨gw.1, ⟨trivial, k0, by omega⟩, gv.1, ⟨trivial, k0, by omega⟩, trivial, k_personCopy (by omega) g2 k2 (by omega) (by omega) ?_⟩
    intro I3 o3 n3 f3 w3 d3
    have hs : ∀ c, sh (mu_grf G2 (w + 11 + 5 * k) 1 (rf G2 (v + 11 + 5 * k) 1)) c = sh G2 c := fun c => sh_grf G2 _ 1 _ c
    have hr : ∀ c j, ¬ (c = w + 11 + 5 * k ∧ j = 1) → rf (mu_grf G2 (w + 11 + 5 * k) 1 (rf G2 (v + 11 + 5 * k) 1)) c j = rf G2 c j := fun c j hj => by rw [rf_grf, if_neg hj]
    have hr1 : rf (mu_grf G2 (w + 11 + 5 * k) 1 (rf G2 (v + 11 + 5 * k) 1)) (w + 11 + 5 * k) 1 = rf G2 (v + 11 + 5 * k) 1 := by rw [rf_grf, if_pos ⟨rfl, rfl⟩]
    refine ih (k + 1) _ I3 (by omega) (by omega) (hg.tr ⟨hs, rfl, rfl, fun b j hj => hr b j (by omega)⟩) ?_ ?_ ?_ ?_ ?_
    · intro b hb
      rw [o3 b (by omega)]
      exact hf b hb
    · obtain ⟨z1, z2, z3, z4, z5⟩ := wa
      have ow : I3 w = I2 w := o3 w (by omega)
      exact ⟨by rw [ow]; exact z1, by rw [ow]; exact z2, by rw [ow]; exact z3, by rw [ow]; exact z4, fun c a b => by rw [o3 (w + 8) (by omega)]; exact z5 c a b⟩
    · exact la.keep (by rw [o3 _ (by omega)]) (fun b b0 b1 => o3 b (by omega))
    · intro i i0 i1
      by_cases hik : i = k
      · rw [hik, n3]; exact nw k k0 (by omega)
      · rw [o3 _ (by omega)]; exact nw i i0 i1
    · intro q q0 q1 q2
      have h9 := (hI.2.2.2.2.1 q q0 q2).2.2.1.2
      by_cases hqk : q = k
      · subst hqk
        have P := cp q q0 q2
        obtain ⟨⟨a0, a2, a3, a4, a5, a6⟩, a7, a8, a9⟩ := P
        have fv : ∀ b, v ≤ b → b < v + 31 → I2 b = I b := fun b b0 b1 => hf b (by omega)
        refine ⟨⟨by rw [n3]; exact nw q q0 (by omega), ?_, ?_, ?_, ?_, ?_⟩, ?_, ?_, ?_⟩
        · rw [f3 2 (by omega) (by omega), fv _ (by omega) (by omega)]; exact a2
        · rw [f3 3 (by omega) (by omega), fv _ (by omega) (by omega)]; exact a3
        · rw [f3 4 (by omega) (by omega), fv _ (by omega) (by omega)]; exact a4
        · rw [f3 5 (by omega) (by omega), fv _ (by omega) (by omega)]; exact a5
        · rw [f3 6 (by omega) (by omega), fv _ (by omega) (by omega)]; exact a6
        · intro j j0 j1
          rw [w3 j j0 j1, fv _ (by omega) (by omega)]; exact a7 j j0 j1
        · intro j j0 j1
          rw [(d3 j j0 (by omega)).1, (d3 j j0 (by omega)).2, fv _ (by omega) (by omega), fv _ (by omega) (by omega)]; exact a8 j j0 j1
        · rw [hr1, hg.2.2.2 (v + 11 + 5 * q) 1 (by omega)]
          refine a9.keep (fun b hb => ?_) (fun b => (sh_grf G2 _ 1 _ b).trans (hg.1 b))
          rw [o3 b (by omega), hf b (by omega)]
      · refine (pe q q0 (by omega) q2).keep h9 ?_ ?_ ?_ ?_ ?_ hs (hr _ _ (by omega)) (SameAt.rf S q)
        · intro j _; rw [o3 _ (by omega)]
        · intro j _ _; rw [o3 _ (by omega)]
        · intro j _ _; rw [o3 _ (by omega)]
        · intro j _ _; rw [o3 _ (by omega)]
        · intro b hb; rw [o3 b (by omega)]
end

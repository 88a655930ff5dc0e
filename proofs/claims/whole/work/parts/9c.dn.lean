/-! THE LOOP OF THE LAW, AND ITS START -/
section
variable {d : Nat} {u0 N : Int} {G : mu_G} {I : mu_M} {Q : Int → mu_G → mu_M → Prop}
theorem lp_loop (hd : d < 800) (hN : 0 ≤ N ∧ N ≤ 100000) (fin : ∀ G1 I1, gz G1 ≤ 127 + N → gu G1 ≤ u0 + N → Q 1 G1 I1) : ∀ (n : Nat) (x c : Int) (G : mu_G) (I : mu_M) (S M : Row) (L : List Int), N - x ≤ n → 0 ≤ x → x ≤ N → 0 ≤ c → c ≤ x → SF N G I → RR u0 c G I S M L → mu_WP mu_code d 229 18 [(1, -2), (1, 0), (1, 115), (0, x)] [] G I Q := by
  intro n
  induction n with
  | zero =>
    intro x c G I S M L hn x0 xN c0 cx hS hR
    refine vc_229_18 (by omega) _ _ _ _ ?_
    rw [hS.1]
    dsimp only
    rw [wr_id (x := N - 5) (by omega) (by omega)]
    exact ⟨rfl, fun _ => vc_229_1119 (by omega) _ _ _ _ (fin G I (by have := hR.2.2.2.2.2.1; omega) (by have := hR.2.2.2.2.2.2; omega)), fun h1 => absurd (by omega) h1⟩
  | succ n ih =>
    intro x c G I S M L hn x0 xN c0 cx hS hR
    refine vc_229_18 (by omega) _ _ _ _ ?_
    rw [hS.1]
    dsimp only
    rw [wr_id (x := N - 5) (by omega) (by omega)]
    refine ⟨rfl, fun _ => vc_229_1119 (by omega) _ _ _ _ (fin G I (by have := hR.2.2.2.2.2.1; omega) (by have := hR.2.2.2.2.2.2; omega)), fun h1 => ⟨⟨rfl, x0, by omega⟩, ?_⟩⟩
    have hx5 : 0 ≤ x ∧ x + 5 ≤ N ∧ N ≤ 100000 := by omega
    have nx : ∀ G1 I1 S1 M1 L1, SF N G1 I1 → RR u0 (c + 1) G1 I1 S1 M1 L1 → mu_WP mu_code d 229 1113 [(1, -2), (1, 0), (1, 115), (0, x)] [] G1 I1 Q := by
      intro G1 I1 S1 M1 L1 hS1 hR1
      refine vc_229_1113 (by omega) _ _ _ _ ?_
      rw [wr_id (x := x + 5) (by omega) (by omega)]
      exact ih (x + 5) (c + 1) G1 I1 S1 M1 L1 (by omega) (by omega) (by omega) (by omega) (by omega) hS1 hR1
    have stay := ih (x + 5) c G I S M L (by omega) (by omega) (by omega) (by omega) (by omega) hS hR
    exact ⟨fun _ => lp_172 hd hS hR hx5 nx, fun _ => ⟨fun _ => lp_195 hd hS hR hx5 nx, fun _ => ⟨fun _ => lp_208 hd hS hR hx5 nx, fun _ => ⟨fun _ => lp_241 hd hS hR hx5 nx, fun _ => ⟨fun _ => lp_290 hd hS hR hx5 nx, fun _ => ⟨fun _ => lp_343 hd hS hR hx5 nx, fun _ => ⟨fun _ => lp_376 hd hS hR hx5 nx, fun _ => ⟨fun _ => lp_419 hd hS hR hx5 nx, fun _ => ⟨fun _ => lp_462 hd hS hR hx5 nx, fun _ => ⟨fun _ => lp_475 hd hS hR hx5 nx, fun _ => ⟨fun _ => lp_488 hd hS hR hx5 nx, fun _ => ⟨fun _ => lp_531 hd hS hR hx5 nx, fun _ => ⟨fun _ => lp_564 hd hS hR hx5 nx, fun _ => ⟨fun _ => lp_587 hd hS hR hx5 nx, fun _ => ⟨fun _ => lp_600 hd hS hR hx5 nx, fun _ => ⟨fun _ => lp_623 hd hS hR hx5 nx, fun _ => ⟨fun _ => lp_666 hd hS hR hx5 nx, fun _ => ⟨fun _ => lp_699 hd hS hR hx5 nx, fun _ => ⟨fun _ => lp_732 hd hS hR hx5 nx, fun _ => ⟨fun _ => lp_775 hd hS hR hx5 nx, fun _ => ⟨fun _ => lp_798 hd hS hR hx5 nx, fun _ => ⟨fun _ => lp_821 hd hS hR hx5 nx, fun _ => ⟨fun _ => lp_875 hd hS hR hx5 nx, fun _ => ⟨fun _ => lp_909 hd hS hR hx5 nx, fun _ => ⟨fun _ => lp_952 hd hS hR hx5 nx, fun _ => ⟨fun _ => lp_965 hd hS hR hx5 nx, fun _ => ⟨fun _ => lp_1008 hd hS hR hx5 nx, fun _ => ⟨fun _ => lp_1031 hd hS hR hx5 nx, fun _ => ⟨fun _ => lp_1064 hd hS hR hx5 nx, fun _ => ⟨fun _ => lp_1077 hd hS hR hx5 nx, fun _ => ⟨fun _ => lp_1090 hd hS hR hx5 nx, fun _ => vc_229_1113 (by omega) _ _ _ _ (by rw [wr_id (x := x + 5) (by omega) (by omega)]; exact stay)⟩⟩⟩⟩⟩⟩⟩⟩⟩⟩⟩⟩⟩⟩⟩⟩⟩⟩⟩⟩⟩⟩⟩⟩⟩⟩⟩⟩⟩⟩⟩
theorem law_start (hd : d < 700) (hN : 0 ≤ N ∧ N ≤ 100000) (hz : gz G = 0) (hS : SF N G I) (h3 : sh G (-3) = (100, 18)) (hfr : ∀ a, 0 ≤ a → sh G a = (-1, 0)) (fin : ∀ G1 I1, gz G1 ≤ 127 + N → gu G1 ≤ gu G + 3945 + N → Q 1 G1 I1) : mu_WP mu_code d 229 0 [(1, -2), (3, 0), (3, 0), (3, 0)] [] G I Q := by
  refine vc_229_0 (by omega) _ ?_
  intro G1 e1 I2 e2
  rw [hz]
  have s1 : ∀ b, b ≠ 0 → sh G1 b = sh G b := fun b hb => by rw [e1, sh_gnew, hz, if_neg hb]
  have i2 : ∀ b j, b ≠ 0 → I2 b j = I b j := fun b j hb => by rw [e2, mu_inew_at, hz, if_neg hb]
  have s10 : sh G1 0 = (11, 0) := by rw [e1, sh_gnew, hz, if_pos rfl]
  refine ⟨s10, n_StepOwed (by omega) (by rw [e1, gz_gnew, hz]; rfl) s10 (fun j => by rw [e2, mu_inew_at, hz, if_pos rfl]) ?_⟩
  intro G5 I6 z5 u5 sl il gsc zc v5
  have u1 : gu G1 = gu G + 14 := by rw [e1, gu_gnew]
  clear e1 e2
  intro G8 e8 I9 e9
  rw [z5]
  have s8 : ∀ b, b ≠ 115 → sh G8 b = sh G5 b := fun b hb => by rw [e8, sh_gnew, z5, if_neg hb]
  have r8 : ∀ b j, b ≠ 115 → rf G8 b j = rf G5 b j := fun b j hb => by rw [e8, rf_gnew, z5, if_neg hb]
  have i9 : ∀ b j, b ≠ 115 → I9 b j = I6 b j := fun b j hb => by rw [e9, mu_inew_at, z5, if_neg hb]
  have s80 : sh G8 115 = (12, 0) := by rw [e8, sh_gnew, z5, if_pos rfl]
  have u8 : gu G8 = gu G5 + 25 := by rw [e8, gu_gnew]
  refine ⟨s80, n_Model (by omega) (by rw [e8, gz_gnew, z5]; rfl) s80 (fun j => by rw [e9, mu_inew_at, z5, if_pos rfl]) ?_⟩
  intro G12 I13 z12 u12 lo li mr m0 m116 v12
  clear e8 e9
  have kz : KZ 0 115 G5 G12 := fun b h0 h1 => ⟨by rw [(lo b h1).1, s8 b (by omega)], fun j => by rw [(lo b h1).2, r8 b j (by omega)]⟩
  have ii : ∀ b j, b < 115 → I13 b j = I6 b j := fun b j hb => by rw [li b hb, i9 b j (by omega)]
  have sn : ∀ b, b < 0 → sh G12 b = sh G b := fun b hb => by rw [(lo b (by omega)).1, s8 b (by omega), sl b hb, s1 b (by omega)]
  have inn : ∀ b, b < 0 → I13 b = I b := fun b hb => by funext j; rw [ii b j (by omega), il b hb, i2 b j (by omega)]
  obtain ⟨⟨a0, a1, a2, a3, a4, a5, a6, a7, a8, a9, a10, a11⟩, ⟨b1, b2, b3, b4⟩, d1, d2, d3, ⟨f1, f2, f3⟩, f4⟩ := gsc
  have k0 := kz 0 (by omega) (by omega)
  have gs : GS G12 := ⟨⟨by rw [k0.1]; exact a0, by rw [k0.2]; exact a1, by rw [k0.2]; exact a2, by rw [k0.2]; exact a3, by rw [k0.2]; exact a4, by rw [k0.2]; exact a5, by rw [k0.2]; exact a6, by rw [k0.2]; exact a7, by rw [k0.2]; exact a8, by rw [k0.2]; exact a9, by rw [k0.2]; exact a10, by rw [k0.2]; exact a11⟩, ⟨b1.at kz (by omega) (by omega), b2.at kz (by omega) (by omega), b3.at kz (by omega) (by omega), b4.at kz (by omega) (by omega)⟩, d1.az kz (by omega) (by omega), d2.az kz (by omega) (by omega), d3.az kz (by omega) (by omega), ⟨f1.at kz (by omega) (by omega), f2.at kz (by omega) (by omega), f3.at kz (by omega) (by omega)⟩, f4.az kz (by omega) (by omega), mr, by rw [sn _ (by decide)]; exact h3, by omega, fun a ha => by rw [v12 a (by omega), s8 a (by omega), v5 a (by omega), s1 a (by omega)]; exact hfr a (by omega)⟩
  obtain ⟨c1, c2, ⟨w1, w2, w3, w4, w5, w6, w7⟩, c4, c5⟩ := zc
  have z : ∀ j, j ≠ 42 → j ≠ 43 → j ≠ 44 → S00 j = 0 := fun j h1 h2 h3 => by unfold S00; rw [if_neg h3, if_neg h2, if_neg h1]
  have rs : ∀ a f, (1 ≤ a ∧ a < 9) → RS I13 a 0 f := fun a f ha => ⟨⟨by rw [ii a 1 (by omega)]; exact c2 a 1 ha.1 ha.2, by rw [ii a 2 (by omega)]; exact c2 a 2 ha.1 ha.2⟩, fun k k0 k1 => by omega⟩
  have cx : CX G12 I13 S00 [] := by
    refine ⟨⟨⟨by rw [ii 16 1 (by omega)]; exact w1, by rw [ii 16 2 (by omega)]; exact w2, by rw [ii 16 5 (by omega)]; exact w3, by rw [ii 16 6 (by omega)]; exact w4, fun e e0 e1 => by rw [ii _ _ (by omega), w5 e, z _ (by omega) (by omega) (by omega)]⟩, ⟨[], ⟨by decide, by decide⟩, by rw [ii _ _ (by omega)]; exact w6, by decide, fun e he => by simp at he, trivial⟩, fun i i0 i1 => by rw [ii _ _ (by omega)]; exact w7 i i0 i1, fun i i0 i1 => by rw [z 37 (by decide) (by decide) (by decide)] at i1; omega⟩, fun i i0 i1 => by rw [ii _ _ (by omega)]; exact c4 i i0 i1, fun i i0 i1 => by rw [ii _ _ (by omega)]; exact c5 i i0 i1, rs 1 _ (by omega), rs 3 _ (by omega), rs 5 _ (by omega), rs 7 _ (by omega), by rw [ii 0 7 (by omega)]; exact c1 7⟩
  have z13 : I13 0 13 = 0 := by rw [ii 0 13 (by omega)]; exact c1 13
  refine lp_loop (u0 := gu G + 3945) (by omega) hN (fun G1 I1 hg hu => fin G1 I1 hg hu) N.toNat 0 0 G12 I13 S00 S00 [] (by omega) (by omega) (by omega) (by omega) (by omega) (hS.to sn inn) ?_
  exact ⟨gs, cx, S00_ok, ⟨m116, ⟨by rw [m0 21]; rfl, trivial⟩, by simp⟩, ⟨⟨fun _ => m0 4, fun _ => z13⟩, fun hh => absurd z13 hh⟩, by omega, by omega⟩
end

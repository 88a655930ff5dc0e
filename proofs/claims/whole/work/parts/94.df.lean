/-! THE CLASS AND THE REFERENCE ARE MADE -/
/-- a new thing at z, that the field f of the object o names -/
def KB (o z f : Int) (G G1 : mu_G) : Prop := ∀ b, b < z → sh G1 b = sh G b ∧ ∀ j, rf G1 b j = if b = o ∧ j = f then z else rf G b j
/-- what stands from y to z stays -/
def KZ (y z : Int) (G G1 : mu_G) : Prop := ∀ b, y ≤ b → b < z → sh G1 b = sh G b ∧ ∀ j, rf G1 b j = rf G b j
theorem KZ.tr {y z x : Int} {G G1 G2 : mu_G} (h : KZ y z G G1) (h2 : KZ y x G1 G2) (hz : z ≤ x) : KZ y z G G2 := fun b h1 h3 => ⟨by rw [(h2 b h1 (by omega)).1, (h b h1 h3).1], fun j => by rw [(h2 b h1 (by omega)).2, (h b h1 h3).2]⟩
theorem KB.z {o z f : Int} {G G1 : mu_G} (h : KB o z f G G1) : KZ (o + 1) z G G1 := fun b h1 h2 => ⟨(h b h2).1, fun j => by rw [(h b h2).2, if_neg (by omega)]⟩
theorem KB.s {o z f : Int} {G G1 : mu_G} (h : KB o z f G G1) {b : Int} {x : Int × Int} (hb : b < z) (hs : sh G b = x) : sh G1 b = x := by rw [(h b hb).1]; exact hs
theorem GO.at {G G1 : mu_G} {a n : Int} (h : GO G a n) {y z : Int} (hk : KZ y z G G1) (hy : y ≤ a) (hz : a + 2 ≤ z) : GO G1 a n := by
  obtain ⟨h1, h2, h3⟩ := h
  exact ⟨by rw [(hk a (by omega) (by omega)).1]; exact h1, by rw [(hk a (by omega) (by omega)).2]; exact h2, by rw [(hk (a + 1) (by omega) (by omega)).1]; exact h3⟩
theorem GL.az {G G1 : mu_G} {a : Int} (h : GL G a) {y z : Int} (hk : KZ y z G G1) (hy : y ≤ a) (hz : a + 7 ≤ z) : GL G1 a := h.at (fun b h1 h2 => hk b (by omega) (by omega))
theorem GW.az {G G1 : mu_G} {w : Int} (h : GW G w) {y z : Int} (hk : KZ y z G G1) (hy : y ≤ w) (hz : w + 31 ≤ z) : GW G1 w := by
  obtain ⟨h1, h2, h3, h4, h5, h6, h7, h8, h9, h10⟩ := h
  refine ⟨?_, ?_, ?_, ?_, ?_, h6.az hk (by omega) (by omega), ?_, ?_, ?_, fun i i0 i4 => ⟨?_, (h10 i i0 i4).2.at (fun b h1 h2 => hk b (by omega) (by omega))⟩⟩
  · rw [(hk w (by omega) (by omega)).1, h1]
  · rw [(hk w (by omega) (by omega)).2, h2]
  · rw [(hk w (by omega) (by omega)).2, h3]
  · rw [(hk w (by omega) (by omega)).2, h4]
  · rw [(hk w (by omega) (by omega)).2, h5]
  · rw [(hk (w + 8) (by omega) (by omega)).1, h7]
  · rw [(hk (w + 9) (by omega) (by omega)).1, h8]
  · rw [(hk (w + 10) (by omega) (by omega)).1, h9]
  · rw [(hk (w + 9) (by omega) (by omega)).2, (h10 i i0 i4).1]
section
variable {d : Nat} {G : mu_G} {I : mu_M} {R : mu_G → mu_M → Prop} {z f n c : Int}
theorem st_Rows (hd : d < 1000) (hz : gz G = z) (z0 : 1 ≤ z) (hs : sh G 0 = (11, 0)) (hn : 0 ≤ n ∧ n ≤ 1000) (h : ∀ G9 I7, gz G9 = z + 2 → gu G9 = gu G + 3 + n → KB 0 z f G G9 → KI I I7 z → GO G9 z n → (∀ b j, z ≤ b → b < z + 2 → I7 b j = 0) → (∀ b, z + 2 ≤ b → sh G9 b = sh G b) → R G9 I7) :
  (∀ G2 : mu_G, G2 = mu_gnew G 5 0 3 → ∀ I3 : mu_M, I3 = mu_inew G I → sh G2 (gz G) = (5, 0) ∧ mu_WP mu_code d 47 0 [(1, gz G), (0, n)] [] G2 I3 (fun _ G6 I7 => sh G6 0 = (11, 0) ∧ (∀ G9 : mu_G, G9 = mu_grf G6 0 f (gz G) → R G9 I7))) := by
  intro G2 e2 I3 e3
  rw [hz]
  have s2 : ∀ b, b < z → sh G2 b = sh G b := fun b hb => by rw [e2, sh_gnew, if_neg (by omega)]
  have r2 : ∀ b j, b < z → rf G2 b j = rf G b j := fun b j hb => by rw [e2, rf_gnew, if_neg (by omega)]
  refine ⟨by rw [e2, sh_gnew, if_pos hz.symm], n_RowsX hd (a := z) (by omega) hn (by rw [e2, gz_gnew, hz]) (by rw [e2, sh_gnew, if_pos hz.symm]) (fun j => by rw [e3, mu_inew_at, if_pos hz.symm]) ?_⟩
  intro G6 I7 z6 u6 k6 ki6 g6 zi6 v6
  refine ⟨by rw [(k6 0 (by omega)).1, s2 0 (by omega)]; exact hs, ?_⟩
  intro G9 e9
  refine h G9 I7 (by rw [e9, gz_grf]; exact z6) (by rw [e9, gu_grf, u6, e2, gu_gnew]) (fun b hb => ⟨by rw [e9, sh_grf, (k6 b hb).1, s2 b hb], fun j => by rw [e9, rf_grf, (k6 b hb).2, r2 b j hb]⟩) (fun b hb j => by rw [ki6 b hb, e3, mu_inew_at, if_neg (by omega)]) ?_ zi6 (fun b hb => by rw [e9, sh_grf, v6 b hb, e2, sh_gnew, if_neg (by omega)])
  obtain ⟨a1, a2, a3⟩ := g6
  exact ⟨by rw [e9, sh_grf]; exact a1, by rw [e9, rf_grf, if_neg (by omega)]; exact a2, by rw [e9, sh_grf]; exact a3⟩
theorem st_Law (hd : d < 1000) (hz : gz G = z) (z0 : 1 ≤ z) (hs : sh G 0 = (11, 0)) (h : ∀ G9 I7, gz G9 = z + 7 → gu G9 = gu G + 251 → KB 0 z f G G9 → KI I I7 z → GL G9 z → (∀ b, z + 7 ≤ b → sh G9 b = sh G b) → R G9 I7) :
  (∀ G2 : mu_G, G2 = mu_gnew G 1 0 11 → ∀ I3 : mu_M, I3 = mu_inew G I → sh G2 (gz G) = (1, 0) ∧ mu_WP mu_code d 3 0 [(1, gz G)] [] G2 I3 (fun _ G6 I7 => sh G6 0 = (11, 0) ∧ (∀ G9 : mu_G, G9 = mu_grf G6 0 f (gz G) → R G9 I7))) := by
  intro G2 e2 I3 e3
  rw [hz]
  have s2 : ∀ b, b < z → sh G2 b = sh G b := fun b hb => by rw [e2, sh_gnew, if_neg (by omega)]
  have r2 : ∀ b j, b < z → rf G2 b j = rf G b j := fun b j hb => by rw [e2, rf_gnew, if_neg (by omega)]
  refine ⟨by rw [e2, sh_gnew, if_pos hz.symm], n_LawX hd (a := z) (by omega) (by rw [e2, gz_gnew, hz]) (by rw [e2, sh_gnew, if_pos hz.symm]) (fun j => by rw [e3, mu_inew_at, if_pos hz.symm]) ?_⟩
  intro G6 I7 z6 u6 k6 ki6 g6 zi6 v6
  refine ⟨by rw [(k6 0 (by omega)).1, s2 0 (by omega)]; exact hs, ?_⟩
  intro G9 e9
  refine h G9 I7 (by rw [e9, gz_grf]; exact z6) (by rw [e9, gu_grf, u6, e2, gu_gnew]; omega) (fun b hb => ⟨by rw [e9, sh_grf, (k6 b hb).1, s2 b hb], fun j => by rw [e9, rf_grf, (k6 b hb).2, r2 b j hb]⟩) (fun b hb j => by rw [ki6 b hb, e3, mu_inew_at, if_neg (by omega)]) ?_ (fun b hb => by rw [e9, sh_grf, v6 b hb, e2, sh_gnew, if_neg (by omega)])
  exact g6.at (fun b h1 h2 => ⟨by rw [e9, sh_grf], fun j => by rw [e9, rf_grf, if_neg (by omega)]⟩)
theorem st_World (hd : d + 2 < 1000) (hz : gz G = z) (z0 : 1 ≤ z) (hs : sh G 0 = (11, 0)) (h : ∀ G9 I7, gz G9 = z + 31 → gu G9 = gu G + 429 → KB 0 z f G G9 → KI I I7 z → GW G9 z → ZW I7 z → (∀ b, z + 31 ≤ b → sh G9 b = sh G b) → R G9 I7) :
  (∀ G2 : mu_G, G2 = mu_gnew G 10 0 8 → ∀ I3 : mu_M, I3 = mu_inew G I → sh G2 (gz G) = (10, 0) ∧ mu_WP mu_code d 69 0 [(1, gz G), (3, 0)] [] G2 I3 (fun _ G6 I7 => sh G6 0 = (11, 0) ∧ (∀ G9 : mu_G, G9 = mu_grf G6 0 f (gz G) → R G9 I7))) := by
  intro G2 e2 I3 e3
  rw [hz]
  have s2 : ∀ b, b < z → sh G2 b = sh G b := fun b hb => by rw [e2, sh_gnew, if_neg (by omega)]
  have r2 : ∀ b j, b < z → rf G2 b j = rf G b j := fun b j hb => by rw [e2, rf_gnew, if_neg (by omega)]
  refine ⟨by rw [e2, sh_gnew, if_pos hz.symm], n_World hd (w := z) (by omega) (by rw [e2, gz_gnew, hz]) (by rw [e2, sh_gnew, if_pos hz.symm]) (fun j => by rw [e3, mu_inew_at, if_pos hz.symm]) ?_⟩
  intro G6 I7 z6 u6 k6 ki6 g6 zi6 v6
  refine ⟨by rw [(k6 0 (by omega)).1, s2 0 (by omega)]; exact hs, ?_⟩
  intro G9 e9
  refine h G9 I7 (by rw [e9, gz_grf]; exact z6) (by rw [e9, gu_grf, u6, e2, gu_gnew]; omega) (fun b hb => ⟨by rw [e9, sh_grf, (k6 b hb).1, s2 b hb], fun j => by rw [e9, rf_grf, (k6 b hb).2, r2 b j hb]⟩) (fun b hb j => by rw [ki6 b hb, e3, mu_inew_at, if_neg (by omega)]) ?_ zi6 (fun b hb => by rw [e9, sh_grf, v6 b hb, e2, sh_gnew, if_neg (by omega)])
  exact g6.az (y := z) (z := z + 31) (fun b h1 h2 => ⟨by rw [e9, sh_grf], fun j => by rw [e9, rf_grf, if_neg (by omega)]⟩) (by omega) (by omega)
theorem st_Arr (hz : gz G = z) (z0 : 116 ≤ z) (hs : sh G 115 = (12, 0)) (h : ∀ G9 I7, gz G9 = z + 1 → gu G9 = gu G + n → KB 115 z f G G9 → KI I I7 z → sh G9 z = (c, n) → (∀ j, I7 z j = 0) → sh G9 115 = (12, 0) → (∀ b, z + 1 ≤ b → sh G9 b = sh G b) → R G9 I7) :
  (∀ G2 : mu_G, G2 = mu_gnew G c n n → ∀ I3 : mu_M, I3 = mu_inew G I → sh G2 115 = (12, 0) ∧ (∀ G9 : mu_G, G9 = mu_grf G2 115 f (gz G) → R G9 I3)) := by
  intro G2 e2 I3 e3
  rw [hz]
  have s2 : ∀ b, b < z → sh G2 b = sh G b := fun b hb => by rw [e2, sh_gnew, if_neg (by omega)]
  have r2 : ∀ b j, b < z → rf G2 b j = rf G b j := fun b j hb => by rw [e2, rf_gnew, if_neg (by omega)]
  have s0 : sh G2 115 = (12, 0) := by rw [s2 115 (by omega)]; exact hs
  refine ⟨s0, ?_⟩
  intro G9 e9
  exact h G9 I3 (by rw [e9, gz_grf, e2, gz_gnew, hz]) (by rw [e9, gu_grf, e2, gu_gnew]) (fun b hb => ⟨by rw [e9, sh_grf, s2 b hb], fun j => by rw [e9, rf_grf, r2 b j hb]⟩) (fun b hb j => by rw [e3, mu_inew_at, if_neg (by omega)]) (by rw [e9, sh_grf, e2, sh_gnew, if_pos hz.symm]) (fun j => by rw [e3, mu_inew_at, if_pos hz.symm]) (by rw [e9, sh_grf]; exact s0) (fun b hb => by rw [e9, sh_grf, e2, sh_gnew, if_neg (by omega)])
end
section
variable {d : Nat} {G : mu_G} {I : mu_M} {Q : Int → mu_G → mu_M → Prop}
/-- the class's object is new -/
def GSc (G : mu_G) : Prop := (sh G 0 = (11, 0) ∧ rf G 0 0 = 1 ∧ rf G 0 1 = 3 ∧ rf G 0 2 = 5 ∧ rf G 0 3 = 7 ∧ rf G 0 4 = 9 ∧ rf G 0 5 = 16 ∧ rf G 0 6 = 47 ∧ rf G 0 8 = 78 ∧ rf G 0 9 = 80 ∧ rf G 0 10 = 82 ∧ rf G 0 11 = 84) ∧ (GO G 1 100 ∧ GO G 3 6 ∧ GO G 5 8 ∧ GO G 7 20) ∧ GL G 9 ∧ GW G 16 ∧ GW G 47 ∧ (GO G 78 100 ∧ GO G 80 6 ∧ GO G 82 8) ∧ GW G 84
def ZC (I : mu_M) : Prop := (∀ j, I 0 j = 0) ∧ (∀ b j, 1 ≤ b → b < 9 → I b j = 0) ∧ ZW I 16 ∧ NW I 47 ∧ NW I 84
theorem n_StepOwed (hd : d < 990) (hz : gz G = 1) (hs : sh G 0 = (11, 0)) (h0 : ∀ j, I 0 j = 0) (h : ∀ G1 I1, gz G1 = 115 → gu G1 = gu G + 1807 → (∀ b, b < 0 → sh G1 b = sh G b) → (∀ b, b < 0 → ∀ j, I1 b j = I b j) → GSc G1 → ZC I1 → (∀ b, 115 ≤ b → sh G1 b = sh G b) → Q 0 G1 I1) : mu_WP mu_code d 100 0 [(1, 0)] [] G I Q := by
  refine vc_100_0 (by omega) _ ⟨by omega, ?_⟩
  refine st_Rows (by omega) hz (by omega) hs (by omega) ?_
  intro G1 I1 z1 u1 k1 i1 o1 c1 v1
  have s1 := k1.s (by omega) hs
  refine st_Rows (by omega) z1 (by omega) s1 (by omega) ?_
  intro G2 I2 z2 u2 k2 i2 o2 c2 v2
  have s2 := k2.s (by omega) s1
  refine st_Rows (by omega) z2 (by omega) s2 (by omega) ?_
  intro G3 I3 z3 u3 k3 i3 o3 c3 v3
  have s3 := k3.s (by omega) s2
  refine st_Rows (by omega) z3 (by omega) s3 (by omega) ?_
  intro G4 I4 z4 u4 k4 i4 o4 c4 v4
  have s4 := k4.s (by omega) s3
  refine st_Law (by omega) z4 (by omega) s4 ?_
  intro G5 I5 z5 u5 k5 i5 o5 v5
  have s5 := k5.s (by omega) s4
  refine st_World (by omega) z5 (by omega) s5 ?_
  intro G6 I6 z6 u6 k6 i6 o6 c6 v6
  have s6 := k6.s (by omega) s5
  refine st_World (by omega) z6 (by omega) s6 ?_
  intro G7 I7 z7 u7 k7 i7 o7 c7 v7
  have s7 := k7.s (by omega) s6
  refine st_Rows (by omega) z7 (by omega) s7 (by omega) ?_
  intro G8 I8 z8 u8 k8 i8 o8 c8 v8
  have s8 := k8.s (by omega) s7
  refine st_Rows (by omega) z8 (by omega) s8 (by omega) ?_
  intro G9 I9 z9 u9 k9 i9 o9 c9 v9
  have s9 := k9.s (by omega) s8
  refine st_Rows (by omega) z9 (by omega) s9 (by omega) ?_
  intro G10 I10 z10 u10 k10 i10 o10 c10 v10
  have s10 := k10.s (by omega) s9
  refine st_World (by omega) z10 (by omega) s10 ?_
  intro G11 I11 z11 u11 k11 i11 o11 c11 v11
  have s11 := k11.s (by omega) s10
  have K10 : KZ 1 84 G10 G11 := k11.z
  have K9 : KZ 1 82 G9 G11 := (show KZ 1 82 G9 G10 from k10.z).tr K10 (by omega)
  have K8 : KZ 1 80 G8 G11 := (show KZ 1 80 G8 G9 from k9.z).tr K9 (by omega)
  have K7 : KZ 1 78 G7 G11 := (show KZ 1 78 G7 G8 from k8.z).tr K8 (by omega)
  have K6 : KZ 1 47 G6 G11 := (show KZ 1 47 G6 G7 from k7.z).tr K7 (by omega)
  have K5 : KZ 1 16 G5 G11 := (show KZ 1 16 G5 G6 from k6.z).tr K6 (by omega)
  have K4 : KZ 1 9 G4 G11 := (show KZ 1 9 G4 G5 from k5.z).tr K5 (by omega)
  have K3 : KZ 1 7 G3 G11 := (show KZ 1 7 G3 G4 from k4.z).tr K4 (by omega)
  have K2 : KZ 1 5 G2 G11 := (show KZ 1 5 G2 G3 from k3.z).tr K3 (by omega)
  have K1 : KZ 1 3 G1 G11 := (show KZ 1 3 G1 G2 from k2.z).tr K2 (by omega)
  have J10 : KI I10 I11 84 := i11
  have J9 : KI I9 I11 82 := (show KI I9 I10 82 from i10).tr J10 (by omega)
  have J8 : KI I8 I11 80 := (show KI I8 I9 80 from i9).tr J9 (by omega)
  have J7 : KI I7 I11 78 := (show KI I7 I8 78 from i8).tr J8 (by omega)
  have J6 : KI I6 I11 47 := (show KI I6 I7 47 from i7).tr J7 (by omega)
  have J5 : KI I5 I11 16 := (show KI I5 I6 16 from i6).tr J6 (by omega)
  have J4 : KI I4 I11 9 := (show KI I4 I5 9 from i5).tr J5 (by omega)
  have J3 : KI I3 I11 7 := (show KI I3 I4 7 from i4).tr J4 (by omega)
  have J2 : KI I2 I11 5 := (show KI I2 I3 5 from i3).tr J3 (by omega)
  have J1 : KI I1 I11 3 := (show KI I1 I2 3 from i2).tr J2 (by omega)
  have J0 : KI I I11 1 := (show KI I I1 1 from i1).tr J1 (by omega)
  have rr : ∀ j, rf G11 0 j = if j = 11 then 84 else if j = 10 then 82 else if j = 9 then 80 else if j = 8 then 78 else if j = 6 then 47 else if j = 5 then 16 else if j = 4 then 9 else if j = 3 then 7 else if j = 2 then 5 else if j = 1 then 3 else if j = 0 then 1 else rf G 0 j := by
    intro j
    rw [(k11 0 (by omega)).2, (k10 0 (by omega)).2, (k9 0 (by omega)).2, (k8 0 (by omega)).2, (k7 0 (by omega)).2, (k6 0 (by omega)).2, (k5 0 (by omega)).2, (k4 0 (by omega)).2, (k3 0 (by omega)).2, (k2 0 (by omega)).2, (k1 0 (by omega)).2]
    simp only [true_and]
    rfl
  have ss : ∀ b, b < 1 → sh G11 b = sh G b := fun b hb => by rw [(k11 b (by omega)).1, (k10 b (by omega)).1, (k9 b (by omega)).1, (k8 b (by omega)).1, (k7 b (by omega)).1, (k6 b (by omega)).1, (k5 b (by omega)).1, (k4 b (by omega)).1, (k3 b (by omega)).1, (k2 b (by omega)).1, (k1 b (by omega)).1]
  refine h G11 I11 (by omega) (by omega) (fun b hb => ss b (by omega)) (fun b hb j => J0 b (by omega) j) ⟨⟨s11, ?_, ?_, ?_, ?_, ?_, ?_, ?_, ?_, ?_, ?_, ?_⟩, ⟨o1.at K1 (by omega) (by omega), o2.at K2 (by omega) (by omega), o3.at K3 (by omega) (by omega), o4.at K4 (by omega) (by omega)⟩, o5.az K5 (by omega) (by omega), o6.az K6 (by omega) (by omega), o7.az K7 (by omega) (by omega), ⟨o8.at K8 (by omega) (by omega), o9.at K9 (by omega) (by omega), o10.at K10 (by omega) (by omega)⟩, o11⟩ ⟨fun j => by rw [J0 0 (by omega)]; exact h0 j, ?_, ?_, ?_, ?_⟩ (fun b hb => by rw [v11 b (by omega), v10 b (by omega), v9 b (by omega), v8 b (by omega), v7 b (by omega), v6 b (by omega), v5 b (by omega), v4 b (by omega), v3 b (by omega), v2 b (by omega), v1 b (by omega)])
  · rw [rr]; rfl
  · rw [rr]; rfl
  · rw [rr]; rfl
  · rw [rr]; rfl
  · rw [rr]; rfl
  · rw [rr]; rfl
  · rw [rr]; rfl
  · rw [rr]; rfl
  · rw [rr]; rfl
  · rw [rr]; rfl
  · rw [rr]; rfl
  · intro b j hb h9
    have hc : b < 3 ∨ (3 ≤ b ∧ b < 5) ∨ (5 ≤ b ∧ b < 7) ∨ (7 ≤ b ∧ b < 9) := by omega
    rcases hc with hc | hc | hc | hc
    · rw [J1 b hc]; exact c1 b j (by omega) (by omega)
    · rw [J2 b hc.2]; exact c2 b j (by omega) (by omega)
    · rw [J3 b hc.2]; exact c3 b j (by omega) (by omega)
    · rw [J4 b hc.2]; exact c4 b j (by omega) (by omega)
  · have c6 : ZW I6 16 := c6
    obtain ⟨a1, a2, a3, a4, a5, a6, a7⟩ := c6
    exact ⟨by rw [J6 _ (by omega)]; exact a1, by rw [J6 _ (by omega)]; exact a2, by rw [J6 _ (by omega)]; exact a3, by rw [J6 _ (by omega)]; exact a4, fun j => by rw [J6 _ (by omega)]; exact a5 j, by rw [J6 _ (by omega)]; exact a6, fun m m0 m1 => by rw [J6 _ (by omega)]; exact a7 m m0 m1⟩
  · have c7 : ZW I7 47 := c7
    exact fun m m0 m1 => by rw [J7 _ (by omega)]; exact c7.2.2.2.2.2.2 m m0 m1
  · have c11 : ZW I11 84 := c11
    exact c11.2.2.2.2.2.2
end

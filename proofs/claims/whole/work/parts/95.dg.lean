/-! THE REFERENCE IS MADE; ALL STANDS -/
/-- the row of a new reference -/
def S00 : Row := fun j => if j = 44 then 6 else if j = 43 then 6 else if j = 42 then -1 else 0
section
variable {d : Nat} {G : mu_G} {I : mu_M} {Q : Int → mu_G → mu_M → Prop}
theorem n_Model (hd : d < 990) (hz : gz G = 116) (hs : sh G 115 = (12, 0)) (h0 : ∀ j, I 115 j = 0) (h : ∀ G1 I1, gz G1 = 127 → gu G1 = gu G + 2099 → (∀ b, b < 115 → sh G1 b = sh G b ∧ ∀ j, rf G1 b j = rf G b j) → (∀ b, b < 115 → ∀ j, I1 b j = I b j) → MR G1 → (∀ j, I1 115 j = 0) → I1 116 = S00 → (∀ b, 127 ≤ b → sh G1 b = sh G b) → Q 0 G1 I1) : mu_WP mu_code d 145 0 [(1, 115)] [] G I Q := by
  refine vc_145_0 (by omega) _ ⟨by omega, ?_⟩
  refine st_Arr hz (by omega) hs ?_
  intro G1 I1 z1 u1 k1 i1 c1 n1 s1 v1
  refine st_Arr z1 (by omega) s1 ?_
  intro G2 I2 z2 u2 k2 i2 c2 n2 s2 v2
  refine vc_145_22 (by omega) _ ?_
  refine st_Arr z2 (by omega) s2 ?_
  intro G3 I3 z3 u3 k3 i3 c3 n3 s3 v3
  refine st_Arr z3 (by omega) s3 ?_
  intro G4 I4 z4 u4 k4 i4 c4 n4 s4 v4
  refine vc_145_38 (by omega) _ ?_
  refine st_Arr z4 (by omega) s4 ?_
  intro G5 I5 z5 u5 k5 i5 c5 n5 s5 v5
  refine st_Arr z5 (by omega) s5 ?_
  intro G6 I6 z6 u6 k6 i6 c6 n6 s6 v6
  refine vc_145_53 (by omega) _ ?_
  refine st_Arr z6 (by omega) s6 ?_
  intro G7 I7 z7 u7 k7 i7 c7 n7 s7 v7
  refine st_Arr z7 (by omega) s7 ?_
  intro G8 I8 z8 u8 k8 i8 c8 n8 s8 v8
  refine vc_145_67 (by omega) _ ?_
  refine st_Arr z8 (by omega) s8 ?_
  intro G9 I9 z9 u9 k9 i9 c9 n9 s9 v9
  refine st_Arr z9 (by omega) s9 ?_
  intro G10 I10 z10 u10 k10 i10 c10 n10 s10 v10
  refine vc_145_81 (by omega) _ ?_
  refine st_Arr z10 (by omega) s10 ?_
  intro G11 I11 z11 u11 k11 i11 c11 n11 s11 v11
  have K11 : KZ 116 127 G11 G11 := fun b _ _ => ⟨rfl, fun _ => rfl⟩
  have K10 : ∀ b, b < 126 → sh G11 b = sh G10 b := fun b hb => by rw [(k11 b (by omega)).1]
  have K9 : ∀ b, b < 125 → sh G11 b = sh G9 b := fun b hb => by rw [(k11 b (by omega)).1, (k10 b (by omega)).1]
  have K8 : ∀ b, b < 124 → sh G11 b = sh G8 b := fun b hb => by rw [(k11 b (by omega)).1, (k10 b (by omega)).1, (k9 b (by omega)).1]
  have K7 : ∀ b, b < 123 → sh G11 b = sh G7 b := fun b hb => by rw [(k11 b (by omega)).1, (k10 b (by omega)).1, (k9 b (by omega)).1, (k8 b (by omega)).1]
  have K6 : ∀ b, b < 122 → sh G11 b = sh G6 b := fun b hb => by rw [(k11 b (by omega)).1, (k10 b (by omega)).1, (k9 b (by omega)).1, (k8 b (by omega)).1, (k7 b (by omega)).1]
  have K5 : ∀ b, b < 121 → sh G11 b = sh G5 b := fun b hb => by rw [(k11 b (by omega)).1, (k10 b (by omega)).1, (k9 b (by omega)).1, (k8 b (by omega)).1, (k7 b (by omega)).1, (k6 b (by omega)).1]
  have K4 : ∀ b, b < 120 → sh G11 b = sh G4 b := fun b hb => by rw [(k11 b (by omega)).1, (k10 b (by omega)).1, (k9 b (by omega)).1, (k8 b (by omega)).1, (k7 b (by omega)).1, (k6 b (by omega)).1, (k5 b (by omega)).1]
  have K3 : ∀ b, b < 119 → sh G11 b = sh G3 b := fun b hb => by rw [(k11 b (by omega)).1, (k10 b (by omega)).1, (k9 b (by omega)).1, (k8 b (by omega)).1, (k7 b (by omega)).1, (k6 b (by omega)).1, (k5 b (by omega)).1, (k4 b (by omega)).1]
  have K2 : ∀ b, b < 118 → sh G11 b = sh G2 b := fun b hb => by rw [(k11 b (by omega)).1, (k10 b (by omega)).1, (k9 b (by omega)).1, (k8 b (by omega)).1, (k7 b (by omega)).1, (k6 b (by omega)).1, (k5 b (by omega)).1, (k4 b (by omega)).1, (k3 b (by omega)).1]
  have K1 : ∀ b, b < 117 → sh G11 b = sh G1 b := fun b hb => by rw [(k11 b (by omega)).1, (k10 b (by omega)).1, (k9 b (by omega)).1, (k8 b (by omega)).1, (k7 b (by omega)).1, (k6 b (by omega)).1, (k5 b (by omega)).1, (k4 b (by omega)).1, (k3 b (by omega)).1, (k2 b (by omega)).1]
  have J10 : KI I10 I11 126 := i11
  have J9 : KI I9 I11 125 := (show KI I9 I10 125 from i10).tr J10 (by omega)
  have J8 : KI I8 I11 124 := (show KI I8 I9 124 from i9).tr J9 (by omega)
  have J7 : KI I7 I11 123 := (show KI I7 I8 123 from i8).tr J8 (by omega)
  have J6 : KI I6 I11 122 := (show KI I6 I7 122 from i7).tr J7 (by omega)
  have J5 : KI I5 I11 121 := (show KI I5 I6 121 from i6).tr J6 (by omega)
  have J4 : KI I4 I11 120 := (show KI I4 I5 120 from i5).tr J5 (by omega)
  have J3 : KI I3 I11 119 := (show KI I3 I4 119 from i4).tr J4 (by omega)
  have J2 : KI I2 I11 118 := (show KI I2 I3 118 from i3).tr J3 (by omega)
  have J1 : KI I1 I11 117 := (show KI I1 I2 117 from i2).tr J2 (by omega)
  have J0 : KI I I11 116 := (show KI I I1 116 from i1).tr J1 (by omega)
  have rr : ∀ j, rf G11 115 j = if j = 20 then 126 else if j = 18 then 125 else if j = 17 then 124 else if j = 16 then 123 else if j = 15 then 122 else if j = 14 then 121 else if j = 11 then 120 else if j = 10 then 119 else if j = 3 then 118 else if j = 2 then 117 else if j = 1 then 116 else rf G 115 j := by
    intro j
    rw [(k11 115 (by omega)).2, (k10 115 (by omega)).2, (k9 115 (by omega)).2, (k8 115 (by omega)).2, (k7 115 (by omega)).2, (k6 115 (by omega)).2, (k5 115 (by omega)).2, (k4 115 (by omega)).2, (k3 115 (by omega)).2, (k2 115 (by omega)).2, (k1 115 (by omega)).2]
    simp only [true_and]
    rfl
  have r1 : rf G11 115 1 = 116 := by rw [rr]; rfl
  have c16 : sh G11 116 = (100, 977) := by rw [K1 116 (by omega)]; exact c1
  rw [r1, c16]
  refine ⟨s11, ⟨by omega, rfl, by omega, by decide⟩, ?_⟩
  intro I12 q12
  refine vc_145_97 (by omega) _ ?_
  rw [r1, c16]
  refine ⟨s11, ⟨by omega, rfl, by omega, by decide⟩, ?_⟩
  intro I13 q13
  refine ⟨⟨by omega, rfl, by omega, by decide⟩, ?_⟩
  intro I14 q14
  have ho : ∀ b, b ≠ 116 → I14 b = I11 b := fun b hb => by rw [q14, set_off _ hb, q13, set_off _ hb, q12, set_off _ hb]
  have lo : ∀ b, b < 115 → sh G11 b = sh G b ∧ ∀ j, rf G11 b j = rf G b j := fun b hb => ⟨by rw [(k11 b (by omega)).1, (k10 b (by omega)).1, (k9 b (by omega)).1, (k8 b (by omega)).1, (k7 b (by omega)).1, (k6 b (by omega)).1, (k5 b (by omega)).1, (k4 b (by omega)).1, (k3 b (by omega)).1, (k2 b (by omega)).1, (k1 b (by omega)).1], fun j => by rw [(k11 b (by omega)).2, if_neg (show ¬ (b = 115 ∧ _) from fun hc => by omega), (k10 b (by omega)).2, if_neg (show ¬ (b = 115 ∧ _) from fun hc => by omega), (k9 b (by omega)).2, if_neg (show ¬ (b = 115 ∧ _) from fun hc => by omega), (k8 b (by omega)).2, if_neg (show ¬ (b = 115 ∧ _) from fun hc => by omega), (k7 b (by omega)).2, if_neg (show ¬ (b = 115 ∧ _) from fun hc => by omega), (k6 b (by omega)).2, if_neg (show ¬ (b = 115 ∧ _) from fun hc => by omega), (k5 b (by omega)).2, if_neg (show ¬ (b = 115 ∧ _) from fun hc => by omega), (k4 b (by omega)).2, if_neg (show ¬ (b = 115 ∧ _) from fun hc => by omega), (k3 b (by omega)).2, if_neg (show ¬ (b = 115 ∧ _) from fun hc => by omega), (k2 b (by omega)).2, if_neg (show ¬ (b = 115 ∧ _) from fun hc => by omega), (k1 b (by omega)).2, if_neg (show ¬ (b = 115 ∧ _) from fun hc => by omega)]⟩
  refine h G11 I14 (by omega) (by omega) lo (fun b hb j => by rw [ho b (by omega), J0 b (by omega)]) ⟨s11, r1, by rw [rr]; rfl, by rw [rr]; rfl, by rw [rr]; rfl, by rw [rr]; rfl, by rw [rr]; rfl, by rw [rr]; rfl, by rw [rr]; rfl, by rw [rr]; rfl, by rw [rr]; rfl, by rw [rr]; rfl, c16, by rw [K2 117 (by omega)]; exact c2, by rw [K3 118 (by omega)]; exact c3, by rw [K4 119 (by omega)]; exact c4, by rw [K5 120 (by omega)]; exact c5, by rw [K6 121 (by omega)]; exact c6, by rw [K7 122 (by omega)]; exact c7, by rw [K8 123 (by omega)]; exact c8, by rw [K9 124 (by omega)]; exact c9, by rw [K10 125 (by omega)]; exact c10, c11⟩ (fun j => by rw [ho 115 (by omega), J0 115 (by omega)]; exact h0 j) ?_ (fun b hb => by rw [v11 b (by omega), v10 b (by omega), v9 b (by omega), v8 b (by omega), v7 b (by omega), v6 b (by omega), v5 b (by omega), v4 b (by omega), v3 b (by omega), v2 b (by omega), v1 b (by omega)])
  funext j
  have z16 : ∀ j, I11 116 j = 0 := fun j => by rw [J1 116 (by omega)]; exact n1 j
  rw [q14, set_row, upR_at, q13, set_row, upR_at, q12, set_row, upR_at, z16]
  rfl
end

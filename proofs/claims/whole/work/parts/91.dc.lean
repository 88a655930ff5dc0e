/-! THE CLASS READS A LAW: clauses -/
def catL : List Cla → List Int
  | [] => []
  | c :: r => c.2.2.map cv ++ catL r
theorem catL_app : ∀ (l : List Cla) (c : Cla), catL (l ++ [c]) = catL l ++ c.2.2.map cv
  | [], c => by simp [catL]
  | x :: l, c => by rw [List.cons_append, catL, catL, catL_app l c, List.append_assoc]
/-- the clauses that are kept -/
def CLr (I : mu_M) (a : Int) : Int → Int → List Cla → Prop
  | _, _, [] => True
  | i, s, c :: r => (I (a + 1) i = c.1 ∧ I (a + 2) i = c.2.1 ∧ I (a + 3) i = s ∧ I (a + 4) i = s + c.2.2.length) ∧ CLr I a (i + 1) (s + c.2.2.length) r
theorem CLr.keep {I I1 : mu_M} {a : Int} : ∀ {l : List Cla} {i s : Int}, CLr I a i s l → (∀ b j, a < b → b < a + 5 → j < i + l.length → I1 b j = I b j) → CLr I1 a i s l
  | [], _, _, _, _ => trivial
  | c :: l, i, s, h, hf => by
    have hl : ((c :: l).length : Int) = l.length + 1 := by simp
    rw [hl] at hf
    refine ⟨⟨?_, ?_, ?_, ?_⟩, h.2.keep (fun b j h1 h2 h3 => hf b j h1 h2 (by omega))⟩
    · rw [hf _ _ (by omega) (by omega) (by omega)]; exact h.1.1
    · rw [hf _ _ (by omega) (by omega) (by omega)]; exact h.1.2.1
    · rw [hf _ _ (by omega) (by omega) (by omega)]; exact h.1.2.2.1
    · rw [hf _ _ (by omega) (by omega) (by omega)]; exact h.1.2.2.2
theorem CLr.add {I : mu_M} {a : Int} {c : Cla} : ∀ {l : List Cla} {i s : Int}, CLr I a i s l → (I (a + 1) (i + l.length) = c.1 ∧ I (a + 2) (i + l.length) = c.2.1 ∧ I (a + 3) (i + l.length) = s + (catL l).length ∧ I (a + 4) (i + l.length) = s + (catL l).length + c.2.2.length) → CLr I a i s (l ++ [c])
  | [], i, s, _, hc => by
    simp [catL] at hc
    exact ⟨hc, trivial⟩
  | x :: l, i, s, h, hc => by
    have hl : ((x :: l).length : Int) = l.length + 1 := by simp
    have hl2 : ((catL (x :: l)).length : Int) = x.2.2.length + (catL l).length := by rw [catL]; simp
    rw [hl, hl2] at hc
    refine ⟨h.1, h.2.add ?_⟩
    rw [show i + 1 + (l.length : Int) = i + (l.length + 1) by omega, show s + (x.2.2.length : Int) + (catL l).length = s + (x.2.2.length + (catL l).length) by omega]
    exact hc
theorem lst_split {T : Row} : ∀ {L M : List Int} {a : Int}, lst T a (L ++ M) → lst T a L ∧ lst T (a + L.length) M
  | [], M, a, h => ⟨trivial, by simpa using h⟩
  | x :: L, M, a, h => by
    have hl : a + ((x :: L).length : Int) = a + 1 + L.length := by simp; omega
    rw [hl]
    obtain ⟨h1, h2⟩ := lst_split (L := L) h.2
    exact ⟨⟨h.1, h1⟩, h2⟩
theorem LI_of {I : mu_M} {a : Int} : ∀ {l : List Cla} {i s : Int}, CLr I a i s l → lst (I (a + 5)) s (catL l) → 0 ≤ s → s + (catL l).length ≤ 100 → LI I a i l
  | [], _, _, _, _, _, _ => trivial
  | c :: l, i, s, h, hs, s0, hl => by
    have hl2 : ((catL (c :: l)).length : Int) = c.2.2.length + (catL l).length := by rw [catL]; simp
    rw [hl2] at hl
    rw [catL] at hs
    obtain ⟨h1, h2⟩ := lst_split hs
    rw [List.length_map] at h2
    obtain ⟨⟨a1, a2, a3, a4⟩, hr⟩ := h
    exact ⟨⟨a1, a2, by omega, by omega, by omega, by rw [a3]; exact h1⟩, LI_of hr h2 (by omega) (by omega)⟩
/-- the reader has kept the clauses l -/
def KC (I : mu_M) (a : Int) (l : List Cla) : Prop := I a 0 = l.length ∧ CLr I a 0 0 l ∧ KW I a (catL l)
def FRl (a : Int) (I I1 : mu_M) : Prop := ∀ b, (b < a ∨ a + 7 ≤ b) → I1 b = I b
theorem FRl.tr {a : Int} {I I1 I2 : mu_M} (h : FRl a I I1) (h2 : FRl a I1 I2) : FRl a I I2 := fun b hb => by rw [h2 b hb, h b hb]
theorem FRd.l {a : Int} {I I1 : mu_M} (h : FRd a I I1) : FRl a I I1 := fun b hb => h.1 b (by omega) (by omega)
section
variable {d : Nat} {G : mu_G} {I : mu_M} {Q : Int → mu_G → mu_M → Prop} {a e k : Int} {T : Row}
theorem k_keep (hd : d < 980) (hG : GL G a) (ha : 0 ≤ a) {l : List Cla} {w m : Int} {cs : List Int} (h0 : I a 0 = l.length) (hl : l.length < 10) (hC : CLr I a 0 0 l) (hW : KW I a (catL l ++ cs.map cv)) (h : ∀ I1, (∀ b, (b < a ∨ a + 5 ≤ b) → I1 b = I b) → (∀ j, j ≠ 0 → I1 a j = I a j) → KC I1 a (l ++ [(w, m, cs)]) → Q 1 G I1) : mu_WP mu_code d 15 0 [(1, a), (0, w), (0, m), (0, ((catL l).length : Int))] [] G I Q := by
  obtain ⟨g1, r1, r2, r3, r4, r5, r7, s1, s2, s3, s4, s5, s6⟩ := id hG
  have h6 : I a 6 = (catL l).length + cs.length := by rw [hW.1]; simp
  refine vc_15_0 (by omega) _ _ _ _ ⟨g1, fun h1 => absurd h1 (by omega), fun _ => ⟨fun _ => ?_, fun h1 => absurd (by omega) h1⟩⟩
  rw [h0, r1, r2, r3, r4, s1, s2, s3, s4]
  refine ⟨⟨by omega, rfl, by omega, by dsimp only; omega⟩, ?_⟩
  intro I1 q1
  have a1 : I1 a = I a := by rw [q1, set_off _ (by omega)]
  rw [a1, h0]
  refine ⟨⟨by omega, rfl, by omega, by dsimp only; omega⟩, ?_⟩
  intro I2 q2
  have a2 : I2 a = I a := by rw [q2, set_off _ (by omega), a1]
  rw [a2, h0]
  refine ⟨⟨by omega, rfl, by omega, by dsimp only; omega⟩, ?_⟩
  intro I3 q3
  have a3 : I3 a = I a := by rw [q3, set_off _ (by omega), a2]
  rw [a3, h0, h6]
  refine ⟨⟨by omega, rfl, by omega, by dsimp only; omega⟩, ?_⟩
  intro I4 q4 I5 q5
  have a4 : I4 a = I a := by rw [q4, set_off _ (by omega), a3]
  rw [a4, h0, wr_id (x := (l.length : Int) + 1) (by omega) (by omega)] at q5
  refine h I5 (fun b hb => by rw [q5, set_off _ (by omega), q4, set_off _ (by omega), q3, set_off _ (by omega), q2, set_off _ (by omega), q1, set_off _ (by omega)]) (fun j hj => by rw [q5, set_row, upR_ne _ hj, a4]) ⟨by rw [q5, set_row, upR_same]; simp, ?_, ?_⟩
  · refine (hC.keep (I1 := I5) ?_).add ⟨?_, ?_, ?_, ?_⟩
    · intro b j h1 h2 h3
      rw [q5, mu_set_at, if_neg (by omega), q4, mu_set_at, if_neg (by omega), q3, mu_set_at, if_neg (by omega), q2, mu_set_at, if_neg (by omega), q1, mu_set_at, if_neg (by omega)]
    · rw [Int.zero_add, q5, set_off _ (by omega), q4, set_off _ (by omega), q3, set_off _ (by omega), q2, set_off _ (by omega), q1, set_row, upR_same]
    · rw [Int.zero_add, q5, set_off _ (by omega), q4, set_off _ (by omega), q3, set_off _ (by omega), q2, set_row, upR_same]
    · rw [Int.zero_add, Int.zero_add, q5, set_off _ (by omega), q4, set_off _ (by omega), q3, set_row, upR_same]
    · rw [Int.zero_add, Int.zero_add, q5, set_off _ (by omega), q4, set_row, upR_same]
  · rw [catL_app]
    refine ⟨?_, ?_⟩
    · rw [q5, set_row, upR_ne _ (by decide), a4]; exact hW.1
    · rw [q5, set_off _ (by omega), q4, set_off _ (by omega), q3, set_off _ (by omega), q2, set_off _ (by omega), q1, set_off _ (by omega)]
      exact hW.2
theorem k_clause (hd : d < 900) (hG : GL G a) (ha : 0 ≤ a) (hX : TXs G I) (hT : ∀ j, 0 ≤ j → j < e → 0 ≤ T j ∧ T j ≤ 127) (hK : KS I a e T k) {l : List Cla} (hC : KC I a l) (hl : l.length < 10) (hk : ((catL l).length : Int) ≤ k)
  (hy : (claS T e k).1 = true → ∀ I1, FRl a I I1 → KS I1 a e T (claS T e k).2.1 → KC I1 a (l ++ [(claS T e k).2.2]) → ((catL (l ++ [(claS T e k).2.2])).length : Int) ≤ (claS T e k).2.1 → okL (claS T e k).2.2 → Q 1 G I1)
  (hn : (claS T e k).1 = false → ∀ I1, FRl a I I1 → KS I1 a e T (claS T e k).2.1 → Q 0 G I1) : mu_WP mu_code d 5 0 [(1, a), (3, 0), (3, 0)] [] G I Q := by
  have hb := hK.2.2
  obtain ⟨c0, c1, c2⟩ := hC
  have h6 : I a 6 = ((catL l).length : Int) := c2.1
  have tx : ∀ {I1 : mu_M}, FRl a I I1 → TXs G I1 := fun hf => hX.keep (fun b hb => hf b (by omega))
  have kC : ∀ {I1 : mu_M}, FRd a I I1 → I1 a 0 = l.length ∧ CLr I1 a 0 0 l := fun hf => ⟨by rw [hf.2 0 (by decide) (by decide) (by decide)]; exact c0, c1.keep (fun b j h1 h2 _ => by rw [hf.1 b (by omega) (by omega)])⟩
  have sp : ∀ i : Nat, i < 5 → ∀ c ∈ mu_str i, 0 ≤ c := by
    intro i hi
    have : i = 0 ∨ i = 1 ∨ i = 2 ∨ i = 3 ∨ i = 4 := by omega
    rcases this with rfl | rfl | rfl | rfl | rfl <;> decide
  -- an E, and the clause is kept
  have expr : ∀ (dd : Nat) (k1 w m : Int) (I2 : mu_M) (Q1 : Int → mu_G → mu_M → Prop), dd < 920 → FK a I I2 → KS I2 a e T k1 → k ≤ k1 → (w = 0 ∨ w = 1) → (0 ≤ m ∧ m ≤ 99) →
      ((exS T e k1).1 = true → ∀ I3, FRl a I I3 → KS I3 a e T (exS T e k1).2.1 → KC I3 a (l ++ [(w, m, (exS T e k1).2.2)]) → ((catL (l ++ [(w, m, (exS T e k1).2.2)])).length : Int) ≤ (exS T e k1).2.1 → okL (w, m, (exS T e k1).2.2) → Q1 1 G I3) → ((exS T e k1).1 = false → ∀ I3, FRl a I I3 → KS I3 a e T (exS T e k1).2.1 → Q1 0 G I3) →
      mu_WP mu_code dd 11 0 [(1, a), (0, 0), (3, 0), (3, 0), (3, 0)] [] G I2 (fun r47 G48 I49 => ((r47 = 0 → Q1 0 G48 I49) ∧ (¬ r47 = 0 → sh G48 a = (1, 0) ∧ mu_WP mu_code dd 15 0 [(1, a), (0, w), (0, m), (0, I a 6)] [] G48 I49 (fun r52 G53 I54 => ((r52 = 0 → Q1 0 G53 I54) ∧ (¬ r52 = 0 → Q1 1 G53 I54)))))) := by
    intro dd k1 w m I2 Q1 hdd hf k2 hkk hw hm hyy hnn
    have hP : ∀ (d : Nat) (k : Int) (I : mu_M) (Q : Int → mu_G → mu_M → Prop), d < 930 → TXs G I → KS I a e T k → KR G a e T k I (facS T e 5 k) Q → mu_WP mu_code d 12 0 [(1, a), (0, 0), (3, 0)] [] G I Q := fun d k I Q hd hX hK h => k_fac hG ha hT 5 (by omega) d k I Q (by omega) hX hK h
    have hBk := exS_bd (T := T) (e := e) (k := k1) k2.2.2.1 k2.2.2.2.1
    refine k_any hG ha (F := facS T e 5) (dd := 11) (D := 930) (by omega) (fun k h0 hk => facS_bd 5 k h0 hk) hP dd k1 I2 _ (by omega) (tx hf.rd.l) k2 ⟨fun hg I3 f3 k3 w3 => ⟨fun hz => absurd hz (by decide), fun _ => ⟨hG.1, ?_⟩⟩, fun hg I3 f3 k3 => ⟨fun _ => hnn hg I3 (hf.rd.tr f3).l k3, fun hz => absurd rfl hz⟩⟩
    obtain ⟨hB1, hB2⟩ := hBk
    obtain ⟨hB3, hB4, hB5⟩ := hB2 hg
    have kc3 := kC (hf.rd.tr f3)
    rw [h6]
    refine k_keep (by omega) hG ha kc3.1 hl kc3.2 (w3 _ (hf.kw c2) (by omega)) ?_
    intro I4 f4 a4 kc4
    refine ⟨fun hz => absurd hz (by decide), fun _ => hyy hg I4 (fun b hb => by rw [f4 b (by omega), (hf.rd.tr f3).l b hb]) ?_ kc4 ?_ ?_⟩
    · obtain ⟨⟨k31, k32⟩, k33, k34⟩ := k3
      exact ⟨⟨by rw [a4 8 (by decide)]; exact k31, by rw [a4 9 (by decide)]; exact k32⟩, by rw [f4 (a + 6) (by omega)]; exact k33, k34⟩
    · rw [catL_app]
      simp only [List.length_append, List.length_map]
      omega
    · exact ⟨by omega, hm, fun _ => hB5 0 (by omega)⟩
  unfold claS at hy hn
  refine vc_5_0 (by omega) _ ⟨hG.1, k_sign (by omega) hG hK ⟨fun h1 => ⟨hG.1, ?_⟩, fun h1 => ⟨fun h2 => ⟨hG.1, ?_⟩, fun h2 => ⟨fun h3 => ⟨hG.1, ?_⟩, fun h3 => ?_⟩⟩⟩⟩
  · -- come
    rw [if_pos h1] at hy hn
    unfold cla1 at hy hn
    have sb := spS_bd (T := T) (e := e) (mu_str 4) k (sp 4 (by omega)) hb.2.1
    refine k_word (i := 4) (by omega) hG ha hX (by omega) hK (fun hg I1 f1 k1 => ⟨fun hz => absurd hz (by decide), fun _ => ⟨hG.1, ?_⟩⟩) (fun hg I1 f1 k1 => ⟨fun _ => ?_, fun hz => absurd rfl hz⟩)
    · rw [if_pos hg] at hy hn
      have nb := numS_bd (T := T) (e := e) sb.2.1
      refine k_number (by omega) hG k1 (fun hg2 I2 f2 k2 n2 => ⟨fun hz => absurd hz (by decide), fun _ => ⟨hG.1, ?_⟩⟩) (fun hg2 I2 f2 k2 => ⟨fun _ => hn hg2 I2 (f1.tr f2).rd.l k2, fun hz => absurd rfl hz⟩)
      have f12 := f1.tr f2
      have kc2 := kC f12.rd
      rw [h6, n2]
      refine k_keep (cs := []) (by omega) hG ha kc2.1 hl kc2.2 (by rw [List.map_nil, List.append_nil]; exact f12.kw c2) ?_
      intro I4 f4 a4 kc4
      refine ⟨fun hz => absurd hz (by decide), fun _ => hy hg2 I4 (fun b hb => by rw [f4 b (by omega), f12.rd.l b hb]) ?_ kc4 ?_ ?_⟩
      · obtain ⟨⟨k31, k32⟩, k33, k34⟩ := k2
        exact ⟨⟨by rw [a4 8 (by decide)]; exact k31, by rw [a4 9 (by decide)]; exact k32⟩, by rw [f4 (a + 6) (by omega)]; exact k33, k34⟩
      · rw [catL_app]
        simp only [List.length_append, List.length_map, List.length_nil]
        omega
      · exact ⟨Or.inr (Or.inr rfl), ⟨nb.2.2.1, nb.2.2.2.1⟩, fun hz => absurd rfl hz⟩
    · rw [if_neg (by rw [hg]; decide)] at hn
      exact hn rfl I1 f1.rd.l k1
  · -- earn
    rw [if_neg h1, if_pos h2] at hy hn
    have sb := spS_bd (T := T) (e := e) (mu_str 0) k (sp 0 (by omega)) hb.2.1
    refine k_word (i := 0) (by omega) hG ha hX (by omega) hK (fun hg I1 f1 k1 => ⟨fun hz => absurd hz (by decide), fun _ => ⟨hG.1, ?_⟩⟩) (fun hg I1 f1 k1 => ⟨fun _ => ?_, fun hz => absurd rfl hz⟩)
    · rw [if_pos hg] at hy hn
      unfold cla3 at hy hn
      have nb := numS_bd (T := T) (e := e) sb.2.1
      refine k_number (by omega) hG k1 (fun hg2 I2 f2 k2 n2 => ⟨fun hz => absurd hz (by decide), fun _ => ⟨hG.1, ?_⟩⟩) (fun hg2 I2 f2 k2 => ⟨fun _ => ?_, fun hz => absurd rfl hz⟩)
      · rw [if_pos hg2] at hy hn
        have f12 := f1.tr f2
        rw [n2]
        refine k_take1 (by omega) hG k2 32 (by omega) (fun hs I3 f3 k3 => ⟨fun hz => absurd hz (by decide), fun _ => ⟨hG.1, ?_⟩⟩) (fun hs => ⟨fun _ => ?_, fun hz => absurd rfl hz⟩)
        · rw [if_pos hs] at hy hn
          unfold cla2 at hy hn
          exact expr (d + 1) _ 0 _ I3 Q (by omega) (f12.tr f3) k3 (by omega) (Or.inl rfl) ⟨nb.2.2.1, nb.2.2.2.1⟩ hy hn
        · rw [if_neg hs] at hn
          exact hn rfl I2 f12.rd.l k2
      · rw [if_neg (by rw [hg2]; decide)] at hn
        exact hn rfl I2 (f1.tr f2).rd.l k2
    · rw [if_neg (by rw [hg]; decide)] at hn
      exact hn rfl I1 f1.rd.l k1
  · -- rest
    rw [if_neg h1, if_neg h2, if_pos h3] at hy hn
    have sb := spS_bd (T := T) (e := e) (mu_str 3) k (sp 3 (by omega)) hb.2.1
    refine k_word (i := 3) (by omega) hG ha hX (by omega) hK (fun hg I1 f1 k1 => ⟨fun hz => absurd hz (by decide), fun _ => ⟨hG.1, ?_⟩⟩) (fun hg I1 f1 k1 => ⟨fun _ => ?_, fun hz => absurd rfl hz⟩)
    · rw [if_pos hg] at hy hn
      unfold cla2 at hy hn
      exact expr (d + 1) _ 1 0 I1 Q (by omega) f1 k1 (by omega) (Or.inr rfl) (by omega) hy hn
    · rw [if_neg (by rw [hg]; decide)] at hn
      exact hn rfl I1 f1.rd.l k1
  · rw [if_neg h1, if_neg h2, if_neg h3] at hn
    exact hn rfl I (fun b _ => rfl) hK
end

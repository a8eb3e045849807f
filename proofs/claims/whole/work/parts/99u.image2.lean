/-! level 2: alike answers: the image, written -/
theorem h_img {S : Hp} {c : Nat} {C : Cr} {z : Nat → Nat} (hC : okCr C) (hz : okZ C z) (hc : c = 100 ∨ c = 150) (h0 : S.1 (c + 1) 0 = nI (cP C)) (h1 : S.1 (c + 1) 1 = nI (cT C)) (h2 : S.1 (c + 1) 2 = nI (cW C)) (hs : stH S 1200 C z) : ∃ S', f_X5_write 1200 c S = some S' ∧ imH S' (imG C z) ∧ fH f90 S S' := by
  obtain ⟨⟨hnp, hnt, hnw⟩, -⟩ := id hC
  obtain ⟨y0, y1, y2, -⟩ := id hz
  obtain ⟨S1, hS1⟩ : ∃ S1, S1 = ho_sI S 90 1 (0 : Int32) := ⟨_, rfl⟩
  have f1 : fH f90 S S1 := by rw [hS1]; exact fH_sI S (Or.inl rfl) (by decide)
  have i1 : imH S1 [] := ⟨by rw [hS1, sI_v]; rfl, fun i hi => absurd hi (Nat.not_lt_zero i)⟩
  obtain ⟨S2, a1, a2, -, a4⟩ := h_put (S := S1) (v := z 0) (j := 2) (L := []) (x := 2) (by decide) (by omega) (by decide) (by show 0 + 2 ≤ 48; omega) i1
  obtain ⟨S3, b1, b2, -, b4⟩ := h_put (S := S2) (v := z 1) (j := 3) (L := [] ++ byV (z 0) 2) (x := 3) (by decide) (by omega) (by decide) (by rw [List.length_append, byV_len]; show 0 + 2 + 3 ≤ 48; omega) a2
  obtain ⟨S4, c1, c2, -, c4⟩ := h_put (S := S3) (v := z 2) (j := 1) (L := [] ++ byV (z 0) 2 ++ byV (z 1) 3) (x := 1) (by decide) (by omega) (by decide) (by rw [List.length_append, List.length_append, byV_len, byV_len]; show 0 + 2 + 3 + 1 ≤ 48; omega) b2
  have f4 : fH f90 S S4 := fH_tr f1 (fH_tr a4 (fH_tr b4 c4))
  have e : ∀ {S' : Hp}, fH f90 S S' → ∀ b, b ≠ 90 → b ≠ 91 → S'.1 b = S.1 b := fun hf b q1 q2 => hf.1 b (fun q => by rcases q with q | q <;> omega)
  have s4 := stH_f hs f4 (fun b q => by rcases q with q | q <;> omega)
  have c2' : imH S4 (imA z ++ imP z 0) := by
    have : imA z ++ imP z 0 = [] ++ byV (z 0) 2 ++ byV (z 1) 3 ++ byV (z 2) 1 := by
      unfold imA imP
      rw [List.append_nil, List.nil_append]
    rw [this]; exact c2
  obtain ⟨S5, d1, d2, d3⟩ := h_w34 (c := c) hC hz hc (imA_len z) (cP C) 0 5000 S4 (by omega) (by omega) (by rw [e f4 _ (by omega) (by omega)]; exact h0) s4 c2'
  have f5 := fH_tr f4 d3
  have s5 := stH_f hs f5 (fun b q => by rcases q with q | q <;> omega)
  obtain ⟨S6, g1, g2, g3⟩ := h_w63 (c := c) (L := imA z ++ imP z (cP C)) hC hz hc (by rw [List.length_append, imA_len, imP_len]; omega) (cT C) 0 5000 S5 (by omega) (by omega) (by rw [e f5 _ (by omega) (by omega)]; exact h1) s5 (by rw [imT, List.append_nil]; exact d2)
  have f6 := fH_tr f5 g3
  have s6 := stH_f hs f6 (fun b q => by rcases q with q | q <;> omega)
  obtain ⟨S7, k1, k2, k3⟩ := h_w103 (c := c) (L := imA z ++ imP z (cP C) ++ imT z (cT C)) hC hz hc (by rw [List.length_append, List.length_append, imA_len, imP_len, imT_len]; omega) (cW C) 0 5000 S6 (by omega) (by omega) (by rw [e f6 _ (by omega) (by omega)]; exact h2) s6 (by rw [imW, List.append_nil]; exact g2)
  have f7 := fH_tr f6 k3
  have k2' : imH S7 (imB C z) := k2
  have lb := imB_len C z
  have w := h_w136 (c := c) (L := imB C z) (by rw [lb]; omega) (fun x => imB_lt) k2' (imB C z).length 0 5000 97 (by omega) (by rw [lb]; omega) (by decide)
  rw [List.drop_zero] at w
  have hk := ck_lt (imB C z) 97 (by decide)
  obtain ⟨S8, l1, l2, -, l4⟩ := h_put (S := S7) (v := (imB C z).foldl ckS 97) (j := 1) (L := imB C z) (x := 1) (by decide) (by omega) (by decide) (by rw [lb]; omega) k2'
  refine ⟨S8, ?_, l2, fH_tr f7 l4⟩
  unfold f_X5_write
  rw [le1_e, ← hS1, show S1.1 1200 0 = nI (z 0) by rw [e f1 _ (by omega) (by omega)]; exact hs.2.1.1, a1, ob_s, show S2.1 1200 1 = nI (z 1) by rw [e (fH_tr f1 a4) _ (by omega) (by omega)]; exact hs.2.1.2.1, b1, ob_s, show S3.1 1200 2 = nI (z 2) by rw [e (fH_tr f1 (fH_tr a4 b4)) _ (by omega) (by omega)]; exact hs.2.1.2.2, c1, ob_s, show f_X5_write_34 1200 c 5000 (0 : Int32) S4 = _ from d1, show f_X5_write_63 1200 c 5000 (0 : Int32) S5 = _ from g1, show f_X5_write_103 1200 c 5000 (0 : Int32) S6 = _ from k1, show f_X5_write_136 1200 c 5000 (97 : Int32) (0 : Int32) S7 = _ from w, l1, ob_s]
abbrev p110 (b k : Nat) : Prop := (b = 0 ∧ k = 110) ∨ b = 110
theorem m_i55 {C : Cr} {z : Nat → Nat} {L : List Nat} (hC : okCr C) (hz : okZ C z) (hL : L.length = 6) : ∀ (d i K : Nat) (S : Hp), i + d = cP C → d < K → S.1 41 3 = nI (cP C) → mZ S C z → imM S (L ++ imP z i) → ∃ S', f_X12_image_55 K (nI i) S = f_X12_image_83 5000 (0 : Int32) S' ∧ imM S' (L ++ imP z (cP C)) ∧ fN p110 S S' := by
  have hnp := hC.1.1
  intro d
  induction d with
  | zero =>
    intro i K S hi hK h hs him
    obtain ⟨K, rfl⟩ : ∃ q, K = q + 1 := ⟨K - 1, by omega⟩
    refine ⟨S, by rw [f_X12_image_55, f_X12_provinceMany, ldI_L 3 (by decide) (by decide), h, ob2_s, if_pos (nI_le (by omega) (by omega))], ?_, fN_rf _ S⟩
    rw [← show i = cP C by omega]; exact him
  | succ d ih =>
    intro i K S hi hK h hs him
    obtain ⟨K, rfl⟩ : ∃ q, K = q + 1 := ⟨K - 1, by omega⟩
    have hv := hz.2.2.2.1 i (by omega)
    obtain ⟨S1, r1, r2, r4⟩ := m_wr2 (S := S) (v := z (3 + i)) (L := L ++ imP z i) (by omega) (by rw [List.length_append, imP_len]; omega) him
    obtain ⟨S2, q1, q2, q3⟩ := ih (i + 1) K S1 (by omega) (by omega) (by rw [r4.1 _ _ (by first | decide | (dsimp only; omega) | omega)]; exact h) (mZ_f hs r4 (fun b k q => by omega)) (by rw [imP, ← List.append_assoc]; exact r2)
    refine ⟨S2, ?_, q2, fN_tr r4 q3⟩
    rw [f_X12_image_55, f_X12_provinceMany, ldI_L 3 (by decide) (by decide), h, ob2_s, if_neg (nI_ge (by omega) (by omega)), lit_nI 3, nI_add, ldI_n (by omega) (by decide), hs.1 _ (by omega), r1, ob_s, le1_e, nI_1]
    exact q1
theorem m_i83 {C : Cr} {z : Nat → Nat} {L : List Nat} (hC : okCr C) (hz : okZ C z) (hL : L.length ≤ 18) : ∀ (d i K : Nat) (S : Hp), i + d = cT C → d < K → S.1 41 4 = nI (cT C) → mZ S C z → imM S (L ++ imT z i) → ∃ S', f_X12_image_83 K (nI i) S = f_X12_image_117 5000 (0 : Int32) S' ∧ imM S' (L ++ imT z (cT C)) ∧ fN p110 S S' := by
  have hnt := hC.1.2.1
  intro d
  induction d with
  | zero =>
    intro i K S hi hK h hs him
    obtain ⟨K, rfl⟩ : ∃ q, K = q + 1 := ⟨K - 1, by omega⟩
    refine ⟨S, by rw [f_X12_image_83, f_X12_trickMany, ldI_L 4 (by decide) (by decide), h, ob2_s, if_pos (nI_le (by omega) (by omega))], ?_, fN_rf _ S⟩
    rw [← show i = cT C by omega]; exact him
  | succ d ih =>
    intro i K S hi hK h hs him
    obtain ⟨K, rfl⟩ : ∃ q, K = q + 1 := ⟨K - 1, by omega⟩
    have hv := hz.2.2.2.2.1 i (by omega)
    have hv2 := hz.2.2.2.2.2.1 i (by omega)
    obtain ⟨S1, r1, r2, r4⟩ := m_wr2 (S := S) (v := z (9 + i)) (L := L ++ imT z i) (by omega) (by rw [List.length_append, imT_len]; omega) him
    have s1 := mZ_f hs r4 (fun b k q => by omega)
    obtain ⟨S2, t1, t2, t4⟩ := m_wr2 (S := S1) (v := z (15 + i)) (L := L ++ imT z i ++ byV (z (9 + i)) 2) (by omega) (by rw [List.length_append, List.length_append, imT_len, byV_len]; omega) r2
    obtain ⟨S3, q1, q2, q3⟩ := ih (i + 1) K S2 (by omega) (by omega) (by rw [t4.1 _ _ (by first | decide | (dsimp only; omega) | omega), r4.1 _ _ (by first | decide | (dsimp only; omega) | omega)]; exact h) (mZ_f s1 t4 (fun b k q => by omega)) (by rw [imT, ← List.append_assoc, ← List.append_assoc]; exact t2)
    refine ⟨S3, ?_, q2, fN_tr r4 (fN_tr t4 q3)⟩
    rw [f_X12_image_83, f_X12_trickMany, ldI_L 4 (by decide) (by decide), h, ob2_s, if_neg (nI_ge (by omega) (by omega)), f_X12_timesOf, lit_nI 9, nI_add, ldI_n (by omega) (by decide), hs.1 _ (by omega), ob2_s, r1, ob_s, f_X12_knownOf, lit_nI 15, nI_add, ldI_n (by omega) (by decide), s1.1 _ (by omega), ob2_s, t1, ob_s, le1_e, nI_1]
    exact q1
theorem m_ck {S : Hp} {w0 n0 : Nat} {L : List Nat} (hn : n0 < 2 ^ 31) (hL : L.length ≤ n0) (hb : ∀ x ∈ L, x < 256) (h : ∀ i, i < L.length → S.1 w0 i = nI (L.getD i 0)) : ∀ (d i K a : Nat), i + d = L.length → d < K → a < 251 → f_X12_checked_5 w0 n0 K (nI L.length) (nI a) (nI i) S = some (nI ((L.drop i).foldl ckS a), S)
  | 0, i, K, a, hi, hK, ha => by
    obtain ⟨K, rfl⟩ : ∃ q, K = q + 1 := ⟨K - 1, by omega⟩
    rw [f_X12_checked_5, if_pos (nI_le (by omega) (by omega)), List.drop_of_length_le (by omega)]; rfl
  | d + 1, i, K, a, hi, hK, ha => by
    obtain ⟨K, rfl⟩ : ∃ q, K = q + 1 := ⟨K - 1, by omega⟩
    have hi' : i < L.length := by omega
    have hx : L.getD i 0 < 256 := by
      rw [List.getD_eq_getElem?_getD, List.getElem?_eq_getElem hi']
      exact hb _ (List.getElem_mem hi')
    have ih := m_ck hn hL hb h d (i + 1) K (ckS a (L.getD i 0)) (by omega) (by omega) (Nat.mod_lt _ (by decide))
    rw [f_X12_checked_5, if_neg (nI_ge (by omega) (by omega)), ldI_n (by omega) hn, h i hi', lit_nI 3, pk_mul, nI_add, lit_nI 251, pk_rem (by omega) (by decide) (by decide), le1_e, le1_e, nI_1, show (3 * a + L.getD i 0) % 251 = ckS a (L.getD i 0) from rfl, ih, dr_c hi']
    rfl
theorem byV1 {v : Nat} (h : v < 256) : byV v 1 = [v] := by
  show [v / 256 ^ 0 % 256] = _
  rw [Nat.pow_zero, Nat.div_one, Nat.mod_eq_of_lt h]

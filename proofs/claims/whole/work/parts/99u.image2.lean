/-! level 2: alike answers: the image, written -/
theorem h_img {S : Hp} {c : Nat} {C : Cr} {z : Nat → Nat} (hC : okCr C) (hz : okZ C z) (hc : c = 100 ∨ c = 150) (h0 : S.1 (c + 1) 0 = nI (cP C)) (h1 : S.1 (c + 1) 1 = nI (cT C)) (h2 : S.1 (c + 1) 2 = nI (cW C)) (hs : stH S 1200 C z) : ∃ S', f_X5_write 1200 c S = some S' ∧ imH S' (imG C z) ∧ fH f90 S S' := by
  obtain ⟨⟨hnp, hnt, hnw⟩, -⟩ := id hC
  obtain ⟨y0, y1, y2, -⟩ := id hz
  obtain ⟨S1, hS1⟩ : ∃ S1, S1 = ho_sI S 90 1 (0 : Int32) := ⟨_, rfl⟩
  have f1 : fH f90 S S1 := by rw [hS1]; exact fH_sI S (Or.inl rfl) (by decide)
  have i1 : imH S1 [] := ⟨by rw [hS1, sI_v]; rfl, fun i hi => absurd hi (Nat.not_lt_zero i)⟩
  obtain ⟨S2, a1, a2, -, a4⟩ := h_put (S := S1) (v := z 0) (j := 2) (L := []) (x := 2) (by decide) (by omega) (by decide) (by show 0 + 2 ≤ 48; omega) i1
  obtain ⟨S3, b1, b2, -, b4⟩ := h_put (S := S2) (v := z 1) (j := 3) (L := [] ++ byV (z 0) 2) (x := 3) (by decide) (by omega) (by decide) (by rw [List.length_append, byV_len]; show 0 + 2 + 3 ≤ 48; omega) a2
  obtain ⟨S4, c1, c2, -, c4⟩ := h_put (S := S3) (v := z 2) (j := 1) (L := [] ++ byV (z 0) 2 ++ byV (z 1) 3) (x := 1) (by decide) (by omega) (by decide) (by rw [List.length_append, List.length_append, byV_len, byV_len]; show 0 + 2 + 3 + 1 ≤ 48; omega) b2
  have f4 : fH f90 S S4 := fH_tr f1 (fH_tr a4 (fH_tr b4 c4))
  have e : ∀ {S' : Hp}, fH f90 S S' → ∀ b, b ≠ 90 → b ≠ 91 → S'.1 b = S.1 b := fun hf b q1 q2 => hf.1 b (fun q => by rcases q with q | q <;> omega)
  have s4 := stH_f hs f4 (fun b q => by rcases q with q | q <;> omega)
  have c2' : imH S4 (imA z ++ imP z 0) := by
    have : imA z ++ imP z 0 = [] ++ byV (z 0) 2 ++ byV (z 1) 3 ++ byV (z 2) 1 := by
      unfold imA imP
      rw [List.append_nil, List.nil_append]
    rw [this]; exact c2
  obtain ⟨S5, d1, d2, d3⟩ := h_w34 (c := c) hC hz hc (imA_len z) (cP C) 0 5000 S4 (by omega) (by omega) (by rw [e f4 _ (by omega) (by omega)]; exact h0) s4 c2'
  have f5 := fH_tr f4 d3
  have s5 := stH_f hs f5 (fun b q => by rcases q with q | q <;> omega)
  obtain ⟨S6, g1, g2, g3⟩ := h_w63 (c := c) (L := imA z ++ imP z (cP C)) hC hz hc (by rw [List.length_append, imA_len, imP_len]; omega) (cT C) 0 5000 S5 (by omega) (by omega) (by rw [e f5 _ (by omega) (by omega)]; exact h1) s5 (by rw [imT, List.append_nil]; exact d2)
  have f6 := fH_tr f5 g3
  have s6 := stH_f hs f6 (fun b q => by rcases q with q | q <;> omega)
  obtain ⟨S7, k1, k2, k3⟩ := h_w103 (c := c) (L := imA z ++ imP z (cP C) ++ imT z (cT C)) hC hz hc (by rw [List.length_append, List.length_append, imA_len, imP_len, imT_len]; omega) (cW C) 0 5000 S6 (by omega) (by omega) (by rw [e f6 _ (by omega) (by omega)]; exact h2) s6 (by rw [imW, List.append_nil]; exact g2)
  have f7 := fH_tr f6 k3
  have k2' : imH S7 (imB C z) := k2
  have lb := imB_len C z
  have w := h_w136 (c := c) (L := imB C z) (by rw [lb]; omega) (fun x => imB_lt) k2' (imB C z).length 0 5000 97 (by omega) (by rw [lb]; omega) (by decide)
  rw [List.drop_zero] at w
  have hk := ck_lt (imB C z) 97 (by decide)
  obtain ⟨S8, l1, l2, -, l4⟩ := h_put (S := S7) (v := (imB C z).foldl ckS 97) (j := 1) (L := imB C z) (x := 1) (by decide) (by omega) (by decide) (by rw [lb]; omega) k2'
  refine ⟨S8, ?_, l2, fH_tr f7 l4⟩
  unfold f_X5_write
  rw [le1_e, ← hS1, show S1.1 1200 0 = nI (z 0) by rw [e f1 _ (by omega) (by omega)]; exact hs.2.1.1, a1, ob_s, show S2.1 1200 1 = nI (z 1) by rw [e (fH_tr f1 a4) _ (by omega) (by omega)]; exact hs.2.1.2.1, b1, ob_s, show S3.1 1200 2 = nI (z 2) by rw [e (fH_tr f1 (fH_tr a4 b4)) _ (by omega) (by omega)]; exact hs.2.1.2.2, c1, ob_s, show f_X5_write_34 1200 c 5000 (0 : Int32) S4 = _ from d1, show f_X5_write_63 1200 c 5000 (0 : Int32) S5 = _ from g1, show f_X5_write_103 1200 c 5000 (0 : Int32) S6 = _ from k1, show f_X5_write_136 1200 c 5000 (97 : Int32) (0 : Int32) S7 = _ from w, l1, ob_s]
abbrev p110 (b k : Nat) : Prop := (b = 0 ∧ k = 110) ∨ b = 110
theorem m_i55 {C : Cr} {z : Nat → Nat} {L : List Nat} (hC : okCr C) (hz : okZ C z) (hL : L.length = 6) : ∀ (d i K : Nat) (S : Hp), i + d = cP C → d < K → S.1 41 3 = nI (cP C) → mZ S C z → imM S (L ++ imP z i) → ∃ S', f_X12_image_55 K (nI i) S = f_X12_image_83 5000 (0 : Int32) S' ∧ imM S' (L ++ imP z (cP C)) ∧ fN p110 S S' := by
  have hnp := hC.1.1
  intro d
  induction d with
  | zero =>
    intro i K S hi hK h hs him
    obtain ⟨K, rfl⟩ : ∃ q, K = q + 1 := ⟨K - 1, by omega⟩
    refine ⟨S, by rw [f_X12_image_55, f_X12_provinceMany, ldI_L 3 (by decide) (by decide), h, ob2_s, if_pos (nI_le (by omega) (by omega))], ?_, fN_rf _ S⟩
    rw [← show i = cP C by omega]; exact him
  | succ d ih =>
    intro i K S hi hK h hs him
    obtain ⟨K, rfl⟩ : ∃ q, K = q + 1 := ⟨K - 1, by omega⟩
    have hv := hz.2.2.2.1 i (by omega)
    obtain ⟨S1, r1, r2, r4⟩ := m_wr2 (S := S) (v := z (3 + i)) (L := L ++ imP z i) (by omega) (by rw [List.length_append, imP_len]; omega) him
    obtain ⟨S2, q1, q2, q3⟩ := ih (i + 1) K S1 (by omega) (by omega) (by rw [r4.1 _ _ (by first | decide | (dsimp only; omega) | omega)]; exact h) (mZ_f hs r4 (fun b k q => by omega)) (by rw [imP, ← List.append_assoc]; exact r2)
    refine ⟨S2, ?_, q2, fN_tr r4 q3⟩
    rw [f_X12_image_55, f_X12_provinceMany, ldI_L 3 (by decide) (by decide), h, ob2_s, if_neg (nI_ge (by omega) (by omega)), lit_nI 3, nI_add, ldI_n (by omega) (by decide), hs.1 _ (by omega), r1, ob_s, le1_e, nI_1]
    exact q1
theorem m_i83 {C : Cr} {z : Nat → Nat} {L : List Nat} (hC : okCr C) (hz : okZ C z) (hL : L.length ≤ 18) : ∀ (d i K : Nat) (S : Hp), i + d = cT C → d < K → S.1 41 4 = nI (cT C) → mZ S C z → imM S (L ++ imT z i) → ∃ S', f_X12_image_83 K (nI i) S = f_X12_image_117 5000 (0 : Int32) S' ∧ imM S' (L ++ imT z (cT C)) ∧ fN p110 S S' := by
  have hnt := hC.1.2.1
  intro d
  induction d with
  | zero =>
    intro i K S hi hK h hs him
    obtain ⟨K, rfl⟩ : ∃ q, K = q + 1 := ⟨K - 1, by omega⟩
    refine ⟨S, by rw [f_X12_image_83, f_X12_trickMany, ldI_L 4 (by decide) (by decide), h, ob2_s, if_pos (nI_le (by omega) (by omega))], ?_, fN_rf _ S⟩
    rw [← show i = cT C by omega]; exact him
  | succ d ih =>
    intro i K S hi hK h hs him
    obtain ⟨K, rfl⟩ : ∃ q, K = q + 1 := ⟨K - 1, by omega⟩
    have hv := hz.2.2.2.2.1 i (by omega)
    have hv2 := hz.2.2.2.2.2.1 i (by omega)
    obtain ⟨S1, r1, r2, r4⟩ := m_wr2 (S := S) (v := z (9 + i)) (L := L ++ imT z i) (by omega) (by rw [List.length_append, imT_len]; omega) him
    have s1 := mZ_f hs r4 (fun b k q => by omega)
    obtain ⟨S2, t1, t2, t4⟩ := m_wr2 (S := S1) (v := z (15 + i)) (L := L ++ imT z i ++ byV (z (9 + i)) 2) (by omega) (by rw [List.length_append, List.length_append, imT_len, byV_len]; omega) r2
    obtain ⟨S3, q1, q2, q3⟩ := ih (i + 1) K S2 (by omega) (by omega) (by rw [t4.1 _ _ (by first | decide | (dsimp only; omega) | omega), r4.1 _ _ (by first | decide | (dsimp only; omega) | omega)]; exact h) (mZ_f s1 t4 (fun b k q => by omega)) (by rw [imT, ← List.append_assoc, ← List.append_assoc]; exact t2)
    refine ⟨S3, ?_, q2, fN_tr r4 (fN_tr t4 q3)⟩
    rw [f_X12_image_83, f_X12_trickMany, ldI_L 4 (by decide) (by decide), h, ob2_s, if_neg (nI_ge (by omega) (by omega)), f_X12_timesOf, lit_nI 9, nI_add, ldI_n (by omega) (by decide), hs.1 _ (by omega), ob2_s, r1, ob_s, f_X12_knownOf, lit_nI 15, nI_add, ldI_n (by omega) (by decide), s1.1 _ (by omega), ob2_s, t1, ob_s, le1_e, nI_1]
    exact q1
theorem m_ck {S : Hp} {w0 n0 : Nat} {L : List Nat} (hn : n0 < 2 ^ 31) (hL : L.length ≤ n0) (hb : ∀ x ∈ L, x < 256) (h : ∀ i, i < L.length → S.1 w0 i = nI (L.getD i 0)) : ∀ (d i K a : Nat), i + d = L.length → d < K → a < 251 → f_X12_checked_5 w0 n0 K (nI L.length) (nI a) (nI i) S = some (nI ((L.drop i).foldl ckS a), S)
  | 0, i, K, a, hi, hK, ha => by
    obtain ⟨K, rfl⟩ : ∃ q, K = q + 1 := ⟨K - 1, by omega⟩
    rw [f_X12_checked_5, if_pos (nI_le (by omega) (by omega)), List.drop_of_length_le (by omega)]; rfl
  | d + 1, i, K, a, hi, hK, ha => by
    obtain ⟨K, rfl⟩ : ∃ q, K = q + 1 := ⟨K - 1, by omega⟩
    have hi' : i < L.length := by omega
    have hx : L.getD i 0 < 256 := by
      rw [List.getD_eq_getElem?_getD, List.getElem?_eq_getElem hi']
      exact hb _ (List.getElem_mem hi')
    have ih := m_ck hn hL hb h d (i + 1) K (ckS a (L.getD i 0)) (by omega) (by omega) (Nat.mod_lt _ (by decide))
    rw [f_X12_checked_5, if_neg (nI_ge (by omega) (by omega)), ldI_n (by omega) hn, h i hi', lit_nI 3, pk_mul, nI_add, lit_nI 251, pk_rem (by omega) (by decide) (by decide), le1_e, le1_e, nI_1, show (3 * a + L.getD i 0) % 251 = ckS a (L.getD i 0) from rfl, ih, dr_c hi']
    rfl
theorem byV1 {v : Nat} (h : v < 256) : byV v 1 = [v] := by
  show [v / 256 ^ 0 % 256] = _
  rw [Nat.pow_zero, Nat.div_one, Nat.mod_eq_of_lt h]
theorem m_i117 {C : Cr} {z : Nat → Nat} {L : List Nat} (hC : okCr C) (hz : okZ C z) (hL : L.length ≤ 42) (hb : ∀ x ∈ L ++ imW z (cW C), x < 256) : ∀ (d i K : Nat) (S : Hp), i + d = cW C → d < K → S.1 41 5 = nI (cW C) → mZ S C z → imM S (L ++ imW z i) → ∃ S', f_X12_image_117 K (nI i) S = some (nI ((L ++ imW z (cW C)).length + 1), S') ∧ imM S' ((L ++ imW z (cW C)) ++ byV ((L ++ imW z (cW C)).foldl ckS 97) 1) ∧ fN p110 S S' := by
  have hnw := hC.1.2.2
  intro d
  induction d with
  | zero =>
    intro i K S hi hK h hs him
    obtain ⟨K, rfl⟩ : ∃ q, K = q + 1 := ⟨K - 1, by omega⟩
    rw [show i = cW C by omega] at him
    have hl : (L ++ imW z (cW C)).length ≤ 47 := by rw [List.length_append, imW_len]; omega
    have ck := m_ck (S := S) (w0 := 110) (n0 := 48) (L := L ++ imW z (cW C)) (by decide) (by omega) hb him.2 (L ++ imW z (cW C)).length 0 5000 97 (by omega) (by omega) (by decide)
    rw [List.drop_zero] at ck
    have hk := ck_lt (L ++ imW z (cW C)) 97 (by decide)
    obtain ⟨S1, r1, r2, r3⟩ := m_wr (v := (L ++ imW z (cW C)).foldl ckS 97) (L := L ++ imW z (cW C)) (by omega) him
    refine ⟨S1, ?_, by rw [byV1 (by omega)]; exact r2, r3⟩
    rw [f_X12_image_117, f_X12_watcherMany, ldI_L 5 (by decide) (by decide), h, ob2_s, if_pos (nI_le (by omega) (by omega)), him.1, show f_X12_checked 110 48 (nI (L ++ imW z (cW C)).length) S = _ from ck, ob2_s, r1, ob_s, r2.1, List.length_append (bs := [_])]
    rfl
  | succ d ih =>
    intro i K S hi hK h hs him
    obtain ⟨K, rfl⟩ : ∃ q, K = q + 1 := ⟨K - 1, by omega⟩
    have hv := hz.2.2.2.2.2.2.1 i (by omega)
    obtain ⟨S1, r1, r2, r4⟩ := m_wr (S := S) (v := z (21 + i)) (L := L ++ imW z i) (by rw [List.length_append, imW_len]; omega) him
    obtain ⟨S2, q1, q2, q3⟩ := ih (i + 1) K S1 (by omega) (by omega) (by rw [r4.1 _ _ (by first | decide | (dsimp only; omega) | omega)]; exact h) (mZ_f hs r4 (fun b k q => by omega)) (by rw [imW, byV1 (by omega), ← List.append_assoc]; exact r2)
    refine ⟨S2, ?_, q2, fN_tr r4 q3⟩
    rw [f_X12_image_117, f_X12_watcherMany, ldI_L 5 (by decide) (by decide), h, ob2_s, if_neg (nI_ge (by omega) (by omega)), m_seat (by omega), ob2_s, hs.2 i (by omega), r1, ob_s, le1_e, nI_1]
    exact q1
theorem m_img {S : Hp} {C : Cr} {z : Nat → Nat} (hC : okCr C) (hz : okZ C z) (h : mC S C) (hs : mZ S C z) : ∃ S', f_X12_image S = some (nI (imG C z).length, S') ∧ imM S' (imG C z) ∧ fN p110 S S' := by
  obtain ⟨⟨hnp, hnt, hnw⟩, -⟩ := id hC
  obtain ⟨y0, y1, y2, -⟩ := id hz
  obtain ⟨S1, hS1⟩ : ∃ S1, S1 = ho_sI S 0 110 (0 : Int32) := ⟨_, rfl⟩
  have f1 : fN p110 S S1 := by rw [hS1]; exact fN_sI S (Or.inl ⟨rfl, rfl⟩)
  have i1 : imM S1 [] := ⟨by rw [hS1, sI_v]; rfl, fun i hi => absurd hi (Nat.not_lt_zero i)⟩
  have e : ∀ {S' : Hp}, fN p110 S S' → ∀ b k, b ≠ 0 → b ≠ 110 → S'.1 b k = S.1 b k := fun hf b k q1 q2 => hf.1 b k (fun q => by rcases q with q | q <;> omega)
  have mz : ∀ {S' : Hp}, fN p110 S S' → mZ S' C z := fun hf => mZ_f hs hf (fun b k q => by rcases q with q | q <;> omega)
  obtain ⟨S2, a1, a2, a4⟩ := m_wr2 (S := S1) (v := z 0) (L := []) (by omega) (by show 0 + 2 ≤ 48; omega) i1
  obtain ⟨S3, b1, b2, b4⟩ := m_wr (S := S2) (v := z 1 / 65536) (L := [] ++ byV (z 0) 2) (by rw [List.length_append, byV_len]; show 0 + 2 < 48; omega) a2
  obtain ⟨S4, c1, c2, c4⟩ := m_wr2 (S := S3) (v := z 1 % 65536) (L := [] ++ byV (z 0) 2 ++ [z 1 / 65536]) (by omega) (by rw [List.length_append, List.length_append, byV_len]; show 0 + 2 + 1 + 2 ≤ 48; omega) b2
  obtain ⟨S5, d1, d2, d4⟩ := m_wr (S := S4) (v := z 2) (L := [] ++ byV (z 0) 2 ++ [z 1 / 65536] ++ byV (z 1 % 65536) 2) (by rw [List.length_append, List.length_append, List.length_append, byV_len, byV_len]; show 0 + 2 + 1 + 2 < 48; omega) c2
  have f2 := fN_tr f1 a4
  have f3 := fN_tr f2 b4
  have f4 := fN_tr f3 c4
  have f5 := fN_tr f4 d4
  have d2' : imM S5 (imA z ++ imP z 0) := by
    have : imA z ++ imP z 0 = [] ++ byV (z 0) 2 ++ [z 1 / 65536] ++ byV (z 1 % 65536) 2 ++ [z 2] := by
      unfold imA imP
      rw [List.append_nil, List.nil_append, byV1 (show z 2 < 256 by omega), List.append_assoc (byV (z 0) 2) [z 1 / 65536]]
      have e3 : byV (z 1) 3 = [z 1 / 65536] ++ byV (z 1 % 65536) 2 := by
        show [z 1 / 256 ^ 2 % 256, z 1 / 256 ^ 1 % 256, z 1 / 256 ^ 0 % 256] = [z 1 / 65536, z 1 % 65536 / 256 ^ 1 % 256, z 1 % 65536 / 256 ^ 0 % 256]
        have q1 : z 1 / 256 ^ 2 % 256 = z 1 / 65536 := by omega
        have q2 : z 1 / 256 ^ 1 % 256 = z 1 % 65536 / 256 ^ 1 % 256 := by omega
        have q3 : z 1 / 256 ^ 0 % 256 = z 1 % 65536 / 256 ^ 0 % 256 := by omega
        rw [q1, q2, q3]
      rw [e3]
    rw [this]; exact d2
  obtain ⟨S6, g1, g2, g3⟩ := m_i55 hC hz (imA_len z) (cP C) 0 5000 S5 (by omega) (by omega) (by rw [e f5 _ _ (by omega) (by omega)]; exact h.1.1) (mz f5) d2'
  have f6 := fN_tr f5 g3
  obtain ⟨S7, k1, k2, k3⟩ := m_i83 (L := imA z ++ imP z (cP C)) hC hz (by rw [List.length_append, imA_len, imP_len]; omega) (cT C) 0 5000 S6 (by omega) (by omega) (by rw [e f6 _ _ (by omega) (by omega)]; exact h.1.2.1) (mz f6) (by rw [imT, List.append_nil]; exact g2)
  have f7 := fN_tr f6 k3
  obtain ⟨S8, l1, l2, l3⟩ := m_i117 (L := imA z ++ imP z (cP C) ++ imT z (cT C)) hC hz (by rw [List.length_append, List.length_append, imA_len, imP_len, imT_len]; omega) (fun x hx => imB_lt (C := C) (z := z) hx) (cW C) 0 5000 S7 (by omega) (by omega) (by rw [e f7 _ _ (by omega) (by omega)]; exact h.1.2.2) (mz f7) (by rw [imW, List.append_nil]; exact k2)
  have lg : (imG C z).length = (imB C z).length + 1 := by unfold imG; rw [List.length_append, byV_len]
  refine ⟨S8, ?_, l2, fN_tr f7 l3⟩
  unfold f_X12_image
  rw [le1_e, ← hS1, ldI_L 0 (by decide) (by decide), (mz f1).1 0 (by decide), a1, ob_s, ldI_L 1 (by decide) (by decide), (mz f2).1 1 (by decide), lit_nI 65536, pk_div (by omega) (by decide) (by decide), b1, ob_s, ldI_L 1 (by decide) (by decide), (mz f3).1 1 (by decide), pk_rem (by omega) (by decide) (by decide), c1, ob_s, ldI_L 2 (by decide) (by decide), (mz f4).1 2 (by decide), d1, ob_s, show f_X12_image_55 5000 (0 : Int32) S5 = _ from g1, show f_X12_image_83 5000 (0 : Int32) S6 = _ from k1, show f_X12_image_117 5000 (0 : Int32) S7 = _ from l1, lg]
  rfl
def Xi (X : Xv) (L : List Nat) : Xv := (X.1, X.2.1, X.2.2.1, X.2.2.2.1, L, X.2.2.2.2.2)
theorem s_30 : sim_30 Sim := by
  intro SH SM h
  obtain ⟨X, cr, c, C, N, P, z, kl, ok, a, b, d, e, f⟩ := h
  obtain ⟨⟨hC, hz⟩, ok1, ok2, ok3, ok4⟩ := ok
  obtain ⟨c1, ⟨c2, c3, c4, c5⟩, ⟨c6, c7, c8⟩, c9, c10⟩ := a.2.2.2.1
  obtain ⟨⟨hnp, hnt, hnw⟩, -⟩ := id hC
  have mc := e.2.2.2.1.2.1
  obtain ⟨S1, r1, r2, r3⟩ := h_img hC hz c5 c6 c7 c8 b.1
  obtain ⟨M1, q1, q2, q3⟩ := m_img hC hz mc f.1
  have lg : (imG C z).length = 6 + 2 * cP C + 4 * cT C + cW C + 1 := by unfold imG; rw [List.length_append, byV_len, imB_len]
  unfold f_X11_image
  rw [ldP_n c2 (crH c5), r1, ob_s, r2.1, q1]
  have g : ∀ b, b ≠ 90 → b ≠ 91 → S1.1 b = SH.1 b := fun b q1 q2 => r3.1 b (fun q => by rcases q with q | q <;> omega)
  have gm : ∀ b k, ¬ (b = 0 ∧ k = 110) → b ≠ 110 → M1.1 b k = SM.1 b k := fun b k h1 h2 => q3.1 b k (fun q => by rcases q with q | q; exact h1 q; exact h2 q)
  have a' := a
  have e' := e
  obtain ⟨⟨u1, u2, u3, u4⟩, fl, rr, -, -, w, im, sd, -, -⟩ := a'
  obtain ⟨⟨⟨x1, x2, x3⟩, xw⟩, fl', rr', -, -, w', im', sd'⟩ := e'
  have i8 : h8 S1 (imG C z) := ⟨r2.1, fun i hi => by rw [r2.2 i hi, List.getD_eq_getElem?_getD, List.getElem?_eq_getElem hi]; rfl⟩
  have j8 : m8 M1 (imG C z) := ⟨q2.1, fun i hi => by rw [q2.2 i hi, List.getD_eq_getElem?_getD, List.getElem?_eq_getElem hi]; rfl⟩
  refine ⟨_, S1, M1, rfl, rfl, Xi X (imG C z), cr, c, C, N, P, z, kl, ⟨⟨hC, hz⟩, ok1, ok2, ⟨by show (imG C z).length ≤ 48; omega, fun v hv => imG_lt hv⟩, ok4⟩, hA_x a r3 (fun b q x => ?_) (fun k hk => by rw [g 0 (by decide) (by decide)]) ⟨u1, by rw [g 10 (by decide) (by decide)]; exact u2, by rw [g 11 (by decide) (by decide)]; exact u3, by rw [g 12 (by decide) (by decide)]; exact u4⟩ (by rw [g 10 (by decide) (by decide)]; exact fl) (by rw [g 1 (by decide) (by decide)]; exact rr) ⟨by rw [g 70 (by decide) (by decide)]; exact w.1, by rw [g 71 (by decide) (by decide), g 72 (by decide) (by decide)]; exact w.2⟩ i8 (by rw [g 0 (by decide) (by decide)]; exact sd), hN_f b r3 (fun b q x => by rcases x with x | x <;> omega), h10_f d r3 (fun b q x => by rcases x with x | x <;> omega), mA_x e (fun b k q => gm b k (by unfold crM at q; omega) (by unfold crM at q; omega)) (fun k => by rw [q3.2.1 42 (by decide)]) ⟨⟨x1, by rw [gm 0 1 (by omega) (by omega)]; exact x2, fun i hi => by rw [gm 1 i (by omega) (by omega)]; exact x3 i hi⟩, mWs_hi xw (fun b k q => gm b k (by omega) (by omega))⟩ ⟨by rw [gm 0 7 (by omega) (by omega)]; exact fl'.1, by rw [gm 0 8 (by omega) (by omega)]; exact fl'.2⟩ (fun k hk => by rw [gm 10 k (by omega) (by omega)]; exact rr' k hk) ⟨by rw [gm 0 66 (by omega) (by omega)]; exact w'.1, fun i hi => by rw [gm 68 _ (by omega) (by omega), gm 68 _ (by omega) (by omega), gm 68 _ (by omega) (by omega)]; exact w'.2 i hi⟩ j8 (by rw [q3.2.1 0 (by decide)]; exact sd'), mN_f f q3 (fun b k q => by rcases q with q | q <;> omega)⟩
  rcases x with x | x <;> (unfold crC at q; omega)

/-! level 2: alike answers: the image -/
theorem shrN {v k : Nat} (hv : v < 2 ^ 31) (hk : k = 0 ∨ k = 8 ∨ k = 16) : nI v >>> (nI k &&& 31) = nI (v / 2 ^ k) := by
  apply Int32.toInt_inj.mp
  have hs : ((nI k &&& 31).toBitVec.smod 32).toNat = k := by rcases hk with rfl | rfl | rfl <;> decide
  have hd : v / 2 ^ k ≤ v := Nat.div_le_self _ _
  rw [pk_shr _ _ k hs, nI_toInt hv, nI_toInt (by omega), Int.shiftRight_eq_div_pow]
  norm_cast
theorem and255 {w : Nat} (hw : w < 2 ^ 31) : nI w &&& (255 : Int32) = nI (w % 256) := by
  rw [show (255 : Int32) = nI 255 from rfl, andN, show (255 : Nat) = 2 ^ 8 - 1 from rfl, Nat.and_two_pow_sub_one_eq_mod]
def byV (v : Nat) : Nat → List Nat
  | 0 => []
  | j + 1 => v / 256 ^ j % 256 :: byV v j
def imH (S : Hp) (L : List Nat) : Prop := S.1 90 1 = nI L.length ∧ ∀ i, i < L.length → S.1 91 i = nI (L.getD i 0)
def imM (S : Hp) (L : List Nat) : Prop := S.1 0 110 = nI L.length ∧ ∀ i, i < L.length → S.1 110 i = nI (L.getD i 0)
theorem gD_app {L : List Nat} {v i : Nat} (h : i < L.length) : (L ++ [v]).getD i 0 = L.getD i 0 := by rw [List.getD_eq_getElem?_getD, List.getD_eq_getElem?_getD, List.getElem?_append_left h]
theorem gD_end {L : List Nat} {v : Nat} : (L ++ [v]).getD L.length 0 = v := by simp
theorem h_apI {S : Hp} {L : List Nat} {v : Nat} (h : imH S L) : imH (ho_sI (ho_sI S 91 L.length (nI v)) 90 1 (nI (L.length + 1))) (L ++ [v]) := by
  refine ⟨by rw [sI_v, List.length_append]; rfl, fun i hi => ?_⟩
  rw [List.length_append] at hi
  have hi' : i < L.length + 1 := hi
  rw [sI_ne _ (by decide)]
  by_cases e : i = L.length
  · subst e; rw [sI_v, gD_end]
  · rw [sI_k e, gD_app (by omega)]; exact h.2 i (by omega)
theorem h_put7 {v : Nat} (hv : v < 2 ^ 31) : ∀ (j K : Nat) (L : List Nat) (S : Hp), j ≤ 3 → j < K → L.length + j ≤ 48 → imH S L → ∃ S', f_X5_put_7 K (nI v) (nI (8 * j) + (-8 : Int32)) S = some S' ∧ imH S' (L ++ byV v j) ∧ (∀ k, k ≠ 1 → S'.1 90 k = S.1 90 k) ∧ fH (fun b => b = 90 ∨ b = 91) S S'
  | 0, K, L, S, hj, hK, hL, h => by
    obtain ⟨K, rfl⟩ : ∃ q, K = q + 1 := ⟨K - 1, by omega⟩
    exact ⟨S, by rw [f_X5_put_7, if_pos (by decide)], by rw [byV, List.append_nil]; exact h, fun _ _ => rfl, fH_rf _ S⟩
  | j + 1, K, L, S, hj, hK, hL, h => by
    obtain ⟨K, rfl⟩ : ∃ q, K = q + 1 := ⟨K - 1, by omega⟩
    have e8 : nI (8 * (j + 1)) + (-8 : Int32) = nI (8 * j) := by
      have : j = 0 ∨ j = 1 ∨ j = 2 := by omega
      rcases this with rfl | rfl | rfl <;> decide
    have hd : v / 2 ^ (8 * j) ≤ v := Nat.div_le_self _ _
    have e9 : v / 2 ^ (8 * j) = v / 256 ^ j := by rw [Nat.pow_mul]
    have f1 : fH (fun b => b = 90 ∨ b = 91) S (ho_sI (ho_sI S 91 L.length (nI (v / 256 ^ j % 256))) 90 1 (nI (L.length + 1))) := fH_tr (fH_sI S (Or.inr rfl) (by decide)) (fH_sI _ (Or.inl rfl) (by decide))
    obtain ⟨S', r1, r2, r3, r4⟩ := h_put7 hv j K (L ++ [v / 256 ^ j % 256]) _ (by omega) (by omega) (by rw [List.length_append]; show L.length + 1 + j ≤ 48; omega) (h_apI (v := v / 256 ^ j % 256) h)
    refine ⟨S', ?_, by rw [byV, List.append_cons]; exact r2, fun k hk => by rw [r3 k hk, sI_k hk, sI_ne _ (by decide)], fH_tr f1 r4⟩
    rw [f_X5_put_7, e8, if_neg (nI_pos (by omega)), h.1, if_neg (fun q => absurd ((geL 48 (by omega) (by decide)).mp q) (by omega)), shrN hv (by omega), and255 (by omega), e9, stI_n (by omega) (by decide), sI_ne _ (by decide), h.1, nI_1, le1_e]
    unfold f_X5_put_46
    rw [le1_e]
    exact r1
theorem m_wr {S : Hp} {L : List Nat} {v : Nat} (hl : L.length < 48) (h : imM S L) : ∃ S', f_X12_writes (nI v) S = some S' ∧ imM S' (L ++ [v]) ∧ fN (fun b k => (b = 0 ∧ k = 110) ∨ b = 110) S S' := by
  refine ⟨ho_sI (ho_sI S 110 L.length (nI v)) 0 110 (nI (L.length + 1)), ?_, ⟨by rw [sI_v, List.length_append]; rfl, fun i hi => ?_⟩, fN_tr (fN_sI S (Or.inr rfl)) (fN_sI _ (Or.inl ⟨rfl, rfl⟩))⟩
  · unfold f_X12_writes
    rw [h.1, stI_n hl (by decide), sI_ne _ (by decide), h.1, nI_1, le1_e]
  · rw [List.length_append] at hi
    have hi' : i < L.length + 1 := hi
    rw [sI_ne _ (by decide)]
    by_cases e : i = L.length
    · subst e; rw [sI_v, gD_end]
    · rw [sI_k e, gD_app (by omega)]; exact h.2 i (by omega)
theorem m_wr2 {S : Hp} {L : List Nat} {v : Nat} (hv : v < 65536) (hl : L.length + 2 ≤ 48) (h : imM S L) : ∃ S', f_X12_writesTwo (nI v) S = some S' ∧ imM S' (L ++ byV v 2) ∧ fN (fun b k => (b = 0 ∧ k = 110) ∨ b = 110) S S' := by
  obtain ⟨S1, r1, r2, r3⟩ := m_wr (v := v / 256) (L := L) (by omega) h
  obtain ⟨S2, q1, q2, q3⟩ := m_wr (v := v % 256) (L := L ++ [v / 256]) (by rw [List.length_append]; show L.length + 1 < 48; omega) r2
  refine ⟨S2, ?_, ?_, fN_tr r3 q3⟩
  · unfold f_X12_writesTwo
    rw [lit_nI 256, pk_rem (by omega) (by decide) (by decide), pk_div (by omega) (by decide) (by decide), r1, ob_s, q1, ob_s]
  · have : byV v 2 = [v / 256, v % 256] := by
      show [v / 256 ^ 1 % 256, v / 256 ^ 0 % 256] = _
      rw [Nat.pow_one, Nat.pow_zero, Nat.div_one, Nat.mod_eq_of_lt (show v / 256 < 256 by omega)]
    rw [this, List.append_cons]
    exact q2
theorem byV_len (v : Nat) : ∀ j, (byV v j).length = j
  | 0 => rfl
  | j + 1 => by rw [byV, List.length_cons, byV_len v j]
def imP (z : Nat → Nat) : Nat → List Nat
  | 0 => []
  | p + 1 => imP z p ++ byV (z (3 + p)) 2
def imT (z : Nat → Nat) : Nat → List Nat
  | 0 => []
  | t + 1 => (imT z t ++ byV (z (9 + t)) 2) ++ byV (z (15 + t)) 2
def imW (z : Nat → Nat) : Nat → List Nat
  | 0 => []
  | w + 1 => imW z w ++ byV (z (21 + w)) 1
theorem imP_len (z : Nat → Nat) : ∀ n, (imP z n).length = 2 * n
  | 0 => rfl
  | n + 1 => by rw [imP, List.length_append, imP_len z n, byV_len]; omega
theorem imT_len (z : Nat → Nat) : ∀ n, (imT z n).length = 4 * n
  | 0 => rfl
  | n + 1 => by rw [imT, List.length_append, List.length_append, imT_len z n, byV_len, byV_len]; omega
theorem imW_len (z : Nat → Nat) : ∀ n, (imW z n).length = n
  | 0 => rfl
  | n + 1 => by rw [imW, List.length_append, imW_len z n, byV_len]
def ckS (c b : Nat) : Nat := (3 * c + b) % 251
def imA (z : Nat → Nat) : List Nat := (byV (z 0) 2 ++ byV (z 1) 3) ++ byV (z 2) 1
def imB (C : Cr) (z : Nat → Nat) : List Nat := ((imA z ++ imP z (cP C)) ++ imT z (cT C)) ++ imW z (cW C)
def imG (C : Cr) (z : Nat → Nat) : List Nat := imB C z ++ byV ((imB C z).foldl ckS 97) 1
theorem imA_len (z : Nat → Nat) : (imA z).length = 6 := by
  unfold imA
  rw [List.length_append, List.length_append, byV_len, byV_len, byV_len]
theorem imB_len (C : Cr) (z : Nat → Nat) : (imB C z).length = 6 + 2 * cP C + 4 * cT C + cW C := by
  unfold imB
  rw [List.length_append, List.length_append, List.length_append, imA_len, imP_len, imT_len, imW_len]
theorem byV_lt {v x : Nat} : ∀ j, x ∈ byV v j → x < 256
  | 0, h => absurd h (List.not_mem_nil)
  | j + 1, h => by
    rw [byV] at h
    rcases List.mem_cons.mp h with h | h
    · rw [h]; exact Nat.mod_lt _ (by decide)
    · exact byV_lt j h
theorem imP_lt {z : Nat → Nat} {x : Nat} : ∀ n, x ∈ imP z n → x < 256
  | 0, h => absurd h (List.not_mem_nil)
  | n + 1, h => by
    rw [imP] at h
    rcases List.mem_append.mp h with h | h
    · exact imP_lt n h
    · exact byV_lt _ h
theorem imT_lt {z : Nat → Nat} {x : Nat} : ∀ n, x ∈ imT z n → x < 256
  | 0, h => absurd h (List.not_mem_nil)
  | n + 1, h => by
    rw [imT] at h
    rcases List.mem_append.mp h with h | h
    · rcases List.mem_append.mp h with h | h
      · exact imT_lt n h
      · exact byV_lt _ h
    · exact byV_lt _ h
theorem imW_lt {z : Nat → Nat} {x : Nat} : ∀ n, x ∈ imW z n → x < 256
  | 0, h => absurd h (List.not_mem_nil)
  | n + 1, h => by
    rw [imW] at h
    rcases List.mem_append.mp h with h | h
    · exact imW_lt n h
    · exact byV_lt _ h
theorem imB_lt {C : Cr} {z : Nat → Nat} {x : Nat} (h : x ∈ imB C z) : x < 256 := by
  unfold imB imA at h
  rcases List.mem_append.mp h with h | h
  · rcases List.mem_append.mp h with h | h
    · rcases List.mem_append.mp h with h | h
      · rcases List.mem_append.mp h with h | h
        · rcases List.mem_append.mp h with h | h
          · exact byV_lt _ h
          · exact byV_lt _ h
        · exact byV_lt _ h
      · exact imP_lt _ h
    · exact imT_lt _ h
  · exact imW_lt _ h
theorem imG_lt {C : Cr} {z : Nat → Nat} {x : Nat} (h : x ∈ imG C z) : x < 256 := by
  unfold imG at h
  rcases List.mem_append.mp h with h | h
  · exact imB_lt h
  · exact byV_lt _ h
theorem ck_lt : ∀ (l : List Nat) (c : Nat), c < 251 → l.foldl ckS c < 251
  | [], c, h => h
  | b :: l, c, _ => ck_lt l (ckS c b) (Nat.mod_lt _ (by decide))
theorem h_put {S : Hp} {v j : Nat} {L : List Nat} {x : Int32} (hx : (8 : Int32) * (x - (1 : Int32)) = nI (8 * j) + (-8 : Int32)) (hv : v < 2 ^ 31) (hj : j ≤ 3) (hL : L.length + j ≤ 48) (h : imH S L) : ∃ S', f_X5_put (nI v) x S = some S' ∧ imH S' (L ++ byV v j) ∧ (∀ k, k ≠ 1 → S'.1 90 k = S.1 90 k) ∧ fH (fun b => b = 90 ∨ b = 91) S S' := by
  unfold f_X5_put
  rw [le1_e, hx]
  exact h_put7 hv j 5000 L S hj (by omega) hL h
abbrev f90 (b : Nat) : Prop := b = 90 ∨ b = 91
theorem h_w34 {c : Nat} {C : Cr} {z : Nat → Nat} {L : List Nat} (hC : okCr C) (hz : okZ C z) (hc : c = 100 ∨ c = 150) (hL : L.length = 6) : ∀ (d i K : Nat) (S : Hp), i + d = cP C → d < K → S.1 (c + 1) 0 = nI (cP C) → stH S 1200 C z → imH S (L ++ imP z i) → ∃ S', f_X5_write_34 1200 c K (nI i) S = f_X5_write_63 1200 c 5000 (0 : Int32) S' ∧ imH S' (L ++ imP z (cP C)) ∧ fH f90 S S' := by
  have hnp := hC.1.1
  intro d
  induction d with
  | zero =>
    intro i K S hi hK h hs him
    obtain ⟨K, rfl⟩ : ∃ q, K = q + 1 := ⟨K - 1, by omega⟩
    refine ⟨S, by rw [f_X5_write_34, ldI_L 0 (by decide) (by decide), h, if_pos (nI_le (by omega) (by omega))], ?_, fH_rf _ S⟩
    rw [← show i = cP C by omega]; exact him
  | succ d ih =>
    intro i K S hi hK h hs him
    obtain ⟨K, rfl⟩ : ∃ q, K = q + 1 := ⟨K - 1, by omega⟩
    have hv := hz.2.2.2.1 i (by omega)
    obtain ⟨S1, r1, r2, -, r4⟩ := h_put (S := S) (v := z (3 + i)) (j := 2) (L := L ++ imP z i) (x := 2) (by decide) (by omega) (by decide) (by rw [List.length_append, imP_len]; omega) him
    obtain ⟨S2, q1, q2, q3⟩ := ih (i + 1) K S1 (by omega) (by omega) (by rw [r4.1 _ (by first | decide | (dsimp only; omega) | omega)]; exact h) (stH_f hs r4 (fun b q => by omega)) (by rw [imP, ← List.append_assoc]; exact r2)
    refine ⟨S2, ?_, q2, fH_tr r4 q3⟩
    rw [f_X5_write_34, ldI_L 0 (by decide) (by decide), h, if_neg (nI_ge (by omega) (by omega)), ldI_n (by omega) (by decide), (hs.2.2.1 i (by omega)).1, r1, ob_s, le1_e, nI_1]
    exact q1
theorem h_w63 {c : Nat} {C : Cr} {z : Nat → Nat} {L : List Nat} (hC : okCr C) (hz : okZ C z) (hc : c = 100 ∨ c = 150) (hL : L.length ≤ 18) : ∀ (d i K : Nat) (S : Hp), i + d = cT C → d < K → S.1 (c + 1) 1 = nI (cT C) → stH S 1200 C z → imH S (L ++ imT z i) → ∃ S', f_X5_write_63 1200 c K (nI i) S = f_X5_write_103 1200 c 5000 (0 : Int32) S' ∧ imH S' (L ++ imT z (cT C)) ∧ fH f90 S S' := by
  have hnt := hC.1.2.1
  intro d
  induction d with
  | zero =>
    intro i K S hi hK h hs him
    obtain ⟨K, rfl⟩ : ∃ q, K = q + 1 := ⟨K - 1, by omega⟩
    refine ⟨S, by rw [f_X5_write_63, ldI_L 1 (by decide) (by decide), h, if_pos (nI_le (by omega) (by omega))], ?_, fH_rf _ S⟩
    rw [← show i = cT C by omega]; exact him
  | succ d ih =>
    intro i K S hi hK h hs him
    obtain ⟨K, rfl⟩ : ∃ q, K = q + 1 := ⟨K - 1, by omega⟩
    have hv := hz.2.2.2.2.1 i (by omega)
    have hv2 := hz.2.2.2.2.2.1 i (by omega)
    obtain ⟨S1, r1, r2, -, r4⟩ := h_put (S := S) (v := z (9 + i)) (j := 2) (L := L ++ imT z i) (x := 2) (by decide) (by omega) (by decide) (by rw [List.length_append, imT_len]; omega) him
    have s1 := stH_f hs r4 (fun b q => by omega)
    obtain ⟨S2, t1, t2, -, t4⟩ := h_put (S := S1) (v := z (15 + i)) (j := 2) (L := L ++ imT z i ++ byV (z (9 + i)) 2) (x := 2) (by decide) (by omega) (by decide) (by rw [List.length_append, List.length_append, imT_len, byV_len]; omega) r2
    obtain ⟨S3, q1, q2, q3⟩ := ih (i + 1) K S2 (by omega) (by omega) (by rw [t4.1 _ (by first | decide | (dsimp only; omega) | omega), r4.1 _ (by first | decide | (dsimp only; omega) | omega)]; exact h) (stH_f s1 t4 (fun b q => by omega)) (by rw [imT, ← List.append_assoc, ← List.append_assoc]; exact t2)
    refine ⟨S3, ?_, q2, fH_tr r4 (fH_tr t4 q3)⟩
    rw [f_X5_write_63, ldI_L 1 (by decide) (by decide), h, if_neg (nI_ge (by omega) (by omega)), ldI_n (by omega) (by decide), (hs.2.2.1 i (by omega)).2.1, r1, ob_s, ldI_n (by omega) (by decide), (s1.2.2.1 i (by omega)).2.2, t1, ob_s, le1_e, nI_1]
    exact q1
theorem h_w103 {c : Nat} {C : Cr} {z : Nat → Nat} {L : List Nat} (hC : okCr C) (hz : okZ C z) (hc : c = 100 ∨ c = 150) (hL : L.length ≤ 42) : ∀ (d i K : Nat) (S : Hp), i + d = cW C → d < K → S.1 (c + 1) 2 = nI (cW C) → stH S 1200 C z → imH S (L ++ imW z i) → ∃ S', f_X5_write_103 1200 c K (nI i) S = f_X5_write_136 1200 c 5000 (97 : Int32) (0 : Int32) S' ∧ imH S' (L ++ imW z (cW C)) ∧ fH f90 S S' := by
  have hnw := hC.1.2.2
  intro d
  induction d with
  | zero =>
    intro i K S hi hK h hs him
    obtain ⟨K, rfl⟩ : ∃ q, K = q + 1 := ⟨K - 1, by omega⟩
    refine ⟨S, by rw [f_X5_write_103, ldI_L 2 (by decide) (by decide), h, if_pos (nI_le (by omega) (by omega))], ?_, fH_rf _ S⟩
    rw [← show i = cW C by omega]; exact him
  | succ d ih =>
    intro i K S hi hK h hs him
    obtain ⟨K, rfl⟩ : ∃ q, K = q + 1 := ⟨K - 1, by omega⟩
    have hv := hz.2.2.2.2.2.2.1 i (by omega)
    obtain ⟨S1, r1, r2, -, r4⟩ := h_put (S := S) (v := z (21 + i)) (j := 1) (L := L ++ imW z i) (x := 1) (by decide) (by omega) (by decide) (by rw [List.length_append, imW_len]; omega) him
    obtain ⟨S2, q1, q2, q3⟩ := ih (i + 1) K S1 (by omega) (by omega) (by rw [r4.1 _ (by first | decide | (dsimp only; omega) | omega)]; exact h) (stH_f hs r4 (fun b q => by omega)) (by rw [imW, ← List.append_assoc]; exact r2)
    refine ⟨S2, ?_, q2, fH_tr r4 q3⟩
    rw [f_X5_write_103, ldI_L 2 (by decide) (by decide), h, if_neg (nI_ge (by omega) (by omega)), ldI_n (by omega) (by decide), hs.2.2.2 i (by omega), r1, ob_s, le1_e, nI_1]
    exact q1
theorem h_w136 {S : Hp} {c : Nat} {L : List Nat} (hL : L.length ≤ 47) (hb : ∀ x ∈ L, x < 256) (h : imH S L) : ∀ (d i K a : Nat), i + d = L.length → d < K → a < 251 → f_X5_write_136 1200 c K (nI a) (nI i) S = ob (f_X5_put (nI ((L.drop i).foldl ckS a)) (1 : Int32) S) (fun S1 => some S1)
  | 0, i, K, a, hi, hK, ha => by
    obtain ⟨K, rfl⟩ : ∃ q, K = q + 1 := ⟨K - 1, by omega⟩
    rw [f_X5_write_136, h.1, if_pos (nI_le (by omega) (by omega)), List.drop_of_length_le (by omega)]; rfl
  | d + 1, i, K, a, hi, hK, ha => by
    obtain ⟨K, rfl⟩ : ∃ q, K = q + 1 := ⟨K - 1, by omega⟩
    have hi' : i < L.length := by omega
    have hx : L.getD i 0 < 256 := by
      rw [List.getD_eq_getElem?_getD, List.getElem?_eq_getElem hi']
      exact hb _ (List.getElem_mem hi')
    have ih := h_w136 (c := c) hL hb h d (i + 1) K (ckS a (L.getD i 0)) (by omega) (by omega) (Nat.mod_lt _ (by decide))
    rw [f_X5_write_136, h.1, if_neg (nI_ge (by omega) (by omega)), ldI_n (by omega) (by decide), h.2 i hi', lit_nI 3, pk_mul, nI_add, lit_nI 251, pk_rem (by omega) (by decide) (by decide), le1_e, le1_e, nI_1, show (3 * a + L.getD i 0) % 251 = ckS a (L.getD i 0) from rfl, ih, dr_c hi']
    rfl

/-! level 2: alike answers: where -/
theorem nI_nm {k : Nat} (h : k < 2 ^ 31) : ¬ nI k = -1 := by
  intro q
  have := congrArg Int32.toInt q
  rw [nI_toInt h, nm1] at this
  omega
abbrev eqS (C : Cr) (z : Nat → Nat) (p v : Nat) : Nat → Nat → Nat := fun k n => if lft C z n p = v then k + 1 else k
def eqC (C : Cr) (z : Nat → Nat) (p v : Nat) (l : List Nat) : Nat := l.foldl (eqS C z p v) 0
abbrev mxS (C : Cr) (z : Nat → Nat) (p : Nat) (l : List Nat) : Nat → Nat → Nat := fun m n => if m < eqC C z p (lft C z n p) l then eqC C z p (lft C z n p) l else m
def mxC (C : Cr) (z : Nat → Nat) (p : Nat) (l : List Nat) : Nat := l.foldl (mxS C z p l) 0
theorem eqF_le {C : Cr} {z : Nat → Nat} {p v : Nat} : ∀ (l : List Nat) (k : Nat), l.foldl (eqS C z p v) k ≤ k + l.length
  | [], k => Nat.le_refl _
  | n :: l, k => by
    have h1 := eqF_le (C := C) (z := z) (p := p) (v := v) l (eqS C z p v k n)
    have h2 : eqS C z p v k n ≤ k + 1 := by unfold eqS; split <;> omega
    show List.foldl _ (eqS C z p v k n) l ≤ k + (l.length + 1)
    omega
theorem eqC_le {C : Cr} {z : Nat → Nat} {p v : Nat} (l : List Nat) : eqC C z p v l ≤ l.length := by
  have := eqF_le (C := C) (z := z) (p := p) (v := v) l 0
  unfold eqC
  omega
theorem mxF_le {C : Cr} {z : Nat → Nat} {p : Nat} (l0 : List Nat) : ∀ (l : List Nat) (m : Nat), m ≤ l0.length → l.foldl (mxS C z p l0) m ≤ l0.length
  | [], m, h => h
  | n :: l, m, h => mxF_le l0 l _ (by
    have := eqC_le (C := C) (z := z) (p := p) (v := lft C z n p) l0
    show (if m < eqC C z p (lft C z n p) l0 then eqC C z p (lft C z n p) l0 else m) ≤ _
    split <;> omega)
theorem mxC_le {C : Cr} {z : Nat → Nat} {p : Nat} (l : List Nat) : mxC C z p l ≤ l.length := mxF_le l l 0 (Nat.zero_le _)
def chC (C : Cr) (z : Nat → Nat) (l : List Nat) : Nat → Option (Nat × Nat)
  | 0 => none
  | q + 1 => match chC C z l q with
    | none => some (q, mxC C z q l)
    | some b => if mxC C z q l < b.2 then some (q, mxC C z q l) else some b
theorem chC_le {C : Cr} {z : Nat → Nat} {l : List Nat} : ∀ q b, chC C z l q = some b → b.1 < q ∧ b.2 ≤ l.length
  | 0, b, h => by cases h
  | q + 1, b, h => by
    have hm := mxC_le (C := C) (z := z) (p := q) l
    rw [chC] at h
    cases hq : chC C z l q with
    | none =>
      rw [hq] at h
      cases h
      exact ⟨Nat.lt_succ_self _, hm⟩
    | some b0 =>
      rw [hq] at h
      have ih := chC_le q b0 hq
      by_cases e : mxC C z q l < b0.2
      · simp only [if_pos e] at h
        cases h
        exact ⟨Nat.lt_succ_self _, hm⟩
      · simp only [if_neg e] at h
        cases h
        exact ⟨by omega, ih.2⟩
theorem chC_s {C : Cr} {z : Nat → Nat} {l : List Nat} {q : Nat} : ∃ b, chC C z l (q + 1) = some b := by
  rw [chC]
  cases chC C z l q with
  | none => exact ⟨_, rfl⟩
  | some b0 =>
    by_cases e : mxC C z q l < b0.2
    · exact ⟨_, if_pos e⟩
    · exact ⟨_, if_neg e⟩
theorem h_ml18 {S : Hp} {C : Cr} {z : Nat → Nat} {l : List Nat} {p i m : Nat} (hC : okCr C) (hz : okZ C z) (h : fiH S C z l) (hl : l.length ≤ 64) (hp : p < 6) (hi : i < l.length) (hm : m < 2 ^ 30) (F : Int32 → Int32 → Hp → Option (Int32 × Hp)) : ∀ (d j K k : Nat), j + d = l.length → d < K → k ≤ j → f_X1_mostLeft_18 F (75 + p) 64 K (nI m) (nI i) (nI k) (nI j) S = F (nI (if m < (l.drop j).foldl (eqS C z p (lft C z (l.getD i 0) p)) k then (l.drop j).foldl (eqS C z p (lft C z (l.getD i 0) p)) k else m)) (nI (i + 1)) S
  | 0, j, K, k, hj, hK, hk => by
    obtain ⟨K, rfl⟩ : ∃ q, K = q + 1 := ⟨K - 1, by omega⟩
    rw [f_X1_mostLeft_18, h.1, if_pos (nI_le (by omega) (by omega)), List.drop_of_length_le (by omega), f_J9_max_7cf53]
    show _ = F (nI (if m < k then k else m)) (nI (i + 1)) S
    by_cases e : m < k
    · rw [if_pos (nI_lt e (by omega)), ob2_s, le1_e, nI_1, if_pos e]
    · rw [if_neg (nI_nlt (by omega) (by omega)), ob2_s, le1_e, nI_1, if_neg e]
  | d + 1, j, K, k, hj, hK, hk => by
    obtain ⟨K, rfl⟩ : ∃ q, K = q + 1 := ⟨K - 1, by omega⟩
    have hb : ∀ n, lft C z n p < 2 ^ 31 := fun n => by
      have := (apr_le (s := n) hC hz).2 p hp
      have := hz.2.2.2.1 p hp
      omega
    rw [f_X1_mostLeft_18, h.1, if_neg (nI_ge (by omega) (by omega)), ldI_n (by omega) (by decide), ldI_n (by omega) (by decide), (h.2 i hi).2 p hp, (h.2 j (by omega)).2 p hp, dr_c (show j < l.length by omega)]
    show _ = F (nI (if m < (l.drop (j + 1)).foldl (eqS C z p (lft C z (l.getD i 0) p)) (eqS C z p (lft C z (l.getD i 0) p) k (l.getD j 0)) then (l.drop (j + 1)).foldl (eqS C z p (lft C z (l.getD i 0) p)) (eqS C z p (lft C z (l.getD i 0) p) k (l.getD j 0)) else m)) (nI (i + 1)) S
    have hs : eqS C z p (lft C z (l.getD i 0) p) k (l.getD j 0) ≤ j + 1 := by unfold eqS; split <;> omega
    rw [← h_ml18 hC hz h hl hp hi hm F d (j + 1) K (eqS C z p (lft C z (l.getD i 0) p) k (l.getD j 0)) (by omega) (by omega) hs]
    unfold f_X1_mostLeft_40 eqS
    rw [le1_e, le1_e, le1_e, nI_1, nI_1]
    by_cases e : lft C z (l.getD j 0) p = lft C z (l.getD i 0) p
    · rw [if_pos (show nI (lft C z (l.getD i 0) p) = nI (lft C z (l.getD j 0) p) by rw [e]), if_pos e]
    · rw [if_neg (fun q => e ((nI_eq (hb _) (hb _)).mp q).symm), if_neg e]
theorem h_ml4 {S : Hp} {C : Cr} {z : Nat → Nat} {l : List Nat} {p : Nat} (hC : okCr C) (hz : okZ C z) (h : fiH S C z l) (hl : l.length ≤ 64) (hp : p < 6) : ∀ (d i K m : Nat), i + d = l.length → d < K → m ≤ l.length → f_X1_mostLeft_4 (75 + p) 64 K (nI m) (nI i) S = some (nI ((l.drop i).foldl (mxS C z p l) m), S)
  | 0, i, K, m, hi, hK, hm => by
    obtain ⟨K, rfl⟩ : ∃ q, K = q + 1 := ⟨K - 1, by omega⟩
    rw [f_X1_mostLeft_4, h.1, if_pos (nI_le (by omega) (by omega)), List.drop_of_length_le (by omega)]; rfl
  | d + 1, i, K, m, hi, hK, hm => by
    obtain ⟨K, rfl⟩ : ∃ q, K = q + 1 := ⟨K - 1, by omega⟩
    have hs : mxS C z p l m (l.getD i 0) ≤ l.length := by
      have := eqC_le (C := C) (z := z) (p := p) (v := lft C z (l.getD i 0) p) l
      unfold mxS; split <;> omega
    have ih := h_ml4 hC hz h hl hp d (i + 1) K (mxS C z p l m (l.getD i 0)) (by omega) (by omega) hs
    have h18 := h_ml18 (i := i) (m := m) hC hz h hl hp (by omega) (by omega) (f_X1_mostLeft_4 (75 + p) 64 K) l.length 0 5000 0 (by omega) (by omega) (Nat.le_refl _)
    rw [f_X1_mostLeft_4, h.1, if_neg (nI_ge (by omega) (by omega)), dr_c (show i < l.length by omega), show f_X1_mostLeft_18 (f_X1_mostLeft_4 (75 + p) 64 K) (75 + p) 64 5000 (nI m) (nI i) (0 : Int32) (0 : Int32) S = _ from h18, List.drop_zero]
    exact ih
theorem h_ch13 {c : Nat} {C : Cr} {z : Nat → Nat} {l : List Nat} (hC : okCr C) (hz : okZ C z) (hl : l.length ≤ 64) : ∀ (d q K : Nat) (S : Hp), q + d = cP C → d < K → cH S c C → fiH S C z l → (match chC C z l q with | none => S.1 70 2 = -1 ∧ S.1 70 3 = nI 65 | some b => S.1 70 2 = nI b.1 ∧ S.1 70 3 = nI b.2) → ∃ S', f_X1_choose_13 K (nI q) S = some S' ∧ (match chC C z l (cP C) with | none => S'.1 70 2 = -1 ∧ S'.1 70 3 = nI 65 | some b => S'.1 70 2 = nI b.1 ∧ S'.1 70 3 = nI b.2) ∧ S'.1 70 0 = S.1 70 0 ∧ fH (fun b => b = 70) S S' := by
  have hnp := hC.1.1
  intro d
  induction d with
  | zero =>
    intro q K S hq hK h hf hc
    obtain ⟨K, rfl⟩ : ∃ q, K = q + 1 := ⟨K - 1, by omega⟩
    refine ⟨S, by rw [f_X1_choose_13, ldP_n h.1.1 h.1.2, ldI_L 0 (by decide) (by decide), h.2.1.1, if_pos (nI_le (by omega) (by omega))], ?_, rfl, fH_rf _ S⟩
    rw [← show q = cP C by omega]
    exact hc
  | succ d ih =>
    intro q K S hq hK h hf hc
    obtain ⟨K, rfl⟩ : ∃ q, K = q + 1 := ⟨K - 1, by omega⟩
    have hcc := cH_c h
    obtain ⟨y1, y2⟩ := rwH (p := q) (by omega)
    have hm := mxC_le (C := C) (z := z) (p := q) l
    have m4 := h_ml4 (p := q) hC hz hf hl (by omega) l.length 0 5000 0 (by omega) (by omega) (Nat.zero_le _)
    rw [List.drop_zero] at m4
    have nx : ∀ S1, S1.1 70 0 = S.1 70 0 → S1.1 70 1 = S.1 70 1 → fH (fun b => b = 70) S S1 → (match chC C z l (q + 1) with | none => S1.1 70 2 = -1 ∧ S1.1 70 3 = nI 65 | some b => S1.1 70 2 = nI b.1 ∧ S1.1 70 3 = nI b.2) → ∃ S', f_X1_choose_58 (f_X1_choose_13 K) (nI q) S1 = some S' ∧ (match chC C z l (cP C) with | none => S'.1 70 2 = -1 ∧ S'.1 70 3 = nI 65 | some b => S'.1 70 2 = nI b.1 ∧ S'.1 70 3 = nI b.2) ∧ S'.1 70 0 = S.1 70 0 ∧ fH (fun b => b = 70) S S' := by
      intro S1 e0 e1 f1 hc1
      obtain ⟨S', r1, r2, r3, r4⟩ := ih (q + 1) K S1 (by omega) (by omega) (cH_f h f1 (fun b q => by unfold crC; omega)) ⟨by rw [e1]; exact hf.1, fun j hj => by rw [f1.1 73 (by first | decide | (dsimp only; omega) | omega)]; exact ⟨(hf.2 j hj).1, fun p hp => by rw [f1.1 _ (by first | decide | (dsimp only; omega) | omega)]; exact (hf.2 j hj).2 p hp⟩⟩ hc1
      refine ⟨S', ?_, r2, r3.trans e0, fH_tr f1 r4⟩
      unfold f_X1_choose_58
      rw [le1_e, nI_1]
      exact r1
    rw [f_X1_choose_13, ldP_n h.1.1 h.1.2, ldI_L 0 (by decide) (by decide), h.2.1.1, if_neg (nI_ge (by omega) (by omega)), ldR_n (show q < 6 by omega) (by decide) y1 y2, show f_X1_mostLeft (75 + q) 64 S = _ from m4, ob2_s, show List.foldl (mxS C z q l) 0 l = mxC C z q l from rfl, le1_e, le1_e]
    have fs : fH (fun b => b = 70) S (ho_sI (ho_sI S 70 2 (nI q)) 70 3 (nI (mxC C z q l))) := fH_tr (fH_sI S rfl (by decide)) (fH_sI _ rfl (by decide))
    have st : ¬ S.1 70 3 ≤ nI (mxC C z q l) → chC C z l (q + 1) = some (q, mxC C z q l) → _ := fun u1 u2 => nx (ho_sI (ho_sI S 70 2 (nI q)) 70 3 (nI (mxC C z q l))) (by rw [sI_k (by decide), sI_k (by decide)]) (by rw [sI_k (by decide), sI_k (by decide)]) fs (by rw [u2]; exact ⟨by rw [sI_k (by decide), sI_v], sI_v⟩)
    cases hq : chC C z l q with
    | none =>
      rw [hq] at hc
      have u1 : ¬ S.1 70 3 ≤ nI (mxC C z q l) := by rw [hc.2]; exact nI_ge (by omega) (by decide)
      rw [if_neg u1]
      exact st u1 (by rw [chC, hq])
    | some b =>
      rw [hq] at hc
      have hb := chC_le q b hq
      by_cases e : mxC C z q l < b.2
      · have u1 : ¬ S.1 70 3 ≤ nI (mxC C z q l) := by rw [hc.2]; exact nI_ge e (by omega)
        rw [if_neg u1]
        exact st u1 (by rw [chC, hq]; exact if_pos e)
      · rw [if_pos (show S.1 70 3 ≤ nI (mxC C z q l) by rw [hc.2]; exact nI_le (by omega) (by omega))]
        have u2 : chC C z l (q + 1) = some b := by rw [chC, hq]; exact if_neg e
        exact nx S rfl rfl (fH_rf _ S) (by rw [u2]; exact hc)
theorem fo_f {C : Cr} {z : Nat → Nat} {W : List (Nat × Nat)} {i a : Nat} {g : Nat → Nat → Nat} : (fL C z W (i + 1)).foldl g a = if ftB C z W i = true then g ((fL C z W i).foldl g a) i else (fL C z W i).foldl g a := by
  rw [fL]
  split
  · rw [List.foldl_append]; rfl
  · rfl
theorem m_al5 {S : Hp} {C : Cr} {z : Nat → Nat} {W : List (Nat × Nat)} {p m : Nat} (hC : okCr C) (hz : okZ C z) (h : mC S C) (f : fiM S C z W (2 ^ cT C)) (hp : p < cP C) (hm : m < 2 ^ cT C) (hmf : ftB C z W m = true) : ∀ (d i K : Nat), i + d = 2 ^ cT C → d < K → f_X12_alike_5 K (nI p) (nI m) (nI (eqC C z p (lft C z m p) (fL C z W i))) (nI i) S = some (nI (eqC C z p (lft C z m p) (fL C z W (2 ^ cT C))), S)
  | 0, i, K, hi, hK => by
    have hp6 : 2 ^ cT C ≤ 2 ^ 6 := Nat.pow_le_pow_right (by decide) hC.1.2.1
    obtain ⟨K, rfl⟩ : ∃ q, K = q + 1 := ⟨K - 1, by omega⟩
    rw [f_X12_alike_5, m_all hC.1.2.1 h.1.2.1, ob2_s, if_pos (nI_lt (by omega) (by omega)), show i = 2 ^ cT C by omega]
  | d + 1, i, K, hi, hK => by
    have hp6 : 2 ^ cT C ≤ 2 ^ 6 := Nat.pow_le_pow_right (by decide) hC.1.2.1
    have hnp := hC.1.1
    obtain ⟨K, rfl⟩ : ∃ q, K = q + 1 := ⟨K - 1, by omega⟩
    have hb : ∀ n, lft C z n p < 2 ^ 31 := fun n => by
      have := (apr_le (s := n) hC hz).2 p (by omega)
      have := hz.2.2.2.1 p (by omega)
      omega
    have ih := m_al5 hC hz h f hp hm hmf d (i + 1) K (by omega) (by omega)
    have h53 : ∀ a, f_X12_alike_53 (f_X12_alike_5 K) (nI p) (nI m) a (nI i) S = f_X12_alike_5 K (nI p) (nI m) a (nI (i + 1)) S := fun a => by
      unfold f_X12_alike_53
      rw [le1_e, nI_1]
    rw [f_X12_alike_5, m_all hC.1.2.1 h.1.2.1, ob2_s, if_neg (nI_nlt (by omega) (by omega)), ldI_n (by omega) (by decide), (f.2 i (by omega)).1, h53]
    unfold eqC at ih ⊢
    rw [fo_f] at ih
    by_cases e : ftB C z W i = true
    · rw [if_pos e, if_neg ne1, lit_nI 6, pk_mul, pk_mul, nI_add, nI_add, ldI_n (by omega) (by decide), ldI_n (by omega) (by decide), (f.2 i (by omega)).2 e p hp, (f.2 m hm).2 hmf p hp, le1_e, h53, nI_1]
      rw [if_pos e] at ih
      by_cases e2 : lft C z i p = lft C z m p
      · rw [if_pos (show nI (lft C z i p) = nI (lft C z m p) by rw [e2])]
        rw [show eqS C z p (lft C z m p) (List.foldl (eqS C z p (lft C z m p)) 0 (fL C z W i)) i = List.foldl (eqS C z p (lft C z m p)) 0 (fL C z W i) + 1 from if_pos e2] at ih
        exact ih
      · rw [if_neg (fun q => e2 ((nI_eq (hb _) (hb _)).mp q))]
        rw [show eqS C z p (lft C z m p) (List.foldl (eqS C z p (lft C z m p)) 0 (fL C z W i)) i = List.foldl (eqS C z p (lft C z m p)) 0 (fL C z W i) from if_neg e2] at ih
        exact ih
    · rw [if_neg e, if_pos rfl]
      rw [if_neg e] at ih
      exact ih
def oP : Option (Nat × Nat) → Int32
  | none => -1
  | some b => nI b.1
def oM : Option (Nat × Nat) → Int32
  | none => 0
  | some b => nI b.2
theorem m_w55 {S : Hp} {C : Cr} {z : Nat → Nat} {W : List (Nat × Nat)} {p x : Nat} (hC : okCr C) (hz : okZ C z) (h : mC S C) (f : fiM S C z W (2 ^ cT C)) (hp : p < cP C) (F : Int32 → Int32 → Int32 → Int32 → Hp → Option (Int32 × Hp)) : ∀ (d i K : Nat), i + d = 2 ^ cT C → d < K → f_X12_where_55 F K (nI x) (oP (chC C z (fL C z W (2 ^ cT C)) p)) (oM (chC C z (fL C z W (2 ^ cT C)) p)) (nI p) (nI ((fL C z W i).foldl (mxS C z p (fL C z W (2 ^ cT C))) 0)) (nI i) S = F (nI x) (oP (chC C z (fL C z W (2 ^ cT C)) (p + 1))) (oM (chC C z (fL C z W (2 ^ cT C)) (p + 1))) (nI (p + 1)) S
  | 0, i, K, hi, hK => by
    have hp6 : 2 ^ cT C ≤ 2 ^ 6 := Nat.pow_le_pow_right (by decide) hC.1.2.1
    have hnp := hC.1.1
    obtain ⟨K, rfl⟩ : ∃ q, K = q + 1 := ⟨K - 1, by omega⟩
    have hl := fL_len C z W (2 ^ cT C)
    have hm := mxC_le (C := C) (z := z) (p := p) (fL C z W (2 ^ cT C))
    have hp0 : 0 < 2 ^ cT C := Nat.two_pow_pos _
    rw [f_X12_where_55, m_all hC.1.2.1 h.1.2.1, ob2_s, if_pos (show nI (2 ^ cT C - 1) < nI i from nI_lt (by omega) (by omega)), show i = 2 ^ cT C by omega, show List.foldl (mxS C z p (fL C z W (2 ^ cT C))) 0 (fL C z W (2 ^ cT C)) = mxC C z p (fL C z W (2 ^ cT C)) from rfl]
    unfold f_X12_where_117 f_X12_where_123
    rw [le1_e, le1_e, nI_1, chC]
    cases hq : chC C z (fL C z W (2 ^ cT C)) p with
    | none => exact if_pos rfl
    | some b =>
      have hb := chC_le p b hq
      show (if nI b.1 = -1 then _ else if nI (mxC C z p (fL C z W (2 ^ cT C))) < nI b.2 then _ else _) = _
      rw [if_neg (nI_nm (by omega))]
      by_cases e : mxC C z p (fL C z W (2 ^ cT C)) < b.2
      · rw [if_pos (nI_lt e (by omega))]
        simp only [if_pos e]
        try rfl
      · rw [if_neg (nI_nlt (by omega) (by omega))]
        simp only [if_neg e]
        try rfl
  | d + 1, i, K, hi, hK => by
    have hp6 : 2 ^ cT C ≤ 2 ^ 6 := Nat.pow_le_pow_right (by decide) hC.1.2.1
    obtain ⟨K, rfl⟩ : ∃ q, K = q + 1 := ⟨K - 1, by omega⟩
    have hl := fL_len C z W (2 ^ cT C)
    have ih := m_w55 (x := x) hC hz h f hp F d (i + 1) K (by omega) (by omega)
    have h97 : ∀ a, f_X12_where_97 F (f_X12_where_55 F K) (nI x) (oP (chC C z (fL C z W (2 ^ cT C)) p)) (oM (chC C z (fL C z W (2 ^ cT C)) p)) (nI p) a (nI i) S = f_X12_where_55 F K (nI x) (oP (chC C z (fL C z W (2 ^ cT C)) p)) (oM (chC C z (fL C z W (2 ^ cT C)) p)) (nI p) a (nI (i + 1)) S := fun a => by
      unfold f_X12_where_97
      rw [le1_e, nI_1]
    rw [f_X12_where_55, m_all hC.1.2.1 h.1.2.1, ob2_s, if_neg (nI_nlt (by omega) (by omega)), ldI_n (by omega) (by decide), (f.2 i (by omega)).1, h97]
    rw [fo_f] at ih
    have hk := mxF_le (C := C) (z := z) (p := p) (fL C z W (2 ^ cT C)) (fL C z W i) 0 (Nat.zero_le _)
    generalize List.foldl (mxS C z p (fL C z W (2 ^ cT C))) 0 (fL C z W i) = k at *
    by_cases e : ftB C z W i = true
    · have al := m_al5 (m := i) hC hz h f hp (by omega) e (2 ^ cT C) 0 5000 (by omega) (by omega)
      have hq := eqC_le (C := C) (z := z) (p := p) (v := lft C z i p) (fL C z W (2 ^ cT C))
      rw [if_pos e, if_neg ne1, show f_X12_alike (nI p) (nI i) S = _ from al, ob2_s, show f_X12_alike (nI p) (nI i) S = _ from al, ob2_s, h97, h97]
      rw [if_pos e] at ih
      by_cases e2 : k < eqC C z p (lft C z i p) (fL C z W (2 ^ cT C))
      · rw [if_neg (nI_ge e2 (by omega))]
        rw [show mxS C z p (fL C z W (2 ^ cT C)) k i = eqC C z p (lft C z i p) (fL C z W (2 ^ cT C)) from if_pos e2] at ih
        exact ih
      · rw [if_pos (nI_le (by omega) (by omega))]
        rw [show mxS C z p (fL C z W (2 ^ cT C)) k i = k from if_neg e2] at ih
        exact ih
    · rw [if_neg e, if_pos rfl]
      rw [if_neg e] at ih
      exact ih
theorem m_w33 {S : Hp} {C : Cr} {z : Nat → Nat} {W : List (Nat × Nat)} {x : Nat} (hC : okCr C) (hz : okZ C z) (h : mC S C) (f : fiM S C z W (2 ^ cT C)) (hne : 0 < (fL C z W (2 ^ cT C)).length) : ∀ (d p K : Nat), p + d = cP C → d < K → f_X12_where_33 K (nI x) (oP (chC C z (fL C z W (2 ^ cT C)) p)) (oM (chC C z (fL C z W (2 ^ cT C)) p)) (nI p) S = f_X12_where_129 (nI x) (oP (chC C z (fL C z W (2 ^ cT C)) (cP C))) (oM (chC C z (fL C z W (2 ^ cT C)) (cP C))) S
  | 0, p, K, hi, hK => by
    have hnp := hC.1.1
    obtain ⟨K, rfl⟩ : ∃ q, K = q + 1 := ⟨K - 1, by omega⟩
    rw [f_X12_where_33, f_X12_provinceMany, ldI_L 3 (by decide) (by decide), h.1.1, ob2_s, if_pos (nI_le (by omega) (by omega)), show p = cP C by omega]
  | d + 1, p, K, hi, hK => by
    have hnp := hC.1.1
    have hp6 : 2 ^ cT C ≤ 2 ^ 6 := Nat.pow_le_pow_right (by decide) hC.1.2.1
    have hl := fL_len C z W (2 ^ cT C)
    obtain ⟨K, rfl⟩ : ∃ q, K = q + 1 := ⟨K - 1, by omega⟩
    have h55 := m_w55 (x := x) hC hz h f (show p < cP C by omega) (f_X12_where_33 K) (2 ^ cT C) 0 5000 (by omega) (by omega)
    rw [f_X12_where_33, f_X12_provinceMany, ldI_L 3 (by decide) (by decide), h.1.1, ob2_s, if_neg (nI_ge (by omega) (by omega)), f.1, if_neg (show ¬ nI (fL C z W (2 ^ cT C)).length ≤ 0 from nI_ge (a := 0) hne (by omega)), show f_X12_where_55 (f_X12_where_33 K) 5000 (nI x) (oP (chC C z (fL C z W (2 ^ cT C)) p)) (oM (chC C z (fL C z W (2 ^ cT C)) p)) (nI p) (0 : Int32) (0 : Int32) S = _ from h55]
    exact m_w33 hC hz h f hne d (p + 1) K (by omega) (by omega)
theorem s_19 : sim_19 Sim := by
  intro x SH SM h
  have h' := h
  obtain ⟨X, cr, c, C, N, P, z, kl, ok, a, b, d, e, f⟩ := h'
  have ok' := ok
  obtain ⟨⟨hC, hz⟩, ok1, ⟨okw, okr⟩, ok3⟩ := ok'
  obtain ⟨c1, ⟨c2, c3, c4, c5⟩, ⟨c6, c7, c8⟩, c9, c10⟩ := a.2.2.2.1
  obtain ⟨m1, mc, mn⟩ := e.2.2.2.1
  have y9 := hz.1
  have hnp := hC.1.1
  unfold f_X11_where f_X12_where
  cases cr with
  | false =>
    rw [m_ahd0 m1, ob2_s, if_pos rfl, if_pos (show SH.1 0 13 = 0 from c1)]
    exact ⟨_, _, _, rfl, rfl, h⟩
  | true =>
    rw [if_pos rfl] at c1 m1
    rw [c1, if_neg ne1, show f_X12_isAhead (1 : Int32) (1 : Int32) (1 : Int32) SM = _ from m_ahd (n := 1) (lo := 1) (hi := 1) m1 (f.1.1 0 (by decide)) y9 (by decide) (by decide) (by decide), ob2_s, b.1.2.1.1]
    have e3 : ∀ (A B : Option (Int32 × Hp)), (if nI (z 0) < (999 : Int32) then A else B) = if z 0 < 999 then A else B := fun A B => by
      by_cases q : z 0 < 999
      · rw [if_pos q, if_pos ((ltL 999 (by omega) (by decide)).mpr q)]
      · rw [if_neg q, if_neg (fun w => q ((ltL 999 (by omega) (by decide)).mp w))]
    rw [e3]
    by_cases ey : z 0 < 999
    rotate_left
    · rw [if_neg (show ¬ (1 ≤ 1 ∧ 1 ≤ 1 ∧ z 0 + 1 ≤ 999) by omega), if_pos rfl, if_neg ey]
      have : (if x < 0 then some ((-1 : Int32), SH) else if (1 : Int32) < x then some ((-1 : Int32), SH) else some ((-1 : Int32), SH)) = some ((-1 : Int32), SH) := by
        split
        · rfl
        · split <;> rfl
      rw [this]
      exact ⟨_, _, _, rfl, rfl, h⟩
    rw [if_pos (show 1 ≤ 1 ∧ 1 ≤ 1 ∧ z 0 + 1 ≤ 999 by omega), if_neg ne1, m_inL (n := 1) (by decide), ob2_s, if_pos ey]
    rcases ix3 x (n := 2) (by decide) with hx | ⟨n, hn, rfl⟩
    · rw [if_neg (ix_in5 (n := 1) (by decide) hx), if_pos rfl]
      by_cases h0 : x < 0
      · rw [if_pos h0]
        exact ⟨_, _, _, rfl, rfl, h⟩
      · rw [if_neg h0, if_pos (Int32.lt_of_lt_of_le (show (1 : Int32) < nI 2 by decide) (hx.resolve_left h0))]
        exact ⟨_, _, _, rfl, rfl, h⟩
    have hp : 2 ^ cT C ≤ 2 ^ 6 := Nat.pow_le_pow_right (by decide) hC.1.2.1
    have hl := fL_len C (rip C z) (xW X) (2 ^ cT C)
    have hz1 := rip_ok hC hz
    obtain ⟨S1, r1, r2, r3, r4, r5⟩ := h_findC hC hz okw okr (c9 rfl) b a.2.2.2.2.2.1
    obtain ⟨M1, t1, t2, t3, t4⟩ := m_layS hC hz okw okr mc f (by rw [m1]; exact ne1) e.2.2.2.2.2.1
    have mc1 := mC_f mc t4 (fun b k q => by unfold fP at q; unfold crM; omega)
    have sm := sim_fit ok a b d e t3 r5 r3 t4
    have hcr := crH c5
    rw [if_neg (nI_pos (by omega)), if_neg (fun q => absurd ((gtL 1 (by omega) (by decide)).mp q) (by omega)), r1, ob_s, if_pos ((in5 (by decide)).mpr ⟨n, by omega, rfl⟩), if_neg ne1, t1, ob_s, r2.1]
    have h129 : f_X12_where_129 (nI n) (-1 : Int32) (0 : Int32) M1 = some (-1, M1) := by
      unfold f_X12_where_129
      rw [if_pos rfl]
    have m33 : (fL C (rip C z) (xW X) (2 ^ cT C)).length = 0 ∨ cP C = 0 → f_X12_where_33 5000 (nI n) (-1 : Int32) (0 : Int32) (0 : Int32) M1 = some (-1, M1) := by
      intro q
      rw [f_X12_where_33, f_X12_provinceMany, ldI_L 3 (by decide) (by decide), mc1.1.1, ob2_s, t2.1, h129]
      by_cases q2 : cP C = 0
      · rw [if_pos (show nI (cP C) ≤ 0 by rw [q2]; decide)]
      · rw [if_neg (show ¬ nI (cP C) ≤ 0 from nI_ge (a := 0) (by omega) (by omega)), if_pos (show nI (fL C (rip C z) (xW X) (2 ^ cT C)).length ≤ 0 by rw [q.resolve_right q2]; decide)]
    by_cases e1 : (fL C (rip C z) (xW X) (2 ^ cT C)).length = 0
    · rw [if_pos (show nI (fL C (rip C z) (xW X) (2 ^ cT C)).length = 0 by rw [e1]; rfl), m33 (Or.inl e1)]
      exact ⟨_, _, _, rfl, rfl, sm⟩
    rw [if_neg (nI_ne0 (by omega) (by omega)), ldP_n (show S1.2.2 0 1 = c by rw [r5.2.1]; exact c2) hcr, ldI_L 0 (by decide) (by decide), r4.2.1.1]
    by_cases e2 : cP C = 0
    · rw [if_pos (show nI (cP C) = 0 by rw [e2]; rfl), m33 (Or.inr e2)]
      exact ⟨_, _, _, rfl, rfl, sm⟩
    rw [if_neg (nI_ne0 (by omega) (by omega))]
    have w33 := m_w33 (x := n) hC hz1 mc1 t2 (by omega) (cP C) 0 5000 (by omega) (by omega)
    rw [show f_X12_where_33 5000 (nI n) (-1 : Int32) (0 : Int32) (0 : Int32) M1 = _ from w33]
    obtain ⟨S2, hS2⟩ : ∃ S2, S2 = ho_sI (ho_sI S1 70 2 (-1 : Int32)) 70 3 (65 : Int32) := ⟨_, rfl⟩
    have f2 : fH (fun b => b = 70) S1 S2 := by rw [hS2]; exact fH_tr (fH_sI S1 rfl (by decide)) (fH_sI _ rfl (by decide))
    have hcc := cH_c r4
    obtain ⟨S3, u1, u2, u3, u4⟩ := h_ch13 (z := rip C z) (l := fL C (rip C z) (xW X) (2 ^ cT C)) hC hz1 (by omega) (cP C) 0 5000 S2 (by omega) (by omega) (cH_f r4 f2 (fun b q => by unfold crC; omega)) ⟨by rw [hS2, sI_k (by decide), sI_k (by decide)]; exact r2.1, fun j hj => by rw [f2.1 73 (by first | decide | (dsimp only; omega) | omega)]; exact ⟨(r2.2 j hj).1, fun p hp => by rw [f2.1 _ (by first | decide | (dsimp only; omega) | omega)]; exact (r2.2 j hj).2 p hp⟩⟩ ⟨by rw [hS2, sI_k (by decide), sI_v], by rw [hS2, sI_v]; rfl⟩
    have hch : f_X1_choose S1 = some S3 := by
      unfold f_X1_choose
      rw [le1_e, le1_e, ← hS2]
      exact u1
    obtain ⟨bb, hbb⟩ : ∃ bb, chC C (rip C z) (fL C (rip C z) (xW X) (2 ^ cT C)) (cP C) = some bb := by
      obtain ⟨q, hq⟩ : ∃ q, cP C = q + 1 := ⟨cP C - 1, by omega⟩
      rw [hq]
      exact chC_s
    have hb2 := chC_le _ _ hbb
    rw [hbb] at u2
    have sm3 : Sim S3 M1 := sim_fit ok a b d e t3 (fH_tr r5 (fH_mo (fH_tr f2 u4) (fun b q => Or.inl (Or.inr (Or.inl q))))) (by rw [u3, hS2, sI_k (by decide), sI_k (by decide)]; exact r3) t4
    rw [hch, ob_s, hbb, u2.1, u2.2]
    show ∃ (r : Int32) (SH1 SM1 : Hp), _ ∧ f_X12_where_129 (nI n) (nI bb.1) (nI bb.2) M1 = _ ∧ _
    unfold f_X12_where_129
    rw [if_neg (nI_nm (by omega))]
    by_cases e0 : n = 0
    · rw [if_pos (show nI n = 0 by rw [e0]; rfl), if_pos (show nI n = 0 by rw [e0]; rfl)]
      exact ⟨_, _, _, rfl, rfl, sm3⟩
    · rw [if_neg (nI_ne0 (by omega) (by omega)), if_neg (nI_ne0 (by omega) (by omega))]
      exact ⟨_, _, _, rfl, rfl, sm3⟩

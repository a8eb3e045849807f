/-! level 2: alike answers: where -/
theorem nI_nm {k : Nat} (h : k < 2 ^ 31) : ¬ nI k = -1 := by
  intro q
  have := congrArg Int32.toInt q
  rw [nI_toInt h, nm1] at this
  omega
abbrev eqS (C : Cr) (z : Nat → Nat) (p v : Nat) : Nat → Nat → Nat := fun k n => if lft C z n p = v then k + 1 else k
def eqC (C : Cr) (z : Nat → Nat) (p v : Nat) (l : List Nat) : Nat := l.foldl (eqS C z p v) 0
abbrev mxS (C : Cr) (z : Nat → Nat) (p : Nat) (l : List Nat) : Nat → Nat → Nat := fun m n => if m < eqC C z p (lft C z n p) l then eqC C z p (lft C z n p) l else m
def mxC (C : Cr) (z : Nat → Nat) (p : Nat) (l : List Nat) : Nat := l.foldl (mxS C z p l) 0
theorem eqF_le {C : Cr} {z : Nat → Nat} {p v : Nat} : ∀ (l : List Nat) (k : Nat), l.foldl (eqS C z p v) k ≤ k + l.length
  | [], k => Nat.le_refl _
  | n :: l, k => by
    have h1 := eqF_le (C := C) (z := z) (p := p) (v := v) l (eqS C z p v k n)
    have h2 : eqS C z p v k n ≤ k + 1 := by unfold eqS; split <;> omega
    show List.foldl _ (eqS C z p v k n) l ≤ k + (l.length + 1)
    omega
theorem eqC_le {C : Cr} {z : Nat → Nat} {p v : Nat} (l : List Nat) : eqC C z p v l ≤ l.length := by
  have := eqF_le (C := C) (z := z) (p := p) (v := v) l 0
  unfold eqC
  omega
theorem mxF_le {C : Cr} {z : Nat → Nat} {p : Nat} (l0 : List Nat) : ∀ (l : List Nat) (m : Nat), m ≤ l0.length → l.foldl (mxS C z p l0) m ≤ l0.length
  | [], m, h => h
  | n :: l, m, h => mxF_le l0 l _ (by
    have := eqC_le (C := C) (z := z) (p := p) (v := lft C z n p) l0
    show (if m < eqC C z p (lft C z n p) l0 then eqC C z p (lft C z n p) l0 else m) ≤ _
    split <;> omega)
theorem mxC_le {C : Cr} {z : Nat → Nat} {p : Nat} (l : List Nat) : mxC C z p l ≤ l.length := mxF_le l l 0 (Nat.zero_le _)
def chC (C : Cr) (z : Nat → Nat) (l : List Nat) : Nat → Option (Nat × Nat)
  | 0 => none
  | q + 1 => match chC C z l q with
    | none => some (q, mxC C z q l)
    | some b => if mxC C z q l < b.2 then some (q, mxC C z q l) else some b
theorem chC_le {C : Cr} {z : Nat → Nat} {l : List Nat} : ∀ q b, chC C z l q = some b → b.1 < q ∧ b.2 ≤ l.length
  | 0, b, h => by cases h
  | q + 1, b, h => by
    have hm := mxC_le (C := C) (z := z) (p := q) l
    rw [chC] at h
    cases hq : chC C z l q with
    | none =>
      rw [hq] at h
      cases h
      exact ⟨Nat.lt_succ_self _, hm⟩
    | some b0 =>
      rw [hq] at h
      have ih := chC_le q b0 hq
      by_cases e : mxC C z q l < b0.2
      · simp only [if_pos e] at h
        cases h
        exact ⟨Nat.lt_succ_self _, hm⟩
      · simp only [if_neg e] at h
        cases h
        exact ⟨by omega, ih.2⟩
theorem chC_s {C : Cr} {z : Nat → Nat} {l : List Nat} {q : Nat} : ∃ b, chC C z l (q + 1) = some b := by
  rw [chC]
  cases chC C z l q with
  | none => exact ⟨_, rfl⟩
  | some b0 =>
    by_cases e : mxC C z q l < b0.2
    · exact ⟨_, if_pos e⟩
    · exact ⟨_, if_neg e⟩
theorem h_ml18 {S : Hp} {C : Cr} {z : Nat → Nat} {l : List Nat} {p i m : Nat} (hC : okCr C) (hz : okZ C z) (h : fiH S C z l) (hl : l.length ≤ 64) (hp : p < 6) (hi : i < l.length) (hm : m < 2 ^ 30) (F : Int32 → Int32 → Hp → Option (Int32 × Hp)) : ∀ (d j K k : Nat), j + d = l.length → d < K → k ≤ j → f_X1_mostLeft_18 F (75 + p) 64 K (nI m) (nI i) (nI k) (nI j) S = F (nI (if m < (l.drop j).foldl (eqS C z p (lft C z (l.getD i 0) p)) k then (l.drop j).foldl (eqS C z p (lft C z (l.getD i 0) p)) k else m)) (nI (i + 1)) S
  | 0, j, K, k, hj, hK, hk => by
    obtain ⟨K, rfl⟩ : ∃ q, K = q + 1 := ⟨K - 1, by omega⟩
    rw [f_X1_mostLeft_18, h.1, if_pos (nI_le (by omega) (by omega)), List.drop_of_length_le (by omega), f_J9_max_7cf53]
    show _ = F (nI (if m < k then k else m)) (nI (i + 1)) S
    by_cases e : m < k
    · rw [if_pos (nI_lt e (by omega)), ob2_s, le1_e, nI_1, if_pos e]
    · rw [if_neg (nI_nlt (by omega) (by omega)), ob2_s, le1_e, nI_1, if_neg e]
  | d + 1, j, K, k, hj, hK, hk => by
    obtain ⟨K, rfl⟩ : ∃ q, K = q + 1 := ⟨K - 1, by omega⟩
    have hb : ∀ n, lft C z n p < 2 ^ 31 := fun n => by
      have := (apr_le (s := n) hC hz).2 p hp
      have := hz.2.2.2.1 p hp
      omega
    rw [f_X1_mostLeft_18, h.1, if_neg (nI_ge (by omega) (by omega)), ldI_n (by omega) (by decide), ldI_n (by omega) (by decide), (h.2 i hi).2 p hp, (h.2 j (by omega)).2 p hp, dr_c (show j < l.length by omega)]
    show _ = F (nI (if m < (l.drop (j + 1)).foldl (eqS C z p (lft C z (l.getD i 0) p)) (eqS C z p (lft C z (l.getD i 0) p) k (l.getD j 0)) then (l.drop (j + 1)).foldl (eqS C z p (lft C z (l.getD i 0) p)) (eqS C z p (lft C z (l.getD i 0) p) k (l.getD j 0)) else m)) (nI (i + 1)) S
    have hs : eqS C z p (lft C z (l.getD i 0) p) k (l.getD j 0) ≤ j + 1 := by unfold eqS; split <;> omega
    rw [← h_ml18 hC hz h hl hp hi hm F d (j + 1) K (eqS C z p (lft C z (l.getD i 0) p) k (l.getD j 0)) (by omega) (by omega) hs]
    unfold f_X1_mostLeft_40 eqS
    rw [le1_e, le1_e, le1_e, nI_1, nI_1]
    by_cases e : lft C z (l.getD j 0) p = lft C z (l.getD i 0) p
    · rw [if_pos (show nI (lft C z (l.getD i 0) p) = nI (lft C z (l.getD j 0) p) by rw [e]), if_pos e]
    · rw [if_neg (fun q => e ((nI_eq (hb _) (hb _)).mp q).symm), if_neg e]
theorem h_ml4 {S : Hp} {C : Cr} {z : Nat → Nat} {l : List Nat} {p : Nat} (hC : okCr C) (hz : okZ C z) (h : fiH S C z l) (hl : l.length ≤ 64) (hp : p < 6) : ∀ (d i K m : Nat), i + d = l.length → d < K → m ≤ l.length → f_X1_mostLeft_4 (75 + p) 64 K (nI m) (nI i) S = some (nI ((l.drop i).foldl (mxS C z p l) m), S)
  | 0, i, K, m, hi, hK, hm => by
    obtain ⟨K, rfl⟩ : ∃ q, K = q + 1 := ⟨K - 1, by omega⟩
    rw [f_X1_mostLeft_4, h.1, if_pos (nI_le (by omega) (by omega)), List.drop_of_length_le (by omega)]; rfl
  | d + 1, i, K, m, hi, hK, hm => by
    obtain ⟨K, rfl⟩ : ∃ q, K = q + 1 := ⟨K - 1, by omega⟩
    have hs : mxS C z p l m (l.getD i 0) ≤ l.length := by
      have := eqC_le (C := C) (z := z) (p := p) (v := lft C z (l.getD i 0) p) l
      unfold mxS; split <;> omega
    have ih := h_ml4 hC hz h hl hp d (i + 1) K (mxS C z p l m (l.getD i 0)) (by omega) (by omega) hs
    have h18 := h_ml18 (i := i) (m := m) hC hz h hl hp (by omega) (by omega) (f_X1_mostLeft_4 (75 + p) 64 K) l.length 0 5000 0 (by omega) (by omega) (Nat.le_refl _)
    rw [f_X1_mostLeft_4, h.1, if_neg (nI_ge (by omega) (by omega)), dr_c (show i < l.length by omega), show f_X1_mostLeft_18 (f_X1_mostLeft_4 (75 + p) 64 K) (75 + p) 64 5000 (nI m) (nI i) (0 : Int32) (0 : Int32) S = _ from h18, List.drop_zero]
    exact ih
theorem h_ch13 {c : Nat} {C : Cr} {z : Nat → Nat} {l : List Nat} (hC : okCr C) (hz : okZ C z) (hl : l.length ≤ 64) : ∀ (d q K : Nat) (S : Hp), q + d = cP C → d < K → cH S c C → fiH S C z l → (match chC C z l q with | none => S.1 70 2 = -1 ∧ S.1 70 3 = nI 65 | some b => S.1 70 2 = nI b.1 ∧ S.1 70 3 = nI b.2) → ∃ S', f_X1_choose_13 K (nI q) S = some S' ∧ (match chC C z l (cP C) with | none => S'.1 70 2 = -1 ∧ S'.1 70 3 = nI 65 | some b => S'.1 70 2 = nI b.1 ∧ S'.1 70 3 = nI b.2) ∧ S'.1 70 0 = S.1 70 0 ∧ fH (fun b => b = 70) S S' := by
  have hnp := hC.1.1
  intro d
  induction d with
  | zero =>
    intro q K S hq hK h hf hc
    obtain ⟨K, rfl⟩ : ∃ q, K = q + 1 := ⟨K - 1, by omega⟩
    refine ⟨S, by rw [f_X1_choose_13, ldP_n h.1.1 h.1.2, ldI_L 0 (by decide) (by decide), h.2.1.1, if_pos (nI_le (by omega) (by omega))], ?_, rfl, fH_rf _ S⟩
    rw [← show q = cP C by omega]
    exact hc
  | succ d ih =>
    intro q K S hq hK h hf hc
    obtain ⟨K, rfl⟩ : ∃ q, K = q + 1 := ⟨K - 1, by omega⟩
    have hcc := cH_c h
    obtain ⟨y1, y2⟩ := rwH (p := q) (by omega)
    have hm := mxC_le (C := C) (z := z) (p := q) l
    have m4 := h_ml4 (p := q) hC hz hf hl (by omega) l.length 0 5000 0 (by omega) (by omega) (Nat.zero_le _)
    rw [List.drop_zero] at m4
    have nx : ∀ S1, S1.1 70 0 = S.1 70 0 → S1.1 70 1 = S.1 70 1 → fH (fun b => b = 70) S S1 → (match chC C z l (q + 1) with | none => S1.1 70 2 = -1 ∧ S1.1 70 3 = nI 65 | some b => S1.1 70 2 = nI b.1 ∧ S1.1 70 3 = nI b.2) → ∃ S', f_X1_choose_58 (f_X1_choose_13 K) (nI q) S1 = some S' ∧ (match chC C z l (cP C) with | none => S'.1 70 2 = -1 ∧ S'.1 70 3 = nI 65 | some b => S'.1 70 2 = nI b.1 ∧ S'.1 70 3 = nI b.2) ∧ S'.1 70 0 = S.1 70 0 ∧ fH (fun b => b = 70) S S' := by
      intro S1 e0 e1 f1 hc1
      obtain ⟨S', r1, r2, r3, r4⟩ := ih (q + 1) K S1 (by omega) (by omega) (cH_f h f1 (fun b q => by unfold crC; omega)) ⟨by rw [e1]; exact hf.1, fun j hj => by rw [f1.1 73 (by first | decide | (dsimp only; omega) | omega)]; exact ⟨(hf.2 j hj).1, fun p hp => by rw [f1.1 _ (by first | decide | (dsimp only; omega) | omega)]; exact (hf.2 j hj).2 p hp⟩⟩ hc1
      refine ⟨S', ?_, r2, r3.trans e0, fH_tr f1 r4⟩
      unfold f_X1_choose_58
      rw [le1_e, nI_1]
      exact r1
    rw [f_X1_choose_13, ldP_n h.1.1 h.1.2, ldI_L 0 (by decide) (by decide), h.2.1.1, if_neg (nI_ge (by omega) (by omega)), ldR_n (show q < 6 by omega) (by decide) y1 y2, show f_X1_mostLeft (75 + q) 64 S = _ from m4, ob2_s, show List.foldl (mxS C z q l) 0 l = mxC C z q l from rfl, le1_e, le1_e]
    have fs : fH (fun b => b = 70) S (ho_sI (ho_sI S 70 2 (nI q)) 70 3 (nI (mxC C z q l))) := fH_tr (fH_sI S rfl (by decide)) (fH_sI _ rfl (by decide))
    have st : ¬ S.1 70 3 ≤ nI (mxC C z q l) → chC C z l (q + 1) = some (q, mxC C z q l) → _ := fun u1 u2 => nx (ho_sI (ho_sI S 70 2 (nI q)) 70 3 (nI (mxC C z q l))) (by rw [sI_k (by decide), sI_k (by decide)]) (by rw [sI_k (by decide), sI_k (by decide)]) fs (by rw [u2]; exact ⟨by rw [sI_k (by decide), sI_v], sI_v⟩)
    cases hq : chC C z l q with
    | none =>
      rw [hq] at hc
      have u1 : ¬ S.1 70 3 ≤ nI (mxC C z q l) := by rw [hc.2]; exact nI_ge (by omega) (by decide)
      rw [if_neg u1]
      exact st u1 (by rw [chC, hq])
    | some b =>
      rw [hq] at hc
      have hb := chC_le q b hq
      by_cases e : mxC C z q l < b.2
      · have u1 : ¬ S.1 70 3 ≤ nI (mxC C z q l) := by rw [hc.2]; exact nI_ge e (by omega)
        rw [if_neg u1]
        exact st u1 (by rw [chC, hq]; exact if_pos e)
      · rw [if_pos (show S.1 70 3 ≤ nI (mxC C z q l) by rw [hc.2]; exact nI_le (by omega) (by omega))]
        have u2 : chC C z l (q + 1) = some b := by rw [chC, hq]; exact if_neg e
        exact nx S rfl rfl (fH_rf _ S) (by rw [u2]; exact hc)

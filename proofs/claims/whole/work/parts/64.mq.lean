/-! level 2: the reference: what waits, codes, words by their numbers -/
/-- the words that the reference holds, by their cells -/
def wtab : List (Nat × List Nat) := [(11, [110, 101, 101, 100]), (12, [100, 101, 98, 116]), (13, [114, 97, 116, 101]), (14, [115, 116, 111, 114, 101, 115]), (15, [121, 105, 101, 108, 100, 115]), (16, [116, 114, 105, 99, 107]), (17, [116, 97, 107, 101, 115]), (18, [102, 114, 111, 109]), (19, [108, 111, 111, 107]), (20, [119, 97, 116, 99, 104]), (21, [115, 101, 97, 116]), (22, [103, 108, 97, 115, 115]), (23, [115, 101, 101, 115]), (24, [108, 111, 115, 101, 115]), (25, [98, 101, 108, 105, 101, 102]), (26, [98, 111, 121, 115]), (27, [116, 105, 109, 101, 115]), (28, [121, 101, 97, 114]), (29, [110, 117, 109, 98, 101, 114]), (30, [107, 110, 111, 119, 110]), (31, [115, 105, 103, 104, 116]), (32, [108, 101, 102, 116]), (33, [115, 101, 101, 110]), (34, [111, 114]), (35, [97, 110, 100]), (36, [110, 111, 116]), (37, [97, 108, 108]), (38, [109, 105, 110]), (39, [109, 97, 120]), (76, [102, 105, 114, 115, 116]), (77, [108, 97, 115, 116]), (78, [111, 102, 116, 101, 110]), (79, [116, 111, 116, 97, 108]), (80, [109, 111, 115, 116]), (81, [108, 101, 97, 115, 116]), (82, [110, 111, 116]), (83, [97, 110, 100]), (84, [111, 114]), (85, [97, 108, 108]), (86, [109, 105, 110]), (87, [109, 97, 120]), (88, [108, 111, 111, 107]), (89, [116, 105, 109, 101, 115]), (90, [121, 101, 97, 114]), (91, [115, 101, 97, 116]), (92, [103, 108, 97, 115, 115]), (93, [116, 97, 107, 101, 115]), (94, [98, 101, 108, 105, 101, 102]), (95, [110, 117, 109, 98, 101, 114]), (96, [107, 110, 111, 119, 110]), (97, [115, 105, 103, 104, 116]), (98, [108, 101, 102, 116]), (99, [115, 101, 101, 110])]
def mWs (S : Hp) : Prop := ∀ p ∈ wtab, ∀ i, i < p.2.length → S.1 p.1 i = nI (p.2.getD i 0)
theorem wtab_ok : ∀ p ∈ wtab, p.2.length < 7 ∧ (∀ i, i < p.2.length → p.2.getD i 0 < 256) ∧ 10 < p.1 ∧ p.1 < 100 ∧ p.1 ≠ 41 ∧ (p.1 < 40 ∨ 75 < p.1) := by decide
theorem mW_at {S : Hp} (h : mWs S) (c : Nat) (w : List Nat) (hm : (c, w) ∈ wtab) : mWd S c w := ⟨(wtab_ok _ hm).1, fun i hi => ⟨h _ hm i hi, (wtab_ok _ hm).2.1 i hi⟩⟩
def lsC (S : Hp) (a : Nat) (l : List Nat) : Prop := ∀ i, i < l.length → S.1 a i = nI (l.getD i 0)
/-- what waits, the codes, how many are open, where the sum at hand begins -/
def qS (S : Hp) (W Cs : List Nat) (op bs : Nat) : Prop := (S.1 0 102 = nI W.length ∧ lsC S 102 W) ∧ (S.1 0 100 = nI Cs.length ∧ lsC S 100 Cs) ∧ S.1 0 103 = nI op ∧ S.1 0 104 = nI bs
def qR (S : Hp) (T : Tp) (m : Nat) (σ : Lx) (W Cs : List Nat) (op bs : Nat) : Prop := lR S T σ ∧ (S.1 0 53 = nI m ∧ m < 3) ∧ mWs S ∧ qS S W Cs op bs
/-- what the reading of sums writes -/
def pP (b k : Nat) : Prop := (b = 0 ∧ (k = 2 ∨ k = 4 ∨ k = 5 ∨ k = 6 ∨ k = 39 ∨ k = 100 ∨ k = 102 ∨ k = 103 ∨ k = 104)) ∨ b = 100 ∨ b = 102
theorem lx_p {b k : Nat} (h : lxP b k) : pP b k := by
  unfold lxP at h
  unfold pP
  omega
theorem mWs_f {P : Nat → Nat → Prop} {S S' : Hp} (h : mWs S) (hf : fM P S S') (hp : ∀ b k, P b k → b < 11 ∨ (39 < b ∧ b < 76) ∨ 99 < b) : mWs S' := by
  intro p hm i hi
  have := (wtab_ok p hm).2.2
  rw [hf.1 p.1 i (fun q => by have := hp _ _ q; omega)]
  exact h p hm i hi
theorem pP_w {b k : Nat} (h : pP b k) : b < 11 ∨ (39 < b ∧ b < 76) ∨ 99 < b := by
  unfold pP at h
  omega
theorem qS_l {S S' : Hp} {W Cs : List Nat} {op bs : Nat} (h : qS S W Cs op bs) (hf : fM lxP S S') : qS S' W Cs op bs := by
  obtain ⟨⟨h1, h2⟩, ⟨h3, h4⟩, h5, h6⟩ := h
  have e : ∀ b k, ¬ lxP b k → S'.1 b k = S.1 b k := hf.1
  refine ⟨⟨?_, fun i hi => ?_⟩, ⟨?_, fun i hi => ?_⟩, ?_, ?_⟩
  · rw [e 0 102 (by unfold lxP; omega)]; exact h1
  · rw [e 102 i (by unfold lxP; omega)]; exact h2 i hi
  · rw [e 0 100 (by unfold lxP; omega)]; exact h3
  · rw [e 100 i (by unfold lxP; omega)]; exact h4 i hi
  · rw [e 0 103 (by unfold lxP; omega)]; exact h5
  · rw [e 0 104 (by unfold lxP; omega)]; exact h6
theorem qR_l {S S' : Hp} {T : Tp} {m : Nat} {σ σ' : Lx} {W Cs : List Nat} {op bs : Nat} (h : qR S T m σ W Cs op bs) (hf : fM lxP S S') (hl : lR S' T σ') : qR S' T m σ' W Cs op bs := by
  refine ⟨hl, ⟨?_, h.2.1.2⟩, mWs_f h.2.2.1 hf (fun b k q => pP_w (lx_p q)), qS_l h.2.2.2 hf⟩
  rw [hf.1 0 53 (by unfold lxP; omega)]
  exact h.2.1.1
theorem isW_u {T : Tp} {σ : Lx} {w w' : List Nat} (h : isW T σ w = true) (h' : isW T σ w' = true) : w = w' := (isW_i.mp h).2.symm.trans (isW_i.mp h').2
theorem m_al {S : Hp} {m k : Nat} (h : S.1 0 53 = nI m) (hm : m < 3) (hk : k < 12) : f_X12_isAllowed (nI k) S = some (if al m k = true then 1 else 0, S) := by
  have i3 : nI k < (3 : Int32) ↔ k < 3 := ltL 3 (by omega) (by decide)
  have i5 : (5 : Int32) ≤ nI k ↔ 5 ≤ k := geL 5 (by omega) (by decide)
  have e5 : nI k = (5 : Int32) ↔ k = 5 := eqL 5 (by omega) (by decide)
  have e6 : nI k = (6 : Int32) ↔ k = 6 := eqL 6 (by omega) (by decide)
  have l6 : nI k ≤ (6 : Int32) ↔ k ≤ 6 := leL 6 (by omega) (by decide)
  have m0 : nI m = (0 : Int32) ↔ m = 0 := eqL 0 (by omega) (by decide)
  have m1 : nI m = (1 : Int32) ↔ m = 1 := eqL 1 (by omega) (by decide)
  unfold f_X12_isAllowed al f_X12_isAllowed_53
  rw [h]
  simp only [i3, i5, e5, e6, l6, m0, m1]
  by_cases a : m = 0
  · simp only [a, if_true]
    by_cases b : 5 ≤ k
    · simp only [b, if_true]; rw [if_neg (by simp; omega)]
    · simp only [b, if_false]; rw [if_pos (by simp; omega)]
  · simp only [a, if_false]
    by_cases b : m = 1
    · simp only [b, if_true]
      by_cases c : k < 3
      · simp [c]
      · by_cases d : k = 5
        · simp [c, d]
        · by_cases f : k = 6
          · simp [c, d, f]
          · simp [c, d, f]
    · simp only [b, if_false]
      by_cases c : k < 3
      · simp [c]
      · by_cases d : k = 5
        · simp [c, d]
        · by_cases f : k ≤ 6
          · have : ¬ 6 < k := (by omega)
            simp [c, d, f, this]
          · have : 6 < k := (by omega)
            simp [c, d, f, this]
theorem m_wdH {S : Hp} {T : Tp} {σ : Lx} (h : lX S T σ) (hW : mWs S) : ∃ r, f_X12_qWordHere S = some (r, S) ∧ ((∃ k, k < 12 ∧ isW T σ (pW.getD k []) = true ∧ r = nI k) ∨ ((∀ k, k < 12 → ¬ isW T σ (pW.getD k []) = true) ∧ r = -1)) := by
  unfold f_X12_qWordHere
  have r0 := m_hereX h (mW_at hW 88 [108, 111, 111, 107] (by decide))
  rw [show f_X12_isHere 88 4 S = _ from r0, ob2_s]
  by_cases q0 : isW T σ [108, 111, 111, 107] = true
  · rw [if_neg (fun x => ite01.mp x q0)]; exact ⟨_, rfl, Or.inl ⟨0, by decide, q0, rfl⟩⟩
  rw [if_pos (ite01.mpr q0)]
  have r1 := m_hereX h (mW_at hW 89 [116, 105, 109, 101, 115] (by decide))
  rw [show f_X12_isHere 89 5 S = _ from r1, ob2_s]
  by_cases q1 : isW T σ [116, 105, 109, 101, 115] = true
  · rw [if_neg (fun x => ite01.mp x q1)]; exact ⟨_, rfl, Or.inl ⟨1, by decide, q1, rfl⟩⟩
  rw [if_pos (ite01.mpr q1)]
  have r2 := m_hereX h (mW_at hW 90 [121, 101, 97, 114] (by decide))
  rw [show f_X12_isHere 90 4 S = _ from r2, ob2_s]
  by_cases q2 : isW T σ [121, 101, 97, 114] = true
  · rw [if_neg (fun x => ite01.mp x q2)]; exact ⟨_, rfl, Or.inl ⟨2, by decide, q2, rfl⟩⟩
  rw [if_pos (ite01.mpr q2)]
  have r3 := m_hereX h (mW_at hW 91 [115, 101, 97, 116] (by decide))
  rw [show f_X12_isHere 91 4 S = _ from r3, ob2_s]
  by_cases q3 : isW T σ [115, 101, 97, 116] = true
  · rw [if_neg (fun x => ite01.mp x q3)]; exact ⟨_, rfl, Or.inl ⟨3, by decide, q3, rfl⟩⟩
  rw [if_pos (ite01.mpr q3)]
  have r4 := m_hereX h (mW_at hW 92 [103, 108, 97, 115, 115] (by decide))
  rw [show f_X12_isHere 92 5 S = _ from r4, ob2_s]
  by_cases q4 : isW T σ [103, 108, 97, 115, 115] = true
  · rw [if_neg (fun x => ite01.mp x q4)]; exact ⟨_, rfl, Or.inl ⟨4, by decide, q4, rfl⟩⟩
  rw [if_pos (ite01.mpr q4)]
  have r5 := m_hereX h (mW_at hW 93 [116, 97, 107, 101, 115] (by decide))
  rw [show f_X12_isHere 93 5 S = _ from r5, ob2_s]
  by_cases q5 : isW T σ [116, 97, 107, 101, 115] = true
  · rw [if_neg (fun x => ite01.mp x q5)]; exact ⟨_, rfl, Or.inl ⟨5, by decide, q5, rfl⟩⟩
  rw [if_pos (ite01.mpr q5)]
  have r6 := m_hereX h (mW_at hW 94 [98, 101, 108, 105, 101, 102] (by decide))
  rw [show f_X12_isHere 94 6 S = _ from r6, ob2_s]
  by_cases q6 : isW T σ [98, 101, 108, 105, 101, 102] = true
  · rw [if_neg (fun x => ite01.mp x q6)]; exact ⟨_, rfl, Or.inl ⟨6, by decide, q6, rfl⟩⟩
  rw [if_pos (ite01.mpr q6)]
  have r7 := m_hereX h (mW_at hW 95 [110, 117, 109, 98, 101, 114] (by decide))
  rw [show f_X12_isHere 95 6 S = _ from r7, ob2_s]
  by_cases q7 : isW T σ [110, 117, 109, 98, 101, 114] = true
  · rw [if_neg (fun x => ite01.mp x q7)]; exact ⟨_, rfl, Or.inl ⟨7, by decide, q7, rfl⟩⟩
  rw [if_pos (ite01.mpr q7)]
  have r8 := m_hereX h (mW_at hW 96 [107, 110, 111, 119, 110] (by decide))
  rw [show f_X12_isHere 96 5 S = _ from r8, ob2_s]
  by_cases q8 : isW T σ [107, 110, 111, 119, 110] = true
  · rw [if_neg (fun x => ite01.mp x q8)]; exact ⟨_, rfl, Or.inl ⟨8, by decide, q8, rfl⟩⟩
  rw [if_pos (ite01.mpr q8)]
  have r9 := m_hereX h (mW_at hW 97 [115, 105, 103, 104, 116] (by decide))
  rw [show f_X12_isHere 97 5 S = _ from r9, ob2_s]
  by_cases q9 : isW T σ [115, 105, 103, 104, 116] = true
  · rw [if_neg (fun x => ite01.mp x q9)]; exact ⟨_, rfl, Or.inl ⟨9, by decide, q9, rfl⟩⟩
  rw [if_pos (ite01.mpr q9)]
  have r10 := m_hereX h (mW_at hW 98 [108, 101, 102, 116] (by decide))
  rw [show f_X12_isHere 98 4 S = _ from r10, ob2_s]
  by_cases q10 : isW T σ [108, 101, 102, 116] = true
  · rw [if_neg (fun x => ite01.mp x q10)]; exact ⟨_, rfl, Or.inl ⟨10, by decide, q10, rfl⟩⟩
  rw [if_pos (ite01.mpr q10)]
  have r11 := m_hereX h (mW_at hW 99 [115, 101, 101, 110] (by decide))
  rw [show f_X12_isHere 99 4 S = _ from r11, ob2_s]
  by_cases q11 : isW T σ [115, 101, 101, 110] = true
  · rw [if_neg (fun x => ite01.mp x q11)]; exact ⟨_, rfl, Or.inl ⟨11, by decide, q11, rfl⟩⟩
  rw [if_pos (ite01.mpr q11)]
  refine ⟨_, rfl, Or.inr ⟨fun k hk => ?_, rfl⟩⟩
  have hc : k = 0 ∨ k = 1 ∨ k = 2 ∨ k = 3 ∨ k = 4 ∨ k = 5 ∨ k = 6 ∨ k = 7 ∨ k = 8 ∨ k = 9 ∨ k = 10 ∨ k = 11 := (by omega)
  rcases hc with rfl | rfl | rfl | rfl | rfl | rfl | rfl | rfl | rfl | rfl | rfl | rfl
  · exact q0
  · exact q1
  · exact q2
  · exact q3
  · exact q4
  · exact q5
  · exact q6
  · exact q7
  · exact q8
  · exact q9
  · exact q10
  · exact q11
theorem m_wdO {S : Hp} {T : Tp} {m lo hi : Nat} {σ : Lx} (h : lX S T σ) (hW : mWs S) (hm : S.1 0 53 = nI m ∧ m < 3) (hlo : lo < 100) (hhi : hi < 100) : ∃ r, f_X12_qWordOf (nI lo) (nI hi) S = some (r, S) ∧ ((∃ k, k < 12 ∧ lo ≤ k ∧ k < hi ∧ al m k = true ∧ isW T σ (pW.getD k []) = true ∧ r = nI k) ∨ ((∀ k, k < 12 → lo ≤ k → k < hi → al m k = true → ¬ isW T σ (pW.getD k []) = true) ∧ r = -1)) := by
  have pWn : ∀ j, j < 12 → ∀ k, k < 12 → pW.getD j [] = pW.getD k [] → j = k := by decide
  obtain ⟨r, r1, r2⟩ := m_wdH h hW
  unfold f_X12_qWordOf
  rw [r1, ob2_s]
  rcases r2 with ⟨k, k1, k2, rfl⟩ | ⟨k1, rfl⟩
  · have un : ∀ j, j < 12 → isW T σ (pW.getD j []) = true → j = k := fun j hj hw => pWn j hj k k1 (isW_u hw k2)
    by_cases a : k < lo
    · rw [if_pos (nI_lt a (by omega))]
      exact ⟨_, rfl, Or.inr ⟨fun j j1 j2 j3 j4 j5 => by have := un j j1 j5; omega, rfl⟩⟩
    rw [if_neg (nI_nlt (by omega) (by omega))]
    by_cases b : hi ≤ k
    · rw [if_pos (nI_le b (by omega))]
      exact ⟨_, rfl, Or.inr ⟨fun j j1 j2 j3 j4 j5 => by have := un j j1 j5; omega, rfl⟩⟩
    rw [if_neg (nI_ge (by omega) (by omega)), m_al hm.1 hm.2 k1, ob2_s]
    by_cases c : al m k = true
    · rw [if_neg (fun x => ite01.mp x c)]
      exact ⟨_, rfl, Or.inl ⟨k, k1, by omega, by omega, c, k2, rfl⟩⟩
    · rw [if_pos (ite01.mpr c)]
      exact ⟨_, rfl, Or.inr ⟨fun j j1 j2 j3 j4 j5 => c (by rw [← un j j1 j5]; exact j4), rfl⟩⟩
  · have n1 : (-1 : Int32) < nI lo := by
      rw [Int32.lt_iff_toInt_lt, nI_toInt (by omega)]
      have : (-1 : Int32).toInt = -1 := (by decide)
      omega
    rw [if_pos n1]
    exact ⟨_, rfl, Or.inr ⟨fun j j1 j2 j3 j4 j5 => k1 j j1 j5, rfl⟩⟩
theorem m_askW {S : Hp} {T : Tp} {k : Nat} {σ : Lx} (h : lR S T σ) (hW : mWs S) (hk : k < 12) (hw : isW T σ (pW.getD k []) = true) : ∃ S', f_X12_qAsksWord (nI k) S = some S' ∧ fM lxP S S' ∧ lR S' T (nx T σ) := by
  have go : ∀ c w, (c, w) ∈ wtab → isW T σ w = true → ∃ S', f_X12_asks c w.length S = some S' ∧ fM lxP S S' ∧ lR S' T (nx T σ) := by
    intro c w hm hw
    obtain ⟨S1, r1, r2, r3⟩ := m_asks h (by have := (wtab_ok _ hm).2.2.1; omega) (mW_at hW c w hm)
    unfold tkW at r3
    rw [if_pos hw] at r3
    exact ⟨S1, r1, r2, r3⟩
  have hc : k = 0 ∨ k = 1 ∨ k = 2 ∨ k = 3 ∨ k = 4 ∨ k = 5 ∨ k = 6 ∨ k = 7 ∨ k = 8 ∨ k = 9 ∨ k = 10 ∨ k = 11 := (by omega)
  unfold f_X12_qAsksWord
  rcases hc with rfl | rfl | rfl | rfl | rfl | rfl | rfl | rfl | rfl | rfl | rfl | rfl
  · obtain ⟨S1, r1, r2, r3⟩ := go 88 [108, 111, 111, 107] (by decide) hw
    rw [if_pos (by decide), show f_X12_asks 88 4 S = some S1 from r1, ob_s]
    exact ⟨S1, rfl, r2, r3⟩
  · obtain ⟨S1, r1, r2, r3⟩ := go 89 [116, 105, 109, 101, 115] (by decide) hw
    rw [if_neg (by decide), if_pos (by decide), show f_X12_asks 89 5 S = some S1 from r1, ob_s]
    exact ⟨S1, rfl, r2, r3⟩
  · obtain ⟨S1, r1, r2, r3⟩ := go 90 [121, 101, 97, 114] (by decide) hw
    rw [if_neg (by decide), if_neg (by decide), if_pos (by decide), show f_X12_asks 90 4 S = some S1 from r1, ob_s]
    exact ⟨S1, rfl, r2, r3⟩
  · obtain ⟨S1, r1, r2, r3⟩ := go 91 [115, 101, 97, 116] (by decide) hw
    rw [if_neg (by decide), if_neg (by decide), if_neg (by decide), if_pos (by decide), show f_X12_asks 91 4 S = some S1 from r1, ob_s]
    exact ⟨S1, rfl, r2, r3⟩
  · obtain ⟨S1, r1, r2, r3⟩ := go 92 [103, 108, 97, 115, 115] (by decide) hw
    rw [if_neg (by decide), if_neg (by decide), if_neg (by decide), if_neg (by decide), if_pos (by decide), show f_X12_asks 92 5 S = some S1 from r1, ob_s]
    exact ⟨S1, rfl, r2, r3⟩
  · obtain ⟨S1, r1, r2, r3⟩ := go 93 [116, 97, 107, 101, 115] (by decide) hw
    rw [if_neg (by decide), if_neg (by decide), if_neg (by decide), if_neg (by decide), if_neg (by decide), if_pos (by decide), show f_X12_asks 93 5 S = some S1 from r1, ob_s]
    exact ⟨S1, rfl, r2, r3⟩
  · obtain ⟨S1, r1, r2, r3⟩ := go 94 [98, 101, 108, 105, 101, 102] (by decide) hw
    rw [if_neg (by decide), if_neg (by decide), if_neg (by decide), if_neg (by decide), if_neg (by decide), if_neg (by decide), if_pos (by decide), show f_X12_asks 94 6 S = some S1 from r1, ob_s]
    exact ⟨S1, rfl, r2, r3⟩
  · obtain ⟨S1, r1, r2, r3⟩ := go 95 [110, 117, 109, 98, 101, 114] (by decide) hw
    rw [if_neg (by decide), if_neg (by decide), if_neg (by decide), if_neg (by decide), if_neg (by decide), if_neg (by decide), if_neg (by decide), if_pos (by decide), show f_X12_asks 95 6 S = some S1 from r1, ob_s]
    exact ⟨S1, rfl, r2, r3⟩
  · obtain ⟨S1, r1, r2, r3⟩ := go 96 [107, 110, 111, 119, 110] (by decide) hw
    rw [if_neg (by decide), if_neg (by decide), if_neg (by decide), if_neg (by decide), if_neg (by decide), if_neg (by decide), if_neg (by decide), if_neg (by decide), if_pos (by decide), show f_X12_asks 96 5 S = some S1 from r1, ob_s]
    exact ⟨S1, rfl, r2, r3⟩
  · obtain ⟨S1, r1, r2, r3⟩ := go 97 [115, 105, 103, 104, 116] (by decide) hw
    rw [if_neg (by decide), if_neg (by decide), if_neg (by decide), if_neg (by decide), if_neg (by decide), if_neg (by decide), if_neg (by decide), if_neg (by decide), if_neg (by decide), if_pos (by decide), show f_X12_asks 97 5 S = some S1 from r1, ob_s]
    exact ⟨S1, rfl, r2, r3⟩
  · obtain ⟨S1, r1, r2, r3⟩ := go 98 [108, 101, 102, 116] (by decide) hw
    rw [if_neg (by decide), if_neg (by decide), if_neg (by decide), if_neg (by decide), if_neg (by decide), if_neg (by decide), if_neg (by decide), if_neg (by decide), if_neg (by decide), if_neg (by decide), if_pos (by decide), show f_X12_asks 98 4 S = some S1 from r1, ob_s]
    exact ⟨S1, rfl, r2, r3⟩
  · obtain ⟨S1, r1, r2, r3⟩ := go 99 [115, 101, 101, 110] (by decide) hw
    rw [if_neg (by decide), if_neg (by decide), if_neg (by decide), if_neg (by decide), if_neg (by decide), if_neg (by decide), if_neg (by decide), if_neg (by decide), if_neg (by decide), if_neg (by decide), if_neg (by decide), show f_X12_asks 99 4 S = some S1 from r1, ob_s]
    exact ⟨S1, rfl, r2, r3⟩

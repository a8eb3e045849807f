/-! level 2: alike answers: an image read, the reference -/
def bT (S : Hp) (T : Tp) : Prop := T.2 ≤ 1600 ∧ ∀ i, i < T.2 → S.1 1 i = nI (T.1 i) ∧ T.1 i < 256
theorem m_two {S : Hp} {T : Tp} {i : Nat} (t : bT S T) (hi : i + 2 ≤ T.2) : f_X12_twoAt (nI i) S = some (nI (tk1 T i 2 0), S) := by
  have h6 := t.1
  unfold f_X12_twoAt
  rw [ldI_n (by omega) (by decide), nI_1, ldI_n (by omega) (by decide), (t.2 i (by omega)).1, (t.2 (i + 1) (by omega)).1, lit_nI 256, pk_mul, nI_add, show tk1 T i 2 0 = 256 * (256 * 0 + T.1 i) + T.1 (i + 1) from rfl, Nat.mul_zero, Nat.zero_add]
theorem m_109 {S : Hp} {T : Tp} {np : Nat} {x1 x3 : Int32} (t : bT S T) (hT : 6 + 2 * np ≤ T.2) : ∀ (d i K : Nat), i + d = np → d < K → gPo T true i = true → f_X12_isImage_109 K x1 (nI (6 + 2 * np)) x3 (nI (6 + 2 * i)) S = if gPo T true np = true then f_X12_isImage_138 5000 x1 x3 (nI (6 + 2 * np)) S else some (0, S)
  | 0, i, K, hi, hK, hg => by
    obtain ⟨K, rfl⟩ : ∃ q, K = q + 1 := ⟨K - 1, by omega⟩
    have h6 := t.1
    rw [show i = np by omega] at hg
    rw [f_X12_isImage_109, if_pos (nI_le (by omega) (by omega)), if_pos hg]
  | d + 1, i, K, hi, hK, hg => by
    obtain ⟨K, rfl⟩ : ∃ q, K = q + 1 := ⟨K - 1, by omega⟩
    have h6 := t.1
    have hl := tk1_lt (i := 6 + 2 * i) (n := 2) (fun i hi => (t.2 i hi).2) (by decide) (by omega)
    rw [f_X12_isImage_109, if_neg (nI_ge (by omega) (by omega)), m_two t (by omega), ob2_s, le1_e, lit_nI 2, nI_add, show 6 + 2 * i + 2 = 6 + 2 * (i + 1) by omega]
    by_cases e : tk1 T (6 + 2 * i) 2 0 ≤ 9999
    · rw [if_pos (show nI (tk1 T (6 + 2 * i) 2 0) ≤ (9999 : Int32) from nI_le (b := 9999) e (by decide)), m_109 t hT d (i + 1) K (by omega) (by omega) (by rw [gPo, hg, decide_eq_true e]; rfl)]
    · rw [if_neg (show ¬ nI (tk1 T (6 + 2 * i) 2 0) ≤ (9999 : Int32) from nI_ge (a := 9999) (by omega) hl), if_neg (fun q => e ((gPo_i np q).2 i (by omega)))]
theorem m_138 {S : Hp} {T : Tp} {o nt : Nat} {x1 : Int32} (t : bT S T) (hT : o + 4 * nt ≤ T.2) : ∀ (d i K : Nat), i + d = nt → d < K → gT T o true i = true → f_X12_isImage_138 K x1 (nI (o + 4 * nt)) (nI (o + 4 * i)) S = if gT T o true nt = true then f_X12_isImage_181 5000 x1 (nI (o + 4 * nt)) S else some (0, S)
  | 0, i, K, hi, hK, hg => by
    obtain ⟨K, rfl⟩ : ∃ q, K = q + 1 := ⟨K - 1, by omega⟩
    have h6 := t.1
    rw [show i = nt by omega] at hg
    rw [f_X12_isImage_138, if_pos (nI_le (by omega) (by omega)), if_pos hg]
  | d + 1, i, K, hi, hK, hg => by
    obtain ⟨K, rfl⟩ : ∃ q, K = q + 1 := ⟨K - 1, by omega⟩
    have h6 := t.1
    have hl := tk1_lt (i := o + 4 * i) (n := 2) (fun i hi => (t.2 i hi).2) (by decide) (by omega)
    have hl2 := tk1_lt (i := o + 4 * i + 2) (n := 2) (fun i hi => (t.2 i hi).2) (by decide) (by omega)
    rw [f_X12_isImage_138, if_neg (nI_ge (by omega) (by omega)), m_two t (by omega), ob2_s, lit_nI 2, nI_add, m_two t (by omega), ob2_s, le1_e, lit_nI 4, nI_add, show o + 4 * i + 4 = o + 4 * (i + 1) by omega]
    by_cases e : tk1 T (o + 4 * i) 2 0 ≤ 9999
    rotate_left
    · rw [if_pos (show (9999 : Int32) < nI (tk1 T (o + 4 * i) 2 0) from nI_lt (a := 9999) (by omega) hl), if_neg (fun q => e ((gT_i nt q).2 i (by omega)).1)]
    rw [if_neg (show ¬ (9999 : Int32) < nI (tk1 T (o + 4 * i) 2 0) from nI_nlt (a := 9999) (by omega) (by omega))]
    by_cases e2 : tk1 T (o + 4 * i + 2) 2 0 ≤ 999
    · rw [if_pos (show nI (tk1 T (o + 4 * i + 2) 2 0) ≤ (999 : Int32) from nI_le (b := 999) e2 (by decide)), m_138 t hT d (i + 1) K (by omega) (by omega) (by rw [gT, hg, decide_eq_true e, decide_eq_true e2]; rfl)]
    · rw [if_neg (show ¬ nI (tk1 T (o + 4 * i + 2) 2 0) ≤ (999 : Int32) from nI_ge (a := 999) (by omega) hl2), if_neg (fun q => e2 ((gT_i nt q).2 i (by omega)).2)]
theorem m_181 {S : Hp} {T : Tp} {o nw : Nat} (t : bT S T) (hT : T.2 = o + nw + 1) : ∀ (d i K : Nat), i + d = nw → d < K → gS T o true i = true → f_X12_isImage_181 K (nI T.2) (nI (o + i)) S = some (fl (gS T o true nw), S)
  | 0, i, K, hi, hK, hg => by
    obtain ⟨K, rfl⟩ : ∃ q, K = q + 1 := ⟨K - 1, by omega⟩
    have h6 := t.1
    rw [show i = nw by omega] at hg
    rw [f_X12_isImage_181, lit_nI 1, pk_sub (by omega), if_pos (nI_le (by omega) (by omega)), hg]; rfl
  | d + 1, i, K, hi, hK, hg => by
    obtain ⟨K, rfl⟩ : ∃ q, K = q + 1 := ⟨K - 1, by omega⟩
    have h6 := t.1
    have hb := t.2 (o + i) (by omega)
    have ev : tk1 T (o + i) 1 0 = T.1 (o + i) := by show 256 * 0 + T.1 (o + i) = _; omega
    rw [f_X12_isImage_181, lit_nI 1, pk_sub (by omega), if_neg (nI_ge (by omega) (by omega)), ldI_n (by omega) (by decide), hb.1, le1_e, nI_add]
    by_cases e : T.1 (o + i) ≤ 9
    · rw [if_pos (show nI (T.1 (o + i)) ≤ (9 : Int32) from nI_le (b := 9) e (by decide))]
      exact m_181 t hT d (i + 1) K (by omega) (by omega) (by rw [gS, hg, ev, decide_eq_true e]; rfl)
    · rw [if_neg (show ¬ nI (T.1 (o + i)) ≤ (9 : Int32) from nI_ge (a := 9) (by omega) (by omega))]
      have : gS T o true nw = false := Bool.eq_false_iff.mpr (fun q => e (by have := (gS_i nw q).2 i (by omega); omega))
      rw [this]; rfl
theorem m_ckN {S : Hp} {T : Tp} {n : Nat} (t : bT S T) (hn : n ≤ T.2) : ∀ (d i K : Nat), i + d = n → d < K → f_X12_checked_5 1 1600 K (nI n) (nI (ckN T i)) (nI i) S = some (nI (ckN T n), S)
  | 0, i, K, hi, hK => by
    obtain ⟨K, rfl⟩ : ∃ q, K = q + 1 := ⟨K - 1, by omega⟩
    have h6 := t.1
    rw [f_X12_checked_5, if_pos (nI_le (by omega) (by omega)), show i = n by omega]
  | d + 1, i, K, hi, hK => by
    obtain ⟨K, rfl⟩ : ∃ q, K = q + 1 := ⟨K - 1, by omega⟩
    have h6 := t.1
    have hb := t.2 i (by omega)
    have hk := ckN_lt T i
    rw [f_X12_checked_5, if_neg (nI_ge (by omega) (by omega)), ldI_n (by omega) (by decide), hb.1, lit_nI 3, pk_mul, nI_add, lit_nI 251, pk_rem (by omega) (by decide) (by decide), le1_e, le1_e, nI_1]
    exact m_ckN t hn d (i + 1) K (by omega) (by omega)
theorem m_isI {S : Hp} {T : Tp} {C : Cr} (hC : okCr C) (t : bT S T) (h : mC S C) (h52 : S.1 0 52 = 1) : f_X12_isImage (nI T.2) S = some (fl (imO C T), S) := by
  obtain ⟨⟨hnp, hnt, hnw⟩, -⟩ := id hC
  have h6 := t.1
  have hN : imN C = 6 + 2 * cP C + 4 * cT C + cW C := rfl
  unfold f_X12_isImage imO
  rw [f_X12_provinceMany, ldI_L 3 (by decide) (by decide), h.1.1, ob2_s, lit_nI 6, lit_nI 2, pk_mul, nI_add, le1_e, f_X12_trickMany, ldI_L 4 (by decide) (by decide), h.1.2.1, ob2_s, lit_nI 4, pk_mul, nI_add, le1_e, h52, if_neg ne1, f_X12_watcherMany, ldI_L 5 (by decide) (by decide), h.1.2.2, ob2_s, nI_add, nI_1]
  by_cases e1 : T.2 = imN C + 1
  rotate_left
  · rw [if_neg (show ¬ nI T.2 = nI (6 + 2 * cP C + 4 * cT C + cW C + 1) from fun q => e1 ((nI_eq (b := imN C + 1) (by omega) (by unfold imN; omega)).mp q)), decide_eq_false e1, Bool.false_and]; rfl
  have hb := t.2 (imN C) (by omega)
  have hk := ckN_lt T (imN C)
  have ck := m_ckN (n := imN C) t (by omega) (imN C) 0 5000 (by omega) (by omega)
  have bl := fun i hi => (t.2 i hi).2
  rw [if_pos (show nI T.2 = nI (6 + 2 * cP C + 4 * cT C + cW C + 1) by rw [e1]; rfl), lit_nI 1, pk_sub (by omega), show T.2 - 1 = imN C by omega, ldI_n (by omega) (by decide), hb.1, show f_X12_checked 1 1600 (nI (imN C)) S = _ from ck, ob2_s, decide_eq_true e1, Bool.true_and]
  by_cases e2 : ckN T (imN C) = T.1 (imN C)
  rotate_left
  · rw [if_neg (fun q => e2 ((nI_eq (by omega) (by omega)).mp q).symm), decide_eq_false e2, Bool.false_and]; rfl
  have hl0 := tk1_lt (i := 0) (n := 2) bl (by decide) (by omega)
  have hl1 := tk1_lt (i := 2) (n := 3) bl (by decide) (by omega)
  have b2 := t.2 2 (by omega)
  have b5 := t.2 5 (by omega)
  have ev : tk1 T 5 1 0 = T.1 5 := by show 256 * 0 + T.1 5 = _; omega
  have ed : 65536 * T.1 2 + tk1 T 3 2 0 = tk1 T 2 3 0 := by
    show 65536 * T.1 2 + (256 * (256 * 0 + T.1 3) + T.1 4) = 256 * (256 * (256 * 0 + T.1 2) + T.1 3) + T.1 4
    omega
  have al : gAl C T = true → tk1 T 0 2 0 ≤ 999 ∧ tk1 T 2 3 0 ≤ 99999 ∧ tk1 T 5 1 0 ≤ 100 := fun q => by
    unfold gAl at q
    have q := (gPo_i _ (gT_i _ (gS_i _ q).1).1).1
    rw [Bool.and_eq_true, Bool.and_eq_true] at q
    exact ⟨of_decide_eq_true q.1.1, of_decide_eq_true q.1.2, of_decide_eq_true q.2⟩
  rw [if_pos (show nI (T.1 (imN C)) = nI (ckN T (imN C)) by rw [e2]), decide_eq_true e2, Bool.true_and, show f_X12_twoAt (0 : Int32) S = _ from m_two (i := 0) t (by omega), ob2_s]
  have no : ¬ (tk1 T 0 2 0 ≤ 999 ∧ tk1 T 2 3 0 ≤ 99999 ∧ tk1 T 5 1 0 ≤ 100) → some (fl (gAl C T), S) = some ((0 : Int32), S) := fun q => by
    rw [Bool.eq_false_iff.mpr (fun x => q (al x))]; rfl
  by_cases c1 : tk1 T 0 2 0 ≤ 999
  rotate_left
  · rw [if_pos (show (999 : Int32) < nI (tk1 T 0 2 0) from nI_lt (a := 999) (by omega) hl0), no (by omega)]
  rw [if_neg (show ¬ (999 : Int32) < nI (tk1 T 0 2 0) from nI_nlt (a := 999) (by omega) (by omega)), ldI_n (show 2 < 1600 by omega) (by decide), b2.1, show f_X12_twoAt (3 : Int32) S = _ from m_two (i := 3) t (by omega), ob2_s, lit_nI 65536, pk_mul, nI_add, ed]
  by_cases c2 : tk1 T 2 3 0 ≤ 99999
  rotate_left
  · rw [if_pos (show (99999 : Int32) < nI (tk1 T 2 3 0) from nI_lt (a := 99999) (by omega) hl1), no (by omega)]
  rw [if_neg (show ¬ (99999 : Int32) < nI (tk1 T 2 3 0) from nI_nlt (a := 99999) (by omega) (by omega)), ldI_L 5 (by decide) (by decide), b5.1]
  by_cases c3 : T.1 5 ≤ 100
  rotate_left
  · rw [if_neg (show ¬ nI (T.1 5) ≤ (100 : Int32) from nI_ge (a := 100) (by omega) (by omega)), no (by omega)]
  have m1 := m_109 (x1 := nI T.2) (x3 := nI (6 + 2 * cP C + 4 * cT C)) (np := cP C) t (by omega) (cP C) 0 5000 (by omega) (by omega) rfl
  have m2 := m_138 (x1 := nI T.2) (o := 6 + 2 * cP C) (nt := cT C) t (by omega) (cT C) 0 5000 (by omega) (by omega) rfl
  have m3 := m_181 (o := 6 + 2 * cP C + 4 * cT C) (nw := cW C) t (by omega) (cW C) 0 5000 (by omega) (by omega) rfl
  have eg : gAl C T = gS T (6 + 2 * cP C + 4 * cT C) (gT T (6 + 2 * cP C) (gPo T true (cP C)) (cT C)) (cW C) := by
    unfold gAl
    rw [ev, decide_eq_true c1, decide_eq_true c2, decide_eq_true c3]; rfl
  rw [if_pos (show nI (T.1 5) ≤ (100 : Int32) from nI_le (b := 100) c3 (by decide)), show f_X12_isImage_109 5000 (nI T.2) (nI (6 + 2 * cP C)) (nI (6 + 2 * cP C + 4 * cT C)) (nI 6) S = _ from m1, eg]
  by_cases d1 : gPo T true (cP C) = true
  rotate_left
  · rw [if_neg d1, Bool.eq_false_iff.mpr (fun q => d1 (gT_i _ (gS_i _ q).1).1)]; rfl
  rw [if_pos d1, show f_X12_isImage_138 5000 (nI T.2) (nI (6 + 2 * cP C + 4 * cT C)) (nI (6 + 2 * cP C)) S = _ from m2, d1]
  by_cases d2 : gT T (6 + 2 * cP C) true (cT C) = true
  rotate_left
  · rw [if_neg d2, Bool.eq_false_iff.mpr (fun q => d2 (gS_i _ q).1)]; rfl
  rw [if_pos d2, d2]
  exact m3

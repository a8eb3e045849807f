/-! level 2: alike answers: an image read, in all -/
abbrev pO (b k : Nat) : Prop := b = 55 ∧ k < 26
theorem bT_f {S S' : Hp} {T : Tp} (t : bT S T) (hf : fN pO S S') : bT S' T := ⟨t.1, fun i hi => by rw [hf.1 1 i (fun q => absurd q.1 (by decide))]; exact t.2 i hi⟩
theorem m_o80 {T : Tp} {C : Cr} {z : Nat → Nat} (hC : okCr C) (hT : imN C ≤ T.2) : ∀ (d i K : Nat) (S : Hp), i + d = cP C → d < K → bT S T → S.1 41 3 = nI (cP C) → mZ S C (zI C T z 3 i 0 0) → ∃ S', f_X12_on_80 K (nI (6 + 2 * i)) (nI i) S = f_X12_on_112 5000 (nI (6 + 2 * cP C)) (0 : Int32) S' ∧ mZ S' C (zI C T z 3 (cP C) 0 0) ∧ fN pO S S' := by
  have hnp := hC.1.1
  unfold imN at hT
  intro d
  induction d with
  | zero =>
    intro i K S hi hK t h hs
    obtain ⟨K, rfl⟩ : ∃ q, K = q + 1 := ⟨K - 1, by omega⟩
    have e : i = cP C := by omega
    rw [e] at hs
    exact ⟨S, by rw [f_X12_on_80, f_X12_provinceMany, ldI_L 3 (by decide) (by decide), h, ob2_s, if_pos (nI_le (by omega) (by omega)), e], hs, fN_rf _ S⟩
  | succ d ih =>
    intro i K S hi hK t h hs
    obtain ⟨K, rfl⟩ : ∃ q, K = q + 1 := ⟨K - 1, by omega⟩
    have f1 : fN pO S (ho_sI S 55 (3 + i) (nI (tk1 T (6 + 2 * i) 2 0))) := fN_sI S ⟨rfl, by omega⟩
    have s1 := mZ_u (i := 3 + i) (v := tk1 T (6 + 2 * i) 2 0) hs (by omega)
    rw [zI_p (by omega)] at s1
    obtain ⟨S', r1, r2, r3⟩ := ih (i + 1) K _ (by omega) (by omega) (bT_f t f1) (by rw [sI_ne _ (by decide)]; exact h) s1
    refine ⟨S', ?_, r2, fN_tr f1 r3⟩
    rw [f_X12_on_80, f_X12_provinceMany, ldI_L 3 (by decide) (by decide), h, ob2_s, if_neg (nI_ge (by omega) (by omega)), m_two t (by omega), ob2_s, lit_nI 3, nI_add, stI_n (by omega) (by decide), le1_e, le1_e, lit_nI 2, nI_add, nI_1]
    exact r1
theorem m_o112 {T : Tp} {C : Cr} {z : Nat → Nat} (hC : okCr C) (hT : imN C ≤ T.2) : ∀ (d i K : Nat) (S : Hp), i + d = cT C → d < K → bT S T → S.1 41 4 = nI (cT C) → mZ S C (zI C T z 3 (cP C) i 0) → ∃ S', f_X12_on_112 K (nI (6 + 2 * cP C + 4 * i)) (nI i) S = f_X12_on_161 5000 (nI (6 + 2 * cP C + 4 * cT C)) (0 : Int32) S' ∧ mZ S' C (zI C T z 3 (cP C) (cT C) 0) ∧ fN pO S S' := by
  have hnp := hC.1.1
  have hnt := hC.1.2.1
  unfold imN at hT
  intro d
  induction d with
  | zero =>
    intro i K S hi hK t h hs
    obtain ⟨K, rfl⟩ : ∃ q, K = q + 1 := ⟨K - 1, by omega⟩
    have e : i = cT C := by omega
    rw [e] at hs
    exact ⟨S, by rw [f_X12_on_112, f_X12_trickMany, ldI_L 4 (by decide) (by decide), h, ob2_s, if_pos (nI_le (by omega) (by omega)), e], hs, fN_rf _ S⟩
  | succ d ih =>
    intro i K S hi hK t h hs
    obtain ⟨K, rfl⟩ : ∃ q, K = q + 1 := ⟨K - 1, by omega⟩
    have f1 : fN pO S (ho_sI S 55 (9 + i) (nI (tk1 T (6 + 2 * cP C + 4 * i) 2 0))) := fN_sI S ⟨rfl, by omega⟩
    have s1 := mZ_u (i := 9 + i) (v := tk1 T (6 + 2 * cP C + 4 * i) 2 0) hs (by omega)
    have f2 : fN pO (ho_sI S 55 (9 + i) (nI (tk1 T (6 + 2 * cP C + 4 * i) 2 0))) (ho_sI (ho_sI S 55 (9 + i) (nI (tk1 T (6 + 2 * cP C + 4 * i) 2 0))) 55 (15 + i) (nI (tk1 T (6 + 2 * cP C + 4 * i + 2) 2 0))) := fN_sI _ ⟨rfl, by omega⟩
    have s2 := mZ_u (i := 15 + i) (v := tk1 T (6 + 2 * cP C + 4 * i + 2) 2 0) s1 (by omega)
    rw [zI_t hnp (by omega)] at s2
    have t1 := bT_f t f1
    obtain ⟨S', r1, r2, r3⟩ := ih (i + 1) K _ (by omega) (by omega) (bT_f t1 f2) (by rw [sI_ne _ (by decide), sI_ne _ (by decide)]; exact h) s2
    refine ⟨S', ?_, r2, fN_tr f1 (fN_tr f2 r3)⟩
    rw [f_X12_on_112, f_X12_trickMany, ldI_L 4 (by decide) (by decide), h, ob2_s, if_neg (nI_ge (by omega) (by omega)), m_two t (by omega), ob2_s, lit_nI 9, nI_add, stI_n (by omega) (by decide), lit_nI 2, nI_add, m_two t1 (by omega), ob2_s, lit_nI 15, nI_add, stI_n (by omega) (by decide), le1_e, le1_e, lit_nI 4, nI_add, nI_1]
    exact r1
theorem m_o161 {T : Tp} {C : Cr} {z : Nat → Nat} (hC : okCr C) (hT : imN C ≤ T.2) : ∀ (d i K : Nat) (S : Hp), i + d = cW C → d < K → bT S T → S.1 41 5 = nI (cW C) → mZ S C (zI C T z 3 (cP C) (cT C) i) → ∃ S', f_X12_on_161 K (nI (6 + 2 * cP C + 4 * cT C)) (nI i) S = some (1, ho_sI (ho_sI S' 55 26 0) 0 72 0) ∧ mZ S' C (zO C T z) ∧ fN pO S S' := by
  obtain ⟨⟨hnp, hnt, hnw⟩, -⟩ := id hC
  unfold imN at hT
  intro d
  induction d with
  | zero =>
    intro i K S hi hK t h hs
    obtain ⟨K, rfl⟩ : ∃ q, K = q + 1 := ⟨K - 1, by omega⟩
    have e : i = cW C := by omega
    rw [e] at hs
    exact ⟨S, by rw [f_X12_on_161, f_X12_watcherMany, ldI_L 5 (by decide) (by decide), h, ob2_s, if_pos (nI_le (by omega) (by omega)), stI_L 26 (by decide) (by decide), le1_e], hs, fN_rf _ S⟩
  | succ d ih =>
    intro i K S hi hK t h hs
    obtain ⟨K, rfl⟩ : ∃ q, K = q + 1 := ⟨K - 1, by omega⟩
    have h6 := t.1
    have hb := t.2 (6 + 2 * cP C + 4 * cT C + i) (by omega)
    have ev : tk1 T (6 + 2 * cP C + 4 * cT C + i) 1 0 = T.1 (6 + 2 * cP C + 4 * cT C + i) := by show 256 * 0 + T.1 _ = _; omega
    have f1 : fN pO S (ho_sI S 55 (21 + i) (nI (tk1 T (6 + 2 * cP C + 4 * cT C + i) 1 0))) := fN_sI S ⟨rfl, by omega⟩
    have s1 := mZ_seat (w := i) (v := tk1 T (6 + 2 * cP C + 4 * cT C + i) 1 0) hs (by omega)
    rw [zI_w hnp hnt] at s1
    obtain ⟨S', r1, r2, r3⟩ := ih (i + 1) K _ (by omega) (by omega) (bT_f t f1) (by rw [sI_ne _ (by decide)]; exact h) s1
    refine ⟨S', ?_, r2, fN_tr f1 r3⟩
    rw [f_X12_on_161, f_X12_watcherMany, ldI_L 5 (by decide) (by decide), h, ob2_s, if_neg (nI_ge (by omega) (by omega)), nI_add, ldI_n (by omega) (by decide), hb.1, ← ev, lit_nI 21, nI_add, stI_n (by omega) (by decide), le1_e, nI_1]
    exact r1
theorem zI_0 {C : Cr} {T : Tp} {z : Nat → Nat} : zup (zup (zup z 0 (tk1 T 0 2 0)) 1 (tk1 T 2 3 0)) 2 (tk1 T 5 1 0) = zI C T z 3 0 0 0 := by
  funext j
  unfold zI
  by_cases e2 : j = 2
  · subst e2; rw [zup_s]; rfl
  rw [zup_n e2]
  by_cases e1 : j = 1
  · subst e1; rw [zup_s]; rfl
  rw [zup_n e1]
  by_cases e0 : j = 0
  · subst e0; rw [zup_s]; rfl
  rw [zup_n e0, if_neg (by omega), if_neg (by omega), if_neg (by omega), if_neg (by omega), if_neg (by omega), if_neg (by omega), if_neg (by omega)]
theorem m_onI {S : Hp} {T : Tp} {C : Cr} {z : Nat → Nat} (hC : okCr C) (hT : T.2 = imN C + 1) (t : bT S T) (h : mC S C) (hs : mZ S C z) : ∃ S', ob2 (f_X12_twoAt (0 : Int32) S) (fun r4 S4 => stI S4 55 117 (0 : Int32) r4 (fun S5 => ldI S5 1 1600 (2 : Int32) (fun v6 => ob2 (f_X12_twoAt (3 : Int32) S5) (fun r7 S7 => stI S7 55 117 (1 : Int32) (((65536 : Int32) * v6) + r7) (fun S8 => ldI S8 1 1600 (5 : Int32) (fun v9 => stI S8 55 117 (2 : Int32) v9 (fun S10 => f_X12_on_80 5000 (6 : Int32) (0 : Int32) S10))))))) = some ((1 : Int32), ho_sI (ho_sI S' 55 26 0) 0 72 0) ∧ mZ S' C (zO C T z) ∧ fN pO S S' := by
  obtain ⟨⟨hnp, hnt, hnw⟩, -⟩ := id hC
  have h6 := t.1
  have hN : imN C = 6 + 2 * cP C + 4 * cT C + cW C := rfl
  have hT' : imN C ≤ T.2 := by omega
  obtain ⟨S5, hS5⟩ : ∃ S5, S5 = ho_sI S 55 0 (nI (tk1 T 0 2 0)) := ⟨_, rfl⟩
  have f5 : fN pO S S5 := by rw [hS5]; exact fN_sI S ⟨rfl, by omega⟩
  obtain ⟨S8, hS8⟩ : ∃ S8, S8 = ho_sI S5 55 1 (nI (tk1 T 2 3 0)) := ⟨_, rfl⟩
  have f8 : fN pO S5 S8 := by rw [hS8]; exact fN_sI S5 ⟨rfl, by omega⟩
  obtain ⟨S10, hS10⟩ : ∃ S10, S10 = ho_sI S8 55 2 (nI (tk1 T 5 1 0)) := ⟨_, rfl⟩
  have f10 : fN pO S8 S10 := by rw [hS10]; exact fN_sI S8 ⟨rfl, by omega⟩
  have t5 := bT_f t f5
  have t8 := bT_f t5 f8
  have t10 := bT_f t8 f10
  have ev : T.1 5 = tk1 T 5 1 0 := by show T.1 5 = 256 * 0 + T.1 5; omega
  have ed : 65536 * T.1 2 + tk1 T 3 2 0 = tk1 T 2 3 0 := by
    show 65536 * T.1 2 + (256 * (256 * 0 + T.1 3) + T.1 4) = 256 * (256 * (256 * 0 + T.1 2) + T.1 3) + T.1 4
    omega
  have s10 : mZ S10 C (zI C T z 3 0 0 0) := by
    rw [← zI_0, hS10]
    refine mZ_u ?_ (by decide)
    rw [hS8]
    refine mZ_u ?_ (by decide)
    rw [hS5]
    exact mZ_u hs (by decide)
  have fa := fN_tr f5 (fN_tr f8 f10)
  have g : ∀ {S' : Hp}, fN pO S S' → ∀ k, S'.1 41 k = S.1 41 k := fun hf k => hf.1 41 k (fun q => absurd q.1 (by decide))
  obtain ⟨S11, a1, a2, a3⟩ := m_o80 (z := z) hC hT' (cP C) 0 5000 S10 (by omega) (by omega) t10 (by rw [g fa]; exact h.1.1) s10
  have fb := fN_tr fa a3
  obtain ⟨S12, b1, b2, b3⟩ := m_o112 (z := z) hC hT' (cT C) 0 5000 S11 (by omega) (by omega) (bT_f t10 a3) (by rw [g fb]; exact h.1.2.1) a2
  have fc := fN_tr fb b3
  obtain ⟨S13, c1, c2, c3⟩ := m_o161 (z := z) hC hT' (cW C) 0 5000 S12 (by omega) (by omega) (bT_f (bT_f t10 a3) b3) (by rw [g fc]; exact h.1.2.2) b2
  refine ⟨S13, ?_, c2, fN_tr fc c3⟩
  rw [show f_X12_twoAt (0 : Int32) S = _ from m_two (i := 0) t (by omega), ob2_s, stI_L 0 (by decide) (by decide), ← hS5, ldI_L 2 (by decide) (by decide), (t5.2 2 (by omega)).1, show f_X12_twoAt (3 : Int32) S5 = _ from m_two (i := 3) t5 (by omega), ob2_s, lit_nI 65536, pk_mul, nI_add, ed, stI_L 1 (by decide) (by decide), ← hS8, ldI_L 5 (by decide) (by decide), (t8.2 5 (by omega)).1, ev, stI_L 2 (by decide) (by decide), ← hS10, show f_X12_on_80 5000 (6 : Int32) (0 : Int32) S10 = _ from a1, show f_X12_on_112 5000 (nI (6 + 2 * cP C)) (0 : Int32) S11 = _ from b1, show f_X12_on_161 5000 (nI (6 + 2 * cP C + 4 * cT C)) (0 : Int32) S12 = _ from c1]

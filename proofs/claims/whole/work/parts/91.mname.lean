/-! level 2: the reference: names -/
theorem m_own_t (S : Hp) : f_X12_isOwnHere_66 S = some (1, S) ∧ f_X12_isOwnHere_142 S = some (1, S) ∧ f_X12_isOwnHere_218 S = some (1, S) ∧ f_X12_isOwnHere_294 S = some (1, S) ∧ f_X12_isOwnHere_359 S = some (1, S) := by
  have e5 : f_X12_isOwnHere_359 S = some (1, S) := by
    unfold f_X12_isOwnHere_359 f_X12_isOwnHere_364
    exact tr1
  have e4 : f_X12_isOwnHere_294 S = some (1, S) := by
    unfold f_X12_isOwnHere_294 f_X12_isOwnHere_299
    rw [if_neg ne1, e5]
  have e3 : f_X12_isOwnHere_218 S = some (1, S) := by
    unfold f_X12_isOwnHere_218 f_X12_isOwnHere_223
    rw [if_neg ne1, e4]
  have e2 : f_X12_isOwnHere_142 S = some (1, S) := by
    unfold f_X12_isOwnHere_142 f_X12_isOwnHere_147
    rw [if_neg ne1, e3]
  refine ⟨?_, e2, e3, e4, e5⟩
  unfold f_X12_isOwnHere_66 f_X12_isOwnHere_71
  rw [if_neg ne1, e2]
theorem wtab_i : ∀ i, i < 29 → (11 + i, wL.getD i []) ∈ wtab := by decide
theorem m_own {S : Hp} {T : Tp} {σ : Lx} (h : lX S T σ) (hW : mWs S) : f_X12_isOwnHere S = some (if own T σ = true ∧ tK T σ = 1 then 1 else 0, S) := by
  have g : ∀ i, i < 29 → f_X12_isHere (11 + i) (wL.getD i []).length S = some (if isW T σ (wL.getD i []) = true then 1 else 0, S) := fun i hi => m_hereX h (mW_at hW _ _ (wtab_i i hi))
  obtain ⟨t1, t2, t3, t4, t5⟩ := m_own_t S
  have ho : ∀ i, i < 29 → isW T σ (wL.getD i []) = true → some ((1 : Int32), S) = some (if own T σ = true ∧ tK T σ = 1 then 1 else 0, S) := by
    intro i hi hw
    rw [if_pos ⟨own_i.mpr ⟨i, hi, (isW_i.mp hw).2⟩, (isW_i.mp hw).1⟩]
  have g0 := g 0 (by decide)
  have g1 := g 1 (by decide)
  have g2 := g 2 (by decide)
  have g3 := g 3 (by decide)
  have g4 := g 4 (by decide)
  have g5 := g 5 (by decide)
  have g6 := g 6 (by decide)
  have g7 := g 7 (by decide)
  have g8 := g 8 (by decide)
  have g9 := g 9 (by decide)
  have g10 := g 10 (by decide)
  have g11 := g 11 (by decide)
  have g12 := g 12 (by decide)
  have g13 := g 13 (by decide)
  have g14 := g 14 (by decide)
  have g15 := g 15 (by decide)
  have g16 := g 16 (by decide)
  have g17 := g 17 (by decide)
  have g18 := g 18 (by decide)
  have g19 := g 19 (by decide)
  have g20 := g 20 (by decide)
  have g21 := g 21 (by decide)
  have g22 := g 22 (by decide)
  have g23 := g 23 (by decide)
  have g24 := g 24 (by decide)
  have g25 := g 25 (by decide)
  have g26 := g 26 (by decide)
  have g27 := g 27 (by decide)
  have g28 := g 28 (by decide)
  unfold f_X12_isOwnHere
  rw [show f_X12_isHere 11 4 S = _ from g0, ob2_s]
  by_cases w0 : isW T σ (wL.getD 0 []) = true
  · rw [if_neg (fun q => ite01.mp q w0), t1]; exact ho 0 (by decide) w0
  rw [if_pos (ite01.mpr w0)]
  rw [show f_X12_isHere 12 4 S = _ from g1, ob2_s]
  by_cases w1 : isW T σ (wL.getD 1 []) = true
  · rw [if_neg (fun q => ite01.mp q w1), t1]; exact ho 1 (by decide) w1
  rw [if_pos (ite01.mpr w1)]
  rw [show f_X12_isHere 13 4 S = _ from g2, ob2_s]
  by_cases w2 : isW T σ (wL.getD 2 []) = true
  · rw [if_neg (fun q => ite01.mp q w2), t1]; exact ho 2 (by decide) w2
  rw [if_pos (ite01.mpr w2)]
  rw [show f_X12_isHere 14 6 S = _ from g3, ob2_s]
  by_cases w3 : isW T σ (wL.getD 3 []) = true
  · rw [if_neg (fun q => ite01.mp q w3), t1]; exact ho 3 (by decide) w3
  rw [if_pos (ite01.mpr w3)]
  rw [show f_X12_isHere 15 6 S = _ from g4, ob2_s]
  by_cases w4 : isW T σ (wL.getD 4 []) = true
  · rw [if_neg (fun q => ite01.mp q w4), t1]; exact ho 4 (by decide) w4
  rw [if_pos (ite01.mpr w4)]
  rw [show f_X12_isHere 16 5 S = _ from g5, ob2_s]
  by_cases w5 : isW T σ (wL.getD 5 []) = true
  · rw [if_neg (fun q => ite01.mp q w5), t1]; exact ho 5 (by decide) w5
  rw [if_pos (ite01.mpr w5)]
  unfold f_X12_isOwnHere_71
  rw [if_pos rfl]
  rw [show f_X12_isHere 17 5 S = _ from g6, ob2_s]
  by_cases w6 : isW T σ (wL.getD 6 []) = true
  · rw [if_neg (fun q => ite01.mp q w6), t2]; exact ho 6 (by decide) w6
  rw [if_pos (ite01.mpr w6)]
  rw [show f_X12_isHere 18 4 S = _ from g7, ob2_s]
  by_cases w7 : isW T σ (wL.getD 7 []) = true
  · rw [if_neg (fun q => ite01.mp q w7), t2]; exact ho 7 (by decide) w7
  rw [if_pos (ite01.mpr w7)]
  rw [show f_X12_isHere 19 4 S = _ from g8, ob2_s]
  by_cases w8 : isW T σ (wL.getD 8 []) = true
  · rw [if_neg (fun q => ite01.mp q w8), t2]; exact ho 8 (by decide) w8
  rw [if_pos (ite01.mpr w8)]
  rw [show f_X12_isHere 20 5 S = _ from g9, ob2_s]
  by_cases w9 : isW T σ (wL.getD 9 []) = true
  · rw [if_neg (fun q => ite01.mp q w9), t2]; exact ho 9 (by decide) w9
  rw [if_pos (ite01.mpr w9)]
  rw [show f_X12_isHere 21 4 S = _ from g10, ob2_s]
  by_cases w10 : isW T σ (wL.getD 10 []) = true
  · rw [if_neg (fun q => ite01.mp q w10), t2]; exact ho 10 (by decide) w10
  rw [if_pos (ite01.mpr w10)]
  rw [show f_X12_isHere 22 5 S = _ from g11, ob2_s]
  by_cases w11 : isW T σ (wL.getD 11 []) = true
  · rw [if_neg (fun q => ite01.mp q w11), t2]; exact ho 11 (by decide) w11
  rw [if_pos (ite01.mpr w11)]
  unfold f_X12_isOwnHere_147
  rw [if_pos rfl]
  rw [show f_X12_isHere 23 4 S = _ from g12, ob2_s]
  by_cases w12 : isW T σ (wL.getD 12 []) = true
  · rw [if_neg (fun q => ite01.mp q w12), t3]; exact ho 12 (by decide) w12
  rw [if_pos (ite01.mpr w12)]
  rw [show f_X12_isHere 24 5 S = _ from g13, ob2_s]
  by_cases w13 : isW T σ (wL.getD 13 []) = true
  · rw [if_neg (fun q => ite01.mp q w13), t3]; exact ho 13 (by decide) w13
  rw [if_pos (ite01.mpr w13)]
  rw [show f_X12_isHere 25 6 S = _ from g14, ob2_s]
  by_cases w14 : isW T σ (wL.getD 14 []) = true
  · rw [if_neg (fun q => ite01.mp q w14), t3]; exact ho 14 (by decide) w14
  rw [if_pos (ite01.mpr w14)]
  rw [show f_X12_isHere 26 4 S = _ from g15, ob2_s]
  by_cases w15 : isW T σ (wL.getD 15 []) = true
  · rw [if_neg (fun q => ite01.mp q w15), t3]; exact ho 15 (by decide) w15
  rw [if_pos (ite01.mpr w15)]
  rw [show f_X12_isHere 27 5 S = _ from g16, ob2_s]
  by_cases w16 : isW T σ (wL.getD 16 []) = true
  · rw [if_neg (fun q => ite01.mp q w16), t3]; exact ho 16 (by decide) w16
  rw [if_pos (ite01.mpr w16)]
  rw [show f_X12_isHere 28 4 S = _ from g17, ob2_s]
  by_cases w17 : isW T σ (wL.getD 17 []) = true
  · rw [if_neg (fun q => ite01.mp q w17), t3]; exact ho 17 (by decide) w17
  rw [if_pos (ite01.mpr w17)]
  unfold f_X12_isOwnHere_223
  rw [if_pos rfl]
  rw [show f_X12_isHere 29 6 S = _ from g18, ob2_s]
  by_cases w18 : isW T σ (wL.getD 18 []) = true
  · rw [if_neg (fun q => ite01.mp q w18), t4]; exact ho 18 (by decide) w18
  rw [if_pos (ite01.mpr w18)]
  rw [show f_X12_isHere 30 5 S = _ from g19, ob2_s]
  by_cases w19 : isW T σ (wL.getD 19 []) = true
  · rw [if_neg (fun q => ite01.mp q w19), t4]; exact ho 19 (by decide) w19
  rw [if_pos (ite01.mpr w19)]
  rw [show f_X12_isHere 31 5 S = _ from g20, ob2_s]
  by_cases w20 : isW T σ (wL.getD 20 []) = true
  · rw [if_neg (fun q => ite01.mp q w20), t4]; exact ho 20 (by decide) w20
  rw [if_pos (ite01.mpr w20)]
  rw [show f_X12_isHere 32 4 S = _ from g21, ob2_s]
  by_cases w21 : isW T σ (wL.getD 21 []) = true
  · rw [if_neg (fun q => ite01.mp q w21), t4]; exact ho 21 (by decide) w21
  rw [if_pos (ite01.mpr w21)]
  rw [show f_X12_isHere 33 4 S = _ from g22, ob2_s]
  by_cases w22 : isW T σ (wL.getD 22 []) = true
  · rw [if_neg (fun q => ite01.mp q w22), t4]; exact ho 22 (by decide) w22
  rw [if_pos (ite01.mpr w22)]
  rw [show f_X12_isHere 34 2 S = _ from g23, ob2_s]
  by_cases w23 : isW T σ (wL.getD 23 []) = true
  · rw [if_neg (fun q => ite01.mp q w23), t4]; exact ho 23 (by decide) w23
  rw [if_pos (ite01.mpr w23)]
  unfold f_X12_isOwnHere_299
  rw [if_pos rfl]
  rw [show f_X12_isHere 35 3 S = _ from g24, ob2_s]
  by_cases w24 : isW T σ (wL.getD 24 []) = true
  · rw [if_neg (fun q => ite01.mp q w24), t5]; exact ho 24 (by decide) w24
  rw [if_pos (ite01.mpr w24)]
  rw [show f_X12_isHere 36 3 S = _ from g25, ob2_s]
  by_cases w25 : isW T σ (wL.getD 25 []) = true
  · rw [if_neg (fun q => ite01.mp q w25), t5]; exact ho 25 (by decide) w25
  rw [if_pos (ite01.mpr w25)]
  rw [show f_X12_isHere 37 3 S = _ from g26, ob2_s]
  by_cases w26 : isW T σ (wL.getD 26 []) = true
  · rw [if_neg (fun q => ite01.mp q w26), t5]; exact ho 26 (by decide) w26
  rw [if_pos (ite01.mpr w26)]
  rw [show f_X12_isHere 38 3 S = _ from g27, ob2_s]
  by_cases w27 : isW T σ (wL.getD 27 []) = true
  · rw [if_neg (fun q => ite01.mp q w27), t5]; exact ho 27 (by decide) w27
  rw [if_pos (ite01.mpr w27)]
  rw [show f_X12_isHere 39 3 S = _ from g28, ob2_s]
  by_cases w28 : isW T σ (wL.getD 28 []) = true
  · rw [if_neg (fun q => ite01.mp q w28), t5]; exact ho 28 (by decide) w28
  rw [if_pos (ite01.mpr w28)]
  have hno : ¬ (own T σ = true ∧ tK T σ = 1) := by
    rintro ⟨q1, q2⟩
    obtain ⟨i, hi, hw⟩ := own_i.mp q1
    have hiw : isW T σ (wL.getD i []) = true := isW_i.mpr ⟨q2, hw⟩
    have : i = 0 ∨ i = 1 ∨ i = 2 ∨ i = 3 ∨ i = 4 ∨ i = 5 ∨ i = 6 ∨ i = 7 ∨ i = 8 ∨ i = 9 ∨ i = 10 ∨ i = 11 ∨ i = 12 ∨ i = 13 ∨ i = 14 ∨ i = 15 ∨ i = 16 ∨ i = 17 ∨ i = 18 ∨ i = 19 ∨ i = 20 ∨ i = 21 ∨ i = 22 ∨ i = 23 ∨ i = 24 ∨ i = 25 ∨ i = 26 ∨ i = 27 ∨ i = 28 := by omega
    rcases this with rfl | rfl | rfl | rfl | rfl | rfl | rfl | rfl | rfl | rfl | rfl | rfl | rfl | rfl | rfl | rfl | rfl | rfl | rfl | rfl | rfl | rfl | rfl | rfl | rfl | rfl | rfl | rfl | rfl <;> contradiction
  rw [if_neg hno]
  unfold f_X12_isOwnHere_364
  exact tr0
/-- a name's number, from a place on -/
theorem nv_27 {T : Tp} {s k : Nat} (hk : k ≤ 6) (h : ∀ j, j < k → T.1 (s + j) ≤ 122) : nv T s k < 387420489 := by
  have h1 := nv_lt (T := T) (s := s) k h
  have h2 : 27 ^ k ≤ 27 ^ 6 := Nat.pow_le_pow_right (by decide) hk
  omega
theorem m_n58 {T : Tp} {s m : Nat} (hm : rn ltr T s = s + m) (hsm : s + m ≤ T.2) : ∀ (d i k : Nat) (S : Hp), lB S T → i + d = m → i ≤ 6 → d < k → S.1 0 2 = nI (s + i) → S.1 0 39 = nI s →
    f_X12_name_58 k (lN (nv T s i)) S = if m ≤ 6 then f_X12_name_145 (lN (nv T s m)) (ho_sI S 0 2 (nI (s + m))) else ob (f_X12_fail (1 : Int32) (nI (s + 6)) (ho_sI S 0 2 (nI (s + 6)))) (fun S6 => some ((0 : Int64), S6)) := by
  intro d
  induction d with
  | zero =>
    intro i k S hB hi h4 hk h2 h39
    obtain ⟨k, rfl⟩ : ∃ q, k = q + 1 := ⟨k - 1, by omega⟩
    obtain ⟨b1, b2, b3⟩ := hB
    have e : i = m := by omega
    subst e
    have hno := rn_no ltr T s
    rw [hm] at hno
    rw [f_X12_name_58, b2, h2, if_pos h4, sI_id h2]
    by_cases q : s + i < T.2
    · obtain ⟨t1, t2⟩ := b3 (s + i) q
      rw [if_neg (nI_ge q (by omega)), ldI_n (by omega) (by decide), t1, m_let t2, ob2_s, if_pos (ite01.mpr (fun x => hno ⟨q, x⟩))]
    · rw [if_pos (nI_le (by omega) (by omega))]
  | succ d ih =>
    intro i k S hB hi h4 hk h2 h39
    obtain ⟨k, rfl⟩ : ∃ q, k = q + 1 := ⟨k - 1, by omega⟩
    have hB' := hB
    obtain ⟨b1, b2, b3⟩ := hB'
    obtain ⟨i1, i2⟩ := rn_in ltr T (e := s) (j := s + i) (by omega) (by omega)
    obtain ⟨t1, t2⟩ := b3 (s + i) i1
    have hd := ltr_i.mp i2
    rw [f_X12_name_58, b2, h2, if_neg (nI_ge i1 (by omega)), ldI_n (by omega) (by decide), t1, m_let t2, ob2_s, if_neg (fun x => ite01.mp x i2), h2, h39, pk_sub (by omega), show s + i - s = i by omega]
    by_cases q : i = 6
    · subst q
      rw [if_pos (show nI 6 = (6 : Int32) from rfl), if_neg (by omega), sI_id h2]
    · have hv : nv T s i < 387420489 := nv_27 (by omega) (fun j hj => by
        have := rn_in ltr T (e := s) (j := s + j) (by omega) (by omega)
        have := ltr_i.mp this.2
        omega)
      have e1 : (((27 : Int64) * lN (nv T s i) + (nI (T.1 (s + i))).toInt64) - (97 : Int64)) + (1 : Int64) = lN (nv T s (i + 1)) := by
        rw [show (27 : Int64) = lN 27 from rfl, show (97 : Int64) = lN 97 from rfl, lN_mul, nI_l (by omega), lN_add, lN_sub (by omega), lN_1, nv]
        congr 1
        omega
      rw [if_neg (fun x => q ((eqL 6 (by omega) (by decide)).mp x)), ldI_n (by omega) (by decide), t1, le1_e, e1, le1_e, nI_1, show s + i + 1 = s + (i + 1) by omega, ih (i + 1) k (ho_sI S 0 2 (nI (s + (i + 1)))) (lB_f hB (sI_k (by decide)) (fun i => by rw [sI_ne _ (by decide)])) (by omega) (by omega) (by omega) sI_v (by rw [sI_k (by decide)]; exact h39), sI_w, sI_w]
theorem m_name {S : Hp} {T : Tp} {σ : Lx} (h : lR S T σ) (hW : mWs S) : ∃ v S', f_X12_name S = some (v, S') ∧ fM lxP S S' ∧ (∀ w, nmT T σ = .ok w → v = lN (nvL w) ∧ lR S' T (nx T σ) ∧ S'.1 0 39 = nI (tS T σ)) ∧ (∀ e, nmT T σ = .error e → bR S' e) := by
  have hX := lX_of h
  have f1 : fM lxP S (ho_sI S 0 2 (nI (tS T σ))) := fM_sI _ ⟨rfl, (by omega)⟩
  have hW1 : mWs (ho_sI S 0 2 (nI (tS T σ))) := mWs_f hW f1 (fun b k q => by unfold lxP at q; omega)
  have h7 := tS_le h.2.1
  have h8 := h.1.1
  have h256 : ∀ i, i < T.2 → T.1 i < 256 := fun i hi => (h.1.2.2 i hi).2
  unfold f_X12_name nmT
  rw [if_pos h.2.2.1, m_look h, ob2_s, m_letB h256, ob2_s]
  have bad : ∃ v S', f_X12_name_37 (ho_sI S 0 2 (nI (tS T σ))) = some (v, S') ∧ fM lxP S S' ∧ bR S' (1, tS T σ) := by
    unfold f_X12_name_37
    obtain ⟨S2, p1, p2, p3⟩ := m_fail (k := 1) (p := tS T σ) hX.1.2.2.1 ⟨by decide, by decide⟩ (by omega)
    rw [hX.2, show (1 : Int32) = nI 1 from rfl, p1, ob_s]
    exact ⟨_, S2, rfl, fM_tr f1 p3, p2⟩
  by_cases q : tS T σ < T.2 ∧ ltr (T.1 (tS T σ)) = true
  · rw [if_neg (fun x => ite01.mp x q)]
    by_cases q2 : σ.2 = true ∧ tS T σ = σ.1
    · rw [if_pos ((en_eq hX).mpr q2), if_neg (fun x => (tK_word.mp x).2.2 q2)]
      obtain ⟨v, S', a, b, c⟩ := bad
      exact ⟨v, S', a, b, (fun w e => by cases e), (fun e x => by cases x; exact c)⟩
    · have k2 : tK T σ = 1 := tK_word.mpr ⟨q.1, q.2, q2⟩
      have hE := tE_word q.1 q.2
      have hg := tE_ge T σ
      have hl := tE_le h.2.1
      rw [if_neg (fun x => q2 ((en_eq hX).mp x)), if_pos k2, m_own hX hW1, ob2_s]
      by_cases q3 : own T σ = true
      · rw [if_pos (show own T σ = true ∧ tK T σ = 1 from ⟨q3, k2⟩), if_neg ne1]
        obtain ⟨v, S', a, b, c⟩ := bad
        have h6 : tE T σ - tS T σ ≤ 6 := by
          obtain ⟨i, hi, hw⟩ := own_i.mp q3
          have := (wL_ok i (by omega)).1
          rw [← hw, wd_len] at this
          exact this
        rw [if_pos h6, if_pos q3]
        exact ⟨v, S', a, b, (fun w e => by cases e), (fun e x => by cases x; exact c)⟩
      · rw [if_neg (show ¬ (own T σ = true ∧ tK T σ = 1) from fun x => q3 x.1), if_pos rfl, le1_e, hX.2]
        have L := m_n58 (T := T) (s := tS T σ) (m := tE T σ - tS T σ) (by rw [← hE]; omega) (by omega) (tE T σ - tS T σ) 0 5000 (ho_sI (ho_sI S 0 2 (nI (tS T σ))) 0 39 (nI (tS T σ))) (lB_f hX.1.1 (sI_k (by decide)) (fun i => by rw [sI_ne _ (by decide)])) (by omega) (by omega) (by omega) (by rw [sI_k (by decide), hX.2]; rfl) sI_v
        rw [nv] at L
        rw [show (0 : Int64) = lN 0 from rfl, L]
        have f2 : fM lxP S (ho_sI (ho_sI S 0 2 (nI (tS T σ))) 0 39 (nI (tS T σ))) := fM_tr f1 (fM_sI _ ⟨rfl, (by omega)⟩)
        by_cases q4 : tE T σ - tS T σ ≤ 6
        · rw [if_pos q4, if_pos q4, if_neg q3, show tS T σ + (tE T σ - tS T σ) = tE T σ by omega]
          unfold f_X12_name_145
          rw [le1_e, sI_v]
          have hA := lR_adv h (Or.inl k2)
          have fA : fM lxP S (ho_sI (ho_sI (ho_sI (ho_sI S 0 2 (nI (tS T σ))) 0 39 (nI (tS T σ))) 0 2 (nI (tE T σ))) 0 4 (nI (tE T σ))) := fM_tr f2 (fM_tr (fM_sI _ ⟨rfl, (by omega)⟩) (fM_sI _ ⟨rfl, (by omega)⟩))
          refine ⟨_, _, rfl, fA, fun w e => ?_, (fun e x => by cases x)⟩
          cases e
          refine ⟨by rw [nv_L, show tS T σ + (tE T σ - tS T σ) = tE T σ by omega], ?_, by rw [sI_k (by decide), sI_k (by decide), sI_v]⟩
          obtain ⟨a1, a2, a3, ⟨x, a4, a5, a6⟩, a7⟩ := hA
          have e2 : ∀ S : Hp, (ho_sI (ho_sI (ho_sI (ho_sI S 0 2 (nI (tS T σ))) 0 39 (nI (tS T σ))) 0 2 (nI (tE T σ))) 0 4 (nI (tE T σ))).1 0 2 = nI (tE T σ) := fun S => by rw [sI_k (by decide), sI_v]
          have e4 : (ho_sI (ho_sI S 0 2 (nI (tE T σ))) 0 4 (nI (tE T σ))).1 0 4 = nI (tE T σ) := sI_v
          have e22 : (ho_sI (ho_sI S 0 2 (nI (tE T σ))) 0 4 (nI (tE T σ))).1 0 2 = nI (tE T σ) := by rw [sI_k (by decide), sI_v]
          refine ⟨lB_f a1 (by rw [sI_k (by decide), sI_k (by decide), sI_k (by decide), sI_k (by decide), sI_k (by decide), sI_k (by decide)]) (fun i => by rw [sI_ne _ (by decide), sI_ne _ (by decide), sI_ne _ (by decide), sI_ne _ (by decide), sI_ne _ (by decide), sI_ne _ (by decide)]), a2, ?_, ⟨x, a4, a5, ?_⟩, ?_⟩
          · rw [sI_k (by decide), sI_k (by decide), sI_k (by decide), sI_k (by decide)]; exact h.2.2.1
          · rw [e2]; rw [e22] at a6; exact a6
          · unfold enR at a7 ⊢
            rw [sI_v, sI_k (by decide), sI_k (by decide), sI_k (by decide), sI_k (by decide)]
            rw [e4, sI_k (by decide), sI_k (by decide)] at a7
            exact a7
        · rw [if_neg q4, if_neg q4, show tS T σ + 6 = tS T σ + 6 from rfl]
          obtain ⟨S2, p1, p2, p3⟩ := m_fail (S := ho_sI (ho_sI (ho_sI S 0 2 (nI (tS T σ))) 0 39 (nI (tS T σ))) 0 2 (nI (tS T σ + 6))) (k := 1) (p := tS T σ + 6) (by rw [sI_k (by decide), sI_k (by decide), sI_k (by decide)]; exact h.2.2.1) ⟨by decide, by decide⟩ (by omega)
          rw [show (1 : Int32) = nI 1 from rfl, p1, ob_s]
          exact ⟨_, S2, rfl, fM_tr f2 (fM_tr (fM_sI _ ⟨rfl, (by omega)⟩) p3), (fun w e => by cases e), (fun e x => by cases x; exact p2)⟩
  · rw [if_pos (ite01.mpr q), if_neg (fun x => q ⟨(tK_word.mp x).1, (tK_word.mp x).2.1⟩)]
    obtain ⟨v, S', a, b, c⟩ := bad
    exact ⟨v, S', a, b, (fun w e => by cases e), (fun e x => by cases x; exact c)⟩
theorem m_name_b {S : Hp} (h : ¬ S.1 0 5 = 0) : f_X12_name S = some (0, S) := by
  unfold f_X12_name
  rw [if_neg h]
theorem m_num_b {S : Hp} {x y : Int32} (h : ¬ S.1 0 5 = 0) : f_X12_number x y S = some (0, S) := by
  unfold f_X12_number
  rw [if_neg h]
theorem m_nn_b {v : Int64} : ∀ (d i K : Nat) (S : Hp), i + d = 3 → d < K → ¬ S.1 0 5 = 0 → f_X12_newName_7 K v (nI i) S = some (v, S) := by
  intro d
  induction d with
  | zero =>
    intro i K S hi hK _
    obtain ⟨K, rfl⟩ : ∃ q, K = q + 1 := ⟨K - 1, by omega⟩
    rw [f_X12_newName_7, if_pos ((geL 3 (by omega) (by decide)).mpr (by omega))]
  | succ d ih =>
    intro i K S hi hK hb
    obtain ⟨K, rfl⟩ : ∃ q, K = q + 1 := ⟨K - 1, by omega⟩
    rw [f_X12_newName_7, if_neg (fun q => absurd ((geL 3 (by omega) (by decide)).mp q) (by omega)), if_neg hb]
    unfold f_X12_newName_38
    rw [le1_e, nI_1]
    exact ih (i + 1) K S (by omega) (by omega) hb
theorem m_newN_b {S : Hp} (h : ¬ S.1 0 5 = 0) : f_X12_newName S = some (0, S) := by
  unfold f_X12_newName
  rw [m_name_b h, ob2_s]
  exact m_nn_b 3 0 5000 S (by decide) (by decide) h

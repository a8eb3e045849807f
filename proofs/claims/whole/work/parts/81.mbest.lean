/-! level 2: the reference: yields, what appears, sights laid, the best show -/
theorem m_rip {S : Hp} {C : Cr} {z : Nat → Nat} (hC : okCr C) (hz : okZ C z) (h : mC S C) (hs : mZ S C z) : ∃ S', f_X12_yieldsCome S = some S' ∧ mZ S' C (rip C z) ∧ fN (fun b k => b = 55 ∧ 3 ≤ k ∧ k < 9) S S' := by
  have hnp := hC.1.1
  have hy := m_yc (np := cP C) hnp (cP C) 0 5000 S (by omega) (by omega) h.1.1
  refine ⟨_, hy, ⟨fun k hk => ?_, fun w hw => ?_⟩, fN_sA S (fun k hk => ?_)⟩
  · rw [sA_at]
    by_cases e : 3 ≤ k ∧ k < 3 + cP C
    · obtain ⟨p, rfl⟩ : ∃ p, k = 3 + p := ⟨k - 3, by omega⟩
      have a1 := hz.2.2.2.1 p (by omega)
      have a2 := hC.2.2.1 p (by omega)
      rw [if_pos (by omega), hs.1 _ hk, show 3 + p - 3 = p by omega, h.2.2.1 p (by omega), nI_add, cap9_n (by omega), rip_st, if_pos (by omega)]
    · rw [if_neg (by omega), hs.1 k hk]
      unfold rip
      rw [if_neg e]
  · have hnw := hC.1.2.2
    rw [sA_at, if_neg (by omega), hs.2 w hw, rip_o hC (by omega)]
  · refine ⟨rfl, ?_⟩
    refine Classical.byContradiction (fun q => hk ?_)
    rw [if_neg (by omega)]
/-- what a show takes depends on stores that there are alone -/
theorem tkN_c {C : Cr} {tk row row' : Nat → Int32} {s : Nat} (hC : okCr C) (hr : ∀ p, p < cP C → row p = row' p) : ∀ n, n ≤ cT C → (tkN tk (cR C 3) s row n).2 = (tkN tk (cR C 3) s row' n).2 ∧ ∀ p, p < cP C → (tkN tk (cR C 3) s row n).1 p = (tkN tk (cR C 3) s row' n).1 p
  | 0, _ => ⟨rfl, hr⟩
  | t + 1, h => by
    obtain ⟨i1, i2⟩ := tkN_c (tk := tk) (s := s) hC hr t (by omega)
    have hf := (hC.2.2.2.1 t (by omega)).2.1
    rw [tkN, tkN]
    by_cases hb : s.testBit t = true
    · rw [if_pos hb, if_pos hb]
      refine ⟨?_, fun p hp => ?_⟩
      · show _ + _ = _ + _
        rw [i1, i2 _ hf]
      · show upd _ _ _ p = upd _ _ _ p
        by_cases e : p = cR C 3 t
        · subst e
          rw [pk_us, pk_us, i2 _ hf]
        · rw [pk_un e, pk_un e, i2 p hp]
    · rw [if_neg hb, if_neg hb]
      exact ⟨i1, i2⟩
theorem m_apr {S : Hp} {s : Nat} {C : Cr} {z : Nat → Nat} (hC : okCr C) (hz : okZ C z) (h : mC S C) (hs : mZ S C z) (h64 : s < 64) : ∃ S', f_X12_appearsBy (nI s) S = some (nI (apr C z s), S') ∧ (∀ p, p < cP C → S'.1 60 p = nI (lft C z s p)) ∧ fN (fun b _ => b = 60) S S' := by
  have hnp := hC.1.1
  have hnt := hC.1.2.1
  have hab := m_ab (S := S) (fr := cR C 3) hnt hnp h64 h.1.2.1 h.1.1 (fun t ht => ⟨(h.2.2.2.1 t ht).2.1, by have := (hC.2.2.2.1 t ht).2.1; omega⟩)
  obtain ⟨c1, c2⟩ := tkN_c (tk := fun t => S.1 45 (18 + 3 * t)) (row := fun p => if p < cP C then S.1 55 (3 + p) else S.1 60 p) (row' := fun p => nI (z (3 + p))) (s := s) hC (fun p hp => by
    show (if p < cP C then S.1 55 (3 + p) else S.1 60 p) = nI (z (3 + p))
    rw [if_pos hp, hs.1 _ (by omega)]) (cT C) (Nat.le_refl _)
  obtain ⟨d1, d2, d3⟩ := tkN_A (tk := fun t => S.1 45 (18 + 3 * t)) (row := fun p => nI (z (3 + p))) (s := s) (r := fun p => z (3 + p)) hC (fun t ht => (h.2.2.2.1 t ht).1) (fun p _ => rfl) (fun p hp => hz.2.2.2.1 p hp) (cT C) (Nat.le_refl _)
  refine ⟨ho_sA S 60 (tkN (fun t => S.1 45 (18 + 3 * t)) (cR C 3) s (fun p => if p < cP C then S.1 55 (3 + p) else S.1 60 p) (cT C)).1, ?_, fun p hp => ?_, fN_sA S (fun k _ => rfl)⟩
  · rw [hab, c1, d1]
    rfl
  · rw [sA_at, c2 p hp]
    exact (d3 p (by omega)).1
theorem m_lay_loop {C : Cr} {z : Nat → Nat} (hC : okCr C) (hz : okZ C z) : ∀ (d i k : Nat) (S : Hp), i + d = cT C → d < k → mC S C → mZ S C z → (∀ j, j < i → S.1 61 j = nI (sgT C z j)) →
    ∃ S', f_X12_laysSights_2 k (nI i) S = some S' ∧ (∀ j, j < cT C → S'.1 61 j = nI (sgT C z j)) ∧ fN (fun b k => eP b k ∨ b = 61) S S' := by
  have hnt := hC.1.2.1
  intro d
  induction d with
  | zero =>
    intro i k S hi hk h hs hj
    obtain ⟨k, rfl⟩ : ∃ q, k = q + 1 := ⟨k - 1, by omega⟩
    refine ⟨S, ?_, fun j hjj => hj j (by omega), fN_rf _ S⟩
    rw [f_X12_laysSights_2, m_tm, ob2_s, h.1.2.1, if_pos (nI_le (by omega) (by omega))]
  | succ d ih =>
    intro i k S hi hk h hs hj
    obtain ⟨k, rfl⟩ : ∃ q, k = q + 1 := ⟨k - 1, by omega⟩
    obtain ⟨S1, r1, r2⟩ := m_sT (t := i) hC hz (by omega) h hs
    have f1 : fN (fun b k => eP b k ∨ b = 61) S (ho_sI S1 61 i (nI (sgT C z i))) := fN_tr (fN_mo r2 (fun _ _ q => Or.inl q)) (fN_sI S1 (Or.inr rfl))
    have hcl : ∀ b k, (eP b k ∨ b = 61) → ¬ crM b := fun b k q => by unfold eP at q; unfold crM; omega
    have hc5 : ∀ b k, (eP b k ∨ b = 61) → b ≠ 55 := fun b k q => by unfold eP at q; omega
    obtain ⟨S2, r3, r4, r5⟩ := ih (i + 1) k _ (by omega) (by omega) (mC_f h f1 hcl) (mZ_f hs f1 hc5) (fun j hjj => by
      by_cases e : j = i
      · subst e; rw [sI_v]
      · rw [sI_k e, r2.1 61 j (by unfold eP; omega)]; exact hj j (by omega))
    refine ⟨S2, ?_, r4, fN_tr f1 r5⟩
    rw [f_X12_laysSights_2, m_tm, ob2_s, h.1.2.1, if_neg (nI_ge (by omega) (by omega)), r1, ob2_s, stI_n (by omega) (by decide), le1_e, nI_1]
    exact r3
def lyP (b k : Nat) : Prop := eP b k ∨ b = 60 ∨ b = 61
theorem ly_c {b k : Nat} (h : lyP b k) : ¬ crM b := by unfold lyP eP at h; unfold crM; omega
theorem ly_5 {b k : Nat} (h : lyP b k) : b ≠ 55 := by unfold lyP eP at h; omega
theorem m_lay {S : Hp} {C : Cr} {z : Nat → Nat} (hC : okCr C) (hz : okZ C z) (h : mC S C) (hs : mZ S C z) : ∃ S', f_X12_laysSights S = some S' ∧ (∀ j, j < cT C → S'.1 61 j = nI (sgT C z j)) ∧ fN lyP S S' := by
  obtain ⟨S', a, b, c⟩ := m_lay_loop hC hz (cT C) 0 5000 S (by omega) (by have := hC.1.2.1; omega) h hs (fun j hj => absurd hj (by omega))
  exact ⟨S', a, b, fN_mo c (fun b k q => q.elim Or.inl (fun x => Or.inr (Or.inr x)))⟩
theorem m_sos_loop {S : Hp} {s : Nat} {C : Cr} {g : Nat → Nat} (hC : okCr C) (h : mC S C) (hg : ∀ t, t < cT C → S.1 61 t = nI (g t)) (h64 : s < 64) : ∀ (d i k : Nat), i + d = cT C → d < k → f_X12_sightBySet_4 k (nI s) (nI (smT (fun t => if s.testBit t then g t else 0) i)) (nI i) S = some (nI (smT (fun t => if s.testBit t then g t else 0) (cT C)), S) := by
  have hnt := hC.1.2.1
  intro d
  induction d with
  | zero =>
    intro i k hi hk
    obtain ⟨k, rfl⟩ : ∃ q, k = q + 1 := ⟨k - 1, by omega⟩
    rw [f_X12_sightBySet_4, m_tm, ob2_s, h.1.2.1, if_pos (nI_le (by omega) (by omega)), show i = cT C by omega]
  | succ d ih =>
    intro i k hi hk
    obtain ⟨k, rfl⟩ : ∃ q, k = q + 1 := ⟨k - 1, by omega⟩
    have hI := ih (i + 1) k (by omega) (by omega)
    rw [smT] at hI
    have h30 : ∀ x, f_X12_sightBySet_30 (f_X12_sightBySet_4 k) (nI s) x (nI i) S = f_X12_sightBySet_4 k (nI s) x (nI (i + 1)) S := by
      intro x
      unfold f_X12_sightBySet_30
      rw [le1_e, nI_1]
    rw [f_X12_sightBySet_4, m_tm, ob2_s, h.1.2.1, if_neg (nI_ge (by omega) (by omega))]
    by_cases hb : s.testBit i = true
    · rw [if_pos ((bit_at1 h64 (by omega)).mpr hb), ldI_n (by omega) (by decide), hg i (by omega), le1_e, nI_add, h30]
      rw [if_pos hb] at hI
      exact hI
    · rw [if_neg (fun q => hb ((bit_at1 h64 (by omega)).mp q)), h30]
      rw [if_neg hb] at hI
      exact hI
theorem m_sos {S : Hp} {s : Nat} {C : Cr} {z : Nat → Nat} (hC : okCr C) (h : mC S C) (hg : ∀ t, t < cT C → S.1 61 t = nI (sgT C z t)) (h64 : s < 64) : f_X12_sightBySet (nI s) S = some (nI (sgS C z s), S) :=
  m_sos_loop hC h hg h64 (cT C) 0 5000 (by omega) (by have := hC.1.2.1; omega)
theorem sgS_lt {C : Cr} {z : Nat → Nat} {s : Nat} (hC : okCr C) : sgS C z s < 2 ^ 29 := by
  have h1 : sgS C z s ≤ cT C * 1000 := smT_le (cT C) (fun i _ => by
    have := sgT_le (z := z) hC i
    split <;> omega)
  have := hC.1.2.1
  have : cT C * 1000 ≤ 6 * 1000 := Nat.mul_le_mul_right _ this
  omega
theorem tt_n : ¬ ((true != true) = true) := by decide
theorem ff_n : ¬ ((false != false) = true) := by decide
theorem tf_n : ((true != false) = true) := by decide
theorem ft_n : ((false != true) = true) := by decide
theorem b_eq (n a q b a' q' b' : Nat) : bet n a q b a' q' b' = if (decide (n ≤ a) != decide (n ≤ a')) = true then decide (n ≤ a) else if ¬ n ≤ a ∧ a ≠ a' then decide (a' < a) else if q ≠ q' then decide (q < q') else decide (popc b < popc b') := by
  unfold bet
  by_cases e1 : n ≤ a
  · by_cases e2 : n ≤ a'
    · rw [decide_eq_true e1, decide_eq_true e2, if_neg tt_n, if_neg (show ¬ (min a n ≠ min a' n) by omega), if_neg (show ¬ (¬ n ≤ a ∧ a ≠ a') by omega)]
    · rw [decide_eq_true e1, decide_eq_false e2, if_pos tf_n, if_pos (show min a n ≠ min a' n by omega)]
      exact decide_eq_true (by omega)
  · by_cases e2 : n ≤ a'
    · rw [decide_eq_false e1, decide_eq_true e2, if_pos ft_n, if_pos (show min a n ≠ min a' n by omega)]
      exact decide_eq_false (by omega)
    · rw [decide_eq_false e1, decide_eq_false e2, if_neg ff_n]
      by_cases e3 : a = a'
      · rw [if_neg (show ¬ (min a n ≠ min a' n) by omega), if_neg (show ¬ (¬ n ≤ a ∧ a ≠ a') by omega)]
      · rw [if_pos (show min a n ≠ min a' n by omega), if_pos ⟨e1, e3⟩]
        exact decide_eq_decide.mpr (by omega)
theorem m_bet {S : Hp} {s b : Nat} {C : Cr} {z : Nat → Nat} (hC : okCr C) (hz : okZ C z) (h : mC S C) (hs : mZ S C z) (hg : ∀ t, t < cT C → S.1 61 t = nI (sgT C z t)) (h64 : s < 64) (hb64 : b < 64) :
    ∃ S', f_X12_isBetter (nI s) (nI b) S = some (if betC C z s b then 1 else 0, S') ∧ fN (fun b _ => b = 60) S S' := by
  obtain ⟨S1, r1, -, r2⟩ := m_apr hC hz h hs h64
  have h1 : mC S1 C := mC_f h r2 (fun b k q => by unfold crM; omega)
  have s1 : mZ S1 C z := mZ_f hs r2 (fun b k q => by omega)
  obtain ⟨S2, q1, -, q2⟩ := m_apr hC hz h1 s1 hb64
  have h2 : mC S2 C := mC_f h1 q2 (fun b k q => by unfold crM; omega)
  have f2 : fN (fun b _ => b = 60) S S2 := fN_tr r2 q2
  have hg2 : ∀ t, t < cT C → S2.1 61 t = nI (sgT C z t) := fun t ht => by rw [f2.1 61 t (by first | decide | (dsimp only; omega) | omega)]; exact hg t ht
  refine ⟨S2, ?_, f2⟩
  have a1 := (apr_le (s := s) hC hz).1
  have a2 := (apr_le (s := b) hC hz).1
  have hn := hC.2.1.1
  have g1 := sgS_lt (z := z) (s := s) hC
  have g2 := sgS_lt (z := z) (s := b) hC
  have p1 := popc_le s
  have p2 := popc_le b
  have h77 : f_X12_isBetter_77 (nI s) (nI b) S2 = some (if (if sgS C z s ≠ sgS C z b then decide (sgS C z s < sgS C z b) else decide (popc s < popc b)) = true then 1 else 0, S2) := by
    have ht : (nI (sgS C z s) - nI (sgS C z b)).toInt = (sgS C z s : Int) - sgS C z b := pk_sub_toInt (by omega) (by omega)
    have z0 : (0 : Int32).toInt = 0 := by decide
    unfold f_X12_isBetter_77
    rw [m_sos hC h2 hg2 h64, ob2_s, m_sos hC h2 hg2 hb64, ob2_s, le1_e]
    by_cases e : sgS C z s = sgS C z b
    · rw [if_pos (by rw [← Int32.toInt_inj, ht, z0]; omega), m_bits h64, ob2_s, m_bits hb64, ob2_s, if_neg (show ¬ (sgS C z s ≠ sgS C z b) from fun x => x e)]
      by_cases e3 : popc s < popc b
      · rw [if_neg (nI_ge e3 (by omega)), decide_eq_true e3]; rfl
      · rw [if_pos (nI_le (by omega) (by omega)), decide_eq_false e3]; rfl
    · rw [if_neg (by rw [← Int32.toInt_inj, ht, z0]; omega), if_pos e]
      by_cases e3 : sgS C z s < sgS C z b
      · rw [if_neg (by rw [Int32.le_iff_toInt_le, ht, z0]; omega), decide_eq_true e3]; rfl
      · rw [if_pos (by rw [Int32.le_iff_toInt_le, ht, z0]; omega), decide_eq_false e3]; rfl
  unfold betC
  rw [b_eq]
  unfold f_X12_isBetter
  rw [r1, ob2_s, q1, ob2_s, ldI_L 3 (by decide) (by decide), h2.2.1.1]
  unfold f_X12_isBetter_28
  simp only [ldI_L (S := S2) (a := 43) (n := 6) 3 (by decide) (by decide), h2.2.1.1]
  generalize hA : apr C z s = A at *
  generalize hB : apr C z b = B at *
  generalize hN : cR C 0 0 = N at *
  unfold f_X12_isBetter_48
  rw [h77]
  by_cases e1 : N ≤ A
  · rw [if_neg (show ¬ nI A < nI N from nI_nlt e1 (by omega)), decide_eq_true e1]
    by_cases e2 : N ≤ B
    · rw [if_neg (show ¬ nI B < nI N from nI_nlt e2 (by omega)), if_pos rfl, if_neg ne1, decide_eq_true e2, if_neg tt_n, if_neg (show ¬ (¬ N ≤ A ∧ A ≠ B) by omega)]
    · rw [if_pos (show nI B < nI N from nI_lt (by omega) (by omega)), if_neg ne1, decide_eq_false e2, if_pos tf_n]
      exact tr1
  · rw [if_pos (show nI A < nI N from nI_lt (by omega) (by omega)), decide_eq_false e1]
    by_cases e2 : N ≤ B
    · rw [if_neg (show ¬ nI B < nI N from nI_nlt e2 (by omega)), if_neg (show ¬ ((0 : Int32) = 1) by decide), decide_eq_true e2, if_pos ft_n]
      exact tr0
    · rw [if_pos (show nI B < nI N from nI_lt (by omega) (by omega)), if_pos rfl, if_pos rfl, decide_eq_false e2, if_neg ff_n]
      by_cases e3 : A = B
      · rw [if_pos (show nI A = nI B by rw [e3]), if_neg (show ¬ (¬ N ≤ A ∧ A ≠ B) by omega)]
      · rw [if_neg (show ¬ nI A = nI B from fun q => e3 ((nI_eq (by omega) (by omega)).mp q)), if_pos (show ¬ N ≤ A ∧ A ≠ B from ⟨e1, e3⟩)]
        by_cases e4 : B < A
        · rw [if_neg (nI_ge e4 (by omega)), decide_eq_true e4]; rfl
        · rw [if_pos (nI_le (by omega) (by omega)), decide_eq_false e4]; rfl
theorem m_best_loop {C : Cr} {z : Nat → Nat} (hC : okCr C) (hz : okZ C z) : ∀ (d i k : Nat) (S : Hp), i + d = 2 ^ cT C → d < k → mC S C → mZ S C z → ¬ S.1 0 52 = 0 → (∀ t, t < cT C → S.1 61 t = nI (sgT C z t)) →
    ∃ S', f_X12_bestShow_8 k (nI (bsF C z (shw C z) i)) (nI i) S = some (nI (bsF C z (shw C z) (2 ^ cT C)), S') ∧ fN (fun b _ => b = 60) S S' := by
  have hnt := hC.1.2.1
  obtain ⟨p1, p2⟩ := pow_64 hnt
  intro d
  induction d with
  | zero =>
    intro i k S hi hk h hs hcr hg
    obtain ⟨k, rfl⟩ : ∃ q, k = q + 1 := ⟨k - 1, by omega⟩
    refine ⟨S, ?_, fN_rf _ S⟩
    rw [f_X12_bestShow_8, m_allT hC h, ob2_s, if_pos (nI_lt (by omega) (by omega)), show i = 2 ^ cT C by omega]
  | succ d ih =>
    intro i k S hi hk h hs hcr hg
    obtain ⟨k, rfl⟩ : ∃ q, k = q + 1 := ⟨k - 1, by omega⟩
    have h35 : ∀ x Sx, f_X12_bestShow_35 (f_X12_bestShow_8 k) x (nI i) Sx = f_X12_bestShow_8 k x (nI (i + 1)) Sx := by
      intro x Sx
      unfold f_X12_bestShow_35
      rw [le1_e, nI_1]
    have b64 : bsF C z (shw C z) i < 64 := bsF_64 (shw_64 hC z) i
    rw [f_X12_bestShow_8, m_allT hC h, ob2_s, if_neg (nI_nlt (by omega) (by omega)), m_can hC hz h hs hcr (by omega), ob2_s]
    by_cases e : i &&& shw C z = i
    · rw [if_pos e, if_neg ne1]
      obtain ⟨S1, r1, r2⟩ := m_bet (s := i) (b := bsF C z (shw C z) i) hC hz h hs hg (by omega) b64
      have h1 : mC S1 C := mC_f h r2 (fun b k q => by unfold crM; omega)
      have s1 : mZ S1 C z := mZ_f hs r2 (fun b k q => by omega)
      obtain ⟨S2, r3, r4⟩ := ih (i + 1) k S1 (by omega) (by omega) h1 s1 (by rw [r2.1 0 52 (by first | decide | (dsimp only; omega) | omega)]; exact hcr) (fun t ht => by rw [r2.1 61 t (by first | decide | (dsimp only; omega) | omega)]; exact hg t ht)
      refine ⟨S2, ?_, fN_tr r2 r4⟩
      rw [r1, ob2_s]
      rw [bsF] at r3
      by_cases e2 : betC C z i (bsF C z (shw C z) i) = true
      · rw [if_pos e2, if_neg ne1, h35]
        rw [if_pos ⟨e, e2⟩] at r3
        exact r3
      · rw [if_neg e2, if_pos rfl, h35]
        rw [if_neg (fun q => e2 q.2)] at r3
        exact r3
    · rw [if_neg e, if_pos rfl, h35]
      have hI := ih (i + 1) k S (by omega) (by omega) h hs hcr hg
      rw [bsF, if_neg (fun q => e q.1)] at hI
      exact hI
theorem m_best {S : Hp} {C : Cr} {z : Nat → Nat} (hC : okCr C) (hz : okZ C z) (h : mC S C) (hs : mZ S C z) (hcr : ¬ S.1 0 52 = 0) :
    ∃ S', f_X12_bestShow S = some (nI (bst C z), S') ∧ (∀ t, t < cT C → S'.1 61 t = nI (sgT C z t)) ∧ fN lyP S S' := by
  have hnt := hC.1.2.1
  obtain ⟨p1, p2⟩ := pow_64 hnt
  obtain ⟨S1, r1, r2, r3⟩ := m_lay hC hz h hs
  have h1 : mC S1 C := mC_f h r3 (fun _ _ q => ly_c q)
  have s1 : mZ S1 C z := mZ_f hs r3 (fun _ _ q => ly_5 q)
  obtain ⟨S2, q1, q2⟩ := m_best_loop hC hz (2 ^ cT C - 1) 1 5000 S1 (by omega) (by omega) h1 s1 (by rw [r3.1 0 52 (by unfold lyP eP; omega)]; exact hcr) r2
  refine ⟨S2, ?_, fun t ht => by rw [q2.1 61 t (by first | decide | (dsimp only; omega) | omega)]; exact r2 t ht, fN_tr r3 (fN_mo q2 (fun b k q => Or.inr (Or.inl q)))⟩
  unfold f_X12_bestShow
  rw [r1, ob_s]
  rw [bsF_1] at q1
  have hlt := shw_lt C z
  have e : bst C z = bsF C z (shw C z) (2 ^ cT C) := by
    unfold bst
    rw [bsF_x (2 ^ cT C) (by omega)]
  rw [e]
  exact q1

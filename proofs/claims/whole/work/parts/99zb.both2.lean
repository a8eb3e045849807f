/-! level 2: alike answers: both, the reference's second show -/
def okPr (o : Pr) : Prop := ∀ p, o = some p → p.1 < 64 ∧ p.2.1 < 64 ∧ p.2.2.1 ≤ 99999 ∧ p.2.2.2 ≤ 100
def pBo (b k : Nat) : Prop := goP b k ∨ b = 66
def mB6 (S : Hp) (C : Cr) (z : Nat → Nat) : Prop := (∀ k, k < 21 → S.1 66 k = nI (z k)) ∧ ∀ w, w < cW C → S.1 66 (21 + w) = nI (z (21 + w))
theorem prI_ok {C : Cr} {z1 : Nat → Nat} {a : Nat} {o : Pr} (hC : okCr C) (hz : okZ C z1) (hy : z1 0 < 999) (ha : a < 64) (ho : okPr o) : ∀ n, n ≤ 64 → okPr (prI C z1 a o n)
  | 0, _ => ho
  | n + 1, hn => by
    have ih := prI_ok hC hz hy ha ho n (by omega)
    have hg := gv_ok (s := n) (g := sgT C (rip C z1)) hC (rip_ok hC hz) (by rw [rip_o hC (by omega)]; exact hy)
    rw [prI]
    split
    · intro p hp
      cases hp
      exact ⟨ha, (by show n < 64; omega), hg.2.1, hg.2.2.1⟩
    · exact ih
theorem m_b105 {C : Cr} {z z1 : Nat → Nat} {kl : List Nat} {a x : Nat} {o : Pr} (hC : okCr C) (hz1 : okZ C z1) (hy : z1 0 < 999) (ha : a < 64) (ho : okPr o) (F : Int32 → Int32 → Int32 → Int32 → Int32 → Int32 → Hp → Option (Int32 × Hp)) : ∀ (d i K : Nat) (S : Hp), i + d = 2 ^ cT C → d < K → mC S C → mZ S C z1 → mB6 S C z1 → mB S C z → mK S kl → S.1 0 62 = nI 1 → S.1 0 52 = 1 → ∃ S', f_X12_both_105 F K (nI x) (oB (prI C z1 a o i) 0) (oB (prI C z1 a o i) 1) (oB (prI C z1 a o i) 2) (oB (prI C z1 a o i) 3) (nI a) (nI i) S = F (nI x) (oB (prI C z1 a o (2 ^ cT C)) 0) (oB (prI C z1 a o (2 ^ cT C)) 1) (oB (prI C z1 a o (2 ^ cT C)) 2) (oB (prI C z1 a o (2 ^ cT C)) 3) (nI (a + 1)) S' ∧ mZ S' C z ∧ mB S' C z ∧ mK S' kl ∧ fN pBo S S' := by
  have hnt := hC.1.2.1
  have hnw := hC.1.2.2
  have hp : 2 ^ cT C ≤ 2 ^ 6 := Nat.pow_le_pow_right (by decide) hnt
  have hp0 : 0 < 2 ^ cT C := Nat.two_pow_pos _
  intro d
  induction d with
  | zero =>
    intro i K S hi hK h hs h6 hB hk h62 h52
    obtain ⟨K, rfl⟩ : ∃ q, K = q + 1 := ⟨K - 1, by omega⟩
    obtain ⟨S1, r1, r2, r3⟩ := m_tryN hC hB
    refine ⟨S1, ?_, r2, ⟨fun k hk => by rw [r3.1 56 k (by first | decide | (dsimp only; omega) | omega)]; exact hB.1 k hk, fun w hw => by rw [r3.1 56 _ (by first | decide | (dsimp only; omega) | omega)]; exact hB.2 w hw⟩, mK_f hk r3 (fun b k q => by omega), fN_mo r3 (fun b k q => by unfold pBo goP; omega)⟩
    rw [f_X12_both_105, m_all hnt h.1.2.1, ob2_s, if_pos (show nI (2 ^ cT C - 1) < nI i from nI_lt (by omega) (by omega)), r1, ob_s, show i = 2 ^ cT C by omega]
    unfold f_X12_both_236
    rw [le1_e, nI_1]
  | succ d ih =>
    intro i K S hi hK h hs h6 hB hk h62 h52
    obtain ⟨K, rfl⟩ : ∃ q, K = q + 1 := ⟨K - 1, by omega⟩
    have h226 : ∀ a2 a3 a4 a5 S, f_X12_both_226 F (f_X12_both_105 F K) (nI x) a2 a3 a4 a5 (nI a) (nI i) S = f_X12_both_105 F K (nI x) a2 a3 a4 a5 (nI a) (nI (i + 1)) S := fun a2 a3 a4 a5 S => by
      unfold f_X12_both_226
      rw [le1_e, nI_1]
    have okp := prI_ok (n := i) hC hz1 hy ha ho (by omega)
    rw [f_X12_both_105, m_all hnt h.1.2.1, ob2_s, if_neg (nI_nlt (by omega) (by omega)), m_can hC hz1 h hs (by rw [h52]; exact ne1) (by omega), ob2_s]
    by_cases e : i &&& shw C z1 = i
    rotate_left
    · obtain ⟨S', q1, q2⟩ := ih (i + 1) K S (by omega) (by omega) h hs h6 hB hk h62 h52
      rw [prI, if_neg (fun q => e q.1)] at q1
      rw [if_neg e, if_pos rfl, h226]
      exact ⟨S', q1, q2⟩
    obtain ⟨S1, r1, r2, r3⟩ := m_rip hC hz1 h hs
    have r3' : fN goP S S1 := fN_mo r3 (fun b k q => by unfold goP; omega)
    have k1 := mK_f hk r3 (fun b k q => by omega)
    obtain ⟨S2, t1, t2, t3, -, t5, -⟩ := m_yEnds (s := i) (th := 1) hC (rip_ok hC hz1) (by omega) (by rw [rip_o hC (by omega)]; exact hy) (mC_f h r3' (fun b k q => go_c q)) r2 k1 (by rw [r3.1 0 62 (by first | decide | (dsimp only; omega) | omega)]; exact h62)
    have hg := gv_ok (s := i) (g := sgT C (rip C z1)) hC (rip_ok hC hz1) (by rw [rip_o hC (by omega)]; exact hy)
    have f2 : fN goP S S2 := fN_tr r3' t5
    have k2 : mK S2 kl := by
      unfold kpT at t3
      rw [if_neg (show ¬ S1.1 0 62 = 0 by rw [r3.1 0 62 (by first | decide | (dsimp only; omega) | omega), h62]; exact ne1)] at t3
      exact t3
    generalize hz2 : gv C (rip C z1) i (sgT C (rip C z1)) = z2 at *
    have g6 : ∀ k, S2.1 66 k = S.1 66 k := fun k => f2.1 66 k (by unfold goP eP; omega)
    have g5 : ∀ k, S2.1 56 k = S.1 56 k := fun k => f2.1 56 k (by unfold goP eP; omega)
    have fin : ∀ o', prI C z1 a o (i + 1) = o' → ∃ S', f_X12_both_196 F (f_X12_both_105 F K) (nI x) (oB o' 0) (oB o' 1) (oB o' 2) (oB o' 3) (nI a) (nI i) S2 = F (nI x) (oB (prI C z1 a o (2 ^ cT C)) 0) (oB (prI C z1 a o (2 ^ cT C)) 1) (oB (prI C z1 a o (2 ^ cT C)) 2) (oB (prI C z1 a o (2 ^ cT C)) 3) (nI (a + 1)) S' ∧ mZ S' C z ∧ mB S' C z ∧ mK S' kl ∧ fN pBo S S' := by
      intro o' ho'
      obtain ⟨S3, u1, u2, u3⟩ := m_b199 (F := F) (G := f_X12_both_105 F K) (x1 := nI x) (x2 := oB o' 0) (x3 := oB o' 1) (x4 := oB o' 2) (x5 := oB o' 3) (x6 := nI a) (x7 := nI i) 26 0 5000 S2 (by decide) (by decide) (fun k hk => absurd hk (Nat.not_lt_zero k))
      have u3' : fN goP S2 S3 := fN_mo u3 (fun b k q => by unfold goP; omega)
      have f3 : fN goP S S3 := fN_tr f2 u3'
      obtain ⟨S', q1, q2, q3, q4, q5⟩ := ih (i + 1) K S3 (by omega) (by omega) (mC_f h f3 (fun b k q => go_c q)) ⟨fun k hk => by rw [u2 k (by omega), g6]; exact h6.1 k hk, fun w hw => by rw [u2 _ (by omega), g6]; exact h6.2 w hw⟩ ⟨fun k hk => by rw [u3.1 66 k (by first | decide | (dsimp only; omega) | omega), g6]; exact h6.1 k hk, fun w hw => by rw [u3.1 66 _ (by first | decide | (dsimp only; omega) | omega), g6]; exact h6.2 w hw⟩ ⟨fun k hk => by rw [u3.1 56 k (by first | decide | (dsimp only; omega) | omega), g5]; exact hB.1 k hk, fun w hw => by rw [u3.1 56 _ (by first | decide | (dsimp only; omega) | omega), g5]; exact hB.2 w hw⟩ (mK_f k2 u3 (fun b k q => by omega)) (by rw [f3.1 0 62 (by unfold goP eP; omega)]; exact h62) (by rw [f3.1 0 52 (by unfold goP eP; omega)]; exact h52)
      rw [ho'] at q1
      refine ⟨S', ?_, q2, q3, q4, fN_tr (fN_mo f3 (fun b k q => Or.inl q)) q5⟩
      rw [← q1, ← h226, ← u1]
      rfl
    have v1 : S2.1 55 1 = nI (z2 1) := t2.1 1 (by decide)
    have v2 : S2.1 55 2 = nI (z2 2) := t2.1 2 (by decide)
    have b1 := hg.2.1
    have b2 := hg.2.2.1
    have h174 : f_X12_both_174 F (f_X12_both_105 F K) (nI x) (nI a) (nI i) S2 = f_X12_both_196 F (f_X12_both_105 F K) (nI x) (oB (some (a, i, z2 1, z2 2)) 0) (oB (some (a, i, z2 1, z2 2)) 1) (oB (some (a, i, z2 1, z2 2)) 2) (oB (some (a, i, z2 1, z2 2)) 3) (nI a) (nI i) S2 := by
      unfold f_X12_both_174
      rw [ldI_L 1 (by decide) (by decide), ldI_L 2 (by decide) (by decide), v1, v2]; rfl
    rw [if_pos e, if_neg ne1, r1, ob_s, t1, ob_s, ldI_L 1 (by decide) (by decide), v1, ldI_L 1 (by decide) (by decide), v1, ldI_L 2 (by decide) (by decide), v2, h174]
    have hpr : prI C z1 a o (i + 1) = if i &&& shw C z1 = i ∧ prB (prI C z1 a o i) (z2 1) (z2 2) = true then some (a, i, z2 1, z2 2) else prI C z1 a o i := by rw [prI, hz2]
    cases hq : prI C z1 a o i with
    | none =>
      rw [hq] at hpr
      rw [if_pos (show oB none 0 = -1 from rfl)]
      exact fin _ (by rw [hpr, if_pos ⟨e, rfl⟩])
    | some p =>
      rw [hq] at hpr
      obtain ⟨w1, w2, w3, w4⟩ := okp p hq
      rw [if_neg (show ¬ oB (some p) 0 = -1 from nI_nm (k := p.1) (by omega)), show oB (some p) 2 = nI p.2.2.1 from rfl, show oB (some p) 3 = nI p.2.2.2 from rfl]
      by_cases c1 : z2 1 < p.2.2.1
      · rw [if_pos (nI_lt c1 (by omega))]
        exact fin _ (by rw [hpr, if_pos ⟨e, by show (decide (z2 1 < p.2.2.1) || _) = true; rw [decide_eq_true c1, Bool.true_or]⟩])
      rw [if_neg (nI_nlt (by omega) (by omega))]
      by_cases c2 : z2 1 = p.2.2.1
      rotate_left
      · rw [if_neg (fun q => c2 ((nI_eq (by omega) (by omega)).mp q))]
        exact fin (some p) (by rw [hpr, if_neg (fun q => absurd q.2 (by show ¬ (decide (z2 1 < p.2.2.1) || (decide (z2 1 = p.2.2.1) && decide (p.2.2.2 < z2 2))) = true; rw [decide_eq_false c1, decide_eq_false c2, Bool.false_and]; decide))])
      rw [if_pos (show nI (z2 1) = nI p.2.2.1 by rw [c2])]
      by_cases c3 : p.2.2.2 < z2 2
      · rw [if_neg (nI_ge c3 (by omega))]
        exact fin _ (by rw [hpr, if_pos ⟨e, by show (decide (z2 1 < p.2.2.1) || (decide (z2 1 = p.2.2.1) && decide (p.2.2.2 < z2 2))) = true; rw [decide_eq_true c2, decide_eq_true c3, Bool.and_true, Bool.or_true]⟩])
      · rw [if_pos (nI_le (by omega) (by omega))]
        exact fin (some p) (by rw [hpr, if_neg (fun q => absurd q.2 (by show ¬ (decide (z2 1 < p.2.2.1) || (decide (z2 1 = p.2.2.1) && decide (p.2.2.2 < z2 2))) = true; rw [decide_eq_false c1, decide_eq_false c3, Bool.and_false]; decide))])

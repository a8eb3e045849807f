/-! level 2: alike answers: both, the reference in all -/
def pB2 (b k : Nat) : Prop := pBo b k ∨ (b = 0 ∧ k = 62)
theorem prO_ok {C : Cr} {z : Nat → Nat} (hC : okCr C) (hz : okZ C z) (hy : z 0 + 2 ≤ 999) : ∀ n, n ≤ 64 → okPr (prO C z n)
  | 0, _ => fun p hp => by cases hp
  | n + 1, hn => by
    have ih := prO_ok hC hz hy n (by omega)
    have hp : 2 ^ cT C ≤ 2 ^ 6 := Nat.pow_le_pow_right (by decide) hC.1.2.1
    have hg := gv_ok (s := n) (g := sgT C (rip C z)) hC (rip_ok hC hz) (by rw [rip_o hC (by omega)]; omega)
    have h0 : gv C (rip C z) n (sgT C (rip C z)) 0 = z 0 + 1 := by
      show rip C z 0 + 1 = _
      rw [rip_o hC (by omega)]
    rw [prO]
    split
    · exact prI_ok hC hg (by rw [h0]; omega) (by omega) ih _ (by omega)
    · exact ih
theorem m_b41 {C : Cr} {z : Nat → Nat} {kl : List Nat} {x : Nat} (hC : okCr C) (hz : okZ C z) (hy : z 0 + 2 ≤ 999) (hx : x < 4) : ∀ (d i K : Nat) (S : Hp), i + d = 2 ^ cT C → d < K → mC S C → mZ S C z → mB S C z → mK S kl → S.1 0 62 = nI 1 → S.1 0 52 = 1 → ∃ S', f_X12_both_41 K (nI x) (oB (prO C z i) 0) (oB (prO C z i) 1) (oB (prO C z i) 2) (oB (prO C z i) 3) (nI i) S = some (oB (prO C z (2 ^ cT C)) x, S') ∧ mN S' C z kl ∧ fN pB2 S S' := by
  have hnt := hC.1.2.1
  have hnw := hC.1.2.2
  have hp : 2 ^ cT C ≤ 2 ^ 6 := Nat.pow_le_pow_right (by decide) hnt
  have hp0 : 0 < 2 ^ cT C := Nat.two_pow_pos _
  intro d
  induction d with
  | zero =>
    intro i K S hi hK h hs hB hk h62 h52
    obtain ⟨K, rfl⟩ : ∃ q, K = q + 1 := ⟨K - 1, by omega⟩
    obtain ⟨S1, r1, r2, r3⟩ := m_tkb hC hB hk
    refine ⟨S1, ?_, r2, fN_mo r3 (fun b k q => by unfold pB2 pBo goP; omega)⟩
    rw [f_X12_both_41, m_all hnt h.1.2.1, ob2_s, if_pos (show nI (2 ^ cT C - 1) < nI i from nI_lt (by omega) (by omega)), r1, ob_s, show i = 2 ^ cT C by omega]
    have : x = 0 ∨ x = 1 ∨ x = 2 ∨ x = 3 := by omega
    rcases this with rfl | rfl | rfl | rfl <;> rfl
  | succ d ih =>
    intro i K S hi hK h hs hB hk h62 h52
    obtain ⟨K, rfl⟩ : ∃ q, K = q + 1 := ⟨K - 1, by omega⟩
    have h236 : ∀ a2 a3 a4 a5 S, f_X12_both_236 (f_X12_both_41 K) (nI x) a2 a3 a4 a5 (nI i) S = f_X12_both_41 K (nI x) a2 a3 a4 a5 (nI (i + 1)) S := fun a2 a3 a4 a5 S => by
      unfold f_X12_both_236
      rw [le1_e, nI_1]
    rw [f_X12_both_41, m_all hnt h.1.2.1, ob2_s, if_neg (nI_nlt (by omega) (by omega)), m_can hC hz h hs (by rw [h52]; exact ne1) (by omega), ob2_s]
    by_cases e : i &&& shw C z = i
    rotate_left
    · obtain ⟨S', q1, q2⟩ := ih (i + 1) K S (by omega) (by omega) h hs hB hk h62 h52
      rw [prO, if_neg e] at q1
      rw [if_neg e, if_pos rfl, h236]
      exact ⟨S', q1, q2⟩
    obtain ⟨S1, r1, r2, r3⟩ := m_rip hC hz h hs
    have r3' : fN goP S S1 := fN_mo r3 (fun b k q => by unfold goP; omega)
    have k1 := mK_f hk r3 (fun b k q => by omega)
    have hy1 : rip C z 0 < 999 := by rw [rip_o hC (by omega)]; omega
    obtain ⟨S2, t1, t2, t3, -, t5, -⟩ := m_yEnds (s := i) (th := 1) hC (rip_ok hC hz) (by omega) hy1 (mC_f h r3' (fun b k q => go_c q)) r2 k1 (by rw [r3.1 0 62 (by first | decide | (dsimp only; omega) | omega)]; exact h62)
    have hg := gv_ok (s := i) (g := sgT C (rip C z)) hC (rip_ok hC hz) hy1
    have h0 : gv C (rip C z) i (sgT C (rip C z)) 0 = z 0 + 1 := by
      show rip C z 0 + 1 = _
      rw [rip_o hC (by omega)]
    have f2 : fN goP S S2 := fN_tr r3' t5
    have k2 : mK S2 kl := by
      unfold kpT at t3
      rw [if_neg (show ¬ S1.1 0 62 = 0 by rw [r3.1 0 62 (by first | decide | (dsimp only; omega) | omega), h62]; exact ne1)] at t3
      exact t3
    obtain ⟨S3, u1, u2, u3⟩ := m_b75 (F := f_X12_both_41 K) (x1 := nI x) (x2 := oB (prO C z i) 0) (x3 := oB (prO C z i) 1) (x4 := oB (prO C z i) 2) (x5 := oB (prO C z i) 3) (x6 := nI i) 26 0 5000 S2 (by decide) (by decide) (fun k hk => absurd hk (Nat.not_lt_zero k))
    have f3 : fN pBo S S3 := fN_tr (fN_mo f2 (fun b k q => Or.inl q)) (fN_mo u3 (fun b k q => Or.inr q.1))
    have g5 : ∀ k, S3.1 56 k = S.1 56 k := fun k => f3.1 56 k (by unfold pBo goP eP; omega)
    have mC3 := mC_f h f3 (fun b k q => by unfold pBo goP eP at q; unfold crM; omega)
    obtain ⟨S4, v1, v2, v3, v4, v5⟩ := m_b105 (x := x) (a := i) (z := z) (kl := kl) hC hg (by rw [h0]; omega) (by omega) (prO_ok hC hz hy i (by omega)) (f_X12_both_41 K) (2 ^ cT C) 0 5000 S3 (by omega) (by omega) mC3 (mZ_f t2 u3 (fun b k q => by omega)) ⟨fun k hk => by rw [u2 k (by omega)]; exact t2.1 k hk, fun w hw => by rw [u2 _ (by omega)]; exact t2.2 w hw⟩ ⟨fun k hk => by rw [g5]; exact hB.1 k hk, fun w hw => by rw [g5]; exact hB.2 w hw⟩ (mK_f k2 u3 (fun b k q => by omega)) (by rw [f3.1 0 62 (by unfold pBo goP eP; omega)]; exact h62) (by rw [f3.1 0 52 (by unfold pBo goP eP; omega)]; exact h52)
    have f4 := fN_tr f3 v5
    obtain ⟨S', q1, q2, q3⟩ := ih (i + 1) K S4 (by omega) (by omega) (mC_f h f4 (fun b k q => by unfold pBo goP eP at q; unfold crM; omega)) v2 v3 v4 (by rw [f4.1 0 62 (by unfold pBo goP eP; omega)]; exact h62) (by rw [f4.1 0 52 (by unfold pBo goP eP; omega)]; exact h52)
    rw [prO, if_pos e] at q1
    refine ⟨S', ?_, q2, fN_tr (fN_mo f4 (fun b k q => Or.inl q)) q3⟩
    rw [if_pos e, if_neg ne1, r1, ob_s, t1, ob_s, show f_X12_both_75 (f_X12_both_41 K) 5000 (nI x) (oB (prO C z i) 0) (oB (prO C z i) 1) (oB (prO C z i) 2) (oB (prO C z i) 3) (nI i) (0 : Int32) S2 = _ from u1]
    exact v1.trans q1

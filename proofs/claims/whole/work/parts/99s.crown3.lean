/-! level 2: alike answers: a new crown, the reference -/
theorem mD_0 {S : Hp} {D : Dr} {tot k : Nat} {v : Int32} (h : mD S D tot) (hk : k ≠ 50) : mD (ho_sI S 0 k v) D tot := by
  obtain ⟨⟨np, nt, nw⟩, R, N, se, lo⟩ := D
  have h' : mE S np nt nw R N se lo tot := h
  obtain ⟨q1, q2, q3, q4, q5, q6, q7, q8, q9, q10⟩ := h'
  show mE (ho_sI S 0 k v) np nt nw R N se lo tot
  have g : ∀ b, 0 < b → (ho_sI S 0 k v).1 b = S.1 b := fun b hb => sI_ne _ (by omega)
  refine ⟨?_, ?_, ?_, ?_, ?_, q6, ?_, mO_f q8 ?_ ?_ (fun j _ => ?_), mO_f q9 ?_ ?_ (fun j _ => ?_), mWs_hi q10 (fun b k q => ?_)⟩
  · rw [g _ (by decide)]; exact q1
  · rw [g _ (by decide), g _ (by decide)]; exact q2
  · rw [g _ (by decide)]; exact q3
  · rw [g _ (by decide)]; exact q4
  · rw [g _ (by decide)]; exact q5
  · rw [sI_k (Ne.symm hk)]; exact q7
  · rw [g _ (by decide)]
  · rw [g _ (by decide)]
  · rw [g _ (by decide)]
  · rw [g _ (by decide)]
  · rw [g _ (by decide)]
  · rw [g _ (by decide)]
  · rw [g _ (by omega)]
theorem mC_j {S S' : Hp} {C : Cr} (c2 : mC S C) (h : ∀ b k, crM b → ¬ cL2 b k → S'.1 b k = S.1 b k) : mC S' C := by
  obtain ⟨⟨a1, a2, a3⟩, ⟨b1, b2, b3⟩, cc, d, e, f1, f2⟩ := c2
  have g : ∀ b k, (b = 41 ∧ 3 ≤ k) ∨ (b = 43 ∧ 3 ≤ k) ∨ (b = 44 ∧ 12 ≤ k) ∨ (b = 45 ∧ 18 ≤ k) ∨ (b = 46 ∧ 10 ≤ k) ∨ (b = 47 ∧ 2 ≤ k) ∨ (b = 48 ∧ 2 ≤ k) ∨ (b = 49 ∧ 2 ≤ k) ∨ (b = 50 ∧ 1600 ≤ k) → S'.1 b k = S.1 b k := fun b k q => h b k (by unfold crM; omega) (by unfold cL2 cK cJ; omega)
  have mf : ∀ w cs, mF S w cs → mF S' w cs := fun w cs hm => hm.elim (fun x => Or.inl (codM_f x (g 48 _ (by omega)) (g 49 _ (by omega)) (fun j => g 50 _ (by omega)))) (fun x => Or.inr ⟨(g 48 _ (by omega)).trans x.1, x.2⟩)
  exact ⟨⟨(g 41 3 (by omega)).trans a1, (g 41 4 (by omega)).trans a2, (g 41 5 (by omega)).trans a3⟩, ⟨(g 43 3 (by omega)).trans b1, (g 43 5 (by omega)).trans b2, (g 47 3 (by omega)).trans b3⟩, fun p hp => (g 44 _ (by omega)).trans (cc p hp), fun t ht => ⟨(g 45 _ (by omega)).trans (d t ht).1, (g 45 _ (by omega)).trans (d t ht).2.1, (g 45 _ (by omega)).trans (d t ht).2.2⟩, fun w hw => (g 46 _ (by omega)).trans (e w hw), mf 0 _ f1, mf 1 _ f2⟩
theorem m_crE {S : Hp} {X : Xv} {cr : Bool} {C : Cr} {N : Nat → Nat → List Nat} {P : Pa} {z : Nat → Nat} {kl : List Nat} {e : Nat × Nat} (a : mA S X cr C N P) (b : mN S C z kl) (he : crT (xT X) = .error e) : ∃ S3, f_X12_crown S = some (-1, ho_sI S3 10 1 (S3.1 10 1 + 1)) ∧ mA S3 (Xe X (nI e.1, nI e.2)) cr C N P ∧ mN S3 C z kl := by
  obtain ⟨-, m2⟩ := m_crownL a.1.1 a.1.2
  obtain ⟨S', r1, r2, r3, r4⟩ := m2 e he
  obtain ⟨⟨b1, b2, b3⟩, b4, b5⟩ := r2
  obtain ⟨M, hM⟩ : ∃ M, M = ho_sI (ho_sI S' 0 7 (nI e.1)) 0 8 (nI e.2) := ⟨_, rfl⟩
  have g : ∀ b k, ¬ cL2 b k → ¬ (b = 0 ∧ (k = 7 ∨ k = 8)) → M.1 b k = S.1 b k := fun b k h1 h2 => by
    rw [hM]
    by_cases e0 : b = 0
    · subst e0
      rw [sI_k (by omega), sI_k (by omega)]
      exact r4.1 0 k h1
    · rw [sI_ne _ e0, sI_ne _ e0]
      exact r4.1 b k h1
  have nl : ∀ b k, (b = 0 ∧ (k = 52 ∨ k = 62 ∨ k = 66 ∨ k = 72 ∨ k = 73 ∨ k = 110)) ∨ b = 10 ∨ b = 55 ∨ b = 68 ∨ b = 72 ∨ b = 110 ∨ (10 < b ∧ b < 40) ∨ (75 < b ∧ b < 100) → M.1 b k = S.1 b k := fun b k q => g b k (by unfold cL2 cK cJ; omega) (by omega)
  have lg : ∀ b k, ¬ (b = 42 ∧ k < 18) → M.2.1 b k = S.2.1 b k := fun b k h1 => by rw [hM]; exact r4.2.1 b k h1
  obtain ⟨⟨⟨t1, t2, t3⟩, tw⟩, fl, rr, ⟨c1, c2, c3⟩, ⟨w, p1, p2, p3, p4⟩, w7, im, sd⟩ := a
  refine ⟨M, ?_, ⟨⟨⟨by show 0 ≤ 1600; omega, ?_, fun i hi => absurd hi (Nat.not_lt_zero i)⟩, mWs_hi tw (fun b k q => nl b k (by omega))⟩, ⟨?_, ?_⟩, fun k hk => by rw [nl 10 k (by omega)]; exact rr k hk, ⟨by rw [nl 0 52 (by omega)]; exact c1, mC_j c2 (fun b k q1 q2 => g b k q2 (by unfold crM at q1; omega)), fun k hk i hi => by rw [lg _ _ (by omega)]; exact c3 k hk i hi⟩, ⟨w, p1, by rw [nl 0 73 (by omega)]; exact p2, by rw [nl 0 72 (by omega)]; exact p3, fun i hi => ?_⟩, ⟨by rw [nl 0 66 (by omega)]; exact w7.1, fun i hi => by rw [nl 68 _ (by omega), nl 68 _ (by omega), nl 68 _ (by omega)]; exact w7.2 i hi⟩, ⟨by rw [nl 0 110 (by omega)]; exact im.1, fun i hi => by rw [nl 110 i (by omega)]; exact im.2 i hi⟩, by rw [lg 0 74 (by omega)]; exact sd⟩, ⟨⟨fun k hk => by rw [nl 55 k (by omega)]; exact b.1.1 k hk, fun w hw => by rw [nl 55 _ (by omega)]; exact b.1.2 w hw⟩, ⟨b.2.1.1, by rw [nl 55 26 (by omega)]; exact b.2.1.2.1, fun j hj => by rw [nl 55 _ (by omega)]; exact b.2.1.2.2 j hj⟩, by rw [nl 0 62 (by omega)]; exact b.2.2⟩⟩
  · rw [r1]
    unfold f_X12_crown_118
    rw [le1_e, b4, sI_k (by decide), b5, le1_e, ← hM, show M.1 0 5 = nI e.1 by rw [hM, sI_k (by decide), sI_k (by decide)]; exact b4, if_neg (nI_ne0 (by omega) (by omega)), ldI_L 1 (by decide) (by decide), stI_L 1 (by decide) (by decide)]
  · show M.1 0 1 = nI 0
    rw [hM, sI_k (by decide), sI_k (by decide)]; exact r3
  · show M.1 0 7 = nI e.1
    rw [hM, sI_k (by decide), sI_v]
  · show M.1 0 8 = nI e.2
    rw [hM, sI_v]
  · obtain ⟨u1, u2, u3, u4, u5⟩ := p4 i hi
    exact ⟨fun k hk => by rw [nl 72 _ (by omega)]; exact u1 k hk, fun k hk => by rw [nl 72 _ (by omega)]; exact u2 k hk, u3, by rw [nl 72 _ (by omega)]; exact u4, fun j hj => by rw [nl 72 _ (by omega)]; exact u5 j hj⟩
theorem m_crO {S : Hp} {X : Xv} {cr : Bool} {n1 : Nat} {C : Cr} {N : Nat → Nat → List Nat} {P : Pa} {z : Nat → Nat} {kl : List Nat} {D : Dr} (a : mA S X cr C N P) (b : mN S C z kl) (he : crT (xT X) = .ok (D, n1)) : ∃ S', f_X12_crown S = some (nI n1, S') ∧ mA S' (Xn X) true (crO D) D.2.2.1 [] ∧ mN S' (crO D) (z0 D) [] := by
  obtain ⟨m2, -⟩ := m_crownL a.1.1 a.1.2
  obtain ⟨S', tot, r1, b4, b5, b51, md, ht, od, r3, r4⟩ := m2 D n1 he
  obtain ⟨M, hM⟩ : ∃ M, M = ho_sI (ho_sI S' 0 7 0) 0 8 (-1 : Int32) := ⟨_, rfl⟩
  have mdM : mD M D tot := by rw [hM]; exact mD_0 (mD_0 md (by decide)) (by decide)
  obtain ⟨F, s1, s2, s3, s4, s5, s6, s7, s8, s9⟩ := m_stands mdM ht od
  have g : ∀ b k, ¬ cL2 b k → ¬ (b = 0 ∧ (k = 7 ∨ k = 8 ∨ k = 52 ∨ k = 66 ∨ k = 72)) → ¬ crM b → b ≠ 55 → F.1 b k = S.1 b k := fun b k h1 h2 h3 h4 => by
    rw [s9.1 b k (by omega) h3 h4, hM]
    by_cases e0 : b = 0
    · subst e0
      rw [sI_k (by omega), sI_k (by omega)]
      exact r4.1 0 k h1
    · rw [sI_ne _ e0, sI_ne _ e0]
      exact r4.1 b k h1
  have nl : ∀ b k, (b = 0 ∧ (k = 62 ∨ k = 73 ∨ k = 110)) ∨ b = 10 ∨ b = 110 ∨ (10 < b ∧ b < 40) ∨ (75 < b ∧ b < 100) → F.1 b k = S.1 b k := fun b k q => g b k (by unfold cL2 cK cJ; omega) (by omega) (by unfold crM; omega) (by omega)
  obtain ⟨⟨⟨t1, t2, t3⟩, tw⟩, fl, rr, ⟨c1, c2, c3⟩, ⟨w, p1, p2, p3, p4⟩, w7, im, sd⟩ := a
  have f0 : ∀ k, k ≠ 52 → k ≠ 66 → k ≠ 72 → F.1 0 k = M.1 0 k := fun k h1 h2 h3 => s9.1 0 k (by omega) (by unfold crM; omega) (by decide)
  refine ⟨F, ?_, ⟨⟨⟨by show 0 ≤ 1600; omega, ?_, fun i hi => absurd hi (Nat.not_lt_zero i)⟩, mWs_hi tw (fun b k q => nl b k (by omega))⟩, ⟨?_, ?_⟩, fun k hk => by rw [nl 10 k (by omega)]; exact rr k hk, ⟨by rw [if_pos rfl]; exact s6, s2, s3⟩, ⟨w, p1, by rw [nl 0 73 (by omega)]; exact p2, s7, fun i hi => absurd hi (Nat.not_lt_zero i)⟩, ⟨s8, fun i hi => absurd hi (Nat.not_lt_zero i)⟩, ⟨by rw [nl 0 110 (by omega)]; exact im.1, fun i hi => by rw [nl 110 i (by omega)]; exact im.2 i hi⟩, ?_⟩, s4, s5, by rw [nl 0 62 (by omega)]; exact b.2.2⟩
  · rw [r1]
    unfold f_X12_crown_118
    rw [le1_e, b4, sI_k (by decide), b5, le1_e, ← hM, show M.1 0 5 = 0 by rw [hM, sI_k (by decide), sI_k (by decide)]; exact b4, if_pos rfl, s1, ob_s, f0 51 (by decide) (by decide) (by decide), hM, sI_k (by decide), sI_k (by decide), b51]
  · show F.1 0 1 = nI 0
    rw [f0 1 (by decide) (by decide) (by decide), hM, sI_k (by decide), sI_k (by decide)]; exact r3
  · show F.1 0 7 = 0
    rw [f0 7 (by decide) (by decide) (by decide), hM, sI_k (by decide), sI_v]
  · show F.1 0 8 = -1
    rw [f0 8 (by decide) (by decide) (by decide), hM, sI_v]
  · rw [s9.2.1 0 74 (by decide), hM]
    show S'.2.1 0 74 = _
    rw [r4.2.1 0 74 (by omega)]; exact sd
theorem s_2 : sim_2 Sim := by
  intro SH SM h
  obtain ⟨X, cr, c, C, N, P, z, kl, ok, a, b, d, e, f⟩ := h
  obtain ⟨ok0, ok1, ok2, ok3, ok4, ok5, ok6⟩ := ok
  cases hcr : crT (xT X) with
  | error er =>
    obtain ⟨S3, r1, r2, r3, r4⟩ := h_crE a b d hcr
    obtain ⟨M3, q1, q2, q3⟩ := m_crE e f hcr
    rw [r1, q1]
    exact ⟨_, _, _, rfl, rfl, sim_ref (by decide) ⟨Xe X (nI er.1, nI er.2), cr, c, C, N, P, z, kl, ⟨ok0, ok1, ok2, ok3, ok4, ok5, ok6⟩, r2, r3, r4, q2, q3⟩⟩
  | ok p =>
    obtain ⟨D, n1⟩ := p
    obtain ⟨od, S', r1, r2, r3, r4, r5⟩ := h_crO a hcr
    obtain ⟨M', q1, q2, q3⟩ := m_crO e f hcr
    rw [r1, q1]
    refine ⟨_, _, _, rfl, rfl, Xn X, true, 250 - c, crO D, D.2.2.1, [], z0 D, [], ⟨⟨crO_ok od, z0_ok od⟩, ⟨by show 0 ≤ 20; omega, fun p hp => absurd hp (List.not_mem_nil)⟩, ⟨by show 0 ≤ 16; omega, fun p hp => absurd hp (List.not_mem_nil)⟩, ok3, ok4, ?_, fun q => absurd q (by decide)⟩, r2, r3, ⟨Or.inl r4, Or.inl r5⟩, q2, q3⟩
    exact od.2.2.2.2.2.1

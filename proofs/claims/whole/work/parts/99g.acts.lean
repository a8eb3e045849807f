/-! level 2: alike answers: undo, show, sit, move -/
theorem sim_act {SH SM : Hp} {X : Xv} {cr : Bool} {c : Nat} {C : Cr} {N : Nat → Nat → List Nat} {P : Pa} {z : Nat → Nat} {kl : List Nat} (ok : okX X cr C N P z) (a : hA SH X cr c C N P) (b : hN SH C z kl) (h1 : SH.1 60 14 = -1) (h2 : SH.1 60 15 = 0) (e : mA SM X cr C N P) (f : mN SM C z kl) : Sim SH SM := ⟨X, cr, c, C, N, P, z, kl, ok, a, b, ⟨Or.inl h1, Or.inl h2⟩, e, f⟩
theorem m_u21 {w : Nat} (hw : w < 20) : ∀ (d i K : Nat) (S : Hp), i + d = 117 → d < K → S.1 0 73 = nI w → ∃ S', f_X12_undo_21 K (nI i) S = some (1, ho_sI (ho_sI S' 0 73 (nI ((w + 19) % 20))) 0 72 (S.1 0 72 - 1)) ∧ (∀ k, i ≤ k → k < 117 → S'.1 55 k = S.1 72 (117 * w + k)) ∧ fN (fun b k => b = 55 ∧ i ≤ k ∧ k < 117) S S' := by
  intro d
  induction d with
  | zero =>
    intro i K S hi hK h
    obtain ⟨K, rfl⟩ : ∃ q, K = q + 1 := ⟨K - 1, by omega⟩
    refine ⟨S, ?_, fun k h1 h2 => absurd h2 (by omega), fN_rf _ S⟩
    rw [f_X12_undo_21, if_pos ((geL 117 (by omega) (by decide)).mpr (by omega)), h, lit_nI 20, nI_add, lit_nI 1, pk_sub (by omega), pk_rem (by omega) (by decide) (by decide), le1_e, le1_e, sI_k (by decide), show w + 20 - 1 = w + 19 by omega]
  | succ d ih =>
    intro i K S hi hK h
    obtain ⟨K, rfl⟩ : ∃ q, K = q + 1 := ⟨K - 1, by omega⟩
    obtain ⟨S', a1, a2, a3⟩ := ih (i + 1) K (ho_sI S 55 i (S.1 72 (117 * w + i))) (by omega) (by omega) (by rw [sI_ne _ (by decide)]; exact h)
    refine ⟨S', ?_, fun k h1 h2 => ?_, fN_tr (fN_sI S (by omega)) (fN_mo a3 (fun b k q => by omega))⟩
    · rw [f_X12_undo_21, if_neg (fun q => absurd ((geL 117 (by omega) (by decide)).mp q) (by omega)), h, lit_nI 117, pk_mul, nI_add, ldI_n (by omega) (by decide), stI_n (by omega) (by decide), le1_e, nI_1, a1, sI_ne _ (by decide)]
    · by_cases e : k = i
      · subst e
        rw [a3.1 _ _ (by first | decide | (dsimp only; omega) | omega), sI_v]
      · exact (a2 k (by omega) h2).trans (by rw [sI_ne _ (by decide)])
theorem s_27 : sim_27 Sim := by
  intro SH SM h
  have h' := h
  obtain ⟨X, cr, c, C, N, P, z, kl, ok, a, b, d, e, f⟩ := h'
  have ok' := ok
  obtain ⟨⟨hC, hz⟩, ⟨hP, hPz⟩, ok2⟩ := ok'
  obtain ⟨fp, p1, p2, p3, p4⟩ := a.2.2.2.2.1
  obtain ⟨w, w1, w2, w3, w4⟩ := e.2.2.2.2.1
  have hnw := hC.1.2.2
  unfold f_X11_undo f_X12_undo
  rw [p3, w3]
  by_cases e0 : P.length = 0
  · rw [if_pos (show nI P.length = 0 by rw [e0]; rfl), if_pos (show nI P.length = 0 by rw [e0]; rfl), show f_X11_refuses (4 : Int32) SH = _ from h_refuses (j := 4) (by decide), ob2_s, ldI_L 4 (by decide) (by decide), stI_L 4 (by decide) (by decide)]
    exact ⟨_, _, _, tr0, rfl, sim_ref (by decide) h⟩
  · rw [if_neg (nI_ne0 (by omega) (by omega)), if_neg (nI_ne0 (by omega) (by omega))]
    have hl : P.length - 1 < P.length := by omega
    obtain ⟨u1, u2⟩ := p4 (P.length - 1) hl
    have hm : (fp + (P.length - 1)) % 20 < 20 := Nat.mod_lt _ (by decide)
    have hpm := pstM hm
    obtain ⟨S1, hS1⟩ : ∃ S1, S1 = ho_sI SH 0 15 (nI (P.length - 1)) := ⟨_, rfl⟩
    have f1 : fH (fun b => b = 0) SH S1 := by rw [hS1]; exact fH_sI SH rfl (by decide)
    have s1200 : 1200 ∈ yH.1 ∧ yH.2.1 1200 = (1, 9) := ⟨memH (by decide) (by decide), rfl⟩
    obtain ⟨S2, r1, r2, r3, r4⟩ := h_copy s1200 (show 1200 ≠ 1000 + 10 * ((fp + (P.length - 1)) % 20) by omega) (stH_f u1 f1 (fun b q x => by omega)) (kpH_f u2 f1 (by first | decide | (dsimp only; omega) | omega) (by first | decide | (dsimp only; omega) | omega)) hnw
    have v14 : S1.1 0 14 = nI fp := by rw [hS1, sI_k (by decide)]; exact p2
    have v15 : S1.1 0 15 = nI (P.length - 1) := by rw [hS1, sI_v]
    rw [lit_nI 1, pk_sub (by omega), le1_e, ← hS1, v14, v15, nI_add, lit_nI 20, pk_rem (by omega) (by decide) (by decide), ldR_n (p := 1000 + 10 * ((fp + (P.length - 1)) % 20)) hm (by decide) rfl hpm, r1, ob_s, h_forget, ob_s]
    obtain ⟨M1, t1, t2, t3⟩ := m_u21 w1 117 0 5000 SM (by decide) (by decide) w2
    rw [w3, lit_nI 1, pk_sub (by omega)] at t1
    rw [show f_X12_undo_21 5000 (0 : Int32) SM = _ from t1]
    obtain ⟨S3, hS3⟩ : ∃ S3, S3 = ho_sI (ho_sI S2 60 14 (-1)) 60 15 0 := ⟨_, rfl⟩
    obtain ⟨M2, hM2⟩ : ∃ M2, M2 = ho_sI (ho_sI M1 0 73 (nI ((w + 19) % 20))) 0 72 (nI (P.length - 1)) := ⟨_, rfl⟩
    rw [← hS3, ← hM2]
    have f3 : fH (fun b => b = 60) S2 S3 := by rw [hS3]; exact fH_tr (fH_sI S2 rfl (by decide)) (fH_sI _ rfl (by decide))
    have gS : ∀ b, b ≠ 0 → ¬ (1200 ≤ b ∧ b ≤ 1205) → b ≠ 60 → S3.1 b = SH.1 b := fun b h1 h2 h3 => by rw [f3.1 b (by first | decide | (dsimp only; omega) | omega), r4.1 b (by first | decide | (dsimp only; omega) | omega), f1.1 b (by first | decide | (dsimp only; omega) | omega)]
    have g0 : ∀ k, S3.1 0 k = S1.1 0 k := fun k => by rw [f3.1 0 (by first | decide | (dsimp only; omega) | omega), r4.1 0 (by first | decide | (dsimp only; omega) | omega)]
    have fM : fN (fun b k => b = 55 ∨ (b = 0 ∧ (k = 72 ∨ k = 73))) SM M2 := by rw [hM2]; exact fN_tr (fN_mo t3 (fun b k q => Or.inl q.1)) (fN_tr (fN_sI M1 (by omega)) (fN_sI _ (by omega)))
    have em : P.dropLast.length = P.length - 1 := List.length_dropLast
    have hA3 : hA S3 X cr c C N P.dropLast := by
      have hcc := a.2.2.2.1.2.1.2.2.2
      obtain ⟨⟨t1, t2, t3, t4⟩, ⟨f1', f2'⟩, r, ⟨c1, c2, c3, c4, c5⟩, -, ⟨x1, x2⟩, ⟨i1, i2⟩, s, g1, g2⟩ := a
      have fT : fH (fun b => b = 0 ∨ (1200 ≤ b ∧ b ≤ 1205) ∨ b = 60) SH S3 := fH_tr (fH_mo f1 (fun b q => Or.inl q)) (fH_tr (fH_mo r4 (fun b q => Or.inr (Or.inl q))) (fH_mo f3 (fun b q => Or.inr (Or.inr q))))
      have g := fun b h1 h2 h3 => gS b h1 h2 h3
      refine ⟨⟨t1, by rw [g 10 (by decide) (by decide) (by decide)]; exact t2, by rw [g 11 (by decide) (by decide) (by decide)]; exact t3, by rw [g 12 (by decide) (by decide) (by decide)]; exact t4⟩, by rw [g 10 (by decide) (by decide) (by decide)]; exact ⟨f1', f2'⟩, by rw [g 1 (by decide) (by decide) (by decide)]; exact r, ⟨by rw [g0, hS1, sI_k (by decide)]; exact c1, by rw [fT.2.1]; exact c2, by rw [g (c + 1) (by omega) (by omega) (by omega)]; exact c3, fun x => cH_f (c4 x) fT (fun b q x => by unfold crC at x; omega), fun k hk i hi => by rw [g (c + 3 + k) (by omega) (by omega) (by omega)]; exact c5 k hk i hi⟩, ⟨fp, p1, by rw [g0]; exact v14, by rw [g0, v15, em], fun i hi => ?_⟩, ⟨by rw [g 70 (by decide) (by decide) (by decide)]; exact x1, by rw [g 71 (by decide) (by decide) (by decide), g 72 (by decide) (by decide) (by decide)]; exact x2⟩, ⟨by rw [g 90 (by decide) (by decide) (by decide)]; exact i1, by rw [g 91 (by decide) (by decide) (by decide)]; exact i2⟩, by rw [g0, hS1, sI_k (by decide)]; exact s, fT.2.2 g1, fun j hj => by rw [g 33 (by decide) (by decide) (by decide)]; exact g2 j hj⟩
      obtain ⟨y1, y2⟩ := p4 i (by omega)
      have hmi : (fp + i) % 20 < 20 := Nat.mod_lt _ (by decide)
      rw [List.getElem_dropLast]
      exact ⟨stH_f y1 fT (fun b q x => by omega), kpH_f y2 fT (by first | decide | (dsimp only; omega) | omega) (by first | decide | (dsimp only; omega) | omega)⟩
    have row := w4 (P.length - 1) hl
    rw [show w + 20 - (P.length - 1 - (P.length - 1)) = w + 20 by omega, show (w + 20) % 20 = w by omega] at row
    obtain ⟨y1, y2, ⟨n, n1, n2⟩, y4, y5⟩ := row
    have e5 : ∀ k, k < 117 → M2.1 55 k = SM.1 72 (117 * w + k) := fun k hk => by rw [hM2, sI_ne _ (by decide), sI_ne _ (by decide), t2 k (by omega) hk]
    refine ⟨_, S3, M2, rfl, rfl, sim_act (P := P.dropLast) (z := P[P.length - 1].1) (kl := P[P.length - 1].2) ⟨⟨hC, hPz _ (List.getElem_mem hl)⟩, ⟨by omega, fun p hp => hPz p ((List.dropLast_sublist P).subset hp)⟩, ok2⟩ hA3 ⟨stH_f r2 f3 (fun b q x => by omega), kpH_f r3 f3 (by first | decide | (dsimp only; omega) | omega) (by first | decide | (dsimp only; omega) | omega)⟩ (by rw [hS3, sI_k (by decide), sI_v]) (by rw [hS3, sI_v]) (mA_p e (fun b k h1 h2 h3 => fM.1 b k (by first | decide | (dsimp only; omega) | omega)) fM.2.1 ⟨(w + 19) % 20, Nat.mod_lt _ (by decide), by rw [hM2, sI_k (by decide), sI_v], by rw [hM2, sI_v, em], fun i hi => ?_⟩) ⟨⟨fun k hk => by rw [e5 k (by omega)]; exact y1 k hk, fun k hk => by rw [e5 _ (by omega)]; exact y2 k hk⟩, ⟨⟨n, n1, n2⟩, by rw [e5 26 (by decide)]; exact y4, fun j hj => by rw [e5 _ (by omega)]; exact y5 j hj⟩, by rw [fM.1 0 62 (by first | decide | (dsimp only; omega) | omega)]; exact f.2.2⟩⟩
    have hr := w4 i (by omega)
    rw [List.getElem_dropLast, show ((w + 19) % 20 + 20 - (P.dropLast.length - 1 - i)) % 20 = (w + 20 - (P.length - 1 - i)) % 20 by omega]
    exact mRow_f hC hr (fun k _ _ => fM.1 72 k (by first | decide | (dsimp only; omega) | omega))
theorem m_ahd {S : Hp} {n lo hi y : Nat} (hcr : S.1 0 52 = 1) (hy : S.1 55 0 = nI y) (hy9 : y ≤ 999) (hlo : lo < 1000) (hhi : hi < 1000) (hn : n < 2 ^ 30) : f_X12_isAhead (nI n) (nI lo) (nI hi) S = some (if lo ≤ n ∧ n ≤ hi ∧ y + n ≤ 999 then 1 else 0, S) := by
  unfold f_X12_isAhead
  rw [hcr, if_neg ne1, m_isInI, ob2_s]
  by_cases e : lo ≤ n ∧ n ≤ hi
  · rw [if_pos (show nI lo ≤ nI n ∧ nI n ≤ nI hi from ⟨nI_le e.1 (by omega), nI_le e.2 (by omega)⟩), if_neg ne1, ldI_L 0 (by decide) (by decide), hy, nI_add]
    by_cases e2 : y + n ≤ 999
    · rw [if_neg (fun q => absurd ((gtL 999 (by omega) (by decide)).mp q) (by omega)), if_pos ⟨e.1, e.2, e2⟩]
    · rw [if_pos ((gtL 999 (by omega) (by decide)).mpr (by omega)), if_neg (fun q => e2 q.2.2)]
  · rw [if_neg (show ¬ (nI lo ≤ nI n ∧ nI n ≤ nI hi) from fun q => e ⟨(nI_leI (by omega) (by omega)).mp q.1, (nI_leI (by omega) (by omega)).mp q.2⟩), if_pos rfl, if_neg (fun q => e ⟨q.1, q.2.1⟩)]
/-- a number that is too small or too large to be among those -/
theorem m_ahdN {S : Hp} {x : Int32} {lo hi : Nat} (hcr : S.1 0 52 = 1) (hlo : lo < 1000) (hhi : hi < 1000) (hx : x < 0 ∨ nI (hi + 1) ≤ x) : f_X12_isAhead x (nI lo) (nI hi) S = some (0, S) := by
  have hno : ¬ (nI lo ≤ x ∧ x ≤ nI hi) := by
    intro q
    rcases hx with h | h
    · exact absurd (Int32.lt_of_le_of_lt q.1 h) (nI_pos (by omega))
    · exact nI_ge (show hi < hi + 1 by omega) (by omega) (Int32.le_trans h q.2)
  unfold f_X12_isAhead
  rw [hcr, if_neg ne1, m_isInI, ob2_s, if_neg hno, if_pos rfl]
theorem shw_rip {C : Cr} {z : Nat → Nat} (hC : okCr C) : shw C (rip C z) = shw C z := by
  unfold shw
  rw [rip_o hC (by omega)]
  by_cases e : z 2 = 0
  · rw [if_pos e, if_pos e]
  · rw [if_neg e, if_neg e]
    exact setNat_c _ (fun i hi => by rw [rip_o hC (by omega)])
theorem m_ahd0 {S : Hp} {x y u : Int32} (hcr : S.1 0 52 = 0) : f_X12_isAhead x y u S = some (0, S) := by
  unfold f_X12_isAhead
  rw [hcr, if_pos rfl]
theorem s_22 : sim_22 Sim := by
  intro x SH SM h
  have h' := h
  obtain ⟨X, cr, c, C, N, P, z, kl, ok, a, b, d, e, f⟩ := h'
  have ok' := ok
  obtain ⟨⟨hC, hz⟩, ⟨hP, hPz⟩, ok2⟩ := ok'
  obtain ⟨c1, ⟨c2, c3, c4, c5⟩, ⟨c6, c7, c8⟩, c9, c10⟩ := a.2.2.2.1
  obtain ⟨m1, mc, mn⟩ := e.2.2.2.1
  have hrH : f_X11_show_21 SH = some (-1, ho_sI SH 1 2 (SH.1 1 2 + 1)) := by
    unfold f_X11_show_21
    rw [show f_X11_refuse (2 : Int32) SH = _ from h_refuse (j := 2) (by decide), ob2_s]
  have hrM : f_X12_show_18 SM = some (-1, ho_sI SM 10 2 (SM.1 10 2 + 1)) := by
    unfold f_X12_show_18
    rw [show f_X12_refuses (2 : Int32) SM = _ from m_ref (k := 2) (by decide), ob2_s]
  have hr := sim_ref (j := 2) (by decide) h
  unfold f_X11_show f_X12_show
  cases cr with
  | false =>
    have e1 : f_X11_canGive x SH = some (0, SH) := by
      unfold f_X11_canGive
      rw [c1]
      rfl
    rw [e1, ob2_s, if_pos rfl, m_ahd0 m1, ob2_s, if_pos rfl, hrH, hrM]
    exact ⟨_, _, _, rfl, rfl, hr⟩
  | true =>
    rw [if_pos rfl] at c1 m1
    have ch := c9 rfl
    have hz1 := rip_ok hC hz
    have y9 := hz.1
    have eah : f_X12_isAhead (1 : Int32) (1 : Int32) (1 : Int32) SM = _ := m_ahd (n := 1) (lo := 1) (hi := 1) m1 (f.1.1 0 (by decide)) y9 (by decide) (by decide) (by decide)
    rw [eah, ob2_s]
    by_cases hx : x < 0
    · have e1 : f_X11_canGive x SH = some (0, SH) := by
        unfold f_X11_canGive
        rw [c1, if_neg ne1, if_pos hx]
      rw [e1, ob2_s, if_pos rfl, m_canN hC mc hx, ob2_s, if_pos rfl, hrH, hrM]
      refine ⟨_, _, _, rfl, ?_, hr⟩
      split <;> rfl
    · obtain ⟨s, hs, rfl⟩ := nI_of hx
      rw [h_can hC hz ch b.1 c1 hs, ob2_s, m_can hC hz mc f.1 (by rw [m1]; exact ne1) hs, ob2_s, b.1.2.1.1, hrH, hrM]
      by_cases e1 : s &&& shw C z = s
      · rw [if_pos e1, if_neg ne1, if_neg ne1]
        by_cases ey : z 0 < 999
        · rw [if_pos ((ltL 999 (by omega) (by decide)).mpr ey), if_pos (show 1 ≤ 1 ∧ 1 ≤ 1 ∧ z 0 + 1 ≤ 999 by omega), if_neg ne1]
          have s64 := sub_64 hC e1
          obtain ⟨S1, r1, r2, r3, r4, r5, r6⟩ := h_rem hC hP a b
          have ch1 := r2.2.2.2.1.2.2.2.1 rfl
          have hcc := cH_c ch1
          obtain ⟨S2, q1, q2, q3, q4⟩ := h_rip hC hz ch1 r3.1
          have ch2 : cH S2 c C := cH_f ch1 q3 (fun b q => by unfold crC; omega)
          have k2 : kpH S2 1200 kl := by
            obtain ⟨k0, k1, k2⟩ := r3.2
            exact ⟨k0, by rw [q4]; exact k1, by rw [q3.1 1205 (by first | decide | (dsimp only; omega) | omega)]; exact k2⟩
          obtain ⟨S3, t1, t2, t3⟩ := h_look hC hz1 ch2 q2
          have ch3 := cH_l ch2 t3
          have k3 : kpH S3 1200 kl := kpH_f k2 t3 (by unfold scL scE; omega) (by unfold scL scE; omega)
          obtain ⟨S4, u1, u2, u3, u4⟩ := h_give (w3 := 51) (s := s) (g := sr C (rip C z) (shw C (rip C z))) (kl := kl) hC hz1 s64 (by rw [rip_o hC (by omega)]; exact ey) ⟨by decide, by decide, by decide, by decide⟩ (fun t _ => by
            unfold sr
            have := sgT_le (z := rip C z) hC t
            split <;> omega) ch3 (stH_l ch2 q2 t3) k3 (fun t ht _ => t2 t ht)
          obtain ⟨g1, g2⟩ := gv_c (C := C) (z := rip C z) (sr_sg (C := C) (z := rip C z) (s := s) (m := shw C (rip C z)) (by rw [shw_rip hC]; exact e1))
          rw [g1] at u2
          rw [g2] at u3
          obtain ⟨M1, v1, v2, v3, v4⟩ := m_keeps hC hP e f
          have mc1 := v2.2.2.2.1.2.1
          obtain ⟨M2, x1, x2, x3⟩ := m_rip hC hz mc1 v3.1
          have mc2 : mC M2 C := mC_f mc1 x3 (fun b k q => by unfold crM; omega)
          have mk2 : mK M2 kl := mK_f v3.2.1 x3 (fun b k q => by omega)
          have th2 : M2.1 0 62 = nI 0 := by rw [x3.1 0 62 (by first | decide | (dsimp only; omega) | omega)]; exact v3.2.2
          obtain ⟨M3, y1, y2, y3, y4, y5, y6⟩ := m_yEnds (s := s) (th := 0) hC hz1 s64 (by rw [rip_o hC (by omega)]; exact ey) mc2 x2 mk2 th2
          rw [r1, ob_s, q1, ob_s, t1, ob_s, u1, ob2_s, v1, ob_s, x1, ob_s, y1, ob_s, y4]
          have fT : fH (fun b => scS c b ∨ (1200 ≤ b ∧ b ≤ 1205)) S1 S4 := fH_tr (fH_mo q3 (fun b q => Or.inr (by omega))) (fH_tr (fH_mo t3 (fun b q => Or.inl (by unfold scL scE at q; unfold scS scE; omega))) (fH_mo u4 (fun b q => q)))
          have hzN := gv_ok (s := s) (g := sgT C (rip C z)) hC hz1 (by rw [rip_o hC (by omega)]; exact ey)
          refine ⟨_, S4, M3, rfl, rfl, sim_act (z := gv C (rip C z) s (sgT C (rip C z))) (kl := gvK C (rip C z) s (sgT C (rip C z)) kl) ⟨⟨hC, hzN⟩, Pp_ok ⟨hP, hPz⟩ hz, ok2⟩ (hA_f r2 fT (fun b q x => ?_) ?_) ⟨u2, u3⟩ ?_ ?_ (mA_f v2 (fN_tr (fN_mo x3 (fun b k q => by unfold goP; omega)) y5) (fun b k q => ?_)) ⟨y2, ?_, ?_⟩⟩
          · unfold scS scE at x; unfold hCl crC at q; omega
          · rw [fT.1 70 (by unfold scS scE; omega)]
          · rw [fT.1 60 (by unfold scS scE; omega)]; exact r4
          · rw [fT.1 60 (by unfold scS scE; omega)]; exact r5
          · unfold goP eP at q; unfold sM; omega
          · unfold kpT at y3
            rw [th2, if_pos (show nI 0 = 0 from rfl)] at y3
            exact y3
          · rw [y5.1 0 62 (by unfold goP eP; omega)]; exact th2
        · rw [if_neg (fun q => ey ((ltL 999 (by omega) (by decide)).mp q)), if_neg (show ¬ (1 ≤ 1 ∧ 1 ≤ 1 ∧ z 0 + 1 ≤ 999) by omega), if_pos rfl]
          exact ⟨_, _, _, rfl, rfl, hr⟩
      · rw [if_neg e1, if_pos rfl, if_pos rfl]
        refine ⟨_, _, _, rfl, ?_, hr⟩
        split <;> rfl

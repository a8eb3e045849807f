/-! level 2: alike answers: on -/
theorem s_32 : sim_32 Sim := by
  intro SH SM h
  obtain ⟨X, cr, c, C, N, P, z, kl, ok, a, b, d, e, f⟩ := h
  have ok' := ok
  obtain ⟨⟨hC, hz⟩, ok1, ok2, ok3, ok4⟩ := ok'
  obtain ⟨c1, ⟨c2, c3, c4, c5⟩, ⟨c6, c7, c8⟩, c9, c10⟩ := a.2.2.2.1
  obtain ⟨m1, mc, mn⟩ := e.2.2.2.1
  have t := a.1
  obtain ⟨M0, hM0⟩ : ∃ M0, M0 = ho_sI SM 0 1 (nI 0) := ⟨_, rfl⟩
  have gm : ∀ b k, ¬ (b = 0 ∧ k = 1) → M0.1 b k = SM.1 b k := fun b k q => by
    rw [hM0]
    by_cases e0 : b = 0
    · subst e0; rw [sI_k (fun x => q ⟨rfl, x⟩)]
    · rw [sI_ne _ e0]
  have bt0 : bT M0 (xT X) := ⟨e.1.1.1, fun i hi => by rw [gm 1 i (by omega)]; exact e.1.1.2.2 i hi⟩
  have f0 : fN (fun b k => b = 0 ∧ k = 1) SM M0 := by rw [hM0]; exact fN_sI SM ⟨rfl, rfl⟩
  have mc0 : mC M0 C := mC_f mc f0 (fun b k q => by unfold crM; omega)
  have eM : f_X12_on SM = ob2 (f_X12_isImage (nI (xT X).2) M0) (fun r3 S3 => if r3 = 0 then ldI S3 10 6 (5 : Int32) (fun v11 => stI S3 10 6 (5 : Int32) (v11 + (1 : Int32)) (fun S12 => some ((0 : Int32), S12))) else ob2 (f_X12_twoAt (0 : Int32) S3) (fun r4 S4 => stI S4 55 117 (0 : Int32) r4 (fun S5 => ldI S5 1 1600 (2 : Int32) (fun v6 => ob2 (f_X12_twoAt (3 : Int32) S5) (fun r7 S7 => stI S7 55 117 (1 : Int32) (((65536 : Int32) * v6) + r7) (fun S8 => ldI S8 1 1600 (5 : Int32) (fun v9 => stI S8 55 117 (2 : Int32) v9 (fun S10 => f_X12_on_80 5000 (6 : Int32) (0 : Int32) S10)))))))) := by
    unfold f_X12_on
    rw [e.1.1.2.1, le1_e, le1_e, hM0]; rfl
  have rM : ldI M0 10 6 (5 : Int32) (fun v11 => stI M0 10 6 (5 : Int32) (v11 + (1 : Int32)) (fun S12 => some ((0 : Int32), S12))) = some ((0 : Int32), ho_sI M0 10 5 (M0.1 10 5 + 1)) := by rw [ldI_L 5 (by decide) (by decide), stI_L 5 (by decide) (by decide)]
  have rH : ∀ S, f_X11_on_29 S = some ((0 : Int32), ho_sI (ho_sI S 10 1 (nI 0)) 1 5 ((ho_sI S 10 1 (nI 0)).1 1 5 + 1)) := fun S => by
    unfold f_X11_on_29 f_X11_on_30
    rw [if_pos rfl]
    unfold f_X11_on_58
    rw [le1_e, if_pos rfl, show f_X11_refuses (5 : Int32) (ho_sI S 10 1 (0 : Int32)) = _ from h_refuses (j := 5) (by decide), ob2_s, if_pos rfl]; rfl
  cases cr with
  | false =>
    have e0 : f_X12_isImage (nI (xT X).2) M0 = some (0, M0) := by
      unfold f_X12_isImage
      rw [f_X12_provinceMany, ldI_L 3 (by decide) (by decide), ob2_s, le1_e, f_X12_trickMany, ldI_L 4 (by decide) (by decide), ob2_s, le1_e, gm 0 52 (by omega), if_pos (show SM.1 0 52 = 0 from m1)]
    have eH : f_X11_on SH = f_X11_on_29 SH := by unfold f_X11_on; rw [if_pos (show SH.1 0 13 = 0 from c1)]
    rw [eM, e0, ob2_s, if_pos rfl, rM, eH, rH, hM0]
    exact ⟨_, _, _, rfl, rfl, sim_ref (by decide) (sim_tape (n := 0) ok a b d e f (Nat.zero_le _))⟩
  | true =>
    rw [if_pos rfl] at c1 m1
    obtain ⟨S1, r1, r2⟩ := h_rdb hC t c5 c6 c7 c8
    have e0 := m_isI (T := xT X) hC bt0 mc0 (by rw [gm 0 52 (by omega)]; exact m1)
    have f1 : fH (fun b => b = 90) SH S1 := by
      rcases r2 with rfl | ⟨v, rfl⟩
      · exact fH_rf _ _
      · exact fH_sI SH rfl (by decide)
    have k1 : ∀ k, k ≠ 2 → S1.1 90 k = SH.1 90 k := fun k hk => by
      rcases r2 with rfl | ⟨v, rfl⟩
      · rfl
      · rw [sI_k hk]
    have hcc := c5
    have a1 : hA S1 X true c C N P := by
      have a' := a
      obtain ⟨⟨u1, u2, u3, u4⟩, fl, rr, -, -, w, im, sd, -, -⟩ := a'
      exact hA_x (Q := fun b => b = 90) a f1 (fun b q => by unfold crC at q; omega) (fun k hk => by rw [f1.1 0 (by decide)]) ⟨u1, by rw [f1.1 10 (by decide)]; exact u2, by rw [f1.1 11 (by decide)]; exact u3, by rw [f1.1 12 (by decide)]; exact u4⟩ (by rw [f1.1 10 (by decide)]; exact fl) (by rw [f1.1 1 (by decide)]; exact rr) ⟨by rw [f1.1 70 (by decide)]; exact w.1, by rw [f1.1 71 (by decide), f1.1 72 (by decide)]; exact w.2⟩ ⟨by rw [k1 1 (by decide)]; exact im.1, by rw [f1.1 91 (by decide)]; exact im.2⟩ (by rw [f1.1 0 (by decide)]; exact sd)
    have b1 := hN_f b f1 (fun b q => by omega)
    have d1 := h10_f d f1 (fun b q => by omega)
    have eH : f_X11_on SH = if fl (imO C (xT X)) = 0 then f_X11_on_29 S1 else f_X11_on_30 (1 : Int32) S1 := by
      unfold f_X11_on
      rw [c1, if_neg ne1, ldP_n c2 (crH c5), r1, ob2_s]
    rw [eM, e0, ob2_s, eH]
    by_cases ei : imO C (xT X) = true
    rotate_left
    · rw [Bool.eq_false_iff.mpr ei, if_pos (show fl false = 0 by decide), if_pos (show fl false = 0 by decide), rM, rH, hM0]
      exact ⟨_, _, _, rfl, rfl, sim_ref (by decide) (sim_tape (n := 0) ok a1 b1 d1 e f (Nat.zero_le _))⟩
    rw [ei, if_neg (show ¬ fl true = 0 by decide), if_neg (show ¬ fl true = 0 by decide)]
    unfold imO at ei
    rw [Bool.and_eq_true, Bool.and_eq_true] at ei
    have hT := of_decide_eq_true ei.1
    have hz' := zO_ok (z := z) hC hz ei.2.2
    obtain ⟨M1, q1, q2, q3⟩ := m_onI (z := z) hC hT bt0 mc0 (mZ_f f.1 f0 (fun b k q => by omega))
    rw [q1]
    obtain ⟨S2, s1, s2, s3, s4, s5⟩ := h_read (T := xT X) (z := z) hC c5 (by omega) a1.1 (by rw [f1.1 _ (by first | decide | (dsimp only; omega) | omega)]; exact c6) (by rw [f1.1 _ (by first | decide | (dsimp only; omega) | omega)]; exact c7) (by rw [f1.1 _ (by first | decide | (dsimp only; omega) | omega)]; exact c8) b1.1
    obtain ⟨S3, hS3⟩ : ∃ S3, S3 = ho_sI (ho_sI (ho_sI (ho_sI (ho_sI S2 0 14 (0 : Int32)) 0 15 (0 : Int32)) 60 14 (-1)) 60 15 0) 10 1 (0 : Int32) := ⟨_, rfl⟩
    have f3 : fH (fun b => b = 0 ∨ b = 60 ∨ b = 10) S2 S3 := by
      rw [hS3]
      exact fH_tr (fH_sI _ (Or.inl rfl) (by decide)) (fH_tr (fH_sI _ (Or.inl rfl) (by decide)) (fH_tr (fH_sI _ (Or.inr (Or.inl rfl)) (by decide)) (fH_tr (fH_sI _ (Or.inr (Or.inl rfl)) (by decide)) (fH_sI _ (Or.inr (Or.inr rfl)) (by decide)))))
    have e3 : f_X11_on_30 (1 : Int32) S1 = some (1, S3) := by
      unfold f_X11_on_30
      rw [if_neg ne1, ldP_n (show S1.2.2 0 1 = c by rw [f1.2.1]; exact c2) (crH c5), s1, ob_s]
      unfold f_X11_forgetPast
      rw [le1_e, le1_e, h_forget, ob_s, ob_s]
      unfold f_X11_on_58 f_X11_on_78
      rw [le1_e, if_neg ne1, hS3]
    have g3 : ∀ b, b ≠ 0 → b ≠ 60 → b ≠ 10 → b ≠ 90 → ¬ (1200 ≤ b ∧ b ≤ 1204) → S3.1 b = SH.1 b := fun b h1 h2 h3 h4 h5 => by
      rw [f3.1 b (by first | decide | (dsimp only; omega) | omega), s5.1 b (fun q => by rcases q with q | q; exact h4 q; exact h5 q), f1.1 b h4]
    have g0 : ∀ k, k ≠ 14 → k ≠ 15 → S3.1 0 k = SH.1 0 k := fun k h1 h2 => by
      rw [hS3, sI_ne _ (by decide), sI_ne _ (by decide), sI_ne _ (by decide), sI_k h2, sI_k h1, s5.1 0 (fun q => by rcases q with q | q <;> omega), f1.1 0 (by decide)]
    have g10 : ∀ k, k ≠ 1 → S3.1 10 k = SH.1 10 k := fun k h1 => by
      rw [hS3, sI_k h1, sI_ne _ (by decide), sI_ne _ (by decide), sI_ne _ (by decide), sI_ne _ (by decide), s5.1 10 (fun q => by rcases q with q | q <;> omega), f1.1 10 (by decide)]
    have pt : S3.2 = SH.2 := by rw [f3.2.1, s5.2.1, f1.2.1]
    have p22 : S3.2.2 = SH.2.2 := by rw [pt]
    have a' := a
    obtain ⟨⟨u1, u2, u3, u4⟩, fl, rr, -, -, w, im, sd, g53, g33⟩ := a'
    have k53 : fcG S3 53 := fun j hj => by rw [g3 53 (by decide) (by decide) (by decide) (by decide) (by omega)]; exact g53 j hj
    have fq : fH (fun b => b = 0 ∨ b = 60 ∨ b = 10 ∨ b = 90 ∨ (1200 ≤ b ∧ b ≤ 1204)) SH S3 := ⟨fun b hb => g3 b (by omega) (by omega) (by omega) (by omega) (by omega), pt, fun _ => k53⟩
    rw [e3]
    refine ⟨_, S3, _, rfl, rfl, Xe X (xF X), true, c, C, N, [], zO C (xT X) z, [], ⟨⟨hC, hz'⟩, ⟨by show 0 ≤ 20; omega, fun p hp => absurd hp (List.not_mem_nil)⟩, ok2, ok3, ok4⟩, ⟨⟨by show 0 ≤ 1600; omega, ?_, fun i hi => absurd hi (Nat.not_lt_zero i), by rw [g3 12 (by decide) (by decide) (by decide) (by decide) (by omega)]; exact u4⟩, ⟨by rw [g10 2 (by decide)]; exact fl.1, by rw [g10 3 (by decide)]; exact fl.2⟩, by rw [g3 1 (by decide) (by decide) (by decide) (by decide) (by omega)]; exact rr, ⟨by rw [g0 13 (by decide) (by decide), if_pos rfl]; exact c1, by rw [p22]; exact ⟨c2, c3, c4, c5⟩, by rw [g3 (c + 1) (by omega) (by omega) (by omega) (by omega) (by omega)]; exact ⟨c6, c7, c8⟩, fun _ => cH_f (c9 rfl) fq (fun b q => by unfold crC; omega), fun k hk i hi => by rw [g3 (c + 3 + k) (by omega) (by omega) (by omega) (by omega) (by omega)]; exact c10 k hk i hi⟩, ⟨0, by omega, ?_, ?_, fun i hi => absurd hi (Nat.not_lt_zero i)⟩, ⟨by rw [g3 70 (by decide) (by decide) (by decide) (by decide) (by omega)]; exact w.1, by rw [g3 71 (by decide) (by decide) (by decide) (by decide) (by omega), g3 72 (by decide) (by decide) (by decide) (by decide) (by omega)]; exact w.2⟩, ⟨?_, by rw [g3 91 (by decide) (by decide) (by decide) (by decide) (by omega)]; exact im.2⟩, by rw [g0 16 (by decide) (by decide)]; exact sd, k53, fun j hj => by rw [g3 33 (by decide) (by decide) (by decide) (by decide) (by omega)]; exact g33 j hj⟩, ⟨stH_f s2 f3 (fun b q x => by omega), ⟨⟨0, by omega, rfl⟩, by rw [f3.1 1200 (by first | decide | (dsimp only; omega) | omega)]; exact s3, fun j hj => absurd hj (Nat.not_lt_zero j)⟩⟩, ⟨Or.inl (by rw [hS3, sI_ne _ (by decide), sI_k (by decide), sI_v]), Or.inl (by rw [hS3, sI_ne _ (by decide), sI_v])⟩, ?_, ?_⟩
    · show S3.1 10 1 = nI 0
      rw [hS3, sI_v]; rfl
    · rw [hS3, sI_ne _ (by decide), sI_ne _ (by decide), sI_ne _ (by decide), sI_k (by decide), sI_v]; rfl
    · rw [hS3, sI_ne _ (by decide), sI_ne _ (by decide), sI_ne _ (by decide), sI_v]; rfl
    · rw [f3.1 90 (by first | decide | (dsimp only; omega) | omega), s4 1 (by decide), k1 1 (by decide)]; exact im.1
    · have e' := e
      obtain ⟨⟨⟨x1, x2, x3⟩, xw⟩, fl', rr', ⟨y1, y2, y3⟩, ⟨w0, p1, p2, p3, p4⟩, w', im', sd'⟩ := e'
      have gF : ∀ b k, ¬ (b = 0 ∧ (k = 1 ∨ k = 72)) → b ≠ 55 → (ho_sI (ho_sI M1 55 26 0) 0 72 0).1 b k = SM.1 b k := fun b k h1 h2 => by
        rw [← gm b k (by omega), ← q3.1 b k (fun q => h2 q.1)]
        by_cases e0 : b = 0
        · subst e0; rw [sI_k (by omega), sI_ne _ (by decide)]
        · rw [sI_ne _ e0, sI_ne _ h2]
      have gJ : ∀ b, b ≠ 106 → (ho_sI (ho_sI M1 55 26 0) 0 72 0).2.1 b = SM.2.1 b := fun b hb => by
        show M1.2.1 b = _
        rw [q3.2.1 b hb, f0.2.1 b hb]
      have fF : fN (fun b k => (b = 0 ∧ (k = 1 ∨ k = 72)) ∨ b = 55) SM (ho_sI (ho_sI M1 55 26 0) 0 72 0) := ⟨fun b k hb => gF b k (fun q => hb (Or.inl q)) (fun q => hb (Or.inr q)), gJ, by show M1.2.2 = _; rw [q3.2.2, f0.2.2]⟩
      refine ⟨⟨⟨by show 0 ≤ 1600; omega, ?_, fun i hi => absurd hi (Nat.not_lt_zero i)⟩, mWs_hi xw (fun b k q => gF b k (by omega) (by omega))⟩, ⟨by rw [gF 0 7 (by omega) (by decide)]; exact fl'.1, by rw [gF 0 8 (by omega) (by decide)]; exact fl'.2⟩, fun k hk => by rw [gF 10 k (by omega) (by decide)]; exact rr' k hk, ⟨by rw [gF 0 52 (by omega) (by decide), if_pos rfl]; exact m1, mC_f y2 fF (fun b k q => by unfold crM; omega), fun k hk i hi => by rw [gJ 42 (by decide)]; exact y3 k hk i hi⟩, ⟨w0, p1, by rw [gF 0 73 (by omega) (by decide)]; exact p2, sI_v, fun i hi => absurd hi (Nat.not_lt_zero i)⟩, ⟨by rw [gF 0 66 (by omega) (by decide)]; exact w'.1, fun i hi => by rw [gF 68 _ (by omega) (by decide), gF 68 _ (by omega) (by decide), gF 68 _ (by omega) (by decide)]; exact w'.2 i hi⟩, ⟨by rw [gF 0 110 (by omega) (by decide)]; exact im'.1, fun i hi => by rw [gF 110 i (by omega) (by decide)]; exact im'.2 i hi⟩, by rw [gJ 0 (by decide)]; exact sd'⟩
      show (ho_sI (ho_sI M1 55 26 0) 0 72 0).1 0 1 = nI 0
      rw [sI_k (by decide), sI_ne _ (by decide), q3.1 0 1 (fun q => absurd q.1 (by decide)), hM0, sI_v]
    · have g5 : ∀ k, k < 26 → (ho_sI (ho_sI M1 55 26 0) 0 72 0).1 55 k = M1.1 55 k := fun k hk => by rw [sI_ne _ (by decide), sI_k (by omega)]
      have hnw := hC.1.2.2
      refine ⟨⟨fun k hk => by rw [g5 k (by omega)]; exact q2.1 k hk, fun w hw => by rw [g5 _ (by omega)]; exact q2.2 w hw⟩, ⟨⟨0, by omega, rfl⟩, by rw [sI_ne _ (by decide), sI_v]; rfl, fun j hj => absurd hj (Nat.not_lt_zero j)⟩, ?_⟩
      rw [sI_k (by decide), sI_ne _ (by decide), q3.1 0 62 (fun q => absurd q.1 (by decide)), gm 0 62 (by omega)]; exact f.2.2

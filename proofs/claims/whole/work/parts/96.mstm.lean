/-! level 2: the reference reads a crown: statements, all of it -/
/-- one statement, but for its end -/
theorem m_body {S : Hp} {T : Tp} {σ : Lx} {np nt nw tot : Nat} {R : Nat → Nat → Nat} {N : Nat → Nat → List Nat} {se lo : Option (List Nat)} (h : mE S np nt nw R N se lo tot) (ho : okE np nt nw R N se lo) (ht : tot ≤ σ.1) (hX : lX S T σ) (h51 : ¬ S.1 0 51 = (60 : Int32)) :
    ∃ S', f_X12_statementTold S = f_X12_statementTold_166 S' ∧ fJ cJ S S' ∧ kD S' T (stmT T ((np, nt, nw), R, N, se, lo) σ) := by
  have hT := tS_le hX.1.2.1
  have hT2 := hX.1.1.1
  have ht' : tot ≤ (nx T σ).1 := Nat.le_trans ht (nx_ge T σ)
  unfold f_X12_statementTold
  rw [le1_e, hX.2, if_neg h51]
  obtain ⟨S1, a1, a2, a3, a4⟩ := m_takes (c := 14) (w := wL.getD 3 []) hX.1 (by decide) (mW_at h.2.2.2.2.2.2.2.2.2 _ _ (by decide))
  rw [show f_X12_takes 14 6 S = _ from a1, ob2_s]
  have h1 := mE_l h a2
  unfold stmT
  by_cases q1 : isW T σ (wL.getD 3 []) = true
  · rw [if_neg (fun x => ite01.mp x q1), if_pos q1]
    obtain ⟨S', b1, b2, b3⟩ := m_prov h1 ho ht (by omega) (a3 q1)
    rw [b1, ob_s]
    exact ⟨S', rfl, fJ_tr (fJ_l a2) b2, b3⟩
  rw [if_pos (ite01.mpr q1), if_neg q1]
  obtain ⟨S2, c1, c2, c3, c4⟩ := m_takes (c := 16) (w := wL.getD 5 []) (a4 q1).1 (by decide) (mW_at h1.2.2.2.2.2.2.2.2.2 _ _ (by decide))
  rw [show f_X12_takes 16 5 S1 = _ from c1, ob2_s]
  have h2 := mE_l h1 c2
  have f2 := fM_tr a2 c2
  by_cases q2 : isW T σ (wL.getD 5 []) = true
  · rw [if_neg (fun x => ite01.mp x q2), if_pos q2]
    obtain ⟨S', b1, b2, b3⟩ := m_trk h2 ho ht (by omega) (c3 q2)
    rw [b1, ob_s]
    exact ⟨S', rfl, fJ_tr (fJ_l f2) b2, b3⟩
  rw [if_pos (ite01.mpr q2), if_neg q2]
  obtain ⟨S3, d1, d2, d3, d4⟩ := m_takes (c := 20) (w := wL.getD 9 []) (c4 q2).1 (by decide) (mW_at h2.2.2.2.2.2.2.2.2.2 _ _ (by decide))
  rw [show f_X12_takes 20 5 S2 = _ from d1, ob2_s]
  have h3 := mE_l h2 d2
  have f3 := fM_tr f2 d2
  by_cases q3 : isW T σ (wL.getD 9 []) = true
  · rw [if_neg (fun x => ite01.mp x q3), if_pos q3]
    obtain ⟨S', b1, b2, b3⟩ := m_wat h3 ho ht (by omega) (d3 q3)
    rw [b1, ob_s]
    exact ⟨S', rfl, fJ_tr (fJ_l f3) b2, b3⟩
  rw [if_pos (ite01.mpr q3), if_neg q3]
  obtain ⟨S4, e1, e2, e3, e4⟩ := m_takes (c := 23) (w := wL.getD 12 []) (d4 q3).1 (by decide) (mW_at h3.2.2.2.2.2.2.2.2.2 _ _ (by decide))
  rw [show f_X12_takes 23 4 S3 = _ from e1, ob2_s]
  have h4 := mE_l h3 e2
  have f4 := fM_tr f3 e2
  by_cases q4 : isW T σ (wL.getD 12 []) = true
  · rw [if_neg (fun x => ite01.mp x q4), if_pos q4]
    obtain ⟨S', b1, b2, b3⟩ := m_see h4 ho ht (by omega) (e3 q4)
    rw [b1, ob_s]
    exact ⟨S', rfl, fJ_tr (fJ_l f4) b2, b3⟩
  rw [if_pos (ite01.mpr q4), if_neg q4]
  obtain ⟨S5, g1, g2, g3, g4⟩ := m_takes (c := 24) (w := wL.getD 13 []) (e4 q4).1 (by decide) (mW_at h4.2.2.2.2.2.2.2.2.2 _ _ (by decide))
  rw [show f_X12_takes 24 5 S4 = _ from g1, ob2_s]
  have h5 := mE_l h4 g2
  have f5 := fM_tr f4 g2
  by_cases q5 : isW T σ (wL.getD 13 []) = true
  · rw [if_neg (fun x => ite01.mp x q5), if_pos q5]
    obtain ⟨S', b1, b2, b3⟩ := m_los h5 ho ht (by omega) (g3 q5)
    rw [b1, ob_s]
    exact ⟨S', rfl, fJ_tr (fJ_l f5) b2, b3⟩
  rw [if_pos (ite01.mpr q5), if_neg q5]
  obtain ⟨S6, i1, i2, i3, i4⟩ := m_takes (c := 25) (w := wL.getD 14 []) (g4 q5).1 (by decide) (mW_at h5.2.2.2.2.2.2.2.2.2 _ _ (by decide))
  rw [show f_X12_takes 25 6 S5 = _ from i1, ob2_s]
  have h6 := mE_l h5 i2
  have f6 := fM_tr f5 i2
  by_cases q6 : isW T σ (wL.getD 14 []) = true
  · rw [if_neg (fun x => ite01.mp x q6), if_pos q6]
    obtain ⟨v, S', b1, b2, b3⟩ := m_set (kf := 0) (kr := 4) (lw := 1) (hw := 100) h6 ht' (i3 q6) (by decide) (by decide) (Or.inl ⟨rfl, rfl⟩)
    rw [show f_X12_number (1 : Int32) (100 : Int32) S6 = _ from b1, ob2_s, stI_L 0 (by decide) (by decide)]
    exact ⟨_, rfl, fJ_tr (fJ_l f6) (fJ_tr (fJ_l b2) (fJ_sI S' (by unfold cJ; omega))), b3⟩
  rw [if_pos (ite01.mpr q6), if_neg q6]
  obtain ⟨S7, j1, j2, j3⟩ := m_asks (c := 26) (w := wL.getD 15 []) (i4 q6).1 (by decide) (mW_at h6.2.2.2.2.2.2.2.2.2 _ _ (by decide))
  rw [show f_X12_asks 26 4 S6 = _ from j1, ob_s]
  have h7 := mE_l h6 j2
  have f7 := fM_tr f6 j2
  by_cases q7 : isW T σ (wL.getD 15 []) = true
  · rw [if_pos q7]
    have ek : tkW T (wL.getD 15 []) σ = .ok (nx T σ) := by
      unfold tkW
      rw [if_pos q7]
    rw [ek] at j3
    obtain ⟨v, S', b1, b2, b3⟩ := m_set (kf := 1) (kr := 2) (lw := 0) (hw := 100) h7 ht' j3 (by decide) (by decide) (Or.inr ⟨rfl, rfl⟩)
    rw [show f_X12_number (0 : Int32) (100 : Int32) S7 = _ from b1, ob2_s, stI_L 1 (by decide) (by decide)]
    exact ⟨_, rfl, fJ_tr (fJ_l f7) (fJ_tr (fJ_l b2) (fJ_sI S' (by unfold cJ; omega))), b3⟩
  · rw [if_neg q7]
    have ek : tkW T (wL.getD 15 []) σ = .error (1, tS T σ) := by
      unfold tkW
      rw [if_neg q7]
    rw [ek] at j3
    rw [m_num_b (bR_0 j3), ob2_s, stI_L 1 (by decide) (by decide)]
    refine ⟨_, rfl, fJ_tr (fJ_l f7) (fJ_sI S7 (by unfold cJ; omega)), ?_⟩
    obtain ⟨x1, x2, x3⟩ := j3
    exact ⟨x1, by rw [sI_ne _ (by decide)]; exact x2, by rw [sI_ne _ (by decide)]; exact x3⟩
def cK (b k : Nat) : Prop := cJ b k ∨ (b = 0 ∧ k = 51)
theorem bR_hi {S S' : Hp} {e : Nat × Nat} (h : bR S e) (h5 : S'.1 0 5 = S.1 0 5) (h6 : S'.1 0 6 = S.1 0 6) : bR S' e := ⟨h.1, h5.trans h.2.1, h6.trans h.2.2⟩
theorem mE_51 {S : Hp} {np nt nw tot : Nat} {v : Int32} {R : Nat → Nat → Nat} {N : Nat → Nat → List Nat} {se lo : Option (List Nat)} (h : mE S np nt nw R N se lo tot) : mE (ho_sI S 0 51 v) np nt nw R N se lo tot := by
  obtain ⟨q1, q2, q3, q4, q5, q6, q7, q8, q9, q10⟩ := h
  have g : ∀ b, 0 < b → (ho_sI S 0 51 v).1 b = S.1 b := fun b hb => sI_ne _ (by omega)
  refine ⟨?_, ?_, ?_, ?_, ?_, q6, ?_, mO_f q8 ?_ ?_ (fun j _ => ?_), mO_f q9 ?_ ?_ (fun j _ => ?_), mWs_hi q10 (fun b k q => ?_)⟩
  · rw [g _ (by decide)]; exact q1
  · rw [g _ (by decide), g _ (by decide)]; exact q2
  · rw [g _ (by decide)]; exact q3
  · rw [g _ (by decide)]; exact q4
  · rw [g _ (by decide)]; exact q5
  · rw [sI_k (by decide)]; exact q7
  · rw [g _ (by decide)]
  · rw [g _ (by decide)]
  · rw [g _ (by decide)]
  · rw [g _ (by decide)]
  · rw [g _ (by decide)]
  · rw [g _ (by decide)]
  · rw [g _ (by omega)]
def fin (X : Option (Int32 × Hp)) (S : Hp) (T : Tp) (Y : Except (Nat × Nat) (Dr × Nat)) : Prop :=
  (∀ D1 n1, Y = .ok (D1, n1) → ∃ S' tot, X = f_X12_crown_118 S' ∧ S'.1 0 5 = 0 ∧ S'.1 0 6 = -1 ∧ S'.1 0 51 = nI n1 ∧ mD S' D1 tot ∧ tot ≤ 1600 ∧ okD D1 ∧ fJ cK S S') ∧ (∀ e, Y = .error e → ∃ S', X = f_X12_crown_118 S' ∧ bR S' e ∧ fJ cK S S')
theorem byt_1 {T : Tp} {s : Nat} (h : ∀ i, i < T.2 → T.1 i < 256) : (byt T s = (-1 : Int32)) ↔ T.2 ≤ s := by
  unfold byt
  by_cases e : s < T.2
  · rw [if_pos e]
    refine ⟨fun q => ?_, fun q => absurd e (by omega)⟩
    have h1 := h s e
    have := congrArg Int32.toInt q
    rw [nI_toInt (by omega)] at this
    have e2 : ((-1 : Int32)).toInt = -1 := by decide
    omega
  · rw [if_neg e]
    exact ⟨fun _ => by omega, fun _ => rfl⟩
theorem tK_0 {T : Tp} {σ : Lx} : tK T σ = 0 ↔ T.2 ≤ tS T σ := by
  unfold tK
  by_cases e : T.2 ≤ tS T σ
  · rw [if_pos e]; exact ⟨fun _ => e, fun _ => rfl⟩
  · rw [if_neg e]
    refine ⟨fun q => ?_, fun q => absurd q e⟩
    split at q
    · split at q <;> omega
    · split at q
      · split at q <;> omega
      · omega
theorem kD_D {S : Hp} {T : Tp} {D : Dr} {σ : Lx} (h : kD S T (.ok (D, σ))) : lR S T σ ∧ ∃ tot, tot ≤ σ.1 ∧ mD S D tot := h
/-- a fault: the loop ends -/
theorem m_c96b {S : Hp} {K : Nat} (hK : 0 < K) (h : ¬ S.1 0 5 = 0) : f_X12_crown_96 K S = f_X12_crown_118 S := by
  obtain ⟨K, rfl⟩ : ∃ q, K = q + 1 := ⟨K - 1, by omega⟩
  rw [f_X12_crown_96, if_neg h]
theorem m_c96 {T : Tp} : ∀ (d n K tot : Nat) (D : Dr) (σ : Lx) (S : Hp), n + d = 60 → d + 1 < K → mD S D tot → okD D → tot ≤ σ.1 → lR S T σ → S.1 0 6 = -1 → S.1 0 51 = nI n → fin (f_X12_crown_96 K S) S T (stmL T d D n σ) := by
  intro d
  induction d with
  | zero =>
    intro n K tot D σ S hn hK hD ho ht hl h6 h51
    obtain ⟨K, rfl⟩ : ∃ q, K = q + 1 := ⟨K - 1, by omega⟩
    have hX := lX_of hl
    have f1 : fM lxP S (ho_sI S 0 2 (nI (tS T σ))) := fM_sI _ ⟨rfl, (by omega)⟩
    have h256 : ∀ i, i < T.2 → T.1 i < 256 := fun i hi => (hl.1.2.2 i hi).2
    have hs := hl.2.1
    have hT := hl.1.1
    rw [f_X12_crown_96, if_pos hl.2.2.1, m_look hl, ob2_s, stmL]
    by_cases k0 : tK T σ = 0
    · rw [if_pos ((byt_1 h256).mpr (tK_0.mp k0)), if_pos k0]
      refine ⟨fun D1 n1 q => ?_, (fun e q => by cases q)⟩
      cases q
      exact ⟨_, tot, rfl, by rw [sI_k (by decide)]; exact hl.2.2.1, by rw [sI_k (by decide)]; exact h6, by rw [sI_k (by decide)]; exact h51, mE_l hD f1, by omega, ho, fJ_mo (fJ_l f1) (fun b k q => Or.inl q)⟩
    · rw [if_neg (fun q => k0 (tK_0.mpr ((byt_1 h256).mp q))), if_neg k0]
      have hTs := tS_le hs
      obtain ⟨S2, a1, a2, a3⟩ := m_fail (S := ho_sI S 0 2 (nI (tS T σ))) (k := 5) (p := tS T σ) hX.1.2.2.1 (by decide) (by omega)
      refine ⟨(fun D1 n1 q => by cases q), fun e q => ?_⟩
      cases q
      have e2 : f_X12_statementTold (ho_sI S 0 2 (nI (tS T σ))) = some S2 := by
        unfold f_X12_statementTold
        rw [le1_e, hX.2, if_pos (show (ho_sI S 0 2 (nI (tS T σ))).1 0 51 = (60 : Int32) by rw [sI_k (by decide), h51, show n = 60 by omega]; rfl), show (5 : Int32) = nI 5 from rfl, a1, ob_s]
      rw [e2, ob_s, m_c96b (by omega) (bR_0 a2)]
      exact ⟨S2, rfl, a2, fJ_mo (fJ_tr (fJ_l f1) (fJ_l a3)) (fun b k q => Or.inl q)⟩
  | succ d ih =>
    intro n K tot D σ S hn hK hD ho ht hl h6 h51
    obtain ⟨K, rfl⟩ : ∃ q, K = q + 1 := ⟨K - 1, by omega⟩
    have hX := lX_of hl
    have f1 : fM lxP S (ho_sI S 0 2 (nI (tS T σ))) := fM_sI _ ⟨rfl, (by omega)⟩
    have h256 : ∀ i, i < T.2 → T.1 i < 256 := fun i hi => (hl.1.2.2 i hi).2
    have hs := hl.2.1
    have hT := hl.1.1
    rw [f_X12_crown_96, if_pos hl.2.2.1, m_look hl, ob2_s, stmL]
    by_cases k0 : tK T σ = 0
    · rw [if_pos ((byt_1 h256).mpr (tK_0.mp k0)), if_pos k0]
      refine ⟨fun D1 n1 q => ?_, (fun e q => by cases q)⟩
      cases q
      exact ⟨_, tot, rfl, by rw [sI_k (by decide)]; exact hl.2.2.1, by rw [sI_k (by decide)]; exact h6, by rw [sI_k (by decide)]; exact h51, mE_l hD f1, by omega, ho, fJ_mo (fJ_l f1) (fun b k q => Or.inl q)⟩
    · rw [if_neg (fun q => k0 (tK_0.mpr ((byt_1 h256).mp q))), if_neg k0]
      obtain ⟨⟨np, nt, nw⟩, R, N, se, lo⟩ := D
      have e51 : (ho_sI S 0 2 (nI (tS T σ))).1 0 51 = nI n := by rw [sI_k (by decide)]; exact h51
      obtain ⟨S2, a1, a2, a3⟩ := m_body (show mE (ho_sI S 0 2 (nI (tS T σ))) np nt nw R N se lo tot from mE_l hD f1) (show okE np nt nw R N se lo from ho) ht hX (by rw [e51]; exact fun q => absurd ((eqL 60 (by omega) (by decide)).mp q) (by omega))
      have f2 : fJ cK S S2 := fJ_mo (fJ_tr (fJ_l f1) a2) (fun b k q => Or.inl q)
      have e51b : S2.1 0 51 = nI n := by rw [a2.1 0 51 (by unfold cJ; omega)]; exact e51
      rw [a1]
      unfold f_X12_statementTold_166
      cases x : stmT T ((np, nt, nw), R, N, se, lo) σ with
      | error e =>
        rw [x] at a3
        have hb0 := bR_0 a3
        rw [m_asksG_b hb0, ob_s, le1_e, ob_s]
        refine ⟨(fun D1 n1 q => by cases q), fun e' q => ?_⟩
        cases q
        rw [m_c96b (by omega) (by rw [sI_k (by decide)]; exact hb0)]
        exact ⟨_, rfl, bR_hi a3 (sI_k (by decide)) (sI_k (by decide)), fJ_tr f2 (fJ_sI S2 (Or.inr ⟨rfl, rfl⟩))⟩
      | ok v =>
        rw [x] at a3
        obtain ⟨D1, σ1⟩ := v
        obtain ⟨b1, tot1, b2, b3⟩ := kD_D a3
        have hok := okD_s hT hs ho x
        obtain ⟨S3, c1, c2, c3⟩ := m_asksG (c := 59) b1 (by decide)
        rw [show f_X12_asksSign (59 : Int32) S2 = _ from c1, ob_s, le1_e, ob_s, bn_k]
        have f3 : fJ cK S (ho_sI S3 0 51 (S3.1 0 51 + 1)) := fJ_tr f2 (fJ_tr (fJ_mo (fJ_l c2) (fun b k q => Or.inl q)) (fJ_sI S3 (Or.inr ⟨rfl, rfl⟩)))
        cases y : tkG T 59 σ1 with
        | error e =>
          rw [y] at c3
          refine ⟨(fun D1 n1 q => by cases q), fun e' q => ?_⟩
          cases q
          rw [m_c96b (by omega) (by rw [sI_k (by decide)]; exact bR_0 c3)]
          exact ⟨_, rfl, bR_hi c3 (sI_k (by decide)) (sI_k (by decide)), f3⟩
        | ok σ2 =>
          rw [y] at c3
          rw [bs_k]
          have e6 : S3.1 0 6 = -1 := (show lR S3 T σ2 from c3).2.2.2.2.2
          have e51c : S3.1 0 51 = nI n := by rw [c2.1 0 51 (by unfold lxP; omega)]; exact e51b
          have g1 := (tkG_ok y).2
          have g2 := nx_ge T σ1
          rw [← g1] at g2
          obtain ⟨u1, u2⟩ := ih (n + 1) K tot1 D1 σ2 (ho_sI S3 0 51 (S3.1 0 51 + 1)) (by omega) (by omega) (mE_51 (mE_l b3 c2)) hok.2 (by omega) (lR_hi c3 (fun k hk => sI_k (by omega)) (fun i => by rw [sI_ne _ (by decide)])) (by rw [sI_k (by decide)]; exact e6) (by rw [sI_v, e51c, nI_1])
          refine ⟨fun D2 n2 q => ?_, fun e q => ?_⟩
          · obtain ⟨S', tot', w1, w2, w3, w4, w5, w6, w7, w8⟩ := u1 D2 n2 q
            exact ⟨S', tot', w1, w2, w3, w4, w5, w6, w7, fJ_tr f3 w8⟩
          · obtain ⟨S', w1, w2, w3⟩ := u2 e q
            exact ⟨S', w1, w2, fJ_tr f3 w3⟩

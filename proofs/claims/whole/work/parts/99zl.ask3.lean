/-! level 2: alike answers: a question: the reference reads it -/
theorem wq0 : (76, wL.getD 29 []) ∈ wtab := by decide
theorem wq1 : (77, wL.getD 30 []) ∈ wtab := by decide
theorem wq2 : (78, wL.getD 31 []) ∈ wtab := by decide
theorem wq3 : (79, wL.getD 32 []) ∈ wtab := by decide
theorem wq4 : (80, wL.getD 33 []) ∈ wtab := by decide
theorem wq5 : (81, wL.getD 34 []) ∈ wtab := by decide
def qkR (T : Tp) (σ : Lx) (r : Nat) (S : Hp) : Prop := (vb T σ < 6 ∧ r = vb T σ ∧ lR S T (nx T σ)) ∨ (vb T σ = 6 ∧ r = 5 ∧ bR S (1, tS T σ))
theorem lx_w {S S' : Hp} (h : mWs S) (hf : fM lxP S S') : mWs S' := mWs_f h hf (fun b k q => pP_w (lx_p q))
theorem m_qKind {S : Hp} {T : Tp} {σ : Lx} (h : lR S T σ) (hW : mWs S) : ∃ r S', f_X12_qKind S = some (nI r, S') ∧ qkR T σ r S' ∧ fM lxP S S' := by
  have h76 : ∀ (j : Nat) (Sx : Hp), j < 5 → f_X12_qKind_76 (nI j) Sx = some (nI j, Sx) := by
    intro j Sx hj
    unfold f_X12_qKind_76
    rw [if_neg (fun q => absurd ((eqL 5 (by omega) (by decide)).mp q) (by omega))]
  unfold f_X12_qKind
  obtain ⟨S1, a1, a2, a3, a4⟩ := m_takes h (by decide) (mW_at hW 76 _ wq0)
  rw [show f_X12_takes 76 5 S = _ from a1, ob2_s]
  by_cases q0 : isW T σ (wL.getD 29 []) = true
  · rw [if_pos q0, if_neg ne1, show f_X12_qKind_76 (0 : Int32) S1 = _ from h76 0 S1 (by decide)]
    exact ⟨0, S1, rfl, Or.inl ⟨by rw [vb_i (i := 0) (by decide) q0]; decide, (vb_i (i := 0) (by decide) q0).symm, a3 q0⟩, a2⟩
  rw [if_neg q0, if_pos rfl]
  have w1 := lx_w hW a2
  obtain ⟨S2, b1, b2, b3, b4⟩ := m_takes (a4 q0).1 (by decide) (mW_at w1 77 _ wq1)
  have f2 := fM_tr a2 b2
  rw [show f_X12_takes 77 4 S1 = _ from b1, ob2_s]
  by_cases q1 : isW T σ (wL.getD 30 []) = true
  · rw [if_pos q1, if_neg ne1, show f_X12_qKind_76 (1 : Int32) S2 = _ from h76 1 S2 (by decide)]
    exact ⟨1, S2, rfl, Or.inl ⟨by rw [vb_i (i := 1) (by decide) q1]; decide, (vb_i (i := 1) (by decide) q1).symm, b3 q1⟩, f2⟩
  rw [if_neg q1, if_pos rfl]
  have w2 := lx_w w1 b2
  obtain ⟨S3, c1, c2, c3, c4⟩ := m_takes (b4 q1).1 (by decide) (mW_at w2 78 _ wq2)
  have f3 := fM_tr f2 c2
  rw [show f_X12_takes 78 5 S2 = _ from c1, ob2_s]
  by_cases q2 : isW T σ (wL.getD 31 []) = true
  · rw [if_pos q2, if_neg ne1, show f_X12_qKind_76 (2 : Int32) S3 = _ from h76 2 S3 (by decide)]
    exact ⟨2, S3, rfl, Or.inl ⟨by rw [vb_i (i := 2) (by decide) q2]; decide, (vb_i (i := 2) (by decide) q2).symm, c3 q2⟩, f3⟩
  rw [if_neg q2, if_pos rfl]
  have w3 := lx_w w2 c2
  obtain ⟨S4, d1, d2, d3, d4⟩ := m_takes (c4 q2).1 (by decide) (mW_at w3 79 _ wq3)
  have f4 := fM_tr f3 d2
  rw [show f_X12_takes 79 5 S3 = _ from d1, ob2_s]
  by_cases q3 : isW T σ (wL.getD 32 []) = true
  · rw [if_pos q3, if_neg ne1, show f_X12_qKind_76 (3 : Int32) S4 = _ from h76 3 S4 (by decide)]
    exact ⟨3, S4, rfl, Or.inl ⟨by rw [vb_i (i := 3) (by decide) q3]; decide, (vb_i (i := 3) (by decide) q3).symm, d3 q3⟩, f4⟩
  rw [if_neg q3, if_pos rfl]
  have w4 := lx_w w3 d2
  obtain ⟨S5, e1, e2, e3, e4⟩ := m_takes (d4 q3).1 (by decide) (mW_at w4 80 _ wq4)
  have f5 := fM_tr f4 e2
  rw [show f_X12_takes 80 4 S4 = _ from e1, ob2_s]
  by_cases q4 : isW T σ (wL.getD 33 []) = true
  · rw [if_pos q4, if_neg ne1, show f_X12_qKind_76 (4 : Int32) S5 = _ from h76 4 S5 (by decide)]
    exact ⟨4, S5, rfl, Or.inl ⟨by rw [vb_i (i := 4) (by decide) q4]; decide, (vb_i (i := 4) (by decide) q4).symm, e3 q4⟩, f5⟩
  rw [if_neg q4, if_pos rfl]
  have w5 := lx_w w4 e2
  obtain ⟨S6, g1, g2, g3⟩ := m_asks (e4 q4).1 (by decide) (mW_at w5 81 _ wq5)
  unfold f_X12_qKind_76
  rw [if_pos rfl, show f_X12_asks 81 5 S5 = _ from g1, ob_s]
  refine ⟨5, S6, rfl, ?_, fM_tr f5 g2⟩
  unfold tkW at g3
  by_cases q5 : isW T σ (wL.getD 34 []) = true
  · rw [if_pos q5] at g3
    exact Or.inl ⟨by rw [vb_i (i := 5) (by decide) q5]; decide, (vb_i (i := 5) (by decide) q5).symm, g3⟩
  · rw [if_neg q5] at g3
    refine Or.inr ⟨vb_6 (fun j hj => ?_), rfl, g3⟩
    have : j = 0 ∨ j = 1 ∨ j = 2 ∨ j = 3 ∨ j = 4 ∨ j = 5 := by omega
    rcases this with rfl | rfl | rfl | rfl | rfl | rfl
    · exact q0
    · exact q1
    · exact q2
    · exact q3
    · exact q4
    · exact q5
theorem tK_z {T : Tp} {σ : Lx} : tK T σ = 0 ↔ T.2 ≤ tS T σ := by
  unfold tK
  constructor
  · intro h
    by_cases e : T.2 ≤ tS T σ
    · exact e
    · rw [if_neg e] at h
      repeat' split at h
      all_goals omega
  · intro h
    rw [if_pos h]
theorem m_q109 {S : Hp} {T : Tp} {σ : Lx} {cs : List Nat} {b0 : Nat} {x : Int32} (h : qR S T 2 σ [] cs 0 b0) : ∃ S', f_X12_ask_109 x S = f_X12_ask_133 x S' ∧ fM lxP S S' ∧ (tK T σ = 0 → S'.1 0 5 = 0 ∧ S'.1 0 6 = -1) ∧ (¬ tK T σ = 0 → bR S' (1, tS T σ)) := by
  have hl := h.1
  have hX := lX_of hl
  have f1 : fM lxP S (ho_sI S 0 2 (nI (tS T σ))) := fM_sI _ ⟨rfl, (by omega)⟩
  have hs := tS_le hl.2.1
  have h16 := hl.1.1
  unfold f_X12_ask_109
  rw [if_pos hl.2.2.1, m_look hl, ob2_s]
  unfold byt
  by_cases e : tS T σ < T.2
  · have hb := (hl.1.2.2 _ e).2
    rw [if_pos e, if_neg (fun q => by
      have := congrArg Int32.toInt q
      rw [nI_toInt (by omega), nm1] at this
      omega), sI_v]
    obtain ⟨S2, a1, a2, a3⟩ := m_fail (S := ho_sI S 0 2 (nI (tS T σ))) (k := 1) (p := tS T σ) hX.1.2.2.1 (by decide) (by omega)
    rw [show f_X12_fail (1 : Int32) (nI (tS T σ)) (ho_sI S 0 2 (nI (tS T σ))) = _ from a1, ob_s]
    exact ⟨S2, rfl, fM_tr f1 a3, fun q => absurd (tK_z.mp q) (by omega), fun _ => a2⟩
  · rw [if_neg e, if_pos rfl]
    exact ⟨_, rfl, f1, fun _ => ⟨hX.1.2.2.1, hX.1.2.2.2.2.2⟩, fun q => absurd (tK_z.mpr (by omega)) q⟩
def qmR (b k : Nat) : Prop := pP b k ∨ (b = 0 ∧ (k = 1 ∨ k = 3 ∨ k = 53))
def qmO (r : Nat) (S : Hp) : Except (Nat × Nat) (Nat × List Nat) → Prop
  | .ok (kd, cs) => r = kd ∧ kd < 6 ∧ S.1 0 5 = 0 ∧ S.1 0 6 = -1 ∧ S.1 0 100 = nI cs.length ∧ lsC S 100 cs ∧ okQ (gQ kd) cs
  | .error e => bR S e
theorem m_133b {S : Hp} {x : Int32} {e : Nat × Nat} (h : bR S e) : f_X12_ask_98 x S = f_X12_ask_133 x S := by
  have h0 := bR_0 h
  unfold f_X12_ask_98 f_X12_ask_109
  rw [if_neg h0, if_neg h0]
theorem m_109b {S : Hp} {x : Int32} {e : Nat × Nat} (h : bR S e) : f_X12_ask_109 x S = f_X12_ask_133 x S := by
  unfold f_X12_ask_109
  rw [if_neg (bR_0 h)]
theorem qR_cs {S S' : Hp} {T : Tp} {σ : Lx} {cs : List Nat} {b0 : Nat} (h : qR S T 2 σ [] cs 0 b0) (hf : fM lxP S S') : S'.1 0 100 = nI cs.length ∧ lsC S' 100 cs := (qS_l h.2.2.2 hf).2.1
theorem m_readQ {S : Hp} {T : Tp} (h : mT S T) (hW : mWs S) (hcr : ¬ S.1 0 52 = 0) : ∃ r S', f_X12_ask S = f_X12_ask_133 (nI r) S' ∧ qmO r S' (qT T) ∧ S'.1 0 1 = 0 ∧ fM qmR S S' := by
  obtain ⟨S1, hS1⟩ : ∃ S1, S1 = ho_sI (ho_sI (ho_sI (ho_sI (ho_sI (ho_sI (ho_sI (ho_sI (ho_sI (ho_sI (ho_sI S 0 3 (S.1 0 1)) 0 1 0) 0 2 0) 0 4 (-1)) 0 5 0) 0 6 (-1)) 0 53 2) 0 100 0) 0 102 0) 0 103 0) 0 104 0 := ⟨_, rfl⟩
  have fs : ∀ (X : Hp) (k : Nat) (v : Int32), (k = 1 ∨ k = 2 ∨ k = 3 ∨ k = 4 ∨ k = 5 ∨ k = 6 ∨ k = 53 ∨ k = 100 ∨ k = 102 ∨ k = 103 ∨ k = 104) → fM qmR X (ho_sI X 0 k v) := fun X k v hk => fM_sI X (by unfold qmR pP; omega)
  have f1 : fM qmR S S1 := by
    rw [hS1]
    refine fM_tr (fs _ _ _ (by omega)) (fM_tr (fs _ _ _ (by omega)) (fM_tr (fs _ _ _ (by omega)) (fM_tr (fs _ _ _ (by omega)) (fM_tr (fs _ _ _ (by omega)) (fM_tr (fs _ _ _ (by omega)) (fM_tr (fs _ _ _ (by omega)) (fM_tr (fs _ _ _ (by omega)) (fM_tr (fs _ _ _ (by omega)) (fM_tr (fs _ _ _ (by omega)) (fs _ _ _ (by omega)))))))))))
  have v104 : S1.1 0 104 = 0 := by rw [hS1, sI_v]
  have v103 : S1.1 0 103 = 0 := by rw [hS1, sI_k (by decide), sI_v]
  have v102 : S1.1 0 102 = 0 := by rw [hS1, sI_k (by decide), sI_k (by decide), sI_v]
  have v100 : S1.1 0 100 = 0 := by rw [hS1, sI_k (by decide), sI_k (by decide), sI_k (by decide), sI_v]
  have v53 : S1.1 0 53 = 2 := by rw [hS1, sI_k (by decide), sI_k (by decide), sI_k (by decide), sI_k (by decide), sI_v]
  have v6 : S1.1 0 6 = -1 := by rw [hS1, sI_k (by decide), sI_k (by decide), sI_k (by decide), sI_k (by decide), sI_k (by decide), sI_v]
  have v5 : S1.1 0 5 = 0 := by rw [hS1, sI_k (by decide), sI_k (by decide), sI_k (by decide), sI_k (by decide), sI_k (by decide), sI_k (by decide), sI_v]
  have v4 : S1.1 0 4 = -1 := by rw [hS1, sI_k (by decide), sI_k (by decide), sI_k (by decide), sI_k (by decide), sI_k (by decide), sI_k (by decide), sI_k (by decide), sI_v]
  have v2 : S1.1 0 2 = 0 := by rw [hS1, sI_k (by decide), sI_k (by decide), sI_k (by decide), sI_k (by decide), sI_k (by decide), sI_k (by decide), sI_k (by decide), sI_k (by decide), sI_v]
  have v1 : S1.1 0 1 = 0 := by rw [hS1, sI_k (by decide), sI_k (by decide), sI_k (by decide), sI_k (by decide), sI_k (by decide), sI_k (by decide), sI_k (by decide), sI_k (by decide), sI_k (by decide), sI_v]
  have v3 : S1.1 0 3 = nI T.2 := by rw [hS1, sI_k (by decide), sI_k (by decide), sI_k (by decide), sI_k (by decide), sI_k (by decide), sI_k (by decide), sI_k (by decide), sI_k (by decide), sI_k (by decide), sI_k (by decide), sI_v]; exact h.2.1
  have l1 : lR S1 T (0, false) := by
    refine ⟨⟨h.1, v3, fun i hi => ?_⟩, Nat.zero_le _, v5, ⟨0, Nat.le_refl _, Nat.zero_le _, v2⟩, Or.inr ⟨rfl, Or.inl v4⟩, v6⟩
    rw [f1.1 1 i (by unfold qmR pP; omega)]
    exact h.2.2 i hi
  have w1 : mWs S1 := mWs_f hW f1 (fun b k q => by unfold qmR pP at q; omega)
  have q1 : qR S1 T 2 (0, false) [] [] 0 0 := ⟨l1, ⟨v53, by decide⟩, w1, ⟨v102, fun i hi => absurd hi (by simp)⟩, ⟨v100, fun i hi => absurd hi (by simp)⟩, v103, v104⟩
  obtain ⟨r, S2, a1, a2, a3⟩ := m_qKind l1 w1
  have f2 : fM qmR S S2 := fM_tr f1 (fM_mo a3 (fun b k q => Or.inl (lx_p q)))
  have u2 : S2.1 0 1 = 0 := by rw [a3.1 0 1 (by unfold lxP; omega)]; exact v1
  have e0 : f_X12_ask S = ob2 (f_X12_qKind S1) (fun r12 S12 => if (S12.1 0 5) = 0 then if (3 : Int32) ≤ r12 then f_X12_ask_98 r12 S12 else ob (f_X12_qTest S12) (fun S13 => f_X12_ask_109 r12 S13) else f_X12_ask_98 r12 S12) := by
    unfold f_X12_ask
    rw [if_neg hcr, hS1]
    rfl
  rw [e0, a1, ob2_s]
  unfold qT
  rcases a2 with ⟨b1, rfl, b3⟩ | ⟨b1, rfl, b3⟩
  rotate_left
  · rw [if_neg (bR_0 b3), m_133b b3, b1, if_pos rfl]
    exact ⟨5, S2, rfl, b3, u2, f2⟩
  have q2 := qR_l q1 a3 b3
  rw [if_pos b3.2.2.1, if_neg (show ¬ vb T (0, false) = 6 by omega)]
  generalize vb T (0, false) = kd at *
  have hσ := b3.2.1
  have fin : ∀ S3 (cs : List Nat) σ1, qRd T kd (nx T (0, false)) = .ok (cs, σ1) → qR S3 T 2 σ1 [] cs 0 0 → fM pP S2 S3 → ∃ r S', f_X12_ask_109 (nI kd) S3 = f_X12_ask_133 (nI r) S' ∧ qmO r S' (qTl T kd (qRd T kd (nx T (0, false)))) ∧ S'.1 0 1 = 0 ∧ fM qmR S S' := by
    intro S3 cs σ1 hr hq hf
    obtain ⟨S4, d1, d2, d3, d4⟩ := m_q109 (x := nI kd) hq
    have f4 : fM qmR S S4 := fM_tr f2 (fM_tr (fM_mo hf (fun b k q => Or.inl q)) (fM_mo d2 (fun b k q => Or.inl (lx_p q))))
    refine ⟨kd, S4, d1, ?_, ?_, f4⟩
    · rw [hr]
      unfold qTl
      by_cases e : tK T σ1 = 0
      · dsimp only
        rw [if_pos e]
        obtain ⟨k1, k2⟩ := qR_cs hq d2
        exact ⟨rfl, b1, (d3 e).1, (d3 e).2, k1, k2, qRd_ok h.1 hσ hr⟩
      · dsimp only
        rw [if_neg e]
        exact d4 e
    · rw [d2.1 0 1 (by unfold lxP; omega), hf.1 0 1 (by unfold pP; omega)]; exact u2
  have bad : ∀ S3 e, qRd T kd (nx T (0, false)) = .error e → bR S3 e → fM pP S2 S3 → ∃ r S', f_X12_ask_109 (nI kd) S3 = f_X12_ask_133 (nI r) S' ∧ qmO r S' (qTl T kd (qRd T kd (nx T (0, false)))) ∧ S'.1 0 1 = 0 ∧ fM qmR S S' := by
    intro S3 e hr hb hf
    refine ⟨kd, S3, m_109b hb, by rw [hr]; exact hb, by rw [hf.1 0 1 (by unfold pP; omega)]; exact u2, fM_tr f2 (fM_mo hf (fun b k q => Or.inl q))⟩
  by_cases e3 : kd < 3
  · obtain ⟨m1, m2⟩ := m_test q2
    have er : qRd T kd (nx T (0, false)) = ts T (fcD T 2 6) (nx T (0, false)) := if_pos e3
    rw [if_neg (fun q => absurd ((geL 3 (by omega) (by decide)).mp q) (by omega))]
    cases hr : ts T (fcD T 2 6) (nx T (0, false)) with
    | error e =>
      obtain ⟨S3, c1, c2, c3⟩ := m2 e hr
      rw [c1, ob_s]
      exact bad S3 e (er.trans hr) c2 c3
    | ok p =>
      obtain ⟨cs, σ1⟩ := p
      obtain ⟨S3, c1, c2, c3⟩ := m1 cs σ1 hr
      rw [c1, ob_s]
      exact fin S3 cs σ1 (er.trans hr) c2 c3
  · obtain ⟨m1, m2⟩ := m_sums (d := 6) (W := []) (Cs := []) (by decide) q2 (fun y hy => by cases hy) (fun y hy => by cases hy) (by simp)
    have er : qRd T kd (nx T (0, false)) = sm T (ptD T 2 6) (nx T (0, false)) := if_neg e3
    rw [if_pos ((geL 3 (by omega) (by decide)).mpr (by omega))]
    unfold f_X12_ask_98
    rw [if_pos b3.2.2.1]
    cases hr : sm T (ptD T 2 6) (nx T (0, false)) with
    | error e =>
      obtain ⟨S3, c1, c2, -, c3⟩ := m2 e hr
      rw [c1, ob_s]
      exact bad S3 e (er.trans hr) c2 c3
    | ok p =>
      obtain ⟨cs, σ1⟩ := p
      obtain ⟨S3, c1, c2, c3⟩ := m1 cs σ1 hr
      rw [c1, ob_s]
      exact fin S3 cs σ1 (er.trans hr) (by rw [List.nil_append] at c2; exact c2) c3

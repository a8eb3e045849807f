/-! level 2: the reference: a whole sum, a fact -/
theorem m_53 {V : List Nat} {op b0 : Nat} {x : Int32} : ∀ (R : List Nat) (k : Nat) (S : Hp) (Cs : List Nat), V.length = b0 → S.1 0 5 = 0 → qS S (V ++ R.reverse) Cs op b0 → R.length < k → V.length + R.length + Cs.length < 1690 →
    ∃ S', f_X12_qSums_53 k x S = some (ho_sI S' 0 104 x) ∧ qS S' V (Cs ++ R) op b0 ∧ fM qP S S' := by
  intro R
  induction R with
  | nil =>
    intro k S Cs hb h5 h hk hl
    obtain ⟨k, rfl⟩ : ∃ q, k = q + 1 := ⟨k - 1, by omega⟩
    simp only [List.reverse_nil, List.append_nil, List.length_nil] at h hl ⊢
    refine ⟨S, ?_, h, fM_rf _ S⟩
    rw [f_X12_qSums_53, if_pos h5, h.1.1, h.2.2.2, if_pos (nI_le (by omega) (by omega))]
    rfl
  | cons y R ih =>
    intro k S Cs hb h5 h hk hl
    obtain ⟨k, rfl⟩ : ∃ q, k = q + 1 := ⟨k - 1, by omega⟩
    rw [app_rev] at h
    simp only [List.length_cons] at hk hl
    have hlen := len_rev (V := V) (R := R)
    obtain ⟨p1, p2, p3⟩ := qS_pop h
    rw [hlen] at p2 p3
    obtain ⟨S1, r1, r2, r3⟩ := m_drop h (by rw [hlen]; omega) (by omega)
    obtain ⟨S2, q1, q2, q3⟩ := ih k S1 (Cs ++ [y]) hb (by rw [r3.1 0 5 (by unfold qP; omega)]; exact h5) r2 (by omega) (by simp; omega)
    refine ⟨S2, ?_, by rw [List.append_assoc] at q2; exact q2, fM_tr r3 q3⟩
    rw [f_X12_qSums_53, if_pos h5, p3, h.2.2.2, if_neg (nI_ge (by omega) (by omega)), r1, ob_s, q1]
theorem m_sums {S : Hp} {T : Tp} {m d b0 : Nat} {σ : Lx} {W Cs : List Nat} (hd : d ≤ 6) (h : qR S T m σ W Cs (6 - d) b0) (hW : ∀ y, W.getLast? = some y → 5 ≤ y ∧ y < 60) (hx : ∀ y ∈ W, y < 1000) (hl : W.length + Cs.length ≤ σ.1) :
    (∀ cs σ1, sm T (ptD T m d) σ = .ok (cs, σ1) → ∃ S', f_X12_qSums S = some S' ∧ qR S' T m σ1 W (Cs ++ cs) (6 - d) b0 ∧ fM pP S S') ∧ (∀ e, sm T (ptD T m d) σ = .error e → erB (f_X12_qSums S) S e) := by
  have hσ := h.1.2.1
  have hT := h.1.1.1
  have q0 : qS (ho_sI S 0 104 (nI W.length)) W Cs (6 - d) W.length := by
    obtain ⟨⟨h1, h2⟩, ⟨h3, h4⟩, h5, h6⟩ := h.2.2.2
    exact ⟨⟨by rw [sI_k (by decide)]; exact h1, lsC_ne h2 (by decide)⟩, ⟨by rw [sI_k (by decide)]; exact h3, lsC_ne h4 (by decide)⟩, by rw [sI_k (by decide)]; exact h5, sI_v⟩
  have f0 : fM qP S (ho_sI S 0 104 (nI W.length)) := fM_sI _ (by unfold qP; omega)
  have h0 := qR_q h f0 q0
  have hon : onB W W.length := Or.inl ⟨rfl, hW⟩
  obtain ⟨p1, p2⟩ := sm_sim (x := nI b0) (k := 4999) (j := 5000) (pt_sim T m d hd) hon hx h0 hl (by omega) (by omega)
  have e0 : f_X12_qSums S = gA (nI b0) 4999 5000 (ho_sI S 0 104 (nI W.length)) := by
    unfold f_X12_qSums
    rw [h.2.2.2.2.2.2, h.2.2.2.1.1, le1_e, le1_e]
    exact gA_s h0.1.2.2.1
  refine ⟨fun cs σ1 q => ?_, fun e q => er_f (p2 e q) e0 (fM_mo f0 (fun _ _ => q_p))⟩
  obtain ⟨⟨k1, j1, S1, R1, Cs1, u1, u2, u3, u4, u5, u6, u7⟩, u8⟩ := p1 cs σ1 q
  have hσ1 := u2.1.2.1
  obtain ⟨k1, rfl⟩ : ∃ q, k1 = q + 1 := ⟨k1 - 1, by omega⟩
  obtain ⟨j1, rfl⟩ : ∃ q, j1 = q + 1 := ⟨j1 - 1, by omega⟩
  obtain ⟨v1, vf⟩ := qR_X u2
  have b := m_brk hon hx v1.2.2.2 u3 (by omega)
  rw [brk_0 rfl] at b
  obtain ⟨S5, r1, r2, r3, r4⟩ := g122 v1 u8 hon hx u3 (by omega)
  rw [brk_0 rfl, if_neg (by decide), if_neg (by decide), if_pos rfl] at r4
  have e1 : f_X12_qGoesOn_0 (j1 + 1) S1 = some (0, S5) := by
    rw [f_X12_qGoesOn_0, if_pos u2.1.2.2.1, m_look u2.1, ob2_s]
    by_cases g : byt T (tS T σ1) = (41 : Int32)
    · rw [if_pos g, b, ob2_s, if_neg (by decide), b, ob2_s, if_neg (by decide), b, ob2_s, if_neg (by decide), r4]
    · rw [if_neg g, r4]
  obtain ⟨S6, w1, w2, w3⟩ := m_53 (x := nI b0) R1 5000 S5 Cs1 rfl r2.1.2.2.1 r2.2.2.2 (by omega) (by omega)
  have q6 := qR_q r2 w3 w2
  have q7 : qS (ho_sI S6 0 104 (nI b0)) W (Cs1 ++ R1) (6 - d) b0 := by
    obtain ⟨⟨h1, h2⟩, ⟨h3, h4⟩, h5, h6⟩ := w2
    exact ⟨⟨by rw [sI_k (by decide)]; exact h1, lsC_ne h2 (by decide)⟩, ⟨by rw [sI_k (by decide)]; exact h3, lsC_ne h4 (by decide)⟩, by rw [sI_k (by decide)]; exact h5, sI_v⟩
  have f7 : fM qP S6 (ho_sI S6 0 104 (nI b0)) := fM_sI _ (by unfold qP; omega)
  have q8 := qR_q q6 f7 q7
  rw [u4] at q8
  refine ⟨_, ?_, q8, fM_tr (fM_mo f0 (fun _ _ => q_p)) (fM_tr u7 (fM_tr (fM_mo (fM_tr vf r3) (fun _ _ => lx_p)) (fM_mo (fM_tr w3 f7) (fun _ _ => q_p))))⟩
  rw [e0, u1]
  unfold gB
  rw [e1, ob2_s, if_pos rfl]
  unfold f_X12_qSums_48 f_X12_qSums_49
  rw [f_X12_qSums_15, if_pos rfl, w1]
/-- an error behind which nothing is asked -/
def erT (X : Option Hp) (S : Hp) (e : Nat × Nat) : Prop := ∃ S', X = some S' ∧ bR S' e ∧ fM pP S S'
theorem erT_f {X Y : Option Hp} {S S1 : Hp} {e : Nat × Nat} (h : erT Y S1 e) (hx : X = Y) (hf : fM pP S S1) : erT X S e := by
  obtain ⟨S', a, b, c⟩ := h
  exact ⟨S', hx.trans a, b, fM_tr hf c⟩
/-- a fact that opens nothing -/
def lfF (T : Tp) (P : Lx → Ps) (σ : Lx) : Ps := if isW T σ wAll = true then .ok ([13], nx T σ) else cm T P σ
theorem m_fact {S : Hp} {T : Tp} {m d b0 : Nat} {σ : Lx} {W Cs : List Nat} (hd : d ≤ 6) (h : qR S T m σ W Cs (6 - d) b0) (hW : ∀ y, W.getLast? = some y → 5 ≤ y ∧ y < 60) (hx : ∀ y ∈ W, y < 1000) (hl : W.length + Cs.length ≤ σ.1) :
    (∀ cs σ1, lfF T (ptD T m d) σ = .ok (cs, σ1) → ∃ S', f_X12_qFact S = some S' ∧ qR S' T m σ1 W (Cs ++ cs) (6 - d) b0 ∧ fM pP S S' ∧ σ.1 + cs.length ≤ σ1.1 ∧ σ.1 < σ1.1) ∧ (∀ e, lfF T (ptD T m d) σ = .error e → erT (f_X12_qFact S) S e) := by
  have hσ := h.1.2.1
  have hT := h.1.1.1
  obtain ⟨S1, t1, t2, t3, t4⟩ := m_takes h.1 (by decide) (mW_at h.2.2.1 85 wAll (by decide))
  unfold f_X12_qFact lfF
  rw [show f_X12_takes 85 3 S = _ from t1, ob2_s]
  by_cases e : isW T σ wAll = true
  · obtain ⟨n1, n2⟩ := nx_mv hσ (isW_k e)
    have q1 := qR_l h t2 (t3 e)
    obtain ⟨S2, u1, u2, u3⟩ := m_code 13 q1.2.2.2 (by omega)
    rw [if_pos e, if_neg (fun x => ite01.mp x e), show f_X12_qCode (13 : Int32) S1 = _ from u1, ob_s]
    refine ⟨fun cs σ1 q => ?_, fun e q => (by cases q)⟩
    cases q
    exact ⟨S2, rfl, qR_q q1 u3 u2, fM_tr (fM_mo t2 (fun _ _ => lx_p)) (fM_mo u3 (fun _ _ => q_p)), n1, n1⟩
  · have q1 := qR_l h t2 (t4 e).1
    have f1 : fM pP S S1 := fM_mo t2 (fun _ _ => lx_p)
    obtain ⟨p1, p2⟩ := m_sums hd q1 hW hx hl
    rw [if_neg e, if_pos (ite01.mpr e)]
    unfold cm
    cases hq : sm T (ptD T m d) σ with
    | error er =>
      refine ⟨fun cs σ1 q => (by cases q), fun e2 q => ?_⟩
      cases q
      obtain ⟨S2, a1, a2, a3, a4⟩ := p2 er hq
      rw [a1, ob_s, if_neg (bR_0 a2)]
      exact ⟨S2, rfl, a2, fM_tr f1 a4⟩
    | ok r =>
      obtain ⟨S2, a1, a2, a3⟩ := p1 r.1 r.2 hq
      have hm := sm_mv (ptD_mv T m d) _ r.1 r.2 hσ hq
      have f2 : fM pP S S2 := fM_tr f1 a3
      obtain ⟨v1, vf⟩ := qR_X a2
      have hX := lX_of a2.1
      have hs := tS_le a2.1.2.1
      rw [a1, ob_s, if_pos a2.1.2.2.1, m_look a2.1, ob2_s]
      have f3 : fM pP S (ho_sI S2 0 2 (nI (tS T r.2))) := fM_tr f2 (fM_mo vf (fun _ _ => lx_p))
      have go : ∀ (c o : Nat) (cc : Int32), ((c = 60 ∧ o = 7) ∨ (c = 62 ∧ o = 8) ∨ (c = 61 ∧ o = 9)) → cc = nI c → isG T r.2 c = true → cmC T r.2 = o →
          (∀ cs σ1, bn (sm T (ptD T m d) (nx T r.2)) (fun c2 σ2 => (.ok (r.1 ++ c2 ++ [o], σ2) : Ps)) = .ok (cs, σ1) → ∃ S', f_X12_qFact_63 cc (ho_sI S2 0 2 (nI (tS T r.2))) = some S' ∧ qR S' T m σ1 W (Cs ++ cs) (6 - d) b0 ∧ fM pP S S' ∧ σ.1 + cs.length ≤ σ1.1 ∧ σ.1 < σ1.1) ∧ (∀ e, bn (sm T (ptD T m d) (nx T r.2)) (fun c2 σ2 => (.ok (r.1 ++ c2 ++ [o], σ2) : Ps)) = .error e → erT (f_X12_qFact_63 cc (ho_sI S2 0 2 (nI (tS T r.2)))) S e) := by
        intro c o cc hco hcc g hcm
        subst hcc
        obtain ⟨n1, n2⟩ := nx_mv hm.2.2 (isG_k g)
        have fg : fM lxP S2 (ho_sI (ho_sI S2 0 2 (nI (tS T r.2))) 0 2 (nI (tS T r.2 + 1))) := fM_tr vf (fM_sI _ ⟨rfl, by omega⟩)
        have qg := qR_l a2 fg (lR_sg hX.1 (isG_i.mp g).1)
        have f4 : fM pP S (ho_sI (ho_sI S2 0 2 (nI (tS T r.2))) 0 2 (nI (tS T r.2 + 1))) := fM_tr f2 (fM_mo fg (fun _ _ => lx_p))
        obtain ⟨b1, b2⟩ := m_sums hd qg hW hx (by simp; omega)
        have e63 : ∀ S5, f_X12_qSums (ho_sI (ho_sI S2 0 2 (nI (tS T r.2))) 0 2 (nI (tS T r.2 + 1))) = some S5 → f_X12_qFact_63 (nI c) (ho_sI S2 0 2 (nI (tS T r.2))) = f_X12_qFact_102 (nI o) S5 := by
          intro S5 e5
          unfold f_X12_qFact_63
          rw [hX.2, nI_1, le1_e, e5, ob_s]
          rcases hco with ⟨rfl, rfl⟩ | ⟨rfl, rfl⟩ | ⟨rfl, rfl⟩
          · rw [if_pos (show nI 60 = (60 : Int32) from rfl)]; rfl
          · rw [if_neg (by decide), if_pos (show nI 62 = (62 : Int32) from rfl)]; rfl
          · rw [if_neg (by decide), if_neg (by decide)]; rfl
        cases hq2 : sm T (ptD T m d) (nx T r.2) with
        | error er =>
          refine ⟨fun cs σ1 q => (by cases q), fun e2 q => ?_⟩
          cases q
          obtain ⟨S5, c1, c2, ⟨n, c3, c5⟩, c4⟩ := b2 er hq2
          have e6 : f_X12_qCode (nI o) S5 = some (ho_sI (ho_sI S5 100 n (nI o)) 0 100 (nI (n + 1))) := by
            unfold f_X12_qCode
            rw [c5, stI_n c3 (by decide), le1_e, sI_ne _ (by decide), c5, nI_1]
          have f6 : fM qP S5 (ho_sI (ho_sI S5 100 n (nI o)) 0 100 (nI (n + 1))) := fM_tr (fM_sI _ (by unfold qP; omega)) (fM_sI _ (by unfold qP; omega))
          rw [e63 S5 c1]
          unfold f_X12_qFact_102
          rw [e6, ob_s]
          exact ⟨_, rfl, bR_f c2 f6 (by unfold qP; omega) (by unfold qP; omega), fM_tr f4 (fM_tr c4 (fM_mo f6 (fun _ _ => q_p)))⟩
        | ok t =>
          have hm2 := sm_mv (ptD_mv T m d) _ t.1 t.2 n2 hq2
          refine ⟨fun cs σ1 q => ?_, fun e q => (by cases q)⟩
          cases q
          obtain ⟨S5, c1, c2, c3⟩ := b1 t.1 t.2 hq2
          obtain ⟨S6, u1, u2, u3⟩ := m_code o c2.2.2.2 (by simp; omega)
          refine ⟨S6, ?_, ?_, fM_tr f4 (fM_tr c3 (fM_mo u3 (fun _ _ => q_p))), by simp; omega, by omega⟩
          · rw [e63 S5 c1]
            unfold f_X12_qFact_102
            rw [u1, ob_s]
          · have := qR_q c2 u3 u2
            simp only [List.append_assoc] at this ⊢
            exact this
      have red : ∀ q : Ps, bn (Except.ok r : Except (Nat × Nat) (List Nat × Lx)) (fun c1 σ1 => if cmC T σ1 = 0 then (.error (1, tS T σ1) : Ps) else bn (sm T (ptD T m d) (nx T σ1)) (fun c2 σ2 => .ok (c1 ++ c2 ++ [cmC T σ1], σ2))) = q → (if cmC T r.2 = 0 then (.error (1, tS T r.2) : Ps) else bn (sm T (ptD T m d) (nx T r.2)) (fun c2 σ2 => .ok (r.1 ++ c2 ++ [cmC T r.2], σ2))) = q := fun q e => e
      by_cases g1 : isG T r.2 60 = true
      · have hc : cmC T r.2 = 7 := if_pos g1
        obtain ⟨x1, x2⟩ := go 60 7 (byt T (tS T r.2)) (Or.inl ⟨rfl, rfl⟩) ((byt_i (h256 a2.1) (by decide)).mpr g1) g1 hc
        rw [if_pos ((byL 60 (h256 a2.1) (by decide)).mpr g1)]
        refine ⟨fun cs σ1 q => x1 cs σ1 ?_, fun e q => x2 e ?_⟩
        · have := red _ q; rw [hc, if_neg (by decide)] at this; exact this
        · have := red _ q; rw [hc, if_neg (by decide)] at this; exact this
      rw [if_neg (fun q => g1 ((byL 60 (h256 a2.1) (by decide)).mp q))]
      by_cases g2 : isG T r.2 62 = true
      · have hc : cmC T r.2 = 8 := by unfold cmC; rw [if_neg g1, if_pos g2]
        obtain ⟨x1, x2⟩ := go 62 8 (byt T (tS T r.2)) (Or.inr (Or.inl ⟨rfl, rfl⟩)) ((byt_i (h256 a2.1) (by decide)).mpr g2) g2 hc
        rw [if_pos ((byL 62 (h256 a2.1) (by decide)).mpr g2)]
        refine ⟨fun cs σ1 q => x1 cs σ1 ?_, fun e q => x2 e ?_⟩
        · have := red _ q; rw [hc, if_neg (by decide)] at this; exact this
        · have := red _ q; rw [hc, if_neg (by decide)] at this; exact this
      rw [if_neg (fun q => g2 ((byL 62 (h256 a2.1) (by decide)).mp q))]
      by_cases g3 : isG T r.2 61 = true
      · have hc : cmC T r.2 = 9 := by unfold cmC; rw [if_neg g1, if_neg g2, if_pos g3]
        obtain ⟨x1, x2⟩ := go 61 9 (byt T (tS T r.2)) (Or.inr (Or.inr ⟨rfl, rfl⟩)) ((byt_i (h256 a2.1) (by decide)).mpr g3) g3 hc
        rw [if_pos ((byL 61 (h256 a2.1) (by decide)).mpr g3)]
        refine ⟨fun cs σ1 q => x1 cs σ1 ?_, fun e q => x2 e ?_⟩
        · have := red _ q; rw [hc, if_neg (by decide)] at this; exact this
        · have := red _ q; rw [hc, if_neg (by decide)] at this; exact this
      have hc : cmC T r.2 = 0 := by unfold cmC; rw [if_neg g1, if_neg g2, if_neg g3]
      obtain ⟨S6, u1, u2, u3⟩ := m_fail (k := 1) (p := tS T r.2) hX.1.2.2.1 ⟨by decide, by decide⟩ (by omega)
      rw [if_neg (fun q => g3 ((byL 61 (h256 a2.1) (by decide)).mp q)), hX.2, show f_X12_fail (1 : Int32) (nI (tS T r.2)) _ = _ from u1, ob_s]
      refine ⟨fun cs σ1 q => ?_, fun e q => ?_⟩
      · have := red _ q; rw [hc, if_pos rfl] at this; cases this
      · have := red _ q; rw [hc, if_pos rfl] at this; cases this
        exact ⟨S6, rfl, u2, fM_tr f3 (fM_mo u3 (fun _ _ => lx_p))⟩

/-! level 2: the reference reads parts, sums as by descent -/
theorem repl_lt {W : List Nat} {c y : Nat} (hx : ∀ z ∈ W, z < 1000) (hy : y < 1000) : ∀ z ∈ W ++ List.replicate c 60 ++ [y], z < 1000 := by
  intro z hz
  simp only [List.mem_append, List.mem_replicate, List.mem_singleton] at hz
  rcases hz with (hz | hz) | hz
  · exact hx z hz
  · omega
  · omega
theorem onB_r {W : List Nat} {c y bs : Nat} (hb : bs ≤ W.length) (hy : 20 ≤ y ∧ y ≤ 24) : onB (W ++ List.replicate c 60 ++ [y]) bs := Or.inr ⟨_, y, rfl, by rw [List.length_append]; omega, hy.1, hy.2⟩
theorem cl_yes {x : Int32} {S : Hp} {T : Tp} {m c op bs y k j : Nat} {σ : Lx} {W R Cs : List Nat} (h : qR S T m σ (W ++ List.replicate c 60 ++ [y] ++ R.reverse) Cs (op + c + 1) bs) (g : isG T σ 41 = true) (hy : y = 20 ∨ y = 23 ∨ y = 24) (hb : bs ≤ W.length) (hW : ∀ z, W.getLast? = some z → z < 60) (hx : ∀ z ∈ W, z < 1000) (hR : ∀ z ∈ R, 1 ≤ z ∧ z ≤ 4) (hl : W.length + c + 1 + R.length + Cs.length < 1690) :
    ∃ S', gB x k (j + 1) S = gB x k j S' ∧ qR S' T m (nx T σ) W (Cs ++ R ++ (if y = 20 then [] else if y = 23 then [5] else [6]) ++ List.replicate c 60) op bs ∧ fM pP S S' := by
  obtain ⟨q1, f1⟩ := qR_X h
  have b := m_brk (onB_r (c := c) (y := y) hb (by omega)) (repl_lt hx (by omega)) q1.2.2.2 hR (by simp; omega)
  rw [brk_s (by rw [List.length_append]; omega)] at b
  obtain ⟨S', r1, r2, r3⟩ := m_43 (K0 := f_X12_qGoesOn_0 j) q1 (lX_of h.1) g hy hb hW hx hR hl
  refine ⟨S', ?_, r2, fM_tr (fM_mo f1 (fun _ _ => lx_p)) r3⟩
  unfold gB
  rw [f_X12_qGoesOn_0, if_pos h.1.2.2.1, m_look h.1, ob2_s, if_pos ((byL 41 (h256 h.1) (by decide)).mpr g), b, ob2_s]
  by_cases e : y = 20
  · rw [if_pos ((eqL 20 (by omega) (by decide)).mpr e), r1]
  · rw [if_neg (fun q => e ((eqL 20 (by omega) (by decide)).mp q)), b, ob2_s]
    by_cases e2 : y = 23
    · rw [if_pos ((eqL 23 (by omega) (by decide)).mpr e2), r1]
    · rw [if_neg (fun q => e2 ((eqL 23 (by omega) (by decide)).mp q)), b, ob2_s, if_pos ((eqL 24 (by omega) (by decide)).mpr (by omega)), r1]
/-- what follows a bracket's sum isn't its end -/
theorem cl_no {x : Int32} {S : Hp} {T : Tp} {m op bs y k j : Nat} {σ : Lx} {U R Cs : List Nat} (h : qR S T m σ (U ++ [y] ++ R.reverse) Cs op bs) (g : ¬ isG T σ 41 = true) (n : nop T σ) (hy : y = 20 ∨ y = 23 ∨ y = 24) (hb : bs ≤ U.length) (hx : ∀ z ∈ U, z < 1000) (hR : ∀ z ∈ R, 1 ≤ z ∧ z ≤ 4) (hl : U.length + 1 + R.length + Cs.length < 1690) (hk : 0 < k) : erB (gB x k (j + 1) S) S (1, tS T σ) := by
  obtain ⟨q1, f1⟩ := qR_X h
  have hs := tS_le h.1.2.1
  have hT := h.1.1.1
  have hx2 : ∀ z ∈ U ++ [y], z < 1000 := by
    intro z hz
    simp only [List.mem_append, List.mem_singleton] at hz
    rcases hz with hz | hz
    · exact hx z hz
    · omega
  obtain ⟨S5, r1, r2, r3, r4⟩ := g122 q1 n (Or.inr ⟨U, y, rfl, hb, by omega, by omega⟩) hx2 hR (by simp; omega)
  rw [brk_s hb, if_neg (fun q => absurd ((eqL 21 (by omega) (by decide)).mp q) (by omega)), if_neg (fun q => absurd ((eqL 22 (by omega) (by decide)).mp q) (by omega))] at r4
  have nm1 : ¬ nI y = (-1 : Int32) := by
    intro q
    have q1 : (nI y).toInt = (y : Int) := nI_toInt (by omega)
    rw [q] at q1
    have : (-1 : Int32).toInt = -1 := (by decide)
    omega
  obtain ⟨S6, u1, u2, u3⟩ := m_fail (k := 1) (p := tS T σ) r2.1.2.2.1 ⟨by decide, by decide⟩ (by omega)
  rw [if_neg nm1, show f_X12_fail (1 : Int32) (nI (tS T σ)) S5 = _ from u1, ob_s] at r4
  have e := er_end (x := x) (k := k) (S0 := S) u2 (nQ_l (nQ_q r2.2.2.2 (by omega)) u3) hk (fM_mo (fM_tr f1 (fM_tr r3 u3)) (fun _ _ => lx_p))
  refine er_f e ?_ (fM_rf _ _)
  unfold gB
  rw [gB_n h g, r4, ob2_s, if_pos rfl]
/-- behind the first sum of two -/
theorem cm_any {x : Int32} {S : Hp} {T : Tp} {m op bs y k j : Nat} {σ : Lx} {U R Cs : List Nat} (h : qR S T m σ (U ++ [y] ++ R.reverse) Cs op bs) (n : nop T σ) (hy : y = 21 ∨ y = 22) (hb : bs ≤ U.length) (hx : ∀ z ∈ U, z < 1000) (hR : ∀ z ∈ R, 1 ≤ z ∧ z ≤ 4) (hl : U.length + 1 + R.length + Cs.length < 1690) (hk : 0 < k) :
    (isG T σ 44 = true → ∃ S', gB x (k + 1) (j + 1) S = gA x k 5000 S' ∧ qR S' T m (nx T σ) (U ++ [y + 2]) (Cs ++ R) op bs ∧ fM pP S S') ∧ (¬ isG T σ 44 = true → erB (gB x (k + 1) (j + 1) S) S (1, tS T σ)) := by
  obtain ⟨q1, f1⟩ := qR_X h
  have hx2 : ∀ z ∈ U ++ [y], z < 1000 := by
    intro z hz
    simp only [List.mem_append, List.mem_singleton] at hz
    rcases hz with hz | hz
    · exact hx z hz
    · omega
  have hon : onB (U ++ [y]) bs := Or.inr ⟨U, y, rfl, hb, by omega, by omega⟩
  have b := m_brk hon hx2 q1.2.2.2 hR (by simp; omega)
  rw [brk_s hb] at b
  obtain ⟨S5, r1, r2, r3, r4⟩ := g122 q1 n hon hx2 hR (by simp; omega)
  have e326 : f_X12_qGoesOn_122 (ho_sI S 0 2 (nI (tS T σ))) = f_X12_qGoesOn_326 S5 := by
    rw [r4, brk_s hb]
    by_cases e : y = 21
    · rw [if_pos ((eqL 21 (by omega) (by decide)).mpr e)]
    · rw [if_neg (fun q => e ((eqL 21 (by omega) (by decide)).mp q)), if_pos ((eqL 22 (by omega) (by decide)).mpr (by omega))]
  have e0 : f_X12_qGoesOn_0 (j + 1) S = f_X12_qGoesOn_326 S5 := by
    rw [f_X12_qGoesOn_0, if_pos h.1.2.2.1, m_look h.1, ob2_s]
    by_cases g : byt T (tS T σ) = (41 : Int32)
    · rw [if_pos g, b, ob2_s, if_neg (fun q => absurd ((eqL 20 (by omega) (by decide)).mp q) (by omega)), b, ob2_s, if_neg (fun q => absurd ((eqL 23 (by omega) (by decide)).mp q) (by omega)), b, ob2_s, if_neg (fun q => absurd ((eqL 24 (by omega) (by decide)).mp q) (by omega)), e326]
    · rw [if_neg g, e326]
  obtain ⟨S6, v1, v2, v3⟩ := m_asksG (c := 44) r2.1 (by decide)
  unfold tkG at v3
  have f6 : fM pP S S6 := fM_mo (fM_tr f1 (fM_tr r3 v2)) (fun _ _ => lx_p)
  constructor
  · intro g
    rw [if_pos g] at v3
    have v3 : lR S6 T (nx T σ) := v3
    have q6 := qR_l r2 v2 v3
    obtain ⟨S7, w1, w2, w3⟩ := m_dtb hon hx2 R 5000 S6 Cs q6.2.2.2 hR (by omega) (by simp; omega)
    obtain ⟨p1, p2, p3⟩ := qS_pop w2
    have q8 : qS (ho_sI S7 102 U.length (nI (y + 2))) (U ++ [y + 2]) (Cs ++ R) op bs := by
      obtain ⟨⟨h1, h2⟩, ⟨h3, h4⟩, h5, h6⟩ := w2
      refine ⟨⟨by rw [sI_ne _ (by decide), h1]; simp, lsC_push (lsC_pop h2).1⟩, ⟨by rw [sI_ne _ (by decide)]; exact h3, lsC_ne h4 (by decide)⟩, by rw [sI_ne _ (by decide)]; exact h5, by rw [sI_ne _ (by decide)]; exact h6⟩
    have f8 : fM qP S6 (ho_sI S7 102 U.length (nI (y + 2))) := fM_tr w3 (fM_sI _ (by unfold qP; omega))
    have qq := qR_q q6 f8 q8
    refine ⟨_, ?_, qq, fM_tr f6 (fM_mo f8 (fun _ _ => q_p))⟩
    unfold gB
    rw [e0]
    unfold f_X12_qGoesOn_326 f_X12_qDropsToBracket
    rw [show f_X12_asksSign (44 : Int32) S5 = _ from v1, ob_s, if_pos v3.2.2.1, w1, ob_s, p3, n_pred, ldI_n (by omega) (by decide), p2, show nI y + (2 : Int32) = nI (y + 2) from nI_add y 2, stI_n (by omega) (by decide), ob2_s, if_neg ne1]
    unfold f_X12_qSums_49
    exact gA_s qq.1.2.2.1
  · intro g
    rw [if_neg g] at v3
    have v3 : bR S6 (1, tS T σ) := v3
    have e := er_end (x := x) (k := k + 1) (S0 := S) v3 (nQ_l (nQ_q r2.2.2.2 (by omega)) v2) (by omega) f6
    refine er_f e ?_ (fM_rf _ _)
    unfold gB
    rw [e0]
    unfold f_X12_qGoesOn_326
    rw [show f_X12_asksSign (44 : Int32) S5 = _ from v1, ob_s, if_neg (bR_0 v3), ob2_s, if_pos rfl]
theorem pt_step {T : Tp} {m d : Nat} {O : Option (Lx → Ps)} (hd : d ≤ 6) (hO : (d = 0 ∧ O = none) ∨ ∃ d', d = d' + 1 ∧ O = some (ptD T m d') ∧ PT T m d') (x : Int32) (σ : Lx) (W Cs : List Nat) (c bz k j : Nat) (S : Hp) (h : qR S T m σ (W ++ List.replicate c 60) Cs (6 - d) bz) (hb : bz ≤ W.length) (hW : ∀ z, W.getLast? = some z → z < 60) (hx : ∀ z ∈ W, z < 1000) (hc : c ≤ 6 - d) (hl : W.length + c + Cs.length ≤ σ.1) (hk : T.2 + 2 ≤ k + σ.1) (hj : T.2 + 2 ≤ j + σ.1) :
  (∀ cs σ1, ptB T m O σ = .ok (cs, σ1) → okB x (gA x k j S) S T m σ1 W (Cs ++ cs ++ List.replicate c 60) (6 - d - c) bz) ∧ (∀ e, ptB T m O σ = .error e → erB (gA x k j S) S e) := by
  have hσ := h.1.2.1
  have hT := h.1.1.1
  have hlen : (W ++ List.replicate c 60).length = W.length + c := by simp
  obtain ⟨j, rfl⟩ : ∃ q, j = q + 2 := ⟨j - 2, by omega⟩
  have leaf : ¬ isG T σ 40 = true → ¬ (isW T σ wMin = true ∨ isW T σ wMax = true) → ¬ (al m 11 = true ∧ isW T σ wSeen = true) → ptB T m O σ = lf T m σ → (∀ cs σ1, ptB T m O σ = .ok (cs, σ1) → okB x (gA x k (j + 2) S) S T m σ1 W (Cs ++ cs ++ List.replicate c 60) (6 - d - c) bz) ∧ (∀ e, ptB T m O σ = .error e → erB (gA x k (j + 2) S) S e) := by
    intro n1 n2 n3 e
    obtain ⟨p1, p2⟩ := p_leaf (x := x) (k := k) (j := j) (op := 6 - d - c) (by rw [show 6 - d - c + c = 6 - d by omega]; exact h) n1 n2 n3 hb hW hl (by omega)
    rw [e]
    refine ⟨fun cs σ1 q => ?_, p2⟩
    obtain ⟨S1, r1, r2, r3⟩ := p1 cs σ1 q
    have hmv : σ.1 ≤ σ1.1 := by
      have := ptB_mv (T := T) (m := m) (O := none) (fun P hP => by cases hP)
      unfold lf at q
      by_cases k2 : tK T σ = 2
      · rw [if_pos k2] at q
        obtain ⟨v, σ2, e1, e2⟩ := bn_ok q
        obtain ⟨-, rfl, -⟩ := tkV_ok e1
        cases e2
        exact Nat.le_trans (tS_ge T σ) (tE_ge T σ)
      · rw [if_neg k2] at q
        cases q6 : pIx T m σ 11 with
        | none => rw [q6] at q; cases q
        | some i =>
          rw [q6] at q
          cases q
          exact Nat.le_trans (tS_ge T σ) (tE_ge T σ)
    exact ⟨k, 5000, S1, r1, r2, ⟨by omega, by omega⟩, r3⟩
  by_cases k2 : tK T σ = 2
  · refine leaf (fun q => ?_) (fun q => ?_) (fun q => ?_) ?_
    · rw [(isG_i.mp q).1] at k2; cases k2
    · rcases q with q | q <;> (rw [(isW_i.mp q).1] at k2; cases k2)
    · rw [(isW_i.mp q.2).1] at k2; cases k2
    · unfold ptB lf
      rw [if_pos k2, if_pos k2]
  by_cases g40 : isG T σ 40 = true
  · obtain ⟨n1, n2⟩ := nx_mv hσ (isG_k g40)
    have eB : ptB T m O σ = opn O (tS T σ) (fun P => bn (sm T P (nx T σ)) (fun cs σ1 => bs (tkG T 41 σ1) (fun σ2 => .ok (cs, σ2)))) := by
      unfold ptB
      rw [if_neg k2, if_pos g40]
    rw [eB]
    rcases hO with ⟨rfl, rfl⟩ | ⟨d', rfl, rfl, hP⟩
    · rw [opn_n]
      refine ⟨fun cs σ1 q => (by cases q), fun e q => ?_⟩
      cases q
      exact p_open6 h (by omega) g40 (by omega) (by omega)
    · rw [opn_s]
      obtain ⟨S1, r1, r2, r3⟩ := p_open (x := x) (k := k) (j := j + 1) h g40 (by omega) (by rw [hlen]; omega)
      rw [show 6 - (d' + 1) + 1 = 6 - d' by omega] at r2
      obtain ⟨p1, p2⟩ := sm_sim (x := x) (k := k) (j := j + 1) hP (onB_r hb ⟨by omega, by omega⟩) (repl_lt hx (by omega)) r2 (by simp; omega) (by omega) (by omega)
      rw [show j + 2 = j + 1 + 1 from rfl, r1]
      cases hq : sm T (ptD T m d') (nx T σ) with
      | error e =>
        refine ⟨fun cs σ1 q => (by cases q), fun e2 q => ?_⟩
        cases q
        exact er_f (p2 e hq) rfl r3
      | ok r =>
        obtain ⟨⟨k1, j1, S2, R2, Cs2, u1, u2, u3, u4, u5, u6, u7⟩, u8⟩ := p1 r.1 r.2 hq
        have hm := sm_mv (ptD_mv T m d') _ r.1 r.2 n2 hq
        simp only [List.length_append, List.length_replicate, List.length_cons, List.length_nil] at u5
        obtain ⟨j1, rfl⟩ : ∃ q, j1 = q + 1 := ⟨j1 - 1, by omega⟩
        have f2 : fM pP S S2 := fM_tr r3 u7
        by_cases g41 : isG T r.2 41 = true
        · obtain ⟨S3, w1, w2, w3⟩ := cl_yes (x := x) (k := k1) (j := j1) (op := 6 - (d' + 1) - c) (by rw [show 6 - (d' + 1) - c + c + 1 = 6 - d' by omega]; exact u2) g41 (Or.inl rfl) hb hW hx u3 (by omega)
          rw [if_pos rfl, List.append_nil, u4] at w2
          obtain ⟨n3, n4⟩ := nx_mv hm.2.2 (isG_k g41)
          have et : tkG T 41 r.2 = .ok (nx T r.2) := if_pos g41
          refine ⟨fun cs σ1 q => ?_, fun e q => ?_⟩
          · have q2 : bs (tkG T 41 r.2) (fun σ2 => (.ok (r.1, σ2) : Ps)) = .ok (cs, σ1) := q
            rw [et] at q2
            cases q2
            exact ⟨k1, j1, S3, u1.trans w1, w2, ⟨by omega, by omega⟩, fM_tr f2 w3⟩
          · have q2 : bs (tkG T 41 r.2) (fun σ2 => (.ok (r.1, σ2) : Ps)) = .error e := q
            rw [et] at q2
            cases q2
        · have et : tkG T 41 r.2 = .error (1, tS T r.2) := if_neg g41
          have b := cl_no (x := x) (k := k1) (j := j1) u2 g41 u8 (Or.inl rfl) (by rw [hlen]; omega) (fun z hz => repl_lt (c := c) (y := 0) hx (by omega) z (List.mem_append_left _ hz)) u3 (by rw [hlen]; omega) (by omega)
          refine ⟨fun cs σ1 q => ?_, fun e q => ?_⟩
          · have q2 : bs (tkG T 41 r.2) (fun σ2 => (.ok (r.1, σ2) : Ps)) = .ok (cs, σ1) := q
            rw [et] at q2
            cases q2
          · have q2 : bs (tkG T 41 r.2) (fun σ2 => (.ok (r.1, σ2) : Ps)) = .error e := q
            rw [et] at q2
            cases q2
            exact er_f b u1 f2
  by_cases gm : isW T σ wMin = true ∨ isW T σ wMax = true
  · have hk0 : tK T σ ≠ 0 := by rcases gm with q | q <;> exact isW_k q
    obtain ⟨n1, n2⟩ := nx_mv hσ hk0
    obtain ⟨S1, r1, r3, rn, r4, r5, r6⟩ := p_mm (x := x) (k := k) (j := j + 1) h gm (by omega) (by rw [hlen]; omega) (by omega)
    rw [show j + 2 = j + 1 + 1 from rfl, r1]
    unfold ptB
    rw [if_neg k2, if_neg g40, if_pos gm]
    by_cases g4 : isG T (nx T σ) 40 = true
    · rw [if_pos g4]
      obtain ⟨n3, n4⟩ := nx_mv n2 (isG_k g4)
      rcases hO with ⟨rfl, rfl⟩ | ⟨d', rfl, rfl, hP⟩
      · rw [opn_n]
        refine ⟨fun cs σ1 q => (by cases q), fun e q => ?_⟩
        cases q
        exact gA_bad (r5 g4 rfl) rn (by omega) (by omega) r3
      · rw [opn_s]
        have r2 := r4 g4 (by omega)
        rw [show 6 - (d' + 1) + 1 = 6 - d' by omega] at r2
        generalize hy : (if isW T σ wMin = true then 21 else 22) = y at r2
        have hy2 : y = 21 ∨ y = 22 := by rw [← hy]; split <;> omega
        obtain ⟨p1, p2⟩ := sm_sim (x := x) (k := k) (j := j + 1) hP (onB_r hb ⟨by omega, by omega⟩) (repl_lt hx (by omega)) r2 (by simp; omega) (by omega) (by omega)
        cases hq : sm T (ptD T m d') (nx T (nx T σ)) with
        | error e =>
          refine ⟨fun cs σ1 q => (by cases q), fun e2 q => ?_⟩
          cases q
          exact er_f (p2 e hq) rfl r3
        | ok r =>
          obtain ⟨⟨k1, j1, S2, R2, Cs2, u1, u2, u3, u4, u5, u6, u7⟩, u8⟩ := p1 r.1 r.2 hq
          have hm := sm_mv (ptD_mv T m d') _ r.1 r.2 n4 hq
          simp only [List.length_append, List.length_replicate, List.length_cons, List.length_nil] at u5
          obtain ⟨j1, rfl⟩ : ∃ q, j1 = q + 1 := ⟨j1 - 1, by omega⟩
          obtain ⟨k1, rfl⟩ : ∃ q, k1 = q + 1 := ⟨k1 - 1, by omega⟩
          have f2 : fM pP S S2 := fM_tr r3 u7
          obtain ⟨a1, a2⟩ := cm_any (x := x) (k := k1) (j := j1) u2 u8 hy2 (by rw [hlen]; omega) (fun z hz => repl_lt (c := c) (y := 0) hx (by omega) z (List.mem_append_left _ hz)) u3 (by rw [hlen]; omega) (by omega)
          by_cases g44 : isG T r.2 44 = true
          · have et : tkG T 44 r.2 = .ok (nx T r.2) := if_pos g44
            obtain ⟨S3, b1, b2, b3⟩ := a1 g44
            have f3 : fM pP S S3 := fM_tr f2 b3
            obtain ⟨n5, n6⟩ := nx_mv hm.2.2 (isG_k g44)
            rw [u4] at b2
            obtain ⟨c1, c2⟩ := sm_sim (x := x) (k := k1) (j := 5000) hP (onB_r (y := y + 2) hb ⟨by omega, by omega⟩) (repl_lt hx (by omega)) b2 (by simp; omega) (by omega) (by omega)
            have red : ∀ q : Ps, (bn (Except.ok r : Except (Nat × Nat) (List Nat × Lx)) (fun c1 σ2 => bs (tkG T 44 σ2) (fun σ3 => bn (sm T (ptD T m d') σ3) (fun c2 σ4 => bs (tkG T 41 σ4) (fun σ5 => .ok (c1 ++ c2 ++ [if isW T σ wMin = true then 5 else 6], σ5)))))) = q → bn (sm T (ptD T m d') (nx T r.2)) (fun c2 σ4 => bs (tkG T 41 σ4) (fun σ5 => .ok (r.1 ++ c2 ++ [if isW T σ wMin = true then 5 else 6], σ5))) = q := by
              intro q e
              have e2 : bs (tkG T 44 r.2) (fun σ3 => bn (sm T (ptD T m d') σ3) (fun c2 σ4 => bs (tkG T 41 σ4) (fun σ5 => .ok (r.1 ++ c2 ++ [if isW T σ wMin = true then 5 else 6], σ5)))) = q := e
              rw [et] at e2
              exact e2
            cases hq2 : sm T (ptD T m d') (nx T r.2) with
            | error e =>
              refine ⟨fun cs σ1 q => ?_, fun e2 q => ?_⟩
              · have := red _ q; rw [hq2] at this; cases this
              · have := red _ q; rw [hq2] at this; cases this
                exact er_f (c2 e hq2) (u1.trans b1) f3
            | ok t =>
              obtain ⟨⟨k3, j3, S4, R4, Cs4, v1, v2, v3, v4, v5, v6, v7⟩, v8⟩ := c1 t.1 t.2 hq2
              have hm2 := sm_mv (ptD_mv T m d') _ t.1 t.2 n6 hq2
              simp only [List.length_append, List.length_replicate, List.length_cons, List.length_nil] at v5
              obtain ⟨j3, rfl⟩ : ∃ q, j3 = q + 1 := ⟨j3 - 1, by omega⟩
              have f4 : fM pP S S4 := fM_tr f3 v7
              have hc56 : (if y + 2 = 20 then ([] : List Nat) else if y + 2 = 23 then [5] else [6]) = [if isW T σ wMin = true then 5 else 6] := by
                rw [if_neg (by omega)]
                by_cases e : isW T σ wMin = true
                · rw [if_pos e] at hy ⊢; subst hy; rfl
                · rw [if_neg e] at hy ⊢; subst hy; rfl
              by_cases g41 : isG T t.2 41 = true
              · have et2 : tkG T 41 t.2 = .ok (nx T t.2) := if_pos g41
                obtain ⟨S5, w1, w2, w3⟩ := cl_yes (x := x) (k := k3) (j := j3) (op := 6 - (d' + 1) - c) (by rw [show 6 - (d' + 1) - c + c + 1 = 6 - d' by omega]; exact v2) g41 (by omega) hb hW hx v3 (by omega)
                rw [v4, hc56] at w2
                obtain ⟨n7, n8⟩ := nx_mv hm2.2.2 (isG_k g41)
                refine ⟨fun cs σ1 q => ?_, fun e q => ?_⟩
                · have q1 := red _ q
                  rw [hq2] at q1
                  have q2 : bs (tkG T 41 t.2) (fun σ5 => (.ok (r.1 ++ t.1 ++ [if isW T σ wMin = true then 5 else 6], σ5) : Ps)) = .ok (cs, σ1) := q1
                  rw [et2] at q2
                  cases q2
                  refine ⟨k3, j3, S5, (u1.trans b1).trans (v1.trans w1), ?_, ⟨by omega, by omega⟩, fM_tr f4 w3⟩
                  simp only [List.append_assoc] at w2 ⊢
                  exact w2
                · have q1 := red _ q
                  rw [hq2] at q1
                  have q2 : bs (tkG T 41 t.2) (fun σ5 => (.ok (r.1 ++ t.1 ++ [if isW T σ wMin = true then 5 else 6], σ5) : Ps)) = .error e := q1
                  rw [et2] at q2
                  cases q2
              · have et2 : tkG T 41 t.2 = .error (1, tS T t.2) := if_neg g41
                have b := cl_no (x := x) (k := k3) (j := j3) v2 g41 v8 (by omega) (by rw [hlen]; omega) (fun z hz => repl_lt (c := c) (y := 0) hx (by omega) z (List.mem_append_left _ hz)) v3 (by rw [hlen]; omega) (by omega)
                refine ⟨fun cs σ1 q => ?_, fun e q => ?_⟩
                · have q1 := red _ q
                  rw [hq2] at q1
                  have q2 : bs (tkG T 41 t.2) (fun σ5 => (.ok (r.1 ++ t.1 ++ [if isW T σ wMin = true then 5 else 6], σ5) : Ps)) = .ok (cs, σ1) := q1
                  rw [et2] at q2
                  cases q2
                · have q1 := red _ q
                  rw [hq2] at q1
                  have q2 : bs (tkG T 41 t.2) (fun σ5 => (.ok (r.1 ++ t.1 ++ [if isW T σ wMin = true then 5 else 6], σ5) : Ps)) = .error e := q1
                  rw [et2] at q2
                  cases q2
                  exact er_f b ((u1.trans b1).trans v1) f4
          · have et : tkG T 44 r.2 = .error (1, tS T r.2) := if_neg g44
            refine ⟨fun cs σ1 q => ?_, fun e q => ?_⟩
            · have e2 : bs (tkG T 44 r.2) (fun σ3 => bn (sm T (ptD T m d') σ3) (fun c2 σ4 => bs (tkG T 41 σ4) (fun σ5 => (.ok (r.1 ++ c2 ++ [if isW T σ wMin = true then 5 else 6], σ5) : Ps)))) = .ok (cs, σ1) := q
              rw [et] at e2
              cases e2
            · have e2 : bs (tkG T 44 r.2) (fun σ3 => bn (sm T (ptD T m d') σ3) (fun c2 σ4 => bs (tkG T 41 σ4) (fun σ5 => (.ok (r.1 ++ c2 ++ [if isW T σ wMin = true then 5 else 6], σ5) : Ps)))) = .error e := q
              rw [et] at e2
              cases e2
              exact er_f (a2 g44) u1 f2
    · rw [if_neg g4]
      refine ⟨fun cs σ1 q => (by cases q), fun e q => ?_⟩
      cases q
      exact gA_bad (r6 g4) rn (by omega) (by omega) r3
  by_cases gs : al m 11 = true ∧ isW T σ wSeen = true
  · obtain ⟨n1, n2⟩ := nx_mv hσ (isW_k gs.2)
    obtain ⟨S1, r1, r3, rn, r4, r5⟩ := p_seen (x := x) (k := k) (j := j + 1) h gs (by omega) (by rw [hlen]; omega) (by omega)
    rw [show j + 2 = j + 1 + 1 from rfl, r1]
    have eB : ptB T m O σ = opn O (tS T σ) (fun P => bn (P (nx T σ)) (fun cs σ1 => .ok (cs ++ [60], σ1))) := by
      unfold ptB
      rw [if_neg k2, if_neg g40, if_neg gm, if_pos gs]
    rw [eB]
    rcases hO with ⟨rfl, rfl⟩ | ⟨d', rfl, rfl, hP⟩
    · rw [opn_n]
      refine ⟨fun cs σ1 q => (by cases q), fun e q => ?_⟩
      cases q
      exact gA_bad (r5 rfl) rn (by omega) (by omega) r3
    · rw [opn_s]
      have r2 := r4 (by omega)
      rw [show 6 - (d' + 1) + 1 = 6 - d' by omega, List.append_assoc, ← List.replicate_succ'] at r2
      obtain ⟨p1, p2⟩ := hP x (nx T σ) W Cs (c + 1) bz k (j + 1) S1 r2 hb hW hx (by omega) (by omega) (by omega) (by omega)
      cases hq : ptD T m d' (nx T σ) with
      | error e =>
        refine ⟨fun cs σ1 q => (by cases q), fun e2 q => ?_⟩
        cases q
        exact er_f (p2 e hq) rfl r3
      | ok r =>
        refine ⟨fun cs σ1 q => ?_, fun e q => (by cases q)⟩
        cases q
        obtain ⟨k1, j1, S2, u1, u2, u3, u4⟩ := p1 r.1 r.2 hq
        refine ⟨k1, j1, S2, u1, ?_, u3, fM_tr r3 u4⟩
        rw [show 6 - (d' + 1) - c = 6 - d' - (c + 1) by omega]
        rw [List.replicate_succ] at u2
        simp only [List.append_assoc] at u2 ⊢
        exact u2
  refine leaf g40 gm gs ?_
  unfold ptB lf
  rw [if_neg k2, if_neg g40, if_neg gm, if_neg gs, if_neg k2]
  rfl
theorem pt_sim (T : Tp) (m : Nat) : ∀ d, d ≤ 6 → PT T m d
  | 0, _ => fun x σ W Cs c bz k j S h1 h2 h3 h4 h5 h6 h7 h8 => pt_step (O := none) (by decide) (Or.inl ⟨rfl, rfl⟩) x σ W Cs c bz k j S h1 h2 h3 h4 h5 h6 h7 h8
  | d + 1, hd => fun x σ W Cs c bz k j S h1 h2 h3 h4 h5 h6 h7 h8 => pt_step (O := some (ptD T m d)) hd (Or.inr ⟨d, rfl, rfl, pt_sim T m d (by omega)⟩) x σ W Cs c bz k j S h1 h2 h3 h4 h5 h6 h7 h8

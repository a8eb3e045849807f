/-! level 2: the class reads parts, sums as by descent -/
theorem h_opens {S : Hp} {T : Tp} {m a0 p op : Nat} {σ : Lx} {Cs : List Nat} (h : gR S T m σ a0 p Cs) (ho : op ≤ 6) : ∃ r S', f_X7_opens a0 (nI op) S = some (r, S') ∧ fM (gP p) S S' ∧ (op < 6 → r = 1 ∧ gR S' T m (nx T σ) a0 p Cs) ∧ (op = 6 → r = 0 ∧ wR S' (4, tS T σ)) := by
  unfold f_X7_opens
  by_cases q : op < 6
  · obtain ⟨S1, r1, r2, r3⟩ := h_next h.1
    rw [if_pos ((ltL 6 (by omega) (by decide)).mpr q), r1, ob_s]
    exact ⟨_, S1, rfl, fM_mo r3 (fun _ _ q => t_g (n_t q)), fun _ => ⟨rfl, gR_t h (fM_mo r3 (fun _ _ => n_t)) r2⟩, fun e => absurd e (by omega)⟩
  · obtain ⟨S1, r1, r2, r3⟩ := h_wrong (S := S) (k := 4) (p := tS T σ) ⟨by decide, by decide⟩ (tS16 h.1).1
    rw [if_neg (fun x => q ((ltL 6 (by omega) (by decide)).mp x)), h.1.2.2.2.1, show f_X10_wrong (4 : Int32) _ S = _ from r1, ob2_s, tr0]
    exact ⟨_, S1, rfl, fM_mo r3 (fun _ _ q => t_g (w_t q)), fun e => absurd e q, fun _ => ⟨rfl, r2⟩⟩
theorem h_isP {S : Hp} {T : Tp} {m a0 p : Nat} {σ : Lx} {Cs : List Nat} (h : gR S T m σ a0 p Cs) : ∃ r, f_X7_isPart a0 S = some (r, S) ∧ ((r = 1 ∧ ∃ k, k < 12 ∧ al m k = true ∧ isW T σ (pW.getD k []) = true ∧ S.1 10 6 = nI (wrdP k)) ∨ (r = 0 ∧ ∀ k, k < 12 → al m k = true → ¬ isW T σ (pW.getD k []) = true)) := by
  have hk := tK5 T σ
  unfold f_X7_isPart
  rw [h.1.2.2.1]
  by_cases k1 : tK T σ = 1
  · rw [if_pos ((eqL 1 (by omega) (by decide)).mpr k1)]
    rcases (h.1.2.2.2.2.2.1 k1).2 with ⟨j, j1, j2, j3⟩ | ⟨j1, j2⟩
    · have un : ∀ k, k < 12 → isW T σ (pW.getD k []) = true → wrdP k = j := fun k hk hw => by
        obtain ⟨w1, w2⟩ := wrdP_ok k hk
        exact wL_inj _ (by omega) j j1 (by rw [w2, ← (isW_i.mp hw).2, j3])
      rw [j2, if_neg (nI_pos (by omega))]
      by_cases a : 29 ≤ j
      · rw [if_pos ((geL 29 (by omega) (by decide)).mpr a)]
        exact ⟨_, rfl, Or.inr ⟨rfl, fun k hk _ hw => by have := un k hk hw; have := (wrdP_ok k hk).1; omega⟩⟩
      rw [if_neg (fun q => a ((geL 29 (by omega) (by decide)).mp q)), h.2.2.2.1.1]
      by_cases b : (nI (mk m) >>> (nI j &&& 31)) &&& (1 : Int32) = (1 : Int32)
      · rw [if_pos b]
        have b2 := (mk_bit m h.2.2.2.1.2 j (by omega)).mp b
        simp only [List.any_eq_true, List.mem_range, Bool.and_eq_true, decide_eq_true_eq] at b2
        obtain ⟨k, kk, ka, kj⟩ := b2
        refine ⟨_, rfl, Or.inl ⟨rfl, k, kk, ka, isW_i.mpr ⟨k1, ?_⟩, by rw [kj]⟩⟩
        rw [j3, ← kj, (wrdP_ok k kk).2]
      · rw [if_neg b]
        refine ⟨_, rfl, Or.inr ⟨rfl, fun k hk ha hw => b ((mk_bit m h.2.2.2.1.2 j (by omega)).mpr ?_)⟩⟩
        simp only [List.any_eq_true, List.mem_range, Bool.and_eq_true, decide_eq_true_eq]
        exact ⟨k, hk, ha, un k hk hw⟩
    · rw [j1, if_pos (by decide)]
      exact ⟨_, rfl, Or.inr ⟨rfl, fun k hk _ hw => j2 (wrdP k) (by have := (wrdP_ok k hk).1; omega) (by rw [(wrdP_ok k hk).2]; exact (isW_i.mp hw).2)⟩⟩
  · rw [if_neg (fun q => k1 ((eqL 1 (by omega) (by decide)).mp q))]
    exact ⟨_, rfl, Or.inr ⟨rfl, fun k hk _ hw => k1 (isW_i.mp hw).1⟩⟩
/-- a bracket's sum and its end -/
theorem h_close {S : Hp} {T : Tp} {m a0 p c : Nat} {σ : Lx} {C cs : List Nat} (h : gR S T m σ a0 p (C ++ cs)) (hc : c < 256) {f : Option (Int32 × Hp)} (hf : ∀ r S', f_X10_takeSign (nI c) S = some (r, S') → (r = 0 ∨ r = 1) → f = some (r, S')) : gOK f S T m a0 p C (bs (tkG T c σ) (fun σ2 => .ok (cs, σ2))) := by
  obtain ⟨r, S1, r1, r2, r3⟩ := h_tkG h.1 hc
  cases ht : tkG T c σ with
  | ok σ2 =>
    rw [ht] at r2
    obtain ⟨rfl, r4⟩ := r2
    refine ⟨fun cs1 σ1 q => ?_, fun e q => (by cases q)⟩
    cases q
    exact ⟨S1, hf _ _ r1 (Or.inr rfl), gR_t h r3 r4, fM_mo r3 (fun _ _ => t_g)⟩
  | error e =>
    rw [ht] at r2
    obtain ⟨rfl, r4⟩ := r2
    refine ⟨fun cs1 σ1 q => (by cases q), fun e q => ?_⟩
    cases q
    exact ⟨S1, hf _ _ r1 (Or.inl rfl), r4, fM_mo r3 (fun _ _ => t_g)⟩
theorem cp_step {T : Tp} {m d a0 p k : Nat} {O : Option (Lx → Ps)} (hd : d ≤ 6) (hO : (d = 0 ∧ O = none) ∨ ∃ d', d = d' + 1 ∧ O = some (ptD T m d') ∧ ∀ j, k ≤ j + 2 → gG (grpH j) 6 (nI (6 - d')) T m a0 p (ptD T m d')) (hk : 4 * d ≤ k) : gG (grpH (k + 2)) 6 (nI (6 - d)) T m a0 p (ptB T m O) := by
  intro σ Cs S h hl
  have hT := h.1.1.1
  have hσ := h.1.2.1
  have hk5 := tK5 T σ
  obtain ⟨hs1, hs2⟩ := tS16 h.1
  rw [grpH, if_neg (by decide), if_neg (by decide), if_neg (by decide), if_neg (by decide), if_neg (by decide), if_neg (by decide), if_pos rfl]
  unfold f_X7_part
  rw [h.1.2.2.1]
  by_cases k2 : tK T σ = 2
  · obtain ⟨r, S1, r1, r2, r3⟩ := h_tkV (lo := 0) (hi := 9999) h.1 (by decide) (by decide)
    rw [if_pos ((eqL 2 (by omega) (by decide)).mpr k2), show f_X10_takeNumber (0 : Int32) (9999 : Int32) S = _ from r1, ob2_s]
    unfold ptB
    rw [if_pos k2]
    cases ht : tkV T 0 9999 σ with
    | error e =>
      rw [ht] at r2
      obtain ⟨rfl, r4⟩ := r2
      refine ⟨fun cs1 σ1 q => (by cases q), fun e q => ?_⟩
      cases q
      rw [if_pos rfl]
      exact ⟨S1, rfl, r4, fM_mo r3 (fun _ _ => t_g)⟩
    | ok v =>
      rw [ht] at r2
      obtain ⟨rfl, r4, r5⟩ := r2
      obtain ⟨-, e1, -, -⟩ := tkV_ok (v := v.1) (σ1 := v.2) ht
      obtain ⟨n1, n2⟩ := nx_mv hσ (by rw [k2]; decide)
      have h1 := gR_t h r3 r5
      have e8 : S1.1 10 8 = nI (hcd (1000 + v.1)) := by rw [r4, hcd_num (by omega), show 1000 + v.1 - 1000 = v.1 by omega]
      obtain ⟨S2, w1, w2, w3⟩ := h_add (c := 1000 + v.1) h1 (by omega)
      refine ⟨fun cs1 σ1 q => ?_, fun e q => (by cases q)⟩
      cases q
      rw [if_neg ne1, ldP_n h1.2.2.1.1 h1.2.2.1.2, e8, w1, ob_s]
      exact ⟨S2, rfl, w2, fM_tr (fM_mo r3 (fun _ _ => t_g)) w3⟩
  rw [if_neg (fun q => k2 ((eqL 2 (by omega) (by decide)).mp q)), show f_X10_isSign (40 : Int32) S = _ from h_isG (c := 40) h.1 (by decide), ob2_s]
  by_cases g40 : isG T σ 40 = true
  · obtain ⟨n1, n2⟩ := nx_mv hσ (isG_k g40)
    have eB : ptB T m O σ = opn O (tS T σ) (fun P => bn (sm T P (nx T σ)) (fun cs σ1 => bs (tkG T 41 σ1) (fun σ2 => .ok (cs, σ2)))) := by
      unfold ptB
      rw [if_neg k2, if_pos g40]
    obtain ⟨r, S1, r1, r2, r3, r4⟩ := h_opens (op := 6 - d) h (by omega)
    rw [eB, if_neg (fun x => ite01.mp x g40), r1, ob2_s]
    rcases hO with ⟨rfl, rfl⟩ | ⟨d', rfl, rfl, hP⟩
    · obtain ⟨rfl, r5⟩ := r4 rfl
      rw [opn_n, if_pos rfl]
      refine ⟨fun cs1 σ1 q => (by cases q), fun e q => ?_⟩
      cases q
      exact ⟨S1, rfl, r5, r2⟩
    · obtain ⟨rfl, r5⟩ := r3 (by omega)
      rw [opn_s, if_neg ne1, nI_1, show 6 - (d' + 1) + 1 = 6 - d' by omega]
      obtain ⟨k3, rfl⟩ : ∃ q, k = q + 1 := ⟨k - 1, by omega⟩
      obtain ⟨u1, u2⟩ := g_sm (ptD_mv T m d') (hP k3 (by omega)) (nx T σ) Cs S1 r5 (by omega)
      cases hq : sm T (ptD T m d') (nx T σ) with
      | error er =>
        obtain ⟨S2, v1, v2, v3⟩ := u2 er hq
        refine ⟨fun cs1 σ1 q => (by cases q), fun e q => ?_⟩
        cases q
        rw [v1, ob2_s, if_pos rfl]
        exact ⟨S2, rfl, v2, fM_tr r2 v3⟩
      | ok r =>
        obtain ⟨S2, v1, v2, v3⟩ := u1 r.1 r.2 hq
        rw [v1, ob2_s, if_neg ne1]
        refine gOK_f (h_close (c := 41) (C := Cs) (cs := r.1) v2 (by decide) (fun r S' e hr => ?_)) (fM_tr r2 v3) (fun cs1 σ1 q => ⟨cs1, q, rfl⟩) (fun e q => q)
        rw [show f_X10_takeSign (41 : Int32) S2 = _ from e, ob2_s]
        rcases hr with rfl | rfl
        · rw [if_pos rfl]
        · rw [if_neg ne1]
  rw [if_pos (ite01.mpr g40), show f_X10_isWord (27 : Int32) S = _ from h_isW (i := 27) h.1 (by decide), ob2_s]
  have e27 : wL.getD 27 [] = wMin := rfl
  have e28 : wL.getD 28 [] = wMax := rfl
  have e22 : wL.getD 22 [] = wSeen := rfl
  rw [e27]
  by_cases gm : isW T σ wMin = true ∨ isW T σ wMax = true
  · have hk0 : tK T σ ≠ 0 := by rcases gm with q | q <;> exact isW_k q
    obtain ⟨n1, n2⟩ := nx_mv hσ hk0
    have key : gOK (f_X7_part_115 (grpH (k + 1)) a0 (nI (6 - d)) S) S T m a0 p Cs (ptB T m O σ) := by
      obtain ⟨S1, r1, r2, r3⟩ := h_next h.1
      have h1 := gR_t h (fM_mo r3 (fun _ _ => n_t)) r2
      have f1 : fM (gP p) S S1 := fM_mo r3 (fun _ _ q => t_g (n_t q))
      generalize hy : (if isW T σ wMin = true then 5 else 6) = y
      have e21 : f_X7_oneOfTwo (grpH k) a0 (nI (6 - d)) S = f_X7_oneOfTwo_21 (grpH k) a0 (nI (6 - d)) (nI (hcd y)) S := by
        unfold f_X7_oneOfTwo
        rw [show f_X10_isWord (27 : Int32) S = _ from h_isW (i := 27) h.1 (by decide), e27, ob2_s]
        by_cases e : isW T σ wMin = true
        · rw [if_pos e, if_neg ne1]; rw [if_pos e] at hy; subst hy; rfl
        · rw [if_neg e, if_pos rfl]; rw [if_neg e] at hy; subst hy; rfl
      have eB : ptB T m O σ = (if isG T (nx T σ) 40 = true then opn O (tS T (nx T σ)) (fun P => bn (sm T P (nx T (nx T σ))) (fun c1 σ2 => bs (tkG T 44 σ2) (fun σ3 => bn (sm T P σ3) (fun c2 σ4 => bs (tkG T 41 σ4) (fun σ5 => .ok (c1 ++ c2 ++ [y], σ5)))))) else .error (1, tS T (nx T σ))) := by
        unfold ptB
        rw [if_neg k2, if_neg g40, if_pos gm, hy]
      have fin : gOK (f_X7_oneOfTwo_21 (grpH k) a0 (nI (6 - d)) (nI (hcd y)) S) S T m a0 p Cs (ptB T m O σ) := by
        unfold f_X7_oneOfTwo_21
        rw [eB, r1, ob_s, show f_X10_isSign (40 : Int32) S1 = _ from h_isG (c := 40) h1.1 (by decide), ob2_s]
        by_cases g4 : isG T (nx T σ) 40 = true
        · obtain ⟨n3, n4⟩ := nx_mv n2 (isG_k g4)
          obtain ⟨r, S2, q1, q2, q3, q4⟩ := h_opens (op := 6 - d) h1 (by omega)
          have f2 : fM (gP p) S S2 := fM_tr f1 q2
          rw [if_pos g4, if_neg ne1, if_pos g4, q1, ob2_s]
          rcases hO with ⟨rfl, rfl⟩ | ⟨d', rfl, rfl, hP⟩
          · obtain ⟨rfl, q5⟩ := q4 rfl
            rw [opn_n, if_pos rfl]
            refine ⟨fun cs1 σ1 q => (by cases q), fun e q => ?_⟩
            cases q
            exact ⟨S2, rfl, q5, f2⟩
          · obtain ⟨rfl, q5⟩ := q3 (by omega)
            rw [opn_s, if_neg ne1, nI_1, show 6 - (d' + 1) + 1 = 6 - d' by omega]
            obtain ⟨k3, rfl⟩ : ∃ q, k = q + 2 := ⟨k - 2, by omega⟩
            obtain ⟨u1, u2⟩ := g_sm (ptD_mv T m d') (hP k3 (by omega)) (nx T (nx T σ)) Cs S2 q5 (by omega)
            cases hq : sm T (ptD T m d') (nx T (nx T σ)) with
            | error er =>
              obtain ⟨S3, v1, v2, v3⟩ := u2 er hq
              refine ⟨fun cs1 σ1 q => (by cases q), fun e q => ?_⟩
              cases q
              rw [v1, ob2_s, if_pos rfl]
              exact ⟨S3, rfl, v2, fM_tr f2 v3⟩
            | ok r =>
              obtain ⟨S3, v1, v2, v3⟩ := u1 r.1 r.2 hq
              have hm := sm_mv (ptD_mv T m d') _ r.1 r.2 n4 hq
              have f3 : fM (gP p) S S3 := fM_tr f2 v3
              rw [v1, ob2_s, if_neg ne1]
              show gOK _ S T m a0 p Cs (bs (tkG T 44 r.2) (fun σ3 => bn (sm T (ptD T m d') σ3) (fun c2 σ4 => bs (tkG T 41 σ4) (fun σ5 => .ok (r.1 ++ c2 ++ [y], σ5)))))
              obtain ⟨rr, S4, t1, t2, t3⟩ := h_tkG (c := 44) v2.1 (by decide)
              rw [show f_X10_takeSign (44 : Int32) S3 = _ from t1, ob2_s]
              cases ht : tkG T 44 r.2 with
              | error e =>
                rw [ht] at t2
                obtain ⟨rfl, t4⟩ := t2
                rw [if_pos rfl]
                refine ⟨fun cs1 σ1 q => (by cases q), fun e q => ?_⟩
                cases q
                exact ⟨S4, rfl, t4, fM_tr f3 (fM_mo t3 (fun _ _ => t_g))⟩
              | ok σ3 =>
                rw [ht] at t2
                obtain ⟨rfl, t4⟩ := t2
                obtain ⟨g44, e3⟩ := tkG_ok ht
                obtain ⟨n5, n6⟩ := nx_mv hm.2.2 (isG_k g44)
                rw [← e3] at n5 n6
                have h4 := gR_t v2 t3 t4
                have f4 : fM (gP p) S S4 := fM_tr f3 (fM_mo t3 (fun _ _ => t_g))
                rw [if_neg ne1]
                show gOK _ S T m a0 p Cs (bn (sm T (ptD T m d') σ3) (fun c2 σ4 => bs (tkG T 41 σ4) (fun σ5 => .ok (r.1 ++ c2 ++ [y], σ5))))
                obtain ⟨x1, x2⟩ := g_sm (ptD_mv T m d') (hP k3 (by omega)) σ3 (Cs ++ r.1) S4 h4 (by simp; omega)
                cases hq2 : sm T (ptD T m d') σ3 with
                | error er =>
                  obtain ⟨S5, y1, y2, y3⟩ := x2 er hq2
                  refine ⟨fun cs1 σ1 q => (by cases q), fun e q => ?_⟩
                  cases q
                  rw [y1, ob2_s, if_pos rfl]
                  exact ⟨S5, rfl, y2, fM_tr f4 y3⟩
                | ok t =>
                  obtain ⟨S5, y1, y2, y3⟩ := x1 t.1 t.2 hq2
                  have hm2 := sm_mv (ptD_mv T m d') _ t.1 t.2 n6 hq2
                  obtain ⟨S6, w1, w2, w3⟩ := h_add (c := y) y2 (by simp; omega)
                  rw [y1, ob2_s, if_neg ne1, ldP_n y2.2.2.1.1 y2.2.2.1.2, w1, ob_s]
                  refine gOK_f (h_close (c := 41) (C := Cs) (cs := r.1 ++ t.1 ++ [y]) (by simp only [List.append_assoc] at w2 ⊢; exact w2) (by decide) (fun r S' e hr => ?_)) (fM_tr f4 (fM_tr y3 w3)) (fun cs1 σ1 q => ⟨cs1, q, rfl⟩) (fun e q => q)
                  rw [show f_X10_takeSign (41 : Int32) S6 = _ from e, ob2_s]
                  rcases hr with rfl | rfl
                  · rw [tr0]
                  · rw [tr1]
        · obtain ⟨hq1, hq2⟩ := tS16 h1.1
          obtain ⟨S2, w1, w2, w3⟩ := h_wrong (S := S1) (k := 1) (p := tS T (nx T σ)) ⟨by decide, by decide⟩ hq1
          rw [if_neg g4, if_pos rfl, if_neg g4, h1.1.2.2.2.1, show f_X10_wrong (1 : Int32) _ S1 = _ from w1, ob2_s, tr0]
          refine ⟨fun cs1 σ1 q => (by cases q), fun e q => ?_⟩
          cases q
          exact ⟨S2, rfl, w2, fM_tr f1 (fM_mo w3 (fun _ _ q => t_g (w_t q)))⟩
      unfold f_X7_part_115
      rw [grpH, if_neg (by decide), if_neg (by decide), if_neg (by decide), if_neg (by decide), if_neg (by decide), if_neg (by decide), if_neg (by decide), e21]
      refine ⟨fun cs1 σ1 q => ?_, fun e q => ?_⟩
      · obtain ⟨S', a, b, c⟩ := fin.1 cs1 σ1 q
        exact ⟨S', by rw [a, ob2_s, tr1], b, c⟩
      · obtain ⟨S', a, b, c⟩ := fin.2 e q
        exact ⟨S', by rw [a, ob2_s, tr0], b, c⟩
    by_cases e : isW T σ wMin = true
    · rw [if_neg (fun x => ite01.mp x e)]; exact key
    · rw [if_pos (ite01.mpr e), show f_X10_isWord (28 : Int32) S = _ from h_isW (i := 28) h.1 (by decide), e28, ob2_s, if_neg (fun x => ite01.mp x (gm.resolve_left e))]; exact key
  rw [if_pos (ite01.mpr (fun q => gm (Or.inl q))), show f_X10_isWord (28 : Int32) S = _ from h_isW (i := 28) h.1 (by decide), e28, ob2_s, if_pos (ite01.mpr (fun q => gm (Or.inr q)))]
  obtain ⟨rp, p1, p2⟩ := h_isP h
  rw [p1, ob2_s]
  have pWn : ∀ j, j < 12 → ∀ k, k < 12 → pW.getD j [] = pW.getD k [] → j = k := by decide
  rcases p2 with ⟨rfl, i, i1, i2, i3, i4⟩ | ⟨rfl, i1⟩
  · obtain ⟨n1, n2⟩ := nx_mv hσ (isW_k i3)
    rw [if_neg ne1, show f_X10_isWord (22 : Int32) S = _ from h_isW (i := 22) h.1 (by decide), e22, ob2_s]
    by_cases gs : isW T σ wSeen = true
    · have ei : i = 11 := pWn i i1 11 (by decide) (isW_u i3 gs)
      subst ei
      have eB : ptB T m O σ = opn O (tS T σ) (fun P => bn (P (nx T σ)) (fun cs σ1 => .ok (cs ++ [60], σ1))) := by
        unfold ptB
        rw [if_neg k2, if_neg g40, if_neg gm, if_pos ⟨i2, gs⟩]
      obtain ⟨r, S1, r1, r2, r3, r4⟩ := h_opens (op := 6 - d) h (by omega)
      rw [eB, if_neg (fun x => ite01.mp x gs), r1, ob2_s]
      rcases hO with ⟨rfl, rfl⟩ | ⟨d', rfl, rfl, hP⟩
      · obtain ⟨rfl, r5⟩ := r4 rfl
        rw [opn_n, if_pos rfl]
        refine ⟨fun cs1 σ1 q => (by cases q), fun e q => ?_⟩
        cases q
        exact ⟨S1, rfl, r5, r2⟩
      · obtain ⟨rfl, r5⟩ := r3 (by omega)
        rw [opn_s, if_neg ne1, nI_1, show 6 - (d' + 1) + 1 = 6 - d' by omega]
        obtain ⟨u1, u2⟩ := hP (k + 1) (by omega) (nx T σ) Cs S1 r5 (by omega)
        cases hq : ptD T m d' (nx T σ) with
        | error er =>
          obtain ⟨S2, v1, v2, v3⟩ := u2 er hq
          refine ⟨fun cs1 σ1 q => (by cases q), fun e q => ?_⟩
          cases q
          rw [v1, ob2_s, if_pos rfl]
          exact ⟨S2, rfl, v2, fM_tr r2 v3⟩
        | ok r =>
          obtain ⟨S2, v1, v2, v3⟩ := u1 r.1 r.2 hq
          have hm := ptD_mv T m d' _ r.1 r.2 n2 hq
          obtain ⟨S3, w1, w2, w3⟩ := h_add (c := 60) v2 (by simp; omega)
          refine ⟨fun cs1 σ1 q => ?_, fun e q => (by cases q)⟩
          cases q
          rw [v1, ob2_s, if_neg ne1, ldP_n v2.2.2.1.1 v2.2.2.1.2, show (10112 : Int32) = nI (hcd 60) from rfl, w1, ob_s]
          exact ⟨S3, rfl, by simp only [List.append_assoc] at w2 ⊢; exact w2, fM_tr r2 (fM_tr v3 w3)⟩
    · have hi11 : i < 11 := by
        rcases Nat.lt_or_ge i 11 with q | q
        · exact q
        · have : i = 11 := (by omega)
          subst this
          exact absurd i3 gs
      have eB : ptB T m O σ = .ok ([40 + i], nx T σ) := by
        unfold ptB
        rw [if_neg k2, if_neg g40, if_neg gm, if_neg (fun q => gs q.2), pIx_yes hi11 i2 i3]
      have ew : (10000 : Int32) + S.1 10 6 = nI (hcd (40 + i)) := by
        rw [i4, lit_nI 10000, nI_add, hcd_part ⟨by omega, by omega⟩, show 40 + i - 40 = i by omega]
        have : ∀ i, i < 11 → wrdP i = wrd i := by decide
        rw [this i hi11]
      have hlt := (tK_word.mp (isW_i.mp i3).1).1
      have hge := tS_ge T σ
      obtain ⟨S1, w1, w2, w3⟩ := h_add (c := 40 + i) h (by omega)
      obtain ⟨S2, r1, r2, r3⟩ := h_next w2.1
      rw [eB, if_pos (ite01.mpr gs), ldP_n h.2.2.1.1 h.2.2.1.2, ew, w1, ob_s, r1, ob_s]
      refine ⟨fun cs1 σ1 q => ?_, fun e q => (by cases q)⟩
      cases q
      exact ⟨S2, rfl, gR_t w2 (fM_mo r3 (fun _ _ => n_t)) r2, fM_tr w3 (fM_mo r3 (fun _ _ q => t_g (n_t q)))⟩
  · have eB : ptB T m O σ = .error (1, tS T σ) := by
      unfold ptB
      have hno : pIx T m σ 11 = none := by
        cases q : pIx T m σ 11 with
        | none => rfl
        | some i =>
          obtain ⟨a, b, c⟩ := pIx_ok 11 q
          exact absurd c (i1 i (by omega) b)
      rw [if_neg k2, if_neg g40, if_neg gm, if_neg (fun q => i1 11 (by decide) q.1 q.2), hno]
    obtain ⟨S2, w1, w2, w3⟩ := h_wrong (S := S) (k := 1) (p := tS T σ) ⟨by decide, by decide⟩ hs1
    rw [eB, if_pos rfl, h.1.2.2.2.1, show f_X10_wrong (1 : Int32) _ S = _ from w1, ob2_s, tr0]
    refine ⟨fun cs1 σ1 q => (by cases q), fun e q => ?_⟩
    cases q
    exact ⟨S2, rfl, w2, fM_mo w3 (fun _ _ q => t_g (w_t q))⟩
theorem cp_sim (T : Tp) (m a0 p : Nat) : ∀ d, d ≤ 6 → ∀ k, 4 * d + 2 ≤ k → gG (grpH k) 6 (nI (6 - d)) T m a0 p (ptD T m d)
  | 0, _, k, hk => by
    obtain ⟨k, rfl⟩ : ∃ q, k = q + 2 := ⟨k - 2, by omega⟩
    exact cp_step (O := none) (by decide) (Or.inl ⟨rfl, rfl⟩) (by omega)
  | d + 1, hd, k, hk => by
    obtain ⟨k, rfl⟩ : ∃ q, k = q + 2 := ⟨k - 2, by omega⟩
    exact cp_step (O := some (ptD T m d)) hd (Or.inr ⟨d, rfl, rfl, fun j hj => cp_sim T m a0 p d (by omega) j (by omega)⟩) (by omega)

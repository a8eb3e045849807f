/-! level 2: the class reads tests as by descent -/
theorem h_anL {G : Nat → Nat → Int32 → Hp → Option (Int32 × Hp)} {x : Int32} {T : Tp} {m a0 p : Nat} {P : Lx → Ps} (hG : gG G 2 x T m a0 p P) (hP : mv T P) : ∀ (n : Nat) (cs C0 : List Nat) (σ : Lx) (i k : Nat) (S : Hp), T.2 ≤ n + σ.1 → gR S T m σ a0 p (C0 ++ cs) → (C0 ++ cs).length ≤ σ.1 → i ≤ σ.1 → T.2 + 2 ≤ k + σ.1 → gOK (f_X7_facts_12 G a0 k x (nI i) S) S T m a0 p C0 (anL T P n cs σ) := by
  intro n
  induction n with
  | zero =>
    intro cs C0 σ i k S hn h hl hi hk
    have hT := h.1.1.1
    have hσ := h.1.2.1
    obtain ⟨k, rfl⟩ : ∃ q, k = q + 1 := ⟨k - 1, by omega⟩
    have a := h_isW (i := 24) h.1 (by decide)
    rw [show wL.getD 24 [] = wAnd from rfl, if_neg (noW_end (by omega))] at a
    rw [anL]
    refine ⟨fun cs1 σ1 q => ?_, fun e q => (by cases q)⟩
    cases q
    refine ⟨S, ?_, h, fM_rf _ S⟩
    rw [f_X7_facts_12]
    by_cases e : 1600 ≤ i
    · rw [if_pos ((geL 1600 (by omega) (by decide)).mpr e)]
    · rw [if_neg (fun q => e ((geL 1600 (by omega) (by decide)).mp q)), show f_X10_isWord (24 : Int32) S = _ from a, ob2_s, if_pos rfl]
  | succ n ih =>
    intro cs C0 σ i k S hn h hl hi hk
    have hT := h.1.1.1
    have hσ := h.1.2.1
    obtain ⟨k, rfl⟩ : ∃ q, k = q + 1 := ⟨k - 1, by omega⟩
    have a := h_isW (i := 24) h.1 (by decide)
    rw [show wL.getD 24 [] = wAnd from rfl] at a
    rw [anL, f_X7_facts_12]
    by_cases e : 1600 ≤ i
    · rw [if_pos ((geL 1600 (by omega) (by decide)).mpr e), if_neg (noW_end (by omega))]
      refine ⟨fun cs1 σ1 q => ?_, fun e q => (by cases q)⟩
      cases q
      exact ⟨S, rfl, h, fM_rf _ S⟩
    rw [if_neg (fun q => e ((geL 1600 (by omega) (by decide)).mp q)), show f_X10_isWord (24 : Int32) S = _ from a, ob2_s]
    by_cases g : isW T σ wAnd = true
    · obtain ⟨n1, n2⟩ := nx_mv hσ (isW_k g)
      obtain ⟨S1, r1, r2, r3⟩ := h_next h.1
      have h1 := gR_t h (fM_mo r3 (fun _ _ => n_t)) r2
      have f1 : fM (gP p) S S1 := fM_mo r3 (fun _ _ q => t_g (n_t q))
      obtain ⟨u1, u2⟩ := hG (nx T σ) (C0 ++ cs) S1 h1 (by omega)
      rw [if_pos g, if_pos g, if_neg ne1, r1, ob_s]
      cases hq : P (nx T σ) with
      | error er =>
        obtain ⟨S2, v1, v2, v3⟩ := u2 er hq
        refine ⟨fun cs1 σ1 q => (by cases q), fun e q => ?_⟩
        cases q
        rw [v1, ob2_s, if_pos rfl]
        exact ⟨S2, rfl, v2, fM_tr f1 v3⟩
      | ok r =>
        obtain ⟨S2, v1, v2, v3⟩ := u1 r.1 r.2 hq
        have hm := hP _ r.1 r.2 n2 hq
        obtain ⟨S3, w1, w2, w3⟩ := h_add (c := 10) v2 (by simp at hl ⊢; omega)
        rw [v1, ob2_s, if_neg ne1, ldP_n v2.2.2.1.1 v2.2.2.1.2, show (10106 : Int32) = nI (hcd 10) from rfl, w1, ob_s, le1_e, nI_1]
        have hI := ih (cs ++ r.1 ++ [10]) C0 r.2 (i + 1) k S3 (by omega) (by simp only [List.append_assoc] at w2 ⊢; exact w2) (by simp at hl ⊢; omega) (by omega) (by omega)
        exact gOK_f hI (fM_tr f1 (fM_tr v3 w3)) (fun cs1 σ1 q => ⟨cs1, q, rfl⟩) (fun e q => q)
    rw [if_neg g, if_neg g, if_pos rfl]
    refine ⟨fun cs1 σ1 q => ?_, fun e q => (by cases q)⟩
    cases q
    exact ⟨S, rfl, h, fM_rf _ S⟩
theorem h_an {G : Nat → Nat → Int32 → Hp → Option (Int32 × Hp)} {x : Int32} {T : Tp} {m a0 p : Nat} {P : Lx → Ps} (hG : gG G 2 x T m a0 p P) (hP : mv T P) (σ : Lx) (Cs : List Nat) (S : Hp) (h : gR S T m σ a0 p Cs) (hl : Cs.length ≤ σ.1) : gOK (f_X7_facts G a0 x S) S T m a0 p Cs (an T P σ) := by
  have hT := h.1.1.1
  obtain ⟨u1, u2⟩ := hG σ Cs S h hl
  unfold f_X7_facts an
  cases hq : P σ with
  | error er =>
    obtain ⟨S2, v1, v2, v3⟩ := u2 er hq
    refine ⟨fun cs1 σ1 q => (by cases q), fun e q => ?_⟩
    cases q
    rw [v1, ob2_s, if_pos rfl]
    exact ⟨S2, rfl, v2, v3⟩
  | ok r =>
    obtain ⟨S2, v1, v2, v3⟩ := u1 r.1 r.2 hq
    have hm := hP _ r.1 r.2 h.1.2.1 hq
    rw [v1, ob2_s, if_neg ne1]
    have hI := h_anL hG hP T.2 r.1 Cs r.2 0 5000 S2 (by omega) v2 (by simp; omega) (by omega) (by omega)
    exact gOK_f hI v3 (fun cs1 σ1 q => ⟨cs1, q, rfl⟩) (fun e q => q)
theorem h_orL {G : Nat → Nat → Int32 → Hp → Option (Int32 × Hp)} {x : Int32} {T : Tp} {m a0 p : Nat} {P : Lx → Ps} (hG : gG G 1 x T m a0 p (an T P)) (hP : mv T P) : ∀ (n : Nat) (cs C0 : List Nat) (σ : Lx) (i k : Nat) (S : Hp), T.2 ≤ n + σ.1 → gR S T m σ a0 p (C0 ++ cs) → (C0 ++ cs).length ≤ σ.1 → i ≤ σ.1 → T.2 + 2 ≤ k + σ.1 → gOK (f_X7_test_12 G a0 k x (nI i) S) S T m a0 p C0 (orL T P n cs σ) := by
  intro n
  induction n with
  | zero =>
    intro cs C0 σ i k S hn h hl hi hk
    have hT := h.1.1.1
    have hσ := h.1.2.1
    obtain ⟨k, rfl⟩ : ∃ q, k = q + 1 := ⟨k - 1, by omega⟩
    have a := h_isW (i := 23) h.1 (by decide)
    rw [show wL.getD 23 [] = wOr from rfl, if_neg (noW_end (by omega))] at a
    rw [orL]
    refine ⟨fun cs1 σ1 q => ?_, fun e q => (by cases q)⟩
    cases q
    refine ⟨S, ?_, h, fM_rf _ S⟩
    rw [f_X7_test_12]
    by_cases e : 1600 ≤ i
    · rw [if_pos ((geL 1600 (by omega) (by decide)).mpr e)]
    · rw [if_neg (fun q => e ((geL 1600 (by omega) (by decide)).mp q)), show f_X10_isWord (23 : Int32) S = _ from a, ob2_s, if_pos rfl]
  | succ n ih =>
    intro cs C0 σ i k S hn h hl hi hk
    have hT := h.1.1.1
    have hσ := h.1.2.1
    obtain ⟨k, rfl⟩ : ∃ q, k = q + 1 := ⟨k - 1, by omega⟩
    have a := h_isW (i := 23) h.1 (by decide)
    rw [show wL.getD 23 [] = wOr from rfl] at a
    rw [orL, f_X7_test_12]
    by_cases e : 1600 ≤ i
    · rw [if_pos ((geL 1600 (by omega) (by decide)).mpr e), if_neg (noW_end (by omega))]
      refine ⟨fun cs1 σ1 q => ?_, fun e q => (by cases q)⟩
      cases q
      exact ⟨S, rfl, h, fM_rf _ S⟩
    rw [if_neg (fun q => e ((geL 1600 (by omega) (by decide)).mp q)), show f_X10_isWord (23 : Int32) S = _ from a, ob2_s]
    by_cases g : isW T σ wOr = true
    · obtain ⟨n1, n2⟩ := nx_mv hσ (isW_k g)
      obtain ⟨S1, r1, r2, r3⟩ := h_next h.1
      have h1 := gR_t h (fM_mo r3 (fun _ _ => n_t)) r2
      have f1 : fM (gP p) S S1 := fM_mo r3 (fun _ _ q => t_g (n_t q))
      obtain ⟨u1, u2⟩ := hG (nx T σ) (C0 ++ cs) S1 h1 (by omega)
      rw [if_pos g, if_pos g, if_neg ne1, r1, ob_s]
      cases hq : an T P (nx T σ) with
      | error er =>
        obtain ⟨S2, v1, v2, v3⟩ := u2 er hq
        refine ⟨fun cs1 σ1 q => (by cases q), fun e q => ?_⟩
        cases q
        rw [v1, ob2_s, if_pos rfl]
        exact ⟨S2, rfl, v2, fM_tr f1 v3⟩
      | ok r =>
        obtain ⟨S2, v1, v2, v3⟩ := u1 r.1 r.2 hq
        have hm := an_mv hP _ r.1 r.2 n2 hq
        obtain ⟨S3, w1, w2, w3⟩ := h_add (c := 11) v2 (by simp at hl ⊢; omega)
        rw [v1, ob2_s, if_neg ne1, ldP_n v2.2.2.1.1 v2.2.2.1.2, show (10107 : Int32) = nI (hcd 11) from rfl, w1, ob_s, le1_e, nI_1]
        have hI := ih (cs ++ r.1 ++ [11]) C0 r.2 (i + 1) k S3 (by omega) (by simp only [List.append_assoc] at w2 ⊢; exact w2) (by simp at hl ⊢; omega) (by omega) (by omega)
        exact gOK_f hI (fM_tr f1 (fM_tr v3 w3)) (fun cs1 σ1 q => ⟨cs1, q, rfl⟩) (fun e q => q)
    rw [if_neg g, if_neg g, if_pos rfl]
    refine ⟨fun cs1 σ1 q => ?_, fun e q => (by cases q)⟩
    cases q
    exact ⟨S, rfl, h, fM_rf _ S⟩
theorem h_ts {G : Nat → Nat → Int32 → Hp → Option (Int32 × Hp)} {x : Int32} {T : Tp} {m a0 p : Nat} {P : Lx → Ps} (hG : gG G 1 x T m a0 p (an T P)) (hP : mv T P) (σ : Lx) (Cs : List Nat) (S : Hp) (h : gR S T m σ a0 p Cs) (hl : Cs.length ≤ σ.1) : gOK (f_X7_test G a0 x S) S T m a0 p Cs (ts T P σ) := by
  have hT := h.1.1.1
  obtain ⟨u1, u2⟩ := hG σ Cs S h hl
  unfold f_X7_test ts
  cases hq : an T P σ with
  | error er =>
    obtain ⟨S2, v1, v2, v3⟩ := u2 er hq
    refine ⟨fun cs1 σ1 q => (by cases q), fun e q => ?_⟩
    cases q
    rw [v1, ob2_s, if_pos rfl]
    exact ⟨S2, rfl, v2, v3⟩
  | ok r =>
    obtain ⟨S2, v1, v2, v3⟩ := u1 r.1 r.2 hq
    have hm := an_mv hP _ r.1 r.2 h.1.2.1 hq
    rw [v1, ob2_s, if_neg ne1]
    have hI := h_orL hG hP T.2 r.1 Cs r.2 0 5000 S2 (by omega) v2 (by simp; omega) (by omega) (by omega)
    exact gOK_f hI v3 (fun cs1 σ1 q => ⟨cs1, q, rfl⟩) (fun e q => q)
theorem g_ts {k : Nat} {x : Int32} {T : Tp} {m a0 p : Nat} {P : Lx → Ps} (hP : mv T P) (h : gG (grpH k) 2 x T m a0 p P) : gG (grpH (k + 2)) 0 x T m a0 p (ts T P) := by
  have h5 : gG (grpH (k + 1)) 1 x T m a0 p (an T P) := by
    intro σ Cs S hg hl
    rw [grpH, if_neg (by decide), if_pos rfl]
    exact h_an h hP σ Cs S hg hl
  intro σ Cs S hg hl
  rw [grpH, if_pos rfl]
  exact h_ts h5 hP σ Cs S hg hl
theorem h_cm {G : Nat → Nat → Int32 → Hp → Option (Int32 × Hp)} {x : Int32} {T : Tp} {m a0 p : Nat} {P : Lx → Ps} (hG : gG G 4 x T m a0 p (sm T P)) (hP : mv T P) (σ : Lx) (Cs : List Nat) (S : Hp) (h : gR S T m σ a0 p Cs) (hl : Cs.length ≤ σ.1) : gOK (f_X7_compared G a0 x S) S T m a0 p Cs (cm T P σ) := by
  have hT := h.1.1.1
  obtain ⟨u1, u2⟩ := hG σ Cs S h hl
  unfold f_X7_compared cm
  cases hq : sm T P σ with
  | error er =>
    obtain ⟨S2, v1, v2, v3⟩ := u2 er hq
    refine ⟨fun cs1 σ1 q => (by cases q), fun e q => ?_⟩
    cases q
    rw [v1, ob2_s, if_pos rfl]
    exact ⟨S2, rfl, v2, v3⟩
  | ok r =>
    obtain ⟨S2, v1, v2, v3⟩ := u1 r.1 r.2 hq
    have hm := sm_mv hP _ r.1 r.2 h.1.2.1 hq
    rw [v1, ob2_s, if_neg ne1, show f_X10_isSign (60 : Int32) S2 = _ from h_isG (c := 60) v2.1 (by decide), ob2_s]
    show gOK _ S T m a0 p Cs (if cmC T r.2 = 0 then .error (1, tS T r.2) else bn (sm T P (nx T r.2)) (fun c2 σ2 => .ok (r.1 ++ c2 ++ [cmC T r.2], σ2)))
    have go : ∀ o, ((o = 7 ∨ o = 8 ∨ o = 9) ∧ cmC T r.2 = o) → gOK (f_X7_compared_65 G a0 x (nI (hcd o)) S2) S T m a0 p Cs (if cmC T r.2 = 0 then .error (1, tS T r.2) else bn (sm T P (nx T r.2)) (fun c2 σ2 => .ok (r.1 ++ c2 ++ [cmC T r.2], σ2))) := by
      rintro o ⟨ho, hc⟩
      have hk0 : tK T r.2 ≠ 0 := cmC_k (by omega)
      obtain ⟨n1, n2⟩ := nx_mv hm.2.2 hk0
      obtain ⟨S3, r1, r2, r3⟩ := h_next v2.1
      have h3 := gR_t v2 (fM_mo r3 (fun _ _ => n_t)) r2
      have f3 : fM (gP p) S S3 := fM_tr v3 (fM_mo r3 (fun _ _ q => t_g (n_t q)))
      obtain ⟨x1, x2⟩ := hG (nx T r.2) (Cs ++ r.1) S3 h3 (by simp; omega)
      rw [if_neg (by omega), hc]
      unfold f_X7_compared_65
      rw [if_neg (by rcases ho with rfl | rfl | rfl <;> decide), r1, ob_s]
      cases hq2 : sm T P (nx T r.2) with
      | error er =>
        obtain ⟨S5, y1, y2, y3⟩ := x2 er hq2
        refine ⟨fun cs1 σ1 q => (by cases q), fun e q => ?_⟩
        cases q
        rw [y1, ob2_s, if_pos rfl]
        exact ⟨S5, rfl, y2, fM_tr f3 y3⟩
      | ok t =>
        obtain ⟨S5, y1, y2, y3⟩ := x1 t.1 t.2 hq2
        have hm2 := sm_mv hP _ t.1 t.2 n2 hq2
        obtain ⟨S6, w1, w2, w3⟩ := h_add (c := o) y2 (by simp; omega)
        refine ⟨fun cs1 σ1 q => ?_, fun e q => (by cases q)⟩
        cases q
        rw [y1, ob2_s, if_neg ne1, ldP_n y2.2.2.1.1 y2.2.2.1.2, w1, ob_s]
        exact ⟨S6, rfl, by simp only [List.append_assoc] at w2 ⊢; exact w2, fM_tr f3 (fM_tr y3 w3)⟩
    by_cases g1 : isG T r.2 60 = true
    · rw [if_pos g1, if_neg ne1]
      exact go 7 ⟨Or.inl rfl, if_pos g1⟩
    rw [if_neg g1, if_pos rfl, show f_X10_isSign (62 : Int32) S2 = _ from h_isG (c := 62) v2.1 (by decide), ob2_s]
    by_cases g2 : isG T r.2 62 = true
    · rw [if_pos g2, if_neg ne1]
      exact go 8 ⟨Or.inr (Or.inl rfl), by unfold cmC; rw [if_neg g1, if_pos g2]⟩
    rw [if_neg g2, if_pos rfl, show f_X10_isSign (61 : Int32) S2 = _ from h_isG (c := 61) v2.1 (by decide), ob2_s]
    by_cases g3 : isG T r.2 61 = true
    · rw [if_pos g3, if_neg ne1]
      exact go 9 ⟨Or.inr (Or.inr rfl), by unfold cmC; rw [if_neg g1, if_neg g2, if_pos g3]⟩
    have hc : cmC T r.2 = 0 := by unfold cmC; rw [if_neg g1, if_neg g2, if_neg g3]
    obtain ⟨S3, w1, w2, w3⟩ := h_wrong (S := S2) (k := 1) (p := tS T r.2) ⟨by decide, by decide⟩ (tS16 v2.1).1
    rw [if_neg g3, if_pos rfl, if_pos hc]
    unfold f_X7_compared_65
    rw [if_pos rfl, v2.1.2.2.2.1, show f_X10_wrong (1 : Int32) _ S2 = _ from w1, ob2_s, tr0]
    refine ⟨fun cs1 σ1 q => (by cases q), fun e q => ?_⟩
    cases q
    exact ⟨S3, rfl, w2, fM_tr v3 (fM_mo w3 (fun _ _ q => t_g (w_t q)))⟩
theorem cf_step {T : Tp} {m d a0 p k : Nat} {O : Option (Lx → Ps)} (hd : d ≤ 6) (hO : (d = 0 ∧ O = none) ∨ ∃ d', d = d' + 1 ∧ O = some (fcD T m d') ∧ ∀ j, k ≤ j + 2 → gG (grpH j) 2 (nI (6 - d')) T m a0 p (fcD T m d')) (hk : 4 * d + 6 ≤ k) : gG (grpH (k + 2)) 2 (nI (6 - d)) T m a0 p (fcB T O (ptD T m d)) := by
  intro σ Cs S h hl
  have hT := h.1.1.1
  have hσ := h.1.2.1
  rw [grpH, if_neg (by decide), if_neg (by decide), if_pos rfl]
  unfold f_X7_fact
  rw [show f_X10_isWord (25 : Int32) S = _ from h_isW (i := 25) h.1 (by decide), ob2_s, show wL.getD 25 [] = wNot from rfl]
  by_cases gn : isW T σ wNot = true
  · obtain ⟨n1, n2⟩ := nx_mv hσ (isW_k gn)
    have eB : fcB T O (ptD T m d) σ = opn O (tS T σ) (fun F => bn (F (nx T σ)) (fun cs σ1 => .ok (cs ++ [12], σ1))) := by
      unfold fcB
      rw [if_pos gn]
    obtain ⟨r, S1, r1, r2, r3, r4⟩ := h_opens (op := 6 - d) h (by omega)
    rw [eB, if_neg (fun x => ite01.mp x gn), r1, ob2_s]
    rcases hO with ⟨rfl, rfl⟩ | ⟨d', rfl, rfl, hP⟩
    · obtain ⟨rfl, r5⟩ := r4 rfl
      rw [opn_n, if_pos rfl]
      refine ⟨fun cs1 σ1 q => (by cases q), fun e q => ?_⟩
      cases q
      exact ⟨S1, rfl, r5, r2⟩
    · obtain ⟨rfl, r5⟩ := r3 (by omega)
      rw [opn_s, if_neg ne1, nI_1, show 6 - (d' + 1) + 1 = 6 - d' by omega]
      obtain ⟨u1, u2⟩ := hP (k + 1) (by omega) (nx T σ) Cs S1 r5 (by omega)
      cases hq : fcD T m d' (nx T σ) with
      | error er =>
        obtain ⟨S2, v1, v2, v3⟩ := u2 er hq
        refine ⟨fun cs1 σ1 q => (by cases q), fun e q => ?_⟩
        cases q
        rw [v1, ob2_s, if_pos rfl]
        exact ⟨S2, rfl, v2, fM_tr r2 v3⟩
      | ok r =>
        obtain ⟨S2, v1, v2, v3⟩ := u1 r.1 r.2 hq
        have hm := fcD_mv T m d' _ r.1 r.2 n2 hq
        obtain ⟨S3, w1, w2, w3⟩ := h_add (c := 12) v2 (by simp; omega)
        refine ⟨fun cs1 σ1 q => ?_, fun e q => (by cases q)⟩
        cases q
        rw [v1, ob2_s, if_neg ne1, ldP_n v2.2.2.1.1 v2.2.2.1.2, show (10111 : Int32) = nI (hcd 12) from rfl, w1, ob_s]
        exact ⟨S3, rfl, by simp only [List.append_assoc] at w2 ⊢; exact w2, fM_tr r2 (fM_tr v3 w3)⟩
  rw [if_pos (ite01.mpr gn), show f_X10_isSign (91 : Int32) S = _ from h_isG (c := 91) h.1 (by decide), ob2_s]
  by_cases gs : isG T σ 91 = true
  · obtain ⟨n1, n2⟩ := nx_mv hσ (isG_k gs)
    have eB : fcB T O (ptD T m d) σ = opn O (tS T σ) (fun F => bn (ts T F (nx T σ)) (fun cs σ1 => bs (tkG T 93 σ1) (fun σ2 => .ok (cs, σ2)))) := by
      unfold fcB
      rw [if_neg gn, if_pos gs]
    obtain ⟨r, S1, r1, r2, r3, r4⟩ := h_opens (op := 6 - d) h (by omega)
    rw [eB, if_neg (fun x => ite01.mp x gs), r1, ob2_s]
    rcases hO with ⟨rfl, rfl⟩ | ⟨d', rfl, rfl, hP⟩
    · obtain ⟨rfl, r5⟩ := r4 rfl
      rw [opn_n, if_pos rfl]
      refine ⟨fun cs1 σ1 q => (by cases q), fun e q => ?_⟩
      cases q
      exact ⟨S1, rfl, r5, r2⟩
    · obtain ⟨rfl, r5⟩ := r3 (by omega)
      rw [opn_s, if_neg ne1, nI_1, show 6 - (d' + 1) + 1 = 6 - d' by omega]
      obtain ⟨k3, rfl⟩ : ∃ q, k = q + 1 := ⟨k - 1, by omega⟩
      obtain ⟨u1, u2⟩ := g_ts (fcD_mv T m d') (hP k3 (by omega)) (nx T σ) Cs S1 r5 (by omega)
      cases hq : ts T (fcD T m d') (nx T σ) with
      | error er =>
        obtain ⟨S2, v1, v2, v3⟩ := u2 er hq
        refine ⟨fun cs1 σ1 q => (by cases q), fun e q => ?_⟩
        cases q
        rw [v1, ob2_s, if_pos rfl]
        exact ⟨S2, rfl, v2, fM_tr r2 v3⟩
      | ok r =>
        obtain ⟨S2, v1, v2, v3⟩ := u1 r.1 r.2 hq
        rw [v1, ob2_s, if_neg ne1]
        refine gOK_f (h_close (c := 93) (C := Cs) (cs := r.1) v2 (by decide) (fun r S' e hr => ?_)) (fM_tr r2 v3) (fun cs1 σ1 q => ⟨cs1, q, rfl⟩) (fun e q => q)
        rw [show f_X10_takeSign (93 : Int32) S2 = _ from e, ob2_s]
        rcases hr with rfl | rfl
        · rw [if_pos rfl]
        · rw [if_neg ne1]
  rw [if_pos (ite01.mpr gs), show f_X10_isWord (26 : Int32) S = _ from h_isW (i := 26) h.1 (by decide), ob2_s, show wL.getD 26 [] = wAll from rfl]
  unfold fcB
  rw [if_neg gn, if_neg gs]
  by_cases ga : isW T σ wAll = true
  · obtain ⟨n1, n2⟩ := nx_mv hσ (isW_k ga)
    obtain ⟨S1, r1, r2, r3⟩ := h_next h.1
    have h1 := gR_t h (fM_mo r3 (fun _ _ => n_t)) r2
    obtain ⟨S2, w1, w2, w3⟩ := h_add (c := 13) h1 (by omega)
    rw [if_neg (fun x => ite01.mp x ga), if_pos ga, r1, ob_s, ldP_n h1.2.2.1.1 h1.2.2.1.2, show f_X4_add p (1 : Int32) S1 = _ from w1, ob_s]
    refine ⟨fun cs1 σ1 q => ?_, fun e q => (by cases q)⟩
    cases q
    exact ⟨S2, rfl, w2, fM_tr (fM_mo r3 (fun _ _ q => t_g (n_t q))) w3⟩
  rw [if_pos (ite01.mpr ga), if_neg ga]
  obtain ⟨k3, rfl⟩ : ∃ q, k = q + 2 := ⟨k - 2, by omega⟩
  have hc := h_cm (g_sm (ptD_mv T m d) (cp_sim T m a0 p d hd k3 (by omega))) (ptD_mv T m d) σ Cs S h hl
  rw [grpH, if_neg (by decide), if_neg (by decide), if_neg (by decide), if_pos rfl]
  refine ⟨fun cs1 σ1 q => ?_, fun e q => ?_⟩
  · obtain ⟨S', a, b, c⟩ := hc.1 cs1 σ1 q
    exact ⟨S', by rw [a, ob2_s, tr1], b, c⟩
  · obtain ⟨S', a, b, c⟩ := hc.2 e q
    exact ⟨S', by rw [a, ob2_s, tr0], b, c⟩
theorem cf_sim (T : Tp) (m a0 p : Nat) : ∀ d, d ≤ 6 → ∀ k, 4 * d + 8 ≤ k → gG (grpH k) 2 (nI (6 - d)) T m a0 p (fcD T m d)
  | 0, _, k, hk => by
    obtain ⟨k, rfl⟩ : ∃ q, k = q + 2 := ⟨k - 2, by omega⟩
    exact cf_step (O := none) (by decide) (Or.inl ⟨rfl, rfl⟩) (by omega)
  | d + 1, hd, k, hk => by
    obtain ⟨k, rfl⟩ : ∃ q, k = q + 2 := ⟨k - 2, by omega⟩
    exact cf_step (O := some (fcD T m d)) hd (Or.inr ⟨d, rfl, rfl, fun j hj => cf_sim T m a0 p d (by omega) j (by omega)⟩) (by omega)
/-- a sum, a test, from an empty formula on -/
theorem gR_aim {S : Hp} {T : Tp} {m a0 p : Nat} {σ : Lx} (h : tR S T σ) (ha : a0 = 25 ∨ a0 = 35) (hp : p ∈ yH.1 ∧ yH.2.1 p = (1, 4)) (hm : m < 3) : ∃ S', f_X7_aim a0 p (nI (mk m)) S = some S' ∧ gR S' T m σ a0 p [] ∧ S'.1 = (ho_sI (ho_sI S p 2 0) a0 2 (nI (mk m))).1 ∧ S'.2.1 = S.2.1 ∧ (∀ b k, ¬ (b = a0 ∧ k = 1) → S'.2.2 b k = S.2.2 b k) ∧ S'.2.2 a0 1 = p := by
  have hp4 := c4H hp
  have e1 : (ho_sP S a0 1 p).2.2 a0 1 = p := by
    show (if a0 = a0 then va_up (S.2.2 a0) 1 p else S.2.2 a0) 1 = p
    rw [if_pos rfl]
    exact if_pos rfl
  refine ⟨ho_sI (ho_sI (ho_sP S a0 1 p) p 2 0) a0 2 (nI (mk m)), ?_, ⟨?_, ha, ⟨e1, hp⟩, ⟨sI_v, hm⟩, ?_, fun j hj => absurd hj (by simp)⟩, rfl, rfl, fun b k hb => ?_, e1⟩
  · unfold f_X7_aim f_X4_clear
    rw [le1_e, ldP_n e1 hp, le1_e, ob_s, le1_e]
  · have e10 : ∀ b, b ≠ p → b ≠ a0 → (ho_sI (ho_sI (ho_sP S a0 1 p) p 2 0) a0 2 (nI (mk m))).1 b = S.1 b := fun b h1 h2 => by rw [sI_ne _ h2, sI_ne _ h1]; rfl
    have z10 := e10 10 (by clear h; omega) (by clear h; omega)
    have z11 := e10 11 (by clear h; omega) (by clear h; omega)
    have z12 := e10 12 (by clear h; omega) (by clear h; omega)
    obtain ⟨⟨b1, b2, b3, b4⟩, h2⟩ := h
    unfold tR tB
    rw [z10, z11, z12]
    exact ⟨⟨b1, b2, b3, b4⟩, h2⟩
  · rw [sI_ne _ (by omega), sI_v]; rfl
  · show (if b = a0 then va_up (S.2.2 a0) 1 p else S.2.2 b) k = S.2.2 b k
    by_cases q : b = a0
    · subst q
      rw [if_pos rfl]
      exact if_neg (fun x => hb ⟨rfl, x⟩)
    · rw [if_neg q]

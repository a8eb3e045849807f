/-! level 2: the reference reads tests as by descent -/
def okH (X : Option Hp) (S : Hp) (T : Tp) (m : Nat) (σ1 : Lx) (W Cs : List Nat) (op b0 : Nat) : Prop := ∃ k1 j1 S1, X = hB k1 j1 S1 ∧ qR S1 T m σ1 W Cs op b0 ∧ (T.2 + 2 ≤ k1 + σ1.1 ∧ T.2 + 2 ≤ j1 + σ1.1) ∧ fM pP S S1
def okW (W : List Nat) : Prop := (∀ z, W.getLast? = some z → 5 ≤ z ∧ z < 60 ∧ z ≠ 12) ∧ ∀ z ∈ W, z < 1000
def FT (T : Tp) (m d : Nat) : Prop := ∀ (σ : Lx) (W Cs : List Nat) (c b0 k : Nat) (S : Hp), qR S T m σ (W ++ List.replicate c 12) Cs (6 - d) b0 → okW W → c ≤ 6 - d → W.length + c + Cs.length ≤ σ.1 → T.2 + 2 ≤ k + σ.1 →
  (∀ cs σ1, fcD T m d σ = .ok (cs, σ1) → okH (f_X12_qTest_2 k 1 S) S T m σ1 W (Cs ++ cs ++ List.replicate c 12) (6 - d - c) b0 ∧ σ.1 + cs.length ≤ σ1.1 ∧ σ.1 < σ1.1) ∧ (∀ e, fcD T m d σ = .error e → erT (f_X12_qTest_2 k 1 S) S e)
def sH (X : Option Hp) (S : Hp) (T : Tp) (m : Nat) (σ σ1 : Lx) (V C : List Nat) (op b0 : Nat) (g : Nat → Prop) : Prop := ∃ k1 j1 S1 R1 Cs1, X = hB k1 j1 S1 ∧ qR S1 T m σ1 (V ++ R1.reverse) Cs1 op b0 ∧ (∀ y ∈ R1, g y) ∧ Cs1 ++ R1 = C ∧ V.length + R1.length + Cs1.length ≤ σ1.1 ∧ (T.2 + 2 ≤ k1 + σ1.1 ∧ T.2 + 2 ≤ j1 + σ1.1) ∧ fM pP S S1 ∧ σ.1 ≤ σ1.1
theorem noW_end {T : Tp} {σ : Lx} {w : List Nat} (h : T.2 ≤ σ.1) : ¬ isW T σ w = true := by
  intro q
  have h1 := tE_gt (isW_k q)
  have h2 := tS_ge T σ
  omega
theorem anL_sim {T : Tp} {m d b0 : Nat} {V C0 : List Nat} (hF : FT T m d) (hV : okW V) (hV2 : ∀ z, V.getLast? = some z → z ≠ 10) : ∀ (n : Nat) (cs : List Nat) (σ : Lx) (R Cs0 : List Nat) (k j : Nat) (S : Hp), T.2 ≤ n + σ.1 → qR S T m σ (V ++ R.reverse) Cs0 (6 - d) b0 → (∀ y ∈ R, y = 10) → Cs0 ++ R = C0 ++ cs → V.length + R.length + Cs0.length ≤ σ.1 → T.2 + 2 ≤ k + σ.1 → T.2 + 2 ≤ j + σ.1 →
    (∀ cs1 σ1, anL T (fcD T m d) n cs σ = .ok (cs1, σ1) → sH (hB k j S) S T m σ σ1 V (C0 ++ cs1) (6 - d) b0 (fun y => y = 10) ∧ ¬ isW T σ1 wAnd = true) ∧ (∀ e, anL T (fcD T m d) n cs σ = .error e → erT (hB k j S) S e) := by
  intro n
  induction n with
  | zero =>
    intro cs σ R Cs0 k j S hn h hR hC hl hk hj
    rw [anL]
    refine ⟨fun cs1 σ1 e => ?_, fun e q => (by cases q)⟩
    cases e
    exact ⟨⟨k, j, S, R, Cs0, rfl, h, hR, hC, hl, ⟨hk, hj⟩, fM_rf _ S, Nat.le_refl _⟩, noW_end (by omega)⟩
  | succ n ih =>
    intro cs σ R Cs0 k j S hn h hR hC hl hk hj
    have hσ := h.1.2.1
    have hT := h.1.1.1
    rw [anL]
    by_cases g : isW T σ wAnd = true
    · rw [if_pos g]
      obtain ⟨n1, n2⟩ := nx_mv hσ (isW_k g)
      obtain ⟨j, rfl⟩ : ∃ q, j = q + 1 := ⟨j - 1, by omega⟩
      obtain ⟨S1, r1, r2, r3⟩ := t_and (k := k) (j := j) h g hV2 hV.2 hR (by omega)
      obtain ⟨p1, p2⟩ := hF (nx T σ) (V ++ [10]) (Cs0 ++ R) 0 b0 k S1 (by rw [List.replicate_zero, List.append_nil]; exact r2) ⟨fun z hz => by simp at hz; omega, fun z hz => by
        simp only [List.mem_append, List.mem_singleton] at hz
        rcases hz with hz | hz
        · exact hV.2 z hz
        · omega⟩ (by omega) (by simp; omega) (by omega)
      rw [r1]
      cases hq : fcD T m d (nx T σ) with
      | error e =>
        refine ⟨fun cs1 σ1 q => (by cases q), fun e2 q => ?_⟩
        cases q
        exact erT_f (p2 e hq) rfl r3
      | ok r =>
        obtain ⟨⟨k1, j1, S2, u1, u2, u3, u4⟩, hm1, hm2⟩ := p1 r.1 r.2 hq
        rw [List.replicate_zero, List.append_nil] at u2
        have f2 : fM pP S S2 := fM_tr r3 u4
        obtain ⟨v1, v2⟩ := ih (cs ++ r.1 ++ [10]) r.2 [10] (Cs0 ++ R ++ r.1) k1 j1 S2 (by omega) u2 (fun y hy => by simp at hy; omega) (by rw [hC]; simp) (by simp; omega) u3.1 u3.2
        refine ⟨fun cs1 σ1 q => ?_, fun e q => erT_f (v2 e q) u1 f2⟩
        obtain ⟨⟨k2, j2, S3, R3, Cs3, w1, w2, w3, w4, w5, w6, w7, w9⟩, w8⟩ := v1 cs1 σ1 q
        exact ⟨⟨k2, j2, S3, R3, Cs3, u1.trans w1, w2, w3, w4, w5, w6, fM_tr f2 w7, by omega⟩, w8⟩
    · rw [if_neg g]
      refine ⟨fun cs1 σ1 e => ?_, fun e q => (by cases q)⟩
      cases e
      exact ⟨⟨k, j, S, R, Cs0, rfl, h, hR, hC, hl, ⟨hk, hj⟩, fM_rf _ S, Nat.le_refl _⟩, g⟩
theorem an_sim {T : Tp} {m d b0 : Nat} {V Cs : List Nat} (hF : FT T m d) (hV : okW V) (hV2 : ∀ z, V.getLast? = some z → z ≠ 10) {σ : Lx} {k : Nat} {S : Hp} (h : qR S T m σ V Cs (6 - d) b0) (hl : V.length + Cs.length ≤ σ.1) (hk : T.2 + 2 ≤ k + σ.1) :
    (∀ cs1 σ1, an T (fcD T m d) σ = .ok (cs1, σ1) → sH (f_X12_qTest_2 k 1 S) S T m σ σ1 V (Cs ++ cs1) (6 - d) b0 (fun y => y = 10) ∧ ¬ isW T σ1 wAnd = true ∧ σ.1 < σ1.1) ∧ (∀ e, an T (fcD T m d) σ = .error e → erT (f_X12_qTest_2 k 1 S) S e) := by
  obtain ⟨p1, p2⟩ := hF σ V Cs 0 b0 k S (by rw [List.replicate_zero, List.append_nil]; exact h) hV (by omega) (by omega) hk
  unfold an
  cases hq : fcD T m d σ with
  | error e =>
    refine ⟨fun cs1 σ1 q => (by cases q), fun e2 q => ?_⟩
    cases q
    exact p2 e hq
  | ok r =>
    obtain ⟨⟨k1, j1, S2, u1, u2, u3, u4⟩, hm1, hm2⟩ := p1 r.1 r.2 hq
    rw [List.replicate_zero, List.append_nil] at u2
    obtain ⟨v1, v2⟩ := anL_sim (C0 := Cs) hF hV hV2 T.2 r.1 r.2 [] (Cs ++ r.1) k1 j1 S2 (by omega) (by simpa using u2) (fun y hy => (by cases hy)) (by simp) (by simp; omega) u3.1 u3.2
    refine ⟨fun cs1 σ1 q => ?_, fun e q => erT_f (v2 e q) u1 u4⟩
    obtain ⟨⟨k2, j2, S3, R3, Cs3, w1, w2, w3, w4, w5, w6, w7, w9⟩, w8⟩ := v1 cs1 σ1 q
    exact ⟨⟨k2, j2, S3, R3, Cs3, u1.trans w1, w2, w3, w4, w5, w6, fM_tr u4 w7, by omega⟩, w8, by omega⟩
theorem orL_sim {T : Tp} {m d b0 : Nat} {V C0 : List Nat} (hF : FT T m d) (hV : okW V) (hV2 : ∀ z, V.getLast? = some z → z ≠ 10 ∧ z ≠ 11) : ∀ (n : Nat) (cs : List Nat) (σ : Lx) (R Cs0 : List Nat) (k j : Nat) (S : Hp), T.2 ≤ n + σ.1 → qR S T m σ (V ++ R.reverse) Cs0 (6 - d) b0 → (∀ y ∈ R, y = 10 ∨ y = 11) → Cs0 ++ R = C0 ++ cs → V.length + R.length + Cs0.length ≤ σ.1 → T.2 + 2 ≤ k + σ.1 → T.2 + 2 ≤ j + σ.1 → ¬ isW T σ wAnd = true →
    (∀ cs1 σ1, orL T (fcD T m d) n cs σ = .ok (cs1, σ1) → sH (hB k j S) S T m σ σ1 V (C0 ++ cs1) (6 - d) b0 (fun y => y = 10 ∨ y = 11) ∧ noA T σ1) ∧ (∀ e, orL T (fcD T m d) n cs σ = .error e → erT (hB k j S) S e) := by
  intro n
  induction n with
  | zero =>
    intro cs σ R Cs0 k j S hn h hR hC hl hk hj g1
    rw [orL]
    refine ⟨fun cs1 σ1 e => ?_, fun e q => (by cases q)⟩
    cases e
    exact ⟨⟨k, j, S, R, Cs0, rfl, h, hR, hC, hl, ⟨hk, hj⟩, fM_rf _ S, Nat.le_refl _⟩, g1, noW_end (by omega)⟩
  | succ n ih =>
    intro cs σ R Cs0 k j S hn h hR hC hl hk hj g1
    have hσ := h.1.2.1
    have hT := h.1.1.1
    rw [orL]
    by_cases g : isW T σ wOr = true
    · rw [if_pos g]
      obtain ⟨n1, n2⟩ := nx_mv hσ (isW_k g)
      obtain ⟨j, rfl⟩ : ∃ q, j = q + 1 := ⟨j - 1, by omega⟩
      obtain ⟨S1, r1, r2, r3⟩ := t_or (k := k) (j := j) h g hV2 hV.2 hR (by omega)
      obtain ⟨p1, p2⟩ := an_sim (V := V ++ [11]) (Cs := Cs0 ++ R) hF ⟨fun z hz => by simp at hz; omega, fun z hz => by
        simp only [List.mem_append, List.mem_singleton] at hz
        rcases hz with hz | hz
        · exact hV.2 z hz
        · omega⟩ (fun z hz => by simp at hz; omega) (k := k) r2 (by simp; omega) (by omega)
      rw [r1]
      cases hq : an T (fcD T m d) (nx T σ) with
      | error e =>
        refine ⟨fun cs1 σ1 q => (by cases q), fun e2 q => ?_⟩
        cases q
        exact erT_f (p2 e hq) rfl r3
      | ok r =>
        obtain ⟨⟨k1, j1, S2, R2, Cs2, u1, u2, u3, u4, u5, u6, u7, uz⟩, u8, u9⟩ := p1 r.1 r.2 hq
        have f2 : fM pP S S2 := fM_tr r3 u7
        rw [show V ++ [11] ++ R2.reverse = V ++ (R2 ++ [11]).reverse by simp] at u2
        simp only [List.length_append, List.length_cons, List.length_nil] at u5
        obtain ⟨v1, v2⟩ := ih (cs ++ r.1 ++ [11]) r.2 (R2 ++ [11]) Cs2 k1 j1 S2 (by omega) u2 (fun y hy => by
          simp only [List.mem_append, List.mem_singleton] at hy
          rcases hy with hy | hy
          · have := u3 y hy; omega
          · omega) (by rw [← List.append_assoc, u4, hC]; simp) (by simp; omega) u6.1 u6.2 u8
        refine ⟨fun cs1 σ1 q => ?_, fun e q => erT_f (v2 e q) u1 f2⟩
        obtain ⟨⟨k2, j2, S3, R3, Cs3, w1, w2, w3, w4, w5, w6, w7, w9⟩, w8⟩ := v1 cs1 σ1 q
        exact ⟨⟨k2, j2, S3, R3, Cs3, u1.trans w1, w2, w3, w4, w5, w6, fM_tr f2 w7, by omega⟩, w8⟩
    · rw [if_neg g]
      refine ⟨fun cs1 σ1 e => ?_, fun e q => (by cases q)⟩
      cases e
      exact ⟨⟨k, j, S, R, Cs0, rfl, h, hR, hC, hl, ⟨hk, hj⟩, fM_rf _ S, Nat.le_refl _⟩, g1, g⟩
theorem ts_sim {T : Tp} {m d b0 : Nat} {V Cs : List Nat} (hF : FT T m d) (hV : okW V) (hV2 : ∀ z, V.getLast? = some z → z ≠ 10 ∧ z ≠ 11) {σ : Lx} {k : Nat} {S : Hp} (h : qR S T m σ V Cs (6 - d) b0) (hl : V.length + Cs.length ≤ σ.1) (hk : T.2 + 2 ≤ k + σ.1) :
    (∀ cs1 σ1, ts T (fcD T m d) σ = .ok (cs1, σ1) → sH (f_X12_qTest_2 k 1 S) S T m σ σ1 V (Cs ++ cs1) (6 - d) b0 (fun y => y = 10 ∨ y = 11) ∧ noA T σ1 ∧ σ.1 < σ1.1) ∧ (∀ e, ts T (fcD T m d) σ = .error e → erT (f_X12_qTest_2 k 1 S) S e) := by
  obtain ⟨p1, p2⟩ := an_sim hF hV (fun z hz => (hV2 z hz).1) (k := k) h hl hk
  unfold ts
  cases hq : an T (fcD T m d) σ with
  | error e =>
    refine ⟨fun cs1 σ1 q => (by cases q), fun e2 q => ?_⟩
    cases q
    exact p2 e hq
  | ok r =>
    obtain ⟨⟨k1, j1, S2, R2, Cs2, u1, u2, u3, u4, u5, u6, u7, uz⟩, u8, u9⟩ := p1 r.1 r.2 hq
    obtain ⟨v1, v2⟩ := orL_sim (C0 := Cs) hF hV hV2 T.2 r.1 r.2 R2 Cs2 k1 j1 S2 (by omega) u2 (fun y hy => Or.inl (u3 y hy)) u4 u5 u6.1 u6.2 u8
    refine ⟨fun cs1 σ1 q => ?_, fun e q => erT_f (v2 e q) u1 u7⟩
    obtain ⟨⟨k2, j2, S3, R3, Cs3, w1, w2, w3, w4, w5, w6, w7, w9⟩, w8⟩ := v1 cs1 σ1 q
    exact ⟨⟨k2, j2, S3, R3, Cs3, u1.trans w1, w2, w3, w4, w5, w6, fM_tr u7 w7, by omega⟩, w8, by omega⟩
theorem nots_lt {W : List Nat} {c y : Nat} (hx : ∀ z ∈ W, z < 1000) (hy : y < 1000) : ∀ z ∈ W ++ List.replicate c 12 ++ [y], z < 1000 := by
  intro z hz
  simp only [List.mem_append, List.mem_replicate, List.mem_singleton] at hz
  rcases hz with (hz | hz) | hz
  · exact hx z hz
  · omega
  · omega
theorem ft_step {T : Tp} {m d : Nat} {O : Option (Lx → Ps)} (hd : d ≤ 6) (hO : (d = 0 ∧ O = none) ∨ ∃ d', d = d' + 1 ∧ O = some (fcD T m d') ∧ FT T m d') (σ : Lx) (W Cs : List Nat) (c b0 k : Nat) (S : Hp) (h : qR S T m σ (W ++ List.replicate c 12) Cs (6 - d) b0) (hW : okW W) (hc : c ≤ 6 - d) (hl : W.length + c + Cs.length ≤ σ.1) (hk : T.2 + 2 ≤ k + σ.1) :
  (∀ cs σ1, fcB T O (ptD T m d) σ = .ok (cs, σ1) → okH (f_X12_qTest_2 k 1 S) S T m σ1 W (Cs ++ cs ++ List.replicate c 12) (6 - d - c) b0 ∧ σ.1 + cs.length ≤ σ1.1 ∧ σ.1 < σ1.1) ∧ (∀ e, fcB T O (ptD T m d) σ = .error e → erT (f_X12_qTest_2 k 1 S) S e) := by
  have hσ := h.1.2.1
  have hT := h.1.1.1
  have hs := tS_le hσ
  have hlen : (W ++ List.replicate c 12).length = W.length + c := by simp
  obtain ⟨k, rfl⟩ : ∃ q, k = q + 2 := ⟨k - 2, by omega⟩
  obtain ⟨q1, f1⟩ := qR_X h
  have hX := lX_of h.1
  have f1p : fM pP S (ho_sI S 0 2 (nI (tS T σ))) := fM_mo f1 (fun _ _ => lx_p)
  have a82 := m_hereX hX (mW_at q1.2.2.1 82 wNot (by decide))
  have head : f_X12_qTest_2 (k + 2) 1 S = if byt T (tS T σ) = (91 : Int32) then ob (f_X12_qOpens (25 : Int32) (nI (tS T σ)) (ho_sI S 0 2 (nI (tS T σ)))) (fun S8 => le1 (ho_sI S8 0 2 ((S8.1 0 2) + (1 : Int32))) (fun S9 => f_X12_qTest_2 (k + 1) 1 S9)) else if isW T σ wNot = true then ob (f_X12_qOpens (12 : Int32) (nI (tS T σ)) (ho_sI S 0 2 (nI (tS T σ)))) (fun S6 => ob (f_X12_asks 82 3 S6) (fun S7 => f_X12_qTest_2 (k + 1) 1 S7)) else ob (f_X12_qFact (ho_sI S 0 2 (nI (tS T σ)))) (fun S3 => ob (f_X12_qDropsNots S3) (fun S4 => if (S4.1 0 5) = 0 then hB (k + 1) 5000 S4 else f_X12_qTest_105 (f_X12_qTest_2 (k + 1)) S4)) := by
    rw [f_X12_qTest_2, if_neg ne1, if_pos h.1.2.2.1, m_look h.1, ob2_s, hX.2, show f_X12_isHere 82 3 _ = _ from a82, ob2_s, hX.2]
    by_cases e : isW T σ wNot = true
    · rw [if_pos e, if_neg ne1, if_pos e]
    · rw [if_neg e, if_pos rfl, if_neg e]
      rfl
  by_cases gn : isW T σ wNot = true
  · obtain ⟨n1, n2⟩ := nx_mv hσ (isW_k gn)
    rw [if_neg (fun q => isWG gn ((byL 91 (h256 h.1) (by decide)).mp q)), if_pos gn] at head
    have eB : fcB T O (ptD T m d) σ = opn O (tS T σ) (fun F => bn (F (nx T σ)) (fun cs σ1 => .ok (cs ++ [12], σ1))) := by
      unfold fcB
      rw [if_pos gn]
    rw [eB]
    rcases hO with ⟨rfl, rfl⟩ | ⟨d', rfl, rfl, hF⟩
    · rw [opn_n]
      obtain ⟨S7, u1, u2, u3⟩ := m_open6 (x := 12) (p := tS T σ) q1 (by omega)
      rw [show f_X12_qOpens (12 : Int32) (nI (tS T σ)) _ = _ from u1, ob_s, m_asks_b (bR_0 u2), ob_s, hA_bad u2 (by omega)] at head
      refine ⟨fun cs σ1 q => (by cases q), fun e q => ?_⟩
      cases q
      exact ⟨S7, head, u2, fM_tr f1p (fM_mo u3 (fun _ _ => lx_p))⟩
    · rw [opn_s]
      obtain ⟨S7, u1, u2, u3⟩ := m_open (x := 12) (p := tS T σ) q1 (by omega) (by rw [hlen]; omega) (by omega)
      obtain ⟨S8, v1, v2, v3⟩ := m_asks u2.1 (by decide) (mW_at u2.2.2.1 82 wNot (by decide))
      unfold tkW at v3
      rw [if_pos gn] at v3
      have q8 := qR_l u2 v2 v3
      rw [show 6 - (d' + 1) + 1 = 6 - d' by omega, List.append_assoc, ← List.replicate_succ'] at q8
      rw [show f_X12_qOpens (12 : Int32) (nI (tS T σ)) _ = _ from u1, ob_s, show f_X12_asks 82 3 S7 = _ from v1, ob_s] at head
      have f8 : fM pP S S8 := fM_tr f1p (fM_tr (fM_mo u3 (fun _ _ => q_p)) (fM_mo v2 (fun _ _ => lx_p)))
      obtain ⟨p1, p2⟩ := hF (nx T σ) W Cs (c + 1) b0 (k + 1) S8 q8 hW (by omega) (by omega) (by omega)
      rw [head]
      cases hq : fcD T m d' (nx T σ) with
      | error e =>
        refine ⟨fun cs σ1 q => (by cases q), fun e2 q => ?_⟩
        cases q
        exact erT_f (p2 e hq) rfl f8
      | ok r =>
        refine ⟨fun cs σ1 q => ?_, fun e q => (by cases q)⟩
        cases q
        obtain ⟨⟨k1, j1, S2, w1, w2, w3, w4⟩, w5, w6⟩ := p1 r.1 r.2 hq
        refine ⟨⟨k1, j1, S2, w1, ?_, w3, fM_tr f8 w4⟩, by simp; omega, by omega⟩
        rw [show 6 - (d' + 1) - c = 6 - d' - (c + 1) by omega]
        rw [List.replicate_succ] at w2
        simp only [List.append_assoc] at w2 ⊢
        exact w2
  by_cases gs : isG T σ 91 = true
  · obtain ⟨n1, n2⟩ := nx_mv hσ (isG_k gs)
    rw [if_pos ((byL 91 (h256 h.1) (by decide)).mpr gs)] at head
    have eB : fcB T O (ptD T m d) σ = opn O (tS T σ) (fun F => bn (ts T F (nx T σ)) (fun cs σ1 => bs (tkG T 93 σ1) (fun σ2 => .ok (cs, σ2)))) := by
      unfold fcB
      rw [if_neg gn, if_pos gs]
    rw [eB]
    rcases hO with ⟨rfl, rfl⟩ | ⟨d', rfl, rfl, hF⟩
    · rw [opn_n]
      obtain ⟨S7, u1, u2, u3⟩ := m_open6 (x := 25) (p := tS T σ) q1 (by omega)
      have f9 : fM (fun b k => b = 0 ∧ k = 2) S7 (ho_sI S7 0 2 (S7.1 0 2 + 1)) := fM_sI _ ⟨rfl, rfl⟩
      have b9 := bR_f u2 f9 (by omega) (by omega)
      rw [show f_X12_qOpens (25 : Int32) (nI (tS T σ)) _ = _ from u1, ob_s, le1_e, hA_bad b9 (by omega)] at head
      refine ⟨fun cs σ1 q => (by cases q), fun e q => ?_⟩
      cases q
      exact ⟨_, head, b9, fM_tr f1p (fM_tr (fM_mo u3 (fun _ _ => lx_p)) (fM_mo f9 (fun b k q => by unfold pP; omega)))⟩
    · rw [opn_s]
      obtain ⟨S7, u1, u2, u3⟩ := m_open (x := 25) (p := tS T σ) q1 (by omega) (by rw [hlen]; omega) (by omega)
      have e7 : S7.1 0 2 = nI (tS T σ) := (lX_q hX u3).2
      have f8 : fM lxP S7 (ho_sI S7 0 2 (nI (tS T σ + 1))) := fM_sI _ ⟨rfl, (by omega)⟩
      have q8 := qR_l u2 f8 (lR_sg u2.1 (isG_i.mp gs).1)
      rw [show 6 - (d' + 1) + 1 = 6 - d' by omega] at q8
      rw [show f_X12_qOpens (25 : Int32) (nI (tS T σ)) _ = _ from u1, ob_s, e7, nI_1, le1_e] at head
      have f9 : fM pP S (ho_sI S7 0 2 (nI (tS T σ + 1))) := fM_tr f1p (fM_tr (fM_mo u3 (fun _ _ => q_p)) (fM_mo f8 (fun _ _ => lx_p)))
      obtain ⟨p1, p2⟩ := ts_sim (k := k + 1) hF ⟨fun z hz => by simp at hz; omega, nots_lt hW.2 (by omega)⟩ (fun z hz => by simp at hz; omega) q8 (by simp; omega) (by omega)
      rw [head]
      cases hq : ts T (fcD T m d') (nx T σ) with
      | error e =>
        refine ⟨fun cs σ1 q => (by cases q), fun e2 q => ?_⟩
        cases q
        exact erT_f (p2 e hq) rfl f9
      | ok r =>
        obtain ⟨⟨k1, j1, S2, R2, Cs2, v1, v2, v3, v4, v5, v6, v7, vz⟩, v8, v9⟩ := p1 r.1 r.2 hq
        have hσ2 := v2.1.2.1
        have hcs : Cs2.length + R2.length = Cs.length + r.1.length := by
          have := congrArg List.length v4
          simpa using this
        simp only [List.length_append, List.length_replicate, List.length_cons, List.length_nil] at v5
        obtain ⟨j1, rfl⟩ : ∃ q, j1 = q + 1 := ⟨j1 - 1, by omega⟩
        have f2 : fM pP S S2 := fM_tr f9 v7
        obtain ⟨w1, wf⟩ := qR_X v2
        have hxA : ∀ z ∈ W ++ List.replicate c 12 ++ [25] ++ R2.reverse, z < 1000 := by
          intro z hz
          rcases List.mem_append.mp hz with hz | hz
          · exact nots_lt hW.2 (by omega) z hz
          · have := v3 z (by simpa using hz); omega
        have h25 : 25 ∈ W ++ List.replicate c 12 ++ [25] ++ R2.reverse := by simp
        by_cases g93 : isG T r.2 93 = true
        · obtain ⟨n3, n4⟩ := nx_mv hσ2 (isG_k g93)
          have hX2 := lX_of v2.1
          have fg : fM lxP S2 (ho_sI (ho_sI S2 0 2 (nI (tS T r.2))) 0 2 (nI (tS T r.2 + 1))) := fM_tr wf (fM_sI _ ⟨rfl, by omega⟩)
          have qg := qR_l v2 fg (lR_sg hX2.1 (isG_i.mp g93).1)
          obtain ⟨S3, x1, x2, x3⟩ := m_33 (K0 := f_X12_qGoesOnTest_0 j1) (op := 6 - (d' + 1) - c) (fun z hz => (hW.1 z hz).2.2) hW.2 R2 5000 _ Cs2 (by rw [show 6 - (d' + 1) - c + c + 1 = 6 - d' by omega]; exact qg) v3 (by omega) (by omega) (by omega)
          rw [v4] at x2
          have et : tkG T 93 r.2 = .ok (nx T r.2) := if_pos g93
          have eh : hB k1 (j1 + 1) S2 = hB k1 j1 S3 := by
            unfold hB
            rw [f_X12_qGoesOnTest_0, if_pos v2.1.2.2.1, m_look v2.1, ob2_s, if_pos ((byL 93 (h256 v2.1) (by decide)).mpr g93), m_hsq w1.2.2.2 hxA (by simp; omega), ob2_s, if_neg (fun q => ite01.mp q h25), hX2.2, nI_1, le1_e, x1]
          refine ⟨fun cs σ1 q => ?_, fun e q => ?_⟩
          · have q2 : bs (tkG T 93 r.2) (fun σ2 => (.ok (r.1, σ2) : Ps)) = .ok (cs, σ1) := q
            rw [et] at q2
            cases q2
            refine ⟨⟨k1, j1, S3, v1.trans eh, x2, ⟨by omega, by omega⟩, fM_tr f2 (fM_tr (fM_mo fg (fun _ _ => lx_p)) (fM_mo x3 (fun _ _ => q_p)))⟩, ?_, by omega⟩
            have hm := ts_mv (fcD_mv T m d') _ r.1 r.2 n2 hq
            omega
          · have q2 : bs (tkG T 93 r.2) (fun σ2 => (.ok (r.1, σ2) : Ps)) = .error e := q
            rw [et] at q2
            cases q2
        · have et : tkG T 93 r.2 = .error (1, tS T r.2) := if_neg g93
          obtain ⟨S5, x1, x2, x3, x4⟩ := t_76 w1 v8 hxA (by simp; omega)
          have hs2 := tS_le hσ2
          obtain ⟨S6, y1, y2, y3⟩ := m_fail (k := 1) (p := tS T r.2) x2.1.2.2.1 ⟨by decide, by decide⟩ (by omega)
          rw [if_pos h25, show f_X12_fail (1 : Int32) (nI (tS T r.2)) S5 = _ from y1, ob_s] at x4
          have eh : hB k1 (j1 + 1) S2 = some S6 := by
            unfold hB
            rw [hB_n v2 g93, x4, ob2_s, if_pos rfl]
            exact hA_bad y2 (by omega)
          refine ⟨fun cs σ1 q => ?_, fun e q => ?_⟩
          · have q2 : bs (tkG T 93 r.2) (fun σ2 => (.ok (r.1, σ2) : Ps)) = .ok (cs, σ1) := q
            rw [et] at q2
            cases q2
          · have q2 : bs (tkG T 93 r.2) (fun σ2 => (.ok (r.1, σ2) : Ps)) = .error e := q
            rw [et] at q2
            cases q2
            exact ⟨S6, v1.trans eh, y2, fM_tr f2 (fM_mo (fM_tr wf (fM_tr x3 y3)) (fun _ _ => lx_p))⟩
  rw [if_neg (fun q => gs ((byL 91 (h256 h.1) (by decide)).mp q)), if_neg gn] at head
  have eB : fcB T O (ptD T m d) σ = lfF T (ptD T m d) σ := by
    unfold fcB lfF
    rw [if_neg gn, if_neg gs]
  rw [eB, head]
  have hxA : ∀ z ∈ W ++ List.replicate c 12, z < 1000 := fun z hz => nots_lt (c := c) (y := 0) hW.2 (by omega) z (List.mem_append_left _ hz)
  obtain ⟨p1, p2⟩ := m_fact hd q1 (fun y hy => by
    rcases Nat.eq_zero_or_pos c with e | e
    · subst e
      simp at hy
      have := hW.1 y hy
      omega
    · obtain ⟨c', rfl⟩ : ∃ q, c = q + 1 := ⟨c - 1, by omega⟩
      rw [List.replicate_succ', ← List.append_assoc] at hy
      simp at hy
      omega) hxA (by rw [hlen]; omega)
  refine ⟨fun cs σ1 q => ?_, fun e q => ?_⟩
  · obtain ⟨S2, u1, u2, u3, u4, u5⟩ := p1 cs σ1 q
    have hσ2 := u2.1.2.1
    obtain ⟨S3, v1, v2, v3⟩ := m_nots (fun z hz => (hW.1 z hz).2.2) hW.2 c (6 - d - c) 5000 S2 (Cs ++ cs) u2.1.2.2.1 (by rw [show 6 - d - c + c = 6 - d by omega]; exact u2.2.2.2) (by omega) (by simp; omega)
    have q3 := qR_q u2 v3 v2
    refine ⟨⟨k + 1, 5000, S3, ?_, q3, ⟨by omega, by omega⟩, fM_tr f1p (fM_tr u3 (fM_mo v3 (fun _ _ => q_p)))⟩, u4, u5⟩
    unfold f_X12_qDropsNots
    rw [u1, ob_s, v1, ob_s, if_pos q3.1.2.2.1]
  · obtain ⟨S2, u1, u2, u3⟩ := p2 e q
    have e5 : f_X12_qDropsNots S2 = some S2 := by
      unfold f_X12_qDropsNots
      rw [f_X12_qDropsNots_0, if_neg (bR_0 u2)]
    refine ⟨S2, ?_, u2, fM_tr f1p u3⟩
    rw [u1, ob_s, e5, ob_s, if_neg (bR_0 u2)]
    exact hA_bad u2 (by omega)
theorem ft_sim (T : Tp) (m : Nat) : ∀ d, d ≤ 6 → FT T m d
  | 0, _ => fun σ W Cs c b0 k S h1 h2 h3 h4 h5 => ft_step (O := none) (by decide) (Or.inl ⟨rfl, rfl⟩) σ W Cs c b0 k S h1 h2 h3 h4 h5
  | d + 1, hd => fun σ W Cs c b0 k S h1 h2 h3 h4 h5 => ft_step (O := some (fcD T m d)) hd (Or.inr ⟨d, rfl, rfl, ft_sim T m d (by omega)⟩) σ W Cs c b0 k S h1 h2 h3 h4 h5
/-- the whole of a test -/
theorem m_110 : ∀ (R : List Nat) (k op b0 : Nat) (S : Hp) (Cs : List Nat), S.1 0 5 = 0 → qS S R.reverse Cs op b0 → R.length < k → R.length + Cs.length < 1690 →
    ∃ S', f_X12_qTest_110 k S = some S' ∧ qS S' [] (Cs ++ R) op b0 ∧ fM qP S S' := by
  intro R
  induction R with
  | nil =>
    intro k op b0 S Cs h5 h hk hl
    obtain ⟨k, rfl⟩ : ∃ q, k = q + 1 := ⟨k - 1, by omega⟩
    simp only [List.reverse_nil, List.append_nil] at h ⊢
    refine ⟨S, ?_, h, fM_rf _ S⟩
    rw [f_X12_qTest_110, if_pos h5, h.1.1, if_pos (show nI ([] : List Nat).length ≤ 0 from by decide)]
  | cons y R ih =>
    intro k op b0 S Cs h5 h hk hl
    obtain ⟨k, rfl⟩ : ∃ q, k = q + 1 := ⟨k - 1, by omega⟩
    rw [List.reverse_cons] at h
    simp only [List.length_cons] at hk hl
    obtain ⟨p1, p2, p3⟩ := qS_pop h
    rw [List.length_reverse] at p2 p3
    obtain ⟨S1, r1, r2, r3⟩ := m_drop h (by rw [List.length_reverse]; omega) (by omega)
    obtain ⟨S2, q1, q2, q3⟩ := ih k op b0 S1 (Cs ++ [y]) (by rw [r3.1 0 5 (by unfold qP; omega)]; exact h5) r2 (by omega) (by simp; omega)
    refine ⟨S2, ?_, by rw [List.append_assoc] at q2; exact q2, fM_tr r3 q3⟩
    rw [f_X12_qTest_110, if_pos h5, p3, if_neg (nI_nle (by omega) (by omega)), r1, ob_s, q1]
theorem m_test {S : Hp} {T : Tp} {m b0 : Nat} {σ : Lx} (h : qR S T m σ [] [] 0 b0) :
    (∀ cs σ1, ts T (fcD T m 6) σ = .ok (cs, σ1) → ∃ S', f_X12_qTest S = some S' ∧ qR S' T m σ1 [] cs 0 b0 ∧ fM pP S S') ∧ (∀ e, ts T (fcD T m 6) σ = .error e → erT (f_X12_qTest S) S e) := by
  have hσ := h.1.2.1
  have hT := h.1.1.1
  obtain ⟨p1, p2⟩ := ts_sim (k := 5000) (ft_sim T m 6 (by decide)) (V := []) (Cs := []) ⟨fun z hz => by simp at hz, fun z hz => (by cases hz)⟩ (fun z hz => by simp at hz) h (by simp) (by omega)
  refine ⟨fun cs σ1 q => ?_, fun e q => p2 e q⟩
  obtain ⟨⟨k1, j1, S2, R2, Cs2, v1, v2, v3, v4, v5, v6, v7, vz⟩, v8, v9⟩ := p1 cs σ1 q
  have hσ2 := v2.1.2.1
  simp only [List.nil_append, List.length_nil, Nat.zero_add] at v2 v4 v5
  obtain ⟨j1, rfl⟩ : ∃ q, j1 = q + 1 := ⟨j1 - 1, by omega⟩
  obtain ⟨k1, rfl⟩ : ∃ q, k1 = q + 1 := ⟨k1 - 1, by omega⟩
  obtain ⟨w1, wf⟩ := qR_X v2
  have hxA : ∀ z ∈ R2.reverse, z < 1000 := fun z hz => by have := v3 z (by simpa using hz); omega
  have h25 : ¬ 25 ∈ R2.reverse := fun hz => by have := v3 25 (by simpa using hz); omega
  obtain ⟨S5, x1, x2, x3, x4⟩ := t_76 w1 v8 hxA (by simp; omega)
  rw [if_neg h25] at x4
  have e1 : f_X12_qGoesOnTest_0 (j1 + 1) S2 = some (0, S5) := by
    by_cases g : isG T σ1 93 = true
    · rw [f_X12_qGoesOnTest_0, if_pos v2.1.2.2.1, m_look v2.1, ob2_s, if_pos ((byL 93 (h256 v2.1) (by decide)).mpr g), m_hsq w1.2.2.2 hxA (by simp; omega), ob2_s, if_pos (ite01.mpr h25), x4]
    · rw [hB_n v2 g, x4]
  obtain ⟨S6, y1, y2, y3⟩ := m_110 R2 5000 _ _ S5 Cs2 x2.1.2.2.1 x2.2.2.2 (by omega) (by omega)
  have q6 := qR_q x2 y3 y2
  rw [v4] at q6
  refine ⟨S6, ?_, q6, fM_tr v7 (fM_tr (fM_mo (fM_tr wf x3) (fun _ _ => lx_p)) (fM_mo y3 (fun _ _ => q_p)))⟩
  rw [show f_X12_qTest S = f_X12_qTest_2 5000 1 S from rfl, v1]
  unfold hB
  rw [e1, ob2_s, if_pos rfl]
  unfold f_X12_qTest_105 f_X12_qTest_106
  rw [f_X12_qTest_2, if_pos rfl, y1]

/-! level 2: the reference: the first statement, a crown's text from its beginning -/
theorem mE_R {S : Hp} {R R' : Nat → Nat → Nat} {N N' : Nat → Nat → List Nat} {tot : Nat} (h : mE S 0 0 0 R N none none tot) (e : ∀ j, j < 5 → R 0 j = R' 0 j) : mE S 0 0 0 R' N' none none tot := by
  obtain ⟨q1, q2, q3, q4, q5, q6, q7, q8, q9, q10⟩ := h
  refine ⟨q1, ?_, fun p hp => absurd hp (by omega), fun p hp => absurd hp (by omega), fun p hp => absurd hp (by omega), fun k hk i hi => ?_, q7, q8, q9, q10⟩
  · rw [← e 0 (by decide), ← e 1 (by decide), ← e 2 (by decide), ← e 3 (by decide), ← e 4 (by decide)]; exact q2
  · exfalso
    unfold cnt at hi
    split at hi
    · exact absurd hi (by omega)
    · split at hi
      · exact absurd hi (by omega)
      · exact absurd hi (by omega)
def kC (S : Hp) (T : Tp) (R : Nat → Nat → Nat) (N : Nat → Nat → List Nat) (kr : Nat) : Except (Nat × Nat) (Nat × Lx) → Prop
  | .ok x => lR S T x.2 ∧ mE S 0 0 0 (rup R 0 kr x.1) N none none 0
  | .error e => bR S e
theorem m_ch1 {S : Hp} {T : Tp} {σ : Lx} {lw hw kf kr wi : Nat} {R : Nat → Nat → Nat} {N : Nat → Nat → List Nat} {K : Hp → Option Hp} (h : mE S 0 0 0 R N none none 0) (hl : lR S T σ) (hwi : wi < 29) (hlw : lw < 2 ^ 31) (hhw : hw < 2 ^ 31) (hk : (kf = 0 ∧ kr = 0) ∨ (kf = 1 ∧ kr = 3) ∨ (kf = 2 ∧ kr = 1)) :
    ∃ S', ob (f_X12_asks (11 + wi) (wL.getD wi []).length S) (fun S1 => ob2 (f_X12_number (nI lw) (nI hw) S1) (fun r2 S2 => stI S2 43 6 (nI kf) r2 K)) = K S' ∧ fJ cJ S S' ∧ kC S' T R N kr (bs (tkW T (wL.getD wi []) σ) (tkV T lw hw)) := by
  obtain ⟨S1, a1, a2, a3⟩ := m_asks (c := 11 + wi) (w := wL.getD wi []) hl (by omega) (mW_at h.2.2.2.2.2.2.2.2.2 _ _ (wtab_i wi hwi))
  have h1 := mE_l h a2
  have hk6 : kf < 6 := by omega
  rw [a1, ob_s]
  cases x : tkW T (wL.getD wi []) σ with
  | error e =>
    rw [x] at a3
    rw [m_num_b (bR_0 a3), ob2_s, stI_n hk6 (by decide)]
    exact ⟨_, rfl, fJ_tr (fJ_l a2) (fJ_sI S1 (by unfold cJ; omega)), bR_hi a3 (by rw [sI_ne _ (by decide)]) (by rw [sI_ne _ (by decide)])⟩
  | ok σ1 =>
    rw [x] at a3
    obtain ⟨v, S2, b1, b2, b3⟩ := m_num (lo := lw) (hi := hw) a3 hlw hhw
    have h2 := mE_l h1 b2
    rw [b1, ob2_s, stI_n hk6 (by decide), bs_k]
    refine ⟨_, rfl, fJ_tr (fJ_l a2) (fJ_tr (fJ_l b2) (fJ_sI S2 (by unfold cJ; omega))), ?_⟩
    cases y : tkV T lw hw σ1 with
    | error e =>
      rw [y] at b3
      exact bR_hi b3 (by rw [sI_ne _ (by decide)]) (by rw [sI_ne _ (by decide)])
    | ok q =>
      rw [y] at b3
      obtain ⟨v1, σ2⟩ := q
      obtain ⟨e1, e2⟩ := b3
      refine ⟨lR_hi e2 (fun k _ => by rw [sI_ne _ (by decide)]) (fun i => by rw [sI_ne _ (by decide)]), ?_⟩
      show mE (ho_sI S2 43 kf v) 0 0 0 (rup R 0 kr v1) N none none 0
      obtain ⟨q1, q2, q3, q4, q5, q6, q7, q8, q9, q10⟩ := h2
      refine ⟨?_, ?_, fun p hp => absurd hp (by omega), fun p hp => absurd hp (by omega), fun p hp => absurd hp (by omega), q6, ?_, mO_f q8 ?_ ?_ (fun j _ => ?_), mO_f q9 ?_ ?_ (fun j _ => ?_), mWs_hi q10 (fun b k q => ?_)⟩
      · rw [sI_ne _ (by decide)]; exact q1
      · rcases hk with ⟨rfl, rfl⟩ | ⟨rfl, rfl⟩ | ⟨rfl, rfl⟩
        · rw [sI_v, sI_k (by decide), sI_k (by decide), sI_ne _ (by decide), rup_s, rup_n (by omega), rup_n (by omega), rup_n (by omega), rup_n (by omega), e1]
          exact ⟨rfl, q2.2⟩
        · rw [sI_v, sI_k (by decide), sI_k (by decide), sI_ne _ (by decide), rup_s, rup_n (by omega), rup_n (by omega), rup_n (by omega), rup_n (by omega), e1]
          exact ⟨q2.1, rfl, q2.2.2⟩
        · rw [sI_v, sI_k (by decide), sI_k (by decide), sI_ne _ (by decide), rup_s, rup_n (by omega), rup_n (by omega), rup_n (by omega), rup_n (by omega), e1]
          exact ⟨q2.1, q2.2.1, rfl, q2.2.2.2⟩
      · rw [sI_ne _ (by decide)]; exact q7
      · rw [sI_ne _ (by decide)]
      · rw [sI_ne _ (by decide)]
      · rw [sI_ne _ (by decide)]
      · rw [sI_ne _ (by decide)]
      · rw [sI_ne _ (by decide)]
      · rw [sI_ne _ (by decide)]
      · rw [sI_ne _ (by omega)]
theorem m_ch1b {S : Hp} {c n kf : Nat} {x y : Int32} {e : Nat × Nat} {K : Hp → Option Hp} (h : bR S e) (hk : kf < 3) :
    ∃ S', ob (f_X12_asks c n S) (fun S1 => ob2 (f_X12_number x y S1) (fun r2 S2 => stI S2 43 6 (nI kf) r2 K)) = K S' ∧ fJ cJ S S' ∧ bR S' e := by
  rw [m_asks_b (bR_0 h), ob_s, m_num_b (bR_0 h), ob2_s, stI_n (by omega) (by decide)]
  exact ⟨_, rfl, fJ_sI S (by unfold cJ; omega), bR_hi h (by rw [sI_ne _ (by decide)]) (by rw [sI_ne _ (by decide)])⟩
theorem m_chest {S : Hp} {T : Tp} {σ : Lx} {R : Nat → Nat → Nat} {N : Nat → Nat → List Nat} (h : mE S 0 0 0 R N none none 0) (hl : lR S T σ) (h4 : R 0 4 = 50) (h2 : R 0 2 = 0) :
    ∃ S', f_X12_chestTold S = some S' ∧ fJ cJ S S' ∧ (∀ e, bn (tre T σ) (fun R' σ1 => bs (tkG T 59 σ1) (fun σ2 => .ok (R', σ2))) = .error e → bR S' e) ∧ (∀ R' σ2, bn (tre T σ) (fun R' σ1 => bs (tkG T 59 σ1) (fun σ2 => .ok (R', σ2))) = .ok (R', σ2) → lR S' T σ2 ∧ mE S' 0 0 0 R' (fun _ _ => []) none none 0) := by
  have et : tre T σ = bn (bs (tkW T (wL.getD 0 []) σ) (tkV T 0 9999)) (fun v1 σ2 => bn (bs (tkW T (wL.getD 1 []) σ2) (tkV T 0 9999)) (fun v2 σ4 => bn (bs (tkW T (wL.getD 2 []) σ4) (tkV T 0 99)) (fun v3 σ6 => .ok (rup (rup (rup R0 0 0 v1) 0 3 v2) 0 1 v3, σ6)))) := by
    unfold tre
    simp only [bs_bn]
  rw [et]
  have key : f_X12_chestTold S = ob (f_X12_asks (11 + 0) (wL.getD 0 []).length S) (fun S1 => ob2 (f_X12_number (nI 0) (nI 9999) S1) (fun r2 S2 => stI S2 43 6 (nI 0) r2 (fun S3 => ob (f_X12_asks (11 + 1) (wL.getD 1 []).length S3) (fun S4 => ob2 (f_X12_number (nI 0) (nI 9999) S4) (fun r5 S5 => stI S5 43 6 (nI 1) r5 (fun S6 => ob (f_X12_asks (11 + 2) (wL.getD 2 []).length S6) (fun S7 => ob2 (f_X12_number (nI 0) (nI 99) S7) (fun r8 S8 => stI S8 43 6 (nI 2) r8 (fun S9 => ob (f_X12_asksSign (59 : Int32) S9) (fun S10 => some S10)))))))))) := rfl
  rw [key]
  obtain ⟨S1, a1, a2, a3⟩ := m_ch1 (kf := 0) (kr := 0) (wi := 0) (lw := 0) (hw := 9999) (K := fun S3 => ob (f_X12_asks (11 + 1) (wL.getD 1 []).length S3) (fun S4 => ob2 (f_X12_number (nI 0) (nI 9999) S4) (fun r5 S5 => stI S5 43 6 (nI 1) r5 (fun S6 => ob (f_X12_asks (11 + 2) (wL.getD 2 []).length S6) (fun S7 => ob2 (f_X12_number (nI 0) (nI 99) S7) (fun r8 S8 => stI S8 43 6 (nI 2) r8 (fun S9 => ob (f_X12_asksSign (59 : Int32) S9) (fun S10 => some S10)))))))) h hl (by decide) (by decide) (by decide) (Or.inl ⟨rfl, rfl⟩)
  rw [a1]
  have bad3 : ∀ (Sx : Hp) (e : Nat × Nat), bR Sx e → ∃ S', ob (f_X12_asksSign (59 : Int32) Sx) (fun S10 => some S10) = some S' ∧ fJ cJ Sx S' ∧ bR S' e := fun Sx e hb => ⟨Sx, by rw [m_asksG_b (bR_0 hb), ob_s], fJ_rf _ _, hb⟩
  have bad2 : ∀ (Sx : Hp) (e : Nat × Nat), bR Sx e → ∃ S', ob (f_X12_asks (11 + 2) (wL.getD 2 []).length Sx) (fun S7 => ob2 (f_X12_number (nI 0) (nI 99) S7) (fun r8 S8 => stI S8 43 6 (nI 2) r8 (fun S9 => ob (f_X12_asksSign (59 : Int32) S9) (fun S10 => some S10)))) = some S' ∧ fJ cJ Sx S' ∧ bR S' e := by
    intro Sx e hb
    obtain ⟨S2, b1, b2, b3⟩ := m_ch1b (c := 11 + 2) (n := (wL.getD 2 []).length) (kf := 2) (x := nI 0) (y := nI 99) (K := fun S9 => ob (f_X12_asksSign (59 : Int32) S9) (fun S10 => some S10)) hb (by decide)
    obtain ⟨S3, c1, c2, c3⟩ := bad3 S2 e b3
    exact ⟨S3, b1.trans c1, fJ_tr b2 c2, c3⟩
  cases x : bs (tkW T (wL.getD 0 []) σ) (tkV T 0 9999) with
  | error e =>
    rw [x] at a3
    obtain ⟨S2, b1, b2, b3⟩ := m_ch1b (c := 11 + 1) (n := (wL.getD 1 []).length) (kf := 1) (x := nI 0) (y := nI 9999) (K := fun S6 => ob (f_X12_asks (11 + 2) (wL.getD 2 []).length S6) (fun S7 => ob2 (f_X12_number (nI 0) (nI 99) S7) (fun r8 S8 => stI S8 43 6 (nI 2) r8 (fun S9 => ob (f_X12_asksSign (59 : Int32) S9) (fun S10 => some S10))))) a3 (by decide)
    obtain ⟨S3, c1, c2, c3⟩ := bad2 S2 e b3
    exact ⟨S3, b1.trans c1, fJ_tr a2 (fJ_tr b2 c2), (fun e' q => by cases q; exact c3), (fun R' σ2 q => by cases q)⟩
  | ok v =>
    rw [x] at a3
    obtain ⟨v1, σ2⟩ := v
    obtain ⟨S2, b1, b2, b3⟩ := m_ch1 (kf := 1) (kr := 3) (wi := 1) (lw := 0) (hw := 9999) (K := fun S6 => ob (f_X12_asks (11 + 2) (wL.getD 2 []).length S6) (fun S7 => ob2 (f_X12_number (nI 0) (nI 99) S7) (fun r8 S8 => stI S8 43 6 (nI 2) r8 (fun S9 => ob (f_X12_asksSign (59 : Int32) S9) (fun S10 => some S10))))) a3.2 a3.1 (by decide) (by decide) (by decide) (Or.inr (Or.inl ⟨rfl, rfl⟩))
    rw [b1, bn_k]
    cases y : bs (tkW T (wL.getD 1 []) σ2) (tkV T 0 9999) with
    | error e =>
      rw [show bs (tkW T (wL.getD 1 []) (v1, σ2).2) (tkV T 0 9999) = .error e from y] at b3
      obtain ⟨S3, c1, c2, c3⟩ := bad2 S2 e b3
      exact ⟨S3, c1, fJ_tr a2 (fJ_tr b2 c2), (fun e' q => by cases q; exact c3), (fun R' σ2 q => by cases q)⟩
    | ok v =>
      rw [show bs (tkW T (wL.getD 1 []) (v1, σ2).2) (tkV T 0 9999) = .ok v from y] at b3
      obtain ⟨v2, σ4⟩ := v
      obtain ⟨S3, c1, c2, c3⟩ := m_ch1 (kf := 2) (kr := 1) (wi := 2) (lw := 0) (hw := 99) (K := fun S9 => ob (f_X12_asksSign (59 : Int32) S9) (fun S10 => some S10)) b3.2 b3.1 (by decide) (by decide) (by decide) (Or.inr (Or.inr ⟨rfl, rfl⟩))
      rw [c1, bn_k]
      cases w : bs (tkW T (wL.getD 2 []) σ4) (tkV T 0 99) with
      | error e =>
        rw [show bs (tkW T (wL.getD 2 []) (v2, σ4).2) (tkV T 0 99) = .error e from w] at c3
        obtain ⟨S4, d1, d2, d3⟩ := bad3 S3 e c3
        exact ⟨S4, d1, fJ_tr a2 (fJ_tr b2 (fJ_tr c2 d2)), (fun e' q => by cases q; exact d3), (fun R' σ2 q => by cases q)⟩
      | ok v =>
        rw [show bs (tkW T (wL.getD 2 []) (v2, σ4).2) (tkV T 0 99) = .ok v from w] at c3
        obtain ⟨v3, σ6⟩ := v
        obtain ⟨S4, d1, d2, d3⟩ := m_asksG (c := 59) c3.1 (by decide)
        rw [show f_X12_asksSign (59 : Int32) S3 = some S4 from d1, ob_s, bn_k, bn_k]
        refine ⟨S4, rfl, fJ_tr a2 (fJ_tr b2 (fJ_tr c2 (fJ_l d2))), ?_⟩
        have hm := mE_R (R' := rup (rup (rup R0 0 0 v1) 0 3 v2) 0 1 v3) (N' := fun _ _ => []) (mE_l c3.2 d2) (fun j hj => by
          have : j = 0 ∨ j = 1 ∨ j = 2 ∨ j = 3 ∨ j = 4 := by omega
          rcases this with rfl | rfl | rfl | rfl | rfl
          · rw [rup_n (by omega), rup_n (by omega), rup_s, rup_n (by omega), rup_n (by omega), rup_s]
          · rw [rup_s, rup_s]
          · rw [rup_n (by omega), rup_n (by omega), rup_n (by omega), rup_n (by omega), rup_n (by omega), rup_n (by omega), h2]; rfl
          · rw [rup_n (by omega), rup_s, rup_n (by omega), rup_s]
          · rw [rup_n (by omega), rup_n (by omega), rup_n (by omega), rup_n (by omega), rup_n (by omega), rup_n (by omega), h4]; rfl)
        cases z : tkG T 59 σ6 with
        | error e =>
          rw [show tkG T 59 (v3, σ6).2 = .error e from z] at d3
          exact ⟨(fun e' q => by cases q; exact d3), (fun R' σ2 q => by cases q)⟩
        | ok σ7 =>
          rw [show tkG T 59 (v3, σ6).2 = .ok σ7 from z] at d3
          refine ⟨(fun e' q => by cases q), fun R' σ2 q => ?_⟩
          cases q
          exact ⟨d3, hm⟩
def mT (S : Hp) (T : Tp) : Prop := T.2 ≤ 1600 ∧ S.1 0 1 = nI T.2 ∧ ∀ i, i < T.2 → S.1 1 i = nI (T.1 i) ∧ T.1 i < 256
def cL2 (b k : Nat) : Prop := cK b k ∨ (b = 0 ∧ (k = 1 ∨ k = 3))
theorem m_c40 : ∀ (d i K : Nat) (S : Hp), i + d = 3 → d < K → ∃ K' S', f_X12_crown_40 K (nI i) S = f_X12_crown_40 (K' + 1) (nI 3) S' ∧ (∀ k, i ≤ k → k < 3 → S'.1 41 k = 0) ∧ fM (fun b k => b = 41 ∧ i ≤ k ∧ k < 3) S S' := by
  intro d
  induction d with
  | zero =>
    intro i K S hi hK
    obtain ⟨K, rfl⟩ : ∃ q, K = q + 1 := ⟨K - 1, by omega⟩
    refine ⟨K, S, ?_, fun k h1 h2 => absurd h2 (by omega), fM_rf _ S⟩
    rw [show i = 3 by omega]
  | succ d ih =>
    intro i K S hi hK
    obtain ⟨K, rfl⟩ : ∃ q, K = q + 1 := ⟨K - 1, by omega⟩
    obtain ⟨K', S', a1, a2, a3⟩ := ih (i + 1) K (ho_sI S 41 i 0) (by omega) (by omega)
    refine ⟨K', S', ?_, fun k h1 h2 => ?_, fM_tr (fM_sI S (by omega)) (fM_mo a3 (fun b k q => by omega))⟩
    · rw [f_X12_crown_40, if_neg (fun q => absurd ((geL 3 (by omega) (by decide)).mp q) (by omega)), stI_n (by omega) (by decide), le1_e, nI_1, a1]
    · by_cases e : k = i
      · subst e
        rw [a3.1 _ _ (by first | decide | (dsimp only; omega) | omega), sI_v]
      · exact a2 k (by omega) h2
theorem m_crownL {S : Hp} {T : Tp} (h : mT S T) (hW : mWs S) :
    (∀ D1 n1, crT T = .ok (D1, n1) → ∃ S' tot, f_X12_crown S = f_X12_crown_118 S' ∧ S'.1 0 5 = 0 ∧ S'.1 0 6 = -1 ∧ S'.1 0 51 = nI n1 ∧ mD S' D1 tot ∧ tot ≤ 1600 ∧ okD D1 ∧ S'.1 0 1 = 0 ∧ fJ cL2 S S') ∧ (∀ e, crT T = .error e → ∃ S', f_X12_crown S = f_X12_crown_118 S' ∧ bR S' e ∧ S'.1 0 1 = 0 ∧ fJ cL2 S S') := by
  obtain ⟨S7, hS7⟩ : ∃ S7, S7 = ho_sI (ho_sI (ho_sI (ho_sI (ho_sI (ho_sI (ho_sI S 0 3 (S.1 0 1)) 0 1 0) 0 2 0) 0 4 (-1)) 0 5 0) 0 6 (-1)) 0 50 0 := ⟨_, rfl⟩
  have f7 : fJ cL2 S S7 := by
    rw [hS7]
    refine fJ_tr (fJ_sI S (Or.inr ⟨rfl, by omega⟩)) (fJ_tr (fJ_sI _ (Or.inr ⟨rfl, by omega⟩)) (fJ_tr (fJ_sI _ (Or.inl (Or.inl (cj_0 (by omega))))) (fJ_tr (fJ_sI _ (Or.inl (Or.inl (cj_0 (by omega))))) (fJ_tr (fJ_sI _ (Or.inl (Or.inl (cj_0 (by omega))))) (fJ_tr (fJ_sI _ (Or.inl (Or.inl (cj_0 (by omega))))) (fJ_sI _ (Or.inl (Or.inl (cj_0 (by omega))))))))))
  have v1 : S7.1 0 1 = 0 := by rw [hS7, sI_k (by decide), sI_k (by decide), sI_k (by decide), sI_k (by decide), sI_k (by decide), sI_v]
  have v2 : S7.1 0 2 = 0 := by rw [hS7, sI_k (by decide), sI_k (by decide), sI_k (by decide), sI_k (by decide), sI_v]
  have v3 : S7.1 0 3 = nI T.2 := by rw [hS7, sI_k (by decide), sI_k (by decide), sI_k (by decide), sI_k (by decide), sI_k (by decide), sI_k (by decide), sI_v]; exact h.2.1
  have v4 : S7.1 0 4 = -1 := by rw [hS7, sI_k (by decide), sI_k (by decide), sI_k (by decide), sI_v]
  have v5 : S7.1 0 5 = 0 := by rw [hS7, sI_k (by decide), sI_k (by decide), sI_v]
  have v6 : S7.1 0 6 = -1 := by rw [hS7, sI_k (by decide), sI_v]
  have v50 : S7.1 0 50 = 0 := by rw [hS7, sI_v]
  have vb : ∀ b, b ≠ 0 → S7.1 b = S.1 b := fun b hb => by rw [hS7, sI_ne _ hb, sI_ne _ hb, sI_ne _ hb, sI_ne _ hb, sI_ne _ hb, sI_ne _ hb, sI_ne _ hb]
  obtain ⟨K8, S8, a1, a2, a3⟩ := m_c40 3 0 5000 S7 (by decide) (by decide)
  obtain ⟨S9, hS9⟩ : ∃ S9, S9 = ho_sI (ho_sI (ho_sI (ho_sI S8 48 0 (-1)) 48 1 (-1)) 47 0 50) 47 1 0 := ⟨_, rfl⟩
  have f9 : fM (fun b k => (b = 41 ∧ k < 3) ∨ (b = 48 ∧ k < 2) ∨ (b = 47 ∧ k < 2)) S7 S9 := by
    rw [hS9]
    exact fM_tr (fM_mo a3 (fun b k q => Or.inl (by omega))) (fM_tr (fM_sI _ (by omega)) (fM_tr (fM_sI _ (by omega)) (fM_tr (fM_sI _ (by omega)) (fM_sI _ (by omega)))))
  have j9 : fJ cL2 S7 S9 := fJ_m f9 (fun b k q => Or.inl (Or.inl (by
    rcases q with ⟨rfl, q⟩ | ⟨rfl, q⟩ | ⟨rfl, q⟩
    · exact Or.inr (Or.inl ⟨rfl, q⟩)
    · exact cj_48 q
    · exact Or.inr (Or.inr (Or.inr (Or.inr (Or.inr (Or.inr (Or.inl ⟨rfl, q⟩)))))))))
  have g0 : ∀ k, S9.1 0 k = S7.1 0 k := fun k => f9.1 0 k (by first | decide | (dsimp only; omega) | omega)
  have l9 : lR S9 T (0, false) := by
    refine ⟨⟨h.1, by rw [g0]; exact v3, fun i hi => ?_⟩, Nat.zero_le _, by rw [g0]; exact v5, ⟨0, Nat.le_refl _, Nat.zero_le _, by rw [g0]; exact v2⟩, Or.inr ⟨rfl, Or.inl (by rw [g0]; exact v4)⟩, by rw [g0]; exact v6⟩
    rw [f9.1 1 i (by first | decide | (dsimp only; omega) | omega), vb 1 (by decide)]
    exact h.2.2 i hi
  have w9 : mWs S9 := mWs_hi hW (fun b k q => by rw [f9.1 b k (by dsimp only; omega), vb b (by omega)])
  have m9 : mE S9 0 0 0 (fun _ j => if j = 0 then (S.1 43 0).toBitVec.toNat else if j = 3 then (S.1 43 1).toBitVec.toNat else if j = 1 then (S.1 43 2).toBitVec.toNat else if j = 4 then 50 else 0) (fun _ _ => []) none none 0 := by
    refine ⟨⟨?_, ?_, ?_⟩, ⟨?_, ?_, ?_, ?_, ?_⟩, fun p hp => absurd hp (by omega), fun p hp => absurd hp (by omega), fun p hp => absurd hp (by omega), fun k hk i hi => ?_, ?_, ?_, ?_, w9⟩
    · rw [hS9, sI_ne _ (by decide), sI_ne _ (by decide), sI_ne _ (by decide), sI_ne _ (by decide), a2 0 (by decide) (by decide)]; rfl
    · rw [hS9, sI_ne _ (by decide), sI_ne _ (by decide), sI_ne _ (by decide), sI_ne _ (by decide), a2 1 (by decide) (by decide)]; rfl
    · rw [hS9, sI_ne _ (by decide), sI_ne _ (by decide), sI_ne _ (by decide), sI_ne _ (by decide), a2 2 (by decide) (by decide)]; rfl
    · rw [f9.1 43 0 (by first | decide | (dsimp only; omega) | omega), vb 43 (by decide)]; exact i32_nI _
    · rw [f9.1 43 1 (by first | decide | (dsimp only; omega) | omega), vb 43 (by decide)]; exact i32_nI _
    · rw [f9.1 43 2 (by first | decide | (dsimp only; omega) | omega), vb 43 (by decide)]; exact i32_nI _
    · rw [hS9, sI_k (by decide), sI_v]; rfl
    · rw [hS9, sI_v]; rfl
    · exfalso
      unfold cnt at hi
      split at hi
      · exact absurd hi (by omega)
      · split at hi
        · exact absurd hi (by omega)
        · exact absurd hi (by omega)
    · rw [g0, v50]; rfl
    · show S9.1 48 0 = -1
      rw [hS9, sI_ne _ (by decide), sI_ne _ (by decide), sI_k (by decide), sI_v]
    · show S9.1 48 1 = -1
      rw [hS9, sI_ne _ (by decide), sI_ne _ (by decide), sI_v]
  obtain ⟨S10, b1, b2, b3, b4⟩ := m_chest m9 l9 rfl rfl
  obtain ⟨S11, hS11⟩ : ∃ S11, S11 = ho_sI S10 0 51 1 := ⟨_, rfl⟩
  have f11 : fJ cL2 S S11 := by
    rw [hS11]
    exact fJ_tr f7 (fJ_tr j9 (fJ_tr (fJ_mo b2 (fun b k q => Or.inl (Or.inl q))) (fJ_sI S10 (Or.inl (Or.inr ⟨rfl, rfl⟩)))))
  have t11 : S11.1 0 1 = 0 := by rw [hS11, sI_k (by decide), b2.1 0 1 (by unfold cJ; omega), g0]; exact v1
  have key : f_X12_crown S = f_X12_crown_96 5000 S11 := by
    unfold f_X12_crown
    rw [le1_e, le1_e, le1_e, le1_e, le1_e, le1_e, le1_e, ← hS7, show (0 : Int32) = nI 0 from rfl, a1, f_X12_crown_40, if_pos (show (3 : Int32) ≤ nI 3 by decide), stI_L 0 (by decide) (by decide), stI_L 1 (by decide) (by decide), stI_L 0 (by decide) (by decide), stI_L 1 (by decide) (by decide)]
    rw [show ho_sI (ho_sI (ho_sI (ho_sI S8 48 0 (-1)) 48 1 (-1)) 47 0 50) 47 1 0 = S9 from hS9.symm, b1, ob_s, le1_e, ← hS11]
  rw [key]
  unfold crT
  cases x : tre T (0, false) with
  | error e =>
    rw [x] at b3 b4
    have hb := b3 e rfl
    have hb0 : ¬ S11.1 0 5 = 0 := by rw [hS11, sI_k (by decide)]; exact bR_0 hb
    refine ⟨(fun D1 n1 q => by cases q), fun e' q => ?_⟩
    cases q
    rw [m_c96b (by decide) hb0]
    exact ⟨S11, rfl, bR_hi hb (by rw [hS11, sI_k (by decide)]) (by rw [hS11, sI_k (by decide)]), t11, f11⟩
  | ok v =>
    obtain ⟨R', σ2⟩ := v
    rw [x, bn_k] at b3 b4
    rw [bn_k]
    obtain ⟨t1, t2⟩ := tre_ok (Nat.zero_le _) x
    cases y : tkG T 59 σ2 with
    | error e =>
      rw [y] at b3 b4
      have hb := b3 e rfl
      have hb0 : ¬ S11.1 0 5 = 0 := by rw [hS11, sI_k (by decide)]; exact bR_0 hb
      refine ⟨(fun D1 n1 q => by cases q), fun e' q => ?_⟩
      cases q
      rw [m_c96b (by decide) hb0]
      exact ⟨S11, rfl, bR_hi hb (by rw [hS11, sI_k (by decide)]) (by rw [hS11, sI_k (by decide)]), t11, f11⟩
    | ok σ3 =>
      rw [y, bs_k] at b3 b4
      rw [bs_k]
      obtain ⟨c1, c2⟩ := b4 R' σ3 rfl
      have l11 : lR S11 T σ3 := lR_hi c1 (fun k hk => by rw [hS11, sI_k (by omega)]) (fun i => by rw [hS11, sI_ne _ (by decide)])
      have m11 : mE S11 0 0 0 R' (fun _ _ => []) none none 0 := by rw [hS11]; exact mE_51 c2
      obtain ⟨u1, u2⟩ := m_c96 (T := T) 59 1 5000 0 ((0, 0, 0), R', fun _ _ => [], none, none) σ3 S11 (by decide) (by decide) m11 t2 (Nat.zero_le _) l11 l11.2.2.2.2.2 (by rw [hS11, sI_v]; rfl)
      have e1 : ∀ S', fJ cK S11 S' → S'.1 0 1 = 0 := fun S' hf => by rw [hf.1 0 1 (by unfold cK cJ; omega)]; exact t11
      refine ⟨fun D1 n1 q => ?_, fun e q => ?_⟩
      · obtain ⟨S', tot, w1, w2, w3, w4, w5, w6, w7, w8⟩ := u1 D1 n1 q
        exact ⟨S', tot, w1, w2, w3, w4, w5, w6, w7, e1 S' w8, fJ_tr f11 (fJ_mo w8 (fun b k q => Or.inl q))⟩
      · obtain ⟨S', w1, w2, w3⟩ := u2 e q
        exact ⟨S', w1, w2, e1 S' w3, fJ_tr f11 (fJ_mo w3 (fun b k q => Or.inl q))⟩

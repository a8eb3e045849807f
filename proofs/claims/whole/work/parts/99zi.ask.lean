/-! level 2: alike answers: a question: what its text says, the class reads it -/
def vb (T : Tp) (σ : Lx) : Nat := if isW T σ (wL.getD 29 []) = true then 0 else if isW T σ (wL.getD 30 []) = true then 1 else if isW T σ (wL.getD 31 []) = true then 2 else if isW T σ (wL.getD 32 []) = true then 3 else if isW T σ (wL.getD 33 []) = true then 4 else if isW T σ (wL.getD 34 []) = true then 5 else 6
theorem vb_no {T : Tp} {σ : Lx} {i : Nat} (hi : i < 6) (h : isW T σ (wL.getD (29 + i) []) = true) : ∀ j, j < 6 → j ≠ i → ¬ isW T σ (wL.getD (29 + j) []) = true := fun j hj hne q => hne (by
  have := wL_inj (29 + j) (by omega) (29 + i) (by omega) (isW_u q h)
  omega)
theorem vb_i {T : Tp} {σ : Lx} {i : Nat} (hi : i < 6) (h : isW T σ (wL.getD (29 + i) []) = true) : vb T σ = i := by
  have no := vb_no hi h
  unfold vb
  have : i = 0 ∨ i = 1 ∨ i = 2 ∨ i = 3 ∨ i = 4 ∨ i = 5 := by omega
  rcases this with rfl | rfl | rfl | rfl | rfl | rfl
  · rw [if_pos h]
  · rw [if_neg (no 0 (by decide) (by decide)), if_pos h]
  · rw [if_neg (no 0 (by decide) (by decide)), if_neg (no 1 (by decide) (by decide)), if_pos h]
  · rw [if_neg (no 0 (by decide) (by decide)), if_neg (no 1 (by decide) (by decide)), if_neg (no 2 (by decide) (by decide)), if_pos h]
  · rw [if_neg (no 0 (by decide) (by decide)), if_neg (no 1 (by decide) (by decide)), if_neg (no 2 (by decide) (by decide)), if_neg (no 3 (by decide) (by decide)), if_pos h]
  · rw [if_neg (no 0 (by decide) (by decide)), if_neg (no 1 (by decide) (by decide)), if_neg (no 2 (by decide) (by decide)), if_neg (no 3 (by decide) (by decide)), if_neg (no 4 (by decide) (by decide)), if_pos h]
theorem vb_6 {T : Tp} {σ : Lx} (no : ∀ j, j < 6 → ¬ isW T σ (wL.getD (29 + j) []) = true) : vb T σ = 6 := by
  unfold vb
  rw [if_neg (no 0 (by decide)), if_neg (no 1 (by decide)), if_neg (no 2 (by decide)), if_neg (no 3 (by decide)), if_neg (no 4 (by decide)), if_neg (no 5 (by decide))]
def qRd (T : Tp) (kd : Nat) (σ : Lx) : Ps := if kd < 3 then ts T (fcD T 2 6) σ else sm T (ptD T 2 6) σ
def qTl (T : Tp) (kd : Nat) : Ps → Except (Nat × Nat) (Nat × List Nat)
  | .error e => .error e
  | .ok (cs, σ) => if tK T σ = 0 then .ok (kd, cs) else .error (1, tS T σ)
/-- a question: which of six, its codes; or the fault -/
def qT (T : Tp) : Except (Nat × Nat) (Nat × List Nat) := if vb T (0, false) = 6 then .error (1, tS T (0, false)) else qTl T (vb T (0, false)) (qRd T (vb T (0, false)) (nx T (0, false)))
def gQ (kd : Nat) (v : Int) : Prop := inM v ∧ (kd < 3 → bo v)
theorem qRd_ok {T : Tp} {kd : Nat} {σ σ1 : Lx} {cs : List Nat} (hT : T.2 ≤ 1600) (hσ : σ.1 ≤ T.2) (h : qRd T kd σ = .ok (cs, σ1)) : okQ (gQ kd) cs := by
  unfold qRd at h
  by_cases e : kd < 3
  · rw [if_pos e] at h
    obtain ⟨a, b, c⟩ := okQ_ts hT hσ h
    refine ⟨a, b, fun pf qf h1 h2 => ?_⟩
    obtain ⟨v, g, q⟩ := c pf qf h1 h2
    exact ⟨v, ⟨bo_in g, fun _ => g⟩, q⟩
  · rw [if_neg e] at h
    obtain ⟨a, b, c⟩ := okQ_sm hT hσ h
    refine ⟨a, b, fun pf qf h1 h2 => ?_⟩
    obtain ⟨v, g, q⟩ := c pf qf h1 h2
    exact ⟨v, ⟨g, fun x => absurd x e⟩, q⟩
theorem cdO_A {m c : Nat} (h : cdO m c) : okA c := by
  unfold okA
  rcases h with h | h | ⟨k, k1, -, k3⟩ | ⟨-, h⟩
  · exact Or.inl h
  · exact Or.inr (Or.inr (Or.inr h))
  · exact Or.inr (Or.inr (Or.inl ⟨by omega, by omega⟩))
  · exact Or.inr (Or.inl h)
def qcP (b k : Nat) : Prop := (b = 10 ∧ 2 ≤ k ∧ k ≤ 9) ∨ (b = 30 ∧ k = 4) ∨ (b = 35 ∧ k = 2) ∨ (b = 40 ∧ k = 2) ∨ b = 41
def fQc (S S' : Hp) : Prop := (∀ b k, ¬ qcP b k → S'.1 b k = S.1 b k) ∧ S'.2.1 = S.2.1 ∧ (∀ b k, ¬ (b = 35 ∧ k = 1) → S'.2.2 b k = S.2.2 b k)
theorem fQc_tr {S S1 S2 : Hp} (h1 : fQc S S1) (h2 : fQc S1 S2) : fQc S S2 := ⟨fun b k h => (h2.1 b k h).trans (h1.1 b k h), h2.2.1.trans h1.2.1, fun b k h => (h2.2.2 b k h).trans (h1.2.2 b k h)⟩
theorem fQc_m {P : Nat → Nat → Prop} {S S1 : Hp} (h : fM P S S1) (hp : ∀ b k, P b k → qcP b k) : fQc S S1 := ⟨fun b k q => h.1 b k (fun x => q (hp b k x)), by rw [h.2], fun b k _ => by rw [h.2]⟩
theorem fQc_g {S S1 : Hp} (h : fG 35 40 S S1) : fQc S S1 := ⟨fun b k q => h.1 b k (fun x => q (by unfold gP at x; unfold qcP; omega)), h.2⟩
def qRes (r : Int32) (S : Hp) : Except (Nat × Nat) (Nat × List Nat) → Prop
  | .ok (kd, cs) => r = 1 ∧ kd < 6 ∧ S.1 30 4 = nI (29 + kd) ∧ codH S 40 cs ∧ okQ (gQ kd) cs ∧ S.1 10 2 = 0 ∧ S.1 10 3 = -1
  | .error e => r = 0 ∧ wR S e
theorem s40 : 40 ∈ yH.1 ∧ yH.2.1 40 = (1, 4) := ⟨memH (by decide) (by decide), rfl⟩
theorem h_ra102 {S : Hp} {T : Tp} {kd : Nat} {σ : Lx} {R : Ps} {X : Option (Int32 × Hp)} (h6 : kd < 6) (hT : T.2 ≤ 1600) (hσ : σ.1 ≤ T.2) (h4 : S.1 30 4 = nI (29 + kd)) (hR : R = qRd T kd σ) (ho : ∀ cs σ1, R = .ok (cs, σ1) → ∃ S', X = some (1, S') ∧ gR S' T 2 σ1 35 40 cs ∧ fG 35 40 S S') (he : ∀ e, R = .error e → ∃ S', X = some (0, S') ∧ wR S' e ∧ fG 35 40 S S') : ∃ r S', ob2 X (fun r4 S4 => f_X6_readAll_102 r4 S4) = some (r, S') ∧ qRes r S' (qTl T kd R) ∧ fQc S S' := by
  cases hr : R with
  | error e =>
    obtain ⟨S1, a1, a2, a3⟩ := he e hr
    rw [a1, ob2_s]
    unfold f_X6_readAll_102
    rw [if_pos rfl]
    exact ⟨0, S1, rfl, ⟨rfl, a2⟩, fQc_g a3⟩
  | ok p =>
    obtain ⟨cs, σ1⟩ := p
    obtain ⟨S1, a1, a2, a3⟩ := ho cs σ1 hr
    have hq := qRd_ok hT hσ (hR.symm.trans hr)
    have t := a2.1
    rw [a1, ob2_s]
    unfold f_X6_readAll_102 f_X6_readAll_137
    rw [if_neg ne1, t.2.2.1]
    unfold qTl
    by_cases e : tK T σ1 = 0
    · rw [e, if_pos (show nI 0 = (0 : Int32) from rfl)]
      refine ⟨1, S1, rfl, ?_, fQc_g a3⟩
      dsimp only
      rw [if_pos e]
      exact ⟨rfl, h6, by rw [a3.1 30 4 (by unfold gP; omega)]; exact h4, codH_g a2 hq.1 (fun c hc => cdO_A (hq.2.1 c hc)), hq, t.1.2.2.2.2⟩
    · obtain ⟨S2, b1, b2, b3⟩ := h_wrong (S := S1) (k := 1) (p := tS T σ1) (by decide) (tS16 t).1
      rw [if_neg (nI_ne0 (Nat.pos_of_ne_zero e) (by have := tK5 T σ1; omega)), t.2.2.2.1, show f_X10_wrong (1 : Int32) (nI (tS T σ1)) S1 = _ from b1, ob2_s, if_pos rfl]
      refine ⟨0, S2, rfl, ?_, fQc_tr (fQc_g a3) (fQc_m b3 (fun b k q => by unfold qcP; omega))⟩
      dsimp only
      rw [if_neg e]
      exact ⟨rfl, b2⟩
theorem h_ra30 {S S1 : Hp} {T : Tp} (t : tR S1 T (0, false)) (f : fM tP S S1) (h : vb T (0, false) = 6) : ∃ r S', f_X6_readAll_30 S1 = some (r, S') ∧ qRes r S' (qT T) ∧ fQc S S' := by
  obtain ⟨S2, b1, b2, b3⟩ := h_wrong (S := S1) (k := 1) (p := tS T (0, false)) (by decide) (tS16 t).1
  unfold f_X6_readAll_30
  rw [t.2.2.2.1, show f_X10_wrong (1 : Int32) (nI (tS T (0, false))) S1 = _ from b1, ob2_s]
  refine ⟨0, S2, tr0, ?_, fQc_tr (fQc_m f (fun b k q => by unfold tP at q; unfold qcP; omega)) (fQc_m b3 (fun b k q => by unfold qcP; omega))⟩
  unfold qT
  rw [if_pos h]
  exact ⟨rfl, b2⟩
theorem h_readAll {S : Hp} {T : Tp} (hz : tZ S T) : ∃ r S', f_X6_readAll S = some (r, S') ∧ qRes r S' (qT T) ∧ fQc S S' := by
  obtain ⟨S1, a1, a2, a3⟩ := h_begin hz
  unfold f_X6_readAll
  rw [a1, ob_s, a2.2.2.1]
  by_cases k1 : tK T (0, false) = 1
  · rw [k1, if_pos (show nI 1 = (1 : Int32) from rfl)]
    rcases (a2.2.2.2.2.2.1 k1).2 with ⟨i, hi, w1, w2⟩ | ⟨w1, w2⟩
    · rw [w1]
      by_cases e : 29 ≤ i
      · obtain ⟨j, rfl⟩ : ∃ j, i = 29 + j := ⟨i - 29, by omega⟩
        have hv := vb_i (T := T) (σ := (0, false)) (i := j) (by omega) (isW_i.mpr ⟨k1, w2⟩)
        obtain ⟨S2, hS2⟩ : ∃ S2, S2 = ho_sI S1 30 4 (nI (29 + j)) := ⟨_, rfl⟩
        have f2 : fQc S S2 := fQc_tr (fQc_m a3 (fun b k q => by unfold tP at q; unfold qcP; omega)) (by rw [hS2]; exact fQc_m (fM_sI (P := qcP) S1 (by unfold qcP; omega)) (fun b k q => q))
        obtain ⟨S3, b1, b2, b3⟩ := h_next (show tR S2 T (0, false) by rw [hS2]; exact tR_hi a2 (by decide))
        have f3 : fQc S S3 := fQc_tr f2 (fQc_m b3 (fun b k q => by unfold nP at q; unfold qcP; omega))
        have h4 : S3.1 30 4 = nI (29 + j) := by rw [b3.1 30 4 (by unfold nP; omega), hS2, sI_v]
        have hT := a2.1.1
        have hσ := b2.2.1
        unfold qT
        rw [if_pos ((geL 29 (by omega) (by decide)).mpr e), le1_e, ← hS2, b1, ob_s, h4, hv, if_neg (show ¬ j = 6 by omega)]
        by_cases e3 : j < 3
        · obtain ⟨d1, d2⟩ := h_readTest (m := 2) (a0 := 35) (p := 40) b2 (Or.inr rfl) s40 (by decide)
          rw [if_neg (fun q => absurd ((gtL 31 (by omega) (by decide)).mp q) (by omega))]
          obtain ⟨r, S', q1, q2, q3⟩ := h_ra102 (X := f_X7_readTest 35 40 (8323392 : Int32) S3) (R := qRd T j (nx T (0, false))) (by omega) hT hσ h4 rfl (fun cs σ1 q => d1 cs σ1 (by unfold qRd at q; rw [if_pos e3] at q; exact q)) (fun e q => d2 e (by unfold qRd at q; rw [if_pos e3] at q; exact q))
          exact ⟨r, S', q1, q2, fQc_tr f3 q3⟩
        · obtain ⟨d1, d2⟩ := h_readSum (m := 2) (a0 := 35) (p := 40) b2 (Or.inr rfl) s40 (by decide)
          rw [if_pos ((gtL 31 (by omega) (by decide)).mpr (by omega))]
          obtain ⟨r, S', q1, q2, q3⟩ := h_ra102 (X := f_X7_readSum 35 40 (8323392 : Int32) S3) (R := qRd T j (nx T (0, false))) (by omega) hT hσ h4 rfl (fun cs σ1 q => d1 cs σ1 (by unfold qRd at q; rw [if_neg e3] at q; exact q)) (fun e q => d2 e (by unfold qRd at q; rw [if_neg e3] at q; exact q))
          exact ⟨r, S', q1, q2, fQc_tr f3 q3⟩
      · rw [if_neg (fun q => e ((geL 29 (by omega) (by decide)).mp q))]
        exact h_ra30 a2 a3 (vb_6 (fun j hj q => by
          have := wL_inj i hi (29 + j) (by omega) (w2.symm.trans (isW_i.mp q).2)
          omega))
    · rw [w1, if_neg (show ¬ (29 : Int32) ≤ -1 by decide)]
      exact h_ra30 a2 a3 (vb_6 (fun j hj q => w2 (29 + j) (by omega) (isW_i.mp q).2))
  · rw [if_neg (fun q => k1 ((eqL 1 (by have := tK5 T (0, false); omega) (by decide)).mp q))]
    exact h_ra30 a2 a3 (vb_6 (fun j hj q => k1 (isW_i.mp q).1))

/-! level 2: alike answers: years ahead -/
def cQ (S : Hp) (C : Cr) (z : Nat → Nat) (r : Nat) : Prop := r ≤ 60 ∧ z 0 + r ≤ 999 ∧ S.1 60 14 = nI r ∧ stH S 1220 C (yrN C z r) ∧ (∃ kl', kpH S 1220 kl') ∧ ∀ i, i ≤ r → S.1 61 i = nI (yrN C z i 1) ∧ S.1 62 i = nI (yrN C z i 2) ∧ S.1 63 i = nI (thr (yrN C z i) (cT C)) ∧ S.1 64 i = nI (allS (yrN C z i) (cP C))
def aP (c b : Nat) : Prop := scS c b ∨ (60 ≤ b ∧ b ≤ 64) ∨ (1220 ≤ b ∧ b ≤ 1225)
theorem h_note {S : Hp} {n : Nat} {C : Cr} {zr : Nat → Nat} (hC : okCr C) (hz : okZ C zr) (hn : n ≤ 60) (hs : stH S 1220 C zr) : ∃ S', f_X0_note (nI n) S = some S' ∧ S'.1 60 14 = nI n ∧ S'.1 60 15 = S.1 60 15 ∧ S'.1 61 n = nI (zr 1) ∧ S'.1 62 n = nI (zr 2) ∧ S'.1 63 n = nI (thr zr (cT C)) ∧ S'.1 64 n = nI (allS zr (cP C)) ∧ (∀ b k, 61 ≤ b → b ≤ 64 → k ≠ n → S'.1 b k = S.1 b k) ∧ fH (fun b => 60 ≤ b ∧ b ≤ 64) S S' := by
  obtain ⟨S1, hS1⟩ : ∃ S1, S1 = ho_sI (ho_sI S 61 n (nI (zr 1))) 62 n (nI (zr 2)) := ⟨_, rfl⟩
  have f1 : fH (fun b => 60 ≤ b ∧ b ≤ 64) S S1 := by rw [hS1]; exact fH_tr (fH_sI S (by first | decide | (dsimp only; omega) | omega) (by decide)) (fH_sI _ (by first | decide | (dsimp only; omega) | omega) (by decide))
  have s1 : stH S1 1220 C zr := stH_f hs f1 (fun b q x => by omega)
  obtain ⟨S2, hS2⟩ : ∃ S2, S2 = ho_sI S1 63 n (nI (thr zr (cT C))) := ⟨_, rfl⟩
  have f2 : fH (fun b => 60 ≤ b ∧ b ≤ 64) S1 S2 := by rw [hS2]; exact fH_sI S1 (by first | decide | (dsimp only; omega) | omega) (by decide)
  have s2 : stH S2 1220 C zr := stH_f s1 f2 (fun b q x => by omega)
  obtain ⟨S3, hS3⟩ : ∃ S3, S3 = ho_sI (ho_sI S2 64 n (nI (allS zr (cP C)))) 60 14 (nI n) := ⟨_, rfl⟩
  have f3 : fH (fun b => 60 ≤ b ∧ b ≤ 64) S2 S3 := by rw [hS3]; exact fH_tr (fH_sI S2 (by first | decide | (dsimp only; omega) | omega) (by decide)) (fH_sI _ (by first | decide | (dsimp only; omega) | omega) (by decide))
  refine ⟨S3, ?_, ?_, ?_, ?_, ?_, ?_, ?_, fun b k h1 h2 h3 => ?_, fH_tr f1 (fH_tr f2 f3)⟩
  · unfold f_X0_note
    rw [hs.2.1.2.1, stI_n (by omega) (by decide), sI_ne _ (by decide), hs.2.1.2.2, stI_n (by omega) (by decide), ← hS1, h_thr hC hz s1, ob2_s, stI_n (by omega) (by decide), ← hS2, h_all hC hz s2, ob2_s, stI_n (by omega) (by decide), le1_e, ← hS3]
  · rw [hS3, sI_v]
  · rw [hS3, sI_k (by decide), sI_ne _ (by decide), hS2, sI_ne _ (by decide), hS1, sI_ne _ (by decide), sI_ne _ (by decide)]
  · rw [hS3, sI_ne _ (by decide), sI_ne _ (by decide), hS2, sI_ne _ (by decide), hS1, sI_ne _ (by decide), sI_v]
  · rw [hS3, sI_ne _ (by decide), sI_ne _ (by decide), hS2, sI_ne _ (by decide), hS1, sI_v]
  · rw [hS3, sI_ne _ (by decide), sI_ne _ (by decide), hS2, sI_v]
  · rw [hS3, sI_ne _ (by decide), sI_v]
  · have : b = 61 ∨ b = 62 ∨ b = 63 ∨ b = 64 := by omega
    rcases this with rfl | rfl | rfl | rfl
    · rw [hS3, sI_ne _ (by decide), sI_ne _ (by decide), hS2, sI_ne _ (by decide), hS1, sI_ne _ (by decide), sI_k h3]
    · rw [hS3, sI_ne _ (by decide), sI_ne _ (by decide), hS2, sI_ne _ (by decide), hS1, sI_k h3, sI_ne _ (by decide)]
    · rw [hS3, sI_ne _ (by decide), sI_ne _ (by decide), hS2, sI_k h3, hS1, sI_ne _ (by decide), sI_ne _ (by decide)]
    · rw [hS3, sI_ne _ (by decide), sI_k h3, hS2, sI_ne _ (by decide), hS1, sI_ne _ (by decide), sI_ne _ (by decide)]
theorem h_r52 {c n : Nat} {C : Cr} {z : Nat → Nat} (hC : okCr C) (hz : okZ C z) (hn : n ≤ 60) (hzn : z 0 + n ≤ 999) : ∀ (d r K : Nat) (S : Hp), (r + d = n ∨ (d = 0 ∧ n ≤ r)) → d < K → cH S c C → cQ S C z r → ∃ S', f_X0_reach_52 1200 K (nI n) (nI (r + 1)) S = some (1, S') ∧ cQ S' C z (max r n) ∧ fH (aP c) S S' ∧ S'.1 60 15 = S.1 60 15 := by
  intro d
  induction d with
  | zero =>
    intro r K S hr hK h hq
    obtain ⟨K, rfl⟩ : ∃ q, K = q + 1 := ⟨K - 1, by omega⟩
    have := hq.1
    exact ⟨S, by rw [f_X0_reach_52, if_pos (nI_lt (by omega) (by omega))], by rw [show max r n = r by omega]; exact hq, fH_rf _ S, rfl⟩
  | succ d ih =>
    intro r K S hr hK h hq
    obtain ⟨K, rfl⟩ : ∃ q, K = q + 1 := ⟨K - 1, by omega⟩
    obtain ⟨q1, q2, q3, q4, ⟨kl', q5⟩, q6⟩ := hq
    have hzr := yrN_ok hC hz r (by omega)
    have hzr1 := yrN_ok hC hz (r + 1) (by omega)
    have y0 := yrN_0 (z := z) hC r
    have hcc := cH_c h
    obtain ⟨S1, r1, r2, r3, r4⟩ := h_year hC hzr (by omega) h q4 q5
    have h1 := cH_a h (by decide) r4
    obtain ⟨S2, t1, t2, t3, t4, t5, t6, t7, t8, t9⟩ := h_note (n := r + 1) (zr := yrN C z (r + 1)) hC hzr1 (by omega) r2
    have g : ∀ b k, 60 ≤ b → b ≤ 64 → S1.1 b k = S.1 b k := fun b k h1 h2 => by rw [r4.1 b (by unfold scA scS scE; omega)]
    have hq2 : cQ S2 C z (r + 1) := by
      refine ⟨(by omega), (by omega), t2, stH_f r2 t9 (fun b q x => by omega), ⟨_, kpH_f r3 t9 (by first | decide | (dsimp only; omega) | omega) (by first | decide | (dsimp only; omega) | omega)⟩, fun i hi => ?_⟩
      by_cases e : i = r + 1
      · subst e; exact ⟨t4, t5, t6, t7⟩
      · rw [t8 61 i (by decide) (by decide) e, t8 62 i (by decide) (by decide) e, t8 63 i (by decide) (by decide) e, t8 64 i (by decide) (by decide) e, g _ _ (by decide) (by decide), g _ _ (by decide) (by decide), g _ _ (by decide) (by decide), g _ _ (by decide) (by decide)]
        exact q6 i (by omega)
    obtain ⟨S3, u1, u2, u3, u4⟩ := ih (r + 1) K S2 (by omega) (by omega) (cH_f h1 t9 (fun b q => by unfold crC; omega)) hq2
    refine ⟨S3, ?_, by rw [show max r n = max (r + 1) n by omega]; exact u2, fH_tr (fH_mo r4 (fun b q => q.elim Or.inl (fun x => Or.inr (Or.inr ⟨x.1, by omega⟩)))) (fH_tr (fH_mo t9 (fun b q => Or.inr (Or.inl q))) u3), by rw [u4, t3, g 60 15 (by decide) (by decide)]⟩
    rw [f_X0_reach_52, if_neg (nI_nlt (by omega) (by omega)), r1, ob2_s, t1, ob_s, le1_e, nI_1]
    exact u1
theorem h_reach {S : Hp} {c n : Nat} {C : Cr} {z : Nat → Nat} {kl : List Nat} (hC : okCr C) (hz : okZ C z) (h : cH S c C) (b : hN S C z kl) (d : h10 S true C z) (hn : n ≤ 60) (hzn : z 0 + n ≤ 999) : ∃ S' r, f_X0_reach 1200 (nI n) S = some (1, S') ∧ cQ S' C z r ∧ n ≤ r ∧ fH (aP c) S S' ∧ S'.1 60 15 = S.1 60 15 := by
  have hcc := cH_c h
  unfold f_X0_reach
  rw [if_neg (nI_pos (by omega)), if_neg (fun q => absurd ((gtL 60 (by omega) (by decide)).mp q) (by omega)), b.1.2.1.1, nI_add, if_pos ((leL 999 (by omega) (by decide)).mpr hzn)]
  unfold f_X0_reach_45
  rcases d.1 with d1 | ⟨-, r, d1, d2, d3, d4, d5, d6⟩
  · rw [d1, if_pos rfl]
    obtain ⟨S1, a1, a2, a3, a4⟩ := h_copy (show 1220 ∈ yH.1 ∧ yH.2.1 1220 = (1, 9) from ⟨memH (by decide) (by decide), rfl⟩) (by decide) b.1 b.2 hC.1.2.2
    obtain ⟨S2, t1, t2, t3, t4, t5, t6, t7, t8, t9⟩ := h_note (n := 0) (zr := z) hC hz (by decide) a2
    have hq : cQ S2 C z 0 := ⟨(by decide), (by omega), t2, stH_f a2 t9 (fun b q x => by omega), ⟨_, kpH_f a3 t9 (by first | decide | (dsimp only; omega) | omega) (by first | decide | (dsimp only; omega) | omega)⟩, fun i hi => by
      have : i = 0 := by omega
      subst this
      exact ⟨t4, t5, t6, t7⟩⟩
    have h2 : cH S2 c C := cH_f (cH_f h a4 (fun b q => by unfold crC; omega)) t9 (fun b q => by unfold crC; omega)
    obtain ⟨S3, u1, u2, u3, u4⟩ := h_r52 hC hz hn hzn n 0 5000 S2 (Or.inl (by omega)) (by omega) h2 hq
    refine ⟨S3, max 0 n, ?_, u2, (by omega), fH_tr (fH_mo a4 (fun b q => Or.inr (Or.inr q))) (fH_tr (fH_mo t9 (fun b q => Or.inr (Or.inl q))) u3), by rw [u4, t3, a4.1 60 (by first | decide | (dsimp only; omega) | omega)]⟩
    rw [a1, ob_s, show f_X0_note (0 : Int32) S1 = _ from t1, ob_s, t2, le1_e, nI_1]
    exact u1
  · rw [d3, if_neg (fun q => by
      have := congrArg Int32.toInt q
      rw [nI_toInt (by omega), nm1] at this
      omega), le1_e, nI_1]
    by_cases e : r ≤ n
    · obtain ⟨S3, u1, u2, u3, u4⟩ := h_r52 hC hz hn hzn (n - r) r 5000 S (Or.inl (by omega)) (by omega) h ⟨d1, d2, d3, d4, d5, d6⟩
      exact ⟨S3, max r n, u1, u2, (by omega), u3, u4⟩
    · obtain ⟨S3, u1, u2, u3, u4⟩ := h_r52 hC hz hn hzn 0 r 5000 S (Or.inr (by omega)) (by decide) h ⟨d1, d2, d3, d4, d5, d6⟩
      exact ⟨S3, max r n, u1, u2, (by omega), u3, u4⟩
theorem h_reachN {S : Hp} {x : Int32} {y : Nat} (hx : x < 0 ∨ nI 61 ≤ x) : f_X0_reach 1200 x S = some (0, S) := by
  unfold f_X0_reach
  by_cases h0 : x < 0
  · rw [if_pos h0]
  · rw [if_neg h0, if_pos (Int32.lt_of_lt_of_le (show (60 : Int32) < nI 61 by decide) (hx.resolve_left h0))]
theorem h_reachY {S : Hp} {n y : Nat} (hy : S.1 1200 0 = nI y) (hy9 : y ≤ 999) (hn : n ≤ 60) (h : ¬ y + n ≤ 999) : f_X0_reach 1200 (nI n) S = some (0, S) := by
  unfold f_X0_reach
  rw [if_neg (nI_pos (by omega)), if_neg (fun q => absurd ((gtL 60 (by omega) (by decide)).mp q) (by omega)), hy, nI_add, if_neg (fun q => h ((leL 999 (by omega) (by decide)).mp q))]
theorem m_pu7 : ∀ (d i K : Nat) (S : Hp), i + d = 26 → d < K → ∃ S', f_X12_putsAside_7 K (nI i) S = some S' ∧ (∀ k, i ≤ k → k < 26 → S'.1 56 k = S.1 55 k) ∧ fN (fun b k => b = 56 ∧ i ≤ k) S S' := by
  intro d
  induction d with
  | zero =>
    intro i K S hi hK
    obtain ⟨K, rfl⟩ : ∃ q, K = q + 1 := ⟨K - 1, by omega⟩
    exact ⟨S, by rw [f_X12_putsAside_7, if_pos ((geL 26 (by omega) (by decide)).mpr (by omega))], fun k h1 h2 => absurd h2 (by omega), fN_rf _ S⟩
  | succ d ih =>
    intro i K S hi hK
    obtain ⟨K, rfl⟩ : ∃ q, K = q + 1 := ⟨K - 1, by omega⟩
    obtain ⟨S', a1, a2, a3⟩ := ih (i + 1) K (ho_sI S 56 i (S.1 55 i)) (by omega) (by omega)
    refine ⟨S', ?_, fun k h1 h2 => ?_, fN_tr (fN_sI S ⟨rfl, Nat.le_refl _⟩) (fN_mo a3 (fun b k q => ⟨q.1, by omega⟩))⟩
    · rw [f_X12_putsAside_7, if_neg (fun q => absurd ((geL 26 (by omega) (by decide)).mp q) (by omega)), ldI_n (by omega) (by decide), stI_n (by omega) (by decide), le1_e, nI_1]
      exact a1
    · by_cases e : k = i
      · subst e; rw [a3.1 _ _ (by first | decide | (dsimp only; omega) | omega), sI_v]
      · exact (a2 k (by omega) h2).trans (by rw [sI_ne _ (by decide)])
theorem m_ta2 : ∀ (d i K : Nat) (S : Hp), i + d = 26 → d < K → ∃ S', f_X12_triesAnew_2 K (nI i) S = some S' ∧ (∀ k, i ≤ k → k < 26 → S'.1 55 k = S.1 56 k) ∧ fN (fun b k => b = 55 ∧ i ≤ k ∧ k < 26) S S' := by
  intro d
  induction d with
  | zero =>
    intro i K S hi hK
    obtain ⟨K, rfl⟩ : ∃ q, K = q + 1 := ⟨K - 1, by omega⟩
    exact ⟨S, by rw [f_X12_triesAnew_2, if_pos ((geL 26 (by omega) (by decide)).mpr (by omega))], fun k h1 h2 => absurd h2 (by omega), fN_rf _ S⟩
  | succ d ih =>
    intro i K S hi hK
    obtain ⟨K, rfl⟩ : ∃ q, K = q + 1 := ⟨K - 1, by omega⟩
    obtain ⟨S', a1, a2, a3⟩ := ih (i + 1) K (ho_sI S 55 i (S.1 56 i)) (by omega) (by omega)
    refine ⟨S', ?_, fun k h1 h2 => ?_, fN_tr (fN_sI S (by omega)) (fN_mo a3 (fun b k q => by omega))⟩
    · rw [f_X12_triesAnew_2, if_neg (fun q => absurd ((geL 26 (by omega) (by decide)).mp q) (by omega)), ldI_n (by omega) (by decide), stI_n (by omega) (by decide), le1_e, nI_1]
      exact a1
    · by_cases e : k = i
      · subst e; rw [a3.1 _ _ (by first | decide | (dsimp only; omega) | omega), sI_v]
      · exact (a2 k (by omega) h2).trans (by rw [sI_ne _ (by decide)])
/-- what was put aside -/
def mB (S : Hp) (C : Cr) (z : Nat → Nat) : Prop := (∀ k, k < 21 → S.1 56 k = nI (z k)) ∧ ∀ w, w < cW C → S.1 56 (21 + w) = nI (z (21 + w))
theorem m_put {S : Hp} {C : Cr} {z : Nat → Nat} {kl : List Nat} (hC : okCr C) (f : mN S C z kl) : ∃ S', f_X12_putsAside S = some S' ∧ S'.1 0 62 = nI 1 ∧ mB S' C z ∧ mZ S' C z ∧ mK S' kl ∧ fN (fun b k => b = 56 ∨ (b = 0 ∧ k = 62)) S S' := by
  have hnw := hC.1.2.2
  obtain ⟨S1, a1, a2, a3⟩ := m_pu7 26 0 5000 (ho_sI S 0 62 1) (by decide) (by decide)
  have fT : fN (fun b k => b = 56 ∨ (b = 0 ∧ k = 62)) S S1 := fN_tr (fN_sI S (by omega)) (fN_mo a3 (fun b k q => Or.inl q.1))
  refine ⟨S1, ?_, by rw [a3.1 0 62 (by first | decide | (dsimp only; omega) | omega), sI_v]; rfl, ⟨fun k hk => ?_, fun w hw => ?_⟩, mZ_f f.1 fT (fun b k q => by omega), mK_f f.2.1 fT (fun b k q => by omega), fT⟩
  · unfold f_X12_putsAside
    rw [le1_e]
    exact a1
  · rw [a2 k (by omega) (by omega), sI_ne _ (by decide)]; exact f.1.1 k hk
  · rw [a2 _ (by omega) (by omega), sI_ne _ (by decide)]; exact f.1.2 w hw
theorem m_tryN {S : Hp} {C : Cr} {z : Nat → Nat} (hC : okCr C) (h : mB S C z) : ∃ S', f_X12_triesAnew S = some S' ∧ mZ S' C z ∧ fN (fun b k => b = 55 ∧ k < 26) S S' := by
  have hnw := hC.1.2.2
  obtain ⟨S1, a1, a2, a3⟩ := m_ta2 26 0 5000 S (by decide) (by decide)
  exact ⟨S1, a1, ⟨fun k hk => by rw [a2 k (by omega) (by omega)]; exact h.1 k hk, fun w hw => by rw [a2 _ (by omega) (by omega)]; exact h.2 w hw⟩, fN_mo a3 (fun b k q => by omega)⟩
theorem m_tkb {S : Hp} {C : Cr} {z : Nat → Nat} {kl : List Nat} (hC : okCr C) (h : mB S C z) (hk : mK S kl) : ∃ S', f_X12_takesBack S = some S' ∧ mN S' C z kl ∧ fN (fun b k => (b = 55 ∧ k < 26) ∨ (b = 0 ∧ k = 62)) S S' := by
  obtain ⟨S1, a1, a2, a3⟩ := m_tryN hC h
  have fT : fN (fun b k => (b = 55 ∧ k < 26) ∨ (b = 0 ∧ k = 62)) S (ho_sI S1 0 62 0) := fN_tr (fN_mo a3 (fun b k q => Or.inl q)) (fN_sI S1 (by omega))
  refine ⟨_, ?_, ⟨⟨fun k hk => by rw [sI_ne _ (by decide)]; exact a2.1 k hk, fun w hw => by rw [sI_ne _ (by decide)]; exact a2.2 w hw⟩, mK_f hk fT (fun b k q => by omega), sI_v⟩, fT⟩
  unfold f_X12_takesBack
  rw [a1, ob_s, le1_e]
theorem sim_ah {SH SM SH1 SM1 : Hp} {R : Nat → Nat → Prop} {X : Xv} {c : Nat} {C : Cr} {N : Nat → Nat → List Nat} {P : Pa} {z : Nat → Nat} {kl : List Nat} (ok : okX X true C N P z) (a : hA SH X true c C N P) (b : hN SH C z kl) (d : h10 SH true C z) (e : mA SM X true C N P) (hf : fH (aP c) SH SH1) (h15 : SH1.1 60 15 = SH.1 60 15) (hq : ∃ r, cQ SH1 C z r) (mf : fN R SM SM1) (hr : ∀ b k, R b k → sM b k) (mn : mN SM1 C z kl) : Sim SH1 SM1 := by
  have hcc := a.2.2.2.1.2.1.2.2.2
  obtain ⟨r, q⟩ := hq
  refine ⟨X, true, c, C, N, P, z, kl, ok, hA_f a hf (fun b q x => ?_) ?_, hN_f b hf (fun b q x => ?_), ⟨Or.inr ⟨rfl, r, q⟩, ?_⟩, mA_f e mf hr, mn⟩
  · unfold aP scS scE at x; unfold hCl crC at q; omega
  · rw [hf.1 70 (by unfold aP scS scE; omega)]
  · unfold aP scS scE at x; omega
  · rw [h15, hf.1 65 (by unfold aP scS scE; omega)]
    exact d.2
theorem s_13 : sim_13 Sim := by
  intro x y SH SM h
  have h' := h
  obtain ⟨X, cr, c, C, N, P, z, kl, ok, a, b, d, e, f⟩ := h'
  have ok' := ok
  obtain ⟨⟨hC, hz⟩, ⟨hP, hPz⟩, ok2⟩ := ok'
  obtain ⟨c1, ⟨c2, c3, c4, c5⟩, ⟨c6, c7, c8⟩, c9, c10⟩ := a.2.2.2.1
  obtain ⟨m1, mc, mn⟩ := e.2.2.2.1
  have y9 := hz.1
  have hnt := hC.1.2.1
  have hnp := hC.1.1
  unfold f_X11_later f_X12_later
  cases cr with
  | false =>
    rw [c1, m_ahd0 m1, ob2_s, if_pos rfl]
    exact ⟨_, SH, SM, rfl, rfl, h⟩
  | true =>
    rw [if_pos rfl] at c1 m1
    rw [c1, if_neg ne1]
    rcases ix3 x (n := 61) (by decide) with hx | ⟨n, hn, rfl⟩
    · rw [h_reachN (y := 0) hx, ob2_s, if_pos rfl, show f_X12_isAhead x (0 : Int32) (60 : Int32) SM = _ from m_ahdN (lo := 0) (hi := 60) m1 (by decide) (by decide) hx, ob2_s, if_pos rfl]
      exact ⟨_, SH, SM, rfl, rfl, h⟩
    · rw [show f_X12_isAhead (nI n) (0 : Int32) (60 : Int32) SM = _ from m_ahd (lo := 0) (hi := 60) m1 (f.1.1 0 (by decide)) y9 (by decide) (by decide) (by omega), ob2_s]
      by_cases e1 : z 0 + n ≤ 999
      · obtain ⟨S1, r, r1, r2, r3, r4, r5⟩ := h_reach hC hz (c9 rfl) b d (show n ≤ 60 by omega) e1
        obtain ⟨v1, v2, v3, v4⟩ := r2.2.2.2.2.2 n r3
        have hzn := yrN_ok hC hz n e1
        rw [r1, ob2_s, if_neg ne1, if_pos (show 0 ≤ n ∧ n ≤ 60 ∧ z 0 + n ≤ 999 by omega), if_neg ne1, m_inL (n := 3) (by decide), ob2_s]
        rcases ix3 y (n := 4) (by decide) with hy | ⟨j, hj, rfl⟩
        · have hz4 : ∀ k : Nat, k < 4 → ¬ y = nI k := by
            intro k hk q
            subst q
            rcases hy with hy | hy
            · exact nI_pos (by omega) hy
            · exact nI_ge hk (by decide) hy
          rw [if_neg (ix_in5 (n := 3) (by decide) hy), if_pos rfl, if_neg (show ¬ y = (0 : Int32) from hz4 0 (by decide)), if_neg (show ¬ y = (1 : Int32) from hz4 1 (by decide)), if_neg (show ¬ y = (2 : Int32) from hz4 2 (by decide)), if_neg (show ¬ y = (3 : Int32) from hz4 3 (by decide))]
          exact ⟨_, S1, SM, rfl, rfl, sim_ah ok a b d e r4 r5 ⟨r, r2⟩ (fN_rf (fun _ _ => False) SM) (fun b k q => q.elim) f⟩
        · obtain ⟨M1, t1, t2, t3, t4, t5, t6⟩ := m_put hC f
          have mc1 : mC M1 C := mC_f mc t6 (fun b k q => by unfold crM; omega)
          obtain ⟨M2, u1, u2, u3, u4, -⟩ := m_y2 (th := 1) (kl := kl) hC hz e1 n 0 5000 M1 (by omega) (by omega) mc1 t2 (by rw [t6.1 0 52 (by first | decide | (dsimp only; omega) | omega), m1]; exact ne1) t4 t5 (by decide)
          rw [if_neg (by decide)] at u3
          have mc2 : mC M2 C := mC_f mc1 u4 (fun _ _ q => go_c q)
          have b2 : mB M2 C z := ⟨fun k hk => by rw [u4.1 56 k (by unfold goP eP; omega)]; exact t3.1 k hk, fun k hk => by rw [u4.1 56 _ (by unfold goP eP; omega)]; exact t3.2 k hk⟩
          obtain ⟨M3, w1, w2, w3⟩ := m_tkb hC b2 u3
          have e66 : ∀ v, f_X12_later_66 v M2 = some (v, M3) := by
            intro v
            unfold f_X12_later_66
            rw [w1, ob_s]
          have hsim : Sim S1 M3 := sim_ah (R := fun b k => goP b k ∨ b = 56 ∨ (b = 0 ∧ k = 62)) ok a b d e r4 r5 ⟨r, r2⟩ (fN_tr (fN_mo t6 (fun b k q => Or.inr q)) (fN_tr (fN_mo u4 (fun b k q => Or.inl q)) (fN_mo w3 (fun b k q => by unfold goP; omega)))) (fun b k q => by unfold goP eP at q; unfold sM; omega) w2
          have eS : f_X12_storesAll M2 = some (nI (allS (yrN C z n) (cP C)), M2) := by
            rw [m_sa hnp mc2.1.1]
            have e1 : ∀ n', n' ≤ 6 → l_sum (fun j => M2.1 55 (3 + j)) n' = nI (allS (yrN C z n) n') := by
              intro n'
              induction n' with
              | zero => intro _; rfl
              | succ n' ih =>
                intro hn
                show l_sum (fun j => M2.1 55 (3 + j)) n' + M2.1 55 (3 + n') = nI (allS (yrN C z n) (n' + 1))
                rw [ih (by omega), u2.1 (3 + n') (by omega), nI_add]
                rfl
            rw [e1 _ hnp]
          rw [if_pos ((in5 (by decide)).mpr ⟨j, by omega, rfl⟩), if_neg ne1, t1, ob_s, show f_X12_yearsGo (nI n) M1 = _ from u1, ob_s, ldI_n (by omega) (by decide), v1, ldI_n (by omega) (by decide), v2, ldI_n (by omega) (by decide), v3, ldI_n (by omega) (by decide), v4, m_through hC hzn mc2 u2, ob2_s, eS, ob2_s, e66, e66, lit_nI 1, nI_add]
          have : j = 0 ∨ j = 1 ∨ j = 2 ∨ j = 3 := by omega
          rcases this with rfl | rfl | rfl | rfl
          · rw [if_pos (show nI 0 = (0 : Int32) from rfl), if_neg (show ¬ (2 : Int32) ≤ nI 0 by decide), ldI_n (by decide) (by decide), e66, u2.1 1 (by decide)]
            exact ⟨_, S1, M3, rfl, rfl, hsim⟩
          · rw [if_neg (show ¬ nI 1 = (0 : Int32) by decide), if_pos (show nI 1 = nI 1 from rfl), if_neg (show ¬ (2 : Int32) ≤ nI 1 by decide), ldI_n (by decide) (by decide), e66, u2.1 2 (by decide)]
            exact ⟨_, S1, M3, rfl, rfl, hsim⟩
          · rw [if_neg (show ¬ nI 2 = (0 : Int32) by decide), if_neg (show ¬ nI 2 = nI 1 by decide), if_pos (show nI 2 = (2 : Int32) from rfl), if_pos (show (2 : Int32) ≤ nI 2 by decide), if_pos (show nI 2 = (2 : Int32) from rfl)]
            exact ⟨_, S1, M3, rfl, rfl, hsim⟩
          · rw [if_neg (show ¬ nI 3 = (0 : Int32) by decide), if_neg (show ¬ nI 3 = nI 1 by decide), if_neg (show ¬ nI 3 = (2 : Int32) by decide), if_pos (show nI 3 = (3 : Int32) from rfl), if_pos (show (2 : Int32) ≤ nI 3 by decide), if_neg (show ¬ nI 3 = (2 : Int32) by decide)]
            exact ⟨_, S1, M3, rfl, rfl, hsim⟩
      · rw [h_reachY b.1.2.1.1 y9 (by omega) e1, ob2_s, if_pos rfl, if_neg (show ¬ (0 ≤ n ∧ n ≤ 60 ∧ z 0 + n ≤ 999) by omega), if_pos rfl]
        exact ⟨_, SH, SM, rfl, rfl, h⟩

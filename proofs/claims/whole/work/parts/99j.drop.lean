/-! level 2: alike answers: the curtain, the drop, chance -/
def cuF (C : Cr) (z : Nat → Nat) : Nat → Nat → Option Nat
  | 0, _ => none
  | d + 1, i => if z 0 + i ≤ 999 then (if yrN C z i 2 = 0 then some i else cuF C z d (i + 1)) else none
theorem h_cu11 {SH SM : Hp} {X : Xv} {c : Nat} {C : Cr} {N : Nat → Nat → List Nat} {P : Pa} {z : Nat → Nat} {kl : List Nat} (hC : okCr C) (hz : okZ C z) : ∀ (d i K : Nat) (S : Hp), i + d = 61 → d < K → cH S c C → hN S C z kl → h10 S true C z → fH (aP c) SH S → S.1 60 15 = SH.1 60 15 → (∃ r, cQ S C z r) ∨ S = SH → ∃ S', f_X11_curtain_11 K (nI i) S = some (opI (cuF C z d i), S') ∧ fH (aP c) SH S' ∧ S'.1 60 15 = SH.1 60 15 ∧ ((∃ r, cQ S' C z r) ∨ S' = SH) := by
  intro d
  induction d with
  | zero =>
    intro i K S hi hK h b d0 hf h15 hq
    obtain ⟨K, rfl⟩ : ∃ q, K = q + 1 := ⟨K - 1, by omega⟩
    exact ⟨S, by rw [f_X11_curtain_11, if_pos ((gtL 60 (by omega) (by decide)).mpr (by omega))]; rfl, hf, h15, hq⟩
  | succ d ih =>
    intro i K S hi hK h b d0 hf h15 hq
    obtain ⟨K, rfl⟩ : ∃ q, K = q + 1 := ⟨K - 1, by omega⟩
    have hcc := cH_c h
    rw [f_X11_curtain_11, if_neg (fun q => absurd ((gtL 60 (by omega) (by decide)).mp q) (by omega)), cuF]
    by_cases e1 : z 0 + i ≤ 999
    · obtain ⟨S1, r, r1, r2, r3, r4, r5⟩ := h_reach hC hz h b d0 (show i ≤ 60 by omega) e1
      obtain ⟨v1, v2, v3, v4⟩ := r2.2.2.2.2.2 i r3
      have hb := (yrN_ok hC hz i e1).2.2.1
      rw [r1, ob2_s, if_neg ne1, ldI_n (by omega) (by decide), v2, if_pos e1, le1_e, nI_1]
      by_cases e2 : yrN C z i 2 = 0
      · rw [if_pos (show nI (yrN C z i 2) = 0 by rw [e2]; rfl), if_pos e2]
        exact ⟨S1, rfl, fH_tr hf r4, r5.trans h15, Or.inl ⟨r, r2⟩⟩
      · rw [if_neg (nI_ne0 (by omega) (by omega)), if_neg e2]
        refine ih (i + 1) K S1 (by omega) (by omega) (cH_f h r4 (fun b q => by unfold aP scS scE at q; unfold crC; omega)) (hN_f b r4 (fun b q x => by unfold aP scS scE at x; omega)) ⟨Or.inr ⟨rfl, r, r2⟩, ?_⟩ (fH_tr hf r4) (r5.trans h15) (Or.inl ⟨r, r2⟩)
        rw [r5, r4.1 65 (by unfold aP scS scE; omega)]
        exact d0.2
    · rw [h_reachY b.1.2.1.1 hz.1 (by omega) e1, ob2_s, if_pos rfl, if_neg e1]
      exact ⟨S, rfl, hf, h15, hq⟩
theorem m_cu15 {C : Cr} {z : Nat → Nat} {kl : List Nat} (hC : okCr C) (hz : okZ C z) : ∀ (d i K : Nat) (S : Hp), i + d = 60 → d < K → z 0 + i ≤ 999 → mC S C → S.1 0 62 = nI 1 → ¬ S.1 0 52 = 0 → mZ S C (yrN C z i) → mK S kl → mB S C z → ∃ S', f_X12_curtain_15 K (nI i) S = some (opI (cuF C z (d + 1) i), S') ∧ mN S' C z kl ∧ fN (fun b k => goP b k ∨ (b = 0 ∧ k = 62)) S S' := by
  have c66 : ∀ (S : Hp) (i : Nat) (v : Int32) (r : Int32), mB S C z → mK S kl → (if v = 0 then (-1 : Int32) else nI i) = r → ∃ S', f_X12_curtain_66 (nI i) v S = some (r, S') ∧ mN S' C z kl ∧ fN (fun b k => goP b k ∨ (b = 0 ∧ k = 62)) S S' := by
    intro S i v r hb hk hr
    obtain ⟨S', a1, a2, a3⟩ := m_tkb hC hb hk
    refine ⟨S', ?_, a2, fN_mo a3 (fun b k q => by unfold goP; omega)⟩
    unfold f_X12_curtain_66
    rw [a1, ob_s, ← hr]
    split <;> rfl
  intro d
  induction d with
  | zero =>
    intro i K S hi hK hy h hth hcr hs hk hb
    obtain ⟨K, rfl⟩ : ∃ q, K = q + 1 := ⟨K - 1, by omega⟩
    have hzi := yrN_ok hC hz i hy
    have b2 := hzi.2.2.1
    unfold cuF
    rw [if_pos hy, f_X12_curtain_15, ldI_L 2 (by decide) (by decide), hs.1 2 (by decide)]
    unfold f_X12_curtain_52
    rw [ldI_L 2 (by decide) (by decide), hs.1 2 (by decide)]
    by_cases e2 : yrN C z i 2 = 0
    · rw [if_pos (show nI (yrN C z i 2) ≤ 0 by rw [e2]; decide), if_pos (show nI (yrN C z i 2) = 0 by rw [e2]; rfl), if_pos e2]
      exact c66 S i 1 _ hb hk rfl
    · rw [if_neg (nI_nle (by omega) (by omega)), if_pos ((geL 60 (by omega) (by decide)).mpr (by omega)), if_neg (nI_ne0 (by omega) (by omega)), if_neg e2]
      exact c66 S i 0 _ hb hk rfl
  | succ d ih =>
    intro i K S hi hK hy h hth hcr hs hk hb
    obtain ⟨K, rfl⟩ : ∃ q, K = q + 1 := ⟨K - 1, by omega⟩
    have hzi := yrN_ok hC hz i hy
    have b2 := hzi.2.2.1
    have y0 := yrN_0 (z := z) hC i
    rw [cuF, if_pos hy, f_X12_curtain_15, ldI_L 2 (by decide) (by decide), hs.1 2 (by decide)]
    by_cases e2 : yrN C z i 2 = 0
    · unfold f_X12_curtain_52
      rw [ldI_L 2 (by decide) (by decide), hs.1 2 (by decide), if_pos (show nI (yrN C z i 2) ≤ 0 by rw [e2]; decide), if_pos (show nI (yrN C z i 2) = 0 by rw [e2]; rfl), if_pos e2]
      exact c66 S i 1 _ hb hk rfl
    · rw [if_neg (nI_nle (by omega) (by omega)), if_neg (fun q => absurd ((geL 60 (by omega) (by decide)).mp q) (by omega)), if_neg e2, ldI_L 0 (by decide) (by decide), hs.1 0 (by decide), y0]
      by_cases e3 : z 0 + i = 999
      · unfold f_X12_curtain_52
        rw [ldI_L 2 (by decide) (by decide), hs.1 2 (by decide), if_pos ((geL 999 (by omega) (by decide)).mpr (by omega)), if_neg (nI_ne0 (by omega) (by omega)), cuF, if_neg (by omega)]
        exact c66 S i 0 _ hb hk rfl
      · rw [if_neg (fun q => absurd ((geL 999 (by omega) (by decide)).mp q) (by omega))]
        obtain ⟨S1, r1, r2, r3, r4, r5⟩ := m_year (th := 1) hC hzi (by omega) h hs hk hth hcr
        have k1 : mK S1 kl := by
          unfold kpT at r3
          rw [hth, if_neg (by decide)] at r3
          exact r3
        rw [r1, ob_s, le1_e, nI_1]
        obtain ⟨S2, q1, q2, q3⟩ := ih (i + 1) K S1 (by omega) (by omega) (by omega) (mC_f h r4 (fun _ _ q => go_c q)) (by rw [r4.1 0 62 (by unfold goP eP; omega)]; exact hth) (by rw [r4.1 0 52 (by unfold goP eP; omega)]; exact hcr) r2 k1 ⟨fun k hk => by rw [r4.1 56 k (by unfold goP eP; omega)]; exact hb.1 k hk, fun k hk => by rw [r4.1 56 _ (by unfold goP eP; omega)]; exact hb.2 k hk⟩
        exact ⟨S2, q1, q2, fN_tr (fN_mo r4 (fun b k q => Or.inl q)) q3⟩
theorem s_14 : sim_14 Sim := by
  intro SH SM h
  have h' := h
  obtain ⟨X, cr, c, C, N, P, z, kl, ok, a, b, d, e, f⟩ := h'
  have ok' := ok
  obtain ⟨⟨hC, hz⟩, ⟨hP, hPz⟩, ok2⟩ := ok'
  obtain ⟨c1, ⟨c2, c3, c4, c5⟩, ⟨c6, c7, c8⟩, c9, c10⟩ := a.2.2.2.1
  obtain ⟨m1, mc, mn⟩ := e.2.2.2.1
  have y9 := hz.1
  unfold f_X11_curtain f_X12_curtain
  rw [c1, m1]
  cases cr with
  | false => exact ⟨_, SH, SM, rfl, rfl, h⟩
  | true =>
    rw [if_pos rfl, if_neg ne1, if_neg ne1]
    rw [if_pos rfl] at m1
    obtain ⟨S1, r1, r2, r3, r4⟩ := h_cu11 (SH := SH) (SM := SM) (X := X) (N := N) (P := P) (kl := kl) hC hz 61 0 5000 SH (by decide) (by decide) (c9 rfl) b d (fH_rf _ _) rfl (Or.inr rfl)
    obtain ⟨M1, t1, t2, t3, t4, t5, t6⟩ := m_put hC f
    obtain ⟨M2, u1, u2, u3⟩ := m_cu15 (kl := kl) hC hz 60 0 5000 M1 (by decide) (by decide) (by omega) (mC_f mc t6 (fun b k q => by unfold crM; omega)) t2 (by rw [t6.1 0 52 (by first | decide | (dsimp only; omega) | omega), m1]; exact ne1) t4 t5 t3
    rw [show f_X11_curtain_11 5000 (0 : Int32) SH = _ from r1, t1, ob_s, show f_X12_curtain_15 5000 (0 : Int32) M1 = _ from u1]
    have fM : fN (fun b k => goP b k ∨ b = 56 ∨ (b = 0 ∧ k = 62)) SM M2 := fN_tr (fN_mo t6 (fun b k q => Or.inr q)) (fN_mo u3 (fun b k q => q.elim Or.inl (fun x => Or.inr (Or.inr x))))
    rcases r4 with hq | hq
    · exact ⟨_, S1, M2, rfl, rfl, sim_ah ok a b d e r2 r3 hq fM (fun b k q => by unfold goP eP at q; unfold sM; omega) u2⟩
    · refine ⟨_, S1, M2, rfl, rfl, X, true, c, C, N, P, z, kl, ok, ?_, ?_, ?_, mA_f e fM (fun b k q => by unfold goP eP at q; unfold sM; omega), u2⟩
      · rw [hq]; exact a
      · rw [hq]; exact b
      · rw [hq]; exact d
/-- what a time is worth -/
def wth (C : Cr) (z : Nat → Nat) (i : Nat) : Int := 100 * (yrN C z i 2 : Int) - (yrN C z i 1 : Int)
def dpN (C : Cr) (z : Nat → Nat) : Nat → Nat
  | 0 => 0
  | n + 1 => if wth C z (dpN C z n) < wth C z (n + 1) then n + 1 else dpN C z n
theorem dpN_le (C : Cr) (z : Nat → Nat) : ∀ n, dpN C z n ≤ n
  | 0 => Nat.le_refl _
  | n + 1 => by
    have := dpN_le C z n
    rw [dpN]
    split <;> omega
theorem wth_i {C : Cr} {z : Nat → Nat} {i : Nat} (hz : okZ C (yrN C z i)) : ((100 : Int32) * nI (yrN C z i 2) - nI (yrN C z i 1)).toInt = wth C z i := by
  have h1 := hz.2.1
  have h2 := hz.2.2.1
  rw [lit_nI 100, pk_mul, pk_sub_toInt (by omega) (by omega)]
  unfold wth
  omega
theorem h_dr28 {S : Hp} {C : Cr} {z : Nat → Nat} {n r : Nat} (hC : okCr C) (hz : okZ C z) (hn : n ≤ 60) (hzn : z 0 + n ≤ 999) (hr : n ≤ r) (hq : cQ S C z r) : ∀ (d i K : Nat), i + d = n → d < K → f_X11_drop_28 K (nI n) (nI (dpN C z i)) (nI (i + 1)) S = some (nI (dpN C z n), S) := by
  have hw : ∀ i, i ≤ n → f_X0_worth (nI i) S = some ((100 : Int32) * nI (yrN C z i 2) - nI (yrN C z i 1), S) := by
    intro i hi
    obtain ⟨v1, v2, v3, v4⟩ := hq.2.2.2.2.2 i (by omega)
    unfold f_X0_worth
    rw [ldI_n (by omega) (by decide), v2, ldI_n (by omega) (by decide), v1]
  intro d
  induction d with
  | zero =>
    intro i K hi hK
    obtain ⟨K, rfl⟩ : ∃ q, K = q + 1 := ⟨K - 1, by omega⟩
    rw [f_X11_drop_28, if_pos (nI_lt (by omega) (by omega)), show i = n by omega]
  | succ d ih =>
    intro i K hi hK
    obtain ⟨K, rfl⟩ : ∃ q, K = q + 1 := ⟨K - 1, by omega⟩
    have hle := dpN_le C z i
    have h54 : ∀ v, f_X11_drop_54 (f_X11_drop_28 K) (nI n) v (nI (i + 1)) S = f_X11_drop_28 K (nI n) v (nI (i + 1 + 1)) S := by
      intro v
      unfold f_X11_drop_54
      rw [le1_e, nI_1]
    have hI := ih (i + 1) K (by omega) (by omega)
    rw [f_X11_drop_28, if_neg (nI_nlt (by omega) (by omega)), hw (i + 1) (by omega), ob2_s, hw _ (by omega), ob2_s, h54, h54]
    have w1 := wth_i (yrN_ok hC hz (i + 1) (by omega))
    have w2 := wth_i (yrN_ok hC hz (dpN C z i) (by omega))
    rw [dpN] at hI
    by_cases e : wth C z (dpN C z i) < wth C z (i + 1)
    · rw [if_neg (by rw [Int32.le_iff_toInt_le, w1, w2]; omega)]
      rw [if_pos e] at hI
      exact hI
    · rw [if_pos (by rw [Int32.le_iff_toInt_le, w1, w2]; omega)]
      rw [if_neg e] at hI
      exact hI
theorem m_dr39 {C : Cr} {z : Nat → Nat} {kl : List Nat} {n : Nat} (hC : okCr C) (hz : okZ C z) (hn : n ≤ 60) (hzn : z 0 + n ≤ 999) : ∀ (d i K : Nat) (S : Hp), i + d = n → d < K → mC S C → S.1 0 62 = nI 1 → ¬ S.1 0 52 = 0 → mZ S C (yrN C z i) → mK S kl → mB S C z → ∃ S', f_X12_drop_39 K (nI n) (nI (dpN C z i)) ((100 : Int32) * nI (yrN C z (dpN C z i) 2) - nI (yrN C z (dpN C z i) 1)) (nI (i + 1)) S = some (nI (dpN C z n), S') ∧ mN S' C z kl ∧ fN (fun b k => goP b k ∨ (b = 0 ∧ k = 62)) S S' := by
  intro d
  induction d with
  | zero =>
    intro i K S hi hK h hth hcr hs hk hb
    obtain ⟨K, rfl⟩ : ∃ q, K = q + 1 := ⟨K - 1, by omega⟩
    obtain ⟨S', a1, a2, a3⟩ := m_tkb hC hb hk
    refine ⟨S', ?_, a2, fN_mo a3 (fun b k q => by unfold goP; omega)⟩
    rw [f_X12_drop_39, if_pos (nI_lt (by omega) (by omega)), a1, ob_s, show i = n by omega]
  | succ d ih =>
    intro i K S hi hK h hth hcr hs hk hb
    obtain ⟨K, rfl⟩ : ∃ q, K = q + 1 := ⟨K - 1, by omega⟩
    have hle := dpN_le C z i
    have hzi := yrN_ok hC hz i (by omega)
    have y0 := yrN_0 (z := z) hC i
    obtain ⟨S1, r1, r2, r3, r4, r5⟩ := m_year (th := 1) hC hzi (by omega) h hs hk hth hcr
    have r2' : mZ S1 C (yrN C z (i + 1)) := r2
    have k1 : mK S1 kl := by
      unfold kpT at r3
      rw [hth, if_neg (by decide)] at r3
      exact r3
    have h82 : ∀ u v, f_X12_drop_82 (f_X12_drop_39 K) (nI n) u v (nI (i + 1)) S1 = f_X12_drop_39 K (nI n) u v (nI (i + 1 + 1)) S1 := by
      intro u v
      unfold f_X12_drop_82
      rw [le1_e, nI_1]
    obtain ⟨S2, q1, q2, q3⟩ := ih (i + 1) K S1 (by omega) (by omega) (mC_f h r4 (fun _ _ q => go_c q)) (by rw [r4.1 0 62 (by unfold goP eP; omega)]; exact hth) (by rw [r4.1 0 52 (by unfold goP eP; omega)]; exact hcr) r2' k1 ⟨fun k hk => by rw [r4.1 56 k (by unfold goP eP; omega)]; exact hb.1 k hk, fun k hk => by rw [r4.1 56 _ (by unfold goP eP; omega)]; exact hb.2 k hk⟩
    refine ⟨S2, ?_, q2, fN_tr (fN_mo r4 (fun b k q => Or.inl q)) q3⟩
    have w1 := wth_i (yrN_ok hC hz (i + 1) (by omega))
    have w2 := wth_i (yrN_ok hC hz (dpN C z i) (by omega))
    rw [f_X12_drop_39, if_neg (nI_nlt (by omega) (by omega)), r1, ob_s, ldI_L 2 (by decide) (by decide), r2'.1 2 (by decide), ldI_L 1 (by decide) (by decide), r2'.1 1 (by decide), le1_e, h82, h82]
    rw [dpN] at q1
    by_cases e : wth C z (dpN C z i) < wth C z (i + 1)
    · rw [if_pos (by rw [Int32.lt_iff_toInt_lt, w1, w2]; exact e)]
      rw [if_pos e] at q1
      exact q1
    · rw [if_neg (by rw [Int32.lt_iff_toInt_lt, w1, w2]; exact e)]
      rw [if_neg e] at q1
      exact q1
theorem s_16 : sim_16 Sim := by
  intro x SH SM h
  have h' := h
  obtain ⟨X, cr, c, C, N, P, z, kl, ok, a, b, d, e, f⟩ := h'
  have ok' := ok
  obtain ⟨⟨hC, hz⟩, ⟨hP, hPz⟩, ok2⟩ := ok'
  obtain ⟨c1, ⟨c2, c3, c4, c5⟩, ⟨c6, c7, c8⟩, c9, c10⟩ := a.2.2.2.1
  obtain ⟨m1, mc, mn⟩ := e.2.2.2.1
  have y9 := hz.1
  unfold f_X11_drop f_X12_drop
  cases cr with
  | false =>
    rw [c1, m_ahd0 m1, ob2_s, if_pos rfl]
    exact ⟨_, SH, SM, rfl, rfl, h⟩
  | true =>
    rw [if_pos rfl] at c1 m1
    rw [c1, if_neg ne1]
    rcases ix3 x (n := 61) (by decide) with hx | ⟨n, hn, rfl⟩
    · rw [h_reachN (y := 0) hx, ob2_s, if_pos rfl, show f_X12_isAhead x (0 : Int32) (60 : Int32) SM = _ from m_ahdN (lo := 0) (hi := 60) m1 (by decide) (by decide) hx, ob2_s, if_pos rfl]
      exact ⟨_, SH, SM, rfl, rfl, h⟩
    · rw [show f_X12_isAhead (nI n) (0 : Int32) (60 : Int32) SM = _ from m_ahd (lo := 0) (hi := 60) m1 (f.1.1 0 (by decide)) y9 (by decide) (by decide) (by omega), ob2_s]
      by_cases e1 : z 0 + n ≤ 999
      · obtain ⟨S1, r, r1, r2, r3, r4, r5⟩ := h_reach hC hz (c9 rfl) b d (show n ≤ 60 by omega) e1
        obtain ⟨M1, t1, t2, t3, t4, t5, t6⟩ := m_put hC f
        obtain ⟨M2, u1, u2, u3⟩ := m_dr39 (kl := kl) hC hz (show n ≤ 60 by omega) e1 n 0 5000 M1 (by omega) (by omega) (mC_f mc t6 (fun b k q => by unfold crM; omega)) t2 (by rw [t6.1 0 52 (by first | decide | (dsimp only; omega) | omega), m1]; exact ne1) t4 t5 t3
        have hd := h_dr28 hC hz (show n ≤ 60 by omega) e1 r3 r2 n 0 5000 (by omega) (by omega)
        rw [r1, ob2_s, if_neg ne1, if_pos (show 0 ≤ n ∧ n ≤ 60 ∧ z 0 + n ≤ 999 by omega), if_neg ne1, show f_X11_drop_28 5000 (nI n) (0 : Int32) (1 : Int32) S1 = _ from hd, t1, ob_s, ldI_L 2 (by decide) (by decide), t4.1 2 (by decide), ldI_L 1 (by decide) (by decide), t4.1 1 (by decide), le1_e, show f_X12_drop_39 5000 (nI n) (0 : Int32) ((100 : Int32) * nI (z 2) - nI (z 1)) (1 : Int32) M1 = _ from u1]
        exact ⟨_, S1, M2, rfl, rfl, sim_ah (R := fun b k => goP b k ∨ b = 56 ∨ (b = 0 ∧ k = 62)) ok a b d e r4 r5 ⟨r, r2⟩ (fN_tr (fN_mo t6 (fun b k q => Or.inr q)) (fN_mo u3 (fun b k q => q.elim Or.inl (fun x => Or.inr (Or.inr x))))) (fun b k q => by unfold goP eP at q; unfold sM; omega) u2⟩
      · rw [h_reachY b.1.2.1.1 y9 (by omega) e1, ob2_s, if_pos rfl, if_neg (show ¬ (0 ≤ n ∧ n ≤ 60 ∧ z 0 + n ≤ 999) by omega), if_pos rfl]
        exact ⟨_, SH, SM, rfl, rfl, h⟩

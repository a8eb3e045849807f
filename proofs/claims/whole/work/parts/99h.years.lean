/-! level 2: alike answers: sit, move, years, chance -/
theorem stH_seat {S : Hp} {a w v : Nat} {C : Cr} {z : Nat → Nat} (hC : okCr C) (h : stH S a C z) (hw : w < cW C) : stH (ho_sI S (a + 4) w (nI v)) a C (zup z (21 + w) v) := by
  have hnw := hC.1.2.2
  obtain ⟨s0, s1, s2, s3⟩ := h
  refine ⟨s0, ?_, fun p hp => ?_, fun k hk => ?_⟩
  · rw [sI_ne _ (by omega), zup_n (by omega), zup_n (by omega), zup_n (by omega)]; exact s1
  · rw [sI_ne _ (by omega), sI_ne _ (by omega), sI_ne _ (by omega), zup_n (by omega), zup_n (by omega), zup_n (by omega)]; exact s2 p hp
  · by_cases e : k = w
    · subst e; rw [sI_v, zup_s]
    · rw [sI_k e, zup_n (by omega)]; exact s3 k hk
theorem mZ_seat {S : Hp} {w v : Nat} {C : Cr} {z : Nat → Nat} (h : mZ S C z) (hw : w < cW C) : mZ (ho_sI S 55 (21 + w) (nI v)) C (zup z (21 + w) v) := by
  refine ⟨fun k hk => by rw [sI_k (by omega), zup_n (by omega)]; exact h.1 k hk, fun k hk => ?_⟩
  by_cases e : k = w
  · subst e; rw [sI_v, zup_s]
  · rw [sI_k (by omega), zup_n (by omega)]; exact h.2 k hk
theorem m_refd {S : Hp} : f_X12_isRefused S = some (0, ho_sI S 10 2 (S.1 10 2 + 1)) := by
  unfold f_X12_isRefused
  rw [ldI_L 2 (by decide) (by decide), stI_L 2 (by decide) (by decide)]
theorem s_23 : sim_23 Sim := by
  intro x y SH SM h
  have h' := h
  obtain ⟨X, cr, c, C, N, P, z, kl, ok, a, b, d, e, f⟩ := h'
  have ok' := ok
  obtain ⟨⟨hC, hz⟩, ⟨hP, hPz⟩, ok2⟩ := ok'
  obtain ⟨c1, ⟨c2, c3, c4, c5⟩, ⟨c6, c7, c8⟩, c9, c10⟩ := a.2.2.2.1
  have hp := crH c5
  have hnw := hC.1.2.2
  have mc := e.2.2.2.1.2.1
  have hr := sim_ref (j := 2) (by decide) h
  have hrH : f_X11_sit_35 SH = some (0, ho_sI SH 1 2 (SH.1 1 2 + 1)) := by
    unfold f_X11_sit_35
    rw [show f_X11_refuses (2 : Int32) SH = _ from h_refuses (j := 2) (by decide), ob2_s, tr0]
  have hrM : f_X12_sit_29 SM = some (0, ho_sI SM 10 2 (SM.1 10 2 + 1)) := by
    unfold f_X12_sit_29
    rw [m_refd, ob2_s, tr0]
  unfold f_X11_sit f_X12_sit
  rw [ldP_n c2 hp, m_isW, ob2_s, mc.1.2.2]
  rcases ix3 x (n := cW C) (by omega) with hx | ⟨w, hw, rfl⟩
  · rw [show f_X2_holds c (2 : Int32) x SH = _ from h_hN (k := 2) (by decide) c8 (by omega) hx, ob2_s, if_pos rfl, if_neg (show ¬ ((0 : Int32) ≤ x ∧ x ≤ nI (cW C) - 1) from ix_o (by omega) hx), if_pos rfl, hrH, hrM]
    exact ⟨_, _, _, rfl, rfl, hr⟩
  · rw [show f_X2_holds c (2 : Int32) (nI w) SH = _ from h_hY (k := 2) (by decide) c8 (by omega) hw, ob2_s, if_neg ne1, if_pos (show (0 : Int32) ≤ nI w ∧ nI w ≤ nI (cW C) - 1 from (ix_iff (by omega)).mpr ⟨w, hw, rfl⟩), if_neg ne1, m_inL (n := 9) (by decide), ob2_s, hrH, hrM]
    rcases ix3 y (n := 10) (by decide) with hy | ⟨s, hs, rfl⟩
    · rw [if_neg (ix_in5 (n := 9) (by decide) hy), if_pos rfl]
      by_cases h0 : y < 0
      · rw [if_pos h0]; exact ⟨_, _, _, rfl, rfl, hr⟩
      · rw [if_neg h0, if_pos (show (10 : Int32) ≤ y from hy.resolve_left h0)]; exact ⟨_, _, _, rfl, rfl, hr⟩
    · have hse := hz.2.2.2.2.2.2.1 w hw
      rw [if_neg (nI_pos (by omega)), if_neg (fun q => absurd ((geL 10 (by omega) (by decide)).mp q) (by omega)), ldI_n (by omega) (by decide), b.1.2.2.2 w hw, if_pos ((in5 (by decide)).mpr ⟨s, by omega, rfl⟩), if_neg ne1, m_seat (by omega), ob2_s, f.1.2 w hw]
      by_cases e1 : z (21 + w) = s
      · rw [if_pos (show nI (z (21 + w)) = nI s by rw [e1]), if_pos (show nI (z (21 + w)) = nI s by rw [e1])]
        exact ⟨_, _, _, rfl, rfl, hr⟩
      · have hne : ¬ nI (z (21 + w)) = nI s := fun q => e1 ((nI_eq (by omega) (by omega)).mp q)
        rw [if_neg hne, if_neg hne]
        obtain ⟨S1, r1, r2, r3, r4, r5, r6⟩ := h_rem hC hP a b
        obtain ⟨M1, v1, v2, v3, v4⟩ := m_keeps hC hP e f
        have hcc := a.2.2.2.1.2.1.2.2.2
        have fT : fH (fun b => b = 1204) S1 (ho_sI S1 1204 w (nI s)) := fH_sI S1 rfl (by decide)
        have fM : fN (fun b k => b = 55 ∧ k < 26) M1 (ho_sI M1 55 (21 + w) (nI s)) := fN_sI M1 ⟨rfl, by omega⟩
        rw [r1, ob_s, stI_n (by omega) (by decide), v1, ob_s, lit_nI 21, nI_add, stI_n (by omega) (by decide)]
        refine ⟨_, _, _, rfl, rfl, sim_act (z := zup z (21 + w) s) (kl := kl) ⟨⟨hC, ?_⟩, Pp_ok ⟨hP, hPz⟩ hz, ok2⟩ (hA_f r2 fT (fun b q x => by unfold hCl crC at q; omega) (by rw [sI_ne _ (by decide)])) ⟨stH_seat hC r3.1 hw, kpH_f r3.2 fT (by first | decide | (dsimp only; omega) | omega) (by first | decide | (dsimp only; omega) | omega)⟩ (by rw [sI_ne _ (by decide)]; exact r4) (by rw [sI_ne _ (by decide)]; exact r5) (mA_f v2 fM (fun b k q => by unfold sM; omega)) ⟨mZ_seat v3.1 hw, mK_f v3.2.1 fM (fun b k q => by omega), by rw [sI_ne _ (by decide)]; exact v3.2.2⟩⟩
        obtain ⟨a0, a1, a2, a3, a4, a5, a6, a7, a8⟩ := hz
        refine ⟨by rw [zup_n (by omega)]; exact a0, by rw [zup_n (by omega)]; exact a1, by rw [zup_n (by omega)]; exact a2, fun p hp => by rw [zup_n (by omega)]; exact a3 p hp, fun p hp => by rw [zup_n (by omega)]; exact a4 p hp, fun p hp => by rw [zup_n (by omega)]; exact a5 p hp, fun k hk => ?_, fun p hp hp2 => by rw [zup_n (by omega)]; exact a7 p hp hp2, fun p hp hp2 => by rw [zup_n (by omega), zup_n (by omega)]; exact a8 p hp hp2⟩
        by_cases ek : k = w
        · subst ek; rw [zup_s]; omega
        · rw [zup_n (by omega)]; exact a6 k hk
theorem s_24 : sim_24 Sim := by
  intro x y u SH SM h
  have h' := h
  obtain ⟨X, cr, c, C, N, P, z, kl, ok, a, b, d, e, f⟩ := h'
  have ok' := ok
  obtain ⟨⟨hC, hz⟩, ⟨hP, hPz⟩, ok2⟩ := ok'
  obtain ⟨c1, ⟨c2, c3, c4, c5⟩, ⟨c6, c7, c8⟩, c9, c10⟩ := a.2.2.2.1
  have hp := crH c5
  have hnp := hC.1.1
  have mc := e.2.2.2.1.2.1
  have hr := sim_ref (j := 2) (by decide) h
  have hrH : f_X11_move_29 SH = some (0, ho_sI SH 1 2 (SH.1 1 2 + 1)) := by
    unfold f_X11_move_29
    rw [show f_X11_refuses (2 : Int32) SH = _ from h_refuses (j := 2) (by decide), ob2_s, tr0]
  have hrH2 : f_X11_move_70 SH = some (0, ho_sI SH 1 2 (SH.1 1 2 + 1)) := hrH
  have hrM : f_X12_move_61 SM = some (0, ho_sI SM 10 2 (SM.1 10 2 + 1)) := by
    unfold f_X12_move_61
    rw [m_refd, ob2_s, tr0]
  unfold f_X11_move f_X12_move
  rw [ldP_n c2 hp, m_isP, ob2_s, mc.1.1]
  rcases ix3 x (n := cP C) (by omega) with hx | ⟨p, hpp, rfl⟩
  · rw [show f_X2_holds c (0 : Int32) x SH = _ from h_hN (k := 0) (by decide) c6 hnp hx, ob2_s, if_pos rfl, if_neg (show ¬ ((0 : Int32) ≤ x ∧ x ≤ nI (cP C) - 1) from ix_o (by omega) hx), if_pos rfl, hrH, hrM]
    exact ⟨_, _, _, rfl, rfl, hr⟩
  rw [show f_X2_holds c (0 : Int32) (nI p) SH = _ from h_hY (k := 0) (by decide) c6 hnp hpp, ob2_s, if_neg ne1, if_pos (show (0 : Int32) ≤ nI p ∧ nI p ≤ nI (cP C) - 1 from (ix_iff (by omega)).mpr ⟨p, hpp, rfl⟩), if_neg ne1, ldP_n c2 hp, m_isP, ob2_s, mc.1.1]
  rcases ix3 y (n := cP C) (by omega) with hy | ⟨q, hqq, rfl⟩
  · rw [show f_X2_holds c (0 : Int32) y SH = _ from h_hN (k := 0) (by decide) c6 hnp hy, ob2_s, if_pos rfl, if_neg (show ¬ ((0 : Int32) ≤ y ∧ y ≤ nI (cP C) - 1) from ix_o (by omega) hy), if_pos rfl, hrH, hrM]
    exact ⟨_, _, _, rfl, rfl, hr⟩
  rw [show f_X2_holds c (0 : Int32) (nI q) SH = _ from h_hY (k := 0) (by decide) c6 hnp hqq, ob2_s, if_neg ne1, if_pos (show (0 : Int32) ≤ nI q ∧ nI q ≤ nI (cP C) - 1 from (ix_iff (by omega)).mpr ⟨q, hqq, rfl⟩), if_neg ne1, hrH, hrH2, hrM]
  by_cases epq : p = q
  · rw [if_pos (show nI p = nI q by rw [epq]), if_pos (show nI p = nI q by rw [epq])]
    exact ⟨_, _, _, rfl, rfl, hr⟩
  have hne : ¬ nI p = nI q := fun x => epq ((nI_eq (by omega) (by omega)).mp x)
  have zp := hz.2.2.2.1 p (by omega)
  have zq := hz.2.2.2.1 q (by omega)
  have i1 : f_X12_isIn u.toInt64 (1 : Int64) (9999 : Int64) SM = some (if (1 : Int32) ≤ u ∧ u ≤ nI 9999 then 1 else 0, SM) := by
    rw [show (1 : Int64) = (1 : Int32).toInt64 by decide, show (9999 : Int64) = (nI 9999).toInt64 by decide, m_isInI]
  rw [if_neg hne, if_neg hne, i1, ob2_s, ldI_n (by omega) (by decide), (b.1.2.2.1 p (by omega)).1, ldI_n (by omega) (by decide), (b.1.2.2.1 q (by omega)).1, lit_nI 3, nI_add, nI_add, ldI_n (by omega) (by decide), f.1.1 _ (by omega), ldI_n (by omega) (by decide), f.1.1 _ (by omega)]
  by_cases hu : u < (1 : Int32)
  · rw [if_pos hu, if_neg (show ¬ ((1 : Int32) ≤ u ∧ u ≤ nI 9999) from fun q => absurd hu (Int32.not_lt.mpr q.1)), if_pos rfl]
    exact ⟨_, _, _, rfl, rfl, hr⟩
  · have hu0 : ¬ u < 0 := fun q => hu (Int32.lt_trans q (by decide))
    obtain ⟨k, hk, rfl⟩ := nI_of hu0
    have hk1 : 1 ≤ k := by
      refine Classical.byContradiction (fun q => hu ?_)
      rw [show k = 0 by omega]
      decide
    rw [if_neg hu]
    by_cases e1 : z (3 + p) < k
    · rw [if_pos (nI_lt e1 (by omega)), if_pos (nI_lt e1 (by omega))]
      refine ⟨_, _, _, rfl, ?_, hr⟩
      split <;> rfl
    · rw [if_neg (nI_nlt (by omega) (by omega)), if_neg (nI_nlt (by omega) (by omega)), if_pos (show (1 : Int32) ≤ nI k ∧ nI k ≤ nI 9999 from ⟨(geL 1 (by omega) (by decide)).mpr hk1, nI_le (by omega) (by decide)⟩), if_neg ne1, lit_nI 9999, pk_sub zq, nI_add]
      by_cases e2 : k ≤ 9999 - z (3 + q)
      · rw [if_pos (nI_le e2 (by omega)), if_pos (nI_le (by omega) (by omega))]
        obtain ⟨S1, r1, r2, r3, r4, r5, r6⟩ := h_rem hC hP a b
        obtain ⟨M1, v1, v2, v3, v4⟩ := m_keeps hC hP e f
        have hcc := a.2.2.2.1.2.1.2.2.2
        have h1 := stH_r (x := 1) (t := p) (v := z (3 + p) - k) r3.1 (Or.inl rfl) (by omega)
        have h2 := stH_r (x := 1) (t := q) (v := z (3 + q) + k) h1 (Or.inl rfl) (by omega)
        have n1 := mZ_u (i := 3 + p) (v := z (3 + p) - k) v3.1 (by omega)
        have n2 := mZ_u (i := 3 + q) (v := z (3 + q) + k) n1 (by omega)
        have fT : fH (fun b => b = 1201) S1 (ho_sI (ho_sI S1 (1200 + 1) p (nI (z (3 + p) - k))) (1200 + 1) q (nI (z (3 + q) + k))) := fH_tr (fH_sI S1 rfl (by decide)) (fH_sI _ rfl (by decide))
        have fM : fN (fun b k => b = 55 ∧ k < 26) M1 (ho_sI (ho_sI M1 55 (3 + p) (nI (z (3 + p) - k))) 55 (3 + q) (nI (z (3 + q) + k))) := fN_tr (fN_sI M1 ⟨rfl, by omega⟩) (fN_sI _ ⟨rfl, by omega⟩)
        rw [r1, ob_s, ldI_n (by omega) (by decide), (r3.1.2.2.1 p (by omega)).1, pk_sub (by omega), stI_n (by omega) (by decide), ldI_n (by omega) (by decide), sI_k (by omega), (r3.1.2.2.1 q (by omega)).1, nI_add, stI_n (by omega) (by decide), v1, ob_s, ldI_n (by omega) (by decide), v3.1.1 _ (by omega), pk_sub (by omega), stI_n (by omega) (by decide), ldI_n (by omega) (by decide), sI_k (by omega), v3.1.1 _ (by omega), nI_add, stI_n (by omega) (by decide)]
        refine ⟨_, _, _, rfl, rfl, sim_act (z := zup (zup z (3 + p) (z (3 + p) - k)) (3 + q) (z (3 + q) + k)) (kl := kl) ⟨⟨hC, ?_⟩, Pp_ok ⟨hP, hPz⟩ hz, ok2⟩ (hA_f r2 fT (fun b q x => by unfold hCl crC at q; omega) (by rw [sI_ne _ (by decide), sI_ne _ (by decide)])) ⟨h2, kpH_f r3.2 fT (by first | decide | (dsimp only; omega) | omega) (by first | decide | (dsimp only; omega) | omega)⟩ (by rw [sI_ne _ (by decide), sI_ne _ (by decide)]; exact r4) (by rw [sI_ne _ (by decide), sI_ne _ (by decide)]; exact r5) (mA_f v2 fM (fun b k q => by unfold sM; omega)) ⟨n2, mK_f v3.2.1 fM (fun b k q => by omega), by rw [sI_ne _ (by decide), sI_ne _ (by decide)]; exact v3.2.2⟩⟩
        obtain ⟨a0, a1, a2, a3, a4, a5, a6, a7, a8⟩ := hz
        refine ⟨by rw [zup_n (by omega), zup_n (by omega)]; exact a0, by rw [zup_n (by omega), zup_n (by omega)]; exact a1, by rw [zup_n (by omega), zup_n (by omega)]; exact a2, fun r hr => ?_, fun r hr => by rw [zup_n (by omega), zup_n (by omega)]; exact a4 r hr, fun r hr => by rw [zup_n (by omega), zup_n (by omega)]; exact a5 r hr, fun r hr => by rw [zup_n (by omega), zup_n (by omega)]; exact a6 r hr, fun r hr hr2 => by rw [zup_n (by omega), zup_n (by omega)]; exact a7 r hr hr2, fun r hr hr2 => by rw [zup_n (by omega), zup_n (by omega), zup_n (by omega), zup_n (by omega)]; exact a8 r hr hr2⟩
        by_cases x1 : r = q
        · subst x1; rw [zup_s]; omega
        · rw [zup_n (by omega)]
          by_cases x2 : r = p
          · subst x2; rw [zup_s]; omega
          · rw [zup_n (by omega)]; exact a3 r hr
      · rw [if_neg (nI_ge (by omega) (by omega)), if_neg (nI_ge (by omega) (by omega))]
        exact ⟨_, _, _, rfl, rfl, hr⟩
/-- rows kept and years with enough, years by years -/
def ykN (C : Cr) (z : Nat → Nat) (kl : List Nat) : Nat → List Nat
  | 0 => kl
  | n + 1 => yrK C (yrN C z n) (ykN C z kl n)
def enN (C : Cr) (z : Nat → Nat) : Nat → Nat
  | 0 => 0
  | n + 1 => if cR C 0 0 ≤ yrA C (yrN C z n) then enN C z n + 1 else enN C z n
theorem enN_le (C : Cr) (z : Nat → Nat) : ∀ n, enN C z n ≤ n
  | 0 => Nat.le_refl _
  | n + 1 => by
    have := enN_le C z n
    rw [enN]
    split <;> omega
theorem yrA_le {C : Cr} {z : Nat → Nat} (hC : okCr C) (hz : okZ C z) : yrA C z ≤ 5994 := (apr_le hC (rip_ok hC hz)).1
theorem h_y22 {c n : Nat} {C : Cr} {z : Nat → Nat} {kl : List Nat} (hC : okCr C) (hz : okZ C z) (hn : z 0 + n ≤ 999) : ∀ (d i K : Nat) (S : Hp), i + d = n → d < K → cH S c C → S.2.2 0 1 = c → stH S 1200 C (yrN C z i) → kpH S 1200 (ykN C z kl i) → ∃ S', f_X11_years_22 K (nI n) (nI (enN C z i)) (nI i) S = some (nI (enN C z n), S') ∧ stH S' 1200 C (yrN C z n) ∧ kpH S' 1200 (ykN C z kl n) ∧ fH (scA c 1200) S S' := by
  intro d
  induction d with
  | zero =>
    intro i K S hi hK h h01 hs hk
    obtain ⟨K, rfl⟩ : ∃ q, K = q + 1 := ⟨K - 1, by omega⟩
    have e : i = n := by omega
    subst e
    exact ⟨S, by rw [f_X11_years_22, if_pos (nI_le (Nat.le_refl _) (by omega))], hs, hk, fH_rf _ S⟩
  | succ d ih =>
    intro i K S hi hK h h01 hs hk
    obtain ⟨K, rfl⟩ : ∃ q, K = q + 1 := ⟨K - 1, by omega⟩
    have hzi := yrN_ok hC hz i (by omega)
    have y0 := yrN_0 (z := z) hC i
    have l1 := enN_le C z i
    have l2 := yrA_le hC hzi
    have hN := hC.2.1.1
    obtain ⟨S1, r1, r2, r3, r4⟩ := h_year hC hzi (by omega) h hs hk
    have h1 := cH_a h (by decide) r4
    obtain ⟨S2, q1, q2, q3, q4⟩ := ih (i + 1) K S1 (by omega) (by omega) h1 (by rw [r4.2.1]; exact h01) r2 r3
    have h51 : ∀ v, f_X11_years_51 (f_X11_years_22 K) (nI n) v (nI i) S1 = f_X11_years_22 K (nI n) v (nI (i + 1)) S1 := by
      intro v
      unfold f_X11_years_51
      rw [le1_e, nI_1]
    refine ⟨S2, ?_, q2, q3, fH_tr r4 q4⟩
    rw [f_X11_years_22, if_neg (nI_ge (by omega) (by omega)), r1, ob2_s, ldP_n (show S1.2.2 0 1 = c by rw [r4.2.1]; exact h01) h1.1.2, h1.2.2.1.1, h51, le1_e, h51, nI_1]
    rw [enN] at q1
    by_cases e : cR C 0 0 ≤ yrA C (yrN C z i)
    · rw [if_neg (nI_nlt e (by omega))]
      rw [if_pos e] at q1
      exact q1
    · rw [if_pos (nI_lt (by omega) (by omega))]
      rw [if_neg e] at q1
      exact q1
theorem m_y2 {n th : Nat} {C : Cr} {z : Nat → Nat} {kl : List Nat} (hC : okCr C) (hz : okZ C z) (hn : z 0 + n ≤ 999) : ∀ (d i K : Nat) (S : Hp), i + d = n → d < K → mC S C → S.1 0 62 = nI th → ¬ S.1 0 52 = 0 → mZ S C (yrN C z i) → mK S (if th = 0 then ykN C z kl i else kl) → th < 2 → ∃ S', f_X12_yearsGo_2 K (nI n) (nI i) S = some S' ∧ mZ S' C (yrN C z n) ∧ mK S' (if th = 0 then ykN C z kl n else kl) ∧ fN goP S S' ∧ (S.1 0 63 = nI (enN C z i) → S'.1 0 63 = nI (enN C z n)) := by
  intro d
  induction d with
  | zero =>
    intro i K S hi hK h hth hcr hs hk ht2
    obtain ⟨K, rfl⟩ : ∃ q, K = q + 1 := ⟨K - 1, by omega⟩
    have e : i = n := by omega
    subst e
    exact ⟨S, by rw [f_X12_yearsGo_2, if_pos (nI_le (Nat.le_refl _) (by omega))], hs, hk, fN_rf _ S, id⟩
  | succ d ih =>
    intro i K S hi hK h hth hcr hs hk ht2
    obtain ⟨K, rfl⟩ : ∃ q, K = q + 1 := ⟨K - 1, by omega⟩
    have hzi := yrN_ok hC hz i (by omega)
    have y0 := yrN_0 (z := z) hC i
    obtain ⟨S1, r1, r2, r3, r4, r5⟩ := m_year (th := th) hC hzi (by omega) h hs hk hth hcr
    have k1 : mK S1 (if th = 0 then ykN C z kl (i + 1) else kl) := by
      unfold kpT at r3
      rw [hth] at r3
      by_cases e : th = 0
      · rw [if_pos e]
        rw [if_pos (show nI th = 0 by rw [e]; rfl), if_pos e] at r3
        exact r3
      · rw [if_neg e]
        rw [if_neg (nI_ne0 (by omega) (by omega)), if_neg e] at r3
        exact r3
    obtain ⟨S2, q1, q2, q3, q4, q5⟩ := ih (i + 1) K S1 (by omega) (by omega) (mC_f h r4 (fun _ _ q => go_c q)) (by rw [r4.1 0 62 (by unfold goP eP; omega)]; exact hth) (by rw [r4.1 0 52 (by unfold goP eP; omega)]; exact hcr) r2 k1 ht2
    refine ⟨S2, ?_, q2, q3, fN_tr r4 q4, fun h63 => q5 ?_⟩
    · rw [f_X12_yearsGo_2, if_neg (nI_ge (by omega) (by omega)), r1, ob_s, le1_e, nI_1]
      exact q1
    · rw [r5, h63, enN]
      split
      · rw [nI_1]
      · rfl
theorem h_pass {S : Hp} {n y : Nat} (hcr : S.1 0 13 = 1) (hy : S.1 1200 0 = nI y) (hy9 : y ≤ 999) (hn : n ≤ 100) : f_X11_canPass (nI n) S = some (if 1 ≤ n ∧ n ≤ 100 ∧ y + n ≤ 999 then 1 else 0, S) := by
  unfold f_X11_canPass
  rw [hcr, if_neg ne1]
  by_cases e1 : n < 1
  · rw [if_pos ((ltL 1 (by omega) (by decide)).mpr e1), if_neg (by omega)]
  · rw [if_neg (fun q => e1 ((ltL 1 (by omega) (by decide)).mp q)), if_neg (fun q => absurd ((gtL 100 (by omega) (by decide)).mp q) (by omega)), hy, nI_add]
    by_cases e2 : 999 < y + n
    · rw [if_pos ((gtL 999 (by omega) (by decide)).mpr e2), if_neg (by omega)]
    · rw [if_neg (fun q => e2 ((gtL 999 (by omega) (by decide)).mp q)), if_pos (by omega)]
theorem h_passN {S : Hp} {x : Int32} (hx : x < 0 ∨ nI 101 ≤ x) (hcr : S.1 0 13 = 1) : f_X11_canPass x S = some (0, S) := by
  unfold f_X11_canPass
  rw [hcr, if_neg ne1]
  by_cases e1 : x < (1 : Int32)
  · rw [if_pos e1]
  · rw [if_neg e1, if_pos]
    rcases hx with h | h
    · exact absurd (Int32.lt_trans h (by decide)) e1
    · exact Int32.lt_of_lt_of_le (by decide) h
theorem s_25 : sim_25 Sim := by
  intro x SH SM h
  have h' := h
  obtain ⟨X, cr, c, C, N, P, z, kl, ok, a, b, d, e, f⟩ := h'
  have ok' := ok
  obtain ⟨⟨hC, hz⟩, ⟨hP, hPz⟩, ok2⟩ := ok'
  obtain ⟨c1, ⟨c2, c3, c4, c5⟩, ⟨c6, c7, c8⟩, c9, c10⟩ := a.2.2.2.1
  obtain ⟨m1, mc, mn⟩ := e.2.2.2.1
  have hr := sim_ref (j := 3) (by decide) h
  have y9 := hz.1
  unfold f_X11_years f_X12_years
  have rH : f_X11_refuse (3 : Int32) SH = _ := h_refuse (j := 3) (by decide)
  have rM : f_X12_refuses (3 : Int32) SM = _ := m_ref (k := 3) (by decide)
  cases cr with
  | false =>
    have e1 : f_X11_canPass x SH = some (0, SH) := by
      unfold f_X11_canPass
      rw [c1]
      rfl
    rw [e1, ob2_s, if_pos rfl, m_ahd0 m1, ob2_s, if_pos rfl, rH, ob2_s, rM, ob2_s]
    exact ⟨_, _, _, rfl, rfl, hr⟩
  | true =>
    rw [if_pos rfl] at c1 m1
    rcases ix3 x (n := 101) (by decide) with hx | ⟨n, hn, rfl⟩
    · rw [h_passN hx c1, ob2_s, if_pos rfl, show f_X12_isAhead x (1 : Int32) (100 : Int32) SM = _ from m_ahdN (lo := 1) (hi := 100) m1 (by decide) (by decide) hx, ob2_s, if_pos rfl, rH, ob2_s, rM, ob2_s]
      exact ⟨_, _, _, rfl, rfl, hr⟩
    · rw [h_pass c1 b.1.2.1.1 y9 (by omega), ob2_s, show f_X12_isAhead (nI n) (1 : Int32) (100 : Int32) SM = _ from m_ahd (lo := 1) (hi := 100) m1 (f.1.1 0 (by decide)) y9 (by decide) (by decide) (by omega), ob2_s]
      by_cases e1 : 1 ≤ n ∧ n ≤ 100 ∧ z 0 + n ≤ 999
      · rw [if_pos e1, if_neg ne1, if_neg ne1]
        obtain ⟨S1, r1, r2, r3, r4, r5, r6⟩ := h_rem hC hP a b
        obtain ⟨M1, v1, v2, v3, v4⟩ := m_keeps hC hP e f
        have ch1 := r2.2.2.2.1.2.2.2.1 rfl
        have hcc := cH_c ch1
        obtain ⟨S2, q1, q2, q3, q4⟩ := h_y22 (kl := kl) hC hz e1.2.2 n 0 5000 S1 (by omega) (by omega) ch1 r2.2.2.2.1.2.1.1 r3.1 r3.2
        have m52 : M1.1 0 52 = 1 := v2.2.2.2.1.1.trans (if_pos rfl)
        obtain ⟨M2, hM2⟩ : ∃ M2, M2 = ho_sI M1 0 63 0 := ⟨_, rfl⟩
        have f2 : fN (fun b k => b = 0 ∧ k = 63) M1 M2 := by rw [hM2]; exact fN_sI M1 ⟨rfl, rfl⟩
        obtain ⟨M3, t1, t2, t3, t4, t5⟩ := m_y2 (th := 0) (kl := kl) hC hz e1.2.2 n 0 5000 M2 (by omega) (by omega) (mC_f v2.2.2.2.1.2.1 f2 (fun b k q => by unfold crM; omega)) (by rw [f2.1 0 62 (by first | decide | (dsimp only; omega) | omega)]; exact v3.2.2) (by rw [f2.1 0 52 (by first | decide | (dsimp only; omega) | omega), m52]; exact ne1) (mZ_f v3.1 f2 (fun b k q => by omega)) (mK_f v3.2.1 f2 (fun b k q => by omega)) (by decide)
        rw [r1, ob_s, show f_X11_years_22 5000 (nI n) (0 : Int32) (0 : Int32) S1 = _ from q1, v1, ob_s, le1_e, ← hM2, show f_X12_yearsGo (nI n) M2 = _ from t1, ob_s, t5 (by rw [hM2, sI_v]; rfl)]
        rw [if_pos rfl] at t3
        refine ⟨_, S2, M3, rfl, rfl, sim_act (z := yrN C z n) (kl := ykN C z kl n) ⟨⟨hC, yrN_ok hC hz n e1.2.2⟩, Pp_ok ⟨hP, hPz⟩ hz, ok2⟩ (hA_f r2 q4 (fun b q x => ?_) ?_) ⟨q2, q3⟩ ?_ ?_ (mA_f v2 (fN_tr (fN_mo f2 (fun b k q => by unfold goP; omega)) t4) (fun b k q => ?_)) ⟨t2, t3, ?_⟩⟩
        · unfold scA scS scE at x; unfold hCl crC at q; omega
        · rw [q4.1 70 (by unfold scA scS scE; omega)]
        · rw [q4.1 60 (by unfold scA scS scE; omega)]; exact r4
        · rw [q4.1 60 (by unfold scA scS scE; omega)]; exact r5
        · unfold goP eP at q; unfold sM; omega
        · rw [t4.1 0 62 (by unfold goP eP; omega), f2.1 0 62 (by first | decide | (dsimp only; omega) | omega)]; exact v3.2.2
      · rw [if_neg e1, if_pos rfl, if_pos rfl, rH, ob2_s, rM, ob2_s]
        exact ⟨_, _, _, rfl, rfl, hr⟩

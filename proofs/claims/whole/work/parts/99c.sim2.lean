/-! level 2: alike answers: what there is of provinces, tricks, watchers -/
theorem sim_e {SH SM SH1 SM1 : Hp} {X : Xv} {cr : Bool} {c : Nat} {C : Cr} {N : Nat → Nat → List Nat} {P : Pa} {z : Nat → Nat} {kl : List Nat} (ok : okX X cr C N P z) (a : hA SH X cr c C N P) (b : hN SH C z kl) (d : h10 SH cr C z) (e : mA SM X cr C N P) (f : mN SM C z kl) (hf : fH (scE c) SH SH1) (mf : fN eP SM SM1) : Sim SH1 SM1 := by
  have hcc := a.2.2.2.1.2.1.2.2.2
  refine ⟨X, cr, c, C, N, P, z, kl, ok, hA_f a hf (fun b q x => ?_) ?_, hN_f b hf (fun b q x => ?_), h10_f d hf (fun b q x => ?_), mA_f e mf (fun b k q => ?_), mN_f f mf (fun b k q => ?_)⟩
  · unfold scE at x; unfold hCl crC at q; omega
  · rw [hf.1 70 (by unfold scE; omega)]
  · unfold scE at x; omega
  · unfold scE at x; omega
  · unfold eP at q; unfold sM; omega
  · unfold eP at q; omega
theorem h_hY {S : Hp} {c k n i : Nat} (hk : k < 3) (hn : S.1 (c + 1) k = nI n) (h6 : n ≤ 6) (hi : i < n) : f_X2_holds c (nI k) (nI i) S = some (1, S) := by
  unfold f_X2_holds
  rw [if_neg (nI_pos (by omega)), ldI_n hk (by decide), hn, if_neg (nI_ge hi (by omega))]
theorem h_hN {S : Hp} {c k n : Nat} {x : Int32} (hk : k < 3) (hn : S.1 (c + 1) k = nI n) (h6 : n ≤ 6) (hx : x < 0 ∨ nI n ≤ x) : f_X2_holds c (nI k) x S = some (0, S) := by
  unfold f_X2_holds
  by_cases h0 : x < 0
  · rw [if_pos h0]
  · rw [if_neg h0, ldI_n hk (by decide), hn, if_pos (hx.resolve_left h0)]
theorem ix3 (x : Int32) {n : Nat} (hn : n < 2 ^ 31) : (x < 0 ∨ nI n ≤ x) ∨ ∃ i, i < n ∧ x = nI i := by
  rcases pk_ix x hn with h | h | h
  · exact Or.inl (Or.inl h)
  · exact Or.inl (Or.inr h)
  · exact Or.inr h
theorem s_10 : sim_10 Sim := by
  intro x y SH SM h
  have h' := h
  obtain ⟨X, cr, c, C, N, P, z, kl, ok, a, b, d, e, f⟩ := h'
  obtain ⟨⟨n, n1, n2⟩, k1, k2⟩ := b.2
  obtain ⟨-, k3, k4⟩ := f.2.1
  have e3 : kl.length / 3 = n := by omega
  unfold f_X11_kept f_X12_kept
  rw [ldI_L 26 (by decide) (by decide), k3, k1, e3, i64_lit0, m_isInI, ob2_s]
  rcases ix3 x (n := n) (by omega) with hx | ⟨i, hi, rfl⟩
  · rw [if_neg (show ¬ ((0 : Int32) ≤ x ∧ x ≤ nI n - 1) from ix_o (by omega) hx), if_pos rfl]
    by_cases h0 : x < 0
    · rw [if_pos h0]; exact ⟨_, SH, SM, rfl, rfl, h⟩
    · rw [if_neg h0, if_pos (hx.resolve_left h0)]; exact ⟨_, SH, SM, rfl, rfl, h⟩
  · rw [if_pos (show (0 : Int32) ≤ nI i ∧ nI i ≤ nI n - 1 from (ix_iff (by omega)).mpr ⟨i, hi, rfl⟩), if_neg ne1, if_neg (nI_pos (by omega)), if_neg (nI_ge hi (by omega)), ← i64_lit0, m_inL (n := 2) (by decide), ob2_s]
    rcases ix3 y (n := 3) (by decide) with hy | ⟨j, hj, rfl⟩
    · rw [if_neg (show ¬ ((0 : Int32) ≤ y ∧ y ≤ nI 2) from fun q => by
        obtain ⟨j, hj, rfl⟩ := (in5 (by decide)).mp q
        rcases hy with hy | hy
        · exact nI_pos (by omega) hy
        · exact nI_ge (show j < 3 by omega) (by decide) hy), if_pos rfl]
      by_cases h0 : y < 0
      · rw [if_pos h0]; exact ⟨_, SH, SM, rfl, rfl, h⟩
      · rw [if_neg h0, if_neg (show ¬ y < (3 : Int32) from Int32.not_lt.mpr (hy.resolve_left h0))]; exact ⟨_, SH, SM, rfl, rfl, h⟩
    · rw [if_neg (nI_pos (by omega)), if_pos (show nI j < (3 : Int32) from (ltL 3 (by omega) (by decide)).mpr hj), if_pos ((in5 (by decide)).mpr ⟨j, by omega, rfl⟩), if_neg ne1, lit_nI 3, lit_nI 27, pk_mul, pk_mul, nI_add, nI_add, nI_add, ldI_n (by omega) (by decide), ldI_n (by omega) (by decide), k2 _ (by omega), show 27 + 3 * i + j = 27 + (i * 3 + j) by omega, k4 _ (by omega)]
      exact ⟨_, SH, SM, rfl, rfl, h⟩
theorem s_9 : sim_9 Sim := by
  intro x y SH SM h
  have h' := h
  obtain ⟨X, cr, c, C, N, P, z, kl, ok, a, b, d, e, f⟩ := h'
  obtain ⟨⟨hC, hz⟩, ok2⟩ := ok
  obtain ⟨c1, ⟨c2, c3, c4, c5⟩, ⟨c6, c7, c8⟩, c9, c10⟩ := a.2.2.2.1
  have hp := crH c5
  have hnt := hC.1.2.1
  have hnw := hC.1.2.2
  have mc := e.2.2.2.1.2.1
  unfold f_X11_sight f_X12_sight
  rw [ldP_n c2 hp, m_isT, ob2_s, mc.1.2.1]
  rcases ix3 x (n := cT C) (by omega) with hx | ⟨t, ht, rfl⟩
  · rw [show f_X2_holds c (1 : Int32) x SH = _ from h_hN (k := 1) (by decide) c7 hnt hx, ob2_s, if_pos rfl, if_neg (show ¬ ((0 : Int32) ≤ x ∧ x ≤ nI (cT C) - 1) from ix_o (by omega) hx), if_pos rfl]
    exact ⟨_, SH, SM, rfl, rfl, h⟩
  · rw [show f_X2_holds c (1 : Int32) (nI t) SH = _ from h_hY (k := 1) (by decide) c7 hnt ht, ob2_s, if_neg ne1, ldP_n c2 hp, if_pos (show (0 : Int32) ≤ nI t ∧ nI t ≤ nI (cT C) - 1 from (ix_iff (by omega)).mpr ⟨t, ht, rfl⟩), if_neg ne1, m_isW, ob2_s, mc.1.2.2]
    rcases ix3 y (n := cW C) (by omega) with hy | ⟨w, hw, rfl⟩
    · rw [show f_X2_holds c (2 : Int32) y SH = _ from h_hN (k := 2) (by decide) c8 (by omega) hy, ob2_s, if_pos rfl, if_neg (show ¬ ((0 : Int32) ≤ y ∧ y ≤ nI (cW C) - 1) from ix_o (by omega) hy), if_pos rfl]
      exact ⟨_, SH, SM, rfl, rfl, h⟩
    · have hcr : cr = true := by
        cases cr with
        | true => rfl
        | false => have := (ok2.2.2.2.2.2 rfl).2.1; omega
      have hse := hz.2.2.2.2.2.2.1 w hw
      obtain ⟨SH1, r1, r2⟩ := h_gl (t := t) (w := w) hC hz (c9 hcr) b.1 ht hw hse
      obtain ⟨SM1, q1, q2⟩ := m_sg (t := t) (w := w) hC hz mc f.1 ht hw hse
      rw [show f_X2_holds c (2 : Int32) (nI w) SH = _ from h_hY (k := 2) (by decide) c8 (by omega) hw, ob2_s, if_neg ne1, ldI_n (by omega) (by decide), b.1.2.2.2 w hw, r1, ob2_s, if_pos (show (0 : Int32) ≤ nI w ∧ nI w ≤ nI (cW C) - 1 from (ix_iff (by omega)).mpr ⟨w, hw, rfl⟩), if_neg ne1, m_seat (by omega), ob2_s, f.1.2 w hw, q1, ob2_s]
      exact ⟨_, SH1, SM1, rfl, rfl, sim_e ⟨⟨hC, hz⟩, ok2⟩ a b d e f r2 q2⟩
theorem s_8 : sim_8 Sim := by
  intro x y SH SM h
  have h' := h
  obtain ⟨X, cr, c, C, N, P, z, kl, ok, a, b, d, e, f⟩ := h'
  obtain ⟨⟨hC, hz⟩, ok2⟩ := ok
  obtain ⟨c1, ⟨c2, c3, c4, c5⟩, ⟨c6, c7, c8⟩, c9, c10⟩ := a.2.2.2.1
  have hp := crH c5
  have hnw := hC.1.2.2
  have mc := e.2.2.2.1.2.1
  unfold f_X11_watcher f_X12_watcher
  rw [ldP_n c2 hp, m_isW, ob2_s, mc.1.2.2]
  rcases ix3 x (n := cW C) (by omega) with hx | ⟨w, hw, rfl⟩
  · rw [show f_X2_holds c (2 : Int32) x SH = _ from h_hN (k := 2) (by decide) c8 (by omega) hx, ob2_s, if_pos rfl, if_neg (show ¬ ((0 : Int32) ≤ x ∧ x ≤ nI (cW C) - 1) from ix_o (by omega) hx), if_pos rfl]
    exact ⟨_, SH, SM, rfl, rfl, h⟩
  · have hcr : cr = true := by
      cases cr with
      | true => rfl
      | false => have := (ok2.2.2.2.2.2 rfl).2.2; omega
    have hse := hz.2.2.2.2.2.2.1 w hw
    have ch := c9 hcr
    rw [show f_X2_holds c (2 : Int32) (nI w) SH = _ from h_hY (k := 2) (by decide) c8 (by omega) hw, ob2_s, if_neg ne1, if_pos (show (0 : Int32) ≤ nI w ∧ nI w ≤ nI (cW C) - 1 from (ix_iff (by omega)).mpr ⟨w, hw, rfl⟩), if_neg ne1]
    by_cases y0 : y = 0
    · rw [if_pos y0, if_pos y0, ldI_n (by omega) (by decide), b.1.2.2.2 w hw, m_seat (by omega), ob2_s, f.1.2 w hw]
      exact ⟨_, SH, SM, rfl, rfl, h⟩
    rw [if_neg y0, if_neg y0]
    by_cases y1 : y = 1
    · rw [if_pos y1, if_pos y1, ldP_n c2 hp, ldI_n (by omega) (by decide), ch.2.2.2.2.2.1 w hw, lit_nI 11, lit_nI 2, pk_mul, nI_add, ldI_n (by omega) (by decide), mc.2.2.2.2.1 w hw]
      exact ⟨_, SH, SM, rfl, rfl, h⟩
    rw [if_neg y1, if_neg y1]
    by_cases y2 : y = 2
    · obtain ⟨SH1, r1, r2⟩ := h_sW (w := w) hC hz hw hse ch b.1
      obtain ⟨SM1, q1, q2⟩ := m_sW (w := w) hC hz hw hse mc f.1
      rw [if_pos y2, if_pos y2, ldI_n (by omega) (by decide), b.1.2.2.2 w hw, r1, ob2_s, m_seat (by omega), ob2_s, f.1.2 w hw, q1, ob2_s]
      exact ⟨_, SH1, SM1, rfl, rfl, sim_e ⟨⟨hC, hz⟩, ok2⟩ a b d e f r2 q2⟩
    rw [if_neg y2, if_neg y2]
    exact ⟨_, SH, SM, rfl, rfl, h⟩
theorem s_7 : sim_7 Sim := by
  intro x y SH SM h
  have h' := h
  obtain ⟨X, cr, c, C, N, P, z, kl, ok, a, b, d, e, f⟩ := h'
  obtain ⟨⟨hC, hz⟩, ok2⟩ := ok
  obtain ⟨c1, ⟨c2, c3, c4, c5⟩, ⟨c6, c7, c8⟩, c9, c10⟩ := a.2.2.2.1
  have hp := crH c5
  have hnt := hC.1.2.1
  have mc := e.2.2.2.1.2.1
  unfold f_X11_trick f_X12_trick
  rw [ldP_n c2 hp, m_isT, ob2_s, mc.1.2.1]
  rcases ix3 x (n := cT C) (by omega) with hx | ⟨t, ht, rfl⟩
  · rw [show f_X2_holds c (1 : Int32) x SH = _ from h_hN (k := 1) (by decide) c7 hnt hx, ob2_s, if_pos rfl, if_neg (show ¬ ((0 : Int32) ≤ x ∧ x ≤ nI (cT C) - 1) from ix_o (by omega) hx), if_pos rfl]
    exact ⟨_, SH, SM, rfl, rfl, h⟩
  · have hcr : cr = true := by
      cases cr with
      | true => rfl
      | false => have := (ok2.2.2.2.2.2 rfl).2.1; omega
    have ch := c9 hcr
    obtain ⟨u1, u2, u3⟩ := ch.2.2.2.2.1 t ht
    obtain ⟨v1, v2, v3⟩ := mc.2.2.2.1 t ht
    obtain ⟨-, s2, s3⟩ := b.1.2.2.1 t (by omega)
    have e48 : ∀ j, j < 3 → f_X12_trick_48 (nI t) (nI j) SM = some (SM.1 45 (18 + 3 * t + j), SM) := by
      intro j hj
      unfold f_X12_trick_48
      rw [lit_nI 18, lit_nI 3, pk_mul, nI_add, nI_add, ldI_n (by omega) (by decide)]
    rw [show f_X2_holds c (1 : Int32) (nI t) SH = _ from h_hY (k := 1) (by decide) c7 hnt ht, ob2_s, if_neg ne1, if_pos (show (0 : Int32) ≤ nI t ∧ nI t ≤ nI (cT C) - 1 from (ix_iff (by omega)).mpr ⟨t, ht, rfl⟩), if_neg ne1]
    by_cases y0 : y = 0
    · subst y0
      rw [if_pos rfl, if_pos rfl, ldP_n c2 hp, ldI_n (by omega) (by decide), u1, show f_X12_trick_48 (nI t) (0 : Int32) SM = _ from e48 0 (by decide), show 18 + 3 * t + 0 = 18 + 3 * t from rfl, v1]
      exact ⟨_, SH, SM, rfl, rfl, h⟩
    rw [if_neg y0, if_neg y0]
    by_cases y1 : y = 1
    · subst y1
      rw [if_pos rfl, if_pos rfl, ldP_n c2 hp, ldI_n (by omega) (by decide), u2, show f_X12_trick_48 (nI t) (1 : Int32) SM = _ from e48 1 (by decide), show 18 + 3 * t + 1 = 19 + 3 * t by omega, v2]
      exact ⟨_, SH, SM, rfl, rfl, h⟩
    rw [if_neg y1, if_neg y1]
    by_cases y2 : y = 2
    · subst y2
      rw [if_pos rfl, if_pos rfl, ldP_n c2 hp, ldI_n (by omega) (by decide), u3, show f_X12_trick_48 (nI t) (2 : Int32) SM = _ from e48 2 (by decide), show 18 + 3 * t + 2 = 20 + 3 * t by omega, v3]
      exact ⟨_, SH, SM, rfl, rfl, h⟩
    rw [if_neg y2, if_neg y2]
    by_cases y3 : y = 3
    · rw [if_pos y3, if_pos y3, ldI_n (by omega) (by decide), s2, m_times (by omega), ob2_s, f.1.1 (9 + t) (by omega)]
      exact ⟨_, SH, SM, rfl, rfl, h⟩
    rw [if_neg y3, if_neg y3]
    by_cases y4 : y = 4
    · rw [if_pos y4, if_pos y4, ldI_n (by omega) (by decide), s3, m_known (by omega), ob2_s, f.1.1 (15 + t) (by omega)]
      exact ⟨_, SH, SM, rfl, rfl, h⟩
    rw [if_neg y4, if_neg y4]
    by_cases y5 : y = 5
    · obtain ⟨SH1, r1, r2⟩ := h_sT (t := t) hC hz ht ch b.1
      obtain ⟨SM1, q1, q2⟩ := m_sT (t := t) hC hz ht mc f.1
      rw [if_pos y5, if_pos y5, r1, ob2_s, q1, ob2_s]
      exact ⟨_, SH1, SM1, rfl, rfl, sim_e ⟨⟨hC, hz⟩, ok2⟩ a b d e f r2 q2⟩
    rw [if_neg y5, if_neg y5]
    exact ⟨_, SH, SM, rfl, rfl, h⟩
/-- the tricks of a province -/
def trP (C : Cr) (p n : Nat) : Nat := setNat (fun t => decide (cR C 3 t = p)) n
theorem h_trP {S : Hp} {c p : Nat} {C : Cr} (hC : okCr C) (h : cH S c C) (hp : p < cP C) : ∀ (d i k : Nat), i + d = cT C → d < k → f_X2_tricksFrom_4 c k (nI p) (nI (trP C p i)) (nI i) S = some (nI (trP C p (cT C)), S) := by
  have hnt := hC.1.2.1
  have hnp := hC.1.1
  intro d
  induction d with
  | zero =>
    intro i k hi hk
    obtain ⟨k, rfl⟩ : ∃ q, k = q + 1 := ⟨k - 1, by omega⟩
    rw [f_X2_tricksFrom_4, ldI_L 1 (by decide) (by decide), h.2.1.2.1, if_pos (nI_le (by omega) (by omega)), show i = cT C by omega]
  | succ d ih =>
    intro i k hi hk
    obtain ⟨k, rfl⟩ : ∃ q, k = q + 1 := ⟨k - 1, by omega⟩
    have hI := ih (i + 1) k (by omega) (by omega)
    have h30 : ∀ v, f_X2_tricksFrom_30 (f_X2_tricksFrom_4 c k) c (nI p) v (nI i) S = f_X2_tricksFrom_4 c k (nI p) v (nI (i + 1)) S := by
      intro v
      unfold f_X2_tricksFrom_30
      rw [le1_e, nI_1]
    have hf := (hC.2.2.2.1 i (by omega)).2.1
    rw [f_X2_tricksFrom_4, ldI_L 1 (by decide) (by decide), h.2.1.2.1, if_neg (nI_ge (by omega) (by omega)), ldI_n (by omega) (by decide), (h.2.2.2.2.1 i (by omega)).2.1]
    by_cases e : cR C 3 i = p
    · rw [if_pos (show nI (cR C 3 i) = nI p by rw [e]), le1_e, h30]
      have e2 : nI (trP C p i) ||| ((1 : Int32) <<< (nI i &&& 31)) = nI (trP C p (i + 1)) := setNat_s (by omega) (decide_eq_true e)
      rw [e2]; exact hI
    · rw [if_neg (fun q => e ((nI_eq (by omega) (by omega)).mp q)), h30]
      have e2 : trP C p (i + 1) = trP C p i := setNat_n (decide_eq_false e)
      rw [e2] at hI; exact hI
theorem m_trP {S : Hp} {p : Nat} {y : Int32} {C : Cr} (hC : okCr C) (h : mC S C) (hp : p < cP C) : ∀ (d i k : Nat), i + d = cT C → d < k → ∃ K, f_X12_province_15 k (nI p) y (nI (trP C p i)) (nI i) S = f_X12_province_15 (K + 1) (nI p) y (nI (trP C p (cT C))) (nI (cT C)) S := by
  have hnt := hC.1.2.1
  have hnp := hC.1.1
  intro d
  induction d with
  | zero =>
    intro i k hi hk
    obtain ⟨k, rfl⟩ : ∃ q, k = q + 1 := ⟨k - 1, by omega⟩
    exact ⟨k, by rw [show i = cT C by omega]⟩
  | succ d ih =>
    intro i k hi hk
    obtain ⟨k, rfl⟩ : ∃ q, k = q + 1 := ⟨k - 1, by omega⟩
    obtain ⟨K, hI⟩ := ih (i + 1) k (by omega) (by omega)
    have h47 : ∀ v, f_X12_province_47 (f_X12_province_15 k) (nI p) y v (nI i) S = f_X12_province_15 k (nI p) y v (nI (i + 1)) S := by
      intro v
      unfold f_X12_province_47
      rw [le1_e, nI_1]
    have hf := (hC.2.2.2.1 i (by omega)).2.1
    refine ⟨K, ?_⟩
    rw [f_X12_province_15, m_tm, ob2_s, h.1.2.1, if_neg (nI_ge (by omega) (by omega)), lit_nI 19, lit_nI 3, pk_mul, nI_add, ldI_n (by omega) (by decide), (h.2.2.2.1 i (by omega)).2.1]
    by_cases e : cR C 3 i = p
    · rw [if_pos (show nI (cR C 3 i) = nI p by rw [e]), le1_e, h47]
      have e2 : nI (trP C p i) ||| ((1 : Int32) <<< (nI i &&& 31)) = nI (trP C p (i + 1)) := setNat_s (by omega) (decide_eq_true e)
      rw [e2]; exact hI
    · rw [if_neg (fun q => e ((nI_eq (by omega) (by omega)).mp q)), h47]
      have e2 : trP C p (i + 1) = trP C p i := setNat_n (decide_eq_false e)
      rw [e2] at hI; exact hI
theorem s_6 : sim_6 Sim := by
  intro x y SH SM h
  have h' := h
  obtain ⟨X, cr, c, C, N, P, z, kl, ok, a, b, d, e, f⟩ := h'
  obtain ⟨⟨hC, hz⟩, ok2⟩ := ok
  obtain ⟨c1, ⟨c2, c3, c4, c5⟩, ⟨c6, c7, c8⟩, c9, c10⟩ := a.2.2.2.1
  have hp := crH c5
  have hnp := hC.1.1
  have hnt := hC.1.2.1
  have mc := e.2.2.2.1.2.1
  unfold f_X11_province f_X12_province
  rw [ldP_n c2 hp, m_isP, ob2_s, mc.1.1]
  rcases ix3 x (n := cP C) (by omega) with hx | ⟨p, hpp, rfl⟩
  · rw [show f_X2_holds c (0 : Int32) x SH = _ from h_hN (k := 0) (by decide) c6 hnp hx, ob2_s, if_pos rfl, if_neg (show ¬ ((0 : Int32) ≤ x ∧ x ≤ nI (cP C) - 1) from ix_o (by omega) hx), if_pos rfl]
    exact ⟨_, SH, SM, rfl, rfl, h⟩
  · have hcr : cr = true := by
      cases cr with
      | true => rfl
      | false => have := (ok2.2.2.2.2.2 rfl).1; omega
    have ch := c9 hcr
    obtain ⟨K, hK⟩ := m_trP (y := y) hC mc hpp (cT C) 0 5000 (by omega) (by omega)
    have hK' : f_X12_province_15 5000 (nI p) y (0 : Int32) (0 : Int32) SM = _ := hK
    rw [show f_X2_holds c (0 : Int32) (nI p) SH = _ from h_hY (k := 0) (by decide) c6 hnp hpp, ob2_s, if_neg ne1, if_pos (show (0 : Int32) ≤ nI p ∧ nI p ≤ nI (cP C) - 1 from (ix_iff (by omega)).mpr ⟨p, hpp, rfl⟩), if_neg ne1, hK', f_X12_province_15, m_tm, ob2_s, mc.1.2.1, if_pos (nI_le (Nat.le_refl _) (by omega))]
    by_cases y0 : y = 0
    · rw [if_pos y0, if_pos y0, ldI_n (by omega) (by decide), (b.1.2.2.1 p (by omega)).1, lit_nI 3, nI_add, ldI_n (by omega) (by decide), f.1.1 _ (by omega)]
      exact ⟨_, SH, SM, rfl, rfl, h⟩
    rw [if_neg y0, if_neg y0]
    by_cases y1 : y = 1
    · rw [if_pos y1, if_pos y1, ldP_n c2 hp, ldI_n (by omega) (by decide), ch.2.2.2.1 p hpp, lit_nI 13, lit_nI 2, pk_mul, nI_add, ldI_n (by omega) (by decide), mc.2.2.1 p hpp]
      exact ⟨_, SH, SM, rfl, rfl, h⟩
    rw [if_neg y1, if_neg y1]
    by_cases y2 : y = 2
    · rw [if_pos y2, if_pos y2, ldP_n c2 hp, show f_X2_tricksFrom c (nI p) SH = _ from h_trP hC ch hpp (cT C) 0 5000 (by omega) (by omega), ob2_s]
      exact ⟨_, SH, SM, rfl, rfl, h⟩
    rw [if_neg y2, if_neg y2]
    exact ⟨_, SH, SM, rfl, rfl, h⟩
theorem s_4 : sim_4 Sim := by
  intro x SH SM h
  have h' := h
  obtain ⟨X, cr, c, C, N, P, z, kl, ok, a, b, d, e, f⟩ := h'
  obtain ⟨⟨hC, hz⟩, ok2⟩ := ok
  obtain ⟨c1, ⟨c2, c3, c4, c5⟩, ⟨c6, c7, c8⟩, c9, c10⟩ := a.2.2.2.1
  have hp := crH c5
  have hnp := hC.1.1
  have hnt := hC.1.2.1
  have mc := e.2.2.2.1.2.1
  obtain ⟨fp, p1, p2, p3, p4⟩ := a.2.2.2.2.1
  obtain ⟨w, w1, w2, w3, w4⟩ := e.2.2.2.2.1
  have e60 : ∀ j, j < 3 → f_X12_has_60 (nI j) SM = some (SM.1 41 (3 + j), SM) := by
    intro j hj
    unfold f_X12_has_60
    rw [lit_nI 3, nI_add, ldI_n (by omega) (by decide)]
  have e69 : ∀ j, 3 ≤ j → j < 6 → f_X12_has_69 (nI j) SM = some (SM.1 55 (j - 3), SM) := by
    intro j h1 hj
    unfold f_X12_has_69
    rw [lit_nI 3, pk_sub h1, ldI_n (by omega) (by decide)]
  have t64 : thr z (cT C) < 64 := setNat_64 _ hnt
  unfold f_X11_has f_X12_has
  by_cases x0 : x = 0
  · subst x0
    rw [if_pos rfl, if_pos rfl, ldP_n c2 hp, ldI_L 0 (by decide) (by decide), c6, show f_X12_has_60 (0 : Int32) SM = _ from e60 0 (by decide), mc.1.1]
    exact ⟨_, SH, SM, rfl, rfl, h⟩
  rw [if_neg x0, if_neg x0]
  by_cases x1 : x = 1
  · subst x1
    rw [if_pos rfl, if_pos rfl, ldP_n c2 hp, ldI_L 1 (by decide) (by decide), c7, show f_X12_has_60 (1 : Int32) SM = _ from e60 1 (by decide), mc.1.2.1]
    exact ⟨_, SH, SM, rfl, rfl, h⟩
  rw [if_neg x1, if_neg x1]
  by_cases x2 : x = 2
  · subst x2
    rw [if_pos rfl, if_pos rfl, ldP_n c2 hp, ldI_L 2 (by decide) (by decide), c8, show f_X12_has_60 (2 : Int32) SM = _ from e60 2 (by decide), mc.1.2.2]
    exact ⟨_, SH, SM, rfl, rfl, h⟩
  rw [if_neg x2, if_neg x2]
  by_cases x3 : x = 3
  · subst x3
    rw [if_pos rfl, if_pos rfl, b.1.2.1.1, show f_X12_has_69 (3 : Int32) SM = _ from e69 3 (by decide) (by decide), f.1.1 (3 - 3) (by decide)]
    exact ⟨_, SH, SM, rfl, rfl, h⟩
  rw [if_neg x3, if_neg x3]
  by_cases x4 : x = 4
  · subst x4
    rw [if_pos rfl, if_pos rfl, b.1.2.1.2.1, show f_X12_has_69 (4 : Int32) SM = _ from e69 4 (by decide) (by decide), f.1.1 (4 - 3) (by decide)]
    exact ⟨_, SH, SM, rfl, rfl, h⟩
  rw [if_neg x4, if_neg x4]
  by_cases x5 : x = 5
  · subst x5
    rw [if_pos rfl, if_pos rfl, b.1.2.1.2.2, show f_X12_has_69 (5 : Int32) SM = _ from e69 5 (by decide) (by decide), f.1.1 (5 - 3) (by decide)]
    exact ⟨_, SH, SM, rfl, rfl, h⟩
  rw [if_neg x5, if_neg x5]
  by_cases x6 : x = 6
  · rw [if_pos x6, if_pos x6, h_thr hC hz b.1, ob2_s, h_bc t64, ob2_s, m_through hC hz mc f.1, ob2_s, m_bits t64, ob2_s]
    exact ⟨_, SH, SM, rfl, rfl, h⟩
  rw [if_neg x6, if_neg x6]
  by_cases x7 : x = 7
  · have eS : f_X12_storesAll SM = some (nI (allS z (cP C)), SM) := by
      rw [m_sa hnp mc.1.1]
      have e1 : ∀ n, n ≤ 6 → l_sum (fun j => SM.1 55 (3 + j)) n = nI (allS z n) := by
        intro n
        induction n with
        | zero => intro _; rfl
        | succ n ih =>
          intro hn
          show l_sum (fun j => SM.1 55 (3 + j)) n + SM.1 55 (3 + n) = nI (allS z (n + 1))
          rw [ih (by omega), f.1.1 (3 + n) (by omega), nI_add]
          rfl
      rw [e1 _ hnp]
    rw [if_pos x7, if_pos x7, h_all hC hz b.1, ob2_s, eS, ob2_s]
    exact ⟨_, SH, SM, rfl, rfl, h⟩
  rw [if_neg x7, if_neg x7]
  by_cases x8 : x = 8
  · rw [if_pos x8, if_pos x8, b.2.2.1, ldI_L 26 (by decide) (by decide), f.2.1.2.1]
    exact ⟨_, SH, SM, rfl, rfl, h⟩
  rw [if_neg x8, if_neg x8]
  by_cases x9 : x = 9
  · rw [if_pos x9, if_pos x9, a.2.2.2.2.2.1.1, e.2.2.2.2.2.1.1]
    exact ⟨_, SH, SM, rfl, rfl, h⟩
  rw [if_neg x9, if_neg x9]
  by_cases x10 : x = 10
  · rw [if_pos x10, if_pos x10, p3, w3]
    exact ⟨_, SH, SM, rfl, rfl, h⟩
  rw [if_neg x10, if_neg x10]
  exact ⟨_, SH, SM, rfl, rfl, h⟩

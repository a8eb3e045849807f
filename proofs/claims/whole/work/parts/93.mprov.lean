/-! level 2: the reference reads a crown: provinces, tricks, watchers -/
theorem sJ_at (S : Hp) {a k : Nat} {v : Int64} : (ho_sJ S a k v).2.1 a k = v := by rw [ho_uJ, pk_uLs]
theorem sJ_n (S : Hp) {a k b j : Nat} {v : Int64} (h : ¬ (b = a ∧ j = k)) : (ho_sJ S a k v).2.1 b j = S.2.1 b j := by
  by_cases e : b = a
  · subst e
    rw [ho_uJ, pk_uLn (fun q => h ⟨rfl, q⟩)]
  · show (if b = a then vp_updL (S.2.1 a) k v else S.2.1 b) j = S.2.1 b j
    rw [if_neg e]
theorem fJ_sJ {P : Nat → Nat → Prop} (S : Hp) {k : Nat} {v : Int64} (hk : k < 18) : fJ P S (ho_sJ S 42 k v) := ⟨fun _ _ _ => rfl, fun b j hb => sJ_n S (fun q => hb (by omega)), rfl⟩
/-- what is held, by what it lies in -/
theorem mE_f {S S' : Hp} {np nt nw tot : Nat} {R : Nat → Nat → Nat} {N : Nat → Nat → List Nat} {se lo : Option (List Nat)} (h : mE S np nt nw R N se lo tot) (hn : np ≤ 6 ∧ nt ≤ 6 ∧ nw ≤ 5) (g41 : ∀ k, k < 3 → S'.1 41 k = S.1 41 k) (g43 : ∀ k, k < 3 → S'.1 43 k = S.1 43 k) (g47 : ∀ k, k < 2 → S'.1 47 k = S.1 47 k) (g44 : ∀ k, k < 2 * np → S'.1 44 k = S.1 44 k) (g45 : ∀ k, k < 3 * nt → S'.1 45 k = S.1 45 k) (g46 : ∀ k, k < 2 * nw → S'.1 46 k = S.1 46 k) (g42 : ∀ k, k < 3 → ∀ i, i < cnt np nt nw k → S'.2.1 42 (6 * k + i) = S.2.1 42 (6 * k + i)) (g0 : S'.1 0 50 = S.1 0 50) (g48 : ∀ k, k < 2 → S'.1 48 k = S.1 48 k) (g49 : ∀ k, k < 2 → S'.1 49 k = S.1 49 k) (g50 : ∀ k, k < tot → S'.1 50 k = S.1 50 k) (hW : mWs S') : mE S' np nt nw R N se lo tot := by
  obtain ⟨a1, a2, a3, a4, a5, a6, a7, a8, a9, a10⟩ := h
  refine ⟨?_, ?_, fun p hp => ?_, fun p hp => ?_, fun p hp => ?_, fun k hk i hi => ?_, g0.trans a7, mO_f a8 (g48 _ (by decide)) (g49 _ (by decide)) g50, mO_f a9 (g48 _ (by decide)) (g49 _ (by decide)) g50, hW⟩
  · rw [g41 _ (by decide), g41 _ (by decide), g41 _ (by decide)]; exact a1
  · rw [g43 _ (by decide), g43 _ (by decide), g43 _ (by decide), g47 _ (by decide), g47 _ (by decide)]; exact a2
  · rw [g44 _ (by omega), g44 _ (by omega)]; exact a3 p hp
  · rw [g45 _ (by omega), g45 _ (by omega), g45 _ (by omega)]; exact a4 p hp
  · rw [g46 _ (by omega), g46 _ (by omega)]; exact a5 p hp
  · rw [g42 k hk i hi]; exact a6 k hk i hi
theorem lR_hi {S S' : Hp} {T : Tp} {σ : Lx} (h : lR S T σ) (h0 : ∀ k, k = 2 ∨ k = 3 ∨ k = 4 ∨ k = 5 ∨ k = 6 → S'.1 0 k = S.1 0 k) (h1 : ∀ i, S'.1 1 i = S.1 1 i) : lR S' T σ := by
  obtain ⟨a1, a2, a3, ⟨x, a4, a5, a6⟩, a7⟩ := h
  refine ⟨lB_f a1 (h0 3 (by omega)) h1, a2, (h0 5 (by omega)).trans a3, ⟨x, a4, a5, (h0 2 (by omega)).trans a6⟩, ?_⟩
  unfold enR at a7 ⊢
  rw [h0 4 (by omega), h0 6 (by omega)]
  exact a7
theorem mWs_hi {S S' : Hp} (h : mWs S) (hg : ∀ b k, (10 < b ∧ b < 40) ∨ (75 < b ∧ b < 100) → S'.1 b k = S.1 b k) : mWs S' := by
  intro p hp i hi
  obtain ⟨-, -, w1, w2, -, w3⟩ := wtab_ok p hp
  rw [hg _ _ (by omega)]
  exact h p hp i hi
theorem m_prov {S : Hp} {T : Tp} {σ : Lx} {np nt nw tot : Nat} {R : Nat → Nat → Nat} {N : Nat → Nat → List Nat} {se lo : Option (List Nat)} (h : mE S np nt nw R N se lo tot) (ho : okE np nt nw R N se lo) (ht : tot ≤ σ.1) (hT : tS T σ ≤ 1600) (hl : lR S T (nx T σ)) :
    ∃ S', f_X12_provinceTold (nI (tS T σ)) S = some S' ∧ fJ cJ S S' ∧ kD S' T (prvT T ((np, nt, nw), R, N, se, lo) σ) := by
  have hn6 := ho.1.1
  obtain ⟨u1, u2⟩ := m_full (kd := 0) (n := np) (ms := 6) (p := tS T σ) (by decide) hl.2.2.1 h.1.1 hn6 (by decide) hT
  unfold f_X12_provinceTold prvT
  dsimp only
  by_cases e : np = 6
  · obtain ⟨S1, a1, a2, a3⟩ := u2 e
    rw [if_pos e, show f_X12_isFull (0 : Int32) (6 : Int32) (nI (tS T σ)) S = some (1, S1) from a1, ob2_s, if_neg ne1]
    exact ⟨S1, rfl, fJ_l a3, a2⟩
  rw [if_neg e, show f_X12_isFull (0 : Int32) (6 : Int32) (nI (tS T σ)) S = some (0, S) from u1 e, ob2_s, if_pos rfl]
  obtain ⟨v, S2, b1, b2, b3, b4⟩ := m_newN h ho hl
  have h2 := mE_l h b2
  rw [b1, ob2_s]
  cases x : newN T ((np, nt, nw), R, N, se, lo) (nx T σ) with
  | error e =>
    have hb := b4 e x
    have hb0 := bR_0 hb
    rw [m_num_b hb0, ob2_s, m_asks_b hb0, ob_s, m_num_b hb0, ob2_s, if_neg hb0]
    exact ⟨S2, rfl, fJ_l b2, hb⟩
  | ok w =>
    obtain ⟨c1, c2⟩ := b3 w x
    obtain ⟨v3, S3, d1, d2, d3⟩ := m_num (lo := 0) (hi := 9999) c2 (by decide) (by decide)
    have h3 := mE_l h2 d2
    rw [show f_X12_number (0 : Int32) (9999 : Int32) S2 = some (v3, S3) from d1, ob2_s, be_k]
    cases y : tkV T 0 9999 (nx T (nx T σ)) with
    | error e =>
      rw [y] at d3
      have hb0 := bR_0 d3
      rw [m_asks_b hb0, ob_s, m_num_b hb0, ob2_s, if_neg hb0]
      exact ⟨S3, rfl, fJ_tr (fJ_l b2) (fJ_l d2), d3⟩
    | ok q =>
      rw [y] at d3
      obtain ⟨v1, σ3⟩ := q
      obtain ⟨e1, e2⟩ := d3
      obtain ⟨S4, g1, g2, g3⟩ := m_asks (c := 15) (w := wL.getD 4 []) e2 (by decide) (mW_at h3.2.2.2.2.2.2.2.2.2 _ _ (by decide))
      have h4 := mE_l h3 g2
      rw [show f_X12_asks 15 6 S3 = some S4 from g1, ob_s, bn_k]
      cases z : tkW T (wL.getD 4 []) σ3 with
      | error e =>
        rw [z] at g3
        have hb0 := bR_0 g3
        rw [m_num_b hb0, ob2_s, if_neg hb0]
        exact ⟨S4, rfl, fJ_tr (fJ_l b2) (fJ_tr (fJ_l d2) (fJ_l g2)), g3⟩
      | ok σ4 =>
        rw [z] at g3
        obtain ⟨v5, S5, i1, i2, i3⟩ := m_num (lo := 0) (hi := 999) g3 (by decide) (by decide)
        have h5 := mE_l h4 i2
        rw [show f_X12_number (0 : Int32) (999 : Int32) S4 = some (v5, S5) from i1, ob2_s, bs_k]
        have f5 : fJ cJ S S5 := fJ_tr (fJ_l b2) (fJ_tr (fJ_l d2) (fJ_tr (fJ_l g2) (fJ_l i2)))
        cases u : tkV T 0 999 σ4 with
        | error e =>
          rw [u] at i3
          have hb0 := bR_0 i3
          rw [if_neg hb0]
          exact ⟨S5, rfl, f5, i3⟩
        | ok q =>
          rw [u] at i3
          obtain ⟨v2, σ5⟩ := q
          obtain ⟨j1, j2⟩ := i3
          have hnp : np < 6 := by omega
          rw [if_pos j2.2.2.1, show (0 : Int32) = nI 0 from rfl, m_adds (by decide) h5.1.1 hnp, ob2_s, le1_e, lit_nI 2, pk_mul, stI_n (by omega) (by decide), nI_1, stI_n (by omega) (by decide), bn_k]
          refine ⟨_, rfl, ?_, ?_, tot, ?_, ?_⟩
          · refine fJ_tr f5 (fJ_tr (fJ_sJ S5 (by omega)) (fJ_tr (fJ_sI _ (by unfold cJ; omega)) (fJ_tr (fJ_sI _ (by unfold cJ; omega)) (fJ_sI _ (by unfold cJ; omega)))))
          · exact lR_hi j2 (fun k _ => by rw [sI_ne _ (by decide), sI_ne _ (by decide), sI_ne _ (by decide)]; rfl) (fun i => by rw [sI_ne _ (by decide), sI_ne _ (by decide), sI_ne _ (by decide)]; rfl)
          · have n0 := Nat.le_trans (tS_ge T σ) (tE_ge T σ)
            have n0' : σ.1 ≤ (nx T σ).1 := n0
            obtain ⟨-, y2, -, -⟩ := tkV_ok y
            have z2 := (tkW_ok z).2
            obtain ⟨-, u2, -, -⟩ := tkV_ok u
            have m1 : ∀ τ : Lx, τ.1 ≤ (nx T τ).1 := fun τ => Nat.le_trans (tS_ge T τ) (tE_ge T τ)
            have n1 := m1 (nx T σ)
            have n2 := m1 (nx T (nx T σ))
            have n3 := m1 σ3
            have n4 := m1 σ4
            rw [← y2] at n2
            rw [← z2] at n3
            rw [← u2] at n4
            show tot ≤ σ5.1
            omega
          · show mE _ (np + 1) nt nw (rup (rup R 6 np v1) 1 np v2) (nup N 0 np w) se lo tot
            obtain ⟨a1, a2, a3, a4, a5, a6, a7, a8, a9, a10⟩ := h5
            refine ⟨⟨?_, ?_, ?_⟩, ?_, fun p hp => ?_, fun p hp => ?_, fun p hp => ?_, fun k hk i hi => ?_, ?_, mO_f a8 ?_ ?_ (fun j _ => ?_), mO_f a9 ?_ ?_ (fun j _ => ?_), mWs_hi a10 (fun b k q => ?_)⟩
            · rw [sI_ne _ (by decide), sI_ne _ (by decide), sI_v]
            · rw [sI_ne _ (by decide), sI_ne _ (by decide), sI_k (by decide)]; exact a1.2.1
            · rw [sI_ne _ (by decide), sI_ne _ (by decide), sI_k (by decide)]; exact a1.2.2
            · have er : ∀ j, rup (rup R 6 np v1) 1 np v2 0 j = R 0 j := fun j => by rw [rup_n (by omega), rup_n (by omega)]
              rw [er, er, er, er, er, sI_ne _ (by decide), sI_ne _ (by decide), sI_ne _ (by decide), sI_ne _ (by decide), sI_ne _ (by decide), sI_ne _ (by decide)]
              exact a2
            · by_cases q : p = np
              · subst q
                rw [sI_v, sI_k (by omega), sI_v, rup_s, rup_n (by omega), rup_s, e1, j1]
                exact ⟨rfl, rfl⟩
              · rw [sI_k (by omega), sI_k (by omega), sI_k (by omega), sI_k (by omega), sI_ne _ (by decide), rup_n (by omega), rup_n (by omega), rup_n (by omega), rup_n (by omega)]
                exact a3 p (by omega)
            · rw [sI_ne _ (by decide), sI_ne _ (by decide), sI_ne _ (by decide), rup_n (by omega), rup_n (by omega), rup_n (by omega), rup_n (by omega), rup_n (by omega), rup_n (by omega)]
              exact a4 p hp
            · rw [sI_ne _ (by decide), sI_ne _ (by decide), sI_ne _ (by decide), rup_n (by omega), rup_n (by omega), rup_n (by omega), rup_n (by omega)]
              exact a5 p hp
            · show (ho_sJ S5 42 (6 * 0 + np) v).2.1 42 (6 * k + i) = _
              by_cases q : k = 0 ∧ i = np
              · obtain ⟨rfl, rfl⟩ := q
                rw [sJ_at, nup_s, c1]
              · have hck : i < cnt np nt nw k := by
                  unfold cnt at hi ⊢
                  by_cases k0 : k = 0
                  · rw [if_pos k0] at hi ⊢; omega
                  · rw [if_neg k0] at hi ⊢; exact hi
                have h6 := cnt_in (k := k) ho.1
                rw [sJ_n _ (by omega), nup_n q]
                exact a6 k hk i hck
            · rw [sI_ne _ (by decide), sI_ne _ (by decide), sI_ne _ (by decide)]; exact a7
            · rw [sI_ne _ (by decide), sI_ne _ (by decide), sI_ne _ (by decide)]; rfl
            · rw [sI_ne _ (by decide), sI_ne _ (by decide), sI_ne _ (by decide)]; rfl
            · rw [sI_ne _ (by decide), sI_ne _ (by decide), sI_ne _ (by decide)]; rfl
            · rw [sI_ne _ (by decide), sI_ne _ (by decide), sI_ne _ (by decide)]; rfl
            · rw [sI_ne _ (by decide), sI_ne _ (by decide), sI_ne _ (by decide)]; rfl
            · rw [sI_ne _ (by decide), sI_ne _ (by decide), sI_ne _ (by decide)]; rfl
            · rw [sI_ne _ (by omega), sI_ne _ (by omega), sI_ne _ (by omega)]; rfl

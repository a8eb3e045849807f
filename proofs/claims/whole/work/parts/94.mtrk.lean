/-! level 2: the reference reads a crown: tricks, watchers -/
theorem nx_ge (T : Tp) (τ : Lx) : τ.1 ≤ (nx T τ).1 := Nat.le_trans (tS_ge T τ) (tE_ge T τ)
theorem tkV_ge {T : Tp} {lo hi v : Nat} {σ σ1 : Lx} (h : tkV T lo hi σ = .ok (v, σ1)) : σ.1 ≤ σ1.1 := by
  rw [(tkV_ok h).2.1]; exact nx_ge T σ
theorem tkW_ge {T : Tp} {w : List Nat} {σ σ1 : Lx} (h : tkW T w σ = .ok σ1) : σ.1 ≤ σ1.1 := by
  rw [(tkW_ok h).2]; exact nx_ge T σ
theorem m_wat {S : Hp} {T : Tp} {σ : Lx} {np nt nw tot : Nat} {R : Nat → Nat → Nat} {N : Nat → Nat → List Nat} {se lo : Option (List Nat)} (h : mE S np nt nw R N se lo tot) (ho : okE np nt nw R N se lo) (ht : tot ≤ σ.1) (hT : tS T σ ≤ 1600) (hl : lR S T (nx T σ)) :
    ∃ S', f_X12_watcherTold (nI (tS T σ)) S = some S' ∧ fJ cJ S S' ∧ kD S' T (watT T ((np, nt, nw), R, N, se, lo) σ) := by
  have hn6 := ho.1.2.2
  obtain ⟨u1, u2⟩ := m_full (kd := 2) (n := nw) (ms := 5) (p := tS T σ) (by decide) hl.2.2.1 h.1.2.2 (by omega) (by decide) hT
  unfold f_X12_watcherTold watT
  dsimp only
  by_cases e : nw = 5
  · obtain ⟨S1, a1, a2, a3⟩ := u2 e
    rw [if_pos e, show f_X12_isFull (2 : Int32) (5 : Int32) (nI (tS T σ)) S = some (1, S1) from a1, ob2_s, if_neg ne1]
    exact ⟨S1, rfl, fJ_l a3, a2⟩
  rw [if_neg e, show f_X12_isFull (2 : Int32) (5 : Int32) (nI (tS T σ)) S = some (0, S) from u1 e, ob2_s, if_pos rfl]
  obtain ⟨v, S2, b1, b2, b3, b4⟩ := m_newN h ho hl
  have h2 := mE_l h b2
  rw [b1, ob2_s]
  cases x : newN T ((np, nt, nw), R, N, se, lo) (nx T σ) with
  | error e =>
    have hb := b4 e x
    have hb0 := bR_0 hb
    rw [m_asks_b hb0, ob_s, m_num_b hb0, ob2_s, m_asks_b hb0, ob_s, m_num_b hb0, ob2_s, if_neg hb0]
    exact ⟨S2, rfl, fJ_l b2, hb⟩
  | ok w =>
    obtain ⟨c1, c2⟩ := b3 w x
    obtain ⟨S3, d1, d2, d3⟩ := m_asks (c := 21) (w := wL.getD 10 []) c2 (by decide) (mW_at h2.2.2.2.2.2.2.2.2.2 _ _ (by decide))
    have h3 := mE_l h2 d2
    rw [show f_X12_asks 21 4 S2 = some S3 from d1, ob_s, be_k]
    cases y : tkW T (wL.getD 10 []) (nx T (nx T σ)) with
    | error e =>
      rw [y] at d3
      have hb0 := bR_0 d3
      rw [m_num_b hb0, ob2_s, m_asks_b hb0, ob_s, m_num_b hb0, ob2_s, if_neg hb0]
      exact ⟨S3, rfl, fJ_tr (fJ_l b2) (fJ_l d2), d3⟩
    | ok σ3 =>
      rw [y] at d3
      obtain ⟨v4, S4, g1, g2, g3⟩ := m_num (lo := 0) (hi := 9) d3 (by decide) (by decide)
      have h4 := mE_l h3 g2
      rw [show f_X12_number (0 : Int32) (9 : Int32) S3 = some (v4, S4) from g1, ob2_s, bs_k]
      cases z : tkV T 0 9 σ3 with
      | error e =>
        rw [z] at g3
        have hb0 := bR_0 g3
        rw [m_asks_b hb0, ob_s, m_num_b hb0, ob2_s, if_neg hb0]
        exact ⟨S4, rfl, fJ_tr (fJ_l b2) (fJ_tr (fJ_l d2) (fJ_l g2)), g3⟩
      | ok q =>
        rw [z] at g3
        obtain ⟨v1, σ4⟩ := q
        obtain ⟨e1, e2⟩ := g3
        obtain ⟨S5, i1, i2, i3⟩ := m_asks (c := 22) (w := wL.getD 11 []) e2 (by decide) (mW_at h4.2.2.2.2.2.2.2.2.2 _ _ (by decide))
        have h5 := mE_l h4 i2
        rw [show f_X12_asks 22 5 S4 = some S5 from i1, ob_s, bn_k]
        cases u : tkW T (wL.getD 11 []) σ4 with
        | error e =>
          rw [u] at i3
          have hb0 := bR_0 i3
          rw [m_num_b hb0, ob2_s, if_neg hb0]
          exact ⟨S5, rfl, fJ_tr (fJ_l b2) (fJ_tr (fJ_l d2) (fJ_tr (fJ_l g2) (fJ_l i2))), i3⟩
        | ok σ5 =>
          rw [u] at i3
          obtain ⟨v6, S6, k1, k2, k3⟩ := m_num (lo := 0) (hi := 9) i3 (by decide) (by decide)
          have h6 := mE_l h5 k2
          rw [show f_X12_number (0 : Int32) (9 : Int32) S5 = some (v6, S6) from k1, ob2_s, bs_k]
          have f6 : fJ cJ S S6 := fJ_tr (fJ_l b2) (fJ_tr (fJ_l d2) (fJ_tr (fJ_l g2) (fJ_tr (fJ_l i2) (fJ_l k2))))
          cases p : tkV T 0 9 σ5 with
          | error e =>
            rw [p] at k3
            have hb0 := bR_0 k3
            rw [if_neg hb0]
            exact ⟨S6, rfl, f6, k3⟩
          | ok q =>
            rw [p] at k3
            obtain ⟨v2, σ6⟩ := q
            obtain ⟨j1, j2⟩ := k3
            have hnw : nw < 5 := by omega
            rw [if_pos j2.2.2.1, show f_X12_adds (2 : Int32) v S6 = _ from m_adds (kd := 2) (by decide) h6.1.2.2 (by omega), ob2_s, le1_e, lit_nI 2, pk_mul, stI_n (by omega) (by decide), nI_1, stI_n (by omega) (by decide), bn_k]
            refine ⟨_, rfl, ?_, ?_, tot, ?_, ?_⟩
            · refine fJ_tr f6 (fJ_tr (fJ_sJ S6 (by omega)) (fJ_tr (fJ_sI _ (by unfold cJ; omega)) (fJ_tr (fJ_sI _ (by unfold cJ; omega)) (fJ_sI _ (by unfold cJ; omega)))))
            · exact lR_hi j2 (fun k _ => by rw [sI_ne _ (by decide), sI_ne _ (by decide), sI_ne _ (by decide)]; rfl) (fun i => by rw [sI_ne _ (by decide), sI_ne _ (by decide), sI_ne _ (by decide)]; rfl)
            · have n0 := nx_ge T σ
              have n1 := nx_ge T (nx T σ)
              have n2 := tkW_ge y
              have n3 := tkV_ge z
              have n4 := tkW_ge u
              have n5 := tkV_ge p
              show tot ≤ σ6.1
              omega
            · show mE _ np nt (nw + 1) (rup (rup R 7 nw v1) 5 nw v2) (nup N 2 nw w) se lo tot
              obtain ⟨a1, a2, a3, a4, a5, a6, a7, a8, a9, a10⟩ := h6
              refine ⟨⟨?_, ?_, ?_⟩, ?_, fun p hp => ?_, fun p hp => ?_, fun p hp => ?_, fun k hk i hi => ?_, ?_, mO_f a8 ?_ ?_ (fun j _ => ?_), mO_f a9 ?_ ?_ (fun j _ => ?_), mWs_hi a10 (fun b k q => ?_)⟩
              · rw [sI_ne _ (by decide), sI_ne _ (by decide), sI_k (by decide)]; exact a1.1
              · rw [sI_ne _ (by decide), sI_ne _ (by decide), sI_k (by decide)]; exact a1.2.1
              · rw [sI_ne _ (by decide), sI_ne _ (by decide), sI_v]
              · have er : ∀ j, rup (rup R 7 nw v1) 5 nw v2 0 j = R 0 j := fun j => by rw [rup_n (by omega), rup_n (by omega)]
                rw [er, er, er, er, er, sI_ne _ (by decide), sI_ne _ (by decide), sI_ne _ (by decide), sI_ne _ (by decide), sI_ne _ (by decide), sI_ne _ (by decide)]
                exact a2
              · rw [sI_ne _ (by decide), sI_ne _ (by decide), sI_ne _ (by decide), rup_n (by omega), rup_n (by omega), rup_n (by omega), rup_n (by omega)]
                exact a3 p hp
              · rw [sI_ne _ (by decide), sI_ne _ (by decide), sI_ne _ (by decide), rup_n (by omega), rup_n (by omega), rup_n (by omega), rup_n (by omega), rup_n (by omega), rup_n (by omega)]
                exact a4 p hp
              · by_cases q : p = nw
                · subst q
                  rw [sI_v, sI_k (by omega), sI_v, rup_s, rup_n (by omega), rup_s, e1, j1]
                  exact ⟨rfl, rfl⟩
                · rw [sI_k (by omega), sI_k (by omega), sI_k (by omega), sI_k (by omega), sI_ne _ (by decide), rup_n (by omega), rup_n (by omega), rup_n (by omega), rup_n (by omega)]
                  exact a5 p (by omega)
              · show (ho_sJ S6 42 (6 * 2 + nw) v).2.1 42 (6 * k + i) = _
                by_cases q : k = 2 ∧ i = nw
                · obtain ⟨rfl, rfl⟩ := q
                  rw [sJ_at, nup_s, c1]
                · have hck : i < cnt np nt nw k := by
                    unfold cnt at hi ⊢
                    by_cases k0 : k = 0
                    · rw [if_pos k0] at hi ⊢; exact hi
                    · rw [if_neg k0] at hi ⊢
                      by_cases k1 : k = 1
                      · rw [if_pos k1] at hi ⊢; exact hi
                      · rw [if_neg k1] at hi ⊢; omega
                  have h6 := cnt_in (k := k) ho.1
                  rw [sJ_n _ (by omega), nup_n q]
                  exact a6 k hk i hck
              · rw [sI_ne _ (by decide), sI_ne _ (by decide), sI_ne _ (by decide)]; exact a7
              · rw [sI_ne _ (by decide), sI_ne _ (by decide), sI_ne _ (by decide)]; rfl
              · rw [sI_ne _ (by decide), sI_ne _ (by decide), sI_ne _ (by decide)]; rfl
              · rw [sI_ne _ (by decide), sI_ne _ (by decide), sI_ne _ (by decide)]; rfl
              · rw [sI_ne _ (by decide), sI_ne _ (by decide), sI_ne _ (by decide)]; rfl
              · rw [sI_ne _ (by decide), sI_ne _ (by decide), sI_ne _ (by decide)]; rfl
              · rw [sI_ne _ (by decide), sI_ne _ (by decide), sI_ne _ (by decide)]; rfl
              · rw [sI_ne _ (by omega), sI_ne _ (by omega), sI_ne _ (by omega)]; rfl
theorem m_t80b {S : Hp} {x : Int64} {y z : Int32} (h : ¬ S.1 0 5 = 0) : f_X12_trickTold_80 x y z S = some S := by
  unfold f_X12_trickTold_80
  rw [m_asks_b h, ob_s, m_num_b h, ob2_s, if_neg h]
theorem m_trk {S : Hp} {T : Tp} {σ : Lx} {np nt nw tot : Nat} {R : Nat → Nat → Nat} {N : Nat → Nat → List Nat} {se lo : Option (List Nat)} (h : mE S np nt nw R N se lo tot) (ho : okE np nt nw R N se lo) (ht : tot ≤ σ.1) (hT : tS T σ ≤ 1600) (hl : lR S T (nx T σ)) :
    ∃ S', f_X12_trickTold (nI (tS T σ)) S = some S' ∧ fJ cJ S S' ∧ kD S' T (trkT T ((np, nt, nw), R, N, se, lo) σ) := by
  have hn6 := ho.1.2.1
  obtain ⟨u1, u2⟩ := m_full (kd := 1) (n := nt) (ms := 6) (p := tS T σ) (by decide) hl.2.2.1 h.1.2.1 hn6 (by decide) hT
  have nofb : ∀ (S2 : Hp) (v2 : Int64), S2.1 41 0 = nI np → ∃ r, f_X12_nameOf (0 : Int32) v2 S2 = some (r, S2) := fun S2 v2 hx => m_nofA (k := 0) (by decide) hx ho.1.1 np 0 5000 (by omega) (by have := ho.1.1; omega)
  unfold f_X12_trickTold trkT
  dsimp only
  by_cases e : nt = 6
  · obtain ⟨S1, a1, a2, a3⟩ := u2 e
    rw [if_pos e, show f_X12_isFull (1 : Int32) (6 : Int32) (nI (tS T σ)) S = some (1, S1) from a1, ob2_s, if_neg ne1]
    exact ⟨S1, rfl, fJ_l a3, a2⟩
  rw [if_neg e, show f_X12_isFull (1 : Int32) (6 : Int32) (nI (tS T σ)) S = some (0, S) from u1 e, ob2_s, if_pos rfl]
  obtain ⟨v, S2, b1, b2, b3, b4⟩ := m_newN h ho hl
  have h2 := mE_l h b2
  rw [b1, ob2_s]
  cases x : newN T ((np, nt, nw), R, N, se, lo) (nx T σ) with
  | error e =>
    have hb := b4 e x
    have hb0 := bR_0 hb
    obtain ⟨r, hr⟩ := nofb S2 0 h2.1.1
    rw [m_asks_b hb0, ob_s, m_num_b hb0, ob2_s, m_asks_b hb0, ob_s, m_name_b hb0, ob2_s, hr, ob2_s, if_neg hb0, m_t80b hb0]
    exact ⟨S2, rfl, fJ_l b2, hb⟩
  | ok w =>
    obtain ⟨c1, c2⟩ := b3 w x
    obtain ⟨S3, d1, d2, d3⟩ := m_asks (c := 17) (w := wL.getD 6 []) c2 (by decide) (mW_at h2.2.2.2.2.2.2.2.2.2 _ _ (by decide))
    have h3 := mE_l h2 d2
    rw [show f_X12_asks 17 5 S2 = some S3 from d1, ob_s, be_k]
    cases y : tkW T (wL.getD 6 []) (nx T (nx T σ)) with
    | error e =>
      rw [y] at d3
      have hb0 := bR_0 d3
      obtain ⟨r, hr⟩ := nofb S3 0 h3.1.1
      rw [m_num_b hb0, ob2_s, m_asks_b hb0, ob_s, m_name_b hb0, ob2_s, hr, ob2_s, if_neg hb0, m_t80b hb0]
      exact ⟨S3, rfl, fJ_tr (fJ_l b2) (fJ_l d2), d3⟩
    | ok σ3 =>
      rw [y] at d3
      obtain ⟨v4, S4, g1, g2, g3⟩ := m_num (lo := 1) (hi := 999) d3 (by decide) (by decide)
      have h4 := mE_l h3 g2
      rw [show f_X12_number (1 : Int32) (999 : Int32) S3 = some (v4, S4) from g1, ob2_s, bs_k]
      cases z : tkV T 1 999 σ3 with
      | error e =>
        rw [z] at g3
        have hb0 := bR_0 g3
        obtain ⟨r, hr⟩ := nofb S4 0 h4.1.1
        rw [m_asks_b hb0, ob_s, m_name_b hb0, ob2_s, hr, ob2_s, if_neg hb0, m_t80b hb0]
        exact ⟨S4, rfl, fJ_tr (fJ_l b2) (fJ_tr (fJ_l d2) (fJ_l g2)), g3⟩
      | ok q =>
        rw [z] at g3
        obtain ⟨v1, σ4⟩ := q
        obtain ⟨e1, e2⟩ := g3
        obtain ⟨S5, i1, i2, i3⟩ := m_asks (c := 18) (w := wL.getD 7 []) e2 (by decide) (mW_at h4.2.2.2.2.2.2.2.2.2 _ _ (by decide))
        have h5 := mE_l h4 i2
        rw [show f_X12_asks 18 4 S4 = some S5 from i1, ob_s, bn_k]
        have f5 : fJ cJ S S5 := fJ_tr (fJ_l b2) (fJ_tr (fJ_l d2) (fJ_tr (fJ_l g2) (fJ_l i2)))
        cases u : tkW T (wL.getD 7 []) σ4 with
        | error e =>
          rw [u] at i3
          have hb0 := bR_0 i3
          obtain ⟨r, hr⟩ := nofb S5 0 h5.1.1
          rw [m_name_b hb0, ob2_s, hr, ob2_s, if_neg hb0, m_t80b hb0]
          exact ⟨S5, rfl, f5, i3⟩
        | ok σ5 =>
          rw [u] at i3
          obtain ⟨v6, S6, k1, k2, k3, k4⟩ := m_name i3 h5.2.2.2.2.2.2.2.2.2
          have h6 := mE_l h5 k2
          have f6 : fJ cJ S S6 := fJ_tr f5 (fJ_l k2)
          rw [k1, ob2_s, bs_k]
          cases p : nmT T σ5 with
          | error e =>
            have hb := k4 e p
            have hb0 := bR_0 hb
            obtain ⟨r, hr⟩ := nofb S6 v6 h6.1.1
            rw [hr, ob2_s, if_neg hb0, m_t80b hb0]
            exact ⟨S6, rfl, f6, hb⟩
          | ok w2 =>
            obtain ⟨l1, l2, l3⟩ := k3 w2 p
            have hw2 := nmT_ok p
            have hno := m_nofF (k := 0) h6 ho (by decide) ⟨hw2.1, hw2.2.2⟩
            have e0 : cnt np nt nw 0 = np := rfl
            rw [e0] at hno
            have hno' : f_X12_nameOf (0 : Int32) v6 S6 = some (opI (fd (N 0) w2 np 0), S6) := by rw [l1]; exact hno
            have hm := opI_m (fd_lt (f := N 0) (w := w2) ho.1.1)
            have t5 := tS_le i3.2.1
            have t6 := i3.1.1
            rw [hno', ob2_s, if_pos l2.2.2.1, be_k]
            cases o : fd (N 0) w2 np 0 with
            | none =>
              rw [o] at hm
              obtain ⟨S7, q1, q2, q3⟩ := m_fail (S := S6) (k := 3) (p := tS T σ5) l2.2.2.1 (by decide) (by omega)
              rw [if_pos (hm.mpr rfl), l3, show (3 : Int32) = nI 3 from rfl, q1, ob_s, m_t80b (bR_0 q2)]
              exact ⟨S7, rfl, fJ_tr f6 (fJ_l q3), q2⟩
            | some pp =>
              rw [o] at hm
              rw [if_neg (fun q => by have := hm.mp q; cases this)]
              dsimp only
              unfold f_X12_trickTold_80
              obtain ⟨S7, q1, q2, q3⟩ := m_asks (c := 19) (w := wL.getD 8 []) l2 (by decide) (mW_at h6.2.2.2.2.2.2.2.2.2 _ _ (by decide))
              have h7 := mE_l h6 q2
              rw [show f_X12_asks 19 4 S6 = some S7 from q1, ob_s]
              cases r : tkW T (wL.getD 8 []) (nx T σ5) with
              | error e =>
                rw [r] at q3
                have hb0 := bR_0 q3
                rw [m_num_b hb0, ob2_s, if_neg hb0]
                exact ⟨S7, rfl, fJ_tr f6 (fJ_l q2), q3⟩
              | ok σ7 =>
                rw [r] at q3
                obtain ⟨v8, S8, n1, n2, n3⟩ := m_num (lo := 0) (hi := 9) q3 (by decide) (by decide)
                have h8 := mE_l h7 n2
                rw [show f_X12_number (0 : Int32) (9 : Int32) S7 = some (v8, S8) from n1, ob2_s, bs_k]
                have f8 : fJ cJ S S8 := fJ_tr f6 (fJ_tr (fJ_l q2) (fJ_l n2))
                cases s : tkV T 0 9 σ7 with
                | error e =>
                  rw [s] at n3
                  have hb0 := bR_0 n3
                  rw [if_neg hb0]
                  exact ⟨S8, rfl, f8, n3⟩
                | ok q =>
                  rw [s] at n3
                  obtain ⟨v3, σ8⟩ := q
                  obtain ⟨j1, j2⟩ := n3
                  have hnt : nt < 6 := by omega
                  rw [if_pos j2.2.2.1, show f_X12_adds (1 : Int32) v S8 = _ from m_adds (kd := 1) (by decide) h8.1.2.1 hnt, ob2_s, le1_e, lit_nI 3, pk_mul, stI_n (by omega) (by decide), nI_1, stI_n (by omega) (by decide), lit_nI 2, nI_add, stI_n (by omega) (by decide), bn_k]
                  refine ⟨_, rfl, ?_, ?_, tot, ?_, ?_⟩
                  · refine fJ_tr f8 (fJ_tr (fJ_sJ S8 (by omega)) (fJ_tr (fJ_sI _ (by unfold cJ; omega)) (fJ_tr (fJ_sI _ (by unfold cJ; omega)) (fJ_tr (fJ_sI _ (by unfold cJ; omega)) (fJ_sI _ (by unfold cJ; omega))))))
                  · exact lR_hi j2 (fun k _ => by rw [sI_ne _ (by decide), sI_ne _ (by decide), sI_ne _ (by decide), sI_ne _ (by decide)]; rfl) (fun i => by rw [sI_ne _ (by decide), sI_ne _ (by decide), sI_ne _ (by decide), sI_ne _ (by decide)]; rfl)
                  · have n0 := nx_ge T σ
                    have n1 := nx_ge T (nx T σ)
                    have n2 := tkW_ge y
                    have n3 := tkV_ge z
                    have n4 := tkW_ge u
                    have n5 := nx_ge T σ5
                    have n6 := tkW_ge r
                    have n7 := tkV_ge s
                    show tot ≤ σ8.1
                    omega
                  · show mE _ np (nt + 1) nw (rup (rup (rup R 2 nt v1) 3 nt pp) 4 nt v3) (nup N 1 nt w) se lo tot
                    obtain ⟨a1, a2, a3, a4, a5, a6, a7, a8, a9, a10⟩ := h8
                    refine ⟨⟨?_, ?_, ?_⟩, ?_, fun p hp => ?_, fun p hp => ?_, fun p hp => ?_, fun k hk i hi => ?_, ?_, mO_f a8 ?_ ?_ (fun j _ => ?_), mO_f a9 ?_ ?_ (fun j _ => ?_), mWs_hi a10 (fun b k q => ?_)⟩
                    · rw [sI_ne _ (by decide), sI_ne _ (by decide), sI_ne _ (by decide), sI_k (by decide)]; exact a1.1
                    · rw [sI_ne _ (by decide), sI_ne _ (by decide), sI_ne _ (by decide), sI_v]
                    · rw [sI_ne _ (by decide), sI_ne _ (by decide), sI_ne _ (by decide), sI_k (by decide)]; exact a1.2.2
                    · have er : ∀ j, rup (rup (rup R 2 nt v1) 3 nt pp) 4 nt v3 0 j = R 0 j := fun j => by rw [rup_n (by omega), rup_n (by omega), rup_n (by omega)]
                      rw [er, er, er, er, er, sI_ne _ (by decide), sI_ne _ (by decide), sI_ne _ (by decide), sI_ne _ (by decide), sI_ne _ (by decide), sI_ne _ (by decide), sI_ne _ (by decide), sI_ne _ (by decide)]
                      exact a2
                    · rw [sI_ne _ (by decide), sI_ne _ (by decide), sI_ne _ (by decide), sI_ne _ (by decide), rup_n (by omega), rup_n (by omega), rup_n (by omega), rup_n (by omega), rup_n (by omega), rup_n (by omega)]
                      exact a3 p hp
                    · by_cases q : p = nt
                      · subst q
                        refine ⟨?_, ?_, ?_⟩
                        · rw [sI_k (by omega), sI_k (by omega), sI_v, rup_n (by omega), rup_n (by omega), rup_s, e1]
                        · rw [sI_k (by omega), sI_v, rup_n (by omega), rup_s]; rfl
                        · rw [sI_v, rup_s, j1]
                      · rw [sI_k (by omega), sI_k (by omega), sI_k (by omega), sI_k (by omega), sI_k (by omega), sI_k (by omega), sI_k (by omega), sI_k (by omega), sI_k (by omega), sI_ne _ (by decide), rup_n (by omega), rup_n (by omega), rup_n (by omega), rup_n (by omega), rup_n (by omega), rup_n (by omega), rup_n (by omega), rup_n (by omega), rup_n (by omega)]
                        exact a4 p (by omega)
                    · rw [sI_ne _ (by decide), sI_ne _ (by decide), sI_ne _ (by decide), sI_ne _ (by decide), rup_n (by omega), rup_n (by omega), rup_n (by omega), rup_n (by omega), rup_n (by omega), rup_n (by omega)]
                      exact a5 p hp
                    · show (ho_sJ S8 42 (6 * 1 + nt) v).2.1 42 (6 * k + i) = _
                      by_cases q : k = 1 ∧ i = nt
                      · obtain ⟨rfl, rfl⟩ := q
                        rw [sJ_at, nup_s, c1]
                      · have hck : i < cnt np nt nw k := by
                          unfold cnt at hi ⊢
                          by_cases k0 : k = 0
                          · rw [if_pos k0] at hi ⊢; exact hi
                          · rw [if_neg k0] at hi ⊢
                            by_cases k1 : k = 1
                            · rw [if_pos k1] at hi ⊢; omega
                            · rw [if_neg k1] at hi ⊢; exact hi
                        have h6 := cnt_in (k := k) ho.1
                        rw [sJ_n _ (by omega), nup_n q]
                        exact a6 k hk i hck
                    · rw [sI_ne _ (by decide), sI_ne _ (by decide), sI_ne _ (by decide), sI_ne _ (by decide)]; exact a7
                    · rw [sI_ne _ (by decide), sI_ne _ (by decide), sI_ne _ (by decide), sI_ne _ (by decide)]; rfl
                    · rw [sI_ne _ (by decide), sI_ne _ (by decide), sI_ne _ (by decide), sI_ne _ (by decide)]; rfl
                    · rw [sI_ne _ (by decide), sI_ne _ (by decide), sI_ne _ (by decide), sI_ne _ (by decide)]; rfl
                    · rw [sI_ne _ (by decide), sI_ne _ (by decide), sI_ne _ (by decide), sI_ne _ (by decide)]; rfl
                    · rw [sI_ne _ (by decide), sI_ne _ (by decide), sI_ne _ (by decide), sI_ne _ (by decide)]; rfl
                    · rw [sI_ne _ (by decide), sI_ne _ (by decide), sI_ne _ (by decide), sI_ne _ (by decide)]; rfl
                    · rw [sI_ne _ (by omega), sI_ne _ (by omega), sI_ne _ (by omega), sI_ne _ (by omega)]; rfl

/-! level 2: alike answers: a question -/
theorem hA_33 {S S' : Hp} {X : Xv} {cr : Bool} {c : Nat} {C : Cr} {N : Nat → Nat → List Nat} {P : Pa} (h : hA S X cr c C N P) (e : ∀ b, b ≠ 33 → S'.1 b = S.1 b) (h2 : S'.2 = S.2) (g : fcG S' 33) : hA S' X cr c C N P := by
  have hf : fH (fun b => b = 33) S S' := ⟨fun b hb => e b hb, h2, fun q j hj => by rw [e 53 (by decide)]; exact q j hj⟩
  obtain ⟨⟨t1, t2, t3, t4⟩, fl, rr, ⟨c1, c2, c3, c4, c5⟩, ⟨f, p1, p2, p3, p4⟩, w7, im, sd, g1, g2⟩ := h
  have hcc := c2.2.2.2
  refine ⟨⟨t1, by rw [e 10 (by decide)]; exact t2, by rw [e 11 (by decide)]; exact t3, by rw [e 12 (by decide)]; exact t4⟩, by rw [e 10 (by decide)]; exact fl, by rw [e 1 (by decide)]; exact rr, ⟨by rw [e 0 (by decide)]; exact c1, by rw [h2]; exact c2, by rw [e (c + 1) (by omega)]; exact c3, fun x => cH_f (c4 x) hf (fun b q => by unfold crC; omega), fun k hk i hi => by rw [e (c + 3 + k) (by omega)]; exact c5 k hk i hi⟩, ⟨f, p1, by rw [e 0 (by decide)]; exact p2, by rw [e 0 (by decide)]; exact p3, fun i hi => ?_⟩, ⟨by rw [e 70 (by decide)]; exact w7.1, by rw [e 71 (by decide), e 72 (by decide)]; exact w7.2⟩, ⟨by rw [e 90 (by decide)]; exact im.1, by rw [e 91 (by decide)]; exact im.2⟩, by rw [e 0 (by decide)]; exact sd, fun j hj => by rw [e 53 (by decide)]; exact g1 j hj, g⟩
  obtain ⟨u1, u2⟩ := p4 i hi
  exact ⟨stH_f u1 hf (fun b q x => by omega), kpH_f u2 hf (by omega) (by omega)⟩
def rq (c b : Nat) : Prop := b = 10 ∨ b = 30 ∨ b = 35 ∨ b = 40 ∨ b = 41 ∨ b = 42 ∨ scE c b
theorem hA_q {S Sf : Hp} {X : Xv} {cr : Bool} {c : Nat} {C : Cr} {N : Nat → Nat → List Nat} {P : Pa} {fl : Int32 × Int32} (a : hA S X cr c C N P) (g : ∀ b, ¬ (rq c b ∨ b = 33) → Sf.1 b = S.1 b) (g53 : fcG Sf 53) (g33 : fcG Sf 33) (t : Sf.1 10 1 = 0) (f2 : Sf.1 10 2 = fl.1) (f3 : Sf.1 10 3 = fl.2) (p : ∀ b k, ¬ (b = 35 ∧ k = 1) → Sf.2.2 b k = S.2.2 b k) : hA Sf (Xe X fl) cr c C N P := by
  have hcc := a.2.2.2.1.2.1.2.2.2
  have a' := a
  obtain ⟨⟨t1, t2, t3, t4⟩, -, rr, -, -, w7, im, sd, -, k33⟩ := a'
  have fh : fH (rq c) S ((fun b => if b = 33 then S.1 33 else Sf.1 b), S.2) := by
    refine ⟨fun b hb => ?_, rfl, fun q j hj => ?_⟩
    · show (if b = 33 then S.1 33 else Sf.1 b) = _
      by_cases e : b = 33
      · rw [if_pos e, e]
      · rw [if_neg e]; exact g b (fun q => q.elim hb e)
    · show inM ((if 53 = 33 then S.1 33 else Sf.1 53) j).toInt
      rw [if_neg (by decide)]; exact g53 j hj
  have gg : ∀ b, b ≠ 33 → ((fun b => if b = 33 then S.1 33 else Sf.1 b), S.2).1 b = Sf.1 b := fun b hb => if_neg hb
  have gs : ∀ b, b = 0 ∨ b = 1 ∨ b = 12 ∨ b = 70 ∨ b = 71 ∨ b = 72 ∨ b = 90 ∨ b = 91 → Sf.1 b = S.1 b := fun b hb => g b (by unfold rq scE; omega)
  have hx : hA ((fun b => if b = 33 then S.1 33 else Sf.1 b), S.2) (Xe X fl) cr c C N P := by
    refine hA_x a fh (fun b q x => ?_) (fun k hk => by rw [gg 0 (by decide), gs 0 (by omega)]) ⟨by show 0 ≤ 1600; omega, ?_, fun i hi => absurd hi (Nat.not_lt_zero i), ?_⟩ ⟨?_, ?_⟩ ?_ ⟨?_, ?_⟩ ⟨?_, ?_⟩ ?_
    · unfold rq scE at x; unfold crC at q; omega
    · rw [gg 10 (by decide), t]; rfl
    · rw [gg 12 (by decide), gs 12 (by omega)]; exact t4
    · rw [gg 10 (by decide)]; exact f2
    · rw [gg 10 (by decide)]; exact f3
    · rw [gg 1 (by decide), gs 1 (by omega)]; exact rr
    · rw [gg 70 (by decide), gs 70 (by omega)]; exact w7.1
    · rw [gg 71 (by decide), gg 72 (by decide), gs 71 (by omega), gs 72 (by omega)]; exact w7.2
    · rw [gg 90 (by decide), gs 90 (by omega)]; exact im.1
    · rw [gg 91 (by decide), gs 91 (by omega)]; exact im.2
    · rw [gg 0 (by decide), gs 0 (by omega)]; exact sd
  have hy : hA (Sf.1, S.2) (Xe X fl) cr c C N P := hA_33 hx (fun b hb => (gg b hb).symm) rfl g33
  exact hA_ptr (F := Sf.1) (A := S.2) (B := Sf.2) hy ⟨p 0 1 (by omega), p 0 2 (by omega), p 50 0 (by omega)⟩
theorem h_ask {S : Hp} {X : Xv} {c : Nat} {C : Cr} {N : Nat → Nat → List Nat} {P : Pa} {z : Nat → Nat} {kl : List Nat} (hC : okCr C) (hz : okZ C z) (a : hA S X true c C N P) (b : hN S C z kl) (d : h10 S true C z) : ∃ S', f_X11_ask S = some (qAn C z (qT (xT X)), S') ∧ hA S' (Xe X (qFl (qT (xT X)))) true c C N P ∧ hN S' C z kl ∧ h10 S' true C z := by
  obtain ⟨c1, ⟨c2, c3, c4, c5⟩, c6, c7, c8⟩ := a.2.2.2.1
  have ch := c7 rfl
  have k53 := a.2.2.2.2.2.2.2.2.1
  have k33 := a.2.2.2.2.2.2.2.2.2
  obtain ⟨r, S1, r1, r2, r3⟩ := h_readAll a.1
  obtain ⟨S2, hS2⟩ : ∃ S2, S2 = ho_sI S1 10 1 (0 : Int32) := ⟨_, rfl⟩
  have g : ∀ b, ¬ rq c b → S2.1 b = S.1 b := fun b hb => by
    unfold rq at hb
    rw [hS2, sI_ne _ (by omega)]
    exact funext (fun k => r3.1 b k (by unfold qcP; omega))
  have p2 : ∀ b k, ¬ (b = 35 ∧ k = 1) → S2.2.2 b k = S.2.2 b k := fun b k hb => by rw [hS2]; exact r3.2.2 b k hb
  have t2 : S2.1 10 1 = 0 := by rw [hS2, sI_v]
  have u2 : ∀ k, k ≠ 1 → S2.1 10 k = S1.1 10 k := fun k hk => by rw [hS2, sI_k hk]
  have h53 : fcG S2 53 := fun j hj => by
    rw [hS2, sI_ne _ (by decide), r3.1 53 j (by unfold qcP; omega)]; exact k53 j hj
  have h33 : fcG S2 33 := fun j hj => by rw [g 33 (by unfold rq scE; omega)]; exact k33 j hj
  have fin : ∀ Sf : Hp, (∀ b, ¬ (rq c b ∨ b = 33) → Sf.1 b = S.1 b) → hN Sf C z kl ∧ h10 Sf true C z := by
    intro Sf hg
    have fh : fH (fun b => rq c b ∨ b = 33) S ((fun b => if b = 53 then S.1 53 else Sf.1 b), S.2) := by
      refine ⟨fun b hb => ?_, rfl, fun q j hj => ?_⟩
      · show (if b = 53 then S.1 53 else Sf.1 b) = _
        by_cases e : b = 53
        · rw [if_pos e, e]
        · rw [if_neg e]; exact hg b hb
      · show inM ((if 53 = 53 then S.1 53 else Sf.1 53) j).toInt
        rw [if_pos rfl]; exact q j hj
    have n1 := hN_f b fh (fun b q x => by unfold rq scE at x; omega)
    have n2 := h10_f d fh (fun b q x => by unfold rq scE at x; omega)
    have e : ∀ b, b ≠ 53 → ((fun b => if b = 53 then S.1 53 else Sf.1 b), S.2).1 b = Sf.1 b := fun b hb => if_neg hb
    exact ⟨n1, n2⟩
  unfold f_X11_ask
  rw [c1, if_pos rfl, if_neg ne1, r1, ob2_s, le1_e, ← hS2]
  cases hq : qT (xT X) with
  | error e =>
    rw [hq] at r2
    obtain ⟨rfl, w⟩ := r2
    rw [if_pos rfl]
    obtain ⟨n1, n2⟩ := fin S2 (fun b hb => g b (fun q => hb (Or.inl q)))
    exact ⟨S2, rfl, hA_q a (fun b hb => g b (fun q => hb (Or.inl q))) h53 h33 t2 (by rw [u2 2 (by decide)]; exact w.2.1) (by rw [u2 3 (by decide)]; exact w.2.2) p2, n1, n2⟩
  | ok q =>
    obtain ⟨kd, cs⟩ := q
    rw [hq] at r2
    obtain ⟨rfl, h6, w4, wc, wq, w2, w3⟩ := r2
    have ch2 : cH S2 c C := by
      have h9 : cH ((fun b => if b = 53 then S2.1 53 else S2.1 b), S.2) c C := by
        refine cH_f ch (P := rq c) ⟨fun b hb => ?_, rfl, fun q j hj => ?_⟩ (fun b q => by unfold rq scE at q; unfold crC; omega)
        · show (if b = 53 then S2.1 53 else S2.1 b) = _
          by_cases e : b = 53
          · subst e; rw [if_pos rfl]; exact g 53 hb
          · rw [if_neg e]; exact g b hb
        · show inM ((if 53 = 53 then S2.1 53 else S2.1 53) j).toInt
          rw [if_pos rfl]; exact h53 j hj
      have e : (fun b => if b = 53 then S2.1 53 else S2.1 b) = S2.1 := funext (fun b => by
        by_cases e : b = 53
        · rw [if_pos e, e]
        · rw [if_neg e])
      rw [e] at h9
      exact cH_ptr (F := S2.1) (A := S.2) (B := S2.2) h9 ((p2 50 0 (by omega)).trans c4)
    have s2 : stH S2 1200 C z := by
      obtain ⟨s0, s1, s2, s3⟩ := b.1
      have e : ∀ x, x < 6 → S2.1 (1200 + x) = S.1 (1200 + x) := fun x hx => g _ (by unfold rq scE; omega)
      have e0 : S2.1 1200 = S.1 1200 := e 0 (by decide)
      refine ⟨s0, by rw [e0]; exact s1, fun p hp => by rw [e 1 (by decide), e 2 (by decide), e 3 (by decide)]; exact s2 p hp, fun w hw => by rw [e 4 (by decide)]; exact s3 w hw⟩
    have cd2 : codH S2 40 cs := by
      unfold codH at wc ⊢
      rw [hS2, sI_ne _ (by decide), sI_ne _ (by decide)]
      exact wc
    obtain ⟨S3, v1, v2, v3⟩ := h_answer hC hz h6 wq ch2 s2 h33 cd2 (by rw [hS2, sI_ne _ (by decide)]; exact w4)
    have g3 : ∀ b, ¬ (rq c b ∨ b = 33) → S3.1 b = S.1 b := fun b hb => by
      rw [v3.1 b (fun q => hb (by unfold anP scE at q; unfold rq scE; omega)), g b (fun q => hb (Or.inl q))]
    have e10 : S3.1 10 = S2.1 10 := v3.1 10 (by unfold anP scE; omega)
    rw [if_neg ne1, v1, ob2_s]
    obtain ⟨n1, n2⟩ := fin S3 g3
    exact ⟨S3, rfl, hA_q a g3 (v3.2.2 h53) v2 (by rw [e10]; exact t2) (by rw [e10, u2 2 (by decide)]; exact w2) (by rw [e10, u2 3 (by decide)]; exact w3) (fun b k hb => by rw [v3.2.1]; exact p2 b k hb), n1, n2⟩
theorem s_29 : sim_29 Sim := by
  intro SH SM h
  have h' := h
  obtain ⟨X, cr, c, C, N, P, z, kl, ok, a, b, d, e, f⟩ := h'
  have ok' := ok
  obtain ⟨⟨hC, hz⟩, ok2⟩ := ok'
  have e' := e
  obtain ⟨⟨t, tw⟩, fl, rr, ⟨m1, mc, mn⟩, ⟨w, p1, p2, p3, p4⟩, w7, im, sd⟩ := e'
  cases cr with
  | false =>
    unfold f_X11_ask f_X12_ask
    have c1 := a.2.2.2.1.1
    rw [c1, m1]
    exact ⟨_, _, _, rfl, rfl, sim_tape (n := 0) ok a b d e f (Nat.zero_le _)⟩
  | true =>
    obtain ⟨S1, r1, r2, r3, r4⟩ := h_ask hC hz a b d
    obtain ⟨M1, q1, q2, q3, q4, q5⟩ := m_ask hC hz t tw (by rw [m1, if_pos rfl]; exact ne1) mc f.1
    rw [r1, q1]
    have g : ∀ b k, ¬ qmP b k → M1.1 b k = SM.1 b k := q5.1
    refine ⟨_, S1, M1, rfl, rfl, Xe X (qFl (qT (xT X))), true, c, C, N, P, z, kl, ok, r2, r3, r4, ?_, mZ_B f.1 q5, ⟨f.2.1.1, ?_, fun j hj => ?_⟩, ?_⟩
    · refine mA_x e (fun b k q => g b k (by unfold crM at q; unfold qmP; omega)) (fun k => q5.2 42 k (by omega)) ⟨⟨by show 0 ≤ 1600; omega, q2, fun i hi => absurd hi (Nat.not_lt_zero i)⟩, mWs_hi tw (fun b k q => g b k (by unfold qmP; omega))⟩ ⟨q3, q4⟩ (fun k hk => by rw [g 10 k (by unfold qmP; omega)]; exact rr k hk) ⟨by rw [g 0 66 (by unfold qmP; omega)]; exact w7.1, fun i hi => by rw [g 68 _ (by unfold qmP; omega), g 68 _ (by unfold qmP; omega), g 68 _ (by unfold qmP; omega)]; exact w7.2 i hi⟩ ⟨by rw [g 0 110 (by unfold qmP; omega)]; exact im.1, fun i hi => by rw [g 110 i (by unfold qmP; omega)]; exact im.2 i hi⟩ ?_
      rw [q5.2 0 74 (by omega)]; exact sd
    · rw [g 55 26 (by unfold qmP; omega)]; exact f.2.1.2.1
    · rw [g 55 _ (by unfold qmP; omega)]; exact f.2.1.2.2 j hj
    · rw [g 0 62 (by unfold qmP; omega)]; exact f.2.2

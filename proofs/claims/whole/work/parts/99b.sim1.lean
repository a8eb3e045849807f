/-! level 2: alike answers: what is refused, told, asked for at once -/
theorem crH {c : Nat} (hc : c = 100 ∨ c = 150) : c ∈ yH.1 ∧ yH.2.1 c = (1, 2) := by
  rcases hc with rfl | rfl <;> exact ⟨memH (by decide) (by decide), rfl⟩
theorem hA_x {Q : Nat → Prop} {S S' : Hp} {X X' : Xv} {cr : Bool} {c : Nat} {C : Cr} {N : Nat → Nat → List Nat} {P : Pa} (h : hA S X cr c C N P) (hf : fH Q S S') (hq : ∀ b, (crC c b ∨ (1000 ≤ b ∧ b < 1200) ∨ b = 33) → ¬ Q b) (h0 : ∀ k, k = 13 ∨ k = 14 ∨ k = 15 → S'.1 0 k = S.1 0 k) (t : tZ S' (xT X')) (fl : S'.1 10 2 = (xF X').1 ∧ S'.1 10 3 = (xF X').2) (rf : ∀ k, k < 6 → S'.1 1 k = xR X' k) (rw : h7 S' (xW X')) (im : h8 S' (xI X')) (sd : S'.1 0 16 = nI (xS X')) : hA S' X' cr c C N P := by
  obtain ⟨-, -, -, ⟨c1, c2, c3, c4, c5⟩, ⟨f, p1, p2, p3, p4⟩, -, -, -, g1, g2⟩ := h
  have hcc := c2.2.2.2
  have gc : ∀ b, crC c b → S'.1 b = S.1 b := fun b hb => hf.1 b (hq b (Or.inl hb))
  refine ⟨t, fl, rf, ⟨by rw [h0 13 (by omega)]; exact c1, by rw [hf.2.1]; exact c2, by rw [gc (c + 1) (by unfold crC; omega)]; exact c3, fun x => cH_f (c4 x) hf (fun b q x => hq b (Or.inl x) q), fun k hk i hi => by rw [gc (c + 3 + k) (by unfold crC; omega)]; exact c5 k hk i hi⟩, ⟨f, p1, by rw [h0 14 (by omega)]; exact p2, by rw [h0 15 (by omega)]; exact p3, fun i hi => ?_⟩, rw, im, sd, hf.2.2 g1, fun j hj => by rw [hf.1 33 (hq 33 (by omega))]; exact g2 j hj⟩
  obtain ⟨u1, u2⟩ := p4 i hi
  have hm : (f + i) % 20 < 20 := Nat.mod_lt _ (by decide)
  exact ⟨stH_f u1 hf (fun b q x => hq b (by omega) q), kpH_f u2 hf (hq _ (by omega)) (hq _ (by omega))⟩
theorem mA_x {S S' : Hp} {X X' : Xv} {cr : Bool} {C : Cr} {N : Nat → Nat → List Nat} {P : Pa} (h : mA S X cr C N P) (g : ∀ b k, (crM b ∨ b = 72 ∨ (b = 0 ∧ (k = 52 ∨ k = 72 ∨ k = 73))) → S'.1 b k = S.1 b k) (gj : ∀ k, S'.2.1 42 k = S.2.1 42 k) (t : mT S' (xT X') ∧ mWs S') (fl : S'.1 0 7 = (xF X').1 ∧ S'.1 0 8 = (xF X').2) (rf : ∀ k, k < 6 → S'.1 10 k = xR X' k) (rw : m7 S' (xW X')) (im : m8 S' (xI X')) (sd : S'.2.1 0 74 = lN (xS X')) : mA S' X' cr C N P := by
  obtain ⟨-, -, -, ⟨c1, c2, c3⟩, ⟨w, p1, p2, p3, p4⟩, -, -, -⟩ := h
  have g72 : ∀ k, S'.1 72 k = S.1 72 k := fun k => g 72 k (Or.inr (Or.inl rfl))
  refine ⟨t, fl, rf, ⟨by rw [g 0 52 (by omega)]; exact c1, ?_, fun k hk i hi => by rw [gj]; exact c3 k hk i hi⟩, ⟨w, p1, by rw [g 0 73 (by omega)]; exact p2, by rw [g 0 72 (by omega)]; exact p3, fun i hi => ?_⟩, rw, im, sd⟩
  · have gM : ∀ b k, crM b → S'.1 b k = S.1 b k := fun b k hb => g b k (Or.inl hb)
    obtain ⟨⟨a1, a2, a3⟩, ⟨b1, b2, b3⟩, cc, d, e, f1, f2⟩ := c2
    have g41 := fun k => gM 41 k (by unfold crM; omega)
    have g43 := fun k => gM 43 k (by unfold crM; omega)
    have g44 := fun k => gM 44 k (by unfold crM; omega)
    have g45 := fun k => gM 45 k (by unfold crM; omega)
    have g46 := fun k => gM 46 k (by unfold crM; omega)
    have g47 := fun k => gM 47 k (by unfold crM; omega)
    have mf : ∀ w cs, mF S w cs → mF S' w cs := fun w cs hm => hm.elim (fun x => Or.inl (codM_f x (gM 48 _ (by unfold crM; omega)) (gM 49 _ (by unfold crM; omega)) (fun j => gM 50 _ (by unfold crM; omega)))) (fun x => Or.inr ⟨(gM 48 _ (by unfold crM; omega)).trans x.1, x.2⟩)
    unfold mC
    simp only [g41, g43, g44, g45, g46, g47]
    exact ⟨⟨a1, a2, a3⟩, ⟨b1, b2, b3⟩, cc, d, e, mf 0 _ f1, mf 1 _ f2⟩
  · obtain ⟨u1, u2, u3, u4, u5⟩ := p4 i hi
    exact ⟨fun k hk => by rw [g72]; exact u1 k hk, fun k hk => by rw [g72]; exact u2 k hk, u3, by rw [g72]; exact u4, fun j hj => by rw [g72]; exact u5 j hj⟩
def Xr (X : Xv) (j : Nat) : Xv := (X.1, X.2.1, fun k => if k = j then X.2.2.1 k + 1 else X.2.2.1 k, X.2.2.2)
theorem hA_ref {S : Hp} {X : Xv} {cr : Bool} {c j : Nat} {C : Cr} {N : Nat → Nat → List Nat} {P : Pa} (h : hA S X cr c C N P) (hj : j < 6) : hA (ho_sI S 1 j (S.1 1 j + 1)) (Xr X j) cr c C N P := by
  have hcc := h.2.2.2.1.2.1.2.2.2
  have g : ∀ b, b ≠ 1 → (ho_sI S 1 j (S.1 1 j + 1)).1 b = S.1 b := fun b hb => sI_ne _ hb
  have h' := h
  obtain ⟨⟨t1, t2, t3, t4⟩, fl, r, -, -, w, i, s, -, -⟩ := h'
  refine hA_x (Q := fun b => b = 1) h (fH_sI S rfl (by decide)) (fun b q => by unfold crC at q; omega) (fun k _ => by rw [g 0 (by decide)]) ⟨t1, by rw [g 10 (by decide)]; exact t2, by rw [g 11 (by decide)]; exact t3, by rw [g 12 (by decide)]; exact t4⟩ (by rw [g 10 (by decide)]; exact fl) (fun k hk => ?_) ⟨by rw [g 70 (by decide)]; exact w.1, by rw [g 71 (by decide), g 72 (by decide)]; exact w.2⟩ ⟨by rw [g 90 (by decide)]; exact i.1, by rw [g 91 (by decide)]; exact i.2⟩ (by rw [g 0 (by decide)]; exact s)
  show _ = if k = j then X.2.2.1 k + 1 else X.2.2.1 k
  by_cases e : k = j
  · subst e
    rw [sI_v, if_pos rfl, r k hk]; rfl
  · rw [sI_k e, if_neg e, r k hk]; rfl
theorem mA_ref {S : Hp} {X : Xv} {cr : Bool} {j : Nat} {C : Cr} {N : Nat → Nat → List Nat} {P : Pa} (h : mA S X cr C N P) (hj : j < 6) : mA (ho_sI S 10 j (S.1 10 j + 1)) (Xr X j) cr C N P := by
  have g : ∀ b, b ≠ 10 → (ho_sI S 10 j (S.1 10 j + 1)).1 b = S.1 b := fun b hb => sI_ne _ hb
  have h' := h
  obtain ⟨⟨⟨t1, t2, t3⟩, tw⟩, fl, r, -, -, w, i, s⟩ := h'
  refine mA_x h (fun b k q => by rw [g b (by unfold crM at q; omega)]) (fun k => rfl) ⟨⟨t1, by rw [g 0 (by decide)]; exact t2, by rw [g 1 (by decide)]; exact t3⟩, mWs_hi tw (fun b k q => by rw [g b (by omega)])⟩ (by rw [g 0 (by decide)]; exact fl) (fun k hk => ?_) ⟨by rw [g 0 (by decide)]; exact w.1, by rw [g 68 (by decide)]; exact w.2⟩ ⟨by rw [g 0 (by decide)]; exact i.1, by rw [g 110 (by decide)]; exact i.2⟩ s
  show _ = if k = j then X.2.2.1 k + 1 else X.2.2.1 k
  by_cases e : k = j
  · subst e
    rw [sI_v, if_pos rfl, r k hk]; rfl
  · rw [sI_k e, if_neg e, r k hk]; rfl
theorem sim_ref {SH SM : Hp} {j : Nat} (hj : j < 6) (h : Sim SH SM) : Sim (ho_sI SH 1 j (SH.1 1 j + 1)) (ho_sI SM 10 j (SM.1 10 j + 1)) := by
  obtain ⟨X, cr, c, C, N, P, z, kl, ok, a, b, d, e, f⟩ := h
  refine ⟨Xr X j, cr, c, C, N, P, z, kl, ok, hA_ref a hj, hN_f (Q := fun b => b = 1) b (fH_sI SH rfl (by decide)) (fun b q => by omega), h10_f (Q := fun b => b = 1) d (fH_sI SH rfl (by decide)) (fun b q => by omega), mA_ref e hj, mN_f (Q := fun b _ => b = 10) f (fN_sI SM rfl) (fun b k q => by omega)⟩
theorem h_refuse {S : Hp} {j : Nat} (hj : j < 6) : f_X11_refuse (nI j) S = some (-1, ho_sI S 1 j (S.1 1 j + 1)) := by
  unfold f_X11_refuse
  rw [ldI_n hj (by decide), stI_n hj (by decide)]
theorem h_refuses {S : Hp} {j : Nat} (hj : j < 6) : f_X11_refuses (nI j) S = some (0, ho_sI S 1 j (S.1 1 j + 1)) := by
  unfold f_X11_refuses
  rw [ldI_n hj (by decide), stI_n hj (by decide)]
theorem s_3 : sim_3 Sim := by
  intro x SH SM h
  have h' := h
  obtain ⟨X, cr, c, C, N, P, z, kl, ok, a, b, d, e, f⟩ := h'
  unfold f_X11_fault f_X12_fault
  rw [a.2.1.1, a.2.1.2, e.2.1.1, e.2.1.2]
  by_cases e0 : x = 0
  · rw [if_pos e0, if_pos e0]; exact ⟨_, SH, SM, rfl, rfl, h⟩
  rw [if_neg e0, if_neg e0]
  by_cases e1 : x = 1
  · rw [if_pos e1, if_pos e1]; exact ⟨_, SH, SM, rfl, rfl, h⟩
  rw [if_neg e1, if_neg e1]
  exact ⟨_, SH, SM, rfl, rfl, h⟩
theorem ix_o {x : Int32} {n : Nat} (hn : n < 2 ^ 30) (h : x < 0 ∨ nI n ≤ x) : ¬ ((0 : Int32) ≤ x ∧ x ≤ nI n - (1 : Int32)) := by
  intro q
  obtain ⟨i, hi, rfl⟩ := (ix_iff hn).mp q
  rcases h with h | h
  · exact nI_pos (by omega) h
  · exact nI_ge hi (by omega) h
theorem nm1 : ((-1 : Int32)).toInt = -1 := by decide
theorem in5 {x : Int32} {n : Nat} (hn : n < 2 ^ 30) : ((0 : Int32) ≤ x ∧ x ≤ nI n) ↔ ∃ i, i ≤ n ∧ x = nI i := by
  constructor
  · rintro ⟨a, b⟩
    have a0 : (0 : Int32).toInt = 0 := by decide
    rw [Int32.le_iff_toInt_le] at a b
    obtain ⟨j, hj, rfl⟩ := nI_of (x := x) (fun q => by rw [Int32.lt_iff_toInt_lt, a0] at q; omega)
    rw [nI_toInt hj, nI_toInt (by omega)] at b
    exact ⟨j, by omega, rfl⟩
  · rintro ⟨i, hi, rfl⟩
    exact ⟨nI_pos' (by omega), nI_le hi (by omega)⟩
theorem i64_n (n : Nat) (h : n < 2 ^ 31) : (OfNat.ofNat n : Int64) = (nI n).toInt64 := by rw [nI_l h]; rfl
theorem m_inL {x : Int32} {n : Nat} {S : Hp} (hn : n < 2 ^ 31) : f_X12_isIn x.toInt64 (0 : Int64) (OfNat.ofNat n : Int64) S = some (if (0 : Int32) ≤ x ∧ x ≤ nI n then 1 else 0, S) := by
  rw [i64_n n hn, i64_lit0, m_isInI]
theorem s_33 : sim_33 Sim := by
  intro x SH SM h
  have h' := h
  obtain ⟨X, cr, c, C, N, P, z, kl, ok, a, b, d, e, f⟩ := h'
  unfold f_X11_status f_X12_status f_X11_status_10
  rw [m_inL (n := 5) (by decide), ob2_s]
  rcases pk_ix x (n := 6) (by decide) with hx | hx | ⟨i, hi, rfl⟩
  · rw [if_pos hx, if_neg (show ¬ ((0 : Int32) ≤ x ∧ x ≤ nI 5) from fun q => absurd hx (Int32.not_lt.mpr q.1)), if_pos rfl]
    exact ⟨_, SH, SM, rfl, rfl, h⟩
  · have h1 : ¬ x < 0 := fun q => by
      have := Int32.lt_of_le_of_lt hx q
      exact absurd this (by decide)
    rw [if_neg h1, if_neg (show ¬ x < (6 : Int32) from Int32.not_lt.mpr hx), if_neg (show ¬ ((0 : Int32) ≤ x ∧ x ≤ nI 5) from fun q => by
      obtain ⟨j, hj, rfl⟩ := (in5 (by decide)).mp q
      exact nI_ge (show j < 6 by omega) (by decide) hx), if_pos rfl]
    exact ⟨_, SH, SM, rfl, rfl, h⟩
  · rw [if_neg (nI_pos (by omega)), if_pos (show nI i < (6 : Int32) from (ltL 6 (by omega) (by decide)).mpr hi), ldI_n hi (by decide), if_pos ((in5 (by decide)).mpr ⟨i, by omega, rfl⟩), if_neg ne1, ldI_n hi (by decide), a.2.2.1 i hi, e.2.2.1 i hi]
    exact ⟨_, SH, SM, rfl, rfl, h⟩
theorem s_31 : sim_31 Sim := by
  intro x SH SM h
  have h' := h
  obtain ⟨X, cr, c, C, N, P, z, kl, ok, a, b, d, e, f⟩ := h'
  have hl := ok.2.2.2.1.1
  obtain ⟨i1, i2⟩ := a.2.2.2.2.2.2.1
  obtain ⟨j1, j2⟩ := e.2.2.2.2.2.2.1
  unfold f_X11_octet f_X12_octet f_X11_octet_15
  rw [i1, j1]
  rcases pk_ix x (n := (xI X).length) (by omega) with hx | hx | ⟨i, hi, rfl⟩
  · rw [if_pos hx, if_pos hx]; exact ⟨_, SH, SM, rfl, rfl, h⟩
  · have h1 : ¬ x < 0 := fun q => by
      have := Int32.lt_of_le_of_lt hx q
      exact nI_pos (by omega) this
    rw [if_neg h1, if_neg h1, if_neg (Int32.not_lt.mpr hx), if_pos hx]
    exact ⟨_, SH, SM, rfl, rfl, h⟩
  · rw [if_neg (nI_pos (by omega)), if_neg (nI_pos (by omega)), if_pos (nI_lt hi (by omega)), if_neg (nI_ge hi (by omega)), ldI_n (by omega) (by decide), ldI_n (by omega) (by decide), i2 i hi, j2 i hi]
    exact ⟨_, SH, SM, rfl, rfl, h⟩
def Xs (X : Xv) (s : Nat) : Xv := (X.1, X.2.1, X.2.2.1, X.2.2.2.1, X.2.2.2.2.1, s)
theorem s_28 : sim_28 Sim := by
  intro x SH SM h
  have h' := h
  obtain ⟨X, cr, c, C, N, P, z, kl, ok, a, b, d, e, f⟩ := h'
  unfold f_X11_seed f_X12_seed
  by_cases hx : 0 ≤ x
  · obtain ⟨s, hs, rfl⟩ := nI_of (Int32.not_lt.mpr hx)
    rw [if_pos hx, if_pos hx, le1_e, le1_e, nI_l hs]
    refine ⟨_, _, _, rfl, rfl, Xs X s, cr, c, C, N, P, z, kl, ⟨ok.1, ok.2.1, ok.2.2.1, ok.2.2.2.1, hs, ok.2.2.2.2.2⟩, ?_, hN_f (Q := fun b => b = 0) b (fH_sI SH rfl (by decide)) (fun b q => by omega), h10_f (Q := fun b => b = 0) d (fH_sI SH rfl (by decide)) (fun b q => by omega), ?_, ⟨f.1, f.2.1, f.2.2⟩⟩
    · have hcc := a.2.2.2.1.2.1.2.2.2
      have g : ∀ b, b ≠ 0 → (ho_sI SH 0 16 (nI s)).1 b = SH.1 b := fun b hb => sI_ne _ hb
      have a' := a
      obtain ⟨⟨t1, t2, t3, t4⟩, fl, r, -, -, w, i, -, -, -⟩ := a'
      exact hA_x (Q := fun b => b = 0) a (fH_sI SH rfl (by decide)) (fun b q => by unfold crC at q; omega) (fun k hk => by rw [sI_k (by omega)]) ⟨t1, by rw [g 10 (by decide)]; exact t2, by rw [g 11 (by decide)]; exact t3, by rw [g 12 (by decide)]; exact t4⟩ (by rw [g 10 (by decide)]; exact fl) (by rw [g 1 (by decide)]; exact r) ⟨by rw [g 70 (by decide)]; exact w.1, by rw [g 71 (by decide), g 72 (by decide)]; exact w.2⟩ ⟨by rw [g 90 (by decide)]; exact i.1, by rw [g 91 (by decide)]; exact i.2⟩ sI_v
    · have e' := e
      obtain ⟨t, fl, r, -, -, w, i, s⟩ := e'
      exact mA_x e (fun b k q => rfl) (fun k => sJ_n SM (by omega)) t fl r w i (sJ_at SM)
  · rw [if_neg hx, if_neg hx, show f_X11_refuses (5 : Int32) SH = _ from h_refuses (j := 5) (by decide), ob2_s, ldI_L 5 (by decide) (by decide), stI_L 5 (by decide) (by decide)]
    exact ⟨_, _, _, tr0, rfl, sim_ref (by decide) h⟩
def Xt (X : Xv) (T : Tp) : Xv := (T, X.2)
/-- the tape made shorter -/
theorem sim_tape {SH SM : Hp} {n : Nat} {X : Xv} {cr : Bool} {c : Nat} {C : Cr} {N : Nat → Nat → List Nat} {P : Pa} {z : Nat → Nat} {kl : List Nat} (ok : okX X cr C N P z) (a : hA SH X cr c C N P) (b : hN SH C z kl) (d : h10 SH cr C z) (e : mA SM X cr C N P) (f : mN SM C z kl) (hn : n ≤ (xT X).2) : Sim (ho_sI SH 10 1 (nI n)) (ho_sI SM 0 1 (nI n)) := by
  refine ⟨Xt X ((xT X).1, n), cr, c, C, N, P, z, kl, ok, ?_, hN_f (Q := fun b => b = 10) b (fH_sI SH rfl (by decide)) (fun b q => by omega), h10_f (Q := fun b => b = 10) d (fH_sI SH rfl (by decide)) (fun b q => by omega), ?_, mN_f (Q := fun b k => b = 0 ∧ k = 1) f (fN_sI SM ⟨rfl, rfl⟩) (fun b k q => by omega)⟩
  · have hcc := a.2.2.2.1.2.1.2.2.2
    have g : ∀ b, b ≠ 10 → (ho_sI SH 10 1 (nI n)).1 b = SH.1 b := fun b hb => sI_ne _ hb
    have a' := a
    obtain ⟨⟨t1, t2, t3, t4⟩, fl, r, -, -, w, i, s, -, -⟩ := a'
    exact hA_x (Q := fun b => b = 10) a (fH_sI SH rfl (by decide)) (fun b q => by unfold crC at q; omega) (fun k hk => by rw [g 0 (by decide)]) ⟨by show n ≤ 1600; omega, sI_v, fun i hi => by rw [g 11 (by decide)]; exact t3 i (Nat.lt_of_lt_of_le hi hn), by rw [g 12 (by decide)]; exact t4⟩ (by rw [sI_k (by decide), sI_k (by decide)]; exact fl) (by rw [g 1 (by decide)]; exact r) ⟨by rw [g 70 (by decide)]; exact w.1, by rw [g 71 (by decide), g 72 (by decide)]; exact w.2⟩ ⟨by rw [g 90 (by decide)]; exact i.1, by rw [g 91 (by decide)]; exact i.2⟩ (by rw [g 0 (by decide)]; exact s)
  · have g : ∀ b, b ≠ 0 → (ho_sI SM 0 1 (nI n)).1 b = SM.1 b := fun b hb => sI_ne _ hb
    have g0 : ∀ k, k ≠ 1 → (ho_sI SM 0 1 (nI n)).1 0 k = SM.1 0 k := fun k hk => sI_k hk
    have e' := e
    obtain ⟨⟨⟨t1, t2, t3⟩, tw⟩, fl, r, -, -, w, i, s⟩ := e'
    refine mA_x e (fun b k q => ?_) (fun k => rfl) ⟨⟨by show n ≤ 1600; omega, sI_v, fun i hi => by rw [g 1 (by decide)]; exact t3 i (Nat.lt_of_lt_of_le hi hn)⟩, mWs_hi tw (fun b k q => by rw [g b (by omega)])⟩ (by rw [g0 7 (by decide), g0 8 (by decide)]; exact fl) (by rw [g 10 (by decide)]; exact r) ⟨by rw [g0 66 (by decide)]; exact w.1, by rw [g 68 (by decide)]; exact w.2⟩ ⟨by rw [g0 110 (by decide)]; exact i.1, by rw [g 110 (by decide)]; exact i.2⟩ s
    unfold crM at q
    by_cases e0 : b = 0
    · subst e0; rw [g0 k (by omega)]
    · rw [g b e0]
theorem s_1 : sim_1 Sim := by
  intro x SH SM h
  have h' := h
  obtain ⟨X, cr, c, C, N, P, z, kl, ok, a, b, d, e, f⟩ := h'
  have hT := a.1.1
  unfold f_X11_end f_X12_end f_X11_end_15 f_X12_end_12
  rw [a.1.2.1, e.1.1.2.1, show f_X11_refuses (0 : Int32) SH = _ from h_refuses (j := 0) (by decide), ob2_s, ldI_L 0 (by decide) (by decide), stI_L 0 (by decide) (by decide)]
  have hrf : ∃ (r : Int32) (SH1 SM1 : Hp), tr (0 : Int32) (some ((0 : Int32), ho_sI SH 1 0 (SH.1 1 0 + 1))) = some (r, SH1) ∧ some ((0 : Int32), ho_sI SM 10 0 (SM.1 10 0 + 1)) = some (r, SM1) ∧ Sim SH1 SM1 := ⟨_, _, _, tr0, rfl, sim_ref (by decide) h⟩
  by_cases hx : x < 0
  · rw [if_pos hx, if_pos hx]; exact hrf
  · obtain ⟨n, hn, rfl⟩ := nI_of hx
    rw [if_neg hx, if_neg hx]
    by_cases h2 : n ≤ (xT X).2
    · rw [if_pos (nI_le h2 (by omega)), if_pos (nI_le h2 (by omega)), le1_e, le1_e]
      exact ⟨_, _, _, rfl, rfl, sim_tape ok a b d e f h2⟩
    · rw [if_neg (nI_ge (by omega) (by omega)), if_neg (nI_ge (by omega) (by omega))]; exact hrf

/-! level 2: the class: a show given, a year, a state copied -/
theorem tkA_o {C : Cr} {s : Nat} {r : Nat → Nat} (hC : okCr C) {p : Nat} (hp : cP C ≤ p) : ∀ n, n ≤ cT C → (tkA C s r n).1 p = r p
  | 0, _ => rfl
  | t + 1, h => by
    have ih := tkA_o (s := s) (r := r) hC hp t (by omega)
    have := (hC.2.2.2.1 t (by omega)).2.1
    rw [tkA]
    split
    · show (if p = cR C 3 t then _ else _) = _
      rw [if_neg (by omega)]; exact ih
    · exact ih
/-- the state with what a show changes, of the tricks below n -/
def gvP (C : Cr) (z : Nat → Nat) (s : Nat) (g : Nat → Nat) (n j : Nat) : Nat :=
  if 3 ≤ j ∧ j < 9 then lft C z s (j - 3) else if 9 ≤ j ∧ j < 9 + n ∧ s.testBit (j - 9) = true then min 9999 (z j + 1) else if 15 ≤ j ∧ j < 15 + n ∧ s.testBit (j - 15) = true then min 999 (z j + g (j - 15)) else z j
theorem gvP_a (C : Cr) (z : Nat → Nat) (s : Nat) (g : Nat → Nat) (n : Nat) {j : Nat} (h : j < 3 ∨ 21 ≤ j) (hn : n ≤ 6) : gvP C z s g n j = z j := by
  unfold gvP
  rw [if_neg (by omega), if_neg (by omega), if_neg (by omega)]
theorem gvP_s (C : Cr) (z : Nat → Nat) (s : Nat) (g : Nat → Nat) (n : Nat) {p : Nat} (h : p < 6) : gvP C z s g n (3 + p) = lft C z s p := by
  unfold gvP
  rw [if_pos (by omega), show 3 + p - 3 = p by omega]
theorem gvP_t (C : Cr) (z : Nat → Nat) (s : Nat) (g : Nat → Nat) (n : Nat) {t : Nat} (h : t < 6) (hn : n ≤ 6) : gvP C z s g n (9 + t) = if t < n ∧ s.testBit t = true then min 9999 (z (9 + t) + 1) else z (9 + t) := by
  unfold gvP
  rw [if_neg (by omega), show 9 + t - 9 = t by omega]
  by_cases q : t < n ∧ s.testBit t = true
  · rw [if_pos q, if_pos ⟨by omega, by omega, q.2⟩]
  · rw [if_neg q, if_neg (fun x => q ⟨by omega, x.2.2⟩), if_neg (by omega)]
theorem gvP_k (C : Cr) (z : Nat → Nat) (s : Nat) (g : Nat → Nat) (n : Nat) {t : Nat} (h : t < 6) (hn : n ≤ 6) : gvP C z s g n (15 + t) = if t < n ∧ s.testBit t = true then min 999 (z (15 + t) + g t) else z (15 + t) := by
  unfold gvP
  rw [if_neg (by omega), if_neg (by omega), show 15 + t - 15 = t by omega]
  by_cases q : t < n ∧ s.testBit t = true
  · rw [if_pos q, if_pos ⟨by omega, by omega, q.2⟩]
  · rw [if_neg q, if_neg (fun x => q ⟨by omega, x.2.2⟩)]
theorem gvP_st {C : Cr} {z : Nat → Nat} {s : Nat} {g : Nat → Nat} {i j : Nat} (h : (j ≠ 9 + i ∧ j ≠ 15 + i) ∨ ¬ s.testBit i = true) : gvP C z s g i j = gvP C z s g (i + 1) j := by
  have e1 : (9 ≤ j ∧ j < 9 + (i + 1) ∧ s.testBit (j - 9) = true) ↔ (9 ≤ j ∧ j < 9 + i ∧ s.testBit (j - 9) = true) := by
    constructor
    · rintro ⟨a, b, c⟩
      refine ⟨a, ?_, c⟩
      by_cases q : j = 9 + i
      · subst q
        rw [show 9 + i - 9 = i by omega] at c
        rcases h with h | h
        · exact absurd rfl h.1
        · exact absurd c h
      · omega
    · rintro ⟨a, b, c⟩
      exact ⟨a, by omega, c⟩
  have e2 : (15 ≤ j ∧ j < 15 + (i + 1) ∧ s.testBit (j - 15) = true) ↔ (15 ≤ j ∧ j < 15 + i ∧ s.testBit (j - 15) = true) := by
    constructor
    · rintro ⟨a, b, c⟩
      refine ⟨a, ?_, c⟩
      by_cases q : j = 15 + i
      · subst q
        rw [show 15 + i - 15 = i by omega] at c
        rcases h with h | h
        · exact absurd rfl h.2
        · exact absurd c h
      · omega
    · rintro ⟨a, b, c⟩
      exact ⟨a, by omega, c⟩
  unfold gvP
  simp only [e1, e2]
/-- the tricks of a show that are then seen through -/
def gvT (C : Cr) (z : Nat → Nat) (s : Nat) (g : Nat → Nat) (n : Nat) : Nat := setNat (fun t => s.testBit t && decide (100 ≤ gvP C z s g (cT C) (15 + t))) n
theorem gvP_ok {C : Cr} {z : Nat → Nat} {s : Nat} {g : Nat → Nat} {n : Nat} (hC : okCr C) (hz : okZ C z) (hn : n ≤ cT C) : okZ C (gvP C z s g n) := by
  have hnt := hC.1.2.1
  have hl := (apr_le (s := s) hC hz).2
  obtain ⟨z0, z1, z2, z3, z4, z5, z6, z7, z8⟩ := hz
  have hnw := hC.1.2.2
  refine ⟨?_, ?_, ?_, ?_, ?_, ?_, ?_, ?_, ?_⟩
  · rw [gvP_a _ _ _ _ _ (by omega) (by omega)]; exact z0
  · rw [gvP_a _ _ _ _ _ (by omega) (by omega)]; exact z1
  · rw [gvP_a _ _ _ _ _ (by omega) (by omega)]; exact z2
  · intro p hp
    rw [gvP_s _ _ _ _ _ hp]
    have := hl p hp
    have := z3 p hp
    omega
  · intro t ht
    rw [gvP_t _ _ _ _ _ ht (by omega)]
    have := z4 t ht
    split <;> omega
  · intro t ht
    rw [gvP_k _ _ _ _ _ ht (by omega)]
    have := z5 t ht
    split <;> omega
  · intro w hw
    rw [gvP_a _ _ _ _ _ (by omega) (by omega)]; exact z6 w hw
  · intro p h1 h2
    rw [gvP_s _ _ _ _ _ h2]
    unfold lft
    rw [tkA_o hC h1 _ (Nat.le_refl _)]
    exact z7 p h1 h2
  · intro t h1 h2
    rw [gvP_t _ _ _ _ _ h2 (by omega), gvP_k _ _ _ _ _ h2 (by omega), if_neg (by omega), if_neg (by omega)]
    exact z8 t h1 h2
/-- the state behind a show -/
def gv (C : Cr) (z : Nat → Nat) (s : Nat) (g : Nat → Nat) (j : Nat) : Nat := if j = 0 then z 0 + 1 else if j = 1 then pyD C (z 1) (apr C z s) else if j = 2 then (lsB C (gvP C z s g (cT C)) (gvT C z s g (cT C)) [] (cT C)).1 else gvP C z s g (cT C) j
def gvK (C : Cr) (z : Nat → Nat) (s : Nat) (g : Nat → Nat) (kl : List Nat) : List Nat := (lsB C (gvP C z s g (cT C)) (gvT C z s g (cT C)) kl (cT C)).2
theorem gv_ok {C : Cr} {z : Nat → Nat} {s : Nat} {g : Nat → Nat} (hC : okCr C) (hz : okZ C z) (hy : z 0 < 999) : okZ C (gv C z s g) := by
  have h := gvP_ok (s := s) (g := g) hC hz (Nat.le_refl _)
  have hb := lsB_le C (gvP C z s g (cT C)) (gvT C z s g (cT C)) [] (cT C)
  obtain ⟨z0, z1, z2, z3, z4, z5, z6, z7, z8⟩ := h
  have e : ∀ j, 3 ≤ j → gv C z s g j = gvP C z s g (cT C) j := by
    intro j hj
    unfold gv
    rw [if_neg (by omega), if_neg (by omega), if_neg (by omega)]
  refine ⟨?_, ?_, ?_, ?_, ?_, ?_, ?_, ?_, ?_⟩
  · show z 0 + 1 ≤ 999
    omega
  · exact Nat.min_le_left _ _
  · exact Nat.le_trans hb z2
  · intro p hp; rw [e _ (by omega)]; exact z3 p hp
  · intro p hp; rw [e _ (by omega)]; exact z4 p hp
  · intro p hp; rw [e _ (by omega)]; exact z5 p hp
  · intro p hp; rw [e _ (by omega)]; exact z6 p hp
  · intro p h1 hp; rw [e _ (by omega)]; exact z7 p h1 hp
  · intro p h1 hp; rw [e _ (by omega), e _ (by omega)]; exact z8 p h1 hp
theorem stH_A {S S' : Hp} {c a : Nat} {C : Cr} {z : Nat → Nat} {P : Nat → Prop} (h : stH S a C z) (hf : fH P S S') (hp : ∀ b, P b → ¬ (a ≤ b ∧ b ≤ a + 4)) : stH S' a C z := stH_f h hf hp
theorem h_give_loop {c a s w3 : Nat} {C : Cr} {z g : Nat → Nat} {kl : List Nat} (hC : okCr C) (hz : okZ C z) (h64 : s < 64) (hy : z 0 < 999) (hw3 : 50 ≤ w3 ∧ w3 < 70 ∧ w3 ≠ 53) (hg : ∀ t, t < cT C → g t ≤ 1000) : ∀ (d i k : Nat) (S : Hp), i + d = cT C → d < k → cH S c C → stH S a C (gvP C z s g i) → kpH S a kl → (∀ t, t < cT C → s.testBit t = true → S.1 w3 t = nI (g t)) →
    ∃ S', f_X8_give_29 a w3 6 k (nI s) (nI (apr C z s)) (nI (gvT C z s g i)) (nI i) S = some (nI (apr C z s), S') ∧ stH S' a C (gv C z s g) ∧ kpH S' a (gvK C z s g kl) ∧ fH (scA c a) S S' := by
  have hnt := hC.1.2.1
  have hap := (apr_le (s := s) hC hz).1
  intro d
  induction d with
  | zero =>
    intro i k S hi hk h hs hkp hse
    obtain ⟨k, rfl⟩ : ∃ q, k = q + 1 := ⟨k - 1, by omega⟩
    have e : i = cT C := by omega
    subst e
    obtain ⟨ha1, ha2, ha3⟩ := stH_a hs
    have hok := gvP_ok (s := s) (g := g) hC hz (Nat.le_refl (cT C))
    obtain ⟨S1, r1, r2, r3, r4⟩ := h_lose_loop (c := c) (a := a) (s := gvT C z s g (cT C)) (kl := kl) hC hok (setNat_64 _ hnt) hkp.1 (cT C) 0 5000 S (by omega) (by omega) h (stH_z hC hs (fun j _ => by
      by_cases e : j = 2
      · subst e; rw [zup_s]; rfl
      · rw [zup_n e])) hkp
    have h1 := cH_a h ha1 r4
    have z1e : zup (gvP C z s g (cT C)) 2 (lsB C (gvP C z s g (cT C)) (gvT C z s g (cT C)) kl (cT C)).1 1 = z 1 := by
      rw [zup_n (by omega), gvP_a _ _ _ _ _ (by omega) (by omega)]
    have hpay := h_pay (ap := apr C z s) hC (by rw [z1e]; exact hz.2.1) h1 r2 hap
    rw [z1e] at hpay
    have r2a := stH_f0 (k := 1) (v := pyD C (z 1) (apr C z s)) r2 (by decide)
    have r2b := stH_f0 (k := 0) (v := z 0 + 1) r2a (by decide)
    have y0 : (ho_sI S1 a 1 (nI (pyD C (z 1) (apr C z s)))).1 a 0 = nI (z 0) := by
      rw [r2a.2.1.1, zup_n (by omega), zup_n (by omega), gvP_a _ _ _ _ _ (by omega) (by omega)]
    refine ⟨_, ?_, stH_z hC r2b (fun j hj => ?_), ?_, ?_⟩
    · rw [f_X8_give_29, ldP_n h.1.1 h.1.2, ldI_L 1 (by decide) (by decide), h.2.1.2.1, if_pos (nI_le (by omega) (by omega))]
      unfold f_X8_loseBelief
      rw [show f_X8_loseBelief_2 a 5000 (nI (gvT C z s g (cT C))) (0 : Int32) S = some S1 from r1, ob_s, hpay, ob_s, y0, h_mn, ob2_s, le1_e, lit_nI 999, nI_1, mn_n (by decide) (by omega), Nat.min_eq_right (by omega)]
    · unfold gv
      by_cases q0 : j = 0
      · subst q0; rw [zup_s]; rfl
      rw [zup_n q0, if_neg q0]
      by_cases q1 : j = 1
      · subst q1; rw [zup_s]; rfl
      rw [zup_n q1, if_neg q1]
      by_cases q2 : j = 2
      · subst q2; rw [zup_s, if_pos rfl, lsB_k _ _ _ kl []]
      rw [zup_n q2, if_neg q2]
    · obtain ⟨k0, k1, k2⟩ := r3
      refine ⟨k0, ?_, ?_⟩
      · rw [sI_at, pk_un (by decide), sI_at, pk_un (by decide)]; exact k1
      · rw [sI_ne _ (by omega), sI_ne _ (by omega)]; exact k2
    · refine fH_tr r4 (fH_tr (fH_sI S1 ?_ (by omega)) (fH_sI _ ?_ (by omega)))
      · exact Or.inr ⟨Nat.le_refl _, by omega⟩
      · exact Or.inr ⟨Nat.le_refl _, by omega⟩
  | succ d ih =>
    intro i k S hi hk h hs hkp hse
    obtain ⟨k, rfl⟩ : ∃ q, k = q + 1 := ⟨k - 1, by omega⟩
    have h121 : ∀ x5 Sx, f_X8_give_121 (f_X8_give_29 a w3 6 k) a w3 6 (nI s) (nI (apr C z s)) x5 (nI i) Sx = f_X8_give_29 a w3 6 k (nI s) (nI (apr C z s)) x5 (nI (i + 1)) Sx := by
      intro x5 Sx
      unfold f_X8_give_121
      rw [le1_e, nI_1]
    obtain ⟨ha1, ha2, ha3⟩ := stH_a hs
    have hzt := hz.2.2.2.2.1 i (by omega)
    have hzk := hz.2.2.2.2.2.1 i (by omega)
    rw [f_X8_give_29, ldP_n h.1.1 h.1.2, ldI_L 1 (by decide) (by decide), h.2.1.2.1, if_neg (nI_ge (by omega) (by omega))]
    by_cases hb : s.testBit i = true
    · obtain ⟨-, t2, t3⟩ := hs.2.2.1 i (by omega)
      rw [gvP_t _ _ _ _ _ (by omega) (by omega), if_neg (by omega)] at t2
      rw [gvP_k _ _ _ _ _ (by omega) (by omega), if_neg (by omega)] at t3
      have hgi := hg i (by omega)
      rw [if_pos ((bit_at1 h64 (by omega)).mpr hb), ldI_n (by omega) (by decide), t3, ldI_n (by omega) (by decide), hse i (by omega) hb, nI_add, h_mn, ob2_s, lit_nI 999, mn_n (by decide) (by omega), stI_n (by omega) (by decide), ldI_n (by omega) (by decide), sI_ne _ (by omega), t2, nI_1, h_mn, ob2_s, lit_nI 9999, mn_n (by decide) (by omega), stI_n (by omega) (by decide), ldI_n (by omega) (by decide), sI_ne _ (by omega), sI_at, pk_us]
      have hs1 := stH_r (x := 3) (t := i) (v := min 999 (z (15 + i) + g i)) hs (Or.inr (Or.inr rfl)) (by omega)
      have hs2 := stH_r (x := 2) (t := i) (v := min 9999 (z (9 + i) + 1)) hs1 (Or.inr (Or.inl rfl)) (by omega)
      have hs3 : stH (ho_sI (ho_sI S (a + 3) i (nI (min 999 (z (15 + i) + g i)))) (a + 2) i (nI (min 9999 (z (9 + i) + 1)))) a C (gvP C z s g (i + 1)) := stH_z hC hs2 (fun j hj => by
        by_cases q1 : j = 9 + i
        · subst q1
          rw [zup_s, gvP_t _ _ _ _ _ (by omega) (by omega), if_pos ⟨by omega, hb⟩]
        · rw [zup_n q1]
          by_cases q2 : j = 15 + i
          · subst q2
            rw [zup_s, gvP_k _ _ _ _ _ (by omega) (by omega), if_pos ⟨by omega, hb⟩]
          · rw [zup_n q2]
            exact gvP_st (Or.inl ⟨q1, q2⟩))
      have f1 : fH (scA c a) S (ho_sI (ho_sI S (a + 3) i (nI (min 999 (z (15 + i) + g i)))) (a + 2) i (nI (min 9999 (z (9 + i) + 1)))) := fH_tr (fH_sI S (Or.inr ⟨by omega, by omega⟩) (by omega)) (fH_sI _ (Or.inr ⟨by omega, by omega⟩) (by omega))
      obtain ⟨S', r1, r2, r3, r4⟩ := ih (i + 1) k _ (by omega) (by omega) (cH_a h ha1 f1) hs3 (by
        obtain ⟨k0, k1, k2⟩ := hkp
        refine ⟨k0, ?_, ?_⟩
        · rw [sI_ne _ (by omega), sI_ne _ (by omega)]; exact k1
        · rw [sI_ne _ (by omega), sI_ne _ (by omega)]; exact k2) (by
        intro t ht hbt
        rw [sI_ne _ (by omega), sI_ne _ (by omega)]
        exact hse t ht hbt)
      refine ⟨S', ?_, r2, r3, fH_tr f1 r4⟩
      have eP : gvP C z s g (cT C) (15 + i) = min 999 (z (15 + i) + g i) := by rw [gvP_k _ _ _ _ _ (by omega) (by omega), if_pos ⟨by omega, hb⟩]
      by_cases e : min 999 (z (15 + i) + g i) < 100
      · rw [if_pos ((lt100 (by omega)).mpr e), h121]
        have e2 : gvT C z s g (i + 1) = gvT C z s g i := setNat_n (by rw [eP, decide_eq_false (by omega), Bool.and_false])
        rw [e2] at r1
        exact r1
      · rw [if_neg (fun q => e ((lt100 (by omega)).mp q)), le1_e, h121]
        have e2 : nI (gvT C z s g i) ||| ((1 : Int32) <<< (nI i &&& 31)) = nI (gvT C z s g (i + 1)) := setNat_s (by omega) (by rw [eP, decide_eq_true (by omega), hb]; rfl)
        rw [e2]
        exact r1
    · rw [if_neg (fun q => hb ((bit_at1 h64 (by omega)).mp q)), h121]
      have e2 : gvT C z s g (i + 1) = gvT C z s g i := setNat_n (by simp at hb; rw [hb, Bool.false_and])
      obtain ⟨S', r1, r2, r3, r4⟩ := ih (i + 1) k S (by omega) (by omega) h (stH_z hC hs (fun j hj => gvP_st (Or.inr hb))) hkp hse
      rw [e2] at r1
      exact ⟨S', r1, r2, r3, r4⟩
theorem h_give {S : Hp} {c a s w3 : Nat} {C : Cr} {z g : Nat → Nat} {kl : List Nat} (hC : okCr C) (hz : okZ C z) (h64 : s < 64) (hy : z 0 < 999) (hw3 : 50 ≤ w3 ∧ w3 < 70 ∧ w3 ≠ 53 ∧ w3 ≠ 52) (hg : ∀ t, t < cT C → g t ≤ 1000) (h : cH S c C) (hs : stH S a C z) (hkp : kpH S a kl) (hse : ∀ t, t < cT C → s.testBit t = true → S.1 w3 t = nI (g t)) :
    ∃ S', f_X8_give a (nI s) w3 6 S = some (nI (apr C z s), S') ∧ stH S' a C (gv C z s g) ∧ kpH S' a (gvK C z s g kl) ∧ fH (scA c a) S S' := by
  obtain ⟨ha1, ha2, ha3⟩ := stH_a hs
  have hnt := hC.1.2.1
  have hnw := hC.1.2.2
  obtain ⟨S1, r1, r2, r3⟩ := h_tk (s := s) hC hz h hs h64
  have f1 : fH (scA c a) S S1 := fH_mo r3 (fun b q => Or.inl (Or.inr (by omega)))
  have f2 : fH (scA c a) S (ho_sA S1 (a + 1) (fun p => if p < 6 then S1.1 52 p else S1.1 (a + 1) p)) := fH_tr f1 (fH_sA S1 (Or.inr ⟨by omega, by omega⟩) (by omega))
  have hs1 : stH S1 a C z := stH_f hs r3 (fun b q => by omega)
  have hs2 : stH (ho_sA S1 (a + 1) (fun p => if p < 6 then S1.1 52 p else S1.1 (a + 1) p)) a C (gvP C z s g 0) := by
    obtain ⟨s0, s1, s2, s3⟩ := hs1
    refine ⟨s0, ?_, fun p hp => ?_, fun w hw => ?_⟩
    · rw [sA_ne _ _ (by omega), gvP_a _ _ _ _ _ (by omega) (by omega), gvP_a _ _ _ _ _ (by omega) (by omega), gvP_a _ _ _ _ _ (by omega) (by omega)]; exact s1
    · rw [sA_at, sA_ne _ _ (by omega), sA_ne _ _ (by omega), gvP_s _ _ _ _ _ hp, gvP_t _ _ _ _ _ hp (by omega), gvP_k _ _ _ _ _ hp (by omega), if_pos hp, if_neg (by omega), if_neg (by omega)]
      exact ⟨r2 p hp, (s2 p hp).2⟩
    · rw [sA_ne _ _ (by omega), gvP_a _ _ _ _ _ (by omega) (by omega)]; exact s3 w hw
  obtain ⟨S', q1, q2, q3, q4⟩ := h_give_loop (c := c) (a := a) (w3 := w3) (kl := kl) hC hz h64 hy ⟨hw3.1, hw3.2.1, hw3.2.2.1⟩ hg (cT C) 0 5000 _ (by omega) (by omega) (cH_a h ha1 f2) hs2 (by
    obtain ⟨k0, k1, k2⟩ := hkp
    refine ⟨k0, ?_, ?_⟩
    · rw [sA_ne _ _ (by omega), r3.1 a (by omega)]; exact k1
    · rw [sA_ne _ _ (by omega), r3.1 (a + 5) (by omega)]; exact k2) (by
    intro t ht hbt
    rw [sA_ne _ _ (by omega), r3.1 w3 (by omega)]
    exact hse t ht hbt)
  refine ⟨S', ?_, q2, q3, fH_tr f2 q4⟩
  unfold f_X8_give
  rw [r1, ob2_s, lit_nI 6, cpI_0 (by decide) (by decide) (by decide)]
  exact q1

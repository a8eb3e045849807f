/-! level 2: the class: belief lost, debt, a show given, a year -/
/-- belief and rows kept, by the tricks below a number that are seen through -/
def lsB (C : Cr) (z : Nat → Nat) (s : Nat) (kl : List Nat) : Nat → Nat × List Nat
  | 0 => (z 2, kl)
  | t + 1 => if s.testBit t then ((lsB C z s kl t).1 - (vl (fct C (zup z 2 (lsB C z s kl t).1) t 0 0) (cL C)).toNat, kpush (lsB C z s kl t).2 (z 0) t ((lsB C z s kl t).1 - (vl (fct C (zup z 2 (lsB C z s kl t).1) t 0 0) (cL C)).toNat)) else lsB C z s kl t
theorem lsB_le (C : Cr) (z : Nat → Nat) (s : Nat) (kl : List Nat) : ∀ n, (lsB C z s kl n).1 ≤ z 2
  | 0 => Nat.le_refl _
  | n + 1 => by
    have := lsB_le C z s kl n
    rw [lsB]
    split
    · exact Nat.le_trans (Nat.sub_le _ _) this
    · exact this
theorem lsB_k (C : Cr) (z : Nat → Nat) (s : Nat) (kl kl' : List Nat) : ∀ n, (lsB C z s kl n).1 = (lsB C z s kl' n).1
  | 0 => rfl
  | n + 1 => by
    have := lsB_k C z s kl kl' n
    rw [lsB, lsB, this]
    split
    · rfl
    · exact this
theorem lsB_O (C : Cr) (z : Nat → Nat) (s : Nat) {kl : List Nat} (h : kpO kl) : ∀ n, kpO (lsB C z s kl n).2
  | 0 => h
  | n + 1 => by
    have := lsB_O C z s h n
    rw [lsB]
    split
    · exact kpush_O this
    · exact this
def scA (c a b : Nat) : Prop := scS c b ∨ (a ≤ b ∧ b ≤ a + 5)
theorem scA_c {c a b : Nat} (hc : c = 100 ∨ c = 150) (ha : 1000 ≤ a) (h : scA c a b) : ¬ crC c b := by
  unfold scA scS scE at h
  unfold crC
  omega
theorem cH_a {S S' : Hp} {c a : Nat} {C : Cr} (h : cH S c C) (ha : 1000 ≤ a) (hf : fH (scA c a) S S') : cH S' c C := cH_f h hf (fun _ q => scA_c (cH_c h) ha q)
theorem kpH_f {P : Nat → Prop} {S S' : Hp} {a : Nat} {kl : List Nat} (h : kpH S a kl) (hf : fH P S S') (h1 : ¬ P a) (h2 : ¬ P (a + 5)) : kpH S' a kl := by
  obtain ⟨k0, k1, k2⟩ := h
  refine ⟨k0, ?_, ?_⟩
  · rw [hf.1 a h1]; exact k1
  · rw [hf.1 (a + 5) h2]; exact k2
theorem h_mx0 {a b : Nat} (ha : a < 2 ^ 30) (hb : b < 2 ^ 30) (S : Hp) : f_J9_max_7cf53 (0 : Int32) (nI a - nI b) S = some (nI (a - b), S) := by
  have ht : (nI a - nI b).toInt = (a : Int) - b := pk_sub_toInt ha hb
  have z0 : (0 : Int32).toInt = 0 := by decide
  unfold f_J9_max_7cf53
  by_cases e : b < a
  · rw [if_pos (by rw [Int32.lt_iff_toInt_lt, ht, z0]; omega), pk_sub (by omega)]
  · rw [if_neg (by rw [Int32.lt_iff_toInt_lt, ht, z0]; omega), show a - b = 0 by omega]
    rfl
theorem h_mxv {v : Int} (hv : inM v) (S : Hp) : f_J9_max_7cf53 (0 : Int32) (iI v) S = some (nI v.toNat, S) := by
  have ht := iI_t hv
  have z0 : (0 : Int32).toInt = 0 := by decide
  unfold f_J9_max_7cf53
  by_cases e : 0 < v
  · rw [if_pos (by rw [Int32.lt_iff_toInt_lt, ht, z0]; exact e)]
    obtain ⟨n, rfl⟩ : ∃ n : Nat, v = n := ⟨v.toNat, by omega⟩
    rw [iI_nI]
    rfl
  · rw [if_neg (by rw [Int32.lt_iff_toInt_lt, ht, z0]; exact e), show v.toNat = 0 by omega]
    rfl
theorem h_lose_loop {c a s : Nat} {C : Cr} {z : Nat → Nat} {kl : List Nat} (hC : okCr C) (hz : okZ C z) (h64 : s < 64) (hkl : kpO kl) : ∀ (d i k : Nat) (S : Hp), i + d = cT C → d < k → cH S c C → stH S a C (zup z 2 (lsB C z s kl i).1) → kpH S a (lsB C z s kl i).2 →
    ∃ S', f_X8_loseBelief_2 a k (nI s) (nI i) S = some S' ∧ stH S' a C (zup z 2 (lsB C z s kl (cT C)).1) ∧ kpH S' a (lsB C z s kl (cT C)).2 ∧ fH (scA c a) S S' := by
  have hnt := hC.1.2.1
  intro d
  induction d with
  | zero =>
    intro i k S hi hk h hs hkp
    obtain ⟨k, rfl⟩ : ∃ q, k = q + 1 := ⟨k - 1, by omega⟩
    have e : i = cT C := by omega
    subst e
    refine ⟨S, ?_, hs, hkp, fH_rf _ S⟩
    rw [f_X8_loseBelief_2, ldP_n h.1.1 h.1.2, ldI_L 1 (by decide) (by decide), h.2.1.2.1, if_pos (nI_le (by omega) (by omega))]
  | succ d ih =>
    intro i k S hi hk h hs hkp
    obtain ⟨k, rfl⟩ : ∃ q, k = q + 1 := ⟨k - 1, by omega⟩
    have h131 : ∀ Sx, f_X8_loseBelief_131 (f_X8_loseBelief_2 a k) a (nI s) (nI i) Sx = f_X8_loseBelief_2 a k (nI s) (nI (i + 1)) Sx := by
      intro Sx
      unfold f_X8_loseBelief_131
      rw [le1_e, nI_1]
    obtain ⟨ha1, ha2, ha3⟩ := stH_a hs
    rw [f_X8_loseBelief_2, ldP_n h.1.1 h.1.2, ldI_L 1 (by decide) (by decide), h.2.1.2.1, if_neg (nI_ge (by omega) (by omega))]
    by_cases hb : s.testBit i = true
    · have hcc := cH_c h
      have h' := h
      obtain ⟨⟨h0, h0'⟩, h1, h2, h3, h4, h5, h6, h7, h8⟩ := h'
      have hs' := hs
      obtain ⟨s0, s1, s2, s3⟩ := hs'
      obtain ⟨t1, t2, t3⟩ := h4 i (by omega)
      have hti := s2 i (by omega)
      have ec : ∀ (x : Nat) (g : Nat → Int32), (ho_sA S 53 g).1 (c + x) = S.1 (c + x) := fun x g => sA_ne _ _ (by omega)
      have ea : ∀ (x : Nat) (g : Nat → Int32), (ho_sA S 53 g).1 (a + x) = S.1 (a + x) := fun x g => sA_ne _ _ (by omega)
      have ea0 : ∀ (g : Nat → Int32), (ho_sA S 53 g).1 a = S.1 a := fun g => sA_ne _ _ (by omega)
      have hp : ∀ g, (ho_sA S 53 g).2.2 50 0 = c := fun g => h0
      have hC' := hC
      obtain ⟨c1, c2, c3, c4, c5, c6, c7⟩ := hC'
      obtain ⟨k1, k2, k3⟩ := c4 i (by omega)
      have hz' := hz
      obtain ⟨z0, z1, z2, z3, z4, z5, z6, -⟩ := hz'
      have z4t := z4 i (by omega)
      have hle := lsB_le C z s kl i
      generalize hB : (lsB C z s kl i).1 = B at *
      rw [zup_n (j := 9 + i) (by omega)] at hti
      rw [zup_n (j := 0) (by omega), zup_s] at s1
      rw [if_pos ((bit_at1 h64 (by omega)).mpr hb), ldP_n h0 h0', ldI_n (by omega) (by decide), t3, stI_L 8 (by decide) (by decide), sI_sI, ldI_n (by omega) (by decide), ea, hti.2.1, stI_L 16 (by decide) (by decide), sI_sA, stI_L 17 (by decide) (by decide), ea0, s1.1, sI_sA, ldP_n (hp _) h0', ldI_n (by omega) (by decide), ec, t1, stI_L 6 (by decide) (by decide), sI_sA, stI_L 14 (by decide) (by decide), ea0, s1.2.2, sI_sA, ldP_n (hp _) h0']
      have hg : ∀ j, j < 40 → inM (upd (upd (upd (upd (upd (S.1 53) 8 (nI (cR C 4 i))) 16 (nI (z (9 + i)))) 17 (nI (z 0))) 6 (nI (cR C 2 i))) 14 (nI B) j).toInt := fcG_u (fcG_u (fcG_u (fcG_u (fcG_u h8 (inM_n (by omega))) (inM_n (by omega))) (inM_n (by omega))) (inM_n (by omega))) (inM_n (by omega))
      obtain ⟨g', r1, r2⟩ := h_sum (w := 1) (pf' := fct C (zup z 2 B) i 0 0) hcc (Or.inr rfl) h7 c7 hg (by
        intro k hk
        have hk5 : k = 0 ∨ k = 1 ∨ k = 2 ∨ k = 5 ∨ k = 6 := by omega
        unfold fct
        rcases hk5 with rfl | rfl | rfl | rfl | rfl
        · exact nI_toInt (n := cR C 4 i) (by omega)
        · rw [zup_n (by omega)]; exact nI_toInt (n := z (9 + i)) (by omega)
        · rw [zup_n (by omega)]; exact nI_toInt (n := z 0) (by omega)
        · exact nI_toInt (n := cR C 2 i) (by omega)
        · rw [zup_s]; exact nI_toInt (n := B) (by omega))
      generalize hGe : upd (upd (upd (upd (upd (S.1 53) 8 (nI (cR C 4 i))) 16 (nI (z (9 + i)))) 17 (nI (z 0))) 6 (nI (cR C 2 i))) 14 (nI B) = G at hg r1 ⊢
      generalize hV : vl (fct C (zup z 2 B) i 0 0) (cL C) = V at *
      have hVn : V.toNat ≤ 1000000 := by have := r2.2; omega
      rw [r1, ob2_s, h_mxv r2, ob2_s, sA_ne _ _ (by omega), ea0, s1.2.2, h_mx0 (by omega) (by omega), ob2_s, le1_e]
      have fA : fH (scA c a) S (ho_sI (ho_sA (ho_sA S 53 G) (c + 16 + 2) g') a 2 (nI (B - V.toNat))) := by
        refine ⟨fun b hb => ?_, rfl, fun _ j hj => ?_⟩
        · unfold scA scS scE at hb
          rw [sI_ne _ (by omega), sA_ne _ _ (by omega), sA_ne _ _ (by omega)]
        · rw [sI_ne _ (by omega), sA_ne _ _ (by omega), sA_at]
          exact hg j hj
      have fE : fH (scE c) S (ho_sA (ho_sA S 53 G) (c + 16 + 2) g') := by
        refine ⟨fun b hb => ?_, rfl, fun _ j hj => ?_⟩
        · unfold scE at hb
          rw [sA_ne _ _ (by omega), sA_ne _ _ (by omega)]
        · rw [sA_ne _ _ (by omega), sA_at]
          exact hg j hj
      have hs2 := stH_f0 (k := 2) (v := B - V.toNat) (stH_e h hs fE) (by decide)
      have hk2 : kpH (ho_sI (ho_sA (ho_sA S 53 G) (c + 16 + 2) g') a 2 (nI (B - V.toNat))) a (lsB C z s kl i).2 := by
        obtain ⟨q0, q1, q2⟩ := hkp
        refine ⟨q0, ?_, ?_⟩
        · rw [sI_at, pk_un (by decide), fE.1 a (by unfold scE; omega)]; exact q1
        · rw [sI_ne _ (by omega), fE.1 (a + 5) (by unfold scE; omega)]; exact q2
      have hs3 : stH (ho_sI (ho_sA (ho_sA S 53 G) (c + 16 + 2) g') a 2 (nI (B - V.toNat))) a C (zup z 2 (B - V.toNat)) := stH_z hC hs2 (fun j _ => by
        by_cases e : j = 2
        · subst e; rw [zup_s, zup_s]
        · rw [zup_n e, zup_n e, zup_n e])
      obtain ⟨S3, r3, r4, r5, r6⟩ := h_keep (t := i) hs3 hk2
      rw [zup_n (j := 0) (by omega), zup_s] at r4
      have f3 : fH (scA c a) S S3 := fH_tr fA (fH_mo r6 (fun b q => Or.inr (by omega)))
      have eL : lsB C z s kl (i + 1) = (B - V.toNat, kpush (lsB C z s kl i).2 (z 0) i (B - V.toNat)) := by
        rw [lsB, if_pos hb, hB, hV]
      obtain ⟨S4, r7, r8, r9, r10⟩ := ih (i + 1) k S3 (by omega) (by omega) (cH_a h ha1 f3) (by rw [eL]; exact r5) (by rw [eL]; exact r4)
      refine ⟨S4, ?_, r8, r9, fH_tr f3 r10⟩
      rw [r3, ob_s, h131]
      exact r7
    · rw [if_neg (fun q => hb ((bit_at1 h64 (by omega)).mp q)), h131]
      have eL : lsB C z s kl (i + 1) = lsB C z s kl i := by rw [lsB, if_neg hb]
      obtain ⟨S4, r7, r8, r9, r10⟩ := ih (i + 1) k S (by omega) (by omega) h (by rw [eL]; exact hs) (by rw [eL]; exact hkp)
      exact ⟨S4, r7, r8, r9, r10⟩
/-- debt behind a year -/
def pyD (C : Cr) (d ap : Nat) : Nat := min 99999 (d + cR C 0 0 - ap + (d + cR C 0 0 - ap) * cR C 0 1 / 100)
theorem h_pay {S : Hp} {c a ap : Nat} {C : Cr} {z : Nat → Nat} (hC : okCr C) (hd : z 1 ≤ 99999) (h : cH S c C) (hs : stH S a C z) (hap : ap ≤ 5994) : f_X8_pay a (nI ap) S = some (ho_sI S a 1 (nI (pyD C (z 1) ap))) := by
  obtain ⟨c0, c1, c2⟩ := hC.2.1
  unfold f_X8_pay pyD
  rw [ldP_n h.1.1 h.1.2, hs.2.1.2.1, h.2.2.1.1, nI_add, h_mx0 (by omega) (by omega), ob2_s, ldP_n h.1.1 h.1.2, h.2.2.1.2.1, pk_mul]
  generalize hX : z 1 + cR C 0 0 - ap = X
  have hX2 : X ≤ 109998 := by omega
  have hY : X * cR C 0 1 ≤ 109998 * 99 := Nat.mul_le_mul hX2 c1
  have e1 : nI (X * cR C 0 1) / (100 : Int32) = nI (X * cR C 0 1 / 100) := pk_div (d := 100) (by omega) (by decide) (by decide)
  have hW : X * cR C 0 1 / 100 ≤ 109998 * 99 / 100 := Nat.div_le_div_right hY
  rw [e1, nI_add, h_mn, ob2_s, lit_nI 99999, mn_n (by decide) (by omega), le1_e]

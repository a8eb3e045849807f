/-! level 2: the reference: a show given, a year gone by -/
theorem m_g15 {np : Nat} {x : Int32} (hnp : np ≤ 6) : ∀ (d i k : Nat) (S : Hp), i + d = np → d < k → S.1 41 3 = nI np → f_X12_showGoes_15 k x (nI i) S = f_X12_showGoes_45 5000 x (0 : Int32) (ho_sA S 55 (fun j => if 3 + i ≤ j ∧ j < 3 + np then S.1 60 (j - 3) else S.1 55 j)) := by
  intro d
  induction d with
  | zero =>
    intro i k S hi hk hn
    obtain ⟨k, rfl⟩ : ∃ q, k = q + 1 := ⟨k - 1, by omega⟩
    have e : (fun j => if 3 + i ≤ j ∧ j < 3 + np then S.1 60 (j - 3) else S.1 55 j) = S.1 55 := by
      funext j
      rw [if_neg (by omega)]
    rw [f_X12_showGoes_15, m_pm, ob2_s, hn, if_pos (nI_le (by omega) (by omega)), e, sA_self]
  | succ d ih =>
    intro i k S hi hk hn
    obtain ⟨k, rfl⟩ : ∃ q, k = q + 1 := ⟨k - 1, by omega⟩
    rw [f_X12_showGoes_15, m_pm, ob2_s, hn, if_neg (nI_ge (by omega) (by omega)), ldI_n (by omega) (by decide), lit_nI 3, nI_add, stI_n (by omega) (by decide), le1_e, nI_1, ih (i + 1) k _ (by omega) (by omega) (by rw [sI_ne _ (by decide)]; exact hn), sI_sI, sA_A, sA_at, sA_ne _ _ (by decide)]
    congr 2
    funext j
    by_cases e1 : j = 3 + i
    · subst e1
      rw [if_neg (by omega), if_pos (by omega), pk_us, show 3 + i - 3 = i by omega]
    · rw [pk_un e1]
      by_cases e2 : 3 + (i + 1) ≤ j ∧ j < 3 + np
      · rw [if_pos e2, if_pos (by omega)]
      · rw [if_neg e2, if_neg (by omega)]
def mZw (z : Nat → Nat) (i : Nat) : Nat → Int32 := fun j => nI (zup z i 0 j)
theorem mZ_u {S : Hp} {C : Cr} {z : Nat → Nat} {i v : Nat} (h : mZ S C z) (hi : i < 21) : mZ (ho_sI S 55 i (nI v)) C (zup z i v) := by
  refine ⟨fun k hk => ?_, fun w hw => ?_⟩
  · by_cases e : k = i
    · subst e; rw [sI_v, zup_s]
    · rw [sI_k e, zup_n e]; exact h.1 k hk
  · rw [sI_k (by omega), zup_n (by omega)]; exact h.2 w hw
theorem mZ_z {S : Hp} {C : Cr} {z z' : Nat → Nat} (hC : okCr C) (h : mZ S C z) (e : ∀ i, i < 26 → z i = z' i) : mZ S C z' := by
  have hnw := hC.1.2.2
  exact ⟨fun k hk => by rw [← e k (by omega)]; exact h.1 k hk, fun w hw => by rw [← e _ (by omega)]; exact h.2 w hw⟩
theorem m_g45 {C : Cr} {z g : Nat → Nat} {s : Nat} (hC : okCr C) (hz : okZ C z) (h64 : s < 64) (hg : ∀ t, t < cT C → g t ≤ 1000) : ∀ (d i k : Nat) (S : Hp), i + d = cT C → d < k → mC S C → mZ S C (gvP C z s g i) → (∀ t, t < cT C → S.1 61 t = nI (g t)) →
    ∃ S', f_X12_showGoes_45 k (nI s) (nI i) S = f_X12_showGoes_136 5000 (nI s) (0 : Int32) S' ∧ mZ S' C (gvP C z s g (cT C)) ∧ fN (fun b k => b = 55 ∧ k < 26) S S' := by
  have hnt := hC.1.2.1
  intro d
  induction d with
  | zero =>
    intro i k S hi hk h hs hse
    obtain ⟨k, rfl⟩ : ∃ q, k = q + 1 := ⟨k - 1, by omega⟩
    refine ⟨S, ?_, by rw [← show i = cT C by omega]; exact hs, fN_rf _ S⟩
    rw [f_X12_showGoes_45, m_tm, ob2_s, h.1.2.1, if_pos (nI_le (by omega) (by omega))]
  | succ d ih =>
    intro i k S hi hk h hs hse
    obtain ⟨k, rfl⟩ : ∃ q, k = q + 1 := ⟨k - 1, by omega⟩
    have h128 : ∀ Sx, f_X12_showGoes_128 (f_X12_showGoes_45 k) (nI s) (nI i) Sx = f_X12_showGoes_45 k (nI s) (nI (i + 1)) Sx := by
      intro Sx
      unfold f_X12_showGoes_128
      rw [le1_e, nI_1]
    have hzt := hz.2.2.2.2.1 i (by omega)
    have hzk := hz.2.2.2.2.2.1 i (by omega)
    have hgi := hg i (by omega)
    rw [f_X12_showGoes_45, m_tm, ob2_s, h.1.2.1, if_neg (nI_ge (by omega) (by omega)), bit_at s h64 i (by omega)]
    by_cases hb : s.testBit i = true
    · have t2 := hs.1 (9 + i) (by omega)
      have t3 := hs.1 (15 + i) (by omega)
      rw [gvP_t _ _ _ _ _ (by omega) (by omega), if_neg (by omega)] at t2
      rw [gvP_k _ _ _ _ _ (by omega) (by omega), if_neg (by omega)] at t3
      rw [if_pos hb, if_neg ne1, m_known (by omega), ob2_s, t3, ldI_n (by omega) (by decide), hse i (by omega), le1_e, nI_add, lit_nI 15, nI_add]
      have hc : ∀ (x : Nat), (if nI x ≤ (999 : Int32) then f_X12_showGoes_99 (f_X12_showGoes_45 k) (nI s) (nI i) (nI (15 + i)) (nI x) S else f_X12_showGoes_99 (f_X12_showGoes_45 k) (nI s) (nI i) (nI (15 + i)) (999 : Int32) S) = if nI x ≤ (999 : Int32) then f_X12_showGoes_99 (f_X12_showGoes_45 k) (nI s) (nI i) (nI (15 + i)) (nI x) S else f_X12_showGoes_99 (f_X12_showGoes_45 k) (nI s) (nI i) (nI (15 + i)) (nI 999) S := fun _ => rfl
      have h99 : (if nI (z (15 + i) + g i) ≤ (999 : Int32) then f_X12_showGoes_99 (f_X12_showGoes_45 k) (nI s) (nI i) (nI (15 + i)) (nI (z (15 + i) + g i)) S else f_X12_showGoes_99 (f_X12_showGoes_45 k) (nI s) (nI i) (nI (15 + i)) (999 : Int32) S) = f_X12_showGoes_99 (f_X12_showGoes_45 k) (nI s) (nI i) (nI (15 + i)) (nI (min 999 (z (15 + i) + g i))) S := by
        by_cases e : z (15 + i) + g i ≤ 999
        · rw [if_pos ((leL 999 (by omega) (by decide)).mpr e), Nat.min_eq_right e]
        · rw [if_neg (fun q => e ((leL 999 (by omega) (by decide)).mp q)), Nat.min_eq_left (by omega)]
          rfl
      rw [h99]
      unfold f_X12_showGoes_99
      rw [stI_n (by omega) (by decide), lit_nI 9, nI_add, ldI_n (by omega) (by decide), sI_k (by omega), t2]
      have hs1 := mZ_u (i := 15 + i) (v := min 999 (z (15 + i) + g i)) hs (by omega)
      have f1 : fN (fun b k => b = 55 ∧ k < 26) S (ho_sI S 55 (15 + i) (nI (min 999 (z (15 + i) + g i)))) := fN_sI S ⟨rfl, by omega⟩
      have hcl : ∀ b k : Nat, (b = 55 ∧ k < 26) → ¬ crM b := fun b k q => by unfold crM; omega
      by_cases e : 9999 ≤ z (9 + i)
      · rw [if_pos ((geL 9999 (by omega) (by decide)).mpr e), h128]
        have hs3 : mZ (ho_sI S 55 (15 + i) (nI (min 999 (z (15 + i) + g i)))) C (gvP C z s g (i + 1)) := mZ_z hC hs1 (fun j hj => by
          by_cases q2 : j = 15 + i
          · subst q2
            rw [zup_s, gvP_k _ _ _ _ _ (by omega) (by omega), if_pos ⟨by omega, hb⟩]
          · rw [zup_n q2]
            by_cases q1 : j = 9 + i
            · subst q1
              rw [gvP_t _ _ _ _ _ (by omega) (by omega), gvP_t _ _ _ _ _ (by omega) (by omega), if_neg (by omega), if_pos ⟨by omega, hb⟩]
              omega
            · exact gvP_st (Or.inl ⟨q1, q2⟩))
        obtain ⟨S', r1, r2, r3⟩ := ih (i + 1) k _ (by omega) (by omega) (mC_f h f1 hcl) hs3 (fun t ht => by rw [sI_ne _ (by decide)]; exact hse t ht)
        exact ⟨S', r1, r2, fN_tr f1 r3⟩
      · rw [if_neg (fun q => e ((geL 9999 (by omega) (by decide)).mp q)), ldI_n (by omega) (by decide), sI_k (by omega), t2, nI_1, stI_n (by omega) (by decide), h128]
        have hs2 := mZ_u (i := 9 + i) (v := z (9 + i) + 1) hs1 (by omega)
        have f2 := fN_tr f1 (fN_sI (P := fun b k => b = 55 ∧ k < 26) (ho_sI S 55 (15 + i) (nI (min 999 (z (15 + i) + g i)))) (a := 55) (k := 9 + i) (v := nI (z (9 + i) + 1)) ⟨rfl, by omega⟩)
        have hs3 := mZ_z (z' := gvP C z s g (i + 1)) hC hs2 (fun j hj => by
          by_cases q1 : j = 9 + i
          · subst q1
            rw [zup_s, gvP_t _ _ _ _ _ (by omega) (by omega), if_pos ⟨by omega, hb⟩]
            omega
          · rw [zup_n q1]
            by_cases q2 : j = 15 + i
            · subst q2
              rw [zup_s, gvP_k _ _ _ _ _ (by omega) (by omega), if_pos ⟨by omega, hb⟩]
            · rw [zup_n q2]
              exact gvP_st (Or.inl ⟨q1, q2⟩))
        obtain ⟨S', r1, r2, r3⟩ := ih (i + 1) k _ (by omega) (by omega) (mC_f h f2 hcl) hs3 (fun t ht => by rw [sI_ne _ (by decide), sI_ne _ (by decide)]; exact hse t ht)
        exact ⟨S', r1, r2, fN_tr f2 r3⟩
    · rw [if_neg hb, if_pos rfl, h128]
      exact ih (i + 1) k S (by omega) (by omega) h (mZ_z hC hs (fun j hj => gvP_st (Or.inr hb))) hse
theorem m_g136 {C : Cr} {Z : Nat → Nat} {s m th : Nat} {kl : List Nat} (hC : okCr C) (hZ : okZ C Z) (h64 : s < 64) (hm : ∀ t, t < cT C → m.testBit t = (s.testBit t && decide (100 ≤ Z (15 + t)))) (hkl : kpO kl) : ∀ (d i k : Nat) (S : Hp), i + d = cT C → d < k → mC S C → S.1 0 62 = nI th → mZ S C (zup Z 2 (lsB C Z m kl i).1) → mK S (kpT S kl (lsB C Z m kl i).2) →
    ∃ S', f_X12_showGoes_136 k (nI s) (nI i) S = some S' ∧ mZ S' C (zup Z 2 (lsB C Z m kl (cT C)).1) ∧ mK S' (kpT S kl (lsB C Z m kl (cT C)).2) ∧ fN thP S S' := by
  have hnt := hC.1.2.1
  intro d
  induction d with
  | zero =>
    intro i k S hi hk h hth hs hkp
    obtain ⟨k, rfl⟩ : ∃ q, k = q + 1 := ⟨k - 1, by omega⟩
    refine ⟨S, ?_, by rw [← show i = cT C by omega]; exact hs, by rw [← show i = cT C by omega]; exact hkp, fN_rf _ S⟩
    rw [f_X12_showGoes_136, m_tm, ob2_s, h.1.2.1, if_pos (nI_le (by omega) (by omega))]
  | succ d ih =>
    intro i k S hi hk h hth hs hkp
    obtain ⟨k, rfl⟩ : ∃ q, k = q + 1 := ⟨k - 1, by omega⟩
    have h168 : ∀ Sx, f_X12_showGoes_168 (f_X12_showGoes_136 k) (nI s) (nI i) Sx = f_X12_showGoes_136 k (nI s) (nI (i + 1)) Sx := by
      intro Sx
      unfold f_X12_showGoes_168
      rw [le1_e, nI_1]
    have hzk := hZ.2.2.2.2.2.1 i (by omega)
    have hmi := hm i (by omega)
    have hle := lsB_le C Z m kl i
    have hZ2 : okZ C (zup Z 2 (lsB C Z m kl i).1) := by
      obtain ⟨a0, a1, a2, a3, a4, a5, a6, a7, a8⟩ := hZ
      refine ⟨by rw [zup_n (by decide)]; exact a0, by rw [zup_n (by decide)]; exact a1, by rw [zup_s]; omega, fun p hp => by rw [zup_n (by omega)]; exact a3 p hp, fun p hp => by rw [zup_n (by omega)]; exact a4 p hp, fun p hp => by rw [zup_n (by omega)]; exact a5 p hp, fun p hp => by rw [zup_n (by omega)]; exact a6 p hp, fun p hp hp2 => by rw [zup_n (by omega)]; exact a7 p hp hp2, fun p hp hp2 => by rw [zup_n (by omega), zup_n (by omega)]; exact a8 p hp hp2⟩
    rw [f_X12_showGoes_136, m_tm, ob2_s, h.1.2.1, if_neg (nI_ge (by omega) (by omega))]
    by_cases hb : s.testBit i = true
    · rw [if_pos ((bit_at1 h64 (by omega)).mpr hb), m_known (by omega), ob2_s, hs.1 (15 + i) (by omega), zup_n (by omega)]
      by_cases e : Z (15 + i) < 100
      · rw [if_pos ((lt100 (by omega)).mpr e), h168]
        have e2 : ¬ m.testBit i = true := by rw [hmi, decide_eq_false (by omega)]; simp
        have eL : lsB C Z m kl (i + 1) = lsB C Z m kl i := by rw [lsB, if_neg e2]
        exact ih (i + 1) k S (by omega) (by omega) h hth (by rw [eL]; exact hs) (by rw [eL]; exact hkp)
      · rw [if_neg (fun q => e ((lt100 (by omega)).mp q))]
        have e2 : m.testBit i = true := by rw [hmi, decide_eq_true (by omega), hb]; rfl
        obtain ⟨S1, r1, r2, r3, r4⟩ := m_thru (t := i) hC hZ2 h hs hkp (by omega)
        have e62 : S1.1 0 62 = S.1 0 62 := r4.1 0 62 (by unfold thP eP; omega)
        rw [r1, ob_s, h168]
        have eL : (lsB C Z m kl (i + 1)).1 = (zup Z 2 (lsB C Z m kl i).1) 2 - los C (zup Z 2 (lsB C Z m kl i).1) i := by
          rw [lsB, if_pos e2, zup_s]
          rfl
        have eK : (lsB C Z m kl (i + 1)).2 = kpush (lsB C Z m kl i).2 ((zup Z 2 (lsB C Z m kl i).1) 0) i ((zup Z 2 (lsB C Z m kl i).1) 2 - los C (zup Z 2 (lsB C Z m kl i).1) i) := by
          rw [lsB, if_pos e2, zup_s, zup_n (by decide)]
          rfl
        obtain ⟨S2, q1, q2, q3, q4⟩ := ih (i + 1) k S1 (by omega) (by omega) (mC_f h r4 (fun _ _ q => th_c q)) (e62.trans hth) (by
          refine mZ_z hC r2 (fun j hj => ?_)
          rw [eL]
          by_cases q : j = 2
          · subst q; rw [zup_s, zup_s, zup_s]
          · rw [zup_n q, zup_n q, zup_n q]) (by
          unfold kpT at r3 ⊢
          rw [e62]
          by_cases q : S.1 0 62 = 0
          · rw [if_pos q] at r3 ⊢
            rw [if_pos q] at r3
            rw [eK]
            exact r3
          · rw [if_neg q] at r3 ⊢
            rw [if_neg q] at r3
            exact r3)
        refine ⟨S2, q1, q2, ?_, fN_tr r4 q4⟩
        unfold kpT at q3 ⊢
        rw [e62] at q3
        exact q3
    · rw [if_neg (fun q => hb ((bit_at1 h64 (by omega)).mp q)), h168]
      have e2 : ¬ m.testBit i = true := by rw [hmi]; simp at hb; rw [hb]; simp
      have eL : lsB C Z m kl (i + 1) = lsB C Z m kl i := by rw [lsB, if_neg e2]
      exact ih (i + 1) k S (by omega) (by omega) h hth (by rw [eL]; exact hs) (by rw [eL]; exact hkp)
def goP (b k : Nat) : Prop := eP b k ∨ (b = 0 ∧ (k = 63 ∨ k = 64)) ∨ b = 55 ∨ b = 60 ∨ b = 61
theorem go_c {b k : Nat} (h : goP b k) : ¬ crM b := by unfold goP eP at h; unfold crM; omega
theorem m_goes {S : Hp} {C : Cr} {z : Nat → Nat} {s th : Nat} {kl : List Nat} (hC : okCr C) (hz : okZ C z) (h64 : s < 64) (h : mC S C) (hs : mZ S C z) (hk : mK S kl) (hth : S.1 0 62 = nI th) :
    ∃ S', f_X12_showGoes (nI s) S = some S' ∧ mZ S' C (zup (gvP C z s (sgT C z) (cT C)) 2 (gv C z s (sgT C z) 2)) ∧ mK S' (kpT S kl (gvK C z s (sgT C z) kl)) ∧ S'.1 0 64 = nI (apr C z s) ∧ fN goP S S' ∧ S'.1 0 63 = S.1 0 63 := by
  have hnp := hC.1.1
  have hnt := hC.1.2.1
  have hnw := hC.1.2.2
  obtain ⟨S1, r1, r2, r3⟩ := m_lay hC hz h hs
  have h1 : mC S1 C := mC_f h r3 (fun _ _ q => ly_c q)
  have s1 : mZ S1 C z := mZ_f hs r3 (fun _ _ q => ly_5 q)
  obtain ⟨S2, p1, p2, p3⟩ := m_apr (s := s) hC hz h1 s1 h64
  have f2 : fN goP S S2 := fN_tr (fN_mo r3 (fun b k q => by unfold lyP eP at q; unfold goP eP; omega)) (fN_mo p3 (fun b k q => by unfold goP; omega))
  have f3 : fN goP S (ho_sI S2 0 64 (nI (apr C z s))) := fN_tr f2 (fN_sI S2 (by unfold goP; omega))
  have z3 : mZ (ho_sI S2 0 64 (nI (apr C z s))) C z := ⟨fun k hk => by rw [sI_ne _ (by decide), p3.1 55 k (by first | decide | (dsimp only; omega) | omega)]; exact s1.1 k hk, fun k hk => by rw [sI_ne _ (by decide), p3.1 55 _ (by first | decide | (dsimp only; omega) | omega)]; exact s1.2 k hk⟩
  have k3 : mK (ho_sI S2 0 64 (nI (apr C z s))) kl := by
    refine ⟨hk.1, ?_, fun j hj => ?_⟩
    · rw [sI_ne _ (by decide), p3.1 55 26 (by decide), r3.1 55 26 (by unfold lyP eP; omega)]; exact hk.2.1
    · rw [sI_ne _ (by decide), p3.1 55 _ (by first | decide | (dsimp only; omega) | omega), r3.1 55 _ (by unfold lyP eP; omega)]; exact hk.2.2 j hj
  generalize hS3 : ho_sI S2 0 64 (nI (apr C z s)) = S3 at f3 z3 k3
  have h3 : mC S3 C := mC_f h f3 (fun _ _ q => go_c q)
  have h15 := m_g15 (x := nI s) hnp (cP C) 0 5000 S3 (by omega) (by omega) h3.1.1
  have f4 : fN (fun b k => b = 55 ∧ k < 26) S3 (ho_sA S3 55 (fun j => if 3 + 0 ≤ j ∧ j < 3 + cP C then S3.1 60 (j - 3) else S3.1 55 j)) := fN_sA S3 (fun k hk => ⟨rfl, Classical.byContradiction (fun q => hk (by rw [if_neg (by omega)]))⟩)
  have z4 : mZ (ho_sA S3 55 (fun j => if 3 + 0 ≤ j ∧ j < 3 + cP C then S3.1 60 (j - 3) else S3.1 55 j)) C (gvP C z s (sgT C z) 0) := by
    refine ⟨fun k hk => ?_, fun w hw => ?_⟩
    · rw [sA_at]
      by_cases e : 3 ≤ k ∧ k < 3 + cP C
      · obtain ⟨p, rfl⟩ : ∃ p, k = 3 + p := ⟨k - 3, by omega⟩
        rw [if_pos (by omega), gvP_s _ _ _ _ _ (by omega), show 3 + p - 3 = p by omega, ← hS3, sI_ne _ (by decide)]
        exact p2 p (by omega)
      · rw [if_neg (by omega), z3.1 k hk]
        by_cases e2 : 3 ≤ k ∧ k < 9
        · obtain ⟨p, rfl⟩ : ∃ p, k = 3 + p := ⟨k - 3, by omega⟩
          rw [gvP_s _ _ _ _ _ (by omega)]
          unfold lft
          rw [tkA_o hC (by omega) _ (Nat.le_refl _)]
        · by_cases e3 : k < 3
          · rw [gvP_a _ _ _ _ _ (by omega) (by omega)]
          · by_cases e4 : k < 15
            · obtain ⟨p, rfl⟩ : ∃ p, k = 9 + p := ⟨k - 9, by omega⟩
              rw [gvP_t _ _ _ _ _ (by omega) (by omega), if_neg (by omega)]
            · obtain ⟨p, rfl⟩ : ∃ p, k = 15 + p := ⟨k - 15, by omega⟩
              rw [gvP_k _ _ _ _ _ (by omega) (by omega), if_neg (by omega)]
    · rw [sA_at, if_neg (by omega), z3.2 w hw, gvP_a _ _ _ _ _ (by omega) (by omega)]
  have k4 : mK (ho_sA S3 55 (fun j => if 3 + 0 ≤ j ∧ j < 3 + cP C then S3.1 60 (j - 3) else S3.1 55 j)) kl := by
    refine mK_f k3 f4 (fun b k q => Or.inr q.2)
  have hcl : ∀ b k : Nat, (b = 55 ∧ k < 26) → ¬ crM b := fun b k q => by unfold crM; omega
  obtain ⟨S5, q1, q2, q3⟩ := m_g45 (g := sgT C z) hC hz h64 (fun t _ => by have := sgT_le (z := z) hC t; omega) (cT C) 0 5000 _ (by omega) (by omega) (mC_f h3 f4 hcl) z4 (fun t ht => by
    rw [sA_ne _ _ (by decide), ← hS3, sI_ne _ (by decide), p3.1 61 t (by first | decide | (dsimp only; omega) | omega)]
    exact r2 t ht)
  have f5 : fN goP S S5 := fN_tr f3 (fN_tr (fN_mo f4 (fun b k q => by unfold goP; omega)) (fN_mo q3 (fun b k q => by unfold goP; omega)))
  have h5 : mC S5 C := mC_f h f5 (fun _ _ q => go_c q)
  have k5 : mK S5 kl := mK_f k4 q3 (fun b k q => Or.inr q.2)
  have e62 : S5.1 0 62 = S.1 0 62 := f5.1 0 62 (by unfold goP eP; omega)
  have hok := gvP_ok (s := s) (g := sgT C z) hC hz (Nat.le_refl (cT C))
  obtain ⟨S6, u1, u2, u3, u4⟩ := m_g136 (m := gvT C z s (sgT C z) (cT C)) (kl := kl) (th := th) hC hok h64 (fun t ht => by unfold gvT; rw [setNat_bit, decide_eq_true ht, Bool.true_and]) hk.1 (cT C) 0 5000 S5 (by omega) (by omega) h5 (e62.trans hth) (mZ_z hC q2 (fun j _ => by
    by_cases e : j = 2
    · subst e; rw [zup_s]; rfl
    · rw [zup_n e])) (by unfold kpT; split <;> exact k5)
  have f6 : fN goP S S6 := fN_tr f5 (fN_mo u4 (fun b k q => by unfold thP eP at q; unfold goP eP; omega))
  refine ⟨S6, ?_, mZ_z hC u2 (fun j _ => ?_), ?_, ?_, f6, ?_⟩
  · unfold f_X12_showGoes
    rw [r1, ob_s, p1, ob2_s, le1_e, hS3]
    exact h15.trans (q1.trans u1)
  · unfold gv
    rw [if_neg (by decide), if_neg (by decide), if_pos rfl, lsB_k _ _ _ kl []]
  · unfold kpT at u3 ⊢
    rw [e62] at u3
    exact u3
  · rw [u4.1 0 64 (by unfold thP eP; omega), q3.1 0 64 (by decide), sA_ne _ _ (by decide), ← hS3, sI_v]
  · rw [u4.1 0 63 (by unfold thP eP; omega), q3.1 0 63 (by decide), sA_ne _ _ (by decide), ← hS3, sI_k (by decide), p3.1 0 63 (by decide), r3.1 0 63 (by unfold lyP eP; omega)]
theorem LL_N (n : Nat) : LL (n : Int) = lN n := Int64.ofInt_eq_ofNat
theorem m_debt {S : Hp} {C : Cr} {d ap : Nat} (hC : okCr C) (hd : d ≤ 99999) (h : mC S C) (h1 : S.1 55 1 = nI d) (h64 : S.1 0 64 = nI ap) (hap : ap ≤ 5994) :
    f_X12_debtGoes S = some (ho_sI (if cR C 0 0 ≤ ap then ho_sI S 0 63 (S.1 0 63 + 1) else S) 55 1 (nI (pyD C d ap))) := by
  have hn := hC.2.1.1
  have hr := hC.2.1.2.1
  have t1 : (nI ap - nI (cR C 0 0)).toInt = (ap : Int) - cR C 0 0 := pk_sub_toInt (by omega) (by omega)
  have z0 : (0 : Int32).toInt = 0 := by decide
  have h26 : ∀ S2, S2.1 55 1 = nI d → S2.1 43 5 = nI (cR C 0 1) → f_X12_debtGoes_26 (nI ap - nI (cR C 0 0)) S2 = some (ho_sI S2 55 1 (nI (pyD C d ap))) := by
    intro S2 a1 a2
    have e44 : ∀ m : Nat, m ≤ 109998 → f_X12_debtGoes_44 (lN m) S2 = some (ho_sI S2 55 1 (nI (min 99999 (m + m * cR C 0 1 / 100)))) := by
      intro m hm
      unfold f_X12_debtGoes_44 f_X12_debtGoes_81
      have hmr : m * cR C 0 1 ≤ 109998 * 99 := Nat.mul_le_mul hm hr
      rw [ldI_L 5 (by decide) (by decide), a2, nI_l (by omega), le1_e, lN_mul, show (100 : Int64) = lN 100 from rfl, pk_lDiv (by omega) (by decide) (by decide), lN_add, show (99999 : Int64) = lN 99999 from rfl, lN_i]
      have hq : m * cR C 0 1 / 100 ≤ 109998 * 99 / 100 := Nat.div_le_div_right hmr
      by_cases e : m + m * cR C 0 1 / 100 ≤ 99999
      · rw [if_pos ((lg_cmp_le _ _).mpr ((pk_lLE (by omega) (by decide)).mpr e)), stI_L 1 (by decide) (by decide), Nat.min_eq_right e]
      · rw [if_neg (fun q => e ((pk_lLE (by omega) (by decide)).mp ((lg_cmp_le _ _).mp q))), stI_L 1 (by decide) (by decide), Nat.min_eq_left (by omega)]
        rfl
    unfold f_X12_debtGoes_26
    have t2 : (nI d - (nI ap - nI (cR C 0 0))).toInt = (d : Int) - (ap - cR C 0 0) := by
      rw [Int32.toInt_sub, t1, nI_toInt (by omega), Int.bmod_eq_of_le (by omega) (by omega)]
    rw [ldI_L 1 (by decide) (by decide), a1, le1_e, LL_i, t2, show (0 : Int64) = LL 0 by decide]
    unfold pyD
    by_cases e : (0 : Int) ≤ (d : Int) - (ap - cR C 0 0)
    · rw [if_pos ((c_ge (by omega) (by omega) (by decide) (by decide)).mpr e), show (d : Int) - (ap - cR C 0 0) = ((d + cR C 0 0 - ap : Nat) : Int) by omega, LL_N, e44 _ (by omega)]
    · rw [if_neg (fun q => e ((c_ge (by omega) (by omega) (by decide) (by decide)).mp q)), show LL 0 = lN 0 by decide, e44 0 (by omega), show d + cR C 0 0 - ap = 0 by omega]
  unfold f_X12_debtGoes
  rw [ldI_L 3 (by decide) (by decide), h.2.1.1, h64, le1_e]
  by_cases e : cR C 0 0 ≤ ap
  · rw [if_neg (by rw [Int32.lt_iff_toInt_lt, t1, z0]; omega), le1_e, h26 _ (by rw [sI_ne _ (by decide)]; exact h1) (by rw [sI_ne _ (by decide)]; exact h.2.1.2.1), if_pos e]
  · rw [if_pos (by rw [Int32.lt_iff_toInt_lt, t1, z0]; omega), h26 _ h1 h.2.1.2.1, if_neg e]
theorem m_yEnds {S : Hp} {C : Cr} {z : Nat → Nat} {s th : Nat} {kl : List Nat} (hC : okCr C) (hz : okZ C z) (h64 : s < 64) (hy : z 0 < 999) (h : mC S C) (hs : mZ S C z) (hk : mK S kl) (hth : S.1 0 62 = nI th) :
    ∃ S', f_X12_yearEnds (nI s) S = some S' ∧ mZ S' C (gv C z s (sgT C z)) ∧ mK S' (kpT S kl (gvK C z s (sgT C z) kl)) ∧ S'.1 0 64 = nI (apr C z s) ∧ fN goP S S' ∧ S'.1 0 63 = (if cR C 0 0 ≤ apr C z s then S.1 0 63 + 1 else S.1 0 63) := by
  have hnw := hC.1.2.2
  have hap := (apr_le (s := s) hC hz).1
  obtain ⟨S1, r1, r2, r3, r4, r5, r6⟩ := m_goes hC hz h64 h hs hk hth
  have h1 : mC S1 C := mC_f h r5 (fun _ _ q => go_c q)
  have e1 : S1.1 55 1 = nI (z 1) := by rw [r2.1 1 (by decide), zup_n (by decide), gvP_a _ _ _ _ _ (by omega) hC.1.2.1]
  have hd := m_debt (ap := apr C z s) hC hz.2.1 h1 e1 r4 hap
  generalize hS2 : (if cR C 0 0 ≤ apr C z s then ho_sI S1 0 63 (S1.1 0 63 + 1) else S1) = S2 at hd
  have g5 : S2.1 55 = S1.1 55 := by
    rw [← hS2]
    split
    · rw [sI_ne _ (by decide)]
    · rfl
  have f2 : fN goP S1 S2 := by
    rw [← hS2]
    split
    · exact fN_sI S1 (by unfold goP; omega)
    · exact fN_rf _ S1
  have z2 : mZ S2 C (zup (gvP C z s (sgT C z) (cT C)) 2 (gv C z s (sgT C z) 2)) := by unfold mZ; rw [g5]; exact r2
  have z3 := mZ_u (i := 1) (v := pyD C (z 1) (apr C z s)) z2 (by decide)
  have z4 := mZ_u (i := 0) (v := z 0 + 1) z3 (by decide)
  refine ⟨_, ?_, mZ_z hC z4 (fun j hj => ?_), ?_, ?_, fN_tr r5 (fN_tr f2 (fN_tr (fN_sI S2 (a := 55) (k := 1) (v := nI (pyD C (z 1) (apr C z s))) (by unfold goP; omega)) (fN_sI _ (a := 55) (k := 0) (v := nI (z 0 + 1)) (by unfold goP; omega)))), ?_⟩
  · unfold f_X12_yearEnds
    rw [r1, ob_s, hd, ob_s, ldI_L 0 (by decide) (by decide), z3.1 0 (by decide), zup_n (by decide), zup_n (by decide), gvP_a _ _ _ _ _ (by omega) hC.1.2.1, nI_1, stI_L 0 (by decide) (by decide)]
  · by_cases q0 : j = 0
    · subst q0; rw [zup_s]; rfl
    rw [zup_n q0]
    by_cases q1 : j = 1
    · subst q1; rw [zup_s]; rfl
    rw [zup_n q1]
    by_cases q2 : j = 2
    · subst q2; rw [zup_s]
    rw [zup_n q2]
    unfold gv
    rw [if_neg q0, if_neg q1, if_neg q2]
  · refine ⟨r3.1, ?_, fun j hj => ?_⟩
    · rw [sI_k (by decide), sI_k (by decide), g5]; exact r3.2.1
    · rw [sI_k (by omega), sI_k (by omega), g5]; exact r3.2.2 j hj
  · rw [sI_ne _ (by decide), sI_ne _ (by decide), ← hS2]
    split
    · rw [sI_k (by decide)]; exact r4
    · exact r4
  · rw [sI_ne _ (by decide), sI_ne _ (by decide), ← hS2]
    split
    · rw [sI_v, r6]
    · exact r6
theorem m_year {S : Hp} {C : Cr} {z : Nat → Nat} {th : Nat} {kl : List Nat} (hC : okCr C) (hz : okZ C z) (hy : z 0 < 999) (h : mC S C) (hs : mZ S C z) (hk : mK S kl) (hth : S.1 0 62 = nI th) (hcr : ¬ S.1 0 52 = 0) :
    ∃ S', f_X12_yearGoes S = some S' ∧ mZ S' C (yr C z) ∧ mK S' (kpT S kl (yrK C z kl)) ∧ fN goP S S' ∧ S'.1 0 63 = (if cR C 0 0 ≤ yrA C z then S.1 0 63 + 1 else S.1 0 63) := by
  have hz1 := rip_ok hC hz
  obtain ⟨S1, r1, r2, r3⟩ := m_rip hC hz h hs
  have f1 : fN goP S S1 := fN_mo r3 (fun b k q => by unfold goP; omega)
  have h1 : mC S1 C := mC_f h f1 (fun _ _ q => go_c q)
  have k1 : mK S1 kl := mK_f hk r3 (fun b k q => by omega)
  obtain ⟨S2, p1, -, p3⟩ := m_best hC hz1 h1 r2 (by rw [f1.1 0 52 (by unfold goP eP; omega)]; exact hcr)
  have f2 : fN goP S1 S2 := fN_mo p3 (fun b k q => by unfold lyP eP at q; unfold goP eP; omega)
  have h2 : mC S2 C := mC_f h1 f2 (fun _ _ q => go_c q)
  have s2 : mZ S2 C (rip C z) := mZ_f r2 p3 (fun _ _ q => ly_5 q)
  have k2 : mK S2 kl := mK_f k1 p3 (fun b k q => Or.inl (ly_5 q))
  have f02 := fN_tr f1 f2
  have e62 : S2.1 0 62 = S.1 0 62 := f02.1 0 62 (by unfold goP eP; omega)
  obtain ⟨S3, q1, q2, q3, -, q5, q6⟩ := m_yEnds (s := bst C (rip C z)) hC hz1 (bst_64 hC _) (by rw [rip_o hC (by omega)]; exact hy) h2 s2 k2 (e62.trans hth)
  refine ⟨S3, ?_, q2, ?_, fN_tr f02 q5, ?_⟩
  · unfold f_X12_yearGoes
    rw [r1, ob_s, p1, ob2_s, q1, ob_s]
  · unfold kpT at q3 ⊢
    rw [e62] at q3
    exact q3
  · have e63 : S2.1 0 63 = S.1 0 63 := by rw [p3.1 0 63 (by unfold lyP eP; omega), r3.1 0 63 (by decide)]
    rw [q6, e63]
    rfl

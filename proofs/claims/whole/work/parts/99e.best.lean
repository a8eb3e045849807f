/-! level 2: alike answers: the best show, what appears, the best seat -/
theorem m_now1 {np : Nat} (hnp : np ≤ 6) : ∀ (d i K : Nat) (S : Hp), i + d = np → d < K → S.1 41 3 = nI np → ∃ S', f_X12_yieldsComeNow_2 K (nI i) S = ob (f_X12_yieldsCome S') (fun S2 => some S2) ∧ (∀ p, i ≤ p → p < np → S'.1 62 p = S.1 55 (3 + p)) ∧ fN (fun b k => b = 62 ∧ i ≤ k) S S' := by
  intro d
  induction d with
  | zero =>
    intro i K S hi hK h
    obtain ⟨K, rfl⟩ : ∃ q, K = q + 1 := ⟨K - 1, by omega⟩
    exact ⟨S, by rw [f_X12_yieldsComeNow_2, m_pm, ob2_s, h, if_pos (nI_le (by omega) (by omega))], fun p h1 h2 => absurd h2 (by omega), fN_rf _ S⟩
  | succ d ih =>
    intro i K S hi hK h
    obtain ⟨K, rfl⟩ : ∃ q, K = q + 1 := ⟨K - 1, by omega⟩
    obtain ⟨S', a1, a2, a3⟩ := ih (i + 1) K (ho_sI S 62 i (S.1 55 (3 + i))) (by omega) (by omega) (by rw [sI_ne _ (by decide)]; exact h)
    refine ⟨S', ?_, fun p h1 h2 => ?_, fN_tr (fN_sI S ⟨rfl, Nat.le_refl _⟩) (fN_mo a3 (fun b k q => ⟨q.1, by omega⟩))⟩
    · rw [f_X12_yieldsComeNow_2, m_pm, ob2_s, h, if_neg (nI_ge (by omega) (by omega)), lit_nI 3, nI_add, ldI_n (by omega) (by decide), stI_n (by omega) (by decide), le1_e, nI_1]
      exact a1
    · by_cases e : p = i
      · subst e
        rw [a3.1 _ _ (by first | decide | (dsimp only; omega) | omega), sI_v]
      · exact (a2 p (by omega) h2).trans (by rw [sI_ne _ (by decide)])
theorem m_now {S : Hp} {C : Cr} {z : Nat → Nat} (hC : okCr C) (hz : okZ C z) (h : mC S C) (hs : mZ S C z) : ∃ S', f_X12_yieldsComeNow S = some S' ∧ mZ S' C (rip C z) ∧ (∀ p, p < cP C → S'.1 62 p = nI (z (3 + p))) ∧ fN (fun b k => (b = 55 ∧ 3 ≤ k ∧ k < 9) ∨ b = 62) S S' := by
  have hnp := hC.1.1
  obtain ⟨S1, a1, a2, a3⟩ := m_now1 hnp (cP C) 0 5000 S (by omega) (by omega) h.1.1
  have h1 : mC S1 C := mC_f h a3 (fun b k q => by unfold crM; omega)
  have s1 : mZ S1 C z := mZ_f hs a3 (fun b k q => by omega)
  obtain ⟨S2, b1, b2, b3⟩ := m_rip hC hz h1 s1
  refine ⟨S2, ?_, b2, fun p hp => ?_, fN_tr (fN_mo a3 (fun b k q => Or.inr q.1)) (fN_mo b3 (fun b k q => Or.inl q))⟩
  · unfold f_X12_yieldsComeNow
    rw [show f_X12_yieldsComeNow_2 5000 (0 : Int32) S = _ from a1, b1, ob_s]
  · rw [b3.1 62 p (by first | decide | (dsimp only; omega) | omega), a2 p (by omega) hp, hs.1 _ (by omega)]
theorem m_back1 {np : Nat} (hnp : np ≤ 6) : ∀ (d i K : Nat) (S : Hp), i + d = np → d < K → S.1 41 3 = nI np → ∃ S', f_X12_yieldsGoBack_2 K (nI i) S = some S' ∧ (∀ p, i ≤ p → p < np → S'.1 55 (3 + p) = S.1 62 p) ∧ fN (fun b k => b = 55 ∧ 3 + i ≤ k ∧ k < 3 + np) S S' := by
  intro d
  induction d with
  | zero =>
    intro i K S hi hK h
    obtain ⟨K, rfl⟩ : ∃ q, K = q + 1 := ⟨K - 1, by omega⟩
    exact ⟨S, by rw [f_X12_yieldsGoBack_2, m_pm, ob2_s, h, if_pos (nI_le (by omega) (by omega))], fun p h1 h2 => absurd h2 (by omega), fN_rf _ S⟩
  | succ d ih =>
    intro i K S hi hK h
    obtain ⟨K, rfl⟩ : ∃ q, K = q + 1 := ⟨K - 1, by omega⟩
    obtain ⟨S', a1, a2, a3⟩ := ih (i + 1) K (ho_sI S 55 (3 + i) (S.1 62 i)) (by omega) (by omega) (by rw [sI_ne _ (by decide)]; exact h)
    refine ⟨S', ?_, fun p h1 h2 => ?_, fN_tr (fN_sI S (by omega)) (fN_mo a3 (fun b k q => by omega))⟩
    · rw [f_X12_yieldsGoBack_2, m_pm, ob2_s, h, if_neg (nI_ge (by omega) (by omega)), ldI_n (by omega) (by decide), lit_nI 3, nI_add, stI_n (by omega) (by decide), le1_e, nI_1]
      exact a1
    · by_cases e : p = i
      · subst e
        rw [a3.1 _ _ (by first | decide | (dsimp only; omega) | omega), sI_v]
      · exact (a2 p (by omega) h2).trans (by rw [sI_ne _ (by decide)])
theorem m_back {S : Hp} {C : Cr} {z : Nat → Nat} (hC : okCr C) (h : mC S C) (hs : mZ S C (rip C z)) (h62 : ∀ p, p < cP C → S.1 62 p = nI (z (3 + p))) : ∃ S', f_X12_yieldsGoBack S = some S' ∧ mZ S' C z ∧ fN (fun b k => b = 55 ∧ 3 ≤ k ∧ k < 9) S S' := by
  have hnp := hC.1.1
  have hnw := hC.1.2.2
  obtain ⟨S1, a1, a2, a3⟩ := m_back1 hnp (cP C) 0 5000 S (by omega) (by omega) h.1.1
  refine ⟨S1, a1, ⟨fun k hk => ?_, fun w hw => ?_⟩, fN_mo a3 (fun b k q => by omega)⟩
  · by_cases e : 3 ≤ k ∧ k < 3 + cP C
    · obtain ⟨p, rfl⟩ : ∃ p, k = 3 + p := ⟨k - 3, by omega⟩
      rw [a2 p (by omega) (by omega), h62 p (by omega)]
    · rw [a3.1 55 k (by first | decide | (dsimp only; omega) | omega), hs.1 k hk]
      unfold rip
      rw [if_neg e]
  · rw [a3.1 55 _ (by first | decide | (dsimp only; omega) | omega), hs.2 w hw, rip_o hC (by omega)]
theorem and_natG (a b : Nat) : nI a &&& nI b = nI (a &&& b) := by
  apply Int32.toBitVec_inj.mp
  show BitVec.ofNat 32 a &&& BitVec.ofNat 32 b = BitVec.ofNat 32 (a &&& b)
  apply BitVec.eq_of_toNat_eq
  rw [BitVec.toNat_and, BitVec.toNat_ofNat, BitVec.toNat_ofNat, BitVec.toNat_ofNat, Nat.and_mod_two_pow]
theorem sub_iffG (x y : Int32) : (x &&& (y ^^^ (-1 : Int32)) = 0) ↔ x &&& y = x := by
  rw [← Int32.toBitVec_inj, ← Int32.toBitVec_inj]
  show (x.toBitVec &&& (y.toBitVec ^^^ BitVec.allOnes 32) = 0#32) ↔ x.toBitVec &&& y.toBitVec = x.toBitVec
  have ho : ∀ i, i < 32 → (BitVec.allOnes 32).getLsbD i = true := by
    intro i hi
    rw [BitVec.getLsbD_allOnes]
    exact decide_eq_true hi
  generalize BitVec.allOnes 32 = o at ho
  constructor
  · intro h
    apply BitVec.eq_of_getLsbD_eq
    intro i hi
    have h2 := congrArg (fun v => v.getLsbD i) h
    simp only [BitVec.getLsbD_and, BitVec.getLsbD_xor, ho i hi, BitVec.getLsbD_zero] at h2 ⊢
    generalize x.toBitVec.getLsbD i = p at h2 ⊢
    generalize y.toBitVec.getLsbD i = q at h2 ⊢
    cases p <;> cases q <;> simp_all
  · intro h
    apply BitVec.eq_of_getLsbD_eq
    intro i hi
    have h2 := congrArg (fun v => v.getLsbD i) h
    simp only [BitVec.getLsbD_and, BitVec.getLsbD_xor, ho i hi, BitVec.getLsbD_zero] at h2 ⊢
    generalize x.toBitVec.getLsbD i = p at h2 ⊢
    generalize y.toBitVec.getLsbD i = q at h2 ⊢
    cases p <;> cases q <;> simp_all
theorem sub_nat {s m : Nat} (hs : s < 2 ^ 31) (hm : m < 64) : (nI s &&& (nI m ^^^ (-1 : Int32)) = 0) ↔ s &&& m = s := by
  have hl : s &&& m ≤ s := Nat.and_le_left
  rw [sub_iffG, and_natG, nI_eq (by omega) hs]
theorem h_can {S : Hp} {c s : Nat} {C : Cr} {z : Nat → Nat} (hC : okCr C) (hz : okZ C z) (h : cH S c C) (hs : stH S 1200 C z) (hcr : S.1 0 13 = 1) (h31 : s < 2 ^ 31) : f_X11_canGive (nI s) S = some (if s &&& shw C z = s then 1 else 0, S) := by
  unfold f_X11_canGive
  rw [hcr, if_neg ne1, if_neg (nI_pos h31), h_shw hC hz h hs, ob2_s]
  by_cases e : s &&& shw C z = s
  · rw [if_pos ((sub_nat h31 (shw_64 hC z)).mpr e), if_pos e]
  · rw [if_neg (fun q => e ((sub_nat h31 (shw_64 hC z)).mp q)), if_neg e]
theorem sub_64 {C : Cr} {z : Nat → Nat} {s : Nat} (hC : okCr C) (h : s &&& shw C z = s) : s < 64 := Nat.lt_of_le_of_lt (sub_le h) (shw_64 hC z)
theorem sim_s {SH SM SH1 SM1 : Hp} {Q : Nat → Prop} {R : Nat → Nat → Prop} {X : Xv} {cr : Bool} {c : Nat} {C : Cr} {N : Nat → Nat → List Nat} {P : Pa} {z : Nat → Nat} {kl : List Nat} (ok : okX X cr C N P z) (a : hA SH X cr c C N P) (b : hN SH C z kl) (d : h10 SH cr C z) (e : mA SM X cr C N P) (hf : fH Q SH SH1) (hq : ∀ b, Q b → scS c b ∨ (1210 ≤ b ∧ b ≤ 1215)) (mf : fN R SM SM1) (hr : ∀ b k, R b k → sM b k) (mn : mN SM1 C z kl) : Sim SH1 SM1 := by
  have hcc := a.2.2.2.1.2.1.2.2.2
  refine ⟨X, cr, c, C, N, P, z, kl, ok, hA_f a hf (fun b q x => ?_) ?_, hN_f b hf (fun b q x => ?_), h10_f d hf (fun b q x => ?_), mA_f e mf hr, mn⟩
  · have := hq b x; unfold scS scE at this; unfold hCl crC at q; omega
  · rw [hf.1 70 (fun x => by have := hq _ x; unfold scS scE at this; omega)]
  · have := hq b x; unfold scS scE at this; omega
  · have := hq b x; unfold scS scE at this; omega
theorem s1210 : 1210 ∈ yH.1 ∧ yH.2.1 1210 = (1, 9) := ⟨memH (by decide) (by decide), rfl⟩
/-- the class: the yields come on a copy -/
theorem h_scr {S : Hp} {c : Nat} {C : Cr} {z : Nat → Nat} {kl : List Nat} (hC : okCr C) (hz : okZ C z) (h : cH S c C) (b : hN S C z kl) : ∃ S1 S2, f_X9_copy 1210 1200 S = some S1 ∧ f_X8_ripen 1210 S1 = some S2 ∧ cH S2 c C ∧ stH S2 1210 C (rip C z) ∧ fH (fun b => 1210 ≤ b ∧ b ≤ 1215) S S2 := by
  have hcc := cH_c h
  obtain ⟨S1, a1, a2, a3, a4⟩ := h_copy s1210 (by decide) b.1 b.2 hC.1.2.2
  have h1 : cH S1 c C := cH_f h a4 (fun b q => by unfold crC; omega)
  obtain ⟨S2, b1, b2, b3, b4⟩ := h_rip hC hz h1 a2
  exact ⟨S1, S2, a1, b1, cH_f h1 b3 (fun b q => by unfold crC; omega), b2, fH_tr a4 (fH_mo b3 (fun b q => by omega))⟩
theorem s_11 : sim_11 Sim := by
  intro x SH SM h
  have h' := h
  obtain ⟨X, cr, c, C, N, P, z, kl, ok, a, b, d, e, f⟩ := h'
  have ok' := ok
  obtain ⟨⟨hC, hz⟩, ok2⟩ := ok'
  obtain ⟨c1, ⟨c2, c3, c4, c5⟩, ⟨c6, c7, c8⟩, c9, c10⟩ := a.2.2.2.1
  obtain ⟨m1, mc, mn⟩ := e.2.2.2.1
  unfold f_X11_best f_X12_best
  rw [c1, m1]
  cases cr with
  | false => exact ⟨_, SH, SM, rfl, rfl, h⟩
  | true =>
    have ch := c9 rfl
    have hz1 := rip_ok hC hz
    rw [if_pos rfl, if_neg ne1, if_neg ne1, m_inL (n := 2) (by decide), ob2_s]
    rcases ix3 x (n := 3) (by decide) with hx | ⟨i, hi, rfl⟩
    · rw [if_neg (ix_in5 (n := 2) (by decide) hx), if_pos rfl]
      by_cases h0 : x < 0
      · rw [if_pos h0]; exact ⟨_, SH, SM, rfl, rfl, h⟩
      · rw [if_neg h0, if_neg (show ¬ x ≤ (2 : Int32) from fun q => by
          obtain ⟨j, hj, rfl⟩ := (in5 (n := 2) (by decide)).mp ⟨Int32.not_lt.mp h0, q⟩
          exact nI_ge (show j < 3 by omega) (by decide) (hx.resolve_left h0))]; exact ⟨_, SH, SM, rfl, rfl, h⟩
    · obtain ⟨S1, S2, r1, r2, r3, r4, r5⟩ := h_scr hC hz ch b
      obtain ⟨S3, p1, p2, p3⟩ := h_look hC hz1 r3 r4
      obtain ⟨S4, q1, q2, q3⟩ := h_choose hC hz1 (cH_l r3 p3) (stH_l r3 r4 p3) p2
      obtain ⟨M1, t1, t2, t3, t4⟩ := m_now hC hz mc f.1
      have mc1 : mC M1 C := mC_f mc t4 (fun b k q => by unfold crM; omega)
      have k1 : mK M1 kl := mK_f f.2.1 t4 (fun b k q => by omega)
      obtain ⟨M2, u1, u2, u3⟩ := m_best hC hz1 mc1 t2 (by rw [t4.1 0 52 (by first | decide | (dsimp only; omega) | omega), m1, if_pos rfl]; exact ne1)
      have mc2 : mC M2 C := mC_f mc1 u3 (fun _ _ q => ly_c q)
      have z2 : mZ M2 C (rip C z) := mZ_f t2 u3 (fun _ _ q => ly_5 q)
      have b64 := bst_64 hC (rip C z)
      have fin : ∀ M3 v, fN (fun b _ => b = 60) M2 M3 → ∃ (r : Int32) (SH1 SM1 : Hp), some (v, S4) = some (r, SH1) ∧ f_X12_best_56 v M3 = some (r, SM1) ∧ Sim SH1 SM1 := by
        intro M3 v hf
        have z3 : mZ M3 C (rip C z) := mZ_f z2 hf (fun b k q => by omega)
        have mc3 : mC M3 C := mC_f mc2 hf (fun b k q => by unfold crM; omega)
        obtain ⟨M4, v1, v2, v3⟩ := m_back hC mc3 z3 (fun p hp => by rw [hf.1 62 p (by first | decide | (dsimp only; omega) | omega), u3.1 62 p (by unfold lyP eP; omega)]; exact t3 p hp)
        have fT : fN (fun b k => lyP b k ∨ b = 55 ∨ b = 62) SM M4 := fN_tr (fN_mo t4 (fun b k q => by omega)) (fN_tr (fN_mo u3 (fun b k q => Or.inl q)) (fN_tr (fN_mo hf (fun b k q => Or.inl (Or.inr (Or.inl q)))) (fN_mo v3 (fun b k q => Or.inr (Or.inl q.1)))))
        refine ⟨v, S4, M4, rfl, ?_, sim_s (Q := fun b => scS c b ∨ (1210 ≤ b ∧ b ≤ 1215)) ok a b d e (fH_tr (fH_mo r5 (fun b q => Or.inr q)) (fH_tr (fH_mo p3 (fun b q => Or.inl (by unfold scL scE at q; unfold scS scE; omega))) (fH_mo q3 (fun b q => Or.inl (Or.inr (by omega)))))) (fun b q => q) fT (fun b k q => by unfold lyP eP at q; unfold sM; omega) ⟨v2, ?_, ?_⟩⟩
        · unfold f_X12_best_56
          rw [v1, ob_s]
        · refine ⟨f.2.1.1, ?_, fun j hj => ?_⟩
          · rw [v3.1 55 26 (by first | decide | (dsimp only; omega) | omega), hf.1 55 26 (by first | decide | (dsimp only; omega) | omega), u3.1 55 26 (by unfold lyP eP; omega), t4.1 55 26 (by first | decide | (dsimp only; omega) | omega)]; exact f.2.1.2.1
          · rw [v3.1 55 _ (by first | decide | (dsimp only; omega) | omega), hf.1 55 _ (by first | decide | (dsimp only; omega) | omega), u3.1 55 _ (by unfold lyP eP; omega), t4.1 55 _ (by first | decide | (dsimp only; omega) | omega)]; exact f.2.1.2.2 j hj
        · rw [v3.1 0 62 (by first | decide | (dsimp only; omega) | omega), hf.1 0 62 (by first | decide | (dsimp only; omega) | omega), u3.1 0 62 (by unfold lyP eP; omega), t4.1 0 62 (by first | decide | (dsimp only; omega) | omega)]; exact f.2.2
      rw [if_neg (nI_pos (by omega)), if_pos (show nI i ≤ (2 : Int32) from (leL 2 (by omega) (by decide)).mpr (by omega)), r1, ob_s, r2, ob_s, p1, ob_s, q1, ob_s, q2.1, q2.2.1, q2.2.2, if_pos ((in5 (by decide)).mpr ⟨i, by omega, rfl⟩), if_neg ne1, t1, ob_s, u1, ob2_s]
      have : i = 0 ∨ i = 1 ∨ i = 2 := by omega
      rcases this with rfl | rfl | rfl
      · rw [if_pos (show nI 0 = 0 from rfl), if_pos (show nI 0 = 0 from rfl)]
        exact fin M2 _ (fN_rf _ _)
      · rw [if_neg (show ¬ nI 1 = 0 by decide), if_pos (show nI 1 = 1 from rfl), if_neg (show ¬ nI 1 = 0 by decide), if_pos (show nI 1 = 1 from rfl)]
        obtain ⟨M3, w1, -, w3⟩ := m_apr hC hz1 mc2 z2 b64
        rw [w1, ob2_s]
        exact fin M3 _ w3
      · rw [if_neg (show ¬ nI 2 = 0 by decide), if_neg (show ¬ nI 2 = 1 by decide), if_neg (show ¬ nI 2 = 0 by decide), if_neg (show ¬ nI 2 = 1 by decide), m_sos hC mc2 u2 b64, ob2_s]
        exact fin M2 _ (fN_rf _ _)
theorem s_12 : sim_12 Sim := by
  intro x SH SM h
  have h' := h
  obtain ⟨X, cr, c, C, N, P, z, kl, ok, a, b, d, e, f⟩ := h'
  have ok' := ok
  obtain ⟨⟨hC, hz⟩, ok2⟩ := ok'
  obtain ⟨c1, ⟨c2, c3, c4, c5⟩, ⟨c6, c7, c8⟩, c9, c10⟩ := a.2.2.2.1
  obtain ⟨m1, mc, mn⟩ := e.2.2.2.1
  unfold f_X11_appears f_X12_appears
  cases cr with
  | false =>
    have e1 : f_X11_canGive x SH = some (0, SH) := by
      unfold f_X11_canGive
      rw [c1]
      rfl
    have e2 : f_X12_canShow x SM = some (0, SM) := by
      unfold f_X12_canShow
      rw [m1]
      rfl
    rw [e1, ob2_s, if_pos rfl, e2, ob2_s, if_pos rfl]
    exact ⟨_, SH, SM, rfl, rfl, h⟩
  | true =>
    rw [if_pos rfl] at c1 m1
    have ch := c9 rfl
    have hz1 := rip_ok hC hz
    by_cases hx : x < 0
    · have e1 : f_X11_canGive x SH = some (0, SH) := by
        unfold f_X11_canGive
        rw [c1, if_neg ne1, if_pos hx]
      rw [e1, ob2_s, if_pos rfl, m_canN hC mc hx, ob2_s, if_pos rfl]
      exact ⟨_, SH, SM, rfl, rfl, h⟩
    · obtain ⟨s, hs, rfl⟩ := nI_of hx
      rw [h_can hC hz ch b.1 c1 hs, ob2_s, m_can hC hz mc f.1 (by rw [m1]; exact ne1) hs, ob2_s]
      by_cases e1 : s &&& shw C z = s
      · rw [if_pos e1, if_neg ne1, if_neg ne1]
        have s64 := sub_64 hC e1
        obtain ⟨S1, S2, r1, r2, r3, r4, r5⟩ := h_scr hC hz ch b
        obtain ⟨S3, p1, p2, p3⟩ := h_tk (s := s) hC hz1 r3 r4 s64
        obtain ⟨M1, t1, t2, t3, t4⟩ := m_now hC hz mc f.1
        have mc1 : mC M1 C := mC_f mc t4 (fun b k q => by unfold crM; omega)
        obtain ⟨M2, u1, -, u3⟩ := m_apr (s := s) hC hz1 mc1 t2 s64
        have mc2 : mC M2 C := mC_f mc1 u3 (fun b k q => by unfold crM; omega)
        have z2 : mZ M2 C (rip C z) := mZ_f t2 u3 (fun b k q => by omega)
        obtain ⟨M4, v1, v2, v3⟩ := m_back hC mc2 z2 (fun p hp => by rw [u3.1 62 p (by first | decide | (dsimp only; omega) | omega)]; exact t3 p hp)
        have fT : fN (fun b k => b = 60 ∨ b = 55 ∨ b = 62) SM M4 := fN_tr (fN_mo t4 (fun b k q => by omega)) (fN_tr (fN_mo u3 (fun b k q => Or.inl q)) (fN_mo v3 (fun b k q => Or.inr (Or.inl q.1))))
        rw [r1, ob_s, r2, ob_s, p1, ob2_s, t1, ob_s, u1, ob2_s, v1, ob_s]
        refine ⟨_, S3, M4, rfl, rfl, sim_s (Q := fun b => scS c b ∨ (1210 ≤ b ∧ b ≤ 1215)) ok a b d e (fH_tr (fH_mo r5 (fun b q => Or.inr q)) (fH_mo p3 (fun b q => Or.inl (Or.inr (by omega))))) (fun b q => q) fT (fun b k q => by unfold sM; omega) ⟨v2, ?_, ?_⟩⟩
        · refine ⟨f.2.1.1, ?_, fun j hj => ?_⟩
          · rw [v3.1 55 26 (by first | decide | (dsimp only; omega) | omega), u3.1 55 26 (by first | decide | (dsimp only; omega) | omega), t4.1 55 26 (by first | decide | (dsimp only; omega) | omega)]; exact f.2.1.2.1
          · rw [v3.1 55 _ (by first | decide | (dsimp only; omega) | omega), u3.1 55 _ (by first | decide | (dsimp only; omega) | omega), t4.1 55 _ (by first | decide | (dsimp only; omega) | omega)]; exact f.2.1.2.2 j hj
        · rw [v3.1 0 62 (by first | decide | (dsimp only; omega) | omega), u3.1 0 62 (by first | decide | (dsimp only; omega) | omega), t4.1 0 62 (by first | decide | (dsimp only; omega) | omega)]; exact f.2.2
      · rw [if_neg e1, if_pos rfl, if_pos rfl]
        exact ⟨_, SH, SM, rfl, rfl, h⟩
/-- the best seat of those below n -/
def bsS (C : Cr) (z : Nat → Nat) (w : Nat) : Nat → Nat
  | 0 => 0
  | n + 1 => if sgW C z w (bsS C z w n) < sgW C z w n then n else bsS C z w n
theorem bsS_le (C : Cr) (z : Nat → Nat) (w : Nat) : ∀ n, bsS C z w n ≤ n - 1
  | 0 => Nat.le_refl _
  | n + 1 => by
    have := bsS_le C z w n
    rw [bsS]
    split <;> omega
theorem sgW_lt {C : Cr} {z : Nat → Nat} {w s : Nat} (hC : okCr C) : sgW C z w s ≤ 600 := by
  have h1 : sgW C z w s ≤ cT C * 99 := smT_le (cT C) (fun i _ => n99_le _)
  have := hC.1.2.1
  have : cT C * 99 ≤ 6 * 99 := Nat.mul_le_mul_right _ this
  omega
theorem h_seat21 {c w : Nat} {C : Cr} {z : Nat → Nat} (hC : okCr C) (hz : okZ C z) (hw : w < cW C) : ∀ (d i K : Nat) (S : Hp), i + d = 10 → d < K → cH S c C → stH S 1200 C z → ∃ S', f_X11_seat_21 K (nI w) (nI (bsS C z w i)) (if i = 0 then -1 else nI (sgW C z w (bsS C z w i))) (nI i) S = some (nI (bsS C z w 10), S') ∧ fH (scE c) S S' := by
  intro d
  induction d with
  | zero =>
    intro i K S hi hK h hs
    obtain ⟨K, rfl⟩ : ∃ q, K = q + 1 := ⟨K - 1, by omega⟩
    exact ⟨S, by rw [f_X11_seat_21, if_pos ((geL 10 (by omega) (by decide)).mpr (by omega)), show i = 10 by omega], fH_rf _ S⟩
  | succ d ih =>
    intro i K S hi hK h hs
    obtain ⟨K, rfl⟩ : ∃ q, K = q + 1 := ⟨K - 1, by omega⟩
    have h56 : ∀ u v Sx, f_X11_seat_56 (f_X11_seat_21 K) (nI w) u v (nI i) Sx = f_X11_seat_21 K (nI w) u v (nI (i + 1)) Sx := by
      intro u v Sx
      unfold f_X11_seat_56
      rw [le1_e, nI_1]
    obtain ⟨S1, r1, r2⟩ := h_sW (w := w) (seat := i) hC hz hw (by omega) h hs
    obtain ⟨S2, q1, q2⟩ := ih (i + 1) K S1 (by omega) (by omega) (cH_e h r2) (stH_e h hs r2)
    refine ⟨S2, ?_, fH_tr r2 q2⟩
    rw [f_X11_seat_21, if_neg (fun q => absurd ((geL 10 (by omega) (by decide)).mp q) (by omega)), r1, ob2_s, h56, h56]
    rw [if_neg (show ¬ i + 1 = 0 by omega)] at q1
    have l1 := sgW_lt (z := z) (w := w) (s := i) hC
    have l2 := sgW_lt (z := z) (w := w) (s := bsS C z w i) hC
    by_cases e0 : i = 0
    · subst e0
      have e1 : bsS C z w (0 + 1) = 0 := by
        rw [bsS]
        split <;> rfl
      rw [e1] at q1
      have hno : ¬ nI (sgW C z w 0) ≤ (-1 : Int32) := by
        rw [Int32.le_iff_toInt_le, nI_toInt (by omega), nm1]
        omega
      rw [if_pos rfl, if_neg hno]
      exact q1
    · rw [if_neg e0]
      rw [bsS] at q1
      by_cases e1 : sgW C z w (bsS C z w i) < sgW C z w i
      · rw [if_neg (nI_ge e1 (by omega))]
        rw [if_pos e1] at q1
        exact q1
      · rw [if_pos (nI_le (by omega) (by omega))]
        rw [if_neg e1] at q1
        exact q1
theorem m_seat14 {w : Nat} {C : Cr} {z : Nat → Nat} (hC : okCr C) (hz : okZ C z) (hw : w < cW C) : ∀ (d i K : Nat) (S : Hp), i + d = 10 → 1 ≤ i → d < K → mC S C → mZ S C z → ∃ S', f_X12_seat_14 K (nI w) (nI (bsS C z w i)) (nI i) S = some (nI (bsS C z w 10), S') ∧ fN eP S S' := by
  intro d
  induction d with
  | zero =>
    intro i K S hi h1 hK h hs
    obtain ⟨K, rfl⟩ : ∃ q, K = q + 1 := ⟨K - 1, by omega⟩
    exact ⟨S, by rw [f_X12_seat_14, if_pos ((geL 10 (by omega) (by decide)).mpr (by omega)), show i = 10 by omega], fN_rf _ S⟩
  | succ d ih =>
    intro i K S hi h1 hK h hs
    obtain ⟨K, rfl⟩ : ∃ q, K = q + 1 := ⟨K - 1, by omega⟩
    have h37 : ∀ u Sx, f_X12_seat_37 (f_X12_seat_14 K) (nI w) u (nI i) Sx = f_X12_seat_14 K (nI w) u (nI (i + 1)) Sx := by
      intro u Sx
      unfold f_X12_seat_37
      rw [le1_e, nI_1]
    have hb := bsS_le C z w i
    obtain ⟨S1, r1, r2⟩ := m_sW (w := w) (seat := i) hC hz hw (by omega) h hs
    obtain ⟨S2, t1, t2⟩ := m_sW (w := w) (seat := bsS C z w i) hC hz hw (by omega) (mC_e h r2) (mZ_e hs r2)
    obtain ⟨S3, q1, q2⟩ := ih (i + 1) K S2 (by omega) (by omega) (by omega) (mC_e (mC_e h r2) t2) (mZ_e (mZ_e hs r2) t2)
    refine ⟨S3, ?_, fN_tr r2 (fN_tr t2 q2)⟩
    rw [f_X12_seat_14, if_neg (fun q => absurd ((geL 10 (by omega) (by decide)).mp q) (by omega)), r1, ob2_s, t1, ob2_s, h37, h37]
    have l1 := sgW_lt (z := z) (w := w) (s := i) hC
    have l2 := sgW_lt (z := z) (w := w) (s := bsS C z w i) hC
    rw [bsS] at q1
    by_cases e1 : sgW C z w (bsS C z w i) < sgW C z w i
    · rw [if_neg (nI_ge e1 (by omega))]
      rw [if_pos e1] at q1
      exact q1
    · rw [if_pos (nI_le (by omega) (by omega))]
      rw [if_neg e1] at q1
      exact q1
theorem s_21 : sim_21 Sim := by
  intro x SH SM h
  have h' := h
  obtain ⟨X, cr, c, C, N, P, z, kl, ok, a, b, d, e, f⟩ := h'
  have ok' := ok
  obtain ⟨⟨hC, hz⟩, ok2⟩ := ok'
  obtain ⟨c1, ⟨c2, c3, c4, c5⟩, ⟨c6, c7, c8⟩, c9, c10⟩ := a.2.2.2.1
  have hp := crH c5
  have hnw := hC.1.2.2
  have mc := e.2.2.2.1.2.1
  unfold f_X11_seat f_X12_seat
  rw [ldP_n c2 hp, m_isW, ob2_s, mc.1.2.2]
  rcases ix3 x (n := cW C) (by omega) with hx | ⟨w, hw, rfl⟩
  · rw [show f_X2_holds c (2 : Int32) x SH = _ from h_hN (k := 2) (by decide) c8 (by omega) hx, ob2_s, if_pos rfl, if_neg (show ¬ ((0 : Int32) ≤ x ∧ x ≤ nI (cW C) - 1) from ix_o (by omega) hx), if_pos rfl]
    exact ⟨_, SH, SM, rfl, rfl, h⟩
  · have hcr : cr = true := by
      cases cr with
      | true => rfl
      | false => have := (ok2.2.2.2.2.2 rfl).2.2; omega
    have ch := c9 hcr
    obtain ⟨SH1, r1, r2⟩ := h_seat21 hC hz hw 10 0 5000 SH (by decide) (by decide) ch b.1
    obtain ⟨SM1, q1, q2⟩ := m_seat14 hC hz hw 9 1 5000 SM (by decide) (by decide) (by decide) mc f.1
    have e1 : bsS C z w 1 = 0 := by
      rw [bsS]
      split <;> rfl
    rw [e1] at q1
    rw [show f_X2_holds c (2 : Int32) (nI w) SH = _ from h_hY (k := 2) (by decide) c8 (by omega) hw, ob2_s, if_neg ne1, if_pos (show (0 : Int32) ≤ nI w ∧ nI w ≤ nI (cW C) - 1 from (ix_iff (by omega)).mpr ⟨w, hw, rfl⟩), if_neg ne1, show f_X11_seat_21 5000 (nI w) (0 : Int32) (-1 : Int32) (0 : Int32) SH = _ from r1, show f_X12_seat_14 5000 (nI w) (0 : Int32) (1 : Int32) SM = _ from q1]
    exact ⟨_, SH1, SM1, rfl, rfl, sim_e ok a b d e f r2 q2⟩

/-! level 2: alike answers: a question: the reference answers -/
def aR (t b k : Nat) : Prop := eP b k ∨ (b = 59 ∧ 6 * t ≤ k ∧ k < 6 * t + 6)
theorem m_a193 {K : Int32 → Int32 → Hp → Option (Int64 × Hp)} {C : Cr} {z : Nat → Nat} {t : Nat} {x : Int32} (hC : okCr C) (hz : okZ C z) (ht : t < cT C) : ∀ (d i k : Nat) (S : Hp), i + d = cW C → d < k → mC S C → mZ S C z → (∀ w, w < i → S.1 59 (6 * t + w) = nI (sg C z t w (z (21 + w)))) → ∃ S', f_X12_ask_193 K k x (nI t) (nI i) S = K x (nI (t + 1)) S' ∧ S'.1 59 (6 * t + 5) = nI (sgT C z t) ∧ (∀ w, w < cW C → S'.1 59 (6 * t + w) = nI (sg C z t w (z (21 + w)))) ∧ fN (aR t) S S' := by
  have hnt := hC.1.2.1
  have hnw := hC.1.2.2
  intro d
  induction d with
  | zero =>
    intro i k S hi hk h hs hw
    obtain ⟨k, rfl⟩ : ∃ q, k = q + 1 := ⟨k - 1, by omega⟩
    obtain ⟨S1, r1, r2⟩ := m_sT hC hz ht h hs
    refine ⟨ho_sI S1 59 (6 * t + 5) (nI (sgT C z t)), ?_, sI_v, fun w hw2 => ?_, fN_tr (fN_mo r2 (fun b k q => Or.inl q)) (fN_sI S1 (Or.inr ⟨rfl, by omega, by omega⟩))⟩
    · rw [f_X12_ask_193, m_wm, ob2_s, h.1.2.2, if_pos (nI_le (by omega) (by omega)), r1, ob2_s, lit_nI 6, lit_nI 5, pk_mul, nI_add, stI_n (by omega) (by decide), le1_e, nI_1]
    · rw [sI_k (by omega), r2.1 59 _ (by unfold eP; omega)]
      exact hw w (by omega)
  | succ d ih =>
    intro i k S hi hk h hs hw
    obtain ⟨k, rfl⟩ : ∃ q, k = q + 1 := ⟨k - 1, by omega⟩
    have hz6 := hz.2.2.2.2.2.2.1 i (by omega)
    obtain ⟨S1, r1, r2⟩ := m_sg (w := i) hC hz h hs ht (by omega) hz6
    have f1 : fN (aR t) S (ho_sI S1 59 (6 * t + i) (nI (sg C z t i (z (21 + i))))) := fN_tr (fN_mo r2 (fun b k q => Or.inl q)) (fN_sI S1 (Or.inr ⟨rfl, by omega, by omega⟩))
    obtain ⟨S', q1, q2, q3, q4⟩ := ih (i + 1) k (ho_sI S1 59 (6 * t + i) (nI (sg C z t i (z (21 + i))))) (by omega) (by omega) (mC_f h f1 (fun b k q => by unfold aR eP at q; unfold crM; omega)) (mZ_f hs f1 (fun b k q => by unfold aR eP at q; omega)) (fun w hw2 => by
      by_cases e : w = i
      · subst e; rw [sI_v]
      · rw [sI_k (by omega), r2.1 59 _ (by unfold eP; omega)]
        exact hw w (by omega))
    refine ⟨S', ?_, q2, q3, fN_tr f1 q4⟩
    rw [f_X12_ask_193, m_wm, ob2_s, h.1.2.2, if_neg (nI_ge (by omega) (by omega)), m_seat (by omega), ob2_s, hs.2 i (by omega), r1, ob2_s, lit_nI 6, pk_mul, nI_add, stI_n (by omega) (by decide), le1_e, nI_1]
    exact q1
def aS (b k : Nat) : Prop := eP b k ∨ b = 59
theorem m_a183 {C : Cr} {z : Nat → Nat} {x : Int32} (hC : okCr C) (hz : okZ C z) : ∀ (d i k : Nat) (S : Hp), i + d = cT C → d < k → mC S C → mZ S C z → (∀ t, t < i → S.1 59 (6 * t + 5) = nI (sgT C z t) ∧ ∀ w, w < cW C → S.1 59 (6 * t + w) = nI (sg C z t w (z (21 + w)))) → ∃ S', f_X12_ask_183 k x (nI i) S = f_X12_ask_258 5000 x (0 : Int32) (ho_sI S' 0 53 (2 : Int32)) ∧ m59 S' C z ∧ fN aS S S' := by
  have hnt := hC.1.2.1
  have hnw := hC.1.2.2
  intro d
  induction d with
  | zero =>
    intro i k S hi hk h hs hw
    obtain ⟨k, rfl⟩ : ∃ q, k = q + 1 := ⟨k - 1, by omega⟩
    refine ⟨S, ?_, fun t ht => hw t (by omega), fN_rf _ S⟩
    rw [f_X12_ask_183, m_tm, ob2_s, h.1.2.1, if_pos (nI_le (by omega) (by omega)), le1_e]
  | succ d ih =>
    intro i k S hi hk h hs hw
    obtain ⟨k, rfl⟩ : ∃ q, k = q + 1 := ⟨k - 1, by omega⟩
    obtain ⟨S1, r1, r2, r3, r4⟩ := m_a193 (K := f_X12_ask_183 k) (x := x) (t := i) hC hz (by omega) (cW C) 0 5000 S (by omega) (by omega) h hs (fun w hw => absurd hw (Nat.not_lt_zero w))
    have f1 : fN aS S S1 := fN_mo r4 (fun b k q => q.elim Or.inl (fun x => Or.inr x.1))
    obtain ⟨S', q1, q2, q3⟩ := ih (i + 1) k S1 (by omega) (by omega) (mC_f h f1 (fun b k q => by unfold aS eP at q; unfold crM; omega)) (mZ_f hs f1 (fun b k q => by unfold aS eP at q; omega)) (fun t ht => by
      by_cases e : t = i
      · subst e; exact ⟨r2, r3⟩
      · obtain ⟨g1, g2⟩ := hw t (by omega)
        refine ⟨by rw [r4.1 59 _ (by unfold aR eP; omega)]; exact g1, fun w hw2 => by rw [r4.1 59 _ (by unfold aR eP; omega)]; exact g2 w hw2⟩)
    refine ⟨S', ?_, q2, fN_tr f1 q3⟩
    rw [f_X12_ask_183, m_tm, ob2_s, h.1.2.1, if_neg (nI_ge (by omega) (by omega))]
    exact r1.trans q1
theorem sJ_v {S : Hp} {a k : Nat} {v : Int64} : (ho_sJ S a k v).2.1 a k = v := by rw [ho_uJ, pk_uLs]
theorem sJ_q {S : Hp} {a k b j : Nat} {v : Int64} (h : ¬ (b = a ∧ j = k)) : (ho_sJ S a k v).2.1 b j = S.2.1 b j := by
  by_cases e : b = a
  · subst e
    rw [ho_uJ, pk_uLn (fun q => h ⟨rfl, q⟩)]
  · exact congrFun (if_neg e) j
/-- what the reference's answering writes -/
def fA (S S' : Hp) : Prop := (∀ b k, ¬ (b = 0 ∧ (k = 106 ∨ k = 108)) → S'.1 b k = S.1 b k) ∧ (∀ b k, ¬ (b = 106 ∨ (b = 0 ∧ k = 107)) → S'.2.1 b k = S.2.1 b k)
theorem fA_rf (S : Hp) : fA S S := ⟨fun _ _ _ => rfl, fun _ _ _ => rfl⟩
theorem fA_tr {S S1 S2 : Hp} (h1 : fA S S1) (h2 : fA S1 S2) : fA S S2 := ⟨fun b k h => (h2.1 b k h).trans (h1.1 b k h), fun b k h => (h2.2 b k h).trans (h1.2 b k h)⟩
theorem fA_F {S S' : Hp} (h : evF S S') : fA S S' := ⟨fun b k q => by
  by_cases e : b = 0
  · subst e; exact h.2.1 k (fun x => q ⟨rfl, Or.inl x⟩)
  · rw [h.1 b e], fun b k q => by rw [h.2.2.1 b (fun x => q (Or.inl x))]⟩
theorem fA_i (S : Hp) (v : Int32) : fA S (ho_sI S 0 108 v) := ⟨fun b k q => by
  by_cases e : b = 0
  · subst e; exact sI_k (fun x => q ⟨rfl, Or.inr x⟩)
  · rw [sI_ne _ e], fun _ _ _ => rfl⟩
theorem fA_j (S : Hp) (v : Int64) : fA S (ho_sJ S 0 107 v) := ⟨fun _ _ _ => rfl, fun b k q => sJ_q (fun x => q (Or.inr x))⟩
theorem m_tks {S : Hp} {kd t : Nat} {a v : Int} (h6 : kd < 6) (ht : t < 6) (h107 : S.2.1 0 107 = LL a) (h108 : S.1 0 108 = (if t = 0 then 1 else 0)) (ha : -7000001 ≤ a ∧ a ≤ 7000001) (hv : gQ kd v) : ∃ S', f_X12_qTakes (nI kd) (LL v) (nI t) S = some S' ∧ S'.2.1 0 107 = LL (qN kd t a v) ∧ S'.1 0 108 = 0 ∧ fA S S' := by
  obtain ⟨⟨v1, v2⟩, vb⟩ := hv
  have et : (nI t).toInt64 = LL (t : Int) := by rw [LL_i, nI_toInt (by omega)]
  have e133 : ∀ Sx, f_X12_qTakes_133 Sx = some (ho_sI Sx 0 108 0) := fun Sx => by unfold f_X12_qTakes_133; rw [le1_e]
  have e128 : ∀ y Sx, f_X12_qTakes_128 y Sx = some (ho_sI (ho_sJ Sx 0 107 y) 0 108 0) := fun y Sx => by unfold f_X12_qTakes_128; rw [le1_e, e133]
  have e90 : ∀ y Sx, kd ≤ 3 → f_X12_qTakes_90 (nI kd) y Sx = some (ho_sI Sx 0 108 0) := fun y Sx hk => by
    unfold f_X12_qTakes_90
    rw [if_pos ((leL 3 (by omega) (by decide)).mpr hk), e133]
  have e75 : ∀ y Sx, kd < 3 → f_X12_qTakes_75 (nI kd) y Sx = some (ho_sI Sx 0 108 0) := fun y Sx hk => by
    unfold f_X12_qTakes_75
    rw [if_neg (fun q => absurd ((eqL 3 (by omega) (by decide)).mp q) (by omega)), e90 _ _ (by omega)]
  have keep : qN kd t a v = a → ∃ S', some (ho_sI S 0 108 0) = some S' ∧ S'.2.1 0 107 = LL (qN kd t a v) ∧ S'.1 0 108 = 0 ∧ fA S S' := fun e => ⟨_, rfl, by rw [e]; exact h107, sI_v, fA_i S 0⟩
  have put : ∀ y, qN kd t a v = y → ∃ S', some (ho_sI (ho_sJ S 0 107 (LL y)) 0 108 0) = some S' ∧ S'.2.1 0 107 = LL (qN kd t a v) ∧ S'.1 0 108 = 0 ∧ fA S S' := fun y e => ⟨_, rfl, by rw [e]; exact sJ_v, sI_v, fA_tr (fA_j S _) (fA_i _ 0)⟩
  unfold f_X12_qTakes
  by_cases e3 : kd < 3
  · have hb := vb e3
    rw [if_neg (fun q => absurd ((geL 3 (by omega) (by decide)).mp q) (by omega))]
    have e1 : (lg_cmp (LL v) (1 : Int64) = 0) ↔ v = 1 := by
      rw [LLp1]
      exact c_eq (a := v) (b := 1) (by omega) (by omega) (by omega) (by omega)
    have em : (lg_cmp (LL a) (-1 : Int64) = 0) ↔ a = -1 := by
      rw [LLm1]
      exact c_eq (a := a) (b := -1) (by omega) (by omega) (by omega) (by omega)
    have k3 : kd = 0 ∨ kd = 1 ∨ kd = 2 := by omega
    rcases hb with rfl | rfl
    · rw [if_neg (fun q => absurd (e1.mp q) (by decide))]
      unfold f_X12_qTakes_15 f_X12_qTakes_16 f_X12_qTakes_38 f_X12_qTakes_55
      rcases k3 with rfl | rfl | rfl
      · rw [if_pos (show nI 0 = (0 : Int32) from rfl), if_pos rfl, if_neg (show ¬ nI 0 = (1 : Int32) by decide), if_neg (show ¬ nI 0 = (2 : Int32) by decide), e75 _ _ (by decide)]
        exact keep (by rw [qN_0, if_neg (fun q => q.2 rfl)])
      · rw [if_neg (show ¬ nI 1 = (0 : Int32) by decide), if_pos (show nI 1 = (1 : Int32) from rfl), if_pos rfl, if_neg (show ¬ nI 1 = (2 : Int32) by decide), e75 _ _ (by decide)]
        exact keep (by rw [qN_1, if_neg (fun q => q rfl)])
      · rw [if_neg (show ¬ nI 2 = (0 : Int32) by decide), if_neg (show ¬ nI 2 = (1 : Int32) by decide), if_pos (show nI 2 = (2 : Int32) from rfl), if_pos rfl, e75 _ _ (by decide)]
        exact keep (by rw [qN_2, Int.add_zero])
    · rw [if_pos (e1.mpr rfl)]
      unfold f_X12_qTakes_16 f_X12_qTakes_38 f_X12_qTakes_48 f_X12_qTakes_55
      rcases k3 with rfl | rfl | rfl
      · rw [if_pos (show nI 0 = (0 : Int32) from rfl), if_neg ne1, h107]
        by_cases q : a = -1
        · rw [if_pos (em.mpr q), le1_e, if_neg (show ¬ nI 0 = (2 : Int32) by decide), e75 _ _ (by decide), et]
          exact put _ (by rw [qN_0, if_pos ⟨q, by decide⟩])
        · rw [if_neg (fun x => q (em.mp x)), if_neg (show ¬ nI 0 = (1 : Int32) by decide), if_neg (show ¬ nI 0 = (2 : Int32) by decide), e75 _ _ (by decide)]
          exact keep (by rw [qN_0, if_neg (fun x => q x.1)])
      · rw [if_neg (show ¬ nI 1 = (0 : Int32) by decide), if_pos (show nI 1 = (1 : Int32) from rfl), if_neg ne1, le1_e, if_neg (show ¬ nI 1 = (2 : Int32) by decide), e75 _ _ (by decide), et]
        exact put _ (by rw [qN_1, if_pos (show (1 : Int) ≠ 0 by decide)])
      · rw [if_neg (show ¬ nI 2 = (0 : Int32) by decide), if_neg (show ¬ nI 2 = (1 : Int32) by decide), if_pos (show nI 2 = (2 : Int32) from rfl), if_neg ne1, le1_e, e75 _ _ (by decide), h107, LLp1, show LL a + LL 1 = LL (a + 1) from (Int64.ofInt_add _ _).symm]
        exact put _ rfl
  · rw [if_pos ((geL 3 (by omega) (by decide)).mpr (by omega))]
    unfold f_X12_qTakes_15 f_X12_qTakes_16 f_X12_qTakes_38 f_X12_qTakes_55 f_X12_qTakes_75
    rw [if_neg (fun q => absurd ((eqL 0 (by omega) (by decide)).mp q) (by omega)), if_neg (fun q => absurd ((eqL 1 (by omega) (by decide)).mp q) (by omega)), if_neg (fun q => absurd ((eqL 2 (by omega) (by decide)).mp q) (by omega))]
    have k3 : kd = 3 ∨ kd = 4 ∨ kd = 5 := by omega
    rcases k3 with rfl | rfl | rfl
    · rw [if_pos (show nI 3 = (3 : Int32) from rfl), le1_e, e90 _ _ (by decide), h107, show LL a + LL v = LL (a + v) from (Int64.ofInt_add _ _).symm]
      exact put _ rfl
    · rw [if_neg (show ¬ nI 4 = (3 : Int32) by decide)]
      unfold f_X12_qTakes_90
      rw [if_neg (show ¬ nI 4 ≤ (3 : Int32) by decide), h108, h107, e128, e133]
      by_cases t0 : t = 0
      · rw [if_pos t0, if_neg ne1]
        exact put _ (by rw [qN_4, if_pos t0])
      · rw [if_neg t0, if_pos rfl, if_pos (show nI 4 = (4 : Int32) from rfl)]
        by_cases q : v ≤ a
        · rw [if_pos ((c_le (by omega) (by omega) (by omega) (by omega)).mpr q)]
          exact keep (by rw [qN_4, if_neg t0, if_neg (show ¬ a < v by omega)])
        · rw [if_neg (fun x => q ((c_le (by omega) (by omega) (by omega) (by omega)).mp x))]
          exact put _ (by rw [qN_4, if_neg t0, if_pos (show a < v by omega)])
    · rw [if_neg (show ¬ nI 5 = (3 : Int32) by decide)]
      unfold f_X12_qTakes_90
      rw [if_neg (show ¬ nI 5 ≤ (3 : Int32) by decide), h108, h107, e128, e133]
      by_cases t0 : t = 0
      · rw [if_pos t0, if_neg ne1]
        exact put _ (by rw [qN_5, if_pos t0])
      · rw [if_neg t0, if_pos rfl, if_neg (show ¬ nI 5 = (4 : Int32) by decide)]
        by_cases q : a ≤ v
        · rw [if_pos ((c_ge (by omega) (by omega) (by omega) (by omega)).mpr q)]
          exact keep (by rw [qN_5, if_neg t0, if_neg (show ¬ v < a by omega)])
        · rw [if_neg (fun x => q ((c_ge (by omega) (by omega) (by omega) (by omega)).mp x))]
          exact put _ (by rw [qN_5, if_neg t0, if_pos (show v < a by omega)])
theorem mC_A {S S' : Hp} {C : Cr} (h : mC S C) (hf : fA S S') : mC S' C := mC_j h (fun b k q _ => hf.1 b k (by unfold crM at q; omega))
theorem m_a258 {C : Cr} {z : Nat → Nat} {kd : Nat} {cs : List Nat} (hC : okCr C) (hz : okZ C z) (h6 : kd < 6) (hq : okQ (gQ kd) cs) : ∀ (d i k : Nat) (S : Hp), i + d = cT C → d < k → mC S C → mZ S C z → m59 S C z → S.1 0 100 = nI cs.length → lsC S 100 cs → S.2.1 0 107 = LL (qA kd (qv C z cs) i) → S.1 0 108 = (if i = 0 then 1 else 0) → ∃ S', f_X12_ask_258 k (nI kd) (nI i) S = some (LL (qA kd (qv C z cs) (cT C)), S') ∧ fA S S' := by
  have hnt := hC.1.2.1
  intro d
  induction d with
  | zero =>
    intro i k S hi hk h hs h59 h100 hcs h107 h108
    obtain ⟨k, rfl⟩ : ∃ q, k = q + 1 := ⟨k - 1, by omega⟩
    refine ⟨S, ?_, fA_rf S⟩
    rw [f_X12_ask_258, m_tm, ob2_s, h.1.2.1, if_pos (nI_le (by omega) (by omega)), h107, show i = cT C by omega]
  | succ d ih =>
    intro i k S hi hk h hs h59 h100 hcs h107 h108
    obtain ⟨k, rfl⟩ : ∃ q, k = q + 1 := ⟨k - 1, by omega⟩
    have hti : i < cT C := by omega
    obtain ⟨S1, r1, r2⟩ := m_told hC hz hti hq h100 hcs h hs h59
    have hA := qA_in (kd := kd) (f := qv C z cs) i (fun j hj => (qv_in hC hz hq (by omega)).1)
    obtain ⟨S2, t1, t2, t3, t4⟩ := m_tks (S := S1) (kd := kd) (t := i) (a := qA kd (qv C z cs) i) (v := qv C z cs i) h6 (by omega) (by rw [r2.2.2.1 0 (by decide)]; exact h107) (by rw [r2.2.1 108 (by decide)]; exact h108) ⟨by omega, by omega⟩ (qv_in hC hz hq hti)
    have f2 := fA_tr (fA_F r2) t4
    obtain ⟨S', q1, q2⟩ := ih (i + 1) k S2 (by omega) (by omega) (mC_A h f2) ⟨fun j hj => by rw [f2.1 55 j (by omega)]; exact hs.1 j hj, fun w hw => by rw [f2.1 55 _ (by omega)]; exact hs.2 w hw⟩ (fun t ht => ⟨by rw [f2.1 59 _ (by omega)]; exact (h59 t ht).1, fun w hw => by rw [f2.1 59 _ (by omega)]; exact (h59 t ht).2 w hw⟩) (by rw [f2.1 0 100 (by omega)]; exact h100) (fun j hj => by rw [f2.1 100 j (by omega)]; exact hcs j hj) t2 (by rw [if_neg (by omega)]; exact t3)
    refine ⟨S', ?_, fA_tr f2 q2⟩
    rw [f_X12_ask_258, m_tm, ob2_s, h.1.2.1, if_neg (nI_ge (by omega) (by omega)), r1, ob2_s, t1, ob_s, le1_e, nI_1]
    exact q1
/-- what a question's reading and answering write of the reference -/
def qmP (b k : Nat) : Prop := (b = 0 ∧ (k ≤ 8 ∨ k = 39 ∨ k = 53 ∨ k = 56 ∨ k = 57 ∨ (100 ≤ k ∧ k ≤ 108))) ∨ b = 59 ∨ b = 100 ∨ b = 102
def fB (S S' : Hp) : Prop := (∀ b k, ¬ qmP b k → S'.1 b k = S.1 b k) ∧ (∀ b k, ¬ (b = 106 ∨ (b = 0 ∧ k = 107)) → S'.2.1 b k = S.2.1 b k)
theorem fB_tr {S S1 S2 : Hp} (h1 : fB S S1) (h2 : fB S1 S2) : fB S S2 := ⟨fun b k h => (h2.1 b k h).trans (h1.1 b k h), fun b k h => (h2.2 b k h).trans (h1.2 b k h)⟩
theorem fB_m {P : Nat → Nat → Prop} {S S' : Hp} (h : fM P S S') (hp : ∀ b k, P b k → qmP b k) : fB S S' := ⟨fun b k q => h.1 b k (fun x => q (hp b k x)), fun b k _ => by rw [h.2]⟩
theorem fB_n {P : Nat → Nat → Prop} {S S' : Hp} (h : fN P S S') (hp : ∀ b k, P b k → qmP b k) : fB S S' := ⟨fun b k q => h.1 b k (fun x => q (hp b k x)), fun b k q => by rw [h.2.1 b (fun x => q (Or.inl x))]⟩
theorem fB_A {S S' : Hp} (h : fA S S') : fB S S' := ⟨fun b k q => h.1 b k (fun x => q (by unfold qmP; omega)), h.2⟩
theorem fB_i (S : Hp) (k : Nat) (v : Int32) (hk : qmP 0 k) : fB S (ho_sI S 0 k v) := fB_m (fM_sI (P := qmP) S hk) (fun _ _ q => q)
def qAn (C : Cr) (z : Nat → Nat) : Except (Nat × Nat) (Nat × List Nat) → Int64
  | .ok (kd, cs) => LL (qA kd (qv C z cs) (cT C))
  | .error _ => (-1000000000000000 : Int64)
def qFl : Except (Nat × Nat) (Nat × List Nat) → Int32 × Int32
  | .ok _ => (0, -1)
  | .error e => (nI e.1, nI e.2)
theorem mC_B {S S' : Hp} {C : Cr} (h : mC S C) (hf : fB S S') : mC S' C := mC_j h (fun b k q _ => hf.1 b k (by unfold crM at q; unfold qmP; omega))
theorem mZ_B {S S' : Hp} {C : Cr} {z : Nat → Nat} (hs : mZ S C z) (hf : fB S S') : mZ S' C z := ⟨fun j hj => by rw [hf.1 55 j (by unfold qmP; omega)]; exact hs.1 j hj, fun w hw => by rw [hf.1 55 _ (by unfold qmP; omega)]; exact hs.2 w hw⟩
theorem m_ask {S : Hp} {T : Tp} {C : Cr} {z : Nat → Nat} (hC : okCr C) (hz : okZ C z) (h : mT S T) (hW : mWs S) (hcr : ¬ S.1 0 52 = 0) (hc : mC S C) (hs : mZ S C z) : ∃ S', f_X12_ask S = some (qAn C z (qT T), S') ∧ S'.1 0 1 = 0 ∧ S'.1 0 7 = (qFl (qT T)).1 ∧ S'.1 0 8 = (qFl (qT T)).2 ∧ fB S S' := by
  have hnt := hC.1.2.1
  obtain ⟨r, S1, a1, a2, a3, a4⟩ := m_readQ h hW hcr
  have f1 : fB S S1 := fB_m a4 (fun b k q => by unfold qmR pP at q; unfold qmP; omega)
  obtain ⟨S2, hS2⟩ : ∃ S2, S2 = ho_sI (ho_sI S1 0 7 (S1.1 0 5)) 0 8 (S1.1 0 6) := ⟨_, rfl⟩
  have f2 : fB S S2 := by
    rw [hS2]
    exact fB_tr f1 (fB_tr (fB_i _ 7 _ (by unfold qmP; omega)) (fB_i _ 8 _ (by unfold qmP; omega)))
  have e1 : S2.1 0 1 = 0 := by rw [hS2, sI_k (by decide), sI_k (by decide)]; exact a3
  have e5 : S2.1 0 5 = S1.1 0 5 := by rw [hS2, sI_k (by decide), sI_k (by decide)]
  have e7 : S2.1 0 7 = S1.1 0 5 := by rw [hS2, sI_k (by decide), sI_v]
  have e8 : S2.1 0 8 = S1.1 0 6 := by rw [hS2, sI_v]
  have g133 : ∀ x : Int32, f_X12_ask_133 x S1 = if (S2.1 0 5) = 0 then if (2 : Int32) ≤ x then f_X12_ask_173 x (0 : Int64) S2 else f_X12_ask_173 x (-1 : Int64) S2 else some ((-1000000000000000 : Int64), S2) := by
    intro x
    unfold f_X12_ask_133
    rw [le1_e, sI_k (by decide), le1_e, ← hS2]
  rw [a1, g133]
  cases hq : qT T with
  | error e =>
    rw [hq] at a2
    rw [e5, if_neg (bR_0 a2)]
    exact ⟨S2, rfl, e1, by rw [e7]; exact a2.2.1, by rw [e8]; exact a2.2.2, f2⟩
  | ok p =>
    obtain ⟨kd, cs⟩ := p
    rw [hq] at a2
    obtain ⟨rfl, h6, b5, b6, b100, bcs, bq⟩ := a2
    have g173 : ∀ y : Int64, f_X12_ask_173 (nI r) y S2 = f_X12_ask_183 5000 (nI r) (0 : Int32) (ho_sI (ho_sJ S2 0 107 y) 0 108 1) := by
      intro y
      unfold f_X12_ask_173
      rw [le1_e, le1_e]
    have ez : (if (2 : Int32) ≤ nI r then f_X12_ask_173 (nI r) (0 : Int64) S2 else f_X12_ask_173 (nI r) (-1 : Int64) S2) = f_X12_ask_173 (nI r) (LL (qA r (qv C z cs) 0)) S2 := by
      rw [qA]
      by_cases q : r < 2
      · rw [if_neg (fun x => absurd ((geL 2 (by omega) (by decide)).mp x) (by omega)), if_pos q]; rfl
      · rw [if_pos ((geL 2 (by omega) (by decide)).mpr (by omega)), if_neg q]; rfl
    rw [e5, b5, if_pos rfl, ez, g173]
    obtain ⟨S3, hS3⟩ : ∃ S3, S3 = ho_sI (ho_sJ S2 0 107 (LL (qA r (qv C z cs) 0))) 0 108 1 := ⟨_, rfl⟩
    have f23 : fA S2 S3 := by rw [hS3]; exact fA_tr (fA_j _ _) (fA_i _ _)
    have f3 : fB S S3 := fB_tr f2 (fB_A f23)
    obtain ⟨S4, c1, c2, c3⟩ := m_a183 (x := nI r) hC hz (cT C) 0 5000 S3 (by omega) (by omega) (mC_B hc f3) (mZ_B hs f3) (fun t ht => absurd ht (Nat.not_lt_zero t))
    have f34 : fB S3 S4 := fB_n c3 (fun b k q => by unfold aS eP at q; unfold qmP; omega)
    have f4 := fB_tr f3 f34
    obtain ⟨S5, hS5⟩ : ∃ S5, S5 = ho_sI S4 0 53 (2 : Int32) := ⟨_, rfl⟩
    have f45 : fM (fun b k => b = 0 ∧ k = 53) S4 S5 := by rw [hS5]; exact fM_sI S4 ⟨rfl, rfl⟩
    have f5 : fB S S5 := fB_tr f4 (fB_m f45 (fun b k q => by unfold qmP; omega))
    have g0 : ∀ k, k ≠ 53 → k ≠ 56 → k ≠ 57 → k ≠ 106 → k ≠ 108 → S5.1 0 k = S2.1 0 k := fun k h1 h2 h3 h4 h5 => by
      rw [f45.1 0 k (by omega), c3.1 0 k (by unfold aS eP; omega), f23.1 0 k (by omega)]
    have g2 : ∀ k, k ≠ 7 → k ≠ 8 → S2.1 0 k = S1.1 0 k := fun k h1 h2 => by rw [hS2, sI_k h2, sI_k h1]
    have gL : S5.2.1 0 107 = LL (qA r (qv C z cs) 0) := by
      rw [f45.2, c3.2.1 0 (by decide), hS3]
      exact sJ_v
    have g108 : S5.1 0 108 = 1 := by
      rw [f45.1 0 108 (by omega), c3.1 0 108 (by unfold aS eP; omega), hS3, sI_v]
    have g100 : ∀ j, S5.1 100 j = S1.1 100 j := fun j => by
      rw [f45.1 100 j (by omega), c3.1 100 j (by unfold aS eP; omega), f23.1 100 j (by omega), hS2, sI_ne _ (by decide), sI_ne _ (by decide)]
    obtain ⟨S6, d1, d2⟩ := m_a258 hC hz h6 bq (cT C) 0 5000 S5 (by omega) (by omega) (mC_B hc f5) (mZ_B hs f5) (fun t ht => ⟨by rw [f45.1 59 _ (by omega)]; exact (c2 t ht).1, fun w hw => by rw [f45.1 59 _ (by omega)]; exact (c2 t ht).2 w hw⟩) (by rw [g0 100 (by decide) (by decide) (by decide) (by decide) (by decide), g2 100 (by decide) (by decide)]; exact b100) (fun j hj => by rw [g100]; exact bcs j hj) gL (by rw [if_pos rfl]; exact g108)
    refine ⟨S6, ?_, ?_, ?_, ?_, fB_tr f5 (fB_A d2)⟩
    · rw [← hS3, show f_X12_ask_183 5000 (nI r) (0 : Int32) S3 = _ from c1, ← hS5]
      exact d1
    · rw [d2.1 0 1 (by omega), g0 1 (by decide) (by decide) (by decide) (by decide) (by decide)]; exact e1
    · rw [d2.1 0 7 (by omega), g0 7 (by decide) (by decide) (by decide) (by decide) (by decide), e7]; exact b5
    · rw [d2.1 0 8 (by omega), g0 8 (by decide) (by decide) (by decide) (by decide) (by decide), e8]; exact b6

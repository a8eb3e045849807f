/-! level 2: the reference's stage: its crown and state as plain numbers; sights, what appears -/
def fN (P : Nat → Nat → Prop) (S S' : Hp) : Prop := (∀ b k, ¬ P b k → S'.1 b k = S.1 b k) ∧ (∀ b, b ≠ 106 → S'.2.1 b = S.2.1 b) ∧ S'.2.2 = S.2.2
theorem fN_rf (P : Nat → Nat → Prop) (S : Hp) : fN P S S := ⟨fun _ _ _ => rfl, fun _ _ => rfl, rfl⟩
theorem fN_tr {P : Nat → Nat → Prop} {S S1 S2 : Hp} (h1 : fN P S S1) (h2 : fN P S1 S2) : fN P S S2 := ⟨fun b k h => (h2.1 b k h).trans (h1.1 b k h), fun b h => (h2.2.1 b h).trans (h1.2.1 b h), h2.2.2.trans h1.2.2⟩
theorem fN_mo {P Q : Nat → Nat → Prop} {S S' : Hp} (h : fN P S S') (hq : ∀ b k, P b k → Q b k) : fN Q S S' := ⟨fun b k hb => h.1 b k (fun q => hb (hq b k q)), h.2⟩
theorem fN_sA {P : Nat → Nat → Prop} (S : Hp) {a : Nat} {g : Nat → Int32} (hp : ∀ k, S.1 a k ≠ g k → P a k) : fN P S (ho_sA S a g) := by
  refine ⟨fun b k h => ?_, fun _ _ => rfl, rfl⟩
  by_cases e : b = a
  · subst e
    rw [sA_at]
    exact Classical.byContradiction (fun q => h (hp k (Ne.symm q)))
  · rw [sA_ne _ _ e]
theorem fN_sI {P : Nat → Nat → Prop} (S : Hp) {a k : Nat} {v : Int32} (hp : P a k) : fN P S (ho_sI S a k v) := by
  rw [sI_A]
  refine fN_sA S (fun j hj => ?_)
  by_cases e : j = k
  · subst e; exact hp
  · rw [pk_un e] at hj; exact absurd rfl hj
def eP (b k : Nat) : Prop := b = 0 ∧ (k = 53 ∨ k = 56 ∨ k = 57 ∨ k = 106)
theorem evG_N {S S' : Hp} (h : evG S S') : fN eP S S' := by
  refine ⟨fun b k hb => ?_, h.2.2.1, h.2.2.2⟩
  by_cases e : b = 0
  · subst e
    exact h.2.1 k (fun q => hb (by unfold eP; omega)) (fun q => hb (by unfold eP; omega)) (fun q => hb (by unfold eP; omega)) (fun q => hb (by unfold eP; omega))
  · rw [h.1 b e]
/-- a crown's sum in the reference: told, or as it is without one -/
def mF (S : Hp) (w : Nat) (cs : List Nat) : Prop := codM S w cs ∨ (S.1 48 (2 + w) = -1 ∧ cs = if w = 0 then [44] else [1010])
def mC (S : Hp) (C : Cr) : Prop :=
  (S.1 41 3 = nI (cP C) ∧ S.1 41 4 = nI (cT C) ∧ S.1 41 5 = nI (cW C)) ∧ (S.1 43 3 = nI (cR C 0 0) ∧ S.1 43 5 = nI (cR C 0 1) ∧ S.1 47 3 = nI (cR C 0 2)) ∧ (∀ p, p < cP C → S.1 44 (13 + 2 * p) = nI (cR C 1 p)) ∧ (∀ t, t < cT C → S.1 45 (18 + 3 * t) = nI (cR C 2 t) ∧ S.1 45 (19 + 3 * t) = nI (cR C 3 t) ∧ S.1 45 (20 + 3 * t) = nI (cR C 4 t)) ∧ (∀ w, w < cW C → S.1 46 (11 + 2 * w) = nI (cR C 5 w)) ∧ mF S 0 (cS C) ∧ mF S 1 (cL C)
def crM (b : Nat) : Prop := b = 41 ∨ (43 ≤ b ∧ b ≤ 50)
theorem codM_f {S S' : Hp} {w : Nat} {cs : List Nat} (h : codM S w cs) (h1 : S'.1 48 (2 + w) = S.1 48 (2 + w)) (h2 : S'.1 49 (2 + w) = S.1 49 (2 + w)) (h3 : ∀ j, S'.1 50 (1600 + j) = S.1 50 (1600 + j)) : codM S' w cs := by
  obtain ⟨f, a, b, c, d, e⟩ := h
  exact ⟨f, a, h1.trans b, h2.trans c, fun j hj => (h3 _).trans (d j hj), e⟩
theorem mF_f {P : Nat → Nat → Prop} {S S' : Hp} {w : Nat} {cs : List Nat} (h : mF S w cs) (hf : fN P S S') (hp : ∀ b k, P b k → ¬ crM b) : mF S' w cs := by
  have g : ∀ b k, crM b → S'.1 b k = S.1 b k := fun b k hb => hf.1 b k (fun q => hp b k q hb)
  rcases h with h | h
  · exact Or.inl (codM_f h (g 48 _ (by unfold crM; omega)) (g 49 _ (by unfold crM; omega)) (fun j => g 50 _ (by unfold crM; omega)))
  · exact Or.inr ⟨(g 48 _ (by unfold crM; omega)).trans h.1, h.2⟩
theorem mC_f {P : Nat → Nat → Prop} {S S' : Hp} {C : Cr} (h : mC S C) (hf : fN P S S') (hp : ∀ b k, P b k → ¬ crM b) : mC S' C := by
  have g : ∀ b k, crM b → S'.1 b k = S.1 b k := fun b k hb => hf.1 b k (fun q => hp b k q hb)
  obtain ⟨⟨a1, a2, a3⟩, ⟨b1, b2, b3⟩, c, d, e, f1, f2⟩ := h
  have g41 := fun k => g 41 k (by unfold crM; omega)
  have g43 := fun k => g 43 k (by unfold crM; omega)
  have g44 := fun k => g 44 k (by unfold crM; omega)
  have g45 := fun k => g 45 k (by unfold crM; omega)
  have g46 := fun k => g 46 k (by unfold crM; omega)
  have g47 := fun k => g 47 k (by unfold crM; omega)
  unfold mC
  simp only [g41, g43, g44, g45, g46, g47]
  exact ⟨⟨a1, a2, a3⟩, ⟨b1, b2, b3⟩, c, d, e, mF_f f1 hf hp, mF_f f2 hf hp⟩
def mZ (S : Hp) (C : Cr) (z : Nat → Nat) : Prop := (∀ k, k < 21 → S.1 55 k = nI (z k)) ∧ ∀ w, w < cW C → S.1 55 (21 + w) = nI (z (21 + w))
def mK (S : Hp) (kl : List Nat) : Prop := kpO kl ∧ S.1 55 26 = nI (kl.length / 3) ∧ ∀ j, j < kl.length → S.1 55 (27 + j) = nI (kl.getD j 0)
theorem mZ_f {P : Nat → Nat → Prop} {S S' : Hp} {C : Cr} {z : Nat → Nat} (h : mZ S C z) (hf : fN P S S') (hp : ∀ b k, P b k → b ≠ 55) : mZ S' C z := by
  have g : ∀ k, S'.1 55 k = S.1 55 k := fun k => hf.1 55 k (fun q => hp 55 k q rfl)
  exact ⟨fun k hk => (g k).trans (h.1 k hk), fun w hw => (g _).trans (h.2 w hw)⟩
theorem mK_f {P : Nat → Nat → Prop} {S S' : Hp} {kl : List Nat} (h : mK S kl) (hf : fN P S S') (hp : ∀ b k, P b k → b ≠ 55 ∨ k < 26) : mK S' kl := by
  refine ⟨h.1, (hf.1 55 26 (fun q => ?_)).trans h.2.1, fun j hj => (hf.1 55 _ (fun q => ?_)).trans (h.2.2 j hj)⟩
  · have := hp _ _ q; omega
  · have := hp _ _ q; omega
theorem eP_c {b k : Nat} (h : eP b k) : ¬ crM b := by unfold eP at h; unfold crM; omega
theorem mC_e {S S' : Hp} {C : Cr} (h : mC S C) (hf : fN eP S S') : mC S' C := mC_f h hf (fun _ _ q => eP_c q)
theorem mZ_e {S S' : Hp} {C : Cr} {z : Nat → Nat} (h : mZ S C z) (hf : fN eP S S') : mZ S' C z := mZ_f h hf (fun _ _ q => by unfold eP at q; omega)
theorem vl_one (pf : Nat → Int) (c : Nat) (hc : 40 ≤ c) (hc2 : c < 51) : vl pf [c] = pf (c - 40) := by
  unfold vl
  rw [evA, stA, if_neg (by omega), if_neg (by omega), if_pos hc]
  rfl
theorem vl_num (pf : Nat → Int) (c : Nat) (hc : 1000 ≤ c) : vl pf [c] = (c : Int) - 1000 := by
  unfold vl
  rw [evA, stA, if_pos hc]
  rfl
theorem m_ptS {S : Hp} {C : Cr} {z : Nat → Nat} {t w seat : Nat} (hC : okCr C) (hz : okZ C z) (h : mC S C) (hs : mZ S C z) (ht : t < cT C) (hw : w < cW C) (hse : seat ≤ 9) : (fun q => (ptS S t w (nI seat) q).toInt) = fct C z t w seat := by
  have hnt := hC.1.2.1
  obtain ⟨t1, t2, t3⟩ := hC.2.2.2.1 t ht
  have w1 := hC.2.2.2.2.1 w hw
  have k1 := hz.2.2.2.2.1 t (by omega)
  have z0 := hz.1
  have z2 := hz.2.2.1
  obtain ⟨e1, e2, e3⟩ := h.2.2.2.1 t ht
  have e4 := h.2.2.2.2.1 w hw
  funext q
  unfold ptS fct
  rw [e1, e3, e4, hs.1 (9 + t) (by omega), hs.1 0 (by omega), hs.1 2 (by omega)]
  split
  · exact nI_toInt (by omega)
  split
  · exact nI_toInt (by omega)
  split
  · exact nI_toInt (by omega)
  split
  · exact nI_toInt (by omega)
  split
  · exact nI_toInt (by omega)
  split
  · exact nI_toInt (by omega)
  · exact nI_toInt (by omega)
theorem m_sg {S : Hp} {C : Cr} {z : Nat → Nat} {t w seat : Nat} (hC : okCr C) (hz : okZ C z) (h : mC S C) (hs : mZ S C z) (ht : t < cT C) (hw : w < cW C) (hse : seat ≤ 9) :
    ∃ S', f_X12_sightBy (nI t) (nI w) (nI seat) S = some (nI (sg C z t w seat), S') ∧ fN eP S S' := by
  have hnt := hC.1.2.1
  have hnw := hC.1.2.2
  have w1 := hC.2.2.2.2.1 w hw
  have hin := fct_in hC hz ht w1 hse
  have e := m_ptS hC hz h hs ht hw hse
  rcases h.2.2.2.2.2.1 with hc | ⟨hc, hd⟩
  · obtain ⟨v1, v2⟩ := vl_ok (qf := fun _ => 0) (pf' := fct C z t w seat) hC.2.2.2.2.2.1 hin (fun _ _ => rfl)
    have hcC := alw_C hC.2.2.2.2.2.1.2.1
    obtain ⟨S', r1, r2⟩ := m_sight1 (S := S) (t := t) (w := w) (seat := nI seat) (cs := cS C) (v := vl (fct C z t w seat) (cS C)) (by omega) (by omega) hc (fun q _ => by rw [show (ptS S t w (nI seat) q).toInt = fct C z t w seat q from congrFun e q]; exact hin q) (by rw [e]; exact evS_A _ _ _ hcC v1) v2
    rw [c99_n] at r1
    exact ⟨S', r1, evG_N r2⟩
  · refine ⟨S, ?_, fN_rf _ S⟩
    rw [m_sight0 (by omega) hc, h.2.2.2.2.1 w hw]
    rw [if_pos rfl] at hd
    unfold sg
    rw [hd, vl_one _ 44 (by decide) (by decide)]
    show some (nI (cR C 5 w), S) = some (nI (n99 ((cR C 5 w : Nat) : Int)), S)
    unfold n99
    rw [if_pos (by omega), if_pos (by omega)]
    rfl
theorem m_sT_loop {t : Nat} {C : Cr} {z : Nat → Nat} (hC : okCr C) (hz : okZ C z) (ht : t < cT C) : ∀ (d i k : Nat) (S : Hp), i + d = cW C → d < k → mC S C → mZ S C z →
    ∃ S', f_X12_sightOf_4 k (nI t) (nI (smT (fun w => sg C z t w (z (21 + w))) i)) (nI i) S = some (nI (sgT C z t), S') ∧ fN eP S S' := by
  have hnw := hC.1.2.2
  intro d
  induction d with
  | zero =>
    intro i k S hi hk h hs
    obtain ⟨k, rfl⟩ : ∃ q, k = q + 1 := ⟨k - 1, by omega⟩
    refine ⟨S, ?_, fN_rf _ S⟩
    rw [f_X12_sightOf_4, m_wm, ob2_s, h.1.2.2, if_pos (nI_le (by omega) (by omega)), show i = cW C by omega]
    rfl
  | succ d ih =>
    intro i k S hi hk h hs
    obtain ⟨k, rfl⟩ : ∃ q, k = q + 1 := ⟨k - 1, by omega⟩
    have hz6 := hz.2.2.2.2.2.2.1 i (by omega)
    obtain ⟨S1, r1, r2⟩ := m_sg (w := i) hC hz h hs ht (by omega) hz6
    obtain ⟨S2, r3, r4⟩ := ih (i + 1) k S1 (by omega) (by omega) (mC_e h r2) (mZ_e hs r2)
    refine ⟨S2, ?_, fN_tr r2 r4⟩
    rw [f_X12_sightOf_4, m_wm, ob2_s, h.1.2.2, if_neg (nI_ge (by omega) (by omega)), m_seat (by omega), ob2_s, hs.2 i (by omega), r1, ob2_s, le1_e, le1_e, nI_add, nI_1]
    exact r3
theorem m_sT {S : Hp} {t : Nat} {C : Cr} {z : Nat → Nat} (hC : okCr C) (hz : okZ C z) (ht : t < cT C) (h : mC S C) (hs : mZ S C z) : ∃ S', f_X12_sightOf (nI t) S = some (nI (sgT C z t), S') ∧ fN eP S S' :=
  m_sT_loop hC hz ht (cW C) 0 5000 S (by omega) (by have := hC.1.2.2; omega) h hs
theorem m_sW_loop {w seat : Nat} {C : Cr} {z : Nat → Nat} (hC : okCr C) (hz : okZ C z) (hw : w < cW C) (hse : seat ≤ 9) : ∀ (d i k : Nat) (S : Hp), i + d = cT C → d < k → mC S C → mZ S C z →
    ∃ S', f_X12_sightAll_5 k (nI w) (nI seat) (nI (smT (fun t => sg C z t w seat) i)) (nI i) S = some (nI (sgW C z w seat), S') ∧ fN eP S S' := by
  have hnt := hC.1.2.1
  intro d
  induction d with
  | zero =>
    intro i k S hi hk h hs
    obtain ⟨k, rfl⟩ : ∃ q, k = q + 1 := ⟨k - 1, by omega⟩
    refine ⟨S, ?_, fN_rf _ S⟩
    rw [f_X12_sightAll_5, m_tm, ob2_s, h.1.2.1, if_pos (nI_le (by omega) (by omega)), show i = cT C by omega]
    rfl
  | succ d ih =>
    intro i k S hi hk h hs
    obtain ⟨k, rfl⟩ : ∃ q, k = q + 1 := ⟨k - 1, by omega⟩
    obtain ⟨S1, r1, r2⟩ := m_sg (t := i) hC hz h hs (by omega) hw hse
    obtain ⟨S2, r3, r4⟩ := ih (i + 1) k S1 (by omega) (by omega) (mC_e h r2) (mZ_e hs r2)
    refine ⟨S2, ?_, fN_tr r2 r4⟩
    rw [f_X12_sightAll_5, m_tm, ob2_s, h.1.2.1, if_neg (nI_ge (by omega) (by omega)), r1, ob2_s, le1_e, le1_e, nI_add, nI_1]
    exact r3
theorem m_sW {S : Hp} {w seat : Nat} {C : Cr} {z : Nat → Nat} (hC : okCr C) (hz : okZ C z) (hw : w < cW C) (hse : seat ≤ 9) (h : mC S C) (hs : mZ S C z) : ∃ S', f_X12_sightAll (nI w) (nI seat) S = some (nI (sgW C z w seat), S') ∧ fN eP S S' :=
  m_sW_loop hC hz hw hse (cT C) 0 5000 S (by omega) (by have := hC.1.2.1; omega) h hs
theorem m_through {S : Hp} {C : Cr} {z : Nat → Nat} (hC : okCr C) (hz : okZ C z) (h : mC S C) (hs : mZ S C z) : f_X12_throughSet S = some (nI (thr z (cT C)), S) := by
  have hnt := hC.1.2.1
  rw [m_thr hnt h.1.2.1, setN_nat _ _ hnt]
  unfold thr
  rw [setNat_c (cT C) (fun i hi => ?_)]
  rw [hs.1 (15 + i) (by omega)]
  have hk := hz.2.2.2.2.2.1 i (by omega)
  by_cases e : z (15 + i) < 100
  · rw [decide_eq_true ((lt100 (by omega)).mpr e), decide_eq_false (by omega)]; rfl
  · rw [decide_eq_false (fun q => e ((lt100 (by omega)).mp q)), decide_eq_true (by omega)]; rfl
theorem m_allT {S : Hp} {C : Cr} (hC : okCr C) (h : mC S C) : f_X12_allTricks S = some (nI (2 ^ cT C - 1), S) := m_all hC.1.2.1 h.1.2.1
theorem and_sub {s m : Nat} : s &&& m = s ↔ ∀ t, s.testBit t = true → m.testBit t = true := by
  constructor
  · intro h t ht
    exact sub_bit h ht
  · intro h
    apply Nat.eq_of_testBit_eq
    intro t
    rw [Nat.testBit_and]
    by_cases e : s.testBit t = true
    · rw [e, h t e]; rfl
    · simp at e; rw [e]; rfl
theorem and_zer {s m : Nat} : s &&& m = 0 ↔ ∀ t, s.testBit t = true → m.testBit t = false := by
  constructor
  · intro h t ht
    have := congrArg (fun x => Nat.testBit x t) h
    simp only [Nat.testBit_and, Nat.zero_testBit, ht, Bool.true_and] at this
    exact this
  · intro h
    apply Nat.eq_of_testBit_eq
    intro t
    rw [Nat.testBit_and, Nat.zero_testBit]
    by_cases e : s.testBit t = true
    · rw [e, h t e]; rfl
    · simp at e; rw [e]; rfl
theorem pow_64 {n : Nat} (h : n ≤ 6) : 2 ^ n ≤ 64 ∧ 0 < 2 ^ n := ⟨Nat.pow_le_pow_right (n := 2) (by decide) h, Nat.pos_of_ne_zero (by simp)⟩
theorem bit_n {s n t : Nat} (h : s < 2 ^ n) (hb : s.testBit t = true) : t < n := by
  refine Classical.byContradiction (fun q => ?_)
  rw [Nat.testBit_lt_two_pow (Nat.lt_of_lt_of_le h (Nat.pow_le_pow_right (by decide) (Nat.not_lt.mp q)))] at hb
  cases hb
theorem can_iff {C : Cr} {z : Nat → Nat} {s : Nat} : s &&& shw C z = s ↔ (s < 2 ^ cT C ∧ s &&& thr z (cT C) = 0 ∧ (s = 0 ∨ 0 < z 2)) := by
  unfold shw thr
  by_cases e : z 2 = 0
  · rw [if_pos e, Nat.and_zero]
    constructor
    · intro q; subst q
      exact ⟨Nat.pos_of_ne_zero (by simp), Nat.zero_and _, Or.inl rfl⟩
    · rintro ⟨-, -, q | q⟩
      · exact q.symm
      · omega
  · rw [if_neg e, and_sub, and_zer]
    simp only [setNat_bit, Bool.and_eq_true, decide_eq_true_eq, Bool.and_eq_false_iff, decide_eq_false_iff_not]
    constructor
    · intro q
      refine ⟨?_, fun t ht => Or.inr (by have := (q t ht).2; omega), Or.inr (by omega)⟩
      refine Nat.lt_pow_two_of_testBit _ (fun i hi => ?_)
      cases hb : s.testBit i with
      | false => rfl
      | true => have := (q i hb).1; omega
    · rintro ⟨q1, q2, -⟩ t ht
      have := bit_n q1 ht
      refine ⟨this, ?_⟩
      rcases q2 t ht with x | x <;> omega
theorem m_can {S : Hp} {C : Cr} {z : Nat → Nat} {s : Nat} (hC : okCr C) (hz : okZ C z) (h : mC S C) (hs : mZ S C z) (hcr : ¬ S.1 0 52 = 0) (h31 : s < 2 ^ 31) : f_X12_canShow (nI s) S = some (if s &&& shw C z = s then 1 else 0, S) := by
  have hnt := hC.1.2.1
  obtain ⟨p1, p2⟩ := pow_64 hnt
  unfold f_X12_canShow
  rw [if_neg hcr, m_allT hC h, ob2_s, i64_lit0, m_isInI, ob2_s]
  by_cases e : s < 2 ^ cT C
  · have t64 : thr z (cT C) < 64 := setNat_64 _ hnt
    rw [if_pos (show (0 : Int32) ≤ nI s ∧ nI s ≤ nI (2 ^ cT C - 1) from ⟨nI_pos' h31, nI_le (by omega) (by omega)⟩), if_neg ne1, m_through hC hz h hs, ob2_s, and_nat _ (by omega) _ t64]
    by_cases e2 : s &&& thr z (cT C) = 0
    · rw [if_pos (show nI (s &&& thr z (cT C)) = 0 by rw [e2]; rfl)]
      by_cases e3 : s = 0
      · rw [if_pos (show nI s = 0 by rw [e3]; rfl), if_pos (can_iff.mpr ⟨e, e2, Or.inl e3⟩)]
        rfl
      · rw [if_neg (nI_ne0 (by omega) h31), ldI_L 2 (by decide) (by decide), hs.1 2 (by decide)]
        have z2 := hz.2.2.1
        by_cases e4 : z 2 = 0
        · rw [e4, if_pos (show nI 0 ≤ 0 by decide), if_neg (fun q => ?_)]
          have := (can_iff.mp q).2.2
          omega
        · rw [if_neg (nI_nle (by omega) (by omega)), if_pos (can_iff.mpr ⟨e, e2, Or.inr (by omega)⟩)]
          rfl
    · have : s &&& thr z (cT C) ≤ s := Nat.and_le_left
      rw [if_neg (nI_ne0 (by omega) (by omega)), if_neg (fun q => e2 (can_iff.mp q).2.1)]
  · rw [if_neg (show ¬ ((0 : Int32) ≤ nI s ∧ nI s ≤ nI (2 ^ cT C - 1)) from fun q => e (by have := (nI_leI h31 (by omega)).mp q.2; omega)), if_pos rfl, if_neg (fun q => e (can_iff.mp q).1)]
theorem m_canN {S : Hp} {x : Int32} {C : Cr} (hC : okCr C) (h : mC S C) (hx : x < 0) : f_X12_canShow x S = some (0, S) := by
  unfold f_X12_canShow
  by_cases hcr : S.1 0 52 = 0
  · rw [if_pos hcr]
  · rw [if_neg hcr, m_allT hC h, ob2_s, i64_lit0, m_isInI, ob2_s, if_neg (show ¬ ((0 : Int32) ≤ x ∧ x ≤ nI (2 ^ cT C - 1)) from fun q => absurd hx (Int32.not_lt.mpr q.1)), if_pos rfl]

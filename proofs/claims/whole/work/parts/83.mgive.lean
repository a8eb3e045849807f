/-! level 2: the reference: rows kept, belief lost, a show given, a year -/
theorem m_k63 {S : Hp} {t n y b : Nat} {kl : List Nat} (hl : kl.length = 3 * n) (hn : n < 30) (h26 : S.1 55 26 = nI (n + 1)) (hr : ∀ j, j < kl.length → S.1 55 (27 + j) = nI (kl.getD j 0)) (hy : S.1 55 0 = nI y) (hb : S.1 55 2 = nI b) :
    ∃ S', f_X12_isKept_63 (nI t) S = some S' ∧ S'.1 55 26 = nI (n + 1) ∧ (∀ j, j < (kl ++ [y, t, b]).length → S'.1 55 (27 + j) = nI ((kl ++ [y, t, b]).getD j 0)) ∧ (∀ k, k < 27 → S'.1 55 k = S.1 55 k) ∧ fN (fun b k => b = 55 ∧ 26 ≤ k) S S' := by
  have e : nI 27 + nI 3 * nI (n + 1) - nI 3 = nI (27 + 3 * n) := by rw [pk_mul, nI_add, pk_sub (by omega), show 27 + 3 * (n + 1) - 3 = 27 + 3 * n by omega]
  refine ⟨ho_sI (ho_sI (ho_sI S 55 (27 + 3 * n) (nI y)) 55 (27 + 3 * n + 1) (nI t)) 55 (27 + 3 * n + 2) (nI b), ?_, ?_, fun j hj => ?_, fun k hk => ?_, ?_⟩
  · unfold f_X12_isKept_63
    rw [ldI_L 26 (by decide) (by decide), h26, le1_e, lit_nI 27, lit_nI 3, e, ldI_L 0 (by decide) (by decide), hy, stI_n (by omega) (by decide), nI_1, stI_n (by omega) (by decide), ldI_L 2 (by decide) (by decide), sI_k (by omega), sI_k (by omega), hb, lit_nI 2, nI_add, stI_n (by omega) (by decide)]
  · rw [sI_k (by omega), sI_k (by omega), sI_k (by omega), h26]
  · rw [List.length_append] at hj
    simp only [List.length_cons, List.length_nil] at hj
    rw [getD_app]
    by_cases q : j < kl.length
    · rw [if_pos q, sI_k (by omega), sI_k (by omega), sI_k (by omega), hr j q]
    · rw [if_neg q]
      have : j = 3 * n ∨ j = 3 * n + 1 ∨ j = 3 * n + 2 := by omega
      rcases this with e1 | e1 | e1
      · rw [sI_k (by omega), sI_k (by omega), show 27 + j = 27 + 3 * n by omega, sI_v, show j - kl.length = 0 by omega]; rfl
      · rw [sI_k (by omega), show 27 + j = 27 + 3 * n + 1 by omega, sI_v, show j - kl.length = 1 by omega]; rfl
      · rw [show 27 + j = 27 + 3 * n + 2 by omega, sI_v, show j - kl.length = 2 by omega]; rfl
  · rw [sI_k (by omega), sI_k (by omega), sI_k (by omega)]
  · exact fN_tr (fN_sI S ⟨rfl, by omega⟩) (fN_tr (fN_sI _ ⟨rfl, by omega⟩) (fN_sI _ ⟨rfl, by omega⟩))
theorem m_shift {x : Int32} : ∀ (d i k : Nat) (S : Hp), i + d = 114 → 27 ≤ i → d < k → f_X12_isKept_23 k x (nI i) S = f_X12_isKept_63 x (ho_sA S 55 (fun j => if i ≤ j ∧ j < 114 then S.1 55 (j + 3) else S.1 55 j)) := by
  intro d
  induction d with
  | zero =>
    intro i k S hi h27 hk
    obtain ⟨k, rfl⟩ : ∃ q, k = q + 1 := ⟨k - 1, by omega⟩
    have e : (fun j => if i ≤ j ∧ j < 114 then S.1 55 (j + 3) else S.1 55 j) = S.1 55 := by
      funext j
      rw [if_neg (by omega)]
    rw [f_X12_isKept_23, if_pos ((geL 114 (by omega) (by decide)).mpr (by omega)), e, sA_self]
  | succ d ih =>
    intro i k S hi h27 hk
    obtain ⟨k, rfl⟩ : ∃ q, k = q + 1 := ⟨k - 1, by omega⟩
    rw [f_X12_isKept_23, if_neg (fun q => absurd ((geL 114 (by omega) (by decide)).mp q) (by omega)), lit_nI 3, nI_add, ldI_n (by omega) (by decide), stI_n (by omega) (by decide), le1_e, nI_1, ih (i + 1) k _ (by omega) (by omega) (by omega), sI_sI, sA_A, sA_at]
    congr 2
    funext j
    by_cases e1 : j = i
    · subst e1
      rw [if_neg (by omega), if_pos (by omega), pk_us]
    · rw [pk_un e1]
      by_cases e2 : i + 1 ≤ j ∧ j < 114
      · rw [if_pos e2, if_pos (by omega), pk_un (by omega)]
      · rw [if_neg e2, if_neg (by omega)]
def kpT (S : Hp) (kl kl' : List Nat) : List Nat := if S.1 0 62 = 0 then kl' else kl
theorem m_keep {S : Hp} {t : Nat} {C : Cr} {z : Nat → Nat} {kl : List Nat} (hC : okCr C) (hs : mZ S C z) (hk : mK S kl) :
    ∃ S', f_X12_isKept (nI t) S = some S' ∧ mK S' (kpT S kl (kpush kl (z 0) t (z 2))) ∧ mZ S' C z ∧ fN (fun b k => b = 55 ∧ 26 ≤ k) S S' := by
  have hnw := hC.1.2.2
  unfold f_X12_isKept kpT
  by_cases h62 : S.1 0 62 = 0
  · rw [if_pos h62, if_pos h62]
    obtain ⟨⟨n, n1, n2⟩, k1, k2⟩ := hk
    have e3 : kl.length / 3 = n := by omega
    rw [ldI_L 26 (by decide) (by decide), k1, e3]
    have z0 := hs.1 0 (by decide)
    have z2 := hs.1 2 (by decide)
    by_cases q : n = 30
    · subst q
      rw [if_pos (show nI 30 = (30 : Int32) from rfl)]
      have hsh := m_shift (x := nI t) 87 27 5000 S (by decide) (by decide) (by decide)
      rw [show nI 27 = (27 : Int32) from rfl] at hsh
      rw [hsh]
      obtain ⟨S', r1, r2, r3, r4, r5⟩ := m_k63 (t := t) (n := 29) (y := z 0) (b := z 2) (kl := kl.drop 3) (S := ho_sA S 55 (fun j => if 27 ≤ j ∧ j < 114 then S.1 55 (j + 3) else S.1 55 j)) (by rw [List.length_drop]; omega) (by decide) (by rw [sA_at, if_neg (by decide), k1, e3]) (fun j hj => by
        rw [List.length_drop] at hj
        rw [sA_at, if_pos (by omega), getD_drop, show 27 + j + 3 = 27 + (3 + j) by omega, k2 (3 + j) (by omega)]) (by rw [sA_at, if_neg (by decide), z0]) (by rw [sA_at, if_neg (by decide), z2])
      have f0 : fN (fun b k => b = 55 ∧ 26 ≤ k) S S' := fN_tr (fN_sA S (fun k hk => ⟨rfl, Classical.byContradiction (fun q => hk (by rw [if_neg (by omega)]))⟩)) r5
      have ek : kpush kl (z 0) t (z 2) = kl.drop 3 ++ [z 0, t, z 2] := by
        unfold kpush
        rw [if_pos (by omega)]
      have g : ∀ k, k < 27 → S'.1 55 k = S.1 55 k := fun k hk => by rw [r4 k hk, sA_at, if_neg (by omega)]
      refine ⟨S', r1, ?_, ⟨fun k hk => by rw [g k (by omega)]; exact hs.1 k hk, fun w hw => by rw [g _ (by omega)]; exact hs.2 w hw⟩, f0⟩
      rw [ek]
      refine ⟨⟨30, (by decide), by rw [List.length_append, List.length_drop]; simp; omega⟩, ?_, r3⟩
      rw [r2, List.length_append, List.length_drop, n2]
      simp only [List.length_cons, List.length_nil]
    · rw [if_neg (fun x => q ((eqL 30 (by omega) (by decide)).mp x)), ldI_L 26 (by decide) (by decide), k1, e3, nI_1, stI_L 26 (by decide) (by decide)]
      obtain ⟨S', r1, r2, r3, r4, r5⟩ := m_k63 (t := t) (n := n) (y := z 0) (b := z 2) (kl := kl) (S := ho_sI S 55 26 (nI (n + 1))) n2 (by omega) (by rw [sI_v]) (fun j hj => by rw [sI_k (by omega)]; exact k2 j hj) (by rw [sI_k (by decide)]; exact z0) (by rw [sI_k (by decide)]; exact z2)
      have f0 : fN (fun b k => b = 55 ∧ 26 ≤ k) S S' := fN_tr (fN_sI S ⟨rfl, by decide⟩) r5
      have ek : kpush kl (z 0) t (z 2) = kl ++ [z 0, t, z 2] := by
        unfold kpush
        rw [if_neg (by omega)]
      have g : ∀ k, k < 26 → S'.1 55 k = S.1 55 k := fun k hk => by rw [r4 k (by omega), sI_k (by omega)]
      refine ⟨S', r1, ?_, ⟨fun k hk => by rw [g k (by omega)]; exact hs.1 k hk, fun w hw => by rw [g _ (by omega)]; exact hs.2 w hw⟩, f0⟩
      rw [ek]
      refine ⟨⟨n + 1, (by omega), by rw [List.length_append]; simp; omega⟩, ?_, r3⟩
      rw [r2, List.length_append, n2]
      simp only [List.length_cons, List.length_nil]
      congr 1
      omega
  · rw [if_neg h62, if_neg h62]
    exact ⟨S, rfl, hk, hs, fN_rf _ S⟩
theorem m_ptL {S : Hp} {C : Cr} {z : Nat → Nat} {t : Nat} (hC : okCr C) (hz : okZ C z) (h : mC S C) (hs : mZ S C z) (ht : t < cT C) : ∀ q, q < 3 ∨ 5 ≤ q → (ptM S t q).toInt = fct C z t 0 0 q ∧ inM (fct C z t 0 0 q) := by
  have hnt := hC.1.2.1
  obtain ⟨t1, t2, t3⟩ := hC.2.2.2.1 t ht
  have k1 := hz.2.2.2.2.1 t (by omega)
  have z0 := hz.1
  have z2 := hz.2.2.1
  obtain ⟨e1, e2, e3⟩ := h.2.2.2.1 t ht
  intro q hq
  unfold ptM fct
  rw [e1, e3, hs.1 (9 + t) (by omega), hs.1 0 (by omega), hs.1 2 (by omega)]
  by_cases q0 : q = 0
  · rw [if_pos q0, if_pos q0]; exact ⟨nI_toInt (by omega), by unfold inM; omega⟩
  rw [if_neg q0, if_neg q0]
  by_cases q1 : q = 1
  · rw [if_pos q1, if_pos q1]; exact ⟨nI_toInt (by omega), by unfold inM; omega⟩
  rw [if_neg q1, if_neg q1]
  by_cases q2 : q = 2
  · rw [if_pos q2, if_pos q2]; exact ⟨nI_toInt (by omega), by unfold inM; omega⟩
  rw [if_neg q2, if_neg q2, if_neg (show ¬ q = 3 by omega), if_neg (show ¬ q = 3 by omega), if_neg (show ¬ q = 4 by omega), if_neg (show ¬ q = 4 by omega)]
  by_cases q5 : q = 5
  · rw [if_pos q5, if_pos q5]; exact ⟨nI_toInt (by omega), by unfold inM; omega⟩
  rw [if_neg q5, if_neg q5]
  exact ⟨nI_toInt (by omega), by unfold inM; omega⟩
/-- what is lost by a trick seen through -/
def los (C : Cr) (z : Nat → Nat) (t : Nat) : Nat := (vl (fct C z t 0 0) (cL C)).toNat
def thP (b k : Nat) : Prop := eP b k ∨ b = 55
theorem th_c {b k : Nat} (h : thP b k) : ¬ crM b := by unfold thP eP at h; unfold crM; omega
theorem m_loss {S : Hp} {C : Cr} {z : Nat → Nat} {t : Nat} (hC : okCr C) (hz : okZ C z) (h : mC S C) (hs : mZ S C z) (ht : t < cT C) :
    ∃ S', f_X12_isSeenThrough (nI t) S = f_X12_isSeenThrough_22 (nI t) (LL (vl (fct C z t 0 0) (cL C))) S' ∧ fN eP S S' ∧ inM (vl (fct C z t 0 0) (cL C)) := by
  have hnt := hC.1.2.1
  have hp := m_ptL hC hz h hs ht
  have hokF := hC.2.2.2.2.2.2
  unfold f_X12_isSeenThrough
  rw [ldI_L 3 (by decide) (by decide)]
  rcases h.2.2.2.2.2.2 with hc | ⟨hc, hd⟩
  · have hc' := hc
    obtain ⟨f, a1, a2, -, -, -⟩ := hc'
    rw [show S.1 48 3 = nI f from a2, if_neg (fun q => by
      have := congrArg Int32.toInt q
      rw [nI_toInt (by omega)] at this
      have e : ((-1 : Int32)).toInt = -1 := by decide
      omega)]
    obtain ⟨v1, v2⟩ := vl_ok (qf := fun _ => 0) (pf := fun q => if q < 3 ∨ 5 ≤ q then (ptM S t q).toInt else 0) (pf' := fct C z t 0 0) hokF (fun k => by
      show inM (if k < 3 ∨ 5 ≤ k then (ptM S t k).toInt else 0)
      by_cases e : k < 3 ∨ 5 ≤ k
      · rw [if_pos e, (hp k e).1]; exact (hp k e).2
      · rw [if_neg e]; unfold inM; omega) (fun k hk => by
      show (if k < 3 ∨ 5 ≤ k then (ptM S t k).toInt else 0) = _
      rw [if_pos (by omega), (hp k (by omega)).1])
    have hcC := alw_C hokF.2.1
    have hu : ∀ c ∈ cL C, 40 ≤ c → c < 1000 → c - 40 < 3 ∨ 5 ≤ c - 40 := fun c hc1 h1 h2 => by
      have := hokF.2.1 c hc1
      unfold alw at this
      omega
    obtain ⟨S', r1, r2⟩ := m_tell2 (S := S) (t := t) (w := 1) (cs := cL C) (v := vl (fct C z t 0 0) (cL C)) (by omega) (by decide) hc (fun c hc1 h1 h2 => by rw [(hp _ (hu c hc1 h1 (by omega))).1]; exact (hp _ (hu c hc1 h1 (by omega))).2) (by
      rw [← evS_A _ _ _ hcC v1]
      refine evS_c _ _ (fun c hc1 h1 h2 => ?_)
      show _ = (if c - 40 < 3 ∨ 5 ≤ c - 40 then (ptM S t (c - 40)).toInt else 0)
      rw [if_pos (hu c hc1 h1 h2)])
    refine ⟨S', ?_, evG_N r2, v2⟩
    rw [show (1 : Int32) = nI 1 from rfl, r1, ob2_s]
  · rw [show S.1 48 3 = -1 from hc, if_pos rfl]
    rw [if_neg (by decide)] at hd
    rw [hd, vl_num _ _ (by decide)]
    exact ⟨S, rfl, fN_rf _ S, by unfold inM; omega⟩
theorem m_thru {S : Hp} {C : Cr} {z : Nat → Nat} {kl : List Nat} {t : Nat} (hC : okCr C) (hz : okZ C z) (h : mC S C) (hs : mZ S C z) (hk : mK S kl) (ht : t < cT C) :
    ∃ S', f_X12_isSeenThrough (nI t) S = some S' ∧ mZ S' C (zup z 2 (z 2 - los C z t)) ∧ mK S' (kpT S kl (kpush kl (z 0) t (z 2 - los C z t))) ∧ fN thP S S' := by
  have hnw := hC.1.2.2
  have z2 := hz.2.2.1
  obtain ⟨S1, r1, r2, v1⟩ := m_loss hC hz h hs ht
  have s1 := mZ_e hs r2
  have k1 : mK S1 kl := mK_f hk r2 (fun b k q => by unfold eP at q; omega)
  have f1 : fN thP S S1 := fN_mo r2 (fun b k q => Or.inl q)
  have e62 : S1.1 0 62 = S.1 0 62 := r2.1 0 62 (by unfold eP; omega)
  rw [r1]
  unfold los
  generalize hv : vl (fct C z t 0 0) (cL C) = v at v1 ⊢
  have i1 := v1.1
  have i2 := v1.2
  have h60 : ∀ (S2 : Hp) (b : Nat), mZ S2 C (zup z 2 b) → mK S2 kl → S2.1 0 62 = S.1 0 62 → fN thP S S2 → z 2 - v.toNat = b → ∃ S', f_X12_isSeenThrough_60 (nI t) S2 = some S' ∧ mZ S' C (zup z 2 (z 2 - v.toNat)) ∧ mK S' (kpT S kl (kpush kl (z 0) t (z 2 - v.toNat))) ∧ fN thP S S' := by
    intro S2 b a1 a2 a3 a4 a5
    obtain ⟨S', q1, q2, q3, q4⟩ := m_keep (t := t) hC a1 a2
    refine ⟨S', ?_, ?_, ?_, fN_tr a4 (fN_mo q4 (fun b k q => Or.inr q.1))⟩
    · unfold f_X12_isSeenThrough_60
      rw [q1, ob_s]
    · rw [a5]; exact q3
    · rw [zup_n (by decide), zup_s] at q2
      unfold kpT at q2 ⊢
      rw [a3] at q2
      rw [a5]
      exact q2
  have hz2 : ∀ (S2 : Hp) (b : Nat), S2 = ho_sI S1 55 2 (nI b) → mZ S2 C (zup z 2 b) ∧ mK S2 kl ∧ S2.1 0 62 = S.1 0 62 ∧ fN thP S S2 := by
    intro S2 b e
    subst e
    have f2 : fN (fun b k => b = 55 ∧ k = 2) S1 (ho_sI S1 55 2 (nI b)) := fN_sI S1 ⟨rfl, rfl⟩
    refine ⟨⟨fun k hk => ?_, fun w hw => ?_⟩, mK_f k1 f2 (fun b k q => by omega), by rw [sI_ne _ (by decide)]; exact e62, fN_tr f1 (fN_mo f2 (fun b k q => Or.inr q.1))⟩
    · by_cases e : k = 2
      · subst e; rw [sI_v, zup_s]
      · rw [sI_k e, zup_n e]; exact s1.1 k hk
    · rw [sI_k (by omega), zup_n (by omega)]; exact s1.2 w hw
  unfold f_X12_isSeenThrough_22
  rw [show (0 : Int64) = LL 0 by decide, ldI_L 2 (by decide) (by decide), s1.1 2 (by decide), ldI_L 2 (by decide) (by decide), s1.1 2 (by decide)]
  by_cases e0 : v ≤ 0
  · rw [if_pos ((c_le (by omega) (by omega) (by decide) (by decide)).mpr e0)]
    refine h60 S1 (z 2) ?_ k1 e62 f1 (by have : v.toNat = 0 := by omega
                                         omega)
    exact ⟨fun k hk => by
      by_cases e : k = 2
      · subst e; rw [zup_s]; exact s1.1 2 (by decide)
      · rw [zup_n e]; exact s1.1 k hk, fun w hw => by rw [zup_n (by omega)]; exact s1.2 w hw⟩
  · rw [if_neg (fun q => e0 ((c_le (by omega) (by omega) (by decide) (by decide)).mp q))]
    have ez : (nI (z 2)).toInt64 = LL (z 2 : Int) := by rw [LL_i, nI_toInt (by omega)]
    rw [ez]
    unfold f_X12_isSeenThrough_59
    by_cases e1 : v ≤ (z 2 : Int)
    · rw [if_pos ((c_le (by omega) (by omega) (by omega) (by omega)).mpr e1)]
      have ev : ∀ n : Nat, v = (n : Int) → n ≤ z 2 → nI (z 2) - (LL v).toInt32 = nI (z 2 - n) := by
        intro n e hn
        rw [e, LL_iI, iI_nI, pk_sub hn]
      rw [ev v.toNat (by omega) (by omega), stI_L 2 (by decide) (by decide)]
      obtain ⟨b1, b2, b3, b4⟩ := hz2 _ (z 2 - v.toNat) rfl
      exact h60 _ _ b1 b2 b3 b4 rfl
    · rw [if_neg (fun q => e1 ((c_le (by omega) (by omega) (by omega) (by omega)).mp q)), show (0 : Int32) = nI 0 from rfl, stI_L 2 (by decide) (by decide)]
      obtain ⟨b1, b2, b3, b4⟩ := hz2 _ 0 rfl
      exact h60 _ _ b1 b2 b3 b4 (by omega)

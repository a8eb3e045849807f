/-! level 2: alike answers: a question: its value for a trick; the reference -/
def m59 (S : Hp) (C : Cr) (z : Nat → Nat) : Prop := ∀ t, t < cT C → S.1 59 (6 * t + 5) = nI (sgT C z t) ∧ ∀ w, w < cW C → S.1 59 (6 * t + w) = nI (sg C z t w (z (21 + w)))
theorem m_ptQ {S : Hp} {C : Cr} {z : Nat → Nat} {t k : Nat} (hC : okCr C) (hz : okZ C z) (h : mC S C) (hs : mZ S C z) (h59 : m59 S C z) (ht : t < cT C) (hk : k < 11) (hal : al 2 k = true) : f_X12_qPartOf (nI k) (nI t) S = some (LL (fq C z t k), S) ∧ inM (fq C z t k) := by
  have hk8 : k = 0 ∨ k = 1 ∨ k = 2 ∨ k = 5 ∨ k = 7 ∨ k = 8 ∨ k = 9 ∨ k = 10 := by
    unfold al at hal
    simp at hal
    omega
  have hnt := hC.1.2.1
  have hnp := hC.1.1
  obtain ⟨k1, k2, k3⟩ := hC.2.2.2.1 t ht
  obtain ⟨z0, z1, z2, z3, z4, z5, z6, -⟩ := hz
  have z4t := z4 t (by omega)
  have z5t := z5 t (by omega)
  have z3t := z3 (cR C 3 t) (by omega)
  have sgl := sgT_le (z := z) hC t
  have hL : ∀ n : Nat, n < 2 ^ 31 → (nI n).toInt64 = LL (n : Int) := fun n hn => by rw [LL_i, nI_toInt hn]
  obtain ⟨⟨a1, a2, a3⟩, ⟨b1, b2, b3⟩, cc, dd, ee, f1, f2⟩ := h
  obtain ⟨d1, d2, d3⟩ := dd t ht
  have e20 : (20 : Int32) + (3 : Int32) * nI t = nI (20 + 3 * t) := by rw [lit_nI 20, lit_nI 3, pk_mul, nI_add]
  have e18 : (18 : Int32) + (3 : Int32) * nI t = nI (18 + 3 * t) := by rw [lit_nI 18, lit_nI 3, pk_mul, nI_add]
  have e19 : (19 : Int32) + (3 : Int32) * nI t = nI (19 + 3 * t) := by rw [lit_nI 19, lit_nI 3, pk_mul, nI_add]
  have e65 : (6 : Int32) * nI t + (5 : Int32) = nI (6 * t + 5) := by rw [lit_nI 6, lit_nI 5, pk_mul, nI_add]
  have e3 : (3 : Int32) + nI (cR C 3 t) = nI (3 + cR C 3 t) := by rw [lit_nI 3, nI_add]
  unfold f_X12_qPartOf fq
  rw [e20, e18, e19, e65, ldI_n (by omega) (by decide), d3, hL _ (by omega), m_times (by omega), ob2_s, hs.1 (9 + t) (by omega), hL _ (by omega), ldI_L 0 (by decide) (by decide), hs.1 0 (by decide), hL _ (by omega), ldI_n (by omega) (by decide), d1, hL _ (by omega), hL _ (by omega), m_known (by omega), ob2_s, hs.1 (15 + t) (by omega), hL _ (by omega), ldI_n (by omega) (by decide), (h59 t ht).1, hL _ (by omega), ldI_n (by omega) (by decide), d2, e3, ldI_n (by omega) (by decide), hs.1 _ (by omega), hL _ (by omega)]
  rcases hk8 with rfl | rfl | rfl | rfl | rfl | rfl | rfl | rfl
  · exact ⟨rfl, by unfold inM; rw [if_pos rfl]; omega⟩
  · exact ⟨rfl, by unfold inM; rw [if_neg (by decide), if_pos rfl]; omega⟩
  · exact ⟨rfl, by unfold inM; rw [if_neg (by decide), if_neg (by decide), if_pos rfl]; omega⟩
  · exact ⟨rfl, by unfold inM; rw [if_neg (by decide), if_neg (by decide), if_neg (by decide), if_pos rfl]; omega⟩
  · exact ⟨rfl, by unfold inM; rw [if_neg (by decide), if_neg (by decide), if_neg (by decide), if_neg (by decide), if_pos rfl]; omega⟩
  · exact ⟨rfl, by unfold inM; rw [if_neg (by decide), if_neg (by decide), if_neg (by decide), if_neg (by decide), if_neg (by decide), if_pos rfl]; omega⟩
  · exact ⟨rfl, by unfold inM; rw [if_neg (by decide), if_neg (by decide), if_neg (by decide), if_neg (by decide), if_neg (by decide), if_neg (by decide), if_pos rfl]; omega⟩
  · exact ⟨rfl, by unfold inM; rw [if_neg (by decide), if_neg (by decide), if_neg (by decide), if_neg (by decide), if_neg (by decide), if_neg (by decide), if_neg (by decide), if_pos rfl]; omega⟩
theorem gq_in (C : Cr) (z : Nat → Nat) (t : Nat) (x : Int) : inM (gq C z t x) := by
  have := sgB_le C z t x.toNat
  unfold gq inM
  split <;> omega
theorem m_qOf {S : Hp} {C : Cr} {z : Nat → Nat} {t : Nat} {x : Int32} {a : Int} (hC : okCr C) (h : mC S C) (h59 : m59 S C z) (ht : t < cT C) (ha : inM a) : f_X12_qOf x (LL a) (nI t) S = some (LL (gq C z t a), S) := by
  have hnt := hC.1.2.1
  have hnw := hC.1.2.2
  obtain ⟨a1, a2⟩ := ha
  have e1 : (nI (cW C) - (1 : Int32)).toInt64 = LL ((cW C : Int) - 1) := by
    rw [LL_i, lit_nI 1, pk_sub_toInt (by omega) (by decide)]
    rfl
  unfold f_X12_qOf
  rw [m_wm, ob2_s, h.1.2.2, e1, m_isIn, ob2_s]
  unfold gq sgB
  by_cases q : 0 ≤ a ∧ a < (cW C : Int)
  · obtain ⟨n, rfl⟩ : ∃ n : Nat, a = n := ⟨a.toNat, by omega⟩
    rw [if_pos (show (0 : Int64) ≤ LL (n : Int) ∧ LL (n : Int) ≤ LL ((cW C : Int) - 1) from ⟨(LL_le (a := 0) (b := (n : Int)) (by omega) (by omega) (by omega) (by omega)).mpr q.1, (LL_le (by omega) (by omega) (by omega) (by omega)).mpr (by omega)⟩), if_neg ne1, LL_iI, iI_nI, lit_nI 6, pk_mul, nI_add, ldI_n (by omega) (by decide), (h59 t ht).2 n (by omega), if_pos (by omega), show ((n : Int)).toNat = n from rfl, if_pos (by omega), LL_i, nI_toInt (by have : sg C z t n (z (21 + n)) ≤ 99 := n99_le _; omega)]
  · rw [if_neg (show ¬ ((0 : Int64) ≤ LL a ∧ LL a ≤ LL ((cW C : Int) - 1)) from fun x => q ⟨(LL_le (a := 0) (b := a) (by omega) (by omega) (by omega) (by omega)).mp x.1, by have := (LL_le (a := a) (b := (cW C : Int) - 1) (by omega) (by omega) (by omega) (by omega)).mp x.2; omega⟩), if_pos rfl]
    by_cases q2 : 0 ≤ a ∧ a < 5
    · rw [if_pos q2, if_neg (by omega)]; rfl
    · rw [if_neg q2]; rfl
theorem pile_top {S : Hp} {l : List Int} {a : Int} (h : pileR S (l ++ [a])) : S.1 0 106 - (1 : Int32) = nI l.length ∧ S.2.1 106 l.length = LL a := by
  obtain ⟨h1, h2⟩ := h
  rw [List.length_append] at h1
  constructor
  · rw [h1]
    exact pk_sub (a := l.length + 1) (b := 1) (by omega)
  · rw [h2 l.length (by simp)]
    simp
theorem pile_set {S : Hp} {l : List Int} {a v : Int} (h : pileR S (l ++ [a])) : pileR (ho_sJ S 106 l.length (LL v)) (l ++ [v]) := by
  obtain ⟨h1, h2⟩ := h
  refine ⟨by show S.1 0 106 = _; rw [h1, List.length_append, List.length_append]; rfl, fun i hi => ?_⟩
  rw [List.length_append] at hi
  rw [ho_uJ]
  by_cases e : i = l.length
  · subst e
    rw [pk_uLs]
    simp
  · have hlt : i < l.length := by simp at hi; omega
    rw [pk_uLn e, h2 i (by simp; omega), List.getElem_append_left hlt, List.getElem_append_left hlt]
theorem m59_F {S S' : Hp} {C : Cr} {z : Nat → Nat} (h : m59 S C z) (hf : evF S S') : m59 S' C z := fun t ht => by
  rw [hf.1 59 (by decide)]; exact h t ht
theorem m_told7 {C : Cr} {z : Nat → Nat} {t e : Nat} (hC : okCr C) (hz : okZ C z) (ht : t < cT C) (he : e ≤ 1600) : ∀ (cs : List Nat) (i k : Nat) (S : Hp) (st : List Int) (v : Int), (∀ c ∈ cs, cdO 2 c) → i + cs.length = e → S.1 0 100 = nI e → (∀ j (h : j < cs.length), S.1 100 (i + j) = nI cs[j]) → pileR S st.reverse → (∀ a ∈ st, inM a) → mC S C → mZ S C z → m59 S C z → cs.length < k → evA (fq C z t) (gq C z t) cs st = some [v] → st.length ≤ 64 →
    ∃ S', f_X12_qTold_7 k (nI t) (nI i) S = some (LL v, S') ∧ evF S S' := by
  have hnt := hC.1.2.1
  intro cs
  induction cs with
  | nil =>
    intro i k S st v hok hi he2 hcs hp hst hc hs h59 hk hev hl
    obtain ⟨k, rfl⟩ : ∃ q, k = q + 1 := ⟨k - 1, by omega⟩
    simp only [evA, Option.some.injEq] at hev
    subst hev
    refine ⟨S, ?_, evF_rf S⟩
    have h0 := hp.2 0 (by simp)
    simp at h0
    simp only [List.length_nil] at hi
    rw [f_X12_qTold_7, he2, if_pos (nI_le (by omega) (by omega)), lit_nI 0, ldJ_n (by decide) (by decide), h0]
  | cons c cs ih =>
    intro i k S st v hok hi he2 hcs hp hst hc hs h59 hk hev hl
    obtain ⟨k, rfl⟩ : ∃ q, k = q + 1 := ⟨k - 1, by omega⟩
    simp only [List.length_cons] at hi hk
    have hc0 : S.1 100 i = nI c := by
      have := hcs 0 (by simp)
      simpa using this
    have hokc := hok c (List.mem_cons_self)
    have hA := cdO_A hokc
    have hokr : ∀ c ∈ cs, cdO 2 c := fun x hx => hok x (List.mem_cons_of_mem _ hx)
    have h162 : ∀ Sx, f_X12_qTold_162 (f_X12_qTold_7 k) (nI t) (nI i) Sx = f_X12_qTold_7 k (nI t) (nI (i + 1)) Sx := by
      intro Sx
      unfold f_X12_qTold_162
      rw [le1_e, nI_1]
    have go : ∀ (Sx : Hp) (st2 : List Int), evF S Sx → pileR Sx st2.reverse → (∀ a ∈ st2, inM a) → st2.length ≤ 64 → evA (fq C z t) (gq C z t) cs st2 = some [v] → ∃ S', f_X12_qTold_7 k (nI t) (nI (i + 1)) Sx = some (LL v, S') ∧ evF S S' := by
      intro Sx st2 hF hp2 hst2 hl2 hev2
      obtain ⟨S', r1, r2⟩ := ih (i + 1) k Sx st2 v hokr (by omega) (by rw [hF.2.1 100 (by decide)]; exact he2) (by
        intro j hj
        rw [hF.1 100 (by decide)]
        have := hcs (j + 1) (by simp; omega)
        rw [show i + 1 + j = i + (j + 1) by omega]
        simpa using this) hp2 hst2 (mC_e hc (evG_N (evF_G hF))) (mZ_e hs (evG_N (evF_G hF))) (m59_F h59 hF) (by omega) hev2 hl2
      exact ⟨S', r1, evF_tr hF r2⟩
    have psg : ∀ (x : Int), inM x → ob (psh x st) (evA (fq C z t) (gq C z t) cs) = some [v] → ∃ S', ob (f_X12_qPuts (LL x) S) (fun S14 => f_X12_qTold_162 (f_X12_qTold_7 k) (nI t) (nI i) S14) = some (LL v, S') ∧ evF S S' := by
      intro x hx hev
      obtain ⟨st2, q1, q2⟩ := ob_ok hev
      unfold psh at q1
      by_cases e64 : st.length < 64
      · rw [if_pos e64] at q1
        obtain rfl := Option.some.inj q1
        obtain ⟨S2, p1, p2, p3⟩ := m_puts hp (by simp; omega) x
        rw [p1, ob_s, h162]
        exact go S2 _ p3 (by rw [List.reverse_cons]; exact p2) (by
          intro a ha
          rcases List.mem_cons.mp ha with rfl | ha
          · exact hx
          · exact hst a ha) (by simp; omega) q2
      · rw [if_neg e64] at q1; cases q1
    rw [f_X12_qTold_7, he2, if_neg (nI_ge (by omega) (by omega)), ldI_n (by omega) (by decide), hc0]
    have cl : c < 11000 := by unfold okA at hA; omega
    have L1000 : (nI c < (1000 : Int32)) ↔ c < 1000 := nI_ltI (by omega) (by decide)
    have L60 : (nI c < (60 : Int32)) ↔ c < 60 := nI_ltI (by omega) (by decide)
    have L40 : (nI c < (40 : Int32)) ↔ c < 40 := nI_ltI (by omega) (by decide)
    rw [evA] at hev
    rcases hokc with h | h | ⟨kk, k1, k2, k3⟩ | ⟨-, h⟩
    · rw [if_neg (fun q => absurd (L1000.mp q) (by omega))]
      unfold stA at hev
      rw [if_pos h.1] at hev
      have e1 : (nI c - (1000 : Int32)).toInt64 = LL ((c : Int) - 1000) := by
        rw [LL_i, lit_nI 1000, pk_sub_toInt (by omega) (by decide)]
        rfl
      rw [e1]
      exact psg _ (by unfold inM; omega) hev
    · rw [if_pos (L1000.mpr (by omega)), if_pos (L60.mpr (by omega)), if_pos (L40.mpr (by omega))]
      unfold stA at hev
      rw [if_neg (by omega), if_neg (by omega), if_neg (by omega)] at hev
      by_cases c13 : c = 13
      · rw [if_pos c13] at hev
        rw [if_pos (by rw [c13]; rfl)]
        exact psg 1 (by unfold inM; omega) hev
      rw [if_neg c13] at hev
      rw [if_neg (fun q => c13 ((eqL 13 (by omega) (by decide)).mp q))]
      by_cases c12 : c = 12
      · rw [if_pos c12] at hev
        rw [if_pos (by rw [c12]; rfl)]
        obtain ⟨st3, hj, hev⟩ := ob_ok hev
        match st, hp, hst, hl, hj, go with
        | [], hp, hst, hl, hj, go => cases hj
        | a :: r, hp, hst, hl, hj, go =>
          have hp' : pileR S (r.reverse ++ [a]) := by rw [← List.reverse_cons]; exact hp
          obtain ⟨t1, t2⟩ := pile_top hp'
          have hj2 : ob (if a = 0 ∨ a = 1 then some (1 - a) else none) (fun v => some (v :: r)) = some st3 := hj
          by_cases ha : a = 0 ∨ a = 1
          · rw [if_pos ha] at hj2
            obtain rfl := Option.some.inj hj2
            rw [t1, ldJ_n (by simp at hl ⊢; omega) (by decide), t2, stJ_n (by simp at hl ⊢; omega) (by decide), h162, LLp1, show LL 1 - LL a = LL (1 - a) from (Int64.ofInt_sub _ _).symm]
            exact go _ ((1 - a) :: r) (evF_p S _ _) (by rw [List.reverse_cons]; exact pile_set hp') (by
              intro x hx
              rcases List.mem_cons.mp hx with rfl | hx
              · unfold inM; omega
              · exact hst x (by simp [hx])) (by simp at hl ⊢; omega) hev
          · rw [if_neg ha] at hj2; cases hj2
      rw [if_neg c12] at hev
      rw [if_neg (fun q => c12 ((eqL 12 (by omega) (by decide)).mp q))]
      obtain ⟨st3, hj, hev⟩ := ob_ok hev
      match st, hp, hst, hl, hj, go with
      | [], hp, hst, hl, hj, go => cases hj
      | [_], hp, hst, hl, hj, go => cases hj
      | b :: a :: r, hp, hst, hl, hj, go =>
        have hj2 : (if c < 10 ∨ ((a = 0 ∨ a = 1) ∧ (b = 0 ∨ b = 1)) then some (opv c a b :: r) else none) = some st3 := hj
        by_cases hab : c < 10 ∨ ((a = 0 ∨ a = 1) ∧ (b = 0 ∨ b = 1))
        · rw [if_pos hab] at hj2
          obtain rfl := Option.some.inj hj2
          have hb : inM b := hst b (by simp)
          have ha : inM a := hst a (by simp)
          have hp' : pileR S (r.reverse ++ [a, b]) := by
            have : (b :: a :: r).reverse = r.reverse ++ [a, b] := by simp
            rw [← this]; exact hp
          obtain ⟨S2, p1, p2, p3⟩ := m_joins (c := c) hp' (by simp at hl ⊢; omega) ha hb (by omega)
          rw [p1, ob_s, h162]
          exact go S2 (opv c a b :: r) p3 (by rw [List.reverse_cons]; exact p2) (by
            intro x hx
            rcases List.mem_cons.mp hx with rfl | hx
            · by_cases c10 : c < 10
              · exact opv_in c10 ha hb
              · rcases hab with hab | hab
                · exact absurd hab c10
                · exact bo_in (jn_bo (c := c) (by omega) a b hab.1 hab.2).2
            · exact hst x (by simp [hx])) (by simp at hl ⊢; omega) hev
        · rw [if_neg hab] at hj2; cases hj2
    · subst k3
      obtain ⟨p1, p2⟩ := m_ptQ hC hz hc hs h59 ht k1 k2
      rw [if_pos (L1000.mpr (by omega)), if_pos (L60.mpr (by omega)), if_neg (fun q => absurd (L40.mp q) (by omega))]
      unfold stA at hev
      rw [if_neg (by omega), if_neg (by omega), if_pos (by omega), show 40 + kk - 40 = kk by omega] at hev
      have e1 : nI (40 + kk) - (40 : Int32) = nI kk := by
        have := pk_sub (a := 40 + kk) (b := 40) (by omega)
        rw [show 40 + kk - 40 = kk by omega] at this
        exact this
      rw [e1, p1, ob2_s, m_clip (by have := p2.1; omega) (by have := p2.2; omega), ob2_s, clip_id p2]
      exact psg _ p2 hev
    · subst h
      rw [if_pos (L1000.mpr (by omega)), if_neg (fun q => absurd (L60.mp q) (by omega))]
      unfold stA at hev
      rw [if_neg (by omega), if_pos (by omega)] at hev
      obtain ⟨st3, hj, hev⟩ := ob_ok hev
      match st, hp, hst, hl, hj, go with
      | [], hp, hst, hl, hj, go => cases hj
      | a :: r, hp, hst, hl, hj, go =>
        have hp' : pileR S (r.reverse ++ [a]) := by rw [← List.reverse_cons]; exact hp
        obtain ⟨t1, t2⟩ := pile_top hp'
        have hj2 : some (gq C z t a :: r) = some st3 := hj
        obtain rfl := Option.some.inj hj2
        have hg := gq_in C z t a
        rw [t1, ldJ_n (by simp at hl ⊢; omega) (by decide), t2, m_qOf hC hc h59 ht (hst a (by simp)), ob2_s, m_clip (by have := hg.1; omega) (by have := hg.2; omega), ob2_s, clip_id hg, stJ_n (by simp at hl ⊢; omega) (by decide), h162]
        exact go _ (gq C z t a :: r) (evF_p S _ _) (by rw [List.reverse_cons]; exact pile_set hp') (by
          intro x hx
          rcases List.mem_cons.mp hx with rfl | hx
          · exact hg
          · exact hst x (by simp [hx])) (by simp at hl ⊢; omega) hev
theorem fq_in {C : Cr} {z : Nat → Nat} {t : Nat} (hC : okCr C) (hz : okZ C z) (ht : t < cT C) (k : Nat) : inM (fq C z t k) := by
  have hnt := hC.1.2.1
  obtain ⟨k1, k2, k3⟩ := hC.2.2.2.1 t ht
  have hnp := hC.1.1
  obtain ⟨z0, z1, z2, z3, z4, z5, z6, -⟩ := hz
  have z4t := z4 t (by omega)
  have z5t := z5 t (by omega)
  have z3t := z3 (cR C 3 t) (by omega)
  have sgl := sgT_le (z := z) hC t
  unfold fq inM
  repeat' split
  all_goals omega
theorem m_told {S : Hp} {C : Cr} {z : Nat → Nat} {t kd : Nat} {cs : List Nat} (hC : okCr C) (hz : okZ C z) (ht : t < cT C) (hq : okQ (gQ kd) cs) (h0 : S.1 0 100 = nI cs.length) (hcs : lsC S 100 cs) (h : mC S C) (hs : mZ S C z) (h59 : m59 S C z) : ∃ S', f_X12_qTold (nI t) S = some (LL (qv C z cs t), S') ∧ evF S S' := by
  obtain ⟨w1, -⟩ := qv_ok (C := C) (z := z) (t := t) (pf := fq C z t) (qf := gq C z t) hq (fq_in hC hz ht) (gq_in C z t) (fun _ _ _ => rfl) (fun _ => rfl)
  have hF := evF_h S 0
  obtain ⟨S', r1, r2⟩ := m_told7 (e := cs.length) hC hz ht hq.1 cs 0 5000 (ho_sI S 0 106 0) [] (qv C z cs t) hq.2.1 (by omega) (by rw [hF.2.1 100 (by decide)]; exact h0) (fun j hj => by
    rw [hF.1 100 (by decide), Nat.zero_add, hcs j hj, List.getD_eq_getElem?_getD, List.getElem?_eq_getElem hj]
    rfl) ⟨by rw [sI_v]; rfl, fun i hi => absurd hi (by simp)⟩ (fun a ha => by cases ha) (mC_e h (evG_N (evF_G hF))) (mZ_e hs (evG_N (evF_G hF))) (m59_F h59 hF) (by have := hq.1; omega) w1 (by simp)
  refine ⟨S', ?_, evF_tr hF r2⟩
  unfold f_X12_qTold
  rw [le1_e]
  exact r1

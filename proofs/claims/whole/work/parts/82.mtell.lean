/-! level 2: codes told, with the parts that they name alone -/
theorem m_tell2_loop {t w : Nat} {e : Nat} (ht : t < 6) (hw : w < 2) (he : e ≤ 1600) : ∀ (cs : List Nat) (i k : Nat) (S : Hp) (st : List Int) (v : Int), okC cs → i + cs.length = e → S.1 49 (2 + w) = nI e → (∀ j (h : j < cs.length), S.1 50 (1600 + (i + j)) = nI cs[j]) → pileR S st.reverse → (∀ a ∈ st, inM a) → (∀ c ∈ cs, 40 ≤ c → c < 47 → inM (ptM S t (c - 40)).toInt) → st.length + cs.length < 1699 → cs.length < k → evS (fun q => (ptM S t q).toInt) cs st = some [v] →
    ∃ S', f_X12_codesTell_19 k (nI w) (nI t) (nI i) S = some (LL v, S') ∧ evF S S' := by
  intro cs
  induction cs with
  | nil =>
    intro i k S st v hok hi he2 hcs hp hst hpt hl hk hev
    obtain ⟨k, rfl⟩ : ∃ q, k = q + 1 := ⟨k - 1, by omega⟩
    simp only [evS, Option.some.injEq] at hev
    subst hev
    refine ⟨S, ?_, evF_rf S⟩
    have h0 := hp.2 0 (by simp)
    simp at h0
    simp only [List.length_nil] at hi
    rw [f_X12_codesTell_19, lit_nI 2, nI_add, ldI_n (by omega) (by decide), he2, if_pos (nI_le (by omega) (by omega)), lit_nI 0, ldJ_n (by decide) (by decide), h0]
  | cons c cs ih =>
    intro i k S st v hok hi he2 hcs hp hst hpt hl hk hev
    obtain ⟨k, rfl⟩ : ∃ q, k = q + 1 := ⟨k - 1, by omega⟩
    simp only [List.length_cons] at hi hl hk
    have hc0 : S.1 50 (1600 + i) = nI c := by
      have := hcs 0 (by simp)
      simpa using this
    have hokc := hok c (List.mem_cons_self)
    have hokr : okC cs := fun x hx => hok x (List.mem_cons_of_mem _ hx)
    have h95 : ∀ Sx, f_X12_codesTell_95 (f_X12_codesTell_19 k) (nI w) (nI t) (nI i) Sx = f_X12_codesTell_19 k (nI w) (nI t) (nI (i + 1)) Sx := by
      intro Sx
      unfold f_X12_codesTell_95
      rw [le1_e, nI_1]
    -- the rest, from a state that differs by the pile alone
    have go : ∀ (Sx : Hp) (st2 : List Int), evF S Sx → pileR Sx st2.reverse → (∀ a ∈ st2, inM a) → st2.length ≤ st.length + 1 → evS (fun q => (ptM S t q).toInt) cs st2 = some [v] → ∃ S', f_X12_codesTell_19 k (nI w) (nI t) (nI (i + 1)) Sx = some (LL v, S') ∧ evF S S' := by
      intro Sx st2 hF hp2 hst2 hl2 hev2
      obtain ⟨S', r1, r2⟩ := ih (i + 1) k Sx st2 v hokr (by omega) (by rw [hF.1 49 (by decide)]; exact he2) (by
        intro j hj
        rw [hF.1 50 (by decide)]
        have := hcs (j + 1) (by simp; omega)
        rw [show 1600 + (i + 1 + j) = 1600 + (i + (j + 1)) by omega]
        simpa using this) hp2 hst2 (by intro q hq h1 h2; rw [ptM_F hF]; exact hpt q (List.mem_cons_of_mem _ hq) h1 h2) (by omega) (by omega) (by
        have e9 : (fun q => (ptM Sx t q).toInt) = (fun q => (ptM S t q).toInt) := funext fun q => by rw [ptM_F hF]
        rw [e9]
        exact hev2)
      exact ⟨S', r1, evF_tr hF r2⟩
    rw [f_X12_codesTell_19, lit_nI 2, nI_add, ldI_n (by omega) (by decide), he2, if_neg (nI_ge (by omega) (by omega)), lit_nI 1600, nI_add, ldI_n (by omega) (by decide), hc0]
    have L1000 : (nI c < (1000 : Int32)) ↔ c < 1000 := nI_ltI (by omega) (by decide)
    have L40 : (nI c < (40 : Int32)) ↔ c < 40 := nI_ltI (by omega) (by decide)
    rw [evS] at hev
    rcases hokc with h | h | h
    · rw [if_neg (fun q => absurd (L1000.mp q) (by omega))]
      rw [if_pos h.1] at hev
      have e1 : (nI c - (1000 : Int32)).toInt64 = LL ((c : Int) - 1000) := by
        rw [LL_i, lit_nI 1000, pk_sub_toInt (by omega) (by decide)]
        rfl
      rw [e1]
      obtain ⟨S2, p1, p2, p3⟩ := m_puts hp (by simp; omega) ((c : Int) - 1000)
      rw [p1, ob_s, h95]
      exact go S2 _ p3 (by rw [List.reverse_cons]; exact p2) (by
        intro a ha
        rcases List.mem_cons.mp ha with rfl | ha
        · unfold inM; omega
        · exact hst a ha) (by simp) hev
    · rw [if_pos (L1000.mpr (by omega)), if_neg (fun q => absurd (L40.mp q) (by omega))]
      rw [if_neg (by omega), if_pos h.1] at hev
      have e1 : nI c - (40 : Int32) = nI (c - 40) := pk_sub (a := c) (b := 40) h.1
      rw [e1, m_part ht (by omega), ob2_s]
      obtain ⟨S2, p1, p2, p3⟩ := m_puts hp (by simp; omega) (ptM S t (c - 40)).toInt
      rw [p1, ob_s, h95]
      exact go S2 _ p3 (by rw [List.reverse_cons]; exact p2) (by
        intro a ha
        rcases List.mem_cons.mp ha with rfl | ha
        · exact hpt c (List.mem_cons_self) h.1 h.2
        · exact hst a ha) (by simp) hev
    · rw [if_pos (L1000.mpr (by omega)), if_pos (L40.mpr (by omega))]
      rw [if_neg (by omega), if_neg (by omega)] at hev
      obtain ⟨st3, hj, hev⟩ := ob_ok hev
      match st, hp, hst, hl, hj, go with
      | [], hp, hst, hl, hj, go => cases hj
      | [_], hp, hst, hl, hj, go => cases hj
      | b :: a :: r, hp, hst, hl, hj, go =>
        have hj2 : some (opv c a b :: r) = some st3 := hj
        obtain rfl := Option.some.inj hj2
        have hb : inM b := hst b (by simp)
        have ha : inM a := hst a (by simp)
        have hp' : pileR S (r.reverse ++ [a, b]) := by
          have : (b :: a :: r).reverse = r.reverse ++ [a, b] := by simp
          rw [← this]; exact hp
        obtain ⟨S2, p1, p2, p3⟩ := m_joins (c := c) hp' (by simp at hl ⊢; omega) ha hb (by omega)
        rw [p1, ob_s, h95]
        exact go S2 (opv c a b :: r) p3 (by rw [List.reverse_cons]; exact p2) (by
          intro x hx
          rcases List.mem_cons.mp hx with rfl | hx
          · exact opv_in (by omega) ha hb
          · exact hst x (by simp [hx])) (by simp <;> omega) hev
theorem m_tell2 {S : Hp} {t w : Nat} {cs : List Nat} {v : Int} (ht : t < 6) (hw : w < 2) (hc : codM S w cs) (hpt : ∀ c ∈ cs, 40 ≤ c → c < 47 → inM (ptM S t (c - 40)).toInt) (hev : evS (fun q => (ptM S t q).toInt) cs [] = some [v]) : ∃ S', f_X12_codesTell (nI w) (nI t) S = some (LL v, S') ∧ evG S S' := by
  obtain ⟨f, h1, h2, h3, h4, h5⟩ := hc
  have hG : evG S (ho_sI (ho_sI S 0 53 (nI w)) 0 106 0) := evG_tr (evG_i S 53 _ (Or.inl rfl)) (evG_i _ 106 _ (Or.inr (Or.inr (Or.inr rfl))))
  have hpe : ∀ q, ptM (ho_sI (ho_sI S 0 53 (nI w)) 0 106 0) t q = ptM S t q := by
    intro q
    unfold ptM
    rw [hG.1 45 (by decide), hG.1 55 (by decide)]
    have e56 : (ho_sI (ho_sI S 0 53 (nI w)) 0 106 0).1 0 56 = S.1 0 56 := by rw [sI_A, sA_at, pk_un (by decide), sI_A, sA_at, pk_un (by decide)]
    have e57 : (ho_sI (ho_sI S 0 53 (nI w)) 0 106 0).1 0 57 = S.1 0 57 := by rw [sI_A, sA_at, pk_un (by decide), sI_A, sA_at, pk_un (by decide)]
    rw [e56, e57]
  obtain ⟨S', r1, r2⟩ := m_tell2_loop (t := t) (w := w) (e := f + cs.length) ht hw (by omega) cs f 5000 (ho_sI (ho_sI S 0 53 (nI w)) 0 106 0) [] v h5 rfl (by rw [hG.1 49 (by decide)]; exact h3) (by intro j hj; rw [hG.1 50 (by decide)]; exact h4 j hj) ⟨by rw [sI_A, sA_at, pk_us]; rfl, fun i hi => absurd hi (by simp)⟩ (by intro a ha; cases ha) (by intro q hq h1 h2; rw [hpe]; exact hpt q hq h1 h2) (by simp; omega) (by omega) (by
    have e9 : (fun q => (ptM (ho_sI (ho_sI S 0 53 (nI w)) 0 106 0) t q).toInt) = (fun q => (ptM S t q).toInt) := funext fun q => by rw [hpe]
    rw [e9]
    exact hev)
  refine ⟨S', ?_, evG_tr hG (evF_G r2)⟩
  unfold f_X12_codesTell
  rw [le1_e, le1_e, lit_nI 2, nI_add, ldI_n (by omega) (by decide), lit_nI 0]
  have e48 : (ho_sI (ho_sI S 0 53 (nI w)) 0 106 (nI 0)).1 48 = S.1 48 := hG.1 48 (by decide)
  rw [e48, h2]
  exact r1
theorem evS_c {pf pf' : Nat → Int} : ∀ (cs : List Nat) (st : List Int), (∀ c ∈ cs, 40 ≤ c → c < 1000 → pf (c - 40) = pf' (c - 40)) → evS pf cs st = evS pf' cs st
  | [], _, _ => rfl
  | c :: cs, st, h => by
    have ih := fun st => evS_c cs st (fun x hx => h x (List.mem_cons_of_mem _ hx))
    rw [evS, evS]
    by_cases e1 : 1000 ≤ c
    · rw [if_pos e1, if_pos e1, ih]
    rw [if_neg e1, if_neg e1]
    by_cases e2 : 40 ≤ c
    · rw [if_pos e2, if_pos e2, ih, h c (List.mem_cons_self) e2 (by omega)]
    rw [if_neg e2, if_neg e2]
    congr 1
    funext x
    exact ih x

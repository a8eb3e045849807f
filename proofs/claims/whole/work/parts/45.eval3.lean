/-! level 2: codes told: the reference's loop -/
theorem LL_i (x : Int32) : x.toInt64 = LL x.toInt := by
  have h1 := x.toInt_lt
  have h2 := x.le_toInt
  rw [← Int64.toInt_inj, LL_t (by omega) (by omega), Int32.toInt_toInt64]
/-- the two last joined -/
def jn2 (c : Nat) : List Int → Option (List Int)
  | b :: a :: r => some (opv c a b :: r)
  | _ => none
/-- codes reckoned on a stack (its top first) -/
def evS (pf : Nat → Int) : List Nat → List Int → Option (List Int)
  | [], st => some st
  | c :: cs, st => if 1000 ≤ c then evS pf cs (((c : Int) - 1000) :: st) else if 40 ≤ c then evS pf cs (pf (c - 40) :: st) else ob (jn2 c st) (evS pf cs)
/-- a part of a sum, in the reference: of a trick, by its number -/
def ptM (S : Hp) (t k : Nat) : Int32 :=
  if k = 0 then S.1 45 (20 + 3 * t) else if k = 1 then S.1 55 (9 + t) else if k = 2 then S.1 55 0 else if k = 3 then S.1 0 56 else if k = 4 then S.1 0 57 else if k = 5 then S.1 45 (18 + 3 * t) else S.1 55 2
theorem ptM_F {S S' : Hp} (h : evF S S') (t k : Nat) : ptM S' t k = ptM S t k := by
  unfold ptM
  rw [h.1 45 (by decide), h.1 55 (by decide), h.2.1 56 (by decide), h.2.1 57 (by decide)]
theorem m_part {S : Hp} {t k : Nat} (ht : t < 6) (hk : k < 7) : f_X12_qPartOf (nI k) (nI t) S = some (LL (ptM S t k).toInt, S) := by
  have hq : ∀ j : Nat, j < 1000 → (nI k = nI j ↔ k = j) := fun j hj => nI_eq (by omega) (by omega)
  unfold f_X12_qPartOf ptM
  simp only [lit_nI 0, lit_nI 1, lit_nI 2, lit_nI 3, lit_nI 4, lit_nI 5, lit_nI 6, lit_nI 18, lit_nI 20, nI_add, pk_mul]
  rw [ldI_n (by omega) (by decide), ldI_n (by decide) (by decide), ldI_n (by omega) (by decide), ldI_n (by decide) (by decide), m_times ht, ob2_s]
  simp only [LL_i]
  by_cases q0 : k = 0
  · rw [if_pos ((hq 0 (by decide)).mpr q0), if_pos q0]
  rw [if_neg (fun q => q0 ((hq 0 (by decide)).mp q)), if_neg q0]
  by_cases q1 : k = 1
  · rw [if_pos ((hq 1 (by decide)).mpr q1), if_pos q1]
  rw [if_neg (fun q => q1 ((hq 1 (by decide)).mp q)), if_neg q1]
  by_cases q2 : k = 2
  · rw [if_pos ((hq 2 (by decide)).mpr q2), if_pos q2]
  rw [if_neg (fun q => q2 ((hq 2 (by decide)).mp q)), if_neg q2]
  by_cases q3 : k = 3
  · rw [if_pos ((hq 3 (by decide)).mpr q3), if_pos q3]
  rw [if_neg (fun q => q3 ((hq 3 (by decide)).mp q)), if_neg q3]
  by_cases q4 : k = 4
  · rw [if_pos ((hq 4 (by decide)).mpr q4), if_pos q4]
  rw [if_neg (fun q => q4 ((hq 4 (by decide)).mp q)), if_neg q4]
  by_cases q5 : k = 5
  · rw [if_pos ((hq 5 (by decide)).mpr q5), if_pos q5]
  rw [if_neg (fun q => q5 ((hq 5 (by decide)).mp q)), if_neg q5]
  have q6 : k = 6 := by omega
  rw [if_pos ((hq 6 (by decide)).mpr q6)]
theorem opv_in {c : Nat} {a b : Int} (hc : c < 10) (ha : inM a) (hb : inM b) : inM (opv c a b) := by
  obtain ⟨a1, a2⟩ := ha
  obtain ⟨b1, b2⟩ := hb
  unfold opv inM
  have h1 := clip_in (a + b)
  have h2 := clip_in (a - b)
  have h3 := clip_in (a * b)
  have h4 := fdv_in (b := b) a1 a2
  by_cases q1 : c = 1
  · rw [if_pos q1]; exact h1
  rw [if_neg q1]
  by_cases q2 : c = 2
  · rw [if_pos q2]; exact h2
  rw [if_neg q2]
  by_cases q3 : c = 3
  · rw [if_pos q3]; exact h3
  rw [if_neg q3]
  by_cases q4 : c = 4
  · rw [if_pos q4]; exact h4
  rw [if_neg q4]
  repeat' split
  all_goals omega
/-- codes of a sum of a crown: numbers, its parts, what joins two -/
def okC (cs : List Nat) : Prop := ∀ c ∈ cs, (1000 ≤ c ∧ c < 11000) ∨ (40 ≤ c ∧ c < 47) ∨ (1 ≤ c ∧ c < 7)
theorem m_tell_loop {t w : Nat} {e : Nat} (ht : t < 6) (hw : w < 2) (he : e ≤ 1600) : ∀ (cs : List Nat) (i k : Nat) (S : Hp) (st : List Int) (v : Int), okC cs → i + cs.length = e → S.1 49 (2 + w) = nI e → (∀ j (h : j < cs.length), S.1 50 (1600 + (i + j)) = nI cs[j]) → pileR S st.reverse → (∀ a ∈ st, inM a) → (∀ q, q < 7 → inM (ptM S t q).toInt) → st.length + cs.length < 1699 → cs.length < k → evS (fun q => (ptM S t q).toInt) cs st = some [v] →
    ∃ S', f_X12_codesTell_19 k (nI w) (nI t) (nI i) S = some (LL v, S') ∧ evF S S' := by
  intro cs
  induction cs with
  | nil =>
    intro i k S st v hok hi he2 hcs hp hst hpt hl hk hev
    obtain ⟨k, rfl⟩ : ∃ q, k = q + 1 := ⟨k - 1, by omega⟩
    simp only [evS, Option.some.injEq] at hev
    subst hev
    refine ⟨S, ?_, evF_rf S⟩
    have h0 := hp.2 0 (by simp)
    simp at h0
    simp only [List.length_nil] at hi
    rw [f_X12_codesTell_19, lit_nI 2, nI_add, ldI_n (by omega) (by decide), he2, if_pos (nI_le (by omega) (by omega)), lit_nI 0, ldJ_n (by decide) (by decide), h0]
  | cons c cs ih =>
    intro i k S st v hok hi he2 hcs hp hst hpt hl hk hev
    obtain ⟨k, rfl⟩ : ∃ q, k = q + 1 := ⟨k - 1, by omega⟩
    simp only [List.length_cons] at hi hl hk
    have hc0 : S.1 50 (1600 + i) = nI c := by
      have := hcs 0 (by simp)
      simpa using this
    have hokc := hok c (List.mem_cons_self)
    have hokr : okC cs := fun x hx => hok x (List.mem_cons_of_mem _ hx)
    have h95 : ∀ Sx, f_X12_codesTell_95 (f_X12_codesTell_19 k) (nI w) (nI t) (nI i) Sx = f_X12_codesTell_19 k (nI w) (nI t) (nI (i + 1)) Sx := by
      intro Sx
      unfold f_X12_codesTell_95
      rw [le1_e, nI_1]
    -- the rest, from a state that differs by the pile alone
    have go : ∀ (Sx : Hp) (st2 : List Int), evF S Sx → pileR Sx st2.reverse → (∀ a ∈ st2, inM a) → st2.length ≤ st.length + 1 → evS (fun q => (ptM S t q).toInt) cs st2 = some [v] → ∃ S', f_X12_codesTell_19 k (nI w) (nI t) (nI (i + 1)) Sx = some (LL v, S') ∧ evF S S' := by
      intro Sx st2 hF hp2 hst2 hl2 hev2
      obtain ⟨S', r1, r2⟩ := ih (i + 1) k Sx st2 v hokr (by omega) (by rw [hF.1 49 (by decide)]; exact he2) (by
        intro j hj
        rw [hF.1 50 (by decide)]
        have := hcs (j + 1) (by simp; omega)
        rw [show 1600 + (i + 1 + j) = 1600 + (i + (j + 1)) by omega]
        simpa using this) hp2 hst2 (by intro q hq; rw [ptM_F hF]; exact hpt q hq) (by omega) (by omega) (by
        have e9 : (fun q => (ptM Sx t q).toInt) = (fun q => (ptM S t q).toInt) := funext fun q => by rw [ptM_F hF]
        rw [e9]
        exact hev2)
      exact ⟨S', r1, evF_tr hF r2⟩
    rw [f_X12_codesTell_19, lit_nI 2, nI_add, ldI_n (by omega) (by decide), he2, if_neg (nI_ge (by omega) (by omega)), lit_nI 1600, nI_add, ldI_n (by omega) (by decide), hc0]
    have L1000 : (nI c < (1000 : Int32)) ↔ c < 1000 := nI_ltI (by omega) (by decide)
    have L40 : (nI c < (40 : Int32)) ↔ c < 40 := nI_ltI (by omega) (by decide)
    rw [evS] at hev
    rcases hokc with h | h | h
    · rw [if_neg (fun q => absurd (L1000.mp q) (by omega))]
      rw [if_pos h.1] at hev
      have e1 : (nI c - (1000 : Int32)).toInt64 = LL ((c : Int) - 1000) := by
        rw [LL_i, lit_nI 1000, pk_sub_toInt (by omega) (by decide)]
        rfl
      rw [e1]
      obtain ⟨S2, p1, p2, p3⟩ := m_puts hp (by simp; omega) ((c : Int) - 1000)
      rw [p1, ob_s, h95]
      exact go S2 _ p3 (by rw [List.reverse_cons]; exact p2) (by
        intro a ha
        rcases List.mem_cons.mp ha with rfl | ha
        · unfold inM; omega
        · exact hst a ha) (by simp) hev
    · rw [if_pos (L1000.mpr (by omega)), if_neg (fun q => absurd (L40.mp q) (by omega))]
      rw [if_neg (by omega), if_pos h.1] at hev
      have e1 : nI c - (40 : Int32) = nI (c - 40) := pk_sub (a := c) (b := 40) h.1
      rw [e1, m_part ht (by omega), ob2_s]
      obtain ⟨S2, p1, p2, p3⟩ := m_puts hp (by simp; omega) (ptM S t (c - 40)).toInt
      rw [p1, ob_s, h95]
      exact go S2 _ p3 (by rw [List.reverse_cons]; exact p2) (by
        intro a ha
        rcases List.mem_cons.mp ha with rfl | ha
        · exact hpt _ (by omega)
        · exact hst a ha) (by simp) hev
    · rw [if_pos (L1000.mpr (by omega)), if_pos (L40.mpr (by omega))]
      rw [if_neg (by omega), if_neg (by omega)] at hev
      obtain ⟨st3, hj, hev⟩ := ob_ok hev
      match st, hp, hst, hl, hj, go with
      | [], hp, hst, hl, hj, go => cases hj
      | [_], hp, hst, hl, hj, go => cases hj
      | b :: a :: r, hp, hst, hl, hj, go =>
        have hj2 : some (opv c a b :: r) = some st3 := hj
        obtain rfl := Option.some.inj hj2
        have hb : inM b := hst b (by simp)
        have ha : inM a := hst a (by simp)
        have hp' : pileR S (r.reverse ++ [a, b]) := by
          have : (b :: a :: r).reverse = r.reverse ++ [a, b] := by simp
          rw [← this]; exact hp
        obtain ⟨S2, p1, p2, p3⟩ := m_joins (c := c) hp' (by simp at hl ⊢; omega) ha hb (by omega)
        rw [p1, ob_s, h95]
        exact go S2 (opv c a b :: r) p3 (by rw [List.reverse_cons]; exact p2) (by
          intro x hx
          rcases List.mem_cons.mp hx with rfl | hx
          · exact opv_in (by omega) ha hb
          · exact hst x (by simp [hx])) (by simp <;> omega) hev
/-- what is left as it was by a sight's reckoning -/
def evG (S S' : Hp) : Prop := (∀ b, b ≠ 0 → S'.1 b = S.1 b) ∧ (∀ k, k ≠ 53 → k ≠ 56 → k ≠ 57 → k ≠ 106 → S'.1 0 k = S.1 0 k) ∧ (∀ b, b ≠ 106 → S'.2.1 b = S.2.1 b) ∧ S'.2.2 = S.2.2
theorem evG_rf (S : Hp) : evG S S := ⟨fun _ _ => rfl, fun _ _ _ _ _ => rfl, fun _ _ => rfl, rfl⟩
theorem evG_tr {S S1 S2 : Hp} (h1 : evG S S1) (h2 : evG S1 S2) : evG S S2 := ⟨fun b hb => (h2.1 b hb).trans (h1.1 b hb), fun k a b c d => (h2.2.1 k a b c d).trans (h1.2.1 k a b c d), fun b hb => (h2.2.2.1 b hb).trans (h1.2.2.1 b hb), h2.2.2.2.trans h1.2.2.2⟩
theorem evF_G {S S' : Hp} (h : evF S S') : evG S S' := ⟨h.1, fun k _ _ _ d => h.2.1 k d, h.2.2.1, h.2.2.2⟩
theorem evG_i (S : Hp) (k : Nat) (v : Int32) (hk : k = 53 ∨ k = 56 ∨ k = 57 ∨ k = 106) : evG S (ho_sI S 0 k v) := by
  refine ⟨fun b hb => by rw [sI_A, sA_ne _ _ hb], fun j a b c d => ?_, fun _ _ => rfl, rfl⟩
  rw [sI_A, sA_at, pk_un (by rcases hk with h | h | h | h <;> rw [h] <;> assumption)]
/-- where the codes of a crown's sum stand in the reference -/
def codM (S : Hp) (w : Nat) (cs : List Nat) : Prop := ∃ f, f + cs.length ≤ 1600 ∧ S.1 48 (2 + w) = nI f ∧ S.1 49 (2 + w) = nI (f + cs.length) ∧ (∀ j (h : j < cs.length), S.1 50 (1600 + (f + j)) = nI cs[j]) ∧ okC cs
theorem codM_G {S S' : Hp} (h : evG S S') {w : Nat} {cs : List Nat} (hc : codM S w cs) : codM S' w cs := by
  obtain ⟨f, h1, h2, h3, h4, h5⟩ := hc
  exact ⟨f, h1, by rw [h.1 48 (by decide)]; exact h2, by rw [h.1 49 (by decide)]; exact h3, by intro j hj; rw [h.1 50 (by decide)]; exact h4 j hj, h5⟩
theorem m_tell {S : Hp} {t w : Nat} {cs : List Nat} {v : Int} (ht : t < 6) (hw : w < 2) (hc : codM S w cs) (hpt : ∀ q, q < 7 → inM (ptM S t q).toInt) (hev : evS (fun q => (ptM S t q).toInt) cs [] = some [v]) : ∃ S', f_X12_codesTell (nI w) (nI t) S = some (LL v, S') ∧ evG S S' := by
  obtain ⟨f, h1, h2, h3, h4, h5⟩ := hc
  have hG : evG S (ho_sI (ho_sI S 0 53 (nI w)) 0 106 0) := evG_tr (evG_i S 53 _ (Or.inl rfl)) (evG_i _ 106 _ (Or.inr (Or.inr (Or.inr rfl))))
  have hpe : ∀ q, ptM (ho_sI (ho_sI S 0 53 (nI w)) 0 106 0) t q = ptM S t q := by
    intro q
    unfold ptM
    rw [hG.1 45 (by decide), hG.1 55 (by decide)]
    have e56 : (ho_sI (ho_sI S 0 53 (nI w)) 0 106 0).1 0 56 = S.1 0 56 := by rw [sI_A, sA_at, pk_un (by decide), sI_A, sA_at, pk_un (by decide)]
    have e57 : (ho_sI (ho_sI S 0 53 (nI w)) 0 106 0).1 0 57 = S.1 0 57 := by rw [sI_A, sA_at, pk_un (by decide), sI_A, sA_at, pk_un (by decide)]
    rw [e56, e57]
  obtain ⟨S', r1, r2⟩ := m_tell_loop (t := t) (w := w) (e := f + cs.length) ht hw (by omega) cs f 5000 (ho_sI (ho_sI S 0 53 (nI w)) 0 106 0) [] v h5 rfl (by rw [hG.1 49 (by decide)]; exact h3) (by intro j hj; rw [hG.1 50 (by decide)]; exact h4 j hj) ⟨by rw [sI_A, sA_at, pk_us]; rfl, fun i hi => absurd hi (by simp)⟩ (by intro a ha; cases ha) (by intro q hq; rw [hpe]; exact hpt q hq) (by simp; omega) (by omega) (by
    have e9 : (fun q => (ptM (ho_sI (ho_sI S 0 53 (nI w)) 0 106 0) t q).toInt) = (fun q => (ptM S t q).toInt) := funext fun q => by rw [hpe]
    rw [e9]
    exact hev)
  refine ⟨S', ?_, evG_tr hG (evF_G r2)⟩
  unfold f_X12_codesTell
  rw [le1_e, le1_e, lit_nI 2, nI_add, ldI_n (by omega) (by decide), lit_nI 0]
  have e48 : (ho_sI (ho_sI S 0 53 (nI w)) 0 106 (nI 0)).1 48 = S.1 48 := hG.1 48 (by decide)
  rw [e48, h2]
  exact r1
/-- 0 .. 99 -/
def c99 (v : Int) : Int32 := if 0 ≤ v then (if v ≤ 99 then (LL v).toInt32 else nI 99) else 0
/-- the parts that a sight is reckoned of -/
def ptS (S : Hp) (t w : Nat) (seat : Int32) (k : Nat) : Int32 := if k = 0 then S.1 45 (20 + 3 * t) else if k = 1 then S.1 55 (9 + t) else if k = 2 then S.1 55 0 else if k = 3 then seat else if k = 4 then S.1 46 (11 + 2 * w) else if k = 5 then S.1 45 (18 + 3 * t) else S.1 55 2
theorem m_sight0 {S : Hp} {t w : Nat} {seat : Int32} (hw : w < 5) (h0 : S.1 48 2 = -1) : f_X12_sightBy (nI t) (nI w) seat S = some (S.1 46 (11 + 2 * w), S) := by
  unfold f_X12_sightBy
  simp only [lit_nI 11, lit_nI 2, nI_add, pk_mul]
  rw [ldI_n (by omega) (by decide), ldI_n (by decide) (by decide), h0, if_pos rfl]
theorem m_sight1 {S : Hp} {t w : Nat} {seat : Int32} {cs : List Nat} {v : Int} (ht : t < 6) (hw : w < 5) (hc : codM S 0 cs) (hpt : ∀ q, q < 7 → inM (ptS S t w seat q).toInt) (hev : evS (fun q => (ptS S t w seat q).toInt) cs [] = some [v]) (hv : inM v) : ∃ S', f_X12_sightBy (nI t) (nI w) seat S = some (c99 v, S') ∧ evG S S' := by
  have hG : evG S (ho_sI (ho_sI S 0 56 seat) 0 57 (S.1 46 (11 + 2 * w))) := evG_tr (evG_i S 56 _ (Or.inr (Or.inl rfl))) (evG_i _ 57 _ (Or.inr (Or.inr (Or.inl rfl))))
  have hpe : ∀ q, ptM (ho_sI (ho_sI S 0 56 seat) 0 57 (S.1 46 (11 + 2 * w))) t q = ptS S t w seat q := by
    intro q
    unfold ptM ptS
    rw [hG.1 45 (by decide), hG.1 55 (by decide)]
    have e56 : (ho_sI (ho_sI S 0 56 seat) 0 57 (S.1 46 (11 + 2 * w))).1 0 56 = seat := by rw [sI_A, sA_at, pk_un (by decide), sI_A, sA_at, pk_us]
    have e57 : (ho_sI (ho_sI S 0 56 seat) 0 57 (S.1 46 (11 + 2 * w))).1 0 57 = S.1 46 (11 + 2 * w) := by rw [sI_A, sA_at, pk_us]
    rw [e56, e57]
  obtain ⟨S', r1, r2⟩ := m_tell (w := 0) ht (by decide) (codM_G hG hc) (by intro q hq; rw [hpe]; exact hpt q hq) (by
    have e9 : (fun q => (ptM (ho_sI (ho_sI S 0 56 seat) 0 57 (S.1 46 (11 + 2 * w))) t q).toInt) = (fun q => (ptS S t w seat q).toInt) := funext fun q => by rw [hpe]
    rw [e9]
    exact hev)
  refine ⟨S', ?_, evG_tr hG r2⟩
  obtain ⟨f, h1, h2, -⟩ := hc
  unfold f_X12_sightBy
  simp only [lit_nI 11, lit_nI 2, lit_nI 99, nI_add, pk_mul]
  have hne : ¬ nI f = -1 := by
    intro q
    have e1 : (nI f).toInt = (f : Int) := nI_toInt (by omega)
    rw [q] at e1
    have e2 : (-1 : Int32).toInt = -1 := by decide
    omega
  have k0 : (0 : Int64) = LL 0 := by decide
  have k99 : (99 : Int64) = LL 99 := by decide
  rw [ldI_n (by omega) (by decide), ldI_n (by decide) (by decide), h2, if_neg hne, le1_e, le1_e, show f_X12_codesTell (0 : Int32) (nI t) (ho_sI (ho_sI S 0 56 seat) 0 57 (S.1 46 (11 + 2 * w))) = some (LL v, S') from r1, ob2_s, k0, k99]
  obtain ⟨v1, v2⟩ := hv
  unfold c99
  by_cases g : 0 ≤ v
  · rw [if_pos ((c_ge (by omega) (by omega) (by decide) (by decide)).mpr g), if_pos g]
    by_cases g2 : v ≤ 99
    · rw [if_pos ((c_le (by omega) (by omega) (by decide) (by decide)).mpr g2), if_pos g2]
    · rw [if_neg (fun q => g2 ((c_le (by omega) (by omega) (by decide) (by decide)).mp q)), if_neg g2]
  · rw [if_neg (fun q => g ((c_ge (by omega) (by omega) (by decide) (by decide)).mp q)), if_neg g]

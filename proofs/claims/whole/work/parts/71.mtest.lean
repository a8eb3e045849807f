/-! level 2: the reference's reading of tests, step by step -/
def hB (k j : Nat) (S : Hp) : Option Hp := ob2 (f_X12_qGoesOnTest_0 j S) (fun r5 S5 => if r5 = 0 then f_X12_qTest_105 (f_X12_qTest_2 k) S5 else f_X12_qTest_106 (f_X12_qTest_2 k) (1 : Int32) S5)
theorem hA_bad {x : Int32} {k : Nat} {S : Hp} {e : Nat × Nat} (h : bR S e) (hk : 0 < k) : f_X12_qTest_2 k x S = some S := by
  obtain ⟨k, rfl⟩ : ∃ q, k = q + 1 := ⟨k - 1, by omega⟩
  have h0 := bR_0 h
  have e0 : f_X12_qTest_110 5000 S = some S := by rw [f_X12_qTest_110, if_neg h0]
  rw [f_X12_qTest_2, if_neg h0, e0]
  split <;> rfl
theorem m_87 {V : List Nat} {op bs : Nat} (hV : ∀ y, V.getLast? = some y → y ≠ 10) (hx : ∀ y ∈ V, y < 1000) : ∀ (R : List Nat) (k : Nat) (S : Hp) (Cs : List Nat), qS S (V ++ R.reverse) Cs op bs → (∀ y ∈ R, y = 10) → R.length < k → V.length + R.length + Cs.length < 1690 →
    ∃ S', f_X12_qGoesOnTest_87 k S = some (1, S') ∧ qS S' (V ++ [10]) (Cs ++ R) op bs ∧ fM qP S S' := by
  intro R
  induction R with
  | nil =>
    intro k S Cs h hR hk hl
    obtain ⟨k, rfl⟩ : ∃ q, k = q + 1 := ⟨k - 1, by omega⟩
    simp only [List.reverse_nil, List.append_nil, List.length_nil] at h hl ⊢
    have o := m_on (c := 10) h (by omega) hx (by decide)
    rw [if_neg (fun q => (hV _ q) rfl)] at o
    obtain ⟨p1, p2⟩ := qS_push 10 h
    rw [f_X12_qGoesOnTest_87, show f_X12_qIsOn (10 : Int32) S = _ from o, ob2_s, if_pos rfl, show (10 : Int32) = nI 10 from rfl, m_push h (by omega)]
    exact ⟨_, rfl, p1, p2⟩
  | cons y R ih =>
    intro k S Cs h hR hk hl
    obtain ⟨k, rfl⟩ : ∃ q, k = q + 1 := ⟨k - 1, by omega⟩
    rw [app_rev] at h
    simp only [List.length_cons] at hk hl
    have hlen := len_rev (V := V) (R := R)
    have hy := hR y (by simp)
    have hx2 : ∀ z ∈ V ++ R.reverse ++ [y], z < 1000 := by
      intro z hz
      simp only [List.mem_append, List.mem_reverse, List.mem_singleton] at hz
      rcases hz with (hz | hz) | hz
      · exact hx z hz
      · have := hR z (by simp [hz]); omega
      · omega
    have o := m_on (c := 10) h (by rw [List.length_append, hlen]; simp; omega) hx2 (by decide)
    rw [List.getLast?_append] at o
    simp only [List.getLast?_singleton, Option.some_or, Option.some.injEq] at o
    rw [if_pos hy] at o
    obtain ⟨S1, r1, r2, r3⟩ := m_drop h (by rw [hlen]; omega) (by omega)
    obtain ⟨S2, q1, q2, q3⟩ := ih k S1 (Cs ++ [y]) r2 (fun z hz => hR z (by simp [hz])) (by omega) (by simp; omega)
    refine ⟨S2, ?_, by rw [List.append_assoc] at q2; exact q2, fM_tr r3 q3⟩
    rw [f_X12_qGoesOnTest_87, show f_X12_qIsOn (10 : Int32) S = _ from o, ob2_s, if_neg ne1, r1, ob_s, q1]
theorem m_137 {V : List Nat} {op bs : Nat} (hV : ∀ y, V.getLast? = some y → y ≠ 10 ∧ y ≠ 11) (hx : ∀ y ∈ V, y < 1000) : ∀ (R : List Nat) (k : Nat) (S : Hp) (Cs : List Nat), qS S (V ++ R.reverse) Cs op bs → (∀ y ∈ R, y = 10 ∨ y = 11) → R.length < k → V.length + R.length + Cs.length < 1690 →
    ∃ S', f_X12_qGoesOnTest_137 k S = some (1, S') ∧ qS S' (V ++ [11]) (Cs ++ R) op bs ∧ fM qP S S' := by
  intro R
  induction R with
  | nil =>
    intro k S Cs h hR hk hl
    obtain ⟨k, rfl⟩ : ∃ q, k = q + 1 := ⟨k - 1, by omega⟩
    simp only [List.reverse_nil, List.append_nil, List.length_nil] at h hl ⊢
    have o := m_on (c := 10) h (by omega) hx (by decide)
    have o2 := m_on (c := 11) h (by omega) hx (by decide)
    rw [if_neg (fun q => (hV _ q).1 rfl)] at o
    rw [if_neg (fun q => (hV _ q).2 rfl)] at o2
    obtain ⟨p1, p2⟩ := qS_push 11 h
    rw [f_X12_qGoesOnTest_137, show f_X12_qIsOn (10 : Int32) S = _ from o, ob2_s, if_pos rfl, show f_X12_qIsOn (11 : Int32) S = _ from o2, ob2_s, if_pos rfl, show (11 : Int32) = nI 11 from rfl, m_push h (by omega)]
    exact ⟨_, rfl, p1, p2⟩
  | cons y R ih =>
    intro k S Cs h hR hk hl
    obtain ⟨k, rfl⟩ : ∃ q, k = q + 1 := ⟨k - 1, by omega⟩
    rw [app_rev] at h
    simp only [List.length_cons] at hk hl
    have hlen := len_rev (V := V) (R := R)
    have hy := hR y (by simp)
    have hx2 : ∀ z ∈ V ++ R.reverse ++ [y], z < 1000 := by
      intro z hz
      simp only [List.mem_append, List.mem_reverse, List.mem_singleton] at hz
      rcases hz with (hz | hz) | hz
      · exact hx z hz
      · have := hR z (by simp [hz]); omega
      · omega
    have o : ∀ c, c < 1000 → f_X12_qIsOn (nI c) S = some (if y = c then 1 else 0, S) := by
      intro c hc
      have := m_on (c := c) h (by rw [List.length_append, hlen]; simp; omega) hx2 hc
      rw [List.getLast?_append] at this
      simp only [List.getLast?_singleton, Option.some_or, Option.some.injEq] at this
      exact this
    obtain ⟨S1, r1, r2, r3⟩ := m_drop h (by rw [hlen]; omega) (by omega)
    obtain ⟨S2, q1, q2, q3⟩ := ih k S1 (Cs ++ [y]) r2 (fun z hz => hR z (by simp [hz])) (by omega) (by simp; omega)
    refine ⟨S2, ?_, by rw [List.append_assoc] at q2; exact q2, fM_tr r3 q3⟩
    have h155 : f_X12_qGoesOnTest_155 (f_X12_qGoesOnTest_137 k) S = some (1, S2) := by
      unfold f_X12_qGoesOnTest_155
      rw [r1, ob_s, q1]
    rw [f_X12_qGoesOnTest_137, show f_X12_qIsOn (10 : Int32) S = _ from o 10 (by decide), ob2_s]
    by_cases e : y = 10
    · rw [if_pos e, if_neg ne1, h155]
    · rw [if_neg e, if_pos rfl, show f_X12_qIsOn (11 : Int32) S = _ from o 11 (by decide), ob2_s, if_pos (show y = 11 by omega), if_neg ne1, h155]
theorem m_nots {W : List Nat} {bs : Nat} (hW : ∀ y, W.getLast? = some y → y ≠ 12) (hx : ∀ y ∈ W, y < 1000) : ∀ (c op k : Nat) (S : Hp) (Cs : List Nat), S.1 0 5 = 0 → qS S (W ++ List.replicate c 12) Cs (op + c) bs → c < k → W.length + c + Cs.length < 1690 →
    ∃ S', f_X12_qDropsNots_0 k S = some S' ∧ qS S' W (Cs ++ List.replicate c 12) op bs ∧ fM qP S S' := by
  intro c
  induction c with
  | zero =>
    intro op k S Cs h5 h hk hl
    obtain ⟨k, rfl⟩ : ∃ q, k = q + 1 := ⟨k - 1, by omega⟩
    simp only [List.replicate_zero, List.append_nil, Nat.add_zero] at h hl ⊢
    have o := m_on (c := 12) h (by omega) hx (by decide)
    rw [if_neg (fun q => (hW _ q) rfl)] at o
    refine ⟨S, ?_, h, fM_rf _ S⟩
    rw [f_X12_qDropsNots_0, if_pos h5, show f_X12_qIsOn (12 : Int32) S = _ from o, ob2_s, if_pos rfl]
  | succ c ih =>
    intro op k S Cs h5 h hk hl
    obtain ⟨k, rfl⟩ : ∃ q, k = q + 1 := ⟨k - 1, by omega⟩
    rw [List.replicate_succ', ← List.append_assoc] at h
    have hlen : (W ++ List.replicate c 12).length = W.length + c := by simp
    have hx2 : ∀ z ∈ W ++ List.replicate c 12 ++ [12], z < 1000 := by
      intro z hz
      simp only [List.mem_append, List.mem_replicate, List.mem_singleton] at hz
      rcases hz with (hz | hz) | hz
      · exact hx z hz
      · omega
      · omega
    have o := m_on (c := 12) h (by rw [List.length_append, hlen]; simp; omega) hx2 (by decide)
    rw [List.getLast?_append] at o
    simp only [List.getLast?_singleton, Option.some_or] at o
    rw [if_pos trivial] at o
    have h1 : qS (ho_sI S 0 103 (nI (op + c))) (W ++ List.replicate c 12 ++ [12]) Cs (op + c) bs := by
      obtain ⟨⟨h1, h2⟩, ⟨h3, h4⟩, h5, h6⟩ := h
      exact ⟨⟨by rw [sI_k (by decide)]; exact h1, lsC_ne h2 (by decide)⟩, ⟨by rw [sI_k (by decide)]; exact h3, lsC_ne h4 (by decide)⟩, sI_v, by rw [sI_k (by decide)]; exact h6⟩
    obtain ⟨S1, r1, r2, r3⟩ := m_drop h1 (by rw [hlen]; omega) (by omega)
    have f1 : fM qP S S1 := fM_tr (fM_sI _ (by unfold qP; omega)) r3
    obtain ⟨S2, q1, q2, q3⟩ := ih op k S1 (Cs ++ [12]) (by rw [f1.1 0 5 (by unfold qP; omega)]; exact h5) r2 (by omega) (by simp; omega)
    refine ⟨S2, ?_, ?_, fM_tr f1 q3⟩
    · rw [f_X12_qDropsNots_0, if_pos h5, show f_X12_qIsOn (12 : Int32) S = _ from o, ob2_s, if_neg ne1, h.2.2.1, show op + (c + 1) = op + c + 1 by omega, n_pred, le1_e, r1, ob_s, q1]
    · rw [List.append_assoc] at q2
      rw [List.replicate_succ]
      exact q2
theorem m_sq {W Cs : List Nat} {op bs : Nat} {S : Hp} (h : qS S W Cs op bs) (hx : ∀ y ∈ W, y < 1000) (hl : W.length < 1690) : ∀ (d i k : Nat), i + d = W.length → d < k → (∀ j, j < i → W.getD j 0 ≠ 25) → f_X12_qHasSquare_2 k (nI i) S = some (if 25 ∈ W then 1 else 0, S) := by
  intro d
  induction d with
  | zero =>
    intro i k hi hk hno
    obtain ⟨k, rfl⟩ : ∃ q, k = q + 1 := ⟨k - 1, by omega⟩
    rw [f_X12_qHasSquare_2, h.1.1, if_pos (nI_le (by omega) (by omega)), if_neg]
    intro q
    obtain ⟨j, hj, e⟩ := List.getElem_of_mem q
    refine hno j (by omega) ?_
    rw [List.getD_eq_getElem?_getD, List.getElem?_eq_getElem hj]
    exact e
  | succ d ih =>
    intro i k hi hk hno
    obtain ⟨k, rfl⟩ : ∃ q, k = q + 1 := ⟨k - 1, by omega⟩
    have hlt : i < W.length := (by omega)
    have hm : W.getD i 0 ∈ W := by
      rw [List.getD_eq_getElem?_getD, List.getElem?_eq_getElem hlt]
      exact List.getElem_mem hlt
    have h1 := hx _ hm
    rw [f_X12_qHasSquare_2, h.1.1, if_neg (nI_ge hlt (by omega)), ldI_n (by omega) (by decide), h.1.2 i hlt]
    by_cases e : W.getD i 0 = 25
    · rw [if_pos ((eqL 25 (by omega) (by decide)).mpr e), if_pos (by rw [← e]; exact hm)]
    · rw [if_neg (fun q => e ((eqL 25 (by omega) (by decide)).mp q)), le1_e, nI_1, ih (i + 1) k (by omega) (by omega) (fun j hj => by
        by_cases q : j = i
        · subst q; exact e
        · exact hno j (by omega))]
theorem m_hsq {W Cs : List Nat} {op bs : Nat} {S : Hp} (h : qS S W Cs op bs) (hx : ∀ y ∈ W, y < 1000) (hl : W.length < 1690) : f_X12_qHasSquare S = some (if 25 ∈ W then 1 else 0, S) :=
  m_sq h hx hl W.length 0 5000 (by omega) (by omega) (fun j hj => absurd hj (by omega))
/-- brackets of tests closed -/
theorem m_33 {K0 : Hp → Option (Int32 × Hp)} {W : List Nat} {T : Tp} {m c op bs : Nat} {σ : Lx} (hW : ∀ y, W.getLast? = some y → y ≠ 12) (hx : ∀ y ∈ W, y < 1000) : ∀ (R : List Nat) (k : Nat) (S : Hp) (Cs : List Nat), qR S T m σ (W ++ List.replicate c 12 ++ [25] ++ R.reverse) Cs (op + c + 1) bs → (∀ y ∈ R, y = 10 ∨ y = 11) → R.length < k → c < 4000 → W.length + c + 1 + R.length + Cs.length < 1690 →
    ∃ S', f_X12_qGoesOnTest_33 K0 k S = K0 S' ∧ qR S' T m σ W (Cs ++ R ++ List.replicate c 12) op bs ∧ fM qP S S' := by
  have hlen0 : (W ++ List.replicate c 12).length = W.length + c := by simp
  have hxV : ∀ z ∈ W ++ List.replicate c 12 ++ [25], z < 1000 := by
    intro z hz
    simp only [List.mem_append, List.mem_replicate, List.mem_singleton] at hz
    rcases hz with (hz | hz) | hz
    · exact hx z hz
    · omega
    · omega
  intro R
  induction R with
  | nil =>
    intro k S Cs h hR hk hc hl
    obtain ⟨k, rfl⟩ : ∃ q, k = q + 1 := ⟨k - 1, by omega⟩
    simp only [List.reverse_nil, List.append_nil, List.length_nil] at h hl ⊢
    have o := m_on (c := 25) h.2.2.2 (by rw [List.length_append, hlen0]; simp; omega) hxV (by decide)
    rw [List.getLast?_append] at o
    simp only [List.getLast?_singleton, Option.some_or] at o
    rw [if_pos trivial] at o
    obtain ⟨p1, p2, p3⟩ := qS_pop h.2.2.2
    rw [hlen0] at p1 p2 p3
    have h103 : S.1 0 103 = nI (op + c + 1) := h.2.2.2.2.2.1
    have p4 : qS (ho_sI (ho_sI S 0 102 (nI (W.length + c))) 0 103 (nI (op + c))) (W ++ List.replicate c 12) Cs (op + c) bs := by
      obtain ⟨⟨h1, h2⟩, ⟨h3, h4⟩, h5, h6⟩ := p1
      exact ⟨⟨by rw [sI_k (by decide)]; exact h1, lsC_ne h2 (by decide)⟩, ⟨by rw [sI_k (by decide)]; exact h3, lsC_ne h4 (by decide)⟩, sI_v, by rw [sI_k (by decide)]; exact h6⟩
    have f4 : fM qP S (ho_sI (ho_sI S 0 102 (nI (W.length + c))) 0 103 (nI (op + c))) := fM_tr (fM_sI _ (by unfold qP; omega)) (fM_sI _ (by unfold qP; omega))
    have q4 := qR_q h f4 p4
    obtain ⟨S5, u1, u2, u3⟩ := m_nots hW hx c op 5000 _ Cs q4.1.2.2.1 p4 (by omega) (by omega)
    refine ⟨S5, ?_, qR_q q4 u3 u2, fM_tr f4 u3⟩
    rw [f_X12_qGoesOnTest_33, show f_X12_qIsOn (25 : Int32) S = _ from o, ob2_s, if_neg ne1, p3, n_pred, le1_e, sI_k (a := 0) (k := 102) (j := 103) (by decide), h103, n_pred, le1_e]
    unfold f_X12_qDropsNots
    rw [u1, ob_s]
  | cons y R ih =>
    intro k S Cs h hR hk hc hl
    obtain ⟨k, rfl⟩ : ∃ q, k = q + 1 := ⟨k - 1, by omega⟩
    rw [app_rev] at h
    simp only [List.length_cons] at hk hl
    have hlen : (W ++ List.replicate c 12 ++ [25] ++ R.reverse).length = W.length + c + 1 + R.length := by simp; omega
    have hy := hR y (by simp)
    have hx2 : ∀ z ∈ W ++ List.replicate c 12 ++ [25] ++ R.reverse ++ [y], z < 1000 := by
      intro z hz
      rcases List.mem_append.mp hz with hz | hz
      · rcases List.mem_append.mp hz with hz | hz
        · exact hxV z hz
        · have := hR z (by simp at hz; simp [hz]); omega
      · simp at hz; omega
    have o := m_on (c := 25) h.2.2.2 (by rw [List.length_append, hlen]; simp; omega) hx2 (by decide)
    rw [List.getLast?_append] at o
    simp only [List.getLast?_singleton, Option.some_or, Option.some.injEq] at o
    rw [if_neg (by omega)] at o
    obtain ⟨S1, r1, r2, r3⟩ := m_drop h.2.2.2 (by rw [hlen]; omega) (by omega)
    obtain ⟨S2, q1, q2, q3⟩ := ih k S1 (Cs ++ [y]) (qR_q h r3 r2) (fun z hz => hR z (by simp [hz])) (by omega) hc (by simp; omega)
    refine ⟨S2, ?_, ?_, fM_tr r3 q3⟩
    · rw [f_X12_qGoesOnTest_33, show f_X12_qIsOn (25 : Int32) S = _ from o, ob2_s, if_pos rfl, r1, ob_s, q1]
    · simp only [List.append_assoc, List.cons_append, List.nil_append] at q2 ⊢
      exact q2
theorem isWG {T : Tp} {σ : Lx} {w : List Nat} {c : Nat} (h : isW T σ w = true) : ¬ isG T σ c = true := by
  intro q
  have := (isG_i.mp q).1
  rw [(isW_i.mp h).1] at this; cases this
theorem hB_n {S : Hp} {T : Tp} {m j : Nat} {σ : Lx} {W Cs : List Nat} {op bs : Nat} (h : qR S T m σ W Cs op bs) (hn : ¬ isG T σ 93 = true) : f_X12_qGoesOnTest_0 (j + 1) S = f_X12_qGoesOnTest_76 (ho_sI S 0 2 (nI (tS T σ))) := by
  rw [f_X12_qGoesOnTest_0, if_pos h.1.2.2.1, m_look h.1, ob2_s, if_neg (fun q => hn ((byL 93 (h256 h.1) (by decide)).mp q))]
theorem t_and {S : Hp} {T : Tp} {m op bs k j : Nat} {σ : Lx} {V R Cs : List Nat} (h : qR S T m σ (V ++ R.reverse) Cs op bs) (g : isW T σ wAnd = true) (hV : ∀ y, V.getLast? = some y → y ≠ 10) (hx : ∀ y ∈ V, y < 1000) (hR : ∀ y ∈ R, y = 10) (hl : V.length + R.length + Cs.length < 1690) :
    ∃ S', hB k (j + 1) S = f_X12_qTest_2 k 1 S' ∧ qR S' T m (nx T σ) (V ++ [10]) (Cs ++ R) op bs ∧ fM pP S S' := by
  obtain ⟨q1, f1⟩ := qR_X h
  obtain ⟨S1, t1, t2, t3, t4⟩ := m_takes q1.1 (by decide) (mW_at q1.2.2.1 83 wAnd (by decide))
  have q2 := qR_l q1 t2 (t3 g)
  obtain ⟨S2, u1, u2, u3⟩ := m_87 hV hx R 5000 S1 Cs q2.2.2.2 hR (by omega) hl
  refine ⟨S2, ?_, qR_q q2 u3 u2, fM_tr (fM_mo (fM_tr f1 t2) (fun _ _ => lx_p)) (fM_mo u3 (fun _ _ => q_p))⟩
  unfold hB
  rw [hB_n h (isWG g)]
  unfold f_X12_qGoesOnTest_76
  rw [show f_X12_takes 83 3 _ = _ from t1, if_pos g, ob2_s, if_neg ne1, u1, ob2_s, if_neg ne1]
  rfl
theorem t_or {S : Hp} {T : Tp} {m op bs k j : Nat} {σ : Lx} {V R Cs : List Nat} (h : qR S T m σ (V ++ R.reverse) Cs op bs) (g : isW T σ wOr = true) (hV : ∀ y, V.getLast? = some y → y ≠ 10 ∧ y ≠ 11) (hx : ∀ y ∈ V, y < 1000) (hR : ∀ y ∈ R, y = 10 ∨ y = 11) (hl : V.length + R.length + Cs.length < 1690) :
    ∃ S', hB k (j + 1) S = f_X12_qTest_2 k 1 S' ∧ qR S' T m (nx T σ) (V ++ [11]) (Cs ++ R) op bs ∧ fM pP S S' := by
  obtain ⟨q1, f1⟩ := qR_X h
  have na : ¬ isW T σ wAnd = true := fun q => absurd (isW_u g q) (by decide)
  obtain ⟨S0, s1, s2, s3, s4⟩ := m_takes q1.1 (by decide) (mW_at q1.2.2.1 83 wAnd (by decide))
  have q0 := qR_l q1 s2 (s4 na).1
  obtain ⟨S1, t1, t2, t3, t4⟩ := m_takes q0.1 (by decide) (mW_at q0.2.2.1 84 wOr (by decide))
  have q2 := qR_l q0 t2 (t3 g)
  obtain ⟨S2, u1, u2, u3⟩ := m_137 hV hx R 5000 S1 Cs q2.2.2.2 hR (by omega) hl
  refine ⟨S2, ?_, qR_q q2 u3 u2, fM_tr (fM_mo (fM_tr f1 (fM_tr s2 t2)) (fun _ _ => lx_p)) (fM_mo u3 (fun _ _ => q_p))⟩
  unfold hB
  rw [hB_n h (isWG g)]
  unfold f_X12_qGoesOnTest_76
  rw [show f_X12_takes 83 3 _ = _ from s1, if_neg na, ob2_s, if_pos rfl, show f_X12_takes 84 2 _ = _ from t1, if_pos g, ob2_s, if_neg ne1, u1, ob2_s, if_neg ne1]
  rfl
/-- neither and nor or comes next -/
def noA (T : Tp) (σ : Lx) : Prop := ¬ isW T σ wAnd = true ∧ ¬ isW T σ wOr = true
theorem t_76 {S : Hp} {T : Tp} {m op bs : Nat} {σ : Lx} {W Cs : List Nat} (h : qR S T m σ W Cs op bs) (n : noA T σ) (hx : ∀ y ∈ W, y < 1000) (hl : W.length < 1690) : ∃ S', lX S' T σ ∧ qR S' T m σ W Cs op bs ∧ fM lxP S S' ∧ f_X12_qGoesOnTest_76 S = if 25 ∈ W then ob (f_X12_fail (1 : Int32) (nI (tS T σ)) S') (fun S4 => some ((0 : Int32), S4)) else some ((0 : Int32), S') := by
  obtain ⟨S0, s1, s2, s3, s4⟩ := m_takes h.1 (by decide) (mW_at h.2.2.1 83 wAnd (by decide))
  have q0 := qR_l h s2 (s4 n.1).1
  obtain ⟨S1, t1, t2, t3, t4⟩ := m_takes q0.1 (by decide) (mW_at q0.2.2.1 84 wOr (by decide))
  have q2 := qR_l q0 t2 (t4 n.2).1
  refine ⟨S1, t4 n.2, q2, fM_tr s2 t2, ?_⟩
  unfold f_X12_qGoesOnTest_76
  rw [show f_X12_takes 83 3 _ = _ from s1, if_neg n.1, ob2_s, if_pos rfl, show f_X12_takes 84 2 _ = _ from t1, if_neg n.2, ob2_s, if_pos rfl, if_pos q2.1.2.2.1, m_hsq q2.2.2.2 hx hl, ob2_s, (t4 n.2).2]
  by_cases e : 25 ∈ W
  · rw [if_pos e, if_neg ne1, if_pos e]
  · rw [if_neg e, if_pos rfl, if_neg e]

/-! level 2: the reference: what waits is put, dropped, looked for -/
def qP (b k : Nat) : Prop := (b = 0 ∧ (k = 100 ∨ k = 102 ∨ k = 103 ∨ k = 104)) ∨ b = 100 ∨ b = 102
theorem q_p {b k : Nat} (h : qP b k) : pP b k := by
  unfold qP at h
  unfold pP
  omega
theorem lR_q {S S' : Hp} {T : Tp} {σ : Lx} (h : lR S T σ) (hf : fM qP S S') : lR S' T σ := by
  obtain ⟨h1, h2, h3, ⟨a, a1, a2, a3⟩, h5⟩ := h
  have e : ∀ k, k < 100 → S'.1 0 k = S.1 0 k := fun k hk => hf.1 0 k (by unfold qP; omega)
  refine ⟨lB_f h1 (e 3 (by decide)) (fun i => hf.1 1 i (by unfold qP; omega)), h2, by rw [e 5 (by decide)]; exact h3, ⟨a, a1, a2, by rw [e 2 (by decide)]; exact a3⟩, ?_⟩
  unfold enR
  rw [e 4 (by decide), e 6 (by decide)]
  exact h5
theorem lX_q {S S' : Hp} {T : Tp} {σ : Lx} (h : lX S T σ) (hf : fM qP S S') : lX S' T σ := ⟨lR_q h.1 hf, by rw [hf.1 0 2 (by unfold qP; omega)]; exact h.2⟩
theorem qR_q {S S' : Hp} {T : Tp} {m : Nat} {σ : Lx} {W Cs W' Cs' : List Nat} {op bs op' bs' : Nat} (h : qR S T m σ W Cs op bs) (hf : fM qP S S') (hq : qS S' W' Cs' op' bs') : qR S' T m σ W' Cs' op' bs' := by
  refine ⟨lR_q h.1 hf, ⟨?_, h.2.1.2⟩, mWs_f h.2.2.1 hf (fun b k q => pP_w (q_p q)), hq⟩
  rw [hf.1 0 53 (by unfold qP; omega)]
  exact h.2.1.1
theorem lsC_push {S : Hp} {a : Nat} {l : List Nat} {v : Nat} (h : lsC S a l) : lsC (ho_sI S a l.length (nI v)) a (l ++ [v]) := by
  intro i hi
  rw [List.length_append] at hi
  rw [getD_app, sI_at]
  by_cases q : i < l.length
  · rw [if_pos q, pk_un (by omega)]; exact h i q
  · have e : i = l.length := by simp at hi; omega
    subst e
    rw [if_neg q, pk_us, Nat.sub_self]
    rfl
theorem lsC_pop {S : Hp} {a : Nat} {l : List Nat} {v : Nat} (h : lsC S a (l ++ [v])) : lsC S a l ∧ S.1 a l.length = nI v := by
  constructor
  · intro i hi
    have := h i (by rw [List.length_append]; omega)
    rw [getD_app, if_pos hi] at this
    exact this
  · have := h l.length (by simp)
    rw [getD_app, if_neg (by omega), Nat.sub_self] at this
    exact this
theorem lsC_ne {S : Hp} {a b k : Nat} {v : Int32} {l : List Nat} (h : lsC S a l) (hn : a ≠ b) : lsC (ho_sI S b k v) a l := fun i hi => by rw [sI_ne _ hn]; exact h i hi
theorem m_code {S : Hp} {W Cs : List Nat} {op bs : Nat} (v : Nat) (h : qS S W Cs op bs) (hl : Cs.length < 1700) : ∃ S', f_X12_qCode (nI v) S = some S' ∧ qS S' W (Cs ++ [v]) op bs ∧ fM qP S S' := by
  obtain ⟨⟨h1, h2⟩, ⟨h3, h4⟩, h5, h6⟩ := h
  refine ⟨ho_sI (ho_sI S 100 Cs.length (nI v)) 0 100 (nI (Cs.length + 1)), ?_, ⟨⟨?_, lsC_ne (lsC_ne h2 (by decide)) (by decide)⟩, ⟨?_, lsC_ne (lsC_push h4) (by decide)⟩, ?_, ?_⟩, fM_tr (fM_sI _ (by unfold qP; omega)) (fM_sI _ (by unfold qP; omega))⟩
  · unfold f_X12_qCode
    rw [h3, stI_n hl (by decide), le1_e, sI_ne _ (by decide), h3, nI_1]
  · rw [sI_k (by decide), sI_ne _ (by decide)]; exact h1
  · rw [sI_v, List.length_append]; rfl
  · rw [sI_k (by decide), sI_ne _ (by decide)]; exact h5
  · rw [sI_k (by decide), sI_ne _ (by decide)]; exact h6
theorem qS_pop {S : Hp} {W Cs : List Nat} {x op bs : Nat} (h : qS S (W ++ [x]) Cs op bs) : qS (ho_sI S 0 102 (nI W.length)) W Cs op bs ∧ S.1 102 W.length = nI x ∧ S.1 0 102 = nI (W.length + 1) := by
  obtain ⟨⟨h1, h2⟩, ⟨h3, h4⟩, h5, h6⟩ := h
  obtain ⟨p1, p2⟩ := lsC_pop h2
  refine ⟨⟨⟨sI_v, lsC_ne p1 (by decide)⟩, ⟨by rw [sI_k (by decide)]; exact h3, lsC_ne h4 (by decide)⟩, by rw [sI_k (by decide)]; exact h5, by rw [sI_k (by decide)]; exact h6⟩, p2, ?_⟩
  rw [h1, List.length_append]; rfl
theorem n_pred {n : Nat} : nI (n + 1) - (1 : Int32) = nI n := pk_sub (a := n + 1) (b := 1) (by omega)
theorem m_drop {S : Hp} {W Cs : List Nat} {x op bs : Nat} (h : qS S (W ++ [x]) Cs op bs) (hw : W.length < 1700) (hl : Cs.length < 1700) : ∃ S', f_X12_qDrops S = some S' ∧ qS S' W (Cs ++ [x]) op bs ∧ fM qP S S' := by
  obtain ⟨p1, p2, p3⟩ := qS_pop h
  obtain ⟨S1, r1, r2, r3⟩ := m_code x p1 hl
  refine ⟨S1, ?_, r2, fM_tr (fM_sI _ (by unfold qP; omega)) r3⟩
  unfold f_X12_qDrops
  rw [p3, n_pred, le1_e, sI_v, ldI_n hw (by decide), sI_ne _ (by decide), p2, r1, ob_s]
def pushS (S : Hp) (n x : Nat) : Hp := ho_sI (ho_sI S 102 n (nI x)) 0 102 (nI (n + 1))
theorem m_push {β : Type} {S : Hp} {W Cs : List Nat} {op bs x : Nat} {f : Hp → Option β} (h : qS S W Cs op bs) (hw : W.length < 1700) : stI S 102 1700 (S.1 0 102) (nI x) (fun S3 => le1 (ho_sI S3 0 102 ((S3.1 0 102) + (1 : Int32))) f) = f (pushS S W.length x) := by
  rw [h.1.1, stI_n hw (by decide), le1_e, sI_ne _ (by decide), h.1.1, nI_1]
  rfl
theorem qS_push {S : Hp} {W Cs : List Nat} {op bs : Nat} (x : Nat) (h : qS S W Cs op bs) : qS (pushS S W.length x) (W ++ [x]) Cs op bs ∧ fM qP S (pushS S W.length x) := by
  obtain ⟨⟨h1, h2⟩, ⟨h3, h4⟩, h5, h6⟩ := h
  unfold pushS
  refine ⟨⟨⟨by rw [sI_v, List.length_append]; rfl, lsC_ne (lsC_push h2) (by decide)⟩, ⟨by rw [sI_k (by decide), sI_ne _ (by decide)]; exact h3, lsC_ne (lsC_ne h4 (by decide)) (by decide)⟩, ?_, ?_⟩, fM_tr (fM_sI _ (by unfold qP; omega)) (fM_sI _ (by unfold qP; omega))⟩
  · rw [sI_k (by decide), sI_ne _ (by decide)]; exact h5
  · rw [sI_k (by decide), sI_ne _ (by decide)]; exact h6
theorem m_on {S : Hp} {W Cs : List Nat} {op bs c : Nat} (h : qS S W Cs op bs) (hw : W.length < 1700) (hx : ∀ x ∈ W, x < 1000) (hc : c < 1000) : f_X12_qIsOn (nI c) S = some (if W.getLast? = some c then 1 else 0, S) := by
  unfold f_X12_qIsOn
  rcases List.eq_nil_or_concat W with rfl | ⟨V, x, rfl⟩
  · rw [h.1.1, if_pos (show nI ([] : List Nat).length ≤ 0 from by decide), if_neg (by simp)]
  · rw [List.concat_eq_append] at h hw hx ⊢
    obtain ⟨p1, p2, p3⟩ := qS_pop h
    have hx2 := hx x (by simp)
    rw [List.length_append] at hw
    simp only [List.length_cons, List.length_nil] at hw
    rw [p3, if_neg (nI_nle (by omega) (by omega)), n_pred, ldI_n (by omega) (by decide), p2]
    by_cases e : x = c
    · rw [if_pos ((nI_eq (by omega) (by omega)).mpr e), if_pos (by simp [e])]
    · rw [if_neg (fun q => e ((nI_eq (by omega) (by omega)).mp q)), if_neg (by simp [e])]
theorem app_rev {V R : List Nat} {y : Nat} : V ++ (y :: R).reverse = (V ++ R.reverse) ++ [y] := by rw [List.reverse_cons, List.append_assoc]
theorem len_rev {V R : List Nat} : (V ++ R.reverse).length = V.length + R.length := by rw [List.length_append, List.length_reverse]
/-- top of V and of what is put on it -/
theorem m_162 {V : List Nat} {x op bs : Nat} (hV : ∀ y, V.getLast? = some y → y ≠ 3 ∧ y ≠ 4) (hx : ∀ y ∈ V, y < 1000) : ∀ (R : List Nat) (k : Nat) (S : Hp) (Cs : List Nat), qS S (V ++ R.reverse) Cs op bs → (∀ y ∈ R, y = 3 ∨ y = 4) → R.length < k → V.length + R.length + Cs.length < 1690 →
    ∃ S', f_X12_qGoesOn_162 k (nI x) S = some (1, S') ∧ qS S' (V ++ [x]) (Cs ++ R) op bs ∧ fM qP S S' := by
  intro R
  induction R with
  | nil =>
    intro k S Cs h hR hk hl
    obtain ⟨k, rfl⟩ : ∃ q, k = q + 1 := ⟨k - 1, by omega⟩
    simp only [List.reverse_nil, List.append_nil, List.length_nil] at h hl ⊢
    have o := fun c (hc : c < 1000) => m_on (c := c) h (by omega) hx hc
    have o3 := o 3 (by decide)
    have o4 := o 4 (by decide)
    rw [if_neg (fun q => (hV _ q).1 rfl)] at o3
    rw [if_neg (fun q => (hV _ q).2 rfl)] at o4
    obtain ⟨p1, p2⟩ := qS_push x h
    rw [f_X12_qGoesOn_162, show f_X12_qIsOn (3 : Int32) S = _ from o3, ob2_s, if_pos rfl, show f_X12_qIsOn (4 : Int32) S = _ from o4, ob2_s, if_pos rfl, m_push h (by omega)]
    exact ⟨_, rfl, p1, p2⟩
  | cons y R ih =>
    intro k S Cs h hR hk hl
    obtain ⟨k, rfl⟩ : ∃ q, k = q + 1 := ⟨k - 1, by omega⟩
    rw [app_rev] at h
    simp only [List.length_cons] at hk hl
    have hlen := len_rev (V := V) (R := R)
    have hy := hR y (by simp)
    have hx2 : ∀ z ∈ V ++ R.reverse ++ [y], z < 1000 := by
      intro z hz
      simp only [List.mem_append, List.mem_reverse, List.mem_singleton] at hz
      rcases hz with (hz | hz) | hz
      · exact hx z hz
      · have := hR z (by simp [hz]); omega
      · omega
    have o := fun c (hc : c < 1000) => m_on (c := c) h (by rw [List.length_append, hlen]; simp; omega) hx2 hc
    have o3 := o 3 (by decide)
    have o4 := o 4 (by decide)
    rw [List.getLast?_append] at o3 o4
    simp only [List.getLast?_singleton, Option.some_or, Option.some.injEq] at o3 o4
    obtain ⟨S1, r1, r2, r3⟩ := m_drop h (by rw [hlen]; omega) (by omega)
    obtain ⟨S2, q1, q2, q3⟩ := ih k S1 (Cs ++ [y]) r2 (fun z hz => hR z (by simp [hz])) (by omega) (by simp; omega)
    refine ⟨S2, ?_, by rw [List.append_assoc] at q2; exact q2, fM_tr r3 q3⟩
    have h178 : f_X12_qGoesOn_178 (f_X12_qGoesOn_162 k) (nI x) S = some (1, S2) := by
      unfold f_X12_qGoesOn_178
      rw [r1, ob_s, q1]
    rw [f_X12_qGoesOn_162, show f_X12_qIsOn (3 : Int32) S = _ from o3, ob2_s]
    by_cases e : y = 3
    · rw [if_pos e, if_neg ne1, h178]
    · rw [if_neg e, if_pos rfl, show f_X12_qIsOn (4 : Int32) S = _ from o4, ob2_s, if_pos (show y = 4 by omega), if_neg ne1, h178]
theorem m_247 {V : List Nat} {x op bs : Nat} (hV : ∀ y, V.getLast? = some y → 5 ≤ y) (hx : ∀ y ∈ V, y < 1000) : ∀ (R : List Nat) (k : Nat) (S : Hp) (Cs : List Nat), qS S (V ++ R.reverse) Cs op bs → (∀ y ∈ R, 1 ≤ y ∧ y ≤ 4) → R.length < k → V.length + R.length + Cs.length < 1690 →
    ∃ S', f_X12_qGoesOn_247 k (nI x) S = some (1, S') ∧ qS S' (V ++ [x]) (Cs ++ R) op bs ∧ fM qP S S' := by
  intro R
  induction R with
  | nil =>
    intro k S Cs h hR hk hl
    obtain ⟨k, rfl⟩ : ∃ q, k = q + 1 := ⟨k - 1, by omega⟩
    simp only [List.reverse_nil, List.append_nil, List.length_nil] at h hl ⊢
    have o : ∀ c, c < 5 → f_X12_qIsOn (nI c) S = some (0, S) := by
      intro c hc
      have := m_on (c := c) h (by omega) hx (by omega)
      rw [if_neg (fun q => by have := hV _ q; omega)] at this
      exact this
    obtain ⟨p1, p2⟩ := qS_push x h
    rw [f_X12_qGoesOn_247, show f_X12_qIsOn (3 : Int32) S = _ from o 3 (by decide), ob2_s, if_pos rfl, show f_X12_qIsOn (4 : Int32) S = _ from o 4 (by decide), ob2_s, if_pos rfl, show f_X12_qIsOn (1 : Int32) S = _ from o 1 (by decide), ob2_s, if_pos rfl, show f_X12_qIsOn (2 : Int32) S = _ from o 2 (by decide), ob2_s, if_pos rfl, m_push h (by omega)]
    exact ⟨_, rfl, p1, p2⟩
  | cons y R ih =>
    intro k S Cs h hR hk hl
    obtain ⟨k, rfl⟩ : ∃ q, k = q + 1 := ⟨k - 1, by omega⟩
    rw [app_rev] at h
    simp only [List.length_cons] at hk hl
    have hlen := len_rev (V := V) (R := R)
    have hy := hR y (by simp)
    have hx2 : ∀ z ∈ V ++ R.reverse ++ [y], z < 1000 := by
      intro z hz
      simp only [List.mem_append, List.mem_reverse, List.mem_singleton] at hz
      rcases hz with (hz | hz) | hz
      · exact hx z hz
      · have := hR z (by simp [hz]); omega
      · omega
    have o : ∀ c, c < 1000 → f_X12_qIsOn (nI c) S = some (if y = c then 1 else 0, S) := by
      intro c hc
      have := m_on (c := c) h (by rw [List.length_append, hlen]; simp; omega) hx2 hc
      rw [List.getLast?_append] at this
      simp only [List.getLast?_singleton, Option.some_or, Option.some.injEq] at this
      exact this
    obtain ⟨S1, r1, r2, r3⟩ := m_drop h (by rw [hlen]; omega) (by omega)
    obtain ⟨S2, q1, q2, q3⟩ := ih k S1 (Cs ++ [y]) r2 (fun z hz => hR z (by simp [hz])) (by omega) (by simp; omega)
    refine ⟨S2, ?_, by rw [List.append_assoc] at q2; exact q2, fM_tr r3 q3⟩
    have h279 : f_X12_qGoesOn_279 (f_X12_qGoesOn_247 k) (nI x) S = some (1, S2) := by
      unfold f_X12_qGoesOn_279
      rw [r1, ob_s, q1]
    rw [f_X12_qGoesOn_247, show f_X12_qIsOn (3 : Int32) S = _ from o 3 (by decide), ob2_s]
    by_cases e3 : y = 3
    · rw [if_pos e3, if_neg ne1, h279]
    rw [if_neg e3, if_pos rfl, show f_X12_qIsOn (4 : Int32) S = _ from o 4 (by decide), ob2_s]
    by_cases e4 : y = 4
    · rw [if_pos e4, if_neg ne1, h279]
    rw [if_neg e4, if_pos rfl, show f_X12_qIsOn (1 : Int32) S = _ from o 1 (by decide), ob2_s]
    by_cases e1 : y = 1
    · rw [if_pos e1, if_neg ne1, h279]
    rw [if_neg e1, if_pos rfl, show f_X12_qIsOn (2 : Int32) S = _ from o 2 (by decide), ob2_s, if_pos (show y = 2 by omega), if_neg ne1, h279]
/-- what a bracket is -/
theorem m_isB {y : Nat} (hy : y < 1000) (S : Hp) : f_X12_qIsBracket (nI y) S = some (if 20 ≤ y ∧ y ≤ 24 then 1 else 0, S) := by
  unfold f_X12_qIsBracket
  by_cases a : y < 20
  · rw [if_pos ((ltL 20 (by omega) (by decide)).mpr a), if_neg (by omega)]
  · rw [if_neg (fun q => a ((ltL 20 (by omega) (by decide)).mp q))]
    by_cases b : 24 < y
    · rw [if_pos ((gtL 24 (by omega) (by decide)).mpr b), if_neg (by omega)]
    · rw [if_neg (fun q => b ((gtL 24 (by omega) (by decide)).mp q)), if_pos (by omega)]
/-- a stack that begins at the sum's base, or stands on a bracket above it -/
def onB (V : List Nat) (bs : Nat) : Prop := (V.length = bs ∧ (∀ y, V.getLast? = some y → 5 ≤ y ∧ y < 60)) ∨ ∃ U y, V = U ++ [y] ∧ bs ≤ U.length ∧ 20 ≤ y ∧ y ≤ 24
theorem onB_le {V : List Nat} {bs : Nat} (h : onB V bs) : bs ≤ V.length := by
  rcases h with h | ⟨U, y, rfl, h, -⟩
  · omega
  · rw [List.length_append]; omega
theorem onB_top {V : List Nat} {bs : Nat} (h : onB V bs) : ∀ y, V.getLast? = some y → 5 ≤ y ∧ y < 60 := by
  rcases h with h | ⟨U, y, rfl, h, h2, h3⟩
  · exact h.2
  · intro z hz
    simp at hz
    omega
theorem m_dtb {V : List Nat} {op bs : Nat} (hV : onB V bs) (hx : ∀ y ∈ V, y < 1000) : ∀ (R : List Nat) (k : Nat) (S : Hp) (Cs : List Nat), qS S (V ++ R.reverse) Cs op bs → (∀ y ∈ R, 1 ≤ y ∧ y ≤ 4) → R.length < k → V.length + R.length + Cs.length < 1690 →
    ∃ S', f_X12_qDropsToBracket_0 k S = some S' ∧ qS S' V (Cs ++ R) op bs ∧ fM qP S S' := by
  have hle := onB_le hV
  intro R
  induction R with
  | nil =>
    intro k S Cs h hR hk hl
    obtain ⟨k, rfl⟩ : ∃ q, k = q + 1 := ⟨k - 1, by omega⟩
    simp only [List.reverse_nil, List.append_nil, List.length_nil] at h hl ⊢
    refine ⟨S, ?_, h, fM_rf _ S⟩
    rw [f_X12_qDropsToBracket_0]
    rcases hV with hV | ⟨U, y, rfl, h1, h2, h3⟩
    · rw [h.1.1, h.2.2.2, if_pos (nI_le (by omega) (by omega))]
    · obtain ⟨p1, p2, p3⟩ := qS_pop h
      rw [List.length_append] at hl
      rw [p3, h.2.2.2, if_neg (nI_ge (by omega) (by simp at hl; omega)), n_pred, ldI_n (by simp at hl; omega) (by decide), p2, m_isB (by omega), ob2_s, if_neg (fun q => ite01.mp q ⟨h2, h3⟩)]
  | cons y R ih =>
    intro k S Cs h hR hk hl
    obtain ⟨k, rfl⟩ : ∃ q, k = q + 1 := ⟨k - 1, by omega⟩
    rw [app_rev] at h
    simp only [List.length_cons] at hk hl
    have hlen := len_rev (V := V) (R := R)
    have hy := hR y (by simp)
    obtain ⟨p1, p2, p3⟩ := qS_pop h
    rw [hlen] at p2 p3
    obtain ⟨S1, r1, r2, r3⟩ := m_drop h (by rw [hlen]; omega) (by omega)
    obtain ⟨S2, q1, q2, q3⟩ := ih k S1 (Cs ++ [y]) r2 (fun z hz => hR z (by simp [hz])) (by omega) (by simp; omega)
    refine ⟨S2, ?_, by rw [List.append_assoc] at q2; exact q2, fM_tr r3 q3⟩
    rw [f_X12_qDropsToBracket_0, p3, h.2.2.2, if_neg (nI_ge (by omega) (by omega)), n_pred, ldI_n (by omega) (by decide), p2, m_isB (by omega), ob2_s, if_pos (ite01.mpr (by omega)), r1, ob_s, q1]
/-- the bracket that is open last in the sum at hand -/
def brk (V : List Nat) (bs : Nat) : Int32 := if V.length ≤ bs then -1 else nI (V.getLast?.getD 0)
theorem sub_m1 (x : Int32) : x + (-1 : Int32) = x - 1 := (Int32.sub_eq_add_neg x 1).symm
theorem m_brk7 {V Cs : List Nat} {op bs : Nat} (hV : onB V bs) (hx : ∀ y ∈ V, y < 1000) : ∀ (R R2 : List Nat) (k : Nat) (S : Hp), qS S (V ++ R.reverse ++ R2) Cs op bs → (∀ y ∈ R, 1 ≤ y ∧ y ≤ 4) → R.length < k → V.length + R.length + R2.length < 1690 →
    f_X12_qBracket_7 k (nI (V.length + R.length) - 1) S = some (brk V bs, S) := by
  have hle := onB_le hV
  intro R
  induction R with
  | nil =>
    intro R2 k S h hR hk hl
    obtain ⟨k, rfl⟩ : ∃ q, k = q + 1 := ⟨k - 1, by omega⟩
    simp only [List.reverse_nil, List.append_nil, List.length_nil, Nat.add_zero] at h hl ⊢
    unfold brk
    rcases hV with hV | ⟨U, y, rfl, h1, h2, h3⟩
    · have hlt : nI V.length - 1 < nI bs := by
        rw [Int32.lt_iff_toInt_lt, show (1 : Int32) = nI 1 from rfl, pk_sub_toInt (by omega) (by decide), nI_toInt (by omega)]
        omega
      rw [f_X12_qBracket_7, h.2.2.2, if_pos hlt, if_pos (by omega)]
      unfold f_X12_qBracket_33
      rw [h.2.2.2, if_pos hlt]
    · have e1 : S.1 102 U.length = nI y := by
        have := h.1.2 U.length (by simp)
        rw [getD_app, if_pos (by simp), getD_app, if_neg (by omega), Nat.sub_self] at this
        exact this
      rw [List.length_append] at hl ⊢
      simp only [List.length_cons, List.length_nil, Nat.zero_add] at hl ⊢
      have hge : ¬ nI U.length < nI bs := nI_nlt h1 (by omega)
      rw [n_pred, f_X12_qBracket_7, h.2.2.2, if_neg hge, ldI_n (by omega) (by decide), e1, m_isB (by omega), ob2_s, if_neg (fun q => ite01.mp q ⟨h2, h3⟩), if_neg (by omega)]
      unfold f_X12_qBracket_33
      rw [h.2.2.2, if_neg hge, ldI_n (by omega) (by decide), e1]
      simp
  | cons y R ih =>
    intro R2 k S h hR hk hl
    obtain ⟨k, rfl⟩ : ∃ q, k = q + 1 := ⟨k - 1, by omega⟩
    rw [app_rev] at h
    simp only [List.length_cons] at hk hl ⊢
    have hy := hR y (by simp)
    have hlen := len_rev (V := V) (R := R)
    have e1 : S.1 102 (V.length + R.length) = nI y := by
      have := h.1.2 (V.length + R.length) (by rw [List.length_append, List.length_append, hlen]; simp; omega)
      rw [getD_app, if_pos (by rw [List.length_append, hlen]; simp), getD_app, if_neg (by omega), hlen, Nat.sub_self] at this
      exact this
    have hge : ¬ nI (V.length + R.length) < nI bs := nI_nlt (by omega) (by omega)
    have hI := ih ([y] ++ R2) k S (by rw [← List.append_assoc]; exact h) (fun z hz => hR z (by simp [hz])) (by omega) (by simp; omega)
    rw [← Nat.add_assoc, n_pred, f_X12_qBracket_7, h.2.2.2, if_neg hge, ldI_n (by omega) (by decide), e1, m_isB (by omega), ob2_s, if_pos (ite01.mpr (by omega)), le1_e, sub_m1]
    exact hI
theorem m_brk {S : Hp} {V R Cs : List Nat} {op bs : Nat} (hV : onB V bs) (hx : ∀ y ∈ V, y < 1000) (h : qS S (V ++ R.reverse) Cs op bs) (hR : ∀ y ∈ R, 1 ≤ y ∧ y ≤ 4) (hl : V.length + R.length < 1690) : f_X12_qBracket S = some (brk V bs, S) := by
  unfold f_X12_qBracket
  rw [h.1.1, le1_e, len_rev]
  exact m_brk7 hV hx R [] 5000 S (by rw [List.append_nil]; exact h) hR (by omega) (by simp; omega)
/-- the seens that wait are told -/
theorem m_ends {V : List Nat} {bs : Nat} (hb : bs ≤ V.length) (hV : ∀ y, V.getLast? = some y → y < 60) : ∀ (c op k : Nat) (S : Hp) (Cs : List Nat), S.1 0 5 = 0 → qS S (V ++ List.replicate c 60) Cs (op + c) bs → c < k → V.length + c + Cs.length < 1690 →
    ∃ S', f_X12_qEndsPart_0 k S = some S' ∧ qS S' V (Cs ++ List.replicate c 60) op bs ∧ fM qP S S' := by
  intro c
  induction c with
  | zero =>
    intro op k S Cs h5 h hk hl
    obtain ⟨k, rfl⟩ : ∃ q, k = q + 1 := ⟨k - 1, by omega⟩
    simp only [List.replicate_zero, List.append_nil, Nat.add_zero] at h hl ⊢
    refine ⟨S, ?_, h, fM_rf _ S⟩
    rw [f_X12_qEndsPart_0, if_pos h5]
    by_cases e : V.length = bs
    · rw [h.1.1, h.2.2.2, if_pos (nI_le (by omega) (by omega))]
    · rcases List.eq_nil_or_concat V with rfl | ⟨U, y, rfl⟩
      · simp at hb e; omega
      · rw [List.concat_eq_append] at h hl hb e hV
        have hy := hV y (by simp)
        obtain ⟨p1, p2, p3⟩ := qS_pop h
        rw [List.length_append] at hl hb e
        simp only [List.length_cons, List.length_nil, Nat.zero_add] at hl hb e
        rw [p3, h.2.2.2, if_neg (nI_ge (by omega) (by omega)), n_pred, ldI_n (by omega) (by decide), p2, if_pos ((ltL 60 (by omega) (by decide)).mpr hy)]
  | succ c ih =>
    intro op k S Cs h5 h hk hl
    obtain ⟨k, rfl⟩ : ∃ q, k = q + 1 := ⟨k - 1, by omega⟩
    rw [List.replicate_succ', ← List.append_assoc] at h
    have hlen : (V ++ List.replicate c 60).length = V.length + c := by simp
    obtain ⟨p1, p2, p3⟩ := qS_pop h
    rw [hlen] at p2 p3
    have h1 : qS (ho_sI S 0 103 (nI (op + c))) (V ++ List.replicate c 60 ++ [60]) Cs (op + c) bs := by
      obtain ⟨⟨h1, h2⟩, ⟨h3, h4⟩, h5, h6⟩ := h
      exact ⟨⟨by rw [sI_k (by decide)]; exact h1, lsC_ne h2 (by decide)⟩, ⟨by rw [sI_k (by decide)]; exact h3, lsC_ne h4 (by decide)⟩, sI_v, by rw [sI_k (by decide)]; exact h6⟩
    obtain ⟨S1, r1, r2, r3⟩ := m_drop h1 (by rw [hlen]; omega) (by omega)
    have f1 : fM qP S S1 := fM_tr (fM_sI _ (by unfold qP; omega)) r3
    obtain ⟨S2, q1, q2, q3⟩ := ih op k S1 (Cs ++ [60]) (by rw [f1.1 0 5 (by unfold qP; omega)]; exact h5) r2 (by omega) (by simp; omega)
    refine ⟨S2, ?_, ?_, fM_tr f1 q3⟩
    · rw [f_X12_qEndsPart_0, if_pos h5, p3, h.2.2.2, if_neg (nI_ge (by omega) (by omega)), n_pred, ldI_n (by omega) (by decide), p2, if_neg (fun q => absurd ((ltL 60 (by decide) (by decide)).mp q) (by decide)), h.2.2.1, show op + (c + 1) = op + c + 1 by omega, n_pred, le1_e, r1, ob_s, q1]
    · rw [List.append_assoc] at q2
      rw [List.replicate_succ]
      exact q2
theorem m_open {S : Hp} {T : Tp} {m x p op bs : Nat} {σ : Lx} {W Cs : List Nat} (h : qR S T m σ W Cs op bs) (ho : op < 6) (hw : W.length < 1700) (hp : p ≤ 1600) : ∃ S', f_X12_qOpens (nI x) (nI p) S = some S' ∧ qR S' T m σ (W ++ [x]) Cs (op + 1) bs ∧ fM qP S S' := by
  obtain ⟨⟨h1, h2⟩, ⟨h3, h4⟩, h5, h6⟩ := h.2.2.2
  have hq : qS (ho_sI S 0 103 (nI (op + 1))) W Cs (op + 1) bs := ⟨⟨by rw [sI_k (by decide)]; exact h1, lsC_ne h2 (by decide)⟩, ⟨by rw [sI_k (by decide)]; exact h3, lsC_ne h4 (by decide)⟩, sI_v, by rw [sI_k (by decide)]; exact h6⟩
  obtain ⟨p1, p2⟩ := qS_push x hq
  have f1 : fM qP S (pushS (ho_sI S 0 103 (nI (op + 1))) W.length x) := fM_tr (fM_sI _ (by unfold qP; omega)) p2
  refine ⟨_, ?_, qR_q h f1 p1, f1⟩
  unfold f_X12_qOpens
  rw [if_pos h.1.2.2.1, h5, if_neg (fun q => absurd ((eqL 6 (by omega) (by decide)).mp q) (by omega)), nI_1, le1_e, m_push hq hw]
theorem m_open6 {S : Hp} {T : Tp} {m x p bs : Nat} {σ : Lx} {W Cs : List Nat} (h : qR S T m σ W Cs 6 bs) (hp : p ≤ 1600) : ∃ S', f_X12_qOpens (nI x) (nI p) S = some S' ∧ bR S' (4, p) ∧ fM lxP S S' := by
  obtain ⟨S1, r1, r2, r3⟩ := m_fail (k := 4) (p := p) h.1.2.2.1 ⟨by decide, by decide⟩ hp
  refine ⟨S1, ?_, r2, r3⟩
  unfold f_X12_qOpens
  rw [if_pos h.1.2.2.1, h.2.2.2.2.2.1, if_pos (show nI 6 = (6 : Int32) from rfl), show (4 : Int32) = nI 4 from rfl, r1, ob_s]

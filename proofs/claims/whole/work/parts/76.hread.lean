/-! level 2: the class reads sums as by descent -/
def wrdP (k : Nat) : Nat := [8, 16, 17, 10, 11, 6, 14, 18, 19, 20, 21, 22].getD k 0
theorem wrdP_ok : ∀ k, k < 12 → wrdP k < 29 ∧ wL.getD (wrdP k) [] = pW.getD k [] := by decide
def mk (m : Nat) : Nat := [199936, 213312, 8323392].getD m 0
theorem mk_bit : ∀ m, m < 3 → ∀ i, i < 29 → (((nI (mk m) >>> (nI i &&& 31)) &&& (1 : Int32) = (1 : Int32)) ↔ (List.range 12).any (fun k => al m k && decide (wrdP k = i)) = true) := by decide +kernel
def gR (S : Hp) (T : Tp) (m : Nat) (σ : Lx) (a0 p : Nat) (Cs : List Nat) : Prop := tR S T σ ∧ (a0 = 25 ∨ a0 = 35) ∧ (S.2.2 a0 1 = p ∧ p ∈ yH.1 ∧ yH.2.1 p = (1, 4)) ∧ (S.1 a0 2 = nI (mk m) ∧ m < 3) ∧ S.1 p 2 = nI Cs.length ∧ ∀ j, j < Cs.length → S.1 (p + 1) j = nI (hcd (Cs.getD j 0))
def gP (p b k : Nat) : Prop := (b = 10 ∧ 2 ≤ k ∧ k ≤ 9) ∨ (b = p ∧ k = 2) ∨ b = p + 1
theorem t_g {p b k : Nat} (h : tP b k) : gP p b k := Or.inl h
theorem gR_t {S S' : Hp} {T : Tp} {m a0 p : Nat} {σ σ' : Lx} {Cs : List Nat} (h : gR S T m σ a0 p Cs) (hf : fM tP S S') (ht : tR S' T σ') : gR S' T m σ' a0 p Cs := by
  obtain ⟨-, h1, h2, h3, h4, h5⟩ := h
  have hp := c4H h2.2
  refine ⟨ht, h1, ⟨by rw [hf.2]; exact h2.1, h2.2⟩, ⟨?_, h3.2⟩, ?_, fun j hj => ?_⟩
  · rw [hf.1 a0 2 (by unfold tP; omega)]; exact h3.1
  · rw [hf.1 p 2 (by unfold tP; omega)]; exact h4
  · rw [hf.1 (p + 1) j (by unfold tP; omega)]; exact h5 j hj
theorem h_add {S : Hp} {T : Tp} {m a0 p c : Nat} {σ : Lx} {Cs : List Nat} (h : gR S T m σ a0 p Cs) (hl : Cs.length < 1600) : ∃ S', f_X4_add p (nI (hcd c)) S = some S' ∧ gR S' T m σ a0 p (Cs ++ [c]) ∧ fM (gP p) S S' := by
  have hp := c4H h.2.2.1.2
  have h1 := h.2.1
  have h4 := h.2.2.2.2.1
  have h5 := h.2.2.2.2.2
  have f1 : fM (fun b k => (b = p ∧ k = 2) ∨ b = p + 1) S (ho_sI (ho_sI S (p + 1) Cs.length (nI (hcd c))) p 2 (nI (Cs.length + 1))) := fM_tr (fM_sI _ (Or.inr rfl)) (fM_sI _ (Or.inl ⟨rfl, rfl⟩))
  refine ⟨_, ?_, ⟨tR_f h.1 f1 (fun b k q => by omega), h1, ⟨h.2.2.1.1, h.2.2.1.2⟩, ⟨?_, h.2.2.2.1.2⟩, ?_, fun j hj => ?_⟩, fM_mo f1 (fun b k q => Or.inr q)⟩
  · unfold f_X4_add
    rw [h4, show Int32.ofNat 1600 = nI 1600 from rfl, if_neg (nI_ge hl (by decide)), stI_n hl (by decide), le1_e, sI_ne _ (by omega), h4, nI_1]
  · rw [f1.1 a0 2 (by omega)]; exact h.2.2.2.1.1
  · rw [sI_v, List.length_append]; rfl
  · rw [List.length_append] at hj
    rw [sI_ne _ (by omega), sI_at, getD_app]
    by_cases q : j < Cs.length
    · rw [if_pos q, pk_un (by omega)]; exact h5 j q
    · have e : j = Cs.length := by simp at hj; omega
      subst e
      rw [if_neg q, pk_us, Nat.sub_self]
      rfl
def gOK (X : Option (Int32 × Hp)) (S : Hp) (T : Tp) (m a0 p : Nat) (Cs : List Nat) (R : Ps) : Prop := (∀ cs σ1, R = .ok (cs, σ1) → ∃ S', X = some (1, S') ∧ gR S' T m σ1 a0 p (Cs ++ cs) ∧ fM (gP p) S S') ∧ (∀ e, R = .error e → ∃ S', X = some (0, S') ∧ wR S' e ∧ fM (gP p) S S')
theorem gOK_f {X : Option (Int32 × Hp)} {S S1 : Hp} {T : Tp} {m a0 p : Nat} {C C' : List Nat} {R R' : Ps} (h : gOK X S1 T m a0 p C' R') (hf : fM (gP p) S S1) (ho : ∀ cs σ1, R = .ok (cs, σ1) → ∃ c', R' = .ok (c', σ1) ∧ C' ++ c' = C ++ cs) (he : ∀ e, R = .error e → R' = .error e) : gOK X S T m a0 p C R := by
  refine ⟨fun cs σ1 q => ?_, fun e q => ?_⟩
  · obtain ⟨c', q1, q2⟩ := ho cs σ1 q
    obtain ⟨S', a, b, c⟩ := h.1 c' σ1 q1
    rw [q2] at b
    exact ⟨S', a, b, fM_tr hf c⟩
  · obtain ⟨S', a, b, c⟩ := h.2 e (he e q)
    exact ⟨S', a, b, fM_tr hf c⟩
/-- a reading given by G, at its number t -/
def gG (G : Nat → Nat → Int32 → Hp → Option (Int32 × Hp)) (t : Nat) (x : Int32) (T : Tp) (m a0 p : Nat) (P : Lx → Ps) : Prop := ∀ (σ : Lx) (Cs : List Nat) (S : Hp), gR S T m σ a0 p Cs → Cs.length ≤ σ.1 → gOK (G t a0 x S) S T m a0 p Cs (P σ)
theorem h_prL {G : Nat → Nat → Int32 → Hp → Option (Int32 × Hp)} {x : Int32} {T : Tp} {m a0 p : Nat} {P : Lx → Ps} (hG : gG G 6 x T m a0 p P) (hP : mv T P) : ∀ (n : Nat) (cs C0 : List Nat) (σ : Lx) (i k : Nat) (S : Hp), T.2 ≤ n + σ.1 → gR S T m σ a0 p (C0 ++ cs) → (C0 ++ cs).length ≤ σ.1 → i ≤ σ.1 → T.2 + 2 ≤ k + σ.1 → gOK (f_X7_product_12 G a0 k x (nI i) S) S T m a0 p C0 (prL T P n cs σ) := by
  intro n
  induction n with
  | zero =>
    intro cs C0 σ i k S hn h hl hi hk
    have hT := h.1.1.1
    have hσ := h.1.2.1
    obtain ⟨k, rfl⟩ : ∃ q, k = q + 1 := ⟨k - 1, by omega⟩
    have a := h_isG (c := 42) h.1 (by decide)
    have b := h_isG (c := 47) h.1 (by decide)
    rw [if_neg (noG_end (by omega))] at a b
    rw [prL]
    refine ⟨fun cs1 σ1 q => ?_, fun e q => (by cases q)⟩
    cases q
    refine ⟨S, ?_, h, fM_rf _ S⟩
    rw [f_X7_product_12]
    by_cases e : 1600 ≤ i
    · rw [if_pos ((geL 1600 (by omega) (by decide)).mpr e)]
    · rw [if_neg (fun q => e ((geL 1600 (by omega) (by decide)).mp q)), show f_X10_isSign (42 : Int32) S = _ from a, ob2_s, if_pos rfl, show f_X10_isSign (47 : Int32) S = _ from b, ob2_s, if_pos rfl]
  | succ n ih =>
    intro cs C0 σ i k S hn h hl hi hk
    have hT := h.1.1.1
    have hσ := h.1.2.1
    obtain ⟨k, rfl⟩ : ∃ q, k = q + 1 := ⟨k - 1, by omega⟩
    have a := h_isG (c := 42) h.1 (by decide)
    have b := h_isG (c := 47) h.1 (by decide)
    have go : ∀ (c o : Nat), ((c = 42 ∧ o = 3) ∨ (c = 47 ∧ o = 4)) → isG T σ c = true → gOK (f_X7_product_43 G (f_X7_product_12 G a0 k) a0 x (nI i) S) S T m a0 p C0 (bn (P (nx T σ)) (fun c1 σ1 => prL T P n (cs ++ c1 ++ [o]) σ1)) := by
      intro c o hco g
      obtain ⟨n1, n2⟩ := nx_mv hσ (isG_k g)
      obtain ⟨S1, r1, r2, r3⟩ := h_next h.1
      have h1 := gR_t h (fM_mo r3 (fun _ _ => n_t)) r2
      have f1 : fM (gP p) S S1 := fM_mo r3 (fun _ _ q => t_g (n_t q))
      obtain ⟨u1, u2⟩ := hG (nx T σ) (C0 ++ cs) S1 h1 (by omega)
      have e43 : f_X7_product_43 G (f_X7_product_12 G a0 k) a0 x (nI i) S = f_X7_product_64 G (f_X7_product_12 G a0 k) a0 x (nI i) (nI (hcd o)) S := by
        unfold f_X7_product_43
        rw [show f_X10_isSign (42 : Int32) S = _ from a, ob2_s]
        rcases hco with ⟨rfl, rfl⟩ | ⟨rfl, rfl⟩
        · rw [if_pos g, if_neg ne1]; rfl
        · rw [if_neg (fun q => absurd (isG_u g q) (by decide)), if_pos rfl]; rfl
      rw [e43]
      unfold f_X7_product_64
      rw [r1, ob_s]
      cases hq : P (nx T σ) with
      | error er =>
        obtain ⟨S2, v1, v2, v3⟩ := u2 er hq
        refine ⟨fun cs1 σ1 q => (by cases q), fun e q => ?_⟩
        cases q
        rw [v1, ob2_s, if_pos rfl]
        exact ⟨S2, rfl, v2, fM_tr f1 v3⟩
      | ok r =>
        obtain ⟨S2, v1, v2, v3⟩ := u1 r.1 r.2 hq
        have hm := hP _ r.1 r.2 n2 hq
        obtain ⟨S3, w1, w2, w3⟩ := h_add (c := o) v2 (by simp at hl ⊢; omega)
        rw [v1, ob2_s, if_neg ne1, ldP_n v2.2.2.1.1 v2.2.2.1.2, w1, ob_s, le1_e, nI_1]
        have hI := ih (cs ++ r.1 ++ [o]) C0 r.2 (i + 1) k S3 (by omega) (by simp only [List.append_assoc] at w2 ⊢; exact w2) (by simp at hl ⊢; omega) (by omega) (by omega)
        exact gOK_f hI (fM_tr f1 (fM_tr v3 w3)) (fun cs1 σ1 q => ⟨cs1, q, rfl⟩) (fun e q => q)
    rw [prL, f_X7_product_12]
    by_cases e : 1600 ≤ i
    · rw [if_pos ((geL 1600 (by omega) (by decide)).mpr e), if_neg (noG_end (by omega)), if_neg (noG_end (by omega))]
      refine ⟨fun cs1 σ1 q => ?_, fun e q => (by cases q)⟩
      cases q
      exact ⟨S, rfl, h, fM_rf _ S⟩
    rw [if_neg (fun q => e ((geL 1600 (by omega) (by decide)).mp q)), show f_X10_isSign (42 : Int32) S = _ from a, ob2_s]
    by_cases g1 : isG T σ 42 = true
    · rw [if_pos g1, if_pos g1, if_neg ne1]; exact go 42 3 (Or.inl ⟨rfl, rfl⟩) g1
    rw [if_neg g1, if_neg g1, if_pos rfl, show f_X10_isSign (47 : Int32) S = _ from b, ob2_s]
    by_cases g2 : isG T σ 47 = true
    · rw [if_pos g2, if_pos g2, if_neg ne1]; exact go 47 4 (Or.inr ⟨rfl, rfl⟩) g2
    rw [if_neg g2, if_neg g2, if_pos rfl]
    refine ⟨fun cs1 σ1 q => ?_, fun e q => (by cases q)⟩
    cases q
    exact ⟨S, rfl, h, fM_rf _ S⟩
theorem h_prd {G : Nat → Nat → Int32 → Hp → Option (Int32 × Hp)} {x : Int32} {T : Tp} {m a0 p : Nat} {P : Lx → Ps} (hG : gG G 6 x T m a0 p P) (hP : mv T P) (σ : Lx) (Cs : List Nat) (S : Hp) (h : gR S T m σ a0 p Cs) (hl : Cs.length ≤ σ.1) : gOK (f_X7_product G a0 x S) S T m a0 p Cs (prd T P σ) := by
  have hT := h.1.1.1
  obtain ⟨u1, u2⟩ := hG σ Cs S h hl
  unfold f_X7_product prd
  cases hq : P σ with
  | error er =>
    obtain ⟨S2, v1, v2, v3⟩ := u2 er hq
    refine ⟨fun cs1 σ1 q => (by cases q), fun e q => ?_⟩
    cases q
    rw [v1, ob2_s, if_pos rfl]
    exact ⟨S2, rfl, v2, v3⟩
  | ok r =>
    obtain ⟨S2, v1, v2, v3⟩ := u1 r.1 r.2 hq
    have hm := hP _ r.1 r.2 h.1.2.1 hq
    rw [v1, ob2_s, if_neg ne1]
    have hI := h_prL hG hP T.2 r.1 Cs r.2 0 5000 S2 (by omega) v2 (by simp; omega) (by omega) (by omega)
    exact gOK_f hI v3 (fun cs1 σ1 q => ⟨cs1, q, rfl⟩) (fun e q => q)
theorem h_smL {G : Nat → Nat → Int32 → Hp → Option (Int32 × Hp)} {x : Int32} {T : Tp} {m a0 p : Nat} {P : Lx → Ps} (hG : gG G 5 x T m a0 p (prd T P)) (hP : mv T P) : ∀ (n : Nat) (cs C0 : List Nat) (σ : Lx) (i k : Nat) (S : Hp), T.2 ≤ n + σ.1 → gR S T m σ a0 p (C0 ++ cs) → (C0 ++ cs).length ≤ σ.1 → i ≤ σ.1 → T.2 + 2 ≤ k + σ.1 → gOK (f_X7_sum_12 G a0 k x (nI i) S) S T m a0 p C0 (smL T P n cs σ) := by
  intro n
  induction n with
  | zero =>
    intro cs C0 σ i k S hn h hl hi hk
    have hT := h.1.1.1
    have hσ := h.1.2.1
    obtain ⟨k, rfl⟩ : ∃ q, k = q + 1 := ⟨k - 1, by omega⟩
    have a := h_isG (c := 43) h.1 (by decide)
    have b := h_isG (c := 45) h.1 (by decide)
    rw [if_neg (noG_end (by omega))] at a b
    rw [smL]
    refine ⟨fun cs1 σ1 q => ?_, fun e q => (by cases q)⟩
    cases q
    refine ⟨S, ?_, h, fM_rf _ S⟩
    rw [f_X7_sum_12]
    by_cases e : 1600 ≤ i
    · rw [if_pos ((geL 1600 (by omega) (by decide)).mpr e)]
    · rw [if_neg (fun q => e ((geL 1600 (by omega) (by decide)).mp q)), show f_X10_isSign (43 : Int32) S = _ from a, ob2_s, if_pos rfl, show f_X10_isSign (45 : Int32) S = _ from b, ob2_s, if_pos rfl]
  | succ n ih =>
    intro cs C0 σ i k S hn h hl hi hk
    have hT := h.1.1.1
    have hσ := h.1.2.1
    obtain ⟨k, rfl⟩ : ∃ q, k = q + 1 := ⟨k - 1, by omega⟩
    have a := h_isG (c := 43) h.1 (by decide)
    have b := h_isG (c := 45) h.1 (by decide)
    have go : ∀ (c o : Nat), ((c = 43 ∧ o = 1) ∨ (c = 45 ∧ o = 2)) → isG T σ c = true → gOK (f_X7_sum_43 G (f_X7_sum_12 G a0 k) a0 x (nI i) S) S T m a0 p C0 (bn (prd T P (nx T σ)) (fun c1 σ1 => smL T P n (cs ++ c1 ++ [o]) σ1)) := by
      intro c o hco g
      obtain ⟨n1, n2⟩ := nx_mv hσ (isG_k g)
      obtain ⟨S1, r1, r2, r3⟩ := h_next h.1
      have h1 := gR_t h (fM_mo r3 (fun _ _ => n_t)) r2
      have f1 : fM (gP p) S S1 := fM_mo r3 (fun _ _ q => t_g (n_t q))
      obtain ⟨u1, u2⟩ := hG (nx T σ) (C0 ++ cs) S1 h1 (by omega)
      have e43 : f_X7_sum_43 G (f_X7_sum_12 G a0 k) a0 x (nI i) S = f_X7_sum_64 G (f_X7_sum_12 G a0 k) a0 x (nI i) (nI (hcd o)) S := by
        unfold f_X7_sum_43
        rw [show f_X10_isSign (43 : Int32) S = _ from a, ob2_s]
        rcases hco with ⟨rfl, rfl⟩ | ⟨rfl, rfl⟩
        · rw [if_pos g, if_neg ne1]; rfl
        · rw [if_neg (fun q => absurd (isG_u g q) (by decide)), if_pos rfl]; rfl
      rw [e43]
      unfold f_X7_sum_64
      rw [r1, ob_s]
      cases hq : prd T P (nx T σ) with
      | error er =>
        obtain ⟨S2, v1, v2, v3⟩ := u2 er hq
        refine ⟨fun cs1 σ1 q => (by cases q), fun e q => ?_⟩
        cases q
        rw [v1, ob2_s, if_pos rfl]
        exact ⟨S2, rfl, v2, fM_tr f1 v3⟩
      | ok r =>
        obtain ⟨S2, v1, v2, v3⟩ := u1 r.1 r.2 hq
        have hm := prd_mv hP _ r.1 r.2 n2 hq
        obtain ⟨S3, w1, w2, w3⟩ := h_add (c := o) v2 (by simp at hl ⊢; omega)
        rw [v1, ob2_s, if_neg ne1, ldP_n v2.2.2.1.1 v2.2.2.1.2, w1, ob_s, le1_e, nI_1]
        have hI := ih (cs ++ r.1 ++ [o]) C0 r.2 (i + 1) k S3 (by omega) (by simp only [List.append_assoc] at w2 ⊢; exact w2) (by simp at hl ⊢; omega) (by omega) (by omega)
        exact gOK_f hI (fM_tr f1 (fM_tr v3 w3)) (fun cs1 σ1 q => ⟨cs1, q, rfl⟩) (fun e q => q)
    rw [smL, f_X7_sum_12]
    by_cases e : 1600 ≤ i
    · rw [if_pos ((geL 1600 (by omega) (by decide)).mpr e), if_neg (noG_end (by omega)), if_neg (noG_end (by omega))]
      refine ⟨fun cs1 σ1 q => ?_, fun e q => (by cases q)⟩
      cases q
      exact ⟨S, rfl, h, fM_rf _ S⟩
    rw [if_neg (fun q => e ((geL 1600 (by omega) (by decide)).mp q)), show f_X10_isSign (43 : Int32) S = _ from a, ob2_s]
    by_cases g1 : isG T σ 43 = true
    · rw [if_pos g1, if_pos g1, if_neg ne1]; exact go 43 1 (Or.inl ⟨rfl, rfl⟩) g1
    rw [if_neg g1, if_neg g1, if_pos rfl, show f_X10_isSign (45 : Int32) S = _ from b, ob2_s]
    by_cases g2 : isG T σ 45 = true
    · rw [if_pos g2, if_pos g2, if_neg ne1]; exact go 45 2 (Or.inr ⟨rfl, rfl⟩) g2
    rw [if_neg g2, if_neg g2, if_pos rfl]
    refine ⟨fun cs1 σ1 q => ?_, fun e q => (by cases q)⟩
    cases q
    exact ⟨S, rfl, h, fM_rf _ S⟩
theorem h_sm {G : Nat → Nat → Int32 → Hp → Option (Int32 × Hp)} {x : Int32} {T : Tp} {m a0 p : Nat} {P : Lx → Ps} (hG : gG G 5 x T m a0 p (prd T P)) (hP : mv T P) (σ : Lx) (Cs : List Nat) (S : Hp) (h : gR S T m σ a0 p Cs) (hl : Cs.length ≤ σ.1) : gOK (f_X7_sum G a0 x S) S T m a0 p Cs (sm T P σ) := by
  have hT := h.1.1.1
  obtain ⟨u1, u2⟩ := hG σ Cs S h hl
  unfold f_X7_sum sm
  cases hq : prd T P σ with
  | error er =>
    obtain ⟨S2, v1, v2, v3⟩ := u2 er hq
    refine ⟨fun cs1 σ1 q => (by cases q), fun e q => ?_⟩
    cases q
    rw [v1, ob2_s, if_pos rfl]
    exact ⟨S2, rfl, v2, v3⟩
  | ok r =>
    obtain ⟨S2, v1, v2, v3⟩ := u1 r.1 r.2 hq
    have hm := prd_mv hP _ r.1 r.2 h.1.2.1 hq
    rw [v1, ob2_s, if_neg ne1]
    have hI := h_smL hG hP T.2 r.1 Cs r.2 0 5000 S2 (by omega) v2 (by simp; omega) (by omega) (by omega)
    exact gOK_f hI v3 (fun cs1 σ1 q => ⟨cs1, q, rfl⟩) (fun e q => q)
/-- sums, by the group, out of parts -/
theorem g_sm {k : Nat} {x : Int32} {T : Tp} {m a0 p : Nat} {P : Lx → Ps} (hP : mv T P) (h : gG (grpH k) 6 x T m a0 p P) : gG (grpH (k + 2)) 4 x T m a0 p (sm T P) := by
  have h5 : gG (grpH (k + 1)) 5 x T m a0 p (prd T P) := by
    intro σ Cs S hg hl
    rw [grpH, if_neg (by decide), if_neg (by decide), if_neg (by decide), if_neg (by decide), if_neg (by decide), if_pos rfl]
    exact h_prd h hP σ Cs S hg hl
  intro σ Cs S hg hl
  rw [grpH, if_neg (by decide), if_neg (by decide), if_neg (by decide), if_neg (by decide), if_pos rfl]
  exact h_sm h5 hP σ Cs S hg hl

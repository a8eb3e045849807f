/-! level 2: the reference reads a crown: what it holds as yet; names, provinces, tricks, watchers -/
def cJ (b k : Nat) : Prop := (b = 0 ∧ (k = 2 ∨ k = 4 ∨ k = 5 ∨ k = 6 ∨ k = 39 ∨ k = 50 ∨ k = 53 ∨ k = 100 ∨ k = 102 ∨ k = 103 ∨ k = 104)) ∨ (b = 41 ∧ k < 3) ∨ (b = 43 ∧ k < 3) ∨ (b = 44 ∧ k < 12) ∨ (b = 45 ∧ k < 18) ∨ (b = 46 ∧ k < 10) ∨ (b = 47 ∧ k < 2) ∨ (b = 48 ∧ k < 2) ∨ (b = 49 ∧ k < 2) ∨ (b = 50 ∧ k < 1600) ∨ b = 100 ∨ b = 102
def fJ (P : Nat → Nat → Prop) (S S' : Hp) : Prop := (∀ b k, ¬ P b k → S'.1 b k = S.1 b k) ∧ (∀ b k, ¬ (b = 42 ∧ k < 18) → S'.2.1 b k = S.2.1 b k) ∧ S'.2.2 = S.2.2
theorem fJ_rf (P : Nat → Nat → Prop) (S : Hp) : fJ P S S := ⟨fun _ _ _ => rfl, fun _ _ _ => rfl, rfl⟩
theorem fJ_tr {P : Nat → Nat → Prop} {S S1 S2 : Hp} (h1 : fJ P S S1) (h2 : fJ P S1 S2) : fJ P S S2 := ⟨fun b k h => (h2.1 b k h).trans (h1.1 b k h), fun b k h => (h2.2.1 b k h).trans (h1.2.1 b k h), h2.2.2.trans h1.2.2⟩
theorem fJ_m {P Q : Nat → Nat → Prop} {S S' : Hp} (h : fM Q S S') (hq : ∀ b k, Q b k → P b k) : fJ P S S' := ⟨fun b k hb => h.1 b k (fun q => hb (hq b k q)), fun b k _ => by rw [h.2], by rw [h.2]⟩
theorem fJ_mo {P Q : Nat → Nat → Prop} {S S' : Hp} (h : fJ Q S S') (hq : ∀ b k, Q b k → P b k) : fJ P S S' := ⟨fun b k hb => h.1 b k (fun q => hb (hq b k q)), h.2⟩
theorem fJ_sI {P : Nat → Nat → Prop} (S : Hp) {a k : Nat} {v : Int32} (hp : P a k) : fJ P S (ho_sI S a k v) := fJ_m (fM_sI (P := P) S hp) (fun _ _ q => q)
theorem cj_0 {k : Nat} (h : k = 2 ∨ k = 4 ∨ k = 5 ∨ k = 6 ∨ k = 39 ∨ k = 50 ∨ k = 53 ∨ k = 100 ∨ k = 102 ∨ k = 103 ∨ k = 104) : cJ 0 k := Or.inl ⟨rfl, h⟩
theorem cj_48 {k : Nat} (h : k < 2) : cJ 48 k := Or.inr (Or.inr (Or.inr (Or.inr (Or.inr (Or.inr (Or.inr (Or.inl ⟨rfl, h⟩)))))))
theorem cj_49 {k : Nat} (h : k < 2) : cJ 49 k := Or.inr (Or.inr (Or.inr (Or.inr (Or.inr (Or.inr (Or.inr (Or.inr (Or.inl ⟨rfl, h⟩))))))))
theorem cj_50 {k : Nat} (h : k < 1600) : cJ 50 k := Or.inr (Or.inr (Or.inr (Or.inr (Or.inr (Or.inr (Or.inr (Or.inr (Or.inr (Or.inl ⟨rfl, h⟩)))))))))
theorem cj_100 {k : Nat} : cJ 100 k := Or.inr (Or.inr (Or.inr (Or.inr (Or.inr (Or.inr (Or.inr (Or.inr (Or.inr (Or.inr (Or.inl rfl))))))))))
theorem cj_102 {k : Nat} : cJ 102 k := Or.inr (Or.inr (Or.inr (Or.inr (Or.inr (Or.inr (Or.inr (Or.inr (Or.inr (Or.inr (Or.inr rfl))))))))))
theorem lx_j {b k : Nat} (h : lxP b k) : cJ b k := by
  obtain ⟨rfl, h⟩ := h
  exact cj_0 (by omega)
theorem p_j {b k : Nat} (h : pP b k) : cJ b k := by
  rcases h with ⟨rfl, h⟩ | rfl | rfl
  · exact cj_0 (by omega)
  · exact cj_100
  · exact cj_102
theorem fJ_l {S S' : Hp} (h : fM lxP S S') : fJ cJ S S' := fJ_m h (fun _ _ q => lx_j q)
def mO (S : Hp) (w : Nat) (x : Option (List Nat)) (tot : Nat) : Prop := match x with
  | none => S.1 48 w = -1
  | some cs => ∃ f, f + cs.length ≤ tot ∧ S.1 48 w = nI f ∧ S.1 49 w = nI (f + cs.length) ∧ ∀ j (h : j < cs.length), S.1 50 (f + j) = nI cs[j]
def mE (S : Hp) (np nt nw : Nat) (R : Nat → Nat → Nat) (N : Nat → Nat → List Nat) (se lo : Option (List Nat)) (tot : Nat) : Prop :=
  (S.1 41 0 = nI np ∧ S.1 41 1 = nI nt ∧ S.1 41 2 = nI nw) ∧ (S.1 43 0 = nI (R 0 0) ∧ S.1 43 1 = nI (R 0 3) ∧ S.1 43 2 = nI (R 0 1) ∧ S.1 47 0 = nI (R 0 4) ∧ S.1 47 1 = nI (R 0 2)) ∧ (∀ p, p < np → S.1 44 (2 * p) = nI (R 6 p) ∧ S.1 44 (2 * p + 1) = nI (R 1 p)) ∧ (∀ t, t < nt → S.1 45 (3 * t) = nI (R 2 t) ∧ S.1 45 (3 * t + 1) = nI (R 3 t) ∧ S.1 45 (3 * t + 2) = nI (R 4 t)) ∧ (∀ w, w < nw → S.1 46 (2 * w) = nI (R 7 w) ∧ S.1 46 (2 * w + 1) = nI (R 5 w)) ∧ (∀ k, k < 3 → ∀ i, i < cnt np nt nw k → S.2.1 42 (6 * k + i) = lN (nvL (N k i))) ∧ S.1 0 50 = nI tot ∧ mO S 0 se tot ∧ mO S 1 lo tot ∧ mWs S
def mD (S : Hp) (D : Dr) (tot : Nat) : Prop := mE S D.1.1 D.1.2.1 D.1.2.2 D.2.1 D.2.2.1 D.2.2.2.1 D.2.2.2.2 tot
/-- what the codes lie in -/
theorem mO_f {S S' : Hp} {w tot : Nat} {x : Option (List Nat)} (h : mO S w x tot) (h1 : S'.1 48 w = S.1 48 w) (h2 : S'.1 49 w = S.1 49 w) (h3 : ∀ j, j < tot → S'.1 50 j = S.1 50 j) : mO S' w x tot := by
  cases x with
  | none => exact h1.trans h
  | some cs =>
    obtain ⟨f, a, b, c, d⟩ := h
    exact ⟨f, a, h1.trans b, h2.trans c, fun j hj => (h3 _ (by omega)).trans (d j hj)⟩
theorem mE_l {S S' : Hp} {np nt nw tot : Nat} {R : Nat → Nat → Nat} {N : Nat → Nat → List Nat} {se lo : Option (List Nat)} (h : mE S np nt nw R N se lo tot) (hf : fM lxP S S') : mE S' np nt nw R N se lo tot := by
  obtain ⟨a1, a2, a3, a4, a5, a6, a7, a8, a9, a10⟩ := h
  have g : ∀ b k, 0 < b → S'.1 b k = S.1 b k := fun b k hb => hf.1 b k (by unfold lxP; omega)
  refine ⟨?_, ?_, fun p hp => ?_, fun p hp => ?_, fun p hp => ?_, fun k hk i hi => ?_, ?_, mO_f a8 (g _ _ (by decide)) (g _ _ (by decide)) (fun j _ => g _ _ (by decide)), mO_f a9 (g _ _ (by decide)) (g _ _ (by decide)) (fun j _ => g _ _ (by decide)), mWs_f a10 hf (fun b k q => by unfold lxP at q; omega)⟩
  · rw [g _ _ (by decide), g _ _ (by decide), g _ _ (by decide)]; exact a1
  · rw [g _ _ (by decide), g _ _ (by decide), g _ _ (by decide), g _ _ (by decide), g _ _ (by decide)]; exact a2
  · rw [g _ _ (by decide), g _ _ (by decide)]; exact a3 p hp
  · rw [g _ _ (by decide), g _ _ (by decide), g _ _ (by decide)]; exact a4 p hp
  · rw [g _ _ (by decide), g _ _ (by decide)]; exact a5 p hp
  · rw [hf.2]; exact a6 k hk i hi
  · rw [hf.1 0 50 (by unfold lxP; omega)]; exact a7
theorem mE_n {S : Hp} {np nt nw tot k : Nat} {R : Nat → Nat → Nat} {N : Nat → Nat → List Nat} {se lo : Option (List Nat)} (h : mE S np nt nw R N se lo tot) (hk : k < 3) : S.1 41 k = nI (cnt np nt nw k) := by
  have : k = 0 ∨ k = 1 ∨ k = 2 := by omega
  rcases this with rfl | rfl | rfl
  · exact h.1.1
  · exact h.1.2.1
  · exact h.1.2.2
theorem nvL_6 {w : List Nat} (h : lts w) (hl : w.length ≤ 6) : nvL w < 387420489 := by
  have h1 := nvL_lt w.length w rfl h
  have h2 : 27 ^ w.length ≤ 27 ^ 6 := Nat.pow_le_pow_right (by decide) hl
  omega
theorem m_nof {S : Hp} {np nt nw tot k : Nat} {R : Nat → Nat → Nat} {N : Nat → Nat → List Nat} {se lo : Option (List Nat)} {w : List Nat} (h : mE S np nt nw R N se lo tot) (ho : okE np nt nw R N se lo) (hk : k < 3) (hw : lts w ∧ w.length ≤ 6) : ∀ (d i K : Nat), i + d = cnt np nt nw k → d < K → f_X12_nameOf_3 K (nI k) (lN (nvL w)) (nI i) S = some (opI (fd (N k) w d i), S) := by
  have hn := cnt_in (k := k) ho.1
  intro d
  induction d with
  | zero =>
    intro i K hi hK
    obtain ⟨K, rfl⟩ : ∃ q, K = q + 1 := ⟨K - 1, by omega⟩
    rw [f_X12_nameOf_3, ldI_n (by omega) (by decide), mE_n h hk, if_pos (nI_le (by omega) (by omega))]
    rfl
  | succ d ih =>
    intro i K hi hK
    obtain ⟨K, rfl⟩ : ∃ q, K = q + 1 := ⟨K - 1, by omega⟩
    have hN := ho.2.2.2.2.2.1 k hk i (by omega)
    rw [f_X12_nameOf_3, ldI_n (by omega) (by decide), mE_n h hk, if_neg (nI_ge (by omega) (by omega)), lit_nI 6, pk_mul, nI_add, ldJ_n (by omega) (by decide), h.2.2.2.2.2.1 k hk i (by omega), fd]
    have b1 := nvL_6 hw.1 hw.2
    have b2 := nvL_6 hN.1 hN.2.2
    by_cases e : N k i = w
    · rw [if_pos e, if_pos ((lg_cmp_eq _ _).mpr (by rw [e]))]
      rfl
    · rw [if_neg e, if_neg (fun q => e (nvL_inj _ _ _ rfl hN.1 hw.1 ((pk_lEQ (by omega) (by omega)).mp ((lg_cmp_eq _ _).mp q)))), le1_e, nI_1]
      exact ih (i + 1) K (by omega) (by omega)
theorem m_nofF {S : Hp} {np nt nw tot k : Nat} {R : Nat → Nat → Nat} {N : Nat → Nat → List Nat} {se lo : Option (List Nat)} {w : List Nat} (h : mE S np nt nw R N se lo tot) (ho : okE np nt nw R N se lo) (hk : k < 3) (hw : lts w ∧ w.length ≤ 6) : f_X12_nameOf (nI k) (lN (nvL w)) S = some (opI (fd (N k) w (cnt np nt nw k) 0), S) :=
  m_nof h ho hk hw (cnt np nt nw k) 0 5000 (by omega) (by have := cnt_in (k := k) ho.1; omega)
/-- whatever is looked for -/
theorem m_nofA {S : Hp} {v : Int64} {k n : Nat} (hk : k < 3) (hn : S.1 41 k = nI n) (h6 : n ≤ 6) : ∀ (d i K : Nat), i + d = n → d < K → ∃ r, f_X12_nameOf_3 K (nI k) v (nI i) S = some (r, S) := by
  intro d
  induction d with
  | zero =>
    intro i K hi hK
    obtain ⟨K, rfl⟩ : ∃ q, K = q + 1 := ⟨K - 1, by omega⟩
    rw [f_X12_nameOf_3, ldI_n (by omega) (by decide), hn, if_pos (nI_le (by omega) (by omega))]
    exact ⟨_, rfl⟩
  | succ d ih =>
    intro i K hi hK
    obtain ⟨K, rfl⟩ : ∃ q, K = q + 1 := ⟨K - 1, by omega⟩
    rw [f_X12_nameOf_3, ldI_n (by omega) (by decide), hn, if_neg (nI_ge (by omega) (by omega)), lit_nI 6, pk_mul, nI_add, ldJ_n (by omega) (by decide), le1_e, nI_1]
    split
    · exact ⟨_, rfl⟩
    · exact ih (i + 1) K (by omega) (by omega)
theorem m_nn7 {T : Tp} {σ : Lx} {np nt nw tot : Nat} {R : Nat → Nat → Nat} {N : Nat → Nat → List Nat} {se lo : Option (List Nat)} {w : List Nat} (ho : okE np nt nw R N se lo) (hw : lts w ∧ w.length ≤ 6) : ∀ (d i K : Nat) (S : Hp), i + d = 3 → d < K → mE S np nt nw R N se lo tot → lR S T (nx T σ) → S.1 0 39 = nI (tS T σ) → tS T σ ≤ 1600 →
    (hasN ((np, nt, nw), R, N, se, lo) w d i = false → f_X12_newName_7 K (lN (nvL w)) (nI i) S = some (lN (nvL w), S)) ∧ (hasN ((np, nt, nw), R, N, se, lo) w d i = true → ∃ S', f_X12_newName_7 K (lN (nvL w)) (nI i) S = some (lN (nvL w), S') ∧ bR S' (3, tS T σ) ∧ fM lxP S S') := by
  intro d
  induction d with
  | zero =>
    intro i K S hi hK h hl h39 h16
    obtain ⟨K, rfl⟩ : ∃ q, K = q + 1 := ⟨K - 1, by omega⟩
    exact ⟨fun _ => by rw [f_X12_newName_7, if_pos ((geL 3 (by omega) (by decide)).mpr (by omega))], (fun q => by cases q)⟩
  | succ d ih =>
    intro i K S hi hK h hl h39 h16
    obtain ⟨K, rfl⟩ : ∃ q, K = q + 1 := ⟨K - 1, by omega⟩
    have e38 : ∀ Sx, f_X12_newName_38 (f_X12_newName_7 K) (lN (nvL w)) (nI i) Sx = f_X12_newName_7 K (lN (nvL w)) (nI (i + 1)) Sx := by
      intro Sx
      unfold f_X12_newName_38
      rw [le1_e, nI_1]
    rw [f_X12_newName_7, if_neg (fun q => absurd ((geL 3 (by omega) (by decide)).mp q) (by omega)), if_pos hl.2.2.1, m_nofF h ho (show i < 3 by omega) hw, ob2_s]
    have hm := opI_m (fd_lt (f := N i) (w := w) (cnt_in (k := i) ho.1))
    cases hf : fd (N i) w (cnt np nt nw i) 0 with
    | none =>
      rw [hf] at hm
      rw [if_pos (hm.mpr rfl), e38]
      have e : hasN ((np, nt, nw), R, N, se, lo) w (d + 1) i = hasN ((np, nt, nw), R, N, se, lo) w d (i + 1) := by
        rw [hasN]
        show ((fd (N i) w (cnt np nt nw i) 0).isSome || _) = _
        rw [hf]
        rfl
      rw [e]
      exact ih (i + 1) K S (by omega) (by omega) h hl h39 h16
    | some p =>
      rw [hf] at hm
      obtain ⟨S', a1, a2, a3⟩ := m_fail (S := S) (k := 3) (p := tS T σ) hl.2.2.1 (by decide) h16
      have e : hasN ((np, nt, nw), R, N, se, lo) w (d + 1) i = true := by
        rw [hasN]
        show ((fd (N i) w (cnt np nt nw i) 0).isSome || _) = _
        rw [hf]
        rfl
      rw [if_neg (fun q => by have := hm.mp q; cases this), h39, show (3 : Int32) = nI 3 from rfl, a1, ob_s, e38]
      refine ⟨(fun q => by rw [e] at q; cases q), fun _ => ⟨S', m_nn_b d (i + 1) K S' (by omega) (by omega) (bR_0 a2), a2, a3⟩⟩
theorem m_newN {S : Hp} {T : Tp} {σ : Lx} {np nt nw tot : Nat} {R : Nat → Nat → Nat} {N : Nat → Nat → List Nat} {se lo : Option (List Nat)} (h : mE S np nt nw R N se lo tot) (ho : okE np nt nw R N se lo) (hl : lR S T σ) :
    ∃ v S', f_X12_newName S = some (v, S') ∧ fM lxP S S' ∧ (∀ w, newN T ((np, nt, nw), R, N, se, lo) σ = .ok w → v = lN (nvL w) ∧ lR S' T (nx T σ)) ∧ (∀ e, newN T ((np, nt, nw), R, N, se, lo) σ = .error e → bR S' e) := by
  have h7 := tS_le hl.2.1
  have h8 := hl.1.1
  obtain ⟨v, S1, a1, a2, a3, a4⟩ := m_name hl h.2.2.2.2.2.2.2.2.2
  unfold f_X12_newName newN
  rw [a1, ob2_s]
  cases hn : nmT T σ with
  | error e =>
    have hb := a4 e hn
    have hbb := bR_0 hb
    rw [show f_X12_newName_7 5000 v (0 : Int32) S1 = some (v, S1) from m_nn_b 3 0 5000 S1 (by decide) (by decide) hbb]
    exact ⟨v, S1, rfl, a2, (fun w q => by cases q), (fun e' q => by cases q; exact hb)⟩
  | ok w =>
    obtain ⟨b1, b2, b3⟩ := a3 w hn
    have hw := nmT_ok hn
    subst b1
    obtain ⟨c1, c2⟩ := m_nn7 (σ := σ) ho ⟨hw.1, hw.2.2⟩ 3 0 5000 S1 (by decide) (by decide) (mE_l h a2) b2 b3 (by omega)
    simp only
    cases hx : hasN ((np, nt, nw), R, N, se, lo) w 3 0 with
    | true =>
      obtain ⟨S', d1, d2, d3⟩ := c2 hx
      rw [if_pos rfl]
      exact ⟨_, S', d1, fM_tr a2 d3, (fun w q => by cases q), (fun e' q => by cases q; exact d2)⟩
    | false =>
      rw [if_neg (by decide)]
      exact ⟨_, S1, c1 hx, a2, (fun w q => by cases q; exact ⟨rfl, b2⟩), (fun e' q => by cases q)⟩
def kD (S : Hp) (T : Tp) : Except (Nat × Nat) (Dr × Lx) → Prop
  | .ok x => lR S T x.2 ∧ ∃ tot, tot ≤ x.2.1 ∧ mD S x.1 tot
  | .error e => bR S e
theorem m_full {S : Hp} {kd n ms p : Nat} (hk : kd < 6) (h5 : S.1 0 5 = 0) (hn : S.1 41 kd = nI n) (h6 : n ≤ 6) (hms : ms ≤ 6) (hp : p ≤ 1600) : (n ≠ ms → f_X12_isFull (nI kd) (nI ms) (nI p) S = some (0, S)) ∧ (n = ms → ∃ S', f_X12_isFull (nI kd) (nI ms) (nI p) S = some (1, S') ∧ bR S' (5, p) ∧ fM lxP S S') := by
  unfold f_X12_isFull f_X12_isFull_23
  rw [if_pos h5, ldI_n hk (by decide), hn]
  constructor
  · intro q
    rw [if_neg (fun x => q ((nI_eq (by omega) (by omega)).mp x)), if_pos h5]
  · intro q
    obtain ⟨S', a1, a2, a3⟩ := m_fail (S := S) (k := 5) (p := p) h5 (by decide) hp
    refine ⟨S', ?_, a2, a3⟩
    rw [if_pos (show nI n = nI ms by rw [q]), show (5 : Int32) = nI 5 from rfl, a1, ob_s, if_neg (bR_0 a2)]
theorem m_adds {S : Hp} {kd n : Nat} {v : Int64} (hk : kd < 3) (hn : S.1 41 kd = nI n) (h6 : n < 6) : f_X12_adds (nI kd) v S = some (nI n, ho_sI (ho_sJ S 42 (6 * kd + n) v) 41 kd (nI (n + 1))) := by
  unfold f_X12_adds
  have e : (ho_sJ S 42 (6 * kd + n) v).1 41 kd = nI n := hn
  rw [ldI_n (by omega) (by decide), hn, lit_nI 6, pk_mul, nI_add, stJ_n (by omega) (by decide), ldI_n (by omega) (by decide), e, nI_1, stI_n (by omega) (by decide), ldI_n (by omega) (by decide), sI_v, lit_nI 1, pk_sub (by omega)]
  rfl

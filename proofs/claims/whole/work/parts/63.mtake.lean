/-! level 2: the reference: words, signs, numbers taken, faults -/
/-- a fault has been found -/
def bR (S : Hp) (e : Nat × Nat) : Prop := (0 < e.1 ∧ e.1 < 6 ∧ e.2 ≤ 1600) ∧ S.1 0 5 = nI e.1 ∧ S.1 0 6 = nI e.2
theorem bR_0 {S : Hp} {e : Nat × Nat} (h : bR S e) : ¬ S.1 0 5 = 0 := by
  obtain ⟨⟨h1, h2, -⟩, h3, -⟩ := h
  rw [h3]
  exact fun q => by have := (eq0 (by omega)).mp q; omega
def rR (S : Hp) (T : Tp) : Except (Nat × Nat) Lx → Prop
  | .ok σ => lR S T σ
  | .error e => bR S e
def rN (S : Hp) (T : Tp) (v : Int32) : Except (Nat × Nat) (Nat × Lx) → Prop
  | .ok r => v = nI r.1 ∧ lR S T r.2
  | .error e => bR S e
theorem m_fail {S : Hp} {k p : Nat} (h : S.1 0 5 = 0) (hk : 0 < k ∧ k < 6) (hp : p ≤ 1600) : ∃ S', f_X12_fail (nI k) (nI p) S = some S' ∧ bR S' (k, p) ∧ fM lxP S S' := by
  refine ⟨ho_sI (ho_sI S 0 5 (nI k)) 0 6 (nI p), ?_, ⟨⟨hk.1, hk.2, hp⟩, ?_, sI_v⟩, fM_tr (fM_sI _ ⟨rfl, by omega⟩) (fM_sI _ ⟨rfl, by omega⟩)⟩
  · unfold f_X12_fail
    rw [if_pos h, le1_e, le1_e]
  · rw [sI_k (by decide), sI_v]
theorem m_fail_b {S : Hp} {x y : Int32} (h : ¬ S.1 0 5 = 0) : f_X12_fail x y S = some S := by
  unfold f_X12_fail
  rw [if_neg h]
theorem lR_adv {S : Hp} {T : Tp} {σ : Lx} (h : lR S T σ) (hk : tK T σ = 1 ∨ tK T σ = 2) : lR (ho_sI (ho_sI S 0 2 (nI (tE T σ))) 0 4 (nI (tE T σ))) T (nx T σ) := by
  obtain ⟨h1, h2, h3, h4, h5⟩ := h
  refine ⟨lB_f h1 (by rw [sI_k (by decide), sI_k (by decide)]) (fun i => by rw [sI_ne _ (by decide), sI_ne _ (by decide)]), tE_le h2, by rw [sI_k (by decide), sI_k (by decide)]; exact h3, ⟨tE T σ, Nat.le_refl _, tS_ge T (nx T σ), by rw [sI_k (by decide), sI_v]⟩, Or.inl ⟨?_, sI_v⟩, by rw [sI_k (by decide), sI_k (by decide)]; exact h5.2⟩
  show decide (tK T σ = 1 ∨ tK T σ = 2) = true
  simp [hk]
theorem m_takes {S : Hp} {T : Tp} {σ : Lx} {c : Nat} {w : List Nat} (h : lR S T σ) (hc : c ≠ 0) (hw : mWd S c w) : ∃ S', f_X12_takes c w.length S = some (if isW T σ w = true then 1 else 0, S') ∧ fM lxP S S' ∧ (isW T σ w = true → lR S' T (nx T σ)) ∧ (¬ isW T σ w = true → lX S' T σ) := by
  have hX := lX_of h
  have f1 : fM lxP S (ho_sI S 0 2 (nI (tS T σ))) := fM_sI _ ⟨rfl, (by omega)⟩
  unfold f_X12_takes
  rw [m_here h hc hw, ob2_s]
  by_cases q : isW T σ w = true
  · rw [if_neg (fun x => ite01.mp x q), le1_e, le1_e, if_pos q]
    obtain ⟨k1, k2⟩ := isW_i.mp q
    have hl := (wd_iff.mp k2).1
    have hg := tE_ge T σ
    have e1 : (ho_sI S 0 2 (nI (tS T σ))).1 0 2 + Int32.ofNat w.length = nI (tE T σ) := by
      rw [sI_v, show Int32.ofNat w.length = nI w.length from rfl, nI_add]
      congr 1
      omega
    rw [e1, sI_v, sI_w]
    refine ⟨_, rfl, fM_tr (fM_sI _ ⟨rfl, by omega⟩) (fM_sI _ ⟨rfl, by omega⟩), fun _ => lR_adv h (Or.inl k1), fun x => absurd q x⟩
  · rw [if_pos (ite01.mpr q), if_neg q]
    exact ⟨_, rfl, f1, fun x => absurd x q, fun _ => hX⟩
theorem m_asks {S : Hp} {T : Tp} {σ : Lx} {c : Nat} {w : List Nat} (h : lR S T σ) (hc : c ≠ 0) (hw : mWd S c w) : ∃ S', f_X12_asks c w.length S = some S' ∧ fM lxP S S' ∧ rR S' T (tkW T w σ) := by
  obtain ⟨S1, r1, r2, r3, r4⟩ := m_takes h hc hw
  unfold f_X12_asks tkW
  rw [if_pos h.2.2.1, r1, ob2_s]
  by_cases q : isW T σ w = true
  · rw [if_neg (fun x => ite01.mp x q), if_pos q]
    exact ⟨S1, rfl, r2, r3 q⟩
  · have hX := r4 q
    have hs := tS_le hX.1.2.1
    have hn := hX.1.1.1
    obtain ⟨S2, p1, p2, p3⟩ := m_fail (k := 1) (p := tS T σ) hX.1.2.2.1 ⟨by decide, by decide⟩ (by omega)
    rw [if_pos (ite01.mpr q), if_neg q, hX.2, show (1 : Int32) = nI 1 from rfl, p1, ob_s]
    exact ⟨S2, rfl, fM_tr r2 p3, p2⟩
theorem m_sign {S : Hp} {T : Tp} {σ : Lx} {c : Nat} (h : lR S T σ) (hc : c < 256 ∧ ltr c = false ∧ dgt c = false) : ∃ S', f_X12_takesSign (nI c) S = some (if isG T σ c = true then 1 else 0, S') ∧ fM lxP S S' ∧ (isG T σ c = true → lR S' T (nx T σ) ∧ S'.1 0 2 = nI (tS T σ + 1)) ∧ (¬ isG T σ c = true → lX S' T σ) := by
  have hX := lX_of h
  have f1 : fM lxP S (ho_sI S 0 2 (nI (tS T σ))) := fM_sI _ ⟨rfl, (by omega)⟩
  have hc2 := isG_b (T := T) (σ := σ) hc.2
  unfold f_X12_takesSign
  rw [if_pos h.2.2.1, m_look h, ob2_s]
  unfold byt
  by_cases q : tS T σ < T.2
  · have hb := (h.1.2.2 _ q).2
    rw [if_pos q]
    by_cases q2 : T.1 (tS T σ) = c
    · have g : isG T σ c = true := hc2.mpr ⟨q, q2⟩
      have k3 := (isG_i.mp g).1
      rw [if_pos ((nI_eq (by omega) (by omega)).mpr q2), if_pos g, le1_e, sI_v, nI_1, sI_w]
      refine ⟨_, rfl, fM_sI _ ⟨rfl, by omega⟩, fun _ => ⟨?_, sI_v⟩, fun x => absurd g x⟩
      have hE := tE_sign k3
      obtain ⟨h1, h2, h3, h4, h5⟩ := h
      refine ⟨lB_f h1 (sI_k (by decide)) (fun i => by rw [sI_ne _ (by decide)]), tE_le h2, by rw [sI_k (by decide)]; exact h3, ⟨tE T σ, Nat.le_refl _, tS_ge T (nx T σ), by rw [sI_v, hE]⟩, Or.inr ⟨?_, ?_⟩, by rw [sI_k (by decide)]; exact h5.2⟩
      · show decide (tK T σ = 1 ∨ tK T σ = 2) = false
        rw [k3]; rfl
      · rw [sI_k (by decide)]
        have hg := tS_ge T σ
        have e0 : (nx T σ).1 = tE T σ := rfl
        rcases h5.1 with ⟨-, e⟩ | ⟨-, e | ⟨j, j1, e⟩⟩
        · exact Or.inr ⟨σ.1, by omega, e⟩
        · exact Or.inl e
        · exact Or.inr ⟨j, by omega, e⟩
    · have g : ¬ isG T σ c = true := fun x => q2 (hc2.mp x).2
      rw [if_neg (fun x => q2 ((nI_eq (by omega) (by omega)).mp x)), if_neg g]
      exact ⟨_, rfl, f1, fun x => absurd x g, fun _ => hX⟩
  · have g : ¬ isG T σ c = true := fun x => q (hc2.mp x).1
    rw [if_neg q, if_neg g, if_neg]
    · exact ⟨_, rfl, f1, fun x => absurd x g, fun _ => hX⟩
    · intro x
      have q1 : (nI c).toInt = (c : Int) := nI_toInt (by omega)
      rw [← x] at q1
      have : (-1 : Int32).toInt = -1 := (by decide)
      omega
theorem m_asksG {S : Hp} {T : Tp} {σ : Lx} {c : Nat} (h : lR S T σ) (hc : c < 256 ∧ ltr c = false ∧ dgt c = false) : ∃ S', f_X12_asksSign (nI c) S = some S' ∧ fM lxP S S' ∧ rR S' T (tkG T c σ) := by
  obtain ⟨S1, r1, r2, r3, r4⟩ := m_sign h hc
  unfold f_X12_asksSign tkG
  rw [if_pos h.2.2.1, r1, ob2_s]
  by_cases q : isG T σ c = true
  · rw [if_neg (fun x => ite01.mp x q), if_pos q]
    exact ⟨S1, rfl, r2, (r3 q).1⟩
  · have hX := r4 q
    have hs := tS_le hX.1.2.1
    have hn := hX.1.1.1
    obtain ⟨S2, p1, p2, p3⟩ := m_fail (k := 1) (p := tS T σ) hX.1.2.2.1 ⟨by decide, by decide⟩ (by omega)
    rw [if_pos (ite01.mpr q), if_neg q, hX.2, show (1 : Int32) = nI 1 from rfl, p1, ob_s]
    exact ⟨S2, rfl, fM_tr r2 p3, p2⟩
theorem dv_lt {T : Tp} {s : Nat} : ∀ k, (∀ j, j < k → T.1 (s + j) ≤ 57) → dv T s k < 10 ^ k
  | 0, _ => by rw [dv]; decide
  | k + 1, h => by
    have h1 := dv_lt k (fun j hj => h j (by omega))
    have h2 := h k (by omega)
    rw [dv, Nat.pow_succ]
    omega
theorem m_num49 {T : Tp} {s m : Nat} {lo hi : Int32} (hm : rn dgt T s = s + m) (hsm : s + m ≤ T.2) : ∀ (d i k : Nat) (S : Hp), lB S T → i + d = m → i ≤ 4 → d < k → S.1 0 2 = nI (s + i) →
    f_X12_number_49 k lo hi (nI s) (nI (dv T s i)) S = if m ≤ 4 then f_X12_number_129 lo hi (nI s) (nI (dv T s m)) (ho_sI S 0 2 (nI (s + m))) else ob (f_X12_fail (1 : Int32) (nI (s + 4)) (ho_sI S 0 2 (nI (s + 4)))) (fun S6 => some ((0 : Int32), S6)) := by
  intro d
  induction d with
  | zero =>
    intro i k S hB hi h4 hk h2
    obtain ⟨k, rfl⟩ : ∃ q, k = q + 1 := ⟨k - 1, by omega⟩
    obtain ⟨b1, b2, b3⟩ := hB
    have e : i = m := by omega
    subst e
    have hno := rn_no dgt T s
    rw [hm] at hno
    rw [f_X12_number_49, b2, h2, if_pos h4, sI_id h2]
    by_cases q : s + i < T.2
    · obtain ⟨t1, t2⟩ := b3 (s + i) q
      rw [if_neg (nI_ge q (by omega)), ldI_n (by omega) (by decide), t1, m_dig t2, ob2_s, if_pos (ite01.mpr (fun x => hno ⟨q, x⟩))]
    · rw [if_pos (nI_le (by omega) (by omega))]
  | succ d ih =>
    intro i k S hB hi h4 hk h2
    obtain ⟨k, rfl⟩ : ∃ q, k = q + 1 := ⟨k - 1, by omega⟩
    have hB' := hB
    obtain ⟨b1, b2, b3⟩ := hB'
    obtain ⟨i1, i2⟩ := rn_in dgt T (e := s) (j := s + i) (by omega) (by omega)
    obtain ⟨t1, t2⟩ := b3 (s + i) i1
    have hd := dgt_i.mp i2
    rw [f_X12_number_49, b2, h2, if_neg (nI_ge i1 (by omega)), ldI_n (by omega) (by decide), t1, m_dig t2, ob2_s, if_neg (fun x => ite01.mp x i2), h2, pk_sub (by omega), show s + i - s = i by omega]
    by_cases q : i = 4
    · subst q
      rw [if_pos (show nI 4 = (4 : Int32) from rfl), if_neg (by omega), sI_id h2]
    · have hv : dv T s i < 10 ^ i := dv_lt i (fun j hj => by
        have := rn_in dgt T (e := s) (j := s + j) (by omega) (by omega)
        have := dgt_i.mp this.2
        omega)
      have hv2 : 10 ^ i ≤ 10 ^ 3 := Nat.pow_le_pow_right (by decide) (by omega)
      have e1 : ((10 : Int32) * nI (dv T s i) + nI (T.1 (s + i))) - (48 : Int32) = nI (dv T s (i + 1)) := by
        rw [lit_nI 10, lit_nI 48, pk_mul, nI_add, pk_sub (by omega), dv]
        congr 1
        omega
      rw [if_neg (fun x => q ((eqL 4 (by omega) (by decide)).mp x)), ldI_n (by omega) (by decide), t1, le1_e, e1, le1_e, nI_1, show s + i + 1 = s + (i + 1) by omega, ih (i + 1) k (ho_sI S 0 2 (nI (s + (i + 1)))) (lB_f hB (sI_k (by decide)) (fun i => by rw [sI_ne _ (by decide)])) (by omega) (by omega) (by omega) sI_v, sI_w, sI_w]
theorem m_num {S : Hp} {T : Tp} {σ : Lx} {lo hi : Nat} (h : lR S T σ) (hlo : lo < 2 ^ 31) (hhi : hi < 2 ^ 31) : ∃ v S', f_X12_number (nI lo) (nI hi) S = some (v, S') ∧ fM lxP S S' ∧ rN S' T v (tkV T lo hi σ) := by
  have hX := lX_of h
  have f1 : fM lxP S (ho_sI S 0 2 (nI (tS T σ))) := fM_sI _ ⟨rfl, (by omega)⟩
  have h7 := tS_le h.2.1
  have h8 := h.1.1
  have h256 : ∀ i, i < T.2 → T.1 i < 256 := fun i hi => (h.1.2.2 i hi).2
  unfold f_X12_number tkV
  rw [if_pos h.2.2.1, m_look h, ob2_s, m_digB h256, ob2_s]
  have bad : ∃ v S', f_X12_number_30 (ho_sI S 0 2 (nI (tS T σ))) = some (v, S') ∧ fM lxP S S' ∧ bR S' (1, tS T σ) := by
    unfold f_X12_number_30
    obtain ⟨S2, p1, p2, p3⟩ := m_fail (k := 1) (p := tS T σ) hX.1.2.2.1 ⟨by decide, by decide⟩ (by omega)
    rw [hX.2, show (1 : Int32) = nI 1 from rfl, p1, ob_s]
    exact ⟨_, S2, rfl, fM_tr f1 p3, p2⟩
  by_cases q : tS T σ < T.2 ∧ dgt (T.1 (tS T σ)) = true
  · rw [if_neg (fun x => ite01.mp x q)]
    by_cases q2 : σ.2 = true ∧ tS T σ = σ.1
    · rw [if_pos ((en_eq hX).mpr q2), if_neg (fun x => (tK_num.mp x).2.2 q2)]
      exact bad
    · have k2 : tK T σ = 2 := tK_num.mpr ⟨q.1, q.2, q2⟩
      have hE := tE_num q.1 q.2
      have hg := tE_ge T σ
      have hl := tE_le h.2.1
      rw [if_neg (fun x => q2 ((en_eq hX).mp x)), le1_e, if_pos k2, hX.2]
      have L := m_num49 (T := T) (s := tS T σ) (m := tE T σ - tS T σ) (lo := nI lo) (hi := nI hi) (by rw [← hE]; omega) (by omega) (tE T σ - tS T σ) 0 5000 (ho_sI S 0 2 (nI (tS T σ))) hX.1.1 (by omega) (by omega) (by omega) (by rw [hX.2]; rfl)
      rw [dv] at L
      rw [show (0 : Int32) = nI 0 from rfl, L]
      by_cases q4 : tE T σ - tS T σ ≤ 4
      · have hdl : dv T (tS T σ) (tE T σ - tS T σ) < 10 ^ (tE T σ - tS T σ) := dv_lt _ (fun j hj => by
          have := rn_in dgt T (e := tS T σ) (j := tS T σ + j) (by omega) (by omega)
          have := dgt_i.mp this.2
          omega)
        have hp4 : 10 ^ (tE T σ - tS T σ) ≤ 10 ^ 4 := Nat.pow_le_pow_right (by decide) q4
        rw [if_pos q4, if_pos q4, sI_w, show tS T σ + (tE T σ - tS T σ) = tE T σ by omega]
        unfold f_X12_number_129
        rw [le1_e, sI_v, m_isInI, ob2_s]
        generalize dv T (tS T σ) (tE T σ - tS T σ) = V at *
        have hA := lR_adv h (Or.inr k2)
        have fA : fM lxP S (ho_sI (ho_sI S 0 2 (nI (tE T σ))) 0 4 (nI (tE T σ))) := fM_tr (fM_sI _ ⟨rfl, by omega⟩) (fM_sI _ ⟨rfl, by omega⟩)
        by_cases q5 : lo ≤ V ∧ V ≤ hi
        · rw [if_pos q5, if_neg (fun x => ite01.mp x ⟨nI_le q5.1 (by omega), nI_le q5.2 (by omega)⟩)]
          exact ⟨_, _, rfl, fA, rfl, hA⟩
        · rw [if_neg q5, if_pos (ite01.mpr (fun x => q5 ⟨(nI_leI (by omega) (by omega)).mp x.1, (nI_leI (by omega) (by omega)).mp x.2⟩))]
          obtain ⟨S2, p1, p2, p3⟩ := m_fail (k := 2) (p := tS T σ) hA.2.2.1 ⟨by decide, by decide⟩ (by omega)
          rw [show (2 : Int32) = nI 2 from rfl, p1, ob_s]
          exact ⟨_, S2, rfl, fM_tr fA p3, p2⟩
      · rw [if_neg q4, if_neg q4, sI_w]
        obtain ⟨S2, p1, p2, p3⟩ := m_fail (S := ho_sI S 0 2 (nI (tS T σ + 4))) (k := 1) (p := tS T σ + 4) (by rw [sI_k (by decide)]; exact h.2.2.1) ⟨by decide, by decide⟩ (by omega)
        rw [show (1 : Int32) = nI 1 from rfl, p1, ob_s]
        exact ⟨_, S2, rfl, fM_tr (fM_sI _ ⟨rfl, by omega⟩) p3, p2⟩
  · rw [if_pos (ite01.mpr q), if_neg (fun x => q ⟨(tK_num.mp x).1, (tK_num.mp x).2.1⟩)]
    exact bad

/-! level 2: the class: yields, what a show takes, sights laid, the best show -/
theorem cap9_n {n : Nat} (h : n < 2 ^ 31) : cap9 (nI n) = nI (min 9999 n) := by
  unfold cap9
  by_cases e : n ≤ 9999
  · rw [if_pos (nI_le e (by decide)), Nat.min_eq_right e]
  · rw [if_neg (nI_ge (by omega) h), Nat.min_eq_left (by omega)]
theorem mn_n {a b : Nat} (ha : a < 2 ^ 31) (hb : b < 2 ^ 31) : mn (nI a) (nI b) = nI (min a b) := by
  unfold mn
  by_cases e : a ≤ b
  · rw [if_pos (nI_le e hb), Nat.min_eq_left e]
  · rw [if_neg (nI_ge (by omega) ha), Nat.min_eq_right (by omega)]
/-- the yields come -/
def rip (C : Cr) (z : Nat → Nat) (i : Nat) : Nat := if 3 ≤ i ∧ i < 3 + cP C then min 9999 (z i + cR C 1 (i - 3)) else z i
theorem rip_st {C : Cr} {z : Nat → Nat} (p : Nat) : rip C z (3 + p) = if p < cP C then min 9999 (z (3 + p) + cR C 1 p) else z (3 + p) := by
  unfold rip
  by_cases h : p < cP C
  · rw [if_pos h, if_pos (by omega), show 3 + p - 3 = p by omega]
  · rw [if_neg h, if_neg (by omega)]
theorem rip_o {C : Cr} {z : Nat → Nat} {i : Nat} (hC : okCr C) (h : i < 3 ∨ 9 ≤ i) : rip C z i = z i := by
  have := hC.1.1
  unfold rip
  rw [if_neg (by omega)]
theorem rip_ok {C : Cr} {z : Nat → Nat} (hC : okCr C) (hz : okZ C z) : okZ C (rip C z) := by
  obtain ⟨z0, z1, z2, z3, z4, z5, z6, z7, z8⟩ := hz
  refine ⟨?_, ?_, ?_, ?_, ?_, ?_, ?_, ?_, ?_⟩
  · rw [rip_o hC (by omega)]; exact z0
  · rw [rip_o hC (by omega)]; exact z1
  · rw [rip_o hC (by omega)]; exact z2
  · intro p hp
    rw [rip_st]
    have := z3 p hp
    split <;> omega
  · intro t ht; rw [rip_o hC (by omega)]; exact z4 t ht
  · intro t ht; rw [rip_o hC (by omega)]; exact z5 t ht
  · intro t ht; rw [rip_o hC (by omega)]; exact z6 t ht
  · intro p h1 h2; rw [rip_st, if_neg (by omega)]; exact z7 p h1 h2
  · intro t h1 h2; rw [rip_o hC (by omega), rip_o hC (by omega)]; exact z8 t h1 h2
theorem h_rip {S : Hp} {c a : Nat} {C : Cr} {z : Nat → Nat} (hC : okCr C) (hz : okZ C z) (h : cH S c C) (hs : stH S a C z) : ∃ S', f_X8_ripen a S = some S' ∧ stH S' a C (rip C z) ∧ fH (fun b => b = a + 1) S S' ∧ S'.1 a = S.1 a := by
  obtain ⟨ha1, ha2, ha3⟩ := stH_a hs
  obtain ⟨s0, s1, s2, s3⟩ := hs
  have hr := h_ripen (S := S) (c := c) (a := a) hC.1.1 ⟨h.1.1, h.1.2, s0⟩ h.2.1.1
  refine ⟨_, hr, ⟨s0, ?_, ?_, ?_⟩, fH_sA S rfl (by omega), sA_ne _ _ (by omega)⟩
  · rw [sA_ne _ _ (by omega), rip_o hC (by omega), rip_o hC (by omega), rip_o hC (by omega)]; exact s1
  · intro p hp
    obtain ⟨p1, p2, p3⟩ := s2 p hp
    rw [sA_at, sA_ne _ _ (by omega), sA_ne _ _ (by omega), rip_o (i := 9 + p) hC (by omega), rip_o (i := 15 + p) hC (by omega)]
    refine ⟨?_, p2, p3⟩
    rw [rip_st]
    have z3 := hz.2.2.2.1 p hp
    by_cases e : p < cP C
    · have := hC.2.2.1 p e
      rw [if_pos e, if_pos e, p1, h.2.2.2.1 p e, nI_add, cap9_n (by omega)]
    · rw [if_neg e, if_neg e, p1]
  · intro w hw
    rw [sA_ne _ _ (by omega), rip_o hC (by omega)]
    exact s3 w hw
/-- what a show takes, plain -/
def tkA (C : Cr) (s : Nat) (r : Nat → Nat) : Nat → (Nat → Nat) × Nat
  | 0 => (r, 0)
  | t + 1 => if s.testBit t then (fun p => if p = cR C 3 t then (tkA C s r t).1 p - min (cR C 2 t) ((tkA C s r t).1 (cR C 3 t)) else (tkA C s r t).1 p, (tkA C s r t).2 + min (cR C 2 t) ((tkA C s r t).1 (cR C 3 t))) else tkA C s r t
theorem tkN_A {C : Cr} {tk row : Nat → Int32} {s : Nat} {r : Nat → Nat} (hC : okCr C) (htk : ∀ t, t < cT C → tk t = nI (cR C 2 t)) (hrow : ∀ p, p < 6 → row p = nI (r p)) (hr : ∀ p, p < 6 → r p ≤ 9999) : ∀ n, n ≤ cT C → (tkN tk (cR C 3) s row n).2 = nI (tkA C s r n).2 ∧ (tkA C s r n).2 ≤ n * 999 ∧ ∀ p, p < 6 → (tkN tk (cR C 3) s row n).1 p = nI ((tkA C s r n).1 p) ∧ (tkA C s r n).1 p ≤ r p
  | 0, _ => ⟨rfl, Nat.le_refl _, fun p hp => ⟨hrow p hp, Nat.le_refl _⟩⟩
  | t + 1, h => by
    obtain ⟨h1, h2, h3⟩ := tkN_A (s := s) hC htk hrow hr t (by omega)
    obtain ⟨k1, k2, k3⟩ := hC.2.2.2.1 t (by omega)
    have hnp := hC.1.1
    obtain ⟨f1, f2⟩ := h3 (cR C 3 t) (by omega)
    have f3 := hr (cR C 3 t) (by omega)
    rw [tkN, tkA]
    by_cases hb : s.testBit t = true
    · rw [if_pos hb, if_pos hb, f1, htk t (by omega), mn_n (by omega) (by omega), h1, nI_add, pk_sub (Nat.min_le_right _ _)]
      refine ⟨rfl, ?_, fun p hp => ?_⟩
      · rw [Nat.succ_mul]
        show (tkA C s r t).2 + min (cR C 2 t) ((tkA C s r t).1 (cR C 3 t)) ≤ _
        omega
      · obtain ⟨p1, p2⟩ := h3 p hp
        show upd _ _ _ p = nI (if p = cR C 3 t then _ else _) ∧ (if p = cR C 3 t then _ else _) ≤ r p
        by_cases e : p = cR C 3 t
        · subst e
          rw [pk_us, if_pos rfl]
          exact ⟨rfl, by omega⟩
        · rw [pk_un e, if_neg e]
          exact ⟨p1, p2⟩
    · rw [if_neg hb, if_neg hb]
      exact ⟨h1, Nat.le_trans h2 (Nat.mul_le_mul_right _ (Nat.le_succ _)), h3⟩
/-- what appears by a show, what is left -/
def apr (C : Cr) (z : Nat → Nat) (s : Nat) : Nat := (tkA C s (fun p => z (3 + p)) (cT C)).2
def lft (C : Cr) (z : Nat → Nat) (s p : Nat) : Nat := (tkA C s (fun p => z (3 + p)) (cT C)).1 p
theorem apr_le {C : Cr} {z : Nat → Nat} {s : Nat} (hC : okCr C) (hz : okZ C z) : apr C z s ≤ 5994 ∧ ∀ p, p < 6 → lft C z s p ≤ z (3 + p) := by
  obtain ⟨-, h2, h3⟩ := tkN_A (tk := fun t => nI (cR C 2 t)) (row := fun p => nI (z (3 + p))) (s := s) (r := fun p => z (3 + p)) hC (fun _ _ => rfl) (fun _ _ => rfl) hz.2.2.2.1 (cT C) (Nat.le_refl _)
  have := hC.1.2.1
  refine ⟨?_, fun p hp => (h3 p hp).2⟩
  unfold apr
  omega
theorem h_tk {S : Hp} {c a s : Nat} {C : Cr} {z : Nat → Nat} (hC : okCr C) (hz : okZ C z) (h : cH S c C) (hs : stH S a C z) (h64 : s < 64) : ∃ S', f_X8_takeAll a (nI s) S = some (nI (apr C z s), S') ∧ (∀ p, p < 6 → S'.1 52 p = nI (lft C z s p)) ∧ fH (fun b => b = 52) S S' := by
  have hnp := hC.1.1
  have ht := h_take (S := S) (c := c) (a := a) (fr := cR C 3) ⟨h.1.1, h.1.2, hs.1⟩ hC.1.2.1 h64 h.2.1.2.1 (fun t ht => ⟨(h.2.2.2.2.1 t ht).2.1, by have := (hC.2.2.2.1 t ht).2.1; omega⟩)
  obtain ⟨r1, r2, r3⟩ := tkN_A (tk := fun t => S.1 (c + 8) t) (row := fun p => if p < 6 then S.1 (a + 1) p else S.1 52 p) (s := s) (r := fun p => z (3 + p)) hC (fun t ht => (h.2.2.2.2.1 t ht).1) (fun p hp => by rw [if_pos hp]; exact (hs.2.2.1 p hp).1) hz.2.2.2.1 (cT C) (Nat.le_refl _)
  rw [r1] at ht
  refine ⟨_, ht, fun p hp => ?_, fH_sA S rfl (by decide)⟩
  rw [sA_at, (r3 p hp).1]
  rfl
def scL (c b : Nat) : Prop := scE c b ∨ b = 51
theorem scL_c {c b : Nat} (hc : c = 100 ∨ c = 150) (h : scL c b) : ¬ crC c b := by
  unfold scL scE at h
  unfold crC
  omega
theorem scL_a {c a b : Nat} (hc : c = 100 ∨ c = 150) (ha : 1000 ≤ a) (h : scL c b) : ¬ (a ≤ b ∧ b ≤ a + 4) := by
  unfold scL scE at h
  omega
theorem cH_l {S S' : Hp} {c : Nat} {C : Cr} (h : cH S c C) (hf : fH (scL c) S S') : cH S' c C := cH_f h hf (fun _ q => scL_c (cH_c h) q)
theorem stH_l {S S' : Hp} {c a : Nat} {C : Cr} {z : Nat → Nat} (h0 : cH S c C) (h : stH S a C z) (hf : fH (scL c) S S') : stH S' a C z := stH_f h hf (fun _ q => scL_a (cH_c h0) (stH_a h).1 q)
theorem h_look31 {K : Int32 → Int32 → Hp → Option Hp} {c a t m : Nat} {C : Cr} {z : Nat → Nat} (hC : okCr C) (hz : okZ C z) (ht : t < cT C) (hm : m < 64) (hb : m.testBit t = true) : ∀ (d i k : Nat) (S : Hp), i + d = cW C → d < k → cH S c C → stH S a C z → S.1 51 t = nI (smT (fun w => sg C z t w (z (21 + w))) i) →
    ∃ S', f_X8_lookAtAll_31 K a k (nI m) (nI t) (nI i) S = K (nI m) (nI (t + 1)) S' ∧ S'.1 51 t = nI (sgT C z t) ∧ (∀ j, j ≠ t → S'.1 51 j = S.1 51 j) ∧ fH (scL c) S S' := by
  have hnw := hC.1.2.2
  have hnt := hC.1.2.1
  have h84 : ∀ Sx, f_X8_lookAtAll_84 K a (nI m) (nI t) Sx = K (nI m) (nI (t + 1)) Sx := by
    intro Sx
    unfold f_X8_lookAtAll_84
    rw [le1_e, nI_1]
  intro d
  induction d with
  | zero =>
    intro i k S hi hk h hs h51
    obtain ⟨k, rfl⟩ : ∃ q, k = q + 1 := ⟨k - 1, by omega⟩
    refine ⟨S, ?_, ?_, fun _ _ => rfl, fH_rf _ S⟩
    · rw [f_X8_lookAtAll_31, ldP_n h.1.1 h.1.2, ldI_L 2 (by decide) (by decide), h.2.1.2.2, if_pos (nI_le (by omega) (by omega)), h84]
    · rw [h51, show i = cW C by omega]
      rfl
  | succ d ih =>
    intro i k S hi hk h hs h51
    obtain ⟨k, rfl⟩ : ∃ q, k = q + 1 := ⟨k - 1, by omega⟩
    have hz6 := hz.2.2.2.2.2.2.1 i (by omega)
    have hcc := cH_c h
    obtain ⟨S1, r1, r2⟩ := h_gl (w := i) hC hz h hs ht (by omega) hz6
    have e51 : S1.1 51 = S.1 51 := r2.1 51 (by unfold scE; omega)
    have f1 : fH (scL c) S (ho_sI S1 51 t (nI (smT (fun w => sg C z t w (z (21 + w))) (i + 1)))) := fH_tr (fH_mo r2 (fun b q => Or.inl q)) (fH_sI S1 (Or.inr rfl) (by decide))
    obtain ⟨S2, r3, r4, r5, r6⟩ := ih (i + 1) k (ho_sI S1 51 t (nI (smT (fun w => sg C z t w (z (21 + w))) (i + 1)))) (by omega) (by omega) (cH_l h f1) (stH_l h hs f1) (by rw [sI_at, pk_us])
    refine ⟨S2, ?_, r4, fun j hj => ?_, fH_tr f1 r6⟩
    · rw [f_X8_lookAtAll_31, ldP_n h.1.1 h.1.2, ldI_L 2 (by decide) (by decide), h.2.1.2.2, if_neg (nI_ge (by omega) (by omega)), if_pos ((bit_at1 hm (by omega)).mpr hb), ldI_n (by omega) (by decide), ldI_n (by omega) (by decide), hs.2.2.2 i (by omega), r1, ob2_s, stI_n (by omega) (by decide), h51, nI_add, le1_e, nI_1]
      exact r3
    · rw [r5 j hj, sI_at, pk_un hj, e51]
/-- the sights that the class lays -/
def sr (C : Cr) (z : Nat → Nat) (m t : Nat) : Nat := if m.testBit t then sgT C z t else 0
theorem h_look8 {c a m : Nat} {C : Cr} {z : Nat → Nat} (hC : okCr C) (hz : okZ C z) (hm : m < 64) : ∀ (d i k : Nat) (S : Hp), i + d = cT C → d < k → cH S c C → stH S a C z → (∀ j, j < i → S.1 51 j = nI (sr C z m j)) →
    ∃ S', f_X8_lookAtAll_8 a k (nI m) (nI i) S = some S' ∧ (∀ j, j < cT C → S'.1 51 j = nI (sr C z m j)) ∧ fH (scL c) S S' := by
  have hnw := hC.1.2.2
  have hnt := hC.1.2.1
  intro d
  induction d with
  | zero =>
    intro i k S hi hk h hs h51
    obtain ⟨k, rfl⟩ : ∃ q, k = q + 1 := ⟨k - 1, by omega⟩
    refine ⟨S, ?_, fun j hj => h51 j (by omega), fH_rf _ S⟩
    rw [f_X8_lookAtAll_8, ldP_n h.1.1 h.1.2, ldI_L 1 (by decide) (by decide), h.2.1.2.1, if_pos (nI_le (by omega) (by omega))]
  | succ d ih =>
    intro i k S hi hk h hs h51
    obtain ⟨k, rfl⟩ : ∃ q, k = q + 1 := ⟨k - 1, by omega⟩
    have f1 : fH (scL c) S (ho_sI S 51 i (0 : Int32)) := fH_sI S (Or.inr rfl) (by decide)
    rw [f_X8_lookAtAll_8, ldP_n h.1.1 h.1.2, ldI_L 1 (by decide) (by decide), h.2.1.2.1, if_neg (nI_ge (by omega) (by omega)), stI_n (by omega) (by decide)]
    by_cases hb : m.testBit i = true
    · obtain ⟨S1, r1, r2, r3, r4⟩ := h_look31 (K := f_X8_lookAtAll_8 a k) hC hz (by omega) hm hb (cW C) 0 5000 (ho_sI S 51 i (0 : Int32)) (by omega) (by omega) (cH_l h f1) (stH_l h hs f1) (by rw [sI_at, pk_us]; rfl)
      obtain ⟨S2, r5, r6, r7⟩ := ih (i + 1) k S1 (by omega) (by omega) (cH_l (cH_l h f1) r4) (stH_l (cH_l h f1) (stH_l h hs f1) r4) (by
        intro j hj
        by_cases e : j = i
        · subst e
          rw [r2]
          unfold sr
          rw [if_pos hb]
        · rw [r3 j e, sI_at, pk_un e]
          exact h51 j (by omega))
      refine ⟨S2, ?_, r6, fH_tr f1 (fH_tr r4 r7)⟩
      exact r1.trans r5
    · obtain ⟨S2, r5, r6, r7⟩ := ih (i + 1) k (ho_sI S 51 i (0 : Int32)) (by omega) (by omega) (cH_l h f1) (stH_l h hs f1) (by
        intro j hj
        rw [sI_at]
        by_cases e : j = i
        · subst e
          rw [pk_us]
          unfold sr
          rw [if_neg hb]
          rfl
        · rw [pk_un e]
          exact h51 j (by omega))
      refine ⟨S2, ?_, r6, fH_tr f1 r7⟩
      have h' := cH_l h f1
      have h84 : ∀ Sx, f_X8_lookAtAll_84 (f_X8_lookAtAll_8 a k) a (nI m) (nI i) Sx = f_X8_lookAtAll_8 a k (nI m) (nI (i + 1)) Sx := by
        intro Sx
        unfold f_X8_lookAtAll_84
        rw [le1_e, nI_1]
      rw [f_X8_lookAtAll_31, ldP_n h'.1.1 h'.1.2, ldI_L 2 (by decide) (by decide), if_neg (fun q => hb ((bit_at1 hm (by omega)).mp q)), h84]
      by_cases e : (ho_sI S 51 i 0).1 (c + 1) 2 ≤ 0
      · rw [if_pos e]; exact r5
      · rw [if_neg e]; exact r5
theorem h_look {S : Hp} {c a : Nat} {C : Cr} {z : Nat → Nat} (hC : okCr C) (hz : okZ C z) (h : cH S c C) (hs : stH S a C z) : ∃ S', f_X8_lookAtAll a S = some S' ∧ (∀ j, j < cT C → S'.1 51 j = nI (sr C z (shw C z) j)) ∧ fH (scL c) S S' := by
  have hnt := hC.1.2.1
  obtain ⟨S1, r1, r2, r3⟩ := h_look8 (c := c) (a := a) hC hz (shw_64 hC z) (cT C) 0 5000 S (by omega) (by omega) h hs (fun j hj => absurd hj (by omega))
  refine ⟨S1, ?_, r2, r3⟩
  unfold f_X8_lookAtAll
  rw [h_shw hC hz h hs, ob2_s]
  exact r1

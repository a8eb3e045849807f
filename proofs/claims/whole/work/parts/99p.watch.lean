/-! level 2: alike answers: watch -/
theorem shl5 : ∀ n, n ≤ 6 → ((1 : Int32) <<< (nI n &&& 31)) = nI (2 ^ n) := by
  intro n h
  have : n = 0 ∨ n = 1 ∨ n = 2 ∨ n = 3 ∨ n = 4 ∨ n = 5 ∨ n = 6 := by omega
  rcases this with rfl | rfl | rfl | rfl | rfl | rfl | rfl <;> decide
theorem setNat_or (P Q : Nat → Bool) (n : Nat) : setNat P n ||| setNat Q n = setNat (fun t => P t || Q t) n := by
  apply Nat.eq_of_testBit_eq
  intro i
  rw [Nat.testBit_or, setNat_bit, setNat_bit, setNat_bit]
  cases decide (i < n) <;> cases P i <;> cases Q i <;> rfl
theorem setNat_all (P : Nat → Bool) : ∀ n, (setNat P n = 2 ^ n - 1) ↔ ∀ t, t < n → P t = true := by
  intro n
  constructor
  · intro h t ht
    have := setNat_bit P n t
    rw [h, Nat.testBit_two_pow_sub_one, decide_eq_true ht, Bool.true_and] at this
    exact this.symm
  · intro h
    apply Nat.eq_of_testBit_eq
    intro i
    rw [setNat_bit, Nat.testBit_two_pow_sub_one]
    by_cases e : i < n
    · rw [h i e, Bool.and_true]
    · rw [decide_eq_false e, Bool.false_and]
/-- who sees which trick -/
def wB (g : Nat → Nat → Nat) (x s t : Nat) : Nat → Bool
  | 0 => false
  | w + 1 => wB g x s t w || (s.testBit w && decide (x ≤ g t w))
def cvB (g : Nat → Nat → Nat) (x s nw : Nat) : Nat → Bool
  | 0 => true
  | t + 1 => cvB g x s nw t && wB g x s t nw
theorem cvB_i {g : Nat → Nat → Nat} {x s nw : Nat} : ∀ nt, cvB g x s nw nt = true ↔ ∀ t, t < nt → wB g x s t nw = true
  | 0 => ⟨fun _ t h => absurd h (by omega), fun _ => rfl⟩
  | nt + 1 => by
    rw [cvB, Bool.and_eq_true, cvB_i nt]
    constructor
    · rintro ⟨h1, h2⟩ t ht
      by_cases e : t = nt
      · rw [e]; exact h2
      · exact h1 t (by omega)
    · exact fun h => ⟨fun t ht => h t (by omega), h nt (by omega)⟩
def wS (g : Nat → Nat → Nat) (x nw nt : Nat) : Nat → Option Nat
  | 0 => none
  | s + 1 => match wS g x nw nt s with
    | none => if cvB g x s nw nt = true then some s else none
    | some b => if popc s < popc b ∧ cvB g x s nw nt = true then some s else some b
theorem wS_lt {g : Nat → Nat → Nat} {x nw nt : Nat} : ∀ n b, wS g x nw nt n = some b → b < n
  | 0, b, h => by cases h
  | n + 1, b, h => by
    rw [wS] at h
    cases hq : wS g x nw nt n with
    | none =>
      rw [hq] at h
      by_cases e : cvB g x n nw nt = true
      · simp only [if_pos e] at h
        cases h; omega
      · simp only [if_neg e] at h
        cases h
    | some b0 =>
      rw [hq] at h
      have := wS_lt n b0 hq
      by_cases e : popc n < popc b0 ∧ cvB g x n nw nt = true
      · simp only [if_pos e] at h
        cases h; omega
      · simp only [if_neg e] at h
        cases h; omega
def oW : Option Nat → Int32
  | none => -1
  | some b => nI b
/-- the class: who sees what -/
theorem h_sba {S : Hp} {c nw nt x s : Nat} {g : Nat → Nat → Nat} (h5 : S.2.2 50 0 = c) (hc : c = 100 ∨ c = 150) (hw : S.1 (c + 1) 2 = nI nw) (hnw : nw ≤ 5) (hnt : nt ≤ 6) (hs : s < 64) (h54 : ∀ w, w < nw → S.1 54 w = nI (setNat (fun t => decide (x ≤ g t w)) nt)) : ∀ (d i K : Nat), i + d = nw → d < K → f_X8_seenByAny_4 K (nI s) (nI (setNat (fun t => wB g x s t i) nt)) (nI i) S = some (nI (setNat (fun t => wB g x s t nw) nt), S)
  | 0, i, K, hi, hK => by
    obtain ⟨K, rfl⟩ : ∃ q, K = q + 1 := ⟨K - 1, by omega⟩
    rw [f_X8_seenByAny_4, ldP_n h5 (crH hc), ldI_L 2 (by decide) (by decide), hw, if_pos (nI_le (by omega) (by omega)), show i = nw by omega]
  | d + 1, i, K, hi, hK => by
    obtain ⟨K, rfl⟩ : ∃ q, K = q + 1 := ⟨K - 1, by omega⟩
    have ih := h_sba h5 hc hw hnw hnt hs h54 d (i + 1) K (by omega) (by omega)
    have h35 : ∀ a, f_X8_seenByAny_35 (f_X8_seenByAny_4 K) (nI s) a (nI i) S = f_X8_seenByAny_4 K (nI s) a (nI (i + 1)) S := fun a => by
      unfold f_X8_seenByAny_35
      rw [le1_e, nI_1]
    rw [f_X8_seenByAny_4, ldP_n h5 (crH hc), ldI_L 2 (by decide) (by decide), hw, if_neg (nI_ge (by omega) (by omega)), bit_at s hs i (by omega), ldI_n (by omega) (by decide), h54 i (by omega), le1_e, h35, h35, orN, setNat_or]
    by_cases e : s.testBit i = true
    · rw [if_pos e, if_pos rfl, ← ih]
      have : (fun t => wB g x s t i || decide (x ≤ g t i)) = fun t => wB g x s t (i + 1) := funext (fun t => by rw [wB, e, Bool.true_and])
      rw [this]
    · rw [if_neg e, if_neg (show ¬ (0 : Int32) = 1 by decide), ← ih]
      have : (fun t => wB g x s t i) = fun t => wB g x s t (i + 1) := funext (fun t => by rw [wB, Bool.eq_false_iff.mpr e, Bool.false_and, Bool.or_false])
      rw [← this]
theorem h_f100 {S : Hp} {a c nw nt x : Nat} {g : Nat → Nat → Nat} (h5 : S.2.2 50 0 = c) (hc : c = 100 ∨ c = 150) (hw : S.1 (c + 1) 2 = nI nw) (hnw : nw ≤ 5) (hnt : nt ≤ 6) (h54 : ∀ w, w < nw → S.1 54 w = nI (setNat (fun t => decide (x ≤ g t w)) nt)) : ∀ (d s K : Nat), s + d = 2 ^ nw → d < K → f_X8_fewestWatchers_100 a K (nI nw) (nI nt) (oW (wS g x nw nt s)) (nI s) S = some (oW (wS g x nw nt (2 ^ nw)), S)
  | 0, s, K, hi, hK => by
    have hp : 2 ^ nw ≤ 2 ^ 5 := Nat.pow_le_pow_right (by decide) hnw
    obtain ⟨K, rfl⟩ : ∃ q, K = q + 1 := ⟨K - 1, by omega⟩
    rw [f_X8_fewestWatchers_100, shl5 nw (by omega), if_pos (nI_le (by omega) (by omega)), show s = 2 ^ nw by omega]
  | d + 1, s, K, hi, hK => by
    have hp : 2 ^ nw ≤ 2 ^ 5 := Nat.pow_le_pow_right (by decide) hnw
    have hpt : 2 ^ nt ≤ 2 ^ 6 := Nat.pow_le_pow_right (by decide) hnt
    obtain ⟨K, rfl⟩ : ∃ q, K = q + 1 := ⟨K - 1, by omega⟩
    have ih := h_f100 (a := a) h5 hc hw hnw hnt h54 d (s + 1) K (by omega) (by omega)
    have hs64 := setNat_64 (fun t => wB g x s t nw) hnt
    have sba := h_sba (s := s) h5 hc hw hnw hnt (by omega) h54 nw 0 5000 (by omega) (by omega)
    have e0 : setNat (fun t => wB g x s t 0) nt = 0 := (setNat_x (m := 0) nt (Nat.zero_le _) (fun i _ _ => rfl))
    rw [e0] at sba
    have h158 : ∀ o, f_X8_fewestWatchers_158 (f_X8_fewestWatchers_100 a K) a (nI nw) (nI nt) o (nI s) S = f_X8_fewestWatchers_100 a K (nI nw) (nI nt) o (nI (s + 1)) S := fun o => by
      unfold f_X8_fewestWatchers_158
      rw [le1_e, nI_1]
    have eb : (nI (setNat (fun t => wB g x s t nw) nt) = ((1 : Int32) <<< (nI nt &&& 31)) - (1 : Int32)) ↔ cvB g x s nw nt = true := by
      rw [shl_nt nt hnt, nI_eq (by omega) (by omega), setNat_all, cvB_i]
    have h127 : ∀ o, f_X8_fewestWatchers_127 (f_X8_fewestWatchers_100 a K) a (nI nw) (nI nt) o (nI s) S = if cvB g x s nw nt = true then f_X8_fewestWatchers_100 a K (nI nw) (nI nt) (nI s) (nI (s + 1)) S else f_X8_fewestWatchers_100 a K (nI nw) (nI nt) o (nI (s + 1)) S := fun o => by
      unfold f_X8_fewestWatchers_127 f_X8_fewestWatchers_132
      rw [if_neg ne1, show f_X8_seenByAny (nI s) S = _ from sba, ob2_s, h158, h158]
      by_cases e : cvB g x s nw nt = true
      · rw [if_pos (eb.mpr e), if_pos e]
      · rw [if_neg (fun q => e (eb.mp q)), if_neg e]
    rw [f_X8_fewestWatchers_100, shl5 nw (by omega), if_neg (nI_ge (by omega) (by omega)), ← ih, wS]
    cases hq : wS g x nw nt s with
    | none =>
      show (if (-1 : Int32) = -1 then _ else _) = _
      rw [if_pos rfl, h127]
      by_cases e : cvB g x s nw nt = true
      · rw [if_pos e]; simp only [if_pos e]; rfl
      · rw [if_neg e]; simp only [if_neg e]
    | some b =>
      have hb := wS_lt s b hq
      have p1 : popc s < 2 ^ 31 := Nat.lt_of_le_of_lt (List.countP_le_length) (by decide)
      have p2 : popc b < 2 ^ 31 := Nat.lt_of_le_of_lt (List.countP_le_length) (by decide)
      show (if nI b = -1 then _ else ob2 (f_J6_bitCount_0f7a4 (nI s) S) (fun r1 S1 => ob2 (f_J6_bitCount_0f7a4 (nI b) S1) (fun r2 S2 => if r2 ≤ r1 then f_X8_fewestWatchers_132 (f_X8_fewestWatchers_100 a K) a (nI nw) (nI nt) (nI b) (nI s) (0 : Int32) S2 else f_X8_fewestWatchers_127 (f_X8_fewestWatchers_100 a K) a (nI nw) (nI nt) (nI b) (nI s) S2))) = _
      rw [if_neg (nI_nm (by omega)), h_bc (by omega), ob2_s, h_bc (by omega), ob2_s, h127]
      unfold f_X8_fewestWatchers_132
      rw [if_pos rfl, h158]
      by_cases e : popc s < popc b
      · rw [if_neg (nI_ge e p2)]
        by_cases e2 : cvB g x s nw nt = true
        · rw [if_pos e2]; simp only [if_pos (show popc s < popc b ∧ cvB g x s nw nt = true from ⟨e, e2⟩)]; rfl
        · rw [if_neg e2]; simp only [if_neg (show ¬ (popc s < popc b ∧ cvB g x s nw nt = true) from fun q => e2 q.2)]; rfl
      · rw [if_pos (nI_le (by omega) p1)]
        simp only [if_neg (show ¬ (popc s < popc b ∧ cvB g x s nw nt = true) from fun q => e q.1)]; rfl
theorem sg_le {C : Cr} {z : Nat → Nat} {t w seat : Nat} : sg C z t w seat ≤ 99 := n99_le _
abbrev gW (C : Cr) (z : Nat → Nat) : Nat → Nat → Nat := fun t w => sg C z t w (z (21 + w))
def w54 (c b : Nat) : Prop := scE c b ∨ b = 54
theorem w54_c {c b : Nat} (hc : c = 100 ∨ c = 150) (h : w54 c b) : ¬ crC c b := by unfold w54 scE at h; unfold crC; omega
theorem h_f41 {c a x w : Nat} {C : Cr} {z : Nat → Nat} (hC : okCr C) (hz : okZ C z) (hx : x < 2 ^ 30) (hw : w < cW C) (F : Int32 → Int32 → Int32 → Int32 → Hp → Option (Int32 × Hp)) : ∀ (d i K : Nat) (S : Hp), i + d = cT C → d < K → cH S c C → stH S a C z → S.1 54 w = nI (setNat (fun t => decide (x ≤ gW C z t w)) i) → ∃ S', f_X8_fewestWatchers_41 F a K (nI x) (nI (cW C)) (nI (cT C)) (nI w) (nI i) S = F (nI x) (nI (cW C)) (nI (cT C)) (nI (w + 1)) S' ∧ S'.1 54 w = nI (setNat (fun t => decide (x ≤ gW C z t w)) (cT C)) ∧ (∀ k, k ≠ w → S'.1 54 k = S.1 54 k) ∧ fH (w54 c) S S' := by
  have hnt := hC.1.2.1
  have hnw := hC.1.2.2
  intro d
  induction d with
  | zero =>
    intro i K S hi hK h hs h54
    obtain ⟨K, rfl⟩ : ∃ q, K = q + 1 := ⟨K - 1, by omega⟩
    refine ⟨S, by rw [f_X8_fewestWatchers_41, if_pos (nI_le (by omega) (by omega)), le1_e, nI_1], ?_, fun _ _ => rfl, fH_rf _ S⟩
    rw [← show i = cT C by omega]
    exact h54
  | succ d ih =>
    intro i K S hi hK h hs h54
    obtain ⟨K, rfl⟩ : ∃ q, K = q + 1 := ⟨K - 1, by omega⟩
    have hcc := cH_c h
    have ha := stH_a hs
    have hse := hz.2.2.2.2.2.2.1 w hw
    have hg := sg_le (C := C) (z := z) (t := i) (w := w) (seat := z (21 + w))
    obtain ⟨S1, r1, r2⟩ := h_gl (t := i) (w := w) hC hz h hs (by omega) hw hse
    have r2' : fH (w54 c) S S1 := fH_mo r2 (fun b q => Or.inl q)
    have e54 : S1.1 54 = S.1 54 := r2.1 54 (by unfold scE; omega)
    have h1 := cH_f h r2' (fun b q => w54_c hcc q)
    have s1 := stH_f hs r2' (fun b q => by unfold w54 scE at q; omega)
    rw [f_X8_fewestWatchers_41, if_neg (nI_ge (by omega) (by omega)), ldI_n (by omega) (by decide), hs.2.2.2 w hw, r1, ob2_s]
    unfold f_X8_fewestWatchers_82
    rw [le1_e, nI_1]
    by_cases e : sg C z i w (z (21 + w)) < x
    · rw [if_pos (nI_lt e (by omega))]
      obtain ⟨S2, q1, q2, q3, q4⟩ := ih (i + 1) K S1 (by omega) (by omega) h1 s1 (by rw [e54, h54, setNat_n (decide_eq_false (by show ¬ x ≤ sg C z i w (z (21 + w)); omega))])
      exact ⟨S2, q1, q2, fun k hk => by rw [q3 k hk, e54], fH_tr r2' q4⟩
    · rw [if_neg (nI_nlt (by omega) (by omega)), ldI_n (by omega) (by decide), e54, h54, setNat_s (P := fun t => decide (x ≤ gW C z t w)) (by omega) (decide_eq_true (by show x ≤ sg C z i w (z (21 + w)); omega)), stI_n (by omega) (by decide), le1_e]
      have f2 : fH (w54 c) S1 (ho_sI S1 54 w (nI (setNat (fun t => decide (x ≤ gW C z t w)) (i + 1)))) := fH_sI S1 (Or.inr rfl) (by decide)
      obtain ⟨S2, q1, q2, q3, q4⟩ := ih (i + 1) K _ (by omega) (by omega) (cH_f h1 f2 (fun b q => w54_c hcc q)) (stH_f s1 f2 (fun b q => by unfold w54 scE at q; omega)) sI_v
      exact ⟨S2, q1, q2, fun k hk => by rw [q3 k hk, sI_k hk, e54], fH_tr r2' (fH_tr f2 q4)⟩
theorem h_f24 {c a x : Nat} {C : Cr} {z : Nat → Nat} (hC : okCr C) (hz : okZ C z) (hx : x < 2 ^ 30) : ∀ (d w K : Nat) (S : Hp), w + d = cW C → d < K → cH S c C → stH S a C z → (∀ k, k < w → S.1 54 k = nI (setNat (fun t => decide (x ≤ gW C z t k)) (cT C))) → ∃ S', f_X8_fewestWatchers_24 a K (nI x) (nI (cW C)) (nI (cT C)) (nI w) S = some (oW (wS (gW C z) x (cW C) (cT C) (2 ^ cW C)), S') ∧ fH (w54 c) S S' := by
  have hnt := hC.1.2.1
  have hnw := hC.1.2.2
  have hp : 2 ^ cW C ≤ 2 ^ 5 := Nat.pow_le_pow_right (by decide) hnw
  intro d
  induction d with
  | zero =>
    intro w K S hi hK h hs h54
    obtain ⟨K, rfl⟩ : ∃ q, K = q + 1 := ⟨K - 1, by omega⟩
    have := h_f100 (a := a) (x := x) (g := gW C z) (nt := cT C) h.1.1 (cH_c h) h.2.1.2.2 hnw hnt (fun k hk => h54 k (by omega)) (2 ^ cW C) 0 5000 (by omega) (by omega)
    exact ⟨S, by rw [f_X8_fewestWatchers_24, if_pos (nI_le (by omega) (by omega))]; exact this, fH_rf _ S⟩
  | succ d ih =>
    intro w K S hi hK h hs h54
    obtain ⟨K, rfl⟩ : ∃ q, K = q + 1 := ⟨K - 1, by omega⟩
    have hcc := cH_c h
    have ha := stH_a hs
    have f1 : fH (w54 c) S (ho_sI S 54 w (0 : Int32)) := fH_sI S (Or.inr rfl) (by decide)
    have c1 := cH_f h f1 (fun b q => w54_c hcc q)
    have s1 := stH_f hs f1 (fun b q => by unfold w54 scE at q; omega)
    obtain ⟨S1, r1, r2, r3, r4⟩ := h_f41 (x := x) (w := w) hC hz hx (by omega) (f_X8_fewestWatchers_24 a K) (cT C) 0 5000 _ (by omega) (by omega) c1 s1 sI_v
    have c2 := cH_f c1 r4 (fun b q => w54_c hcc q)
    have s2 := stH_f s1 r4 (fun b q => by unfold w54 scE at q; omega)
    obtain ⟨S2, q1, q2⟩ := ih (w + 1) K S1 (by omega) (by omega) c2 s2 (fun k hk => by
      by_cases e : k = w
      · subst e; exact r2
      · rw [r3 k e, sI_k e]; exact h54 k (by omega))
    refine ⟨S2, ?_, fH_tr f1 (fH_tr r4 q2)⟩
    rw [f_X8_fewestWatchers_24, if_neg (nI_ge (by omega) (by omega)), stI_n (by omega) (by decide), show f_X8_fewestWatchers_41 (f_X8_fewestWatchers_24 a K) a 5000 (nI x) (nI (cW C)) (nI (cT C)) (nI w) (0 : Int32) (ho_sI S 54 w (0 : Int32)) = _ from r1]
    exact q1
/-- the reference -/
theorem m_dw16 {C : Cr} {z : Nat → Nat} {s x t : Nat} (hC : okCr C) (hz : okZ C z) (hx : x < 2 ^ 30) (hs5 : s < 64) (ht : t < cT C) (F : Int32 → Int32 → Int32 → Hp → Option (Int32 × Hp)) : ∀ (d i K : Nat) (S : Hp), i + d = cW C → d < K → mC S C → mZ S C z → ∃ S', f_X12_doWatch_16 F K (nI s) (nI x) (nI t) (if wB (gW C z) x s t i = true then 1 else 0) (nI i) S = (if wB (gW C z) x s t (cW C) = true then F (nI s) (nI x) (nI (t + 1)) S' else some (0, S')) ∧ fN eP S S' := by
  have hnt := hC.1.2.1
  have hnw := hC.1.2.2
  intro d
  induction d with
  | zero =>
    intro i K S hi hK h hs
    obtain ⟨K, rfl⟩ : ∃ q, K = q + 1 := ⟨K - 1, by omega⟩
    refine ⟨S, ?_, fN_rf _ S⟩
    rw [f_X12_doWatch_16, f_X12_watcherMany, ldI_L 5 (by decide) (by decide), h.1.2.2, ob2_s, if_pos (nI_le (by omega) (by omega)), le1_e, nI_1, show i = cW C by omega]
    by_cases e : wB (gW C z) x s t (cW C) = true
    · rw [if_pos e, if_neg ne1, if_pos e]
    · rw [if_neg e, if_pos rfl, if_neg e]
  | succ d ih =>
    intro i K S hi hK h hs
    obtain ⟨K, rfl⟩ : ∃ q, K = q + 1 := ⟨K - 1, by omega⟩
    have hse := hz.2.2.2.2.2.2.1 i (by omega)
    have hg := sg_le (C := C) (z := z) (t := t) (w := i) (seat := z (21 + i))
    have h57 : ∀ S, f_X12_doWatch_57 F (f_X12_doWatch_16 F K) (nI s) (nI x) (nI t) (nI i) S = f_X12_doWatch_16 F K (nI s) (nI x) (nI t) 1 (nI (i + 1)) S := fun S => by
      unfold f_X12_doWatch_57 f_X12_doWatch_62
      rw [le1_e, nI_1]
    have h61 : ∀ S, f_X12_doWatch_61 F (f_X12_doWatch_16 F K) (nI s) (nI x) (nI t) (nI i) S = f_X12_doWatch_16 F K (nI s) (nI x) (nI t) 0 (nI (i + 1)) S := fun S => by
      unfold f_X12_doWatch_61 f_X12_doWatch_62
      rw [le1_e, nI_1]
    rw [f_X12_doWatch_16, f_X12_watcherMany, ldI_L 5 (by decide) (by decide), h.1.2.2, ob2_s, if_neg (nI_ge (by omega) (by omega))]
    by_cases e : wB (gW C z) x s t i = true
    · obtain ⟨S', q1, q2⟩ := ih (i + 1) K S (by omega) (by omega) h hs
      rw [if_pos (show wB (gW C z) x s t (i + 1) = true by rw [wB, e, Bool.true_or])] at q1
      rw [if_pos e, if_neg ne1, h57]
      exact ⟨S', q1, q2⟩
    rw [if_neg e, if_pos rfl, bit_at s hs5 i (by omega)]
    by_cases e2 : s.testBit i = true
    rotate_left
    · obtain ⟨S', q1, q2⟩ := ih (i + 1) K S (by omega) (by omega) h hs
      rw [if_neg (show ¬ wB (gW C z) x s t (i + 1) = true by rw [wB, Bool.eq_false_iff.mpr e, Bool.eq_false_iff.mpr e2, Bool.false_and, Bool.or_false]; decide)] at q1
      rw [if_neg e2, if_neg (show ¬ (0 : Int32) = 1 by decide), h61]
      exact ⟨S', q1, q2⟩
    obtain ⟨S1, r1, r2⟩ := m_sg (t := t) (w := i) hC hz h hs ht (by omega) hse
    obtain ⟨S', q1, q2⟩ := ih (i + 1) K S1 (by omega) (by omega) (mC_f h r2 (fun b k q => by unfold eP at q; unfold crM; omega)) (mZ_f hs r2 (fun b k q => by unfold eP at q; omega))
    rw [if_pos e2, if_pos rfl, m_seat (by omega), ob2_s, hs.2 i (by omega), r1, ob2_s, h61, h57]
    refine ⟨S', ?_, fN_tr r2 q2⟩
    by_cases e3 : sg C z t i (z (21 + i)) < x
    · rw [if_pos (nI_lt e3 (by omega))]
      rw [if_neg (show ¬ wB (gW C z) x s t (i + 1) = true by rw [wB, Bool.eq_false_iff.mpr e, e2, Bool.true_and, Bool.false_or, decide_eq_false (show ¬ x ≤ gW C z t i from fun q => by have : x ≤ sg C z t i (z (21 + i)) := q; omega)]; decide)] at q1
      exact q1
    · rw [if_neg (nI_nlt (by omega) (by omega))]
      rw [if_pos (show wB (gW C z) x s t (i + 1) = true by rw [wB, e2, Bool.true_and, decide_eq_true (show x ≤ gW C z t i from by show x ≤ sg C z t i (z (21 + i)); omega), Bool.or_true])] at q1
      exact q1
theorem m_dw2 {C : Cr} {z : Nat → Nat} {s x : Nat} (hC : okCr C) (hz : okZ C z) (hx : x < 2 ^ 30) (hs5 : s < 64) : ∀ (d t K : Nat) (S : Hp), t + d = cT C → d < K → mC S C → mZ S C z → cvB (gW C z) x s (cW C) t = true → ∃ S', f_X12_doWatch_2 K (nI s) (nI x) (nI t) S = some (if cvB (gW C z) x s (cW C) (cT C) = true then 1 else 0, S') ∧ fN eP S S' := by
  have hnt := hC.1.2.1
  have hnw := hC.1.2.2
  intro d
  induction d with
  | zero =>
    intro t K S hi hK h hs hc
    obtain ⟨K, rfl⟩ : ∃ q, K = q + 1 := ⟨K - 1, by omega⟩
    have e : t = cT C := by omega
    rw [e] at hc
    exact ⟨S, by rw [f_X12_doWatch_2, f_X12_trickMany, ldI_L 4 (by decide) (by decide), h.1.2.1, ob2_s, if_pos (nI_le (by omega) (by omega)), if_pos hc], fN_rf _ S⟩
  | succ d ih =>
    intro t K S hi hK h hs hc
    obtain ⟨K, rfl⟩ : ∃ q, K = q + 1 := ⟨K - 1, by omega⟩
    obtain ⟨S1, r1, r2⟩ := m_dw16 (s := s) (x := x) (t := t) hC hz hx hs5 (by omega) (f_X12_doWatch_2 K) (cW C) 0 5000 S (by omega) (by omega) h hs
    rw [f_X12_doWatch_2, f_X12_trickMany, ldI_L 4 (by decide) (by decide), h.1.2.1, ob2_s, if_neg (nI_ge (by omega) (by omega)), show f_X12_doWatch_16 (f_X12_doWatch_2 K) 5000 (nI s) (nI x) (nI t) (0 : Int32) (0 : Int32) S = _ from r1]
    by_cases e : wB (gW C z) x s t (cW C) = true
    · obtain ⟨S2, q1, q2⟩ := ih (t + 1) K S1 (by omega) (by omega) (mC_f h r2 (fun b k q => by unfold eP at q; unfold crM; omega)) (mZ_f hs r2 (fun b k q => by unfold eP at q; omega)) (by rw [cvB, hc, e]; rfl)
      rw [if_pos e]
      exact ⟨S2, q1, fN_tr r2 q2⟩
    · rw [if_neg e, if_neg (show ¬ cvB (gW C z) x s (cW C) (cT C) = true from fun q => e ((cvB_i _).mp q t (by omega)))]
      exact ⟨S1, rfl, r2⟩
theorem m_w25 {C : Cr} {z : Nat → Nat} {x : Nat} (hC : okCr C) (hz : okZ C z) (hx : x < 2 ^ 30) : ∀ (d s K : Nat) (S : Hp), s + d = 2 ^ cW C → d < K → mC S C → mZ S C z → ∃ S', f_X12_watch_25 K (nI x) (oW (wS (gW C z) x (cW C) (cT C) s)) (nI s) S = some (oW (wS (gW C z) x (cW C) (cT C) (2 ^ cW C)), S') ∧ fN eP S S' := by
  have hnt := hC.1.2.1
  have hnw := hC.1.2.2
  have hp : 2 ^ cW C ≤ 2 ^ 5 := Nat.pow_le_pow_right (by decide) hnw
  intro d
  induction d with
  | zero =>
    intro s K S hi hK h hs
    obtain ⟨K, rfl⟩ : ∃ q, K = q + 1 := ⟨K - 1, by omega⟩
    exact ⟨S, by rw [f_X12_watch_25, f_X12_watcherMany, ldI_L 5 (by decide) (by decide), h.1.2.2, ob2_s, shl5 _ (by omega), if_pos (nI_le (by omega) (by omega)), show s = 2 ^ cW C by omega], fN_rf _ S⟩
  | succ d ih =>
    intro s K S hi hK h hs
    obtain ⟨K, rfl⟩ : ∃ q, K = q + 1 := ⟨K - 1, by omega⟩
    have h62 : ∀ o S, f_X12_watch_62 (f_X12_watch_25 K) (nI x) o (nI s) S = f_X12_watch_25 K (nI x) o (nI (s + 1)) S := fun o S => by
      unfold f_X12_watch_62
      rw [le1_e, nI_1]
    obtain ⟨S1, r1, r2⟩ := m_dw2 (s := s) (x := x) hC hz hx (by omega) (cT C) 0 5000 S (by omega) (by omega) h hs rfl
    obtain ⟨S2, q1, q2⟩ := ih (s + 1) K S1 (by omega) (by omega) (mC_f h r2 (fun b k q => by unfold eP at q; unfold crM; omega)) (mZ_f hs r2 (fun b k q => by unfold eP at q; omega))
    obtain ⟨S3, p1, p2⟩ := ih (s + 1) K S (by omega) (by omega) h hs
    have h51 : ∀ o, f_X12_watch_51 (f_X12_watch_25 K) (nI x) o (nI s) S = if cvB (gW C z) x s (cW C) (cT C) = true then f_X12_watch_25 K (nI x) (nI s) (nI (s + 1)) S1 else f_X12_watch_25 K (nI x) o (nI (s + 1)) S1 := fun o => by
      unfold f_X12_watch_51
      rw [show f_X12_doWatch (nI s) (nI x) S = _ from r1, ob2_s, h62, h62]
      by_cases e : cvB (gW C z) x s (cW C) (cT C) = true
      · rw [if_pos e, if_neg ne1, if_pos e]
      · rw [if_neg e, if_pos rfl, if_neg e]
    rw [f_X12_watch_25, f_X12_watcherMany, ldI_L 5 (by decide) (by decide), h.1.2.2, ob2_s, shl5 _ (by omega), if_neg (nI_ge (by omega) (by omega))]
    rw [wS] at q1 p1
    cases hq : wS (gW C z) x (cW C) (cT C) s with
    | none =>
      rw [hq] at q1
      refine ⟨S2, ?_, fN_tr r2 q2⟩
      show (if (-1 : Int32) = -1 then _ else _) = _
      rw [if_pos rfl, h51]
      by_cases e : cvB (gW C z) x s (cW C) (cT C) = true
      · rw [if_pos e]
        simp only [if_pos e] at q1
        exact q1
      · rw [if_neg e]
        simp only [if_neg e] at q1
        exact q1
    | some b =>
      rw [hq] at q1 p1
      have hb := wS_lt s b hq
      have p3 : popc s < 2 ^ 31 := Nat.lt_of_le_of_lt (List.countP_le_length) (by decide)
      have p4 : popc b < 2 ^ 31 := Nat.lt_of_le_of_lt (List.countP_le_length) (by decide)
      have hgo : (if oW (some b) = -1 then f_X12_watch_51 (f_X12_watch_25 K) (nI x) (oW (some b)) (nI s) S else ob2 (f_X12_bits (nI s) S) (fun r2 S2 => ob2 (f_X12_bits (oW (some b)) S2) (fun r3 S3 => if r3 ≤ r2 then f_X12_watch_62 (f_X12_watch_25 K) (nI x) (oW (some b)) (nI s) S3 else f_X12_watch_51 (f_X12_watch_25 K) (nI x) (oW (some b)) (nI s) S3))) = if nI (popc b) ≤ nI (popc s) then f_X12_watch_25 K (nI x) (nI b) (nI (s + 1)) S else if cvB (gW C z) x s (cW C) (cT C) = true then f_X12_watch_25 K (nI x) (nI s) (nI (s + 1)) S1 else f_X12_watch_25 K (nI x) (nI b) (nI (s + 1)) S1 := by
        show (if nI b = -1 then _ else ob2 (f_X12_bits (nI s) S) (fun r2 S2 => ob2 (f_X12_bits (nI b) S2) (fun r3 S3 => if r3 ≤ r2 then f_X12_watch_62 (f_X12_watch_25 K) (nI x) (nI b) (nI s) S3 else f_X12_watch_51 (f_X12_watch_25 K) (nI x) (nI b) (nI s) S3))) = _
        rw [if_neg (nI_nm (by omega)), m_bits (by omega), ob2_s, m_bits (by omega), ob2_s, h62, h51]
      rw [hgo]
      by_cases e : popc s < popc b
      · rw [if_neg (nI_ge e p4)]
        refine ⟨S2, ?_, fN_tr r2 q2⟩
        by_cases e2 : cvB (gW C z) x s (cW C) (cT C) = true
        · rw [if_pos e2]
          simp only [if_pos (show popc s < popc b ∧ cvB (gW C z) x s (cW C) (cT C) = true from ⟨e, e2⟩)] at q1
          exact q1
        · rw [if_neg e2]
          simp only [if_neg (show ¬ (popc s < popc b ∧ cvB (gW C z) x s (cW C) (cT C) = true) from fun q => e2 q.2)] at q1
          exact q1
      · rw [if_pos (nI_le (by omega) p3)]
        simp only [if_neg (show ¬ (popc s < popc b ∧ cvB (gW C z) x s (cW C) (cT C) = true) from fun q => e q.1)] at p1
        exact ⟨S3, p1, p2⟩
theorem s_20 : sim_20 Sim := by
  intro x SH SM h
  have h' := h
  obtain ⟨X, cr, c, C, N, P, z, kl, ok, a, b, d, e, f⟩ := h'
  have ok' := ok
  obtain ⟨⟨hC, hz⟩, ok1⟩ := ok'
  obtain ⟨c1, ⟨c2, c3, c4, c5⟩, ⟨c6, c7, c8⟩, c9, c10⟩ := a.2.2.2.1
  obtain ⟨m1, mc, mn⟩ := e.2.2.2.1
  have hnw := hC.1.2.2
  unfold f_X11_watch f_X12_watch
  cases cr with
  | false =>
    rw [if_pos (show SH.1 0 13 = 0 from c1), if_pos (show SM.1 0 52 = 0 from m1)]
    exact ⟨_, _, _, rfl, rfl, h⟩
  | true =>
    rw [if_pos rfl] at c1 m1
    rw [c1, if_neg ne1, m1, if_neg ne1, m_inL (n := 99) (by decide), ob2_s]
    rcases ix3 x (n := 100) (by decide) with hx | ⟨n, hn, rfl⟩
    · rw [if_neg (ix_in5 (n := 99) (by decide) hx), if_pos rfl]
      by_cases h0 : x < 0
      · rw [if_pos h0]
        exact ⟨_, _, _, rfl, rfl, h⟩
      · rw [if_neg h0, if_neg (fun q => absurd (Int32.le_trans (hx.resolve_left h0) q) (show ¬ nI 100 ≤ (99 : Int32) by decide))]
        exact ⟨_, _, _, rfl, rfl, h⟩
    · have hcc := cH_c (c9 rfl)
      have hp : 2 ^ cW C ≤ 2 ^ 5 := Nat.pow_le_pow_right (by decide) hnw
      obtain ⟨S1, r1, r2⟩ := h_f24 (x := n) (a := 1200) hC hz (by omega) (cW C) 0 5000 SH (by omega) (by omega) (c9 rfl) b.1 (fun k hk => absurd hk (Nat.not_lt_zero k))
      obtain ⟨M1, q1, q2⟩ := m_w25 (x := n) hC hz (by omega) (2 ^ cW C) 0 5000 SM (by omega) (by omega) mc f.1
      rw [if_neg (nI_pos (by omega)), if_pos (show nI n ≤ (99 : Int32) from nI_le (b := 99) (by omega) (by decide)), if_pos ((in5 (by decide)).mpr ⟨n, by omega, rfl⟩), if_neg ne1, show f_X12_watch_25 5000 (nI n) (-1 : Int32) (0 : Int32) SM = _ from q1]
      unfold f_X8_fewestWatchers
      rw [ldP_n c4 (crH c5), ldI_L 2 (by decide) (by decide), c8, ldP_n c4 (crH c5), ldI_L 1 (by decide) (by decide), c7, show f_X8_fewestWatchers_24 1200 5000 (nI n) (nI (cW C)) (nI (cT C)) (0 : Int32) SH = _ from r1, ob2_s]
      refine ⟨_, S1, M1, rfl, rfl, sim_s ok a b d e r2 (fun b q => ?_) q2 (fun b k q => ?_) (mN_f f q2 (fun b k q => ?_))⟩
      · unfold w54 scE at q; unfold scS scE; omega
      · unfold eP at q; unfold sM; omega
      · unfold eP at q; omega

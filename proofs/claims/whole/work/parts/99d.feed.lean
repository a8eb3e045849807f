/-! level 2: alike answers: letters of names; feed -/
theorem nvL_ge : ∀ (n : Nat) (w : List Nat), w.length = n + 1 → lts w → 27 ^ n ≤ nvL w := by
  intro n
  induction n with
  | zero =>
    intro w hw hl
    match w, hw, hl with
    | [x], _, hl =>
      have := hl x (by simp)
      show 1 ≤ 0 * 27 + (x - 96)
      omega
  | succ n ih =>
    intro w hw hl
    have hne : w ≠ [] := by
      intro e; subst e; simp at hw
    obtain ⟨v, x, rfl⟩ : ∃ v x, w = v ++ [x] := ⟨w.dropLast, w.getLast hne, (List.dropLast_concat_getLast hne).symm⟩
    have h1 := ih v (by simp at hw; omega) (fun y hy => hl y (by simp [hy]))
    rw [nvL_s, Nat.pow_succ]
    have : 27 ^ n * 27 ≤ nvL v * 27 := Nat.mul_le_mul_right _ h1
    omega
/-- a letter of a name, by its number in the name -/
def ltO (w : List Nat) (k : Nat) : Nat := if k < w.length then nvL w / 27 ^ (w.length - 1 - k) % 27 else 0
theorem enc_lt2 {w : List Nat} {k : Nat} (hl : w.length ≤ 6) (hk : k < 6) : enc w / 27 ^ (5 - k) % 27 = ltO w k := by
  unfold enc ltO
  by_cases e : k < w.length
  · rw [if_pos e, show 5 - k = (6 - w.length) + (w.length - 1 - k) by omega, Nat.pow_add, ← Nat.div_div_eq_div_mul, Nat.mul_div_cancel _ (Nat.pos_of_ne_zero (by simp))]
  · rw [if_neg e, show 6 - w.length = (k - w.length + 1) + (5 - k) by omega, Nat.pow_add, ← Nat.mul_assoc, Nat.mul_div_cancel _ (Nat.pos_of_ne_zero (by simp)), Nat.pow_succ, ← Nat.mul_assoc, Nat.mul_mod_left]
theorem h_let51 : ∀ (d j K V : Nat) (S : Hp), j + d = 6 → d < K → V < 2 ^ 31 → f_X11_letter_51 K (nI V) (nI j) S = some (nI (V / 27 ^ d % 27), S) := by
  intro d
  induction d with
  | zero =>
    intro j K V S hj hK hV
    obtain ⟨K, rfl⟩ : ∃ q, K = q + 1 := ⟨K - 1, by omega⟩
    rw [f_X11_letter_51, if_pos ((geL 6 (by omega) (by decide)).mpr (by omega)), lit_nI 27, pk_rem hV (by decide) (by decide), Nat.pow_zero, Nat.div_one]
  | succ d ih =>
    intro j K V S hj hK hV
    obtain ⟨K, rfl⟩ : ∃ q, K = q + 1 := ⟨K - 1, by omega⟩
    have hd : V / 27 < 2 ^ 31 := Nat.lt_of_le_of_lt (Nat.div_le_self _ _) hV
    rw [f_X11_letter_51, if_neg (fun q => absurd ((geL 6 (by omega) (by decide)).mp q) (by omega)), lit_nI 27, pk_div hV (by decide) (by decide), le1_e, le1_e, nI_1, ih (j + 1) K _ S (by omega) (by omega) hd, Nat.div_div_eq_div_mul, Nat.pow_succ, Nat.mul_comm 27]
theorem m_let104 : ∀ (d j K k V : Nat) (S : Hp), j = k + d → j < 100 → d < K → V < 2 ^ 31 → f_X12_letter_104 K (nI k) (lN V) (nI j) S = some (nI (V / 27 ^ d % 27), S) := by
  intro d
  induction d with
  | zero =>
    intro j K k V S hj h1 hK hV
    obtain ⟨K, rfl⟩ : ∃ q, K = q + 1 := ⟨K - 1, by omega⟩
    rw [f_X12_letter_104, if_pos (nI_le (by omega) (by omega)), show (27 : Int64) = lN 27 from rfl, pk_lRem (by omega) (by decide) (by decide), lN_i, Nat.pow_zero, Nat.div_one]
  | succ d ih =>
    intro j K k V S hj h1 hK hV
    obtain ⟨K, rfl⟩ : ∃ q, K = q + 1 := ⟨K - 1, by omega⟩
    have hd : V / 27 < 2 ^ 31 := Nat.lt_of_le_of_lt (Nat.div_le_self _ _) hV
    have ej : nI j + (-1 : Int32) = nI (k + d) := by rw [hj, ← Nat.add_assoc, pk_m1]
    rw [f_X12_letter_104, if_neg (nI_ge (by omega) (by omega)), show (27 : Int64) = lN 27 from rfl, pk_lDiv (by omega) (by decide) (by decide), le1_e, le1_e, ej, ih (k + d) K k _ S rfl (by omega) (by omega) hd, Nat.div_div_eq_div_mul, Nat.pow_succ, Nat.mul_comm 27]
theorem m_let69 {w : List Nat} {k : Nat} (hw : nmO w) (hk : k < 6) : ∀ (d i K : Nat) (S : Hp), i + d = w.length → d < K → f_X12_letter_69 K (nI k) (lN (nvL w)) (nI i) (lN (nvL w / 27 ^ i)) S = some (nI (ltO w k), S) := by
  have hv := nvL_6 hw.1 hw.2.2
  have hup := nvL_lt w.length w rfl hw.1
  have hlo := nvL_ge (w.length - 1) w (by have := hw.2.1; omega) hw.1
  intro d
  induction d with
  | zero =>
    intro i K S hi hK
    obtain ⟨K, rfl⟩ : ∃ q, K = q + 1 := ⟨K - 1, by omega⟩
    have e0 : nvL w / 27 ^ i = 0 := by rw [show i = w.length by omega]; exact Nat.div_eq_of_lt hup
    have l6 := hw.2.2
    rw [f_X12_letter_69, e0, show (0 : Int64) = lN 0 from rfl, if_pos ((lg_cmp_le _ _).mpr ((pk_lLE (by decide) (by decide)).mpr (Nat.le_refl 0)))]
    unfold ltO
    by_cases e : k < w.length
    · rw [if_pos (nI_lt (by omega) (by omega)), le1_e, lit_nI 1, pk_sub (by omega), m_let104 (w.length - 1 - k) (i - 1) 5000 k _ S (by omega) (by omega) (by omega) (by omega), if_pos e]
    · rw [if_neg (nI_nlt (by omega) (by omega)), if_neg e]
      rfl
  | succ d ih =>
    intro i K S hi hK
    obtain ⟨K, rfl⟩ : ∃ q, K = q + 1 := ⟨K - 1, by omega⟩
    have hp : 0 < nvL w / 27 ^ i := by
      refine Nat.div_pos ?_ (Nat.pos_of_ne_zero (by simp))
      exact Nat.le_trans (Nat.pow_le_pow_right (by decide) (by omega)) hlo
    have hle : nvL w / 27 ^ i ≤ nvL w := Nat.div_le_self _ _
    rw [f_X12_letter_69, show (0 : Int64) = lN 0 from rfl, if_neg (fun q => by have := (pk_lLE (by omega) (by decide)).mp ((lg_cmp_le _ _).mp q); omega), le1_e, nI_1, show (27 : Int64) = lN 27 from rfl, pk_lDiv (by omega) (by decide) (by decide), le1_e, Nat.div_div_eq_div_mul, ← Nat.pow_succ]
    exact ih (i + 1) K S (by omega) (by omega)
theorem ix_in5 {y : Int32} {n : Nat} (hn : n < 2 ^ 29) (hy : y < 0 ∨ nI (n + 1) ≤ y) : ¬ ((0 : Int32) ≤ y ∧ y ≤ nI n) := fun q => by
  obtain ⟨j, hj, rfl⟩ := (in5 (by omega)).mp q
  rcases hy with hy | hy
  · exact nI_pos (by omega) hy
  · exact nI_ge (show j < n + 1 by omega) (by omega) hy
theorem s_5 : sim_5 Sim := by
  intro x y u SH SM h
  have h' := h
  obtain ⟨X, cr, c, C, N, P, z, kl, ok, a, b, d, e, f⟩ := h'
  obtain ⟨⟨hC, hz⟩, ok2⟩ := ok
  obtain ⟨c1, ⟨c2, c3, c4, c5⟩, ⟨c6, c7, c8⟩, c9, c10⟩ := a.2.2.2.1
  have hp := crH c5
  have mc := e.2.2.2.1.2.1
  have mn := e.2.2.2.1.2.2
  unfold f_X11_letter f_X12_letter
  rw [m_inL (n := 2) (by decide), ob2_s]
  rcases ix3 x (n := 3) (by decide) with hx | ⟨k, hk, rfl⟩
  · rw [if_neg (ix_in5 (n := 2) (by decide) hx), if_pos rfl]
    by_cases h0 : x < 0
    · rw [if_pos h0]; exact ⟨_, SH, SM, rfl, rfl, h⟩
    · rw [if_neg h0, if_pos (show (3 : Int32) ≤ x from hx.resolve_left h0)]; exact ⟨_, SH, SM, rfl, rfl, h⟩
  · have h6 := cnt_in (k := k) (np := cP C) (nt := cT C) (nw := cW C) ⟨hC.1.1, hC.1.2.1, hC.1.2.2⟩
    have hcn : SH.1 (c + 1) k = nI (cnt (cP C) (cT C) (cW C) k) := by
      have : k = 0 ∨ k = 1 ∨ k = 2 := by omega
      rcases this with rfl | rfl | rfl
      · exact c6
      · exact c7
      · exact c8
    have hmn : SM.1 41 (3 + k) = nI (cnt (cP C) (cT C) (cW C) k) := by
      have : k = 0 ∨ k = 1 ∨ k = 2 := by omega
      rcases this with rfl | rfl | rfl
      · exact mc.1.1
      · exact mc.1.2.1
      · exact mc.1.2.2
    generalize hn : cnt (cP C) (cT C) (cW C) k = n at *
    rw [if_pos ((in5 (by decide)).mpr ⟨k, by omega, rfl⟩), if_neg ne1, if_neg (nI_pos (by omega)), if_neg (fun q => absurd ((geL 3 (by omega) (by decide)).mp q) (by omega)), ldP_n c2 hp, lit_nI 3, nI_add, ldI_n (by omega) (by decide), hmn, i64_lit0, m_isInI, ob2_s]
    rcases ix3 y (n := n) (by omega) with hy | ⟨i, hi, rfl⟩
    · rw [h_hN hk hcn h6 hy, ob2_s, if_pos rfl, if_neg (show ¬ ((0 : Int32) ≤ y ∧ y ≤ nI n - 1) from ix_o (by omega) hy), if_pos rfl]
      exact ⟨_, SH, SM, rfl, rfl, h⟩
    · rw [h_hY hk hcn h6 hi, ob2_s, if_neg ne1, if_pos (show (0 : Int32) ≤ nI i ∧ nI i ≤ nI n - 1 from (ix_iff (by omega)).mpr ⟨i, hi, rfl⟩), if_neg ne1, ← i64_lit0, m_inL (n := 5) (by decide), ob2_s]
      rcases ix3 u (n := 6) (by decide) with hu | ⟨j, hj, rfl⟩
      · rw [if_neg (ix_in5 (n := 5) (by decide) hu), if_pos rfl]
        by_cases h0 : u < 0
        · rw [if_pos h0]; exact ⟨_, SH, SM, rfl, rfl, h⟩
        · rw [if_neg h0, if_neg (show ¬ u < (6 : Int32) from Int32.not_lt.mpr (hu.resolve_left h0))]; exact ⟨_, SH, SM, rfl, rfl, h⟩
      · have hw := ok2.2.2.2.2.1 k hk i (by rw [hn]; exact hi)
        obtain ⟨y1, y2⟩ := nmH c5 hk
        have hb := enc_b hw.1 hw.2.2
        rw [if_neg (nI_pos (by omega)), if_pos (show nI j < (6 : Int32) from (ltL 6 (by omega) (by decide)).mpr hj), ldP_n c2 hp, ldR_n hk (by decide) y1 y2, ldI_n (by omega) (by decide), c10 k hk i (by rw [hn]; exact hi), le1_e, nI_1, h_let51 (5 - j) (j + 1) 5000 _ SH (by omega) (by omega) (by omega), if_pos ((in5 (by decide)).mpr ⟨j, by omega, rfl⟩), if_neg ne1, lit_nI 18, lit_nI 6, pk_mul, nI_add, nI_add, ldJ_n (by omega) (by decide), show 18 + 6 * k + i = 18 + (6 * k + i) by omega, mn k hk i (by rw [hn]; exact hi)]
        have hm := m_let69 (k := j) hw hj (N k i).length 0 5000 SM (by omega) (by have := hw.2.2; omega)
        rw [Nat.pow_zero, Nat.div_one] at hm
        rw [show f_X12_letter_69 5000 (nI j) (lN (nvL (N k i))) (0 : Int32) (lN (nvL (N k i))) SM = _ from hm, enc_lt2 hw.2.2 hj]
        exact ⟨_, SH, SM, rfl, rfl, h⟩
/-- a byte of four -/
def bt (x : Int32) (s : Nat) : Nat := (x >>> (nI s &&& 31)).toBitVec.toNat % 256
theorem bt_lt (x : Int32) (s : Nat) : bt x s < 256 := Nat.mod_lt _ (by decide)
theorem bt_and (x : Int32) (s : Nat) : (x >>> (nI s &&& 31)) &&& (255 : Int32) = nI (bt x s) := pk_and _ 8 (by decide)
theorem sb_and (y : Int32) : (nI (y.toBitVec.toNat % 256)).toInt8 = y.toInt8 := by
  apply Int8.toBitVec_inj.mp
  rw [Int32.toBitVec_toInt8, Int32.toBitVec_toInt8, BitVec.signExtend_eq_setWidth_of_le _ (by decide), BitVec.signExtend_eq_setWidth_of_le _ (by decide)]
  apply BitVec.eq_of_toNat_eq
  rw [BitVec.toNat_setWidth, BitVec.toNat_setWidth]
  show (BitVec.ofNat 32 _).toNat % _ = _
  rw [BitVec.toNat_ofNat]
  omega
theorem bt_sb (x : Int32) (s : Nat) : vp_nar .byte ((x >>> (nI s &&& 31)).toInt8.toInt32) = sb (bt x s) := by
  rw [pk_vb]
  unfold sb bt
  rw [sb_and]
def shf (j : Nat) : Int32 := if j = 4 then -8 else nI (24 - 8 * j)
theorem shf_s : ∀ j, j < 4 → shf j + (-8 : Int32) = shf (j + 1) ∧ ¬ shf j < 0 ∧ shf j = nI (24 - 8 * j) := by decide
theorem h_app {x : Int32} {L : Nat} (hL : L + 4 ≤ 1600) : ∀ (d j K : Nat) (S : Hp), j + d = 4 → d < K → S.1 10 1 = nI (L + j) → ∃ S', f_X10_append_3 K x (shf j) S = some S' ∧ S'.1 10 1 = nI (L + 4) ∧ (∀ i, j ≤ i → i < 4 → S'.1 11 (L + i) = sb (bt x (24 - 8 * i))) ∧ fM (fun b k => (b = 10 ∧ k = 1) ∨ (b = 11 ∧ L + j ≤ k)) S S' := by
  intro d
  induction d with
  | zero =>
    intro j K S hj hK h1
    obtain ⟨K, rfl⟩ : ∃ q, K = q + 1 := ⟨K - 1, by omega⟩
    have e : j = 4 := by omega
    subst e
    exact ⟨S, by rw [f_X10_append_3, if_pos (show shf 4 < 0 by decide)], h1, fun i h2 h3 => absurd h3 (by omega), fM_rf _ S⟩
  | succ d ih =>
    intro j K S hj hK h1
    obtain ⟨K, rfl⟩ : ∃ q, K = q + 1 := ⟨K - 1, by omega⟩
    obtain ⟨s1, s2, s3⟩ := shf_s j (by omega)
    obtain ⟨S', a1, a2, a3, a4⟩ := ih (j + 1) K (ho_sI (ho_sI S 11 (L + j) (sb (bt x (24 - 8 * j)))) 10 1 (nI (L + j + 1))) (by omega) (by omega) sI_v
    refine ⟨S', ?_, a2, fun i h2 h3 => ?_, fM_tr (fM_tr (fM_sI S (by omega)) (fM_sI _ (by omega))) (fM_mo a4 (fun b k q => by omega))⟩
    · rw [f_X10_append_3, if_neg s2, h1, if_neg (fun q => absurd ((geL 1600 (by omega) (by decide)).mp q) (by omega)), stI_n (by omega) (by decide), le1_e, sI_ne _ (by decide), h1, nI_1]
      unfold f_X10_append_40
      rw [le1_e, s1, s3, bt_sb]
      exact a1
    · by_cases e : i = j
      · subst e
        rw [a4.1 _ _ (by first | decide | (dsimp only; omega) | omega), sI_ne _ (by decide), sI_v]
      · exact a3 i (by omega) h3
theorem h_app1 {S : Hp} {x : Int32} {L : Nat} (hL : L + 4 ≤ 1600) (h1 : S.1 10 1 = nI L) : ∃ S', f_X10_append x S = some S' ∧ S'.1 10 1 = nI (L + 4) ∧ (∀ i, i < 4 → S'.1 11 (L + i) = sb (bt x (24 - 8 * i))) ∧ fM (fun b k => (b = 10 ∧ k = 1) ∨ (b = 11 ∧ L ≤ k)) S S' := by
  obtain ⟨S', a, b, c, d⟩ := h_app (x := x) hL 4 0 5000 S (by decide) (by decide) h1
  exact ⟨S', a, b, fun i hi => c i (by omega) hi, d⟩
def sl (a b c d e : Int32) (k : Nat) : Int32 := if k < 4 then a else if k < 8 then b else if k < 12 then c else if k < 16 then d else e
theorem m_f28 {a b c d e : Int32} {L : Nat} (hL : L + 20 ≤ 1600) : ∀ (n i K : Nat) (S : Hp), i + n = 20 → n < K → S.1 0 1 = nI (L + i) → ∃ S', f_X12_feed_28 K a b c d e (nI i) S = some (nI (L + 20), S') ∧ S'.1 0 1 = nI (L + 20) ∧ (∀ j, i ≤ j → j < 20 → S'.1 1 (L + j) = nI (bt (sl a b c d e j) (24 - 8 * (j % 4)))) ∧ fM (fun b k => (b = 0 ∧ k = 1) ∨ (b = 1 ∧ L + i ≤ k)) S S' := by
  intro n
  induction n with
  | zero =>
    intro i K S hi hK h1
    obtain ⟨K, rfl⟩ : ∃ q, K = q + 1 := ⟨K - 1, by omega⟩
    have e : i = 20 := by omega
    subst e
    exact ⟨S, by rw [f_X12_feed_28, if_pos (by decide), h1], h1, fun j h2 h3 => absurd h3 (by omega), fM_rf _ S⟩
  | succ n ih =>
    intro i K S hi hK h1
    obtain ⟨K, rfl⟩ : ∃ q, K = q + 1 := ⟨K - 1, by omega⟩
    obtain ⟨S', a1, a2, a3, a4⟩ := ih (i + 1) K (ho_sI (ho_sI S 1 (L + i) (nI (bt (sl a b c d e i) (24 - 8 * (i % 4))))) 0 1 (nI (L + i + 1))) (by omega) (by omega) sI_v
    refine ⟨S', ?_, a2, fun j h2 h3 => ?_, fM_tr (fM_tr (fM_sI S (by omega)) (fM_sI _ (by omega))) (fM_mo a4 (fun b k q => by omega))⟩
    · have h81 : ∀ z, z = sl a b c d e i → f_X12_feed_81 (f_X12_feed_28 K) a b c d e (nI i) z S = some (nI (L + 20), S') := by
        intro z hz
        unfold f_X12_feed_81
        rw [h1, stI_n (by omega) (by decide), le1_e, sI_ne _ (by decide), h1, nI_1, le1_e, nI_1, lit_nI 4, pk_rem (by omega) (by decide) (by decide), lit_nI 3, pk_sub (by omega), lit_nI 8, pk_mul, show 8 * (3 - i % 4) = 24 - 8 * (i % 4) by omega, bt_and, hz]
        exact a1
      have g : ∀ k : Nat, k < 100 → (nI k ≤ nI i ↔ k ≤ i) := fun k hk => nI_leI (by omega) (by omega)
      rw [f_X12_feed_28, if_neg (show ¬ (20 : Int32) ≤ nI i from fun q => absurd ((g 20 (by decide)).mp q) (by omega))]
      by_cases e1 : 4 ≤ i
      · rw [if_pos (show (4 : Int32) ≤ nI i from (g 4 (by decide)).mpr e1)]
        by_cases e2 : 8 ≤ i
        · rw [if_pos (show (8 : Int32) ≤ nI i from (g 8 (by decide)).mpr e2)]
          by_cases e3 : 12 ≤ i
          · rw [if_pos (show (12 : Int32) ≤ nI i from (g 12 (by decide)).mpr e3)]
            by_cases e4 : 16 ≤ i
            · rw [if_pos (show (16 : Int32) ≤ nI i from (g 16 (by decide)).mpr e4)]
              exact h81 _ (by unfold sl; rw [if_neg (by omega), if_neg (by omega), if_neg (by omega), if_neg (by omega)])
            · rw [if_neg (show ¬ (16 : Int32) ≤ nI i from fun q => e4 ((g 16 (by decide)).mp q))]
              exact h81 _ (by unfold sl; rw [if_neg (by omega), if_neg (by omega), if_neg (by omega), if_pos (by omega)])
          · rw [if_neg (show ¬ (12 : Int32) ≤ nI i from fun q => e3 ((g 12 (by decide)).mp q))]
            exact h81 _ (by unfold sl; rw [if_neg (by omega), if_neg (by omega), if_pos (by omega)])
        · rw [if_neg (show ¬ (8 : Int32) ≤ nI i from fun q => e2 ((g 8 (by decide)).mp q))]
          exact h81 _ (by unfold sl; rw [if_neg (by omega), if_pos (by omega)])
      · rw [if_neg (show ¬ (4 : Int32) ≤ nI i from fun q => e1 ((g 4 (by decide)).mp q))]
        exact h81 _ (by unfold sl; rw [if_pos (by omega)])
    · by_cases e : j = i
      · subst e
        rw [a4.1 _ _ (by first | decide | (dsimp only; omega) | omega), sI_ne _ (by decide), sI_v]
      · exact a3 j (by omega) h3
theorem s_0 : sim_0 Sim := by
  intro x1 x2 x3 x4 x5 SH SM h
  have h' := h
  obtain ⟨X, cr, c, C, N, P, z, kl, ok, a, b, d, e, f⟩ := h'
  have hT := a.1.1
  unfold f_X11_feed f_X12_feed
  rw [a.1.2.1, e.1.1.2.1, lit_nI 20, nI_add]
  by_cases hL : (xT X).2 + 20 ≤ 1600
  · rw [if_pos ((leL 1600 (by omega) (by decide)).mpr hL), if_pos ((leL 1600 (by omega) (by decide)).mpr hL)]
    obtain ⟨S1, a1, a2, a3, a4⟩ := h_app1 (x := x1) (L := (xT X).2) (by omega) a.1.2.1
    obtain ⟨S2, b1, b2, b3, b4⟩ := h_app1 (x := x2) (L := (xT X).2 + 4) (by omega) a2
    obtain ⟨S3, c1, c2, c3, c4⟩ := h_app1 (x := x3) (L := (xT X).2 + 4 + 4) (by omega) b2
    obtain ⟨S4, d1, d2, d3, d4⟩ := h_app1 (x := x4) (L := (xT X).2 + 4 + 4 + 4) (by omega) c2
    obtain ⟨S5, e1, e2, e3, e4⟩ := h_app1 (x := x5) (L := (xT X).2 + 4 + 4 + 4 + 4) (by omega) d2
    obtain ⟨S6, f1, f2, f3, f4⟩ := m_f28 (a := x1) (b := x2) (c := x3) (d := x4) (e := x5) (L := (xT X).2) hL 20 0 5000 SM (by decide) (by decide) (by rw [e.1.1.2.1]; rfl)
    rw [a1, ob_s, b1, ob_s, c1, ob_s, d1, ob_s, e1, ob_s, e2, show f_X12_feed_28 5000 x1 x2 x3 x4 x5 (0 : Int32) SM = _ from f1]
    have fA : fM (fun b k => (b = 10 ∧ k = 1) ∨ (b = 11 ∧ (xT X).2 ≤ k)) SH S5 := fM_tr a4 (fM_tr (fM_mo b4 (fun b k q => by omega)) (fM_tr (fM_mo c4 (fun b k q => by omega)) (fM_tr (fM_mo d4 (fun b k q => by omega)) (fM_mo e4 (fun b k q => by omega)))))
    have hB : ∀ j, j < 20 → S5.1 11 ((xT X).2 + j) = sb (bt (sl x1 x2 x3 x4 x5 j) (24 - 8 * (j % 4))) := by
      intro j hj
      unfold sl
      by_cases q1 : j < 4
      · rw [if_pos q1, e4.1 _ _ (by first | decide | (dsimp only; omega) | omega), d4.1 _ _ (by first | decide | (dsimp only; omega) | omega), c4.1 _ _ (by first | decide | (dsimp only; omega) | omega), b4.1 _ _ (by first | decide | (dsimp only; omega) | omega), a3 j q1, show j % 4 = j by omega]
      rw [if_neg q1]
      by_cases q2 : j < 8
      · rw [if_pos q2, e4.1 _ _ (by first | decide | (dsimp only; omega) | omega), d4.1 _ _ (by first | decide | (dsimp only; omega) | omega), c4.1 _ _ (by first | decide | (dsimp only; omega) | omega), show (xT X).2 + j = (xT X).2 + 4 + (j - 4) by omega, b3 (j - 4) (by omega), show j % 4 = j - 4 by omega]
      rw [if_neg q2]
      by_cases q3 : j < 12
      · rw [if_pos q3, e4.1 _ _ (by first | decide | (dsimp only; omega) | omega), d4.1 _ _ (by first | decide | (dsimp only; omega) | omega), show (xT X).2 + j = (xT X).2 + 4 + 4 + (j - 8) by omega, c3 (j - 8) (by omega), show j % 4 = j - 8 by omega]
      rw [if_neg q3]
      by_cases q4 : j < 16
      · rw [if_pos q4, e4.1 _ _ (by first | decide | (dsimp only; omega) | omega), show (xT X).2 + j = (xT X).2 + 4 + 4 + 4 + (j - 12) by omega, d3 (j - 12) (by omega), show j % 4 = j - 12 by omega]
      rw [if_neg q4, show (xT X).2 + j = (xT X).2 + 4 + 4 + 4 + 4 + (j - 16) by omega, e3 (j - 16) (by omega), show j % 4 = j - 16 by omega]
    have fB : fH (fun b => b = 10 ∨ b = 11) SH S5 := ⟨fun b hb => funext fun k => fA.1 b k (by first | decide | (dsimp only; omega) | omega), fA.2, fun q j hj => by rw [fA.1 53 j (by first | decide | (dsimp only; omega) | omega)]; exact q j hj⟩
    refine ⟨_, S5, S6, rfl, rfl, Xt X (fun i => if i < (xT X).2 then (xT X).1 i else bt (sl x1 x2 x3 x4 x5 (i - (xT X).2)) (24 - 8 * ((i - (xT X).2) % 4)), (xT X).2 + 20), cr, c, C, N, P, z, kl, ok, ?_, hN_f b fB (fun b q => by omega), h10_f d fB (fun b q => by omega), ?_, ⟨⟨fun k hk => by rw [f4.1 55 k (by first | decide | (dsimp only; omega) | omega)]; exact f.1.1 k hk, fun k hk => by rw [f4.1 55 _ (by first | decide | (dsimp only; omega) | omega)]; exact f.1.2 k hk⟩, ⟨f.2.1.1, by rw [f4.1 55 26 (by first | decide | (dsimp only; omega) | omega)]; exact f.2.1.2.1, fun j hj => by rw [f4.1 55 _ (by first | decide | (dsimp only; omega) | omega)]; exact f.2.1.2.2 j hj⟩, by rw [f4.1 0 62 (by first | decide | (dsimp only; omega) | omega)]; exact f.2.2⟩⟩
    · have hcc := a.2.2.2.1.2.1.2.2.2
      have g : ∀ b, b ≠ 10 → b ≠ 11 → S5.1 b = SH.1 b := fun b h1 h2 => fB.1 b (by first | decide | (dsimp only; omega) | omega)
      have a' := a
      obtain ⟨⟨t1, t2, t3, t4⟩, fl, r, -, -, w, i, s, -, -⟩ := a'
      refine hA_x a fB (fun b q => by unfold crC at q; omega) (fun k hk => by rw [g 0 (by decide) (by decide)]) ⟨hL, by rw [e2]; rfl, fun i hi => ?_, by rw [g 12 (by decide) (by decide)]; exact t4⟩ ⟨by rw [fA.1 10 2 (by first | decide | (dsimp only; omega) | omega)]; exact fl.1, by rw [fA.1 10 3 (by first | decide | (dsimp only; omega) | omega)]; exact fl.2⟩ (by rw [g 1 (by decide) (by decide)]; exact r) ⟨by rw [g 70 (by decide) (by decide)]; exact w.1, by rw [g 71 (by decide) (by decide), g 72 (by decide) (by decide)]; exact w.2⟩ ⟨by rw [g 90 (by decide) (by decide)]; exact i.1, by rw [g 91 (by decide) (by decide)]; exact i.2⟩ (by rw [g 0 (by decide) (by decide)]; exact s)
      show S5.1 11 i = sb (if i < (xT X).2 then (xT X).1 i else bt (sl x1 x2 x3 x4 x5 (i - (xT X).2)) (24 - 8 * ((i - (xT X).2) % 4))) ∧ (if i < (xT X).2 then (xT X).1 i else bt (sl x1 x2 x3 x4 x5 (i - (xT X).2)) (24 - 8 * ((i - (xT X).2) % 4))) < 256
      have hi' : i < (xT X).2 + 20 := hi
      by_cases q : i < (xT X).2
      · rw [if_pos q, fA.1 11 i (by first | decide | (dsimp only; omega) | omega)]; exact t3 i q
      · rw [if_neg q]
        have := hB (i - (xT X).2) (by omega)
        rw [show (xT X).2 + (i - (xT X).2) = i by omega] at this
        exact ⟨this, bt_lt _ _⟩
    · have e' := e
      obtain ⟨⟨⟨t1, t2, t3⟩, tw⟩, fl, r, -, -, w, i, s⟩ := e'
      have g : ∀ b k, b ≠ 0 → b ≠ 1 → S6.1 b k = SM.1 b k := fun b k h1 h2 => f4.1 b k (by first | decide | (dsimp only; omega) | omega)
      refine mA_x e (fun b k q => f4.1 b k (by unfold crM at q; dsimp only; omega)) (fun k => by rw [f4.2]) ⟨⟨hL, f2, fun i hi => ?_⟩, mWs_hi tw (fun b k q => g b k (by omega) (by omega))⟩ ⟨by rw [f4.1 0 7 (by first | decide | (dsimp only; omega) | omega)]; exact fl.1, by rw [f4.1 0 8 (by first | decide | (dsimp only; omega) | omega)]; exact fl.2⟩ (fun k hk => by rw [g 10 k (by decide) (by decide)]; exact r k hk) ⟨by rw [f4.1 0 66 (by first | decide | (dsimp only; omega) | omega)]; exact w.1, fun i hi => by rw [g 68 _ (by decide) (by decide), g 68 _ (by decide) (by decide), g 68 _ (by decide) (by decide)]; exact w.2 i hi⟩ ⟨by rw [f4.1 0 110 (by first | decide | (dsimp only; omega) | omega)]; exact i.1, fun j hj => by rw [g 110 _ (by decide) (by decide)]; exact i.2 j hj⟩ (by rw [f4.2]; exact s)
      show S6.1 1 i = nI (if i < (xT X).2 then (xT X).1 i else bt (sl x1 x2 x3 x4 x5 (i - (xT X).2)) (24 - 8 * ((i - (xT X).2) % 4))) ∧ (if i < (xT X).2 then (xT X).1 i else bt (sl x1 x2 x3 x4 x5 (i - (xT X).2)) (24 - 8 * ((i - (xT X).2) % 4))) < 256
      have hi' : i < (xT X).2 + 20 := hi
      by_cases q : i < (xT X).2
      · rw [if_pos q, f4.1 1 i (by first | decide | (dsimp only; omega) | omega)]; exact t3 i q
      · rw [if_neg q]
        have := f3 (i - (xT X).2) (by omega) (by omega)
        rw [show (xT X).2 + (i - (xT X).2) = i by omega] at this
        exact ⟨this, bt_lt _ _⟩
  · rw [if_neg (fun q => hL ((leL 1600 (by omega) (by decide)).mp q)), if_neg (fun q => hL ((leL 1600 (by omega) (by decide)).mp q)), show f_X11_refuse (0 : Int32) SH = _ from h_refuse (j := 0) (by decide), ob2_s, ldI_L 0 (by decide) (by decide), stI_L 0 (by decide) (by decide)]
    exact ⟨_, _, _, rfl, rfl, sim_ref (by decide) h⟩

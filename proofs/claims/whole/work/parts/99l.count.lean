/-! level 2: alike answers: what is counted -/
theorem orN (a b : Nat) : nI a ||| nI b = nI (a ||| b) := by
  apply Int32.toBitVec_inj.mp
  apply BitVec.eq_of_toNat_eq
  rw [Int32.toBitVec_or, BitVec.toNat_or]
  show (BitVec.ofNat 32 a).toNat ||| (BitVec.ofNat 32 b).toNat = (BitVec.ofNat 32 (a ||| b)).toNat
  rw [BitVec.toNat_ofNat, BitVec.toNat_ofNat, BitVec.toNat_ofNat, Nat.or_mod_two_pow]
theorem sh8 : ∀ a, a < 256 → nI a <<< ((8 : Int32) &&& 31) = nI (a <<< 8) := by decide +kernel
theorem hi_lo {a b : Nat} (ha : a < 256) (hb : b < 256) : (nI a <<< ((8 : Int32) &&& 31)) ||| nI b = nI (256 * a + b) := by
  rw [sh8 a ha, orN, ← Nat.shiftLeft_add_eq_or_of_lt (i := 8) hb, Nat.shiftLeft_eq]
  congr 1
  omega
theorem h_byteAt {S : Hp} {T : Tp} {i : Nat} (t : tZ S T) (hi : i < T.2) : f_X10_byteAt (nI i) S = some (nI (T.1 i), S) := by
  have h6 := t.1
  unfold f_X10_byteAt
  rw [if_neg (nI_pos (by omega)), t.2.1, if_pos (nI_lt hi (by omega)), ldI_n (by omega) (by decide), (t.2.2.1 i hi).1, sb_255 _ (t.2.2.1 i hi).2]
def rwB (T : Tp) (p : Nat) (i : Nat) : Nat → Bool
  | 0 => true
  | d + 1 => decide (T.1 (3 * i) < p) && rwB T p (i + 1) d
theorem rwB_i {T : Tp} {p : Nat} : ∀ (d i : Nat), rwB T p i d = true → ∀ j, j < d → T.1 (3 * (i + j)) < p
  | 0, _, _, j, h => by omega
  | d + 1, i, h, j, hj => by
    rw [rwB, Bool.and_eq_true] at h
    cases j with
    | zero => exact of_decide_eq_true h.1
    | succ j =>
      have := rwB_i d (i + 1) h.2 j (by omega)
      rw [show i + (j + 1) = i + 1 + j by omega]
      exact this
def rwL (T : Tp) (n : Nat) : List (Nat × Nat) := (List.range n).map (fun i => (T.1 (3 * i), 256 * T.1 (3 * i + 1) + T.1 (3 * i + 2)))
theorem rwL_g {T : Tp} {n i : Nat} (h : i < (rwL T n).length) : (rwL T n)[i] = (T.1 (3 * i), 256 * T.1 (3 * i + 1) + T.1 (3 * i + 2)) := by
  unfold rwL at h ⊢
  rw [List.getElem_map, List.getElem_range]
theorem h_rf68 {n : Nat} {T : Tp} (hn : 3 * n = T.2) (h16 : n ≤ 16) : ∀ (d i K : Nat) (S : Hp), i + d = n → d < K → tZ S T → (∀ j, j < i → S.1 71 j = nI (T.1 (3 * j)) ∧ S.1 72 j = nI (256 * T.1 (3 * j + 1) + T.1 (3 * j + 2))) → ∃ S', f_X1_readFrom_68 K (nI n) (nI i) S = some (1, S') ∧ h7 S' (rwL T n) ∧ (∀ k, k ≠ 0 → S'.1 70 k = S.1 70 k) ∧ fH (fun b => b = 70 ∨ b = 71 ∨ b = 72) S S' := by
  intro d
  induction d with
  | zero =>
    intro i K S hi hK t h
    obtain ⟨K, rfl⟩ : ∃ q, K = q + 1 := ⟨K - 1, by omega⟩
    have e : i = n := by omega
    subst e
    refine ⟨ho_sI S 70 0 (nI i), by rw [f_X1_readFrom_68, if_pos (nI_le (Nat.le_refl _) (by omega)), le1_e], ⟨?_, fun j hj => ?_⟩, fun k hk => sI_k hk, fH_sI S (Or.inl rfl) (by decide)⟩
    · unfold rwL
      rw [sI_v, List.length_map, List.length_range]
    · unfold rwL at hj ⊢
      rw [List.length_map, List.length_range] at hj
      rw [List.getElem_map, List.getElem_range, sI_ne _ (by decide), sI_ne _ (by decide)]
      exact h j hj
  | succ d ih =>
    intro i K S hi hK t h
    obtain ⟨K, rfl⟩ : ∃ q, K = q + 1 := ⟨K - 1, by omega⟩
    obtain ⟨S1, hS1⟩ : ∃ S1, S1 = ho_sI S 71 i (nI (T.1 (3 * i))) := ⟨_, rfl⟩
    have f1 : fH (fun b => b = 71) S S1 := by rw [hS1]; exact fH_sI S rfl (by decide)
    obtain ⟨S2, hS2⟩ : ∃ S2, S2 = ho_sI S1 72 i (nI (256 * T.1 (3 * i + 1) + T.1 (3 * i + 2))) := ⟨_, rfl⟩
    have f2 : fH (fun b => b = 72) S1 S2 := by rw [hS2]; exact fH_sI S1 rfl (by decide)
    have tf : ∀ {Q : Nat → Prop} {S S' : Hp}, fH Q S S' → (∀ b, b = 10 ∨ b = 11 ∨ b = 12 → ¬ Q b) → tZ S T → tZ S' T := by
      intro Q S S' hf hq t
      exact ⟨t.1, by rw [hf.1 10 (hq 10 (by omega))]; exact t.2.1, by rw [hf.1 11 (hq 11 (by omega))]; exact t.2.2.1, by rw [hf.1 12 (hq 12 (by omega))]; exact t.2.2.2⟩
    have t1 := tf f1 (fun b q => by omega) t
    have t2 := tf f2 (fun b q => by omega) t1
    obtain ⟨S', r1, r2, r3, r4⟩ := ih (i + 1) K S2 (by omega) (by omega) t2 (fun j hj => by
      by_cases e : j = i
      · subst e
        exact ⟨by rw [f2.1 71 (by decide), hS1, sI_v], by rw [hS2, sI_v]⟩
      · rw [f2.1 71 (by decide), hS1, sI_k e, hS2, sI_k e, f1.1 72 (by decide)]
        exact h j (by omega))
    refine ⟨S', ?_, r2, fun k hk => by rw [r3 k hk, f2.1 70 (by decide), f1.1 70 (by decide)], fH_tr (fH_mo f1 (fun b q => by omega)) (fH_tr (fH_mo f2 (fun b q => by omega)) r4)⟩
    rw [f_X1_readFrom_68, if_neg (nI_ge (by omega) (by omega)), lit_nI 3, pk_mul, Nat.mul_comm i 3, h_byteAt t (by omega), ob2_s, stI_n (by omega) (by decide), ← hS1, nI_1, h_byteAt t1 (by omega), ob2_s, lit_nI 2, nI_add, h_byteAt t1 (by omega), ob2_s, hi_lo (t.2.2.1 _ (by omega)).2 (t.2.2.1 _ (by omega)).2, stI_n (by omega) (by decide), ← hS2, le1_e, nI_1]
    exact r1
theorem h_rf32 {n p : Nat} {T : Tp} {c : Nat} {S : Hp} (hn : 3 * n = T.2) (h16 : n ≤ 16) (t : tZ S T) (h5 : S.2.2 50 0 = c) (hc : c = 100 ∨ c = 150) (hp : S.1 (c + 1) 0 = nI p) (hp6 : p ≤ 6) : ∀ (d i K : Nat), i + d = n → d < K → f_X1_readFrom_32 K (nI n) (nI i) S = if rwB T p i d = true then f_X1_readFrom_68 5000 (nI n) (0 : Int32) S else some (0, S)
  | 0, i, K, hi, hK => by
    obtain ⟨K, rfl⟩ : ∃ q, K = q + 1 := ⟨K - 1, by omega⟩
    rw [f_X1_readFrom_32, if_pos (nI_le (by omega) (by omega)), rwB, if_pos rfl]
  | d + 1, i, K, hi, hK => by
    obtain ⟨K, rfl⟩ : ∃ q, K = q + 1 := ⟨K - 1, by omega⟩
    have ih := h_rf32 hn h16 t h5 hc hp hp6 d (i + 1) K (by omega) (by omega)
    have hb := (t.2.2.1 (3 * i) (by omega)).2
    rw [f_X1_readFrom_32, if_neg (nI_ge (by omega) (by omega)), ldP_n h5 (crH hc), lit_nI 3, pk_mul, Nat.mul_comm i 3, h_byteAt t (by omega), ob2_s, rwB]
    by_cases e : T.1 (3 * i) < p
    · rw [show f_X2_holds c (0 : Int32) (nI (T.1 (3 * i))) S = _ from h_hY (k := 0) (by decide) hp hp6 e, ob2_s, if_neg ne1, le1_e, nI_1, ih, decide_eq_true e, Bool.true_and]
    · rw [show f_X2_holds c (0 : Int32) (nI (T.1 (3 * i))) S = _ from h_hN (k := 0) (by decide) hp hp6 (Or.inr (nI_le (by omega) (by omega))), ob2_s, if_pos rfl, decide_eq_false e, Bool.false_and, if_neg (by decide)]
theorem m_c74 {n : Nat} {T : Tp} {S0 : Hp} (h48 : n ≤ 48) (hb : ∀ i, i < n → S0.1 1 i = nI (T.1 i)) : ∀ (d i K : Nat) (S : Hp), i + d = n → d < K → fN (fun b _ => b = 68) S0 S → (∀ j, j < i → S.1 68 j = nI (T.1 j)) → ∃ S', f_X12_count_74 K (nI n) (nI i) S = some (nI (n / 3), S') ∧ (∀ j, j < n → S'.1 68 j = nI (T.1 j)) ∧ S'.1 0 66 = nI (n / 3) ∧ fN (fun b k => b = 68 ∨ (b = 0 ∧ k = 66)) S0 S' := by
  intro d
  induction d with
  | zero =>
    intro i K S hi hK hf h
    obtain ⟨K, rfl⟩ : ∃ q, K = q + 1 := ⟨K - 1, by omega⟩
    have e : i = n := by omega
    subst e
    refine ⟨ho_sI S 0 66 (nI (i / 3)), ?_, fun j hj => by rw [sI_ne _ (by decide)]; exact h j hj, sI_v, fN_tr (fN_mo hf (fun b k q => Or.inl q)) (fN_sI S (Or.inr ⟨rfl, rfl⟩))⟩
    rw [f_X12_count_74, if_pos (nI_le (Nat.le_refl _) (by omega)), lit_nI 3, pk_div (by omega) (by decide) (by decide), le1_e, sI_v]
  | succ d ih =>
    intro i K S hi hK hf h
    obtain ⟨K, rfl⟩ : ∃ q, K = q + 1 := ⟨K - 1, by omega⟩
    obtain ⟨S', r1, r2, r3, r4⟩ := ih (i + 1) K (ho_sI S 68 i (nI (T.1 i))) (by omega) (by omega) (fN_tr hf (fN_sI S rfl)) (fun j hj => by
      by_cases e : j = i
      · subst e; rw [sI_v]
      · rw [sI_k e]; exact h j (by omega))
    refine ⟨S', ?_, r2, r3, r4⟩
    rw [f_X12_count_74, if_neg (nI_ge (by omega) (by omega)), ldI_n (by omega) (by decide), hf.1 1 i (by first | decide | (dsimp only; omega) | omega), hb i (by omega), stI_n (by omega) (by decide), le1_e, nI_1]
    exact r1
theorem m_c36 {n p L : Nat} {T : Tp} {S : Hp} (hn : 3 * n = L) (h16 : n ≤ 16) (hb : ∀ i, i < L → S.1 1 i = nI (T.1 i) ∧ T.1 i < 256) (hp : S.1 41 3 = nI p) (hp6 : p ≤ 6) : ∀ (d i K : Nat), i + d = n → d < K → f_X12_count_36 K (nI L) (1 : Int32) (nI (3 * i)) S = f_X12_count_62 (nI L) (if rwB T p i d = true then 1 else 0) S
  | 0, i, K, hi, hK => by
    obtain ⟨K, rfl⟩ : ∃ q, K = q + 1 := ⟨K - 1, by omega⟩
    rw [f_X12_count_36, if_pos (nI_le (by omega) (by omega)), rwB, if_pos rfl]
  | d + 1, i, K, hi, hK => by
    obtain ⟨K, rfl⟩ : ∃ q, K = q + 1 := ⟨K - 1, by omega⟩
    have ih := m_c36 hn h16 hb hp hp6 d (i + 1) K (by omega) (by omega)
    have hbi := hb (3 * i) (by omega)
    rw [f_X12_count_36, if_neg (nI_ge (by omega) (by omega)), if_neg ne1, ldI_n (by omega) (by decide), hbi.1, m_isP, ob2_s, hp, le1_e, lit_nI 3, nI_add, show 3 * i + 3 = 3 * (i + 1) by omega, rwB]
    by_cases e : T.1 (3 * i) < p
    · rw [if_pos (show (0 : Int32) ≤ nI (T.1 (3 * i)) ∧ nI (T.1 (3 * i)) ≤ nI p - 1 from (ix_iff (by omega)).mpr ⟨_, e, rfl⟩), ih, decide_eq_true e, Bool.true_and]
    · rw [if_neg (show ¬ ((0 : Int32) ≤ nI (T.1 (3 * i)) ∧ nI (T.1 (3 * i)) ≤ nI p - 1) from ix_o (by omega) (Or.inr (nI_le (by omega) (by omega)))), decide_eq_false e, Bool.false_and, if_neg (show ¬ (false = true) by decide)]
      obtain ⟨K, rfl⟩ : ∃ q, K = q + 1 := ⟨K - 1, by omega⟩
      rw [f_X12_count_36]
      split
      · rfl
      · rw [if_pos rfl]
theorem s_17 : sim_17 Sim := by
  intro SH SM h
  have h' := h
  obtain ⟨X, cr, c, C, N, P, z, kl, ok, a, b, d, e, f⟩ := h'
  have ok' := ok
  obtain ⟨⟨hC, hz⟩, ok1, ok2, ok3, ok4⟩ := ok'
  obtain ⟨c1, ⟨c2, c3, c4, c5⟩, ⟨c6, c7, c8⟩, c9, c10⟩ := a.2.2.2.1
  have hp6 := hC.1.1
  have mc := e.2.2.2.1.2.1
  have hT := a.1.1
  have s0 := sim_tape (n := 0) ok a b d e f (Nat.zero_le _)
  have hr := sim_ref (j := 1) (by decide) s0
  have rfl1 : f_X12_refuses (1 : Int32) (ho_sI SM 0 1 (nI 0)) = _ := m_ref (k := 1) (by decide)
  have rH : f_X11_refuse (1 : Int32) (ho_sI SH 10 1 (nI 0)) = _ := h_refuse (j := 1) (by decide)
  have m62 : f_X12_count_62 (nI (xT X).2) 0 (ho_sI SM 0 1 (nI 0)) = some (-1, ho_sI (ho_sI SM 0 1 (nI 0)) 10 1 ((ho_sI SM 0 1 (nI 0)).1 10 1 + 1)) := by
    unfold f_X12_count_62
    rw [if_pos rfl, rfl1, ob2_s]
  have m32 : f_X12_count_32 (nI (xT X).2) (ho_sI SM 0 1 (nI 0)) = some (-1, ho_sI (ho_sI SM 0 1 (nI 0)) 10 1 ((ho_sI SM 0 1 (nI 0)).1 10 1 + 1)) := by
    unfold f_X12_count_32 f_X12_count_33
    rw [← m62, f_X12_count_36]
    split
    · rfl
    · rw [if_pos rfl]
  have bad : f_X1_readFrom SH = some (0, SH) → f_X12_count SM = some (-1, ho_sI (ho_sI SM 0 1 (nI 0)) 10 1 ((ho_sI SM 0 1 (nI 0)).1 10 1 + 1)) → ∃ (r : Int32) (SH1 SM1 : Hp), f_X11_count SH = some (r, SH1) ∧ f_X12_count SM = some (r, SM1) ∧ Sim SH1 SM1 := by
    intro q1 q2
    unfold f_X11_count
    rw [q1, ob2_s, le1_e, if_pos rfl, show (ho_sI SH 10 1 (0 : Int32)) = ho_sI SH 10 1 (nI 0) from rfl, rH, ob2_s, q2]
    exact ⟨_, _, _, rfl, rfl, hr⟩
  have e1 : f_X1_readFrom SH = if (xT X).2 / 3 < 1 then some (0, SH) else if 16 < (xT X).2 / 3 then some (0, SH) else if 3 * ((xT X).2 / 3) = (xT X).2 then f_X1_readFrom_32 5000 (nI ((xT X).2 / 3)) (0 : Int32) SH else some (0, SH) := by
    unfold f_X1_readFrom
    rw [a.1.2.1, lit_nI 3, pk_div (by omega) (by decide) (by decide), le1_e, pk_mul, Nat.mul_comm _ 3]
    simp only [ltL 1 (show (xT X).2 / 3 < 2 ^ 31 by omega) (by decide), gtL 16 (show (xT X).2 / 3 < 2 ^ 31 by omega) (by decide), nI_eq (show 3 * ((xT X).2 / 3) < 2 ^ 31 by omega) (show (xT X).2 < 2 ^ 31 by omega)]
  have e2 : f_X12_count SM = if (xT X).2 ≤ 0 then f_X12_count_32 (nI (xT X).2) (ho_sI SM 0 1 (nI 0)) else if (xT X).2 % 3 = 0 then if 16 < (xT X).2 / 3 then f_X12_count_32 (nI (xT X).2) (ho_sI SM 0 1 (nI 0)) else f_X12_count_33 (nI (xT X).2) 1 (ho_sI SM 0 1 (nI 0)) else f_X12_count_32 (nI (xT X).2) (ho_sI SM 0 1 (nI 0)) := by
    unfold f_X12_count
    rw [e.1.1.2.1, le1_e, le1_e, lit_nI 3, pk_rem (by omega) (by decide) (by decide), pk_div (by omega) (by decide) (by decide)]
    simp only [show ∀ n, (nI n ≤ 0) = (nI n ≤ nI 0) from fun _ => rfl, show ∀ n, (nI n = 0) = (nI n = nI 0) from fun _ => rfl, gtL 16 (show (xT X).2 / 3 < 2 ^ 31 by omega) (by decide), nI_eq (show (xT X).2 % 3 < 2 ^ 31 by omega) (show 0 < 2 ^ 31 by decide)]
    by_cases q : (xT X).2 ≤ 0
    · rw [if_pos (nI_le q (by omega)), if_pos q]; rfl
    · rw [if_neg (nI_ge (by omega) (by omega)), if_neg q]; rfl
  by_cases q : 1 ≤ (xT X).2 / 3 ∧ (xT X).2 / 3 ≤ 16 ∧ 3 * ((xT X).2 / 3) = (xT X).2
  rotate_left
  · refine bad ?_ ?_
    · rw [e1]
      by_cases q1 : (xT X).2 / 3 < 1
      · rw [if_pos q1]
      rw [if_neg q1]
      by_cases q2 : 16 < (xT X).2 / 3
      · rw [if_pos q2]
      rw [if_neg q2, if_neg (by omega)]
    · rw [e2, m32]
      by_cases q1 : (xT X).2 ≤ 0
      · rw [if_pos q1]
      rw [if_neg q1]
      by_cases q2 : (xT X).2 % 3 = 0
      · rw [if_pos q2, if_pos (by omega)]
      · rw [if_neg q2]
  obtain ⟨q1, q2, q3⟩ := q
  generalize hn : (xT X).2 / 3 = n at *
  have h32 := h_rf32 (T := xT X) q3 q2 a.1 c4 c5 c6 hp6 n 0 5000 (by omega) (by omega)
  rw [show f_X1_readFrom_32 5000 (nI n) (nI 0) SH = f_X1_readFrom_32 5000 (nI n) (0 : Int32) SH from rfl] at h32
  rw [if_neg (by omega), if_neg (by omega), if_pos q3, h32] at e1
  have tb : ∀ i, i < (xT X).2 → (ho_sI SM 0 1 (nI 0)).1 1 i = nI ((xT X).1 i) ∧ (xT X).1 i < 256 := fun i hi => by rw [sI_ne _ (by decide)]; exact e.1.1.2.2 i hi
  have h36 := m_c36 (L := (xT X).2) (T := xT X) (p := cP C) (S := ho_sI SM 0 1 (nI 0)) q3 q2 tb (by rw [sI_ne _ (by decide)]; exact mc.1.1) hp6 n 0 5000 (by omega) (by omega)
  rw [if_neg (by omega), if_pos (by omega), if_neg (by omega), show f_X12_count_33 (nI (xT X).2) 1 (ho_sI SM 0 1 (nI 0)) = _ from h36] at e2
  by_cases hb : rwB (xT X) (cP C) 0 n = true
  rotate_left
  · rw [if_neg hb] at e1 e2
    exact bad e1 (e2.trans m62)
  rw [if_pos hb] at e1 e2
  obtain ⟨S1, r1, r2, r3, r4⟩ := h_rf68 (T := xT X) q3 q2 n 0 5000 SH (by omega) (by omega) a.1 (fun j hj => absurd hj (by omega))
  obtain ⟨M1, t1, t2, t3, t4⟩ := m_c74 (n := (xT X).2) (T := xT X) (S0 := ho_sI SM 0 1 (nI 0)) (by omega) (fun i hi => (tb i hi).1) (xT X).2 0 5000 (ho_sI SM 0 1 (nI 0)) (by omega) (by omega) (fN_rf _ _) (fun j hj => absurd hj (by omega))
  rw [show f_X1_readFrom_68 5000 (nI n) (0 : Int32) SH = _ from r1] at e1
  rw [f_X12_count_62, if_neg ne1, show f_X12_count_74 5000 (nI (xT X).2) (0 : Int32) (ho_sI SM 0 1 (nI 0)) = _ from t1, hn] at e2
  rw [hn] at t3
  have len : (rwL (xT X) n).length = n := by unfold rwL; rw [List.length_map, List.length_range]
  unfold f_X11_count
  rw [e1, ob2_s, le1_e, if_neg ne1, sI_ne _ (by decide), r2.1, len, e2]
  have f0 : fH (fun b => b = 10 ∨ b = 70 ∨ b = 71 ∨ b = 72) SH (ho_sI S1 10 1 (0 : Int32)) := fH_tr (fH_mo r4 (fun b q => Or.inr q)) (fH_sI S1 (Or.inl rfl) (by decide))
  have fm : fN (fun b k => b = 68 ∨ (b = 0 ∧ (k = 66 ∨ k = 1))) SM M1 := fN_tr (fN_sI SM (Or.inr ⟨rfl, Or.inr rfl⟩)) (fN_mo t4 (fun b k q => by omega))
  have a' := a
  have e' := e
  obtain ⟨⟨u1, u2, u3, u4⟩, fl, rr, -, -, w, im, sd, -, -⟩ := a'
  obtain ⟨⟨⟨x1, x2, x3⟩, xw⟩, fl', rr', -, -, w', im', sd'⟩ := e'
  have bytes := fun i hi => (u3 i hi).2
  have m7' : m7 M1 (rwL (xT X) n) := ⟨by rw [len]; exact t3, fun i hi => by
    rw [rwL_g hi]
    rw [len] at hi
    exact ⟨t2 _ (by omega), _, _, bytes (3 * i + 1) (by omega), bytes (3 * i + 2) (by omega), t2 _ (by omega), t2 _ (by omega), rfl⟩⟩
  refine ⟨_, _, _, rfl, rfl, (((xT X).1, 0), X.2.1, X.2.2.1, rwL (xT X) n, X.2.2.2.2), cr, c, C, N, P, z, kl, ⟨⟨hC, hz⟩, ok1, ⟨by show (rwL (xT X) n).length ≤ 16; omega, ?_⟩, ok3, ok4⟩, hA_x a f0 (fun b q x => ?_) (fun k hk => by rw [f0.1 0 (by decide)]) ⟨by show 0 ≤ 1600; omega, sI_v, fun i hi => absurd hi (Nat.not_lt_zero i), by rw [f0.1 12 (by decide)]; exact u4⟩ ?_ (by rw [f0.1 1 (by decide)]; exact rr) ?_ ⟨by rw [f0.1 90 (by decide)]; exact im.1, by rw [f0.1 91 (by decide)]; exact im.2⟩ (by rw [f0.1 0 (by decide)]; exact sd), hN_f b f0 (fun b q => by omega), h10_f d f0 (fun b q => by omega), mA_x e (fun b k q => fm.1 b k (by unfold crM at q; omega)) (fun k => by rw [fm.2.1 42 (by decide)]) ⟨⟨by show 0 ≤ 1600; omega, ?_, fun i hi => absurd hi (Nat.not_lt_zero i)⟩, mWs_hi xw (fun b k q => fm.1 b k (by first | decide | (dsimp only; omega) | omega))⟩ ⟨by rw [fm.1 0 7 (by first | decide | (dsimp only; omega) | omega)]; exact fl'.1, by rw [fm.1 0 8 (by first | decide | (dsimp only; omega) | omega)]; exact fl'.2⟩ (fun k hk => by rw [fm.1 10 k (by first | decide | (dsimp only; omega) | omega)]; exact rr' k hk) m7' ⟨by rw [fm.1 0 110 (by first | decide | (dsimp only; omega) | omega)]; exact im'.1, fun i hi => by rw [fm.1 110 i (by first | decide | (dsimp only; omega) | omega)]; exact im'.2 i hi⟩ (by rw [fm.2.1 0 (by decide)]; exact sd'), mN_f f fm (fun b k q => by omega)⟩
  · intro r hr
    unfold xW rwL at hr
    obtain ⟨i, hi, rfl⟩ := List.mem_map.mp hr
    rw [List.mem_range] at hi
    have h0 := rwB_i n 0 hb i hi
    have h1 := bytes (3 * i + 1) (by omega)
    have h2 := bytes (3 * i + 2) (by omega)
    rw [Nat.zero_add] at h0
    exact ⟨h0, by show 256 * (xT X).1 (3 * i + 1) + (xT X).1 (3 * i + 2) < 65536; omega⟩
  · unfold crC at q; omega
  · rw [sI_k (by decide), sI_k (by decide), r4.1 10 (by decide)]; exact fl
  · show h7 (ho_sI S1 10 1 0) (rwL (xT X) n)
    exact ⟨by rw [sI_ne _ (by decide)]; exact r2.1, by rw [sI_ne _ (by decide), sI_ne _ (by decide)]; exact r2.2⟩
  · rw [t4.1 0 1 (by first | decide | (dsimp only; omega) | omega), sI_v]; rfl

/-! level 2: alike answers: which shows fit what was counted -/
theorem andN (a b : Nat) : nI a &&& nI b = nI (a &&& b) := by
  apply Int32.toBitVec_inj.mp
  apply BitVec.eq_of_toNat_eq
  rw [Int32.toBitVec_and, BitVec.toNat_and]
  show (BitVec.ofNat 32 a).toNat &&& (BitVec.ofNat 32 b).toNat = (BitVec.ofNat 32 (a &&& b)).toNat
  rw [BitVec.toNat_ofNat, BitVec.toNat_ofNat, BitVec.toNat_ofNat, Nat.and_mod_two_pow]
abbrev soW (g : Nat → Nat) (W : List (Nat × Nat)) : Bool := W.all (fun r => decide (g r.1 = r.2))
theorem soW_d {g : Nat → Nat} {W : List (Nat × Nat)} {i : Nat} (h : i < W.length) : soW g (W.drop i) = (decide (g W[i].1 = W[i].2) && soW g (W.drop (i + 1))) := by
  unfold soW
  rw [List.drop_eq_getElem_cons h, List.all_cons]
theorem h_so2 {S : Hp} {g : Nat → Nat} {W : List (Nat × Nat)} (h7 : h7 S W) (h16 : W.length ≤ 16) (hW : ∀ r ∈ W, r.1 < 6 ∧ r.2 < 65536) (h52 : ∀ p, p < 6 → S.1 52 p = nI (g p) ∧ g p < 2 ^ 31) : ∀ (d i K : Nat), i + d = W.length → d < K → f_X1_isSo_2 K (nI i) S = some (if soW g (W.drop i) = true then 1 else 0, S)
  | 0, i, K, hi, hK => by
    obtain ⟨K, rfl⟩ : ∃ q, K = q + 1 := ⟨K - 1, by omega⟩
    rw [f_X1_isSo_2, h7.1, if_pos (nI_le (by omega) (by omega)), show W.drop i = [] from List.drop_of_length_le (by omega)]
    rfl
  | d + 1, i, K, hi, hK => by
    obtain ⟨K, rfl⟩ : ∃ q, K = q + 1 := ⟨K - 1, by omega⟩
    have ih := h_so2 h7 h16 hW h52 d (i + 1) K (by omega) (by omega)
    have hil : i < W.length := by omega
    have hr := hW W[i] (List.getElem_mem hil)
    have h71 := h7.2 i hil
    have hg := h52 _ hr.1
    rw [f_X1_isSo_2, h7.1, if_neg (nI_ge (by omega) (by omega)), ldI_n (by omega) (by decide), h71.1, ldI_n hr.1 (by decide), ldI_n (by omega) (by decide), h71.2, hg.1, le1_e, nI_1, ih, soW_d hil]
    by_cases e : g W[i].1 = W[i].2
    · rw [if_pos (show nI (g W[i].1) = nI W[i].2 by rw [e]), decide_eq_true e, Bool.true_and]
    · rw [if_neg (fun q => e ((nI_eq hg.2 (by omega)).mp q)), decide_eq_false e, Bool.false_and]; rfl
theorem m_so2 {S : Hp} {g : Nat → Nat} {W : List (Nat × Nat)} {np : Nat} (h7 : m7 S W) (h16 : W.length ≤ 16) (hnp : np ≤ 6) (hW : ∀ r ∈ W, r.1 < np ∧ r.2 < 65536) (h60 : ∀ p, p < np → S.1 60 p = nI (g p) ∧ g p < 2 ^ 31) : ∀ (d i K : Nat), i + d = W.length → d < K → f_X12_isAsCounted_2 K (nI i) S = some (if soW g (W.drop i) = true then 1 else 0, S)
  | 0, i, K, hi, hK => by
    obtain ⟨K, rfl⟩ : ∃ q, K = q + 1 := ⟨K - 1, by omega⟩
    rw [f_X12_isAsCounted_2, h7.1, if_pos (nI_le (by omega) (by omega)), show W.drop i = [] from List.drop_of_length_le (by omega)]
    rfl
  | d + 1, i, K, hi, hK => by
    obtain ⟨K, rfl⟩ : ∃ q, K = q + 1 := ⟨K - 1, by omega⟩
    have ih := m_so2 h7 h16 hnp hW h60 d (i + 1) K (by omega) (by omega)
    have hil : i < W.length := by omega
    have hr := hW W[i] (List.getElem_mem hil)
    obtain ⟨h71, b1, b2, hb1, hb2, h72, h73, h74⟩ := h7.2 i hil
    have hg := h60 _ hr.1
    rw [f_X12_isAsCounted_2, h7.1, if_neg (nI_ge (by omega) (by omega)), lit_nI 3, pk_mul, ldI_n (by omega) (by decide), h71, ldI_n (show W[i].1 < 6 by omega) (by decide), nI_1, ldI_n (by omega) (by decide), h72, lit_nI 2, nI_add, ldI_n (by omega) (by decide), h73, lit_nI 256, pk_mul, nI_add, hg.1, le1_e, nI_1, ih, soW_d hil, ← h74]
    by_cases e : g W[i].1 = W[i].2
    · rw [if_pos (show nI (g W[i].1) = nI W[i].2 by rw [e]), decide_eq_true e, Bool.true_and]
    · rw [if_neg (fun q => e ((nI_eq hg.2 (by omega)).mp q)), decide_eq_false e, Bool.false_and]; rfl
/-- the shows that fit -/
def ftB (C : Cr) (z : Nat → Nat) (W : List (Nat × Nat)) (n : Nat) : Bool := decide (n &&& shw C z = n) && soW (lft C z n) W
def fL (C : Cr) (z : Nat → Nat) (W : List (Nat × Nat)) : Nat → List Nat
  | 0 => []
  | n + 1 => if ftB C z W n = true then fL C z W n ++ [n] else fL C z W n
theorem fL_len (C : Cr) (z : Nat → Nat) (W : List (Nat × Nat)) : ∀ n, (fL C z W n).length ≤ n
  | 0 => Nat.le_refl _
  | n + 1 => by
    have := fL_len C z W n
    rw [fL]
    split
    · rw [List.length_append]; show _ + 1 ≤ _; omega
    · omega
theorem fL_up (C : Cr) (z : Nat → Nat) (W : List (Nat × Nat)) (m : Nat) (hm : shw C z < m) : ∀ k, fL C z W (m + k) = fL C z W m
  | 0 => rfl
  | k + 1 => by
    show fL C z W (m + k + 1) = _
    rw [fL, if_neg, fL_up C z W m hm k]
    intro q
    unfold ftB at q
    rw [Bool.and_eq_true] at q
    have h1 := of_decide_eq_true q.1
    have h2 := Nat.and_le_right (n := m + k) (m := shw C z)
    omega
def fiH (S : Hp) (C : Cr) (z : Nat → Nat) (l : List Nat) : Prop := S.1 70 1 = nI l.length ∧ ∀ j, j < l.length → S.1 73 j = nI (l.getD j 0) ∧ ∀ p, p < 6 → S.1 (75 + p) j = nI (lft C z (l.getD j 0) p)
theorem rwH {p : Nat} (hp : p < 6) : yH.2.2.2.2.1 74 p = 75 + p ∧ (75 + p ∈ yH.1 ∧ yH.2.1 (75 + p) = (4, 64)) := by
  have : p = 0 ∨ p = 1 ∨ p = 2 ∨ p = 3 ∨ p = 4 ∨ p = 5 := by omega
  rcases this with rfl | rfl | rfl | rfl | rfl | rfl <;> exact ⟨rfl, memH (by decide) (by decide), rfl⟩
theorem h_add12 {L : Nat} {g : Nat → Nat} (hL : L < 64) : ∀ (d i K : Nat) (S : Hp), i + d = 6 → d < K → S.1 70 1 = nI L → (∀ p, p < 6 → S.1 52 p = nI (g p)) → ∃ S', f_X1_addFitting_12 K (nI i) S = some S' ∧ (∀ p, i ≤ p → p < 6 → S'.1 (75 + p) L = nI (g p)) ∧ (∀ p, p < i → S'.1 (75 + p) = S.1 (75 + p)) ∧ (∀ p k, k ≠ L → S'.1 (75 + p) k = S.1 (75 + p) k) ∧ S'.1 70 1 = nI (L + 1) ∧ (∀ k, k ≠ 1 → S'.1 70 k = S.1 70 k) ∧ fH (fun b => b = 70 ∨ (75 ≤ b ∧ b ≤ 80)) S S' := by
  intro d
  induction d with
  | zero =>
    intro i K S hi hK h7 h52
    obtain ⟨K, rfl⟩ : ∃ q, K = q + 1 := ⟨K - 1, by omega⟩
    refine ⟨ho_sI S 70 1 (nI (L + 1)), ?_, fun p h1 h2 => absurd h1 (by omega), fun p hp => sI_ne _ (by omega), fun p k hk => by rw [sI_ne _ (by omega)], sI_v, fun k hk => sI_k hk, fH_sI S (Or.inl rfl) (by decide)⟩
    rw [f_X1_addFitting_12, if_pos ((geL 6 (by omega) (by decide)).mpr (by omega)), h7, nI_1, le1_e]
  | succ d ih =>
    intro i K S hi hK h7 h52
    obtain ⟨K, rfl⟩ : ∃ q, K = q + 1 := ⟨K - 1, by omega⟩
    obtain ⟨y1, y2⟩ := rwH (p := i) (by omega)
    obtain ⟨S', r1, r2, r3, r4, r5, r6, r7⟩ := ih (i + 1) K (ho_sI S (75 + i) L (nI (g i))) (by omega) (by omega) (by rw [sI_ne _ (by omega)]; exact h7) (fun p hp => by rw [sI_ne _ (by omega)]; exact h52 p hp)
    refine ⟨S', ?_, fun p h1 h2 => ?_, fun p hp => ?_, fun p k hk => ?_, r5, fun k hk => by rw [r6 k hk, sI_ne _ (by omega)], fH_tr (fH_sI S (Or.inr (by omega)) (by omega)) r7⟩
    · rw [f_X1_addFitting_12, if_neg (fun q => absurd ((geL 6 (by omega) (by decide)).mp q) (by omega)), ldR_n (show i < 6 by omega) (by decide) y1 y2, ldI_n (by omega) (by decide), h52 i (by omega), h7, stI_n hL (by decide), le1_e, nI_1]
      exact r1
    · by_cases e : p = i
      · subst e; rw [r3 p (by omega), sI_v]
      · exact r2 p (by omega) h2
    · rw [r3 p (by omega), sI_ne _ (by omega)]
    · rw [r4 p k hk]
      by_cases e : p = i
      · subst e; rw [sI_k hk]
      · rw [sI_ne _ (by omega)]
theorem h_addF {S : Hp} {C : Cr} {z : Nat → Nat} {l : List Nat} {n : Nat} (hl : l.length < 64) (hf : fiH S C z l) (h52 : ∀ p, p < 6 → S.1 52 p = nI (lft C z n p)) : ∃ S', f_X1_addFitting (nI n) S = some S' ∧ fiH S' C z (l ++ [n]) ∧ S'.1 70 0 = S.1 70 0 ∧ fH (fun b => b = 70 ∨ b = 73 ∨ (75 ≤ b ∧ b ≤ 80)) S S' := by
  obtain ⟨S', r1, r2, r3, r4, r5, r6, r7⟩ := h_add12 (L := l.length) (g := lft C z n) hl 6 0 5000 (ho_sI S 73 l.length (nI n)) (by omega) (by omega) (by rw [sI_ne _ (by decide)]; exact hf.1) (fun p hp => by rw [sI_ne _ (by decide)]; exact h52 p hp)
  refine ⟨S', ?_, ⟨by rw [r5, List.length_append]; rfl, fun j hj => ?_⟩, by rw [r6 0 (by decide), sI_ne _ (by decide)], fH_tr (fH_sI S (by first | decide | (dsimp only; omega) | omega) (by decide)) (fH_mo r7 (fun b q => by omega))⟩
  · unfold f_X1_addFitting
    rw [hf.1, stI_n hl (by decide)]
    exact r1
  · rw [List.length_append] at hj
    have hj' : j < l.length + 1 := hj
    rw [r7.1 73 (by first | decide | (dsimp only; omega) | omega)]
    by_cases e : j = l.length
    · subst e
      rw [show (l ++ [n]).getD l.length 0 = n by simp, sI_v]
      exact ⟨rfl, fun p hp => r2 p (by omega) hp⟩
    · rw [show (l ++ [n]).getD j 0 = l.getD j 0 by rw [List.getD_eq_getElem?_getD, List.getD_eq_getElem?_getD, List.getElem?_append_left (by omega)], sI_k e]
      refine ⟨(hf.2 j (by omega)).1, fun p hp => ?_⟩
      rw [r4 p j e, sI_ne _ (by omega)]
      exact (hf.2 j (by omega)).2 p hp
def Fi (b : Nat) : Prop := b = 52 ∨ b = 70 ∨ b = 73 ∨ (75 ≤ b ∧ b ≤ 80)
theorem Fi_c {c b : Nat} (hc : c = 100 ∨ c = 150) (h : Fi b) : ¬ crC c b := by unfold Fi at h; unfold crC; omega
theorem h7_f {Q : Nat → Prop} {S S' : Hp} {W : List (Nat × Nat)} (h : h7 S W) (hf : fH Q S S') (h71 : ¬ Q 71) (h72 : ¬ Q 72) (h70 : S'.1 70 0 = S.1 70 0) : h7 S' W := ⟨by rw [h70]; exact h.1, by rw [hf.1 71 h71, hf.1 72 h72]; exact h.2⟩
theorem h_fnd {c a : Nat} {C : Cr} {z : Nat → Nat} {W : List (Nat × Nat)} (hC : okCr C) (hz : okZ C z) (h16 : W.length ≤ 16) (hW : ∀ r ∈ W, r.1 < cP C ∧ r.2 < 65536) : ∀ (d i K : Nat) (S : Hp), i + d = shw C z + 1 → d < K → cH S c C → stH S a C z → h7 S W → fiH S C z (fL C z W i) → ∃ S', f_X1_find_16 a K (nI (shw C z)) (nI i) S = some S' ∧ fiH S' C z (fL C z W (shw C z + 1)) ∧ S'.1 70 0 = S.1 70 0 ∧ fH Fi S S' := by
  have hm := shw_lt C z
  have hp : 2 ^ cT C ≤ 2 ^ 6 := Nat.pow_le_pow_right (by decide) hC.1.2.1
  have hm6 : shw C z < 64 := by omega
  have hnp := hC.1.1
  intro d
  induction d with
  | zero =>
    intro i K S hi hK h hs h7 hf
    obtain ⟨K, rfl⟩ : ∃ q, K = q + 1 := ⟨K - 1, by omega⟩
    refine ⟨S, by rw [f_X1_find_16, if_pos (nI_lt (by omega) (by omega))], ?_, rfl, fH_rf _ S⟩
    rw [← show i = shw C z + 1 by omega]
    exact hf
  | succ d ih =>
    intro i K S hi hK h hs h7 hf
    obtain ⟨K, rfl⟩ : ∃ q, K = q + 1 := ⟨K - 1, by omega⟩
    have hcc := cH_c h
    have ha := stH_a hs
    have l1 := fL_len C z W i
    have st : ∀ S1, cH S1 c C → stH S1 a C z → S1.1 70 0 = S.1 70 0 → fH Fi S S1 → fiH S1 C z (fL C z W (i + 1)) → ∃ S', f_X1_find_57 (f_X1_find_16 a K) a (nI (shw C z)) (nI i) S1 = some S' ∧ fiH S' C z (fL C z W (shw C z + 1)) ∧ S'.1 70 0 = S.1 70 0 ∧ fH Fi S S' := by
      intro S1 c1 s1 e70 f1 fi1
      obtain ⟨S', r1, r2, r3, r4⟩ := ih (i + 1) K S1 (by omega) (by omega) c1 s1 (h7_f h7 f1 (by unfold Fi; omega) (by unfold Fi; omega) e70) fi1
      refine ⟨S', ?_, r2, r3.trans e70, fH_tr f1 r4⟩
      unfold f_X1_find_57
      rw [le1_e, nI_1]
      exact r1
    rw [f_X1_find_16, if_neg (nI_nlt (by omega) (by omega)), if_neg (fun q => absurd ((geL 64 (by omega) (by decide)).mp q) (by omega))]
    by_cases e : i &&& shw C z = i
    · obtain ⟨S1, t1, t2, t3⟩ := h_tk (s := i) hC hz h hs (by omega)
      have t3' : fH Fi S S1 := fH_mo t3 (fun b q => Or.inl q)
      have e1 : S1.1 70 = S.1 70 := t3.1 70 (by decide)
      have h1 := cH_f h t3' (fun b q => Fi_c hcc q)
      have s1 := stH_f hs t3' (fun b q => by unfold Fi at q; omega)
      have h71 := h7_f h7 t3 (by decide) (by decide) (by rw [e1])
      have g9 : ∀ p, p < 6 → lft C z i p < 2 ^ 31 := fun p hp => by
        have := (apr_le (s := i) hC hz).2 p hp
        have := hz.2.2.2.1 p hp
        omega
      have so := h_so2 (g := lft C z i) h71 h16 (fun r hr => ⟨by have := (hW r hr).1; omega, (hW r hr).2⟩) (fun p hp => ⟨t2 p hp, g9 p hp⟩) W.length 0 5000 (by omega) (by omega)
      have f1 : fiH S1 C z (fL C z W i) := ⟨by rw [e1]; exact hf.1, fun j hj => by rw [t3.1 73 (by decide)]; exact ⟨(hf.2 j hj).1, fun p hp => by rw [t3.1 _ (by first | decide | (dsimp only; omega) | omega)]; exact (hf.2 j hj).2 p hp⟩⟩
      rw [if_pos ((sub_iff i (by omega) _ hm6).mpr e), t1, ob2_s, show f_X1_isSo S1 = _ from so, ob2_s, List.drop_zero]
      by_cases eb : soW (lft C z i) W = true
      · have eft : ftB C z W i = true := by unfold ftB; rw [decide_eq_true e, eb]; rfl
        obtain ⟨S2, r1, r2, r3, r4⟩ := h_addF (n := i) (l := fL C z W i) (by omega) f1 t2
        have r4' : fH Fi S1 S2 := fH_mo r4 (fun b q => by unfold Fi; omega)
        rw [if_pos eb, if_neg ne1, r1, ob_s]
        exact st S2 (cH_f h1 r4' (fun b q => Fi_c hcc q)) (stH_f s1 r4' (fun b q => by unfold Fi at q; omega)) (by rw [r3, e1]) (fH_tr t3' r4') (by rw [fL, if_pos eft]; exact r2)
      · have eft : ¬ ftB C z W i = true := by unfold ftB; rw [decide_eq_true e, Bool.true_and]; exact eb
        rw [if_neg eb, if_pos rfl]
        exact st S1 h1 s1 (by rw [e1]) t3' (by rw [fL, if_neg eft]; exact f1)
    · have eft : ¬ ftB C z W i = true := by unfold ftB; rw [decide_eq_false e, Bool.false_and]; decide
      rw [if_neg (fun q => e ((sub_iff i (by omega) _ hm6).mp q))]
      exact st S h hs rfl (fH_rf _ S) (by rw [fL, if_neg eft]; exact hf)
theorem fL_all {C : Cr} {z : Nat → Nat} {W : List (Nat × Nat)} : fL C z W (2 ^ cT C) = fL C z W (shw C z + 1) := by
  have hm := shw_lt C z
  obtain ⟨k, hk⟩ : ∃ k, 2 ^ cT C = shw C z + 1 + k := ⟨2 ^ cT C - (shw C z + 1), by omega⟩
  rw [hk, fL_up C z W _ (Nat.lt_succ_self _)]
theorem h_findC {S : Hp} {c : Nat} {C : Cr} {z : Nat → Nat} {W : List (Nat × Nat)} {kl : List Nat} (hC : okCr C) (hz : okZ C z) (h16 : W.length ≤ 16) (hW : ∀ r ∈ W, r.1 < cP C ∧ r.2 < 65536) (h : cH S c C) (b : hN S C z kl) (w : h7 S W) : ∃ S', f_X11_findCounted S = some S' ∧ fiH S' C (rip C z) (fL C (rip C z) W (2 ^ cT C)) ∧ S'.1 70 0 = S.1 70 0 ∧ cH S' c C ∧ fH (fun b => Fi b ∨ (1210 ≤ b ∧ b ≤ 1215)) S S' := by
  obtain ⟨S1, S2, r1, r2, r3, r4, r5⟩ := h_scr hC hz h b
  have hcc := cH_c h
  have hz1 := rip_ok hC hz
  have hm := shw_lt C (rip C z)
  have hp : 2 ^ cT C ≤ 2 ^ 6 := Nat.pow_le_pow_right (by decide) hC.1.2.1
  obtain ⟨S3, hS3⟩ : ∃ S3, S3 = ho_sI S2 70 1 (0 : Int32) := ⟨_, rfl⟩
  have f3 : fH Fi S2 S3 := by rw [hS3]; exact fH_sI S2 (Or.inr (Or.inl rfl)) (by decide)
  have e70 : S3.1 70 0 = S.1 70 0 := by rw [hS3, sI_k (by decide), r5.1 70 (by first | decide | (dsimp only; omega) | omega)]
  have w3 : h7 S3 W := ⟨by rw [e70]; exact w.1, by rw [f3.1 71 (by unfold Fi; omega), f3.1 72 (by unfold Fi; omega), r5.1 71 (by first | decide | (dsimp only; omega) | omega), r5.1 72 (by first | decide | (dsimp only; omega) | omega)]; exact w.2⟩
  obtain ⟨S4, q1, q2, q3, q4⟩ := h_fnd (W := W) (a := 1210) hC hz1 h16 hW (shw C (rip C z) + 1) 0 5000 S3 (by omega) (by omega) (cH_f r3 f3 (fun b q => Fi_c hcc q)) (stH_f r4 f3 (fun b q => by unfold Fi at q; omega)) w3 ⟨by rw [hS3, sI_v]; rfl, fun j hj => absurd hj (Nat.not_lt_zero j)⟩
  refine ⟨S4, ?_, by rw [fL_all]; exact q2, q3.trans e70, cH_f (cH_f r3 f3 (fun b q => Fi_c hcc q)) q4 (fun b q => Fi_c hcc q), fH_tr (fH_mo r5 (fun b q => Or.inr q)) (fH_mo (fH_tr f3 q4) (fun b q => Or.inl q))⟩
  unfold f_X11_findCounted f_X1_find
  rw [r1, ob_s, r2, ob_s, h_shw hC hz1 r3 r4, ob2_s, le1_e, ← hS3, show f_X1_find_16 1210 5000 (nI (shw C (rip C z))) (0 : Int32) S3 = _ from q1, ob_s]
/-- the reference's rows of the shows that fit -/
def fiM (S : Hp) (C : Cr) (z : Nat → Nat) (W : List (Nat × Nat)) (i : Nat) : Prop := S.1 0 70 = nI (fL C z W i).length ∧ ∀ n, n < i → S.1 70 n = (if ftB C z W n = true then 1 else 0) ∧ (ftB C z W n = true → ∀ p, p < cP C → S.1 69 (6 * n + p) = nI (lft C z n p))
theorem m_lay55 {n : Nat} (hn : n < 64) (F : Int32 → Hp → Option Hp) : ∀ (d j K : Nat) (S : Hp), j + d = 6 → d < K → ∃ S', f_X12_laysShows_55 F K (nI n) (nI j) S = f_X12_laysShows_103 F (nI n) S' ∧ (∀ p, j ≤ p → p < 6 → S'.1 69 (6 * n + p) = S.1 60 p) ∧ (S.1 70 n = 0 → S'.1 0 70 = S.1 0 70) ∧ (S.1 70 n ≠ 0 → S'.1 0 70 = S.1 0 70 + 1) ∧ fN (fun b k => (b = 69 ∧ 6 * n + j ≤ k ∧ k < 6 * n + 6) ∨ (b = 0 ∧ k = 70)) S S' := by
  intro d
  induction d with
  | zero =>
    intro j K S hj hK
    obtain ⟨K, rfl⟩ : ∃ q, K = q + 1 := ⟨K - 1, by omega⟩
    rw [f_X12_laysShows_55, if_pos ((geL 6 (by omega) (by decide)).mpr (by omega)), ldI_n hn (by decide)]
    by_cases e : S.1 70 n = 0
    · rw [if_pos e]
      exact ⟨S, rfl, fun p h1 h2 => absurd h1 (by omega), fun _ => rfl, fun q => absurd e q, fN_rf _ S⟩
    · rw [if_neg e, le1_e]
      exact ⟨_, rfl, fun p h1 h2 => absurd h1 (by omega), fun q => absurd q e, fun _ => sI_v, fN_sI S (Or.inr ⟨rfl, rfl⟩)⟩
  | succ d ih =>
    intro j K S hj hK
    obtain ⟨K, rfl⟩ : ∃ q, K = q + 1 := ⟨K - 1, by omega⟩
    obtain ⟨S', r1, r2, r3, r4, r5⟩ := ih (j + 1) K (ho_sI S 69 (6 * n + j) (S.1 60 j)) (by omega) (by omega)
    rw [sI_ne _ (show 70 ≠ 69 by decide)] at r3 r4
    rw [sI_ne _ (show 0 ≠ 69 by decide)] at r3 r4
    refine ⟨S', ?_, fun p h1 h2 => ?_, r3, r4, fN_tr (fN_sI S (Or.inl ⟨rfl, by omega, by omega⟩)) (fN_mo r5 (fun b k q => by omega))⟩
    · rw [f_X12_laysShows_55, if_neg (fun q => absurd ((geL 6 (by omega) (by decide)).mp q) (by omega)), ldI_n (by omega) (by decide), lit_nI 6, pk_mul, nI_add, stI_n (by omega) (by decide), le1_e, nI_1]
      exact r1
    · by_cases e : p = j
      · subst e
        rw [r5.1 69 _ (by first | decide | (dsimp only; omega) | omega), sI_v]
      · rw [r2 p (by omega) h2, sI_ne _ (by decide)]
def fP (b k : Nat) : Prop := (b = 0 ∧ k = 70) ∨ b = 60 ∨ b = 69 ∨ b = 70
theorem m_lay11 {C : Cr} {z : Nat → Nat} {W : List (Nat × Nat)} (hC : okCr C) (hz : okZ C z) (h16 : W.length ≤ 16) (hW : ∀ r ∈ W, r.1 < cP C ∧ r.2 < 65536) : ∀ (d i K : Nat) (S : Hp), i + d = 2 ^ cT C → d < K → mC S C → mZ S C z → ¬ S.1 0 52 = 0 → m7 S W → fiM S C z W i → ∃ S', f_X12_laysShows_11 K (nI i) S = ob (f_X12_yieldsGoBack S') (fun S2 => some S2) ∧ fiM S' C z W (2 ^ cT C) ∧ fN fP S S' := by
  have hnt := hC.1.2.1
  have hnp := hC.1.1
  have hp : 2 ^ cT C ≤ 2 ^ 6 := Nat.pow_le_pow_right (by decide) hnt
  have hp0 : 0 < 2 ^ cT C := Nat.two_pow_pos _
  intro d
  induction d with
  | zero =>
    intro i K S hi hK h hs h52 h7 hf
    obtain ⟨K, rfl⟩ : ∃ q, K = q + 1 := ⟨K - 1, by omega⟩
    refine ⟨S, by rw [f_X12_laysShows_11, m_all hnt h.1.2.1, ob2_s, if_pos (nI_lt (by omega) (by omega))], ?_, fN_rf _ S⟩
    rw [← show i = 2 ^ cT C by omega]
    exact hf
  | succ d ih =>
    intro i K S hi hK h hs h52 h7 hf
    obtain ⟨K, rfl⟩ : ∃ q, K = q + 1 := ⟨K - 1, by omega⟩
    have l1 := fL_len C z W i
    have nx : ∀ S1, fN fP S S1 → fiM S1 C z W (i + 1) → ∃ S', f_X12_laysShows_103 (f_X12_laysShows_11 K) (nI i) S1 = ob (f_X12_yieldsGoBack S') (fun S2 => some S2) ∧ fiM S' C z W (2 ^ cT C) ∧ fN fP S S' := by
      intro S1 f1 fi1
      have m7' : m7 S1 W := ⟨by rw [f1.1 0 66 (by unfold fP; omega)]; exact h7.1, fun j hj => by rw [f1.1 68 _ (by unfold fP; omega), f1.1 68 _ (by unfold fP; omega), f1.1 68 _ (by unfold fP; omega)]; exact h7.2 j hj⟩
      obtain ⟨S', r1, r2, r3⟩ := ih (i + 1) K S1 (by omega) (by omega) (mC_f h f1 (fun b k q => by unfold fP at q; unfold crM; omega)) (mZ_f hs f1 (fun b k q => by unfold fP at q; omega)) (by rw [f1.1 0 52 (by unfold fP; omega)]; exact h52) m7' fi1
      refine ⟨S', ?_, r2, fN_tr f1 r3⟩
      unfold f_X12_laysShows_103
      rw [le1_e, nI_1]
      exact r1
    obtain ⟨S1, hS1⟩ : ∃ S1, S1 = ho_sI S 70 i (0 : Int32) := ⟨_, rfl⟩
    have f1 : fN (fun b k => b = 70 ∧ k = i) S S1 := by rw [hS1]; exact fN_sI S ⟨rfl, rfl⟩
    have h1 := mC_f h f1 (fun b k q => by unfold crM; omega)
    have s1 := mZ_f hs f1 (fun b k q => by omega)
    rw [f_X12_laysShows_11, m_all hnt h.1.2.1, ob2_s, if_neg (nI_nlt (by omega) (by omega)), show vp_nar .boolean (0 : Int32) = 0 from rfl, stI_n (by omega) (by decide), ← hS1, m_can hC hz h1 s1 (by rw [f1.1 0 52 (by first | decide | (dsimp only; omega) | omega)]; exact h52) (by omega), ob2_s]
    by_cases e : i &&& shw C z = i
    · obtain ⟨S2, r1, r2, r3⟩ := m_apr (s := i) hC hz h1 s1 (by omega)
      have m72 : m7 S2 W := ⟨by rw [r3.1 0 66 (by first | decide | (dsimp only; omega) | omega), f1.1 0 66 (by first | decide | (dsimp only; omega) | omega)]; exact h7.1, fun j hj => by rw [r3.1 68 _ (by first | decide | (dsimp only; omega) | omega), r3.1 68 _ (by first | decide | (dsimp only; omega) | omega), r3.1 68 _ (by first | decide | (dsimp only; omega) | omega), f1.1 68 _ (by first | decide | (dsimp only; omega) | omega), f1.1 68 _ (by first | decide | (dsimp only; omega) | omega), f1.1 68 _ (by first | decide | (dsimp only; omega) | omega)]; exact h7.2 j hj⟩
      have g9 : ∀ p, p < cP C → lft C z i p < 2 ^ 31 := fun p hp => by
        have := (apr_le (s := i) hC hz).2 p (by omega)
        have := hz.2.2.2.1 p (by omega)
        omega
      have so := m_so2 (g := lft C z i) m72 h16 hnp hW (fun p hp => ⟨r2 p hp, g9 p hp⟩) W.length 0 5000 (by omega) (by omega)
      obtain ⟨v, hv⟩ : ∃ v : Int32, v = if soW (lft C z i) W = true then 1 else 0 := ⟨_, rfl⟩
      have hv2 : vp_nar .boolean v = v := by rw [hv]; split <;> rfl
      obtain ⟨S3, hS3⟩ : ∃ S3, S3 = ho_sI S2 70 i v := ⟨_, rfl⟩
      have f3 : fN (fun b k => b = 70 ∧ k = i) S2 S3 := by rw [hS3]; exact fN_sI S2 ⟨rfl, rfl⟩
      obtain ⟨S4, t1, t2, t3, t4, t5⟩ := m_lay55 (n := i) (by omega) (f_X12_laysShows_11 K) 6 0 5000 S3 (by omega) (by omega)
      rw [if_pos e, if_neg ne1, r1, ob2_s, show f_X12_isAsCounted S2 = _ from so, ob2_s, List.drop_zero, ← hv, hv2, stI_n (by omega) (by decide), ← hS3, show f_X12_laysShows_55 (f_X12_laysShows_11 K) 5000 (nI i) (0 : Int32) S3 = _ from t1]
      have fa : fN fP S S4 := fN_tr (fN_mo f1 (fun b k q => by unfold fP; omega)) (fN_tr (fN_mo r3 (fun b k q => by unfold fP; omega)) (fN_tr (fN_mo f3 (fun b k q => by unfold fP; omega)) (fN_mo t5 (fun b k q => by unfold fP; omega))))
      have e70 : S3.1 70 i = v := by rw [hS3, sI_v]
      have e0 : S3.1 0 70 = nI (fL C z W i).length := by rw [f3.1 0 70 (by first | decide | (dsimp only; omega) | omega), r3.1 0 70 (by first | decide | (dsimp only; omega) | omega), f1.1 0 70 (by first | decide | (dsimp only; omega) | omega)]; exact hf.1
      have eft : ftB C z W i = soW (lft C z i) W := by unfold ftB; rw [decide_eq_true e, Bool.true_and]
      refine nx S4 fa ⟨?_, fun n hn => ?_⟩
      · rw [fL, eft]
        by_cases eb : soW (lft C z i) W = true
        · rw [if_pos eb, t4 (by rw [e70, hv, if_pos eb]; exact ne1), e0, nI_1, List.length_append]; rfl
        · rw [if_neg eb, t3 (by rw [e70, hv, if_neg eb]), e0]
      · by_cases en : n = i
        · subst en
          refine ⟨by rw [t5.1 70 _ (by first | decide | (dsimp only; omega) | omega), e70, hv, eft], fun _ p hp => ?_⟩
          rw [t2 p (by omega) (by omega), f3.1 60 _ (by first | decide | (dsimp only; omega) | omega)]
          exact r2 p hp
        · have := hf.2 n (by omega)
          rw [t5.1 70 _ (by first | decide | (dsimp only; omega) | omega), f3.1 70 _ (fun q => en q.2), r3.1 70 _ (by first | decide | (dsimp only; omega) | omega), f1.1 70 _ (fun q => en q.2)]
          refine ⟨this.1, fun q p hp => ?_⟩
          rw [t5.1 69 _ (by dsimp only; omega), f3.1 69 _ (by first | decide | (dsimp only; omega) | omega), r3.1 69 _ (by first | decide | (dsimp only; omega) | omega), f1.1 69 _ (by first | decide | (dsimp only; omega) | omega)]
          exact this.2 q p hp
    · have eft : ¬ ftB C z W i = true := by unfold ftB; rw [decide_eq_false e, Bool.false_and]; decide
      rw [if_neg e, if_pos rfl]
      refine nx S1 (fN_mo f1 (fun b k q => by unfold fP; omega)) ⟨?_, fun n hn => ?_⟩
      · rw [fL, if_neg eft, f1.1 0 70 (by first | decide | (dsimp only; omega) | omega)]; exact hf.1
      · by_cases en : n = i
        · subst en
          exact ⟨by rw [hS1, sI_v, if_neg eft], fun q => absurd q eft⟩
        · have := hf.2 n (by omega)
          rw [f1.1 70 _ (fun q => en q.2)]
          exact ⟨this.1, fun q p hp => by rw [f1.1 69 _ (by first | decide | (dsimp only; omega) | omega)]; exact this.2 q p hp⟩
theorem m_layS {S : Hp} {C : Cr} {z : Nat → Nat} {W : List (Nat × Nat)} {kl : List Nat} (hC : okCr C) (hz : okZ C z) (h16 : W.length ≤ 16) (hW : ∀ r ∈ W, r.1 < cP C ∧ r.2 < 65536) (h : mC S C) (f : mN S C z kl) (h52 : ¬ S.1 0 52 = 0) (w : m7 S W) : ∃ S', f_X12_laysShows S = some S' ∧ fiM S' C (rip C z) W (2 ^ cT C) ∧ mN S' C z kl ∧ fN (fun b k => fP b k ∨ (b = 55 ∧ 3 ≤ k ∧ k < 9) ∨ b = 62) S S' := by
  obtain ⟨S1, hS1⟩ : ∃ S1, S1 = ho_sI S 0 70 (0 : Int32) := ⟨_, rfl⟩
  have f1 : fN (fun b k => b = 0 ∧ k = 70) S S1 := by rw [hS1]; exact fN_sI S ⟨rfl, rfl⟩
  have h1 := mC_f h f1 (fun b k q => by unfold crM; omega)
  have s1 := mZ_f f.1 f1 (fun b k q => by omega)
  obtain ⟨S2, r1, r2, r3, r4⟩ := m_now hC hz h1 s1
  have h2 := mC_f h1 r4 (fun b k q => by unfold crM; omega)
  have f12 : fN (fun b k => fP b k ∨ (b = 55 ∧ 3 ≤ k ∧ k < 9) ∨ b = 62) S S2 := fN_tr (fN_mo f1 (fun b k q => by unfold fP; omega)) (fN_mo r4 (fun b k q => Or.inr q))
  have w2 : m7 S2 W := ⟨by rw [f12.1 0 66 (by unfold fP; omega)]; exact w.1, fun j hj => by rw [f12.1 68 _ (by unfold fP; omega), f12.1 68 _ (by unfold fP; omega), f12.1 68 _ (by unfold fP; omega)]; exact w.2 j hj⟩
  have hp : 2 ^ cT C ≤ 2 ^ 6 := Nat.pow_le_pow_right (by decide) hC.1.2.1
  obtain ⟨S3, q1, q2, q3⟩ := m_lay11 (W := W) hC (rip_ok hC hz) h16 hW (2 ^ cT C) 0 5000 S2 (by omega) (by omega) h2 r2 (by rw [f12.1 0 52 (by unfold fP; omega)]; exact h52) w2 ⟨by rw [r4.1 0 70 (by first | decide | (dsimp only; omega) | omega), hS1, sI_v]; rfl, fun n hn => absurd hn (Nat.not_lt_zero n)⟩
  obtain ⟨S4, t1, t2, t3⟩ := m_back (z := z) hC (mC_f h2 q3 (fun b k q => by unfold fP at q; unfold crM; omega)) (mZ_f r2 q3 (fun b k q => by unfold fP at q; omega)) (fun p hp => by rw [q3.1 62 p (by unfold fP; omega)]; exact r3 p hp)
  have fa : fN (fun b k => fP b k ∨ (b = 55 ∧ 3 ≤ k ∧ k < 9) ∨ b = 62) S S4 := fN_tr f12 (fN_tr (fN_mo q3 (fun b k q => Or.inl q)) (fN_mo t3 (fun b k q => Or.inr (Or.inl q))))
  refine ⟨S4, ?_, ⟨by rw [t3.1 0 70 (by first | decide | (dsimp only; omega) | omega)]; exact q2.1, fun n hn => ?_⟩, ⟨t2, mK_f f.2.1 fa (fun b k q => by unfold fP at q; omega), by rw [fa.1 0 62 (by unfold fP; omega)]; exact f.2.2⟩, fa⟩
  · unfold f_X12_laysShows
    rw [le1_e, ← hS1, r1, ob_s, show f_X12_laysShows_11 5000 (0 : Int32) S2 = _ from q1, t1, ob_s]
  · rw [t3.1 70 _ (by first | decide | (dsimp only; omega) | omega)]
    exact ⟨(q2.2 n hn).1, fun q p hp => by rw [t3.1 69 _ (by first | decide | (dsimp only; omega) | omega)]; exact (q2.2 n hn).2 q p hp⟩

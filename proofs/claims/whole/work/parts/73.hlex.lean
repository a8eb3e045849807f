/-! level 2: the class along a text -/
/-- a byte as the class holds it -/
def sb (n : Nat) : Int32 := (nI n).toInt8.toInt32
theorem sb_blk : ∀ n, n < 256 → ((sb n = (32 : Int32) ↔ n = 32) ∧ (sb n = (10 : Int32) ↔ n = 10)) := by decide +kernel
theorem sb_ltr : ∀ n, n < 256 → ((sb n < (97 : Int32) ∨ (122 : Int32) < sb n) ↔ ltr n = false) := by decide +kernel
theorem sb_dgt : ∀ n, n < 256 → ((sb n < (48 : Int32) ∨ (57 : Int32) < sb n) ↔ dgt n = false) := by decide +kernel
theorem sb_255 : ∀ n, n < 256 → sb n &&& (255 : Int32) = nI n := by decide +kernel
theorem sb_lo : ∀ n, n < 128 → sb n = nI n := by decide +kernel
/-- letters as a number -/
def nv (T : Tp) (s : Nat) : Nat → Nat
  | 0 => 0
  | k + 1 => nv T s k * 27 + (T.1 (s + k) - 96)
theorem nv_lt {T : Tp} {s : Nat} : ∀ k, (∀ j, j < k → T.1 (s + j) ≤ 122) → nv T s k < 27 ^ k
  | 0, _ => by rw [nv]; decide
  | k + 1, h => by
    have h1 := nv_lt k (fun j hj => h j (by omega))
    have h2 := h k (by omega)
    rw [nv, Nat.pow_succ]
    omega
def nvL (w : List Nat) : Nat := w.foldl (fun a x => a * 27 + (x - 96)) 0
theorem nvL_s (w : List Nat) (x : Nat) : nvL (w ++ [x]) = nvL w * 27 + (x - 96) := by unfold nvL; rw [List.foldl_append]; rfl
theorem wd_s {T : Tp} {s k : Nat} : wd T s (s + (k + 1)) = wd T s (s + k) ++ [T.1 (s + k)] := by
  unfold wd
  rw [show s + (k + 1) - s = k + 1 by omega, show s + k - s = k by omega, List.range_succ, List.map_append]
  rfl
theorem nv_L {T : Tp} {s : Nat} : ∀ k, nv T s k = nvL (wd T s (s + k))
  | 0 => by rw [nv]; unfold wd; rw [show s + 0 - s = 0 by omega]; rfl
  | k + 1 => by rw [nv, wd_s, nvL_s, nv_L k]
def lts (w : List Nat) : Prop := ∀ x ∈ w, 97 ≤ x ∧ x ≤ 122
theorem nvL_inj : ∀ (n : Nat) (w w' : List Nat), w.length = n → lts w → lts w' → nvL w = nvL w' → w = w' := by
  intro n
  induction n with
  | zero =>
    intro w w' hn h h' e
    have hw : w = [] := List.length_eq_zero_iff.mp hn
    subst hw
    rcases List.eq_nil_or_concat w' with rfl | ⟨V, x, rfl⟩
    · rfl
    · rw [List.concat_eq_append] at e h'
      rw [nvL_s] at e
      have := h' x (by simp)
      have h0 : nvL [] = 0 := rfl
      omega
  | succ n ih =>
    intro w w' hn h h' e
    rcases List.eq_nil_or_concat w with rfl | ⟨U, y, rfl⟩
    · cases hn
    · rw [List.concat_eq_append] at e h hn ⊢
      rw [List.length_append] at hn
      rcases List.eq_nil_or_concat w' with rfl | ⟨V, x, rfl⟩
      · rw [nvL_s] at e
        have := h y (by simp)
        have h0 : nvL [] = 0 := rfl
        omega
      · rw [List.concat_eq_append] at e h' ⊢
        rw [nvL_s, nvL_s] at e
        have a := h y (by simp)
        have b := h' x (by simp)
        have e1 : y = x := by omega
        have e2 : nvL U = nvL V := by omega
        rw [ih U V (by simpa using hn) (fun z hz => h z (by simp [hz])) (fun z hz => h' z (by simp [hz])) e2, e1]
/-- a name as a number of six places -/
def enc (w : List Nat) : Nat := nvL w * 27 ^ (6 - w.length)
theorem nvL_m {w : List Nat} (h : lts w) (h0 : w ≠ []) : nvL w % 27 ≠ 0 := by
  rcases List.eq_nil_or_concat w with rfl | ⟨V, x, rfl⟩
  · exact absurd rfl h0
  · rw [List.concat_eq_append] at h ⊢
    rw [nvL_s]
    have := h x (by simp)
    omega
theorem enc_lt {w w' : List Nat} (h' : lts w') (hl' : w'.length ≤ 6) (hlt : w.length < w'.length) : enc w ≠ enc w' := by
  intro e
  unfold enc at e
  obtain ⟨c, hc⟩ : ∃ c, w'.length = w.length + (c + 1) := ⟨w'.length - w.length - 1, by omega⟩
  rw [show 6 - w.length = (6 - w'.length) + (c + 1) by omega, Nat.pow_add, ← Nat.mul_assoc, Nat.mul_right_comm] at e
  have hp : 0 < 27 ^ (6 - w'.length) := Nat.pow_pos (by decide)
  have e2 := Nat.eq_of_mul_eq_mul_right hp e
  have hne : w' ≠ [] := fun q => by rw [q] at hlt; simp at hlt
  refine nvL_m h' hne ?_
  rw [← e2, Nat.pow_succ, ← Nat.mul_assoc]
  exact Nat.mul_mod_left _ _
theorem enc_inj {w w' : List Nat} (h : lts w) (h' : lts w') (hl : w.length ≤ 6) (hl' : w'.length ≤ 6) (e : enc w = enc w') : w = w' := by
  rcases Nat.lt_trichotomy w.length w'.length with q | q | q
  · exact absurd e (enc_lt h' hl' q)
  · unfold enc at e
    rw [q] at e
    exact nvL_inj _ w w' rfl h h' (Nat.eq_of_mul_eq_mul_right (Nat.pow_pos (by decide)) e)
  · exact absurd e.symm (enc_lt h hl q)
theorem nvL_lt : ∀ (n : Nat) (w : List Nat), w.length = n → lts w → nvL w < 27 ^ n := by
  intro n
  induction n with
  | zero =>
    intro w hn h
    have hw : w = [] := List.length_eq_zero_iff.mp hn
    subst hw
    decide
  | succ n ih =>
    intro w hn h
    rcases List.eq_nil_or_concat w with rfl | ⟨U, y, rfl⟩
    · cases hn
    · rw [List.concat_eq_append] at h hn ⊢
      rw [List.length_append] at hn
      have h1 := ih U (by simpa using hn) (fun z hz => h z (by simp [hz]))
      have h2 := h y (by simp)
      rw [nvL_s, Nat.pow_succ]
      omega
theorem enc_b {w : List Nat} (h : lts w) (hl : w.length ≤ 6) : enc w < 387420489 := by
  have h1 := nvL_lt _ w rfl h
  unfold enc
  have h2 : nvL w * 27 ^ (6 - w.length) < 27 ^ w.length * 27 ^ (6 - w.length) := Nat.mul_lt_mul_of_pos_right h1 (Nat.pow_pos (by decide))
  rw [← Nat.pow_add, show w.length + (6 - w.length) = 6 by omega] at h2
  exact h2
/-- the words of the class, by their numbers -/
def wL : List (List Nat) := [[110, 101, 101, 100], [100, 101, 98, 116], [114, 97, 116, 101], [115, 116, 111, 114, 101, 115], [121, 105, 101, 108, 100, 115], [116, 114, 105, 99, 107], [116, 97, 107, 101, 115], [102, 114, 111, 109], [108, 111, 111, 107], [119, 97, 116, 99, 104], [115, 101, 97, 116], [103, 108, 97, 115, 115], [115, 101, 101, 115], [108, 111, 115, 101, 115], [98, 101, 108, 105, 101, 102], [98, 111, 121, 115], [116, 105, 109, 101, 115], [121, 101, 97, 114], [110, 117, 109, 98, 101, 114], [107, 110, 111, 119, 110], [115, 105, 103, 104, 116], [108, 101, 102, 116], [115, 101, 101, 110], [111, 114], [97, 110, 100], [110, 111, 116], [97, 108, 108], [109, 105, 110], [109, 97, 120], [102, 105, 114, 115, 116], [108, 97, 115, 116], [111, 102, 116, 101, 110], [116, 111, 116, 97, 108], [109, 111, 115, 116], [108, 101, 97, 115, 116]]
theorem wL_ok : ∀ i, i < 35 → (wL.getD i []).length ≤ 6 ∧ (∀ x ∈ wL.getD i [], 97 ≤ x ∧ x ≤ 122) ∧ 0 < (wL.getD i []).length := by decide
theorem wL_inj : ∀ i, i < 35 → ∀ j, j < 35 → wL.getD i [] = wL.getD j [] → i = j := by decide +kernel
def tZ (S : Hp) (T : Tp) : Prop := T.2 ≤ 1600 ∧ S.1 10 1 = nI T.2 ∧ (∀ i, i < T.2 → S.1 11 i = sb (T.1 i) ∧ T.1 i < 256) ∧ ∀ i, i < 35 → S.1 12 i = nI (enc (wL.getD i []))
def tB (S : Hp) (T : Tp) : Prop := T.2 ≤ 1600 ∧ S.1 10 1 = nI T.2 ∧ (∀ i, i < T.2 → S.1 11 i = sb (T.1 i) ∧ T.1 i < 256) ∧ (∀ i, i < 35 → S.1 12 i = nI (enc (wL.getD i []))) ∧ S.1 10 2 = 0 ∧ S.1 10 3 = -1
/-- what reading along the text writes -/
def nP (b k : Nat) : Prop := b = 10 ∧ (k = 4 ∨ k = 5 ∨ k = 6 ∨ k = 7 ∨ k = 9)
theorem tB_f {S S' : Hp} {T : Tp} (h : tB S T) (hf : fM nP S S') : tB S' T := ⟨h.1, by rw [hf.1 10 1 (by unfold nP; omega)]; exact h.2.1, fun i hi => by rw [hf.1 11 i (by unfold nP; omega)]; exact h.2.2.1 i hi, fun i hi => by rw [hf.1 12 i (by unfold nP; omega)]; exact h.2.2.2.1 i hi, by rw [hf.1 10 2 (by unfold nP; omega)]; exact h.2.2.2.2.1, by rw [hf.1 10 3 (by unfold nP; omega)]; exact h.2.2.2.2.2⟩
/-- what the class knows of the next word, number or sign -/
def tR (S : Hp) (T : Tp) (σ : Lx) : Prop := tB S T ∧ σ.1 ≤ T.2 ∧ S.1 10 4 = nI (tK T σ) ∧ S.1 10 5 = nI (tS T σ) ∧ S.1 10 9 = nI (tE T σ) ∧ (tK T σ = 1 → (tE T σ - tS T σ ≤ 6 → S.1 10 7 = nI (enc (wd T (tS T σ) (tE T σ)))) ∧ ((∃ i, i < 35 ∧ S.1 10 6 = nI i ∧ wd T (tS T σ) (tE T σ) = wL.getD i []) ∨ (S.1 10 6 = -1 ∧ ∀ i, i < 35 → wd T (tS T σ) (tE T σ) ≠ wL.getD i []))) ∧ (tK T σ = 2 → S.1 10 6 = nI (dv T (tS T σ) (min 4 (tE T σ - tS T σ)))) ∧ (tK T σ = 3 → S.1 10 6 = nI (T.1 (tS T σ)))
theorem h_skip {T : Tp} {x1 x2 : Int32} : ∀ (d a k : Nat) (S : Hp), tB S T → rn blk T a = a + d → a ≤ T.2 → d < k → S.1 10 5 = nI a → f_X10_next_35 k x1 x2 S = f_X10_next_87 x1 x2 (ho_sI S 10 5 (nI (a + d))) := by
  intro d
  induction d with
  | zero =>
    intro a k S hB hr ha hk h2
    obtain ⟨k, rfl⟩ : ∃ q, k = q + 1 := ⟨k - 1, by omega⟩
    obtain ⟨b1, b2, b3, -⟩ := hB
    have hno := rn_no blk T a
    rw [hr, Nat.add_zero] at hno
    rw [f_X10_next_35, b2, h2, Nat.add_zero, sI_id h2]
    by_cases q : a < T.2
    · obtain ⟨t1, t2⟩ := b3 a q
      have nb : ¬ (T.1 a = 10 ∨ T.1 a = 32) := fun x => hno ⟨q, blk_i.mpr x⟩
      rw [if_neg (nI_ge q (by omega)), ldI_n (by omega) (by decide), t1, if_neg (fun x => nb (Or.inr ((sb_blk _ t2).1.mp x))), ldI_n (by omega) (by decide), t1, if_neg (fun x => nb (Or.inl ((sb_blk _ t2).2.mp x)))]
    · rw [if_pos (nI_le (by omega) (by omega))]
  | succ d ih =>
    intro a k S hB hr ha hk h2
    obtain ⟨k, rfl⟩ : ∃ q, k = q + 1 := ⟨k - 1, by omega⟩
    have hB' := hB
    obtain ⟨b1, b2, b3, -⟩ := hB'
    obtain ⟨i1, i2⟩ := rn_in blk T (e := a) (j := a) (by omega) (by omega)
    obtain ⟨t1, t2⟩ := b3 a i1
    have h39 : f_X10_next_74 (f_X10_next_35 k) x1 x2 S = f_X10_next_87 x1 x2 (ho_sI S 10 5 (nI (a + (d + 1)))) := by
      unfold f_X10_next_74
      rw [le1_e, h2, nI_1, ih (a + 1) k (ho_sI S 10 5 (nI (a + 1))) (tB_f hB (fM_sI _ ⟨rfl, by omega⟩)) (by rw [← rn_s i1 i2, hr]; omega) (by omega) (by omega) sI_v, sI_w, show a + 1 + d = a + (d + 1) by omega]
    rw [f_X10_next_35, b2, h2, if_neg (nI_ge i1 (by omega)), ldI_n (by omega) (by decide), t1]
    by_cases q : T.1 a = 32
    · rw [if_pos ((sb_blk _ t2).1.mpr q), h39]
    · have q2 : T.1 a = 10 := (blk_i.mp i2).resolve_right q
      rw [if_neg (fun x => q ((sb_blk _ t2).1.mp x)), ldI_n (by omega) (by decide), t1, if_pos ((sb_blk _ t2).2.mpr q2), h39]
theorem h_rw10 {T : Tp} {s m : Nat} (hm : rn ltr T s = s + m) (hsm : s + m ≤ T.2) : ∀ (d i k : Nat) (S : Hp), tB S T → i + d = m → d < k → S.1 10 9 = nI (s + i) → S.1 10 5 = nI s → S.1 10 7 = nI (nv T s (min 6 i)) →
    ∃ S', f_X10_readWord_10 k S = f_X10_readWord_102 S' ∧ S'.1 10 9 = nI (s + m) ∧ S'.1 10 7 = nI (nv T s (min 6 m)) ∧ fM (fun b k => b = 10 ∧ (k = 7 ∨ k = 9)) S S' := by
  intro d
  induction d with
  | zero =>
    intro i k S hB hi hk h9 h5 h7
    obtain ⟨k, rfl⟩ : ∃ q, k = q + 1 := ⟨k - 1, by omega⟩
    obtain ⟨b1, b2, b3, -⟩ := hB
    have e : i = m := (by omega)
    subst e
    have hno := rn_no ltr T s
    rw [hm] at hno
    refine ⟨S, ?_, h9, h7, fM_rf _ S⟩
    rw [f_X10_readWord_10, b2, h9]
    by_cases q : s + i < T.2
    · obtain ⟨t1, t2⟩ := b3 (s + i) q
      have hf : ltr (T.1 (s + i)) = false := by
        cases hl : ltr (T.1 (s + i)) with
        | false => rfl
        | true => exact absurd ⟨q, hl⟩ hno
      rw [if_neg (nI_ge q (by omega)), ldI_n (by omega) (by decide), t1]
      rcases (sb_ltr _ t2).mpr hf with x | x
      · rw [if_pos x]
      · by_cases y : sb (T.1 (s + i)) < (97 : Int32)
        · rw [if_pos y]
        · rw [if_neg y, ldI_n (by omega) (by decide), t1, if_pos x]
    · rw [if_pos (nI_le (by omega) (by omega))]
  | succ d ih =>
    intro i k S hB hi hk h9 h5 h7
    obtain ⟨k, rfl⟩ : ∃ q, k = q + 1 := ⟨k - 1, by omega⟩
    have hB' := hB
    obtain ⟨b1, b2, b3, -⟩ := hB'
    obtain ⟨i1, i2⟩ := rn_in ltr T (e := s) (j := s + i) (by omega) (by omega)
    obtain ⟨t1, t2⟩ := b3 (s + i) i1
    have hl := ltr_i.mp i2
    have hn : ¬ (sb (T.1 (s + i)) < (97 : Int32) ∨ (122 : Int32) < sb (T.1 (s + i))) := fun x => by
      have := (sb_ltr _ t2).mp x
      rw [i2] at this; cases this
    rw [f_X10_readWord_10, b2, h9, if_neg (nI_ge i1 (by omega)), ldI_n (by omega) (by decide), t1, if_neg (fun x => hn (Or.inl x)), ldI_n (by omega) (by decide), t1, if_neg (fun x => hn (Or.inr x)), h5, pk_sub (by omega), show s + i - s = i by omega]
    have h89 : ∀ Sx : Hp, Sx.1 10 9 = nI (s + i) → Sx.1 10 5 = nI s → Sx.1 10 7 = nI (nv T s (min 6 (i + 1))) → fM (fun b k => b = 10 ∧ (k = 7 ∨ k = 9)) S Sx → ∃ S', f_X10_readWord_89 (f_X10_readWord_10 k) Sx = f_X10_readWord_102 S' ∧ S'.1 10 9 = nI (s + m) ∧ S'.1 10 7 = nI (nv T s (min 6 m)) ∧ fM (fun b k => b = 10 ∧ (k = 7 ∨ k = 9)) S S' := by
      intro Sx x9 x5 x7 fx
      have f1 : fM (fun b k => b = 10 ∧ (k = 7 ∨ k = 9)) S (ho_sI Sx 10 9 (nI (s + (i + 1)))) := fM_tr fx (fM_sI _ ⟨rfl, by omega⟩)
      obtain ⟨S', r1, r2, r3, r4⟩ := ih (i + 1) k (ho_sI Sx 10 9 (nI (s + (i + 1)))) (tB_f hB (fM_mo f1 (fun b k q => ⟨q.1, by omega⟩))) (by omega) (by omega) sI_v (by rw [sI_k (by decide)]; exact x5) (by rw [sI_k (by decide)]; exact x7)
      refine ⟨S', ?_, r2, r3, fM_tr f1 r4⟩
      unfold f_X10_readWord_89
      rw [le1_e, x9, nI_1, show s + i + 1 = s + (i + 1) by omega, r1]
    by_cases q : 6 ≤ i
    · rw [if_pos ((geL 6 (by omega) (by decide)).mpr q)]
      exact h89 S h9 h5 (by rw [h7, Nat.min_eq_left q, Nat.min_eq_left (by omega)]) (fM_rf _ S)
    · have e7 : (((nI (nv T s (min 6 i)) * (27 : Int32)) + sb (T.1 (s + i))) - (97 : Int32)) + (1 : Int32) = nI (nv T s (min 6 (i + 1))) := by
        rw [Nat.min_eq_right (by omega), Nat.min_eq_right (by omega), sb_lo _ (by omega), lit_nI 27, pk_mul, nI_add, lit_nI 97, pk_sub (by omega), nI_1, nv]
        congr 1
        omega
      rw [if_neg (fun x => q ((geL 6 (by omega) (by decide)).mp x)), ldI_n (by omega) (by decide), t1, h7, e7, le1_e]
      exact h89 _ (by rw [sI_k (by decide)]; exact h9) (by rw [sI_k (by decide)]; exact h5) sI_v (fM_sI _ ⟨rfl, by omega⟩)
theorem h_rw112 {v : Nat} : ∀ (d i k : Nat) (S : Hp), i + d = 6 → d < k → S.1 10 7 = nI v → ∃ S', f_X10_readWord_112 k (nI i) S = f_X10_readWord_142 5000 (0 : Int32) S' ∧ S'.1 10 7 = nI (v * 27 ^ d) ∧ S'.1 10 6 = -1 ∧ fM (fun b k => b = 10 ∧ (k = 6 ∨ k = 7)) S S' := by
  intro d
  induction d generalizing v with
  | zero =>
    intro i k S hi hk h7
    obtain ⟨k, rfl⟩ : ∃ q, k = q + 1 := ⟨k - 1, by omega⟩
    refine ⟨ho_sI S 10 6 (-1), ?_, by rw [sI_k (by decide), h7, Nat.pow_zero, Nat.mul_one], sI_v, fM_sI _ ⟨rfl, by omega⟩⟩
    rw [f_X10_readWord_112, lit_nI 6, if_pos (nI_le (by omega) (by omega)), le1_e]
  | succ d ih =>
    intro i k S hi hk h7
    obtain ⟨k, rfl⟩ : ∃ q, k = q + 1 := ⟨k - 1, by omega⟩
    obtain ⟨S', r1, r2, r3, r4⟩ := ih (v := v * 27) (i + 1) k (ho_sI S 10 7 (nI (v * 27))) (by omega) (by omega) sI_v
    refine ⟨S', ?_, ?_, r3, fM_tr (fM_sI _ ⟨rfl, by omega⟩) r4⟩
    · rw [f_X10_readWord_112, lit_nI 6, if_neg (nI_ge (by omega) (by decide)), h7, lit_nI 27, pk_mul, le1_e, le1_e, nI_1, r1]
    · rw [r2, Nat.pow_succ, Nat.mul_assoc, Nat.mul_comm 27]
theorem h_rw142 {T : Tp} {s t : Nat} {w : List Nat} (hst : s ≤ t ∧ t ≤ 1600) : ∀ (d i k : Nat) (S : Hp), tB S T → i + d = 35 → d < k → S.1 10 9 = nI t → S.1 10 5 = nI s → t - s ≤ 6 → w = wd T s t → lts w → S.1 10 7 = nI (enc w) → ((∃ j, j < i ∧ S.1 10 6 = nI j ∧ w = wL.getD j []) ∨ (S.1 10 6 = -1 ∧ ∀ j, j < i → w ≠ wL.getD j [])) →
    ∃ S', f_X10_readWord_142 k (nI i) S = some S' ∧ ((∃ j, j < 35 ∧ S'.1 10 6 = nI j ∧ w = wL.getD j []) ∨ (S'.1 10 6 = -1 ∧ ∀ j, j < 35 → w ≠ wL.getD j [])) ∧ fM (fun b k => b = 10 ∧ k = 6) S S' := by
  intro d
  induction d with
  | zero =>
    intro i k S hB hi hk h9 h5 h6 hw hlt h7 hv
    obtain ⟨k, rfl⟩ : ∃ q, k = q + 1 := ⟨k - 1, by omega⟩
    have e : i = 35 := (by omega)
    subst e
    refine ⟨S, ?_, hv, fM_rf _ S⟩
    rw [f_X10_readWord_142, lit_nI 35, if_pos (nI_le (by omega) (by omega))]
  | succ d ih =>
    intro i k S hB hi hk h9 h5 h6 hw hlt h7 hv
    obtain ⟨k, rfl⟩ : ∃ q, k = q + 1 := ⟨k - 1, by omega⟩
    have hwl : w.length ≤ 6 := by rw [hw, wd_len]; exact h6
    obtain ⟨o1, o2, o3⟩ := wL_ok i (by omega)
    have en1 := enc_b hlt hwl
    have en2 := enc_b (w := wL.getD i []) o2 o1
    have h180 : ∀ Sx, f_X10_readWord_180 (f_X10_readWord_142 k) (nI i) Sx = f_X10_readWord_142 k (nI (i + 1)) Sx := by
      intro Sx
      unfold f_X10_readWord_180
      rw [le1_e, nI_1]
    rw [f_X10_readWord_142, lit_nI 35, if_neg (nI_ge (by omega) (by decide)), h9, h5, pk_sub hst.1, lit_nI 6, if_neg (nI_nlt h6 (by omega)), ldI_n (by omega) (by decide), hB.2.2.2.1 i (by omega), h7]
    by_cases q : w = wL.getD i []
    · rw [if_pos (by rw [q]), le1_e, h180]
      have f1 : fM (fun b k => b = 10 ∧ k = 6) S (ho_sI S 10 6 (nI i)) := fM_sI _ ⟨rfl, rfl⟩
      obtain ⟨S', r1, r2, r3⟩ := ih (i + 1) k (ho_sI S 10 6 (nI i)) (tB_f hB (fM_mo f1 (fun b k q => ⟨q.1, by omega⟩))) (by omega) (by omega) (by rw [sI_k (by decide)]; exact h9) (by rw [sI_k (by decide)]; exact h5) h6 hw hlt (by rw [sI_k (by decide)]; exact h7) (Or.inl ⟨i, by omega, sI_v, q⟩)
      exact ⟨S', r1, r2, fM_tr f1 r3⟩
    · rw [if_neg (fun x => q (enc_inj hlt o2 hwl o1 ((nI_eq (by omega) (by omega)).mp x).symm)), h180]
      refine ih (i + 1) k S hB (by omega) (by omega) h9 h5 h6 hw hlt h7 ?_
      rcases hv with ⟨j, j1, j2⟩ | ⟨j1, j2⟩
      · exact Or.inl ⟨j, by omega, j2⟩
      · exact Or.inr ⟨j1, fun j hj => by
          by_cases e : j = i
          · subst e; exact q
          · exact j2 j (by omega)⟩

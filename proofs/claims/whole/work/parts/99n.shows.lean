/-! level 2: alike answers: shows, where -/
theorem fL_mem {C : Cr} {z : Nat → Nat} {W : List (Nat × Nat)} {x : Nat} : ∀ n, x ∈ fL C z W n → x < n
  | 0, h => absurd h (List.not_mem_nil)
  | n + 1, h => by
    rw [fL] at h
    split at h
    · rcases List.mem_append.mp h with h | h
      · have := fL_mem n h; omega
      · rw [List.mem_singleton] at h; omega
    · have := fL_mem n h; omega
theorem dr_c {l : List Nat} {j : Nat} (h : j < l.length) : l.drop j = l.getD j 0 :: l.drop (j + 1) := by
  rw [List.drop_eq_getElem_cons h, List.getD_eq_getElem?_getD, List.getElem?_eq_getElem h]; rfl
theorem h_inA {S : Hp} {C : Cr} {z : Nat → Nat} {l : List Nat} (h : fiH S C z l) (hl : l.length ≤ 64) : ∀ (d j K a : Nat), j + d = l.length → d < K → f_X1_inAll_20 K (nI a) (nI j) S = some (nI ((l.drop j).foldl (· &&& ·) a), S)
  | 0, j, K, a, hj, hK => by
    obtain ⟨K, rfl⟩ : ∃ q, K = q + 1 := ⟨K - 1, by omega⟩
    rw [f_X1_inAll_20, h.1, if_pos (nI_le (by omega) (by omega)), List.drop_of_length_le (by omega)]; rfl
  | d + 1, j, K, a, hj, hK => by
    obtain ⟨K, rfl⟩ : ∃ q, K = q + 1 := ⟨K - 1, by omega⟩
    rw [f_X1_inAll_20, h.1, if_neg (nI_ge (by omega) (by omega)), ldI_n (by omega) (by decide), (h.2 j (by omega)).1, le1_e, le1_e, andN, nI_1, h_inA h hl d (j + 1) K _ (by omega) (by omega), dr_c (show j < l.length by omega)]; rfl
theorem h_inS {S : Hp} {C : Cr} {z : Nat → Nat} {l : List Nat} (h : fiH S C z l) (hl : l.length ≤ 64) : ∀ (d j K a : Nat), j + d = l.length → d < K → f_X1_inSome_4 K (nI a) (nI j) S = some (nI ((l.drop j).foldl (· ||| ·) a), S)
  | 0, j, K, a, hj, hK => by
    obtain ⟨K, rfl⟩ : ∃ q, K = q + 1 := ⟨K - 1, by omega⟩
    rw [f_X1_inSome_4, h.1, if_pos (nI_le (by omega) (by omega)), List.drop_of_length_le (by omega)]; rfl
  | d + 1, j, K, a, hj, hK => by
    obtain ⟨K, rfl⟩ : ∃ q, K = q + 1 := ⟨K - 1, by omega⟩
    rw [f_X1_inSome_4, h.1, if_neg (nI_ge (by omega) (by omega)), ldI_n (by omega) (by decide), (h.2 j (by omega)).1, le1_e, le1_e, orN, nI_1, h_inS h hl d (j + 1) K _ (by omega) (by omega), dr_c (show j < l.length by omega)]; rfl
def shA (nt : Nat) (l : List Nat) : Nat := if l.length = 0 then 0 else l.foldl (· &&& ·) (2 ^ nt - 1)
theorem h_inAll {S : Hp} {C : Cr} {z : Nat → Nat} {W : List (Nat × Nat)} (hC : okCr C) (h : fiH S C z (fL C z W (2 ^ cT C))) : f_X1_inAll S = some (nI (shA (cT C) (fL C z W (2 ^ cT C))), S) := by
  have hp : 2 ^ cT C ≤ 2 ^ 6 := Nat.pow_le_pow_right (by decide) hC.1.2.1
  have hl := fL_len C z W (2 ^ cT C)
  have hm : ∀ x, x ∈ fL C z W (2 ^ cT C) → x < 2 ^ cT C := fun x => fL_mem _
  unfold f_X1_inAll f_X1_inAll_17 shA
  generalize fL C z W (2 ^ cT C) = l at *
  rw [h.1]
  by_cases e : l.length = 0
  · rw [if_pos (show nI l.length = 0 by rw [e]; rfl), if_pos e]
    have := h_inA h (by omega) l.length 0 5000 0 (by omega) (by omega)
    rw [show f_X1_inAll_20 5000 (0 : Int32) (0 : Int32) S = _ from this, List.drop_zero, List.eq_nil_of_length_eq_zero e]; rfl
  · rw [if_neg (nI_ne0 (by omega) (by omega)), if_neg e, ldI_L 0 (by decide) (by decide), (h.2 0 (by omega)).1]
    have := h_inA h (by omega) l.length 0 5000 (l.getD 0 0) (by omega) (by omega)
    rw [show f_X1_inAll_20 5000 (nI (l.getD 0 0)) (0 : Int32) S = _ from this, List.drop_zero]
    cases l with
    | nil => exact absurd rfl e
    | cons x t =>
      have hx := hm x (List.mem_cons_self)
      show some (nI (List.foldl (· &&& ·) (x &&& x) t), S) = some (nI (List.foldl (· &&& ·) ((2 ^ cT C - 1) &&& x) t), S)
      rw [Nat.and_self, Nat.and_comm, Nat.and_two_pow_sub_one_eq_mod, Nat.mod_eq_of_lt hx]
theorem h_inSome {S : Hp} {C : Cr} {z : Nat → Nat} {l : List Nat} (h : fiH S C z l) (hl : l.length ≤ 64) : f_X1_inSome S = some (nI (l.foldl (· ||| ·) 0), S) := h_inS h hl l.length 0 5000 0 (by omega) (by omega)
theorem m_sh38 {S : Hp} {C : Cr} {z : Nat → Nat} {W : List (Nat × Nat)} {x : Nat} (hC : okCr C) (h : mC S C) (f : fiM S C z W (2 ^ cT C)) (hx : x ≤ 2) : ∀ (d i K : Nat), i + d = 2 ^ cT C → d < K → f_X12_shows_38 K (nI x) (nI ((fL C z W i).foldl (· &&& ·) (2 ^ cT C - 1))) (nI ((fL C z W i).foldl (· ||| ·) 0)) (nI i) S = some (nI (if x = 0 then (fL C z W (2 ^ cT C)).length else if x = 1 then shA (cT C) (fL C z W (2 ^ cT C)) else (fL C z W (2 ^ cT C)).foldl (· ||| ·) 0), S)
  | 0, i, K, hi, hK => by
    have hp : 2 ^ cT C ≤ 2 ^ 6 := Nat.pow_le_pow_right (by decide) hC.1.2.1
    have hp0 : 0 < 2 ^ cT C := Nat.two_pow_pos _
    have hl := fL_len C z W (2 ^ cT C)
    obtain ⟨K, rfl⟩ : ∃ q, K = q + 1 := ⟨K - 1, by omega⟩
    rw [f_X12_shows_38, m_all hC.1.2.1 h.1.2.1, ob2_s, if_pos (nI_lt (by omega) (by omega)), show i = 2 ^ cT C by omega, f.1]
    by_cases e0 : x = 0
    · rw [if_pos (show nI x = 0 by rw [e0]; rfl), if_pos e0]
    rw [if_neg (nI_ne0 (by omega) (by omega)), if_neg e0]
    by_cases e1 : x = 1
    · rw [if_pos (show nI x = 1 by rw [e1]; rfl), if_pos e1]
      unfold shA
      by_cases e2 : (fL C z W (2 ^ cT C)).length = 0
      · rw [if_pos (show nI (fL C z W (2 ^ cT C)).length = 0 by rw [e2]; rfl), if_pos e2]; rfl
      · rw [if_neg (nI_ne0 (by omega) (by omega)), if_neg e2]
    · rw [if_neg (show ¬ nI x = 1 from fun q => e1 ((nI_eq (b := 1) (by omega) (by decide)).mp q)), if_neg e1]
  | d + 1, i, K, hi, hK => by
    have hp : 2 ^ cT C ≤ 2 ^ 6 := Nat.pow_le_pow_right (by decide) hC.1.2.1
    obtain ⟨K, rfl⟩ : ∃ q, K = q + 1 := ⟨K - 1, by omega⟩
    have ih := m_sh38 hC h f hx d (i + 1) K (by omega) (by omega)
    have h70 : ∀ a b S, f_X12_shows_70 (f_X12_shows_38 K) (nI x) a b (nI i) S = f_X12_shows_38 K (nI x) a b (nI (i + 1)) S := fun a b S => by
      unfold f_X12_shows_70
      rw [le1_e, nI_1]
    rw [f_X12_shows_38, m_all hC.1.2.1 h.1.2.1, ob2_s, if_neg (nI_nlt (by omega) (by omega)), ldI_n (by omega) (by decide), (f.2 i (by omega)).1, h70, le1_e, le1_e, h70, andN, orN]
    rw [fL] at ih
    by_cases e : ftB C z W i = true
    · rw [if_pos e, if_neg ne1]
      rw [if_pos e, List.foldl_append, List.foldl_append] at ih
      exact ih
    · rw [if_neg e, if_pos rfl]
      rw [if_neg e] at ih
      exact ih
theorem sim_fit {SH SM S1 M1 : Hp} {X : Xv} {cr : Bool} {c : Nat} {C : Cr} {N : Nat → Nat → List Nat} {P : Pa} {z : Nat → Nat} {kl : List Nat} (ok : okX X cr C N P z) (a : hA SH X cr c C N P) (b : hN SH C z kl) (d : h10 SH cr C z) (e : mA SM X cr C N P) (f : mN M1 C z kl) (hf : fH (fun b => Fi b ∨ (1210 ≤ b ∧ b ≤ 1215)) SH S1) (h70 : S1.1 70 0 = SH.1 70 0) (mf : fN (fun b k => fP b k ∨ (b = 55 ∧ 3 ≤ k ∧ k < 9) ∨ b = 62) SM M1) : Sim S1 M1 := by
  have hcc := a.2.2.2.1.2.1.2.2.2
  refine ⟨X, cr, c, C, N, P, z, kl, ok, hA_f a hf (fun b q x => ?_) h70, hN_f b hf (fun b q x => ?_), h10_f d hf (fun b q x => ?_), mA_f e mf (fun b k q => ?_), f⟩
  · unfold Fi at x; unfold hCl crC at q; omega
  · unfold Fi at x; omega
  · unfold Fi at x; omega
  · unfold fP at q; unfold sM; omega

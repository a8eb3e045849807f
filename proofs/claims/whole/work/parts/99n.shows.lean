/-! level 2: alike answers: shows, where -/
theorem fL_mem {C : Cr} {z : Nat → Nat} {W : List (Nat × Nat)} {x : Nat} : ∀ n, x ∈ fL C z W n → x < n
  | 0, h => absurd h (List.not_mem_nil)
  | n + 1, h => by
    rw [fL] at h
    split at h
    · rcases List.mem_append.mp h with h | h
      · have := fL_mem n h; omega
      · rw [List.mem_singleton] at h; omega
    · have := fL_mem n h; omega
theorem dr_c {l : List Nat} {j : Nat} (h : j < l.length) : l.drop j = l.getD j 0 :: l.drop (j + 1) := by
  rw [List.drop_eq_getElem_cons h, List.getD_eq_getElem?_getD, List.getElem?_eq_getElem h]; rfl
theorem h_inA {S : Hp} {C : Cr} {z : Nat → Nat} {l : List Nat} (h : fiH S C z l) (hl : l.length ≤ 64) : ∀ (d j K a : Nat), j + d = l.length → d < K → f_X1_inAll_20 K (nI a) (nI j) S = some (nI ((l.drop j).foldl (· &&& ·) a), S)
  | 0, j, K, a, hj, hK => by
    obtain ⟨K, rfl⟩ : ∃ q, K = q + 1 := ⟨K - 1, by omega⟩
    rw [f_X1_inAll_20, h.1, if_pos (nI_le (by omega) (by omega)), List.drop_of_length_le (by omega)]; rfl
  | d + 1, j, K, a, hj, hK => by
    obtain ⟨K, rfl⟩ : ∃ q, K = q + 1 := ⟨K - 1, by omega⟩
    rw [f_X1_inAll_20, h.1, if_neg (nI_ge (by omega) (by omega)), ldI_n (by omega) (by decide), (h.2 j (by omega)).1, le1_e, le1_e, andN, nI_1, h_inA h hl d (j + 1) K _ (by omega) (by omega), dr_c (show j < l.length by omega)]; rfl
theorem h_inS {S : Hp} {C : Cr} {z : Nat → Nat} {l : List Nat} (h : fiH S C z l) (hl : l.length ≤ 64) : ∀ (d j K a : Nat), j + d = l.length → d < K → f_X1_inSome_4 K (nI a) (nI j) S = some (nI ((l.drop j).foldl (· ||| ·) a), S)
  | 0, j, K, a, hj, hK => by
    obtain ⟨K, rfl⟩ : ∃ q, K = q + 1 := ⟨K - 1, by omega⟩
    rw [f_X1_inSome_4, h.1, if_pos (nI_le (by omega) (by omega)), List.drop_of_length_le (by omega)]; rfl
  | d + 1, j, K, a, hj, hK => by
    obtain ⟨K, rfl⟩ : ∃ q, K = q + 1 := ⟨K - 1, by omega⟩
    rw [f_X1_inSome_4, h.1, if_neg (nI_ge (by omega) (by omega)), ldI_n (by omega) (by decide), (h.2 j (by omega)).1, le1_e, le1_e, orN, nI_1, h_inS h hl d (j + 1) K _ (by omega) (by omega), dr_c (show j < l.length by omega)]; rfl
def shA (nt : Nat) (l : List Nat) : Nat := if l.length = 0 then 0 else l.foldl (· &&& ·) (2 ^ nt - 1)
theorem h_inAll {S : Hp} {C : Cr} {z : Nat → Nat} {W : List (Nat × Nat)} (hC : okCr C) (h : fiH S C z (fL C z W (2 ^ cT C))) : f_X1_inAll S = some (nI (shA (cT C) (fL C z W (2 ^ cT C))), S) := by
  have hp : 2 ^ cT C ≤ 2 ^ 6 := Nat.pow_le_pow_right (by decide) hC.1.2.1
  have hl := fL_len C z W (2 ^ cT C)
  have hm : ∀ x, x ∈ fL C z W (2 ^ cT C) → x < 2 ^ cT C := fun x => fL_mem _
  unfold f_X1_inAll f_X1_inAll_17 shA
  generalize fL C z W (2 ^ cT C) = l at *
  rw [h.1]
  by_cases e : l.length = 0
  · rw [if_pos (show nI l.length = 0 by rw [e]; rfl), if_pos e]
    have := h_inA h (by omega) l.length 0 5000 0 (by omega) (by omega)
    rw [show f_X1_inAll_20 5000 (0 : Int32) (0 : Int32) S = _ from this, List.drop_zero, List.eq_nil_of_length_eq_zero e]; rfl
  · rw [if_neg (nI_ne0 (by omega) (by omega)), if_neg e, ldI_L 0 (by decide) (by decide), (h.2 0 (by omega)).1]
    have := h_inA h (by omega) l.length 0 5000 (l.getD 0 0) (by omega) (by omega)
    rw [show f_X1_inAll_20 5000 (nI (l.getD 0 0)) (0 : Int32) S = _ from this, List.drop_zero]
    cases l with
    | nil => exact absurd rfl e
    | cons x t =>
      have hx := hm x (List.mem_cons_self)
      show some (nI (List.foldl (· &&& ·) (x &&& x) t), S) = some (nI (List.foldl (· &&& ·) ((2 ^ cT C - 1) &&& x) t), S)
      rw [Nat.and_self, Nat.and_comm, Nat.and_two_pow_sub_one_eq_mod, Nat.mod_eq_of_lt hx]
theorem h_inSome {S : Hp} {C : Cr} {z : Nat → Nat} {l : List Nat} (h : fiH S C z l) (hl : l.length ≤ 64) : f_X1_inSome S = some (nI (l.foldl (· ||| ·) 0), S) := h_inS h hl l.length 0 5000 0 (by omega) (by omega)
theorem m_sh38 {S : Hp} {C : Cr} {z : Nat → Nat} {W : List (Nat × Nat)} {x : Nat} (hC : okCr C) (h : mC S C) (f : fiM S C z W (2 ^ cT C)) (hx : x ≤ 2) : ∀ (d i K : Nat), i + d = 2 ^ cT C → d < K → f_X12_shows_38 K (nI x) (nI ((fL C z W i).foldl (· &&& ·) (2 ^ cT C - 1))) (nI ((fL C z W i).foldl (· ||| ·) 0)) (nI i) S = some (nI (if x = 0 then (fL C z W (2 ^ cT C)).length else if x = 1 then shA (cT C) (fL C z W (2 ^ cT C)) else (fL C z W (2 ^ cT C)).foldl (· ||| ·) 0), S)
  | 0, i, K, hi, hK => by
    have hp : 2 ^ cT C ≤ 2 ^ 6 := Nat.pow_le_pow_right (by decide) hC.1.2.1
    have hp0 : 0 < 2 ^ cT C := Nat.two_pow_pos _
    have hl := fL_len C z W (2 ^ cT C)
    obtain ⟨K, rfl⟩ : ∃ q, K = q + 1 := ⟨K - 1, by omega⟩
    rw [f_X12_shows_38, m_all hC.1.2.1 h.1.2.1, ob2_s, if_pos (nI_lt (by omega) (by omega)), show i = 2 ^ cT C by omega, f.1]
    by_cases e0 : x = 0
    · rw [if_pos (show nI x = 0 by rw [e0]; rfl), if_pos e0]
    rw [if_neg (nI_ne0 (by omega) (by omega)), if_neg e0]
    by_cases e1 : x = 1
    · rw [if_pos (show nI x = 1 by rw [e1]; rfl), if_pos e1]
      unfold shA
      by_cases e2 : (fL C z W (2 ^ cT C)).length = 0
      · rw [if_pos (show nI (fL C z W (2 ^ cT C)).length = 0 by rw [e2]; rfl), if_pos e2]; rfl
      · rw [if_neg (nI_ne0 (by omega) (by omega)), if_neg e2]
    · rw [if_neg (show ¬ nI x = 1 from fun q => e1 ((nI_eq (b := 1) (by omega) (by decide)).mp q)), if_neg e1]
  | d + 1, i, K, hi, hK => by
    have hp : 2 ^ cT C ≤ 2 ^ 6 := Nat.pow_le_pow_right (by decide) hC.1.2.1
    obtain ⟨K, rfl⟩ : ∃ q, K = q + 1 := ⟨K - 1, by omega⟩
    have ih := m_sh38 hC h f hx d (i + 1) K (by omega) (by omega)
    have h70 : ∀ a b S, f_X12_shows_70 (f_X12_shows_38 K) (nI x) a b (nI i) S = f_X12_shows_38 K (nI x) a b (nI (i + 1)) S := fun a b S => by
      unfold f_X12_shows_70
      rw [le1_e, nI_1]
    rw [f_X12_shows_38, m_all hC.1.2.1 h.1.2.1, ob2_s, if_neg (nI_nlt (by omega) (by omega)), ldI_n (by omega) (by decide), (f.2 i (by omega)).1, h70, le1_e, le1_e, h70, andN, orN]
    rw [fL] at ih
    by_cases e : ftB C z W i = true
    · rw [if_pos e, if_neg ne1]
      rw [if_pos e, List.foldl_append, List.foldl_append] at ih
      exact ih
    · rw [if_neg e, if_pos rfl]
      rw [if_neg e] at ih
      exact ih
theorem sim_fit {SH SM S1 M1 : Hp} {X : Xv} {cr : Bool} {c : Nat} {C : Cr} {N : Nat → Nat → List Nat} {P : Pa} {z : Nat → Nat} {kl : List Nat} (ok : okX X cr C N P z) (a : hA SH X cr c C N P) (b : hN SH C z kl) (d : h10 SH cr C z) (e : mA SM X cr C N P) (f : mN M1 C z kl) (hf : fH (fun b => Fi b ∨ (1210 ≤ b ∧ b ≤ 1215)) SH S1) (h70 : S1.1 70 0 = SH.1 70 0) (mf : fN (fun b k => fP b k ∨ (b = 55 ∧ 3 ≤ k ∧ k < 9) ∨ b = 62) SM M1) : Sim S1 M1 := by
  have hcc := a.2.2.2.1.2.1.2.2.2
  refine ⟨X, cr, c, C, N, P, z, kl, ok, hA_f a hf (fun b q x => ?_) h70, hN_f b hf (fun b q x => ?_), h10_f d hf (fun b q x => ?_), mA_f e mf (fun b k q => ?_), f⟩
  · unfold Fi at x; unfold hCl crC at q; omega
  · unfold Fi at x; omega
  · unfold Fi at x; omega
  · unfold fP at q; unfold sM; omega
theorem s_18 : sim_18 Sim := by
  intro x SH SM h
  have h' := h
  obtain ⟨X, cr, c, C, N, P, z, kl, ok, a, b, d, e, f⟩ := h'
  have ok' := ok
  obtain ⟨⟨hC, hz⟩, ok1, ⟨okw, okr⟩, ok3⟩ := ok'
  obtain ⟨c1, ⟨c2, c3, c4, c5⟩, ⟨c6, c7, c8⟩, c9, c10⟩ := a.2.2.2.1
  obtain ⟨m1, mc, mn⟩ := e.2.2.2.1
  have y9 := hz.1
  unfold f_X11_shows f_X12_shows
  cases cr with
  | false =>
    rw [m_ahd0 m1, ob2_s, if_pos rfl, if_pos (show SH.1 0 13 = 0 from c1)]
    exact ⟨_, _, _, rfl, rfl, h⟩
  | true =>
    rw [if_pos rfl] at c1 m1
    rw [c1, if_neg ne1, show f_X12_isAhead (1 : Int32) (1 : Int32) (1 : Int32) SM = _ from m_ahd (n := 1) (lo := 1) (hi := 1) m1 (f.1.1 0 (by decide)) y9 (by decide) (by decide) (by decide), ob2_s, b.1.2.1.1]
    have e3 : ∀ (A B : Option (Int32 × Hp)), (if nI (z 0) < (999 : Int32) then A else B) = if z 0 < 999 then A else B := fun A B => by
      by_cases q : z 0 < 999
      · rw [if_pos q, if_pos ((ltL 999 (by omega) (by decide)).mpr q)]
      · rw [if_neg q, if_neg (fun w => q ((ltL 999 (by omega) (by decide)).mp w))]
    rw [e3]
    by_cases ey : z 0 < 999
    rotate_left
    · rw [if_neg (show ¬ (1 ≤ 1 ∧ 1 ≤ 1 ∧ z 0 + 1 ≤ 999) by omega), if_pos rfl, if_neg ey]
      have : (if x < 0 then some ((-1 : Int32), SH) else if (2 : Int32) < x then some ((-1 : Int32), SH) else some ((-1 : Int32), SH)) = some ((-1 : Int32), SH) := by
        split
        · rfl
        · split <;> rfl
      rw [this]
      exact ⟨_, _, _, rfl, rfl, h⟩
    rw [if_pos (show 1 ≤ 1 ∧ 1 ≤ 1 ∧ z 0 + 1 ≤ 999 by omega), if_neg ne1, m_inL (n := 2) (by decide), ob2_s, if_pos ey]
    rcases ix3 x (n := 3) (by decide) with hx | ⟨n, hn, rfl⟩
    · rw [if_neg (ix_in5 (n := 2) (by decide) hx), if_pos rfl]
      have : (if x < 0 then some ((-1 : Int32), SH) else if (2 : Int32) < x then some ((-1 : Int32), SH) else ob (f_X11_findCounted SH) (fun S1 => if x = (0 : Int32) then some ((S1.1 70 1), S1) else if x = (1 : Int32) then ob2 (f_X1_inAll S1) (fun r2 S2 => some (r2, S2)) else ob2 (f_X1_inSome S1) (fun r3 S3 => some (r3, S3)))) = some ((-1 : Int32), SH) := by
        by_cases h0 : x < 0
        · rw [if_pos h0]
        · rw [if_neg h0, if_pos (Int32.lt_of_lt_of_le (show (2 : Int32) < nI 3 by decide) (hx.resolve_left h0))]
      rw [this]
      exact ⟨_, _, _, rfl, rfl, h⟩
    have hp : 2 ^ cT C ≤ 2 ^ 6 := Nat.pow_le_pow_right (by decide) hC.1.2.1
    have hl := fL_len C (rip C z) (xW X) (2 ^ cT C)
    obtain ⟨S1, r1, r2, r3, r4, r5⟩ := h_findC hC hz okw okr (c9 rfl) b a.2.2.2.2.2.1
    obtain ⟨M1, t1, t2, t3, t4⟩ := m_layS hC hz okw okr mc f (by rw [m1]; exact ne1) e.2.2.2.2.2.1
    have mc1 := mC_f mc t4 (fun b k q => by unfold fP at q; unfold crM; omega)
    have h38 := m_sh38 (x := n) hC mc1 t2 (by omega) (2 ^ cT C) 0 5000 (by omega) (by omega)
    rw [if_neg (nI_pos (by omega)), if_neg (fun q => absurd ((gtL 2 (by omega) (by decide)).mp q) (by omega)), r1, ob_s, if_pos ((in5 (by decide)).mpr ⟨n, by omega, rfl⟩), if_neg ne1, t1, ob_s, m_all hC.1.2.1 mc1.1.2.1, ob2_s, show f_X12_shows_38 5000 (nI n) (nI (2 ^ cT C - 1)) (0 : Int32) (0 : Int32) M1 = _ from h38, r2.1, h_inAll hC r2, ob2_s, h_inSome r2 (by omega), ob2_s]
    refine ⟨_, S1, M1, ?_, rfl, sim_fit ok a b d e t3 r5 r3 t4⟩
    by_cases e0 : n = 0
    · rw [if_pos (show nI n = 0 by rw [e0]; rfl), if_pos e0]
    rw [if_neg (nI_ne0 (by omega) (by omega)), if_neg e0]
    by_cases e1 : n = 1
    · rw [if_pos (show nI n = 1 by rw [e1]; rfl), if_pos e1]
    · rw [if_neg (show ¬ nI n = 1 from fun q => e1 ((nI_eq (b := 1) (by omega) (by decide)).mp q)), if_neg e1]

/-! level 2: alike answers: an image read, the state it tells -/
theorem zI_p {C : Cr} {T : Tp} {z : Nat → Nat} {b : Nat} (hb : b < 6) : zup (zI C T z 3 b 0 0) (3 + b) (tk1 T (6 + 2 * b) 2 0) = zI C T z 3 (b + 1) 0 0 := by
  funext j
  by_cases e : j = 3 + b
  · subst e
    rw [zup_s]
    unfold zI
    rw [if_neg (by omega), if_neg (by omega), if_neg (by omega), if_pos (by omega), show 3 + b - 3 = b by omega]
  · rw [zup_n e]
    unfold zI
    have q : (3 ≤ j ∧ j < 3 + (b + 1)) ↔ (3 ≤ j ∧ j < 3 + b) := by omega
    simp only [q]
theorem zI_t {C : Cr} {T : Tp} {z : Nat → Nat} {b d : Nat} (hb : b ≤ 6) (hd : d < 6) : zup (zup (zI C T z 3 b d 0) (9 + d) (tk1 T (6 + 2 * cP C + 4 * d) 2 0)) (15 + d) (tk1 T (6 + 2 * cP C + 4 * d + 2) 2 0) = zI C T z 3 b (d + 1) 0 := by
  funext j
  by_cases e : j = 15 + d
  · subst e
    rw [zup_s]
    unfold zI
    rw [if_neg (by omega), if_neg (by omega), if_neg (by omega), if_neg (by omega), if_neg (by omega), if_pos (by omega), show 15 + d - 15 = d by omega]
  · rw [zup_n e]
    by_cases e2 : j = 9 + d
    · subst e2
      rw [zup_s]
      unfold zI
      rw [if_neg (by omega), if_neg (by omega), if_neg (by omega), if_neg (by omega), if_pos (by omega), show 9 + d - 9 = d by omega]
    · rw [zup_n e2]
      unfold zI
      have q : (9 ≤ j ∧ j < 9 + (d + 1)) ↔ (9 ≤ j ∧ j < 9 + d) := by omega
      have q2 : (15 ≤ j ∧ j < 15 + (d + 1)) ↔ (15 ≤ j ∧ j < 15 + d) := by omega
      simp only [q, q2]
theorem zI_w {C : Cr} {T : Tp} {z : Nat → Nat} {b d w : Nat} (hb : b ≤ 6) (hd : d ≤ 6) : zup (zI C T z 3 b d w) (21 + w) (tk1 T (6 + 2 * cP C + 4 * cT C + w) 1 0) = zI C T z 3 b d (w + 1) := by
  funext j
  by_cases e : j = 21 + w
  · subst e
    rw [zup_s]
    unfold zI
    rw [if_neg (by omega), if_neg (by omega), if_neg (by omega), if_neg (by omega), if_neg (by omega), if_neg (by omega), if_pos (by omega), show 21 + w - 21 = w by omega]
  · rw [zup_n e]
    unfold zI
    have q : (21 ≤ j ∧ j < 21 + (w + 1)) ↔ (21 ≤ j ∧ j < 21 + w) := by omega
    simp only [q]
theorem h_rd43 {c : Nat} {T : Tp} {C : Cr} {z : Nat → Nat} (hC : okCr C) (hc : c = 100 ∨ c = 150) (hT : imN C ≤ T.2) : ∀ (d i K : Nat) (S : Hp), i + d = cP C → d < K → tZ S T → S.1 (c + 1) 0 = nI (cP C) → stH S 1200 C (zI C T z 3 i 0 0) → S.1 90 2 = nI (6 + 2 * i) → ∃ S', f_X5_read_43 c 1200 K (nI i) S = f_X5_read_76 c 1200 5000 (0 : Int32) S' ∧ stH S' 1200 C (zI C T z 3 (cP C) 0 0) ∧ S'.1 90 2 = nI (6 + 2 * cP C) ∧ S'.1 1200 = S.1 1200 ∧ (∀ k, k ≠ 2 → S'.1 90 k = S.1 90 k) ∧ fH fO S S' := by
  have hnp := hC.1.1
  unfold imN at hT
  intro d
  induction d with
  | zero =>
    intro i K S hi hK t h hs hp
    obtain ⟨K, rfl⟩ : ∃ q, K = q + 1 := ⟨K - 1, by omega⟩
    have e : i = cP C := by omega
    rw [e] at hs hp
    exact ⟨S, by rw [f_X5_read_43, ldI_L 0 (by decide) (by decide), h, if_pos (nI_le (by omega) (by omega))], hs, hp, rfl, fun _ _ => rfl, fH_rf _ S⟩
  | succ d ih =>
    intro i K S hi hK t h hs hp
    obtain ⟨K, rfl⟩ : ∃ q, K = q + 1 := ⟨K - 1, by omega⟩
    obtain ⟨a1, a2, a3⟩ := h_st1 (x := 1) (a := 1201) (p := i) (n := 2) (k := 3 + i) t hs (by decide) (by omega) hp rfl (by omega) (by omega) (by omega) (zI_p (by omega))
    obtain ⟨S', r1, r2, r3, r4, r5, r6⟩ := ih (i + 1) K _ (by omega) (by omega) (tZ_o t a2) (by rw [a2.1 _ (fun q => by rcases q with q | q <;> omega)]; exact h) a1 (by rw [a3, show 6 + 2 * i + 2 = 6 + 2 * (i + 1) by omega])
    refine ⟨S', ?_, r2, r3, by rw [r4, sI_ne _ (by decide), sI_ne _ (by decide)], fun k hk => by rw [r5 k hk, sI_ne _ (by decide), sI_k hk], fH_tr a2 r6⟩
    rw [f_X5_read_43, ldI_L 0 (by decide) (by decide), h, if_neg (nI_ge (by omega) (by omega)), show f_X5_take (2 : Int32) S = _ from h_tkP (n := 2) t (by decide) (by omega) hp, ob2_s, stI_n (by omega) (by decide), le1_e, nI_1]
    exact r1
theorem h_rd76 {c : Nat} {T : Tp} {C : Cr} {z : Nat → Nat} (hC : okCr C) (hc : c = 100 ∨ c = 150) (hT : imN C ≤ T.2) : ∀ (d i K : Nat) (S : Hp), i + d = cT C → d < K → tZ S T → S.1 (c + 1) 1 = nI (cT C) → stH S 1200 C (zI C T z 3 (cP C) i 0) → S.1 90 2 = nI (6 + 2 * cP C + 4 * i) → ∃ S', f_X5_read_76 c 1200 K (nI i) S = f_X5_read_122 c 1200 5000 (0 : Int32) S' ∧ stH S' 1200 C (zI C T z 3 (cP C) (cT C) 0) ∧ S'.1 90 2 = nI (6 + 2 * cP C + 4 * cT C) ∧ S'.1 1200 = S.1 1200 ∧ (∀ k, k ≠ 2 → S'.1 90 k = S.1 90 k) ∧ fH fO S S' := by
  have hnp := hC.1.1
  have hnt := hC.1.2.1
  unfold imN at hT
  intro d
  induction d with
  | zero =>
    intro i K S hi hK t h hs hp
    obtain ⟨K, rfl⟩ : ∃ q, K = q + 1 := ⟨K - 1, by omega⟩
    have e : i = cT C := by omega
    rw [e] at hs hp
    exact ⟨S, by rw [f_X5_read_76, ldI_L 1 (by decide) (by decide), h, if_pos (nI_le (by omega) (by omega))], hs, hp, rfl, fun _ _ => rfl, fH_rf _ S⟩
  | succ d ih =>
    intro i K S hi hK t h hs hp
    obtain ⟨K, rfl⟩ : ∃ q, K = q + 1 := ⟨K - 1, by omega⟩
    obtain ⟨a1, a2, a3⟩ := h_st1 (x := 2) (a := 1202) (p := i) (n := 2) (k := 9 + i) t hs (by decide) (by omega) hp rfl (by omega) (by omega) (by omega) rfl
    have t1 := tZ_o t a2
    obtain ⟨b1, b2, b3⟩ := h_st1 (x := 3) (a := 1203) (p := i) (n := 2) (k := 15 + i) (i := 6 + 2 * cP C + 4 * i + 2) t1 a1 (by decide) (by omega) a3 rfl (by omega) (by omega) (by omega) (zI_t hnp (by omega))
    obtain ⟨S', r1, r2, r3, r4, r5, r6⟩ := ih (i + 1) K _ (by omega) (by omega) (tZ_o t1 b2) (by rw [b2.1 _ (fun q => by rcases q with q | q <;> omega), a2.1 _ (fun q => by rcases q with q | q <;> omega)]; exact h) b1 (by rw [b3, show 6 + 2 * cP C + 4 * i + 2 + 2 = 6 + 2 * cP C + 4 * (i + 1) by omega])
    refine ⟨S', ?_, r2, r3, by rw [r4, sI_ne _ (by decide), sI_ne _ (by decide), sI_ne _ (by decide), sI_ne _ (by decide)], fun k hk => by rw [r5 k hk, sI_ne _ (by decide), sI_k hk, sI_ne _ (by decide), sI_k hk], fH_tr a2 (fH_tr b2 r6)⟩
    rw [f_X5_read_76, ldI_L 1 (by decide) (by decide), h, if_neg (nI_ge (by omega) (by omega)), show f_X5_take (2 : Int32) S = _ from h_tkP (n := 2) t (by decide) (by omega) hp, ob2_s, stI_n (by omega) (by decide), show f_X5_take (2 : Int32) (ho_sI (ho_sI S 90 2 (nI (6 + 2 * cP C + 4 * i + 2))) (1200 + 2) i (nI (tk1 T (6 + 2 * cP C + 4 * i) 2 0))) = _ from h_tkP (n := 2) t1 (by decide) (by omega) a3, ob2_s, stI_n (by omega) (by decide), le1_e, nI_1]
    exact r1
theorem h_rd122 {c : Nat} {T : Tp} {C : Cr} {z : Nat → Nat} (hC : okCr C) (hc : c = 100 ∨ c = 150) (hT : imN C ≤ T.2) : ∀ (d i K : Nat) (S : Hp), i + d = cW C → d < K → tZ S T → S.1 (c + 1) 2 = nI (cW C) → stH S 1200 C (zI C T z 3 (cP C) (cT C) i) → S.1 90 2 = nI (6 + 2 * cP C + 4 * cT C + i) → ∃ S', f_X5_read_122 c 1200 K (nI i) S = some S' ∧ stH S' 1200 C (zI C T z 3 (cP C) (cT C) (cW C)) ∧ S'.1 1200 = S.1 1200 ∧ (∀ k, k ≠ 2 → S'.1 90 k = S.1 90 k) ∧ fH fO S S' := by
  obtain ⟨⟨hnp, hnt, hnw⟩, -⟩ := id hC
  unfold imN at hT
  intro d
  induction d with
  | zero =>
    intro i K S hi hK t h hs hp
    obtain ⟨K, rfl⟩ : ∃ q, K = q + 1 := ⟨K - 1, by omega⟩
    have e : i = cW C := by omega
    rw [e] at hs hp
    exact ⟨S, by rw [f_X5_read_122, ldI_L 2 (by decide) (by decide), h, if_pos (nI_le (by omega) (by omega))], hs, rfl, fun _ _ => rfl, fH_rf _ S⟩
  | succ d ih =>
    intro i K S hi hK t h hs hp
    obtain ⟨K, rfl⟩ : ∃ q, K = q + 1 := ⟨K - 1, by omega⟩
    have f1 : fH (fun b => b = 90) S (ho_sI S 90 2 (nI (6 + 2 * cP C + 4 * cT C + i + 1))) := fH_sI S rfl (by decide)
    have s1 := stH_seat (w := i) (v := tk1 T (6 + 2 * cP C + 4 * cT C + i) 1 0) hC (stH_f hs f1 (fun b q => by omega)) (by omega)
    rw [zI_w hnp hnt] at s1
    have a2 : fH fO S (ho_sI (ho_sI S 90 2 (nI (6 + 2 * cP C + 4 * cT C + i + 1))) (1200 + 4) i (nI (tk1 T (6 + 2 * cP C + 4 * cT C + i) 1 0))) := fH_tr (fH_mo f1 (fun b q => Or.inl q)) (fH_sI _ (Or.inr (by omega)) (by decide))
    obtain ⟨S', r1, r2, r4, r5, r6⟩ := ih (i + 1) K _ (by omega) (by omega) (tZ_o t a2) (by rw [a2.1 _ (fun q => by rcases q with q | q <;> omega)]; exact h) s1 (by rw [sI_ne _ (by decide), sI_v]; rfl)
    refine ⟨S', ?_, r2, by rw [r4, sI_ne _ (by decide), sI_ne _ (by decide)], fun k hk => by rw [r5 k hk, sI_ne _ (by decide), sI_k hk], fH_tr a2 r6⟩
    rw [f_X5_read_122, ldI_L 2 (by decide) (by decide), h, if_neg (nI_ge (by omega) (by omega)), show f_X5_take (1 : Int32) S = _ from h_tkP (n := 1) t (by decide) (by omega) hp, ob2_s, stI_n (by omega) (by decide), le1_e, nI_1]
    exact r1
abbrev zO (C : Cr) (T : Tp) (z : Nat → Nat) : Nat → Nat := zI C T z 3 (cP C) (cT C) (cW C)
theorem h_read {S : Hp} {c : Nat} {T : Tp} {C : Cr} {z : Nat → Nat} (hC : okCr C) (hc : c = 100 ∨ c = 150) (hT : imN C ≤ T.2) (t : tZ S T) (h0 : S.1 (c + 1) 0 = nI (cP C)) (h1 : S.1 (c + 1) 1 = nI (cT C)) (h2 : S.1 (c + 1) 2 = nI (cW C)) (hs : stH S 1200 C z) : ∃ S', f_X5_read c 1200 S = some S' ∧ stH S' 1200 C (zO C T z) ∧ S'.1 1200 7 = 0 ∧ (∀ k, k ≠ 2 → S'.1 90 k = S.1 90 k) ∧ fH fO S S' := by
  obtain ⟨⟨hnp, hnt, hnw⟩, -⟩ := id hC
  have hT' : 6 + 2 * cP C + 4 * cT C + cW C ≤ T.2 := hT
  obtain ⟨S2, hS2⟩ : ∃ S2, S2 = ho_sI (ho_sI S 90 2 (0 : Int32)) 1200 7 (0 : Int32) := ⟨_, rfl⟩
  have f2 : fH fO S S2 := by rw [hS2]; exact fH_tr (fH_sI S (Or.inl rfl) (by decide)) (fH_sI _ (Or.inr (by omega)) (by decide))
  have p2 : S2.1 90 2 = nI 0 := by rw [hS2, sI_ne _ (by decide), sI_v]; rfl
  obtain ⟨S4, hS4⟩ : ∃ S4, S4 = ho_sI (ho_sI S2 90 2 (nI (0 + 2))) 1200 0 (nI (tk1 T 0 2 0)) := ⟨_, rfl⟩
  have f4 : fH fO S2 S4 := by rw [hS4]; exact fH_tr (fH_sI S2 (Or.inl rfl) (by decide)) (fH_sI _ (Or.inr (by omega)) (by decide))
  have p4 : S4.1 90 2 = nI 2 := by rw [hS4, sI_ne _ (by decide), sI_v]
  obtain ⟨S6, hS6⟩ : ∃ S6, S6 = ho_sI (ho_sI S4 90 2 (nI (2 + 3))) 1200 1 (nI (tk1 T 2 3 0)) := ⟨_, rfl⟩
  have f6 : fH fO S4 S6 := by rw [hS6]; exact fH_tr (fH_sI S4 (Or.inl rfl) (by decide)) (fH_sI _ (Or.inr (by omega)) (by decide))
  have p6 : S6.1 90 2 = nI 5 := by rw [hS6, sI_ne _ (by decide), sI_v]
  obtain ⟨S8, hS8⟩ : ∃ S8, S8 = ho_sI (ho_sI S6 90 2 (nI (5 + 1))) 1200 2 (nI (tk1 T 5 1 0)) := ⟨_, rfl⟩
  have f8 : fH fO S6 S8 := by rw [hS8]; exact fH_tr (fH_sI S6 (Or.inl rfl) (by decide)) (fH_sI _ (Or.inr (by omega)) (by decide))
  have p8 : S8.1 90 2 = nI (6 + 2 * 0) := by rw [hS8, sI_ne _ (by decide), sI_v]
  have fa := fH_tr f2 (fH_tr f4 (fH_tr f6 f8))
  have t2 := tZ_o t f2
  have t4 := tZ_o t2 f4
  have t6 := tZ_o t4 f6
  have t8 := tZ_o t6 f8
  have g8 : ∀ b, b ≠ 90 → b ≠ 1200 → S8.1 b = S.1 b := fun b q1 q2 => by rw [hS8, sI_ne _ q2, sI_ne _ q1, hS6, sI_ne _ q2, sI_ne _ q1, hS4, sI_ne _ q2, sI_ne _ q1, hS2, sI_ne _ q2, sI_ne _ q1]
  have zz : ∀ k, 3 ≤ k → zI C T z 3 0 0 0 k = z k := fun k hk => by
    unfold zI
    rw [if_neg (by omega), if_neg (by omega), if_neg (by omega), if_neg (by omega), if_neg (by omega), if_neg (by omega), if_neg (by omega)]
  have v7 : S8.1 1200 7 = 0 := by rw [hS8, sI_k (by decide), sI_ne _ (by decide), hS6, sI_k (by decide), sI_ne _ (by decide), hS4, sI_k (by decide), sI_ne _ (by decide), hS2, sI_v]
  have s8 : stH S8 1200 C (zI C T z 3 0 0 0) := by
    refine ⟨hs.1, ⟨?_, ?_, ?_⟩, fun p hp => ?_, fun w hw => ?_⟩
    · rw [hS8, sI_k (by decide), sI_ne _ (by decide), hS6, sI_k (by decide), sI_ne _ (by decide), hS4, sI_v]; rfl
    · rw [hS8, sI_k (by decide), sI_ne _ (by decide), hS6, sI_v]; rfl
    · rw [hS8, sI_v]; rfl
    · rw [g8 _ (by decide) (by decide), g8 _ (by decide) (by decide), g8 _ (by decide) (by decide), zz _ (by omega), zz _ (by omega), zz _ (by omega)]; exact hs.2.2.1 p hp
    · rw [g8 _ (by decide) (by decide), zz _ (by omega)]; exact hs.2.2.2 w hw
  obtain ⟨S9, a1, a2, a3, a4, a5, a6⟩ := h_rd43 (z := z) hC hc hT (cP C) 0 5000 S8 (by omega) (by omega) t8 (by rw [g8 _ (by omega) (by omega)]; exact h0) s8 p8
  have t9 := tZ_o t8 a6
  obtain ⟨S10, b1, b2, b3, b4, b5, b6⟩ := h_rd76 (z := z) hC hc hT (cT C) 0 5000 S9 (by omega) (by omega) t9 (by rw [a6.1 _ (fun q => by rcases q with q | q <;> omega), g8 _ (by omega) (by omega)]; exact h1) a2 a3
  have t10 := tZ_o t9 b6
  obtain ⟨S11, c1, c2, c4, c5, c6⟩ := h_rd122 (z := z) hC hc hT (cW C) 0 5000 S10 (by omega) (by omega) t10 (by rw [b6.1 _ (fun q => by rcases q with q | q <;> omega), a6.1 _ (fun q => by rcases q with q | q <;> omega), g8 _ (by omega) (by omega)]; exact h2) b2 b3
  refine ⟨S11, ?_, c2, by rw [c4, b4, a4]; exact v7, fun k hk => ?_, fH_tr fa (fH_tr a6 (fH_tr b6 c6))⟩
  · unfold f_X5_read
    rw [le1_e, le1_e, ← hS2, show f_X5_take (2 : Int32) S2 = _ from h_tkP (n := 2) (i := 0) t2 (by decide) (by omega) p2, ob2_s, le1_e, ← hS4, show f_X5_take (3 : Int32) S4 = _ from h_tkP (n := 3) (i := 2) t4 (by decide) (by omega) p4, ob2_s, le1_e, ← hS6, show f_X5_take (1 : Int32) S6 = _ from h_tkP (n := 1) (i := 5) t6 (by decide) (by omega) p6, ob2_s, le1_e, ← hS8, show f_X5_read_43 c 1200 5000 (0 : Int32) S8 = _ from a1, show f_X5_read_76 c 1200 5000 (0 : Int32) S9 = _ from b1, show f_X5_read_122 c 1200 5000 (0 : Int32) S10 = _ from c1]
  · rw [c5 k hk, b5 k hk, a5 k hk, hS8, sI_ne _ (by decide), sI_k hk, hS6, sI_ne _ (by decide), sI_k hk, hS4, sI_ne _ (by decide), sI_k hk, hS2, sI_ne _ (by decide), sI_k hk]
theorem gPo_i {T : Tp} {f : Bool} : ∀ n, gPo T f n = true → f = true ∧ ∀ p, p < n → tk1 T (6 + 2 * p) 2 0 ≤ 9999
  | 0, h => ⟨h, fun p hp => absurd hp (by omega)⟩
  | n + 1, h => by
    rw [gPo, Bool.and_eq_true] at h
    have ih := gPo_i n h.1
    refine ⟨ih.1, fun p hp => ?_⟩
    by_cases e : p = n
    · rw [e]; exact of_decide_eq_true h.2
    · exact ih.2 p (by omega)
theorem gT_i {T : Tp} {o : Nat} {f : Bool} : ∀ n, gT T o f n = true → f = true ∧ ∀ p, p < n → tk1 T (o + 4 * p) 2 0 ≤ 9999 ∧ tk1 T (o + 4 * p + 2) 2 0 ≤ 999
  | 0, h => ⟨h, fun p hp => absurd hp (by omega)⟩
  | n + 1, h => by
    rw [gT, Bool.and_eq_true, Bool.and_eq_true] at h
    have ih := gT_i n h.1.1
    refine ⟨ih.1, fun p hp => ?_⟩
    by_cases e : p = n
    · rw [e]; exact ⟨of_decide_eq_true h.1.2, of_decide_eq_true h.2⟩
    · exact ih.2 p (by omega)
theorem gS_i {T : Tp} {o : Nat} {f : Bool} : ∀ n, gS T o f n = true → f = true ∧ ∀ p, p < n → tk1 T (o + p) 1 0 ≤ 9
  | 0, h => ⟨h, fun p hp => absurd hp (by omega)⟩
  | n + 1, h => by
    rw [gS, Bool.and_eq_true] at h
    have ih := gS_i n h.1
    refine ⟨ih.1, fun p hp => ?_⟩
    by_cases e : p = n
    · rw [e]; exact of_decide_eq_true h.2
    · exact ih.2 p (by omega)
theorem zO_ok {C : Cr} {T : Tp} {z : Nat → Nat} (hC : okCr C) (hz : okZ C z) (h : gAl C T = true) : okZ C (zO C T z) := by
  obtain ⟨⟨hnp, hnt, hnw⟩, -⟩ := id hC
  unfold gAl at h
  obtain ⟨h, hS⟩ := gS_i _ h
  obtain ⟨h, hT⟩ := gT_i _ h
  obtain ⟨h, hP⟩ := gPo_i _ h
  rw [Bool.and_eq_true, Bool.and_eq_true] at h
  obtain ⟨⟨x1, x2⟩, x3⟩ := h
  have y1 := of_decide_eq_true x1
  have y2 := of_decide_eq_true x2
  have y3 := of_decide_eq_true x3
  obtain ⟨a0, a1, a2, a3, a4, a5, a6, a7, a8⟩ := hz
  have e0 : zO C T z 0 = tk1 T 0 2 0 := rfl
  have e1 : zO C T z 1 = tk1 T 2 3 0 := rfl
  have e2 : zO C T z 2 = tk1 T 5 1 0 := rfl
  have e3 : ∀ p, p < 6 → zO C T z (3 + p) = if p < cP C then tk1 T (6 + 2 * p) 2 0 else z (3 + p) := fun p hp => by
    show zI C T z 3 (cP C) (cT C) (cW C) (3 + p) = _
    unfold zI
    rw [if_neg (by omega), if_neg (by omega), if_neg (by omega), show 3 + p - 3 = p by omega]
    by_cases q : p < cP C
    · rw [if_pos q, if_pos (by omega)]
    · rw [if_neg q, if_neg (by omega), if_neg (by omega), if_neg (by omega), if_neg (by omega)]
  have e9 : ∀ p, p < 6 → zO C T z (9 + p) = if p < cT C then tk1 T (6 + 2 * cP C + 4 * p) 2 0 else z (9 + p) := fun p hp => by
    show zI C T z 3 (cP C) (cT C) (cW C) (9 + p) = _
    unfold zI
    rw [if_neg (by omega), if_neg (by omega), if_neg (by omega), if_neg (by omega), show 9 + p - 9 = p by omega]
    by_cases q : p < cT C
    · rw [if_pos q, if_pos (by omega)]
    · rw [if_neg q, if_neg (by omega), if_neg (by omega), if_neg (by omega)]
  have e15 : ∀ p, p < 6 → zO C T z (15 + p) = if p < cT C then tk1 T (6 + 2 * cP C + 4 * p + 2) 2 0 else z (15 + p) := fun p hp => by
    show zI C T z 3 (cP C) (cT C) (cW C) (15 + p) = _
    unfold zI
    rw [if_neg (by omega), if_neg (by omega), if_neg (by omega), if_neg (by omega), if_neg (by omega), show 15 + p - 15 = p by omega]
    by_cases q : p < cT C
    · rw [if_pos q, if_pos (by omega)]
    · rw [if_neg q, if_neg (by omega), if_neg (by omega)]
  have e21 : ∀ w, w < cW C → zO C T z (21 + w) = tk1 T (6 + 2 * cP C + 4 * cT C + w) 1 0 := fun w hw => by
    show zI C T z 3 (cP C) (cT C) (cW C) (21 + w) = _
    unfold zI
    rw [if_neg (by omega), if_neg (by omega), if_neg (by omega), if_neg (by omega), if_neg (by omega), if_neg (by omega), if_pos (by omega), show 21 + w - 21 = w by omega]
  refine ⟨by rw [e0]; exact y1, by rw [e1]; exact y2, by rw [e2]; exact y3, fun p hp => ?_, fun p hp => ?_, fun p hp => ?_, fun w hw => by rw [e21 w hw]; exact hS w hw, fun p hp hp2 => by rw [e3 p hp2, if_neg (by omega)]; exact a7 p hp hp2, fun p hp hp2 => by rw [e9 p hp2, e15 p hp2, if_neg (by omega), if_neg (by omega)]; exact a8 p hp hp2⟩
  · rw [e3 p hp]; split
    next q => exact hP p q
    · exact a3 p hp
  · rw [e9 p hp]; split
    next q => exact (hT p q).1
    · exact a4 p hp
  · rw [e15 p hp]; split
    next q => exact (hT p q).2
    · exact a5 p hp

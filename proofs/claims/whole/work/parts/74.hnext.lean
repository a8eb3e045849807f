/-! level 2: the class: the next word, number or sign -/
theorem h_rd10 {T : Tp} {s m : Nat} (hm : rn dgt T s = s + m) (hsm : s + m ≤ T.2) : ∀ (d i k : Nat) (S : Hp), tB S T → i + d = m → d < k → S.1 10 9 = nI (s + i) → S.1 10 5 = nI s → S.1 10 6 = nI (dv T s (min 4 i)) →
    ∃ S', f_X10_readDigits_10 k S = some S' ∧ S'.1 10 9 = nI (s + m) ∧ S'.1 10 6 = nI (dv T s (min 4 m)) ∧ fM (fun b k => b = 10 ∧ (k = 6 ∨ k = 9)) S S' := by
  intro d
  induction d with
  | zero =>
    intro i k S hB hi hk h9 h5 h6
    obtain ⟨k, rfl⟩ : ∃ q, k = q + 1 := ⟨k - 1, by omega⟩
    obtain ⟨b1, b2, b3, -⟩ := hB
    have e : i = m := (by omega)
    subst e
    have hno := rn_no dgt T s
    rw [hm] at hno
    refine ⟨S, ?_, h9, h6, fM_rf _ S⟩
    rw [f_X10_readDigits_10, b2, h9]
    by_cases q : s + i < T.2
    · obtain ⟨t1, t2⟩ := b3 (s + i) q
      have hf : dgt (T.1 (s + i)) = false := by
        cases hl : dgt (T.1 (s + i)) with
        | false => rfl
        | true => exact absurd ⟨q, hl⟩ hno
      rw [if_neg (nI_ge q (by omega)), ldI_n (by omega) (by decide), t1]
      rcases (sb_dgt _ t2).mpr hf with x | x
      · rw [if_pos x]
      · by_cases y : sb (T.1 (s + i)) < (48 : Int32)
        · rw [if_pos y]
        · rw [if_neg y, ldI_n (by omega) (by decide), t1, if_pos x]
    · rw [if_pos (nI_le (by omega) (by omega))]
  | succ d ih =>
    intro i k S hB hi hk h9 h5 h6
    obtain ⟨k, rfl⟩ : ∃ q, k = q + 1 := ⟨k - 1, by omega⟩
    have hB' := hB
    obtain ⟨b1, b2, b3, -⟩ := hB'
    obtain ⟨i1, i2⟩ := rn_in dgt T (e := s) (j := s + i) (by omega) (by omega)
    obtain ⟨t1, t2⟩ := b3 (s + i) i1
    have hl := dgt_i.mp i2
    have hn : ¬ (sb (T.1 (s + i)) < (48 : Int32) ∨ (57 : Int32) < sb (T.1 (s + i))) := fun x => by
      have := (sb_dgt _ t2).mp x
      rw [i2] at this; cases this
    rw [f_X10_readDigits_10, b2, h9, if_neg (nI_ge i1 (by omega)), ldI_n (by omega) (by decide), t1, if_neg (fun x => hn (Or.inl x)), ldI_n (by omega) (by decide), t1, if_neg (fun x => hn (Or.inr x)), h5, pk_sub (by omega), show s + i - s = i by omega]
    have h86 : ∀ Sx : Hp, Sx.1 10 9 = nI (s + i) → Sx.1 10 5 = nI s → Sx.1 10 6 = nI (dv T s (min 4 (i + 1))) → fM (fun b k => b = 10 ∧ (k = 6 ∨ k = 9)) S Sx → ∃ S', f_X10_readDigits_86 (f_X10_readDigits_10 k) Sx = some S' ∧ S'.1 10 9 = nI (s + m) ∧ S'.1 10 6 = nI (dv T s (min 4 m)) ∧ fM (fun b k => b = 10 ∧ (k = 6 ∨ k = 9)) S S' := by
      intro Sx x9 x5 x6 fx
      have f1 : fM (fun b k => b = 10 ∧ (k = 6 ∨ k = 9)) S (ho_sI Sx 10 9 (nI (s + (i + 1)))) := fM_tr fx (fM_sI _ ⟨rfl, by omega⟩)
      obtain ⟨S', r1, r2, r3, r4⟩ := ih (i + 1) k (ho_sI Sx 10 9 (nI (s + (i + 1)))) (tB_f hB (fM_mo f1 (fun b k q => ⟨q.1, by omega⟩))) (by omega) (by omega) sI_v (by rw [sI_k (by decide)]; exact x5) (by rw [sI_k (by decide)]; exact x6)
      refine ⟨S', ?_, r2, r3, fM_tr f1 r4⟩
      unfold f_X10_readDigits_86
      rw [le1_e, x9, nI_1, show s + i + 1 = s + (i + 1) by omega, r1]
    by_cases q : 4 ≤ i
    · rw [if_pos ((geL 4 (by omega) (by decide)).mpr q)]
      exact h86 S h9 h5 (by rw [h6, Nat.min_eq_left q, Nat.min_eq_left (by omega)]) (fM_rf _ S)
    · have e7 : ((nI (dv T s (min 4 i)) * (10 : Int32)) + sb (T.1 (s + i))) - (48 : Int32) = nI (dv T s (min 4 (i + 1))) := by
        rw [Nat.min_eq_right (by omega), Nat.min_eq_right (by omega), sb_lo _ (by omega), lit_nI 10, pk_mul, nI_add, lit_nI 48, pk_sub (by omega), dv]
        congr 1
        omega
      rw [if_neg (fun x => q ((geL 4 (by omega) (by decide)).mp x)), ldI_n (by omega) (by decide), t1, h6, e7, le1_e]
      exact h86 _ (by rw [sI_k (by decide)]; exact h9) (by rw [sI_k (by decide)]; exact h5) sI_v (fM_sI _ ⟨rfl, by omega⟩)
theorem lts_wd {T : Tp} {s t : Nat} (h : t ≤ rn ltr T s) : lts (wd T s t) := by
  intro x hx
  unfold wd at hx
  simp only [List.mem_map, List.mem_range] at hx
  obtain ⟨i, h1, rfl⟩ := hx
  have := rn_in ltr T (e := s) (j := s + i) (by omega) (by omega)
  exact ltr_i.mp this.2
theorem h_word {S : Hp} {T : Tp} {s : Nat} (hB : tB S T) (hs : s ≤ T.2) (h9 : S.1 10 9 = nI s) (h5 : S.1 10 5 = nI s) : ∃ S', f_X10_readWord S = some S' ∧ S'.1 10 4 = 1 ∧ S'.1 10 5 = nI s ∧ S'.1 10 9 = nI (rn ltr T s) ∧ (rn ltr T s - s ≤ 6 → S'.1 10 7 = nI (enc (wd T s (rn ltr T s)))) ∧ ((∃ i, i < 35 ∧ S'.1 10 6 = nI i ∧ wd T s (rn ltr T s) = wL.getD i []) ∨ (S'.1 10 6 = -1 ∧ ∀ i, i < 35 → wd T s (rn ltr T s) ≠ wL.getD i [])) ∧ fM nP S S' := by
  have hr := rn_ge ltr T s
  have hr2 := rn_le ltr T hs
  have hT := hB.1
  have f0 : fM nP S (ho_sI (ho_sI S 10 4 1) 10 7 0) := fM_tr (fM_sI _ ⟨rfl, by omega⟩) (fM_sI _ ⟨rfl, by omega⟩)
  obtain ⟨S1, r1, r2, r3, r4⟩ := h_rw10 (T := T) (s := s) (m := rn ltr T s - s) (by omega) (by omega) (rn ltr T s - s) 0 5000 (ho_sI (ho_sI S 10 4 1) 10 7 0) (tB_f hB f0) (by omega) (by omega) (by rw [sI_k (by decide), sI_k (by decide)]; exact h9) (by rw [sI_k (by decide), sI_k (by decide)]; exact h5) sI_v
  rw [show s + (rn ltr T s - s) = rn ltr T s by omega] at r2
  have f1 : fM nP S S1 := fM_tr f0 (fM_mo r4 (fun b k q => ⟨q.1, by omega⟩))
  have e5 : S1.1 10 5 = nI s := by rw [r4.1 10 5 (by omega), sI_k (by decide), sI_k (by decide)]; exact h5
  have e4 : S1.1 10 4 = 1 := by rw [r4.1 10 4 (by omega), sI_k (by decide), sI_v]
  have e0 : f_X10_readWord S = f_X10_readWord_112 5000 (nI (rn ltr T s - s)) S1 := by
    unfold f_X10_readWord
    rw [le1_e, le1_e, r1]
    unfold f_X10_readWord_102
    rw [r2, e5, pk_sub hr, le1_e]
  rw [e0]
  have hlt := lts_wd (T := T) (s := s) (Nat.le_refl (rn ltr T s))
  by_cases q : rn ltr T s - s ≤ 6
  · obtain ⟨S2, p1, p2, p3, p4⟩ := h_rw112 (6 - (rn ltr T s - s)) (rn ltr T s - s) 5000 S1 (by omega) (by omega) r3
    have f2 : fM nP S S2 := fM_tr f1 (fM_mo p4 (fun b k q => ⟨q.1, by omega⟩))
    have e7 : nv T s (min 6 (rn ltr T s - s)) * 27 ^ (6 - (rn ltr T s - s)) = enc (wd T s (rn ltr T s)) := by
      unfold enc
      rw [Nat.min_eq_right q, nv_L, wd_len, show s + (rn ltr T s - s) = rn ltr T s by omega]
    rw [e7] at p2
    obtain ⟨S3, u1, u2, u3⟩ := h_rw142 (T := T) (s := s) (t := rn ltr T s) (w := wd T s (rn ltr T s)) ⟨hr, by omega⟩ 35 0 5000 S2 (tB_f hB f2) (by omega) (by omega) (by rw [p4.1 10 9 (by omega)]; exact r2) (by rw [p4.1 10 5 (by omega)]; exact e5) q rfl hlt p2 (Or.inr ⟨p3, fun j hj => absurd hj (by omega)⟩)
    refine ⟨S3, by rw [p1]; exact u1, ?_, ?_, ?_, fun _ => ?_, u2, fM_tr f2 (fM_mo u3 (fun b k q => ⟨q.1, by omega⟩))⟩
    · rw [u3.1 10 4 (by omega), p4.1 10 4 (by omega)]; exact e4
    · rw [u3.1 10 5 (by omega), p4.1 10 5 (by omega)]; exact e5
    · rw [u3.1 10 9 (by omega), p4.1 10 9 (by omega)]; exact r2
    · rw [u3.1 10 7 (by omega)]; exact p2
  · have e1 : f_X10_readWord_112 5000 (nI (rn ltr T s - s)) S1 = some (ho_sI S1 10 6 (-1)) := by
      rw [f_X10_readWord_112, lit_nI 6, if_pos (nI_le (by omega) (by omega)), le1_e, f_X10_readWord_142, lit_nI 35, if_neg (by decide), sI_k (by decide), sI_k (by decide), r2, e5, pk_sub hr, lit_nI 6, if_pos (nI_lt (by omega) (by omega))]
    refine ⟨_, e1, ?_, ?_, ?_, fun x => absurd x q, Or.inr ⟨sI_v, fun i hi x => ?_⟩, fM_tr f1 (fM_sI _ ⟨rfl, by omega⟩)⟩
    · rw [sI_k (by decide)]; exact e4
    · rw [sI_k (by decide)]; exact e5
    · rw [sI_k (by decide)]; exact r2
    · have := congrArg List.length x
      rw [wd_len] at this
      have := (wL_ok i hi).1
      omega
theorem h_201 {S : Hp} {x1 x2 : Int32} : f_X10_next_201 x1 x2 S = some (if ¬ x2 = 0 ∧ S.1 10 5 = x1 ∧ (S.1 10 4 = 1 ∨ S.1 10 4 = 2) then ho_sI S 10 4 4 else S) := by
  unfold f_X10_next_201 f_X10_next_229
  by_cases a : x2 = 0
  · rw [if_pos a, if_neg (fun q => q.1 a)]
  · rw [if_neg a]
    by_cases b : S.1 10 5 = x1
    · rw [if_pos b]
      by_cases c : S.1 10 4 = 1
      · rw [if_pos c, if_pos ⟨a, b, Or.inl c⟩, le1_e]
      · rw [if_neg c]
        by_cases d : S.1 10 4 = 2
        · rw [if_pos d, if_pos ⟨a, b, Or.inr d⟩, le1_e]
        · rw [if_neg d, if_neg (fun q => by rcases q.2.2 with q | q <;> contradiction)]
    · rw [if_neg b, if_neg (fun q => b q.2.1)]
theorem h_nx26 {S : Hp} {T : Tp} {e : Nat} {pl : Bool} (hB : tB S T) (he : e ≤ T.2) (h9 : S.1 10 9 = nI e) : ∃ S', f_X10_next_26 (nI e) (if pl = true then 1 else 0) S = some S' ∧ tR S' T (e, pl) ∧ fM nP S S' := by
  have hT := hB.1
  have hr := rn_ge blk T e
  have hr2 := rn_le blk T he
  have es : tS T (e, pl) = rn blk T e := rfl
  have hsk := h_skip (T := T) (x1 := nI e) (x2 := if pl = true then 1 else 0) (rn blk T e - e) e 5000 (ho_sI S 10 5 (nI e)) (tB_f hB (fM_sI _ ⟨rfl, by omega⟩)) (by omega) he (by omega) sI_v
  rw [show e + (rn blk T e - e) = rn blk T e by omega, sI_w] at hsk
  have e0 : f_X10_next_26 (nI e) (if pl = true then 1 else 0) S = f_X10_next_87 (nI e) (if pl = true then 1 else 0) (ho_sI S 10 5 (nI (rn blk T e))) := by
    unfold f_X10_next_26
    rw [h9, le1_e, hsk]
  rw [e0]
  generalize hs : rn blk T e = s at *
  have f2 : fM nP S (ho_sI (ho_sI S 10 5 (nI s)) 10 9 (nI s)) := fM_tr (fM_sI _ ⟨rfl, by omega⟩) (fM_sI _ ⟨rfl, by omega⟩)
  generalize hS2 : ho_sI (ho_sI S 10 5 (nI s)) 10 9 (nI s) = S2 at f2
  have hB2 := tB_f hB f2
  have b5 : S2.1 10 5 = nI s := by rw [← hS2, sI_k (by decide), sI_v]
  have b9 : S2.1 10 9 = nI s := by rw [← hS2, sI_v]
  have b1 : S2.1 10 1 = nI T.2 := hB2.2.1
  have pl0 : (¬ (if pl = true then (1 : Int32) else 0) = 0) ↔ pl = true := by
    rw [ite01]
    simp
  unfold f_X10_next_87
  rw [le1_e, sI_v, hS2, b1, b5]
  by_cases q : s < T.2
  · obtain ⟨t1, t2⟩ := hB2.2.2.1 s q
    rw [if_neg (nI_ge q (by omega)), ldI_n (by omega) (by decide), t1]
    unfold f_X10_next_119
    rw [b5, b1, if_pos (nI_lt q (by omega))]
    by_cases ql : ltr (T.1 s) = true
    · have hn : ¬ (sb (T.1 s) < (97 : Int32) ∨ (122 : Int32) < sb (T.1 s)) := fun x => by
        have := (sb_ltr _ t2).mp x
        rw [ql] at this; cases this
      obtain ⟨S3, u1, u2, u3, u4, u5, u6, u7⟩ := h_word hB2 (Nat.le_of_lt q) b9 b5
      rw [if_neg (fun x => hn (Or.inl x)), if_neg (fun x => hn (Or.inr x)), u1, ob_s, h_201, u3, u2]
      have ek : tE T (e, pl) = rn ltr T s := by rw [tE_word (by rw [es]; exact q) (by rw [es]; exact ql), es]
      have fin : ∀ S4, (S4 = S3 ∧ tK T (e, pl) = 1) ∨ (S4 = ho_sI S3 10 4 4 ∧ tK T (e, pl) = 4) → tR S4 T (e, pl) ∧ fM nP S S4 := by
        intro S4 h4
        unfold tR
        rw [es, ek]
        rcases h4 with ⟨rfl, k1⟩ | ⟨rfl, k4⟩
        · rw [k1]
          refine ⟨⟨tB_f hB2 u7, he, u2, u3, u4, fun _ => ⟨u5, u6⟩, fun x => absurd x (by decide), fun x => absurd x (by decide)⟩, fM_tr f2 u7⟩
        · rw [k4]
          have f5 : fM nP S3 (ho_sI S3 10 4 4) := fM_sI _ ⟨rfl, by omega⟩
          refine ⟨⟨tB_f hB2 (fM_tr u7 f5), he, sI_v, by rw [sI_k (by decide)]; exact u3, by rw [sI_k (by decide)]; exact u4, fun x => absurd x (by decide), fun x => absurd x (by decide), fun x => absurd x (by decide)⟩, fM_tr f2 (fM_tr u7 f5)⟩
      by_cases g : pl = true ∧ s = e
      · refine ⟨_, rfl, fin _ (Or.inr ⟨if_pos ⟨pl0.mpr g.1, by rw [g.2], Or.inl rfl⟩, ?_⟩)⟩
        unfold tK
        rw [es, if_neg (by omega), if_pos ql, if_pos ⟨g.1, g.2⟩]
      · refine ⟨_, rfl, fin _ (Or.inl ⟨if_neg (fun x => g ⟨pl0.mp x.1, (nI_eq (by omega) (by omega)).mp x.2.1⟩), ?_⟩)⟩
        unfold tK
        rw [es, if_neg (by omega), if_pos ql, if_neg g]
    · have hl : ltr (T.1 s) = false := by simpa using ql
      have e158 : (if sb (T.1 s) < (97 : Int32) then f_X10_next_158 (nI e) (if pl = true then 1 else 0) (sb (T.1 s)) S2 else if (122 : Int32) < sb (T.1 s) then f_X10_next_158 (nI e) (if pl = true then 1 else 0) (sb (T.1 s)) S2 else ob (f_X10_readWord S2) (fun S1 => f_X10_next_201 (nI e) (if pl = true then 1 else 0) S1)) = f_X10_next_158 (nI e) (if pl = true then 1 else 0) (sb (T.1 s)) S2 := by
        rcases (sb_ltr _ t2).mpr hl with x | x
        · rw [if_pos x]
        · by_cases y : sb (T.1 s) < (97 : Int32)
          · rw [if_pos y]
          · rw [if_neg y, if_pos x]
      rw [e158]
      unfold f_X10_next_158
      by_cases qd : dgt (T.1 s) = true
      · have hn : ¬ (sb (T.1 s) < (48 : Int32) ∨ (57 : Int32) < sb (T.1 s)) := fun x => by
          have := (sb_dgt _ t2).mp x
          rw [qd] at this; cases this
        have hrd := rn_ge dgt T s
        have hrd2 := rn_le dgt T (Nat.le_of_lt q)
        have f3 : fM nP S2 (ho_sI (ho_sI S2 10 4 2) 10 6 0) := fM_tr (fM_sI _ ⟨rfl, by omega⟩) (fM_sI _ ⟨rfl, by omega⟩)
        obtain ⟨S3, u1, u2, u3, u4⟩ := h_rd10 (T := T) (s := s) (m := rn dgt T s - s) (by omega) (by omega) (rn dgt T s - s) 0 5000 (ho_sI (ho_sI S2 10 4 2) 10 6 0) (tB_f hB2 f3) (by omega) (by omega) (by rw [sI_k (by decide), sI_k (by decide)]; exact b9) (by rw [sI_k (by decide), sI_k (by decide)]; exact b5) sI_v
        rw [show s + (rn dgt T s - s) = rn dgt T s by omega] at u2
        have f4 : fM nP S2 S3 := fM_tr f3 (fM_mo u4 (fun b k q => ⟨q.1, by omega⟩))
        have v5 : S3.1 10 5 = nI s := by rw [u4.1 10 5 (by omega), sI_k (by decide), sI_k (by decide)]; exact b5
        have v4 : S3.1 10 4 = 2 := by rw [u4.1 10 4 (by omega), sI_k (by decide), sI_v]
        have e3 : f_X10_readDigits S2 = some S3 := by
          unfold f_X10_readDigits
          rw [le1_e, le1_e, u1]
        rw [if_neg (fun x => hn (Or.inl x)), if_neg (fun x => hn (Or.inr x)), e3, ob_s, h_201, v5, v4]
        have ek : tE T (e, pl) = rn dgt T s := by rw [tE_num (by rw [es]; exact q) (by rw [es]; exact qd), es]
        have fin : ∀ S4, (S4 = S3 ∧ tK T (e, pl) = 2) ∨ (S4 = ho_sI S3 10 4 4 ∧ tK T (e, pl) = 4) → tR S4 T (e, pl) ∧ fM nP S S4 := by
          intro S4 h4
          unfold tR
          rw [es, ek]
          rcases h4 with ⟨rfl, k1⟩ | ⟨rfl, k4⟩
          · rw [k1]
            refine ⟨⟨tB_f hB2 f4, he, v4, v5, u2, fun x => absurd x (by decide), fun _ => u3, fun x => absurd x (by decide)⟩, fM_tr f2 f4⟩
          · rw [k4]
            have f5 : fM nP S3 (ho_sI S3 10 4 4) := fM_sI _ ⟨rfl, by omega⟩
            refine ⟨⟨tB_f hB2 (fM_tr f4 f5), he, sI_v, by rw [sI_k (by decide)]; exact v5, by rw [sI_k (by decide)]; exact u2, fun x => absurd x (by decide), fun x => absurd x (by decide), fun x => absurd x (by decide)⟩, fM_tr f2 (fM_tr f4 f5)⟩
        by_cases g : pl = true ∧ s = e
        · refine ⟨_, rfl, fin _ (Or.inr ⟨if_pos ⟨pl0.mpr g.1, by rw [g.2], Or.inr rfl⟩, ?_⟩)⟩
          unfold tK
          rw [es, if_neg (by omega), if_neg ql, if_pos qd, if_pos ⟨g.1, g.2⟩]
        · refine ⟨_, rfl, fin _ (Or.inl ⟨if_neg (fun x => g ⟨pl0.mp x.1, (nI_eq (by omega) (by omega)).mp x.2.1⟩), ?_⟩)⟩
          unfold tK
          rw [es, if_neg (by omega), if_neg ql, if_pos qd, if_neg g]
      · have hd : dgt (T.1 s) = false := by simpa using qd
        have e177 : (if sb (T.1 s) < (48 : Int32) then f_X10_next_177 (nI e) (if pl = true then 1 else 0) (sb (T.1 s)) S2 else if (57 : Int32) < sb (T.1 s) then f_X10_next_177 (nI e) (if pl = true then 1 else 0) (sb (T.1 s)) S2 else ob (f_X10_readDigits S2) (fun S1 => f_X10_next_201 (nI e) (if pl = true then 1 else 0) S1)) = f_X10_next_177 (nI e) (if pl = true then 1 else 0) (sb (T.1 s)) S2 := by
          rcases (sb_dgt _ t2).mpr hd with x | x
          · rw [if_pos x]
          · by_cases y : sb (T.1 s) < (48 : Int32)
            · rw [if_pos y]
            · rw [if_neg y, if_pos x]
        have k3 : tK T (e, pl) = 3 := tK_sign.mpr ⟨by rw [es]; exact q, by rw [es]; exact hl, by rw [es]; exact hd⟩
        rw [e177]
        unfold f_X10_next_177
        rw [sb_255 _ t2, le1_e, le1_e, sI_k (a := 10) (k := 6) (j := 5) (by decide), sI_k (a := 10) (k := 4) (j := 5) (by decide), b5, nI_1, le1_e, h_201, sI_k (a := 10) (k := 9) (j := 4) (by decide), sI_k (a := 10) (k := 6) (j := 4) (by decide), sI_v, if_neg (fun x => by rcases x.2.2 with x | x <;> exact absurd x (by decide))]
        have f5 : fM nP S2 (ho_sI (ho_sI (ho_sI S2 10 4 3) 10 6 (nI (T.1 s))) 10 9 (nI (s + 1))) := fM_tr (fM_sI _ ⟨rfl, by omega⟩) (fM_tr (fM_sI _ ⟨rfl, by omega⟩) (fM_sI _ ⟨rfl, by omega⟩))
        refine ⟨_, rfl, ?_, fM_tr f2 f5⟩
        unfold tR
        rw [k3, tE_sign k3, es]
        refine ⟨tB_f hB2 f5, he, by rw [sI_k (by decide), sI_k (by decide), sI_v]; rfl, by rw [sI_k (by decide), sI_k (by decide), sI_k (by decide)]; exact b5, sI_v, fun x => absurd x (by decide), fun x => absurd x (by decide), fun _ => by rw [sI_k (by decide), sI_v]⟩
  · have es2 : s = T.2 := (by omega)
    rw [if_pos (nI_le (by omega) (by omega))]
    unfold f_X10_next_119
    rw [b5, b1, if_neg (nI_nlt (by omega) (by omega)), le1_e, h_201, sI_v, if_neg (fun x => by rcases x.2.2 with x | x <;> exact absurd x (by decide))]
    have f5 : fM nP S2 (ho_sI S2 10 4 0) := fM_sI _ ⟨rfl, by omega⟩
    have k0 : tK T (e, pl) = 0 := by
      unfold tK
      rw [es, if_pos (by omega)]
    have eE : tE T (e, pl) = s := by
      unfold tE
      rw [es, if_pos (by omega)]
    refine ⟨_, rfl, ?_, fM_tr f2 f5⟩
    unfold tR
    rw [k0, eE, es]
    exact ⟨tB_f hB2 f5, he, sI_v, by rw [sI_k (by decide)]; exact b5, by rw [sI_k (by decide)]; exact b9, fun x => absurd x (by decide), fun x => absurd x (by decide), fun x => absurd x (by decide)⟩
theorem h_next {S : Hp} {T : Tp} {σ : Lx} (h : tR S T σ) : ∃ S', f_X10_next S = some S' ∧ tR S' T (nx T σ) ∧ fM nP S S' := by
  obtain ⟨h1, h2, h3, h4, h5, -⟩ := h
  have hk : tK T σ < 5 := by
    unfold tK
    repeat' split
    all_goals omega
  obtain ⟨S', r1, r2, r3⟩ := h_nx26 (pl := decide (tK T σ = 1 ∨ tK T σ = 2)) h1 (tE_le h2) h5
  refine ⟨S', ?_, r2, r3⟩
  unfold f_X10_next f_X10_next_21
  rw [h5, h3, le1_e, ← r1]
  by_cases a : tK T σ = 1
  · rw [if_pos ((eqL 1 (by omega) (by decide)).mpr a), if_pos (by simp [a])]
  · rw [if_neg (fun q => a ((eqL 1 (by omega) (by decide)).mp q))]
    by_cases b : tK T σ = 2
    · rw [if_pos ((eqL 2 (by omega) (by decide)).mpr b), if_pos (by simp [b])]
    · rw [if_neg (fun q => b ((eqL 2 (by omega) (by decide)).mp q)), if_neg (by simp [a, b])]

/-! level 2: the class: the best show -/
theorem h_sos_loop {S : Hp} {c s : Nat} {C : Cr} {g : Nat → Nat} (hC : okCr C) (h : cH S c C) (hg : ∀ t, t < cT C → S.1 51 t = nI (g t)) (h64 : s < 64) : ∀ (d i k : Nat), i + d = cT C → d < k → f_X8_sightOfShow_4 k (nI s) (nI (smT (fun t => if s.testBit t then g t else 0) i)) (nI i) S = some (nI (smT (fun t => if s.testBit t then g t else 0) (cT C)), S) := by
  have hnt := hC.1.2.1
  intro d
  induction d with
  | zero =>
    intro i k hi hk
    obtain ⟨k, rfl⟩ : ∃ q, k = q + 1 := ⟨k - 1, by omega⟩
    rw [f_X8_sightOfShow_4, ldP_n h.1.1 h.1.2, ldI_L 1 (by decide) (by decide), h.2.1.2.1, if_pos (nI_le (by omega) (by omega)), show i = cT C by omega]
  | succ d ih =>
    intro i k hi hk
    obtain ⟨k, rfl⟩ : ∃ q, k = q + 1 := ⟨k - 1, by omega⟩
    have h35 : ∀ x, f_X8_sightOfShow_35 (f_X8_sightOfShow_4 k) (nI s) x (nI i) S = f_X8_sightOfShow_4 k (nI s) x (nI (i + 1)) S := by
      intro x
      unfold f_X8_sightOfShow_35
      rw [le1_e, nI_1]
    have hI := ih (i + 1) k (by omega) (by omega)
    rw [smT] at hI
    rw [f_X8_sightOfShow_4, ldP_n h.1.1 h.1.2, ldI_L 1 (by decide) (by decide), h.2.1.2.1, if_neg (nI_ge (by omega) (by omega))]
    by_cases hb : s.testBit i = true
    · rw [if_pos ((bit_at1 h64 (by omega)).mpr hb), ldI_n (by omega) (by decide), hg i (by omega), le1_e, h35, nI_add]
      rw [if_pos hb] at hI
      exact hI
    · rw [if_neg (fun q => hb ((bit_at1 h64 (by omega)).mp q)), h35]
      rw [if_neg hb] at hI
      exact hI
theorem h_sos {S : Hp} {c s : Nat} {C : Cr} {g : Nat → Nat} (hC : okCr C) (h : cH S c C) (hg : ∀ t, t < cT C → S.1 51 t = nI (g t)) (h64 : s < 64) : f_X8_sightOfShow (nI s) S = some (nI (smT (fun t => if s.testBit t then g t else 0) (cT C)), S) :=
  h_sos_loop hC h hg h64 (cT C) 0 5000 (by omega) (by have := hC.1.2.1; omega)
/-- the sight of a show -/
def sgS (C : Cr) (z : Nat → Nat) (s : Nat) : Nat := smT (fun t => if s.testBit t then sgT C z t else 0) (cT C)
theorem sub_bit {s m t : Nat} (h : s &&& m = s) (hb : s.testBit t = true) : m.testBit t = true := by
  rw [← h, Nat.testBit_and] at hb
  simp at hb
  exact hb.2
theorem sub_le {s m : Nat} (h : s &&& m = s) : s ≤ m := by
  rw [← h]
  exact Nat.and_le_right
theorem sgS_sr {C : Cr} {z : Nat → Nat} {s m : Nat} (h : s &&& m = s) : smT (fun t => if s.testBit t then sr C z m t else 0) (cT C) = sgS C z s := by
  refine smT_c _ (fun t _ => ?_)
  by_cases hb : s.testBit t = true
  · rw [if_pos hb, if_pos hb]
    unfold sr
    rw [if_pos (sub_bit h hb)]
  · rw [if_neg hb, if_neg hb]
theorem sgT_le {C : Cr} {z : Nat → Nat} (hC : okCr C) (t : Nat) : sgT C z t ≤ 495 := by
  have h := smT_le (f := fun w => sg C z t w (z (21 + w))) (b := 99) (cW C) (fun i _ => n99_le _)
  have := hC.1.2.2
  unfold sgT
  omega
theorem sgS_le {C : Cr} {z : Nat → Nat} (hC : okCr C) (s : Nat) : sgS C z s ≤ 2970 := by
  have h := smT_le (f := fun t => if s.testBit t then sgT C z t else 0) (b := 495) (cT C) (fun i _ => by
    show (if s.testBit i then sgT C z i else 0) ≤ 495
    have := sgT_le (z := z) hC i
    split <;> omega)
  have := hC.1.2.1
  unfold sgS
  omega
/-- a show better than another, by numbers of what appears, sight, bits -/
def bet (n a q b a' q' b' : Nat) : Bool := if min a n ≠ min a' n then decide (min a' n < min a n) else if q ≠ q' then decide (q < q') else decide (popc b < popc b')
def bcI (x0 : Int32) : Int32 :=
  let v1 := x0 - ((x0.toUInt32 >>> ((1 : Int32).toUInt32 &&& Int32.toUInt32 31)).toInt32 &&& (1431655765 : Int32))
  let v2 := (v1 &&& (858993459 : Int32)) + ((v1.toUInt32 >>> ((2 : Int32).toUInt32 &&& Int32.toUInt32 31)).toInt32 &&& (858993459 : Int32))
  let v3 := (v2 + (v2.toUInt32 >>> ((4 : Int32).toUInt32 &&& Int32.toUInt32 31)).toInt32) &&& (252645135 : Int32)
  let v4 := v3 + (v3.toUInt32 >>> ((8 : Int32).toUInt32 &&& Int32.toUInt32 31)).toInt32
  let v5 := v4 + (v4.toUInt32 >>> ((16 : Int32).toUInt32 &&& Int32.toUInt32 31)).toInt32
  v5 &&& (63 : Int32)
theorem bcI_64 : ∀ s, s < 64 → bcI (nI s) = nI (popc s) := by decide +kernel
theorem h_bc {S : Hp} {s : Nat} (h : s < 64) : f_J6_bitCount_0f7a4 (nI s) S = some (nI (popc s), S) := by
  rw [← bcI_64 s h]
  rfl
theorem popc_le (s : Nat) : popc s ≤ 6 := by
  unfold popc
  exact Nat.le_trans List.countP_le_length (by simp)
theorem h_bet {S : Hp} {c a q b a' q' b' : Nat} {C : Cr} (hC : okCr C) (h : cH S c C) (ha : a < 2 ^ 30) (hq : q < 2 ^ 30) (hb : b < 64) (ha' : a' < 2 ^ 30) (hq' : q' < 2 ^ 30) (hb' : b' < 64) (h3 : S.1 50 3 = nI b') (h4 : S.1 50 4 = nI a') (h5 : S.1 50 5 = nI q') :
    f_X8_isBetter (nI b) (nI a) (nI q) S = some (if bet (cR C 0 0) a q b a' q' b' then 1 else 0, S) := by
  have hn := hC.2.1.1
  have p1 := popc_le b
  have p2 := popc_le b'
  unfold f_X8_isBetter bet
  rw [ldP_n h.1.1 h.1.2, h.2.2.1.1, h_mn, ob2_s, mn_n (by omega) (by omega), ldP_n h.1.1 h.1.2, h.2.2.1.1, h4, h_mn, ob2_s, mn_n (by omega) (by omega), le1_e, h5]
  generalize hm : min a (cR C 0 0) = m
  generalize hm' : min a' (cR C 0 0) = m'
  have b1 : m ≤ 9999 := by omega
  have b2 : m' ≤ 9999 := by omega
  have ht : (nI m - nI m').toInt = (m : Int) - m' := pk_sub_toInt (by omega) (by omega)
  have z0 : (0 : Int32).toInt = 0 := by decide
  by_cases e : m = m'
  · have e0 : nI m - nI m' = 0 := by rw [← Int32.toInt_inj, ht, z0]; omega
    rw [if_pos e0, if_neg (show ¬ (m ≠ m') from fun x => x e)]
    by_cases e2 : q = q'
    · rw [if_pos (show nI q = nI q' by rw [e2]), if_neg (show ¬ (q ≠ q') from fun x => x e2), h_bc hb, ob2_s, h3, h_bc hb', ob2_s]
      by_cases e3 : popc b < popc b'
      · rw [if_neg (nI_ge e3 (by omega)), decide_eq_true e3]
        rfl
      · rw [if_pos (nI_le (by omega) (by omega)), decide_eq_false e3]
        rfl
    · rw [if_neg (fun x => e2 ((nI_eq (by omega) (by omega)).mp x)), if_pos e2]
      by_cases e3 : q < q'
      · rw [if_neg (nI_ge e3 (by omega)), decide_eq_true e3]
        rfl
      · rw [if_pos (nI_le (by omega) (by omega)), decide_eq_false e3]
        rfl
  · have e0 : ¬ nI m - nI m' = 0 := by rw [← Int32.toInt_inj, ht, z0]; omega
    rw [if_neg e0, if_pos e]
    by_cases e3 : m' < m
    · rw [if_neg (by rw [Int32.le_iff_toInt_le, ht, z0]; omega), decide_eq_true e3]
      rfl
    · rw [if_pos (by rw [Int32.le_iff_toInt_le, ht, z0]; omega), decide_eq_false e3]
      rfl
def betC (C : Cr) (z : Nat → Nat) (s b : Nat) : Bool := bet (cR C 0 0) (apr C z s) (sgS C z s) s (apr C z b) (sgS C z b) b
/-- the best of the shows below n -/
def bsF (C : Cr) (z : Nat → Nat) (m : Nat) : Nat → Nat
  | 0 => 0
  | n + 1 => if n &&& m = n ∧ betC C z n (bsF C z m n) = true then n else bsF C z m n
theorem bsF_sub (C : Cr) (z : Nat → Nat) (m : Nat) : ∀ n, bsF C z m n &&& m = bsF C z m n
  | 0 => by rw [bsF, Nat.zero_and]
  | n + 1 => by
    rw [bsF]
    by_cases h : n &&& m = n ∧ betC C z n (bsF C z m n) = true
    · rw [if_pos h]; exact h.1
    · rw [if_neg h]; exact bsF_sub C z m n
theorem bsF_64 {C : Cr} {z : Nat → Nat} {m : Nat} (hm : m < 64) (n : Nat) : bsF C z m n < 64 := Nat.lt_of_le_of_lt (sub_le (bsF_sub C z m n)) hm
theorem bsF_x {C : Cr} {z : Nat → Nat} {m : Nat} : ∀ n, m + 1 ≤ n → bsF C z m n = bsF C z m (m + 1)
  | 0, h => absurd h (by omega)
  | n + 1, h => by
    by_cases e : m = n
    · rw [e]
    · rw [bsF, if_neg (fun q => by have := sub_le q.1; omega), bsF_x n (by omega)]
/-- the best show -/
def bst (C : Cr) (z : Nat → Nat) : Nat := bsF C z (shw C z) (shw C z + 1)
def scS (c b : Nat) : Prop := scE c b ∨ (50 ≤ b ∧ b ≤ 54)
theorem scS_c {c b : Nat} (hc : c = 100 ∨ c = 150) (h : scS c b) : ¬ crC c b := by
  unfold scS scE at h
  unfold crC
  omega
theorem scS_a {c a b : Nat} (hc : c = 100 ∨ c = 150) (ha : 1000 ≤ a) (h : scS c b) : ¬ (a ≤ b ∧ b ≤ a + 4) := by
  unfold scS scE at h
  omega
theorem cH_s {S S' : Hp} {c : Nat} {C : Cr} (h : cH S c C) (hf : fH (scS c) S S') : cH S' c C := cH_f h hf (fun _ q => scS_c (cH_c h) q)
theorem stH_s {S S' : Hp} {c a : Nat} {C : Cr} {z : Nat → Nat} (h0 : cH S c C) (h : stH S a C z) (hf : fH (scS c) S S') : stH S' a C z := stH_f h hf (fun _ q => scS_a (cH_c h0) (stH_a h).1 q)
/-- what the stage holds of the best as yet -/
def chR (S : Hp) (C : Cr) (z : Nat → Nat) (b : Nat) : Prop := S.1 50 3 = nI b ∧ S.1 50 4 = nI (apr C z b) ∧ S.1 50 5 = nI (sgS C z b)
theorem h_choose_loop {c a m : Nat} {C : Cr} {z : Nat → Nat} (hC : okCr C) (hz : okZ C z) (hm : m < 64) : ∀ (d i k : Nat) (S : Hp), i + d = m + 1 → d < k → cH S c C → stH S a C z → (∀ j, j < cT C → S.1 51 j = nI (sr C z m j)) → chR S C z (bsF C z m i) →
    ∃ S', f_X8_choose_23 a k (nI m) (nI i) S = some S' ∧ chR S' C z (bsF C z m (m + 1)) ∧ fH (fun b => b = 50 ∨ b = 52) S S' := by
  intro d
  induction d with
  | zero =>
    intro i k S hi hk h hs h51 hch
    obtain ⟨k, rfl⟩ : ∃ q, k = q + 1 := ⟨k - 1, by omega⟩
    refine ⟨S, ?_, ?_, fH_rf _ S⟩
    · rw [f_X8_choose_23, if_pos (nI_lt (by omega) (by omega))]
    · rw [show m + 1 = i by omega]; exact hch
  | succ d ih =>
    intro i k S hi hk h hs h51 hch
    obtain ⟨k, rfl⟩ : ∃ q, k = q + 1 := ⟨k - 1, by omega⟩
    have h80 : ∀ Sx, f_X8_choose_80 (f_X8_choose_23 a k) a (nI m) (nI i) Sx = f_X8_choose_23 a k (nI m) (nI (i + 1)) Sx := by
      intro Sx
      unfold f_X8_choose_80
      rw [le1_e, nI_1]
    have go : ∀ Sx, fH (fun b => b = 50 ∨ b = 52) S Sx → chR Sx C z (bsF C z m (i + 1)) → ∃ S', f_X8_choose_23 a k (nI m) (nI (i + 1)) Sx = some S' ∧ chR S' C z (bsF C z m (m + 1)) ∧ fH (fun b => b = 50 ∨ b = 52) S S' := by
      intro Sx hf hc2
      have hf2 : fH (scS c) S Sx := fH_mo hf (fun b q => Or.inr (by omega))
      obtain ⟨S', r1, r2, r3⟩ := ih (i + 1) k Sx (by omega) (by omega) (cH_s h hf2) (stH_s h hs hf2) (by intro j hj; rw [hf.1 51 (by decide)]; exact h51 j hj) hc2
      exact ⟨S', r1, r2, fH_tr hf r3⟩
    rw [f_X8_choose_23, if_neg (fun q => absurd ((nI_ltI (by omega) (by omega)).mp q) (by omega))]
    by_cases hsub : i &&& m = i
    · rw [if_pos ((sub_iff i (by omega) m hm).mpr hsub)]
      obtain ⟨S1, r1, r2, r3⟩ := h_tk (s := i) hC hz h hs (by omega)
      have hf1 : fH (scS c) S S1 := fH_mo r3 (fun b q => Or.inr (by omega))
      have h1 := cH_s h hf1
      have h51' : ∀ j, j < cT C → S1.1 51 j = nI (sr C z m j) := by intro j hj; rw [r3.1 51 (by decide)]; exact h51 j hj
      have e50 : S1.1 50 = S.1 50 := r3.1 50 (by decide)
      have a1 := (apr_le (s := i) hC hz).1
      have a2 := (apr_le (s := bsF C z m i) hC hz).1
      have q1 := sgS_le (z := z) hC i
      have q2 := sgS_le (z := z) hC (bsF C z m i)
      rw [r1, ob2_s, h_sos hC h1 h51' (by omega), ob2_s, sgS_sr hsub, h_bet (a' := apr C z (bsF C z m i)) (q' := sgS C z (bsF C z m i)) hC h1 (by omega) (by omega) (by omega) (by omega) (by omega) (bsF_64 hm i) (by rw [e50]; exact hch.1) (by rw [e50]; exact hch.2.1) (by rw [e50]; exact hch.2.2), ob2_s]
      by_cases hbt : bet (cR C 0 0) (apr C z i) (sgS C z i) i (apr C z (bsF C z m i)) (sgS C z (bsF C z m i)) (bsF C z m i) = true
      · rw [if_pos hbt, if_neg (by decide), le1_e, le1_e, le1_e, h80]
        refine go _ ?_ ?_
        · exact fH_tr (fH_mo r3 (fun b q => Or.inr q)) (fH_tr (fH_sI S1 (Or.inl rfl) (by decide)) (fH_tr (fH_sI _ (Or.inl rfl) (by decide)) (fH_sI _ (Or.inl rfl) (by decide))))
        · rw [bsF, if_pos ⟨hsub, hbt⟩]
          refine ⟨?_, ?_, ?_⟩
          · rw [sI_at, pk_un (by decide), sI_at, pk_un (by decide), sI_at, pk_us]
          · rw [sI_at, pk_un (by decide), sI_at, pk_us]
          · rw [sI_at, pk_us]
      · rw [if_neg hbt, if_pos rfl, h80]
        refine go S1 (fH_mo r3 (fun b q => Or.inr q)) ?_
        rw [bsF, if_neg (fun q => hbt q.2)]
        unfold chR
        rw [e50]
        exact hch
    · rw [if_neg (fun q => hsub ((sub_iff i (by omega) m hm).mp q)), h80]
      refine go S (fH_rf _ S) ?_
      rw [bsF, if_neg (fun q => hsub q.1)]
      exact hch
theorem apr_0 (C : Cr) (z : Nat → Nat) : apr C z 0 = 0 := by
  have k : ∀ r n, tkA C 0 r n = (r, 0) := by
    intro r n
    induction n with
    | zero => rfl
    | succ n ih => rw [tkA, if_neg (by simp), ih]
  unfold apr
  rw [k]
theorem sgS_0 (C : Cr) (z : Nat → Nat) : sgS C z 0 = 0 := by
  have k : ∀ n, smT (fun t => if (0 : Nat).testBit t then sgT C z t else 0) n = 0 := by
    intro n
    induction n with
    | zero => rfl
    | succ n ih => rw [smT, ih, if_neg (by simp)]
  exact k _
theorem bsF_1 (C : Cr) (z : Nat → Nat) (m : Nat) : bsF C z m 1 = 0 := by
  rw [bsF]
  split <;> rfl
theorem h_choose {S : Hp} {c a : Nat} {C : Cr} {z : Nat → Nat} (hC : okCr C) (hz : okZ C z) (h : cH S c C) (hs : stH S a C z) (h51 : ∀ j, j < cT C → S.1 51 j = nI (sr C z (shw C z) j)) :
    ∃ S', f_X8_choose a S = some S' ∧ chR S' C z (bst C z) ∧ fH (fun b => b = 50 ∨ b = 52) S S' := by
  have f0 : fH (fun b => b = 50 ∨ b = 52) S (ho_sI (ho_sI (ho_sI S 50 3 (0 : Int32)) 50 4 (0 : Int32)) 50 5 (0 : Int32)) := fH_tr (fH_sI S (Or.inl rfl) (by decide)) (fH_tr (fH_sI _ (Or.inl rfl) (by decide)) (fH_sI _ (Or.inl rfl) (by decide)))
  have hf2 : fH (scS c) S (ho_sI (ho_sI (ho_sI S 50 3 (0 : Int32)) 50 4 (0 : Int32)) 50 5 (0 : Int32)) := fH_mo f0 (fun b q => Or.inr (by omega))
  have hm := shw_64 hC z
  obtain ⟨S', r1, r2, r3⟩ := h_choose_loop (c := c) (a := a) hC hz hm (shw C z) 1 5000 _ (by omega) (by omega) (cH_s h hf2) (stH_s h hs hf2) (by intro j hj; rw [f0.1 51 (by decide)]; exact h51 j hj) (by
    rw [bsF_1]
    refine ⟨?_, ?_, ?_⟩
    · rw [sI_at, pk_un (by decide), sI_at, pk_un (by decide), sI_at, pk_us]; rfl
    · rw [sI_at, pk_un (by decide), sI_at, pk_us, apr_0]; rfl
    · rw [sI_at, pk_us, sgS_0]; rfl)
  refine ⟨S', ?_, r2, fH_tr f0 r3⟩
  unfold f_X8_choose
  rw [h_shw hC hz h hs, ob2_s, le1_e, le1_e, le1_e]
  exact r1

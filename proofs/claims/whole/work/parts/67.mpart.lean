/-! level 2: the reference's reading of a part -/
theorem m_asks_b {S : Hp} {c n : Nat} (h : ¬ S.1 0 5 = 0) : f_X12_asks c n S = some S := by
  unfold f_X12_asks
  rw [if_neg h]
theorem m_asksG_b {S : Hp} {c : Int32} (h : ¬ S.1 0 5 = 0) : f_X12_asksSign c S = some S := by
  unfold f_X12_asksSign
  rw [if_neg h]
theorem p_bad {S : Hp} {j : Nat} (h : ¬ S.1 0 5 = 0) : f_X12_qPartTold_2 (j + 1) (1 : Int32) S = some S := by
  rw [f_X12_qPartTold_2, if_neg ne1, if_neg h]
  unfold f_X12_qPartTold_186
  rw [if_neg h]
theorem gA_bad {x : Int32} {k j : Nat} {S0 S : Hp} {e : Nat × Nat} (h : bR S e) (hq : nQ S) (hk : 0 < k) (hj : 0 < j) (hf : fM pP S0 S) : erB (gA x k j S) S0 e := by
  obtain ⟨j, rfl⟩ : ∃ q, j = q + 1 := ⟨j - 1, by omega⟩
  unfold gA
  rw [p_bad (bR_0 h), ob_s, if_neg (bR_0 h)]
  exact er_end h hq hk hf
theorem bR_f {P : Nat → Nat → Prop} {S S' : Hp} {e : Nat × Nat} (h : bR S e) (hf : fM P S S') (h5 : ¬ P 0 5) (h6 : ¬ P 0 6) : bR S' e := by
  unfold bR
  rw [hf.1 0 5 h5, hf.1 0 6 h6]
  exact h
/-- the head of the loop: what comes next is looked at -/
theorem p_head {S : Hp} {T : Tp} {m op bs j : Nat} {σ : Lx} {W Cs : List Nat} (h : qR S T m σ W Cs op bs) : ∃ r2, ((al m 11 = true ∧ isW T σ wSeen = true ∧ r2 = nI 11) ∨ (¬ (al m 11 = true ∧ isW T σ wSeen = true) ∧ r2 = -1)) ∧
    ∀ S1, S1 = ho_sI S 0 2 (nI (tS T σ)) → f_X12_qPartTold_2 (j + 1) (1 : Int32) S = if byt T (tS T σ) = (40 : Int32) then ob (f_X12_qOpens (20 : Int32) (S1.1 0 2) S1) (fun S7 => le1 (ho_sI S7 0 2 ((S7.1 0 2) + (1 : Int32))) (fun S8 => f_X12_qPartTold_183 (f_X12_qPartTold_2 j) 1 S8)) else ob2 (f_X12_isHere 86 3 S1) (fun r3 S3 => if r3 = 0 then ob2 (f_X12_isHere 87 3 S3) (fun r4 S4 => if r4 = 0 then if r2 = (-1 : Int32) then f_X12_qPartTold_183 (f_X12_qPartTold_2 j) (0 : Int32) S4 else ob (f_X12_qOpens (((60 : Int32) + r2) - (11 : Int32)) (S4.1 0 2) S4) (fun S5 => ob (f_X12_qAsksWord r2 S5) (fun S6 => f_X12_qPartTold_183 (f_X12_qPartTold_2 j) 1 S6)) else f_X12_qPartTold_78 (f_X12_qPartTold_2 j) 1 S4) else f_X12_qPartTold_78 (f_X12_qPartTold_2 j) 1 S3) := by
  obtain ⟨q1, f1⟩ := qR_X h
  obtain ⟨r2, w1, w2⟩ := m_wdO (lo := 11) (hi := 12) (lX_of h.1) q1.2.2.1 q1.2.1 (by decide) (by decide)
  refine ⟨r2, ?_, ?_⟩
  · rcases w2 with ⟨k, k1, k2, k3, k4, k5, k6⟩ | ⟨k1, k2⟩
    · have e : k = 11 := by omega
      subst e
      exact Or.inl ⟨k4, k5, k6⟩
    · exact Or.inr ⟨fun q => k1 11 (by decide) (by decide) (by decide) q.1 q.2, k2⟩
  · rintro S1 rfl
    rw [f_X12_qPartTold_2, if_neg ne1, if_pos h.1.2.2.1, m_look h.1, ob2_s, show f_X12_qWordOf (11 : Int32) (12 : Int32) _ = _ from w1, ob2_s]
theorem p_open {x : Int32} {S : Hp} {T : Tp} {m op bs k j : Nat} {σ : Lx} {W Cs : List Nat} (h : qR S T m σ W Cs op bs) (g : isG T σ 40 = true) (ho : op < 6) (hw : W.length < 1690) : ∃ S', gA x k (j + 1) S = gA x k j S' ∧ qR S' T m (nx T σ) (W ++ [20]) Cs (op + 1) bs ∧ fM pP S S' := by
  obtain ⟨q1, f1⟩ := qR_X h
  have hX := lX_of h.1
  have hs := tS_le h.1.2.1
  have hn := h.1.1.1
  obtain ⟨r2, -, hd⟩ := p_head (j := j) h
  obtain ⟨S7, u1, u2, u3⟩ := m_open (x := 20) (p := tS T σ) q1 ho (by omega) (by omega)
  have e7 : S7.1 0 2 = nI (tS T σ) := (lX_q hX u3).2
  have f8 : fM lxP S7 (ho_sI S7 0 2 (nI (tS T σ + 1))) := fM_sI _ ⟨rfl, (by omega)⟩
  refine ⟨ho_sI S7 0 2 (nI (tS T σ + 1)), ?_, qR_l u2 f8 (lR_sg u2.1 (isG_i.mp g).1), fM_tr (fM_mo f1 (fun _ _ => lx_p)) (fM_tr (fM_mo u3 (fun _ _ => q_p)) (fM_mo f8 (fun _ _ => lx_p)))⟩
  unfold gA
  rw [hd _ rfl, if_pos ((byL 40 (h256 h.1) (by decide)).mpr g), hX.2, show f_X12_qOpens (20 : Int32) (nI (tS T σ)) _ = _ from u1, ob_s, e7, nI_1, le1_e]
  rfl
theorem p_open6 {x : Int32} {S : Hp} {T : Tp} {m bs k j : Nat} {σ : Lx} {W Cs : List Nat} (h : qR S T m σ W Cs 6 bs) (hl : Cs.length < 1690) (g : isG T σ 40 = true) (hk : 0 < k) (hj : 0 < j) : erB (gA x k (j + 1) S) S (4, tS T σ) := by
  obtain ⟨q1, f1⟩ := qR_X h
  have hX := lX_of h.1
  have hs := tS_le h.1.2.1
  have hn := h.1.1.1
  obtain ⟨r2, -, hd⟩ := p_head (j := j) h
  obtain ⟨S7, u1, u2, u3⟩ := m_open6 (x := 20) (p := tS T σ) q1 (by omega)
  have f8 : fM (fun b k => b = 0 ∧ k = 2) S7 (ho_sI S7 0 2 (S7.1 0 2 + 1)) := fM_sI _ ⟨rfl, rfl⟩
  have e := gA_bad (x := x) (k := k) (j := j) (S0 := S) (bR_f u2 f8 (by omega) (by omega)) (nQ_l (nQ_l (nQ_q q1.2.2.2 (by omega)) u3) (fM_mo f8 (fun b k q => ⟨q.1, Or.inl q.2⟩))) hk hj (fM_tr (fM_mo f1 (fun _ _ => lx_p)) (fM_tr (fM_mo u3 (fun _ _ => lx_p)) (fM_mo f8 (fun b k q => by unfold pP; omega))))
  unfold gA at e ⊢
  rw [hd _ rfl, if_pos ((byL 40 (h256 h.1) (by decide)).mpr g), hX.2, show f_X12_qOpens (20 : Int32) (nI (tS T σ)) _ = _ from u1, ob_s, le1_e]
  exact e
theorem p_101 {K : Int32 → Hp → Option Hp} {S : Hp} {T : Tp} {m op bs y : Nat} {σ : Lx} {W Cs : List Nat} {x4 : Int32} (h : qR S T m σ W Cs op bs) (hy : (x4 = 0 ∧ y = 22) ∨ (x4 = 1 ∧ y = 21)) (ho : op ≤ 6) (hw : W.length < 1690) (hl : Cs.length < 1690) :
    ∃ S', f_X12_qPartTold_101 K 1 x4 S = K 1 S' ∧ fM pP S S' ∧ nQ S' ∧ (isG T σ 40 = true → op < 6 → qR S' T m (nx T σ) (W ++ [y]) Cs (op + 1) bs) ∧ (isG T σ 40 = true → op = 6 → bR S' (4, tS T σ)) ∧ (¬ isG T σ 40 = true → bR S' (1, tS T σ)) := by
  obtain ⟨q1, f1⟩ := qR_X h
  have hX := lX_of h.1
  have hs := tS_le h.1.2.1
  have hn := h.1.1.1
  have nm1 : ¬ nI (tS T σ) = (-1 : Int32) := by
    intro q
    have q1 : (nI (tS T σ)).toInt = (tS T σ : Int) := nI_toInt (by omega)
    rw [q] at q1
    have : (-1 : Int32).toInt = -1 := (by decide)
    omega
  unfold f_X12_qPartTold_101
  rw [m_look h.1, ob2_s]
  by_cases g : isG T σ 40 = true
  · rw [if_pos ((byL 40 (h256 h.1) (by decide)).mpr g), hX.2]
    unfold f_X12_qPartTold_118
    rw [if_neg nm1]
    have e139 : (if x4 = 0 then f_X12_qPartTold_139 K 1 (nI (tS T σ)) (22 : Int32) (ho_sI S 0 2 (nI (tS T σ))) else f_X12_qPartTold_139 K 1 (nI (tS T σ)) (21 : Int32) (ho_sI S 0 2 (nI (tS T σ)))) = f_X12_qPartTold_139 K 1 (nI (tS T σ)) (nI y) (ho_sI S 0 2 (nI (tS T σ))) := by
      rcases hy with ⟨rfl, rfl⟩ | ⟨rfl, rfl⟩
      · rw [if_pos rfl]; rfl
      · rw [if_neg ne1]; rfl
    rw [e139]
    unfold f_X12_qPartTold_139 f_X12_qPartTold_144 f_X12_qPartTold_183
    by_cases o6 : op = 6
    · subst o6
      obtain ⟨S7, u1, u2, u3⟩ := m_open6 (x := y) (p := tS T σ) q1 (by omega)
      rw [u1, ob_s, m_asksG_b (bR_0 u2), ob_s]
      exact ⟨S7, rfl, fM_mo (fM_tr f1 u3) (fun _ _ => lx_p), nQ_l (nQ_q q1.2.2.2 (by omega)) u3, fun _ q => absurd q (by decide), fun _ _ => u2, fun q => absurd g q⟩
    · obtain ⟨S7, u1, u2, u3⟩ := m_open (x := y) (p := tS T σ) q1 (by omega) (by omega) (by omega)
      obtain ⟨S8, v1, v2, v3⟩ := m_asksG (c := 40) u2.1 (by decide)
      unfold tkG at v3
      rw [if_pos g] at v3
      rw [u1, ob_s, show f_X12_asksSign (40 : Int32) _ = _ from v1, ob_s]
      exact ⟨S8, rfl, fM_tr (fM_mo f1 (fun _ _ => lx_p)) (fM_tr (fM_mo u3 (fun _ _ => q_p)) (fM_mo v2 (fun _ _ => lx_p))), nQ_l (nQ_q u2.2.2.2 (by omega)) v2, fun _ _ => qR_l u2 v2 v3, fun _ q => absurd q o6, fun q => absurd g q⟩
  · rw [if_neg (fun q => g ((byL 40 (h256 h.1) (by decide)).mp q))]
    unfold f_X12_qPartTold_118
    rw [if_pos rfl]
    unfold f_X12_qPartTold_144 f_X12_qPartTold_183
    obtain ⟨S8, v1, v2, v3⟩ := m_asksG (c := 40) q1.1 (by decide)
    unfold tkG at v3
    rw [if_neg g] at v3
    rw [show f_X12_asksSign (40 : Int32) _ = _ from v1, ob_s]
    exact ⟨S8, rfl, fM_mo (fM_tr f1 v2) (fun _ _ => lx_p), nQ_l (nQ_q q1.2.2.2 (by omega)) v2, fun q => absurd q g, fun q => absurd q g, fun _ => v3⟩
theorem p_mm {x : Int32} {S : Hp} {T : Tp} {m op bs k j : Nat} {σ : Lx} {W Cs : List Nat} (h : qR S T m σ W Cs op bs) (g : isW T σ wMin = true ∨ isW T σ wMax = true) (ho : op ≤ 6) (hw : W.length < 1690) (hl : Cs.length < 1690) :
    ∃ S', gA x k (j + 1) S = gA x k j S' ∧ fM pP S S' ∧ nQ S' ∧ (isG T (nx T σ) 40 = true → op < 6 → qR S' T m (nx T (nx T σ)) (W ++ [if isW T σ wMin = true then 21 else 22]) Cs (op + 1) bs) ∧ (isG T (nx T σ) 40 = true → op = 6 → bR S' (4, tS T (nx T σ))) ∧ (¬ isG T (nx T σ) 40 = true → bR S' (1, tS T (nx T σ))) := by
  obtain ⟨q1, f1⟩ := qR_X h
  have hX := lX_of h.1
  have n40 : ¬ isG T σ 40 = true := by
    intro q
    have := (isG_i.mp q).1
    rcases g with g | g
    · rw [(isW_i.mp g).1] at this; cases this
    · rw [(isW_i.mp g).1] at this; cases this
  obtain ⟨r2, -, hd⟩ := p_head (j := j) h
  have a86 := m_hereX hX (mW_at q1.2.2.1 86 wMin (by decide))
  have a87 := m_hereX hX (mW_at q1.2.2.1 87 wMax (by decide))
  have fin : ∃ S', f_X12_qPartTold_78 (f_X12_qPartTold_2 j) 1 (ho_sI S 0 2 (nI (tS T σ))) = f_X12_qPartTold_2 j 1 S' ∧ fM pP S S' ∧ nQ S' ∧ (isG T (nx T σ) 40 = true → op < 6 → qR S' T m (nx T (nx T σ)) (W ++ [if isW T σ wMin = true then 21 else 22]) Cs (op + 1) bs) ∧ (isG T (nx T σ) 40 = true → op = 6 → bR S' (4, tS T (nx T σ))) ∧ (¬ isG T (nx T σ) 40 = true → bR S' (1, tS T (nx T σ))) := by
    obtain ⟨S2, t1, t2, t3, t4⟩ := m_takes q1.1 (by decide) (mW_at q1.2.2.1 86 wMin (by decide))
    unfold f_X12_qPartTold_78
    rw [show f_X12_takes 86 3 _ = _ from t1, ob2_s]
    by_cases e : isW T σ wMin = true
    · rw [if_pos e, if_pos e, if_neg ne1]
      obtain ⟨S3, u1, u2, u3⟩ := p_101 (K := f_X12_qPartTold_2 j) (x4 := 1) (y := 21) (qR_l q1 t2 (t3 e)) (Or.inr ⟨rfl, rfl⟩) ho hw hl
      exact ⟨S3, u1, fM_tr (fM_mo (fM_tr f1 t2) (fun _ _ => lx_p)) u2, u3⟩
    · have e2 : isW T σ wMax = true := g.resolve_left e
      have q2 := qR_l q1 t2 (t4 e).1
      obtain ⟨S3, v1, v2, v3⟩ := m_asks q2.1 (by decide) (mW_at q2.2.2.1 87 wMax (by decide))
      unfold tkW at v3
      rw [if_pos e2] at v3
      rw [if_neg e, if_neg e, if_pos rfl, show f_X12_asks 87 3 _ = _ from v1, ob_s]
      obtain ⟨S4, u1, u2, u3⟩ := p_101 (K := f_X12_qPartTold_2 j) (x4 := 0) (y := 22) (qR_l q2 v2 v3) (Or.inl ⟨rfl, rfl⟩) ho hw hl
      exact ⟨S4, u1, fM_tr (fM_mo (fM_tr f1 (fM_tr t2 v2)) (fun _ _ => lx_p)) u2, u3⟩
  obtain ⟨S', p1, p2, p3⟩ := fin
  refine ⟨S', ?_, p2, p3⟩
  unfold gA
  rw [hd _ rfl, if_neg (fun q => n40 ((byL 40 (h256 h.1) (by decide)).mp q)), show f_X12_isHere 86 3 _ = _ from a86, ob2_s]
  by_cases e : isW T σ wMin = true
  · rw [if_neg (fun q => ite01.mp q e), p1]
  · rw [if_pos (ite01.mpr e), show f_X12_isHere 87 3 _ = _ from a87, ob2_s, if_neg (fun q => ite01.mp q (g.resolve_left e)), p1]
theorem noMM {T : Tp} {σ : Lx} {w : List Nat} (h : isW T σ w = true) (h1 : w ≠ wMin) (h2 : w ≠ wMax) : ¬ isW T σ wMin = true ∧ ¬ isW T σ wMax = true := ⟨fun q => h1 (isW_u h q), fun q => h2 (isW_u h q)⟩
theorem p_seen {x : Int32} {S : Hp} {T : Tp} {m op bs k j : Nat} {σ : Lx} {W Cs : List Nat} (h : qR S T m σ W Cs op bs) (g : al m 11 = true ∧ isW T σ wSeen = true) (ho : op ≤ 6) (hw : W.length < 1690) (hl : Cs.length < 1690) :
    ∃ S', gA x k (j + 1) S = gA x k j S' ∧ fM pP S S' ∧ nQ S' ∧ (op < 6 → qR S' T m (nx T σ) (W ++ [60]) Cs (op + 1) bs) ∧ (op = 6 → bR S' (4, tS T σ)) := by
  obtain ⟨q1, f1⟩ := qR_X h
  have hX := lX_of h.1
  have hs := tS_le h.1.2.1
  have hn := h.1.1.1
  have n40 : ¬ isG T σ 40 = true := by
    intro q
    have := (isG_i.mp q).1
    rw [(isW_i.mp g.2).1] at this; cases this
  obtain ⟨n1, n2⟩ := noMM g.2 (by decide) (by decide)
  obtain ⟨r2, hr, hd⟩ := p_head (j := j) h
  have er : r2 = nI 11 := by
    rcases hr with ⟨-, -, e⟩ | ⟨e, -⟩
    · exact e
    · exact absurd g e
  subst er
  have a86 := m_hereX hX (mW_at q1.2.2.1 86 wMin (by decide))
  have a87 := m_hereX hX (mW_at q1.2.2.1 87 wMax (by decide))
  rw [if_neg n1] at a86
  rw [if_neg n2] at a87
  have hd2 := hd _ rfl
  rw [if_neg (fun q => n40 ((byL 40 (h256 h.1) (by decide)).mp q)), show f_X12_isHere 86 3 _ = _ from a86, ob2_s, if_pos rfl, show f_X12_isHere 87 3 _ = _ from a87, ob2_s, if_pos rfl, if_neg (by decide), show ((60 : Int32) + nI 11) - (11 : Int32) = nI 60 by decide, hX.2] at hd2
  by_cases o6 : op = 6
  · subst o6
    obtain ⟨S7, u1, u2, u3⟩ := m_open6 (x := 60) (p := tS T σ) q1 (by omega)
    have ea : f_X12_qAsksWord (nI 11) S7 = some S7 := by
      unfold f_X12_qAsksWord
      rw [if_neg (by decide), if_neg (by decide), if_neg (by decide), if_neg (by decide), if_neg (by decide), if_neg (by decide), if_neg (by decide), if_neg (by decide), if_neg (by decide), if_neg (by decide), if_neg (by decide), m_asks_b (bR_0 u2), ob_s]
    rw [u1, ob_s, ea, ob_s] at hd2
    refine ⟨S7, ?_, fM_mo (fM_tr f1 u3) (fun _ _ => lx_p), nQ_l (nQ_q q1.2.2.2 (by omega)) u3, fun q => absurd q (by decide), fun _ => u2⟩
    unfold gA
    rw [hd2]
    rfl
  · obtain ⟨S7, u1, u2, u3⟩ := m_open (x := 60) (p := tS T σ) q1 (by omega) (by omega) (by omega)
    obtain ⟨S8, v1, v2, v3⟩ := m_askW (k := 11) u2.1 u2.2.2.1 (by decide) g.2
    rw [u1, ob_s, v1, ob_s] at hd2
    refine ⟨S8, ?_, fM_tr (fM_mo f1 (fun _ _ => lx_p)) (fM_tr (fM_mo u3 (fun _ _ => q_p)) (fM_mo v2 (fun _ _ => lx_p))), nQ_l (nQ_q u2.2.2.2 (by omega)) v2, fun _ => qR_l u2 v2 v3, fun q => absurd q o6⟩
    unfold gA
    rw [hd2]
    rfl
/-- a part that opens nothing -/
def lf (T : Tp) (m : Nat) (σ : Lx) : Ps := if tK T σ = 2 then bn (tkV T 0 9999 σ) (fun v σ1 => .ok ([1000 + v], σ1)) else match pIx T m σ 11 with
    | some k => .ok ([40 + k], nx T σ)
    | none => .error (1, tS T σ)
theorem pIx_no {T : Tp} {m : Nat} {σ : Lx} : ∀ n, pIx T m σ n = none → ∀ k, k < n → ¬ (al m k = true ∧ isW T σ (pW.getD k []) = true)
  | 0, _, k, hk => absurd hk (by omega)
  | n + 1, h, k, hk => by
    rw [pIx] at h
    cases q : pIx T m σ n with
    | some j => rw [q] at h; cases h
    | none =>
      rw [q] at h
      by_cases e : k = n
      · subst e
        intro c
        have h2 : (if al m k = true ∧ isW T σ (pW.getD k []) = true then some k else none) = none := h
        rw [if_pos c] at h2
        cases h2
      · exact pIx_no n q k (by omega)
theorem pIx_yes {T : Tp} {m k : Nat} {σ : Lx} (hk : k < 11) (ha : al m k = true) (hw : isW T σ (pW.getD k []) = true) : pIx T m σ 11 = some k := by
  have pWn : ∀ j, j < 12 → ∀ k, k < 12 → pW.getD j [] = pW.getD k [] → j = k := by decide
  cases q : pIx T m σ 11 with
  | none => exact absurd ⟨ha, hw⟩ (pIx_no 11 q k hk)
  | some j =>
    obtain ⟨a, b, c⟩ := pIx_ok 11 q
    rw [pWn j (by omega) k (by omega) (isW_u c hw)]
theorem m_codeB {S : Hp} {x : Int32} {n : Nat} (h : S.1 0 100 = nI n) (hl : n < 1690) : ∃ S', f_X12_qCode x S = some S' ∧ nQ S' ∧ fM qP S S' := by
  refine ⟨ho_sI (ho_sI S 100 n x) 0 100 (nI (n + 1)), ?_, ⟨n + 1, by omega, sI_v⟩, fM_tr (fM_sI _ (by unfold qP; omega)) (fM_sI _ (by unfold qP; omega))⟩
  unfold f_X12_qCode
  rw [h, stI_n (by omega) (by decide), le1_e, sI_ne _ (by decide), h, nI_1]
theorem p_leaf {x : Int32} {S : Hp} {T : Tp} {m op bs k j c : Nat} {σ : Lx} {W Cs : List Nat} (h : qR S T m σ (W ++ List.replicate c 60) Cs (op + c) bs) (n40 : ¬ isG T σ 40 = true) (nm : ¬ (isW T σ wMin = true ∨ isW T σ wMax = true)) (ns : ¬ (al m 11 = true ∧ isW T σ wSeen = true)) (hb : bs ≤ W.length) (hW : ∀ z, W.getLast? = some z → z < 60) (hl : W.length + c + Cs.length ≤ σ.1) (hk : 0 < k) :
    (∀ cs σ1, lf T m σ = .ok (cs, σ1) → ∃ S', gA x k (j + 2) S = gB x k 5000 S' ∧ qR S' T m σ1 W (Cs ++ cs ++ List.replicate c 60) op bs ∧ fM pP S S') ∧ (∀ e, lf T m σ = .error e → erB (gA x k (j + 2) S) S e) := by
  obtain ⟨q1, f1⟩ := qR_X h
  have hX := lX_of h.1
  have hs := tS_le h.1.2.1
  have hsg := tS_ge T σ
  have hn := h.1.1.1
  have hσ := h.1.2.1
  obtain ⟨r2, hr, hd⟩ := p_head (j := j + 1) h
  have er : r2 = -1 := by
    rcases hr with ⟨e1, e2, -⟩ | ⟨-, e⟩
    · exact absurd ⟨e1, e2⟩ ns
    · exact e
  subst er
  have a86 := m_hereX hX (mW_at q1.2.2.1 86 wMin (by decide))
  have a87 := m_hereX hX (mW_at q1.2.2.1 87 wMax (by decide))
  rw [if_neg (fun q => nm (Or.inl q))] at a86
  rw [if_neg (fun q => nm (Or.inr q))] at a87
  have hd2 := hd _ rfl
  have e0 : f_X12_qPartTold_2 (j + 1) (0 : Int32) (ho_sI S 0 2 (nI (tS T σ))) = f_X12_qPartTold_186 (ho_sI S 0 2 (nI (tS T σ))) := by rw [f_X12_qPartTold_2, if_pos rfl]
  rw [if_neg (fun q => n40 ((byL 40 (h256 h.1) (by decide)).mp q)), show f_X12_isHere 86 3 _ = _ from a86, ob2_s, if_pos rfl, show f_X12_isHere 87 3 _ = _ from a87, ob2_s, if_pos rfl, if_pos rfl, show f_X12_qPartTold_183 (f_X12_qPartTold_2 (j + 1)) (0 : Int32) (ho_sI S 0 2 (nI (tS T σ))) = _ from e0] at hd2
  obtain ⟨r1, w1, w2⟩ := m_wdO (lo := 0) (hi := 11) hX q1.2.2.1 q1.2.1 (by decide) (by decide)
  unfold f_X12_qPartTold_186 at hd2
  rw [if_pos q1.1.2.2.1, show f_X12_qWordOf (0 : Int32) (11 : Int32) _ = _ from w1, ob2_s] at hd2
  have fin : ∀ (S2 : Hp) (σ1 : Lx) (v : Nat), qR S2 T m σ1 (W ++ List.replicate c 60) Cs (op + c) bs → fM pP S S2 → ∃ S', f_X12_qPartTold_237 (nI v) S2 = some S' ∧ qR S' T m σ1 W (Cs ++ [v] ++ List.replicate c 60) op bs ∧ fM pP S S' := by
    intro S2 σ1 v q2 f2
    obtain ⟨S3, u1, u2, u3⟩ := m_code v q2.2.2.2 (by omega)
    have q3 := qR_q q2 u3 u2
    have hlen : (Cs ++ [v]).length = Cs.length + 1 := by simp
    obtain ⟨S4, v1, v2, v3⟩ := m_ends hb hW c op 5000 S3 _ q3.1.2.2.1 q3.2.2.2 (by omega) (by rw [hlen]; omega)
    refine ⟨S4, ?_, qR_q q3 v3 v2, fM_tr f2 (fM_mo (fM_tr u3 v3) (fun _ _ => q_p))⟩
    unfold f_X12_qPartTold_237 f_X12_qEndsPart
    rw [u1, ob_s, v1, ob_s]
  have gok : ∀ (S' : Hp) (σ1 : Lx) (W' Cs' : List Nat) (op' : Nat), f_X12_qPartTold_2 (j + 1 + 1) 1 S = some S' → qR S' T m σ1 W' Cs' op' bs → gA x k (j + 2) S = gB x k 5000 S' := by
    intro S' σ1 W' Cs' op' e q
    unfold gA
    rw [e, ob_s, if_pos q.1.2.2.1]
  unfold lf
  rcases w2 with ⟨i, i1, i2, i3, i4, i5, rfl⟩ | ⟨i1, rfl⟩
  · have k1 := (isW_i.mp i5).1
    have nm1 : ¬ nI i = (-1 : Int32) := by
      intro q
      have q1 : (nI i).toInt = (i : Int) := nI_toInt (by omega)
      rw [q] at q1
      have : (-1 : Int32).toInt = -1 := (by decide)
      omega
    obtain ⟨S2, v1, v2, v3⟩ := m_askW (k := i) q1.1 q1.2.2.1 i1 i5
    rw [if_neg nm1, v1, ob_s] at hd2
    unfold f_X12_qPartTold_212 at hd2
    rw [if_neg nm1, show (40 : Int32) + nI i = nI (40 + i) from nI_add 40 i] at hd2
    obtain ⟨S3, u1, u2, u3⟩ := fin S2 (nx T σ) (40 + i) (qR_l q1 v2 v3) (fM_mo (fM_tr f1 v2) (fun _ _ => lx_p))
    rw [u1] at hd2
    rw [if_neg (by rw [k1]; decide), pIx_yes i3 i4 i5]
    refine ⟨fun cs σ1 e => ?_, fun e q => by cases q⟩
    cases e
    exact ⟨S3, gok _ _ _ _ _ hd2 u2, u2, u3⟩
  · have hno : pIx T m σ 11 = none := by
      cases q : pIx T m σ 11 with
      | none => rfl
      | some i =>
        obtain ⟨a, b, d⟩ := pIx_ok 11 q
        exact absurd d (i1 i (by omega) (by omega) a b)
    rw [if_pos rfl] at hd2
    unfold f_X12_qPartTold_212 at hd2
    obtain ⟨v, S2, v1, v2, v3⟩ := m_num (lo := 0) (hi := 9999) q1.1 (by decide) (by decide)
    rw [if_pos rfl, show f_X12_number (0 : Int32) (9999 : Int32) _ = _ from v1, ob2_s] at hd2
    have f2 : fM pP S S2 := fM_mo (fM_tr f1 v2) (fun _ _ => lx_p)
    have bad : ∀ e, bR S2 e → erB (gA x k (j + 2) S) S e := by
      intro e hb2
      obtain ⟨S3, u1, un, u2⟩ := m_codeB (x := (1000 : Int32) + v) (n := Cs.length) (qS_l q1.2.2.2 v2).2.1.1 (by omega)
      have b3 := bR_f hb2 u2 (by unfold qP; omega) (by unfold qP; omega)
      have e3 : f_X12_qEndsPart S3 = some S3 := by
        unfold f_X12_qEndsPart
        rw [f_X12_qEndsPart_0, if_neg (bR_0 b3)]
      unfold f_X12_qPartTold_237 at hd2
      rw [u1, ob_s, e3, ob_s] at hd2
      unfold gA
      rw [hd2, ob_s, if_neg (bR_0 b3)]
      exact er_end b3 un hk (fM_tr f2 (fM_mo u2 (fun _ _ => q_p)))
    cases ht : tkV T 0 9999 σ with
    | ok r =>
      rw [ht] at v3
      obtain ⟨a1, a2⟩ := v3
      obtain ⟨k2, -, -, -⟩ := tkV_ok (v := r.1) (σ1 := r.2) ht
      rw [a1, show (1000 : Int32) + nI r.1 = nI (1000 + r.1) from nI_add 1000 r.1] at hd2
      obtain ⟨S3, u1, u2, u3⟩ := fin S2 r.2 (1000 + r.1) (qR_l q1 v2 a2) f2
      rw [u1] at hd2
      rw [if_pos k2]
      refine ⟨fun cs σ1 e => ?_, fun e q => by cases q⟩
      cases e
      exact ⟨S3, gok _ _ _ _ _ hd2 u2, u2, u3⟩
    | error e =>
      rw [ht] at v3
      have b2 := bad e v3
      by_cases k2 : tK T σ = 2
      · rw [if_pos k2]
        refine ⟨fun cs σ1 q => (by cases q), fun e2 q => ?_⟩
        cases q
        exact b2
      · rw [if_neg k2, hno]
        have e2 : e = (1, tS T σ) := by
          unfold tkV at ht
          rw [if_neg k2] at ht
          cases ht
          rfl
        refine ⟨fun cs σ1 q => (by cases q), fun e3 q => ?_⟩
        cases q
        rw [← e2]
        exact b2

/-! level 2: alike answers: a question: its value for a trick, its answer; the class -/
def fq (C : Cr) (z : Nat → Nat) (t k : Nat) : Int := if k = 0 then (cR C 4 t : Int) else if k = 1 then (z (9 + t) : Int) else if k = 2 then (z 0 : Int) else if k = 5 then (cR C 2 t : Int) else if k = 7 then (t : Int) else if k = 8 then (z (15 + t) : Int) else if k = 9 then (sgT C z t : Int) else if k = 10 then (z (3 + cR C 3 t) : Int) else 0
def sgB (C : Cr) (z : Nat → Nat) (t w : Nat) : Nat := if w < cW C then sg C z t w (z (21 + w)) else 0
def gq (C : Cr) (z : Nat → Nat) (t : Nat) (x : Int) : Int := if 0 ≤ x ∧ x < 5 then (sgB C z t x.toNat : Int) else 0
def qv (C : Cr) (z : Nat → Nat) (cs : List Nat) (t : Nat) : Int := match evA (fq C z t) (gq C z t) cs [] with
  | some [v] => v
  | _ => 0
theorem evA_c2 {pf pf' : Nat → Int} {qf : Int → Int} : ∀ (cs : List Nat) (st : List Int), (∀ c ∈ cs, 40 ≤ c → c < 51 → pf (c - 40) = pf' (c - 40)) → (∀ c ∈ cs, okA c) → evA pf qf cs st = evA pf' qf cs st
  | [], _, _, _ => rfl
  | c :: cs, st, h1, h2 => by
    have e : stA pf qf c st = stA pf' qf c st := by
      have a1 := h1 c (List.mem_cons_self)
      have a2 := h2 c (List.mem_cons_self)
      unfold okA at a2
      unfold stA
      by_cases q1 : 1000 ≤ c
      · rw [if_pos q1, if_pos q1]
      rw [if_neg q1, if_neg q1]
      by_cases q60 : 60 ≤ c
      · rw [if_pos q60, if_pos q60]
      rw [if_neg q60, if_neg q60]
      by_cases q2 : 40 ≤ c
      · rw [if_pos q2, if_pos q2, a1 q2 (by omega)]
      · rw [if_neg q2, if_neg q2]
    rw [evA, evA, e]
    congr 1
    funext st2
    exact evA_c2 cs st2 (fun c hc => h1 c (List.mem_cons_of_mem _ hc)) (fun c hc => h2 c (List.mem_cons_of_mem _ hc))
theorem sgB_le (C : Cr) (z : Nat → Nat) (t w : Nat) : sgB C z t w ≤ 99 := by
  unfold sgB
  split
  · exact n99_le _
  · omega
theorem qv_ok {kd : Nat} {cs : List Nat} {C : Cr} {z : Nat → Nat} {t : Nat} {pf : Nat → Int} {qf : Int → Int} (hq : okQ (gQ kd) cs) (hp : ∀ k, inM (pf k)) (hqf : ∀ x, inM (qf x)) (e1 : ∀ k, k < 11 → al 2 k = true → pf k = fq C z t k) (e2 : ∀ x, qf x = gq C z t x) : evA pf qf cs [] = some [qv C z cs t] ∧ gQ kd (qv C z cs t) := by
  obtain ⟨v, g, q⟩ := hq.2.2 pf qf hp hqf
  have e : evA (fq C z t) (gq C z t) cs [] = some [v] := by
    have : qf = gq C z t := funext e2
    rw [← this, ← q]
    refine evA_c2 cs [] (fun c hc q1 q2 => ?_) (fun c hc => cdO_A (hq.2.1 c hc))
    rcases hq.2.1 c hc with h | h | ⟨k, k1, k2, k3⟩ | ⟨-, h⟩
    · omega
    · omega
    · subst k3
      rw [show 40 + k - 40 = k by omega]
      exact (e1 k k1 k2).symm
    · omega
  have ev : qv C z cs t = v := by
    unfold qv
    rw [e]
  rw [ev]
  exact ⟨q, g⟩
theorem smT_x {f : Nat → Nat} {n : Nat} : ∀ m, n ≤ m → smT (fun w => if w < n then f w else 0) m = smT f n := by
  intro m
  induction m with
  | zero => intro h; rw [show n = 0 by omega]; rfl
  | succ m ih =>
    intro h
    by_cases e : n = m + 1
    · subst e
      exact smT_c _ (fun i hi => if_pos hi)
    · rw [smT, ih (by omega), if_neg (by omega), Nat.add_zero]
def dsP (c b : Nat) : Prop := scE c b ∨ b = 33
theorem h_dsc {c t : Nat} {C : Cr} {z : Nat → Nat} (hC : okCr C) (hz : okZ C z) (ht : t < cT C) : ∀ (d i K : Nat) (S : Hp), i + d = 5 → d < K → cH S c C → stH S 1200 C z → fcG S 33 → (∀ w, w < i → S.1 33 (35 + w) = nI (sgB C z t w)) → ∃ S', f_X8_describe_6 1200 33 40 K (nI t) (nI (smT (sgB C z t) i)) (nI i) S = some S' ∧ fcG S' 33 ∧ (∀ w, w < 5 → S'.1 33 (35 + w) = nI (sgB C z t w)) ∧ (S'.1 33 18 = nI t ∧ S'.1 33 6 = nI (cR C 2 t) ∧ S'.1 33 8 = nI (cR C 4 t) ∧ S'.1 33 16 = nI (z (9 + t)) ∧ S'.1 33 19 = nI (z (15 + t)) ∧ S'.1 33 20 = nI (sgT C z t) ∧ S'.1 33 21 = nI (z (3 + cR C 3 t)) ∧ S'.1 33 17 = nI (z 0)) ∧ fH (dsP c) S S' := by
  have hnt := hC.1.2.1
  have hnw := hC.1.2.2
  have hnp := hC.1.1
  intro d
  induction d with
  | zero =>
    intro i K S hi hK h hs h33 hw
    obtain ⟨K, rfl⟩ : ∃ q, K = q + 1 := ⟨K - 1, by omega⟩
    have hcc := cH_c h
    have e5 : i = 5 := by omega
    subst e5
    have eT : smT (sgB C z t) 5 = sgT C z t := smT_x 5 hnw
    obtain ⟨⟨h0, h0'⟩, h1, h2, h3, h4, h5, h6, h7, h8⟩ := h
    obtain ⟨t1, t2, t3⟩ := h4 t ht
    obtain ⟨k1, k2, k3⟩ := hC.2.2.2.1 t ht
    obtain ⟨s0, s1, s2, s3⟩ := hs
    obtain ⟨u1, u2, u3⟩ := s2 t (by omega)
    obtain ⟨v1, v2, v3⟩ := s2 (cR C 3 t) (by omega)
    have ec : ∀ (x : Nat) (g : Nat → Int32), (ho_sA S 33 g).1 (c + x) = S.1 (c + x) := fun x g => sA_ne _ _ (by omega)
    have ea : ∀ (x : Nat) (g : Nat → Int32), (ho_sA S 33 g).1 (1200 + x) = S.1 (1200 + x) := fun x g => sA_ne _ _ (by omega)
    have ea0 : ∀ (g : Nat → Int32), (ho_sA S 33 g).1 1200 = S.1 1200 := fun g => sA_ne _ _ (by omega)
    have hp : ∀ g, (ho_sA S 33 g).2.2 50 0 = c := fun g => h0
    obtain ⟨z0, z1, z2, z3, z4, z5, z6, -⟩ := hz
    have z4t := z4 t (by omega)
    have z5t := z5 t (by omega)
    have z3t := z3 (cR C 3 t) (by omega)
    have sgl := sgT_le (z := z) hC t
    refine ⟨ho_sA S 33 (upd (upd (upd (upd (upd (upd (upd (upd (S.1 33) 18 (nI t)) 6 (nI (cR C 2 t))) 8 (nI (cR C 4 t))) 16 (nI (z (9 + t)))) 19 (nI (z (15 + t)))) 20 (nI (sgT C z t))) 21 (nI (z (3 + cR C 3 t)))) 17 (nI (z 0))), ?_, ?_, fun w hw5 => ?_, ?_, fH_sA S (Or.inr rfl) (by decide)⟩
    · rw [f_X8_describe_6, if_pos ((geL 5 (by omega) (by decide)).mpr (by omega)), stI_L 18 (by decide) (by decide), sI_sI, ldP_n (hp _) h0', ldI_n (by omega) (by decide), ec, t1, stI_L 6 (by decide) (by decide), sI_sA, ldP_n (hp _) h0', ldI_n (by omega) (by decide), ec, t3, stI_L 8 (by decide) (by decide), sI_sA, ldI_n (by omega) (by decide), ea, u2, stI_L 16 (by decide) (by decide), sI_sA, ldI_n (by omega) (by decide), ea, u3, stI_L 19 (by decide) (by decide), sI_sA, stI_L 20 (by decide) (by decide), sI_sA, ldP_n (hp _) h0', ldI_n (by omega) (by decide), ec, t2, ldI_n (by omega) (by decide), ea, v1, stI_L 21 (by decide) (by decide), sI_sA, stI_L 17 (by decide) (by decide), ea0, s1.1, sI_sA, eT]
    · intro j hj
      rw [sA_at]
      exact fcG_u (fcG_u (fcG_u (fcG_u (fcG_u (fcG_u (fcG_u (fcG_u h33 (inM_n (by omega))) (inM_n (by omega))) (inM_n (by omega))) (inM_n (by omega))) (inM_n (by omega))) (inM_n (by omega))) (inM_n (by omega))) (inM_n (by omega)) j hj
    · rw [sA_at, pk_un (by omega), pk_un (by omega), pk_un (by omega), pk_un (by omega), pk_un (by omega), pk_un (by omega), pk_un (by omega), pk_un (by omega)]
      exact hw w (by omega)
    · rw [sA_at]
      refine ⟨?_, ?_, ?_, ?_, ?_, ?_, ?_, ?_⟩
      · rw [pk_un (by decide), pk_un (by decide), pk_un (by decide), pk_un (by decide), pk_un (by decide), pk_un (by decide), pk_un (by decide), pk_us]
      · rw [pk_un (by decide), pk_un (by decide), pk_un (by decide), pk_un (by decide), pk_un (by decide), pk_un (by decide), pk_us]
      · rw [pk_un (by decide), pk_un (by decide), pk_un (by decide), pk_un (by decide), pk_un (by decide), pk_us]
      · rw [pk_un (by decide), pk_un (by decide), pk_un (by decide), pk_un (by decide), pk_us]
      · rw [pk_un (by decide), pk_un (by decide), pk_un (by decide), pk_us]
      · rw [pk_un (by decide), pk_un (by decide), pk_us]
      · rw [pk_un (by decide), pk_us]
      · rw [pk_us]
  | succ d ih =>
    intro i K S hi hK h hs h33 hw
    obtain ⟨K, rfl⟩ : ∃ q, K = q + 1 := ⟨K - 1, by omega⟩
    have hcc := cH_c h
    have h44 : ∀ Sx, f_X8_describe_44 (f_X8_describe_6 1200 33 40 K) 1200 33 40 (nI t) (nI (smT (sgB C z t) i)) (nI i) (nI (sgB C z t i)) Sx = f_X8_describe_6 1200 33 40 K (nI t) (nI (smT (sgB C z t) (i + 1))) (nI (i + 1)) (ho_sI Sx 33 (35 + i) (nI (sgB C z t i))) := by
      intro Sx
      unfold f_X8_describe_44
      rw [lit_nI 35, nI_add, stI_n (by omega) (by decide), le1_e, le1_e, nI_add, nI_1]
      rfl
    have go : ∀ Sx, fH (dsP c) S Sx → fcG Sx 33 → (∀ w, w < i → Sx.1 33 (35 + w) = nI (sgB C z t w)) → ∃ S', f_X8_describe_6 1200 33 40 K (nI t) (nI (smT (sgB C z t) (i + 1))) (nI (i + 1)) (ho_sI Sx 33 (35 + i) (nI (sgB C z t i))) = some S' ∧ fcG S' 33 ∧ (∀ w, w < 5 → S'.1 33 (35 + w) = nI (sgB C z t w)) ∧ (S'.1 33 18 = nI t ∧ S'.1 33 6 = nI (cR C 2 t) ∧ S'.1 33 8 = nI (cR C 4 t) ∧ S'.1 33 16 = nI (z (9 + t)) ∧ S'.1 33 19 = nI (z (15 + t)) ∧ S'.1 33 20 = nI (sgT C z t) ∧ S'.1 33 21 = nI (z (3 + cR C 3 t)) ∧ S'.1 33 17 = nI (z 0)) ∧ fH (dsP c) S S' := by
      intro Sx hf hg hx
      have f2 : fH (dsP c) S (ho_sI Sx 33 (35 + i) (nI (sgB C z t i))) := fH_tr hf (fH_sI Sx (Or.inr rfl) (by decide))
      have hb := sgB_le C z t i
      obtain ⟨S', q1, q2, q3, q4, q5⟩ := ih (i + 1) K (ho_sI Sx 33 (35 + i) (nI (sgB C z t i))) (by omega) (by omega) (cH_f h f2 (fun b q => by unfold dsP scE at q; unfold crC; omega)) (stH_f hs f2 (fun b q => by unfold dsP scE at q; omega)) (fun j hj => by rw [sI_at]; exact fcG_u hg (inM_n (by omega)) j hj) (fun w hw2 => by
        by_cases e : w = i
        · subst e; rw [sI_v]
        · rw [sI_k (by omega)]; exact hx w (by omega))
      exact ⟨S', q1, q2, q3, q4, fH_tr f2 q5⟩
    rw [f_X8_describe_6, if_neg (fun q => absurd ((geL 5 (by omega) (by decide)).mp q) (by omega)), ldP_n h.1.1 h.1.2]
    by_cases e : i < cW C
    · have hz6 := hz.2.2.2.2.2.2.1 i e
      obtain ⟨S1, r1, r2⟩ := h_gl (w := i) hC hz h hs ht e hz6
      have hcc2 : S1.1 33 = S.1 33 := r2.1 33 (by unfold scE; omega)
      have eb : sgB C z t i = sg C z t i (z (21 + i)) := if_pos e
      rw [show f_X2_holds c (2 : Int32) (nI i) S = _ from h_hY (k := 2) (by decide) h.2.1.2.2 (by omega) e, ob2_s, if_neg ne1, ldI_n (by omega) (by decide), hs.2.2.2 i e, r1, ob2_s, ← eb, h44]
      exact go S1 (fH_mo r2 (fun b q => Or.inl q)) (fun j hj => by rw [hcc2]; exact h33 j hj) (fun w hw2 => by rw [hcc2]; exact hw w hw2)
    · have eb : sgB C z t i = 0 := if_neg e
      have h44' := h44 S
      rw [eb] at h44'
      rw [show f_X2_holds c (2 : Int32) (nI i) S = _ from h_hN (k := 2) (by decide) h.2.1.2.2 (by omega) (Or.inr (nI_le (by omega) (by omega))), ob2_s, if_pos rfl, show f_X8_describe_44 (f_X8_describe_6 1200 33 40 K) 1200 33 40 (nI t) (nI (smT (sgB C z t) i)) (nI i) (0 : Int32) S = _ from h44']
      have g := go S (fH_rf _ _) h33 hw
      rw [eb] at g
      exact g
/-- the answer, by the tricks below a number -/
def qN (kd n : Nat) (a v : Int) : Int := if kd = 0 then (if a = -1 ∧ v ≠ 0 then (n : Int) else a) else if kd = 1 then (if v ≠ 0 then (n : Int) else a) else if kd < 4 then a + v else if kd = 4 then (if n = 0 then v else if a < v then v else a) else (if n = 0 then v else if v < a then v else a)
def qA (kd : Nat) (f : Nat → Int) : Nat → Int
  | 0 => if kd < 2 then -1 else 0
  | n + 1 => qN kd n (qA kd f n) (f n)
theorem qA_in {kd : Nat} {f : Nat → Int} : ∀ n, (∀ i, i < n → inM (f i)) → -(1 + 1000000 * (n : Int)) ≤ qA kd f n ∧ qA kd f n ≤ 1 + 1000000 * (n : Int) := by
  intro n
  induction n with
  | zero => intro _; rw [qA]; split <;> omega
  | succ n ih =>
    intro h
    obtain ⟨h1, h2⟩ := ih (fun i hi => h i (by omega))
    obtain ⟨h3, h4⟩ := h n (by omega)
    rw [qA]
    generalize qA kd f n = a at *
    generalize f n = v at *
    unfold qN
    repeat' split
    all_goals omega
theorem iI_0 {v : Int} (h : inM v) : iI v = 0 ↔ v = 0 := by
  rw [← Int32.toInt_inj, iI_t h]
  exact Iff.rfl
theorem qN_0 {n : Nat} {a v : Int} : qN 0 n a v = if a = -1 ∧ v ≠ 0 then (n : Int) else a := rfl
theorem qN_1 {n : Nat} {a v : Int} : qN 1 n a v = if v ≠ 0 then (n : Int) else a := rfl
theorem qN_2 {n : Nat} {a v : Int} : qN 2 n a v = a + v := rfl
theorem qN_3 {n : Nat} {a v : Int} : qN 3 n a v = a + v := rfl
theorem qN_4 {n : Nat} {a v : Int} : qN 4 n a v = if n = 0 then v else if a < v then v else a := rfl
theorem qN_5 {n : Nat} {a v : Int} : qN 5 n a v = if n = 0 then v else if v < a then v else a := rfl
theorem LLm1 : (-1 : Int64) = LL (-1) := by decide
theorem LLp1 : (1 : Int64) = LL 1 := by decide
theorem h_with {S : Hp} {kd t : Nat} {a v : Int} (h6 : kd < 6) (h4 : S.1 30 4 = nI (29 + kd)) (ht : t < 6) (ha : -7000001 ≤ a ∧ a ≤ 7000001) (hv : inM v) : f_X6_with (LL a) (nI t) (iI v) S = some (LL (qN kd t a v), S) := by
  have hv' := hv
  obtain ⟨v1, v2⟩ := hv'
  have et : (nI t).toInt64 = LL (t : Int) := by rw [LL_i, nI_toInt (by omega)]
  have em : lg_cmp (LL a) (-1 : Int64) = 0 ↔ a = -1 := by
    rw [LLm1]
    exact c_eq (a := a) (b := -1) (by omega) (by omega) (by omega) (by omega)
  have e0 := iI_0 hv
  have ad : LL a + LL v = LL (a + v) := (Int64.ofInt_add _ _).symm
  have t0 : (nI t = (0 : Int32)) ↔ t = 0 := eqL 0 (by omega) (by decide)
  unfold f_X6_with f_X6_with_112
  rw [h4, et, iI_L hv, ad]
  have : kd = 0 ∨ kd = 1 ∨ kd = 2 ∨ kd = 3 ∨ kd = 4 ∨ kd = 5 := by omega
  rcases this with rfl | rfl | rfl | rfl | rfl | rfl
  · rw [if_pos (show nI (29 + 0) = (29 : Int32) from rfl), qN_0]
    by_cases q1 : a = -1
    · rw [if_pos (em.mpr q1)]
      by_cases q2 : v = 0
      · rw [if_pos (e0.mpr q2), if_neg (fun q => q.2 q2)]
      · rw [if_neg (fun q => q2 (e0.mp q)), if_pos ⟨q1, q2⟩]
    · rw [if_neg (fun q => q1 (em.mp q)), if_neg (fun q => q1 q.1)]
  · rw [if_neg (show ¬ nI (29 + 1) = (29 : Int32) by decide), if_pos (show nI (29 + 1) = (30 : Int32) from rfl), qN_1]
    by_cases q2 : v = 0
    · rw [if_pos (e0.mpr q2), if_neg (fun q => q q2)]
    · rw [if_neg (fun q => q2 (e0.mp q)), if_pos q2]
  · rw [if_neg (show ¬ nI (29 + 2) = (29 : Int32) by decide), if_neg (show ¬ nI (29 + 2) = (30 : Int32) by decide), if_pos (show nI (29 + 2) = (31 : Int32) from rfl), qN_2]
  · rw [if_neg (show ¬ nI (29 + 3) = (29 : Int32) by decide), if_neg (show ¬ nI (29 + 3) = (30 : Int32) by decide), if_neg (show ¬ nI (29 + 3) = (31 : Int32) by decide), if_pos (show nI (29 + 3) = (32 : Int32) from rfl), qN_3]
  · rw [if_neg (show ¬ nI (29 + 4) = (29 : Int32) by decide), if_neg (show ¬ nI (29 + 4) = (30 : Int32) by decide), if_neg (show ¬ nI (29 + 4) = (31 : Int32) by decide), if_neg (show ¬ nI (29 + 4) = (32 : Int32) by decide), if_pos (show nI (29 + 4) = (33 : Int32) from rfl), qN_4, h_max (by omega) (by omega) (by omega) (by omega), ob2_s]
    by_cases q : t = 0
    · rw [if_pos (t0.mpr q), if_pos q]
    · rw [if_neg (fun x => q (t0.mp x)), if_neg q]
  · rw [if_neg (show ¬ nI (29 + 5) = (29 : Int32) by decide), if_neg (show ¬ nI (29 + 5) = (30 : Int32) by decide), if_neg (show ¬ nI (29 + 5) = (31 : Int32) by decide), if_neg (show ¬ nI (29 + 5) = (32 : Int32) by decide), if_neg (show ¬ nI (29 + 5) = (33 : Int32) by decide), if_pos (show nI (29 + 5) = (34 : Int32) from rfl), qN_5, h_min (by omega) (by omega) (by omega) (by omega), ob2_s]
    by_cases q : t = 0
    · rw [if_pos (t0.mpr q), if_pos q]
    · rw [if_neg (fun x => q (t0.mp x)), if_neg q]
def anP (c b : Nat) : Prop := scE c b ∨ b = 33 ∨ b = 42
theorem qv_in {kd : Nat} {cs : List Nat} {C : Cr} {z : Nat → Nat} {t : Nat} (hC : okCr C) (hz : okZ C z) (hq : okQ (gQ kd) cs) (ht : t < cT C) : gQ kd (qv C z cs t) := by
  have hnt := hC.1.2.1
  obtain ⟨k1, k2, k3⟩ := hC.2.2.2.1 t ht
  have hnp := hC.1.1
  obtain ⟨z0, z1, z2, z3, z4, z5, z6, -⟩ := hz
  have z4t := z4 t (by omega)
  have z5t := z5 t (by omega)
  have z3t := z3 (cR C 3 t) (by omega)
  have sgl := sgT_le (z := z) hC t
  refine (qv_ok (pf := fq C z t) (qf := gq C z t) hq (fun k => ?_) (fun x => ?_) (fun _ _ _ => rfl) (fun _ => rfl)).2
  · unfold fq inM
    repeat' split
    all_goals omega
  · have := sgB_le C z t x.toNat
    unfold gq inM
    split <;> omega
theorem h_ans29 {c kd : Nat} {C : Cr} {z : Nat → Nat} {cs : List Nat} (hC : okCr C) (hz : okZ C z) (h6 : kd < 6) (hq : okQ (gQ kd) cs) : ∀ (d i K : Nat) (S : Hp), i + d = cT C → d < K → cH S c C → stH S 1200 C z → fcG S 33 → codH S 40 cs → S.1 30 4 = nI (29 + kd) → ∃ S', f_X6_answer_29 1200 K (LL (qA kd (qv C z cs) i)) (nI i) S = some (LL (qA kd (qv C z cs) (cT C)), S') ∧ fcG S' 33 ∧ fH (anP c) S S' := by
  have hnt := hC.1.2.1
  intro d
  induction d with
  | zero =>
    intro i K S hi hK h hs h33 hcd h4
    obtain ⟨K, rfl⟩ : ∃ q, K = q + 1 := ⟨K - 1, by omega⟩
    refine ⟨S, ?_, h33, fH_rf _ S⟩
    rw [f_X6_answer_29, ldP_n h.1.1 h.1.2, ldI_L 1 (by decide) (by decide), h.2.1.2.1, if_pos (nI_le (by omega) (by omega)), show i = cT C by omega]
  | succ d ih =>
    intro i K S hi hK h hs h33 hcd h4
    obtain ⟨K, rfl⟩ : ∃ q, K = q + 1 := ⟨K - 1, by omega⟩
    have hcc := cH_c h
    have hti : i < cT C := by omega
    obtain ⟨S1, r1, r2, r3, ⟨g18, g6, g8, g16, g19, g20, g21, g17⟩, r5⟩ := h_dsc (c := c) hC hz hti 5 0 5000 S (by decide) (by decide) h hs h33 (fun w hw => absurd hw (Nat.not_lt_zero w))
    have hp1 : ∀ k, inM (pfH S1 33 k) := fun k => r2 _ (wrd_lt k)
    have eg : ∀ x, qfH S1 33 x = gq C z i x := by
      intro x
      unfold qfH gq
      by_cases q : 0 ≤ x ∧ x < 5
      · rw [if_pos q, if_pos q, r3 _ (by omega), nI_toInt (by have := sgB_le C z i x.toNat; omega)]
      · rw [if_neg q, if_neg q]
    have hq1 : ∀ x, inM (qfH S1 33 x) := by
      intro x
      rw [eg]
      have := sgB_le C z i x.toNat
      unfold gq inM
      split <;> omega
    obtain ⟨k1, k2, k3⟩ := hC.2.2.2.1 i hti
    have hnp := hC.1.1
    have hz' := hz
    obtain ⟨z0, z1, z2, z3, z4, z5, z6, -⟩ := hz'
    have z4t := z4 i (by omega)
    have z5t := z5 i (by omega)
    have z3t := z3 (cR C 3 i) (by omega)
    have sgl := sgT_le (z := z) hC i
    obtain ⟨w1, w2⟩ := qv_ok (C := C) (z := z) (t := i) hq hp1 hq1 (by
      intro k hk hal
      have hk8 : k = 0 ∨ k = 1 ∨ k = 2 ∨ k = 5 ∨ k = 7 ∨ k = 8 ∨ k = 9 ∨ k = 10 := by
        unfold al at hal
        simp at hal
        omega
      unfold pfH fq
      rcases hk8 with rfl | rfl | rfl | rfl | rfl | rfl | rfl | rfl
      · show (S1.1 33 8).toInt = _
        rw [g8, nI_toInt (by omega)]; rfl
      · show (S1.1 33 16).toInt = _
        rw [g16, nI_toInt (by omega)]; rfl
      · show (S1.1 33 17).toInt = _
        rw [g17, nI_toInt (by omega)]; rfl
      · show (S1.1 33 6).toInt = _
        rw [g6, nI_toInt (by omega)]; rfl
      · show (S1.1 33 18).toInt = _
        rw [g18, nI_toInt (by omega)]; rfl
      · show (S1.1 33 19).toInt = _
        rw [g19, nI_toInt (by omega)]; rfl
      · show (S1.1 33 20).toInt = _
        rw [g20, nI_toInt (by omega)]; rfl
      · show (S1.1 33 21).toInt = _
        rw [g21, nI_toInt (by omega)]; rfl) eg
    have f40 : ∀ b, b = 40 ∨ b = 41 ∨ b = 30 → S1.1 b = S.1 b := fun b hb => r5.1 b (by unfold dsP scE; omega)
    have cd1 : codH S1 40 cs := by
      unfold codH at hcd ⊢
      rw [f40 40 (by omega), f40 (40 + 1) (by omega)]
      exact hcd
    obtain ⟨g', v1⟩ := h_val (S := S1) (a := 40) (w := 33) (by decide) cd1 hp1 hq1 w1
    have f2 : fH (anP c) S (ho_sA S1 (40 + 2) g') := fH_tr (fH_mo r5 (fun b q => by unfold dsP at q; exact q.elim Or.inl (fun x => Or.inr (Or.inl x)))) (fH_sA S1 (Or.inr (Or.inr rfl)) (by decide))
    have hA := qA_in (kd := kd) (f := qv C z cs) i (fun j hj => (qv_in hC hz hq (by omega)).1)
    have hw := h_with (S := ho_sA S1 (40 + 2) g') (kd := kd) (t := i) (a := qA kd (qv C z cs) i) (v := qv C z cs i) h6 (by rw [sA_ne _ _ (by decide), f40 30 (by omega)]; exact h4) (by omega) ⟨by omega, by omega⟩ w2.1
    obtain ⟨S', q1, q2, q3⟩ := ih (i + 1) K (ho_sA S1 (40 + 2) g') (by omega) (by omega) (cH_f h f2 (fun b q => by unfold anP scE at q; unfold crC; omega)) (stH_f hs f2 (fun b q => by unfold anP scE at q; omega)) (fun j hj => by rw [sA_ne _ _ (by decide)]; exact r2 j hj) (codH_A cd1 (by decide) (by decide)) (by rw [sA_ne _ _ (by decide), f40 30 (by omega)]; exact h4)
    refine ⟨S', ?_, q2, fH_tr f2 q3⟩
    rw [f_X6_answer_29, ldP_n h.1.1 h.1.2, ldI_L 1 (by decide) (by decide), h.2.1.2.1, if_neg (nI_ge (by omega) (by omega))]
    unfold f_X8_describe
    rw [show f_X8_describe_6 1200 33 40 5000 (nI i) (0 : Int32) (0 : Int32) S = _ from r1, ob_s, v1, ob2_s, hw, ob2_s, le1_e, nI_1]
    exact q1
theorem h_answer {S : Hp} {c kd : Nat} {C : Cr} {z : Nat → Nat} {cs : List Nat} (hC : okCr C) (hz : okZ C z) (h6 : kd < 6) (hq : okQ (gQ kd) cs) (h : cH S c C) (hs : stH S 1200 C z) (h33 : fcG S 33) (hcd : codH S 40 cs) (h4 : S.1 30 4 = nI (29 + kd)) : ∃ S', f_X6_answer 1200 S = some (LL (qA kd (qv C z cs) (cT C)), S') ∧ fcG S' 33 ∧ fH (anP c) S S' := by
  have hnt := hC.1.2.1
  obtain ⟨S', q1, q2, q3⟩ := h_ans29 hC hz h6 hq (cT C) 0 5000 S (by omega) (by omega) h hs h33 hcd h4
  refine ⟨S', ?_, q2, q3⟩
  unfold f_X6_answer f_X6_answer_18 f_X6_answer_25
  rw [h4]
  by_cases e : kd < 2
  · have ee : qA kd (qv C z cs) 0 = -1 := if_pos e
    rw [ee] at q1
    have : kd = 0 ∨ kd = 1 := by omega
    rcases this with rfl | rfl
    · rw [if_pos (show nI (29 + 0) = (29 : Int32) from rfl)]; exact q1
    · rw [if_neg (show ¬ nI (29 + 1) = (29 : Int32) by decide), if_pos (show nI (29 + 1) = (30 : Int32) from rfl)]; exact q1
  · have ee : qA kd (qv C z cs) 0 = 0 := if_neg e
    rw [ee] at q1
    rw [if_neg (fun q => absurd ((eqL 29 (by omega) (by decide)).mp q) (by omega)), if_neg (fun q => absurd ((eqL 30 (by omega) (by decide)).mp q) (by omega))]
    exact q1

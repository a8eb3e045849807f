/-! level 2: the reference's reading of sums, step by step -/
def gB (x : Int32) (k j : Nat) (S : Hp) : Option Hp := ob2 (f_X12_qGoesOn_0 j S) (fun r2 S2 => if r2 = 0 then f_X12_qSums_48 (f_X12_qSums_15 k) x S2 else f_X12_qSums_49 (f_X12_qSums_15 k) x (1 : Int32) S2)
def gA (x : Int32) (k j : Nat) (S : Hp) : Option Hp := ob (f_X12_qPartTold_2 j (1 : Int32) S) (fun S1 => if (S1.1 0 5) = 0 then gB x k 5000 S1 else f_X12_qSums_48 (f_X12_qSums_15 k) x S1)
theorem gA_s {x : Int32} {k : Nat} {S : Hp} (h : S.1 0 5 = 0) : f_X12_qSums_15 (k + 1) x (1 : Int32) S = gA x k 5000 S := by
  rw [f_X12_qSums_15, if_neg ne1, if_pos h]
  rfl
/-- how many codes there are is a place in their row -/
def nQ (S : Hp) : Prop := ∃ n, n < 1700 ∧ S.1 0 100 = nI n
theorem nQ_l {S S' : Hp} (h : nQ S) (hf : fM lxP S S') : nQ S' := by
  obtain ⟨n, h1, h2⟩ := h
  exact ⟨n, h1, by rw [hf.1 0 100 (by unfold lxP; omega)]; exact h2⟩
theorem nQ_q {S : Hp} {W Cs : List Nat} {op bs : Nat} (h : qS S W Cs op bs) (hl : Cs.length < 1700) : nQ S := ⟨_, hl, h.2.1.1⟩
def erB (X : Option Hp) (S : Hp) (e : Nat × Nat) : Prop := ∃ S', X = some S' ∧ bR S' e ∧ nQ S' ∧ fM pP S S'
theorem er_end {x : Int32} {k : Nat} {S0 S : Hp} {e : Nat × Nat} (h : bR S e) (hq : nQ S) (hk : 0 < k) (hf : fM pP S0 S) : erB (f_X12_qSums_48 (f_X12_qSums_15 k) x S) S0 e := by
  obtain ⟨k, rfl⟩ : ∃ q, k = q + 1 := ⟨k - 1, by omega⟩
  have h0 := bR_0 h
  refine ⟨ho_sI S 0 104 x, ?_, ?_, by obtain ⟨n, h1, h2⟩ := hq; exact ⟨n, h1, by rw [sI_k (by decide)]; exact h2⟩, fM_tr hf (fM_sI _ (by unfold pP; omega))⟩
  · unfold f_X12_qSums_48 f_X12_qSums_49
    rw [f_X12_qSums_15, if_pos rfl, f_X12_qSums_53, if_neg h0]
    unfold f_X12_qSums_78
    rw [le1_e]
  · unfold bR
    rw [sI_k (by decide), sI_k (by decide)]
    exact h
theorem isG_u {T : Tp} {σ : Lx} {c c' : Nat} (h : isG T σ c = true) (h' : isG T σ c' = true) : c = c' := (isG_i.mp h).2.symm.trans (isG_i.mp h').2
theorem byt_i {T : Tp} {σ : Lx} {c : Nat} (h : ∀ i, i < T.2 → T.1 i < 256) (hc : c < 256 ∧ ltr c = false ∧ dgt c = false) : byt T (tS T σ) = nI c ↔ isG T σ c = true := by
  rw [isG_b hc.2]
  unfold byt
  by_cases q : tS T σ < T.2
  · have := h _ q
    rw [if_pos q, nI_eq (by omega) (by omega)]
    exact ⟨fun x => ⟨q, x⟩, fun x => x.2⟩
  · rw [if_neg q]
    constructor
    · intro x
      have q1 : (nI c).toInt = (c : Int) := nI_toInt (by omega)
      rw [← x] at q1
      have : (-1 : Int32).toInt = -1 := (by decide)
      omega
    · intro x; exact absurd x.1 q
theorem byL {T : Tp} {σ : Lx} (c : Nat) (h : ∀ i, i < T.2 → T.1 i < 256) (hc : c < 256 ∧ ltr c = false ∧ dgt c = false) : byt T (tS T σ) = (OfNat.ofNat c : Int32) ↔ isG T σ c = true := byt_i h hc
theorem lR_sg {S : Hp} {T : Tp} {σ : Lx} (h : lR S T σ) (k3 : tK T σ = 3) : lR (ho_sI S 0 2 (nI (tS T σ + 1))) T (nx T σ) := by
  have hE := tE_sign k3
  obtain ⟨h1, h2, h3, h4, h5⟩ := h
  refine ⟨lB_f h1 (sI_k (by decide)) (fun i => by rw [sI_ne _ (by decide)]), tE_le h2, by rw [sI_k (by decide)]; exact h3, ⟨tE T σ, Nat.le_refl _, tS_ge T (nx T σ), by rw [sI_v, hE]⟩, Or.inr ⟨?_, ?_⟩, by rw [sI_k (by decide)]; exact h5.2⟩
  · show decide (tK T σ = 1 ∨ tK T σ = 2) = false
    rw [k3]; rfl
  · rw [sI_k (by decide)]
    have hg := tS_ge T σ
    have e0 : (nx T σ).1 = tE T σ := rfl
    rcases h5.1 with ⟨-, e⟩ | ⟨-, e | ⟨j, j1, e⟩⟩
    · exact Or.inr ⟨σ.1, by omega, e⟩
    · exact Or.inl e
    · exact Or.inr ⟨j, by omega, e⟩
theorem h256 {S : Hp} {T : Tp} {σ : Lx} (h : lR S T σ) : ∀ i, i < T.2 → T.1 i < 256 := fun i hi => (h.1.2.2 i hi).2
theorem qR_X {S : Hp} {T : Tp} {m : Nat} {σ : Lx} {W Cs : List Nat} {op bs : Nat} (h : qR S T m σ W Cs op bs) : qR (ho_sI S 0 2 (nI (tS T σ))) T m σ W Cs op bs ∧ fM lxP S (ho_sI S 0 2 (nI (tS T σ))) := by
  have f1 : fM lxP S (ho_sI S 0 2 (nI (tS T σ))) := fM_sI _ ⟨rfl, (by omega)⟩
  exact ⟨qR_l h f1 (lX_of h.1).1, f1⟩
theorem gB_n {S : Hp} {T : Tp} {m j : Nat} {σ : Lx} {W Cs : List Nat} {op bs : Nat} (h : qR S T m σ W Cs op bs) (hn : ¬ isG T σ 41 = true) : f_X12_qGoesOn_0 (j + 1) S = f_X12_qGoesOn_122 (ho_sI S 0 2 (nI (tS T σ))) := by
  rw [f_X12_qGoesOn_0, if_pos h.1.2.2.1, m_look h.1, ob2_s, if_neg (fun q => hn ((byL 41 (h256 h.1) (by decide)).mp q))]
theorem m_140 {S : Hp} {T : Tp} {m c o s op bs : Nat} {σ : Lx} {V R Cs : List Nat} (hco : (c = 42 ∧ o = 3) ∨ (c = 47 ∧ o = 4)) (h : qR S T m σ (V ++ R.reverse) Cs op bs) (hs : s < T.2) (h2 : S.1 0 2 = nI (s + 1)) (hb : T.1 s = c) (hV : ∀ y, V.getLast? = some y → y ≠ 3 ∧ y ≠ 4) (hx : ∀ y ∈ V, y < 1000) (hR : ∀ y ∈ R, y = 3 ∨ y = 4) (hl : V.length + R.length + Cs.length < 1690) :
    ∃ S', f_X12_qGoesOn_140 S = some (1, S') ∧ qR S' T m σ (V ++ [o]) (Cs ++ R) op bs ∧ fM qP S S' := by
  have hB := h.1.1
  obtain ⟨S1, r1, r2, r3⟩ := m_162 (x := o) hV hx R 5000 S Cs h.2.2.2 hR (by omega) hl
  refine ⟨S1, ?_, qR_q h r3 r2, r3⟩
  unfold f_X12_qGoesOn_140 f_X12_qGoesOn_161
  rw [h2, n_pred, ldI_n (by have := hB.1; omega) (by decide), (hB.2.2 s hs).1, hb]
  rcases hco with ⟨rfl, rfl⟩ | ⟨rfl, rfl⟩
  · rw [if_pos (show nI 42 = (42 : Int32) from rfl)]; exact r1
  · rw [if_neg (by decide)]; exact r1
theorem m_225 {S : Hp} {T : Tp} {m c o s op bs : Nat} {σ : Lx} {V R Cs : List Nat} (hco : (c = 43 ∧ o = 1) ∨ (c = 45 ∧ o = 2)) (h : qR S T m σ (V ++ R.reverse) Cs op bs) (hs : s < T.2) (h2 : S.1 0 2 = nI (s + 1)) (hb : T.1 s = c) (hV : ∀ y, V.getLast? = some y → 5 ≤ y) (hx : ∀ y ∈ V, y < 1000) (hR : ∀ y ∈ R, 1 ≤ y ∧ y ≤ 4) (hl : V.length + R.length + Cs.length < 1690) :
    ∃ S', f_X12_qGoesOn_225 S = some (1, S') ∧ qR S' T m σ (V ++ [o]) (Cs ++ R) op bs ∧ fM qP S S' := by
  have hB := h.1.1
  obtain ⟨S1, r1, r2, r3⟩ := m_247 (x := o) hV hx R 5000 S Cs h.2.2.2 hR (by omega) hl
  refine ⟨S1, ?_, qR_q h r3 r2, r3⟩
  unfold f_X12_qGoesOn_225 f_X12_qGoesOn_246
  rw [h2, n_pred, ldI_n (by have := hB.1; omega) (by decide), (hB.2.2 s hs).1, hb]
  rcases hco with ⟨rfl, rfl⟩ | ⟨rfl, rfl⟩
  · rw [if_pos (show nI 43 = (43 : Int32) from rfl)]; exact r1
  · rw [if_neg (by decide)]; exact r1
/-- a sign that isn't there -/
theorem m_noG {S : Hp} {T : Tp} {m c : Nat} {σ : Lx} {W Cs : List Nat} {op bs : Nat} (h : qR S T m σ W Cs op bs) (hc : c < 256 ∧ ltr c = false ∧ dgt c = false) (g : ¬ isG T σ c = true) : ∃ S', f_X12_takesSign (nI c) S = some (0, S') ∧ qR S' T m σ W Cs op bs ∧ lX S' T σ ∧ fM lxP S S' := by
  obtain ⟨S1, r1, r2, -, r4⟩ := m_sign h.1 hc
  rw [if_neg g] at r1
  exact ⟨S1, r1, qR_l h r2 (r4 g).1, r4 g, r2⟩
theorem m_yesG {S : Hp} {T : Tp} {m c : Nat} {σ : Lx} {W Cs : List Nat} {op bs : Nat} (h : qR S T m σ W Cs op bs) (hc : c < 256 ∧ ltr c = false ∧ dgt c = false) (g : isG T σ c = true) : ∃ S', f_X12_takesSign (nI c) S = some (1, S') ∧ qR S' T m (nx T σ) W Cs op bs ∧ S'.1 0 2 = nI (tS T σ + 1) ∧ fM lxP S S' := by
  obtain ⟨S1, r1, r2, r3, -⟩ := m_sign h.1 hc
  rw [if_pos g] at r1
  exact ⟨S1, r1, qR_l h r2 (r3 g).1, (r3 g).2, r2⟩
theorem st_mul {x : Int32} {S : Hp} {T : Tp} {m c o op bs k j : Nat} {σ : Lx} {V R Cs : List Nat} (hco : (c = 42 ∧ o = 3) ∨ (c = 47 ∧ o = 4)) (h : qR S T m σ (V ++ R.reverse) Cs op bs) (g : isG T σ c = true) (hV : ∀ y, V.getLast? = some y → y ≠ 3 ∧ y ≠ 4) (hx : ∀ y ∈ V, y < 1000) (hR : ∀ y ∈ R, y = 3 ∨ y = 4) (hl : V.length + R.length + Cs.length < 1690) :
    ∃ S', gB x (k + 1) (j + 1) S = gA x k 5000 S' ∧ qR S' T m (nx T σ) (V ++ [o]) (Cs ++ R) op bs ∧ fM pP S S' := by
  have n41 : ¬ isG T σ 41 = true := fun q => by have := isG_u g q; omega
  obtain ⟨q1, f1⟩ := qR_X h
  have hs := (isG_b (T := T) (σ := σ) (c := c) (by rcases hco with ⟨rfl, -⟩ | ⟨rfl, -⟩ <;> decide)).mp g
  have key : ∃ S', f_X12_qGoesOn_122 (ho_sI S 0 2 (nI (tS T σ))) = some (1, S') ∧ qR S' T m (nx T σ) (V ++ [o]) (Cs ++ R) op bs ∧ fM pP S S' := by
    unfold f_X12_qGoesOn_122
    by_cases e : c = 42
    · subst e
      obtain ⟨S2, r1, r2, r3, r4⟩ := m_yesG (c := 42) q1 (by decide) g
      obtain ⟨S3, p1, p2, p3⟩ := m_140 hco r2 hs.1 r3 hs.2 hV hx hR hl
      rw [show f_X12_takesSign (42 : Int32) _ = _ from r1, ob2_s, if_neg ne1, p1]
      exact ⟨S3, rfl, p2, fM_tr (fM_mo (fM_tr f1 r4) (fun _ _ => lx_p)) (fM_mo p3 (fun _ _ => q_p))⟩
    · obtain ⟨S2, r1, r2, -, r4⟩ := m_noG (c := 42) q1 (by decide) (fun q => e (isG_u g q))
      have e2 : c = 47 := by omega
      subst e2
      obtain ⟨S3, p1, p2, p3, p4⟩ := m_yesG (c := 47) r2 (by decide) g
      obtain ⟨S4, u1, u2, u3⟩ := m_140 hco p2 hs.1 p3 hs.2 hV hx hR hl
      rw [show f_X12_takesSign (42 : Int32) _ = _ from r1, ob2_s, if_pos rfl, show f_X12_takesSign (47 : Int32) _ = _ from p1, ob2_s, if_neg ne1, u1]
      exact ⟨S4, rfl, u2, fM_tr (fM_mo (fM_tr f1 (fM_tr r4 p4)) (fun _ _ => lx_p)) (fM_mo u3 (fun _ _ => q_p))⟩
  obtain ⟨S', k1, k2, k3⟩ := key
  refine ⟨S', ?_, k2, k3⟩
  unfold gB
  rw [gB_n h n41, k1, ob2_s, if_neg ne1]
  unfold f_X12_qSums_49
  exact gA_s k2.1.2.2.1
theorem st_add {x : Int32} {S : Hp} {T : Tp} {m c o op bs k j : Nat} {σ : Lx} {V R Cs : List Nat} (hco : (c = 43 ∧ o = 1) ∨ (c = 45 ∧ o = 2)) (h : qR S T m σ (V ++ R.reverse) Cs op bs) (g : isG T σ c = true) (hV : ∀ y, V.getLast? = some y → 5 ≤ y) (hx : ∀ y ∈ V, y < 1000) (hR : ∀ y ∈ R, 1 ≤ y ∧ y ≤ 4) (hl : V.length + R.length + Cs.length < 1690) :
    ∃ S', gB x (k + 1) (j + 1) S = gA x k 5000 S' ∧ qR S' T m (nx T σ) (V ++ [o]) (Cs ++ R) op bs ∧ fM pP S S' := by
  have n41 : ¬ isG T σ 41 = true := fun q => by have := isG_u g q; omega
  obtain ⟨q1, f1⟩ := qR_X h
  have hs := (isG_b (T := T) (σ := σ) (c := c) (by rcases hco with ⟨rfl, -⟩ | ⟨rfl, -⟩ <;> decide)).mp g
  have key : ∃ S', f_X12_qGoesOn_122 (ho_sI S 0 2 (nI (tS T σ))) = some (1, S') ∧ qR S' T m (nx T σ) (V ++ [o]) (Cs ++ R) op bs ∧ fM pP S S' := by
    unfold f_X12_qGoesOn_122
    obtain ⟨S2, r1, r2, -, r4⟩ := m_noG (c := 42) q1 (by decide) (fun q => by have := isG_u g q; omega)
    obtain ⟨S3, p1, p2, -, p4⟩ := m_noG (c := 47) r2 (by decide) (fun q => by have := isG_u g q; omega)
    rw [show f_X12_takesSign (42 : Int32) _ = _ from r1, ob2_s, if_pos rfl, show f_X12_takesSign (47 : Int32) _ = _ from p1, ob2_s, if_pos rfl]
    by_cases e : c = 43
    · subst e
      obtain ⟨S4, s1, s2, s3, s4⟩ := m_yesG (c := 43) p2 (by decide) g
      obtain ⟨S5, u1, u2, u3⟩ := m_225 hco s2 hs.1 s3 hs.2 hV hx hR hl
      rw [show f_X12_takesSign (43 : Int32) _ = _ from s1, ob2_s, if_neg ne1, u1]
      exact ⟨S5, rfl, u2, fM_tr (fM_mo (fM_tr f1 (fM_tr r4 (fM_tr p4 s4))) (fun _ _ => lx_p)) (fM_mo u3 (fun _ _ => q_p))⟩
    · obtain ⟨S4, s1, s2, -, s4⟩ := m_noG (c := 43) p2 (by decide) (fun q => e (isG_u g q))
      have e2 : c = 45 := by omega
      subst e2
      obtain ⟨S5, t1, t2, t3, t4⟩ := m_yesG (c := 45) s2 (by decide) g
      obtain ⟨S6, u1, u2, u3⟩ := m_225 hco t2 hs.1 t3 hs.2 hV hx hR hl
      rw [show f_X12_takesSign (43 : Int32) _ = _ from s1, ob2_s, if_pos rfl, show f_X12_takesSign (45 : Int32) _ = _ from t1, ob2_s, if_neg ne1, u1]
      exact ⟨S6, rfl, u2, fM_tr (fM_mo (fM_tr f1 (fM_tr r4 (fM_tr p4 (fM_tr s4 t4)))) (fun _ _ => lx_p)) (fM_mo u3 (fun _ _ => q_p))⟩
  obtain ⟨S', k1, k2, k3⟩ := key
  refine ⟨S', ?_, k2, k3⟩
  unfold gB
  rw [gB_n h n41, k1, ob2_s, if_neg ne1]
  unfold f_X12_qSums_49
  exact gA_s k2.1.2.2.1
/-- no sign of a sum comes next -/
def nop (T : Tp) (σ : Lx) : Prop := ¬ isG T σ 42 = true ∧ ¬ isG T σ 47 = true ∧ ¬ isG T σ 43 = true ∧ ¬ isG T σ 45 = true
theorem g122 {S : Hp} {T : Tp} {m op bs : Nat} {σ : Lx} {V R Cs : List Nat} (h : qR S T m σ (V ++ R.reverse) Cs op bs) (n : nop T σ) (hV : onB V bs) (hx : ∀ y ∈ V, y < 1000) (hR : ∀ y ∈ R, 1 ≤ y ∧ y ≤ 4) (hl : V.length + R.length < 1690) :
    ∃ S5, lX S5 T σ ∧ qR S5 T m σ (V ++ R.reverse) Cs op bs ∧ fM lxP S S5 ∧ f_X12_qGoesOn_122 S = (if brk V bs = (21 : Int32) then f_X12_qGoesOn_326 S5 else if brk V bs = (22 : Int32) then f_X12_qGoesOn_326 S5 else if brk V bs = (-1 : Int32) then some ((0 : Int32), S5) else ob (f_X12_fail (1 : Int32) (nI (tS T σ)) S5) (fun S8 => some ((0 : Int32), S8))) := by
  obtain ⟨S2, r1, r2, -, r4⟩ := m_noG (c := 42) h (by decide) n.1
  obtain ⟨S3, p1, p2, -, p4⟩ := m_noG (c := 47) r2 (by decide) n.2.1
  obtain ⟨S4, s1, s2, -, s4⟩ := m_noG (c := 43) p2 (by decide) n.2.2.1
  obtain ⟨S5, t1, t2, t3, t4⟩ := m_noG (c := 45) s2 (by decide) n.2.2.2
  refine ⟨S5, t3, t2, fM_tr r4 (fM_tr p4 (fM_tr s4 t4)), ?_⟩
  have b := m_brk hV hx t2.2.2.2 hR hl
  unfold f_X12_qGoesOn_122
  rw [show f_X12_takesSign (42 : Int32) _ = _ from r1, ob2_s, if_pos rfl, show f_X12_takesSign (47 : Int32) _ = _ from p1, ob2_s, if_pos rfl, show f_X12_takesSign (43 : Int32) _ = _ from s1, ob2_s, if_pos rfl, show f_X12_takesSign (45 : Int32) _ = _ from t1, ob2_s, if_pos rfl, b, ob2_s, b, ob2_s, b, ob2_s, if_pos t2.1.2.2.1, t3.2]
theorem brk_s {U : List Nat} {y bs : Nat} (h : bs ≤ U.length) : brk (U ++ [y]) bs = nI y := by
  unfold brk
  rw [if_neg (by rw [List.length_append]; simp; omega)]
  simp
theorem brk_0 {V : List Nat} {bs : Nat} (h : V.length = bs) : brk V bs = -1 := by
  unfold brk
  rw [if_pos (by omega)]
/-- a bracket that is closed -/
theorem m_43 {K0 : Hp → Option (Int32 × Hp)} {S : Hp} {T : Tp} {m c op bs y : Nat} {σ : Lx} {W R Cs : List Nat} (h : qR S T m σ (W ++ List.replicate c 60 ++ [y] ++ R.reverse) Cs (op + c + 1) bs) (hX : lX S T σ) (g : isG T σ 41 = true) (hy : y = 20 ∨ y = 23 ∨ y = 24) (hb : bs ≤ W.length) (hW : ∀ z, W.getLast? = some z → z < 60) (hx : ∀ z ∈ W, z < 1000) (hR : ∀ z ∈ R, 1 ≤ z ∧ z ≤ 4) (hl : W.length + c + 1 + R.length + Cs.length < 1690) :
    ∃ S', f_X12_qGoesOn_43 K0 S = K0 S' ∧ qR S' T m (nx T σ) W (Cs ++ R ++ (if y = 20 then [] else if y = 23 then [5] else [6]) ++ List.replicate c 60) op bs ∧ fM pP S S' := by
  have k3 := (isG_i.mp g).1
  have hl1 := lR_sg h.1 k3
  have f1 : fM lxP S (ho_sI S 0 2 (nI (tS T σ + 1))) := fM_sI _ ⟨rfl, (by omega)⟩
  have q1 := qR_l h f1 hl1
  have hlen : (W ++ List.replicate c 60).length = W.length + c := by simp
  have hon : onB (W ++ List.replicate c 60 ++ [y]) bs := Or.inr ⟨_, y, rfl, by rw [hlen]; omega, by omega, by omega⟩
  have hx2 : ∀ z ∈ W ++ List.replicate c 60 ++ [y], z < 1000 := by
    intro z hz
    simp only [List.mem_append, List.mem_replicate, List.mem_singleton] at hz
    rcases hz with (hz | hz) | hz
    · exact hx z hz
    · omega
    · omega
  obtain ⟨S2, r1, r2, r3⟩ := m_dtb hon hx2 R 5000 _ Cs q1.2.2.2 hR (by omega) (by rw [List.length_append, hlen]; simp; omega)
  obtain ⟨p1, p2, p3⟩ := qS_pop r2
  rw [hlen] at p1 p2 p3
  have h103 : S2.1 0 103 = nI (op + c + 1) := r2.2.2.1
  have p4 : qS (ho_sI (ho_sI S2 0 102 (nI (W.length + c))) 0 103 (nI (op + c))) (W ++ List.replicate c 60) (Cs ++ R) (op + c) bs := by
    obtain ⟨⟨h1, h2⟩, ⟨h3, h4⟩, h5, h6⟩ := p1
    exact ⟨⟨by rw [sI_k (by decide)]; exact h1, lsC_ne h2 (by decide)⟩, ⟨by rw [sI_k (by decide)]; exact h3, lsC_ne h4 (by decide)⟩, sI_v, by rw [sI_k (by decide)]; exact h6⟩
  have f4 : fM qP S2 (ho_sI (ho_sI S2 0 102 (nI (W.length + c))) 0 103 (nI (op + c))) := fM_tr (fM_sI _ (by unfold qP; omega)) (fM_sI _ (by unfold qP; omega))
  generalize hS4 : ho_sI (ho_sI S2 0 102 (nI (W.length + c))) 0 103 (nI (op + c)) = S4 at p4 f4
  have q4 := qR_q q1 (fM_tr r3 f4) p4
  have e102 : S4.1 0 102 = nI (W.length + c) := by rw [p4.1.1, hlen]
  have ey : S4.1 102 (W.length + c) = nI y := by rw [← hS4, sI_ne _ (by decide), sI_ne _ (by decide)]; exact p2
  have fin : ∀ (S5 : Hp) (Cs5 : List Nat), qR S5 T m (nx T σ) (W ++ List.replicate c 60) Cs5 (op + c) bs → fM qP S4 S5 → Cs5.length ≤ Cs.length + R.length + 1 → ∃ S', f_X12_qGoesOn_115 K0 S5 = K0 S' ∧ qR S' T m (nx T σ) W (Cs5 ++ List.replicate c 60) op bs ∧ fM pP S S' := by
    intro S5 Cs5 q5 f5 h5
    obtain ⟨S6, u1, u2, u3⟩ := m_ends hb hW c op 5000 S5 Cs5 q5.1.2.2.1 q5.2.2.2 (by omega) (by omega)
    refine ⟨S6, ?_, qR_q q5 u3 u2, fM_tr (fM_mo f1 (fun _ _ => lx_p)) (fM_mo (fM_tr r3 (fM_tr f4 (fM_tr f5 u3))) (fun _ _ => q_p))⟩
    unfold f_X12_qGoesOn_115 f_X12_qEndsPart
    rw [u1, ob_s]
  have h12 : ∀ v, ∃ S', f_X12_qGoesOn_112 K0 (nI v) S4 = K0 S' ∧ qR S' T m (nx T σ) W (Cs ++ R ++ [v] ++ List.replicate c 60) op bs ∧ fM pP S S' := by
    intro v
    obtain ⟨S5, u1, u2, u3⟩ := m_code v q4.2.2.2 (by rw [List.length_append]; omega)
    obtain ⟨S6, w1, w2, w3⟩ := fin S5 _ (qR_q q4 u3 u2) u3 (by simp; omega)
    refine ⟨S6, ?_, w2, w3⟩
    unfold f_X12_qGoesOn_112
    rw [u1, ob_s, w1]
  unfold f_X12_qGoesOn_43 f_X12_qDropsToBracket
  rw [hX.2, nI_1, le1_e, r1, ob_s, p3, n_pred, le1_e, sI_k (a := 0) (k := 102) (j := 103) (by decide), h103, n_pred, le1_e, hS4, e102, ldI_n (by omega) (by decide), ey]
  by_cases e : y = 20
  · obtain ⟨S6, w1, w2, w3⟩ := fin S4 _ q4 (fM_rf _ _) (by simp)
    rw [if_pos ((eqL 20 (by omega) (by decide)).mpr e), if_pos e, List.append_nil]
    exact ⟨S6, w1, w2, w3⟩
  · rw [if_neg (fun q => e ((eqL 20 (by omega) (by decide)).mp q)), if_neg e, ldI_n (by omega) (by decide), ey]
    by_cases e2 : y = 23
    · rw [if_pos ((eqL 23 (by omega) (by decide)).mpr e2), if_pos e2]
      exact h12 5
    · rw [if_neg (fun q => e2 ((eqL 23 (by omega) (by decide)).mp q)), if_neg e2]
      exact h12 6

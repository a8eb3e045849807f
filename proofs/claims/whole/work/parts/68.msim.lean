/-! level 2: the reference reads sums as by descent -/
def okB (x : Int32) (X : Option Hp) (S : Hp) (T : Tp) (m : Nat) (σ1 : Lx) (W Cs : List Nat) (op bs : Nat) : Prop := ∃ k1 j1 S1, X = gB x k1 j1 S1 ∧ qR S1 T m σ1 W Cs op bs ∧ (T.2 + 2 ≤ k1 + σ1.1 ∧ T.2 + 2 ≤ j1 + σ1.1) ∧ fM pP S S1
def PT (T : Tp) (m d : Nat) : Prop := ∀ (x : Int32) (σ : Lx) (W Cs : List Nat) (c bs k j : Nat) (S : Hp), qR S T m σ (W ++ List.replicate c 60) Cs (6 - d) bs → bs ≤ W.length → (∀ z, W.getLast? = some z → z < 60) → (∀ z ∈ W, z < 1000) → c ≤ 6 - d → W.length + c + Cs.length ≤ σ.1 → T.2 + 2 ≤ k + σ.1 → T.2 + 2 ≤ j + σ.1 →
  (∀ cs σ1, ptD T m d σ = .ok (cs, σ1) → okB x (gA x k j S) S T m σ1 W (Cs ++ cs ++ List.replicate c 60) (6 - d - c) bs) ∧ (∀ e, ptD T m d σ = .error e → erB (gA x k j S) S e)
theorem er_f {X Y : Option Hp} {S S1 : Hp} {e : Nat × Nat} (h : erB Y S1 e) (hx : X = Y) (hf : fM pP S S1) : erB X S e := by
  obtain ⟨S', a, b, b2, c⟩ := h
  exact ⟨S', hx.trans a, b, b2, fM_tr hf c⟩
/-- a sum's reading so far: what waits on V -/
def sB (x : Int32) (X : Option Hp) (S : Hp) (T : Tp) (m : Nat) (σ1 : Lx) (V C : List Nat) (op bs : Nat) (g : Nat → Prop) : Prop := ∃ k1 j1 S1 R1 Cs1, X = gB x k1 j1 S1 ∧ qR S1 T m σ1 (V ++ R1.reverse) Cs1 op bs ∧ (∀ y ∈ R1, g y) ∧ Cs1 ++ R1 = C ∧ V.length + R1.length + Cs1.length ≤ σ1.1 ∧ (T.2 + 2 ≤ k1 + σ1.1 ∧ T.2 + 2 ≤ j1 + σ1.1) ∧ fM pP S S1
theorem noG_end {T : Tp} {σ : Lx} {c : Nat} (h : T.2 ≤ σ.1) : ¬ isG T σ c = true := by
  intro q
  have h1 := tE_gt (isG_k q)
  have h2 := tS_ge T σ
  omega
theorem prL_sim {T : Tp} {m d bs : Nat} {x : Int32} {V C0 : List Nat} (hP : PT T m d) (hb : bs ≤ V.length) (hV : ∀ z, V.getLast? = some z → z ≠ 3 ∧ z ≠ 4 ∧ z < 60) (hx : ∀ z ∈ V, z < 1000) : ∀ (n : Nat) (cs : List Nat) (σ : Lx) (R Cs0 : List Nat) (k j : Nat) (S : Hp), T.2 ≤ n + σ.1 → qR S T m σ (V ++ R.reverse) Cs0 (6 - d) bs → (∀ y ∈ R, y = 3 ∨ y = 4) → Cs0 ++ R = C0 ++ cs → V.length + R.length + Cs0.length ≤ σ.1 → T.2 + 2 ≤ k + σ.1 → T.2 + 2 ≤ j + σ.1 →
    (∀ cs1 σ1, prL T (ptD T m d) n cs σ = .ok (cs1, σ1) → sB x (gB x k j S) S T m σ1 V (C0 ++ cs1) (6 - d) bs (fun y => y = 3 ∨ y = 4) ∧ ¬ isG T σ1 42 = true ∧ ¬ isG T σ1 47 = true) ∧ (∀ e, prL T (ptD T m d) n cs σ = .error e → erB (gB x k j S) S e) := by
  intro n
  induction n with
  | zero =>
    intro cs σ R Cs0 k j S hn h hR hC hl hk hj
    rw [prL]
    refine ⟨fun cs1 σ1 e => ?_, fun e q => (by cases q)⟩
    cases e
    exact ⟨⟨k, j, S, R, Cs0, rfl, h, hR, hC, hl, ⟨hk, hj⟩, fM_rf _ S⟩, noG_end (by omega), noG_end (by omega)⟩
  | succ n ih =>
    intro cs σ R Cs0 k j S hn h hR hC hl hk hj
    have hσ := h.1.2.1
    have hT := h.1.1.1
    have go : ∀ c o, ((c = 42 ∧ o = 3) ∨ (c = 47 ∧ o = 4)) → isG T σ c = true → (∀ cs1 σ1, bn (ptD T m d (nx T σ)) (fun c1 σ1 => prL T (ptD T m d) n (cs ++ c1 ++ [o]) σ1) = .ok (cs1, σ1) → sB x (gB x k j S) S T m σ1 V (C0 ++ cs1) (6 - d) bs (fun y => y = 3 ∨ y = 4) ∧ ¬ isG T σ1 42 = true ∧ ¬ isG T σ1 47 = true) ∧ (∀ e, bn (ptD T m d (nx T σ)) (fun c1 σ1 => prL T (ptD T m d) n (cs ++ c1 ++ [o]) σ1) = .error e → erB (gB x k j S) S e) := by
      intro c o hco g
      obtain ⟨n1, n2⟩ := nx_mv hσ (isG_k g)
      obtain ⟨k, rfl⟩ : ∃ q, k = q + 1 := ⟨k - 1, by omega⟩
      obtain ⟨j, rfl⟩ : ∃ q, j = q + 1 := ⟨j - 1, by omega⟩
      obtain ⟨S1, r1, r2, r3⟩ := st_mul (x := x) (k := k) (j := j) hco h g (fun y hy => ⟨(hV y hy).1, (hV y hy).2.1⟩) hx hR (by omega)
      obtain ⟨p1, p2⟩ := hP x (nx T σ) (V ++ [o]) (Cs0 ++ R) 0 bs k 5000 S1 (by rw [List.replicate_zero, List.append_nil]; exact r2) (by simp; omega) (fun z hz => by simp at hz; omega) (fun z hz => by
        simp only [List.mem_append, List.mem_singleton] at hz
        rcases hz with hz | hz
        · exact hx z hz
        · omega) (by omega) (by simp; omega) (by omega) (by omega)
      rw [r1]
      cases hq : ptD T m d (nx T σ) with
      | error e =>
        refine ⟨fun cs1 σ1 q => (by cases q), fun e2 q => ?_⟩
        cases q
        exact er_f (p2 e hq) rfl r3
      | ok r =>
        obtain ⟨k1, j1, S2, u1, u2, u3, u4⟩ := p1 r.1 r.2 hq
        have hm := ptD_mv T m d _ r.1 r.2 n2 hq
        rw [List.replicate_zero, List.append_nil] at u2
        have f2 : fM pP S S2 := fM_tr r3 u4
        obtain ⟨v1, v2⟩ := ih (cs ++ r.1 ++ [o]) r.2 [o] (Cs0 ++ R ++ r.1) k1 j1 S2 (by omega) u2 (fun y hy => by simp at hy; omega) (by rw [hC]; simp) (by simp; omega) u3.1 u3.2
        refine ⟨fun cs1 σ1 q => ?_, fun e q => er_f (v2 e q) u1 f2⟩
        obtain ⟨⟨k2, j2, S3, R3, Cs3, w1, w2, w3, w4, w5, w6, w7⟩, w8⟩ := v1 cs1 σ1 q
        exact ⟨⟨k2, j2, S3, R3, Cs3, u1.trans w1, w2, w3, w4, w5, w6, fM_tr f2 w7⟩, w8⟩
    rw [prL]
    by_cases g1 : isG T σ 42 = true
    · rw [if_pos g1]; exact go 42 3 (Or.inl ⟨rfl, rfl⟩) g1
    · rw [if_neg g1]
      by_cases g2 : isG T σ 47 = true
      · rw [if_pos g2]; exact go 47 4 (Or.inr ⟨rfl, rfl⟩) g2
      · rw [if_neg g2]
        refine ⟨fun cs1 σ1 e => ?_, fun e q => (by cases q)⟩
        cases e
        exact ⟨⟨k, j, S, R, Cs0, rfl, h, hR, hC, hl, ⟨hk, hj⟩, fM_rf _ S⟩, g1, g2⟩
theorem prd_sim {T : Tp} {m d bs : Nat} {x : Int32} {V Cs : List Nat} (hP : PT T m d) (hb : bs ≤ V.length) (hV : ∀ z, V.getLast? = some z → z ≠ 3 ∧ z ≠ 4 ∧ z < 60) (hx : ∀ z ∈ V, z < 1000) {σ : Lx} {k j : Nat} {S : Hp} (h : qR S T m σ V Cs (6 - d) bs) (hl : V.length + Cs.length ≤ σ.1) (hk : T.2 + 2 ≤ k + σ.1) (hj : T.2 + 2 ≤ j + σ.1) :
    (∀ cs1 σ1, prd T (ptD T m d) σ = .ok (cs1, σ1) → sB x (gA x k j S) S T m σ1 V (Cs ++ cs1) (6 - d) bs (fun y => y = 3 ∨ y = 4) ∧ ¬ isG T σ1 42 = true ∧ ¬ isG T σ1 47 = true) ∧ (∀ e, prd T (ptD T m d) σ = .error e → erB (gA x k j S) S e) := by
  obtain ⟨p1, p2⟩ := hP x σ V Cs 0 bs k j S (by rw [List.replicate_zero, List.append_nil]; exact h) hb (fun z hz => (hV z hz).2.2) hx (by omega) (by omega) hk hj
  unfold prd
  cases hq : ptD T m d σ with
  | error e =>
    refine ⟨fun cs1 σ1 q => (by cases q), fun e2 q => ?_⟩
    cases q
    exact p2 e hq
  | ok r =>
    obtain ⟨k1, j1, S2, u1, u2, u3, u4⟩ := p1 r.1 r.2 hq
    have hm := ptD_mv T m d _ r.1 r.2 h.1.2.1 hq
    rw [List.replicate_zero, List.append_nil] at u2
    obtain ⟨v1, v2⟩ := prL_sim (x := x) (C0 := Cs) hP hb hV hx T.2 r.1 r.2 [] (Cs ++ r.1) k1 j1 S2 (by omega) (by simpa using u2) (fun y hy => (by cases hy)) (by simp) (by simp; omega) u3.1 u3.2
    refine ⟨fun cs1 σ1 q => ?_, fun e q => er_f (v2 e q) u1 u4⟩
    obtain ⟨⟨k2, j2, S3, R3, Cs3, w1, w2, w3, w4, w5, w6, w7⟩, w8⟩ := v1 cs1 σ1 q
    exact ⟨⟨k2, j2, S3, R3, Cs3, u1.trans w1, w2, w3, w4, w5, w6, fM_tr u4 w7⟩, w8⟩
theorem smL_sim {T : Tp} {m d bs : Nat} {x : Int32} {V C0 : List Nat} (hP : PT T m d) (hb : bs ≤ V.length) (hV : ∀ z, V.getLast? = some z → 5 ≤ z ∧ z < 60) (hx : ∀ z ∈ V, z < 1000) : ∀ (n : Nat) (cs : List Nat) (σ : Lx) (R Cs0 : List Nat) (k j : Nat) (S : Hp), T.2 ≤ n + σ.1 → qR S T m σ (V ++ R.reverse) Cs0 (6 - d) bs → (∀ y ∈ R, 1 ≤ y ∧ y ≤ 4) → Cs0 ++ R = C0 ++ cs → V.length + R.length + Cs0.length ≤ σ.1 → T.2 + 2 ≤ k + σ.1 → T.2 + 2 ≤ j + σ.1 → ¬ isG T σ 42 = true → ¬ isG T σ 47 = true →
    (∀ cs1 σ1, smL T (ptD T m d) n cs σ = .ok (cs1, σ1) → sB x (gB x k j S) S T m σ1 V (C0 ++ cs1) (6 - d) bs (fun y => 1 ≤ y ∧ y ≤ 4) ∧ nop T σ1) ∧ (∀ e, smL T (ptD T m d) n cs σ = .error e → erB (gB x k j S) S e) := by
  intro n
  induction n with
  | zero =>
    intro cs σ R Cs0 k j S hn h hR hC hl hk hj g1 g2
    rw [smL]
    refine ⟨fun cs1 σ1 e => ?_, fun e q => (by cases q)⟩
    cases e
    exact ⟨⟨k, j, S, R, Cs0, rfl, h, hR, hC, hl, ⟨hk, hj⟩, fM_rf _ S⟩, g1, g2, noG_end (by omega), noG_end (by omega)⟩
  | succ n ih =>
    intro cs σ R Cs0 k j S hn h hR hC hl hk hj g1 g2
    have hσ := h.1.2.1
    have hT := h.1.1.1
    have go : ∀ c o, ((c = 43 ∧ o = 1) ∨ (c = 45 ∧ o = 2)) → isG T σ c = true → (∀ cs1 σ1, bn (prd T (ptD T m d) (nx T σ)) (fun c1 σ1 => smL T (ptD T m d) n (cs ++ c1 ++ [o]) σ1) = .ok (cs1, σ1) → sB x (gB x k j S) S T m σ1 V (C0 ++ cs1) (6 - d) bs (fun y => 1 ≤ y ∧ y ≤ 4) ∧ nop T σ1) ∧ (∀ e, bn (prd T (ptD T m d) (nx T σ)) (fun c1 σ1 => smL T (ptD T m d) n (cs ++ c1 ++ [o]) σ1) = .error e → erB (gB x k j S) S e) := by
      intro c o hco g
      obtain ⟨n1, n2⟩ := nx_mv hσ (isG_k g)
      obtain ⟨k, rfl⟩ : ∃ q, k = q + 1 := ⟨k - 1, by omega⟩
      obtain ⟨j, rfl⟩ : ∃ q, j = q + 1 := ⟨j - 1, by omega⟩
      obtain ⟨S1, r1, r2, r3⟩ := st_add (x := x) (k := k) (j := j) hco h g (fun y hy => (hV y hy).1) hx hR (by omega)
      obtain ⟨p1, p2⟩ := prd_sim (x := x) (V := V ++ [o]) (Cs := Cs0 ++ R) hP (by simp; omega) (fun z hz => by simp at hz; omega) (fun z hz => by
        simp only [List.mem_append, List.mem_singleton] at hz
        rcases hz with hz | hz
        · exact hx z hz
        · omega) (k := k) (j := 5000) r2 (by simp; omega) (by omega) (by omega)
      rw [r1]
      cases hq : prd T (ptD T m d) (nx T σ) with
      | error e =>
        refine ⟨fun cs1 σ1 q => (by cases q), fun e2 q => ?_⟩
        cases q
        exact er_f (p2 e hq) rfl r3
      | ok r =>
        obtain ⟨⟨k1, j1, S2, R2, Cs2, u1, u2, u3, u4, u5, u6, u7⟩, u8, u9⟩ := p1 r.1 r.2 hq
        have hm := prd_mv (ptD_mv T m d) _ r.1 r.2 n2 hq
        have f2 : fM pP S S2 := fM_tr r3 u7
        rw [show V ++ [o] ++ R2.reverse = V ++ (R2 ++ [o]).reverse by simp] at u2
        simp only [List.length_append, List.length_cons, List.length_nil] at u5
        obtain ⟨v1, v2⟩ := ih (cs ++ r.1 ++ [o]) r.2 (R2 ++ [o]) Cs2 k1 j1 S2 (by omega) u2 (fun y hy => by
          simp only [List.mem_append, List.mem_singleton] at hy
          rcases hy with hy | hy
          · have := u3 y hy; omega
          · omega) (by rw [← List.append_assoc, u4, hC]; simp) (by simp; omega) u6.1 u6.2 u8 u9
        refine ⟨fun cs1 σ1 q => ?_, fun e q => er_f (v2 e q) u1 f2⟩
        obtain ⟨⟨k2, j2, S3, R3, Cs3, w1, w2, w3, w4, w5, w6, w7⟩, w8⟩ := v1 cs1 σ1 q
        exact ⟨⟨k2, j2, S3, R3, Cs3, u1.trans w1, w2, w3, w4, w5, w6, fM_tr f2 w7⟩, w8⟩
    rw [smL]
    by_cases g3 : isG T σ 43 = true
    · rw [if_pos g3]; exact go 43 1 (Or.inl ⟨rfl, rfl⟩) g3
    · rw [if_neg g3]
      by_cases g4 : isG T σ 45 = true
      · rw [if_pos g4]; exact go 45 2 (Or.inr ⟨rfl, rfl⟩) g4
      · rw [if_neg g4]
        refine ⟨fun cs1 σ1 e => ?_, fun e q => (by cases q)⟩
        cases e
        exact ⟨⟨k, j, S, R, Cs0, rfl, h, hR, hC, hl, ⟨hk, hj⟩, fM_rf _ S⟩, g1, g2, g3, g4⟩
theorem sm_sim {T : Tp} {m d bs : Nat} {x : Int32} {V Cs : List Nat} (hP : PT T m d) (hV : onB V bs) (hx : ∀ z ∈ V, z < 1000) {σ : Lx} {k j : Nat} {S : Hp} (h : qR S T m σ V Cs (6 - d) bs) (hl : V.length + Cs.length ≤ σ.1) (hk : T.2 + 2 ≤ k + σ.1) (hj : T.2 + 2 ≤ j + σ.1) :
    (∀ cs1 σ1, sm T (ptD T m d) σ = .ok (cs1, σ1) → sB x (gA x k j S) S T m σ1 V (Cs ++ cs1) (6 - d) bs (fun y => 1 ≤ y ∧ y ≤ 4) ∧ nop T σ1) ∧ (∀ e, sm T (ptD T m d) σ = .error e → erB (gA x k j S) S e) := by
  have hb := onB_le hV
  have ht := onB_top hV
  obtain ⟨p1, p2⟩ := prd_sim (x := x) hP hb (fun z hz => by have := ht z hz; omega) hx (k := k) (j := j) h hl hk hj
  unfold sm
  cases hq : prd T (ptD T m d) σ with
  | error e =>
    refine ⟨fun cs1 σ1 q => (by cases q), fun e2 q => ?_⟩
    cases q
    exact p2 e hq
  | ok r =>
    obtain ⟨⟨k1, j1, S2, R2, Cs2, u1, u2, u3, u4, u5, u6, u7⟩, u8, u9⟩ := p1 r.1 r.2 hq
    have hm := prd_mv (ptD_mv T m d) _ r.1 r.2 h.1.2.1 hq
    obtain ⟨v1, v2⟩ := smL_sim (x := x) (C0 := Cs) hP hb ht hx T.2 r.1 r.2 R2 Cs2 k1 j1 S2 (by omega) u2 (fun y hy => by have := u3 y hy; omega) u4 u5 u6.1 u6.2 u8 u9
    refine ⟨fun cs1 σ1 q => ?_, fun e q => er_f (v2 e q) u1 u7⟩
    obtain ⟨⟨k2, j2, S3, R3, Cs3, w1, w2, w3, w4, w5, w6, w7⟩, w8⟩ := v1 cs1 σ1 q
    exact ⟨⟨k2, j2, S3, R3, Cs3, u1.trans w1, w2, w3, w4, w5, w6, fM_tr u7 w7⟩, w8⟩

/-! level 2: what sums and tests give can be reckoned -/
def cdO (m c : Nat) : Prop := (1000 ≤ c ∧ c < 11000) ∨ (1 ≤ c ∧ c < 14) ∨ (∃ k, k < 11 ∧ al m k = true ∧ c = 40 + k) ∨ (al m 11 = true ∧ c = 60)
def sO (m c : Nat) : Prop := (1000 ≤ c ∧ c < 11000) ∨ (1 ≤ c ∧ c < 7) ∨ (∃ k, k < 11 ∧ al m k = true ∧ c = 40 + k) ∨ (al m 11 = true ∧ c = 60)
def pvO (X : Nat → Prop) (h : Nat) (G : Int → Prop) (cs : List Nat) : Prop := (∀ c ∈ cs, X c) ∧ ∀ (pf : Nat → Int) (qf : Int → Int), (∀ k, inM (pf k)) → (∀ x, inM (qf x)) → ∀ (st : List Int) (rest : List Nat), st.length + h ≤ 64 → ∃ v, G v ∧ evA pf qf (cs ++ rest) st = evA pf qf rest (v :: st)
theorem pvO_w {X : Nat → Prop} {h h' : Nat} {G : Int → Prop} {cs : List Nat} (p : pvO X h G cs) (hh : h ≤ h') : pvO X h' G cs := ⟨p.1, fun pf qf h1 h2 st rest hl => p.2 pf qf h1 h2 st rest (by omega)⟩
theorem pvO_x {X Y : Nat → Prop} {h : Nat} {G : Int → Prop} {cs : List Nat} (p : pvO X h G cs) (hx : ∀ c, X c → Y c) : pvO Y h G cs := ⟨fun c hc => hx c (p.1 c hc), p.2⟩
theorem pv_join {X : Nat → Prop} {h h1 h2 c : Nat} {Ga Gr : Int → Prop} {cs c1 : List Nat} (p1 : pvO X h1 Ga cs) (p2 : pvO X h2 Ga c1) (hc : X c) (hc2 : 1 ≤ c ∧ c < 12) (e1 : h1 ≤ h) (e2 : h2 + 1 ≤ h) (hj : ∀ a b, Ga a → Ga b → (c < 10 ∨ ((a = 0 ∨ a = 1) ∧ (b = 0 ∨ b = 1))) ∧ Gr (opv c a b)) : pvO X h Gr (cs ++ c1 ++ [c]) := by
  refine ⟨fun x hx => ?_, fun pf qf a1 a2 st rest hl => ?_⟩
  · rw [List.mem_append, List.mem_append, List.mem_singleton] at hx
    rcases hx with (hx | hx) | hx
    · exact p1.1 x hx
    · exact p2.1 x hx
    · rw [hx]; exact hc
  · obtain ⟨v1, g1, q1⟩ := p1.2 pf qf a1 a2 st (c1 ++ ([c] ++ rest)) (by omega)
    obtain ⟨v2, g2, q2⟩ := p2.2 pf qf a1 a2 (v1 :: st) ([c] ++ rest) (by simp only [List.length_cons]; omega)
    obtain ⟨j1, j2⟩ := hj v1 v2 g1 g2
    refine ⟨opv c v1 v2, j2, ?_⟩
    rw [List.append_assoc, List.append_assoc, q1, q2]
    show evA pf qf (c :: rest) (v2 :: v1 :: st) = _
    rw [evA, stA, if_neg (by omega), if_neg (by omega), if_neg (by omega), if_neg (by omega), if_neg (by omega)]
    show ob (jnA c (v2 :: v1 :: st)) _ = _
    rw [jnA, if_pos j1]
    rfl
theorem pv_push {X : Nat → Prop} {h c : Nat} {G : Int → Prop} (hc : X c) (h1 : 1 ≤ h) (hp : ∀ (pf : Nat → Int) (qf : Int → Int), (∀ k, inM (pf k)) → ∃ v, G v ∧ ∀ st, stA pf qf c st = psh v st) : pvO X h G [c] := by
  refine ⟨fun x hx => by rw [List.mem_singleton] at hx; rw [hx]; exact hc, fun pf qf a1 a2 st rest hl => ?_⟩
  obtain ⟨v, g, q⟩ := hp pf qf a1
  refine ⟨v, g, ?_⟩
  show evA pf qf (c :: rest) st = _
  rw [evA, q st]
  unfold psh
  rw [if_pos (by omega)]
  rfl
theorem pv_un {X : Nat → Prop} {h c : Nat} {G G' : Int → Prop} {cs : List Nat} (p : pvO X h G cs) (hc : X c) (hp : ∀ (pf : Nat → Int) (qf : Int → Int), (∀ x, inM (qf x)) → ∀ a st, G a → ∃ v, G' v ∧ stA pf qf c (a :: st) = some (v :: st)) : pvO X h G' (cs ++ [c]) := by
  refine ⟨fun x hx => ?_, fun pf qf a1 a2 st rest hl => ?_⟩
  · rw [List.mem_append, List.mem_singleton] at hx
    rcases hx with hx | hx
    · exact p.1 x hx
    · rw [hx]; exact hc
  · obtain ⟨v1, g1, q1⟩ := p.2 pf qf a1 a2 st ([c] ++ rest) hl
    obtain ⟨v, g, q⟩ := hp pf qf a2 v1 st g1
    refine ⟨v, g, ?_⟩
    rw [List.append_assoc, q1]
    show evA pf qf (c :: rest) (v1 :: st) = _
    rw [evA, q]
    rfl
theorem jn_in {c : Nat} (hc : c < 10) : ∀ a b, inM a → inM b → (c < 10 ∨ ((a = 0 ∨ a = 1) ∧ (b = 0 ∨ b = 1))) ∧ inM (opv c a b) := fun _ _ ha hb => ⟨Or.inl hc, opv_in hc ha hb⟩
def dO (X : Nat → Prop) (h : Nat) (G : Int → Prop) (P : Lx → Ps) : Prop := ∀ σ cs σ1, P σ = .ok (cs, σ1) → pvO X h G cs
theorem prL_pv {T : Tp} {P : Lx → Ps} {m h : Nat} (hP : dO (sO m) h inM P) : ∀ (k : Nat) (cs : List Nat) (σ : Lx) (cs1 : List Nat) (σ1 : Lx), pvO (sO m) (h + 1) inM cs → prL T P k cs σ = .ok (cs1, σ1) → pvO (sO m) (h + 1) inM cs1
  | 0, cs, σ, cs1, σ1, p, e => by
    rw [prL] at e
    cases e
    exact p
  | k + 1, cs, σ, cs1, σ1, p, e => by
    rw [prL] at e
    have go : ∀ o, 1 ≤ o ∧ o < 7 → bn (P (nx T σ)) (fun c1 σ1 => prL T P k (cs ++ c1 ++ [o]) σ1) = .ok (cs1, σ1) → pvO (sO m) (h + 1) inM cs1 := by
      intro o ho e
      obtain ⟨a, σ2, e1, e2⟩ := bn_ok e
      exact prL_pv hP k _ _ _ _ (pv_join p (hP _ _ _ e1) (Or.inr (Or.inl ho)) (by omega) (Nat.le_refl _) (Nat.le_refl _) (jn_in (by omega))) e2
    by_cases q1 : isG T σ 42 = true
    · rw [if_pos q1] at e; exact go 3 (by decide) e
    rw [if_neg q1] at e
    by_cases q2 : isG T σ 47 = true
    · rw [if_pos q2] at e; exact go 4 (by decide) e
    rw [if_neg q2] at e
    cases e
    exact p
theorem prd_pv {T : Tp} {P : Lx → Ps} {m h : Nat} (hP : dO (sO m) h inM P) : dO (sO m) (h + 1) inM (prd T P) := by
  intro σ cs σ1 e
  unfold prd at e
  obtain ⟨a, σ2, e1, e2⟩ := bn_ok e
  exact prL_pv hP _ _ _ _ _ (pvO_w (hP _ _ _ e1) (by omega)) e2
theorem smL_pv {T : Tp} {P : Lx → Ps} {m h : Nat} (hP : dO (sO m) h inM (prd T P)) : ∀ (k : Nat) (cs : List Nat) (σ : Lx) (cs1 : List Nat) (σ1 : Lx), pvO (sO m) (h + 1) inM cs → smL T P k cs σ = .ok (cs1, σ1) → pvO (sO m) (h + 1) inM cs1
  | 0, cs, σ, cs1, σ1, p, e => by
    rw [smL] at e
    cases e
    exact p
  | k + 1, cs, σ, cs1, σ1, p, e => by
    rw [smL] at e
    have go : ∀ o, 1 ≤ o ∧ o < 7 → bn (prd T P (nx T σ)) (fun c1 σ1 => smL T P k (cs ++ c1 ++ [o]) σ1) = .ok (cs1, σ1) → pvO (sO m) (h + 1) inM cs1 := by
      intro o ho e
      obtain ⟨a, σ2, e1, e2⟩ := bn_ok e
      exact smL_pv hP k _ _ _ _ (pv_join p (hP _ _ _ e1) (Or.inr (Or.inl ho)) (by omega) (Nat.le_refl _) (Nat.le_refl _) (jn_in (by omega))) e2
    by_cases q1 : isG T σ 43 = true
    · rw [if_pos q1] at e; exact go 1 (by decide) e
    rw [if_neg q1] at e
    by_cases q2 : isG T σ 45 = true
    · rw [if_pos q2] at e; exact go 2 (by decide) e
    rw [if_neg q2] at e
    cases e
    exact p
theorem sm_pv {T : Tp} {P : Lx → Ps} {m h : Nat} (hP : dO (sO m) h inM P) : dO (sO m) (h + 2) inM (sm T P) := by
  intro σ cs σ1 e
  unfold sm at e
  obtain ⟨a, σ2, e1, e2⟩ := bn_ok e
  exact smL_pv (prd_pv hP) _ _ _ _ _ (pvO_w (prd_pv hP _ _ _ e1) (by omega)) e2
theorem opn_ok {O : Option (Lx → Ps)} {p : Nat} {f : (Lx → Ps) → Ps} {r : List Nat × Lx} (h : opn O p f = .ok r) : ∃ P, O = some P ∧ f P = .ok r := by
  cases O with
  | none => cases h
  | some P => exact ⟨P, rfl, h⟩
theorem ptB_pv {T : Tp} {m h : Nat} {O : Option (Lx → Ps)} (hO : ∀ P, O = some P → dO (sO m) h inM P) : dO (sO m) (h + 3) inM (ptB T m O) := by
  intro σ cs σ1 e
  unfold ptB at e
  by_cases q1 : tK T σ = 2
  · rw [if_pos q1] at e
    obtain ⟨v, σ2, e1, e2⟩ := bn_ok e
    cases e2
    obtain ⟨-, -, v1, v2⟩ := tkV_ok e1
    refine pv_push (Or.inl ⟨by omega, by omega⟩) (by omega) (fun pf qf _ => ⟨(v : Int), by unfold inM; omega, fun st => ?_⟩)
    unfold stA
    rw [if_pos (by omega), show (((1000 + v : Nat) : Int) - 1000) = (v : Int) by omega]
  rw [if_neg q1] at e
  by_cases q2 : isG T σ 40 = true
  · rw [if_pos q2] at e
    obtain ⟨P, hP, e1⟩ := opn_ok e
    obtain ⟨c1, σ2, e2, e3⟩ := bn_ok e1
    obtain ⟨σ3, -, e5⟩ := bs_ok e3
    cases e5
    exact pvO_w (sm_pv (hO P hP) _ _ _ e2) (by omega)
  rw [if_neg q2] at e
  by_cases q3 : isW T σ wMin = true ∨ isW T σ wMax = true
  · rw [if_pos q3] at e
    by_cases q4 : isG T (nx T σ) 40 = true
    · rw [if_pos q4] at e
      obtain ⟨P, hP, e1⟩ := opn_ok e
      obtain ⟨c1, σ2, e2, e3⟩ := bn_ok e1
      obtain ⟨σ3, -, e5⟩ := bs_ok e3
      obtain ⟨c2, σ4, e6, e7⟩ := bn_ok e5
      obtain ⟨σ5, -, e8⟩ := bs_ok e7
      cases e8
      have hs := sm_pv (T := T) (hO P hP)
      have hc : 1 ≤ (if isW T σ wMin = true then 5 else 6) ∧ (if isW T σ wMin = true then 5 else 6) < 7 := by split <;> decide
      exact pv_join (hs _ _ _ e2) (hs _ _ _ e6) (Or.inr (Or.inl hc)) (by omega) (by omega) (by omega) (jn_in (by omega))
    · rw [if_neg q4] at e; cases e
  rw [if_neg q3] at e
  by_cases q5 : al m 11 = true ∧ isW T σ wSeen = true
  · rw [if_pos q5] at e
    obtain ⟨P, hP, e1⟩ := opn_ok e
    obtain ⟨c1, σ2, e2, e3⟩ := bn_ok e1
    cases e3
    refine pv_un (pvO_w (hO P hP _ _ _ e2) (by omega)) (Or.inr (Or.inr (Or.inr ⟨q5.1, rfl⟩))) (fun pf qf hq a st _ => ⟨qf a, hq a, ?_⟩)
    rfl
  rw [if_neg q5] at e
  cases hk : pIx T m σ 11 with
  | none => rw [hk] at e; cases e
  | some k =>
    rw [hk] at e
    cases e
    obtain ⟨k1, k2, -⟩ := pIx_ok 11 hk
    refine pv_push (Or.inr (Or.inr (Or.inl ⟨k, k1, k2, rfl⟩))) (by omega) (fun pf qf hp => ⟨pf k, hp k, fun st => ?_⟩)
    unfold stA
    rw [if_neg (by omega), if_neg (by omega), if_pos (by omega), show 40 + k - 40 = k by omega]
theorem ptD_pv (T : Tp) (m : Nat) : ∀ d, dO (sO m) (3 * d + 3) inM (ptD T m d)
  | 0 => ptB_pv (h := 0) (fun P h => by cases h)
  | d + 1 => fun σ cs σ1 e => pvO_w (ptB_pv (h := 3 * d + 3) (fun P h => by cases h; exact ptD_pv T m d) σ cs σ1 e) (by omega)
theorem bo_in {a : Int} (h : bo a) : inM a := by
  unfold bo at h; unfold inM; omega
theorem jn_bo {c : Nat} (hc : c = 10 ∨ c = 11) : ∀ a b, bo a → bo b → (c < 10 ∨ ((a = 0 ∨ a = 1) ∧ (b = 0 ∨ b = 1))) ∧ bo (opv c a b) := by
  intro a b ha hb
  refine ⟨Or.inr ⟨ha, hb⟩, ?_⟩
  rcases hc with rfl | rfl
  · show bo (a * b)
    rcases ha with rfl | rfl <;> rcases hb with rfl | rfl <;> unfold bo <;> decide
  · show bo (if a + b ≤ 0 then 0 else 1)
    unfold bo
    split <;> simp
theorem jn_cm {c : Nat} (hc : c = 7 ∨ c = 8 ∨ c = 9) : ∀ a b, inM a → inM b → (c < 10 ∨ ((a = 0 ∨ a = 1) ∧ (b = 0 ∨ b = 1))) ∧ bo (opv c a b) := by
  intro a b ha hb
  refine ⟨Or.inl (by omega), ?_⟩
  rcases hc with rfl | rfl | rfl
  · show bo (if b ≤ a then 0 else 1)
    unfold bo
    split <;> simp
  · show bo (if a ≤ b then 0 else 1)
    unfold bo
    split <;> simp
  · show bo (if a = b then 1 else 0)
    unfold bo
    split <;> simp
theorem s_cd {m c : Nat} (h : sO m c) : cdO m c := by
  rcases h with h | h | h | h
  · exact Or.inl h
  · exact Or.inr (Or.inl (by omega))
  · exact Or.inr (Or.inr (Or.inl h))
  · exact Or.inr (Or.inr (Or.inr h))
theorem anL_pv {T : Tp} {F : Lx → Ps} {m h : Nat} (hP : dO (cdO m) h bo F) : ∀ (k : Nat) (cs : List Nat) (σ : Lx) (cs1 : List Nat) (σ1 : Lx), pvO (cdO m) (h + 1) bo cs → anL T F k cs σ = .ok (cs1, σ1) → pvO (cdO m) (h + 1) bo cs1
  | 0, cs, σ, cs1, σ1, p, e => by
    rw [anL] at e
    cases e
    exact p
  | k + 1, cs, σ, cs1, σ1, p, e => by
    rw [anL] at e
    by_cases q1 : isW T σ wAnd = true
    · rw [if_pos q1] at e
      obtain ⟨a, σ2, e1, e2⟩ := bn_ok e
      exact anL_pv hP k _ _ _ _ (pv_join p (hP _ _ _ e1) (Or.inr (Or.inl (by decide))) (by decide) (Nat.le_refl _) (Nat.le_refl _) (jn_bo (Or.inl rfl))) e2
    rw [if_neg q1] at e
    cases e
    exact p
theorem an_pv {T : Tp} {F : Lx → Ps} {m h : Nat} (hP : dO (cdO m) h bo F) : dO (cdO m) (h + 1) bo (an T F) := by
  intro σ cs σ1 e
  unfold an at e
  obtain ⟨a, σ2, e1, e2⟩ := bn_ok e
  exact anL_pv hP _ _ _ _ _ (pvO_w (hP _ _ _ e1) (by omega)) e2
theorem orL_pv {T : Tp} {F : Lx → Ps} {m h : Nat} (hP : dO (cdO m) h bo (an T F)) : ∀ (k : Nat) (cs : List Nat) (σ : Lx) (cs1 : List Nat) (σ1 : Lx), pvO (cdO m) (h + 1) bo cs → orL T F k cs σ = .ok (cs1, σ1) → pvO (cdO m) (h + 1) bo cs1
  | 0, cs, σ, cs1, σ1, p, e => by
    rw [orL] at e
    cases e
    exact p
  | k + 1, cs, σ, cs1, σ1, p, e => by
    rw [orL] at e
    by_cases q1 : isW T σ wOr = true
    · rw [if_pos q1] at e
      obtain ⟨a, σ2, e1, e2⟩ := bn_ok e
      exact orL_pv hP k _ _ _ _ (pv_join p (hP _ _ _ e1) (Or.inr (Or.inl (by decide))) (by decide) (Nat.le_refl _) (Nat.le_refl _) (jn_bo (Or.inr rfl))) e2
    rw [if_neg q1] at e
    cases e
    exact p
theorem ts_pv {T : Tp} {F : Lx → Ps} {m h : Nat} (hP : dO (cdO m) h bo F) : dO (cdO m) (h + 2) bo (ts T F) := by
  intro σ cs σ1 e
  unfold ts at e
  obtain ⟨a, σ2, e1, e2⟩ := bn_ok e
  exact orL_pv (an_pv hP) _ _ _ _ _ (pvO_w (an_pv hP _ _ _ e1) (by omega)) e2
theorem cm_pv {T : Tp} {P : Lx → Ps} {m h : Nat} (hP : dO (sO m) h inM P) : dO (cdO m) (h + 3) bo (cm T P) := by
  intro σ cs σ1 e
  unfold cm at e
  obtain ⟨c1, σ2, e1, e2⟩ := bn_ok e
  by_cases q : cmC T σ2 = 0
  · rw [if_pos q] at e2; cases e2
  · rw [if_neg q] at e2
    obtain ⟨c2, σ3, e3, e4⟩ := bn_ok e2
    cases e4
    have hs := sm_pv (T := T) hP
    have hc : cmC T σ2 = 7 ∨ cmC T σ2 = 8 ∨ cmC T σ2 = 9 := by
      unfold cmC at q ⊢
      split at q <;> (try split at q) <;> (try split at q) <;> simp_all
    exact pv_join (pvO_x (hs _ _ _ e1) (fun c => s_cd)) (pvO_x (hs _ _ _ e3) (fun c => s_cd)) (Or.inr (Or.inl (by omega))) (by omega) (by omega) (by omega) (jn_cm hc)
theorem fcB_pv {T : Tp} {m h h1 h2 : Nat} {O : Option (Lx → Ps)} {P : Lx → Ps} (hO : ∀ F, O = some F → dO (cdO m) h1 bo F) (hP : dO (sO m) h2 inM P) (e1 : h1 + 2 ≤ h) (e2 : h2 + 3 ≤ h) : dO (cdO m) h bo (fcB T O P) := by
  intro σ cs σ1 e
  unfold fcB at e
  by_cases q1 : isW T σ wNot = true
  · rw [if_pos q1] at e
    obtain ⟨F, hF, e3⟩ := opn_ok e
    obtain ⟨c1, σ2, e4, e5⟩ := bn_ok e3
    cases e5
    refine pv_un (pvO_w (hO F hF _ _ _ e4) (by omega)) (Or.inr (Or.inl (by decide))) (fun pf qf hq a st ha => ⟨1 - a, ?_, ?_⟩)
    · unfold bo at ha ⊢; omega
    · unfold stA
      rw [if_neg (by decide), if_neg (by decide), if_neg (by decide), if_neg (by decide), if_pos rfl]
      show ob (if a = 0 ∨ a = 1 then some (1 - a) else none) _ = _
      rw [if_pos (show a = 0 ∨ a = 1 from ha)]
      rfl
  rw [if_neg q1] at e
  by_cases q2 : isG T σ 91 = true
  · rw [if_pos q2] at e
    obtain ⟨F, hF, e3⟩ := opn_ok e
    obtain ⟨c1, σ2, e4, e5⟩ := bn_ok e3
    obtain ⟨σ3, -, e6⟩ := bs_ok e5
    cases e6
    exact pvO_w (ts_pv (hO F hF) _ _ _ e4) (by omega)
  rw [if_neg q2] at e
  by_cases q3 : isW T σ wAll = true
  · rw [if_pos q3] at e
    cases e
    refine pv_push (Or.inr (Or.inl (by decide))) (by omega) (fun pf qf hp => ⟨1, Or.inr rfl, fun st => ?_⟩)
    unfold stA
    rw [if_neg (by decide), if_neg (by decide), if_neg (by decide), if_pos rfl]
  rw [if_neg q3] at e
  exact pvO_w (cm_pv hP _ _ _ e) (by omega)
theorem fcD_pv (T : Tp) (m : Nat) : ∀ d, dO (cdO m) (3 * d + 6) bo (fcD T m d)
  | 0 => fcB_pv (h1 := 0) (h2 := 3) (fun F h => by cases h) (ptD_pv T m 0) (by decide) (by decide)
  | d + 1 => fcB_pv (h1 := 3 * d + 6) (h2 := 3 * (d + 1) + 3) (fun F h => by cases h; exact fcD_pv T m d) (ptD_pv T m (d + 1)) (by omega) (by omega)
/-- a sum of a crown can be reckoned -/
theorem okF_sm {T : Tp} {m : Nat} {σ σ1 : Lx} {cs : List Nat} (hm : m < 2) (hT : T.2 ≤ 1600) (hσ : σ.1 ≤ T.2) (h : sm T (ptD T m 6) σ = .ok (cs, σ1)) : okF m cs := by
  have hp := sm_pv (T := T) (ptD_pv T m 6) _ _ _ h
  have hmv := sm_mv (ptD_mv T m 6) _ _ _ hσ h
  have hal : ∀ c ∈ cs, alw m c := by
    intro c hc
    have hx := hp.1 c hc
    unfold alw
    rcases hx with x | x | ⟨k, k1, k2, k3⟩ | ⟨x, -⟩
    · exact Or.inl x
    · exact Or.inr (Or.inl x)
    · have hm2 : m = 0 ∨ m = 1 := by omega
      rcases hm2 with rfl | rfl
      · unfold al at k2
        simp at k2
        omega
      · unfold al at k2
        simp at k2
        omega
    · have hm2 : m = 0 ∨ m = 1 := by omega
      rcases hm2 with rfl | rfl <;> exact absurd x (by decide)
  refine ⟨by omega, hal, fun pf qf h1 => ?_⟩
  obtain ⟨v, g, q⟩ := hp.2 pf (fun _ => 0) h1 (fun _ => by unfold inM; omega) [] [] (by simp)
  refine ⟨v, g, ?_⟩
  rw [List.append_nil] at q
  rw [evA_c (qf' := fun _ => 0) cs [] (fun c hc => (alw_A (hal c hc)).2) (fun _ _ _ _ => rfl) (fun c hc => (alw_A (hal c hc)).1), q]
  rfl
/-- a question's sum or test can be reckoned -/
def okQ (G : Int → Prop) (cs : List Nat) : Prop := cs.length ≤ 1600 ∧ (∀ c ∈ cs, cdO 2 c) ∧ ∀ (pf : Nat → Int) (qf : Int → Int), (∀ k, inM (pf k)) → (∀ x, inM (qf x)) → ∃ v, G v ∧ evA pf qf cs [] = some [v]
theorem okQ_sm {T : Tp} {σ σ1 : Lx} {cs : List Nat} (hT : T.2 ≤ 1600) (hσ : σ.1 ≤ T.2) (h : sm T (ptD T 2 6) σ = .ok (cs, σ1)) : okQ inM cs := by
  have hp := sm_pv (T := T) (ptD_pv T 2 6) _ _ _ h
  have hmv := sm_mv (ptD_mv T 2 6) _ _ _ hσ h
  refine ⟨by omega, fun c hc => s_cd (hp.1 c hc), fun pf qf h1 h2 => ?_⟩
  obtain ⟨v, g, q⟩ := hp.2 pf qf h1 h2 [] [] (by simp)
  rw [List.append_nil] at q
  exact ⟨v, g, q⟩
theorem okQ_ts {T : Tp} {σ σ1 : Lx} {cs : List Nat} (hT : T.2 ≤ 1600) (hσ : σ.1 ≤ T.2) (h : ts T (fcD T 2 6) σ = .ok (cs, σ1)) : okQ bo cs := by
  have hp := ts_pv (T := T) (fcD_pv T 2 6) _ _ _ h
  have hmv := ts_mv (fcD_mv T 2 6) _ _ _ hσ h
  refine ⟨by omega, hp.1, fun pf qf h1 h2 => ?_⟩
  obtain ⟨v, g, q⟩ := hp.2 pf qf h1 h2 [] [] (by simp)
  rw [List.append_nil] at q
  exact ⟨v, g, q⟩

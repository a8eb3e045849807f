/-! level 2: what a crown and a state are, as plain numbers -/
theorem ldI_L {β : Type} {S : Hp} {a n : Nat} (k : Nat) {f : Int32 → Option β} (h : k < n) (hn : n < 2 ^ 31) : ldI S a n (OfNat.ofNat k) f = f (S.1 a k) := ldI_n h hn
theorem stI_L {β : Type} {S : Hp} {a n : Nat} (k : Nat) {v : Int32} {f : Hp → Option β} (h : k < n) (hn : n < 2 ^ 31) : stI S a n (OfNat.ofNat k) v f = f (ho_sI S a k v) := stI_n h hn
/-- a crown: how many provinces, tricks, watchers; rows of numbers (0: need, rate, boys; 1: yields; 2: takes; 3: from; 4: look; 5: glass); codes of sees, loses -/
abbrev Cr : Type := (Nat × Nat × Nat) × (Nat → Nat → Nat) × List Nat × List Nat
def cP (C : Cr) : Nat := C.1.1
def cT (C : Cr) : Nat := C.1.2.1
def cW (C : Cr) : Nat := C.1.2.2
def cR (C : Cr) : Nat → Nat → Nat := C.2.1
def cS (C : Cr) : List Nat := C.2.2.1
def cL (C : Cr) : List Nat := C.2.2.2
/-- codes that the text of a sum of a crown can give (0: sees, 1: loses) -/
def alw (w c : Nat) : Prop := (1000 ≤ c ∧ c < 11000) ∨ (1 ≤ c ∧ c < 7) ∨ (40 ≤ c ∧ c < 43) ∨ (w = 0 ∧ 43 ≤ c ∧ c < 45) ∨ (w = 1 ∧ 45 ≤ c ∧ c < 47)
def okF (w : Nat) (cs : List Nat) : Prop := cs.length ≤ 1600 ∧ (∀ c ∈ cs, alw w c) ∧ ∀ (pf : Nat → Int) (qf : Int → Int), (∀ k, inM (pf k)) → ∃ v, inM v ∧ evA pf qf cs [] = some [v]
def okCr (C : Cr) : Prop := (cP C ≤ 6 ∧ cT C ≤ 6 ∧ cW C ≤ 5) ∧ (cR C 0 0 ≤ 9999 ∧ cR C 0 1 ≤ 99 ∧ cR C 0 2 ≤ 100) ∧ (∀ p, p < cP C → cR C 1 p ≤ 999) ∧ (∀ t, t < cT C → cR C 2 t ≤ 999 ∧ cR C 3 t < cP C ∧ cR C 4 t ≤ 9) ∧ (∀ w, w < cW C → cR C 5 w ≤ 9) ∧ okF 0 (cS C) ∧ okF 1 (cL C)
/-- what codes come to -/
def vl (pf : Nat → Int) (cs : List Nat) : Int := match evA pf (fun _ => 0) cs [] with
  | some [v] => v
  | _ => 0
theorem evA_c {pf pf' : Nat → Int} {qf qf' : Int → Int} : ∀ (cs : List Nat) (st : List Int), (∀ c ∈ cs, ¬ c = 60) → (∀ c ∈ cs, 40 ≤ c → c < 51 → pf (c - 40) = pf' (c - 40)) → (∀ c ∈ cs, okA c) → evA pf qf cs st = evA pf' qf' cs st
  | [], _, _, _, _ => rfl
  | c :: cs, st, h0, h1, h2 => by
    have e : stA pf qf c st = stA pf' qf' c st := by
      have a0 := h0 c (List.mem_cons_self)
      have a1 := h1 c (List.mem_cons_self)
      have a2 := h2 c (List.mem_cons_self)
      unfold okA at a2
      unfold stA
      by_cases q1 : 1000 ≤ c
      · rw [if_pos q1, if_pos q1]
      have q60 : ¬ 60 ≤ c := by omega
      rw [if_neg q1, if_neg q1, if_neg q60, if_neg q60]
      by_cases q2 : 40 ≤ c
      · rw [if_pos q2, if_pos q2, a1 q2 (by omega)]
      · rw [if_neg q2, if_neg q2]
    rw [evA, evA, e]
    congr 1
    funext st2
    exact evA_c cs st2 (fun c hc => h0 c (List.mem_cons_of_mem _ hc)) (fun c hc => h1 c (List.mem_cons_of_mem _ hc)) (fun c hc => h2 c (List.mem_cons_of_mem _ hc))
theorem alw_A {w c : Nat} (h : alw w c) : okA c ∧ ¬ c = 60 := by
  unfold alw at h
  unfold okA
  omega
theorem vl_ok {w : Nat} {cs : List Nat} {pf pf' : Nat → Int} {qf : Int → Int} (h : okF w cs) (hp : ∀ k, inM (pf k)) (he : ∀ k, k < 3 ∨ (w = 0 ∧ k < 5) ∨ (w = 1 ∧ 5 ≤ k ∧ k < 7) → pf k = pf' k) : evA pf qf cs [] = some [vl pf' cs] ∧ inM (vl pf' cs) := by
  obtain ⟨h0, h1, h2⟩ := h
  obtain ⟨v, v1, v2⟩ := h2 pf qf hp
  have e : evA pf' (fun _ => 0) cs [] = some [v] := by
    rw [← v2]
    refine evA_c cs [] (fun c hc => (alw_A (h1 c hc)).2) (fun c hc q1 q2 => (he _ ?_).symm) (fun c hc => (alw_A (h1 c hc)).1)
    have := h1 c hc
    unfold alw at this
    omega
  have e2 : vl pf' cs = v := by
    unfold vl
    rw [e]
  rw [e2]
  exact ⟨v2, v1⟩
theorem evS_A {pf : Nat → Int} {qf : Int → Int} : ∀ (cs : List Nat) (st r : List Int), okC cs → evA pf qf cs st = some r → evS pf cs st = some r
  | [], st, r, _, h => h
  | c :: cs, st, r, hok, h => by
    have a0 := hok c (List.mem_cons_self)
    rw [evA] at h
    obtain ⟨st2, h1, h2⟩ := ob_ok h
    have ih := evS_A cs st2 r (fun x hx => hok x (List.mem_cons_of_mem _ hx)) h2
    rw [evS]
    unfold stA psh at h1
    by_cases q1 : 1000 ≤ c
    · rw [if_pos q1] at h1 ⊢
      by_cases q : st.length < 64
      · rw [if_pos q] at h1
        obtain rfl := Option.some.inj h1
        exact ih
      · rw [if_neg q] at h1
        cases h1
    rw [if_neg q1, if_neg (by omega)] at h1
    rw [if_neg q1]
    by_cases q2 : 40 ≤ c
    · rw [if_pos q2] at h1 ⊢
      by_cases q : st.length < 64
      · rw [if_pos q] at h1
        obtain rfl := Option.some.inj h1
        exact ih
      · rw [if_neg q] at h1
        cases h1
    rw [if_neg q2, if_neg (by omega), if_neg (by omega)] at h1
    rw [if_neg q2]
    have e : jn2 c st = some st2 := by
      match st, h1 with
      | [], h1 => cases h1
      | [_], h1 => cases h1
      | b :: a :: r, h1 =>
        rw [jnA, if_pos (Or.inl (by omega))] at h1
        exact h1
    rw [e]
    exact ih
theorem alw_C {w : Nat} {cs : List Nat} (h : ∀ c ∈ cs, alw w c) : okC cs := by
  intro c hc
  have := h c hc
  unfold alw at this
  omega
/-- what a part of a sum of a crown is: trick t, watcher w, a seat; z: the state -/
def fct (C : Cr) (z : Nat → Nat) (t w seat k : Nat) : Int := if k = 0 then (cR C 4 t : Int) else if k = 1 then (z (9 + t) : Int) else if k = 2 then (z 0 : Int) else if k = 3 then (seat : Int) else if k = 4 then (cR C 5 w : Int) else if k = 5 then (cR C 2 t : Int) else (z 2 : Int)
def n99 (v : Int) : Nat := if 0 ≤ v then (if v ≤ 99 then v.toNat else 99) else 0
theorem n99_le (v : Int) : n99 v ≤ 99 := by
  unfold n99
  split
  · split <;> omega
  · omega
theorem c99_n {v : Int} : c99 v = nI (n99 v) := by
  unfold c99 n99
  by_cases g : 0 ≤ v
  · rw [if_pos g, if_pos g]
    by_cases g2 : v ≤ 99
    · rw [if_pos g2, if_pos g2, LL_iI]
      obtain ⟨n, rfl⟩ : ∃ n : Nat, v = n := ⟨v.toNat, by omega⟩
      rw [iI_nI]
      rfl
    · rw [if_neg g2, if_neg g2]
  · rw [if_neg g, if_neg g]
    rfl
/-- how much a watcher sees of a trick from a seat -/
def sg (C : Cr) (z : Nat → Nat) (t w seat : Nat) : Nat := n99 (vl (fct C z t w seat) (cS C))
def smT (f : Nat → Nat) : Nat → Nat
  | 0 => 0
  | n + 1 => smT f n + f n
theorem smT_le {f : Nat → Nat} {b : Nat} : ∀ n, (∀ i, i < n → f i ≤ b) → smT f n ≤ n * b
  | 0, _ => by simp [smT]
  | n + 1, h => by
    have h1 := smT_le n (fun i hi => h i (by omega))
    have h2 := h n (by omega)
    rw [smT, Nat.succ_mul]
    omega
theorem smT_c {f g : Nat → Nat} : ∀ n, (∀ i, i < n → f i = g i) → smT f n = smT g n
  | 0, _ => rfl
  | n + 1, h => by rw [smT, smT, smT_c n (fun i hi => h i (by omega)), h n (by omega)]
def sgT (C : Cr) (z : Nat → Nat) (t : Nat) : Nat := smT (fun w => sg C z t w (z (21 + w))) (cW C)
def sgW (C : Cr) (z : Nat → Nat) (w seat : Nat) : Nat := smT (fun t => sg C z t w seat) (cT C)
/-- a state: 0 year, 1 debt, 2 belief, 3 .. stores, 9 .. times, 15 .. known, 21 .. seats -/
def okZ (C : Cr) (z : Nat → Nat) : Prop := z 0 ≤ 999 ∧ z 1 ≤ 99999 ∧ z 2 ≤ 100 ∧ (∀ p, p < 6 → z (3 + p) ≤ 9999) ∧ (∀ t, t < 6 → z (9 + t) ≤ 9999) ∧ (∀ t, t < 6 → z (15 + t) ≤ 999) ∧ (∀ w, w < cW C → z (21 + w) ≤ 9) ∧ (∀ p, cP C ≤ p → p < 6 → z (3 + p) = 0) ∧ (∀ t, cT C ≤ t → t < 6 → z (9 + t) = 0 ∧ z (15 + t) = 0)
theorem fct_in {C : Cr} {z : Nat → Nat} {t w seat : Nat} (hC : okCr C) (hz : okZ C z) (ht : t < cT C) (hw : cR C 5 w ≤ 9) (hs : seat ≤ 9) : ∀ k, inM (fct C z t w seat k) := by
  obtain ⟨⟨c1, c2, c3⟩, -, -, c5, -⟩ := hC
  obtain ⟨z0, z1, z2, -, z4, -⟩ := hz
  have h4 := z4 t (by omega)
  obtain ⟨a1, a2, a3⟩ := c5 t ht
  intro k
  unfold fct inM
  repeat' split
  all_goals omega

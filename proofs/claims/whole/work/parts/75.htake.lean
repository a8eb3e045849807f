/-! level 2: the class: words, signs, numbers taken, faults -/
theorem tr0 {β : Type} {x : Option β} : tr (0 : Int32) x = x := if_pos (Or.inl rfl)
theorem tr1 {β : Type} {x : Option β} : tr (1 : Int32) x = x := if_pos (Or.inr rfl)
def tP (b k : Nat) : Prop := b = 10 ∧ 2 ≤ k ∧ k ≤ 9
theorem n_t {b k : Nat} (h : nP b k) : tP b k := by
  unfold nP at h
  unfold tP
  omega
def wR (S : Hp) (e : Nat × Nat) : Prop := (0 < e.1 ∧ e.1 < 6 ∧ e.2 ≤ 1600) ∧ S.1 10 2 = nI e.1 ∧ S.1 10 3 = nI e.2
def cB (r : Int32) (S : Hp) (T : Tp) : Except (Nat × Nat) Lx → Prop
  | .ok σ => r = 1 ∧ tR S T σ
  | .error e => r = 0 ∧ wR S e
theorem tR_f {P : Nat → Nat → Prop} {S S' : Hp} {T : Tp} {σ : Lx} (h : tR S T σ) (hf : fM P S S') (hp : ∀ b k, P b k → b ≠ 11 ∧ b ≠ 12 ∧ (b = 10 → k = 8)) : tR S' T σ := by
  have e : ∀ k, k ≠ 8 → S'.1 10 k = S.1 10 k := fun k h3 => hf.1 10 k (fun q => by have := (hp _ _ q).2.2 rfl; omega)
  have e1 : ∀ i, S'.1 11 i = S.1 11 i := fun i => hf.1 11 i (fun q => (hp _ _ q).1 rfl)
  have e2 : ∀ i, S'.1 12 i = S.1 12 i := fun i => hf.1 12 i (fun q => (hp _ _ q).2.1 rfl)
  obtain ⟨⟨b1, b2, b3, b4⟩, h2, h3, h4, h5, h6, h7, h8⟩ := h
  unfold tR tB
  rw [e 4 (by decide), e 5 (by decide), e 9 (by decide), e 7 (by decide), e 6 (by decide), e 1 (by decide), e 2 (by decide), e 3 (by decide)]
  exact ⟨⟨b1, b2, fun i hi => by rw [e1]; exact b3 i hi, fun i hi => by rw [e2]; exact b4.1 i hi, b4.2⟩, h2, h3, h4, h5, h6, h7, h8⟩
theorem tK5 (T : Tp) (σ : Lx) : tK T σ < 5 := by
  unfold tK
  repeat' split
  all_goals omega
theorem h_isW {S : Hp} {T : Tp} {σ : Lx} {i : Nat} (h : tR S T σ) (hi : i < 35) : f_X10_isWord (nI i) S = some (if isW T σ (wL.getD i []) = true then 1 else 0, S) := by
  have hk := tK5 T σ
  unfold f_X10_isWord
  rw [h.2.2.1]
  by_cases k1 : tK T σ = 1
  · rw [if_pos ((eqL 1 (by omega) (by decide)).mpr k1)]
    rcases (h.2.2.2.2.2.1 k1).2 with ⟨j, j1, j2, j3⟩ | ⟨j1, j2⟩
    · rw [j2]
      by_cases e : j = i
      · subst e
        rw [if_pos rfl, if_pos (isW_i.mpr ⟨k1, j3⟩)]
      · rw [if_neg (fun q => e ((nI_eq (by omega) (by omega)).mp q)), if_neg (fun q => e (wL_inj j j1 i hi (j3.symm.trans (isW_i.mp q).2)))]
    · rw [j1, if_neg, if_neg (fun q => j2 i hi (isW_i.mp q).2)]
      intro q
      have q1 : (nI i).toInt = (i : Int) := nI_toInt (by omega)
      rw [← q] at q1
      have : (-1 : Int32).toInt = -1 := (by decide)
      omega
  · rw [if_neg (fun q => k1 ((eqL 1 (by omega) (by decide)).mp q)), if_neg (fun q => k1 (isW_i.mp q).1)]
theorem h_isG {S : Hp} {T : Tp} {σ : Lx} {c : Nat} (h : tR S T σ) (hc : c < 256) : f_X10_isSign (nI c) S = some (if isG T σ c = true then 1 else 0, S) := by
  have hk := tK5 T σ
  unfold f_X10_isSign
  rw [h.2.2.1]
  by_cases k3 : tK T σ = 3
  · rw [if_pos ((eqL 3 (by omega) (by decide)).mpr k3), h.2.2.2.2.2.2.2 k3]
    have hb := (h.1.2.2.1 _ (tK_sign.mp k3).1).2
    by_cases e : T.1 (tS T σ) = c
    · rw [if_pos ((nI_eq (by omega) (by omega)).mpr e), if_pos (isG_i.mpr ⟨k3, e⟩)]
    · rw [if_neg (fun q => e ((nI_eq (by omega) (by omega)).mp q)), if_neg (fun q => e (isG_i.mp q).2)]
  · rw [if_neg (fun q => k3 ((eqL 3 (by omega) (by decide)).mp q)), if_neg (fun q => k3 (isG_i.mp q).1)]
theorem h_wrong {S : Hp} {k p : Nat} (hk : 0 < k ∧ k < 6) (hp : p ≤ 1600) : ∃ S', f_X10_wrong (nI k) (nI p) S = some (0, S') ∧ wR S' (k, p) ∧ fM (fun b k => b = 10 ∧ (k = 2 ∨ k = 3)) S S' := by
  refine ⟨ho_sI (ho_sI S 10 2 (nI k)) 10 3 (nI p), ?_, ⟨⟨hk.1, hk.2, hp⟩, by rw [sI_k (by decide), sI_v], sI_v⟩, fM_tr (fM_sI _ ⟨rfl, by omega⟩) (fM_sI _ ⟨rfl, by omega⟩)⟩
  unfold f_X10_wrong
  rw [le1_e, le1_e]
theorem w_t {b k : Nat} (h : b = 10 ∧ (k = 2 ∨ k = 3)) : tP b k := by
  unfold tP
  omega
theorem tS16 {S : Hp} {T : Tp} {σ : Lx} (h : tR S T σ) : tS T σ ≤ 1600 ∧ tE T σ ≤ 1600 := by
  have h1 := tS_le h.2.1
  have h2 := tE_le h.2.1
  have h3 := h.1.1
  omega
theorem h_tkW {S : Hp} {T : Tp} {σ : Lx} {i : Nat} (h : tR S T σ) (hi : i < 35) : ∃ r S', f_X10_takeWord (nI i) S = some (r, S') ∧ cB r S' T (tkW T (wL.getD i []) σ) ∧ fM tP S S' := by
  unfold f_X10_takeWord tkW
  rw [h_isW h hi, ob2_s]
  by_cases q : isW T σ (wL.getD i []) = true
  · obtain ⟨S1, r1, r2, r3⟩ := h_next h
    rw [if_neg (fun x => ite01.mp x q), r1, ob_s, if_pos q]
    exact ⟨_, S1, rfl, ⟨rfl, r2⟩, fM_mo r3 (fun _ _ => n_t)⟩
  · obtain ⟨S1, r1, r2, r3⟩ := h_wrong (S := S) (k := 1) (p := tS T σ) ⟨by decide, by decide⟩ (tS16 h).1
    rw [if_pos (ite01.mpr q), h.2.2.2.1, show f_X10_wrong (1 : Int32) _ S = _ from r1, ob2_s, tr0, if_neg q]
    exact ⟨_, S1, rfl, ⟨rfl, r2⟩, fM_mo r3 (fun _ _ => w_t)⟩
theorem h_tkG {S : Hp} {T : Tp} {σ : Lx} {c : Nat} (h : tR S T σ) (hc : c < 256) : ∃ r S', f_X10_takeSign (nI c) S = some (r, S') ∧ cB r S' T (tkG T c σ) ∧ fM tP S S' := by
  unfold f_X10_takeSign tkG
  rw [h_isG h hc, ob2_s]
  by_cases q : isG T σ c = true
  · obtain ⟨S1, r1, r2, r3⟩ := h_next h
    rw [if_neg (fun x => ite01.mp x q), r1, ob_s, if_pos q]
    exact ⟨_, S1, rfl, ⟨rfl, r2⟩, fM_mo r3 (fun _ _ => n_t)⟩
  · obtain ⟨S1, r1, r2, r3⟩ := h_wrong (S := S) (k := 1) (p := tS T σ) ⟨by decide, by decide⟩ (tS16 h).1
    rw [if_pos (ite01.mpr q), h.2.2.2.1, show f_X10_wrong (1 : Int32) _ S = _ from r1, ob2_s, tr0, if_neg q]
    exact ⟨_, S1, rfl, ⟨rfl, r2⟩, fM_mo r3 (fun _ _ => w_t)⟩
def cV (r : Int32) (S : Hp) (T : Tp) : Except (Nat × Nat) (Nat × Lx) → Prop
  | .ok x => r = 1 ∧ S.1 10 8 = nI x.1 ∧ tR S T x.2
  | .error e => r = 0 ∧ wR S e
theorem h_tkV {S : Hp} {T : Tp} {σ : Lx} {lo hi : Nat} (h : tR S T σ) (hlo : lo < 2 ^ 31) (hhi : hi < 2 ^ 31) : ∃ r S', f_X10_takeNumber (nI lo) (nI hi) S = some (r, S') ∧ cV r S' T (tkV T lo hi σ) ∧ fM tP S S' := by
  have hk := tK5 T σ
  obtain ⟨l1, l2⟩ := tS16 h
  have hg := tE_ge T σ
  have bad : ∀ k p, 0 < k ∧ k < 6 → p ≤ 1600 → ∃ S', ob2 (f_X10_wrong (nI k) (nI p) S) (fun r S1 => tr r (some (r, S1))) = some (0, S') ∧ wR S' (k, p) ∧ fM tP S S' := by
    intro k p hk hp
    obtain ⟨S1, r1, r2, r3⟩ := h_wrong (S := S) hk hp
    exact ⟨S1, by rw [r1, ob2_s, tr0], r2, fM_mo r3 (fun _ _ => w_t)⟩
  unfold f_X10_takeNumber tkV f_X10_takeNumber_59
  rw [h.2.2.1, h.2.2.2.1, h.2.2.2.2.1]
  by_cases k2 : tK T σ = 2
  · rw [if_pos ((eqL 2 (by omega) (by decide)).mpr k2), if_pos k2, pk_sub hg]
    have h6 := h.2.2.2.2.2.2.1 k2
    by_cases q4 : tE T σ - tS T σ ≤ 4
    · rw [if_pos ((leL 4 (by omega) (by decide)).mpr q4), if_pos q4]
      rw [Nat.min_eq_right q4] at h6
      have kn := tK_num.mp k2
      have hdl : dv T (tS T σ) (tE T σ - tS T σ) < 10 ^ (tE T σ - tS T σ) := dv_lt _ (fun j hj => by
        have hE := tE_num kn.1 kn.2.1
        have := rn_in dgt T (e := tS T σ) (j := tS T σ + j) (by omega) (by omega)
        have := dgt_i.mp this.2
        omega)
      have hp4 : 10 ^ (tE T σ - tS T σ) ≤ 10 ^ 4 := Nat.pow_le_pow_right (by decide) q4
      rw [h6]
      generalize dv T (tS T σ) (tE T σ - tS T σ) = V at *
      by_cases a : V < lo
      · obtain ⟨S1, r1, r2, r3⟩ := bad 2 (tS T σ) ⟨by decide, by decide⟩ l1
        rw [if_pos (nI_lt a (by omega)), if_neg (by omega), show ob2 (f_X10_wrong (2 : Int32) (nI (tS T σ)) S) _ = _ from r1]
        exact ⟨_, S1, rfl, ⟨rfl, r2⟩, r3⟩
      · rw [if_neg (nI_nlt (by omega) (by omega))]
        by_cases b : V ≤ hi
        · have f1 : fM (fun b k => b = 10 ∧ k = 8) S (ho_sI S 10 8 (nI V)) := fM_sI _ ⟨rfl, rfl⟩
          obtain ⟨S1, r1, r2, r3⟩ := h_next (tR_f h f1 (fun b k q => by omega))
          rw [if_pos (nI_le b (by omega)), if_pos ⟨by omega, b⟩, le1_e, r1, ob_s]
          refine ⟨_, S1, rfl, ⟨rfl, ?_, r2⟩, fM_tr (fM_mo f1 (fun b k q => by unfold tP; omega)) (fM_mo r3 (fun _ _ => n_t))⟩
          rw [r3.1 10 8 (by unfold nP; omega), sI_v]
        · obtain ⟨S1, r1, r2, r3⟩ := bad 2 (tS T σ) ⟨by decide, by decide⟩ l1
          rw [if_neg (nI_ge (by omega) (by omega)), if_neg (fun x => b x.2), show ob2 (f_X10_wrong (2 : Int32) (nI (tS T σ)) S) _ = _ from r1]
          exact ⟨_, S1, rfl, ⟨rfl, r2⟩, r3⟩
    · obtain ⟨S1, r1, r2, r3⟩ := bad 1 (tS T σ + 4) ⟨by decide, by decide⟩ (by omega)
      rw [if_neg (fun x => q4 ((leL 4 (by omega) (by decide)).mp x)), if_neg q4, show nI (tS T σ) + (4 : Int32) = nI (tS T σ + 4) from nI_add _ 4, show ob2 (f_X10_wrong (1 : Int32) (nI (tS T σ + 4)) S) _ = _ from r1]
      exact ⟨_, S1, rfl, ⟨rfl, r2⟩, r3⟩
  · obtain ⟨S1, r1, r2, r3⟩ := bad 1 (tS T σ) ⟨by decide, by decide⟩ l1
    rw [if_neg (fun q => k2 ((eqL 2 (by omega) (by decide)).mp q)), if_neg k2, show ob2 (f_X10_wrong (1 : Int32) (nI (tS T σ)) S) _ = _ from r1]
    exact ⟨_, S1, rfl, ⟨rfl, r2⟩, r3⟩
/-- a word of the language's own -/
def own (T : Tp) (σ : Lx) : Bool := decide (wd T (tS T σ) (tE T σ) ∈ wL.take 29)
theorem own_i {T : Tp} {σ : Lx} : own T σ = true ↔ ∃ i, i < 29 ∧ wd T (tS T σ) (tE T σ) = wL.getD i [] := by
  unfold own
  rw [decide_eq_true_iff]
  constructor
  · intro h
    obtain ⟨i, hi, e⟩ := List.getElem_of_mem h
    have hl : i < 29 := by
      have : (wL.take 29).length = 29 := (by decide)
      omega
    refine ⟨i, hl, ?_⟩
    rw [← e, List.getElem_take, List.getD_eq_getElem?_getD, List.getElem?_eq_getElem]
    rfl
  · rintro ⟨i, hi, e⟩
    rw [e]
    have : ∀ i, i < 29 → wL.getD i [] ∈ wL.take 29 := by decide
    exact this i hi
/-- a name asked for: its letters -/
def nmT (T : Tp) (σ : Lx) : Except (Nat × Nat) (List Nat) := if tK T σ = 1 then (if tE T σ - tS T σ ≤ 6 then (if own T σ = true then .error (1, tS T σ) else .ok (wd T (tS T σ) (tE T σ))) else .error (1, tS T σ + 6)) else .error (1, tS T σ)
theorem h_name {S : Hp} {T : Tp} {σ : Lx} (h : tR S T σ) : ∃ r S', f_X10_nameHere S = some (r, S') ∧ fM tP S S' ∧ (∀ w, nmT T σ = .ok w → r = 1 ∧ S' = S ∧ S.1 10 7 = nI (enc w) ∧ lts w ∧ w.length ≤ 6 ∧ tK T σ = 1) ∧ (∀ e, nmT T σ = .error e → r = 0 ∧ wR S' e) := by
  have hk := tK5 T σ
  obtain ⟨l1, l2⟩ := tS16 h
  have hg := tE_ge T σ
  have hl2 := tE_le h.2.1
  have hT := h.1.1
  have bad : ∀ k p, 0 < k ∧ k < 6 → p ≤ 1600 → ∃ S', ob2 (f_X10_wrong (nI k) (nI p) S) (fun r S1 => tr r (some (r, S1))) = some (0, S') ∧ wR S' (k, p) ∧ fM tP S S' := by
    intro k p hk hp
    obtain ⟨S1, r1, r2, r3⟩ := h_wrong (S := S) hk hp
    exact ⟨S1, by rw [r1, ob2_s, tr0], r2, fM_mo r3 (fun _ _ => w_t)⟩
  unfold f_X10_nameHere nmT
  rw [h.2.2.1, h.2.2.2.1, h.2.2.2.2.1]
  by_cases k1 : tK T σ = 1
  · have kw := tK_word.mp k1
    have hE := tE_word kw.1 kw.2.1
    have hlt : lts (wd T (tS T σ) (tE T σ)) := lts_wd (by omega)
    rw [if_pos ((eqL 1 (by omega) (by decide)).mpr k1), if_pos k1, pk_sub hg]
    by_cases q6 : tE T σ - tS T σ ≤ 6
    · obtain ⟨h7, hv⟩ := h.2.2.2.2.2.1 k1
      rw [if_pos ((leL 6 (by omega) (by decide)).mpr q6), if_pos q6]
      have good : ¬ own T σ = true → ∃ r S', some ((1 : Int32), S) = some (r, S') ∧ fM tP S S' ∧ (∀ w, (if own T σ = true then (.error (1, tS T σ) : Except (Nat × Nat) (List Nat)) else .ok (wd T (tS T σ) (tE T σ))) = .ok w → r = 1 ∧ S' = S ∧ S.1 10 7 = nI (enc w) ∧ lts w ∧ w.length ≤ 6 ∧ tK T σ = 1) ∧ (∀ e, (if own T σ = true then (.error (1, tS T σ) : Except (Nat × Nat) (List Nat)) else .ok (wd T (tS T σ) (tE T σ))) = .error e → r = 0 ∧ wR S' e) := by
        intro no
        rw [if_neg no]
        refine ⟨_, S, rfl, fM_rf _ S, fun w e => ?_, fun e q => (by cases q)⟩
        cases e
        exact ⟨rfl, rfl, h7 q6, hlt, by rw [wd_len]; exact q6, k1⟩
      rcases hv with ⟨j, j1, j2, j3⟩ | ⟨j1, j2⟩
      · rw [j2, if_neg (nI_pos (by omega))]
        by_cases a : 29 ≤ j
        · rw [if_pos ((geL 29 (by omega) (by decide)).mpr a)]
          exact good (fun q => by
            obtain ⟨i, i1, i2⟩ := own_i.mp q
            have := wL_inj j j1 i (by omega) (j3.symm.trans i2)
            omega)
        · rw [if_neg (fun q => a ((geL 29 (by omega) (by decide)).mp q))]
          have ho : own T σ = true := own_i.mpr ⟨j, by omega, j3⟩
          obtain ⟨S1, r1, r2, r3⟩ := bad 1 (tS T σ) ⟨by decide, by decide⟩ l1
          rw [if_pos ho, show ob2 (f_X10_wrong (1 : Int32) (nI (tS T σ)) S) _ = _ from r1]
          refine ⟨_, S1, rfl, r3, fun w e => (by cases e), fun e q => ?_⟩
          cases q
          exact ⟨rfl, r2⟩
      · rw [j1, if_pos (by decide)]
        exact good (fun q => by
          obtain ⟨i, i1, i2⟩ := own_i.mp q
          exact j2 i (by omega) i2)
    · obtain ⟨S1, r1, r2, r3⟩ := bad 1 (tS T σ + 6) ⟨by decide, by decide⟩ (by omega)
      rw [if_neg (fun x => q6 ((leL 6 (by omega) (by decide)).mp x)), if_neg q6, show nI (tS T σ) + (6 : Int32) = nI (tS T σ + 6) from nI_add _ 6, show ob2 (f_X10_wrong (1 : Int32) (nI (tS T σ + 6)) S) _ = _ from r1]
      refine ⟨_, S1, rfl, r3, fun w e => (by cases e), fun e q => ?_⟩
      cases q
      exact ⟨rfl, r2⟩
  · obtain ⟨S1, r1, r2, r3⟩ := bad 1 (tS T σ) ⟨by decide, by decide⟩ l1
    rw [if_neg (fun q => k1 ((eqL 1 (by omega) (by decide)).mp q)), if_neg k1, show ob2 (f_X10_wrong (1 : Int32) (nI (tS T σ)) S) _ = _ from r1]
    refine ⟨_, S1, rfl, r3, fun w e => (by cases e), fun e q => ?_⟩
    cases q
    exact ⟨rfl, r2⟩

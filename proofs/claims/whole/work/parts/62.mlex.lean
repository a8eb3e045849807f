/-! level 2: the reference along a text -/
theorem sI_id {S : Hp} {a k : Nat} {v : Int32} (h : S.1 a k = v) : ho_sI S a k v = S := by
  unfold ho_sI
  refine Prod.ext (funext fun b => ?_) rfl
  show (if b = a then upd (S.1 a) k v else S.1 b) = S.1 b
  by_cases e : b = a
  · subst e
    rw [if_pos rfl]
    funext j
    by_cases q : j = k
    · subst q; rw [pk_us, h]
    · rw [pk_un q]
  · rw [if_neg e]
theorem sI_w {S : Hp} {a k : Nat} {v w : Int32} : ho_sI (ho_sI S a k v) a k w = ho_sI S a k w := by
  unfold ho_sI
  refine Prod.ext (funext fun b => ?_) rfl
  show (if b = a then upd (if a = a then upd (S.1 a) k v else S.1 a) k w else if b = a then upd (S.1 a) k v else S.1 b) = if b = a then upd (S.1 a) k w else S.1 b
  by_cases e : b = a
  · rw [if_pos e, if_pos e, if_pos rfl]
    funext j
    by_cases q : j = k
    · subst q; rw [pk_us, pk_us]
    · rw [pk_un q, pk_un q, pk_un q]
  · rw [if_neg e, if_neg e, if_neg e]
theorem sI_k {S : Hp} {a k j : Nat} {v : Int32} (h : j ≠ k) : (ho_sI S a k v).1 a j = S.1 a j := by rw [sI_at, pk_un h]
theorem sI_v {S : Hp} {a k : Nat} {v : Int32} : (ho_sI S a k v).1 a k = v := by rw [sI_at, pk_us]
/-- what is left as it was, cell by cell -/
def fM (P : Nat → Nat → Prop) (S S' : Hp) : Prop := (∀ b k, ¬ P b k → S'.1 b k = S.1 b k) ∧ S'.2 = S.2
theorem fM_rf (P : Nat → Nat → Prop) (S : Hp) : fM P S S := ⟨fun _ _ _ => rfl, rfl⟩
theorem fM_tr {P : Nat → Nat → Prop} {S S1 S2 : Hp} (h1 : fM P S S1) (h2 : fM P S1 S2) : fM P S S2 := ⟨fun b k h => (h2.1 b k h).trans (h1.1 b k h), h2.2.trans h1.2⟩
theorem fM_mo {P Q : Nat → Nat → Prop} {S S' : Hp} (h : fM P S S') (hq : ∀ b k, P b k → Q b k) : fM Q S S' := ⟨fun b k hb => h.1 b k (fun q => hb (hq b k q)), h.2⟩
theorem fM_sI {P : Nat → Nat → Prop} (S : Hp) {a k : Nat} {v : Int32} (hp : P a k) : fM P S (ho_sI S a k v) := by
  refine ⟨fun b j hb => ?_, rfl⟩
  by_cases e : b = a
  · subst e
    have : j ≠ k := fun q => hb (q ▸ hp)
    rw [sI_k this]
  · rw [sI_ne _ e]
def lxP (b k : Nat) : Prop := b = 0 ∧ (k = 2 ∨ k = 4 ∨ k = 5 ∨ k = 6 ∨ k = 39)
def lB (S : Hp) (T : Tp) : Prop := T.2 ≤ 1600 ∧ S.1 0 3 = nI T.2 ∧ ∀ i, i < T.2 → S.1 1 i = nI (T.1 i) ∧ T.1 i < 256
def enR (S : Hp) (σ : Lx) : Prop := ((σ.2 = true ∧ S.1 0 4 = nI σ.1) ∨ (σ.2 = false ∧ (S.1 0 4 = -1 ∨ ∃ j, j < σ.1 ∧ S.1 0 4 = nI j))) ∧ S.1 0 6 = -1
def lR (S : Hp) (T : Tp) (σ : Lx) : Prop := lB S T ∧ σ.1 ≤ T.2 ∧ S.1 0 5 = 0 ∧ (∃ a, σ.1 ≤ a ∧ a ≤ tS T σ ∧ S.1 0 2 = nI a) ∧ enR S σ
/-- the place is at the next one itself -/
def lX (S : Hp) (T : Tp) (σ : Lx) : Prop := lR S T σ ∧ S.1 0 2 = nI (tS T σ)
theorem lB_f {S S' : Hp} {T : Tp} (h : lB S T) (h3 : S'.1 0 3 = S.1 0 3) (h1 : ∀ i, S'.1 1 i = S.1 1 i) : lB S' T := ⟨h.1, h3.trans h.2.1, fun i hi => by rw [h1]; exact h.2.2 i hi⟩
def byt (T : Tp) (s : Nat) : Int32 := if s < T.2 then nI (T.1 s) else -1
theorem m_lk_loop {T : Tp} : ∀ (d a k : Nat) (S : Hp), lB S T → rn blk T a = a + d → a ≤ T.2 → d < k → S.1 0 2 = nI a → f_X12_look0_0 k S = some (byt T (a + d), ho_sI S 0 2 (nI (a + d))) := by
  intro d
  induction d with
  | zero =>
    intro a k S hB hr ha hk h2
    obtain ⟨k, rfl⟩ : ∃ q, k = q + 1 := ⟨k - 1, by omega⟩
    obtain ⟨b1, b2, b3⟩ := hB
    have hno := rn_no blk T a
    rw [hr, Nat.add_zero] at hno
    rw [f_X12_look0_0, b2, h2, Nat.add_zero, sI_id h2]
    unfold byt
    by_cases q : a < T.2
    · obtain ⟨t1, t2⟩ := b3 a q
      have nb : ¬ (T.1 a = 10 ∨ T.1 a = 32) := fun x => hno ⟨q, blk_i.mpr x⟩
      rw [if_neg (nI_ge q (by omega)), ldI_n (by omega) (by decide), t1, if_neg (fun x => nb (Or.inl ((eqL 10 (by omega) (by decide)).mp x))), ldI_n (by omega) (by decide), t1, if_neg (fun x => nb (Or.inr ((eqL 32 (by omega) (by decide)).mp x))), if_pos q]
      unfold f_X12_look0_52
      rw [b2, h2, if_neg (nI_ge q (by omega)), ldI_n (by omega) (by decide), t1]
    · rw [if_pos (nI_le (by omega) (by omega)), if_neg q]
      unfold f_X12_look0_52
      rw [b2, h2, if_pos (nI_le (by omega) (by omega))]
  | succ d ih =>
    intro a k S hB hr ha hk h2
    obtain ⟨k, rfl⟩ : ∃ q, k = q + 1 := ⟨k - 1, by omega⟩
    have hB' := hB
    obtain ⟨b1, b2, b3⟩ := hB'
    obtain ⟨i1, i2⟩ := rn_in blk T (e := a) (j := a) (by omega) (by omega)
    obtain ⟨t1, t2⟩ := b3 a i1
    have h39 : f_X12_look0_39 (f_X12_look0_0 k) S = some (byt T (a + (d + 1)), ho_sI S 0 2 (nI (a + (d + 1)))) := by
      unfold f_X12_look0_39
      rw [le1_e, h2, nI_1, ih (a + 1) k (ho_sI S 0 2 (nI (a + 1))) (lB_f hB (sI_k (by decide)) (fun i => by rw [sI_ne _ (by decide)])) (by rw [← rn_s i1 i2, hr]; omega) (by omega) (by omega) sI_v, sI_w, show a + 1 + d = a + (d + 1) by omega]
    rw [f_X12_look0_0, b2, h2, if_neg (nI_ge i1 (by omega)), ldI_n (by omega) (by decide), t1]
    by_cases q : T.1 a = 10
    · rw [if_pos ((eqL 10 (by omega) (by decide)).mpr q), h39]
    · have q2 : T.1 a = 32 := (blk_i.mp i2).resolve_left q
      rw [if_neg (fun x => q ((eqL 10 (by omega) (by decide)).mp x)), ldI_n (by omega) (by decide), t1, if_pos ((eqL 32 (by omega) (by decide)).mpr q2), h39]
theorem lX_of {S : Hp} {T : Tp} {σ : Lx} (h : lR S T σ) : lX (ho_sI S 0 2 (nI (tS T σ))) T σ := by
  obtain ⟨h1, h2, h3, h4, h5⟩ := h
  refine ⟨⟨lB_f h1 (sI_k (by decide)) (fun i => by rw [sI_ne _ (by decide)]), h2, by rw [sI_k (by decide)]; exact h3, ⟨tS T σ, tS_ge _ _, Nat.le_refl _, sI_v⟩, ?_⟩, sI_v⟩
  unfold enR
  rw [sI_k (by decide), sI_k (by decide)]
  exact h5
theorem m_look {S : Hp} {T : Tp} {σ : Lx} (h : lR S T σ) : f_X12_look0 S = some (byt T (tS T σ), ho_sI S 0 2 (nI (tS T σ))) := by
  obtain ⟨h1, h2, h3, ⟨a, a1, a2, a3⟩, h5⟩ := h
  have e := rn_md a1 a2
  have hr := rn_ge blk T a
  have h6 := h1.1
  have h7 := tS_le h2
  have e0 : tS T σ = rn blk T σ.1 := rfl
  have hl := m_lk_loop (T := T) (rn blk T a - a) a 5000 S h1 (by omega) (by omega) (by omega) a3
  rw [show a + (rn blk T a - a) = tS T σ by rw [show tS T σ = rn blk T σ.1 from rfl]; omega] at hl
  exact hl
/-- with the place there already -/
theorem m_lookX {S : Hp} {T : Tp} {σ : Lx} (h : lX S T σ) : f_X12_look0 S = some (byt T (tS T σ), S) := by
  rw [m_look h.1, sI_id h.2]
theorem m_let {n : Nat} (h : n < 256) (S : Hp) : f_X12_isLetter (nI n) S = some (if ltr n = true then 1 else 0, S) := by
  unfold f_X12_isLetter
  by_cases a : n < 97
  · rw [if_pos ((ltL 97 (by omega) (by decide)).mpr a), if_neg (fun q => by have := ltr_i.mp q; omega)]
  · rw [if_neg (fun q => a ((ltL 97 (by omega) (by decide)).mp q))]
    by_cases b : 122 < n
    · rw [if_pos ((gtL 122 (by omega) (by decide)).mpr b), if_neg (fun q => by have := ltr_i.mp q; omega)]
    · rw [if_neg (fun q => b ((gtL 122 (by omega) (by decide)).mp q)), if_pos (ltr_i.mpr (by omega))]
theorem m_letB {T : Tp} {s : Nat} {S : Hp} (h : ∀ i, i < T.2 → T.1 i < 256) : f_X12_isLetter (byt T s) S = some (if s < T.2 ∧ ltr (T.1 s) = true then 1 else 0, S) := by
  unfold byt
  by_cases q : s < T.2
  · rw [if_pos q, m_let (h s q)]
    by_cases q2 : ltr (T.1 s) = true
    · rw [if_pos q2, if_pos ⟨q, q2⟩]
    · rw [if_neg q2, if_neg (fun x => q2 x.2)]
  · rw [if_neg q, if_neg (fun x => q x.1)]
    rfl
theorem m_dig {n : Nat} (h : n < 256) (S : Hp) : f_X12_isDigit (nI n) S = some (if dgt n = true then 1 else 0, S) := by
  unfold f_X12_isDigit
  by_cases a : n < 48
  · rw [if_pos ((ltL 48 (by omega) (by decide)).mpr a), if_neg (fun q => by have := dgt_i.mp q; omega)]
  · rw [if_neg (fun q => a ((ltL 48 (by omega) (by decide)).mp q))]
    by_cases b : 57 < n
    · rw [if_pos ((gtL 57 (by omega) (by decide)).mpr b), if_neg (fun q => by have := dgt_i.mp q; omega)]
    · rw [if_neg (fun q => b ((gtL 57 (by omega) (by decide)).mp q)), if_pos (dgt_i.mpr (by omega))]
theorem m_digB {T : Tp} {s : Nat} {S : Hp} (h : ∀ i, i < T.2 → T.1 i < 256) : f_X12_isDigit (byt T s) S = some (if s < T.2 ∧ dgt (T.1 s) = true then 1 else 0, S) := by
  unfold byt
  by_cases q : s < T.2
  · rw [if_pos q, m_dig (h s q)]
    by_cases q2 : dgt (T.1 s) = true
    · rw [if_pos q2, if_pos ⟨q, q2⟩]
    · rw [if_neg q2, if_neg (fun x => q2 x.2)]
  · rw [if_neg q, if_neg (fun x => q x.1)]
    rfl
/-- a word's cell -/
def mWd (S : Hp) (c : Nat) (w : List Nat) : Prop := w.length < 7 ∧ ∀ i, i < w.length → S.1 c i = nI (w.getD i 0) ∧ w.getD i 0 < 256
theorem ne1 : ¬ ((1 : Int32) = 0) := by decide
theorem ite01 {c : Prop} [Decidable c] : ((if c then (1 : Int32) else 0) = 0) ↔ ¬ c := by
  by_cases h : c
  · rw [if_pos h]; exact ⟨fun q => absurd q ne1, fun q => absurd h q⟩
  · rw [if_neg h]; exact ⟨fun _ => h, fun _ => rfl⟩
theorem m_here76 {S : Hp} {T : Tp} {c s : Nat} {w : List Nat} (hB : lB S T) (hw : mWd S c w) (h2 : S.1 0 2 = nI s) (hs : s + w.length ≤ T.2) : ∀ (d i k : Nat), i + d = w.length → d < k → ∃ r, f_X12_isHere_76 c w.length k (nI i) S = some (r, S) ∧ ((r = 1 ∧ ∀ j, i ≤ j → j < w.length → T.1 (s + j) = w.getD j 0) ∨ (r = 0 ∧ ¬ ∀ j, i ≤ j → j < w.length → T.1 (s + j) = w.getD j 0)) := by
  obtain ⟨b1, b2, b3⟩ := hB
  intro d
  induction d with
  | zero =>
    intro i k hi hk
    obtain ⟨k, rfl⟩ : ∃ q, k = q + 1 := ⟨k - 1, by omega⟩
    rw [f_X12_isHere_76, show Int32.ofNat w.length = nI w.length from rfl, if_pos (nI_le (by omega) (by omega))]
    exact ⟨_, rfl, Or.inl ⟨rfl, fun j j1 j2 => by omega⟩⟩
  | succ d ih =>
    intro i k hi hk
    obtain ⟨k, rfl⟩ : ∃ q, k = q + 1 := ⟨k - 1, by omega⟩
    obtain ⟨t1, t2⟩ := b3 (s + i) (by omega)
    obtain ⟨w1, w2⟩ := hw.2 i (by omega)
    rw [f_X12_isHere_76, show Int32.ofNat w.length = nI w.length from rfl, if_neg (nI_ge (by omega) (by have := hw.1; omega)), h2, nI_add, ldI_n (by omega) (by decide), t1, ldI_n (by omega) (by have := hw.1; omega), w1]
    by_cases q : T.1 (s + i) = w.getD i 0
    · rw [if_pos ((nI_eq (by omega) (by omega)).mpr q), le1_e, nI_1]
      obtain ⟨r, r1, r2⟩ := ih (i + 1) k (by omega) (by omega)
      refine ⟨r, r1, ?_⟩
      rcases r2 with ⟨e, r2⟩ | ⟨e, r2⟩
      · refine Or.inl ⟨e, fun j j1 j2 => ?_⟩
        by_cases e : j = i
        · subst e; exact q
        · exact r2 j (by omega) j2
      · exact Or.inr ⟨e, fun x => r2 (fun j j1 j2 => x j (by omega) j2)⟩
    · rw [if_neg (fun x => q ((nI_eq (by omega) (by omega)).mp x))]
      exact ⟨_, rfl, Or.inr ⟨rfl, fun x => q (x i (by omega) (by omega))⟩⟩
theorem m_here35 {S : Hp} {T : Tp} {c s : Nat} {w : List Nat} (hB : lB S T) (hw : mWd S c w) (h2 : S.1 0 2 = nI s) (hs : s ≤ T.2) : ∀ (d i k : Nat), s ≤ i → rn ltr T i = i + d → i ≤ T.2 → d < k → f_X12_isHere_35 c w.length k (nI i) S = some (if wd T s (rn ltr T i) = w then 1 else 0, S) := by
  have hB' := hB
  obtain ⟨b1, b2, b3⟩ := hB'
  have fin : ∀ i, s ≤ i → i ≤ T.2 → f_X12_isHere_61 c w.length (nI i) S = some (if wd T s i = w then 1 else 0, S) := by
    intro i hi hi2
    unfold f_X12_isHere_61
    have hw7 := hw.1
    rw [h2, pk_sub hi, show Int32.ofNat w.length = nI w.length from rfl]
    by_cases q : i - s = w.length
    · obtain ⟨r, r1, r2⟩ := m_here76 hB hw h2 (by omega) w.length 0 5000 (by omega) (by omega)
      rw [if_pos ((nI_eq (by omega) (by omega)).mpr q), show (0 : Int32) = nI 0 from rfl, r1]
      rcases r2 with ⟨rfl, r2⟩ | ⟨rfl, r2⟩
      · rw [if_pos (wd_iff.mpr ⟨q, fun j j2 => r2 j (by omega) j2⟩)]
      · rw [if_neg (fun x => r2 (fun j _ j2 => (wd_iff.mp x).2 j j2))]
        rfl
    · rw [if_neg (fun x => q ((nI_eq (by omega) (by omega)).mp x)), if_neg (fun x => q (wd_iff.mp x).1)]
  intro d
  induction d with
  | zero =>
    intro i k hsi hr hi hk
    obtain ⟨k, rfl⟩ : ∃ q, k = q + 1 := ⟨k - 1, by omega⟩
    have hno := rn_no ltr T i
    rw [Nat.add_zero] at hr
    rw [hr] at hno ⊢
    rw [f_X12_isHere_35, b2]
    by_cases q : i < T.2
    · obtain ⟨t1, t2⟩ := b3 i q
      rw [if_neg (nI_ge q (by omega)), ldI_n (by omega) (by decide), t1, m_let t2, ob2_s, if_pos (ite01.mpr (fun x => hno ⟨q, x⟩)), fin i hsi hi]
    · rw [if_pos (nI_le (by omega) (by omega)), fin i hsi hi]
  | succ d ih =>
    intro i k hsi hr hi hk
    obtain ⟨k, rfl⟩ : ∃ q, k = q + 1 := ⟨k - 1, by omega⟩
    obtain ⟨i1, i2⟩ := rn_in ltr T (e := i) (j := i) (by omega) (by omega)
    obtain ⟨t1, t2⟩ := b3 i i1
    rw [f_X12_isHere_35, b2, if_neg (nI_ge i1 (by omega)), ldI_n (by omega) (by decide), t1, m_let t2, ob2_s, if_neg (fun x => ite01.mp x i2), le1_e, nI_1, ih (i + 1) k (by omega) (by rw [← rn_s i1 i2, hr]; omega) (by omega) (by omega), ← rn_s i1 i2]
theorem en_eq {S : Hp} {T : Tp} {σ : Lx} (h : lX S T σ) : (S.1 0 2 = S.1 0 4) ↔ (σ.2 = true ∧ tS T σ = σ.1) := by
  obtain ⟨⟨h1, h2, h3, h4, h5⟩, h6⟩ := h
  have h7 := tS_le h2
  have h8 := h1.1
  have h9 := tS_ge T σ
  rw [h6]
  rcases h5.1 with ⟨p, e⟩ | ⟨p, e⟩
  · rw [e, nI_eq (by omega) (by omega)]
    exact ⟨fun q => ⟨p, q⟩, fun q => q.2⟩
  · rw [p]
    constructor
    · intro q
      rcases e with e | ⟨j, j1, e⟩
      · rw [e] at q
        have q1 : (nI (tS T σ)).toInt = (tS T σ : Int) := nI_toInt (by omega)
        rw [q] at q1
        have : (-1 : Int32).toInt = -1 := (by decide)
        omega
      · rw [e, nI_eq (by omega) (by omega)] at q
        omega
    · intro q; cases q.1
theorem m_hereX {S : Hp} {T : Tp} {σ : Lx} {c : Nat} {w : List Nat} (h : lX S T σ) (hw : mWd S c w) : f_X12_isHere c w.length S = some (if isW T σ w = true then 1 else 0, S) := by
  have h' := h
  obtain ⟨⟨h1, h2, h3, h4, h5⟩, h6⟩ := h'
  have h7 := tS_le h2
  have h8 := h1.1
  unfold f_X12_isHere
  rw [if_pos h3, m_lookX h, ob2_s, m_letB (fun i hi => (h1.2.2 i hi).2), ob2_s]
  by_cases q : tS T σ < T.2 ∧ ltr (T.1 (tS T σ)) = true
  · rw [if_neg (fun x => ite01.mp x q)]
    by_cases q2 : σ.2 = true ∧ tS T σ = σ.1
    · rw [if_pos ((en_eq h).mpr q2), if_neg (fun x => (tK_word.mp (isW_i.mp x).1).2.2 q2)]
    · rw [if_neg (fun x => q2 ((en_eq h).mp x)), le1_e, h6]
      have hr := rn_ge ltr T (tS T σ)
      have hr2 := rn_le ltr T h7
      rw [m_here35 h1 hw h6 h7 (rn ltr T (tS T σ) - tS T σ) (tS T σ) 5000 (by omega) (by omega) h7 (by omega), ← tE_word q.1 q.2]
      congr 2
      by_cases q3 : wd T (tS T σ) (tE T σ) = w
      · rw [if_pos q3, if_pos (isW_i.mpr ⟨tK_word.mpr ⟨q.1, q.2, q2⟩, q3⟩)]
      · rw [if_neg q3, if_neg (fun x => q3 (isW_i.mp x).2)]
  · rw [if_pos (ite01.mpr q), if_neg (fun x => q ⟨(tK_word.mp (isW_i.mp x).1).1, (tK_word.mp (isW_i.mp x).1).2.1⟩)]
theorem m_here {S : Hp} {T : Tp} {σ : Lx} {c : Nat} {w : List Nat} (h : lR S T σ) (hc : c ≠ 0) (hw : mWd S c w) : f_X12_isHere c w.length S = some (if isW T σ w = true then 1 else 0, ho_sI S 0 2 (nI (tS T σ))) := by
  have hw2 : mWd (ho_sI S 0 2 (nI (tS T σ))) c w := ⟨hw.1, fun i hi => by rw [sI_ne _ hc]; exact hw.2 i hi⟩
  have e := m_hereX (lX_of h) hw2
  unfold f_X12_isHere at e ⊢
  rw [if_pos (show (ho_sI S 0 2 (nI (tS T σ))).1 0 5 = 0 by rw [sI_k (by decide)]; exact h.2.2.1), m_lookX (lX_of h)] at e
  rw [if_pos h.2.2.1, m_look h]
  exact e

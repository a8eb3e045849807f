/-! level 2: the class's stage -/
theorem ldP_n {β : Type} {Y : Sy} {S : Hp} {a k c p : Nat} {f : Nat → Option β} (h : S.2.2 a k = p) (hp : p ∈ Y.1 ∧ Y.2.1 p = (1, c)) : ldP Y S a k c f = f p := by
  subst h
  unfold ldP
  rw [if_pos hp]
theorem cap9_min (v : Int32) : (if v < (9999 : Int32) then v else (9999 : Int32)) = cap9 v := by
  unfold cap9
  rw [lit_nI 9999]
  by_cases h : v < nI 9999
  · rw [if_pos h, if_pos (Int32.le_of_lt h)]
  · rw [if_neg h]
    by_cases h2 : v ≤ nI 9999
    · rw [if_pos h2]
      exact Int32.le_antisymm (Int32.not_lt.mp h) h2
    · rw [if_neg h2]
theorem h_min9 (v : Int32) (S : Hp) : f_J9_min_7cf53 (9999 : Int32) v S = some (cap9 v, S) := by
  unfold f_J9_min_7cf53
  rw [← cap9_min]
  by_cases h : v < (9999 : Int32)
  · rw [if_pos h, if_pos h]
  · rw [if_neg h, if_neg h]
/-- a crown of the class and a state of it, where the stage looks -/
def atH (S : Hp) (c a : Nat) : Prop := S.2.2 50 0 = c ∧ (c ∈ yH.1 ∧ yH.2.1 c = (1, 2)) ∧ (a ∈ yH.1 ∧ yH.2.1 a = (1, 9))
theorem atH_c {S : Hp} {c a : Nat} (h : atH S c a) : (c = 100 ∨ c = 150) ∧ 1000 ≤ a ∧ a < 1260 ∧ a % 10 = 0 := ⟨c2H h.2.1, c9H h.2.2⟩
theorem h_ripen_loop {c a np : Nat} (hnp : np ≤ 6) : ∀ (d i k : Nat) (S : Hp), atH S c a → i + d = np → d < k → S.1 (c + 1) 0 = nI np →
    f_X8_ripen_2 a k (nI i) S = some (ho_sA S (a + 1) (fun j => if i ≤ j ∧ j < np then cap9 (S.1 (a + 1) j + S.1 (c + 7) j) else S.1 (a + 1) j)) := by
  intro d
  induction d with
  | zero =>
    intro i k S hat hi hk hn
    obtain ⟨k, rfl⟩ : ∃ q, k = q + 1 := ⟨k - 1, by omega⟩
    rw [f_X8_ripen_2, ldP_n hat.1 hat.2.1, lit_nI 0, ldI_n (by decide) (by decide), hn, if_pos (nI_le (by omega) (by omega))]
    have e : (fun j => if i ≤ j ∧ j < np then cap9 (S.1 (a + 1) j + S.1 (c + 7) j) else S.1 (a + 1) j) = S.1 (a + 1) := by
      funext j
      rw [if_neg (by omega)]
    rw [e, sA_self]
  | succ d ih =>
    intro i k S hat hi hk hn
    obtain ⟨k, rfl⟩ : ∃ q, k = q + 1 := ⟨k - 1, by omega⟩
    obtain ⟨hc, ha1, ha2, ha3⟩ := atH_c hat
    rw [f_X8_ripen_2, ldP_n hat.1 hat.2.1, lit_nI 0, ldI_n (by decide) (by decide), hn, if_neg (nI_ge (by omega) (by omega)), ldI_n (by omega) (by decide), ldP_n hat.1 hat.2.1, ldI_n (by omega) (by decide), h_min9, ob2_s, stI_n (by omega) (by decide), le1_e, nI_1]
    rw [ih (i + 1) k (ho_sI S (a + 1) i (cap9 (S.1 (a + 1) i + S.1 (c + 7) i))) hat (by omega) (by omega) (by rw [sI_A, sA_ne _ _ (by omega)]; exact hn)]
    rw [sI_A, sA_A, sA_at, sA_ne _ _ (by omega)]
    congr 2
    funext j
    by_cases h1 : j = i
    · subst h1
      rw [if_neg (by omega), if_pos (by omega), pk_us]
    · rw [pk_un h1]
      by_cases h2 : i ≤ j ∧ j < np
      · rw [if_pos h2, if_pos (by omega)]
      · rw [if_neg h2, if_neg (by omega)]
theorem h_ripen {S : Hp} {c a np : Nat} (hnp : np ≤ 6) (hat : atH S c a) (hn : S.1 (c + 1) 0 = nI np) : f_X8_ripen a S = some (ho_sA S (a + 1) (fun j => if j < np then cap9 (S.1 (a + 1) j + S.1 (c + 7) j) else S.1 (a + 1) j)) := by
  have h := h_ripen_loop hnp np 0 5000 S hat (by omega) (by omega) hn
  have e : (fun j => if 0 ≤ j ∧ j < np then cap9 (S.1 (a + 1) j + S.1 (c + 7) j) else S.1 (a + 1) j) = (fun j => if j < np then cap9 (S.1 (a + 1) j + S.1 (c + 7) j) else S.1 (a + 1) j) := by
    funext p
    by_cases h2 : p < np
    · rw [if_pos h2, if_pos ⟨Nat.zero_le _, h2⟩]
    · rw [if_neg h2, if_neg (fun q => h2 q.2)]
  rw [e] at h
  exact h
theorem h_val {S : Hp} {a w : Nat} {cs : List Nat} {v : Int} (hw : w ≠ a + 2) (hc : codH S a cs) (hpf : ∀ k, inM (pfH S w k)) (hqf : ∀ x, inM (qfH S w x)) (hev : evA (pfH S w) (qfH S w) cs [] = some [v]) : ∃ g, f_X4_value a w 40 S = some (iI v, ho_sA S (a + 2) g) := by
  have h := h_val_loop hw hc hpf hqf cs 0 5000 (S.1 (a + 2)) [] v rfl (by omega) (fun i hi => absurd hi (by simp)) (by intro x hx; cases hx) (by simp) (by have := hc.1; omega) hev
  rw [sA_self] at h
  exact h
/-- 0 .. 99 of the class -/
theorem h_99 {β : Type} {v : Int} {S : Hp} (hv : inM v) (K : Int32 → Hp → Option β) : ob2 (f_J9_min_7cf53 (99 : Int32) (iI v) S) (fun r S1 => ob2 (f_J9_max_7cf53 (0 : Int32) r S1) K) = K (c99 v) S := by
  have ht := iI_t hv
  have z99 : (99 : Int32).toInt = 99 := by decide
  have z0 : (0 : Int32).toInt = 0 := by decide
  unfold f_J9_min_7cf53 f_J9_max_7cf53 c99
  by_cases g : 0 ≤ v
  · rw [if_pos g]
    by_cases g2 : v ≤ 99
    · rw [if_pos g2, LL_iI]
      by_cases g3 : v = 99
      · subst g3
        rw [if_neg (by decide), ob2_s, if_pos (by decide), ob2_s]
        rfl
      · rw [if_pos (by rw [Int32.lt_iff_toInt_lt, ht, z99]; omega), ob2_s]
        by_cases g4 : v = 0
        · subst g4
          rw [if_neg (by decide), ob2_s]
          rfl
        · rw [if_pos (by rw [Int32.lt_iff_toInt_lt, ht, z0]; omega), ob2_s]
    · rw [if_neg g2, if_neg (by rw [Int32.lt_iff_toInt_lt, ht, z99]; omega), ob2_s, if_pos (by decide), ob2_s]
      rfl
  · rw [if_neg g, if_pos (by rw [Int32.lt_iff_toInt_lt, ht, z99]; omega), ob2_s, if_neg (by rw [Int32.lt_iff_toInt_lt, ht, z0]; omega), ob2_s]
theorem h_mn (x y : Int32) (S : Hp) : f_J9_min_7cf53 x y S = some (mn x y, S) := by
  unfold f_J9_min_7cf53 mn
  by_cases h : y < x
  · rw [if_pos h, if_neg (Int32.not_le.mpr h)]
  · rw [if_neg h, if_pos (Int32.not_lt.mp h)]
theorem bit_at1 {s t : Nat} (hs : s < 64) (ht : t < 6) : (((nI s >>> (nI t &&& 31)) &&& (1 : Int32)) = (1 : Int32)) ↔ s.testBit t = true := by
  rw [bit_at s hs t ht]
  by_cases h : s.testBit t = true
  · rw [if_pos h]; simp [h]
  · rw [if_neg h]; simp [h]
theorem ldI_1 {β : Type} {S : Hp} {a n : Nat} {f : Int32 → Option β} (h : 1 < n) (hn : n < 2 ^ 31) : ldI S a n (1 : Int32) f = f (S.1 a 1) := ldI_n (i := 1) h hn
theorem h_take_loop {S0 : Hp} {c a nt s : Nat} {fr : Nat → Nat} {row : Nat → Int32} (hat : atH S0 c a) (hnt : nt ≤ 6) (hs : s < 64) (hn : S0.1 (c + 1) 1 = nI nt) (hfr : ∀ t, t < nt → S0.1 (c + 9) t = nI (fr t) ∧ fr t < 6) :
    ∀ (d i k : Nat), i + d = nt → d < k → f_X8_takeAll_20 a k (nI s) (tkN (fun t => S0.1 (c + 8) t) fr s row i).2 (nI i) (ho_sA S0 52 (tkN (fun t => S0.1 (c + 8) t) fr s row i).1) = some ((tkN (fun t => S0.1 (c + 8) t) fr s row nt).2, ho_sA S0 52 (tkN (fun t => S0.1 (c + 8) t) fr s row nt).1) := by
  obtain ⟨hc, ha1, ha2, ha3⟩ := atH_c hat
  have hp : ∀ g, (ho_sA S0 52 g).2.2 50 0 = c := fun g => hat.1
  have ec : ∀ (x : Nat) (g : Nat → Int32), (ho_sA S0 52 g).1 (c + x) = S0.1 (c + x) := fun x g => sA_ne _ _ (by omega)
  intro d
  induction d with
  | zero =>
    intro i k hi hk
    obtain ⟨k, rfl⟩ : ∃ q, k = q + 1 := ⟨k - 1, by omega⟩
    rw [f_X8_takeAll_20, ldP_n (hp _) hat.2.1, lit_nI 1, ldI_n (by decide) (by decide), ec, hn, if_pos (nI_le (by omega) (by omega)), show i = nt by omega]
  | succ d ih =>
    intro i k hi hk
    obtain ⟨k, rfl⟩ : ∃ q, k = q + 1 := ⟨k - 1, by omega⟩
    have hI := ih (i + 1) k (by omega) (by omega)
    rw [tkN] at hI
    generalize hT : tkN (fun t => S0.1 (c + 8) t) fr s row i = T at hI ⊢
    obtain ⟨hf1, hf2⟩ := hfr i (by omega)
    have h95 : ∀ x3 Sx, f_X8_takeAll_95 (f_X8_takeAll_20 a k) a (nI s) x3 (nI i) Sx = f_X8_takeAll_20 a k (nI s) x3 (nI (i + 1)) Sx := by
      intro x3 Sx
      unfold f_X8_takeAll_95
      rw [le1_e, nI_1]
    rw [f_X8_takeAll_20, ldP_n (hp _) hat.2.1, ldI_1 (by decide) (by decide), ec, hn, if_neg (nI_ge (by omega) (by omega))]
    by_cases hb : s.testBit i = true
    · rw [if_pos ((bit_at1 hs (by omega)).mpr hb), ldP_n (hp _) hat.2.1, ldI_n (by omega) (by decide), ec, hf1, ldP_n (hp _) hat.2.1, ldI_n (by omega) (by decide), ec, ldI_n hf2 (by decide), sA_at, h_mn, ob2_s, ldI_n hf2 (by decide), sA_at, stI_n hf2 (by decide), le1_e, h95, sI_A, sA_A, sA_at]
      rw [if_pos hb] at hI
      exact hI
    · rw [if_neg (fun q => hb ((bit_at1 hs (by omega)).mp q)), h95]
      rw [if_neg hb] at hI
      exact hI
theorem h_take {S : Hp} {c a nt s : Nat} {fr : Nat → Nat} (hat : atH S c a) (hnt : nt ≤ 6) (hs : s < 64) (hn : S.1 (c + 1) 1 = nI nt) (hfr : ∀ t, t < nt → S.1 (c + 9) t = nI (fr t) ∧ fr t < 6) :
    f_X8_takeAll a (nI s) S = some ((tkN (fun t => S.1 (c + 8) t) fr s (fun p => if p < 6 then S.1 (a + 1) p else S.1 52 p) nt).2, ho_sA S 52 (tkN (fun t => S.1 (c + 8) t) fr s (fun p => if p < 6 then S.1 (a + 1) p else S.1 52 p) nt).1) := by
  obtain ⟨hc, ha1, ha2, ha3⟩ := atH_c hat
  have e : va_cpy (S.1 (a + 1)) (S.1 52) (0 : Int32).toNatClampNeg (0 : Int32).toNatClampNeg (6 : Int32).toNatClampNeg = (fun p => if p < 6 then S.1 (a + 1) p else S.1 52 p) := by
    funext p
    have z0 : (0 : Int32).toNatClampNeg = 0 := by decide
    have z6 : (6 : Int32).toNatClampNeg = 6 := by decide
    unfold va_cpy
    rw [z0, z6]
    by_cases h : p < 6
    · rw [if_pos h, if_pos (by omega), show 0 + (p - 0) = p by omega]
    · rw [if_neg h, if_neg (by omega)]
  unfold f_X8_takeAll cpI
  rw [if_neg (by decide), e]
  have hat2 : atH (ho_sA S 52 (fun p => if p < 6 then S.1 (a + 1) p else S.1 52 p)) c a := hat
  have ec : ∀ x : Nat, (ho_sA S 52 (fun p => if p < 6 then S.1 (a + 1) p else S.1 52 p)).1 (c + x) = S.1 (c + x) := fun x => sA_ne _ _ (by omega)
  have h := h_take_loop (row := fun p => if p < 6 then S.1 (a + 1) p else S.1 52 p) hat hnt hs hn hfr nt 0 5000 (by omega) (by omega)
  rw [tkN] at h
  exact h

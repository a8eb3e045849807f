/-! level 2: plain words -/
theorem lit_nI (n : Nat) : (OfNat.ofNat n : Int32) = nI n := rfl
theorem ldI_n {β : Type} {S : Hp} {a n i : Nat} {f : Int32 → Option β} (h : i < n) (hn : n < 2 ^ 31) : ldI S a n (nI i) f = f (S.1 a i) := by
  have hi := nI_in h hn
  unfold ldI
  rw [if_neg hi, nI_clamp (by omega)]
theorem stI_n {β : Type} {S : Hp} {a n i : Nat} {v : Int32} {f : Hp → Option β} (h : i < n) (hn : n < 2 ^ 31) : stI S a n (nI i) v f = f (ho_sI S a i v) := by
  have hi := nI_in h hn
  unfold stI
  rw [if_neg hi, nI_clamp (by omega)]
theorem ob2_s {α β : Type} {a : α} {S : Hp} {f : α → Hp → Option β} : ob2 (some (a, S)) f = f a S := rfl
theorem ob_s {α β : Type} {a : α} {f : α → Option β} : ob (some a) f = f a := rfl
theorem le1_e {α β : Type} {x : α} {f : α → β} : le1 x f = f x := rfl
theorem sA_self (S : Hp) (a : Nat) : ho_sA S a (S.1 a) = S := by
  unfold ho_sA
  refine Prod.ext (funext fun b => ?_) rfl
  by_cases h : b = a
  · subst h; simp
  · simp [h]
theorem sI_A (S : Hp) (a k : Nat) (v : Int32) : ho_sI S a k v = ho_sA S a (upd (S.1 a) k v) := rfl
theorem sA_A (S : Hp) (a : Nat) (f g : Nat → Int32) : ho_sA (ho_sA S a f) a g = ho_sA S a g := by
  unfold ho_sA
  refine Prod.ext (funext fun b => ?_) rfl
  by_cases h : b = a
  · subst h; simp
  · simp [h]
theorem sA_at (S : Hp) (a : Nat) (f : Nat → Int32) : (ho_sA S a f).1 a = f := if_pos rfl
theorem sA_ne (S : Hp) {a b : Nat} (f : Nat → Int32) (h : b ≠ a) : (ho_sA S a f).1 b = S.1 b := if_neg h
/-- at most 9999 -/
def cap9 (v : Int32) : Int32 := if v ≤ nI 9999 then v else nI 9999
theorem m_pm {S : Hp} : f_X12_provinceMany S = some (S.1 41 3, S) := by
  unfold f_X12_provinceMany
  rw [lit_nI, ldI_n (by decide) (by decide)]
theorem m_yc {np : Nat} (hnp : np ≤ 6) : ∀ (d i k : Nat) (S : Hp), i + d = np → d < k → S.1 41 3 = nI np → f_X12_yieldsCome_2 k (nI i) S = some (ho_sA S 55 (fun j => if 3 + i ≤ j ∧ j < 3 + np then cap9 (S.1 55 j + S.1 44 (13 + 2 * (j - 3))) else S.1 55 j)) := by
  intro d
  induction d with
  | zero =>
    intro i k S hi hk hn
    obtain ⟨k, rfl⟩ : ∃ q, k = q + 1 := ⟨k - 1, by omega⟩
    rw [f_X12_yieldsCome_2, m_pm, ob2_s, hn, if_pos (nI_le (by omega) (by omega))]
    have e : (fun j => if 3 + i ≤ j ∧ j < 3 + np then cap9 (S.1 55 j + S.1 44 (13 + 2 * (j - 3))) else S.1 55 j) = S.1 55 := by
      funext j
      rw [if_neg (by omega)]
    rw [e, sA_self]
  | succ d ih =>
    intro i k S hi hk hn
    obtain ⟨k, rfl⟩ : ∃ q, k = q + 1 := ⟨k - 1, by omega⟩
    have hc : ∀ v z, (if v ≤ (9999 : Int32) then f_X12_yieldsCome_52 (f_X12_yieldsCome_2 k) (nI i) z v S else f_X12_yieldsCome_52 (f_X12_yieldsCome_2 k) (nI i) z (9999 : Int32) S) = f_X12_yieldsCome_52 (f_X12_yieldsCome_2 k) (nI i) z (cap9 v) S := by
      intro v z
      unfold cap9
      rw [lit_nI 9999]
      by_cases h : v ≤ nI 9999
      · rw [if_pos h, if_pos h]
      · rw [if_neg h, if_neg h]
    rw [f_X12_yieldsCome_2, m_pm, ob2_s, hn, if_neg (nI_ge (by omega) (by omega))]
    simp only [lit_nI 3, lit_nI 13, lit_nI 2, nI_add, pk_mul]
    rw [ldI_n (by omega) (by decide), ldI_n (by omega) (by decide), le1_e, hc]
    unfold f_X12_yieldsCome_52
    rw [stI_n (by omega) (by decide), le1_e, lit_nI 1, nI_add, ih (i + 1) k _ (by omega) (by omega) (by rw [sI_A, sA_ne _ _ (by decide)]; exact hn)]
    rw [sI_A, sA_A, sA_at, sA_ne _ _ (by decide)]
    congr 2
    funext j
    by_cases h1 : j = 3 + i
    · subst h1
      rw [if_neg (by omega), if_pos (by omega), pk_us]
      rw [show 13 + 2 * (3 + i - 3) = 13 + 2 * i by omega]
    · rw [pk_un h1]
      by_cases h2 : 3 + i ≤ j ∧ j < 3 + np
      · rw [if_pos h2, if_pos (by omega)]
      · rw [if_neg h2, if_neg (by omega)]

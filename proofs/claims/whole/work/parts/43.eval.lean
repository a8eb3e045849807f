/-! level 2: sums and tests, as whole numbers -/
abbrev LL (a : Int) : Int64 := Int64.ofInt a
theorem LL_t {a : Int} (h1 : -2 ^ 62 ≤ a) (h2 : a ≤ 2 ^ 62) : (LL a).toInt = a := Int64.toInt_ofInt_of_le (by omega) (by omega)
theorem LL_le {a b : Int} (a1 : -2 ^ 62 ≤ a) (a2 : a ≤ 2 ^ 62) (b1 : -2 ^ 62 ≤ b) (b2 : b ≤ 2 ^ 62) : LL a ≤ LL b ↔ a ≤ b := by rw [Int64.le_iff_toInt_le, LL_t a1 a2, LL_t b1 b2]
theorem LL_lt {a b : Int} (a1 : -2 ^ 62 ≤ a) (a2 : a ≤ 2 ^ 62) (b1 : -2 ^ 62 ≤ b) (b2 : b ≤ 2 ^ 62) : LL a < LL b ↔ a < b := by rw [Int64.lt_iff_toInt_lt, LL_t a1 a2, LL_t b1 b2]
theorem LL_eq {a b : Int} (a1 : -2 ^ 62 ≤ a) (a2 : a ≤ 2 ^ 62) (b1 : -2 ^ 62 ≤ b) (b2 : b ≤ 2 ^ 62) : LL a = LL b ↔ a = b := by rw [← Int64.toInt_inj, LL_t a1 a2, LL_t b1 b2]
theorem c_le {a b : Int} (a1 : -2 ^ 62 ≤ a) (a2 : a ≤ 2 ^ 62) (b1 : -2 ^ 62 ≤ b) (b2 : b ≤ 2 ^ 62) : (lg_cmp (LL a) (LL b) ≤ 0) ↔ a ≤ b := by rw [lg_cmp_le, LL_le a1 a2 b1 b2]
theorem c_ge {a b : Int} (a1 : -2 ^ 62 ≤ a) (a2 : a ≤ 2 ^ 62) (b1 : -2 ^ 62 ≤ b) (b2 : b ≤ 2 ^ 62) : (0 ≤ lg_cmp (LL a) (LL b)) ↔ b ≤ a := by rw [lg_cmp_ge, LL_le b1 b2 a1 a2]
theorem c_lt {a b : Int} (a1 : -2 ^ 62 ≤ a) (a2 : a ≤ 2 ^ 62) (b1 : -2 ^ 62 ≤ b) (b2 : b ≤ 2 ^ 62) : (lg_cmp (LL a) (LL b) < 0) ↔ a < b := by rw [lg_cmp_lt, LL_lt a1 a2 b1 b2]
theorem c_gt {a b : Int} (a1 : -2 ^ 62 ≤ a) (a2 : a ≤ 2 ^ 62) (b1 : -2 ^ 62 ≤ b) (b2 : b ≤ 2 ^ 62) : (0 < lg_cmp (LL a) (LL b)) ↔ b < a := by rw [lg_cmp_gt, LL_lt b1 b2 a1 a2]
theorem c_eq {a b : Int} (a1 : -2 ^ 62 ≤ a) (a2 : a ≤ 2 ^ 62) (b1 : -2 ^ 62 ≤ b) (b2 : b ≤ 2 ^ 62) : (lg_cmp (LL a) (LL b) = 0) ↔ a = b := by rw [lg_cmp_eq, LL_eq a1 a2 b1 b2]
/-- 10 to the 6 at most, either way -/
def clip (a : Int) : Int := if a ≤ 1000000 then (if -1000000 ≤ a then a else -1000000) else 1000000
/-- the greatest whole number not above; by 0 it gives 0 -/
def fdv (a b : Int) : Int := if b = 0 then 0 else a.fdiv b
theorem m_clip {a : Int} (h1 : -2 ^ 62 ≤ a) (h2 : a ≤ 2 ^ 62) (S : Hp) : f_X12_qClip (LL a) S = some (LL (clip a), S) := by
  have k1 : (1000000 : Int64) = LL 1000000 := by decide
  have k2 : (-1000000 : Int64) = LL (-1000000) := by decide
  unfold f_X12_qClip clip
  rw [k2, k1]
  by_cases c1 : a ≤ 1000000
  · rw [if_pos ((c_le h1 h2 (by decide) (by decide)).mpr c1), if_pos c1]
    by_cases c2 : -1000000 ≤ a
    · rw [if_pos ((c_ge h1 h2 (by decide) (by decide)).mpr c2), if_pos c2]
    · rw [if_neg (fun q => c2 ((c_ge h1 h2 (by decide) (by decide)).mp q)), if_neg c2]
  · rw [if_neg (fun q => c1 ((c_le h1 h2 (by decide) (by decide)).mp q)), if_neg c1]
theorem clip_in (a : Int) : -1000000 ≤ clip a ∧ clip a ≤ 1000000 := by
  unfold clip
  split <;> (try split) <;> omega
theorem fdv_in {a b : Int} (h1 : -1000000 ≤ a) (h2 : a ≤ 1000000) : -1000000 ≤ fdv a b ∧ fdv a b ≤ 1000000 := by
  unfold fdv
  by_cases hb : b = 0
  · rw [if_pos hb]; decide
  · rw [if_neg hb]
    have h := Int.natAbs_fdiv_le_natAbs a b
    omega
theorem LL_div {a b : Int} (a1 : -1000000 ≤ a) (a2 : a ≤ 1000000) (b1 : -1000000 ≤ b) (b2 : b ≤ 1000000) : LL a / LL b = LL (a.tdiv b) := by
  have m1 : Int64.minValue.toInt = -2 ^ 63 := by decide
  have m2 : Int64.maxValue.toInt = 2 ^ 63 - 1 := by decide
  exact (Int64.ofInt_tdiv (by rw [m1]; omega) (by rw [m2]; omega) (by rw [m1]; omega) (by rw [m2]; omega)).symm
theorem td_in (a b : Int) (a1 : -1000000 ≤ a) (a2 : a ≤ 1000000) : -1000000 ≤ a.tdiv b ∧ a.tdiv b ≤ 1000000 := by
  have h := Int.natAbs_tdiv_le_natAbs a b
  omega
theorem m_floor {a b : Int} (a1 : -1000000 ≤ a) (a2 : a ≤ 1000000) (b1 : -1000000 ≤ b) (b2 : b ≤ 1000000) (S : Hp) : f_X12_qFloor (LL a) (LL b) S = some (LL (fdv a b), S) := by
  have k0 : (0 : Int64) = LL 0 := by decide
  have k1 : (1 : Int64) = LL 1 := by decide
  unfold f_X12_qFloor fdv
  rw [k0]
  by_cases hb : b = 0
  · rw [if_pos ((c_eq (by omega) (by omega) (by decide) (by decide)).mpr hb), if_pos hb]
  · have hb' : ¬ LL b = 0 := fun q => hb ((LL_eq (by omega) (by omega) (by decide) (by decide)).mp (q.trans k0))
    rw [if_neg (fun q => hb ((c_eq (by omega) (by omega) (by decide) (by decide)).mp q)), if_neg hb]
    obtain ⟨t1, t2⟩ := td_in a b a1 a2
    unfold nzl
    rw [if_neg hb', le1_e, if_neg hb', LL_div a1 a2 b1 b2]
    have e1 : LL a - LL (a.tdiv b) * LL b = LL (a.tmod b) := by
      show Int64.ofInt a - Int64.ofInt (a.tdiv b) * Int64.ofInt b = Int64.ofInt (a.tmod b)
      rw [← Int64.ofInt_mul, ← Int64.ofInt_sub]
      congr 1
      have := Int.mul_tdiv_add_tmod a b
      rw [Int.mul_comm]
      omega
    have hm : (a.tmod b).natAbs ≤ a.natAbs := by
      rw [Int.natAbs_tmod]
      exact Nat.mod_le _ _
    rw [e1]
    have f43 : ∀ z0 z1, f_X12_qFloor_43 (LL (a.tdiv b)) z0 z1 S = some (LL (if z0 = z1 then a.tdiv b else a.tdiv b - 1), S) := by
      intro z0 z1
      unfold f_X12_qFloor_43
      by_cases hz : z0 = z1
      · rw [if_pos hz, if_pos hz]
      · rw [if_neg hz, if_neg hz, k1]
        show some (Int64.ofInt (a.tdiv b) - Int64.ofInt 1, S) = some (Int64.ofInt (a.tdiv b - 1), S)
        rw [Int64.ofInt_sub]
    have f32 : ∀ z0, f_X12_qFloor_32 (LL b) (LL (a.tdiv b)) z0 S = some (LL (if z0 = (if 0 ≤ b then (0 : Int32) else 1) then a.tdiv b else a.tdiv b - 1), S) := by
      intro z0
      unfold f_X12_qFloor_32
      rw [k0]
      by_cases hz : 0 ≤ b
      · rw [if_pos ((c_ge (by omega) (by omega) (by decide) (by decide)).mpr hz), if_pos hz, f43]
      · rw [if_neg (fun q => hz ((c_ge (by omega) (by omega) (by decide) (by decide)).mp q)), if_neg hz, f43]
    have hd : b ∣ a ↔ a.tmod b = 0 := ⟨fun h => Int.tmod_eq_zero_of_dvd h, fun h => Int.dvd_of_tmod_eq_zero h⟩
    by_cases hr : a.tmod b = 0
    · rw [if_pos ((c_eq (by omega) (by omega) (by decide) (by decide)).mpr hr), Int.fdiv_eq_tdiv, if_pos (hd.mpr hr)]
      simp
    · rw [if_neg (fun q => hr ((c_eq (by omega) (by omega) (by decide) (by decide)).mp q)), Int.fdiv_eq_tdiv, if_neg (fun q => hr (hd.mp q))]
      by_cases ha : 0 ≤ a
      · rw [if_pos ((c_ge (by omega) (by omega) (by decide) (by decide)).mpr ha), f32, if_pos ha]
        by_cases hz : 0 ≤ b
        · rw [if_pos hz, if_pos rfl, if_pos hz]
          simp
        · rw [if_neg hz, if_neg (by decide), if_neg hz]
      · rw [if_neg (fun q => ha ((c_ge (by omega) (by omega) (by decide) (by decide)).mp q)), f32, if_neg ha]
        by_cases hz : 0 ≤ b
        · rw [if_pos hz, if_neg (by decide), if_pos hz, Int.sign_eq_one_of_pos (by omega)]
        · rw [if_neg hz, if_pos rfl, if_neg hz, Int.sign_eq_neg_one_of_neg (by omega)]
          simp
/-- the pile of the reference: its entries from the lowest on -/
def pileR (S : Hp) (st : List Int) : Prop := S.1 0 106 = nI st.length ∧ ∀ i (h : i < st.length), S.2.1 106 i = LL (st[i])
theorem ldJ_n {β : Type} {S : Hp} {a n i : Nat} {f : Int64 → Option β} (h : i < n) (hn : n < 2 ^ 31) : ldJ S a n (nI i) f = f (S.2.1 a i) := by
  have hi := nI_in h hn
  unfold ldJ
  rw [if_neg hi, nI_clamp (by omega)]
theorem stJ_n {β : Type} {S : Hp} {a n i : Nat} {v : Int64} {f : Hp → Option β} (h : i < n) (hn : n < 2 ^ 31) : stJ S a n (nI i) v f = f (ho_sJ S a i v) := by
  have hi := nI_in h hn
  unfold stJ
  rw [if_neg hi, nI_clamp (by omega)]
/-- what is left as it was by the reference's reckoning: all but the pile, how high it is -/
def evF (S S' : Hp) : Prop := (∀ b, b ≠ 0 → S'.1 b = S.1 b) ∧ (∀ k, k ≠ 106 → S'.1 0 k = S.1 0 k) ∧ (∀ b, b ≠ 106 → S'.2.1 b = S.2.1 b) ∧ S'.2.2 = S.2.2
theorem evF_rf (S : Hp) : evF S S := ⟨fun _ _ => rfl, fun _ _ => rfl, fun _ _ => rfl, rfl⟩
theorem evF_tr {S S1 S2 : Hp} (h1 : evF S S1) (h2 : evF S1 S2) : evF S S2 := ⟨fun b hb => (h2.1 b hb).trans (h1.1 b hb), fun k hk => (h2.2.1 k hk).trans (h1.2.1 k hk), fun b hb => (h2.2.2.1 b hb).trans (h1.2.2.1 b hb), h2.2.2.2.trans h1.2.2.2⟩
theorem evF_h (S : Hp) (v : Int32) : evF S (ho_sI S 0 106 v) := by
  refine ⟨fun b hb => ?_, fun k hk => ?_, fun _ _ => rfl, rfl⟩
  · rw [sI_A, sA_ne _ _ hb]
  · rw [sI_A, sA_at, pk_un hk]
theorem evF_p (S : Hp) (i : Nat) (v : Int64) : evF S (ho_sJ S 106 i v) := by
  refine ⟨fun _ _ => rfl, fun _ _ => rfl, fun b hb => ?_, rfl⟩
  exact if_neg hb
theorem m_puts {S : Hp} {st : List Int} (h : pileR S st) (hl : st.length < 1700) (a : Int) : ∃ S', f_X12_qPuts (LL a) S = some S' ∧ pileR S' (st ++ [a]) ∧ evF S S' := by
  obtain ⟨h1, h2⟩ := h
  refine ⟨ho_sI (ho_sJ S 106 st.length (LL a)) 0 106 (nI (st.length + 1)), ?_, ⟨?_, ?_⟩, evF_tr (evF_p S _ _) (evF_h _ _)⟩
  · unfold f_X12_qPuts
    rw [h1, stJ_n hl (by decide), le1_e]
    show some (ho_sI _ 0 106 (S.1 0 106 + 1)) = _
    rw [h1, nI_1]
  · rw [sI_A, sA_at, pk_us, List.length_append]
    rfl
  · intro i hi
    rw [List.length_append] at hi
    show (ho_sJ S 106 st.length (LL a)).2.1 106 i = _
    rw [ho_uJ]
    by_cases e : i = st.length
    · subst e
      rw [pk_uLs]
      simp
    · have hlt : i < st.length := by simp at hi; omega
      rw [pk_uLn e, h2 i hlt, List.getElem_append_left hlt]

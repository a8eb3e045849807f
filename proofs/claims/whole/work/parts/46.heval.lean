/-! level 2: the class's reckoning of codes -/
abbrev iI (a : Int) : Int32 := Int32.ofInt a
theorem iI_t {a : Int} (h : inM a) : (iI a).toInt = a := Int32.toInt_ofInt_of_le (by have := h.1; omega) (by have := h.2; omega)
theorem iI_L {a : Int} (h : inM a) : (iI a).toInt64 = LL a := by rw [LL_i, iI_t h]
theorem LL_iI (a : Int) : (LL a).toInt32 = iI a := by
  apply Int32.toBitVec_inj.mp
  show (BitVec.ofInt 64 a).signExtend 32 = BitVec.ofInt 32 a
  rw [BitVec.signExtend_eq_setWidth_of_le _ (by decide)]
  apply BitVec.eq_of_toNat_eq
  simp only [BitVec.toNat_setWidth, BitVec.toNat_ofInt]
  omega
theorem xor_neg (x y : Int64) : (x ^^^ y).toInt < 0 ↔ ¬ (x.toInt < 0 ↔ y.toInt < 0) := by
  have h : (x ^^^ y).toBitVec.msb = (x.toBitVec.msb ^^ y.toBitVec.msb) := by rw [Int64.toBitVec_xor, BitVec.msb_xor]
  rw [BitVec.msb_eq_toInt, BitVec.msb_eq_toInt, BitVec.msb_eq_toInt] at h
  change decide ((x ^^^ y).toInt < 0) = (decide (x.toInt < 0) ^^ decide (y.toInt < 0)) at h
  by_cases a : x.toInt < 0 <;> by_cases b : y.toInt < 0 <;> simp [a, b] at h ⊢ <;> omega
theorem h_min {a b : Int} (a1 : -2 ^ 62 ≤ a) (a2 : a ≤ 2 ^ 62) (b1 : -2 ^ 62 ≤ b) (b2 : b ≤ 2 ^ 62) (S : Hp) : f_J9_min_f86c9 (LL a) (LL b) S = some (LL (if b < a then b else a), S) := by
  unfold f_J9_min_f86c9
  by_cases g : b < a
  · rw [if_pos ((c_gt a1 a2 b1 b2).mpr g), if_pos g]
  · rw [if_neg (fun q => g ((c_gt a1 a2 b1 b2).mp q)), if_neg g]
theorem h_max {a b : Int} (a1 : -2 ^ 62 ≤ a) (a2 : a ≤ 2 ^ 62) (b1 : -2 ^ 62 ≤ b) (b2 : b ≤ 2 ^ 62) (S : Hp) : f_J9_max_f86c9 (LL a) (LL b) S = some (LL (if a < b then b else a), S) := by
  unfold f_J9_max_f86c9
  by_cases g : a < b
  · rw [if_pos ((c_lt a1 a2 b1 b2).mpr g), if_pos g]
  · rw [if_neg (fun q => g ((c_lt a1 a2 b1 b2).mp q)), if_neg g]
theorem h_bnd {a : Int} (a1 : -2 ^ 61 ≤ a) (a2 : a ≤ 2 ^ 61) (S : Hp) : f_X4_bounded (LL a) S = some (iI (clip a), S) := by
  have k1 : (1000000 : Int64) = LL 1000000 := by decide
  have k2 : (-1000000 : Int64) = LL (-1000000) := by decide
  unfold f_X4_bounded
  rw [k2, k1, h_min (by decide) (by decide) (by omega) (by omega), ob2_s]
  have hm : -2 ^ 62 ≤ (if a < 1000000 then a else 1000000) ∧ (if a < 1000000 then a else 1000000) ≤ 2 ^ 62 := by split <;> omega
  rw [h_max (by decide) (by decide) hm.1 hm.2, ob2_s, LL_iI]
  have e : (if -1000000 < (if a < 1000000 then a else 1000000) then (if a < 1000000 then a else 1000000) else -1000000) = clip a := by
    unfold clip
    repeat' split
    all_goals omega
  rw [e]
theorem h_fd {a b : Int} (ha : inM a) (hb : inM b) (h0 : ¬ b = 0) (S : Hp) : f_J9_floorDiv_f86c9 (LL a) (LL b) S = some (LL (a.fdiv b), S) := by
  obtain ⟨a1, a2⟩ := ha
  obtain ⟨b1, b2⟩ := hb
  have k0 : (0 : Int64) = LL 0 := by decide
  have k1 : (1 : Int64) = LL 1 := by decide
  have hb' : ¬ LL b = 0 := fun q => h0 ((LL_eq (by omega) (by omega) (by decide) (by decide)).mp (q.trans k0))
  obtain ⟨t1, t2⟩ := td_in a b a1 a2
  unfold f_J9_floorDiv_f86c9 nzl
  rw [if_neg hb', le1_e, LL_div a1 a2 b1 b2, show LL (a.tdiv b) * LL b = LL (a.tdiv b * b) from (Int64.ofInt_mul _ _).symm, show LL (a.tdiv b) - 1 = LL (a.tdiv b - 1) by rw [k1]; exact (Int64.ofInt_sub _ _).symm]
  have hx : (0 ≤ lg_cmp (LL a ^^^ LL b) 0) ↔ (a < 0 ↔ b < 0) := by
    rw [lg_cmp_ge, Int64.le_iff_toInt_le, show (0 : Int64).toInt = 0 by decide]
    have := xor_neg (LL a) (LL b)
    rw [LL_t (by omega) (by omega), LL_t (by omega) (by omega)] at this
    constructor
    · intro q
      by_cases g : (a < 0 ↔ b < 0)
      · exact g
      · exact absurd (this.mpr g) (by omega)
    · intro q
      by_cases g : (LL a ^^^ LL b).toInt < 0
      · exact absurd q (this.mp g)
      · omega
  have hm := Int.mul_tdiv_add_tmod a b
  have hmm : a.tdiv b * b = a - a.tmod b := by rw [Int.mul_comm]; omega
  have hn : (a.tmod b).natAbs ≤ a.natAbs := by
    rw [Int.natAbs_tmod]
    exact Nat.mod_le _ _
  have hd : b ∣ a ↔ a.tmod b = 0 := ⟨fun h => Int.tmod_eq_zero_of_dvd h, fun h => Int.dvd_of_tmod_eq_zero h⟩
  have he : (lg_cmp (LL (a.tdiv b * b)) (LL a) = 0) ↔ a.tmod b = 0 := by
    rw [c_eq (by omega) (by omega) (by omega) (by omega)]
    omega
  rw [Int.fdiv_eq_tdiv]
  by_cases hr : a.tmod b = 0
  · rw [if_pos (hd.mpr hr), if_pos (he.mpr hr)]
    simp
  · rw [if_neg (fun q => hr (hd.mp q)), if_neg (fun q => hr (he.mp q))]
    by_cases ga : 0 ≤ a
    · rw [if_pos ga]
      by_cases gb : 0 ≤ b
      · rw [if_pos gb, if_pos (hx.mpr (by omega))]; simp
      · rw [if_neg gb, if_neg (fun q => by have := hx.mp q; omega)]
    · rw [if_neg ga]
      by_cases gb : 0 ≤ b
      · rw [if_pos gb, if_neg (fun q => by have := hx.mp q; omega), Int.sign_eq_one_of_pos (by omega)]
      · rw [if_neg gb, if_pos (hx.mpr (by omega)), Int.sign_eq_neg_one_of_neg (by omega)]; simp

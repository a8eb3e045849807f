/-! level 2: alike answers: an image read -/
theorem sI_tw (S : Hp) {a k : Nat} {v w : Int32} : ho_sI (ho_sI S a k v) a k w = ho_sI S a k w := by
  have e : ∀ b, (ho_sI (ho_sI S a k v) a k w).1 b = (ho_sI S a k w).1 b := fun b => by
    by_cases q : b = a
    · subst q
      funext j
      by_cases r : j = k
      · subst r; rw [sI_v, sI_v]
      · rw [sI_k r, sI_k r, sI_k r]
    · rw [sI_ne _ q, sI_ne _ q, sI_ne _ q]
  exact Prod.ext (funext e) rfl
theorem shl8 (a : Nat) : nI a <<< ((8 : Int32) &&& 31) = nI (256 * a) := by
  apply Int32.toBitVec_inj.mp
  show (BitVec.ofNat 32 a) <<< ((8#32 &&& 31#32).smod 32) = BitVec.ofNat 32 (256 * a)
  rw [show ((8#32 &&& 31#32).smod 32) = 8#32 by decide]
  apply BitVec.eq_of_toNat_eq
  rw [BitVec.shiftLeft_eq', BitVec.toNat_shiftLeft, Nat.shiftLeft_eq, show (8#32).toNat = 8 from rfl, BitVec.toNat_ofNat, BitVec.toNat_ofNat]
  omega
theorem or8 {a b : Nat} (hb : b < 256) : nI (256 * a) ||| nI b = nI (256 * a + b) := by
  rw [orN, show 256 * a = a <<< 8 by rw [Nat.shiftLeft_eq]; omega, ← Nat.shiftLeft_add_eq_or_of_lt (i := 8) hb]
def tk1 (T : Tp) (i : Nat) : Nat → Nat → Nat
  | 0, v => v
  | k + 1, v => tk1 T (i + 1) k (256 * v + T.1 i)
theorem h_tk5 {S : Hp} {T : Tp} (t : tZ S T) : ∀ (d j K v i n : Nat), j + d = n → d < K → n ≤ 3 → i + d ≤ T.2 → f_X5_take_5 K (nI n) (nI v) (nI j) (ho_sI S 90 2 (nI i)) = some (nI (tk1 T i d v), ho_sI S 90 2 (nI (i + d)))
  | 0, j, K, v, i, n, hj, hK, hn, hi => by
    obtain ⟨K, rfl⟩ : ∃ q, K = q + 1 := ⟨K - 1, by omega⟩
    rw [f_X5_take_5, if_pos (nI_le (by omega) (by omega))]; rfl
  | d + 1, j, K, v, i, n, hj, hK, hn, hi => by
    obtain ⟨K, rfl⟩ : ∃ q, K = q + 1 := ⟨K - 1, by omega⟩
    have t' : tZ (ho_sI S 90 2 (nI i)) T := ⟨t.1, by rw [sI_ne _ (by decide)]; exact t.2.1, by rw [sI_ne _ (by decide)]; exact t.2.2.1, by rw [sI_ne _ (by decide)]; exact t.2.2.2⟩
    have hb := (t.2.2.1 i (by omega)).2
    rw [f_X5_take_5, if_neg (nI_ge (by omega) (by omega)), sI_v, h_byteAt t' (by omega), ob2_s, le1_e, sI_v, le1_e, le1_e, shl8, or8 hb, nI_1, nI_1, sI_tw, h_tk5 t d (j + 1) K (256 * v + T.1 i) (i + 1) n (by omega) (by omega) hn (by omega), show i + 1 + d = i + (d + 1) by omega]
    rfl
theorem h_takN {S : Hp} {T : Tp} (t : tZ S T) {i n : Nat} (hn : n ≤ 3) (hi : i + n ≤ T.2) : f_X5_take (nI n) (ho_sI S 90 2 (nI i)) = some (nI (tk1 T i n 0), ho_sI S 90 2 (nI (i + n))) := h_tk5 t n 0 5000 0 i n (by omega) (by omega) hn hi
def fl (b : Bool) : Int32 := if b = true then 1 else 0
theorem fl_and (a b : Bool) : fl a &&& fl b = fl (a && b) := by cases a <;> cases b <;> decide
theorem fl_0 (b : Bool) : (fl b = 0) ↔ b = false := by cases b <;> decide
theorem tk1_lt {T : Tp} (hb : ∀ i, i < T.2 → T.1 i < 256) {i n : Nat} (hn : n ≤ 3) (hi : i + n ≤ T.2) : tk1 T i n 0 < 2 ^ 31 := by
  have : n = 0 ∨ n = 1 ∨ n = 2 ∨ n = 3 := by omega
  rcases this with rfl | rfl | rfl | rfl
  · show 0 < 2 ^ 31; decide
  · have := hb i (by omega)
    show 256 * 0 + T.1 i < 2 ^ 31; omega
  · have := hb i (by omega)
    have := hb (i + 1) (by omega)
    show 256 * (256 * 0 + T.1 i) + T.1 (i + 1) < 2 ^ 31; omega
  · have := hb i (by omega)
    have := hb (i + 1) (by omega)
    have := hb (i + 1 + 1) (by omega)
    show 256 * (256 * (256 * 0 + T.1 i) + T.1 (i + 1)) + T.1 (i + 1 + 1) < 2 ^ 31; omega
theorem fl_if {β : Type} {v m : Nat} (hv : v < 2 ^ 31) (hm : m < 2 ^ 31) (F : Int32 → β) : (if nI m < nI v then F 0 else F 1) = F (fl (decide (v ≤ m))) := by
  by_cases e : v ≤ m
  · rw [if_neg (nI_nlt e (by omega)), decide_eq_true e]; rfl
  · rw [if_pos (nI_lt (by omega) (by omega)), decide_eq_false e]; rfl
def gPo (T : Tp) (f : Bool) : Nat → Bool
  | 0 => f
  | p + 1 => gPo T f p && decide (tk1 T (6 + 2 * p) 2 0 ≤ 9999)
def gT (T : Tp) (o : Nat) (f : Bool) : Nat → Bool
  | 0 => f
  | t + 1 => (gT T o f t && decide (tk1 T (o + 4 * t) 2 0 ≤ 9999)) && decide (tk1 T (o + 4 * t + 2) 2 0 ≤ 999)
def gS (T : Tp) (o : Nat) (f : Bool) : Nat → Bool
  | 0 => f
  | w + 1 => gS T o f w && decide (tk1 T (o + w) 1 0 ≤ 9)
theorem h_r114 {S : Hp} {T : Tp} {c np : Nat} {f : Bool} (t : tZ S T) (hc : c = 100 ∨ c = 150) (h : S.1 (c + 1) 0 = nI np) (hnp : np ≤ 6) (hT : 6 + 2 * np ≤ T.2) : ∀ (d i K : Nat), i + d = np → d < K → f_X5_readable_114 c K (fl (gPo T f i)) (nI i) (ho_sI S 90 2 (nI (6 + 2 * i))) = f_X5_readable_153 c 5000 (fl (gPo T f np)) (0 : Int32) (ho_sI S 90 2 (nI (6 + 2 * np)))
  | 0, i, K, hi, hK => by
    obtain ⟨K, rfl⟩ : ∃ q, K = q + 1 := ⟨K - 1, by omega⟩
    rw [f_X5_readable_114, ldI_L 0 (by decide) (by decide), sI_ne _ (by omega), h, if_pos (nI_le (by omega) (by omega)), show i = np by omega]
  | d + 1, i, K, hi, hK => by
    obtain ⟨K, rfl⟩ : ∃ q, K = q + 1 := ⟨K - 1, by omega⟩
    have hb := fun i hi => (t.2.2.1 i hi).2
    rw [f_X5_readable_114, ldI_L 0 (by decide) (by decide), sI_ne _ (by omega), h, if_neg (nI_ge (by omega) (by omega)), show f_X5_take (2 : Int32) (ho_sI S 90 2 (nI (6 + 2 * i))) = _ from h_takN (n := 2) t (by decide) (by omega), ob2_s, show (9999 : Int32) = nI 9999 from rfl, fl_if (tk1_lt hb (by decide) (by omega)) (by decide) (fun u => f_X5_readable_141 (f_X5_readable_114 c K) c (nI i) (fl (gPo T f i)) u (ho_sI S 90 2 (nI (6 + 2 * i + 2))))]
    unfold f_X5_readable_141
    rw [le1_e, le1_e, nI_1, fl_and]
    exact h_r114 t hc h hnp hT d (i + 1) K (by omega) (by omega)
theorem h_r153 {S : Hp} {T : Tp} {c nt o : Nat} {f : Bool} (t : tZ S T) (hc : c = 100 ∨ c = 150) (h : S.1 (c + 1) 1 = nI nt) (hnt : nt ≤ 6) (hT : o + 4 * nt ≤ T.2) : ∀ (d i K : Nat), i + d = nt → d < K → f_X5_readable_153 c K (fl (gT T o f i)) (nI i) (ho_sI S 90 2 (nI (o + 4 * i))) = f_X5_readable_214 c 5000 (fl (gT T o f nt)) (0 : Int32) (ho_sI S 90 2 (nI (o + 4 * nt)))
  | 0, i, K, hi, hK => by
    obtain ⟨K, rfl⟩ : ∃ q, K = q + 1 := ⟨K - 1, by omega⟩
    rw [f_X5_readable_153, ldI_L 1 (by decide) (by decide), sI_ne _ (by omega), h, if_pos (nI_le (by omega) (by omega)), show i = nt by omega]
  | d + 1, i, K, hi, hK => by
    obtain ⟨K, rfl⟩ : ∃ q, K = q + 1 := ⟨K - 1, by omega⟩
    have hb := fun i hi => (t.2.2.1 i hi).2
    rw [f_X5_readable_153, ldI_L 1 (by decide) (by decide), sI_ne _ (by omega), h, if_neg (nI_ge (by omega) (by omega)), show f_X5_take (2 : Int32) (ho_sI S 90 2 (nI (o + 4 * i))) = _ from h_takN (n := 2) t (by decide) (by omega), ob2_s, show (9999 : Int32) = nI 9999 from rfl, fl_if (tk1_lt hb (by decide) (by omega)) (by decide) (fun u => f_X5_readable_180 (f_X5_readable_153 c K) c (nI i) (fl (gT T o f i)) u (ho_sI S 90 2 (nI (o + 4 * i + 2))))]
    unfold f_X5_readable_180
    rw [le1_e, fl_and, show f_X5_take (2 : Int32) (ho_sI S 90 2 (nI (o + 4 * i + 2))) = _ from h_takN (n := 2) t (by decide) (by omega), ob2_s, show (999 : Int32) = nI 999 from rfl, fl_if (tk1_lt hb (by decide) (by omega)) (by decide) (fun u => f_X5_readable_202 (f_X5_readable_153 c K) c (nI i) (fl (gT T o f i && decide (tk1 T (o + 4 * i) 2 0 ≤ 9999))) u (ho_sI S 90 2 (nI (o + 4 * i + 2 + 2))))]
    unfold f_X5_readable_202
    rw [le1_e, le1_e, nI_1, fl_and, show o + 4 * i + 2 + 2 = o + 4 * (i + 1) by omega]
    exact h_r153 t hc h hnt hT d (i + 1) K (by omega) (by omega)
theorem h_r214 {S : Hp} {T : Tp} {c nw o : Nat} {f : Bool} (t : tZ S T) (hc : c = 100 ∨ c = 150) (h : S.1 (c + 1) 2 = nI nw) (hnw : nw ≤ 5) (hT : o + nw ≤ T.2) : ∀ (d i K : Nat), i + d = nw → d < K → f_X5_readable_214 c K (fl (gS T o f i)) (nI i) (ho_sI S 90 2 (nI (o + i))) = some (fl (gS T o f nw), ho_sI S 90 2 (nI (o + nw)))
  | 0, i, K, hi, hK => by
    obtain ⟨K, rfl⟩ : ∃ q, K = q + 1 := ⟨K - 1, by omega⟩
    rw [f_X5_readable_214, ldI_L 2 (by decide) (by decide), sI_ne _ (by omega), h, if_pos (nI_le (by omega) (by omega)), show i = nw by omega, tr01 (by cases gS T o f nw <;> decide)]
  | d + 1, i, K, hi, hK => by
    obtain ⟨K, rfl⟩ : ∃ q, K = q + 1 := ⟨K - 1, by omega⟩
    have hb := fun i hi => (t.2.2.1 i hi).2
    have hl := tk1_lt (i := o + i) (n := 1) hb (by decide) (by omega)
    have e10 : ∀ (F : Int32 → Option (Int32 × Hp)), (if (10 : Int32) ≤ nI (tk1 T (o + i) 1 0) then F 0 else F 1) = F (fl (decide (tk1 T (o + i) 1 0 ≤ 9))) := fun F => by
      by_cases e : tk1 T (o + i) 1 0 ≤ 9
      · rw [if_neg (fun q => absurd ((geL 10 hl (by decide)).mp q) (by omega)), decide_eq_true e]; rfl
      · rw [if_pos ((geL 10 hl (by decide)).mpr (by omega)), decide_eq_false e]; rfl
    rw [f_X5_readable_214, ldI_L 2 (by decide) (by decide), sI_ne _ (by omega), h, if_neg (nI_ge (by omega) (by omega)), show f_X5_take (1 : Int32) (ho_sI S 90 2 (nI (o + i))) = _ from h_takN (n := 1) t (by decide) (by omega), ob2_s, e10 (fun u => f_X5_readable_240 (f_X5_readable_214 c K) c (nI i) (fl (gS T o f i)) u (ho_sI S 90 2 (nI (o + i + 1))))]
    unfold f_X5_readable_240
    rw [le1_e, le1_e, nI_1, fl_and]
    exact h_r214 t hc h hnw hT d (i + 1) K (by omega) (by omega)
def ckN (T : Tp) : Nat → Nat
  | 0 => 97
  | i + 1 => ckS (ckN T i) (T.1 i)
theorem ckN_lt (T : Tp) : ∀ i, ckN T i < 251
  | 0 => by show 97 < 251; omega
  | i + 1 => Nat.mod_lt _ (by decide)
theorem h_ck {S : Hp} {T : Tp} {n : Nat} (t : tZ S T) (hn : T.2 = n + 1) : ∀ (d i K : Nat), i + d = n → d < K → f_X5_isChecked_5 K (nI (ckN T i)) (nI i) S = some (fl (decide (ckN T n = T.1 n)), S)
  | 0, i, K, hi, hK => by
    obtain ⟨K, rfl⟩ : ∃ q, K = q + 1 := ⟨K - 1, by omega⟩
    have h6 := t.1
    have hb := (t.2.2.1 n (by omega)).2
    have hk := ckN_lt T n
    have e : i = n := by omega
    subst e
    rw [f_X5_isChecked_5, t.2.1, hn, lit_nI 1, pk_sub (by omega), show i + 1 - 1 = i by omega, if_pos (nI_le (Nat.le_refl _) (by omega)), h_byteAt t (by omega), ob2_s]
    by_cases q : ckN T i = T.1 i
    · rw [if_pos (show nI (ckN T i) = nI (T.1 i) by rw [q]), decide_eq_true q]; rfl
    · rw [if_neg (fun x => q ((nI_eq (by omega) (by omega)).mp x)), decide_eq_false q]; rfl
  | d + 1, i, K, hi, hK => by
    obtain ⟨K, rfl⟩ : ∃ q, K = q + 1 := ⟨K - 1, by omega⟩
    have h6 := t.1
    have hb := (t.2.2.1 i (by omega)).2
    have hk := ckN_lt T i
    rw [f_X5_isChecked_5, t.2.1, hn, lit_nI 1, pk_sub (by omega), show n + 1 - 1 = n by omega, if_neg (nI_ge (by omega) (by omega)), h_byteAt t (by omega), ob2_s, lit_nI 3, pk_mul, nI_add, lit_nI 251, pk_rem (by omega) (by decide) (by decide), le1_e, le1_e, nI_add]
    exact h_ck t hn d (i + 1) K (by omega) (by omega)
/-- all that an image must keep to -/
def gAl (C : Cr) (T : Tp) : Bool := gS T (6 + 2 * cP C + 4 * cT C) (gT T (6 + 2 * cP C) (gPo T ((decide (tk1 T 0 2 0 ≤ 999) && decide (tk1 T 2 3 0 ≤ 99999)) && decide (tk1 T 5 1 0 ≤ 100)) (cP C)) (cT C)) (cW C)
def imN (C : Cr) : Nat := 6 + 2 * cP C + 4 * cT C + cW C
def imO (C : Cr) (T : Tp) : Bool := decide (T.2 = imN C + 1) && (decide (ckN T (imN C) = T.1 (imN C)) && gAl C T)
theorem h_rdb {S : Hp} {T : Tp} {c : Nat} {C : Cr} (hC : okCr C) (t : tZ S T) (hc : c = 100 ∨ c = 150) (h0 : S.1 (c + 1) 0 = nI (cP C)) (h1 : S.1 (c + 1) 1 = nI (cT C)) (h2 : S.1 (c + 1) 2 = nI (cW C)) : ∃ S', f_X5_readable c S = some (fl (imO C T), S') ∧ (S' = S ∨ ∃ v, S' = ho_sI S 90 2 v) := by
  obtain ⟨⟨hnp, hnt, hnw⟩, -⟩ := id hC
  have h6 := t.1
  unfold f_X5_readable imO
  rw [ldI_L 0 (by decide) (by decide), h0, ldI_L 1 (by decide) (by decide), h1, ldI_L 2 (by decide) (by decide), h2, lit_nI 6, lit_nI 2, pk_mul, nI_add, lit_nI 4, pk_mul, nI_add, nI_add, nI_1, le1_e, t.2.1]
  by_cases e1 : T.2 = imN C + 1
  rotate_left
  · rw [if_neg (show ¬ nI T.2 = nI (6 + 2 * cP C + 4 * cT C + cW C + 1) from fun q => e1 ((nI_eq (b := imN C + 1) (by omega) (by unfold imN; omega)).mp q)), decide_eq_false e1, Bool.false_and]
    exact ⟨S, rfl, Or.inl rfl⟩
  have hN : imN C = 6 + 2 * cP C + 4 * cT C + cW C := rfl
  have ck := h_ck t e1 (imN C) 0 5000 (by omega) (by omega)
  rw [if_pos (show nI T.2 = nI (6 + 2 * cP C + 4 * cT C + cW C + 1) by rw [e1]; rfl), show f_X5_isChecked S = _ from ck, ob2_s, decide_eq_true e1, Bool.true_and]
  by_cases e2 : ckN T (imN C) = T.1 (imN C)
  rotate_left
  · rw [decide_eq_false e2, Bool.false_and, if_pos (show fl false = 0 by decide)]
    exact ⟨S, rfl, Or.inl rfl⟩
  have hb := fun i hi => (t.2.2.1 i hi).2
  rw [decide_eq_true e2, Bool.true_and, if_neg (show ¬ fl true = 0 by decide), le1_e, show f_X5_take (nI 2) (ho_sI S 90 2 (0 : Int32)) = _ from h_takN (n := 2) (i := 0) t (by decide) (by omega), ob2_s, show (999 : Int32) = nI 999 from rfl, fl_if (tk1_lt hb (by decide) (by omega)) (by decide) (fun u => f_X5_readable_67 c u (ho_sI S 90 2 (nI (0 + 2))))]
  unfold f_X5_readable_67
  rw [show f_X5_take (3 : Int32) (ho_sI S 90 2 (nI (0 + 2))) = _ from h_takN (n := 3) t (by decide) (by omega), ob2_s, show (99999 : Int32) = nI 99999 from rfl, fl_if (tk1_lt hb (by decide) (by omega)) (by decide) (fun u => f_X5_readable_87 c (fl (decide (tk1 T 0 2 0 ≤ 999))) u (ho_sI S 90 2 (nI (0 + 2 + 3))))]
  unfold f_X5_readable_87
  rw [le1_e, fl_and, show f_X5_take (1 : Int32) (ho_sI S 90 2 (nI (0 + 2 + 3))) = _ from h_takN (n := 1) t (by decide) (by omega), ob2_s, show (100 : Int32) = nI 100 from rfl, fl_if (tk1_lt hb (by decide) (by omega)) (by decide) (fun u => f_X5_readable_108 c (fl (decide (tk1 T 0 2 0 ≤ 999) && decide (tk1 T (0 + 2) 3 0 ≤ 99999))) u (ho_sI S 90 2 (nI (0 + 2 + 3 + 1))))]
  unfold f_X5_readable_108
  rw [le1_e, fl_and]
  have r1 := h_r114 (c := c) (f := (decide (tk1 T 0 2 0 ≤ 999) && decide (tk1 T 2 3 0 ≤ 99999)) && decide (tk1 T 5 1 0 ≤ 100)) t hc h0 hnp (by omega) (cP C) 0 5000 (by omega) (by omega)
  have r2 := h_r153 (c := c) (o := 6 + 2 * cP C) (f := gPo T ((decide (tk1 T 0 2 0 ≤ 999) && decide (tk1 T 2 3 0 ≤ 99999)) && decide (tk1 T 5 1 0 ≤ 100)) (cP C)) t hc h1 hnt (by omega) (cT C) 0 5000 (by omega) (by omega)
  have r3 := h_r214 (c := c) (o := 6 + 2 * cP C + 4 * cT C) (f := gT T (6 + 2 * cP C) (gPo T ((decide (tk1 T 0 2 0 ≤ 999) && decide (tk1 T 2 3 0 ≤ 99999)) && decide (tk1 T 5 1 0 ≤ 100)) (cP C)) (cT C)) t hc h2 hnw (by omega) (cW C) 0 5000 (by omega) (by omega)
  exact ⟨_, (r1.trans (r2.trans r3)), Or.inr ⟨_, rfl⟩⟩
/-- the state that an image tells -/
def zI (C : Cr) (T : Tp) (z : Nat → Nat) (a b d e : Nat) (k : Nat) : Nat := if k = 0 ∧ 0 < a then tk1 T 0 2 0 else if k = 1 ∧ 1 < a then tk1 T 2 3 0 else if k = 2 ∧ 2 < a then tk1 T 5 1 0 else if 3 ≤ k ∧ k < 3 + b then tk1 T (6 + 2 * (k - 3)) 2 0 else if 9 ≤ k ∧ k < 9 + d then tk1 T (6 + 2 * cP C + 4 * (k - 9)) 2 0 else if 15 ≤ k ∧ k < 15 + d then tk1 T (6 + 2 * cP C + 4 * (k - 15) + 2) 2 0 else if 21 ≤ k ∧ k < 21 + e then tk1 T (6 + 2 * cP C + 4 * cT C + (k - 21)) 1 0 else z k
abbrev fO (b : Nat) : Prop := b = 90 ∨ (1200 ≤ b ∧ b ≤ 1204)
theorem h_pos {S : Hp} {j : Nat} (h : S.1 90 2 = nI j) : ho_sI S 90 2 (nI j) = S := by
  rw [← h]
  have e : ∀ b, (ho_sI S 90 2 (S.1 90 2)).1 b = S.1 b := fun b => by
    by_cases q : b = 90
    · subst q
      funext k
      by_cases r : k = 2
      · subst r; rw [sI_v]
      · rw [sI_k r]
    · rw [sI_ne _ q]
  exact Prod.ext (funext e) rfl
theorem h_tkP {S : Hp} {T : Tp} (t : tZ S T) {i n : Nat} (hn : n ≤ 3) (hi : i + n ≤ T.2) (h : S.1 90 2 = nI i) : f_X5_take (nI n) S = some (nI (tk1 T i n 0), ho_sI S 90 2 (nI (i + n))) := by
  have := h_takN t (i := i) hn hi
  rw [h_pos h] at this
  exact this
theorem tZ_o {S S' : Hp} {T : Tp} (t : tZ S T) (hf : fH fO S S') : tZ S' T := ⟨t.1, by rw [hf.1 10 (fun q => by rcases q with q | q <;> omega)]; exact t.2.1, by rw [hf.1 11 (fun q => by rcases q with q | q <;> omega)]; exact t.2.2.1, by rw [hf.1 12 (fun q => by rcases q with q | q <;> omega)]; exact t.2.2.2⟩
/-- storing one value of a state that is read -/
theorem h_st1 {S : Hp} {T : Tp} {C : Cr} {z z' : Nat → Nat} {x k i n : Nat} {a p : Nat} (t : tZ S T) (hs : stH S 1200 C z) (hn : n ≤ 3) (hi : i + n ≤ T.2) (h : S.1 90 2 = nI i) (ha : a = 1200 + x) (hx : x = 1 ∨ x = 2 ∨ x = 3) (hp : p < 6) (hk : k = 6 * x - 3 + p) (hz' : zup z k (tk1 T i n 0) = z') : stH (ho_sI (ho_sI S 90 2 (nI (i + n))) a p (nI (tk1 T i n 0))) 1200 C z' ∧ fH fO S (ho_sI (ho_sI S 90 2 (nI (i + n))) a p (nI (tk1 T i n 0))) ∧ (ho_sI (ho_sI S 90 2 (nI (i + n))) a p (nI (tk1 T i n 0))).1 90 2 = nI (i + n) := by
  subst ha
  have f1 : fH (fun b => b = 90) S (ho_sI S 90 2 (nI (i + n))) := fH_sI S rfl (by decide)
  have s1 := stH_f hs f1 (fun b q => by omega)
  have := stH_r (x := x) (t := p) (v := tk1 T i n 0) s1 hx hp
  rw [← hk, hz'] at this
  exact ⟨this, fH_tr (fH_mo f1 (fun b q => Or.inl q)) (fH_sI _ (Or.inr (by omega)) (by omega)), by rw [sI_ne _ (by omega), sI_v]⟩

/-- the words' numbers of a sum's parts, in the class -/
def wrd (k : Nat) : Nat := [8, 16, 17, 10, 11, 6, 14, 18, 19, 20, 21].getD k 0
/-- a code of the reference, as the class has it -/
def hcd (c : Nat) : Nat := if 1000 ≤ c then c - 1000 else if 60 ≤ c then 10112 else if 40 ≤ c then 10000 + wrd (c - 40) else [0, 10100, 10101, 10102, 10103, 10104, 10105, 10108, 10109, 10110, 10106, 10107, 10111, 1].getD c 0
def bo (a : Int) : Prop := a = 0 ∨ a = 1
theorem fdv_clip {a b : Int} (ha : inM a) : clip (fdv a b) = fdv a b := by
  have h := fdv_in (b := b) ha.1 ha.2
  unfold clip
  rw [if_pos h.2, if_pos h.1]
theorem clip_id {a : Int} (h : inM a) : clip a = a := by
  unfold clip
  rw [if_pos h.2, if_pos h.1]
theorem h_join {β : Type} {a b : Int} {c : Nat} {S : Hp} {K : Int32 → Hp → Option β} (ha : inM a) (hb : inM b) (hc : 1 ≤ c ∧ c < 12) (hbo : 10 ≤ c → bo a ∧ bo b) :
    ob2 (f_X4_joined (nI (hcd c)) (LL a) (LL b) S) (fun r6 S6 => ob2 (f_X4_bounded r6 S6) K) = K (iI (opv c a b)) S := by
  obtain ⟨a1, a2⟩ := id ha
  obtain ⟨b1, b2⟩ := id hb
  have hm := mul_in ha hb
  have k0 : (0 : Int64) = LL 0 := by decide
  have k1 : (1 : Int64) = LL 1 := by decide
  have ab_ge : (0 ≤ lg_cmp (LL a) (LL b)) ↔ b ≤ a := c_ge (by omega) (by omega) (by omega) (by omega)
  have ab_le : (lg_cmp (LL a) (LL b) ≤ 0) ↔ a ≤ b := c_le (by omega) (by omega) (by omega) (by omega)
  have ab_eq : (lg_cmp (LL a) (LL b) = 0) ↔ a = b := c_eq (by omega) (by omega) (by omega) (by omega)
  have b0 : (lg_cmp (LL b) (LL 0) = 0) ↔ b = 0 := c_eq (by omega) (by omega) (by decide) (by decide)
  have bnd : ∀ v : Int, -2 ^ 61 ≤ v → v ≤ 2 ^ 61 → ob2 (f_X4_bounded (LL v) S) K = K (iI (clip v)) S := fun v h1 h2 => by rw [h_bnd h1 h2, ob2_s]
  have hcase : c = 1 ∨ c = 2 ∨ c = 3 ∨ c = 4 ∨ c = 5 ∨ c = 6 ∨ c = 7 ∨ c = 8 ∨ c = 9 ∨ c = 10 ∨ c = 11 := by omega
  unfold f_X4_joined
  rcases hcase with rfl | rfl | rfl | rfl | rfl | rfl | rfl | rfl | rfl | rfl | rfl
  · rw [if_pos (by decide), ob2_s, show LL a + LL b = LL (a + b) from (Int64.ofInt_add a b).symm, bnd _ (by omega) (by omega)]
    rfl
  · rw [if_neg (by decide), if_pos (by decide), ob2_s, show LL a - LL b = LL (a - b) from (Int64.ofInt_sub a b).symm, bnd _ (by omega) (by omega)]
    rfl
  · rw [if_neg (by decide), if_neg (by decide), if_pos (by decide), ob2_s, show LL a * LL b = LL (a * b) from (Int64.ofInt_mul a b).symm, bnd _ (by omega) (by omega)]
    rfl
  · rw [if_neg (by decide), if_neg (by decide), if_neg (by decide), if_pos (by decide), k0]
    have e : opv 4 a b = fdv a b := rfl
    rw [e]
    by_cases g : b = 0
    · rw [if_pos (b0.mpr g), ob2_s, bnd 0 (by decide) (by decide)]
      unfold fdv
      rw [if_pos g]
      rfl
    · rw [if_neg (fun q => g (b0.mp q)), h_fd ha hb g, ob2_s, ob2_s]
      have hf := fdv_in (b := b) a1 a2
      have hcl := fdv_clip (b := b) ha
      unfold fdv at hf hcl ⊢
      rw [if_neg g] at hf hcl ⊢
      rw [bnd _ (by omega) (by omega), hcl]
  · rw [if_neg (by decide), if_neg (by decide), if_neg (by decide), if_neg (by decide), if_pos (by decide), h_min (by omega) (by omega) (by omega) (by omega), ob2_s, ob2_s]
    have e : opv 5 a b = (if b < a then b else a) := by
      show (if b ≤ a then b else a) = _
      split <;> split <;> omega
    have hi : inM (if b < a then b else a) := by split <;> assumption
    rw [bnd _ (by have := hi.1; omega) (by have := hi.2; omega), e, clip_id hi]
  · rw [if_neg (by decide), if_neg (by decide), if_neg (by decide), if_neg (by decide), if_neg (by decide), if_pos (by decide), h_max (by omega) (by omega) (by omega) (by omega), ob2_s, ob2_s]
    have e : opv 6 a b = (if a < b then b else a) := by
      show (if a ≤ b then b else a) = _
      split <;> split <;> omega
    have hi : inM (if a < b then b else a) := by split <;> assumption
    rw [bnd _ (by have := hi.1; omega) (by have := hi.2; omega), e, clip_id hi]
  · rw [if_neg (by decide), if_neg (by decide), if_neg (by decide), if_neg (by decide), if_neg (by decide), if_neg (by decide), if_neg (by decide), if_neg (by decide), if_pos (by decide), k0, k1]
    have e : opv 7 a b = (if b ≤ a then 0 else 1) := rfl
    rw [e]
    by_cases g : b ≤ a
    · rw [if_pos (ab_ge.mpr g), ob2_s, if_pos g, bnd _ (by decide) (by decide)]; rfl
    · rw [if_neg (fun q => g (ab_ge.mp q)), ob2_s, if_neg g, bnd _ (by decide) (by decide)]; rfl
  · rw [if_neg (by decide), if_neg (by decide), if_neg (by decide), if_neg (by decide), if_neg (by decide), if_neg (by decide), if_neg (by decide), if_neg (by decide), if_neg (by decide), if_pos (by decide), k0, k1]
    have e : opv 8 a b = (if a ≤ b then 0 else 1) := rfl
    rw [e]
    by_cases g : a ≤ b
    · rw [if_pos (ab_le.mpr g), ob2_s, if_pos g, bnd _ (by decide) (by decide)]; rfl
    · rw [if_neg (fun q => g (ab_le.mp q)), ob2_s, if_neg g, bnd _ (by decide) (by decide)]; rfl
  · rw [if_neg (by decide), if_neg (by decide), if_neg (by decide), if_neg (by decide), if_neg (by decide), if_neg (by decide), if_neg (by decide), if_neg (by decide), if_neg (by decide), if_neg (by decide), k0, k1]
    have e : opv 9 a b = (if a = b then 1 else 0) := rfl
    rw [e]
    by_cases g : a = b
    · rw [if_pos (ab_eq.mpr g), ob2_s, if_pos g, bnd _ (by decide) (by decide)]; rfl
    · rw [if_neg (fun q => g (ab_eq.mp q)), ob2_s, if_neg g, bnd _ (by decide) (by decide)]; rfl
  · obtain ⟨ba, bb⟩ := hbo (by decide)
    rw [if_neg (by decide), if_neg (by decide), if_neg (by decide), if_neg (by decide), if_neg (by decide), if_neg (by decide), if_pos (by decide), ob2_s]
    have e : LL a &&& LL b = LL (opv 10 a b) := by rcases ba with rfl | rfl <;> rcases bb with rfl | rfl <;> decide
    have hi : inM (opv 10 a b) := by unfold inM; rcases ba with rfl | rfl <;> rcases bb with rfl | rfl <;> decide
    rw [e, bnd _ (by have := hi.1; omega) (by have := hi.2; omega), clip_id hi]
  · obtain ⟨ba, bb⟩ := hbo (by decide)
    rw [if_neg (by decide), if_neg (by decide), if_neg (by decide), if_neg (by decide), if_neg (by decide), if_neg (by decide), if_neg (by decide), if_pos (by decide), ob2_s]
    have e : LL a ||| LL b = LL (opv 11 a b) := by rcases ba with rfl | rfl <;> rcases bb with rfl | rfl <;> decide
    have hi : inM (opv 11 a b) := by unfold inM; rcases ba with rfl | rfl <;> rcases bb with rfl | rfl <;> decide
    rw [e, bnd _ (by have := hi.1; omega) (by have := hi.2; omega), clip_id hi]

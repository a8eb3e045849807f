/-! level 2: the class's crown and states, seen as plain numbers; glimpses -/
theorem sI_ne (S : Hp) {a b k : Nat} {v : Int32} (h : b ≠ a) : (ho_sI S a k v).1 b = S.1 b := if_neg h
theorem sI_at (S : Hp) {a k : Nat} {v : Int32} : (ho_sI S a k v).1 a = upd (S.1 a) k v := if_pos rfl
theorem sI_sA (S : Hp) {a k : Nat} {v : Int32} {g : Nat → Int32} : ho_sI (ho_sA S a g) a k v = ho_sA S a (upd g k v) := by rw [sI_A, sA_A, sA_at]
theorem sI_sI (S : Hp) {a k : Nat} {v : Int32} : ho_sI S a k v = ho_sA S a (upd (S.1 a) k v) := rfl
def fcG (S : Hp) (w : Nat) : Prop := ∀ j, j < 40 → inM (S.1 w j).toInt
/-- all cells but those that P names are as they were -/
def fH (P : Nat → Prop) (S S' : Hp) : Prop := (∀ b, ¬ P b → S'.1 b = S.1 b) ∧ S'.2 = S.2 ∧ (fcG S 53 → fcG S' 53)
theorem fH_rf (P : Nat → Prop) (S : Hp) : fH P S S := ⟨fun _ _ => rfl, rfl, id⟩
theorem fH_tr {P : Nat → Prop} {S S1 S2 : Hp} (h1 : fH P S S1) (h2 : fH P S1 S2) : fH P S S2 := ⟨fun b hb => (h2.1 b hb).trans (h1.1 b hb), h2.2.1.trans h1.2.1, fun q => h2.2.2 (h1.2.2 q)⟩
theorem fH_mo {P Q : Nat → Prop} {S S' : Hp} (h : fH P S S') (hq : ∀ b, P b → Q b) : fH Q S S' := ⟨fun b hb => h.1 b (fun q => hb (hq b q)), h.2⟩
theorem fH_sA {P : Nat → Prop} (S : Hp) {a : Nat} {g : Nat → Int32} (hp : P a) (h53 : a ≠ 53) : fH P S (ho_sA S a g) := ⟨fun b hb => sA_ne _ _ (fun q => hb (q ▸ hp)), rfl, fun q j hj => by rw [sA_ne _ _ (Ne.symm h53)]; exact q j hj⟩
theorem fH_sI {P : Nat → Prop} (S : Hp) {a k : Nat} {v : Int32} (hp : P a) (h53 : a ≠ 53) : fH P S (ho_sI S a k v) := fH_sA S hp h53
theorem fcG_u {g : Nat → Int32} {k : Nat} {v : Int32} (h : ∀ j, j < 40 → inM (g j).toInt) (hv : inM v.toInt) : ∀ j, j < 40 → inM (upd g k v j).toInt := by
  intro j hj
  by_cases e : j = k
  · subst e
    rw [pk_us]
    exact hv
  · rw [pk_un e]
    exact h j hj
theorem inM_n {n : Nat} (h : n ≤ 1000000) : inM (nI n).toInt := by
  rw [nI_toInt (by omega)]
  unfold inM
  omega
def cH (S : Hp) (c : Nat) (C : Cr) : Prop :=
  (S.2.2 50 0 = c ∧ c ∈ yH.1 ∧ yH.2.1 c = (1, 2)) ∧ (S.1 (c + 1) 0 = nI (cP C) ∧ S.1 (c + 1) 1 = nI (cT C) ∧ S.1 (c + 1) 2 = nI (cW C)) ∧ (S.1 c 0 = nI (cR C 0 0) ∧ S.1 c 2 = nI (cR C 0 1) ∧ S.1 c 4 = nI (cR C 0 2)) ∧ (∀ p, p < cP C → S.1 (c + 7) p = nI (cR C 1 p)) ∧ (∀ t, t < cT C → S.1 (c + 8) t = nI (cR C 2 t) ∧ S.1 (c + 9) t = nI (cR C 3 t) ∧ S.1 (c + 10) t = nI (cR C 4 t)) ∧ (∀ w, w < cW C → S.1 (c + 12) w = nI (cR C 5 w)) ∧ codH S (c + 13) (cS C) ∧ codH S (c + 16) (cL C) ∧ fcG S 53
theorem cH_c {S : Hp} {c : Nat} {C : Cr} (h : cH S c C) : c = 100 ∨ c = 150 := c2H h.1.2
/-- the cells that a crown's contents lie in -/
def crC (c b : Nat) : Prop := (c ≤ b ∧ b ≤ c + 18 ∧ b ≠ c + 15 ∧ b ≠ c + 18)
theorem cH_f {P : Nat → Prop} {S S' : Hp} {c : Nat} {C : Cr} (h : cH S c C) (hf : fH P S S') (hp : ∀ b, P b → ¬ crC c b) : cH S' c C := by
  obtain ⟨f1, f2, f3⟩ := hf
  have e : ∀ x, x ≠ 15 → x < 18 → S'.1 (c + x) = S.1 (c + x) := fun x h1 h2 => f1 _ (fun q => hp _ q (by unfold crC; omega))
  obtain ⟨⟨h0, h0'⟩, h1, h2, h3, h4, h5, h6, h7, h8⟩ := h
  have cod : ∀ (a : Nat) (cs : List Nat), (S'.1 a = S.1 a) → S'.1 (a + 1) = S.1 (a + 1) → codH S a cs → codH S' a cs := by
    intro a cs e1 e2 q
    unfold codH at q ⊢
    rw [e1, e2]
    exact q
  refine ⟨⟨by rw [f2]; exact h0, h0'⟩, ?_, ?_, ?_, ?_, ?_, cod _ _ (e 13 (by decide) (by decide)) (e 14 (by decide) (by decide)) h6, cod _ _ (e 16 (by decide) (by decide)) (e 17 (by decide) (by decide)) h7, f3 h8⟩
  · rw [e 1 (by decide) (by decide)]; exact h1
  · have := e 0 (by decide) (by decide)
    rw [Nat.add_zero] at this
    rw [this]; exact h2
  · rw [e 7 (by decide) (by decide)]; exact h3
  · rw [e 8 (by decide) (by decide), e 9 (by decide) (by decide), e 10 (by decide) (by decide)]; exact h4
  · rw [e 12 (by decide) (by decide)]; exact h5
def stH (S : Hp) (a : Nat) (C : Cr) (z : Nat → Nat) : Prop :=
  (a ∈ yH.1 ∧ yH.2.1 a = (1, 9)) ∧ (S.1 a 0 = nI (z 0) ∧ S.1 a 1 = nI (z 1) ∧ S.1 a 2 = nI (z 2)) ∧ (∀ p, p < 6 → S.1 (a + 1) p = nI (z (3 + p)) ∧ S.1 (a + 2) p = nI (z (9 + p)) ∧ S.1 (a + 3) p = nI (z (15 + p))) ∧ ∀ w, w < cW C → S.1 (a + 4) w = nI (z (21 + w))
theorem stH_a {S : Hp} {a : Nat} {C : Cr} {z : Nat → Nat} (h : stH S a C z) : 1000 ≤ a ∧ a < 1260 ∧ a % 10 = 0 := c9H h.1
theorem stH_f {P : Nat → Prop} {S S' : Hp} {a : Nat} {C : Cr} {z : Nat → Nat} (h : stH S a C z) (hf : fH P S S') (hp : ∀ b, P b → ¬ (a ≤ b ∧ b ≤ a + 4)) : stH S' a C z := by
  obtain ⟨f1, -, -⟩ := hf
  have e : ∀ x, x < 5 → S'.1 (a + x) = S.1 (a + x) := fun x h1 => f1 _ (fun q => hp _ q ⟨by omega, by omega⟩)
  have e0 := e 0 (by decide)
  rw [Nat.add_zero] at e0
  obtain ⟨h0, h1, h2, h3⟩ := h
  unfold stH
  rw [e0, e 1 (by decide), e 2 (by decide), e 3 (by decide), e 4 (by decide)]
  exact ⟨h0, h1, h2, h3⟩
/-- what reckoning writes -/
def scE (c b : Nat) : Prop := b = 53 ∨ b = c + 15 ∨ b = c + 18
theorem scE_c {c b : Nat} (hc : c = 100 ∨ c = 150) (h : scE c b) : ¬ crC c b := by
  unfold scE at h
  unfold crC
  omega
theorem scE_a {c a b : Nat} (hc : c = 100 ∨ c = 150) (ha : 1000 ≤ a) (h : scE c b) : ¬ (a ≤ b ∧ b ≤ a + 4) := by
  unfold scE at h
  omega
theorem cH_e {S S' : Hp} {c : Nat} {C : Cr} (h : cH S c C) (hf : fH (scE c) S S') : cH S' c C := cH_f h hf (fun _ q => scE_c (cH_c h) q)
theorem stH_e {S S' : Hp} {c a : Nat} {C : Cr} {z : Nat → Nat} (h0 : cH S c C) (h : stH S a C z) (hf : fH (scE c) S S') : stH S' a C z := stH_f h hf (fun _ q => scE_a (cH_c h0) (stH_a h).1 q)
theorem codH_A {S : Hp} {a b : Nat} {g : Nat → Int32} {cs : List Nat} (h : codH S a cs) (h1 : a ≠ b) (h2 : a + 1 ≠ b) : codH (ho_sA S b g) a cs := by
  unfold codH at h ⊢
  rw [sA_ne _ _ h1, sA_ne _ _ h2]
  exact h
/-- a sum of a crown reckoned in a row of facts -/
theorem h_sum {S : Hp} {c x w : Nat} {cs : List Nat} {g : Nat → Int32} {pf' : Nat → Int} (hc : c = 100 ∨ c = 150) (hx : x = 13 ∨ x = 16) (hcd : codH S (c + x) cs) (hok : okF w cs) (hg : ∀ j, j < 40 → inM (g j).toInt) (he : ∀ k, k < 3 ∨ (w = 0 ∧ k < 5) ∨ (w = 1 ∧ 5 ≤ k ∧ k < 7) → (g (wrd k)).toInt = pf' k) :
    ∃ g', f_X4_value (c + x) 53 40 (ho_sA S 53 g) = some (iI (vl pf' cs), ho_sA (ho_sA S 53 g) (c + x + 2) g') ∧ inM (vl pf' cs) := by
  have hp : ∀ k, pfH (ho_sA S 53 g) 53 k = (g (wrd k)).toInt := fun k => by unfold pfH; rw [sA_at]
  have hi : ∀ k, inM (pfH (ho_sA S 53 g) 53 k) := fun k => by rw [hp]; exact hg _ (wrd_lt k)
  have hq : ∀ y, inM (qfH (ho_sA S 53 g) 53 y) := by
    intro y
    unfold qfH
    rw [sA_at]
    by_cases q : 0 ≤ y ∧ y < 5
    · rw [if_pos q]
      exact hg _ (by omega)
    · rw [if_neg q]
      unfold inM
      omega
  obtain ⟨v1, v2⟩ := vl_ok (pf' := pf') (qf := qfH (ho_sA S 53 g) 53) hok hi (fun k hk => by rw [hp]; exact he k hk)
  obtain ⟨g', r⟩ := h_val (S := ho_sA S 53 g) (a := c + x) (w := 53) (by omega) (codH_A hcd (by omega) (by omega)) hi hq v1
  exact ⟨g', r, v2⟩
theorem h_gl {S : Hp} {c a t w seat : Nat} {C : Cr} {z : Nat → Nat} (hC : okCr C) (hz : okZ C z) (h : cH S c C) (hs : stH S a C z) (ht : t < cT C) (hw : w < cW C) (hse : seat ≤ 9) :
    ∃ S', f_X8_glimpse a (nI t) (nI w) (nI seat) S = some (nI (sg C z t w seat), S') ∧ fH (scE c) S S' := by
  have hcc := cH_c h
  obtain ⟨ha1, ha2, ha3⟩ := stH_a hs
  have h' := h
  obtain ⟨⟨h0, h0'⟩, h1, h2, h3, h4, h5, h6, h7, h8⟩ := h'
  have hs' := hs
  obtain ⟨s0, s1, s2, s3⟩ := hs'
  have hnt : cT C ≤ 6 := hC.1.2.1
  have hnw : cW C ≤ 5 := hC.1.2.2
  obtain ⟨t1, t2, t3⟩ := h4 t ht
  have hti := s2 t (by omega)
  have ec : ∀ (x : Nat) (g : Nat → Int32), (ho_sA S 53 g).1 (c + x) = S.1 (c + x) := fun x g => sA_ne _ _ (by omega)
  have ea : ∀ (x : Nat) (g : Nat → Int32), (ho_sA S 53 g).1 (a + x) = S.1 (a + x) := fun x g => sA_ne _ _ (by omega)
  have ea0 : ∀ (g : Nat → Int32), (ho_sA S 53 g).1 a = S.1 a := fun g => sA_ne _ _ (by omega)
  have hp : ∀ g, (ho_sA S 53 g).2.2 50 0 = c := fun g => h0
  obtain ⟨c1, c2, c3, c4, c5, c6, -⟩ := hC
  obtain ⟨k1, k2, k3⟩ := c4 t ht
  have k5 := c5 w hw
  obtain ⟨z0, z1, z2, z3, z4, z5, z6, -⟩ := hz
  have z4t := z4 t (by omega)
  unfold f_X8_glimpse
  rw [ldP_n h0 h0', ldI_n (by omega) (by decide), t3, stI_L 8 (by decide) (by decide), sI_sI, ldI_n (by omega) (by decide), ea, hti.2.1, stI_L 16 (by decide) (by decide), sI_sA, stI_L 17 (by decide) (by decide), ea0, s1.1, sI_sA, stI_L 10 (by decide) (by decide), sI_sA, ldP_n (hp _) h0', ldI_n (by omega) (by decide), ec, h5 w hw, stI_L 11 (by decide) (by decide), sI_sA, ldP_n (hp _) h0']
  have hg : ∀ j, j < 40 → inM (upd (upd (upd (upd (upd (S.1 53) 8 (nI (cR C 4 t))) 16 (nI (z (9 + t)))) 17 (nI (z 0))) 10 (nI seat)) 11 (nI (cR C 5 w)) j).toInt := fcG_u (fcG_u (fcG_u (fcG_u (fcG_u h8 (inM_n (by omega))) (inM_n (by omega))) (inM_n (by omega))) (inM_n (by omega))) (inM_n (by omega))
  obtain ⟨g', r1, r2⟩ := h_sum (w := 0) (pf' := fct C z t w seat) hcc (Or.inl rfl) h6 c6 hg (by
    intro k hk
    have hk5 : k = 0 ∨ k = 1 ∨ k = 2 ∨ k = 3 ∨ k = 4 := by omega
    unfold fct
    rcases hk5 with rfl | rfl | rfl | rfl | rfl
    · exact nI_toInt (n := cR C 4 t) (by omega)
    · exact nI_toInt (n := z (9 + t)) (by omega)
    · exact nI_toInt (n := z 0) (by omega)
    · exact nI_toInt (n := seat) (by omega)
    · exact nI_toInt (n := cR C 5 w) (by omega))
  rw [r1, ob2_s, h_99 r2, c99_n]
  refine ⟨_, rfl, fun b hb => ?_, rfl, fun _ j hj => ?_⟩
  · rw [sA_ne _ _ (fun q => hb (by unfold scE; omega)), sA_ne _ _ (fun q => hb (by unfold scE; omega))]
  · rw [sA_ne _ _ (by omega), sA_at]
    exact hg j hj

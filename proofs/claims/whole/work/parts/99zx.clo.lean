/-! level 3: what the constructors make, computed; its cells under the numbers of the walk -/
def dD0 (c : Nat) : Dp := (1, fun _ => (1, c), fun _ _ => 0, fun _ _ => 0, fun _ _ => none)
def zoT : List Nat := [0, 115, 114, 0, 0, 0, 0, 0, 0, 0, 1, 2, 3, 0, 0, 0, 0, 0, 0, 0, 42, 0, 0, 0, 0, 43, 0, 0, 0, 0, 44, 0, 0, 48, 0, 49, 0, 0, 0, 0, 45, 46, 47, 0, 0, 0, 0, 0, 0, 0, 50, 51, 52, 53, 54, 0, 0, 0, 0, 0, 55, 56, 57, 58, 59, 60, 85, 86, 87, 88, 89, 90, 91, 92, 93, 94, 95, 96, 97, 98, 99, 0, 0, 0, 0, 0, 0, 0, 0, 0, 100, 101, 0, 0, 0, 0, 0, 0, 0, 0, 4, 5, 6, 7, 8, 9, 10, 11, 12, 13, 14, 15, 16, 17, 18, 19, 20, 21, 22, 0, 0, 0, 0, 0, 0, 0, 0, 0, 0, 0, 0, 0, 0, 0, 0, 0, 0, 0, 0, 0, 0, 0, 0, 0, 0, 0, 0, 0, 0, 0, 23, 24, 25, 26, 27, 28, 29, 30, 31, 32, 33, 34, 35, 36, 37, 38, 39, 40, 41, 0]
def zoS : List Nat := [116, 122, 128, 134, 140, 146, 152, 158, 164, 170, 176, 182, 188, 194, 200, 206, 212, 218, 224, 230, 102, 108, 61, 67, 73, 79]
def zoM : List Nat := [0, 1, 0, 0, 0, 0, 0, 0, 0, 0, 2, 3, 4, 5, 6, 7, 8, 9, 10, 11, 12, 13, 14, 15, 16, 17, 18, 19, 20, 21, 22, 23, 24, 25, 26, 27, 28, 29, 30, 31, 0, 32, 33, 34, 35, 36, 37, 38, 39, 40, 41, 0, 0, 0, 0, 42, 43, 0, 0, 44, 45, 46, 47, 0, 0, 0, 48, 0, 49, 50, 51, 0, 52, 0, 0, 0, 53, 54, 55, 56, 57, 58, 59, 60, 61, 62, 63, 64, 65, 66, 67, 68, 69, 70, 71, 72, 73, 74, 75, 76, 77, 0, 78, 0, 0, 0, 79, 0, 0, 0, 80, 0]
def posH : List Nat := [0, 3, 4, 5, 42, 43, 44, 45, 46, 47, 48, 49, 50, 51, 52, 53, 54, 55, 56, 57, 58, 59, 60, 61, 62, 63, 64, 65, 66, 67, 68, 69, 70, 71, 72, 73, 74, 75, 76, 77, 78, 79, 6, 7, 8, 11, 12, 13, 9, 10, 14, 15, 16, 17, 18, 19, 20, 21, 22, 23, 24, 212, 213, 214, 215, 216, 217, 218, 219, 220, 221, 222, 223, 224, 225, 226, 227, 228, 229, 230, 231, 232, 233, 234, 235, 25, 26, 27, 28, 29, 30, 31, 32, 33, 34, 35, 36, 37, 38, 39, 40, 41, 200, 201, 202, 203, 204, 205, 206, 207, 208, 209, 210, 211, 2, 1, 80, 81, 82, 83, 84, 85, 86, 87, 88, 89, 90, 91, 92, 93, 94, 95, 96, 97, 98, 99, 100, 101, 102, 103, 104, 105, 106, 107, 108, 109, 110, 111, 112, 113, 114, 115, 116, 117, 118, 119, 120, 121, 122, 123, 124, 125, 126, 127, 128, 129, 130, 131, 132, 133, 134, 135, 136, 137, 138, 139, 140, 141, 142, 143, 144, 145, 146, 147, 148, 149, 150, 151, 152, 153, 154, 155, 156, 157, 158, 159, 160, 161, 162, 163, 164, 165, 166, 167, 168, 169, 170, 171, 172, 173, 174, 175, 176, 177, 178, 179, 180, 181, 182, 183, 184, 185, 186, 187, 188, 189, 190, 191, 192, 193, 194, 195, 196, 197, 198, 199]
def posM : List Nat := [0, 1, 2, 3, 4, 5, 6, 7, 8, 9, 10, 11, 12, 13, 14, 15, 16, 17, 18, 19, 20, 21, 22, 23, 24, 25, 26, 27, 28, 29, 30, 31, 32, 33, 34, 35, 36, 37, 38, 39, 40, 41, 42, 43, 44, 45, 46, 47, 48, 49, 50, 51, 52, 53, 54, 55, 56, 57, 58, 59, 60, 61, 62, 63, 64, 65, 66, 67, 68, 69, 70, 71, 72, 73, 74, 75, 76, 77, 78, 79, 80]
def ordH (a : Nat) : Nat := if a < 1000 then zoT.getD a 0 else zoS.getD ((a - 1000) / 10) 0 + a % 10
def ordM (a : Nat) : Nat := zoM.getD a 0
def p3H (a k : Nat) : Nat := if a = 0 then (if k = 1 then 100 else 150) else if a = 50 then 100 else if a = 20 then 150 else if a = 25 then 163 else 40
def hpO (ord : Nat → Nat) (p3 : Nat → Nat → Nat) (r : Dp) : Hp := (fun a => r.2.2.1 (ord a), fun a => r.2.2.2.1 (ord a), p3)
def zoeq (o : Option Nat) (x : Nat) : Bool := match o with
  | none => false
  | some y => Nat.beq y x
def zokK (Y : Sy) (ord : Nat → Nat) (p3 : Nat → Nat → Nat) (r : Dp) (a c k : Nat) : Bool :=
  if Y.2.2.1 c k = 0 then Nat.beq (dy_k c k) 0 else if Y.2.2.1 c k = 1 then Nat.beq (dy_k c k) 1 else if Y.2.2.1 c k = 2 then Nat.beq (dy_k c k) 2 && zoeq (r.2.2.2.2 (ord a) k) (ord (Y.2.2.2.1 a k)) else Nat.beq (dy_k c k) 2 && zoeq (r.2.2.2.2 (ord a) k) (ord (p3 a k))
def zokC (Y : Sy) (ord : Nat → Nat) (p3 : Nat → Nat → Nat) (r : Dp) (a : Nat) : Bool :=
  Nat.ble (ord a + 1) r.1 && (Nat.beq (r.2.1 (ord a)).1 (Y.2.1 a).1 && (Nat.beq (r.2.1 (ord a)).2 (Y.2.1 a).2 && (if (Y.2.1 a).1 = 1 then Nat.beq (Y.2.2.2.2.2 (Y.2.1 a).2) (dnf.getD (Y.2.1 a).2 0) && (List.range (dnf.getD (Y.2.1 a).2 0)).all (zokK Y ord p3 r a (Y.2.1 a).2) else if 7 ≤ (Y.2.1 a).1 then (List.range (Y.2.1 a).2).all (fun i => zoeq (r.2.2.2.2 (ord a) i) (ord (Y.2.2.2.2.1 a i))) else true)))
def zokPs (ord : Nat → Nat) (pos : List Nat) : Nat → List Nat → Bool
  | _, [] => true
  | i, a :: l => Nat.beq (pos.getD (ord a) 0) i && zokPs ord pos (i + 1) l
theorem zoeq_ok {o : Option Nat} {x : Nat} (h : zoeq o x = true) : o = some x := by
  cases o with
  | none => cases h
  | some y => exact congrArg some (Nat.eq_of_beq_eq_true h)
theorem zokPs_ok {ord : Nat → Nat} {pos : List Nat} : ∀ (l : List Nat) (i : Nat), zokPs ord pos i l = true → ∀ (j a : Nat), l[j]? = some a → pos.getD (ord a) 0 = i + j
  | [], _, _, j, a, hj => by cases hj
  | b :: l, i, h, j, a, hj => by
    obtain ⟨h1, h2⟩ := (Bool.and_eq_true _ _).mp h
    cases j with
    | zero => cases hj; exact Nat.eq_of_beq_eq_true h1
    | succ j => rw [zokPs_ok l (i + 1) h2 j a hj]; omega
theorem arrV_ext {cA : ClassId} {n : Nat} {f g : Nat → Value} (h : ∀ i, i < n → f i = g i) : arrV cA n f = arrV cA n g := by
  have e : (fun j : Fin n => f j.val) = fun j : Fin n => g j.val := funext fun j => h j.val j.isLt
  unfold arrV
  rw [e]
theorem dy_ho {Y : Sy} {ord : Nat → Nat} {p3 : Nat → Nat → Nat} {r : Dp} {B : Nat} {E : Ev} {H : Heap} (hc : ∀ a ∈ Y.1, zokC Y ord p3 r a = true) (hS : ∀ a ∈ Y.1, 1 ≤ (Y.2.1 a).1) (h : va_P E.1 vwCl (dy_w B E r) H) : va_P E.1 vwCl (ho_w Y (E.1, (fun a => B + ord a), E.2.2) (hpO ord p3 r)) H := by
  intro k q hq
  unfold ho_w at hq
  rw [List.getElem?_map] at hq
  cases ha : Y.1[k]? with
  | none => rw [ha] at hq; cases hq
  | some a =>
    rw [ha] at hq
    cases hq
    have h1 := hc a (List.mem_of_getElem? ha)
    unfold zokC at h1
    obtain ⟨hlt, h1⟩ := (Bool.and_eq_true _ _).mp h1
    obtain ⟨hs1, h1⟩ := (Bool.and_eq_true _ _).mp h1
    obtain ⟨hs2, h1⟩ := (Bool.and_eq_true _ _).mp h1
    have hl : ord a < r.1 := Nat.le_of_ble_eq_true hlt
    have e1 : (r.2.1 (ord a)).1 = (Y.2.1 a).1 := Nat.eq_of_beq_eq_true hs1
    have e2 : (r.2.1 (ord a)).2 = (Y.2.1 a).2 := Nat.eq_of_beq_eq_true hs2
    have hat := h _ _ (dy_at (B := B) (E := E) hl)
    show va_at E.1 vwCl (B + ord a, ho_c Y (E.1, (fun a => B + ord a), E.2.2) (hpO ord p3 r) a) H
    unfold dy_c at hat
    rw [e1, e2] at hat
    unfold ho_c
    by_cases c1 : (Y.2.1 a).1 = 1
    · rw [if_pos c1] at hat h1 ⊢
      obtain ⟨hn, h1⟩ := (Bool.and_eq_true _ _).mp h1
      have en : Y.2.2.2.2.2 (Y.2.1 a).2 = dnf.getD (Y.2.1 a).2 0 := Nat.eq_of_beq_eq_true hn
      rw [en]
      have el : (List.range (dnf.getD (Y.2.1 a).2 0)).map (ho_v Y (E.1, (fun a => B + ord a), E.2.2) (hpO ord p3 r) a (Y.2.1 a).2) = (List.range (dnf.getD (Y.2.1 a).2 0)).map (dy_v B r (ord a) (Y.2.1 a).2) := by
        apply List.map_congr_left
        intro k hk
        have h2 := List.all_eq_true.mp h1 k hk
        unfold zokK at h2
        unfold ho_v dy_v
        by_cases k0 : Y.2.2.1 (Y.2.1 a).2 k = 0
        · rw [if_pos k0] at h2 ⊢
          rw [if_pos (Nat.eq_of_beq_eq_true h2)]
          rfl
        · rw [if_neg k0] at h2 ⊢
          by_cases k1 : Y.2.2.1 (Y.2.1 a).2 k = 1
          · rw [if_pos k1] at h2 ⊢
            have e := Nat.eq_of_beq_eq_true h2
            rw [if_neg (by omega), if_pos e]
            rfl
          · rw [if_neg k1] at h2 ⊢
            by_cases k2 : Y.2.2.1 (Y.2.1 a).2 k = 2
            · rw [if_pos k2] at h2 ⊢
              obtain ⟨h3, h4⟩ := (Bool.and_eq_true _ _).mp h2
              have e := Nat.eq_of_beq_eq_true h3
              rw [if_neg (by omega), if_neg (by omega), zoeq_ok h4]
              rfl
            · rw [if_neg k2] at h2 ⊢
              obtain ⟨h3, h4⟩ := (Bool.and_eq_true _ _).mp h2
              have e := Nat.eq_of_beq_eq_true h3
              rw [if_neg (by omega), if_neg (by omega), zoeq_ok h4]
              rfl
      rw [el]
      exact hat
    · rw [if_neg c1] at hat h1 ⊢
      by_cases c2 : (Y.2.1 a).1 = 2
      · rw [if_pos c2] at hat ⊢
        exact hat
      rw [if_neg c2] at hat ⊢
      by_cases c3 : (Y.2.1 a).1 = 3
      · rw [if_pos c3] at hat ⊢
        exact hat
      rw [if_neg c3] at hat ⊢
      by_cases c4 : (Y.2.1 a).1 = 4
      · rw [if_pos c4] at hat ⊢
        exact hat
      rw [if_neg c4] at hat ⊢
      by_cases c5 : (Y.2.1 a).1 = 5
      · rw [if_pos c5] at hat ⊢
        exact hat
      rw [if_neg c5] at hat ⊢
      by_cases c6 : (Y.2.1 a).1 = 6
      · rw [if_pos c6] at hat ⊢
        exact hat
      rw [if_neg c6] at hat ⊢
      have hf : ∀ i, i < (Y.2.1 a).2 → 7 ≤ (Y.2.1 a).1 → (r.2.2.2.2 (ord a) i) = some (ord (Y.2.2.2.2.1 a i)) := fun i hi h7 => by
        rw [if_pos h7] at h1
        exact zoeq_ok (List.all_eq_true.mp h1 i (List.mem_range.mpr hi))
      by_cases c7 : (Y.2.1 a).1 = 7
      · rw [if_pos c7] at hat ⊢
        refine Eq.trans (b := some (arrV (E.2.2 5) (Y.2.1 a).2 (fun i => va_rf ((r.2.2.2.2 (ord a) i).map (fun x => B + x))))) hat (congrArg some (arrV_ext (g := fun i => va_rf (some (B + ord (Y.2.2.2.2.1 a i)))) (fun i hi => ?_)))
        show va_rf ((r.2.2.2.2 (ord a) i).map (fun x => B + x)) = va_rf (some (B + ord (Y.2.2.2.2.1 a i)))
        rw [hf i hi (by omega)]
        rfl
      · rw [if_neg c7] at hat ⊢
        refine Eq.trans (b := some (arrV (E.2.2 6) (Y.2.1 a).2 (fun i => va_rf ((r.2.2.2.2 (ord a) i).map (fun x => B + x))))) hat (congrArg some (arrV_ext (g := fun i => va_rf (some (B + ord (Y.2.2.2.2.1 a i)))) (fun i hi => ?_)))
        show va_rf ((r.2.2.2.2 (ord a) i).map (fun x => B + x)) = va_rf (some (B + ord (Y.2.2.2.2.1 a i)))
        have h8 := hS a (List.mem_of_getElem? ha)
        rw [hf i hi (by omega)]
        rfl
theorem dy_hoD {Y : Sy} {ord : Nat → Nat} {pos : List Nat} {B : Nat} {E : Ev} {S : Hp} (hps : zokPs ord pos 0 Y.1 = true) : va_D (fun q : Nat => B ≤ q) (ho_w Y (E.1, (fun a => B + ord a), E.2.2) S) := by
  have key : ∀ (i : Nat) (q : Nat × va_E), (ho_w Y (E.1, (fun a => B + ord a), E.2.2) S)[i]? = some q → ∃ a, q.1 = B + ord a ∧ pos.getD (ord a) 0 = i := by
    intro i q hq
    unfold ho_w at hq
    rw [List.getElem?_map] at hq
    cases ha : Y.1[i]? with
    | none => rw [ha] at hq; cases hq
    | some a =>
      rw [ha] at hq
      cases hq
      exact ⟨a, rfl, by rw [zokPs_ok Y.1 0 hps i a ha]; omega⟩
  refine ⟨fun i j p q hi hj e => ?_, fun k q hq => ?_⟩
  · obtain ⟨a, a1, a2⟩ := key i p hi
    obtain ⟨b, b1, b2⟩ := key j q hj
    have : ord a = ord b := by omega
    rw [← a2, ← b2, this]
  · obtain ⟨a, a1, -⟩ := key k q hq
    show B ≤ q.1
    omega

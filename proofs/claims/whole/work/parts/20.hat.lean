/-! the class: its objects and rows by numbers; States at 1000, 1010 .. -/
def shT : List (Nat × Nat) := [(1, 11), (4, 6), (7, 20), (0, 0), (0, 0), (0, 0), (0, 0), (0, 0), (0, 0), (0, 0), (1, 10), (2, 1600), (4, 35), (0, 0), (0, 0), (0, 0), (0, 0), (0, 0), (0, 0), (0, 0), (1, 3), (0, 0), (0, 0), (0, 0), (0, 0), (1, 7), (0, 0), (0, 0), (0, 0), (0, 0), (1, 6), (0, 0), (0, 0), (4, 40), (0, 0), (1, 7), (0, 0), (0, 0), (0, 0), (0, 0), (1, 4), (4, 1600), (4, 64), (0, 0), (0, 0), (0, 0), (0, 0), (0, 0), (0, 0), (0, 0), (1, 8), (4, 6), (4, 6), (4, 40), (4, 5), (0, 0), (0, 0), (0, 0), (0, 0), (0, 0), (1, 0), (4, 61), (4, 61), (4, 61), (4, 61), (4, 4), (4, 6), (4, 6), (4, 6), (4, 6), (1, 1), (4, 16), (4, 16), (4, 64), (8, 6), (4, 64), (4, 64), (4, 64), (4, 64), (4, 64), (4, 64), (0, 0), (0, 0), (0, 0), (0, 0), (0, 0), (0, 0), (0, 0), (0, 0), (0, 0), (1, 5), (4, 48), (0, 0), (0, 0), (0, 0), (0, 0), (0, 0), (0, 0), (0, 0), (0, 0), (1, 2), (4, 3), (8, 3), (4, 6), (4, 6), (4, 6), (4, 6), (4, 6), (4, 6), (4, 6), (4, 6), (4, 5), (4, 5), (1, 4), (4, 1600), (4, 64), (1, 4), (4, 1600), (4, 64), (0, 0), (0, 0), (0, 0), (0, 0), (0, 0), (0, 0), (0, 0), (0, 0), (0, 0), (0, 0), (0, 0), (0, 0), (0, 0), (0, 0), (0, 0), (0, 0), (0, 0), (0, 0), (0, 0), (0, 0), (0, 0), (0, 0), (0, 0), (0, 0), (0, 0), (0, 0), (0, 0), (0, 0), (0, 0), (0, 0), (0, 0), (1, 2), (4, 3), (8, 3), (4, 6), (4, 6), (4, 6), (4, 6), (4, 6), (4, 6), (4, 6), (4, 6), (4, 5), (4, 5), (1, 4), (4, 1600), (4, 64), (1, 4), (4, 1600), (4, 64), (0, 0)]
def shS : List (Nat × Nat) := [(1, 9), (4, 6), (4, 6), (4, 6), (4, 5), (4, 90), (0, 0), (0, 0), (0, 0), (0, 0)]
def shH (a : Nat) : Nat × Nat := if a < 1000 then shT.getD a (0, 0) else if a < 1260 then shS.getD (a % 10) (0, 0) else (0, 0)
def kdH : List (List Nat) := [[2, 2, 2, 2, 2, 2, 2, 2, 2, 2, 2, 2, 2, 2, 0, 0], [0, 0, 0, 0, 2, 2, 2, 2, 2], [0, 0, 0, 0, 0, 2, 2, 2, 2, 2, 2, 2, 2, 2, 2, 2], [2, 2, 3, 0, 0], [2, 2, 0], [2, 0, 0], [2, 2, 2, 2, 0], [2, 3, 0], [3, 2, 2, 0, 0, 0, 2, 2], [0, 0, 0, 2, 2, 2, 2, 0, 2], [2, 0, 0, 0, 0, 0, 0, 0, 0, 0, 2], [2, 3, 3, 2, 2, 2, 2, 2, 2, 2, 2, 2, 2, 0, 0, 0, 0]]
def ptT : List (List Nat) := [[61, 62, 63, 64, 65, 50, 1220, 1230, 1240, 1250, 66, 67, 68, 69, 0, 0], [0, 0, 0, 0, 50, 71, 72, 73, 74], [0, 0, 0, 0, 0, 1, 2, 6, 7, 8, 9, 10, 11, 12, 13, 16], [10, 25, 0, 0, 0], [1, 2, 0], [91, 0, 0], [10, 35, 40, 33, 0], [10, 0, 0], [0, 51, 52, 0, 0, 0, 53, 54], [0, 0, 0, 1, 2, 3, 4, 0, 5], [11, 0, 0, 0, 0, 0, 0, 0, 0, 0, 12], [10, 0, 0, 20, 30, 50, 60, 70, 90, 1200, 1210, 2, 1, 0, 0, 0, 0]]
def nfH : List Nat := [16, 9, 16, 5, 3, 3, 5, 3, 8, 9, 11, 17]
def ptC (c a k : Nat) : Nat := if c = 2 ∨ c = 4 ∨ c = 9 then a + (ptT.getD c []).getD k 0 else (ptT.getD c []).getD k 0
def alP (a : Nat) : Bool := (shH a).1 != 0
def alH : List Nat := (List.range 1260).filter alP
def yH : Sy := (alH, shH, fun c k => (kdH.getD c []).getD k 0, fun a k => ptC (shH a).2 a k, fun a i => if a = 2 then 1000 + 10 * i else a + 1 + i, fun c => nfH.getD c 0)
theorem yH1 : yH.1 = alH := by unfold yH; dsimp only
theorem mem_rf {N a : Nat} {p : Nat → Bool} (h : a < N) (h2 : p a = true) : a ∈ (List.range N).filter p := List.mem_filter.mpr ⟨List.mem_range.mpr h, h2⟩
theorem rf_mem {N a : Nat} {p : Nat → Bool} (h : a ∈ (List.range N).filter p) : a < N := List.mem_range.mp (List.mem_filter.mp h).1
theorem memH {a : Nat} (h : a < 1260) (h2 : (shH a).1 ≠ 0) : a ∈ yH.1 := by
  rw [yH1]
  unfold alH
  exact mem_rf h (bne_iff_ne.mpr h2)
theorem aH_0 : 0 ∈ yH.1 ∧ yH.2.1 0 = (1, 11) := ⟨memH (by decide) (by decide), rfl⟩
theorem aH_1 : 1 ∈ yH.1 ∧ yH.2.1 1 = (4, 6) := ⟨memH (by decide) (by decide), rfl⟩
theorem aH_2 : 2 ∈ yH.1 ∧ yH.2.1 2 = (7, 20) := ⟨memH (by decide) (by decide), rfl⟩
theorem aH_10 : 10 ∈ yH.1 ∧ yH.2.1 10 = (1, 10) := ⟨memH (by decide) (by decide), rfl⟩
theorem aH_11 : 11 ∈ yH.1 ∧ yH.2.1 11 = (2, 1600) := ⟨memH (by decide) (by decide), rfl⟩
theorem aH_12 : 12 ∈ yH.1 ∧ yH.2.1 12 = (4, 35) := ⟨memH (by decide) (by decide), rfl⟩
theorem aH_20 : 20 ∈ yH.1 ∧ yH.2.1 20 = (1, 3) := ⟨memH (by decide) (by decide), rfl⟩
theorem aH_25 : 25 ∈ yH.1 ∧ yH.2.1 25 = (1, 7) := ⟨memH (by decide) (by decide), rfl⟩
theorem aH_30 : 30 ∈ yH.1 ∧ yH.2.1 30 = (1, 6) := ⟨memH (by decide) (by decide), rfl⟩
theorem aH_33 : 33 ∈ yH.1 ∧ yH.2.1 33 = (4, 40) := ⟨memH (by decide) (by decide), rfl⟩
theorem aH_35 : 35 ∈ yH.1 ∧ yH.2.1 35 = (1, 7) := ⟨memH (by decide) (by decide), rfl⟩
theorem aH_40 : 40 ∈ yH.1 ∧ yH.2.1 40 = (1, 4) := ⟨memH (by decide) (by decide), rfl⟩
theorem aH_50 : 50 ∈ yH.1 ∧ yH.2.1 50 = (1, 8) := ⟨memH (by decide) (by decide), rfl⟩
theorem aH_51 : 51 ∈ yH.1 ∧ yH.2.1 51 = (4, 6) := ⟨memH (by decide) (by decide), rfl⟩
theorem aH_52 : 52 ∈ yH.1 ∧ yH.2.1 52 = (4, 6) := ⟨memH (by decide) (by decide), rfl⟩
theorem aH_53 : 53 ∈ yH.1 ∧ yH.2.1 53 = (4, 40) := ⟨memH (by decide) (by decide), rfl⟩
theorem aH_54 : 54 ∈ yH.1 ∧ yH.2.1 54 = (4, 5) := ⟨memH (by decide) (by decide), rfl⟩
theorem aH_60 : 60 ∈ yH.1 ∧ yH.2.1 60 = (1, 0) := ⟨memH (by decide) (by decide), rfl⟩
theorem aH_61 : 61 ∈ yH.1 ∧ yH.2.1 61 = (4, 61) := ⟨memH (by decide) (by decide), rfl⟩
theorem aH_62 : 62 ∈ yH.1 ∧ yH.2.1 62 = (4, 61) := ⟨memH (by decide) (by decide), rfl⟩
theorem aH_63 : 63 ∈ yH.1 ∧ yH.2.1 63 = (4, 61) := ⟨memH (by decide) (by decide), rfl⟩
theorem aH_64 : 64 ∈ yH.1 ∧ yH.2.1 64 = (4, 61) := ⟨memH (by decide) (by decide), rfl⟩
theorem aH_65 : 65 ∈ yH.1 ∧ yH.2.1 65 = (4, 4) := ⟨memH (by decide) (by decide), rfl⟩
theorem aH_66 : 66 ∈ yH.1 ∧ yH.2.1 66 = (4, 6) := ⟨memH (by decide) (by decide), rfl⟩
theorem aH_67 : 67 ∈ yH.1 ∧ yH.2.1 67 = (4, 6) := ⟨memH (by decide) (by decide), rfl⟩
theorem aH_68 : 68 ∈ yH.1 ∧ yH.2.1 68 = (4, 6) := ⟨memH (by decide) (by decide), rfl⟩
theorem aH_69 : 69 ∈ yH.1 ∧ yH.2.1 69 = (4, 6) := ⟨memH (by decide) (by decide), rfl⟩
theorem aH_70 : 70 ∈ yH.1 ∧ yH.2.1 70 = (1, 1) := ⟨memH (by decide) (by decide), rfl⟩
theorem aH_71 : 71 ∈ yH.1 ∧ yH.2.1 71 = (4, 16) := ⟨memH (by decide) (by decide), rfl⟩
theorem aH_72 : 72 ∈ yH.1 ∧ yH.2.1 72 = (4, 16) := ⟨memH (by decide) (by decide), rfl⟩
theorem aH_73 : 73 ∈ yH.1 ∧ yH.2.1 73 = (4, 64) := ⟨memH (by decide) (by decide), rfl⟩
theorem aH_74 : 74 ∈ yH.1 ∧ yH.2.1 74 = (8, 6) := ⟨memH (by decide) (by decide), rfl⟩
theorem aH_90 : 90 ∈ yH.1 ∧ yH.2.1 90 = (1, 5) := ⟨memH (by decide) (by decide), rfl⟩
theorem aH_91 : 91 ∈ yH.1 ∧ yH.2.1 91 = (4, 48) := ⟨memH (by decide) (by decide), rfl⟩
theorem aH_1200 : 1200 ∈ yH.1 ∧ yH.2.1 1200 = (1, 9) := ⟨memH (by decide) (by decide), rfl⟩
theorem aH_1201 : 1201 ∈ yH.1 ∧ yH.2.1 1201 = (4, 6) := ⟨memH (by decide) (by decide), rfl⟩
theorem aH_1202 : 1202 ∈ yH.1 ∧ yH.2.1 1202 = (4, 6) := ⟨memH (by decide) (by decide), rfl⟩
theorem aH_1203 : 1203 ∈ yH.1 ∧ yH.2.1 1203 = (4, 6) := ⟨memH (by decide) (by decide), rfl⟩
theorem aH_1204 : 1204 ∈ yH.1 ∧ yH.2.1 1204 = (4, 5) := ⟨memH (by decide) (by decide), rfl⟩
theorem aH_1205 : 1205 ∈ yH.1 ∧ yH.2.1 1205 = (4, 90) := ⟨memH (by decide) (by decide), rfl⟩
theorem aH_1210 : 1210 ∈ yH.1 ∧ yH.2.1 1210 = (1, 9) := ⟨memH (by decide) (by decide), rfl⟩
theorem aH_1220 : 1220 ∈ yH.1 ∧ yH.2.1 1220 = (1, 9) := ⟨memH (by decide) (by decide), rfl⟩
theorem aH_1230 : 1230 ∈ yH.1 ∧ yH.2.1 1230 = (1, 9) := ⟨memH (by decide) (by decide), rfl⟩
theorem aH_1240 : 1240 ∈ yH.1 ∧ yH.2.1 1240 = (1, 9) := ⟨memH (by decide) (by decide), rfl⟩
theorem aH_1242 : 1242 ∈ yH.1 ∧ yH.2.1 1242 = (4, 6) := ⟨memH (by decide) (by decide), rfl⟩
theorem aH_1250 : 1250 ∈ yH.1 ∧ yH.2.1 1250 = (1, 9) := ⟨memH (by decide) (by decide), rfl⟩
theorem ltH {a : Nat} (h : a ∈ yH.1) : a < 1260 := by
  rw [yH1] at h
  unfold alH at h
  exact rf_mem h
theorem c2H {a : Nat} (h : a ∈ yH.1 ∧ yH.2.1 a = (1, 2)) : a = 100 ∨ a = 150 := by
  have k : ∀ a, a < 1260 → shH a = (1, 2) → (a = 100 ∨ a = 150) := by decide +kernel
  exact k a (ltH h.1) h.2
theorem c4H {a : Nat} (h : a ∈ yH.1 ∧ yH.2.1 a = (1, 4)) : a = 40 ∨ a = 113 ∨ a = 116 ∨ a = 163 ∨ a = 166 := by
  have k : ∀ a, a < 1260 → shH a = (1, 4) → (a = 40 ∨ a = 113 ∨ a = 116 ∨ a = 163 ∨ a = 166) := by decide +kernel
  exact k a (ltH h.1) h.2
theorem c9H {a : Nat} (h : a ∈ yH.1 ∧ yH.2.1 a = (1, 9)) : 1000 ≤ a ∧ a < 1260 ∧ a % 10 = 0 := by
  have k : ∀ a, a < 1260 → shH a = (1, 9) → (1000 ≤ a ∧ a < 1260 ∧ a % 10 = 0) := by decide +kernel
  exact k a (ltH h.1) h.2
theorem rH_2_1 {a : Nat} (h : a ∈ yH.1 ∧ yH.2.1 a = (1, 2)) : (a + 1) ∈ yH.1 ∧ yH.2.1 (a + 1) = (4, 3) := by
  rcases c2H h with rfl | rfl <;> exact ⟨memH (by decide) (by decide), rfl⟩
theorem rH_2_2 {a : Nat} (h : a ∈ yH.1 ∧ yH.2.1 a = (1, 2)) : (a + 2) ∈ yH.1 ∧ yH.2.1 (a + 2) = (8, 3) := by
  rcases c2H h with rfl | rfl <;> exact ⟨memH (by decide) (by decide), rfl⟩
theorem rH_2_6 {a : Nat} (h : a ∈ yH.1 ∧ yH.2.1 a = (1, 2)) : (a + 6) ∈ yH.1 ∧ yH.2.1 (a + 6) = (4, 6) := by
  rcases c2H h with rfl | rfl <;> exact ⟨memH (by decide) (by decide), rfl⟩
theorem rH_2_7 {a : Nat} (h : a ∈ yH.1 ∧ yH.2.1 a = (1, 2)) : (a + 7) ∈ yH.1 ∧ yH.2.1 (a + 7) = (4, 6) := by
  rcases c2H h with rfl | rfl <;> exact ⟨memH (by decide) (by decide), rfl⟩
theorem rH_2_8 {a : Nat} (h : a ∈ yH.1 ∧ yH.2.1 a = (1, 2)) : (a + 8) ∈ yH.1 ∧ yH.2.1 (a + 8) = (4, 6) := by
  rcases c2H h with rfl | rfl <;> exact ⟨memH (by decide) (by decide), rfl⟩
theorem rH_2_9 {a : Nat} (h : a ∈ yH.1 ∧ yH.2.1 a = (1, 2)) : (a + 9) ∈ yH.1 ∧ yH.2.1 (a + 9) = (4, 6) := by
  rcases c2H h with rfl | rfl <;> exact ⟨memH (by decide) (by decide), rfl⟩
theorem rH_2_10 {a : Nat} (h : a ∈ yH.1 ∧ yH.2.1 a = (1, 2)) : (a + 10) ∈ yH.1 ∧ yH.2.1 (a + 10) = (4, 6) := by
  rcases c2H h with rfl | rfl <;> exact ⟨memH (by decide) (by decide), rfl⟩
theorem rH_2_11 {a : Nat} (h : a ∈ yH.1 ∧ yH.2.1 a = (1, 2)) : (a + 11) ∈ yH.1 ∧ yH.2.1 (a + 11) = (4, 5) := by
  rcases c2H h with rfl | rfl <;> exact ⟨memH (by decide) (by decide), rfl⟩
theorem rH_2_12 {a : Nat} (h : a ∈ yH.1 ∧ yH.2.1 a = (1, 2)) : (a + 12) ∈ yH.1 ∧ yH.2.1 (a + 12) = (4, 5) := by
  rcases c2H h with rfl | rfl <;> exact ⟨memH (by decide) (by decide), rfl⟩
theorem rH_2_13 {a : Nat} (h : a ∈ yH.1 ∧ yH.2.1 a = (1, 2)) : (a + 13) ∈ yH.1 ∧ yH.2.1 (a + 13) = (1, 4) := by
  rcases c2H h with rfl | rfl <;> exact ⟨memH (by decide) (by decide), rfl⟩
theorem rH_2_16 {a : Nat} (h : a ∈ yH.1 ∧ yH.2.1 a = (1, 2)) : (a + 16) ∈ yH.1 ∧ yH.2.1 (a + 16) = (1, 4) := by
  rcases c2H h with rfl | rfl <;> exact ⟨memH (by decide) (by decide), rfl⟩
theorem rH_4_1 {a : Nat} (h : a ∈ yH.1 ∧ yH.2.1 a = (1, 4)) : (a + 1) ∈ yH.1 ∧ yH.2.1 (a + 1) = (4, 1600) := by
  rcases c4H h with rfl | rfl | rfl | rfl | rfl <;> exact ⟨memH (by decide) (by decide), rfl⟩
theorem rH_4_2 {a : Nat} (h : a ∈ yH.1 ∧ yH.2.1 a = (1, 4)) : (a + 2) ∈ yH.1 ∧ yH.2.1 (a + 2) = (4, 64) := by
  rcases c4H h with rfl | rfl | rfl | rfl | rfl <;> exact ⟨memH (by decide) (by decide), rfl⟩
theorem rH_9_1 {a : Nat} (h : a ∈ yH.1 ∧ yH.2.1 a = (1, 9)) : (a + 1) ∈ yH.1 ∧ yH.2.1 (a + 1) = (4, 6) := by
  obtain ⟨h1, h2, h3⟩ := c9H h
  have e : shH (a + 1) = (4, 6) := by
    unfold shH
    rw [if_neg (by omega), if_pos (by omega), show (a + 1) % 10 = 1 by omega]
    rfl
  exact ⟨memH (by omega) (by rw [e]; decide), e⟩
theorem rH_9_2 {a : Nat} (h : a ∈ yH.1 ∧ yH.2.1 a = (1, 9)) : (a + 2) ∈ yH.1 ∧ yH.2.1 (a + 2) = (4, 6) := by
  obtain ⟨h1, h2, h3⟩ := c9H h
  have e : shH (a + 2) = (4, 6) := by
    unfold shH
    rw [if_neg (by omega), if_pos (by omega), show (a + 2) % 10 = 2 by omega]
    rfl
  exact ⟨memH (by omega) (by rw [e]; decide), e⟩
theorem rH_9_3 {a : Nat} (h : a ∈ yH.1 ∧ yH.2.1 a = (1, 9)) : (a + 3) ∈ yH.1 ∧ yH.2.1 (a + 3) = (4, 6) := by
  obtain ⟨h1, h2, h3⟩ := c9H h
  have e : shH (a + 3) = (4, 6) := by
    unfold shH
    rw [if_neg (by omega), if_pos (by omega), show (a + 3) % 10 = 3 by omega]
    rfl
  exact ⟨memH (by omega) (by rw [e]; decide), e⟩
theorem rH_9_4 {a : Nat} (h : a ∈ yH.1 ∧ yH.2.1 a = (1, 9)) : (a + 4) ∈ yH.1 ∧ yH.2.1 (a + 4) = (4, 5) := by
  obtain ⟨h1, h2, h3⟩ := c9H h
  have e : shH (a + 4) = (4, 5) := by
    unfold shH
    rw [if_neg (by omega), if_pos (by omega), show (a + 4) % 10 = 4 by omega]
    rfl
  exact ⟨memH (by omega) (by rw [e]; decide), e⟩
theorem rH_9_5 {a : Nat} (h : a ∈ yH.1 ∧ yH.2.1 a = (1, 9)) : (a + 5) ∈ yH.1 ∧ yH.2.1 (a + 5) = (4, 90) := by
  obtain ⟨h1, h2, h3⟩ := c9H h
  have e : shH (a + 5) = (4, 90) := by
    unfold shH
    rw [if_neg (by omega), if_pos (by omega), show (a + 5) % 10 = 5 by omega]
    rfl
  exact ⟨memH (by omega) (by rw [e]; decide), e⟩
theorem pH_2_5 {a : Nat} (h : yH.2.1 a = (1, 2)) : yH.2.2.2.1 a 5 = a + 1 := by
  have h1 : shH a = (1, 2) := h
  show ptC (shH a).2 a 5 = _
  rw [h1]
  rfl
theorem pH_2_6 {a : Nat} (h : yH.2.1 a = (1, 2)) : yH.2.2.2.1 a 6 = a + 2 := by
  have h1 : shH a = (1, 2) := h
  show ptC (shH a).2 a 6 = _
  rw [h1]
  rfl
theorem pH_2_7 {a : Nat} (h : yH.2.1 a = (1, 2)) : yH.2.2.2.1 a 7 = a + 6 := by
  have h1 : shH a = (1, 2) := h
  show ptC (shH a).2 a 7 = _
  rw [h1]
  rfl
theorem pH_2_8 {a : Nat} (h : yH.2.1 a = (1, 2)) : yH.2.2.2.1 a 8 = a + 7 := by
  have h1 : shH a = (1, 2) := h
  show ptC (shH a).2 a 8 = _
  rw [h1]
  rfl
theorem pH_2_9 {a : Nat} (h : yH.2.1 a = (1, 2)) : yH.2.2.2.1 a 9 = a + 8 := by
  have h1 : shH a = (1, 2) := h
  show ptC (shH a).2 a 9 = _
  rw [h1]
  rfl
theorem pH_2_10 {a : Nat} (h : yH.2.1 a = (1, 2)) : yH.2.2.2.1 a 10 = a + 9 := by
  have h1 : shH a = (1, 2) := h
  show ptC (shH a).2 a 10 = _
  rw [h1]
  rfl
theorem pH_2_11 {a : Nat} (h : yH.2.1 a = (1, 2)) : yH.2.2.2.1 a 11 = a + 10 := by
  have h1 : shH a = (1, 2) := h
  show ptC (shH a).2 a 11 = _
  rw [h1]
  rfl
theorem pH_2_12 {a : Nat} (h : yH.2.1 a = (1, 2)) : yH.2.2.2.1 a 12 = a + 11 := by
  have h1 : shH a = (1, 2) := h
  show ptC (shH a).2 a 12 = _
  rw [h1]
  rfl
theorem pH_2_13 {a : Nat} (h : yH.2.1 a = (1, 2)) : yH.2.2.2.1 a 13 = a + 12 := by
  have h1 : shH a = (1, 2) := h
  show ptC (shH a).2 a 13 = _
  rw [h1]
  rfl
theorem pH_2_14 {a : Nat} (h : yH.2.1 a = (1, 2)) : yH.2.2.2.1 a 14 = a + 13 := by
  have h1 : shH a = (1, 2) := h
  show ptC (shH a).2 a 14 = _
  rw [h1]
  rfl
theorem pH_2_15 {a : Nat} (h : yH.2.1 a = (1, 2)) : yH.2.2.2.1 a 15 = a + 16 := by
  have h1 : shH a = (1, 2) := h
  show ptC (shH a).2 a 15 = _
  rw [h1]
  rfl
theorem pH_4_0 {a : Nat} (h : yH.2.1 a = (1, 4)) : yH.2.2.2.1 a 0 = a + 1 := by
  have h1 : shH a = (1, 4) := h
  show ptC (shH a).2 a 0 = _
  rw [h1]
  rfl
theorem pH_4_1 {a : Nat} (h : yH.2.1 a = (1, 4)) : yH.2.2.2.1 a 1 = a + 2 := by
  have h1 : shH a = (1, 4) := h
  show ptC (shH a).2 a 1 = _
  rw [h1]
  rfl
theorem pH_7_0 {a : Nat} (h : yH.2.1 a = (1, 7)) : yH.2.2.2.1 a 0 = 10 := by
  have h1 : shH a = (1, 7) := h
  show ptC (shH a).2 a 0 = _
  rw [h1]
  rfl
theorem pH_9_3 {a : Nat} (h : yH.2.1 a = (1, 9)) : yH.2.2.2.1 a 3 = a + 1 := by
  have h1 : shH a = (1, 9) := h
  show ptC (shH a).2 a 3 = _
  rw [h1]
  rfl
theorem pH_9_4 {a : Nat} (h : yH.2.1 a = (1, 9)) : yH.2.2.2.1 a 4 = a + 2 := by
  have h1 : shH a = (1, 9) := h
  show ptC (shH a).2 a 4 = _
  rw [h1]
  rfl
theorem pH_9_5 {a : Nat} (h : yH.2.1 a = (1, 9)) : yH.2.2.2.1 a 5 = a + 3 := by
  have h1 : shH a = (1, 9) := h
  show ptC (shH a).2 a 5 = _
  rw [h1]
  rfl
theorem pH_9_6 {a : Nat} (h : yH.2.1 a = (1, 9)) : yH.2.2.2.1 a 6 = a + 4 := by
  have h1 : shH a = (1, 9) := h
  show ptC (shH a).2 a 6 = _
  rw [h1]
  rfl
theorem pH_9_8 {a : Nat} (h : yH.2.1 a = (1, 9)) : yH.2.2.2.1 a 8 = a + 5 := by
  have h1 : shH a = (1, 9) := h
  show ptC (shH a).2 a 8 = _
  rw [h1]
  rfl
theorem cf0 : ho_F 0 RX0 TX0 tyX0 16 := ⟨rfl, ho_inOf [579, 581, 583, 585, 587, 589, 591, 593, 595, 597, 599, 601, 603, 605, 607, 609] (by decide +kernel), tyX0_ok, nmX0⟩
theorem cf1 : ho_F 1 RX1 TX1 tyX1 9 := ⟨rfl, ho_inOf [632, 634, 636, 638, 640, 642, 644, 646, 648] (by decide +kernel), tyX1_ok, nmX1⟩
theorem cf2 : ho_F 2 RX2 TX2 tyX2 16 := ⟨rfl, ho_inOf [352, 354, 356, 358, 360, 362, 364, 366, 368, 370, 372, 374, 376, 378, 380, 382] (by decide +kernel), tyX2_ok, nmX2⟩
theorem cf3 : ho_F 3 RX3 TX3 tyX3 5 := ⟨rfl, ho_inOf [413, 415, 417, 419, 421] (by decide +kernel), tyX3_ok, nmX3⟩
theorem cf4 : ho_F 4 RX4 TX4 tyX4 3 := ⟨rfl, ho_inOf [287, 289, 291] (by decide +kernel), tyX4_ok, nmX4⟩
theorem cf5 : ho_F 5 RX5 TX5 tyX5 3 := ⟨rfl, ho_inOf [662, 664, 666] (by decide +kernel), tyX5_ok, nmX5⟩
theorem cf6 : ho_F 6 RX6 TX6 tyX6 5 := ⟨rfl, ho_inOf [439, 441, 443, 445, 447] (by decide +kernel), tyX6_ok, nmX6⟩
theorem cf7 : ho_F 7 RX7 TX7 tyX7 3 := ⟨rfl, ho_inOf [400, 402, 404] (by decide +kernel), tyX7_ok, nmX7⟩
theorem cf8 : ho_F 8 RX8 TX8 tyX8 8 := ⟨rfl, ho_inOf [473, 475, 477, 479, 481, 483, 485, 487] (by decide +kernel), tyX8_ok, nmX8⟩
theorem cf9 : ho_F 9 RX9 TX9 tyX9 9 := ⟨rfl, ho_inOf [539, 541, 543, 545, 547, 549, 551, 553, 555] (by decide +kernel), tyX9_ok, nmX9⟩
theorem cf10 : ho_F 10 RX10 TX10 tyX10 11 := ⟨rfl, ho_inOf [245, 247, 249, 251, 253, 255, 257, 259, 261, 263, 265] (by decide +kernel), tyX10_ok, nmX10⟩
theorem cf11 : ho_F 11 RX11 TX11 tyX11 17 := ⟨rfl, ho_inOf [689, 691, 693, 695, 697, 699, 701, 703, 705, 707, 709, 711, 713, 715, 717, 719, 721] (by decide +kernel), tyX11_ok, nmX11⟩
theorem fH_RX0_9 : ho_f yH RX0 0 TX0 16 9 0 2 (.array .int) true := ⟨rfl, by decide, gt_2 (i := 178) (by decide +kernel) rfl, rfl, rfl, by decide +kernel⟩
theorem fH_RX0_15 : ho_f yH RX0 0 TX0 16 15 1 2 (.array .int) true := ⟨rfl, by decide, gt_2 (i := 180) (by decide +kernel) rfl, rfl, rfl, by decide +kernel⟩
theorem fH_RX0_18 : ho_f yH RX0 0 TX0 16 18 2 2 (.array .int) true := ⟨rfl, by decide, gt_2 (i := 182) (by decide +kernel) rfl, rfl, rfl, by decide +kernel⟩
theorem fH_RX0_21 : ho_f yH RX0 0 TX0 16 21 3 2 (.array .int) true := ⟨rfl, by decide, gt_2 (i := 184) (by decide +kernel) rfl, rfl, rfl, by decide +kernel⟩
theorem fH_RX0_24 : ho_f yH RX0 0 TX0 16 24 4 2 (.array .int) true := ⟨rfl, by decide, gt_2 (i := 186) (by decide +kernel) rfl, rfl, rfl, by decide +kernel⟩
theorem fH_RX0_30 : ho_f yH RX0 0 TX0 16 30 6 2 (.object "EmptyHat$State") true := ⟨rfl, by decide, gt_2 (i := 189) (by decide +kernel) rfl, rfl, rfl, by decide +kernel⟩
theorem fH_RX0_34 : ho_f yH RX0 0 TX0 16 34 7 2 (.object "EmptyHat$State") true := ⟨rfl, by decide, gt_2 (i := 190) (by decide +kernel) rfl, rfl, rfl, by decide +kernel⟩
theorem fH_RX0_37 : ho_f yH RX0 0 TX0 16 37 8 2 (.object "EmptyHat$State") true := ⟨rfl, by decide, gt_2 (i := 191) (by decide +kernel) rfl, rfl, rfl, by decide +kernel⟩
theorem fH_RX0_40 : ho_f yH RX0 0 TX0 16 40 9 2 (.object "EmptyHat$State") true := ⟨rfl, by decide, gt_2 (i := 192) (by decide +kernel) rfl, rfl, rfl, by decide +kernel⟩
theorem fH_RX0_43 : ho_f yH RX0 0 TX0 16 43 10 2 (.array .int) true := ⟨rfl, by decide, gt_2 (i := 193) (by decide +kernel) rfl, rfl, rfl, by decide +kernel⟩
theorem fH_RX0_46 : ho_f yH RX0 0 TX0 16 46 11 2 (.array .int) true := ⟨rfl, by decide, gt_2 (i := 194) (by decide +kernel) rfl, rfl, rfl, by decide +kernel⟩
theorem fH_RX0_49 : ho_f yH RX0 0 TX0 16 49 12 2 (.array .int) true := ⟨rfl, by decide, gt_2 (i := 195) (by decide +kernel) rfl, rfl, rfl, by decide +kernel⟩
theorem fH_RX0_52 : ho_f yH RX0 0 TX0 16 52 13 2 (.array .int) true := ⟨rfl, by decide, gt_2 (i := 196) (by decide +kernel) rfl, rfl, rfl, by decide +kernel⟩
theorem fH_RX0_55 : ho_f yH RX0 0 TX0 16 55 14 0 .int false := ⟨rfl, by decide, gt_2 (i := 197) (by decide +kernel) rfl, rfl, rfl, by decide +kernel⟩
theorem fH_RX0_59 : ho_f yH RX0 0 TX0 16 59 15 0 .boolean false := ⟨rfl, by decide, gt_2 (i := 198) (by decide +kernel) rfl, rfl, rfl, by decide +kernel⟩
theorem fH_RX0_63 : ho_f yH RX0 0 TX0 16 63 5 2 (.object "EmptyHat$Stage") true := ⟨rfl, by decide, gt_2 (i := 188) (by decide +kernel) rfl, rfl, rfl, by decide +kernel⟩
theorem fH_RX0_67 : ho_f yH RX0 9 TX9 9 67 0 0 .int false := ⟨rfl, by decide, gt_2 (i := 125) (by decide +kernel) rfl, rfl, rfl, by decide +kernel⟩
theorem fH_RX0_104 : ho_f yH RX0 8 TX8 8 104 1 2 (.array .int) true := ⟨rfl, by decide, gt_2 (i := 81) (by decide +kernel) rfl, rfl, rfl, by decide +kernel⟩
theorem fH_RX0_117 : ho_f yH RX0 9 TX9 9 117 4 2 (.array .int) true := ⟨rfl, by decide, gt_2 (i := 144) (by decide +kernel) rfl, rfl, rfl, by decide +kernel⟩
theorem fH_RX0_126 : ho_f yH RX0 9 TX9 9 126 1 0 .int false := ⟨rfl, by decide, gt_2 (i := 130) (by decide +kernel) rfl, rfl, rfl, by decide +kernel⟩
theorem fH_RX0_129 : ho_f yH RX0 9 TX9 9 129 2 0 .int false := ⟨rfl, by decide, gt_2 (i := 136) (by decide +kernel) rfl, rfl, rfl, by decide +kernel⟩
theorem fH_RX1_9 : ho_f yH RX1 1 TX1 9 9 0 0 .int false := ⟨rfl, by decide, gt_2 (i := 239) (by decide +kernel) rfl, rfl, rfl, by decide +kernel⟩
theorem fH_RX1_15 : ho_f yH RX1 1 TX1 9 15 1 0 .int false := ⟨rfl, by decide, gt_3 (i := 1) (by decide +kernel) rfl, rfl, rfl, by decide +kernel⟩
theorem fH_RX1_18 : ho_f yH RX1 1 TX1 9 18 2 0 .int false := ⟨rfl, by decide, gt_3 (i := 3) (by decide +kernel) rfl, rfl, rfl, by decide +kernel⟩
theorem fH_RX1_21 : ho_f yH RX1 1 TX1 9 21 3 0 .int false := ⟨rfl, by decide, gt_3 (i := 5) (by decide +kernel) rfl, rfl, rfl, by decide +kernel⟩
theorem fH_RX1_24 : ho_f yH RX1 1 TX1 9 24 5 2 (.array .int) true := ⟨rfl, by decide, gt_3 (i := 8) (by decide +kernel) rfl, rfl, rfl, by decide +kernel⟩
theorem fH_RX1_28 : ho_f yH RX1 1 TX1 9 28 6 2 (.array .int) true := ⟨rfl, by decide, gt_3 (i := 9) (by decide +kernel) rfl, rfl, rfl, by decide +kernel⟩
theorem fH_RX1_31 : ho_f yH RX1 1 TX1 9 31 7 2 (.array .int) true := ⟨rfl, by decide, gt_3 (i := 10) (by decide +kernel) rfl, rfl, rfl, by decide +kernel⟩
theorem fH_RX1_36 : ho_f yH RX1 1 TX1 9 36 8 2 (.array (.array .int)) true := ⟨rfl, by decide, gt_3 (i := 11) (by decide +kernel) rfl, rfl, rfl, by decide +kernel⟩
theorem fH_RX1_39 : ho_f yH RX1 1 TX1 9 39 4 2 (.object "EmptyHat$Stage") true := ⟨rfl, by decide, gt_3 (i := 7) (by decide +kernel) rfl, rfl, rfl, by decide +kernel⟩
theorem fH_RX1_43 : ho_f yH RX1 10 TX10 11 43 1 0 .int false := ⟨rfl, by decide, gt_1 (i := 79) (by decide +kernel) rfl, rfl, rfl, by decide +kernel⟩
theorem fH_RX1_48 : ho_f yH RX1 8 TX8 8 48 0 3 (.object "EmptyHat$Crown") false := ⟨rfl, by decide, gt_2 (i := 77) (by decide +kernel) rfl, rfl, rfl, by decide +kernel⟩
theorem fH_RX1_80 : ho_f yH RX1 2 TX2 16 80 5 2 (.array .int) true := ⟨rfl, by decide, gt_1 (i := 175) (by decide +kernel) rfl, rfl, rfl, by decide +kernel⟩
theorem fH_RX1_87 : ho_f yH RX1 8 TX8 8 87 2 2 (.array .int) true := ⟨rfl, by decide, gt_2 (i := 84) (by decide +kernel) rfl, rfl, rfl, by decide +kernel⟩
theorem fH_RX10_9 : ho_f yH RX10 10 TX10 11 9 0 2 (.array .byte) true := ⟨rfl, by decide, gt_1 (i := 77) (by decide +kernel) rfl, rfl, rfl, by decide +kernel⟩
theorem fH_RX10_15 : ho_f yH RX10 10 TX10 11 15 1 0 .int false := ⟨rfl, by decide, gt_1 (i := 78) (by decide +kernel) rfl, rfl, rfl, by decide +kernel⟩
theorem fH_RX10_19 : ho_f yH RX10 10 TX10 11 19 2 0 .int false := ⟨rfl, by decide, gt_1 (i := 82) (by decide +kernel) rfl, rfl, rfl, by decide +kernel⟩
theorem fH_RX10_22 : ho_f yH RX10 10 TX10 11 22 3 0 .int false := ⟨rfl, by decide, gt_1 (i := 84) (by decide +kernel) rfl, rfl, rfl, by decide +kernel⟩
theorem fH_RX10_25 : ho_f yH RX10 10 TX10 11 25 4 0 .int false := ⟨rfl, by decide, gt_1 (i := 86) (by decide +kernel) rfl, rfl, rfl, by decide +kernel⟩
theorem fH_RX10_28 : ho_f yH RX10 10 TX10 11 28 5 0 .int false := ⟨rfl, by decide, gt_1 (i := 90) (by decide +kernel) rfl, rfl, rfl, by decide +kernel⟩
theorem fH_RX10_31 : ho_f yH RX10 10 TX10 11 31 6 0 .int false := ⟨rfl, by decide, gt_1 (i := 94) (by decide +kernel) rfl, rfl, rfl, by decide +kernel⟩
theorem fH_RX10_34 : ho_f yH RX10 10 TX10 11 34 7 0 .int false := ⟨rfl, by decide, gt_1 (i := 98) (by decide +kernel) rfl, rfl, rfl, by decide +kernel⟩
theorem fH_RX10_37 : ho_f yH RX10 10 TX10 11 37 8 0 .int false := ⟨rfl, by decide, gt_1 (i := 100) (by decide +kernel) rfl, rfl, rfl, by decide +kernel⟩
theorem fH_RX10_40 : ho_f yH RX10 10 TX10 11 40 9 0 .int false := ⟨rfl, by decide, gt_1 (i := 103) (by decide +kernel) rfl, rfl, rfl, by decide +kernel⟩
theorem fH_RX10_43 : ho_f yH RX10 10 TX10 11 43 10 2 (.array .int) true := ⟨rfl, by decide, gt_1 (i := 104) (by decide +kernel) rfl, rfl, rfl, by decide +kernel⟩
theorem fH_RX11_10 : ho_f yH RX11 11 TX11 17 10 0 2 (.object "EmptyHat$Text") true := ⟨rfl, by decide, gt_3 (i := 52) (by decide +kernel) rfl, rfl, rfl, by decide +kernel⟩
theorem fH_RX11_19 : ho_f yH RX11 11 TX11 17 19 1 3 (.object "EmptyHat$Crown") false := ⟨rfl, by decide, gt_3 (i := 53) (by decide +kernel) rfl, rfl, rfl, by decide +kernel⟩
theorem fH_RX11_23 : ho_f yH RX11 11 TX11 17 23 2 3 (.object "EmptyHat$Crown") false := ⟨rfl, by decide, gt_3 (i := 54) (by decide +kernel) rfl, rfl, rfl, by decide +kernel⟩
theorem fH_RX11_31 : ho_f yH RX11 11 TX11 17 31 3 2 (.object "EmptyHat$CrownReader") true := ⟨rfl, by decide, gt_3 (i := 55) (by decide +kernel) rfl, rfl, rfl, by decide +kernel⟩
theorem fH_RX11_40 : ho_f yH RX11 11 TX11 17 40 4 2 (.object "EmptyHat$Question") true := ⟨rfl, by decide, gt_3 (i := 56) (by decide +kernel) rfl, rfl, rfl, by decide +kernel⟩
theorem fH_RX11_49 : ho_f yH RX11 11 TX11 17 49 5 2 (.object "EmptyHat$Stage") true := ⟨rfl, by decide, gt_3 (i := 57) (by decide +kernel) rfl, rfl, rfl, by decide +kernel⟩
theorem fH_RX11_58 : ho_f yH RX11 11 TX11 17 58 6 2 (.object "EmptyHat$Ahead") true := ⟨rfl, by decide, gt_3 (i := 58) (by decide +kernel) rfl, rfl, rfl, by decide +kernel⟩
theorem fH_RX11_65 : ho_f yH RX11 11 TX11 17 65 7 2 (.object "EmptyHat$Counted") true := ⟨rfl, by decide, gt_3 (i := 59) (by decide +kernel) rfl, rfl, rfl, by decide +kernel⟩
theorem fH_RX11_72 : ho_f yH RX11 11 TX11 17 72 8 2 (.object "EmptyHat$Image") true := ⟨rfl, by decide, gt_3 (i := 60) (by decide +kernel) rfl, rfl, rfl, by decide +kernel⟩
theorem fH_RX11_79 : ho_f yH RX11 11 TX11 17 79 9 2 (.object "EmptyHat$State") true := ⟨rfl, by decide, gt_3 (i := 61) (by decide +kernel) rfl, rfl, rfl, by decide +kernel⟩
theorem fH_RX11_83 : ho_f yH RX11 11 TX11 17 83 10 2 (.object "EmptyHat$State") true := ⟨rfl, by decide, gt_3 (i := 62) (by decide +kernel) rfl, rfl, rfl, by decide +kernel⟩
theorem fH_RX11_86 : ho_f yH RX11 11 TX11 17 86 11 2 (.array (.object "EmptyHat$State")) true := ⟨rfl, by decide, gt_3 (i := 63) (by decide +kernel) rfl, rfl, rfl, by decide +kernel⟩
theorem fH_RX11_90 : ho_f yH RX11 11 TX11 17 90 12 2 (.array .int) true := ⟨rfl, by decide, gt_3 (i := 64) (by decide +kernel) rfl, rfl, rfl, by decide +kernel⟩
theorem fH_RX11_94 : ho_f yH RX11 11 TX11 17 94 13 0 .boolean false := ⟨rfl, by decide, gt_3 (i := 65) (by decide +kernel) rfl, rfl, rfl, by decide +kernel⟩
theorem fH_RX11_98 : ho_f yH RX11 11 TX11 17 98 14 0 .int false := ⟨rfl, by decide, gt_3 (i := 66) (by decide +kernel) rfl, rfl, rfl, by decide +kernel⟩
theorem fH_RX11_102 : ho_f yH RX11 11 TX11 17 102 15 0 .int false := ⟨rfl, by decide, gt_3 (i := 67) (by decide +kernel) rfl, rfl, rfl, by decide +kernel⟩
theorem fH_RX11_105 : ho_f yH RX11 11 TX11 17 105 16 0 .int false := ⟨rfl, by decide, gt_3 (i := 68) (by decide +kernel) rfl, rfl, rfl, by decide +kernel⟩
theorem fH_RX11_108 : ho_f yH RX11 10 TX10 11 108 1 0 .int false := ⟨rfl, by decide, gt_1 (i := 80) (by decide +kernel) rfl, rfl, rfl, by decide +kernel⟩
theorem fH_RX11_127 : ho_f yH RX11 8 TX8 8 127 0 3 (.object "EmptyHat$Crown") false := ⟨rfl, by decide, gt_2 (i := 79) (by decide +kernel) rfl, rfl, rfl, by decide +kernel⟩
theorem fH_RX11_131 : ho_f yH RX11 1 TX1 9 131 0 0 .int false := ⟨rfl, by decide, gt_3 (i := 0) (by decide +kernel) rfl, rfl, rfl, by decide +kernel⟩
theorem fH_RX11_137 : ho_f yH RX11 3 TX3 5 137 4 0 .int false := ⟨rfl, by decide, gt_2 (i := 32) (by decide +kernel) rfl, rfl, rfl, by decide +kernel⟩
theorem fH_RX11_140 : ho_f yH RX11 10 TX10 11 140 2 0 .int false := ⟨rfl, by decide, gt_1 (i := 83) (by decide +kernel) rfl, rfl, rfl, by decide +kernel⟩
theorem fH_RX11_143 : ho_f yH RX11 10 TX10 11 143 3 0 .int false := ⟨rfl, by decide, gt_1 (i := 85) (by decide +kernel) rfl, rfl, rfl, by decide +kernel⟩
theorem fH_RX11_146 : ho_f yH RX11 2 TX2 16 146 5 2 (.array .int) true := ⟨rfl, by decide, gt_1 (i := 176) (by decide +kernel) rfl, rfl, rfl, by decide +kernel⟩
theorem fH_RX11_149 : ho_f yH RX11 9 TX9 9 149 0 0 .int false := ⟨rfl, by decide, gt_2 (i := 126) (by decide +kernel) rfl, rfl, rfl, by decide +kernel⟩
theorem fH_RX11_152 : ho_f yH RX11 9 TX9 9 152 1 0 .int false := ⟨rfl, by decide, gt_2 (i := 129) (by decide +kernel) rfl, rfl, rfl, by decide +kernel⟩
theorem fH_RX11_155 : ho_f yH RX11 9 TX9 9 155 2 0 .int false := ⟨rfl, by decide, gt_2 (i := 134) (by decide +kernel) rfl, rfl, rfl, by decide +kernel⟩
theorem fH_RX11_170 : ho_f yH RX11 9 TX9 9 170 7 0 .int false := ⟨rfl, by decide, gt_2 (i := 156) (by decide +kernel) rfl, rfl, rfl, by decide +kernel⟩
theorem fH_RX11_177 : ho_f yH RX11 2 TX2 16 177 6 2 (.array (.array .int)) true := ⟨rfl, by decide, gt_1 (i := 179) (by decide +kernel) rfl, rfl, rfl, by decide +kernel⟩
theorem fH_RX11_181 : ho_f yH RX11 9 TX9 9 181 3 2 (.array .int) true := ⟨rfl, by decide, gt_2 (i := 140) (by decide +kernel) rfl, rfl, rfl, by decide +kernel⟩
theorem fH_RX11_184 : ho_f yH RX11 2 TX2 16 184 8 2 (.array .int) true := ⟨rfl, by decide, gt_1 (i := 186) (by decide +kernel) rfl, rfl, rfl, by decide +kernel⟩
theorem fH_RX11_190 : ho_f yH RX11 2 TX2 16 190 9 2 (.array .int) true := ⟨rfl, by decide, gt_1 (i := 190) (by decide +kernel) rfl, rfl, rfl, by decide +kernel⟩
theorem fH_RX11_193 : ho_f yH RX11 2 TX2 16 193 10 2 (.array .int) true := ⟨rfl, by decide, gt_1 (i := 194) (by decide +kernel) rfl, rfl, rfl, by decide +kernel⟩
theorem fH_RX11_196 : ho_f yH RX11 2 TX2 16 196 11 2 (.array .int) true := ⟨rfl, by decide, gt_1 (i := 198) (by decide +kernel) rfl, rfl, rfl, by decide +kernel⟩
theorem fH_RX11_199 : ho_f yH RX11 9 TX9 9 199 4 2 (.array .int) true := ⟨rfl, by decide, gt_2 (i := 145) (by decide +kernel) rfl, rfl, rfl, by decide +kernel⟩
theorem fH_RX11_202 : ho_f yH RX11 9 TX9 9 202 5 2 (.array .int) true := ⟨rfl, by decide, gt_2 (i := 149) (by decide +kernel) rfl, rfl, rfl, by decide +kernel⟩
theorem fH_RX11_209 : ho_f yH RX11 9 TX9 9 209 6 2 (.array .int) true := ⟨rfl, by decide, gt_2 (i := 153) (by decide +kernel) rfl, rfl, rfl, by decide +kernel⟩
theorem fH_RX11_212 : ho_f yH RX11 2 TX2 16 212 13 2 (.array .int) true := ⟨rfl, by decide, gt_1 (i := 205) (by decide +kernel) rfl, rfl, rfl, by decide +kernel⟩
theorem fH_RX11_223 : ho_f yH RX11 9 TX9 9 223 8 2 (.array .int) true := ⟨rfl, by decide, gt_2 (i := 158) (by decide +kernel) rfl, rfl, rfl, by decide +kernel⟩
theorem fH_RX11_239 : ho_f yH RX11 8 TX8 8 239 3 0 .int false := ⟨rfl, by decide, gt_2 (i := 86) (by decide +kernel) rfl, rfl, rfl, by decide +kernel⟩
theorem fH_RX11_242 : ho_f yH RX11 8 TX8 8 242 4 0 .int false := ⟨rfl, by decide, gt_2 (i := 88) (by decide +kernel) rfl, rfl, rfl, by decide +kernel⟩
theorem fH_RX11_245 : ho_f yH RX11 8 TX8 8 245 5 0 .int false := ⟨rfl, by decide, gt_2 (i := 90) (by decide +kernel) rfl, rfl, rfl, by decide +kernel⟩
theorem fH_RX11_258 : ho_f yH RX11 0 TX0 16 258 0 2 (.array .int) true := ⟨rfl, by decide, gt_2 (i := 179) (by decide +kernel) rfl, rfl, rfl, by decide +kernel⟩
theorem fH_RX11_261 : ho_f yH RX11 0 TX0 16 261 1 2 (.array .int) true := ⟨rfl, by decide, gt_2 (i := 181) (by decide +kernel) rfl, rfl, rfl, by decide +kernel⟩
theorem fH_RX11_264 : ho_f yH RX11 0 TX0 16 264 2 2 (.array .int) true := ⟨rfl, by decide, gt_2 (i := 183) (by decide +kernel) rfl, rfl, rfl, by decide +kernel⟩
theorem fH_RX11_267 : ho_f yH RX11 0 TX0 16 267 3 2 (.array .int) true := ⟨rfl, by decide, gt_2 (i := 185) (by decide +kernel) rfl, rfl, rfl, by decide +kernel⟩
theorem fH_RX11_273 : ho_f yH RX11 0 TX0 16 273 4 2 (.array .int) true := ⟨rfl, by decide, gt_2 (i := 187) (by decide +kernel) rfl, rfl, rfl, by decide +kernel⟩
theorem fH_RX11_286 : ho_f yH RX11 1 TX1 9 286 1 0 .int false := ⟨rfl, by decide, gt_3 (i := 2) (by decide +kernel) rfl, rfl, rfl, by decide +kernel⟩
theorem fH_RX11_297 : ho_f yH RX11 1 TX1 9 297 2 0 .int false := ⟨rfl, by decide, gt_3 (i := 4) (by decide +kernel) rfl, rfl, rfl, by decide +kernel⟩
theorem fH_RX11_298 : ho_f yH RX11 1 TX1 9 298 3 0 .int false := ⟨rfl, by decide, gt_3 (i := 6) (by decide +kernel) rfl, rfl, rfl, by decide +kernel⟩
theorem fH_RX11_307 : ho_f yH RX11 8 TX8 8 307 1 2 (.array .int) true := ⟨rfl, by decide, gt_2 (i := 82) (by decide +kernel) rfl, rfl, rfl, by decide +kernel⟩
theorem fH_RX11_321 : ho_f yH RX11 2 TX2 16 321 0 0 .int false := ⟨rfl, by decide, gt_1 (i := 157) (by decide +kernel) rfl, rfl, rfl, by decide +kernel⟩
theorem fH_RX11_344 : ho_f yH RX11 5 TX5 3 344 1 0 .int false := ⟨rfl, by decide, gt_3 (i := 40) (by decide +kernel) rfl, rfl, rfl, by decide +kernel⟩
theorem fH_RX11_345 : ho_f yH RX11 5 TX5 3 345 0 2 (.array .int) true := ⟨rfl, by decide, gt_3 (i := 38) (by decide +kernel) rfl, rfl, rfl, by decide +kernel⟩
theorem fH_RX11_365 : ho_f yH RX11 2 TX2 16 365 4 0 .int false := ⟨rfl, by decide, gt_1 (i := 169) (by decide +kernel) rfl, rfl, rfl, by decide +kernel⟩
theorem fH_RX2_21 : ho_f yH RX2 2 TX2 16 21 3 0 .int false := ⟨rfl, by decide, gt_1 (i := 164) (by decide +kernel) rfl, rfl, rfl, by decide +kernel⟩
theorem fH_RX2_24 : ho_f yH RX2 2 TX2 16 24 4 0 .int false := ⟨rfl, by decide, gt_1 (i := 167) (by decide +kernel) rfl, rfl, rfl, by decide +kernel⟩
theorem fH_RX2_27 : ho_f yH RX2 2 TX2 16 27 5 2 (.array .int) true := ⟨rfl, by decide, gt_1 (i := 170) (by decide +kernel) rfl, rfl, rfl, by decide +kernel⟩
theorem fH_RX2_33 : ho_f yH RX2 2 TX2 16 33 6 2 (.array (.array .int)) true := ⟨rfl, by decide, gt_1 (i := 177) (by decide +kernel) rfl, rfl, rfl, by decide +kernel⟩
theorem fH_RX2_45 : ho_f yH RX2 2 TX2 16 45 10 2 (.array .int) true := ⟨rfl, by decide, gt_1 (i := 191) (by decide +kernel) rfl, rfl, rfl, by decide +kernel⟩
theorem fH_RX2_60 : ho_f yH RX2 2 TX2 16 60 14 2 (.object "EmptyHat$Formula") true := ⟨rfl, by decide, gt_1 (i := 207) (by decide +kernel) rfl, rfl, rfl, by decide +kernel⟩
theorem fH_RX2_64 : ho_f yH RX2 2 TX2 16 64 15 2 (.object "EmptyHat$Formula") true := ⟨rfl, by decide, gt_1 (i := 209) (by decide +kernel) rfl, rfl, rfl, by decide +kernel⟩
theorem fH_RX3_11 : ho_f yH RX3 3 TX3 5 11 3 0 .int false := ⟨rfl, by decide, gt_2 (i := 30) (by decide +kernel) rfl, rfl, rfl, by decide +kernel⟩
theorem fH_RX3_17 : ho_f yH RX3 3 TX3 5 17 4 0 .int false := ⟨rfl, by decide, gt_2 (i := 31) (by decide +kernel) rfl, rfl, rfl, by decide +kernel⟩
theorem fH_RX3_20 : ho_f yH RX3 3 TX3 5 20 0 2 (.object "EmptyHat$Text") true := ⟨rfl, by decide, gt_2 (i := 27) (by decide +kernel) rfl, rfl, rfl, by decide +kernel⟩
theorem fH_RX3_24 : ho_f yH RX3 3 TX3 5 24 2 3 (.object "EmptyHat$Crown") false := ⟨rfl, by decide, gt_2 (i := 29) (by decide +kernel) rfl, rfl, rfl, by decide +kernel⟩
theorem fH_RX3_30 : ho_f yH RX3 2 TX2 16 30 14 2 (.object "EmptyHat$Formula") true := ⟨rfl, by decide, gt_1 (i := 206) (by decide +kernel) rfl, rfl, rfl, by decide +kernel⟩
theorem fH_RX3_39 : ho_f yH RX3 3 TX3 5 39 1 2 (.object "EmptyHat$Reader") true := ⟨rfl, by decide, gt_2 (i := 28) (by decide +kernel) rfl, rfl, rfl, by decide +kernel⟩
theorem fH_RX3_57 : ho_f yH RX3 10 TX10 11 57 4 0 .int false := ⟨rfl, by decide, gt_1 (i := 88) (by decide +kernel) rfl, rfl, rfl, by decide +kernel⟩
theorem fH_RX3_63 : ho_f yH RX3 10 TX10 11 63 5 0 .int false := ⟨rfl, by decide, gt_1 (i := 92) (by decide +kernel) rfl, rfl, rfl, by decide +kernel⟩
theorem fH_RX3_77 : ho_f yH RX3 10 TX10 11 77 8 0 .int false := ⟨rfl, by decide, gt_1 (i := 101) (by decide +kernel) rfl, rfl, rfl, by decide +kernel⟩
theorem fH_RX3_80 : ho_f yH RX3 2 TX2 16 80 0 0 .int false := ⟨rfl, by decide, gt_1 (i := 155) (by decide +kernel) rfl, rfl, rfl, by decide +kernel⟩
theorem fH_RX3_83 : ho_f yH RX3 2 TX2 16 83 1 0 .int false := ⟨rfl, by decide, gt_1 (i := 160) (by decide +kernel) rfl, rfl, rfl, by decide +kernel⟩
theorem fH_RX3_86 : ho_f yH RX3 2 TX2 16 86 2 0 .int false := ⟨rfl, by decide, gt_1 (i := 162) (by decide +kernel) rfl, rfl, rfl, by decide +kernel⟩
theorem fH_RX3_89 : ho_f yH RX3 10 TX10 11 89 6 0 .int false := ⟨rfl, by decide, gt_1 (i := 96) (by decide +kernel) rfl, rfl, rfl, by decide +kernel⟩
theorem fH_RX3_112 : ho_f yH RX3 2 TX2 16 112 15 2 (.object "EmptyHat$Formula") true := ⟨rfl, by decide, gt_1 (i := 210) (by decide +kernel) rfl, rfl, rfl, by decide +kernel⟩
theorem fH_RX3_122 : ho_f yH RX3 2 TX2 16 122 5 2 (.array .int) true := ⟨rfl, by decide, gt_1 (i := 174) (by decide +kernel) rfl, rfl, rfl, by decide +kernel⟩
theorem fH_RX3_132 : ho_f yH RX3 10 TX10 11 132 7 0 .int false := ⟨rfl, by decide, gt_1 (i := 99) (by decide +kernel) rfl, rfl, rfl, by decide +kernel⟩
theorem fH_RX3_139 : ho_f yH RX3 2 TX2 16 139 6 2 (.array (.array .int)) true := ⟨rfl, by decide, gt_1 (i := 178) (by decide +kernel) rfl, rfl, rfl, by decide +kernel⟩
theorem fH_RX3_143 : ho_f yH RX3 2 TX2 16 143 7 2 (.array .int) true := ⟨rfl, by decide, gt_1 (i := 182) (by decide +kernel) rfl, rfl, rfl, by decide +kernel⟩
theorem fH_RX3_146 : ho_f yH RX3 2 TX2 16 146 8 2 (.array .int) true := ⟨rfl, by decide, gt_1 (i := 184) (by decide +kernel) rfl, rfl, rfl, by decide +kernel⟩
theorem fH_RX3_149 : ho_f yH RX3 2 TX2 16 149 9 2 (.array .int) true := ⟨rfl, by decide, gt_1 (i := 189) (by decide +kernel) rfl, rfl, rfl, by decide +kernel⟩
theorem fH_RX3_152 : ho_f yH RX3 2 TX2 16 152 10 2 (.array .int) true := ⟨rfl, by decide, gt_1 (i := 193) (by decide +kernel) rfl, rfl, rfl, by decide +kernel⟩
theorem fH_RX3_155 : ho_f yH RX3 2 TX2 16 155 11 2 (.array .int) true := ⟨rfl, by decide, gt_1 (i := 197) (by decide +kernel) rfl, rfl, rfl, by decide +kernel⟩
theorem fH_RX3_158 : ho_f yH RX3 2 TX2 16 158 12 2 (.array .int) true := ⟨rfl, by decide, gt_1 (i := 201) (by decide +kernel) rfl, rfl, rfl, by decide +kernel⟩
theorem fH_RX3_161 : ho_f yH RX3 2 TX2 16 161 13 2 (.array .int) true := ⟨rfl, by decide, gt_1 (i := 204) (by decide +kernel) rfl, rfl, rfl, by decide +kernel⟩
theorem fH_RX3_164 : ho_f yH RX3 2 TX2 16 164 3 0 .int false := ⟨rfl, by decide, gt_1 (i := 166) (by decide +kernel) rfl, rfl, rfl, by decide +kernel⟩
theorem fH_RX3_167 : ho_f yH RX3 2 TX2 16 167 4 0 .int false := ⟨rfl, by decide, gt_1 (i := 168) (by decide +kernel) rfl, rfl, rfl, by decide +kernel⟩
theorem fH_RX4_11 : ho_f yH RX4 4 TX4 3 11 0 2 (.array .int) true := ⟨rfl, by decide, gt_1 (i := 144) (by decide +kernel) rfl, rfl, rfl, by decide +kernel⟩
theorem fH_RX4_17 : ho_f yH RX4 4 TX4 3 17 1 2 (.array .int) true := ⟨rfl, by decide, gt_1 (i := 145) (by decide +kernel) rfl, rfl, rfl, by decide +kernel⟩
theorem fH_RX4_20 : ho_f yH RX4 4 TX4 3 20 2 0 .int false := ⟨rfl, by decide, gt_1 (i := 146) (by decide +kernel) rfl, rfl, rfl, by decide +kernel⟩
theorem fH_RX5_11 : ho_f yH RX5 5 TX5 3 11 0 2 (.array .int) true := ⟨rfl, by decide, gt_3 (i := 37) (by decide +kernel) rfl, rfl, rfl, by decide +kernel⟩
theorem fH_RX5_15 : ho_f yH RX5 5 TX5 3 15 1 0 .int false := ⟨rfl, by decide, gt_3 (i := 39) (by decide +kernel) rfl, rfl, rfl, by decide +kernel⟩
theorem fH_RX5_19 : ho_f yH RX5 5 TX5 3 19 2 0 .int false := ⟨rfl, by decide, gt_3 (i := 41) (by decide +kernel) rfl, rfl, rfl, by decide +kernel⟩
theorem fH_RX5_22 : ho_f yH RX5 9 TX9 9 22 0 0 .int false := ⟨rfl, by decide, gt_2 (i := 123) (by decide +kernel) rfl, rfl, rfl, by decide +kernel⟩
theorem fH_RX5_31 : ho_f yH RX5 9 TX9 9 31 1 0 .int false := ⟨rfl, by decide, gt_2 (i := 128) (by decide +kernel) rfl, rfl, rfl, by decide +kernel⟩
theorem fH_RX5_34 : ho_f yH RX5 9 TX9 9 34 2 0 .int false := ⟨rfl, by decide, gt_2 (i := 133) (by decide +kernel) rfl, rfl, rfl, by decide +kernel⟩
theorem fH_RX5_37 : ho_f yH RX5 2 TX2 16 37 5 2 (.array .int) true := ⟨rfl, by decide, gt_1 (i := 171) (by decide +kernel) rfl, rfl, rfl, by decide +kernel⟩
theorem fH_RX5_42 : ho_f yH RX5 9 TX9 9 42 3 2 (.array .int) true := ⟨rfl, by decide, gt_2 (i := 138) (by decide +kernel) rfl, rfl, rfl, by decide +kernel⟩
theorem fH_RX5_45 : ho_f yH RX5 9 TX9 9 45 4 2 (.array .int) true := ⟨rfl, by decide, gt_2 (i := 143) (by decide +kernel) rfl, rfl, rfl, by decide +kernel⟩
theorem fH_RX5_48 : ho_f yH RX5 9 TX9 9 48 5 2 (.array .int) true := ⟨rfl, by decide, gt_2 (i := 147) (by decide +kernel) rfl, rfl, rfl, by decide +kernel⟩
theorem fH_RX5_51 : ho_f yH RX5 9 TX9 9 51 6 2 (.array .int) true := ⟨rfl, by decide, gt_2 (i := 151) (by decide +kernel) rfl, rfl, rfl, by decide +kernel⟩
theorem fH_RX5_54 : ho_f yH RX5 10 TX10 11 54 1 0 .int false := ⟨rfl, by decide, gt_1 (i := 81) (by decide +kernel) rfl, rfl, rfl, by decide +kernel⟩
theorem fH_RX5_66 : ho_f yH RX5 9 TX9 9 66 7 0 .int false := ⟨rfl, by decide, gt_2 (i := 155) (by decide +kernel) rfl, rfl, rfl, by decide +kernel⟩
theorem fH_RX6_14 : ho_f yH RX6 6 TX6 5 14 2 2 (.object "EmptyHat$Formula") true := ⟨rfl, by decide, gt_2 (i := 56) (by decide +kernel) rfl, rfl, rfl, by decide +kernel⟩
theorem fH_RX6_20 : ho_f yH RX6 6 TX6 5 20 3 2 (.array .int) true := ⟨rfl, by decide, gt_2 (i := 57) (by decide +kernel) rfl, rfl, rfl, by decide +kernel⟩
theorem fH_RX6_24 : ho_f yH RX6 6 TX6 5 24 4 0 .int false := ⟨rfl, by decide, gt_2 (i := 58) (by decide +kernel) rfl, rfl, rfl, by decide +kernel⟩
theorem fH_RX6_28 : ho_f yH RX6 6 TX6 5 28 0 2 (.object "EmptyHat$Text") true := ⟨rfl, by decide, gt_2 (i := 54) (by decide +kernel) rfl, rfl, rfl, by decide +kernel⟩
theorem fH_RX6_37 : ho_f yH RX6 6 TX6 5 37 1 2 (.object "EmptyHat$Reader") true := ⟨rfl, by decide, gt_2 (i := 55) (by decide +kernel) rfl, rfl, rfl, by decide +kernel⟩
theorem fH_RX6_44 : ho_f yH RX6 10 TX10 11 44 4 0 .int false := ⟨rfl, by decide, gt_1 (i := 87) (by decide +kernel) rfl, rfl, rfl, by decide +kernel⟩
theorem fH_RX6_47 : ho_f yH RX6 10 TX10 11 47 6 0 .int false := ⟨rfl, by decide, gt_1 (i := 95) (by decide +kernel) rfl, rfl, rfl, by decide +kernel⟩
theorem fH_RX6_50 : ho_f yH RX6 10 TX10 11 50 5 0 .int false := ⟨rfl, by decide, gt_1 (i := 91) (by decide +kernel) rfl, rfl, rfl, by decide +kernel⟩
theorem fH_RX6_70 : ho_f yH RX6 8 TX8 8 70 0 3 (.object "EmptyHat$Crown") false := ⟨rfl, by decide, gt_2 (i := 78) (by decide +kernel) rfl, rfl, rfl, by decide +kernel⟩
theorem fH_RX6_76 : ho_f yH RX6 2 TX2 16 76 5 2 (.array .int) true := ⟨rfl, by decide, gt_1 (i := 173) (by decide +kernel) rfl, rfl, rfl, by decide +kernel⟩
theorem fH_RX7_9 : ho_f yH RX7 7 TX7 3 9 2 0 .int false := ⟨rfl, by decide, gt_2 (i := 19) (by decide +kernel) rfl, rfl, rfl, by decide +kernel⟩
theorem fH_RX7_15 : ho_f yH RX7 7 TX7 3 15 0 2 (.object "EmptyHat$Text") true := ⟨rfl, by decide, gt_2 (i := 17) (by decide +kernel) rfl, rfl, rfl, by decide +kernel⟩
theorem fH_RX7_19 : ho_f yH RX7 7 TX7 3 19 1 3 (.object "EmptyHat$Formula") false := ⟨rfl, by decide, gt_2 (i := 18) (by decide +kernel) rfl, rfl, rfl, by decide +kernel⟩
theorem fH_RX7_70 : ho_f yH RX7 10 TX10 11 70 5 0 .int false := ⟨rfl, by decide, gt_1 (i := 93) (by decide +kernel) rfl, rfl, rfl, by decide +kernel⟩
theorem fH_RX7_83 : ho_f yH RX7 10 TX10 11 83 4 0 .int false := ⟨rfl, by decide, gt_1 (i := 89) (by decide +kernel) rfl, rfl, rfl, by decide +kernel⟩
theorem fH_RX7_89 : ho_f yH RX7 10 TX10 11 89 8 0 .int false := ⟨rfl, by decide, gt_1 (i := 102) (by decide +kernel) rfl, rfl, rfl, by decide +kernel⟩
theorem fH_RX7_99 : ho_f yH RX7 10 TX10 11 99 6 0 .int false := ⟨rfl, by decide, gt_1 (i := 97) (by decide +kernel) rfl, rfl, rfl, by decide +kernel⟩
theorem fH_RX8_9 : ho_f yH RX8 8 TX8 8 9 1 2 (.array .int) true := ⟨rfl, by decide, gt_2 (i := 80) (by decide +kernel) rfl, rfl, rfl, by decide +kernel⟩
theorem fH_RX8_15 : ho_f yH RX8 8 TX8 8 15 2 2 (.array .int) true := ⟨rfl, by decide, gt_2 (i := 83) (by decide +kernel) rfl, rfl, rfl, by decide +kernel⟩
theorem fH_RX8_18 : ho_f yH RX8 8 TX8 8 18 3 0 .int false := ⟨rfl, by decide, gt_2 (i := 85) (by decide +kernel) rfl, rfl, rfl, by decide +kernel⟩
theorem fH_RX8_22 : ho_f yH RX8 8 TX8 8 22 4 0 .int false := ⟨rfl, by decide, gt_2 (i := 87) (by decide +kernel) rfl, rfl, rfl, by decide +kernel⟩
theorem fH_RX8_25 : ho_f yH RX8 8 TX8 8 25 5 0 .int false := ⟨rfl, by decide, gt_2 (i := 89) (by decide +kernel) rfl, rfl, rfl, by decide +kernel⟩
theorem fH_RX8_30 : ho_f yH RX8 8 TX8 8 30 6 2 (.array .int) true := ⟨rfl, by decide, gt_2 (i := 91) (by decide +kernel) rfl, rfl, rfl, by decide +kernel⟩
theorem fH_RX8_33 : ho_f yH RX8 8 TX8 8 33 7 2 (.array .int) true := ⟨rfl, by decide, gt_2 (i := 92) (by decide +kernel) rfl, rfl, rfl, by decide +kernel⟩
theorem fH_RX8_36 : ho_f yH RX8 8 TX8 8 36 0 3 (.object "EmptyHat$Crown") false := ⟨rfl, by decide, gt_2 (i := 76) (by decide +kernel) rfl, rfl, rfl, by decide +kernel⟩
theorem fH_RX8_42 : ho_f yH RX8 2 TX2 16 42 11 2 (.array .int) true := ⟨rfl, by decide, gt_1 (i := 196) (by decide +kernel) rfl, rfl, rfl, by decide +kernel⟩
theorem fH_RX8_47 : ho_f yH RX8 9 TX9 9 47 4 2 (.array .int) true := ⟨rfl, by decide, gt_2 (i := 142) (by decide +kernel) rfl, rfl, rfl, by decide +kernel⟩
theorem fH_RX8_52 : ho_f yH RX8 9 TX9 9 52 0 0 .int false := ⟨rfl, by decide, gt_2 (i := 124) (by decide +kernel) rfl, rfl, rfl, by decide +kernel⟩
theorem fH_RX8_55 : ho_f yH RX8 2 TX2 16 55 13 2 (.array .int) true := ⟨rfl, by decide, gt_1 (i := 203) (by decide +kernel) rfl, rfl, rfl, by decide +kernel⟩
theorem fH_RX8_58 : ho_f yH RX8 2 TX2 16 58 14 2 (.object "EmptyHat$Formula") true := ⟨rfl, by decide, gt_1 (i := 208) (by decide +kernel) rfl, rfl, rfl, by decide +kernel⟩
theorem fH_RX8_75 : ho_f yH RX8 2 TX2 16 75 5 2 (.array .int) true := ⟨rfl, by decide, gt_1 (i := 172) (by decide +kernel) rfl, rfl, rfl, by decide +kernel⟩
theorem fH_RX8_78 : ho_f yH RX8 9 TX9 9 78 6 2 (.array .int) true := ⟨rfl, by decide, gt_2 (i := 152) (by decide +kernel) rfl, rfl, rfl, by decide +kernel⟩
theorem fH_RX8_93 : ho_f yH RX8 2 TX2 16 93 9 2 (.array .int) true := ⟨rfl, by decide, gt_1 (i := 188) (by decide +kernel) rfl, rfl, rfl, by decide +kernel⟩
theorem fH_RX8_96 : ho_f yH RX8 9 TX9 9 96 5 2 (.array .int) true := ⟨rfl, by decide, gt_2 (i := 148) (by decide +kernel) rfl, rfl, rfl, by decide +kernel⟩
theorem fH_RX8_99 : ho_f yH RX8 9 TX9 9 99 3 2 (.array .int) true := ⟨rfl, by decide, gt_2 (i := 139) (by decide +kernel) rfl, rfl, rfl, by decide +kernel⟩
theorem fH_RX8_102 : ho_f yH RX8 2 TX2 16 102 10 2 (.array .int) true := ⟨rfl, by decide, gt_1 (i := 192) (by decide +kernel) rfl, rfl, rfl, by decide +kernel⟩
theorem fH_RX8_105 : ho_f yH RX8 9 TX9 9 105 2 0 .int false := ⟨rfl, by decide, gt_2 (i := 135) (by decide +kernel) rfl, rfl, rfl, by decide +kernel⟩
theorem fH_RX8_112 : ho_f yH RX8 2 TX2 16 112 8 2 (.array .int) true := ⟨rfl, by decide, gt_1 (i := 185) (by decide +kernel) rfl, rfl, rfl, by decide +kernel⟩
theorem fH_RX8_133 : ho_f yH RX8 2 TX2 16 133 0 0 .int false := ⟨rfl, by decide, gt_1 (i := 156) (by decide +kernel) rfl, rfl, rfl, by decide +kernel⟩
theorem fH_RX8_162 : ho_f yH RX8 2 TX2 16 162 15 2 (.object "EmptyHat$Formula") true := ⟨rfl, by decide, gt_1 (i := 211) (by decide +kernel) rfl, rfl, rfl, by decide +kernel⟩
theorem fH_RX8_169 : ho_f yH RX8 9 TX9 9 169 1 0 .int false := ⟨rfl, by decide, gt_2 (i := 131) (by decide +kernel) rfl, rfl, rfl, by decide +kernel⟩
theorem fH_RX8_173 : ho_f yH RX8 2 TX2 16 173 2 0 .int false := ⟨rfl, by decide, gt_1 (i := 163) (by decide +kernel) rfl, rfl, rfl, by decide +kernel⟩
theorem fH_RX9_9 : ho_f yH RX9 9 TX9 9 9 0 0 .int false := ⟨rfl, by decide, gt_2 (i := 122) (by decide +kernel) rfl, rfl, rfl, by decide +kernel⟩
theorem fH_RX9_15 : ho_f yH RX9 9 TX9 9 15 1 0 .int false := ⟨rfl, by decide, gt_2 (i := 127) (by decide +kernel) rfl, rfl, rfl, by decide +kernel⟩
theorem fH_RX9_18 : ho_f yH RX9 9 TX9 9 18 2 0 .int false := ⟨rfl, by decide, gt_2 (i := 132) (by decide +kernel) rfl, rfl, rfl, by decide +kernel⟩
theorem fH_RX9_21 : ho_f yH RX9 9 TX9 9 21 3 2 (.array .int) true := ⟨rfl, by decide, gt_2 (i := 137) (by decide +kernel) rfl, rfl, rfl, by decide +kernel⟩
theorem fH_RX9_25 : ho_f yH RX9 9 TX9 9 25 4 2 (.array .int) true := ⟨rfl, by decide, gt_2 (i := 141) (by decide +kernel) rfl, rfl, rfl, by decide +kernel⟩
theorem fH_RX9_28 : ho_f yH RX9 9 TX9 9 28 5 2 (.array .int) true := ⟨rfl, by decide, gt_2 (i := 146) (by decide +kernel) rfl, rfl, rfl, by decide +kernel⟩
theorem fH_RX9_31 : ho_f yH RX9 9 TX9 9 31 6 2 (.array .int) true := ⟨rfl, by decide, gt_2 (i := 150) (by decide +kernel) rfl, rfl, rfl, by decide +kernel⟩
theorem fH_RX9_34 : ho_f yH RX9 9 TX9 9 34 7 0 .int false := ⟨rfl, by decide, gt_2 (i := 154) (by decide +kernel) rfl, rfl, rfl, by decide +kernel⟩
theorem fH_RX9_37 : ho_f yH RX9 9 TX9 9 37 8 2 (.array .int) true := ⟨rfl, by decide, gt_2 (i := 157) (by decide +kernel) rfl, rfl, rfl, by decide +kernel⟩
theorem fH_RX9_40 : ho_f yH RX9 2 TX2 16 40 1 0 .int false := ⟨rfl, by decide, gt_1 (i := 159) (by decide +kernel) rfl, rfl, rfl, by decide +kernel⟩
theorem fH_RX9_43 : ho_f yH RX9 2 TX2 16 43 3 0 .int false := ⟨rfl, by decide, gt_1 (i := 165) (by decide +kernel) rfl, rfl, rfl, by decide +kernel⟩
theorem fH_RX9_48 : ho_f yH RX9 2 TX2 16 48 7 2 (.array .int) true := ⟨rfl, by decide, gt_1 (i := 181) (by decide +kernel) rfl, rfl, rfl, by decide +kernel⟩
theorem fH_RX9_55 : ho_f yH RX9 2 TX2 16 55 12 2 (.array .int) true := ⟨rfl, by decide, gt_1 (i := 200) (by decide +kernel) rfl, rfl, rfl, by decide +kernel⟩
theorem kc_RJ6_265 : Cond.constant RJ6 265 (1431655765) ∈ gw := gt_4 (i := 70) (by decide +kernel) rfl
theorem kc_RJ6_266 : Cond.constant RJ6 266 (858993459) ∈ gw := gt_4 (i := 71) (by decide +kernel) rfl
theorem kc_RJ6_267 : Cond.constant RJ6 267 (252645135) ∈ gw := gt_4 (i := 72) (by decide +kernel) rfl
theorem kc_RX0_93 : Cond.constant RX0 93 (100000) ∈ gw := gt_5 (i := 22) (by decide +kernel) rfl
theorem kc_RX11_331 : Cond.constantLong RX11 331 (-1000000000000000) ∈ gw := gt_5 (i := 162) (by decide +kernel) rfl
theorem kc_RX11_374 : Cond.constantLong RX11 374 (1103515245) ∈ gw := gt_5 (i := 146) (by decide +kernel) rfl
theorem kc_RX11_376 : Cond.constantLong RX11 376 (12345) ∈ gw := gt_5 (i := 147) (by decide +kernel) rfl
theorem kc_RX11_378 : Cond.constantLong RX11 378 (2147483647) ∈ gw := gt_5 (i := 148) (by decide +kernel) rfl
theorem kc_RX3_107 : Cond.constant RX3 107 (199936) ∈ gw := gt_3 (i := 225) (by decide +kernel) rfl
theorem kc_RX3_115 : Cond.constant RX3 115 (213312) ∈ gw := gt_4 (i := 26) (by decide +kernel) rfl
theorem kc_RX4_52 : Cond.constantLong RX4 52 (-1000000) ∈ gw := gt_4 (i := 127) (by decide +kernel) rfl
theorem kc_RX4_54 : Cond.constantLong RX4 54 (1000000) ∈ gw := gt_4 (i := 128) (by decide +kernel) rfl
theorem kc_RX5_65 : Cond.constant RX5 65 (99999) ∈ gw := gt_6 (i := 1) (by decide +kernel) rfl
theorem kc_RX6_60 : Cond.constant RX6 60 (8323392) ∈ gw := gt_5 (i := 170) (by decide +kernel) rfl
theorem kc_RX6_68 : Cond.constantLong RX6 68 (-1) ∈ gw := gt_5 (i := 196) (by decide +kernel) rfl
theorem kc_RX8_172 : Cond.constant RX8 172 (99999) ∈ gw := gt_4 (i := 239) (by decide +kernel) rfl
theorem yv_X9_seenThrough : ho_yV yX9_seenThrough cX9_seenThrough 3 (some .int) 0 := ⟨⟨gt_4 (i := 66) rfl rfl, gt_1 (i := 14) (by decide +kernel) rfl, by decide +kernel⟩, gt_4 (i := 64) (by decide +kernel) rfl, gt_4 (i := 65) (by decide +kernel) rfl⟩
theorem yv_X9_allStores : ho_yV yX9_allStores cX9_allStores 3 (some .int) 0 := ⟨⟨gt_4 (i := 76) rfl rfl, gt_1 (i := 14) (by decide +kernel) rfl, by decide +kernel⟩, gt_4 (i := 74) (by decide +kernel) rfl, gt_4 (i := 75) (by decide +kernel) rfl⟩
theorem ys_J9_min_7cf53 : ho_yS yJ9_min_7cf53 cJ9_min_7cf53 2 (some .int) 2 := ⟨⟨gt_4 (i := 131) rfl rfl, gt_1 (i := 21) (by decide +kernel) rfl, by decide +kernel⟩, gt_4 (i := 130) (by decide +kernel) rfl⟩
theorem ys_X4_factAt : ho_yS yX4_factAt cX4_factAt 2 (some .int) 2 := ⟨⟨gt_4 (i := 108) rfl rfl, gt_1 (i := 8) (by decide +kernel) rfl, by decide +kernel⟩, gt_4 (i := 107) (by decide +kernel) rfl⟩
theorem ys_J9_floorDiv_f86c9 : ho_yS yJ9_floorDiv_f86c9 cJ9_floorDiv_f86c9 6 (some .long) 2 := ⟨⟨gt_4 (i := 117) rfl rfl, gt_1 (i := 21) (by decide +kernel) rfl, by decide +kernel⟩, gt_4 (i := 116) (by decide +kernel) rfl⟩
theorem ys_J9_min_f86c9 : ho_yS yJ9_min_f86c9 cJ9_min_f86c9 4 (some .long) 2 := ⟨⟨gt_4 (i := 120) rfl rfl, gt_1 (i := 21) (by decide +kernel) rfl, by decide +kernel⟩, gt_4 (i := 119) (by decide +kernel) rfl⟩
theorem ys_J9_max_f86c9 : ho_yS yJ9_max_f86c9 cJ9_max_f86c9 4 (some .long) 2 := ⟨⟨gt_4 (i := 123) rfl rfl, gt_1 (i := 21) (by decide +kernel) rfl, by decide +kernel⟩, gt_4 (i := 122) (by decide +kernel) rfl⟩
theorem ys_X4_joined : ho_yS yX4_joined cX4_joined 5 (some .long) 3 := ⟨⟨gt_4 (i := 114) rfl rfl, gt_1 (i := 8) (by decide +kernel) rfl, by decide +kernel⟩, gt_4 (i := 113) (by decide +kernel) rfl⟩
theorem ys_X4_bounded : ho_yS yX4_bounded cX4_bounded 2 (some .int) 1 := ⟨⟨gt_4 (i := 126) rfl rfl, gt_1 (i := 8) (by decide +kernel) rfl, by decide +kernel⟩, gt_4 (i := 125) (by decide +kernel) rfl⟩
theorem ys_X4_single : ho_yS yX4_single cX4_single 3 (some .int) 3 := ⟨⟨gt_4 (i := 111) rfl rfl, gt_1 (i := 8) (by decide +kernel) rfl, by decide +kernel⟩, gt_4 (i := 110) (by decide +kernel) rfl⟩
theorem yv_X4_value : ho_yV yX4_value cX4_value 5 (some .int) 1 := ⟨⟨gt_4 (i := 105) rfl rfl, gt_1 (i := 8) (by decide +kernel) rfl, by decide +kernel⟩, gt_4 (i := 103) (by decide +kernel) rfl, gt_4 (i := 104) (by decide +kernel) rfl⟩
theorem ys_J9_max_7cf53 : ho_yS yJ9_max_7cf53 cJ9_max_7cf53 2 (some .int) 2 := ⟨⟨gt_4 (i := 134) rfl rfl, gt_1 (i := 21) (by decide +kernel) rfl, by decide +kernel⟩, gt_4 (i := 133) (by decide +kernel) rfl⟩
theorem yv_X8_showable : ho_yV yX8_showable cX8_showable 2 (some .int) 1 := ⟨⟨gt_4 (i := 171) rfl rfl, gt_1 (i := 12) (by decide +kernel) rfl, by decide +kernel⟩, gt_4 (i := 169) (by decide +kernel) rfl, gt_4 (i := 170) (by decide +kernel) rfl⟩
theorem yv_X8_glimpse : ho_yV yX8_glimpse cX8_glimpse 5 (some .int) 4 := ⟨⟨gt_4 (i := 101) rfl rfl, gt_1 (i := 12) (by decide +kernel) rfl, by decide +kernel⟩, gt_4 (i := 99) (by decide +kernel) rfl, gt_4 (i := 100) (by decide +kernel) rfl⟩
theorem ys_J6_bitCount_0f7a4 : ho_yS yJ6_bitCount_0f7a4 cJ6_bitCount_0f7a4 1 (some .int) 1 := ⟨⟨gt_4 (i := 69) rfl rfl, gt_1 (i := 20) (by decide +kernel) rfl, by decide +kernel⟩, gt_4 (i := 68) (by decide +kernel) rfl⟩
theorem yv_X8_takeAll : ho_yV yX8_takeAll cX8_takeAll 7 (some .int) 2 := ⟨⟨gt_4 (i := 180) rfl rfl, gt_1 (i := 12) (by decide +kernel) rfl, by decide +kernel⟩, gt_4 (i := 178) (by decide +kernel) rfl, gt_4 (i := 179) (by decide +kernel) rfl⟩
theorem yv_X8_sightOfShow : ho_yV yX8_sightOfShow cX8_sightOfShow 4 (some .int) 1 := ⟨⟨gt_4 (i := 185) rfl rfl, gt_1 (i := 12) (by decide +kernel) rfl, by decide +kernel⟩, gt_4 (i := 184) (by decide +kernel) rfl, gw_of (i := 21) (by decide +kernel) rfl⟩
theorem yv_X8_isBetter : ho_yV yX8_isBetter cX8_isBetter 5 (some .boolean) 3 := ⟨⟨gt_4 (i := 189) rfl rfl, gt_1 (i := 12) (by decide +kernel) rfl, by decide +kernel⟩, gt_4 (i := 188) (by decide +kernel) rfl, gw_of (i := 22) (by decide +kernel) rfl⟩
theorem yv_X9_keep : ho_yV yX9_keep cX9_keep 3 none 1 := ⟨⟨gt_4 (i := 234) rfl rfl, gt_1 (i := 14) (by decide +kernel) rfl, by decide +kernel⟩, gt_4 (i := 232) (by decide +kernel) rfl, gt_4 (i := 233) (by decide +kernel) rfl⟩
theorem yv_X8_loseBelief : ho_yV yX8_loseBelief cX8_loseBelief 5 none 2 := ⟨⟨gt_4 (i := 230) rfl rfl, gt_1 (i := 12) (by decide +kernel) rfl, by decide +kernel⟩, gt_4 (i := 229) (by decide +kernel) rfl, gw_of (i := 25) (by decide +kernel) rfl⟩
theorem yv_X8_pay : ho_yV yX8_pay cX8_pay 4 none 2 := ⟨⟨gt_4 (i := 238) rfl rfl, gt_1 (i := 12) (by decide +kernel) rfl, by decide +kernel⟩, gt_4 (i := 237) (by decide +kernel) rfl, gw_of (i := 26) (by decide +kernel) rfl⟩
theorem yv_X8_ripen : ho_yV yX8_ripen cX8_ripen 3 none 1 := ⟨⟨gt_4 (i := 163) rfl rfl, gt_1 (i := 12) (by decide +kernel) rfl, by decide +kernel⟩, gt_4 (i := 161) (by decide +kernel) rfl, gt_4 (i := 162) (by decide +kernel) rfl⟩
theorem yv_X8_lookAtAll : ho_yV yX8_lookAtAll cX8_lookAtAll 5 none 1 := ⟨⟨gt_4 (i := 167) rfl rfl, gt_1 (i := 12) (by decide +kernel) rfl, by decide +kernel⟩, gt_4 (i := 165) (by decide +kernel) rfl, gt_4 (i := 166) (by decide +kernel) rfl⟩
theorem yv_X8_choose : ho_yV yX8_choose cX8_choose 6 none 1 := ⟨⟨gt_4 (i := 176) rfl rfl, gt_1 (i := 12) (by decide +kernel) rfl, by decide +kernel⟩, gt_4 (i := 174) (by decide +kernel) rfl, gt_4 (i := 175) (by decide +kernel) rfl⟩
theorem yv_X8_give : ho_yV yX8_give cX8_give 7 (some .int) 3 := ⟨⟨gt_4 (i := 226) rfl rfl, gt_1 (i := 12) (by decide +kernel) rfl, by decide +kernel⟩, gt_4 (i := 224) (by decide +kernel) rfl, gt_4 (i := 225) (by decide +kernel) rfl⟩
theorem yv_X8_passYear : ho_yV yX8_passYear cX8_passYear 2 (some .int) 1 := ⟨⟨gt_4 (i := 219) rfl rfl, gt_1 (i := 12) (by decide +kernel) rfl, by decide +kernel⟩, gt_4 (i := 217) (by decide +kernel) rfl, gt_4 (i := 218) (by decide +kernel) rfl⟩
theorem yv_X0_note : ho_yV yX0_note cX0_note 2 none 1 := ⟨⟨gt_4 (i := 213) rfl rfl, gt_1 (i := 13) (by decide +kernel) rfl, by decide +kernel⟩, gt_4 (i := 212) (by decide +kernel) rfl, gw_of (i := 24) (by decide +kernel) rfl⟩
theorem yv_X9_copy : ho_yV yX9_copy cX9_copy 2 none 1 := ⟨⟨gt_4 (i := 159) rfl rfl, gt_1 (i := 14) (by decide +kernel) rfl, by decide +kernel⟩, gt_4 (i := 157) (by decide +kernel) rfl, gt_4 (i := 158) (by decide +kernel) rfl⟩
theorem yv_X8_sightOfTrick : ho_yV yX8_sightOfTrick cX8_sightOfTrick 5 (some .int) 2 := ⟨⟨gt_4 (i := 97) rfl rfl, gt_1 (i := 12) (by decide +kernel) rfl, by decide +kernel⟩, gt_4 (i := 95) (by decide +kernel) rfl, gt_4 (i := 96) (by decide +kernel) rfl⟩
theorem yv_X0_lookAhead : ho_yV yX0_lookAhead cX0_lookAhead 3 none 1 := ⟨⟨gt_5 (i := 17) rfl rfl, gt_1 (i := 13) (by decide +kernel) rfl, by decide +kernel⟩, gt_5 (i := 16) (by decide +kernel) rfl, gw_of (i := 27) (by decide +kernel) rfl⟩
theorem yv_X0_pairWith : ho_yV yX0_pairWith cX0_pairWith 4 none 1 := ⟨⟨gt_5 (i := 27) rfl rfl, gt_1 (i := 13) (by decide +kernel) rfl, by decide +kernel⟩, gt_5 (i := 26) (by decide +kernel) rfl, gw_of (i := 28) (by decide +kernel) rfl⟩
theorem yv_X10_byteAt : ho_yV yX10_byteAt cX10_byteAt 2 (some .int) 1 := ⟨⟨gt_5 (i := 47) rfl rfl, gt_1 (i := 2) (by decide +kernel) rfl, by decide +kernel⟩, gt_5 (i := 45) (by decide +kernel) rfl, gt_5 (i := 46) (by decide +kernel) rfl⟩
theorem yv_X2_holds : ho_yV yX2_holds cX2_holds 3 (some .boolean) 2 := ⟨⟨gt_4 (i := 42) rfl rfl, gt_1 (i := 7) (by decide +kernel) rfl, by decide +kernel⟩, gt_4 (i := 40) (by decide +kernel) rfl, gt_4 (i := 41) (by decide +kernel) rfl⟩
theorem yv_X1_isSo : ho_yV yX1_isSo cX1_isSo 2 (some .boolean) 0 := ⟨⟨gt_5 (i := 66) rfl rfl, gt_1 (i := 15) (by decide +kernel) rfl, by decide +kernel⟩, gt_5 (i := 65) (by decide +kernel) rfl, gw_of (i := 30) (by decide +kernel) rfl⟩
theorem yv_X1_addFitting : ho_yV yX1_addFitting cX1_addFitting 3 none 1 := ⟨⟨gt_5 (i := 70) rfl rfl, gt_1 (i := 15) (by decide +kernel) rfl, by decide +kernel⟩, gt_5 (i := 69) (by decide +kernel) rfl, gw_of (i := 31) (by decide +kernel) rfl⟩
theorem yv_X1_mostLeft : ho_yV yX1_mostLeft cX1_mostLeft 6 (some .int) 1 := ⟨⟨gt_5 (i := 90) rfl rfl, gt_1 (i := 15) (by decide +kernel) rfl, by decide +kernel⟩, gt_5 (i := 89) (by decide +kernel) rfl, gw_of (i := 32) (by decide +kernel) rfl⟩
theorem ys_J7_fill_53178 : ho_yS yJ7_fill_53178 cJ7_fill_53178 4 none 2 := ⟨⟨gt_3 (i := 138) rfl rfl, gt_1 (i := 18) (by decide +kernel) rfl, by decide +kernel⟩, gt_3 (i := 137) (by decide +kernel) rfl⟩
theorem yv_X4_clear : ho_yV yX4_clear cX4_clear 1 none 0 := ⟨⟨gt_3 (i := 142) rfl rfl, gt_1 (i := 8) (by decide +kernel) rfl, by decide +kernel⟩, gt_3 (i := 140) (by decide +kernel) rfl, gt_3 (i := 141) (by decide +kernel) rfl⟩
theorem yv_X4_add : ho_yV yX4_add cX4_add 2 none 1 := ⟨⟨gt_3 (i := 146) rfl rfl, gt_1 (i := 8) (by decide +kernel) rfl, by decide +kernel⟩, gt_3 (i := 144) (by decide +kernel) rfl, gt_3 (i := 145) (by decide +kernel) rfl⟩
theorem yv_X10_readDigits : ho_yV yX10_readDigits cX10_readDigits 1 none 0 := ⟨⟨gt_3 (i := 162) rfl rfl, gt_1 (i := 2) (by decide +kernel) rfl, by decide +kernel⟩, gt_3 (i := 161) (by decide +kernel) rfl, gw_of (i := 3) (by decide +kernel) rfl⟩
theorem yv_X10_readWord : ho_yV yX10_readWord cX10_readWord 2 none 0 := ⟨⟨gt_3 (i := 158) rfl rfl, gt_1 (i := 2) (by decide +kernel) rfl, by decide +kernel⟩, gt_3 (i := 157) (by decide +kernel) rfl, gw_of (i := 2) (by decide +kernel) rfl⟩
theorem yv_X10_next : ho_yV yX10_next cX10_next 4 none 0 := ⟨⟨gt_3 (i := 154) rfl rfl, gt_1 (i := 2) (by decide +kernel) rfl, by decide +kernel⟩, gt_3 (i := 152) (by decide +kernel) rfl, gt_3 (i := 153) (by decide +kernel) rfl⟩
theorem yv_X10_isWord : ho_yV yX10_isWord cX10_isWord 2 (some .boolean) 1 := ⟨⟨gt_3 (i := 174) rfl rfl, gt_1 (i := 2) (by decide +kernel) rfl, by decide +kernel⟩, gt_3 (i := 172) (by decide +kernel) rfl, gt_3 (i := 173) (by decide +kernel) rfl⟩
theorem yv_X10_wrong : ho_yV yX10_wrong cX10_wrong 3 (some .boolean) 2 := ⟨⟨gt_3 (i := 178) rfl rfl, gt_1 (i := 2) (by decide +kernel) rfl, by decide +kernel⟩, gt_3 (i := 176) (by decide +kernel) rfl, gt_3 (i := 177) (by decide +kernel) rfl⟩
theorem yv_X10_takeWord : ho_yV yX10_takeWord cX10_takeWord 2 (some .boolean) 1 := ⟨⟨gt_3 (i := 170) rfl rfl, gt_1 (i := 2) (by decide +kernel) rfl, by decide +kernel⟩, gt_3 (i := 168) (by decide +kernel) rfl, gt_3 (i := 169) (by decide +kernel) rfl⟩
theorem yv_X10_takeNumber : ho_yV yX10_takeNumber cX10_takeNumber 3 (some .boolean) 2 := ⟨⟨gt_3 (i := 182) rfl rfl, gt_1 (i := 2) (by decide +kernel) rfl, by decide +kernel⟩, gt_3 (i := 180) (by decide +kernel) rfl, gt_3 (i := 181) (by decide +kernel) rfl⟩
theorem yv_X10_isSign : ho_yV yX10_isSign cX10_isSign 2 (some .boolean) 1 := ⟨⟨gt_3 (i := 190) rfl rfl, gt_1 (i := 2) (by decide +kernel) rfl, by decide +kernel⟩, gt_3 (i := 188) (by decide +kernel) rfl, gt_3 (i := 189) (by decide +kernel) rfl⟩
theorem yv_X10_nameHere : ho_yV yX10_nameHere cX10_nameHere 1 (some .boolean) 0 := ⟨⟨gt_3 (i := 204) rfl rfl, gt_1 (i := 2) (by decide +kernel) rfl, by decide +kernel⟩, gt_3 (i := 202) (by decide +kernel) rfl, gt_3 (i := 203) (by decide +kernel) rfl⟩
theorem yv_X2_numberOf : ho_yV yX2_numberOf cX2_numberOf 4 (some .int) 2 := ⟨⟨gt_3 (i := 208) rfl rfl, gt_1 (i := 7) (by decide +kernel) rfl, by decide +kernel⟩, gt_3 (i := 206) (by decide +kernel) rfl, gt_3 (i := 207) (by decide +kernel) rfl⟩
theorem yv_X7_facts : ho_yV yX7_facts cX7_facts 3 (some .boolean) 1 := ⟨⟨gt_5 (i := 182) rfl rfl, gt_1 (i := 10) (by decide +kernel) rfl, by decide +kernel⟩, gt_5 (i := 181) (by decide +kernel) rfl, gw_of (i := 39) (by decide +kernel) rfl⟩
theorem yv_X7_fact : ho_yV yX7_fact cX7_fact 2 (some .boolean) 1 := ⟨⟨gt_5 (i := 186) rfl rfl, gt_1 (i := 10) (by decide +kernel) rfl, by decide +kernel⟩, gt_5 (i := 185) (by decide +kernel) rfl, gw_of (i := 40) (by decide +kernel) rfl⟩
theorem yv_X7_compared : ho_yV yX7_compared cX7_compared 3 (some .boolean) 1 := ⟨⟨gt_5 (i := 190) rfl rfl, gt_1 (i := 10) (by decide +kernel) rfl, by decide +kernel⟩, gt_5 (i := 189) (by decide +kernel) rfl, gw_of (i := 41) (by decide +kernel) rfl⟩
theorem yv_X7_opens : ho_yV yX7_opens cX7_opens 2 (some .boolean) 1 := ⟨⟨gt_4 (i := 13) rfl rfl, gt_1 (i := 10) (by decide +kernel) rfl, by decide +kernel⟩, gt_4 (i := 12) (by decide +kernel) rfl, gw_of (i := 15) (by decide +kernel) rfl⟩
theorem yv_X7_test : ho_yV yX7_test cX7_test 3 (some .boolean) 1 := ⟨⟨gt_5 (i := 178) rfl rfl, gt_1 (i := 10) (by decide +kernel) rfl, by decide +kernel⟩, gt_5 (i := 177) (by decide +kernel) rfl, gw_of (i := 38) (by decide +kernel) rfl⟩
theorem yv_X10_takeSign : ho_yV yX10_takeSign cX10_takeSign 2 (some .boolean) 1 := ⟨⟨gt_3 (i := 186) rfl rfl, gt_1 (i := 2) (by decide +kernel) rfl, by decide +kernel⟩, gt_3 (i := 184) (by decide +kernel) rfl, gt_3 (i := 185) (by decide +kernel) rfl⟩
theorem yv_X7_sum : ho_yV yX7_sum cX7_sum 4 (some .boolean) 1 := ⟨⟨gt_3 (i := 238) rfl rfl, gt_1 (i := 10) (by decide +kernel) rfl, by decide +kernel⟩, gt_3 (i := 237) (by decide +kernel) rfl, gw_of (i := 12) (by decide +kernel) rfl⟩
theorem yv_X7_product : ho_yV yX7_product cX7_product 4 (some .boolean) 1 := ⟨⟨gt_4 (i := 2) rfl rfl, gt_1 (i := 10) (by decide +kernel) rfl, by decide +kernel⟩, gt_4 (i := 1) (by decide +kernel) rfl, gw_of (i := 13) (by decide +kernel) rfl⟩
theorem yv_X7_part : ho_yV yX7_part cX7_part 2 (some .boolean) 1 := ⟨⟨gt_4 (i := 6) rfl rfl, gt_1 (i := 10) (by decide +kernel) rfl, by decide +kernel⟩, gt_4 (i := 5) (by decide +kernel) rfl, gw_of (i := 14) (by decide +kernel) rfl⟩
theorem yv_X7_oneOfTwo : ho_yV yX7_oneOfTwo cX7_oneOfTwo 3 (some .boolean) 1 := ⟨⟨gt_4 (i := 21) rfl rfl, gt_1 (i := 10) (by decide +kernel) rfl, by decide +kernel⟩, gt_4 (i := 20) (by decide +kernel) rfl, gw_of (i := 16) (by decide +kernel) rfl⟩
theorem yv_X7_isPart : ho_yV yX7_isPart cX7_isPart 1 (some .boolean) 0 := ⟨⟨gt_4 (i := 25) rfl rfl, gt_1 (i := 10) (by decide +kernel) rfl, by decide +kernel⟩, gt_4 (i := 24) (by decide +kernel) rfl, gw_of (i := 17) (by decide +kernel) rfl⟩
theorem yv_X7_aim : ho_yV yX7_aim cX7_aim 3 none 2 := ⟨⟨gt_3 (i := 233) rfl rfl, gt_1 (i := 10) (by decide +kernel) rfl, by decide +kernel⟩, gt_3 (i := 232) (by decide +kernel) rfl, gw_of (i := 11) (by decide +kernel) rfl⟩
theorem yv_X3_oneMore : ho_yV yX3_oneMore cX3_oneMore 5 (some .boolean) 2 := ⟨⟨gt_3 (i := 199) rfl rfl, gt_1 (i := 9) (by decide +kernel) rfl, by decide +kernel⟩, gt_3 (i := 198) (by decide +kernel) rfl, gw_of (i := 6) (by decide +kernel) rfl⟩
theorem yv_X3_newProvince : ho_yV yX3_newProvince cX3_newProvince 2 (some .boolean) 0 := ⟨⟨gt_3 (i := 212) rfl rfl, gt_1 (i := 9) (by decide +kernel) rfl, by decide +kernel⟩, gt_3 (i := 211) (by decide +kernel) rfl, gw_of (i := 7) (by decide +kernel) rfl⟩
theorem yv_X3_newTrick : ho_yV yX3_newTrick cX3_newTrick 3 (some .boolean) 0 := ⟨⟨gt_3 (i := 216) rfl rfl, gt_1 (i := 9) (by decide +kernel) rfl, by decide +kernel⟩, gt_3 (i := 215) (by decide +kernel) rfl, gw_of (i := 8) (by decide +kernel) rfl⟩
theorem yv_X3_newWatcher : ho_yV yX3_newWatcher cX3_newWatcher 2 (some .boolean) 0 := ⟨⟨gt_3 (i := 220) rfl rfl, gt_1 (i := 9) (by decide +kernel) rfl, by decide +kernel⟩, gt_3 (i := 219) (by decide +kernel) rfl, gw_of (i := 9) (by decide +kernel) rfl⟩
theorem yv_X3_onlyOne : ho_yV yX3_onlyOne cX3_onlyOne 2 (some .boolean) 0 := ⟨⟨gt_3 (i := 224) rfl rfl, gt_1 (i := 9) (by decide +kernel) rfl, by decide +kernel⟩, gt_3 (i := 223) (by decide +kernel) rfl, gw_of (i := 10) (by decide +kernel) rfl⟩
theorem yv_X7_readSum : ho_yV yX7_readSum cX7_readSum 3 (some .boolean) 2 := ⟨⟨gt_3 (i := 229) rfl rfl, gt_1 (i := 10) (by decide +kernel) rfl, by decide +kernel⟩, gt_3 (i := 227) (by decide +kernel) rfl, gt_3 (i := 228) (by decide +kernel) rfl⟩
theorem yv_X3_beliefAtFirst : ho_yV yX3_beliefAtFirst cX3_beliefAtFirst 1 (some .boolean) 0 := ⟨⟨gt_4 (i := 30) rfl rfl, gt_1 (i := 9) (by decide +kernel) rfl, by decide +kernel⟩, gt_4 (i := 29) (by decide +kernel) rfl, gw_of (i := 18) (by decide +kernel) rfl⟩
theorem yv_X3_boysOfHundred : ho_yV yX3_boysOfHundred cX3_boysOfHundred 1 (some .boolean) 0 := ⟨⟨gt_4 (i := 34) rfl rfl, gt_1 (i := 9) (by decide +kernel) rfl, by decide +kernel⟩, gt_4 (i := 33) (by decide +kernel) rfl, gw_of (i := 19) (by decide +kernel) rfl⟩
theorem yv_X2_clear : ho_yV yX2_clear cX2_clear 1 none 0 := ⟨⟨gt_3 (i := 135) rfl rfl, gt_1 (i := 7) (by decide +kernel) rfl, by decide +kernel⟩, gt_3 (i := 133) (by decide +kernel) rfl, gt_3 (i := 134) (by decide +kernel) rfl⟩
theorem yv_X10_begin : ho_yV yX10_begin cX10_begin 1 none 0 := ⟨⟨gt_3 (i := 150) rfl rfl, gt_1 (i := 2) (by decide +kernel) rfl, by decide +kernel⟩, gt_3 (i := 148) (by decide +kernel) rfl, gt_3 (i := 149) (by decide +kernel) rfl⟩
theorem yv_X3_treasury : ho_yV yX3_treasury cX3_treasury 1 (some .boolean) 0 := ⟨⟨gt_3 (i := 166) rfl rfl, gt_1 (i := 9) (by decide +kernel) rfl, by decide +kernel⟩, gt_3 (i := 165) (by decide +kernel) rfl, gw_of (i := 4) (by decide +kernel) rfl⟩
theorem yv_X3_statement : ho_yV yX3_statement cX3_statement 1 (some .boolean) 0 := ⟨⟨gt_3 (i := 194) rfl rfl, gt_1 (i := 9) (by decide +kernel) rfl, by decide +kernel⟩, gt_3 (i := 193) (by decide +kernel) rfl, gw_of (i := 5) (by decide +kernel) rfl⟩
theorem yv_X5_put : ho_yV yX5_put cX5_put 4 none 2 := ⟨⟨gt_5 (i := 220) rfl rfl, gt_1 (i := 16) (by decide +kernel) rfl, by decide +kernel⟩, gt_5 (i := 219) (by decide +kernel) rfl, gw_of (i := 43) (by decide +kernel) rfl⟩
theorem ys_X5_isChecked : ho_yS yX5_isChecked cX5_isChecked 3 (some .boolean) 1 := ⟨⟨gt_5 (i := 235) rfl rfl, gt_1 (i := 16) (by decide +kernel) rfl, by decide +kernel⟩, gt_5 (i := 234) (by decide +kernel) rfl⟩
theorem yv_X5_take : ho_yV yX5_take cX5_take 5 (some .int) 2 := ⟨⟨gt_6 (i := 0) rfl rfl, gt_1 (i := 16) (by decide +kernel) rfl, by decide +kernel⟩, gt_5 (i := 239) (by decide +kernel) rfl, gw_of (i := 44) (by decide +kernel) rfl⟩
theorem yv_X7_readTest : ho_yV yX7_readTest cX7_readTest 3 (some .boolean) 2 := ⟨⟨gt_5 (i := 174) rfl rfl, gt_1 (i := 10) (by decide +kernel) rfl, by decide +kernel⟩, gt_5 (i := 172) (by decide +kernel) rfl, gt_5 (i := 173) (by decide +kernel) rfl⟩
theorem yv_X8_describe : ho_yV yX8_describe cX8_describe 7 none 3 := ⟨⟨gt_5 (i := 200) rfl rfl, gt_1 (i := 12) (by decide +kernel) rfl, by decide +kernel⟩, gt_5 (i := 198) (by decide +kernel) rfl, gt_5 (i := 199) (by decide +kernel) rfl⟩
theorem yv_X6_with : ho_yV yX6_with cX6_with 5 (some .long) 3 := ⟨⟨gt_5 (i := 206) rfl rfl, gt_1 (i := 11) (by decide +kernel) rfl, by decide +kernel⟩, gt_5 (i := 205) (by decide +kernel) rfl, gw_of (i := 42) (by decide +kernel) rfl⟩
theorem yv_X8_seenByAny : ho_yV yX8_seenByAny cX8_seenByAny 4 (some .int) 1 := ⟨⟨gt_5 (i := 103) rfl rfl, gt_1 (i := 12) (by decide +kernel) rfl, by decide +kernel⟩, gt_5 (i := 102) (by decide +kernel) rfl, gw_of (i := 33) (by decide +kernel) rfl⟩
theorem yv_X10_append : ho_yV yX10_append cX10_append 3 none 1 := ⟨⟨gt_3 (i := 115) rfl rfl, gt_1 (i := 2) (by decide +kernel) rfl, by decide +kernel⟩, gt_3 (i := 113) (by decide +kernel) rfl, gt_3 (i := 114) (by decide +kernel) rfl⟩
theorem yv_X11_refuse : ho_yV yX11_refuse cX11_refuse 2 (some .int) 1 := ⟨⟨gt_3 (i := 111) rfl rfl, gt_1 (i := 1) (by decide +kernel) rfl, by decide +kernel⟩, gt_3 (i := 110) (by decide +kernel) rfl, gw_of (i := 0) (by decide +kernel) rfl⟩
theorem yv_X11_refuses : ho_yV yX11_refuses cX11_refuses 2 (some .boolean) 1 := ⟨⟨gt_3 (i := 123) rfl rfl, gt_1 (i := 1) (by decide +kernel) rfl, by decide +kernel⟩, gt_3 (i := 122) (by decide +kernel) rfl, gw_of (i := 1) (by decide +kernel) rfl⟩
theorem yv_X0_forget : ho_yV yX0_forget cX0_forget 1 none 0 := ⟨⟨gt_4 (i := 54) rfl rfl, gt_1 (i := 13) (by decide +kernel) rfl, by decide +kernel⟩, gt_4 (i := 52) (by decide +kernel) rfl, gt_4 (i := 53) (by decide +kernel) rfl⟩
theorem yv_X3_readInto : ho_yV yX3_readInto cX3_readInto 2 (some .boolean) 1 := ⟨⟨gt_3 (i := 131) rfl rfl, gt_1 (i := 9) (by decide +kernel) rfl, by decide +kernel⟩, gt_3 (i := 129) (by decide +kernel) rfl, gt_3 (i := 130) (by decide +kernel) rfl⟩
theorem yv_X9_startOf : ho_yV yX9_startOf cX9_startOf 3 none 1 := ⟨⟨gt_4 (i := 38) rfl rfl, gt_1 (i := 14) (by decide +kernel) rfl, by decide +kernel⟩, gt_4 (i := 36) (by decide +kernel) rfl, gt_4 (i := 37) (by decide +kernel) rfl⟩
theorem yv_X11_forgetPast : ho_yV yX11_forgetPast cX11_forgetPast 1 none 0 := ⟨⟨gt_4 (i := 50) rfl rfl, gt_1 (i := 1) (by decide +kernel) rfl, by decide +kernel⟩, gt_4 (i := 49) (by decide +kernel) rfl, gw_of (i := 20) (by decide +kernel) rfl⟩
theorem yv_X2_tricksFrom : ho_yV yX2_tricksFrom cX2_tricksFrom 4 (some .int) 1 := ⟨⟨gt_4 (i := 89) rfl rfl, gt_1 (i := 7) (by decide +kernel) rfl, by decide +kernel⟩, gt_4 (i := 87) (by decide +kernel) rfl, gt_4 (i := 88) (by decide +kernel) rfl⟩
theorem yv_X8_sightFrom : ho_yV yX8_sightFrom cX8_sightFrom 6 (some .int) 3 := ⟨⟨gt_4 (i := 142) rfl rfl, gt_1 (i := 12) (by decide +kernel) rfl, by decide +kernel⟩, gt_4 (i := 140) (by decide +kernel) rfl, gt_4 (i := 141) (by decide +kernel) rfl⟩
theorem yv_X11_canGive : ho_yV yX11_canGive cX11_canGive 2 (some .boolean) 1 := ⟨⟨gt_4 (i := 198) rfl rfl, gt_1 (i := 1) (by decide +kernel) rfl, by decide +kernel⟩, gt_4 (i := 197) (by decide +kernel) rfl, gw_of (i := 23) (by decide +kernel) rfl⟩
theorem yv_X0_reach : ho_yV yX0_reach cX0_reach 4 (some .boolean) 2 := ⟨⟨gt_4 (i := 208) rfl rfl, gt_1 (i := 13) (by decide +kernel) rfl, by decide +kernel⟩, gt_4 (i := 206) (by decide +kernel) rfl, gt_4 (i := 207) (by decide +kernel) rfl⟩
theorem yv_X0_findPair : ho_yV yX0_findPair cX0_findPair 4 none 1 := ⟨⟨gt_5 (i := 11) rfl rfl, gt_1 (i := 13) (by decide +kernel) rfl, by decide +kernel⟩, gt_5 (i := 9) (by decide +kernel) rfl, gt_5 (i := 10) (by decide +kernel) rfl⟩
theorem yv_X0_worth : ho_yV yX0_worth cX0_worth 2 (some .int) 1 := ⟨⟨gt_5 (i := 35) rfl rfl, gt_1 (i := 13) (by decide +kernel) rfl, by decide +kernel⟩, gt_5 (i := 33) (by decide +kernel) rfl, gt_5 (i := 34) (by decide +kernel) rfl⟩
theorem yv_X1_readFrom : ho_yV yX1_readFrom cX1_readFrom 4 (some .boolean) 1 := ⟨⟨gt_5 (i := 43) rfl rfl, gt_1 (i := 15) (by decide +kernel) rfl, by decide +kernel⟩, gt_5 (i := 41) (by decide +kernel) rfl, gt_5 (i := 42) (by decide +kernel) rfl⟩
theorem yv_X1_find : ho_yV yX1_find cX1_find 4 none 1 := ⟨⟨gt_5 (i := 60) rfl rfl, gt_1 (i := 15) (by decide +kernel) rfl, by decide +kernel⟩, gt_5 (i := 58) (by decide +kernel) rfl, gt_5 (i := 59) (by decide +kernel) rfl⟩
theorem yv_X11_findCounted : ho_yV yX11_findCounted cX11_findCounted 1 none 0 := ⟨⟨gt_5 (i := 56) rfl rfl, gt_1 (i := 1) (by decide +kernel) rfl, by decide +kernel⟩, gt_5 (i := 55) (by decide +kernel) rfl, gw_of (i := 29) (by decide +kernel) rfl⟩
theorem yv_X1_inAll : ho_yV yX1_inAll cX1_inAll 3 (some .int) 0 := ⟨⟨gt_5 (i := 74) rfl rfl, gt_1 (i := 15) (by decide +kernel) rfl, by decide +kernel⟩, gt_5 (i := 72) (by decide +kernel) rfl, gt_5 (i := 73) (by decide +kernel) rfl⟩
theorem yv_X1_inSome : ho_yV yX1_inSome cX1_inSome 3 (some .int) 0 := ⟨⟨gt_5 (i := 78) rfl rfl, gt_1 (i := 15) (by decide +kernel) rfl, by decide +kernel⟩, gt_5 (i := 76) (by decide +kernel) rfl, gt_5 (i := 77) (by decide +kernel) rfl⟩
theorem yv_X1_choose : ho_yV yX1_choose cX1_choose 3 none 0 := ⟨⟨gt_5 (i := 86) rfl rfl, gt_1 (i := 15) (by decide +kernel) rfl, by decide +kernel⟩, gt_5 (i := 84) (by decide +kernel) rfl, gt_5 (i := 85) (by decide +kernel) rfl⟩
theorem yv_X8_fewestWatchers : ho_yV yX8_fewestWatchers cX8_fewestWatchers 8 (some .int) 2 := ⟨⟨gt_5 (i := 99) rfl rfl, gt_1 (i := 12) (by decide +kernel) rfl, by decide +kernel⟩, gt_5 (i := 97) (by decide +kernel) rfl, gt_5 (i := 98) (by decide +kernel) rfl⟩
theorem yv_X11_remember : ho_yV yX11_remember cX11_remember 1 none 0 := ⟨⟨gt_5 (i := 115) rfl rfl, gt_1 (i := 1) (by decide +kernel) rfl, by decide +kernel⟩, gt_5 (i := 114) (by decide +kernel) rfl, gw_of (i := 34) (by decide +kernel) rfl⟩
theorem yv_X11_canPass : ho_yV yX11_canPass cX11_canPass 2 (some .boolean) 1 := ⟨⟨gt_5 (i := 132) rfl rfl, gt_1 (i := 1) (by decide +kernel) rfl, by decide +kernel⟩, gt_5 (i := 131) (by decide +kernel) rfl, gw_of (i := 35) (by decide +kernel) rfl⟩
theorem yv_X11_draw : ho_yV yX11_draw cX11_draw 2 (some .int) 1 := ⟨⟨gt_5 (i := 145) rfl rfl, gt_1 (i := 1) (by decide +kernel) rfl, by decide +kernel⟩, gt_5 (i := 144) (by decide +kernel) rfl, gw_of (i := 37) (by decide +kernel) rfl⟩
theorem yv_X11_boyTells : ho_yV yX11_boyTells cX11_boyTells 3 (some .boolean) 0 := ⟨⟨gt_5 (i := 141) rfl rfl, gt_1 (i := 1) (by decide +kernel) rfl, by decide +kernel⟩, gt_5 (i := 140) (by decide +kernel) rfl, gw_of (i := 36) (by decide +kernel) rfl⟩
theorem yv_X6_readAll : ho_yV yX6_readAll cX6_readAll 2 (some .boolean) 0 := ⟨⟨gt_5 (i := 166) rfl rfl, gt_1 (i := 11) (by decide +kernel) rfl, by decide +kernel⟩, gt_5 (i := 164) (by decide +kernel) rfl, gt_5 (i := 165) (by decide +kernel) rfl⟩
theorem yv_X6_answer : ho_yV yX6_answer cX6_answer 6 (some .long) 2 := ⟨⟨gt_5 (i := 195) rfl rfl, gt_1 (i := 11) (by decide +kernel) rfl, by decide +kernel⟩, gt_5 (i := 193) (by decide +kernel) rfl, gt_5 (i := 194) (by decide +kernel) rfl⟩
theorem yv_X5_write : ho_yV yX5_write cX5_write 5 none 2 := ⟨⟨gt_5 (i := 216) rfl rfl, gt_1 (i := 16) (by decide +kernel) rfl, by decide +kernel⟩, gt_5 (i := 214) (by decide +kernel) rfl, gt_5 (i := 215) (by decide +kernel) rfl⟩
theorem yv_X5_read : ho_yV yX5_read cX5_read 5 none 3 := ⟨⟨gt_6 (i := 5) rfl rfl, gt_1 (i := 16) (by decide +kernel) rfl, by decide +kernel⟩, gt_6 (i := 3) (by decide +kernel) rfl, gt_6 (i := 4) (by decide +kernel) rfl⟩
theorem yv_X5_readable : ho_yV yX5_readable cX5_readable 7 (some .boolean) 2 := ⟨⟨gt_5 (i := 232) rfl rfl, gt_1 (i := 16) (by decide +kernel) rfl, by decide +kernel⟩, gt_5 (i := 230) (by decide +kernel) rfl, gt_5 (i := 231) (by decide +kernel) rfl⟩
theorem lk_RX0_101 : Cond.methodLink RX0 101 yX8_lookAtAll ∈ gw := gt_5 (i := 18) (by decide +kernel) rfl
theorem lk_RX0_113 : Cond.methodLink RX0 113 yX8_sightOfTrick ∈ gw := gt_5 (i := 20) (by decide +kernel) rfl
theorem lk_RX0_120 : Cond.methodLink RX0 120 yJ9_min_7cf53 ∈ gw := gt_5 (i := 21) (by decide +kernel) rfl
theorem lk_RX0_132 : Cond.methodLink RX0 132 yX9_seenThrough ∈ gw := gt_4 (i := 214) (by decide +kernel) rfl
theorem lk_RX0_136 : Cond.methodLink RX0 136 yX9_allStores ∈ gw := gt_4 (i := 215) (by decide +kernel) rfl
theorem lk_RX0_70 : Cond.methodLink RX0 70 yX9_copy ∈ gw := gt_4 (i := 209) (by decide +kernel) rfl
theorem lk_RX0_74 : Cond.methodLink RX0 74 yX0_note ∈ gw := gt_4 (i := 210) (by decide +kernel) rfl
theorem lk_RX0_78 : Cond.methodLink RX0 78 yX8_passYear ∈ gw := gt_4 (i := 216) (by decide +kernel) rfl
theorem lk_RX0_84 : Cond.methodLink RX0 84 yX8_ripen ∈ gw := gt_5 (i := 12) (by decide +kernel) rfl
theorem lk_RX0_87 : Cond.methodLink RX0 87 yX8_showable ∈ gw := gt_5 (i := 13) (by decide +kernel) rfl
theorem lk_RX0_90 : Cond.methodLink RX0 90 yX0_lookAhead ∈ gw := gt_5 (i := 14) (by decide +kernel) rfl
theorem lk_RX0_94 : Cond.methodLink RX0 94 yX8_give ∈ gw := gt_5 (i := 23) (by decide +kernel) rfl
theorem lk_RX0_98 : Cond.methodLink RX0 98 yX0_pairWith ∈ gw := gt_5 (i := 24) (by decide +kernel) rfl
theorem lk_RX10_55 : Cond.methodLink RX10 55 yX10_next ∈ gw := gt_3 (i := 151) (by decide +kernel) rfl
theorem lk_RX10_58 : Cond.methodLink RX10 58 yX10_readWord ∈ gw := gt_3 (i := 155) (by decide +kernel) rfl
theorem lk_RX10_61 : Cond.methodLink RX10 61 yX10_readDigits ∈ gw := gt_3 (i := 159) (by decide +kernel) rfl
theorem lk_RX10_64 : Cond.methodLink RX10 64 yX10_isWord ∈ gw := gt_3 (i := 171) (by decide +kernel) rfl
theorem lk_RX10_68 : Cond.methodLink RX10 68 yX10_wrong ∈ gw := gt_3 (i := 175) (by decide +kernel) rfl
theorem lk_RX10_72 : Cond.methodLink RX10 72 yX10_isSign ∈ gw := gt_3 (i := 187) (by decide +kernel) rfl
theorem lk_RX11_111 : Cond.methodLink RX11 111 yX11_refuse ∈ gw := gt_3 (i := 108) (by decide +kernel) rfl
theorem lk_RX11_115 : Cond.methodLink RX11 115 yX10_append ∈ gw := gt_3 (i := 112) (by decide +kernel) rfl
theorem lk_RX11_119 : Cond.methodLink RX11 119 yX11_refuses ∈ gw := gt_3 (i := 120) (by decide +kernel) rfl
theorem lk_RX11_123 : Cond.methodLink RX11 123 yX3_readInto ∈ gw := gt_3 (i := 128) (by decide +kernel) rfl
theorem lk_RX11_128 : Cond.methodLink RX11 128 yX9_startOf ∈ gw := gt_4 (i := 35) (by decide +kernel) rfl
theorem lk_RX11_134 : Cond.methodLink RX11 134 yX11_forgetPast ∈ gw := gt_4 (i := 47) (by decide +kernel) rfl
theorem lk_RX11_158 : Cond.methodLink RX11 158 yX9_seenThrough ∈ gw := gt_4 (i := 63) (by decide +kernel) rfl
theorem lk_RX11_162 : Cond.methodLink RX11 162 yJ6_bitCount_0f7a4 ∈ gw := gt_4 (i := 67) (by decide +kernel) rfl
theorem lk_RX11_167 : Cond.methodLink RX11 167 yX9_allStores ∈ gw := gt_4 (i := 73) (by decide +kernel) rfl
theorem lk_RX11_173 : Cond.methodLink RX11 173 yX2_holds ∈ gw := gt_4 (i := 81) (by decide +kernel) rfl
theorem lk_RX11_187 : Cond.methodLink RX11 187 yX2_tricksFrom ∈ gw := gt_4 (i := 86) (by decide +kernel) rfl
theorem lk_RX11_205 : Cond.methodLink RX11 205 yX8_sightOfTrick ∈ gw := gt_4 (i := 94) (by decide +kernel) rfl
theorem lk_RX11_215 : Cond.methodLink RX11 215 yX8_sightFrom ∈ gw := gt_4 (i := 139) (by decide +kernel) rfl
theorem lk_RX11_219 : Cond.methodLink RX11 219 yX8_glimpse ∈ gw := gt_4 (i := 147) (by decide +kernel) rfl
theorem lk_RX11_226 : Cond.methodLink RX11 226 yX9_copy ∈ gw := gt_4 (i := 156) (by decide +kernel) rfl
theorem lk_RX11_230 : Cond.methodLink RX11 230 yX8_ripen ∈ gw := gt_4 (i := 160) (by decide +kernel) rfl
theorem lk_RX11_233 : Cond.methodLink RX11 233 yX8_lookAtAll ∈ gw := gt_4 (i := 164) (by decide +kernel) rfl
theorem lk_RX11_236 : Cond.methodLink RX11 236 yX8_choose ∈ gw := gt_4 (i := 173) (by decide +kernel) rfl
theorem lk_RX11_248 : Cond.methodLink RX11 248 yX11_canGive ∈ gw := gt_4 (i := 195) (by decide +kernel) rfl
theorem lk_RX11_251 : Cond.methodLink RX11 251 yX8_takeAll ∈ gw := gt_4 (i := 200) (by decide +kernel) rfl
theorem lk_RX11_254 : Cond.methodLink RX11 254 yX0_reach ∈ gw := gt_4 (i := 205) (by decide +kernel) rfl
theorem lk_RX11_270 : Cond.methodLink RX11 270 yX0_findPair ∈ gw := gt_5 (i := 8) (by decide +kernel) rfl
theorem lk_RX11_276 : Cond.methodLink RX11 276 yX0_worth ∈ gw := gt_5 (i := 32) (by decide +kernel) rfl
theorem lk_RX11_279 : Cond.methodLink RX11 279 yX1_readFrom ∈ gw := gt_5 (i := 40) (by decide +kernel) rfl
theorem lk_RX11_283 : Cond.methodLink RX11 283 yX11_findCounted ∈ gw := gt_5 (i := 53) (by decide +kernel) rfl
theorem lk_RX11_289 : Cond.methodLink RX11 289 yX1_inAll ∈ gw := gt_5 (i := 71) (by decide +kernel) rfl
theorem lk_RX11_292 : Cond.methodLink RX11 292 yX1_inSome ∈ gw := gt_5 (i := 75) (by decide +kernel) rfl
theorem lk_RX11_295 : Cond.methodLink RX11 295 yX1_choose ∈ gw := gt_5 (i := 83) (by decide +kernel) rfl
theorem lk_RX11_301 : Cond.methodLink RX11 301 yX8_fewestWatchers ∈ gw := gt_5 (i := 96) (by decide +kernel) rfl
theorem lk_RX11_304 : Cond.methodLink RX11 304 yX11_remember ∈ gw := gt_5 (i := 112) (by decide +kernel) rfl
theorem lk_RX11_310 : Cond.methodLink RX11 310 yX8_give ∈ gw := gt_5 (i := 116) (by decide +kernel) rfl
theorem lk_RX11_314 : Cond.methodLink RX11 314 yX11_canPass ∈ gw := gt_5 (i := 129) (by decide +kernel) rfl
theorem lk_RX11_317 : Cond.methodLink RX11 317 yX8_passYear ∈ gw := gt_5 (i := 133) (by decide +kernel) rfl
theorem lk_RX11_324 : Cond.methodLink RX11 324 yX11_boyTells ∈ gw := gt_5 (i := 138) (by decide +kernel) rfl
theorem lk_RX11_328 : Cond.methodLink RX11 328 yX0_forget ∈ gw := gt_4 (i := 51) (by decide +kernel) rfl
theorem lk_RX11_333 : Cond.methodLink RX11 333 yX6_readAll ∈ gw := gt_5 (i := 163) (by decide +kernel) rfl
theorem lk_RX11_336 : Cond.methodLink RX11 336 yX6_answer ∈ gw := gt_5 (i := 192) (by decide +kernel) rfl
theorem lk_RX11_340 : Cond.methodLink RX11 340 yX5_write ∈ gw := gt_5 (i := 213) (by decide +kernel) rfl
theorem lk_RX11_348 : Cond.methodLink RX11 348 yX5_readable ∈ gw := gt_5 (i := 229) (by decide +kernel) rfl
theorem lk_RX11_352 : Cond.methodLink RX11 352 yX5_read ∈ gw := gt_6 (i := 2) (by decide +kernel) rfl
theorem lk_RX11_356 : Cond.methodLink RX11 356 yX8_showable ∈ gw := gt_4 (i := 199) (by decide +kernel) rfl
theorem lk_RX11_359 : Cond.methodLink RX11 359 yX1_find ∈ gw := gt_5 (i := 57) (by decide +kernel) rfl
theorem lk_RX11_362 : Cond.methodLink RX11 362 yX11_draw ∈ gw := gt_5 (i := 142) (by decide +kernel) rfl
theorem lk_RX11_368 : Cond.methodLink RX11 368 yJ9_min_7cf53 ∈ gw := gt_5 (i := 149) (by decide +kernel) rfl
theorem lk_RX1_54 : Cond.methodLink RX1 54 yX10_byteAt ∈ gw := gt_5 (i := 44) (by decide +kernel) rfl
theorem lk_RX1_58 : Cond.methodLink RX1 58 yX2_holds ∈ gw := gt_5 (i := 48) (by decide +kernel) rfl
theorem lk_RX1_64 : Cond.methodLink RX1 64 yX8_showable ∈ gw := gt_5 (i := 61) (by decide +kernel) rfl
theorem lk_RX1_68 : Cond.methodLink RX1 68 yX8_takeAll ∈ gw := gt_5 (i := 62) (by decide +kernel) rfl
theorem lk_RX1_72 : Cond.methodLink RX1 72 yX1_isSo ∈ gw := gt_5 (i := 63) (by decide +kernel) rfl
theorem lk_RX1_76 : Cond.methodLink RX1 76 yX1_addFitting ∈ gw := gt_5 (i := 67) (by decide +kernel) rfl
theorem lk_RX1_83 : Cond.methodLink RX1 83 yX1_mostLeft ∈ gw := gt_5 (i := 87) (by decide +kernel) rfl
theorem lk_RX1_90 : Cond.methodLink RX1 90 yJ9_max_7cf53 ∈ gw := gt_5 (i := 91) (by decide +kernel) rfl
theorem lk_RX2_67 : Cond.methodLink RX2 67 yJ7_fill_53178 ∈ gw := gt_3 (i := 136) (by decide +kernel) rfl
theorem lk_RX2_73 : Cond.methodLink RX2 73 yX4_clear ∈ gw := gt_3 (i := 139) (by decide +kernel) rfl
theorem lk_RX2_78 : Cond.methodLink RX2 78 yX4_add ∈ gw := gt_3 (i := 143) (by decide +kernel) rfl
theorem lk_RX3_101 : Cond.methodLink RX3 101 yX3_newWatcher ∈ gw := gt_3 (i := 217) (by decide +kernel) rfl
theorem lk_RX3_104 : Cond.methodLink RX3 104 yX3_onlyOne ∈ gw := gt_3 (i := 221) (by decide +kernel) rfl
theorem lk_RX3_108 : Cond.methodLink RX3 108 yX7_readSum ∈ gw := gt_3 (i := 226) (by decide +kernel) rfl
theorem lk_RX3_116 : Cond.methodLink RX3 116 yX3_beliefAtFirst ∈ gw := gt_4 (i := 27) (by decide +kernel) rfl
theorem lk_RX3_119 : Cond.methodLink RX3 119 yX3_boysOfHundred ∈ gw := gt_4 (i := 31) (by decide +kernel) rfl
theorem lk_RX3_126 : Cond.methodLink RX3 126 yX10_next ∈ gw := gt_3 (i := 200) (by decide +kernel) rfl
theorem lk_RX3_129 : Cond.methodLink RX3 129 yX10_nameHere ∈ gw := gt_3 (i := 201) (by decide +kernel) rfl
theorem lk_RX3_135 : Cond.methodLink RX3 135 yX2_numberOf ∈ gw := gt_3 (i := 205) (by decide +kernel) rfl
theorem lk_RX3_43 : Cond.methodLink RX3 43 yX2_clear ∈ gw := gt_3 (i := 132) (by decide +kernel) rfl
theorem lk_RX3_46 : Cond.methodLink RX3 46 yX10_begin ∈ gw := gt_3 (i := 147) (by decide +kernel) rfl
theorem lk_RX3_49 : Cond.methodLink RX3 49 yX3_treasury ∈ gw := gt_3 (i := 163) (by decide +kernel) rfl
theorem lk_RX3_53 : Cond.methodLink RX3 53 yX10_takeSign ∈ gw := gt_3 (i := 183) (by decide +kernel) rfl
theorem lk_RX3_60 : Cond.methodLink RX3 60 yX3_statement ∈ gw := gt_3 (i := 191) (by decide +kernel) rfl
theorem lk_RX3_66 : Cond.methodLink RX3 66 yX10_wrong ∈ gw := gt_3 (i := 195) (by decide +kernel) rfl
theorem lk_RX3_70 : Cond.methodLink RX3 70 yX10_takeWord ∈ gw := gt_3 (i := 167) (by decide +kernel) rfl
theorem lk_RX3_74 : Cond.methodLink RX3 74 yX10_takeNumber ∈ gw := gt_3 (i := 179) (by decide +kernel) rfl
theorem lk_RX3_92 : Cond.methodLink RX3 92 yX3_oneMore ∈ gw := gt_3 (i := 196) (by decide +kernel) rfl
theorem lk_RX3_95 : Cond.methodLink RX3 95 yX3_newProvince ∈ gw := gt_3 (i := 209) (by decide +kernel) rfl
theorem lk_RX3_98 : Cond.methodLink RX3 98 yX3_newTrick ∈ gw := gt_3 (i := 213) (by decide +kernel) rfl
theorem lk_RX4_24 : Cond.methodLink RX4 24 yX4_factAt ∈ gw := gt_4 (i := 106) (by decide +kernel) rfl
theorem lk_RX4_28 : Cond.methodLink RX4 28 yX4_single ∈ gw := gt_4 (i := 109) (by decide +kernel) rfl
theorem lk_RX4_32 : Cond.methodLink RX4 32 yX4_joined ∈ gw := gt_4 (i := 112) (by decide +kernel) rfl
theorem lk_RX4_36 : Cond.methodLink RX4 36 yX4_bounded ∈ gw := gt_4 (i := 124) (by decide +kernel) rfl
theorem lk_RX4_40 : Cond.methodLink RX4 40 yJ9_floorDiv_f86c9 ∈ gw := gt_4 (i := 115) (by decide +kernel) rfl
theorem lk_RX4_46 : Cond.methodLink RX4 46 yJ9_min_f86c9 ∈ gw := gt_4 (i := 118) (by decide +kernel) rfl
theorem lk_RX4_49 : Cond.methodLink RX4 49 yJ9_max_f86c9 ∈ gw := gt_4 (i := 121) (by decide +kernel) rfl
theorem lk_RX5_27 : Cond.methodLink RX5 27 yX5_put ∈ gw := gt_5 (i := 217) (by decide +kernel) rfl
theorem lk_RX5_57 : Cond.methodLink RX5 57 yX5_isChecked ∈ gw := gt_5 (i := 233) (by decide +kernel) rfl
theorem lk_RX5_61 : Cond.methodLink RX5 61 yX5_take ∈ gw := gt_5 (i := 237) (by decide +kernel) rfl
theorem lk_RX5_69 : Cond.methodLink RX5 69 yX10_byteAt ∈ gw := gt_5 (i := 236) (by decide +kernel) rfl
theorem lk_RX6_41 : Cond.methodLink RX6 41 yX10_begin ∈ gw := gt_5 (i := 167) (by decide +kernel) rfl
theorem lk_RX6_53 : Cond.methodLink RX6 53 yX10_wrong ∈ gw := gt_5 (i := 168) (by decide +kernel) rfl
theorem lk_RX6_57 : Cond.methodLink RX6 57 yX10_next ∈ gw := gt_5 (i := 169) (by decide +kernel) rfl
theorem lk_RX6_61 : Cond.methodLink RX6 61 yX7_readTest ∈ gw := gt_5 (i := 171) (by decide +kernel) rfl
theorem lk_RX6_65 : Cond.methodLink RX6 65 yX7_readSum ∈ gw := gt_5 (i := 191) (by decide +kernel) rfl
theorem lk_RX6_81 : Cond.methodLink RX6 81 yX8_describe ∈ gw := gt_5 (i := 197) (by decide +kernel) rfl
theorem lk_RX6_85 : Cond.methodLink RX6 85 yX4_value ∈ gw := gt_5 (i := 202) (by decide +kernel) rfl
theorem lk_RX6_88 : Cond.methodLink RX6 88 yX6_with ∈ gw := gt_5 (i := 203) (by decide +kernel) rfl
theorem lk_RX6_92 : Cond.methodLink RX6 92 yJ9_max_f86c9 ∈ gw := gt_5 (i := 207) (by decide +kernel) rfl
theorem lk_RX6_98 : Cond.methodLink RX6 98 yJ9_min_f86c9 ∈ gw := gt_5 (i := 208) (by decide +kernel) rfl
theorem lk_RX7_23 : Cond.methodLink RX7 23 yX7_aim ∈ gw := gt_3 (i := 230) (by decide +kernel) rfl
theorem lk_RX7_27 : Cond.methodLink RX7 27 yX7_sum ∈ gw := gt_3 (i := 235) (by decide +kernel) rfl
theorem lk_RX7_31 : Cond.methodLink RX7 31 yX7_test ∈ gw := gt_5 (i := 175) (by decide +kernel) rfl
theorem lk_RX7_34 : Cond.methodLink RX7 34 yX4_clear ∈ gw := gt_3 (i := 234) (by decide +kernel) rfl
theorem lk_RX7_39 : Cond.methodLink RX7 39 yX7_facts ∈ gw := gt_5 (i := 179) (by decide +kernel) rfl
theorem lk_RX7_44 : Cond.methodLink RX7 44 yX10_isWord ∈ gw := gt_4 (i := 17) (by decide +kernel) rfl
theorem lk_RX7_47 : Cond.methodLink RX7 47 yX10_next ∈ gw := gt_4 (i := 15) (by decide +kernel) rfl
theorem lk_RX7_50 : Cond.methodLink RX7 50 yX4_add ∈ gw := gt_4 (i := 8) (by decide +kernel) rfl
theorem lk_RX7_54 : Cond.methodLink RX7 54 yX7_fact ∈ gw := gt_5 (i := 183) (by decide +kernel) rfl
theorem lk_RX7_57 : Cond.methodLink RX7 57 yX7_opens ∈ gw := gt_4 (i := 10) (by decide +kernel) rfl
theorem lk_RX7_60 : Cond.methodLink RX7 60 yX10_isSign ∈ gw := gt_4 (i := 9) (by decide +kernel) rfl
theorem lk_RX7_64 : Cond.methodLink RX7 64 yX10_takeSign ∈ gw := gt_4 (i := 16) (by decide +kernel) rfl
theorem lk_RX7_67 : Cond.methodLink RX7 67 yX7_compared ∈ gw := gt_5 (i := 187) (by decide +kernel) rfl
theorem lk_RX7_73 : Cond.methodLink RX7 73 yX10_wrong ∈ gw := gt_4 (i := 14) (by decide +kernel) rfl
theorem lk_RX7_77 : Cond.methodLink RX7 77 yX7_product ∈ gw := gt_3 (i := 239) (by decide +kernel) rfl
theorem lk_RX7_80 : Cond.methodLink RX7 80 yX7_part ∈ gw := gt_4 (i := 3) (by decide +kernel) rfl
theorem lk_RX7_86 : Cond.methodLink RX7 86 yX10_takeNumber ∈ gw := gt_4 (i := 7) (by decide +kernel) rfl
theorem lk_RX7_92 : Cond.methodLink RX7 92 yX7_oneOfTwo ∈ gw := gt_4 (i := 18) (by decide +kernel) rfl
theorem lk_RX7_95 : Cond.methodLink RX7 95 yX7_isPart ∈ gw := gt_4 (i := 22) (by decide +kernel) rfl
theorem lk_RX8_108 : Cond.methodLink RX8 108 yX9_seenThrough ∈ gw := gt_4 (i := 172) (by decide +kernel) rfl
theorem lk_RX8_121 : Cond.methodLink RX8 121 yX8_takeAll ∈ gw := gt_4 (i := 177) (by decide +kernel) rfl
theorem lk_RX8_125 : Cond.methodLink RX8 125 yX8_sightOfShow ∈ gw := gt_4 (i := 182) (by decide +kernel) rfl
theorem lk_RX8_129 : Cond.methodLink RX8 129 yX8_isBetter ∈ gw := gt_4 (i := 186) (by decide +kernel) rfl
theorem lk_RX8_136 : Cond.methodLink RX8 136 yJ6_bitCount_0f7a4 ∈ gw := gt_4 (i := 190) (by decide +kernel) rfl
theorem lk_RX8_141 : Cond.methodLink RX8 141 yX8_ripen ∈ gw := gt_4 (i := 220) (by decide +kernel) rfl
theorem lk_RX8_145 : Cond.methodLink RX8 145 yX8_lookAtAll ∈ gw := gt_4 (i := 221) (by decide +kernel) rfl
theorem lk_RX8_148 : Cond.methodLink RX8 148 yX8_choose ∈ gw := gt_4 (i := 222) (by decide +kernel) rfl
theorem lk_RX8_151 : Cond.methodLink RX8 151 yX8_give ∈ gw := gt_4 (i := 223) (by decide +kernel) rfl
theorem lk_RX8_155 : Cond.methodLink RX8 155 yX8_loseBelief ∈ gw := gt_4 (i := 227) (by decide +kernel) rfl
theorem lk_RX8_159 : Cond.methodLink RX8 159 yX8_pay ∈ gw := gt_4 (i := 235) (by decide +kernel) rfl
theorem lk_RX8_165 : Cond.methodLink RX8 165 yX9_keep ∈ gw := gt_4 (i := 231) (by decide +kernel) rfl
theorem lk_RX8_176 : Cond.methodLink RX8 176 yX8_seenByAny ∈ gw := gt_5 (i := 100) (by decide +kernel) rfl
theorem lk_RX8_62 : Cond.methodLink RX8 62 yX4_value ∈ gw := gt_4 (i := 102) (by decide +kernel) rfl
theorem lk_RX8_66 : Cond.methodLink RX8 66 yJ9_min_7cf53 ∈ gw := gt_4 (i := 129) (by decide +kernel) rfl
theorem lk_RX8_72 : Cond.methodLink RX8 72 yJ9_max_7cf53 ∈ gw := gt_4 (i := 132) (by decide +kernel) rfl
theorem lk_RX8_81 : Cond.methodLink RX8 81 yX8_glimpse ∈ gw := gt_4 (i := 98) (by decide +kernel) rfl
theorem lk_RX8_85 : Cond.methodLink RX8 85 yX8_showable ∈ gw := gt_4 (i := 168) (by decide +kernel) rfl
theorem lk_RX8_89 : Cond.methodLink RX8 89 yX2_holds ∈ gw := gt_5 (i := 201) (by decide +kernel) rfl
theorem lk_RX9_44 : Cond.methodLink RX9 44 yX2_holds ∈ gw := gt_4 (i := 39) (by decide +kernel) rfl
theorem lk_RX9_49 : Cond.methodLink RX9 49 yJ7_fill_53178 ∈ gw := gt_4 (i := 43) (by decide +kernel) rfl
theorem ac_RX0_107 : ho_ac RX0 107 := ⟨gt_5 (i := 19) (by decide +kernel) rfl, gt_4 (i := 46) (by decide +kernel) rfl, gt_4 (i := 45) (by decide +kernel) rfl, gt_1 (i := 19) (by decide +kernel) rfl⟩
theorem ac_RX8_115 : ho_ac RX8 115 := ⟨gt_4 (i := 181) (by decide +kernel) rfl, gt_4 (i := 46) (by decide +kernel) rfl, gt_4 (i := 45) (by decide +kernel) rfl, gt_1 (i := 19) (by decide +kernel) rfl⟩
theorem ac_RX9_56 : ho_ac RX9 56 := ⟨gt_4 (i := 44) (by decide +kernel) rfl, gt_4 (i := 46) (by decide +kernel) rfl, gt_4 (i := 45) (by decide +kernel) rfl, gt_1 (i := 19) (by decide +kernel) rfl⟩
/-- the methods of Reader that call one another, by their numbers -/
def gH (l : Launch) (E : Ev) (D : Nat) (G : Nat → Nat → Int32 → Hp → Option (Int32 × Hp)) : Prop := ∀ (t a : Nat) (x : Int32) (S : Hp) (r : Int32 × Hp), (a ∈ yH.1 ∧ yH.2.1 a = (1, 7)) → G t a x S = some r → ((t = 0 → ho_M l yH E yX7_test cX7_test 3 (some .boolean) D [.ref (E.2.1 a), .int x] S (some (.int r.1), r.2)) ∧ (t = 1 → ho_M l yH E yX7_facts cX7_facts 3 (some .boolean) D [.ref (E.2.1 a), .int x] S (some (.int r.1), r.2)) ∧ (t = 2 → ho_M l yH E yX7_fact cX7_fact 2 (some .boolean) D [.ref (E.2.1 a), .int x] S (some (.int r.1), r.2)) ∧ (t = 3 → ho_M l yH E yX7_compared cX7_compared 3 (some .boolean) D [.ref (E.2.1 a), .int x] S (some (.int r.1), r.2)) ∧ (t = 4 → ho_M l yH E yX7_sum cX7_sum 4 (some .boolean) D [.ref (E.2.1 a), .int x] S (some (.int r.1), r.2)) ∧ (t = 5 → ho_M l yH E yX7_product cX7_product 4 (some .boolean) D [.ref (E.2.1 a), .int x] S (some (.int r.1), r.2)) ∧ (t = 6 → ho_M l yH E yX7_part cX7_part 2 (some .boolean) D [.ref (E.2.1 a), .int x] S (some (.int r.1), r.2)) ∧ (t = 7 → ho_M l yH E yX7_oneOfTwo cX7_oneOfTwo 3 (some .boolean) D [.ref (E.2.1 a), .int x] S (some (.int r.1), r.2)))

/-! level 3: the two are alike at the start -/
theorem zdI_ok {S : Hp} {l : List (Nat × Nat × Int32)} (h : zdI S l = true) (a k : Nat) (v : Int32) (hm : (a, k, v) ∈ l) : S.1 a k = v := of_decide_eq_true (List.all_eq_true.mp h _ hm)
theorem zd0_ok {S : Hp} {a n : Nat} (h : zd0 S a n = true) (k : Nat) (hk : k < n) : S.1 a k = 0 := of_decide_eq_true (List.all_eq_true.mp h k (List.mem_range.mpr hk))
def zC : Cr := ((0, 0, 0), (fun _ _ => 0), [44], [1010])
def zX : Xv := (((fun _ => 0), 0), (0, -1), (fun _ => 0), [], [], 1)
def zH1 : List (Nat × Nat × Int32) := [(10, 1, 0), (10, 2, 0), (10, 3, -1), (0, 13, 0), (0, 14, 0), (0, 15, 0), (0, 16, 1), (101, 0, 0), (101, 1, 0), (101, 2, 0), (70, 0, 0), (90, 1, 0), (1200, 0, 0), (1200, 1, 0), (1200, 2, 0), (1200, 7, 0), (60, 14, -1), (60, 15, 0)]
def zM1 : List (Nat × Nat × Int32) := [(0, 1, 0), (0, 7, 0), (0, 8, -1), (0, 52, 0), (41, 3, 0), (41, 4, 0), (41, 5, 0), (43, 3, 0), (43, 5, 0), (47, 3, 0), (48, 2, -1), (48, 3, -1), (0, 73, 0), (0, 72, 0), (0, 66, 0), (0, 110, 0), (55, 26, 0), (0, 62, 0)]
theorem zokX : okX zX false zC (fun _ _ => []) [] (fun _ => 0) := by
  refine ⟨⟨⟨⟨by decide, by decide, by decide⟩, ⟨by decide, by decide, by decide⟩, fun p h => absurd h (Nat.not_lt_zero p), fun p h => absurd h (Nat.not_lt_zero p), fun p h => absurd h (Nat.not_lt_zero p), okF_44, okF_10⟩, ⟨by decide, by decide, by decide, fun _ _ => Nat.zero_le _, fun _ _ => Nat.zero_le _, fun _ _ => Nat.zero_le _, fun _ _ => Nat.zero_le _, fun _ _ _ => rfl, fun _ _ _ => ⟨rfl, rfl⟩⟩⟩, ⟨by decide, fun p h => absurd h (List.not_mem_nil)⟩, ⟨by decide, fun p h => absurd h (List.not_mem_nil)⟩, ⟨by decide, fun p h => absurd h (List.not_mem_nil)⟩, by decide, fun k hk i hi => ?_, fun _ => ⟨rfl, rfl, rfl⟩⟩
  exfalso
  have e : cnt (cP zC) (cT zC) (cW zC) k = 0 := by
    show (if k = 0 then 0 else if k = 1 then 0 else 0) = 0
    split
    · rfl
    · split <;> rfl
  omega
theorem sim_of {SH SM : Hp} (h1 : zdI SH zH1 = true) (h2 : (zd0 SH 1 6 && (zd0 SH 53 40 && (zd0 SH 33 40 && (zd0 SH 1201 6 && (zd0 SH 1202 6 && zd0 SH 1203 6))))) = true) (h3 : (List.range 35).all (fun i => decide (SH.1 12 i = nI (enc (wL.getD i [])))) = true) (hp : SH.2.2 0 1 = 100 ∧ SH.2.2 0 2 = 150 ∧ SH.2.2 50 0 = 100)
    (m1 : zdI SM zM1 = true) (m2 : (zd0 SM 10 6 && zd0 SM 55 21) = true) (m3 : wtab.all (fun p => (List.range p.2.length).all (fun i => decide (SM.1 p.1 i = nI (p.2.getD i 0)))) = true) (m4 : decide (SM.2.1 0 74 = lN 1) = true) : Sim SH SM := by
  have e := zdI_ok h1
  have f := zdI_ok m1
  obtain ⟨a1, h2⟩ := (Bool.and_eq_true _ _).mp h2
  obtain ⟨a2, h2⟩ := (Bool.and_eq_true _ _).mp h2
  obtain ⟨a3, h2⟩ := (Bool.and_eq_true _ _).mp h2
  obtain ⟨a4, h2⟩ := (Bool.and_eq_true _ _).mp h2
  obtain ⟨a5, a6⟩ := (Bool.and_eq_true _ _).mp h2
  obtain ⟨b1, b2⟩ := (Bool.and_eq_true _ _).mp m2
  have hz : ∀ k i, ¬ i < cnt (cP zC) (cT zC) (cW zC) k := fun k i hi => by
    have e : cnt (cP zC) (cT zC) (cW zC) k = 0 := by
      show (if k = 0 then 0 else if k = 1 then 0 else 0) = 0
      split
      · rfl
      · split <;> rfl
    omega
  have hfc : ∀ w, zd0 SH w 40 = true → fcG SH w := fun w hw j hj => by
    rw [zd0_ok hw j hj]
    exact (by decide : (-1000000 : Int) ≤ (0 : Int32).toInt ∧ (0 : Int32).toInt ≤ 1000000)
  refine ⟨zX, false, 100, zC, (fun _ _ => []), [], (fun _ => 0), [], zokX, ?_, ?_, ?_, ?_, ?_⟩
  · refine ⟨⟨by decide, e 10 1 0 (by decide), fun i hi => absurd hi (Nat.not_lt_zero i), fun i hi => of_decide_eq_true (List.all_eq_true.mp h3 i (List.mem_range.mpr hi))⟩, ⟨e 10 2 0 (by decide), e 10 3 (-1) (by decide)⟩, fun k hk => zd0_ok a1 k hk, ⟨e 0 13 0 (by decide), ⟨hp.1, hp.2.1, hp.2.2, Or.inl rfl⟩, ⟨e 101 0 0 (by decide), e 101 1 0 (by decide), e 101 2 0 (by decide)⟩, fun h => absurd h (by decide), fun k _ i hi => absurd hi (hz k i)⟩, ⟨0, by decide, e 0 14 0 (by decide), e 0 15 0 (by decide), fun i hi => absurd hi (Nat.not_lt_zero i)⟩, ⟨e 70 0 0 (by decide), fun i hi => absurd hi (Nat.not_lt_zero i)⟩, ⟨e 90 1 0 (by decide), fun i hi => absurd hi (Nat.not_lt_zero i)⟩, e 0 16 1 (by decide), hfc 53 a2, hfc 33 a3⟩
  · refine ⟨⟨⟨memH (by decide) (by decide), rfl⟩, ⟨e 1200 0 0 (by decide), e 1200 1 0 (by decide), e 1200 2 0 (by decide)⟩, fun p hp => ⟨zd0_ok a4 p hp, zd0_ok a5 p hp, zd0_ok a6 p hp⟩, fun w hw => absurd hw (Nat.not_lt_zero w)⟩, ⟨0, by decide, rfl⟩, e 1200 7 0 (by decide), fun j hj => absurd hj (Nat.not_lt_zero j)⟩
  · exact ⟨Or.inl (e 60 14 (-1) (by decide)), Or.inl (e 60 15 0 (by decide))⟩
  · refine ⟨⟨⟨by decide, f 0 1 0 (by decide), fun i hi => absurd hi (Nat.not_lt_zero i)⟩, fun p hp i hi => of_decide_eq_true (List.all_eq_true.mp (List.all_eq_true.mp m3 p hp) i (List.mem_range.mpr hi))⟩, ⟨f 0 7 0 (by decide), f 0 8 (-1) (by decide)⟩, fun k hk => zd0_ok b1 k hk, ⟨f 0 52 0 (by decide), ⟨⟨f 41 3 0 (by decide), f 41 4 0 (by decide), f 41 5 0 (by decide)⟩, ⟨f 43 3 0 (by decide), f 43 5 0 (by decide), f 47 3 0 (by decide)⟩, fun p h => absurd h (Nat.not_lt_zero p), fun p h => absurd h (Nat.not_lt_zero p), fun p h => absurd h (Nat.not_lt_zero p), Or.inr ⟨f 48 2 (-1) (by decide), rfl⟩, Or.inr ⟨f 48 3 (-1) (by decide), rfl⟩⟩, fun k _ i hi => absurd hi (hz k i)⟩, ⟨0, by decide, f 0 73 0 (by decide), f 0 72 0 (by decide), fun i hi => absurd hi (Nat.not_lt_zero i)⟩, ⟨f 0 66 0 (by decide), fun i hi => absurd hi (Nat.not_lt_zero i)⟩, ⟨f 0 110 0 (by decide), fun i hi => absurd hi (Nat.not_lt_zero i)⟩, of_decide_eq_true m4⟩
  · exact ⟨⟨fun k hk => zd0_ok b2 k hk, fun w hw => absurd hw (Nat.not_lt_zero w)⟩, ⟨⟨0, by decide, rfl⟩, f 55 26 0 (by decide), fun j hj => absurd hj (Nat.not_lt_zero j)⟩, f 0 62 0 (by decide)⟩
theorem sim_start : Sim zSH zSM := sim_of rH_ints rH_zero rH_words ⟨rfl, rfl, rfl⟩ rM_ints rM_zero rM_words rM_seed

/-! level 2: the class: a show given, a year gone by -/
theorem eqL {n : Nat} (k : Nat) (h : n < 2 ^ 31) (hk : k < 2 ^ 31) : nI n = (OfNat.ofNat k : Int32) ↔ n = k := nI_eq h hk
theorem leL {n : Nat} (k : Nat) (h : n < 2 ^ 31) (hk : k < 2 ^ 31) : nI n ≤ (OfNat.ofNat k : Int32) ↔ n ≤ k := nI_leI h hk
theorem geL {n : Nat} (k : Nat) (h : n < 2 ^ 31) (hk : k < 2 ^ 31) : (OfNat.ofNat k : Int32) ≤ nI n ↔ k ≤ n := nI_leI hk h
theorem ltL {n : Nat} (k : Nat) (h : n < 2 ^ 31) (hk : k < 2 ^ 31) : nI n < (OfNat.ofNat k : Int32) ↔ n < k := nI_ltI h hk
theorem gtL {n : Nat} (k : Nat) (h : n < 2 ^ 31) (hk : k < 2 ^ 31) : (OfNat.ofNat k : Int32) < nI n ↔ k < n := nI_ltI hk h
def zup (z : Nat → Nat) (i v j : Nat) : Nat := if j = i then v else z j
theorem zup_s {z : Nat → Nat} {i v : Nat} : zup z i v i = v := if_pos rfl
theorem zup_n {z : Nat → Nat} {i v j : Nat} (h : j ≠ i) : zup z i v j = z j := if_neg h
theorem stH_z {S : Hp} {a : Nat} {C : Cr} {z z' : Nat → Nat} (hC : okCr C) (h : stH S a C z) (e : ∀ i, i < 26 → z i = z' i) : stH S a C z' := by
  have hw := hC.1.2.2
  obtain ⟨h0, h1, h2, h3⟩ := h
  refine ⟨h0, ?_, fun p hp => ?_, fun w hw => ?_⟩
  · rw [← e 0 (by decide), ← e 1 (by decide), ← e 2 (by decide)]; exact h1
  · rw [← e (3 + p) (by omega), ← e (9 + p) (by omega), ← e (15 + p) (by omega)]; exact h2 p hp
  · rw [← e (21 + w) (by omega)]; exact h3 w hw
theorem stH_f0 {S : Hp} {a k v : Nat} {C : Cr} {z : Nat → Nat} (h : stH S a C z) (hk : k < 3) : stH (ho_sI S a k (nI v)) a C (zup z k v) := by
  obtain ⟨h0, h1, h2, h3⟩ := h
  refine ⟨h0, ?_, fun p hp => ?_, fun w hw => ?_⟩
  · rw [sI_at]
    have k3 : k = 0 ∨ k = 1 ∨ k = 2 := by omega
    rcases k3 with rfl | rfl | rfl
    · rw [pk_us, pk_un (by decide), pk_un (by decide), zup_s, zup_n (by decide), zup_n (by decide)]; exact ⟨rfl, h1.2⟩
    · rw [pk_us, pk_un (by decide), pk_un (by decide), zup_s, zup_n (by decide), zup_n (by decide)]; exact ⟨h1.1, rfl, h1.2.2⟩
    · rw [pk_us, pk_un (by decide), pk_un (by decide), zup_s, zup_n (by decide), zup_n (by decide)]; exact ⟨h1.1, h1.2.1, rfl⟩
  · rw [sI_ne _ (by omega), sI_ne _ (by omega), sI_ne _ (by omega), zup_n (by omega), zup_n (by omega), zup_n (by omega)]; exact h2 p hp
  · rw [sI_ne _ (by omega), zup_n (by omega)]; exact h3 w hw
theorem stH_r {S : Hp} {a x t v : Nat} {C : Cr} {z : Nat → Nat} (h : stH S a C z) (hx : x = 1 ∨ x = 2 ∨ x = 3) (ht : t < 6) : stH (ho_sI S (a + x) t (nI v)) a C (zup z (6 * x - 3 + t) v) := by
  obtain ⟨h0, h1, h2, h3⟩ := h
  have ha : ∀ y, y ≠ x → (ho_sI S (a + x) t (nI v)).1 (a + y) = S.1 (a + y) := fun y hy => sI_ne _ (by omega)
  have ha0 : (ho_sI S (a + x) t (nI v)).1 a = S.1 a := sI_ne _ (by omega)
  refine ⟨h0, ?_, fun p hp => ?_, fun w hw => ?_⟩
  · rw [ha0, zup_n (by omega), zup_n (by omega), zup_n (by omega)]; exact h1
  · obtain ⟨p1, p2, p3⟩ := h2 p hp
    rcases hx with rfl | rfl | rfl
    · rw [ha 2 (by decide), ha 3 (by decide), zup_n (j := 9 + p) (by omega), zup_n (j := 15 + p) (by omega), sI_at]
      refine ⟨?_, p2, p3⟩
      by_cases e : p = t
      · subst e; rw [pk_us, zup_s]
      · rw [pk_un e, zup_n (by omega)]; exact p1
    · rw [ha 1 (by decide), ha 3 (by decide), zup_n (j := 3 + p) (by omega), zup_n (j := 15 + p) (by omega), sI_at]
      refine ⟨p1, ?_, p3⟩
      by_cases e : p = t
      · subst e; rw [pk_us, zup_s]
      · rw [pk_un e, zup_n (by omega)]; exact p2
    · rw [ha 1 (by decide), ha 2 (by decide), zup_n (j := 3 + p) (by omega), zup_n (j := 9 + p) (by omega), sI_at]
      refine ⟨p1, p2, ?_⟩
      by_cases e : p = t
      · subst e; rw [pk_us, zup_s]
      · rw [pk_un e, zup_n (by omega)]; exact p3
  · rw [ha 4 (by omega), zup_n (by omega)]; exact h3 w hw
/-- the rows kept: three numbers a row, thirty rows at most -/
def kpush (kl : List Nat) (y t b : Nat) : List Nat := (if kl.length = 90 then kl.drop 3 else kl) ++ [y, t, b]
def kpO (kl : List Nat) : Prop := ∃ n, n ≤ 30 ∧ kl.length = 3 * n
def kpH (S : Hp) (a : Nat) (kl : List Nat) : Prop := kpO kl ∧ S.1 a 7 = nI (kl.length / 3) ∧ ∀ j, j < kl.length → S.1 (a + 5) j = nI (kl.getD j 0)
theorem kpush_O {kl : List Nat} {y t b : Nat} (h : kpO kl) : kpO (kpush kl y t b) := by
  obtain ⟨n, h1, h2⟩ := h
  unfold kpush
  by_cases e : kl.length = 90
  · rw [if_pos e]
    exact ⟨30, Nat.le_refl _, by rw [List.length_append, List.length_drop, e]; rfl⟩
  · rw [if_neg e]
    refine ⟨n + 1, by omega, ?_⟩
    rw [List.length_append]
    show kl.length + 3 = _
    omega
theorem getD_app {l r : List Nat} {j : Nat} : (l ++ r).getD j 0 = if j < l.length then l.getD j 0 else r.getD (j - l.length) 0 := by
  rw [List.getD_eq_getElem?_getD, List.getD_eq_getElem?_getD, List.getD_eq_getElem?_getD, List.getElem?_append]
  split <;> rfl
theorem getD_drop {l : List Nat} {n j : Nat} : (l.drop n).getD j 0 = l.getD (n + j) 0 := by
  rw [List.getD_eq_getElem?_getD, List.getD_eq_getElem?_getD, List.getElem?_drop]
theorem cpI_s {β : Type} {S : Hp} {a0 n0 a1 n1 sp dp n : Nat} {f : Hp → Option β} (h0 : sp + n ≤ n0) (h1 : dp + n ≤ n1) (h2 : n0 < 2 ^ 31) (h3 : n1 < 2 ^ 31) : cpI S a0 n0 (nI sp) a1 n1 (nI dp) (nI n) f = f (ho_sA S a1 (va_cpy (S.1 a0) (S.1 a1) sp dp n)) := by
  unfold cpI
  rw [nI_clamp (by omega), nI_clamp (by omega), nI_clamp (by omega), if_neg]
  intro q
  rcases q with q | q | q | q | q
  · exact nI_pos (by omega) q
  · exact nI_pos (by omega) q
  · exact nI_pos (by omega) q
  · omega
  · omega
theorem h_keep38 {S : Hp} {a t : Nat} {kl : List Nat} {y b : Nat} (h1 : S.1 a 7 = nI (kl.length / 3)) (h2 : ∀ j, j < kl.length → S.1 (a + 5) j = nI (kl.getD j 0)) (h3 : ∃ n, n < 30 ∧ kl.length = 3 * n) (hy : S.1 a 0 = nI y) (hb : S.1 a 2 = nI b) :
    ∃ S', f_X9_keep_38 a (nI t) S = some S' ∧ S'.1 a 7 = nI ((kl ++ [y, t, b]).length / 3) ∧ (∀ j, j < (kl ++ [y, t, b]).length → S'.1 (a + 5) j = nI ((kl ++ [y, t, b]).getD j 0)) ∧ (∀ k, k ≠ 7 → S'.1 a k = S.1 a k) ∧ (∀ x, x ≠ a → x ≠ a + 5 → S'.1 x = S.1 x) ∧ S'.2 = S.2 := by
  obtain ⟨n, n1, n2⟩ := h3
  have e3 : kl.length / 3 = n := by omega
  rw [e3] at h1
  refine ⟨ho_sI (ho_sA S (a + 5) (upd (upd (upd (S.1 (a + 5)) (n * 3) (nI y)) (n * 3 + 1) (nI t)) (n * 3 + 2) (nI b))) a 7 (nI (n + 1)), ?_, ?_, ?_, ?_, ?_, rfl⟩
  · unfold f_X9_keep_38
    rw [h1, lit_nI 3, pk_mul, le1_e, stI_n (by omega) (by decide), hy, sI_sI, lit_nI 1, lit_nI 2, nI_add, stI_n (by omega) (by decide), sI_sA, nI_add, stI_n (by omega) (by decide), sI_sA, le1_e, sA_ne _ _ (by omega), hb, sA_ne _ _ (by omega), h1, nI_add]
  · rw [sI_at, pk_us, List.length_append]
    show _ = nI ((kl.length + 3) / 3)
    rw [show (kl.length + 3) / 3 = n + 1 by omega]
  · intro j hj
    rw [List.length_append] at hj
    have hj2 : j < kl.length + 3 := hj
    rw [sI_ne _ (by omega), sA_at, getD_app]
    by_cases q : j < kl.length
    · rw [if_pos q, pk_un (by omega), pk_un (by omega), pk_un (by omega)]
      exact h2 j q
    · rw [if_neg q]
      have q3 : j = n * 3 ∨ j = n * 3 + 1 ∨ j = n * 3 + 2 := by omega
      rcases q3 with rfl | rfl | rfl
      · rw [pk_un (by omega), pk_un (by omega), pk_us, show n * 3 - kl.length = 0 by omega]; rfl
      · rw [pk_un (by omega), pk_us, show n * 3 + 1 - kl.length = 1 by omega]; rfl
      · rw [pk_us, show n * 3 + 2 - kl.length = 2 by omega]; rfl
  · intro k hk
    rw [sI_at, pk_un hk, sA_ne _ _ (by omega)]
  · intro x x1 x2
    rw [sI_ne _ x1, sA_ne _ _ x2]
theorem h_keep {S : Hp} {a t : Nat} {C : Cr} {z : Nat → Nat} {kl : List Nat} (hs : stH S a C z) (hk : kpH S a kl) :
    ∃ S', f_X9_keep a (nI t) S = some S' ∧ kpH S' a (kpush kl (z 0) t (z 2)) ∧ stH S' a C z ∧ fH (fun b => b = a ∨ b = a + 5) S S' := by
  obtain ⟨ha1, ha2, ha3⟩ := stH_a hs
  obtain ⟨⟨n, n1, n2⟩, k1, k2⟩ := hk
  have e3 : kl.length / 3 = n := by omega
  have fin : ∀ (S' : Hp), (∀ k, k ≠ 7 → S'.1 a k = S.1 a k) → (∀ x, x ≠ a → x ≠ a + 5 → S'.1 x = S.1 x) → S'.2 = S.2 → stH S' a C z ∧ fH (fun b => b = a ∨ b = a + 5) S S' := by
    intro S' f1 f2 f3
    obtain ⟨s0, s1, s2, s3⟩ := hs
    refine ⟨⟨s0, ?_, fun p hp => ?_, fun w hw => ?_⟩, fun b hb => f2 b (fun q => hb (Or.inl q)) (fun q => hb (Or.inr q)), f3, fun q j hj => ?_⟩
    · rw [f1 0 (by decide), f1 1 (by decide), f1 2 (by decide)]; exact s1
    · rw [f2 (a + 1) (by omega) (by omega), f2 (a + 2) (by omega) (by omega), f2 (a + 3) (by omega) (by omega)]; exact s2 p hp
    · rw [f2 (a + 4) (by omega) (by omega)]; exact s3 w hw
    · rw [f2 53 (by omega) (by omega)]; exact q j hj
  have hO : kpO (kpush kl (z 0) t (z 2)) := kpush_O ⟨n, n1, n2⟩
  unfold f_X9_keep
  rw [k1, e3]
  by_cases e : kl.length = 90
  · have en : n = 30 := by omega
    subst en
    rw [if_pos (show nI 30 = (30 : Int32) from rfl), le1_e]
    have e29 : nI 30 - (1 : Int32) = nI 29 := pk_sub (a := 30) (b := 1) (by decide)
    rw [e29]
    have e7 : (ho_sI S a 7 (nI 29)).1 a 7 = nI 29 := by rw [sI_at, pk_us]
    rw [e7, lit_nI 3, pk_mul, lit_nI 0, cpI_s (by decide) (by decide) (by decide) (by decide)]
    obtain ⟨S', r1, r2, r3, r4, r5, r6⟩ := h_keep38 (S := ho_sA (ho_sI S a 7 (nI 29)) (a + 5) (va_cpy ((ho_sI S a 7 (nI 29)).1 (a + 5)) ((ho_sI S a 7 (nI 29)).1 (a + 5)) 3 0 (29 * 3))) (a := a) (t := t) (kl := kl.drop 3) (y := z 0) (b := z 2) (by
      rw [sA_ne _ _ (by omega), e7, List.length_drop, e]) (by
      intro j hj
      rw [List.length_drop, e] at hj
      rw [sA_at, getD_drop]
      unfold va_cpy
      rw [if_pos (by omega), sI_ne _ (by omega), show 3 + (j - 0) = 3 + j by omega]
      exact k2 (3 + j) (by omega)) ⟨29, by decide, by rw [List.length_drop, e]⟩ (by rw [sA_ne _ _ (by omega), sI_at, pk_un (by decide)]; exact hs.2.1.1) (by rw [sA_ne _ _ (by omega), sI_at, pk_un (by decide)]; exact hs.2.1.2.2)
    have ek : kpush kl (z 0) t (z 2) = kl.drop 3 ++ [z 0, t, z 2] := by unfold kpush; rw [if_pos e]
    obtain ⟨g1, g2⟩ := fin S' (fun k hk => by rw [r4 k hk, sA_ne _ _ (by omega), sI_at, pk_un hk]) (fun x x1 x2 => by rw [r5 x x1 x2, sA_ne _ _ x2, sI_ne _ x1]) r6
    refine ⟨S', r1, ⟨hO, ?_, ?_⟩, g1, g2⟩
    · rw [ek]; exact r2
    · rw [ek]; exact r3
  · rw [if_neg (show ¬ nI n = (30 : Int32) from fun q => absurd ((eqL 30 (by omega) (by decide)).mp q) (by omega))]
    obtain ⟨S', r1, r2, r3, r4, r5, r6⟩ := h_keep38 (S := S) (a := a) (t := t) (kl := kl) (y := z 0) (b := z 2) k1 k2 ⟨n, by omega, n2⟩ hs.2.1.1 hs.2.1.2.2
    have ek : kpush kl (z 0) t (z 2) = kl ++ [z 0, t, z 2] := by unfold kpush; rw [if_neg e]
    obtain ⟨g1, g2⟩ := fin S' r4 r5 r6
    refine ⟨S', r1, ⟨hO, ?_, ?_⟩, g1, g2⟩
    · rw [ek]; exact r2
    · rw [ek]; exact r3

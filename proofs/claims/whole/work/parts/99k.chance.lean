/-! level 2: alike answers: chance -/
def lcg (s : Nat) : Nat := (1103515245 * s + 12345) % 2147483648
theorem lcg_lt (s : Nat) : lcg s < 2 ^ 31 := Nat.mod_lt _ (by decide)
theorem lN_and {a : Nat} (h : a < 2 ^ 63) : lN a &&& (2147483647 : Int64) = lN (a % 2147483648) := by
  apply Int64.toBitVec_inj.mp
  apply BitVec.eq_of_toNat_eq
  rw [Int64.toBitVec_and, BitVec.toNat_and]
  show (BitVec.ofNat 64 a).toNat &&& (BitVec.ofNat 64 2147483647).toNat = (BitVec.ofNat 64 (a % 2147483648)).toNat
  rw [BitVec.toNat_ofNat, BitVec.toNat_ofNat, BitVec.toNat_ofNat, Nat.mod_eq_of_lt (show a < 2 ^ 64 by omega), Nat.mod_eq_of_lt (show 2147483647 < 2 ^ 64 by omega), Nat.mod_eq_of_lt (show a % 2147483648 < 2 ^ 64 by omega)]
  exact Nat.and_two_pow_sub_one_eq_mod a 31
theorem lcg_l {s : Nat} (hs : s < 2 ^ 31) : (1103515245 : Int64) * lN s + (12345 : Int64) = lN (1103515245 * s + 12345) := by
  rw [show (1103515245 : Int64) = lN 1103515245 from rfl, show (12345 : Int64) = lN 12345 from rfl, lN_mul, lN_add]
theorem h_draw {S : Hp} {s m : Nat} (hs : s < 2 ^ 31) (h : S.1 0 16 = nI s) (hm : 0 < m) (hm2 : m < 2 ^ 31) : f_X11_draw (nI m) S = some (nI (lcg s / 64 % m), ho_sI S 0 16 (nI (lcg s))) := by
  unfold f_X11_draw
  have hl := lcg_lt s
  have e : (((1103515245 : Int64) * (nI s).toInt64) + (12345 : Int64) &&& (2147483647 : Int64)).toInt32 = nI (lcg s) := by
    rw [nI_l hs, lcg_l hs, lN_and (by omega), lN_i]; rfl
  rw [h, e, le1_e, sI_v, if_neg (show ¬ nI m ≤ 0 from nI_ge (a := 0) hm hm2)]
  unfold nz
  rw [if_neg (nI_ne0 hm (by omega)), lit_nI 64, pk_div hl (by decide) (by decide), pk_rem (by omega) hm hm2]
theorem m_draw {S : Hp} {s m : Nat} (hs : s < 2 ^ 31) (h : S.2.1 0 74 = lN s) (hm : 0 < m) (hm2 : m < 2 ^ 31) : f_X12_drawOf (nI m) S = some (nI (lcg s / 64 % m), ho_sJ S 0 74 (lN (lcg s))) := by
  unfold f_X12_drawOf
  have hl := lcg_lt s
  rw [h, lcg_l hs, show (2147483648 : Int64) = lN 2147483648 from rfl, pk_lRem (by omega) (by decide) (by decide), show (1103515245 * s + 12345) % 2147483648 = lcg s from rfl, le1_e, sJ_at, nI_l hm2]
  unfold nzl
  rw [if_neg (show ¬ lN m = 0 from fun q => absurd ((pk_lEQ (b := 0) (by omega) (by decide)).mp q) (by omega)), show (64 : Int64) = lN 64 from rfl, pk_lDiv (by omega) (by decide) (by decide), pk_lRem (by omega) hm (by omega), lN_i]
abbrev byT (C : Cr) (s : Nat) : Prop := lcg s / 64 % 100 < cR C 0 2 ∧ 0 < cT C
def byI (C : Cr) (s : Nat) : Nat := lcg (lcg s) / 64 % cT C
def byS (C : Cr) (s : Nat) : Nat := if byT C s then lcg (lcg s) else lcg s
def byM (z : Nat → Nat) (t : Nat) : Nat := if z (15 + t) + 50 ≤ 999 then z (15 + t) + 50 else 999
def byZ (C : Cr) (z : Nat → Nat) (s : Nat) : Nat → Nat := if byT C s then zup z (15 + byI C s) (byM z (byI C s)) else z
theorem byM_le (z : Nat → Nat) (t : Nat) : byM z t ≤ 999 := by unfold byM; split <;> omega
theorem byZ_0 (C : Cr) (z : Nat → Nat) (s : Nat) : byZ C z s 0 = z 0 := by
  unfold byZ
  split
  · rw [zup_n (by omega)]
  · rfl
theorem byZ_ok {C : Cr} {z : Nat → Nat} {s : Nat} (hC : okCr C) (hz : okZ C z) : okZ C (byZ C z s) := by
  unfold byZ
  split
  next q =>
    have ht : byI C s < cT C := Nat.mod_lt _ q.2
    have h6 := hC.1.2.1
    have hm := byM_le z (byI C s)
    generalize byI C s = t at *
    generalize byM z t = v at *
    obtain ⟨a0, a1, a2, a3, a4, a5, a6, a7, a8⟩ := hz
    refine ⟨by rw [zup_n (by omega)]; exact a0, by rw [zup_n (by omega)]; exact a1, by rw [zup_n (by omega)]; exact a2, fun r hr => by rw [zup_n (by omega)]; exact a3 r hr, fun r hr => by rw [zup_n (by omega)]; exact a4 r hr, fun r hr => ?_, fun r hr => by rw [zup_n (by omega)]; exact a6 r hr, fun r hr hr2 => by rw [zup_n (by omega)]; exact a7 r hr hr2, fun r hr hr2 => by rw [zup_n (by omega), zup_n (by omega)]; exact a8 r hr hr2⟩
    by_cases e : r = t
    · subst e; rw [zup_s]; exact hm
    · rw [zup_n (by omega)]; exact a5 r hr
  · exact hz
theorem byS_lt (C : Cr) (s : Nat) : byS C s < 2 ^ 31 := by
  unfold byS
  split <;> exact lcg_lt _
/-- the class: the boy of one year -/
theorem h_boy {S : Hp} {c s : Nat} {C : Cr} {z : Nat → Nat} {kl : List Nat} (hC : okCr C) (hz : okZ C z) (h : cH S c C) (h01 : S.2.2 0 1 = c) (hs : stH S 1200 C z) (hk : kpH S 1200 kl) (hs0 : s < 2 ^ 31) (h16 : S.1 0 16 = nI s) : ∃ S', f_X11_boyTells S = some (if byT C s then 1 else 0, S') ∧ stH S' 1200 C (byZ C z s) ∧ kpH S' 1200 kl ∧ S'.1 0 16 = nI (byS C s) ∧ (∀ k, k ≠ 16 → S'.1 0 k = S.1 0 k) ∧ fH (fun b => b = 0 ∨ b = 1203) S S' := by
  have hcc := cH_c h
  have h6 := hC.1.2.1
  have hR := hC.2.1.2.2
  have hl := lcg_lt s
  unfold f_X11_boyTells
  rw [ldP_n h01 h.1.2, ldI_L 1 (by decide) (by decide), h.2.1.2.1, show f_X11_draw (100 : Int32) S = _ from h_draw (m := 100) hs0 h16 (by decide) (by decide), ob2_s, ldP_n (show (ho_sI S 0 16 (nI (lcg s))).2.2 0 1 = c from h01) h.1.2, sI_ne _ (show c ≠ 0 by omega), h.2.2.1.2.2]
  have f0 : fH (fun b => b = 0) S (ho_sI S 0 16 (nI (lcg s))) := fH_sI S rfl (by decide)
  have f1 : fH (fun b => b = 0 ∨ b = 1203) S (ho_sI S 0 16 (nI (lcg s))) := fH_mo f0 (fun b q => Or.inl q)
  have s1 := stH_f hs f0 (fun b q => by omega)
  have k1 := kpH_f hk f1 (by first | decide | (dsimp only; omega) | omega) (by first | decide | (dsimp only; omega) | omega)
  unfold byZ byS
  by_cases e1 : cR C 0 2 ≤ lcg s / 64 % 100
  · have e : ¬ byT C s := fun q => by have := q.1; have := q.2; omega
    rw [if_pos (nI_le e1 (by omega)), if_neg e, if_neg e, if_neg e]
    exact ⟨_, rfl, s1, k1, sI_v, fun k hk => by rw [sI_k hk], f1⟩
  rw [if_neg (nI_ge (by omega) (by omega))]
  by_cases e2 : cT C = 0
  · have e : ¬ byT C s := fun q => by have := q.1; have := q.2; omega
    rw [if_pos (show nI (cT C) = 0 by rw [e2]; rfl), if_neg e, if_neg e, if_neg e]
    exact ⟨_, rfl, s1, k1, sI_v, fun k hk => by rw [sI_k hk], f1⟩
  have e : byT C s := ⟨by omega, by omega⟩
  have ht : byI C s < cT C := Nat.mod_lt _ e.2
  have hm := byM_le z (byI C s)
  have zt := hz.2.2.2.2.2.1 (byI C s) (by omega)
  rw [if_neg (nI_ne0 (by omega) (by omega)), if_pos e, if_pos e, if_pos e, h_draw (m := cT C) (s := lcg s) hl sI_v (by omega) (by omega), ob2_s, show lcg (lcg s) / 64 % cT C = byI C s from rfl, ldI_n (by omega) (by decide), sI_ne _ (by decide), sI_ne _ (by decide), (hs.2.2.1 _ (by omega)).2.2, lit_nI 50, nI_add]
  have hj : f_J9_min_7cf53 (999 : Int32) (nI (z (15 + byI C s) + 50)) (ho_sI (ho_sI S 0 16 (nI (lcg s))) 0 16 (nI (lcg (lcg s)))) = some (nI (byM z (byI C s)), ho_sI (ho_sI S 0 16 (nI (lcg s))) 0 16 (nI (lcg (lcg s)))) := by
    unfold f_J9_min_7cf53 byM
    by_cases q : z (15 + byI C s) + 50 ≤ 999
    · rw [if_pos q]
      by_cases q2 : z (15 + byI C s) + 50 < 999
      · rw [if_pos ((ltL 999 (by omega) (by decide)).mpr q2)]
      · rw [if_neg (fun q => q2 ((ltL 999 (by omega) (by decide)).mp q)), show z (15 + byI C s) + 50 = 999 by omega]; rfl
    · rw [if_neg q, if_neg (fun x => absurd ((ltL 999 (by omega) (by decide)).mp x) (by omega))]; rfl
  have f2 : fH (fun b => b = 0) S (ho_sI (ho_sI S 0 16 (nI (lcg s))) 0 16 (nI (lcg (lcg s)))) := fH_tr f0 (fH_sI _ rfl (by decide))
  have s2 := stH_r (x := 3) (t := byI C s) (v := byM z (byI C s)) (stH_f hs f2 (fun b q => by omega)) (by omega) (by omega)
  have f3 : fH (fun b => b = 0 ∨ b = 1203) S _ := fH_tr (fH_mo f2 (fun b q => Or.inl q)) (fH_sI (a := 1203) (k := byI C s) (v := nI (byM z (byI C s))) _ (Or.inr rfl) (by decide))
  rw [hj, ob2_s, stI_n (by omega) (by decide)]
  exact ⟨_, rfl, s2, kpH_f hk f3 (by first | decide | (dsimp only; omega) | omega) (by first | decide | (dsimp only; omega) | omega), by rw [sI_ne _ (by decide), sI_v], fun k hk => by rw [sI_ne _ (by decide), sI_k hk, sI_k hk], f3⟩
/-- the values of the years with the boy: state, kept, seed, told -/
def chA (C : Cr) (z : Nat → Nat) (kl : List Nat) (s : Nat) : Nat → (Nat → Nat) × List Nat × Nat × Nat
  | 0 => (z, kl, s, 0)
  | n + 1 => (yr C (byZ C (chA C z kl s n).1 (chA C z kl s n).2.2.1), yrK C (byZ C (chA C z kl s n).1 (chA C z kl s n).2.2.1) (chA C z kl s n).2.1, byS C (chA C z kl s n).2.2.1, if byT C (chA C z kl s n).2.2.1 then (chA C z kl s n).2.2.2 + 1 else (chA C z kl s n).2.2.2)
theorem chA_0 {C : Cr} {z : Nat → Nat} {kl : List Nat} {s : Nat} (hC : okCr C) : ∀ n, (chA C z kl s n).1 0 = z 0 + n
  | 0 => rfl
  | n + 1 => by
    show yr C _ 0 = _
    rw [yr_0 _ _ hC, byZ_0, chA_0 hC n]; omega
theorem chA_ok {C : Cr} {z : Nat → Nat} {kl : List Nat} {s : Nat} (hC : okCr C) (hz : okZ C z) (hs : s < 2 ^ 31) : ∀ n, z 0 + n ≤ 999 → okZ C (chA C z kl s n).1 ∧ (chA C z kl s n).2.2.1 < 2 ^ 31
  | 0, _ => ⟨hz, hs⟩
  | n + 1, h => by
    have := chA_ok (kl := kl) hC hz hs n (by omega)
    exact ⟨yr_ok hC (byZ_ok hC this.1) (by rw [byZ_0, chA_0 hC]; omega), byS_lt _ _⟩
theorem chA_le {C : Cr} {z : Nat → Nat} {kl : List Nat} {s : Nat} : ∀ n, (chA C z kl s n).2.2.2 ≤ n
  | 0 => Nat.le_refl _
  | n + 1 => by
    have := chA_le (C := C) (z := z) (kl := kl) (s := s) n
    show (if byT C (chA C z kl s n).2.2.1 then (chA C z kl s n).2.2.2 + 1 else (chA C z kl s n).2.2.2) ≤ n + 1
    generalize (chA C z kl s n).2.2.2 = w at *
    split <;> omega
theorem h_c22 {c n s : Nat} {C : Cr} {z : Nat → Nat} {kl : List Nat} (hC : okCr C) (hz : okZ C z) (hs0 : s < 2 ^ 31) (hn : z 0 + n ≤ 999) : ∀ (d i K : Nat) (S : Hp), i + d = n → d < K → cH S c C → S.2.2 0 1 = c → stH S 1200 C (chA C z kl s i).1 → kpH S 1200 (chA C z kl s i).2.1 → S.1 0 16 = nI (chA C z kl s i).2.2.1 → ∃ S', f_X11_chance_22 K (nI n) (nI (chA C z kl s i).2.2.2) (nI i) S = some (nI (chA C z kl s n).2.2.2, S') ∧ stH S' 1200 C (chA C z kl s n).1 ∧ kpH S' 1200 (chA C z kl s n).2.1 ∧ S'.1 0 16 = nI (chA C z kl s n).2.2.1 ∧ (∀ k, k ≠ 16 → S'.1 0 k = S.1 0 k) ∧ fH (fun b => scA c 1200 b ∨ b = 0) S S' := by
  intro d
  induction d with
  | zero =>
    intro i K S hi hK h h01 hs hk h16
    obtain ⟨K, rfl⟩ : ∃ q, K = q + 1 := ⟨K - 1, by omega⟩
    have e : i = n := by omega
    subst e
    exact ⟨S, by rw [f_X11_chance_22, if_pos (nI_le (Nat.le_refl _) (by omega))], hs, hk, h16, fun _ _ => rfl, fH_rf _ S⟩
  | succ d ih =>
    intro i K S hi hK h h01 hs hk h16
    obtain ⟨K, rfl⟩ : ∃ q, K = q + 1 := ⟨K - 1, by omega⟩
    have hcc := cH_c h
    have hzi := chA_ok (kl := kl) hC hz hs0 i (by omega)
    have y0 := chA_0 (z := z) (kl := kl) (s := s) hC i
    have l1 := chA_le (C := C) (z := z) (kl := kl) (s := s) i
    obtain ⟨S0, b1, b2, b3, b4, b5, b6⟩ := h_boy hC hzi.1 h h01 hs hk hzi.2 h16
    have h0 : cH S0 c C := cH_f h b6 (fun b q => by unfold crC; omega)
    obtain ⟨S1, r1, r2, r3, r4⟩ := h_year hC (byZ_ok hC hzi.1) (by rw [byZ_0]; omega) h0 b2 b3
    have h1 := cH_a h0 (by decide) r4
    have e0 : S1.1 0 = S0.1 0 := r4.1 0 (by unfold scA scS scE; omega)
    obtain ⟨S2, q1, q2, q3, q4, q5, q6⟩ := ih (i + 1) K S1 (by omega) (by omega) h1 (by rw [r4.2.1, b6.2.1]; exact h01) r2 r3 (by rw [e0]; exact b4)
    have h37 : ∀ v, f_X11_chance_37 (f_X11_chance_22 K) (nI n) v (nI i) S0 = f_X11_chance_22 K (nI n) v (nI (i + 1)) S1 := by
      intro v
      unfold f_X11_chance_37
      rw [r1, ob2_s, le1_e, nI_1]
    refine ⟨S2, ?_, q2, q3, q4, fun k hk => by rw [q5 k hk, e0, b5 k hk], fH_tr (fH_mo b6 (fun b q => ?_)) (fH_tr (fH_mo r4 (fun b q => Or.inl q)) q6)⟩
    · rw [f_X11_chance_22, if_neg (nI_ge (by omega) (by omega)), b1, ob2_s, h37, le1_e, h37, nI_1, ← q1]
      show _ = f_X11_chance_22 K (nI n) (nI (if byT C (chA C z kl s i).2.2.1 then (chA C z kl s i).2.2.2 + 1 else (chA C z kl s i).2.2.2)) (nI (i + 1)) S1
      by_cases e : byT C (chA C z kl s i).2.2.1
      · rw [if_pos e, if_neg ne1, if_pos e]
      · rw [if_neg e, if_pos rfl, if_neg e]
    · unfold scA; omega
/-- the reference's frame -/
def fW (S S' : Hp) : Prop := (∀ b k, ¬ goP b k → S'.1 b k = S.1 b k) ∧ (∀ k, S'.2.1 42 k = S.2.1 42 k) ∧ S'.2.2 = S.2.2
theorem fW_tr {S S1 S2 : Hp} (h1 : fW S S1) (h2 : fW S1 S2) : fW S S2 := ⟨fun b k h => (h2.1 b k h).trans (h1.1 b k h), fun k => (h2.2.1 k).trans (h1.2.1 k), h2.2.2.trans h1.2.2⟩
theorem fW_N {S S' : Hp} (h : fN goP S S') : fW S S' := ⟨h.1, fun k => by rw [h.2.1 42 (by decide)], h.2.2⟩
theorem fW_J (S : Hp) (v : Int64) : fW S (ho_sJ S 0 74 v) := ⟨fun _ _ _ => rfl, fun k => sJ_n S (by omega), rfl⟩
theorem mC_w {S S' : Hp} {C : Cr} (c2 : mC S C) (h : fW S S') : mC S' C := by
  have gM : ∀ b k, crM b → S'.1 b k = S.1 b k := fun b k hb => h.1 b k (fun q => go_c q hb)
  obtain ⟨⟨a1, a2, a3⟩, ⟨b1, b2, b3⟩, cc, d, e, f1, f2⟩ := c2
  have g41 := fun k => gM 41 k (by unfold crM; omega)
  have g43 := fun k => gM 43 k (by unfold crM; omega)
  have g44 := fun k => gM 44 k (by unfold crM; omega)
  have g45 := fun k => gM 45 k (by unfold crM; omega)
  have g46 := fun k => gM 46 k (by unfold crM; omega)
  have g47 := fun k => gM 47 k (by unfold crM; omega)
  have mf : ∀ w cs, mF S w cs → mF S' w cs := fun w cs hm => hm.elim (fun x => Or.inl (codM_f x (gM 48 _ (by unfold crM; omega)) (gM 49 _ (by unfold crM; omega)) (fun j => gM 50 _ (by unfold crM; omega)))) (fun x => Or.inr ⟨(gM 48 _ (by unfold crM; omega)).trans x.1, x.2⟩)
  unfold mC
  simp only [g41, g43, g44, g45, g46, g47]
  exact ⟨⟨a1, a2, a3⟩, ⟨b1, b2, b3⟩, cc, d, e, mf 0 _ f1, mf 1 _ f2⟩
theorem m_boy {S : Hp} {s n i v K : Nat} {C : Cr} {z : Nat → Nat} {kl : List Nat} (hC : okCr C) (hz : okZ C z) (h : mC S C) (hs : mZ S C z) (hk : mK S kl) (hs0 : s < 2 ^ 31) (h74 : S.2.1 0 74 = lN s) (hin : i < n) (hn : n < 2 ^ 31) : ∃ S0, f_X12_chance_25 (K + 1) (nI n) (nI v) (nI i) S = f_X12_chance_102 (f_X12_chance_25 K) (nI n) (nI (if byT C s then v + 1 else v)) (nI i) S0 ∧ mZ S0 C (byZ C z s) ∧ mK S0 kl ∧ S0.2.1 0 74 = lN (byS C s) ∧ fW S S0 := by
  have h6 := hC.1.2.1
  have hR := hC.2.1.2.2
  have hl := lcg_lt s
  have hl2 := lcg_lt (lcg s)
  have tm : ∀ w, f_X12_trickMany (ho_sJ S 0 74 w) = some (nI (cT C), ho_sJ S 0 74 w) := by
    intro w
    unfold f_X12_trickMany
    rw [ldI_L 4 (by decide) (by decide)]
    exact congrArg some (Prod.ext h.1.2.1 rfl)
  have h47 : (ho_sJ S 0 74 (lN (lcg s))).1 47 3 = nI (cR C 0 2) := h.2.1.2.2
  unfold byZ byS
  rw [f_X12_chance_25, if_neg (nI_ge hin hn), show f_X12_drawOf (100 : Int32) S = _ from m_draw (m := 100) hs0 h74 (by decide) (by decide), ob2_s, ldI_L 3 (by decide) (by decide), h47]
  by_cases e1 : cR C 0 2 ≤ lcg s / 64 % 100
  · have e : ¬ byT C s := fun q => by have := q.1; have := q.2; omega
    rw [if_pos (nI_le e1 (by omega)), if_neg e, if_neg e, if_neg e]
    exact ⟨_, rfl, hs, hk, sJ_at S, fW_J S _⟩
  rw [if_neg (nI_ge (by omega) (by omega)), tm, ob2_s]
  by_cases e2 : cT C = 0
  · have e : ¬ byT C s := fun q => by have := q.1; have := q.2; omega
    rw [if_pos (show nI (cT C) ≤ 0 by rw [e2]; decide), if_neg e, if_neg e, if_neg e]
    exact ⟨_, rfl, hs, hk, sJ_at S, fW_J S _⟩
  have e : byT C s := ⟨by omega, by omega⟩
  have ht : byI C s < cT C := Nat.mod_lt _ e.2
  have hm := byM_le z (byI C s)
  have zt := hz.2.2.2.2.2.1 (byI C s) (by omega)
  have kn : ∀ w w', f_X12_knownOf (nI (byI C s)) (ho_sJ (ho_sJ S 0 74 w) 0 74 w') = some (nI (z (15 + byI C s)), ho_sJ (ho_sJ S 0 74 w) 0 74 w') := by
    intro w w'
    unfold f_X12_knownOf
    rw [lit_nI 15, nI_add, ldI_n (by omega) (by decide)]
    exact congrArg some (Prod.ext (hs.1 _ (by omega)) rfl)
  rw [if_neg (show ¬ nI (cT C) ≤ 0 from nI_ge (a := 0) (by omega) (by omega)), tm, ob2_s, m_draw (m := cT C) (s := lcg s) hl (sJ_at S) (by omega) (by omega), ob2_s, show lcg (lcg s) / 64 % cT C = byI C s from rfl, kn, ob2_s, le1_e, lit_nI 50, nI_add, if_pos e, if_pos e, if_pos e]
  have h98 : ∀ u : Int32, u = nI (byM z (byI C s)) → f_X12_chance_98 (f_X12_chance_25 K) (nI n) (nI v) (nI i) ((15 : Int32) + nI (byI C s)) u (ho_sJ (ho_sJ S 0 74 (lN (lcg s))) 0 74 (lN (lcg (lcg s)))) = f_X12_chance_102 (f_X12_chance_25 K) (nI n) (nI (v + 1)) (nI i) (ho_sI (ho_sJ (ho_sJ S 0 74 (lN (lcg s))) 0 74 (lN (lcg (lcg s)))) 55 (15 + byI C s) (nI (byM z (byI C s)))) := by
    intro u hu
    unfold f_X12_chance_98
    rw [lit_nI 15, nI_add, stI_n (by omega) (by decide), le1_e, nI_1, hu]
  have f1 : fW S (ho_sJ (ho_sJ S 0 74 (lN (lcg s))) 0 74 (lN (lcg (lcg s)))) := fW_tr (fW_J S _) (fW_J _ _)
  have f2 : fN (fun b k => b = 55 ∧ k < 21) (ho_sJ (ho_sJ S 0 74 (lN (lcg s))) 0 74 (lN (lcg (lcg s)))) (ho_sI (ho_sJ (ho_sJ S 0 74 (lN (lcg s))) 0 74 (lN (lcg (lcg s)))) 55 (15 + byI C s) (nI (byM z (byI C s)))) := fN_sI _ ⟨rfl, by omega⟩
  have hs2 : mZ (ho_sJ (ho_sJ S 0 74 (lN (lcg s))) 0 74 (lN (lcg (lcg s)))) C z := hs
  have hk2 : mK (ho_sJ (ho_sJ S 0 74 (lN (lcg s))) 0 74 (lN (lcg (lcg s)))) kl := hk
  refine ⟨_, ?_, mZ_u (i := 15 + byI C s) (v := byM z (byI C s)) hs2 (by omega), mK_f hk2 f2 (fun b k q => by omega), sJ_at _, fW_tr f1 (fW_N (fN_mo f2 (fun b k q => by unfold goP; omega)))⟩
  by_cases q : z (15 + byI C s) + 50 ≤ 999
  · rw [if_pos (show nI (z (15 + byI C s) + 50) ≤ (999 : Int32) from nI_le q (by decide))]
    exact h98 _ (by unfold byM; rw [if_pos q])
  · rw [if_neg (show ¬ nI (z (15 + byI C s) + 50) ≤ (999 : Int32) from nI_ge (b := z (15 + byI C s) + 50) (a := 999) (by omega) (by omega))]
    exact h98 _ (by unfold byM; rw [if_neg q]; rfl)
theorem m_c25 {n s : Nat} {C : Cr} {z : Nat → Nat} {kl : List Nat} (hC : okCr C) (hz : okZ C z) (hs0 : s < 2 ^ 31) (hn : z 0 + n ≤ 999) : ∀ (d i K : Nat) (S : Hp), i + d = n → d < K → mC S C → S.1 0 62 = 0 → ¬ S.1 0 52 = 0 → mZ S C (chA C z kl s i).1 → mK S (chA C z kl s i).2.1 → S.2.1 0 74 = lN (chA C z kl s i).2.2.1 → ∃ S', f_X12_chance_25 K (nI n) (nI (chA C z kl s i).2.2.2) (nI i) S = some (nI (chA C z kl s n).2.2.2, S') ∧ mZ S' C (chA C z kl s n).1 ∧ mK S' (chA C z kl s n).2.1 ∧ S'.2.1 0 74 = lN (chA C z kl s n).2.2.1 ∧ fW S S' := by
  intro d
  induction d with
  | zero =>
    intro i K S hi hK h h62 h52 hs hk h74
    obtain ⟨K, rfl⟩ : ∃ q, K = q + 1 := ⟨K - 1, by omega⟩
    have e : i = n := by omega
    subst e
    exact ⟨S, by rw [f_X12_chance_25, if_pos (nI_le (Nat.le_refl _) (by omega))], hs, hk, h74, fun _ _ _ => rfl, fun _ => rfl, rfl⟩
  | succ d ih =>
    intro i K S hi hK h h62 h52 hs hk h74
    obtain ⟨K, rfl⟩ : ∃ q, K = q + 1 := ⟨K - 1, by omega⟩
    have hzi := chA_ok (kl := kl) hC hz hs0 i (by omega)
    have y0 := chA_0 (z := z) (kl := kl) (s := s) hC i
    obtain ⟨S0, b1, b2, b3, b4, b5⟩ := m_boy (n := n) (i := i) (v := (chA C z kl s i).2.2.2) (K := K) hC hzi.1 h hs hk hzi.2 h74 (by omega) (by omega)
    have g62 : S0.1 0 62 = 0 := by rw [b5.1 0 62 (by unfold goP eP; omega)]; exact h62
    obtain ⟨S1, r1, r2, r3, r4, -⟩ := m_year (th := 0) hC (byZ_ok hC hzi.1) (by rw [byZ_0]; omega) (mC_w h b5) b2 b3 g62 (by rw [b5.1 0 52 (by unfold goP eP; omega)]; exact h52)
    unfold kpT at r3
    rw [if_pos g62] at r3
    have w1 := fW_tr b5 (fW_N r4)
    obtain ⟨S2, q1, q2, q3, q4, q5⟩ := ih (i + 1) K S1 (by omega) (by omega) (mC_w h w1) (by rw [w1.1 0 62 (by unfold goP eP; omega)]; exact h62) (by rw [w1.1 0 52 (by unfold goP eP; omega)]; exact h52) r2 r3 (by rw [r4.2.1 0 (by decide)]; exact b4)
    refine ⟨S2, ?_, q2, q3, q4, fW_tr w1 q5⟩
    rw [b1, f_X12_chance_102, r1, ob_s, le1_e, nI_1]
    exact q1
theorem s_26 : sim_26 Sim := by
  intro x SH SM h
  have h' := h
  obtain ⟨X, cr, c, C, N, P, z, kl, ok, a, b, d, e, f⟩ := h'
  have ok' := ok
  obtain ⟨⟨hC, hz⟩, ⟨hP, hPz⟩, ok2, ok3, hsd, ok4⟩ := ok'
  obtain ⟨c1, ⟨c2, c3, c4, c5⟩, ⟨c6, c7, c8⟩, c9, c10⟩ := a.2.2.2.1
  obtain ⟨m1, mc, mn⟩ := e.2.2.2.1
  have hr := sim_ref (j := 3) (by decide) h
  have y9 := hz.1
  unfold f_X11_chance f_X12_chance
  have rH : f_X11_refuse (3 : Int32) SH = _ := h_refuse (j := 3) (by decide)
  have rM : f_X12_refuses (3 : Int32) SM = _ := m_ref (k := 3) (by decide)
  cases cr with
  | false =>
    have e1 : f_X11_canPass x SH = some (0, SH) := by
      unfold f_X11_canPass
      rw [c1]
      rfl
    rw [e1, ob2_s, if_pos rfl, m_ahd0 m1, ob2_s, if_pos rfl, rH, ob2_s, rM, ob2_s]
    exact ⟨_, _, _, rfl, rfl, hr⟩
  | true =>
    rw [if_pos rfl] at c1 m1
    rcases ix3 x (n := 101) (by decide) with hx | ⟨n, hn, rfl⟩
    · rw [h_passN hx c1, ob2_s, if_pos rfl, show f_X12_isAhead x (1 : Int32) (100 : Int32) SM = _ from m_ahdN (lo := 1) (hi := 100) m1 (by decide) (by decide) hx, ob2_s, if_pos rfl, rH, ob2_s, rM, ob2_s]
      exact ⟨_, _, _, rfl, rfl, hr⟩
    · rw [h_pass c1 b.1.2.1.1 y9 (by omega), ob2_s, show f_X12_isAhead (nI n) (1 : Int32) (100 : Int32) SM = _ from m_ahd (lo := 1) (hi := 100) m1 (f.1.1 0 (by decide)) y9 (by decide) (by decide) (by omega), ob2_s]
      by_cases e1 : 1 ≤ n ∧ n ≤ 100 ∧ z 0 + n ≤ 999
      · rw [if_pos e1, if_neg ne1, if_neg ne1]
        obtain ⟨S1, r1, r2, r3, r4, r5, r6⟩ := h_rem hC hP a b
        obtain ⟨M1, v1, v2, v3, v4⟩ := m_keeps hC hP e f
        have ch1 := r2.2.2.2.1.2.2.2.1 rfl
        have hcc := cH_c ch1
        obtain ⟨S2, q1, q2, q3, q4, q5, q6⟩ := h_c22 (kl := kl) hC hz hsd e1.2.2 n 0 5000 S1 (by omega) (by omega) ch1 r2.2.2.2.1.2.1.1 r3.1 r3.2 r2.2.2.2.2.2.2.2.1
        have m52 : M1.1 0 52 = 1 := v2.2.2.2.1.1.trans (if_pos rfl)
        obtain ⟨M3, t1, t2, t3, t4, t5⟩ := m_c25 (kl := kl) hC hz hsd e1.2.2 n 0 5000 M1 (by omega) (by omega) v2.2.2.2.1.2.1 v3.2.2 (by rw [m52]; exact ne1) v3.1 v3.2.1 v2.2.2.2.2.2.2.2
        rw [r1, ob_s, show f_X11_chance_22 5000 (nI n) (0 : Int32) (0 : Int32) S1 = _ from q1, v1, ob_s, show f_X12_chance_25 5000 (nI n) (0 : Int32) (0 : Int32) M1 = _ from t1]
        have okn := chA_ok (kl := kl) hC hz hsd n e1.2.2
        have g : ∀ b, ¬ (scA c 1200 b ∨ b = 0) → S2.1 b = S1.1 b := q6.1
        have gm : ∀ b k, ¬ goP b k → M3.1 b k = M1.1 b k := t5.1
        have r2' := r2
        have v2' := v2
        obtain ⟨⟨u1, u2, u3, u4⟩, fl, rr, -, -, w, im, -, -, -⟩ := r2'
        obtain ⟨⟨⟨x1, x2, x3⟩, xw⟩, fl', rr', -, -, w', im', -⟩ := v2'
        have nb : ∀ b, b = 1 ∨ b = 10 ∨ b = 11 ∨ b = 12 ∨ b = 60 ∨ b = 70 ∨ b = 71 ∨ b = 72 ∨ b = 90 ∨ b = 91 → S2.1 b = S1.1 b := fun b q => g b (by unfold scA scS scE; omega)
        refine ⟨_, S2, M3, rfl, rfl, sim_act (X := Xs X (chA C z kl (xS X) n).2.2.1) (c := c) (z := (chA C z kl (xS X) n).1) (kl := (chA C z kl (xS X) n).2.1) ⟨⟨hC, okn.1⟩, Pp_ok ⟨hP, hPz⟩ hz, ok2, ok3, okn.2, ok4⟩ (hA_x r2 q6 (fun b q x => ?_) (fun k hk => q5 k (by omega)) ⟨u1, by rw [nb 10 (by omega)]; exact u2, by rw [nb 11 (by omega)]; exact u3, by rw [nb 12 (by omega)]; exact u4⟩ (by rw [nb 10 (by omega)]; exact fl) (by rw [nb 1 (by omega)]; exact rr) ⟨by rw [nb 70 (by omega)]; exact w.1, by rw [nb 71 (by omega), nb 72 (by omega)]; exact w.2⟩ ⟨by rw [nb 90 (by omega)]; exact im.1, by rw [nb 91 (by omega)]; exact im.2⟩ q4) ⟨q2, q3⟩ (by rw [nb 60 (by omega)]; exact r4) (by rw [nb 60 (by omega)]; exact r5) (mA_x v2 (fun b k q => gm b k (by unfold goP eP; unfold crM at q; omega)) t5.2.1 ⟨⟨x1, by rw [gm 0 1 (by unfold goP eP; omega)]; exact x2, fun i hi => by rw [gm 1 i (by unfold goP eP; omega)]; exact x3 i hi⟩, mWs_hi xw (fun b k q => gm b k (by unfold goP eP; omega))⟩ ⟨by rw [gm 0 7 (by unfold goP eP; omega)]; exact fl'.1, by rw [gm 0 8 (by unfold goP eP; omega)]; exact fl'.2⟩ (fun k hk => by rw [gm 10 k (by unfold goP eP; omega)]; exact rr' k hk) ⟨by rw [gm 0 66 (by unfold goP eP; omega)]; exact w'.1, fun i hi => by rw [gm 68 _ (by unfold goP eP; omega), gm 68 _ (by unfold goP eP; omega), gm 68 _ (by unfold goP eP; omega)]; exact w'.2 i hi⟩ ⟨by rw [gm 0 110 (by unfold goP eP; omega)]; exact im'.1, fun i hi => by rw [gm 110 i (by unfold goP eP; omega)]; exact im'.2 i hi⟩ t4) ⟨t2, t3, by rw [gm 0 62 (by unfold goP eP; omega)]; exact v3.2.2⟩⟩
        unfold scA scS scE at x; unfold crC at q; omega
      · rw [if_neg e1, if_pos rfl, if_pos rfl, rH, ob2_s, rM, ob2_s]
        exact ⟨_, _, _, rfl, rfl, hr⟩

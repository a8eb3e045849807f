/-! level 2: alike answers: both, the class's second shows -/
theorem shw_bit {C : Cr} {z : Nat → Nat} {t : Nat} : (shw C z).testBit t = true ↔ z 2 ≠ 0 ∧ t < cT C ∧ z (15 + t) < 100 := by
  unfold shw
  by_cases e : z 2 = 0
  · rw [if_pos e, Nat.zero_testBit]
    exact ⟨(fun q => by cases q), fun q => absurd e q.1⟩
  · rw [if_neg e, setNat_bit, Bool.and_eq_true, decide_eq_true_iff, decide_eq_true_iff]
    exact ⟨fun q => ⟨e, q⟩, fun q => q.2⟩
/-- the best pair, as the class holds it -/
def prH (S : Hp) : Pr → Prop
  | none => S.1 65 2 = nI 100000
  | some p => S.1 65 0 = nI p.1 ∧ S.1 65 1 = nI p.2.1 ∧ S.1 65 2 = nI p.2.2.1 ∧ S.1 65 3 = nI p.2.2.2
theorem prH_e {S S' : Hp} {o : Pr} (h : prH S o) (e : S'.1 65 = S.1 65) : prH S' o := by
  cases o with
  | none => show S'.1 65 2 = _; rw [e]; exact h
  | some p => show S'.1 65 0 = _ ∧ S'.1 65 1 = _ ∧ S'.1 65 2 = _ ∧ S'.1 65 3 = _; rw [e]; exact h
theorem prI_hi {C : Cr} {z1 : Nat → Nat} {a : Nat} {o : Pr} : ∀ n, shw C z1 + 1 ≤ n → prI C z1 a o n = prI C z1 a o (shw C z1 + 1) := by
  intro n
  induction n with
  | zero => intro h; omega
  | succ n ih =>
    intro h
    by_cases e : n = shw C z1
    · rw [e]
    · rw [prI, if_neg (fun q => absurd (sub_le q.1) (by omega)), ih (by omega)]
theorem prO_hi {C : Cr} {z : Nat → Nat} : ∀ n, shw C z + 1 ≤ n → prO C z n = prO C z (shw C z + 1) := by
  intro n
  induction n with
  | zero => intro h; omega
  | succ n ih =>
    intro h
    by_cases e : n = shw C z
    · rw [e]
    · rw [prO, if_neg (fun q => absurd (sub_le q) (by omega)), ih (by omega)]
theorem h_147 {F : Int32 → Int32 → Int32 → Hp → Option Hp} {S : Hp} {a i u v : Nat} {x : Int32} (h1 : S.1 1250 1 = nI u) (h2 : S.1 1250 2 = nI v) : ∃ S', f_X0_pairWith_147 F (nI a) x (nI i) S = F (nI a) x (nI (i + 1)) S' ∧ prH S' (some (a, i, u, v)) ∧ fH (fun b => b = 65) S S' := by
  refine ⟨ho_sI (ho_sI (ho_sI (ho_sI S 65 0 (nI a)) 65 1 (nI i)) 65 2 (nI u)) 65 3 (nI v), ?_, ⟨?_, ?_, ?_, ?_⟩, fH_tr (fH_tr (fH_tr (fH_sI S rfl (by decide)) (fH_sI _ rfl (by decide))) (fH_sI _ rfl (by decide))) (fH_sI _ rfl (by decide))⟩
  · unfold f_X0_pairWith_147 f_X0_pairWith_187
    rw [stI_L 0 (by decide) (by decide), stI_L 1 (by decide) (by decide), sI_ne _ (show 1250 ≠ 65 by decide), sI_ne _ (show 1250 ≠ 65 by decide), h1, stI_L 2 (by decide) (by decide), sI_ne _ (show 1250 ≠ 65 by decide), sI_ne _ (show 1250 ≠ 65 by decide), sI_ne _ (show 1250 ≠ 65 by decide), h2, stI_L 3 (by decide) (by decide), le1_e, nI_1]
  · rw [sI_k (by decide), sI_k (by decide), sI_k (by decide), sI_v]
  · rw [sI_k (by decide), sI_k (by decide), sI_v]
  · rw [sI_k (by decide), sI_v]
  · rw [sI_v]
def pwP (c b : Nat) : Prop := scS c b ∨ b = 65 ∨ (1250 ≤ b ∧ b ≤ 1255)
theorem pwP_c {c b : Nat} (hc : c = 100 ∨ c = 150) (h : pwP c b) : ¬ crC c b := by
  unfold pwP scS scE at h
  unfold crC
  omega
theorem s1250 : 1250 ∈ yH.1 ∧ yH.2.1 1250 = (1, 9) := ⟨memH (by decide) (by decide), rfl⟩
theorem h_pw58 {c a : Nat} {C : Cr} {z1 : Nat → Nat} {o : Pr} (hC : okCr C) (hz : okZ C z1) (hy : z1 0 < 999) (ha : a < 64) (ho : okPr o) : ∀ (d i K : Nat) (S : Hp), i + d = shw C z1 + 1 → d < K → cH S c C → stH S 1240 C (rip C z1) → (∃ kl, kpH S 1240 kl) → (∀ t, t < cT C → (shw C z1).testBit t = true → S.1 69 t = nI (sgT C (rip C z1) t)) → prH S (prI C z1 a o i) → ∃ S', f_X0_pairWith_58 K (nI a) (nI (shw C z1)) (nI i) S = some S' ∧ prH S' (prI C z1 a o (shw C z1 + 1)) ∧ fH (pwP c) S S' := by
  have h64 := shw_64 hC z1
  have hz1 := rip_ok hC hz
  intro d
  induction d with
  | zero =>
    intro i K S hi hK h hs hk hg hp
    obtain ⟨K, rfl⟩ : ∃ q, K = q + 1 := ⟨K - 1, by omega⟩
    refine ⟨S, by rw [f_X0_pairWith_58, if_pos (nI_lt (by omega) (by omega))], ?_, fH_rf _ S⟩
    rw [show shw C z1 + 1 = i by omega]; exact hp
  | succ d ih =>
    intro i K S hi hK h hs hk hg hp
    obtain ⟨K, rfl⟩ : ∃ q, K = q + 1 := ⟨K - 1, by omega⟩
    have hcc := cH_c h
    have h187 : ∀ Sx, f_X0_pairWith_187 (f_X0_pairWith_58 K) (nI a) (nI (shw C z1)) (nI i) Sx = f_X0_pairWith_58 K (nI a) (nI (shw C z1)) (nI (i + 1)) Sx := by
      intro Sx
      unfold f_X0_pairWith_187
      rw [le1_e, nI_1]
    rw [f_X0_pairWith_58, if_neg (nI_nlt (by omega) (by omega))]
    by_cases e : i &&& shw C z1 = i
    rotate_left
    · rw [if_neg (fun q => e ((sub_nat (by omega) h64).mp q)), h187]
      refine ih (i + 1) K S (by omega) (by omega) h hs hk hg ?_
      rw [prI, if_neg (fun q => e q.1)]; exact hp
    obtain ⟨kl, hk⟩ := hk
    obtain ⟨S1, r1, r2, r3, r4⟩ := h_copy s1250 (by decide) hs hk hC.1.2.2
    have h1 : cH S1 c C := cH_f h r4 (fun b q => by unfold crC; omega)
    obtain ⟨S2, t1, t2, t3, t4⟩ := h_give (s := i) (w3 := 69) (g := sgT C (rip C z1)) hC hz1 (by omega) (by rw [rip_o hC (by omega)]; exact hy) ⟨by decide, by decide, by decide, by decide⟩ (fun t _ => by have := sgT_le (z := rip C z1) hC t; omega) h1 r2 r3 (fun t ht hb => by rw [r4.1 69 (by first | decide | (dsimp only; omega) | omega)]; exact hg t ht (sub_bit e hb))
    have f2 : fH (pwP c) S S2 := fH_tr (fH_mo r4 (fun b q => Or.inr (Or.inr q))) (fH_mo t4 (fun b q => q.elim Or.inl (fun x => Or.inr (Or.inr x))))
    have e65 : S2.1 65 = S.1 65 := by rw [t4.1 65 (by unfold scA scS scE; omega), r4.1 65 (by first | decide | (dsimp only; omega) | omega)]
    have hp2 := prH_e hp e65
    have hg1 := gv_ok (s := i) (g := sgT C (rip C z1)) hC hz1 (by rw [rip_o hC (by omega)]; exact hy)
    obtain ⟨-, b1, b2⟩ := t2.2.1
    obtain ⟨-, l1, l2, -⟩ := hg1
    rw [if_pos ((sub_nat (by omega) h64).mpr e), r1, ob_s, t1, ob2_s, ldI_L 2 (by decide) (by decide), ldI_L 2 (by decide) (by decide), ldI_L 3 (by decide) (by decide), h187, b1, b2]
    have go : ∀ Sx o', fH (pwP c) S2 Sx → prH Sx o' → o' = prI C z1 a o (i + 1) → ∃ S', f_X0_pairWith_58 K (nI a) (nI (shw C z1)) (nI (i + 1)) Sx = some S' ∧ prH S' (prI C z1 a o (shw C z1 + 1)) ∧ fH (pwP c) S S' := by
      intro Sx o' hf hp' he
      have f3 := fH_tr f2 hf
      subst he
      obtain ⟨S', q1, q2, q3⟩ := ih (i + 1) K Sx (by omega) (by omega) (cH_f h f3 (fun b q => pwP_c hcc q)) (stH_f hs f3 (fun b q => by unfold pwP scS scE at q; omega)) ⟨kl, kpH_f hk f3 (by unfold pwP scS scE; omega) (by unfold pwP scS scE; omega)⟩ (fun t ht hb => by rw [f3.1 69 (by unfold pwP scS scE; omega)]; exact hg t ht hb) hp'
      exact ⟨S', q1, q2, fH_tr f3 q3⟩
    obtain ⟨S3, v1, v2, v3⟩ := h_147 (F := f_X0_pairWith_58 K) (a := a) (i := i) (x := nI (shw C z1)) b1 b2
    have v3' : fH (pwP c) S2 S3 := fH_mo v3 (fun b q => Or.inr (Or.inl q))
    have hok := prI_ok hC hz hy ha ho i (by omega)
    have yes : prB (prI C z1 a o i) (gv C (rip C z1) i (sgT C (rip C z1)) 1) (gv C (rip C z1) i (sgT C (rip C z1)) 2) = true → some (a, i, gv C (rip C z1) i (sgT C (rip C z1)) 1, gv C (rip C z1) i (sgT C (rip C z1)) 2) = prI C z1 a o (i + 1) := fun q => by rw [prI, if_pos ⟨e, q⟩]
    have no : ¬ prB (prI C z1 a o i) (gv C (rip C z1) i (sgT C (rip C z1)) 1) (gv C (rip C z1) i (sgT C (rip C z1)) 2) = true → prI C z1 a o i = prI C z1 a o (i + 1) := fun q => by rw [prI, if_neg (fun x => q x.2)]
    generalize gv C (rip C z1) i (sgT C (rip C z1)) 1 = u at *
    generalize gv C (rip C z1) i (sgT C (rip C z1)) 2 = w at *
    rw [v1]
    cases ho' : prI C z1 a o i with
    | none =>
      rw [ho'] at hp2 yes
      rw [show S2.1 65 2 = nI 100000 from hp2, if_pos (nI_lt (by omega) (by omega))]
      exact go S3 _ v3' v2 (yes rfl)
    | some p =>
      have hp3 := hp2
      rw [ho'] at hp3 yes no
      obtain ⟨p1, p2, p3, p4⟩ := hp3
      obtain ⟨k1, k2, k3, k4⟩ := hok p ho'
      rw [p3, p4]
      by_cases e1 : u < p.2.2.1
      · rw [if_pos (nI_lt (by omega) (by omega))]
        exact go S3 _ v3' v2 (yes (by show (decide _ || _) = true; rw [decide_eq_true e1]; rfl))
      · rw [if_neg (nI_nlt (by omega) (by omega))]
        by_cases e2 : u = p.2.2.1
        · rw [if_pos (by rw [e2])]
          by_cases e3 : w ≤ p.2.2.2
          · rw [if_pos (nI_le e3 (by omega))]
            exact go S2 _ (fH_rf _ _) hp2 (by rw [ho']; exact no (by show ¬ (decide _ || (decide _ && decide _)) = true; rw [decide_eq_false e1, decide_eq_false (show ¬ p.2.2.2 < w by omega), Bool.and_false]; decide))
          · rw [if_neg (nI_ge (by omega) (by omega))]
            exact go S3 _ v3' v2 (yes (by show (decide _ || (decide _ && decide _)) = true; rw [decide_eq_true e2, decide_eq_true (show p.2.2.2 < w by omega), Bool.and_true, Bool.or_true]))
        · rw [if_neg (fun q => e2 ((nI_eq (by omega) (by omega)).mp q))]
          exact go S2 _ (fH_rf _ _) hp2 (by rw [ho']; exact no (by show ¬ (decide _ || (decide _ && decide _)) = true; rw [decide_eq_false e1, decide_eq_false e2, Bool.false_and]; decide))
def pw2 (c b : Nat) : Prop := pwP c b ∨ b = 69
theorem h_pw {S : Hp} {c a : Nat} {C : Cr} {z1 : Nat → Nat} {o : Pr} (hC : okCr C) (hz : okZ C z1) (hy : z1 0 < 999) (ha : a < 64) (ho : okPr o) (h : cH S c C) (hs : stH S 1240 C (rip C z1)) (hk : ∃ kl, kpH S 1240 kl) (hg : ∀ t, t < cT C → (shw C z1).testBit t = true → (if a.testBit t then S.1 68 t else S.1 67 t) = nI (sgT C (rip C z1) t)) (hp : prH S o) : ∃ S', f_X0_pairWith (nI a) S = some S' ∧ prH S' (prI C z1 a o (2 ^ cT C)) ∧ fH (pw2 c) S S' := by
  have hcc := cH_c h
  have hnt := hC.1.2.1
  have h64 := shw_64 hC z1
  obtain ⟨S1, r1, r2, -, r4⟩ := h_pw2 ha 6 0 5000 S (by decide) (by decide)
  obtain ⟨kl, hk⟩ := hk
  have h1 : cH S1 c C := cH_f h r4 (fun b q => by unfold crC; omega)
  have s1 : stH S1 1240 C (rip C z1) := stH_f hs r4 (fun b q => by omega)
  obtain ⟨S2, q1, q2, q3⟩ := h_pw58 (a := a) (o := o) hC hz hy ha ho (shw C z1 + 1) 0 5000 S1 (by omega) (by omega) h1 s1 ⟨kl, kpH_f hk r4 (by first | decide | (dsimp only; omega) | omega) (by first | decide | (dsimp only; omega) | omega)⟩ (fun t ht hb => by rw [r2 t (by omega) (by omega)]; exact hg t ht hb) (prH_e hp (r4.1 65 (by first | decide | (dsimp only; omega) | omega)))
  refine ⟨S2, ?_, by rw [prI_hi _ (shw_lt C z1)]; exact q2, fH_tr (fH_mo r4 (fun b q => Or.inr q)) (fH_mo q3 (fun b q => Or.inl q))⟩
  unfold f_X0_pairWith
  rw [show f_X0_pairWith_2 5000 (nI a) (0 : Int32) S = _ from r1, h_shw hC (rip_ok hC hz) h1 s1, ob2_s, shw_rip hC]
  exact q1

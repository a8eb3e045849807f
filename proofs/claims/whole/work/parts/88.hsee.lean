/-! level 2: the class reads a crown: sums, statements -/
def fG (a0 p : Nat) (S S' : Hp) : Prop := (∀ b k, ¬ (gP p b k ∨ (b = a0 ∧ k = 2)) → S'.1 b k = S.1 b k) ∧ S'.2.1 = S.2.1 ∧ (∀ b k, ¬ (b = a0 ∧ k = 1) → S'.2.2 b k = S.2.2 b k)
theorem h_readSum {S : Hp} {T : Tp} {m a0 p : Nat} {σ : Lx} (ht : tR S T σ) (ha : a0 = 25 ∨ a0 = 35) (hp : p ∈ yH.1 ∧ yH.2.1 p = (1, 4)) (hm : m < 3) :
    (∀ cs σ1, sm T (ptD T m 6) σ = .ok (cs, σ1) → ∃ S', f_X7_readSum a0 p (nI (mk m)) S = some (1, S') ∧ gR S' T m σ1 a0 p cs ∧ fG a0 p S S') ∧ (∀ e, sm T (ptD T m 6) σ = .error e → ∃ S', f_X7_readSum a0 p (nI (mk m)) S = some (0, S') ∧ wR S' e ∧ fG a0 p S S') := by
  obtain ⟨S1, a1, a2, a3, a4, a5, a6⟩ := gR_aim ht ha hp hm
  have hG := g_sm (k := 58) (ptD_mv T m 6) (cp_sim T m a0 p 6 (Nat.le_refl _) 58 (by decide)) σ [] S1 a2 (by simp)
  have fr : ∀ S', fM (gP p) S1 S' → fG a0 p S S' := by
    intro S' hf
    refine ⟨fun b k hb => ?_, by rw [hf.2]; exact a4, fun b k hb => by rw [hf.2]; exact a5 b k hb⟩
    rw [hf.1 b k (fun q => hb (Or.inl q)), a3]
    have h1 : ¬ (b = p ∧ k = 2) := fun q => hb (Or.inl (Or.inr (Or.inl q)))
    have h2 : ¬ (b = a0 ∧ k = 2) := fun q => hb (Or.inr q)
    by_cases e1 : b = a0
    · subst e1
      rw [sI_k (by omega)]
      by_cases e2 : b = p
      · subst e2; rw [sI_k (by omega)]
      · rw [sI_ne _ e2]
    · rw [sI_ne _ e1]
      by_cases e2 : b = p
      · subst e2; rw [sI_k (by omega)]
      · rw [sI_ne _ e2]
  constructor
  · intro cs σ1 h
    obtain ⟨S', b1, b2, b3⟩ := hG.1 cs σ1 h
    refine ⟨S', ?_, by rw [List.nil_append] at b2; exact b2, fr S' b3⟩
    unfold f_X7_readSum
    rw [a1, ob_s, show (0 : Int32) = nI (6 - 6) from rfl, b1, ob2_s]
    exact tr1
  · intro e h
    obtain ⟨S', b1, b2, b3⟩ := hG.2 e h
    refine ⟨S', ?_, b2, fr S' b3⟩
    unfold f_X7_readSum
    rw [a1, ob_s, show grpH 60 4 a0 (0 : Int32) S1 = some (0, S') from b1, ob2_s]
    exact tr0
theorem h_readTest {S : Hp} {T : Tp} {m a0 p : Nat} {σ : Lx} (ht : tR S T σ) (ha : a0 = 25 ∨ a0 = 35) (hp : p ∈ yH.1 ∧ yH.2.1 p = (1, 4)) (hm : m < 3) :
    (∀ cs σ1, ts T (fcD T m 6) σ = .ok (cs, σ1) → ∃ S', f_X7_readTest a0 p (nI (mk m)) S = some (1, S') ∧ gR S' T m σ1 a0 p cs ∧ fG a0 p S S') ∧ (∀ e, ts T (fcD T m 6) σ = .error e → ∃ S', f_X7_readTest a0 p (nI (mk m)) S = some (0, S') ∧ wR S' e ∧ fG a0 p S S') := by
  obtain ⟨S1, a1, a2, a3, a4, a5, a6⟩ := gR_aim ht ha hp hm
  have hG := g_ts (k := 58) (fcD_mv T m 6) (cf_sim T m a0 p 6 (Nat.le_refl _) 58 (by decide)) σ [] S1 a2 (by simp)
  have fr : ∀ S', fM (gP p) S1 S' → fG a0 p S S' := by
    intro S' hf
    refine ⟨fun b k hb => ?_, by rw [hf.2]; exact a4, fun b k hb => by rw [hf.2]; exact a5 b k hb⟩
    rw [hf.1 b k (fun q => hb (Or.inl q)), a3]
    have h1 : ¬ (b = p ∧ k = 2) := fun q => hb (Or.inl (Or.inr (Or.inl q)))
    have h2 : ¬ (b = a0 ∧ k = 2) := fun q => hb (Or.inr q)
    by_cases e1 : b = a0
    · subst e1
      rw [sI_k (by omega)]
      by_cases e2 : b = p
      · subst e2; rw [sI_k (by omega)]
      · rw [sI_ne _ e2]
    · rw [sI_ne _ e1]
      by_cases e2 : b = p
      · subst e2; rw [sI_k (by omega)]
      · rw [sI_ne _ e2]
  constructor
  · intro cs σ1 h
    obtain ⟨S', b1, b2, b3⟩ := hG.1 cs σ1 h
    refine ⟨S', ?_, by rw [List.nil_append] at b2; exact b2, fr S' b3⟩
    unfold f_X7_readTest
    rw [a1, ob_s, show (0 : Int32) = nI (6 - 6) from rfl, b1, ob2_s]
    exact tr1
  · intro e h
    obtain ⟨S', b1, b2, b3⟩ := hG.2 e h
    refine ⟨S', ?_, b2, fr S' b3⟩
    unfold f_X7_readTest
    rw [a1, ob_s, show grpH 60 0 a0 (0 : Int32) S1 = some (0, S') from b1, ob2_s]
    exact tr0
/-- the codes read, as a formula -/
theorem codH_g {S : Hp} {T : Tp} {m a0 p : Nat} {σ : Lx} {cs : List Nat} (h : gR S T m σ a0 p cs) (hl : cs.length ≤ 1600) (hA : ∀ c ∈ cs, okA c) : codH S p cs := by
  refine ⟨hl, h.2.2.2.2.1, fun j hj => ?_, hA⟩
  rw [h.2.2.2.2.2 j hj, List.getD_eq_getElem?_getD, List.getElem?_eq_getElem hj]
  rfl
theorem frmH {c : Nat} (hc : c = 100 ∨ c = 150) : (c + 13 ∈ yH.1 ∧ yH.2.1 (c + 13) = (1, 4)) ∧ (c + 16 ∈ yH.1 ∧ yH.2.1 (c + 16) = (1, 4)) := by
  rcases hc with rfl | rfl <;> exact ⟨⟨memH (by decide) (by decide), rfl⟩, memH (by decide) (by decide), rfl⟩
def tld (se lo : Option (List Nat)) : Nat := (if se.isSome then 4096 else 0) + (if lo.isSome then 8192 else 0)
/-- the first word of a sum's statement, taken -/
theorem h_only {S : Hp} {T : Tp} {σ : Lx} {c np nt nw j : Nat} {R : Nat → Nat → Nat} {N : Nat → Nat → List Nat} {se lo : Option (List Nat)} (h : dE S c np nt nw R N se lo) (ht : tR S T σ) (hj : j = 12 ∨ j = 13) (h6 : S.1 10 6 = nI j) :
    ∃ r S', f_X3_onlyOne S = some (r, S') ∧ fR c S S' ∧ ((if j = 12 then se else lo).isSome = true → r = 0 ∧ wR S' (5, tS T σ)) ∧ ((if j = 12 then se else lo).isSome = false → r = 1 ∧ tR S' T (nx T σ) ∧ S'.2.2 20 2 = c ∧ (∀ b k, c ≤ b → S'.1 b k = S.1 b k) ∧ S'.1 20 3 = nI (tld se lo + 2 ^ j)) := by
  have hc := dE_c h
  have h16 := tS16 ht
  have h20 : S.1 20 3 = nI (tld se lo) := h.2.2.2.2.2.2.2.2.2
  unfold f_X3_onlyOne
  rw [le1_e, h6, h20]
  have key : ((if j = 12 then se else lo).isSome = true → ¬ (nI (tld se lo) &&& ((1 : Int32) <<< (nI j &&& 31))) = 0) ∧ ((if j = 12 then se else lo).isSome = false → (nI (tld se lo) &&& ((1 : Int32) <<< (nI j &&& 31))) = 0 ∧ nI (tld se lo) ||| ((1 : Int32) <<< (nI j &&& 31)) = nI (tld se lo + 2 ^ j)) := by
    unfold tld
    rcases hj with rfl | rfl
    · rw [if_pos rfl]
      cases se.isSome <;> cases lo.isSome <;> decide
    · rw [if_neg (show ¬ (13 : Nat) = 12 by decide)]
      cases se.isSome <;> cases lo.isSome <;> decide
  cases hb : (if j = 12 then se else lo).isSome with
  | true =>
    obtain ⟨S', a1, a2, a3⟩ := h_wrong (S := S) (k := 5) (p := tS T σ) (by decide) h16.1
    refine ⟨0, S', ?_, fR_t (fM_mo a3 (fun b k q => w_t q)), fun _ => ⟨rfl, a2⟩, (fun q => by cases q)⟩
    rw [if_neg (key.1 hb), ht.2.2.2.1, show (5 : Int32) = nI 5 from rfl, a1, ob2_s]
    exact tr0
  | false =>
    obtain ⟨k1, k2⟩ := key.2 hb
    have t1 : tR (ho_sI S 20 3 (nI (tld se lo + 2 ^ j))) T σ := tR_hi ht (by decide)
    obtain ⟨S', a1, a2, a3⟩ := h_next t1
    have a3t : fM tP _ S' := fM_mo a3 (fun b k q => n_t q)
    refine ⟨1, S', ?_, fR_tr (fR_sI S (a := 20) (k := 3) (by unfold rP; omega)) (fR_t a3t), (fun q => by cases q), fun _ => ⟨rfl, a2, ?_, fun b k hb => ?_, ?_⟩⟩
    · rw [if_pos k1, k2, le1_e, a1, ob_s]
    · rw [a3.2]; exact h.1.1
    · rw [a3t.1 b k (tP_hi (by omega)), sI_ne _ (by omega)]
    · rw [a3t.1 20 3 (tP_hi (by decide)), sI_v]
theorem h_see {S : Hp} {T : Tp} {σ : Lx} {c np nt nw : Nat} {R : Nat → Nat → Nat} {N : Nat → Nat → List Nat} {se lo : Option (List Nat)} (h : dE S c np nt nw R N se lo) (ht : tR S T σ) (h6 : S.1 10 6 = nI 12) :
    ∃ r S', ob2 (f_X3_onlyOne S) (fun r7 S7 => if r7 = 0 then some ((0 : Int32), S7) else ldP yH S7 20 2 2 (fun p8 => ob2 (f_X7_readSum 25 (p8 + 13) (199936 : Int32) S7) (fun r9 S9 => if r9 = 0 then some ((0 : Int32), S9) else some ((1 : Int32), S9)))) = some (r, S') ∧ fR c S S' ∧ cD r S' c T (seeT T ((np, nt, nw), R, N, se, lo) σ) := by
  have hc := dE_c h
  obtain ⟨hp1, hp2⟩ := frmH hc
  have hT := ht.1.1
  have hσ := ht.2.1
  obtain ⟨r1, S1, a1, a2, a3, a4⟩ := h_only h ht (Or.inl rfl) h6
  rw [if_pos rfl] at a3 a4
  rw [a1, ob2_s]
  unfold seeT
  dsimp only
  cases hb : se.isSome with
  | true =>
    obtain ⟨b1, b2⟩ := a3 hb
    rw [if_pos b1, if_pos rfl]
    exact ⟨0, S1, rfl, a2, rfl, b2⟩
  | false =>
    obtain ⟨b1, b2, b3, b4, b5⟩ := a4 hb
    rw [if_neg (by rw [b1]; exact ne1), if_neg (by decide), ldP_n b3 h.1.2]
    obtain ⟨d1, d2⟩ := h_readSum (m := 0) (a0 := 25) b2 (Or.inl rfl) hp1 (by decide)
    have e25 : ∀ S', fG 25 (c + 13) S1 S' → fR c S1 S' := fun S' hf => ⟨fun b k hb => hf.1 b k (fun q => hb (by unfold gP at q; unfold rP; omega)), hf.2.1, hf.2.2⟩
    have mk0 : (199936 : Int32) = nI (mk 0) := rfl
    rw [mk0]
    cases x : sm T (ptD T 0 6) (nx T σ) with
    | error e =>
      obtain ⟨S2, g1, g2, g3⟩ := d2 e x
      rw [g1, ob2_s, if_pos rfl]
      exact ⟨0, S2, rfl, fR_tr a2 (e25 _ g3), rfl, g2⟩
    | ok v =>
      obtain ⟨cs, σ1⟩ := v
      obtain ⟨S2, g1, g2, g3⟩ := d1 cs σ1 x
      rw [g1, ob2_s, if_neg ne1, bn_k]
      have hok := okF_sm (m := 0) (by decide) hT (nx_le hσ) x
      refine ⟨1, S2, rfl, fR_tr a2 (e25 _ g3), rfl, g2.1, ?_⟩
      show dE S2 c np nt nw R N (some cs) lo
      have gg : ∀ b k, c ≤ b → b ≤ c + 18 → b ≠ c + 13 → b ≠ c + 14 → S2.1 b k = S.1 b k := fun b k h1 h2 h3 h4 => by rw [g3.1 b k (by unfold gP; omega), b4 b k h1]
      obtain ⟨q1, q2, q3, q4, q5, q6, q7, q8, q9, q10⟩ := h
      have g0 := fun k => gg c k (by omega) (by omega) (by omega) (by omega)
      refine ⟨⟨by rw [g3.2.2 20 2 (by decide)]; exact b3, q1.2⟩, ?_, ?_, fun p hp => ?_, fun p hp => ?_, fun p hp => ?_, fun k hk i hi => ?_, codH_g g2 hok.1 (fun c hc => (alw_A (hok.2.1 c hc)).1), codH_f q9 (gg _ _ (by omega) (by omega) (by omega) (by omega)) (fun j => gg _ _ (by omega) (by omega) (by omega) (by omega)), ?_⟩
      · rw [gg (c + 1) _ (by omega) (by omega) (by omega) (by omega), gg (c + 1) _ (by omega) (by omega) (by omega) (by omega), gg (c + 1) _ (by omega) (by omega) (by omega) (by omega)]; exact q2
      · rw [g0, g0, g0, g0, g0]; exact q3
      · rw [gg (c + 6) _ (by omega) (by omega) (by omega) (by omega), gg (c + 7) _ (by omega) (by omega) (by omega) (by omega)]; exact q4 p hp
      · rw [gg (c + 8) _ (by omega) (by omega) (by omega) (by omega), gg (c + 9) _ (by omega) (by omega) (by omega) (by omega), gg (c + 10) _ (by omega) (by omega) (by omega) (by omega)]; exact q5 p hp
      · rw [gg (c + 11) _ (by omega) (by omega) (by omega) (by omega), gg (c + 12) _ (by omega) (by omega) (by omega) (by omega)]; exact q6 p hp
      · rw [gg (c + 3 + k) _ (by omega) (by omega) (by omega) (by omega)]; exact q7 k hk i hi
      · rw [g3.1 20 3 (by unfold gP; omega), b5]
        unfold tld
        rw [hb, if_neg (show ¬ (false = true) by decide), if_pos (show (some cs).isSome = true from rfl)]
        generalize (if lo.isSome = true then 8192 else 0) = y
        rw [show 0 + y + 2 ^ 12 = 4096 + y by omega]
theorem h_los {S : Hp} {T : Tp} {σ : Lx} {c np nt nw : Nat} {R : Nat → Nat → Nat} {N : Nat → Nat → List Nat} {se lo : Option (List Nat)} (h : dE S c np nt nw R N se lo) (ht : tR S T σ) (h6 : S.1 10 6 = nI 13) :
    ∃ r S', ob2 (f_X3_onlyOne S) (fun r10 S10 => if r10 = 0 then some ((0 : Int32), S10) else ldP yH S10 20 2 2 (fun p11 => ob2 (f_X7_readSum 25 (p11 + 16) (213312 : Int32) S10) (fun r12 S12 => if r12 = 0 then some ((0 : Int32), S12) else some ((1 : Int32), S12)))) = some (r, S') ∧ fR c S S' ∧ cD r S' c T (losT T ((np, nt, nw), R, N, se, lo) σ) := by
  have hc := dE_c h
  obtain ⟨hp1, hp2⟩ := frmH hc
  have hT := ht.1.1
  have hσ := ht.2.1
  obtain ⟨r1, S1, a1, a2, a3, a4⟩ := h_only h ht (Or.inr rfl) h6
  rw [if_neg (show ¬ (13 : Nat) = 12 by decide)] at a3 a4
  rw [a1, ob2_s]
  unfold losT
  dsimp only
  cases hb : lo.isSome with
  | true =>
    obtain ⟨b1, b2⟩ := a3 hb
    rw [if_pos b1, if_pos rfl]
    exact ⟨0, S1, rfl, a2, rfl, b2⟩
  | false =>
    obtain ⟨b1, b2, b3, b4, b5⟩ := a4 hb
    rw [if_neg (by rw [b1]; exact ne1), if_neg (by decide), ldP_n b3 h.1.2]
    obtain ⟨d1, d2⟩ := h_readSum (m := 1) (a0 := 25) b2 (Or.inl rfl) hp2 (by decide)
    have e25 : ∀ S', fG 25 (c + 16) S1 S' → fR c S1 S' := fun S' hf => ⟨fun b k hb => hf.1 b k (fun q => hb (by unfold gP at q; unfold rP; omega)), hf.2.1, hf.2.2⟩
    have mk0 : (213312 : Int32) = nI (mk 1) := rfl
    rw [mk0]
    cases x : sm T (ptD T 1 6) (nx T σ) with
    | error e =>
      obtain ⟨S2, g1, g2, g3⟩ := d2 e x
      rw [g1, ob2_s, if_pos rfl]
      exact ⟨0, S2, rfl, fR_tr a2 (e25 _ g3), rfl, g2⟩
    | ok v =>
      obtain ⟨cs, σ1⟩ := v
      obtain ⟨S2, g1, g2, g3⟩ := d1 cs σ1 x
      rw [g1, ob2_s, if_neg ne1, bn_k]
      have hok := okF_sm (m := 1) (by decide) hT (nx_le hσ) x
      refine ⟨1, S2, rfl, fR_tr a2 (e25 _ g3), rfl, g2.1, ?_⟩
      show dE S2 c np nt nw R N se (some cs)
      have gg : ∀ b k, c ≤ b → b ≤ c + 18 → b ≠ c + 16 → b ≠ c + 17 → S2.1 b k = S.1 b k := fun b k h1 h2 h3 h4 => by rw [g3.1 b k (by unfold gP; omega), b4 b k h1]
      obtain ⟨q1, q2, q3, q4, q5, q6, q7, q8, q9, q10⟩ := h
      have g0 := fun k => gg c k (by omega) (by omega) (by omega) (by omega)
      refine ⟨⟨by rw [g3.2.2 20 2 (by decide)]; exact b3, q1.2⟩, ?_, ?_, fun p hp => ?_, fun p hp => ?_, fun p hp => ?_, fun k hk i hi => ?_, codH_f q8 (gg _ _ (by omega) (by omega) (by omega) (by omega)) (fun j => gg _ _ (by omega) (by omega) (by omega) (by omega)), codH_g g2 hok.1 (fun c hc => (alw_A (hok.2.1 c hc)).1), ?_⟩
      · rw [gg (c + 1) _ (by omega) (by omega) (by omega) (by omega), gg (c + 1) _ (by omega) (by omega) (by omega) (by omega), gg (c + 1) _ (by omega) (by omega) (by omega) (by omega)]; exact q2
      · rw [g0, g0, g0, g0, g0]; exact q3
      · rw [gg (c + 6) _ (by omega) (by omega) (by omega) (by omega), gg (c + 7) _ (by omega) (by omega) (by omega) (by omega)]; exact q4 p hp
      · rw [gg (c + 8) _ (by omega) (by omega) (by omega) (by omega), gg (c + 9) _ (by omega) (by omega) (by omega) (by omega), gg (c + 10) _ (by omega) (by omega) (by omega) (by omega)]; exact q5 p hp
      · rw [gg (c + 11) _ (by omega) (by omega) (by omega) (by omega), gg (c + 12) _ (by omega) (by omega) (by omega) (by omega)]; exact q6 p hp
      · rw [gg (c + 3 + k) _ (by omega) (by omega) (by omega) (by omega)]; exact q7 k hk i hi
      · rw [g3.1 20 3 (by unfold gP; omega), b5]
        unfold tld
        rw [hb, if_neg (show ¬ (false = true) by decide), if_pos (show (some cs).isSome = true from rfl)]
/-- one number of a crown -/
theorem h_set {S : Hp} {T : Tp} {σ : Lx} {c np nt nw lw hw kf kr : Nat} {R : Nat → Nat → Nat} {N : Nat → Nat → List Nat} {se lo : Option (List Nat)} (h : dE S c np nt nw R N se lo) (ht : tR S T σ) (hlw : lw < 2 ^ 31) (hhw : hw < 2 ^ 31) (hk : (kf = 3 ∧ kr = 4) ∨ (kf = 4 ∧ kr = 2)) :
    ∃ r S', ob (f_X10_next S) (fun S1 => ob2 (f_X10_takeNumber (nI lw) (nI hw) S1) (fun r2 S2 => if r2 = 0 then some ((0 : Int32), S2) else ldP yH S2 20 2 2 (fun p3 => le1 (ho_sI S2 p3 kf (S2.1 10 8)) (fun S4 => some ((1 : Int32), S4))))) = some (r, S') ∧ fR c S S' ∧ cD r S' c T (bn (tkV T lw hw (nx T σ)) (fun v σ1 => .ok (((np, nt, nw), rup R 0 kr v, N, se, lo), σ1))) := by
  have hc := dE_c h
  obtain ⟨S1, a1, a2, a3⟩ := h_next ht
  have a3t : fM tP S S1 := fM_mo a3 (fun b k q => n_t q)
  have d1 := dE_t h a3t
  obtain ⟨r2, S2, b1, b2, b3⟩ := h_tkV (lo := lw) (hi := hw) a2 hlw hhw
  rw [a1, ob_s, b1, ob2_s]
  cases x : tkV T lw hw (nx T σ) with
  | error e =>
    rw [x] at b2
    rw [if_pos b2.1]
    exact ⟨0, S2, rfl, fR_tr (fR_t a3t) (fR_t b3), rfl, b2.2⟩
  | ok v =>
    rw [x] at b2
    obtain ⟨v, σ1⟩ := v
    obtain ⟨c1, c2, c3⟩ := b2
    have d2 := dE_t d1 b3
    rw [if_neg (by rw [c1]; exact ne1), ldP_n d2.1.1 d2.1.2, c2, le1_e, bn_k]
    refine ⟨1, _, rfl, fR_tr (fR_t a3t) (fR_tr (fR_t b3) (fR_sI S2 (by unfold rP; omega))), rfl, tR_hi c3 (by omega), ?_⟩
    show dE (ho_sI S2 c kf (nI v)) c np nt nw (rup R 0 kr v) N se lo
    obtain ⟨q1, q2, q3, q4, q5, q6, q7, q8, q9, q10⟩ := d2
    have g : ∀ y, 0 < y → (ho_sI S2 c kf (nI v)).1 (c + y) = S2.1 (c + y) := fun y hy => sI_ne _ (by omega)
    refine ⟨q1, ?_, ?_, fun p hp => ?_, fun p hp => ?_, fun p hp => ?_, fun k hk i hi => ?_, codH_f q8 (by rw [g 13 (by decide)]) (fun j => by rw [g 14 (by decide)]), codH_f q9 (by rw [g 16 (by decide)]) (fun j => by rw [g 17 (by decide)]), by rw [sI_ne _ (by omega)]; exact q10⟩
    · rw [g 1 (by decide)]; exact q2
    · rcases hk with ⟨rfl, rfl⟩ | ⟨rfl, rfl⟩
      · rw [sI_v, sI_k (by decide), sI_k (by decide), sI_k (by decide), sI_k (by decide), rup_s, rup_n (by omega), rup_n (by omega), rup_n (by omega), rup_n (by omega)]
        exact ⟨q3.1, q3.2.1, q3.2.2.1, rfl, q3.2.2.2.2⟩
      · rw [sI_v, sI_k (by decide), sI_k (by decide), sI_k (by decide), sI_k (by decide), rup_s, rup_n (by omega), rup_n (by omega), rup_n (by omega), rup_n (by omega)]
        exact ⟨q3.1, q3.2.1, q3.2.2.1, q3.2.2.2.1, rfl⟩
    · rw [g 6 (by decide), g 7 (by decide), rup_n (by omega), rup_n (by omega)]; exact q4 p hp
    · rw [g 8 (by decide), g 9 (by decide), g 10 (by decide), rup_n (by omega), rup_n (by omega), rup_n (by omega)]; exact q5 p hp
    · rw [g 11 (by decide), g 12 (by decide), rup_n (by omega), rup_n (by omega)]; exact q6 p hp
    · rw [sI_ne _ (by omega)]; exact q7 k hk i hi

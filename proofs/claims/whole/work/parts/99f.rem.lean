/-! level 2: acts are remembered, undone -/
def Pp (P : Pa) (z : Nat → Nat) (kl : List Nat) : Pa := (if P.length = 20 then P.drop 1 else P) ++ [(z, kl)]
theorem Pp_len {P : Pa} {z : Nat → Nat} {kl : List Nat} (h : P.length ≤ 20) : (Pp P z kl).length = (if P.length = 20 then 20 else P.length + 1) := by
  unfold Pp
  rw [List.length_append]
  by_cases e : P.length = 20
  · rw [if_pos e, if_pos e, List.length_drop, e]; rfl
  · rw [if_neg e, if_neg e]; rfl
theorem lastG {Q : Pa} {x : (Nat → Nat) × List Nat} : ∀ (i : Nat) (h : i < (Q ++ [x]).length), i = Q.length → (Q ++ [x])[i] = x := by
  intro i h e
  subst e
  rw [List.getElem_append_right (Nat.le_refl _)]
  simp
theorem Pp_ok {P : Pa} {z : Nat → Nat} {kl : List Nat} {C : Cr} (h : P.length ≤ 20 ∧ ∀ p ∈ P, okZ C p.1) (hz : okZ C z) : (Pp P z kl).length ≤ 20 ∧ ∀ p ∈ Pp P z kl, okZ C p.1 := by
  refine ⟨by rw [Pp_len h.1]; split <;> omega, fun p hp => ?_⟩
  unfold Pp at hp
  rw [List.mem_append, List.mem_singleton] at hp
  rcases hp with hp | hp
  · refine h.2 p ?_
    by_cases e : P.length = 20
    · rw [if_pos e] at hp; exact List.mem_of_mem_drop hp
    · rw [if_neg e] at hp; exact hp
  · rw [hp]; exact hz
theorem hA_p {S S' : Hp} {X : Xv} {cr : Bool} {c : Nat} {C : Cr} {N : Nat → Nat → List Nat} {P P' : Pa} (h : hA S X cr c C N P) (hg : ∀ b, b ≠ 0 → ¬ (1000 ≤ b ∧ b < 1200) → b ≠ 60 → b ≠ 70 → S'.1 b = S.1 b) (h70 : S'.1 70 0 = S.1 70 0) (h2 : S'.2 = S.2) (h0 : S'.1 0 13 = S.1 0 13 ∧ S'.1 0 16 = S.1 0 16) (h6' : h6 S' C P') : hA S' X cr c C N P' := by
  obtain ⟨⟨t1, t2, t3, t4⟩, ⟨f1, f2⟩, r, ⟨c1, c2, c3, c4, c5⟩, -, ⟨w1, w2⟩, ⟨i1, i2⟩, s, g1, g2⟩ := h
  have hcc := c2.2.2.2
  have g : ∀ b, 0 < b → b < 1000 → b ≠ 60 → b ≠ 70 → S'.1 b = S.1 b := fun b h1 h2 h3 h4 => hg b (by omega) (by omega) h3 h4
  refine ⟨⟨t1, by rw [g 10 (by decide) (by decide) (by decide) (by decide)]; exact t2, by rw [g 11 (by decide) (by decide) (by decide) (by decide)]; exact t3, by rw [g 12 (by decide) (by decide) (by decide) (by decide)]; exact t4⟩, by rw [g 10 (by decide) (by decide) (by decide) (by decide)]; exact ⟨f1, f2⟩, by rw [g 1 (by decide) (by decide) (by decide) (by decide)]; exact r, ⟨by rw [h0.1]; exact c1, by rw [h2]; exact c2, by rw [g (c + 1) (by omega) (by omega) (by omega) (by omega)]; exact c3, fun x => ?_, fun k hk i hi => by rw [g (c + 3 + k) (by omega) (by omega) (by omega) (by omega)]; exact c5 k hk i hi⟩, h6', ⟨by rw [h70]; exact w1, by rw [g 71 (by decide) (by decide) (by decide) (by decide), g 72 (by decide) (by decide) (by decide) (by decide)]; exact w2⟩, ⟨by rw [g 90 (by decide) (by decide) (by decide) (by decide)]; exact i1, by rw [g 91 (by decide) (by decide) (by decide) (by decide)]; exact i2⟩, by rw [h0.2]; exact s, fun j hj => by rw [g 53 (by decide) (by decide) (by decide) (by decide)]; exact g1 j hj, fun j hj => by rw [g 33 (by decide) (by decide) (by decide) (by decide)]; exact g2 j hj⟩
  have hf : fH (fun b => ¬ (0 < b ∧ b < 1000 ∧ b ≠ 60 ∧ b ≠ 70)) S S' := ⟨fun b hb => by
    have := Classical.not_not.mp hb
    exact g b this.1 this.2.1 this.2.2.1 this.2.2.2, h2, fun q j hj => by rw [g 53 (by decide) (by decide) (by decide) (by decide)]; exact q j hj⟩
  exact cH_f (c4 x) hf (fun b q x => q (by unfold crC at x; omega))
theorem pstH : ∀ i, i < 20 → yH.2.1 (1000 + 10 * i) = (1, 9) := by
  intro i hi
  have k : ∀ i, i < 20 → shH (1000 + 10 * i) = (1, 9) := by decide
  exact k i hi
theorem pstM {i : Nat} (hi : i < 20) : 1000 + 10 * i ∈ yH.1 ∧ yH.2.1 (1000 + 10 * i) = (1, 9) := by
  have h := pstH i hi
  refine ⟨memH (by omega) ?_, h⟩
  have h' : shH (1000 + 10 * i) = (1, 9) := h
  rw [h']
  decide
theorem h_forget {S : Hp} : f_X0_forget S = some (ho_sI (ho_sI S 60 14 (-1)) 60 15 0) := by
  unfold f_X0_forget
  rw [le1_e, le1_e]
theorem h_rem32 {S : Hp} {X : Xv} {cr : Bool} {c f : Nat} {C : Cr} {N : Nat → Nat → List Nat} {P Q : Pa} {z : Nat → Nat} {kl : List Nat} (hC : okCr C) (a : hA S X cr c C N P) (b : hN S C z kl) {S1 : Hp} (e0 : ∀ b, b ≠ 0 → S1.1 b = S.1 b) (e2 : S1.2 = S.2) (e1 : S1.1 0 13 = S.1 0 13 ∧ S1.1 0 16 = S.1 0 16) (hf : f < 20) (hQ : Q.length < 20) (p1 : S1.1 0 14 = nI f) (p2 : S1.1 0 15 = nI Q.length) (p3 : ∀ i (h : i < Q.length), stH S1 (1000 + 10 * ((f + i) % 20)) C Q[i].1 ∧ kpH S1 (1000 + 10 * ((f + i) % 20)) Q[i].2) :
    ∃ S', f_X11_remember_32 S1 = some S' ∧ hA S' X cr c C N (Q ++ [(z, kl)]) ∧ hN S' C z kl ∧ S'.1 60 14 = -1 ∧ S'.1 60 15 = 0 ∧ (∀ b, b ≠ 0 → ¬ (1000 ≤ b ∧ b < 1200) → b ≠ 60 → S'.1 b = S.1 b) := by
  have hm : (f + Q.length) % 20 < 20 := Nat.mod_lt _ (by decide)
  have hp := pstM hm
  have fr : fH (fun b => b = 0) S S1 := ⟨fun b hb => e0 b hb, e2, fun q j hj => by rw [e0 53 (by decide)]; exact q j hj⟩
  have b1 : hN S1 C z kl := hN_f b fr (fun b q => by omega)
  obtain ⟨S2, r1, r2, r3, r4⟩ := h_copy hp (show 1000 + 10 * ((f + Q.length) % 20) ≠ 1200 by omega) b1.1 b1.2 hC.1.2.2
  have q0 : ∀ k, S2.1 0 k = S1.1 0 k := fun k => by rw [r4.1 0 (by first | decide | (dsimp only; omega) | omega)]
  obtain ⟨S3, hS3⟩ : ∃ S3, S3 = ho_sI (ho_sI (ho_sI S2 0 15 (nI (Q.length + 1))) 60 14 (-1)) 60 15 0 := ⟨_, rfl⟩
  have g3 : ∀ b, b ≠ 0 → b ≠ 60 → S3.1 b = S2.1 b := fun b h1 h2 => by rw [hS3, sI_ne _ h2, sI_ne _ h2, sI_ne _ h1]
  have z3 : ∀ k, k ≠ 15 → S3.1 0 k = S1.1 0 k := fun k hk => by rw [hS3, sI_ne _ (by decide), sI_ne _ (by decide), sI_k hk, q0]
  have f3 : fH (fun b => b = 0 ∨ b = 60) S2 S3 := ⟨fun b hb => g3 b (fun q => hb (Or.inl q)) (fun q => hb (Or.inr q)), by rw [hS3]; rfl, fun q j hj => by rw [g3 53 (by decide) (by decide)]; exact q j hj⟩
  have gS : ∀ b, b ≠ 0 → ¬ (1000 ≤ b ∧ b < 1200) → b ≠ 60 → S3.1 b = S.1 b := fun b h1 h2 h3 => by rw [g3 b h1 h3, r4.1 b (by first | decide | (dsimp only; omega) | omega), e0 b h1]
  refine ⟨S3, ?_, hA_p a (fun b h1 h2 h3 _ => gS b h1 h2 h3) (by rw [gS 70 (by decide) (by decide) (by decide)]) (by rw [f3.2.1, r4.2.1, e2]) ⟨by rw [z3 13 (by decide)]; exact e1.1, by rw [z3 16 (by decide)]; exact e1.2⟩ ⟨f, hf, by rw [z3 14 (by decide)]; exact p1, ?_, fun i hi => ?_⟩, ?_, ?_, ?_, gS⟩
  · unfold f_X11_remember_32
    rw [p1, p2, nI_add, lit_nI 20, pk_rem (by omega) (by decide) (by decide), ldR_n (p := 1000 + 10 * ((f + Q.length) % 20)) hm (by decide) rfl hp, r1, ob_s, le1_e, q0, p2, nI_1, h_forget, ob_s, hS3]
  · rw [hS3, sI_ne _ (by decide), sI_ne _ (by decide), sI_v, List.length_append]; rfl
  · rw [List.length_append] at hi
    simp only [List.length_cons, List.length_nil] at hi
    by_cases e : i < Q.length
    · rw [List.getElem_append_left e]
      obtain ⟨u1, u2⟩ := p3 i e
      have hmi : (f + i) % 20 < 20 := Nat.mod_lt _ (by decide)
      have hne : (f + i) % 20 ≠ (f + Q.length) % 20 := by omega
      exact ⟨stH_f (stH_f u1 r4 (fun b q x => by omega)) f3 (fun b q x => by omega), kpH_f (kpH_f u2 r4 (by first | decide | (dsimp only; omega) | omega) (by first | decide | (dsimp only; omega) | omega)) f3 (by first | decide | (dsimp only; omega) | omega) (by first | decide | (dsimp only; omega) | omega)⟩
    · have ei : i = Q.length := by omega
      subst ei
      rw [List.getElem_append_right (Nat.le_refl _)]
      simp only [Nat.sub_self, List.getElem_cons_zero]
      exact ⟨stH_f r2 f3 (fun b q x => by omega), kpH_f r3 f3 (by first | decide | (dsimp only; omega) | omega) (by first | decide | (dsimp only; omega) | omega)⟩
  · exact hN_f (hN_f b1 r4 (fun b q => by omega)) f3 (fun b q => by omega)
  · rw [hS3, sI_k (by decide), sI_v]
  · rw [hS3, sI_v]
theorem h_rem {S : Hp} {X : Xv} {cr : Bool} {c : Nat} {C : Cr} {N : Nat → Nat → List Nat} {P : Pa} {z : Nat → Nat} {kl : List Nat} (hC : okCr C) (hP : P.length ≤ 20) (a : hA S X cr c C N P) (b : hN S C z kl) :
    ∃ S', f_X11_remember S = some S' ∧ hA S' X cr c C N (Pp P z kl) ∧ hN S' C z kl ∧ S'.1 60 14 = -1 ∧ S'.1 60 15 = 0 ∧ (∀ b, b ≠ 0 → ¬ (1000 ≤ b ∧ b < 1200) → b ≠ 60 → S'.1 b = S.1 b) := by
  obtain ⟨f, p1, p2, p3, p4⟩ := a.2.2.2.2.1
  unfold f_X11_remember Pp
  rw [p3]
  by_cases e : P.length = 20
  · rw [if_pos (show nI P.length = (20 : Int32) by rw [e]; rfl), if_pos e, p2, nI_1, lit_nI 20, pk_rem (by omega) (by decide) (by decide), le1_e, sI_k (by decide), p3, e, lit_nI 1, pk_sub (by decide), le1_e]
    obtain ⟨S1, hS1⟩ : ∃ S1, S1 = ho_sI (ho_sI S 0 14 (nI ((f + 1) % 20))) 0 15 (nI (20 - 1)) := ⟨_, rfl⟩
    rw [← hS1]
    have g1 : ∀ b, b ≠ 0 → S1.1 b = S.1 b := fun b hb => by rw [hS1, sI_ne _ hb, sI_ne _ hb]
    have f1 : fH (fun b => b = 0) S S1 := ⟨fun b hb => g1 b hb, by rw [hS1]; rfl, fun q j hj => by rw [g1 53 (by decide)]; exact q j hj⟩
    refine h_rem32 (f := (f + 1) % 20) (Q := P.drop 1) hC a b g1 (by rw [hS1]; rfl) ⟨by rw [hS1, sI_k (by decide), sI_k (by decide)], by rw [hS1, sI_k (by decide), sI_k (by decide)]⟩ (Nat.mod_lt _ (by decide)) (by rw [List.length_drop]; omega) (by rw [hS1, sI_k (by decide), sI_v]) (by rw [hS1, sI_v, List.length_drop, e]) (fun i hi => ?_)
    rw [List.length_drop] at hi
    obtain ⟨u1, u2⟩ := p4 (1 + i) (by omega)
    rw [List.getElem_drop]
    have em : ((f + 1) % 20 + i) % 20 = (f + (1 + i)) % 20 := by omega
    rw [em]
    have hm : (f + (1 + i)) % 20 < 20 := Nat.mod_lt _ (by decide)
    exact ⟨stH_f u1 f1 (fun b q x => by omega), kpH_f u2 f1 (by first | decide | (dsimp only; omega) | omega) (by first | decide | (dsimp only; omega) | omega)⟩
  · rw [if_neg (fun q => e ((eqL 20 (by omega) (by decide)).mp q)), if_neg e]
    exact h_rem32 (f := f) (Q := P) hC a b (fun _ _ => rfl) rfl ⟨rfl, rfl⟩ p1 (by omega) p2 p3 p4
theorem mRow_f {S S' : Hp} {b : Nat} {C : Cr} {z : Nat → Nat} {kl : List Nat} (hC : okCr C) (h : mRow S b C z kl) (hg : ∀ k, b ≤ k → k < b + 117 → S'.1 72 k = S.1 72 k) : mRow S' b C z kl := by
  obtain ⟨u1, u2, u3, u4, u5⟩ := h
  have hnw := hC.1.2.2
  obtain ⟨n, n1, n2⟩ := u3
  exact ⟨fun k hk => by rw [hg _ (by omega) (by omega)]; exact u1 k hk, fun k hk => by rw [hg _ (by omega) (by omega)]; exact u2 k hk, ⟨n, n1, n2⟩, by rw [hg _ (by omega) (by omega)]; exact u4, fun j hj => by rw [hg _ (by omega) (by omega)]; exact u5 j hj⟩
theorem m_k15 {w : Nat} (hw : w < 20) : ∀ (d i K : Nat) (S : Hp), i + d = 117 → d < K → S.1 0 73 = nI w → ∃ S', f_X12_keeps_15 K (nI i) S = (if (20 : Int32) ≤ S.1 0 72 then some S' else some (ho_sI S' 0 72 (S.1 0 72 + 1))) ∧ (∀ k, i ≤ k → k < 117 → S'.1 72 (117 * w + k) = S.1 55 k) ∧ fN (fun b k => b = 72 ∧ 117 * w + i ≤ k ∧ k < 117 * w + 117) S S' := by
  intro d
  induction d with
  | zero =>
    intro i K S hi hK h
    obtain ⟨K, rfl⟩ : ∃ q, K = q + 1 := ⟨K - 1, by omega⟩
    refine ⟨S, ?_, fun k h1 h2 => absurd h2 (by omega), fN_rf _ S⟩
    rw [f_X12_keeps_15, if_pos ((geL 117 (by omega) (by decide)).mpr (by omega))]
    rfl
  | succ d ih =>
    intro i K S hi hK h
    obtain ⟨K, rfl⟩ : ∃ q, K = q + 1 := ⟨K - 1, by omega⟩
    obtain ⟨S', a1, a2, a3⟩ := ih (i + 1) K (ho_sI S 72 (117 * w + i) (S.1 55 i)) (by omega) (by omega) (by rw [sI_ne _ (by decide)]; exact h)
    refine ⟨S', ?_, fun k h1 h2 => ?_, fN_tr (fN_sI S (by omega)) (fN_mo a3 (fun b k q => by omega))⟩
    · rw [f_X12_keeps_15, if_neg (fun q => absurd ((geL 117 (by omega) (by decide)).mp q) (by omega)), ldI_n (by omega) (by decide), h, lit_nI 117, pk_mul, nI_add, stI_n (by omega) (by decide), le1_e, nI_1, a1, sI_ne _ (by decide)]
    · by_cases e : k = i
      · subst e
        rw [a3.1 _ _ (by first | decide | (dsimp only; omega) | omega), sI_v]
      · exact (a2 k (by omega) h2).trans (by rw [sI_ne _ (by decide)])
theorem mA_p {S S' : Hp} {X : Xv} {cr : Bool} {C : Cr} {N : Nat → Nat → List Nat} {P P' : Pa} (h : mA S X cr C N P) (hg : ∀ b k, b ≠ 72 → b ≠ 55 → ¬ (b = 0 ∧ (k = 72 ∨ k = 73)) → S'.1 b k = S.1 b k) (h2 : ∀ b, b ≠ 106 → S'.2.1 b = S.2.1 b) (h6' : m6 S' C P') : mA S' X cr C N P' := by
  obtain ⟨⟨⟨t1, t2, t3⟩, tw⟩, ⟨f1, f2⟩, r, ⟨c1, c2, c3⟩, -, ⟨w1, w2⟩, ⟨i1, i2⟩, s⟩ := h
  refine ⟨⟨⟨t1, by rw [hg 0 1 (by decide) (by decide) (by omega)]; exact t2, fun i hi => by rw [hg 1 i (by decide) (by decide) (by omega)]; exact t3 i hi⟩, mWs_hi tw (fun b k q => hg b k (by omega) (by omega) (by omega))⟩, ⟨by rw [hg 0 7 (by decide) (by decide) (by omega)]; exact f1, by rw [hg 0 8 (by decide) (by decide) (by omega)]; exact f2⟩, fun k hk => by rw [hg 10 k (by decide) (by decide) (by omega)]; exact r k hk, ⟨by rw [hg 0 52 (by decide) (by decide) (by omega)]; exact c1, ?_, fun k hk i hi => by rw [h2 42 (by decide)]; exact c3 k hk i hi⟩, h6', ⟨by rw [hg 0 66 (by decide) (by decide) (by omega)]; exact w1, fun i hi => by rw [hg 68 _ (by decide) (by decide) (by omega), hg 68 _ (by decide) (by decide) (by omega), hg 68 _ (by decide) (by decide) (by omega)]; exact w2 i hi⟩, ⟨by rw [hg 0 110 (by decide) (by decide) (by omega)]; exact i1, fun i hi => by rw [hg 110 i (by decide) (by decide) (by omega)]; exact i2 i hi⟩, by rw [h2 0 (by decide)]; exact s⟩
  have gM : ∀ b k, crM b → S'.1 b k = S.1 b k := fun b k hb => by unfold crM at hb; exact hg b k (by omega) (by omega) (by omega)
  obtain ⟨⟨a1, a2, a3⟩, ⟨b1, b2, b3⟩, cc, d, e, f1, f2⟩ := c2
  have g41 := fun k => gM 41 k (by unfold crM; omega)
  have g43 := fun k => gM 43 k (by unfold crM; omega)
  have g44 := fun k => gM 44 k (by unfold crM; omega)
  have g45 := fun k => gM 45 k (by unfold crM; omega)
  have g46 := fun k => gM 46 k (by unfold crM; omega)
  have g47 := fun k => gM 47 k (by unfold crM; omega)
  have mf : ∀ w cs, mF S w cs → mF S' w cs := fun w cs hm => hm.elim (fun x => Or.inl (codM_f x (gM 48 _ (by unfold crM; omega)) (gM 49 _ (by unfold crM; omega)) (fun j => gM 50 _ (by unfold crM; omega)))) (fun x => Or.inr ⟨(gM 48 _ (by unfold crM; omega)).trans x.1, x.2⟩)
  unfold mC
  simp only [g41, g43, g44, g45, g46, g47]
  exact ⟨⟨a1, a2, a3⟩, ⟨b1, b2, b3⟩, cc, d, e, mf 0 _ f1, mf 1 _ f2⟩
theorem m_keeps {S : Hp} {X : Xv} {cr : Bool} {C : Cr} {N : Nat → Nat → List Nat} {P : Pa} {z : Nat → Nat} {kl : List Nat} (hC : okCr C) (hP : P.length ≤ 20) (a : mA S X cr C N P) (b : mN S C z kl) :
    ∃ S', f_X12_keeps S = some S' ∧ mA S' X cr C N (Pp P z kl) ∧ mN S' C z kl ∧ fN (fun b k => b = 72 ∨ (b = 0 ∧ (k = 72 ∨ k = 73))) S S' := by
  obtain ⟨w, p1, p2, p3, p4⟩ := a.2.2.2.2.1
  have hw' : (w + 1) % 20 < 20 := Nat.mod_lt _ (by decide)
  have hnw := hC.1.2.2
  obtain ⟨S2, r1, r2, r3⟩ := m_k15 hw' 117 0 5000 (ho_sI S 0 73 (nI ((w + 1) % 20))) (by decide) (by decide) sI_v
  rw [sI_k (by decide), p3] at r1
  have hlen := Pp_len (z := z) (kl := kl) hP
  obtain ⟨S3, hS3, hl3⟩ : ∃ S3, S3 = ho_sI S2 0 72 (nI (Pp P z kl).length) ∧ f_X12_keeps_15 5000 (nI 0) (ho_sI S 0 73 (nI ((w + 1) % 20))) = some S3 := by
    refine ⟨_, rfl, ?_⟩
    rw [r1, hlen]
    by_cases e : P.length = 20
    · rw [if_pos (show (20 : Int32) ≤ nI P.length by rw [e]; decide), if_pos e, sI_id]
      rw [r3.1 0 72 (by first | decide | (dsimp only; omega) | omega), sI_k (by decide), p3, e]
    · rw [if_neg (fun q => absurd ((geL 20 (by omega) (by decide)).mp q) (by omega)), if_neg e, nI_1]
  have fT : fN (fun b k => b = 72 ∨ (b = 0 ∧ (k = 72 ∨ k = 73))) S S3 := by
    rw [hS3]
    exact fN_tr (fN_sI S (by omega)) (fN_tr (fN_mo r3 (fun b k q => Or.inl q.1)) (fN_sI S2 (by omega)))
  have e72 : ∀ k, S3.1 72 k = S2.1 72 k := fun k => by rw [hS3, sI_ne _ (by decide)]
  have eo : ∀ k, (k < 117 * ((w + 1) % 20) ∨ 117 * ((w + 1) % 20) + 117 ≤ k) → S3.1 72 k = S.1 72 k := fun k hk => by rw [e72, r3.1 72 k (by first | decide | (dsimp only; omega) | omega), sI_ne _ (by decide)]
  have en : ∀ k, k < 117 → S3.1 72 (117 * ((w + 1) % 20) + k) = S.1 55 k := fun k hk => by rw [e72, r2 k (by omega) hk, sI_ne _ (by decide)]
  refine ⟨S3, ?_, mA_p a (fun b k h1 h2 h3 => fT.1 b k (by first | decide | (dsimp only; omega) | omega)) fT.2.1 ⟨(w + 1) % 20, hw', ?_, ?_, fun i hi => ?_⟩, mN_f b fT (fun b k q => by omega), fT⟩
  · unfold f_X12_keeps
    rw [p2, nI_1, lit_nI 20, pk_rem (by omega) (by decide) (by decide), le1_e]
    exact hl3
  · rw [hS3, sI_k (by decide), r3.1 0 73 (by first | decide | (dsimp only; omega) | omega), sI_v]
  · rw [hS3, sI_v]
  · have hl : (Pp P z kl).length = (if P.length = 20 then P.drop 1 else P).length + 1 := by unfold Pp; rw [List.length_append]; rfl
    by_cases e : i < (if P.length = 20 then P.drop 1 else P).length
    · have eg : (Pp P z kl)[i] = (if P.length = 20 then P.drop 1 else P)[i] := List.getElem_append_left e
      rw [eg]
      by_cases e20 : P.length = 20
      · have h19 : (if P.length = 20 then P.drop 1 else P).length = 19 := by rw [if_pos e20, List.length_drop, e20]
        have ei : (if P.length = 20 then P.drop 1 else P)[i] = P[1 + i]'(by omega) := by
          simp only [e20, if_true]
          exact List.getElem_drop
        rw [ei, hl, h19]
        have em : ((w + 1) % 20 + 20 - (19 + 1 - 1 - i)) % 20 = (w + 20 - (P.length - 1 - (1 + i))) % 20 := by omega
        rw [em]
        have hm : (w + 20 - (P.length - 1 - (1 + i))) % 20 ≠ (w + 1) % 20 := by omega
        have hm2 : (w + 20 - (P.length - 1 - (1 + i))) % 20 < 20 := Nat.mod_lt _ (by decide)
        exact mRow_f hC (p4 (1 + i) (by omega)) (fun k h1 h2 => eo k (by omega))
      · have h19 : (if P.length = 20 then P.drop 1 else P).length = P.length := by rw [if_neg e20]
        have ei : (if P.length = 20 then P.drop 1 else P)[i] = P[i]'(by omega) := by simp only [e20, if_false]
        rw [ei, hl, h19]
        have em : ((w + 1) % 20 + 20 - (P.length + 1 - 1 - i)) % 20 = (w + 20 - (P.length - 1 - i)) % 20 := by omega
        rw [em]
        have hm : (w + 20 - (P.length - 1 - i)) % 20 ≠ (w + 1) % 20 := by omega
        have hm2 : (w + 20 - (P.length - 1 - i)) % 20 < 20 := Nat.mod_lt _ (by decide)
        exact mRow_f hC (p4 i (by omega)) (fun k h1 h2 => eo k (by omega))
    · have ei : i = (if P.length = 20 then P.drop 1 else P).length := by omega
      have eg : (Pp P z kl)[i] = (z, kl) := lastG i hi ei
      rw [eg]
      have em : ((w + 1) % 20 + 20 - ((Pp P z kl).length - 1 - i)) % 20 = (w + 1) % 20 := by omega
      rw [em]
      obtain ⟨⟨u1, u2⟩, ⟨⟨n, n1, n2⟩, u4, u5⟩, -⟩ := b
      exact ⟨fun k hk => by rw [en k (by omega)]; exact u1 k hk, fun k hk => by rw [en _ (by omega)]; exact u2 k hk, ⟨n, n1, n2⟩, by rw [en 26 (by decide)]; exact u4, fun j hj => by have hj' : j < kl.length := hj; rw [en _ (by omega)]; exact u5 j hj⟩

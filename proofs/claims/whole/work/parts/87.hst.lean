/-! level 2: the class reads a crown: provinces, tricks, watchers -/
theorem bn_k {α β : Type} {a : α} {σ : Lx} {f : α → Lx → Except (Nat × Nat) β} : bn (.ok (a, σ)) f = f a σ := rfl
theorem bs_k {β : Type} {σ : Lx} {f : Lx → Except (Nat × Nat) β} : bs (.ok σ) f = f σ := rfl
theorem be_k {α β : Type} {a : α} {f : α → Except (Nat × Nat) β} : be (.ok a) f = f a := rfl
def cD (r : Int32) (S : Hp) (c : Nat) (T : Tp) : Except (Nat × Nat) (Dr × Lx) → Prop
  | .ok x => r = 1 ∧ tR S T x.2 ∧ dD S c x.1
  | .error e => r = 0 ∧ wR S e
theorem dE_u {S : Hp} {c np nt nw x i : Nat} {v : Int32} {R : Nat → Nat → Nat} {N : Nat → Nat → List Nat} {se lo : Option (List Nat)} (h : dE S c np nt nw R N se lo) (hx : 6 ≤ x ∧ x ≤ 12) (h1 : x ≤ 7 → np ≤ i) (h2 : 8 ≤ x → x ≤ 10 → nt ≤ i) (h3 : 11 ≤ x → nw ≤ i) : dE (ho_sI S (c + x) i v) c np nt nw R N se lo := by
  have hc := dE_c h
  obtain ⟨a1, a2, a3, a4, a5, a6, a7, a8, a9, a10⟩ := h
  have g : ∀ y j, (y = x → j ≠ i) → (ho_sI S (c + x) i v).1 (c + y) j = S.1 (c + y) j := by
    intro y j hy
    by_cases e : y = x
    · subst e; exact sI_k (hy rfl)
    · rw [sI_ne _ (by omega)]
  have g0 : (ho_sI S (c + x) i v).1 c = S.1 c := sI_ne _ (by omega)
  refine ⟨a1, ?_, ?_, fun p hp => ?_, fun p hp => ?_, fun p hp => ?_, fun k hk j hj => ?_, codH_f a8 (g 13 _ (by omega)) (fun j => g 14 j (by omega)), codH_f a9 (g 16 _ (by omega)) (fun j => g 17 j (by omega)), ?_⟩
  · rw [g 1 _ (by omega), g 1 _ (by omega), g 1 _ (by omega)]; exact a2
  · rw [g0]; exact a3
  · rw [g 6 _ (by omega), g 7 _ (by omega)]; exact a4 p hp
  · rw [g 8 _ (by omega), g 9 _ (by omega), g 10 _ (by omega)]; exact a5 p hp
  · rw [g 11 _ (by omega), g 12 _ (by omega)]; exact a6 p hp
  · rw [sI_ne _ (by omega)]; exact a7 k hk j hj
  · rw [sI_ne _ (by omega)]; exact a10
theorem tR_hi {S : Hp} {T : Tp} {σ : Lx} {a k : Nat} {v : Int32} (h : tR S T σ) (ha : 20 ≤ a) : tR (ho_sI S a k v) T σ := tR_f h (fM_sI (P := fun b _ => b = a) S rfl) (fun b k q => by omega)
theorem dE_incP {S : Hp} {c np nt nw v1 v2 : Nat} {R : Nat → Nat → Nat} {N : Nat → Nat → List Nat} {se lo : Option (List Nat)} {w : List Nat} (h : dE S c np nt nw R N se lo) (h6 : S.1 (c + 6) np = nI v1) (h7 : S.1 (c + 7) np = nI v2) (hw : S.1 (c + 3) np = nI (enc w)) : dE (ho_sI S (c + 1) 0 (nI (np + 1))) c (np + 1) nt nw (rup (rup R 6 np v1) 1 np v2) (nup N 0 np w) se lo := by
  have hc := dE_c h
  obtain ⟨a1, a2, a3, a4, a5, a6, a7, a8, a9, a10⟩ := h
  have g : ∀ y, y ≠ 1 → (ho_sI S (c + 1) 0 (nI (np + 1))).1 (c + y) = S.1 (c + y) := fun y hy => sI_ne _ (by omega)
  have g0 : (ho_sI S (c + 1) 0 (nI (np + 1))).1 c = S.1 c := sI_ne _ (by omega)
  refine ⟨a1, ⟨sI_v, ?_, ?_⟩, ?_, fun p hp => ?_, fun p hp => ?_, fun p hp => ?_, fun k hk j hj => ?_, codH_f a8 (by rw [g 13 (by decide)]) (fun j => by rw [g 14 (by decide)]), codH_f a9 (by rw [g 16 (by decide)]) (fun j => by rw [g 17 (by decide)]), ?_⟩
  · rw [sI_k (by decide)]; exact a2.2.1
  · rw [sI_k (by decide)]; exact a2.2.2
  · rw [g0, rup_n (by omega), rup_n (by omega), rup_n (by omega), rup_n (by omega), rup_n (by omega), rup_n (by omega), rup_n (by omega), rup_n (by omega), rup_n (by omega), rup_n (by omega)]; exact a3
  · rw [g 6 (by decide), g 7 (by decide)]
    by_cases e : p = np
    · subst e
      rw [rup_n (by omega), rup_s, rup_s]; exact ⟨h6, h7⟩
    · rw [rup_n (by omega), rup_n (by omega), rup_n (by omega), rup_n (by omega)]; exact a4 p (by omega)
  · rw [g 8 (by decide), g 9 (by decide), g 10 (by decide), rup_n (by omega), rup_n (by omega), rup_n (by omega), rup_n (by omega), rup_n (by omega), rup_n (by omega)]; exact a5 p hp
  · rw [g 11 (by decide), g 12 (by decide), rup_n (by omega), rup_n (by omega), rup_n (by omega), rup_n (by omega)]; exact a6 p hp
  · rw [show c + 3 + k = c + (3 + k) by omega, g (3 + k) (by omega)]
    by_cases q : k = 0 ∧ j = np
    · obtain ⟨rfl, rfl⟩ := q
      rw [nup_s]; exact hw
    · rw [nup_n q]
      rw [show c + (3 + k) = c + 3 + k by omega]
      refine a7 k hk j ?_
      unfold cnt at hj ⊢
      by_cases k0 : k = 0
      · rw [if_pos k0] at hj ⊢; omega
      · rw [if_neg k0] at hj ⊢; exact hj
  · rw [sI_ne _ (by omega)]; exact a10
theorem dE_incT {S : Hp} {c np nt nw v1 v2 v3 : Nat} {R : Nat → Nat → Nat} {N : Nat → Nat → List Nat} {se lo : Option (List Nat)} {w : List Nat} (h : dE S c np nt nw R N se lo) (h8 : S.1 (c + 8) nt = nI v1) (h9 : S.1 (c + 9) nt = nI v2) (h10 : S.1 (c + 10) nt = nI v3) (hw : S.1 (c + 4) nt = nI (enc w)) : dE (ho_sI S (c + 1) 1 (nI (nt + 1))) c np (nt + 1) nw (rup (rup (rup R 2 nt v1) 3 nt v2) 4 nt v3) (nup N 1 nt w) se lo := by
  have hc := dE_c h
  obtain ⟨a1, a2, a3, a4, a5, a6, a7, a8, a9, a10⟩ := h
  have g : ∀ y, y ≠ 1 → (ho_sI S (c + 1) 1 (nI (nt + 1))).1 (c + y) = S.1 (c + y) := fun y hy => sI_ne _ (by omega)
  have g0 : (ho_sI S (c + 1) 1 (nI (nt + 1))).1 c = S.1 c := sI_ne _ (by omega)
  refine ⟨a1, ⟨?_, sI_v, ?_⟩, ?_, fun p hp => ?_, fun p hp => ?_, fun p hp => ?_, fun k hk j hj => ?_, codH_f a8 (by rw [g 13 (by decide)]) (fun j => by rw [g 14 (by decide)]), codH_f a9 (by rw [g 16 (by decide)]) (fun j => by rw [g 17 (by decide)]), ?_⟩
  · rw [sI_k (by decide)]; exact a2.1
  · rw [sI_k (by decide)]; exact a2.2.2
  · have e : ∀ j, rup (rup (rup R 2 nt v1) 3 nt v2) 4 nt v3 0 j = R 0 j := fun j => by rw [rup_n (by omega), rup_n (by omega), rup_n (by omega)]
    rw [g0, e, e, e, e, e]; exact a3
  · rw [g 6 (by decide), g 7 (by decide), rup_n (by omega), rup_n (by omega), rup_n (by omega), rup_n (by omega), rup_n (by omega), rup_n (by omega)]; exact a4 p hp
  · rw [g 8 (by decide), g 9 (by decide), g 10 (by decide)]
    by_cases e : p = nt
    · subst e
      rw [rup_n (by omega), rup_n (by omega), rup_s, rup_n (by omega), rup_s, rup_s]; exact ⟨h8, h9, h10⟩
    · rw [rup_n (by omega), rup_n (by omega), rup_n (by omega), rup_n (by omega), rup_n (by omega), rup_n (by omega), rup_n (by omega), rup_n (by omega), rup_n (by omega)]; exact a5 p (by omega)
  · rw [g 11 (by decide), g 12 (by decide), rup_n (by omega), rup_n (by omega), rup_n (by omega), rup_n (by omega), rup_n (by omega), rup_n (by omega)]; exact a6 p hp
  · rw [show c + 3 + k = c + (3 + k) by omega, g (3 + k) (by omega)]
    by_cases q : k = 1 ∧ j = nt
    · obtain ⟨rfl, rfl⟩ := q
      rw [nup_s]; exact hw
    · rw [nup_n q]
      rw [show c + (3 + k) = c + 3 + k by omega]
      refine a7 k hk j ?_
      unfold cnt at hj ⊢
      by_cases k0 : k = 0
      · rw [if_pos k0] at hj ⊢; exact hj
      · rw [if_neg k0] at hj ⊢
        by_cases k1 : k = 1
        · rw [if_pos k1] at hj ⊢; omega
        · rw [if_neg k1] at hj ⊢; exact hj
  · rw [sI_ne _ (by omega)]; exact a10
theorem dE_incW {S : Hp} {c np nt nw v1 v2 : Nat} {R : Nat → Nat → Nat} {N : Nat → Nat → List Nat} {se lo : Option (List Nat)} {w : List Nat} (h : dE S c np nt nw R N se lo) (h11 : S.1 (c + 11) nw = nI v1) (h12 : S.1 (c + 12) nw = nI v2) (hw : S.1 (c + 5) nw = nI (enc w)) : dE (ho_sI S (c + 1) 2 (nI (nw + 1))) c np nt (nw + 1) (rup (rup R 7 nw v1) 5 nw v2) (nup N 2 nw w) se lo := by
  have hc := dE_c h
  obtain ⟨a1, a2, a3, a4, a5, a6, a7, a8, a9, a10⟩ := h
  have g : ∀ y, y ≠ 1 → (ho_sI S (c + 1) 2 (nI (nw + 1))).1 (c + y) = S.1 (c + y) := fun y hy => sI_ne _ (by omega)
  have g0 : (ho_sI S (c + 1) 2 (nI (nw + 1))).1 c = S.1 c := sI_ne _ (by omega)
  refine ⟨a1, ⟨?_, ?_, sI_v⟩, ?_, fun p hp => ?_, fun p hp => ?_, fun p hp => ?_, fun k hk j hj => ?_, codH_f a8 (by rw [g 13 (by decide)]) (fun j => by rw [g 14 (by decide)]), codH_f a9 (by rw [g 16 (by decide)]) (fun j => by rw [g 17 (by decide)]), ?_⟩
  · rw [sI_k (by decide)]; exact a2.1
  · rw [sI_k (by decide)]; exact a2.2.1
  · have e : ∀ j, rup (rup R 7 nw v1) 5 nw v2 0 j = R 0 j := fun j => by rw [rup_n (by omega), rup_n (by omega)]
    rw [g0, e, e, e, e, e]; exact a3
  · rw [g 6 (by decide), g 7 (by decide), rup_n (by omega), rup_n (by omega), rup_n (by omega), rup_n (by omega)]; exact a4 p hp
  · rw [g 8 (by decide), g 9 (by decide), g 10 (by decide), rup_n (by omega), rup_n (by omega), rup_n (by omega), rup_n (by omega), rup_n (by omega), rup_n (by omega)]; exact a5 p hp
  · rw [g 11 (by decide), g 12 (by decide)]
    by_cases e : p = nw
    · subst e
      rw [rup_n (by omega), rup_s, rup_s]; exact ⟨h11, h12⟩
    · rw [rup_n (by omega), rup_n (by omega), rup_n (by omega), rup_n (by omega)]; exact a6 p (by omega)
  · rw [show c + 3 + k = c + (3 + k) by omega, g (3 + k) (by omega)]
    by_cases q : k = 2 ∧ j = nw
    · obtain ⟨rfl, rfl⟩ := q
      rw [nup_s]; exact hw
    · rw [nup_n q]
      rw [show c + (3 + k) = c + 3 + k by omega]
      refine a7 k hk j ?_
      unfold cnt at hj ⊢
      by_cases k0 : k = 0
      · rw [if_pos k0] at hj ⊢; exact hj
      · rw [if_neg k0] at hj ⊢
        by_cases k1 : k = 1
        · rw [if_pos k1] at hj ⊢; exact hj
        · rw [if_neg k1] at hj ⊢; omega
  · rw [sI_ne _ (by omega)]; exact a10
theorem tP_hi {b k : Nat} (hb : 11 ≤ b) : ¬ tP b k := by unfold tP; omega
theorem h_newP {S : Hp} {T : Tp} {σ : Lx} {c np nt nw : Nat} {R : Nat → Nat → Nat} {N : Nat → Nat → List Nat} {se lo : Option (List Nat)} {w : List Nat} (h : dE S c np nt nw R N se lo) (hn : np < 6) (ht : tR S T σ) (hw : S.1 (c + 3) np = nI (enc w)) :
    ∃ r S', f_X3_newProvince S = some (r, S') ∧ fR c S S' ∧ cD r S' c T (bn (tkV T 0 9999 σ) (fun v1 σ3 => bs (tkW T (wL.getD 4 []) σ3) (fun σ4 => bn (tkV T 0 999 σ4) (fun v2 σ5 => .ok (((np + 1, nt, nw), rup (rup R 6 np v1) 1 np v2, nup N 0 np w, se, lo), σ5))))) := by
  have hc := dE_c h
  obtain ⟨r1, S1, a1, a2, a3⟩ := h_tkV (lo := 0) (hi := 9999) ht (by decide) (by decide)
  have a1' : f_X10_takeNumber (0 : Int32) (9999 : Int32) S = some (r1, S1) := a1
  unfold f_X3_newProvince
  rw [ldP_n h.1.1 h.1.2, ldI_L 0 (by decide) (by decide), h.2.1.1, a1', ob2_s]
  cases x1 : tkV T 0 9999 σ with
  | error e =>
    rw [x1] at a2
    exact ⟨0, S1, by rw [if_pos a2.1], fR_t a3, rfl, a2.2⟩
  | ok v =>
    rw [x1] at a2
    obtain ⟨v1, σ3⟩ := v
    obtain ⟨b1, b2, b3⟩ := a2
    have d1 := dE_t h a3
    have d2 := dE_u (x := 6) (i := np) (v := nI v1) d1 (by decide) (by omega) (by omega) (by omega)
    have t2 : tR (ho_sI S1 (c + 6) np (nI v1)) T σ3 := tR_hi b3 (by omega)
    have f2 : fR c S (ho_sI S1 (c + 6) np (nI v1)) := fR_tr (fR_t a3) (fR_sI S1 (by unfold rP; omega))
    obtain ⟨r3, S3, c1, c2, c3⟩ := h_tkW (i := 4) t2 (by decide)
    have c1' : f_X10_takeWord (4 : Int32) (ho_sI S1 (c + 6) np (nI v1)) = some (r3, S3) := c1
    rw [if_neg (by rw [b1]; exact ne1), ldP_n d1.1.1 d1.1.2, b2, stI_n hn (by decide), c1', ob2_s]
    rw [bn_k]
    cases x2 : tkW T (wL.getD 4 []) σ3 with
    | error e =>
      rw [x2] at c2
      exact ⟨0, S3, by rw [if_pos c2.1], fR_tr f2 (fR_t c3), rfl, c2.2⟩
    | ok σ4 =>
      rw [x2] at c2
      have d3 := dE_t d2 c3
      have f3 := fR_tr f2 (fR_t (c := c) c3)
      obtain ⟨r4, S4, e1, e2, e3⟩ := h_tkV (lo := 0) (hi := 999) c2.2 (by decide) (by decide)
      have e1' : f_X10_takeNumber (0 : Int32) (999 : Int32) S3 = some (r4, S4) := e1
      rw [if_neg (by rw [c2.1]; exact ne1), e1', ob2_s]
      rw [bs_k]
      cases x3 : tkV T 0 999 σ4 with
      | error e =>
        rw [x3] at e2
        exact ⟨0, S4, by rw [if_pos e2.1], fR_tr f3 (fR_t e3), rfl, e2.2⟩
      | ok v =>
        rw [x3] at e2
        obtain ⟨v2, σ5⟩ := v
        obtain ⟨g1, g2, g3⟩ := e2
        have d4 := dE_t d3 e3
        have d5 := dE_u (x := 7) (i := np) (v := nI v2) d4 (by decide) (by omega) (by omega) (by omega)
        have k6 : (ho_sI S4 (c + 7) np (nI v2)).1 (c + 6) np = nI v1 := by
          rw [sI_ne _ (by omega), e3.1 _ _ (tP_hi (by omega)), c3.1 _ _ (tP_hi (by omega)), sI_v]
        have k3 : (ho_sI S4 (c + 7) np (nI v2)).1 (c + 3) np = nI (enc w) := by
          rw [sI_ne _ (by omega), e3.1 _ _ (tP_hi (by omega)), c3.1 _ _ (tP_hi (by omega)), sI_ne _ (by omega), a3.1 _ _ (tP_hi (by omega))]; exact hw
        have d6 := dE_incP (v1 := v1) (v2 := v2) (w := w) d5 k6 sI_v k3
        refine ⟨1, _, ?_, fR_tr f3 (fR_tr (fR_t e3) (fR_tr (fR_sI S4 (a := c + 7) (k := np) (v := nI v2) (by unfold rP; omega)) (fR_sI _ (a := c + 1) (k := 0) (v := nI (np + 1)) (by unfold rP; omega)))), rfl, tR_hi (tR_hi g3 (by omega)) (by omega), d6⟩
        rw [if_neg (by rw [g1]; exact ne1), ldP_n d4.1.1 d4.1.2, g2, stI_n hn (by decide), ldP_n d5.1.1 d5.1.2, ldI_L 0 (by decide) (by decide), d5.2.1.1, nI_1, stI_L 0 (by decide) (by decide)]
theorem h_newW {S : Hp} {T : Tp} {σ : Lx} {c np nt nw : Nat} {R : Nat → Nat → Nat} {N : Nat → Nat → List Nat} {se lo : Option (List Nat)} {w : List Nat} (h : dE S c np nt nw R N se lo) (hn : nw < 5) (ht : tR S T σ) (hw : S.1 (c + 5) nw = nI (enc w)) :
    ∃ r S', f_X3_newWatcher S = some (r, S') ∧ fR c S S' ∧ cD r S' c T (bs (tkW T (wL.getD 10 []) σ) (fun σ3 => bn (tkV T 0 9 σ3) (fun v1 σ4 => bs (tkW T (wL.getD 11 []) σ4) (fun σ5 => bn (tkV T 0 9 σ5) (fun v2 σ6 => .ok (((np, nt, nw + 1), rup (rup R 7 nw v1) 5 nw v2, nup N 2 nw w, se, lo), σ6)))))) := by
  have hc := dE_c h
  obtain ⟨r0, S0, z1, z2, z3⟩ := h_tkW (i := 10) ht (by decide)
  have z1' : f_X10_takeWord (10 : Int32) S = some (r0, S0) := z1
  unfold f_X3_newWatcher
  rw [ldP_n h.1.1 h.1.2, ldI_L 2 (by decide) (by decide), h.2.1.2.2, z1', ob2_s]
  cases x0 : tkW T (wL.getD 10 []) σ with
  | error e =>
    rw [x0] at z2
    exact ⟨0, S0, by rw [if_pos z2.1], fR_t z3, rfl, z2.2⟩
  | ok σ2 =>
    rw [x0] at z2
    have d0 := dE_t h z3
    obtain ⟨r1, S1, a1, a2, a3⟩ := h_tkV (lo := 0) (hi := 9) z2.2 (by decide) (by decide)
    have a1' : f_X10_takeNumber (0 : Int32) (9 : Int32) S0 = some (r1, S1) := a1
    rw [if_neg (by rw [z2.1]; exact ne1), a1', ob2_s]
    rw [bs_k]
    cases x1 : tkV T 0 9 σ2 with
    | error e =>
      rw [x1] at a2
      exact ⟨0, S1, by rw [if_pos a2.1], fR_tr (fR_t z3) (fR_t a3), rfl, a2.2⟩
    | ok v =>
      rw [x1] at a2
      obtain ⟨v1, σ3⟩ := v
      obtain ⟨b1, b2, b3⟩ := a2
      have d1 := dE_t d0 a3
      have d2 := dE_u (x := 11) (i := nw) (v := nI v1) d1 (by decide) (by omega) (by omega) (by omega)
      have t2 : tR (ho_sI S1 (c + 11) nw (nI v1)) T σ3 := tR_hi b3 (by omega)
      have f2 : fR c S (ho_sI S1 (c + 11) nw (nI v1)) := fR_tr (fR_t z3) (fR_tr (fR_t a3) (fR_sI S1 (by unfold rP; omega)))
      obtain ⟨r3, S3, c1, c2, c3⟩ := h_tkW (i := 11) t2 (by decide)
      have c1' : f_X10_takeWord (11 : Int32) (ho_sI S1 (c + 11) nw (nI v1)) = some (r3, S3) := c1
      rw [if_neg (by rw [b1]; exact ne1), ldP_n d1.1.1 d1.1.2, b2, stI_n hn (by decide), c1', ob2_s]
      rw [bn_k]
      cases x2 : tkW T (wL.getD 11 []) σ3 with
      | error e =>
        rw [x2] at c2
        exact ⟨0, S3, by rw [if_pos c2.1], fR_tr f2 (fR_t c3), rfl, c2.2⟩
      | ok σ4 =>
        rw [x2] at c2
        have d3 := dE_t d2 c3
        have f3 := fR_tr f2 (fR_t (c := c) c3)
        obtain ⟨r4, S4, e1, e2, e3⟩ := h_tkV (lo := 0) (hi := 9) c2.2 (by decide) (by decide)
        have e1' : f_X10_takeNumber (0 : Int32) (9 : Int32) S3 = some (r4, S4) := e1
        rw [if_neg (by rw [c2.1]; exact ne1), e1', ob2_s]
        rw [bs_k]
        cases x3 : tkV T 0 9 σ4 with
        | error e =>
          rw [x3] at e2
          exact ⟨0, S4, by rw [if_pos e2.1], fR_tr f3 (fR_t e3), rfl, e2.2⟩
        | ok v =>
          rw [x3] at e2
          obtain ⟨v2, σ5⟩ := v
          obtain ⟨g1, g2, g3⟩ := e2
          have d4 := dE_t d3 e3
          have d5 := dE_u (x := 12) (i := nw) (v := nI v2) d4 (by decide) (by omega) (by omega) (by omega)
          have k6 : (ho_sI S4 (c + 12) nw (nI v2)).1 (c + 11) nw = nI v1 := by
            rw [sI_ne _ (by omega), e3.1 _ _ (tP_hi (by omega)), c3.1 _ _ (tP_hi (by omega)), sI_v]
          have k3 : (ho_sI S4 (c + 12) nw (nI v2)).1 (c + 5) nw = nI (enc w) := by
            rw [sI_ne _ (by omega), e3.1 _ _ (tP_hi (by omega)), c3.1 _ _ (tP_hi (by omega)), sI_ne _ (by omega), a3.1 _ _ (tP_hi (by omega)), z3.1 _ _ (tP_hi (by omega))]; exact hw
          have d6 := dE_incW (v1 := v1) (v2 := v2) (w := w) d5 k6 sI_v k3
          refine ⟨1, _, ?_, fR_tr f3 (fR_tr (fR_t e3) (fR_tr (fR_sI S4 (a := c + 12) (k := nw) (v := nI v2) (by unfold rP; omega)) (fR_sI _ (a := c + 1) (k := 2) (v := nI (nw + 1)) (by unfold rP; omega)))), rfl, tR_hi (tR_hi g3 (by omega)) (by omega), d6⟩
          rw [if_neg (by rw [g1]; exact ne1), ldP_n d4.1.1 d4.1.2, g2, stI_n hn (by decide), ldP_n d5.1.1 d5.1.2, ldI_L 2 (by decide) (by decide), d5.2.1.2.2, nI_1, stI_L 2 (by decide) (by decide)]
theorem h_newT {S : Hp} {T : Tp} {σ : Lx} {c np nt nw : Nat} {R : Nat → Nat → Nat} {N : Nat → Nat → List Nat} {se lo : Option (List Nat)} {w : List Nat} (h : dE S c np nt nw R N se lo) (ho : okE np nt nw R N se lo) (hn : nt < 6) (ht : tR S T σ) (hw : S.1 (c + 4) nt = nI (enc w)) :
    ∃ r S', f_X3_newTrick S = some (r, S') ∧ fR c S S' ∧ cD r S' c T (bs (tkW T (wL.getD 6 []) σ) (fun σ3 => bn (tkV T 1 999 σ3) (fun v1 σ4 => bs (tkW T (wL.getD 7 []) σ4) (fun σ5 => be (nmT T σ5) (fun w2 => match fd (N 0) w2 np 0 with
      | none => .error (3, tS T σ5)
      | some p => bs (tkW T (wL.getD 8 []) (nx T σ5)) (fun σ7 => bn (tkV T 0 9 σ7) (fun v3 σ8 => .ok (((np, nt + 1, nw), rup (rup (rup R 2 nt v1) 3 nt p) 4 nt v3, nup N 1 nt w, se, lo), σ8)))))))) := by
  have hc := dE_c h
  obtain ⟨r0, S0, z1, z2, z3⟩ := h_tkW (i := 6) ht (by decide)
  have z1' : f_X10_takeWord (6 : Int32) S = some (r0, S0) := z1
  unfold f_X3_newTrick
  rw [ldP_n h.1.1 h.1.2, ldI_L 1 (by decide) (by decide), h.2.1.2.1, z1', ob2_s]
  cases x0 : tkW T (wL.getD 6 []) σ with
  | error e =>
    rw [x0] at z2
    exact ⟨0, S0, by rw [if_pos z2.1], fR_t z3, rfl, z2.2⟩
  | ok σ2 =>
    rw [x0] at z2
    have d0 := dE_t h z3
    obtain ⟨r1, S1, a1, a2, a3⟩ := h_tkV (lo := 1) (hi := 999) z2.2 (by decide) (by decide)
    have a1' : f_X10_takeNumber (1 : Int32) (999 : Int32) S0 = some (r1, S1) := a1
    rw [if_neg (by rw [z2.1]; exact ne1), a1', ob2_s]
    rw [bs_k]
    cases x1 : tkV T 1 999 σ2 with
    | error e =>
      rw [x1] at a2
      exact ⟨0, S1, by rw [if_pos a2.1], fR_tr (fR_t z3) (fR_t a3), rfl, a2.2⟩
    | ok v =>
      rw [x1] at a2
      obtain ⟨v1, σ3⟩ := v
      obtain ⟨b1, b2, b3⟩ := a2
      have d1 := dE_t d0 a3
      have d2 := dE_u (x := 8) (i := nt) (v := nI v1) d1 (by decide) (by omega) (by omega) (by omega)
      have t2 : tR (ho_sI S1 (c + 8) nt (nI v1)) T σ3 := tR_hi b3 (by omega)
      have f2 : fR c S (ho_sI S1 (c + 8) nt (nI v1)) := fR_tr (fR_t z3) (fR_tr (fR_t a3) (fR_sI S1 (by unfold rP; omega)))
      obtain ⟨r3, S3, c1, c2, c3⟩ := h_tkW (i := 7) t2 (by decide)
      have c1' : f_X10_takeWord (7 : Int32) (ho_sI S1 (c + 8) nt (nI v1)) = some (r3, S3) := c1
      rw [if_neg (by rw [b1]; exact ne1), ldP_n d1.1.1 d1.1.2, b2, stI_n hn (by decide), c1', ob2_s]
      rw [bn_k]
      cases x2 : tkW T (wL.getD 7 []) σ3 with
      | error e =>
        rw [x2] at c2
        exact ⟨0, S3, by rw [if_pos c2.1], fR_tr f2 (fR_t c3), rfl, c2.2⟩
      | ok σ4 =>
        rw [x2] at c2
        have d3 := dE_t d2 c3
        have f3 := fR_tr f2 (fR_t (c := c) c3)
        obtain ⟨r4, S4, e1, e2, e3, e4⟩ := h_name c2.2
        rw [if_neg (by rw [c2.1]; exact ne1), e1, ob2_s]
        rw [bs_k]
        cases x3 : nmT T σ4 with
        | error e =>
          obtain ⟨g1, g2⟩ := e4 e x3
          exact ⟨0, S4, by rw [if_pos g1], fR_tr f3 (fR_t e2), rfl, g2⟩
        | ok w2 =>
          obtain ⟨g1, g2, g3, g4, g5, g6⟩ := e3 w2 x3
          rw [if_neg (by rw [g1]; exact ne1), g2, ldP_n d3.1.1 d3.1.2, g3, show (0 : Int32) = nI 0 from rfl, h_nofF d3 ho (show 0 < 3 by decide) ⟨g4, g5⟩, ob2_s]
          have e0 : cnt np nt nw 0 = np := rfl
          rw [e0]
          have hm := opI_m (fd_lt (f := N 0) (w := w2) ho.1.1)
          rw [be_k]
          cases x4 : fd (N 0) w2 np 0 with
          | none =>
            rw [x4] at hm
            have h16 := tS16 c2.2
            obtain ⟨S5, i1, i2, i3⟩ := h_wrong (S := S3) (k := 3) (p := tS T σ4) (by decide) h16.1
            refine ⟨0, S5, ?_, fR_tr f3 (fR_t (fM_mo i3 (fun b k q => w_t q))), rfl, i2⟩
            rw [if_pos (hm.mpr rfl), c2.2.2.2.2.1, show (3 : Int32) = nI 3 from rfl, i1, ob2_s]
            exact tr0
          | some p =>
            rw [x4] at hm
            have d5 := dE_u (x := 9) (i := nt) (v := nI p) d3 (by decide) (by omega) (by omega) (by omega)
            have t5 : tR (ho_sI S3 (c + 9) nt (nI p)) T σ4 := tR_hi c2.2 (by omega)
            obtain ⟨S6, j1, j2, j3⟩ := h_next t5
            have j3t : fM tP _ S6 := fM_mo j3 (fun b k q => n_t q)
            have d6 := dE_t d5 j3t
            have f6 : fR c S S6 := fR_tr f3 (fR_tr (fR_sI S3 (a := c + 9) (k := nt) (v := nI p) (by unfold rP; omega)) (fR_t j3t))
            rw [if_neg (fun q => by have := hm.mp q; cases this), ldP_n d3.1.1 d3.1.2, stI_n hn (by decide)]
            rw [show opI (some p) = nI p from rfl, j1, ob_s]
            obtain ⟨r7, S7, l1, l2, l3⟩ := h_tkW (i := 8) j2 (by decide)
            have l1' : f_X10_takeWord (8 : Int32) S6 = some (r7, S7) := l1
            rw [l1', ob2_s]
            dsimp only
            cases x5 : tkW T (wL.getD 8 []) (nx T σ4) with
            | error e =>
              rw [x5] at l2
              exact ⟨0, S7, by rw [if_pos (show r7 = nI 0 from l2.1)]; rfl, fR_tr f6 (fR_t l3), rfl, l2.2⟩
            | ok σ7 =>
              rw [x5] at l2
              have d7 := dE_t d6 l3
              obtain ⟨r8, S8, m1, m2, m3⟩ := h_tkV (lo := 0) (hi := 9) l2.2 (by decide) (by decide)
              have m1' : f_X10_takeNumber (nI 0) (9 : Int32) S7 = some (r8, S8) := m1
              rw [if_neg (by rw [l2.1]; exact ne1), m1', ob2_s]
              rw [bs_k]
              cases x6 : tkV T 0 9 σ7 with
              | error e =>
                rw [x6] at m2
                exact ⟨nI 0, S8, by rw [if_pos (show r8 = nI 0 from m2.1)], fR_tr f6 (fR_tr (fR_t l3) (fR_t m3)), rfl, m2.2⟩
              | ok v =>
                rw [x6] at m2
                obtain ⟨v3, σ8⟩ := v
                obtain ⟨n1, n2, n3⟩ := m2
                have d8 := dE_t d7 m3
                have d9 := dE_u (x := 10) (i := nt) (v := nI v3) d8 (by decide) (by omega) (by omega) (by omega)
                have k8 : (ho_sI S8 (c + 10) nt (nI v3)).1 (c + 8) nt = nI v1 := by
                  rw [sI_ne _ (by omega), m3.1 _ _ (tP_hi (by omega)), l3.1 _ _ (tP_hi (by omega)), j3t.1 _ _ (tP_hi (by omega)), sI_ne _ (by omega), c3.1 _ _ (tP_hi (by omega)), sI_v]
                have k9 : (ho_sI S8 (c + 10) nt (nI v3)).1 (c + 9) nt = nI p := by
                  rw [sI_ne _ (by omega), m3.1 _ _ (tP_hi (by omega)), l3.1 _ _ (tP_hi (by omega)), j3t.1 _ _ (tP_hi (by omega)), sI_v]
                have k4 : (ho_sI S8 (c + 10) nt (nI v3)).1 (c + 4) nt = nI (enc w) := by
                  rw [sI_ne _ (by omega), m3.1 _ _ (tP_hi (by omega)), l3.1 _ _ (tP_hi (by omega)), j3t.1 _ _ (tP_hi (by omega)), sI_ne _ (by omega), c3.1 _ _ (tP_hi (by omega)), sI_ne _ (by omega), a3.1 _ _ (tP_hi (by omega)), z3.1 _ _ (tP_hi (by omega))]; exact hw
                have d10 := dE_incT (v1 := v1) (v2 := p) (v3 := v3) (w := w) d9 k8 k9 sI_v k4
                refine ⟨1, _, ?_, fR_tr f6 (fR_tr (fR_t l3) (fR_tr (fR_t m3) (fR_tr (fR_sI S8 (a := c + 10) (k := nt) (v := nI v3) (by unfold rP; omega)) (fR_sI _ (a := c + 1) (k := 1) (v := nI (nt + 1)) (by unfold rP; omega))))), rfl, tR_hi (tR_hi n3 (by omega)) (by omega), d10⟩
                rw [if_neg (by rw [n1]; exact ne1), ldP_n d8.1.1 d8.1.2, n2, stI_n hn (by decide), ldP_n d9.1.1 d9.1.2, ldI_L 1 (by decide) (by decide), d9.2.1.2.1, nI_1, stI_L 1 (by decide) (by decide)]

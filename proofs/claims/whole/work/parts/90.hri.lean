/-! level 2: the class reads a crown: its beginning, the first statement, the whole -/
theorem i32_nI (x : Int32) : x = nI x.toBitVec.toNat := by
  apply Int32.toBitVec_inj.mp
  show x.toBitVec = BitVec.ofNat 32 x.toBitVec.toNat
  simp
theorem h_begin {S : Hp} {T : Tp} (hz : tZ S T) : ∃ S', f_X10_begin S = some S' ∧ tR S' T (0, false) ∧ fM tP S S' := by
  have f1 : fM tP S (ho_sI (ho_sI (ho_sI (ho_sI S 10 2 0) 10 3 (-1)) 10 4 0) 10 9 0) := fM_tr (fM_sI S (by unfold tP; omega)) (fM_tr (fM_sI _ (by unfold tP; omega)) (fM_tr (fM_sI _ (by unfold tP; omega)) (fM_sI _ (by unfold tP; omega))))
  have hB : tB (ho_sI (ho_sI (ho_sI (ho_sI S 10 2 0) 10 3 (-1)) 10 4 0) 10 9 0) T := by
    refine ⟨hz.1, ?_, fun i hi => ?_, fun i hi => ?_, ?_, ?_⟩
    · rw [f1.1 10 1 (by unfold tP; omega)]; exact hz.2.1
    · rw [f1.1 11 i (by unfold tP; omega)]; exact hz.2.2.1 i hi
    · rw [f1.1 12 i (by unfold tP; omega)]; exact hz.2.2.2 i hi
    · rw [sI_k (by decide), sI_k (by decide), sI_k (by decide), sI_v]
    · rw [sI_k (by decide), sI_k (by decide), sI_v]
  obtain ⟨S', r1, r2, r3⟩ := h_nx26 (e := 0) (pl := false) hB (Nat.zero_le _) sI_v
  refine ⟨S', ?_, r2, fM_tr f1 (fM_mo r3 (fun b k q => n_t q))⟩
  unfold f_X10_begin f_X10_next
  rw [le1_e, le1_e, le1_e, le1_e, le1_e, sI_v, sI_k (by decide), sI_v, if_neg (by decide), if_neg (by decide)]
  rw [if_neg (show ¬ (false = true) by decide)] at r1
  rw [show f_X10_next_26 (0 : Int32) (0 : Int32) _ = some S' from r1, ob_s]
theorem h_fill {w0 n : Nat} (hn : n < 1000) : ∀ (d i k : Nat) (S : Hp), i + d = n → d < k → f_J7_fill_53178_5 w0 n k (0 : Int32) (nI i) (nI n) S = some (ho_sA S w0 (fun j => if i ≤ j ∧ j < n then 0 else S.1 w0 j)) := by
  intro d
  induction d with
  | zero =>
    intro i k S hi hk
    obtain ⟨k, rfl⟩ : ∃ q, k = q + 1 := ⟨k - 1, by omega⟩
    have e : (fun j => if i ≤ j ∧ j < n then (0 : Int32) else S.1 w0 j) = S.1 w0 := by
      funext j
      rw [if_neg (by omega)]
    rw [f_J7_fill_53178_5, if_pos (nI_le (by omega) (by omega)), e, sA_self]
  | succ d ih =>
    intro i k S hi hk
    obtain ⟨k, rfl⟩ : ∃ q, k = q + 1 := ⟨k - 1, by omega⟩
    rw [f_J7_fill_53178_5, if_neg (nI_ge (by omega) (by omega)), stI_n (by omega) (by omega), le1_e, nI_1, ih (i + 1) k _ (by omega) (by omega), sI_sI, sA_A, sA_at]
    congr 2
    funext j
    by_cases e1 : j = i
    · subst e1
      rw [if_neg (by omega), if_pos (by omega), pk_us]
    · rw [pk_un e1]
      by_cases e2 : i + 1 ≤ j ∧ j < n
      · rw [if_pos e2, if_pos (by omega)]
      · rw [if_neg e2, if_neg (by omega)]
theorem h_fillF {S : Hp} {w0 n : Nat} (hn : n < 1000) : f_J7_fill_53178 w0 n (0 : Int32) S = some (ho_sA S w0 (fun j => if j < n then 0 else S.1 w0 j)) := by
  have h := h_fill (w0 := w0) hn n 0 5000 S (by omega) (by omega)
  have e : (fun j => if 0 ≤ j ∧ j < n then (0 : Int32) else S.1 w0 j) = (fun j => if j < n then 0 else S.1 w0 j) := by
    funext j
    by_cases q : j < n
    · rw [if_pos q, if_pos ⟨Nat.zero_le _, q⟩]
    · rw [if_neg q, if_neg (fun x => q x.2)]
  rw [e] at h
  unfold f_J7_fill_53178
  rw [le1_e, show (0 : Int32) = nI 0 from rfl, show Int32.ofNat n = nI n from rfl]
  exact h
/-- a formula with one code -/
theorem h_one {S : Hp} {a cd : Nat} (hA : okA cd) : ∃ S', f_X4_add a (nI (hcd cd)) (ho_sI S a 2 0) = some S' ∧ codH S' a [cd] ∧ fM (fun b _ => b = a ∨ b = a + 1) S S' := by
  refine ⟨ho_sI (ho_sI (ho_sI S a 2 0) (a + 1) 0 (nI (hcd cd))) a 2 (nI 1), ?_, ⟨by simp, ?_, fun j hj => ?_, fun c hc => ?_⟩, fM_tr (fM_sI S (Or.inl rfl)) (fM_tr (fM_sI _ (Or.inr rfl)) (fM_sI _ (Or.inl rfl)))⟩
  · unfold f_X4_add
    rw [sI_v, if_neg (by decide), show (0 : Int32) = nI 0 from rfl, stI_n (by decide) (by decide), le1_e, sI_ne _ (by omega), sI_v, nI_1]
  · rw [sI_v]; rfl
  · have : j = 0 := by simp at hj; exact hj
    subst this
    rw [sI_ne _ (by omega), sI_v]
    rfl
  · simp at hc
    rw [hc]; exact hA
theorem h_clear {S : Hp} {c : Nat} (hc : c = 100 ∨ c = 150) : ∃ S', f_X2_clear c S = some S' ∧ (S'.1 c 3 = 50 ∧ S'.1 c 4 = 0) ∧ (∀ k, k < 3 → S'.1 (c + 1) k = 0) ∧ codH S' (c + 13) [44] ∧ codH S' (c + 16) [1010] ∧ fM (fun b _ => c ≤ b ∧ b ≤ c + 18) S S' := by
  obtain ⟨S1, hS1⟩ : ∃ S1, S1 = ho_sA (ho_sI (ho_sI S c 3 50) c 4 0) (c + 1) (fun j => if j < 3 then 0 else (ho_sI (ho_sI S c 3 50) c 4 0).1 (c + 1) j) := ⟨_, rfl⟩
  obtain ⟨S2, a1, a2, a3⟩ := h_one (S := S1) (a := c + 13) (cd := 44) (by unfold okA; omega)
  obtain ⟨S3, b1, b2, b3⟩ := h_one (S := S2) (a := c + 16) (cd := 1010) (by unfold okA; omega)
  have f1 : fM (fun b _ => c ≤ b ∧ b ≤ c + 18) S S1 := by
    rw [hS1]
    refine fM_tr (fM_sI S (a := c) (k := 3) (v := 50) (by first | decide | (dsimp only; omega) | omega)) (fM_tr (fM_sI _ (a := c) (k := 4) (v := 0) (by first | decide | (dsimp only; omega) | omega)) ⟨fun b k hb => ?_, rfl⟩)
    rw [sA_ne _ _ (by omega)]
  refine ⟨S3, ?_, ⟨?_, ?_⟩, fun k hk => ?_, codH_f a2 (b3.1 _ _ (by first | decide | (dsimp only; omega) | omega)) (fun j => b3.1 _ _ (by first | decide | (dsimp only; omega) | omega)), b2, fM_tr f1 (fM_tr (fM_mo a3 (fun b k q => by omega)) (fM_mo b3 (fun b k q => by omega)))⟩
  · unfold f_X2_clear f_X4_clear
    rw [le1_e, le1_e, h_fillF (by decide), ob_s, ← hS1, le1_e, ob_s, show (10011 : Int32) = nI (hcd 44) from rfl, a1, ob_s, le1_e, ob_s, show (10 : Int32) = nI (hcd 1010) from rfl, b1, ob_s]
  · rw [b3.1 _ _ (by first | decide | (dsimp only; omega) | omega), a3.1 _ _ (by first | decide | (dsimp only; omega) | omega), hS1, sA_ne _ _ (by omega), sI_k (by decide), sI_v]
  · rw [b3.1 _ _ (by first | decide | (dsimp only; omega) | omega), a3.1 _ _ (by first | decide | (dsimp only; omega) | omega), hS1, sA_ne _ _ (by omega), sI_v]
  · rw [b3.1 _ _ (by first | decide | (dsimp only; omega) | omega), a3.1 _ _ (by first | decide | (dsimp only; omega) | omega), hS1, sA_at, if_pos hk]
theorem bs_bn {α β : Type} {x : Except (Nat × Nat) Lx} {y : Lx → Except (Nat × Nat) (α × Lx)} {f : α → Lx → Except (Nat × Nat) β} : bs x (fun σ => bn (y σ) f) = bn (bs x y) f := by
  cases x <;> rfl
theorem h_tre1 {S : Hp} {T : Tp} {σ : Lx} {c lw hw kf kr wi : Nat} {R : Nat → Nat → Nat} {N : Nat → Nat → List Nat} {K : Hp → Option (Int32 × Hp)} (h : dE S c 0 0 0 R N none none) (ht : tR S T σ) (hwi : wi < 35) (hlw : lw < 2 ^ 31) (hhw : hw < 2 ^ 31) (hk : (kf = 0 ∧ kr = 0) ∨ (kf = 1 ∧ kr = 3) ∨ (kf = 2 ∧ kr = 1)) :
    (∀ e, bs (tkW T (wL.getD wi []) σ) (tkV T lw hw) = .error e → ∃ S', ob2 (f_X10_takeWord (nI wi) S) (fun r1 S1 => if r1 = 0 then some ((0 : Int32), S1) else ob2 (f_X10_takeNumber (nI lw) (nI hw) S1) (fun r2 S2 => if r2 = 0 then some ((0 : Int32), S2) else ldP yH S2 20 2 2 (fun p3 => le1 (ho_sI S2 p3 kf (S2.1 10 8)) K))) = some (0, S') ∧ fR c S S' ∧ wR S' e) ∧
    (∀ v σ2, bs (tkW T (wL.getD wi []) σ) (tkV T lw hw) = .ok (v, σ2) → ∃ S', ob2 (f_X10_takeWord (nI wi) S) (fun r1 S1 => if r1 = 0 then some ((0 : Int32), S1) else ob2 (f_X10_takeNumber (nI lw) (nI hw) S1) (fun r2 S2 => if r2 = 0 then some ((0 : Int32), S2) else ldP yH S2 20 2 2 (fun p3 => le1 (ho_sI S2 p3 kf (S2.1 10 8)) K))) = K S' ∧ fR c S S' ∧ tR S' T σ2 ∧ dE S' c 0 0 0 (rup R 0 kr v) N none none) := by
  have hc := dE_c h
  obtain ⟨r1, S1, a1, a2, a3⟩ := h_tkW (i := wi) ht hwi
  have d1 := dE_t h a3
  rw [a1, ob2_s]
  cases x : tkW T (wL.getD wi []) σ with
  | error e =>
    rw [x] at a2
    rw [if_pos a2.1]
    exact ⟨fun e' q => by cases q; exact ⟨S1, rfl, fR_t a3, a2.2⟩, fun v σ2 q => by cases q⟩
  | ok σ1 =>
    rw [x] at a2
    obtain ⟨r2, S2, b1, b2, b3⟩ := h_tkV (lo := lw) (hi := hw) a2.2 hlw hhw
    have d2 := dE_t d1 b3
    rw [if_neg (by rw [a2.1]; exact ne1), b1, ob2_s, bs_k]
    cases y : tkV T lw hw σ1 with
    | error e =>
      rw [y] at b2
      rw [if_pos b2.1]
      exact ⟨fun e' q => by cases q; exact ⟨S2, rfl, fR_tr (fR_t a3) (fR_t b3), b2.2⟩, fun v σ2 q => by cases q⟩
    | ok z =>
      rw [y] at b2
      obtain ⟨v, σ2⟩ := z
      obtain ⟨c1, c2, c3⟩ := b2
      rw [if_neg (by rw [c1]; exact ne1), ldP_n d2.1.1 d2.1.2, c2, le1_e]
      refine ⟨(fun e' q => by cases q), fun v' σ2' q => ?_⟩
      cases q
      refine ⟨_, rfl, fR_tr (fR_t a3) (fR_tr (fR_t b3) (fR_sI S2 (by unfold rP; omega))), tR_hi c3 (by omega), ?_⟩
      obtain ⟨q1, q2, q3, q4, q5, q6, q7, q8, q9, q10⟩ := d2
      have g : ∀ y, 0 < y → (ho_sI S2 c kf (nI v)).1 (c + y) = S2.1 (c + y) := fun y hy => sI_ne _ (by omega)
      refine ⟨q1, ?_, ?_, fun p hp => absurd hp (by omega), fun p hp => absurd hp (by omega), fun p hp => absurd hp (by omega), fun k hk i hi => ?_, codH_f q8 (by rw [g 13 (by decide)]) (fun j => by rw [g 14 (by decide)]), codH_f q9 (by rw [g 16 (by decide)]) (fun j => by rw [g 17 (by decide)]), by rw [sI_ne _ (by omega)]; exact q10⟩
      · rw [g 1 (by decide)]; exact q2
      · rcases hk with ⟨rfl, rfl⟩ | ⟨rfl, rfl⟩ | ⟨rfl, rfl⟩
        · rw [sI_v, sI_k (by decide), sI_k (by decide), sI_k (by decide), sI_k (by decide), rup_s, rup_n (by omega), rup_n (by omega), rup_n (by omega), rup_n (by omega)]
          exact ⟨rfl, q3.2⟩
        · rw [sI_v, sI_k (by decide), sI_k (by decide), sI_k (by decide), sI_k (by decide), rup_s, rup_n (by omega), rup_n (by omega), rup_n (by omega), rup_n (by omega)]
          exact ⟨q3.1, rfl, q3.2.2⟩
        · rw [sI_v, sI_k (by decide), sI_k (by decide), sI_k (by decide), sI_k (by decide), rup_s, rup_n (by omega), rup_n (by omega), rup_n (by omega), rup_n (by omega)]
          exact ⟨q3.1, q3.2.1, rfl, q3.2.2.2⟩
      · rw [sI_ne _ (by omega)]; exact q7 k hk i hi
theorem dE_R {S : Hp} {c : Nat} {R R' : Nat → Nat → Nat} {N N' : Nat → Nat → List Nat} (h : dE S c 0 0 0 R N none none) (e : ∀ j, j < 5 → R 0 j = R' 0 j) : dE S c 0 0 0 R' N' none none := by
  obtain ⟨q1, q2, q3, q4, q5, q6, q7, q8, q9, q10⟩ := h
  refine ⟨q1, q2, ?_, fun p hp => absurd hp (by omega), fun p hp => absurd hp (by omega), fun p hp => absurd hp (by omega), fun k hk i hi => ?_, q8, q9, q10⟩
  · rw [← e 0 (by decide), ← e 1 (by decide), ← e 2 (by decide), ← e 3 (by decide), ← e 4 (by decide)]; exact q3
  · exfalso
    unfold cnt at hi
    split at hi
    · exact absurd hi (by omega)
    · split at hi
      · exact absurd hi (by omega)
      · exact absurd hi (by omega)
theorem h_tre {S : Hp} {T : Tp} {σ : Lx} {c : Nat} {R : Nat → Nat → Nat} {N : Nat → Nat → List Nat} (h : dE S c 0 0 0 R N none none) (ht : tR S T σ) (h4 : R 0 4 = 50) (h2 : R 0 2 = 0) :
    (∀ e, tre T σ = .error e → ∃ S', f_X3_treasury S = some (0, S') ∧ fR c S S' ∧ wR S' e) ∧ (∀ R' σ2, tre T σ = .ok (R', σ2) → ∃ S', f_X3_treasury S = some (1, S') ∧ fR c S S' ∧ tR S' T σ2 ∧ dE S' c 0 0 0 R' (fun _ _ => []) none none) := by
  have et : tre T σ = bn (bs (tkW T (wL.getD 0 []) σ) (tkV T 0 9999)) (fun v1 σ2 => bn (bs (tkW T (wL.getD 1 []) σ2) (tkV T 0 9999)) (fun v2 σ4 => bn (bs (tkW T (wL.getD 2 []) σ4) (tkV T 0 99)) (fun v3 σ6 => .ok (rup (rup (rup R0 0 0 v1) 0 3 v2) 0 1 v3, σ6)))) := by
    unfold tre
    simp only [bs_bn]
  rw [et]
  unfold f_X3_treasury
  obtain ⟨a1, a2⟩ := h_tre1 (kf := 0) (kr := 0) (wi := 0) (lw := 0) (hw := 9999) (K := fun S4 => ob2 (f_X10_takeWord (1 : Int32) S4) (fun r5 S5 => if r5 = 0 then some ((0 : Int32), S5) else ob2 (f_X10_takeNumber (0 : Int32) (9999 : Int32) S5) (fun r6 S6 => if r6 = 0 then some ((0 : Int32), S6) else ldP yH S6 20 2 2 (fun p7 => le1 (ho_sI S6 p7 1 (S6.1 10 8)) (fun S8 => ob2 (f_X10_takeWord (2 : Int32) S8) (fun r9 S9 => if r9 = 0 then some ((0 : Int32), S9) else ob2 (f_X10_takeNumber (0 : Int32) (99 : Int32) S9) (fun r10 S10 => if r10 = 0 then some ((0 : Int32), S10) else ldP yH S10 20 2 2 (fun p11 => le1 (ho_sI S10 p11 2 (S10.1 10 8)) (fun S12 => some ((1 : Int32), S12)))))))))) h ht (by decide) (by decide) (by decide) (Or.inl ⟨rfl, rfl⟩)
  cases x : bs (tkW T (wL.getD 0 []) σ) (tkV T 0 9999) with
  | error e =>
    obtain ⟨S', b1, b2, b3⟩ := a1 e x
    exact ⟨fun e' q => by cases q; exact ⟨S', b1, b2, b3⟩, fun R' σ2 q => by cases q⟩
  | ok v =>
    obtain ⟨v1, σ2⟩ := v
    obtain ⟨S1, b1, b2, b3, b4⟩ := a2 v1 σ2 x
    obtain ⟨c1, c2⟩ := h_tre1 (kf := 1) (kr := 3) (wi := 1) (lw := 0) (hw := 9999) (K := fun S8 => ob2 (f_X10_takeWord (2 : Int32) S8) (fun r9 S9 => if r9 = 0 then some ((0 : Int32), S9) else ob2 (f_X10_takeNumber (0 : Int32) (99 : Int32) S9) (fun r10 S10 => if r10 = 0 then some ((0 : Int32), S10) else ldP yH S10 20 2 2 (fun p11 => le1 (ho_sI S10 p11 2 (S10.1 10 8)) (fun S12 => some ((1 : Int32), S12)))))) b4 b3 (by decide) (by decide) (by decide) (Or.inr (Or.inl ⟨rfl, rfl⟩))
    rw [bn_k]
    cases y : bs (tkW T (wL.getD 1 []) σ2) (tkV T 0 9999) with
    | error e =>
      obtain ⟨S', d1, d2, d3⟩ := c1 e y
      exact ⟨fun e' q => by cases q; exact ⟨S', b1.trans d1, fR_tr b2 d2, d3⟩, fun R' σ2 q => by cases q⟩
    | ok v =>
      obtain ⟨v2, σ4⟩ := v
      obtain ⟨S2, d1, d2, d3, d4⟩ := c2 v2 σ4 y
      obtain ⟨g1, g2⟩ := h_tre1 (kf := 2) (kr := 1) (wi := 2) (lw := 0) (hw := 99) (K := fun S12 => some ((1 : Int32), S12)) d4 d3 (by decide) (by decide) (by decide) (Or.inr (Or.inr ⟨rfl, rfl⟩))
      rw [bn_k]
      cases w : bs (tkW T (wL.getD 2 []) σ4) (tkV T 0 99) with
      | error e =>
        obtain ⟨S', i1, i2, i3⟩ := g1 e w
        exact ⟨fun e' q => by cases q; exact ⟨S', b1.trans (d1.trans i1), fR_tr b2 (fR_tr d2 i2), i3⟩, fun R' σ2 q => by cases q⟩
      | ok v =>
        obtain ⟨v3, σ6⟩ := v
        obtain ⟨S3, i1, i2, i3, i4⟩ := g2 v3 σ6 w
        rw [bn_k]
        refine ⟨fun e' q => (by cases q), fun R' σ2' q => ?_⟩
        cases q
        refine ⟨S3, b1.trans (d1.trans i1), fR_tr b2 (fR_tr d2 i2), i3, dE_R i4 (fun j hj => ?_)⟩
        have : j = 0 ∨ j = 1 ∨ j = 2 ∨ j = 3 ∨ j = 4 := by omega
        rcases this with rfl | rfl | rfl | rfl | rfl
        · rw [rup_n (by omega), rup_n (by omega), rup_s, rup_n (by omega), rup_n (by omega), rup_s]
        · rw [rup_s, rup_s]
        · rw [rup_n (by omega), rup_n (by omega), rup_n (by omega), rup_n (by omega), rup_n (by omega), rup_n (by omega), h2]; rfl
        · rw [rup_n (by omega), rup_s, rup_n (by omega), rup_s]
        · rw [rup_n (by omega), rup_n (by omega), rup_n (by omega), rup_n (by omega), rup_n (by omega), rup_n (by omega), h4]; rfl
def fC (c : Nat) (S S' : Hp) : Prop := (∀ b k, ¬ (rP c b k ∨ (b = 20 ∧ k = 4)) → S'.1 b k = S.1 b k) ∧ S'.2.1 = S.2.1 ∧ (∀ b k, ¬ (b = 25 ∧ k = 1) → ¬ (b = 20 ∧ k = 2) → S'.2.2 b k = S.2.2 b k)
theorem fC_q {c : Nat} {S S' : Hp} (h : fQ c S S') : fC c S S' := ⟨h.1, h.2.1, fun b k h1 _ => h.2.2 b k h1⟩
theorem fC_tr {c : Nat} {S S1 S2 : Hp} (h1 : fC c S S1) (h2 : fC c S1 S2) : fC c S S2 := ⟨fun b k h => (h2.1 b k h).trans (h1.1 b k h), h2.2.1.trans h1.2.1, fun b k h x => (h2.2.2 b k h x).trans (h1.2.2 b k h x)⟩
/-- the whole of a crown -/
theorem h_readInto {S : Hp} {T : Tp} {c : Nat} (hz : tZ S T) (hc : c ∈ yH.1 ∧ yH.2.1 c = (1, 2)) :
    ∃ r S', f_X3_readInto c S = some (r, S') ∧ fC c S S' ∧ (∀ D1 n1, crT T = .ok (D1, n1) → r = 1 ∧ dD S' c D1 ∧ okD D1 ∧ S'.1 20 4 = nI n1 ∧ S'.1 10 2 = 0 ∧ S'.1 10 3 = -1 ∧ n1 ≤ 60) ∧ (∀ e, crT T = .error e → r = 0 ∧ wR S' e) := by
  have hcc := c2H hc
  have e1 : (ho_sP S 20 2 c).2.2 20 2 = c := by
    show (if 20 = 20 then va_up (S.2.2 20) 2 c else S.2.2 20) 2 = c
    rw [if_pos rfl]
    exact if_pos rfl
  have f0 : fC c S (ho_sP S 20 2 c) := by
    refine ⟨fun _ _ _ => rfl, rfl, fun b k _ hb => ?_⟩
    show (if b = 20 then va_up (S.2.2 20) 2 c else S.2.2 b) k = S.2.2 b k
    by_cases q : b = 20
    · subst q
      rw [if_pos rfl]
      exact if_neg (fun x => hb ⟨rfl, x⟩)
    · rw [if_neg q]
  obtain ⟨S2, a1, a2, a3, a4, a5, a6⟩ := h_clear (S := ho_sP S 20 2 c) hcc
  have f2 : fC c S S2 := fC_tr f0 (fC_q (fQ_r (fR_m a6 (fun b k q => by unfold rP; omega))))
  have f3 : fC c S (ho_sI S2 20 3 0) := fC_tr f2 (fC_q (fQ_r (fR_sI S2 (by unfold rP; omega))))
  have z3 : tZ (ho_sI S2 20 3 0) T := by
    refine ⟨hz.1, ?_, fun i hi => ?_, fun i hi => ?_⟩
    · rw [f3.1 10 1 (by unfold rP; omega)]; exact hz.2.1
    · rw [f3.1 11 i (by unfold rP; omega)]; exact hz.2.2.1 i hi
    · rw [f3.1 12 i (by unfold rP; omega)]; exact hz.2.2.2 i hi
  obtain ⟨S4, b1, b2, b3⟩ := h_begin z3
  have f4 : fC c S S4 := fC_tr f3 (fC_q (fQ_r (fR_t b3)))
  have g4 : ∀ b k, 100 ≤ b → S4.1 b k = S2.1 b k := fun b k hb => by rw [b3.1 b k (tP_hi (by omega)), sI_ne _ (by omega)]
  have p4 : S4.2.2 20 2 = c := by
    rw [b3.2]
    show S2.2.2 20 2 = c
    rw [a6.2]; exact e1
  have d4 : dE S4 c 0 0 0 (fun _ j => if j = 0 then (S2.1 c 0).toBitVec.toNat else if j = 3 then (S2.1 c 1).toBitVec.toNat else if j = 1 then (S2.1 c 2).toBitVec.toNat else if j = 4 then 50 else 0) (fun _ _ => []) none none := by
    refine ⟨⟨p4, hc⟩, ⟨?_, ?_, ?_⟩, ⟨?_, ?_, ?_, ?_, ?_⟩, fun p hp => absurd hp (by omega), fun p hp => absurd hp (by omega), fun p hp => absurd hp (by omega), fun k hk i hi => ?_, codH_f a4 (g4 _ _ (by omega)) (fun j => g4 _ _ (by omega)), codH_f a5 (g4 _ _ (by omega)) (fun j => g4 _ _ (by omega)), ?_⟩
    · rw [g4 _ _ (by omega), a3 0 (by decide)]; rfl
    · rw [g4 _ _ (by omega), a3 1 (by decide)]; rfl
    · rw [g4 _ _ (by omega), a3 2 (by decide)]; rfl
    · rw [g4 _ _ (by omega)]; exact i32_nI _
    · rw [g4 _ _ (by omega)]; exact i32_nI _
    · rw [g4 _ _ (by omega)]; exact i32_nI _
    · rw [g4 _ _ (by omega), a2.1]; rfl
    · rw [g4 _ _ (by omega), a2.2]; rfl
    · exfalso
      unfold cnt at hi
      split at hi
      · exact absurd hi (by omega)
      · split at hi
        · exact absurd hi (by omega)
        · exact absurd hi (by omega)
    · rw [b3.1 20 3 (tP_hi (by decide)), sI_v]; rfl
  obtain ⟨c1, c2⟩ := h_tre d4 b2 rfl rfl
  unfold f_X3_readInto
  rw [le1_e, ldP_n e1 hc, a1, ob_s, le1_e, b1, ob_s]
  unfold crT
  cases x : tre T (0, false) with
  | error e =>
    obtain ⟨S5, d1, d2, d3⟩ := c1 e x
    rw [d1, ob2_s, if_pos rfl]
    exact ⟨0, S5, rfl, fC_tr f4 (fC_q (fQ_r d2)), (fun D1 n1 q => by cases q), (fun e q => by cases q; exact ⟨rfl, d3⟩)⟩
  | ok v =>
    obtain ⟨R', σ2⟩ := v
    obtain ⟨S5, d1, d2, d3, d4'⟩ := c2 R' σ2 x
    obtain ⟨t1, t2⟩ := tre_ok (Nat.zero_le _) x
    obtain ⟨r6, S6, g1, g2, g3⟩ := h_tkG (c := 59) d3 (by decide)
    have g1' : f_X10_takeSign (59 : Int32) S5 = some (r6, S6) := g1
    rw [d1, ob2_s, if_neg ne1, g1', ob2_s, bn_k]
    cases y : tkG T 59 σ2 with
    | error e =>
      rw [y] at g2
      rw [if_pos g2.1]
      exact ⟨0, S6, rfl, fC_tr f4 (fC_q (fQ_r (fR_tr d2 (fR_t g3)))), (fun D1 n1 q => by cases q), (fun e q => by cases q; exact ⟨rfl, g2.2⟩)⟩
    | ok σ3 =>
      rw [y] at g2
      have d6 := dE_t d4' g3
      rw [if_neg (by rw [g2.1]; exact ne1), le1_e, bs_k]
      have d7 : dE (ho_sI S6 20 4 1) c 0 0 0 R' (fun _ _ => []) none none := dE_f d6 rfl (sI_k (by decide)) (fun b k _ _ => by rw [sI_ne _ (by omega)])
      obtain ⟨r, S', i1, i2, i3, i4⟩ := h_ri50 (T := T) (c := c) 59 1 5000 ((0, 0, 0), R', fun _ _ => [], none, none) σ3 (ho_sI S6 20 4 1) (by decide) (by decide) d7 t2 (tR_hi g2.2 (by decide)) sI_v
      exact ⟨r, S', i1, fC_tr f4 (fC_tr (fC_q (fQ_r (fR_tr d2 (fR_t g3)))) (fC_tr (fC_q (fQ_4 S6)) (fC_q i2))), i3, i4⟩

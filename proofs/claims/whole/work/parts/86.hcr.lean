/-! level 2: the class reads a crown: what it holds as yet; names, provinces, tricks, watchers -/
def rP (c b k : Nat) : Prop := (b = 10 ∧ 2 ≤ k ∧ k ≤ 9) ∨ (b = 20 ∧ k = 3) ∨ (b = 25 ∧ k = 2) ∨ (c ≤ b ∧ b ≤ c + 18)
def fR (c : Nat) (S S' : Hp) : Prop := (∀ b k, ¬ rP c b k → S'.1 b k = S.1 b k) ∧ S'.2.1 = S.2.1 ∧ (∀ b k, ¬ (b = 25 ∧ k = 1) → S'.2.2 b k = S.2.2 b k)
theorem fR_rf (c : Nat) (S : Hp) : fR c S S := ⟨fun _ _ _ => rfl, rfl, fun _ _ _ => rfl⟩
theorem fR_tr {c : Nat} {S S1 S2 : Hp} (h1 : fR c S S1) (h2 : fR c S1 S2) : fR c S S2 := ⟨fun b k h => (h2.1 b k h).trans (h1.1 b k h), h2.2.1.trans h1.2.1, fun b k h => (h2.2.2 b k h).trans (h1.2.2 b k h)⟩
theorem fR_t {c : Nat} {S S' : Hp} (h : fM tP S S') : fR c S S' := ⟨fun b k hb => h.1 b k (fun q => hb (Or.inl q)), by rw [h.2], fun b k _ => by rw [h.2]⟩
theorem fR_m {c : Nat} {P : Nat → Nat → Prop} {S S' : Hp} (h : fM P S S') (hp : ∀ b k, P b k → rP c b k) : fR c S S' := ⟨fun b k hb => h.1 b k (fun q => hb (hp b k q)), by rw [h.2], fun b k _ => by rw [h.2]⟩
theorem fR_sI {c : Nat} (S : Hp) {a k : Nat} {v : Int32} (hp : rP c a k) : fR c S (ho_sI S a k v) := fR_m (fM_sI (P := rP c) S hp) (fun _ _ q => q)
def dE (S : Hp) (c np nt nw : Nat) (R : Nat → Nat → Nat) (N : Nat → Nat → List Nat) (se lo : Option (List Nat)) : Prop :=
  (S.2.2 20 2 = c ∧ c ∈ yH.1 ∧ yH.2.1 c = (1, 2)) ∧ (S.1 (c + 1) 0 = nI np ∧ S.1 (c + 1) 1 = nI nt ∧ S.1 (c + 1) 2 = nI nw) ∧ (S.1 c 0 = nI (R 0 0) ∧ S.1 c 1 = nI (R 0 3) ∧ S.1 c 2 = nI (R 0 1) ∧ S.1 c 3 = nI (R 0 4) ∧ S.1 c 4 = nI (R 0 2)) ∧ (∀ p, p < np → S.1 (c + 6) p = nI (R 6 p) ∧ S.1 (c + 7) p = nI (R 1 p)) ∧ (∀ t, t < nt → S.1 (c + 8) t = nI (R 2 t) ∧ S.1 (c + 9) t = nI (R 3 t) ∧ S.1 (c + 10) t = nI (R 4 t)) ∧ (∀ w, w < nw → S.1 (c + 11) w = nI (R 7 w) ∧ S.1 (c + 12) w = nI (R 5 w)) ∧ (∀ k, k < 3 → ∀ i, i < cnt np nt nw k → S.1 (c + 3 + k) i = nI (enc (N k i))) ∧ codH S (c + 13) (se.getD [44]) ∧ codH S (c + 16) (lo.getD [1010]) ∧ S.1 20 3 = nI ((if se.isSome then 4096 else 0) + (if lo.isSome then 8192 else 0))
def dD (S : Hp) (c : Nat) (D : Dr) : Prop := dE S c D.1.1 D.1.2.1 D.1.2.2 D.2.1 D.2.2.1 D.2.2.2.1 D.2.2.2.2
theorem dE_c {S : Hp} {c np nt nw : Nat} {R : Nat → Nat → Nat} {N : Nat → Nat → List Nat} {se lo : Option (List Nat)} (h : dE S c np nt nw R N se lo) : c = 100 ∨ c = 150 := c2H h.1.2
theorem codH_f {S S' : Hp} {a : Nat} {cs : List Nat} (h : codH S a cs) (h1 : S'.1 a 2 = S.1 a 2) (h2 : ∀ j, S'.1 (a + 1) j = S.1 (a + 1) j) : codH S' a cs := ⟨h.1, h1.trans h.2.1, fun j hj => (h2 j).trans (h.2.2.1 j hj), h.2.2.2⟩
/-- what is held, by the cells that it lies in -/
theorem dE_f {S S' : Hp} {c np nt nw : Nat} {R : Nat → Nat → Nat} {N : Nat → Nat → List Nat} {se lo : Option (List Nat)} (h : dE S c np nt nw R N se lo) (hp : S'.2.2 20 2 = S.2.2 20 2) (h20 : S'.1 20 3 = S.1 20 3) (hc : ∀ b k, c ≤ b → b ≤ c + 18 → S'.1 b k = S.1 b k) : dE S' c np nt nw R N se lo := by
  obtain ⟨a1, a2, a3, a4, a5, a6, a7, a8, a9, a10⟩ := h
  have g : ∀ x k, x ≤ 18 → S'.1 (c + x) k = S.1 (c + x) k := fun x k hx => hc (c + x) k (by omega) (by omega)
  refine ⟨⟨hp.trans a1.1, a1.2⟩, ?_, ?_, ?_, ?_, ?_, ?_, codH_f a8 (g 13 _ (by decide)) (fun j => g 14 j (by decide)), codH_f a9 (g 16 _ (by decide)) (fun j => g 17 j (by decide)), h20.trans a10⟩
  · rw [g 1 _ (by decide), g 1 _ (by decide), g 1 _ (by decide)]; exact a2
  · have g0 := fun k => g 0 k (by decide)
    simp only [Nat.add_zero] at g0
    rw [g0, g0, g0, g0, g0]; exact a3
  · intro p hp; rw [g 6 _ (by decide), g 7 _ (by decide)]; exact a4 p hp
  · intro p hp; rw [g 8 _ (by decide), g 9 _ (by decide), g 10 _ (by decide)]; exact a5 p hp
  · intro p hp; rw [g 11 _ (by decide), g 12 _ (by decide)]; exact a6 p hp
  · intro k hk i hi; rw [hc _ _ (by omega) (by omega)]; exact a7 k hk i hi
theorem dE_t {S S' : Hp} {c np nt nw : Nat} {R : Nat → Nat → Nat} {N : Nat → Nat → List Nat} {se lo : Option (List Nat)} (h : dE S c np nt nw R N se lo) (hf : fM tP S S') : dE S' c np nt nw R N se lo := by
  have hc := dE_c h
  exact dE_f h (by rw [hf.2]) (hf.1 20 3 (by unfold tP; omega)) (fun b k _ _ => hf.1 b k (by unfold tP; omega))
theorem ldR_n {β : Type} {Y : Sy} {a n i t c p : Nat} {f : Nat → Option β} (hi : i < n) (hn : n < 2 ^ 31) (he : Y.2.2.2.2.1 a i = p) (hp : p ∈ Y.1 ∧ Y.2.1 p = (t, c)) : ldR Y a n (nI i) t c f = f p := by
  unfold ldR
  rw [if_neg (nI_in hi hn), nI_clamp (by omega), he, if_pos hp]
theorem nmH {c k : Nat} (hc : c = 100 ∨ c = 150) (hk : k < 3) : yH.2.2.2.2.1 (c + 2) k = c + 3 + k ∧ (c + 3 + k ∈ yH.1 ∧ yH.2.1 (c + 3 + k) = (4, 6)) := by
  have : k = 0 ∨ k = 1 ∨ k = 2 := by omega
  rcases hc with rfl | rfl <;> rcases this with rfl | rfl | rfl <;> exact ⟨rfl, memH (by decide) (by decide), rfl⟩
def opI : Option Nat → Int32
  | none => -1
  | some p => nI p
theorem cnt_in {np nt nw k : Nat} (h : np ≤ 6 ∧ nt ≤ 6 ∧ nw ≤ 5) : cnt np nt nw k ≤ 6 := by
  unfold cnt
  split
  · exact h.1
  · split
    · exact h.2.1
    · omega
theorem dE_n {S : Hp} {c np nt nw k : Nat} {R : Nat → Nat → Nat} {N : Nat → Nat → List Nat} {se lo : Option (List Nat)} (h : dE S c np nt nw R N se lo) (hk : k < 3) : S.1 (c + 1) k = nI (cnt np nt nw k) := by
  have : k = 0 ∨ k = 1 ∨ k = 2 := by omega
  rcases this with rfl | rfl | rfl
  · exact h.2.1.1
  · exact h.2.1.2.1
  · exact h.2.1.2.2
theorem h_nof {S : Hp} {c np nt nw k : Nat} {R : Nat → Nat → Nat} {N : Nat → Nat → List Nat} {se lo : Option (List Nat)} {w : List Nat} (h : dE S c np nt nw R N se lo) (ho : okE np nt nw R N se lo) (hk : k < 3) (hw : lts w ∧ w.length ≤ 6) : ∀ (d i K : Nat), i + d = cnt np nt nw k → d < K → f_X2_numberOf_2 c K (nI k) (nI (enc w)) (nI i) S = some (opI (fd (N k) w d i), S) := by
  have hc := dE_c h
  have hn := cnt_in (k := k) ho.1
  intro d
  induction d with
  | zero =>
    intro i K hi hK
    obtain ⟨K, rfl⟩ : ∃ q, K = q + 1 := ⟨K - 1, by omega⟩
    rw [f_X2_numberOf_2, ldI_n hk (by decide), dE_n h hk, if_pos (nI_le (by omega) (by omega))]
    rfl
  | succ d ih =>
    intro i K hi hK
    obtain ⟨K, rfl⟩ : ∃ q, K = q + 1 := ⟨K - 1, by omega⟩
    obtain ⟨y1, y2⟩ := nmH hc hk
    have hN := ho.2.2.2.2.2.1 k hk i (by omega)
    rw [f_X2_numberOf_2, ldI_n hk (by decide), dE_n h hk, if_neg (nI_ge (by omega) (by omega)), ldR_n hk (by decide) y1 y2, ldI_n (by omega) (by decide), h.2.2.2.2.2.2.1 k hk i (by omega), fd]
    have b1 := enc_b hw.1 hw.2
    have b2 := enc_b hN.1 hN.2.2
    by_cases e : N k i = w
    · rw [if_pos e, if_pos (by rw [e])]
      rfl
    · rw [if_neg e, if_neg (fun q => e (enc_inj hN.1 hw.1 hN.2.2 hw.2 ((nI_eq (by omega) (by omega)).mp q))), le1_e, nI_1]
      exact ih (i + 1) K (by omega) (by omega)
theorem h_nofF {S : Hp} {c np nt nw k : Nat} {R : Nat → Nat → Nat} {N : Nat → Nat → List Nat} {se lo : Option (List Nat)} {w : List Nat} (h : dE S c np nt nw R N se lo) (ho : okE np nt nw R N se lo) (hk : k < 3) (hw : lts w ∧ w.length ≤ 6) : f_X2_numberOf c (nI k) (nI (enc w)) S = some (opI (fd (N k) w (cnt np nt nw k) 0), S) :=
  h_nof h ho hk hw (cnt np nt nw k) 0 5000 (by omega) (by have := cnt_in (k := k) ho.1; omega)
theorem opI_m {x : Option Nat} (h : ∀ p, x = some p → p < 1000) : (opI x = (-1 : Int32)) ↔ x = none := by
  cases x with
  | none => exact ⟨fun _ => rfl, fun _ => rfl⟩
  | some p =>
    refine ⟨fun q => ?_, fun q => by cases q⟩
    have hp := h p rfl
    have := congrArg Int32.toInt q
    have e1 : (opI (some p)).toInt = (p : Int) := nI_toInt (by omega)
    have e2 : ((-1 : Int32)).toInt = -1 := by decide
    rw [e1, e2] at this
    omega
theorem fd_lt {f : Nat → List Nat} {w : List Nat} {n : Nat} (hn : n ≤ 6) : ∀ p, fd f w n 0 = some p → p < 1000 := fun p h => by have := (fd_ok _ _ _ h).2.1; omega
/-- the loop over the kinds -/
theorem h_om53 {T : Tp} {σ : Lx} {c np nt nw kd : Nat} {R : Nat → Nat → Nat} {N : Nat → Nat → List Nat} {se lo : Option (List Nat)} {w : List Nat} (ho : okE np nt nw R N se lo) (hkd : kd < 3) (hlt : cnt np nt nw kd < 6) (hw : lts w ∧ w.length ≤ 6) : ∀ (d i K : Nat) (S : Hp), i + d = 3 → d < K → dE S c np nt nw R N se lo → tR S T σ → S.1 10 7 = nI (enc w) →
    ∃ r S', f_X3_oneMore_53 K (nI kd) (nI (cnt np nt nw kd)) (nI i) S = some (r, S') ∧ fR c S S' ∧ (hasN ((np, nt, nw), R, N, se, lo) w d i = true → r = 0 ∧ wR S' (3, tS T σ)) ∧ (hasN ((np, nt, nw), R, N, se, lo) w d i = false → r = 1 ∧ tR S' T (nx T σ) ∧ dE S' c np nt nw R N se lo ∧ S'.1 (c + 3 + kd) (cnt np nt nw kd) = nI (enc w)) := by
  intro d
  induction d with
  | zero =>
    intro i K S hi hK h ht h7
    obtain ⟨K, rfl⟩ : ∃ q, K = q + 1 := ⟨K - 1, by omega⟩
    have hc := dE_c h
    obtain ⟨y1, y2⟩ := nmH hc hkd
    have f1 : fM (fun b k => b = c + 3 + kd ∧ k = cnt np nt nw kd) S (ho_sI S (c + 3 + kd) (cnt np nt nw kd) (nI (enc w))) := fM_sI _ ⟨rfl, rfl⟩
    have t1 : tR (ho_sI S (c + 3 + kd) (cnt np nt nw kd) (nI (enc w))) T σ := tR_f ht f1 (fun b k q => by omega)
    have d1 : dE (ho_sI S (c + 3 + kd) (cnt np nt nw kd) (nI (enc w))) c np nt nw R N se lo := by
      obtain ⟨a1, a2, a3, a4, a5, a6, a7, a8, a9, a10⟩ := h
      have g : ∀ x, (x < 3 ∨ 6 ≤ x) → (ho_sI S (c + 3 + kd) (cnt np nt nw kd) (nI (enc w))).1 (c + x) = S.1 (c + x) := fun x hx => sI_ne _ (by omega)
      have g0 : (ho_sI S (c + 3 + kd) (cnt np nt nw kd) (nI (enc w))).1 c = S.1 c := sI_ne _ (by omega)
      refine ⟨a1, ?_, ?_, ?_, ?_, ?_, fun k hk i hi => ?_, codH_f a8 (by rw [g 13 (by decide)]) (fun j => by rw [g 14 (by decide)]), codH_f a9 (by rw [g 16 (by decide)]) (fun j => by rw [g 17 (by decide)]), ?_⟩
      · rw [g 1 (by decide)]; exact a2
      · rw [g0]; exact a3
      · rw [g 6 (by decide), g 7 (by decide)]; exact a4
      · rw [g 8 (by decide), g 9 (by decide), g 10 (by decide)]; exact a5
      · rw [g 11 (by decide), g 12 (by decide)]; exact a6
      · by_cases e : k = kd
        · subst e
          rw [sI_k (by omega)]; exact a7 k hk i hi
        · rw [sI_ne _ (by omega)]; exact a7 k hk i hi
      · rw [sI_ne _ (by omega)]; exact a10
    obtain ⟨S', r1, r2, r3⟩ := h_next t1
    refine ⟨1, S', ?_, ?_, (fun q => by cases q), fun _ => ⟨rfl, r2, dE_t d1 (fM_mo r3 (fun b k q => n_t q)), ?_⟩⟩
    · rw [f_X3_oneMore_53, if_pos ((geL 3 (by omega) (by decide)).mpr (by omega)), ldP_n h.1.1 h.1.2, ldR_n hkd (by decide) y1 y2, stI_n hlt (by decide), h7, r1, ob_s]
    · exact fR_tr (fR_m f1 (fun b k q => by unfold rP; omega)) (fR_t (fM_mo r3 (fun b k q => n_t q)))
    · rw [r3.1 _ _ (by unfold nP; omega), sI_v]
  | succ d ih =>
    intro i K S hi hK h ht h7
    obtain ⟨K, rfl⟩ : ∃ q, K = q + 1 := ⟨K - 1, by omega⟩
    have hc := dE_c h
    have h16 := tS16 ht
    rw [f_X3_oneMore_53, if_neg (fun q => absurd ((geL 3 (by omega) (by decide)).mp q) (by omega)), ldP_n h.1.1 h.1.2, h7, h_nofF h ho (show i < 3 by omega) hw, ob2_s]
    have hm := opI_m (fd_lt (f := N i) (w := w) (cnt_in (k := i) ho.1))
    cases hf : fd (N i) w (cnt np nt nw i) 0 with
    | none =>
      rw [hf] at hm
      rw [if_pos (hm.mpr rfl), le1_e, nI_1]
      obtain ⟨r, S', a1, a2, a3, a4⟩ := ih (i + 1) K S (by omega) (by omega) h ht h7
      have e : hasN ((np, nt, nw), R, N, se, lo) w (d + 1) i = hasN ((np, nt, nw), R, N, se, lo) w d (i + 1) := by
        rw [hasN]
        show ((fd (N i) w (cnt np nt nw i) 0).isSome || _) = _
        rw [hf]
        rfl
      rw [e]
      exact ⟨r, S', a1, a2, a3, a4⟩
    | some p =>
      rw [hf] at hm
      rw [if_neg (fun q => by have := hm.mp q; cases this), ht.2.2.2.1]
      obtain ⟨S', a1, a2, a3⟩ := h_wrong (S := S) (k := 3) (p := tS T σ) (by decide) h16.1
      have e : hasN ((np, nt, nw), R, N, se, lo) w (d + 1) i = true := by
        rw [hasN]
        show ((fd (N i) w (cnt np nt nw i) 0).isSome || _) = _
        rw [hf]
        rfl
      refine ⟨0, S', ?_, fR_t (fM_mo a3 (fun b k q => w_t q)), fun _ => ⟨rfl, a2⟩, fun q => by rw [e] at q; cases q⟩
      rw [show (3 : Int32) = nI 3 from rfl, a1, ob2_s]
      exact tr0
theorem h_more {S : Hp} {T : Tp} {σ : Lx} {c np nt nw kd ms : Nat} {R : Nat → Nat → Nat} {N : Nat → Nat → List Nat} {se lo : Option (List Nat)} (h : dE S c np nt nw R N se lo) (ho : okE np nt nw R N se lo) (hkd : kd < 3) (hms : cnt np nt nw kd ≤ ms ∧ ms ≤ 6) (ht : tR S T σ) :
    ∃ r S', f_X3_oneMore (nI kd) (nI ms) S = some (r, S') ∧ fR c S S' ∧ (cnt np nt nw kd = ms → r = 0 ∧ wR S' (5, tS T σ)) ∧ (cnt np nt nw kd < ms → (∀ e, newN T ((np, nt, nw), R, N, se, lo) (nx T σ) = .error e → r = 0 ∧ wR S' e) ∧ (∀ w, newN T ((np, nt, nw), R, N, se, lo) (nx T σ) = .ok w → r = 1 ∧ tR S' T (nx T (nx T σ)) ∧ dE S' c np nt nw R N se lo ∧ S'.1 (c + 3 + kd) (cnt np nt nw kd) = nI (enc w))) := by
  have hc := dE_c h
  have h16 := tS16 ht
  unfold f_X3_oneMore
  rw [ldP_n h.1.1 h.1.2, ldI_n hkd (by decide), dE_n h hkd]
  by_cases e : cnt np nt nw kd < ms
  · rw [if_pos (nI_lt e (by omega))]
    obtain ⟨S1, a1, a2, a3⟩ := h_next ht
    have a3t : fM tP S S1 := fM_mo a3 (fun b k q => n_t q)
    have d1 := dE_t h a3t
    obtain ⟨r2, S2, b1, b2, b3, b4⟩ := h_name a2
    rw [a1, ob_s, b1, ob2_s]
    cases hn : nmT T (nx T σ) with
    | error x =>
      obtain ⟨c1, c2⟩ := b4 x hn
      refine ⟨0, S2, ?_, fR_tr (fR_t a3t) (fR_t b2), fun q => absurd q (by omega), fun _ => ⟨fun e2 he2 => ⟨rfl, ?_⟩, fun w hw => ?_⟩⟩
      · rw [if_pos c1]
      · unfold newN at he2
        rw [hn] at he2
        cases he2
        exact c2
      · unfold newN at hw
        rw [hn] at hw
        cases hw
    | ok w =>
      obtain ⟨c1, c2, c3, c4, c5, c6⟩ := b3 w hn
      subst c2
      obtain ⟨r, S', q1, q2, q3, q4⟩ := h_om53 (σ := nx T σ) ho hkd (show cnt np nt nw kd < 6 by omega) ⟨c4, c5⟩ 3 0 5000 S2 (by decide) (by decide) d1 a2 c3
      refine ⟨r, S', ?_, fR_tr (fR_t a3t) q2, fun q => absurd q (by omega), fun _ => ⟨fun e2 he2 => ?_, fun w' hw' => ?_⟩⟩
      · rw [c1, if_neg ne1]
        exact q1
      · unfold newN at he2
        rw [hn] at he2
        simp only at he2
        by_cases hx : hasN ((np, nt, nw), R, N, se, lo) w 3 0 = true
        · rw [if_pos hx] at he2
          cases he2
          exact q3 hx
        · rw [if_neg hx] at he2
          cases he2
      · unfold newN at hw'
        rw [hn] at hw'
        simp only at hw'
        by_cases hx : hasN ((np, nt, nw), R, N, se, lo) w 3 0 = true
        · rw [if_pos hx] at hw'
          cases hw'
        · rw [if_neg hx] at hw'
          cases hw'
          exact q4 (by simp at hx; exact hx)
  · rw [if_neg (nI_nlt (by omega) (by omega)), ht.2.2.2.1]
    obtain ⟨S', a1, a2, a3⟩ := h_wrong (S := S) (k := 5) (p := tS T σ) (by decide) h16.1
    refine ⟨0, S', ?_, fR_t (fM_mo a3 (fun b k q => w_t q)), fun _ => ⟨rfl, a2⟩, fun q => absurd q e⟩
    rw [show (5 : Int32) = nI 5 from rfl, a1, ob2_s]
    exact tr0

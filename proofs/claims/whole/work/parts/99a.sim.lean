/-! level 2: alike states -/
/-- years gone by -/
def yrN (C : Cr) (z : Nat → Nat) : Nat → Nat → Nat
  | 0 => z
  | n + 1 => yr C (yrN C z n)
theorem yrN_0 {C : Cr} {z : Nat → Nat} (hC : okCr C) : ∀ n, yrN C z n 0 = z 0 + n
  | 0 => rfl
  | n + 1 => by rw [yrN, yr_0 _ _ hC, yrN_0 hC n]; omega
theorem yrN_ok {C : Cr} {z : Nat → Nat} (hC : okCr C) (hz : okZ C z) : ∀ n, z 0 + n ≤ 999 → okZ C (yrN C z n)
  | 0, _ => hz
  | n + 1, h => yr_ok hC (yrN_ok hC hz n (by omega)) (by rw [yrN_0 hC]; omega)
/-- two shows, one behind the other: the best of those tried as yet (first, second, debt, belief) -/
abbrev Pr : Type := Option (Nat × Nat × Nat × Nat)
def prB (o : Pr) (d b : Nat) : Bool := match o with
  | none => true
  | some p => decide (d < p.2.2.1) || (decide (d = p.2.2.1) && decide (p.2.2.2 < b))
def prI (C : Cr) (z1 : Nat → Nat) (a : Nat) (o : Pr) : Nat → Pr
  | 0 => o
  | n + 1 => if n &&& shw C z1 = n ∧ prB (prI C z1 a o n) (gv C (rip C z1) n (sgT C (rip C z1)) 1) (gv C (rip C z1) n (sgT C (rip C z1)) 2) = true then some (a, n, gv C (rip C z1) n (sgT C (rip C z1)) 1, gv C (rip C z1) n (sgT C (rip C z1)) 2) else prI C z1 a o n
def prO (C : Cr) (z : Nat → Nat) : Nat → Pr
  | 0 => none
  | n + 1 => if n &&& shw C z = n then prI C (gv C (rip C z) n (sgT C (rip C z))) n (prO C z n) (2 ^ cT C) else prO C z n
/-- BOTH -/
def bth (C : Cr) (z : Nat → Nat) (i : Nat) : Nat := match prO C z (2 ^ cT C) with
  | none => 0
  | some p => if i = 0 then p.1 else if i = 1 then p.2.1 else if i = 2 then p.2.2.1 else p.2.2.2
abbrev Pa : Type := List ((Nat → Nat) × List Nat)
def h4 (S : Hp) (cr : Bool) (c : Nat) (C : Cr) (N : Nat → Nat → List Nat) : Prop :=
  S.1 0 13 = (if cr = true then 1 else 0) ∧ (S.2.2 0 1 = c ∧ S.2.2 0 2 = 250 - c ∧ S.2.2 50 0 = c ∧ (c = 100 ∨ c = 150)) ∧ (S.1 (c + 1) 0 = nI (cP C) ∧ S.1 (c + 1) 1 = nI (cT C) ∧ S.1 (c + 1) 2 = nI (cW C)) ∧ (cr = true → cH S c C) ∧ ∀ k, k < 3 → ∀ i, i < cnt (cP C) (cT C) (cW C) k → S.1 (c + 3 + k) i = nI (enc (N k i))
def h6 (S : Hp) (C : Cr) (P : Pa) : Prop := ∃ f, f < 20 ∧ S.1 0 14 = nI f ∧ S.1 0 15 = nI P.length ∧ ∀ i (h : i < P.length), stH S (1000 + 10 * ((f + i) % 20)) C P[i].1 ∧ kpH S (1000 + 10 * ((f + i) % 20)) P[i].2
def h7 (S : Hp) (rw : List (Nat × Nat)) : Prop := S.1 70 0 = nI rw.length ∧ ∀ i (h : i < rw.length), S.1 71 i = nI rw[i].1 ∧ S.1 72 i = nI rw[i].2
def h8 (S : Hp) (im : List Nat) : Prop := S.1 90 1 = nI im.length ∧ ∀ i (h : i < im.length), S.1 91 i = nI im[i]
def h10 (S : Hp) (cr : Bool) (C : Cr) (z : Nat → Nat) : Prop :=
  (S.1 60 14 = -1 ∨ (cr = true ∧ ∃ r, r ≤ 60 ∧ z 0 + r ≤ 999 ∧ S.1 60 14 = nI r ∧ stH S 1220 C (yrN C z r) ∧ (∃ kl', kpH S 1220 kl') ∧ ∀ i, i ≤ r → S.1 61 i = nI (yrN C z i 1) ∧ S.1 62 i = nI (yrN C z i 2) ∧ S.1 63 i = nI (thr (yrN C z i) (cT C)) ∧ S.1 64 i = nI (allS (yrN C z i) (cP C)))) ∧ (S.1 60 15 = 0 ∨ (S.1 60 15 = 1 ∧ cr = true ∧ z 0 + 2 ≤ 999 ∧ ∀ i, i < 4 → S.1 65 i = nI (bth C z i)))
abbrev Xv : Type := Tp × (Int32 × Int32) × (Nat → Int32) × List (Nat × Nat) × List Nat × Nat
def xT (X : Xv) : Tp := X.1
def xF (X : Xv) : Int32 × Int32 := X.2.1
def xR (X : Xv) : Nat → Int32 := X.2.2.1
def xW (X : Xv) : List (Nat × Nat) := X.2.2.2.1
def xI (X : Xv) : List Nat := X.2.2.2.2.1
def xS (X : Xv) : Nat := X.2.2.2.2.2
/-- the class, but for the state of now and the years ahead -/
def hA (S : Hp) (X : Xv) (cr : Bool) (c : Nat) (C : Cr) (N : Nat → Nat → List Nat) (P : Pa) : Prop :=
  tZ S (xT X) ∧ (S.1 10 2 = (xF X).1 ∧ S.1 10 3 = (xF X).2) ∧ (∀ k, k < 6 → S.1 1 k = xR X k) ∧ h4 S cr c C N ∧ h6 S C P ∧ h7 S (xW X) ∧ h8 S (xI X) ∧ S.1 0 16 = nI (xS X) ∧ fcG S 53 ∧ fcG S 33
def hN (S : Hp) (C : Cr) (z : Nat → Nat) (kl : List Nat) : Prop := stH S 1200 C z ∧ kpH S 1200 kl
def mRow (S : Hp) (b : Nat) (C : Cr) (z : Nat → Nat) (kl : List Nat) : Prop := (∀ k, k < 21 → S.1 72 (b + k) = nI (z k)) ∧ (∀ w, w < cW C → S.1 72 (b + (21 + w)) = nI (z (21 + w))) ∧ kpO kl ∧ S.1 72 (b + 26) = nI (kl.length / 3) ∧ ∀ j, j < kl.length → S.1 72 (b + (27 + j)) = nI (kl.getD j 0)
def m6 (S : Hp) (C : Cr) (P : Pa) : Prop := ∃ w, w < 20 ∧ S.1 0 73 = nI w ∧ S.1 0 72 = nI P.length ∧ ∀ i (h : i < P.length), mRow S (117 * ((w + 20 - (P.length - 1 - i)) % 20)) C P[i].1 P[i].2
def m7 (S : Hp) (rw : List (Nat × Nat)) : Prop := S.1 0 66 = nI rw.length ∧ ∀ i (h : i < rw.length), S.1 68 (3 * i) = nI rw[i].1 ∧ ∃ b1 b2, b1 < 256 ∧ b2 < 256 ∧ S.1 68 (3 * i + 1) = nI b1 ∧ S.1 68 (3 * i + 2) = nI b2 ∧ rw[i].2 = 256 * b1 + b2
def m8 (S : Hp) (im : List Nat) : Prop := S.1 0 110 = nI im.length ∧ ∀ i (h : i < im.length), S.1 110 i = nI im[i]
/-- the reference, but for the state of now -/
def mA (S : Hp) (X : Xv) (cr : Bool) (C : Cr) (N : Nat → Nat → List Nat) (P : Pa) : Prop :=
  (mT S (xT X) ∧ mWs S) ∧ (S.1 0 7 = (xF X).1 ∧ S.1 0 8 = (xF X).2) ∧ (∀ k, k < 6 → S.1 10 k = xR X k) ∧ (S.1 0 52 = (if cr = true then 1 else 0) ∧ mC S C ∧ mNm S (cP C) (cT C) (cW C) N) ∧ m6 S C P ∧ m7 S (xW X) ∧ m8 S (xI X) ∧ S.2.1 0 74 = lN (xS X)
def mN (S : Hp) (C : Cr) (z : Nat → Nat) (kl : List Nat) : Prop := mZ S C z ∧ mK S kl ∧ S.1 0 62 = 0
/-- what holds of the values -/
def okX (X : Xv) (cr : Bool) (C : Cr) (N : Nat → Nat → List Nat) (P : Pa) (z : Nat → Nat) : Prop :=
  (okCr C ∧ okZ C z) ∧ (P.length ≤ 20 ∧ ∀ p ∈ P, okZ C p.1) ∧ ((xW X).length ≤ 16 ∧ ∀ r ∈ xW X, r.1 < cP C ∧ r.2 < 65536) ∧ ((xI X).length ≤ 48 ∧ ∀ v ∈ xI X, v < 256) ∧ xS X < 2 ^ 31 ∧ (∀ k, k < 3 → ∀ i, i < cnt (cP C) (cT C) (cW C) k → nmO (N k i)) ∧ (cr = false → cP C = 0 ∧ cT C = 0 ∧ cW C = 0)
def Sim (SH SM : Hp) : Prop := ∃ (X : Xv) (cr : Bool) (c : Nat) (C : Cr) (N : Nat → Nat → List Nat) (P : Pa) (z : Nat → Nat) (kl : List Nat), okX X cr C N P z ∧ hA SH X cr c C N P ∧ hN SH C z kl ∧ h10 SH cr C z ∧ mA SM X cr C N P ∧ mN SM C z kl
/-- the cells that hA looks at -/
def hCl (c b : Nat) : Prop := b = 0 ∨ b = 1 ∨ b = 10 ∨ b = 11 ∨ b = 12 ∨ b = 33 ∨ b = 71 ∨ b = 72 ∨ b = 90 ∨ b = 91 ∨ crC c b ∨ (1000 ≤ b ∧ b < 1200)
theorem hA_f {Q : Nat → Prop} {S S' : Hp} {X : Xv} {cr : Bool} {c : Nat} {C : Cr} {N : Nat → Nat → List Nat} {P : Pa} (h : hA S X cr c C N P) (hf : fH Q S S') (hq : ∀ b, hCl c b → ¬ Q b) (h70 : S'.1 70 0 = S.1 70 0) : hA S' X cr c C N P := by
  obtain ⟨⟨t1, t2, t3, t4⟩, ⟨f1, f2⟩, r, ⟨c1, c2, c3, c4, c5⟩, ⟨f, p1, p2, p3, p4⟩, ⟨w1, w2⟩, ⟨i1, i2⟩, s, g1, g2⟩ := h
  have g : ∀ b, hCl c b → S'.1 b = S.1 b := fun b hb => hf.1 b (hq b hb)
  have e0 := g 0 (by unfold hCl; omega)
  have e1 := g 1 (by unfold hCl; omega)
  have e10 := g 10 (by unfold hCl; omega)
  have e11 := g 11 (by unfold hCl; omega)
  have e12 := g 12 (by unfold hCl; omega)
  have e33 := g 33 (by unfold hCl; omega)
  have e71 := g 71 (by unfold hCl; omega)
  have e72 := g 72 (by unfold hCl; omega)
  have e90 := g 90 (by unfold hCl; omega)
  have e91 := g 91 (by unfold hCl; omega)
  have hcc := c2.2.2.2
  have gc : ∀ b, crC c b → S'.1 b = S.1 b := fun b hb => g b (by unfold hCl; exact Or.inr (Or.inr (Or.inr (Or.inr (Or.inr (Or.inr (Or.inr (Or.inr (Or.inr (Or.inr (Or.inl hb)))))))))))
  have gp : ∀ b, 1000 ≤ b → b < 1200 → S'.1 b = S.1 b := fun b h1 h2 => g b (by unfold hCl; omega)
  refine ⟨⟨t1, by rw [e10]; exact t2, by rw [e11]; exact t3, by rw [e12]; exact t4⟩, by rw [e10]; exact ⟨f1, f2⟩, by rw [e1]; exact r, ⟨by rw [e0]; exact c1, by rw [hf.2.1]; exact c2, by rw [gc (c + 1) (by unfold crC; omega)]; exact c3, fun x => cH_f (c4 x) hf (fun b q x => hq b (Or.inr (Or.inr (Or.inr (Or.inr (Or.inr (Or.inr (Or.inr (Or.inr (Or.inr (Or.inr (Or.inl x))))))))))) q), fun k hk i hi => by rw [gc (c + 3 + k) (by unfold crC; omega)]; exact c5 k hk i hi⟩, ⟨f, p1, by rw [e0]; exact p2, by rw [e0]; exact p3, fun i hi => ?_⟩, ⟨by rw [h70]; exact w1, by rw [e71, e72]; exact w2⟩, ⟨by rw [e90]; exact i1, by rw [e91]; exact i2⟩, by rw [e0]; exact s, hf.2.2 g1, fun j hj => by rw [e33]; exact g2 j hj⟩
  obtain ⟨u1, u2⟩ := p4 i hi
  have hm : (f + i) % 20 < 20 := Nat.mod_lt _ (by decide)
  refine ⟨stH_f u1 hf (fun b q x => hq b (by unfold hCl; omega) q), kpH_f u2 hf (hq _ (by unfold hCl; omega)) (hq _ (by unfold hCl; omega))⟩
theorem h10_f {Q : Nat → Prop} {S S' : Hp} {cr : Bool} {C : Cr} {z : Nat → Nat} (h : h10 S cr C z) (hf : fH Q S S') (hq : ∀ b, (60 ≤ b ∧ b ≤ 65) ∨ (1220 ≤ b ∧ b ≤ 1225) → ¬ Q b) : h10 S' cr C z := by
  have e60 := hf.1 60 (hq 60 (by omega))
  have e61 := hf.1 61 (hq 61 (by omega))
  have e62 := hf.1 62 (hq 62 (by omega))
  have e63 := hf.1 63 (hq 63 (by omega))
  have e64 := hf.1 64 (hq 64 (by omega))
  have e65 := hf.1 65 (hq 65 (by omega))
  obtain ⟨a, b⟩ := h
  refine ⟨?_, by rw [e60, e65]; exact b⟩
  rcases a with a | ⟨a0, r, a1, a2, a3, a4, ⟨kl', a5⟩, a6⟩
  · exact Or.inl (by rw [e60]; exact a)
  · exact Or.inr ⟨a0, r, a1, a2, by rw [e60]; exact a3, stH_f a4 hf (fun b q x => hq b (by omega) q), ⟨kl', kpH_f a5 hf (hq _ (by omega)) (hq _ (by omega))⟩, by rw [e61, e62, e63, e64]; exact a6⟩
theorem hN_f {Q : Nat → Prop} {S S' : Hp} {C : Cr} {z : Nat → Nat} {kl : List Nat} (h : hN S C z kl) (hf : fH Q S S') (hq : ∀ b, 1200 ≤ b ∧ b ≤ 1205 → ¬ Q b) : hN S' C z kl := ⟨stH_f h.1 hf (fun b q x => hq b (by omega) q), kpH_f h.2 hf (hq _ (by omega)) (hq _ (by omega))⟩
/-- what the reference may write without mA noticing -/
def sM (b k : Nat) : Prop := (b = 0 ∧ (k = 2 ∨ k = 3 ∨ k = 4 ∨ k = 5 ∨ k = 6 ∨ k = 39 ∨ k = 50 ∨ k = 51 ∨ k = 53 ∨ k = 56 ∨ k = 57 ∨ k = 62 ∨ k = 63 ∨ k = 64 ∨ k = 70 ∨ (100 ≤ k ∧ k ≤ 108))) ∨ (55 ≤ b ∧ b ≤ 62) ∨ b = 66 ∨ b = 69 ∨ b = 70 ∨ (100 ≤ b ∧ b ≤ 107)
theorem mA_f {Q : Nat → Nat → Prop} {S S' : Hp} {X : Xv} {cr : Bool} {C : Cr} {N : Nat → Nat → List Nat} {P : Pa} (h : mA S X cr C N P) (hf : fN Q S S') (hq : ∀ b k, Q b k → sM b k) : mA S' X cr C N P := by
  obtain ⟨⟨⟨t1, t2, t3⟩, tw⟩, ⟨f1, f2⟩, r, ⟨c1, c2, c3⟩, ⟨w, p1, p2, p3, p4⟩, ⟨w1, w2⟩, ⟨i1, i2⟩, s⟩ := h
  have g : ∀ b k, ¬ sM b k → S'.1 b k = S.1 b k := fun b k hb => hf.1 b k (fun q => hb (hq b k q))
  have g72 : ∀ k, S'.1 72 k = S.1 72 k := fun k => g 72 k (by unfold sM; omega)
  have g68 : ∀ k, S'.1 68 k = S.1 68 k := fun k => g 68 k (by unfold sM; omega)
  refine ⟨⟨⟨t1, by rw [g 0 1 (by unfold sM; omega)]; exact t2, fun i hi => by rw [g 1 i (by unfold sM; omega)]; exact t3 i hi⟩, mWs_hi tw (fun b k q => g b k (by unfold sM; omega))⟩, ⟨by rw [g 0 7 (by unfold sM; omega)]; exact f1, by rw [g 0 8 (by unfold sM; omega)]; exact f2⟩, fun k hk => by rw [g 10 k (by unfold sM; omega)]; exact r k hk, ⟨by rw [g 0 52 (by unfold sM; omega)]; exact c1, mC_f c2 hf (fun b k q => by have := hq b k q; unfold sM at this; unfold crM; omega), fun k hk i hi => by rw [hf.2.1 42 (by decide)]; exact c3 k hk i hi⟩, ⟨w, p1, by rw [g 0 73 (by unfold sM; omega)]; exact p2, by rw [g 0 72 (by unfold sM; omega)]; exact p3, fun i hi => ?_⟩, ⟨by rw [g 0 66 (by unfold sM; omega)]; exact w1, fun i hi => ?_⟩, ⟨by rw [g 0 110 (by unfold sM; omega)]; exact i1, fun i hi => by rw [g 110 i (by unfold sM; omega)]; exact i2 i hi⟩, by rw [hf.2.1 0 (by decide)]; exact s⟩
  · obtain ⟨u1, u2, u3, u4, u5⟩ := p4 i hi
    exact ⟨fun k hk => by rw [g72]; exact u1 k hk, fun k hk => by rw [g72]; exact u2 k hk, u3, by rw [g72]; exact u4, fun j hj => by rw [g72]; exact u5 j hj⟩
  · rw [g68, g68, g68]; exact w2 i hi
theorem mN_f {Q : Nat → Nat → Prop} {S S' : Hp} {C : Cr} {z : Nat → Nat} {kl : List Nat} (h : mN S C z kl) (hf : fN Q S S') (hq : ∀ b k, Q b k → b ≠ 55 ∧ ¬ (b = 0 ∧ k = 62)) : mN S' C z kl := ⟨mZ_f h.1 hf (fun b k q => (hq b k q).1), mK_f h.2.1 hf (fun b k q => Or.inl (hq b k q).1), by rw [hf.1 0 62 (fun q => (hq _ _ q).2 ⟨rfl, rfl⟩)]; exact h.2.2⟩

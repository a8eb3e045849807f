/-! level 2: alike answers: a new crown, in all -/
theorem sP_v (S : Hp) {a k v : Nat} : (ho_sP S a k v).2.2 a k = v := by
  show (if a = a then va_up (S.2.2 a) k v else S.2.2 a) k = v
  rw [if_pos rfl]
  exact if_pos rfl
theorem sP_n (S : Hp) {a k v b j : Nat} (h : ¬ (b = a ∧ j = k)) : (ho_sP S a k v).2.2 b j = S.2.2 b j := by
  show (if b = a then va_up (S.2.2 a) k v else S.2.2 b) j = S.2.2 b j
  by_cases q : b = a
  · subst q
    rw [if_pos rfl]
    exact if_neg (fun x => h ⟨rfl, x⟩)
  · rw [if_neg q]
theorem cH_ptr {F : Nat → Nat → Int32} {A B : (Nat → Nat → Int64) × (Nat → Nat → Nat)} {c : Nat} {C : Cr} (h : cH (F, A) c C) (p : B.2 50 0 = c) : cH (F, B) c C := ⟨⟨p, h.1.2⟩, h.2⟩
theorem hA_ptr {F : Nat → Nat → Int32} {A B : (Nat → Nat → Int64) × (Nat → Nat → Nat)} {X : Xv} {cr : Bool} {c : Nat} {C : Cr} {N : Nat → Nat → List Nat} {P : Pa} (h : hA (F, A) X cr c C N P) (p : B.2 0 1 = A.2 0 1 ∧ B.2 0 2 = A.2 0 2 ∧ B.2 50 0 = A.2 50 0) : hA (F, B) X cr c C N P := by
  obtain ⟨t, fl, r, ⟨c1, ⟨c2, c3, c4, c5⟩, c6, c7, c8⟩, h6, h7, h8, sd, g1, g2⟩ := h
  exact ⟨t, fl, r, ⟨c1, ⟨p.1.trans c2, p.2.1.trans c3, p.2.2.trans c4, c5⟩, c6, fun q => cH_ptr (c7 q) (p.2.2.trans c4), c8⟩, h6, h7, h8, sd, g1, g2⟩
def Xe (X : Xv) (e : Int32 × Int32) : Xv := (((xT X).1, 0), e, X.2.2)
def rdC (c b : Nat) : Prop := b = 10 ∨ b = 20 ∨ b = 25 ∨ (250 - c ≤ b ∧ b ≤ 250 - c + 18)
theorem h_crE {S : Hp} {X : Xv} {cr : Bool} {c : Nat} {C : Cr} {N : Nat → Nat → List Nat} {P : Pa} {z : Nat → Nat} {kl : List Nat} {e : Nat × Nat} (a : hA S X cr c C N P) (b : hN S C z kl) (d : h10 S cr C z) (he : crT (xT X) = .error e) : ∃ S3, f_X11_crown S = some (-1, ho_sI S3 1 1 (S3.1 1 1 + 1)) ∧ hA S3 (Xe X (nI e.1, nI e.2)) cr c C N P ∧ hN S3 C z kl ∧ h10 S3 cr C z := by
  obtain ⟨c1, ⟨c2, c3, c4, c5⟩, c6⟩ := a.2.2.2.1
  have hc' : 250 - c = 100 ∨ 250 - c = 150 := by omega
  obtain ⟨r, S2, r1, r2, -, r4⟩ := h_readInto a.1 (crH hc')
  obtain ⟨rfl, w⟩ := r4 e he
  obtain ⟨S3, hS3⟩ : ∃ S3, S3 = ho_sI S2 10 1 (0 : Int32) := ⟨_, rfl⟩
  have g : ∀ b, ¬ rdC c b → S3.1 b = S.1 b := fun b hb => by
    unfold rdC at hb
    rw [hS3, sI_ne _ (by omega)]
    exact funext (fun k => r2.1 b k (by unfold rP; omega))
  have fh : fH (rdC c) S (S3.1, S.2) := ⟨g, rfl, fun q j hj => by
    show inM (S3.1 53 j).toInt
    rw [g 53 (by unfold rdC; omega)]; exact q j hj⟩
  have a' := a
  obtain ⟨⟨t1, t2, t3, t4⟩, fl, rr, -, -, w7, im, sd, -, -⟩ := a'
  have hx : hA (S3.1, S.2) (Xe X (nI e.1, nI e.2)) cr c C N P := by
    refine hA_x a fh (fun b q x => ?_) (fun k hk => by rw [show (S3.1, S.2).1 = S3.1 from rfl, g 0 (by unfold rdC; omega)]) ⟨by show 0 ≤ 1600; omega, ?_, fun i hi => absurd hi (Nat.not_lt_zero i), ?_⟩ ?_ ?_ ⟨?_, ?_⟩ ⟨?_, ?_⟩ ?_
    · unfold rdC at x; unfold crC at q; omega
    · show S3.1 10 1 = nI 0
      rw [hS3, sI_v]; rfl
    · show ∀ i, i < 35 → S3.1 12 i = _
      rw [g 12 (by unfold rdC; omega)]; exact t4
    · show S3.1 10 2 = nI e.1 ∧ S3.1 10 3 = nI e.2
      rw [hS3, sI_k (by decide), sI_k (by decide)]; exact w.2
    · show ∀ k, k < 6 → S3.1 1 k = _
      rw [g 1 (by unfold rdC; omega)]; exact rr
    · show S3.1 70 0 = _
      rw [g 70 (by unfold rdC; omega)]; exact w7.1
    · show ∀ i (h : i < (xW X).length), S3.1 71 i = nI (xW X)[i].1 ∧ S3.1 72 i = nI (xW X)[i].2
      rw [g 71 (by unfold rdC; omega), g 72 (by unfold rdC; omega)]; exact w7.2
    · show S3.1 90 1 = _
      rw [g 90 (by unfold rdC; omega)]; exact im.1
    · show ∀ i (h : i < (xI X).length), S3.1 91 i = nI (xI X)[i]
      rw [g 91 (by unfold rdC; omega)]; exact im.2
    · show S3.1 0 16 = _
      rw [g 0 (by unfold rdC; omega)]; exact sd
  have n1 : hN (S3.1, S.2) C z kl := hN_f b fh (fun b q x => by unfold rdC at x; omega)
  have n2 : h10 (S3.1, S.2) cr C z := h10_f d fh (fun b q x => by unfold rdC at x; omega)
  have pp : ∀ b k, ¬ (b = 25 ∧ k = 1) → ¬ (b = 20 ∧ k = 2) → S3.2.2 b k = S.2.2 b k := fun b k h1 h2 => by rw [hS3]; exact r2.2.2 b k h1 h2
  refine ⟨S3, ?_, hA_ptr (F := S3.1) (A := S.2) (B := S3.2) hx ⟨pp 0 1 (by omega) (by omega), pp 0 2 (by omega) (by omega), pp 50 0 (by omega) (by omega)⟩, n1, n2⟩
  unfold f_X11_crown
  rw [ldP_n c3 (crH hc'), r1, ob2_s, le1_e, if_pos rfl, ← hS3, show f_X11_refuse (1 : Int32) S3 = _ from h_refuse (j := 1) (by decide), ob2_s]
theorem dD_f {S S' : Hp} {c : Nat} {D : Dr} (h : dD S c D) (g : ∀ b, c ≤ b → b ≤ c + 18 → S'.1 b = S.1 b) (g20 : S'.1 20 3 = S.1 20 3) (p : S'.2.2 20 2 = S.2.2 20 2) : dD S' c D := by
  obtain ⟨⟨np, nt, nw⟩, R, N, se, lo⟩ := D
  have h' : dE S c np nt nw R N se lo := h
  obtain ⟨d1, d2, d3, d5, d6, d7, d8, d9, d10, d11⟩ := h'
  show dE S' c np nt nw R N se lo
  refine ⟨⟨p.trans d1.1, d1.2⟩, by rw [g (c + 1) (by omega) (by omega)]; exact d2, by rw [g c (by omega) (by omega)]; exact d3, by rw [g (c + 6) (by omega) (by omega), g (c + 7) (by omega) (by omega)]; exact d5, by rw [g (c + 8) (by omega) (by omega), g (c + 9) (by omega) (by omega), g (c + 10) (by omega) (by omega)]; exact d6, by rw [g (c + 11) (by omega) (by omega), g (c + 12) (by omega) (by omega)]; exact d7, fun k hk i hi => by rw [g (c + 3 + k) (by omega) (by omega)]; exact d8 k hk i hi, codH_f d9 (by rw [g (c + 13) (by omega) (by omega)]) (fun j => by rw [g (c + 13 + 1) (by omega) (by omega)]), codH_f d10 (by rw [g (c + 16) (by omega) (by omega)]) (fun j => by rw [g (c + 16 + 1) (by omega) (by omega)]), g20.trans d11⟩
theorem dD_cH {S : Hp} {c : Nat} {D : Dr} (h : dD S c D) (hp : S.2.2 50 0 = c) (h53 : fcG S 53) : cH S c (crO D) := by
  obtain ⟨⟨np, nt, nw⟩, R, N, se, lo⟩ := D
  have h' : dE S c np nt nw R N se lo := h
  obtain ⟨d1, d2, d3, d5, d6, d7, d8, d9, d10, d11⟩ := h'
  exact ⟨⟨hp, d1.2⟩, d2, ⟨d3.1, d3.2.2.1, d3.2.2.2.2⟩, fun p hp => (d5 p hp).2, d6, fun w hw => (d7 w hw).2, d9, d10, h53⟩
def Xn (X : Xv) : Xv := (((xT X).1, 0), (0, -1), X.2.2.1, [], X.2.2.2.2)
theorem h_crO {S : Hp} {X : Xv} {cr : Bool} {c n1 : Nat} {C : Cr} {N : Nat → Nat → List Nat} {P : Pa} {D : Dr} (a : hA S X cr c C N P) (he : crT (xT X) = .ok (D, n1)) : okD D ∧ ∃ S', f_X11_crown S = some (nI n1, S') ∧ hA S' (Xn X) true (250 - c) (crO D) D.2.2.1 [] ∧ hN S' (crO D) (z0 D) [] ∧ S'.1 60 14 = -1 ∧ S'.1 60 15 = 0 := by
  obtain ⟨c1, ⟨c2, c3, c4, c5⟩, c6⟩ := a.2.2.2.1
  have hc' : 250 - c = 100 ∨ 250 - c = 150 := by omega
  obtain ⟨r, S2, r1, r2, r3, -⟩ := h_readInto a.1 (crH hc')
  obtain ⟨rfl, dd, od, v20, v2, v3, hn1⟩ := r3 D n1 he
  refine ⟨od, ?_⟩
  obtain ⟨S3, hS3⟩ : ∃ S3, S3 = ho_sI S2 10 1 (0 : Int32) := ⟨_, rfl⟩
  obtain ⟨S7, hS7⟩ : ∃ S7, S7 = ho_sP (ho_sP S3 0 1 (250 - c)) 0 2 c := ⟨_, rfl⟩
  obtain ⟨S8, hS8⟩ : ∃ S8, S8 = ho_sI S7 0 13 (1 : Int32) := ⟨_, rfl⟩
  obtain ⟨S10, hS10⟩ : ∃ S10, S10 = ho_sP S8 50 0 (250 - c) := ⟨_, rfl⟩
  have p3 : ∀ b k, ¬ (b = 25 ∧ k = 1) → ¬ (b = 20 ∧ k = 2) → S3.2.2 b k = S.2.2 b k := fun b k h1 h2 => by rw [hS3]; exact r2.2.2 b k h1 h2
  have p8 : S8.2.2 0 1 = 250 - c := by
    rw [hS8]
    show S7.2.2 0 1 = _
    rw [hS7, sP_n _ (by omega), sP_v]
  have p81 : S8.2.2 0 2 = c := by
    rw [hS8]
    show S7.2.2 0 2 = _
    rw [hS7, sP_v]
  have q1 : S10.2.2 0 1 = 250 - c := by rw [hS10, sP_n _ (by omega)]; exact p8
  have q2 : S10.2.2 0 2 = c := by rw [hS10, sP_n _ (by omega)]; exact p81
  have q3 : S10.2.2 50 0 = 250 - c := by rw [hS10, sP_v]
  have q4 : S10.2.2 20 2 = S2.2.2 20 2 := by
    rw [hS10, sP_n _ (by omega), hS8]
    show S7.2.2 20 2 = _
    rw [hS7, sP_n _ (by omega), sP_n _ (by omega), hS3]; rfl
  have i10 : ∀ b k, ¬ (b = 10 ∧ k = 1) → ¬ (b = 0 ∧ k = 13) → S10.1 b k = S2.1 b k := fun b k h1 h2 => by
    rw [hS10]
    show S8.1 b k = _
    rw [hS8]
    by_cases e0 : b = 0
    · subst e0
      rw [sI_k (fun q => h2 ⟨rfl, q⟩), hS7]
      show S3.1 0 k = _
      rw [hS3, sI_ne _ (by decide)]
    · rw [sI_ne _ e0, hS7]
      show S3.1 b k = _
      rw [hS3]
      by_cases e1 : b = 10
      · subst e1; rw [sI_k (fun q => h1 ⟨rfl, q⟩)]
      · rw [sI_ne _ e1]
  have d10 : dD S10 (250 - c) D := dD_f dd (fun b h1 h2 => funext (fun k => i10 b k (by omega) (by omega))) (i10 20 3 (by omega) (by omega)) q4
  obtain ⟨S12, u1, u2, u3, u4⟩ := h_start d10 od
  obtain ⟨S14, hS14⟩ : ∃ S14, S14 = ho_sI (ho_sI (ho_sI (ho_sI (ho_sI S12 70 0 (0 : Int32)) 0 14 (0 : Int32)) 0 15 (0 : Int32)) 60 14 (-1 : Int32)) 60 15 (0 : Int32) := ⟨_, rfl⟩
  have f14 : fH (fun b => b = 70 ∨ b = 0 ∨ b = 60) S12 S14 := by
    rw [hS14]
    exact fH_tr (fH_sI _ (Or.inl rfl) (by decide)) (fH_tr (fH_sI _ (Or.inr (Or.inl rfl)) (by decide)) (fH_tr (fH_sI _ (Or.inr (Or.inl rfl)) (by decide)) (fH_tr (fH_sI _ (Or.inr (Or.inr rfl)) (by decide)) (fH_sI _ (Or.inr (Or.inr rfl)) (by decide)))))
  have e14 : ∀ b k, ¬ (1200 ≤ b ∧ b ≤ 1204) → b ≠ 70 → b ≠ 0 → b ≠ 60 → ¬ (b = 10 ∧ k = 1) → S14.1 b k = S2.1 b k := fun b k h1 h2 h3 h4 h5 => by
    rw [f14.1 b (by first | decide | (dsimp only; omega) | omega), u4.1 b h1]
    exact i10 b k h5 (by omega)
  have z14 : ∀ k, k ≠ 13 → k ≠ 14 → k ≠ 15 → S14.1 0 k = S2.1 0 k := fun k h1 h2 h3 => by
    rw [hS14, sI_ne _ (by decide), sI_ne _ (by decide), sI_k h3, sI_k h2, sI_ne _ (by decide), u4.1 0 (by first | decide | (dsimp only; omega) | omega)]
    exact i10 0 k (by omega) (by omega)
  have s14 : ∀ b k, ¬ rdC c b → ¬ (1200 ≤ b ∧ b ≤ 1204) → b ≠ 70 → b ≠ 0 → b ≠ 60 → S14.1 b k = S.1 b k := fun b k h0 h1 h2 h3 h4 => by
    unfold rdC at h0
    rw [e14 b k h1 h2 h3 h4 (by omega)]
    exact r2.1 b k (by unfold rP; omega)
  have pt : S14.2 = S10.2 := by rw [f14.2.1, u4.2.1]
  have pq : S14.2.2 = S10.2.2 := by rw [pt]
  have a' := a
  obtain ⟨⟨t1, t2, t3, t4⟩, fl, rr, -, -, w7, im, sd, g53, g33⟩ := a'
  have d14 : dD S14 (250 - c) D := dD_f dd (fun b h1 h2 => funext (fun k => e14 b k (by omega) (by omega) (by omega) (by omega) (by omega))) (e14 20 3 (by omega) (by omega) (by omega) (by omega) (by omega)) (by rw [pq]; exact q4)
  have k53 : fcG S14 53 := fun j hj => by rw [s14 53 j (by unfold rdC; omega) (by omega) (by omega) (by omega) (by omega)]; exact g53 j hj
  have ch := dD_cH d14 (by rw [pq]; exact q3) k53
  have nn : ∀ k, k < 3 → ∀ i, i < cnt (cP (crO D)) (cT (crO D)) (cW (crO D)) k → S14.1 (250 - c + 3 + k) i = nI (enc (D.2.2.1 k i)) := d14.2.2.2.2.2.2.1
  refine ⟨S14, ?_, ⟨⟨by show 0 ≤ 1600; omega, ?_, fun i hi => absurd hi (Nat.not_lt_zero i), ?_⟩, ⟨?_, ?_⟩, fun k hk => ?_, ⟨?_, ⟨?_, ?_, ?_, hc'⟩, ch.2.1, fun _ => ch, nn⟩, ⟨0, by omega, ?_, ?_, fun i hi => absurd hi (Nat.not_lt_zero i)⟩, ⟨?_, fun i hi => absurd hi (Nat.not_lt_zero i)⟩, ⟨?_, fun i hi => ?_⟩, ?_, k53, fun j hj => ?_⟩, ⟨stH_f u2 f14 (fun b q x => by omega), kpH_f u3 f14 (by first | decide | (dsimp only; omega) | omega) (by first | decide | (dsimp only; omega) | omega)⟩, ?_, ?_⟩
  · unfold f_X11_crown f_X11_forgetPast
    rw [ldP_n c3 (crH hc'), r1, ob2_s, le1_e, if_neg ne1, ← hS3, ldP_n (show S3.2.2 0 1 = c by rw [p3 0 1 (by omega) (by omega)]; exact c2) (crH c5), ldP_n (show S3.2.2 0 2 = 250 - c by rw [p3 0 2 (by omega) (by omega)]; exact c3) (crH hc'), le1_e, le1_e, ← hS7, le1_e, ← hS8, ldP_n p8 (crH hc'), le1_e, ← hS10, ldP_n q1 (crH hc'), u1, ob_s, le1_e, le1_e, le1_e, h_forget, ob_s, ob_s, ← hS14, e14 20 4 (by omega) (by omega) (by omega) (by omega) (by omega), v20]
  · show S14.1 10 1 = nI 0
    rw [f14.1 10 (by first | decide | (dsimp only; omega) | omega), u4.1 10 (by first | decide | (dsimp only; omega) | omega), hS10]
    show S8.1 10 1 = nI 0
    rw [hS8, sI_ne _ (by decide), hS7]
    show S3.1 10 1 = nI 0
    rw [hS3, sI_v]; rfl
  · intro i hi
    rw [s14 12 i (by unfold rdC; omega) (by omega) (by omega) (by omega) (by omega)]; exact t4 i hi
  · show S14.1 10 2 = 0
    rw [e14 10 2 (by omega) (by omega) (by omega) (by omega) (by omega)]; exact v2
  · show S14.1 10 3 = -1
    rw [e14 10 3 (by omega) (by omega) (by omega) (by omega) (by omega)]; exact v3
  · rw [s14 1 k (by unfold rdC; omega) (by omega) (by omega) (by omega) (by omega)]; exact rr k hk
  · rw [if_pos rfl, hS14, sI_ne _ (by decide), sI_ne _ (by decide), sI_k (by decide), sI_k (by decide), sI_ne _ (by decide), u4.1 0 (by first | decide | (dsimp only; omega) | omega), hS10]
    show S8.1 0 13 = 1
    rw [hS8, sI_v]
  · rw [pq]; exact q1
  · rw [pq, show 250 - (250 - c) = c by omega]; exact q2
  · rw [pq]; exact q3
  · rw [hS14, sI_ne _ (by decide), sI_ne _ (by decide), sI_k (by decide), sI_v]; rfl
  · rw [hS14, sI_ne _ (by decide), sI_ne _ (by decide), sI_v]; rfl
  · show S14.1 70 0 = nI 0
    rw [hS14, sI_ne _ (by decide), sI_ne _ (by decide), sI_ne _ (by decide), sI_ne _ (by decide), sI_v]; rfl
  · rw [s14 90 1 (by unfold rdC; omega) (by omega) (by omega) (by omega) (by omega)]; exact im.1
  · rw [s14 91 i (by unfold rdC; omega) (by omega) (by omega) (by omega) (by omega)]; exact im.2 i hi
  · rw [z14 16 (by decide) (by decide) (by decide), r2.1 0 16 (by unfold rP; omega)]; exact sd
  · rw [s14 33 j (by unfold rdC; omega) (by omega) (by omega) (by omega) (by omega)]; exact g33 j hj
  · rw [hS14, sI_k (by decide), sI_v]
  · rw [hS14, sI_v]

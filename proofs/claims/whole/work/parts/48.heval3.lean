/-! level 2: all codes reckoned, sums and tests, with the height of the stack looked at; the class's loop -/
def psh (a : Int) (st : List Int) : Option (List Int) := if st.length < 64 then some (a :: st) else none
def unA (f : Int → Option Int) : List Int → Option (List Int)
  | a :: r => ob (f a) (fun v => some (v :: r))
  | [] => none
def jnA (c : Nat) : List Int → Option (List Int)
  | b :: a :: r => if c < 10 ∨ ((a = 0 ∨ a = 1) ∧ (b = 0 ∨ b = 1)) then some (opv c a b :: r) else none
  | _ => none
def stA (pf : Nat → Int) (qf : Int → Int) (c : Nat) (st : List Int) : Option (List Int) :=
  if 1000 ≤ c then psh ((c : Int) - 1000) st else if 60 ≤ c then unA (fun a => some (qf a)) st else if 40 ≤ c then psh (pf (c - 40)) st else if c = 13 then psh 1 st else if c = 12 then unA (fun a => if a = 0 ∨ a = 1 then some (1 - a) else none) st else jnA c st
def evA (pf : Nat → Int) (qf : Int → Int) : List Nat → List Int → Option (List Int)
  | [], st => some st
  | c :: cs, st => ob (stA pf qf c st) (evA pf qf cs)
/-- codes that a text can give -/
def okA (c : Nat) : Prop := (1000 ≤ c ∧ c < 11000) ∨ c = 60 ∨ (40 ≤ c ∧ c < 51) ∨ (1 ≤ c ∧ c < 14)
/-- the class's stack: its places from the lowest on -/
def stkR (g : Nat → Int32) (st : List Int) : Prop := ∀ i (h : i < st.length), g i = iI (st[i])
def pfH (S : Hp) (w k : Nat) : Int := (S.1 w (wrd k)).toInt
def qfH (S : Hp) (w : Nat) (a : Int) : Int := if 0 ≤ a ∧ a < 5 then (S.1 w (35 + a.toNat)).toInt else 0
theorem iI_of (x : Int32) : iI x.toInt = x := Int32.ofInt_toInt x
theorem iI_nI (n : Nat) : iI (n : Int) = nI n := Int32.ofInt_eq_ofNat
theorem h_fact {S : Hp} {w j : Nat} (hj : j < 40) : f_X4_factAt w 40 (nI j) S = some (S.1 w j, S) := by
  unfold f_X4_factAt
  rw [if_neg (nI_pos (by omega)), if_pos (show nI j < Int32.ofNat 40 from nI_lt hj (by decide)), ldI_n hj (by decide)]
theorem wrd_lt (k : Nat) : wrd k < 40 := by
  unfold wrd
  rcases Nat.lt_or_ge k 11 with h | h
  · have : ∀ k, k < 11 → [8, 16, 17, 10, 11, 6, 14, 18, 19, 20, 21].getD k 0 < 40 := by decide
    exact this k h
  · rw [List.getD_eq_getElem?_getD, List.getElem?_eq_none (by simpa using h)]
    decide
theorem h_not {S : Hp} {w : Nat} {a : Int} (ha : a = 0 ∨ a = 1) : f_X4_single (nI 10111) (iI a) w 40 S = some (iI (1 - a), S) := by
  unfold f_X4_single
  rw [if_pos (by decide)]
  rcases ha with rfl | rfl
  · rw [if_pos (by decide)]; rfl
  · rw [if_neg (by decide)]; rfl
theorem h_seen {S : Hp} {w : Nat} {a : Int} (ha : inM a) : f_X4_single (nI 10112) (iI a) w 40 S = some (iI (qfH S w a), S) := by
  have ht := iI_t ha
  have z0 : (0 : Int32).toInt = 0 := by decide
  have z5 : (5 : Int32).toInt = 5 := by decide
  unfold f_X4_single qfH f_X4_single_26
  rw [if_neg (by decide)]
  by_cases g : 0 ≤ a
  · rw [if_neg (by rw [Int32.lt_iff_toInt_lt, ht, z0]; omega)]
    by_cases g2 : a < 5
    · rw [if_pos (by rw [Int32.lt_iff_toInt_lt, ht, z5]; exact g2), if_pos ⟨g, g2⟩]
      obtain ⟨n, rfl⟩ : ∃ n : Nat, a = n := ⟨a.toNat, by omega⟩
      rw [iI_nI, lit_nI 35, nI_add, h_fact (by omega), ob2_s, iI_of]
      rfl
    · rw [if_neg (by rw [Int32.lt_iff_toInt_lt, ht, z5]; exact g2), if_neg (fun q => g2 q.2)]
      rfl
  · rw [if_pos (by rw [Int32.lt_iff_toInt_lt, ht, z0]; omega), if_neg (fun q => g q.1)]
    rfl
theorem stk_push {g : Nat → Int32} {st : List Int} {a : Int} (h : stkR g st.reverse) : stkR (upd g st.length (iI a)) (a :: st).reverse := by
  intro i hi
  simp only [List.reverse_cons] at hi ⊢
  rw [List.length_append, List.length_reverse] at hi
  by_cases e : i = st.length
  · subst e
    rw [pk_us]
    congr 1
    rw [List.getElem_append_right (by simp)]
    simp
  · have hlt : i < st.reverse.length := by rw [List.length_reverse]; simp at hi; omega
    rw [pk_un e, h i hlt, List.getElem_append_left hlt]
theorem stk_pop {g : Nat → Int32} {st : List Int} {a : Int} (h : stkR g (a :: st).reverse) : stkR g st.reverse ∧ g st.length = iI a := by
  constructor
  · intro i hi
    have hi2 : i < (a :: st).reverse.length := by rw [List.reverse_cons, List.length_append]; omega
    have h1 := h i hi2
    simp only [List.reverse_cons] at h1
    rw [h1, List.getElem_append_left hi]
  · have hi2 : st.length < (a :: st).reverse.length := by simp
    have h1 := h st.length hi2
    rw [h1]
    congr 1
    simp only [List.reverse_cons]
    rw [List.getElem_append_right (by simp)]
    simp
/-- the codes of a formula, in the class: at a, its row, its length -/
def codH (S : Hp) (a : Nat) (cs : List Nat) : Prop := cs.length ≤ 1600 ∧ S.1 a 2 = nI cs.length ∧ (∀ j (h : j < cs.length), S.1 (a + 1) j = nI (hcd cs[j])) ∧ ∀ c ∈ cs, okA c
theorem hcd_num {c : Nat} (h : 1000 ≤ c) : hcd c = c - 1000 := by unfold hcd; rw [if_pos h]
theorem hcd_seen {c : Nat} (h : c = 60) : hcd c = 10112 := by subst h; rfl
theorem hcd_part {c : Nat} (h : 40 ≤ c ∧ c < 51) : hcd c = 10000 + wrd (c - 40) := by unfold hcd; rw [if_neg (by omega), if_neg (by omega), if_pos h.1]
theorem hcd_op {c : Nat} (h : 1 ≤ c ∧ c < 12) : 10100 ≤ hcd c ∧ hcd c < 10111 := by
  have : ∀ c, c < 12 → 1 ≤ c → (10100 ≤ hcd c ∧ hcd c < 10111) := by decide
  exact this c h.2 h.1
theorem h_val_loop {a w : Nat} (hw : w ≠ a + 2) {S : Hp} {all : List Nat} (hc : codH S a all) (hpf : ∀ k, inM (pfH S w k)) (hqf : ∀ x, inM (qfH S w x)) : ∀ (cs : List Nat) (i k : Nat) (g : Nat → Int32) (st : List Int) (v : Int), all.drop i = cs → i + cs.length = all.length → stkR g st.reverse → (∀ x ∈ st, inM x) → st.length ≤ 64 → cs.length < k → evA (pfH S w) (qfH S w) cs st = some [v] →
    ∃ g', f_X4_value_4 a w 40 k (nI st.length) (nI i) (ho_sA S (a + 2) g) = some (iI v, ho_sA S (a + 2) g') := by
  obtain ⟨hl, hlen, hcs, hok⟩ := hc
  have ea : ∀ g, (ho_sA S (a + 2) g).1 a = S.1 a := fun g => sA_ne _ _ (by omega)
  have ea1 : ∀ g, (ho_sA S (a + 2) g).1 (a + 1) = S.1 (a + 1) := fun g => sA_ne _ _ (by omega)
  have ew : ∀ g, (ho_sA S (a + 2) g).1 w = S.1 w := fun g => sA_ne _ _ hw
  intro cs
  induction cs with
  | nil =>
    intro i k g st v hd hi hs hin hst hk hev
    obtain ⟨k, rfl⟩ : ∃ q, k = q + 1 := ⟨k - 1, by omega⟩
    simp only [evA, Option.some.injEq] at hev
    subst hev
    refine ⟨g, ?_⟩
    have h0 := (stk_pop (st := []) hs).2
    simp only [List.length_nil] at h0 hi
    rw [f_X4_value_4, ea, hlen, if_pos (nI_le (by omega) (by omega)), if_neg (show ¬ (nI [v].length ≤ 0) from nI_nle (n := 1) (by decide) (by decide)), lit_nI 0, ldI_n (by decide) (by decide), sA_at, h0]
  | cons c cs ih =>
    intro i k g st v hd hi hs hin hst hk hev
    obtain ⟨k, rfl⟩ : ∃ q, k = q + 1 := ⟨k - 1, by omega⟩
    simp only [List.length_cons] at hi hk
    have hil : i < all.length := by omega
    have hci : all[i] = c := by
      have := List.drop_eq_getElem_cons hil
      rw [hd] at this
      exact (List.cons.inj this).1.symm
    have hdr : all.drop (i + 1) = cs := by
      have := List.drop_eq_getElem_cons hil
      rw [hd] at this
      exact (List.cons.inj this).2.symm
    have hcode : S.1 (a + 1) i = nI (hcd c) := by rw [hcs i hil, hci]
    have hokc : okA c := hok c (by rw [← hci]; exact List.getElem_mem hil)
    have h146 : ∀ n Sx, f_X4_value_146 (f_X4_value_4 a w 40 k) a w 40 (nI n) (nI i) Sx = f_X4_value_4 a w 40 k (nI n) (nI (i + 1)) Sx := by
      intro n Sx
      unfold f_X4_value_146
      rw [le1_e, nI_1]
    have h62 : ∀ z, st.length < 64 → f_X4_value_62 (f_X4_value_4 a w 40 k) a w 40 (nI st.length) (nI i) (nI st.length) z (ho_sA S (a + 2) g) = f_X4_value_4 a w 40 k (nI (st.length + 1)) (nI (i + 1)) (ho_sA S (a + 2) (upd g st.length z)) := by
      intro z hz
      unfold f_X4_value_62
      rw [stI_n hz (by decide), le1_e, nI_1, h146, sI_A, sA_A, sA_at]
    rw [evA] at hev
    obtain ⟨st2, hst2, hev⟩ := ob_ok hev
    have push : ∀ x : Int, inM x → psh x st = some st2 → st.length < 64 ∧ ∃ g', f_X4_value_4 a w 40 k (nI (st.length + 1)) (nI (i + 1)) (ho_sA S (a + 2) (upd g st.length (iI x))) = some (iI v, ho_sA S (a + 2) g') := by
      intro x hx hp
      unfold psh at hp
      by_cases hz : st.length < 64
      · rw [if_pos hz] at hp
        obtain rfl := Option.some.inj hp
        refine ⟨hz, ih (i + 1) k _ (x :: st) v hdr (by omega) (stk_push hs) ?_ (by simp; omega) (by omega) hev⟩
        intro y hy
        rcases List.mem_cons.mp hy with rfl | hy
        · exact hx
        · exact hin y hy
      · rw [if_neg hz] at hp; cases hp
    have L64 : st.length < 64 → ¬ ((64 : Int32) ≤ nI st.length) := fun h => nI_ge (a := st.length) (b := 64) h (by decide)
    rw [f_X4_value_4, ea, hlen, if_neg (nI_ge (by omega) (by omega)), ldI_n (by omega) (by decide), ea1, hcode]
    unfold stA at hst2
    rcases hokc with h | h | h | h
    · rw [if_pos h.1] at hst2
      obtain ⟨hz, g', hg⟩ := push _ (by unfold inM; omega) hst2
      refine ⟨g', ?_⟩
      rw [hcd_num h.1, if_neg (show ¬ ((10100 : Int32) ≤ nI (c - 1000)) from nI_ge (a := c - 1000) (b := 10100) (by omega) (by decide)), if_neg (L64 hz), if_neg (show ¬ ((10000 : Int32) ≤ nI (c - 1000)) from nI_ge (a := c - 1000) (b := 10000) (by omega) (by decide)), h62 _ hz]
      rw [show iI ((c : Int) - 1000) = nI (c - 1000) by rw [← iI_nI]; congr 1; omega] at hg
      exact hg
    · rw [if_neg (by omega), if_pos (by omega)] at hst2
      match st, hs, hin, hst, hst2, ih with
      | [], hs, hin, hst, hst2, ih => cases hst2
      | x :: r, hs, hin, hst, hst2, ih =>
        have e2 : some (qfH S w x :: r) = some st2 := hst2
        obtain rfl := Option.some.inj e2
        obtain ⟨p1, p2⟩ := stk_pop hs
        have hx : inM x := hin x (by simp)
        obtain ⟨g', hg⟩ := ih (i + 1) k (upd g r.length (iI (qfH S w x))) (qfH S w x :: r) v hdr (by omega) (stk_push p1) (by
          intro y hy
          rcases List.mem_cons.mp hy with rfl | hy
          · exact hqf x
          · exact hin y (by simp [hy])) (by simpa using hst) (by omega) hev
        refine ⟨g', ?_⟩
        have e1 : nI (x :: r).length - (1 : Int32) = nI r.length := pk_sub (a := r.length + 1) (b := 1) (by omega)
        have hle : r.length < 64 := by simp at hst; omega
        rw [hcd_seen h, if_pos (by decide), if_neg (by decide), if_neg (nI_nle (n := (x :: r).length) (by simp) (by simp; omega)), e1, ldI_n hle (by decide), sA_at, p2]
        have hq : qfH (ho_sA S (a + 2) g) w x = qfH S w x := by unfold qfH; rw [ew]
        rw [h_seen hx, ob2_s, stI_n hle (by decide), h146, sI_A, sA_A, sA_at, hq]
        exact hg
    · rw [if_neg (by omega), if_neg (by omega), if_pos h.1] at hst2
      obtain ⟨hz, g', hg⟩ := push _ (hpf _) hst2
      refine ⟨g', ?_⟩
      have hwl := wrd_lt (c - 40)
      have e1 : nI (10000 + wrd (c - 40)) - (10000 : Int32) = nI (wrd (c - 40)) := by
        have := pk_sub (a := 10000 + wrd (c - 40)) (b := 10000) (by omega)
        rw [show 10000 + wrd (c - 40) - 10000 = wrd (c - 40) by omega] at this
        exact this
      rw [hcd_part h, if_neg (show ¬ ((10100 : Int32) ≤ nI (10000 + wrd (c - 40))) from nI_ge (a := 10000 + wrd (c - 40)) (b := 10100) (by omega) (by decide)), if_neg (L64 hz), if_pos (show (10000 : Int32) ≤ nI (10000 + wrd (c - 40)) from nI_le (a := 10000) (b := 10000 + wrd (c - 40)) (by omega) (by omega)), e1, h_fact hwl, ob2_s, ew, h62 _ hz]
      rw [show iI (pfH S w (c - 40)) = S.1 w (wrd (c - 40)) from iI_of _] at hg
      exact hg
    · rw [if_neg (by omega), if_neg (by omega), if_neg (by omega)] at hst2
      by_cases h13 : c = 13
      · rw [if_pos h13] at hst2
        obtain ⟨hz, g', hg⟩ := push _ (by unfold inM; omega) hst2
        refine ⟨g', ?_⟩
        subst h13
        rw [show hcd 13 = 1 from rfl, if_neg (by decide), if_neg (L64 hz), if_neg (by decide), h62 _ hz]
        exact hg
      · rw [if_neg h13] at hst2
        by_cases h12 : c = 12
        · rw [if_pos h12] at hst2
          match st, hs, hin, hst, hst2, ih with
          | [], hs, hin, hst, hst2, ih => cases hst2
          | x :: r, hs, hin, hst, hst2, ih =>
            obtain ⟨y, hy, e2⟩ := ob_ok (show ob (if x = 0 ∨ x = 1 then some (1 - x) else none) (fun v => some (v :: r)) = some st2 from hst2)
            by_cases hb : x = 0 ∨ x = 1
            · rw [if_pos hb] at hy
              obtain rfl := Option.some.inj hy
              obtain rfl := Option.some.inj e2
              obtain ⟨p1, p2⟩ := stk_pop hs
              obtain ⟨g', hg⟩ := ih (i + 1) k (upd g r.length (iI (1 - x))) ((1 - x) :: r) v hdr (by omega) (stk_push p1) (by
                intro y hy
                rcases List.mem_cons.mp hy with rfl | hy
                · unfold inM; omega
                · exact hin y (by simp [hy])) (by simpa using hst) (by omega) hev
              refine ⟨g', ?_⟩
              have e1 : nI (x :: r).length - (1 : Int32) = nI r.length := pk_sub (a := r.length + 1) (b := 1) (by omega)
              have hle : r.length < 64 := by simp at hst; omega
              subst h12
              rw [show hcd 12 = 10111 from rfl, if_pos (by decide), if_neg (by decide), if_neg (nI_nle (n := (x :: r).length) (by simp) (by simp; omega)), e1, ldI_n hle (by decide), sA_at, p2, h_not hb, ob2_s, stI_n hle (by decide), h146, sI_A, sA_A, sA_at]
              exact hg
            · rw [if_neg hb] at hy; cases hy
        · rw [if_neg h12] at hst2
          match st, hs, hin, hst, hst2, ih with
          | [], hs, hin, hst, hst2, ih => cases hst2
          | [_], hs, hin, hst, hst2, ih => cases hst2
          | y :: x :: r, hs, hin, hst, hst2, ih =>
            have hst3 : (if c < 10 ∨ ((x = 0 ∨ x = 1) ∧ (y = 0 ∨ y = 1)) then some (opv c x y :: r) else none) = some st2 := hst2
            by_cases hb : c < 10 ∨ ((x = 0 ∨ x = 1) ∧ (y = 0 ∨ y = 1))
            · rw [if_pos hb] at hst3
              obtain rfl := Option.some.inj hst3
              obtain ⟨p1, p2⟩ := stk_pop hs
              obtain ⟨p3, p4⟩ := stk_pop p1
              have hx : inM x := hin x (by simp)
              have hy : inM y := hin y (by simp)
              have hbo : 10 ≤ c → bo x ∧ bo y := fun q => hb.resolve_left (by omega)
              have hin2 : inM (opv c x y) := by
                by_cases q : c < 10
                · exact opv_in q hx hy
                · obtain ⟨b1, b2⟩ := hbo (by omega)
                  have hc2 : c = 10 ∨ c = 11 := by omega
                  unfold inM
                  rcases hc2 with rfl | rfl <;> rcases b1 with rfl | rfl <;> rcases b2 with rfl | rfl <;> decide
              obtain ⟨g', hg⟩ := ih (i + 1) k (upd g r.length (iI (opv c x y))) (opv c x y :: r) v hdr (by omega) (stk_push p3) (by
                intro z hz
                rcases List.mem_cons.mp hz with rfl | hz
                · exact hin2
                · exact hin z (by simp [hz])) (by simp at hst ⊢; omega) (by omega) hev
              refine ⟨g', ?_⟩
              have hle : r.length + 1 < 64 := by simp at hst; omega
              have e1 : nI (y :: x :: r).length + (-1 : Int32) = nI (r.length + 1) := pk_m1 (r.length + 1)
              have e2 : nI (r.length + 1) - (1 : Int32) = nI r.length := pk_sub (a := r.length + 1) (b := 1) (by omega)
              have ho := hcd_op (c := c) (by omega)
              rw [if_pos (show (10100 : Int32) ≤ nI (hcd c) from nI_le (a := 10100) (b := hcd c) ho.1 (by omega)), if_pos (show nI (hcd c) < (10111 : Int32) from nI_lt (a := hcd c) (b := 10111) ho.2 (by decide)), if_neg (show ¬ (nI (y :: x :: r).length ≤ (1 : Int32)) from nI_ge (a := 1) (b := (y :: x :: r).length) (by simp) (by simp; omega)), le1_e, e1, e2, ldI_n (by omega) (by decide), ldI_n hle (by decide), sA_at, p4, show g (r.length + 1) = iI y from p2, iI_L hx, iI_L hy]
              rw [h_join hx hy (by omega) hbo, stI_n (by omega) (by decide), h146, sI_A, sA_A, sA_at]
              exact hg
            · rw [if_neg hb] at hst3; cases hst3

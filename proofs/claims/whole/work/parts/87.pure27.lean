/-! NARROW, the whole -/
/-- the best set among the first s -/
def bb (R : Nat → Bool) (c : Nat → Int32) : Nat → Option Nat
  | 0 => none
  | s + 1 => match bb R c s with
    | none => if R s = true then some s else none
    | some q => if c q ≤ c s then some q else if R s = true then some s else some q
theorem bb_lt {R : Nat → Bool} {c : Nat → Int32} : ∀ {s q : Nat}, bb R c s = some q → q < s
  | 0, q, h => by cases h
  | s + 1, q, h => by
    have h : (match bb R c s with
      | none => if R s = true then some s else none
      | some q => if c q ≤ c s then some q else if R s = true then some s else some q) = some q := h
    cases e : bb R c s with
    | none =>
      rw [e] at h
      by_cases r : R s = true
      · have h : (if R s = true then some s else none) = some q := h
        rw [if_pos r] at h
        cases h
        exact Nat.lt_succ_self _
      · have h : (if R s = true then some s else none) = some q := h
        rw [if_neg r] at h
        cases h
    | some p =>
      rw [e] at h
      have hp := bb_lt e
      have h : (if c p ≤ c s then some p else if R s = true then some s else some p) = some q := h
      by_cases r1 : c p ≤ c s
      · rw [if_pos r1] at h
        cases h
        omega
      · rw [if_neg r1] at h
        by_cases r : R s = true
        · rw [if_pos r] at h
          cases h
          exact Nat.lt_succ_self _
        · rw [if_neg r] at h
          cases h
          omega
def bV (be : Nat → Nat) (n : Nat) (o : Option Nat) : Int32 := o.elim (-1) (fun q => nI (vS be q n))
def bK (rF : Nat → Int32) (be : Nat → Nat) (n : Nat) (o : Option Nat) : Int32 := o.elim 0 (fun q => cI rF be q n)
theorem bb_s0 {R : Nat → Bool} {c : Nat → Int32} {s : Nat} (e : bb R c s = none) : bb R c (s + 1) = if R s = true then some s else none := by
  show (match bb R c s with
    | none => if R s = true then some s else none
    | some q => if c q ≤ c s then some q else if R s = true then some s else some q) = _
  rw [e]
theorem bb_s1 {R : Nat → Bool} {c : Nat → Int32} {s q : Nat} (e : bb R c s = some q) : bb R c (s + 1) = if c q ≤ c s then some q else if R s = true then some s else some q := by
  show (match bb R c s with
    | none => if R s = true then some s else none
    | some q => if c q ≤ c s then some q else if R s = true then some s else some q) = _
  rw [e]
set_option maxHeartbeats 1000000 in
theorem cheapest_e {N T L A : Nat} {co ac : Int32} {dg vo lo sh he tn rF now d0 v0 l0 s0 h0 m0 ab : Nat → Int32} {rc : Nat → Int64} (hN : 100 < N) (hT : T ≤ 16) (hA : A ≤ 300) (hF : IF1 T L rF) (hs : IST T A dg vo lo sh he tn rc rF now) : ∃ ac2 ab2 d1 v1 l1 s1 h1 m1, fX1_cheapestSet N co ac (nI T) (nI A) dg rF ab d0 v0 l0 s0 h0 m0 vo rc = some ((if bV (gat (okN dg rF) T).2 (gat (okN dg rF) T).1 (bb (RW T A dg vo rF rc (gat (okN dg rF) T).2 (gat (okN dg rF) T).1) (fun q => cI rF (gat (okN dg rF) T).2 q (gat (okN dg rF) T).1) (2 ^ (gat (okN dg rF) T).1)) = -1 then co else bK rF (gat (okN dg rF) T).2 (gat (okN dg rF) T).1 (bb (RW T A dg vo rF rc (gat (okN dg rF) T).2 (gat (okN dg rF) T).1) (fun q => cI rF (gat (okN dg rF) T).2 q (gat (okN dg rF) T).1) (2 ^ (gat (okN dg rF) T).1))), ac2, ab2, d1, v1, l1, s1, h1, m1, bV (gat (okN dg rF) T).2 (gat (okN dg rF) T).1 (bb (RW T A dg vo rF rc (gat (okN dg rF) T).2 (gat (okN dg rF) T).1) (fun q => cI rF (gat (okN dg rF) T).2 q (gat (okN dg rF) T).1) (2 ^ (gat (okN dg rF) T).1))) := by
  obtain ⟨ab2, e1, e2⟩ := gatherC_e (N := N) (ac := ac) (dg := dg) (rF := rF) (ab := ab) (by omega) hT
  obtain ⟨hn, hb0, hi⟩ := gat_p (okN dg rF) T
  generalize (gat (okN dg rF) T).1 = n at *
  generalize (gat (okN dg rF) T).2 = be at *
  have hb : ∀ j, j < n → ab2 j = nI (be j) ∧ be j < T := fun j hj => ⟨e2 j hj, (hb0 j hj).1⟩
  have hb6 : ∀ j, j < n → ab2 j = nI (be j) ∧ be j < 16 := fun j hj => ⟨e2 j hj, by have := (hb0 j hj).1; omega⟩
  have h2n : 2 ^ n ≤ 64 := by
    have : 2 ^ n ≤ 2 ^ 6 := Nat.pow_le_pow_right (by decide) hn
    exact this
  have hv : ∀ q, vS be q n < 65536 := fun q => vS_lt (be := be) (σ := q) hi n 16 (Nat.le_refl n) (fun j hj => (hb6 j hj).2)
  have key : ∃ r, itr (fun z => fX1_cheapestSet_l10b N co (nI n) (nI T) (nI A) dg rF ab2 vo rc z.1 z.2.1 z.2.2.1 z.2.2.2.1 z.2.2.2.2.1 z.2.2.2.2.2.1 z.2.2.2.2.2.2.1 z.2.2.2.2.2.2.2.1 z.2.2.2.2.2.2.2.2) N (d0, v0, l0, s0, h0, m0, (-1 : Int32), (0 : Int32), (0 : Int32)) = some r ∧ r.2.2.2.2.2.2 = (bV be n (bb (RW T A dg vo rF rc be n) (fun q => cI rF be q n) (2 ^ n)), bK rF be n (bb (RW T A dg vo rF rc be n) (fun q => cI rF be q n) (2 ^ n))) := by
    refine itr_inv (fun (i : Nat) (z : (Nat → Int32) × (Nat → Int32) × (Nat → Int32) × (Nat → Int32) × (Nat → Int32) × (Nat → Int32) × Int32 × Int32 × Int32) => z.2.2.2.2.2.2 = (bV be n (bb (RW T A dg vo rF rc be n) (fun q => cI rF be q n) i), bK rF be n (bb (RW T A dg vo rF rc be n) (fun q => cI rF be q n) i), nI i)) (fun (r : (Nat → Int32) × (Nat → Int32) × (Nat → Int32) × (Nat → Int32) × (Nat → Int32) × (Nat → Int32) × Int32 × Int32) => r.2.2.2.2.2.2 = (bV be n (bb (RW T A dg vo rF rc be n) (fun q => cI rF be q n) (2 ^ n)), bK rF be n (bb (RW T A dg vo rF rc be n) (fun q => cI rF be q n) (2 ^ n)))) (b := 2 ^ n) (by omega) rfl ?_ ?_
    · rintro i ⟨d, v, l, s, h, m, p⟩ hi2 hp
      have hp : p = (bV be n (bb (RW T A dg vo rF rc be n) (fun q => cI rF be q n) i), bK rF be n (bb (RW T A dg vo rF rc be n) (fun q => cI rF be q n) i), nI i) := hp
      subst hp
      obtain ⟨d1, v1, l1, s1, h1, m1, e3⟩ := rightC_e (N := N) (σ := i) (d0 := d) (v0 := v) (l0 := l) (s0 := s) (h0 := h) (m0 := m) (by omega) hT hA hF hs hn (by omega) hb hi
      have j38 : ∀ x y : Int32, fX1_cheapestSet_j38 N co (nI n) (nI T) (nI A) dg rF ab2 d v l s h m vo rc x y (nI i) (cI rF be i n) = some (.inl (d1, v1, l1, s1, h1, m1, (if RW T A dg vo rF rc be n i = true then nI (vS be i n) else x), (if RW T A dg vo rF rc be n i = true then cI rF be i n else y), nI (i + 1))) := by
        intro x y
        unfold fX1_cheapestSet_j38
        rw [bind_e e3]
        by_cases q : RW T A dg vo rF rc be n i = true
        · rw [if_pos q, if_pos q, if_pos q, if_neg (show ¬ (1 : Int32) = 0 by decide), bind_e (thingsC_e (by omega) hn (by omega) hb6 hi), bnd_e, nI_1]
        · rw [if_neg q, if_neg q, if_neg q, if_pos rfl, bnd_e, nI_1]
      have start : ∀ X, (if bV be n (bb (RW T A dg vo rF rc be n) (fun q => cI rF be q n) i) = (-1 : Int32) then fX1_cheapestSet_j38 N co (nI n) (nI T) (nI A) dg rF ab2 d v l s h m vo rc (bV be n (bb (RW T A dg vo rF rc be n) (fun q => cI rF be q n) i)) (bK rF be n (bb (RW T A dg vo rF rc be n) (fun q => cI rF be q n) i)) (nI i) (cI rF be i n) else (if bK rF be n (bb (RW T A dg vo rF rc be n) (fun q => cI rF be q n) i) ≤ cI rF be i n then some (.inl (d, v, l, s, h, m, bV be n (bb (RW T A dg vo rF rc be n) (fun q => cI rF be q n) i), bK rF be n (bb (RW T A dg vo rF rc be n) (fun q => cI rF be q n) i), nI (i + 1))) else fX1_cheapestSet_j38 N co (nI n) (nI T) (nI A) dg rF ab2 d v l s h m vo rc (bV be n (bb (RW T A dg vo rF rc be n) (fun q => cI rF be q n) i)) (bK rF be n (bb (RW T A dg vo rF rc be n) (fun q => cI rF be q n) i)) (nI i) (cI rF be i n))) = X → fX1_cheapestSet_l10b N co (nI n) (nI T) (nI A) dg rF ab2 vo rc d v l s h m (bV be n (bb (RW T A dg vo rF rc be n) (fun q => cI rF be q n) i)) (bK rF be n (bb (RW T A dg vo rF rc be n) (fun q => cI rF be q n) i)) (nI i) = X := by
        intro X hX
        unfold fX1_cheapestSet_l10b
        rw [sl_e n (by omega), if_neg (nI_ge hi2 (by omega)), bind_e (costC_e (by omega) hn (by omega) hb6), bnd_e, nI_1]
        exact hX
      cases e : bb (RW T A dg vo rF rc be n) (fun q => cI rF be q n) i with
      | none =>
        rw [e] at start
        refine ⟨(d1, v1, l1, s1, h1, m1, (if RW T A dg vo rF rc be n i = true then nI (vS be i n) else -1), (if RW T A dg vo rF rc be n i = true then cI rF be i n else 0), nI (i + 1)), start _ ?_, ?_⟩
        · rw [if_pos (show bV be n none = -1 from rfl)]
          exact j38 _ _
        · rw [bb_s0 e]
          by_cases q : RW T A dg vo rF rc be n i = true
          · rw [if_pos q, if_pos q, if_pos q]
            rfl
          · rw [if_neg q, if_neg q, if_neg q]
            rfl
      | some p =>
        rw [e] at start
        have hnv : ¬ bV be n (some p) = -1 := nI_m1 (by have := hv p; omega)
        by_cases q1 : cI rF be p n ≤ cI rF be i n
        · refine ⟨(d, v, l, s, h, m, bV be n (some p), bK rF be n (some p), nI (i + 1)), start _ ?_, ?_⟩
          · rw [if_neg hnv, if_pos (show bK rF be n (some p) ≤ cI rF be i n from q1)]
          · rw [bb_s1 e, if_pos q1]
        · refine ⟨(d1, v1, l1, s1, h1, m1, (if RW T A dg vo rF rc be n i = true then nI (vS be i n) else bV be n (some p)), (if RW T A dg vo rF rc be n i = true then cI rF be i n else bK rF be n (some p)), nI (i + 1)), start _ ?_, ?_⟩
          · rw [if_neg hnv, if_neg (show ¬ bK rF be n (some p) ≤ cI rF be i n from q1)]
            exact j38 _ _
          · rw [bb_s1 e, if_neg q1]
            by_cases q : RW T A dg vo rF rc be n i = true
            · rw [if_pos q, if_pos q, if_pos q]
              rfl
            · rw [if_neg q, if_neg q, if_neg q]
    · rintro ⟨d, v, l, s, h, m, p⟩ hp
      have hp : p = (bV be n (bb (RW T A dg vo rF rc be n) (fun q => cI rF be q n) (2 ^ n)), bK rF be n (bb (RW T A dg vo rF rc be n) (fun q => cI rF be q n) (2 ^ n)), nI (2 ^ n)) := hp
      subst hp
      refine ⟨(d, v, l, s, h, m, bV be n (bb (RW T A dg vo rF rc be n) (fun q => cI rF be q n) (2 ^ n)), bK rF be n (bb (RW T A dg vo rF rc be n) (fun q => cI rF be q n) (2 ^ n))), ?_, rfl⟩
      show fX1_cheapestSet_l10b N co (nI n) (nI T) (nI A) dg rF ab2 vo rc d v l s h m (bV be n (bb (RW T A dg vo rF rc be n) (fun q => cI rF be q n) (2 ^ n))) (bK rF be n (bb (RW T A dg vo rF rc be n) (fun q => cI rF be q n) (2 ^ n))) (nI (2 ^ n)) = _
      unfold fX1_cheapestSet_l10b
      rw [sl_e n (by omega), if_pos (nI_le (Nat.le_refl _) (by omega))]
  obtain ⟨⟨d, v, l, s, h, m, p⟩, e3, e4⟩ := key
  have e4 : p = (bV be n (bb (RW T A dg vo rF rc be n) (fun q => cI rF be q n) (2 ^ n)), bK rF be n (bb (RW T A dg vo rF rc be n) (fun q => cI rF be q n) (2 ^ n))) := e4
  subst e4
  refine ⟨nI n, ab2, d, v, l, s, h, m, ?_⟩
  unfold fX1_cheapestSet
  rw [bind_e e1]
  show (itr (fun z => fX1_cheapestSet_l10b N co (nI n) (nI T) (nI A) dg rF ab2 vo rc z.1 z.2.1 z.2.2.1 z.2.2.2.1 z.2.2.2.2.1 z.2.2.2.2.2.1 z.2.2.2.2.2.2.1 z.2.2.2.2.2.2.2.1 z.2.2.2.2.2.2.2.2) N (d0, v0, l0, s0, h0, m0, (-1 : Int32), (0 : Int32), (0 : Int32))).bind _ = _
  rw [bind_e e3]
  by_cases q : bV be n (bb (RW T A dg vo rF rc be n) (fun q => cI rF be q n) (2 ^ n)) = -1
  · rw [if_pos q, if_pos q]
  · rw [if_neg q, if_neg q]

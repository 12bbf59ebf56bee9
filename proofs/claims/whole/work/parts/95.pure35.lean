/-! SHARES, the class: all LANDS -/
theorem addInner_e {N P s l : Nat} {mt f : Nat → Int32} {D mv : Nat → Option Nat} (hN : 16 < N) (hP : P ≤ 6) (hs : s < 64) (hD : bdd l D) (hl : l ≤ 8) (hm : ∀ p a, mv p = some a → a ≤ 1) (ht : ∀ p, p < P → mt p = enc (mv p)) (hf : ∀ j, j ≤ s → f j = enc (D j)) : ∃ f2, itr (fun z => fX7_addLand_l9b N (nI P) mt (nI s) z.1 z.2) N (f, (0 : Int32)) = some f2 ∧ f2 s = enc (stS D mv s P) ∧ ∀ j, j ≠ s → f2 j = f j := by
  refine itr_inv (fun (i : Nat) (z : (Nat → Int32) × Int32) => z.2 = nI i ∧ z.1 s = enc (stS D mv s i) ∧ ∀ j, j ≠ s → z.1 j = f j) (fun (r : Nat → Int32) => r s = enc (stS D mv s P) ∧ ∀ j, j ≠ s → r j = f j) (b := P) (by omega) ⟨rfl, hf s (Nat.le_refl s), fun j _ => rfl⟩ ?_ ?_
  · rintro i ⟨g, v⟩ hi ⟨hv, hg, hk⟩
    have hv : v = nI i := hv
    subst hv
    have hg : g s = enc (stS D mv s i) := hg
    have hk : ∀ j, j ≠ s → g j = f j := hk
    show ∃ s', fX7_addLand_l9b N (nI P) mt (nI s) g (nI i) = some (.inl s') ∧ _
    unfold fX7_addLand_l9b
    rw [if_neg (nI_ge hi (by omega))]
    by_cases c : s.testBit i = true
    · obtain ⟨-, c1, -, c2⟩ := pc_s s hs i (by omega) c
      have e1 : ¬ (nI s >>> (nI i &&& 31)) &&& 1 = 0 := by
        intro q
        rw [(bt_e s hs i (by omega)).mp q] at c
        exact absurd c (by decide)
      obtain ⟨g2, o1, o2, o3⟩ := offer_e (f := g) (s := s) (r := s ^^^ 2 ^ i) (a := stS D mv s i) (b := D (s ^^^ 2 ^ i)) (m := mv i) hs (by omega) hg (by rw [hk _ (by omega)]; exact hf _ (by omega)) (fun x hx => by have := stS_bd hD hm hx; omega) (fun x hx => by have := hD _ _ hx; omega) (fun x hx => by have := hm _ _ hx; omega)
      rw [if_neg e1, gdi_nI (by omega) (by decide), nI_clamp (by omega), c2, ht i hi, bind_e o1, bnd_e, nI_1]
      refine ⟨(g2, nI (i + 1)), rfl, rfl, ?_, fun j hj => ?_⟩
      · show g2 s = enc (om (stS D mv s i) (if s.testBit i = true then oad (D (s ^^^ 2 ^ i)) (mv i) else none))
        rw [if_pos c]
        exact o2
      · show g2 j = f j
        rw [o3 j hj, hk j hj]
    · have c' : s.testBit i = false := by
        cases q : s.testBit i with
        | false => rfl
        | true => exact absurd q c
      rw [if_pos ((bt_e s hs i (by omega)).mpr c'), bnd_e, nI_1]
      refine ⟨(g, nI (i + 1)), rfl, rfl, ?_, hk⟩
      show g s = enc (om (stS D mv s i) (if s.testBit i = true then oad (D (s ^^^ 2 ^ i)) (mv i) else none))
      rw [if_neg c, om_none]
      exact hg
  · rintro ⟨g, v⟩ ⟨hv, hg, hk⟩
    have hv : v = nI P := hv
    subst hv
    refine ⟨g, ?_, hg, hk⟩
    show fX7_addLand_l9b N (nI P) mt (nI s) g (nI P) = _
    unfold fX7_addLand_l9b
    rw [if_pos (nI_le (Nat.le_refl P) (by omega))]
theorem addLand_e {N P l : Nat} {mt f : Nat → Int32} {D mv : Nat → Option Nat} (hN : 100 < N) (hP : P ≤ 6) (hD : bdd l D) (hl : l ≤ 8) (hm : ∀ p a, mv p = some a → a ≤ 1) (ht : ∀ p, p < P → mt p = enc (mv p)) (hf : ∀ j, j < 64 → f j = enc (D j)) : ∃ f2, fX7_addLand N (nI P) mt f = some f2 ∧ ∀ j, j < 64 → f2 j = enc (stS D mv j P) := by
  unfold fX7_addLand
  have key : ∃ f2, itr (fun z => fX7_addLand_l3b N (nI P) mt z.1 z.2) N (f, (63 : Int32)) = some f2 ∧ ∀ j, j < 64 → f2 j = enc (stS D mv j P) := by
    refine itr_inv (fun (i : Nat) (z : (Nat → Int32) × Int32) => z.2 = nI (63 - i) ∧ (∀ j, j ≤ 63 - i → z.1 j = enc (D j)) ∧ ∀ j, 63 - i < j → j < 64 → z.1 j = enc (stS D mv j P)) (fun (r : Nat → Int32) => ∀ j, j < 64 → r j = enc (stS D mv j P)) (b := 63) (by omega) ⟨rfl, fun j hj => hf j (by omega), fun j h1 h2 => absurd h1 (by omega)⟩ ?_ ?_
    · rintro i ⟨g, v⟩ hi ⟨hv, hg, hk⟩
      have hv : v = nI (63 - i) := hv
      subst hv
      have hg : ∀ j, j ≤ 63 - i → g j = enc (D j) := hg
      have hk : ∀ j, 63 - i < j → j < 64 → g j = enc (stS D mv j P) := hk
      obtain ⟨g2, o1, o2, o3⟩ := addInner_e (N := N) (P := P) (s := 63 - i) (mt := mt) (f := g) (D := D) (mv := mv) (by omega) hP (by omega) hD hl hm ht hg
      show ∃ s', fX7_addLand_l3b N (nI P) mt g (nI (63 - i)) = some (.inl s') ∧ _
      unfold fX7_addLand_l3b
      rw [if_neg (show ¬ nI (63 - i) ≤ 0 from nI_ge (a := 0) (by omega) (by omega)), bind_e o1, bnd_e]
      refine ⟨(g2, nI (63 - (i + 1))), ?_, rfl, fun j hj => ?_, fun j h1 h2 => ?_⟩
      · rw [show nI (63 - i) + (-1 : Int32) = nI (63 - (i + 1)) from by
          obtain ⟨k, hk⟩ : ∃ k, 63 - i = k + 1 := ⟨62 - i, by omega⟩
          rw [hk, ← nI_1, show 63 - (i + 1) = k by omega, Int32.add_assoc]
          exact Int32.add_zero _]
      · show g2 j = _
        rw [o3 j (by omega)]
        exact hg j (by omega)
      · show g2 j = _
        by_cases q : j = 63 - i
        · rw [q]
          exact o2
        · rw [o3 j q]
          exact hk j (by omega) h2
    · rintro ⟨g, v⟩ ⟨hv, hg, hk⟩
      have hv : v = nI (63 - 63) := hv
      subst hv
      refine ⟨g, ?_, fun j hj => ?_⟩
      · show fX7_addLand_l3b N (nI P) mt g (nI 0) = _
        unfold fX7_addLand_l3b
        rw [if_pos (show nI 0 ≤ 0 from nI_le (b := 0) (Nat.le_refl 0) (by decide))]
      · show g j = _
        by_cases q : j = 0
        · rw [q, stS_0]
          exact hg 0 (by omega)
        · exact hk j (by omega) hj
  obtain ⟨f2, e1, e2⟩ := key
  exact ⟨f2, by rw [bind_e e1], e2⟩
/-- the best set among those up to s, and its moves -/
def pb (D : Nat → Option Nat) : Nat → Nat × Nat
  | 0 => (0, 0)
  | s + 1 => match D (s + 1) with
    | none => pb D s
    | some m => if pc (pb D s).1 < pc (s + 1) ∨ (pc (pb D s).1 = pc (s + 1) ∧ m < (pb D s).2) then (s + 1, m) else pb D s
theorem pb_n {D : Nat → Option Nat} {s : Nat} (h : D (s + 1) = none) : pb D (s + 1) = pb D s := by
  show (match D (s + 1) with
    | none => pb D s
    | some m => if pc (pb D s).1 < pc (s + 1) ∨ (pc (pb D s).1 = pc (s + 1) ∧ m < (pb D s).2) then (s + 1, m) else pb D s) = _
  rw [h]
theorem pb_s {D : Nat → Option Nat} {s m : Nat} (h : D (s + 1) = some m) : pb D (s + 1) = if pc (pb D s).1 < pc (s + 1) ∨ (pc (pb D s).1 = pc (s + 1) ∧ m < (pb D s).2) then (s + 1, m) else pb D s := by
  show (match D (s + 1) with
    | none => pb D s
    | some m => if pc (pb D s).1 < pc (s + 1) ∨ (pc (pb D s).1 = pc (s + 1) ∧ m < (pb D s).2) then (s + 1, m) else pb D s) = _
  rw [h]
theorem pb_D {D : Nat → Option Nat} (h0 : D 0 = some 0) : ∀ s, (pb D s).1 ≤ s ∧ D (pb D s).1 = some (pb D s).2
  | 0 => ⟨Nat.le_refl 0, h0⟩
  | s + 1 => by
    have ih := pb_D h0 s
    cases e : D (s + 1) with
    | none =>
      rw [pb_n e]
      exact ⟨by omega, ih.2⟩
    | some m =>
      rw [pb_s e]
      split
      · exact ⟨Nat.le_refl _, e⟩
      · exact ⟨by omega, ih.2⟩
theorem pickC_e {N : Nat} {la mo : Int32} {f : Nat → Int32} {D : Nat → Option Nat} (hN : 100 < N) (hb : ∀ s m, D s = some m → m ≤ 1000) (h0 : D 0 = some 0) (hf : ∀ j, j < 64 → f j = enc (D j)) : fX7_pickBest N la mo f = some (nI (pc (pb D 63).1), nI (pb D 63).2) := by
  unfold fX7_pickBest
  have key : itr (fun z => fX7_pickBest_l12b N f z.1 z.2.1 z.2.2) N ((0 : Int32), (0 : Int32), (1 : Int32)) = some (nI (pc (pb D 63).1), nI (pb D 63).2) := by
    rw [show ((0 : Int32), (0 : Int32), (1 : Int32)) = (nI (pc (pb D 0).1), nI (pb D 0).2, nI (0 + 1)) from by
      show _ = (nI (pc 0), nI 0, nI 1)
      rw [show pc 0 = 0 by decide]
      rfl]
    refine itr_0 (fun i => (nI (pc (pb D i).1), nI (pb D i).2, nI (i + 1))) 63 (n := N) (by omega) ?_ ?_
    · show fX7_pickBest_l12b N f (nI (pc (pb D 63).1)) (nI (pb D 63).2) (nI 64) = _
      unfold fX7_pickBest_l12b
      rw [if_pos (show (64 : Int32) ≤ nI 64 from nI_le (a := 64) (Nat.le_refl 64) (by decide))]
    · intro i hi
      show fX7_pickBest_l12b N f (nI (pc (pb D i).1)) (nI (pb D i).2) (nI (i + 1)) = some (.inl (nI (pc (pb D (i + 1)).1), nI (pb D (i + 1)).2, nI (i + 1 + 1)))
      have hp := pc_le (pb D i).1
      have hq := pc_le (i + 1)
      obtain ⟨p1, p2⟩ := pb_D h0 i
      have p3 := hb _ _ p2
      unfold fX7_pickBest_l12b fX7_pickBest_j65
      rw [if_neg (show ¬ (64 : Int32) ≤ nI (i + 1) from nI_ge (b := 64) (by omega) (by decide)), bind_e (pc_bit (i + 1) (by omega)), gdi_nI (by omega) (by decide), gdi_nI (by omega) (by decide), nI_clamp (by omega), hf (i + 1) (by omega), gdi_nI (by omega) (by decide), bnd_e, bnd_e, bnd_e, nI_1]
      cases e : D (i + 1) with
      | none => rw [show enc none = -1 from rfl, if_pos rfl, pb_n e]
      | some m =>
        have p4 := hb _ _ e
        rw [if_neg (show ¬ enc (some m) = -1 from nI_m1 (by omega)), pb_s e]
        by_cases c1 : pc (pb D i).1 ≤ pc (i + 1)
        · rw [if_pos (nI_le c1 (by omega))]
          by_cases c2 : pc (pb D i).1 < pc (i + 1)
          · rw [if_pos (nI_lt c2 (by omega)), if_pos (Or.inl c2)]
            rfl
          · rw [if_neg (nI_nlt (by omega) (by omega))]
            by_cases c3 : (pb D i).2 ≤ m
            · rw [if_pos (show nI (pb D i).2 ≤ enc (some m) from nI_le c3 (by omega)), if_neg (by omega)]
            · rw [if_neg (show ¬ nI (pb D i).2 ≤ enc (some m) from nI_ge (by omega) (by omega)), if_pos (Or.inr (by omega))]
              rfl
        · rw [if_neg (nI_ge (by omega) (by omega)), if_neg (by omega)]
  rw [bind_e key]

/-! LETIN: the class tries in its order -/
theorem itr_invx {σ ρ : Type} {body : σ → Option (σ ⊕ ρ)} (I : Nat → σ → Prop) (Q : ρ → Prop) {b n : Nat} {s : σ} (hn : b < n) (h0 : I 0 s) (hs : ∀ i s, i < b → I i s → (∃ s', body s = some (.inl s') ∧ I (i + 1) s') ∨ (∃ r, body s = some (.inr r) ∧ Q r)) (he : ∀ s, I b s → ∃ r, body s = some (.inr r) ∧ Q r) : ∃ r, itr body n s = some r ∧ Q r := by
  have key : ∀ (d i n : Nat) (s : σ), i + d = b → d < n → I i s → ∃ r, itr body n s = some r ∧ Q r := by
    intro d
    induction d with
    | zero =>
      intro i n s hi hn h
      obtain ⟨k, rfl⟩ : ∃ k, n = k + 1 := ⟨n - 1, by omega⟩
      have e : i = b := by omega
      subst e
      obtain ⟨r, e1, e2⟩ := he s h
      refine ⟨r, ?_, e2⟩
      unfold itr
      rw [e1]
    | succ d ih =>
      intro i n s hi hn h
      obtain ⟨k, rfl⟩ : ∃ k, n = k + 1 := ⟨n - 1, by omega⟩
      rcases hs i s (by omega) h with ⟨s', e1, e2⟩ | ⟨r, e1, e2⟩
      · unfold itr
        rw [e1]
        exact ih (i + 1) k s' (by omega) (by omega) e2
      · refine ⟨r, ?_, e2⟩
        unfold itr
        rw [e1]
  exact key b 0 n s (by omega) hn h0
/-- the set of those that move -/
def mk (n a b : Nat) : Nat := if n = 1 then 0 else if n = 2 then 0 ||| 2 ^ a else 0 ||| 2 ^ a ||| 2 ^ b
theorem mk_lt {n a b : Nat} (ha : 1 < n → a < 16) (hb : 2 < n → b < 16) (hn : n ≤ 3) (hn1 : 1 ≤ n) : mk n a b < 2 ^ 16 := by
  unfold mk
  by_cases c1 : n = 1
  · rw [if_pos c1]
    decide
  · rw [if_neg c1]
    have h1 : 0 ||| 2 ^ a < 2 ^ 16 := Nat.or_lt_two_pow (by decide) (Nat.pow_lt_pow_right (by decide) (ha (by omega)))
    by_cases c2 : n = 2
    · rw [if_pos c2]
      exact h1
    · rw [if_neg c2]
      exact Nat.or_lt_two_pow h1 (Nat.pow_lt_pow_right (by decide) (hb (by omega)))
theorem mk_bit {n a b k : Nat} (hn : n ≤ 3) (hn1 : 1 ≤ n) : (mk n a b).testBit k = ((decide (1 < n) && decide (k = a)) || (decide (2 < n) && decide (k = b))) := by
  unfold mk
  by_cases c1 : n = 1
  · rw [if_pos c1, c1, Nat.zero_testBit]
    rfl
  · rw [if_neg c1]
    by_cases c2 : n = 2
    · rw [if_pos c2, c2, fb_bit_set, Nat.zero_testBit]
      show (false || decide (k = a)) = ((true && decide (k = a)) || (false && decide (k = b)))
      rw [Bool.false_or, Bool.true_and, Bool.false_and, Bool.or_false]
    · have c3 : n = 3 := by omega
      rw [if_neg c2, c3, fb_bit_set, fb_bit_set, Nat.zero_testBit]
      show (false || decide (k = a) || decide (k = b)) = ((true && decide (k = a)) || (true && decide (k = b)))
      rw [Bool.false_or, Bool.true_and, Bool.true_and]
/-- x may be let in so -/
def succ (N n x a b : Nat) (gr : Nat → Int64) (ls ss was now1 : Nat → Int32) (m : Nat) : Prop := ∃ now2, RA N n gr ls ss was now1 (fun j => nI (w3 x a b j)) m = some (now2, 1)
/-- may be tried -/
def tri (T n x a b : Nat) (dg rF : Nat → Int32) : Prop := (1 < n → a < T ∧ liv dg rF a = true) ∧ (2 < n → b < T ∧ liv dg rF b = true ∧ a < b)
theorem tri_h {T n x a b : Nat} {dg rF : Nat → Int32} (hxT : x < T) (hT : T ≤ 16) (hx : dg x = -1) (hn1 : 1 ≤ n) (hn : n ≤ 3) (ht : tri T n x a b dg rF) : (∀ j, j < n → w3 x a b j < T) ∧ (∀ i j, i < j → j < n → w3 x a b i ≠ w3 x a b j) ∧ (∀ j, 1 ≤ j → j < n → ¬ dg (w3 x a b j) = -1) ∧ mk n a b < 2 ^ 16 ∧ (mk n a b).testBit x = false ∧ ∀ j, 1 ≤ j → j < n → (mk n a b).testBit (w3 x a b j) = true := by
  obtain ⟨h1, h2⟩ := ht
  have ha : 1 < n → a < T ∧ ¬ dg a = -1 := fun q => ⟨(h1 q).1, (liv_iff.mp (h1 q).2).1⟩
  have hb : 2 < n → b < T ∧ ¬ dg b = -1 ∧ a < b := fun q => ⟨(h2 q).1, (liv_iff.mp (h2 q).2.1).1, (h2 q).2.2⟩
  have hax : 1 < n → x ≠ a := fun q e => (ha q).2 (by rw [← e]; exact hx)
  have hbx : 2 < n → x ≠ b := fun q e => (hb q).2.1 (by rw [← e]; exact hx)
  have e0 : w3 x a b 0 = x := rfl
  have e1 : w3 x a b 1 = a := rfl
  have e2 : w3 x a b 2 = b := rfl
  refine ⟨fun j hj => ?_, fun i j hij hj => ?_, fun j hj1 hj => ?_, mk_lt (fun q => by have := (ha q).1; omega) (fun q => by have := (hb q).1; omega) hn hn1, ?_, fun j hj1 hj => ?_⟩
  · have : j = 0 ∨ j = 1 ∨ j = 2 := by omega
    rcases this with q | q | q
    · rw [q, e0]
      exact hxT
    · rw [q, e1]
      exact (ha (by omega)).1
    · rw [q, e2]
      exact (hb (by omega)).1
  · have : (i = 0 ∧ j = 1) ∨ (i = 0 ∧ j = 2) ∨ (i = 1 ∧ j = 2) := by omega
    rcases this with ⟨q1, q2⟩ | ⟨q1, q2⟩ | ⟨q1, q2⟩
    · rw [q1, q2, e0, e1]
      exact hax (by omega)
    · rw [q1, q2, e0, e2]
      exact hbx (by omega)
    · rw [q1, q2, e1, e2]
      have := (hb (by omega)).2.2
      omega
  · have : j = 1 ∨ j = 2 := by omega
    rcases this with q | q
    · rw [q, e1]
      exact (ha (by omega)).2
    · rw [q, e2]
      exact (hb (by omega)).2.1
  · rw [mk_bit hn hn1]
    by_cases c1 : 1 < n
    · rw [decide_eq_false (hax c1), Bool.and_false, Bool.false_or]
      by_cases c2 : 2 < n
      · rw [decide_eq_false (hbx c2), Bool.and_false]
      · rw [decide_eq_false c2, Bool.false_and]
    · rw [decide_eq_false c1, Bool.false_and, Bool.false_or, decide_eq_false (show ¬ 2 < n by omega), Bool.false_and]
  · rw [mk_bit hn hn1]
    have : j = 1 ∨ j = 2 := by omega
    rcases this with q | q
    · rw [q, e1, decide_eq_true (show 1 < n by omega), decide_eq_true rfl]
      rfl
    · rw [q, e2, decide_eq_true (show 2 < n by omega), decide_eq_true (show b = b from rfl), Bool.true_and, Bool.or_true]
/-- the class's attempt succeeds just when x may be let in so -/
theorem attC {N T L P A x : Nat} {rl rt rp ra rf : Int32} {rc gr : Nat → Int64} {rP rF now1 dg vo lo sh he tn ls ss wq : Nat → Int32} (hN : 32 < N) (h : IR1 T L P A rl rt rp ra rf rc rP rF now1 gr) (hF : IF1 T L rF) (hs : IST T A dg vo lo sh he tn rc rF now1) (hxT : x < T) (hx : dg x = -1) (hls : ∀ j, j < T → ls j = lo j ∧ ss j = sh j) {n a b : Nat} (hn1 : 1 ≤ n) (hn : n ≤ 3) (ht : tri T n x a b dg rF) {z : C16} (hz : SS dg vo lo sh he tn z) : ∃ o : C16, AT N T P A rc rF rP (nI x) z (ag n 1 a) (ag n 2 b) = some o ∧ ((o.2.2.2.2.2.2.2.2.2.2.2.2.2.2.2 = 0 ∧ SS dg vo lo sh he tn o ∧ ¬ succ N n x a b gr ls ss (svd now1 wq) now1 (mk n a b)) ∨ (o.2.2.2.2.2.2.2.2.2.2.2.2.2.2.2 = 1 ∧ succ N n x a b gr ls ss (svd now1 wq) now1 (mk n a b))) := by
  obtain ⟨g1, g2, g3, g4, g5, g6⟩ := tri_h hxT h.1.1 hx hn1 hn ht
  obtain ⟨o, now2, e1, e2, -, hor⟩ := att_e (wq := wq) (row := fun j => nI (w3 x a b j)) hN h hF hs hn1 hn g1 g2 hx g3 g4 g5 g6 hls (fun j _ => rfl) hz
  refine ⟨o, e1, ?_⟩
  rcases hor with ⟨q1, q2⟩ | ⟨q1, -⟩
  · refine Or.inl ⟨q1, q2, ?_⟩
    rintro ⟨now3, e3⟩
    rw [e2] at e3
    have := congrArg (fun y => y.2) (Option.some.inj e3)
    have this : o.2.2.2.2.2.2.2.2.2.2.2.2.2.2.2 = 1 := this
    rw [q1] at this
    exact absurd this (by decide)
  · refine Or.inr ⟨q1, now2, ?_⟩
    rw [e2, q1]
/-- and so does the reference's -/
theorem attM {N T L P A x : Nat} {rl rt rp ra rf : Int32} {rc gr : Nat → Int64} {rP rF now1 dg vo lo sh he tn ls ss wq : Nat → Int32} (hN : 32 < N) (h : IR1 T L P A rl rt rp ra rf rc rP rF now1 gr) (hF : IF1 T L rF) (hs : IST T A dg vo lo sh he tn rc rF now1) (hxT : x < T) (hx : dg x = -1) (hls : ∀ j, j < T → ls j = lo j ∧ ss j = sh j) {n a b : Nat} (hn1 : 1 ≤ n) (hn : n ≤ 3) (ht : tri T n x a b dg rF) {row : Nat → Int32} (hr : ∀ j, j < n → row j = nI (w3 x a b j)) : ∃ (now2 : Nat → Int32) (r : Int32), RA N n gr ls ss (svd now1 wq) now1 row (mk n a b) = some (now2, r) ∧ K0 now1 now2 ∧ ((r = 0 ∧ ¬ succ N n x a b gr ls ss (svd now1 wq) now1 (mk n a b)) ∨ (r = 1 ∧ succ N n x a b gr ls ss (svd now1 wq) now1 (mk n a b))) := by
  obtain ⟨g1, g2, g3, g4, g5, g6⟩ := tri_h hxT h.1.1 hx hn1 hn ht
  have hz : SS dg vo lo sh he tn ((0, 0, dg, dg, vo, vo, lo, lo, sh, sh, he, he, tn, tn, dg, 0) : C16) := ⟨rfl, rfl, rfl, rfl, rfl, rfl⟩
  obtain ⟨o, now2, e1, e2, K2, hor⟩ := att_e (wq := wq) (row := row) hN h hF hs hn1 hn g1 g2 hx g3 g4 g5 g6 hls hr hz
  obtain ⟨o', f1, hor2⟩ := attC (wq := wq) hN h hF hs hxT hx hls hn1 hn ht hz
  have eo : o = o' := Option.some.inj (e1.symm.trans f1)
  subst eo
  refine ⟨now2, o.2.2.2.2.2.2.2.2.2.2.2.2.2.2.2, e2, K2, ?_⟩
  rcases hor2 with ⟨q1, -, q3⟩ | ⟨q1, q3⟩
  · exact Or.inl ⟨q1, q3⟩
  · exact Or.inr ⟨q1, q3⟩
def setL (o : C16) (v : Int32) : C16 := (o.1, o.2.1, o.2.2.1, o.2.2.2.1, o.2.2.2.2.1, o.2.2.2.2.2.1, o.2.2.2.2.2.2.1, o.2.2.2.2.2.2.2.1, o.2.2.2.2.2.2.2.2.1, o.2.2.2.2.2.2.2.2.2.1, o.2.2.2.2.2.2.2.2.2.2.1, o.2.2.2.2.2.2.2.2.2.2.2.1, o.2.2.2.2.2.2.2.2.2.2.2.2.1, o.2.2.2.2.2.2.2.2.2.2.2.2.2.1, o.2.2.2.2.2.2.2.2.2.2.2.2.2.2.1, v)
def C15S (dg vo lo sh he tn : Nat → Int32) (q : Int32 × Int32 × (Nat → Int32) × (Nat → Int32) × (Nat → Int32) × (Nat → Int32) × (Nat → Int32) × (Nat → Int32) × (Nat → Int32) × (Nat → Int32) × (Nat → Int32) × (Nat → Int32) × (Nat → Int32) × (Nat → Int32) × (Nat → Int32)) : Prop := q.2.2.1 = dg ∧ q.2.2.2.2.1 = vo ∧ q.2.2.2.2.2.2.1 = lo ∧ q.2.2.2.2.2.2.2.2.1 = sh ∧ q.2.2.2.2.2.2.2.2.2.2.1 = he ∧ q.2.2.2.2.2.2.2.2.2.2.2.2.1 = tn
set_option maxHeartbeats 1000000 in
theorem singles_e {N T L P A x : Nat} {rl rt rp ra rf : Int32} {rc gr : Nat → Int64} {rP rF now1 dg vo lo sh he tn ls ss wq : Nat → Int32} (hN : 32 < N) (h : IR1 T L P A rl rt rp ra rf rc rP rF now1 gr) (hF : IF1 T L rF) (hs : IST T A dg vo lo sh he tn rc rF now1) (hxT : x < T) (hx : dg x = -1) (hls : ∀ j, j < T → ls j = lo j ∧ ss j = sh j) {z : C16} (hz : SS dg vo lo sh he tn z) (hz0 : z.2.2.2.2.2.2.2.2.2.2.2.2.2.2.2 = 0) : ∃ r, itr (fun y => fX6_admit_l14b N (nI T) (nI P) (nI A) rc rF rP (nI x) y.1 y.2.1 y.2.2.1 y.2.2.2.1 y.2.2.2.2.1 y.2.2.2.2.2.1 y.2.2.2.2.2.2.1 y.2.2.2.2.2.2.2.1 y.2.2.2.2.2.2.2.2.1 y.2.2.2.2.2.2.2.2.2.1 y.2.2.2.2.2.2.2.2.2.2.1 y.2.2.2.2.2.2.2.2.2.2.2.1 y.2.2.2.2.2.2.2.2.2.2.2.2.1 y.2.2.2.2.2.2.2.2.2.2.2.2.2.1 y.2.2.2.2.2.2.2.2.2.2.2.2.2.2.1 y.2.2.2.2.2.2.2.2.2.2.2.2.2.2.2) N z = some r ∧ ((∃ q, r = .inl q ∧ C15S dg vo lo sh he tn q ∧ ∀ a, a < T → liv dg rF a = true → ¬ succ N 2 x a 0 gr ls ss (svd now1 wq) now1 (mk 2 a 0)) ∨ (∃ (a : Nat) (z' o : C16), r = .inr (setL o 1) ∧ a < T ∧ liv dg rF a = true ∧ (∀ a', a' < a → liv dg rF a' = true → ¬ succ N 2 x a' 0 gr ls ss (svd now1 wq) now1 (mk 2 a' 0)) ∧ SS dg vo lo sh he tn z' ∧ AT N T P A rc rF rP (nI x) z' (nI a) (-1) = some o ∧ succ N 2 x a 0 gr ls ss (svd now1 wq) now1 (mk 2 a 0))) := by
  have hT : T ≤ 16 := h.1.1
  refine itr_invx (fun (a : Nat) (y : C16) => y.2.2.2.2.2.2.2.2.2.2.2.2.2.2.2 = nI a ∧ SS dg vo lo sh he tn y ∧ ∀ a', a' < a → liv dg rF a' = true → ¬ succ N 2 x a' 0 gr ls ss (svd now1 wq) now1 (mk 2 a' 0)) (fun (r : (Int32 × Int32 × (Nat → Int32) × (Nat → Int32) × (Nat → Int32) × (Nat → Int32) × (Nat → Int32) × (Nat → Int32) × (Nat → Int32) × (Nat → Int32) × (Nat → Int32) × (Nat → Int32) × (Nat → Int32) × (Nat → Int32) × (Nat → Int32)) ⊕ C16) => (∃ q, r = .inl q ∧ C15S dg vo lo sh he tn q ∧ ∀ a, a < T → liv dg rF a = true → ¬ succ N 2 x a 0 gr ls ss (svd now1 wq) now1 (mk 2 a 0)) ∨ (∃ (a : Nat) (z' o : C16), r = .inr (setL o 1) ∧ a < T ∧ liv dg rF a = true ∧ (∀ a', a' < a → liv dg rF a' = true → ¬ succ N 2 x a' 0 gr ls ss (svd now1 wq) now1 (mk 2 a' 0)) ∧ SS dg vo lo sh he tn z' ∧ AT N T P A rc rF rP (nI x) z' (nI a) (-1) = some o ∧ succ N 2 x a 0 gr ls ss (svd now1 wq) now1 (mk 2 a 0))) (b := T) (by omega) ⟨hz0, hz, fun a' ha => absurd ha (Nat.not_lt_zero a')⟩ ?_ ?_
  · rintro a y ha ⟨hy, hS, hno⟩
    have hSd : y.2.2.1 = dg := hS.1
    show (∃ s', fX6_admit_l14b N (nI T) (nI P) (nI A) rc rF rP (nI x) y.1 y.2.1 y.2.2.1 y.2.2.2.1 y.2.2.2.2.1 y.2.2.2.2.2.1 y.2.2.2.2.2.2.1 y.2.2.2.2.2.2.2.1 y.2.2.2.2.2.2.2.2.1 y.2.2.2.2.2.2.2.2.2.1 y.2.2.2.2.2.2.2.2.2.2.1 y.2.2.2.2.2.2.2.2.2.2.2.1 y.2.2.2.2.2.2.2.2.2.2.2.2.1 y.2.2.2.2.2.2.2.2.2.2.2.2.2.1 y.2.2.2.2.2.2.2.2.2.2.2.2.2.2.1 y.2.2.2.2.2.2.2.2.2.2.2.2.2.2.2 = some (.inl s') ∧ _) ∨ (∃ r, fX6_admit_l14b N (nI T) (nI P) (nI A) rc rF rP (nI x) y.1 y.2.1 y.2.2.1 y.2.2.2.1 y.2.2.2.2.1 y.2.2.2.2.2.1 y.2.2.2.2.2.2.1 y.2.2.2.2.2.2.2.1 y.2.2.2.2.2.2.2.2.1 y.2.2.2.2.2.2.2.2.2.1 y.2.2.2.2.2.2.2.2.2.2.1 y.2.2.2.2.2.2.2.2.2.2.2.1 y.2.2.2.2.2.2.2.2.2.2.2.2.1 y.2.2.2.2.2.2.2.2.2.2.2.2.2.1 y.2.2.2.2.2.2.2.2.2.2.2.2.2.2.1 y.2.2.2.2.2.2.2.2.2.2.2.2.2.2.2 = some (.inr r) ∧ _)
    unfold fX6_admit_l14b
    rw [hy, if_neg (nI_ge ha (by omega)), hSd, bind_e (isLiving_liv (by omega) dg rF)]
    by_cases c : liv dg rF a = true
    · rw [if_pos c, if_neg (show ¬ (1 : Int32) = 0 by decide)]
      obtain ⟨o, e1, hor⟩ := attC (wq := wq) hN h hF hs hxT hx hls (n := 2) (a := a) (b := 0) (by omega) (by omega) ⟨fun _ => ⟨ha, c⟩, fun q => absurd q (by omega)⟩ hS
      have e1' : AT N T P A rc rF rP (nI x) y (nI a) (-1) = some o := e1
      have e2 : fX6_admitMoving N y.1 y.2.1 dg y.2.2.2.1 y.2.2.2.2.1 y.2.2.2.2.2.1 y.2.2.2.2.2.2.1 y.2.2.2.2.2.2.2.1 y.2.2.2.2.2.2.2.2.1 y.2.2.2.2.2.2.2.2.2.1 y.2.2.2.2.2.2.2.2.2.2.1 y.2.2.2.2.2.2.2.2.2.2.2.1 y.2.2.2.2.2.2.2.2.2.2.2.2.1 y.2.2.2.2.2.2.2.2.2.2.2.2.2.1 (nI T) (nI P) (nI A) y.2.2.2.2.2.2.2.2.2.2.2.2.2.2.1 rc rF rP (nI x) (nI a) (-1) = some o := by
        rw [← hSd]
        exact e1
      rw [bind_e e2]
      rcases hor with ⟨q1, q2, q3⟩ | ⟨q1, q3⟩
      · rw [if_pos q1, bnd_e, nI_1]
        refine Or.inl ⟨setL o (nI (a + 1)), rfl, rfl, q2, fun a' ha' hl => ?_⟩
        by_cases q : a' = a
        · rw [q]
          exact q3
        · exact hno a' (by omega) hl
      · rw [if_neg (show ¬ o.2.2.2.2.2.2.2.2.2.2.2.2.2.2.2 = 0 by rw [q1]; decide)]
        exact Or.inr ⟨.inr (setL o 1), rfl, Or.inr ⟨a, y, o, rfl, ha, c, hno, hS, e1', q3⟩⟩
    · rw [if_neg c, if_pos (show (0 : Int32) = 0 from rfl), bnd_e, nI_1]
      refine Or.inl ⟨_, rfl, rfl, ⟨rfl, hS.2⟩, fun a' ha' hl => ?_⟩
      by_cases q : a' = a
      · rw [q] at hl
        exact absurd hl c
      · exact hno a' (by omega) hl
  · rintro y ⟨hy, hS, hno⟩
    show ∃ r, fX6_admit_l14b N (nI T) (nI P) (nI A) rc rF rP (nI x) y.1 y.2.1 y.2.2.1 y.2.2.2.1 y.2.2.2.2.1 y.2.2.2.2.2.1 y.2.2.2.2.2.2.1 y.2.2.2.2.2.2.2.1 y.2.2.2.2.2.2.2.2.1 y.2.2.2.2.2.2.2.2.2.1 y.2.2.2.2.2.2.2.2.2.2.1 y.2.2.2.2.2.2.2.2.2.2.2.1 y.2.2.2.2.2.2.2.2.2.2.2.2.1 y.2.2.2.2.2.2.2.2.2.2.2.2.2.1 y.2.2.2.2.2.2.2.2.2.2.2.2.2.2.1 y.2.2.2.2.2.2.2.2.2.2.2.2.2.2.2 = some (.inr r) ∧ _
    unfold fX6_admit_l14b
    rw [hy, if_pos (nI_le (Nat.le_refl T) (by omega))]
    exact ⟨_, rfl, Or.inl ⟨_, rfl, hS, hno⟩⟩
set_option maxHeartbeats 1000000 in
theorem pairsIn_e {N T L P A x : Nat} {rl rt rp ra rf : Int32} {rc gr : Nat → Int64} {rP rF now1 dg vo lo sh he tn ls ss wq : Nat → Int32} (hN : 32 < N) (h : IR1 T L P A rl rt rp ra rf rc rP rF now1 gr) (hF : IF1 T L rF) (hs : IST T A dg vo lo sh he tn rc rF now1) (hxT : x < T) (hx : dg x = -1) (hls : ∀ j, j < T → ls j = lo j ∧ ss j = sh j) {z : C16} {b : Nat} (hb : b < T) (hz : SS dg vo lo sh he tn z) (hz0 : z.2.2.2.2.2.2.2.2.2.2.2.2.2.2.2 = 0) : ∃ r, itr (fun y => fX6_admit_l69b N (nI T) (nI P) (nI A) rc rF rP (nI x) (nI b) y.1 y.2.1 y.2.2.1 y.2.2.2.1 y.2.2.2.2.1 y.2.2.2.2.2.1 y.2.2.2.2.2.2.1 y.2.2.2.2.2.2.2.1 y.2.2.2.2.2.2.2.2.1 y.2.2.2.2.2.2.2.2.2.1 y.2.2.2.2.2.2.2.2.2.2.1 y.2.2.2.2.2.2.2.2.2.2.2.1 y.2.2.2.2.2.2.2.2.2.2.2.2.1 y.2.2.2.2.2.2.2.2.2.2.2.2.2.1 y.2.2.2.2.2.2.2.2.2.2.2.2.2.2.1 y.2.2.2.2.2.2.2.2.2.2.2.2.2.2.2) N z = some r ∧ ((∃ q, r = .inl q ∧ C15S dg vo lo sh he tn q ∧ ∀ a, a < b → liv dg rF a = true → liv dg rF b = true → ¬ succ N 3 x a b gr ls ss (svd now1 wq) now1 (mk 3 a b)) ∨ (∃ (a : Nat) (z' o : C16), r = .inr (setL o 2) ∧ a < b ∧ liv dg rF a = true ∧ liv dg rF b = true ∧ (∀ a', a' < a → liv dg rF a' = true → liv dg rF b = true → ¬ succ N 3 x a' b gr ls ss (svd now1 wq) now1 (mk 3 a' b)) ∧ SS dg vo lo sh he tn z' ∧ AT N T P A rc rF rP (nI x) z' (nI a) (nI b) = some o ∧ succ N 3 x a b gr ls ss (svd now1 wq) now1 (mk 3 a b))) := by
  have hT : T ≤ 16 := h.1.1
  refine itr_invx (fun (a : Nat) (y : C16) => y.2.2.2.2.2.2.2.2.2.2.2.2.2.2.2 = nI a ∧ SS dg vo lo sh he tn y ∧ ∀ a', a' < a → liv dg rF a' = true → liv dg rF b = true → ¬ succ N 3 x a' b gr ls ss (svd now1 wq) now1 (mk 3 a' b)) (fun (r : (Int32 × Int32 × (Nat → Int32) × (Nat → Int32) × (Nat → Int32) × (Nat → Int32) × (Nat → Int32) × (Nat → Int32) × (Nat → Int32) × (Nat → Int32) × (Nat → Int32) × (Nat → Int32) × (Nat → Int32) × (Nat → Int32) × (Nat → Int32)) ⊕ C16) => (∃ q, r = .inl q ∧ C15S dg vo lo sh he tn q ∧ ∀ a, a < b → liv dg rF a = true → liv dg rF b = true → ¬ succ N 3 x a b gr ls ss (svd now1 wq) now1 (mk 3 a b)) ∨ (∃ (a : Nat) (z' o : C16), r = .inr (setL o 2) ∧ a < b ∧ liv dg rF a = true ∧ liv dg rF b = true ∧ (∀ a', a' < a → liv dg rF a' = true → liv dg rF b = true → ¬ succ N 3 x a' b gr ls ss (svd now1 wq) now1 (mk 3 a' b)) ∧ SS dg vo lo sh he tn z' ∧ AT N T P A rc rF rP (nI x) z' (nI a) (nI b) = some o ∧ succ N 3 x a b gr ls ss (svd now1 wq) now1 (mk 3 a b))) (b := b) (by omega) ⟨hz0, hz, fun a' ha => absurd ha (Nat.not_lt_zero a')⟩ ?_ ?_
  · rintro a y ha ⟨hy, hS, hno⟩
    have hSd : y.2.2.1 = dg := hS.1
    show (∃ s', fX6_admit_l69b N (nI T) (nI P) (nI A) rc rF rP (nI x) (nI b) y.1 y.2.1 y.2.2.1 y.2.2.2.1 y.2.2.2.2.1 y.2.2.2.2.2.1 y.2.2.2.2.2.2.1 y.2.2.2.2.2.2.2.1 y.2.2.2.2.2.2.2.2.1 y.2.2.2.2.2.2.2.2.2.1 y.2.2.2.2.2.2.2.2.2.2.1 y.2.2.2.2.2.2.2.2.2.2.2.1 y.2.2.2.2.2.2.2.2.2.2.2.2.1 y.2.2.2.2.2.2.2.2.2.2.2.2.2.1 y.2.2.2.2.2.2.2.2.2.2.2.2.2.2.1 y.2.2.2.2.2.2.2.2.2.2.2.2.2.2.2 = some (.inl s') ∧ _) ∨ (∃ r, fX6_admit_l69b N (nI T) (nI P) (nI A) rc rF rP (nI x) (nI b) y.1 y.2.1 y.2.2.1 y.2.2.2.1 y.2.2.2.2.1 y.2.2.2.2.2.1 y.2.2.2.2.2.2.1 y.2.2.2.2.2.2.2.1 y.2.2.2.2.2.2.2.2.1 y.2.2.2.2.2.2.2.2.2.1 y.2.2.2.2.2.2.2.2.2.2.1 y.2.2.2.2.2.2.2.2.2.2.2.1 y.2.2.2.2.2.2.2.2.2.2.2.2.1 y.2.2.2.2.2.2.2.2.2.2.2.2.2.1 y.2.2.2.2.2.2.2.2.2.2.2.2.2.2.1 y.2.2.2.2.2.2.2.2.2.2.2.2.2.2.2 = some (.inr r) ∧ _)
    unfold fX6_admit_l69b
    rw [hy, if_neg (nI_ge ha (by omega)), hSd, bind_e (isLiving_liv (by omega) dg rF), bind_e (isLiving_liv (by omega) dg rF)]
    by_cases c : liv dg rF a = true
    · rw [if_pos c, if_neg (show ¬ (1 : Int32) = 0 by decide)]
      by_cases c2 : liv dg rF b = true
      · rw [if_pos c2, if_neg (show ¬ (1 : Int32) = 0 by decide)]
        obtain ⟨o, e1, hor⟩ := attC (wq := wq) hN h hF hs hxT hx hls (n := 3) (a := a) (b := b) (by omega) (by omega) ⟨fun _ => ⟨by omega, c⟩, fun _ => ⟨hb, c2, ha⟩⟩ hS
        have e1' : AT N T P A rc rF rP (nI x) y (nI a) (nI b) = some o := e1
        have e2 : fX6_admitMoving N y.1 y.2.1 dg y.2.2.2.1 y.2.2.2.2.1 y.2.2.2.2.2.1 y.2.2.2.2.2.2.1 y.2.2.2.2.2.2.2.1 y.2.2.2.2.2.2.2.2.1 y.2.2.2.2.2.2.2.2.2.1 y.2.2.2.2.2.2.2.2.2.2.1 y.2.2.2.2.2.2.2.2.2.2.2.1 y.2.2.2.2.2.2.2.2.2.2.2.2.1 y.2.2.2.2.2.2.2.2.2.2.2.2.2.1 (nI T) (nI P) (nI A) y.2.2.2.2.2.2.2.2.2.2.2.2.2.2.1 rc rF rP (nI x) (nI a) (nI b) = some o := by
          rw [← hSd]
          exact e1
        rw [bind_e e2]
        rcases hor with ⟨q1, q2, q3⟩ | ⟨q1, q3⟩
        · rw [if_pos q1, bnd_e, nI_1]
          refine Or.inl ⟨setL o (nI (a + 1)), rfl, rfl, q2, fun a' ha' hl hl2 => ?_⟩
          by_cases q : a' = a
          · rw [q]
            exact q3
          · exact hno a' (by omega) hl hl2
        · rw [if_neg (show ¬ o.2.2.2.2.2.2.2.2.2.2.2.2.2.2.2 = 0 by rw [q1]; decide)]
          exact Or.inr ⟨.inr (setL o 2), rfl, Or.inr ⟨a, y, o, rfl, ha, c, c2, hno, hS, e1', q3⟩⟩
      · rw [if_neg c2, if_pos (show (0 : Int32) = 0 from rfl), bnd_e, nI_1]
        exact Or.inl ⟨_, rfl, rfl, ⟨rfl, hS.2⟩, fun a' ha' hl hl2 => absurd hl2 c2⟩
    · rw [if_neg c, if_pos (show (0 : Int32) = 0 from rfl), bnd_e, nI_1]
      refine Or.inl ⟨_, rfl, rfl, ⟨rfl, hS.2⟩, fun a' ha' hl hl2 => ?_⟩
      by_cases q : a' = a
      · rw [q] at hl
        exact absurd hl c
      · exact hno a' (by omega) hl hl2
  · rintro y ⟨hy, hS, hno⟩
    show ∃ r, fX6_admit_l69b N (nI T) (nI P) (nI A) rc rF rP (nI x) (nI b) y.1 y.2.1 y.2.2.1 y.2.2.2.1 y.2.2.2.2.1 y.2.2.2.2.2.1 y.2.2.2.2.2.2.1 y.2.2.2.2.2.2.2.1 y.2.2.2.2.2.2.2.2.1 y.2.2.2.2.2.2.2.2.2.1 y.2.2.2.2.2.2.2.2.2.2.1 y.2.2.2.2.2.2.2.2.2.2.2.1 y.2.2.2.2.2.2.2.2.2.2.2.2.1 y.2.2.2.2.2.2.2.2.2.2.2.2.2.1 y.2.2.2.2.2.2.2.2.2.2.2.2.2.2.1 y.2.2.2.2.2.2.2.2.2.2.2.2.2.2.2 = some (.inr r) ∧ _
    unfold fX6_admit_l69b
    rw [hy, if_pos (nI_le (Nat.le_refl b) (by omega))]
    exact ⟨_, rfl, Or.inl ⟨_, rfl, hS, hno⟩⟩
set_option maxHeartbeats 1000000 in
theorem pairs_e {N T L P A x : Nat} {rl rt rp ra rf : Int32} {rc gr : Nat → Int64} {rP rF now1 dg vo lo sh he tn ls ss wq : Nat → Int32} (hN : 32 < N) (h : IR1 T L P A rl rt rp ra rf rc rP rF now1 gr) (hF : IF1 T L rF) (hs : IST T A dg vo lo sh he tn rc rF now1) (hxT : x < T) (hx : dg x = -1) (hls : ∀ j, j < T → ls j = lo j ∧ ss j = sh j) {z : C16} (hz : SS dg vo lo sh he tn z) (hz0 : z.2.2.2.2.2.2.2.2.2.2.2.2.2.2.2 = 0) : ∃ r, itr (fun y => fX6_admit_l56b N (nI T) (nI P) (nI A) rc rF rP (nI x) y.1 y.2.1 y.2.2.1 y.2.2.2.1 y.2.2.2.2.1 y.2.2.2.2.2.1 y.2.2.2.2.2.2.1 y.2.2.2.2.2.2.2.1 y.2.2.2.2.2.2.2.2.1 y.2.2.2.2.2.2.2.2.2.1 y.2.2.2.2.2.2.2.2.2.2.1 y.2.2.2.2.2.2.2.2.2.2.2.1 y.2.2.2.2.2.2.2.2.2.2.2.2.1 y.2.2.2.2.2.2.2.2.2.2.2.2.2.1 y.2.2.2.2.2.2.2.2.2.2.2.2.2.2.1 y.2.2.2.2.2.2.2.2.2.2.2.2.2.2.2) N z = some r ∧ ((∃ q, r = .inl q ∧ C15S dg vo lo sh he tn q ∧ ∀ b, b < T → ∀ a, a < b → liv dg rF a = true → liv dg rF b = true → ¬ succ N 3 x a b gr ls ss (svd now1 wq) now1 (mk 3 a b)) ∨ (∃ (b a : Nat) (z' o : C16), r = .inr (setL o 2) ∧ b < T ∧ a < b ∧ liv dg rF a = true ∧ liv dg rF b = true ∧ (∀ b', b' < b → ∀ a', a' < b' → liv dg rF a' = true → liv dg rF b' = true → ¬ succ N 3 x a' b' gr ls ss (svd now1 wq) now1 (mk 3 a' b')) ∧ (∀ a', a' < a → liv dg rF a' = true → liv dg rF b = true → ¬ succ N 3 x a' b gr ls ss (svd now1 wq) now1 (mk 3 a' b)) ∧ SS dg vo lo sh he tn z' ∧ AT N T P A rc rF rP (nI x) z' (nI a) (nI b) = some o ∧ succ N 3 x a b gr ls ss (svd now1 wq) now1 (mk 3 a b))) := by
  have hT : T ≤ 16 := h.1.1
  refine itr_invx (fun (b : Nat) (y : C16) => y.2.2.2.2.2.2.2.2.2.2.2.2.2.2.2 = nI b ∧ SS dg vo lo sh he tn y ∧ ∀ b', b' < b → ∀ a', a' < b' → liv dg rF a' = true → liv dg rF b' = true → ¬ succ N 3 x a' b' gr ls ss (svd now1 wq) now1 (mk 3 a' b')) (fun (r : (Int32 × Int32 × (Nat → Int32) × (Nat → Int32) × (Nat → Int32) × (Nat → Int32) × (Nat → Int32) × (Nat → Int32) × (Nat → Int32) × (Nat → Int32) × (Nat → Int32) × (Nat → Int32) × (Nat → Int32) × (Nat → Int32) × (Nat → Int32)) ⊕ C16) => (∃ q, r = .inl q ∧ C15S dg vo lo sh he tn q ∧ ∀ b, b < T → ∀ a, a < b → liv dg rF a = true → liv dg rF b = true → ¬ succ N 3 x a b gr ls ss (svd now1 wq) now1 (mk 3 a b)) ∨ (∃ (b a : Nat) (z' o : C16), r = .inr (setL o 2) ∧ b < T ∧ a < b ∧ liv dg rF a = true ∧ liv dg rF b = true ∧ (∀ b', b' < b → ∀ a', a' < b' → liv dg rF a' = true → liv dg rF b' = true → ¬ succ N 3 x a' b' gr ls ss (svd now1 wq) now1 (mk 3 a' b')) ∧ (∀ a', a' < a → liv dg rF a' = true → liv dg rF b = true → ¬ succ N 3 x a' b gr ls ss (svd now1 wq) now1 (mk 3 a' b)) ∧ SS dg vo lo sh he tn z' ∧ AT N T P A rc rF rP (nI x) z' (nI a) (nI b) = some o ∧ succ N 3 x a b gr ls ss (svd now1 wq) now1 (mk 3 a b))) (b := T) (by omega) ⟨hz0, hz, fun b' hb => absurd hb (Nat.not_lt_zero b')⟩ ?_ ?_
  · rintro b y hb ⟨hy, hS, hno⟩
    obtain ⟨r, e1, hor⟩ := pairsIn_e (wq := wq) (z := setL y 0) hN h hF hs hxT hx hls hb hS rfl
    have e1 : itr (fun u => fX6_admit_l69b N (nI T) (nI P) (nI A) rc rF rP (nI x) (nI b) u.1 u.2.1 u.2.2.1 u.2.2.2.1 u.2.2.2.2.1 u.2.2.2.2.2.1 u.2.2.2.2.2.2.1 u.2.2.2.2.2.2.2.1 u.2.2.2.2.2.2.2.2.1 u.2.2.2.2.2.2.2.2.2.1 u.2.2.2.2.2.2.2.2.2.2.1 u.2.2.2.2.2.2.2.2.2.2.2.1 u.2.2.2.2.2.2.2.2.2.2.2.2.1 u.2.2.2.2.2.2.2.2.2.2.2.2.2.1 u.2.2.2.2.2.2.2.2.2.2.2.2.2.2.1 u.2.2.2.2.2.2.2.2.2.2.2.2.2.2.2) N (y.1, y.2.1, y.2.2.1, y.2.2.2.1, y.2.2.2.2.1, y.2.2.2.2.2.1, y.2.2.2.2.2.2.1, y.2.2.2.2.2.2.2.1, y.2.2.2.2.2.2.2.2.1, y.2.2.2.2.2.2.2.2.2.1, y.2.2.2.2.2.2.2.2.2.2.1, y.2.2.2.2.2.2.2.2.2.2.2.1, y.2.2.2.2.2.2.2.2.2.2.2.2.1, y.2.2.2.2.2.2.2.2.2.2.2.2.2.1, y.2.2.2.2.2.2.2.2.2.2.2.2.2.2.1, (0 : Int32)) = some r := e1
    show (∃ s', fX6_admit_l56b N (nI T) (nI P) (nI A) rc rF rP (nI x) y.1 y.2.1 y.2.2.1 y.2.2.2.1 y.2.2.2.2.1 y.2.2.2.2.2.1 y.2.2.2.2.2.2.1 y.2.2.2.2.2.2.2.1 y.2.2.2.2.2.2.2.2.1 y.2.2.2.2.2.2.2.2.2.1 y.2.2.2.2.2.2.2.2.2.2.1 y.2.2.2.2.2.2.2.2.2.2.2.1 y.2.2.2.2.2.2.2.2.2.2.2.2.1 y.2.2.2.2.2.2.2.2.2.2.2.2.2.1 y.2.2.2.2.2.2.2.2.2.2.2.2.2.2.1 y.2.2.2.2.2.2.2.2.2.2.2.2.2.2.2 = some (.inl s') ∧ _) ∨ (∃ r, fX6_admit_l56b N (nI T) (nI P) (nI A) rc rF rP (nI x) y.1 y.2.1 y.2.2.1 y.2.2.2.1 y.2.2.2.2.1 y.2.2.2.2.2.1 y.2.2.2.2.2.2.1 y.2.2.2.2.2.2.2.1 y.2.2.2.2.2.2.2.2.1 y.2.2.2.2.2.2.2.2.2.1 y.2.2.2.2.2.2.2.2.2.2.1 y.2.2.2.2.2.2.2.2.2.2.2.1 y.2.2.2.2.2.2.2.2.2.2.2.2.1 y.2.2.2.2.2.2.2.2.2.2.2.2.2.1 y.2.2.2.2.2.2.2.2.2.2.2.2.2.2.1 y.2.2.2.2.2.2.2.2.2.2.2.2.2.2.2 = some (.inr r) ∧ _)
    unfold fX6_admit_l56b
    rw [hy, if_neg (nI_ge hb (by omega)), bind_e e1]
    rcases hor with ⟨q, rfl, hq, hn2⟩ | ⟨a, z', o, rfl, ha, hl, hl2, hn2, hS', e2, hsu⟩
    · rw [Sum.elim_inl, bnd_e, nI_1]
      refine Or.inl ⟨_, rfl, rfl, hq, fun b' hb' a' ha' g1 g2 => ?_⟩
      by_cases c : b' = b
      · subst c
        exact hn2 a' ha' g1 g2
      · exact hno b' (by omega) a' ha' g1 g2
    · rw [Sum.elim_inr]
      exact Or.inr ⟨_, rfl, Or.inr ⟨b, a, z', o, rfl, hb, ha, hl, hl2, hno, hn2, hS', e2, hsu⟩⟩
  · rintro y ⟨hy, hS, hno⟩
    show ∃ r, fX6_admit_l56b N (nI T) (nI P) (nI A) rc rF rP (nI x) y.1 y.2.1 y.2.2.1 y.2.2.2.1 y.2.2.2.2.1 y.2.2.2.2.2.1 y.2.2.2.2.2.2.1 y.2.2.2.2.2.2.2.1 y.2.2.2.2.2.2.2.2.1 y.2.2.2.2.2.2.2.2.2.1 y.2.2.2.2.2.2.2.2.2.2.1 y.2.2.2.2.2.2.2.2.2.2.2.1 y.2.2.2.2.2.2.2.2.2.2.2.2.1 y.2.2.2.2.2.2.2.2.2.2.2.2.2.1 y.2.2.2.2.2.2.2.2.2.2.2.2.2.2.1 y.2.2.2.2.2.2.2.2.2.2.2.2.2.2.2 = some (.inr r) ∧ _
    unfold fX6_admit_l56b
    rw [hy, if_pos (nI_le (Nat.le_refl T) (by omega))]
    exact ⟨_, rfl, Or.inl ⟨_, rfl, hS, hno⟩⟩
set_option maxHeartbeats 1000000 in
theorem admit_e {N T L P A x : Nat} {rl rt rp ra rf : Int32} {rc gr : Nat → Int64} {rP rF now1 dg vo lo sh he tn ls ss wq : Nat → Int32} (hN : 32 < N) (h : IR1 T L P A rl rt rp ra rf rc rP rF now1 gr) (hF : IF1 T L rF) (hs : IST T A dg vo lo sh he tn rc rF now1) (hxT : x < T) (hx : dg x = -1) (hls : ∀ j, j < T → ls j = lo j ∧ ss j = sh j) {z : C16} (hz : SS dg vo lo sh he tn z) : ∃ out : C16, fX6_admit N z.1 z.2.1 z.2.2.1 z.2.2.2.1 z.2.2.2.2.1 z.2.2.2.2.2.1 z.2.2.2.2.2.2.1 z.2.2.2.2.2.2.2.1 z.2.2.2.2.2.2.2.2.1 z.2.2.2.2.2.2.2.2.2.1 z.2.2.2.2.2.2.2.2.2.2.1 z.2.2.2.2.2.2.2.2.2.2.2.1 z.2.2.2.2.2.2.2.2.2.2.2.2.1 z.2.2.2.2.2.2.2.2.2.2.2.2.2.1 (nI T) (nI P) (nI A) z.2.2.2.2.2.2.2.2.2.2.2.2.2.2.1 rc rF rP (nI x) = some out ∧ ((∃ z' o : C16, out = setL o 0 ∧ SS dg vo lo sh he tn z' ∧ AT N T P A rc rF rP (nI x) z' (-1) (-1) = some o ∧ succ N 1 x 0 0 gr ls ss (svd now1 wq) now1 (mk 1 0 0)) ∨ (¬ succ N 1 x 0 0 gr ls ss (svd now1 wq) now1 (mk 1 0 0) ∧ ((∃ (a : Nat) (z' o : C16), out = setL o 1 ∧ a < T ∧ liv dg rF a = true ∧ (∀ a', a' < a → liv dg rF a' = true → ¬ succ N 2 x a' 0 gr ls ss (svd now1 wq) now1 (mk 2 a' 0)) ∧ SS dg vo lo sh he tn z' ∧ AT N T P A rc rF rP (nI x) z' (nI a) (-1) = some o ∧ succ N 2 x a 0 gr ls ss (svd now1 wq) now1 (mk 2 a 0)) ∨ ((∀ a, a < T → liv dg rF a = true → ¬ succ N 2 x a 0 gr ls ss (svd now1 wq) now1 (mk 2 a 0)) ∧ ((∃ (b a : Nat) (z' o : C16), out = setL o 2 ∧ b < T ∧ a < b ∧ liv dg rF a = true ∧ liv dg rF b = true ∧ (∀ b', b' < b → ∀ a', a' < b' → liv dg rF a' = true → liv dg rF b' = true → ¬ succ N 3 x a' b' gr ls ss (svd now1 wq) now1 (mk 3 a' b')) ∧ (∀ a', a' < a → liv dg rF a' = true → liv dg rF b = true → ¬ succ N 3 x a' b gr ls ss (svd now1 wq) now1 (mk 3 a' b)) ∧ SS dg vo lo sh he tn z' ∧ AT N T P A rc rF rP (nI x) z' (nI a) (nI b) = some o ∧ succ N 3 x a b gr ls ss (svd now1 wq) now1 (mk 3 a b)) ∨ ((∀ b, b < T → ∀ a, a < b → liv dg rF a = true → liv dg rF b = true → ¬ succ N 3 x a b gr ls ss (svd now1 wq) now1 (mk 3 a b)) ∧ SS dg vo lo sh he tn out ∧ out.2.2.2.2.2.2.2.2.2.2.2.2.2.2.2 = -1)))))) := by
  unfold fX6_admit
  obtain ⟨o, e1, hor⟩ := attC (wq := wq) hN h hF hs hxT hx hls (n := 1) (a := 0) (b := 0) (by omega) (by omega) ⟨fun q => absurd q (by omega), fun q => absurd q (by omega)⟩ hz
  have e1' : AT N T P A rc rF rP (nI x) z (-1) (-1) = some o := e1
  have e1 : fX6_admitMoving N z.1 z.2.1 z.2.2.1 z.2.2.2.1 z.2.2.2.2.1 z.2.2.2.2.2.1 z.2.2.2.2.2.2.1 z.2.2.2.2.2.2.2.1 z.2.2.2.2.2.2.2.2.1 z.2.2.2.2.2.2.2.2.2.1 z.2.2.2.2.2.2.2.2.2.2.1 z.2.2.2.2.2.2.2.2.2.2.2.1 z.2.2.2.2.2.2.2.2.2.2.2.2.1 z.2.2.2.2.2.2.2.2.2.2.2.2.2.1 (nI T) (nI P) (nI A) z.2.2.2.2.2.2.2.2.2.2.2.2.2.2.1 rc rF rP (nI x) (-1) (-1) = some o := e1
  rw [bind_e e1]
  rcases hor with ⟨q1, q2, q3⟩ | ⟨q1, q3⟩
  · rw [if_pos q1]
    obtain ⟨r, e2, hor2⟩ := singles_e (wq := wq) (z := setL o 0) hN h hF hs hxT hx hls q2 rfl
    have e2 : itr (fun y => fX6_admit_l14b N (nI T) (nI P) (nI A) rc rF rP (nI x) y.1 y.2.1 y.2.2.1 y.2.2.2.1 y.2.2.2.2.1 y.2.2.2.2.2.1 y.2.2.2.2.2.2.1 y.2.2.2.2.2.2.2.1 y.2.2.2.2.2.2.2.2.1 y.2.2.2.2.2.2.2.2.2.1 y.2.2.2.2.2.2.2.2.2.2.1 y.2.2.2.2.2.2.2.2.2.2.2.1 y.2.2.2.2.2.2.2.2.2.2.2.2.1 y.2.2.2.2.2.2.2.2.2.2.2.2.2.1 y.2.2.2.2.2.2.2.2.2.2.2.2.2.2.1 y.2.2.2.2.2.2.2.2.2.2.2.2.2.2.2) N (o.1, o.2.1, o.2.2.1, o.2.2.2.1, o.2.2.2.2.1, o.2.2.2.2.2.1, o.2.2.2.2.2.2.1, o.2.2.2.2.2.2.2.1, o.2.2.2.2.2.2.2.2.1, o.2.2.2.2.2.2.2.2.2.1, o.2.2.2.2.2.2.2.2.2.2.1, o.2.2.2.2.2.2.2.2.2.2.2.1, o.2.2.2.2.2.2.2.2.2.2.2.2.1, o.2.2.2.2.2.2.2.2.2.2.2.2.2.1, o.2.2.2.2.2.2.2.2.2.2.2.2.2.2.1, (0 : Int32)) = some r := e2
    rw [bind_e e2]
    rcases hor2 with ⟨q, rfl, hq, hno⟩ | ⟨a, z', o', rfl, g⟩
    · rw [Sum.elim_inl]
      have hq16 : SS dg vo lo sh he tn ((q.1, q.2.1, q.2.2.1, q.2.2.2.1, q.2.2.2.2.1, q.2.2.2.2.2.1, q.2.2.2.2.2.2.1, q.2.2.2.2.2.2.2.1, q.2.2.2.2.2.2.2.2.1, q.2.2.2.2.2.2.2.2.2.1, q.2.2.2.2.2.2.2.2.2.2.1, q.2.2.2.2.2.2.2.2.2.2.2.1, q.2.2.2.2.2.2.2.2.2.2.2.2.1, q.2.2.2.2.2.2.2.2.2.2.2.2.2.1, q.2.2.2.2.2.2.2.2.2.2.2.2.2.2, (0 : Int32)) : C16) := hq
      obtain ⟨r, e3, hor3⟩ := pairs_e (wq := wq) (z := (q.1, q.2.1, q.2.2.1, q.2.2.2.1, q.2.2.2.2.1, q.2.2.2.2.2.1, q.2.2.2.2.2.2.1, q.2.2.2.2.2.2.2.1, q.2.2.2.2.2.2.2.2.1, q.2.2.2.2.2.2.2.2.2.1, q.2.2.2.2.2.2.2.2.2.2.1, q.2.2.2.2.2.2.2.2.2.2.2.1, q.2.2.2.2.2.2.2.2.2.2.2.2.1, q.2.2.2.2.2.2.2.2.2.2.2.2.2.1, q.2.2.2.2.2.2.2.2.2.2.2.2.2.2, (0 : Int32))) hN h hF hs hxT hx hls hq16 rfl
      rw [bind_e e3]
      rcases hor3 with ⟨q', rfl, hq', hno'⟩ | ⟨b, a, z', o', rfl, g⟩
      · rw [Sum.elim_inl]
        exact ⟨_, rfl, Or.inr ⟨q3, Or.inr ⟨hno, Or.inr ⟨hno', hq', rfl⟩⟩⟩⟩
      · rw [Sum.elim_inr]
        exact ⟨_, rfl, Or.inr ⟨q3, Or.inr ⟨hno, Or.inl ⟨b, a, z', o', rfl, g⟩⟩⟩⟩
    · rw [Sum.elim_inr]
      exact ⟨_, rfl, Or.inr ⟨q3, Or.inl ⟨a, z', o', rfl, g⟩⟩⟩
  · rw [if_neg (show ¬ o.2.2.2.2.2.2.2.2.2.2.2.2.2.2.2 = 0 by rw [q1]; decide)]
    exact ⟨_, rfl, Or.inl ⟨z, o, rfl, hz, e1', q3⟩⟩

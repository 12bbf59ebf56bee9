/-! LETIN: the reference's loops -/
def rowS (T x m : Nat) (row : Nat → Int32) : Prop := row 0 = nI x ∧ ∀ k, k < T → m.testBit k = true → row (1 + ct m k) = nI k
/-- with this set x may be let in -/
def GS (N T c x : Nat) (gr : Nat → Int64) (ls ss was now1 dg rF : Nat → Int32) (m : Nat) : Prop := ct m T = c ∧ mov T dg rF m ∧ ∃ row now2, rowS T x m row ∧ RA N (1 + c) gr ls ss was now1 row m = some (now2, 1)
theorem ct_mk {q a b : Nat} (hq : q ≤ 3) (hq1 : 1 ≤ q) (hab : 2 < q → a ≠ b) : ∀ n, ct (mk q a b) n = (if 1 < q ∧ a < n then 1 else 0) + (if 2 < q ∧ b < n then 1 else 0)
  | 0 => by
    rw [if_neg (fun y => absurd y.2 (Nat.not_lt_zero a)), if_neg (fun y => absurd y.2 (Nat.not_lt_zero b))]
    rfl
  | n + 1 => by
    have e : ct (mk q a b) (n + 1) = ct (mk q a b) n + (if (mk q a b).testBit n then 1 else 0) := rfl
    have hb : ((mk q a b).testBit n = true) ↔ ((1 < q ∧ n = a) ∨ (2 < q ∧ n = b)) := by
      rw [mk_bit hq hq1, Bool.or_eq_true, Bool.and_eq_true, Bool.and_eq_true, decide_eq_true_eq, decide_eq_true_eq, decide_eq_true_eq, decide_eq_true_eq]
    rw [e, ct_mk hq hq1 hab n]
    by_cases t : (mk q a b).testBit n = true
    · have hb := hb.mp t
      rw [if_pos t]
      by_cases c2 : 2 < q
      · have := hab c2
        repeat' split
        all_goals omega
      · repeat' split
        all_goals omega
    · have hb : ¬ ((1 < q ∧ n = a) ∨ (2 < q ∧ n = b)) := fun y => t (hb.mpr y)
      rw [if_neg t]
      by_cases c2 : 2 < q
      · have := hab c2
        repeat' split
        all_goals omega
      · repeat' split
        all_goals omega
/-- each set of at most two that may move, as it is tried -/
theorem shape_e {T c x m : Nat} {dg rF : Nat → Int32} (hc : c ≤ 2) (hm : m < 2 ^ T) (hct : ct m T = c) (hmov : mov T dg rF m) : ∃ a b, (c ≤ 0 → a = 0) ∧ (c ≤ 1 → b = 0) ∧ tri T (1 + c) x a b dg rF ∧ m = mk (1 + c) a b ∧ ∀ row, rowS T x m row → ∀ j, j < 1 + c → row j = nI (w3 x a b j) := by
  have : c = 0 ∨ c = 1 ∨ c = 2 := by omega
  rcases this with q | q | q
  · subst q
    refine ⟨0, 0, fun _ => rfl, fun _ => rfl, ⟨fun y => absurd y (by omega), fun y => absurd y (by omega)⟩, ct_0 hm hct, fun row hrow j hj => ?_⟩
    have e : j = 0 := by omega
    rw [e]
    exact hrow.1
  · subst q
    obtain ⟨a, ha, e1, e2, e3⟩ := ct_1 hm hct
    refine ⟨a, 0, fun y => absurd y (by omega), fun _ => rfl, ⟨fun _ => ⟨ha, hmov a ha e3⟩, fun y => absurd y (by omega)⟩, e1, fun row hrow j hj => ?_⟩
    have : j = 0 ∨ j = 1 := by omega
    rcases this with q | q
    · rw [q]
      exact hrow.1
    · rw [q]
      have := hrow.2 a ha e3
      rw [e2] at this
      exact this
  · subst q
    obtain ⟨a, b, hab, hb, e1, e2, e3, e4, e5⟩ := ct_2 hm hct
    refine ⟨a, b, fun y => absurd y (by omega), fun y => absurd y (by omega), ⟨fun _ => ⟨by omega, hmov a (by omega) e4⟩, fun _ => ⟨hb, hmov b hb e5, hab⟩⟩, e1, fun row hrow j hj => ?_⟩
    have : j = 0 ∨ j = 1 ∨ j = 2 := by omega
    rcases this with q | q | q
    · rw [q]
      exact hrow.1
    · rw [q]
      have := hrow.2 a (by omega) e4
      rw [e2] at this
      exact this
    · rw [q]
      have := hrow.2 b hb e5
      rw [e3] at this
      exact this
theorem gs_of {N T L P A x : Nat} {rl rt rp ra rf : Int32} {rc gr : Nat → Int64} {rP rF now1 dg vo lo sh he tn ls ss wq : Nat → Int32} (hN : 32 < N) (h : IR1 T L P A rl rt rp ra rf rc rP rF now1 gr) (hF : IF1 T L rF) (hs : IST T A dg vo lo sh he tn rc rF now1) (hxT : x < T) (hx : dg x = -1) (hls : ∀ j, j < T → ls j = lo j ∧ ss j = sh j) {c a b : Nat} (hc : c ≤ 2) (ht : tri T (1 + c) x a b dg rF) (hsu : succ N (1 + c) x a b gr ls ss (svd now1 wq) now1 (mk (1 + c) a b)) : mk (1 + c) a b < 2 ^ T ∧ GS N T c x gr ls ss (svd now1 wq) now1 dg rF (mk (1 + c) a b) := by
  obtain ⟨h1, h2⟩ := ht
  have hab : 2 < 1 + c → a ≠ b := fun y => by have := (h2 y).2.2; omega
  have hlt : mk (1 + c) a b < 2 ^ T := by
    unfold mk
    by_cases c1 : 1 + c = 1
    · rw [if_pos c1]
      exact Nat.two_pow_pos T
    · rw [if_neg c1]
      have g1 : 0 ||| 2 ^ a < 2 ^ T := Nat.or_lt_two_pow (Nat.two_pow_pos T) (Nat.pow_lt_pow_right (by decide) (h1 (by omega)).1)
      by_cases c2 : 1 + c = 2
      · rw [if_pos c2]
        exact g1
      · rw [if_neg c2]
        exact Nat.or_lt_two_pow g1 (Nat.pow_lt_pow_right (by decide) (h2 (by omega)).1)
  refine ⟨hlt, ?_, fun t htT hb => ?_, ?_⟩
  · rw [ct_mk (by omega) (by omega) hab]
    have : c = 0 ∨ c = 1 ∨ c = 2 := by omega
    rcases this with q | q | q
    · rw [if_neg (show ¬ (1 < 1 + c ∧ a < T) by omega), if_neg (show ¬ (2 < 1 + c ∧ b < T) by omega), q]
    · rw [if_pos (show 1 < 1 + c ∧ a < T from ⟨by omega, (h1 (by omega)).1⟩), if_neg (show ¬ (2 < 1 + c ∧ b < T) by omega), q]
    · rw [if_pos (show 1 < 1 + c ∧ a < T from ⟨by omega, (h1 (by omega)).1⟩), if_pos (show 2 < 1 + c ∧ b < T from ⟨by omega, (h2 (by omega)).1⟩), q]
  · rw [mk_bit (by omega) (by omega)] at hb
    by_cases c1 : 1 < 1 + c
    · by_cases e1 : t = a
      · rw [e1]
        exact (h1 c1).2
      · rw [decide_eq_false e1, Bool.and_false, Bool.false_or, Bool.and_eq_true, decide_eq_true_eq, decide_eq_true_eq] at hb
        rw [hb.2]
        exact (h2 hb.1).2.1
    · rw [decide_eq_false c1, decide_eq_false (show ¬ 2 < 1 + c by omega), Bool.false_and, Bool.false_and] at hb
      exact absurd hb (by decide)
  · obtain ⟨now2, e⟩ := hsu
    refine ⟨fun j => nI (w3 x a b j), now2, ⟨rfl, fun k hk hb => ?_⟩, e⟩
    show nI (w3 x a b (1 + ct (mk (1 + c) a b) k)) = nI k
    rw [mk_bit (by omega) (by omega)] at hb
    rw [ct_mk (by omega) (by omega) hab]
    by_cases c1 : 1 < 1 + c
    · by_cases e1 : k = a
      · rw [if_neg (show ¬ (1 < 1 + c ∧ a < k) by omega), if_neg (show ¬ (2 < 1 + c ∧ b < k) from fun y => by have := (h2 y.1).2.2; omega), e1]
        rfl
      · rw [decide_eq_false e1, Bool.and_false, Bool.false_or, Bool.and_eq_true, decide_eq_true_eq, decide_eq_true_eq] at hb
        have := (h2 hb.1).2.2
        rw [if_pos (show 1 < 1 + c ∧ a < k by omega), if_neg (show ¬ (2 < 1 + c ∧ b < k) by omega), hb.2]
        rfl
    · rw [decide_eq_false c1, decide_eq_false (show ¬ 2 < 1 + c by omega), Bool.false_and, Bool.false_and] at hb
      exact absurd hb (by decide)
set_option maxHeartbeats 2000000 in
theorem masks_e {N T L P A x : Nat} {rl rt rp ra rf : Int32} {rc gr : Nat → Int64} {rP rF now1 dg vo lo sh he tn ls ss wq : Nat → Int32} (hN : 32 < N) (h : IR1 T L P A rl rt rp ra rf rc rP rF now1 gr) (hF : IF1 T L rF) (hs : IST T A dg vo lo sh he tn rc rF now1) (hxT : x < T) (hx : dg x = -1) (hls : ∀ j, j < T → ls j = lo j ∧ ss j = sh j) {c : Nat} {th b0 rm : Int32} {row : Nat → Int32} (hN2 : 70000 < N) (hc : c ≤ 2) : ∃ r, itr (fun z => fX12_letIn_l57b N th b0 ls ss (svd now1 wq) gr (nI x) (nI c) z.1 z.2.1 z.2.2.1 z.2.2.2) N (rm, now1, row, (0 : Int32)) = some r ∧ ((∃ rm2 row2, r = .inl (rm2, now1, row2) ∧ ∀ m, m < 2 ^ T → ¬ GS N T c x gr ls ss (svd now1 wq) now1 dg rF m) ∨ (∃ (m : Nat) (rm2 : Int32) (now2 row2 : Nat → Int32), r = .inr (th, b0, rm2, now2, ls, ss, svd now1 wq, row2, nI c) ∧ m < 2 ^ T ∧ GS N T c x gr ls ss (svd now1 wq) now1 dg rF m ∧ (∀ m', m' < m → ¬ GS N T c x gr ls ss (svd now1 wq) now1 dg rF m') ∧ rowS T x m row2 ∧ RA N (1 + c) gr ls ss (svd now1 wq) now1 row2 m = some (now2, 1) ∧ K0 now1 now2)) := by
  have hT : T ≤ 16 := h.1.1
  have hp16 : 2 ^ T ≤ 2 ^ 16 := Nat.pow_le_pow_right (by decide) hT
  refine itr_invx (fun (m : Nat) (z : Int32 × (Nat → Int32) × (Nat → Int32) × Int32) => z.2.2.2 = nI m ∧ z.2.1 = now1 ∧ ∀ m', m' < m → ¬ GS N T c x gr ls ss (svd now1 wq) now1 dg rF m') (fun (r : (Int32 × (Nat → Int32) × (Nat → Int32)) ⊕ (Int32 × Int32 × Int32 × (Nat → Int32) × (Nat → Int32) × (Nat → Int32) × (Nat → Int32) × (Nat → Int32) × Int32)) => (∃ rm2 row2, r = .inl (rm2, now1, row2) ∧ ∀ m, m < 2 ^ T → ¬ GS N T c x gr ls ss (svd now1 wq) now1 dg rF m) ∨ (∃ (m : Nat) (rm2 : Int32) (now2 row2 : Nat → Int32), r = .inr (th, b0, rm2, now2, ls, ss, svd now1 wq, row2, nI c) ∧ m < 2 ^ T ∧ GS N T c x gr ls ss (svd now1 wq) now1 dg rF m ∧ (∀ m', m' < m → ¬ GS N T c x gr ls ss (svd now1 wq) now1 dg rF m') ∧ rowS T x m row2 ∧ RA N (1 + c) gr ls ss (svd now1 wq) now1 row2 m = some (now2, 1) ∧ K0 now1 now2)) (b := 2 ^ T) (by omega) ⟨rfl, rfl, fun m' hm => absurd hm (Nat.not_lt_zero m')⟩ ?_ ?_
  · rintro m ⟨rm1, nw, row1, v⟩ hm ⟨hv, hnw, hno⟩
    have hv : v = nI m := hv
    subst hv
    have hnw : nw = now1 := hnw
    subst hnw
    have hm16 : m < 2 ^ 16 := by omega
    have nx : ¬ GS N T c x gr ls ss (svd nw wq) nw dg rF m → ∀ m', m' < m + 1 → ¬ GS N T c x gr ls ss (svd nw wq) nw dg rF m' := by
      intro hn m' hm'
      by_cases e : m' = m
      · rw [e]
        exact hn
      · exact hno m' (by omega)
    show (∃ s', fX12_letIn_l57b N th b0 ls ss (svd nw wq) gr (nI x) (nI c) rm1 nw row1 (nI m) = some (.inl s') ∧ _) ∨ (∃ r, fX12_letIn_l57b N th b0 ls ss (svd nw wq) gr (nI x) (nI c) rm1 nw row1 (nI m) = some (.inr r) ∧ _)
    unfold fX12_letIn_l57b
    rw [bind_e (things_e h.2.2.1.2.1), sl_T hT, if_neg (nI_ge hm (by omega)), bind_e (bits_e (by omega) hm16), ct_T hT hm]
    have hctle : ct m T ≤ T := fb_ct_le _ T
    by_cases c1 : ct m T = c
    · rw [if_pos (by rw [c1])]
      rcases movable_e (N := N) hN h hs.1 hm16 with ⟨hmv, em⟩ | ⟨hmv, em⟩
      · obtain ⟨row2, er, hrow0, hrow⟩ := rowOf_e (N := N) (th := th) (b0 := b0) (v2 := nI c) (ls := ls) (ss := ss) (was := svd nw wq) (row := upd row1 0 (nI x)) hN h hm16 c1 hc pk_us
        have hrS : rowS T x m row2 := ⟨hrow0, hrow⟩
        obtain ⟨a, b, -, -, htri, emk, hrw⟩ := shape_e (x := x) (dg := dg) (rF := rF) hc hm c1 hmv
        obtain ⟨now2, r, e2, K2, hor⟩ := attM (wq := wq) hN h hF hs hxT hx hls (n := 1 + c) (by omega) (by omega) htri (hrw row2 hrS)
        rw [← emk] at e2 hor
        have e2' : RA N (1 + c) gr ls ss (svd nw wq) nw row2 m = some (now2, r) := e2
        have el := lft_e (N := N) (T := T) (n := 1 + c) (row := row2) (now := nw) (w := w3 x a b) (by omega) hT (by omega) (tri_h hxT hT hx (by omega) (by omega) htri).1 (hrw row2 hrS)
        unfold RA at e2
        rw [bind_e el] at e2
        have e2 : fX12_finds N 10 (nI (1 + c)) (lft (w3 x a b) nw (1 + c)) gr ls ss row2 (svd nw wq) 0 (nI m) = some (now2, r) := e2
        have er : itr (fun z => fX12_letIn_l101b N th b0 nw ls ss (svd nw wq) gr (nI x) (nI c) (nI m) z.1 z.2.1 z.2.2) N ((1 : Int32), upd row1 (0 : Int32).toNatClampNeg (nI x), (0 : Int32)) = some (nI (1 + c), row2) := er
        rw [bind_e em, if_neg (show ¬ (1 : Int32) = 0 by decide), gdi_e (i := 0) (n := 12) 0 rfl (by decide) (by decide), bnd_e]
        rw [bind_e er, bind_e el, bind_e e2]
        rcases hor with ⟨q, hns⟩ | ⟨q, hsu⟩
        · subst q
          rw [if_pos (show (0 : Int32) = 0 from rfl), bind_e (bring_e (by omega) (svd nw wq) now2), bring_back K2, bnd_e, nI_1]
          refine Or.inl ⟨(nI (1 + c), nw, row2, nI (m + 1)), rfl, rfl, rfl, nx ?_⟩
          rintro ⟨-, -, row3, now3, hr3, e3⟩
          obtain ⟨now4, r4, e4, -, hor4⟩ := attM (wq := wq) hN h hF hs hxT hx hls (n := 1 + c) (by omega) (by omega) htri (hrw row3 hr3)
          rw [← emk, e3] at e4
          have e4 := congrArg (fun y => y.2) (Option.some.inj e4)
          have e4 : (1 : Int32) = r4 := e4
          rcases hor4 with ⟨q, -⟩ | ⟨-, hsu⟩
          · rw [q] at e4
            exact absurd e4 (by decide)
          · rw [← emk] at hsu
            exact hns hsu
        · subst q
          rw [if_neg (show ¬ (1 : Int32) = 0 by decide)]
          exact Or.inr ⟨_, rfl, Or.inr ⟨m, nI (1 + c), now2, row2, rfl, hm, ⟨c1, hmv, row2, now2, hrS, e2'⟩, hno, hrS, e2', K2⟩⟩
      · rw [bind_e em, if_pos (show (0 : Int32) = 0 from rfl), bnd_e, nI_1]
        exact Or.inl ⟨(rm1, nw, row1, nI (m + 1)), rfl, rfl, rfl, nx (fun q => hmv q.2.1)⟩
    · rw [if_neg (fun e => c1 ((nI_eq (by omega) (by omega)).mp e)), bnd_e, nI_1]
      exact Or.inl ⟨(rm1, nw, row1, nI (m + 1)), rfl, rfl, rfl, nx (fun q => c1 q.1)⟩
  · rintro ⟨rm1, nw, row1, v⟩ ⟨hv, hnw, hno⟩
    have hv : v = nI (2 ^ T) := hv
    subst hv
    have hnw : nw = now1 := hnw
    subst hnw
    refine ⟨.inl (rm1, nw, row1), ?_, Or.inl ⟨rm1, row1, rfl, hno⟩⟩
    show fX12_letIn_l57b N th b0 ls ss (svd nw wq) gr (nI x) (nI c) rm1 nw row1 (nI (2 ^ T)) = _
    unfold fX12_letIn_l57b
    rw [bind_e (things_e h.2.2.1.2.1), sl_T hT, if_pos (nI_le (Nat.le_refl _) (by omega))]
set_option maxHeartbeats 1000000 in
theorem sets_e {N T L P A x : Nat} {rl rt rp ra rf : Int32} {rc gr : Nat → Int64} {rP rF now1 dg vo lo sh he tn ls ss wq : Nat → Int32} (hN : 32 < N) (h : IR1 T L P A rl rt rp ra rf rc rP rF now1 gr) (hF : IF1 T L rF) (hs : IST T A dg vo lo sh he tn rc rF now1) (hxT : x < T) (hx : dg x = -1) (hls : ∀ j, j < T → ls j = lo j ∧ ss j = sh j) {th b0 rm : Int32} {row : Nat → Int32} (hN2 : 70000 < N) : ∃ r, itr (fun z => fX12_letIn_l50b N th b0 ls ss (svd now1 wq) gr (nI x) z.1 z.2.1 z.2.2.1 z.2.2.2) N (rm, now1, row, (0 : Int32)) = some r ∧ ((∃ rm2 row2, r = .inl (rm2, now1, row2) ∧ ∀ c, c < 3 → ∀ m, m < 2 ^ T → ¬ GS N T c x gr ls ss (svd now1 wq) now1 dg rF m) ∨ (∃ c, c < 3 ∧ (∀ c', c' < c → ∀ m, m < 2 ^ T → ¬ GS N T c' x gr ls ss (svd now1 wq) now1 dg rF m) ∧ (∃ (m : Nat) (rm2 : Int32) (now2 row2 : Nat → Int32), r = .inr (th, b0, rm2, now2, ls, ss, svd now1 wq, row2, nI c) ∧ m < 2 ^ T ∧ GS N T c x gr ls ss (svd now1 wq) now1 dg rF m ∧ (∀ m', m' < m → ¬ GS N T c x gr ls ss (svd now1 wq) now1 dg rF m') ∧ rowS T x m row2 ∧ RA N (1 + c) gr ls ss (svd now1 wq) now1 row2 m = some (now2, 1) ∧ K0 now1 now2))) := by
  refine itr_invx (fun (c : Nat) (z : Int32 × (Nat → Int32) × (Nat → Int32) × Int32) => z.2.2.2 = nI c ∧ z.2.1 = now1 ∧ ∀ c', c' < c → ∀ m, m < 2 ^ T → ¬ GS N T c' x gr ls ss (svd now1 wq) now1 dg rF m) (fun (r : (Int32 × (Nat → Int32) × (Nat → Int32)) ⊕ (Int32 × Int32 × Int32 × (Nat → Int32) × (Nat → Int32) × (Nat → Int32) × (Nat → Int32) × (Nat → Int32) × Int32)) => (∃ rm2 row2, r = .inl (rm2, now1, row2) ∧ ∀ c, c < 3 → ∀ m, m < 2 ^ T → ¬ GS N T c x gr ls ss (svd now1 wq) now1 dg rF m) ∨ (∃ c, c < 3 ∧ (∀ c', c' < c → ∀ m, m < 2 ^ T → ¬ GS N T c' x gr ls ss (svd now1 wq) now1 dg rF m) ∧ (∃ (m : Nat) (rm2 : Int32) (now2 row2 : Nat → Int32), r = .inr (th, b0, rm2, now2, ls, ss, svd now1 wq, row2, nI c) ∧ m < 2 ^ T ∧ GS N T c x gr ls ss (svd now1 wq) now1 dg rF m ∧ (∀ m', m' < m → ¬ GS N T c x gr ls ss (svd now1 wq) now1 dg rF m') ∧ rowS T x m row2 ∧ RA N (1 + c) gr ls ss (svd now1 wq) now1 row2 m = some (now2, 1) ∧ K0 now1 now2))) (b := 3) (by omega) ⟨rfl, rfl, fun c' hc => absurd hc (Nat.not_lt_zero c')⟩ ?_ ?_
  · rintro c ⟨rm1, nw, row1, v⟩ hc ⟨hv, hnw, hno⟩
    have hv : v = nI c := hv
    subst hv
    have hnw : nw = now1 := hnw
    subst hnw
    obtain ⟨r, e1, hor⟩ := masks_e (wq := wq) (c := c) (th := th) (b0 := b0) (rm := rm1) (row := row1) hN h hF hs hxT hx hls hN2 (by omega)
    show (∃ s', fX12_letIn_l50b N th b0 ls ss (svd nw wq) gr (nI x) rm1 nw row1 (nI c) = some (.inl s') ∧ _) ∨ (∃ r, fX12_letIn_l50b N th b0 ls ss (svd nw wq) gr (nI x) rm1 nw row1 (nI c) = some (.inr r) ∧ _)
    unfold fX12_letIn_l50b
    rw [if_neg (show ¬ (3 : Int32) ≤ nI c from nI_ge (b := 3) hc (by decide)), bind_e e1]
    rcases hor with ⟨rm2, row2, rfl, hn2⟩ | ⟨m, rm2, now2, row2, rfl, g⟩
    · rw [Sum.elim_inl, bnd_e, nI_1]
      refine Or.inl ⟨(rm2, nw, row2, nI (c + 1)), rfl, rfl, rfl, fun c' hc' => ?_⟩
      by_cases e : c' = c
      · subst e
        exact hn2
      · exact hno c' (by omega)
    · rw [Sum.elim_inr]
      exact Or.inr ⟨_, rfl, Or.inr ⟨c, hc, hno, m, rm2, now2, row2, rfl, g⟩⟩
  · rintro ⟨rm1, nw, row1, v⟩ ⟨hv, hnw, hno⟩
    have hv : v = nI 3 := hv
    subst hv
    have hnw : nw = now1 := hnw
    subst hnw
    refine ⟨.inl (rm1, nw, row1), ?_, Or.inl ⟨rm1, row1, rfl, hno⟩⟩
    show fX12_letIn_l50b N th b0 ls ss (svd nw wq) gr (nI x) rm1 nw row1 (nI 3) = _
    unfold fX12_letIn_l50b
    rw [if_pos (show (3 : Int32) ≤ nI 3 from nI_le (a := 3) (Nat.le_refl 3) (by decide))]

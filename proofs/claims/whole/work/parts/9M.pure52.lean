/-! LETIN: one attempt, in both -/
abbrev C16 : Type := Int32 × Int32 × (Nat → Int32) × (Nat → Int32) × (Nat → Int32) × (Nat → Int32) × (Nat → Int32) × (Nat → Int32) × (Nat → Int32) × (Nat → Int32) × (Nat → Int32) × (Nat → Int32) × (Nat → Int32) × (Nat → Int32) × (Nat → Int32) × Int32
/-- the class's attempt to let x in while a and b move -/
def AT (N T P A : Nat) (rc : Nat → Int64) (rF rP : Nat → Int32) (x : Int32) (z : C16) (a b : Int32) : Option C16 := fX6_admitMoving N z.1 z.2.1 z.2.2.1 z.2.2.2.1 z.2.2.2.2.1 z.2.2.2.2.2.1 z.2.2.2.2.2.2.1 z.2.2.2.2.2.2.2.1 z.2.2.2.2.2.2.2.2.1 z.2.2.2.2.2.2.2.2.2.1 z.2.2.2.2.2.2.2.2.2.2.1 z.2.2.2.2.2.2.2.2.2.2.2.1 z.2.2.2.2.2.2.2.2.2.2.2.2.1 z.2.2.2.2.2.2.2.2.2.2.2.2.2.1 (nI T) (nI P) (nI A) z.2.2.2.2.2.2.2.2.2.2.2.2.2.2.1 rc rF rP x a b
/-- who stands is as it was -/
def SS (dg vo lo sh he tn : Nat → Int32) (z : C16) : Prop := z.2.2.1 = dg ∧ z.2.2.2.2.1 = vo ∧ z.2.2.2.2.2.2.1 = lo ∧ z.2.2.2.2.2.2.2.2.1 = sh ∧ z.2.2.2.2.2.2.2.2.2.2.1 = he ∧ z.2.2.2.2.2.2.2.2.2.2.2.2.1 = tn
def lft (w : Nat → Nat) (now : Nat → Int32) : Nat → Nat → Int32
  | 0 => now
  | i + 1 => upd (upd (lft w now i) (340 + 2 * w i) (-1)) (341 + 2 * w i) 0
theorem lft_e {N T n : Nat} {row now : Nat → Int32} {w : Nat → Nat} (hN : 16 < N) (hT : T ≤ 16) (hn : n ≤ 4) (hw : ∀ j, j < n → w j < T) (hr : ∀ j, j < n → row j = nI (w j)) : fX12_liftRow N (nI n) row now = some (lft w now n) := by
  unfold fX12_liftRow
  have key : itr (fun z => fX12_liftRow_l2b N (nI n) row z.1 z.2) N (now, (0 : Int32)) = some (lft w now n) := by
    refine itr_0 (fun i => (lft w now i, nI i)) n (n := N) (by omega) ?_ (fun i hi => ?_)
    · show fX12_liftRow_l2b N (nI n) row (lft w now n) (nI n) = _
      unfold fX12_liftRow_l2b
      rw [if_pos (nI_le (Nat.le_refl n) (by omega))]
    · have hwi := hw i hi
      show fX12_liftRow_l2b N (nI n) row (lft w now i) (nI i) = _
      unfold fX12_liftRow_l2b
      rw [if_neg (nI_ge hi (by omega)), gdi_nI (by omega) (by decide), nI_clamp (by omega), hr i hi, bind_e (putM_e (by omega) _ (-1) 0), bnd_e, nI_1]
      rfl
  rw [bind_e key]
/-- i lifted, in both -/
def LI (T A i : Nat) (w : Nat → Nat) (rc : Nat → Int64) (rF now1 lo sh wa dg vo he tn : Nat → Int32) : Prop := K0 now1 (lft w now1 i) ∧ IST T A dg vo lo sh he tn rc rF (lft w now1 i) ∧ (∀ k, k < i → wa k = nI (w k)) ∧ ∀ k, k < i → dg (w k) = -1
theorem LI_s {N T L A i : Nat} {w : Nat → Nat} {rc : Nat → Int64} {rF now1 lo sh wa dg vo he tn : Nat → Int32} (hN : 16 < N) (hT : T ≤ 16) (hA : A ≤ 300) (hF : IF1 T L rF) (hi : i < 4) (hw : w i < T) (h : LI T A i w rc rF now1 lo sh wa dg vo he tn) : ∃ vo2 he2 tn2, fX6_want N (nI i) (nI T) (nI A) wa dg vo rc he lo sh tn (nI (w i)) = some (nI (i + 1), upd wa i (nI (w i)), upd dg (w i) (-1), vo2, he2, tn2) ∧ LI T A (i + 1) w rc rF now1 lo sh (upd wa i (nI (w i))) (upd dg (w i) (-1)) vo2 he2 tn2 := by
  obtain ⟨K2, S2, W2, U2⟩ := h
  obtain ⟨v3, h3, m3, e3, H3, V3⟩ := want_e (N := N) (wa := wa) (i := i) hN hT hA hw hi (IST_WS S2 hF) S2.2.2
  refine ⟨v3, h3, m3, e3, K0_put K2 (by omega), ⟨?_, S2.2.1, H3⟩, fun k hk => ?_, fun k hk => ?_⟩
  · have hx3 : IS1x T (w i) (upd dg (w i) (-1)) v3 (lft w now1 i) := by
      intro s' hs1 hst
      rw [pk_un hst, V3 s' hst]
      exact S2.1 s' hs1
    exact IS1x_take hx3 pk_us
  · by_cases q : k = i
    · rw [q, pk_us]
    · rw [pk_un q]
      exact W2 k (by omega)
  · by_cases q : w k = w i
    · rw [q, pk_us]
    · rw [pk_un q]
      exact U2 k (by
        by_cases z : k = i
        · exact absurd (by rw [z]) q
        · omega)
/-- the things that are told of: x, and those that move -/
def w3 (x a b : Nat) (j : Nat) : Nat := if j = 0 then x else if j = 1 then a else b
def ag (n k : Nat) (t : Nat) : Int32 := if k < n then nI t else -1
theorem wants_e {N T L P A n x a b : Nat} {rl rt rp ra rf : Int32} {rc gr : Nat → Int64} {rP rF now1 dg vo lo sh he tn wa : Nat → Int32} (hN : 16 < N) (h : IR1 T L P A rl rt rp ra rf rc rP rF now1 gr) (hF : IF1 T L rF) (hs : IST T A dg vo lo sh he tn rc rF now1) (hn1 : 1 ≤ n) (hn : n ≤ 3) (hw : ∀ j, j < n → w3 x a b j < T) : ∃ wa2 dg2 vo2 he2 tn2, ((fX6_want N 0 (nI T) (nI A) wa dg vo rc he lo sh tn (nI x)).bind fun o2 => (fX6_want N o2.1 (nI T) (nI A) o2.2.1 o2.2.2.1 o2.2.2.2.1 rc o2.2.2.2.2.1 lo sh o2.2.2.2.2.2 (ag n 1 a)).bind fun o3 => fX6_want N o3.1 (nI T) (nI A) o3.2.1 o3.2.2.1 o3.2.2.2.1 rc o3.2.2.2.2.1 lo sh o3.2.2.2.2.2 (ag n 2 b)) = some (nI n, wa2, dg2, vo2, he2, tn2) ∧ LI T A n (w3 x a b) rc rF now1 lo sh wa2 dg2 vo2 he2 tn2 := by
  have hT : T ≤ 16 := h.1.1
  have hA : A ≤ 300 := h.1.2.2.2
  have L0 : LI T A 0 (w3 x a b) rc rF now1 lo sh wa dg vo he tn := ⟨fun j _ => rfl, hs, fun k hk => absurd hk (Nat.not_lt_zero k), fun k hk => absurd hk (Nat.not_lt_zero k)⟩
  obtain ⟨vo2, he2, tn2, e1, L1⟩ := LI_s (N := N) hN hT hA hF (by omega) (hw 0 (by omega)) L0
  have e1 : fX6_want N 0 (nI T) (nI A) wa dg vo rc he lo sh tn (nI x) = some (nI 1, upd wa 0 (nI x), upd dg x (-1), vo2, he2, tn2) := e1
  rw [bind_e e1]
  show ∃ wa2 dg2 vo2' he2' tn2', ((fX6_want N (nI 1) (nI T) (nI A) (upd wa 0 (nI x)) (upd dg x (-1)) vo2 rc he2 lo sh tn2 (ag n 1 a)).bind _) = _ ∧ _
  by_cases c1 : 1 < n
  · obtain ⟨vo3, he3, tn3, e2, L2⟩ := LI_s (N := N) hN hT hA hF (by omega) (hw 1 c1) L1
    have e2 : fX6_want N (nI 1) (nI T) (nI A) (upd wa 0 (nI x)) (upd dg x (-1)) vo2 rc he2 lo sh tn2 (ag n 1 a) = some (nI 2, upd (upd wa 0 (nI x)) 1 (nI a), upd (upd dg x (-1)) a (-1), vo3, he3, tn3) := by
      unfold ag
      rw [if_pos c1]
      exact e2
    rw [bind_e e2]
    show ∃ wa2 dg2 vo2' he2' tn2', fX6_want N (nI 2) (nI T) (nI A) (upd (upd wa 0 (nI x)) 1 (nI a)) (upd (upd dg x (-1)) a (-1)) vo3 rc he3 lo sh tn3 (ag n 2 b) = _ ∧ _
    by_cases c2 : 2 < n
    · obtain ⟨vo4, he4, tn4, e3, L3⟩ := LI_s (N := N) hN hT hA hF (by omega) (hw 2 c2) L2
      have e : n = 3 := by omega
      subst e
      exact ⟨_, _, vo4, he4, tn4, e3, L3⟩
    · have e : n = 2 := by omega
      subst e
      unfold ag
      rw [if_neg (show ¬ 2 < 2 by decide), want_no (show (-1 : Int32) < 0 by decide)]
      exact ⟨_, _, _, _, _, rfl, L2⟩
  · have e : n = 1 := by omega
    subst e
    unfold ag
    rw [if_neg (show ¬ 1 < 1 by decide), if_neg (show ¬ 2 < 1 by decide), want_no (show (-1 : Int32) < 0 by decide)]
    show ∃ wa2 dg2 vo2' he2' tn2', fX6_want N (nI 1) (nI T) (nI A) (upd wa 0 (nI x)) (upd dg x (-1)) vo2 rc he2 lo sh tn2 (-1) = _ ∧ _
    rw [want_no (show (-1 : Int32) < 0 by decide)]
    exact ⟨_, _, _, _, _, rfl, L1⟩
/-- the reference's attempt -/
def RA (N n : Nat) (gr : Nat → Int64) (ls ss was now1 row : Nat → Int32) (m : Nat) : Option ((Nat → Int32) × Int32) := (fX12_liftRow N (nI n) row now1).bind fun o => fX12_finds N 10 (nI n) o gr ls ss row was 0 (nI m)
set_option maxHeartbeats 1000000 in
theorem att_e {N T L P A n x a b m : Nat} {rl rt rp ra rf : Int32} {rc gr : Nat → Int64} {rP rF now1 dg vo lo sh he tn ls ss wq row : Nat → Int32} {z : C16} (hN : 32 < N) (h : IR1 T L P A rl rt rp ra rf rc rP rF now1 gr) (hF : IF1 T L rF) (hs : IST T A dg vo lo sh he tn rc rF now1) (hn1 : 1 ≤ n) (hn : n ≤ 3) (hw : ∀ j, j < n → w3 x a b j < T) (hne : ∀ i j, i < j → j < n → w3 x a b i ≠ w3 x a b j) (hx : dg x = -1) (hup : ∀ j, 1 ≤ j → j < n → ¬ dg (w3 x a b j) = -1) (hm : m < 2 ^ 16) (hmx : m.testBit x = false) (hmb : ∀ j, 1 ≤ j → j < n → m.testBit (w3 x a b j) = true) (hls : ∀ j, j < T → ls j = lo j ∧ ss j = sh j) (hr : ∀ j, j < n → row j = nI (w3 x a b j)) (hz : SS dg vo lo sh he tn z) : ∃ (o : C16) (now2 : Nat → Int32), AT N T P A rc rF rP (nI x) z (ag n 1 a) (ag n 2 b) = some o ∧ RA N n gr ls ss (svd now1 wq) now1 row m = some (now2, o.2.2.2.2.2.2.2.2.2.2.2.2.2.2.2) ∧ K0 now1 now2 ∧ ((o.2.2.2.2.2.2.2.2.2.2.2.2.2.2.2 = 0 ∧ SS dg vo lo sh he tn o) ∨ (o.2.2.2.2.2.2.2.2.2.2.2.2.2.2.2 = 1 ∧ IST T A o.2.2.1 o.2.2.2.2.1 o.2.2.2.2.2.2.1 o.2.2.2.2.2.2.2.2.1 o.2.2.2.2.2.2.2.2.2.2.1 o.2.2.2.2.2.2.2.2.2.2.2.2.1 rc rF now2)) := by
  have hT : T ≤ 16 := h.1.1
  obtain ⟨z_len, z_ot, z_dg, z_d1, z_vo, z_v1, z_lo, z_l1, z_sh, z_s1, z_he, z_h1, z_tn, z_m1, z_wa, z_v⟩ := z
  obtain ⟨q1, q2, q3, q4, q5, q6⟩ := hz
  have q1 : z_dg = dg := q1
  have q2 : z_vo = vo := q2
  have q3 : z_lo = lo := q3
  have q4 : z_sh = sh := q4
  have q5 : z_he = he := q5
  have q6 : z_tn = tn := q6
  subst q1 q2 q3 q4 q5 q6
  show ∃ (o : C16) (now2 : Nat → Int32), fX6_admitMoving N z_len z_ot z_dg z_d1 z_vo z_v1 z_lo z_l1 z_sh z_s1 z_he z_h1 z_tn z_m1 (nI T) (nI P) (nI A) z_wa rc rF rP (nI x) (ag n 1 a) (ag n 2 b) = some o ∧ (fX12_liftRow N (nI n) row now1).bind _ = _ ∧ _
  unfold fX6_admitMoving
  obtain ⟨d, v, l, s, hh, mm, ec, a1, a2, a3, a4, a5, a6⟩ := copy_e z_dg z_d1 z_vo z_v1 z_lo z_l1 z_sh z_s1 z_he z_h1 z_tn z_m1
  have hs0 := IST_cong hT a1 a2 a3 a4 a5 a6 hs
  obtain ⟨wa2, dg2, vo2, he2, tn2, ew, K2, S2, W2, U2⟩ := wants_e (N := N) (a := a) (b := b) (wa := z_wa) (by omega) h hF hs0 hn1 hn hw
  rw [bind_e ec, bind_e (lft_e (T := T) (w := w3 x a b) (by omega) hT (by omega) hw hr)]
  have hass : ∀ (k : (Int32 × (Nat → Int32) × (Nat → Int32) × (Nat → Int32) × (Nat → Int32) × (Nat → Int32)) → Option C16), ((fX6_want N 0 (nI T) (nI A) z_wa d v rc hh l s mm (nI x)).bind fun o2 => (fX6_want N o2.1 (nI T) (nI A) o2.2.1 o2.2.2.1 o2.2.2.2.1 rc o2.2.2.2.2.1 l s o2.2.2.2.2.2 (ag n 1 a)).bind fun o3 => (fX6_want N o3.1 (nI T) (nI A) o3.2.1 o3.2.2.1 o3.2.2.2.1 rc o3.2.2.2.2.1 l s o3.2.2.2.2.2 (ag n 2 b)).bind k) = k (nI n, wa2, dg2, vo2, he2, tn2) := by
    intro k
    have := congrArg (fun y => y.bind k) ew
    cases e1 : fX6_want N 0 (nI T) (nI A) z_wa d v rc hh l s mm (nI x) with
    | none =>
      rw [e1] at this
      exact this
    | some o2 =>
      rw [e1] at this
      cases e2 : fX6_want N o2.1 (nI T) (nI A) o2.2.1 o2.2.2.1 o2.2.2.2.1 rc o2.2.2.2.2.1 l s o2.2.2.2.2.2 (ag n 1 a) with
      | none =>
        have this : ((fX6_want N o2.1 (nI T) (nI A) o2.2.1 o2.2.2.1 o2.2.2.2.1 rc o2.2.2.2.2.1 l s o2.2.2.2.2.2 (ag n 1 a)).bind fun o3 => fX6_want N o3.1 (nI T) (nI A) o3.2.1 o3.2.2.1 o3.2.2.2.1 rc o3.2.2.2.2.1 l s o3.2.2.2.2.2 (ag n 2 b)).bind k = _ := this
        rw [e2] at this
        show (fX6_want N o2.1 (nI T) (nI A) o2.2.1 o2.2.2.1 o2.2.2.2.1 rc o2.2.2.2.2.1 l s o2.2.2.2.2.2 (ag n 1 a)).bind _ = _
        rw [e2]
        exact this
      | some o3 =>
        have this : ((fX6_want N o2.1 (nI T) (nI A) o2.2.1 o2.2.2.1 o2.2.2.2.1 rc o2.2.2.2.2.1 l s o2.2.2.2.2.2 (ag n 1 a)).bind fun o3 => fX6_want N o3.1 (nI T) (nI A) o3.2.1 o3.2.2.1 o3.2.2.2.1 rc o3.2.2.2.2.1 l s o3.2.2.2.2.2 (ag n 2 b)).bind k = _ := this
        rw [e2] at this
        show (fX6_want N o2.1 (nI T) (nI A) o2.2.1 o2.2.2.1 o2.2.2.2.1 rc o2.2.2.2.2.1 l s o2.2.2.2.2.2 (ag n 1 a)).bind _ = _
        rw [e2]
        exact this
  have hsk : ∀ j p v, j < n → p < P → v < 4 → (fun t p v => decide (z_dg t = rP p) && decide (z_vo t = nI v)) (w3 x a b j) p v = (decide (¬ hv (nI m) (nI (w3 x a b j)) = 0) && (decide (svd now1 wq (2 * w3 x a b j) = rP p) && decide (svd now1 wq (2 * w3 x a b j + 1) = nI v))) := by
    intro j p v hj hp hv4
    have hwj := hw j hj
    show (decide (z_dg (w3 x a b j) = rP p) && decide (z_vo (w3 x a b j) = nI v)) = _
    have f1 : svd now1 wq (2 * w3 x a b j) = now1 (340 + 2 * w3 x a b j) := fa_fill_in (by omega)
    have f2 : svd now1 wq (2 * w3 x a b j + 1) = now1 (340 + (2 * w3 x a b j + 1)) := fa_fill_in (by omega)
    rw [f1, f2, ← (hs.1 (w3 x a b j) (by omega)).1, hv_bit (by omega) (by omega)]
    by_cases c : j = 0
    · have e : w3 x a b j = x := by rw [c]; rfl
      obtain ⟨pd, hpd, epd⟩ := (h.2.2.2.1 p hp).2
      rw [e, hmx, if_neg (show ¬ false = true by decide), decide_eq_false (show ¬ ¬ (0 : Int32) = 0 from fun q => q rfl), Bool.false_and, hx, epd, decide_eq_false (fun q => nI_m1 (show pd < 2 ^ 31 by omega) q.symm), Bool.false_and]
    · have hu := hup j (by omega) hj
      rw [hmb j (by omega) hj, if_pos rfl, decide_eq_true (show ¬ (1 : Int32) = 0 by decide), Bool.true_and]
      rcases (hs.1 (w3 x a b j) (by omega)).2 with q | ⟨-, -, vv, hvv, ev1, ev2⟩
      · exact absurd q hu
      · rw [ev1, show 340 + (2 * w3 x a b j + 1) = 341 + 2 * w3 x a b j by omega, ev2]
  have hsc : ∀ j p v, j < n → p < P → v < 4 → (fun t p v => decide (z_dg t = rP p) && decide (z_vo t = nI v)) (w3 x a b j) p v = (decide (¬ (1 : Int32) = 0) && (decide (z_dg (w3 x a b j) = rP p) && decide (z_vo (w3 x a b j) = nI v))) := fun j p v _ _ _ => by
    rw [decide_eq_true (show ¬ (1 : Int32) = 0 by decide), Bool.true_and]
  have hls2 : ∀ j, j < T → ls j = l j ∧ ss j = s j := fun j hj => by
    rw [a3 j (by omega), a4 j (by omega)]
    exact hls j hj
  show ∃ (o : C16) (now2 : Nat → Int32), ((fX6_want N 0 (nI T) (nI A) z_wa d v rc hh l s mm (nI x)).bind fun o2 => (fX6_want N o2.1 (nI T) (nI A) o2.2.1 o2.2.2.1 o2.2.2.2.1 rc o2.2.2.2.2.1 l s o2.2.2.2.2.2 (ag n 1 a)).bind fun o3 => (fX6_want N o3.1 (nI T) (nI A) o3.2.1 o3.2.2.1 o3.2.2.2.1 rc o3.2.2.2.2.1 l s o3.2.2.2.2.2 (ag n 2 b)).bind _) = some o ∧ _
  rw [hass, bind_e (isRight_e (by omega) hT S2.2.2)]
  by_cases c : fw T A dg2 vo2 l s rF rc = -1
  · obtain ⟨dg3, vo3, he3, tn3, now3, r, e5, e6, K3, S3, hor⟩ := lf_e (N := N) (P := P) (n := n) (st := nI m) (ot := 1) (ls := ls) (ss := ss) (row := row) (was := svd now1 wq) (wa := wa2) (sd := z_dg) (sv := z_vo) (sk := fun t p v => decide (z_dg t = rP p) && decide (z_vo t = nI v)) (by omega) h hF S2.2.1 hls2 (by omega) hw hne hr W2 hsk hsc 10 0 dg2 vo2 he2 tn2 (lft (w3 x a b) now1 n) (by omega) (by omega) K2 S2 c (fun j _ hj => U2 j hj)
    have e5 : fX6_placeFrom N 10 (nI n) 1 wa2 (nI T) (nI P) (nI A) rP rF z_dg z_vo dg2 vo2 rc he2 l s tn2 0 = some (dg3, vo3, he3, tn3, r) := e5
    have e6 : fX12_finds N 10 (nI n) (lft (w3 x a b) now1 n) gr ls ss row (svd now1 wq) 0 (nI m) = some (now3, r) := e6
    rw [if_pos c, if_neg (show ¬ (1 : Int32) = 0 by decide), bind_e e5]
    rcases hor with q | ⟨q, -, -⟩
    · subst q
      obtain ⟨d', v', l', s', hh', mm', ec', b1, b2, b3, b4, b5, b6⟩ := copy_e dg3 z_dg vo3 z_vo l z_lo s z_sh he3 z_he tn3 z_tn
      rw [if_neg (show ¬ (1 : Int32) = 0 by decide), bind_e ec']
      exact ⟨_, now3, rfl, e6, K3, Or.inr ⟨rfl, IST_cong hT b1 b2 b3 b4 b5 b6 S3⟩⟩
    · subst q
      rw [if_pos (show (0 : Int32) = 0 from rfl)]
      exact ⟨_, now3, rfl, e6, K3, Or.inl ⟨rfl, rfl, rfl, rfl, rfl, rfl, rfl⟩⟩
  · obtain ⟨now3, e6, K3, S3⟩ := df_e (N := N) (P := P) (n := n) (st := nI m) (ls := ls) (ss := ss) (row := row) (was := svd now1 wq) (sk := fun t p v => decide (z_dg t = rP p) && decide (z_vo t = nI v)) (by omega) h hF S2.2.1 hls2 (by omega) hw hne hr hsk 10 0 (lft (w3 x a b) now1 n) dg2 vo2 (by omega) (by omega) K2 S2.1 c (fun j _ hj => U2 j hj)
    have e6 : fX12_finds N 10 (nI n) (lft (w3 x a b) now1 n) gr ls ss row (svd now1 wq) 0 (nI m) = some (now3, 0) := e6
    rw [if_neg c, if_pos (show (0 : Int32) = 0 from rfl)]
    exact ⟨_, now3, rfl, e6, K3, Or.inl ⟨rfl, rfl, rfl, rfl, rfl, rfl, rfl⟩⟩

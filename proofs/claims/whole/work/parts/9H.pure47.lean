/-! FIND, the whole -/
theorem takeFree_e {N T L P A : Nat} {rl rt rp ra rf b rm tl ml rw0 : Int32} {rc gr : Nat → Int64} {rP rF now now1 t u row rowM : Nat → Int32} (hN : 16 < N) (hI : IT tl t ml u) (h : IR1 T L P A rl rt rp ra rf rc rP rF now1 gr) (hl : LY N b now now1) : (∃ rl2 row2 rm2 rowM2, fX11_takeLiving N tl rw0 t (nI T) row rF = some (0, rl2, row2, 0) ∧ fX12_takeFree N ml b rm now u rowM 4 = some (0, 1, rm2, now1, rowM2, 0)) ∨ ∃ (n : Nat) (w : Nat → Nat) (row2 rowM2 : Nat → Int32), 1 ≤ n ∧ n ≤ 4 ∧ (∀ k, k < n → w k < T) ∧ (∀ i j, i < j → j < n → w i ≠ w j) ∧ (∀ k, k < n → row2 k = nI (w k)) ∧ (∀ k, k < n → rowM2 k = nI (w k)) ∧ (∀ k, k < n → rF (14 * w k + 8) = -1) ∧ fX11_takeLiving N tl rw0 t (nI T) row rF = some (0, nI n, row2, 1) ∧ fX12_takeFree N ml b rm now u rowM 4 = some (0, 1, nI n, now1, rowM2, 1) := by
  have hT : T ≤ 16 := h.1.1
  unfold fX11_takeLiving fX12_takeFree
  rcases takeRow_e (N := N) (a := 1) (c := 4) (rw0 := rw0) (rm := rm) (row := row) (rowM := rowM) (by omega) hI h hl (by omega) (by omega) with ⟨rl2, row2, rm2, rowM2, e1, e2⟩ | ⟨n, w, row2, rowM2, h1, h4, hw, hne, hr, hrM, e1, e2⟩
  · have e1 : fX11_takeRow N tl rw0 t (nI T) row 1 4 = some (0, rl2, row2, 0) := e1
    have e2 : fX12_takeRow N ml b rm now u rowM 1 4 = some (0, 1, rm2, now1, rowM2, 0) := e2
    left
    refine ⟨rl2, row2, rm2, rowM2, ?_, ?_⟩
    · rw [bind_e e1, if_pos rfl]
    · rw [bind_e e2, if_pos rfl]
  · have e1 : fX11_takeRow N tl rw0 t (nI T) row 1 4 = some (0, nI n, row2, 1) := e1
    have e2 : fX12_takeRow N ml b rm now u rowM 1 4 = some (0, 1, nI n, now1, rowM2, 1) := e2
    have f1 := itr_firstR (body := fun z => fX11_takeLiving_l13b N 0 (nI n) t (nI T) row2 rF z) (N := N) (T := n) (fun k => decide (¬ rF (14 * w k + 8) = -1)) (fun _ => ((0 : Int32), nI n, row2, (0 : Int32))) (by omega) (by
      show fX11_takeLiving_l13b N 0 (nI n) t (nI T) row2 rF (nI n) = _
      unfold fX11_takeLiving_l13b
      rw [if_pos (nI_le (Nat.le_refl n) (by omega))]) (fun k hk => by
      have hwk := hw k hk
      show fX11_takeLiving_l13b N 0 (nI n) t (nI T) row2 rF (nI k) = _
      unfold fX11_takeLiving_l13b
      rw [if_neg (nI_ge hk (by omega)), gdi_nI (by omega) (by decide), nI_clamp (by omega), hr k hk, bind_e (isDeadC_e (by omega) rF)]
      by_cases c : rF (14 * w k + 8) = -1
      · rw [if_pos c, if_pos rfl, if_neg (show ¬ decide (¬ rF (14 * w k + 8) = -1) = true by rw [decide_eq_true_eq]; exact fun q => q c), bnd_e, nI_1]
      · rw [if_neg c, if_neg (show ¬ (1 : Int32) = 0 by decide), if_pos (show decide (¬ rF (14 * w k + 8) = -1) = true from decide_eq_true c)])
    have f2 := itr_firstR (body := fun z => fX12_takeFree_l13b N 0 1 (nI n) now1 u rowM2 z) (N := N) (T := n) (fun k => decide (¬ rF (14 * w k + 8) = -1)) (fun _ => ((0 : Int32), (1 : Int32), nI n, now1, rowM2, (0 : Int32))) (by omega) (by
      show fX12_takeFree_l13b N 0 1 (nI n) now1 u rowM2 (nI n) = _
      unfold fX12_takeFree_l13b
      rw [if_pos (nI_le (Nat.le_refl n) (by omega))]) (fun k hk => by
      have hwk := hw k hk
      show fX12_takeFree_l13b N 0 1 (nI n) now1 u rowM2 (nI k) = _
      unfold fX12_takeFree_l13b
      rw [if_neg (nI_ge hk (by omega)), gdi_nI (by omega) (by decide), nI_clamp (by omega), hrM k hk, bind_e (isDeadM_e (by omega) now1), ← h.2.2.2.2.1 (w k) hwk 8 (by decide)]
      by_cases c : rF (14 * w k + 8) = -1
      · rw [if_pos c, if_pos rfl, if_neg (show ¬ decide (¬ rF (14 * w k + 8) = -1) = true by rw [decide_eq_true_eq]; exact fun q => q c), bnd_e, nI_1]
      · rw [if_neg c, if_neg (show ¬ (1 : Int32) = 0 by decide), if_pos (show decide (¬ rF (14 * w k + 8) = -1) = true from decide_eq_true c)])
    rw [bind_e e1, if_neg (show ¬ (1 : Int32) = 0 by decide), bind_e e2, if_neg (show ¬ (1 : Int32) = 0 by decide)]
    by_cases c : fa_first (fun k => decide (¬ rF (14 * w k + 8) = -1)) n < n
    · rw [if_pos c] at f1 f2
      left
      refine ⟨nI n, row2, nI n, rowM2, ?_, ?_⟩
      · show (itr (fun z => fX11_takeLiving_l13b N 0 (nI n) t (nI T) row2 rF z) N (0 : Int32)).bind _ = _
        rw [bind_e f1, Sum.elim_inr]
      · show (itr (fun z => fX12_takeFree_l13b N 0 1 (nI n) now1 u rowM2 z) N (0 : Int32)).bind _ = _
        rw [bind_e f2, Sum.elim_inr]
    · rw [if_neg c] at f1 f2
      right
      refine ⟨n, w, row2, rowM2, h1, h4, hw, hne, hr, hrM, fun k hk => ?_, ?_, ?_⟩
      · have := fa_first_no (fun k => decide (¬ rF (14 * w k + 8) = -1)) n k (by omega)
        by_cases q : rF (14 * w k + 8) = -1
        · exact q
        · have this : decide (¬ rF (14 * w k + 8) = -1) = false := this
          rw [decide_eq_true q] at this
          exact absurd this (by decide)
      · show (itr (fun z => fX11_takeLiving_l13b N 0 (nI n) t (nI T) row2 rF z) N (0 : Int32)).bind _ = _
        rw [bind_e f1, Sum.elim_inl]
      · show (itr (fun z => fX12_takeFree_l13b N 0 1 (nI n) now1 u rowM2 z) N (0 : Int32)).bind _ = _
        rw [bind_e f2, Sum.elim_inl]
theorem want_e {N T A t i : Nat} {wa dg vo he lo sh tn : Nat → Int32} {rc : Nat → Int64} (hN : 16 < N) (hT : T ≤ 16) (hA : A ≤ 300) (ht : t < T) (hi : i < 4) (hW : WS T dg lo sh) (hH : IH T A dg vo lo sh he tn rc) : ∃ vo2 he2 tn2, fX6_want N (nI i) (nI T) (nI A) wa dg vo rc he lo sh tn (nI t) = some (nI (i + 1), upd wa i (nI t), upd dg t (-1), vo2, he2, tn2) ∧ IH T A (upd dg t (-1)) vo2 lo sh he2 tn2 rc ∧ ∀ s, s ≠ t → vo2 s = vo s := by
  unfold fX6_want
  rw [bind_e (has_yes ht hT), if_neg (show ¬ (1 : Int32) = 0 by decide), if_pos (show nI i < 4 from nI_lt (b := 4) hi (by decide)), gdi_nI (by omega) (by decide), bnd_e, bnd_e, nI_clamp (by omega), nI_1, bind_e (isUpC_e (by omega) dg)]
  by_cases c : dg t = -1
  · rw [if_pos c, if_pos rfl, upd_id c]
    exact ⟨vo, he, tn, rfl, hH, fun s _ => rfl⟩
  · rw [if_neg c, if_neg (show ¬ (1 : Int32) = 0 by decide), bind_e (take_e hN hT hA ht hW)]
    refine ⟨_, _, _, rfl, IH_take ht hT hH, fun s hs => ?_⟩
    exact pk_un hs
theorem want_no {N T i : Nat} {A : Int32} {x : Int32} {wa dg vo he lo sh tn : Nat → Int32} {rc : Nat → Int64} (hx : x < 0) : fX6_want N (nI i) (nI T) A wa dg vo rc he lo sh tn x = some (nI i, wa, dg, vo, he, tn) := by
  unfold fX6_want
  rw [bind_e (has_no (Or.inl hx)), if_pos rfl]
/-- the rows lifted, in both -/
theorem lift_e {N T L P A n : Nat} {rl rt rp ra rf : Int32} {rc gr : Nat → Int64} {rP rF now1 dg vo lo sh he tn d1 v1 l1 s1 h1 m1 row rowM wa : Nat → Int32} {len ot : Int32} {w : Nat → Nat} (hN : 16 < N) (h : IR1 T L P A rl rt rp ra rf rc rP rF now1 gr) (hF : IF1 T L rF) (hs : IST T A dg vo lo sh he tn rc rF now1) (hn : n ≤ 4) (hw : ∀ k, k < n → w k < T) (hr : ∀ k, k < n → row k = nI (w k)) (hrM : ∀ k, k < n → rowM k = nI (w k)) : ∃ dg2 vo2 lo2 sh2 he2 tn2 wa2 now2, fX6_begin N 12 len ot dg d1 vo v1 lo l1 sh s1 he h1 tn m1 row (nI T) (nI A) wa rc (nI n) = some (nI n, 0, dg2, vo2, lo2, sh2, he2, tn2, wa2) ∧ fX12_liftRow N (nI n) rowM now1 = some now2 ∧ K0 now1 now2 ∧ IST T A dg2 vo2 lo2 sh2 he2 tn2 rc rF now2 ∧ (∀ k, k < n → wa2 k = nI (w k)) ∧ (∀ k, k < n → dg2 (w k) = -1) ∧ E16 lo2 lo ∧ E16 sh2 sh := by
  have hT : T ≤ 16 := h.1.1
  have hA : A ≤ 300 := h.1.2.2.2
  obtain ⟨d, v, l, s, hh, m, ec, a1, a2, a3, a4, a5, a6⟩ := copy_e dg d1 vo v1 lo l1 sh s1 he h1 tn m1
  have hs0 := IST_cong hT a1 a2 a3 a4 a5 a6 hs
  unfold fX6_begin fX12_liftRow
  rw [bind_e ec]
  have key : ∃ r q, itr (fun z => fX6_begin_l23b N 12 0 dg vo lo l sh s he tn row (nI T) (nI A) rc (nI n) z.1 z.2.1 z.2.2.1 z.2.2.2.1 z.2.2.2.2.1 z.2.2.2.2.2.1 z.2.2.2.2.2.2) N ((0 : Int32), d, v, hh, m, wa, (0 : Int32)) = some r ∧ itr (fun z => fX12_liftRow_l2b N (nI n) rowM z.1 z.2) N (now1, (0 : Int32)) = some q ∧ r.1 = nI n ∧ K0 now1 q ∧ IST T A r.2.1 r.2.2.1 l s r.2.2.2.1 r.2.2.2.2.1 rc rF q ∧ (∀ k, k < n → r.2.2.2.2.2 k = nI (w k)) ∧ ∀ k, k < n → r.2.1 (w k) = -1 := by
    refine itr_inv2 (fun (i : Nat) (z : Int32 × (Nat → Int32) × (Nat → Int32) × (Nat → Int32) × (Nat → Int32) × (Nat → Int32) × Int32) (y : (Nat → Int32) × Int32) => z.2.2.2.2.2.2 = nI i ∧ y.2 = nI i ∧ z.1 = nI i ∧ K0 now1 y.1 ∧ IST T A z.2.1 z.2.2.1 l s z.2.2.2.1 z.2.2.2.2.1 rc rF y.1 ∧ (∀ k, k < i → z.2.2.2.2.2.1 k = nI (w k)) ∧ ∀ k, k < i → z.2.1 (w k) = -1) (fun (r : Int32 × (Nat → Int32) × (Nat → Int32) × (Nat → Int32) × (Nat → Int32) × (Nat → Int32)) (q : Nat → Int32) => r.1 = nI n ∧ K0 now1 q ∧ IST T A r.2.1 r.2.2.1 l s r.2.2.2.1 r.2.2.2.2.1 rc rF q ∧ (∀ k, k < n → r.2.2.2.2.2 k = nI (w k)) ∧ ∀ k, k < n → r.2.1 (w k) = -1) (b := n) (by omega) ⟨rfl, rfl, rfl, fun j _ => rfl, hs0, fun k hk => absurd hk (Nat.not_lt_zero k), fun k hk => absurd hk (Nat.not_lt_zero k)⟩ ?_ ?_
    · rintro i ⟨x, d2, v2, h2, m2, w2, y⟩ ⟨nw, y'⟩ hi ⟨hy, hy', hx, K2, S2, W2, U2⟩
      have hy : y = nI i := hy
      subst hy
      have hy' : y' = nI i := hy'
      subst hy'
      have hx : x = nI i := hx
      subst hx
      have S2 : IST T A d2 v2 l s h2 m2 rc rF nw := S2
      have hwi := hw i hi
      obtain ⟨v3, h3, m3, e3, H3, V3⟩ := want_e (N := N) (wa := w2) (i := i) hN hT hA hwi (by omega) (IST_WS S2 hF) S2.2.2
      refine ⟨(nI (i + 1), upd d2 (w i) (-1), v3, h3, m3, upd w2 i (nI (w i)), nI (i + 1)), (upd (upd nw (340 + 2 * w i) (-1)) (341 + 2 * w i) 0, nI (i + 1)), ?_, ?_, rfl, rfl, rfl, K0_put K2 (show w i < 16 by omega), ⟨?_, S2.2.1, H3⟩, fun k hk => ?_, fun k hk => ?_⟩
      · show fX6_begin_l23b N 12 0 dg vo lo l sh s he tn row (nI T) (nI A) rc (nI n) (nI i) d2 v2 h2 m2 w2 (nI i) = _
        unfold fX6_begin_l23b
        rw [if_neg (nI_ge hi (by omega)), gdi_nI (by omega) (by decide), nI_clamp (by omega), hr i hi, bind_e e3, bnd_e, nI_1]
      · show fX12_liftRow_l2b N (nI n) rowM nw (nI i) = _
        unfold fX12_liftRow_l2b
        rw [if_neg (nI_ge hi (by omega)), gdi_nI (by omega) (by decide), nI_clamp (by omega), hrM i hi, bind_e (putM_e (by omega) nw (-1) 0), bnd_e, nI_1]
      · have hx3 : IS1x T (w i) (upd d2 (w i) (-1)) v3 nw := by
          intro s' hs1 hst
          rw [pk_un hst, V3 s' hst]
          exact S2.1 s' hs1
        exact IS1x_take hx3 pk_us
      · show upd w2 i (nI (w i)) k = _
        by_cases q : k = i
        · rw [q, pk_us]
        · rw [pk_un q]
          exact W2 k (by omega)
      · show upd d2 (w i) (-1) (w k) = -1
        by_cases q : w k = w i
        · rw [q, pk_us]
        · rw [pk_un q]
          exact U2 k (by
            by_cases z : k = i
            · exact absurd (by rw [z]) q
            · omega)
    · rintro ⟨x, d2, v2, h2, m2, w2, y⟩ ⟨nw, y'⟩ ⟨hy, hy', hx, K2, S2, W2, U2⟩
      have hy : y = nI n := hy
      subst hy
      have hy' : y' = nI n := hy'
      subst hy'
      refine ⟨(x, d2, v2, h2, m2, w2), nw, ?_, ?_, hx, K2, S2, W2, U2⟩
      · show fX6_begin_l23b N 12 0 dg vo lo l sh s he tn row (nI T) (nI A) rc (nI n) x d2 v2 h2 m2 w2 (nI n) = _
        unfold fX6_begin_l23b
        rw [if_pos (nI_le (Nat.le_refl n) (by omega))]
      · show fX12_liftRow_l2b N (nI n) rowM nw (nI n) = _
        unfold fX12_liftRow_l2b
        rw [if_pos (nI_le (Nat.le_refl n) (by omega))]
  obtain ⟨⟨x, d2, v2, h2, m2, w2⟩, nw, e1, e2, hx, K2, S2, W2, U2⟩ := key
  have hx : x = nI n := hx
  subst hx
  refine ⟨d2, v2, l, s, h2, m2, w2, nw, ?_, ?_, K2, S2, W2, U2, a3, a4⟩
  · show (itr (fun z => fX6_begin_l23b N 12 0 dg vo lo l sh s he tn row (nI T) (nI A) rc (nI n) z.1 z.2.1 z.2.2.1 z.2.2.2.1 z.2.2.2.2.1 z.2.2.2.2.2.1 z.2.2.2.2.2.2) N ((0 : Int32), d, v, hh, m, wa, (0 : Int32))).bind _ = _
    rw [bind_e e1]
  · rw [bind_e e2]
theorem hv_0 {j : Nat} (hj : j < 31) : hv 0 (nI j) = 0 := by
  have := hv_bit (n := 0) (k := j) (by decide) hj
  rw [Nat.zero_testBit, if_neg (by decide)] at this
  exact this
theorem isRight_e {N T A : Nat} {dg vo lo sh he tn rF : Nat → Int32} {rc : Nat → Int64} (hN : 16 < N) (hT : T ≤ 16) (h : IH T A dg vo lo sh he tn rc) : fX6_isRight N (nI T) dg rF vo tn he = some (if fw T A dg vo lo sh rF rc = -1 then 1 else 0) := by
  unfold fX6_isRight
  rw [bind_e (firstWrongC_e hN hT h)]
  split <;> rfl
set_option maxHeartbeats 1000000 in
theorem p_find {N T L P A : Nat} {rl rt rp ra rf b th rm tl ml rw0 len ot : Int32} {rc gr : Nat → Int64} {rP rF now now1 t u row rowM dg vo lo sh he tn d1 v1 l1 s1 h1 m1 wa ls ss was : Nat → Int32} (hN : 32 < N) (hI : IT tl t ml u) (h : IR1 T L P A rl rt rp ra rf rc rP rF now1 gr) (hF : IF1 T L rF) (hs : IST T A dg vo lo sh he tn rc rF now1) (hl : LY N b now now1) : ∃ (rl2 rm2 len2 ot2 : Int32) (row2 rowM2 dg2 vo2 lo2 sh2 he2 tn2 d2 v2 l2 s2 h2 m2 wa2 now2 ls2 ss2 was2 : Nat → Int32) (r : Int32), fX11_find N tl rw0 t rt rp ra row rF len ot dg d1 vo v1 lo l1 sh s1 he h1 tn m1 wa rc rP = some (0, rl2, row2, len2, ot2, dg2, d2, vo2, v2, lo2, l2, sh2, s2, he2, h2, tn2, m2, wa2, r) ∧ fX12_find N th ml b rm now u rowM ls ss was gr = some (0, 0, 1, rm2, now2, rowM2, ls2, ss2, was2, r) ∧ IR1 T L P A rl rt rp ra rf rc rP rF now2 gr ∧ IST T A dg2 vo2 lo2 sh2 he2 tn2 rc rF now2 := by
  have hT : T ≤ 16 := h.1.1
  unfold fX11_find fX12_find
  obtain rfl : rt = nI T := h.2.1.1
  obtain rfl : rp = nI P := h.2.1.2.2.1
  obtain rfl : ra = nI A := h.2.1.2.2.2
  rcases takeFree_e (N := N) (rw0 := rw0) (rm := rm) (row := row) (rowM := rowM) (by omega) hI h hl with ⟨rl2, row2, rm2, rowM2, e1, e2⟩ | ⟨n, w, row2, rowM2, hn1, hn, hw, hne, hr, hrM, hlv, e1, e2⟩
  · rw [bind_e e1, if_pos rfl, bind_e e2, if_pos rfl]
    exact ⟨_, _, _, _, _, _, _, _, _, _, _, _, _, _, _, _, _, _, _, _, _, _, _, _, rfl, rfl, h, hs⟩
  · obtain ⟨dg2, vo2, lo2, sh2, he2, tn2, wa2, now2, e3, e4, K2, S2, W2, U2, E1, E2⟩ := lift_e (N := N) (d1 := d1) (v1 := v1) (l1 := l1) (s1 := s1) (h1 := h1) (m1 := m1) (wa := wa) (len := len) (ot := ot) (row := row2) (rowM := rowM2) (by omega) h hF hs hn hw hr hrM
    have hls : ∀ j, j < T → lb ls now1 4 T j = lo2 j ∧ lb ss now1 5 T j = sh2 j := fun j hj => by
      have := beams (ls := ls) (ss := ss) h hs j hj
      rw [this.1, this.2, E1 j (by omega), E2 j (by omega)]
      exact ⟨rfl, rfl⟩
    rw [bind_e e1, if_neg (show ¬ (1 : Int32) = 0 by decide), bind_e e2, if_neg (show ¬ (1 : Int32) = 0 by decide), bind_e (layBeams_e (by omega) hT h.2.2.1.2.1), bind_e (save_e (by omega) now1 was), bind_e e4]
    unfold fX6_findFirst
    rw [bind_e e3, bind_e (isRight_e (by omega) hT S2.2.2)]
    have hsk : ∀ j p v, j < n → p < P → v < 4 → (fun (_ _ _ : Nat) => false) (w j) p v = (decide (¬ hv 0 (nI (w j)) = 0) && (decide (svd now1 was (2 * w j) = rP p) && decide (svd now1 was (2 * w j + 1) = nI v))) := fun j p v hj _ _ => by
      have := hw j hj
      rw [hv_0 (by omega), decide_eq_false (fun q => q rfl), Bool.false_and]
    by_cases c : fw T A dg2 vo2 lo2 sh2 rF rc = -1
    · obtain ⟨dg3, vo3, he3, tn3, now3, r, e5, e6, K3, S3, hor⟩ := lf_e (N := N) (P := P) (n := n) (st := 0) (ot := 0) (ls := lb ls now1 4 T) (ss := lb ss now1 5 T) (row := rowM2) (was := svd now1 was) (wa := wa2) (sd := dg) (sv := vo) (sk := fun _ _ _ => false) (by omega) h hF S2.2.1 hls hn hw hne hrM W2 hsk (fun j p v _ _ _ => rfl) 10 0 dg2 vo2 he2 tn2 now2 (by omega) (by omega) K2 S2 c (fun j _ hj => U2 j hj)
      have e5 : fX6_placeFrom N 10 (nI n) 0 wa2 (nI T) (nI P) (nI A) rP rF dg vo dg2 vo2 rc he2 lo2 sh2 tn2 0 = some (dg3, vo3, he3, tn3, r) := e5
      have e6 : fX12_finds N 10 (nI n) now2 gr (lb ls now1 4 T) (lb ss now1 5 T) rowM2 (svd now1 was) 0 0 = some (now3, r) := e6
      rw [if_pos c, if_neg (show ¬ (1 : Int32) = 0 by decide), bind_e e5, bind_e e6]
      rcases hor with q | ⟨q, -, -⟩
      · subst q
        obtain ⟨d, v, l, s, hh, m, ec, a1, a2, a3, a4, a5, a6⟩ := copy_e dg3 dg vo3 vo lo2 lo sh2 sh he3 he tn3 tn
        rw [if_neg (show ¬ (1 : Int32) = 0 by decide), if_neg (show ¬ (1 : Int32) = 0 by decide), bind_e ec]
        exact ⟨_, _, _, _, _, _, _, _, _, _, _, _, _, _, _, _, _, _, _, _, _, _, _, _, rfl, rfl, IR1_K h K3, IST_cong hT a1 a2 a3 a4 a5 a6 S3⟩
      · subst q
        rw [if_pos (show (0 : Int32) = 0 from rfl), if_pos (show (0 : Int32) = 0 from rfl), bind_e (bring_e (by omega) (svd now1 was) now3), bring_back K3]
        exact ⟨_, _, _, _, _, _, _, _, _, _, _, _, _, _, _, _, _, _, _, _, _, _, _, _, rfl, rfl, h, hs⟩
    · obtain ⟨now3, e6, K3, S3⟩ := df_e (N := N) (P := P) (n := n) (st := 0) (ls := lb ls now1 4 T) (ss := lb ss now1 5 T) (row := rowM2) (was := svd now1 was) (sk := fun _ _ _ => false) (by omega) h hF S2.2.1 hls hn hw hne hrM hsk 10 0 now2 dg2 vo2 (by omega) (by omega) K2 S2.1 c (fun j _ hj => U2 j hj)
      have e6 : fX12_finds N 10 (nI n) now2 gr (lb ls now1 4 T) (lb ss now1 5 T) rowM2 (svd now1 was) 0 0 = some (now3, 0) := e6
      rw [if_neg c, if_pos (show (0 : Int32) = 0 from rfl), bind_e e6, if_pos (show (0 : Int32) = 0 from rfl), bind_e (bring_e (by omega) (svd now1 was) now3), bring_back K3]
      exact ⟨_, _, _, _, _, _, _, _, _, _, _, _, _, _, _, _, _, _, _, _, _, _, _, _, rfl, rfl, h, hs⟩

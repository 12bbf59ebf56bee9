/-! MOST, the whole -/
set_option maxHeartbeats 1000000 in
theorem placeBest_e {N T L A n : Nat} {len ot bw x1 x2 x3 : Int32} {rc : Nat → Int64} {rF lo sh dg vo he tn bd bv dgS voS nowS nowF dgB voB wa y1 y2 y3 y4 y5 y6 q1 : Nat → Int32} {lp : Int32} {pl : Nat → Int32} {w : Nat → Nat} (hN : 16 < N) (hT : T ≤ 16) (hA : A ≤ 300) (hF : IF1 T L rF) (hlo : ∀ t, t < T → lo t = rF (14 * t + 4) ∧ sh t = rF (14 * t + 5)) (hn : n ≤ 4) (hw : ∀ j, j < n → w j < T) (hne : ∀ i j, i < j → j < n → w i ≠ w j) (hwa : ∀ j, j < n → wa j = nI (w j)) (hH : IH T A dg vo lo sh he tn rc) (hW : WS T dg lo sh) (hup : ∀ j, j < n → dg (w j) = -1) (hOB : OB n w dgB voB dg vo) (hS : IS1 T dgS voS nowS) (hb : ∀ j, j < n → bd j = dgS (w j) ∧ bv j = voS (w j)) (hOS : OB n w dgB voB dgS voS) (hnow : ∀ j, 340 ≤ j → j < 372 → nowF j = nowS j) : ∃ r, itr (fun z => fX6_findMost_l28b N 12 (nI n) ot bw y1 y2 y3 lo y4 sh y5 y6 q1 (nI T) lp (nI A) wa rc rF bd bv pl z.1 z.2.1 z.2.2.1 z.2.2.2.1 z.2.2.2.2) N (dg, vo, he, tn, (0 : Int32)) = some r ∧ IST T A r.1 r.2.1 lo sh r.2.2.1 r.2.2.2 rc rF nowF := by
  refine itr_inv (fun (i : Nat) (z : (Nat → Int32) × (Nat → Int32) × (Nat → Int32) × (Nat → Int32) × Int32) => z.2.2.2.2 = nI i ∧ IH T A z.1 z.2.1 lo sh z.2.2.1 z.2.2.2.1 rc ∧ WS T z.1 lo sh ∧ (∀ j, j < i → z.1 (w j) = dgS (w j) ∧ (¬ dgS (w j) = -1 → z.2.1 (w j) = voS (w j))) ∧ (∀ j, i ≤ j → j < n → z.1 (w j) = -1) ∧ OB n w dgB voB z.1 z.2.1) (fun (r : (Nat → Int32) × (Nat → Int32) × (Nat → Int32) × (Nat → Int32)) => IST T A r.1 r.2.1 lo sh r.2.2.1 r.2.2.2 rc rF nowF) (b := n) (by omega) ⟨rfl, hH, hW, fun j hj => absurd hj (Nat.not_lt_zero j), fun j _ hj => hup j hj, hOB⟩ ?_ ?_
  · rintro i ⟨d, v, e, m, y⟩ hi ⟨hy, H, W, B, U, O⟩
    have hy : y = nI i := hy
    subst hy
    have H : IH T A d v lo sh e m rc := H
    have W : WS T d lo sh := W
    have B : ∀ j, j < i → d (w j) = dgS (w j) ∧ (¬ dgS (w j) = -1 → v (w j) = voS (w j)) := B
    have U : ∀ j, i ≤ j → j < n → d (w j) = -1 := U
    have O : OB n w dgB voB d v := O
    have hwi := hw i hi
    show ∃ s', fX6_findMost_l28b N 12 (nI n) ot bw y1 y2 y3 lo y4 sh y5 y6 q1 (nI T) lp (nI A) wa rc rF bd bv pl d v e m (nI i) = some (.inl s') ∧ _
    unfold fX6_findMost_l28b
    rw [if_neg (nI_ge hi (by omega)), gdi_nI (by omega) (by decide), nI_clamp (n := i) (by omega), (hb i hi).1]
    by_cases c : dgS (w i) = -1
    · rw [if_pos c, bnd_e, nI_1]
      refine ⟨(d, v, e, m, nI (i + 1)), rfl, rfl, H, W, fun j hj => ?_, fun j hj1 hj2 => U j (by omega) hj2, O⟩
      by_cases q : j = i
      · subst q
        exact ⟨(U j (Nat.le_refl j) hi).trans c.symm, fun z => absurd c z⟩
      · exact B j (by omega)
    · have hd : ∃ q, q < 3600 ∧ dgS (w i) = nI q := by
        rcases (hS (w i) (by omega)).2 with q | q
        · exact absurd q c
        · exact q.2.1
      have W2 : WS T (upd d (w i) (dgS (w i))) lo sh := WS_upd W (Or.inr hd)
      rw [if_neg c, gdi_nI (by omega) (by decide), gdi_nI (by omega) (by decide), gdi_nI (by omega) (by decide), hwa i hi, (hb i hi).2, bind_e (put_e hN hT hA hwi W2), bnd_e, nI_1]
      refine ⟨(upd d (w i) (dgS (w i)), upd v (w i) (voS (w i)), _, _, nI (i + 1)), rfl, rfl, IH_put hwi hT (U i (Nat.le_refl i) hi) H, W2, fun j hj => ?_, fun j hj1 hj2 => ?_, OB_upd O hi⟩
      · show upd d (w i) (dgS (w i)) (w j) = _ ∧ (_ → upd v (w i) (voS (w i)) (w j) = _)
        by_cases q : j = i
        · rw [q, pk_us, pk_us]
          exact ⟨rfl, fun _ => rfl⟩
        · rw [pk_un (hne j i (by omega) hi), pk_un (hne j i (by omega) hi)]
          exact B j (by omega)
      · show upd d (w i) (dgS (w i)) (w j) = -1
        rw [pk_un (Ne.symm (hne i j (by omega) hj2))]
        exact U j (by omega) hj2
  · rintro ⟨d, v, e, m, y⟩ ⟨hy, H, W, B, U, O⟩
    have hy : y = nI n := hy
    subst hy
    have B : ∀ j, j < n → d (w j) = dgS (w j) ∧ (¬ dgS (w j) = -1 → v (w j) = voS (w j)) := B
    have O : OB n w dgB voB d v := O
    refine ⟨(d, v, e, m), ?_, ?_, hlo, H⟩
    · show fX6_findMost_l28b N 12 (nI n) ot bw y1 y2 y3 lo y4 sh y5 y6 q1 (nI T) lp (nI A) wa rc rF bd bv pl d v e m (nI n) = _
      unfold fX6_findMost_l28b
      rw [if_pos (nI_le (Nat.le_refl n) (by omega))]
    · intro s hs
      show d s = nowF (340 + 2 * s) ∧ (d s = -1 ∨ (s < T ∧ (∃ q, q < 3600 ∧ d s = nI q) ∧ ∃ q, q < 4 ∧ v s = nI q ∧ nowF (341 + 2 * s) = nI q))
      have hd : d s = dgS s ∧ (¬ dgS s = -1 → v s = voS s) := by
        by_cases hx : ∃ j, j < n ∧ s = w j
        · obtain ⟨j, hj, rfl⟩ := hx
          exact B j hj
        · have hx : ∀ j, j < n → s ≠ w j := fun j hj q => hx ⟨j, hj, q⟩
          exact ⟨(O s hx).1.trans (hOS s hx).1.symm, fun _ => (O s hx).2.trans (hOS s hx).2.symm⟩
      rw [hd.1, hnow _ (by omega) (by omega), hnow _ (by omega) (by omega)]
      obtain ⟨a1, a2⟩ := hS s hs
      refine ⟨a1, ?_⟩
      by_cases c : dgS s = -1
      · exact Or.inl c
      · rw [hd.2 c]
        rcases a2 with q | q
        · exact absurd q c
        · exact Or.inr q
set_option maxHeartbeats 1000000 in
theorem p_most {N T L P A : Nat} {rl rt rp ra rf b th rm tl ml rw0 len ot bw mw : Int32} {rc gr : Nat → Int64} {rP rF now now1 t u row rowM dg vo lo sh he tn d1 v1 l1 s1 h1 m1 wa bd bv ls ss was sv : Nat → Int32} (hN : 32 < N) (hI : IT tl t ml u) (h : IR1 T L P A rl rt rp ra rf rc rP rF now1 gr) (hF : IF1 T L rF) (hs : IST T A dg vo lo sh he tn rc rF now1) (hl : LY N b now now1) : ∃ (rl2 rm2 len2 ot2 bw2 mw2 : Int32) (row2 rowM2 dg2 vo2 lo2 sh2 he2 tn2 d2 v2 l2 s2 h2 m2 wa2 bd2 bv2 now2 ls2 ss2 was2 sv2 : Nat → Int32) (r : Int32), fX11_most N tl rw0 t rt rp ra row rF len ot bw dg d1 vo v1 lo l1 sh s1 he h1 tn m1 wa rc bd bv rP = some (0, rl2, row2, len2, ot2, bw2, dg2, d2, vo2, v2, lo2, l2, sh2, s2, he2, h2, tn2, m2, wa2, bd2, bv2, r) ∧ fX12_most N th ml b rm mw now u rowM ls ss was gr sv = some (0, 0, 1, rm2, mw2, now2, rowM2, ls2, ss2, was2, sv2, r) ∧ IR1 T L P A rl rt rp ra rf rc rP rF now2 gr ∧ IST T A dg2 vo2 lo2 sh2 he2 tn2 rc rF now2 := by
  have hT : T ≤ 16 := h.1.1
  have hA : A ≤ 300 := h.1.2.2.2
  unfold fX11_most fX12_most
  obtain rfl : rt = nI T := h.2.1.1
  obtain rfl : rp = nI P := h.2.1.2.2.1
  obtain rfl : ra = nI A := h.2.1.2.2.2
  rcases takeFree_e (N := N) (rw0 := rw0) (rm := rm) (row := row) (rowM := rowM) (by omega) hI h hl with ⟨rl2, row2, rm2, rowM2, e1, e2⟩ | ⟨n, w, row2, rowM2, hn1, hn, hw, hne, hr, hrM, hlv, e1, e2⟩
  · rw [bind_e e1, if_pos rfl, bind_e e2, if_pos rfl]
    exact ⟨_, _, _, _, _, _, _, _, _, _, _, _, _, _, _, _, _, _, _, _, _, _, _, _, _, _, _, _, _, rfl, rfl, h, hs⟩
  · obtain ⟨dg2, vo2, lo2, sh2, he2, tn2, wa2, now2, e3, e4, K2, S2, W2, U2, E1, E2⟩ := lift_e (N := N) (d1 := d1) (v1 := v1) (l1 := l1) (s1 := s1) (h1 := h1) (m1 := m1) (wa := wa) (len := len) (ot := ot) (row := row2) (rowM := rowM2) (by omega) h hF hs hn hw hr hrM
    have hls : ∀ j, j < T → lb ls now1 4 T j = lo2 j ∧ lb ss now1 5 T j = sh2 j := fun j hj => by
      have := beams (ls := ls) (ss := ss) h hs j hj
      rw [this.1, this.2, E1 j (by omega), E2 j (by omega)]
      exact ⟨rfl, rfl⟩
    have hwt : ∀ j, j < n → (fun j => wt rF (w j)) j ≤ 9999 := fun j hj => (wt_e hF (hw j hj)).2
    have hrl := rst_le (f := fun j => wt rF (w j)) (n := n) (k := 0) hwt (by omega)
    rw [bind_e e1, if_neg (show ¬ (1 : Int32) = 0 by decide), bind_e e2, if_neg (show ¬ (1 : Int32) = 0 by decide), bind_e (layBeams_e (by omega) hT h.2.2.1.2.1), bind_e (save_e (by omega) now1 was), bind_e e4]
    unfold fX6_findMost
    rw [bind_e e3, bind_e (isRight_e (by omega) hT S2.2.2)]
    by_cases c : fw T A dg2 vo2 lo2 sh2 rF rc = -1
    · obtain ⟨dg3, vo3, he3, tn3, now3, bd3, bv3, sv3, M3, e5, e6, K3, S3, F3, U3, OB3, -, B3, BT3, m, hm, -⟩ := lm_e (N := N) (P := P) (n := n) (ls := lb ls now1 4 T) (ss := lb ss now1 5 T) (row := rowM2) (wa := wa2) (sd := dg) (sw := vo) (dgB := dg2) (voB := vo2) (by omega) h hF S2.2.1 hls hn hw hne hrM W2 10 0 dg2 vo2 he2 tn2 now2 bd bv sv none 0 (by omega) (by omega) K2 S2 c (fun j _ hj => U2 j hj) (fun s _ => ⟨rfl, rfl⟩) (fun m q => absurd q (by intro y; cases y)) (by omega) (Or.inl rfl)
      subst hm
      have hm9 := B3 m rfl
      rcases BT3 with q | ⟨dgS, voS, nowS, I1, I2, I3, I4⟩
      · exact absurd q (by intro y; cases y)
      · obtain ⟨⟨d4, v4, h4, m4⟩, e7, S4⟩ := placeBest_e (N := N) (len := 0) (x1 := 0) (x2 := 0) (x3 := 0) (ot := 0) (bw := enc (some m)) (lp := nI P) (pl := rP) (y1 := dg) (y2 := vo) (y3 := lo) (y4 := sh) (y5 := he) (y6 := tn) (q1 := row2) (wa := wa2) (nowF := fb_put now3 sv3 340 32) (by omega) hT hA hF S2.2.1 hn hw hne W2 S3.2.2 (WS_of S3.1 S2.2.1 hF) (fun j hj => U3 j (Nat.zero_le j) hj) OB3 I1 I3 I4 (fun j hj1 hj2 => by
          rw [fb_put_in hj1 (by omega), I2 (j - 340) (by omega)]
          exact congrArg nowS (by omega))
        obtain ⟨d, v, l, s, hh, mm, ec, a1, a2, a3, a4, a5, a6⟩ := copy_e d4 dg v4 vo lo2 lo sh2 sh h4 he m4 tn
        have e5 : fX6_mostFrom N 10 (nI n) 0 (-1) wa2 (nI T) (nI P) (nI A) rF dg2 bd vo2 bv rP dg vo rc he2 lo2 sh2 tn2 0 0 = some (enc (some m), dg3, bd3, vo3, bv3, he3, tn3) := e5
        have e6 : fX12_tryWorth N 10 (nI n) (-1) now2 gr (lb ls now1 4 T) (lb ss now1 5 T) sv rowM2 0 0 = some (enc (some m), now3, sv3) := e6
        rw [if_pos c, if_neg (show ¬ (1 : Int32) = 0 by decide), bind_e e5, bind_e e6, if_neg (show ¬ enc (some m) = -1 from nI_m1 (by omega))]
        unfold fX12_most_j62_t_saved
        rw [bind_e (bring_e (by omega) sv3 now3)]
        show ∃ (rl2 rm2 len2 ot2 bw2 mw2 : Int32) (row2' rowM2 dg2' vo2' lo2' sh2' he2' tn2' d2 v2 l2 s2 h2 m2 wa2' bd2 bv2 now2 ls2 ss2 was2 sv2 : Nat → Int32) (r : Int32), (((itr (fun z => fX6_findMost_l28b N 12 (nI n) 0 (enc (some m)) dg vo lo lo2 sh sh2 he tn row2 (nI T) (nI P) (nI A) wa2 rc rF bd3 bv3 rP z.1 z.2.1 z.2.2.1 z.2.2.2.1 z.2.2.2.2) N (dg3, vo3, he3, tn3, (0 : Int32))).bind _).bind _ = _) ∧ _
        rw [bind_e e7, bind_e ec]
        exact ⟨_, _, _, _, _, _, _, _, _, _, _, _, _, _, _, _, _, _, _, _, _, _, _, _, _, _, _, _, _, rfl, rfl, IR1_keep h (fun j hj => by rw [fb_put_out (Or.inl hj)]; exact K3 j (Or.inl hj)), IST_cong hT a1 a2 a3 a4 a5 a6 S4⟩
    · obtain ⟨now3, e6, K3, S3⟩ := dm_e (N := N) (P := P) (n := n) (ls := lb ls now1 4 T) (ss := lb ss now1 5 T) (row := rowM2) (by omega) h hF S2.2.1 hls hn hw hne hrM 10 0 now2 dg2 vo2 sv none 0 (by omega) (by omega) K2 S2.1 (Or.inl c) (fun m q => absurd q (by intro y; cases y)) (by omega) (fun j _ hj => U2 j hj)
      have e6 : fX12_tryWorth N 10 (nI n) (-1) now2 gr (lb ls now1 4 T) (lb ss now1 5 T) sv rowM2 0 0 = some (-1, now3, sv) := e6
      rw [if_neg c, if_pos (show (0 : Int32) = 0 from rfl), bind_e e6, if_pos rfl]
      unfold fX12_most_j62_t_was
      rw [bind_e (bring_e (by omega) (svd now1 was) now3), bring_back K3]
      exact ⟨_, _, _, _, _, _, _, _, _, _, _, _, _, _, _, _, _, _, _, _, _, _, _, _, _, _, _, _, _, rfl, rfl, h, hs⟩

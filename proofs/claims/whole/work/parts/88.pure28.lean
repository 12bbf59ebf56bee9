/-! NARROW, both -/
set_option maxHeartbeats 1000000 in
theorem p_narrow {N T L P A : Nat} {rl rt rp ra rf b th co ac : Int32} {rc gr : Nat → Int64} {rP rF now now1 dg vo lo sh he tn d0 v0 l0 s0 h0 m0 ab bm ls ss : Nat → Int32} (hN : 100 < N) (h : IR1 T L P A rl rt rp ra rf rc rP rF now1 gr) (hF : IF1 T L rF) (hs : IST T A dg vo lo sh he tn rc rF now1) (hl : LY N b now now1) : ∃ (co2 ac2 : Int32) (ab2 d1 v1 l1 s1 h1 m1 bm2 ls2 ss2 : Nat → Int32) (r : Int32), fX11_narrow N co ac rt ra dg rF ab d0 v0 l0 s0 h0 m0 vo rc = some (co2, ac2, ab2, d1, v1, l1, s1, h1, m1, r) ∧ fX12_narrow N th b co now bm ls ss gr = some (0, 1, co2, now1, bm2, ls2, ss2, r) := by
  have hT : T ≤ 16 := h.1.1
  have hA : A ≤ 300 := h.1.2.2.2
  have n1 : now1 1 = nI T := h.2.2.1.2.1
  obtain ⟨ac2, ab2, d1, v1, l1, s1, h1, m1, eC⟩ := cheapest_e (N := N) (co := co) (ac := ac) (d0 := d0) (v0 := v0) (l0 := l0) (s0 := s0) (h0 := h0) (m0 := m0) (ab := ab) hN hT hA hF hs
  obtain ⟨bm2, e1, e2⟩ := gatherM_e (N := N) (b0 := 1) (nc := co) (ls := ls) (ss := ss) (bm0 := bm) (by omega) h hs.1
  obtain ⟨hn, hb0, hi⟩ := gat_p (okN dg rF) T
  generalize (gat (okN dg rF) T).1 = n at *
  generalize (gat (okN dg rF) T).2 = be at *
  have hb : ∀ j, j < n → bm2 j = nI (be j) ∧ be j < T := fun j hj => ⟨e2 j hj, (hb0 j hj).1⟩
  have h2n : 2 ^ n ≤ 64 := by
    have : 2 ^ n ≤ 2 ^ 6 := Nat.pow_le_pow_right (by decide) hn
    exact this
  have hv : ∀ q, vS be q n < 65536 := fun q => vS_lt (be := be) (σ := q) hi n 16 (Nat.le_refl n) (fun j hj => by have := (hb j hj).2; omega)
  have key : ∃ r, itr (fun z => fX12_narrow_l72b N 0 1 co now1 bm2 gr (nI n) z.1 z.2.1 z.2.2.1 z.2.2.2.1 z.2.2.2.2) N (ls, ss, (-1 : Int32), (0 : Int32), (0 : Int32)) = some r ∧ r.2.2 = (bV be n (bb (RW T A dg vo rF rc be n) (fun q => cI rF be q n) (2 ^ n)), bK rF be n (bb (RW T A dg vo rF rc be n) (fun q => cI rF be q n) (2 ^ n))) := by
    refine itr_inv (fun (i : Nat) (z : (Nat → Int32) × (Nat → Int32) × Int32 × Int32 × Int32) => z.2.2 = (bV be n (bb (RW T A dg vo rF rc be n) (fun q => cI rF be q n) i), bK rF be n (bb (RW T A dg vo rF rc be n) (fun q => cI rF be q n) i), nI i)) (fun (r : (Nat → Int32) × (Nat → Int32) × Int32 × Int32) => r.2.2 = (bV be n (bb (RW T A dg vo rF rc be n) (fun q => cI rF be q n) (2 ^ n)), bK rF be n (bb (RW T A dg vo rF rc be n) (fun q => cI rF be q n) (2 ^ n)))) (b := 2 ^ n) (by omega) rfl ?_ ?_
    · rintro i ⟨lx, sx, p⟩ hi2 hp
      have hp : p = (bV be n (bb (RW T A dg vo rF rc be n) (fun q => cI rF be q n) i), bK rF be n (bb (RW T A dg vo rF rc be n) (fun q => cI rF be q n) i), nI i) := hp
      subst hp
      obtain ⟨s2, e3, e4⟩ := innerM_e (N := N) (σ := i) (b0 := 1) (nc := co) (x := bV be n (bb (RW T A dg vo rF rc be n) (fun q => cI rF be q n) i)) (y := bK rF be n (bb (RW T A dg vo rF rc be n) (fun q => cI rF be q n) i)) (ls := lx) (ss := sx) (by omega) h hF hs hn (by omega) hb hi
      have j207 : ∀ x y : Int32, fX12_narrow_j207 N 0 1 co now1 bm2 (lb lx now1 4 T) s2 gr (nI n) x y (nI i) (nI (vS be i n)) (cI rF be i n) = some (.inl (lb lx now1 4 T, s2, (if RW T A dg vo rF rc be n i = true then nI (vS be i n) else x), (if RW T A dg vo rF rc be n i = true then cI rF be i n else y), nI (i + 1))) := by
        intro x y
        unfold fX12_narrow_j207
        rw [bind_e e4, bnd_e, bnd_e, nI_1]
        unfold RW
        by_cases q : fw T A dg (vC dg vo) (lT rF) (sS rF be i n) rF rc = -1
        · rw [if_pos q, if_pos (decide_eq_true q), if_pos (decide_eq_true q)]
        · have q2 : ¬ decide (fw T A dg (vC dg vo) (lT rF) (sS rF be i n) rF rc = -1) = true := by rw [decide_eq_true_eq]; exact q
          rw [if_neg q, if_neg q2, if_neg q2]
      have start : ∀ X, (if bV be n (bb (RW T A dg vo rF rc be n) (fun q => cI rF be q n) i) = (-1 : Int32) then fX12_narrow_j207 N 0 1 co now1 bm2 (lb lx now1 4 T) s2 gr (nI n) (bV be n (bb (RW T A dg vo rF rc be n) (fun q => cI rF be q n) i)) (bK rF be n (bb (RW T A dg vo rF rc be n) (fun q => cI rF be q n) i)) (nI i) (nI (vS be i n)) (cI rF be i n) else (if bK rF be n (bb (RW T A dg vo rF rc be n) (fun q => cI rF be q n) i) < cI rF be i n then some (.inl (lb lx now1 4 T, s2, bV be n (bb (RW T A dg vo rF rc be n) (fun q => cI rF be q n) i), bK rF be n (bb (RW T A dg vo rF rc be n) (fun q => cI rF be q n) i), nI (i + 1))) else (if cI rF be i n = bK rF be n (bb (RW T A dg vo rF rc be n) (fun q => cI rF be q n) i) then (if bV be n (bb (RW T A dg vo rF rc be n) (fun q => cI rF be q n) i) < nI (vS be i n) then some (.inl (lb lx now1 4 T, s2, bV be n (bb (RW T A dg vo rF rc be n) (fun q => cI rF be q n) i), bK rF be n (bb (RW T A dg vo rF rc be n) (fun q => cI rF be q n) i), nI (i + 1))) else fX12_narrow_j207 N 0 1 co now1 bm2 (lb lx now1 4 T) s2 gr (nI n) (bV be n (bb (RW T A dg vo rF rc be n) (fun q => cI rF be q n) i)) (bK rF be n (bb (RW T A dg vo rF rc be n) (fun q => cI rF be q n) i)) (nI i) (nI (vS be i n)) (cI rF be i n)) else fX12_narrow_j207 N 0 1 co now1 bm2 (lb lx now1 4 T) s2 gr (nI n) (bV be n (bb (RW T A dg vo rF rc be n) (fun q => cI rF be q n) i)) (bK rF be n (bb (RW T A dg vo rF rc be n) (fun q => cI rF be q n) i)) (nI i) (nI (vS be i n)) (cI rF be i n)))) = X → fX12_narrow_l72b N 0 1 co now1 bm2 gr (nI n) lx sx (bV be n (bb (RW T A dg vo rF rc be n) (fun q => cI rF be q n) i)) (bK rF be n (bb (RW T A dg vo rF rc be n) (fun q => cI rF be q n) i)) (nI i) = X := by
        intro X hX
        unfold fX12_narrow_l72b
        rw [sl_e n (by omega), if_neg (nI_ge hi2 (by omega)), bind_e (layBeams_e (by omega) hT n1)]
        show (itr (fun z => fX12_narrow_l93b N 0 1 co now1 bm2 (lb lx now1 4 T) gr (nI n) (bV be n (bb (RW T A dg vo rF rc be n) (fun q => cI rF be q n) i)) (bK rF be n (bb (RW T A dg vo rF rc be n) (fun q => cI rF be q n) i)) (nI i) z.1 z.2.1 z.2.2.1 z.2.2.2) N (lb sx now1 5 T, (0 : Int32), (0 : Int32), (0 : Int32))).bind _ = X
        rw [bind_e e3, bnd_e, nI_1]
        exact hX
      cases e : bb (RW T A dg vo rF rc be n) (fun q => cI rF be q n) i with
      | none =>
        rw [e] at start
        refine ⟨(lb lx now1 4 T, s2, (if RW T A dg vo rF rc be n i = true then nI (vS be i n) else -1), (if RW T A dg vo rF rc be n i = true then cI rF be i n else 0), nI (i + 1)), start _ ?_, ?_⟩
        · rw [if_pos (show bV be n none = -1 from rfl)]
          exact j207 _ _
        · rw [bb_s0 e]
          by_cases q : RW T A dg vo rF rc be n i = true
          · rw [if_pos q, if_pos q, if_pos q]
            rfl
          · rw [if_neg q, if_neg q, if_neg q]
            rfl
      | some p =>
        rw [e] at start
        have hp := bb_lt e
        have hnv : ¬ bV be n (some p) = -1 := nI_m1 (by have := hv p; omega)
        have hlt : bV be n (some p) < nI (vS be i n) := by
          have m1 := (vS_mono (be := be) hi (σ := p) (τ := i) n (Nat.le_refl n)).2 (by rw [Nat.mod_eq_of_lt (by omega), Nat.mod_eq_of_lt hi2]; exact hp)
          exact nI_lt m1 (by have := hv i; omega)
        by_cases q1 : cI rF be p n ≤ cI rF be i n
        · refine ⟨(lb lx now1 4 T, s2, bV be n (some p), bK rF be n (some p), nI (i + 1)), start _ ?_, ?_⟩
          · rw [if_neg hnv]
            by_cases q2 : bK rF be n (some p) < cI rF be i n
            · rw [if_pos q2]
            · have q3 : cI rF be i n = bK rF be n (some p) := by
                by_cases z : cI rF be i n = bK rF be n (some p)
                · exact z
                · exact absurd (fa_le_ne q1 (Ne.symm z)) q2
              rw [if_neg q2, if_pos q3, if_pos hlt]
          · rw [bb_s1 e, if_pos q1]
        · refine ⟨(lb lx now1 4 T, s2, (if RW T A dg vo rF rc be n i = true then nI (vS be i n) else bV be n (some p)), (if RW T A dg vo rF rc be n i = true then cI rF be i n else bK rF be n (some p)), nI (i + 1)), start _ ?_, ?_⟩
          · have q4 := fa_of_lt (fa_of_nle q1)
            rw [if_neg hnv, if_neg (show ¬ bK rF be n (some p) < cI rF be i n from q4.2.2.1), if_neg (show ¬ cI rF be i n = bK rF be n (some p) from q4.2.2.2.1)]
            exact j207 _ _
          · rw [bb_s1 e, if_neg q1]
            by_cases q : RW T A dg vo rF rc be n i = true
            · rw [if_pos q, if_pos q, if_pos q]
              rfl
            · rw [if_neg q, if_neg q, if_neg q]
    · rintro ⟨lx, sx, p⟩ hp
      have hp : p = (bV be n (bb (RW T A dg vo rF rc be n) (fun q => cI rF be q n) (2 ^ n)), bK rF be n (bb (RW T A dg vo rF rc be n) (fun q => cI rF be q n) (2 ^ n)), nI (2 ^ n)) := hp
      subst hp
      refine ⟨(lx, sx, bV be n (bb (RW T A dg vo rF rc be n) (fun q => cI rF be q n) (2 ^ n)), bK rF be n (bb (RW T A dg vo rF rc be n) (fun q => cI rF be q n) (2 ^ n))), ?_, rfl⟩
      show fX12_narrow_l72b N 0 1 co now1 bm2 gr (nI n) lx sx (bV be n (bb (RW T A dg vo rF rc be n) (fun q => cI rF be q n) (2 ^ n))) (bK rF be n (bb (RW T A dg vo rF rc be n) (fun q => cI rF be q n) (2 ^ n))) (nI (2 ^ n)) = _
      unfold fX12_narrow_l72b
      rw [sl_e n (by omega), if_pos (nI_le (Nat.le_refl _) (by omega))]
  obtain ⟨⟨lx, sx, p⟩, e3, e4⟩ := key
  have e4 : p = (bV be n (bb (RW T A dg vo rF rc be n) (fun q => cI rF be q n) (2 ^ n)), bK rF be n (bb (RW T A dg vo rF rc be n) (fun q => cI rF be q n) (2 ^ n))) := e4
  subst e4
  refine ⟨if bV be n (bb (RW T A dg vo rF rc be n) (fun q => cI rF be q n) (2 ^ n)) = -1 then co else bK rF be n (bb (RW T A dg vo rF rc be n) (fun q => cI rF be q n) (2 ^ n)), ac2, ab2, d1, v1, l1, s1, h1, m1, bm2, lx, sx, bV be n (bb (RW T A dg vo rF rc be n) (fun q => cI rF be q n) (2 ^ n)), ?_, ?_⟩
  · unfold fX11_narrow
    rw [h.2.1.1, h.2.1.2.2.2, bind_e eC]
  · unfold fX12_narrow
    rw [bind_e hl]
    show (itr (fun z => fX12_narrow_l13b N 0 1 co now1 ls ss gr z.1 z.2.1 z.2.2) N (bm, (0 : Int32), (0 : Int32))).bind _ = _
    rw [bind_e e1]
    show (itr (fun z => fX12_narrow_l72b N 0 1 co now1 bm2 gr (nI n) z.1 z.2.1 z.2.2.1 z.2.2.2.1 z.2.2.2.2) N (ls, ss, (-1 : Int32), (0 : Int32), (0 : Int32))).bind _ = _
    rw [bind_e e3]
    by_cases q : bV be n (bb (RW T A dg vo rF rc be n) (fun q => cI rF be q n) (2 ^ n)) = -1
    · rw [if_pos q, if_pos q]
    · rw [if_neg q, if_neg q]
theorem p_narrowCost (co th : Int32) : fX11_narrowCost co = some co ∧ fX12_narrowCost th co = some (0, co) := ⟨rfl, rfl⟩

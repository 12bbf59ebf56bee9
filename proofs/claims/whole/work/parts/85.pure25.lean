/-! NARROW: gathering, costs, bits, in both -/
def okN (dg rF : Nat → Int32) (k : Nat) : Bool := decide (¬ dg k = -1) && decide (¬ rF (14 * k + 13) = -1)
theorem gatherC_e {N T : Nat} {ac : Int32} {dg rF ab : Nat → Int32} (hN : 16 < N) (hT : T ≤ 16) : ∃ ab2, fX1_gatherAble N ac (nI T) dg rF ab = some (nI (gat (okN dg rF) T).1, ab2) ∧ ∀ j, j < (gat (okN dg rF) T).1 → ab2 j = nI ((gat (okN dg rF) T).2 j) := by
  obtain ⟨b, hb, h1, h2, h3⟩ := gat_stop (okN dg rF) T
  have key : ∃ r, itr (fun z => fX1_gatherAble_l7b N (nI T) dg rF z.1 z.2.1 z.2.2) N ((0 : Int32), ab, (0 : Int32)) = some r ∧ (r.1 = nI (gat (okN dg rF) b).1 ∧ ∀ j, j < (gat (okN dg rF) b).1 → r.2 j = nI ((gat (okN dg rF) b).2 j)) := by
    refine itr_inv (fun (i : Nat) (z : Int32 × (Nat → Int32) × Int32) => z.2.2 = nI i ∧ z.1 = nI (gat (okN dg rF) i).1 ∧ ∀ j, j < (gat (okN dg rF) i).1 → z.2.1 j = nI ((gat (okN dg rF) i).2 j)) (fun (r : Int32 × (Nat → Int32)) => r.1 = nI (gat (okN dg rF) b).1 ∧ ∀ j, j < (gat (okN dg rF) b).1 → r.2 j = nI ((gat (okN dg rF) b).2 j)) (b := b) (by omega) ⟨rfl, rfl, fun j hj => absurd hj (Nat.not_lt_zero j)⟩ ?_ ?_
    · rintro i ⟨c, f, v⟩ hi ⟨hv, hc, hf⟩
      have hv : v = nI i := hv
      subst hv
      have hc : c = nI (gat (okN dg rF) i).1 := hc
      subst hc
      have hf : ∀ j, j < (gat (okN dg rF) i).1 → f j = nI ((gat (okN dg rF) i).2 j) := hf
      have h6 := h2 i hi
      by_cases c : okN dg rF i = true
      · have e : gat (okN dg rF) (i + 1) = ((gat (okN dg rF) i).1 + 1, fun j => if j = (gat (okN dg rF) i).1 then i else (gat (okN dg rF) i).2 j) := if_pos ⟨h6, c⟩
        unfold okN at c
        simp only [Bool.and_eq_true, decide_eq_true_eq] at c
        refine ⟨(nI ((gat (okN dg rF) i).1 + 1), upd f (gat (okN dg rF) i).1 (nI i), nI (i + 1)), ?_, rfl, by rw [e], fun j hj => ?_⟩
        · show fX1_gatherAble_l7b N (nI T) dg rF (nI (gat (okN dg rF) i).1) f (nI i) = _
          unfold fX1_gatherAble_l7b
          rw [if_neg (nI_ge (show i < T by omega) (by omega)), if_neg (show ¬ (6 : Int32) ≤ nI (gat (okN dg rF) i).1 from nI_ge (b := 6) h6 (by decide)), bind_e (isUpC_e (by omega) dg), if_neg c.1, if_neg (show ¬ (1 : Int32) = 0 by decide), bind_e (told_x (w := 13) (c := 13) rfl (by omega) (by decide) rF), if_neg c.2, gdi_nI h6 (by decide), nI_clamp (by omega), bnd_e, bnd_e, bnd_e, nI_1, nI_1]
        · rw [e] at hj ⊢
          show upd f (gat (okN dg rF) i).1 (nI i) j = nI (if j = (gat (okN dg rF) i).1 then i else (gat (okN dg rF) i).2 j)
          have hj : j < (gat (okN dg rF) i).1 + 1 := hj
          by_cases q : j = (gat (okN dg rF) i).1
          · rw [if_pos q, q, pk_us]
          · rw [if_neg q, pk_un q]
            exact hf j (by omega)
      · have e : gat (okN dg rF) (i + 1) = gat (okN dg rF) i := if_neg (fun q => c q.2)
        refine ⟨(nI (gat (okN dg rF) i).1, f, nI (i + 1)), ?_, rfl, by rw [e], by rw [e]; exact hf⟩
        show fX1_gatherAble_l7b N (nI T) dg rF (nI (gat (okN dg rF) i).1) f (nI i) = _
        unfold fX1_gatherAble_l7b
        rw [if_neg (nI_ge (show i < T by omega) (by omega)), if_neg (show ¬ (6 : Int32) ≤ nI (gat (okN dg rF) i).1 from nI_ge (b := 6) h6 (by decide)), bind_e (isUpC_e (by omega) dg)]
        by_cases u : dg i = -1
        · rw [if_pos u, if_pos rfl, bnd_e, nI_1]
        · rw [if_neg u, if_neg (show ¬ (1 : Int32) = 0 by decide), bind_e (told_x (w := 13) (c := 13) rfl (by omega) (by decide) rF), if_pos, bnd_e, nI_1]
          by_cases q : rF (14 * i + 13) = -1
          · exact q
          · refine absurd ?_ c
            unfold okN
            rw [decide_eq_true u, decide_eq_true q]
            rfl
    · rintro ⟨c, f, v⟩ ⟨hv, hc, hf⟩
      have hv : v = nI b := hv
      subst hv
      have hc : c = nI (gat (okN dg rF) b).1 := hc
      subst hc
      refine ⟨(nI (gat (okN dg rF) b).1, f), ?_, rfl, hf⟩
      show fX1_gatherAble_l7b N (nI T) dg rF (nI (gat (okN dg rF) b).1) f (nI b) = _
      have h7 := (gat_p (okN dg rF) b).1
      unfold fX1_gatherAble_l7b
      by_cases q : b = T
      · rw [if_pos (nI_le (by omega) (by omega))]
      · rw [if_neg (nI_ge (show b < T by omega) (by omega)), if_pos (show (6 : Int32) ≤ nI (gat (okN dg rF) b).1 from nI_le (a := 6) (by omega) (by omega))]
  obtain ⟨⟨c, f⟩, e1, e2, e3⟩ := key
  rw [h3] at e2 e3
  have e2 : c = nI (gat (okN dg rF) T).1 := e2
  refine ⟨f, ?_, e3⟩
  unfold fX1_gatherAble
  rw [bind_e e1]
  show some (c, f) = _
  rw [e2]
theorem gatherM_e {N T L P A : Nat} {rl rt rp ra rf b0 nc : Int32} {rc gr : Nat → Int64} {rP rF now dg vo ls ss bm0 : Nat → Int32} (hN : 16 < N) (h : IR1 T L P A rl rt rp ra rf rc rP rF now gr) (hs : IS1 T dg vo now) : ∃ bm, itr (fun z => fX12_narrow_l13b N 0 b0 nc now ls ss gr z.1 z.2.1 z.2.2) N (bm0, (0 : Int32), (0 : Int32)) = some (bm, nI (gat (okN dg rF) T).1) ∧ ∀ j, j < (gat (okN dg rF) T).1 → bm j = nI ((gat (okN dg rF) T).2 j) := by
  have hT : T ≤ 16 := h.1.1
  have n1 : now 1 = nI T := h.2.2.1.2.1
  have hF2 := h.2.2.2.2.1
  obtain ⟨b, hb, h1, h2, h3⟩ := gat_stop (okN dg rF) T
  have key : ∃ r, itr (fun z => fX12_narrow_l13b N 0 b0 nc now ls ss gr z.1 z.2.1 z.2.2) N (bm0, (0 : Int32), (0 : Int32)) = some r ∧ (r.2 = nI (gat (okN dg rF) b).1 ∧ ∀ j, j < (gat (okN dg rF) b).1 → r.1 j = nI ((gat (okN dg rF) b).2 j)) := by
    refine itr_inv (fun (i : Nat) (z : (Nat → Int32) × Int32 × Int32) => z.2.2 = nI i ∧ z.2.1 = nI (gat (okN dg rF) i).1 ∧ ∀ j, j < (gat (okN dg rF) i).1 → z.1 j = nI ((gat (okN dg rF) i).2 j)) (fun (r : (Nat → Int32) × Int32) => r.2 = nI (gat (okN dg rF) b).1 ∧ ∀ j, j < (gat (okN dg rF) b).1 → r.1 j = nI ((gat (okN dg rF) b).2 j)) (b := b) (by omega) ⟨rfl, rfl, fun j hj => absurd hj (Nat.not_lt_zero j)⟩ ?_ ?_
    · rintro i ⟨f, c, v⟩ hi ⟨hv, hc, hf⟩
      have hv : v = nI i := hv
      subst hv
      have hc : c = nI (gat (okN dg rF) i).1 := hc
      subst hc
      have hf : ∀ j, j < (gat (okN dg rF) i).1 → f j = nI ((gat (okN dg rF) i).2 j) := hf
      have h6 := h2 i hi
      have hiT : i < T := by omega
      by_cases c : okN dg rF i = true
      · have e : gat (okN dg rF) (i + 1) = ((gat (okN dg rF) i).1 + 1, fun j => if j = (gat (okN dg rF) i).1 then i else (gat (okN dg rF) i).2 j) := if_pos ⟨h6, c⟩
        unfold okN at c
        simp only [Bool.and_eq_true, decide_eq_true_eq] at c
        refine ⟨(upd f (gat (okN dg rF) i).1 (nI i), nI ((gat (okN dg rF) i).1 + 1), nI (i + 1)), ?_, rfl, by rw [e], fun j hj => ?_⟩
        · show fX12_narrow_l13b N 0 b0 nc now ls ss gr f (nI (gat (okN dg rF) i).1) (nI i) = _
          unfold fX12_narrow_l13b
          rw [bind_e (things_e n1), if_neg (nI_ge hiT (by omega)), if_neg (show ¬ (6 : Int32) ≤ nI (gat (okN dg rF) i).1 from nI_ge (b := 6) h6 (by decide)), bind_e (isUpM_e (by omega) now), ← (hs i (by omega)).1, if_neg c.1, if_neg (show ¬ (1 : Int32) = 0 by decide), bind_e (ofM_x (w := 13) (c := 13) rfl (by omega) (by decide) now), ← hF2 i hiT 13 (by decide), if_neg c.2, gdi_nI h6 (by decide), nI_clamp (by omega), bnd_e, bnd_e, bnd_e, nI_1, nI_1]
        · rw [e] at hj ⊢
          show upd f (gat (okN dg rF) i).1 (nI i) j = nI (if j = (gat (okN dg rF) i).1 then i else (gat (okN dg rF) i).2 j)
          have hj : j < (gat (okN dg rF) i).1 + 1 := hj
          by_cases q : j = (gat (okN dg rF) i).1
          · rw [if_pos q, q, pk_us]
          · rw [if_neg q, pk_un q]
            exact hf j (by omega)
      · have e : gat (okN dg rF) (i + 1) = gat (okN dg rF) i := if_neg (fun q => c q.2)
        refine ⟨(f, nI (gat (okN dg rF) i).1, nI (i + 1)), ?_, rfl, by rw [e], by rw [e]; exact hf⟩
        show fX12_narrow_l13b N 0 b0 nc now ls ss gr f (nI (gat (okN dg rF) i).1) (nI i) = _
        unfold fX12_narrow_l13b
        rw [bind_e (things_e n1), if_neg (nI_ge hiT (by omega)), if_neg (show ¬ (6 : Int32) ≤ nI (gat (okN dg rF) i).1 from nI_ge (b := 6) h6 (by decide)), bind_e (isUpM_e (by omega) now), ← (hs i (by omega)).1]
        by_cases u : dg i = -1
        · rw [if_pos u, if_pos rfl, bnd_e, nI_1]
        · rw [if_neg u, if_neg (show ¬ (1 : Int32) = 0 by decide), bind_e (ofM_x (w := 13) (c := 13) rfl (by omega) (by decide) now), ← hF2 i hiT 13 (by decide), if_pos, bnd_e, nI_1]
          by_cases q : rF (14 * i + 13) = -1
          · exact q
          · refine absurd ?_ c
            unfold okN
            rw [decide_eq_true u, decide_eq_true q]
            rfl
    · rintro ⟨f, c, v⟩ ⟨hv, hc, hf⟩
      have hv : v = nI b := hv
      subst hv
      have hc : c = nI (gat (okN dg rF) b).1 := hc
      subst hc
      refine ⟨(f, nI (gat (okN dg rF) b).1), ?_, rfl, hf⟩
      show fX12_narrow_l13b N 0 b0 nc now ls ss gr f (nI (gat (okN dg rF) b).1) (nI b) = _
      have h7 := (gat_p (okN dg rF) b).1
      unfold fX12_narrow_l13b
      by_cases q : b = T
      · rw [bind_e (things_e n1), if_pos (nI_le (by omega) (by omega))]
      · rw [bind_e (things_e n1), if_neg (nI_ge (show b < T by omega) (by omega)), if_pos (show (6 : Int32) ≤ nI (gat (okN dg rF) b).1 from nI_le (a := 6) (by omega) (by omega))]
  obtain ⟨⟨f, c⟩, e1, e2, e3⟩ := key
  rw [h3] at e2 e3
  have e2 : c = nI (gat (okN dg rF) T).1 := e2
  exact ⟨f, by rw [e1, e2], e3⟩
/-- what a set costs -/
def cI (rF : Nat → Int32) (be : Nat → Nat) (σ : Nat) : Nat → Int32
  | 0 => 0
  | m + 1 => if σ.testBit m then cI rF be σ m + rF (14 * be m + 13) else cI rF be σ m
theorem costC_e {N n σ : Nat} {rF ab : Nat → Int32} {be : Nat → Nat} (hN : 16 < N) (hn : n ≤ 6) (hs : σ < 64) (hb : ∀ j, j < n → ab j = nI (be j) ∧ be j < 16) : fX1_costOf N (nI n) ab rF (nI σ) = some (cI rF be σ n) := by
  unfold fX1_costOf
  rw [show (((0 : Int32), (0 : Int32)) : Int32 × Int32) = (fun k => (cI rF be σ k, nI k)) 0 from rfl, itr_0 (r := cI rF be σ n) (fun k => (cI rF be σ k, nI k)) n (by omega) ?_ ?_]
  · rfl
  · show fX1_costOf_l4b N (nI n) ab rF (nI σ) (cI rF be σ n) (nI n) = _
    unfold fX1_costOf_l4b
    rw [if_pos (nI_le (Nat.le_refl n) (by omega))]
  · intro k hk
    show fX1_costOf_l4b N (nI n) ab rF (nI σ) (cI rF be σ k) (nI k) = some (.inl (if σ.testBit k then cI rF be σ k + rF (14 * be k + 13) else cI rF be σ k, nI (k + 1)))
    obtain ⟨e1, e2⟩ := hb k hk
    unfold fX1_costOf_l4b
    rw [if_neg (nI_ge hk (by omega))]
    cases c : σ.testBit k
    · rw [if_pos ((bt_e σ hs k (by omega)).mpr c), bnd_e, nI_1]
      rfl
    · rw [if_neg (fun q => by rw [(bt_e σ hs k (by omega)).mp q] at c; cases c), gdi_nI (by omega) (by decide), nI_clamp (by omega), e1, bind_e (told_x (w := 13) (c := 13) rfl e2 (by decide) rF), bnd_e, bnd_e, nI_1]
      rfl
theorem vS_or {be : Nat → Nat} {n σ : Nat} (hi : ∀ i j, i < j → j < n → be i < be j) {k : Nat} (hk : k < n) (hb : be k < 16) : nI (vS be σ k) ||| ((1 : Int32) <<< (nI (be k) &&& 31)) = nI (vS be σ k + 2 ^ be k) := by
  have h1 := vS_lt (be := be) (σ := σ) hi k (be k) (by omega) (fun j hj => hi j k hj hk)
  rw [sl_e _ hb, Int32.or_comm]
  have h2 := fa_or_sum (a := vS be σ k) (k := be k) 1 h1
  rw [Nat.mul_one] at h2
  rw [h2, Nat.add_comm]
theorem thingsC_e {N n σ : Nat} {ab : Nat → Int32} {be : Nat → Nat} (hN : 16 < N) (hn : n ≤ 6) (hs : σ < 64) (hb : ∀ j, j < n → ab j = nI (be j) ∧ be j < 16) (hi : ∀ i j, i < j → j < n → be i < be j) : fX1_thingsOf N (nI n) ab (nI σ) = some (nI (vS be σ n)) := by
  unfold fX1_thingsOf
  rw [show (((0 : Int32), (0 : Int32)) : Int32 × Int32) = (fun k => (nI (vS be σ k), nI k)) 0 from rfl, itr_0 (r := nI (vS be σ n)) (fun k => (nI (vS be σ k), nI k)) n (by omega) ?_ ?_]
  · rfl
  · show fX1_thingsOf_l4b N (nI n) ab (nI σ) (nI (vS be σ n)) (nI n) = _
    unfold fX1_thingsOf_l4b
    rw [if_pos (nI_le (Nat.le_refl n) (by omega))]
  · intro k hk
    show fX1_thingsOf_l4b N (nI n) ab (nI σ) (nI (vS be σ k)) (nI k) = some (.inl (nI (vS be σ k + (if σ.testBit k then 2 ^ be k else 0)), nI (k + 1)))
    obtain ⟨e1, e2⟩ := hb k hk
    unfold fX1_thingsOf_l4b
    rw [if_neg (nI_ge hk (by omega))]
    cases c : σ.testBit k
    · rw [if_pos ((bt_e σ hs k (by omega)).mpr c), bnd_e, nI_1]
      rfl
    · rw [if_neg (fun q => by rw [(bt_e σ hs k (by omega)).mp q] at c; cases c), gdi_nI (by omega) (by decide), nI_clamp (by omega), e1, vS_or hi hk e2, bnd_e, bnd_e, nI_1]
      rfl
/-- whose beam is narrowed by the set -/
def dbl (be : Nat → Nat) (σ : Nat) : Nat → Nat → Bool
  | 0, _ => false
  | m + 1, k => dbl be σ m k || (decide (be m = k) && σ.testBit m)
theorem dbl_lt {be : Nat → Nat} {σ k : Nat} : ∀ {m : Nat}, dbl be σ m k = true → ∃ j, j < m ∧ be j = k
  | 0, h => by cases h
  | m + 1, h => by
    have h : (dbl be σ m k || (decide (be m = k) && σ.testBit m)) = true := h
    rw [Bool.or_eq_true] at h
    rcases h with h | h
    · obtain ⟨j, hj, e⟩ := dbl_lt h
      exact ⟨j, by omega, e⟩
    · rw [Bool.and_eq_true, decide_eq_true_eq] at h
      exact ⟨m, Nat.lt_succ_self m, h.1⟩
def sS (rF : Nat → Int32) (be : Nat → Nat) (σ n k : Nat) : Int32 := if dbl be σ n k = true then nI (min 99 (2 * sNat rF k)) else rF (14 * k + 5)
theorem sS_new {rF : Nat → Int32} {be : Nat → Nat} {σ n k : Nat} (hi : ∀ i j, i < j → j < n → be i < be j) (hk : k < n) : sS rF be σ k (be k) = rF (14 * be k + 5) := by
  unfold sS
  rw [if_neg]
  intro q
  obtain ⟨j, hj, e⟩ := dbl_lt q
  have := hi j k hj hk
  omega
theorem sS_s1 {rF : Nat → Int32} {be : Nat → Nat} {σ m : Nat} (c : σ.testBit m = true) : sS rF be σ (m + 1) (be m) = nI (min 99 (2 * sNat rF (be m))) := by
  unfold sS
  rw [if_pos]
  show (dbl be σ m (be m) || (decide (be m = be m) && σ.testBit m)) = true
  rw [c, decide_eq_true rfl]
  simp
theorem sS_s2 {rF : Nat → Int32} {be : Nat → Nat} {σ m k : Nat} (c : be m ≠ k ∨ σ.testBit m = false) : sS rF be σ (m + 1) k = sS rF be σ m k := by
  unfold sS
  have e : dbl be σ (m + 1) k = dbl be σ m k := by
    show (dbl be σ m k || (decide (be m = k) && σ.testBit m)) = _
    rcases c with c | c
    · rw [decide_eq_false c, Bool.false_and, Bool.or_false]
    · rw [c, Bool.and_false, Bool.or_false]
  rw [e]

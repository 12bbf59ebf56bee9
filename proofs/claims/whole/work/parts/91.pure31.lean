/-! ARC, the reference -/
def rbP (A : Nat) (rF : Nat → Int32) (rc : Nat → Int64) (w : Nat → Nat) (n i j : Nat) : Bool := decide (¬ j = i) && decide (nd A rF rc (w i) (w j) = -1)
def rbR (A : Nat) (rF : Nat → Int32) (rc : Nat → Int64) (w : Nat → Nat) (n i : Nat) : Bool := decide (fa_first (rbP A rF rc w n i) n < n)
theorem rb_iff {A n : Nat} {rF : Nat → Int32} {rc : Nat → Int64} {w : Nat → Nat} : fa_first (rbR A rF rc w n) n < n ↔ fa_first (nonP A rF rc w) n < n := by
  constructor
  · intro h
    have h1 := of_decide_eq_true (fa_first_yes (rbR A rF rc w n) n h)
    have h2 := fa_first_yes _ n h1
    generalize fa_first (rbR A rF rc w n) n = i at h h1 h2
    generalize fa_first (rbP A rF rc w n i) n = j at h1 h2
    unfold rbP at h2
    simp only [Bool.and_eq_true, decide_eq_true_eq] at h2
    rcases Nat.lt_or_ge i j with q | q
    · exact ff_yes (k := j) h1 (decide_eq_true (ff_yes (k := i) q (decide_eq_true h2.2)))
    · refine ff_yes (k := i) h (decide_eq_true (ff_yes (k := j) (by omega) (decide_eq_true ?_)))
      rw [nd_comm]
      exact h2.2
  · intro h
    have h1 := of_decide_eq_true (fa_first_yes (nonP A rF rc w) n h)
    have h2 := of_decide_eq_true (fa_first_yes _ _ h1)
    generalize fa_first (nonP A rF rc w) n = k at h h1 h2
    generalize fa_first (fun j => decide (nd A rF rc (w j) (w k) = -1)) k = j at h1 h2
    refine ff_yes (k := j) (by omega) (decide_eq_true (ff_yes (k := k) h ?_))
    unfold rbP
    rw [decide_eq_true (show ¬ k = j by omega), decide_eq_true h2]
    rfl
theorem i12 (i j : Nat) : (12 : Int32) * nI i + nI j = nI (12 * i + j) := by
  rw [show (12 : Int32) * nI i = nI (12 * i) from pk_mul 12 i, nI_add]
set_option maxHeartbeats 1000000 in
theorem layNeeds_e {N T L P A n : Nat} {rl rt rp ra rf : Int32} {rc gr : Nat → Int64} {rP rF now row ne : Nat → Int32} {w : Nat → Nat} (hN : 1802 < N) (h : IR1 T L P A rl rt rp ra rf rc rP rF now gr) (hF : IF1 T L rF) (hn : n ≤ 12) (hw : ∀ k, k < n → w k < T) (hr : ∀ k, k < n → row k = nI (w k)) : ∃ ne2, fX12_layNeeds N (nI n) row gr now ne = some (ne2, if fa_first (nonP A rF rc w) n < n then 0 else 1) ∧ (¬ fa_first (nonP A rF rc w) n < n → ∀ i j, i < n → j < n → i ≠ j → ne2 (12 * i + j) = nd A rF rc (w i) (w j)) := by
  have inner : ∀ i f, i < n → ∃ r, itr (fun z => fX12_layNeeds_l12b N (nI n) row gr now (nI i) z.1 z.2) N (f, (0 : Int32)) = some r ∧ (if fa_first (rbP A rF rc w n i) n < n then ∃ g, r = .inr (g, 0) else ∃ g, r = .inl g ∧ (∀ j, j < n → i ≠ j → g (12 * i + j) = nd A rF rc (w i) (w j)) ∧ ∀ k, (k < 12 * i ∨ 12 * i + n ≤ k) → g k = f k) := by
    intro i f hi
    have step : ∀ j (g : Nat → Int32), j < n → fX12_layNeeds_l12b N (nI n) row gr now (nI i) g (nI j) = some (if i = j then .inl (g, nI (j + 1)) else if nd A rF rc (w i) (w j) = -1 then .inr (.inr (upd g (12 * i + j) (nd A rF rc (w i) (w j)), 0)) else .inl (upd g (12 * i + j) (nd A rF rc (w i) (w j)), nI (j + 1))) := by
      intro j g hj
      unfold fX12_layNeeds_l12b
      rw [if_neg (nI_ge hj (by omega))]
      by_cases e : i = j
      · rw [if_pos (by rw [e]), if_pos e, bnd_e, nI_1]
      · rw [if_neg (fun q => e ((nI_eq (by omega) (by omega)).mp q)), if_neg e, gdi_nI (by omega) (by decide), gdi_nI (by omega) (by decide), nI_clamp (by omega), nI_clamp (show j < 2 ^ 31 by omega), hr i hi, hr j hj, bind_e (needM_e hN h hF (hw i hi) (hw j hj)), i12, gdi_nI (by omega) (by decide), nI_clamp (by omega), bnd_e, gdi_nI (by omega) (by decide), pk_us]
        by_cases q : nd A rF rc (w i) (w j) = -1
        · rw [if_pos q, if_pos q]
        · rw [if_neg q, if_neg q, bnd_e, nI_1]
    refine itr_inv (fun (j : Nat) (z : (Nat → Int32) × Int32) => z.2 = nI j ∧ (∀ k, k < j → i ≠ k → z.1 (12 * i + k) = nd A rF rc (w i) (w k)) ∧ ∀ k, (k < 12 * i ∨ 12 * i + n ≤ k) → z.1 k = f k) (fun (r : (Nat → Int32) ⊕ ((Nat → Int32) × Int32)) => if fa_first (rbP A rF rc w n i) n < n then ∃ g, r = .inr (g, 0) else ∃ g, r = .inl g ∧ (∀ j, j < n → i ≠ j → g (12 * i + j) = nd A rF rc (w i) (w j)) ∧ ∀ k, (k < 12 * i ∨ 12 * i + n ≤ k) → g k = f k) (b := fa_first (rbP A rF rc w n i) n) (Nat.lt_of_le_of_lt (fa_first_le _ _) (by omega)) ⟨rfl, fun k hk => absurd hk (Nat.not_lt_zero k), fun k _ => rfl⟩ ?_ ?_
    · rintro j ⟨g, v⟩ hj ⟨hv, hg, hf⟩
      have hv : v = nI j := hv
      subst hv
      have hg : ∀ k, k < j → i ≠ k → g (12 * i + k) = nd A rF rc (w i) (w k) := hg
      have hf : ∀ k, (k < 12 * i ∨ 12 * i + n ≤ k) → g k = f k := hf
      have hjn : j < n := Nat.lt_of_lt_of_le hj (fa_first_le _ _)
      have hno := fa_first_no (rbP A rF rc w n i) n j hj
      by_cases e : i = j
      · refine ⟨(g, nI (j + 1)), ?_, rfl, fun k hk hik => hg k (by omega) hik, hf⟩
        show fX12_layNeeds_l12b N (nI n) row gr now (nI i) g (nI j) = _
        rw [step j g hjn, if_pos e]
      · have hq : ¬ nd A rF rc (w i) (w j) = -1 := by
          intro q
          unfold rbP at hno
          rw [decide_eq_true (show ¬ j = i from fun z => e z.symm), decide_eq_true q] at hno
          cases hno
        refine ⟨(upd g (12 * i + j) (nd A rF rc (w i) (w j)), nI (j + 1)), ?_, rfl, fun k hk hik => ?_, fun k hk => ?_⟩
        · show fX12_layNeeds_l12b N (nI n) row gr now (nI i) g (nI j) = _
          rw [step j g hjn, if_neg e, if_neg hq]
        · show upd g (12 * i + j) (nd A rF rc (w i) (w j)) (12 * i + k) = _
          by_cases q : k = j
          · rw [q, pk_us]
          · rw [pk_un (by omega)]
            exact hg k (by omega) hik
        · show upd g (12 * i + j) (nd A rF rc (w i) (w j)) k = _
          rw [pk_un (by omega)]
          exact hf k hk
    · rintro ⟨g, v⟩ ⟨hv, hg, hf⟩
      have hv : v = nI (fa_first (rbP A rF rc w n i) n) := hv
      subst hv
      by_cases c : fa_first (rbP A rF rc w n i) n < n
      · have hy := fa_first_yes (rbP A rF rc w n i) n c
        refine ⟨.inr (upd g (12 * i + fa_first (rbP A rF rc w n i) n) (nd A rF rc (w i) (w (fa_first (rbP A rF rc w n i) n))), 0), ?_, by rw [if_pos c]; exact ⟨_, rfl⟩⟩
        show fX12_layNeeds_l12b N (nI n) row gr now (nI i) g (nI (fa_first (rbP A rF rc w n i) n)) = _
        unfold rbP at hy
        simp only [Bool.and_eq_true, decide_eq_true_eq] at hy
        rw [step _ g c, if_neg (fun z => hy.1 z.symm), if_pos]
        exact hy.2
      · have e : fa_first (rbP A rF rc w n i) n = n := Nat.le_antisymm (fa_first_le _ n) (by omega)
        rw [e] at hg
        refine ⟨.inl g, ?_, by rw [if_neg c]; exact ⟨g, rfl, hg, hf⟩⟩
        show fX12_layNeeds_l12b N (nI n) row gr now (nI i) g (nI (fa_first (rbP A rF rc w n i) n)) = _
        rw [e]
        unfold fX12_layNeeds_l12b
        rw [if_pos (nI_le (Nat.le_refl n) (by omega))]
  have key : ∃ r, itr (fun z => fX12_layNeeds_l2b N (nI n) row gr now z.1 z.2) N (ne, (0 : Int32)) = some r ∧ (if fa_first (rbR A rF rc w n) n < n then ∃ g, r = .inr (g, 0) else ∃ g, r = .inl g ∧ ∀ i j, i < n → j < n → i ≠ j → g (12 * i + j) = nd A rF rc (w i) (w j)) := by
    refine itr_inv (fun (i : Nat) (z : (Nat → Int32) × Int32) => z.2 = nI i ∧ ∀ i' j, i' < i → j < n → i' ≠ j → z.1 (12 * i' + j) = nd A rF rc (w i') (w j)) (fun (r : (Nat → Int32) ⊕ ((Nat → Int32) × Int32)) => if fa_first (rbR A rF rc w n) n < n then ∃ g, r = .inr (g, 0) else ∃ g, r = .inl g ∧ ∀ i j, i < n → j < n → i ≠ j → g (12 * i + j) = nd A rF rc (w i) (w j)) (b := fa_first (rbR A rF rc w n) n) (Nat.lt_of_le_of_lt (fa_first_le _ _) (by omega)) ⟨rfl, fun i' j hi => absurd hi (Nat.not_lt_zero i')⟩ ?_ ?_
    · rintro i ⟨f, v⟩ hi ⟨hv, hf⟩
      have hv : v = nI i := hv
      subst hv
      have hf : ∀ i' j, i' < i → j < n → i' ≠ j → f (12 * i' + j) = nd A rF rc (w i') (w j) := hf
      have hin : i < n := Nat.lt_of_lt_of_le hi (fa_first_le _ _)
      have hno := of_decide_eq_false (fa_first_no (rbR A rF rc w n) n i hi)
      obtain ⟨r, e1, e2⟩ := inner i f hin
      rw [if_neg hno] at e2
      obtain ⟨g, rfl, hg, hk⟩ := e2
      refine ⟨(g, nI (i + 1)), ?_, rfl, fun i' j h1 h2 h3 => ?_⟩
      · show fX12_layNeeds_l2b N (nI n) row gr now f (nI i) = _
        unfold fX12_layNeeds_l2b
        rw [if_neg (nI_ge hin (by omega)), bind_e e1]
        rw [Sum.elim_inl, bnd_e, nI_1]
      · show g (12 * i' + j) = _
        by_cases q : i' = i
        · rw [q] at h3 ⊢
          exact hg j h2 h3
        · rw [hk _ (Or.inl (by omega))]
          exact hf i' j (by omega) h2 h3
    · rintro ⟨f, v⟩ ⟨hv, hf⟩
      have hv : v = nI (fa_first (rbR A rF rc w n) n) := hv
      subst hv
      by_cases c : fa_first (rbR A rF rc w n) n < n
      · have hy := of_decide_eq_true (fa_first_yes (rbR A rF rc w n) n c)
        obtain ⟨r, e1, e2⟩ := inner _ f c
        rw [if_pos hy] at e2
        obtain ⟨g, rfl⟩ := e2
        refine ⟨.inr (g, 0), ?_, by rw [if_pos c]; exact ⟨_, rfl⟩⟩
        show fX12_layNeeds_l2b N (nI n) row gr now f (nI (fa_first (rbR A rF rc w n) n)) = _
        unfold fX12_layNeeds_l2b
        rw [if_neg (nI_ge c (by omega)), bind_e e1]
        rfl
      · have e : fa_first (rbR A rF rc w n) n = n := Nat.le_antisymm (fa_first_le _ n) (by omega)
        rw [e] at hf
        refine ⟨.inl f, ?_, by rw [if_neg c]; exact ⟨f, rfl, hf⟩⟩
        show fX12_layNeeds_l2b N (nI n) row gr now f (nI (fa_first (rbR A rF rc w n) n)) = _
        rw [e]
        unfold fX12_layNeeds_l2b
        rw [if_pos (nI_le (Nat.le_refl n) (by omega))]
  obtain ⟨r, e1, e2⟩ := key
  unfold fX12_layNeeds
  rw [bind_e e1]
  by_cases c : fa_first (nonP A rF rc w) n < n
  · rw [if_pos (rb_iff.mpr c)] at e2
    obtain ⟨g, rfl⟩ := e2
    rw [if_pos c]
    exact ⟨g, rfl, fun z => absurd c z⟩
  · rw [if_neg (fun z => c (rb_iff.mp z))] at e2
    obtain ⟨g, rfl, hg⟩ := e2
    rw [if_neg c]
    exact ⟨g, rfl, fun _ => hg⟩
theorem spanM_e {N n k nq : Nat} {al q ne : Nat → Int32} {o s : Nat → Nat} {d : Nat → Nat → Nat} (hN : 16 < N) (hn : n ≤ 12) (hk : k < nq) (hq : nq ≤ 12) (ho : ∀ i, i ≤ k → q i = nI (o i) ∧ o i < n) (hs : ∀ i, i < k → al i = nI (s i) ∧ s i ≤ 100000) (hd : ∀ i, i < k → ne (12 * o i + o k) = nI (d (o i) (o k)) ∧ d (o i) (o k) ≤ 1800) : fX12_spanOf N nq al q ne (nI k) = some (nI (mxs (fun i => s i + d (o i) (o k)) k)) := by
  unfold fX12_spanOf
  rw [show (((0 : Int32), (0 : Int32)) : Int32 × Int32) = (fun i => (nI (mxs (fun i => s i + d (o i) (o k)) i), nI i)) 0 from rfl, itr_0 (r := nI (mxs (fun i => s i + d (o i) (o k)) k)) (fun i => (nI (mxs (fun i => s i + d (o i) (o k)) i), nI i)) k (by omega) ?_ ?_]
  · rfl
  · show fX12_spanOf_l5b N nq al q ne (nI k) (nI (mxs (fun i => s i + d (o i) (o k)) k)) (nI k) = _
    unfold fX12_spanOf_l5b
    rw [if_pos (nI_le (Nat.le_refl k) (by omega))]
  · intro i hi
    show fX12_spanOf_l5b N nq al q ne (nI k) (nI (mxs (fun i => s i + d (o i) (o k)) i)) (nI i) = some (.inl (nI (max (mxs (fun i => s i + d (o i) (o k)) i) (s i + d (o i) (o k))), nI (i + 1)))
    obtain ⟨s1, s2⟩ := hs i hi
    obtain ⟨d1, d2⟩ := hd i hi
    obtain ⟨o1, o2⟩ := ho i (by omega)
    obtain ⟨o3, o4⟩ := ho k (Nat.le_refl k)
    have hm : mxs (fun i => s i + d (o i) (o k)) i ≤ 200000 := mxs_le (fun j hj => by
      have h1 := (hs j (by omega)).2
      have h2 := (hd j (by omega)).2
      show s j + d (o j) (o k) ≤ 200000
      omega)
    unfold fX12_spanOf_l5b
    rw [if_neg (nI_ge hi (by omega)), gdi_nI (by omega) (by decide), gdi_nI (by omega) (by omega), gdi_nI hk (by omega), nI_clamp (by omega), nI_clamp (show k < 2 ^ 31 by omega), o1, o3, i12, gdi_nI (by omega) (by decide), nI_clamp (by omega), s1, d1, nI_add]
    generalize mxs (fun i => s i + d (o i) (o k)) i = M at hm ⊢
    by_cases c : s i + d (o i) (o k) ≤ M
    · rw [if_pos (nI_le c (by omega)), bnd_e, nI_1, Nat.max_eq_left c]
    · rw [if_neg (nI_ge (by omega) (by omega)), gdi_nI (by omega) (by decide), gdi_nI (by omega) (by omega), gdi_nI hk (by omega), gdi_nI (by omega) (by decide), bnd_e, bnd_e, nI_1, Nat.max_eq_right (by omega)]

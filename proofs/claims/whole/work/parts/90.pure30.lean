/-! ARC -/
/-- a row is taken in both, and it is the same; or in neither -/
theorem takeRow_e {N T L P A a c : Nat} {rl rt rp ra rf b rm tl ml rw0 : Int32} {rc gr : Nat → Int64} {rP rF now now1 t u row rowM : Nat → Int32} (hN : 16 < N) (hI : IT tl t ml u) (h : IR1 T L P A rl rt rp ra rf rc rP rF now1 gr) (hl : LY N b now now1) (hc : c ≤ 12) (ha : a ≤ 12) : (∃ rl2 row2 rm2 rowM2, fX11_takeRow N tl rw0 t (nI T) row (nI a) (nI c) = some (0, rl2, row2, 0) ∧ fX12_takeRow N ml b rm now u rowM (nI a) (nI c) = some (0, 1, rm2, now1, rowM2, 0)) ∨ ∃ (n : Nat) (w : Nat → Nat) (row2 rowM2 : Nat → Int32), a ≤ n ∧ n ≤ c ∧ (∀ k, k < n → w k < T) ∧ (∀ i j, i < j → j < n → w i ≠ w j) ∧ (∀ k, k < n → row2 k = nI (w k)) ∧ (∀ k, k < n → rowM2 k = nI (w k)) ∧ fX11_takeRow N tl rw0 t (nI T) row (nI a) (nI c) = some (0, nI n, row2, 1) ∧ fX12_takeRow N ml b rm now u rowM (nI a) (nI c) = some (0, 1, nI n, now1, rowM2, 1) := by
  have hT : T ≤ 16 := h.1.1
  obtain ⟨n, hn, rfl, rfl, hj⟩ := hI
  have hw : ∀ j : Nat, ∃ x : Nat, t j &&& 255 = nI x ∧ x < 256 := by
    intro j
    obtain ⟨x, hx, e⟩ := pk_andE (t j) (m := 255) 8 (by decide)
    exact ⟨x, e, by omega⟩
  obtain ⟨w, hw⟩ := Classical.skolem.mp hw
  obtain ⟨rl2, row2, e1, e2⟩ := takeRowC_e (N := N) (T := T) (n := n) (a := a) (c := c) (rl := rw0) (tp := t) (row := row) (w := w) hN hT hn hc ha (fun j _ => hw j)
  obtain ⟨rowM2, e3, e4⟩ := takeRowM_e (N := N) (n := n) (a := a) (c := c) (rm := rm) (um := u) (row := rowM) (w := w) hN h hl hn hc ha (fun j q => ⟨by rw [hj j (by omega)]; exact (hw j).1, (hw j).2⟩)
  by_cases q : a ≤ n ∧ n ≤ c ∧ ¬ fa_first (bad w T) n < n
  · right
    obtain ⟨rfl, e5⟩ := e2 q
    have e4 := e4 q
    rw [if_pos q] at e1 e3
    have eq : fa_first (bad w T) n = n := Nat.le_antisymm (fa_first_le _ n) (by omega)
    have hb : ∀ k, k < n → w k < T ∧ ∀ j, j < k → w j ≠ w k := fun k hk => bad_no (fa_first_no (bad w T) n k (by omega))
    exact ⟨n, w, row2, rowM2, q.1, q.2.1, fun k hk => (hb k hk).1, fun i j hij hj => (hb j hj).2 i hij, e5, e4, e1, e3⟩
  · left
    rw [if_neg q] at e1 e3
    exact ⟨rl2, row2, _, rowM2, e1, e3⟩
/-- the greatest of the first k -/
def mxs (f : Nat → Nat) : Nat → Nat
  | 0 => 0
  | k + 1 => max (mxs f k) (f k)
theorem mxs_le {f : Nat → Nat} {M : Nat} : ∀ {k : Nat}, (∀ j, j < k → f j ≤ M) → mxs f k ≤ M
  | 0, _ => Nat.zero_le M
  | k + 1, h => Nat.max_le.mpr ⟨mxs_le (fun j hj => h j (by omega)), h k (Nat.lt_succ_self k)⟩
theorem mxs_cong {f g : Nat → Nat} : ∀ {k : Nat}, (∀ j, j < k → f j = g j) → mxs f k = mxs g k
  | 0, _ => rfl
  | k + 1, h => by
    show max (mxs f k) (f k) = max (mxs g k) (g k)
    rw [mxs_cong (fun j hj => h j (by omega)), h k (Nat.lt_succ_self k)]
theorem mxs_ge {f : Nat → Nat} {j : Nat} : ∀ {k : Nat}, j < k → f j ≤ mxs f k
  | 0, h => absurd h (Nat.not_lt_zero j)
  | k + 1, h => by
    show f j ≤ max (mxs f k) (f k)
    rcases Nat.lt_or_ge j k with q | q
    · exact Nat.le_trans (mxs_ge q) (Nat.le_max_left _ _)
    · have : j = k := by omega
      subst this
      exact Nat.le_max_right _ _
/-- NEED of two as a number -/
def ndN (A : Nat) (rF : Nat → Int32) (rc : Nat → Int64) (a b : Nat) : Nat := (nd A rF rc a b).toNatClampNeg
theorem ndN_e {A : Nat} {rF : Nat → Int32} {rc : Nat → Int64} {a b : Nat} (hA : A ≤ 300) (h : ¬ nd A rF rc a b = -1) : nd A rF rc a b = nI (ndN A rF rc a b) ∧ ndN A rF rc a b ≤ 1800 := by
  unfold ndN
  rcases nd_val (rF := rF) (rc := rc) (a := a) (b := b) hA with e | ⟨d, hd, e⟩
  · exact absurd e h
  · rw [e, nI_clamp (by omega)]
    exact ⟨rfl, hd⟩
/-- the least spot behind the first k of a row in the class: none, if one of them has no NEED with t -/
theorem spotC_e {N T L A k t nq : Nat} {rF q sp : Nat → Int32} {rc : Nat → Int64} {w s : Nat → Nat} (hN : 16 < N) (hT : T ≤ 16) (hA : A ≤ 300) (hF : IF1 T L rF) (hk : k ≤ 12) (hkq : k ≤ nq) (hq : nq ≤ 12) (ht : t < T) (hw : ∀ j, j < k → q j = nI (w j) ∧ w j < T) (hs : ∀ j, j < k → sp j = nI (s j) ∧ s j ≤ 100000) : fX2_spotBehind N nq q (nI A) rc rF sp (nI k) (nI t) = some (if fa_first (fun j => decide (nd A rF rc (w j) t = -1)) k < k then -1 else nI (mxs (fun j => s j + ndN A rF rc (w j) t) k)) := by
  have key : ∃ r, itr (fun z => fX2_spotBehind_l6b N nq q (nI A) rc rF sp (nI k) (nI t) z.1 z.2) N ((0 : Int32), (0 : Int32)) = some r ∧ r = (if fa_first (fun j => decide (nd A rF rc (w j) t = -1)) k < k then .inr (-1) else .inl (nI (mxs (fun j => s j + ndN A rF rc (w j) t) k))) := by
    refine itr_inv (fun (i : Nat) (z : Int32 × Int32) => z = (nI (mxs (fun j => s j + ndN A rF rc (w j) t) i), nI i)) (fun (r : Int32 ⊕ Int32) => r = (if fa_first (fun j => decide (nd A rF rc (w j) t = -1)) k < k then .inr (-1) else .inl (nI (mxs (fun j => s j + ndN A rF rc (w j) t) k)))) (b := fa_first (fun j => decide (nd A rF rc (w j) t = -1)) k) (Nat.lt_of_le_of_lt (fa_first_le _ _) (by omega)) rfl ?_ ?_
    · rintro i z hi rfl
      have hik : i < k := Nat.lt_of_lt_of_le hi (fa_first_le _ _)
      have hno := of_decide_eq_false (fa_first_no (fun j => decide (nd A rF rc (w j) t = -1)) k i hi)
      obtain ⟨e1, e2⟩ := ndN_e hA hno
      obtain ⟨w1, w2⟩ := hw i hik
      obtain ⟨s1, s2⟩ := hs i hik
      have hm : mxs (fun j => s j + ndN A rF rc (w j) t) i ≤ 200000 := mxs_le (fun j hj => by
        have hno := of_decide_eq_false (fa_first_no (fun j => decide (nd A rF rc (w j) t = -1)) k j (by omega))
        have h1 := (ndN_e hA hno).2
        have h2 := (hs j (by omega)).2
        omega)
      refine ⟨_, ?_, rfl⟩
      show fX2_spotBehind_l6b N nq q (nI A) rc rF sp (nI k) (nI t) (nI (mxs (fun j => s j + ndN A rF rc (w j) t) i)) (nI i) = some (.inl (nI (max (mxs (fun j => s j + ndN A rF rc (w j) t) i) (s i + ndN A rF rc (w i) t)), nI (i + 1)))
      unfold fX2_spotBehind_l6b
      rw [if_neg (nI_ge hik (by omega)), gdi_nI (by omega) (by omega), nI_clamp (by omega), w1, bind_e (needC_e hT hA hF w2 ht), if_neg hno, gdi_nI (by omega) (by decide), s1, e1, nI_add, bnd_e, bnd_e, nI_1, max_nI (by omega) (by omega)]
    · rintro z rfl
      have hle := fa_first_le (fun j => decide (nd A rF rc (w j) t = -1)) k
      by_cases c : fa_first (fun j => decide (nd A rF rc (w j) t = -1)) k < k
      · have hy := of_decide_eq_true (fa_first_yes (fun j => decide (nd A rF rc (w j) t = -1)) k c)
        obtain ⟨w1, w2⟩ := hw _ c
        refine ⟨.inr (-1), ?_, by rw [if_pos c]⟩
        show fX2_spotBehind_l6b N nq q (nI A) rc rF sp (nI k) (nI t) (nI (mxs (fun j => s j + ndN A rF rc (w j) t) (fa_first (fun j => decide (nd A rF rc (w j) t = -1)) k))) (nI (fa_first (fun j => decide (nd A rF rc (w j) t = -1)) k)) = _
        unfold fX2_spotBehind_l6b
        rw [if_neg (nI_ge c (by omega)), gdi_nI (by omega) (by omega), nI_clamp (by omega), w1, bind_e (needC_e hT hA hF w2 ht), if_pos hy]
      · have e : fa_first (fun j => decide (nd A rF rc (w j) t = -1)) k = k := Nat.le_antisymm hle (by omega)
        refine ⟨.inl (nI (mxs (fun j => s j + ndN A rF rc (w j) t) k)), ?_, by rw [if_neg c]⟩
        show fX2_spotBehind_l6b N nq q (nI A) rc rF sp (nI k) (nI t) (nI (mxs (fun j => s j + ndN A rF rc (w j) t) (fa_first (fun j => decide (nd A rF rc (w j) t = -1)) k))) (nI (fa_first (fun j => decide (nd A rF rc (w j) t = -1)) k)) = _
        rw [e]
        unfold fX2_spotBehind_l6b
        rw [if_pos (nI_le (Nat.le_refl k) (by omega))]
  obtain ⟨r, e1, rfl⟩ := key
  unfold fX2_spotBehind
  rw [bind_e e1]
  by_cases c : fa_first (fun j => decide (nd A rF rc (w j) t = -1)) k < k
  · rw [if_pos c, if_pos c]
    rfl
  · rw [if_neg c, if_neg c]
    rfl

/-- the spots of a row in its order, the first i of them -/
def alA (d : Nat → Nat → Nat) : Nat → Nat → Nat
  | 0 => fun _ => 0
  | i + 1 => fun j => if j = i then mxs (fun k => alA d i k + d k i) i else alA d i j
theorem alA_le {d : Nat → Nat → Nat} {m : Nat} (h : ∀ i j, i < j → j < m → d i j ≤ 1800) : ∀ i, i ≤ m → ∀ j, j < i → alA d i j ≤ 1800 * j
  | 0, _, j, hj => absurd hj (Nat.not_lt_zero j)
  | i + 1, hi, j, hj => by
    show (if j = i then mxs (fun k => alA d i k + d k i) i else alA d i j) ≤ 1800 * j
    by_cases e : j = i
    · rw [if_pos e]
      refine mxs_le (fun k hk => ?_)
      have h1 := alA_le h i (by omega) k hk
      have h2 := h k i hk (by omega)
      show alA d i k + d k i ≤ 1800 * j
      omega
    · rw [if_neg e]
      exact alA_le h i (by omega) j (by omega)
/-- two of the row have no NEED -/
def nonP (A : Nat) (rF : Nat → Int32) (rc : Nat → Int64) (w : Nat → Nat) (k : Nat) : Bool := decide (fa_first (fun j => decide (nd A rF rc (w j) (w k) = -1)) k < k)
theorem nonP_no {A n : Nat} {rF : Nat → Int32} {rc : Nat → Int64} {w : Nat → Nat} (h : ¬ fa_first (nonP A rF rc w) n < n) : ∀ i j, i < n → j < n → i ≠ j → ¬ nd A rF rc (w i) (w j) = -1 := by
  have e : fa_first (nonP A rF rc w) n = n := Nat.le_antisymm (fa_first_le _ n) (by omega)
  have key : ∀ i j, i < j → j < n → ¬ nd A rF rc (w i) (w j) = -1 := by
    intro i j hij hj q
    have h1 := of_decide_eq_false (fa_first_no (nonP A rF rc w) n j (by omega))
    exact h1 (ff_yes hij (decide_eq_true q))
  intro i j hi hj hij
  rcases Nat.lt_or_ge i j with q | q
  · exact key i j q hj
  · rw [nd_comm]
    exact key j i (by omega) hi
set_option maxHeartbeats 1000000 in
theorem arcC_e {N T L A n : Nat} {rF row sp : Nat → Int32} {rc : Nat → Int64} {w : Nat → Nat} (hN : 16 < N) (hT : T ≤ 16) (hA : A ≤ 300) (hF : IF1 T L rF) (hn : n ≤ 12) (hn1 : 1 ≤ n) (hw : ∀ k, k < n → w k < T) (hr : ∀ k, k < n → row k = nI (w k)) : ∃ sp2, fX2_arcOf N 12 row (nI A) rc rF sp (nI n) = some (sp2, if fa_first (nonP A rF rc w) n < n then -1 else nI (alA (fun i j => ndN A rF rc (w i) (w j)) n (n - 1))) := by
  have key : ∃ r, itr (fun z => fX2_arcOf_l2b N 12 row (nI A) rc rF (nI n) z.1 z.2) N (sp, (0 : Int32)) = some r ∧ (if fa_first (nonP A rF rc w) n < n then ∃ f, r = .inr (f, -1) else ∃ f, r = .inl f ∧ ∀ j, j < n → f j = nI (alA (fun i j => ndN A rF rc (w i) (w j)) n j)) := by
    have hd : ∀ i j, i < j → j < fa_first (nonP A rF rc w) n → ndN A rF rc (w i) (w j) ≤ 1800 := by
      intro i j hij hj
      have h1 := of_decide_eq_false (fa_first_no (nonP A rF rc w) n j hj)
      have h2 : ¬ nd A rF rc (w i) (w j) = -1 := fun q => h1 (ff_yes hij (decide_eq_true q))
      exact (ndN_e hA h2).2
    have sB : ∀ i f, i < n → i ≤ fa_first (nonP A rF rc w) n → (∀ j, j < i → f j = nI (alA (fun i j => ndN A rF rc (w i) (w j)) i j)) → fX2_spotBehind N 12 row (nI A) rc rF f (nI i) (nI (w i)) = some (if nonP A rF rc w i = true then -1 else nI (mxs (fun j => alA (fun i j => ndN A rF rc (w i) (w j)) i j + ndN A rF rc (w j) (w i)) i)) := by
      intro i f hi hib hf
      rw [spotC_e (w := w) (s := alA (fun i j => ndN A rF rc (w i) (w j)) i) hN hT hA hF (by omega) (by omega) (by omega) (hw i hi) (fun j hj => ⟨hr j (by omega), hw j (by omega)⟩) (fun j hj => ⟨hf j hj, by have := alA_le hd i hib j hj; omega⟩)]
      unfold nonP
      by_cases c : fa_first (fun j => decide (nd A rF rc (w j) (w i) = -1)) i < i
      · rw [if_pos c, if_pos (decide_eq_true c)]
      · rw [if_neg c, if_neg (by rw [decide_eq_true_eq]; exact c)]
    refine itr_inv (fun (i : Nat) (z : (Nat → Int32) × Int32) => z.2 = nI i ∧ ∀ j, j < i → z.1 j = nI (alA (fun i j => ndN A rF rc (w i) (w j)) i j)) (fun (r : (Nat → Int32) ⊕ ((Nat → Int32) × Int32)) => if fa_first (nonP A rF rc w) n < n then ∃ f, r = .inr (f, -1) else ∃ f, r = .inl f ∧ ∀ j, j < n → f j = nI (alA (fun i j => ndN A rF rc (w i) (w j)) n j)) (b := fa_first (nonP A rF rc w) n) (Nat.lt_of_le_of_lt (fa_first_le _ _) (by omega)) ⟨rfl, fun k hk => absurd hk (Nat.not_lt_zero k)⟩ ?_ ?_
    · rintro i ⟨f, v⟩ hi ⟨hv, hf⟩
      have hv : v = nI i := hv
      subst hv
      have hf : ∀ j, j < i → f j = nI (alA (fun i j => ndN A rF rc (w i) (w j)) i j) := hf
      have hin : i < n := Nat.lt_of_lt_of_le hi (fa_first_le _ _)
      have e := sB i f hin (Nat.le_of_lt hi) hf
      rw [if_neg (by rw [fa_first_no (nonP A rF rc w) n i hi]; decide)] at e
      have hm : mxs (fun j => alA (fun i j => ndN A rF rc (w i) (w j)) i j + ndN A rF rc (w j) (w i)) i ≤ 1800 * i := mxs_le (fun j hj => by
        have h1 := alA_le hd i (Nat.le_of_lt hi) j hj
        have h2 := hd j i hj hi
        show alA (fun i j => ndN A rF rc (w i) (w j)) i j + ndN A rF rc (w j) (w i) ≤ 1800 * i
        omega)
      refine ⟨(upd f i (nI (mxs (fun j => alA (fun i j => ndN A rF rc (w i) (w j)) i j + ndN A rF rc (w j) (w i)) i)), nI (i + 1)), ?_, rfl, fun k hk => ?_⟩
      · show fX2_arcOf_l2b N 12 row (nI A) rc rF (nI n) f (nI i) = _
        unfold fX2_arcOf_l2b
        rw [if_neg (nI_ge hin (by omega)), gdi_nI (by omega) (by decide), nI_clamp (by omega), hr i hin, bind_e e, gdi_nI (by omega) (by decide), bnd_e, gdi_nI (by omega) (by decide), pk_us, if_neg (nI_m1 (by omega)), bnd_e, nI_1]
      · show upd f i _ k = nI (if k = i then mxs (fun j => alA (fun i j => ndN A rF rc (w i) (w j)) i j + ndN A rF rc (w j) (w i)) i else alA (fun i j => ndN A rF rc (w i) (w j)) i k)
        by_cases q : k = i
        · rw [if_pos q, q, pk_us]
        · rw [if_neg q, pk_un q]
          exact hf k (by omega)
    · rintro ⟨f, v⟩ ⟨hv, hf⟩
      have hv : v = nI (fa_first (nonP A rF rc w) n) := hv
      subst hv
      have hf : ∀ j, j < fa_first (nonP A rF rc w) n → f j = nI (alA (fun i j => ndN A rF rc (w i) (w j)) (fa_first (nonP A rF rc w) n) j) := hf
      by_cases c : fa_first (nonP A rF rc w) n < n
      · have e := sB _ f c (Nat.le_refl _) hf
        rw [if_pos (fa_first_yes _ n c)] at e
        refine ⟨.inr (upd f (fa_first (nonP A rF rc w) n) (-1), -1), ?_, by rw [if_pos c]; exact ⟨_, rfl⟩⟩
        show fX2_arcOf_l2b N 12 row (nI A) rc rF (nI n) f (nI (fa_first (nonP A rF rc w) n)) = _
        unfold fX2_arcOf_l2b
        rw [if_neg (nI_ge c (by omega)), gdi_nI (by omega) (by decide), nI_clamp (by omega), hr _ c, bind_e e, gdi_nI (by omega) (by decide), bnd_e, gdi_nI (by omega) (by decide), pk_us, if_pos rfl]
      · have e : fa_first (nonP A rF rc w) n = n := Nat.le_antisymm (fa_first_le _ n) (by omega)
        rw [e] at hf
        refine ⟨.inl f, ?_, by rw [if_neg c]; exact ⟨f, rfl, hf⟩⟩
        show fX2_arcOf_l2b N 12 row (nI A) rc rF (nI n) f (nI (fa_first (nonP A rF rc w) n)) = _
        rw [e]
        unfold fX2_arcOf_l2b
        rw [if_pos (nI_le (Nat.le_refl n) (by omega))]
  obtain ⟨r, e1, e2⟩ := key
  unfold fX2_arcOf
  rw [bind_e e1]
  by_cases c : fa_first (nonP A rF rc w) n < n
  · rw [if_pos c] at e2 ⊢
    obtain ⟨f, rfl⟩ := e2
    exact ⟨f, rfl⟩
  · rw [if_neg c] at e2 ⊢
    obtain ⟨f, rfl, hf⟩ := e2
    refine ⟨f, ?_⟩
    show (if nI n ≤ 0 then some (f, (0 : Int32)) else gdi (nI n - 1) 12 (some (f, f (nI n - 1).toNatClampNeg))) = _
    rw [if_neg (nI_nle (by omega) (by omega)), show nI n - (1 : Int32) = nI (n - 1) from pk_sub (b := 1) hn1, gdi_nI (by omega) (by decide), nI_clamp (by omega), hf (n - 1) (by omega)]

/-! rows of unlike THINGS, from the tape -/
theorem sh_k : ∀ k, k < 32 → ((nI k &&& 31).toBitVec.smod 32).toNat = k := by decide +kernel
theorem bitS {n k : Nat} (hn : n < 2 ^ 31) (hk : k < 31) : (nI n >>> (nI k &&& 31)) &&& 1 = nI (n / 2 ^ k % 2) := by
  rw [pk_shrN hn (nI k &&& 31) k (sh_k k (by omega))]
  exact fa_mask (n / 2 ^ k) 1
theorem hv_bit {n k : Nat} (hn : n < 2 ^ 31) (hk : k < 31) : hv (nI n) (nI k) = if n.testBit k = true then 1 else 0 := by
  unfold hv
  rw [bitS hn hk, Nat.testBit_eq_decide_div_mod_eq]
  rcases Nat.mod_two_eq_zero_or_one (n / 2 ^ k) with e | e
  · rw [e]
    rfl
  · rw [e]
    rfl
/-- the THINGS of a row, as bits -/
def stN (w : Nat → Nat) : Nat → Nat
  | 0 => 0
  | i + 1 => stN w i ||| 2 ^ w i
theorem stN_lt {w : Nat → Nat} : ∀ {i : Nat}, (∀ j, j < i → w j < 16) → stN w i < 2 ^ 16
  | 0, _ => by
    show 0 < 2 ^ 16
    decide
  | i + 1, h => Nat.or_lt_two_pow (stN_lt (fun j hj => h j (by omega))) (Nat.pow_lt_pow_right (by decide) (h i (Nat.lt_succ_self i)))
theorem stN_bit {w : Nat → Nat} {t : Nat} : ∀ {i : Nat}, (stN w i).testBit t = decide (fa_first (fun j => decide (w j = t)) i < i)
  | 0 => by
    rw [decide_eq_false (Nat.not_lt_zero _)]
    exact Nat.zero_testBit t
  | i + 1 => by
    show (stN w i ||| 2 ^ w i).testBit t = _
    rw [fb_bit_set, stN_bit]
    by_cases c : fa_first (fun j => decide (w j = t)) i < i
    · rw [decide_eq_true c, Bool.true_or, decide_eq_true]
      exact ff_yes (k := fa_first (fun j => decide (w j = t)) i) (by omega) (fa_first_yes (fun j => decide (w j = t)) i c)
    · rw [decide_eq_false c, Bool.false_or]
      by_cases q : t = w i
      · rw [decide_eq_true q, decide_eq_true]
        exact ff_yes (k := i) (Nat.lt_succ_self i) (decide_eq_true q.symm)
      · rw [decide_eq_false q, decide_eq_false]
        refine ff_no (fun k hk => ?_)
        by_cases e : k = i
        · rw [e]
          exact decide_eq_false (Ne.symm q)
        · have e2 : fa_first (fun j => decide (w j = t)) i = i := Nat.le_antisymm (fa_first_le _ i) (by omega)
          exact fa_first_no (fun j => decide (w j = t)) i k (by omega)
/-- the byte at k is none of the RING's THINGS, or one that was there -/
def bad (w : Nat → Nat) (T k : Nat) : Bool := !decide (w k < T) || decide (fa_first (fun j => decide (w j = w k)) k < k)
theorem bad_no {w : Nat → Nat} {T k : Nat} (h : bad w T k = false) : w k < T ∧ ∀ j, j < k → w j ≠ w k := by
  unfold bad at h
  rw [Bool.or_eq_false_iff] at h
  obtain ⟨h1, h2⟩ := h
  refine ⟨by simpa using h1, fun j hj e => ?_⟩
  exact of_decide_eq_false h2 (ff_yes hj (decide_eq_true e))
theorem inRow_e {N n : Nat} {row : Nat → Int32} {w : Nat → Nat} {x : Nat} (hN : 16 < N) (hn : n ≤ 12) (h : ∀ j, j < n → row j = nI (w j)) (hw : ∀ j, j < n → w j < 256) (hx : x < 256) : fX11_isInRow N (nI n) row (nI x) = some (if fa_first (fun j => decide (w j = x)) n < n then 1 else 0) := by
  have e := itr_firstR (body := fun z => fX11_isInRow_l2b N (nI n) row (nI x) z) (N := N) (T := n) (fun j => decide (w j = x)) (fun _ => (1 : Int32)) (by omega) (by
    show fX11_isInRow_l2b N (nI n) row (nI x) (nI n) = _
    unfold fX11_isInRow_l2b
    rw [if_pos (nI_le (Nat.le_refl n) (by omega))]) (by
    intro k hk
    show fX11_isInRow_l2b N (nI n) row (nI x) (nI k) = _
    have := hw k hk
    unfold fX11_isInRow_l2b
    rw [if_neg (nI_ge hk (by omega)), gdi_nI (by omega) (by decide), nI_clamp (by omega), h k hk, bnd_e, nI_1]
    by_cases q : w k = x
    · rw [if_pos (by rw [q]), if_pos (decide_eq_true q)]
    · rw [if_neg (fun z => q ((nI_eq (by omega) (by omega)).mp z)), if_neg (by rw [decide_eq_true_eq]; exact q)])
  unfold fX11_isInRow
  rw [bind_e e]
  by_cases c : fa_first (fun j => decide (w j = x)) n < n
  · rw [if_pos c, if_pos c]
    rfl
  · rw [if_neg c, if_neg c]
    rfl
set_option maxHeartbeats 1000000 in
theorem takeRowC_e {N T n a c : Nat} {rl : Int32} {tp row : Nat → Int32} {w : Nat → Nat} (hN : 16 < N) (hT : T ≤ 16) (hn : n ≤ 1240) (hc : c ≤ 12) (ha : a ≤ 12) (ht : ∀ j, j < n → tp j &&& 255 = nI (w j) ∧ w j < 256) : ∃ rl2 row2, fX11_takeRow N (nI n) rl tp (nI T) row (nI a) (nI c) = some (0, rl2, row2, if a ≤ n ∧ n ≤ c ∧ ¬ fa_first (bad w T) n < n then 1 else 0) ∧ (a ≤ n ∧ n ≤ c ∧ ¬ fa_first (bad w T) n < n → rl2 = nI n ∧ ∀ j, j < n → row2 j = nI (w j)) := by
  unfold fX11_takeRow
  by_cases c1 : a ≤ n
  · rw [if_neg (nI_nlt c1 (by omega))]
    by_cases c2 : n ≤ c
    · rw [if_neg (nI_nlt c2 (by omega)), if_pos (show nI n ≤ (12 : Int32) from nI_le (b := 12) (by omega) (by decide))]
      have key : ∃ r, itr (fun z => fX11_takeRow_l36b N 0 tp (nI T) (nI n) z.1 z.2.1 z.2.2) N ((0 : Int32), row, (0 : Int32)) = some r ∧ (if fa_first (bad w T) n < n then ∃ x f, r = .inr (0, x, f, 0) else ∃ f, r = .inl (nI n, f) ∧ ∀ j, j < n → f j = nI (w j)) := by
        refine itr_inv (fun (i : Nat) (z : Int32 × (Nat → Int32) × Int32) => z.1 = nI i ∧ z.2.2 = nI i ∧ ∀ j, j < i → z.2.1 j = nI (w j)) (fun (r : (Int32 × (Nat → Int32)) ⊕ (Int32 × Int32 × (Nat → Int32) × Int32)) => if fa_first (bad w T) n < n then ∃ x f, r = .inr (0, x, f, 0) else ∃ f, r = .inl (nI n, f) ∧ ∀ j, j < n → f j = nI (w j)) (b := fa_first (bad w T) n) (Nat.lt_of_le_of_lt (fa_first_le _ _) (by omega)) ⟨rfl, rfl, fun k hk => absurd hk (Nat.not_lt_zero k)⟩ ?_ ?_
        · rintro i ⟨x, f, v⟩ hi ⟨hx, hv, hf⟩
          have hx : x = nI i := hx
          have hv : v = nI i := hv
          subst hx hv
          have hf : ∀ j, j < i → f j = nI (w j) := hf
          have hin : i < n := Nat.lt_of_lt_of_le hi (fa_first_le _ _)
          obtain ⟨b1, b2⟩ := bad_no (fa_first_no _ n i hi)
          obtain ⟨w1, w2⟩ := ht i hin
          refine ⟨(nI (i + 1), upd f i (nI (w i)), nI (i + 1)), ?_, rfl, rfl, fun k hk => ?_⟩
          · show fX11_takeRow_l36b N 0 tp (nI T) (nI n) (nI i) f (nI i) = _
            unfold fX11_takeRow_l36b
            rw [if_neg (nI_ge hin (by omega)), gdi_nI (by omega) (by decide), nI_clamp (by omega), bnd_e, w1, bind_e (has_yes b1 hT), if_neg (show ¬ (1 : Int32) = 0 by decide), bind_e (inRow_e (w := w) hN (by omega) hf (fun j hj => (ht j (by omega)).2) w2), if_neg (ff_no (fun j hj => decide_eq_false (b2 j hj))), if_pos rfl, gdi_nI (by omega) (by decide), bnd_e, bnd_e, bnd_e, nI_1]
          · show upd f i (nI (w i)) k = _
            by_cases e : k = i
            · rw [e, pk_us]
            · rw [pk_un e]
              exact hf k (by omega)
        · rintro ⟨x, f, v⟩ ⟨hx, hv, hf⟩
          have hx : x = nI (fa_first (bad w T) n) := hx
          have hv : v = nI (fa_first (bad w T) n) := hv
          subst hx hv
          have hf : ∀ j, j < fa_first (bad w T) n → f j = nI (w j) := hf
          by_cases q : fa_first (bad w T) n < n
          · have hb := fa_first_yes (bad w T) n q
            have hfl := q
            obtain ⟨w1, w2⟩ := ht _ q
            refine ⟨.inr (0, nI (fa_first (bad w T) n), f, 0), ?_, by rw [if_pos q]; exact ⟨_, _, rfl⟩⟩
            show fX11_takeRow_l36b N 0 tp (nI T) (nI n) (nI (fa_first (bad w T) n)) f (nI (fa_first (bad w T) n)) = _
            generalize fa_first (bad w T) n = i at *
            unfold fX11_takeRow_l36b
            rw [if_neg (nI_ge q (by omega)), gdi_nI (by omega) (by decide), nI_clamp (by omega), bnd_e, w1]
            by_cases z : w i < T
            · unfold bad at hb
              rw [decide_eq_true z, Bool.not_true, Bool.false_or, decide_eq_true_eq] at hb
              rw [bind_e (has_yes z hT), if_neg (show ¬ (1 : Int32) = 0 by decide), bind_e (inRow_e (w := w) hN (by omega) hf (fun j hj => (ht j (by omega)).2) w2), if_pos hb, if_neg (show ¬ (1 : Int32) = 0 by decide)]
            · rw [bind_e (has_no (Or.inr ⟨nI_pos (by omega), nI_le (by omega) (by omega)⟩)), if_pos rfl]
          · have e : fa_first (bad w T) n = n := Nat.le_antisymm (fa_first_le _ n) (by omega)
            refine ⟨.inl (nI (fa_first (bad w T) n), f), ?_, by rw [if_neg q]; exact ⟨f, by rw [e], fun j hj => hf j (by omega)⟩⟩
            show fX11_takeRow_l36b N 0 tp (nI T) (nI n) (nI (fa_first (bad w T) n)) f (nI (fa_first (bad w T) n)) = _
            unfold fX11_takeRow_l36b
            rw [if_pos (nI_le (by omega) (by omega))]
      obtain ⟨r, e1, e2⟩ := key
      rw [bind_e e1]
      by_cases q : fa_first (bad w T) n < n
      · rw [if_pos q] at e2
        obtain ⟨x, f, rfl⟩ := e2
        rw [if_neg (fun z => z.2.2 q)]
        exact ⟨x, f, rfl, fun z => absurd q z.2.2⟩
      · rw [if_neg q] at e2
        obtain ⟨f, rfl, hf⟩ := e2
        rw [if_pos ⟨c1, c2, q⟩]
        exact ⟨nI n, f, rfl, fun _ => ⟨rfl, hf⟩⟩
    · rw [if_pos (nI_lt (by omega) (by omega)), if_neg (fun z => c2 z.2.1)]
      exact ⟨0, row, rfl, fun z => absurd z.2.1 c2⟩
  · rw [if_pos (nI_lt (by omega) (by omega)), if_neg (fun z => c1 z.1)]
    exact ⟨0, row, rfl, fun z => absurd z.1 c1⟩
set_option maxHeartbeats 1000000 in
theorem takeRowM_e {N T L P A n a c : Nat} {rl rt rp ra rf b rm : Int32} {rc gr : Nat → Int64} {rP rF now now1 um row : Nat → Int32} {w : Nat → Nat} (hN : 16 < N) (h : IR1 T L P A rl rt rp ra rf rc rP rF now1 gr) (hl : LY N b now now1) (hn : n ≤ 1240) (hc : c ≤ 12) (ha : a ≤ 12) (ht : ∀ j, j < n → um j = nI (w j) ∧ w j < 256) : ∃ row2, fX12_takeRow N (nI n) b rm now um row (nI a) (nI c) = some (0, 1, nI n, now1, row2, if a ≤ n ∧ n ≤ c ∧ ¬ fa_first (bad w T) n < n then 1 else 0) ∧ (a ≤ n ∧ n ≤ c ∧ ¬ fa_first (bad w T) n < n → ∀ j, j < n → row2 j = nI (w j)) := by
  have hT : T ≤ 16 := h.1.1
  have n1 : now1 1 = nI T := h.2.2.1.2.1
  unfold fX12_takeRow fX12_take
  rw [bind_e hl, bind_e rfl, isIn_e, bind_e rfl]
  by_cases c0 : a ≤ n ∧ n ≤ c
  · obtain ⟨c1, c2⟩ := c0
    rw [if_pos (show nI a ≤ nI n ∧ nI n ≤ nI c from ⟨nI_le c1 (by omega), nI_le c2 (by omega)⟩), if_neg (show ¬ (1 : Int32) = 0 by decide)]
    have key : ∃ r, itr (fun z => fX12_takeRow_l31b N 0 1 (nI n) now1 um z.1 z.2.1 z.2.2) N (row, (0 : Int32), (0 : Int32)) = some r ∧ (if fa_first (bad w T) n < n then ∃ f, r = .inr (0, 1, nI n, now1, f, 0) else ∃ f, r = .inl f ∧ ∀ j, j < n → f j = nI (w j)) := by
      refine itr_inv (fun (i : Nat) (z : (Nat → Int32) × Int32 × Int32) => z.2.1 = nI (stN w i) ∧ z.2.2 = nI i ∧ ∀ j, j < i → z.1 j = nI (w j)) (fun (r : (Nat → Int32) ⊕ (Int32 × Int32 × Int32 × (Nat → Int32) × (Nat → Int32) × Int32)) => if fa_first (bad w T) n < n then ∃ f, r = .inr (0, 1, nI n, now1, f, 0) else ∃ f, r = .inl f ∧ ∀ j, j < n → f j = nI (w j)) (b := fa_first (bad w T) n) (Nat.lt_of_le_of_lt (fa_first_le _ _) (by omega)) ⟨rfl, rfl, fun k hk => absurd hk (Nat.not_lt_zero k)⟩ ?_ ?_
      · rintro i ⟨f, x, v⟩ hi ⟨hx, hv, hf⟩
        have hx : x = nI (stN w i) := hx
        have hv : v = nI i := hv
        subst hx hv
        have hf : ∀ j, j < i → f j = nI (w j) := hf
        have hin : i < n := Nat.lt_of_lt_of_le hi (fa_first_le _ _)
        obtain ⟨b1, b2⟩ := bad_no (fa_first_no _ n i hi)
        obtain ⟨w1, w2⟩ := ht i hin
        have hst : stN w i < 2 ^ 16 := stN_lt (fun j hj => by have := (bad_no (fa_first_no (bad w T) n j (by omega))).1; omega)
        have hbit : fX12_has (nI (stN w i)) (nI (w i)) = some 0 := by
          rw [hasM_e, hv_bit (by omega) (by omega), stN_bit, if_neg]
          rw [decide_eq_true_eq]
          exact ff_no (fun j hj => decide_eq_false (b2 j hj))
        refine ⟨(upd f i (nI (w i)), nI (stN w (i + 1)), nI (i + 1)), ?_, rfl, rfl, fun k hk => ?_⟩
        · show fX12_takeRow_l31b N 0 1 (nI n) now1 um f (nI (stN w i)) (nI i) = _
          unfold fX12_takeRow_l31b
          rw [if_neg (nI_ge hin (by omega)), gdi_nI (by omega) (by decide), nI_clamp (by omega), w1, bind_e (isThing_yes n1 b1 hT), if_neg (show ¬ (1 : Int32) = 0 by decide), gdi_nI (by omega) (by decide), bind_e hbit, if_pos rfl, gdi_nI (by omega) (by decide), bnd_e, gdi_nI (by omega) (by decide), gdi_nI (by omega) (by decide), bnd_e, bnd_e, nI_1, sl_e _ (by omega), fa_or]
          rfl
        · show upd f i (nI (w i)) k = _
          by_cases e : k = i
          · rw [e, pk_us]
          · rw [pk_un e]
            exact hf k (by omega)
      · rintro ⟨f, x, v⟩ ⟨hx, hv, hf⟩
        have hx : x = nI (stN w (fa_first (bad w T) n)) := hx
        have hv : v = nI (fa_first (bad w T) n) := hv
        subst hx hv
        have hf : ∀ j, j < fa_first (bad w T) n → f j = nI (w j) := hf
        by_cases q : fa_first (bad w T) n < n
        · have hb := fa_first_yes (bad w T) n q
          obtain ⟨w1, w2⟩ := ht _ q
          have hst : stN w (fa_first (bad w T) n) < 2 ^ 16 := stN_lt (fun j hj => by have := (bad_no (fa_first_no (bad w T) n j (by omega))).1; omega)
          refine ⟨.inr (0, 1, nI n, now1, f, 0), ?_, by rw [if_pos q]; exact ⟨_, rfl⟩⟩
          show fX12_takeRow_l31b N 0 1 (nI n) now1 um f (nI (stN w (fa_first (bad w T) n))) (nI (fa_first (bad w T) n)) = _
          generalize fa_first (bad w T) n = i at q hb w1 w2 hst ⊢
          unfold fX12_takeRow_l31b
          rw [if_neg (nI_ge q (by omega)), gdi_nI (by omega) (by decide), nI_clamp (by omega), w1]
          by_cases z : w i < T
          · unfold bad at hb
            rw [decide_eq_true z, Bool.not_true, Bool.false_or] at hb
            have hbit : fX12_has (nI (stN w i)) (nI (w i)) = some 1 := by
              rw [hasM_e, hv_bit (by omega) (by omega), stN_bit, if_pos hb]
            rw [bind_e (isThing_yes n1 z hT), if_neg (show ¬ (1 : Int32) = 0 by decide), gdi_nI (by omega) (by decide), bind_e hbit, if_neg (show ¬ (1 : Int32) = 0 by decide)]
          · rw [bind_e (isThing_no n1 (Or.inr ⟨nI_pos (by omega), nI_le (by omega) (by omega)⟩)), if_pos rfl]
        · have e : fa_first (bad w T) n = n := Nat.le_antisymm (fa_first_le _ n) (by omega)
          refine ⟨.inl f, ?_, by rw [if_neg q]; exact ⟨f, rfl, fun j hj => hf j (by omega)⟩⟩
          show fX12_takeRow_l31b N 0 1 (nI n) now1 um f (nI (stN w (fa_first (bad w T) n))) (nI (fa_first (bad w T) n)) = _
          unfold fX12_takeRow_l31b
          rw [if_pos (nI_le (by omega) (by omega))]
    obtain ⟨r, e1, e2⟩ := key
    rw [bind_e e1]
    by_cases q : fa_first (bad w T) n < n
    · rw [if_pos q] at e2
      obtain ⟨f, rfl⟩ := e2
      rw [if_neg (show ¬ (a ≤ n ∧ n ≤ c ∧ ¬ fa_first (bad w T) n < n) from fun z => z.2.2 q)]
      exact ⟨f, rfl, fun z => absurd q z.2.2⟩
    · rw [if_neg q] at e2
      obtain ⟨f, rfl, hf⟩ := e2
      rw [if_pos (show a ≤ n ∧ n ≤ c ∧ ¬ fa_first (bad w T) n < n from ⟨c1, c2, q⟩)]
      exact ⟨f, rfl, fun _ => hf⟩
  · rw [if_neg (show ¬ (nI a ≤ nI n ∧ nI n ≤ nI c) from fun z => c0 ⟨(nI_leI (by omega) (by omega)).mp z.1, (nI_leI (by omega) (by omega)).mp z.2⟩), if_pos rfl, if_neg (fun z => c0 ⟨z.1, z.2.1⟩)]
    exact ⟨row, rfl, fun z => absurd ⟨z.1, z.2.1⟩ c0⟩

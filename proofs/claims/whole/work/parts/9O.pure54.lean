/-! LETIN: the reference counts through the sets -/
def ct (m n : Nat) : Nat := fb_ct (fun k => m.testBit k) n
theorem ct_half (m n : Nat) : ct m (n + 1) = (if m.testBit 0 then 1 else 0) + ct (m / 2) n := by
  unfold ct
  rw [Nat.add_comm n 1, fb_ct_split]
  show (0 + (if m.testBit 0 then 1 else 0)) + fb_ct (fun k => m.testBit (1 + k)) n = _
  rw [Nat.zero_add]
  exact congrArg _ (fb_ct_cong (fun k _ => by rw [Nat.add_comm 1 k, Nat.testBit_succ]))
theorem ct_less : ∀ (n m : Nat), 0 < m → m < 2 ^ n → ct (m &&& (m - 1)) n + 1 = ct m n
  | 0, m, h0, h => by
    have : m < 1 := h
    omega
  | n + 1, m, h0, h => by
    have hp : 2 ^ (n + 1) = 2 * 2 ^ n := by rw [Nat.pow_succ, Nat.mul_comm]
    rw [ct_half, ct_half m, Nat.testBit_and, Nat.and_div_two]
    by_cases c : m % 2 = 1
    · have e0 : (m - 1).testBit 0 = false := by
        rw [Nat.testBit_zero]
        exact decide_eq_false (by omega)
      have e1 : m.testBit 0 = true := by
        rw [Nat.testBit_zero]
        exact decide_eq_true c
      rw [e0, e1, show (m - 1) / 2 = m / 2 by omega, Nat.and_self]
      show 0 + ct (m / 2) n + 1 = 1 + ct (m / 2) n
      omega
    · have e1 : m.testBit 0 = false := by
        rw [Nat.testBit_zero]
        exact decide_eq_false c
      rw [e1, Bool.false_and, show (m - 1) / 2 = m / 2 - 1 by omega]
      have ih := ct_less n (m / 2) (by omega) (by omega)
      show 0 + ct (m / 2 &&& (m / 2 - 1)) n + 1 = 0 + ct (m / 2) n
      omega
theorem ct_0 {m n : Nat} (hm : m < 2 ^ n) (h : ct m n = 0) : m = 0 := by
  have h := fb_ct_zero.mp h
  refine Nat.eq_of_testBit_eq (fun k => ?_)
  rw [Nat.zero_testBit]
  by_cases c : k < n
  · exact h k c
  · exact Nat.testBit_lt_two_pow (Nat.lt_of_lt_of_le hm (Nat.pow_le_pow_right (by decide) (by omega)))
theorem bits_e {N m : Nat} (hN : 20 < N) (hm : m < 2 ^ 16) : fX12_bits N (nI m) = some (nI (ct m 16)) := by
  unfold fX12_bits
  have hc : ct m 16 ≤ 16 := fb_ct_le _ 16
  have key : ∃ r, itr (fun z => fX12_bits_l4b N z.1 z.2) N ((0 : Int32), nI m) = some r ∧ r = nI (ct m 16) := by
    refine itr_inv (fun (i : Nat) (z : Int32 × Int32) => z.1 = nI i ∧ ∃ m', z.2 = nI m' ∧ m' < 2 ^ 16 ∧ ct m' 16 + i = ct m 16) (fun (r : Int32) => r = nI (ct m 16)) (b := ct m 16) (by omega) ⟨rfl, m, rfl, hm, rfl⟩ ?_ ?_
    · rintro i ⟨a, v⟩ hi ⟨ha, m', hv, hm', hct⟩
      have ha : a = nI i := ha
      subst ha
      have hv : v = nI m' := hv
      subst hv
      have h0 : 0 < m' := by
        rcases Nat.eq_zero_or_pos m' with q | q
        · rw [q, show ct 0 16 = 0 from fb_ct_zero.mpr (fun k _ => Nat.zero_testBit k)] at hct
          omega
        · exact q
      have hl := ct_less 16 m' h0 hm'
      refine ⟨(nI (i + 1), nI (m' &&& (m' - 1))), ?_, rfl, m' &&& (m' - 1), rfl, Nat.lt_of_le_of_lt Nat.and_le_left hm', by omega⟩
      show fX12_bits_l4b N (nI i) (nI m') = _
      unfold fX12_bits_l4b
      rw [if_neg (nI_ne0 h0 (by omega)), bnd_e, bnd_e, nI_1, show nI m' - (1 : Int32) = nI (m' - 1) from pk_sub (b := 1) h0, fa_and]
    · rintro ⟨a, v⟩ ⟨ha, m', hv, hm', hct⟩
      have hv : v = nI m' := hv
      subst hv
      have h0 : m' = 0 := ct_0 hm' (by omega)
      subst h0
      refine ⟨a, ?_, ha⟩
      show fX12_bits_l4b N a (nI 0) = _
      unfold fX12_bits_l4b
      rw [if_pos (show nI 0 = 0 from rfl)]
  obtain ⟨r, e1, e2⟩ := key
  rw [bind_e e1, e2]
theorem ct_T {m T : Nat} (hT : T ≤ 16) (hm : m < 2 ^ T) : ct m 16 = ct m T := by
  unfold ct
  obtain ⟨d, hd⟩ : ∃ d, 16 = T + d := ⟨16 - T, by omega⟩
  have hz : fb_ct (fun k => m.testBit (T + k)) d = 0 := fb_ct_zero.mpr (fun k _ => Nat.testBit_lt_two_pow (Nat.lt_of_lt_of_le hm (Nat.pow_le_pow_right (by decide) (by omega))))
  rw [hd, fb_ct_split, hz, Nat.add_zero]
/-- the sets of one, and of two -/
theorem ct_1 {m T : Nat} (hm : m < 2 ^ T) (h : ct m T = 1) : ∃ a, a < T ∧ m = mk 2 a 0 ∧ ct m a = 0 ∧ m.testBit a = true := by
  obtain ⟨a, ha, hb, hc⟩ := fb_ct_kth (p := fun k => m.testBit k) (k := 0) (n := T) (by unfold ct at h; omega)
  refine ⟨a, ha, Nat.eq_of_testBit_eq (fun k => ?_), hc, hb⟩
  rw [mk_bit (by omega) (by omega)]
  show m.testBit k = ((true && decide (k = a)) || (false && decide (k = 0)))
  rw [Bool.true_and, Bool.false_and, Bool.or_false]
  cases e : m.testBit k with
  | true =>
    have hk : k < T := by
      rcases Nat.lt_or_ge k T with q | q
      · exact q
      · rw [Nat.testBit_lt_two_pow (Nat.lt_of_lt_of_le hm (Nat.pow_le_pow_right (by decide) q))] at e
        exact absurd e (by decide)
    have h1 : fb_ct (fun k => m.testBit k) (k + 1) ≤ fb_ct (fun k => m.testBit k) T := fb_ct_mono _ (by omega)
    have h2 : fb_ct (fun k => m.testBit k) (k + 1) = fb_ct (fun k => m.testBit k) k + (if m.testBit k then 1 else 0) := rfl
    rw [e, if_pos rfl] at h2
    unfold ct at h
    exact (decide_eq_true (fb_ct_kth_one (p := fun k => m.testBit k) e hb (by omega))).symm
  | false =>
    refine (decide_eq_false (fun q => ?_)).symm
    rw [q] at e
    rw [e] at hb
    exact absurd hb (by decide)
theorem ct_2 {m T : Nat} (hm : m < 2 ^ T) (h : ct m T = 2) : ∃ a b, a < b ∧ b < T ∧ m = mk 3 a b ∧ ct m a = 0 ∧ ct m b = 1 ∧ m.testBit a = true ∧ m.testBit b = true := by
  obtain ⟨a, ha, hb, hc⟩ := fb_ct_kth (p := fun k => m.testBit k) (k := 0) (n := T) (by unfold ct at h; omega)
  obtain ⟨b, ha2, hb2, hc2⟩ := fb_ct_kth (p := fun k => m.testBit k) (k := 1) (n := T) (by unfold ct at h; omega)
  have hab : a < b := by
    rcases Nat.lt_or_ge a b with q | q
    · exact q
    · have := fb_ct_mono (fun k => m.testBit k) q
      omega
  refine ⟨a, b, hab, ha2, Nat.eq_of_testBit_eq (fun k => ?_), hc, hc2, hb, hb2⟩
  rw [mk_bit (by omega) (by omega)]
  show m.testBit k = ((true && decide (k = a)) || (true && decide (k = b)))
  rw [Bool.true_and, Bool.true_and]
  cases e : m.testBit k with
  | true =>
    have hk : k < T := by
      rcases Nat.lt_or_ge k T with q | q
      · exact q
      · rw [Nat.testBit_lt_two_pow (Nat.lt_of_lt_of_le hm (Nat.pow_le_pow_right (by decide) q))] at e
        exact absurd e (by decide)
    have h1 : fb_ct (fun k => m.testBit k) (k + 1) ≤ fb_ct (fun k => m.testBit k) T := fb_ct_mono _ (by omega)
    have h2 : fb_ct (fun k => m.testBit k) (k + 1) = fb_ct (fun k => m.testBit k) k + (if m.testBit k then 1 else 0) := rfl
    rw [e, if_pos rfl] at h2
    unfold ct at h
    have h3 : fb_ct (fun k => m.testBit k) k = 0 ∨ fb_ct (fun k => m.testBit k) k = 1 := by omega
    rcases h3 with q | q
    · rw [decide_eq_true (fb_ct_kth_one (p := fun k => m.testBit k) e hb (by omega)), Bool.true_or]
    · rw [decide_eq_true (fb_ct_kth_one (p := fun k => m.testBit k) e hb2 (by omega)), Bool.or_true]
  | false =>
    rw [decide_eq_false (fun q => by
      rw [q] at e
      rw [e] at hb
      exact absurd hb (by decide)), decide_eq_false (fun q => by
      rw [q] at e
      rw [e] at hb2
      exact absurd hb2 (by decide))]
    rfl
def mov (T : Nat) (dg rF : Nat → Int32) (m : Nat) : Prop := ∀ t, t < T → m.testBit t = true → liv dg rF t = true
theorem movable_e {N T L P A m : Nat} {rl rt rp ra rf : Int32} {rc gr : Nat → Int64} {rP rF now1 dg vo : Nat → Int32} (hN : 32 < N) (h : IR1 T L P A rl rt rp ra rf rc rP rF now1 gr) (hs : IS1 T dg vo now1) (hm : m < 2 ^ 16) : (mov T dg rF m ∧ fX12_isMovable N now1 (nI m) = some 1) ∨ (¬ mov T dg rF m ∧ fX12_isMovable N now1 (nI m) = some 0) := by
  have hT : T ≤ 16 := h.1.1
  have e := itr_firstR (body := fun z => fX12_isMovable_l2b N now1 (nI m) z) (N := N) (T := T) (fun t => m.testBit t && !liv dg rF t) (fun _ => (0 : Int32)) (by omega) (by
    show fX12_isMovable_l2b N now1 (nI m) (nI T) = _
    unfold fX12_isMovable_l2b
    rw [bind_e (things_e h.2.2.1.2.1), if_pos (nI_le (Nat.le_refl T) (by omega))]) (fun t ht => by
    show fX12_isMovable_l2b N now1 (nI m) (nI t) = _
    unfold fX12_isMovable_l2b
    rw [bind_e (things_e h.2.2.1.2.1), if_neg (nI_ge ht (by omega)), bind_e (hasM_e _ _), hv_bit (by omega) (by omega)]
    by_cases c1 : m.testBit t = true
    · rw [if_pos c1, if_neg (show ¬ (1 : Int32) = 0 by decide), c1, Bool.true_and, bind_e (isUpM_e (by omega) now1), ← (hs t (by omega)).1]
      unfold liv
      by_cases c2 : dg t = -1
      · rw [if_pos c2, if_pos rfl, decide_eq_false (fun q => q (Or.inl c2))]
        rfl
      · rw [if_neg c2, if_neg (show ¬ (1 : Int32) = 0 by decide), bind_e (isDeadM_e (by omega) now1), ← h.2.2.2.2.1 t ht 8 (by decide)]
        by_cases c3 : rF (14 * t + 8) = -1
        · rw [if_pos c3, if_pos rfl, decide_eq_true (show ¬ (dg t = -1 ∨ ¬ rF (14 * t + 8) = -1) from fun q => by
            rcases q with q | q
            · exact c2 q
            · exact q c3), bnd_e, nI_1]
          rfl
        · rw [if_neg c3, if_neg (show ¬ (1 : Int32) = 0 by decide), decide_eq_false (fun q => q (Or.inr c3))]
          rfl
    · rw [if_neg c1, if_pos rfl, bnd_e, nI_1, if_neg (show ¬ (m.testBit t && !liv dg rF t) = true from fun q => c1 (by
        cases e : m.testBit t with
        | true => rfl
        | false =>
          rw [e, Bool.false_and] at q
          exact absurd q (by decide)))])
  unfold fX12_isMovable
  by_cases c : fa_first (fun t => m.testBit t && !liv dg rF t) T < T
  · rw [if_pos c] at e
    refine Or.inr ⟨fun q => ?_, ?_⟩
    · have h1 := fa_first_yes (fun t => m.testBit t && !liv dg rF t) T c
      have h1 : (m.testBit (fa_first (fun t => m.testBit t && !liv dg rF t) T) && !liv dg rF (fa_first (fun t => m.testBit t && !liv dg rF t) T)) = true := h1
      rw [Bool.and_eq_true] at h1
      rw [q _ c h1.1] at h1
      exact absurd h1.2 (by decide)
    · rw [bind_e e, Sum.elim_inr]
  · rw [if_neg c] at e
    refine Or.inl ⟨fun t ht hb => ?_, ?_⟩
    · have h1 := fa_first_no (fun t => m.testBit t && !liv dg rF t) T t (by omega)
      have h1 : (m.testBit t && !liv dg rF t) = false := h1
      rw [hb, Bool.true_and] at h1
      cases q : liv dg rF t with
      | true => rfl
      | false =>
        rw [q] at h1
        exact absurd h1 (by decide)
    · rw [bind_e e, Sum.elim_inl]
theorem rowOf_e {N T L P A m x c : Nat} {rl rt rp ra rf th b0 v2 : Int32} {rc gr : Nat → Int64} {rP rF now1 ls ss was row : Nat → Int32} (hN : 32 < N) (h : IR1 T L P A rl rt rp ra rf rc rP rF now1 gr) (hm : m < 2 ^ 16) (hc : ct m T = c) (hc2 : c ≤ 2) (hr0 : row 0 = nI x) : ∃ row2, itr (fun z => fX12_letIn_l101b N th b0 now1 ls ss was gr (nI x) v2 (nI m) z.1 z.2.1 z.2.2) N ((1 : Int32), row, (0 : Int32)) = some (nI (1 + c), row2) ∧ row2 0 = nI x ∧ ∀ k, k < T → m.testBit k = true → row2 (1 + ct m k) = nI k := by
  have hT : T ≤ 16 := h.1.1
  have key : ∃ r, itr (fun z => fX12_letIn_l101b N th b0 now1 ls ss was gr (nI x) v2 (nI m) z.1 z.2.1 z.2.2) N ((1 : Int32), row, (0 : Int32)) = some r ∧ r.1 = nI (1 + ct m T) ∧ r.2 0 = nI x ∧ ∀ k, k < T → m.testBit k = true → r.2 (1 + ct m k) = nI k := by
    refine itr_inv (fun (i : Nat) (z : Int32 × (Nat → Int32) × Int32) => z.2.2 = nI i ∧ z.1 = nI (1 + ct m i) ∧ z.2.1 0 = nI x ∧ ∀ k, k < i → m.testBit k = true → z.2.1 (1 + ct m k) = nI k) (fun (r : Int32 × (Nat → Int32)) => r.1 = nI (1 + ct m T) ∧ r.2 0 = nI x ∧ ∀ k, k < T → m.testBit k = true → r.2 (1 + ct m k) = nI k) (b := T) (by omega) ⟨rfl, rfl, hr0, fun k hk => absurd hk (Nat.not_lt_zero k)⟩ ?_ ?_
    · rintro i ⟨a, f, v⟩ hi ⟨hv, ha, hf0, hf⟩
      have hv : v = nI i := hv
      subst hv
      have ha : a = nI (1 + ct m i) := ha
      subst ha
      have hf0 : f 0 = nI x := hf0
      have hf : ∀ k, k < i → m.testBit k = true → f (1 + ct m k) = nI k := hf
      have hs1 : ct m (i + 1) = ct m i + (if m.testBit i then 1 else 0) := rfl
      have hmono : ct m (i + 1) ≤ ct m T := fb_ct_mono _ (by omega)
      show ∃ s', fX12_letIn_l101b N th b0 now1 ls ss was gr (nI x) v2 (nI m) (nI (1 + ct m i)) f (nI i) = some (.inl s') ∧ _
      unfold fX12_letIn_l101b
      rw [bind_e (things_e h.2.2.1.2.1), if_neg (nI_ge hi (by omega)), bind_e (hasM_e _ _), hv_bit (by omega) (by omega)]
      by_cases q : m.testBit i = true
      · rw [if_pos q] at hs1
        rw [if_pos q, if_neg (show ¬ (1 : Int32) = 0 by decide), gdi_nI (by omega) (by decide), bnd_e, bnd_e, bnd_e, nI_clamp (by omega), nI_1, nI_1]
        refine ⟨(nI (1 + ct m i + 1), upd f (1 + ct m i) (nI i), nI (i + 1)), rfl, rfl, ?_, ?_, fun k hk hb => ?_⟩
        · show nI (1 + ct m i + 1) = nI (1 + ct m (i + 1))
          rw [hs1]
          rfl
        · show upd f (1 + ct m i) (nI i) 0 = nI x
          rw [pk_un (by omega)]
          exact hf0
        · show upd f (1 + ct m i) (nI i) (1 + ct m k) = nI k
          by_cases e : k = i
          · rw [e, pk_us]
          · have h1 : ct m (k + 1) = ct m k + (if m.testBit k then 1 else 0) := rfl
            rw [hb, if_pos rfl] at h1
            have h2 : ct m (k + 1) ≤ ct m i := fb_ct_mono _ (by omega)
            rw [pk_un (by omega)]
            exact hf k (by omega) hb
      · rw [if_neg q] at hs1
        rw [if_neg q, if_pos rfl, bnd_e, nI_1]
        refine ⟨(nI (1 + ct m i), f, nI (i + 1)), rfl, rfl, ?_, hf0, fun k hk hb => ?_⟩
        · show nI (1 + ct m i) = nI (1 + ct m (i + 1))
          rw [hs1]
          rfl
        · by_cases e : k = i
          · rw [e] at hb
            exact absurd hb q
          · exact hf k (by omega) hb
    · rintro ⟨a, f, v⟩ ⟨hv, ha, hf0, hf⟩
      have hv : v = nI T := hv
      subst hv
      refine ⟨(a, f), ?_, ha, hf0, hf⟩
      show fX12_letIn_l101b N th b0 now1 ls ss was gr (nI x) v2 (nI m) a f (nI T) = _
      unfold fX12_letIn_l101b
      rw [bind_e (things_e h.2.2.1.2.1), if_pos (nI_le (Nat.le_refl T) (by omega))]
  obtain ⟨⟨a, f⟩, e1, ha, hf⟩ := key
  have ha : a = nI (1 + ct m T) := ha
  subst ha
  rw [hc] at e1
  exact ⟨f, e1, hf⟩
theorem sl_T {T : Nat} (hT : T ≤ 16) : (1 : Int32) <<< (nI T &&& 31) = nI (2 ^ T) := by
  by_cases c : T = 16
  · rw [c]
    decide
  · exact sl_e T (by omega)

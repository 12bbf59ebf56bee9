/-! the tape's signs: letters, digits, runs; both read the same -/
def leB (x : Int32) : Bool := !decide (x < 97) && !decide (122 < x)
def diB (x : Int32) : Bool := !decide (x < 48) && !decide (57 < x)
def wsB (x : Int32) : Bool := decide (x = 32) || decide (x = 10)
def anB (x : Int32) : Bool := leB x || diB x
def b01 (b : Bool) : Int32 := if b = true then 1 else 0
theorem b01_t : b01 true = 1 := rfl
theorem b01_f : b01 false = 0 := rfl
theorem isLetC (x : Int32) : fX9_isLetter x = some (b01 (leB x)) := by
  unfold fX9_isLetter leB
  by_cases c1 : x < 97
  · rw [if_pos c1, decide_eq_true c1]
    rfl
  · rw [if_neg c1, decide_eq_false c1]
    by_cases c2 : 122 < x
    · rw [if_pos c2, decide_eq_true c2]
      rfl
    · rw [if_neg c2, decide_eq_false c2]
      rfl
theorem isDigC (x : Int32) : fX9_isDigit x = some (b01 (diB x)) := by
  unfold fX9_isDigit diB
  by_cases c1 : x < 48
  · rw [if_pos c1, decide_eq_true c1]
    rfl
  · rw [if_neg c1, decide_eq_false c1]
    by_cases c2 : 57 < x
    · rw [if_pos c2, decide_eq_true c2]
      rfl
    · rw [if_neg c2, decide_eq_false c2]
      rfl
theorem isLetM (x : Int32) : fX12_isLetter x = some (b01 (leB x)) := isLetC x
theorem isDigM (x : Int32) : fX12_isDigit x = some (b01 (diB x)) := isDigC x
/-- both tapes' signs: the same, or no sign of the grammar -/
def TU (t u : Nat → Int32) : Prop := ∀ j, j < 1240 → t j = u j ∨ (t j < 0 ∧ 128 ≤ u j)
/-- the class's tape holds bytes -/
def IB (t : Nat → Int32) : Prop := ∀ j, j < 1240 → ∃ c, c < 256 ∧ t j = (nI c).toInt8.toInt32
theorem byte_tu : ∀ c, c < 256 → ((nI c).toInt8.toInt32 = nI c ∨ ((nI c).toInt8.toInt32 < 0 ∧ 128 ≤ nI c)) := by decide +kernel
theorem IB_fC (z : Int32) : ∃ c, c < 256 ∧ fC z = (nI c).toInt8.toInt32 := by
  obtain ⟨c, hc, e⟩ := pk_andE z (m := 255) 8 (by decide)
  refine ⟨c, hc, ?_⟩
  unfold fC
  rw [vp_nar_byte, fb_byte_twice, ← e, fa_byte_low]
theorem laid_IB {w : Int32} {n : Nat} {t : Nat → Int32} (h : IB t) : ∀ i, IB (laid fC w n t i) := by
  intro i
  induction i with
  | zero => exact h
  | succ i ih =>
    intro j hj
    show ∃ c, c < 256 ∧ upd (laid fC w n t i) (n + i) (fC (by4 w i)) j = (nI c).toInt8.toInt32
    by_cases e : j = n + i
    · rw [e, pk_us]
      exact IB_fC _
    · rw [pk_un e]
      exact ih j hj
theorem feed_IB {N : Nat} (hN : 4 < N) {n : Nat} (hn : n ≤ 1240) {t t1 : Nat → Int32} {tl1 r : Int32} (h : IB t) {a b c d e : Int32} (hf : fX11_feed N (nI n) t a b c d e = some (tl1, t1, r)) : IB t1 := by
  unfold fX11_feed at hf
  by_cases h20 : n + 20 ≤ 1240
  · have hc : nI n + 20 ≤ (1240 : Int32) := by
      rw [show nI n + (20 : Int32) = nI (n + 20) from nI_add n 20]
      exact nI_le (b := 1240) h20 (by decide)
    rw [if_pos hc, bind_e (p_append hN (by omega) _ _), bind_e (p_append hN (by omega) _ _), bind_e (p_append hN (by omega) _ _), bind_e (p_append hN (by omega) _ _), bind_e (p_append hN (by omega) _ _)] at hf
    have e1 : _ = t1 := congrArg (fun z => z.2.1) (Option.some.inj hf)
    exact e1 ▸ laid_IB (laid_IB (laid_IB (laid_IB (laid_IB h 4) 4) 4) 4) 4
  · have hc : ¬ nI n + 20 ≤ (1240 : Int32) := by
      rw [show nI n + (20 : Int32) = nI (n + 20) from nI_add n 20]
      exact nI_ge (a := 1240) (by omega) (by omega)
    rw [if_neg hc] at hf
    have e1 : t = t1 := congrArg (fun z => z.2.1) (Option.some.inj hf)
    exact e1 ▸ h
theorem TU_of {t u : Nat → Int32} (h : IB t) (hu : ∀ j, j < 1240 → u j = t j &&& 255) : TU t u := by
  intro j hj
  obtain ⟨c, hc, e⟩ := h j hj
  rw [hu j hj, e, sc_k8 c hc]
  exact byte_tu c hc
theorem big_no {x : Int32} (h : 128 ≤ x) : leB x = false ∧ diB x = false ∧ ¬ x = 32 ∧ ¬ x = 10 ∧ ¬ x = 59 := by
  have h1 := (fa_le _ _).mp h
  have e1 : (128 : Int32).toInt = 128 := by decide
  rw [e1] at h1
  refine ⟨?_, ?_, ?_, ?_, ?_⟩
  · unfold leB
    rw [decide_eq_true ((fa_lt 122 x).mpr (by rw [show (122 : Int32).toInt = 122 by decide]; omega)), Bool.not_true, Bool.and_false]
  · unfold diB
    rw [decide_eq_true ((fa_lt 57 x).mpr (by rw [show (57 : Int32).toInt = 57 by decide]; omega)), Bool.not_true, Bool.and_false]
  · intro q
    rw [q, show (32 : Int32).toInt = 32 by decide] at h1
    omega
  · intro q
    rw [q, show (10 : Int32).toInt = 10 by decide] at h1
    omega
  · intro q
    rw [q, show (59 : Int32).toInt = 59 by decide] at h1
    omega
theorem neg_no {x : Int32} (h : x < 0) : leB x = false ∧ diB x = false ∧ ¬ x = 32 ∧ ¬ x = 10 ∧ ¬ x = 59 := by
  have h1 := (fa_lt _ _).mp h
  rw [show (0 : Int32).toInt = 0 by decide] at h1
  refine ⟨?_, ?_, ?_, ?_, ?_⟩
  · unfold leB
    rw [decide_eq_true ((fa_lt x 97).mpr (by rw [show (97 : Int32).toInt = 97 by decide]; omega)), Bool.not_true, Bool.false_and]
  · unfold diB
    rw [decide_eq_true ((fa_lt x 48).mpr (by rw [show (48 : Int32).toInt = 48 by decide]; omega)), Bool.not_true, Bool.false_and]
  · intro q
    rw [q, show (32 : Int32).toInt = 32 by decide] at h1
    omega
  · intro q
    rw [q, show (10 : Int32).toInt = 10 by decide] at h1
    omega
  · intro q
    rw [q, show (59 : Int32).toInt = 59 by decide] at h1
    omega
theorem TU_le {t u : Nat → Int32} (h : TU t u) {j : Nat} (hj : j < 1240) : leB (u j) = leB (t j) := by
  rcases h j hj with e | ⟨a, b⟩
  · rw [e]
  · rw [(neg_no a).1, (big_no b).1]
theorem TU_di {t u : Nat → Int32} (h : TU t u) {j : Nat} (hj : j < 1240) : diB (u j) = diB (t j) := by
  rcases h j hj with e | ⟨a, b⟩
  · rw [e]
  · rw [(neg_no a).2.1, (big_no b).2.1]
theorem TU_32 {t u : Nat → Int32} (h : TU t u) {j : Nat} (hj : j < 1240) : u j = 32 ↔ t j = 32 := by
  rcases h j hj with e | ⟨a, b⟩
  · rw [e]
  · exact ⟨fun q => absurd q (big_no b).2.2.1, fun q => absurd q (neg_no a).2.2.1⟩
theorem TU_10 {t u : Nat → Int32} (h : TU t u) {j : Nat} (hj : j < 1240) : u j = 10 ↔ t j = 10 := by
  rcases h j hj with e | ⟨a, b⟩
  · rw [e]
  · exact ⟨fun q => absurd q (big_no b).2.2.2.1, fun q => absurd q (neg_no a).2.2.2.1⟩
theorem TU_59 {t u : Nat → Int32} (h : TU t u) {j : Nat} (hj : j < 1240) : u j = 59 ↔ t j = 59 := by
  rcases h j hj with e | ⟨a, b⟩
  · rw [e]
  · exact ⟨fun q => absurd q (big_no b).2.2.2.2, fun q => absurd q (neg_no a).2.2.2.2⟩
theorem TU_an {t u : Nat → Int32} (h : TU t u) {j : Nat} (hj : j < 1240) (q : anB (t j) = true) : u j = t j := by
  rcases h j hj with e | ⟨a, b⟩
  · exact e.symm
  · unfold anB at q
    rw [(neg_no a).1, (neg_no a).2.1] at q
    exact absurd q (by decide)
theorem le_num {x : Int32} (h : leB x = true) : ∃ d, 1 ≤ d ∧ d ≤ 26 ∧ x = nI (96 + d) := by
  unfold leB at h
  rw [Bool.and_eq_true, Bool.not_eq_true', Bool.not_eq_true', decide_eq_false_iff_not, decide_eq_false_iff_not] at h
  obtain ⟨h1, h2⟩ := h
  have h1 := (fa_le _ _).mp (fa_of_nlt h1)
  have h2 := (fa_le _ _).mp (fa_of_nlt h2)
  rw [show (97 : Int32).toInt = 97 by decide] at h1
  rw [show (122 : Int32).toInt = 122 by decide] at h2
  refine ⟨x.toInt.toNat - 96, by omega, by omega, ?_⟩
  refine (fa_eq _ _).mpr ?_
  rw [nI_toInt (by omega)]
  omega
theorem di_num {x : Int32} (h : diB x = true) : ∃ d, d ≤ 9 ∧ x = nI (48 + d) := by
  unfold diB at h
  rw [Bool.and_eq_true, Bool.not_eq_true', Bool.not_eq_true', decide_eq_false_iff_not, decide_eq_false_iff_not] at h
  obtain ⟨h1, h2⟩ := h
  have h1 := (fa_le _ _).mp (fa_of_nlt h1)
  have h2 := (fa_le _ _).mp (fa_of_nlt h2)
  rw [show (48 : Int32).toInt = 48 by decide] at h1
  rw [show (57 : Int32).toInt = 57 by decide] at h2
  refine ⟨x.toInt.toNat - 48, by omega, ?_⟩
  refine (fa_eq _ _).mpr ?_
  rw [nI_toInt (by omega)]
  omega
theorem le_di {x : Int32} (h : leB x = true) : diB x = false := by
  obtain ⟨d, h1, h2, rfl⟩ := le_num h
  unfold diB
  rw [decide_eq_true (show (57 : Int32) < nI (96 + d) from nI_lt (a := 57) (by omega) (by omega)), Bool.not_true, Bool.and_false]
/-! numbers and names out of their signs -/
def vN (f : Nat → Nat) : Nat → Nat
  | 0 => 0
  | m + 1 => 27 * vN f m + f m
def dN (f : Nat → Nat) : Nat → Nat
  | 0 => 0
  | m + 1 => 10 * dN f m + f m
theorem vN_lt {f : Nat → Nat} : ∀ m, (∀ j, j < m → f j ≤ 26) → vN f m < 27 ^ m
  | 0, _ => Nat.one_pos
  | m + 1, h => by
    have h1 := vN_lt m (fun j hj => h j (by omega))
    have h2 := h m (by omega)
    show 27 * vN f m + f m < 27 ^ (m + 1)
    rw [Nat.pow_succ]
    omega
theorem dN_lt {f : Nat → Nat} : ∀ m, (∀ j, j < m → f j ≤ 9) → dN f m < 10 ^ m
  | 0, _ => Nat.one_pos
  | m + 1, h => by
    have h1 := dN_lt m (fun j hj => h j (by omega))
    have h2 := h m (by omega)
    show 10 * dN f m + f m < 10 ^ (m + 1)
    rw [Nat.pow_succ]
    omega
theorem vN_inj {f g : Nat → Nat} : ∀ m k, (∀ j, j < m → 1 ≤ f j ∧ f j ≤ 26) → (∀ j, j < k → 1 ≤ g j ∧ g j ≤ 26) → vN f m = vN g k → m = k ∧ ∀ j, j < m → f j = g j
  | 0, 0, _, _, _ => ⟨rfl, fun j hj => absurd hj (Nat.not_lt_zero j)⟩
  | 0, k + 1, _, hg, e => by
    have e : 0 = 27 * vN g k + g k := e
    have := hg k (by omega)
    omega
  | m + 1, 0, hf, _, e => by
    have e : 27 * vN f m + f m = 0 := e
    have := hf m (by omega)
    omega
  | m + 1, k + 1, hf, hg, e => by
    have e : 27 * vN f m + f m = 27 * vN g k + g k := e
    have h1 := hf m (by omega)
    have h2 := hg k (by omega)
    have e1 : vN f m = vN g k := by omega
    have e2 : f m = g k := by omega
    obtain ⟨q1, q2⟩ := vN_inj m k (fun j hj => hf j (by omega)) (fun j hj => hg j (by omega)) e1
    refine ⟨by omega, fun j hj => ?_⟩
    by_cases c : j = m
    · rw [c, e2, q1]
    · exact q2 j (by omega)
theorem vN_cong {f g : Nat → Nat} : ∀ m, (∀ j, j < m → f j = g j) → vN f m = vN g m
  | 0, _ => rfl
  | m + 1, h => by
    show 27 * vN f m + f m = 27 * vN g m + g m
    rw [vN_cong m (fun j hj => h j (by omega)), h m (by omega)]
/-- a sign as a digit of a name, of a number -/
def sL (x : Int32) : Nat := x.toNatClampNeg - 96
def sD (x : Int32) : Nat := x.toNatClampNeg - 48
theorem sL_e {x : Int32} (h : leB x = true) : 1 ≤ sL x ∧ sL x ≤ 26 ∧ x = nI (96 + sL x) := by
  obtain ⟨d, h1, h2, rfl⟩ := le_num h
  unfold sL
  rw [nI_clamp (by omega), show 96 + d - 96 = d by omega]
  exact ⟨h1, h2, rfl⟩
theorem sD_e {x : Int32} (h : diB x = true) : sD x ≤ 9 ∧ x = nI (48 + sD x) := by
  obtain ⟨d, h1, rfl⟩ := di_num h
  unfold sD
  rw [nI_clamp (by omega), show 48 + d - 48 = d by omega]
  exact ⟨h1, rfl⟩
/-- the class's value of a run behind j signs -/
def vcC (t : Nat → Int32) (s : Nat) : Nat → Int32
  | 0 => 0
  | j + 1 => if leB (t (s + j)) = true then vcC t s j * 27 + t (s + j) - 97 + 1 else vcC t s j * 10 + t (s + j) - 48
def lcN (t : Nat → Int32) (s j : Nat) : Nat := fb_ct (fun k => leB (t (s + k))) j
/-- the reference's number and word of a run behind j signs -/
def nuM (u : Nat → Int32) (s : Nat) : Nat → Int32
  | 0 => 0
  | j + 1 => if j < 4 then 10 * nuM u s j + u (s + j) - 48 else nuM u s j
def wdM (u : Nat → Int32) (s : Nat) : Nat → Int64
  | 0 => 0
  | j + 1 => if j < 6 then 27 * wdM u s j + (u (s + j)).toInt64 - 96 else wdM u s j
theorem vcC_L {t : Nat → Int32} {s : Nat} : ∀ j, (∀ k, k < j → leB (t (s + k)) = true) → vcC t s j = nI (vN (fun k => sL (t (s + k))) j)
  | 0, _ => rfl
  | j + 1, h => by
    have hj := h j (by omega)
    obtain ⟨h1, h2, h3⟩ := sL_e hj
    show (if leB (t (s + j)) = true then vcC t s j * 27 + t (s + j) - 97 + 1 else vcC t s j * 10 + t (s + j) - 48) = nI (27 * vN (fun k => sL (t (s + k))) j + sL (t (s + j)))
    rw [if_pos hj, vcC_L j (fun k hk => h k (by omega))]
    generalize hv : vN (fun k => sL (t (s + k))) j = v
    generalize hd : sL (t (s + j)) = d at h1 h2 h3 ⊢
    rw [h3, show nI v * (27 : Int32) = nI (v * 27) from pk_mul v 27, nI_add, show nI (v * 27 + (96 + d)) - (97 : Int32) = nI (v * 27 + (96 + d) - 97) from pk_sub (b := 97) (by omega), nI_1, show v * 27 + (96 + d) - 97 + 1 = 27 * v + d by omega]
theorem vcC_D {t : Nat → Int32} {s : Nat} : ∀ j, (∀ k, k < j → diB (t (s + k)) = true) → vcC t s j = nI (dN (fun k => sD (t (s + k))) j)
  | 0, _ => rfl
  | j + 1, h => by
    have hj := h j (by omega)
    obtain ⟨h1, h3⟩ := sD_e hj
    have hn : ¬ leB (t (s + j)) = true := fun q => by
      rw [le_di q] at hj
      exact absurd hj (by decide)
    show (if leB (t (s + j)) = true then vcC t s j * 27 + t (s + j) - 97 + 1 else vcC t s j * 10 + t (s + j) - 48) = nI (10 * dN (fun k => sD (t (s + k))) j + sD (t (s + j)))
    rw [if_neg hn, vcC_D j (fun k hk => h k (by omega))]
    generalize hv : dN (fun k => sD (t (s + k))) j = v
    generalize hd : sD (t (s + j)) = d at h1 h3 ⊢
    rw [h3, show nI v * (10 : Int32) = nI (v * 10) from pk_mul v 10, nI_add, show nI (v * 10 + (48 + d)) - (48 : Int32) = nI (v * 10 + (48 + d) - 48) from pk_sub (b := 48) (by omega), show v * 10 + (48 + d) - 48 = 10 * v + d by omega]
theorem nuM_D {u : Nat → Int32} {s : Nat} : ∀ j, j ≤ 4 → (∀ k, k < j → diB (u (s + k)) = true) → nuM u s j = nI (dN (fun k => sD (u (s + k))) j)
  | 0, _, _ => rfl
  | j + 1, h4, h => by
    have hj := h j (by omega)
    obtain ⟨h1, h3⟩ := sD_e hj
    show (if j < 4 then 10 * nuM u s j + u (s + j) - 48 else nuM u s j) = nI (10 * dN (fun k => sD (u (s + k))) j + sD (u (s + j)))
    rw [if_pos (by omega), nuM_D j (by omega) (fun k hk => h k (by omega))]
    generalize hv : dN (fun k => sD (u (s + k))) j = v
    generalize hd : sD (u (s + j)) = d at h1 h3 ⊢
    rw [h3, show (10 : Int32) * nI v = nI (10 * v) from pk_mul 10 v, nI_add, show nI (10 * v + (48 + d)) - (48 : Int32) = nI (10 * v + (48 + d) - 48) from pk_sub (b := 48) (by omega), show 10 * v + (48 + d) - 48 = 10 * v + d by omega]
theorem lN_add2 (a b : Nat) : lN a + lN b = lN (a + b) := (Int64.ofNat_add a b).symm
theorem lN_sub2 {a b : Nat} (h : b ≤ a) : lN a - lN b = lN (a - b) := by
  have e : lN a = lN (a - b) + lN b := by rw [lN_add2, Nat.sub_add_cancel h]
  rw [e, Int64.add_sub_cancel]
theorem wdM_L {u : Nat → Int32} {s : Nat} : ∀ j, j ≤ 6 → (∀ k, k < j → leB (u (s + k)) = true) → wdM u s j = lN (vN (fun k => sL (u (s + k))) j)
  | 0, _, _ => rfl
  | j + 1, h6, h => by
    have hj := h j (by omega)
    obtain ⟨h1, h2, h3⟩ := sL_e hj
    show (if j < 6 then 27 * wdM u s j + (u (s + j)).toInt64 - 96 else wdM u s j) = lN (27 * vN (fun k => sL (u (s + k))) j + sL (u (s + j)))
    rw [if_pos (by omega), wdM_L j (by omega) (fun k hk => h k (by omega))]
    generalize hv : vN (fun k => sL (u (s + k))) j = v
    generalize hd : sL (u (s + j)) = d at h1 h2 h3 ⊢
    rw [h3, nI_l (by omega), show (27 : Int64) * lN v = lN (27 * v) from lN_mul 27 v, lN_add2, show lN (27 * v + (96 + d)) - (96 : Int64) = lN (27 * v + (96 + d) - 96) from lN_sub2 (b := 96) (by omega), show 27 * v + (96 + d) - 96 = 27 * v + d by omega]
/-! the grammar's words -/
def wv (k : Nat) : Nat := vN (fun j => sL (wch k j)) (wln.getD k 0)
theorem wch_L : ∀ k, k < 15 → ∀ j, j < wln.getD k 0 → leB (wch k j) = true := by decide +kernel
def rho : List Nat := [0, 1, 2, 3, 4, 5, 6, 14, 7, 8, 13, 9, 10, 11, 12]
theorem wordOf_e : ∀ k, k < 15 → fX12_wordOf (nI (rho.getD k 0)) = some (lN (wv k)) := by decide +kernel
theorem wv_lt : ∀ k, k < 15 → wv k < 2 ^ 30 := by decide +kernel
theorem wv_inj : ∀ k, k < 15 → ∀ j, j < 15 → wv k = wv j → k = j := by decide +kernel
theorem rho_inv : ∀ q, q < 15 → ∃ k, k < 15 ∧ rho.getD k 0 = q := by decide +kernel
theorem lyk_e {t : Nat → Int32} {s m k : Nat} (hk : k < 15) (hL : ∀ j, j < m → leB (t (s + j)) = true) : lyk t s (s + m) k = true ↔ vN (fun j => sL (t (s + j))) m = wv k := by
  have hd : ∀ j, j < m → 1 ≤ sL (t (s + j)) ∧ sL (t (s + j)) ≤ 26 := fun j hj => ⟨(sL_e (hL j hj)).1, (sL_e (hL j hj)).2.1⟩
  have hw : ∀ j, j < wln.getD k 0 → 1 ≤ sL (wch k j) ∧ sL (wch k j) ≤ 26 := fun j hj => ⟨(sL_e (wch_L k hk j hj)).1, (sL_e (wch_L k hk j hj)).2.1⟩
  unfold lyk
  rw [Bool.and_eq_true, decide_eq_true_eq, Bool.not_eq_true', decide_eq_false_iff_not, show s + m - s = m by omega]
  constructor
  · intro h
    obtain ⟨h1, h2⟩ := h
    unfold wv
    rw [← h1]
    refine vN_cong m (fun j hj => ?_)
    have : t (s + j) = wch k j := by
      rcases Classical.em (t (s + j) = wch k j) with q | q
      · exact q
      · exact absurd (ff_yes (show j < wln.getD k 0 by omega) (decide_eq_true q)) h2
    show sL (t (s + j)) = sL (wch k j)
    rw [this]
  · intro h
    obtain ⟨q1, q2⟩ := vN_inj m (wln.getD k 0) hd hw h
    refine ⟨q1, ff_no (fun j hj => decide_eq_false (fun y => y ?_))⟩
    have e1 := (sL_e (hL j (by omega))).2.2
    have e2 := (sL_e (wch_L k hk j hj)).2.2
    have e3 : sL (t (s + j)) = sL (wch k j) := q2 j (by omega)
    rw [e1, e2, e3]
theorem lya_e {t : Nat → Int32} {s m : Nat} (hL : ∀ j, j < m → leB (t (s + j)) = true) : (lya t s (s + m) = -1 ∧ ∀ k, k < 15 → ¬ vN (fun j => sL (t (s + j))) m = wv k) ∨ ∃ k, k < 15 ∧ lya t s (s + m) = nI k ∧ vN (fun j => sL (t (s + j))) m = wv k := by
  unfold lya
  by_cases c : fa_first (lyk t s (s + m)) 15 < 15
  · refine Or.inr ⟨fa_first (lyk t s (s + m)) 15, c, if_pos c, ?_⟩
    exact (lyk_e c hL).mp (fa_first_yes _ _ c)
  · refine Or.inl ⟨if_neg c, fun k hk q => ?_⟩
    exact c (ff_yes hk ((lyk_e hk hL).mpr q))

/-! NEED: the least gap, found by counting up and by a division -/
def qt (l s B : Nat) : Nat := if 1000 * l / (B + 1) + 1 ≤ 10 then 0 else (1000 * l / (B + 1) + 1 - 10 + s - 1) / s
theorem qt_iff {l s B d : Nat} (hs : 1 ≤ s) : rch l s d ≤ B ↔ qt l s B ≤ d := by
  have h1 : rch l s d ≤ B ↔ 1000 * l < (B + 1) * (10 + s * d) := by
    unfold rch
    rw [← Nat.lt_succ_iff]
    exact Nat.div_lt_iff_lt_mul (by omega)
  have h2 : 1000 * l / (B + 1) < 10 + s * d ↔ 1000 * l < (10 + s * d) * (B + 1) := Nat.div_lt_iff_lt_mul (by omega)
  rw [h1, Nat.mul_comm (B + 1), ← h2]
  unfold qt
  by_cases c : 1000 * l / (B + 1) + 1 ≤ 10
  · rw [if_pos c]
    constructor
    · intro _
      exact Nat.zero_le _
    · intro _
      omega
  · rw [if_neg c]
    generalize 1000 * l / (B + 1) = q at c ⊢
    have h3 : (q + 1 - 10 + s - 1) / s ≤ d ↔ q + 1 - 10 + s - 1 < (d + 1) * s := by
      rw [← Nat.lt_succ_iff]
      exact Nat.div_lt_iff_lt_mul (by omega)
    rw [h3, Nat.succ_mul, Nat.mul_comm d s]
    omega
theorem qt_le {l s B : Nat} (hl : l ≤ 999) (hs : 1 ≤ s) : qt l s B ≤ 999001 := by
  unfold qt
  split
  · omega
  · have h1 : 1000 * l / (B + 1) ≤ 999000 := Nat.le_trans (Nat.div_le_self _ _) (by omega)
    generalize 1000 * l / (B + 1) = q at h1 ⊢
    have h2 : (q + 1 - 10 + s - 1) / s ≤ q + 1 - 10 := by
      rw [← Nat.lt_succ_iff]
      refine (Nat.div_lt_iff_lt_mul (by omega)).mpr ?_
      have h3 : (q + 1 - 10).succ * s = (q + 1 - 10) * s + s := Nat.succ_mul _ _
      have h4 : q + 1 - 10 ≤ (q + 1 - 10) * s := Nat.le_mul_of_pos_right _ (by omega)
      omega
    omega
theorem quiet_e {a b l s B : Nat} {rF : Nat → Int32} (ha : a < 16) (hb : b < 16) (hl : l ≤ 999) (hs1 : 1 ≤ s) (hs : s ≤ 99) (hB : B ≤ 9999) (el : rF (14 * a + 4) = nI l) (es : rF (14 * a + 5) = nI s) (eB : rF (14 * b + 6) = nI B) : fX5_quietFrom rF (nI a) (nI b) = some (nI (qt l s B)) := by
  unfold fX5_quietFrom
  rw [bind_e (told_x (w := 4) (c := 4) rfl ha (by decide) rF), bind_e (told_x (w := 6) (c := 6) rfl hb (by decide) rF), el, eB, bnd_e, nI_1]
  have e1 : (if (1 : Int32) < nI (B + 1) then nI (B + 1) else (1 : Int32)) = nI (B + 1) := by
    by_cases c : (1 : Int32) < nI (B + 1)
    · rw [if_pos c]
    · rw [if_neg c]
      have : B = 0 := by
        rcases Nat.eq_zero_or_pos B with q | q
        · exact q
        · exact absurd (show (1 : Int32) < nI (B + 1) from nI_lt (a := 1) (by omega) (by omega)) c
      subst this
      rfl
  rw [e1, gdz_e (nI_ne0 (by omega) (by omega)), bnd_e, show nI l * (1000 : Int32) = nI (l * 1000) from pk_mul l 1000, Nat.mul_comm l 1000, pk_div (by omega) (by omega) (by omega), bind_e (told_x (w := 5) (c := 5) rfl ha (by decide) rF), es, bnd_e]
  have e2 : (if (1 : Int32) < nI s then nI s else (1 : Int32)) = nI s := by
    by_cases c : (1 : Int32) < nI s
    · rw [if_pos c]
    · rw [if_neg c]
      have : s = 1 := by
        rcases Nat.lt_or_ge 1 s with q | q
        · exact absurd (show (1 : Int32) < nI s from nI_lt (a := 1) q (by omega)) c
        · omega
      subst this
      rfl
  have h1 : 1000 * l / (B + 1) ≤ 999000 := Nat.le_trans (Nat.div_le_self _ _) (by omega)
  rw [e2, bnd_e, nI_1]
  unfold qt
  generalize 1000 * l / (B + 1) = q at h1 ⊢
  by_cases c : q + 1 ≤ 10
  · rw [if_pos c, if_neg]
    · rfl
    · intro z
      have h3 : ¬ nI (q + 1) - nI 10 < 0 → q + 1 = 10 := by
        intro w
        rcases Nat.lt_or_ge (q + 1) 10 with y | y
        · exact absurd (pk_sneg (by decide) y) w
        · omega
      by_cases w : nI (q + 1) - nI 10 < 0
      · exact absurd z (fun z => (fa_of_lt z).2.2.1 w)
      · have := h3 w
        rw [this] at z
        exact absurd z (by decide)
  · rw [if_neg c, show nI (q + 1) - (10 : Int32) = nI (q + 1 - 10) from pk_sub (b := 10) (by omega), if_pos (show (0 : Int32) < nI (q + 1 - 10) from nI_lt (a := 0) (by omega) (by omega)), gdz_e (nI_ne0 (by omega) (by omega)), nI_add, show nI (q + 1 - 10 + s) - (1 : Int32) = nI (q + 1 - 10 + s - 1) from pk_sub (b := 1) (by omega), pk_div (by omega) (by omega) (by omega)]
/-- NEED of two -/
def nd (A : Nat) (rF : Nat → Int32) (rc : Nat → Int64) (a b : Nat) : Int32 :=
  if lg_cmp (rc a &&& rc b) 0 = 0 then 0 else
    if 1800 < max A (max (qt (rF (14 * a + 4)).toNatClampNeg (rF (14 * a + 5)).toNatClampNeg (rF (14 * b + 6)).toNatClampNeg) (qt (rF (14 * b + 4)).toNatClampNeg (rF (14 * b + 5)).toNatClampNeg (rF (14 * a + 6)).toNatClampNeg)) then -1
    else nI (max A (max (qt (rF (14 * a + 4)).toNatClampNeg (rF (14 * a + 5)).toNatClampNeg (rF (14 * b + 6)).toNatClampNeg) (qt (rF (14 * b + 4)).toNatClampNeg (rF (14 * b + 5)).toNatClampNeg (rF (14 * a + 6)).toNatClampNeg)))
theorem max_nI {a b : Nat} (ha : a < 2 ^ 31) (hb : b < 2 ^ 31) : (if nI a < nI b then nI b else nI a) = nI (max a b) := by
  by_cases c : a < b
  · rw [if_pos (nI_lt c hb), Nat.max_eq_right (by omega)]
  · rw [if_neg (nI_nlt (by omega) ha), Nat.max_eq_left (by omega)]
theorem facts_e {T L t : Nat} {rF : Nat → Int32} (hF : IF1 T L rF) (ht : t < T) : (∃ l, 1 ≤ l ∧ l ≤ 999 ∧ rF (14 * t + 4) = nI l) ∧ (∃ s, 1 ≤ s ∧ s ≤ 99 ∧ rF (14 * t + 5) = nI s) ∧ ∃ B, B ≤ 9999 ∧ rF (14 * t + 6) = nI B := by
  obtain ⟨-, -, -, -, h4, h5, h6, -⟩ := hF t ht
  exact ⟨h4, h5, h6⟩
theorem needC_e {T L A a b : Nat} {rF : Nat → Int32} {rc : Nat → Int64} (hT : T ≤ 16) (hA : A ≤ 300) (hF : IF1 T L rF) (ha : a < T) (hb : b < T) : fX5_needOf (nI A) rc rF (nI a) (nI b) = some (nd A rF rc a b) := by
  obtain ⟨⟨la, la1, la2, ela⟩, ⟨sa, sa1, sa2, esa⟩, Ba, hBa, eBa⟩ := facts_e hF ha
  obtain ⟨⟨lb_, lb1, lb2, elb⟩, ⟨sb, sb1, sb2, esb⟩, Bb, hBb, eBb⟩ := facts_e hF hb
  unfold fX5_needOf nd
  have e0 : fX5_shareCell rc (nI a) (nI b) = some (if lg_cmp (rc a &&& rc b) 0 = 0 then 0 else 1) := by
    unfold fX5_shareCell
    rw [gdi_nI (by omega) (by decide), gdi_nI (by omega) (by decide), nI_clamp (by omega), nI_clamp (show b < 2 ^ 31 by omega)]
    by_cases c : lg_cmp (rc a &&& rc b) 0 = 0
    · rw [if_pos c, if_pos c]
    · rw [if_neg c, if_neg c]
  rw [bind_e e0]
  by_cases c : lg_cmp (rc a &&& rc b) 0 = 0
  · rw [if_pos c, if_pos rfl, if_pos c]
  · have q1 := qt_le (l := la) (s := sa) (B := Bb) la2 sa1
    have q2 := qt_le (l := lb_) (s := sb) (B := Ba) lb2 sb1
    rw [if_neg c, if_neg (show ¬ (1 : Int32) = 0 by decide), if_neg c, bind_e (quiet_e (by omega) (by omega) la2 sa1 sa2 hBb ela esa eBb), bind_e (quiet_e (by omega) (by omega) lb2 sb1 sb2 hBa elb esb eBa), bnd_e, max_nI (by omega) (by omega), bnd_e, max_nI (by omega) (by omega), ela, esa, eBb, elb, esb, eBa, nI_clamp (by omega), nI_clamp (by omega), nI_clamp (by omega), nI_clamp (by omega), nI_clamp (by omega), nI_clamp (by omega)]
    have hM : max A (max (qt la sa Bb) (qt lb_ sb Ba)) ≤ 999001 := Nat.max_le.mpr ⟨by omega, Nat.max_le.mpr ⟨q1, q2⟩⟩
    generalize max A (max (qt la sa Bb) (qt lb_ sb Ba)) = M at hM ⊢
    by_cases c2 : 1800 < M
    · rw [if_pos (show (1800 : Int32) < nI M from nI_lt (a := 1800) c2 (by omega)), if_pos c2]
    · rw [if_neg (show ¬ (1800 : Int32) < nI M from nI_nlt (a := 1800) (b := M) (by omega) (by decide)), if_neg c2]
theorem bearsM_e {a b l s B d : Nat} {now : Nat → Int32} (ha : a < 16) (hb : b < 16) (hl : l ≤ 999) (hs1 : 1 ≤ s) (hs : s ≤ 99) (hB : B ≤ 9999) (hd : d ≤ 1800) (el : now (20 + 20 * a + 4) = nI l) (es : now (20 + 20 * a + 5) = nI s) (eB : now (20 + 20 * b + 6) = nI B) : fX12_bears now (nI a) (nI b) (nI d) = some (if qt l s B ≤ d then 1 else 0) := by
  have hr : rch l s d ≤ 99900 := by
    unfold rch
    have h0 : 1000 * l / (10 + s * d) ≤ 1000 * l / 10 := Nat.div_le_div_left (Nat.le_add_right 10 (s * d)) (by decide)
    omega
  unfold fX12_bears
  rw [bind_e (ofM_x (w := 4) (c := 4) rfl ha (by decide) now), bind_e (ofM_x (w := 5) (c := 5) rfl ha (by decide) now), el, es, bind_e (reachM hl hs hd), bind_e (ofM_x (w := 6) (c := 6) rfl hb (by decide) now), eB]
  by_cases c : qt l s B ≤ d
  · rw [if_pos c, if_neg (nI_nlt ((qt_iff hs1).mpr c) (by omega))]
  · rw [if_neg c, if_pos]
    refine nI_lt ?_ (by omega)
    rcases Nat.lt_or_ge B (rch l s d) with q | q
    · exact q
    · exact absurd ((qt_iff hs1).mp q) c
set_option maxHeartbeats 1000000 in
theorem needM_e {N T L P A a b : Nat} {rl rt rp ra rf : Int32} {rc gr : Nat → Int64} {rP rF now : Nat → Int32} (hN : 1802 < N) (h : IR1 T L P A rl rt rp ra rf rc rP rF now gr) (hF : IF1 T L rF) (ha : a < T) (hb : b < T) : fX12_needOf N gr now (nI a) (nI b) = some (nd A rF rc a b) := by
  obtain ⟨⟨hT, -, -, hA⟩, -, ⟨-, -, -, n3, -⟩, -, hF2, hc⟩ := h
  obtain ⟨⟨la, la1, la2, ela⟩, ⟨sa, sa1, sa2, esa⟩, Ba, hBa, eBa⟩ := facts_e hF ha
  obtain ⟨⟨lb_, lb1, lb2, elb⟩, ⟨sb, sb1, sb2, esb⟩, Bb, hBb, eBb⟩ := facts_e hF hb
  unfold fX12_needOf nd
  rw [gdi_nI (by omega) (by decide), gdi_nI (by omega) (by decide), nI_clamp (by omega), nI_clamp (show b < 2 ^ 31 by omega), ← hc a ha, ← hc b hb]
  by_cases c : lg_cmp (rc a &&& rc b) 0 = 0
  · rw [if_pos c, if_pos c]
  · rw [if_neg c, if_neg c, gdi_e (i := 3) (n := 380) 3 rfl (by decide) (by decide), show now ((3 : Int32).toNatClampNeg) = nI A from n3, bnd_e, ela, esa, eBb, elb, esb, eBa, nI_clamp (by omega), nI_clamp (by omega), nI_clamp (by omega), nI_clamp (by omega), nI_clamp (by omega), nI_clamp (by omega)]
    have step : ∀ d, d ≤ 1800 → fX12_needOf_l27b N gr now (nI a) (nI b) (nI d) = some (if qt la sa Bb ≤ d ∧ qt lb_ sb Ba ≤ d then .inr (nI d) else .inl (nI (d + 1))) := by
      intro d hd
      unfold fX12_needOf_l27b
      rw [if_neg (show ¬ (1800 : Int32) < nI d from nI_nlt (b := d) (a := 1800) hd (by decide)), bind_e (bearsM_e (by omega) (by omega) la2 sa1 sa2 hBb hd ((hF2 a ha 4 (by decide)).symm.trans ela) ((hF2 a ha 5 (by decide)).symm.trans esa) ((hF2 b hb 6 (by decide)).symm.trans eBb))]
      by_cases c1 : qt la sa Bb ≤ d
      · rw [if_pos c1, if_neg (show ¬ (1 : Int32) = 0 by decide), bind_e (bearsM_e (by omega) (by omega) lb2 sb1 sb2 hBa hd ((hF2 b hb 4 (by decide)).symm.trans elb) ((hF2 b hb 5 (by decide)).symm.trans esb) ((hF2 a ha 6 (by decide)).symm.trans eBa))]
        by_cases c2 : qt lb_ sb Ba ≤ d
        · rw [if_pos c2, if_neg (show ¬ (1 : Int32) = 0 by decide), if_pos ⟨c1, c2⟩]
        · rw [if_neg c2, if_pos rfl, bnd_e, nI_1, if_neg (fun q => c2 q.2)]
      · rw [if_neg c1, if_pos rfl, bnd_e, nI_1, if_neg (fun q => c1 q.1)]
    by_cases c2 : 1800 < max A (max (qt la sa Bb) (qt lb_ sb Ba))
    · have e1 : itr (fun z => fX12_needOf_l27b N gr now (nI a) (nI b) z) N (nI A) = some (nI 1801) := by
        refine itr_to (fun k => nI k) 1801 ?_ (1801 - A) A N (by omega) (by omega) (fun d h1 h2 => ?_)
        · show fX12_needOf_l27b N gr now (nI a) (nI b) (nI 1801) = _
          unfold fX12_needOf_l27b
          rw [if_pos (by decide)]
        · show fX12_needOf_l27b N gr now (nI a) (nI b) (nI d) = _
          rw [step d (by omega), if_neg]
          intro q
          have := Nat.max_le.mpr ⟨h1, Nat.max_le.mpr q⟩
          omega
      rw [if_pos c2, bind_e e1, if_neg (by decide)]
    · have e1 : itr (fun z => fX12_needOf_l27b N gr now (nI a) (nI b) z) N (nI A) = some (nI (max A (max (qt la sa Bb) (qt lb_ sb Ba)))) := by
        have hAM : A ≤ max A (max (qt la sa Bb) (qt lb_ sb Ba)) := Nat.le_max_left _ _
        refine itr_to (fun k => nI k) (max A (max (qt la sa Bb) (qt lb_ sb Ba))) ?_ (max A (max (qt la sa Bb) (qt lb_ sb Ba)) - A) A N (by omega) (by omega) (fun d h1 h2 => ?_)
        · show fX12_needOf_l27b N gr now (nI a) (nI b) (nI (max A (max (qt la sa Bb) (qt lb_ sb Ba)))) = _
          rw [step _ (by omega), if_pos ⟨Nat.le_trans (Nat.le_max_left _ _) (Nat.le_max_right _ _), Nat.le_trans (Nat.le_max_right _ _) (Nat.le_max_right _ _)⟩]
        · show fX12_needOf_l27b N gr now (nI a) (nI b) (nI d) = _
          rw [step d (by omega), if_neg]
          intro q
          have := Nat.max_le.mpr ⟨h1, Nat.max_le.mpr q⟩
          omega
      rw [if_neg c2, bind_e e1, if_pos (show nI (max A (max (qt la sa Bb) (qt lb_ sb Ba))) ≤ (1800 : Int32) from nI_le (b := 1800) (by omega) (by decide))]
theorem p_need {N T L P A : Nat} {rl rt rp ra rf b th : Int32} {rc gr : Nat → Int64} {rP rF now now1 : Nat → Int32} (hN : 1802 < N) (h : IR1 T L P A rl rt rp ra rf rc rP rF now1 gr) (hF : IF1 T L rF) (hl : LY N b now now1) (x y : Int32) : ∃ r : Int32, fX11_need rt ra rc rF x y = some r ∧ fX12_need N th b now gr x y = some (0, 1, now1, r) := by
  have h' := h
  obtain ⟨⟨hT, hL, hP, hA⟩, ⟨rfl, rfl, rfl, rfl⟩, ⟨n0, n1, n2, n3, n4, hf0⟩, hp, hF2, hc⟩ := h
  unfold fX11_need fX12_need
  rw [bind_e hl]
  rcases th_cases x hT with h0 | ⟨s, hs, rfl⟩
  · refine ⟨-1, ?_, ?_⟩
    · by_cases c : x = y
      · rw [if_pos c]
      · rw [if_neg c, bind_e (has_no h0), if_pos rfl]
    · rw [bind_e (isThing_no n1 h0), if_pos rfl]
  · rcases th_cases y hT with h0 | ⟨t, ht, rfl⟩
    · refine ⟨-1, ?_, ?_⟩
      · by_cases c : nI s = y
        · rw [if_pos c]
        · rw [if_neg c, bind_e (has_yes hs hT), if_neg (show ¬ (1 : Int32) = 0 by decide), bind_e (has_no h0), if_pos rfl]
      · rw [bind_e (isThing_yes n1 hs hT), if_neg (show ¬ (1 : Int32) = 0 by decide), bind_e (isThing_no n1 h0), if_pos rfl]
    · rw [bind_e (isThing_yes n1 hs hT), if_neg (show ¬ (1 : Int32) = 0 by decide), bind_e (isThing_yes n1 ht hT), if_neg (show ¬ (1 : Int32) = 0 by decide)]
      by_cases c : nI s = nI t
      · refine ⟨-1, ?_, ?_⟩
        · rw [if_pos c]
        · rw [if_pos c]
      · refine ⟨nd A rF rc s t, ?_, ?_⟩
        · rw [if_neg c, bind_e (has_yes hs hT), if_neg (show ¬ (1 : Int32) = 0 by decide), bind_e (has_yes ht hT), if_neg (show ¬ (1 : Int32) = 0 by decide), bind_e (needC_e hT hA hF hs ht)]
        · rw [if_neg c, bind_e (needM_e hN h' hF hs ht)]

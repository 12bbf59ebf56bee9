/-! SELL -/
theorem ff_no {p : Nat → Bool} {n : Nat} (h : ∀ k, k < n → p k = false) : ¬ fa_first p n < n := by
  intro c
  have h1 := fa_first_yes p n c
  rw [h _ c] at h1
  cases h1
theorem ff_yes {p : Nat → Bool} {n k : Nat} (hk : k < n) (h : p k = true) : fa_first p n < n := by
  rcases Nat.lt_or_ge (fa_first p n) n with c | c
  · exact c
  · have h1 := fa_first_no p n k (by omega)
    rw [h] at h1
    cases h1
def swn (now : Nat → Int32) (a b : Nat) : Nat → Int32 := upd (upd (upd (upd now (340 + 2 * a) (now (340 + 2 * b))) (341 + 2 * a) (now (341 + 2 * a))) (340 + 2 * b) (now (340 + 2 * a))) (341 + 2 * b) (now (341 + 2 * b))
theorem swap_e {N T L A a b : Nat} {dg vo lo sh he tn rF now : Nat → Int32} {rc : Nat → Int64} (hN : 16 < N) (hT : T ≤ 16) (hA : A ≤ 300) (hF : IF1 T L rF) (hs : IST T A dg vo lo sh he tn rc rF now) (ha : a < T) (hb : b < T) (hab : a ≠ b) (ua : ¬ dg a = -1) (ub : ¬ dg b = -1) : ∃ dg2 vo2 he2 tn2, fX8_swapDegrees N dg vo (nI T) (nI A) rc he lo sh tn (nI a) (nI b) = some (dg2, vo2, he2, tn2) ∧ IST T A dg2 vo2 lo sh he2 tn2 rc rF (swn now a b) := by
  have hW := IST_WS hs hF
  obtain ⟨-, ⟨ea, ga⟩, na, nva, va, hva, eva⟩ := up_e (A := 0) (lo := dg) (sh := dg) (he := dg) (tn := dg) (rF := dg) (rc := rc) hs.1 (show a < 16 by omega) ua
  obtain ⟨-, ⟨eb, gb⟩, nb, nvb, vb, hvb, evb⟩ := up_e (A := 0) (lo := dg) (sh := dg) (he := dg) (tn := dg) (rF := dg) (rc := rc) hs.1 (show b < 16 by omega) ub
  have s1 := IST_take (w := 0) hs ha hT
  have s2 := IST_take (w := 0) s1 hb hT
  have da : ∃ q, q < 3600 ∧ dg a = nI q := ⟨_, ga, ea⟩
  have db : ∃ q, q < 3600 ∧ dg b = nI q := ⟨_, gb, eb⟩
  have s3 := IST_put s2 ha hT (by rw [pk_un hab, pk_us]) db ⟨va, hva, eva⟩
  have s4 := IST_put s3 hb hT (by rw [pk_un (Ne.symm hab), pk_us]) da ⟨vb, hvb, evb⟩
  refine ⟨_, _, _, _, ?_, IST_now ?_ s4⟩
  · unfold fX8_swapDegrees
    rw [gdi_nI (by omega) (by decide), nI_clamp (by omega), bnd_e, gdi_nI (by omega) (by decide), bnd_e, gdi_nI (by omega) (by decide), nI_clamp (show b < 2 ^ 31 by omega), bnd_e, gdi_nI (by omega) (by decide), bnd_e, bind_e (take_e hN hT hA ha hW), bind_e (take_e hN hT hA hb (IST_WS s1 hF)), bind_e (put_e hN hT hA ha (IST_WS s3 hF)), bind_e (put_e hN hT hA hb (IST_WS s4 hF))]
  · intro j h1 h2
    unfold swn
    rw [na, nva, nb, nvb]
    unfold upd
    by_cases c1 : j = 341 + 2 * b
    · rw [if_pos c1, if_pos c1]
    · rw [if_neg c1, if_neg c1]
      by_cases c2 : j = 340 + 2 * b
      · rw [if_pos c2, if_pos c2]
      · rw [if_neg c2, if_neg c2]
        by_cases c3 : j = 341 + 2 * a
        · rw [if_pos c3, if_pos c3]
        · rw [if_neg c3, if_neg c3]
          by_cases c4 : j = 340 + 2 * a
          · rw [if_pos c4, if_pos c4]
          · rw [if_neg c4, if_neg c4, if_neg c1, if_neg c2, if_neg c3, if_neg c4]
/-- heardAhead, the first k -/
def ahd (dg vo lo sh : Nat → Int32) (rc : Nat → Int64) (T : Nat) (f : Nat → Int32) : Nat → Nat → Int32 := fun k => fa_fill (fun j => smH dg vo lo sh rc j T) f k
/-- all is well with k, behind the sale of a and b -/
def okS (T A : Nat) (dg vo lo sh rF he : Nat → Int32) (rc : Nat → Int64) (a b k : Nat) : Bool := !isW T A dg vo lo sh rF rc k && (decide (k = a) || (decide (k = b) || decide (smH dg vo lo sh rc k T ≤ he k)))
theorem saleC_e {N T A a b : Nat} {dg vo lo sh he tn he0 rF : Nat → Int32} {rc : Nat → Int64} (hN : 16 < N) (hT : T ≤ 16) (hb : b < T) (ha : a < T) (h : IH T A dg vo lo sh he tn rc) : fX11_isSaleLet N (nI T) dg rF vo tn he he0 (nI a) (nI b) = some (if fa_first (fun k => !okS T A dg vo lo sh rF he0 rc a b k) T < T then 0 else 1) := by
  unfold fX11_isSaleLet
  rw [bind_e (firstWrongC_e hN hT h)]
  by_cases c : fw T A dg vo lo sh rF rc = -1
  · have hw := (fw_none hT).mp c
    have e := itr_firstR (body := fun z => fX11_isSaleLet_l15b N (nI T) dg rF vo tn he he0 (nI a) (nI b) z) (N := N) (T := T) (fun k => !okS T A dg vo lo sh rF he0 rc a b k) (fun _ => (0 : Int32)) (by omega) (by
      show fX11_isSaleLet_l15b N (nI T) dg rF vo tn he he0 (nI a) (nI b) (nI T) = _
      unfold fX11_isSaleLet_l15b
      rw [if_pos (nI_le (Nat.le_refl T) (by omega))]) (by
      intro k hk
      show fX11_isSaleLet_l15b N (nI T) dg rF vo tn he he0 (nI a) (nI b) (nI k) = _
      unfold fX11_isSaleLet_l15b okS
      rw [if_neg (nI_ge hk (by omega)), hw k hk]
      by_cases c1 : k = a
      · rw [if_pos (by rw [c1]), bnd_e, nI_1]
        simp [c1]
      · rw [if_neg (fun q => c1 ((nI_eq (by omega) (by omega)).mp q))]
        by_cases c2 : k = b
        · rw [if_pos (by rw [c2]), bnd_e, nI_1]
          simp [c2]
        · rw [if_neg (fun q => c2 ((nI_eq (by omega) (by omega)).mp q)), gdi_nI (by omega) (by decide), gdi_nI (by omega) (by decide), nI_clamp (by omega), h.1 k hk]
          by_cases c3 : smH dg vo lo sh rc k T ≤ he0 k
          · rw [if_pos c3, bnd_e, nI_1]
            simp [c3]
          · rw [if_neg c3]
            simp [c1, c2, c3])
    rw [if_pos c, bind_e e]
    by_cases q : fa_first (fun k => !okS T A dg vo lo sh rF he0 rc a b k) T < T
    · rw [if_pos q, if_pos q]
      rfl
    · rw [if_neg q, if_neg q]
      rfl
  · rw [if_neg c, if_pos]
    have hx : ∃ k, k < T ∧ isW T A dg vo lo sh rF rc k = true := by
      by_cases q : ∃ k, k < T ∧ isW T A dg vo lo sh rF rc k = true
      · exact q
      · refine absurd ((fw_none hT).mpr (fun k hk => ?_)) c
        cases z : isW T A dg vo lo sh rF rc k
        · rfl
        · exact absurd ⟨k, hk, z⟩ q
    obtain ⟨k, hk, e⟩ := hx
    refine ff_yes hk ?_
    show (!okS T A dg vo lo sh rF he0 rc a b k) = true
    unfold okS
    rw [e]
    rfl
theorem letM_e {N T L P A a b : Nat} {rl rt rp ra rf : Int32} {rc gr : Nat → Int64} {rP rF now dg vo lo sh ls ss he0 ha0 : Nat → Int32} (hN : 16 < N) (h : IR1 T L P A rl rt rp ra rf rc rP rF now gr) (hs : IS1 T dg vo now) (hW : WS T dg lo sh) (hl : ∀ j, j < T → ls j = lo j ∧ ss j = sh j) (ha : a < T) (hb : b < T) (h0 : ∀ k, k < T → ha0 k = he0 k) (hz : ∀ k, k < T → dg k = -1 → he0 k = 0) : fX12_isLet N now gr ls ss ha0 (nI a) (nI b) = some (if fa_first (fun k => !okS T A dg vo lo sh rF he0 rc a b k) T < T then 0 else 1) := by
  have hT : T ≤ 16 := h.1.1
  have n1 : now 1 = nI T := h.2.2.1.2.1
  have hF := h.2.2.2.2.1
  have e := itr_firstR (body := fun z => fX12_isLet_l2b N now gr ls ss ha0 (nI a) (nI b) z) (N := N) (T := T) (fun k => !okS T A dg vo lo sh rF he0 rc a b k) (fun _ => (0 : Int32)) (by omega) (by
    show fX12_isLet_l2b N now gr ls ss ha0 (nI a) (nI b) (nI T) = _
    unfold fX12_isLet_l2b
    rw [bind_e (things_e n1), if_pos (nI_le (Nat.le_refl T) (by omega))]) (by
    intro k hk
    show fX12_isLet_l2b N now gr ls ss ha0 (nI a) (nI b) (nI k) = _
    unfold fX12_isLet_l2b
    rw [bind_e (things_e n1), if_neg (nI_ge hk (by omega)), bind_e (isUpM_e (by omega) now), ← (hs k (by omega)).1]
    by_cases c : dg k = -1
    · rw [if_pos c, if_pos rfl, bnd_e, nI_1]
      have e1 : okS T A dg vo lo sh rF he0 rc a b k = true := by
        unfold okS isW
        rw [smH_out c, hz k hk c]
        simp [c]
      simp [e1]
    · rw [if_neg c, if_neg (show ¬ (1 : Int32) = 0 by decide)]
      have j : (k = a ∨ k = b ∨ smH dg vo lo sh rc k T ≤ he0 k) → fX12_isLet_j47 N now gr ls ss ha0 (nI a) (nI b) (nI k) = some (if (!okS T A dg vo lo sh rF he0 rc a b k) = true then .inr (.inr 0) else .inl (nI (k + 1))) := by
        intro hk2
        have e2 : (decide (k = a) || (decide (k = b) || decide (smH dg vo lo sh rc k T ≤ he0 k))) = true := by
          simp only [Bool.or_eq_true, decide_eq_true_eq]
          exact hk2
        unfold fX12_isLet_j47 okS
        rw [bind_e (isDeadM_e (by omega) now), ← hF k hk 8 (by decide), e2, Bool.and_true, Bool.not_not]
        unfold isW
        by_cases c1 : rF (14 * k + 8) = -1
        · rw [if_pos c1, if_pos rfl, bind_e (wrongM_e hN h hs hW hl hk c)]
          by_cases c2 : wr T A dg vo lo sh rF rc k = 0
          · rw [if_pos c2, bnd_e, nI_1]
            simp [c2]
          · rw [if_neg c2]
            simp [c, c1, c2]
        · rw [if_neg c1, if_neg (show ¬ (1 : Int32) = 0 by decide), bnd_e, nI_1]
          simp [c1]
      by_cases c1 : k = a
      · rw [if_pos (by rw [c1])]
        exact j (Or.inl c1)
      · rw [if_neg (fun q => c1 ((nI_eq (by omega) (by omega)).mp q))]
        by_cases c2 : k = b
        · rw [if_pos (by rw [c2])]
          exact j (Or.inr (Or.inl c2))
        · rw [if_neg (fun q => c2 ((nI_eq (by omega) (by omega)).mp q)), bind_e (heardM_e hN h hs hW hl hk c), gdi_nI (by omega) (by decide), nI_clamp (by omega), h0 k hk]
          by_cases c3 : smH dg vo lo sh rc k T ≤ he0 k
          · rw [if_pos c3]
            exact j (Or.inr (Or.inr c3))
          · rw [if_neg c3]
            unfold okS
            simp [c1, c2, c3])
  unfold fX12_isLet
  rw [bind_e e]
  by_cases q : fa_first (fun k => !okS T A dg vo lo sh rF he0 rc a b k) T < T
  · rw [if_pos q, if_pos q]
    rfl
  · rw [if_neg q, if_neg q]
    rfl

/-! the first wrong one; wrong, judge, reach -/
/-- a loop that looks for the first k with p -/
theorem itr_first {body : Int32 → Option (Int32 ⊕ (Unit ⊕ Int32))} {N T : Nat} (p : Nat → Bool) (hN : T < N) (he : body (nI T) = some (.inr (.inl ()))) (hs : ∀ k, k < T → body (nI k) = some (if p k = true then .inr (.inr (nI k)) else .inl (nI (k + 1)))) : itr body N (0 : Int32) = some (if fa_first p T < T then .inr (nI (fa_first p T)) else .inl ()) := by
  rw [show (0 : Int32) = (fun k => nI k) 0 from rfl]
  by_cases c : fa_first p T < T
  · rw [if_pos c]
    refine itr_0 (fun k => nI k) (fa_first p T) (by omega) ?_ (fun k hk => ?_)
    · show body (nI (fa_first p T)) = _
      rw [hs _ c, if_pos (fa_first_yes p T c)]
    · show body (nI k) = _
      rw [hs k (by omega), if_neg (by rw [fa_first_no p T k hk]; decide)]
  · have e : fa_first p T = T := Nat.le_antisymm (fa_first_le p T) (by omega)
    rw [if_neg c]
    refine itr_0 (fun k => nI k) T hN he (fun k hk => ?_)
    show body (nI k) = _
    rw [hs k hk, if_neg (by rw [fa_first_no p T k (by omega)]; decide)]
/-- stands, is not DEAD, and is wrong -/
def isW (T A : Nat) (dg vo lo sh rF : Nat → Int32) (rc : Nat → Int64) (k : Nat) : Bool := decide (¬ (dg k = -1 ∨ ¬ rF (14 * k + 8) = -1)) && decide (¬ wr T A dg vo lo sh rF rc k = 0)
def fw (T A : Nat) (dg vo lo sh rF : Nat → Int32) (rc : Nat → Int64) : Int32 := if fa_first (isW T A dg vo lo sh rF rc) T < T then nI (fa_first (isW T A dg vo lo sh rF rc) T) else -1
theorem firstWrongC_e {N T A : Nat} {dg vo lo sh he tn rF : Nat → Int32} {rc : Nat → Int64} (hN : 16 < N) (hT : T ≤ 16) (h : IH T A dg vo lo sh he tn rc) : fX8_firstWrong N (nI T) dg rF vo tn he = some (fw T A dg vo lo sh rF rc) := by
  have e := itr_first (body := fun z => fX8_firstWrong_l2b N (nI T) dg rF vo tn he z) (N := N) (T := T) (isW T A dg vo lo sh rF rc) (by omega) (by
    show fX8_firstWrong_l2b N (nI T) dg rF vo tn he (nI T) = _
    unfold fX8_firstWrong_l2b
    rw [if_pos (nI_le (Nat.le_refl T) (by omega))]) (by
    intro k hk
    show fX8_firstWrong_l2b N (nI T) dg rF vo tn he (nI k) = _
    unfold fX8_firstWrong_l2b isW
    rw [if_neg (nI_ge hk (by omega)), bind_e (isLiving_e (by omega) dg rF)]
    by_cases c : dg k = -1 ∨ ¬ rF (14 * k + 8) = -1
    · rw [if_pos c, if_pos rfl, bnd_e, nI_1]
      simp [c]
    · rw [if_neg c, if_neg (show ¬ (1 : Int32) = 0 by decide), bind_e (wrongC_e hT hk h)]
      by_cases c2 : wr T A dg vo lo sh rF rc k = 0
      · rw [if_pos c2, bnd_e, nI_1]
        simp [c2]
      · rw [if_neg c2]
        simp [c, c2])
  unfold fX8_firstWrong fw
  rw [bind_e e]
  by_cases c : fa_first (isW T A dg vo lo sh rF rc) T < T
  · rw [if_pos c, if_pos c]
    rfl
  · rw [if_neg c, if_neg c]
    rfl
theorem firstWrongM_e {N T L P A : Nat} {rl rt rp ra rf : Int32} {rc gr : Nat → Int64} {rP rF now dg vo lo sh ls ss : Nat → Int32} (hN : 16 < N) (h : IR1 T L P A rl rt rp ra rf rc rP rF now gr) (hs : IS1 T dg vo now) (hW : WS T dg lo sh) (hl : ∀ j, j < T → ls j = lo j ∧ ss j = sh j) : fX12_firstWrong N now gr ls ss = some (fw T A dg vo lo sh rF rc) := by
  have hT : T ≤ 16 := h.1.1
  have n1 : now 1 = nI T := h.2.2.1.2.1
  have hF := h.2.2.2.2.1
  have e := itr_first (body := fun z => fX12_firstWrong_l2b N now gr ls ss z) (N := N) (T := T) (isW T A dg vo lo sh rF rc) (by omega) (by
    show fX12_firstWrong_l2b N now gr ls ss (nI T) = _
    unfold fX12_firstWrong_l2b
    rw [bind_e (things_e n1), if_pos (nI_le (Nat.le_refl T) (by omega))]) (by
    intro k hk
    show fX12_firstWrong_l2b N now gr ls ss (nI k) = _
    unfold fX12_firstWrong_l2b isW
    rw [bind_e (things_e n1), if_neg (nI_ge hk (by omega)), bind_e (isUpM_e (by omega) now), ← (hs k (by omega)).1]
    by_cases c : dg k = -1
    · rw [if_pos c, if_pos rfl, bnd_e, nI_1]
      simp [c]
    · rw [if_neg c, if_neg (show ¬ (1 : Int32) = 0 by decide), bind_e (isDeadM_e (by omega) now), ← hF k hk 8 (by decide)]
      by_cases c1 : rF (14 * k + 8) = -1
      · rw [if_pos c1, if_pos rfl, bind_e (wrongM_e hN h hs hW hl hk c)]
        by_cases c2 : wr T A dg vo lo sh rF rc k = 0
        · rw [if_pos c2, bnd_e, nI_1]
          simp [c2]
        · rw [if_neg c2]
          simp [c, c1, c2]
      · rw [if_neg c1, if_neg (show ¬ (1 : Int32) = 0 by decide), bnd_e, nI_1]
        simp [c1])
  unfold fX12_firstWrong fw
  rw [bind_e e]
  by_cases c : fa_first (isW T A dg vo lo sh rF rc) T < T
  · rw [if_pos c, if_pos c]
    rfl
  · rw [if_neg c, if_neg c]
    rfl
theorem p_judge {N T L P A : Nat} {rl rt rp ra rf b th : Int32} {rc gr : Nat → Int64} {rP rF now now1 dg vo lo sh he tn ls ss : Nat → Int32} (hN : 16 < N) (h : IR1 T L P A rl rt rp ra rf rc rP rF now1 gr) (hF : IF1 T L rF) (hs : IST T A dg vo lo sh he tn rc rF now1) (hl : LY N b now now1) : ∃ (ls2 ss2 : Nat → Int32) (r : Int32), fX11_judge N rt dg rF vo tn he = some r ∧ fX12_judge N th b now ls ss gr = some (0, 1, now1, ls2, ss2, r) := by
  have hW := IST_WS hs hF
  have hT : T ≤ 16 := h.1.1
  have n1 : now1 1 = nI T := h.2.2.1.2.1
  refine ⟨lb ls now1 4 T, lb ss now1 5 T, fw T A dg vo lo sh rF rc, ?_, ?_⟩
  · unfold fX11_judge
    rw [h.2.1.1, bind_e (firstWrongC_e hN hT hs.2.2)]
  · unfold fX12_judge
    rw [bind_e hl, bind_e (layBeams_e hN hT n1), bind_e (firstWrongM_e hN h hs.1 hW (beams h hs))]
theorem p_wrong {N T L P A : Nat} {rl rt rp ra rf b th : Int32} {rc gr : Nat → Int64} {rP rF now now1 dg vo lo sh he tn ls ss : Nat → Int32} (hN : 16 < N) (h : IR1 T L P A rl rt rp ra rf rc rP rF now1 gr) (hF : IF1 T L rF) (hs : IST T A dg vo lo sh he tn rc rF now1) (hl : LY N b now now1) (x : Int32) : ∃ (ls2 ss2 : Nat → Int32) (r : Int32), fX11_wrong rt dg rF vo tn he x = some r ∧ fX12_wrong N th b now ls ss gr x = some (0, 1, now1, ls2, ss2, r) := by
  have h' := h
  have hW := IST_WS hs hF
  obtain ⟨⟨hT, hL, hP, hA⟩, ⟨rfl, rfl, rfl, rfl⟩, ⟨n0, n1, n2, n3, n4, hf0⟩, hp, hF2, hc⟩ := h
  unfold fX11_wrong fX12_wrong
  rw [bind_e hl]
  rcases th_cases x hT with h0 | ⟨t, ht, rfl⟩
  · refine ⟨ls, ss, -1, ?_, ?_⟩
    · rw [bind_e (has_no h0), if_pos rfl]
    · rw [bind_e (isThing_no n1 h0), if_pos rfl]
  · rw [bind_e (has_yes ht hT), bind_e (isThing_yes n1 ht hT), if_neg (show ¬ (1 : Int32) = 0 by decide), if_neg (show ¬ (1 : Int32) = 0 by decide), bind_e (isLiving_e (by omega) dg rF), bind_e (isUpM_e (by omega) now1), ← (hs.1 t (by omega)).1]
    by_cases hu : dg t = -1
    · refine ⟨ls, ss, -1, ?_, ?_⟩
      · rw [if_pos (Or.inl hu), if_pos rfl]
      · rw [if_pos hu, if_pos rfl]
    · rw [if_neg hu, if_neg (show ¬ (1 : Int32) = 0 by decide), bind_e (isDeadM_e (by omega) now1), ← hF2 t ht 8 (by decide)]
      by_cases c1 : rF (14 * t + 8) = -1
      · refine ⟨lb ls now1 4 T, lb ss now1 5 T, wr T A dg vo lo sh rF rc t, ?_, ?_⟩
        · rw [if_neg (show ¬ (dg t = -1 ∨ ¬ rF (14 * t + 8) = -1) from fun q => q.elim hu (fun z => z c1)), if_neg (show ¬ (1 : Int32) = 0 by decide), bind_e (wrongC_e hT ht hs.2.2)]
        · rw [if_pos c1, if_pos rfl, bind_e (layBeams_e hN hT n1), bind_e (wrongM_e hN h' hs.1 hW (beams h' hs) ht hu)]
      · refine ⟨ls, ss, -1, ?_, ?_⟩
        · rw [if_pos (Or.inr c1), if_pos rfl]
        · rw [if_neg c1, if_neg (show ¬ (1 : Int32) = 0 by decide)]

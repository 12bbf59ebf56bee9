/-! reach, count, and what earlier calls told -/
theorem itr_firstR {ρ : Type} {body : Int32 → Option (Int32 ⊕ (Unit ⊕ ρ))} {N T : Nat} (p : Nat → Bool) (R : Nat → ρ) (hN : T < N) (he : body (nI T) = some (.inr (.inl ()))) (hs : ∀ k, k < T → body (nI k) = some (if p k = true then .inr (.inr (R k)) else .inl (nI (k + 1)))) : itr body N (0 : Int32) = some (if fa_first p T < T then .inr (R (fa_first p T)) else .inl ()) := by
  rw [show (0 : Int32) = (fun k => nI k) 0 from rfl]
  by_cases c : fa_first p T < T
  · rw [if_pos c]
    refine itr_0 (fun k => nI k) (fa_first p T) (by omega) ?_ (fun k hk => ?_)
    · show body (nI (fa_first p T)) = _
      rw [hs _ c, if_pos (fa_first_yes p T c)]
    · show body (nI k) = _
      rw [hs k (by omega), if_neg (by rw [fa_first_no p T k hk]; decide)]
  · have e : fa_first p T = T := Nat.le_antisymm (fa_first_le p T) (by omega)
    rw [if_neg c]
    refine itr_0 (fun k => nI k) T hN he (fun k hk => ?_)
    show body (nI k) = _
    rw [hs k hk, if_neg (by rw [fa_first_no p T k (by omega)]; decide)]
theorem p_reach {N T L P A : Nat} {rl rt rp ra rf b th : Int32} {rc gr : Nat → Int64} {rP rF now now1 dg vo lo sh he tn ls ss : Nat → Int32} (hN : 16 < N) (h : IR1 T L P A rl rt rp ra rf rc rP rF now1 gr) (hF : IF1 T L rF) (hs : IST T A dg vo lo sh he tn rc rF now1) (hl : LY N b now now1) (x y : Int32) : ∃ (ls2 ss2 : Nat → Int32) (r : Int32), fX11_reach N rt dg vo rc lo sh x y = some r ∧ fX12_reach N th b now ls ss gr x y = some (0, 1, now1, ls2, ss2, r) := by
  have h' := h
  have hW := IST_WS hs hF
  obtain ⟨⟨hT, hL, hP, hA⟩, ⟨rfl, rfl, rfl, rfl⟩, ⟨n0, n1, n2, n3, n4, hf0⟩, hp, hF2, hc⟩ := h
  unfold fX11_reach fX12_reach
  rw [bind_e hl]
  rcases th_cases x hT with h0 | ⟨a, ha, rfl⟩
  · refine ⟨ls, ss, -1, ?_, ?_⟩
    · by_cases c : x = y
      · rw [if_pos c]
      · rw [if_neg c, bind_e (hasUp_no h0), if_pos rfl]
    · rw [bind_e (isThing_no n1 h0), if_pos rfl]
  · rcases th_cases y hT with h0 | ⟨t, ht, rfl⟩
    · refine ⟨ls, ss, -1, ?_, ?_⟩
      · by_cases c : nI a = y
        · rw [if_pos c]
        · rw [if_neg c, bind_e (hasUp_yes ha hT dg), bind_e (hasUp_no h0)]
          by_cases u : dg a = -1
          · rw [if_pos u, if_pos rfl]
          · rw [if_neg u, if_neg (show ¬ (1 : Int32) = 0 by decide), if_pos rfl]
      · rw [bind_e (isThing_yes n1 ha hT), if_neg (show ¬ (1 : Int32) = 0 by decide), bind_e (isThing_no n1 h0), if_pos rfl]
    · rw [bind_e (isThing_yes n1 ha hT), if_neg (show ¬ (1 : Int32) = 0 by decide), bind_e (isThing_yes n1 ht hT), if_neg (show ¬ (1 : Int32) = 0 by decide)]
      by_cases c : nI a = nI t
      · refine ⟨ls, ss, -1, ?_, ?_⟩
        · rw [if_pos c]
        · rw [if_pos c]
      · rw [if_neg c, if_neg c, bind_e (hasUp_yes ha hT dg), bind_e (isUpM_e (by omega) now1), ← (hs.1 a (by omega)).1]
        by_cases ua : dg a = -1
        · refine ⟨ls, ss, -1, ?_, ?_⟩
          · rw [if_pos ua, if_pos rfl]
          · rw [if_pos ua, if_pos rfl]
        · rw [if_neg ua, if_neg (show ¬ (1 : Int32) = 0 by decide), if_neg (show ¬ (1 : Int32) = 0 by decide), bind_e (hasUp_yes ht hT dg), bind_e (isUpM_e (by omega) now1), ← (hs.1 t (by omega)).1]
          by_cases ut : dg t = -1
          · refine ⟨ls, ss, -1, ?_, ?_⟩
            · rw [if_pos ut, if_pos rfl]
            · rw [if_pos ut, if_pos rfl]
          · refine ⟨lb ls now1 4 T, lb ss now1 5 T, if tch dg vo rc t a = true then rv dg lo sh a t else 0, ?_, ?_⟩
            · rw [if_neg ut, if_neg (show ¬ (1 : Int32) = 0 by decide), bind_e (touching_e (by omega) (by omega) dg vo rc), tch_comm dg vo rc t a]
              by_cases q : tch dg vo rc a t = true
              · obtain ⟨ea, ga⟩ := WS_dg hW (show a < 16 by omega) ua
                obtain ⟨et, gt⟩ := WS_dg hW (show t < 16 by omega) ut
                obtain ⟨la, la2, sa, sa2⟩ := WS_lo hW ha
                have g1 : fX11_gapBetween N (dg a) (dg t) = some (nI (gp (dg a).toNatClampNeg (dg t).toNatClampNeg)) := by
                  conv => lhs; rw [ea, et]
                  exact gapC ga gt
                have r1 : fX11_reachAt (lo a) (sh a) (nI (gp (dg a).toNatClampNeg (dg t).toNatClampNeg)) = some (rv dg lo sh a t) := by
                  conv => lhs; rw [la, sa]
                  exact reachC la2 sa2 (gp_le ga gt)
                rw [if_pos q, if_neg (show ¬ (1 : Int32) = 0 by decide), if_pos q]
                unfold fX8_reachOn
                rw [gdi_nI (by omega) (by decide), gdi_nI (by omega) (by decide), gdi_nI (by omega) (by decide), gdi_nI (by omega) (by decide), nI_clamp (by omega), nI_clamp (show t < 2 ^ 31 by omega), bind_e g1, bind_e r1]
                rfl
              · rw [if_neg q, if_pos rfl, if_neg q]
            · rw [if_neg ut, if_neg (show ¬ (1 : Int32) = 0 by decide), bind_e (layBeams_e hN hT n1), bind_e (reachOfM_e h' hs.1 hW (beams h' hs) ha ht ua ut)]
/-- how many stand -/
def cU (dg : Nat → Int32) : Nat → Nat
  | 0 => 0
  | k + 1 => if dg k = -1 then cU dg k else cU dg k + 1
theorem cU_le (dg : Nat → Int32) : ∀ n, cU dg n ≤ n
  | 0 => Nat.le_refl 0
  | n + 1 => by
    have h := cU_le dg n
    show (if dg n = -1 then cU dg n else cU dg n + 1) ≤ n + 1
    split <;> omega
theorem p_count {N T L P A : Nat} {rl rt rp ra rf b th tl ml : Int32} {rc gr : Nat → Int64} {rP rF now now1 dg vo t u : Nat → Int32} (hN : 16 < N) (ht : IT tl t ml u) (h : IR1 T L P A rl rt rp ra rf rc rP rF now1 gr) (hs : IS1 T dg vo now1) (hl : LY N b now now1) (x : Int32) : ∃ r : Int32, fX11_count N tl rl rt rp ra dg x = some r ∧ fX12_count N th ml b now x = some (0, 1, now1, r) := by
  obtain ⟨⟨hT, hL, hP, hA⟩, ⟨rfl, rfl, rfl, rfl⟩, ⟨n0, n1, n2, n3, n4, hf0⟩, hp, hF2, hc⟩ := h
  obtain ⟨n, hn, rfl, rfl, -⟩ := ht
  unfold fX11_count fX12_count
  rw [bind_e hl]
  by_cases c0 : x = 0
  · refine ⟨nI L, ?_, ?_⟩
    · rw [if_pos c0]
    · rw [if_pos c0, gdi_e (i := 0) (n := 380) 0 rfl (by decide) (by decide), show (1, now1).2 ((0 : Int32).toNatClampNeg) = nI L from n0]
  · rw [if_neg c0, if_neg c0]
    by_cases c1 : x = 1
    · refine ⟨nI T, ?_, ?_⟩
      · rw [if_pos c1]
      · rw [if_pos c1, bind_e (things_e n1)]
    · rw [if_neg c1, if_neg c1]
      by_cases c2 : x = 2
      · refine ⟨nI P, ?_, ?_⟩
        · rw [if_pos c2]
        · rw [if_pos c2, gdi_e (i := 2) (n := 380) 2 rfl (by decide) (by decide), show (1, now1).2 ((2 : Int32).toNatClampNeg) = nI P from n2]
      · rw [if_neg c2, if_neg c2]
        by_cases c3 : x = 3
        · have e1 : fX8_howManyUp N (nI T) dg = some (nI (cU dg T)) := by
            unfold fX8_howManyUp
            rw [show (((0 : Int32), (0 : Int32)) : Int32 × Int32) = (fun k => (nI (cU dg k), nI k)) 0 from rfl, itr_0 (r := nI (cU dg T)) (fun k => (nI (cU dg k), nI k)) T (by omega) ?_ ?_]
            · rfl
            · show fX8_howManyUp_l4b N (nI T) dg (nI (cU dg T)) (nI T) = _
              unfold fX8_howManyUp_l4b
              rw [if_pos (nI_le (Nat.le_refl T) (by omega))]
            · intro k hk
              show fX8_howManyUp_l4b N (nI T) dg (nI (cU dg k)) (nI k) = some (.inl (nI (if dg k = -1 then cU dg k else cU dg k + 1), nI (k + 1)))
              unfold fX8_howManyUp_l4b
              rw [if_neg (nI_ge hk (by omega)), bind_e (isUpC_e (by omega) dg)]
              by_cases u : dg k = -1
              · rw [if_pos u, if_pos rfl, bnd_e, nI_1, if_pos u]
              · rw [if_neg u, if_neg (show ¬ (1 : Int32) = 0 by decide), bnd_e, bnd_e, nI_1, nI_1, if_neg u]
          have e2 : itr (fun z => fX12_count_l71b N 0 (nI n) 1 now1 z.1 z.2) N ((0 : Int32), (0 : Int32)) = some (nI (cU dg T)) := by
            rw [show (((0 : Int32), (0 : Int32)) : Int32 × Int32) = (fun k => (nI (cU dg k), nI k)) 0 from rfl]
            refine itr_0 (fun k => (nI (cU dg k), nI k)) T (by omega) ?_ (fun k hk => ?_)
            · show fX12_count_l71b N 0 (nI n) 1 now1 (nI (cU dg T)) (nI T) = _
              unfold fX12_count_l71b
              rw [bind_e (things_e n1), if_pos (nI_le (Nat.le_refl T) (by omega))]
            · show fX12_count_l71b N 0 (nI n) 1 now1 (nI (cU dg k)) (nI k) = some (.inl (nI (if dg k = -1 then cU dg k else cU dg k + 1), nI (k + 1)))
              unfold fX12_count_l71b
              rw [bind_e (things_e n1), if_neg (nI_ge hk (by omega)), bind_e (isUpM_e (by omega) now1), ← (hs k (by omega)).1]
              by_cases u : dg k = -1
              · rw [if_pos u, if_pos rfl, bnd_e, nI_1, if_pos u]
              · rw [if_neg u, if_neg (show ¬ (1 : Int32) = 0 by decide), bnd_e, bnd_e, nI_1, nI_1, if_neg u]
          refine ⟨nI (cU dg T), ?_, ?_⟩
          · rw [if_pos c3, bind_e e1]
          · rw [if_pos c3]
            show (itr (fun z => fX12_count_l71b N 0 (nI n) 1 now1 z.1 z.2) N ((0 : Int32), (0 : Int32))).bind _ = _
            rw [bind_e e2]
        · rw [if_neg c3, if_neg c3]
          by_cases c4 : x = 4
          · refine ⟨nI A, ?_, ?_⟩
            · rw [if_pos c4]
            · rw [if_pos c4, gdi_e (i := 3) (n := 380) 3 rfl (by decide) (by decide), show (1, now1).2 ((3 : Int32).toNatClampNeg) = nI A from n3]
          · rw [if_neg c4, if_neg c4]
            by_cases c5 : x = 5
            · refine ⟨nI n, ?_, ?_⟩
              · rw [if_pos c5]
              · rw [if_pos c5]
            · refine ⟨-1, ?_, ?_⟩
              · rw [if_neg c5]
              · rw [if_neg c5]
/-- the latest SHORTEST, in both -/
def IO (al : Int32) (an : Nat → Int32) (sm : Int32) (sr : Nat → Int32) : Prop := ∃ n, n ≤ 7 ∧ al = nI n ∧ sm = nI n ∧ ∀ k, k < n → an k = sr k
theorem p_orderAt {al sm th : Int32} {an sr : Nat → Int32} (h : IO al an sm sr) (x : Int32) : ∃ r : Int32, fX11_orderAt al an x = some r ∧ fX12_orderAt th sm sr x = some (0, r) := by
  obtain ⟨n, hn, rfl, rfl, hk⟩ := h
  unfold fX11_orderAt fX12_orderAt
  rcases in_cases x (n := n) (by omega) with (h0 | ⟨h0, h1⟩) | ⟨k, hk2, rfl⟩
  · exact ⟨-1, by rw [if_pos h0], by rw [if_pos h0]⟩
  · exact ⟨-1, by rw [if_neg h0, if_pos h1], by rw [if_neg h0, if_pos h1]⟩
  · refine ⟨an k, ?_, ?_⟩
    · rw [if_neg (nI_pos (by omega)), if_neg (nI_ge hk2 (by omega)), gdi_nI (by omega) (by decide), nI_clamp (by omega)]
    · rw [if_neg (nI_pos (by omega)), if_neg (nI_ge hk2 (by omega)), gdi_nI (by omega) (by decide), nI_clamp (by omega), hk k hk2]
/-- the latest FIT, in both -/
def IL (an : Nat → Int32) (fm : Int32) (ft : Nat → Int32) : Prop := ∃ n, n ≤ 16 ∧ fm = nI n ∧ ∀ k, k < 16 → an k = if k < n then ft k else -1
theorem p_fitOf {fm th : Int32} {an ft : Nat → Int32} (h : IL an fm ft) (x : Int32) : ∃ r : Int32, fX11_fitOf an x = some r ∧ fX12_fitOf th fm ft x = some (0, r) := by
  obtain ⟨n, hn, rfl, hk⟩ := h
  unfold fX11_fitOf fX12_fitOf
  rcases in_cases x (n := 16) (by decide) with (h0 | ⟨h0, h1⟩) | ⟨k, hk2, rfl⟩
  · exact ⟨-1, by rw [if_pos h0], by rw [if_pos h0]⟩
  · refine ⟨-1, by rw [if_neg h0, if_pos (show (16 : Int32) ≤ x from h1)], ?_⟩
    obtain ⟨j, hj, rfl⟩ := nI_of h0
    have : 16 ≤ j := (nI_leI (by decide) hj).mp h1
    rw [if_neg h0, if_pos (nI_le (by omega) hj)]
  · refine ⟨an k, ?_, ?_⟩
    · rw [if_neg (nI_pos (by omega)), if_neg (show ¬ (16 : Int32) ≤ nI k from nI_ge (b := 16) hk2 (by decide)), gdi_nI (by omega) (by decide), nI_clamp (by omega)]
    · rw [if_neg (nI_pos (by omega)), hk k hk2]
      by_cases c : k < n
      · rw [if_neg (nI_ge c (by omega)), gdi_nI (by omega) (by decide), nI_clamp (by omega), if_pos c]
      · rw [if_pos (nI_le (by omega) (by omega)), if_neg c]

/-! MEETS -/
theorem hasDead_no {x : Int32} {T : Nat} {rF : Nat → Int32} (h : x < 0 ∨ (¬ x < 0 ∧ nI T ≤ x)) : fX11_hasDead (nI T) rF x = some 0 := by
  unfold fX11_hasDead
  rw [bind_e (has_no h), if_pos rfl]
theorem hasDead_yes {t T : Nat} (h : t < T) (hT : T ≤ 16) (rF : Nat → Int32) : fX11_hasDead (nI T) rF (nI t) = some (if rF (14 * t + 8) = -1 then 0 else 1) := by
  unfold fX11_hasDead
  rw [bind_e (has_yes h hT), if_neg (by decide), bind_e (isDeadC_e (by omega) rF)]
  by_cases e : rF (14 * t + 8) = -1
  · rw [if_pos e, if_pos rfl]
  · rw [if_neg e, if_neg (by decide)]
set_option maxHeartbeats 1000000 in
theorem p_meets {N T L P A : Nat} {rl rt rp ra rf b th : Int32} {rc gr : Nat → Int64} {rP rF now now1 dg vo lo sh he tn : Nat → Int32} (hN : 1802 < N) (h : IR1 T L P A rl rt rp ra rf rc rP rF now1 gr) (hF : IF1 T L rF) (hs : IST T A dg vo lo sh he tn rc rF now1) (hl : LY N b now now1) (x y v z : Int32) : ∃ r : Int32, fX11_meets N rt ra rF dg vo rc x y v z = some r ∧ fX12_meets N th b now gr x y v z = some (0, 1, now1, r) := by
  have h' := h
  have hW := IST_WS hs hF
  obtain ⟨⟨hT, hL, hP, hA⟩, ⟨rfl, rfl, rfl, rfl⟩, ⟨n0, n1, n2, n3, n4, hf0⟩, hp, hF2, hc⟩ := h
  unfold fX11_meets fX12_meets
  rw [bind_e hl]
  rcases th_cases x hT with h0 | ⟨t, ht, rfl⟩
  · refine ⟨-2, ?_, ?_⟩
    · rw [bind_e (hasDead_no h0), if_pos rfl]
    · rw [bind_e (isThing_no n1 h0), if_pos rfl]
  · rw [bind_e (hasDead_yes ht hT rF), bind_e (isThing_yes n1 ht hT), if_neg (show ¬ (1 : Int32) = 0 by decide), bind_e (isDeadM_e (by omega) now1), ← hF2 t ht 8 (by decide)]
    by_cases hd : rF (14 * t + 8) = -1
    · refine ⟨-2, ?_, ?_⟩
      · rw [if_pos hd, if_pos rfl]
      · rw [if_pos hd, if_pos rfl]
    · rw [if_neg hd, if_neg (show ¬ (1 : Int32) = 0 by decide), if_neg (show ¬ (1 : Int32) = 0 by decide)]
      rcases in_cases y (n := 3600) (by decide) with h1 | ⟨q, hq, rfl⟩
      · refine ⟨-2, ?_, ?_⟩
        · rw [bind_e (isDegree_no h1).1, if_pos rfl]
        · rw [bind_e (isDegree_no h1).2, if_pos rfl]
      · rw [bind_e (isDegree_yes hq).1, bind_e (isDegree_yes hq).2, if_neg (show ¬ (1 : Int32) = 0 by decide), if_neg (show ¬ (1 : Int32) = 0 by decide)]
        rcases in_cases v (n := 4) (by decide) with h2 | ⟨w, hw, rfl⟩
        · refine ⟨-2, ?_, ?_⟩
          · rw [bind_e (isVoice_no h2).1, if_pos rfl]
          · rw [bind_e (isVoice_no h2).2, if_pos rfl]
        · rw [bind_e (isVoice_yes hw).1, bind_e (isVoice_yes hw).2, if_neg (show ¬ (1 : Int32) = 0 by decide), if_neg (show ¬ (1 : Int32) = 0 by decide)]
          rcases in_cases z (n := 1000) (by decide) with h3 | ⟨d0, hd0, rfl⟩
          · refine ⟨-2, ?_, ?_⟩
            · rw [bind_e (isDay_no h3).1, if_pos rfl]
            · rw [bind_e (isDay_no h3).2, if_pos rfl]
          · rw [bind_e (isDay_yes hd0).1, bind_e (isDay_yes hd0).2, if_neg (show ¬ (1 : Int32) = 0 by decide), if_neg (show ¬ (1 : Int32) = 0 by decide)]
            have hh : ∀ day : Nat, ∃ g : Nat, day < 1000 → g < 3600 ∧ fX5_driftOf N rF (nI t) (nI q) (nI day) = some (nI g) ∧ fX12_driftOf N now1 (nI t) (nI q) (nI day) = some (nI g) := by
              intro day
              by_cases c : day < 1000
              · obtain ⟨d, e1, e2, e3⟩ := drift_e (N := N) h' hF ht hd hq c
                exact ⟨d, fun _ => ⟨e1, e2, e3⟩⟩
              · exact ⟨0, fun c2 => absurd c2 c⟩
            obtain ⟨sp, hsp⟩ := Classical.skolem.mp hh
            have sC : ∀ d, d < 1000 → fX11_meets_l37b N (nI T) (nI A) rF dg vo rc (nI t) (nI q) (nI w) (nI d) = some (if fa_first (isM A dg vo rF rc t (sp d) (nI w)) T < T then .inr (.inr (nI d)) else .inl (nI (d + 1))) := by
              intro d hdd
              obtain ⟨e1, e2, e3⟩ := hsp d hdd
              unfold fX11_meets_l37b
              rw [if_neg (show ¬ (1000 : Int32) ≤ nI d from nI_ge (b := 1000) hdd (by decide)), bind_e e2, bind_e (metC_e (by omega) hT hA hW ht e1)]
              by_cases c : fa_first (isM A dg vo rF rc t (sp d) (nI w)) T < T
              · rw [if_pos c, if_neg (show ¬ (1 : Int32) = 0 by decide), if_pos c]
              · rw [if_neg c, if_pos rfl, bnd_e, nI_1, if_neg c]
            have sM : ∀ d, d < 1000 → fX12_meets_l60b N 0 1 now1 gr (nI t) (nI q) (nI w) (nI d) = some (if fa_first (isM A dg vo rF rc t (sp d) (nI w)) T < T then .inr (.inr (0, 1, now1, nI d)) else .inl (nI (d + 1))) := by
              intro d hdd
              obtain ⟨e1, e2, e3⟩ := hsp d hdd
              unfold fX12_meets_l60b
              rw [if_neg (show ¬ (999 : Int32) < nI d from nI_nlt (a := 999) (by omega) (by decide)), bind_e e3, bind_e (metM_e (by omega) h' hs.1 hW ht hd e1)]
              by_cases c : fa_first (isM A dg vo rF rc t (sp d) (nI w)) T < T
              · rw [if_pos c, if_pos c]
                rfl
              · rw [if_neg c, if_neg c]
                rw [Sum.elim_inl, bnd_e, nI_1]
            by_cases hex : ∃ d, d0 ≤ d ∧ d < 1000 ∧ fa_first (isM A dg vo rF rc t (sp d) (nI w)) T < T
            · obtain ⟨d, ⟨g1, g2, g3⟩, hlow⟩ := pk_least _ hex
              have i1 : itr (fun z => fX11_meets_l37b N (nI T) (nI A) rF dg vo rc (nI t) (nI q) (nI w) z) N (nI d0) = some (.inr (nI d)) := by
                refine itr_to (fun k => nI k) d ?_ (d - d0) d0 N (by omega) (by omega) (fun k k1 k2 => ?_)
                · show fX11_meets_l37b N (nI T) (nI A) rF dg vo rc (nI t) (nI q) (nI w) (nI d) = _
                  rw [sC d g2, if_pos g3]
                · show fX11_meets_l37b N (nI T) (nI A) rF dg vo rc (nI t) (nI q) (nI w) (nI k) = _
                  rw [sC k (by omega), if_neg (fun c => hlow k k2 ⟨k1, by omega, c⟩)]
              have i2 : itr (fun z => fX12_meets_l60b N 0 1 now1 gr (nI t) (nI q) (nI w) z) N (nI d0) = some (.inr (0, 1, now1, nI d)) := by
                refine itr_to (fun k => nI k) d ?_ (d - d0) d0 N (by omega) (by omega) (fun k k1 k2 => ?_)
                · show fX12_meets_l60b N 0 1 now1 gr (nI t) (nI q) (nI w) (nI d) = _
                  rw [sM d g2, if_pos g3]
                · show fX12_meets_l60b N 0 1 now1 gr (nI t) (nI q) (nI w) (nI k) = _
                  rw [sM k (by omega), if_neg (fun c => hlow k k2 ⟨k1, by omega, c⟩)]
              refine ⟨nI d, ?_, ?_⟩
              · rw [bind_e i1]
                rfl
              · show (itr (fun z => fX12_meets_l60b N 0 1 now1 gr (nI t) (nI q) (nI w) z) N (nI d0)).bind _ = _
                rw [bind_e i2]
                rfl
            · have i1 : itr (fun z => fX11_meets_l37b N (nI T) (nI A) rF dg vo rc (nI t) (nI q) (nI w) z) N (nI d0) = some (.inl ()) := by
                refine itr_to (fun k => nI k) 1000 ?_ (1000 - d0) d0 N (by omega) (by omega) (fun k k1 k2 => ?_)
                · show fX11_meets_l37b N (nI T) (nI A) rF dg vo rc (nI t) (nI q) (nI w) (nI 1000) = _
                  unfold fX11_meets_l37b
                  rw [if_pos (show (1000 : Int32) ≤ nI 1000 by decide)]
                · show fX11_meets_l37b N (nI T) (nI A) rF dg vo rc (nI t) (nI q) (nI w) (nI k) = _
                  rw [sC k k2, if_neg (fun c => hex ⟨k, k1, k2, c⟩)]
              have i2 : itr (fun z => fX12_meets_l60b N 0 1 now1 gr (nI t) (nI q) (nI w) z) N (nI d0) = some (.inl ()) := by
                refine itr_to (fun k => nI k) 1000 ?_ (1000 - d0) d0 N (by omega) (by omega) (fun k k1 k2 => ?_)
                · show fX12_meets_l60b N 0 1 now1 gr (nI t) (nI q) (nI w) (nI 1000) = _
                  unfold fX12_meets_l60b
                  rw [if_pos (show (999 : Int32) < nI 1000 by decide)]
                · show fX12_meets_l60b N 0 1 now1 gr (nI t) (nI q) (nI w) (nI k) = _
                  rw [sM k k2, if_neg (fun c => hex ⟨k, k1, k2, c⟩)]
              refine ⟨-1, ?_, ?_⟩
              · rw [bind_e i1]
                rfl
              · show (itr (fun z => fX12_meets_l60b N 0 1 now1 gr (nI t) (nI q) (nI w) z) N (nI d0)).bind _ = _
                rw [bind_e i2]
                rfl

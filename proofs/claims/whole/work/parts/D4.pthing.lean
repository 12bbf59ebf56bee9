/-! thing and drift: both answer alike, or both refuse -/
theorem isFact_no {x : Int32} (h : x < 0 ∨ (¬ x < 0 ∧ nI 14 ≤ x)) : (x < 0 ∨ ¬ x < (14 : Int32)) ∧ fX12_isIn x 0 13 = some 0 := by
  refine ⟨?_, ?_⟩
  · rcases h with h | ⟨-, h⟩
    · exact Or.inl h
    · exact Or.inr (fun c => Int32.not_lt.mpr h c)
  · unfold fX12_isIn
    rcases h with h | ⟨h0, h⟩
    · rw [if_pos h]
    · rw [if_neg h0, if_pos (Int32.lt_of_lt_of_le (by decide) h)]
theorem isFact_yes {w : Nat} (h : w < 14) : ¬ nI w < 0 ∧ nI w < (14 : Int32) ∧ fX12_isIn (nI w) 0 13 = some 1 := by
  refine ⟨nI_pos (by omega), ?_, ?_⟩
  · exact (nI_ltI (a := w) (b := 14) (by omega) (by decide)).mpr h
  · unfold fX12_isIn
    rw [if_neg (nI_pos (by omega)), if_neg]
    intro c
    have : (13 : Nat) < w := (nI_ltI (a := 13) (b := w) (by decide) (by omega)).mp c
    omega
theorem p_thing {N T L P A : Nat} {rl rt rp ra rf b th : Int32} {rc gr : Nat → Int64} {rP rF now now1 : Nat → Int32} (h : IR1 T L P A rl rt rp ra rf rc rP rF now1 gr) (hl : LY N b now now1) (x y : Int32) : ∃ (o : Option Int32) (r : Int32), fX11_thing rt rF x y = some o ∧ fX12_thing N th b now x y = some (orO o, 1, now1, r) ∧ ∀ v, o = some v → r = v := by
  obtain ⟨⟨hT, hL, hP, hA⟩, ⟨rfl, rfl, rfl, rfl⟩, ⟨n0, n1, n2, n3, n4, hf0⟩, hp, hF2, hc⟩ := h
  have hj : ∀ t b n, fX12_thing_j22 N t b n = some (1, b, n, 0) := fun t b n => rfl
  unfold fX11_thing fX12_thing
  rw [bind_e hl]
  rcases th_cases x hT with h0 | ⟨t, ht, rfl⟩
  · refine ⟨none, 0, ?_, ?_, fun v e => by cases e⟩
    · rw [bind_e (has_no h0), if_pos rfl]
    · rw [bind_e (isThing_no n1 h0), if_pos rfl, hj]
      rfl
  · rw [bind_e (has_yes ht hT), bind_e (isThing_yes n1 ht hT), if_neg (show ¬ (1 : Int32) = 0 by decide), if_neg (show ¬ (1 : Int32) = 0 by decide)]
    rcases in_cases y (n := 14) (by decide) with h1 | ⟨w, hw, rfl⟩
    · obtain ⟨e1, e2⟩ := isFact_no h1
      refine ⟨none, 0, ?_, ?_, fun v e => by cases e⟩
      · rcases e1 with e1 | e1
        · rw [if_pos e1]
        · by_cases c : y < 0
          · rw [if_pos c]
          · rw [if_neg c, if_neg e1]
      · rw [bind_e e2, if_pos rfl, hj]
        rfl
    · obtain ⟨e1, e2, e3⟩ := isFact_yes hw
      refine ⟨some (rF (14 * t + w)), rF (14 * t + w), ?_, ?_, fun v e => Option.some.inj e⟩
      · rw [if_neg e1, if_pos e2, bind_e (told_e (by omega) hw rF)]
      · rw [bind_e e3, if_neg (show ¬ (1 : Int32) = 0 by decide), bind_e (ofM_e (by omega) hw now1), ← hF2 t ht w hw]
        rfl
theorem p_drift {N T L P A : Nat} {rl rt rp ra rf b th : Int32} {rc gr : Nat → Int64} {rP rF now now1 : Nat → Int32} (h : IR1 T L P A rl rt rp ra rf rc rP rF now1 gr) (hF : IF1 T L rF) (hl : LY N b now now1) (x y z : Int32) : ∃ (o : Option Int32) (r : Int32), fX11_drift N rt rF x y z = some o ∧ fX12_drift N th b now x y z = some (orO o, 1, now1, r) ∧ ∀ v, o = some v → r = v := by
  have h' := h
  obtain ⟨⟨hT, hL, hP, hA⟩, ⟨rfl, rfl, rfl, rfl⟩, ⟨n0, n1, n2, n3, n4, hf0⟩, hp, hF2, hc⟩ := h
  have hj : ∀ t b n, fX12_drift_j38 N t b n = some (1, b, n, 0) := fun t b n => rfl
  unfold fX11_drift fX12_drift
  rw [bind_e hl]
  rcases th_cases x hT with h0 | ⟨t, ht, rfl⟩
  · refine ⟨none, 0, ?_, ?_, fun v e => by cases e⟩
    · rw [bind_e (hasDead_no h0), if_pos rfl]
    · rw [bind_e (isThing_no n1 h0), if_pos rfl, hj]
      rfl
  · rw [bind_e (hasDead_yes ht hT rF), bind_e (isThing_yes n1 ht hT), if_neg (show ¬ (1 : Int32) = 0 by decide), bind_e (isDeadM_e (by omega) now1), ← hF2 t ht 8 (by decide)]
    by_cases hd : rF (14 * t + 8) = -1
    · refine ⟨none, 0, ?_, ?_, fun v e => by cases e⟩
      · rw [if_pos hd, if_pos rfl]
      · rw [if_pos hd, if_pos rfl, hj]
        rfl
    · rw [if_neg hd, if_neg (show ¬ (1 : Int32) = 0 by decide), if_neg (show ¬ (1 : Int32) = 0 by decide)]
      rcases in_cases y (n := 3600) (by decide) with h1 | ⟨q, hq, rfl⟩
      · refine ⟨none, 0, ?_, ?_, fun v e => by cases e⟩
        · rw [bind_e (isDegree_no h1).1, if_pos rfl]
        · rw [bind_e (isDegree_no h1).2, if_pos rfl, hj]
          rfl
      · rw [bind_e (isDegree_yes hq).1, bind_e (isDegree_yes hq).2, if_neg (show ¬ (1 : Int32) = 0 by decide), if_neg (show ¬ (1 : Int32) = 0 by decide)]
        rcases in_cases z (n := 1000) (by decide) with h3 | ⟨d0, hd0, rfl⟩
        · refine ⟨none, 0, ?_, ?_, fun v e => by cases e⟩
          · rw [bind_e (isDay_no h3).1, if_pos rfl]
          · rw [bind_e (isDay_no h3).2, if_pos rfl, hj]
            rfl
        · rw [bind_e (isDay_yes hd0).1, bind_e (isDay_yes hd0).2, if_neg (show ¬ (1 : Int32) = 0 by decide), if_neg (show ¬ (1 : Int32) = 0 by decide)]
          obtain ⟨d, -, e2, e3⟩ := drift_e (N := N) h' hF ht hd hq hd0
          refine ⟨some (nI d), nI d, ?_, ?_, fun v e => Option.some.inj e⟩
          · rw [bind_e e2]
          · rw [bind_e e3]
            rfl

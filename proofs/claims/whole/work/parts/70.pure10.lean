/-! papers: GOOD, RIGHT -/
def go (p b t day : Int32) : Int32 := if p = -1 then 0 else (if p ≤ day then (if day ≤ b then 1 else (if t = -1 then 0 else (if b < t then 0 else 1))) else 0)
theorem go_01 (p b t day : Int32) : go p b t day = 0 ∨ go p b t day = 1 := by
  unfold go
  repeat' split
  all_goals first | exact Or.inl rfl | exact Or.inr rfl
theorem goodC_e {t : Nat} (ht : t < 16) (rF : Nat → Int32) (day : Int32) : fX3_isGood rF (nI t) day = some (go (rF (14 * t + 10)) (rF (14 * t + 11)) (rF (14 * t + 12)) day) := by
  unfold fX3_isGood go fX3_wasThereBy
  rw [bind_e (told_x (w := 10) (c := 10) rfl ht (by decide) rF)]
  by_cases c1 : rF (14 * t + 10) = -1
  · rw [if_pos c1, if_pos c1]
  · rw [if_neg c1, if_neg c1]
    by_cases c2 : rF (14 * t + 10) ≤ day
    · rw [if_pos c2, if_pos c2, bind_e (told_x (w := 11) (c := 11) rfl ht (by decide) rF)]
      by_cases c3 : day ≤ rF (14 * t + 11)
      · rw [if_pos c3, if_pos c3]
      · rw [if_neg c3, if_neg c3, bind_e (told_x (w := 11) (c := 11) rfl ht (by decide) rF), bind_e (told_x (w := 12) (c := 12) rfl ht (by decide) rF)]
        by_cases c4 : rF (14 * t + 12) = -1
        · rw [if_pos c4, if_pos c4]
          rfl
        · rw [if_neg c4, if_neg c4]
          by_cases c5 : rF (14 * t + 11) < rF (14 * t + 12)
          · rw [if_pos c5, if_pos c5]
            rfl
          · rw [if_neg c5, if_neg c5]
            rfl
    · rw [if_neg c2, if_neg c2]
theorem goodM_e {t : Nat} (ht : t < 16) (now : Nat → Int32) (day : Int32) : fX12_isGood now (nI t) day = some (go (now (20 + 20 * t + 10)) (now (20 + 20 * t + 11)) (now (20 + 20 * t + 12)) day) := by
  unfold fX12_isGood go
  rw [bind_e (ofM_x (w := 10) (c := 10) rfl ht (by decide) now)]
  by_cases c1 : now (20 + 20 * t + 10) = -1
  · rw [if_pos c1, if_pos c1]
  · rw [if_neg c1, if_neg c1, bind_e (ofM_x (w := 10) (c := 10) rfl ht (by decide) now)]
    by_cases c2 : now (20 + 20 * t + 10) ≤ day
    · rw [if_pos c2, if_pos c2, bind_e (ofM_x (w := 11) (c := 11) rfl ht (by decide) now)]
      by_cases c3 : day ≤ now (20 + 20 * t + 11)
      · rw [if_pos c3, if_pos c3]
      · rw [if_neg c3, if_neg c3, bind_e (ofM_x (w := 12) (c := 12) rfl ht (by decide) now)]
        by_cases c4 : now (20 + 20 * t + 12) = -1
        · rw [if_pos c4, if_pos c4]
        · rw [if_neg c4, if_neg c4, bind_e (ofM_x (w := 12) (c := 12) rfl ht (by decide) now), bind_e (ofM_x (w := 11) (c := 11) rfl ht (by decide) now)]
          by_cases c5 : now (20 + 20 * t + 11) < now (20 + 20 * t + 12)
          · rw [if_pos c5, if_pos c5]
          · rw [if_neg c5, if_neg c5]
    · rw [if_neg c2, if_neg c2]
theorem isDay_no {x : Int32} (h : x < 0 ∨ (¬ x < 0 ∧ nI 1000 ≤ x)) : fX11_isDay x = some 0 ∧ fX12_isDay x = some 0 := by
  unfold fX11_isDay fX12_isDay fX12_isIn
  rcases h with h | ⟨h0, h⟩
  · rw [if_pos h, if_pos h]
    exact ⟨rfl, rfl⟩
  · rw [if_neg h0, if_neg h0, if_pos (show (1000 : Int32) ≤ x from h), if_pos]
    · exact ⟨rfl, rfl⟩
    · have h1 : (999 : Int32) < nI 1000 := by decide
      exact fa_trans h1 h
theorem isDay_yes {d : Nat} (h : d < 1000) : fX11_isDay (nI d) = some 1 ∧ fX12_isDay (nI d) = some 1 := by
  unfold fX11_isDay fX12_isDay fX12_isIn
  rw [if_neg (nI_pos (by omega)), if_neg (nI_pos (by omega)), if_neg (show ¬ (1000 : Int32) ≤ nI d from nI_ge (b := 1000) h (by decide)), if_neg (show ¬ (999 : Int32) < nI d from nI_nlt (a := 999) (by omega) (by decide))]
  exact ⟨rfl, rfl⟩
theorem p_good {N T L P A : Nat} {rl rt rp ra rf b th : Int32} {rc gr : Nat → Int64} {rP rF now now1 : Nat → Int32} (h : IR1 T L P A rl rt rp ra rf rc rP rF now1 gr) (hl : LY N b now now1) (x y : Int32) : ∃ r : Int32, fX11_good rt rF x y = some r ∧ fX12_good N th b now x y = some (0, 1, now1, r) := by
  obtain ⟨⟨hT, hL, hP, hA⟩, ⟨rfl, rfl, rfl, rfl⟩, ⟨n0, n1, n2, n3, n4, hf0⟩, hp, hF2, hc⟩ := h
  unfold fX11_good fX12_good
  rw [bind_e hl]
  rcases th_cases x hT with h0 | ⟨t, ht, rfl⟩
  · refine ⟨-1, ?_, ?_⟩
    · rw [bind_e (has_no h0), if_pos rfl]
    · rw [bind_e (isThing_no n1 h0), if_pos rfl]
  · rw [bind_e (has_yes ht hT), bind_e (isThing_yes n1 ht hT), if_neg (show ¬ (1 : Int32) = 0 by decide), if_neg (show ¬ (1 : Int32) = 0 by decide)]
    rcases in_cases y (n := 1000) (by decide) with h1 | ⟨d, hd, rfl⟩
    · refine ⟨-1, ?_, ?_⟩
      · rw [bind_e (isDay_no h1).1, if_pos rfl]
      · rw [bind_e (isDay_no h1).2, if_pos rfl]
    · rw [bind_e (isDay_yes hd).1, bind_e (isDay_yes hd).2, if_neg (show ¬ (1 : Int32) = 0 by decide), if_neg (show ¬ (1 : Int32) = 0 by decide), bind_e (goodC_e (by omega) rF (nI d)), bind_e (goodM_e (by omega) now1 (nI d)), ← hF2 t ht 10 (by decide), ← hF2 t ht 11 (by decide), ← hF2 t ht 12 (by decide)]
      rcases go_01 (rF (14 * t + 10)) (rF (14 * t + 11)) (rF (14 * t + 12)) (nI d) with e | e
      · refine ⟨0, ?_, ?_⟩
        · rw [e, if_pos rfl]
        · rw [e, if_pos rfl]
      · refine ⟨1, ?_, ?_⟩
        · rw [e, if_neg (show ¬ (1 : Int32) = 0 by decide)]
        · rw [e, if_neg (show ¬ (1 : Int32) = 0 by decide)]
/-- the day by which one has its RIGHT, if it has one -/
theorem rank_e {T L P A t : Nat} {rl rt rp ra rf : Int32} {rc gr : Nat → Int64} {rP rF now : Nat → Int32} (h : IR1 T L P A rl rt rp ra rf rc rP rF now gr) (hF : IF1 T L rF) (ht : t < T) (day : Int32) : ∃ k : Option Nat, (∀ d, k = some d → d ≤ 999) ∧ fX3_rankOf rf rF (nI t) day = some (k.elim (-1) nI) ∧ fX12_rankOf now (nI t) day = some (k.elim 100000 nI) := by
  obtain ⟨⟨hT, hL, hP, hA⟩, -, ⟨n0, n1, n2, n3, n4, hf0⟩, hp, hF2, hc⟩ := h
  obtain ⟨-, -, -, -, -, -, -, -, -, h10, -⟩ := hF t ht
  unfold fX3_rankOf fX12_rankOf
  rw [gdi_e (i := 4) (n := 380) 4 rfl (by decide) (by decide), show now ((4 : Int32).toNatClampNeg) = rf from n4]
  rcases hf0 with rfl | rfl
  · rw [if_pos rfl, if_pos rfl, bind_e (goodC_e (by omega) rF day), bind_e (goodM_e (by omega) now day), ← hF2 t ht 10 (by decide), ← hF2 t ht 11 (by decide), ← hF2 t ht 12 (by decide)]
    by_cases c : go (rF (14 * t + 10)) (rF (14 * t + 11)) (rF (14 * t + 12)) day = 0
    · refine ⟨none, (fun d e => by cases e), ?_, ?_⟩
      · rw [if_pos c]
        rfl
      · rw [if_pos c]
        rfl
    · rcases h10 with ⟨e, -, -⟩ | ⟨d, q, hd, hq, e, -, -⟩
      · exact absurd (by unfold go; rw [if_pos e]) c
      · refine ⟨some d, (fun d' e' => by cases e'; omega), ?_, ?_⟩
        · rw [if_neg c, bind_e (told_x (w := 10) (c := 10) rfl (by omega) (by decide) rF), e]
          rfl
        · rw [if_neg c, bind_e (ofM_x (w := 10) (c := 10) rfl (by omega) (by decide) now), ← hF2 t ht 10 (by decide), e]
          rfl
  · unfold fX3_wasThereBy
    rw [if_neg (show ¬ (1 : Int32) = 0 by decide), if_neg (show ¬ (1 : Int32) = 0 by decide), bind_e (told_x (w := 12) (c := 12) rfl (by omega) (by decide) rF), bind_e (ofM_x (w := 12) (c := 12) rfl (by omega) (by decide) now), ← hF2 t ht 12 (by decide)]
    by_cases c : rF (14 * t + 12) = -1
    · refine ⟨none, (fun d e => by cases e), ?_, ?_⟩
      · rw [if_pos c]
        rfl
      · rw [if_pos c]
        rfl
    · rw [if_neg c, if_neg c, bind_e (ofM_x (w := 12) (c := 12) rfl (by omega) (by decide) now), ← hF2 t ht 12 (by decide)]
      by_cases c2 : day < rF (14 * t + 12)
      · refine ⟨none, (fun d e => by cases e), ?_, ?_⟩
        · rw [if_pos c2]
          rfl
        · rw [if_pos c2]
          rfl
      · rcases h10 with ⟨-, -, e⟩ | ⟨d, q, hd, hq, -, -, e | ⟨z, hz, e⟩⟩
        · exact absurd e c
        · exact absurd e c
        · refine ⟨some z, (fun d' e' => by cases e'; omega), ?_, ?_⟩
          · rw [if_neg c2, bind_e rfl, if_neg (show ¬ (1 : Int32) = 0 by decide), bind_e (told_x (w := 12) (c := 12) rfl (by omega) (by decide) rF), e]
            rfl
          · rw [if_neg c2, bind_e (ofM_x (w := 12) (c := 12) rfl (by omega) (by decide) now), ← hF2 t ht 12 (by decide), e]
            rfl
set_option maxHeartbeats 1000000 in
theorem right_e {N T L P A a b : Nat} {rl rt rp ra rf : Int32} {rc gr : Nat → Int64} {rP rF now : Nat → Int32} (hN : 1802 < N) (h : IR1 T L P A rl rt rp ra rf rc rP rF now gr) (hF : IF1 T L rF) (ha : a < T) (hb : b < T) (day : Int32) : ∃ r : Int32, fX3_rightOf N ra rf rc rF (nI a) (nI b) day = some r ∧ fX12_rightOf N now gr (nI a) (nI b) day = some r := by
  obtain ⟨ka, hka, ca, ma⟩ := rank_e h hF ha day
  obtain ⟨kb, hkb, cb, mb⟩ := rank_e h hF hb day
  unfold fX3_rightOf fX12_rightOf
  rw [h.2.1.2.2.2, bind_e (needC_e h.1.1 h.1.2.2.2 hF ha hb), bind_e ma, bind_e mb, bind_e (needM_e hN h hF ha hb)]
  by_cases c : nd A rF rc a b = 0
  · refine ⟨0, ?_, ?_⟩
    · rw [if_pos c]
    · rw [if_pos c]
  · rw [if_neg c, if_neg c, bind_e ca, bind_e cb]
    unfold fX3_rightOf_j44 fX12_rightOf_j43
    cases ka with
    | none =>
      cases kb with
      | none => exact ⟨0, rfl, rfl⟩
      | some db =>
        have hd := hkb db rfl
        refine ⟨-1, ?_, ?_⟩
        · show (if (-1 : Int32) = -1 then (if nI db = -1 then some 0 else (if (-1 : Int32) = -1 then (if nI db = -1 then some 1 else some (-1)) else _)) else _) = _
          rw [if_pos rfl, if_neg (nI_m1 (by omega)), if_pos rfl, if_neg (nI_m1 (by omega))]
        · show (if (100000 : Int32) = 100000 then (if nI db = 100000 then some 0 else (if (100000 : Int32) < nI db then some 1 else _)) else _) = _
          rw [if_pos rfl, if_neg (fun e => by have := (nI_eq (a := db) (b := 100000) (by omega) (by decide)).mp e; omega), if_neg (show ¬ (100000 : Int32) < nI db from nI_nlt (a := 100000) (by omega) (by decide)), if_neg (fun e => by have := (nI_eq (a := 100000) (b := db) (by decide) (by omega)).mp e; omega)]
    | some da =>
      have hd := hka da rfl
      cases kb with
      | none =>
        refine ⟨1, ?_, ?_⟩
        · show (if nI da = -1 then _ else (if nI da = -1 then _ else (if (-1 : Int32) = -1 then (if (-1 : Int32) = -1 then some 1 else _) else _))) = _
          rw [if_neg (nI_m1 (by omega)), if_neg (nI_m1 (by omega)), if_pos rfl, if_pos rfl]
        · show (if nI da = 100000 then _ else (if nI da < (100000 : Int32) then some 1 else _)) = _
          rw [if_neg (fun e => by have := (nI_eq (a := da) (b := 100000) (by omega) (by decide)).mp e; omega), if_pos (show nI da < (100000 : Int32) from nI_lt (b := 100000) (by omega) (by decide))]
      | some db =>
        have hd2 := hkb db rfl
        have e1 : ¬ nI da = 100000 := fun e => by
          have := (nI_eq (a := da) (b := 100000) (by omega) (by decide)).mp e
          omega
        show ∃ r : Int32, (if nI da = -1 then _ else (if nI da = -1 then _ else (if nI db = -1 then _ else (if nI da = nI db then (if nI b ≤ nI a then some (-1) else some 1) else (if nI db ≤ nI da then some (-1) else some 1))))) = some r ∧ (if nI da = 100000 then _ else (if nI da < nI db then some 1 else (if nI da = nI db then (if nI b ≤ nI a then some (-1) else some 1) else some (-1)))) = some r
        rw [if_neg (nI_m1 (by omega)), if_neg (nI_m1 (by omega)), if_neg (nI_m1 (by omega)), if_neg e1]
        rcases Nat.lt_trichotomy da db with q | q | q
        · rw [if_neg (fun e => by have := (nI_eq (by omega) (by omega)).mp e; omega), if_neg (nI_ge q (by omega)), if_pos (nI_lt q (by omega))]
          exact ⟨1, rfl, rfl⟩
        · subst q
          rw [if_pos rfl, if_neg (nI_nlt (Nat.le_refl _) (by omega)), if_pos rfl]
          by_cases z : nI b ≤ nI a
          · rw [if_pos z]
            exact ⟨-1, rfl, rfl⟩
          · rw [if_neg z]
            exact ⟨1, rfl, rfl⟩
        · rw [if_neg (fun e => by have := (nI_eq (by omega) (by omega)).mp e; omega), if_pos (nI_le (by omega) (by omega)), if_neg (nI_nlt (by omega) (by omega)), if_neg (fun e => by have := (nI_eq (by omega) (by omega)).mp e; omega)]
          exact ⟨-1, rfl, rfl⟩
theorem p_right {N T L P A : Nat} {rl rt rp ra rf b th : Int32} {rc gr : Nat → Int64} {rP rF now now1 : Nat → Int32} (hN : 1802 < N) (h : IR1 T L P A rl rt rp ra rf rc rP rF now1 gr) (hF : IF1 T L rF) (hl : LY N b now now1) (x y z : Int32) : ∃ r : Int32, fX11_right N rt ra rf rc rF x y z = some r ∧ fX12_right N th b now gr x y z = some (0, 1, now1, r) := by
  have h' := h
  obtain ⟨⟨hT, hL, hP, hA⟩, ⟨rfl, rfl, rfl, rfl⟩, ⟨n0, n1, n2, n3, n4, hf0⟩, hp, hF2, hc⟩ := h
  unfold fX11_right fX12_right
  rw [bind_e hl]
  rcases th_cases x hT with h0 | ⟨s, hs, rfl⟩
  · refine ⟨-2, ?_, ?_⟩
    · by_cases c : x = y
      · rw [if_pos c]
      · rw [if_neg c, bind_e (has_no h0), if_pos rfl]
    · rw [bind_e (isThing_no n1 h0), if_pos rfl]
  · rcases th_cases y hT with h0 | ⟨t, ht, rfl⟩
    · refine ⟨-2, ?_, ?_⟩
      · by_cases c : nI s = y
        · rw [if_pos c]
        · rw [if_neg c, bind_e (has_yes hs hT), if_neg (show ¬ (1 : Int32) = 0 by decide), bind_e (has_no h0), if_pos rfl]
      · rw [bind_e (isThing_yes n1 hs hT), if_neg (show ¬ (1 : Int32) = 0 by decide), bind_e (isThing_no n1 h0), if_pos rfl]
    · rw [bind_e (isThing_yes n1 hs hT), if_neg (show ¬ (1 : Int32) = 0 by decide), bind_e (isThing_yes n1 ht hT), if_neg (show ¬ (1 : Int32) = 0 by decide)]
      by_cases c : nI s = nI t
      · refine ⟨-2, ?_, ?_⟩
        · rw [if_pos c]
        · rw [if_pos c]
      · rw [if_neg c, if_neg c, bind_e (has_yes hs hT), if_neg (show ¬ (1 : Int32) = 0 by decide), bind_e (has_yes ht hT), if_neg (show ¬ (1 : Int32) = 0 by decide)]
        rcases in_cases z (n := 1000) (by decide) with h1 | ⟨d, hd, rfl⟩
        · refine ⟨-2, ?_, ?_⟩
          · rw [bind_e (isDay_no h1).1, if_pos rfl]
          · rw [bind_e (isDay_no h1).2, if_pos rfl]
        · rw [bind_e (isDay_yes hd).1, bind_e (isDay_yes hd).2, if_neg (show ¬ (1 : Int32) = 0 by decide), if_neg (show ¬ (1 : Int32) = 0 by decide)]
          obtain ⟨r, e1, e2⟩ := right_e hN h' hF hs ht (nI d)
          exact ⟨r, by rw [bind_e e1], by rw [bind_e e2]⟩

/-! put, take, stand, lift; what is heard -/
theorem put_e {N T A t : Nat} {d v : Int32} {dg vo lo sh he tn : Nat → Int32} {rc : Nat → Int64} (hN : 16 < N) (hT : T ≤ 16) (hA : A ≤ 300) (ht : t < T) (h : WS T (upd dg t d) lo sh) : fX8_put N dg vo (nI T) (nI A) rc he lo sh tn (nI t) d v = some (upd dg t d, upd vo t v, mH 1 (upd dg t d) (upd vo t v) lo sh rc t he T, mN 1 A (upd dg t d) (upd vo t v) rc t tn T) := by
  unfold fX8_put
  rw [gdi_nI (by omega) (by decide), nI_clamp (by omega), bnd_e, gdi_nI (by omega) (by decide), bnd_e, bind_e (meetAll_e hN hT hA ht h)]
theorem take_e {N T A t : Nat} {dg vo lo sh he tn : Nat → Int32} {rc : Nat → Int64} (hN : 16 < N) (hT : T ≤ 16) (hA : A ≤ 300) (ht : t < T) (h : WS T dg lo sh) : fX8_take N (nI T) (nI A) dg vo rc he lo sh tn (nI t) = some (upd dg t (-1), upd vo t (-1), mH (-1) dg vo lo sh rc t he T, mN (-1) A dg vo rc t tn T) := by
  unfold fX8_take
  rw [bind_e (meetAll_e hN hT hA ht h), gdi_nI (by omega) (by decide), nI_clamp (by omega), bnd_e, gdi_nI (by omega) (by decide), bnd_e]
theorem WS_upd {T t : Nat} {dg lo sh : Nat → Int32} {d : Int32} (h : WS T dg lo sh) (hd : d = -1 ∨ ∃ q, q < 3600 ∧ d = nI q) : WS T (upd dg t d) lo sh := by
  refine ⟨fun j hj => ?_, h.2⟩
  by_cases e : j = t
  · subst e
    rw [pk_us]
    exact hd
  · rw [pk_un e]
    exact h.1 j hj
theorem putM_e {t : Nat} (ht : t < 16) (now : Nat → Int32) (d v : Int32) : fX12_put now (nI t) d v = some (upd (upd now (340 + 2 * t) d) (341 + 2 * t) v) := by
  unfold fX12_put
  rw [i341, i340, gdi_nI (by omega) (by decide), nI_clamp (by omega), bnd_e, gdi_nI (by omega) (by decide), nI_clamp (by omega), bnd_e]
theorem IR1_keep {T L P A : Nat} {rl rt rp ra rf : Int32} {rc gr : Nat → Int64} {rP rF now now2 : Nat → Int32} (h : IR1 T L P A rl rt rp ra rf rc rP rF now gr) (hk : ∀ j, j < 340 → now2 j = now j) : IR1 T L P A rl rt rp ra rf rc rP rF now2 gr := by
  obtain ⟨⟨hT, hL, hP, hA⟩, he, ⟨n0, n1, n2, n3, n4, hf⟩, hp, hF, hc⟩ := h
  refine ⟨⟨hT, hL, hP, hA⟩, he, ⟨by rw [hk 0 (by omega)]; exact n0, by rw [hk 1 (by omega)]; exact n1, by rw [hk 2 (by omega)]; exact n2, by rw [hk 3 (by omega)]; exact n3, by rw [hk 4 (by omega)]; exact n4, hf⟩, fun k h1 => ?_, fun t h1 w h2 => ?_, hc⟩
  · rw [hk (5 + k) (by omega)]
    exact hp k h1
  · rw [hk (20 + 20 * t + w) (by omega)]
    exact hF t h1 w h2
/-- all that ties the STANDING of both: who, where, and what is kept along -/
def IST (T A : Nat) (dg vo lo sh he tn : Nat → Int32) (rc : Nat → Int64) (rF now : Nat → Int32) : Prop :=
  IS1 T dg vo now ∧ (∀ t, t < T → lo t = rF (14 * t + 4) ∧ sh t = rF (14 * t + 5)) ∧ IH T A dg vo lo sh he tn rc
theorem IST_WS {T L A : Nat} {dg vo lo sh he tn rF now : Nat → Int32} {rc : Nat → Int64} (h : IST T A dg vo lo sh he tn rc rF now) (hF : IF1 T L rF) : WS T dg lo sh := by
  refine ⟨fun t ht => ?_, fun t ht => ?_⟩
  · rcases (h.1 t ht).2 with e | ⟨-, e, -⟩
    · exact Or.inl e
    · exact Or.inr e
  · obtain ⟨-, -, -, -, ⟨d, -, hd, e⟩, ⟨q, -, hq, e2⟩, -⟩ := hF t ht
    exact ⟨⟨d, hd, (h.2.1 t ht).1.trans e⟩, q, hq, (h.2.1 t ht).2.trans e2⟩
theorem IS1_put {T t : Nat} {dg vo now : Nat → Int32} {d v : Int32} (h : IS1 T dg vo now) (ht : t < T) (hT : T ≤ 16) (hd : ∃ q, q < 3600 ∧ d = nI q) (hv : ∃ q, q < 4 ∧ v = nI q) : IS1 T (upd dg t d) (upd vo t v) (upd (upd now (340 + 2 * t) d) (341 + 2 * t) v) := by
  intro j hj
  by_cases e : j = t
  · subst e
    obtain ⟨q, hq, e1⟩ := hv
    rw [pk_us, pk_us, pk_us, pk_un (by omega), pk_us]
    exact ⟨rfl, Or.inr ⟨ht, hd, q, hq, e1, e1⟩⟩
  · rw [pk_un e, pk_un e, pk_un (show 341 + 2 * j ≠ 341 + 2 * t by omega), pk_un (show 341 + 2 * j ≠ 340 + 2 * t by omega), pk_un (show 340 + 2 * j ≠ 341 + 2 * t by omega), pk_un (show 340 + 2 * j ≠ 340 + 2 * t by omega)]
    exact h j hj
theorem IS1_take {T t : Nat} {dg vo now : Nat → Int32} {v w : Int32} (h : IS1 T dg vo now) (hT : t < 16) : IS1 T (upd dg t (-1)) (upd vo t v) (upd (upd now (340 + 2 * t) (-1)) (341 + 2 * t) w) := by
  intro j hj
  by_cases e : j = t
  · subst e
    rw [pk_us, pk_un (show 340 + 2 * j ≠ 341 + 2 * j by omega), pk_us]
    exact ⟨rfl, Or.inl rfl⟩
  · rw [pk_un e, pk_un e, pk_un (show 341 + 2 * j ≠ 341 + 2 * t by omega), pk_un (show 341 + 2 * j ≠ 340 + 2 * t by omega), pk_un (show 340 + 2 * j ≠ 341 + 2 * t by omega), pk_un (show 340 + 2 * j ≠ 340 + 2 * t by omega)]
    exact h j hj
theorem IST_take {T A t : Nat} {dg vo lo sh he tn rF now : Nat → Int32} {rc : Nat → Int64} {w : Int32} (h : IST T A dg vo lo sh he tn rc rF now) (ht : t < T) (hT : T ≤ 16) : IST T A (upd dg t (-1)) (upd vo t (-1)) lo sh (mH (-1) dg vo lo sh rc t he T) (mN (-1) A dg vo rc t tn T) rc rF (upd (upd now (340 + 2 * t) (-1)) (341 + 2 * t) w) :=
  ⟨IS1_take h.1 (by omega), h.2.1, IH_take ht hT h.2.2⟩
theorem IST_put {T A t : Nat} {dg vo lo sh he tn rF now : Nat → Int32} {rc : Nat → Int64} {d v : Int32} (h : IST T A dg vo lo sh he tn rc rF now) (ht : t < T) (hT : T ≤ 16) (hu : dg t = -1) (hd : ∃ q, q < 3600 ∧ d = nI q) (hv : ∃ q, q < 4 ∧ v = nI q) : IST T A (upd dg t d) (upd vo t v) lo sh (mH 1 (upd dg t d) (upd vo t v) lo sh rc t he T) (mN 1 A (upd dg t d) (upd vo t v) rc t tn T) rc rF (upd (upd now (340 + 2 * t) d) (341 + 2 * t) v) :=
  ⟨IS1_put h.1 ht hT hd hv, h.2.1, IH_put ht hT hu h.2.2⟩
theorem keep340 {now : Nat → Int32} {t : Nat} {d v : Int32} : ∀ j, j < 340 → upd (upd now (340 + 2 * t) d) (341 + 2 * t) v j = now j := fun j hj => by
  rw [pk_un (by omega), pk_un (by omega)]
/-- a number of a bounded kind: none, or one of them -/
theorem in_cases (x : Int32) {n : Nat} (hn : n < 2 ^ 31) : (x < 0 ∨ (¬ x < 0 ∧ nI n ≤ x)) ∨ ∃ t, t < n ∧ x = nI t := by
  rcases pk_ix x (n := n) hn with h | h | h
  · exact Or.inl (Or.inl h)
  · by_cases h0 : x < 0
    · exact Or.inl (Or.inl h0)
    · exact Or.inl (Or.inr ⟨h0, h⟩)
  · exact Or.inr h
theorem isDegree_no {x : Int32} (h : x < 0 ∨ (¬ x < 0 ∧ nI 3600 ≤ x)) : fX11_isDegree x = some 0 ∧ fX12_isIn x 0 3599 = some 0 := by
  unfold fX11_isDegree fX12_isIn
  rcases h with h | ⟨h0, h⟩
  · rw [if_pos h, if_pos h]
    exact ⟨rfl, rfl⟩
  · rw [if_neg h0, if_neg h0, if_pos (show (3600 : Int32) ≤ x from h), if_pos]
    · exact ⟨rfl, rfl⟩
    · have h1 : (3599 : Int32) < nI 3600 := by decide
      exact fa_trans h1 h
theorem isDegree_yes {d : Nat} (h : d < 3600) : fX11_isDegree (nI d) = some 1 ∧ fX12_isIn (nI d) 0 3599 = some 1 := by
  unfold fX11_isDegree fX12_isIn
  rw [if_neg (nI_pos (by omega)), if_neg (nI_pos (by omega)), if_neg (show ¬ (3600 : Int32) ≤ nI d from nI_ge (b := 3600) h (by decide)), if_neg (show ¬ (3599 : Int32) < nI d from nI_nlt (a := 3599) (by omega) (by decide))]
  exact ⟨rfl, rfl⟩
theorem isVoice_no {x : Int32} (h : x < 0 ∨ (¬ x < 0 ∧ nI 4 ≤ x)) : fX11_isVoice x = some 0 ∧ fX12_isIn x 0 3 = some 0 := by
  unfold fX11_isVoice fX12_isIn
  rcases h with h | ⟨h0, h⟩
  · rw [if_pos h, if_pos h]
    exact ⟨rfl, rfl⟩
  · rw [if_neg h0, if_neg h0, if_pos (show (4 : Int32) ≤ x from h), if_pos]
    · exact ⟨rfl, rfl⟩
    · have h1 : (3 : Int32) < nI 4 := by decide
      exact fa_trans h1 h
theorem isVoice_yes {d : Nat} (h : d < 4) : fX11_isVoice (nI d) = some 1 ∧ fX12_isIn (nI d) 0 3 = some 1 := by
  unfold fX11_isVoice fX12_isIn
  rw [if_neg (nI_pos (by omega)), if_neg (nI_pos (by omega)), if_neg (show ¬ (4 : Int32) ≤ nI d from nI_ge (b := 4) h (by decide)), if_neg (show ¬ (3 : Int32) < nI d from nI_nlt (a := 3) (by omega) (by decide))]
  exact ⟨rfl, rfl⟩
set_option maxHeartbeats 1000000 in
theorem p_stand {N T L P A : Nat} {rl rt rp ra rf b th : Int32} {rc gr : Nat → Int64} {rP rF now now1 dg vo lo sh he tn : Nat → Int32} (hN : 16 < N) (h : IR1 T L P A rl rt rp ra rf rc rP rF now1 gr) (hF : IF1 T L rF) (hs : IST T A dg vo lo sh he tn rc rF now1) (hl : LY N b now now1) (x d v : Int32) : ∃ (dg2 vo2 he2 tn2 now2 : Nat → Int32) (r : Int32), fX11_stand N rt ra dg vo rc he lo sh tn x d v = some (dg2, vo2, he2, tn2, r) ∧ fX12_stand N th b now x d v = some (0, 1, now2, r) ∧ IR1 T L P A rl rt rp ra rf rc rP rF now2 gr ∧ IST T A dg2 vo2 lo sh he2 tn2 rc rF now2 := by
  have h' := h
  obtain ⟨⟨hT, hL, hP, hA⟩, ⟨rfl, rfl, rfl, rfl⟩, ⟨n0, n1, n2, n3, n4, hf⟩, hp, hF2, hc⟩ := h
  have hW := IST_WS hs hF
  unfold fX11_stand fX12_stand
  rw [bind_e hl]
  rcases th_cases x hT with h0 | ⟨t, ht, rfl⟩
  · refine ⟨dg, vo, he, tn, now1, 0, ?_, ?_, h', hs⟩
    · rw [bind_e (has_no h0), if_pos rfl]
    · rw [bind_e (isThing_no n1 h0), if_pos rfl]
  · rw [bind_e (has_yes ht hT), bind_e (isThing_yes n1 ht hT), if_neg (show ¬ (1 : Int32) = 0 by decide), if_neg (show ¬ (1 : Int32) = 0 by decide)]
    rcases in_cases d (n := 3600) (by decide) with h1 | ⟨q, hq, rfl⟩
    · refine ⟨dg, vo, he, tn, now1, 0, ?_, ?_, h', hs⟩
      · rw [bind_e (isDegree_no h1).1, if_pos rfl]
      · rw [bind_e (isDegree_no h1).2, if_pos rfl]
    · rw [bind_e (isDegree_yes hq).1, bind_e (isDegree_yes hq).2, if_neg (show ¬ (1 : Int32) = 0 by decide), if_neg (show ¬ (1 : Int32) = 0 by decide)]
      rcases in_cases v (n := 4) (by decide) with h2 | ⟨y, hy, rfl⟩
      · refine ⟨dg, vo, he, tn, now1, 0, ?_, ?_, h', hs⟩
        · rw [bind_e (isVoice_no h2).1, if_pos rfl]
        · rw [bind_e (isVoice_no h2).2, if_pos rfl]
      · rw [bind_e (isVoice_yes hy).1, bind_e (isVoice_yes hy).2, if_neg (show ¬ (1 : Int32) = 0 by decide), if_neg (show ¬ (1 : Int32) = 0 by decide), bind_e (putM_e (by omega) now1 (nI q) (nI y)), bind_e (isUpC_e (by omega) dg)]
        by_cases hu : dg t = -1
        · rw [if_pos hu, if_pos rfl]
          unfold fX11_stand_j46
          rw [bind_e (put_e hN hT hA ht (WS_upd hW (Or.inr ⟨q, hq, rfl⟩)))]
          exact ⟨_, _, _, _, _, 1, rfl, rfl, IR1_keep h' keep340, IST_put hs ht hT hu ⟨q, hq, rfl⟩ ⟨y, hy, rfl⟩⟩
        · rw [if_neg hu, if_neg (show ¬ (1 : Int32) = 0 by decide), bind_e (take_e hN hT hA ht hW)]
          unfold fX11_stand_j46
          have hs2 := IST_take (w := 0) hs ht hT
          have hW2 : WS T (upd dg t (-1)) lo sh := WS_upd hW (Or.inl rfl)
          rw [bind_e (put_e hN hT hA ht (WS_upd hW2 (Or.inr ⟨q, hq, rfl⟩)))]
          refine ⟨_, _, _, _, _, 1, rfl, rfl, IR1_keep h' keep340, ?_⟩
          have hs3 := IST_put hs2 ht hT pk_us ⟨q, hq, rfl⟩ ⟨y, hy, rfl⟩
          rw [show upd (upd (upd (upd now1 (340 + 2 * t) (-1)) (341 + 2 * t) 0) (340 + 2 * t) (nI q)) (341 + 2 * t) (nI y) = upd (upd now1 (340 + 2 * t) (nI q)) (341 + 2 * t) (nI y) from by
            rw [fa_upd_swap (upd now1 (340 + 2 * t) (-1)) (show 341 + 2 * t ≠ 340 + 2 * t by omega), fa_upd_twice, fa_upd_twice]] at hs3
          exact hs3
set_option maxHeartbeats 1000000 in
theorem p_lift {N T L P A : Nat} {rl rt rp ra rf b th : Int32} {rc gr : Nat → Int64} {rP rF now now1 dg vo lo sh he tn : Nat → Int32} (hN : 16 < N) (h : IR1 T L P A rl rt rp ra rf rc rP rF now1 gr) (hF : IF1 T L rF) (hs : IST T A dg vo lo sh he tn rc rF now1) (hl : LY N b now now1) (x : Int32) : ∃ (dg2 vo2 he2 tn2 now2 : Nat → Int32) (r : Int32), fX11_lift N rt ra dg vo rc he lo sh tn x = some (dg2, vo2, he2, tn2, r) ∧ fX12_lift N th b now x = some (0, 1, now2, r) ∧ IR1 T L P A rl rt rp ra rf rc rP rF now2 gr ∧ IST T A dg2 vo2 lo sh he2 tn2 rc rF now2 := by
  have h' := h
  obtain ⟨⟨hT, hL, hP, hA⟩, ⟨rfl, rfl, rfl, rfl⟩, ⟨n0, n1, n2, n3, n4, hf⟩, hp, hF2, hc⟩ := h
  have hW := IST_WS hs hF
  unfold fX11_lift fX12_lift
  rw [bind_e hl]
  rcases th_cases x hT with h0 | ⟨t, ht, rfl⟩
  · refine ⟨dg, vo, he, tn, now1, 0, ?_, ?_, h', hs⟩
    · rw [bind_e (hasUp_no h0), if_pos rfl]
    · rw [bind_e (isThing_no n1 h0), if_pos rfl]
  · rw [bind_e (hasUp_yes ht hT dg), bind_e (isThing_yes n1 ht hT), if_neg (show ¬ (1 : Int32) = 0 by decide), bind_e (isUpM_e (by omega) now1), ← (hs.1 t (by omega)).1]
    by_cases hu : dg t = -1
    · refine ⟨dg, vo, he, tn, now1, 0, ?_, ?_, h', hs⟩
      · rw [if_pos hu, if_pos rfl]
      · rw [if_pos hu, if_pos rfl]
    · rw [if_neg hu, if_neg (show ¬ (1 : Int32) = 0 by decide), if_neg (show ¬ (1 : Int32) = 0 by decide), bind_e (take_e hN hT hA ht hW), bind_e (putM_e (by omega) now1 (-1) 0)]
      exact ⟨_, _, _, _, _, 1, rfl, rfl, IR1_keep h' keep340, IST_take hs ht hT⟩
theorem p_stands {N T L P A : Nat} {rl rt rp ra rf b th : Int32} {rc gr : Nat → Int64} {rP rF now now1 dg vo : Nat → Int32} (h : IR1 T L P A rl rt rp ra rf rc rP rF now1 gr) (hs : IS1 T dg vo now1) (hl : LY N b now now1) (x w : Int32) : ∃ r : Int32, fX11_stands rt dg vo x w = some r ∧ fX12_stands N th b now x w = some (0, 1, now1, r) := by
  obtain ⟨⟨hT, hL, hP, hA⟩, ⟨rfl, rfl, rfl, rfl⟩, ⟨n0, n1, n2, n3, n4, hf⟩, hp, hF2, hc⟩ := h
  unfold fX11_stands fX12_stands
  rw [bind_e hl]
  rcases th_cases x hT with h0 | ⟨t, ht, rfl⟩
  · refine ⟨-1, ?_, ?_⟩
    · rw [bind_e (hasUp_no h0), if_pos rfl]
    · rw [bind_e (isThing_no n1 h0), if_pos rfl]
  · rw [bind_e (hasUp_yes ht hT dg), bind_e (isThing_yes n1 ht hT), if_neg (show ¬ (1 : Int32) = 0 by decide), bind_e (isUpM_e (by omega) now1), ← (hs t (by omega)).1]
    by_cases hu : dg t = -1
    · refine ⟨-1, ?_, ?_⟩
      · rw [if_pos hu, if_pos rfl]
      · rw [if_pos hu, if_pos rfl]
    · rw [if_neg hu, if_neg (show ¬ (1 : Int32) = 0 by decide), if_neg (show ¬ (1 : Int32) = 0 by decide)]
      rcases (hs t (by omega)).2 with e | ⟨-, -, y, hy, ev, en⟩
      · exact absurd e hu
      · by_cases w0 : w = 0
        · subst w0
          refine ⟨dg t, ?_, ?_⟩
          · rw [if_pos rfl, gdi_nI (by omega) (by decide), nI_clamp (by omega)]
          · rw [bind_e (show fX12_isIn 0 0 1 = some 1 from by decide), if_neg (show ¬ (1 : Int32) = 0 by decide), if_pos rfl, bind_e (at_e (by omega) now1), ← (hs t (by omega)).1]
        · rw [if_neg w0]
          by_cases w1 : w = 1
          · subst w1
            refine ⟨vo t, ?_, ?_⟩
            · rw [if_pos rfl, gdi_nI (by omega) (by decide), nI_clamp (by omega)]
            · rw [bind_e (show fX12_isIn 1 0 1 = some 1 from by decide), if_neg (show ¬ (1 : Int32) = 0 by decide), if_neg (show ¬ (1 : Int32) = 0 by decide), bind_e (voice_e (by omega) now1), ev, en]
          · refine ⟨-1, ?_, ?_⟩
            · rw [if_neg w1]
            · have e0 : fX12_isIn w 0 1 = some 0 := by
                rw [isIn_e, if_neg]
                intro q
                obtain ⟨k, hk, rfl⟩ := nI_of2 (M := 1) (n := 1) (by decide) (fun z => (fa_of_lt z).2.1 q.1) q.2
                have : k = 0 ∨ k = 1 := by omega
                rcases this with rfl | rfl
                · exact w0 rfl
                · exact w1 rfl
              rw [bind_e e0, if_pos rfl]

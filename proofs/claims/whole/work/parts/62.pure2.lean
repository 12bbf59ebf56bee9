/-! the RING and the STANDING of both, as they are tied -/
def IR1 (T L P A : Nat) (rl rt rp ra rf : Int32) (rc : Nat → Int64) (rP rF : Nat → Int32) (now : Nat → Int32) (gr : Nat → Int64) : Prop :=
  (T ≤ 16 ∧ L ≤ 8 ∧ P ≤ 6 ∧ A ≤ 300) ∧ (rt = nI T ∧ rl = nI L ∧ rp = nI P ∧ ra = nI A) ∧ (now 0 = nI L ∧ now 1 = nI T ∧ now 2 = nI P ∧ now 3 = nI A ∧ now 4 = rf ∧ (rf = 0 ∨ rf = 1)) ∧
  (∀ k, k < P → rP k = now (5 + k) ∧ ∃ d, d < 3600 ∧ rP k = nI d) ∧ (∀ t, t < T → ∀ w, w < 14 → rF (14 * t + w) = now (20 + 20 * t + w)) ∧ (∀ t, t < T → rc t = gr t)
/-- what is told of each THING lies in its bounds -/
def IF1 (T L : Nat) (rF : Nat → Int32) : Prop := ∀ t, t < T → (∃ d, d < L ∧ rF (14 * t + 0) = nI d) ∧ (∃ d, d < 3600 ∧ rF (14 * t + 1) = nI d) ∧ (∃ d, d < 3600 ∧ rF (14 * t + 2) = nI d) ∧ (∃ d, d < 16 ∧ rF (14 * t + 3) = nI d) ∧ (∃ d, 1 ≤ d ∧ d ≤ 999 ∧ rF (14 * t + 4) = nI d) ∧ (∃ d, 1 ≤ d ∧ d ≤ 99 ∧ rF (14 * t + 5) = nI d) ∧ (∃ d, d ≤ 9999 ∧ rF (14 * t + 6) = nI d) ∧ (∃ d, d ≤ 9999 ∧ rF (14 * t + 7) = nI d) ∧
  ((rF (14 * t + 8) = -1 ∧ rF (14 * t + 9) = -1) ∨ ∃ d q, d ≤ 300 ∧ 4 ≤ q ∧ q ≤ 999 ∧ rF (14 * t + 8) = nI d ∧ rF (14 * t + 9) = nI q) ∧
  ((rF (14 * t + 10) = -1 ∧ rF (14 * t + 11) = -1 ∧ rF (14 * t + 12) = -1) ∨ ∃ d q, d ≤ q ∧ q ≤ 999 ∧ rF (14 * t + 10) = nI d ∧ rF (14 * t + 11) = nI q ∧ (rF (14 * t + 12) = -1 ∨ ∃ h, h ≤ 999 ∧ rF (14 * t + 12) = nI h)) ∧
  (rF (14 * t + 13) = -1 ∨ ∃ d, d ≤ 9999 ∧ rF (14 * t + 13) = nI d)
/-- who stands where: both hold the same -/
def IS1 (T : Nat) (dg vo : Nat → Int32) (now : Nat → Int32) : Prop :=
  ∀ t, t < 16 → dg t = now (340 + 2 * t) ∧ (dg t = -1 ∨ (t < T ∧ (∃ d, d < 3600 ∧ dg t = nI d) ∧ ∃ v, v < 4 ∧ vo t = nI v ∧ now (341 + 2 * t) = nI v))
/-- the reference has begun, or begins with this -/
def LY (N : Nat) (b : Int32) (now now1 : Nat → Int32) : Prop := fX12_lay N b now = some (1, now1)
theorem LY_1 {N : Nat} (now : Nat → Int32) : LY N 1 now now := by
  unfold LY fX12_lay
  rw [if_neg (by decide)]
theorem i5 (k : Nat) : (5 : Int32) + nI k = nI (5 + k) := nI_add 5 k
theorem i340 (t : Nat) : (340 : Int32) + (2 : Int32) * nI t = nI (340 + 2 * t) := by
  rw [show (2 : Int32) * nI t = nI (2 * t) from pk_mul 2 t]
  exact nI_add 340 (2 * t)
theorem i341 (t : Nat) : (340 : Int32) + (2 : Int32) * nI t + (1 : Int32) = nI (341 + 2 * t) := by
  rw [i340, nI_1, show 340 + 2 * t + 1 = 341 + 2 * t by omega]
theorem i20 (t : Nat) (w : Nat) : (20 : Int32) + (20 : Int32) * nI t + nI w = nI (20 + 20 * t + w) := by
  rw [show (20 : Int32) * nI t = nI (20 * t) from pk_mul 20 t, show (20 : Int32) + nI (20 * t) = nI (20 + 20 * t) from nI_add 20 (20 * t), nI_add]
theorem i14 (t w : Nat) : nI t * (14 : Int32) + nI w = nI (14 * t + w) := by
  rw [show nI t * (14 : Int32) = nI (t * 14) from pk_mul t 14, nI_add, Nat.mul_comm]
/-- a call's THING: none of the RING's, or one -/
theorem th_cases (x : Int32) {T : Nat} (hT : T ≤ 16) : (x < 0 ∨ (¬ x < 0 ∧ nI T ≤ x)) ∨ ∃ t, t < T ∧ x = nI t := by
  rcases pk_ix x (n := T) (by omega) with h | h | h
  · exact Or.inl (Or.inl h)
  · by_cases h0 : x < 0
    · exact Or.inl (Or.inl h0)
    · exact Or.inl (Or.inr ⟨h0, h⟩)
  · exact Or.inr h
theorem has_no {x : Int32} {T : Nat} (h : x < 0 ∨ (¬ x < 0 ∧ nI T ≤ x)) : fX5_has (nI T) x = some 0 := by
  unfold fX5_has
  rcases h with h | ⟨h0, h⟩
  · rw [if_pos h]
  · rw [if_neg h0, if_pos h]
theorem has_yes {t T : Nat} (h : t < T) (hT : T ≤ 16) : fX5_has (nI T) (nI t) = some 1 := by
  unfold fX5_has
  rw [if_neg (nI_pos (by omega)), if_neg (nI_ge h (by omega))]
theorem things_e {T : Nat} {now : Nat → Int32} (h : now 1 = nI T) : fX12_things now = some (nI T) := by
  unfold fX12_things
  rw [gdi_e (i := 1) (n := 380) 1 rfl (by decide) (by decide), ← h]
  rfl
theorem isThing_no {x : Int32} {T : Nat} {now : Nat → Int32} (hn : now 1 = nI T) (h : x < 0 ∨ (¬ x < 0 ∧ nI T ≤ x)) : fX12_isThing now x = some 0 := by
  unfold fX12_isThing
  rcases h with h | ⟨h0, h⟩
  · rw [if_pos h]
  · rw [if_neg h0, bind_e (things_e hn), if_pos h]
theorem isThing_yes {t T : Nat} {now : Nat → Int32} (hn : now 1 = nI T) (h : t < T) (hT : T ≤ 16) : fX12_isThing now (nI t) = some 1 := by
  unfold fX12_isThing
  rw [if_neg (nI_pos (by omega)), bind_e (things_e hn), if_neg (nI_ge h (by omega))]
theorem at_e {t : Nat} (h : t < 16) (now : Nat → Int32) : fX12_at now (nI t) = some (now (340 + 2 * t)) := by
  unfold fX12_at
  rw [i340, gdi_nI (by omega) (by decide), nI_clamp (by omega)]
theorem voice_e {t : Nat} (h : t < 16) (now : Nat → Int32) : fX12_voice now (nI t) = some (now (341 + 2 * t)) := by
  unfold fX12_voice
  rw [i341, gdi_nI (by omega) (by decide), nI_clamp (by omega)]
theorem isUpM_e {t : Nat} (h : t < 16) (now : Nat → Int32) : fX12_isUp now (nI t) = some (if now (340 + 2 * t) = -1 then 0 else 1) := by
  unfold fX12_isUp
  rw [bind_e (at_e h now)]
  by_cases e : now (340 + 2 * t) = -1
  · rw [if_pos e, if_pos e]
  · rw [if_neg e, if_neg e]
theorem isUpC_e {t : Nat} (h : t < 16) (dg : Nat → Int32) : fX8_isUp dg (nI t) = some (if dg t = -1 then 0 else 1) := by
  unfold fX8_isUp
  rw [gdi_nI (by omega) (by decide), nI_clamp (by omega)]
  by_cases e : dg t = -1
  · rw [if_pos e, if_pos e]
  · rw [if_neg e, if_neg e]
theorem told_e {t w : Nat} (h : t < 16) (hw : w < 14) (rF : Nat → Int32) : fX5_told rF (nI t) (nI w) = some (rF (14 * t + w)) := by
  unfold fX5_told
  rw [bnd_e, i14, if_neg (nI_pos (by omega)), if_neg (show ¬ (224 : Int32) ≤ nI (14 * t + w) from nI_ge (b := 224) (by omega) (by decide)), gdi_nI (by omega) (by decide), nI_clamp (by omega)]
theorem ofM_e {t w : Nat} (h : t < 16) (hw : w < 14) (now : Nat → Int32) : fX12_of now (nI t) (nI w) = some (now (20 + 20 * t + w)) := by
  unfold fX12_of
  rw [i20, gdi_nI (by omega) (by decide), nI_clamp (by omega)]
theorem p_place {N T L P A : Nat} {rl rt rp ra rf b th : Int32} {rc gr : Nat → Int64} {rP rF now now1 : Nat → Int32} (h : IR1 T L P A rl rt rp ra rf rc rP rF now1 gr) (hl : LY N b now now1) (x : Int32) : ∃ r, fX11_place rp rP x = some r ∧ fX12_place N th b now x = some (0, 1, now1, r) := by
  obtain ⟨⟨hT, hL, hP, hA⟩, ⟨rfl, rfl, rfl, rfl⟩, ⟨n0, n1, n2, n3, n4, hf⟩, hp, hF, hc⟩ := h
  unfold fX11_place fX12_place
  rw [bind_e hl]
  by_cases h0 : x < 0
  · refine ⟨-1, ?_, ?_⟩
    · rw [if_pos h0]
    · rw [if_pos h0]
  · rw [if_neg h0, if_neg h0, gdi_e (i := 2) (n := 380) 2 rfl (by decide) (by decide)]
    have e2 : now1 ((2 : Int32).toNatClampNeg) = nI P := n2
    show ∃ r, _ ∧ (if now1 ((2 : Int32).toNatClampNeg) ≤ x then _ else _) = _
    rw [e2]
    by_cases h1 : nI P ≤ x
    · refine ⟨-1, ?_, ?_⟩
      · rw [if_pos h1]
      · rw [if_pos h1]
    · obtain ⟨k, hk, rfl⟩ := nI_of h0
      have hkP : k < P := by
        rcases Nat.lt_or_ge k P with q | q
        · exact q
        · exact absurd (nI_le q hk) h1
      refine ⟨rP k, ?_, ?_⟩
      · rw [if_neg h1, gdi_nI (by omega) (by decide), nI_clamp hk]
      · rw [if_neg h1, i5, gdi_nI (by omega) (by decide), nI_clamp (by omega), (hp k hkP).1]
theorem p_ground {N T L P A : Nat} {rl rt rp ra rf b th : Int32} {rc gr : Nat → Int64} {rP rF now now1 : Nat → Int32} (h : IR1 T L P A rl rt rp ra rf rc rP rF now1 gr) (hl : LY N b now now1) (x : Int32) : ∃ r, fX11_ground rt rc x = some r ∧ fX12_ground N th b now gr x = some (0, 1, now1, r) := by
  obtain ⟨⟨hT, hL, hP, hA⟩, ⟨rfl, rfl, rfl, rfl⟩, ⟨n0, n1, n2, n3, n4, hf⟩, hp, hF, hc⟩ := h
  unfold fX11_ground fX12_ground
  rw [bind_e hl]
  rcases th_cases x hT with h0 | ⟨t, ht, rfl⟩
  · refine ⟨0, ?_, ?_⟩
    · rw [bind_e (has_no h0), if_pos rfl]
    · rw [bind_e (isThing_no n1 h0), if_pos rfl]
  · refine ⟨rc t, ?_, ?_⟩
    · rw [bind_e (has_yes ht hT), if_neg (by decide), gdi_nI (by omega) (by decide), nI_clamp (by omega)]
    · rw [bind_e (isThing_yes n1 ht hT), if_neg (by decide), gdi_nI (by omega) (by decide), nI_clamp (by omega), hc t ht]
theorem hasUp_no {x : Int32} {T : Nat} {dg : Nat → Int32} (h : x < 0 ∨ (¬ x < 0 ∧ nI T ≤ x)) : fX11_hasUp (nI T) dg x = some 0 := by
  unfold fX11_hasUp
  rw [bind_e (has_no h), if_pos rfl]
theorem hasUp_yes {t T : Nat} (h : t < T) (hT : T ≤ 16) (dg : Nat → Int32) : fX11_hasUp (nI T) dg (nI t) = some (if dg t = -1 then 0 else 1) := by
  unfold fX11_hasUp
  rw [bind_e (has_yes h hT), if_neg (by decide), bind_e (isUpC_e (by omega) dg)]
  by_cases e : dg t = -1
  · rw [if_pos e, if_pos rfl]
  · rw [if_neg e, if_neg (by decide)]
theorem isIn_e (v a b : Int32) : fX12_isIn v a b = some (if a ≤ v ∧ v ≤ b then 1 else 0) := by
  unfold fX12_isIn
  by_cases h : v < a
  · rw [if_pos h, if_neg (fun q => (fa_of_lt h).2.1 q.1)]
  · rw [if_neg h]
    by_cases h2 : b < v
    · rw [if_pos h2, if_neg (fun q => (fa_of_lt h2).2.1 q.2)]
    · rw [if_neg h2, if_pos ⟨fa_of_nlt h, fa_of_nlt h2⟩]

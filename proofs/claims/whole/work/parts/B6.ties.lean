/-! what is told of one THING; the ties under one more fact -/
def FB (L : Nat) (f : Nat → Int32) : Prop := (∃ d, d < L ∧ f 0 = nI d) ∧ (∃ d, d < 3600 ∧ f 1 = nI d) ∧ (∃ d, d < 3600 ∧ f 2 = nI d) ∧ (∃ d, d < 16 ∧ f 3 = nI d) ∧ (∃ d, 1 ≤ d ∧ d ≤ 999 ∧ f 4 = nI d) ∧ (∃ d, 1 ≤ d ∧ d ≤ 99 ∧ f 5 = nI d) ∧ (∃ d, d ≤ 9999 ∧ f 6 = nI d) ∧ (∃ d, d ≤ 9999 ∧ f 7 = nI d) ∧
  ((f 8 = -1 ∧ f 9 = -1) ∨ ∃ d q, d ≤ 300 ∧ 4 ≤ q ∧ q ≤ 999 ∧ f 8 = nI d ∧ f 9 = nI q) ∧
  ((f 10 = -1 ∧ f 11 = -1 ∧ f 12 = -1) ∨ ∃ d q, d ≤ q ∧ q ≤ 999 ∧ f 10 = nI d ∧ f 11 = nI q ∧ (f 12 = -1 ∨ ∃ h, h ≤ 999 ∧ f 12 = nI h)) ∧
  (f 13 = -1 ∨ ∃ d, d ≤ 9999 ∧ f 13 = nI d)
theorem IF1_FB {T L : Nat} {rF : Nat → Int32} : IF1 T L rF ↔ ∀ t, t < T → FB L (fun w => rF (14 * t + w)) := Iff.rfl
theorem FB_cong {L : Nat} {f g : Nat → Int32} (h : ∀ w, w < 14 → f w = g w) (hg : FB L g) : FB L f := by
  unfold FB
  rw [h 0 (by decide), h 1 (by decide), h 2 (by decide), h 3 (by decide), h 4 (by decide), h 5 (by decide), h 6 (by decide), h 7 (by decide), h 8 (by decide), h 9 (by decide), h 10 (by decide), h 11 (by decide), h 12 (by decide), h 13 (by decide)]
  exact hg
theorem FB_L {L : Nat} {f : Nat → Int32} (h : FB L f) : FB (L + 1) f := by
  obtain ⟨⟨d, hd, e⟩, h⟩ := h
  exact ⟨⟨d, by omega, e⟩, h⟩
theorem IF1_L {T L : Nat} {rF : Nat → Int32} (h : IF1 T L rF) : IF1 T (L + 1) rF := fun t ht => FB_L (L := L) (f := fun w => rF (14 * t + w)) (h t ht)
/-- a fact of thing q is told anew -/
theorem IF1_set {T L q : Nat} {dF dF' : Nat → Int32} (h : IF1 T L dF) (he : ∀ t, t < T → t ≠ q → ∀ w, w < 14 → dF' (14 * t + w) = dF (14 * t + w)) (hq : q < T → FB L (fun w => dF' (14 * q + w))) : IF1 T L dF' := by
  intro t ht
  by_cases c : t = q
  · subst c
    exact hq ht
  · exact FB_cong (he t ht c) (h t ht)
theorem u14 {dF : Nat → Int32} {q w t v : Nat} {x : Int32} (hw : w < 14) (hv : v < 14) (h : t ≠ q ∨ v ≠ w) : upd dF (14 * q + w) x (14 * t + v) = dF (14 * t + v) := pk_un (by omega)
theorem u20 {dF : Nat → Int32} {q w t v : Nat} {x : Int32} (hw : w < 14) (hv : v < 14) (h : t ≠ q ∨ v ≠ w) : upd dF (20 + 20 * q + w) x (20 + 20 * t + v) = dF (20 + 20 * t + v) := pk_un (by omega)
theorem tell_e {q w : Nat} (hq : q < 16) (hw : w < 14) (dF : Nat → Int32) (x : Int32) : fX5_tell dF (nI q) (nI w) x = some (upd dF (14 * q + w) x) := by
  unfold fX5_tell
  rw [bnd_e, i14, if_neg (nI_pos (show 14 * q + w < 2 ^ 31 by omega)), if_neg (show ¬ (224 : Int32) ≤ nI (14 * q + w) from nI_ge (b := 224) (by omega) (by decide)), gdi_nI (show 14 * q + w < 224 by omega) (by decide), bnd_e, nI_clamp (show 14 * q + w < 2 ^ 31 by omega)]
/-- one fact of a thing is told in both -/
theorem IR1_set {T L P A q w : Nat} {rl rt rp ra rf x : Int32} {rc gr : Nat → Int64} {rP rF now : Nat → Int32} (h : IR1 T L P A rl rt rp ra rf rc rP rF now gr) (hq : q < 16) (hw : w < 14) : IR1 T L P A rl rt rp ra rf rc rP (upd rF (14 * q + w) x) (upd now (20 + 20 * q + w) x) gr := by
  obtain ⟨hb, hs, ⟨n0, n1, n2, n3, n4, hf⟩, hp, hF, hc⟩ := h
  refine ⟨hb, hs, ⟨?_, ?_, ?_, ?_, ?_, hf⟩, fun k hk => ?_, fun t ht v hv => ?_, hc⟩
  · rw [pk_un (by omega), n0]
  · rw [pk_un (by omega), n1]
  · rw [pk_un (by omega), n2]
  · rw [pk_un (by omega), n3]
  · rw [pk_un (by omega), n4]
  · have : P ≤ 6 := hb.2.2.1
    rw [pk_un (show 5 + k ≠ 20 + 20 * q + w by omega)]
    exact hp k hk
  · by_cases c : t = q ∧ v = w
    · obtain ⟨rfl, rfl⟩ := c
      rw [pk_us, pk_us]
    · have c' : t ≠ q ∨ v ≠ w := by omega
      rw [u14 hw hv c', u20 hw hv c']
      exact hF t ht v hv
theorem isNum_e {N i : Nat} (hi : i ≤ 1200) {ka sa va : Nat → Int32} {v : Nat} (c : ka i = 3) (h2 : va i = nI v) (fk fp nu a b : Int32) : fX4_isNumber N fk fp (nI i) nu ka sa va a b = some (if a ≤ nI v ∧ nI v ≤ b then (fk, fp, nI v, 1) else (2, sa i, nI v, 0)) := by
  unfold fX4_isNumber
  rw [gdi_nI (show i < 1201 by omega) (by decide), nI_clamp (show i < 2 ^ 31 by omega), gdi_nI (show i < 1201 by omega) (by decide), if_pos c, bnd_e, h2]
  have ej : fX4_isNumber_j54 N fk fp (nI i) (nI v) ka sa va = some (2, sa i, nI v, 0) := by
    unfold fX4_isNumber_j54
    rw [bind_e (refuse_e (by omega) fk fp 2 sa), if_pos rfl]
  by_cases c1 : nI v < a
  · rw [if_pos c1, ej, if_neg (show ¬ (a ≤ nI v ∧ nI v ≤ b) from fun y => (fa_of_lt c1).2.1 y.1)]
  · by_cases c2 : nI v ≤ b
    · rw [if_neg c1, if_pos c2, if_pos (show a ≤ nI v ∧ nI v ≤ b from ⟨fa_of_nlt c1, c2⟩)]
    · rw [if_neg c1, if_neg c2, ej, if_neg (show ¬ (a ≤ nI v ∧ nI v ≤ b) from fun y => c2 y.2)]
theorem isNum_n {N i : Nat} (hi : i ≤ 1200) {ka sa va : Nat → Int32} (c : ¬ ka i = 3) (fk fp nu a b : Int32) : fX4_isNumber N fk fp (nI i) nu ka sa va a b = some (1, sa i, nu, 0) := by
  unfold fX4_isNumber
  rw [gdi_nI (show i < 1201 by omega) (by decide), nI_clamp (show i < 2 ^ 31 by omega), if_neg c, bind_e (refuse_e (by omega) fk fp 1 sa), gdb_e (Or.inl rfl)]
theorem hasPlace_e {N P : Nat} (hN : 1241 < N) (hP : P ≤ 6) (dP : Nat → Int32) (x : Int32) : fX5_hasPlaceAt N (nI P) dP x = some (if fa_first (fun k => decide (dP k = x)) P < P then 1 else 0) := by
  unfold fX5_hasPlaceAt
  rw [bind_e (itr_firstR (fun k => decide (dP k = x)) (fun _ => 1) (show P < N by omega) ?_ ?_)]
  · by_cases c : fa_first (fun k => decide (dP k = x)) P < P
    · rw [if_pos c, if_pos c]
      rfl
    · rw [if_neg c, if_neg c]
      rfl
  · show fX5_hasPlaceAt_l2b N (nI P) dP x (nI P) = _
    unfold fX5_hasPlaceAt_l2b
    rw [if_pos (nI_le (Nat.le_refl P) (by omega))]
  · intro k hk
    show fX5_hasPlaceAt_l2b N (nI P) dP x (nI k) = _
    unfold fX5_hasPlaceAt_l2b
    rw [if_neg (nI_ge hk (by omega)), gdi_nI (show k < 6 by omega) (by decide), nI_clamp (show k < 2 ^ 31 by omega)]
    by_cases c : dP k = x
    · rw [if_pos c, if_pos (decide_eq_true c)]
    · rw [if_neg c, if_neg (by rw [decide_eq_false c]; decide), bnd_e, nI_1]
/-- which of apart and first were told -/
def HD (had ap fi : Int32) : Prop := (had = 0 ∧ ap = 0 ∧ fi = 0) ∨ (had = 4 ∧ ap = 1 ∧ fi = 0) ∨ (had = 16 ∧ ap = 0 ∧ fi = 1) ∨ (had = 20 ∧ ap = 1 ∧ fi = 1)
theorem HD_2 {had ap fi : Int32} (h : HD had ap fi) : (ap = 0 ∧ hv had 2 = 0 ∧ HD (had ||| ((1 : Int32) <<< ((2 : Int32) &&& 31))) 1 fi) ∨ (¬ ap = 0 ∧ hv had 2 = 1) := by
  rcases h with ⟨rfl, rfl, rfl⟩ | ⟨rfl, rfl, rfl⟩ | ⟨rfl, rfl, rfl⟩ | ⟨rfl, rfl, rfl⟩
  · exact Or.inl ⟨rfl, by decide, Or.inr (Or.inl ⟨by decide, rfl, rfl⟩)⟩
  · exact Or.inr ⟨by decide, by decide⟩
  · exact Or.inl ⟨rfl, by decide, Or.inr (Or.inr (Or.inr ⟨by decide, rfl, rfl⟩))⟩
  · exact Or.inr ⟨by decide, by decide⟩
theorem HD_4 {had ap fi : Int32} (h : HD had ap fi) : (fi = 0 ∧ hv had 4 = 0 ∧ HD (had ||| ((1 : Int32) <<< ((4 : Int32) &&& 31))) ap 1) ∨ (¬ fi = 0 ∧ hv had 4 = 1) := by
  rcases h with ⟨rfl, rfl, rfl⟩ | ⟨rfl, rfl, rfl⟩ | ⟨rfl, rfl, rfl⟩ | ⟨rfl, rfl, rfl⟩
  · exact Or.inl ⟨rfl, by decide, Or.inr (Or.inr (Or.inl ⟨by decide, rfl, rfl⟩))⟩
  · exact Or.inl ⟨rfl, by decide, Or.inr (Or.inr (Or.inr ⟨by decide, rfl, rfl⟩))⟩
  · exact Or.inr ⟨by decide, by decide⟩
  · exact Or.inr ⟨by decide, by decide⟩

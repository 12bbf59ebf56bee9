/-! FIT: the reference's rounds -/
theorem big_liv {T : Nat} {dg vo rF : Nat → Int32} {rc : Nat → Int64} {l : Nat → Nat} {k : Nat} (h : l k ≤ 999) (hb : big T dg vo rF rc l k = true) : liv dg rF k = true := by
  unfold big ned at hb
  rw [decide_eq_true_eq] at hb
  by_cases c : liv dg rF k = true
  · exact c
  · rw [if_neg c] at hb
    omega
theorem ned_liv {T : Nat} {dg vo rF : Nat → Int32} {rc : Nat → Int64} {l : Nat → Nat} {k : Nat} (c : ¬ liv dg rF k = true) : ned T dg vo rF rc l k = l k := by
  unfold ned
  rw [if_neg c]
/-- something changes -/
def chg (T : Nat) (dg vo rF : Nat → Int32) (rc : Nat → Int64) (l : Nat → Nat) (k : Nat) : Bool := decide (¬ ned T dg vo rF rc l k = l k)
set_option maxHeartbeats 1000000 in
theorem louder_e {N T L P A : Nat} {rl rt rp ra rf : Int32} {rc gr : Nat → Int64} {rP rF now dg vo ls ss nx : Nat → Int32} {l : Nat → Nat} (hN : 16 < N) (h : IR1 T L P A rl rt rp ra rf rc rP rF now gr) (hF : IF1 T L rF) (hs : IS1 T dg vo now) (h1 : ∀ k, k < T → ∃ d, d ≤ 999 ∧ ls k = nI d) (h2 : ∀ k, k < T → ¬ dg k = -1 → ls k = nI (l k)) (h9 : ∀ k, k < T → l k ≤ 999) (h3 : ∀ k, k < T → ss k = rF (14 * k + 5)) : ∃ ls2 nx2, fX12_louder N now gr ls ss nx = some (ls2, nx2, if fa_first (big T dg vo rF rc l) T < T then 100000 else if fa_first (chg T dg vo rF rc l) T < T then 1 else 0) ∧ (¬ fa_first (big T dg vo rF rc l) T < T → (∀ k, k < T → ∃ d, d ≤ 999 ∧ ls2 k = nI d) ∧ ∀ k, k < T → ¬ dg k = -1 → ls2 k = nI (ned T dg vo rF rc l k)) := by
  have hT : T ≤ 16 := h.1.1
  have n1 : now 1 = nI T := h.2.2.1.2.1
  have hF2 := h.2.2.2.2.1
  have hW : WS T dg ls ss := by
    refine ⟨fun t ht => ?_, fun t ht => ⟨h1 t ht, ?_⟩⟩
    · rcases (hs t ht).2 with e | ⟨-, e, -⟩
      · exact Or.inl e
      · exact Or.inr e
    · obtain ⟨es, -, s2, -, -⟩ := fact5 hF ht
      exact ⟨_, s2, (h3 t ht).trans es⟩
  have hH : ∀ t, t < T → smH dg vo ls ss rc t T = nI (hL dg vo rc (sNat rF) l t T) := by
    intro t ht
    refine smH_hL (fun k hk uk => ?_)
    obtain ⟨es, -, s2, -, -⟩ := fact5 hF hk
    have := h9 k hk
    exact ⟨⟨h2 k hk uk, by omega⟩, (h3 k hk).trans es, by omega⟩
  have step : ∀ k (f : Nat → Int32) (c : Int32), k < T → fX12_louder_l4b N now gr ls ss f c (nI k) = some (if liv dg rF k = true then (if big T dg vo rF rc l k = true then .inr (.inr (ls, upd f k (nI (ned T dg vo rF rc l k)), 100000)) else .inl (upd f k (nI (ned T dg vo rF rc l k)), (if chg T dg vo rF rc l k = true then 1 else c), nI (k + 1))) else .inl (f, c, nI (k + 1))) := by
    intro k f c hk
    unfold fX12_louder_l4b
    rw [bind_e (things_e n1), if_neg (nI_ge hk (by omega)), bind_e (isUpM_e (by omega) now), ← (hs k (by omega)).1]
    by_cases u : dg k = -1
    · rw [if_pos u, if_pos rfl, bnd_e, nI_1, if_neg (fun q => (liv_iff.mp q).1 u)]
    · rw [if_neg u, if_neg (show ¬ (1 : Int32) = 0 by decide), bind_e (isDeadM_e (by omega) now), ← hF2 k hk 8 (by decide)]
      by_cases d : rF (14 * k + 8) = -1
      · have hv : liv dg rF k = true := liv_iff.mpr ⟨u, d⟩
        have hle := ned_lt (dg := dg) (vo := vo) (rc := rc) hT hF h9 hk
        have hb : hL dg vo rc (sNat rF) l k T ≤ T * 99900 := hL_le h9
        have hb2 : T * 99900 ≤ 16 * 99900 := Nat.mul_le_mul hT (Nat.le_refl _)
        obtain ⟨-, -, -, eB, hB⟩ := fact5 hF hk
        have l9 := h9 k hk
        have j : fX12_louder_j69_t_next N now gr ls ss f c (nI k) (nI k) (nI (ned T dg vo rF rc l k)) = some (if big T dg vo rF rc l k = true then .inr (.inr (ls, upd f k (nI (ned T dg vo rF rc l k)), 100000)) else .inl (upd f k (nI (ned T dg vo rF rc l k)), (if chg T dg vo rF rc l k = true then 1 else c), nI (k + 1))) := by
          unfold fX12_louder_j69_t_next big chg
          rw [gdi_nI (by omega) (by decide), nI_clamp (by omega), bnd_e, gdi_nI (by omega) (by decide), pk_us]
          by_cases q : 999 < ned T dg vo rF rc l k
          · rw [if_neg (show ¬ nI (ned T dg vo rF rc l k) ≤ (999 : Int32) from nI_ge (a := 999) q (by omega)), if_pos (decide_eq_true q)]
          · rw [if_pos (show nI (ned T dg vo rF rc l k) ≤ (999 : Int32) from nI_le (b := 999) (by omega) (by decide)), if_neg (show ¬ decide (999 < ned T dg vo rF rc l k) = true by rw [decide_eq_true_eq]; exact q), gdi_nI (by omega) (by decide), gdi_nI (by omega) (by decide), h2 k hk u]
            by_cases w : ned T dg vo rF rc l k = l k
            · rw [if_pos (by rw [w]), bnd_e, nI_1, if_neg (show ¬ decide (¬ ned T dg vo rF rc l k = l k) = true by rw [decide_eq_true_eq]; exact fun z => z w)]
            · rw [if_neg (fun z => w ((nI_eq (by omega) (by omega)).mp z)), bnd_e, nI_1, if_pos (decide_eq_true w)]
        have en : ned T dg vo rF rc l k = max 1 ((bNat rF k + 10 * hL dg vo rc (sNat rF) l k T + 19) / 20) := by
          unfold ned
          rw [if_pos hv]
        rw [if_pos d, if_pos rfl, if_pos hv, bind_e (ofM_x (w := 6) (c := 6) rfl (by omega) (by decide) now), bind_e (heardM_e hN h hs hW (fun j _ => ⟨rfl, rfl⟩) hk u), ← hF2 k hk 6 (by decide), hH k hk, gdz_e (by decide), bnd_e, eB, ned_e hB (by omega)]
        by_cases q : 1 ≤ (bNat rF k + 10 * hL dg vo rc (sNat rF) l k T + 19) / 20
        · rw [if_pos (show (1 : Int32) ≤ nI ((bNat rF k + 10 * hL dg vo rc (sNat rF) l k T + 19) / 20) from nI_le (a := 1) q (by omega)), show nI ((bNat rF k + 10 * hL dg vo rc (sNat rF) l k T + 19) / 20) = nI (ned T dg vo rF rc l k) from by rw [en, Nat.max_eq_right q]]
          exact j
        · rw [if_neg (show ¬ (1 : Int32) ≤ nI ((bNat rF k + 10 * hL dg vo rc (sNat rF) l k T + 19) / 20) from nI_ge (b := 1) (by omega) (by decide)), show (1 : Int32) = nI (ned T dg vo rF rc l k) from by rw [en, Nat.max_eq_left (by omega)]; rfl]
          have j' := j
          rw [show (if chg T dg vo rF rc l k = true then (1 : Int32) else c) = (if chg T dg vo rF rc l k = true then (1 : Int32) else c) from rfl] at j'
          have e1 : nI (ned T dg vo rF rc l k) = 1 := by rw [en, Nat.max_eq_left (by omega)]; rfl
          rw [e1] at j' ⊢
          exact j'
      · rw [if_neg d, if_neg (show ¬ (1 : Int32) = 0 by decide), bnd_e, nI_1, if_neg (fun q => d (liv_iff.mp q).2)]
  have key : ∃ r, itr (fun z => fX12_louder_l4b N now gr ls ss z.1 z.2.1 z.2.2) N (nx, (0 : Int32), (0 : Int32)) = some r ∧ (if fa_first (big T dg vo rF rc l) T < T then ∃ f, r = .inr (ls, f, 100000) else ∃ f, r = .inl (f, if fa_first (chg T dg vo rF rc l) T < T then 1 else 0) ∧ ∀ k, k < T → liv dg rF k = true → f k = nI (ned T dg vo rF rc l k)) := by
    refine itr_inv (fun (i : Nat) (z : (Nat → Int32) × Int32 × Int32) => z.2.2 = nI i ∧ (∀ k, k < i → liv dg rF k = true → z.1 k = nI (ned T dg vo rF rc l k)) ∧ z.2.1 = if fa_first (chg T dg vo rF rc l) i < i then 1 else 0) (fun (r : ((Nat → Int32) × Int32) ⊕ ((Nat → Int32) × (Nat → Int32) × Int32)) => if fa_first (big T dg vo rF rc l) T < T then ∃ f, r = .inr (ls, f, 100000) else ∃ f, r = .inl (f, if fa_first (chg T dg vo rF rc l) T < T then 1 else 0) ∧ ∀ k, k < T → liv dg rF k = true → f k = nI (ned T dg vo rF rc l k)) (b := fa_first (big T dg vo rF rc l) T) (Nat.lt_of_le_of_lt (fa_first_le _ _) (by omega)) ⟨rfl, fun k hk => absurd hk (Nat.not_lt_zero k), by rw [if_neg (Nat.not_lt_zero _)]⟩ ?_ ?_
    · rintro i ⟨f, c, v⟩ hi ⟨hv, hf, hc⟩
      have hv : v = nI i := hv
      subst hv
      have hc : c = if fa_first (chg T dg vo rF rc l) i < i then 1 else 0 := hc
      have hiT : i < T := Nat.lt_of_lt_of_le hi (fa_first_le _ _)
      have nb : ¬ big T dg vo rF rc l i = true := by rw [fa_first_no _ T i hi]; decide
      have more : fa_first (chg T dg vo rF rc l) i < i → fa_first (chg T dg vo rF rc l) (i + 1) < i + 1 := fun q => ff_yes (k := fa_first (chg T dg vo rF rc l) i) (by omega) (fa_first_yes _ i q)
      have less : ¬ fa_first (chg T dg vo rF rc l) i < i → chg T dg vo rF rc l i = false → ¬ fa_first (chg T dg vo rF rc l) (i + 1) < i + 1 := by
        intro q w
        refine ff_no (fun k hk => ?_)
        by_cases e : k = i
        · rw [e]
          exact w
        · have e2 : fa_first (chg T dg vo rF rc l) i = i := Nat.le_antisymm (fa_first_le _ i) (by omega)
          exact fa_first_no _ i k (by omega)
      by_cases lv : liv dg rF i = true
      · refine ⟨(upd f i (nI (ned T dg vo rF rc l i)), (if chg T dg vo rF rc l i = true then 1 else c), nI (i + 1)), ?_, rfl, fun k hk hl => ?_, ?_⟩
        · show fX12_louder_l4b N now gr ls ss f c (nI i) = _
          rw [step i f c hiT, if_pos lv, if_neg nb]
        · show upd f i (nI (ned T dg vo rF rc l i)) k = _
          by_cases e : k = i
          · rw [e, pk_us]
          · rw [pk_un e]
            exact hf k (by omega) hl
        · show (if chg T dg vo rF rc l i = true then (1 : Int32) else c) = _
          by_cases w : chg T dg vo rF rc l i = true
          · rw [if_pos w, if_pos (ff_yes (Nat.lt_succ_self i) w)]
          · rw [if_neg w, hc]
            by_cases q : fa_first (chg T dg vo rF rc l) i < i
            · rw [if_pos q, if_pos (more q)]
            · rw [if_neg q, if_neg (less q (by cases z : chg T dg vo rF rc l i; rfl; exact absurd z w))]
      · refine ⟨(f, c, nI (i + 1)), ?_, rfl, fun k hk hl => ?_, ?_⟩
        · show fX12_louder_l4b N now gr ls ss f c (nI i) = _
          rw [step i f c hiT, if_neg lv]
        · by_cases e : k = i
          · rw [e] at hl
            exact absurd hl lv
          · exact hf k (by omega) hl
        · show c = _
          have w : chg T dg vo rF rc l i = false := by
            unfold chg
            rw [ned_liv lv]
            exact decide_eq_false (fun z => z rfl)
          rw [hc]
          by_cases q : fa_first (chg T dg vo rF rc l) i < i
          · rw [if_pos q, if_pos (more q)]
          · rw [if_neg q, if_neg (less q w)]
    · rintro ⟨f, c, v⟩ ⟨hv, hf, hc⟩
      have hv : v = nI (fa_first (big T dg vo rF rc l) T) := hv
      subst hv
      by_cases q : fa_first (big T dg vo rF rc l) T < T
      · have hb := fa_first_yes (big T dg vo rF rc l) T q
        refine ⟨.inr (ls, upd f (fa_first (big T dg vo rF rc l) T) (nI (ned T dg vo rF rc l (fa_first (big T dg vo rF rc l) T))), 100000), ?_, ?_⟩
        · show fX12_louder_l4b N now gr ls ss f c (nI (fa_first (big T dg vo rF rc l) T)) = _
          rw [step _ f c q, if_pos (big_liv (h9 _ q) hb), if_pos hb]
        · rw [if_pos q]
          exact ⟨_, rfl⟩
      · have e : fa_first (big T dg vo rF rc l) T = T := Nat.le_antisymm (fa_first_le _ T) (by omega)
        refine ⟨.inl (f, c), ?_, ?_⟩
        · show fX12_louder_l4b N now gr ls ss f c (nI (fa_first (big T dg vo rF rc l) T)) = _
          rw [e]
          unfold fX12_louder_l4b
          rw [bind_e (things_e n1), if_pos (nI_le (Nat.le_refl T) (by omega))]
        · rw [if_neg q]
          rw [e] at hf hc
          have hc : c = if fa_first (chg T dg vo rF rc l) T < T then 1 else 0 := hc
          exact ⟨f, by rw [hc], hf⟩
  obtain ⟨r, e1, e2⟩ := key
  unfold fX12_louder
  rw [bind_e e1]
  by_cases q : fa_first (big T dg vo rF rc l) T < T
  · rw [if_pos q] at e2
    obtain ⟨f, rfl⟩ := e2
    rw [if_pos q]
    exact ⟨ls, f, rfl, fun z => absurd q z⟩
  · rw [if_neg q] at e2
    obtain ⟨f, rfl, hf⟩ := e2
    rw [if_neg q]
    have key2 : ∃ r, itr (fun z => fX12_louder_l111b N now gr ss f (if fa_first (chg T dg vo rF rc l) T < T then (1 : Int32) else 0) z.1 z.2) N (ls, (0 : Int32)) = some r ∧ ((∀ k, k < T → liv dg rF k = true → r k = f k) ∧ ∀ k, ¬ liv dg rF k = true → r k = ls k) := by
      refine itr_inv (fun (i : Nat) (z : (Nat → Int32) × Int32) => z.2 = nI i ∧ (∀ k, k < i → liv dg rF k = true → z.1 k = f k) ∧ ∀ k, ¬ liv dg rF k = true → z.1 k = ls k) (fun (r : Nat → Int32) => (∀ k, k < T → liv dg rF k = true → r k = f k) ∧ ∀ k, ¬ liv dg rF k = true → r k = ls k) (b := T) (by omega) ⟨rfl, fun k hk => absurd hk (Nat.not_lt_zero k), fun k _ => rfl⟩ ?_ ?_
      · rintro i ⟨g, v⟩ hi ⟨hv, g1, g2⟩
        have hv : v = nI i := hv
        subst hv
        by_cases lv : liv dg rF i = true
        · obtain ⟨u, d⟩ := liv_iff.mp lv
          refine ⟨(upd g i (f i), nI (i + 1)), ?_, rfl, fun k hk hl => ?_, fun k hl => ?_⟩
          · show fX12_louder_l111b N now gr ss f _ g (nI i) = _
            unfold fX12_louder_l111b
            rw [bind_e (things_e n1), if_neg (nI_ge hi (by omega)), bind_e (isUpM_e (by omega) now), ← (hs i (by omega)).1, if_neg u, if_neg (show ¬ (1 : Int32) = 0 by decide), bind_e (isDeadM_e (by omega) now), ← hF2 i hi 8 (by decide), if_pos d, if_pos rfl, gdi_nI (by omega) (by decide), gdi_nI (by omega) (by decide), nI_clamp (by omega), bnd_e, bnd_e, nI_1]
          · show upd g i (f i) k = _
            by_cases e : k = i
            · rw [e, pk_us]
            · rw [pk_un e]
              exact g1 k (by omega) hl
          · show upd g i (f i) k = _
            rw [pk_un (fun e => hl (by rw [e]; exact lv))]
            exact g2 k hl
        · refine ⟨(g, nI (i + 1)), ?_, rfl, fun k hk hl => ?_, g2⟩
          · show fX12_louder_l111b N now gr ss f _ g (nI i) = _
            unfold fX12_louder_l111b
            rw [bind_e (things_e n1), if_neg (nI_ge hi (by omega)), bind_e (isUpM_e (by omega) now), ← (hs i (by omega)).1]
            by_cases u : dg i = -1
            · rw [if_pos u, if_pos rfl, bnd_e, nI_1]
            · rw [if_neg u, if_neg (show ¬ (1 : Int32) = 0 by decide), bind_e (isDeadM_e (by omega) now), ← hF2 i hi 8 (by decide)]
              by_cases d : rF (14 * i + 8) = -1
              · exact absurd (liv_iff.mpr ⟨u, d⟩) lv
              · rw [if_neg d, if_neg (show ¬ (1 : Int32) = 0 by decide), bnd_e, nI_1]
          · by_cases e : k = i
            · rw [e] at hl
              exact absurd hl lv
            · exact g1 k (by omega) hl
      · rintro ⟨g, v⟩ ⟨hv, g1, g2⟩
        have hv : v = nI T := hv
        subst hv
        refine ⟨g, ?_, g1, g2⟩
        show fX12_louder_l111b N now gr ss f _ g (nI T) = _
        unfold fX12_louder_l111b
        rw [bind_e (things_e n1), if_pos (nI_le (Nat.le_refl T) (by omega))]
    obtain ⟨g, e3, g1, g2⟩ := key2
    refine ⟨g, f, ?_, fun _ => ⟨fun k hk => ?_, fun k hk uk => ?_⟩⟩
    · show (itr (fun z => fX12_louder_l111b N now gr ss f (if fa_first (chg T dg vo rF rc l) T < T then (1 : Int32) else 0) z.1 z.2) N (ls, (0 : Int32))).bind _ = _
      rw [bind_e e3]
    · by_cases lv : liv dg rF k = true
      · refine ⟨ned T dg vo rF rc l k, ?_, ?_⟩
        · have e : fa_first (big T dg vo rF rc l) T = T := Nat.le_antisymm (fa_first_le _ T) (by omega)
          have nb := fa_first_no (big T dg vo rF rc l) T k (by omega)
          unfold big at nb
          have := of_decide_eq_false nb
          omega
        · rw [g1 k hk lv, hf k hk lv]
      · rw [g2 k lv]
        exact h1 k hk
    · by_cases lv : liv dg rF k = true
      · rw [g1 k hk lv, hf k hk lv]
      · rw [g2 k lv, ned_liv lv, h2 k hk uk]

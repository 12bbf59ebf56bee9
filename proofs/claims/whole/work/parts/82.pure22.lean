/-! FIT -/
theorem sg_tail {f : Nat → Int32} {T : Nat} : ∀ d, (∀ k, T ≤ k → f k = 0) → sg f (T + d) = sg f T
  | 0, _ => rfl
  | d + 1, h => by
    show sg f (T + d) + f (T + d) = sg f T
    rw [sg_tail d h, h (T + d) (by omega), Int32.add_zero]
/-- the loudness that one has by the FIT, or none -/
def ftd (dg rF : Nat → Int32) (l : Nat → Nat) (k : Nat) : Int32 := if liv dg rF k = true then nI (l k) else -1
def fts (dg rF : Nat → Int32) (l : Nat → Nat) (k : Nat) : Int32 := if liv dg rF k = true then nI (l k) else 0
theorem keepAnswer_e {N T : Nat} {dg rF lc an : Nat → Int32} {l : Nat → Nat} (hN : 16 < N) (hT : T ≤ 16) (h : ∀ k, k < T → lc k = nI (l k)) : ∃ an2, fX0_keepAnswer N an (nI T) dg rF lc = some (an2, sg (fts dg rF l) T) ∧ ∀ k, k < 16 → an2 k = if k < T then ftd dg rF l k else -1 := by
  have key : ∃ r, itr (fun z => fX0_keepAnswer_l4b N (nI T) dg rF lc z.1 z.2.1 z.2.2) N (an, (0 : Int32), (0 : Int32)) = some r ∧ ((r.2 = sg (fun k => if k < T then fts dg rF l k else 0) 16) ∧ ∀ k, k < 16 → r.1 k = if k < T then ftd dg rF l k else -1) := by
    refine itr_inv (fun (i : Nat) (z : (Nat → Int32) × Int32 × Int32) => z.2.2 = nI i ∧ z.2.1 = sg (fun k => if k < T then fts dg rF l k else 0) i ∧ ∀ k, k < i → z.1 k = if k < T then ftd dg rF l k else -1) (fun (r : (Nat → Int32) × Int32) => (r.2 = sg (fun k => if k < T then fts dg rF l k else 0) 16) ∧ ∀ k, k < 16 → r.1 k = if k < T then ftd dg rF l k else -1) (b := 16) hN ⟨rfl, rfl, fun k hk => absurd hk (Nat.not_lt_zero k)⟩ ?_ ?_
    · rintro i ⟨f, c, v⟩ hi ⟨hv, hc, hf⟩
      have hv : v = nI i := hv
      subst hv
      have hc : c = sg (fun k => if k < T then fts dg rF l k else 0) i := hc
      subst hc
      have hf : ∀ k, k < i → f k = if k < T then ftd dg rF l k else -1 := hf
      refine ⟨(upd f i (if i < T then ftd dg rF l i else -1), sg (fun k => if k < T then fts dg rF l k else 0) i + (if i < T then fts dg rF l i else 0), nI (i + 1)), ?_, rfl, rfl, fun k hk => ?_⟩
      · show fX0_keepAnswer_l4b N (nI T) dg rF lc f (sg (fun k => if k < T then fts dg rF l k else 0) i) (nI i) = _
        generalize sg (fun k => if k < T then fts dg rF l k else 0) i = s
        unfold fX0_keepAnswer_l4b ftd fts
        rw [if_neg (show ¬ (16 : Int32) ≤ nI i from nI_ge (b := 16) hi (by decide)), gdi_nI (by omega) (by decide), nI_clamp (by omega), bnd_e]
        by_cases c : i < T
        · rw [if_neg (nI_ge c (by omega)), if_pos c, if_pos c, bind_e (isLiving_liv (by omega) dg rF)]
          by_cases lv : liv dg rF i = true
          · rw [if_pos lv, if_neg (show ¬ (1 : Int32) = 0 by decide), if_pos lv, if_pos lv, gdi_nI (by omega) (by decide), gdi_nI (by omega) (by decide), bnd_e, gdi_nI (by omega) (by decide), bnd_e, bnd_e, nI_1, fa_upd_twice, h i c]
          · rw [if_neg lv, if_pos rfl, if_neg lv, if_neg lv, bnd_e, nI_1, Int32.add_zero]
        · rw [if_pos (nI_le (by omega) (by omega)), if_neg c, if_neg c, bnd_e, nI_1, Int32.add_zero]
      · show upd f i (if i < T then ftd dg rF l i else -1) k = _
        by_cases e : k = i
        · rw [e, pk_us]
        · rw [pk_un e]
          exact hf k (by omega)
    · rintro ⟨f, c, v⟩ ⟨hv, hc, hf⟩
      have hv : v = nI 16 := hv
      subst hv
      refine ⟨(f, c), ?_, hc, hf⟩
      show fX0_keepAnswer_l4b N (nI T) dg rF lc f c (nI 16) = _
      unfold fX0_keepAnswer_l4b
      rw [if_pos (show (16 : Int32) ≤ nI 16 by decide)]
  obtain ⟨⟨f, c⟩, e1, e2, e3⟩ := key
  have e2 : c = sg (fun k => if k < T then fts dg rF l k else 0) 16 := e2
  refine ⟨f, ?_, e3⟩
  unfold fX0_keepAnswer
  rw [bind_e e1]
  show some (f, c) = _
  rw [e2]
  have e4 : sg (fun k => if k < T then fts dg rF l k else 0) 16 = sg (fts dg rF l) T := by
    have e5 := sg_tail (f := fun k => if k < T then fts dg rF l k else 0) (T := T) (16 - T) (fun k hk => if_neg (by omega))
    rw [show T + (16 - T) = 16 by omega] at e5
    rw [e5]
    exact sg_cong (fun k hk => if_pos hk)
  rw [e4]
theorem fittedM_e {N T L P A : Nat} {rl rt rp ra rf b fm : Int32} {rc gr : Nat → Int64} {rP rF now dg vo ls ss nx ft : Nat → Int32} {l : Nat → Nat} (hN : 16 < N) (h : IR1 T L P A rl rt rp ra rf rc rP rF now gr) (hs : IS1 T dg vo now) (h2 : ∀ k, k < T → ¬ dg k = -1 → ls k = nI (l k)) (h9 : ∀ k, k < T → l k ≤ 999) : ∃ ft2, itr (fun z => fX12_fit_l88b N 0 b fm now ls ss gr nx z.1 z.2.1 z.2.2) N (ft, (0 : Int32), (0 : Int32)) = some (ft2, sg (fts dg rF l) T) ∧ ∀ k, k < T → ft2 k = ftd dg rF l k := by
  have hT : T ≤ 16 := h.1.1
  have n1 : now 1 = nI T := h.2.2.1.2.1
  have hF2 := h.2.2.2.2.1
  have key : ∃ r, itr (fun z => fX12_fit_l88b N 0 b fm now ls ss gr nx z.1 z.2.1 z.2.2) N (ft, (0 : Int32), (0 : Int32)) = some r ∧ ((r.2 = sg (fts dg rF l) T) ∧ ∀ k, k < T → r.1 k = ftd dg rF l k) := by
    refine itr_inv (fun (i : Nat) (z : (Nat → Int32) × Int32 × Int32) => z.2.2 = nI i ∧ z.2.1 = sg (fts dg rF l) i ∧ ∀ k, k < i → z.1 k = ftd dg rF l k) (fun (r : (Nat → Int32) × Int32) => (r.2 = sg (fts dg rF l) T) ∧ ∀ k, k < T → r.1 k = ftd dg rF l k) (b := T) (by omega) ⟨rfl, rfl, fun k hk => absurd hk (Nat.not_lt_zero k)⟩ ?_ ?_
    · rintro i ⟨f, c, v⟩ hi ⟨hv, hc, hf⟩
      have hv : v = nI i := hv
      subst hv
      have hc : c = sg (fts dg rF l) i := hc
      subst hc
      have hf : ∀ k, k < i → f k = ftd dg rF l k := hf
      have l9 := h9 i hi
      refine ⟨(upd f i (ftd dg rF l i), sg (fts dg rF l) i + fts dg rF l i, nI (i + 1)), ?_, rfl, rfl, fun k hk => ?_⟩
      · show fX12_fit_l88b N 0 b fm now ls ss gr nx f (sg (fts dg rF l) i) (nI i) = _
        generalize sg (fts dg rF l) i = s
        unfold fX12_fit_l88b fX12_fit_j126_t_fitted fX12_fit_j127_t_fitted ftd fts
        rw [bind_e (things_e n1), if_neg (nI_ge hi (by omega)), bind_e (isUpM_e (by omega) now), ← (hs i (by omega)).1, gdi_nI (by omega) (by decide), nI_clamp (by omega), bnd_e, gdi_nI (by omega) (by decide), pk_us, if_pos rfl, bnd_e, nI_1]
        by_cases u : dg i = -1
        · have lv : ¬ liv dg rF i = true := fun q => (liv_iff.mp q).1 u
          rw [if_pos u, if_pos rfl, if_neg lv, if_neg lv, Int32.add_zero]
        · rw [if_neg u, if_neg (show ¬ (1 : Int32) = 0 by decide), bind_e (isDeadM_e (by omega) now), ← hF2 i hi 8 (by decide)]
          by_cases d : rF (14 * i + 8) = -1
          · have lv : liv dg rF i = true := liv_iff.mpr ⟨u, d⟩
            rw [if_pos d, if_pos rfl, if_pos lv, if_pos lv, gdi_nI (by omega) (by decide), gdi_nI (by omega) (by decide), bnd_e, gdi_nI (by omega) (by decide), pk_us, h2 i hi u, if_neg (nI_m1 (by omega)), gdi_nI (by omega) (by decide), bnd_e, bnd_e]
          · have lv : ¬ liv dg rF i = true := fun q => d (liv_iff.mp q).2
            rw [if_neg d, if_neg (show ¬ (1 : Int32) = 0 by decide), if_neg lv, if_neg lv, Int32.add_zero]
      · show upd f i (ftd dg rF l i) k = _
        by_cases e : k = i
        · rw [e, pk_us]
        · rw [pk_un e]
          exact hf k (by omega)
    · rintro ⟨f, c, v⟩ ⟨hv, hc, hf⟩
      have hv : v = nI T := hv
      subst hv
      refine ⟨(f, c), ?_, hc, hf⟩
      show fX12_fit_l88b N 0 b fm now ls ss gr nx f c (nI T) = _
      unfold fX12_fit_l88b
      rw [bind_e (things_e n1), if_pos (nI_le (Nat.le_refl T) (by omega))]
  obtain ⟨⟨f, c⟩, e1, e2, e3⟩ := key
  have e2 : c = sg (fts dg rF l) T := e2
  exact ⟨f, by rw [e1, e2], e3⟩
/-- the loudness that FIT begins with -/
def l0 (rF : Nat → Int32) (k : Nat) : Nat := if rF (14 * k + 8) = -1 then 1 else (rF (14 * k + 4)).toNatClampNeg
theorem l0_9 {T L k : Nat} {rF : Nat → Int32} (hF : IF1 T L rF) (hk : k < T) : l0 rF k ≤ 999 ∧ rF (14 * k + 4) = nI (rF (14 * k + 4)).toNatClampNeg ∧ (rF (14 * k + 4)).toNatClampNeg ≤ 999 := by
  obtain ⟨⟨d, d1, d2, e⟩, -, -⟩ := facts_e hF hk
  unfold l0
  rw [e, nI_clamp (by omega)]
  refine ⟨?_, rfl, d2⟩
  split <;> omega
theorem startC_e {N T L : Nat} {dg vo ll nx an rF : Nat → Int32} {rc : Nat → Int64} (hN : 16 < N) (hT : T ≤ 16) (hF : IF1 T L rF) : ∃ lc, itr (fun z => fX0_settle_l2b N (nI T) rF dg vo rc nx an z.1 z.2) N (ll, (0 : Int32)) = some lc ∧ ∀ k, k < T → lc k = nI (l0 rF k) := by
  refine itr_inv (fun (i : Nat) (z : (Nat → Int32) × Int32) => z.2 = nI i ∧ ∀ k, k < i → z.1 k = nI (l0 rF k)) (fun (r : Nat → Int32) => ∀ k, k < T → r k = nI (l0 rF k)) (b := T) (by omega) ⟨rfl, fun k hk => absurd hk (Nat.not_lt_zero k)⟩ ?_ ?_
  · rintro i ⟨f, v⟩ hi ⟨hv, hf⟩
    have hv : v = nI i := hv
    subst hv
    have hf : ∀ k, k < i → f k = nI (l0 rF k) := hf
    refine ⟨(upd f i (nI (l0 rF i)), nI (i + 1)), ?_, rfl, fun k hk => ?_⟩
    · show fX0_settle_l2b N (nI T) rF dg vo rc nx an f (nI i) = _
      obtain ⟨-, e, -⟩ := l0_9 hF hi
      unfold fX0_settle_l2b l0
      rw [if_neg (nI_ge hi (by omega)), bind_e (isDeadC_e (by omega) rF)]
      by_cases d : rF (14 * i + 8) = -1
      · rw [if_pos d, if_pos rfl, if_pos d, gdi_nI (by omega) (by decide), nI_clamp (by omega), bnd_e, bnd_e, nI_1]
        rfl
      · rw [if_neg d, if_neg (show ¬ (1 : Int32) = 0 by decide), if_neg d, bind_e (told_x (w := 4) (c := 4) rfl (by omega) (by decide) rF), gdi_nI (by omega) (by decide), nI_clamp (by omega), bnd_e, bnd_e, nI_1, ← e]
    · show upd f i (nI (l0 rF i)) k = _
      by_cases e : k = i
      · rw [e, pk_us]
      · rw [pk_un e]
        exact hf k (by omega)
  · rintro ⟨f, v⟩ ⟨hv, hf⟩
    have hv : v = nI T := hv
    subst hv
    refine ⟨f, ?_, hf⟩
    show fX0_settle_l2b N (nI T) rF dg vo rc nx an f (nI T) = _
    unfold fX0_settle_l2b
    rw [if_pos (nI_le (Nat.le_refl T) (by omega))]
theorem startM_e {N T L P A : Nat} {rl rt rp ra rf b fm : Int32} {rc gr : Nat → Int64} {rP rF now dg vo ls ss nx ft : Nat → Int32} (hN : 16 < N) (h : IR1 T L P A rl rt rp ra rf rc rP rF now gr) (hF : IF1 T L rF) (hs : IS1 T dg vo now) : ∃ lm, itr (fun z => fX12_fit_l15b N 0 b fm now ss gr nx ft z.1 z.2) N (lb ls now 4 T, (0 : Int32)) = some lm ∧ (∀ k, k < T → ∃ d, d ≤ 999 ∧ lm k = nI d) ∧ ∀ k, k < T → ¬ dg k = -1 → lm k = nI (l0 rF k) := by
  have hT : T ≤ 16 := h.1.1
  have n1 : now 1 = nI T := h.2.2.1.2.1
  have hF2 := h.2.2.2.2.1
  have key : ∃ lm, itr (fun z => fX12_fit_l15b N 0 b fm now ss gr nx ft z.1 z.2) N (lb ls now 4 T, (0 : Int32)) = some lm ∧ ∀ k, k < T → lm k = if liv dg rF k = true then 1 else rF (14 * k + 4) := by
    refine itr_inv (fun (i : Nat) (z : (Nat → Int32) × Int32) => z.2 = nI i ∧ (∀ k, k < i → z.1 k = if liv dg rF k = true then 1 else rF (14 * k + 4)) ∧ ∀ k, i ≤ k → k < T → z.1 k = rF (14 * k + 4)) (fun (r : Nat → Int32) => ∀ k, k < T → r k = if liv dg rF k = true then 1 else rF (14 * k + 4)) (b := T) (by omega) ⟨rfl, fun k hk => absurd hk (Nat.not_lt_zero k), fun k _ hk => by show lb ls now 4 T k = _; rw [lb_in hk, ← hF2 k hk 4 (by decide)]⟩ ?_ ?_
    · rintro i ⟨f, v⟩ hi ⟨hv, hf, hg⟩
      have hv : v = nI i := hv
      subst hv
      have hf : ∀ k, k < i → f k = if liv dg rF k = true then 1 else rF (14 * k + 4) := hf
      have hg : ∀ k, i ≤ k → k < T → f k = rF (14 * k + 4) := hg
      by_cases lv : liv dg rF i = true
      · obtain ⟨u, d⟩ := liv_iff.mp lv
        refine ⟨(upd f i 1, nI (i + 1)), ?_, rfl, fun k hk => ?_, fun k h1 h2 => ?_⟩
        · show fX12_fit_l15b N 0 b fm now ss gr nx ft f (nI i) = _
          unfold fX12_fit_l15b
          rw [bind_e (things_e n1), if_neg (nI_ge hi (by omega)), bind_e (isUpM_e (by omega) now), ← (hs i (by omega)).1, if_neg u, if_neg (show ¬ (1 : Int32) = 0 by decide), bind_e (isDeadM_e (by omega) now), ← hF2 i hi 8 (by decide), if_pos d, if_pos rfl, gdi_nI (by omega) (by decide), nI_clamp (by omega), bnd_e, bnd_e, nI_1]
        · show upd f i 1 k = _
          by_cases e : k = i
          · rw [e, pk_us, if_pos lv]
          · rw [pk_un e]
            exact hf k (by omega)
        · show upd f i 1 k = _
          rw [pk_un (by omega)]
          exact hg k (by omega) h2
      · refine ⟨(f, nI (i + 1)), ?_, rfl, fun k hk => ?_, fun k h1 h2 => hg k (by omega) h2⟩
        · show fX12_fit_l15b N 0 b fm now ss gr nx ft f (nI i) = _
          unfold fX12_fit_l15b
          rw [bind_e (things_e n1), if_neg (nI_ge hi (by omega)), bind_e (isUpM_e (by omega) now), ← (hs i (by omega)).1]
          by_cases u : dg i = -1
          · rw [if_pos u, if_pos rfl, bnd_e, nI_1]
          · rw [if_neg u, if_neg (show ¬ (1 : Int32) = 0 by decide), bind_e (isDeadM_e (by omega) now), ← hF2 i hi 8 (by decide)]
            by_cases d : rF (14 * i + 8) = -1
            · exact absurd (liv_iff.mpr ⟨u, d⟩) lv
            · rw [if_neg d, if_neg (show ¬ (1 : Int32) = 0 by decide), bnd_e, nI_1]
        · by_cases e : k = i
          · rw [e, if_neg lv]
            exact hg i (Nat.le_refl i) hi
          · exact hf k (by omega)
    · rintro ⟨f, v⟩ ⟨hv, hf, -⟩
      have hv : v = nI T := hv
      subst hv
      refine ⟨f, ?_, hf⟩
      show fX12_fit_l15b N 0 b fm now ss gr nx ft f (nI T) = _
      unfold fX12_fit_l15b
      rw [bind_e (things_e n1), if_pos (nI_le (Nat.le_refl T) (by omega))]
  obtain ⟨lm, e1, e2⟩ := key
  refine ⟨lm, e1, fun k hk => ?_, fun k hk uk => ?_⟩
  · obtain ⟨-, e, e9⟩ := l0_9 hF hk
    rw [e2 k hk]
    split
    · exact ⟨1, by decide, rfl⟩
    · exact ⟨_, e9, e⟩
  · obtain ⟨-, e, -⟩ := l0_9 hF hk
    rw [e2 k hk]
    unfold l0
    by_cases d : rF (14 * k + 8) = -1
    · rw [if_pos (liv_iff.mpr ⟨uk, d⟩), if_pos d]
      rfl
    · rw [if_neg (fun q => d (liv_iff.mp q).2), if_neg d, ← e]

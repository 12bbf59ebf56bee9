/-! FIT: the rounds of both -/
theorem fact5 {T L k : Nat} {rF : Nat → Int32} (hF : IF1 T L rF) (hk : k < T) : rF (14 * k + 5) = nI (sNat rF k) ∧ 1 ≤ sNat rF k ∧ sNat rF k ≤ 99 ∧ rF (14 * k + 6) = nI (bNat rF k) ∧ bNat rF k ≤ 9999 := by
  obtain ⟨-, ⟨s, s1, s2, es⟩, B, hB, eB⟩ := facts_e hF hk
  unfold sNat bNat
  rw [es, eB, nI_clamp (by omega), nI_clamp (by omega)]
  exact ⟨rfl, s1, s2, rfl, hB⟩
theorem max1_e {x : Nat} (h : x < 2 ^ 31) : (if (1 : Int32) < nI x then nI x else (1 : Int32)) = nI (max 1 x) := by
  by_cases c : 1 < x
  · rw [if_pos (show (1 : Int32) < nI x from nI_lt (a := 1) c h), Nat.max_eq_right (by omega)]
  · rw [if_neg (show ¬ (1 : Int32) < nI x from nI_nlt (a := 1) (by omega) (by decide)), Nat.max_eq_left (by omega)]
    rfl
theorem ned_e {B q : Nat} (hB : B ≤ 9999) (hq : q ≤ 1598400) : (nI B + (10 : Int32) * nI q + (19 : Int32)) / (20 : Int32) = nI ((B + 10 * q + 19) / 20) := by
  rw [show (10 : Int32) * nI q = nI (10 * q) from pk_mul 10 q, nI_add, show nI (B + 10 * q) + (19 : Int32) = nI (B + 10 * q + 19) from nI_add _ 19]
  exact pk_div (d := 20) (by omega) (by decide) (by decide)
theorem neededC_e {N T L t : Nat} {dg vo lo sh lc rF : Nat → Int32} {rc : Nat → Int64} {l : Nat → Nat} (hN : 16 < N) (hT : T ≤ 16) (hF : IF1 T L rF) (hW : WS T dg lo sh) (h : ∀ k, k < T → lc k = nI (l k) ∧ l k ≤ 999) (ht : t < T) (hv : liv dg rF t = true) : fX0_neededBy N (nI T) dg vo rc lc rF (nI t) = some (nI (ned T dg vo rF rc l t)) := by
  have hb : hL dg vo rc (sNat rF) l t T ≤ T * 99900 := hL_le (fun k hk => (h k hk).2)
  have hb2 : T * 99900 ≤ 16 * 99900 := Nat.mul_le_mul hT (Nat.le_refl _)
  obtain ⟨-, -, -, eB, hB⟩ := fact5 hF ht
  unfold fX0_neededBy
  rw [show (((0 : Int32), (0 : Int32)) : Int32 × Int32) = (fun k => (nI (hL dg vo rc (sNat rF) l t k), nI k)) 0 from rfl, itr_0 (r := nI (hL dg vo rc (sNat rF) l t T)) (fun k => (nI (hL dg vo rc (sNat rF) l t k), nI k)) T (by omega) ?_ ?_]
  · show (fX5_told rF (nI t) (6 : Int32)).bind _ = _
    rw [bind_e (told_x (w := 6) (c := 6) rfl (by omega) (by decide) rF), gdz_e (by decide), bnd_e, eB, ned_e hB (by omega), max1_e (by omega)]
    unfold ned
    rw [if_pos hv]
  · show fX0_neededBy_l4b N (nI T) dg vo rc lc rF (nI t) (nI (hL dg vo rc (sNat rF) l t T)) (nI T) = _
    unfold fX0_neededBy_l4b
    rw [if_pos (nI_le (Nat.le_refl T) (by omega))]
  · intro k hk
    show fX0_neededBy_l4b N (nI T) dg vo rc lc rF (nI t) (nI (hL dg vo rc (sNat rF) l t k)) (nI k) = some (.inl (nI (hL dg vo rc (sNat rF) l t k + (if k ≠ t ∧ tch dg vo rc t k = true then rch (l k) (sNat rF k) (gp (dg k).toNatClampNeg (dg t).toNatClampNeg) else 0)), nI (k + 1)))
    unfold fX0_neededBy_l4b
    rw [if_neg (nI_ge hk (by omega))]
    by_cases hkt : k = t
    · rw [if_pos (by rw [hkt]), bnd_e, nI_1, if_neg (fun q => q.1 hkt)]
      rfl
    · rw [if_neg (fun q => hkt ((nI_eq (by omega) (by omega)).mp q)), bind_e (touching_e (a := k) (b := t) (by omega) (by omega) dg vo rc), tch_comm dg vo rc k t]
      by_cases c : tch dg vo rc t k = true
      · obtain ⟨ut, uk⟩ := tch_up c
        obtain ⟨et, gt⟩ := WS_dg hW (show t < 16 by omega) ut
        obtain ⟨ek, gk⟩ := WS_dg hW (show k < 16 by omega) uk
        obtain ⟨es, s1, s2, -, -⟩ := fact5 hF hk
        obtain ⟨el, l9⟩ := h k hk
        have g1 : fX11_gapBetween N (dg k) (dg t) = some (nI (gp (dg k).toNatClampNeg (dg t).toNatClampNeg)) := by
          conv => lhs; rw [ek, et]
          exact gapC gk gt
        rw [if_pos c, if_neg (show ¬ (1 : Int32) = 0 by decide), if_pos ⟨hkt, c⟩, gdi_nI (by omega) (by decide), gdi_nI (by omega) (by decide), nI_clamp (by omega), nI_clamp (show t < 2 ^ 31 by omega), bind_e g1, gdi_nI (by omega) (by decide), bind_e (told_x (w := 5) (c := 5) rfl (by omega) (by decide) rF), el, es, bind_e (reachC l9 s2 (gp_le gk gt)), bnd_e, bnd_e, nI_1, nI_add]
      · rw [if_neg c, if_pos rfl, bnd_e, nI_1, if_neg (fun q => c q.2)]
        rfl
/-- one needs too much -/
def big (T : Nat) (dg vo rF : Nat → Int32) (rc : Nat → Int64) (l : Nat → Nat) (k : Nat) : Bool := decide (999 < ned T dg vo rF rc l k)
theorem isLiving_liv {t : Nat} (ht : t < 16) (dg rF : Nat → Int32) : fX8_isLiving dg rF (nI t) = some (if liv dg rF t = true then 1 else 0) := by
  rw [isLiving_e ht]
  unfold liv
  by_cases c : dg t = -1 ∨ ¬ rF (14 * t + 8) = -1
  · rw [if_pos c, if_neg]
    rw [decide_eq_true_eq]
    exact fun q => q c
  · rw [if_neg c, if_pos]
    rw [decide_eq_true_eq]
    exact c
theorem ned_lt {T L k : Nat} {dg vo rF : Nat → Int32} {rc : Nat → Int64} {l : Nat → Nat} (hT : T ≤ 16) (hF : IF1 T L rF) (h : ∀ k, k < T → l k ≤ 999) (hk : k < T) : ned T dg vo rF rc l k ≤ 800000 := by
  have hb : hL dg vo rc (sNat rF) l k T ≤ T * 99900 := hL_le h
  have hb2 : T * 99900 ≤ 16 * 99900 := Nat.mul_le_mul hT (Nat.le_refl _)
  obtain ⟨-, -, -, -, hB⟩ := fact5 hF hk
  have h9 := h k hk
  unfold ned
  split
  · have : (bNat rF k + 10 * hL dg vo rc (sNat rF) l k T + 19) / 20 ≤ 800000 := by omega
    omega
  · omega
theorem hearAnew_e {N T L : Nat} {dg vo lo sh lc rF nx : Nat → Int32} {rc : Nat → Int64} {l : Nat → Nat} (hN : 16 < N) (hT : T ≤ 16) (hF : IF1 T L rF) (hW : WS T dg lo sh) (h : ∀ k, k < T → lc k = nI (l k) ∧ l k ≤ 999) : ∃ nx2, (fX0_hearAnew N (nI T) dg rF vo rc lc nx = some (nx2, if fa_first (big T dg vo rF rc l) T < T then 0 else 1)) ∧ (¬ fa_first (big T dg vo rF rc l) T < T → ∀ k, k < T → nx2 k = nI (ned T dg vo rF rc l k)) := by
  have step : ∀ k (f : Nat → Int32), k < T → fX0_hearAnew_l2b N (nI T) dg rF vo rc lc f (nI k) = some (if big T dg vo rF rc l k = true then .inr (.inr (upd f k (nI (ned T dg vo rF rc l k)), 0)) else .inl (upd f k (nI (ned T dg vo rF rc l k)), nI (k + 1))) := by
    intro k f hk
    have hle := ned_lt (dg := dg) (vo := vo) (rc := rc) hT hF (fun k hk => (h k hk).2) hk
    have j : fX0_hearAnew_j43_t_next N (nI T) dg rF vo rc lc f (nI k) (nI k) (nI (ned T dg vo rF rc l k)) = some (if big T dg vo rF rc l k = true then .inr (.inr (upd f k (nI (ned T dg vo rF rc l k)), 0)) else .inl (upd f k (nI (ned T dg vo rF rc l k)), nI (k + 1))) := by
      unfold fX0_hearAnew_j43_t_next big
      rw [gdi_nI (by omega) (by decide), nI_clamp (by omega), bnd_e, gdi_nI (by omega) (by decide), pk_us]
      by_cases c : 999 < ned T dg vo rF rc l k
      · rw [if_neg (show ¬ nI (ned T dg vo rF rc l k) ≤ (999 : Int32) from nI_ge (a := 999) c (by omega)), if_pos (decide_eq_true c)]
      · rw [if_pos (show nI (ned T dg vo rF rc l k) ≤ (999 : Int32) from nI_le (b := 999) (by omega) (by decide)), bnd_e, nI_1, if_neg (by rw [decide_eq_true_eq]; exact c)]
    unfold fX0_hearAnew_l2b
    rw [if_neg (nI_ge hk (by omega)), bind_e (isLiving_liv (by omega) dg rF)]
    by_cases c : liv dg rF k = true
    · rw [if_pos c, if_neg (show ¬ (1 : Int32) = 0 by decide), bind_e (neededC_e hN hT hF hW h hk c), j]
    · rw [if_neg c, if_pos rfl, gdi_nI (by omega) (by decide), nI_clamp (by omega), (h k hk).1]
      have e : ned T dg vo rF rc l k = l k := by
        unfold ned
        rw [if_neg c]
      rw [← j, e]
  have key : ∃ r, itr (fun z => fX0_hearAnew_l2b N (nI T) dg rF vo rc lc z.1 z.2) N (nx, (0 : Int32)) = some r ∧ (if fa_first (big T dg vo rF rc l) T < T then ∃ f, r = .inr (f, 0) else ∃ f, r = .inl f ∧ ∀ k, k < T → f k = nI (ned T dg vo rF rc l k)) := by
    refine itr_inv (fun (i : Nat) (z : (Nat → Int32) × Int32) => z.2 = nI i ∧ ∀ k, k < i → z.1 k = nI (ned T dg vo rF rc l k)) (fun (r : (Nat → Int32) ⊕ ((Nat → Int32) × Int32)) => if fa_first (big T dg vo rF rc l) T < T then ∃ f, r = .inr (f, 0) else ∃ f, r = .inl f ∧ ∀ k, k < T → f k = nI (ned T dg vo rF rc l k)) (b := fa_first (big T dg vo rF rc l) T) (Nat.lt_of_le_of_lt (fa_first_le _ _) (by omega)) ⟨rfl, fun k hk => absurd hk (Nat.not_lt_zero k)⟩ ?_ ?_
    · rintro i ⟨f, v⟩ hi ⟨rfl, hf⟩
      have hiT : i < T := Nat.lt_of_lt_of_le hi (fa_first_le _ _)
      refine ⟨(upd f i (nI (ned T dg vo rF rc l i)), nI (i + 1)), ?_, rfl, fun k hk => ?_⟩
      · show fX0_hearAnew_l2b N (nI T) dg rF vo rc lc f (nI i) = _
        rw [step i f hiT, if_neg (by rw [fa_first_no _ T i hi]; decide)]
      · show upd f i (nI (ned T dg vo rF rc l i)) k = _
        by_cases e : k = i
        · rw [e, pk_us]
        · rw [pk_un e]
          exact hf k (by omega)
    · rintro ⟨f, v⟩ ⟨rfl, hf⟩
      by_cases c : fa_first (big T dg vo rF rc l) T < T
      · refine ⟨.inr (upd f (fa_first (big T dg vo rF rc l) T) (nI (ned T dg vo rF rc l (fa_first (big T dg vo rF rc l) T))), 0), ?_, ?_⟩
        · show fX0_hearAnew_l2b N (nI T) dg rF vo rc lc f (nI (fa_first (big T dg vo rF rc l) T)) = _
          rw [step _ f c, if_pos (fa_first_yes _ T c)]
        · rw [if_pos c]
          exact ⟨_, rfl⟩
      · have e : fa_first (big T dg vo rF rc l) T = T := Nat.le_antisymm (fa_first_le _ T) (by omega)
        refine ⟨.inl f, ?_, ?_⟩
        · show fX0_hearAnew_l2b N (nI T) dg rF vo rc lc f (nI (fa_first (big T dg vo rF rc l) T)) = _
          rw [e]
          unfold fX0_hearAnew_l2b
          rw [if_pos (nI_le (Nat.le_refl T) (by omega))]
        · rw [if_neg c]
          exact ⟨f, rfl, fun k hk => hf k (by rw [e]; exact hk)⟩
  obtain ⟨r, e1, e2⟩ := key
  unfold fX0_hearAnew
  rw [bind_e e1]
  by_cases c : fa_first (big T dg vo rF rc l) T < T
  · rw [if_pos c] at e2
    obtain ⟨f, rfl⟩ := e2
    rw [if_pos c]
    exact ⟨f, rfl, fun q => absurd c q⟩
  · rw [if_neg c] at e2
    obtain ⟨f, rfl, hf⟩ := e2
    rw [if_neg c]
    exact ⟨f, rfl, fun _ => hf⟩
/-- a round of takeNext -/
theorem takeNext_e {N T : Nat} {lc nx : Nat → Int32} (hN : 16 < N) (hT : T ≤ 16) : ∃ lc2, fX0_takeNext N (nI T) nx lc = some (lc2, if fa_first (fun k => decide (¬ nx k = lc k)) T < T then 1 else 0) ∧ ∀ k, k < T → lc2 k = nx k := by
  have key : ∃ r, itr (fun z => fX0_takeNext_l4b N (nI T) nx z.1 z.2.1 z.2.2) N (lc, (0 : Int32), (0 : Int32)) = some r ∧ ((r.2 = if fa_first (fun k => decide (¬ nx k = lc k)) T < T then 1 else 0) ∧ ∀ k, k < T → r.1 k = nx k) := by
    refine itr_inv (fun (i : Nat) (z : (Nat → Int32) × Int32 × Int32) => z.2.2 = nI i ∧ (∀ k, k < i → z.1 k = nx k) ∧ (∀ k, i ≤ k → z.1 k = lc k) ∧ (z.2.1 = if fa_first (fun k => decide (¬ nx k = lc k)) i < i then 1 else 0)) (fun (r : (Nat → Int32) × Int32) => (r.2 = if fa_first (fun k => decide (¬ nx k = lc k)) T < T then 1 else 0) ∧ ∀ k, k < T → r.1 k = nx k) (b := T) (by omega) ⟨rfl, fun k hk => absurd hk (Nat.not_lt_zero k), fun k _ => rfl, by rw [if_neg (Nat.not_lt_zero _)]⟩ ?_ ?_
    · rintro i ⟨f, c, v⟩ hi ⟨hv, h1, h2, h3⟩
      have hv : v = nI i := hv
      subst hv
      have h3 : c = if fa_first (fun k => decide (¬ nx k = lc k)) i < i then 1 else 0 := h3
      have e1 : f i = lc i := h2 i (Nat.le_refl i)
      by_cases e : nx i = lc i
      · refine ⟨(f, c, nI (i + 1)), ?_, rfl, fun k hk => ?_, fun k hk => h2 k (by omega), ?_⟩
        · show fX0_takeNext_l4b N (nI T) nx f c (nI i) = _
          unfold fX0_takeNext_l4b
          rw [if_neg (nI_ge hi (by omega)), gdi_nI (by omega) (by decide), gdi_nI (by omega) (by decide), nI_clamp (by omega), e1, if_pos e, bnd_e, nI_1]
        · show f k = nx k
          by_cases ek : k = i
          · rw [ek, e1, e]
          · exact h1 k (by omega)
        · show c = _
          rw [h3]
          by_cases q : fa_first (fun k => decide (¬ nx k = lc k)) i < i
          · rw [if_pos q, if_pos (ff_yes (k := fa_first (fun k => decide (¬ nx k = lc k)) i) (by omega) (fa_first_yes _ i q))]
          · rw [if_neg q, if_neg (ff_no (fun k hk => ?_))]
            by_cases ek : k = i
            · rw [ek]
              exact decide_eq_false (fun z => z e)
            · have e2 : fa_first (fun k => decide (¬ nx k = lc k)) i = i := Nat.le_antisymm (fa_first_le _ i) (by omega)
              exact fa_first_no (fun k => decide (¬ nx k = lc k)) i k (by omega)
      · refine ⟨(upd f i (nx i), 1, nI (i + 1)), ?_, rfl, fun k hk => ?_, fun k hk => ?_, ?_⟩
        · show fX0_takeNext_l4b N (nI T) nx f c (nI i) = _
          unfold fX0_takeNext_l4b
          rw [if_neg (nI_ge hi (by omega)), gdi_nI (by omega) (by decide), gdi_nI (by omega) (by decide), nI_clamp (by omega), e1, if_neg e, gdi_nI (by omega) (by decide), gdi_nI (by omega) (by decide), bnd_e, bnd_e, nI_1]
        · show upd f i (nx i) k = nx k
          by_cases ek : k = i
          · rw [ek, pk_us]
          · rw [pk_un ek]
            exact h1 k (by omega)
        · show upd f i (nx i) k = lc k
          rw [pk_un (by omega)]
          exact h2 k (by omega)
        · show (1 : Int32) = _
          rw [if_pos (ff_yes (k := i) (Nat.lt_succ_self i) (decide_eq_true e))]
    · rintro ⟨f, c, v⟩ ⟨hv, h1, h2, h3⟩
      have hv : v = nI T := hv
      subst hv
      refine ⟨(f, c), ?_, h3, h1⟩
      show fX0_takeNext_l4b N (nI T) nx f c (nI T) = _
      unfold fX0_takeNext_l4b
      rw [if_pos (nI_le (Nat.le_refl T) (by omega))]
  obtain ⟨⟨f, c⟩, e1, e2, e3⟩ := key
  have e2 : c = if fa_first (fun k => decide (¬ nx k = lc k)) T < T then 1 else 0 := e2
  refine ⟨f, ?_, e3⟩
  unfold fX0_takeNext
  rw [bind_e e1]
  show gdb c (some (f, c)) = _
  rw [gdb_e, e2]
  rw [e2]
  split
  · exact Or.inr rfl
  · exact Or.inl rfl

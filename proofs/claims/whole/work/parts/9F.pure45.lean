/-! FIND: one thing at one PLACE with one VOICE, in both -/
def can (rF rP : Nat → Int32) (sk : Nat → Nat → Nat → Bool) (t p v : Nat) : Bool := decide (¬ hv (rF (14 * t + 3)) (nI v) = 0) && (decide (¬ ina (rF (14 * t + 1)) (rF (14 * t + 2)) (rP p) = 0) && !sk t p v)
theorem WS_put {T L P A t p : Nat} {rl rt rp ra rf : Int32} {rc gr : Nat → Int64} {rP rF now dg lo sh : Nat → Int32} (h : IR1 T L P A rl rt rp ra rf rc rP rF now gr) (hp : p < P) (hW : WS T dg lo sh) : WS T (upd dg t (rP p)) lo sh := WS_upd hW (Or.inr (h.2.2.2.1 p hp).2)
set_option maxHeartbeats 1000000 in
theorem putRightly_e {N T L P A t p v : Nat} {rl rt rp ra rf ot : Int32} {rc gr : Nat → Int64} {rP rF now dg vo lo sh he tn sd sv : Nat → Int32} {sk : Nat → Nat → Nat → Bool} (hN : 16 < N) (h : IR1 T L P A rl rt rp ra rf rc rP rF now gr) (hF : IF1 T L rF) (ht : t < T) (hp : p < P) (hW : WS T dg lo sh) (hH : IH T A dg vo lo sh he tn rc) (hu : dg t = -1) (hf : fw T A dg vo lo sh rF rc = -1) (hsk : sk t p v = (decide (¬ ot = 0) && (decide (sd t = rP p) && decide (sv t = nI v)))) : ∃ (dg2 vo2 he2 tn2 : Nat → Int32) (r : Int32), fX6_putRightly N ot (nI T) (nI A) rP rF sd sv dg vo rc he lo sh tn (nI t) (nI p) (nI v) = some (dg2, vo2, he2, tn2, r) ∧ IH T A dg2 vo2 lo sh he2 tn2 rc ∧ fw T A dg2 vo2 lo sh rF rc = -1 ∧ ((r = 1 ∧ can rF rP sk t p v = true ∧ dg2 = upd dg t (rP p) ∧ vo2 = upd vo t (nI v)) ∨ (r = 0 ∧ (can rF rP sk t p v = false ∨ ¬ fw T A (upd dg t (rP p)) (upd vo t (nI v)) lo sh rF rc = -1) ∧ dg2 = dg ∧ ∀ s, s ≠ t → vo2 s = vo s)) := by
  have hT : T ≤ 16 := h.1.1
  have hA : A ≤ 300 := h.1.2.2.2
  have hP : P ≤ 6 := h.1.2.2.1
  have tries : can rF rP sk t p v = true → ∃ (dg2 vo2 he2 tn2 : Nat → Int32) (r : Int32), fX6_putRightly_j74 N ot (nI T) (nI A) rP rF sd sv dg vo rc he lo sh tn (nI t) (nI v) (rP p) = some (dg2, vo2, he2, tn2, r) ∧ IH T A dg2 vo2 lo sh he2 tn2 rc ∧ fw T A dg2 vo2 lo sh rF rc = -1 ∧ ((r = 1 ∧ can rF rP sk t p v = true ∧ dg2 = upd dg t (rP p) ∧ vo2 = upd vo t (nI v)) ∨ (r = 0 ∧ (can rF rP sk t p v = false ∨ ¬ fw T A (upd dg t (rP p)) (upd vo t (nI v)) lo sh rF rc = -1) ∧ dg2 = dg ∧ ∀ s, s ≠ t → vo2 s = vo s)) := by
    intro hc
    have hW2 := WS_put (t := t) h hp hW
    have hH2 := IH_put (d := rP p) (v := nI v) ht hT hu hH
    unfold fX6_putRightly_j74
    rw [bind_e (put_e hN hT hA ht hW2), bind_e (firstWrongC_e hN hT hH2)]
    by_cases c : fw T A (upd dg t (rP p)) (upd vo t (nI v)) lo sh rF rc = -1
    · rw [if_pos c]
      exact ⟨_, _, _, _, _, rfl, hH2, c, Or.inl ⟨rfl, hc, rfl, rfl⟩⟩
    · rw [if_neg c, bind_e (take_e hN hT hA ht hW2)]
      refine ⟨_, _, _, _, _, rfl, IH_take ht hT hH2, ?_, Or.inr ⟨rfl, Or.inr c, ?_, fun s hs => ?_⟩⟩
      · rw [upd_upd, upd_upd]
        exact fw_less hT hF hW hf
      · rw [upd_upd]
        exact upd_id hu
      · show upd (upd vo t (nI v)) t (-1) s = vo s
        rw [pk_un hs, pk_un hs]
  have no : can rF rP sk t p v = false → ∃ (dg2 vo2 he2 tn2 : Nat → Int32) (r : Int32), (some (dg, vo, he, tn, (0 : Int32)) : Option ((Nat → Int32) × (Nat → Int32) × (Nat → Int32) × (Nat → Int32) × Int32)) = some (dg2, vo2, he2, tn2, r) ∧ IH T A dg2 vo2 lo sh he2 tn2 rc ∧ fw T A dg2 vo2 lo sh rF rc = -1 ∧ ((r = 1 ∧ can rF rP sk t p v = true ∧ dg2 = upd dg t (rP p) ∧ vo2 = upd vo t (nI v)) ∨ (r = 0 ∧ (can rF rP sk t p v = false ∨ ¬ fw T A (upd dg t (rP p)) (upd vo t (nI v)) lo sh rF rc = -1) ∧ dg2 = dg ∧ ∀ s, s ≠ t → vo2 s = vo s)) := fun hc => ⟨_, _, _, _, _, rfl, hH, hf, Or.inr ⟨rfl, Or.inl hc, rfl, fun s _ => rfl⟩⟩
  unfold fX6_putRightly
  rw [gdi_nI (by omega) (by decide), bnd_e, nI_clamp (n := p) (by omega), bind_e (hasVoiceC_e (by omega) rF (nI v))]
  by_cases c1 : hv (rF (14 * t + 3)) (nI v) = 0
  · rw [if_pos c1]
    exact no (by unfold can; rw [decide_eq_false (fun q => q c1), Bool.false_and])
  · rw [if_neg c1, bind_e (isInArcC_e (by omega) rF (rP p))]
    by_cases c2 : ina (rF (14 * t + 1)) (rF (14 * t + 2)) (rP p) = 0
    · rw [if_pos c2]
      exact no (by unfold can; rw [decide_eq_true c1, decide_eq_false (fun q => q c2), Bool.false_and, Bool.and_false])
    · rw [if_neg c2]
      have hcs : can rF rP sk t p v = !sk t p v := by
        unfold can
        rw [decide_eq_true c1, decide_eq_true c2, Bool.true_and, Bool.true_and]
      by_cases c3 : ot = 0
      · rw [if_pos c3]
        refine tries ?_
        rw [hcs, hsk, decide_eq_false (fun q => q c3), Bool.false_and]
        rfl
      · rw [if_neg c3, gdi_nI (by omega) (by decide), gdi_nI (by omega) (by decide), nI_clamp (by omega)]
        by_cases c4 : sd t = rP p
        · rw [if_pos c4]
          by_cases c5 : sv t = nI v
          · rw [if_pos c5]
            refine no ?_
            rw [hcs, hsk, decide_eq_true c3, decide_eq_true c4, decide_eq_true c5]
            rfl
          · rw [if_neg c5]
            refine tries ?_
            rw [hcs, hsk, decide_eq_true c3, decide_eq_true c4, decide_eq_false c5]
            rfl
        · rw [if_neg c4]
          refine tries ?_
          rw [hcs, hsk, decide_eq_true c3, decide_eq_false c4]
          rfl
theorem hv_01 (s v : Int32) : hv s v = 0 ∨ hv s v = 1 := by
  unfold hv
  split
  · exact Or.inl rfl
  · exact Or.inr rfl
theorem findStep {N T L P A n t p v : Nat} {rl rt rp ra rf v1 st : Int32} {rc gr : Nat → Int64} {rP rF now ls ss row was : Nat → Int32} {sk : Nat → Nat → Nat → Bool} {rcf : Int32 → (Nat → Int32) → (Nat → Int64) → (Nat → Int32) → (Nat → Int32) → (Nat → Int32) → (Nat → Int32) → Int32 → Int32 → Option ((Nat → Int32) × Int32)} (h : IR1 T L P A rl rt rp ra rf rc rP rF now gr) (ht : t < T) (hp : p < P) (hv4 : v < 4) (hsk : sk t p v = (decide (¬ hv st (nI t) = 0) && (decide (was (2 * t) = rP p) && decide (was (2 * t + 1) = nI v)))) : fX12_finds_l46b N rcf (nI n) gr ls ss row was v1 st (nI t) (nI p) now (nI v) = if can rF rP sk t p v = true then (rcf (nI n) (upd (upd now (340 + 2 * t) (rP p)) (341 + 2 * t) (nI v)) gr ls ss row was (v1 + 1) st).bind (fun o => if o.2 = 0 then some (.inl (o.1, nI (v + 1))) else some (.inr (.inr (o.1, 1)))) else some (.inl (now, nI (v + 1))) := by
  have hT : T ≤ 16 := h.1.1
  have hP : P ≤ 6 := h.1.2.2.1
  have hf := h.2.2.2.2.1 t ht
  have hq : now (5 + p) = rP p := ((h.2.2.2.1 p hp).1).symm
  have tries : fX12_finds_j132 N rcf (nI n) now gr ls ss row was v1 st (nI t) (nI p) (nI v) = (rcf (nI n) (upd (upd now (340 + 2 * t) (rP p)) (341 + 2 * t) (nI v)) gr ls ss row was (v1 + 1) st).bind (fun o => if o.2 = 0 then some (.inl (o.1, nI (v + 1))) else some (.inr (.inr (o.1, 1)))) := by
    unfold fX12_finds_j132
    rw [i5, gdi_nI (by omega) (by decide), nI_clamp (by omega), hq, bind_e (putM_e (by omega) now (rP p) (nI v)), ← nI_1 v]
    rfl
  unfold fX12_finds_l46b
  rw [if_neg (show ¬ (4 : Int32) ≤ nI v from nI_ge (b := 4) hv4 (by decide)), bind_e (ofM_x (w := 3) (c := 3) rfl (by omega) (by decide) now), bind_e (hasM_e _ _), ← hf 3 (by decide)]
  by_cases c1 : hv (rF (14 * t + 3)) (nI v) = 0
  · rw [if_pos c1, bnd_e, nI_1, if_neg (show ¬ can rF rP sk t p v = true by unfold can; rw [decide_eq_false (fun q => q c1), Bool.false_and]; decide)]
  · rw [if_neg c1, i5, gdi_nI (by omega) (by decide), nI_clamp (n := 5 + p) (by omega), hq, bind_e (isInArcM_e (by omega) now (rP p)), ← hf 1 (by decide), ← hf 2 (by decide)]
    by_cases c2 : ina (rF (14 * t + 1)) (rF (14 * t + 2)) (rP p) = 0
    · rw [if_pos c2, bnd_e, nI_1, if_neg (show ¬ can rF rP sk t p v = true by unfold can; rw [decide_eq_true c1, decide_eq_false (fun q => q c2), Bool.false_and, Bool.and_false]; decide)]
    · rw [if_neg c2, bind_e (hasM_e _ _)]
      have hcs : can rF rP sk t p v = !sk t p v := by
        unfold can
        rw [decide_eq_true c1, decide_eq_true c2, Bool.true_and, Bool.true_and]
      by_cases c3 : hv st (nI t) = 0
      · rw [if_pos c3, if_pos (show can rF rP sk t p v = true by rw [hcs, hsk, decide_eq_false (fun q => q c3), Bool.false_and]; rfl)]
        exact tries
      · rw [if_neg c3, show (2 : Int32) * nI t = nI (2 * t) from pk_mul 2 t, gdi_nI (k := 2 * t) (by omega) (by decide), gdi_nI (k := 5 + p) (by omega) (by decide), nI_clamp (n := 2 * t) (by omega), nI_1, gdi_nI (k := 2 * t + 1) (by omega) (by decide), nI_clamp (n := 2 * t + 1) (by omega)]
        by_cases c4 : was (2 * t) = rP p
        · rw [if_pos c4]
          by_cases c5 : was (2 * t + 1) = nI v
          · rw [if_pos c5, bnd_e, nI_1, if_neg (show ¬ can rF rP sk t p v = true by rw [hcs, hsk, decide_eq_true c3, decide_eq_true c4, decide_eq_true c5]; decide)]
          · rw [if_neg c5, if_pos (show can rF rP sk t p v = true by rw [hcs, hsk, decide_eq_true c3, decide_eq_true c4, decide_eq_false c5]; rfl)]
            exact tries
        · rw [if_neg c4, if_pos (show can rF rP sk t p v = true by rw [hcs, hsk, decide_eq_true c3, decide_eq_false c4]; rfl)]
          exact tries
theorem IR1_K {T L P A : Nat} {rl rt rp ra rf : Int32} {rc gr : Nat → Int64} {rP rF now0 now : Nat → Int32} (h : IR1 T L P A rl rt rp ra rf rc rP rF now0 gr) (hk : K0 now0 now) : IR1 T L P A rl rt rp ra rf rc rP rF now gr := IR1_keep h (fun j hj => hk j (Or.inl hj))
/-- from a wrong STANDING on the reference finds none -/
def DF (N T A n d k : Nat) (w : Nat → Nat) (lo sh rF now0 ls ss row was : Nat → Int32) (rc gr : Nat → Int64) (st : Int32) : Prop := ∀ (now dg vo : Nat → Int32), k ≤ n → n + 1 ≤ k + d → K0 now0 now → IS1 T dg vo now → ¬ fw T A dg vo lo sh rF rc = -1 → (∀ j, k ≤ j → j < n → dg (w j) = -1) → ∃ now2, fX12_finds N d (nI n) now gr ls ss row was (nI k) st = some (now2, 0) ∧ K0 now0 now2 ∧ IS1 T dg vo now2
set_option maxHeartbeats 1000000 in
theorem df_e {N T L P A n : Nat} {rl rt rp ra rf st : Int32} {rc gr : Nat → Int64} {rP rF now0 lo sh ls ss row was : Nat → Int32} {w : Nat → Nat} {sk : Nat → Nat → Nat → Bool} (hN : 16 < N) (h : IR1 T L P A rl rt rp ra rf rc rP rF now0 gr) (hF : IF1 T L rF) (hlo : ∀ t, t < T → lo t = rF (14 * t + 4) ∧ sh t = rF (14 * t + 5)) (hls : ∀ j, j < T → ls j = lo j ∧ ss j = sh j) (hn : n ≤ 4) (hw : ∀ j, j < n → w j < T) (hne : ∀ i j, i < j → j < n → w i ≠ w j) (hr : ∀ j, j < n → row j = nI (w j)) (hsk : ∀ j p v, j < n → p < P → v < 4 → sk (w j) p v = (decide (¬ hv st (nI (w j)) = 0) && (decide (was (2 * w j) = rP p) && decide (was (2 * w j + 1) = nI v)))) : ∀ d k, DF N T A n d k w lo sh rF now0 ls ss row was rc gr st
  | 0, k => by
    intro now dg vo h1 h2
    omega
  | d + 1, k => by
    intro now dg vo hk hkd hK hs hf hup
    have hT : T ≤ 16 := h.1.1
    have hP : P ≤ 6 := h.1.2.2.1
    show ∃ now2, fX12_finds_m N (fX12_finds N d) (nI n) now gr ls ss row was (nI k) st = some (now2, 0) ∧ _
    unfold fX12_finds_m
    by_cases c : k = n
    · rw [if_pos (by rw [c]), bind_e (firstWrongM_e hN (IR1_K h hK) hs (WS_of hs hlo hF) hls), if_neg hf]
      exact ⟨now, rfl, hK, hs⟩
    · have hkn : k < n := by omega
      have htT := hw k hkn
      rw [if_neg (fun e => c ((nI_eq (by omega) (by omega)).mp e)), gdi_nI (by omega) (by decide), bnd_e, nI_clamp (by omega), hr k hkn]
      have hu : dg (w k) = -1 := hup k (Nat.le_refl k) hkn
      have outer : ∃ r, itr (fun z => fX12_finds_l32b N (fX12_finds N d) (nI n) gr ls ss row was (nI k) st (nI (w k)) z.1 z.2) N (now, (0 : Int32)) = some r ∧ ∃ now2, r = .inl now2 ∧ K0 now0 now2 ∧ IS1x T (w k) dg vo now2 := by
        refine itr_inv (fun (p : Nat) (z : (Nat → Int32) × Int32) => z.2 = nI p ∧ K0 now0 z.1 ∧ IS1x T (w k) dg vo z.1) (fun (r : (Nat → Int32) ⊕ ((Nat → Int32) × Int32)) => ∃ now2, r = .inl now2 ∧ K0 now0 now2 ∧ IS1x T (w k) dg vo now2) (b := P) (by omega) ⟨rfl, hK, fun s hs1 _ => hs s hs1⟩ ?_ ?_
        · rintro p ⟨nw, v⟩ hp ⟨hv, hK1, hx1⟩
          have hv : v = nI p := hv
          subst hv
          have hK1 : K0 now0 nw := hK1
          have hx1 : IS1x T (w k) dg vo nw := hx1
          obtain ⟨pd, hpd, epd⟩ := (h.2.2.2.1 p hp).2
          have inner : ∃ r, itr (fun z => fX12_finds_l46b N (fX12_finds N d) (nI n) gr ls ss row was (nI k) st (nI (w k)) (nI p) z.1 z.2) N (nw, (0 : Int32)) = some r ∧ ∃ now2, r = .inl now2 ∧ K0 now0 now2 ∧ IS1x T (w k) dg vo now2 := by
            refine itr_inv (fun (v : Nat) (z : (Nat → Int32) × Int32) => z.2 = nI v ∧ K0 now0 z.1 ∧ IS1x T (w k) dg vo z.1) (fun (r : (Nat → Int32) ⊕ ((Nat → Int32) × Int32)) => ∃ now2, r = .inl now2 ∧ K0 now0 now2 ∧ IS1x T (w k) dg vo now2) (b := 4) (by omega) ⟨rfl, hK1, hx1⟩ ?_ ?_
            · rintro v ⟨nv, y⟩ hv4 ⟨hy, hK2, hx2⟩
              have hy : y = nI v := hy
              subst hy
              have hK2 : K0 now0 nv := hK2
              have hx2 : IS1x T (w k) dg vo nv := hx2
              show ∃ s', fX12_finds_l46b N (fX12_finds N d) (nI n) gr ls ss row was (nI k) st (nI (w k)) (nI p) nv (nI v) = some (.inl s') ∧ _
              rw [findStep (IR1_K h hK2) htT hp hv4 (hsk k p v hkn hp hv4)]
              by_cases cc : can rF rP sk (w k) p v = true
              · have hs2 := IS1x_put (d := rP p) (v := nI v) hx2 htT ⟨pd, hpd, epd⟩ ⟨v, hv4, rfl⟩
                obtain ⟨now3, e3, hK3, hs3⟩ := df_e (P := P) (sk := sk) hN h hF hlo hls hn hw hne hr hsk d (k + 1) _ (upd dg (w k) (rP p)) (upd vo (w k) (nI v)) (by omega) (by omega) (K0_put hK2 (show w k < 16 by omega)) hs2 (fw_more hT hF (WS_of hs2 hlo hF) hu hf) (fun j hj1 hj2 => by
                  rw [pk_un (Ne.symm (hne k j (by omega) hj2))]
                  exact hup j (by omega) hj2)
                rw [if_pos cc, nI_1 k, bind_e e3]
                exact ⟨(now3, nI (v + 1)), rfl, rfl, hK3, IS1x_of hs3⟩
              · rw [if_neg cc]
                exact ⟨(nv, nI (v + 1)), rfl, rfl, hK2, hx2⟩
            · rintro ⟨nv, y⟩ ⟨hy, hK2, hx2⟩
              have hy : y = nI 4 := hy
              subst hy
              refine ⟨.inl nv, ?_, nv, rfl, hK2, hx2⟩
              show fX12_finds_l46b N (fX12_finds N d) (nI n) gr ls ss row was (nI k) st (nI (w k)) (nI p) nv (nI 4) = _
              unfold fX12_finds_l46b
              rw [if_pos (show (4 : Int32) ≤ nI 4 from nI_le (a := 4) (Nat.le_refl 4) (by decide))]
          obtain ⟨r, e1, now2, rfl, hK2, hx2⟩ := inner
          refine ⟨(now2, nI (p + 1)), ?_, rfl, hK2, hx2⟩
          show fX12_finds_l32b N (fX12_finds N d) (nI n) gr ls ss row was (nI k) st (nI (w k)) nw (nI p) = _
          unfold fX12_finds_l32b
          rw [gdi_e (i := 2) (n := 380) 2 rfl (by decide) (by decide), show nw ((2 : Int32).toNatClampNeg) = nI P from (IR1_K h hK1).2.2.1.2.2.1, if_neg (nI_ge hp (by omega)), bind_e e1, Sum.elim_inl, bnd_e, nI_1]
        · rintro ⟨nw, v⟩ ⟨hv, hK1, hx1⟩
          have hv : v = nI P := hv
          subst hv
          refine ⟨.inl nw, ?_, nw, rfl, hK1, hx1⟩
          show fX12_finds_l32b N (fX12_finds N d) (nI n) gr ls ss row was (nI k) st (nI (w k)) nw (nI P) = _
          unfold fX12_finds_l32b
          rw [gdi_e (i := 2) (n := 380) 2 rfl (by decide) (by decide), show nw ((2 : Int32).toNatClampNeg) = nI P from (IR1_K h hK1).2.2.1.2.2.1, if_pos (nI_le (Nat.le_refl P) (by omega))]
      obtain ⟨r, e1, now2, rfl, hK2, hx2⟩ := outer
      rw [bind_e e1, Sum.elim_inl, bind_e (putM_e (by omega) now2 (-1) 0)]
      exact ⟨_, rfl, K0_put hK2 (by omega), IS1x_take hx2 hu⟩

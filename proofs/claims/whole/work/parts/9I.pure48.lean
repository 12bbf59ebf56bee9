/-! WAYS -/
theorem waysStep {N T L P A n t p v : Nat} {rl rt rp ra rf v1 a : Int32} {rc gr : Nat → Int64} {rP rF now ls ss row : Nat → Int32} {rcf : Int32 → (Nat → Int32) → (Nat → Int64) → (Nat → Int32) → (Nat → Int32) → (Nat → Int32) → Int32 → Option ((Nat → Int32) × Int32)} (h : IR1 T L P A rl rt rp ra rf rc rP rF now gr) (ht : t < T) (hp : p < P) (hv4 : v < 4) : fX12_waysFrom_l48b N rcf (nI n) gr ls ss row v1 (nI t) (nI p) now a (nI v) = if can rF rP (fun _ _ _ => false) t p v = true then (rcf (nI n) (upd (upd now (340 + 2 * t) (rP p)) (341 + 2 * t) (nI v)) gr ls ss row (v1 + 1)).bind (fun o => some (.inl (o.1, a + o.2, nI (v + 1)))) else some (.inl (now, a, nI (v + 1))) := by
  have hT : T ≤ 16 := h.1.1
  have hP : P ≤ 6 := h.1.2.2.1
  have hf := h.2.2.2.2.1 t ht
  have hq : now (5 + p) = rP p := ((h.2.2.2.1 p hp).1).symm
  unfold fX12_waysFrom_l48b
  rw [if_neg (show ¬ (4 : Int32) ≤ nI v from nI_ge (b := 4) hv4 (by decide)), bind_e (ofM_x (w := 3) (c := 3) rfl (by omega) (by decide) now), bind_e (hasM_e _ _), ← hf 3 (by decide)]
  by_cases c1 : hv (rF (14 * t + 3)) (nI v) = 0
  · rw [if_pos c1, bnd_e, nI_1, if_neg (show ¬ can rF rP (fun _ _ _ => false) t p v = true by unfold can; rw [decide_eq_false (fun q => q c1), Bool.false_and]; decide)]
  · rw [if_neg c1, i5, gdi_nI (by omega) (by decide), nI_clamp (n := 5 + p) (by omega), hq, bind_e (isInArcM_e (by omega) now (rP p)), ← hf 1 (by decide), ← hf 2 (by decide)]
    by_cases c2 : ina (rF (14 * t + 1)) (rF (14 * t + 2)) (rP p) = 0
    · rw [if_pos c2, bnd_e, nI_1, if_neg (show ¬ can rF rP (fun _ _ _ => false) t p v = true by unfold can; rw [decide_eq_true c1, decide_eq_false (fun q => q c2), Bool.false_and, Bool.and_false]; decide)]
    · rw [if_neg c2, if_pos (show can rF rP (fun _ _ _ => false) t p v = true by unfold can; rw [decide_eq_true c1, decide_eq_true c2]; rfl), gdi_nI (by omega) (by decide), bind_e (putM_e (by omega) now (rP p) (nI v)), ← nI_1 v]
      rfl
def DW (N T A n d k : Nat) (w : Nat → Nat) (lo sh rF now0 ls ss row : Nat → Int32) (rc gr : Nat → Int64) : Prop := ∀ (now dg vo : Nat → Int32), k ≤ n → n + 1 ≤ k + d → K0 now0 now → IS1 T dg vo now → ¬ fw T A dg vo lo sh rF rc = -1 → (∀ j, k ≤ j → j < n → dg (w j) = -1) → ∃ now2, fX12_waysFrom N d (nI n) now gr ls ss row (nI k) = some (now2, 0) ∧ K0 now0 now2 ∧ IS1 T dg vo now2
set_option maxHeartbeats 1000000 in
theorem dw_e {N T L P A n : Nat} {rl rt rp ra rf : Int32} {rc gr : Nat → Int64} {rP rF now0 lo sh ls ss row : Nat → Int32} {w : Nat → Nat} (hN : 16 < N) (h : IR1 T L P A rl rt rp ra rf rc rP rF now0 gr) (hF : IF1 T L rF) (hlo : ∀ t, t < T → lo t = rF (14 * t + 4) ∧ sh t = rF (14 * t + 5)) (hls : ∀ j, j < T → ls j = lo j ∧ ss j = sh j) (hn : n ≤ 4) (hw : ∀ j, j < n → w j < T) (hne : ∀ i j, i < j → j < n → w i ≠ w j) (hr : ∀ j, j < n → row j = nI (w j)) : ∀ d k, DW N T A n d k w lo sh rF now0 ls ss row rc gr
  | 0, k => by
    intro now dg vo h1 h2
    omega
  | d + 1, k => by
    intro now dg vo hk hkd hK hs hf hup
    have hT : T ≤ 16 := h.1.1
    have hP : P ≤ 6 := h.1.2.2.1
    show ∃ now2, fX12_waysFrom_m N (fX12_waysFrom N d) (nI n) now gr ls ss row (nI k) = some (now2, 0) ∧ _
    unfold fX12_waysFrom_m
    by_cases c : k = n
    · rw [if_pos (by rw [c]), bind_e (firstWrongM_e hN (IR1_K h hK) hs (WS_of hs hlo hF) hls), if_neg hf]
      exact ⟨now, rfl, hK, hs⟩
    · have hkn : k < n := by omega
      have htT := hw k hkn
      rw [if_neg (fun e => c ((nI_eq (by omega) (by omega)).mp e)), gdi_nI (by omega) (by decide), bnd_e, nI_clamp (by omega), hr k hkn]
      have hu : dg (w k) = -1 := hup k (Nat.le_refl k) hkn
      have outer : ∃ r, itr (fun z => fX12_waysFrom_l34b N (fX12_waysFrom N d) (nI n) gr ls ss row (nI k) (nI (w k)) z.1 z.2.1 z.2.2) N (now, (0 : Int32), (0 : Int32)) = some r ∧ r.2 = 0 ∧ K0 now0 r.1 ∧ IS1x T (w k) dg vo r.1 := by
        refine itr_inv (fun (p : Nat) (z : (Nat → Int32) × Int32 × Int32) => z.2.2 = nI p ∧ z.2.1 = 0 ∧ K0 now0 z.1 ∧ IS1x T (w k) dg vo z.1) (fun (r : (Nat → Int32) × Int32) => r.2 = 0 ∧ K0 now0 r.1 ∧ IS1x T (w k) dg vo r.1) (b := P) (by omega) ⟨rfl, rfl, hK, fun s hs1 _ => hs s hs1⟩ ?_ ?_
        · rintro p ⟨nw, a, v⟩ hp ⟨hv, ha, hK1, hx1⟩
          have hv : v = nI p := hv
          subst hv
          have ha : a = 0 := ha
          subst ha
          have hK1 : K0 now0 nw := hK1
          have hx1 : IS1x T (w k) dg vo nw := hx1
          obtain ⟨pd, hpd, epd⟩ := (h.2.2.2.1 p hp).2
          have inner : ∃ r, itr (fun z => fX12_waysFrom_l48b N (fX12_waysFrom N d) (nI n) gr ls ss row (nI k) (nI (w k)) (nI p) z.1 z.2.1 z.2.2) N (nw, (0 : Int32), (0 : Int32)) = some r ∧ r.2 = 0 ∧ K0 now0 r.1 ∧ IS1x T (w k) dg vo r.1 := by
            refine itr_inv (fun (v : Nat) (z : (Nat → Int32) × Int32 × Int32) => z.2.2 = nI v ∧ z.2.1 = 0 ∧ K0 now0 z.1 ∧ IS1x T (w k) dg vo z.1) (fun (r : (Nat → Int32) × Int32) => r.2 = 0 ∧ K0 now0 r.1 ∧ IS1x T (w k) dg vo r.1) (b := 4) (by omega) ⟨rfl, rfl, hK1, hx1⟩ ?_ ?_
            · rintro v ⟨nv, a, y⟩ hv4 ⟨hy, ha, hK2, hx2⟩
              have hy : y = nI v := hy
              subst hy
              have ha : a = 0 := ha
              subst ha
              have hK2 : K0 now0 nv := hK2
              have hx2 : IS1x T (w k) dg vo nv := hx2
              show ∃ s', fX12_waysFrom_l48b N (fX12_waysFrom N d) (nI n) gr ls ss row (nI k) (nI (w k)) (nI p) nv 0 (nI v) = some (.inl s') ∧ _
              rw [waysStep (IR1_K h hK2) htT hp hv4]
              by_cases cc : can rF rP (fun _ _ _ => false) (w k) p v = true
              · have hs2 := IS1x_put (d := rP p) (v := nI v) hx2 htT ⟨pd, hpd, epd⟩ ⟨v, hv4, rfl⟩
                obtain ⟨now3, e3, hK3, hs3⟩ := dw_e (P := P) hN h hF hlo hls hn hw hne hr d (k + 1) _ (upd dg (w k) (rP p)) (upd vo (w k) (nI v)) (by omega) (by omega) (K0_put hK2 (show w k < 16 by omega)) hs2 (fw_more hT hF (WS_of hs2 hlo hF) hu hf) (fun j hj1 hj2 => by
                  rw [pk_un (Ne.symm (hne k j (by omega) hj2))]
                  exact hup j (by omega) hj2)
                rw [if_pos cc, nI_1 k, bind_e e3]
                exact ⟨(now3, 0, nI (v + 1)), rfl, rfl, rfl, hK3, IS1x_of hs3⟩
              · rw [if_neg cc]
                exact ⟨(nv, 0, nI (v + 1)), rfl, rfl, rfl, hK2, hx2⟩
            · rintro ⟨nv, a, y⟩ ⟨hy, ha, hK2, hx2⟩
              have hy : y = nI 4 := hy
              subst hy
              refine ⟨(nv, a), ?_, ha, hK2, hx2⟩
              show fX12_waysFrom_l48b N (fX12_waysFrom N d) (nI n) gr ls ss row (nI k) (nI (w k)) (nI p) nv a (nI 4) = _
              unfold fX12_waysFrom_l48b
              rw [if_pos (show (4 : Int32) ≤ nI 4 from nI_le (a := 4) (Nat.le_refl 4) (by decide))]
          obtain ⟨⟨now2, a⟩, e1, ha, hK2, hx2⟩ := inner
          refine ⟨(now2, a, nI (p + 1)), ?_, rfl, ha, hK2, hx2⟩
          show fX12_waysFrom_l34b N (fX12_waysFrom N d) (nI n) gr ls ss row (nI k) (nI (w k)) nw 0 (nI p) = _
          unfold fX12_waysFrom_l34b
          rw [gdi_e (i := 2) (n := 380) 2 rfl (by decide) (by decide), show nw ((2 : Int32).toNatClampNeg) = nI P from (IR1_K h hK1).2.2.1.2.2.1, if_neg (nI_ge hp (by omega)), bind_e e1, bnd_e, nI_1]
        · rintro ⟨nw, a, v⟩ ⟨hv, ha, hK1, hx1⟩
          have hv : v = nI P := hv
          subst hv
          refine ⟨(nw, a), ?_, ha, hK1, hx1⟩
          show fX12_waysFrom_l34b N (fX12_waysFrom N d) (nI n) gr ls ss row (nI k) (nI (w k)) nw a (nI P) = _
          unfold fX12_waysFrom_l34b
          rw [gdi_e (i := 2) (n := 380) 2 rfl (by decide) (by decide), show nw ((2 : Int32).toNatClampNeg) = nI P from (IR1_K h hK1).2.2.1.2.2.1, if_pos (nI_le (Nat.le_refl P) (by omega))]
      obtain ⟨⟨now2, a⟩, e1, ha, hK2, hx2⟩ := outer
      have ha : a = 0 := ha
      subst ha
      rw [bind_e e1, bind_e (putM_e (by omega) now2 (-1) 0)]
      exact ⟨_, rfl, K0_put hK2 (by omega), IS1x_take hx2 hu⟩
def LW (N T P A n d k : Nat) (w : Nat → Nat) (lo sh rF rP now0 ls ss row wa sd sv : Nat → Int32) (rc gr : Nat → Int64) : Prop := ∀ (dg vo he tn now : Nat → Int32), k ≤ n → n + 1 ≤ k + d → K0 now0 now → IST T A dg vo lo sh he tn rc rF now → fw T A dg vo lo sh rF rc = -1 → (∀ j, k ≤ j → j < n → dg (w j) = -1) → ∃ (dg2 vo2 he2 tn2 now2 : Nat → Int32) (r : Int32), fX6_waysFrom N d (nI n) 0 wa (nI T) (nI P) (nI A) rP rF sd sv dg vo rc he lo sh tn (nI k) = some (dg2, vo2, he2, tn2, r) ∧ fX12_waysFrom N d (nI n) now gr ls ss row (nI k) = some (now2, r) ∧ K0 now0 now2 ∧ IST T A dg2 vo2 lo sh he2 tn2 rc rF now2 ∧ fw T A dg2 vo2 lo sh rF rc = -1 ∧ ∀ j, k ≤ j → j < n → dg2 (w j) = -1
set_option maxHeartbeats 2000000 in
theorem lw_e {N T L P A n : Nat} {rl rt rp ra rf : Int32} {rc gr : Nat → Int64} {rP rF now0 lo sh ls ss row wa sd sv : Nat → Int32} {w : Nat → Nat} (hN : 16 < N) (h : IR1 T L P A rl rt rp ra rf rc rP rF now0 gr) (hF : IF1 T L rF) (hlo : ∀ t, t < T → lo t = rF (14 * t + 4) ∧ sh t = rF (14 * t + 5)) (hls : ∀ j, j < T → ls j = lo j ∧ ss j = sh j) (hn : n ≤ 4) (hw : ∀ j, j < n → w j < T) (hne : ∀ i j, i < j → j < n → w i ≠ w j) (hr : ∀ j, j < n → row j = nI (w j)) (hwa : ∀ j, j < n → wa j = nI (w j)) : ∀ d k, LW N T P A n d k w lo sh rF rP now0 ls ss row wa sd sv rc gr
  | 0, k => by
    intro dg vo he tn now h1 h2
    omega
  | d + 1, k => by
    intro dg vo he tn now hk hkd hK hS hf hup
    have hT : T ≤ 16 := h.1.1
    have hP : P ≤ 6 := h.1.2.2.1
    have hA : A ≤ 300 := h.1.2.2.2
    show ∃ (dg2 vo2 he2 tn2 now2 : Nat → Int32) (r : Int32), fX6_waysFrom_m N (fX6_waysFrom N d) (nI n) 0 wa (nI T) (nI P) (nI A) rP rF sd sv dg vo rc he lo sh tn (nI k) = some (dg2, vo2, he2, tn2, r) ∧ fX12_waysFrom_m N (fX12_waysFrom N d) (nI n) now gr ls ss row (nI k) = some (now2, r) ∧ _
    unfold fX6_waysFrom_m fX12_waysFrom_m
    by_cases c : k = n
    · rw [if_neg (show ¬ nI k < nI n from nI_nlt (by omega) (by omega)), if_pos (show nI k = nI n by rw [c]), bind_e (firstWrongM_e hN (IR1_K h hK) hS.1 (WS_of hS.1 hlo hF) hls), if_pos hf]
      exact ⟨dg, vo, he, tn, now, 1, rfl, rfl, hK, hS, hf, hup⟩
    · have hkn : k < n := by omega
      have htT := hw k hkn
      rw [if_pos (nI_lt hkn (by omega)), if_neg (fun e => c ((nI_eq (by omega) (by omega)).mp e)), gdi_nI (n := 4) (by omega) (by decide), gdi_nI (n := 12) (by omega) (by decide), bnd_e, bnd_e, nI_clamp (by omega), hr k hkn, hwa k hkn]
      have outer : ∃ r q, itr (fun z => fX6_waysFrom_l22b N (fX6_waysFrom N d) (nI n) 0 wa (nI T) (nI P) (nI A) rP rF sd sv rc lo sh (nI k) (nI (w k)) z.1 z.2.1 z.2.2.1 z.2.2.2.1 z.2.2.2.2.1 z.2.2.2.2.2) N (dg, vo, he, tn, (0 : Int32), (0 : Int32)) = some r ∧ itr (fun z => fX12_waysFrom_l34b N (fX12_waysFrom N d) (nI n) gr ls ss row (nI k) (nI (w k)) z.1 z.2.1 z.2.2) N (now, (0 : Int32), (0 : Int32)) = some q ∧ r.2.2.2.2 = q.2 ∧ FI T A k n (w k) w lo sh rF now0 rc r.1 r.2.1 r.2.2.1 r.2.2.2.1 q.1 := by
        refine itr_inv2 (fun (p : Nat) (z : (Nat → Int32) × (Nat → Int32) × (Nat → Int32) × (Nat → Int32) × Int32 × Int32) (y : (Nat → Int32) × Int32 × Int32) => z.2.2.2.2.2 = nI p ∧ y.2.2 = nI p ∧ z.2.2.2.2.1 = y.2.1 ∧ FI T A k n (w k) w lo sh rF now0 rc z.1 z.2.1 z.2.2.1 z.2.2.2.1 y.1) (fun (r : (Nat → Int32) × (Nat → Int32) × (Nat → Int32) × (Nat → Int32) × Int32) (q : (Nat → Int32) × Int32) => r.2.2.2.2 = q.2 ∧ FI T A k n (w k) w lo sh rF now0 rc r.1 r.2.1 r.2.2.1 r.2.2.2.1 q.1) (b := P) (by omega) ⟨rfl, rfl, rfl, hK, fun s hs1 _ => hS.1 s hs1, hS.2.2, hf, hup⟩ ?_ ?_
        · rintro p ⟨dg1, vo1, he1, tn1, a, v⟩ ⟨nw, a', v'⟩ hp ⟨hv, hv', ha, hI⟩
          have hv : v = nI p := hv
          subst hv
          have hv' : v' = nI p := hv'
          subst hv'
          have ha : a = a' := ha
          subst ha
          have hI : FI T A k n (w k) w lo sh rF now0 rc dg1 vo1 he1 tn1 nw := hI
          obtain ⟨pd, hpd, epd⟩ := (h.2.2.2.1 p hp).2
          have inner : ∃ r q, itr (fun z => fX6_waysFrom_l37b N (fX6_waysFrom N d) (nI n) 0 wa (nI T) (nI P) (nI A) rP rF sd sv rc lo sh (nI k) (nI (w k)) (nI p) z.1 z.2.1 z.2.2.1 z.2.2.2.1 z.2.2.2.2.1 z.2.2.2.2.2) N (dg1, vo1, he1, tn1, a, (0 : Int32)) = some r ∧ itr (fun z => fX12_waysFrom_l48b N (fX12_waysFrom N d) (nI n) gr ls ss row (nI k) (nI (w k)) (nI p) z.1 z.2.1 z.2.2) N (nw, a, (0 : Int32)) = some q ∧ r.2.2.2.2 = q.2 ∧ FI T A k n (w k) w lo sh rF now0 rc r.1 r.2.1 r.2.2.1 r.2.2.2.1 q.1 := by
            refine itr_inv2 (fun (v : Nat) (z : (Nat → Int32) × (Nat → Int32) × (Nat → Int32) × (Nat → Int32) × Int32 × Int32) (y : (Nat → Int32) × Int32 × Int32) => z.2.2.2.2.2 = nI v ∧ y.2.2 = nI v ∧ z.2.2.2.2.1 = y.2.1 ∧ FI T A k n (w k) w lo sh rF now0 rc z.1 z.2.1 z.2.2.1 z.2.2.2.1 y.1) (fun (r : (Nat → Int32) × (Nat → Int32) × (Nat → Int32) × (Nat → Int32) × Int32) (q : (Nat → Int32) × Int32) => r.2.2.2.2 = q.2 ∧ FI T A k n (w k) w lo sh rF now0 rc r.1 r.2.1 r.2.2.1 r.2.2.2.1 q.1) (b := 4) (by omega) ⟨rfl, rfl, rfl, hI⟩ ?_ ?_
            · rintro v ⟨dg2, vo2, he2, tn2, b, y⟩ ⟨nv, b', y'⟩ hv4 ⟨hy, hy', hb, hI2⟩
              have hy : y = nI v := hy
              subst hy
              have hy' : y' = nI v := hy'
              subst hy'
              have hb : b = b' := hb
              subst hb
              have hI2 : FI T A k n (w k) w lo sh rF now0 rc dg2 vo2 he2 tn2 nv := hI2
              obtain ⟨K2, X2, H2, F2, U2⟩ := hI2
              have hu : dg2 (w k) = -1 := U2 k (Nat.le_refl k) hkn
              have W2 : WS T dg2 lo sh := WS_of (IS1x_take (w := 0) X2 hu) hlo hF
              have hstep := waysStep (N := N) (n := n) (v1 := nI k) (a := b) (ls := ls) (ss := ss) (row := row) (rcf := fX12_waysFrom N d) (IR1_K h K2) htT hp hv4
              obtain ⟨dg3, vo3, he3, tn3, r, e3, H3, F3, hor⟩ := putRightly_e (N := N) (ot := 0) (sd := sd) (sv := sv) (v := v) (sk := fun _ _ _ => false) hN h hF htT hp W2 H2 hu F2 rfl
              show ∃ s' t', fX6_waysFrom_l37b N (fX6_waysFrom N d) (nI n) 0 wa (nI T) (nI P) (nI A) rP rF sd sv rc lo sh (nI k) (nI (w k)) (nI p) dg2 vo2 he2 tn2 b (nI v) = some (.inl s') ∧ fX12_waysFrom_l48b N (fX12_waysFrom N d) (nI n) gr ls ss row (nI k) (nI (w k)) (nI p) nv b (nI v) = some (.inl t') ∧ _
              rw [hstep]
              unfold fX6_waysFrom_l37b
              rw [if_neg (show ¬ (4 : Int32) ≤ nI v from nI_ge (b := 4) hv4 (by decide)), bind_e e3]
              have hs2 := IS1x_put (d := rP p) (v := nI v) X2 htT ⟨pd, hpd, epd⟩ ⟨v, hv4, rfl⟩
              have up2 : ∀ j, k + 1 ≤ j → j < n → upd dg2 (w k) (rP p) (w j) = -1 := fun j hj1 hj2 => by
                rw [pk_un (Ne.symm (hne k j (by omega) hj2))]
                exact U2 j (by omega) hj2
              rcases hor with ⟨hr1, hc, hd3, hv3⟩ | ⟨hr0, hor, hd3, hv3⟩
              · subst hr1
                subst hd3
                subst hv3
                obtain ⟨dg4, vo4, he4, tn4, nw4, r4, e4, e4', K4, S4, F4, U4⟩ := lw_e (P := P) (sd := sd) (sv := sv) hN h hF hlo hls hn hw hne hr hwa d (k + 1) _ _ he3 tn3 (upd (upd nv (340 + 2 * w k) (rP p)) (341 + 2 * w k) (nI v)) (by omega) (by omega) (K0_put K2 (show w k < 16 by omega)) ⟨hs2, hlo, H3⟩ F3 up2
                have W4 := WS_of S4.1 hlo hF
                rw [if_pos hc, if_neg (show ¬ (1 : Int32) = 0 by decide), nI_1 k, bind_e e4, bind_e e4']
                refine ⟨(upd dg4 (w k) (-1), upd vo4 (w k) (-1), mH (-1) dg4 vo4 lo sh rc (w k) he4 T, mN (-1) A dg4 vo4 rc (w k) tn4 T, b + r4, nI (v + 1)), (nw4, b + r4, nI (v + 1)), ?_, rfl, rfl, rfl, rfl, K4, IS1x_less S4.1, IH_take htT hT S4.2.2, fw_less hT hF W4 F4, fun j hj1 hj2 => ?_⟩
                · rw [bnd_e, bind_e (take_e hN hT hA htT W4), bnd_e, nI_1]
                · show upd dg4 (w k) (-1) (w j) = -1
                  by_cases q : w j = w k
                  · rw [q, pk_us]
                  · rw [pk_un q]
                    exact U4 j (by
                      by_cases y : j = k
                      · exact absurd (by rw [y]) q
                      · omega) hj2
              · subst hr0
                subst hd3
                rw [if_pos (show (0 : Int32) = 0 from rfl), bnd_e, nI_1]
                rcases hor with hc | hbad
                · rw [if_neg (by rw [hc]; decide)]
                  exact ⟨(dg3, vo3, he3, tn3, b, nI (v + 1)), (nv, b, nI (v + 1)), rfl, rfl, rfl, rfl, rfl, K2, IS1x_vo X2 hv3, H3, F3, U2⟩
                · by_cases hc : can rF rP (fun _ _ _ => false) (w k) p v = true
                  · obtain ⟨now3, e4, K4, S4⟩ := dw_e (P := P) hN h hF hlo hls hn hw hne hr d (k + 1) _ (upd dg3 (w k) (rP p)) (upd vo2 (w k) (nI v)) (by omega) (by omega) (K0_put K2 (show w k < 16 by omega)) hs2 hbad up2
                    rw [if_pos hc, nI_1 k, bind_e e4]
                    exact ⟨(dg3, vo3, he3, tn3, b, nI (v + 1)), (now3, b + 0, nI (v + 1)), rfl, rfl, rfl, rfl, (Int32.add_zero b).symm, K4, IS1x_vo (IS1x_of S4) hv3, H3, F3, U2⟩
                  · rw [if_neg hc]
                    exact ⟨(dg3, vo3, he3, tn3, b, nI (v + 1)), (nv, b, nI (v + 1)), rfl, rfl, rfl, rfl, rfl, K2, IS1x_vo X2 hv3, H3, F3, U2⟩
            · rintro ⟨dg2, vo2, he2, tn2, b, y⟩ ⟨nv, b', y'⟩ ⟨hy, hy', hb, hI2⟩
              have hy : y = nI 4 := hy
              subst hy
              have hy' : y' = nI 4 := hy'
              subst hy'
              refine ⟨(dg2, vo2, he2, tn2, b), (nv, b'), ?_, ?_, hb, hI2⟩
              · show fX6_waysFrom_l37b N (fX6_waysFrom N d) (nI n) 0 wa (nI T) (nI P) (nI A) rP rF sd sv rc lo sh (nI k) (nI (w k)) (nI p) dg2 vo2 he2 tn2 b (nI 4) = _
                unfold fX6_waysFrom_l37b
                rw [if_pos (show (4 : Int32) ≤ nI 4 from nI_le (a := 4) (Nat.le_refl 4) (by decide))]
              · show fX12_waysFrom_l48b N (fX12_waysFrom N d) (nI n) gr ls ss row (nI k) (nI (w k)) (nI p) nv b' (nI 4) = _
                unfold fX12_waysFrom_l48b
                rw [if_pos (show (4 : Int32) ≤ nI 4 from nI_le (a := 4) (Nat.le_refl 4) (by decide))]
          obtain ⟨⟨dg2, vo2, he2, tn2, b⟩, ⟨nv, b'⟩, e1, e2, hb, hI2⟩ := inner
          refine ⟨(dg2, vo2, he2, tn2, b, nI (p + 1)), (nv, b', nI (p + 1)), ?_, ?_, rfl, rfl, hb, hI2⟩
          · show fX6_waysFrom_l22b N (fX6_waysFrom N d) (nI n) 0 wa (nI T) (nI P) (nI A) rP rF sd sv rc lo sh (nI k) (nI (w k)) dg1 vo1 he1 tn1 a (nI p) = _
            unfold fX6_waysFrom_l22b
            rw [if_neg (nI_ge hp (by omega)), bind_e e1, bnd_e, nI_1]
          · show fX12_waysFrom_l34b N (fX12_waysFrom N d) (nI n) gr ls ss row (nI k) (nI (w k)) nw a (nI p) = _
            unfold fX12_waysFrom_l34b
            rw [gdi_e (i := 2) (n := 380) 2 rfl (by decide) (by decide), show nw ((2 : Int32).toNatClampNeg) = nI P from (IR1_K h hI.1).2.2.1.2.2.1, if_neg (nI_ge hp (by omega)), bind_e e2, bnd_e, nI_1]
        · rintro ⟨dg2, vo2, he2, tn2, b, y⟩ ⟨nv, b', y'⟩ ⟨hy, hy', hb, hI2⟩
          have hy : y = nI P := hy
          subst hy
          have hy' : y' = nI P := hy'
          subst hy'
          refine ⟨(dg2, vo2, he2, tn2, b), (nv, b'), ?_, ?_, hb, hI2⟩
          · show fX6_waysFrom_l22b N (fX6_waysFrom N d) (nI n) 0 wa (nI T) (nI P) (nI A) rP rF sd sv rc lo sh (nI k) (nI (w k)) dg2 vo2 he2 tn2 b (nI P) = _
            unfold fX6_waysFrom_l22b
            rw [if_pos (nI_le (Nat.le_refl P) (by omega))]
          · show fX12_waysFrom_l34b N (fX12_waysFrom N d) (nI n) gr ls ss row (nI k) (nI (w k)) nv b' (nI P) = _
            unfold fX12_waysFrom_l34b
            rw [gdi_e (i := 2) (n := 380) 2 rfl (by decide) (by decide), show nv ((2 : Int32).toNatClampNeg) = nI P from (IR1_K h hI2.1).2.2.1.2.2.1, if_pos (nI_le (Nat.le_refl P) (by omega))]
      obtain ⟨⟨dg2, vo2, he2, tn2, b⟩, ⟨nv, b'⟩, e1, e2, hb, K2, X2, H2, F2, U2⟩ := outer
      have hb : b = b' := hb
      subst hb
      rw [bind_e e1, bind_e e2, bind_e (putM_e (by omega) nv (-1) 0)]
      exact ⟨dg2, vo2, he2, tn2, _, b, rfl, rfl, K0_put K2 (by omega), ⟨IS1x_take X2 (U2 k (Nat.le_refl k) hkn), hlo, H2⟩, F2, U2⟩
set_option maxHeartbeats 1000000 in
theorem p_ways {N T L P A : Nat} {rl rt rp ra rf b th rm tl ml rw0 len ot : Int32} {rc gr : Nat → Int64} {rP rF now now1 t u row rowM dg vo lo sh he tn d1 v1 l1 s1 h1 m1 wa ls ss was : Nat → Int32} (hN : 32 < N) (hI : IT tl t ml u) (h : IR1 T L P A rl rt rp ra rf rc rP rF now1 gr) (hF : IF1 T L rF) (hs : IST T A dg vo lo sh he tn rc rF now1) (hl : LY N b now now1) : ∃ (rl2 rm2 len2 ot2 : Int32) (row2 rowM2 d2 v2 l2 s2 h2 m2 wa2 ls2 ss2 was2 : Nat → Int32) (r : Int32), fX11_ways N tl rw0 t rt rp ra row rF len ot dg d1 vo v1 lo l1 sh s1 he h1 tn m1 wa rc rP = some (0, rl2, row2, len2, ot2, d2, v2, l2, s2, h2, m2, wa2, r) ∧ fX12_ways N th ml b rm now u rowM ls ss was gr = some (0, 0, 1, rm2, now1, rowM2, ls2, ss2, was2, r) := by
  have hT : T ≤ 16 := h.1.1
  unfold fX11_ways fX12_ways
  obtain rfl : rt = nI T := h.2.1.1
  obtain rfl : rp = nI P := h.2.1.2.2.1
  obtain rfl : ra = nI A := h.2.1.2.2.2
  rcases takeFree_e (N := N) (rw0 := rw0) (rm := rm) (row := row) (rowM := rowM) (by omega) hI h hl with ⟨rl2, row2, rm2, rowM2, e1, e2⟩ | ⟨n, w, row2, rowM2, hn1, hn, hw, hne, hr, hrM, hlv, e1, e2⟩
  · rw [bind_e e1, if_pos rfl, bind_e e2, if_pos rfl]
    exact ⟨_, _, _, _, _, _, _, _, _, _, _, _, _, _, _, _, _, rfl, rfl⟩
  · obtain ⟨dg2, vo2, lo2, sh2, he2, tn2, wa2, now2, e3, e4, K2, S2, W2, U2, E1, E2⟩ := lift_e (N := N) (d1 := d1) (v1 := v1) (l1 := l1) (s1 := s1) (h1 := h1) (m1 := m1) (wa := wa) (len := len) (ot := ot) (row := row2) (rowM := rowM2) (by omega) h hF hs hn hw hr hrM
    have hls : ∀ j, j < T → lb ls now1 4 T j = lo2 j ∧ lb ss now1 5 T j = sh2 j := fun j hj => by
      have := beams (ls := ls) (ss := ss) h hs j hj
      rw [this.1, this.2, E1 j (by omega), E2 j (by omega)]
      exact ⟨rfl, rfl⟩
    rw [bind_e e1, if_neg (show ¬ (1 : Int32) = 0 by decide), bind_e e2, if_neg (show ¬ (1 : Int32) = 0 by decide), bind_e (layBeams_e (by omega) hT h.2.2.1.2.1), bind_e (save_e (by omega) now1 was), bind_e e4]
    unfold fX6_countWays
    rw [bind_e e3, bind_e (isRight_e (by omega) hT S2.2.2)]
    by_cases c : fw T A dg2 vo2 lo2 sh2 rF rc = -1
    · obtain ⟨dg3, vo3, he3, tn3, now3, r, e5, e6, K3, -⟩ := lw_e (N := N) (P := P) (n := n) (ls := lb ls now1 4 T) (ss := lb ss now1 5 T) (row := rowM2) (wa := wa2) (sd := dg) (sv := vo) (by omega) h hF S2.2.1 hls hn hw hne hrM W2 10 0 dg2 vo2 he2 tn2 now2 (by omega) (by omega) K2 S2 c (fun j _ hj => U2 j hj)
      have e5 : fX6_waysFrom N 10 (nI n) 0 wa2 (nI T) (nI P) (nI A) rP rF dg vo dg2 vo2 rc he2 lo2 sh2 tn2 0 = some (dg3, vo3, he3, tn3, r) := e5
      have e6 : fX12_waysFrom N 10 (nI n) now2 gr (lb ls now1 4 T) (lb ss now1 5 T) rowM2 0 = some (now3, r) := e6
      rw [if_pos c, if_neg (show ¬ (1 : Int32) = 0 by decide), bind_e e5, bind_e e6, bind_e (bring_e (by omega) (svd now1 was) now3), bring_back K3]
      exact ⟨_, _, _, _, _, _, _, _, _, _, _, _, _, _, _, _, _, rfl, rfl⟩
    · obtain ⟨now3, e6, K3, S3⟩ := dw_e (N := N) (P := P) (n := n) (ls := lb ls now1 4 T) (ss := lb ss now1 5 T) (row := rowM2) (by omega) h hF S2.2.1 hls hn hw hne hrM 10 0 now2 dg2 vo2 (by omega) (by omega) K2 S2.1 c (fun j _ hj => U2 j hj)
      have e6 : fX12_waysFrom N 10 (nI n) now2 gr (lb ls now1 4 T) (lb ss now1 5 T) rowM2 0 = some (now3, 0) := e6
      rw [if_neg c, if_pos (show (0 : Int32) = 0 from rfl), bind_e e6, bind_e (bring_e (by omega) (svd now1 was) now3), bring_back K3]
      exact ⟨_, _, _, _, _, _, _, _, _, _, _, _, _, _, _, _, _, rfl, rfl⟩

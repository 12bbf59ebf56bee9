/-! MOST -/
def wt (rF : Nat → Int32) (t : Nat) : Nat := (rF (14 * t + 7)).toNatClampNeg
theorem wt_e {T L t : Nat} {rF : Nat → Int32} (hF : IF1 T L rF) (ht : t < T) : rF (14 * t + 7) = nI (wt rF t) ∧ wt rF t ≤ 9999 := by
  obtain ⟨-, -, -, -, -, -, -, ⟨d, hd, e⟩, -⟩ := hF t ht
  unfold wt
  rw [e, nI_clamp (by omega)]
  exact ⟨rfl, hd⟩
/-- the worth of those from k on -/
def rst (f : Nat → Nat) (n k : Nat) : Nat := fb_sm (fun j => f (k + j)) (n - k)
theorem sm_head (f : Nat → Nat) : ∀ m, fb_sm f (m + 1) = f 0 + fb_sm (fun j => f (j + 1)) m
  | 0 => by
    show 0 + f 0 = f 0 + 0
    omega
  | m + 1 => by
    have ih := sm_head f m
    show fb_sm f (m + 1) + f (m + 1) = f 0 + (fb_sm (fun j => f (j + 1)) m + f (m + 1))
    omega
theorem sm_congr {f g : Nat → Nat} : ∀ m, (∀ j, j < m → f j = g j) → fb_sm f m = fb_sm g m
  | 0, _ => rfl
  | m + 1, h => by
    show fb_sm f m + f m = fb_sm g m + g m
    rw [sm_congr m (fun j hj => h j (by omega)), h m (Nat.lt_succ_self m)]
theorem rst_s {f : Nat → Nat} {n k : Nat} (h : k < n) : rst f n k = f k + rst f n (k + 1) := by
  unfold rst
  obtain ⟨m, hm⟩ : ∃ m, n - k = m + 1 := ⟨n - k - 1, by omega⟩
  rw [hm, sm_head, show n - (k + 1) = m by omega]
  show f (k + 0) + _ = _
  rw [Nat.add_zero]
  exact congrArg (f k + ·) (sm_congr m (fun j _ => congrArg f (by omega)))
theorem rst_n (f : Nat → Nat) (n : Nat) : rst f n n = 0 := by
  unfold rst
  rw [Nat.sub_self]
  rfl
theorem rst_le {f : Nat → Nat} {n k : Nat} (h : ∀ j, j < n → f j ≤ 9999) (hk : k ≤ n) : rst f n k ≤ (n - k) * 9999 := by
  unfold rst
  exact fb_sm_bound (fun j hj => h (k + j) (by omega))
theorem worth_e {N T L n k : Nat} {rF wa : Nat → Int32} {w : Nat → Nat} (hN : 16 < N) (hT : T ≤ 16) (hF : IF1 T L rF) (hn : n ≤ 4) (hk : k ≤ n) (hw : ∀ j, j < n → w j < T) (hwa : ∀ j, j < n → wa j = nI (w j)) : fX6_worthFrom N (nI n) wa rF (nI k) = some (nI (rst (fun j => wt rF (w j)) n k)) := by
  unfold fX6_worthFrom
  have key : ∃ r, itr (fun z => fX6_worthFrom_l4b N (nI n) wa rF z.1 z.2) N ((0 : Int32), nI k) = some r ∧ r = nI (rst (fun j => wt rF (w j)) n k) := by
    refine itr_inv (fun (i : Nat) (z : Int32 × Int32) => z.1 = nI (fb_sm (fun j => wt rF (w (k + j))) i) ∧ z.2 = nI (k + i)) (fun (r : Int32) => r = nI (rst (fun j => wt rF (w j)) n k)) (b := n - k) (by omega) ⟨rfl, rfl⟩ ?_ ?_
    · rintro i ⟨a, v⟩ hi ⟨ha, hv⟩
      have hv : v = nI (k + i) := hv
      subst hv
      have ha : a = nI (fb_sm (fun j => wt rF (w (k + j))) i) := ha
      subst ha
      have hwi := hw (k + i) (by omega)
      refine ⟨(nI (fb_sm (fun j => wt rF (w (k + j))) i + wt rF (w (k + i))), nI (k + i + 1)), ?_, rfl, rfl⟩
      show fX6_worthFrom_l4b N (nI n) wa rF (nI (fb_sm (fun j => wt rF (w (k + j))) i)) (nI (k + i)) = _
      unfold fX6_worthFrom_l4b
      rw [if_neg (nI_ge (by omega) (by omega)), gdi_nI (by omega) (by decide), nI_clamp (by omega), hwa (k + i) (by omega), bind_e (told_x (w := 7) (c := 7) rfl (by omega) (by decide) rF), (wt_e hF hwi).1, bnd_e, bnd_e, nI_add, nI_1]
    · rintro ⟨a, v⟩ ⟨ha, hv⟩
      have e : k + (n - k) = n := by omega
      have hv : v = nI (k + (n - k)) := hv
      rw [e] at hv
      subst hv
      refine ⟨a, ?_, ha⟩
      show fX6_worthFrom_l4b N (nI n) wa rF a (nI n) = _
      unfold fX6_worthFrom_l4b
      rw [if_pos (nI_le (Nat.le_refl n) (by omega))]
  obtain ⟨r, e1, e2⟩ := key
  rw [bind_e e1, e2]
theorem mostStep {N T L P A n t p v : Nat} {rl rt rp ra rf v1 v2 mw : Int32} {rc gr : Nat → Int64} {rP rF now ls ss row sv : Nat → Int32} {rcf : Int32 → Int32 → (Nat → Int32) → (Nat → Int64) → (Nat → Int32) → (Nat → Int32) → (Nat → Int32) → (Nat → Int32) → Int32 → Int32 → Option (Int32 × (Nat → Int32) × (Nat → Int32))} (h : IR1 T L P A rl rt rp ra rf rc rP rF now gr) (ht : t < T) (hp : p < P) (hv4 : v < 4) : fX12_tryWorth_l63b N rcf (nI n) gr ls ss row v1 v2 (nI t) (nI p) mw now sv (nI v) = if can rF rP (fun _ _ _ => false) t p v = true then (rcf (nI n) mw (upd (upd now (340 + 2 * t) (rP p)) (341 + 2 * t) (nI v)) gr ls ss sv row (v1 + 1) (v2 + rF (14 * t + 7))).bind (fun o => some (.inl (o.1, o.2.1, o.2.2, nI (v + 1)))) else some (.inl (mw, now, sv, nI (v + 1))) := by
  have hT : T ≤ 16 := h.1.1
  have hP : P ≤ 6 := h.1.2.2.1
  have hf := h.2.2.2.2.1 t ht
  have hq : now (5 + p) = rP p := ((h.2.2.2.1 p hp).1).symm
  unfold fX12_tryWorth_l63b
  rw [if_neg (show ¬ (4 : Int32) ≤ nI v from nI_ge (b := 4) hv4 (by decide)), bind_e (ofM_x (w := 3) (c := 3) rfl (by omega) (by decide) now), bind_e (hasM_e _ _), ← hf 3 (by decide)]
  by_cases c1 : hv (rF (14 * t + 3)) (nI v) = 0
  · rw [if_pos c1, bnd_e, nI_1, if_neg (show ¬ can rF rP (fun _ _ _ => false) t p v = true by unfold can; rw [decide_eq_false (fun q => q c1), Bool.false_and]; decide)]
  · rw [if_neg c1, i5, gdi_nI (by omega) (by decide), nI_clamp (n := 5 + p) (by omega), hq, bind_e (isInArcM_e (by omega) now (rP p)), ← hf 1 (by decide), ← hf 2 (by decide)]
    by_cases c2 : ina (rF (14 * t + 1)) (rF (14 * t + 2)) (rP p) = 0
    · rw [if_pos c2, bnd_e, nI_1, if_neg (show ¬ can rF rP (fun _ _ _ => false) t p v = true by unfold can; rw [decide_eq_true c1, decide_eq_false (fun q => q c2), Bool.false_and, Bool.and_false]; decide)]
    · rw [if_neg c2, if_pos (show can rF rP (fun _ _ _ => false) t p v = true by unfold can; rw [decide_eq_true c1, decide_eq_true c2]; rfl), gdi_nI (by omega) (by decide), bind_e (putM_e (by omega) now (rP p) (nI v)), bind_e (ofM_x (w := 7) (c := 7) rfl (by omega) (by decide) _), keep340 (20 + 20 * t + 7) (by omega), ← hf 7 (by decide), ← nI_1 v]
      rfl
/-- nothing better lies there -/
def DM (N T A n d k : Nat) (w : Nat → Nat) (lo sh rF now0 ls ss row : Nat → Int32) (rc gr : Nat → Int64) : Prop := ∀ (now dg vo sv : Nat → Int32) (M : Option Nat) (x : Nat), k ≤ n → n + 1 ≤ k + d → K0 now0 now → IS1 T dg vo now → (¬ fw T A dg vo lo sh rF rc = -1 ∨ ∃ m, M = some m ∧ x + rst (fun j => wt rF (w j)) n k ≤ m) → (∀ m, M = some m → m ≤ 100000) → x + rst (fun j => wt rF (w j)) n k ≤ 100000 → (∀ j, k ≤ j → j < n → dg (w j) = -1) → ∃ now2, fX12_tryWorth N d (nI n) (enc M) now gr ls ss sv row (nI k) (nI x) = some (enc M, now2, sv) ∧ K0 now0 now2 ∧ IS1 T dg vo now2
set_option maxHeartbeats 1000000 in
theorem dm_e {N T L P A n : Nat} {rl rt rp ra rf : Int32} {rc gr : Nat → Int64} {rP rF now0 lo sh ls ss row : Nat → Int32} {w : Nat → Nat} (hN : 16 < N) (h : IR1 T L P A rl rt rp ra rf rc rP rF now0 gr) (hF : IF1 T L rF) (hlo : ∀ t, t < T → lo t = rF (14 * t + 4) ∧ sh t = rF (14 * t + 5)) (hls : ∀ j, j < T → ls j = lo j ∧ ss j = sh j) (hn : n ≤ 4) (hw : ∀ j, j < n → w j < T) (hne : ∀ i j, i < j → j < n → w i ≠ w j) (hr : ∀ j, j < n → row j = nI (w j)) : ∀ d k, DM N T A n d k w lo sh rF now0 ls ss row rc gr
  | 0, k => by
    intro now dg vo sv M x h1 h2
    omega
  | d + 1, k => by
    intro now dg vo sv M x hk hkd hK hs hf hM hx hup
    have hT : T ≤ 16 := h.1.1
    have hP : P ≤ 6 := h.1.2.2.1
    show ∃ now2, fX12_tryWorth_m N (fX12_tryWorth N d) (nI n) (enc M) now gr ls ss sv row (nI k) (nI x) = some (enc M, now2, sv) ∧ _
    unfold fX12_tryWorth_m
    by_cases c : k = n
    · subst c
      rw [if_pos rfl]
      by_cases c2 : nI x ≤ enc M
      · rw [if_pos c2]
        exact ⟨now, rfl, hK, hs⟩
      · have hf2 : ¬ fw T A dg vo lo sh rF rc = -1 := by
          rcases hf with q | ⟨m, q1, q2⟩
          · exact q
          · rw [rst_n] at q2
            have := hM m q1
            exact absurd (show nI x ≤ enc M by rw [q1]; exact nI_le (by omega) (by omega)) c2
        rw [if_neg c2, bind_e (firstWrongM_e hN (IR1_K h hK) hs (WS_of hs hlo hF) hls), if_neg hf2]
        exact ⟨now, rfl, hK, hs⟩
    · have hkn : k < n := by omega
      have htT := hw k hkn
      have hrs := rst_s (f := fun j => wt rF (w j)) hkn
      have hrs : rst (fun j => wt rF (w j)) n k = wt rF (w k) + rst (fun j => wt rF (w j)) n (k + 1) := hrs
      rw [if_neg (fun e => c ((nI_eq (by omega) (by omega)).mp e)), gdi_nI (by omega) (by decide), bnd_e, nI_clamp (by omega), hr k hkn]
      have hu : dg (w k) = -1 := hup k (Nat.le_refl k) hkn
      have outer : ∃ r, itr (fun z => fX12_tryWorth_l49b N (fX12_tryWorth N d) (nI n) gr ls ss row (nI k) (nI x) (nI (w k)) z.1 z.2.1 z.2.2.1 z.2.2.2) N (enc M, now, sv, (0 : Int32)) = some r ∧ r.1 = enc M ∧ r.2.2 = sv ∧ K0 now0 r.2.1 ∧ IS1x T (w k) dg vo r.2.1 := by
        refine itr_inv (fun (p : Nat) (z : Int32 × (Nat → Int32) × (Nat → Int32) × Int32) => z.2.2.2 = nI p ∧ z.1 = enc M ∧ z.2.2.1 = sv ∧ K0 now0 z.2.1 ∧ IS1x T (w k) dg vo z.2.1) (fun (r : Int32 × (Nat → Int32) × (Nat → Int32)) => r.1 = enc M ∧ r.2.2 = sv ∧ K0 now0 r.2.1 ∧ IS1x T (w k) dg vo r.2.1) (b := P) (by omega) ⟨rfl, rfl, rfl, hK, fun s hs1 _ => hs s hs1⟩ ?_ ?_
        · rintro p ⟨a, nw, sv', v⟩ hp ⟨hv, ha, hsv, hK1, hx1⟩
          have hv : v = nI p := hv
          subst hv
          have ha : a = enc M := ha
          subst ha
          have hsv : sv' = sv := hsv
          subst hsv
          have hK1 : K0 now0 nw := hK1
          have hx1 : IS1x T (w k) dg vo nw := hx1
          obtain ⟨pd, hpd, epd⟩ := (h.2.2.2.1 p hp).2
          have inner : ∃ r, itr (fun z => fX12_tryWorth_l63b N (fX12_tryWorth N d) (nI n) gr ls ss row (nI k) (nI x) (nI (w k)) (nI p) z.1 z.2.1 z.2.2.1 z.2.2.2) N (enc M, nw, sv', (0 : Int32)) = some r ∧ r.1 = enc M ∧ r.2.2 = sv' ∧ K0 now0 r.2.1 ∧ IS1x T (w k) dg vo r.2.1 := by
            refine itr_inv (fun (v : Nat) (z : Int32 × (Nat → Int32) × (Nat → Int32) × Int32) => z.2.2.2 = nI v ∧ z.1 = enc M ∧ z.2.2.1 = sv' ∧ K0 now0 z.2.1 ∧ IS1x T (w k) dg vo z.2.1) (fun (r : Int32 × (Nat → Int32) × (Nat → Int32)) => r.1 = enc M ∧ r.2.2 = sv' ∧ K0 now0 r.2.1 ∧ IS1x T (w k) dg vo r.2.1) (b := 4) (by omega) ⟨rfl, rfl, rfl, hK1, hx1⟩ ?_ ?_
            · rintro v ⟨a, nv, s2, y⟩ hv4 ⟨hy, ha, hsv, hK2, hx2⟩
              have hy : y = nI v := hy
              subst hy
              have ha : a = enc M := ha
              subst ha
              have hsv : s2 = sv' := hsv
              subst hsv
              have hK2 : K0 now0 nv := hK2
              have hx2 : IS1x T (w k) dg vo nv := hx2
              show ∃ s', fX12_tryWorth_l63b N (fX12_tryWorth N d) (nI n) gr ls ss row (nI k) (nI x) (nI (w k)) (nI p) (enc M) nv s2 (nI v) = some (.inl s') ∧ _
              rw [mostStep (IR1_K h hK2) htT hp hv4]
              by_cases cc : can rF rP (fun _ _ _ => false) (w k) p v = true
              · have hs2 := IS1x_put (d := rP p) (v := nI v) hx2 htT ⟨pd, hpd, epd⟩ ⟨v, hv4, rfl⟩
                obtain ⟨now3, e3, hK3, hs3⟩ := dm_e (P := P) hN h hF hlo hls hn hw hne hr d (k + 1) _ (upd dg (w k) (rP p)) (upd vo (w k) (nI v)) s2 M (x + wt rF (w k)) (by omega) (by omega) (K0_put hK2 (show w k < 16 by omega)) hs2 (by
                  rcases hf with q | ⟨m, q1, q2⟩
                  · exact Or.inl (fw_more hT hF (WS_of hs2 hlo hF) hu q)
                  · exact Or.inr ⟨m, q1, by omega⟩) hM (by omega) (fun j hj1 hj2 => by
                  rw [pk_un (Ne.symm (hne k j (by omega) hj2))]
                  exact hup j (by omega) hj2)
                rw [if_pos cc, nI_1 k, (wt_e hF htT).1, nI_add, bind_e e3]
                exact ⟨(enc M, now3, s2, nI (v + 1)), rfl, rfl, rfl, rfl, hK3, IS1x_of hs3⟩
              · rw [if_neg cc]
                exact ⟨(enc M, nv, s2, nI (v + 1)), rfl, rfl, rfl, rfl, hK2, hx2⟩
            · rintro ⟨a, nv, s2, y⟩ ⟨hy, ha, hsv, hK2, hx2⟩
              have hy : y = nI 4 := hy
              subst hy
              refine ⟨(a, nv, s2), ?_, ha, hsv, hK2, hx2⟩
              show fX12_tryWorth_l63b N (fX12_tryWorth N d) (nI n) gr ls ss row (nI k) (nI x) (nI (w k)) (nI p) a nv s2 (nI 4) = _
              unfold fX12_tryWorth_l63b
              rw [if_pos (show (4 : Int32) ≤ nI 4 from nI_le (a := 4) (Nat.le_refl 4) (by decide))]
          obtain ⟨⟨a, now2, s2⟩, e1, ha, hsv, hK2, hx2⟩ := inner
          refine ⟨(a, now2, s2, nI (p + 1)), ?_, rfl, ha, hsv, hK2, hx2⟩
          show fX12_tryWorth_l49b N (fX12_tryWorth N d) (nI n) gr ls ss row (nI k) (nI x) (nI (w k)) (enc M) nw sv' (nI p) = _
          unfold fX12_tryWorth_l49b
          rw [gdi_e (i := 2) (n := 380) 2 rfl (by decide) (by decide), show nw ((2 : Int32).toNatClampNeg) = nI P from (IR1_K h hK1).2.2.1.2.2.1, if_neg (nI_ge hp (by omega)), bind_e e1, bnd_e, nI_1]
        · rintro ⟨a, nw, s2, v⟩ ⟨hv, ha, hsv, hK1, hx1⟩
          have hv : v = nI P := hv
          subst hv
          refine ⟨(a, nw, s2), ?_, ha, hsv, hK1, hx1⟩
          show fX12_tryWorth_l49b N (fX12_tryWorth N d) (nI n) gr ls ss row (nI k) (nI x) (nI (w k)) a nw s2 (nI P) = _
          unfold fX12_tryWorth_l49b
          rw [gdi_e (i := 2) (n := 380) 2 rfl (by decide) (by decide), show nw ((2 : Int32).toNatClampNeg) = nI P from (IR1_K h hK1).2.2.1.2.2.1, if_pos (nI_le (Nat.le_refl P) (by omega))]
      obtain ⟨⟨a, now2, s2⟩, e1, ha, hsv, hK2, hx2⟩ := outer
      have ha : a = enc M := ha
      subst ha
      have hsv : s2 = sv := hsv
      subst hsv
      obtain ⟨now3, e3, hK3, hs3⟩ := dm_e (P := P) hN h hF hlo hls hn hw hne hr d (k + 1) _ dg vo s2 M x (by omega) (by omega) (K0_put hK2 (show w k < 16 by omega)) (IS1x_take (w := 0) hx2 hu) (by
        rcases hf with q | ⟨m, q1, q2⟩
        · exact Or.inl q
        · exact Or.inr ⟨m, q1, by omega⟩) hM (by omega) (fun j hj1 hj2 => hup j (by omega) hj2)
      rw [bind_e e1]
      show ∃ now2', (fX12_put now2 (nI (w k)) (-1) 0).bind _ = _ ∧ _
      rw [bind_e (putM_e (by omega) now2 (-1) 0), nI_1]
      refine ⟨now3, ?_, hK3, hs3⟩
      show (fX12_tryWorth N d (nI n) (enc M) (upd (upd now2 (340 + 2 * w k) (-1)) (341 + 2 * w k) 0) gr ls ss s2 row (nI (k + 1)) (nI x)).bind _ = _
      rw [bind_e e3]

/-! SHARES, both -/
theorem cp64_e {N : Nat} {ao am no nv now : Nat → Int32} {v1 : Int32} {D : Nat → Option Nat} (hN : 100 < N) (h : RS D ao am) : ∃ no2 nv2, itr (fun z => fX12_shareLand_l2b N ao am now v1 z.1 z.2.1 z.2.2) N (no, nv, (0 : Int32)) = some (no2, nv2) ∧ RS D no2 nv2 := by
  have key : ∃ r, itr (fun z => fX12_shareLand_l2b N ao am now v1 z.1 z.2.1 z.2.2) N (no, nv, (0 : Int32)) = some r ∧ RS D r.1 r.2 := by
    refine itr_inv (fun (i : Nat) (z : (Nat → Int32) × (Nat → Int32) × Int32) => z.2.2 = nI i ∧ ∀ j, j < i → z.1 j = ao j ∧ z.2.1 j = am j) (fun (r : (Nat → Int32) × (Nat → Int32)) => RS D r.1 r.2) (b := 64) (by omega) ⟨rfl, fun j hj => absurd hj (Nat.not_lt_zero j)⟩ ?_ ?_
    · rintro i ⟨f, g, v⟩ hi ⟨hv, hr⟩
      have hv : v = nI i := hv
      subst hv
      have hr : ∀ j, j < i → f j = ao j ∧ g j = am j := hr
      show ∃ s', fX12_shareLand_l2b N ao am now v1 f g (nI i) = some (.inl s') ∧ _
      unfold fX12_shareLand_l2b
      rw [if_neg (show ¬ (64 : Int32) ≤ nI i from nI_ge (b := 64) hi (by decide)), gdi_nI hi (by decide), gdi_nI hi (by decide), bnd_e, gdi_nI hi (by decide), gdi_nI hi (by decide), bnd_e, bnd_e, nI_clamp (by omega), nI_1]
      refine ⟨(upd f i (ao i), upd g i (am i), nI (i + 1)), rfl, rfl, fun j hj => ?_⟩
      show upd f i (ao i) j = _ ∧ upd g i (am i) j = _
      by_cases q : j = i
      · rw [q, pk_us, pk_us]
        exact ⟨rfl, rfl⟩
      · rw [pk_un q, pk_un q]
        exact hr j (by omega)
    · rintro ⟨f, g, v⟩ ⟨hv, hr⟩
      have hv : v = nI 64 := hv
      subst hv
      have hr : ∀ j, j < 64 → f j = ao j ∧ g j = am j := hr
      refine ⟨(f, g), ?_, ?_⟩
      · show fX12_shareLand_l2b N ao am now v1 f g (nI 64) = _
        unfold fX12_shareLand_l2b
        rw [if_pos (show (64 : Int32) ≤ nI 64 from nI_le (a := 64) (Nat.le_refl 64) (by decide))]
      · intro s hs
        show (_ → f s = -1) ∧ ∀ m, _ → f s = nI (pc s) ∧ g s = nI m
        rw [(hr s hs).1, (hr s hs).2]
        exact h s hs
  obtain ⟨⟨f, g⟩, e1, e2⟩ := key
  exact ⟨f, g, e1, e2⟩
theorem cpb_e {N : Nat} {ao am no nv now : Nat → Int32} {D : Nat → Option Nat} (hN : 100 < N) (h : RS D ao am) : ∃ no2 nv2, itr (fun z => fX12_shareLand_l197b N ao am now z.1 z.2.1 z.2.2) N (no, nv, (0 : Int32)) = some (no2, nv2) ∧ RS D no2 nv2 := by
  have e : (fun (z : (Nat → Int32) × (Nat → Int32) × Int32) => fX12_shareLand_l197b N ao am now z.1 z.2.1 z.2.2) = fun z => fX12_shareLand_l2b N ao am now 0 z.1 z.2.1 z.2.2 := rfl
  rw [e]
  exact cp64_e hN h
theorem elg_M {T L P A t land p : Nat} {rl rt rp ra rf : Int32} {rc gr : Nat → Int64} {rP rF now : Nat → Int32} (h : IR1 T L P A rl rt rp ra rf rc rP rF now gr) (ht : t < T) (hp : p < P) : elg rF rP land t p = (decide (now (20 + 20 * t + 0) = nI land) && (decide (now (20 + 20 * t + 8) = -1) && decide (¬ ina (now (20 + 20 * t + 1)) (now (20 + 20 * t + 2)) (now (5 + p)) = 0))) := by
  have hf := h.2.2.2.2.1 t ht
  unfold elg
  rw [hf 0 (by decide), hf 8 (by decide), hf 1 (by decide), hf 2 (by decide), (h.2.2.2.1 p hp).1]
set_option maxHeartbeats 1000000 in
theorem shareLand_e {N T L P A l : Nat} {rl rt rp ra rf : Int32} {rc gr : Nat → Int64} {rP rF now dg vo mo mv no nv : Nat → Int32} {D : Nat → Option Nat} (hN : 100 < N) (h : IR1 T L P A rl rt rp ra rf rc rP rF now gr) (hs : IS1 T dg vo now) (hD : RS D mo mv) (bD : bdd l D) (hl : l < 8) : ∃ mo2 no2 mv2 nv2, fX12_shareLand N mo no mv nv now (nI l) = some (mo2, no2, mv2, nv2) ∧ RS (fun s => stS D (fun p => mvt dg rF rP l p T) s P) mo2 mv2 := by
  have hT : T ≤ 16 := h.1.1
  have hP : P ≤ 6 := h.1.2.2.1
  unfold fX12_shareLand
  obtain ⟨n1, v1, e1, h1⟩ := cp64_e (N := N) (no := no) (nv := nv) (now := now) (v1 := nI l) hN hD
  rw [bind_e e1]
  have k2 : ∃ r, itr (fun z => fX12_shareLand_l40b N mo mv now (nI l) z.1 z.2.1 z.2.2) N (n1, v1, (0 : Int32)) = some r ∧ RS (fun s => stS D (fun p => mvt dg rF rP l p T) s P) r.1 r.2 := by
    refine itr_inv (fun (t : Nat) (z : (Nat → Int32) × (Nat → Int32) × Int32) => z.2.2 = nI t ∧ RS (fun s => stS D (fun p => mvt dg rF rP l p t) s P) z.1 z.2.1) (fun (r : (Nat → Int32) × (Nat → Int32)) => RS (fun s => stS D (fun p => mvt dg rF rP l p T) s P) r.1 r.2) (b := T) (by omega) ⟨rfl, RS_cong h1 (fun s _ => stS_none (fun p _ => rfl))⟩ ?_ ?_
    · rintro t ⟨f, g, v⟩ ht ⟨hv, hr⟩
      have hv : v = nI t := hv
      subst hv
      have hr : RS (fun s => stS D (fun p => mvt dg rF rP l p t) s P) f g := hr
      show ∃ s', fX12_shareLand_l40b N mo mv now (nI l) f g (nI t) = some (.inl s') ∧ _
      unfold fX12_shareLand_l40b
      rw [bind_e (things_e h.2.2.1.2.1), if_neg (nI_ge ht (by omega)), bind_e (ofM_x (w := 0) (c := 0) rfl (by omega) (by decide) now)]
      have same : (∀ p, p < P → elg rF rP l t p = false) → RS (fun s => stS D (fun p => mvt dg rF rP l p (t + 1)) s P) f g := by
        intro q
        refine RS_cong hr (fun s _ => stS_cong (fun p hp => ?_))
        show (if elg rF rP l t p = true then _ else mvt dg rF rP l p t) = mvt dg rF rP l p t
        rw [q p hp, if_neg (by decide)]
      by_cases c1 : now (20 + 20 * t + 0) = nI l
      · rw [if_pos c1, bind_e (isDeadM_e (by omega) now)]
        by_cases c2 : now (20 + 20 * t + 8) = -1
        · rw [if_pos c2, if_pos rfl]
          have k3 : ∃ r, itr (fun z => fX12_shareLand_l71b N mo mv now (nI l) (nI t) z.1 z.2.1 z.2.2) N (f, g, (0 : Int32)) = some r ∧ RS (fun s => stS D (fun p => mvt dg rF rP l p (t + 1)) s P) r.1 r.2 := by
            refine itr_inv (fun (k : Nat) (z : (Nat → Int32) × (Nat → Int32) × Int32) => z.2.2 = nI k ∧ RS (fun s => stS D (fun p => if p < k then mvt dg rF rP l p (t + 1) else mvt dg rF rP l p t) s P) z.1 z.2.1) (fun (r : (Nat → Int32) × (Nat → Int32)) => RS (fun s => stS D (fun p => mvt dg rF rP l p (t + 1)) s P) r.1 r.2) (b := P) (by omega) ⟨rfl, RS_cong hr (fun s _ => stS_cong (fun p _ => if_neg (Nat.not_lt_zero p)))⟩ ?_ ?_
            · rintro k ⟨f2, g2, v⟩ hk ⟨hv, hr2⟩
              have hv : v = nI k := hv
              subst hv
              have hr2 : RS (fun s => stS D (fun p => if p < k then mvt dg rF rP l p (t + 1) else mvt dg rF rP l p t) s P) f2 g2 := hr2
              show ∃ s', fX12_shareLand_l71b N mo mv now (nI l) (nI t) f2 g2 (nI k) = some (.inl s') ∧ _
              unfold fX12_shareLand_l71b
              rw [gdi_e (i := 2) (n := 380) 2 rfl (by decide) (by decide), show now ((2 : Int32).toNatClampNeg) = nI P from h.2.2.1.2.2.1, if_neg (nI_ge hk (by omega)), i5, gdi_nI (by omega) (by decide), nI_clamp (by omega), bind_e (isInArcM_e (by omega) now _)]
              have ee : elg rF rP l t k = decide (¬ ina (now (20 + 20 * t + 1)) (now (20 + 20 * t + 2)) (now (5 + k)) = 0) := by
                rw [elg_M h ht hk, decide_eq_true c1, decide_eq_true c2, Bool.true_and, Bool.true_and]
              by_cases c3 : ina (now (20 + 20 * t + 1)) (now (20 + 20 * t + 2)) (now (5 + k)) = 0
              · rw [if_pos c3, bnd_e, nI_1]
                refine ⟨(f2, g2, nI (k + 1)), rfl, rfl, RS_cong hr2 (fun s _ => stS_cong (fun p _ => ?_))⟩
                by_cases q : p = k
                · rw [q, if_pos (Nat.lt_succ_self k), if_neg (Nat.lt_irrefl k)]
                  show (if elg rF rP l t k = true then _ else mvt dg rF rP l k t) = _
                  rw [ee, decide_eq_false (fun w => w c3), if_neg (by decide)]
                · by_cases w : p < k
                  · rw [if_pos w, if_pos (by omega)]
                  · rw [if_neg w, if_neg (by omega)]
              · rw [if_neg c3]
                have bE : bdd 10 (fun s => stS D (fun p => if p < k then mvt dg rF rP l p (t + 1) else mvt dg rF rP l p t) s P) := by
                  intro s m hm
                  have := stS_bd (l := l) (k := P) bD (mv := fun p => if p < k then mvt dg rF rP l p (t + 1) else mvt dg rF rP l p t) (fun p a ha => by
                    by_cases w : p < k
                    · rw [if_pos w] at ha
                      exact mvt_1 ha
                    · rw [if_neg w] at ha
                      exact mvt_1 ha) hm
                  omega
                obtain ⟨f3, g3, e3, h3⟩ := shIn_e (N := N) (x := 0) (v1 := nI l) hN h hs ht hk hD hr2 bD bE (by omega)
                rw [bind_e e3, bnd_e, nI_1]
                refine ⟨(f3, g3, nI (k + 1)), rfl, rfl, RS_cong h3 (fun s _ => ?_)⟩
                exact stS_upd (p := k) (c := some (cst dg rP t k)) (by
                  rw [if_pos (Nat.lt_succ_self k), if_neg (Nat.lt_irrefl k)]
                  show (if elg rF rP l t k = true then om (mvt dg rF rP l k t) (some (cst dg rP t k)) else mvt dg rF rP l k t) = _
                  rw [ee, decide_eq_true c3, if_pos rfl]) (fun q hq => by
                  by_cases w : q < k
                  · rw [if_pos w, if_pos (by omega)]
                  · rw [if_neg w, if_neg (by omega)]) hk
            · rintro ⟨f2, g2, v⟩ ⟨hv, hr2⟩
              have hv : v = nI P := hv
              subst hv
              refine ⟨(f2, g2), ?_, RS_cong hr2 (fun s _ => stS_cong (fun p hp => (if_pos hp).symm))⟩
              show fX12_shareLand_l71b N mo mv now (nI l) (nI t) f2 g2 (nI P) = _
              unfold fX12_shareLand_l71b
              rw [gdi_e (i := 2) (n := 380) 2 rfl (by decide) (by decide), show now ((2 : Int32).toNatClampNeg) = nI P from h.2.2.1.2.2.1, if_pos (nI_le (Nat.le_refl P) (by omega))]
          obtain ⟨⟨f3, g3⟩, e3, h3⟩ := k3
          rw [bind_e e3, bnd_e, nI_1]
          exact ⟨(f3, g3, nI (t + 1)), rfl, rfl, h3⟩
        · rw [if_neg c2, if_neg (by decide), bnd_e, nI_1]
          refine ⟨(f, g, nI (t + 1)), rfl, rfl, same (fun p hp => ?_)⟩
          rw [elg_M h ht hp, decide_eq_false c2, Bool.false_and, Bool.and_false]
      · rw [if_neg c1, bnd_e, nI_1]
        refine ⟨(f, g, nI (t + 1)), rfl, rfl, same (fun p hp => ?_)⟩
        rw [elg_M h ht hp, decide_eq_false c1, Bool.false_and]
    · rintro ⟨f, g, v⟩ ⟨hv, hr⟩
      have hv : v = nI T := hv
      subst hv
      refine ⟨(f, g), ?_, hr⟩
      show fX12_shareLand_l40b N mo mv now (nI l) f g (nI T) = _
      unfold fX12_shareLand_l40b
      rw [bind_e (things_e h.2.2.1.2.1), if_pos (nI_le (Nat.le_refl T) (by omega))]
  obtain ⟨⟨f, g⟩, e2, h2⟩ := k2
  obtain ⟨m3, v3, e3, h3⟩ := cpb_e (N := N) (no := mo) (nv := mv) (now := now) hN h2
  refine ⟨m3, f, v3, g, ?_, h3⟩
  show (itr (fun z => fX12_shareLand_l40b N mo mv now (nI l) z.1 z.2.1 z.2.2) N (n1, v1, (0 : Int32))).bind _ = _
  rw [bind_e e2]
  show (itr (fun z => fX12_shareLand_l197b N f g now z.1 z.2.1 z.2.2) N (mo, mv, (0 : Int32))).bind _ = _
  rw [bind_e e3]
set_option maxHeartbeats 1000000 in
theorem p_shares {N T L P A : Nat} {rl rt rp ra rf b th la mo : Int32} {rc gr : Nat → Int64} {rP rF now now1 dg vo fe mt sM sV nM nV : Nat → Int32} (hN : 100 < N) (h : IR1 T L P A rl rt rp ra rf rc rP rF now1 gr) (hs : IS1 T dg vo now1) (hl : LY N b now now1) (x : Int32) : ∃ (la2 mo2 : Int32) (fe2 mt2 sM2 sV2 nM2 nV2 : Nat → Int32) (r : Int32), fX11_shares N la mo fe rl rt rp rP rF dg mt x = some (la2, mo2, fe2, mt2, r) ∧ fX12_shares N th b now sM sV nM nV x = some (0, 1, now1, sM2, sV2, nM2, nV2, r) := by
  have hT : T ≤ 16 := h.1.1
  have hL : L ≤ 8 := h.1.2.1
  have hP : P ≤ 6 := h.1.2.2.1
  unfold fX11_shares fX12_shares
  rw [bind_e hl, bind_e (isIn_e x 0 1), h.2.1.1, h.2.1.2.1, h.2.1.2.2.1]
  by_cases c0 : x < 0
  · rw [if_pos c0, if_neg (show ¬ (0 ≤ x ∧ x ≤ 1) from fun q => absurd (Int32.lt_of_lt_of_le c0 q.1) Int32.lt_irrefl), if_pos rfl]
    exact ⟨_, _, _, _, _, _, _, _, _, rfl, rfl⟩
  · rw [if_neg c0]
    by_cases c1 : x ≤ 1
    · rw [if_pos c1, if_pos (show 0 ≤ x ∧ x ≤ 1 from ⟨Int32.not_lt.mp c0, c1⟩), if_neg (show ¬ (1 : Int32) = 0 by decide)]
      obtain ⟨f2, m2, e1⟩ := divide_e (N := N) (T := T) (L := L) (P := P) (la := la) (mo := mo) (f := fe) (mt := mt) (rP := rP) (rF := rF) (dg := dg) hN hT hL hP
      have bd := DL_bd T P dg rF rP L
      have d0 := DL_0 T P dg rF rP L
      have k1 : ∃ r, itr (fun z => fX12_shares_l22b N 0 1 now1 nM nV x z.1 z.2.1 z.2.2) N (sM, sV, (0 : Int32)) = some r ∧ RS (DL T P dg rF rP 0) r.1 r.2 := by
        refine itr_inv (fun (i : Nat) (z : (Nat → Int32) × (Nat → Int32) × Int32) => z.2.2 = nI i ∧ ∀ j, j < i → z.1 j = (if j = 0 then 0 else -1) ∧ z.2.1 j = 0) (fun (r : (Nat → Int32) × (Nat → Int32)) => RS (DL T P dg rF rP 0) r.1 r.2) (b := 64) (by omega) ⟨rfl, fun j hj => absurd hj (Nat.not_lt_zero j)⟩ ?_ ?_
        · rintro i ⟨f, g, v⟩ hi ⟨hv, hr⟩
          have hv : v = nI i := hv
          subst hv
          have hr : ∀ j, j < i → f j = (if j = 0 then 0 else -1) ∧ g j = 0 := hr
          refine ⟨(upd f i (if i = 0 then 0 else -1), upd g i 0, nI (i + 1)), ?_, rfl, fun j hj => ?_⟩
          · show fX12_shares_l22b N 0 1 now1 nM nV x f g (nI i) = _
            unfold fX12_shares_l22b fX12_shares_j42_t_sharesMost
            rw [if_neg (show ¬ (64 : Int32) ≤ nI i from nI_ge (b := 64) hi (by decide)), gdi_nI hi (by decide), bnd_e, gdi_nI hi (by decide), bnd_e, bnd_e, nI_clamp (by omega), nI_1]
            by_cases q : i = 0
            · rw [if_pos (show nI i = 0 by rw [q]; rfl), if_pos q]
            · rw [if_neg (nI_ne0 (by omega) (by omega)), if_neg q, gdi_nI hi (by decide), bnd_e, gdi_nI hi (by decide), bnd_e, bnd_e]
          · show upd f i _ j = _ ∧ upd g i 0 j = 0
            by_cases q : j = i
            · rw [q, pk_us, pk_us]
              exact ⟨rfl, rfl⟩
            · rw [pk_un q, pk_un q]
              exact hr j (by omega)
        · rintro ⟨f, g, v⟩ ⟨hv, hr⟩
          have hv : v = nI 64 := hv
          subst hv
          have hr : ∀ j, j < 64 → f j = (if j = 0 then 0 else -1) ∧ g j = 0 := hr
          refine ⟨(f, g), ?_, fun s hs => ?_⟩
          · show fX12_shares_l22b N 0 1 now1 nM nV x f g (nI 64) = _
            unfold fX12_shares_l22b
            rw [if_pos (show (64 : Int32) ≤ nI 64 from nI_le (a := 64) (Nat.le_refl 64) (by decide))]
          · show ((if s = 0 then some 0 else none) = none → f s = -1) ∧ ∀ m, (if s = 0 then some 0 else none) = some m → f s = nI (pc s) ∧ g s = nI m
            rw [(hr s hs).1, (hr s hs).2]
            by_cases q : s = 0
            · rw [if_pos q, if_pos q, q, show pc 0 = 0 by decide]
              refine ⟨fun w => absurd w (by intro y; cases y), fun m w => ?_⟩
              cases w
              exact ⟨rfl, rfl⟩
            · rw [if_neg q, if_neg q]
              refine ⟨fun _ => rfl, fun m w => absurd w (by intro y; cases y)⟩
      obtain ⟨⟨f3, g3⟩, e3, h3⟩ := k1
      have k2 : ∃ r, itr (fun z => fX12_shares_l58b N 0 1 now1 x z.1 z.2.1 z.2.2.1 z.2.2.2.1 z.2.2.2.2) N (f3, g3, nM, nV, (0 : Int32)) = some r ∧ RS (DL T P dg rF rP L) r.1 r.2.1 := by
        refine itr_inv (fun (i : Nat) (z : (Nat → Int32) × (Nat → Int32) × (Nat → Int32) × (Nat → Int32) × Int32) => z.2.2.2.2 = nI i ∧ RS (DL T P dg rF rP i) z.1 z.2.1) (fun (r : (Nat → Int32) × (Nat → Int32) × (Nat → Int32) × (Nat → Int32)) => RS (DL T P dg rF rP L) r.1 r.2.1) (b := L) (by omega) ⟨rfl, h3⟩ ?_ ?_
        · rintro l ⟨f, g, f', g', v⟩ hi ⟨hv, hr⟩
          have hv : v = nI l := hv
          subst hv
          have hr : RS (DL T P dg rF rP l) f g := hr
          obtain ⟨f5, f6, g5, g6, e5, h5⟩ := shareLand_e (N := N) (no := f') (nv := g') hN h hs hr (DL_bd T P dg rF rP l) (by omega)
          refine ⟨(f5, g5, f6, g6, nI (l + 1)), ?_, rfl, h5⟩
          show fX12_shares_l58b N 0 1 now1 x f g f' g' (nI l) = _
          unfold fX12_shares_l58b
          rw [gdi_e (i := 0) (n := 380) 0 rfl (by decide) (by decide), show now1 ((0 : Int32).toNatClampNeg) = nI L from h.2.2.1.1, if_neg (nI_ge hi (by omega)), bind_e e5, bnd_e, nI_1]
        · rintro ⟨f, g, f', g', v⟩ ⟨hv, hr⟩
          have hv : v = nI L := hv
          subst hv
          refine ⟨(f, g, f', g'), ?_, hr⟩
          show fX12_shares_l58b N 0 1 now1 x f g f' g' (nI L) = _
          unfold fX12_shares_l58b
          rw [gdi_e (i := 0) (n := 380) 0 rfl (by decide) (by decide), show now1 ((0 : Int32).toNatClampNeg) = nI L from h.2.2.1.1, if_pos (nI_le (Nat.le_refl L) (by omega))]
      obtain ⟨⟨f4, g4, f5, g5⟩, e4, h4⟩ := k2
      have h4 : RS (DL T P dg rF rP L) f4 g4 := h4
      have k3 : itr (fun z => fX12_shares_l83b N 0 1 now1 f4 g4 f5 g5 x z.1 z.2) N ((0 : Int32), (1 : Int32)) = some (nI (pb (DL T P dg rF rP L) 63).1) := by
        refine itr_0 (fun i => (nI (pb (DL T P dg rF rP L) i).1, nI (i + 1))) 63 (n := N) (by omega) ?_ ?_
        · show fX12_shares_l83b N 0 1 now1 f4 g4 f5 g5 x _ (nI 64) = _
          unfold fX12_shares_l83b
          rw [if_pos (show (64 : Int32) ≤ nI 64 from nI_le (a := 64) (Nat.le_refl 64) (by decide))]
        · intro i hi
          show fX12_shares_l83b N 0 1 now1 f4 g4 f5 g5 x (nI (pb (DL T P dg rF rP L) i).1) (nI (i + 1)) = some (.inl (nI (pb (DL T P dg rF rP L) (i + 1)).1, nI (i + 1 + 1)))
          obtain ⟨p1, p2⟩ := pb_D d0 i
          have p3 := bd _ _ p2
          obtain ⟨q1, q2⟩ := (h4 (pb (DL T P dg rF rP L) i).1 (by omega)).2 _ p2
          have hp := pc_le (pb (DL T P dg rF rP L) i).1
          have hq := pc_le (i + 1)
          unfold fX12_shares_l83b
          rw [if_neg (show ¬ (64 : Int32) ≤ nI (i + 1) from nI_ge (b := 64) (by omega) (by decide)), gdi_nI (k := i + 1) (by omega) (by decide), gdi_nI (k := (pb (DL T P dg rF rP L) i).1) (by omega) (by decide), gdi_nI (k := i + 1) (by omega) (by decide), gdi_nI (k := (pb (DL T P dg rF rP L) i).1) (by omega) (by decide), gdi_nI (k := i + 1) (by omega) (by decide), gdi_nI (k := (pb (DL T P dg rF rP L) i).1) (by omega) (by decide), bnd_e, bnd_e, nI_1, nI_clamp (n := i + 1) (by omega), nI_clamp (n := (pb (DL T P dg rF rP L) i).1) (by omega), q1, q2]
          cases e : DL T P dg rF rP L (i + 1) with
          | none =>
            rw [(h4 (i + 1) (by omega)).1 e, if_neg (show ¬ nI (pc (pb (DL T P dg rF rP L) i).1) < -1 from fun q => absurd (Int32.lt_trans q (show (-1 : Int32) < 0 by decide)) (nI_nlt0 (by omega))), if_neg (show ¬ (-1 : Int32) = nI (pc (pb (DL T P dg rF rP L) i).1) from fun q => nI_m1 (by omega) q.symm), pb_n e]
          | some m =>
            obtain ⟨r1, r2⟩ := (h4 (i + 1) (by omega)).2 m e
            have p4 := bd _ _ e
            rw [r1, r2, pb_s e]
            by_cases c2 : pc (pb (DL T P dg rF rP L) i).1 < pc (i + 1)
            · rw [if_pos (nI_lt c2 (by omega)), if_pos (Or.inl c2)]
            · rw [if_neg (nI_nlt (by omega) (by omega))]
              by_cases c3 : pc (i + 1) = pc (pb (DL T P dg rF rP L) i).1
              · rw [if_pos (by rw [c3])]
                by_cases c4 : (pb (DL T P dg rF rP L) i).2 ≤ m
                · rw [if_pos (nI_le c4 (by omega)), if_neg (by omega)]
                · rw [if_neg (nI_ge (by omega) (by omega)), if_pos (Or.inr (by omega))]
              · rw [if_neg (fun q => c3 ((nI_eq (by omega) (by omega)).mp q)), if_neg (by omega)]
      obtain ⟨p1, p2⟩ := pb_D d0 63
      obtain ⟨q1, q2⟩ := (h4 (pb (DL T P dg rF rP L) 63).1 (by omega)).2 _ p2
      rw [bind_e e1]
      show ∃ (la2 mo2 : Int32) (fe2 mt2 sM2 sV2 nM2 nV2 : Nat → Int32) (r : Int32), _ ∧ ((itr (fun z => fX12_shares_l22b N 0 1 now1 nM nV x z.1 z.2.1 z.2.2) N (sM, sV, (0 : Int32))).bind _ = _)
      rw [bind_e e3]
      show ∃ (la2 mo2 : Int32) (fe2 mt2 sM2 sV2 nM2 nV2 : Nat → Int32) (r : Int32), _ ∧ ((itr (fun z => fX12_shares_l58b N 0 1 now1 x z.1 z.2.1 z.2.2.1 z.2.2.2.1 z.2.2.2.2) N (f3, g3, nM, nV, (0 : Int32))).bind _ = _)
      rw [bind_e e4]
      show ∃ (la2 mo2 : Int32) (fe2 mt2 sM2 sV2 nM2 nV2 : Nat → Int32) (r : Int32), _ ∧ ((itr (fun z => fX12_shares_l83b N 0 1 now1 f4 g4 f5 g5 x z.1 z.2) N ((0 : Int32), (1 : Int32))).bind _ = _)
      rw [bind_e k3, gdi_nI (by omega) (by decide), gdi_nI (by omega) (by decide), nI_clamp (by omega)]
      refine ⟨nI (pc (pb (DL T P dg rF rP L) 63).1), nI (pb (DL T P dg rF rP L) 63).2, f2, m2, f4, g4, f5, g5, (if x = 0 then nI (pc (pb (DL T P dg rF rP L) 63).1) else nI (pb (DL T P dg rF rP L) 63).2), ?_, ?_⟩
      · by_cases c : x = 0
        · rw [if_pos c, if_pos c]
        · rw [if_neg c, if_neg c]
      · by_cases c : x = 0
        · rw [if_pos c, if_pos c]
          show some (_, _, _, _, _, _, _, f4 _) = _
          rw [q1]
        · rw [if_neg c, if_neg c]
          show some (_, _, _, _, _, _, _, g4 _) = _
          rw [q2]
    · rw [if_neg c1, if_neg (show ¬ (0 ≤ x ∧ x ≤ 1) from fun q => c1 q.2), if_pos rfl]
      exact ⟨_, _, _, _, _, _, _, _, _, rfl, rfl⟩

/-! SHARES, the class: divide; the reference -/
theorem divide_e {N T L P : Nat} {la mo : Int32} {f mt rP rF dg : Nat → Int32} (hN : 100 < N) (hT : T ≤ 16) (hL : L ≤ 8) (hP : P ≤ 6) : ∃ f2 mt2, fX7_divide N la mo f (nI L) (nI T) (nI P) rP rF dg mt = some (nI (pc (pb (DL T P dg rF rP L) 63).1), nI (pb (DL T P dg rF rP L) 63).2, f2, mt2) := by
  unfold fX7_divide
  have k1 : ∃ f2, itr (fun z => fX7_divide_l2b N la mo (nI L) (nI T) (nI P) rP rF dg mt z.1 z.2) N (f, (0 : Int32)) = some f2 ∧ ∀ j, j < 64 → f2 j = enc (DL T P dg rF rP 0 j) := by
    refine itr_inv (fun (i : Nat) (z : (Nat → Int32) × Int32) => z.2 = nI i ∧ ∀ j, j < i → z.1 j = enc (DL T P dg rF rP 0 j)) (fun (r : Nat → Int32) => ∀ j, j < 64 → r j = enc (DL T P dg rF rP 0 j)) (b := 64) (by omega) ⟨rfl, fun j hj => absurd hj (Nat.not_lt_zero j)⟩ ?_ ?_
    · rintro i ⟨g, v⟩ hi ⟨hv, hg⟩
      have hv : v = nI i := hv
      subst hv
      have hg : ∀ j, j < i → g j = enc (DL T P dg rF rP 0 j) := hg
      have go : ∀ x, x = enc (DL T P dg rF rP 0 i) → ∀ j, j < i + 1 → upd g i x j = enc (DL T P dg rF rP 0 j) := by
        intro x hx j hj
        by_cases q : j = i
        · rw [q, pk_us, hx]
        · rw [pk_un q]
          exact hg j (by omega)
      show ∃ s', fX7_divide_l2b N la mo (nI L) (nI T) (nI P) rP rF dg mt g (nI i) = some (.inl s') ∧ _
      unfold fX7_divide_l2b
      rw [if_neg (show ¬ (64 : Int32) ≤ nI i from nI_ge (b := 64) hi (by decide)), gdi_nI (by omega) (by decide), gdi_nI (by omega) (by decide), nI_clamp (by omega), bnd_e, bnd_e, bnd_e, bnd_e, nI_1]
      by_cases c : i = 0
      · rw [if_pos (show nI i = 0 by rw [c]; rfl)]
        refine ⟨(upd g i 0, nI (i + 1)), rfl, rfl, go 0 ?_⟩
        rw [c]
        rfl
      · rw [if_neg (show ¬ nI i = 0 from nI_ne0 (by omega) (by omega))]
        refine ⟨(upd g i (-1), nI (i + 1)), rfl, rfl, go (-1) ?_⟩
        show -1 = enc (if i = 0 then some 0 else none)
        rw [if_neg c]
        rfl
    · rintro ⟨g, v⟩ ⟨hv, hg⟩
      have hv : v = nI 64 := hv
      subst hv
      refine ⟨g, ?_, hg⟩
      show fX7_divide_l2b N la mo (nI L) (nI T) (nI P) rP rF dg mt g (nI 64) = _
      unfold fX7_divide_l2b
      rw [if_pos (show (64 : Int32) ≤ nI 64 from nI_le (a := 64) (Nat.le_refl 64) (by decide))]
  obtain ⟨f1, e1, hf1⟩ := k1
  have k2 : ∃ r, itr (fun z => fX7_divide_l31b N la mo (nI L) (nI T) (nI P) rP rF dg z.1 z.2.1 z.2.2) N (f1, mt, (0 : Int32)) = some r ∧ ∀ j, j < 64 → r.1 j = enc (DL T P dg rF rP L j) := by
    refine itr_inv (fun (i : Nat) (z : (Nat → Int32) × (Nat → Int32) × Int32) => z.2.2 = nI i ∧ ∀ j, j < 64 → z.1 j = enc (DL T P dg rF rP i j)) (fun (r : (Nat → Int32) × (Nat → Int32)) => ∀ j, j < 64 → r.1 j = enc (DL T P dg rF rP L j)) (b := L) (by omega) ⟨rfl, hf1⟩ ?_ ?_
    · rintro l ⟨g, m, v⟩ hl ⟨hv, hg⟩
      have hv : v = nI l := hv
      subst hv
      have hg : ∀ j, j < 64 → g j = enc (DL T P dg rF rP l j) := hg
      have k3 : ∃ m2, itr (fun z => fX7_divide_l44b N la mo g (nI L) (nI T) (nI P) rP rF dg (nI l) z.1 z.2) N (m, (0 : Int32)) = some m2 ∧ ∀ p, p < P → m2 p = enc (mvt dg rF rP l p T) := by
        refine itr_inv (fun (i : Nat) (z : (Nat → Int32) × Int32) => z.2 = nI i ∧ ∀ p, p < i → z.1 p = enc (mvt dg rF rP l p T)) (fun (r : Nat → Int32) => ∀ p, p < P → r p = enc (mvt dg rF rP l p T)) (b := P) (by omega) ⟨rfl, fun j hj => absurd hj (Nat.not_lt_zero j)⟩ ?_ ?_
        · rintro i ⟨m2, v⟩ hi ⟨hv, hm⟩
          have hv : v = nI i := hv
          subst hv
          have hm : ∀ p, p < i → m2 p = enc (mvt dg rF rP l p T) := hm
          show ∃ s', fX7_divide_l44b N la mo g (nI L) (nI T) (nI P) rP rF dg (nI l) m2 (nI i) = some (.inl s') ∧ _
          unfold fX7_divide_l44b
          rw [if_neg (nI_ge hi (by omega)), bind_e (movesOf_e (by omega) hT (by omega)), gdi_nI (by omega) (by decide), nI_clamp (by omega), bnd_e, bnd_e, nI_1]
          refine ⟨(upd m2 i (enc (mvt dg rF rP l i T)), nI (i + 1)), rfl, rfl, fun p hp => ?_⟩
          show upd m2 i (enc (mvt dg rF rP l i T)) p = _
          by_cases q : p = i
          · rw [q, pk_us]
          · rw [pk_un q]
            exact hm p (by omega)
        · rintro ⟨m2, v⟩ ⟨hv, hm⟩
          have hv : v = nI P := hv
          subst hv
          refine ⟨m2, ?_, hm⟩
          show fX7_divide_l44b N la mo g (nI L) (nI T) (nI P) rP rF dg (nI l) m2 (nI P) = _
          unfold fX7_divide_l44b
          rw [if_pos (nI_le (Nat.le_refl P) (by omega))]
      obtain ⟨m2, e3, h3⟩ := k3
      obtain ⟨g2, e4, h4⟩ := addLand_e (N := N) (P := P) (l := l) (mt := m2) (f := g) (D := DL T P dg rF rP l) (mv := fun p => mvt dg rF rP l p T) hN hP (DL_bd T P dg rF rP l) (by omega) (fun p a ha => mvt_1 ha) h3 hg
      show ∃ s', fX7_divide_l31b N la mo (nI L) (nI T) (nI P) rP rF dg g m (nI l) = some (.inl s') ∧ _
      unfold fX7_divide_l31b
      rw [if_neg (nI_ge hl (by omega)), bind_e e3, bind_e e4, bnd_e, nI_1]
      exact ⟨(g2, m2, nI (l + 1)), rfl, rfl, h4⟩
    · rintro ⟨g, m, v⟩ ⟨hv, hg⟩
      have hv : v = nI L := hv
      subst hv
      refine ⟨(g, m), ?_, hg⟩
      show fX7_divide_l31b N la mo (nI L) (nI T) (nI P) rP rF dg g m (nI L) = _
      unfold fX7_divide_l31b
      rw [if_pos (nI_le (Nat.le_refl L) (by omega))]
  obtain ⟨⟨g, m⟩, e2, h2⟩ := k2
  rw [bind_e e1, bind_e e2]
  show ∃ f2 mt2, (fX7_pickBest N la mo g).bind _ = _
  rw [bind_e (pickC_e (D := DL T P dg rF rP L) hN (fun s m h => by have := DL_bd T P dg rF rP L s m h; omega) (DL_0 T P dg rF rP L) h2)]
  exact ⟨g, m, rfl⟩
/-- the reference's two rows say D -/
def RS (D : Nat → Option Nat) (mo mv : Nat → Int32) : Prop := ∀ s, s < 64 → (D s = none → mo s = -1) ∧ ∀ m, D s = some m → mo s = nI (pc s) ∧ mv s = nI m
theorem better_e {N s c : Nat} {mo mv : Nat → Int32} {E : Nat → Option Nat} (h : RS E mo mv) (hb : ∀ m, E s = some m → m ≤ 1000) (hs : s < 64) (hc : c ≤ 1000) : ∃ mo2 mv2, fX12_better N mo mv (nI s) (nI (pc s)) (nI c) = some (mo2, mv2) ∧ RS (fun j => if j = s then om (E s) (some c) else E j) mo2 mv2 := by
  have hp := pc_le s
  obtain ⟨h1, h2⟩ := h s hs
  have tk : ∀ x, om (E s) (some c) = some x → x = c → RS (fun j => if j = s then om (E s) (some c) else E j) (upd mo s (nI (pc s))) (upd mv s (nI c)) := by
    intro x ex hx j hj
    show ((if j = s then om (E s) (some c) else E j) = none → _) ∧ ∀ m, (if j = s then om (E s) (some c) else E j) = some m → _
    by_cases q : j = s
    · rw [if_pos q, ex, q, pk_us, pk_us, hx]
      refine ⟨fun e => absurd e (by intro w; cases w), fun m e => ?_⟩
      cases e
      exact ⟨rfl, rfl⟩
    · rw [if_neg q, pk_un q, pk_un q]
      exact h j hj
  have kp : om (E s) (some c) = E s → RS (fun j => if j = s then om (E s) (some c) else E j) mo mv := by
    intro e j hj
    show ((if j = s then om (E s) (some c) else E j) = none → _) ∧ ∀ m, (if j = s then om (E s) (some c) else E j) = some m → _
    by_cases q : j = s
    · rw [if_pos q, e, q]
      exact h s hs
    · rw [if_neg q]
      exact h j hj
  unfold fX12_better fX12_better_j31
  rw [gdi_nI hs (by decide), gdi_nI hs (by decide), gdi_nI hs (by decide), nI_clamp (by omega), bnd_e, gdi_nI hs (by decide), bnd_e]
  cases e : E s with
  | none =>
    rw [e] at tk
    rw [h1 e, if_neg (show ¬ nI (pc s) < -1 from fun q => by
      have := pc_le s
      exact absurd (Int32.lt_trans q (show (-1 : Int32) < 0 by decide)) (nI_nlt0 (by omega))), if_neg (nI_m1 (by omega))]
    exact ⟨_, _, gdi_nI hs (by decide), tk c rfl rfl⟩
  | some m =>
    rw [e] at tk kp
    obtain ⟨a1, a2⟩ := h2 m e
    have a3 := hb m e
    rw [a1, a2, if_neg (nI_nlt (Nat.le_refl _) (by omega)), if_pos rfl]
    by_cases q : c < m
    · rw [if_pos (nI_lt q (by omega))]
      exact ⟨_, _, gdi_nI hs (by decide), tk (min m c) rfl (Nat.min_eq_right (by omega))⟩
    · rw [if_neg (nI_nlt (by omega) (by omega))]
      exact ⟨_, _, rfl, kp (congrArg some (Nat.min_eq_left (by omega)))⟩

/-! SHARES, the class -/
theorem mvt_hit {dg rF rP : Nat → Int32} {land p t : Nat} (he : elg rF rP land t p = true) (hd : dg t = rP p) : ∀ {k : Nat}, t < k → mvt dg rF rP land p k = some 0
  | 0, h => absurd h (Nat.not_lt_zero t)
  | k + 1, h => by
    show (if elg rF rP land k p = true then om (mvt dg rF rP land p k) (some (cst dg rP k p)) else mvt dg rF rP land p k) = some 0
    by_cases e : t = k
    · subst e
      rw [if_pos he, show cst dg rP t p = 0 from if_pos hd]
      cases mvt dg rF rP land p t with
      | none => rfl
      | some a => exact congrArg some (Nat.min_zero a)
    · rw [mvt_hit he hd (show t < k by omega)]
      split
      · exact congrArg some (Nat.zero_min _)
      · rfl
theorem mvt_no {dg rF rP : Nat → Int32} {land p : Nat} : ∀ {k : Nat}, (∀ t, t < k → (elg rF rP land t p && decide (dg t = rP p)) = false) → mvt dg rF rP land p k = none ∨ mvt dg rF rP land p k = some 1
  | 0, _ => Or.inl rfl
  | k + 1, h => by
    have ih := mvt_no (dg := dg) (rF := rF) (rP := rP) (land := land) (p := p) (k := k) (fun t ht => h t (by omega))
    have hk := h k (Nat.lt_succ_self k)
    show (if elg rF rP land k p = true then om (mvt dg rF rP land p k) (some (cst dg rP k p)) else mvt dg rF rP land p k) = none ∨ (if elg rF rP land k p = true then om (mvt dg rF rP land p k) (some (cst dg rP k p)) else mvt dg rF rP land p k) = some 1
    by_cases e : elg rF rP land k p = true
    · rw [if_pos e]
      have hd : ¬ dg k = rP p := by
        intro q
        rw [e, decide_eq_true q] at hk
        exact absurd hk (by decide)
      rw [show cst dg rP k p = 1 from if_neg hd]
      rcases ih with q | q <;> rw [q] <;> exact Or.inr rfl
    · rw [if_neg e]
      exact ih
theorem mvs_e {N T t land p : Nat} {v4 : Int32} {rP rF dg : Nat → Int32} (hT : T ≤ 16) (ht : t < T) : fX7_movesOf_l16b N (nI T) rP rF dg (nI land) (rP p) v4 (nI t) = some (if elg rF rP land t p = true then (if dg t = rP p then .inr (.inr 0) else .inl (1, nI (t + 1))) else .inl (v4, nI (t + 1))) := by
  unfold fX7_movesOf_l16b elg
  rw [if_neg (nI_ge ht (by omega)), bind_e (told_x (w := 0) (c := 0) rfl (by omega) (by decide) rF)]
  by_cases c1 : rF (14 * t + 0) = nI land
  · rw [if_pos c1, decide_eq_true c1, Bool.true_and, bind_e (isDeadC_e (by omega) rF)]
    by_cases c2 : rF (14 * t + 8) = -1
    · rw [if_pos c2, if_pos rfl, decide_eq_true c2, Bool.true_and, bind_e (isInArcC_e (by omega) rF (rP p))]
      by_cases c3 : ina (rF (14 * t + 1)) (rF (14 * t + 2)) (rP p) = 0
      · rw [if_pos c3, decide_eq_false (fun q => q c3), if_neg (by decide), bnd_e, nI_1]
      · rw [if_neg c3, decide_eq_true c3, if_pos rfl, gdi_nI (by omega) (by decide), nI_clamp (by omega)]
        by_cases c4 : dg t = rP p
        · rw [if_pos c4, if_pos c4]
        · rw [if_neg c4, if_neg c4, bnd_e, nI_1]
    · rw [if_neg c2, if_neg (by decide), decide_eq_false c2, Bool.false_and, if_neg (by decide), bnd_e, nI_1]
  · rw [if_neg c1, decide_eq_false c1, Bool.false_and, if_neg (by decide), bnd_e, nI_1]
theorem movesOf_e {N T p land : Nat} {rP rF dg : Nat → Int32} (hN : 16 < N) (hT : T ≤ 16) (hp : p < 6) : fX7_movesOf N (nI T) rP rF dg (nI land) (nI p) = some (enc (mvt dg rF rP land p T)) := by
  unfold fX7_movesOf
  rw [gdi_nI hp (by decide), nI_clamp (by omega), bnd_e]
  have key : ∃ r, itr (fun (z : Int32 × Int32) => fX7_movesOf_l16b N (nI T) rP rF dg (nI land) (rP p) z.1 z.2) N ((-1 : Int32), (0 : Int32)) = some r ∧ (r = .inl (enc (mvt dg rF rP land p T)) ∨ r = .inr (enc (mvt dg rF rP land p T))) := by
    by_cases c : fa_first (fun t => elg rF rP land t p && decide (dg t = rP p)) T < T
    · have hf := fa_first_yes (fun t => elg rF rP land t p && decide (dg t = rP p)) T c
      have hlow : ∀ t, t < fa_first (fun t => elg rF rP land t p && decide (dg t = rP p)) T → (elg rF rP land t p && decide (dg t = rP p)) = false := fun t ht => fa_first_no (fun t => elg rF rP land t p && decide (dg t = rP p)) T t ht
      refine itr_inv (fun (i : Nat) (z : Int32 × Int32) => z.1 = enc (mvt dg rF rP land p i) ∧ z.2 = nI i) (fun (r : Int32 ⊕ Int32) => r = .inl (enc (mvt dg rF rP land p T)) ∨ r = .inr (enc (mvt dg rF rP land p T))) (b := fa_first (fun t => elg rF rP land t p && decide (dg t = rP p)) T) (by omega) ⟨rfl, rfl⟩ ?_ ?_
      · rintro i ⟨v4, v5⟩ hi ⟨h4, h5⟩
        have h5 : v5 = nI i := h5
        have h4 : v4 = enc (mvt dg rF rP land p i) := h4
        subst h5
        have hno := hlow i hi
        have hi2 := mvt_no (dg := dg) (rF := rF) (rP := rP) (land := land) (p := p) (k := i + 1) (fun t ht => hlow t (by omega))
        show ∃ s', fX7_movesOf_l16b N (nI T) rP rF dg (nI land) (rP p) v4 (nI i) = some (.inl s') ∧ _
        rw [mvs_e hT (by omega)]
        by_cases e : elg rF rP land i p = true
        · have hd : ¬ dg i = rP p := by
            intro q
            rw [e, decide_eq_true q] at hno
            exact absurd hno (by decide)
          refine ⟨(1, nI (i + 1)), by rw [if_pos e, if_neg hd], ?_, rfl⟩
          show (1 : Int32) = enc (if elg rF rP land i p = true then om (mvt dg rF rP land p i) (some (cst dg rP i p)) else mvt dg rF rP land p i)
          rw [if_pos e, show cst dg rP i p = 1 from if_neg hd]
          rcases mvt_no (dg := dg) (rF := rF) (rP := rP) (land := land) (p := p) (k := i) (fun t ht => hlow t (by omega)) with q | q <;> rw [q] <;> rfl
        · refine ⟨(v4, nI (i + 1)), by rw [if_neg e], ?_, rfl⟩
          show v4 = enc (if elg rF rP land i p = true then om (mvt dg rF rP land p i) (some (cst dg rP i p)) else mvt dg rF rP land p i)
          rw [if_neg e]
          exact h4
      · rintro ⟨v4, v5⟩ ⟨h4, h5⟩
        have h5 : v5 = nI _ := h5
        subst h5
        have hf : (elg rF rP land (fa_first (fun t => elg rF rP land t p && decide (dg t = rP p)) T) p && decide (dg (fa_first (fun t => elg rF rP land t p && decide (dg t = rP p)) T) = rP p)) = true := hf
        rw [Bool.and_eq_true, decide_eq_true_eq] at hf
        show ∃ r, fX7_movesOf_l16b N (nI T) rP rF dg (nI land) (rP p) v4 (nI _) = some (.inr r) ∧ _
        rw [mvs_e hT c, if_pos hf.1, if_pos hf.2, mvt_hit hf.1 hf.2 c]
        exact ⟨.inr 0, rfl, Or.inr rfl⟩
    · have hlow : ∀ t, t < T → (elg rF rP land t p && decide (dg t = rP p)) = false := fun t ht => fa_first_no (fun t => elg rF rP land t p && decide (dg t = rP p)) T t (by omega)
      refine itr_inv (fun (i : Nat) (z : Int32 × Int32) => z.1 = enc (mvt dg rF rP land p i) ∧ z.2 = nI i) (fun (r : Int32 ⊕ Int32) => r = .inl (enc (mvt dg rF rP land p T)) ∨ r = .inr (enc (mvt dg rF rP land p T))) (b := T) (by omega) ⟨rfl, rfl⟩ ?_ ?_
      · rintro i ⟨v4, v5⟩ hi ⟨h4, h5⟩
        have h5 : v5 = nI i := h5
        have h4 : v4 = enc (mvt dg rF rP land p i) := h4
        subst h5
        have hno := hlow i hi
        show ∃ s', fX7_movesOf_l16b N (nI T) rP rF dg (nI land) (rP p) v4 (nI i) = some (.inl s') ∧ _
        rw [mvs_e hT (by omega)]
        by_cases e : elg rF rP land i p = true
        · have hd : ¬ dg i = rP p := by
            intro q
            rw [e, decide_eq_true q] at hno
            exact absurd hno (by decide)
          refine ⟨(1, nI (i + 1)), by rw [if_pos e, if_neg hd], ?_, rfl⟩
          show (1 : Int32) = enc (if elg rF rP land i p = true then om (mvt dg rF rP land p i) (some (cst dg rP i p)) else mvt dg rF rP land p i)
          rw [if_pos e, show cst dg rP i p = 1 from if_neg hd]
          rcases mvt_no (dg := dg) (rF := rF) (rP := rP) (land := land) (p := p) (k := i) (fun t ht => hlow t (by omega)) with q | q <;> rw [q] <;> rfl
        · refine ⟨(v4, nI (i + 1)), by rw [if_neg e], ?_, rfl⟩
          show v4 = enc (if elg rF rP land i p = true then om (mvt dg rF rP land p i) (some (cst dg rP i p)) else mvt dg rF rP land p i)
          rw [if_neg e]
          exact h4
      · rintro ⟨v4, v5⟩ ⟨h4, h5⟩
        have h5 : v5 = nI T := h5
        have h4 : v4 = enc (mvt dg rF rP land p T) := h4
        subst h5
        refine ⟨.inl v4, ?_, Or.inl (congrArg Sum.inl h4)⟩
        show fX7_movesOf_l16b N (nI T) rP rF dg (nI land) (rP p) v4 (nI T) = _
        unfold fX7_movesOf_l16b
        rw [if_pos (nI_le (Nat.le_refl T) (by omega))]
  obtain ⟨r, e1, e2⟩ := key
  rw [bind_e e1]
  rcases e2 with q | q <;> rw [q] <;> rfl
theorem enc_m1 {x : Option Nat} (h : ∀ a, x = some a → a < 2 ^ 31) : enc x = -1 ↔ x = none := by
  cases x with
  | none => exact ⟨fun _ => rfl, fun _ => rfl⟩
  | some a => exact ⟨fun e => absurd e (nI_m1 (h a rfl)), fun e => by cases e⟩
theorem offer_e {f : Nat → Int32} {s r : Nat} {a b m : Option Nat} (hs : s < 64) (hr : r < 64) (ha : f s = enc a) (hb : f r = enc b) (ba : ∀ x, a = some x → x ≤ 1000) (bb : ∀ x, b = some x → x ≤ 1000) (bm : ∀ x, m = some x → x ≤ 1000) : ∃ f2, fX7_offer f (nI s) (nI r) (enc m) = some f2 ∧ f2 s = enc (om a (oad b m)) ∧ ∀ j, j ≠ s → f2 j = f j := by
  unfold fX7_offer
  cases m with
  | none =>
    rw [show enc none = -1 from rfl, if_pos rfl, oad_none, om_none]
    exact ⟨f, rfl, ha, fun j _ => rfl⟩
  | some mm =>
    have b3 := bm mm rfl
    rw [if_neg (show ¬ enc (some mm) = -1 from nI_m1 (by omega)), gdi_nI hr (by decide), nI_clamp (by omega), hb]
    cases b with
    | none =>
      rw [show enc none = -1 from rfl, if_pos rfl]
      exact ⟨f, rfl, by rw [ha]; exact congrArg enc (om_none a).symm, fun j _ => rfl⟩
    | some bv =>
      have b2 := bb bv rfl
      rw [if_neg (show ¬ enc (some bv) = -1 from nI_m1 (by omega)), gdi_nI hr (by decide), bnd_e, gdi_nI hs (by decide), nI_clamp (by omega), ha, gdi_nI hs (by decide), bnd_e, gdi_nI hs (by decide)]
      have e3 : enc (some bv) + enc (some mm) = nI (bv + mm) := nI_add bv mm
      rw [e3]
      cases a with
      | none =>
        rw [show enc none = -1 from rfl, if_pos rfl]
        exact ⟨upd f s (nI (bv + mm)), rfl, pk_us .., fun j hj => pk_un hj⟩
      | some av =>
        have b1 := ba av rfl
        rw [if_neg (show ¬ enc (some av) = -1 from nI_m1 (by omega))]
        by_cases c : av ≤ bv + mm
        · rw [if_pos (show enc (some av) ≤ nI (bv + mm) from nI_le c (by omega))]
          exact ⟨f, rfl, by rw [ha]; exact congrArg (fun x => enc (some x)) (Nat.min_eq_left c).symm, fun j _ => rfl⟩
        · rw [if_neg (show ¬ enc (some av) ≤ nI (bv + mm) from nI_ge (by omega) (by omega))]
          exact ⟨upd f s (nI (bv + mm)), rfl, by rw [pk_us]; exact congrArg (fun x => enc (some x)) (Nat.min_eq_right (by omega : bv + mm ≤ av)).symm, fun j hj => pk_un hj⟩

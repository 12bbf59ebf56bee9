theorem swn_keep {now : Nat → Int32} {a b : Nat} (ha : a < 16) (hb : b < 16) : ∀ j, (j < 340 ∨ 372 ≤ j) → swn now a b j = now j := fun j hj => by
  unfold swn
  rw [pk_un (by omega), pk_un (by omega), pk_un (by omega), pk_un (by omega)]
theorem ahead_e {N T L P A : Nat} {rl rt rp ra rf x y b0 : Int32} {rc gr : Nat → Int64} {rP rF now dg vo lo sh ls ss f w : Nat → Int32} (hN : 16 < N) (h : IR1 T L P A rl rt rp ra rf rc rP rF now gr) (hs : IS1 T dg vo now) (hW : WS T dg lo sh) (hl : ∀ j, j < T → ls j = lo j ∧ ss j = sh j) : itr (fun z => fX12_sell_l54b N 0 b0 now ls ss gr w x y z.1 z.2) N (f, (0 : Int32)) = some (fa_fill (fun j => smH dg vo lo sh rc j T) f T) := by
  have hT : T ≤ 16 := h.1.1
  have n1 : now 1 = nI T := h.2.2.1.2.1
  have e0 : ((f, (0 : Int32)) : (Nat → Int32) × Int32) = (fun k => (fa_fill (fun j => smH dg vo lo sh rc j T) f k, nI k)) 0 := by
    show _ = (fa_fill (fun j => smH dg vo lo sh rc j T) f 0, nI 0)
    rw [fa_fill_0]
    rfl
  rw [e0]
  refine itr_0 (fun k => (fa_fill (fun j => smH dg vo lo sh rc j T) f k, nI k)) T (by omega) ?_ (fun k hk => ?_)
  · show fX12_sell_l54b N 0 b0 now ls ss gr w x y (fa_fill (fun j => smH dg vo lo sh rc j T) f T) (nI T) = _
    unfold fX12_sell_l54b
    rw [bind_e (things_e n1), if_pos (nI_le (Nat.le_refl T) (by omega))]
  · show fX12_sell_l54b N 0 b0 now ls ss gr w x y (fa_fill (fun j => smH dg vo lo sh rc j T) f k) (nI k) = some (.inl (fa_fill (fun j => smH dg vo lo sh rc j T) f (k + 1), nI (k + 1)))
    unfold fX12_sell_l54b
    rw [bind_e (things_e n1), if_neg (nI_ge hk (by omega)), bind_e (isUpM_e (by omega) now), ← (hs k (by omega)).1]
    by_cases c : dg k = -1
    · rw [if_pos c, if_pos rfl, gdi_nI (by omega) (by decide), nI_clamp (by omega), bnd_e, bnd_e, nI_1, ← fa_fill_succ, smH_out c]
    · rw [if_neg c, if_neg (show ¬ (1 : Int32) = 0 by decide), bind_e (heardM_e hN h hs hW hl hk c), gdi_nI (by omega) (by decide), nI_clamp (by omega), bnd_e, bnd_e, nI_1, ← fa_fill_succ]
set_option maxHeartbeats 1000000 in
theorem p_sell {N T L P A : Nat} {rl rt rp ra rf b th : Int32} {rc gr : Nat → Int64} {rP rF now now1 dg vo lo sh he tn d1 v1 l1 s1 h1 m1 ls ss ha w : Nat → Int32} (hN : 32 < N) (h : IR1 T L P A rl rt rp ra rf rc rP rF now1 gr) (hF : IF1 T L rF) (hs : IST T A dg vo lo sh he tn rc rF now1) (hl : LY N b now now1) (x y : Int32) : ∃ (dg2 vo2 lo2 sh2 he2 tn2 d2 v2 l2 s2 h2 m2 now2 ls2 ss2 ha2 w2 : Nat → Int32) (r : Int32), fX11_sell N rt ra dg d1 vo v1 lo l1 sh s1 he h1 tn m1 rc rF x y = some (dg2, d2, vo2, v2, lo2, l2, sh2, s2, he2, h2, tn2, m2, r) ∧ fX12_sell N th b now ls ss gr ha w x y = some (0, 1, now2, ls2, ss2, ha2, w2, r) ∧ IR1 T L P A rl rt rp ra rf rc rP rF now2 gr ∧ IST T A dg2 vo2 lo2 sh2 he2 tn2 rc rF now2 := by
  have h' := h
  have hW := IST_WS hs hF
  obtain ⟨⟨hT, hL, hP, hA⟩, ⟨rfl, rfl, rfl, rfl⟩, ⟨n0, n1, n2, n3, n4, hf0⟩, hp, hF2, hc⟩ := h
  unfold fX11_sell fX12_sell
  rw [bind_e hl]
  have no : ∀ (X : Option ((Nat → Int32) × (Nat → Int32) × (Nat → Int32) × (Nat → Int32) × (Nat → Int32) × (Nat → Int32) × (Nat → Int32) × (Nat → Int32) × (Nat → Int32) × (Nat → Int32) × (Nat → Int32) × (Nat → Int32) × Int32)) (Y : Option (Int32 × Int32 × (Nat → Int32) × (Nat → Int32) × (Nat → Int32) × (Nat → Int32) × (Nat → Int32) × Int32)), X = some (dg, d1, vo, v1, lo, l1, sh, s1, he, h1, tn, m1, -1) → Y = some (0, 1, now1, ls, ss, ha, w, -1) → ∃ (dg2 vo2 lo2 sh2 he2 tn2 d2 v2 l2 s2 h2 m2 now2 ls2 ss2 ha2 w2 : Nat → Int32) (r : Int32), X = some (dg2, d2, vo2, v2, lo2, l2, sh2, s2, he2, h2, tn2, m2, r) ∧ Y = some (0, 1, now2, ls2, ss2, ha2, w2, r) ∧ IR1 T L P A (nI L) (nI T) (nI P) (nI A) rf rc rP rF now2 gr ∧ IST T A dg2 vo2 lo2 sh2 he2 tn2 rc rF now2 := fun X Y hX hY => ⟨_, _, _, _, _, _, _, _, _, _, _, _, _, _, _, _, _, _, hX, hY, h', hs⟩
  rcases th_cases x hT with h0 | ⟨a, ha', rfl⟩
  · refine no _ _ ?_ ?_
    · by_cases c : x = y
      · rw [if_pos c]
      · rw [if_neg c, bind_e (hasUp_no h0), if_pos rfl]
    · rw [bind_e (isThing_no n1 h0), if_pos rfl]
  · rcases th_cases y hT with h0 | ⟨t, ht, rfl⟩
    · refine no _ _ ?_ ?_
      · by_cases c : nI a = y
        · rw [if_pos c]
        · rw [if_neg c, bind_e (hasUp_yes ha' hT dg), bind_e (hasUp_no h0)]
          by_cases u : dg a = -1
          · rw [if_pos u, if_pos rfl]
          · rw [if_neg u, if_neg (show ¬ (1 : Int32) = 0 by decide), if_pos rfl]
      · rw [bind_e (isThing_yes n1 ha' hT), if_neg (show ¬ (1 : Int32) = 0 by decide), bind_e (isThing_no n1 h0), if_pos rfl]
    · rw [bind_e (isThing_yes n1 ha' hT), if_neg (show ¬ (1 : Int32) = 0 by decide), bind_e (isThing_yes n1 ht hT), if_neg (show ¬ (1 : Int32) = 0 by decide)]
      by_cases c : nI a = nI t
      · refine no _ _ ?_ ?_
        · rw [if_pos c]
        · rw [if_pos c]
      · have hat : a ≠ t := fun q => c (by rw [q])
        rw [if_neg c, if_neg c, bind_e (hasUp_yes ha' hT dg), bind_e (isUpM_e (by omega) now1), ← (hs.1 a (by omega)).1]
        by_cases ua : dg a = -1
        · refine no _ _ ?_ ?_
          · rw [if_pos ua, if_pos rfl]
          · rw [if_pos ua, if_pos rfl]
        · rw [if_neg ua, if_neg (show ¬ (1 : Int32) = 0 by decide), if_neg (show ¬ (1 : Int32) = 0 by decide), bind_e (hasUp_yes ht hT dg), bind_e (isUpM_e (by omega) now1), ← (hs.1 t (by omega)).1]
          by_cases ut : dg t = -1
          · refine no _ _ ?_ ?_
            · rw [if_pos ut, if_pos rfl]
            · rw [if_pos ut, if_pos rfl]
          · obtain ⟨d2, v2, l2, s2, h2, m2, e1, cd, cv, cl, cs, ch, cm⟩ := copy_e dg d1 vo v1 lo l1 sh s1 he h1 tn m1
            have hs1 : IST T A d2 v2 l2 s2 h2 m2 rc rF now1 := IST_cong hT cd cv cl cs ch cm hs
            obtain ⟨d3, v3, h3, m3, e2, hs3⟩ := swap_e (N := N) (by omega) hT hA hF hs1 ha' ht hat (by rw [cd a (by omega)]; exact ua) (by rw [cd t (by omega)]; exact ut)
            have h3R : IR1 T L P A (nI L) (nI T) (nI P) (nI A) rf rc rP rF (swn now1 a t) gr := IR1_keep h' (fun j hj => swn_keep (by omega) (by omega) j (Or.inl hj))
            have hW3 := IST_WS hs3 hF
            have hb3 := beams (ls := ls) (ss := ss) h' hs1
            have hz : ∀ k, k < T → d3 k = -1 → he k = 0 := by
              intro k hk hu
              rw [hs.2.2.1 k hk]
              refine smH_out ?_
              have q1 := (hs.1 k (by omega)).1
              have q3 := (hs3.1 k (by omega)).1
              rw [hu] at q3
              rw [q1]
              by_cases ka : k = a
              · exfalso
                subst ka
                unfold swn at q3
                rw [pk_un (by omega), pk_un (by omega), pk_un (by omega), pk_us, ← (hs.1 t (by omega)).1] at q3
                exact ut q3.symm
              · by_cases kt : k = t
                · exfalso
                  subst kt
                  unfold swn at q3
                  rw [pk_un (by omega), pk_us, ← (hs.1 a (by omega)).1] at q3
                  exact ua q3.symm
                · unfold swn at q3
                  rw [pk_un (by omega), pk_un (by omega), pk_un (by omega), pk_un (by omega)] at q3
                  exact q3.symm
            have eC := saleC_e (N := N) (a := a) (b := t) (he0 := he) (rF := rF) (by omega) hT ht ha' hs3.2.2
            have eM := letM_e (N := N) (a := a) (b := t) (he0 := he) (ha0 := fa_fill (fun j => smH dg vo lo sh rc j T) ha T) (by omega) h3R hs3.1 hW3 hb3 ha' ht (fun k hk => by rw [fa_fill_in hk, hs.2.2.1 k hk]) hz
            rw [if_neg ut, if_neg (show ¬ (1 : Int32) = 0 by decide), if_neg (show ¬ (1 : Int32) = 0 by decide), bind_e e1, bind_e e2, bind_e (layBeams_e (by omega) hT n1)]
            have eA := ahead_e (N := N) (b0 := 1) (x := nI a) (y := nI t) (f := ha) (w := w) (by omega) h' hs.1 hW (beams (ls := ls) (ss := ss) h' hs)
            rw [bind_e eC]
            show ∃ (dg2 vo2 lo2 sh2 he2 tn2 d2 v2 l2 s2 h2 m2 now2 ls2 ss2 ha2 w2 : Nat → Int32) (r : Int32), _ ∧ ((itr (fun z => fX12_sell_l54b N 0 1 now1 (lb ls now1 4 T) (lb ss now1 5 T) gr w (nI a) (nI t) z.1 z.2) N (ha, (0 : Int32))).bind _ = _) ∧ _
            rw [bind_e eA, bind_e (save_e (by omega) now1 w), bind_e (at_e (by omega) now1), bind_e (at_e (by omega) now1), bind_e (voice_e (by omega) now1), bind_e (putM_e (by omega) now1 _ _), bind_e (voice_e (by omega) _), bind_e (putM_e (by omega) _ _ _), show upd (upd (upd (upd now1 (340 + 2 * a) (now1 (340 + 2 * t))) (341 + 2 * a) (now1 (341 + 2 * a))) (340 + 2 * t) (now1 (340 + 2 * a))) (341 + 2 * t) (upd (upd now1 (340 + 2 * a) (now1 (340 + 2 * t))) (341 + 2 * a) (now1 (341 + 2 * a)) (341 + 2 * t)) = swn now1 a t from by rw [pk_un (show 341 + 2 * t ≠ 341 + 2 * a by omega), pk_un (show 341 + 2 * t ≠ 340 + 2 * a by omega)]; rfl, bind_e eM]
            by_cases q : fa_first (fun k => !okS T A d3 v3 l2 s2 rF he rc a t k) T < T
            · rw [if_pos q, if_pos rfl, if_pos rfl, bind_e (bring_e (by omega) _ _), bring_back (swn_keep (by omega) (by omega))]
              exact ⟨_, _, _, _, _, _, _, _, _, _, _, _, _, _, _, _, _, _, rfl, rfl, h', hs⟩
            · obtain ⟨d4, v4, l4, s4, h4, m4, e4, cd4, cv4, cl4, cs4, ch4, cm4⟩ := copy_e d3 dg v3 vo l2 lo s2 sh h3 he m3 tn
              rw [if_neg q, if_neg (show ¬ (1 : Int32) = 0 by decide), if_neg (show ¬ (1 : Int32) = 0 by decide), bind_e e4]
              exact ⟨_, _, _, _, _, _, _, _, _, _, _, _, _, _, _, _, _, _, rfl, rfl, h3R, IST_cong hT cd4 cv4 cl4 cs4 ch4 cm4 hs3⟩

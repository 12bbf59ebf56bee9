/-! a token cut by the class, seen by the reference -/
theorem cutRun_e {N n s i : Nat} {t : Nat → Int32} (hN : 1240 < N) (hn : n ≤ 1240) (hs : s ≤ n) (hi : i < 1201) (ha : anB (t s) = true) (va ka wo : Nat → Int32) : ∃ wo' : Nat → Int32, fX9_cutRun N (nI i) (nI n) (nI s) t va ka wo = some (nI (s + rl t n s), upd va i (vcC t s (rl t n s)), upd ka i (kC t n s), wo') ∧ (∀ j, j ≠ i → wo' j = wo j) ∧ (wo i = -1 → wo' i = wC t n s) := by
  have hm := rl_le (t := t) hs
  have hl := lcN_le t s (rl t n s)
  have e1 : nI (s + rl t n s) - nI s = nI (rl t n s) := by rw [pk_sub (by omega), show s + rl t n s - s = rl t n s by omega]
  unfold fX9_cutRun
  rw [bind_e (runC hN hn hs t va ka wo (nI i) (nI s)), gdi_nI hi (by decide), bnd_e, nI_clamp (show i < 2 ^ 31 by omega)]
  show ∃ wo', (if nI (lcN t s (rl t n s)) = 0 then _ else _) = _ ∧ _
  rw [e1]
  by_cases c1 : lcN t s (rl t n s) = 0
  · have ew : wC t n s = -1 := if_neg (fun q => q.2.1 c1)
    rw [if_pos (show nI (lcN t s (rl t n s)) = 0 by rw [c1]; rfl), ew]
    by_cases c2 : 4 < rl t n s
    · have ek : kC t n s = 1 := by
        unfold kC
        rw [if_pos ha, if_pos c1, if_pos c2]
      rw [if_pos (show (4 : Int32) < nI (rl t n s) from nI_lt (a := 4) c2 (by omega)), gdi_nI hi (by decide), ek]
      exact ⟨wo, rfl, fun j _ => rfl, fun q => q⟩
    · have ek : kC t n s = 3 := by
        unfold kC
        rw [if_pos ha, if_pos c1, if_neg c2]
      rw [if_neg (show ¬ (4 : Int32) < nI (rl t n s) from nI_nlt (b := rl t n s) (a := 4) (by omega) (by decide)), gdi_nI hi (by decide), ek]
      exact ⟨wo, rfl, fun j _ => rfl, fun q => q⟩
  · rw [if_neg (nI_ne0 (show 0 < lcN t s (rl t n s) by omega) (by omega))]
    by_cases c2 : lcN t s (rl t n s) = rl t n s
    · rw [if_pos (show nI (lcN t s (rl t n s)) = nI (rl t n s) by rw [c2])]
      by_cases c3 : 6 < rl t n s
      · have ek : kC t n s = 1 := by
          unfold kC
          rw [if_pos ha, if_neg c1, if_pos c2, if_pos c3]
        have ew : wC t n s = -1 := if_neg (fun q => q.2.2.2 c3)
        rw [if_pos (show (6 : Int32) < nI (lcN t s (rl t n s)) from nI_lt (a := 6) (by omega) (by omega)), gdi_nI hi (by decide), ek, ew]
        exact ⟨wo, rfl, fun j _ => rfl, fun q => q⟩
      · have hw : wok 1240 (nI s) (nI (s + rl t n s)) = true := by
          unfold wok
          rw [decide_eq_true (nI_nlt0 (show s < 2 ^ 31 by omega)), decide_eq_true (nI_le (show s ≤ s + rl t n s by omega) (by omega)), decide_eq_true (nI_le (show s + rl t n s ≤ 1240 by omega) (by decide))]
          rfl
        have ek : kC t n s = if lya t s (s + rl t n s) = -1 then 4 else 5 := by
          unfold kC
          rw [if_pos ha, if_neg c1, if_pos c2, if_neg c3]
        have ew : wC t n s = lya t s (s + rl t n s) := if_pos ⟨ha, c1, c2, c3⟩
        have e2 : ∀ {α : Type} (x : Option α), gdp (wok 1240 (nI s) (nI (s + rl t n s))) x = x := by
          intro α x
          unfold gdp
          rw [if_pos hw]
        rw [if_neg (show ¬ (6 : Int32) < nI (lcN t s (rl t n s)) from nI_nlt (a := 6) (by omega) (by decide)), e2, gdi_nI hi (by decide), bnd_e, nI_clamp (show s < 2 ^ 31 by omega), nI_clamp (show s + rl t n s < 2 ^ 31 by omega), gdi_nI hi (by decide), ew, ek]
        generalize lya t s (s + rl t n s) = x
        refine ⟨upd wo i x, ?_, fun j hj => pk_un hj, fun _ => pk_us⟩
        rw [pk_us]
        by_cases c4 : x = -1
        · rw [if_pos c4, if_pos c4, gdi_nI hi (by decide)]
          rfl
        · rw [if_neg c4, if_neg c4, gdi_nI hi (by decide)]
          rfl
    · have ek : kC t n s = 1 := by
        unfold kC
        rw [if_pos ha, if_neg c1, if_neg c2]
      have ew : wC t n s = -1 := if_neg (fun q => c2 q.2.2.1)
      rw [if_neg (show ¬ nI (lcN t s (rl t n s)) = nI (rl t n s) from fun q => c2 ((nI_eq (by omega) (by omega)).mp q)), gdi_nI hi (by decide), ek, ew]
      exact ⟨wo, rfl, fun j _ => rfl, fun q => q⟩
theorem cutOne_e {N n s i : Nat} {t : Nat → Int32} (hN : 1240 < N) (hn : n ≤ 1240) (hs : s < n) (hi : i < 1201) (st wo va ka : Nat → Int32) : ∃ wo' va' ka' : Nat → Int32, fX9_cutOne N (nI i) (nI n) (nI s) st wo t va ka = some (nI (enT t n s), upd st i (nI s), wo', va', ka') ∧ (∀ j, j ≠ i → wo' j = wo j ∧ va' j = va j ∧ ka' j = ka j) ∧ wo' i = wC t n s ∧ ka' i = kC t n s ∧ (anB (t s) = true → va' i = vcC t s (rl t n s)) := by
  unfold fX9_cutOne
  rw [gdi_nI hi (by decide), bnd_e, gdi_nI hi (by decide), bnd_e, nI_clamp (show i < 2 ^ 31 by omega), gdi_nI (show s < 1240 by omega) (by decide), nI_clamp (show s < 2 ^ 31 by omega), bind_e (isLetC _)]
  have key : anB (t s) = true → ∃ wo' va' ka' : Nat → Int32, fX9_cutOne_j53 N (nI i) (nI n) (nI s) (upd st i (nI s)) (upd wo i (-1)) t va ka = some (nI (enT t n s), upd st i (nI s), wo', va', ka') ∧ (∀ j, j ≠ i → wo' j = wo j ∧ va' j = va j ∧ ka' j = ka j) ∧ wo' i = wC t n s ∧ ka' i = kC t n s ∧ (anB (t s) = true → va' i = vcC t s (rl t n s)) := by
    intro ha
    obtain ⟨wo', h1, h2, h3⟩ := cutRun_e hN hn (show s ≤ n by omega) hi ha va ka (upd wo i (-1))
    unfold fX9_cutOne_j53
    rw [bind_e h1]
    refine ⟨wo', upd va i (vcC t s (rl t n s)), upd ka i (kC t n s), ?_, fun j hj => ⟨?_, pk_un hj, pk_un hj⟩, h3 pk_us, pk_us, fun _ => pk_us⟩
    · unfold enT
      rw [if_pos ha]
    · rw [h2 j hj, pk_un hj]
  cases h1 : leB (t s) with
  | true =>
    rw [b01_t, if_neg (by decide)]
    exact key (by unfold anB; rw [h1, Bool.true_or])
  | false =>
    rw [b01_f, if_pos rfl, gdi_nI (show s < 1240 by omega) (by decide), bind_e (isDigC _)]
    cases h2 : diB (t s) with
    | true =>
      rw [b01_t, if_neg (by decide)]
      exact key (by unfold anB; rw [h2, Bool.or_true])
    | false =>
      have ha : ¬ anB (t s) = true := by
        unfold anB
        rw [h1, h2]
        decide
      rw [b01_f, if_pos rfl, gdi_nI (show s < 1240 by omega) (by decide)]
      have e1 : ∀ x : Int32, fX9_cutOne_j87_t_kinds N (nI i) (nI n) (nI s) (upd st i (nI s)) (upd wo i (-1)) t va ka (nI i) x = some (nI (s + 1), upd st i (nI s), upd wo i (-1), va, upd ka i x) := by
        intro x
        unfold fX9_cutOne_j87_t_kinds
        rw [gdi_nI hi (by decide), bnd_e, nI_clamp (show i < 2 ^ 31 by omega)]
        show some (nI s + 1, _, _, _, _) = _
        rw [nI_1]
      have e2 : enT t n s = s + 1 := if_neg ha
      have e3 : wC t n s = -1 := if_neg (fun q => ha q.1)
      have e4 : kC t n s = if t s = 59 then 2 else 1 := if_neg ha
      rw [e1, e1, e2, e3, e4]
      refine ⟨upd wo i (-1), va, upd ka i (if t s = 59 then 2 else 1), ?_, fun j hj => ⟨pk_un hj, rfl, pk_un hj⟩, pk_us, pk_us, fun q => absurd q ha⟩
      by_cases c : t s = 59
      · rw [if_pos c, if_pos c]
      · rw [if_neg c, if_neg c]
theorem dN_cong {f g : Nat → Nat} : ∀ m, (∀ j, j < m → f j = g j) → dN f m = dN g m
  | 0, _ => rfl
  | m + 1, h => by
    show 10 * dN f m + f m = 10 * dN g m + g m
    rw [dN_cong m (fun j hj => h j (by omega)), h m (by omega)]
theorem j93_e {N n s : Nat} {t u : Nat → Int32} (hN : 1240 < N) (hn : n ≤ 1240) (hs : s < n) (h : TU t u) (k nu : Int32) (w : Int64) : ∃ (km nm : Int32) (wm : Int64), fX12_go_j93 N (nI n) (nI s) (nI s) k nu w u = some (nI (enT t n s), nI s, km, nm, wm) ∧ ∀ vc : Int32, (anB (t s) = true → vc = vcC t s (rl t n s)) → TD (kC t n s) vc (wC t n s) km nm wm := by
  unfold fX12_go_j93
  rw [if_pos (nI_lt hs (by omega)), gdi_nI (show s < 1240 by omega) (by decide), bnd_e, nI_clamp (show s < 2 ^ 31 by omega), bind_e (isLetM _), TU_le h (show s < 1240 by omega)]
  have key : anB (t s) = true → ∃ (km nm : Int32) (wm : Int64), fX12_go_j160 N (nI n) (nI s) (nI s) k nu w u (u s) = some (nI (enT t n s), nI s, km, nm, wm) ∧ ∀ vc : Int32, (anB (t s) = true → vc = vcC t s (rl t n s)) → TD (kC t n s) vc (wC t n s) km nm wm := by
    intro ha
    have hm := rl_le (t := t) (show s ≤ n by omega)
    have hm1 := rl_pos hs ha
    have hl := lcN_le t s (rl t n s)
    have e1 : nI (s + rl t n s) - nI s = nI (rl t n s) := by rw [pk_sub (by omega), show s + rl t n s - s = rl t n s by omega]
    have hu : ∀ j, j < rl t n s → u (s + j) = t (s + j) := fun j hj => TU_an h (by omega) (rl_in hj)
    have e0 : enT t n s = s + rl t n s := if_pos ha
    unfold fX12_go_j160
    rw [bind_e (isLetM _), TU_le h (show s < 1240 by omega), bind_e (runM hN hn (show s ≤ n by omega) h k (leB (t s)))]
    show ∃ km nm wm, (if b01 (gdM u s (leB (t s)) (rl t n s)) = 0 then _ else _) = _ ∧ _
    rw [e1, e0]
    by_cases c1 : lcN t s (rl t n s) = 0
    · have hf : ∀ j, j < rl t n s → leB (t (s + j)) = false := fb_ct_zero.mp c1
      have l0 : leB (t s) = false := hf 0 (by omega)
      have hd : ∀ j, j < rl t n s → diB (t (s + j)) = true := fun j hj => an_d (rl_in hj) (hf j hj)
      have hg : gdM u s (leB (t s)) (rl t n s) = true := (gdM_e _).mpr (fun j hj => by rw [hu j hj, hf j hj, l0])
      rw [if_neg (b01_n0 hg), l0, b01_f, if_pos rfl]
      unfold fX12_go_j336
      by_cases c2 : 4 < rl t n s
      · rw [if_neg (show ¬ nI (rl t n s) ≤ (4 : Int32) from nI_ge (a := 4) c2 (by omega))]
        refine ⟨_, _, _, rfl, fun vc _ => Or.inl ⟨?_, rfl, ?_⟩⟩
        · unfold kC
          rw [if_pos ha, if_pos c1, if_pos c2]
        · exact if_neg (fun q => q.2.1 c1)
      · rw [if_pos (show nI (rl t n s) ≤ (4 : Int32) from nI_le (b := 4) (by omega) (by decide)), if_pos rfl]
        refine ⟨_, _, _, rfl, fun vc hv => Or.inr (Or.inr (Or.inl ⟨?_, rfl, ?_, dN (fun k => sD (t (s + k))) (rl t n s), ?_, ?_, ?_⟩))⟩
        · unfold kC
          rw [if_pos ha, if_pos c1, if_neg c2]
        · exact if_neg (fun q => q.2.1 c1)
        · have h1 := dN_lt (f := fun k => sD (t (s + k))) (rl t n s) (fun j hj => (sD_e (hd j hj)).1)
          have h2 : 10 ^ rl t n s ≤ 10 ^ 4 := Nat.pow_le_pow_right (by decide) (by omega)
          omega
        · rw [hv ha, vcC_D _ hd]
        · rw [nuM_D _ (by omega) (fun j hj => by rw [hu j hj]; exact hd j hj)]
          rw [dN_cong (rl t n s) (fun j hj => by show sD (u (s + j)) = sD (t (s + j)); rw [hu j hj])]
    · by_cases c2 : lcN t s (rl t n s) = rl t n s
      · have hf : ∀ j, j < rl t n s → leB (t (s + j)) = true := fb_ct_all.mp c2
        have l0 : leB (t s) = true := hf 0 (by omega)
        have hg : gdM u s (leB (t s)) (rl t n s) = true := (gdM_e _).mpr (fun j hj => by rw [hu j hj, hf j hj, l0])
        rw [if_neg (b01_n0 hg), l0, b01_t, if_neg (by decide)]
        unfold fX12_go_j336
        by_cases c3 : 6 < rl t n s
        · rw [if_neg (show ¬ nI (rl t n s) ≤ (6 : Int32) from nI_ge (a := 6) c3 (by omega))]
          refine ⟨_, _, _, rfl, fun vc _ => Or.inl ⟨?_, rfl, ?_⟩⟩
          · unfold kC
            rw [if_pos ha, if_neg c1, if_pos c2, if_pos c3]
          · exact if_neg (fun q => q.2.2.2 c3)
        · rw [if_pos (show nI (rl t n s) ≤ (6 : Int32) from nI_le (b := 6) (by omega) (by decide)), if_neg (by decide)]
          have hlt : vN (fun k => sL (t (s + k))) (rl t n s) < 2 ^ 30 := by
            have h1 := vN_lt (f := fun k => sL (t (s + k))) (rl t n s) (fun j hj => (sL_e (hf j hj)).2.1)
            have h2 : 27 ^ rl t n s ≤ 27 ^ 6 := Nat.pow_le_pow_right (by decide) (by omega)
            have h3 : 27 ^ 6 < 2 ^ 30 := by decide
            omega
          have ew : wC t n s = lya t s (s + rl t n s) := if_pos ⟨ha, c1, c2, c3⟩
          have ek : kC t n s = if lya t s (s + rl t n s) = -1 then 4 else 5 := by
            unfold kC
            rw [if_pos ha, if_neg c1, if_pos c2, if_neg c3]
          refine ⟨_, _, _, rfl, fun vc hv => Or.inr (Or.inr (Or.inr ⟨rfl, vN (fun k => sL (t (s + k))) (rl t n s), hlt, ?_, ?_, ?_⟩))⟩
          · rw [hv ha, vcC_L _ hf]
          · rw [wdM_L _ (by omega) (fun j hj => by rw [hu j hj]; exact hf j hj)]
            rw [vN_cong (rl t n s) (fun j hj => by show sL (u (s + j)) = sL (t (s + j)); rw [hu j hj])]
          · rw [ew, ek]
            rcases lya_e hf with ⟨q1, q2⟩ | ⟨kk, q1, q2, q3⟩
            · exact Or.inl ⟨if_pos q1, q1, q2⟩
            · exact Or.inr ⟨if_neg (by rw [q2]; exact nI_m1 (by omega)), kk, q1, q2, q3⟩
      · have hg : gdM u s (leB (t s)) (rl t n s) = false := by
          cases q : gdM u s (leB (t s)) (rl t n s) with
          | false => rfl
          | true =>
            have h1 := (gdM_e _).mp q
            have h2 : ∀ j, j < rl t n s → leB (t (s + j)) = leB (t s) := fun j hj => by
              rw [← hu j hj]
              exact h1 j hj
            cases q2 : leB (t s) with
            | true =>
              exact absurd (fb_ct_all.mpr (fun j hj => by rw [← q2]; exact h2 j hj)) c2
            | false =>
              exact absurd (fb_ct_zero.mpr (fun j hj => by rw [← q2]; exact h2 j hj)) c1
        rw [hg, b01_f, if_pos rfl]
        refine ⟨_, _, _, rfl, fun vc _ => Or.inl ⟨?_, rfl, ?_⟩⟩
        · unfold kC
          rw [if_pos ha, if_neg c1, if_neg c2]
        · exact if_neg (fun q => c2 q.2.2.1)
  cases h1 : leB (t s) with
  | true =>
    rw [b01_t, if_neg (by decide)]
    exact key (by unfold anB; rw [h1, Bool.true_or])
  | false =>
    rw [b01_f, if_pos rfl, bind_e (isDigM _), TU_di h (show s < 1240 by omega)]
    cases h2 : diB (t s) with
    | true =>
      rw [b01_t, if_neg (by decide)]
      exact key (by unfold anB; rw [h2, Bool.or_true])
    | false =>
      have ha : ¬ anB (t s) = true := by
        unfold anB
        rw [h1, h2]
        decide
      have e0 : enT t n s = s + 1 := if_neg ha
      have e3 : wC t n s = -1 := if_neg (fun q => ha q.1)
      have e4 : kC t n s = if t s = 59 then 2 else 1 := if_neg ha
      have e1 : ∀ x : Int32, fX12_go_j146 N (nI n) (nI s) (nI s) k nu w u x = some (nI (s + 1), nI s, x, nu, w) := by
        intro x
        unfold fX12_go_j146
        rw [bnd_e, nI_1]
      rw [b01_f, if_pos rfl, e0, e3, e4, e1, e1]
      by_cases c : t s = 59
      · rw [if_pos ((TU_59 h (show s < 1240 by omega)).mpr c), if_pos c]
        exact ⟨_, _, _, rfl, fun vc _ => Or.inr (Or.inl ⟨rfl, rfl, rfl⟩)⟩
      · rw [if_neg (fun q => c ((TU_59 h (show s < 1240 by omega)).mp q)), if_neg c]
        exact ⟨_, _, _, rfl, fun vc _ => Or.inl ⟨rfl, rfl, rfl⟩⟩

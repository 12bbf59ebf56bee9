/-! heard, reach, wrong, judge -/
theorem ofM_x {t w : Nat} {c : Int32} (hc : c = nI w) (h : t < 16) (hw : w < 14) (now : Nat → Int32) : fX12_of now (nI t) c = some (now (20 + 20 * t + w)) := by
  subst hc
  exact ofM_e h hw now
theorem told_x {t w : Nat} {c : Int32} (hc : c = nI w) (h : t < 16) (hw : w < 14) (rF : Nat → Int32) : fX5_told rF (nI t) c = some (rF (14 * t + w)) := by
  subst hc
  exact told_e h hw rF
theorem sh_e {a b : Nat} (rc : Nat → Int64) : lg_cmp (rc a &&& rc b) 0 = lg_cmp (rc b &&& rc a) 0 := by rw [Int64.and_comm]
/-- the standing of one that is up, in both -/
theorem up_e {T A t : Nat} {dg vo lo sh he tn rF now : Nat → Int32} {rc : Nat → Int64} (hs : IS1 T dg vo now) (ht : t < 16) (hu : ¬ dg t = -1) : t < T ∧ (dg t = nI (dg t).toNatClampNeg ∧ (dg t).toNatClampNeg < 3600) ∧ now (340 + 2 * t) = dg t ∧ now (341 + 2 * t) = vo t ∧ ∃ v, v < 4 ∧ vo t = nI v := by
  obtain ⟨e, q⟩ := hs t ht
  rcases q with q | ⟨hT, ⟨d, hd, e1⟩, v, hv, e2, e3⟩
  · exact absurd q hu
  · refine ⟨hT, ?_, e.symm, e3.trans e2.symm, v, hv, e2⟩
    rw [e1, nI_clamp (by omega)]
    exact ⟨rfl, hd⟩
theorem touchesM_e {T L P A k t : Nat} {rl rt rp ra rf : Int32} {rc gr : Nat → Int64} {rP rF now dg vo : Nat → Int32} (h : IR1 T L P A rl rt rp ra rf rc rP rF now gr) (hs : IS1 T dg vo now) (hk : k < T) (ht : t < T) (uk : ¬ dg k = -1) (ut : ¬ dg t = -1) : fX12_touches gr now (nI k) (nI t) = some (if tch dg vo rc t k = true then 1 else 0) := by
  obtain ⟨⟨hT, hL, hP, hA⟩, -, -, -, -, hc⟩ := h
  have e1 := (up_e (A := 0) (lo := dg) (sh := dg) (he := dg) (tn := dg) (rF := dg) (rc := rc) hs (show k < 16 by omega) uk).2.2.2.1
  have e2 := (up_e (A := 0) (lo := dg) (sh := dg) (he := dg) (tn := dg) (rF := dg) (rc := rc) hs (show t < 16 by omega) ut).2.2.2.1
  unfold fX12_touches tch
  rw [gdi_nI (by omega) (by decide), gdi_nI (by omega) (by decide), nI_clamp (by omega), nI_clamp (show t < 2 ^ 31 by omega), ← hc k hk, ← hc t ht, sh_e rc]
  by_cases c1 : lg_cmp (rc t &&& rc k) 0 = 0
  · rw [if_pos c1]; simp [c1]
  · rw [if_neg c1, bind_e (voice_e (by omega) now), bind_e (voice_e (by omega) now), e1, e2]
    by_cases c2 : vo k = vo t
    · rw [if_pos c2]; simp [c1, c2, uk, ut]
    · rw [if_neg c2]; simp [Ne.symm c2]
theorem reachOfM_e {N T L P A k t : Nat} {rl rt rp ra rf : Int32} {rc gr : Nat → Int64} {rP rF now dg vo lo sh ls ss : Nat → Int32} (h : IR1 T L P A rl rt rp ra rf rc rP rF now gr) (hs : IS1 T dg vo now) (hW : WS T dg lo sh) (hl : ∀ j, j < T → ls j = lo j ∧ ss j = sh j) (hk : k < T) (ht : t < T) (uk : ¬ dg k = -1) (ut : ¬ dg t = -1) : fX12_reachOf N gr now ls ss (nI k) (nI t) = some (if tch dg vo rc t k = true then rv dg lo sh k t else 0) := by
  have hT : T ≤ 16 := h.1.1
  obtain ⟨-, ⟨ek, gk⟩, nk, -, -⟩ := up_e (A := 0) (lo := dg) (sh := dg) (he := dg) (tn := dg) (rF := dg) (rc := rc) hs (show k < 16 by omega) uk
  obtain ⟨-, ⟨et, gt⟩, nt, -, -⟩ := up_e (A := 0) (lo := dg) (sh := dg) (he := dg) (tn := dg) (rF := dg) (rc := rc) hs (show t < 16 by omega) ut
  obtain ⟨lk, lk2, sk, sk2⟩ := WS_lo hW hk
  unfold fX12_reachOf
  rw [bind_e (touchesM_e h hs hk ht uk ut)]
  by_cases c : tch dg vo rc t k = true
  · rw [if_pos c, if_pos c, if_neg (show ¬ (1 : Int32) = 0 by decide), gdi_nI (by omega) (by decide), gdi_nI (by omega) (by decide), bind_e (at_e (by omega) now), bind_e (at_e (by omega) now), nk, nt]
    have g1 : fX12_apart N (dg k) (dg t) = some (nI (gp (dg k).toNatClampNeg (dg t).toNatClampNeg)) := by
      conv => lhs; rw [ek, et]
      exact gapM gk gt
    have g2 := gp_le gk gt
    have r1 : fX12_reachBy (ls (nI k).toNatClampNeg) (ss (nI k).toNatClampNeg) (nI (gp (dg k).toNatClampNeg (dg t).toNatClampNeg)) = some (rv dg lo sh k t) := by
      rw [nI_clamp (by omega), (hl k hk).1, (hl k hk).2]
      conv => lhs; rw [lk, sk]
      exact reachM lk2 sk2 g2
    rw [bind_e g1, bind_e r1]
  · rw [if_neg c, if_neg c, if_pos rfl]
theorem heardM_e {N T L P A t : Nat} {rl rt rp ra rf : Int32} {rc gr : Nat → Int64} {rP rF now dg vo lo sh ls ss : Nat → Int32} (hN : 16 < N) (h : IR1 T L P A rl rt rp ra rf rc rP rF now gr) (hs : IS1 T dg vo now) (hW : WS T dg lo sh) (hl : ∀ j, j < T → ls j = lo j ∧ ss j = sh j) (ht : t < T) (ut : ¬ dg t = -1) : fX12_heardBy N now gr ls ss (nI t) = some (smH dg vo lo sh rc t T) := by
  have hT : T ≤ 16 := h.1.1
  have n1 : now 1 = nI T := h.2.2.1.2.1
  unfold fX12_heardBy
  rw [show (((0 : Int32), (0 : Int32)) : Int32 × Int32) = (fun k => (smH dg vo lo sh rc t k, nI k)) 0 from rfl, itr_0 (r := smH dg vo lo sh rc t T) (fun k => (smH dg vo lo sh rc t k, nI k)) T (by omega) ?_ ?_]
  · rfl
  · show fX12_heardBy_l4b N now gr ls ss (nI t) (smH dg vo lo sh rc t T) (nI T) = _
    unfold fX12_heardBy_l4b
    rw [bind_e (things_e n1), if_pos (nI_le (Nat.le_refl T) (by omega))]
  · intro k hk
    show fX12_heardBy_l4b N now gr ls ss (nI t) (smH dg vo lo sh rc t k) (nI k) = some (.inl (smH dg vo lo sh rc t k + (if k ≠ t ∧ tch dg vo rc t k = true then rv dg lo sh k t else 0), nI (k + 1)))
    unfold fX12_heardBy_l4b
    rw [bind_e (things_e n1), if_neg (nI_ge hk (by omega))]
    by_cases hkt : k = t
    · rw [if_pos (by rw [hkt]), bnd_e, nI_1, if_neg (fun q => q.1 hkt), Int32.add_zero]
    · rw [if_neg (fun q => hkt ((nI_eq (by omega) (by omega)).mp q)), bind_e (isUpM_e (by omega) now), ← (hs k (by omega)).1]
      by_cases uk : dg k = -1
      · rw [if_pos uk, if_pos rfl, bnd_e, nI_1, if_neg (fun q => tch_no (Or.inr uk) q.2), Int32.add_zero]
      · rw [if_neg uk, if_neg (show ¬ (1 : Int32) = 0 by decide), bind_e (reachOfM_e h hs hW hl hk ht uk ut), bnd_e, bnd_e, nI_1]
        by_cases c : tch dg vo rc t k = true
        · rw [if_pos c, if_pos ⟨hkt, c⟩]
        · rw [if_neg c, if_neg (fun q => c q.2)]
/-- layBeams: louds and sharps as told -/
def lb (f : Nat → Int32) (now : Nat → Int32) (w : Nat) (k : Nat) : Nat → Int32 := fun j => if j < k then now (20 + 20 * j + w) else f j
theorem lb_s (f now : Nat → Int32) (w k : Nat) : upd (lb f now w k) k (now (20 + 20 * k + w)) = lb f now w (k + 1) := by
  funext j
  by_cases e : j = k
  · subst e
    rw [pk_us]
    unfold lb
    rw [if_pos (Nat.lt_succ_self _)]
  · rw [pk_un e]
    unfold lb
    by_cases h : j < k
    · rw [if_pos h, if_pos (by omega)]
    · rw [if_neg h, if_neg (by omega)]
theorem layBeams_e {N T : Nat} {now ls ss : Nat → Int32} (hN : 16 < N) (hT : T ≤ 16) (n1 : now 1 = nI T) : fX12_layBeams N now ls ss = some (lb ls now 4 T, lb ss now 5 T) := by
  have z : ∀ (f : Nat → Int32) (w : Nat), lb f now w 0 = f := fun f w => by
    funext j
    unfold lb
    rw [if_neg (Nat.not_lt_zero _)]
  unfold fX12_layBeams
  have e0 : ((ls, ss, (0 : Int32)) : (Nat → Int32) × (Nat → Int32) × Int32) = (fun k => (lb ls now 4 k, lb ss now 5 k, nI k)) 0 := by
    show _ = (lb ls now 4 0, lb ss now 5 0, nI 0)
    rw [z, z]
    rfl
  rw [e0, itr_0 (r := (lb ls now 4 T, lb ss now 5 T)) (fun k => (lb ls now 4 k, lb ss now 5 k, nI k)) T (by omega) ?_ ?_]
  · rfl
  · show fX12_layBeams_l2b N now (lb ls now 4 T) (lb ss now 5 T) (nI T) = _
    unfold fX12_layBeams_l2b
    rw [bind_e (things_e n1), if_pos (nI_le (Nat.le_refl T) (by omega))]
  · intro k hk
    show fX12_layBeams_l2b N now (lb ls now 4 k) (lb ss now 5 k) (nI k) = some (.inl (lb ls now 4 (k + 1), lb ss now 5 (k + 1), nI (k + 1)))
    unfold fX12_layBeams_l2b
    rw [bind_e (things_e n1), if_neg (nI_ge hk (by omega)), bind_e (ofM_x (t := k) (w := 4) (c := 4) rfl (by omega) (by decide) now), gdi_nI (by omega) (by decide), bnd_e, bind_e (ofM_x (t := k) (w := 5) (c := 5) rfl (by omega) (by decide) now), gdi_nI (by omega) (by decide), bnd_e, bnd_e, nI_1, nI_clamp (by omega), lb_s, lb_s]
theorem lb_in {f now : Nat → Int32} {w k j : Nat} (h : j < k) : lb f now w k j = now (20 + 20 * j + w) := if_pos h
theorem beams {T L P A : Nat} {rl rt rp ra rf : Int32} {rc gr : Nat → Int64} {rP rF now dg vo lo sh he tn ls ss : Nat → Int32} (h : IR1 T L P A rl rt rp ra rf rc rP rF now gr) (hs : IST T A dg vo lo sh he tn rc rF now) : ∀ j, j < T → lb ls now 4 T j = lo j ∧ lb ss now 5 T j = sh j := by
  intro j hj
  rw [lb_in hj, lb_in hj, (hs.2.1 j hj).1, (hs.2.1 j hj).2, h.2.2.2.2.1 j hj 4 (by decide), h.2.2.2.2.1 j hj 5 (by decide)]
  exact ⟨rfl, rfl⟩
theorem p_heard {N T L P A : Nat} {rl rt rp ra rf b th : Int32} {rc gr : Nat → Int64} {rP rF now now1 dg vo lo sh he tn ls ss : Nat → Int32} (hN : 16 < N) (h : IR1 T L P A rl rt rp ra rf rc rP rF now1 gr) (hF : IF1 T L rF) (hs : IST T A dg vo lo sh he tn rc rF now1) (hl : LY N b now now1) (x : Int32) : ∃ (ls2 ss2 : Nat → Int32) (r : Int32), fX11_heard rt dg he x = some r ∧ fX12_heard N th b now ls ss gr x = some (0, 1, now1, ls2, ss2, r) := by
  have h' := h
  have hW := IST_WS hs hF
  obtain ⟨⟨hT, hL, hP, hA⟩, ⟨rfl, rfl, rfl, rfl⟩, ⟨n0, n1, n2, n3, n4, hf⟩, hp, hF2, hc⟩ := h
  unfold fX11_heard fX12_heard
  rw [bind_e hl]
  rcases th_cases x hT with h0 | ⟨t, ht, rfl⟩
  · refine ⟨ls, ss, -1, ?_, ?_⟩
    · rw [bind_e (hasUp_no h0), if_pos rfl]
    · rw [bind_e (isThing_no n1 h0), if_pos rfl]
  · rw [bind_e (hasUp_yes ht hT dg), bind_e (isThing_yes n1 ht hT), if_neg (show ¬ (1 : Int32) = 0 by decide), bind_e (isUpM_e (by omega) now1), ← (hs.1 t (by omega)).1]
    by_cases hu : dg t = -1
    · refine ⟨ls, ss, -1, ?_, ?_⟩
      · rw [if_pos hu, if_pos rfl]
      · rw [if_pos hu, if_pos rfl]
    · refine ⟨lb ls now1 4 T, lb ss now1 5 T, he t, ?_, ?_⟩
      · rw [if_neg hu, if_neg (show ¬ (1 : Int32) = 0 by decide), gdi_nI (by omega) (by decide), nI_clamp (by omega)]
      · rw [if_neg hu, if_neg (show ¬ (1 : Int32) = 0 by decide), bind_e (layBeams_e hN hT n1), bind_e (heardM_e hN h' hs.1 hW (beams h' hs) ht hu), hs.2.2.1 t ht]

/-! arcs, voices, wrong ones -/
def ina (f t d : Int32) : Int32 := if t < f then (if f ≤ d then 1 else (if t < d then 0 else 1)) else (if d < f then 0 else (if t < d then 0 else 1))
theorem isInArcC_e {t : Nat} (ht : t < 16) (rF : Nat → Int32) (d : Int32) : fX5_isInArc rF (nI t) d = some (ina (rF (14 * t + 1)) (rF (14 * t + 2)) d) := by
  unfold fX5_isInArc ina
  rw [show nI t * (14 : Int32) + (1 : Int32) = nI (14 * t + 1) from i14 t 1, show nI t * (14 : Int32) + (2 : Int32) = nI (14 * t + 2) from i14 t 2, gdi_nI (by omega) (by decide), nI_clamp (by omega), bnd_e, gdi_nI (by omega) (by decide), nI_clamp (by omega), bnd_e]
  by_cases c1 : rF (14 * t + 2) < rF (14 * t + 1)
  · rw [if_pos c1, if_pos c1]
    by_cases c2 : rF (14 * t + 1) ≤ d
    · rw [if_pos c2, if_pos c2]
    · rw [if_neg c2, if_neg c2]
      by_cases c3 : rF (14 * t + 2) < d
      · rw [if_pos c3, if_pos c3]
      · rw [if_neg c3, if_neg c3]
  · rw [if_neg c1, if_neg c1]
    by_cases c2 : d < rF (14 * t + 1)
    · rw [if_pos c2, if_pos c2]
    · rw [if_neg c2, if_neg c2]
      by_cases c3 : rF (14 * t + 2) < d
      · rw [if_pos c3, if_pos c3]
      · rw [if_neg c3, if_neg c3]
theorem isInArcM_e {t : Nat} (ht : t < 16) (now : Nat → Int32) (d : Int32) : fX12_isInArc now (nI t) d = some (ina (now (20 + 20 * t + 1)) (now (20 + 20 * t + 2)) d) := by
  unfold fX12_isInArc ina
  rw [bind_e (ofM_x (w := 1) (c := 1) rfl ht (by decide) now), bind_e (ofM_x (w := 2) (c := 2) rfl ht (by decide) now)]
  by_cases c1 : now (20 + 20 * t + 2) < now (20 + 20 * t + 1)
  · rw [if_pos c1, if_pos c1]
    by_cases c2 : now (20 + 20 * t + 1) ≤ d
    · rw [if_pos c2, if_pos c2]
    · rw [if_neg c2, if_neg c2]
      by_cases c3 : now (20 + 20 * t + 2) < d
      · rw [if_pos c3, if_pos c3]
      · rw [if_neg c3, if_neg c3]
  · rw [if_neg c1, if_neg c1]
    unfold fX12_isIn
    by_cases c2 : d < now (20 + 20 * t + 1)
    · rw [if_pos c2, if_pos c2, bind_e rfl, gdb_e (Or.inl rfl)]
    · rw [if_neg c2, if_neg c2]
      by_cases c3 : now (20 + 20 * t + 2) < d
      · rw [if_pos c3, if_pos c3, bind_e rfl, gdb_e (Or.inl rfl)]
      · rw [if_neg c3, if_neg c3, bind_e rfl, gdb_e (Or.inr rfl)]
theorem bit_01 (x : Int32) : x &&& 1 = 0 ∨ x &&& 1 = 1 := by
  obtain ⟨j, hj, e⟩ := pk_andE x (m := 1) 1 (by decide)
  have : j = 0 ∨ j = 1 := by omega
  rcases this with rfl | rfl
  · exact Or.inl e
  · exact Or.inr e
def hv (s v : Int32) : Int32 := if (s >>> (v &&& 31)) &&& 1 = 0 then 0 else 1
theorem hasVoiceC_e {t : Nat} (ht : t < 16) (rF : Nat → Int32) (v : Int32) : fX5_hasVoice rF (nI t) v = some (hv (rF (14 * t + 3)) v) := by
  unfold fX5_hasVoice hv
  rw [show nI t * (14 : Int32) + (3 : Int32) = nI (14 * t + 3) from i14 t 3, gdi_nI (by omega) (by decide), nI_clamp (by omega)]
  by_cases c : (rF (14 * t + 3) >>> (v &&& 31)) &&& 1 = 0
  · rw [if_pos c, if_pos c]
  · rw [if_neg c, if_neg c]
theorem hasM_e (s v : Int32) : fX12_has s v = some (hv s v) := by
  unfold fX12_has hv
  rcases bit_01 (s >>> (v &&& 31)) with c | c
  · rw [if_pos c, if_neg (by rw [c]; decide)]
  · rw [if_pos c, if_neg (by rw [c]; decide)]
theorem isDeadC_e {t : Nat} (ht : t < 16) (rF : Nat → Int32) : fX5_isDead rF (nI t) = some (if rF (14 * t + 8) = -1 then 0 else 1) := by
  unfold fX5_isDead
  rw [show nI t * (14 : Int32) + (8 : Int32) = nI (14 * t + 8) from i14 t 8, gdi_nI (by omega) (by decide), nI_clamp (by omega)]
  by_cases c : rF (14 * t + 8) = -1
  · rw [if_pos c, if_pos c]
  · rw [if_neg c, if_neg c]
theorem isDeadM_e {t : Nat} (ht : t < 16) (now : Nat → Int32) : fX12_isDead now (nI t) = some (if now (20 + 20 * t + 8) = -1 then 0 else 1) := by
  unfold fX12_isDead
  rw [bind_e (ofM_x (w := 8) (c := 8) rfl ht (by decide) now)]
  by_cases c : now (20 + 20 * t + 8) = -1
  · rw [if_pos c, if_pos c]
  · rw [if_neg c, if_neg c]
theorem isLiving_e {t : Nat} (ht : t < 16) (dg rF : Nat → Int32) : fX8_isLiving dg rF (nI t) = some (if dg t = -1 ∨ ¬ rF (14 * t + 8) = -1 then 0 else 1) := by
  unfold fX8_isLiving
  rw [gdi_nI ht (by decide), nI_clamp (by omega)]
  by_cases c : dg t = -1
  · rw [if_pos c, if_pos (Or.inl c)]
  · rw [if_neg c, bind_e (isDeadC_e ht rF)]
    by_cases c2 : rF (14 * t + 8) = -1
    · rw [if_pos c2, if_pos rfl, if_neg (fun q => q.elim c (fun z => z c2))]
    · rw [if_neg c2, if_neg (show ¬ (1 : Int32) = 0 by decide), if_pos (Or.inr c2)]
/-- how many are too near -/
def cN (A : Nat) (dg vo : Nat → Int32) (rc : Nat → Int64) (t : Nat) : Nat → Nat
  | 0 => 0
  | k + 1 => cN A dg vo rc t k + (if k ≠ t ∧ tch dg vo rc t k = true ∧ gp (dg t).toNatClampNeg (dg k).toNatClampNeg < A then 1 else 0)
theorem cN_le (A : Nat) (dg vo : Nat → Int32) (rc : Nat → Int64) (t : Nat) : ∀ n, cN A dg vo rc t n ≤ n
  | 0 => Nat.le_refl 0
  | n + 1 => by
    have h := cN_le A dg vo rc t n
    show cN A dg vo rc t n + _ ≤ n + 1
    split <;> omega
theorem smN_cN (A : Nat) (dg vo : Nat → Int32) (rc : Nat → Int64) (t : Nat) : ∀ n, smN A dg vo rc t n = nI (cN A dg vo rc t n)
  | 0 => rfl
  | n + 1 => by
    show smN A dg vo rc t n + _ = nI (cN A dg vo rc t n + _)
    rw [smN_cN A dg vo rc t n]
    split
    · exact nI_1 _
    · exact Int32.add_zero _
theorem cN_pos {A : Nat} {dg vo : Nat → Int32} {rc : Nat → Int64} {t : Nat} : ∀ {n : Nat}, cN A dg vo rc t n = 0 ↔ ∀ k, k < n → ¬ (k ≠ t ∧ tch dg vo rc t k = true ∧ gp (dg t).toNatClampNeg (dg k).toNatClampNeg < A)
  | 0 => ⟨fun _ k h => absurd h (Nat.not_lt_zero k), fun _ => rfl⟩
  | n + 1 => by
    have ih := cN_pos (A := A) (dg := dg) (vo := vo) (rc := rc) (t := t) (n := n)
    constructor
    · intro h k hk
      have h1 : cN A dg vo rc t n + (if n ≠ t ∧ tch dg vo rc t n = true ∧ gp (dg t).toNatClampNeg (dg n).toNatClampNeg < A then 1 else 0) = 0 := h
      by_cases c : n ≠ t ∧ tch dg vo rc t n = true ∧ gp (dg t).toNatClampNeg (dg n).toNatClampNeg < A
      · rw [if_pos c] at h1
        omega
      · rw [if_neg c] at h1
        rcases Nat.lt_or_ge k n with q | q
        · exact ih.mp h1 k q
        · have : k = n := by omega
          subst this
          exact c
    · intro h
      show cN A dg vo rc t n + (if n ≠ t ∧ tch dg vo rc t n = true ∧ gp (dg t).toNatClampNeg (dg n).toNatClampNeg < A then 1 else 0) = 0
      rw [if_neg (h n (Nat.lt_succ_self n)), ih.mpr (fun k hk => h k (by omega))]
/-- WRONG of one that stands -/
def wr (T A : Nat) (dg vo lo sh rF : Nat → Int32) (rc : Nat → Int64) (t : Nat) : Int32 :=
  if ina (rF (14 * t + 1)) (rF (14 * t + 2)) (dg t) = 0 then 1 else if hv (rF (14 * t + 3)) (vo t) = 0 then 2 else if cN A dg vo rc t T = 0 then (if smH dg vo lo sh rc t T ≤ rF (14 * t + 6) then 0 else 4) else 3
theorem wrongC_e {T A t : Nat} {dg vo lo sh he tn rF : Nat → Int32} {rc : Nat → Int64} (hT : T ≤ 16) (ht : t < T) (h : IH T A dg vo lo sh he tn rc) : fX8_wrongOf dg rF vo tn he (nI t) = some (wr T A dg vo lo sh rF rc t) := by
  have hc := cN_le A dg vo rc t T
  unfold fX8_wrongOf wr
  rw [gdi_nI (by omega) (by decide), nI_clamp (by omega), bind_e (isInArcC_e (by omega) rF (dg t))]
  by_cases c1 : ina (rF (14 * t + 1)) (rF (14 * t + 2)) (dg t) = 0
  · rw [if_pos c1, if_pos c1]
  · rw [if_neg c1, if_neg c1, gdi_nI (by omega) (by decide), bind_e (hasVoiceC_e (by omega) rF (vo t))]
    by_cases c2 : hv (rF (14 * t + 3)) (vo t) = 0
    · rw [if_pos c2, if_pos c2]
    · rw [if_neg c2, if_neg c2, gdi_nI (by omega) (by decide), h.2 t ht, smN_cN]
      by_cases c3 : cN A dg vo rc t T = 0
      · rw [if_pos c3, if_pos (by rw [c3]; decide), gdi_nI (by omega) (by decide), bind_e (told_x (t := t) (w := 6) (c := 6) rfl (by omega) (by decide) rF), h.1 t ht]
        by_cases c4 : smH dg vo lo sh rc t T ≤ rF (14 * t + 6)
        · rw [if_pos c4, if_pos c4]
        · rw [if_neg c4, if_neg c4]
      · rw [if_neg c3, if_neg (nI_nle (by omega) (by omega))]
set_option maxHeartbeats 1000000 in
theorem wrongM_e {N T L P A t : Nat} {rl rt rp ra rf : Int32} {rc gr : Nat → Int64} {rP rF now dg vo lo sh ls ss : Nat → Int32} (hN : 16 < N) (h : IR1 T L P A rl rt rp ra rf rc rP rF now gr) (hs : IS1 T dg vo now) (hW : WS T dg lo sh) (hl : ∀ j, j < T → ls j = lo j ∧ ss j = sh j) (ht : t < T) (ut : ¬ dg t = -1) : fX12_wrongOf N now gr ls ss (nI t) = some (wr T A dg vo lo sh rF rc t) := by
  have hT : T ≤ 16 := h.1.1
  have hA : A ≤ 300 := h.1.2.2.2
  have n1 : now 1 = nI T := h.2.2.1.2.1
  have n3 : now 3 = nI A := h.2.2.1.2.2.2.1
  have hF := h.2.2.2.2.1
  obtain ⟨-, ⟨et, gt⟩, nt, vt, -⟩ := up_e (A := 0) (lo := dg) (sh := dg) (he := dg) (tn := dg) (rF := dg) (rc := rc) hs (show t < 16 by omega) ut
  unfold fX12_wrongOf wr
  rw [bind_e (at_e (by omega) now), bind_e (isInArcM_e (by omega) now _), nt, ← hF t ht 1 (by decide), ← hF t ht 2 (by decide)]
  by_cases c1 : ina (rF (14 * t + 1)) (rF (14 * t + 2)) (dg t) = 0
  · rw [if_pos c1, if_pos c1]
  · rw [if_neg c1, if_neg c1, bind_e (ofM_x (t := t) (w := 3) (c := 3) rfl (by omega) (by decide) now), bind_e (voice_e (by omega) now), bind_e (hasM_e _ _), vt, ← hF t ht 3 (by decide)]
    by_cases c2 : hv (rF (14 * t + 3)) (vo t) = 0
    · rw [if_pos c2, if_pos c2]
    · rw [if_neg c2, if_neg c2]
      -- a step of the loop at k
      have step : ∀ k, k < T → fX12_wrongOf_l36b N now gr ls ss (nI t) (nI k) = some (if k ≠ t ∧ tch dg vo rc t k = true ∧ gp (dg t).toNatClampNeg (dg k).toNatClampNeg < A then .inr (.inr 3) else .inl (nI (k + 1))) := by
        intro k hk
        unfold fX12_wrongOf_l36b
        rw [bind_e (things_e n1), if_neg (nI_ge hk (by omega))]
        by_cases hkt : k = t
        · rw [if_pos (by rw [hkt]), bnd_e, nI_1, if_neg (fun q => q.1 hkt)]
        · rw [if_neg (fun q => hkt ((nI_eq (by omega) (by omega)).mp q)), bind_e (isUpM_e (by omega) now), ← (hs k (by omega)).1]
          by_cases uk : dg k = -1
          · rw [if_pos uk, if_pos rfl, bnd_e, nI_1, if_neg (fun q => tch_no (Or.inr uk) q.2.1)]
          · obtain ⟨-, ⟨ek, gk⟩, nk, -, -⟩ := up_e (A := 0) (lo := dg) (sh := dg) (he := dg) (tn := dg) (rF := dg) (rc := rc) hs (show k < 16 by omega) uk
            rw [if_neg uk, if_neg (show ¬ (1 : Int32) = 0 by decide), bind_e (touchesM_e h hs ht hk ut uk), tch_comm dg vo rc k t]
            by_cases c : tch dg vo rc t k = true
            · have g1 : fX12_apart N (dg t) (dg k) = some (nI (gp (dg t).toNatClampNeg (dg k).toNatClampNeg)) := by
                conv => lhs; rw [et, ek]
                exact gapM gt gk
              have g2 := gp_le gt gk
              rw [if_pos c, if_neg (show ¬ (1 : Int32) = 0 by decide), bind_e (at_e (by omega) now), bind_e (at_e (by omega) now), nt, nk, bind_e g1, gdi_e (i := 3) (n := 380) 3 rfl (by decide) (by decide), show now ((3 : Int32).toNatClampNeg) = nI A from n3]
              by_cases c4 : gp (dg t).toNatClampNeg (dg k).toNatClampNeg < A
              · rw [if_neg (nI_ge c4 (by omega)), if_pos ⟨hkt, c, c4⟩]
              · rw [if_pos (nI_le (by omega) (by omega)), bnd_e, nI_1, if_neg (fun q => c4 q.2.2)]
            · rw [if_neg c, if_pos rfl, bnd_e, nI_1, if_neg (fun q => c q.2.1)]
      by_cases c3 : cN A dg vo rc t T = 0
      · have hno := cN_pos.mp c3
        have e1 : itr (fun z => fX12_wrongOf_l36b N now gr ls ss (nI t) z) N (0 : Int32) = some (.inl ()) := by
          rw [show (0 : Int32) = (fun k => nI k) 0 from rfl]
          refine itr_0 (fun k => nI k) T (by omega) ?_ (fun k hk => ?_)
          · show fX12_wrongOf_l36b N now gr ls ss (nI t) (nI T) = _
            unfold fX12_wrongOf_l36b
            rw [bind_e (things_e n1), if_pos (nI_le (Nat.le_refl T) (by omega))]
          · show fX12_wrongOf_l36b N now gr ls ss (nI t) (nI k) = _
            rw [step k hk, if_neg (hno k hk)]
        rw [if_pos c3, bind_e e1]
        show (fX12_heardBy N now gr ls ss (nI t)).bind _ = _
        rw [bind_e (heardM_e hN h hs hW hl ht ut), bind_e (ofM_x (t := t) (w := 6) (c := 6) rfl (by omega) (by decide) now), ← hF t ht 6 (by decide)]
        by_cases c4 : smH dg vo lo sh rc t T ≤ rF (14 * t + 6)
        · rw [if_pos c4, if_pos c4]
        · rw [if_neg c4, if_neg c4]
      · have hex : ∃ k, k < T ∧ (k ≠ t ∧ tch dg vo rc t k = true ∧ gp (dg t).toNatClampNeg (dg k).toNatClampNeg < A) := by
          by_cases q : ∃ k, k < T ∧ (k ≠ t ∧ tch dg vo rc t k = true ∧ gp (dg t).toNatClampNeg (dg k).toNatClampNeg < A)
          · exact q
          · exact absurd (cN_pos.mpr (fun k hk z => q ⟨k, hk, z⟩)) c3
        obtain ⟨k0, hk0, p0, hlow⟩ := fb_first hex
        have e1 : itr (fun z => fX12_wrongOf_l36b N now gr ls ss (nI t) z) N (0 : Int32) = some (.inr 3) := by
          rw [show (0 : Int32) = (fun k => nI k) 0 from rfl]
          refine itr_0 (fun k => nI k) k0 (by omega) ?_ (fun k hk => ?_)
          · show fX12_wrongOf_l36b N now gr ls ss (nI t) (nI k0) = _
            rw [step k0 hk0, if_pos p0]
          · show fX12_wrongOf_l36b N now gr ls ss (nI t) (nI k) = _
            rw [step k (by omega), if_neg (hlow k hk)]
        rw [if_neg c3, bind_e e1]
        rfl

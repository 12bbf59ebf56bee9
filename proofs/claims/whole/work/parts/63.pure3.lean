/-! gaps, reaches, and what put and take keep along -/
def gp (a b : Nat) : Nat := if (if a ≤ b then b - a else a - b) ≤ 1800 then (if a ≤ b then b - a else a - b) else 3600 - (if a ≤ b then b - a else a - b)
theorem gp_comm (a b : Nat) : gp a b = gp b a := by
  unfold gp
  have h : (if a ≤ b then b - a else a - b) = (if b ≤ a then a - b else b - a) := by
    split <;> split <;> omega
  rw [h]
theorem gp_le {a b : Nat} (ha : a < 3600) (hb : b < 3600) : gp a b ≤ 1800 := by
  unfold gp
  split <;> split <;> omega
theorem gapC_j {N d : Nat} (h : d < 3600) : fX11_gapBetween_j14 N (nI d) = some (nI (if d ≤ 1800 then d else 3600 - d)) := by
  unfold fX11_gapBetween_j14
  rw [show (3600 : Int32) - nI d = nI (3600 - d) from pk_sub (a := 3600) (by omega)]
  by_cases e : d ≤ 1800
  · rw [if_neg (nI_nlt (by omega) (by omega)), if_pos e]
  · rw [if_pos (nI_lt (by omega) (by omega)), if_neg e]
theorem gapC {N a b : Nat} (ha : a < 3600) (hb : b < 3600) : fX11_gapBetween N (nI a) (nI b) = some (nI (gp a b)) := by
  unfold fX11_gapBetween
  by_cases e : b ≤ a
  · rw [if_pos (nI_le e (by omega)), pk_sub e, gapC_j (by omega), gp_comm]
    unfold gp
    rw [if_pos e]
  · rw [if_neg (nI_ge (by omega) (by omega)), pk_sub (by omega), gapC_j (by omega)]
    unfold gp
    rw [if_pos (show a ≤ b by omega)]
theorem gapM_j {N d : Nat} (h : d < 3600) : fX12_apart_j14 N (nI d) = some (nI (if d ≤ 1800 then d else 3600 - d)) := by
  unfold fX12_apart_j14
  rw [show (3600 : Int32) - nI d = nI (3600 - d) from pk_sub (a := 3600) (by omega)]
  by_cases e : d ≤ 1800
  · rw [if_pos (show nI d ≤ (1800 : Int32) from nI_le (b := 1800) e (by decide)), if_pos e]
  · rw [if_neg (show ¬ nI d ≤ (1800 : Int32) from nI_ge (a := 1800) (by omega) (by omega)), if_neg e]
theorem gapM {N a b : Nat} (ha : a < 3600) (hb : b < 3600) : fX12_apart N (nI a) (nI b) = some (nI (gp a b)) := by
  unfold fX12_apart
  by_cases e : a ≤ b
  · rw [if_pos (nI_le e (by omega)), pk_sub e, gapM_j (by omega)]
    unfold gp
    rw [if_pos e]
  · rw [if_neg (nI_ge (by omega) (by omega)), pk_sub (by omega), gapM_j (by omega), gp_comm]
    unfold gp
    rw [if_pos (show b ≤ a by omega)]
def rch (l s g : Nat) : Nat := 1000 * l / (10 + s * g)
theorem sg_le {s g : Nat} (hs : s ≤ 99) (hg : g ≤ 1800) : s * g ≤ 178200 := Nat.le_trans (Nat.mul_le_mul hs hg) (by decide)
theorem reachC {l s g : Nat} (hl : l ≤ 999) (hs : s ≤ 99) (hg : g ≤ 1800) : fX11_reachAt (nI l) (nI s) (nI g) = some (nI (rch l s g)) := by
  have h1 := sg_le hs hg
  unfold fX11_reachAt
  rw [pk_mul, show (10 : Int32) + nI (s * g) = nI (10 + s * g) from nI_add 10 (s * g), bnd_e, if_neg (show ¬ nI (10 + s * g) ≤ (0 : Int32) from nI_ge (a := 0) (by omega) (by omega)), gdz_e (nI_ne0 (by omega) (by omega)), show nI l * (1000 : Int32) = nI (l * 1000) from pk_mul l 1000, pk_div (by omega) (by omega) (by omega), Nat.mul_comm l 1000]
  rfl
theorem reachM {l s g : Nat} (hl : l ≤ 999) (hs : s ≤ 99) (hg : g ≤ 1800) : fX12_reachBy (nI l) (nI s) (nI g) = some (nI (rch l s g)) := by
  have h1 := sg_le hs hg
  unfold fX12_reachBy
  rw [pk_mul, show (10 : Int32) + nI (s * g) = nI (10 + s * g) from nI_add 10 (s * g), gdz_e (nI_ne0 (by omega) (by omega)), show (1000 : Int32) * nI l = nI (1000 * l) from pk_mul 1000 l, pk_div (by omega) (by omega) (by omega)]
  rfl
/-- two that stand, with one VOICE and a cell in common -/
def tch (dg vo : Nat → Int32) (rc : Nat → Int64) (a b : Nat) : Bool := decide (¬ dg a = -1) && (decide (¬ dg b = -1) && (decide (vo a = vo b) && decide (¬ lg_cmp (rc a &&& rc b) 0 = 0)))
theorem touching_e {a b : Nat} (ha : a < 16) (hb : b < 16) (dg vo : Nat → Int32) (rc : Nat → Int64) : fX8_touching dg vo rc (nI a) (nI b) = some (if tch dg vo rc a b = true then 1 else 0) := by
  unfold fX8_touching tch
  rw [gdi_nI ha (by decide), nI_clamp (by omega), gdi_nI hb (by decide), nI_clamp (show b < 2 ^ 31 by omega)]
  by_cases h1 : dg a = -1
  · rw [if_pos h1]; simp [h1]
  · rw [if_neg h1]
    by_cases h2 : dg b = -1
    · rw [if_pos h2]; simp [h2]
    · rw [if_neg h2, gdi_nI ha (by decide), gdi_nI hb (by decide)]
      by_cases h3 : vo a = vo b
      · rw [if_pos h3, gdi_nI ha (by decide), gdi_nI hb (by decide)]
        by_cases h4 : lg_cmp (rc a &&& rc b) 0 = 0
        · rw [if_pos h4]; simp [h4]
        · rw [if_neg h4]; simp [h1, h2, h3, h4]
      · rw [if_neg h3]; simp [h3]
/-- what a REACHES at b -/
def rv (dg lo sh : Nat → Int32) (a b : Nat) : Int32 := nI (rch (lo a).toNatClampNeg (sh a).toNatClampNeg (gp (dg a).toNatClampNeg (dg b).toNatClampNeg))
/-- numbers in their bounds -/
def WS (T : Nat) (dg lo sh : Nat → Int32) : Prop := (∀ t, t < 16 → dg t = -1 ∨ ∃ d, d < 3600 ∧ dg t = nI d) ∧ (∀ t, t < T → (∃ d, d ≤ 999 ∧ lo t = nI d) ∧ ∃ d, d ≤ 99 ∧ sh t = nI d)
def smH (dg vo lo sh : Nat → Int32) (rc : Nat → Int64) (t : Nat) : Nat → Int32
  | 0 => 0
  | k + 1 => smH dg vo lo sh rc t k + (if k ≠ t ∧ tch dg vo rc t k = true then rv dg lo sh k t else 0)
def smN (A : Nat) (dg vo : Nat → Int32) (rc : Nat → Int64) (t : Nat) : Nat → Int32
  | 0 => 0
  | k + 1 => smN A dg vo rc t k + (if k ≠ t ∧ tch dg vo rc t k = true ∧ gp (dg t).toNatClampNeg (dg k).toNatClampNeg < A then 1 else 0)
/-- hears, behind the first k of meetAll(t, s) -/
def mH (s : Int32) (dg vo lo sh : Nat → Int32) (rc : Nat → Int64) (t : Nat) (he : Nat → Int32) (k : Nat) : Nat → Int32 := fun j =>
  if j = t then he t + s * smH dg vo lo sh rc t k else if j < k ∧ tch dg vo rc t j = true then he j + s * rv dg lo sh t j else he j
def mN (s : Int32) (A : Nat) (dg vo : Nat → Int32) (rc : Nat → Int64) (t : Nat) (tn : Nat → Int32) (k : Nat) : Nat → Int32 := fun j =>
  if j = t then tn t + s * smN A dg vo rc t k else if j < k ∧ tch dg vo rc t j = true ∧ gp (dg t).toNatClampNeg (dg j).toNatClampNeg < A then tn j + s else tn j
theorem mH_skip {s : Int32} {dg vo lo sh he : Nat → Int32} {rc : Nat → Int64} {t k : Nat} (h : k = t ∨ ¬ tch dg vo rc t k = true) : mH s dg vo lo sh rc t he (k + 1) = mH s dg vo lo sh rc t he k := by
  funext j
  unfold mH
  have e : smH dg vo lo sh rc t (k + 1) = smH dg vo lo sh rc t k := by
    show smH dg vo lo sh rc t k + (if k ≠ t ∧ tch dg vo rc t k = true then rv dg lo sh k t else 0) = _
    rw [if_neg (fun q => h.elim q.1 (fun z => z q.2)), Int32.add_zero]
  rw [e]
  by_cases hj : j = t
  · rw [if_pos hj, if_pos hj]
  · rw [if_neg hj, if_neg hj]
    by_cases h2 : j < k ∧ tch dg vo rc t j = true
    · rw [if_pos h2, if_pos ⟨by omega, h2.2⟩]
    · rw [if_neg h2, if_neg]
      intro q
      rcases Nat.lt_or_ge j k with z | z
      · exact h2 ⟨z, q.2⟩
      · have : j = k := by omega
        subst this
        exact h.elim hj (fun w => w q.2)
theorem mH_step {s : Int32} {dg vo lo sh he : Nat → Int32} {rc : Nat → Int64} {t k : Nat} (hk : k ≠ t) (h : tch dg vo rc t k = true) : upd (upd (mH s dg vo lo sh rc t he k) k (mH s dg vo lo sh rc t he k k + s * rv dg lo sh t k)) t (upd (mH s dg vo lo sh rc t he k) k (mH s dg vo lo sh rc t he k k + s * rv dg lo sh t k) t + s * rv dg lo sh k t) = mH s dg vo lo sh rc t he (k + 1) := by
  have e : smH dg vo lo sh rc t (k + 1) = smH dg vo lo sh rc t k + rv dg lo sh k t := by
    show smH dg vo lo sh rc t k + (if k ≠ t ∧ tch dg vo rc t k = true then rv dg lo sh k t else 0) = _
    rw [if_pos ⟨hk, h⟩]
  have e1 : mH s dg vo lo sh rc t he k k = he k := by
    unfold mH
    rw [if_neg hk, if_neg (fun q => Nat.lt_irrefl _ q.1)]
  have e2 : mH s dg vo lo sh rc t he k t = he t + s * smH dg vo lo sh rc t k := by
    unfold mH
    rw [if_pos rfl]
  funext j
  by_cases hj : j = t
  · subst hj
    rw [pk_us, pk_un (Ne.symm hk), e2]
    unfold mH
    rw [if_pos rfl, e, Int32.mul_add, Int32.add_assoc]
  · rw [pk_un hj]
    by_cases hj2 : j = k
    · subst hj2
      rw [pk_us, e1]
      unfold mH
      rw [if_neg hj, if_pos ⟨Nat.lt_succ_self _, h⟩]
    · rw [pk_un hj2]
      unfold mH
      rw [if_neg hj, if_neg hj]
      by_cases h2 : j < k ∧ tch dg vo rc t j = true
      · rw [if_pos h2, if_pos ⟨by omega, h2.2⟩]
      · rw [if_neg h2, if_neg (fun q => h2 ⟨by omega, q.2⟩)]
theorem mN_skip {s : Int32} {A : Nat} {dg vo tn : Nat → Int32} {rc : Nat → Int64} {t k : Nat} (h : k = t ∨ ¬ (tch dg vo rc t k = true ∧ gp (dg t).toNatClampNeg (dg k).toNatClampNeg < A)) : mN s A dg vo rc t tn (k + 1) = mN s A dg vo rc t tn k := by
  funext j
  unfold mN
  have e : smN A dg vo rc t (k + 1) = smN A dg vo rc t k := by
    show smN A dg vo rc t k + (if k ≠ t ∧ tch dg vo rc t k = true ∧ gp (dg t).toNatClampNeg (dg k).toNatClampNeg < A then 1 else 0) = _
    rw [if_neg (fun q => h.elim q.1 (fun z => z q.2)), Int32.add_zero]
  rw [e]
  by_cases hj : j = t
  · rw [if_pos hj, if_pos hj]
  · rw [if_neg hj, if_neg hj]
    by_cases h2 : j < k ∧ tch dg vo rc t j = true ∧ gp (dg t).toNatClampNeg (dg j).toNatClampNeg < A
    · rw [if_pos h2, if_pos ⟨by omega, h2.2⟩]
    · rw [if_neg h2, if_neg]
      intro q
      rcases Nat.lt_or_ge j k with z | z
      · exact h2 ⟨z, q.2⟩
      · have : j = k := by omega
        subst this
        exact h.elim hj (fun w => w q.2)
theorem mN_step {s : Int32} {A : Nat} {dg vo tn : Nat → Int32} {rc : Nat → Int64} {t k : Nat} (hk : k ≠ t) (h : tch dg vo rc t k = true ∧ gp (dg t).toNatClampNeg (dg k).toNatClampNeg < A) : upd (upd (mN s A dg vo rc t tn k) k (mN s A dg vo rc t tn k k + s)) t (upd (mN s A dg vo rc t tn k) k (mN s A dg vo rc t tn k k + s) t + s) = mN s A dg vo rc t tn (k + 1) := by
  have e : smN A dg vo rc t (k + 1) = smN A dg vo rc t k + 1 := by
    show smN A dg vo rc t k + (if k ≠ t ∧ tch dg vo rc t k = true ∧ gp (dg t).toNatClampNeg (dg k).toNatClampNeg < A then 1 else 0) = _
    rw [if_pos ⟨hk, h⟩]
  have e1 : mN s A dg vo rc t tn k k = tn k := by
    unfold mN
    rw [if_neg hk, if_neg (fun q => Nat.lt_irrefl _ q.1)]
  have e2 : mN s A dg vo rc t tn k t = tn t + s * smN A dg vo rc t k := by
    unfold mN
    rw [if_pos rfl]
  funext j
  by_cases hj : j = t
  · subst hj
    rw [pk_us, pk_un (Ne.symm hk), e2]
    unfold mN
    rw [if_pos rfl, e, Int32.mul_add, Int32.mul_one, Int32.add_assoc]
  · rw [pk_un hj]
    by_cases hj2 : j = k
    · subst hj2
      rw [pk_us, e1]
      unfold mN
      rw [if_neg hj, if_pos ⟨Nat.lt_succ_self _, h⟩]
    · rw [pk_un hj2]
      unfold mN
      rw [if_neg hj, if_neg hj]
      by_cases h2 : j < k ∧ tch dg vo rc t j = true ∧ gp (dg t).toNatClampNeg (dg j).toNatClampNeg < A
      · rw [if_pos h2, if_pos ⟨by omega, h2.2⟩]
      · rw [if_neg h2, if_neg (fun q => h2 ⟨by omega, q.2⟩)]
theorem tch_up {dg vo : Nat → Int32} {rc : Nat → Int64} {a b : Nat} (h : tch dg vo rc a b = true) : ¬ dg a = -1 ∧ ¬ dg b = -1 := by
  unfold tch at h
  simp only [Bool.and_eq_true, decide_eq_true_eq] at h
  exact ⟨h.1, h.2.1⟩
theorem WS_dg {T : Nat} {dg lo sh : Nat → Int32} (h : WS T dg lo sh) {t : Nat} (ht : t < 16) (hu : ¬ dg t = -1) : dg t = nI (dg t).toNatClampNeg ∧ (dg t).toNatClampNeg < 3600 := by
  rcases h.1 t ht with e | ⟨d, hd, e⟩
  · exact absurd e hu
  · rw [e, nI_clamp (by omega)]
    exact ⟨rfl, hd⟩
theorem WS_lo {T : Nat} {dg lo sh : Nat → Int32} (h : WS T dg lo sh) {t : Nat} (ht : t < T) : lo t = nI (lo t).toNatClampNeg ∧ (lo t).toNatClampNeg ≤ 999 ∧ sh t = nI (sh t).toNatClampNeg ∧ (sh t).toNatClampNeg ≤ 99 := by
  obtain ⟨⟨d, hd, e⟩, q, hq, e2⟩ := h.2 t ht
  rw [e, e2, nI_clamp (by omega), nI_clamp (by omega)]
  exact ⟨rfl, hd, rfl, hq⟩
set_option maxHeartbeats 1000000 in
theorem meetAll_e {N T A t : Nat} {s : Int32} {dg vo lo sh he tn : Nat → Int32} {rc : Nat → Int64} (hN : 16 < N) (hT : T ≤ 16) (hA : A ≤ 300) (ht : t < T) (h : WS T dg lo sh) : fX8_meetAll N (nI T) (nI A) dg vo rc he lo sh tn (nI t) s = some (mH s dg vo lo sh rc t he T, mN s A dg vo rc t tn T) := by
  have z0 : mH s dg vo lo sh rc t he 0 = he := by
    funext j
    unfold mH
    by_cases hj : j = t
    · rw [if_pos hj, hj]
      show he t + s * 0 = he t
      rw [Int32.mul_zero, Int32.add_zero]
    · rw [if_neg hj, if_neg (fun q => Nat.not_lt_zero _ q.1)]
  have z1 : mN s A dg vo rc t tn 0 = tn := by
    funext j
    unfold mN
    by_cases hj : j = t
    · rw [if_pos hj, hj]
      show tn t + s * 0 = tn t
      rw [Int32.mul_zero, Int32.add_zero]
    · rw [if_neg hj, if_neg (fun q => Nat.not_lt_zero _ q.1)]
  unfold fX8_meetAll
  have e0 : ((he, tn, (0 : Int32)) : (Nat → Int32) × (Nat → Int32) × Int32) = (fun k => (mH s dg vo lo sh rc t he k, mN s A dg vo rc t tn k, nI k)) 0 := by
    show _ = (mH s dg vo lo sh rc t he 0, mN s A dg vo rc t tn 0, nI 0)
    rw [z0, z1]
    rfl
  rw [e0, itr_0 (r := (mH s dg vo lo sh rc t he T, mN s A dg vo rc t tn T)) (fun k => (mH s dg vo lo sh rc t he k, mN s A dg vo rc t tn k, nI k)) T (by omega) ?_ ?_]
  · rfl
  · show fX8_meetAll_l2b N (nI T) (nI A) dg vo rc lo sh (nI t) s (mH s dg vo lo sh rc t he T) (mN s A dg vo rc t tn T) (nI T) = _
    unfold fX8_meetAll_l2b
    rw [if_pos (nI_le (Nat.le_refl T) (by omega))]
  · intro k hk
    show fX8_meetAll_l2b N (nI T) (nI A) dg vo rc lo sh (nI t) s (mH s dg vo lo sh rc t he k) (mN s A dg vo rc t tn k) (nI k) = some (.inl (mH s dg vo lo sh rc t he (k + 1), mN s A dg vo rc t tn (k + 1), nI (k + 1)))
    unfold fX8_meetAll_l2b
    rw [if_neg (nI_ge hk (by omega))]
    by_cases hkt : k = t
    · rw [if_pos (by rw [hkt]), bnd_e, nI_1, mH_skip (Or.inl hkt), mN_skip (Or.inl hkt)]
    · rw [if_neg (fun q => hkt ((nI_eq (by omega) (by omega)).mp q)), bind_e (touching_e (a := t) (b := k) (by omega) (by omega) dg vo rc)]
      by_cases hc : tch dg vo rc t k = true
      · obtain ⟨ut, uk⟩ := tch_up hc
        obtain ⟨et, gt⟩ := WS_dg h (show t < 16 by omega) ut
        obtain ⟨ek, gk⟩ := WS_dg h (show k < 16 by omega) uk
        obtain ⟨lt, lt2, st, st2⟩ := WS_lo h ht
        obtain ⟨lk, lk2, sk, sk2⟩ := WS_lo h hk
        rw [if_pos hc, if_neg (show ¬ (1 : Int32) = 0 by decide), gdi_nI (by omega) (by decide), gdi_nI (by omega) (by decide), nI_clamp (by omega), nI_clamp (show k < 2 ^ 31 by omega)]
        have g1 : fX11_gapBetween N (dg t) (dg k) = some (nI (gp (dg t).toNatClampNeg (dg k).toNatClampNeg)) := by
          conv => lhs; rw [et, ek]
          exact gapC gt gk
        have g2 := gp_le gt gk
        have r1 : fX11_reachAt (lo t) (sh t) (nI (gp (dg t).toNatClampNeg (dg k).toNatClampNeg)) = some (rv dg lo sh t k) := by
          conv => lhs; rw [lt, st]
          exact reachC lt2 st2 g2
        have r2 : fX11_reachAt (lo k) (sh k) (nI (gp (dg t).toNatClampNeg (dg k).toNatClampNeg)) = some (rv dg lo sh k t) := by
          unfold rv
          rw [gp_comm (dg k).toNatClampNeg]
          conv => lhs; rw [lk, sk]
          exact reachC lk2 sk2 g2
        rw [bind_e g1, gdi_nI (by omega) (by decide), gdi_nI (by omega) (by decide), gdi_nI (by omega) (by decide), bind_e r1, gdi_nI (by omega) (by decide), bnd_e, gdi_nI (by omega) (by decide), gdi_nI (by omega) (by decide), gdi_nI (by omega) (by decide), bind_e r2, gdi_nI (by omega) (by decide), bnd_e, mH_step hkt hc]
        by_cases ha : gp (dg t).toNatClampNeg (dg k).toNatClampNeg < A
        · rw [if_neg (nI_ge ha (by omega)), gdi_nI (by omega) (by decide), gdi_nI (by omega) (by decide), bnd_e, gdi_nI (by omega) (by decide), gdi_nI (by omega) (by decide), bnd_e, bnd_e, nI_1, mN_step hkt ⟨hc, ha⟩]
        · rw [if_pos (nI_le (by omega) (by omega)), bnd_e, nI_1, mN_skip (Or.inr (fun q => ha q.2))]
      · rw [if_neg hc, if_pos rfl, bnd_e, nI_1, mH_skip (Or.inr hc), mN_skip (Or.inr (fun q => hc q.1))]

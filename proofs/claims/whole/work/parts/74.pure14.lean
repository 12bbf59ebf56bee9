/-! BARRED -/
theorem fm_negL : ∀ c, c < 12 → ∀ j, j < 300 → 1 ≤ 300 * c + j → fJ9_floorMod_7cf53 (-nI (300 * c + j)) 3600 = some (nI (3600 - (300 * c + j))) := by decide +kernel
theorem mm_negL : ∀ c, c < 12 → ∀ j, j < 300 → 1 ≤ 300 * c + j → mm (-nI (300 * c + j)) = nI (3600 - (300 * c + j)) := by decide +kernel
theorem way_e {a b : Nat} (ha : a < 3600) (hb : b < 3600) : ∃ f, f < 3600 ∧ fJ9_floorMod_7cf53 (nI b - nI a) 3600 = some (nI f) ∧ mm (nI b - nI a) = nI f := by
  rcases Nat.lt_or_ge b a with q | q
  · have e : 300 * ((a - b) / 300) + (a - b) % 300 = a - b := Nat.div_add_mod _ _
    have h1 := fm_negL ((a - b) / 300) (by omega) ((a - b) % 300) (Nat.mod_lt _ (by decide)) (by omega)
    have h2 := mm_negL ((a - b) / 300) (by omega) ((a - b) % 300) (Nat.mod_lt _ (by decide)) (by omega)
    rw [e] at h1 h2
    rw [sub_neg (Nat.le_of_lt q)]
    exact ⟨3600 - (a - b), by omega, h1, h2⟩
  · rw [pk_sub q]
    exact ⟨(b - a) % 3600, Nat.mod_lt _ (by decide), fm_pos _ (by omega), mm_pos _ (by omega)⟩
theorem middle_e {T L P A t : Nat} {rl rt rp ra rf : Int32} {rc gr : Nat → Int64} {rP rF now : Nat → Int32} (h : IR1 T L P A rl rt rp ra rf rc rP rF now gr) (hF : IF1 T L rF) (ht : t < T) : ∃ d, d < 3600 ∧ fX5_middleOfArc rF (nI t) = some (nI d) ∧ fX12_middleOf now (nI t) = some (nI d) := by
  obtain ⟨⟨hT, hL, hP, hA⟩, -, -, hp, hF2, hc⟩ := h
  obtain ⟨-, ⟨a, ha, ea⟩, ⟨b, hb, eb⟩, -⟩ := hF t ht
  obtain ⟨f, hf, e1, e2⟩ := way_e ha hb
  refine ⟨(a + f / 2) % 3600, Nat.mod_lt _ (by decide), ?_, ?_⟩
  · unfold fX5_middleOfArc
    rw [bind_e (told_x (w := 1) (c := 1) rfl (by omega) (by decide) rF), bind_e (told_x (w := 2) (c := 2) rfl (by omega) (by decide) rF), ea, eb, bind_e e1, gdz_e (by decide), gdz_e (by decide), show nI f / (2 : Int32) = nI (f / 2) from pk_div (d := 2) (by omega) (by decide) (by decide), nI_add, show nI (a + f / 2) - nI (a + f / 2) / (3600 : Int32) * (3600 : Int32) = nI ((a + f / 2) % 3600) from pk_rem (d := 3600) (by omega) (by decide) (by decide)]
  · unfold fX12_middleOf
    rw [bind_e (ofM_x (w := 1) (c := 1) rfl (by omega) (by decide) now), bind_e (ofM_x (w := 2) (c := 2) rfl (by omega) (by decide) now), bind_e (ofM_x (w := 1) (c := 1) rfl (by omega) (by decide) now), ← hF2 t ht 1 (by decide), ← hF2 t ht 2 (by decide), ea, eb, gdz_e (by decide), gdz_e (by decide), gdz_e (by decide)]
    show some ((nI a + mm (nI b - nI a) / 2) - (nI a + mm (nI b - nI a) / 2) / 3600 * 3600) = _
    rw [e2, show nI f / (2 : Int32) = nI (f / 2) from pk_div (d := 2) (by omega) (by decide) (by decide), nI_add, show nI (a + f / 2) - nI (a + f / 2) / (3600 : Int32) * (3600 : Int32) = nI ((a + f / 2) % 3600) from pk_rem (d := 3600) (by omega) (by decide) (by decide)]
theorem nd_comm (A : Nat) (rF : Nat → Int32) (rc : Nat → Int64) (a b : Nat) : nd A rF rc a b = nd A rF rc b a := by
  unfold nd
  rw [sh_e rc, Nat.max_comm (qt (rF (14 * a + 4)).toNatClampNeg _ _)]
/-- the PLACES that one is kept from by another, the first k of them -/
def bm (c : Nat → Bool) : Nat → Int32
  | 0 => 0
  | k + 1 => if c k = true then bm c k ||| ((1 : Int32) <<< (nI k &&& 31)) else bm c k
/-- PLACE k lies in t's ARC and too near to the middle m of o's, by their NEED -/
def isB (rF rP : Nat → Int32) (t m : Nat) (n : Int32) (k : Nat) : Bool := decide (¬ ina (rF (14 * t + 1)) (rF (14 * t + 2)) (rP k) = 0) && (decide (n = -1) || decide (nI (gp (rP k).toNatClampNeg m) < n))
theorem nd_val {A : Nat} {rF : Nat → Int32} {rc : Nat → Int64} {a b : Nat} (hA : A ≤ 300) : nd A rF rc a b = -1 ∨ ∃ d, d ≤ 1800 ∧ nd A rF rc a b = nI d := by
  unfold nd
  split
  · exact Or.inr ⟨0, by omega, rfl⟩
  · split
    · exact Or.inl rfl
    · exact Or.inr ⟨_, by omega, rfl⟩
theorem barredLoopC {N T L P A t m : Nat} {n ra' rf' rl rt rp ra rf : Int32} {rc gr : Nat → Int64} {rP rF now : Nat → Int32} (hN : 16 < N) (h : IR1 T L P A rl rt rp ra rf rc rP rF now gr) (ht : t < T) (hm : m < 3600) : itr (fun z => fX3_barredBy_l63b N (nI P) ra' rf' rF rc rP (nI t) n (nI m) z.1 z.2) N ((0 : Int32), (0 : Int32)) = some (bm (isB rF rP t m n) P) := by
  have hT : T ≤ 16 := h.1.1
  have hP : P ≤ 6 := h.1.2.2.1
  have hp := h.2.2.2.1
  rw [show (((0 : Int32), (0 : Int32)) : Int32 × Int32) = (fun k => (bm (isB rF rP t m n) k, nI k)) 0 from rfl]
  refine itr_0 (fun k => (bm (isB rF rP t m n) k, nI k)) P (by omega) ?_ (fun k hk => ?_)
  · show fX3_barredBy_l63b N (nI P) ra' rf' rF rc rP (nI t) n (nI m) (bm (isB rF rP t m n) P) (nI P) = _
    unfold fX3_barredBy_l63b
    rw [if_pos (nI_le (Nat.le_refl P) (by omega))]
  · show fX3_barredBy_l63b N (nI P) ra' rf' rF rc rP (nI t) n (nI m) (bm (isB rF rP t m n) k) (nI k) = some (.inl (if isB rF rP t m n k = true then bm (isB rF rP t m n) k ||| ((1 : Int32) <<< (nI k &&& 31)) else bm (isB rF rP t m n) k, nI (k + 1)))
    obtain ⟨-, d, hd, ed⟩ := hp k hk
    unfold fX3_barredBy_l63b
    rw [if_neg (nI_ge hk (by omega)), gdi_nI (by omega) (by decide), nI_clamp (by omega), bnd_e, bind_e (isInArcC_e (by omega) rF (rP k))]
    generalize bm (isB rF rP t m n) k = w
    by_cases c1 : ina (rF (14 * t + 1)) (rF (14 * t + 2)) (rP k) = 0
    · rw [if_pos c1, bnd_e, nI_1, if_neg (by unfold isB; simp [c1])]
    · rw [if_neg c1]
      unfold fX3_barredBy_j118
      by_cases c2 : n = -1
      · rw [if_pos c2, bnd_e, bnd_e, nI_1, if_pos (by unfold isB; simp [c1, c2])]
      · have g1 : fX11_gapBetween N (rP k) (nI m) = some (nI (gp (rP k).toNatClampNeg m)) := by
          rw [ed, nI_clamp (by omega)]
          exact gapC hd hm
        rw [if_neg c2, bind_e g1]
        by_cases c3 : n ≤ nI (gp (rP k).toNatClampNeg m)
        · rw [if_pos c3, bnd_e, nI_1, if_neg]
          unfold isB
          simp [c2]
          intro _
          exact c3
        · rw [if_neg c3, bnd_e, bnd_e, nI_1, if_pos]
          unfold isB
          simp [c1]
          exact Or.inr (fa_of_nle c3)
theorem barredLoopM {N T L P A t u m : Nat} {x2 x3 n b v4 v5 rl rt rp ra rf : Int32} {rc gr : Nat → Int64} {rP rF now : Nat → Int32} (hN : 16 < N) (h : IR1 T L P A rl rt rp ra rf rc rP rF now gr) (ht : t < T) (hu : u < T) (hm : m < 3600) (em : fX12_middleOf now (nI u) = some (nI m)) : itr (fun z => fX12_barred_l120b N 0 b now gr (nI t) x2 x3 (nI u) n z.1 z.2.1 z.2.2) N (v4, v5, (0 : Int32)) = some (v4 ||| bm (isB rF rP t m n) P, v5 ||| (if rF (14 * u + 12) = -1 then 0 else bm (isB rF rP t m n) P)) := by
  have hT : T ≤ 16 := h.1.1
  have hP : P ≤ 6 := h.1.2.2.1
  have hp := h.2.2.2.1
  have hF2 := h.2.2.2.2.1
  have n2 : now 2 = nI P := h.2.2.1.2.2.1
  have z0 : ∀ v : Int32, v ||| 0 = v := fun v => Int32.or_zero
  have e0 : ((v4, v5, (0 : Int32)) : Int32 × Int32 × Int32) = (fun k => (v4 ||| bm (isB rF rP t m n) k, v5 ||| (if rF (14 * u + 12) = -1 then 0 else bm (isB rF rP t m n) k), nI k)) 0 := by
    show _ = (v4 ||| 0, v5 ||| (if rF (14 * u + 12) = -1 then 0 else 0), nI 0)
    rw [z0, ite_self, z0]
    rfl
  rw [e0]
  refine itr_0 (fun k => (v4 ||| bm (isB rF rP t m n) k, v5 ||| (if rF (14 * u + 12) = -1 then 0 else bm (isB rF rP t m n) k), nI k)) P (by omega) ?_ (fun k hk => ?_)
  · show fX12_barred_l120b N 0 b now gr (nI t) x2 x3 (nI u) n (v4 ||| bm (isB rF rP t m n) P) (v5 ||| (if rF (14 * u + 12) = -1 then 0 else bm (isB rF rP t m n) P)) (nI P) = _
    unfold fX12_barred_l120b
    rw [gdi_e (i := 2) (n := 380) 2 rfl (by decide) (by decide), show now ((2 : Int32).toNatClampNeg) = nI P from n2, if_pos (nI_le (Nat.le_refl P) (by omega))]
  · show fX12_barred_l120b N 0 b now gr (nI t) x2 x3 (nI u) n (v4 ||| bm (isB rF rP t m n) k) (v5 ||| (if rF (14 * u + 12) = -1 then 0 else bm (isB rF rP t m n) k)) (nI k) = some (.inl (v4 ||| (if isB rF rP t m n k = true then bm (isB rF rP t m n) k ||| ((1 : Int32) <<< (nI k &&& 31)) else bm (isB rF rP t m n) k), v5 ||| (if rF (14 * u + 12) = -1 then 0 else (if isB rF rP t m n k = true then bm (isB rF rP t m n) k ||| ((1 : Int32) <<< (nI k &&& 31)) else bm (isB rF rP t m n) k)), nI (k + 1)))
    obtain ⟨ep, d, hd, ed⟩ := hp k hk
    unfold fX12_barred_l120b
    rw [gdi_e (i := 2) (n := 380) 2 rfl (by decide) (by decide), show now ((2 : Int32).toNatClampNeg) = nI P from n2, if_neg (nI_ge hk (by omega)), i5, gdi_nI (by omega) (by decide), nI_clamp (by omega), ← ep, bind_e (isInArcM_e (by omega) now (rP k)), ← hF2 t ht 1 (by decide), ← hF2 t ht 2 (by decide)]
    generalize bm (isB rF rP t m n) k = w
    have yes : isB rF rP t m n k = true → fX12_barred_j180 N 0 b now gr (nI t) x2 x3 (v4 ||| w) (v5 ||| (if rF (14 * u + 12) = -1 then 0 else w)) (nI u) n (nI k) = some (.inl (v4 ||| (if isB rF rP t m n k = true then w ||| ((1 : Int32) <<< (nI k &&& 31)) else w), v5 ||| (if rF (14 * u + 12) = -1 then 0 else (if isB rF rP t m n k = true then w ||| ((1 : Int32) <<< (nI k &&& 31)) else w)), nI (k + 1))) := by
      intro c
      unfold fX12_barred_j180
      rw [if_pos c, bnd_e, bind_e (ofM_x (w := 12) (c := 12) rfl (by omega) (by decide) now), ← hF2 u hu 12 (by decide)]
      by_cases c5 : rF (14 * u + 12) = -1
      · rw [if_pos c5, if_pos c5, if_pos c5, bnd_e, nI_1, Int32.or_assoc]
      · rw [if_neg c5, if_neg c5, if_neg c5, bnd_e, bnd_e, nI_1, Int32.or_assoc, Int32.or_assoc]
    by_cases c1 : ina (rF (14 * t + 1)) (rF (14 * t + 2)) (rP k) = 0
    · have hn : ¬ isB rF rP t m n k = true := by unfold isB; simp [c1]
      rw [if_pos c1, bnd_e, nI_1, if_neg hn]
    · rw [if_neg c1]
      by_cases c2 : n = -1
      · rw [if_pos c2]
        exact yes (by unfold isB; simp [c1, c2])
      · have g1 : fX12_apart N (rP k) (nI m) = some (nI (gp (rP k).toNatClampNeg m)) := by
          rw [ed, nI_clamp (by omega)]
          exact gapM hd hm
        rw [if_neg c2, gdi_nI (by omega) (by decide), bind_e em, bind_e g1]
        by_cases c3 : nI (gp (rP k).toNatClampNeg m) < n
        · rw [if_pos c3]
          exact yes (by unfold isB; simp [c1, c3])
        · have hn : ¬ isB rF rP t m n k = true := by unfold isB; simp [c2, c3]
          rw [if_neg c3, bnd_e, nI_1, if_neg hn]

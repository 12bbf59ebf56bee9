/-! DRIFT, MEETS -/
theorem fm_pos : ∀ k, k < 4000 → fJ9_floorMod_7cf53 (nI k) 3600 = some (nI (k % 3600)) := by
  intro k hk
  unfold fJ9_floorMod_7cf53
  have h1 : (k ^^^ 3600) < 2 ^ 31 := Nat.xor_lt_two_pow (by omega) (by decide)
  rw [gdz_e (by decide), bnd_e, show nI k - nI k / (3600 : Int32) * (3600 : Int32) = nI (k % 3600) from pk_rem (d := 3600) (by omega) (by decide) (by decide), if_pos]
  rw [show nI k ^^^ (3600 : Int32) = nI (k ^^^ 3600) from fb_xorI k 3600]
  exact nI_pos' h1
theorem fm_neg : ∀ j, j < 301 → 1 ≤ j → fJ9_floorMod_7cf53 (-nI j) 3600 = some (nI (3600 - j)) := by decide +kernel
def mm (z : Int32) : Int32 := (z + 3600) - (z + 3600) / 3600 * 3600
theorem mm_pos : ∀ k, k < 4000 → mm (nI k) = nI (k % 3600) := by
  intro k hk
  unfold mm
  rw [show nI k + (3600 : Int32) = nI (k + 3600) from nI_add k 3600, show nI (k + 3600) - nI (k + 3600) / (3600 : Int32) * (3600 : Int32) = nI ((k + 3600) % 3600) from pk_rem (d := 3600) (by omega) (by decide) (by decide), Nat.add_mod_right]
theorem mm_neg : ∀ j, j < 301 → 1 ≤ j → mm (-nI j) = nI (3600 - j) := by decide +kernel
/-- a degree and a swing of at most 300 -/
def nz (z : Int32) : Prop := (∃ k, k < 4000 ∧ z = nI k) ∨ ∃ j, j < 301 ∧ 1 ≤ j ∧ z = -nI j
theorem wrap_e {z : Int32} (h : nz z) : ∃ d, d < 3600 ∧ fJ9_floorMod_7cf53 z 3600 = some (nI d) ∧ mm z = nI d := by
  rcases h with ⟨k, hk, rfl⟩ | ⟨j, hj, h1, rfl⟩
  · exact ⟨k % 3600, Nat.mod_lt _ (by decide), fm_pos k hk, mm_pos k hk⟩
  · exact ⟨3600 - j, by omega, fm_neg j hj h1, mm_neg j hj h1⟩
theorem sub_neg {a b : Nat} (h : a ≤ b) : nI a - nI b = -nI (b - a) := by
  have e : nI b = nI a + nI (b - a) := by
    rw [nI_add]
    congr 1
    omega
  rw [e, Int32.sub_eq_add_neg, Int32.neg_add, Int32.sub_eq_add_neg, ← Int32.add_assoc, Int32.add_right_neg, Int32.zero_add]
theorem nz_of {x a b : Nat} (hx : x < 3600) (h1 : a ≤ b + 300) (h2 : b ≤ a + 300) : nz (nI x + (nI a - nI b)) := by
  rcases Nat.lt_or_ge a b with q | q
  · rw [sub_neg (Nat.le_of_lt q)]
    rcases Nat.lt_or_ge x (b - a) with w | w
    · right
      refine ⟨b - a - x, by omega, by omega, ?_⟩
      rw [← Int32.sub_eq_add_neg, sub_neg (by omega)]
    · left
      refine ⟨x - (b - a), by omega, ?_⟩
      rw [← Int32.sub_eq_add_neg, pk_sub w]
  · left
    rw [pk_sub q, nI_add]
    exact ⟨x + (a - b), by omega, rfl⟩
theorem drift_e {N T L P A t x day : Nat} {rl rt rp ra rf : Int32} {rc gr : Nat → Int64} {rP rF now : Nat → Int32} (h : IR1 T L P A rl rt rp ra rf rc rP rF now gr) (hF : IF1 T L rF) (ht : t < T) (hd : ¬ rF (14 * t + 8) = -1) (hx : x < 3600) (hday : day < 1000) : ∃ d, d < 3600 ∧ fX5_driftOf N rF (nI t) (nI x) (nI day) = some (nI d) ∧ fX12_driftOf N now (nI t) (nI x) (nI day) = some (nI d) := by
  obtain ⟨⟨hT, hL, hP, hA⟩, -, -, hp, hF2, hc⟩ := h
  obtain ⟨-, -, -, -, -, -, -, -, h8, -, -⟩ := hF t ht
  rcases h8 with ⟨e, -⟩ | ⟨am, pe, ham, hp1, hp2, ea, ep⟩
  · exact absurd e hd
  · have hm : day % pe < pe := Nat.mod_lt _ (by omega)
    have hmul : 4 * am * (day % pe) ≤ 1200 * 999 := Nat.mul_le_mul (by omega) (by omega)
    have hs : 4 * am * (day % pe) / pe ≤ 4 * am := by
      have h1 : 4 * am * (day % pe) ≤ 4 * am * pe := Nat.mul_le_mul (Nat.le_refl _) (by omega)
      exact Nat.le_trans (Nat.div_le_div_right h1) (by rw [Nat.mul_div_cancel _ (by omega)]; exact Nat.le_refl _)
    have e2 : (if (1 : Int32) < nI pe then nI pe else (1 : Int32)) = nI pe := by
      rw [if_pos (show (1 : Int32) < nI pe from nI_lt (a := 1) (by omega) (by omega))]
    have er : nI day - nI day / nI pe * nI pe = nI (day % pe) := pk_rem (by omega) (by omega) (by omega)
    have es : ((4 : Int32) * nI am * (nI day - nI day / nI pe * nI pe)) / nI pe = nI (4 * am * (day % pe) / pe) := by
      rw [er, show (4 : Int32) * nI am = nI (4 * am) from pk_mul 4 am, pk_mul, pk_div (by omega) (by omega) (by omega)]
    unfold fX5_driftOf fX12_driftOf
    rw [bind_e (told_x (w := 8) (c := 8) rfl (by omega) (by decide) rF), bind_e (told_x (w := 9) (c := 9) rfl (by omega) (by decide) rF), ea, ep, bnd_e, e2, gdz_e (nI_ne0 (by omega) (by omega)), gdz_e (nI_ne0 (by omega) (by omega)), bnd_e, es, bind_e (ofM_x (w := 8) (c := 8) rfl (by omega) (by decide) now), bind_e (ofM_x (w := 9) (c := 9) rfl (by omega) (by decide) now), ← hF2 t ht 8 (by decide), ← hF2 t ht 9 (by decide), ea, ep, gdz_e (nI_ne0 (by omega) (by omega)), bind_e (ofM_x (w := 9) (c := 9) rfl (by omega) (by decide) now), ← hF2 t ht 9 (by decide), ep, gdz_e (nI_ne0 (by omega) (by omega)), es]
    generalize 4 * am * (day % pe) / pe = s at hs ⊢
    rw [bnd_e (nI s)]
    have fin : ∀ w : Int32, nz (nI x + w) → ∃ d, d < 3600 ∧ fX5_driftOf_j80 N rF (nI x) w = some (nI d) ∧ fX12_driftOf_j71 N now (nI x) w = some (nI d) := by
      intro w hw
      obtain ⟨d, hd, e3, e4⟩ := wrap_e hw
      refine ⟨d, hd, ?_, ?_⟩
      · unfold fX5_driftOf_j80
        rw [bind_e e3]
      · unfold fX12_driftOf_j71
        rw [gdz_e (by decide)]
        show some (mm (nI x + w)) = _
        rw [e4]
    by_cases c1 : am < s
    · rw [if_pos (nI_lt c1 (by omega)), if_pos (nI_lt c1 (by omega)), show (3 : Int32) * nI am = nI (3 * am) from pk_mul 3 am, show (4 : Int32) * nI am = nI (4 * am) from pk_mul 4 am, show (2 : Int32) * nI am = nI (2 * am) from pk_mul 2 am]
      by_cases c2 : 3 * am < s
      · rw [if_pos (nI_lt c2 (by omega)), if_pos (nI_lt c2 (by omega)), bnd_e]
        exact fin _ (nz_of hx (by omega) (by omega))
      · rw [if_neg (nI_nlt (by omega) (by omega)), if_neg (nI_nlt (by omega) (by omega)), bnd_e]
        exact fin _ (nz_of hx (by omega) (by omega))
    · rw [if_neg (nI_nlt (by omega) (by omega)), if_neg (nI_nlt (by omega) (by omega))]
      refine fin _ (Or.inl ⟨x + s, by omega, ?_⟩)
      rw [nI_add]
/-- one that stands, is not DEAD, and is met at the degree g with the VOICE v -/
def isM (A : Nat) (dg vo rF : Nat → Int32) (rc : Nat → Int64) (t g : Nat) (v : Int32) (k : Nat) : Bool := decide (¬ (dg k = -1 ∨ ¬ rF (14 * k + 8) = -1)) && (decide (vo k = v) && (decide (¬ lg_cmp (rc t &&& rc k) 0 = 0) && decide (gp g (dg k).toNatClampNeg < A)))
theorem metC_e {N T A t g : Nat} {v : Int32} {dg vo lo sh rF : Nat → Int32} {rc : Nat → Int64} (hN : 16 < N) (hT : T ≤ 16) (hA : A ≤ 300) (hW : WS T dg lo sh) (ht : t < T) (hg : g < 3600) : fX8_isMetAt N (nI T) (nI A) dg rF vo rc (nI t) (nI g) v = some (if fa_first (isM A dg vo rF rc t g v) T < T then 1 else 0) := by
  have e := itr_firstR (body := fun z => fX8_isMetAt_l3b N (nI T) (nI A) dg rF vo rc (nI t) (nI g) v z) (N := N) (T := T) (isM A dg vo rF rc t g v) (fun _ => (1 : Int32)) (by omega) (by
    show fX8_isMetAt_l3b N (nI T) (nI A) dg rF vo rc (nI t) (nI g) v (nI T) = _
    unfold fX8_isMetAt_l3b
    rw [if_pos (nI_le (Nat.le_refl T) (by omega))]) (by
    intro k hk
    show fX8_isMetAt_l3b N (nI T) (nI A) dg rF vo rc (nI t) (nI g) v (nI k) = _
    unfold fX8_isMetAt_l3b isM
    rw [if_neg (nI_ge hk (by omega)), bind_e (isLiving_e (by omega) dg rF)]
    by_cases c : dg k = -1 ∨ ¬ rF (14 * k + 8) = -1
    · rw [if_pos c, if_pos rfl, bnd_e, nI_1]
      simp [c]
    · rw [if_neg c, if_neg (show ¬ (1 : Int32) = 0 by decide), gdi_nI (by omega) (by decide), nI_clamp (by omega)]
      by_cases c2 : vo k = v
      · have e0 : fX5_shareCell rc (nI t) (nI k) = some (if lg_cmp (rc t &&& rc k) 0 = 0 then 0 else 1) := by
          unfold fX5_shareCell
          rw [gdi_nI (by omega) (by decide), gdi_nI (by omega) (by decide), nI_clamp (by omega), nI_clamp (show k < 2 ^ 31 by omega)]
          by_cases q : lg_cmp (rc t &&& rc k) 0 = 0
          · rw [if_pos q, if_pos q]
          · rw [if_neg q, if_neg q]
        rw [if_pos c2, bind_e e0]
        by_cases c3 : lg_cmp (rc t &&& rc k) 0 = 0
        · rw [if_pos c3, if_pos rfl, bnd_e, nI_1]
          simp [c3]
        · have uk : ¬ dg k = -1 := fun q => c (Or.inl q)
          obtain ⟨ek, gk⟩ := WS_dg hW (show k < 16 by omega) uk
          have g1 : fX11_gapBetween N (nI g) (dg k) = some (nI (gp g (dg k).toNatClampNeg)) := by
            conv => lhs; rw [ek]
            exact gapC hg gk
          have g2 := gp_le hg gk
          rw [if_neg c3, if_neg (show ¬ (1 : Int32) = 0 by decide), gdi_nI (by omega) (by decide), bind_e g1]
          by_cases c4 : gp g (dg k).toNatClampNeg < A
          · rw [if_neg (nI_ge c4 (by omega))]
            simp [c, c2, c3, c4]
          · rw [if_pos (nI_le (by omega) (by omega)), bnd_e, nI_1]
            simp [c4]
      · rw [if_neg c2, bnd_e, nI_1]
        simp [c2])
  unfold fX8_isMetAt
  rw [bind_e e]
  by_cases c : fa_first (isM A dg vo rF rc t g v) T < T
  · rw [if_pos c, if_pos c]
    rfl
  · rw [if_neg c, if_neg c]
    rfl
theorem metM_e {N T L P A t g : Nat} {x2 v d th b rl rt rp ra rf : Int32} {dg vo lo sh rF rP now : Nat → Int32} {rc gr : Nat → Int64} (hN : 16 < N) (h : IR1 T L P A rl rt rp ra rf rc rP rF now gr) (hs : IS1 T dg vo now) (hW : WS T dg lo sh) (ht : t < T) (hd : ¬ rF (14 * t + 8) = -1) (hg : g < 3600) : itr (fun z => fX12_meets_l81b N th b now gr (nI t) x2 v d (nI g) z) N (0 : Int32) = some (if fa_first (isM A dg vo rF rc t g v) T < T then .inr (th, b, now, d) else .inl ()) := by
  have hT : T ≤ 16 := h.1.1
  have hA : A ≤ 300 := h.1.2.2.2
  have n1 : now 1 = nI T := h.2.2.1.2.1
  have n3 : now 3 = nI A := h.2.2.1.2.2.2.1
  have hF := h.2.2.2.2.1
  have hc := h.2.2.2.2.2
  refine itr_firstR (body := fun z => fX12_meets_l81b N th b now gr (nI t) x2 v d (nI g) z) (isM A dg vo rF rc t g v) (fun _ => (th, b, now, d)) (by omega) ?_ (fun k hk => ?_)
  · show fX12_meets_l81b N th b now gr (nI t) x2 v d (nI g) (nI T) = _
    unfold fX12_meets_l81b
    rw [bind_e (things_e n1), if_pos (nI_le (Nat.le_refl T) (by omega))]
  · show fX12_meets_l81b N th b now gr (nI t) x2 v d (nI g) (nI k) = _
    unfold fX12_meets_l81b isM
    rw [bind_e (things_e n1), if_neg (nI_ge hk (by omega))]
    by_cases hkt : k = t
    · rw [if_pos (by rw [hkt]), bnd_e, nI_1, hkt]
      simp [hd]
    · rw [if_neg (fun q => hkt ((nI_eq (by omega) (by omega)).mp q)), bind_e (isUpM_e (by omega) now), ← (hs k (by omega)).1]
      by_cases uk : dg k = -1
      · rw [if_pos uk, if_pos rfl, bnd_e, nI_1]
        simp [uk]
      · obtain ⟨-, ⟨ek, gk⟩, nk, vk, -⟩ := up_e (A := 0) (lo := dg) (sh := dg) (he := dg) (tn := dg) (rF := dg) (rc := rc) hs (show k < 16 by omega) uk
        rw [if_neg uk, if_neg (show ¬ (1 : Int32) = 0 by decide), bind_e (isDeadM_e (by omega) now), ← hF k hk 8 (by decide)]
        by_cases c1 : rF (14 * k + 8) = -1
        · rw [if_pos c1, if_pos rfl, bind_e (voice_e (by omega) now), vk]
          by_cases c2 : vo k = v
          · rw [if_pos c2, gdi_nI (by omega) (by decide), gdi_nI (by omega) (by decide), nI_clamp (by omega), nI_clamp (show t < 2 ^ 31 by omega), ← hc k hk, ← hc t ht, sh_e rc]
            by_cases c3 : lg_cmp (rc t &&& rc k) 0 = 0
            · rw [if_pos c3, bnd_e, nI_1]
              simp [c3]
            · have g1 : fX12_apart N (nI g) (dg k) = some (nI (gp g (dg k).toNatClampNeg)) := by
                conv => lhs; rw [ek]
                exact gapM hg gk
              have g2 := gp_le hg gk
              rw [if_neg c3, bind_e (at_e (by omega) now), nk, bind_e g1, gdi_e (i := 3) (n := 380) 3 rfl (by decide) (by decide), show now ((3 : Int32).toNatClampNeg) = nI A from n3]
              by_cases c4 : gp g (dg k).toNatClampNeg < A
              · rw [if_neg (nI_ge c4 (by omega))]
                simp [uk, c1, c2, c3, c4]
              · rw [if_pos (nI_le (by omega) (by omega)), bnd_e, nI_1]
                simp [c4]
          · rw [if_neg c2, bnd_e, nI_1]
            simp [c2]
        · rw [if_neg c1, if_neg (show ¬ (1 : Int32) = 0 by decide), bnd_e, nI_1]
          simp [c1]

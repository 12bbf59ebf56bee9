/-! IMAGE, RESTORE -/
theorem updL_us {f : Nat → Int64} {k : Nat} {x : Int64} : vp_updL f k x k = x := if_pos rfl
theorem updL_un {f : Nat → Int64} {k j : Nat} {x : Int64} (h : j ≠ k) : vp_updL f k x j = f j := if_neg h
theorem cp_g (f g : Nat → Int64) {n : Nat} : ∀ k, k < n → va_cpy f g 0 0 n k = f k := by
  intro k hk
  rw [pk_cpy_in (Nat.zero_le k) (by omega)]
  exact congrArg f (by omega)
theorem cp_f (f g : Nat → Int32) {n : Nat} : ∀ k, k < n → va_cpy f g 0 0 n k = f k := by
  intro k hk
  rw [pk_cpy_in (Nat.zero_le k) (by omega)]
  exact congrArg f (by omega)
theorem ringCopy_e {a b c d e rl rt rp ra rf : Int32} {rc g : Nat → Int64} {rP q rF f : Nat → Int32} (hf : rf = 0 ∨ rf = 1) : ∃ g2 q2 f2, fX5_copyFrom a b c d e rl rt rp ra rf rc g rP q rF f = some (rl, rt, rp, ra, rf, g2, q2, f2) ∧ (∀ k, k < 16 → g2 k = rc k) ∧ (∀ k, k < 6 → q2 k = rP k) ∧ ∀ k, k < 224 → f2 k = rF k := by
  refine ⟨va_cpy rc g 0 0 16, va_cpy rP q 0 0 6, va_cpy rF f 0 0 224, ?_, cp_g rc g, cp_f rP q, cp_f rF f⟩
  unfold fX5_copyFrom
  rw [gdc_16, bnd_e, show (∀ x : Option (Int32 × Int32 × Int32 × Int32 × Int32 × (Nat → Int64) × (Nat → Int32) × (Nat → Int32)), gdc (0 : Int32) (0 : Int32) (6 : Int32) 6 6 x = x) from fun x => if_pos (by decide), bnd_e, show (∀ x : Option (Int32 × Int32 × Int32 × Int32 × Int32 × (Nat → Int64) × (Nat → Int32) × (Nat → Int32)), gdc (0 : Int32) (0 : Int32) (224 : Int32) 224 224 x = x) from fun x => if_pos (by decide), bnd_e, gdb_e hf]
  rfl
theorem IR1_cong {T L P A : Nat} {rl rt rp ra rf : Int32} {rc gr g gr2 : Nat → Int64} {rP rF now q f now2 : Nat → Int32} (h : IR1 T L P A rl rt rp ra rf rc rP rF now gr) (hg : ∀ k, k < 16 → g k = rc k) (hq : ∀ k, k < 6 → q k = rP k) (hf : ∀ k, k < 224 → f k = rF k) (hn : ∀ j, j < 340 → now2 j = now j) (hG : ∀ j, j < 16 → gr2 j = gr j) : IR1 T L P A rl rt rp ra rf g q f now2 gr2 := by
  obtain ⟨h1, h2, h3, h4, h5, h6⟩ := h
  refine ⟨h1, h2, ?_, fun k hk => ?_, fun t ht w hw => ?_, fun t ht => ?_⟩
  · rw [hn 0 (by decide), hn 1 (by decide), hn 2 (by decide), hn 3 (by decide), hn 4 (by decide)]
    exact h3
  · rw [hq k (by omega), hn (5 + k) (by omega)]
    exact h4 k hk
  · rw [hf (14 * t + w) (by omega), hn (20 + 20 * t + w) (by omega)]
    exact h5 t ht w hw
  · rw [hg t (by omega), hG t (by omega)]
    exact h6 t ht
theorem IF1_cong {T L : Nat} {rF f : Nat → Int32} (hT : T ≤ 16) (h : IF1 T L rF) (hf : ∀ k, k < 224 → f k = rF k) : IF1 T L f := by
  intro t ht
  have := h t ht
  rw [hf (14 * t + 0) (by omega), hf (14 * t + 1) (by omega), hf (14 * t + 2) (by omega), hf (14 * t + 3) (by omega), hf (14 * t + 4) (by omega), hf (14 * t + 5) (by omega), hf (14 * t + 6) (by omega), hf (14 * t + 7) (by omega), hf (14 * t + 8) (by omega), hf (14 * t + 9) (by omega), hf (14 * t + 10) (by omega), hf (14 * t + 11) (by omega), hf (14 * t + 12) (by omega), hf (14 * t + 13) (by omega)]
  exact this
theorem IST_ring {T A : Nat} {dg vo lo sh he tn rF f now : Nat → Int32} {rc g : Nat → Int64} (hT : T ≤ 16) (h : IST T A dg vo lo sh he tn rc rF now) (hg : ∀ k, k < 16 → g k = rc k) (hz : ∀ k, k < 224 → f k = rF k) : IST T A dg vo lo sh he tn g f now := by
  obtain ⟨h1, h2, h3, h4⟩ := h
  refine ⟨h1, fun t ht => ?_, fun t ht => ?_, fun t ht => ?_⟩
  · rw [hz (14 * t + 4) (by omega), hz (14 * t + 5) (by omega)]
    exact h2 t ht
  · rw [h3 t ht, smH_sg, smH_sg]
    refine sg_cong (fun k hk => ?_)
    unfold hf tch
    rw [hg t (by omega), hg k (by omega)]
  · rw [h4 t ht, smN_sg, smN_sg]
    refine sg_cong (fun k hk => ?_)
    unfold nf tch
    rw [hg t (by omega), hg k (by omega)]
/-- an IMAGE is kept in both, and it is the same; or in neither -/
def IK (i : Nat) (kc km : Int32) (rl rt rp ra rf : Int32) (rc : Nat → Int64) (rP rF dg vo lo sh he tn kept : Nat → Int32) (kg : Nat → Int64) : Prop := (kc = 0 ∧ km = 0) ∨ (kc = 1 ∧ km = 1 ∧ ∃ T L P A, IR1 T L P A rl rt rp ra rf rc rP rF (fun j => kept (380 * i + j)) (fun j => kg (16 * i + j)) ∧ IF1 T L rF ∧ IST T A dg vo lo sh he tn rc rF (fun j => kept (380 * i + j)))
theorem IK_cong {i : Nat} {kc km rl rt rp ra rf : Int32} {rc kg kg2 : Nat → Int64} {rP rF dg vo lo sh he tn kept kept2 : Nat → Int32} (h : IK i kc km rl rt rp ra rf rc rP rF dg vo lo sh he tn kept kg) (hk : ∀ j, j < 380 → kept2 (380 * i + j) = kept (380 * i + j)) (hg : ∀ j, j < 16 → kg2 (16 * i + j) = kg (16 * i + j)) : IK i kc km rl rt rp ra rf rc rP rF dg vo lo sh he tn kept2 kg2 := by
  rcases h with q | ⟨q1, q2, T, L, P, A, a, b, c⟩
  · exact Or.inl q
  · refine Or.inr ⟨q1, q2, T, L, P, A, IR1_cong a (fun _ _ => rfl) (fun _ _ => rfl) (fun _ _ => rfl) (fun j hj => hk j (by omega)) hg, b, IST_now (fun j _ hj => hk j (by omega)) c⟩
theorem i380 (i j : Nat) : (380 : Int32) * nI i + nI j = nI (380 * i + j) := by
  rw [show (380 : Int32) * nI i = nI (380 * i) from pk_mul 380 i, nI_add]
theorem i16 (i j : Nat) : (16 : Int32) * nI i + nI j = nI (16 * i + j) := by
  rw [show (16 : Int32) * nI i = nI (16 * i) from pk_mul 16 i, nI_add]
theorem imgN_e {N i : Nat} {th b : Int32} {now kept ik : Nat → Int32} {gr kg : Nat → Int64} (hN : 1000 < N) (hi : i < 2) : ∃ k2, itr (fun z => fX12_image_l22b N th b now gr kg ik (nI i) z.1 z.2) N (kept, (0 : Int32)) = some k2 ∧ (∀ j, j < 380 → k2 (380 * i + j) = now j) ∧ ∀ m, (m < 380 * i ∨ 380 * i + 380 ≤ m) → k2 m = kept m := by
  refine itr_inv (fun (n : Nat) (z : (Nat → Int32) × Int32) => z.2 = nI n ∧ (∀ j, j < n → z.1 (380 * i + j) = now j) ∧ ∀ m, (m < 380 * i ∨ 380 * i + 380 ≤ m) → z.1 m = kept m) (fun (k2 : Nat → Int32) => (∀ j, j < 380 → k2 (380 * i + j) = now j) ∧ ∀ m, (m < 380 * i ∨ 380 * i + 380 ≤ m) → k2 m = kept m) (b := 380) (by omega) ⟨rfl, fun j hj => absurd hj (Nat.not_lt_zero j), fun m _ => rfl⟩ ?_ ?_
  · rintro n ⟨f, v⟩ hn ⟨hv, h1, h2⟩
    have hv : v = nI n := hv
    subst hv
    have h1 : ∀ j, j < n → f (380 * i + j) = now j := h1
    have h2 : ∀ m, (m < 380 * i ∨ 380 * i + 380 ≤ m) → f m = kept m := h2
    refine ⟨(upd f (380 * i + n) (now n), nI (n + 1)), ?_, rfl, fun j hj => ?_, fun m hm => ?_⟩
    · show fX12_image_l22b N th b now gr kg ik (nI i) f (nI n) = _
      unfold fX12_image_l22b
      rw [if_neg (show ¬ (380 : Int32) ≤ nI n from nI_ge (b := 380) hn (by decide)), i380, gdi_nI (by omega) (by decide), gdi_nI (by omega) (by decide), bnd_e, bnd_e, nI_clamp (n := 380 * i + n) (by omega), nI_clamp (n := n) (by omega), nI_1]
    · show upd f (380 * i + n) (now n) (380 * i + j) = now j
      by_cases q : j = n
      · rw [q, pk_us]
      · rw [pk_un (by omega)]
        exact h1 j (by omega)
    · show upd f (380 * i + n) (now n) m = kept m
      rw [pk_un (by omega)]
      exact h2 m hm
  · rintro ⟨f, v⟩ ⟨hv, h1, h2⟩
    have hv : v = nI 380 := hv
    subst hv
    refine ⟨f, ?_, h1, h2⟩
    show fX12_image_l22b N th b now gr kg ik (nI i) f (nI 380) = _
    unfold fX12_image_l22b
    rw [if_pos (show (380 : Int32) ≤ nI 380 from nI_le (a := 380) (Nat.le_refl 380) (by decide))]
theorem imgG_e {N i : Nat} {th b : Int32} {now kept ik : Nat → Int32} {gr kg : Nat → Int64} (hN : 1000 < N) (hi : i < 2) : ∃ k2, itr (fun z => fX12_image_l55b N th b now kept gr ik (nI i) z.1 z.2) N (kg, (0 : Int32)) = some k2 ∧ (∀ j, j < 16 → k2 (16 * i + j) = gr j) ∧ ∀ m, (m < 16 * i ∨ 16 * i + 16 ≤ m) → k2 m = kg m := by
  refine itr_inv (fun (n : Nat) (z : (Nat → Int64) × Int32) => z.2 = nI n ∧ (∀ j, j < n → z.1 (16 * i + j) = gr j) ∧ ∀ m, (m < 16 * i ∨ 16 * i + 16 ≤ m) → z.1 m = kg m) (fun (k2 : Nat → Int64) => (∀ j, j < 16 → k2 (16 * i + j) = gr j) ∧ ∀ m, (m < 16 * i ∨ 16 * i + 16 ≤ m) → k2 m = kg m) (b := 16) (by omega) ⟨rfl, fun j hj => absurd hj (Nat.not_lt_zero j), fun m _ => rfl⟩ ?_ ?_
  · rintro n ⟨f, v⟩ hn ⟨hv, h1, h2⟩
    have hv : v = nI n := hv
    subst hv
    have h1 : ∀ j, j < n → f (16 * i + j) = gr j := h1
    have h2 : ∀ m, (m < 16 * i ∨ 16 * i + 16 ≤ m) → f m = kg m := h2
    refine ⟨(vp_updL f (16 * i + n) (gr n), nI (n + 1)), ?_, rfl, fun j hj => ?_, fun m hm => ?_⟩
    · show fX12_image_l55b N th b now kept gr ik (nI i) f (nI n) = _
      unfold fX12_image_l55b
      rw [if_neg (show ¬ (16 : Int32) ≤ nI n from nI_ge (b := 16) hn (by decide)), i16, gdi_nI (by omega) (by decide), gdi_nI (by omega) (by decide), bnd_e, bnd_e, nI_clamp (n := 16 * i + n) (by omega), nI_clamp (n := n) (by omega), nI_1]
    · show vp_updL f (16 * i + n) (gr n) (16 * i + j) = gr j
      by_cases q : j = n
      · rw [q, updL_us]
      · rw [updL_un (by omega)]
        exact h1 j (by omega)
    · show vp_updL f (16 * i + n) (gr n) m = kg m
      rw [updL_un (by omega)]
      exact h2 m hm
  · rintro ⟨f, v⟩ ⟨hv, h1, h2⟩
    have hv : v = nI 16 := hv
    subst hv
    refine ⟨f, ?_, h1, h2⟩
    show fX12_image_l55b N th b now kept gr ik (nI i) f (nI 16) = _
    unfold fX12_image_l55b
    rw [if_pos (show (16 : Int32) ≤ nI 16 from nI_le (a := 16) (Nat.le_refl 16) (by decide))]
theorem resN_e {N i : Nat} {th b : Int32} {now kept ik : Nat → Int32} {gr kg : Nat → Int64} (hN : 1000 < N) (hi : i < 2) : ∃ k2, itr (fun z => fX12_restore_l31b N th b ik kept kg gr (nI i) z.1 z.2) N (now, (0 : Int32)) = some k2 ∧ ∀ j, j < 380 → k2 j = kept (380 * i + j) := by
  refine itr_inv (fun (n : Nat) (z : (Nat → Int32) × Int32) => z.2 = nI n ∧ ∀ j, j < n → z.1 j = kept (380 * i + j)) (fun (k2 : Nat → Int32) => ∀ j, j < 380 → k2 j = kept (380 * i + j)) (b := 380) (by omega) ⟨rfl, fun j hj => absurd hj (Nat.not_lt_zero j)⟩ ?_ ?_
  · rintro n ⟨f, v⟩ hn ⟨hv, h1⟩
    have hv : v = nI n := hv
    subst hv
    have h1 : ∀ j, j < n → f j = kept (380 * i + j) := h1
    refine ⟨(upd f n (kept (380 * i + n)), nI (n + 1)), ?_, rfl, fun j hj => ?_⟩
    · show fX12_restore_l31b N th b ik kept kg gr (nI i) f (nI n) = _
      unfold fX12_restore_l31b
      rw [if_neg (show ¬ (380 : Int32) ≤ nI n from nI_ge (b := 380) hn (by decide)), i380, gdi_nI (by omega) (by decide), gdi_nI (by omega) (by decide), bnd_e, bnd_e, nI_clamp (n := 380 * i + n) (by omega), nI_clamp (n := n) (by omega), nI_1]
    · show upd f n (kept (380 * i + n)) j = _
      by_cases q : j = n
      · rw [q, pk_us]
      · rw [pk_un q]
        exact h1 j (by omega)
  · rintro ⟨f, v⟩ ⟨hv, h1⟩
    have hv : v = nI 380 := hv
    subst hv
    refine ⟨f, ?_, h1⟩
    show fX12_restore_l31b N th b ik kept kg gr (nI i) f (nI 380) = _
    unfold fX12_restore_l31b
    rw [if_pos (show (380 : Int32) ≤ nI 380 from nI_le (a := 380) (Nat.le_refl 380) (by decide))]
theorem resG_e {N i : Nat} {th b : Int32} {now kept ik : Nat → Int32} {gr kg : Nat → Int64} (hN : 1000 < N) (hi : i < 2) : ∃ k2, itr (fun z => fX12_restore_l64b N th b now ik kept kg (nI i) z.1 z.2) N (gr, (0 : Int32)) = some k2 ∧ ∀ j, j < 16 → k2 j = kg (16 * i + j) := by
  refine itr_inv (fun (n : Nat) (z : (Nat → Int64) × Int32) => z.2 = nI n ∧ ∀ j, j < n → z.1 j = kg (16 * i + j)) (fun (k2 : Nat → Int64) => ∀ j, j < 16 → k2 j = kg (16 * i + j)) (b := 16) (by omega) ⟨rfl, fun j hj => absurd hj (Nat.not_lt_zero j)⟩ ?_ ?_
  · rintro n ⟨f, v⟩ hn ⟨hv, h1⟩
    have hv : v = nI n := hv
    subst hv
    have h1 : ∀ j, j < n → f j = kg (16 * i + j) := h1
    refine ⟨(vp_updL f n (kg (16 * i + n)), nI (n + 1)), ?_, rfl, fun j hj => ?_⟩
    · show fX12_restore_l64b N th b now ik kept kg (nI i) f (nI n) = _
      unfold fX12_restore_l64b
      rw [if_neg (show ¬ (16 : Int32) ≤ nI n from nI_ge (b := 16) hn (by decide)), i16, gdi_nI (by omega) (by decide), gdi_nI (by omega) (by decide), bnd_e, bnd_e, nI_clamp (n := 16 * i + n) (by omega), nI_clamp (n := n) (by omega), nI_1]
    · show vp_updL f n (kg (16 * i + n)) j = _
      by_cases q : j = n
      · rw [q, updL_us]
      · rw [updL_un q]
        exact h1 j (by omega)
  · rintro ⟨f, v⟩ ⟨hv, h1⟩
    have hv : v = nI 16 := hv
    subst hv
    refine ⟨f, ?_, h1⟩
    show fX12_restore_l64b N th b now ik kept kg (nI i) f (nI 16) = _
    unfold fX12_restore_l64b
    rw [if_pos (show (16 : Int32) ≤ nI 16 from nI_le (a := 16) (Nat.le_refl 16) (by decide))]
set_option maxHeartbeats 1000000 in
theorem p_image {N T L P A : Nat} {rl rt rp ra rf l0 n0 p0 a0 f0 l1 n1 p1 a1 f1 b th : Int32} {rc gr c0 c1 kg : Nat → Int64} {rP rF now now1 dg vo lo sh he tn P0 F0 P1 F1 d0 v0 o0 s0 h0 m0 d1 v1 o1 s1 h1 m1 kp ik kept : Nat → Int32} (hN : 1000 < N) (h : IR1 T L P A rl rt rp ra rf rc rP rF now1 gr) (hF : IF1 T L rF) (hs : IST T A dg vo lo sh he tn rc rF now1) (hl : LY N b now now1) (k0 : IK 0 (kp 0) (ik 0) l0 n0 p0 a0 f0 c0 P0 F0 d0 v0 o0 s0 h0 m0 kept kg) (k1 : IK 1 (kp 1) (ik 1) l1 n1 p1 a1 f1 c1 P1 F1 d1 v1 o1 s1 h1 m1 kept kg) (x : Int32) : ∃ (l0' n0' p0' a0' f0' l1' n1' p1' a1' f1' r : Int32) (c0' c1' kg' : Nat → Int64) (P0' F0' P1' F1' d0' v0' o0' s0' h0' m0' d1' v1' o1' s1' h1' m1' kp' ik' kept' : Nat → Int32), fX11_image l0 n0 p0 a0 f0 rl rt rp ra rf rc c0 rP P0 rF F0 l1 n1 p1 a1 f1 c1 P1 F1 dg d0 vo v0 lo o0 sh s0 he h0 tn m0 d1 v1 o1 s1 h1 m1 kp x = some (l0', n0', p0', a0', f0', c0', P0', F0', l1', n1', p1', a1', f1', c1', P1', F1', d0', v0', o0', s0', h0', m0', d1', v1', o1', s1', h1', m1', kp', r) ∧ fX12_image N th b now kept gr kg ik x = some (0, 1, now1, kept', kg', ik', r) ∧ IK 0 (kp' 0) (ik' 0) l0' n0' p0' a0' f0' c0' P0' F0' d0' v0' o0' s0' h0' m0' kept' kg' ∧ IK 1 (kp' 1) (ik' 1) l1' n1' p1' a1' f1' c1' P1' F1' d1' v1' o1' s1' h1' m1' kept' kg' := by
  have hT : T ≤ 16 := h.1.1
  unfold fX11_image fX12_image
  rw [bind_e hl, bind_e (isIn_e x 0 1)]
  rcases in_cases x (n := 2) (by decide) with q | ⟨i, hi, rfl⟩
  · have e : ¬ ((0 : Int32) ≤ x ∧ x ≤ 1) := by
      rintro ⟨y1, y2⟩
      rcases q with q | ⟨q1, q2⟩
      · exact absurd (Int32.lt_of_lt_of_le q y1) Int32.lt_irrefl
      · exact absurd (Int32.le_trans q2 y2) (by decide)
    rw [if_neg e, if_pos rfl]
    rcases q with q | ⟨q1, q2⟩
    · rw [if_pos q]
      exact ⟨_, _, _, _, _, _, _, _, _, _, _, _, _, _, _, _, _, _, _, _, _, _, _, _, _, _, _, _, _, _, _, _, _, rfl, rfl, k0, k1⟩
    · rw [if_neg q1, if_neg (show ¬ x < 2 from Int32.not_lt.mpr q2)]
      exact ⟨_, _, _, _, _, _, _, _, _, _, _, _, _, _, _, _, _, _, _, _, _, _, _, _, _, _, _, _, _, _, _, _, _, rfl, rfl, k0, k1⟩
  · obtain ⟨g2, q2, f2, er, hg, hq, hf⟩ := ringCopy_e (a := if i = 0 then l0 else l1) (b := if i = 0 then n0 else n1) (c := if i = 0 then p0 else p1) (d := if i = 0 then a0 else a1) (e := if i = 0 then f0 else f1) (rl := rl) (rt := rt) (rp := rp) (ra := ra) (rf := rf) (rc := rc) (g := if i = 0 then c0 else c1) (rP := rP) (q := if i = 0 then P0 else P1) (rF := rF) (f := if i = 0 then F0 else F1) h.2.2.1.2.2.2.2.2
    obtain ⟨d, v, l, s, hh, m, es, a1', a2, a3, a4, a5, a6⟩ := copy_e dg (if i = 0 then d0 else d1) vo (if i = 0 then v0 else v1) lo (if i = 0 then o0 else o1) sh (if i = 0 then s0 else s1) he (if i = 0 then h0 else h1) tn (if i = 0 then m0 else m1)
    obtain ⟨k2, e1, x1, x2⟩ := imgN_e (N := N) (th := 0) (b := 1) (now := now1) (kept := kept) (ik := ik) (gr := gr) (kg := kg) hN hi
    obtain ⟨kg2, e2, y1, y2⟩ := imgG_e (N := N) (th := 0) (b := 1) (now := now1) (kept := k2) (ik := ik) (gr := gr) (kg := kg) hN hi
    have new : ∀ kc km : Int32, kc = 1 → km = 1 → IK i kc km rl rt rp ra rf g2 q2 f2 d v l s hh m k2 kg2 := fun kc km z1 z2 => Or.inr ⟨z1, z2, T, L, P, A, IR1_cong h hg hq hf (fun j hj => x1 j (by omega)) y1, IF1_cong hT hF hf, IST_now (fun j _ hj => x1 j (by omega)) (IST_ring hT (IST_cong hT a1' a2 a3 a4 a5 a6 hs) hg hf)⟩
    rw [if_pos (show (0 : Int32) ≤ nI i ∧ nI i ≤ 1 from ⟨nI_le (a := 0) (Nat.zero_le i) (by omega), nI_le (b := 1) (by omega) (by decide)⟩), if_neg (show ¬ (1 : Int32) = 0 by decide), if_neg (nI_nlt0 (by omega)), if_pos (show nI i < 2 from nI_lt (b := 2) hi (by decide))]
    show ∃ (l0' n0' p0' a0' f0' l1' n1' p1' a1' f1' r : Int32) (c0' c1' kg' : Nat → Int64) (P0' F0' P1' F1' d0' v0' o0' s0' h0' m0' d1' v1' o1' s1' h1' m1' kp' ik' kept' : Nat → Int32), _ ∧ (itr (fun z => fX12_image_l22b N 0 1 now1 gr kg ik (nI i) z.1 z.2) N (kept, (0 : Int32))).bind _ = _ ∧ _
    rw [bind_e e1]
    show ∃ (l0' n0' p0' a0' f0' l1' n1' p1' a1' f1' r : Int32) (c0' c1' kg' : Nat → Int64) (P0' F0' P1' F1' d0' v0' o0' s0' h0' m0' d1' v1' o1' s1' h1' m1' kp' ik' kept' : Nat → Int32), _ ∧ (itr (fun z => fX12_image_l55b N 0 1 now1 k2 gr ik (nI i) z.1 z.2) N (kg, (0 : Int32))).bind _ = _ ∧ _
    rw [bind_e e2]
    have ci : i = 0 ∨ i = 1 := by omega
    rcases ci with rfl | rfl
    · rw [if_pos (show nI 0 = 0 from rfl), bind_e (show fX5_copyFrom l0 n0 p0 a0 f0 rl rt rp ra rf rc c0 rP P0 rF F0 = some (rl, rt, rp, ra, rf, g2, q2, f2) from er), if_pos (show nI 0 = 0 from rfl), bind_e (show fX8_copyFrom dg d0 vo v0 lo o0 sh s0 he h0 tn m0 = some (d, v, l, s, hh, m) from es)]
      refine ⟨rl, rt, rp, ra, rf, l1, n1, p1, a1, f1, 1, g2, c1, kg2, q2, f2, P1, F1, d, v, l, s, hh, m, d1, v1, o1, s1, h1, m1, upd kp 0 1, upd ik 0 1, k2, rfl, rfl, new _ _ rfl rfl, ?_⟩
      exact IK_cong k1 (fun j hj => x2 _ (by omega)) (fun j hj => y2 _ (by omega))
    · rw [if_neg (show ¬ nI 1 = 0 by decide), if_pos (show nI 1 = 1 from rfl), bind_e (show fX5_copyFrom l1 n1 p1 a1 f1 rl rt rp ra rf rc c1 rP P1 rF F1 = some (rl, rt, rp, ra, rf, g2, q2, f2) from er), if_neg (show ¬ nI 1 = 0 by decide), if_pos (show nI 1 = 1 from rfl), bind_e (show fX8_copyFrom dg d1 vo v1 lo o1 sh s1 he h1 tn m1 = some (d, v, l, s, hh, m) from es)]
      refine ⟨l0, n0, p0, a0, f0, rl, rt, rp, ra, rf, 1, c0, g2, kg2, P0, F0, q2, f2, d0, v0, o0, s0, h0, m0, d, v, l, s, hh, m, upd kp 1 1, upd ik 1 1, k2, rfl, rfl, ?_, new _ _ rfl rfl⟩
      exact IK_cong k0 (fun j hj => x2 _ (by omega)) (fun j hj => y2 _ (by omega))
set_option maxHeartbeats 1000000 in
theorem p_restore {N T L P A : Nat} {rl rt rp ra rf l0 n0 p0 a0 f0 l1 n1 p1 a1 f1 b th : Int32} {rc gr c0 c1 kg : Nat → Int64} {rP rF now now1 dg vo lo sh he tn P0 F0 P1 F1 d0 v0 o0 s0 h0 m0 d1 v1 o1 s1 h1 m1 kp ik kept : Nat → Int32} (hN : 1000 < N) (h : IR1 T L P A rl rt rp ra rf rc rP rF now1 gr) (hF : IF1 T L rF) (hs : IST T A dg vo lo sh he tn rc rF now1) (hl : LY N b now now1) (k0 : IK 0 (kp 0) (ik 0) l0 n0 p0 a0 f0 c0 P0 F0 d0 v0 o0 s0 h0 m0 kept kg) (k1 : IK 1 (kp 1) (ik 1) l1 n1 p1 a1 f1 c1 P1 F1 d1 v1 o1 s1 h1 m1 kept kg) (x : Int32) : ∃ (T' L' P' A' : Nat) (rl' rt' rp' ra' rf' r : Int32) (rc' gr' : Nat → Int64) (rP' rF' dg' vo' lo' sh' he' tn' now' : Nat → Int32), fX11_restore kp rl rt rp ra rf l0 n0 p0 a0 f0 c0 rc P0 rP F0 rF l1 n1 p1 a1 f1 c1 P1 F1 d0 dg v0 vo o0 lo s0 sh h0 he m0 tn d1 v1 o1 s1 h1 m1 x = some (rl', rt', rp', ra', rf', rc', rP', rF', dg', vo', lo', sh', he', tn', r) ∧ fX12_restore N th b now ik kept kg gr x = some (0, 1, now', gr', r) ∧ IR1 T' L' P' A' rl' rt' rp' ra' rf' rc' rP' rF' now' gr' ∧ IF1 T' L' rF' ∧ IST T' A' dg' vo' lo' sh' he' tn' rc' rF' now' := by
  unfold fX11_restore fX12_restore
  rw [bind_e hl, bind_e (isIn_e x 0 1)]
  rcases in_cases x (n := 2) (by decide) with q | ⟨i, hi, rfl⟩
  · have e : ¬ ((0 : Int32) ≤ x ∧ x ≤ 1) := by
      rintro ⟨y1, y2⟩
      rcases q with q | ⟨q1, q2⟩
      · exact absurd (Int32.lt_of_lt_of_le q y1) Int32.lt_irrefl
      · exact absurd (Int32.le_trans q2 y2) (by decide)
    rw [if_neg e, if_pos rfl]
    rcases q with q | ⟨q1, q2⟩
    · rw [if_pos q]
      exact ⟨T, L, P, A, _, _, _, _, _, _, _, _, _, _, _, _, _, _, _, _, _, rfl, rfl, h, hF, hs⟩
    · rw [if_neg q1, if_pos (show (2 : Int32) ≤ x from q2)]
      exact ⟨T, L, P, A, _, _, _, _, _, _, _, _, _, _, _, _, _, _, _, _, _, rfl, rfl, h, hF, hs⟩
  · rw [if_pos (show (0 : Int32) ≤ nI i ∧ nI i ≤ 1 from ⟨nI_le (a := 0) (Nat.zero_le i) (by omega), nI_le (b := 1) (by omega) (by decide)⟩), if_neg (show ¬ (1 : Int32) = 0 by decide), if_neg (nI_nlt0 (by omega)), if_neg (show ¬ (2 : Int32) ≤ nI i from nI_ge (b := 2) hi (by decide)), gdi_nI (by omega) (by decide), gdi_nI (by omega) (by decide), nI_clamp (by omega)]
    obtain ⟨k2, e1, x1⟩ := resN_e (N := N) (th := 0) (b := 1) (now := now1) (kept := kept) (ik := ik) (gr := gr) (kg := kg) hN hi
    obtain ⟨kg2, e2, y1⟩ := resG_e (N := N) (th := 0) (b := 1) (now := k2) (kept := kept) (ik := ik) (gr := gr) (kg := kg) hN hi
    have ci : i = 0 ∨ i = 1 := by omega
    rcases ci with rfl | rfl
    · rcases k0 with ⟨z1, z2⟩ | ⟨z1, z2, T', L', P', A', r1, r2, r3⟩
      · rw [z1, z2, if_pos rfl, if_pos rfl]
        exact ⟨T, L, P, A, _, _, _, _, _, _, _, _, _, _, _, _, _, _, _, _, _, rfl, rfl, h, hF, hs⟩
      · obtain ⟨g2, q2, f2, er, hg, hq, hf⟩ := ringCopy_e (a := rl) (b := rt) (c := rp) (d := ra) (e := rf) (rl := l0) (rt := n0) (rp := p0) (ra := a0) (rf := f0) (rc := c0) (g := rc) (rP := P0) (q := rP) (rF := F0) (f := rF) r1.2.2.1.2.2.2.2.2
        obtain ⟨d, v, l, s, hh, m, es, a1', a2, a3, a4, a5, a6⟩ := copy_e d0 dg v0 vo o0 lo s0 sh h0 he m0 tn
        rw [z1, z2, if_neg (show ¬ (1 : Int32) = 0 by decide), if_neg (show ¬ (1 : Int32) = 0 by decide), if_pos (show nI 0 = 0 from rfl), bind_e er, if_pos (show nI 0 = 0 from rfl), bind_e es]
        refine ⟨T', L', P', A', l0, n0, p0, a0, f0, 1, g2, kg2, q2, f2, d, v, l, s, hh, m, k2, rfl, ?_, IR1_cong r1 hg hq hf (fun j hj => x1 j (by omega)) y1, IF1_cong r1.1.1 r2 hf, IST_now (fun j _ hj => x1 j (by omega)) (IST_ring r1.1.1 (IST_cong r1.1.1 a1' a2 a3 a4 a5 a6 r3) hg hf)⟩
        show (itr (fun z => fX12_restore_l31b N 0 1 ik kept kg gr (nI 0) z.1 z.2) N (now1, (0 : Int32))).bind _ = _
        rw [bind_e e1]
        show (itr (fun z => fX12_restore_l64b N 0 1 k2 ik kept kg (nI 0) z.1 z.2) N (gr, (0 : Int32))).bind _ = _
        rw [bind_e e2]
    · rcases k1 with ⟨z1, z2⟩ | ⟨z1, z2, T', L', P', A', r1, r2, r3⟩
      · rw [z1, z2, if_pos rfl, if_pos rfl]
        exact ⟨T, L, P, A, _, _, _, _, _, _, _, _, _, _, _, _, _, _, _, _, _, rfl, rfl, h, hF, hs⟩
      · obtain ⟨g2, q2, f2, er, hg, hq, hf⟩ := ringCopy_e (a := rl) (b := rt) (c := rp) (d := ra) (e := rf) (rl := l1) (rt := n1) (rp := p1) (ra := a1) (rf := f1) (rc := c1) (g := rc) (rP := P1) (q := rP) (rF := F1) (f := rF) r1.2.2.1.2.2.2.2.2
        obtain ⟨d, v, l, s, hh, m, es, a1', a2, a3, a4, a5, a6⟩ := copy_e d1 dg v1 vo o1 lo s1 sh h1 he m1 tn
        rw [z1, z2, if_neg (show ¬ (1 : Int32) = 0 by decide), if_neg (show ¬ (1 : Int32) = 0 by decide), if_neg (show ¬ nI 1 = 0 by decide), if_pos (show nI 1 = 1 from rfl), bind_e er, if_neg (show ¬ nI 1 = 0 by decide), if_pos (show nI 1 = 1 from rfl), bind_e es]
        refine ⟨T', L', P', A', l1, n1, p1, a1, f1, 1, g2, kg2, q2, f2, d, v, l, s, hh, m, k2, rfl, ?_, IR1_cong r1 hg hq hf (fun j hj => x1 j (by omega)) y1, IF1_cong r1.1.1 r2 hf, IST_now (fun j _ hj => x1 j (by omega)) (IST_ring r1.1.1 (IST_cong r1.1.1 a1' a2 a3 a4 a5 a6 r3) hg hf)⟩
        show (itr (fun z => fX12_restore_l31b N 0 1 ik kept kg gr (nI 1) z.1 z.2) N (now1, (0 : Int32))).bind _ = _
        rw [bind_e e1]
        show (itr (fun z => fX12_restore_l64b N 0 1 k2 ik kept kg (nI 1) z.1 z.2) N (gr, (0 : Int32))).bind _ = _
        rw [bind_e e2]

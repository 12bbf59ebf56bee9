/-! copies of a STANDING; what is the same on the first 16; save and bring -/
def E16 (f g : Nat → Int32) : Prop := ∀ k, k < 16 → f k = g k
theorem cp16 (f g : Nat → Int32) : E16 (va_cpy f g (0 : Int32).toNatClampNeg (0 : Int32).toNatClampNeg (16 : Int32).toNatClampNeg) f := fun k hk => sb_cpy0 hk
theorem gdc_16 {α : Type} {x : Option α} : gdc (0 : Int32) (0 : Int32) (16 : Int32) 16 16 x = x := by
  unfold gdc
  exact if_pos (by decide)
theorem copy_e (d0 d1 v0 v1 l0 l1 s0 s1 h0 h1 n0 n1 : Nat → Int32) : ∃ d v l s h n, fX8_copyFrom d0 d1 v0 v1 l0 l1 s0 s1 h0 h1 n0 n1 = some (d, v, l, s, h, n) ∧ E16 d d0 ∧ E16 v v0 ∧ E16 l l0 ∧ E16 s s0 ∧ E16 h h0 ∧ E16 n n0 := by
  refine ⟨_, _, _, _, _, _, ?_, cp16 d0 d1, cp16 v0 v1, cp16 l0 l1, cp16 s0 s1, cp16 h0 h1, cp16 n0 n1⟩
  unfold fX8_copyFrom
  rw [gdc_16, bnd_e, gdc_16, bnd_e, gdc_16, bnd_e, gdc_16, bnd_e, gdc_16, bnd_e, gdc_16, bnd_e]
theorem tch_cong {d e v w : Nat → Int32} {rc : Nat → Int64} {a b : Nat} (hd : E16 d e) (hv : E16 v w) (ha : a < 16) (hb : b < 16) : tch d v rc a b = tch e w rc a b := by
  unfold tch
  rw [hd a ha, hd b hb, hv a ha, hv b hb]
theorem rv_cong {d e l m s u : Nat → Int32} {a b : Nat} (hd : E16 d e) (hl : E16 l m) (hs : E16 s u) (ha : a < 16) (hb : b < 16) : rv d l s a b = rv e m u a b := by
  unfold rv
  rw [hd a ha, hd b hb, hl a ha, hs a ha]
theorem smH_cong {d e v w l m s u : Nat → Int32} {rc : Nat → Int64} {t n : Nat} (hd : E16 d e) (hv : E16 v w) (hl : E16 l m) (hs : E16 s u) (ht : t < 16) (hn : n ≤ 16) : smH d v l s rc t n = smH e w m u rc t n := by
  rw [smH_sg, smH_sg]
  refine sg_cong (fun k hk => ?_)
  unfold hf
  rw [tch_cong hd hv ht (show k < 16 by omega), rv_cong hd hl hs (show k < 16 by omega) ht]
theorem smN_cong {A : Nat} {d e v w : Nat → Int32} {rc : Nat → Int64} {t n : Nat} (hd : E16 d e) (hv : E16 v w) (ht : t < 16) (hn : n ≤ 16) : smN A d v rc t n = smN A e w rc t n := by
  rw [smN_sg, smN_sg]
  refine sg_cong (fun k hk => ?_)
  unfold nf
  rw [tch_cong hd hv ht (show k < 16 by omega), hd t ht, hd k (by omega)]
theorem IH_cong {T A : Nat} {d e v w l m s u h i n o : Nat → Int32} {rc : Nat → Int64} (hT : T ≤ 16) (hd : E16 d e) (hv : E16 v w) (hl : E16 l m) (hs : E16 s u) (hh : E16 h i) (hn : E16 n o) (H : IH T A e w m u i o rc) : IH T A d v l s h n rc := by
  refine ⟨fun t ht => ?_, fun t ht => ?_⟩
  · rw [hh t (by omega), H.1 t ht, smH_cong hd hv hl hs (by omega) hT]
  · rw [hn t (by omega), H.2 t ht, smN_cong hd hv (by omega) hT]
theorem IS1_cong {T : Nat} {d e v w now : Nat → Int32} (hd : E16 d e) (hv : E16 v w) (H : IS1 T e w now) : IS1 T d v now := by
  intro t ht
  rw [hd t ht, hv t ht]
  exact H t ht
theorem IST_cong {T A : Nat} {d e v w l m s u h i n o rF now : Nat → Int32} {rc : Nat → Int64} (hT : T ≤ 16) (hd : E16 d e) (hv : E16 v w) (hl : E16 l m) (hs : E16 s u) (hh : E16 h i) (hn : E16 n o) (H : IST T A e w m u i o rc rF now) : IST T A d v l s h n rc rF now := by
  refine ⟨IS1_cong hd hv H.1, fun t ht => ?_, IH_cong hT hd hv hl hs hh hn H.2.2⟩
  rw [hl t (by omega), hs t (by omega)]
  exact H.2.1 t ht
theorem IS1_now {T : Nat} {d v now now2 : Nat → Int32} (h : ∀ j, 340 ≤ j → j < 372 → now2 j = now j) (H : IS1 T d v now) : IS1 T d v now2 := by
  intro t ht
  rw [h (340 + 2 * t) (by omega) (by omega), h (341 + 2 * t) (by omega) (by omega)]
  exact H t ht
theorem IST_now {T A : Nat} {d v l s h n rF now now2 : Nat → Int32} {rc : Nat → Int64} (hk : ∀ j, 340 ≤ j → j < 372 → now2 j = now j) (H : IST T A d v l s h n rc rF now) : IST T A d v l s h n rc rF now2 :=
  ⟨IS1_now hk H.1, H.2⟩
/-- the reference's copy of who stands where -/
def svd (now q : Nat → Int32) : Nat → Int32 := fa_fill (fun k => now (340 + k)) q 32
theorem i340k (k : Nat) : (340 : Int32) + nI k = nI (340 + k) := nI_add 340 k
theorem save_e {N : Nat} (hN : 32 < N) (now q : Nat → Int32) : fX12_save N 32 now q = some (svd now q) := by
  unfold fX12_save
  have e0 : ((q, (0 : Int32)) : (Nat → Int32) × Int32) = (fun k => (fa_fill (fun k => now (340 + k)) q k, nI k)) 0 := by
    show _ = (fa_fill (fun k => now (340 + k)) q 0, nI 0)
    rw [fa_fill_0]
    rfl
  rw [e0, itr_0 (r := svd now q) (fun k => (fa_fill (fun k => now (340 + k)) q k, nI k)) 32 hN ?_ ?_]
  · rfl
  · show fX12_save_l2b N 32 now (fa_fill (fun k => now (340 + k)) q 32) (nI 32) = _
    unfold fX12_save_l2b
    rw [if_pos (by decide)]
    rfl
  · intro k hk
    show fX12_save_l2b N 32 now (fa_fill (fun k => now (340 + k)) q k) (nI k) = _
    unfold fX12_save_l2b
    rw [if_neg (show ¬ (32 : Int32) ≤ nI k from nI_ge (b := 32) hk (by decide)), i340k, gdi_nI (by omega) (by decide), gdi_nI (by omega) (by decide), nI_clamp (by omega), nI_clamp (by omega), bnd_e, bnd_e, nI_1, fa_fill_succ (fun k => now (340 + k)) q k]
theorem bring_e {N : Nat} (hN : 32 < N) (w now : Nat → Int32) : fX12_bring N 32 w now = some (fb_put now w 340 32) := by
  unfold fX12_bring
  have e0 : ((now, (0 : Int32)) : (Nat → Int32) × Int32) = (fun k => (fb_put now w 340 k, nI k)) 0 := by
    show _ = (fb_put now w 340 0, nI 0)
    rw [fb_put_0]
    rfl
  rw [e0, itr_0 (r := fb_put now w 340 32) (fun k => (fb_put now w 340 k, nI k)) 32 hN ?_ ?_]
  · rfl
  · show fX12_bring_l2b N 32 w (fb_put now w 340 32) (nI 32) = _
    unfold fX12_bring_l2b
    rw [if_pos (by decide)]
  · intro k hk
    show fX12_bring_l2b N 32 w (fb_put now w 340 k) (nI k) = _
    unfold fX12_bring_l2b
    rw [if_neg (show ¬ (32 : Int32) ≤ nI k from nI_ge (b := 32) hk (by decide)), gdi_nI (by omega) (by decide), i340k, gdi_nI (by omega) (by decide), nI_clamp (by omega), nI_clamp (by omega), bnd_e, bnd_e, nI_1, fb_put_succ]
/-- what was saved comes back whole, if only who stands where has changed -/
theorem bring_back {now now2 q : Nat → Int32} (h : ∀ j, (j < 340 ∨ 372 ≤ j) → now2 j = now j) : fb_put now2 (svd now q) 340 32 = now := by
  funext j
  by_cases c : 340 ≤ j ∧ j < 340 + 32
  · rw [fb_put_in c.1 c.2]
    unfold svd
    rw [fa_fill_in (by omega), show 340 + (j - 340) = j by omega]
  · rw [fb_put_out (by omega), h j (by omega)]
theorem smH_out {dg vo lo sh : Nat → Int32} {rc : Nat → Int64} {t n : Nat} (hu : dg t = -1) : smH dg vo lo sh rc t n = 0 := by
  rw [smH_sg]
  exact sg_zero (fun k _ => if_neg (fun q => tch_no (Or.inl hu) q.2))
theorem fw_none {T A : Nat} {dg vo lo sh rF : Nat → Int32} {rc : Nat → Int64} (hT : T ≤ 16) : fw T A dg vo lo sh rF rc = -1 ↔ ∀ k, k < T → isW T A dg vo lo sh rF rc k = false := by
  unfold fw
  by_cases c : fa_first (isW T A dg vo lo sh rF rc) T < T
  · rw [if_pos c]
    constructor
    · intro e
      exact absurd e (nI_m1 (by omega))
    · intro h
      have h1 := fa_first_yes _ T c
      rw [h _ c] at h1
      cases h1
  · rw [if_neg c]
    have e : fa_first (isW T A dg vo lo sh rF rc) T = T := Nat.le_antisymm (fa_first_le _ T) (by omega)
    exact ⟨fun _ k hk => fa_first_no _ T k (by omega), fun _ => rfl⟩

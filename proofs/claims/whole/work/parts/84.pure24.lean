/-! a cleared STANDING; what is the same on the first n -/
def EN (n : Nat) (f g : Nat → Int32) : Prop := ∀ k, k < n → f k = g k
theorem tch_congN {n : Nat} {d e v w : Nat → Int32} {rc : Nat → Int64} {a b : Nat} (hd : EN n d e) (hv : EN n v w) (ha : a < n) (hb : b < n) : tch d v rc a b = tch e w rc a b := by
  unfold tch
  rw [hd a ha, hd b hb, hv a ha, hv b hb]
theorem rv_congN {n : Nat} {d e l m s u : Nat → Int32} {a b : Nat} (hd : EN n d e) (hl : EN n l m) (hs : EN n s u) (ha : a < n) (hb : b < n) : rv d l s a b = rv e m u a b := by
  unfold rv
  rw [hd a ha, hd b hb, hl a ha, hs a ha]
theorem smH_congN {n : Nat} {d e v w l m s u : Nat → Int32} {rc : Nat → Int64} {t : Nat} (hd : EN n d e) (hv : EN n v w) (hl : EN n l m) (hs : EN n s u) (ht : t < n) : smH d v l s rc t n = smH e w m u rc t n := by
  rw [smH_sg, smH_sg]
  refine sg_cong (fun k hk => ?_)
  unfold hf
  rw [tch_congN hd hv ht hk, rv_congN hd hl hs hk ht]
theorem cN_congN {n A : Nat} {d e v w : Nat → Int32} {rc : Nat → Int64} {t : Nat} (hd : EN n d e) (hv : EN n v w) (ht : t < n) : ∀ m, m ≤ n → cN A d v rc t m = cN A e w rc t m
  | 0, _ => rfl
  | m + 1, h => by
    show cN A d v rc t m + (if m ≠ t ∧ tch d v rc t m = true ∧ gp (d t).toNatClampNeg (d m).toNatClampNeg < A then 1 else 0) = cN A e w rc t m + (if m ≠ t ∧ tch e w rc t m = true ∧ gp (e t).toNatClampNeg (e m).toNatClampNeg < A then 1 else 0)
    rw [cN_congN hd hv ht m (by omega), tch_congN hd hv ht (show m < n by omega), hd t ht, hd m (by omega)]
theorem wr_congN {T A : Nat} {d e v w l m s u rF : Nat → Int32} {rc : Nat → Int64} {t : Nat} (hd : EN T d e) (hv : EN T v w) (hl : EN T l m) (hs : EN T s u) (ht : t < T) : wr T A d v l s rF rc t = wr T A e w m u rF rc t := by
  unfold wr
  rw [hd t ht, hv t ht, cN_congN hd hv ht T (Nat.le_refl T), smH_congN hd hv hl hs ht]
theorem ff_cong {p q : Nat → Bool} {n : Nat} (h : ∀ k, k < n → p k = q k) : fa_first p n = fa_first q n := by
  rcases Nat.lt_trichotomy (fa_first p n) (fa_first q n) with c | c | c
  · have h1 := fa_first_le q n
    have h2 := fa_first_yes p n (by omega)
    have h3 := fa_first_no q n _ c
    rw [h _ (by omega), h3] at h2
    cases h2
  · exact c
  · have h1 := fa_first_le p n
    have h2 := fa_first_yes q n (by omega)
    have h3 := fa_first_no p n _ c
    rw [← h _ (by omega), h3] at h2
    cases h2
theorem fw_congN {T A : Nat} {d e v w l m s u rF : Nat → Int32} {rc : Nat → Int64} (hd : EN T d e) (hv : EN T v w) (hl : EN T l m) (hs : EN T s u) : fw T A d v l s rF rc = fw T A e w m u rF rc := by
  unfold fw
  rw [ff_cong (p := isW T A d v l s rF rc) (q := isW T A e w m u rF rc) (n := T)]
  intro k hk
  unfold isW
  rw [hd k hk, wr_congN hd hv hl hs hk]
theorem clear_e {N : Nat} (hN : 16 < N) (rF d v l s h n : Nat → Int32) : ∃ d2 v2 l2 s2 h2 n2, fX8_clear N d v rF l s h n = some (d2, v2, l2, s2, h2, n2) ∧ ∀ k, k < 16 → d2 k = -1 ∧ v2 k = -1 ∧ l2 k = rF (14 * k + 4) ∧ s2 k = rF (14 * k + 5) ∧ h2 k = 0 ∧ n2 k = 0 := by
  have key : ∃ r, itr (fun z => fX8_clear_l2b N rF z.1 z.2.1 z.2.2.1 z.2.2.2.1 z.2.2.2.2.1 z.2.2.2.2.2.1 z.2.2.2.2.2.2) N (d, v, l, s, h, n, (0 : Int32)) = some r ∧ ∀ k, k < 16 → r.1 k = -1 ∧ r.2.1 k = -1 ∧ r.2.2.1 k = rF (14 * k + 4) ∧ r.2.2.2.1 k = rF (14 * k + 5) ∧ r.2.2.2.2.1 k = 0 ∧ r.2.2.2.2.2 k = 0 := by
    refine itr_inv (fun (i : Nat) (z : (Nat → Int32) × (Nat → Int32) × (Nat → Int32) × (Nat → Int32) × (Nat → Int32) × (Nat → Int32) × Int32) => z.2.2.2.2.2.2 = nI i ∧ ∀ k, k < i → z.1 k = -1 ∧ z.2.1 k = -1 ∧ z.2.2.1 k = rF (14 * k + 4) ∧ z.2.2.2.1 k = rF (14 * k + 5) ∧ z.2.2.2.2.1 k = 0 ∧ z.2.2.2.2.2.1 k = 0) (fun (r : (Nat → Int32) × (Nat → Int32) × (Nat → Int32) × (Nat → Int32) × (Nat → Int32) × (Nat → Int32)) => ∀ k, k < 16 → r.1 k = -1 ∧ r.2.1 k = -1 ∧ r.2.2.1 k = rF (14 * k + 4) ∧ r.2.2.2.1 k = rF (14 * k + 5) ∧ r.2.2.2.2.1 k = 0 ∧ r.2.2.2.2.2 k = 0) (b := 16) hN ⟨rfl, fun k hk => absurd hk (Nat.not_lt_zero k)⟩ ?_ ?_
    · rintro i ⟨d, v, l, s, h, n, c⟩ hi ⟨hc, hf⟩
      have hc : c = nI i := hc
      subst hc
      have hf : ∀ k, k < i → d k = -1 ∧ v k = -1 ∧ l k = rF (14 * k + 4) ∧ s k = rF (14 * k + 5) ∧ h k = 0 ∧ n k = 0 := hf
      refine ⟨(upd d i (-1), upd v i (-1), upd l i (rF (14 * i + 4)), upd s i (rF (14 * i + 5)), upd h i 0, upd n i 0, nI (i + 1)), ?_, rfl, fun k hk => ?_⟩
      · show fX8_clear_l2b N rF d v l s h n (nI i) = _
        unfold fX8_clear_l2b
        rw [if_neg (show ¬ (16 : Int32) ≤ nI i from nI_ge (b := 16) hi (by decide)), gdi_nI (by omega) (by decide), nI_clamp (by omega), bnd_e, gdi_nI (by omega) (by decide), bnd_e, bind_e (told_x (w := 4) (c := 4) rfl (by omega) (by decide) rF), gdi_nI (by omega) (by decide), bnd_e, bind_e (told_x (w := 5) (c := 5) rfl (by omega) (by decide) rF), gdi_nI (by omega) (by decide), bnd_e, gdi_nI (by omega) (by decide), bnd_e, gdi_nI (by omega) (by decide), bnd_e, bnd_e, nI_1]
      · show upd d i (-1) k = -1 ∧ upd v i (-1) k = -1 ∧ upd l i (rF (14 * i + 4)) k = rF (14 * k + 4) ∧ upd s i (rF (14 * i + 5)) k = rF (14 * k + 5) ∧ upd h i 0 k = 0 ∧ upd n i 0 k = 0
        by_cases e : k = i
        · subst e
          rw [pk_us, pk_us, pk_us, pk_us, pk_us, pk_us]
          exact ⟨rfl, rfl, rfl, rfl, rfl, rfl⟩
        · rw [pk_un e, pk_un e, pk_un e, pk_un e, pk_un e, pk_un e]
          exact hf k (by omega)
    · rintro ⟨d, v, l, s, h, n, c⟩ ⟨hc, hf⟩
      have hc : c = nI 16 := hc
      subst hc
      refine ⟨(d, v, l, s, h, n), ?_, hf⟩
      show fX8_clear_l2b N rF d v l s h n (nI 16) = _
      unfold fX8_clear_l2b
      rw [if_pos (show (16 : Int32) ≤ nI 16 by decide)]
  obtain ⟨⟨d2, v2, l2, s2, h2, n2⟩, e1, e2⟩ := key
  refine ⟨d2, v2, l2, s2, h2, n2, ?_, e2⟩
  unfold fX8_clear
  rw [bind_e e1]
theorem smN_out {A : Nat} {dg vo : Nat → Int32} {rc : Nat → Int64} {t n : Nat} (hu : dg t = -1) : smN A dg vo rc t n = 0 := by
  rw [smN_sg]
  exact sg_zero (fun k _ => if_neg (fun q => tch_no (Or.inl hu) q.2.1))
theorem IH_empty {T A : Nat} {d v l s h n : Nat → Int32} {rc : Nat → Int64} (hd : ∀ k, k < T → d k = -1) (hh : ∀ k, k < T → h k = 0) (hn : ∀ k, k < T → n k = 0) : IH T A d v l s h n rc :=
  ⟨fun t ht => by rw [hh t ht, smH_out (hd t ht)], fun t ht => by rw [hn t ht, smN_out (hd t ht)]⟩
/-! NARROW: those that may be narrowed; sets of them -/
def gat (ok : Nat → Bool) : Nat → Nat × (Nat → Nat)
  | 0 => (0, fun _ => 0)
  | k + 1 => if (gat ok k).1 < 6 ∧ ok k = true then ((gat ok k).1 + 1, fun j => if j = (gat ok k).1 then k else (gat ok k).2 j) else gat ok k
theorem gat_p (ok : Nat → Bool) : ∀ k, (gat ok k).1 ≤ 6 ∧ (∀ j, j < (gat ok k).1 → (gat ok k).2 j < k ∧ ok ((gat ok k).2 j) = true) ∧ ∀ i j, i < j → j < (gat ok k).1 → (gat ok k).2 i < (gat ok k).2 j
  | 0 => ⟨by show 0 ≤ 6; omega, fun j hj => absurd hj (Nat.not_lt_zero j), fun i j _ hj => absurd hj (Nat.not_lt_zero j)⟩
  | k + 1 => by
    obtain ⟨h1, h2, h3⟩ := gat_p ok k
    by_cases c : (gat ok k).1 < 6 ∧ ok k = true
    · have e : gat ok (k + 1) = ((gat ok k).1 + 1, fun j => if j = (gat ok k).1 then k else (gat ok k).2 j) := if_pos c
      rw [e]
      refine ⟨by show (gat ok k).1 + 1 ≤ 6; omega, fun j hj => ?_, fun i j hij hj => ?_⟩
      · show (if j = (gat ok k).1 then k else (gat ok k).2 j) < k + 1 ∧ ok (if j = (gat ok k).1 then k else (gat ok k).2 j) = true
        have hj : j < (gat ok k).1 + 1 := hj
        by_cases q : j = (gat ok k).1
        · rw [if_pos q]
          exact ⟨Nat.lt_succ_self k, c.2⟩
        · rw [if_neg q]
          obtain ⟨a, b⟩ := h2 j (by omega)
          exact ⟨by omega, b⟩
      · show (if i = (gat ok k).1 then k else (gat ok k).2 i) < (if j = (gat ok k).1 then k else (gat ok k).2 j)
        have hj : j < (gat ok k).1 + 1 := hj
        rw [if_neg (show ¬ i = (gat ok k).1 by omega)]
        by_cases q : j = (gat ok k).1
        · rw [if_pos q]
          exact (h2 i (by omega)).1
        · rw [if_neg q]
          exact h3 i j hij (by omega)
    · have e : gat ok (k + 1) = gat ok k := if_neg c
      rw [e]
      exact ⟨h1, fun j hj => ⟨by have := (h2 j hj).1; omega, (h2 j hj).2⟩, h3⟩
theorem gat_full {ok : Nat → Bool} {k : Nat} (h : 6 ≤ (gat ok k).1) : ∀ d, gat ok (k + d) = gat ok k
  | 0 => rfl
  | d + 1 => by
    show (if (gat ok (k + d)).1 < 6 ∧ ok (k + d) = true then _ else gat ok (k + d)) = _
    rw [gat_full h d, if_neg (by omega)]
/-- the loop of both that gathers them -/
theorem gat_stop (ok : Nat → Bool) (T : Nat) : ∃ b, b ≤ T ∧ (b = T ∨ 6 ≤ (gat ok b).1) ∧ (∀ i, i < b → (gat ok i).1 < 6) ∧ gat ok b = gat ok T := by
  obtain ⟨b, h1, h2⟩ := pk_least (fun i => i = T ∨ 6 ≤ (gat ok i).1) ⟨T, Or.inl rfl⟩
  have hb : b ≤ T := by
    rcases Nat.lt_or_ge T b with c | c
    · exact absurd (Or.inl rfl) (h2 T c)
    · exact c
  refine ⟨b, hb, h1, fun i hi => ?_, ?_⟩
  · rcases Nat.lt_or_ge (gat ok i).1 6 with c | c
    · exact c
    · exact absurd (Or.inr c) (h2 i hi)
  · rcases h1 with e | e
    · rw [e]
    · have := gat_full e (T - b)
      rw [show b + (T - b) = T by omega] at this
      exact this.symm
/-- the number of a set of them, and the bits of its THINGS -/
def vS (be : Nat → Nat) (σ : Nat) : Nat → Nat
  | 0 => 0
  | m + 1 => vS be σ m + (if σ.testBit m then 2 ^ be m else 0)
theorem vS_lt {be : Nat → Nat} {n : Nat} (hi : ∀ i j, i < j → j < n → be i < be j) {σ : Nat} : ∀ m b, m ≤ n → (∀ j, j < m → be j < b) → vS be σ m < 2 ^ b
  | 0, b, _, _ => Nat.two_pow_pos b
  | m + 1, b, hm, hb => by
    have h1 := vS_lt (be := be) (σ := σ) hi m (be m) (by omega) (fun j hj => hi j m hj (by omega))
    have h2 : 2 ^ (be m + 1) ≤ 2 ^ b := Nat.pow_le_pow_right (by decide) (hb m (Nat.lt_succ_self m))
    have h3 : 2 ^ (be m + 1) = 2 ^ be m + 2 ^ be m := by rw [Nat.pow_succ]; omega
    show vS be σ m + (if σ.testBit m then 2 ^ be m else 0) < 2 ^ b
    split <;> omega
theorem mod_2s (x m : Nat) : x % 2 ^ (m + 1) = x % 2 ^ m + 2 ^ m * (x.testBit m).toNat := by
  rw [Nat.pow_succ, Nat.mod_mul, Nat.testBit_eq_decide_div_mod_eq]
  rcases Nat.mod_two_eq_zero_or_one (x / 2 ^ m) with e | e
  · rw [e]
    rfl
  · rw [e]
    rfl
theorem vS_mono {be : Nat → Nat} {n : Nat} (hi : ∀ i j, i < j → j < n → be i < be j) {σ τ : Nat} : ∀ m, m ≤ n → (σ % 2 ^ m = τ % 2 ^ m → vS be σ m = vS be τ m) ∧ (σ % 2 ^ m < τ % 2 ^ m → vS be σ m < vS be τ m)
  | 0, _ => ⟨fun _ => rfl, fun h => by rw [Nat.pow_zero, Nat.mod_one, Nat.mod_one] at h; omega⟩
  | m + 1, hm => by
    obtain ⟨h1, h2⟩ := vS_mono (be := be) hi (σ := σ) (τ := τ) m (by omega)
    have hs := vS_lt (be := be) (σ := σ) hi m (be m) (by omega) (fun j hj => hi j m hj (by omega))
    have ht := vS_lt (be := be) (σ := τ) hi m (be m) (by omega) (fun j hj => hi j m hj (by omega))
    have a1 := Nat.mod_lt σ (Nat.two_pow_pos m)
    have a2 := Nat.mod_lt τ (Nat.two_pow_pos m)
    show (_ → vS be σ m + (if σ.testBit m then 2 ^ be m else 0) = vS be τ m + (if τ.testBit m then 2 ^ be m else 0)) ∧ (_ → vS be σ m + (if σ.testBit m then 2 ^ be m else 0) < vS be τ m + (if τ.testBit m then 2 ^ be m else 0))
    rw [mod_2s, mod_2s]
    cases bs : σ.testBit m <;> cases bt : τ.testBit m
    · simp only [Bool.toNat_false, Nat.mul_zero, Nat.add_zero, Bool.false_eq_true, if_false]
      exact ⟨h1, h2⟩
    · simp only [Bool.toNat_false, Bool.toNat_true, Nat.mul_zero, Nat.add_zero, Nat.mul_one, Bool.false_eq_true, if_false, if_true]
      exact ⟨fun h => by omega, fun _ => by omega⟩
    · simp only [Bool.toNat_false, Bool.toNat_true, Nat.mul_zero, Nat.add_zero, Nat.mul_one, Bool.false_eq_true, if_false, if_true]
      exact ⟨fun h => by omega, fun h => by omega⟩
    · simp only [Bool.toNat_true, Nat.mul_one, if_true]
      exact ⟨fun h => by have := h1 (by omega); omega, fun h => by have := h2 (by omega); omega⟩
theorem bt_e : ∀ σ, σ < 64 → ∀ k, k < 6 → ((nI σ >>> (nI k &&& 31)) &&& 1 = 0 ↔ σ.testBit k = false) := by decide +kernel
theorem sl_e : ∀ k, k < 16 → (1 : Int32) <<< (nI k &&& 31) = nI (2 ^ k) := by decide +kernel

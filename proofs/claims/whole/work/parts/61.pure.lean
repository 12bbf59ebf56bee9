/-! pure: guards and loops -/
theorem gdi_nI {α : Type} {k n : Nat} {x : Option α} (h : k < n) (hn : n < 2 ^ 31) : gdi (nI k) n x = x := by
  unfold gdi
  exact if_neg (nI_in h hn)
theorem gdi_e {α : Type} {i : Int32} (k : Nat) {n : Nat} {x : Option α} (hi : i = nI k) (h : k < n) (hn : n < 2 ^ 31) : gdi i n x = x := by
  subst hi
  exact gdi_nI h hn
theorem gdz_e {α : Type} {y : Int32} {x : Option α} (h : ¬ y = 0) : gdz y x = x := by
  unfold gdz
  exact if_neg h
theorem gdb_e {α : Type} {y : Int32} {x : Option α} (h : y = 0 ∨ y = 1) : gdb y x = x := by
  unfold gdb
  exact if_pos h
theorem bnd_e {α β : Type} (x : α) (k : α → β) : bnd x k = k x := rfl
theorem bind_e {α β : Type} {x : Option α} {a : α} {k : α → Option β} (h : x = some a) : x.bind k = k a := by
  subst h
  rfl
/-- a loop that goes through S a, S (a + 1) .. S b and ends there -/
theorem itr_to {σ ρ : Type} {body : σ → Option (σ ⊕ ρ)} (S : Nat → σ) {r : ρ} (b : Nat) (he : body (S b) = some (.inr r)) : ∀ (d a n : Nat), a + d = b → d < n → (∀ i, a ≤ i → i < b → body (S i) = some (.inl (S (i + 1)))) → itr body n (S a) = some r := by
  intro d
  induction d with
  | zero =>
    intro a n hab hn hs
    obtain ⟨k, rfl⟩ : ∃ k, n = k + 1 := ⟨n - 1, by omega⟩
    have e : a = b := by omega
    subst e
    unfold itr
    rw [he]
  | succ d ih =>
    intro a n hab hn hs
    obtain ⟨k, rfl⟩ : ∃ k, n = k + 1 := ⟨n - 1, by omega⟩
    unfold itr
    rw [hs a (Nat.le_refl a) (by omega)]
    exact ih (a + 1) k (by omega) (by omega) (fun i h1 h2 => hs i (by omega) h2)
theorem itr_0 {σ ρ : Type} {body : σ → Option (σ ⊕ ρ)} (S : Nat → σ) {r : ρ} (b : Nat) {n : Nat} (hn : b < n) (he : body (S b) = some (.inr r)) (hs : ∀ i, i < b → body (S i) = some (.inl (S (i + 1)))) : itr body n (S 0) = some r :=
  itr_to S b he b 0 n (by omega) hn (fun i _ h => hs i h)
theorem nI_m1 {n : Nat} (h : n < 2 ^ 31) : ¬ nI n = -1 := by
  intro e
  have h1 := congrArg Int32.toInt e
  rw [nI_toInt h] at h1
  have h2 : ((-1 : Int32)).toInt = -1 := by decide
  rw [h2] at h1
  omega
theorem nI_nlt0 {n : Nat} (h : n < 2 ^ 31) : ¬ nI n < 0 := nI_pos h
theorem cl_nI {n : Nat} (h : n < 2 ^ 31) : (nI n).toNatClampNeg = n := nI_clamp h
/-! the tape: feed, end -/
def sh (i : Nat) : Int32 := if i = 0 then 24 else if i = 1 then 16 else if i = 2 then 8 else if i = 3 then 0 else -8
theorem sh_pos : ∀ i, i < 4 → ¬ sh i < 0 := by decide +kernel
theorem sh_s : ∀ i, i < 4 → sh i + (-8) = sh (i + 1) := by decide +kernel
theorem sh_4 : sh 4 < 0 := by decide +kernel
def by4 (w : Int32) (i : Nat) : Int32 := (w.toUInt32 >>> ((sh i).toUInt32 &&& Int32.toUInt32 31)).toInt32
/-- the tape behind i bytes of w laid from n on, as f makes them -/
def laid (f : Int32 → Int32) (w : Int32) (n : Nat) (t : Nat → Int32) : Nat → Nat → Int32
  | 0 => t
  | i + 1 => upd (laid f w n t i) (n + i) (f (by4 w i))
def fC (z : Int32) : Int32 := vp_nar .byte (z.toInt8.toInt32)
def fM (z : Int32) : Int32 := z &&& 255
theorem fCM (z : Int32) : fM z = fC z &&& 255 := by
  unfold fM fC
  rw [vp_nar_byte, fb_byte_twice, bp_b]
theorem p_append {N n : Nat} (hN : 4 < N) (hn : n + 4 ≤ 1240) (t : Nat → Int32) (w : Int32) : fX11_append N (nI n) t w = some (nI (n + 4), laid fC w n t 4) := by
  unfold fX11_append
  rw [show ((nI n, t, (24 : Int32)) : Int32 × (Nat → Int32) × Int32) = (fun i => (nI (n + i), laid fC w n t i, sh i)) 0 from rfl]
  rw [itr_0 (r := (nI (n + 4), laid fC w n t 4)) (fun i => (nI (n + i), laid fC w n t i, sh i)) 4 hN ?_ ?_]
  · rfl
  · show fX11_append_l3b N w (nI (n + 4)) (laid fC w n t 4) (sh 4) = _
    unfold fX11_append_l3b
    rw [if_pos sh_4]
  · intro i hi
    show fX11_append_l3b N w (nI (n + i)) (laid fC w n t i) (sh i) = _
    unfold fX11_append_l3b
    rw [if_neg (sh_pos i hi), if_neg (show ¬ (1240 : Int32) ≤ nI (n + i) from nI_ge (a := n + i) (b := 1240) (by omega) (by decide)), gdi_nI (by omega) (by decide)]
    show some (Sum.inl (nI (n + i) + 1, upd (laid fC w n t i) (nI (n + i)).toNatClampNeg (fC (by4 w i)), sh i + (-8))) = _
    rw [nI_1, nI_clamp (by omega), sh_s i hi]
    rfl
theorem p_come {N n : Nat} (hN : 4 < N) (hn : n + 4 ≤ 1240) (t : Nat → Int32) (w : Int32) : fX12_come N (nI n) t w = some (nI (n + 4), laid fM w n t 4) := by
  unfold fX12_come
  rw [show ((nI n, t, (24 : Int32)) : Int32 × (Nat → Int32) × Int32) = (fun i => (nI (n + i), laid fM w n t i, sh i)) 0 from rfl]
  rw [itr_0 (r := (nI (n + 4), laid fM w n t 4)) (fun i => (nI (n + i), laid fM w n t i, sh i)) 4 hN ?_ ?_]
  · rfl
  · show fX12_come_l3b N w (nI (n + 4)) (laid fM w n t 4) (sh 4) = _
    unfold fX12_come_l3b
    rw [if_pos sh_4]
  · intro i hi
    show fX12_come_l3b N w (nI (n + i)) (laid fM w n t i) (sh i) = _
    unfold fX12_come_l3b
    rw [if_neg (sh_pos i hi), gdi_nI (by omega) (by decide)]
    show some (Sum.inl (nI (n + i) + 1, upd (laid fM w n t i) (nI (n + i)).toNatClampNeg (fM (by4 w i)), sh i + (-8))) = _
    rw [nI_1, nI_clamp (by omega), sh_s i hi]
    rfl
theorem laid_CM {w : Int32} {n : Nat} {t u : Nat → Int32} (h : ∀ j, j < 1240 → u j = t j &&& 255) : ∀ i j, j < 1240 → laid fM w n u i j = laid fC w n t i j &&& 255 := by
  intro i
  induction i with
  | zero => exact h
  | succ i ih =>
    intro j hj
    show upd (laid fM w n u i) (n + i) (fM (by4 w i)) j = upd (laid fC w n t i) (n + i) (fC (by4 w i)) j &&& 255
    by_cases e : j = n + i
    · subst e
      rw [pk_us, pk_us, fCM]
    · rw [pk_un e, pk_un e]
      exact ih j hj
/-- both tapes hold the same bytes -/
def IT (tl : Int32) (t : Nat → Int32) (ml : Int32) (u : Nat → Int32) : Prop := ∃ n, n ≤ 1240 ∧ tl = nI n ∧ ml = nI n ∧ ∀ j, j < 1240 → u j = t j &&& 255
theorem p_feed {N : Nat} (hN : 4 < N) {tl ml : Int32} {t u : Nat → Int32} (h : IT tl t ml u) (th a b c d e : Int32) : ∃ (tl1 : Int32) (t1 : Nat → Int32) (ml1 : Int32) (u1 : Nat → Int32) (r : Int32), fX11_feed N tl t a b c d e = some (tl1, t1, r) ∧ fX12_feed N th ml u a b c d e = some (0, ml1, u1, r) ∧ IT tl1 t1 ml1 u1 := by
  obtain ⟨n, hn, rfl, rfl, hj⟩ := h
  by_cases h20 : n + 20 ≤ 1240
  · have hc : nI n + 20 ≤ (1240 : Int32) := by
      rw [show nI n + (20 : Int32) = nI (n + 20) from nI_add n 20]
      exact nI_le (b := 1240) h20 (by decide)
    refine ⟨_, _, _, _, nI (n + 4 + 4 + 4 + 4 + 4), ?_, ?_, n + 4 + 4 + 4 + 4 + 4, by omega, rfl, rfl, laid_CM (w := e) (n := n + 4 + 4 + 4 + 4) (laid_CM (w := d) (n := n + 4 + 4 + 4) (laid_CM (w := c) (n := n + 4 + 4) (laid_CM (w := b) (n := n + 4) (laid_CM (w := a) (n := n) hj 4) 4) 4) 4) 4⟩
    · unfold fX11_feed
      rw [if_pos hc, bind_e (p_append hN (by omega) _ _), bind_e (p_append hN (by omega) _ _), bind_e (p_append hN (by omega) _ _), bind_e (p_append hN (by omega) _ _), bind_e (p_append hN (by omega) _ _)]
    · unfold fX12_feed
      rw [if_pos hc, bind_e (p_come hN (by omega) _ _), bind_e (p_come hN (by omega) _ _), bind_e (p_come hN (by omega) _ _), bind_e (p_come hN (by omega) _ _), bind_e (p_come hN (by omega) _ _)]
  · have hc : ¬ nI n + 20 ≤ (1240 : Int32) := by
      rw [show nI n + (20 : Int32) = nI (n + 20) from nI_add n 20]
      exact nI_ge (a := 1240) (by omega) (by omega)
    refine ⟨_, _, _, _, -1, ?_, ?_, n, hn, rfl, rfl, hj⟩
    · unfold fX11_feed
      rw [if_neg hc]
    · unfold fX12_feed
      rw [if_neg hc]
theorem p_end {tl ml : Int32} {t u : Nat → Int32} (h : IT tl t ml u) (th x : Int32) : ∃ (tl1 ml1 r : Int32), fX11_end tl x = some (tl1, r) ∧ fX12_end th ml x = some (0, ml1, r) ∧ IT tl1 t ml1 u := by
  obtain ⟨n, hn, rfl, rfl, hj⟩ := h
  by_cases h0 : x < 0
  · refine ⟨nI n, nI n, 0, ?_, ?_, n, hn, rfl, rfl, hj⟩
    · unfold fX11_end
      rw [if_pos h0]
    · unfold fX12_end
      rw [if_pos h0]
  · by_cases h1 : x ≤ nI n
    · obtain ⟨k, hk, rfl⟩ := nI_of h0
      have hkn : k ≤ n := (nI_leI hk (by omega)).mp h1
      refine ⟨nI k, nI k, 1, ?_, ?_, k, by omega, rfl, rfl, hj⟩
      · unfold fX11_end
        rw [if_neg h0, if_pos h1]
      · unfold fX12_end
        rw [if_neg h0, if_pos h1]
    · refine ⟨nI n, nI n, 0, ?_, ?_, n, hn, rfl, rfl, hj⟩
      · unfold fX11_end
        rw [if_neg h0, if_neg h1]
      · unfold fX12_end
        rw [if_neg h0, if_neg h1]

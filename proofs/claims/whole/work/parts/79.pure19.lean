/-! FIT: what is needed, as numbers; it only grows -/
theorem itr_inv {σ ρ : Type} {body : σ → Option (σ ⊕ ρ)} (I : Nat → σ → Prop) (Q : ρ → Prop) {b n : Nat} {s : σ} (hn : b < n) (h0 : I 0 s) (hs : ∀ i s, i < b → I i s → ∃ s', body s = some (.inl s') ∧ I (i + 1) s') (he : ∀ s, I b s → ∃ r, body s = some (.inr r) ∧ Q r) : ∃ r, itr body n s = some r ∧ Q r := by
  have key : ∀ (d i n : Nat) (s : σ), i + d = b → d < n → I i s → ∃ r, itr body n s = some r ∧ Q r := by
    intro d
    induction d with
    | zero =>
      intro i n s hi hn h
      obtain ⟨k, rfl⟩ : ∃ k, n = k + 1 := ⟨n - 1, by omega⟩
      have e : i = b := by omega
      subst e
      obtain ⟨r, e1, e2⟩ := he s h
      refine ⟨r, ?_, e2⟩
      unfold itr
      rw [e1]
    | succ d ih =>
      intro i n s hi hn h
      obtain ⟨k, rfl⟩ : ∃ k, n = k + 1 := ⟨n - 1, by omega⟩
      obtain ⟨s', e1, e2⟩ := hs i s (by omega) h
      unfold itr
      rw [e1]
      exact ih (i + 1) k s' (by omega) (by omega) e2
  exact key b 0 n s (by omega) hn h0
/-- what t hears, as a number, by the loudness l and the sharpness s -/
def hL (dg vo : Nat → Int32) (rc : Nat → Int64) (s l : Nat → Nat) (t n : Nat) : Nat := fb_sm (fun k => if k ≠ t ∧ tch dg vo rc t k = true then rch (l k) (s k) (gp (dg k).toNatClampNeg (dg t).toNatClampNeg) else 0) n
theorem rch_le (l s g : Nat) : rch l s g ≤ 100 * l := by
  unfold rch
  have h0 : 1000 * l / (10 + s * g) ≤ 1000 * l / 10 := Nat.div_le_div_left (Nat.le_add_right 10 (s * g)) (by decide)
  omega
theorem rch_mono {l m s g : Nat} (h : l ≤ m) : rch l s g ≤ rch m s g := Nat.div_le_div_right (Nat.mul_le_mul (Nat.le_refl _) h)
theorem hL_le {dg vo : Nat → Int32} {rc : Nat → Int64} {s l : Nat → Nat} {t n : Nat} (h : ∀ k, k < n → l k ≤ 999) : hL dg vo rc s l t n ≤ n * 99900 := by
  refine fb_sm_bound (fun k hk => ?_)
  have h1 := rch_le (l k) (s k) (gp (dg k).toNatClampNeg (dg t).toNatClampNeg)
  have h2 := h k hk
  split <;> omega
theorem hL_mono {dg vo : Nat → Int32} {rc : Nat → Int64} {s l m : Nat → Nat} {t n : Nat} (h : ∀ k, k < n → l k ≤ m k) : hL dg vo rc s l t n ≤ hL dg vo rc s m t n := by
  refine fb_sm_le (fun k hk => ?_)
  split
  · exact rch_mono (h k hk)
  · exact Nat.le_refl _
theorem smH_hL {dg vo lo sh : Nat → Int32} {rc : Nat → Int64} {s l : Nat → Nat} {t : Nat} : ∀ {n : Nat}, (∀ k, k < n → ¬ dg k = -1 → (lo k = nI (l k) ∧ l k < 2 ^ 31) ∧ sh k = nI (s k) ∧ s k < 2 ^ 31) → smH dg vo lo sh rc t n = nI (hL dg vo rc s l t n)
  | 0, _ => rfl
  | n + 1, h => by
    show smH dg vo lo sh rc t n + (if n ≠ t ∧ tch dg vo rc t n = true then rv dg lo sh n t else 0) = nI (hL dg vo rc s l t n + (if n ≠ t ∧ tch dg vo rc t n = true then rch (l n) (s n) (gp (dg n).toNatClampNeg (dg t).toNatClampNeg) else 0))
    rw [smH_hL (fun k hk => h k (by omega)), ← nI_add]
    by_cases c : n ≠ t ∧ tch dg vo rc t n = true
    · rw [if_pos c, if_pos c]
      obtain ⟨⟨e1, b1⟩, e2, b2⟩ := h n (Nat.lt_succ_self n) (tch_up c.2).2
      unfold rv
      rw [e1, e2, nI_clamp b1, nI_clamp b2]
    · rw [if_neg c, if_neg c]
      rfl
/-- stands and is not DEAD -/
def liv (dg rF : Nat → Int32) (t : Nat) : Bool := decide (¬ (dg t = -1 ∨ ¬ rF (14 * t + 8) = -1))
theorem liv_iff {dg rF : Nat → Int32} {t : Nat} : liv dg rF t = true ↔ (¬ dg t = -1 ∧ rF (14 * t + 8) = -1) := by
  unfold liv
  rw [decide_eq_true_eq]
  constructor
  · intro h
    refine ⟨fun e => h (Or.inl e), ?_⟩
    by_cases c : rF (14 * t + 8) = -1
    · exact c
    · exact absurd (Or.inr c) h
  · intro h q
    exact q.elim h.1 (fun z => z h.2)
def sNat (rF : Nat → Int32) (k : Nat) : Nat := (rF (14 * k + 5)).toNatClampNeg
def bNat (rF : Nat → Int32) (k : Nat) : Nat := (rF (14 * k + 6)).toNatClampNeg
/-- what t needs, by the loudness l of all -/
def ned (T : Nat) (dg vo rF : Nat → Int32) (rc : Nat → Int64) (l : Nat → Nat) (t : Nat) : Nat := if liv dg rF t = true then max 1 ((bNat rF t + 10 * hL dg vo rc (sNat rF) l t T + 19) / 20) else l t
theorem ned_mono {T : Nat} {dg vo rF : Nat → Int32} {rc : Nat → Int64} {l m : Nat → Nat} (h : ∀ k, k < T → l k ≤ m k) : ∀ k, k < T → ned T dg vo rF rc l k ≤ ned T dg vo rF rc m k := by
  intro k hk
  unfold ned
  split
  · have h1 := hL_mono (dg := dg) (vo := vo) (rc := rc) (s := sNat rF) (t := k) h
    have h2 : (bNat rF k + 10 * hL dg vo rc (sNat rF) l k T + 19) / 20 ≤ (bNat rF k + 10 * hL dg vo rc (sNat rF) m k T + 19) / 20 := Nat.div_le_div_right (by omega)
    omega
  · exact h k hk
/-- the loudness behind i rounds -/
def lit (T : Nat) (dg vo rF : Nat → Int32) (rc : Nat → Int64) (l : Nat → Nat) : Nat → Nat → Nat
  | 0 => l
  | i + 1 => ned T dg vo rF rc (lit T dg vo rF rc l i)
theorem lit_up {T : Nat} {dg vo rF : Nat → Int32} {rc : Nat → Int64} {l : Nat → Nat} (h : ∀ k, k < T → l k ≤ ned T dg vo rF rc l k) : ∀ i k, k < T → lit T dg vo rF rc l i k ≤ lit T dg vo rF rc l (i + 1) k
  | 0, k, hk => h k hk
  | i + 1, k, hk => ned_mono (lit_up h i) k hk
/-- one needs too much behind i rounds, or nothing changes any more -/
def stp (T : Nat) (dg vo rF : Nat → Int32) (rc : Nat → Int64) (l : Nat → Nat) (i : Nat) : Prop := (∃ k, k < T ∧ 999 < lit T dg vo rF rc l (i + 1) k) ∨ ∀ k, k < T → lit T dg vo rF rc l (i + 1) k = lit T dg vo rF rc l i k
theorem sm_lt {f g : Nat → Nat} : ∀ {n : Nat}, (∀ k, k < n → f k ≤ g k) → (∃ k, k < n ∧ f k ≠ g k) → fb_sm f n + 1 ≤ fb_sm g n
  | 0, _, ⟨k, hk, _⟩ => absurd hk (Nat.not_lt_zero k)
  | n + 1, h, ⟨k, hk, hne⟩ => by
    have h1 : fb_sm f n ≤ fb_sm g n := fb_sm_le (fun j hj => h j (by omega))
    have h2 := h n (Nat.lt_succ_self n)
    show fb_sm f n + f n + 1 ≤ fb_sm g n + g n
    rcases Nat.lt_or_ge k n with q | q
    · have h3 := sm_lt (f := f) (g := g) (n := n) (fun j hj => h j (by omega)) ⟨k, q, hne⟩
      omega
    · have e : k = n := by omega
      subst e
      omega
theorem stp_ex {T : Nat} {dg vo rF : Nat → Int32} {rc : Nat → Int64} {l : Nat → Nat} (hT : T ≤ 16) (h : ∀ k, k < T → l k ≤ ned T dg vo rF rc l k) (h9 : ∀ k, k < T → l k ≤ 999) : ∃ b, b ≤ 15984 ∧ stp T dg vo rF rc l b ∧ ∀ i, i < b → ¬ stp T dg vo rF rc l i := by
  have hex : ∃ i, i ≤ 15984 ∧ stp T dg vo rF rc l i := by
    by_cases q : ∃ i, i ≤ 15984 ∧ stp T dg vo rF rc l i
    · exact q
    · exfalso
      have hno : ∀ i, i ≤ 15984 → ¬ stp T dg vo rF rc l i := fun i hi z => q ⟨i, hi, z⟩
      have hb : ∀ i, i ≤ 15985 → ∀ k, k < T → lit T dg vo rF rc l i k ≤ 999 := by
        intro i hi k hk
        cases i with
        | zero => exact h9 k hk
        | succ i =>
          rcases Nat.lt_or_ge 999 (lit T dg vo rF rc l (i + 1) k) with c | c
          · exact absurd (Or.inl ⟨k, hk, c⟩) (hno i (by omega))
          · exact c
      have hs : ∀ i, i ≤ 15985 → i ≤ fb_sm (lit T dg vo rF rc l i) T := by
        intro i
        induction i with
        | zero => intro _; exact Nat.zero_le _
        | succ i ih =>
          intro hi
          have h1 := ih (by omega)
          have h2 : ∃ k, k < T ∧ lit T dg vo rF rc l i k ≠ lit T dg vo rF rc l (i + 1) k := by
            by_cases w : ∃ k, k < T ∧ lit T dg vo rF rc l i k ≠ lit T dg vo rF rc l (i + 1) k
            · exact w
            · refine absurd (Or.inr (fun k hk => ?_)) (hno i (by omega))
              by_cases e : lit T dg vo rF rc l (i + 1) k = lit T dg vo rF rc l i k
              · exact e
              · exact absurd ⟨k, hk, Ne.symm e⟩ w
          have h3 := sm_lt (lit_up h i) h2
          omega
      have h1 := hs 15985 (Nat.le_refl _)
      have h2 := fb_sm_bound (hb 15985 (Nat.le_refl _))
      have h3 : T * 999 ≤ 16 * 999 := Nat.mul_le_mul hT (Nat.le_refl _)
      omega
  obtain ⟨b, ⟨h1, h2⟩, h3⟩ := pk_least _ hex
  exact ⟨b, h1, h2, fun i hi z => h3 i hi ⟨by omega, z⟩⟩
theorem lit_9 {T : Nat} {dg vo rF : Nat → Int32} {rc : Nat → Int64} {l : Nat → Nat} {b : Nat} (h9 : ∀ k, k < T → l k ≤ 999) (hlow : ∀ i, i < b → ¬ stp T dg vo rF rc l i) : ∀ i, i ≤ b → ∀ k, k < T → lit T dg vo rF rc l i k ≤ 999 := by
  intro i hi k hk
  cases i with
  | zero => exact h9 k hk
  | succ i =>
    rcases Nat.lt_or_ge 999 (lit T dg vo rF rc l (i + 1) k) with c | c
    · exact absurd (Or.inl ⟨k, hk, c⟩) (hlow i (by omega))
    · exact c

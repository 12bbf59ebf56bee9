/-! the ties at the start, and the loop's bound -/
theorem lay0 {N : Nat} (hN : 16 < N) : ∃ now1 : Nat → Int32, LY N 0 (fun _ => 0) now1 ∧ (∀ j, j < 340 → now1 j = if j = 3 then 20 else 0) ∧ ∀ t, t < 16 → now1 (340 + 2 * t) = -1 := by
  have key : ∃ r : Nat → Int32, itr (fun z => fX12_lay_l23b N (1 : Int32) z.1 z.2) N (upd (fun _ => 0) 3 (20 : Int32), (0 : Int32)) = some r ∧ ((∀ j, j < 340 → r j = if j = 3 then 20 else 0) ∧ ∀ t, t < 16 → r (340 + 2 * t) = -1) := by
    refine itr_inv (fun i (z : (Nat → Int32) × Int32) => z.2 = nI i ∧ (∀ j, j < 340 → z.1 j = if j = 3 then 20 else 0) ∧ ∀ t, t < i → z.1 (340 + 2 * t) = -1) (fun (r : Nat → Int32) => (∀ j, j < 340 → r j = if j = 3 then 20 else 0) ∧ ∀ t, t < 16 → r (340 + 2 * t) = -1) (b := 16) hN ?_ ?_ ?_
    · exact ⟨rfl, fun j _ => rfl, fun t ht => absurd ht (Nat.not_lt_zero t)⟩
    · intro i z hi h
      obtain ⟨f, x⟩ := z
      obtain ⟨h1, h2, h3⟩ := h
      dsimp only at h1 h2 h3
      subst h1
      refine ⟨(upd f (340 + 2 * i) (-1), nI (i + 1)), ?_, rfl, fun j hj => ?_, fun t ht => ?_⟩
      · unfold fX12_lay_l23b
        rw [if_neg (show ¬ (16 : Int32) ≤ nI i from nI_ge (b := 16) hi (by decide)), i340, gdi_nI (by omega) (by decide), nI_clamp (by omega), bnd_e, bnd_e, nI_1]
      · show upd f (340 + 2 * i) (-1) j = _
        rw [pk_un (by omega)]
        exact h2 j hj
      · show upd f (340 + 2 * i) (-1) (340 + 2 * t) = _
        by_cases c : t = i
        · rw [c, pk_us]
        · rw [pk_un (by omega)]
          exact h3 t (by omega)
    · intro z h
      obtain ⟨f, x⟩ := z
      obtain ⟨h1, h2, h3⟩ := h
      dsimp only at h1 h2 h3
      subst h1
      refine ⟨f, ?_, h2, h3⟩
      unfold fX12_lay_l23b
      rw [if_pos (show (16 : Int32) ≤ nI 16 by decide)]
  obtain ⟨r, e1, e2, e3⟩ := key
  refine ⟨r, ?_, e2, e3⟩
  unfold LY fX12_lay
  rw [if_pos rfl, gdi_e (i := 3) (n := 380) 3 rfl (by decide) (by decide), bnd_e]
  have e4 : ((3 : Int32).toNatClampNeg) = 3 := by decide
  rw [e4, bind_e e1]
theorem TR_0 {N : Nat} (hN : 70000 < N) : TR N 0 0 0 20 0 (fun _ => 0) (fun _ => 0) (fun _ => 0) (fl 16 (-1)) (fl 16 (-1)) (fun _ => 0) (fun _ => 0) (fun _ => 0) (fun _ => 0) 0 (fun _ => 0) (fun _ => 0) := by
  obtain ⟨now1, h1, h2, h3⟩ := lay0 (N := N) (by omega)
  refine ⟨0, 0, 0, 20, now1, h1, ⟨⟨by omega, by omega, by omega, by omega⟩, ⟨rfl, rfl, rfl, rfl⟩, ⟨?_, ?_, ?_, ?_, ?_, Or.inl rfl⟩, ?_, ?_, ?_⟩, ?_, ?_, ?_, ?_, ?_⟩
  · rw [h2 0 (by omega)]; rfl
  · rw [h2 1 (by omega)]; rfl
  · rw [h2 2 (by omega)]; rfl
  · rw [h2 3 (by omega)]; rfl
  · rw [h2 4 (by omega)]; rfl
  · intro k hk; exact absurd hk (Nat.not_lt_zero k)
  · intro k hk; exact absurd hk (Nat.not_lt_zero k)
  · intro k hk; exact absurd hk (Nat.not_lt_zero k)
  · intro k hk; exact absurd hk (Nat.not_lt_zero k)
  · intro t ht
    have e : fl 16 (-1) t = -1 := if_pos ht
    exact ⟨by rw [e, h3 t ht], Or.inl e⟩
  · intro k hk; exact absurd hk (Nat.not_lt_zero k)
  · intro k hk; exact absurd hk (Nat.not_lt_zero k)
  · intro k hk; exact absurd hk (Nat.not_lt_zero k)
theorem IT_start : IT 0 (fun _ => 0) 0 (fun _ => 0) := ⟨0, by omega, rfl, rfl, fun j _ => (by decide : (0 : Int32) = 0 &&& 255)⟩
theorem IB_start : IB (fun _ => 0) := fun j _ => ⟨0, by omega, (by decide : (0 : Int32) = (nI 0).toInt8.toInt32)⟩
theorem IO_start : IO 0 (fun _ => 0) 0 (fun _ => 0) := ⟨0, by omega, rfl, rfl, fun k hk => absurd hk (Nat.not_lt_zero k)⟩
theorem IL_start : IL (fl 16 (-1)) 0 (fun _ => 0) := ⟨0, by omega, rfl, fun k hk => by rw [if_neg (Nat.not_lt_zero k)]; exact if_pos hk⟩
theorem IK_start {i : Nat} {rl rt rp ra rf : Int32} {rc kg : Nat → Int64} {rP rF dg vo lo sh he tn kept : Nat → Int32} : IK i 0 0 rl rt rp ra rf rc rP rF dg vo lo sh he tn kept kg := Or.inl ⟨rfl, rfl⟩
theorem lim_6 {L i : Nat} (hL : L ≤ 3072) (hi : i ≤ 4000) : nI L - 6 < nI i ↔ L < i + 6 := by
  by_cases c : 6 ≤ L
  · obtain ⟨k, rfl⟩ : ∃ k, L = k + 6 := ⟨L - 6, by omega⟩
    have e : nI (k + 6) - 6 = nI k := by
      rw [show nI (k + 6) = nI k + 6 from (nI_add k 6).symm]
      exact Int32.add_sub_cancel _ _
    rw [e, nI_ltI (by omega) (by omega)]
    omega
  · refine ⟨fun _ => by omega, fun _ => ?_⟩
    have h0 : (0 : Int32) ≤ nI i := (nI_leI (a := 0) (by decide) (by omega)).mpr (Nat.zero_le i)
    refine Int32.lt_of_lt_of_le ?_ h0
    have : L = 0 ∨ L = 1 ∨ L = 2 ∨ L = 3 ∨ L = 4 ∨ L = 5 := by omega
    rcases this with rfl | rfl | rfl | rfl | rfl | rfl <;> decide
theorem in_k {L i k : Nat} {kv : Int32} (hL : L ≤ 3072) (hi : i + 6 ≤ L) (hk : k < 6) (e : kv = nI k) : vp_in (nI i + kv) L := by
  rw [e, nI_add]
  exact vp_in_nI (by omega) (by omega)

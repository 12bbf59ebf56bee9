/-! SHORTEST: both sort the row alike -/
def ins (u : Nat → Nat) (x : Nat) : Nat → Nat
  | 0 => 0
  | i + 1 => if u i ≤ x then i + 1 else ins u x i
theorem ins_le (u : Nat → Nat) (x : Nat) : ∀ i, ins u x i ≤ i
  | 0 => Nat.le_refl 0
  | i + 1 => by
    show (if u i ≤ x then i + 1 else ins u x i) ≤ i + 1
    have := ins_le u x i
    split <;> omega
theorem ins_gt {u : Nat → Nat} {x : Nat} : ∀ {i j : Nat}, ins u x i ≤ j → j < i → x < u j
  | 0, j, _, h => absurd h (Nat.not_lt_zero j)
  | i + 1, j, h1, h2 => by
    have h1 : (if u i ≤ x then i + 1 else ins u x i) ≤ j := h1
    by_cases c : u i ≤ x
    · rw [if_pos c] at h1
      omega
    · rw [if_neg c] at h1
      by_cases q : j = i
      · rw [q]
        omega
      · exact ins_gt h1 (by omega)
theorem ins_at {u : Nat → Nat} {x : Nat} : ∀ {i : Nat}, 0 < ins u x i → u (ins u x i - 1) ≤ x
  | 0, h => absurd h (Nat.lt_irrefl 0)
  | i + 1, h => by
    by_cases c : u i ≤ x
    · have e : ins u x (i + 1) = i + 1 := if_pos c
      rw [e]
      exact c
    · have e : ins u x (i + 1) = ins u x i := if_neg c
      rw [e] at h ⊢
      exact ins_at h
def isr (u : Nat → Nat) (x i : Nat) : Nat → Nat := fun j => if j < ins u x i then u j else if j = ins u x i then x else u (j - 1)
def srt (w : Nat → Nat) : Nat → Nat → Nat
  | 0 => fun _ => 0
  | i + 1 => isr (srt w i) (w i) i
theorem srt_A {w : Nat → Nat} : ∀ {i j : Nat}, j < i → ∃ k, k < i ∧ srt w i k = w j
  | 0, j, h => absurd h (Nat.not_lt_zero j)
  | i + 1, j, h => by
    have hp := ins_le (srt w i) (w i) i
    show ∃ k, k < i + 1 ∧ (if k < ins (srt w i) (w i) i then srt w i k else if k = ins (srt w i) (w i) i then w i else srt w i (k - 1)) = w j
    by_cases q : j = i
    · exact ⟨ins (srt w i) (w i) i, by omega, by rw [if_neg (Nat.lt_irrefl _), if_pos rfl, q]⟩
    · obtain ⟨k, hk, e⟩ := srt_A (w := w) (i := i) (j := j) (by omega)
      by_cases c : k < ins (srt w i) (w i) i
      · exact ⟨k, by omega, by rw [if_pos c, e]⟩
      · exact ⟨k + 1, by omega, by rw [if_neg (by omega), if_neg (by omega), show k + 1 - 1 = k by omega, e]⟩
theorem srt_B {w : Nat → Nat} : ∀ {i k : Nat}, k < i → ∃ j, j < i ∧ srt w i k = w j
  | 0, k, h => absurd h (Nat.not_lt_zero k)
  | i + 1, k, h => by
    have hp := ins_le (srt w i) (w i) i
    show ∃ j, j < i + 1 ∧ (if k < ins (srt w i) (w i) i then srt w i k else if k = ins (srt w i) (w i) i then w i else srt w i (k - 1)) = w j
    by_cases c : k < ins (srt w i) (w i) i
    · obtain ⟨j, hj, e⟩ := srt_B (w := w) (i := i) (k := k) (by omega)
      exact ⟨j, by omega, by rw [if_pos c, e]⟩
    · by_cases c2 : k = ins (srt w i) (w i) i
      · exact ⟨i, by omega, by rw [if_neg c, if_pos c2]⟩
      · obtain ⟨j, hj, e⟩ := srt_B (w := w) (i := i) (k := k - 1) (by omega)
        exact ⟨j, by omega, by rw [if_neg c, if_neg c2, e]⟩
theorem srt_C {w : Nat → Nat} : ∀ {i : Nat}, (∀ a b, a < b → b < i → w a ≠ w b) → ∀ a b, a < b → b < i → srt w i a ≠ srt w i b
  | 0, _, a, b, _, h => absurd h (Nat.not_lt_zero b)
  | i + 1, hw, a, b, hab, hb => by
    have ih := srt_C (w := w) (i := i) (fun a b h1 h2 => hw a b h1 (by omega))
    have hx : ∀ k, k < i → srt w i k ≠ w i := by
      intro k hk e
      obtain ⟨j, hj, e2⟩ := srt_B (w := w) hk
      exact hw j i hj (Nat.lt_succ_self i) (e2.symm.trans e)
    have hp := ins_le (srt w i) (w i) i
    show (if a < ins (srt w i) (w i) i then srt w i a else if a = ins (srt w i) (w i) i then w i else srt w i (a - 1)) ≠ (if b < ins (srt w i) (w i) i then srt w i b else if b = ins (srt w i) (w i) i then w i else srt w i (b - 1))
    by_cases c : a < ins (srt w i) (w i) i
    · rw [if_pos c]
      by_cases d : b < ins (srt w i) (w i) i
      · rw [if_pos d]
        exact ih a b hab (by omega)
      · rw [if_neg d]
        by_cases e : b = ins (srt w i) (w i) i
        · rw [if_pos e]
          exact hx a (by omega)
        · rw [if_neg e]
          exact ih a (b - 1) (by omega) (by omega)
    · rw [if_neg c, if_neg (show ¬ b < ins (srt w i) (w i) i by omega), if_neg (show ¬ b = ins (srt w i) (w i) i by omega)]
      by_cases d : a = ins (srt w i) (w i) i
      · rw [if_pos d]
        exact fun e => hx (b - 1) (by omega) e.symm
      · rw [if_neg d]
        exact ih (a - 1) (b - 1) (by omega) (by omega)
theorem insLoop {body : (Nat → Int32) × Int32 → Option (((Nat → Int32) × Int32) ⊕ ((Nat → Int32) × Int32))} {N i x : Nat} {f : Nat → Int32} {u : Nat → Nat} (hN : 16 < N) (hi : i ≤ 12) (h0 : ∀ g, body (g, nI 0) = some (.inr (g, nI 0))) (hs : ∀ g m, 1 ≤ m → m ≤ i → body (g, nI m) = some (if g (m - 1) ≤ nI x then .inr (g, nI m) else .inl (upd g m (g (m - 1)), nI (m - 1)))) (hu : ∀ j, j < i → f j = nI (u j) ∧ u j < 256) (hx : x < 256) : ∃ r, itr body N (f, nI i) = some r ∧ r.2 = nI (ins u x i) ∧ (∀ j, j < ins u x i → r.1 j = f j) ∧ (∀ j, ins u x i ≤ j → j < i → r.1 (j + 1) = f j) ∧ ∀ j, i < j → r.1 j = f j := by
  have hp := ins_le u x i
  refine itr_inv (fun (t : Nat) (z : (Nat → Int32) × Int32) => z.2 = nI (i - t) ∧ (∀ j, j < i - t → z.1 j = f j) ∧ (∀ j, i - t ≤ j → j < i → z.1 (j + 1) = f j) ∧ ∀ j, i < j → z.1 j = f j) (fun (r : (Nat → Int32) × Int32) => r.2 = nI (ins u x i) ∧ (∀ j, j < ins u x i → r.1 j = f j) ∧ (∀ j, ins u x i ≤ j → j < i → r.1 (j + 1) = f j) ∧ ∀ j, i < j → r.1 j = f j) (b := i - ins u x i) (by omega) ⟨rfl, fun j _ => rfl, fun j h1 h2 => absurd h2 (by omega), fun j _ => rfl⟩ ?_ ?_
  · rintro t ⟨g, v⟩ ht ⟨hv, h1, h2, h3⟩
    have hv : v = nI (i - t) := hv
    subst hv
    have h1 : ∀ j, j < i - t → g j = f j := h1
    have h2 : ∀ j, i - t ≤ j → j < i → g (j + 1) = f j := h2
    have h3 : ∀ j, i < j → g j = f j := h3
    have hgt : x < u (i - t - 1) := ins_gt (i := i) (by omega) (by omega)
    obtain ⟨e1, e2⟩ := hu (i - t - 1) (by omega)
    refine ⟨(upd g (i - t) (g (i - t - 1)), nI (i - (t + 1))), ?_, rfl, fun j hj => ?_, fun j hj1 hj2 => ?_, fun j hj => ?_⟩
    · rw [hs g (i - t) (by omega) (by omega), if_neg (by rw [h1 _ (by omega), e1]; exact nI_ge hgt (by omega)), show i - t - 1 = i - (t + 1) by omega]
    · show upd g (i - t) _ j = f j
      rw [pk_un (by omega)]
      exact h1 j (by omega)
    · show upd g (i - t) _ (j + 1) = f j
      by_cases q : j + 1 = i - t
      · rw [q, pk_us, h1 _ (by omega)]
        exact congrArg f (by omega)
      · rw [pk_un q]
        exact h2 j (by omega) hj2
    · show upd g (i - t) _ j = f j
      rw [pk_un (by omega)]
      exact h3 j hj
  · rintro ⟨g, v⟩ ⟨hv, h1, h2, h3⟩
    have hm : i - (i - ins u x i) = ins u x i := by omega
    have hv : v = nI (i - (i - ins u x i)) := hv
    rw [hm] at hv
    subst hv
    have h1 : ∀ j, j < i - (i - ins u x i) → g j = f j := h1
    have h2 : ∀ j, i - (i - ins u x i) ≤ j → j < i → g (j + 1) = f j := h2
    rw [hm] at h1 h2
    refine ⟨(g, nI (ins u x i)), ?_, rfl, h1, h2, h3⟩
    by_cases c : ins u x i = 0
    · rw [c]
      exact h0 g
    · obtain ⟨e1, e2⟩ := hu (ins u x i - 1) (by omega)
      rw [hs g _ (by omega) hp, if_pos (by rw [h1 _ (by omega), e1]; exact nI_le (ins_at (by omega)) (by omega))]
/-- one more laid in -/
theorem insDone {r : (Nat → Int32) × Int32} {f : Nat → Int32} {u : Nat → Nat} {i x : Nat} (hu : ∀ j, j < i → f j = nI (u j) ∧ u j < 256) (h1 : ∀ j, j < ins u x i → r.1 j = f j) (h2 : ∀ j, ins u x i ≤ j → j < i → r.1 (j + 1) = f j) : ∀ j, j < i + 1 → upd r.1 (ins u x i) (nI x) j = nI (isr u x i j) := by
  intro j hj
  have hp := ins_le u x i
  show _ = nI (if j < ins u x i then u j else if j = ins u x i then x else u (j - 1))
  by_cases c : j < ins u x i
  · rw [if_pos c, pk_un (by omega), h1 j c, (hu j (by omega)).1]
  · rw [if_neg c]
    by_cases d : j = ins u x i
    · rw [if_pos d, d, pk_us]
    · rw [if_neg d, pk_un d, ← (hu (j - 1) (by omega)).1, ← h2 (j - 1) (by omega) (by omega)]
      exact congrArg r.1 (by omega)
theorem srt_256 {w : Nat → Nat} {n : Nat} (h : ∀ j, j < n → w j < 16) {i : Nat} (hi : i ≤ n) {k : Nat} (hk : k < i) : srt w i k < 16 := by
  obtain ⟨j, hj, e⟩ := srt_B (w := w) hk
  rw [e]
  exact h j (by omega)
theorem sortC_e {N n : Nat} {row so : Nat → Int32} {w : Nat → Nat} (hN : 16 < N) (hn : n ≤ 7) (hw : ∀ k, k < n → w k < 16) (hr : ∀ k, k < n → row k = nI (w k)) : ∃ so2, fX2_sortRow N 12 (nI n) so row = some so2 ∧ ∀ j, j < n → so2 j = nI (srt w n j) := by
  unfold fX2_sortRow
  have key : ∃ so2, itr (fun z => fX2_sortRow_l2b N 12 (nI n) row z.1 z.2) N (so, (0 : Int32)) = some so2 ∧ ∀ j, j < n → so2 j = nI (srt w n j) := by
    refine itr_inv (fun (i : Nat) (z : (Nat → Int32) × Int32) => z.2 = nI i ∧ ∀ j, j < i → z.1 j = nI (srt w i j)) (fun (r : Nat → Int32) => ∀ j, j < n → r j = nI (srt w n j)) (b := n) (by omega) ⟨rfl, fun j hj => absurd hj (Nat.not_lt_zero j)⟩ ?_ ?_
    · rintro i ⟨f, v⟩ hi ⟨hv, hf⟩
      have hv : v = nI i := hv
      subst hv
      have hf : ∀ j, j < i → f j = nI (srt w i j) := hf
      have hu : ∀ j, j < i → f j = nI (srt w i j) ∧ srt w i j < 256 := fun j hj => ⟨hf j hj, by have := srt_256 hw (show i ≤ n by omega) hj; omega⟩
      have hwi := hw i hi
      obtain ⟨⟨g, v⟩, e1, e2, e3, e4, e5⟩ := insLoop (body := fun z => fX2_sortRow_l12b N 12 (nI n) row (nI i) z.1 z.2) (N := N) (i := i) (x := w i) (f := f) (u := srt w i) hN (by omega) (fun g => by
        show fX2_sortRow_l12b N 12 (nI n) row (nI i) g (nI 0) = _
        unfold fX2_sortRow_l12b
        rw [if_pos (show nI 0 ≤ 0 from nI_le (b := 0) (Nat.le_refl 0) (by decide))]) (fun g m h1 h2 => by
        show fX2_sortRow_l12b N 12 (nI n) row (nI i) g (nI m) = _
        unfold fX2_sortRow_l12b
        rw [if_neg (show ¬ nI m ≤ 0 from nI_ge (a := 0) (by omega) (by omega)), show nI m - (1 : Int32) = nI (m - 1) from pk_sub (b := 1) h1, gdi_nI (k := m - 1) (by omega) (by decide), gdi_nI (k := i) (by omega) (by decide), gdi_nI (k := m - 1) (by omega) (by decide), gdi_nI (k := m) (by omega) (by decide), bnd_e, bnd_e, nI_clamp (n := i) (by omega), nI_clamp (n := m - 1) (by omega), nI_clamp (n := m) (by omega), hr i hi, show nI m + (-1 : Int32) = nI (m - 1) from by
          obtain ⟨k, rfl⟩ : ∃ k, m = k + 1 := ⟨m - 1, by omega⟩
          rw [← nI_1, Int32.add_assoc]
          exact Int32.add_zero _]
        split <;> rfl) hu (by omega)
      have e2 : v = nI (ins (srt w i) (w i) i) := e2
      subst e2
      have hp := ins_le (srt w i) (w i) i
      refine ⟨(upd g (ins (srt w i) (w i) i) (nI (w i)), nI (i + 1)), ?_, rfl, insDone (r := (g, nI (ins (srt w i) (w i) i))) hu e3 e4⟩
      show fX2_sortRow_l2b N 12 (nI n) row f (nI i) = _
      unfold fX2_sortRow_l2b
      rw [if_neg (nI_ge hi (by omega)), bind_e e1, gdi_nI (k := i) (by omega) (by decide), gdi_nI (k := ins (srt w i) (w i) i) (by omega) (by decide), bnd_e, bnd_e, nI_clamp (n := i) (by omega), hr i hi, nI_1]
      show some (Sum.inl (upd g (nI (ins (srt w i) (w i) i)).toNatClampNeg (nI (w i)), nI (i + 1))) = _
      rw [nI_clamp (by omega)]
    · rintro ⟨f, v⟩ ⟨hv, hf⟩
      have hv : v = nI n := hv
      subst hv
      refine ⟨f, ?_, hf⟩
      show fX2_sortRow_l2b N 12 (nI n) row f (nI n) = _
      unfold fX2_sortRow_l2b
      rw [if_pos (nI_le (Nat.le_refl n) (by omega))]
  obtain ⟨f, e1, e2⟩ := key
  exact ⟨f, by rw [bind_e e1], e2⟩
theorem sortM_e {N n : Nat} {row now tp ne al od be sr : Nat → Int32} {gr : Nat → Int64} {th ta b rm le sm : Int32} {w : Nat → Nat} (hN : 16 < N) (hn : n ≤ 7) (hn1 : 1 ≤ n) (hw : ∀ k, k < n → w k < 16) (hr : ∀ k, k < n → row k = nI (w k)) : ∃ r2, itr (fun z => fX12_shortest_l20b N th ta b (nI n) le sm now tp gr ne al od be sr z.1 z.2) N (row, (1 : Int32)) = some r2 ∧ ∀ j, j < n → r2 j = nI (srt w n j) := by
  refine itr_inv (fun (k : Nat) (z : (Nat → Int32) × Int32) => z.2 = nI (k + 1) ∧ (∀ j, j < k + 1 → z.1 j = nI (srt w (k + 1) j)) ∧ ∀ j, k < j → j < n → z.1 j = nI (w j)) (fun (r : Nat → Int32) => ∀ j, j < n → r j = nI (srt w n j)) (b := n - 1) (by omega) ⟨rfl, fun j hj => ?_, fun j _ hj => hr j hj⟩ ?_ ?_
  · have e : j = 0 := by omega
    subst e
    exact hr 0 (by omega)
  · rintro k ⟨f, v⟩ hk ⟨hv, hf, hfw⟩
    have hv : v = nI (k + 1) := hv
    subst hv
    have hf : ∀ j, j < k + 1 → f j = nI (srt w (k + 1) j) := hf
    have hfw : ∀ j, k < j → j < n → f j = nI (w j) := hfw
    have hu : ∀ j, j < k + 1 → f j = nI (srt w (k + 1) j) ∧ srt w (k + 1) j < 256 := fun j hj => ⟨hf j hj, by have := srt_256 hw (show k + 1 ≤ n by omega) hj; omega⟩
    have hwi := hw (k + 1) (by omega)
    obtain ⟨⟨g, v⟩, e1, e2, e3, e4, e5⟩ := insLoop (body := fun z => fX12_shortest_l37b N th ta b (nI n) le sm now tp gr ne al od be sr (nI (k + 1)) (nI (w (k + 1))) z.1 z.2) (N := N) (i := k + 1) (x := w (k + 1)) (f := f) (u := srt w (k + 1)) hN (by omega) (fun g => by
      show fX12_shortest_l37b N th ta b (nI n) le sm now tp gr ne al od be sr (nI (k + 1)) (nI (w (k + 1))) g (nI 0) = _
      unfold fX12_shortest_l37b
      rw [if_pos (show nI 0 ≤ 0 from nI_le (b := 0) (Nat.le_refl 0) (by decide))]) (fun g m h1 h2 => by
      show fX12_shortest_l37b N th ta b (nI n) le sm now tp gr ne al od be sr (nI (k + 1)) (nI (w (k + 1))) g (nI m) = _
      unfold fX12_shortest_l37b
      rw [if_neg (show ¬ nI m ≤ 0 from nI_ge (a := 0) (by omega) (by omega)), show nI m - (1 : Int32) = nI (m - 1) from pk_sub (b := 1) h1, gdi_nI (k := m - 1) (by omega) (by decide), gdi_nI (k := m - 1) (by omega) (by decide), gdi_nI (k := m) (by omega) (by decide), bnd_e, bnd_e, nI_clamp (n := m - 1) (by omega), nI_clamp (n := m) (by omega), show nI m + (-1 : Int32) = nI (m - 1) from by
        obtain ⟨k, rfl⟩ : ∃ k, m = k + 1 := ⟨m - 1, by omega⟩
        rw [← nI_1, Int32.add_assoc]
        exact Int32.add_zero _]
      split <;> rfl) hu (by omega)
    have e2 : v = nI (ins (srt w (k + 1)) (w (k + 1)) (k + 1)) := e2
    subst e2
    have hp := ins_le (srt w (k + 1)) (w (k + 1)) (k + 1)
    refine ⟨(upd g (ins (srt w (k + 1)) (w (k + 1)) (k + 1)) (nI (w (k + 1))), nI (k + 1 + 1)), ?_, rfl, insDone (r := (g, nI (ins (srt w (k + 1)) (w (k + 1)) (k + 1)))) hu e3 e4, fun j h1 h2 => ?_⟩
    · show fX12_shortest_l20b N th ta b (nI n) le sm now tp gr ne al od be sr f (nI (k + 1)) = _
      unfold fX12_shortest_l20b
      rw [if_neg (nI_ge (show k + 1 < n by omega) (by omega)), gdi_nI (k := k + 1) (by omega) (by decide), bnd_e, nI_clamp (n := k + 1) (by omega), hfw (k + 1) (by omega) (by omega), bind_e e1, gdi_nI (k := ins (srt w (k + 1)) (w (k + 1)) (k + 1)) (by omega) (by decide), bnd_e, bnd_e, nI_1]
      show some (Sum.inl (upd g (nI (ins (srt w (k + 1)) (w (k + 1)) (k + 1))).toNatClampNeg (nI (w (k + 1))), nI (k + 1 + 1))) = _
      rw [nI_clamp (by omega)]
    · show upd g _ _ j = _
      rw [pk_un (by omega)]
      have e5 : ∀ j, k + 1 < j → g j = f j := e5
      rw [e5 j (by omega)]
      exact hfw j (by omega) h2
  · rintro ⟨f, v⟩ ⟨hv, hf, -⟩
    have hm : n - 1 + 1 = n := by omega
    have hv : v = nI (n - 1 + 1) := hv
    rw [hm] at hv
    subst hv
    have hf2 : ∀ j, j < n - 1 + 1 → f j = nI (srt w (n - 1 + 1) j) := hf
    rw [hm] at hf2
    refine ⟨f, ?_, hf2⟩
    show fX12_shortest_l20b N th ta b (nI n) le sm now tp gr ne al od be sr f (nI n) = _
    unfold fX12_shortest_l20b
    rw [if_pos (nI_le (Nat.le_refl n) (by omega))]

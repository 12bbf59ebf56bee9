/-! SHARES, the reference -/
theorem xor_lt {j p : Nat} (hj : j < 64) (hp : p < 6) (hb : j.testBit p = true) : j ^^^ 2 ^ p < 64 := by
  have := (pc_s j hj p hp hb).2.1
  omega
theorem RS_cong {D E : Nat → Option Nat} {mo mv : Nat → Int32} (h : RS D mo mv) (e : ∀ s, s < 64 → E s = D s) : RS E mo mv := by
  intro s hs
  rw [e s hs]
  exact h s hs
set_option maxHeartbeats 1000000 in
theorem shIn_e {N T L P A t p : Nat} {x v1 : Int32} {rl rt rp ra rf : Int32} {rc gr : Nat → Int64} {rP rF now dg vo mo mv no nv : Nat → Int32} {D E : Nat → Option Nat} {l : Nat} (hN : 100 < N) (h : IR1 T L P A rl rt rp ra rf rc rP rF now gr) (hs : IS1 T dg vo now) (ht : t < T) (hp : p < P) (hD : RS D mo mv) (hE : RS E no nv) (bD : bdd l D) (bE : bdd 10 E) (hl : l ≤ 8) : ∃ no2 nv2, itr (fun z => fX12_shareLand_l103b N mo mv now v1 (nI t) (nI p) z.1 z.2.1 z.2.2) N (no, nv, (0 : Int32)) = some (no2, nv2) ∧ RS (fun j => if j.testBit p = true then om (E j) (oad (D (j ^^^ 2 ^ p)) (some (cst dg rP t p))) else E j) no2 nv2 := by
  have hT : T ≤ 16 := h.1.1
  have hP : P ≤ 6 := h.1.2.2.1
  have hc : cst dg rP t p ≤ 1 := by
    unfold cst
    split <;> omega
  have ha : now (340 + 2 * t) = dg t := ((hs t (by omega)).1).symm
  have hq : now (5 + p) = rP p := ((h.2.2.2.1 p hp).1).symm
  have key : ∃ r, itr (fun z => fX12_shareLand_l103b N mo mv now v1 (nI t) (nI p) z.1 z.2.1 z.2.2) N (no, nv, (0 : Int32)) = some r ∧ RS (fun j => if j.testBit p = true then om (E j) (oad (D (j ^^^ 2 ^ p)) (some (cst dg rP t p))) else E j) r.1 r.2 := by
    refine itr_inv (fun (i : Nat) (z : (Nat → Int32) × (Nat → Int32) × Int32) => z.2.2 = nI i ∧ RS (fun j => if j.testBit p = true ∧ j ^^^ 2 ^ p < i then om (E j) (oad (D (j ^^^ 2 ^ p)) (some (cst dg rP t p))) else E j) z.1 z.2.1) (fun (r : (Nat → Int32) × (Nat → Int32)) => RS (fun j => if j.testBit p = true then om (E j) (oad (D (j ^^^ 2 ^ p)) (some (cst dg rP t p))) else E j) r.1 r.2) (b := 64) (by omega) ⟨rfl, RS_cong hE (fun s _ => if_neg (by omega))⟩ ?_ ?_
    · rintro i ⟨f, g, v⟩ hi ⟨hv, hr⟩
      have hv : v = nI i := hv
      subst hv
      have hr : RS (fun j => if j.testBit p = true ∧ j ^^^ 2 ^ p < i then om (E j) (oad (D (j ^^^ 2 ^ p)) (some (cst dg rP t p))) else E j) f g := hr
      show ∃ s', fX12_shareLand_l103b N mo mv now v1 (nI t) (nI p) f g (nI i) = some (.inl s') ∧ _
      unfold fX12_shareLand_l103b
      rw [if_neg (show ¬ (64 : Int32) ≤ nI i from nI_ge (b := 64) hi (by decide)), bind_e (hasM_e _ _), hv_bit (by omega) (by omega)]
      by_cases c : i.testBit p = true
      · rw [if_pos c, if_neg (show ¬ (1 : Int32) = 0 by decide), bnd_e, nI_1]
        refine ⟨(f, g, nI (i + 1)), rfl, rfl, RS_cong hr (fun s hs => ?_)⟩
        have : ¬ (s.testBit p = true ∧ s ^^^ 2 ^ p = i) := by
          rintro ⟨a1, a2⟩
          have a3 := (pc_s s hs p (by omega) a1).2.2.1
          rw [a2, c] at a3
          exact absurd a3 (by decide)
        by_cases q : s.testBit p = true ∧ s ^^^ 2 ^ p < i
        · rw [if_pos q, if_pos ⟨q.1, by omega⟩]
        · rw [if_neg q, if_neg (fun w => this ⟨w.1, by
            have := w.2
            rcases Nat.lt_or_ge (s ^^^ 2 ^ p) i with y | y
            · exact absurd ⟨w.1, y⟩ q
            · omega⟩)]
      · have c' : i.testBit p = false := by
          cases q : i.testBit p with
          | false => rfl
          | true => exact absurd q c
        obtain ⟨u1, u2, u3, u4⟩ := pc_u i hi p (by omega) c'
        have u5 := (pc_s (i ||| 2 ^ p) u1 p (by omega) u2).1
        rw [u3] at u5
        rw [if_neg c, if_pos (show (0 : Int32) = 0 from rfl), gdi_nI hi (by decide), nI_clamp (by omega)]
        obtain ⟨d1, d2⟩ := hD i hi
        have hu : ∀ s, s < 64 → s.testBit p = true → s ^^^ 2 ^ p = i → s = i ||| 2 ^ p := by
          intro s hs a1 a2
          have b1 := congrArg (fun z => z ^^^ 2 ^ p) a2
          have b2 : s ^^^ 2 ^ p ^^^ 2 ^ p = s := by rw [Nat.xor_assoc, Nat.xor_self, Nat.xor_zero]
          have b3 : (i ||| 2 ^ p) ^^^ 2 ^ p ^^^ 2 ^ p = i ||| 2 ^ p := by rw [Nat.xor_assoc, Nat.xor_self, Nat.xor_zero]
          have b1 : s ^^^ 2 ^ p ^^^ 2 ^ p = i ^^^ 2 ^ p := b1
          rw [b2] at b1
          rw [u3] at b3
          rw [b1, b3]
        cases e : D i with
        | none =>
          rw [d1 e, if_pos (show (-1 : Int32) < 0 by decide), bnd_e, nI_1]
          refine ⟨(f, g, nI (i + 1)), rfl, rfl, RS_cong hr (fun s hs => ?_)⟩
          by_cases q : s.testBit p = true ∧ s ^^^ 2 ^ p < i
          · rw [if_pos q, if_pos ⟨q.1, by omega⟩]
          · rw [if_neg q]
            by_cases w : s.testBit p = true ∧ s ^^^ 2 ^ p < i + 1
            · rw [if_pos w]
              have : s ^^^ 2 ^ p = i := by
                rcases Nat.lt_or_ge (s ^^^ 2 ^ p) i with y | y
                · exact absurd ⟨w.1, y⟩ q
                · omega
              rw [this, e]
              exact om_none _
            · rw [if_neg w]
        | some m =>
          obtain ⟨d3, d4⟩ := d2 m e
          have hm := bD i m e
          have hpc := pc_le i
          have hEi : (if (i ||| 2 ^ p).testBit p = true ∧ (i ||| 2 ^ p) ^^^ 2 ^ p < i then om (E (i ||| 2 ^ p)) (oad (D ((i ||| 2 ^ p) ^^^ 2 ^ p)) (some (cst dg rP t p))) else E (i ||| 2 ^ p)) = E (i ||| 2 ^ p) := if_neg (fun w => by
            have := w.2
            rw [u3] at this
            omega)
          obtain ⟨f2, g2, o1, o2⟩ := better_e (N := N) (s := i ||| 2 ^ p) (c := m + cst dg rP t p) hr (fun x hx => by
            rw [hEi] at hx
            have := bE _ _ hx
            omega) u1 (by omega)
          have o1 : fX12_better N f g (nI (i ||| 2 ^ p)) (nI (pc i + 1)) (nI (m + cst dg rP t p)) = some (f2, g2) := by
            rw [← u5]
            exact o1
          have fin : RS (fun j => if j.testBit p = true ∧ j ^^^ 2 ^ p < i + 1 then om (E j) (oad (D (j ^^^ 2 ^ p)) (some (cst dg rP t p))) else E j) f2 g2 := by
            refine RS_cong o2 (fun s hs => ?_)
            by_cases q : s = i ||| 2 ^ p
            · rw [if_pos q, hEi, q, u3, if_pos ⟨u2, by omega⟩, e]
              rfl
            · rw [if_neg q]
              by_cases w : s.testBit p = true ∧ s ^^^ 2 ^ p < i
              · rw [if_pos w, if_pos ⟨w.1, by omega⟩]
              · rw [if_neg w, if_neg (fun y => by
                  rcases Nat.lt_or_ge (s ^^^ 2 ^ p) i with z | z
                  · exact w ⟨y.1, z⟩
                  · exact q (hu s hs y.1 (by have := y.2; omega)))]
          rw [d3, d4, if_neg (nI_nlt0 (by omega)), gdi_nI hi (by decide), bind_e (at_e (by omega) now), i5, gdi_nI (by omega) (by decide), nI_clamp (by omega), ha, hq, u4]
          unfold fX12_shareLand_j173
          rw [nI_1]
          refine ⟨(f2, g2, nI (i + 1)), ?_, rfl, fin⟩
          unfold cst at o1
          by_cases q : dg t = rP p
          · rw [if_pos q] at o1
            rw [if_pos q, show nI m + (0 : Int32) = nI (m + 0) from nI_add m 0, bind_e o1, bnd_e, nI_1, gdi_nI (by omega) (by decide)]
          · rw [if_neg q] at o1
            rw [if_neg q, show nI m + (1 : Int32) = nI (m + 1) from nI_add m 1, bind_e o1, bnd_e, nI_1, gdi_nI (by omega) (by decide)]
    · rintro ⟨f, g, v⟩ ⟨hv, hr⟩
      have hv : v = nI 64 := hv
      subst hv
      refine ⟨(f, g), ?_, RS_cong hr (fun s hs => ?_)⟩
      · show fX12_shareLand_l103b N mo mv now v1 (nI t) (nI p) f g (nI 64) = _
        unfold fX12_shareLand_l103b
        rw [if_pos (show (64 : Int32) ≤ nI 64 from nI_le (a := 64) (Nat.le_refl 64) (by decide))]
      · by_cases q : s.testBit p = true
        · rw [if_pos q, if_pos ⟨q, xor_lt hs (by omega) q⟩]
        · rw [if_neg q, if_neg (fun w => q w.1)]
  obtain ⟨⟨f, g⟩, e1, e2⟩ := key
  exact ⟨f, g, e1, e2⟩

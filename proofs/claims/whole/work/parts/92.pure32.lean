/-! ARC, both -/
theorem IT_0 {tl ml : Int32} {t u : Nat → Int32} (h : IT tl t ml u) : IT 0 t 0 u := by
  obtain ⟨n, hn, -, -, hj⟩ := h
  exact ⟨0, by omega, rfl, rfl, hj⟩
set_option maxHeartbeats 1000000 in
theorem arcM_e {N n : Nat} {b th : Int32} {now tp row ne od al : Nat → Int32} {gr : Nat → Int64} {d : Nat → Nat → Nat} (hN : 16 < N) (hn : n ≤ 12) (hd : ∀ i j, i < n → j < n → i ≠ j → ne (12 * i + j) = nI (d i j) ∧ d i j ≤ 1800) : ∃ od2 al2, itr (fun z => fX12_arc_l29b N 0 th b (nI n) now tp row gr ne z.1 z.2.1 z.2.2) N (od, al, (0 : Int32)) = some (od2, al2) ∧ ∀ j, j < n → al2 j = nI (alA d n j) := by
  have hd2 : ∀ i j, i < j → j < n → d i j ≤ 1800 := fun i j h1 h2 => (hd i j (by omega) h2 (by omega)).2
  have key : ∃ r, itr (fun z => fX12_arc_l29b N 0 th b (nI n) now tp row gr ne z.1 z.2.1 z.2.2) N (od, al, (0 : Int32)) = some r ∧ ∀ j, j < n → r.2 j = nI (alA d n j) := by
    refine itr_inv (fun (i : Nat) (z : (Nat → Int32) × (Nat → Int32) × Int32) => z.2.2 = nI i ∧ (∀ j, j < i → z.1 j = nI j) ∧ ∀ j, j < i → z.2.1 j = nI (alA d i j)) (fun (r : (Nat → Int32) × (Nat → Int32)) => ∀ j, j < n → r.2 j = nI (alA d n j)) (b := n) (by omega) ⟨rfl, fun k hk => absurd hk (Nat.not_lt_zero k), fun k hk => absurd hk (Nat.not_lt_zero k)⟩ ?_ ?_
    · rintro i ⟨f, g, v⟩ hi ⟨hv, hf, hg⟩
      have hv : v = nI i := hv
      subst hv
      have hf : ∀ j, j < i → f j = nI j := hf
      have hg : ∀ j, j < i → g j = nI (alA d i j) := hg
      have e := spanM_e (N := N) (n := n) (k := i) (nq := 12) (al := g) (q := upd f i (nI i)) (ne := ne) (o := fun j => j) (s := alA d i) (d := d) hN hn (by omega) (by omega) (fun j hj => ⟨by
        by_cases q : j = i
        · rw [q, pk_us]
        · rw [pk_un q]
          exact hf j (by omega), by omega⟩) (fun j hj => ⟨hg j hj, by have := alA_le hd2 i (by omega) j hj; omega⟩) (fun j hj => hd j i (by omega) hi (by omega))
      refine ⟨(upd f i (nI i), upd g i (nI (mxs (fun j => alA d i j + d j i) i)), nI (i + 1)), ?_, rfl, fun j hj => ?_, fun j hj => ?_⟩
      · show fX12_arc_l29b N 0 th b (nI n) now tp row gr ne f g (nI i) = _
        unfold fX12_arc_l29b
        rw [if_neg (nI_ge hi (by omega)), gdi_nI (by omega) (by decide), nI_clamp (by omega), bnd_e, bind_e e, gdi_nI (by omega) (by decide), bnd_e, bnd_e, nI_1]
      · show upd f i (nI i) j = _
        by_cases q : j = i
        · rw [q, pk_us]
        · rw [pk_un q]
          exact hf j (by omega)
      · show upd g i _ j = nI (if j = i then mxs (fun k => alA d i k + d k i) i else alA d i j)
        by_cases q : j = i
        · rw [if_pos q, q, pk_us]
        · rw [if_neg q, pk_un q]
          exact hg j (by omega)
    · rintro ⟨f, g, v⟩ ⟨hv, hf, hg⟩
      have hv : v = nI n := hv
      subst hv
      refine ⟨(f, g), ?_, hg⟩
      show fX12_arc_l29b N 0 th b (nI n) now tp row gr ne f g (nI n) = _
      unfold fX12_arc_l29b
      rw [if_pos (nI_le (Nat.le_refl n) (by omega))]
  obtain ⟨⟨f, g⟩, e1, e2⟩ := key
  exact ⟨f, g, e1, e2⟩
set_option maxHeartbeats 1000000 in
theorem p_arc {N T L P A : Nat} {rl rt rp ra rf b th rm tl ml rw0 : Int32} {rc gr : Nat → Int64} {rP rF now now1 t u row rowM sp ne od al : Nat → Int32} (hN : 1802 < N) (hI : IT tl t ml u) (h : IR1 T L P A rl rt rp ra rf rc rP rF now1 gr) (hF : IF1 T L rF) (hl : LY N b now now1) : ∃ (rl2 rm2 : Int32) (row2 sp2 rowM2 ne2 od2 al2 : Nat → Int32) (r : Int32), fX11_arc N tl rw0 t rt ra row rc rF sp = some (0, rl2, row2, sp2, r) ∧ fX12_arc N th ml b rm now u rowM gr ne od al = some (0, 0, 1, rm2, now1, rowM2, ne2, od2, al2, r) := by
  have hT : T ≤ 16 := h.1.1
  have hA : A ≤ 300 := h.1.2.2.2
  unfold fX11_arc fX12_arc
  rw [h.2.1.1, h.2.1.2.2.2]
  rcases takeRow_e (N := N) (a := 2) (c := 12) (rw0 := rw0) (rm := rm) (row := row) (rowM := rowM) (by omega) hI h hl (by omega) (by omega) with ⟨rl2, row2, rm2, rowM2, e1, e2⟩ | ⟨n, w, row2, rowM2, h2, h12, hw, hne, hr, hrM, e1, e2⟩
  · have e1 : fX11_takeRow N tl rw0 t (nI T) row 2 12 = some (0, rl2, row2, 0) := e1
    have e2 : fX12_takeRow N ml b rm now u rowM 2 12 = some (0, 1, rm2, now1, rowM2, 0) := e2
    refine ⟨rl2, rm2, row2, sp, rowM2, ne, od, al, -2, ?_, ?_⟩
    · rw [bind_e e1, if_pos rfl]
    · rw [bind_e e2, if_pos rfl]
  · have e1 : fX11_takeRow N tl rw0 t (nI T) row 2 12 = some (0, nI n, row2, 1) := e1
    have e2 : fX12_takeRow N ml b rm now u rowM 2 12 = some (0, 1, nI n, now1, rowM2, 1) := e2
    obtain ⟨sp2, e3⟩ := arcC_e (N := N) (sp := sp) (row := row2) (rc := rc) (by omega) hT hA hF h12 (by omega) hw hr
    obtain ⟨ne2, e4, e5⟩ := layNeeds_e (N := N) (ne := ne) hN h hF h12 hw hrM
    rw [bind_e e1, if_neg (show ¬ (1 : Int32) = 0 by decide), bind_e e3, bind_e e2, if_neg (show ¬ (1 : Int32) = 0 by decide), bind_e e4]
    by_cases c : fa_first (nonP A rF rc w) n < n
    · rw [if_pos c, if_pos c, if_pos rfl]
      exact ⟨_, _, _, _, _, _, _, _, -1, rfl, rfl⟩
    · have e5 := e5 c
      have hno := nonP_no c
      obtain ⟨od2, al2, e6, e7⟩ := arcM_e (N := N) (n := n) (b := 1) (th := 0) (now := now1) (tp := u) (row := rowM2) (ne := ne2) (od := od) (al := al) (gr := gr) (d := fun i j => ndN A rF rc (w i) (w j)) (by omega) h12 (fun i j hi hj hij => by
        obtain ⟨a1, a2⟩ := ndN_e hA (hno i j hi hj hij)
        exact ⟨by rw [e5 i j hi hj hij]; exact a1, a2⟩)
      rw [if_neg c, if_neg c, if_neg (show ¬ (1 : Int32) = 0 by decide)]
      refine ⟨nI n, nI n, row2, sp2, rowM2, ne2, od2, al2, nI (alA (fun i j => ndN A rF rc (w i) (w j)) n (n - 1)), rfl, ?_⟩
      show (itr (fun z => fX12_arc_l29b N 0 0 1 (nI n) now1 u rowM2 gr ne2 z.1 z.2.1 z.2.2) N (od, al, (0 : Int32))).bind _ = _
      rw [bind_e e6]
      show gdi (nI n - 1) 12 (some ((0 : Int32), (0 : Int32), (1 : Int32), nI n, now1, rowM2, ne2, od2, al2, al2 (nI n - 1).toNatClampNeg)) = _
      rw [show nI n - (1 : Int32) = nI (n - 1) from pk_sub (b := 1) (by omega), gdi_nI (by omega) (by decide), nI_clamp (by omega), e7 (n - 1) (by omega)]

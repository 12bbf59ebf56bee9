/-! SHORTEST, both -/
theorem alA_cong {d e : Nat → Nat → Nat} {n : Nat} (h : ∀ i j, i < n → j < n → d i j = e i j) : ∀ m, m ≤ n → ∀ j, j < m → alA d m j = alA e m j
  | 0, _, j, hj => absurd hj (Nat.not_lt_zero j)
  | m + 1, hm, j, hj => by
    show (if j = m then mxs (fun k => alA d m k + d k m) m else alA d m j) = (if j = m then mxs (fun k => alA e m k + e k m) m else alA e m j)
    by_cases q : j = m
    · rw [if_pos q, if_pos q]
      exact mxs_cong (fun k hk => by rw [alA_cong h m (by omega) k hk, h k m (by omega) (by omega)])
    · rw [if_neg q, if_neg q]
      exact alA_cong h m (by omega) j (by omega)
theorem cpS_e {N n : Nat} {th ta b le sm : Int32} {now tp row ne al od be sr : Nat → Int32} {gr : Nat → Int64} (hN : 16 < N) (hn : n ≤ 7) : ∃ s2, itr (fun z => fX12_shortest_l116b N th ta b (nI n) le sm now tp row gr ne al od be z.1 z.2) N (sr, (0 : Int32)) = some s2 ∧ ∀ j, j < n → s2 j = be j := by
  refine itr_inv (fun (i : Nat) (z : (Nat → Int32) × Int32) => z.2 = nI i ∧ ∀ j, j < i → z.1 j = be j) (fun (r : Nat → Int32) => ∀ j, j < n → r j = be j) (b := n) (by omega) ⟨rfl, fun j hj => absurd hj (Nat.not_lt_zero j)⟩ ?_ ?_
  · rintro i ⟨f, v⟩ hi ⟨hv, hf⟩
    have hv : v = nI i := hv
    subst hv
    have hf : ∀ j, j < i → f j = be j := hf
    refine ⟨(upd f i (be i), nI (i + 1)), ?_, rfl, fun j hj => ?_⟩
    · show fX12_shortest_l116b N th ta b (nI n) le sm now tp row gr ne al od be f (nI i) = _
      unfold fX12_shortest_l116b
      rw [if_neg (nI_ge hi (by omega)), gdi_nI (k := i) (by omega) (by decide), gdi_nI (k := i) (by omega) (by decide), bnd_e, bnd_e, nI_clamp (by omega), nI_1]
    · show upd f i (be i) j = _
      by_cases q : j = i
      · rw [q, pk_us]
      · rw [pk_un q]
        exact hf j (by omega)
  · rintro ⟨f, v⟩ ⟨hv, hf⟩
    have hv : v = nI n := hv
    subst hv
    refine ⟨f, ?_, hf⟩
    show fX12_shortest_l116b N th ta b (nI n) le sm now tp row gr ne al od be f (nI n) = _
    unfold fX12_shortest_l116b
    rw [if_pos (nI_le (Nat.le_refl n) (by omega))]
set_option maxHeartbeats 1000000 in
theorem p_shortest {N T L P A : Nat} {rl rt rp ra rf b th rm tl ml rw0 aL ln bs le sm : Int32} {rc gr : Nat → Int64} {rP rF now now1 t u row rowM sp so od an ne al om be sr : Nat → Int32} (hN : 1802 < N) (hI : IT tl t ml u) (h : IR1 T L P A rl rt rp ra rf rc rP rF now1 gr) (hF : IF1 T L rF) (hl : LY N b now now1) (hO : IO aL an sm sr) : ∃ (rl2 rm2 aL2 ln2 bs2 le2 sm2 : Int32) (row2 sp2 so2 od2 an2 rowM2 ne2 al2 om2 be2 sr2 : Nat → Int32) (r : Int32), fX11_shortest N tl rw0 t rt ra row aL ln bs rc rF sp so od an = some (0, rl2, row2, aL2, ln2, bs2, sp2, so2, od2, an2, r) ∧ fX12_shortest N th ml b rm le sm now u rowM gr ne al om be sr = some (0, 0, 1, rm2, le2, sm2, now1, rowM2, ne2, al2, om2, be2, sr2, r) ∧ IO aL2 an2 sm2 sr2 := by
  have hT : T ≤ 16 := h.1.1
  have hA : A ≤ 300 := h.1.2.2.2
  unfold fX11_shortest fX12_shortest
  rw [h.2.1.1, h.2.1.2.2.2]
  rcases takeRow_e (N := N) (a := 2) (c := 7) (rw0 := rw0) (rm := rm) (row := row) (rowM := rowM) (by omega) hI h hl (by omega) (by omega) with ⟨rl2, row2, rm2, rowM2, e1, e2⟩ | ⟨n, w, row2, rowM2, h2, h7, hw, hne, hr, hrM, e1, e2⟩
  · have e1 : fX11_takeRow N tl rw0 t (nI T) row 2 7 = some (0, rl2, row2, 0) := e1
    have e2 : fX12_takeRow N ml b rm now u rowM 2 7 = some (0, 1, rm2, now1, rowM2, 0) := e2
    refine ⟨rl2, rm2, aL, ln, bs, le, sm, row2, sp, so, od, an, rowM2, ne, al, om, be, sr, -2, ?_, ?_, hO⟩
    · rw [bind_e e1, if_pos rfl]
    · rw [bind_e e2, if_pos rfl]
  · have e1 : fX11_takeRow N tl rw0 t (nI T) row 2 7 = some (0, nI n, row2, 1) := e1
    have e2 : fX12_takeRow N ml b rm now u rowM 2 7 = some (0, 1, nI n, now1, rowM2, 1) := e2
    have hw16 : ∀ k, k < n → w k < 16 := fun k hk => by have := hw k hk; omega
    obtain ⟨sp2, e3⟩ := arcC_e (N := N) (sp := sp) (row := row2) (rc := rc) (by omega) hT hA hF (show n ≤ 12 by omega) (by omega) hw hr
    obtain ⟨r2, e4, h4⟩ := sortM_e (N := N) (n := n) (row := rowM2) (now := now1) (tp := u) (ne := ne) (al := al) (od := om) (be := be) (sr := sr) (gr := gr) (th := 0) (ta := 0) (b := 1) (rm := 0) (le := le) (sm := sm) (by omega) h7 (by omega) hw16 hrM
    have hs : ∀ k, k < n → srt w n k < T := by
      intro k hk
      obtain ⟨j, hj, e⟩ := srt_B (w := w) hk
      rw [e]
      exact hw j hj
    have hsC := srt_C (w := w) (i := n) hne
    obtain ⟨ne2, e5, h5⟩ := layNeeds_e (N := N) (ne := ne) (row := r2) (w := srt w n) hN h hF (show n ≤ 12 by omega) hs h4
    have hiff : fa_first (nonP A rF rc (srt w n)) n < n ↔ fa_first (nonP A rF rc w) n < n := by
      have pairs : ∀ (v x : Nat → Nat), (∀ k, k < n → ∃ j, j < n ∧ v k = x j) → (∀ a b, a < b → b < n → v a ≠ v b) → ¬ fa_first (nonP A rF rc x) n < n → ¬ fa_first (nonP A rF rc v) n < n := by
        intro v x hvx hv hx
        have hx := nonP_no hx
        refine ff_no (fun k hk => ?_)
        unfold nonP
        refine decide_eq_false (ff_no (fun j hj => decide_eq_false ?_))
        obtain ⟨a, ha, ea⟩ := hvx j (by omega)
        obtain ⟨c, hc, ec⟩ := hvx k hk
        rw [ea, ec]
        refine hx a c ha hc (fun e => hv j k hj hk ?_)
        rw [ea, ec, e]
      constructor
      · intro y
        by_cases z : fa_first (nonP A rF rc w) n < n
        · exact z
        · exact absurd y (pairs (srt w n) w (fun k hk => srt_B hk) hsC z)
      · intro y
        by_cases z : fa_first (nonP A rF rc (srt w n)) n < n
        · exact z
        · exact absurd y (pairs w (srt w n) (fun k hk => by
            obtain ⟨j, hj, e⟩ := srt_A (w := w) hk
            exact ⟨j, hj, e.symm⟩) hne z)
    have e4 : itr (fun z => fX12_shortest_l20b N 0 0 1 (nI n) le sm now1 u gr ne al om be sr z.1 z.2) N (rowM2, (1 : Int32)) = some r2 := e4
    rw [bind_e e1, if_neg (show ¬ (1 : Int32) = 0 by decide), bind_e e2, if_neg (show ¬ (1 : Int32) = 0 by decide)]
    unfold fX2_shortestOf
    show ∃ (rl2 rm2 aL2 ln2 bs2 le2 sm2 : Int32) (row2 sp2 so2 od2 an2 rowM2 ne2 al2 om2 be2 sr2 : Nat → Int32) (r : Int32), _ ∧ (itr (fun z => fX12_shortest_l20b N 0 0 1 (nI n) le sm now1 u gr ne al om be sr z.1 z.2) N (_, (1 : Int32))).bind _ = _ ∧ _
    rw [bind_e e4, bind_e e5]
    show ∃ (rl2 rm2 aL2 ln2 bs2 le2 sm2 : Int32) (row2' sp2 so2 od2 an2 rowM2 ne2 al2 om2 be2 sr2 : Nat → Int32) (r : Int32), ((fX2_arcOf N 12 row2 (nI A) rc rF sp (nI n)).bind _).bind _ = _ ∧ _
    rw [bind_e e3]
    by_cases c : fa_first (nonP A rF rc w) n < n
    · rw [if_pos c, if_pos (hiff.mpr c), if_pos rfl, if_pos rfl]
      exact ⟨_, _, _, _, _, _, _, _, _, _, _, _, _, _, _, _, _, _, _, rfl, rfl, hO⟩
    · have c' : ¬ fa_first (nonP A rF rc (srt w n)) n < n := fun y => c (hiff.mp y)
      have h5 := h5 c'
      have hnoS := nonP_no c'
      have hno := nonP_no c
      have hd : ∀ i j, i < n → j < n → i ≠ j → ne2 (12 * i + j) = nI (ndN A rF rc (srt w n i) (srt w n j)) ∧ ndN A rF rc (srt w n i) (srt w n j) ≤ 1800 := fun i j hi hj hij => by
        obtain ⟨a1, a2⟩ := ndN_e hA (hnoS i j hi hj hij)
        exact ⟨by rw [h5 i j hi hj hij]; exact a1, a2⟩
      obtain ⟨so2, e6, h6⟩ := sortC_e (N := N) (so := so) (row := row2) (by omega) h7 hw16 hr
      -- the told order, among all
      have hpi : ∃ q : Nat → Nat, ∀ i, i < n → q i < n ∧ srt w n (q i) = w i := by
        have : ∀ i, ∃ k, i < n → k < n ∧ srt w n k = w i := by
          intro i
          by_cases hi : i < n
          · obtain ⟨k, hk, e⟩ := srt_A (w := w) hi
            exact ⟨k, fun _ => ⟨hk, e⟩⟩
          · exact ⟨0, fun y => absurd y hi⟩
        exact ⟨fun i => (this i).choose, fun i hi => (this i).choose_spec hi⟩
      obtain ⟨q, hq⟩ := hpi
      have hqu : unl n q n := ⟨fun i hi => (hq i hi).1, fun i j hij hj e => hne i j hij hj (by rw [← (hq i (by omega)).2, ← (hq j hj).2, e])⟩
      have hq2 : spn (fun a b => ndN A rF rc (srt w n a) (srt w n b)) q (n - 1) = alA (fun i j => ndN A rF rc (w i) (w j)) n (n - 1) := by
        unfold spn
        rw [show n - 1 + 1 = n by omega]
        exact alA_cong (n := n) (fun i j hi hj => by
          show ndN A rF rc (srt w n (q i)) (srt w n (q j)) = _
          rw [(hq i hi).2, (hq j hj).2]) n (Nat.le_refl n) (n - 1) (by omega)
      have hab : alA (fun i j => ndN A rF rc (w i) (w j)) n (n - 1) ≤ 20000 := by
        have := alA_le (d := fun i j => ndN A rF rc (w i) (w j)) (m := n) (fun i j hij hj => (ndN_e hA (hno i j (by omega) hj (by omega))).2) n (Nat.le_refl n) (n - 1) (by omega)
        omega
      obtain ⟨aL2, bv2, sp3, od2, an2, M2, al2, om2, be2, f1, f2, f3, f4, -⟩ := ls_e (N := N) (T := T) (L := L) (n := n) (b0 := alA (fun i j => ndN A rF rc (w i) (w j)) n (n - 1) + 1) (A := A) (u := srt w n) (rc := rc) (rF := rF) (so := so2) (row := r2) (ne := ne2) (by omega) hT hA hF h7 (by omega) (by omega) hs h6 h4 hnoS hd 10 0 (fun _ => 0) aL (alA (fun i j => ndN A rF rc (w i) (w j)) n (n - 1) + 1) sp2 od an none al om be (by omega) (by omega) ⟨fun i hi => absurd hi (Nat.not_lt_zero i), fun i j _ hj => absurd hj (Nat.not_lt_zero j)⟩ (fun i hi => absurd hi (Nat.not_lt_zero i)) (fun i hi => absurd hi (Nat.not_lt_zero i)) (fun i hi => absurd hi (Nat.not_lt_zero i)) (fun i hi => absurd hi (Nat.not_lt_zero i)) (fun m hm => absurd hm (by intro y; cases y)) (Or.inl ⟨rfl, fun m hm => absurd hm (by intro y; cases y)⟩) (fun y => absurd y (Nat.lt_irrefl 0))
      obtain ⟨M3, al3, om3, be3, g1, -, -, -, -, -, g7⟩ := rt_e (N := N) (n := n) (D := fun a b => ndN A rF rc (srt w n a) (srt w n b)) (row := r2) (ne := ne2) (by omega) h7 (by omega) hd 10 0 (fun _ => 0) none al om be (by omega) (by omega) ⟨fun i hi => absurd hi (Nat.not_lt_zero i), fun i j _ hj => absurd hj (Nat.not_lt_zero j)⟩ (fun i hi => absurd hi (Nat.not_lt_zero i)) (fun i hi => absurd hi (Nat.not_lt_zero i)) (fun m hm => absurd hm (by intro y; cases y))
      obtain ⟨m, hm, hmle⟩ := g7 q hqu (fun i hi => absurd hi (Nat.not_lt_zero i))
      rw [hq2] at hmle
      have heq : enc M2 = nI m := by
        have y := f2.symm.trans g1
        rw [hm] at y
        exact congrArg (fun z => z.1) (Option.some.inj y)
      have hM2 : M2 = some m := by
        cases hx : M2 with
        | none =>
          rw [hx] at heq
          exact absurd heq.symm (nI_m1 (by omega))
        | some x =>
          rw [hx] at heq
          have := f4 x hx
          exact congrArg some ((nI_eq (by omega) (by omega)).mp heq)
      have hfin : bv2 = m ∧ aL2 = nI n ∧ ∀ j, j < n → an2 j = be2 j := by
        rcases f3 with ⟨y1, y2⟩ | ⟨y1, y2, y3, y4⟩
        · have := y2 m hM2
          omega
        · rw [hM2] at y2
          cases y2
          exact ⟨rfl, y3, y4⟩
      obtain ⟨z1, z2, z3⟩ := hfin
      subst z1
      subst hM2
      obtain ⟨s2, e8, h8⟩ := cpS_e (N := N) (n := n) (th := 0) (ta := 0) (b := 1) (le := enc (some bv2)) (sm := nI n) (now := now1) (tp := u) (row := r2) (ne := ne2) (al := al2) (od := om2) (be := be2) (sr := sr) (gr := gr) (by omega) h7
      have f1 : fX2_tryOrders N 10 aL (nI n) (nI (alA (fun i j => ndN A rF rc (w i) (w j)) n (n - 1)) + 1) sp2 od an so2 (nI A) rc rF 0 0 = some (aL2, nI bv2, sp3, od2, an2) := by
        rw [nI_1]
        exact f1
      have f2 : fX12_tryOrder N 10 (nI n) (-1) al om r2 be ne2 0 0 = some (enc (some bv2), al2, om2, be2) := f2
      rw [if_neg c, if_neg c', if_neg (show ¬ (1 : Int32) = 0 by decide), if_neg (nI_m1 (by omega)), if_pos (show nI n ≤ 7 from nI_le (b := 7) h7 (by decide)), bind_e e6, bnd_e, bind_e f1, bind_e f2]
      refine ⟨nI n, nI n, aL2, nI n, nI bv2, enc (some bv2), nI n, row2, sp3, so2, od2, an2, r2, ne2, al2, om2, be2, s2, nI bv2, rfl, ?_, n, h7, z2, rfl, fun k hk => by rw [z3 k hk, h8 k hk]⟩
      show (itr (fun z => fX12_shortest_l116b N 0 0 1 (nI n) (enc (some bv2)) (nI n) now1 u r2 gr ne2 al2 om2 be2 z.1 z.2) N (sr, (0 : Int32))).bind _ = _
      rw [bind_e e8]
      rfl

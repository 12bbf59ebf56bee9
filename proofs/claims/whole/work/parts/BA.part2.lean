/-! the parts of a THING: bounds, cells, the search for the word -/
theorem FB_3 {L d : Nat} {f f' : Nat → Int32} (h : FB L f) (he : ∀ w, w < 14 → w ≠ 3 → f' w = f w) (hd : d < 16) (e : f' 3 = nI d) : FB L f' := by
  obtain ⟨a0, a1, a2, a3, a4, a5, a6, a7, a8, a10, a13⟩ := h
  unfold FB
  rw [he 0 (by decide) (by decide), he 1 (by decide) (by decide), he 2 (by decide) (by decide), he 4 (by decide) (by decide), he 5 (by decide) (by decide), he 6 (by decide) (by decide), he 7 (by decide) (by decide), he 8 (by decide) (by decide), he 9 (by decide) (by decide), he 10 (by decide) (by decide), he 11 (by decide) (by decide), he 12 (by decide) (by decide), he 13 (by decide) (by decide)]
  exact ⟨a0, a1, a2, ⟨d, hd, e⟩, a4, a5, a6, a7, a8, a10, a13⟩
theorem FB_num {L w d : Nat} {f f' : Nat → Int32} (h : FB L f) (hc : (w = 4 ∧ 1 ≤ d ∧ d ≤ 999) ∨ (w = 5 ∧ 1 ≤ d ∧ d ≤ 99) ∨ (w = 6 ∧ d ≤ 9999) ∨ (w = 7 ∧ d ≤ 9999)) (he : ∀ v, v < 14 → v ≠ w → f' v = f v) (e : f' w = nI d) : FB L f' := by
  obtain ⟨a0, a1, a2, a3, a4, a5, a6, a7, a8, a10, a13⟩ := h
  have h47 : 4 ≤ w ∧ w ≤ 7 := by rcases hc with ⟨h, _⟩ | ⟨h, _⟩ | ⟨h, _⟩ | ⟨h, _⟩ <;> omega
  unfold FB
  rw [he 0 (by decide) (by omega), he 1 (by decide) (by omega), he 2 (by decide) (by omega), he 3 (by decide) (by omega), he 8 (by decide) (by omega), he 9 (by decide) (by omega), he 10 (by decide) (by omega), he 11 (by decide) (by omega), he 12 (by decide) (by omega), he 13 (by decide) (by omega)]
  rcases hc with ⟨rfl, h1, h2⟩ | ⟨rfl, h1, h2⟩ | ⟨rfl, h1⟩ | ⟨rfl, h1⟩
  · rw [he 5 (by decide) (by decide), he 6 (by decide) (by decide), he 7 (by decide) (by decide)]
    exact ⟨a0, a1, a2, a3, ⟨d, h1, h2, e⟩, a5, a6, a7, a8, a10, a13⟩
  · rw [he 4 (by decide) (by decide), he 6 (by decide) (by decide), he 7 (by decide) (by decide)]
    exact ⟨a0, a1, a2, a3, a4, ⟨d, h1, h2, e⟩, a6, a7, a8, a10, a13⟩
  · rw [he 4 (by decide) (by decide), he 5 (by decide) (by decide), he 7 (by decide) (by decide)]
    exact ⟨a0, a1, a2, a3, a4, a5, ⟨d, h1, e⟩, a7, a8, a10, a13⟩
  · rw [he 4 (by decide) (by decide), he 5 (by decide) (by decide), he 6 (by decide) (by decide)]
    exact ⟨a0, a1, a2, a3, a4, a5, a6, ⟨d, h1, e⟩, a8, a10, a13⟩
theorem FB_89 {L d q : Nat} {f f' : Nat → Int32} (h : FB L f) (he : ∀ w, w < 14 → w ≠ 8 → w ≠ 9 → f' w = f w) (hd : d ≤ 300) (hq : 4 ≤ q) (hq2 : q ≤ 999) (e1 : f' 8 = nI d) (e2 : f' 9 = nI q) : FB L f' := by
  obtain ⟨a0, a1, a2, a3, a4, a5, a6, a7, a8, a10, a13⟩ := h
  unfold FB
  rw [he 0 (by decide) (by decide) (by decide), he 1 (by decide) (by decide) (by decide), he 2 (by decide) (by decide) (by decide), he 3 (by decide) (by decide) (by decide), he 4 (by decide) (by decide) (by decide), he 5 (by decide) (by decide) (by decide), he 6 (by decide) (by decide) (by decide), he 7 (by decide) (by decide) (by decide), he 10 (by decide) (by decide) (by decide), he 11 (by decide) (by decide) (by decide), he 12 (by decide) (by decide) (by decide), he 13 (by decide) (by decide) (by decide)]
  exact ⟨a0, a1, a2, a3, a4, a5, a6, a7, Or.inr ⟨d, q, hd, hq, hq2, e1, e2⟩, a10, a13⟩
theorem IP_set {T L P A q w : Nat} {rl rt rp ra rf x y : Int32} {rc gr : Nat → Int64} {rP rF now : Nat → Int32} (h : IR1 T L P A rl rt rp ra rf rc rP rF (upd now 1 y) gr) (hq : q < 16) (hw : w < 14) : IR1 T L P A rl rt rp ra rf rc rP (upd rF (14 * q + w) x) (upd (upd now (20 + 20 * q + w) x) 1 y) gr := by
  have h1 := IR1_set (x := x) h hq hw
  rw [fa_upd_swap now (show 1 ≠ 20 + 20 * q + w by omega)] at h1
  exact h1
/-- cells a, a + 1 .. put to a row of cells -/
def orr (x : Int64) (a : Nat) : Nat → Int64
  | 0 => x
  | m + 1 => orr x a m ||| ((1 : Int64) <<< ((nI (a + m)).toInt64 &&& 63))
theorem uL_same (f : Nat → Int64) (k : Nat) : vp_updL f k (f k) = f := by
  funext j
  by_cases c : j = k
  · rw [c, pk_uLs]
  · rw [pk_uLn c]
theorem uL_twice (f : Nat → Int64) (k : Nat) (x y : Int64) : vp_updL (vp_updL f k x) k y = vp_updL f k y := by
  funext j
  by_cases c : j = k
  · rw [c, pk_uLs, pk_uLs]
  · rw [pk_uLn c, pk_uLn c, pk_uLn c]
theorem cells_C {N T a v : Nat} (hN : 1241 < N) (hT : T < 16) (ha : a ≤ v) (hv : v ≤ 39) (dc : Nat → Int64) : fX5_addCells N dc (nI T) (nI a) (nI v) = some (vp_updL dc T (orr (dc T) a (v + 1 - a))) := by
  unfold fX5_addCells
  rw [show ((dc, nI a) : (Nat → Int64) × Int32) = (fun m => (vp_updL dc T (orr (dc T) a m), nI (a + m))) 0 by
    show _ = (vp_updL dc T (dc T), nI a)
    rw [uL_same]]
  rw [bind_e (itr_0 (r := vp_updL dc T (orr (dc T) a (v + 1 - a))) (fun m => (vp_updL dc T (orr (dc T) a m), nI (a + m))) (v + 1 - a) (show v + 1 - a < N by omega) ?_ ?_)]
  · show fX5_addCells_l3b N (nI T) (nI v) (vp_updL dc T (orr (dc T) a (v + 1 - a))) (nI (a + (v + 1 - a))) = _
    unfold fX5_addCells_l3b
    rw [if_pos (nI_lt (show v < a + (v + 1 - a) by omega) (by omega))]
  · intro m hm
    show fX5_addCells_l3b N (nI T) (nI v) (vp_updL dc T (orr (dc T) a m)) (nI (a + m)) = _
    unfold fX5_addCells_l3b
    rw [if_neg (nI_nlt (show a + m ≤ v by omega) (by omega)), gdi_nI hT (by decide), gdi_nI hT (by decide), bnd_e, nI_clamp (show T < 2 ^ 31 by omega), pk_uLs, uL_twice, bnd_e, nI_1]
    rfl
theorem cells_M {N T a v : Nat} (hN : 1241 < N) (hT : T < 16) (ha : a ≤ v) (hv : v ≤ 39) (sz to fr kd nu fo sp : Int32) (wd : Int64) (u read : Nat → Int32) (rg : Nat → Int64) : itr (fun z => fX12_readPart_l41b N sz to fr kd nu fo sp wd (nI v) u read (nI T) z.1 z.2) N (rg, nI a) = some (vp_updL rg T (orr (rg T) a (v + 1 - a))) := by
  rw [show ((rg, nI a) : (Nat → Int64) × Int32) = (fun m => (vp_updL rg T (orr (rg T) a m), nI (a + m))) 0 by
    show _ = (vp_updL rg T (rg T), nI a)
    rw [uL_same]]
  refine itr_0 (fun m => (vp_updL rg T (orr (rg T) a m), nI (a + m))) (v + 1 - a) (show v + 1 - a < N by omega) ?_ ?_
  · show fX12_readPart_l41b N sz to fr kd nu fo sp wd (nI v) u read (nI T) (vp_updL rg T (orr (rg T) a (v + 1 - a))) (nI (a + (v + 1 - a))) = _
    unfold fX12_readPart_l41b
    rw [if_pos (nI_lt (show v < a + (v + 1 - a) by omega) (by omega))]
  · intro m hm
    show fX12_readPart_l41b N sz to fr kd nu fo sp wd (nI v) u read (nI T) (vp_updL rg T (orr (rg T) a m)) (nI (a + m)) = _
    unfold fX12_readPart_l41b
    rw [if_neg (nI_nlt (show a + m ≤ v by omega) (by omega)), gdi_nI hT (by decide), gdi_nI hT (by decide), bnd_e, nI_clamp (show T < 2 ^ 31 by omega), pk_uLs, uL_twice, bnd_e, nI_1]
    rfl
section RD
variable {N n la i : Nat} {t sa ka va wa : Nat → Int32} {g : G5}
theorem srchT (hN : 1241 < N) (ht : TK t n la sa ka va wa i g) (sz to fr nu fo sp td v1 v3 v4 : Int32) (read u : Nat → Int32) (nm rg : Nat → Int64) : itr (fun z => fX12_readThing_l239b N sz to fr g.2.2.1 nu fo sp g.2.2.2.2 td read u nm rg v1 v3 v4 z) N (7 : Int32) = some (nI (7 + fa_first (fun j => decide (wa i = nI (rhi.getD (7 + j) 0))) 7)) := by
  have hle := fa_first_le (fun j => decide (wa i = nI (rhi.getD (7 + j) 0))) 7
  rw [show (7 : Int32) = (fun j => nI (7 + j)) 0 from rfl]
  refine itr_0 (fun j => nI (7 + j)) (fa_first (fun j => decide (wa i = nI (rhi.getD (7 + j) 0))) 7) (by omega) ?_ ?_
  · show fX12_readThing_l239b N sz to fr g.2.2.1 nu fo sp g.2.2.2.2 td read u nm rg v1 v3 v4 (nI (7 + fa_first (fun j => decide (wa i = nI (rhi.getD (7 + j) 0))) 7)) = _
    unfold fX12_readThing_l239b
    by_cases c : fa_first (fun j => decide (wa i = nI (rhi.getD (7 + j) 0))) 7 < 7
    · have h1 := of_decide_eq_true (fa_first_yes (fun j => decide (wa i = nI (rhi.getD (7 + j) 0))) 7 c)
      generalize fa_first (fun j => decide (wa i = nI (rhi.getD (7 + j) 0))) 7 = m at c h1 ⊢
      rw [if_neg (show ¬ (13 : Int32) < nI (7 + m) from nI_nlt (a := 13) (by omega) (by decide)), bind_e (isW_e (q := 7 + m) ht (by omega)), if_pos h1, if_neg (show ¬ (1 : Int32) = 0 by decide)]
    · rw [show fa_first (fun j => decide (wa i = nI (rhi.getD (7 + j) 0))) 7 = 7 by omega, if_pos (show (13 : Int32) < nI (7 + 7) by decide)]
  · intro m hm
    have h1 := of_decide_eq_false (fa_first_no (fun j => decide (wa i = nI (rhi.getD (7 + j) 0))) 7 m hm)
    show fX12_readThing_l239b N sz to fr g.2.2.1 nu fo sp g.2.2.2.2 td read u nm rg v1 v3 v4 (nI (7 + m)) = _
    unfold fX12_readThing_l239b
    rw [if_neg (show ¬ (13 : Int32) < nI (7 + m) from nI_nlt (a := 13) (by omega) (by decide)), bind_e (isW_e (q := 7 + m) ht (by omega)), if_neg h1, if_pos rfl, bnd_e, nI_1]
    rfl
theorem srchL (hN : 1241 < N) (ht : TK t n la sa ka va wa i g) (sz to fr nu fo sp td had : Int32) (read u : Nat → Int32) (nm rg : Nat → Int64) : itr (fun z => fX12_readLine_l2b N sz to fr g.2.2.1 nu fo sp g.2.2.2.2 td had read u nm rg z) N (0 : Int32) = some (nI (fa_first (fun j => decide (wa i = nI (rhi.getD j 0))) 7)) := by
  have hle := fa_first_le (fun j => decide (wa i = nI (rhi.getD j 0))) 7
  rw [show (0 : Int32) = (fun j => nI j) 0 from rfl]
  refine itr_0 (fun j => nI j) (fa_first (fun j => decide (wa i = nI (rhi.getD j 0))) 7) (by omega) ?_ ?_
  · show fX12_readLine_l2b N sz to fr g.2.2.1 nu fo sp g.2.2.2.2 td had read u nm rg (nI (fa_first (fun j => decide (wa i = nI (rhi.getD j 0))) 7)) = _
    unfold fX12_readLine_l2b
    by_cases c : fa_first (fun j => decide (wa i = nI (rhi.getD j 0))) 7 < 7
    · have h1 := of_decide_eq_true (fa_first_yes (fun j => decide (wa i = nI (rhi.getD j 0))) 7 c)
      generalize fa_first (fun j => decide (wa i = nI (rhi.getD j 0))) 7 = m at c h1 ⊢
      rw [if_neg (show ¬ (6 : Int32) < nI m from nI_nlt (a := 6) (by omega) (by decide)), bind_e (isW_e (q := m) ht (by omega)), if_pos h1, if_neg (show ¬ (1 : Int32) = 0 by decide)]
    · rw [show fa_first (fun j => decide (wa i = nI (rhi.getD j 0))) 7 = 7 by omega, if_pos (show (6 : Int32) < nI 7 by decide)]
  · intro m hm
    have h1 := of_decide_eq_false (fa_first_no (fun j => decide (wa i = nI (rhi.getD j 0))) 7 m hm)
    show fX12_readLine_l2b N sz to fr g.2.2.1 nu fo sp g.2.2.2.2 td had read u nm rg (nI m) = _
    unfold fX12_readLine_l2b
    rw [if_neg (show ¬ (6 : Int32) < nI m from nI_nlt (a := 6) (by omega) (by decide)), bind_e (isW_e (q := m) ht (by omega)), if_neg h1, if_pos rfl, bnd_e, nI_1]
end RD

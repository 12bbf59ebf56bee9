/-! names, side by side -/
def NMI (L T : Nat) (ln tn : Nat → Int32) (nm : Nat → Int64) : Prop := ∃ f h : Nat → Nat, (∀ k, k < L → f k < 2 ^ 30 ∧ ln k = nI (f k) ∧ nm k = lN (f k)) ∧ (∀ k, k < T → h k < 2 ^ 30 ∧ tn k = nI (h k) ∧ nm (8 + k) = lN (h k)) ∧ ∀ k j, k < L → j < T → f k ≠ h j
theorem indexOf_e {N nq M i : Nat} (hN : 1241 < N) (hM : M ≤ nq) (hq : nq ≤ 16) (hi : i ≤ 1200) (q1 va : Nat → Int32) : fX4_indexOf N nq (nI i) q1 va (nI M) = some (if fa_first (fun k => decide (q1 k = va i)) M < M then nI (fa_first (fun k => decide (q1 k = va i)) M) else -1) := by
  unfold fX4_indexOf
  rw [bind_e (itr_first (fun k => decide (q1 k = va i)) (show M < N by omega) ?_ ?_)]
  · by_cases c : fa_first (fun k => decide (q1 k = va i)) M < M
    · rw [if_pos c, if_pos c]
      rfl
    · rw [if_neg c, if_neg c]
      rfl
  · show fX4_indexOf_l2b N nq (nI i) q1 va (nI M) (nI M) = _
    unfold fX4_indexOf_l2b
    rw [if_pos (nI_le (Nat.le_refl M) (by omega))]
  · intro k hk
    show fX4_indexOf_l2b N nq (nI i) q1 va (nI M) (nI k) = _
    unfold fX4_indexOf_l2b
    rw [if_neg (nI_ge hk (by omega)), if_neg (show ¬ Int32.ofNat nq ≤ nI k from nI_ge (show k < nq by omega) (by omega)), gdi_nI (show k < nq by omega) (by omega), gdi_nI (show i < 1201 by omega) (by decide), nI_clamp (show k < 2 ^ 31 by omega), nI_clamp (show i < 2 ^ 31 by omega)]
    by_cases c : q1 k = va i
    · rw [if_pos c, if_pos (decide_eq_true c)]
    · rw [if_neg c, if_neg (by rw [decide_eq_false c]; decide), bnd_e, nI_1]
theorem findRead_e {N L T : Nat} (hN : 1241 < N) (hL : L ≤ 8) (hT : T ≤ 16) {read : Nat → Int32} {nm : Nat → Int64} (h0 : read 0 = nI L) (h1 : read 1 = nI T) (w : Int64) : fX12_findRead N w read nm = some (if fa_first (fun k => decide (nm k = w)) L < L then nI (fa_first (fun k => decide (nm k = w)) L) else if fa_first (fun k => decide (nm (8 + k) = w)) T < T then nI (8 + fa_first (fun k => decide (nm (8 + k) = w)) T) else -1) := by
  unfold fX12_findRead
  rw [bind_e (itr_first (fun k => decide (nm k = w)) (show L < N by omega) ?_ ?_)]
  · by_cases c : fa_first (fun k => decide (nm k = w)) L < L
    · rw [if_pos c, if_pos c]
      rfl
    · rw [if_neg c, if_neg c]
      show (itr (fun z => fX12_findRead_l36b N w read nm z) N (0 : Int32)).bind _ = _
      rw [bind_e (itr_firstR (fun k => decide (nm (8 + k) = w)) (fun k => nI (8 + k)) (show T < N by omega) ?_ ?_)]
      · by_cases c2 : fa_first (fun k => decide (nm (8 + k) = w)) T < T
        · rw [if_pos c2, if_pos c2]
          rfl
        · rw [if_neg c2, if_neg c2]
          rfl
      · show fX12_findRead_l36b N w read nm (nI T) = _
        unfold fX12_findRead_l36b
        rw [gdi_e (i := 1) (n := 340) 1 rfl (by decide) (by decide), show read ((1 : Int32).toNatClampNeg) = nI T from h1, if_pos (nI_le (Nat.le_refl T) (by omega))]
      · intro k hk
        show fX12_findRead_l36b N w read nm (nI k) = _
        unfold fX12_findRead_l36b
        rw [gdi_e (i := 1) (n := 340) 1 rfl (by decide) (by decide), show read ((1 : Int32).toNatClampNeg) = nI T from h1, if_neg (nI_ge hk (by omega)), show (8 : Int32) + nI k = nI (8 + k) from nI_add 8 k, gdi_nI (show 8 + k < 24 by omega) (by decide), nI_clamp (show 8 + k < 2 ^ 31 by omega)]
        by_cases c2 : nm (8 + k) = w
        · rw [if_pos ((lg_cmp_eq _ _).mpr c2), if_pos (decide_eq_true c2)]
        · rw [if_neg (fun y => c2 ((lg_cmp_eq _ _).mp y)), if_neg (by rw [decide_eq_false c2]; decide), bnd_e, nI_1]
  · show fX12_findRead_l2b N w read nm (nI L) = _
    unfold fX12_findRead_l2b
    rw [gdi_e (i := 0) (n := 340) 0 rfl (by decide) (by decide), show read ((0 : Int32).toNatClampNeg) = nI L from h0, if_pos (nI_le (Nat.le_refl L) (by omega))]
  · intro k hk
    show fX12_findRead_l2b N w read nm (nI k) = _
    unfold fX12_findRead_l2b
    rw [gdi_e (i := 0) (n := 340) 0 rfl (by decide) (by decide), show read ((0 : Int32).toNatClampNeg) = nI L from h0, if_neg (nI_ge hk (by omega)), gdi_nI (show k < 24 by omega) (by decide), nI_clamp (show k < 2 ^ 31 by omega)]
    by_cases c2 : nm k = w
    · rw [if_pos ((lg_cmp_eq _ _).mpr c2), if_pos (decide_eq_true c2)]
    · rw [if_neg (fun y => c2 ((lg_cmp_eq _ _).mp y)), if_neg (by rw [decide_eq_false c2]; decide), bnd_e, nI_1]
theorem NM_L {L T v : Nat} {ln tn : Nat → Int32} {nm : Nat → Int64} (h : NMI L T ln tn nm) (hv : v < 2 ^ 30) : fa_first (fun k => decide (nm k = lN v)) L = fa_first (fun k => decide (ln k = nI v)) L := by
  obtain ⟨f, g, h1, h2, h3⟩ := h
  refine ff_cong (fun k hk => ?_)
  obtain ⟨a, b, c⟩ := h1 k hk
  rw [b, c]
  by_cases e : f k = v
  · rw [e, decide_eq_true rfl, decide_eq_true rfl]
  · rw [decide_eq_false (fun y => e ((fb_lN_inj (by omega) (by omega)).mp y)), decide_eq_false (fun y => e ((nI_eq (by omega) (by omega)).mp y))]
theorem NM_T {L T v : Nat} {ln tn : Nat → Int32} {nm : Nat → Int64} (h : NMI L T ln tn nm) (hv : v < 2 ^ 30) : fa_first (fun k => decide (nm (8 + k) = lN v)) T = fa_first (fun k => decide (tn k = nI v)) T := by
  obtain ⟨f, g, h1, h2, h3⟩ := h
  refine ff_cong (fun k hk => ?_)
  obtain ⟨a, b, c⟩ := h2 k hk
  rw [b, c]
  by_cases e : g k = v
  · rw [e, decide_eq_true rfl, decide_eq_true rfl]
  · rw [decide_eq_false (fun y => e ((fb_lN_inj (by omega) (by omega)).mp y)), decide_eq_false (fun y => e ((nI_eq (by omega) (by omega)).mp y))]
/-- no name is a land's and a thing's -/
theorem NM_LT {L T v : Nat} {ln tn : Nat → Int32} {nm : Nat → Int64} (h : NMI L T ln tn nm) (hv : v < 2 ^ 30) (c : fa_first (fun k => decide (ln k = nI v)) L < L) : ¬ fa_first (fun k => decide (tn k = nI v)) T < T := by
  intro c2
  obtain ⟨f, g, h1, h2, h3⟩ := h
  have e1 := of_decide_eq_true (fa_first_yes _ _ c)
  have e2 := of_decide_eq_true (fa_first_yes _ _ c2)
  obtain ⟨a1, a2, _⟩ := h1 _ c
  obtain ⟨b1, b2, _⟩ := h2 _ c2
  rw [a2] at e1
  rw [b2] at e2
  have e1 := (nI_eq (by omega) (by omega)).mp e1
  have e2 := (nI_eq (by omega) (by omega)).mp e2
  exact h3 _ _ c c2 (e1.trans e2.symm)
theorem NMI_land {L T v : Nat} {ln tn : Nat → Int32} {nm : Nat → Int64} (h : NMI L T ln tn nm) (hL : L < 8) (hv : v < 2 ^ 30) (hn : ∀ k, k < T → ¬ tn k = nI v) : NMI (L + 1) T (upd ln L (nI v)) tn (vp_updL nm L (lN v)) := by
  obtain ⟨f, g, h1, h2, h3⟩ := h
  refine ⟨fun k => if k = L then v else f k, g, fun k hk => ?_, fun k hk => ?_, fun k j hk hj => ?_⟩
  · by_cases c : k = L
    · subst c
      show (if k = k then v else f k) < 2 ^ 30 ∧ upd ln k (nI v) k = nI (if k = k then v else f k) ∧ vp_updL nm k (lN v) k = lN (if k = k then v else f k)
      rw [if_pos rfl, pk_us, pk_uLs]
      exact ⟨hv, rfl, rfl⟩
    · show (if k = L then v else f k) < 2 ^ 30 ∧ upd ln L (nI v) k = nI (if k = L then v else f k) ∧ vp_updL nm L (lN v) k = lN (if k = L then v else f k)
      rw [if_neg c, pk_un c, pk_uLn c]
      exact h1 k (by omega)
  · rw [pk_uLn (show 8 + k ≠ L by omega)]
    exact h2 k hk
  · show (if k = L then v else f k) ≠ g j
    by_cases c : k = L
    · rw [if_pos c]
      intro e
      exact hn j hj (by rw [(h2 j hj).2.1, e])
    · rw [if_neg c]
      exact h3 k j (by omega) hj
theorem NMI_thing {L T v : Nat} {ln tn : Nat → Int32} {nm : Nat → Int64} (h : NMI L T ln tn nm) (hL : L ≤ 8) (hv : v < 2 ^ 30) (hn : ∀ k, k < L → ¬ ln k = nI v) : NMI L (T + 1) ln (upd tn T (nI v)) (vp_updL nm (8 + T) (lN v)) := by
  obtain ⟨f, g, h1, h2, h3⟩ := h
  refine ⟨f, fun k => if k = T then v else g k, fun k hk => ?_, fun k hk => ?_, fun k j hk hj => ?_⟩
  · rw [pk_uLn (show k ≠ 8 + T by omega)]
    exact h1 k hk
  · by_cases c : k = T
    · subst c
      show (if k = k then v else g k) < 2 ^ 30 ∧ upd tn k (nI v) k = nI (if k = k then v else g k) ∧ vp_updL nm (8 + k) (lN v) (8 + k) = lN (if k = k then v else g k)
      rw [if_pos rfl, pk_us, pk_uLs]
      exact ⟨hv, rfl, rfl⟩
    · show (if k = T then v else g k) < 2 ^ 30 ∧ upd tn T (nI v) k = nI (if k = T then v else g k) ∧ vp_updL nm (8 + T) (lN v) (8 + k) = lN (if k = T then v else g k)
      rw [if_neg c, pk_un c, pk_uLn (show 8 + k ≠ 8 + T by omega)]
      exact h2 k (by omega)
  · show f k ≠ (if j = T then v else g j)
    by_cases c : j = T
    · rw [if_pos c]
      intro e
      exact hn k hk (by rw [(h1 k hk).2.1, e])
    · rw [if_neg c]
      exact h3 k j hk (by omega)
section RD
variable {N n la i L T : Nat} {t u sa ka va wa ln tn read dF : Nat → Int32} {nm : Nat → Int64} {g : G5}
/-- a new name, or a FAULT -/
theorem r_new (h : RC N n la t u sa ka va wa) (ht : TK t n la sa ka va wa i g) (hL : L ≤ 8) (hT : T ≤ 16) (h0 : read 0 = nI L) (h1 : read 1 = nI T) (hn : NMI L T ln tn nm) {s : Nat} (hs : s < 24) (fk fp fo sp : Int32) :
    (∃ k p, VP la sa p ∧ fX4_isNewName N fk fp (nI i) ka sa (nI L) (nI T) ln va tn = some (k, p, 0) ∧ fX12_readNew N (nI n) g.1 g.2.1 g.2.2.1 g.2.2.2.1 fo sp g.2.2.2.2 read nm u (nI s) = some (g.1, g.2.1, g.2.2.1, g.2.2.2.1, k, p, g.2.2.2.2, nm, 0)) ∨
    (∃ v g', i < la ∧ v < 2 ^ 30 ∧ va i = nI v ∧ (∀ k, k < L → ¬ ln k = nI v) ∧ (∀ k, k < T → ¬ tn k = nI v) ∧ fX4_isNewName N fk fp (nI i) ka sa (nI L) (nI T) ln va tn = some (fk, fp, 1) ∧ fX12_readNew N (nI n) g.1 g.2.1 g.2.2.1 g.2.2.2.1 fo sp g.2.2.2.2 read nm u (nI s) = some (g'.1, g'.2.1, g'.2.2.1, g'.2.2.2.1, fo, sp, g'.2.2.2.2, vp_updL nm s (lN v), 1) ∧ TK t n la sa ka va wa (i + 1) g') := by
  have hl := rd_la h
  have hi := TK_le ht
  unfold fX4_isNewName fX12_readNew
  rw [gdi_nI (show i < 1201 by omega) (by decide), nI_clamp (show i < 2 ^ 31 by omega), bind_e (isName_e h.1 ht)]
  by_cases c : ka i = 4
  · obtain ⟨hi2, hk, _, v, hv, h2, h3, _⟩ := TK_name ht c
    have ej : fX4_isNewName_j60 N fk fp (nI i) ka sa (nI L) (nI T) ln va tn = some (3, sa i, 0) := by
      unfold fX4_isNewName_j60
      rw [bind_e (refuse_e (by omega) fk fp 3 sa), gdb_e (Or.inl rfl)]
    rw [if_pos c, if_pos c, if_neg (show ¬ (1 : Int32) = 0 by decide), bind_e (indexOf_e h.1 hL (by decide) (show i ≤ 1200 by omega) ln va), bind_e (findRead_e h.1 hL hT h0 h1 _), h3, NM_L hn hv, NM_T hn hv, h2]
    by_cases c1 : fa_first (fun k => decide (ln k = nI v)) L < L
    · refine Or.inl ⟨3, sa i, (TK_VP ht), ?_, ?_⟩
      · rw [if_pos c1, if_neg (nI_m1 (by omega)), ej]
      · rw [if_pos c1, if_neg (nI_m1 (by omega)), bind_e (bad_e _ _ _ _ _), hk, if_neg (by decide), gdb_e (Or.inl rfl), TK_from ht]
    · rw [if_neg c1, if_pos rfl, bind_e (indexOf_e h.1 hT (by decide) (show i ≤ 1200 by omega) tn va), h2]
      by_cases c2 : fa_first (fun k => decide (tn k = nI v)) T < T
      · refine Or.inl ⟨3, sa i, (TK_VP ht), ?_, ?_⟩
        · rw [if_pos c2, if_neg (nI_m1 (by omega)), ej]
        · rw [if_neg c1, if_pos c2, if_neg (nI_m1 (by omega)), bind_e (bad_e _ _ _ _ _), hk, if_neg (by decide), gdb_e (Or.inl rfl), TK_from ht]
      · obtain ⟨g', e1, e2⟩ := rd_go h hi2 ht
        refine Or.inr ⟨v, g', hi2, hv, rfl, fun k hk y => c1 (ff_yes hk (decide_eq_true y)), fun k hk y => c2 (ff_yes hk (decide_eq_true y)), ?_, ?_, e2⟩
        · rw [if_neg c2, if_pos rfl]
        · rw [h3] at e1
          rw [if_neg c1, if_neg c2, if_pos rfl, gdi_nI hs (by decide), bnd_e, bind_e e1, nI_clamp (show s < 2 ^ 31 by omega)]
  · refine Or.inl ⟨1, sa i, (TK_VP ht), ?_, ?_⟩
    · rw [if_neg c, bind_e (refuse_e (by omega) fk fp 1 sa), gdb_e (Or.inl rfl)]
    · rw [if_neg c, if_pos rfl, bind_e (bad_e _ _ _ _ _), gdb_e (Or.inl rfl), TK_from ht]
      by_cases c1 : g.2.2.1 = 1
      · rw [if_pos c1]
      · rw [if_neg c1]
/-- a land's name, or a FAULT: the class -/
theorem r_land (h : RC N n la t u sa ka va wa) (ht : TK t n la sa ka va wa i g) (hL : L ≤ 8) (hT : T ≤ 16) (h0 : read 0 = nI L) (h1 : read 1 = nI T) (hn : NMI L T ln tn nm) (fk fp : Int32) :
    (fX4_indexOfName N 8 fk fp (nI i) ka sa ln va (nI L) = some (1, sa i, -1) ∧ fX12_isName N g.2.2.1 g.2.2.2.2 = some 0) ∨
    (i < la ∧ g.2.2.1 = 2 ∧ fX12_isName N g.2.2.1 g.2.2.2.2 = some 1 ∧ fX4_indexOfName N 8 fk fp (nI i) ka sa ln va (nI L) = some (3, sa i, -1) ∧ (fX12_findRead N g.2.2.2.2 read nm = some (-1) ∨ ∃ k, k < T ∧ fX12_findRead N g.2.2.2.2 read nm = some (nI (8 + k)))) ∨
    (i < la ∧ fX12_isName N g.2.2.1 g.2.2.2.2 = some 1 ∧ ∃ k, k < L ∧ fX4_indexOfName N 8 fk fp (nI i) ka sa ln va (nI L) = some (fk, fp, nI k) ∧ fX12_findRead N g.2.2.2.2 read nm = some (nI k)) := by
  have hl := rd_la h
  have hi := TK_le ht
  unfold fX4_indexOfName
  rw [gdi_nI (show i < 1201 by omega) (by decide), nI_clamp (show i < 2 ^ 31 by omega), isName_e h.1 ht]
  by_cases c : ka i = 4
  · obtain ⟨hi2, hk, _, v, hv, h2, h3, _⟩ := TK_name ht c
    rw [if_pos c, if_pos c, bind_e (indexOf_e h.1 hL (by decide) (show i ≤ 1200 by omega) ln va), findRead_e h.1 hL hT h0 h1 _, h3, NM_L hn hv, NM_T hn hv, h2]
    by_cases c1 : fa_first (fun k => decide (ln k = nI v)) L < L
    · refine Or.inr (Or.inr ⟨hi2, rfl, _, c1, ?_, ?_⟩)
      · rw [if_pos c1, if_neg (nI_m1 (by omega))]
      · rw [if_pos c1]
    · refine Or.inr (Or.inl ⟨hi2, hk, rfl, ?_, ?_⟩)
      · rw [if_neg c1, if_pos rfl, bind_e (refuse_e (by omega) fk fp 3 sa)]
      · rw [if_neg c1]
        by_cases c2 : fa_first (fun k => decide (tn k = nI v)) T < T
        · exact Or.inr ⟨_, c2, by rw [if_pos c2]⟩
        · exact Or.inl (by rw [if_neg c2])
  · refine Or.inl ⟨?_, ?_⟩
    · rw [if_neg c, bind_e (refuse_e (by omega) fk fp 1 sa)]
    · rw [if_neg c]
/-- a thing of which this isn't told yet, or a FAULT -/
theorem r_once (h : RC N n la t u sa ka va wa) (hi0 : i < la) (ht : TK t n la sa ka va wa (i + 1) g) (hL : L ≤ 8) (hT : T ≤ 16) (h0 : read 0 = nI L) (h1 : read 1 = nI T) (hn : NMI L T ln tn nm) (hF : ∀ t, t < T → ∀ w, w < 14 → dF (14 * t + w) = read (20 + 20 * t + w)) {w : Nat} (hw : w < 14) (fk fp fo sp td : Int32) :
    (∃ k p td', VP la sa p ∧ fX4_passThing N fk fp (nI i) (nI la) (nI T) ka sa tn va dF (nI w) = some (k, p, nI (i + 1), -1) ∧ fX12_readOnce N (nI n) g.1 g.2.1 g.2.2.1 g.2.2.2.1 fo sp g.2.2.2.2 td read nm u (nI w) = some (g.1, g.2.1, g.2.2.1, g.2.2.2.1, k, p, g.2.2.2.2, td', 0)) ∨
    (∃ q g', i + 1 < la ∧ q < T ∧ dF (14 * q + w) = -1 ∧ fX4_passThing N fk fp (nI i) (nI la) (nI T) ka sa tn va dF (nI w) = some (fk, fp, nI (i + 2), nI q) ∧ fX12_readOnce N (nI n) g.1 g.2.1 g.2.2.1 g.2.2.2.1 fo sp g.2.2.2.2 td read nm u (nI w) = some (g'.1, g'.2.1, g'.2.2.1, g'.2.2.2.1, fo, sp, g'.2.2.2.2, nI (20 + 20 * q), 1) ∧ TK t n la sa ka va wa (i + 2) g') := by
  have hl := rd_la h
  have hi := TK_le ht
  unfold fX4_passThing fX12_readOnce
  rw [bind_e (pass_e hi0 hl), bind_e (isName_e h.1 ht)]
  unfold fX4_indexOfName
  rw [gdi_nI (show i + 1 < 1201 by omega) (by decide), nI_clamp (show i + 1 < 2 ^ 31 by omega)]
  by_cases c : ka (i + 1) = 4
  · obtain ⟨hi2, hk, _, v, hv, h2, h3, _⟩ := TK_name ht c
    rw [if_pos c, if_pos c, if_neg (show ¬ (1 : Int32) = 0 by decide), bind_e (indexOf_e h.1 hT (by decide) (show i + 1 ≤ 1200 by omega) tn va), bind_e (findRead_e h.1 hL hT h0 h1 _), h3, NM_L hn hv, NM_T hn hv, h2]
    by_cases c2 : fa_first (fun k => decide (tn k = nI v)) T < T
    · have c1 : ¬ fa_first (fun k => decide (ln k = nI v)) L < L := fun y => NM_LT hn hv y c2
      rw [if_neg c1, if_pos c2, if_pos c2]
      generalize fa_first (fun k => decide (tn k = nI v)) T = q at c2 ⊢
      rw [if_neg (show ¬ nI q = -1 from nI_m1 (by omega)), bind_e (rfl : (some (fk, fp, nI q) : Option (Int32 × Int32 × Int32)) = some (fk, fp, nI q))]
      have e8 : nI (8 + q) - (8 : Int32) = nI q := by
        rw [show nI (8 + q) - (8 : Int32) = nI (8 + q - 8) from pk_sub (b := 8) (by omega), show 8 + q - 8 = q by omega]
      have e20 : (20 : Int32) + (20 : Int32) * nI q = nI (20 + 20 * q) := by
        rw [show (20 : Int32) * nI q = nI (20 * q) from pk_mul 20 q]
        exact nI_add 20 (20 * q)
      rw [if_pos (show (8 : Int32) ≤ nI (8 + q) from nI_le (a := 8) (by omega) (by omega)), e8, e20, bnd_e, nI_add, gdi_nI (show 20 + 20 * q + w < 340 by omega) (by decide), nI_clamp (show 20 + 20 * q + w < 2 ^ 31 by omega), ← hF q c2 w hw]
      show (∃ k p td', VP la sa p ∧ (if nI q = -1 then _ else (fX5_told dF (nI q) (nI w)).bind _) = _ ∧ _) ∨ ∃ q' g', _ ∧ _ ∧ _ ∧ (if nI q = -1 then _ else (fX5_told dF (nI q) (nI w)).bind _) = _ ∧ _
      rw [if_neg (show ¬ nI q = -1 from nI_m1 (by omega)), bind_e (told_e (show q < 16 by omega) hw dF)]
      by_cases c3 : dF (14 * q + w) = -1
      · obtain ⟨g', e1, e2⟩ := rd_go h hi2 ht
        rw [h3] at e1
        refine Or.inr ⟨q, g', hi2, c2, c3, ?_, ?_, e2⟩
        · rw [if_pos c3, bind_e (pass_e hi2 hl)]
        · rw [if_pos c3, bind_e e1]
      · refine Or.inl ⟨3, sa (i + 1), nI (20 + 20 * q), (TK_VP ht), ?_, ?_⟩
        · rw [if_neg c3, bind_e (refuse_e (by omega) _ _ 3 sa)]
        · rw [if_neg c3, bind_e (bad_e _ _ _ _ _), hk, if_neg (by decide), gdb_e (Or.inl rfl), TK_from ht]
    · refine Or.inl ⟨3, sa (i + 1), td, (TK_VP ht), ?_, ?_⟩
      · rw [if_neg c2, if_pos rfl, bind_e (refuse_e (by omega) fk fp 3 sa)]
        rfl
      · have c8 : ¬ (8 : Int32) ≤ (if fa_first (fun k => decide (ln k = nI v)) L < L then nI (fa_first (fun k => decide (ln k = nI v)) L) else if fa_first (fun k => decide (tn k = nI v)) T < T then nI (8 + fa_first (fun k => decide (tn k = nI v)) T) else -1) := by
          by_cases c1 : fa_first (fun k => decide (ln k = nI v)) L < L
          · rw [if_pos c1]
            exact nI_ge (b := 8) (by omega) (by decide)
          · rw [if_neg c1, if_neg c2]
            decide
        rw [if_neg c8, bind_e (bad_e _ _ _ _ _), hk, if_neg (by decide), gdb_e (Or.inl rfl), TK_from ht]
  · refine Or.inl ⟨1, sa (i + 1), td, (TK_VP ht), ?_, ?_⟩
    · rw [if_neg c, bind_e (refuse_e (by omega) fk fp 1 sa)]
      rfl
    · rw [if_neg c, if_pos rfl, bind_e (bad_e _ _ _ _ _), gdb_e (Or.inl rfl), TK_from ht]
      by_cases c1 : g.2.2.1 = 1
      · rw [if_pos c1]
      · rw [if_neg c1]
end RD

/-! reading, side by side: tokens, numbers, names -/
def RC (N n la : Nat) (t u sa ka va wa : Nat → Int32) : Prop := 1241 < N ∧ n ≤ 1240 ∧ TU t u ∧ CUT t n la sa ka va wa
theorem itr_l {σ ρ : Type} {body : σ → Option (σ ⊕ ρ)} {n : Nat} {s s' : σ} (h : body s = some (.inl s')) : itr body (n + 1) s = itr body n s' := by
  rw [itr, h]
theorem itr_r {σ ρ : Type} {body : σ → Option (σ ⊕ ρ)} {n : Nat} {s : σ} {r : ρ} (h : body s = some (.inr r)) : itr body (n + 1) s = some r := by
  rw [itr, h]
theorem gdw_e {α : Type} {x : Int32} {o : Option α} (h : okw x) : gdw x o = o := if_pos h
theorem pass_e {i la : Nat} (hi : i < la) (hl : la ≤ 1200) : fX4_pass (nI i) (nI la) = some (nI (i + 1)) := by
  unfold fX4_pass
  rw [if_neg (nI_ge hi (by omega)), bnd_e, nI_1]
theorem refuse_e {i : Nat} (hi : i ≤ 1200) (fk fp k : Int32) (sa : Nat → Int32) : fX4_refuse fk fp (nI i) sa k = some (k, sa i, 0) := by
  unfold fX4_refuse
  rw [gdi_nI (by omega) (by decide), bnd_e, nI_clamp (by omega)]
theorem bad_e (f k fo sp x : Int32) : fX12_bad f k fo sp x = some (if k = 1 then 1 else x, f, 0) := by
  unfold fX12_bad
  by_cases c : k = 1
  · rw [if_pos c, if_pos c]
  · rw [if_neg c, if_neg c]
def rhi : List Nat := [0, 1, 2, 3, 4, 5, 6, 8, 9, 11, 12, 13, 14, 10, 7]
theorem wordOf_q : ∀ q, q < 15 → fX12_wordOf (nI q) = some (lN (wv (rhi.getD q 0))) := by decide +kernel
theorem rhi_lt : ∀ q, q < 15 → rhi.getD q 0 < 15 := by decide +kernel
theorem rhi_on : ∀ k, k < 15 → ∃ q, q < 15 ∧ rhi.getD q 0 = k := by decide +kernel
def VP (la : Nat) (sa : Nat → Int32) (p : Int32) : Prop := ∃ j, j ≤ la ∧ p = sa j
section RD
variable {N n la i : Nat} {t u sa ka va wa : Nat → Int32} {g : G5}
theorem rd_go (h : RC N n la t u sa ka va wa) (hi : i < la) (ht : TK t n la sa ka va wa i g) : ∃ g' : G5, fX12_go N (nI n) g.1 g.2.1 g.2.2.1 g.2.2.2.1 g.2.2.2.2 u = some g' ∧ TK t n la sa ka va wa (i + 1) g' :=
  go_s h.1 h.2.1 h.2.2.1 h.2.2.2 hi ht
theorem rd_la (h : RC N n la t u sa ka va wa) : la ≤ 1200 := h.2.2.2.1
theorem TK_le (ht : TK t n la sa ka va wa i g) : i ≤ la := by
  rcases ht with ⟨h, _⟩ | ⟨h, _⟩ <;> omega
theorem TK_VP (ht : TK t n la sa ka va wa i g) : VP la sa (sa i) := ⟨i, TK_le ht, rfl⟩
theorem TK_from (ht : TK t n la sa ka va wa i g) : g.2.1 = sa i := by
  rcases ht with ⟨_, _, h, _⟩ | ⟨_, h, _⟩
  · exact h
  · exact h
theorem TK_num (ht : TK t n la sa ka va wa i g) (c : ka i = 3) : i < la ∧ g.2.2.1 = 3 ∧ ∃ v, v ≤ 9999 ∧ va i = nI v ∧ g.2.2.2.1 = nI v := by
  rcases ht with ⟨hi, _, _, hd⟩ | ⟨_, _, h0, _⟩
  · rcases hd with ⟨h, _⟩ | ⟨h, _⟩ | ⟨_, h, _, v, h1, h2, h3⟩ | ⟨_, v, _, _, _, ⟨h, _⟩ | ⟨h, _⟩⟩
    · rw [c] at h
      exact absurd h (by decide)
    · rw [c] at h
      exact absurd h (by decide)
    · exact ⟨hi, h, v, h1, h2, h3⟩
    · rw [c] at h
      exact absurd h (by decide)
    · rw [c] at h
      exact absurd h (by decide)
  · rw [c] at h0
    exact absurd h0 (by decide)
theorem TK_kind (ht : TK t n la sa ka va wa i g) : (g.2.2.1 = 3 ↔ ka i = 3) ∧ (g.2.2.1 = 4 ↔ ka i = 2) ∧ (g.2.2.1 = 2 ↔ (ka i = 4 ∨ ka i = 5)) ∧ (g.2.2.1 = 0 ↔ (i = la ∧ n ≤ 1200)) ∧ (ka i = 0 ↔ i = la) := by
  have f : ∀ (x y : Int32), x = y → ∀ z : Int32, ¬ y = z → ¬ x = z := fun x y e z h q => h (e ▸ q)
  rcases ht with ⟨hi, _, _, hd⟩ | ⟨hi, _, h0, _, h1⟩
  · have hn : ¬ i = la := by omega
    rcases hd with ⟨h, k, _⟩ | ⟨h, k, _⟩ | ⟨h, k, _⟩ | ⟨k, v, _, _, _, ⟨h, _⟩ | ⟨h, _⟩⟩
    · rw [h, k]
      exact ⟨by decide, by decide, by decide, ⟨fun q => absurd q (by decide), fun q => absurd q.1 hn⟩, ⟨fun q => absurd q (by decide), fun q => absurd q hn⟩⟩
    · rw [h, k]
      exact ⟨by decide, by decide, by decide, ⟨fun q => absurd q (by decide), fun q => absurd q.1 hn⟩, ⟨fun q => absurd q (by decide), fun q => absurd q hn⟩⟩
    · rw [h, k]
      exact ⟨by decide, by decide, by decide, ⟨fun q => absurd q (by decide), fun q => absurd q.1 hn⟩, ⟨fun q => absurd q (by decide), fun q => absurd q hn⟩⟩
    · rw [h, k]
      exact ⟨by decide, by decide, by decide, ⟨fun q => absurd q (by decide), fun q => absurd q.1 hn⟩, ⟨fun q => absurd q (by decide), fun q => absurd q hn⟩⟩
    · rw [h, k]
      exact ⟨by decide, by decide, by decide, ⟨fun q => absurd q (by decide), fun q => absurd q.1 hn⟩, ⟨fun q => absurd q (by decide), fun q => absurd q hn⟩⟩
  · rw [h0, h1]
    by_cases c : n ≤ 1200
    · rw [if_pos c]
      exact ⟨by decide, by decide, by decide, ⟨fun _ => ⟨hi, c⟩, fun _ => rfl⟩, ⟨fun _ => hi, fun _ => rfl⟩⟩
    · rw [if_neg c]
      exact ⟨by decide, by decide, by decide, ⟨fun q => absurd q (by decide), fun q => absurd q.2 c⟩, ⟨fun _ => hi, fun _ => rfl⟩⟩
theorem TK_name (ht : TK t n la sa ka va wa i g) (c : ka i = 4) : i < la ∧ g.2.2.1 = 2 ∧ wa i = -1 ∧ ∃ v, v < 2 ^ 30 ∧ va i = nI v ∧ g.2.2.2.2 = lN v ∧ ∀ k, k < 15 → ¬ v = wv k := by
  rcases ht with ⟨hi, _, _, hd⟩ | ⟨_, _, h0, _⟩
  · rcases hd with ⟨h, _⟩ | ⟨h, _⟩ | ⟨h, _⟩ | ⟨k, v, h1, h2, h3, ⟨h, hw, h4⟩ | ⟨h, _⟩⟩
    · rw [c] at h
      exact absurd h (by decide)
    · rw [c] at h
      exact absurd h (by decide)
    · rw [c] at h
      exact absurd h (by decide)
    · exact ⟨hi, k, hw, v, h1, h2, h3, h4⟩
    · rw [c] at h
      exact absurd h (by decide)
  · rw [c] at h0
    exact absurd h0 (by decide)
theorem TK_word (ht : TK t n la sa ka va wa i g) (c : ka i = 5) : i < la ∧ g.2.2.1 = 2 ∧ ∃ k, k < 15 ∧ wa i = nI k ∧ g.2.2.2.2 = lN (wv k) := by
  rcases ht with ⟨hi, _, _, hd⟩ | ⟨_, _, h0, _⟩
  · rcases hd with ⟨h, _⟩ | ⟨h, _⟩ | ⟨h, _⟩ | ⟨k, v, h1, h2, h3, ⟨h, _⟩ | ⟨h, q, h4, h5, h6⟩⟩
    · rw [c] at h
      exact absurd h (by decide)
    · rw [c] at h
      exact absurd h (by decide)
    · rw [c] at h
      exact absurd h (by decide)
    · rw [c] at h
      exact absurd h (by decide)
    · exact ⟨hi, k, q, h4, h5, by rw [h3, h6]⟩
  · rw [c] at h0
    exact absurd h0 (by decide)
theorem TK_now (ht : TK t n la sa ka va wa i g) (c : ¬ ka i = 5) : wa i = -1 := by
  rcases ht with ⟨hi, _, _, hd⟩ | ⟨_, _, h0, h1, _⟩
  · rcases hd with ⟨_, _, h⟩ | ⟨_, _, h⟩ | ⟨_, _, h, _⟩ | ⟨k, v, h1, h2, h3, ⟨_, h, _⟩ | ⟨h, _⟩⟩
    · exact h
    · exact h
    · exact h
    · exact h
    · exact absurd h c
  · exact h1
theorem TK_okw (ht : TK t n la sa ka va wa i g) : okw (wa i) := by
  by_cases c : ka i = 5
  · obtain ⟨_, _, k, hk, e, _⟩ := TK_word ht c
    rw [e]
    exact Or.inr (vp_in_nI hk (by decide))
  · exact Or.inl (TK_now ht c)
theorem TK_w {k : Nat} (ht : TK t n la sa ka va wa i g) (hk : k < 15) (c : wa i = nI k) : ka i = 5 := by
  by_cases q : ka i = 5
  · exact q
  · have e := TK_now ht q
    rw [c] at e
    exact absurd e (nI_m1 (by omega))
theorem isW_e {q : Nat} (ht : TK t n la sa ka va wa i g) (hq : q < 15) : fX12_isWord g.2.2.1 g.2.2.2.2 (nI q) = some (if wa i = nI (rhi.getD q 0) then 1 else 0) := by
  have hr := rhi_lt q hq
  unfold fX12_isWord
  by_cases c5 : ka i = 5
  · obtain ⟨_, hk, k, h1, h2, h3⟩ := TK_word ht c5
    rw [if_pos hk, bind_e (wordOf_q q hq), h3, h2]
    by_cases e : k = rhi.getD q 0
    · rw [← e, if_pos ((lg_cmp_eq _ _).mpr rfl), if_pos rfl]
    · have h4 := wv_lt k h1
      have h5 := wv_lt _ hr
      rw [if_neg (fun y => e (wv_inj k h1 _ hr ((fb_lN_inj (by omega) (by omega)).mp ((lg_cmp_eq _ _).mp y)))), if_neg (fun y => e ((nI_eq (by omega) (by omega)).mp y))]
  · rw [TK_now ht c5, if_neg (show ¬ (-1 : Int32) = nI (rhi.getD q 0) from fun y => nI_m1 (show rhi.getD q 0 < 2 ^ 31 by omega) y.symm)]
    by_cases c4 : ka i = 4
    · obtain ⟨_, hk, _, v, h1, _, h3, h4⟩ := TK_name ht c4
      have h5 := wv_lt _ hr
      rw [if_pos hk, bind_e (wordOf_q q hq), h3, if_neg (fun y => h4 _ hr ((fb_lN_inj (by omega) (by omega)).mp ((lg_cmp_eq _ _).mp y)))]
    · rw [if_neg (fun y => ((TK_kind ht).2.2.1.mp y).elim c4 c5)]
theorem isName_e (hN : 1241 < N) (ht : TK t n la sa ka va wa i g) : fX12_isName N g.2.2.1 g.2.2.2.2 = some (if ka i = 4 then 1 else 0) := by
  unfold fX12_isName
  by_cases c2 : g.2.2.1 = 2
  · rw [if_pos c2]
    have hb : ∀ (w : Int64) (p : Nat → Bool), (∀ q, q < 15 → (p q = true ↔ w = lN (wv (rhi.getD q 0)))) → itr (fun z => fX12_isName_l12b N g.2.2.1 w z) N (0 : Int32) = some (if fa_first p 15 < 15 then .inr 0 else .inl ()) := by
      intro w p hp
      refine itr_firstR p (fun _ => 0) (show 15 < N by omega) ?_ ?_
      · show fX12_isName_l12b N g.2.2.1 w (nI 15) = _
        unfold fX12_isName_l12b
        rw [if_pos (show (14 : Int32) < nI 15 by decide)]
      · intro q hq
        show fX12_isName_l12b N g.2.2.1 w (nI q) = _
        unfold fX12_isName_l12b
        rw [if_neg (show ¬ (14 : Int32) < nI q from nI_nlt (a := 14) (by omega) (by decide)), bind_e (wordOf_q q hq)]
        by_cases e : p q = true
        · rw [if_pos e, if_pos ((lg_cmp_eq _ _).mpr ((hp q hq).mp e))]
        · rw [if_neg e, if_neg (fun y => e ((hp q hq).mpr ((lg_cmp_eq _ _).mp y))), bnd_e, nI_1]
    rcases (TK_kind ht).2.2.1.mp c2 with c | c
    · obtain ⟨_, _, _, v, h1, _, h3, h4⟩ := TK_name ht c
      rw [h3, bind_e (hb (lN v) (fun _ => false) (fun q hq => ⟨fun y => absurd y (by decide), fun y => absurd ((fb_lN_inj (by omega) (by have := wv_lt _ (rhi_lt q hq); omega)).mp y) (h4 _ (rhi_lt q hq))⟩)), if_neg (ff_no (fun k _ => rfl)), if_pos c]
      rfl
    · obtain ⟨_, _, k, h1, h2, h3⟩ := TK_word ht c
      obtain ⟨q, hq, e⟩ := rhi_on k h1
      rw [h3, bind_e (hb (lN (wv k)) (fun q => decide (wv k = wv (rhi.getD q 0))) (fun q hq => by
        rw [decide_eq_true_eq]
        have a1 := wv_lt k h1
        have a2 := wv_lt _ (rhi_lt q hq)
        exact (fb_lN_inj (by omega) (by omega)).symm)), if_pos (ff_yes hq (decide_eq_true (by rw [e]))), if_neg (by rw [c]; decide)]
      rfl
  · rw [if_neg c2, if_neg (fun y => c2 ((TK_kind ht).2.2.1.mpr (Or.inl y)))]
/-- a number in its bounds, or a FAULT -/
theorem r_num (h : RC N n la t u sa ka va wa) (ht : TK t n la sa ka va wa i g) (fk fp nu fo sp td a b : Int32) :
    (∃ k p nu', VP la sa p ∧ fX4_isNumber N fk fp (nI i) nu ka sa va a b = some (k, p, nu', 0) ∧ fX12_readNumber N (nI n) g.1 g.2.1 g.2.2.1 g.2.2.2.1 fo sp g.2.2.2.2 td u a b = some (g.1, g.2.1, g.2.2.1, g.2.2.2.1, k, p, g.2.2.2.2, td, 0)) ∨
    (∃ v g', i < la ∧ v ≤ 9999 ∧ a ≤ nI v ∧ nI v ≤ b ∧ fX4_isNumber N fk fp (nI i) nu ka sa va a b = some (fk, fp, nI v, 1) ∧ fX12_readNumber N (nI n) g.1 g.2.1 g.2.2.1 g.2.2.2.1 fo sp g.2.2.2.2 td u a b = some (g'.1, g'.2.1, g'.2.2.1, g'.2.2.2.1, fo, sp, g'.2.2.2.2, nI v, 1) ∧ TK t n la sa ka va wa (i + 1) g') := by
  have hl := rd_la h
  have hi := TK_le ht
  unfold fX4_isNumber fX12_readNumber
  rw [gdi_nI (show i < 1201 by omega) (by decide), nI_clamp (show i < 2 ^ 31 by omega), gdi_nI (show i < 1201 by omega) (by decide)]
  by_cases c : ka i = 3
  · obtain ⟨hi2, hk, v, h1, h2, h3⟩ := TK_num ht c
    rw [if_pos c, if_pos hk, bnd_e, h2, h3, bind_e (isIn_e _ _ _)]
    have ej : fX4_isNumber_j54 N fk fp (nI i) (nI v) ka sa va = some (2, sa i, nI v, 0) := by
      unfold fX4_isNumber_j54
      rw [bind_e (refuse_e (by omega) fk fp 2 sa), if_pos rfl]
    by_cases c1 : nI v < a
    · refine Or.inl ⟨2, sa i, nI v, (TK_VP ht), ?_, ?_⟩
      · rw [if_pos c1, ej]
      · rw [if_neg (show ¬ (a ≤ nI v ∧ nI v ≤ b) from fun y => (fa_of_lt c1).2.1 y.1), if_pos rfl, bind_e (bad_e _ _ _ _ _), hk, if_neg (by decide), gdb_e (Or.inl rfl), TK_from ht]
    · by_cases c2 : nI v ≤ b
      · obtain ⟨g', e1, e2⟩ := rd_go h hi2 ht
        refine Or.inr ⟨v, g', hi2, h1, fa_of_nlt c1, c2, ?_, ?_, e2⟩
        · rw [if_neg c1, if_pos c2]
        · rw [h3] at e1
          rw [if_pos (show a ≤ nI v ∧ nI v ≤ b from ⟨fa_of_nlt c1, c2⟩), if_neg (by decide), bind_e e1]
      · refine Or.inl ⟨2, sa i, nI v, (TK_VP ht), ?_, ?_⟩
        · rw [if_neg c1, if_neg c2, ej]
        · rw [if_neg (show ¬ (a ≤ nI v ∧ nI v ≤ b) from fun y => c2 y.2), if_pos rfl, bind_e (bad_e _ _ _ _ _), hk, if_neg (by decide), gdb_e (Or.inl rfl), TK_from ht]
  · refine Or.inl ⟨1, sa i, nu, (TK_VP ht), ?_, ?_⟩
    · rw [if_neg c, bind_e (refuse_e (by omega) fk fp 1 sa), gdb_e (Or.inl rfl)]
    · rw [if_neg (fun y => c ((TK_kind ht).1.mp y)), bind_e (bad_e _ _ _ _ _), gdb_e (Or.inl rfl), TK_from ht]
      by_cases c1 : g.2.2.1 = 1
      · rw [if_pos c1]
      · rw [if_neg c1]
end RD

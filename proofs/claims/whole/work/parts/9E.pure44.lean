/-! one less that stands makes nobody wrong -/
theorem upd_upd (f : Nat → Int32) (t : Nat) (a b : Int32) : upd (upd f t a) t b = upd f t b := by
  funext j
  by_cases q : j = t
  · rw [q, pk_us, pk_us]
  · rw [pk_un q, pk_un q, pk_un q]
theorem upd_id {f : Nat → Int32} {t : Nat} {a : Int32} (h : f t = a) : upd f t a = f := by
  funext j
  by_cases q : j = t
  · rw [q, pk_us, h]
  · rw [pk_un q]
theorem wr_0 {T A : Nat} {dg vo lo sh rF : Nat → Int32} {rc : Nat → Int64} {k : Nat} : wr T A dg vo lo sh rF rc k = 0 ↔ (¬ ina (rF (14 * k + 1)) (rF (14 * k + 2)) (dg k) = 0 ∧ ¬ hv (rF (14 * k + 3)) (vo k) = 0 ∧ cN A dg vo rc k T = 0 ∧ smH dg vo lo sh rc k T ≤ rF (14 * k + 6)) := by
  unfold wr
  by_cases c1 : ina (rF (14 * k + 1)) (rF (14 * k + 2)) (dg k) = 0
  · rw [if_pos c1]
    exact ⟨fun e => absurd e (by decide), fun e => absurd c1 e.1⟩
  · rw [if_neg c1]
    by_cases c2 : hv (rF (14 * k + 3)) (vo k) = 0
    · rw [if_pos c2]
      exact ⟨fun e => absurd e (by decide), fun e => absurd c2 e.2.1⟩
    · rw [if_neg c2]
      by_cases c3 : cN A dg vo rc k T = 0
      · rw [if_pos c3]
        by_cases c4 : smH dg vo lo sh rc k T ≤ rF (14 * k + 6)
        · rw [if_pos c4]
          exact ⟨fun _ => ⟨c1, c2, c3, c4⟩, fun _ => rfl⟩
        · rw [if_neg c4]
          exact ⟨fun e => absurd e (by decide), fun e => absurd e.2.2.2 c4⟩
      · rw [if_neg c3]
        exact ⟨fun e => absurd e (by decide), fun e => absurd e.2.2.1 c3⟩
theorem smH_num {T : Nat} {dg vo lo sh : Nat → Int32} {rc : Nat → Int64} (hW : WS T dg lo sh) (k : Nat) : smH dg vo lo sh rc k T = nI (hL dg vo rc (fun j => (sh j).toNatClampNeg) (fun j => (lo j).toNatClampNeg) k T) ∧ hL dg vo rc (fun j => (sh j).toNatClampNeg) (fun j => (lo j).toNatClampNeg) k T ≤ T * 99900 := by
  refine ⟨smH_hL (fun j hj _ => ?_), hL_le (fun j hj => (WS_lo hW hj).2.1)⟩
  obtain ⟨a1, a2, a3, a4⟩ := WS_lo hW hj
  exact ⟨⟨a1, by omega⟩, a3, by omega⟩
theorem tch_less {dg vo : Nat → Int32} {rc : Nat → Int64} {t k j : Nat} {x : Int32} (h : tch (upd dg t (-1)) (upd vo t x) rc k j = true) : k ≠ t ∧ j ≠ t ∧ tch dg vo rc k j = true := by
  have hu := tch_up h
  have hk : k ≠ t := by
    intro e
    rw [e, pk_us] at hu
    exact hu.1 rfl
  have hj : j ≠ t := by
    intro e
    rw [e, pk_us] at hu
    exact hu.2 rfl
  rw [tch_upd hk hj] at h
  exact ⟨hk, hj, h⟩
theorem hL_less {dg vo : Nat → Int32} {rc : Nat → Int64} {s l : Nat → Nat} {t k n : Nat} {x : Int32} (hk : k ≠ t) : hL (upd dg t (-1)) (upd vo t x) rc s l k n ≤ hL dg vo rc s l k n := by
  unfold hL
  refine fb_sm_le (fun j hj => ?_)
  by_cases c : j ≠ k ∧ tch (upd dg t (-1)) (upd vo t x) rc k j = true
  · obtain ⟨-, h2, h3⟩ := tch_less c.2
    rw [if_pos c, if_pos ⟨c.1, h3⟩, pk_un hk, pk_un h2]
    exact Nat.le_refl _
  · rw [if_neg c]
    exact Nat.zero_le _
theorem WS_less {T t : Nat} {dg lo sh : Nat → Int32} (h : WS T dg lo sh) : WS T (upd dg t (-1)) lo sh := WS_upd h (Or.inl rfl)
theorem fw_less {T L A t : Nat} {dg vo lo sh rF : Nat → Int32} {rc : Nat → Int64} {x : Int32} (hT : T ≤ 16) (hF : IF1 T L rF) (hW : WS T dg lo sh) (h : fw T A dg vo lo sh rF rc = -1) : fw T A (upd dg t (-1)) (upd vo t x) lo sh rF rc = -1 := by
  rw [fw_none hT] at h ⊢
  intro k hk
  have hk0 := h k hk
  unfold isW at hk0 ⊢
  by_cases e : k = t
  · rw [e, pk_us, decide_eq_false (by intro q; exact q (Or.inl rfl)), Bool.false_and]
  · rw [pk_un e]
    by_cases c : dg k = -1 ∨ ¬ rF (14 * k + 8) = -1
    · rw [decide_eq_false (fun q => q c), Bool.false_and]
    · rw [decide_eq_true c, Bool.true_and] at hk0 ⊢
      have hw : wr T A dg vo lo sh rF rc k = 0 := by
        by_cases q : wr T A dg vo lo sh rF rc k = 0
        · exact q
        · rw [decide_eq_true q] at hk0
          exact absurd hk0 (by decide)
      rw [wr_0] at hw
      obtain ⟨w1, w2, w3, w4⟩ := hw
      refine decide_eq_false (fun q => q ?_)
      rw [wr_0, pk_un e, pk_un e]
      refine ⟨w1, w2, ?_, ?_⟩
      · rw [cN_pos] at w3 ⊢
        intro j hj hc
        obtain ⟨h1, h2, h3⟩ := tch_less hc.2.1
        have h4 := hc.2.2
        rw [pk_un h1, pk_un h2] at h4
        exact w3 j hj ⟨hc.1, h3, h4⟩
      · obtain ⟨a1, a2⟩ := smH_num (vo := vo) (rc := rc) hW k
        obtain ⟨b1, b2⟩ := smH_num (vo := upd vo t x) (rc := rc) (WS_less (t := t) hW) k
        have c1 := hL_less (dg := dg) (vo := vo) (rc := rc) (s := fun j => (sh j).toNatClampNeg) (l := fun j => (lo j).toNatClampNeg) (n := T) (x := x) e
        obtain ⟨-, -, B, hB, eB⟩ := facts_e hF hk
        rw [a1, eB] at w4
        rw [b1, eB]
        refine nI_le ?_ (by omega)
        have : ¬ B < hL dg vo rc (fun j => (sh j).toNatClampNeg) (fun j => (lo j).toNatClampNeg) k T := fun q => nI_ge q (by omega) w4
        omega
/-- one more makes no wrong one right -/
theorem fw_more {T L A t : Nat} {dg vo lo sh rF : Nat → Int32} {rc : Nat → Int64} {d v : Int32} (hT : T ≤ 16) (hF : IF1 T L rF) (hW : WS T (upd dg t d) lo sh) (hu : dg t = -1) (h : ¬ fw T A dg vo lo sh rF rc = -1) : ¬ fw T A (upd dg t d) (upd vo t v) lo sh rF rc = -1 := by
  intro q
  have := fw_less (t := t) (x := vo t) hT hF hW q
  rw [upd_upd, upd_upd, upd_id hu, upd_id rfl] at this
  exact h this
/-- as IS1, but of t nothing is said -/
def IS1x (T t : Nat) (dg vo : Nat → Int32) (now : Nat → Int32) : Prop :=
  ∀ s, s < 16 → s ≠ t → dg s = now (340 + 2 * s) ∧ (dg s = -1 ∨ (s < T ∧ (∃ d, d < 3600 ∧ dg s = nI d) ∧ ∃ v, v < 4 ∧ vo s = nI v ∧ now (341 + 2 * s) = nI v))
theorem IS1x_of {T t : Nat} {dg vo now : Nat → Int32} {d v : Int32} (h : IS1 T (upd dg t d) (upd vo t v) now) : IS1x T t dg vo now := by
  intro s hs hst
  have := h s hs
  rw [pk_un hst, pk_un hst] at this
  exact this
theorem IS1x_put {T t : Nat} {dg vo now : Nat → Int32} {d v : Int32} (h : IS1x T t dg vo now) (ht : t < T) (hd : ∃ q, q < 3600 ∧ d = nI q) (hv : ∃ q, q < 4 ∧ v = nI q) : IS1 T (upd dg t d) (upd vo t v) (upd (upd now (340 + 2 * t) d) (341 + 2 * t) v) := by
  intro s hs
  by_cases q : s = t
  · subst q
    obtain ⟨v0, hv0, ev⟩ := hv
    rw [pk_us, pk_us, pk_un (by omega), pk_us, pk_us]
    exact ⟨rfl, Or.inr ⟨ht, hd, v0, hv0, ev, ev⟩⟩
  · rw [pk_un q, pk_un q, pk_un (by omega), pk_un (by omega), pk_un (by omega), pk_un (by omega)]
    exact h s hs q
theorem IS1x_take {T t : Nat} {dg vo now : Nat → Int32} {w : Int32} (h : IS1x T t dg vo now) (hu : dg t = -1) : IS1 T dg vo (upd (upd now (340 + 2 * t) (-1)) (341 + 2 * t) w) := by
  intro s hs
  by_cases q : s = t
  · subst q
    rw [pk_un (show 340 + 2 * s ≠ 341 + 2 * s by omega), pk_us]
    exact ⟨hu, Or.inl hu⟩
  · rw [pk_un (by omega), pk_un (by omega), pk_un (by omega), pk_un (by omega)]
    exact h s hs q
/-- but for who stands, all is as it was -/
def K0 (now0 now : Nat → Int32) : Prop := ∀ j, (j < 340 ∨ 372 ≤ j) → now j = now0 j
theorem K0_put {now0 now : Nat → Int32} {t : Nat} {d v : Int32} (h : K0 now0 now) (ht : t < 16) : K0 now0 (upd (upd now (340 + 2 * t) d) (341 + 2 * t) v) := by
  intro j hj
  rw [pk_un (by omega), pk_un (by omega)]
  exact h j hj
theorem WS_of {T L : Nat} {dg vo lo sh rF now : Nat → Int32} (hs : IS1 T dg vo now) (hl : ∀ t, t < T → lo t = rF (14 * t + 4) ∧ sh t = rF (14 * t + 5)) (hF : IF1 T L rF) : WS T dg lo sh := by
  refine ⟨fun t ht => ?_, fun t ht => ?_⟩
  · rcases (hs t ht).2 with q | q
    · exact Or.inl q
    · exact Or.inr q.2.1
  · rw [(hl t ht).1, (hl t ht).2]
    obtain ⟨⟨a, a1, a2, a3⟩, ⟨b, b1, b2, b3⟩, -⟩ := facts_e hF ht
    exact ⟨⟨a, a2, a3⟩, b, b2, b3⟩

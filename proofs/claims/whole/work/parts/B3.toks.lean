/-! all tokens of a tape -/
def skpF (t : Nat → Int32) : Nat → Nat → Nat
  | 0, p => p
  | d + 1, p => if wsB (t p) = true then skpF t d (p + 1) else p
def skp (t : Nat → Int32) (n p : Nat) : Nat := skpF t (n - p) p
theorem skp_s {t : Nat → Int32} {n p : Nat} (h : p < n) : skp t n p = if wsB (t p) = true then skp t n (p + 1) else p := by
  unfold skp
  rw [show n - p = (n - (p + 1)) + 1 by omega]
  rfl
theorem skp_e {t : Nat → Int32} {n p : Nat} (h : n ≤ p) : skp t n p = p := by
  unfold skp
  rw [show n - p = 0 by omega]
  rfl
theorem skp_ge (t : Nat → Int32) (n : Nat) : ∀ d p, n - p = d → p ≤ n → p ≤ skp t n p ∧ skp t n p ≤ n := by
  intro d
  induction d with
  | zero =>
    intro p h1 h2
    rw [skp_e (by omega)]
    exact ⟨Nat.le_refl p, h2⟩
  | succ d ih =>
    intro p h1 h2
    rw [skp_s (by omega)]
    by_cases c : wsB (t p) = true
    · rw [if_pos c]
      have := ih (p + 1) (by omega) (by omega)
      omega
    · rw [if_neg c]
      exact ⟨Nat.le_refl p, h2⟩
theorem skip_M {n : Nat} {t u : Nat → Int32} (hn : n ≤ 1240) (h : TU t u) (N : Nat) (f k nu : Int32) (w : Int64) : ∀ d p M, n - p = d → p ≤ n → d < M → itr (fun z => fX12_go_l0b N (nI n) f k nu w u z) M (nI p) = some (nI (skp t n p)) := by
  intro d
  induction d with
  | zero =>
    intro p M h1 h2 hM
    obtain ⟨M, rfl⟩ : ∃ j, M = j + 1 := ⟨M - 1, by omega⟩
    rw [skp_e (show n ≤ p by omega)]
    have e0 : fX12_go_l0b N (nI n) f k nu w u (nI p) = some (.inr (nI p)) := by
      unfold fX12_go_l0b
      rw [if_pos (nI_le (show n ≤ p by omega) (by omega))]
    unfold itr
    rw [e0]
  | succ d ih =>
    intro p M h1 h2 hM
    obtain ⟨M, rfl⟩ : ∃ j, M = j + 1 := ⟨M - 1, by omega⟩
    rw [skp_s (show p < n by omega)]
    have e1 : fX12_go_l0b N (nI n) f k nu w u (nI p) = some (if wsB (t p) = true then .inl (nI (p + 1)) else .inr (nI p)) := by
      unfold fX12_go_l0b wsB
      rw [if_neg (nI_ge (show p < n by omega) (by omega)), gdi_nI (show p < 1240 by omega) (by decide), nI_clamp (show p < 2 ^ 31 by omega)]
      by_cases c1 : t p = 32
      · rw [if_pos ((TU_32 h (show p < 1240 by omega)).mpr c1), decide_eq_true c1, Bool.true_or, if_pos rfl, bnd_e, nI_1]
      · rw [if_neg (fun q => c1 ((TU_32 h (show p < 1240 by omega)).mp q)), decide_eq_false c1, Bool.false_or, gdi_nI (show p < 1240 by omega) (by decide)]
        by_cases c2 : t p = 10
        · rw [if_pos ((TU_10 h (show p < 1240 by omega)).mpr c2), decide_eq_true c2, if_pos rfl, bnd_e, nI_1]
        · rw [if_neg (fun q => c2 ((TU_10 h (show p < 1240 by omega)).mp q)), decide_eq_false c2, if_neg (by decide)]
    unfold itr
    rw [e1]
    by_cases c : wsB (t p) = true
    · rw [if_pos c, if_pos c]
      exact ih (p + 1) M (by omega) (by omega) (by omega)
    · rw [if_neg c, if_neg c]
/-- where the tokens begin -/
def Stk (t : Nat → Int32) (n : Nat) : Nat → Nat
  | 0 => skp t n 0
  | i + 1 => skp t n (enT t n (Stk t n i))
def CUT (t : Nat → Int32) (n la : Nat) (sa ka va wa : Nat → Int32) : Prop := la ≤ 1200 ∧ sa la = nI (min n 1200) ∧ ka la = 0 ∧ wa la = -1 ∧ min n 1200 ≤ Stk t n la ∧ ∀ i, i < la → Stk t n i < min n 1200 ∧ sa i = nI (Stk t n i) ∧ ka i = kC t n (Stk t n i) ∧ wa i = wC t n (Stk t n i) ∧ (anB (t (Stk t n i)) = true → va i = vcC t (Stk t n i) (rl t n (Stk t n i)))
abbrev G5 : Type := Int32 × Int32 × Int32 × Int32 × Int64
/-- the reference looks at token i -/
def TK (t : Nat → Int32) (n la : Nat) (sa ka va wa : Nat → Int32) (i : Nat) (g : G5) : Prop :=
  (i < la ∧ g.1 = nI (enT t n (Stk t n i)) ∧ g.2.1 = sa i ∧ TD (ka i) (va i) (wa i) g.2.2.1 g.2.2.2.1 g.2.2.2.2) ∨ (i = la ∧ g.2.1 = sa i ∧ ka i = 0 ∧ wa i = -1 ∧ g.2.2.1 = (if n ≤ 1200 then 0 else 1))
theorem enT_le {t : Nat → Int32} {n s : Nat} (h : s < n) : s < enT t n s ∧ enT t n s ≤ n := by
  unfold enT
  by_cases c : anB (t s) = true
  · rw [if_pos c]
    have h1 := rl_le (t := t) (show s ≤ n by omega)
    have h2 := rl_pos h c
    omega
  · rw [if_neg c]
    omega
theorem go_at {N n la p i : Nat} {t u sa ka va wa : Nat → Int32} (hN : 1241 < N) (hn : n ≤ 1240) (h : TU t u) (hc : CUT t n la sa ka va wa) (hp : p ≤ n) (hi : i ≤ la) (hs : skp t n p = Stk t n i) (f k nu : Int32) (w : Int64) : ∃ g, fX12_go N (nI n) (nI p) f k nu w u = some g ∧ TK t n la sa ka va wa i g := by
  obtain ⟨h1, h2, h3, h4, h5, h6⟩ := hc
  unfold fX12_go
  rw [bind_e (skip_M hn h N f k nu w (n - p) p N rfl hp (by omega)), hs]
  have hsn := skp_ge t n (n - p) p rfl hp
  rw [hs] at hsn
  by_cases c : i < la
  · obtain ⟨q1, q2, q3, q4, q5⟩ := h6 i c
    obtain ⟨km, nm, wm, e1, e2⟩ := j93_e (N := N) (by omega) hn (show Stk t n i < n by omega) h k nu w
    refine ⟨(nI (enT t n (Stk t n i)), nI (Stk t n i), km, nm, wm), ?_, Or.inl ⟨c, rfl, q2.symm, ?_⟩⟩
    · by_cases c2 : n ≤ 1200
      · rw [if_pos (show nI n ≤ (1200 : Int32) from nI_le (b := 1200) c2 (by decide)), e1]
      · rw [if_neg (show ¬ nI n ≤ (1200 : Int32) from nI_ge (a := 1200) (by omega) (by omega)), if_pos (show nI (Stk t n i) < (1200 : Int32) from nI_lt (b := 1200) (by omega) (by decide)), e1]
    · rw [q3, q4]
      exact e2 (va i) q5
  · have ei : i = la := by omega
    subst ei
    by_cases c2 : n ≤ 1200
    · have es : Stk t n i = n := by omega
      have em : min n 1200 = n := by omega
      rw [if_pos (show nI n ≤ (1200 : Int32) from nI_le (b := 1200) c2 (by decide)), es]
      unfold fX12_go_j93
      rw [if_neg (nI_nlt (Nat.le_refl n) (by omega))]
      refine ⟨_, rfl, Or.inr ⟨rfl, ?_, h3, h4, ?_⟩⟩
      · rw [h2, em]
      · rw [if_pos c2]
    · have em : min n 1200 = 1200 := by omega
      rw [if_neg (show ¬ nI n ≤ (1200 : Int32) from nI_ge (a := 1200) (by omega) (by omega)), if_neg (show ¬ nI (Stk t n i) < (1200 : Int32) from nI_nlt (b := 1200) (by omega) (by omega))]
      refine ⟨_, rfl, Or.inr ⟨rfl, ?_, h3, h4, ?_⟩⟩
      · rw [h2, em]
        rfl
      · rw [if_neg c2]
theorem go_0 {N n la : Nat} {t u sa ka va wa : Nat → Int32} (hN : 1241 < N) (hn : n ≤ 1240) (h : TU t u) (hc : CUT t n la sa ka va wa) (f k nu : Int32) (w : Int64) : ∃ g, fX12_go N (nI n) 0 f k nu w u = some g ∧ TK t n la sa ka va wa 0 g :=
  go_at hN hn h hc (Nat.zero_le n) (Nat.zero_le la) rfl f k nu w
theorem go_s {N n la i : Nat} {t u sa ka va wa : Nat → Int32} (hN : 1241 < N) (hn : n ≤ 1240) (h : TU t u) (hc : CUT t n la sa ka va wa) {g : G5} (hi : i < la) (ht : TK t n la sa ka va wa i g) : ∃ g', fX12_go N (nI n) g.1 g.2.1 g.2.2.1 g.2.2.2.1 g.2.2.2.2 u = some g' ∧ TK t n la sa ka va wa (i + 1) g' := by
  have hsn : Stk t n i < n := by
    have := (hc.2.2.2.2.2 i hi).1
    omega
  rcases ht with ⟨_, e1, _, _⟩ | ⟨e, _⟩
  · rw [e1]
    exact go_at hN hn h hc (enT_le hsn).2 (by omega) rfl _ _ _ _
  · omega
theorem ws_if {α : Type} {x : Int32} {a b c : α} (h : a = b) : (if x = (32 : Int32) then a else (if x = (10 : Int32) then b else c)) = if wsB x = true then b else c := by
  unfold wsB
  by_cases c1 : x = 32
  · rw [if_pos c1, decide_eq_true c1, Bool.true_or, if_pos rfl, h]
  · rw [if_neg c1, decide_eq_false c1, Bool.false_or]
    by_cases c2 : x = 10
    · rw [if_pos c2, decide_eq_true c2, if_pos rfl]
    · rw [if_neg c2, decide_eq_false c2, if_neg (by decide)]
abbrev C6 : Type := Int32 × Int32 × (Nat → Int32) × (Nat → Int32) × (Nat → Int32) × (Nat → Int32)
/-- cutting under way: i tokens are cut, the next sign is at p -/
def CI (t : Nat → Int32) (n m : Nat) (z : C6) : Prop := ∃ i p, m ≤ p ∧ p ≤ n ∧ i ≤ p ∧ i ≤ 1200 ∧ z.1 = nI i ∧ z.2.1 = nI p ∧ skp t n p = Stk t n i ∧ ∀ j, j < i → Stk t n j < min n 1200 ∧ z.2.2.1 j = nI (Stk t n j) ∧ z.2.2.2.2.2 j = kC t n (Stk t n j) ∧ z.2.2.2.1 j = wC t n (Stk t n j) ∧ (anB (t (Stk t n j)) = true → z.2.2.2.2.1 j = vcC t (Stk t n j) (rl t n (Stk t n j)))
theorem cut_e {N n : Nat} {t : Nat → Int32} (hN : 1241 < N) (hn : n ≤ 1240) (l0 e0 x0 : Int32) (st wo va ka : Nat → Int32) : ∃ (la : Nat) (nx : Int32) (sa wa va' ka' : Nat → Int32), fX9_cut N l0 e0 x0 t st wo va ka (nI n) = some (nI la, nI n, nx, sa, wa, va', ka') ∧ CUT t n la sa ka' va' wa := by
  unfold fX9_cut
  have e1 : (if (1240 : Int32) < nI n then (1240 : Int32) else nI n) = nI n := if_neg (nI_nlt (a := 1240) hn (by decide))
  have e2 : (if (1200 : Int32) < nI n then (1200 : Int32) else nI n) = nI (min n 1200) := by
    by_cases c : 1200 < n
    · rw [if_pos (show (1200 : Int32) < nI n from nI_lt (a := 1200) c (by omega)), show min n 1200 = 1200 by omega]
      rfl
    · rw [if_neg (show ¬ (1200 : Int32) < nI n from nI_nlt (a := 1200) (by omega) (by decide)), show min n 1200 = n by omega]
  rw [e1, bnd_e, e2, bnd_e]
  have hend : ∀ (z : C6) (i p : Nat), z.1 = nI i → z.2.1 = nI p → p ≤ n → min n 1200 ≤ p → fX9_cut_l34b N (nI n) t (nI (min n 1200)) z.1 z.2.1 z.2.2.1 z.2.2.2.1 z.2.2.2.2.1 z.2.2.2.2.2 = some (.inr z) := by
    intro z i p h1 h2 h3 h4
    unfold fX9_cut_l34b
    rw [if_pos (show nI (min n 1200) ≤ z.2.1 by rw [h2]; exact nI_le h4 (by omega))]
  obtain ⟨r, hr, i, p, hm, hp, hip, hi12, hi, hnx, hsk, hall⟩ := itr_invx (body := fun z : C6 => fX9_cut_l34b N (nI n) t (nI (min n 1200)) z.1 z.2.1 z.2.2.1 z.2.2.2.1 z.2.2.2.2.1 z.2.2.2.2.2) (n := N) (b := min n 1200) (s := ((0 : Int32), (0 : Int32), st, wo, va, ka)) (CI t n) (CI t n (min n 1200)) (by omega) ⟨0, 0, Nat.le_refl 0, Nat.zero_le n, Nat.le_refl 0, by decide, rfl, rfl, rfl, fun j hj => absurd hj (Nat.not_lt_zero j)⟩ (by
    intro m z hm hI
    obtain ⟨i, p, a1, a2, a3, a4, a5, a6, a7, a8⟩ := hI
    by_cases c : min n 1200 ≤ p
    · exact Or.inr ⟨z, hend z i p a5 a6 a2 c, i, p, c, a2, a3, a4, a5, a6, a7, a8⟩
    · refine Or.inl ?_
      have hpn : p < n := by omega
      show ∃ s', fX9_cut_l34b N (nI n) t (nI (min n 1200)) z.1 z.2.1 z.2.2.1 z.2.2.2.1 z.2.2.2.2.1 z.2.2.2.2.2 = some (.inl s') ∧ CI t n (m + 1) s'
      unfold fX9_cut_l34b
      rw [a5, a6, if_neg (nI_ge (show p < min n 1200 by omega) (by omega)), if_neg (show ¬ (1200 : Int32) ≤ nI i from nI_ge (b := 1200) (by omega) (by decide)), gdi_nI (show p < 1240 by omega) (by decide), nI_clamp (show p < 2 ^ 31 by omega), gdi_nI (show p < 1240 by omega) (by decide), ws_if rfl, bnd_e]
      by_cases cw : wsB (t p) = true
      · rw [if_pos cw]
        refine ⟨_, rfl, i, p + 1, by omega, by omega, by omega, a4, rfl, nI_1 p, ?_, a8⟩
        rw [← a7, skp_s hpn, if_pos cw]
      · rw [if_neg cw]
        have es : Stk t n i = p := by
          rw [← a7, skp_s hpn, if_neg cw]
        obtain ⟨wo', va', ka', b1, b2, b3, b4, b5⟩ := cutOne_e (N := N) (t := t) (by omega) hn hpn (show i < 1201 by omega) z.2.2.1 z.2.2.2.1 z.2.2.2.2.1 z.2.2.2.2.2
        rw [bind_e b1]
        have b6 := enT_le (t := t) hpn
        refine ⟨_, rfl, i + 1, enT t n p, by omega, b6.2, by omega, by omega, nI_1 i, rfl, ?_, ?_⟩
        · show skp t n (enT t n p) = skp t n (enT t n (Stk t n i))
          rw [es]
        · intro j hj
          by_cases cj : j = i
          · subst cj
            rw [es]
            exact ⟨by omega, pk_us, b4, b3, b5⟩
          · obtain ⟨d1, d2, d3⟩ := b2 j cj
            obtain ⟨f1, f2, f3, f4, f5⟩ := a8 j (by omega)
            refine ⟨f1, ?_, ?_, ?_, fun q => ?_⟩
            · show upd z.2.2.1 i (nI p) j = _
              rw [pk_un cj, f2]
            · show ka' j = _
              rw [d3, f3]
            · show wo' j = _
              rw [d1, f4]
            · show va' j = _
              rw [d2, f5 q]) (by
    intro z hI
    obtain ⟨i, p, a1, a2, a3, a4, a5, a6, a7, a8⟩ := hI
    exact ⟨z, hend z i p a5 a6 a2 a1, i, p, a1, a2, a3, a4, a5, a6, a7, a8⟩)
  rw [bind_e hr, hi, gdi_nI (show i < 1201 by omega) (by decide), bnd_e, gdi_nI (show i < 1201 by omega) (by decide), bnd_e, gdi_nI (show i < 1201 by omega) (by decide), bnd_e, nI_clamp (show i < 2 ^ 31 by omega)]
  refine ⟨i, _, _, _, _, _, rfl, hi12, pk_us, pk_us, pk_us, ?_, fun j hj => ?_⟩
  · have := skp_ge t n (n - p) p rfl hp
    rw [hsk] at this
    omega
  · obtain ⟨f1, f2, f3, f4, f5⟩ := hall j hj
    refine ⟨f1, ?_, ?_, ?_, f5⟩
    · rw [pk_un (by omega), f2]
    · rw [pk_un (by omega), f3]
    · rw [pk_un (by omega), f4]

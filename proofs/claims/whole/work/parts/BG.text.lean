/-! all LINES, side by side -/
abbrev C25 : Type := Int32 × Int32 × Int32 × Int32 × Int32 × Int32 × Int32 × Int32 × Int32 × Int32 × (Nat → Int32) × (Nat → Int32) × (Nat → Int32) × (Nat → Int32) × Int32 × Int32 × Int32 × Int32 × Int32 × (Nat → Int32) × (Nat → Int32) × (Nat → Int64) × (Nat → Int32) × (Nat → Int32) × Int32
abbrev R19 : Type := Int32 × Int32 × Int32 × Int32 × Int32 × Int32 × Int32 × Int32 × Int32 × Int64 × Int32 × Int32 × Int32 × (Nat → Int32) × (Nat → Int32) × (Nat → Int64) × (Nat → Int64) × (Nat → Int64) × Int32
section RD
variable {N n la i L T P A : Nat} {t u sa ka va wa ln tn read dF dP : Nat → Int32} {nm dc rg : Nat → Int64} {g : G5} {dl dt dp da df : Int32}
theorem line_no (h : RC N n la t u sa ka va wa) (ht : TK t n la sa ka va wa i g) (c5 : ¬ ka i = 5) (fo sp td had : Int32) : fX12_readLine N (nI n) g.1 g.2.1 g.2.2.1 g.2.2.2.1 fo sp g.2.2.2.2 td had read u nm rg = some (g.1, g.2.1, g.2.2.1, g.2.2.2.1, 1, sa i, g.2.2.2.2, td, had, read, nm, rg, 0) := by
  have hw := TK_now ht c5
  have e7 : fa_first (fun j => decide (wa i = nI (rhi.getD j 0))) 7 = 7 := by
    rw [hw]
    decide +kernel
  unfold fX12_readLine
  rw [bind_e (srchL h.1 ht _ _ _ _ _ _ _ _ _ _ _ _), e7, if_neg (show ¬ nI 7 ≤ (6 : Int32) by decide), bind_e (bad_1 _ _ _ _), gdb_e (Or.inl rfl), TK_from ht]
theorem semi_y {j : Nat} (hj : j < la) (hl : la ≤ 1200) (c : ka j = 2) (fk fp : Int32) : fX4_passSemicolon fk fp (nI j) (nI la) ka sa = some (fk, fp, nI (j + 1), 1) := by
  unfold fX4_passSemicolon
  rw [gdi_nI (show j < 1201 by omega) (by decide), nI_clamp (show j < 2 ^ 31 by omega), if_pos c, bind_e (pass_e hj hl)]
theorem semi_n {j : Nat} (hj : j ≤ 1200) (c : ¬ ka j = 2) (last fk fp : Int32) : fX4_passSemicolon fk fp (nI j) last ka sa = some (1, sa j, nI j, 0) := by
  unfold fX4_passSemicolon
  rw [gdi_nI (show j < 1201 by omega) (by decide), nI_clamp (show j < 2 ^ 31 by omega), if_neg c, bind_e (refuse_e hj fk fp 1 sa), gdb_e (Or.inl rfl)]
end RD
abbrev bT (N la : Nat) (le nx v1 : Int32) (t sa wa va ka : Nat → Int32) : C18 → Option (C18 ⊕ (C18 ⊕ C25)) := fun z => fX4_readText_l42b N (nI la) le nx t sa wa va ka v1 z.1 z.2.1 z.2.2.1 z.2.2.2.1 z.2.2.2.2.1 z.2.2.2.2.2.1 z.2.2.2.2.2.2.1 z.2.2.2.2.2.2.2.1 z.2.2.2.2.2.2.2.2.1 z.2.2.2.2.2.2.2.2.2.1 z.2.2.2.2.2.2.2.2.2.2.1 z.2.2.2.2.2.2.2.2.2.2.2.1 z.2.2.2.2.2.2.2.2.2.2.2.2.1 z.2.2.2.2.2.2.2.2.2.2.2.2.2.1 z.2.2.2.2.2.2.2.2.2.2.2.2.2.2.1 z.2.2.2.2.2.2.2.2.2.2.2.2.2.2.2.1 z.2.2.2.2.2.2.2.2.2.2.2.2.2.2.2.2.1 z.2.2.2.2.2.2.2.2.2.2.2.2.2.2.2.2.2
abbrev bR (N : Nat) (tp sz ib : Int32) (now u : Nat → Int32) (gr : Nat → Int64) : R13 → Option (R13 ⊕ (R13 ⊕ R19)) := fun z => fX12_ring_l67b N 0 tp sz ib now u gr z.1 z.2.1 z.2.2.1 z.2.2.2.1 z.2.2.2.2.1 z.2.2.2.2.2.1 z.2.2.2.2.2.2.1 z.2.2.2.2.2.2.2.1 z.2.2.2.2.2.2.2.2.1 z.2.2.2.2.2.2.2.2.2.1 z.2.2.2.2.2.2.2.2.2.2.1 z.2.2.2.2.2.2.2.2.2.2.2.1 z.2.2.2.2.2.2.2.2.2.2.2.2
/-- reading under way, m tokens at least behind us -/
def TI (t : Nat → Int32) (n la : Nat) (sa ka va wa : Nat → Int32) (sp : Int32) (m : Nat) (z : C18) (y : R13) : Prop := ∃ i lines g ap fi to1 nu dl dt dp da df ln tn dc dF dP td had read nm rg L T P A, m ≤ i ∧ lines ≤ i ∧ z = (0, 0, nI i, ap, fi, to1, nu, dl, dt, dp, da, df, ln, tn, dc, dF, dP, nI lines) ∧ y = (g.1, g.2.1, g.2.2.1, g.2.2.2.1, 0, sp, g.2.2.2.2, td, had, read, nm, rg, nI lines) ∧ TK t n la sa ka va wa i g ∧ rd_I L T P A ap fi dl dt dp da df ln tn dc dF dP had read nm rg
/-- a text read, or a FAULT, by both -/
def TQ (n la : Nat) (sa : Nat → Int32) (sp tp sz ib : Int32) (now : Nat → Int32) (gr : Nat → Int64) (z : C18 ⊕ C25) (y : R13 ⊕ R19) : Prop :=
  (∃ lines ap fi to1 nu dl dt dp da df ln tn dc dF dP x1 x2 x3 x4 w' td had read nm rg L T P A, n ≤ 1200 ∧ lines ≤ 1200 ∧ z = .inl (0, 0, nI la, ap, fi, to1, nu, dl, dt, dp, da, df, ln, tn, dc, dF, dP, nI lines) ∧ y = .inl (x1, x2, x3, x4, 0, sp, w', td, had, read, nm, rg, nI lines) ∧ rd_I L T P A ap fi dl dt dp da df ln tn dc dF dP had read nm rg) ∨
  (∃ lines ap fi to1 nu dl dt dp da df ln tn dc dF dP y1 y2 y3 y4 w' td had read nm rg, 1200 < n ∧ z = .inl (0, 0, nI la, ap, fi, to1, nu, dl, dt, dp, da, df, ln, tn, dc, dF, dP, nI lines) ∧ y = .inr (0, tp, sz, y1, y2, y3, y4, 1, sa la, w', td, ib, had, now, read, nm, rg, gr, -1 - sa la)) ∨
  (∃ k p a3 a4 a5 a6 a7 a8 a9 a10 a11 a12 a13 a14 a15 a16 a17 a18 a19 a20 a21 a22 a23 a24 y1 y2 y3 y4 w' td had read nm rg, VP la sa p ∧ z = .inr (k, p, a3, a4, a5, a6, a7, a8, a9, a10, a11, a12, a13, a14, a15, a16, a17, a18, a19, a20, a21, a22, a23, a24, -1 - p) ∧ y = .inr (0, tp, sz, y1, y2, y3, y4, k, p, w', td, ib, had, now, read, nm, rg, gr, -1 - p))
section RD
variable {N n la : Nat} {t u sa ka va wa : Nat → Int32}
theorem tx_end (h : RC N n la t u sa ka va wa) (sp tp ib nx : Int32) (now : Nat → Int32) (gr : Nat → Int64) {m : Nat} {z : C18} {y : R13} (hI : TI t n la sa ka va wa sp m z y) (hm : la ≤ m) : ∃ r q, bT N la (nI n) nx (nI n) t sa wa va ka z = some (.inr r) ∧ bR N tp (nI n) ib now u gr y = some (.inr q) ∧ TQ n la sa sp tp (nI n) ib now gr r q := by
  have hl := rd_la h
  obtain ⟨i, lines, g, ap, fi, to1, nu, dl, dt, dp, da, df, ln, tn, dc, dF, dP, td, had, read, nm, rg, L, T, P, A, h1, h2, rfl, rfl, ht, hR⟩ := hI
  have hil := TK_le ht
  have ei : i = la := by omega
  subst ei
  have k0 : ka i = 0 := (TK_kind ht).2.2.2.2.mpr rfl
  have eC : bT N i (nI n) nx (nI n) t sa wa va ka (0, 0, nI i, ap, fi, to1, nu, dl, dt, dp, da, df, ln, tn, dc, dF, dP, nI lines) = some (.inr (.inl (0, 0, nI i, ap, fi, to1, nu, dl, dt, dp, da, df, ln, tn, dc, dF, dP, nI lines))) := by
    show fX4_readText_l42b N (nI i) (nI n) nx t sa wa va ka (nI n) 0 0 (nI i) ap fi to1 nu dl dt dp da df ln tn dc dF dP (nI lines) = _
    unfold fX4_readText_l42b
    by_cases c : (1200 : Int32) ≤ nI lines
    · rw [if_pos c]
    · rw [if_neg c, gdi_nI (show i < 1201 by omega) (by decide), nI_clamp (show i < 2 ^ 31 by omega), if_pos k0]
  by_cases cn : n ≤ 1200
  · have kM : g.2.2.1 = 0 := (TK_kind ht).2.2.2.1.mpr ⟨rfl, cn⟩
    refine ⟨_, _, eC, ?_, Or.inl ⟨lines, ap, fi, to1, nu, dl, dt, dp, da, df, ln, tn, dc, dF, dP, g.1, g.2.1, g.2.2.1, g.2.2.2.1, g.2.2.2.2, td, had, read, nm, rg, L, T, P, A, cn, by omega, rfl, rfl, hR⟩⟩
    show fX12_ring_l67b N 0 tp (nI n) ib now u gr g.1 g.2.1 g.2.2.1 g.2.2.2.1 0 sp g.2.2.2.2 td had read nm rg (nI lines) = _
    unfold fX12_ring_l67b
    rw [if_pos kM]
  · have kM : ¬ g.2.2.1 = 0 := fun q => cn ((TK_kind ht).2.2.2.1.mp q).2
    refine ⟨_, _, eC, ?_, Or.inr (Or.inl ⟨lines, ap, fi, to1, nu, dl, dt, dp, da, df, ln, tn, dc, dF, dP, g.1, g.2.1, g.2.2.1, g.2.2.2.1, g.2.2.2.2, td, had, read, nm, rg, by omega, rfl, rfl⟩)⟩
    show fX12_ring_l67b N 0 tp (nI n) ib now u gr g.1 g.2.1 g.2.2.1 g.2.2.2.1 0 sp g.2.2.2.2 td had read nm rg (nI lines) = _
    unfold fX12_ring_l67b
    rw [if_neg kM, bind_e (line_no h ht (by rw [k0]; decide) 0 sp td had), if_pos rfl]
set_option maxHeartbeats 4000000 in
theorem tx_step (h : RC N n la t u sa ka va wa) (sp tp ib nx : Int32) (now : Nat → Int32) (gr : Nat → Int64) {m : Nat} {z : C18} {y : R13} (hI : TI t n la sa ka va wa sp m z y) : (∃ z' y', bT N la (nI n) nx (nI n) t sa wa va ka z = some (.inl z') ∧ bR N tp (nI n) ib now u gr y = some (.inl y') ∧ TI t n la sa ka va wa sp (m + 1) z' y') ∨ ∃ r q, bT N la (nI n) nx (nI n) t sa wa va ka z = some (.inr r) ∧ bR N tp (nI n) ib now u gr y = some (.inr q) ∧ TQ n la sa sp tp (nI n) ib now gr r q := by
  have hl := rd_la h
  have hI0 := hI
  obtain ⟨i, lines, g, ap, fi, to1, nu, dl, dt, dp, da, df, ln, tn, dc, dF, dP, td, had, read, nm, rg, L, T, P, A, h1, h2, rfl, rfl, ht, hR⟩ := hI
  have hil := TK_le ht
  rcases Nat.lt_or_ge i la with hi | hi
  · have k0 : ¬ ka i = 0 := fun q => absurd ((TK_kind ht).2.2.2.2.mp q) (by omega)
    have kM : ¬ g.2.2.1 = 0 := fun q => absurd ((TK_kind ht).2.2.2.1.mp q).1 (by omega)
    have eC : ∀ o, fX4_readLine N 0 0 (nI i) ap fi to1 nu dl dt dp da df (nI la) sa ka ln va tn dc dF wa dP (wa i) = some o → bT N la (nI n) nx (nI n) t sa wa va ka (0, 0, nI i, ap, fi, to1, nu, dl, dt, dp, da, df, ln, tn, dc, dF, dP, nI lines) = fX4_readText_j80 N o.1 o.2.1 o.2.2.1 o.2.2.2.1 o.2.2.2.2.1 o.2.2.2.2.2.1 o.2.2.2.2.2.2.1 (nI la) (nI n) nx t sa wa va ka o.2.2.2.2.2.2.2.1 o.2.2.2.2.2.2.2.2.1 o.2.2.2.2.2.2.2.2.2.1 o.2.2.2.2.2.2.2.2.2.2.1 o.2.2.2.2.2.2.2.2.2.2.2.1 o.2.2.2.2.2.2.2.2.2.2.2.2.1 o.2.2.2.2.2.2.2.2.2.2.2.2.2.1 o.2.2.2.2.2.2.2.2.2.2.2.2.2.2.1 o.2.2.2.2.2.2.2.2.2.2.2.2.2.2.2.1 o.2.2.2.2.2.2.2.2.2.2.2.2.2.2.2.2.1 (nI n) (nI lines) o.2.2.2.2.2.2.2.2.2.2.2.2.2.2.2.2.2 := by
      intro o ho
      show fX4_readText_l42b N (nI la) (nI n) nx t sa wa va ka (nI n) 0 0 (nI i) ap fi to1 nu dl dt dp da df ln tn dc dF dP (nI lines) = _
      unfold fX4_readText_l42b
      rw [if_neg (show ¬ (1200 : Int32) ≤ nI lines from nI_ge (b := 1200) (by omega) (by decide)), gdi_nI (show i < 1201 by omega) (by decide), nI_clamp (show i < 2 ^ 31 by omega), if_neg k0, gdi_nI (show i < 1201 by omega) (by decide), bind_e ho]
    have eM : ∀ o, fX12_readLine N (nI n) g.1 g.2.1 g.2.2.1 g.2.2.2.1 0 sp g.2.2.2.2 td had read u nm rg = some o → bR N tp (nI n) ib now u gr (g.1, g.2.1, g.2.2.1, g.2.2.2.1, 0, sp, g.2.2.2.2, td, had, read, nm, rg, nI lines) = (if o.2.2.2.2.2.2.2.2.2.2.2.2 = 0 then some (.inr (.inr (0, tp, nI n, o.1, o.2.1, o.2.2.1, o.2.2.2.1, o.2.2.2.2.1, o.2.2.2.2.2.1, o.2.2.2.2.2.2.1, o.2.2.2.2.2.2.2.1, ib, o.2.2.2.2.2.2.2.2.1, now, o.2.2.2.2.2.2.2.2.2.1, o.2.2.2.2.2.2.2.2.2.2.1, o.2.2.2.2.2.2.2.2.2.2.2.1, gr, -1 - o.2.2.2.2.2.1))) else some (.inl (o.1, o.2.1, o.2.2.1, o.2.2.2.1, o.2.2.2.2.1, o.2.2.2.2.2.1, o.2.2.2.2.2.2.1, o.2.2.2.2.2.2.2.1, o.2.2.2.2.2.2.2.2.1, o.2.2.2.2.2.2.2.2.2.1, o.2.2.2.2.2.2.2.2.2.2.1, o.2.2.2.2.2.2.2.2.2.2.2.1, nI (lines + 1)))) := by
      intro o ho
      show fX12_ring_l67b N 0 tp (nI n) ib now u gr g.1 g.2.1 g.2.2.1 g.2.2.2.1 0 sp g.2.2.2.2 td had read nm rg (nI lines) = _
      unfold fX12_ring_l67b
      rw [if_neg kM, bind_e ho, bnd_e, nI_1]
    rcases r_line h ht hR 0 0 to1 nu 0 sp td with ⟨k, p, a3, a4, a5, a6, a7, a8, a9, a10, a11, a12, a13, a14, a15, a16, a17, x1, x2, x3, x4, w', td', had', read', nm', rg', hV, q1, q2⟩ | ⟨j, a4, a5, a6, a7, a8, a9, a10, a11, a12, a13, a14, a15, a16, a17, x1, x2, x3, x4, w', td', had', read', nm', rg', hj, hc, q1, q2⟩ | ⟨j, ap', fi', to', nu', dl', dt', dp', da', df', ln', tn', dc', dF', dP', g', td', had', read', nm', rg', L', T', P', A', hij, hj, hc, q1, q2, ht', hR'⟩
    · rw [eC _ q1, eM _ q2]
      refine Or.inr ⟨.inr (k, p, a3, a4, a5, a6, a7, nI la, nI n, nx, sa, wa, va, ka, a8, a9, a10, a11, a12, a13, a14, a15, a16, a17, -1 - p), .inr (0, tp, nI n, x1, x2, x3, x4, k, p, w', td', ib, had', now, read', nm', rg', gr, -1 - p), ?_, ?_, Or.inr (Or.inr ⟨k, p, a3, a4, a5, a6, a7, nI la, nI n, nx, sa, wa, va, ka, a8, a9, a10, a11, a12, a13, a14, a15, a16, a17, x1, x2, x3, x4, w', td', had', read', nm', rg', hV, rfl, rfl⟩)⟩
      · unfold fX4_readText_j80
        rw [if_pos rfl]
      · rw [if_pos rfl]
    · rw [eC _ q1, eM _ q2]
      refine Or.inr ⟨.inr (1, sa j, nI j, a4, a5, a6, a7, nI la, nI n, nx, sa, wa, va, ka, a8, a9, a10, a11, a12, a13, a14, a15, a16, a17, -1 - sa j), .inr (0, tp, nI n, x1, x2, x3, x4, 1, sa j, w', td', ib, had', now, read', nm', rg', gr, -1 - sa j), ?_, ?_, Or.inr (Or.inr ⟨1, sa j, nI j, a4, a5, a6, a7, nI la, nI n, nx, sa, wa, va, ka, a8, a9, a10, a11, a12, a13, a14, a15, a16, a17, x1, x2, x3, x4, w', td', had', read', nm', rg', ⟨j, hj, rfl⟩, rfl, rfl⟩)⟩
      · unfold fX4_readText_j80
        rw [if_neg (show ¬ (1 : Int32) = 0 by decide)]
        show (fX4_passSemicolon 0 0 (nI j) (nI la) ka sa).bind _ = _
        rw [bind_e (semi_n (show j ≤ 1200 by omega) hc (nI la) 0 0)]
        unfold fX4_readText_j87
        rw [if_pos rfl]
      · rw [if_pos rfl]
    · rw [eC _ q1, eM _ q2]
      refine Or.inl ⟨(0, 0, nI (j + 1), ap', fi', to', nu', dl', dt', dp', da', df', ln', tn', dc', dF', dP', nI (lines + 1)), (g'.1, g'.2.1, g'.2.2.1, g'.2.2.2.1, 0, sp, g'.2.2.2.2, td', had', read', nm', rg', nI (lines + 1)), ?_, ?_, j + 1, lines + 1, g', ap', fi', to', nu', dl', dt', dp', da', df', ln', tn', dc', dF', dP', td', had', read', nm', rg', L', T', P', A', by omega, by omega, rfl, rfl, ht', hR'⟩
      · unfold fX4_readText_j80
        rw [if_neg (show ¬ (1 : Int32) = 0 by decide)]
        show (fX4_passSemicolon 0 0 (nI j) (nI la) ka sa).bind _ = _
        rw [bind_e (semi_y hj hl hc 0 0)]
        unfold fX4_readText_j87
        rw [if_neg (show ¬ (1 : Int32) = 0 by decide), bnd_e, nI_1]
      · rw [if_neg (show ¬ (1 : Int32) = 0 by decide)]
  · exact Or.inr (tx_end h sp tp ib nx now gr (m := la) ⟨i, lines, g, ap, fi, to1, nu, dl, dt, dp, da, df, ln, tn, dc, dF, dP, td, had, read, nm, rg, L, T, P, A, hi, h2, rfl, rfl, ht, hR⟩ (Nat.le_refl la))
theorem tx_loop (h : RC N n la t u sa ka va wa) (sp tp ib nx : Int32) (now : Nat → Int32) (gr : Nat → Int64) {z : C18} {y : R13} (hI : TI t n la sa ka va wa sp 0 z y) : ∃ r q, itr (bT N la (nI n) nx (nI n) t sa wa va ka) N z = some r ∧ itr (bR N tp (nI n) ib now u gr) N y = some q ∧ TQ n la sa sp tp (nI n) ib now gr r q :=
  itr_inv2x (b := la) (fun m z y => TI t n la sa ka va wa sp m z y) (TQ n la sa sp tp (nI n) ib now gr) (by have := rd_la h; have := h.1; omega) hI (fun m z y _ hI => tx_step h sp tp ib nx now gr hI) (fun z y hI => tx_end h sp tp ib nx now gr hI (Nat.le_refl la))
end RD

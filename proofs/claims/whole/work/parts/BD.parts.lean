/-! all parts of a THING; a THING begun -/
section RD
variable {N n la L T P A : Nat} {t u sa ka va wa dP : Nat → Int32} {nm : Nat → Int64} {dl dt dp da df : Int32}
abbrev bC (N la T : Nat) (dl dt : Int32) (sa ka ln va tn wa : Nat → Int32) : Int32 × Int32 × Int32 × Int32 × Int32 × (Nat → Int64) × (Nat → Int32) × Int32 × Int32 → Option ((Int32 × Int32 × Int32 × Int32 × Int32 × (Nat → Int64) × (Nat → Int32) × Int32 × Int32) ⊕ (Int32 × Int32 × Int32 × Int32 × Int32 × (Nat → Int64) × (Nat → Int32) × Int32)) := fun z => fX4_readThing_l136b N dl dt (nI la) sa ka ln va tn wa (nI T) z.1 z.2.1 z.2.2.1 z.2.2.2.1 z.2.2.2.2.1 z.2.2.2.2.2.1 z.2.2.2.2.2.2.1 z.2.2.2.2.2.2.2.1 z.2.2.2.2.2.2.2.2
abbrev bM (N n T : Nat) (u : Nat → Int32) (nm : Nat → Int64) : RP11 → Option RQ := fun z => fX12_readThing_l227b N (nI n) u nm (nI T) (nI (20 + 20 * T)) z.1 z.2.1 z.2.2.1 z.2.2.2.1 z.2.2.2.2.1 z.2.2.2.2.2.1 z.2.2.2.2.2.2.1 z.2.2.2.2.2.2.2.1 z.2.2.2.2.2.2.2.2.1 z.2.2.2.2.2.2.2.2.2.1 z.2.2.2.2.2.2.2.2.2.2
theorem bC_0 {ln tn : Nat → Int32} (M : Nat) (a b c d e x : Int32) (f : Nat → Int64) (g : Nat → Int32) : itr (bC N la T dl dt sa ka ln va tn wa) (M + 1) (a, b, c, d, e, f, g, 0, x) = some (a, b, c, d, e, f, g, 0) := by
  refine itr_r ?_
  show fX4_readThing_l136b N dl dt (nI la) sa ka ln va tn wa (nI T) a b c d e f g 0 x = _
  unfold fX4_readThing_l136b
  by_cases q : (1200 : Int32) ≤ x
  · rw [if_pos q]
  · rw [if_neg q, if_pos rfl]
theorem parts_e (h : RC N n la t u sa ka va wa) (hT : T < 16) (ln tn : Nat → Int32) (fk fp fo sp : Int32) : ∀ D i, la - i ≤ D → ∀ (kk : Nat) (g : G5) (to1 nu td once : Int32) (dc rg : Nat → Int64) (dF read : Nat → Int32), TK t n la sa ka va wa i g → PI T L P A dl dt dp da df dc dP dF read rg to1 once → kk + 4 ≤ i → ∀ M M', D + 2 ≤ M → D + 2 ≤ M' →
    (∃ k p at' to' nu' dc' dF' x1 x2 x3 x4 w' td' read' rg', VP la sa p ∧ itr (bC N la T dl dt sa ka ln va tn wa) M (fk, fp, nI i, to1, nu, dc, dF, 1, nI kk) = some (k, p, at', to', nu', dc', dF', 0) ∧ itr (bM N n T u nm) M' (g.1, g.2.1, g.2.2.1, g.2.2.2.1, fo, sp, g.2.2.2.2, td, read, rg, once) = some (.inr (x1, x2, x3, x4, k, p, w', td', read', nm, rg', 0))) ∨
    (∃ p at' to' nu' dc' dF' x1 x3 x4 w' td' read' rg', VP la sa p ∧ ¬ x3 = 4 ∧ itr (bC N la T dl dt sa ka ln va tn wa) M (fk, fp, nI i, to1, nu, dc, dF, 1, nI kk) = some (1, p, at', to', nu', dc', dF', 0) ∧ itr (bM N n T u nm) M' (g.1, g.2.1, g.2.2.1, g.2.2.2.1, fo, sp, g.2.2.2.2, td, read, rg, once) = some (.inl (x1, p, x3, x4, fo, sp, w', td', read', rg'))) ∨
    (∃ j to' nu' dc' dF' g' td' read' rg' once', i ≤ j ∧ itr (bC N la T dl dt sa ka ln va tn wa) M (fk, fp, nI i, to1, nu, dc, dF, 1, nI kk) = some (fk, fp, nI j, to', nu', dc', dF', 1) ∧ itr (bM N n T u nm) M' (g.1, g.2.1, g.2.2.1, g.2.2.2.1, fo, sp, g.2.2.2.2, td, read, rg, once) = some (.inl (g'.1, g'.2.1, g'.2.2.1, g'.2.2.2.1, fo, sp, g'.2.2.2.2, td', read', rg')) ∧ TK t n la sa ka va wa j g' ∧ PI T L P A dl dt dp da df dc' dP dF' read' rg' to' once') := by
  have hl := rd_la h
  intro D
  induction D with
  | zero =>
    intro i hD kk g to1 nu td once dc rg dF read ht hP hkk M M' hM hM'
    obtain ⟨M, rfl⟩ : ∃ m, M = m + 1 + 1 := ⟨M - 2, by omega⟩
    obtain ⟨M', rfl⟩ : ∃ m, M' = m + 1 + 1 := ⟨M' - 2, by omega⟩
    have hil := TK_le ht
    have ei : i = la := by omega
    have c2 : ¬ ka i = 2 := by
      rw [(TK_kind ht).2.2.2.2.mpr ei]
      decide
    have k4 : ¬ g.2.2.1 = 4 := fun q => c2 ((TK_kind ht).2.1.mp q)
    have eC : ∀ o, fX4_readPart N fk fp (nI i) to1 nu (nI la) ka sa va dc dF (nI T) (wa i) = some o → bC N la T dl dt sa ka ln va tn wa (fk, fp, nI i, to1, nu, dc, dF, 1, nI kk) = some (.inl (o.1, o.2.1, o.2.2.1, o.2.2.2.1, o.2.2.2.2.1, o.2.2.2.2.2.1, o.2.2.2.2.2.2.1, o.2.2.2.2.2.2.2, nI (kk + 1))) := by
      intro o ho
      show fX4_readThing_l136b N dl dt (nI la) sa ka ln va tn wa (nI T) fk fp (nI i) to1 nu dc dF 1 (nI kk) = _
      unfold fX4_readThing_l136b
      rw [if_neg (show ¬ (1200 : Int32) ≤ nI kk from nI_ge (b := 1200) (by omega) (by decide)), if_neg (by decide), gdi_nI (show i < 1201 by omega) (by decide), nI_clamp (show i < 2 ^ 31 by omega), if_neg c2, gdi_nI (show i < 1201 by omega) (by decide), bind_e ho, bnd_e, nI_1]
    rcases r_part (nm := nm) h ht hT hP c2 fk fp nu fo sp td with ⟨q1, q2⟩ | ⟨k, p, at', to', nu', dc', dF', x1, x2, x3, x4, w', td', read', rg', hV, q1, q2⟩ | ⟨j, to', nu', dc', dF', g', td', read', rg', once', hj, q1, q2, ht', hP'⟩
    · exact Or.inr (Or.inl ⟨sa i, _, _, _, _, _, _, g.2.2.1, _, _, _, _, _, (TK_VP ht), k4, by rw [itr_l (eC _ q1), bC_0], by rw [itr_r (body := bM N n T u nm) q2, TK_from ht]⟩)
    · exact Or.inl ⟨k, p, _, _, _, _, _, _, _, _, _, _, _, _, _, hV, by rw [itr_l (eC _ q1), bC_0], by rw [itr_r (body := bM N n T u nm) q2]⟩
    · have := TK_le ht'
      omega
  | succ D ih =>
    intro i hD kk g to1 nu td once dc rg dF read ht hP hkk M M' hM hM'
    obtain ⟨M, rfl⟩ : ∃ m, M = m + 1 + 1 := ⟨M - 2, by omega⟩
    obtain ⟨M', rfl⟩ : ∃ m, M' = m + 1 + 1 := ⟨M' - 2, by omega⟩
    have hil := TK_le ht
    by_cases c2 : ka i = 2
    · have k4 : g.2.2.1 = 4 := (TK_kind ht).2.1.mpr c2
      refine Or.inr (Or.inr ⟨i, to1, nu, dc, dF, g, td, read, rg, once, Nat.le_refl i, itr_r ?_, itr_r ?_, ht, hP⟩)
      · show fX4_readThing_l136b N dl dt (nI la) sa ka ln va tn wa (nI T) fk fp (nI i) to1 nu dc dF 1 (nI kk) = _
        unfold fX4_readThing_l136b
        rw [if_neg (show ¬ (1200 : Int32) ≤ nI kk from nI_ge (b := 1200) (by omega) (by decide)), if_neg (by decide), gdi_nI (show i < 1201 by omega) (by decide), nI_clamp (show i < 2 ^ 31 by omega), if_pos c2]
      · show fX12_readThing_l227b N (nI n) u nm (nI T) (nI (20 + 20 * T)) g.1 g.2.1 g.2.2.1 g.2.2.2.1 fo sp g.2.2.2.2 td read rg once = _
        unfold fX12_readThing_l227b
        rw [if_neg (by rw [k4]; decide)]
    · have k4 : ¬ g.2.2.1 = 4 := fun q => c2 ((TK_kind ht).2.1.mp q)
      have eC : ∀ o, fX4_readPart N fk fp (nI i) to1 nu (nI la) ka sa va dc dF (nI T) (wa i) = some o → bC N la T dl dt sa ka ln va tn wa (fk, fp, nI i, to1, nu, dc, dF, 1, nI kk) = some (.inl (o.1, o.2.1, o.2.2.1, o.2.2.2.1, o.2.2.2.2.1, o.2.2.2.2.2.1, o.2.2.2.2.2.2.1, o.2.2.2.2.2.2.2, nI (kk + 1))) := by
        intro o ho
        show fX4_readThing_l136b N dl dt (nI la) sa ka ln va tn wa (nI T) fk fp (nI i) to1 nu dc dF 1 (nI kk) = _
        unfold fX4_readThing_l136b
        rw [if_neg (show ¬ (1200 : Int32) ≤ nI kk from nI_ge (b := 1200) (by omega) (by decide)), if_neg (by decide), gdi_nI (show i < 1201 by omega) (by decide), nI_clamp (show i < 2 ^ 31 by omega), if_neg c2, gdi_nI (show i < 1201 by omega) (by decide), bind_e ho, bnd_e, nI_1]
      rcases r_part (nm := nm) h ht hT hP c2 fk fp nu fo sp td with ⟨q1, q2⟩ | ⟨k, p, at', to', nu', dc', dF', x1, x2, x3, x4, w', td', read', rg', hV, q1, q2⟩ | ⟨j, to', nu', dc', dF', g', td', read', rg', once', hj, q1, q2, ht', hP'⟩
      · exact Or.inr (Or.inl ⟨sa i, _, _, _, _, _, _, g.2.2.1, _, _, _, _, _, (TK_VP ht), k4, by rw [itr_l (eC _ q1), bC_0], by rw [itr_r (body := bM N n T u nm) q2, TK_from ht]⟩)
      · exact Or.inl ⟨k, p, _, _, _, _, _, _, _, _, _, _, _, _, _, hV, by rw [itr_l (eC _ q1), bC_0], by rw [itr_r (body := bM N n T u nm) q2]⟩
      · rw [itr_l (eC _ q1), itr_l (body := bM N n T u nm) q2]
        rcases ih j (by omega) (kk + 1) g' to' nu' td' once' dc' rg' dF' read' ht' hP' (by omega) (M + 1) (M' + 1) (by omega) (by omega) with q | q | ⟨j', a1, a2, a3, a4, a5, a6, a7, a8, a9, b1, b2, b3, b4, b5⟩
        · exact Or.inl q
        · exact Or.inr (Or.inl q)
        · exact Or.inr (Or.inr ⟨j', a1, a2, a3, a4, a5, a6, a7, a8, a9, by omega, b2, b3, b4, b5⟩)
end RD
/-- what a THING is told at first -/
def inF (x : Int32) (w : Nat) : Int32 := if w = 0 then x else if w = 3 then 0 else if w = 4 then 100 else if w = 5 then 5 else if w = 6 then 50 else if w = 7 then 1 else -1
theorem addThing_e {N T : Nat} (hN : 1241 < N) (hT : T < 16) (dc : Nat → Int64) (dF : Nat → Int32) (x : Int32) : ∃ dF', fX5_addThing N (nI T) dc dF x = some (nI (T + 1), vp_updL dc T 0, dF') ∧ (∀ q w, q ≠ T → w < 14 → dF' (14 * q + w) = dF (14 * q + w)) ∧ ∀ w, w < 14 → dF' (14 * T + w) = inF x w := by
  unfold fX5_addThing
  rw [if_pos (show nI T < (16 : Int32) from nI_lt (b := 16) hT (by decide)), bnd_e, nI_1, gdi_nI hT (by decide), bnd_e, nI_clamp (show T < 2 ^ 31 by omega)]
  have tl : ∀ (f : Nat → Int32) (w : Nat) (x y : Int32), w < 14 → x = nI w → fX5_tell f (nI T) x y = some (upd f (14 * T + w) y) := by
    intro f w x y hw hx
    subst hx
    exact tell_e hT hw f y
  obtain ⟨r, hr, hr1, hr2⟩ := itr_inv (body := fun z : (Nat → Int32) × Int32 => fX5_addThing_l34b N (nI (T + 1)) (vp_updL dc T 0) x (nI T) z.1 z.2) (n := N) (b := 14) (s := (dF, (0 : Int32))) (fun m z => z.2 = nI m ∧ (∀ q w, q ≠ T → w < 14 → z.1 (14 * q + w) = dF (14 * q + w)) ∧ ∀ w, w < m → z.1 (14 * T + w) = -1) (fun r => (∀ q w, q ≠ T → w < 14 → r (14 * q + w) = dF (14 * q + w)) ∧ ∀ w, w < 14 → r (14 * T + w) = -1) (by omega) ⟨rfl, fun q w _ _ => rfl, fun w hw => absurd hw (Nat.not_lt_zero w)⟩ (by
    intro m z hm hI
    obtain ⟨a1, a2, a3⟩ := hI
    show ∃ s', fX5_addThing_l34b N (nI (T + 1)) (vp_updL dc T 0) x (nI T) z.1 z.2 = some (.inl s') ∧ _
    unfold fX5_addThing_l34b
    rw [a1, if_neg (show ¬ (14 : Int32) ≤ nI m from nI_ge (b := 14) hm (by decide)), bind_e (tl z.1 m (nI m) (-1) hm rfl), bnd_e, nI_1]
    refine ⟨_, rfl, rfl, fun q w hq hw => ?_, fun w hw => ?_⟩
    · show upd z.1 (14 * T + m) (-1) (14 * q + w) = _
      rw [u14 hm hw (Or.inl hq), a2 q w hq hw]
    · show upd z.1 (14 * T + m) (-1) (14 * T + w) = _
      by_cases c : w = m
      · rw [c, pk_us]
      · rw [pk_un (by omega), a3 w (by omega)]) (by
    intro z hI
    obtain ⟨a1, a2, a3⟩ := hI
    show ∃ r, fX5_addThing_l34b N (nI (T + 1)) (vp_updL dc T 0) x (nI T) z.1 z.2 = some (.inr r) ∧ _
    unfold fX5_addThing_l34b
    rw [a1, if_pos (show (14 : Int32) ≤ nI 14 by decide)]
    exact ⟨z.1, rfl, a2, a3⟩)
  rw [bind_e hr, bind_e (tl r 0 0 x (by decide) rfl), bind_e (tl _ 3 3 0 (by decide) rfl), bind_e (tl _ 4 4 100 (by decide) rfl), bind_e (tl _ 5 5 5 (by decide) rfl), bind_e (tl _ 6 6 50 (by decide) rfl), bind_e (tl _ 7 7 1 (by decide) rfl)]
  refine ⟨_, rfl, fun q w hq hw => ?_, fun w hw => ?_⟩
  · rw [u14 (by decide) hw (Or.inl hq), u14 (by decide) hw (Or.inl hq), u14 (by decide) hw (Or.inl hq), u14 (by decide) hw (Or.inl hq), u14 (by decide) hw (Or.inl hq), u14 (by decide) hw (Or.inl hq)]
    exact hr1 q w hq hw
  · unfold inF
    by_cases c7 : w = 7
    · subst c7
      rw [pk_us]
      rfl
    · rw [u14 (by decide) hw (Or.inr c7)]
      by_cases c6 : w = 6
      · subst c6
        rw [pk_us]
        rfl
      · rw [u14 (by decide) hw (Or.inr c6)]
        by_cases c5 : w = 5
        · subst c5
          rw [pk_us]
          rfl
        · rw [u14 (by decide) hw (Or.inr c5)]
          by_cases c4 : w = 4
          · subst c4
            rw [pk_us]
            rfl
          · rw [u14 (by decide) hw (Or.inr c4)]
            by_cases c3 : w = 3
            · subst c3
              rw [pk_us]
              rfl
            · rw [u14 (by decide) hw (Or.inr c3)]
              by_cases c0 : w = 0
              · subst c0
                rw [pk_us]
                rfl
              · rw [u14 (by decide) hw (Or.inr c0), if_neg c0, if_neg c3, if_neg c4, if_neg c5, if_neg c6, if_neg c7]
                exact hr2 w hw
theorem NMI_less {L T : Nat} {ln tn : Nat → Int32} {nm : Nat → Int64} (h : NMI L (T + 1) ln tn nm) : NMI L T ln tn nm := by
  obtain ⟨f, g, h1, h2, h3⟩ := h
  exact ⟨f, g, h1, fun k hk => h2 k (by omega), fun k j hk hj => h3 k j hk (by omega)⟩

/-! a THING, side by side -/
theorem l95_e {N b : Nat} (hN : 1241 < N) (hb : b ≤ 320) (sz to fr kd nu fo sp td v1 : Int32) (wd : Int64) (u y : Nat → Int32) (nm rg : Nat → Int64) : ∃ r, itr (fun z : (Nat → Int32) × Int32 => fX12_readThing_l95b N sz to fr kd nu fo sp wd td u nm rg v1 (nI b) z.1 z.2) N (y, (3 : Int32)) = some r ∧ (∀ j, (j < b + 3 ∨ b + 14 ≤ j) → r j = y j) ∧ ∀ w, 3 ≤ w → w < 14 → r (b + w) = -1 := by
  obtain ⟨r, hr, h1, h2⟩ := itr_inv (body := fun z : (Nat → Int32) × Int32 => fX12_readThing_l95b N sz to fr kd nu fo sp wd td u nm rg v1 (nI b) z.1 z.2) (n := N) (b := 11) (s := (y, (3 : Int32))) (fun m z => z.2 = nI (3 + m) ∧ (∀ j, (j < b + 3 ∨ b + 14 ≤ j) → z.1 j = y j) ∧ ∀ w, 3 ≤ w → w < 3 + m → z.1 (b + w) = -1) (fun r => (∀ j, (j < b + 3 ∨ b + 14 ≤ j) → r j = y j) ∧ ∀ w, 3 ≤ w → w < 14 → r (b + w) = -1) (by omega) ⟨rfl, fun j _ => rfl, fun w h1 h2 => absurd h2 (by omega)⟩ (by
    intro m z hm hI
    obtain ⟨a1, a2, a3⟩ := hI
    show ∃ s', fX12_readThing_l95b N sz to fr kd nu fo sp wd td u nm rg v1 (nI b) z.1 z.2 = some (.inl s') ∧ _
    unfold fX12_readThing_l95b
    rw [a1, if_neg (show ¬ (13 : Int32) < nI (3 + m) from nI_nlt (a := 13) (by omega) (by decide)), nI_add, gdi_nI (show b + (3 + m) < 340 by omega) (by decide), bnd_e, bnd_e, nI_1, nI_clamp (show b + (3 + m) < 2 ^ 31 by omega)]
    refine ⟨_, rfl, rfl, fun j hj => ?_, fun w h1 h2 => ?_⟩
    · show upd z.1 (b + (3 + m)) (-1) j = _
      rw [pk_un (by omega), a2 j hj]
    · show upd z.1 (b + (3 + m)) (-1) (b + w) = _
      by_cases c : w = 3 + m
      · rw [c, pk_us]
      · rw [pk_un (by omega), a3 w h1 (by omega)]) (by
    intro z hI
    obtain ⟨a1, a2, a3⟩ := hI
    show ∃ r, fX12_readThing_l95b N sz to fr kd nu fo sp wd td u nm rg v1 (nI b) z.1 z.2 = some (.inr r) ∧ _
    unfold fX12_readThing_l95b
    rw [a1, if_pos (show (13 : Int32) < nI (3 + 11) by decide)]
    exact ⟨z.1, rfl, a2, fun w h1 h2 => a3 w h1 (by omega)⟩)
  exact ⟨r, hr, h1, h2⟩
theorem FB_in {L k f t : Nat} {g : Nat → Int32} (hk : k < L) (hf : f < 3600) (ht : t < 3600) (h1 : g 1 = nI f) (h2 : g 2 = nI t) (h : ∀ w, w < 14 → w ≠ 1 → w ≠ 2 → g w = inF (nI k) w) : FB L g := by
  unfold FB
  rw [h1, h2, h 0 (by decide) (by decide) (by decide), h 3 (by decide) (by decide) (by decide), h 4 (by decide) (by decide) (by decide), h 5 (by decide) (by decide) (by decide), h 6 (by decide) (by decide) (by decide), h 7 (by decide) (by decide) (by decide), h 8 (by decide) (by decide) (by decide), h 9 (by decide) (by decide) (by decide), h 10 (by decide) (by decide) (by decide), h 11 (by decide) (by decide) (by decide), h 12 (by decide) (by decide) (by decide), h 13 (by decide) (by decide) (by decide)]
  exact ⟨⟨k, hk, rfl⟩, ⟨f, hf, rfl⟩, ⟨t, ht, rfl⟩, ⟨0, by decide, rfl⟩, ⟨100, by decide, by decide, rfl⟩, ⟨5, by decide, by decide, rfl⟩, ⟨50, by decide, rfl⟩, ⟨1, by decide, rfl⟩, Or.inl ⟨rfl, rfl⟩, Or.inl ⟨rfl, rfl, rfl⟩, Or.inl rfl⟩
section RD
variable {N n la i L T P A : Nat} {t u sa ka va wa ln tn read dF dP : Nat → Int32} {nm dc rg : Nat → Int64} {g : G5} {dl dt dp da df : Int32}
set_option maxHeartbeats 4000000 in
theorem ln_thing (h : RC N n la t u sa ka va wa) (hi : i < la) (ht : TK t n la sa ka va wa i g) (hk : g.2.2.1 = 2) (hR : IR1 T L P A dl dt dp da df dc dP dF read rg) (hF : IF1 T L dF) (hn : NMI L T ln tn nm) (fk fp to1 nu fo sp td : Int32) :
    (∃ k p at' to' nu' dt' tn' dc' dF' x1 x2 x3 x4 w' td' read' nm' rg', VP la sa p ∧ fX4_readThing N fk fp (nI i) to1 nu dl dt (nI la) sa ka ln va tn dc dF wa = some (k, p, at', to', nu', dt', tn', dc', dF', 0) ∧ fX12_readThing N (nI n) g.1 g.2.1 g.2.2.1 g.2.2.2.1 fo sp g.2.2.2.2 td read u nm rg = some (x1, x2, x3, x4, k, p, w', td', read', nm', rg', 0)) ∨
    (∃ p at' to' nu' dt' tn' dc' dF' x1 x3 x4 w' td' read' nm' rg', VP la sa p ∧ ¬ x3 = 4 ∧ fX4_readThing N fk fp (nI i) to1 nu dl dt (nI la) sa ka ln va tn dc dF wa = some (1, p, at', to', nu', dt', tn', dc', dF', 0) ∧ fX12_readThing N (nI n) g.1 g.2.1 g.2.2.1 g.2.2.2.1 fo sp g.2.2.2.2 td read u nm rg = some (x1, p, x3, x4, fo, sp, w', td', read', nm', rg', 1)) ∨
    (∃ j to' nu' tn' dc' dF' g' td' read' nm' rg', i < j ∧ fX4_readThing N fk fp (nI i) to1 nu dl dt (nI la) sa ka ln va tn dc dF wa = some (fk, fp, nI j, to', nu', nI (T + 1), tn', dc', dF', 1) ∧ fX12_readThing N (nI n) g.1 g.2.1 g.2.2.1 g.2.2.2.1 fo sp g.2.2.2.2 td read u nm rg = some (g'.1, g'.2.1, g'.2.2.1, g'.2.2.2.1, fo, sp, g'.2.2.2.2, td', read', nm', rg', 1) ∧ TK t n la sa ka va wa j g' ∧ IR1 (T + 1) L P A dl (nI (T + 1)) dp da df dc' dP dF' read' rg' ∧ IF1 (T + 1) L dF' ∧ NMI L (T + 1) ln tn' nm') := by
  have hl := rd_la h
  obtain ⟨⟨hT, hL, hP, hA⟩, ⟨rfl, rfl, rfl, rfl⟩, ⟨n0, n1, n2, n3, n4, hf⟩, hp, hFe, hc⟩ := hR
  unfold fX4_readThing fX12_readThing
  rw [gdi_e (i := 1) (n := 340) 1 rfl (by decide) (by decide), bnd_e, show read ((1 : Int32).toNatClampNeg) = nI T from n1]
  by_cases c16 : T = 16
  · subst c16
    exact Or.inl ⟨4, sa i, _, _, _, _, _, _, _, _, _, _, _, _, _, _, _, _, (TK_VP ht), by rw [if_neg (show ¬ nI 16 < (16 : Int32) by decide), bind_e (refuse_e (by omega) fk fp 4 sa), gdb_e (Or.inl rfl)], by rw [if_pos (show nI 16 = (16 : Int32) by decide), bind_e (bad_e _ _ _ _ _), hk, if_neg (by decide), gdb_e (Or.inl rfl), TK_from ht]⟩
  · have hT16 : T < 16 := by omega
    obtain ⟨g1, e1, ht1⟩ := rd_go h hi ht
    rw [if_pos (show nI T < (16 : Int32) from nI_lt (b := 16) hT16 (by decide)), if_neg (show ¬ nI T = (16 : Int32) from fun y => c16 ((nI_eq (a := T) (b := 16) (by omega) (by decide)).mp y)), bind_e (pass_e hi hl), bind_e e1, show (8 : Int32) + nI T = nI (8 + T) from nI_add 8 T]
    rcases r_new h ht1 hL hT n0 n1 hn (show 8 + T < 24 by omega) fk fp fo sp with ⟨k, p, hV, q1, q2⟩ | ⟨v, g2, hi2, hv, h2, h3, h4, q1, q2, ht2⟩
    · exact Or.inl ⟨k, p, _, _, _, _, _, _, _, _, _, _, _, _, _, _, _, _, hV, by rw [bind_e q1, if_pos rfl], by rw [bind_e q2, if_pos rfl]⟩
    · have hn2 := NMI_thing hn hL hv h3
      rw [bind_e q1, if_neg (show ¬ (1 : Int32) = 0 by decide), bind_e q2, if_neg (show ¬ (1 : Int32) = 0 by decide), gdi_nI (show i + 1 < 1201 by omega) (by decide), gdi_nI hT16 (by decide), bnd_e, nI_clamp (show i + 1 < 2 ^ 31 by omega), nI_clamp (show T < 2 ^ 31 by omega), h2, bind_e (pass_e hi2 hl)]
      rcases r_land h ht2 hL hT n0 n1 (NMI_less hn2) fk fp with ⟨q3, q4⟩ | ⟨hi3, hk3, q4, q3, q5⟩ | ⟨hi3, q4, k, hkL, q3, q5⟩
      · exact Or.inl ⟨1, sa (i + 1 + 1), _, _, _, _, _, _, _, _, _, _, _, _, _, _, _, _, (TK_VP ht2), by rw [bind_e q3, if_pos rfl], by rw [bind_e q4, if_pos rfl, bind_e (bad_1 _ _ _ _), gdb_e (Or.inl rfl), TK_from ht2]⟩
      · have ej : ∀ td, fX12_readThing_j65 N (nI n) g2.1 g2.2.1 g2.2.2.1 g2.2.2.2.1 fo sp g2.2.2.2.2 td read u (vp_updL nm (8 + T) (lN v)) rg = some (g2.1, g2.2.1, g2.2.2.1, g2.2.2.2.1, 3, sa (i + 1 + 1), g2.2.2.2.2, td, read, vp_updL nm (8 + T) (lN v), rg, 0) := by
          intro td
          unfold fX12_readThing_j65
          rw [bind_e (bad_e _ _ _ _ _), hk3, if_neg (by decide), gdb_e (Or.inl rfl), TK_from ht2]
        refine Or.inl ⟨3, sa (i + 1 + 1), nI (i + 1 + 1), to1, nu, nI T, upd tn T (nI v), dc, dF, g2.1, g2.2.1, g2.2.2.1, g2.2.2.2.1, g2.2.2.2.2, td, read, vp_updL nm (8 + T) (lN v), rg, (TK_VP ht2), by rw [bind_e q3, if_pos rfl], ?_⟩
        rw [bind_e q4, if_neg (show ¬ (1 : Int32) = 0 by decide)]
        rcases q5 with q5 | ⟨k, hkT, q5⟩
        · rw [bind_e q5, if_pos rfl, ej]
        · rw [bind_e q5, if_neg (show ¬ nI (8 + k) = -1 from nI_m1 (by omega)), if_neg (show ¬ nI (8 + k) < (8 : Int32) from nI_nlt (b := 8) (by omega) (by omega)), ej]
      · obtain ⟨g3, e3, ht3⟩ := rd_go h hi3 ht2
        obtain ⟨dF2, ea, ea1, ea2⟩ := addThing_e h.1 hT16 dc dF (nI k)
        have e20 : (20 : Int32) + (20 : Int32) * nI T = nI (20 + 20 * T) := by
          rw [show (20 : Int32) * nI T = nI (20 * T) from pk_mul 20 T]
          exact nI_add 20 (20 * T)
        obtain ⟨rd1, er, er1, er2⟩ := l95_e (b := 20 + 20 * T) h.1 (by omega) (nI n) g3.1 g3.2.1 g3.2.2.1 g3.2.2.2.1 fo sp td (nI T) g3.2.2.2.2 u (upd read (20 + 20 * T + 0) (nI k)) (vp_updL nm (8 + T) (lN v)) rg
        rw [bind_e q3, if_neg (show ¬ nI k = -1 from nI_m1 (by omega)), bind_e q4, if_neg (show ¬ (1 : Int32) = 0 by decide), bind_e q5, if_neg (show ¬ nI k = -1 from nI_m1 (by omega)), if_pos (show nI k < (8 : Int32) from nI_lt (b := 8) (by omega) (by decide)), bind_e (pass_e hi3 hl), bind_e e3, e20, bnd_e, bind_e ea, show nI (20 + 20 * T) + (0 : Int32) = nI (20 + 20 * T + 0) from nI_add _ 0, show nI (20 + 20 * T) + (1 : Int32) = nI (20 + 20 * T + 1) from nI_add _ 1, show nI (20 + 20 * T) + (2 : Int32) = nI (20 + 20 * T + 2) from nI_add _ 2, show nI (20 + 20 * T) + (3 : Int32) = nI (20 + 20 * T + 3) from nI_add _ 3, show nI (20 + 20 * T) + (4 : Int32) = nI (20 + 20 * T + 4) from nI_add _ 4, show nI (20 + 20 * T) + (5 : Int32) = nI (20 + 20 * T + 5) from nI_add _ 5, show nI (20 + 20 * T) + (6 : Int32) = nI (20 + 20 * T + 6) from nI_add _ 6, show nI (20 + 20 * T) + (7 : Int32) = nI (20 + 20 * T + 7) from nI_add _ 7]
        rw [gdi_nI (show 20 + 20 * T + 0 < 340 by omega) (by decide), bnd_e, nI_clamp (show 20 + 20 * T + 0 < 2 ^ 31 by omega), bind_e er, gdi_nI (show 20 + 20 * T + 3 < 340 by omega) (by decide), bnd_e, nI_clamp (show 20 + 20 * T + 3 < 2 ^ 31 by omega), gdi_nI (show 20 + 20 * T + 4 < 340 by omega) (by decide), bnd_e, nI_clamp (show 20 + 20 * T + 4 < 2 ^ 31 by omega), gdi_nI (show 20 + 20 * T + 5 < 340 by omega) (by decide), bnd_e, nI_clamp (show 20 + 20 * T + 5 < 2 ^ 31 by omega), gdi_nI (show 20 + 20 * T + 6 < 340 by omega) (by decide), bnd_e, nI_clamp (show 20 + 20 * T + 6 < 2 ^ 31 by omega), gdi_nI (show 20 + 20 * T + 7 < 340 by omega) (by decide), bnd_e, nI_clamp (show 20 + 20 * T + 7 < 2 ^ 31 by omega), gdi_nI hT16 (by decide), bnd_e]
        obtain ⟨rd2, erd2⟩ : ∃ r, r = upd (upd (upd (upd (upd rd1 (20 + 20 * T + 3) 0) (20 + 20 * T + 4) 100) (20 + 20 * T + 5) 5) (20 + 20 * T + 6) 50) (20 + 20 * T + 7) 1 := ⟨_, rfl⟩
        have f1 : ∀ j, (j < 20 + 20 * T ∨ 20 + 20 * T + 14 ≤ j) → rd2 j = read j := by
          intro j hj
          rw [erd2, pk_un (by omega), pk_un (by omega), pk_un (by omega), pk_un (by omega), pk_un (by omega), er1 j (by omega), pk_un (by omega)]
        have f2 : ∀ w, w < 14 → w ≠ 1 → w ≠ 2 → rd2 (20 + 20 * T + w) = inF (nI k) w := by
          intro w hw w1 w2
          rw [erd2]
          unfold inF
          by_cases c7 : w = 7
          · subst c7
            rw [pk_us]
            rfl
          · rw [pk_un (by omega)]
            by_cases c6 : w = 6
            · subst c6
              rw [pk_us]
              rfl
            · rw [pk_un (by omega)]
              by_cases c5 : w = 5
              · subst c5
                rw [pk_us]
                rfl
              · rw [pk_un (by omega)]
                by_cases c4 : w = 4
                · subst c4
                  rw [pk_us]
                  rfl
                · rw [pk_un (by omega)]
                  by_cases c3 : w = 3
                  · subst c3
                    rw [pk_us]
                    rfl
                  · rw [pk_un (by omega)]
                    by_cases c0 : w = 0
                    · subst c0
                      rw [er1 _ (by omega), pk_us]
                      rfl
                    · rw [er2 w (by omega) hw, if_neg c0, if_neg c3, if_neg c4, if_neg c5, if_neg c6, if_neg c7]
        rw [← erd2]
        have exC : ∀ (k p at' nu1 : Int32) (dF9 : Nat → Int32), itr (bC N la T (nI L) (nI (T + 1)) sa ka ln va (upd tn T (nI v)) wa) N (k, p, at', 0, nu1, vp_updL dc T 0, dF9, 0, 0) = some (k, p, at', 0, nu1, vp_updL dc T 0, dF9, 0) := by
          intro k p at' nu1 dF9
          obtain ⟨N', hN'⟩ : ∃ m, N = m + 1 := ⟨N - 1, by have := h.1; omega⟩
          have := bC_0 (N := N) (la := la) (T := T) (dl := nI L) (dt := nI (T + 1)) (sa := sa) (ka := ka) (va := va) (wa := wa) (ln := ln) (tn := upd tn T (nI v)) N' k p at' 0 nu1 0 (vp_updL dc T 0) dF9
          rw [← hN'] at this
          exact this
        rcases r_fact h ht3 (q := T) (w := 1) hT16 (by decide) (x := 1) rfl dF2 fk fp nu fo sp td 0 3599 with ⟨k', p, nu', hV, q6, q7⟩ | ⟨vf, g4, hi4, hvf, haf, hbf, q6, q7, ht4⟩
        · refine Or.inl ⟨k', p, nI (i + 1 + 1 + 1), 0, nu', nI (T + 1), upd tn T (nI v), vp_updL dc T 0, dF2, _, _, _, _, _, _, _, _, _, hV, ?_, by rw [bind_e q7, if_pos rfl]⟩
          rw [bind_e q6, if_pos rfl]
          show (itr (bC N la T (nI L) (nI (T + 1)) sa ka ln va (upd tn T (nI v)) wa) N (k', p, nI (i + 1 + 1 + 1), 0, nu', vp_updL dc T 0, dF2, 0, 0)).bind _ = _
          rw [bind_e (exC k' p _ nu' dF2), gdb_e (Or.inl rfl)]
        · rw [bind_e q6, if_neg (show ¬ (1 : Int32) = 0 by decide), bind_e q7, if_neg (show ¬ (1 : Int32) = 0 by decide), gdi_nI (show 20 + 20 * T + 1 < 340 by omega) (by decide), bnd_e, nI_clamp (show 20 + 20 * T + 1 < 2 ^ 31 by omega)]
          rcases r_fact h ht4 (q := T) (w := 2) hT16 (by decide) (x := 2) rfl (upd dF2 (14 * T + 1) (nI vf)) fk fp (nI vf) fo sp (nI vf) 0 3599 with ⟨k', p, nu', hV, q8, q9⟩ | ⟨vt, g5, hi5, hvt, hat, hbt, q8, q9, ht5⟩
          · refine Or.inl ⟨k', p, nI (i + 1 + 1 + 1 + 1), 0, nu', nI (T + 1), upd tn T (nI v), vp_updL dc T 0, upd dF2 (14 * T + 1) (nI vf), _, _, _, _, _, _, _, _, _, hV, ?_, by rw [bind_e q9, if_pos rfl]⟩
            rw [bind_e q8, if_pos rfl]
            show (itr (bC N la T (nI L) (nI (T + 1)) sa ka ln va (upd tn T (nI v)) wa) N (k', p, nI (i + 1 + 1 + 1 + 1), 0, nu', vp_updL dc T 0, upd dF2 (14 * T + 1) (nI vf), 0, 0)).bind _ = _
            rw [bind_e (exC k' p _ nu' _), gdb_e (Or.inl rfl)]
          · have hf36 : vf < 3600 := by
              have := (nI_leI (a := vf) (b := 3599) (by omega) (by decide)).mp hbf
              omega
            have ht36 : vt < 3600 := by
              have := (nI_leI (a := vt) (b := 3599) (by omega) (by decide)).mp hbt
              omega
            rw [bind_e q8, if_neg (show ¬ (1 : Int32) = 0 by decide), bind_e q9, if_neg (show ¬ (1 : Int32) = 0 by decide), gdi_nI (show 20 + 20 * T + 2 < 340 by omega) (by decide), bnd_e, nI_clamp (show 20 + 20 * T + 2 < 2 ^ 31 by omega)]
            have hPI : PI T L P A (nI L) (nI (T + 1)) (nI P) (nI A) df (vp_updL dc T 0) dP (upd (upd dF2 (14 * T + 1) (nI vf)) (14 * T + 2) (nI vt)) (upd (upd rd2 (20 + 20 * T + 1) (nI vf)) (20 + 20 * T + 2) (nI vt)) (vp_updL rg T 0) 0 0 := by
              have gw : ∀ w, w < 14 → w ≠ 1 → w ≠ 2 → upd (upd dF2 (14 * T + 1) (nI vf)) (14 * T + 2) (nI vt) (14 * T + w) = inF (nI k) w := by
                intro w hw w1 w2
                rw [u14 (by decide) hw (Or.inr w2), u14 (by decide) hw (Or.inr w1), ea2 w hw]
              have lo : ∀ j, j < 20 → j ≠ 1 → upd (upd (upd rd2 (20 + 20 * T + 1) (nI vf)) (20 + 20 * T + 2) (nI vt)) 1 (nI (T + 1)) j = read j := by
                intro j hj j1
                rw [pk_un j1, pk_un (by omega), pk_un (by omega), f1 j (by omega)]
              refine ⟨⟨⟨by omega, hL, hP, hA⟩, ⟨rfl, rfl, rfl, rfl⟩, ⟨?_, pk_us, ?_, ?_, ?_, hf⟩, fun j hj => ?_, fun s hs w hw => ?_, fun s hs => ?_⟩, ?_, fun s hs => ?_, 0, 0, by decide, by decide, rfl, rfl, fun j _ => by rw [Nat.zero_testBit, Nat.zero_testBit]⟩
              · rw [lo 0 (by decide) (by decide), n0]
              · rw [lo 2 (by decide) (by decide), n2]
              · rw [lo 3 (by decide) (by decide), n3]
              · rw [lo 4 (by decide) (by decide), n4]
              · rw [lo (5 + j) (by omega) (by omega)]
                exact hp j hj
              · rw [pk_un (show 20 + 20 * s + w ≠ 1 by omega)]
                by_cases cs : s = T
                · subst cs
                  by_cases w2 : w = 2
                  · rw [w2, pk_us, pk_us]
                  · by_cases w1 : w = 1
                    · rw [w1, u14 (by decide) (by decide) (Or.inr (by decide)), u20 (by decide) (by decide) (Or.inr (by decide)), pk_us, pk_us]
                    · rw [gw w hw w1 w2, u20 (by decide) hw (Or.inr w2), u20 (by decide) hw (Or.inr w1), f2 w hw w1 w2]
                · rw [u14 (by decide) hw (Or.inl cs), u14 (by decide) hw (Or.inl cs), u20 (by decide) hw (Or.inl cs), u20 (by decide) hw (Or.inl cs), ea1 s w cs hw, f1 _ (by omega)]
                  exact hFe s (by omega) w hw
              · by_cases cs : s = T
                · rw [cs, pk_uLs, pk_uLs]
                · rw [pk_uLn cs, pk_uLn cs]
                  exact hc s (by omega)
              · rw [pk_un (by omega), pk_un (by omega), f1 1 (by omega), n1]
              · by_cases cs : s = T
                · subst cs
                  exact FB_in (g := fun w => upd (upd dF2 (14 * s + 1) (nI vf)) (14 * s + 2) (nI vt) (14 * s + w)) hkL hf36 ht36 (by
                    show upd (upd dF2 (14 * s + 1) (nI vf)) (14 * s + 2) (nI vt) (14 * s + 1) = _
                    rw [u14 (by decide) (by decide) (Or.inr (by decide)), pk_us]) pk_us gw
                · refine FB_cong (f := fun w => upd (upd dF2 (14 * T + 1) (nI vf)) (14 * T + 2) (nI vt) (14 * s + w)) (g := fun w => dF (14 * s + w)) (fun w hw => ?_) (hF s (by omega))
                  show upd (upd dF2 (14 * T + 1) (nI vf)) (14 * T + 2) (nI vt) (14 * s + w) = dF (14 * s + w)
                  rw [u14 (by decide) hw (Or.inl cs), u14 (by decide) hw (Or.inl cs), ea1 s w cs hw]
            have hN := h.1
            have go1 : ∀ (x1 p x3 x4 w' td') (read' : Nat → Int32) (rg' : Nat → Int64), (Sum.elim (fun q61 : Int32 × Int32 × Int32 × Int32 × Int32 × Int32 × Int64 × Int32 × (Nat → Int32) × (Nat → Int64) => gdi (1 : Int32) 340 (gdi (1 : Int32) 340 (bnd (upd q61.2.2.2.2.2.2.2.2.1 (1 : Int32).toNatClampNeg ((q61.2.2.2.2.2.2.2.2.1 (1 : Int32).toNatClampNeg) + (1 : Int32))) fun y64 => some (q61.1, q61.2.1, q61.2.2.1, q61.2.2.2.1, q61.2.2.2.2.1, q61.2.2.2.2.2.1, q61.2.2.2.2.2.2.1, q61.2.2.2.2.2.2.2.1, y64, vp_updL nm (8 + T) (lN v), q61.2.2.2.2.2.2.2.2.2, (1 : Int32))))) (fun q61 => some q61) (Sum.inl (x1, p, x3, x4, fo, sp, w', td', read', rg') : (Int32 × Int32 × Int32 × Int32 × Int32 × Int32 × Int64 × Int32 × (Nat → Int32) × (Nat → Int64)) ⊕ (Int32 × Int32 × Int32 × Int32 × Int32 × Int32 × Int64 × Int32 × (Nat → Int32) × (Nat → Int64) × (Nat → Int64) × Int32))) = some (x1, p, x3, x4, fo, sp, w', td', upd read' 1 (read' 1 + 1), vp_updL nm (8 + T) (lN v), rg', 1) := by
              intro x1 p x3 x4 w' td' read' rg'
              rfl
            rcases parts_e (nm := vp_updL nm (8 + T) (lN v)) h hT16 ln (upd tn T (nI v)) fk fp fo sp 1200 (i + 1 + 1 + 1 + 1 + 1) (by omega) 0 g5 0 (nI vt) (nI vt) 0 (vp_updL dc T 0) (vp_updL rg T 0) _ _ ht5 hPI (by omega) N N (by omega) (by omega) with ⟨k', p, at', to', nu', dc', dF', x1, x2, x3, x4, w', td', read', rg', hV, r1, r2⟩ | ⟨p, at', to', nu', dc', dF', x1, x3, x4, w', td', read', rg', hV, hx3, r1, r2⟩ | ⟨j, to', nu', dc', dF', g', td', read', rg', once', hj, r1, r2, ht', hP'⟩
            · refine Or.inl ⟨k', p, at', to', nu', nI (T + 1), upd tn T (nI v), dc', dF', x1, x2, x3, x4, w', td', read', vp_updL nm (8 + T) (lN v), rg', hV, ?_, ?_⟩
              · show (itr (bC N la T (nI L) (nI (T + 1)) sa ka ln va (upd tn T (nI v)) wa) N (fk, fp, nI (i + 1 + 1 + 1 + 1 + 1), 0, nI vt, vp_updL dc T 0, upd (upd dF2 (14 * T + 1) (nI vf)) (14 * T + 2) (nI vt), 1, nI 0)).bind _ = _
                rw [bind_e r1, gdb_e (Or.inl rfl)]
              · show (itr (bM N n T u (vp_updL nm (8 + T) (lN v))) N (g5.1, g5.2.1, g5.2.2.1, g5.2.2.2.1, fo, sp, g5.2.2.2.2, nI vt, upd (upd rd2 (20 + 20 * T + 1) (nI vf)) (20 + 20 * T + 2) (nI vt), vp_updL rg T 0, 0)).bind _ = _
                rw [bind_e r2]
                rfl
            · refine Or.inr (Or.inl ⟨p, at', to', nu', nI (T + 1), upd tn T (nI v), dc', dF', x1, x3, x4, w', td', upd read' 1 (read' 1 + 1), vp_updL nm (8 + T) (lN v), rg', hV, hx3, ?_, ?_⟩)
              · show (itr (bC N la T (nI L) (nI (T + 1)) sa ka ln va (upd tn T (nI v)) wa) N (fk, fp, nI (i + 1 + 1 + 1 + 1 + 1), 0, nI vt, vp_updL dc T 0, upd (upd dF2 (14 * T + 1) (nI vf)) (14 * T + 2) (nI vt), 1, nI 0)).bind _ = _
                rw [bind_e r1, gdb_e (Or.inl rfl)]
              · show (itr (bM N n T u (vp_updL nm (8 + T) (lN v))) N (g5.1, g5.2.1, g5.2.2.1, g5.2.2.2.1, fo, sp, g5.2.2.2.2, nI vt, upd (upd rd2 (20 + 20 * T + 1) (nI vf)) (20 + 20 * T + 2) (nI vt), vp_updL rg T 0, 0)).bind _ = _
                rw [bind_e r2]
                exact go1 _ _ _ _ _ _ _ _
            · obtain ⟨p1, p2, p3, _⟩ := hP'
              have e1' : read' 1 + 1 = nI (T + 1) := by rw [p2, nI_1]
              refine Or.inr (Or.inr ⟨j, to', nu', upd tn T (nI v), dc', dF', g', td', upd read' 1 (nI (T + 1)), vp_updL nm (8 + T) (lN v), rg', by omega, ?_, ?_, ht', p1, p3, hn2⟩)
              · show (itr (bC N la T (nI L) (nI (T + 1)) sa ka ln va (upd tn T (nI v)) wa) N (fk, fp, nI (i + 1 + 1 + 1 + 1 + 1), 0, nI vt, vp_updL dc T 0, upd (upd dF2 (14 * T + 1) (nI vf)) (14 * T + 2) (nI vt), 1, nI 0)).bind _ = _
                rw [bind_e r1, gdb_e (Or.inr rfl)]
              · show (itr (bM N n T u (vp_updL nm (8 + T) (lN v))) N (g5.1, g5.2.1, g5.2.2.1, g5.2.2.2.1, fo, sp, g5.2.2.2.2, nI vt, upd (upd rd2 (20 + 20 * T + 1) (nI vf)) (20 + 20 * T + 2) (nI vt), vp_updL rg T 0, 0)).bind _ = _
                rw [bind_e r2, ← e1']
                exact go1 _ _ _ _ _ _ _ _
end RD

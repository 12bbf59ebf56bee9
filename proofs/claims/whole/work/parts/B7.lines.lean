/-! the LINES, side by side -/
theorem bad_1 (f k fo sp : Int32) : fX12_bad f k fo sp 1 = some (1, f, 0) := by
  rw [bad_e]
  by_cases c : k = 1
  · rw [if_pos c]
  · rw [if_neg c]
section RD
variable {N n la i L T P A : Nat} {t u sa ka va wa ln tn read dF dP : Nat → Int32} {nm dc rg : Nat → Int64} {g : G5} {dl dt dp da df : Int32}
theorem ln_land (h : RC N n la t u sa ka va wa) (hi : i < la) (ht : TK t n la sa ka va wa i g) (hk : g.2.2.1 = 2) (hR : IR1 T L P A dl dt dp da df dc dP dF read rg) (hF : IF1 T L dF) (hn : NMI L T ln tn nm) (fk fp fo sp : Int32) :
    (∃ k p at' dl' ln' x1 x2 x3 x4 w' read' nm', VP la sa p ∧ fX4_readLand N fk fp (nI i) dl dt (nI la) sa ka ln va tn = some (k, p, at', dl', ln', 0) ∧ fX12_readLand N (nI n) g.1 g.2.1 g.2.2.1 g.2.2.2.1 fo sp g.2.2.2.2 read u nm = some (x1, x2, x3, x4, k, p, w', read', nm', 0)) ∨
    (∃ j ln' g' read' nm', i < j ∧ fX4_readLand N fk fp (nI i) dl dt (nI la) sa ka ln va tn = some (fk, fp, nI j, nI (L + 1), ln', 1) ∧ fX12_readLand N (nI n) g.1 g.2.1 g.2.2.1 g.2.2.2.1 fo sp g.2.2.2.2 read u nm = some (g'.1, g'.2.1, g'.2.2.1, g'.2.2.2.1, fo, sp, g'.2.2.2.2, read', nm', 1) ∧ TK t n la sa ka va wa j g' ∧ IR1 T (L + 1) P A (nI (L + 1)) dt dp da df dc dP dF read' rg ∧ IF1 T (L + 1) dF ∧ NMI (L + 1) T ln' tn nm') := by
  have hl := rd_la h
  obtain ⟨⟨hT, hL, hP, hA⟩, ⟨rfl, rfl, rfl, rfl⟩, ⟨n0, n1, n2, n3, n4, hf⟩, hp, hFe, hc⟩ := hR
  unfold fX4_readLand fX12_readLand
  rw [gdi_e (i := 0) (n := 340) 0 rfl (by decide) (by decide), show read ((0 : Int32).toNatClampNeg) = nI L from n0]
  by_cases c8 : L = 8
  · subst c8
    exact Or.inl ⟨4, sa i, _, _, _, _, _, _, _, _, _, _, (TK_VP ht), by rw [if_neg (show ¬ nI 8 < (8 : Int32) by decide), bind_e (refuse_e (by omega) fk fp 4 sa), gdb_e (Or.inl rfl)], by rw [if_pos (show nI 8 = (8 : Int32) by decide), bind_e (bad_e _ _ _ _ _), hk, if_neg (by decide), gdb_e (Or.inl rfl), TK_from ht]⟩
  · obtain ⟨g1, e1, ht1⟩ := rd_go h hi ht
    rw [if_pos (show nI L < (8 : Int32) from nI_lt (b := 8) (by omega) (by decide)), if_neg (show ¬ nI L = (8 : Int32) from fun y => c8 ((nI_eq (a := L) (b := 8) (by omega) (by decide)).mp y)), bind_e (pass_e hi hl), bind_e e1, gdi_e (i := 0) (n := 340) 0 rfl (by decide) (by decide)]
    rcases r_new h ht1 hL hT n0 n1 hn (show L < 24 by omega) fk fp fo sp with ⟨k, p, hV, q1, q2⟩ | ⟨v, g2, hi2, hv, h2, h3, h4, q1, q2, ht2⟩
    · exact Or.inl ⟨k, p, _, _, _, _, _, _, _, _, _, _, hV, by rw [bind_e q1, if_pos rfl], by rw [bind_e q2, if_pos rfl]⟩
    · refine Or.inr ⟨i + 1 + 1, upd ln L (nI v), g2, upd read 0 (nI (L + 1)), vp_updL nm L (lN v), by omega, ?_, ?_, ht2, ?_, IF1_L hF, NMI_land hn (by omega) hv h4⟩
      · rw [bind_e q1, if_neg (show ¬ (1 : Int32) = 0 by decide), gdi_nI (show i + 1 < 1201 by omega) (by decide), gdi_nI (show L < 8 by omega) (by decide), bnd_e, bnd_e, nI_clamp (show i + 1 < 2 ^ 31 by omega), nI_clamp (show L < 2 ^ 31 by omega), h2, nI_1, bind_e (pass_e hi2 hl)]
      · rw [bind_e q2, if_neg (show ¬ (1 : Int32) = 0 by decide), gdi_e (i := 0) (n := 340) 0 rfl (by decide) (by decide), gdi_e (i := 0) (n := 340) 0 rfl (by decide) (by decide), bnd_e, nI_1]
        rfl
      · refine ⟨⟨hT, by omega, hP, hA⟩, ⟨rfl, rfl, rfl, rfl⟩, ⟨pk_us, ?_, ?_, ?_, ?_, hf⟩, fun k hk => ?_, fun t ht v hv => ?_, hc⟩
        · rw [pk_un (by decide), n1]
        · rw [pk_un (by decide), n2]
        · rw [pk_un (by decide), n3]
        · rw [pk_un (by decide), n4]
        · rw [pk_un (by omega)]
          exact hp k hk
        · rw [pk_un (by omega)]
          exact hFe t ht v hv
theorem ln_place (h : RC N n la t u sa ka va wa) (hi : i < la) (ht : TK t n la sa ka va wa i g) (hk : g.2.2.1 = 2) (hR : IR1 T L P A dl dt dp da df dc dP dF read rg) (fk fp nu fo sp : Int32) :
    (∃ k p at' nu' dp' dP' x1 x2 x3 x4 w' read', VP la sa p ∧ fX4_readPlace N fk fp (nI i) nu dp (nI la) sa ka va dP = some (k, p, at', nu', dp', dP', 0) ∧ fX12_readPlace N (nI n) g.1 g.2.1 g.2.2.1 g.2.2.2.1 fo sp g.2.2.2.2 read u = some (x1, x2, x3, x4, k, p, w', read', 0)) ∨
    (∃ j nu' dP' g' read', i < j ∧ fX4_readPlace N fk fp (nI i) nu dp (nI la) sa ka va dP = some (fk, fp, nI j, nu', nI (P + 1), dP', 1) ∧ fX12_readPlace N (nI n) g.1 g.2.1 g.2.2.1 g.2.2.2.1 fo sp g.2.2.2.2 read u = some (g'.1, g'.2.1, g'.2.2.1, g'.2.2.2.1, fo, sp, g'.2.2.2.2, read', 1) ∧ TK t n la sa ka va wa j g' ∧ IR1 T L (P + 1) A dl dt (nI (P + 1)) da df dc dP' dF read' rg) := by
  have hl := rd_la h
  obtain ⟨⟨hT, hL, hP, hA⟩, ⟨rfl, rfl, rfl, rfl⟩, ⟨n0, n1, n2, n3, n4, hf⟩, hp, hFe, hc⟩ := hR
  unfold fX4_readPlace fX12_readPlace
  rw [gdi_e (i := 2) (n := 340) 2 rfl (by decide) (by decide), bnd_e, show read ((2 : Int32).toNatClampNeg) = nI P from n2]
  by_cases c6 : P = 6
  · subst c6
    exact Or.inl ⟨4, sa i, _, _, _, _, _, _, _, _, _, _, (TK_VP ht), by rw [if_neg (show ¬ nI 6 < (6 : Int32) by decide), bind_e (refuse_e (by omega) fk fp 4 sa), gdb_e (Or.inl rfl)], by rw [if_pos (show nI 6 = (6 : Int32) by decide), bind_e (bad_e _ _ _ _ _), hk, if_neg (by decide), gdb_e (Or.inl rfl), TK_from ht]⟩
  · obtain ⟨g1, e1, ht1⟩ := rd_go h hi ht
    rw [if_pos (show nI P < (6 : Int32) from nI_lt (b := 6) (by omega) (by decide)), if_neg (show ¬ nI P = (6 : Int32) from fun y => c6 ((nI_eq (a := P) (b := 6) (by omega) (by decide)).mp y)), bind_e (pass_e hi hl), bind_e e1]
    by_cases c3 : ka (i + 1) = 3
    · obtain ⟨hi2, hk2, v, hv, h2, h3⟩ := TK_num ht1 c3
      rw [bind_e (isNum_e (show i + 1 ≤ 1200 by omega) c3 h2 fk fp nu 0 3599), if_pos hk2, h3]
      by_cases cr : v < 3600
      · rw [if_pos (show (0 : Int32) ≤ nI v ∧ nI v ≤ (3599 : Int32) from ⟨nI_pos' (by omega), nI_le (b := 3599) (by omega) (by decide)⟩), if_pos (show nI v < (3600 : Int32) from nI_lt (b := 3600) cr (by decide)), if_neg (show ¬ (1 : Int32) = 0 by decide), bind_e (hasPlace_e h.1 hP dP (nI v))]
        have hloop : itr (fun z => fX12_readPlace_l55b N (nI n) g1.1 g1.2.1 g1.2.2.1 (nI v) fo sp g1.2.2.2.2 read u (nI P) z) N (0 : Int32) = some (if fa_first (fun k => decide (dP k = nI v)) P < P then .inr (g1.1, g1.2.1, g1.2.2.1, nI v, 3, sa (i + 1), g1.2.2.2.2, read, 0) else .inl ()) := by
          refine itr_firstR (fun k => decide (dP k = nI v)) (fun _ => (g1.1, g1.2.1, g1.2.2.1, nI v, 3, sa (i + 1), g1.2.2.2.2, read, 0)) (show P < N by have := h.1; omega) ?_ ?_
          · show fX12_readPlace_l55b N (nI n) g1.1 g1.2.1 g1.2.2.1 (nI v) fo sp g1.2.2.2.2 read u (nI P) (nI P) = _
            unfold fX12_readPlace_l55b
            rw [if_pos (nI_le (Nat.le_refl P) (by omega))]
          · intro k hkP
            show fX12_readPlace_l55b N (nI n) g1.1 g1.2.1 g1.2.2.1 (nI v) fo sp g1.2.2.2.2 read u (nI P) (nI k) = _
            unfold fX12_readPlace_l55b
            rw [if_neg (nI_ge hkP (by omega)), i5, gdi_nI (show 5 + k < 340 by omega) (by decide), nI_clamp (show 5 + k < 2 ^ 31 by omega), ← (hp k hkP).1]
            by_cases c : dP k = nI v
            · rw [if_pos c, if_pos (decide_eq_true c), bind_e (bad_e _ _ _ _ _), hk2, if_neg (by decide), gdb_e (Or.inl rfl), TK_from ht1]
            · rw [if_neg c, if_neg (by rw [decide_eq_false c]; decide), bnd_e, nI_1]
        rw [bind_e hloop]
        by_cases cf : fa_first (fun k => decide (dP k = nI v)) P < P
        · exact Or.inl ⟨3, sa (i + 1), _, _, _, _, _, _, _, _, _, _, (TK_VP ht1), by rw [if_pos cf, if_neg (show ¬ (1 : Int32) = 0 by decide), bind_e (refuse_e (by omega) _ _ 3 sa), gdb_e (Or.inl rfl)], by rw [if_pos cf]; rfl⟩
        · obtain ⟨g2, e2, ht2⟩ := rd_go h hi2 ht1
          rw [h3] at e2
          refine Or.inr ⟨i + 1 + 1, nI v, upd dP P (nI v), g2, upd (upd read (5 + P) (nI v)) 2 (nI (P + 1)), by omega, ?_, ?_, ht2, ?_⟩
          · rw [if_neg cf, if_pos rfl, bind_e (pass_e hi2 hl), gdi_nI (show P < 6 by omega) (by decide), bnd_e, bnd_e, nI_clamp (show P < 2 ^ 31 by omega), nI_1]
          · rw [if_neg cf]
            show gdi ((5 : Int32) + nI P) 340 _ = _
            rw [i5, gdi_nI (show 5 + P < 340 by omega) (by decide), bnd_e, gdi_e (i := 2) (n := 340) 2 rfl (by decide) (by decide), gdi_e (i := 2) (n := 340) 2 rfl (by decide) (by decide), bnd_e, bind_e e2, nI_clamp (show 5 + P < 2 ^ 31 by omega)]
            have e5 : upd read (5 + P) (nI v) ((2 : Int32).toNatClampNeg) + 1 = nI (P + 1) := by
              rw [pk_un (show (2 : Int32).toNatClampNeg ≠ 5 + P by have : (2 : Int32).toNatClampNeg = 2 := rfl; omega), show read ((2 : Int32).toNatClampNeg) = nI P from n2, nI_1]
            rw [e5]
            rfl
          · refine ⟨⟨hT, hL, by omega, hA⟩, ⟨rfl, rfl, rfl, rfl⟩, ⟨?_, ?_, pk_us, ?_, ?_, hf⟩, fun k hk => ?_, fun t ht w hw => ?_, hc⟩
            · rw [pk_un (by decide), pk_un (by omega), n0]
            · rw [pk_un (by decide), pk_un (by omega), n1]
            · rw [pk_un (by decide), pk_un (by omega), n3]
            · rw [pk_un (by decide), pk_un (by omega), n4]
            · rw [pk_un (show 5 + k ≠ 2 by omega)]
              by_cases ck : k = P
              · rw [ck, pk_us, pk_us]
                exact ⟨rfl, v, cr, rfl⟩
              · rw [pk_un ck, pk_un (show 5 + k ≠ 5 + P by omega)]
                exact hp k (by omega)
            · rw [pk_un (show 20 + 20 * t + w ≠ 2 by omega), pk_un (show 20 + 20 * t + w ≠ 5 + P by omega)]
              exact hFe t ht w hw
      · exact Or.inl ⟨2, sa (i + 1), _, _, _, _, _, _, _, _, _, _, (TK_VP ht1), by rw [if_neg (show ¬ ((0 : Int32) ≤ nI v ∧ nI v ≤ (3599 : Int32)) from fun y => nI_ge (a := 3599) (b := v) (by omega) (by omega) y.2), if_pos rfl], by rw [if_neg (show ¬ nI v < (3600 : Int32) from nI_nlt (b := 3600) (by omega) (by omega)), bind_e (bad_e _ _ _ _ _), hk2, if_neg (by decide), gdb_e (Or.inl rfl), TK_from ht1]⟩
    · exact Or.inl ⟨1, sa (i + 1), _, _, _, _, _, _, _, _, _, _, (TK_VP ht1), by rw [bind_e (isNum_n (show i + 1 ≤ 1200 by omega) c3 fk fp nu 0 3599), if_pos rfl], by rw [if_neg (fun y => c3 ((TK_kind ht1).1.mp y)), bind_e (bad_1 _ _ _ _), gdb_e (Or.inl rfl), TK_from ht1]⟩
theorem ln_apart (h : RC N n la t u sa ka va wa) (hi : i < la) (ht : TK t n la sa ka va wa i g) (hk : g.2.2.1 = 2) (hR : IR1 T L P A dl dt dp da df dc dP dF read rg) {had ap fi : Int32} (hH : HD had ap fi) (fk fp nu fo sp td : Int32) :
    (∃ k p at' ap' nu' da' x1 x2 x3 x4 w' td' had' read', VP la sa p ∧ fX4_readApart N fk fp (nI i) ap nu (nI la) sa ka va da = some (k, p, at', ap', nu', da', 0) ∧ fX12_readSingle N (nI n) g.1 g.2.1 g.2.2.1 g.2.2.2.1 fo sp g.2.2.2.2 td had u read 2 = some (x1, x2, x3, x4, k, p, w', td', had', read', 0)) ∨
    (∃ j nu' A' g' td' had' read', i < j ∧ fX4_readApart N fk fp (nI i) ap nu (nI la) sa ka va da = some (fk, fp, nI j, 1, nu', nI A', 1) ∧ fX12_readSingle N (nI n) g.1 g.2.1 g.2.2.1 g.2.2.2.1 fo sp g.2.2.2.2 td had u read 2 = some (g'.1, g'.2.1, g'.2.2.1, g'.2.2.2.1, fo, sp, g'.2.2.2.2, td', had', read', 1) ∧ TK t n la sa ka va wa j g' ∧ IR1 T L P A' dl dt dp (nI A') df dc dP dF read' rg ∧ HD had' 1 fi) := by
  have hl := rd_la h
  obtain ⟨⟨hT, hL, hP, hA⟩, ⟨rfl, rfl, rfl, rfl⟩, ⟨n0, n1, n2, n3, n4, hf⟩, hp, hFe, hc⟩ := hR
  unfold fX4_readApart fX12_readSingle
  rw [bind_e (hasM_e had 2)]
  rcases HD_2 hH with ⟨rfl, hv0, hH'⟩ | ⟨hne, hv1⟩
  · obtain ⟨g1, e1, ht1⟩ := rd_go h hi ht
    rw [hv0, if_pos rfl, if_pos rfl, bind_e (pass_e hi hl), bnd_e, bind_e e1, if_pos rfl]
    rcases r_num h ht1 fk fp nu fo sp td 0 300 with ⟨k, p, nu', hV, q1, q2⟩ | ⟨v, g2, hi2, hv, ha, hb, q1, q2, ht2⟩
    · exact Or.inl ⟨k, p, _, _, _, _, _, _, _, _, _, _, _, _, hV, by rw [bind_e q1, if_pos rfl], by rw [bind_e q2, if_pos rfl]⟩
    · have hv3 : v ≤ 300 := (nI_leI (a := v) (b := 300) (by omega) (by decide)).mp hb
      refine Or.inr ⟨i + 1 + 1, nI v, v, g2, nI v, _, upd read 3 (nI v), by omega, ?_, ?_, ht2, ?_, hH'⟩
      · rw [bind_e q1, if_neg (show ¬ (1 : Int32) = 0 by decide), bind_e (pass_e hi2 hl)]
      · rw [bind_e q2, if_neg (show ¬ (1 : Int32) = 0 by decide), gdi_e (i := 3) (n := 340) 3 rfl (by decide) (by decide), bnd_e]
        rfl
      · refine ⟨⟨hT, hL, hP, hv3⟩, ⟨rfl, rfl, rfl, rfl⟩, ⟨?_, ?_, ?_, pk_us, ?_, hf⟩, fun k hk => ?_, fun t ht w hw => ?_, hc⟩
        · rw [pk_un (by decide), n0]
        · rw [pk_un (by decide), n1]
        · rw [pk_un (by decide), n2]
        · rw [pk_un (by decide), n4]
        · rw [pk_un (by omega)]
          exact hp k hk
        · rw [pk_un (by omega)]
          exact hFe t ht w hw
  · exact Or.inl ⟨3, sa i, _, _, _, _, _, _, _, _, _, _, _, _, (TK_VP ht), by rw [if_neg hne, bind_e (refuse_e (by omega) fk fp 3 sa), gdb_e (Or.inl rfl)], by rw [hv1, if_neg (show ¬ (1 : Int32) = 0 by decide), bind_e (bad_e _ _ _ _ _), hk, if_neg (by decide), gdb_e (Or.inl rfl), TK_from ht]⟩
theorem ln_first (h : RC N n la t u sa ka va wa) (hi : i < la) (ht : TK t n la sa ka va wa i g) (hk : g.2.2.1 = 2) (hR : IR1 T L P A dl dt dp da df dc dP dF read rg) {had ap fi : Int32} (hH : HD had ap fi) (fk fp fo sp td : Int32) :
    (∃ k p at' fi' df' x1 x2 x3 x4 w' td' had' read', VP la sa p ∧ fX4_readFirst N fk fp (nI i) fi (nI la) sa wa df = some (k, p, at', fi', df', 0) ∧ fX12_readSingle N (nI n) g.1 g.2.1 g.2.2.1 g.2.2.2.1 fo sp g.2.2.2.2 td had u read 4 = some (x1, x2, x3, x4, k, p, w', td', had', read', 0)) ∨
    (∃ j df' g' td' had' read', i < j ∧ fX4_readFirst N fk fp (nI i) fi (nI la) sa wa df = some (fk, fp, nI j, 1, df', 1) ∧ fX12_readSingle N (nI n) g.1 g.2.1 g.2.2.1 g.2.2.2.1 fo sp g.2.2.2.2 td had u read 4 = some (g'.1, g'.2.1, g'.2.2.1, g'.2.2.2.1, fo, sp, g'.2.2.2.2, td', had', read', 1) ∧ TK t n la sa ka va wa j g' ∧ IR1 T L P A dl dt dp da df' dc dP dF read' rg ∧ HD had' ap 1) := by
  have hl := rd_la h
  obtain ⟨⟨hT, hL, hP, hA⟩, ⟨rfl, rfl, rfl, rfl⟩, ⟨n0, n1, n2, n3, n4, hf⟩, hp, hFe, hc⟩ := hR
  unfold fX4_readFirst fX12_readSingle
  rw [bind_e (hasM_e had 4)]
  rcases HD_4 hH with ⟨rfl, hv0, hH'⟩ | ⟨hne, hv1⟩
  · obtain ⟨g1, e1, ht1⟩ := rd_go h hi ht
    have hok := TK_okw ht1
    have w14 : fX12_isWord g1.2.2.1 g1.2.2.2.2 (14 : Int32) = some (if wa (i + 1) = (7 : Int32) then 1 else 0) := isW_e (q := 14) ht1 (by decide)
    have w5 : fX12_isWord g1.2.2.1 g1.2.2.2.2 (5 : Int32) = some (if wa (i + 1) = (5 : Int32) then 1 else 0) := isW_e (q := 5) ht1 (by decide)
    rw [hv0, if_pos rfl, if_pos rfl, bind_e (pass_e hi hl), bnd_e, bind_e e1, if_neg (show ¬ (4 : Int32) = 2 by decide), bind_e w14, gdi_nI (show i + 1 < 1201 by omega) (by decide), nI_clamp (show i + 1 < 2 ^ 31 by omega), gdw_e hok, gdw_e hok]
    have e55 : ∀ (x : Int32), okw x → (i + 1 < la) → fX4_readFirst_j55 N fk fp (nI (i + 1)) 1 (nI la) sa wa df x = some (fk, fp, nI (i + 1 + 1), 1, (if x = 7 then 1 else 0), 1) := by
      intro x hx hi2
      unfold fX4_readFirst_j55 fX4_readFirst_j71_t_draft
      rw [gdw_e hx]
      by_cases c : x = 7
      · rw [if_pos c, if_pos c, gdb_e (Or.inr rfl), bind_e (pass_e hi2 hl)]
      · rw [if_neg c, if_neg c, gdb_e (Or.inl rfl), bind_e (pass_e hi2 hl)]
    have tie : ∀ x : Int32, x = 0 ∨ x = 1 → IR1 T L P A (nI L) (nI T) (nI P) (nI A) x dc dP dF (upd read 4 x) rg := by
      intro x hx
      refine ⟨⟨hT, hL, hP, hA⟩, ⟨rfl, rfl, rfl, rfl⟩, ⟨?_, ?_, ?_, ?_, pk_us, hx⟩, fun k hk => ?_, fun t ht w hw => ?_, hc⟩
      · rw [pk_un (by decide), n0]
      · rw [pk_un (by decide), n1]
      · rw [pk_un (by decide), n2]
      · rw [pk_un (by decide), n3]
      · rw [pk_un (by omega)]
        exact hp k hk
      · rw [pk_un (by omega)]
        exact hFe t ht w hw
    by_cases c5 : wa (i + 1) = 5
    · have hi2 : i + 1 < la := (TK_word ht1 (TK_w (k := 5) ht1 (by decide) c5)).1
      obtain ⟨g2, e2, ht2⟩ := rd_go h hi2 ht1
      refine Or.inr ⟨i + 1 + 1, 0, g2, td, _, upd read 4 0, by omega, ?_, ?_, ht2, tie 0 (Or.inl rfl), hH'⟩
      · rw [if_pos c5, e55 _ hok hi2, c5, if_neg (by decide)]
      · rw [if_neg (show ¬ wa (i + 1) = (7 : Int32) by rw [c5]; decide), if_pos rfl, bind_e w5, if_pos (show wa (i + 1) = (5 : Int32) from c5), if_neg (show ¬ (1 : Int32) = 0 by decide)]
        unfold fX12_readSingle_j88 fX12_readSingle_j102_t_read
        rw [if_pos rfl, gdi_e (i := 4) (n := 340) 4 rfl (by decide) (by decide), bnd_e, bind_e e2]
        rfl
    · rw [if_neg c5]
      by_cases c7 : wa (i + 1) = 7
      · have hi2 : i + 1 < la := (TK_word ht1 (TK_w (k := 7) ht1 (by decide) c7)).1
        obtain ⟨g2, e2, ht2⟩ := rd_go h hi2 ht1
        refine Or.inr ⟨i + 1 + 1, 1, g2, td, _, upd read 4 1, by omega, ?_, ?_, ht2, tie 1 (Or.inr rfl), hH'⟩
        · rw [if_pos c7, e55 _ hok hi2, if_pos c7]
        · rw [if_pos (show wa (i + 1) = (7 : Int32) from c7), if_neg (show ¬ (1 : Int32) = 0 by decide)]
          unfold fX12_readSingle_j88 fX12_readSingle_j102_t_read
          rw [if_neg (show ¬ (1 : Int32) = 0 by decide), gdi_e (i := 4) (n := 340) 4 rfl (by decide) (by decide), bnd_e, bind_e e2]
          rfl
      · exact Or.inl ⟨1, sa (i + 1), _, _, _, _, _, _, _, _, _, _, _, (TK_VP ht1), by rw [if_neg c7, bind_e (refuse_e (by have := TK_le ht1; omega) _ _ 1 sa), gdb_e (Or.inl rfl)], by rw [if_neg (show ¬ wa (i + 1) = (7 : Int32) from c7), if_pos rfl, bind_e w5, if_neg (show ¬ wa (i + 1) = (5 : Int32) from c5), if_pos rfl, bind_e (bad_1 _ _ _ _), gdb_e (Or.inl rfl), TK_from ht1]⟩
  · exact Or.inl ⟨3, sa i, _, _, _, _, _, _, _, _, _, _, _, (TK_VP ht), by rw [if_neg hne, bind_e (refuse_e (by omega) fk fp 3 sa), gdb_e (Or.inl rfl)], by rw [hv1, if_neg (show ¬ (1 : Int32) = 0 by decide), bind_e (bad_e _ _ _ _ _), hk, if_neg (by decide), gdb_e (Or.inl rfl), TK_from ht]⟩
end RD

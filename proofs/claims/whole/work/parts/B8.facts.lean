/-! LINES that tell facts: narrow, paper -/
theorem FB_13 {L d : Nat} {f f' : Nat → Int32} (h : FB L f) (he : ∀ w, w < 14 → w ≠ 13 → f' w = f w) (hd : d ≤ 9999) (e : f' 13 = nI d) : FB L f' := by
  obtain ⟨a0, a1, a2, a3, a4, a5, a6, a7, a8, a10, a13⟩ := h
  unfold FB
  rw [he 0 (by decide) (by decide), he 1 (by decide) (by decide), he 2 (by decide) (by decide), he 3 (by decide) (by decide), he 4 (by decide) (by decide), he 5 (by decide) (by decide), he 6 (by decide) (by decide), he 7 (by decide) (by decide), he 8 (by decide) (by decide), he 9 (by decide) (by decide), he 10 (by decide) (by decide), he 11 (by decide) (by decide), he 12 (by decide) (by decide)]
  exact ⟨a0, a1, a2, a3, a4, a5, a6, a7, a8, a10, Or.inr ⟨d, hd, e⟩⟩
theorem FB_10 {L d q : Nat} {f f' : Nat → Int32} (h : FB L f) (he : ∀ w, w < 14 → w ≠ 10 → w ≠ 11 → w ≠ 12 → f' w = f w) (hd : d ≤ q) (hq : q ≤ 999) (e1 : f' 10 = nI d) (e2 : f' 11 = nI q) (e3 : f' 12 = -1 ∨ ∃ h, h ≤ 999 ∧ f' 12 = nI h) : FB L f' := by
  obtain ⟨a0, a1, a2, a3, a4, a5, a6, a7, a8, a10, a13⟩ := h
  unfold FB
  rw [he 0 (by decide) (by decide) (by decide) (by decide), he 1 (by decide) (by decide) (by decide) (by decide), he 2 (by decide) (by decide) (by decide) (by decide), he 3 (by decide) (by decide) (by decide) (by decide), he 4 (by decide) (by decide) (by decide) (by decide), he 5 (by decide) (by decide) (by decide) (by decide), he 6 (by decide) (by decide) (by decide) (by decide), he 7 (by decide) (by decide) (by decide) (by decide), he 8 (by decide) (by decide) (by decide) (by decide), he 9 (by decide) (by decide) (by decide) (by decide), he 13 (by decide) (by decide) (by decide) (by decide)]
  exact ⟨a0, a1, a2, a3, a4, a5, a6, a7, a8, Or.inr ⟨d, q, hd, hq, e1, e2, e3⟩, a13⟩
theorem FB_p12 {L : Nat} {f : Nat → Int32} (h : FB L f) (e : f 10 = -1) : f 12 = -1 := by
  obtain ⟨a0, a1, a2, a3, a4, a5, a6, a7, a8, a10, a13⟩ := h
  rcases a10 with ⟨_, _, h⟩ | ⟨d, q, h1, h2, h3, _⟩
  · exact h
  · rw [e] at h3
    exact absurd h3.symm (nI_m1 (by omega))
section RD
variable {N n la i L T P A : Nat} {t u sa ka va wa ln tn read dF dP : Nat → Int32} {nm dc rg : Nat → Int64} {g : G5} {dl dt dp da df : Int32}
/-- a fact that is one number -/
theorem r_fact (h : RC N n la t u sa ka va wa) (ht : TK t n la sa ka va wa i g) {q w : Nat} (hq : q < 16) (hw : w < 14) {x : Int32} (hx : x = nI w) (dF : Nat → Int32) (fk fp nu fo sp td a b : Int32) :
    (∃ k p nu', VP la sa p ∧ fX4_readFact N fk fp (nI i) nu (nI la) ka sa va dF (nI q) x a b = some (k, p, nI i, nu', dF, 0) ∧ fX12_readNumber N (nI n) g.1 g.2.1 g.2.2.1 g.2.2.2.1 fo sp g.2.2.2.2 td u a b = some (g.1, g.2.1, g.2.2.1, g.2.2.2.1, k, p, g.2.2.2.2, td, 0)) ∨
    (∃ v g', i < la ∧ v ≤ 9999 ∧ a ≤ nI v ∧ nI v ≤ b ∧ fX4_readFact N fk fp (nI i) nu (nI la) ka sa va dF (nI q) x a b = some (fk, fp, nI (i + 1), nI v, upd dF (14 * q + w) (nI v), 1) ∧ fX12_readNumber N (nI n) g.1 g.2.1 g.2.2.1 g.2.2.2.1 fo sp g.2.2.2.2 td u a b = some (g'.1, g'.2.1, g'.2.2.1, g'.2.2.2.1, fo, sp, g'.2.2.2.2, nI v, 1) ∧ TK t n la sa ka va wa (i + 1) g') := by
  subst hx
  unfold fX4_readFact
  rcases r_num h ht fk fp nu fo sp td a b with ⟨k, p, nu', hV, q1, q2⟩ | ⟨v, g2, hi2, hv, ha, hb, q1, q2, ht2⟩
  · exact Or.inl ⟨k, p, nu', hV, by rw [bind_e q1, if_pos rfl], q2⟩
  · refine Or.inr ⟨v, g2, hi2, hv, ha, hb, ?_, q2, ht2⟩
    rw [bind_e q1, if_neg (show ¬ (1 : Int32) = 0 by decide), bind_e (pass_e hi2 (rd_la h)), bind_e (tell_e hq hw dF (nI v))]
theorem ln_narrow (h : RC N n la t u sa ka va wa) (hi : i < la) (ht : TK t n la sa ka va wa i g) (hR : IR1 T L P A dl dt dp da df dc dP dF read rg) (hF : IF1 T L dF) (hn : NMI L T ln tn nm) (fk fp nu fo sp td : Int32) :
    (∃ k p at' nu' dF' x1 x2 x3 x4 w' td' read', VP la sa p ∧ fX4_readNarrow N fk fp (nI i) nu (nI la) dt ka sa tn va dF = some (k, p, at', nu', dF', 0) ∧ fX12_readNarrow N (nI n) g.1 g.2.1 g.2.2.1 g.2.2.2.1 fo sp g.2.2.2.2 td u read nm = some (x1, x2, x3, x4, k, p, w', td', read', 0)) ∨
    (∃ j nu' dF' g' td' read', i < j ∧ fX4_readNarrow N fk fp (nI i) nu (nI la) dt ka sa tn va dF = some (fk, fp, nI j, nu', dF', 1) ∧ fX12_readNarrow N (nI n) g.1 g.2.1 g.2.2.1 g.2.2.2.1 fo sp g.2.2.2.2 td u read nm = some (g'.1, g'.2.1, g'.2.2.1, g'.2.2.2.1, fo, sp, g'.2.2.2.2, td', read', 1) ∧ TK t n la sa ka va wa j g' ∧ IR1 T L P A dl dt dp da df dc dP dF' read' rg ∧ IF1 T L dF') := by
  have hl := rd_la h
  have hR0 := hR
  obtain ⟨⟨hT, hL, hP, hA⟩, ⟨rfl, rfl, rfl, rfl⟩, ⟨n0, n1, n2, n3, n4, hf⟩, hp, hFe, hc⟩ := hR
  unfold fX4_readNarrow fX12_readNarrow
  obtain ⟨g1, e1, ht1⟩ := rd_go h hi ht
  have q0 := r_once h hi ht1 hL hT n0 n1 hn hFe (w := 13) (by decide) fk fp fo sp td
  rw [show nI 13 = (13 : Int32) from rfl] at q0
  rw [bind_e e1]
  rcases q0 with ⟨k, p, td', hV, q1, q2⟩ | ⟨q, g2, hi2, hq, hm, q1, q2, ht2⟩
  · exact Or.inl ⟨k, p, _, _, _, _, _, _, _, _, _, _, hV, by rw [bind_e q1, if_pos rfl], by rw [bind_e q2, if_pos rfl]⟩
  · rw [bind_e q1, if_neg (show ¬ nI q = -1 from nI_m1 (by omega)), bind_e q2, if_neg (show ¬ (1 : Int32) = 0 by decide)]
    rcases r_fact h ht2 (q := q) (w := 13) (by omega) (by decide) (x := 13) rfl dF fk fp nu fo sp (nI (20 + 20 * q)) 0 9999 with ⟨k, p, nu', hV, q3, q4⟩ | ⟨v, g3, hi3, hv, ha, hb, q3, q4, ht3⟩
    · exact Or.inl ⟨k, p, _, _, _, _, _, _, _, _, _, _, hV, by rw [bind_e q3, if_pos rfl], by rw [bind_e q4, if_pos rfl]⟩
    · refine Or.inr ⟨i + 2 + 1, nI v, upd dF (14 * q + 13) (nI v), g3, nI v, upd read (20 + 20 * q + 13) (nI v), by omega, ?_, ?_, ht3, IR1_set hR0 (by omega) (by decide), ?_⟩
      · rw [bind_e q3, if_neg (show ¬ (1 : Int32) = 0 by decide)]
      · rw [bind_e q4, if_neg (show ¬ (1 : Int32) = 0 by decide), show nI (20 + 20 * q) + (13 : Int32) = nI (20 + 20 * q + 13) from nI_add _ 13, gdi_nI (show 20 + 20 * q + 13 < 340 by omega) (by decide), bnd_e, nI_clamp (show 20 + 20 * q + 13 < 2 ^ 31 by omega)]
      · refine IF1_set (q := q) hF (fun t ht c w hw => u14 (by decide) hw (Or.inl c)) (fun _ => FB_13 (f := fun w => dF (14 * q + w)) (hF q hq) (fun w hw c => u14 (by decide) hw (Or.inr c)) hv pk_us)
theorem ln_paper (h : RC N n la t u sa ka va wa) (hi : i < la) (ht : TK t n la sa ka va wa i g) (hR : IR1 T L P A dl dt dp da df dc dP dF read rg) (hF : IF1 T L dF) (hn : NMI L T ln tn nm) (fk fp nu fo sp td : Int32) :
    (∃ k p at' nu' dF' x1 x2 x3 x4 w' td' read', VP la sa p ∧ fX4_readPaper N fk fp (nI i) nu (nI la) dt ka sa tn va dF wa = some (k, p, at', nu', dF', 0) ∧ fX12_readPaper N (nI n) g.1 g.2.1 g.2.2.1 g.2.2.2.1 fo sp g.2.2.2.2 td u read nm = some (x1, x2, x3, x4, k, p, w', td', read', 0)) ∨
    (∃ j nu' dF' g' td' read', i < j ∧ fX4_readPaper N fk fp (nI i) nu (nI la) dt ka sa tn va dF wa = some (fk, fp, nI j, nu', dF', 1) ∧ fX12_readPaper N (nI n) g.1 g.2.1 g.2.2.1 g.2.2.2.1 fo sp g.2.2.2.2 td u read nm = some (g'.1, g'.2.1, g'.2.2.1, g'.2.2.2.1, fo, sp, g'.2.2.2.2, td', read', 1) ∧ TK t n la sa ka va wa j g' ∧ IR1 T L P A dl dt dp da df dc dP dF' read' rg ∧ IF1 T L dF') := by
  have hl := rd_la h
  have hR0 := hR
  obtain ⟨⟨hT, hL, hP, hA⟩, ⟨rfl, rfl, rfl, rfl⟩, ⟨n0, n1, n2, n3, n4, hf⟩, hp, hFe, hc⟩ := hR
  unfold fX4_readPaper fX12_readPaper
  obtain ⟨g1, e1, ht1⟩ := rd_go h hi ht
  have q0 := r_once h hi ht1 hL hT n0 n1 hn hFe (w := 10) (by decide) fk fp fo sp td
  rw [show nI 10 = (10 : Int32) from rfl] at q0
  rw [bind_e e1]
  rcases q0 with ⟨k, p, td', hV, q1, q2⟩ | ⟨q, g2, hi2, hq, hm, q1, q2, ht2⟩
  · exact Or.inl ⟨k, p, _, _, _, _, _, _, _, _, _, _, hV, by rw [bind_e q1, if_pos rfl], by rw [bind_e q2, if_pos rfl]⟩
  · rw [bind_e q1, if_neg (show ¬ nI q = -1 from nI_m1 (by omega)), bind_e q2, if_neg (show ¬ (1 : Int32) = 0 by decide)]
    rcases r_fact h ht2 (q := q) (w := 10) (by omega) (by decide) (x := 10) rfl dF fk fp nu fo sp (nI (20 + 20 * q)) 0 999 with ⟨k, p, nu', hV, q3, q4⟩ | ⟨v, g3, hi3, hv, ha, hb, q3, q4, ht3⟩
    · exact Or.inl ⟨k, p, _, _, _, _, _, _, _, _, _, _, hV, by rw [bind_e q3, if_pos rfl], by rw [bind_e q4, if_pos rfl]⟩
    · have et : fX5_told (upd dF (14 * q + 10) (nI v)) (nI q) (10 : Int32) = some (nI v) := by
        rw [show fX5_told (upd dF (14 * q + 10) (nI v)) (nI q) (10 : Int32) = _ from told_e (w := 10) (show q < 16 by omega) (by decide) _, pk_us]
      rw [bind_e q3, if_neg (show ¬ (1 : Int32) = 0 by decide), bind_e q4, if_neg (show ¬ (1 : Int32) = 0 by decide), bind_e et]
      rcases r_fact h ht3 (q := q) (w := 11) (by omega) (by decide) (x := 11) rfl (upd dF (14 * q + 10) (nI v)) fk fp (nI v) fo sp (nI v) (nI v) 999 with ⟨k, p, nu', hV, q5, q6⟩ | ⟨v2, g4, hi4, hv2, ha2, hb2, q5, q6, ht4⟩
      · exact Or.inl ⟨k, p, _, _, _, _, _, _, _, _, _, _, hV, by rw [bind_e q5, if_pos rfl], by rw [bind_e q6, if_pos rfl]⟩
      · have w14 : fX12_isWord g4.2.2.1 g4.2.2.2.2 (14 : Int32) = some (if wa (i + 2 + 1 + 1) = (7 : Int32) then 1 else 0) := isW_e (q := 14) ht4 (by decide)
        have hvv : v ≤ v2 := (nI_leI (by omega) (by omega)).mp ha2
        have hv9 : v2 ≤ 999 := (nI_leI (a := v2) (b := 999) (by omega) (by decide)).mp hb2
        have e10 : nI (20 + 20 * q) + (10 : Int32) = nI (20 + 20 * q + 10) := nI_add _ 10
        have e11 : nI (20 + 20 * q) + (11 : Int32) = nI (20 + 20 * q + 11) := nI_add _ 11
        have e12 : nI (20 + 20 * q) + (12 : Int32) = nI (20 + 20 * q + 12) := nI_add _ 12
        have ej : ∀ (gx : G5) (td x : Int32), fX12_readPaper_j91 N (nI n) gx.1 gx.2.1 gx.2.2.1 gx.2.2.2.1 fo sp gx.2.2.2.2 td u read nm (nI (20 + 20 * q)) (nI v) (nI v2) x = some (gx.1, gx.2.1, gx.2.2.1, gx.2.2.2.1, fo, sp, gx.2.2.2.2, td, upd (upd (upd read (20 + 20 * q + 10) (nI v)) (20 + 20 * q + 11) (nI v2)) (20 + 20 * q + 12) x, 1) := by
          intro gx td x
          unfold fX12_readPaper_j91
          rw [e10, e11, e12, gdi_nI (show 20 + 20 * q + 10 < 340 by omega) (by decide), bnd_e, gdi_nI (show 20 + 20 * q + 11 < 340 by omega) (by decide), bnd_e, gdi_nI (show 20 + 20 * q + 12 < 340 by omega) (by decide), bnd_e, nI_clamp (show 20 + 20 * q + 10 < 2 ^ 31 by omega), nI_clamp (show 20 + 20 * q + 11 < 2 ^ 31 by omega), nI_clamp (show 20 + 20 * q + 12 < 2 ^ 31 by omega)]
        have tie : ∀ x : Int32, (x = -1 ∨ ∃ h, h ≤ 999 ∧ x = nI h) → IR1 T L P A (nI L) (nI T) (nI P) (nI A) df dc dP (upd (upd (upd dF (14 * q + 10) (nI v)) (14 * q + 11) (nI v2)) (14 * q + 12) x) (upd (upd (upd read (20 + 20 * q + 10) (nI v)) (20 + 20 * q + 11) (nI v2)) (20 + 20 * q + 12) x) rg ∧ IF1 T L (upd (upd (upd dF (14 * q + 10) (nI v)) (14 * q + 11) (nI v2)) (14 * q + 12) x) := by
          intro x hx
          refine ⟨IR1_set (IR1_set (IR1_set hR0 (by omega) (by decide)) (by omega) (by decide)) (by omega) (by decide), IF1_set (q := q) hF (fun t ht c w hw => ?_) (fun _ => FB_10 (f := fun w => dF (14 * q + w)) (hF q hq) (fun w hw c1 c2 c3 => ?_) hvv hv9 ?_ ?_ ?_)⟩
          · rw [u14 (by decide) hw (Or.inl c), u14 (by decide) hw (Or.inl c), u14 (by decide) hw (Or.inl c)]
          · rw [u14 (by decide) hw (Or.inr c3), u14 (by decide) hw (Or.inr c2), u14 (by decide) hw (Or.inr c1)]
          · rw [u14 (by decide) (by decide) (Or.inr (by decide)), u14 (by decide) (by decide) (Or.inr (by decide)), pk_us]
          · rw [u14 (by decide) (by decide) (Or.inr (by decide)), pk_us]
          · rw [pk_us]
            exact hx
        have hi4' := TK_le ht4
        rw [bind_e q5, if_neg (show ¬ (1 : Int32) = 0 by decide), bind_e q6, if_neg (show ¬ (1 : Int32) = 0 by decide), bind_e w14, gdi_nI (show i + 2 + 1 + 1 < 1201 by omega) (by decide), nI_clamp (show i + 2 + 1 + 1 < 2 ^ 31 by omega), gdw_e (TK_okw ht4)]
        by_cases c7 : wa (i + 2 + 1 + 1) = 7
        · have hi5 : i + 2 + 1 + 1 < la := (TK_word ht4 (TK_w (k := 7) ht4 (by decide) c7)).1
          obtain ⟨g5, e5, ht5⟩ := rd_go h hi5 ht4
          rw [if_pos c7, if_pos c7, if_neg (show ¬ (1 : Int32) = 0 by decide), bind_e (pass_e hi5 hl), bind_e e5]
          rcases r_fact h ht5 (q := q) (w := 12) (by omega) (by decide) (x := 12) rfl (upd (upd dF (14 * q + 10) (nI v)) (14 * q + 11) (nI v2)) fk fp (nI v2) fo sp (nI v2) 0 999 with ⟨k, p, nu', hV, q7, q8⟩ | ⟨v3, g6, hi6, hv3, ha3, hb3, q7, q8, ht6⟩
          · exact Or.inl ⟨k, p, _, _, _, _, _, _, _, _, _, _, hV, by rw [bind_e q7, gdb_e (Or.inl rfl)], by rw [bind_e q8, if_pos rfl]⟩
          · have hv39 : v3 ≤ 999 := (nI_leI (a := v3) (b := 999) (by omega) (by decide)).mp hb3
            obtain ⟨t1, t2⟩ := tie (nI v3) (Or.inr ⟨v3, hv39, rfl⟩)
            refine Or.inr ⟨i + 2 + 1 + 1 + 1 + 1, nI v3, _, g6, nI v3, _, by omega, ?_, ?_, ht6, t1, t2⟩
            · rw [bind_e q7, gdb_e (Or.inr rfl)]
            · rw [bind_e q8, if_neg (show ¬ (1 : Int32) = 0 by decide)]
              exact ej g6 (nI v3) (nI v3)
        · obtain ⟨t1, t2⟩ := tie (-1) (Or.inl rfl)
          have e0 : upd (upd dF (14 * q + 10) (nI v)) (14 * q + 11) (nI v2) (14 * q + 12) = -1 := by
            rw [u14 (by decide) (by decide) (Or.inr (by decide)), u14 (by decide) (by decide) (Or.inr (by decide))]
            exact FB_p12 (f := fun w => dF (14 * q + w)) (hF q hq) hm
          rw [fa_upd_same e0] at t1 t2
          refine Or.inr ⟨i + 2 + 1 + 1, nI v2, _, g4, nI v2, _, by omega, ?_, ?_, ht4, t1, t2⟩
          · rw [if_neg c7]
          · rw [if_neg c7, if_pos rfl]
            exact ej g4 (nI v2) (-1)
end RD

/-! one part of a THING -/
/-- what holds while a THING's parts are read -/
def PI (T L P A : Nat) (dl dt dp da df : Int32) (dc : Nat → Int64) (dP dF read : Nat → Int32) (rg : Nat → Int64) (to1 once : Int32) : Prop :=
  IR1 (T + 1) L P A dl dt dp da df dc dP dF (upd read 1 (nI (T + 1))) rg ∧ read 1 = nI T ∧ IF1 (T + 1) L dF ∧ ON to1 once
section RD
variable {N n la i L T P A : Nat} {t u sa ka va wa read dF dP : Nat → Int32} {nm dc rg : Nat → Int64} {g : G5} {dl dt dp da df to1 once : Int32}
abbrev CP8 : Type := Int32 × Int32 × Int32 × Int32 × Int32 × (Nat → Int64) × (Nat → Int32) × Int32
abbrev RP11 : Type := Int32 × Int32 × Int32 × Int32 × Int32 × Int32 × Int64 × Int32 × (Nat → Int32) × (Nat → Int64) × Int32
abbrev RQ : Type := RP11 ⊕ ((Int32 × Int32 × Int32 × Int32 × Int32 × Int32 × Int64 × Int32 × (Nat → Int32) × (Nat → Int64)) ⊕ (Int32 × Int32 × Int32 × Int32 × Int32 × Int32 × Int64 × Int32 × (Nat → Int32) × (Nat → Int64) × (Nat → Int64) × Int32))
/-- a part: a FAULT in both -/
def PB (la : Nat) (sa : Nat → Int32) (nm : Nat → Int64) (c : Option CP8) (r : Option RQ) : Prop := ∃ k p at' to' nu' dc' dF' x1 x2 x3 x4 w' td' read' rg', VP la sa p ∧ c = some (k, p, at', to', nu', dc', dF', 0) ∧ r = some (.inr (.inr (x1, x2, x3, x4, k, p, w', td', read', nm, rg', 0)))
/-- a part: read by both -/
def PC (t : Nat → Int32) (n la : Nat) (sa ka va wa : Nat → Int32) (T L P A : Nat) (dl dt dp da df : Int32) (dP : Nat → Int32) (i : Nat) (fk fp fo sp : Int32) (c : Option CP8) (r : Option RQ) : Prop := ∃ j to' nu' dc' dF' g' td' read' rg' once', i + 1 < j ∧ c = some (fk, fp, nI j, to', nu', dc', dF', 1) ∧ r = some (.inl (g'.1, g'.2.1, g'.2.2.1, g'.2.2.2.1, fo, sp, g'.2.2.2.2, td', read', rg', once')) ∧ TK t n la sa ka va wa j g' ∧ PI T L P A dl dt dp da df dc' dP dF' read' rg' to' once'
theorem PI_read (hT : T < 16) (h : PI T L P A dl dt dp da df dc dP dF read rg to1 once) {w : Nat} (hw : w < 14) : dF (14 * T + w) = read (20 + 20 * T + w) := by
  have h1 := h.1.2.2.2.2.1 T (by omega) w hw
  rw [pk_un (by omega)] at h1
  exact h1
theorem rp_num (h : RC N n la t u sa ka va wa) (hi : i < la) (ht : TK t n la sa ka va wa i g) (hk2 : g.2.2.1 = 2) (hT : T < 16) (hP : PI T L P A dl dt dp da df dc dP dF read rg to1 once) {k j : Nat} (hj : j < 4) (hk : k = 11 + j) (fk fp nu fo sp td : Int32) :
    PB la sa nm (fX4_readPart N fk fp (nI i) to1 nu (nI la) ka sa va dc dF (nI T) (nI k)) ((fX12_has once (nI (9 + j))).bind fun o55 => if o55 = 0 then fX12_readThing_j297 N (nI n) g.1 g.2.1 g.2.2.1 g.2.2.2.1 fo sp g.2.2.2.2 td read u nm rg (nI T) (nI (20 + 20 * T)) once (nI (9 + j)) else (fX12_bad g.2.1 g.2.2.1 fo sp (3 : Int32)).bind fun o57 => gdb o57.2.2 (some (.inr (.inr (g.1, g.2.1, g.2.2.1, g.2.2.2.1, o57.1, o57.2.1, g.2.2.2.2, td, read, nm, rg, o57.2.2))))) ∨
    PC t n la sa ka va wa T L P A dl dt dp da df dP i fk fp fo sp (fX4_readPart N fk fp (nI i) to1 nu (nI la) ka sa va dc dF (nI T) (nI k)) ((fX12_has once (nI (9 + j))).bind fun o55 => if o55 = 0 then fX12_readThing_j297 N (nI n) g.1 g.2.1 g.2.2.1 g.2.2.2.1 fo sp g.2.2.2.2 td read u nm rg (nI T) (nI (20 + 20 * T)) once (nI (9 + j)) else (fX12_bad g.2.1 g.2.2.1 fo sp (3 : Int32)).bind fun o57 => gdb o57.2.2 (some (.inr (.inr (g.1, g.2.1, g.2.2.1, g.2.2.2.1, o57.1, o57.2.1, g.2.2.2.2, td, read, nm, rg, o57.2.2))))) := by
  have hl := rd_la h
  obtain ⟨hR, h1, hF, x, y, hx, hy, rfl, rfl, hbit⟩ := hP
  obtain ⟨lo, hi', hcC, hcM, hB⟩ : ∃ lo hi' : Int32, ((k = 11 ∧ 4 + j = 4 ∧ lo = 1 ∧ hi' = 999) ∨ (k = 12 ∧ 4 + j = 5 ∧ lo = 1 ∧ hi' = 99) ∨ (k = 13 ∧ 4 + j = 6 ∧ lo = 0 ∧ hi' = 9999) ∨ (k = 14 ∧ 4 + j = 7 ∧ lo = 0 ∧ hi' = 9999)) ∧ ((9 + j = 9 ∧ 4 + j = 4 ∧ lo = 1 ∧ hi' = 999) ∨ (9 + j = 10 ∧ 4 + j = 5 ∧ lo = 1 ∧ hi' = 99) ∨ (9 + j = 11 ∧ 4 + j = 6 ∧ lo = 0 ∧ hi' = 9999) ∨ (9 + j = 12 ∧ 4 + j = 7 ∧ lo = 0 ∧ hi' = 9999)) ∧ ∀ v, v ≤ 9999 → lo ≤ nI v → nI v ≤ hi' → ((4 + j = 4 ∧ 1 ≤ v ∧ v ≤ 999) ∨ (4 + j = 5 ∧ 1 ≤ v ∧ v ≤ 99) ∨ (4 + j = 6 ∧ v ≤ 9999) ∨ (4 + j = 7 ∧ v ≤ 9999)) := by
    have : j = 0 ∨ j = 1 ∨ j = 2 ∨ j = 3 := by omega
    rcases this with rfl | rfl | rfl | rfl
    · refine ⟨1, 999, Or.inl ⟨hk, rfl, rfl, rfl⟩, Or.inl ⟨rfl, rfl, rfl, rfl⟩, fun v hv h1 h2 => Or.inl ⟨rfl, (nI_leI (a := 1) (by decide) (by omega)).mp h1, (nI_leI (b := 999) (by omega) (by decide)).mp h2⟩⟩
    · refine ⟨1, 99, Or.inr (Or.inl ⟨hk, rfl, rfl, rfl⟩), Or.inr (Or.inl ⟨rfl, rfl, rfl, rfl⟩), fun v hv h1 h2 => Or.inr (Or.inl ⟨rfl, (nI_leI (a := 1) (by decide) (by omega)).mp h1, (nI_leI (b := 99) (by omega) (by decide)).mp h2⟩)⟩
    · exact ⟨0, 9999, Or.inr (Or.inr (Or.inl ⟨hk, rfl, rfl, rfl⟩)), Or.inr (Or.inr (Or.inl ⟨rfl, rfl, rfl, rfl⟩)), fun v hv h1 h2 => Or.inr (Or.inr (Or.inl ⟨rfl, hv⟩))⟩
    · exact ⟨0, 9999, Or.inr (Or.inr (Or.inr ⟨hk, rfl, rfl, rfl⟩)), Or.inr (Or.inr (Or.inr ⟨rfl, rfl, rfl, rfl⟩)), fun v hv h1 h2 => Or.inr (Or.inr (Or.inr ⟨rfl, hv⟩))⟩
  rw [partC hcC, bind_e (passOnce_e hi hl hx (show 4 + j < 9 by omega) fk fp sa), bind_e (hasM_e _ _), hv_bit (show y < 2 ^ 31 by omega) (show 9 + j < 31 by omega), hbit j (by omega)]
  cases hb : y.testBit (9 + j) with
  | true =>
    rw [if_pos rfl, if_pos rfl, if_pos rfl, if_neg (show ¬ (1 : Int32) = 0 by decide)]
    exact Or.inl ⟨3, sa i, _, _, _, _, _, _, _, _, _, _, _, _, _, (TK_VP ht), rfl, by rw [bind_e (bad_e _ _ _ _ _), hk2, if_neg (by decide), gdb_e (Or.inl rfl), TK_from ht]⟩
  | false =>
    obtain ⟨g1, e1, ht1⟩ := rd_go h hi ht
    rw [if_neg (show ¬ false = true by decide), if_neg (show ¬ false = true by decide), if_pos rfl, if_neg (show ¬ (1 : Int32) = 0 by decide)]
    unfold fX12_readThing_j297
    rw [bnd_e, bind_e e1, partM hcM (show 20 + 20 * T ≤ 320 by omega), or_sl (show 9 + j < 16 by omega)]
    rcases r_fact h ht1 (q := T) (w := 4 + j) hT (by omega) (x := nI (4 + j)) rfl dF fk fp nu fo sp td lo hi' with ⟨k, p, nu', hV, q3, q4⟩ | ⟨v, g2, hi2, hv, ha, hb2, q3, q4, ht2⟩
    · exact Or.inl ⟨k, p, _, _, _, _, _, _, _, _, _, _, _, _, _, hV, by rw [bind_e q3, if_pos rfl], by rw [bind_e q4, if_pos rfl]; rfl⟩
    · refine Or.inr ⟨i + 1 + 1, nI (x ||| 2 ^ (4 + j)), nI v, dc, upd dF (14 * T + (4 + j)) (nI v), g2, nI v, upd read (20 + 20 * T + (4 + j)) (nI v), rg, nI (y ||| 2 ^ (9 + j)), by omega, ?_, ?_, ht2, IP_set hR hT (by omega), ?_, ?_, ON_k hy hx hbit (by omega)⟩
      · rw [bind_e q3, if_neg (show ¬ (1 : Int32) = 0 by decide)]
      · rw [bind_e q4, if_neg (show ¬ (1 : Int32) = 0 by decide)]
        rfl
      · rw [pk_un (by omega), h1]
      · exact IF1_set (q := T) hF (fun t ht c w hw => u14 (by omega) hw (Or.inl c)) (fun _ => FB_num (f := fun w => dF (14 * T + w)) (hF T (by omega)) (hB v hv ha hb2) (fun w hw c => u14 (by omega) hw (Or.inr c)) pk_us)
theorem rp_dead (h : RC N n la t u sa ka va wa) (hi : i < la) (ht : TK t n la sa ka va wa i g) (hk2 : g.2.2.1 = 2) (hT : T < 16) (hP : PI T L P A dl dt dp da df dc dP dF read rg to1 once) (fk fp nu fo sp td : Int32) :
    PB la sa nm (fX4_readPart N fk fp (nI i) to1 nu (nI la) ka sa va dc dF (nI T) (10 : Int32)) ((fX12_has once (13 : Int32)).bind fun o55 => if o55 = 0 then fX12_readThing_j297 N (nI n) g.1 g.2.1 g.2.2.1 g.2.2.2.1 fo sp g.2.2.2.2 td read u nm rg (nI T) (nI (20 + 20 * T)) once (13 : Int32) else (fX12_bad g.2.1 g.2.2.1 fo sp (3 : Int32)).bind fun o57 => gdb o57.2.2 (some (.inr (.inr (g.1, g.2.1, g.2.2.1, g.2.2.2.1, o57.1, o57.2.1, g.2.2.2.2, td, read, nm, rg, o57.2.2))))) ∨
    PC t n la sa ka va wa T L P A dl dt dp da df dP i fk fp fo sp (fX4_readPart N fk fp (nI i) to1 nu (nI la) ka sa va dc dF (nI T) (10 : Int32)) ((fX12_has once (13 : Int32)).bind fun o55 => if o55 = 0 then fX12_readThing_j297 N (nI n) g.1 g.2.1 g.2.2.1 g.2.2.2.1 fo sp g.2.2.2.2 td read u nm rg (nI T) (nI (20 + 20 * T)) once (13 : Int32) else (fX12_bad g.2.1 g.2.2.1 fo sp (3 : Int32)).bind fun o57 => gdb o57.2.2 (some (.inr (.inr (g.1, g.2.1, g.2.2.1, g.2.2.2.1, o57.1, o57.2.1, g.2.2.2.2, td, read, nm, rg, o57.2.2))))) := by
  have hl := rd_la h
  obtain ⟨hR, h1, hF, x, y, hx, hy, rfl, rfl, hbit⟩ := hP
  have ec : fX4_readPart N fk fp (nI i) (nI x) nu (nI la) ka sa va dc dF (nI T) (10 : Int32) = (fX4_passOnce fk fp (nI i) (nI x) (nI la) sa (8 : Int32)).bind fun o25 => (if o25.2.2.2.2 = 0 then some (o25.1, o25.2.1, o25.2.2.1, o25.2.2.2.1, nu, dc, dF, (0 : Int32)) else (fX4_readFact N o25.1 o25.2.1 o25.2.2.1 nu (nI la) ka sa va dF (nI T) (8 : Int32) (0 : Int32) (300 : Int32)).bind fun o27 => (if o27.2.2.2.2.2 = 0 then some (o27.1, o27.2.1, o27.2.2.1, o25.2.2.2.1, o27.2.2.2.1, dc, o27.2.2.2.2.1, (0 : Int32)) else (fX4_readFact N o27.1 o27.2.1 o27.2.2.1 o27.2.2.2.1 (nI la) ka sa va o27.2.2.2.2.1 (nI T) (9 : Int32) (4 : Int32) (999 : Int32)).bind fun o29 => (if o29.2.2.2.2.2 = 0 then some (o29.1, o29.2.1, o29.2.2.1, o25.2.2.2.1, o29.2.2.2.1, dc, o29.2.2.2.2.1, (0 : Int32)) else some (o29.1, o29.2.1, o29.2.2.1, o25.2.2.2.1, o29.2.2.2.1, dc, o29.2.2.2.2.1, (1 : Int32))))) := rfl
  have ep := passOnce_e hi hl hx (show 8 < 9 by decide) fk fp sa
  rw [show nI 8 = (8 : Int32) from rfl] at ep
  have eh : fX12_has (nI y) (13 : Int32) = some (if y.testBit 13 = true then 1 else 0) := by
    rw [hasM_e]
    exact congrArg some (hv_bit (k := 13) (show y < 2 ^ 31 by omega) (by decide))
  rw [ec, bind_e ep, bind_e eh, show x.testBit 8 = y.testBit 13 from hbit 4 (by decide)]
  cases hb : y.testBit 13 with
  | true =>
    rw [if_pos rfl, if_pos rfl, if_pos rfl, if_neg (show ¬ (1 : Int32) = 0 by decide)]
    exact Or.inl ⟨3, sa i, _, _, _, _, _, _, _, _, _, _, _, _, _, (TK_VP ht), rfl, by rw [bind_e (bad_e _ _ _ _ _), hk2, if_neg (by decide), gdb_e (Or.inl rfl), TK_from ht]⟩
  | false =>
    obtain ⟨g1, e1, ht1⟩ := rd_go h hi ht
    rw [if_neg (show ¬ false = true by decide), if_neg (show ¬ false = true by decide), if_pos rfl, if_neg (show ¬ (1 : Int32) = 0 by decide)]
    unfold fX12_readThing_j297
    rw [bnd_e, bind_e e1, show nI y ||| ((1 : Int32) <<< ((13 : Int32) &&& 31)) = nI (y ||| 2 ^ 13) from or_sl (w := 13) (by decide)]
    have em : fX12_readPart N (nI n) g1.1 g1.2.1 g1.2.2.1 g1.2.2.2.1 fo sp g1.2.2.2.2 td u rg read (nI (20 + 20 * T)) (nI T) (13 : Int32) = (fX12_readNumber N (nI n) g1.1 g1.2.1 g1.2.2.1 g1.2.2.2.1 fo sp g1.2.2.2.2 td u (0 : Int32) (300 : Int32)).bind fun o23 => (if o23.2.2.2.2.2.2.2.2 = 0 then some (o23.1, o23.2.1, o23.2.2.1, o23.2.2.2.1, o23.2.2.2.2.1, o23.2.2.2.2.2.1, o23.2.2.2.2.2.2.1, o23.2.2.2.2.2.2.2.1, rg, read, (0 : Int32)) else gdi (nI (20 + 20 * T) + (8 : Int32)) 340 (bnd (upd read (nI (20 + 20 * T) + (8 : Int32)).toNatClampNeg o23.2.2.2.2.2.2.2.1) fun y26 => (fX12_readNumber N (nI n) o23.1 o23.2.1 o23.2.2.1 o23.2.2.2.1 o23.2.2.2.2.1 o23.2.2.2.2.2.1 o23.2.2.2.2.2.2.1 o23.2.2.2.2.2.2.2.1 u (4 : Int32) (999 : Int32)).bind fun o27 => (if o27.2.2.2.2.2.2.2.2 = 0 then some (o27.1, o27.2.1, o27.2.2.1, o27.2.2.2.1, o27.2.2.2.2.1, o27.2.2.2.2.2.1, o27.2.2.2.2.2.2.1, o27.2.2.2.2.2.2.2.1, rg, y26, (0 : Int32)) else gdi (nI (20 + 20 * T) + (9 : Int32)) 340 (bnd (upd y26 (nI (20 + 20 * T) + (9 : Int32)).toNatClampNeg o27.2.2.2.2.2.2.2.1) fun y30 => some (o27.1, o27.2.1, o27.2.2.1, o27.2.2.2.1, o27.2.2.2.2.1, o27.2.2.2.2.2.1, o27.2.2.2.2.2.2.1, o27.2.2.2.2.2.2.2.1, rg, y30, (1 : Int32)))))) := rfl
    rw [em, show nI (20 + 20 * T) + (8 : Int32) = nI (20 + 20 * T + 8) from nI_add _ 8, show nI (20 + 20 * T) + (9 : Int32) = nI (20 + 20 * T + 9) from nI_add _ 9]
    rcases r_fact h ht1 (q := T) (w := 8) hT (by decide) (x := 8) rfl dF fk fp nu fo sp td 0 300 with ⟨k, p, nu', hV, q3, q4⟩ | ⟨v, g2, hi2, hv, ha, hb2, q3, q4, ht2⟩
    · exact Or.inl ⟨k, p, _, _, _, _, _, _, _, _, _, _, _, _, _, hV, by rw [bind_e q3, if_pos rfl], by rw [bind_e q4, if_pos rfl]; rfl⟩
    · have hv3 : v ≤ 300 := (nI_leI (a := v) (b := 300) (by omega) (by decide)).mp hb2
      rw [bind_e q3, if_neg (show ¬ (1 : Int32) = 0 by decide), bind_e q4, if_neg (show ¬ (1 : Int32) = 0 by decide), gdi_nI (show 20 + 20 * T + 8 < 340 by omega) (by decide), nI_clamp (show 20 + 20 * T + 8 < 2 ^ 31 by omega)]
      rw [bnd_e]
      rcases r_fact h ht2 (q := T) (w := 9) hT (by decide) (x := 9) rfl (upd dF (14 * T + 8) (nI v)) fk fp (nI v) fo sp (nI v) 4 999 with ⟨k, p, nu', hV, q5, q6⟩ | ⟨v2, g3, hi3, hv2, ha2, hb3, q5, q6, ht3⟩
      · exact Or.inl ⟨k, p, _, _, _, _, _, _, _, _, _, _, _, _, _, hV, by rw [bind_e q5, if_pos rfl], by rw [bind_e q6, if_pos rfl]; rfl⟩
      · have hv4 : 4 ≤ v2 := (nI_leI (a := 4) (b := v2) (by decide) (by omega)).mp ha2
        have hv9 : v2 ≤ 999 := (nI_leI (a := v2) (b := 999) (by omega) (by decide)).mp hb3
        refine Or.inr ⟨i + 1 + 1 + 1, nI (x ||| 2 ^ 8), nI v2, dc, upd (upd dF (14 * T + 8) (nI v)) (14 * T + 9) (nI v2), g3, nI v2, upd (upd read (20 + 20 * T + 8) (nI v)) (20 + 20 * T + 9) (nI v2), rg, nI (y ||| 2 ^ 13), by omega, ?_, ?_, ht3, IP_set (IP_set hR hT (by decide)) hT (by decide), ?_, ?_, ON_k (j := 4) hy hx hbit (by decide)⟩
        · rw [bind_e q5, if_neg (show ¬ (1 : Int32) = 0 by decide)]
        · rw [bind_e q6, if_neg (show ¬ (1 : Int32) = 0 by decide), gdi_nI (show 20 + 20 * T + 9 < 340 by omega) (by decide), nI_clamp (show 20 + 20 * T + 9 < 2 ^ 31 by omega)]
          rfl
        · rw [pk_un (by omega), pk_un (by omega), h1]
        · refine IF1_set (q := T) hF (fun t ht c w hw => ?_) (fun _ => FB_89 (f := fun w => dF (14 * T + w)) (hF T (by omega)) (fun w hw c1 c2 => ?_) hv3 hv4 hv9 ?_ pk_us)
          · rw [u14 (by decide) hw (Or.inl c), u14 (by decide) hw (Or.inl c)]
          · rw [u14 (by decide) hw (Or.inr c2), u14 (by decide) hw (Or.inr c1)]
          · rw [u14 (by decide) (by decide) (Or.inr (by decide)), pk_us]
end RD

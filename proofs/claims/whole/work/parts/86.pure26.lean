/-! NARROW: is all right with a set -/
def vC (dg vo : Nat → Int32) (k : Nat) : Int32 := if dg k = -1 then -1 else vo k
def lT (rF : Nat → Int32) (k : Nat) : Int32 := rF (14 * k + 4)
/-- all is right with the set -/
def RW (T A : Nat) (dg vo rF : Nat → Int32) (rc : Nat → Int64) (be : Nat → Nat) (n σ : Nat) : Bool := decide (fw T A dg (vC dg vo) (lT rF) (sS rF be σ n) rF rc = -1)
theorem sS_99 {T L k : Nat} {rF : Nat → Int32} {be : Nat → Nat} {σ n : Nat} (hF : IF1 T L rF) (hk : k < T) : ∃ d, d ≤ 99 ∧ sS rF be σ n k = nI d := by
  obtain ⟨es, s1, s2, -, -⟩ := fact5 hF hk
  unfold sS
  split
  · exact ⟨_, Nat.min_le_left _ _, rfl⟩
  · exact ⟨_, s2, es⟩
theorem WS_n {T L A : Nat} {dg vo lo sh he tn rF now : Nat → Int32} {rc : Nat → Int64} {be : Nat → Nat} {σ n : Nat} (hs : IST T A dg vo lo sh he tn rc rF now) (hF : IF1 T L rF) : WS T dg (lT rF) (sS rF be σ n) := by
  refine ⟨(IST_WS hs hF).1, fun t ht => ⟨?_, sS_99 hF ht⟩⟩
  obtain ⟨⟨d, -, hd, e⟩, -, -⟩ := facts_e hF ht
  exact ⟨d, hd, e⟩
theorem min99_e {s : Nat} (h : s ≤ 99) : (if (2 : Int32) * nI s < (99 : Int32) then (2 : Int32) * nI s else (99 : Int32)) = nI (min 99 (2 * s)) := by
  rw [show (2 : Int32) * nI s = nI (2 * s) from pk_mul 2 s]
  by_cases c : 2 * s < 99
  · rw [if_pos (show nI (2 * s) < (99 : Int32) from nI_lt (b := 99) c (by decide)), Nat.min_eq_right (by omega)]
  · rw [if_neg (show ¬ nI (2 * s) < (99 : Int32) from nI_nlt (a := 2 * s) (b := 99) (by omega) (by omega)), Nat.min_eq_left (by omega)]
    rfl
set_option maxHeartbeats 1000000 in
theorem rightC_e {N T L A n σ : Nat} {dg vo lo sh he tn rF now d0 v0 l0 s0 h0 m0 ab : Nat → Int32} {rc : Nat → Int64} {be : Nat → Nat} (hN : 16 < N) (hT : T ≤ 16) (hA : A ≤ 300) (hF : IF1 T L rF) (hs : IST T A dg vo lo sh he tn rc rF now) (hn : n ≤ 6) (hσ : σ < 64) (hb : ∀ j, j < n → ab j = nI (be j) ∧ be j < T) (hi : ∀ i j, i < j → j < n → be i < be j) : ∃ d1 v1 l1 s1 h1 m1, fX1_isRightWith N (nI n) d0 v0 (nI T) (nI A) rF l0 s0 h0 m0 ab dg vo rc (nI σ) = some (d1, v1, l1, s1, h1, m1, if RW T A dg vo rF rc be n σ = true then 1 else 0) := by
  obtain ⟨d1, v1, l1, s1, h1, m1, e1, e2⟩ := clear_e (N := N) hN rF d0 v0 l0 s0 h0 m0
  have k1 : ∃ r, itr (fun z => fX1_isRightWith_l9b N (nI n) d1 v1 (nI T) (nI A) rF l1 h1 m1 ab dg vo rc (nI σ) z.1 z.2) N (s1, (0 : Int32)) = some r ∧ ∀ k, k < T → r k = sS rF be σ n k := by
    refine itr_inv (fun (i : Nat) (z : (Nat → Int32) × Int32) => z.2 = nI i ∧ ∀ k, k < T → z.1 k = sS rF be σ i k) (fun (r : Nat → Int32) => ∀ k, k < T → r k = sS rF be σ n k) (b := n) (by omega) ⟨rfl, fun k hk => (e2 k (by omega)).2.2.2.1⟩ ?_ ?_
    · rintro i ⟨f, v⟩ hi2 ⟨hv, hf⟩
      have hv : v = nI i := hv
      subst hv
      have hf : ∀ k, k < T → f k = sS rF be σ i k := hf
      obtain ⟨ea, eb⟩ := hb i hi2
      cases c : σ.testBit i
      · refine ⟨(f, nI (i + 1)), ?_, rfl, fun k hk => (hf k hk).trans (sS_s2 (Or.inr c)).symm⟩
        show fX1_isRightWith_l9b N (nI n) d1 v1 (nI T) (nI A) rF l1 h1 m1 ab dg vo rc (nI σ) f (nI i) = _
        unfold fX1_isRightWith_l9b
        rw [if_neg (nI_ge hi2 (by omega)), if_pos ((bt_e σ hσ i (by omega)).mpr c), bnd_e, nI_1]
      · refine ⟨(upd f (be i) (nI (min 99 (2 * sNat rF (be i)))), nI (i + 1)), ?_, rfl, fun k hk => ?_⟩
        · obtain ⟨es, -, s2, -, -⟩ := fact5 hF eb
          show fX1_isRightWith_l9b N (nI n) d1 v1 (nI T) (nI A) rF l1 h1 m1 ab dg vo rc (nI σ) f (nI i) = _
          unfold fX1_isRightWith_l9b
          rw [if_neg (nI_ge hi2 (by omega)), if_neg (fun q => by rw [(bt_e σ hσ i (by omega)).mp q] at c; cases c), gdi_nI (by omega) (by decide), gdi_nI (by omega) (by decide), nI_clamp (by omega), ea, gdi_nI (by omega) (by decide), nI_clamp (by omega), hf _ eb, sS_new hi hi2, es, min99_e s2, bnd_e, gdi_nI (by omega) (by decide), bnd_e, bnd_e, nI_1]
        · show upd f (be i) (nI (min 99 (2 * sNat rF (be i)))) k = _
          by_cases q : k = be i
          · rw [q, pk_us, sS_s1 c]
          · rw [pk_un q, sS_s2 (Or.inl (Ne.symm q))]
            exact hf k hk
    · rintro ⟨f, v⟩ ⟨hv, hf⟩
      have hv : v = nI n := hv
      subst hv
      refine ⟨f, ?_, hf⟩
      show fX1_isRightWith_l9b N (nI n) d1 v1 (nI T) (nI A) rF l1 h1 m1 ab dg vo rc (nI σ) f (nI n) = _
      unfold fX1_isRightWith_l9b
      rw [if_pos (nI_le (Nat.le_refl n) (by omega))]
  obtain ⟨s2, e3, e4⟩ := k1
  have hW0 := IST_WS hs hF
  have k2 : ∃ r, itr (fun z => fX1_isRightWith_l68b N (nI n) (nI T) (nI A) rF l1 s2 ab dg vo rc z.1 z.2.1 z.2.2.1 z.2.2.2.1 z.2.2.2.2) N (d1, v1, h1, m1, (0 : Int32)) = some r ∧ ((∀ k, k < T → r.1 k = dg k) ∧ (∀ k, k < T → r.2.1 k = vC dg vo k) ∧ IH T A r.1 r.2.1 l1 s2 r.2.2.1 r.2.2.2 rc) := by
    refine itr_inv (fun (i : Nat) (z : (Nat → Int32) × (Nat → Int32) × (Nat → Int32) × (Nat → Int32) × Int32) => z.2.2.2.2 = nI i ∧ (∀ k, k < 16 → z.1 k = if k < i then dg k else -1) ∧ (∀ k, k < 16 → z.2.1 k = if k < i then vC dg vo k else -1) ∧ IH T A z.1 z.2.1 l1 s2 z.2.2.1 z.2.2.2.1 rc) (fun (r : (Nat → Int32) × (Nat → Int32) × (Nat → Int32) × (Nat → Int32)) => (∀ k, k < T → r.1 k = dg k) ∧ (∀ k, k < T → r.2.1 k = vC dg vo k) ∧ IH T A r.1 r.2.1 l1 s2 r.2.2.1 r.2.2.2 rc) (b := T) (by omega) ⟨rfl, fun k hk => by rw [if_neg (Nat.not_lt_zero k)]; exact (e2 k hk).1, fun k hk => by rw [if_neg (Nat.not_lt_zero k)]; exact (e2 k hk).2.1, IH_empty (fun k hk => (e2 k (by omega)).1) (fun k hk => (e2 k (by omega)).2.2.2.2.1) (fun k hk => (e2 k (by omega)).2.2.2.2.2)⟩ ?_ ?_
    · rintro i ⟨d, v, h, m, c⟩ hi2 ⟨hc, hd, hv, hh⟩
      have hc : c = nI i := hc
      subst hc
      have hd : ∀ k, k < 16 → d k = if k < i then dg k else -1 := hd
      have hv : ∀ k, k < 16 → v k = if k < i then vC dg vo k else -1 := hv
      have hh : IH T A d v l1 s2 h m rc := hh
      by_cases u : dg i = -1
      · refine ⟨(d, v, h, m, nI (i + 1)), ?_, rfl, fun k hk => ?_, fun k hk => ?_, hh⟩
        · show fX1_isRightWith_l68b N (nI n) (nI T) (nI A) rF l1 s2 ab dg vo rc d v h m (nI i) = _
          unfold fX1_isRightWith_l68b
          rw [if_neg (nI_ge hi2 (by omega)), bind_e (isUpC_e (by omega) dg), if_pos u, if_pos rfl, bnd_e, nI_1]
        · show d k = _
          rw [hd k hk]
          by_cases e : k = i
          · rw [e, if_neg (Nat.lt_irrefl i), if_pos (Nat.lt_succ_self i), u]
          · by_cases q : k < i
            · rw [if_pos q, if_pos (by omega)]
            · rw [if_neg q, if_neg (by omega)]
        · show v k = _
          rw [hv k hk]
          by_cases e : k = i
          · rw [e, if_neg (Nat.lt_irrefl i), if_pos (Nat.lt_succ_self i)]
            unfold vC
            rw [if_pos u]
          · by_cases q : k < i
            · rw [if_pos q, if_pos (by omega)]
            · rw [if_neg q, if_neg (by omega)]
      · have hW : WS T (upd d i (dg i)) l1 s2 := by
          refine ⟨fun k hk => ?_, fun k hk => ⟨?_, ?_⟩⟩
          · by_cases e : k = i
            · rw [e, pk_us]
              exact hW0.1 i (by omega)
            · rw [pk_un e, hd k hk]
              by_cases q : k < i
              · rw [if_pos q]
                exact hW0.1 k hk
              · rw [if_neg q]
                exact Or.inl rfl
          · obtain ⟨⟨x, -, hx, e⟩, -, -⟩ := facts_e hF hk
            exact ⟨x, hx, (e2 k (by omega)).2.2.1.trans e⟩
          · obtain ⟨x, hx, e⟩ := sS_99 (be := be) (σ := σ) (n := n) hF hk
            exact ⟨x, hx, (e4 k hk).trans e⟩
        have ui : d i = -1 := by rw [hd i (by omega), if_neg (Nat.lt_irrefl i)]
        refine ⟨(upd d i (dg i), upd v i (vo i), mH 1 (upd d i (dg i)) (upd v i (vo i)) l1 s2 rc i h T, mN 1 A (upd d i (dg i)) (upd v i (vo i)) rc i m T, nI (i + 1)), ?_, rfl, fun k hk => ?_, fun k hk => ?_, IH_put hi2 hT ui hh⟩
        · show fX1_isRightWith_l68b N (nI n) (nI T) (nI A) rF l1 s2 ab dg vo rc d v h m (nI i) = _
          unfold fX1_isRightWith_l68b
          rw [if_neg (nI_ge hi2 (by omega)), bind_e (isUpC_e (by omega) dg), if_neg u, if_neg (show ¬ (1 : Int32) = 0 by decide), gdi_nI (by omega) (by decide), gdi_nI (by omega) (by decide), nI_clamp (by omega), bind_e (put_e hN hT hA hi2 hW), bnd_e, nI_1]
        · show upd d i (dg i) k = _
          by_cases e : k = i
          · rw [e, pk_us, if_pos (Nat.lt_succ_self i)]
          · rw [pk_un e, hd k hk]
            by_cases q : k < i
            · rw [if_pos q, if_pos (by omega)]
            · rw [if_neg q, if_neg (by omega)]
        · show upd v i (vo i) k = _
          by_cases e : k = i
          · rw [e, pk_us, if_pos (Nat.lt_succ_self i)]
            unfold vC
            rw [if_neg u]
          · rw [pk_un e, hv k hk]
            by_cases q : k < i
            · rw [if_pos q, if_pos (by omega)]
            · rw [if_neg q, if_neg (by omega)]
    · rintro ⟨d, v, h, m, c⟩ ⟨hc, hd, hv, hh⟩
      have hc : c = nI T := hc
      subst hc
      refine ⟨(d, v, h, m), ?_, fun k hk => ?_, fun k hk => ?_, hh⟩
      · show fX1_isRightWith_l68b N (nI n) (nI T) (nI A) rF l1 s2 ab dg vo rc d v h m (nI T) = _
        unfold fX1_isRightWith_l68b
        rw [if_pos (nI_le (Nat.le_refl T) (by omega))]
      · exact (hd k (by omega)).trans (if_pos hk)
      · exact (hv k (by omega)).trans (if_pos hk)
  obtain ⟨⟨d, v, h, m⟩, e5, e6, e7, e8⟩ := k2
  have e6 : ∀ k, k < T → d k = dg k := e6
  have e7 : ∀ k, k < T → v k = vC dg vo k := e7
  have e8 : IH T A d v l1 s2 h m rc := e8
  have e9 : fw T A d v l1 s2 rF rc = fw T A dg (vC dg vo) (lT rF) (sS rF be σ n) rF rc := fw_congN e6 e7 (fun k hk => (e2 k (by omega)).2.2.1) e4
  refine ⟨d, v, l1, s2, h, m, ?_⟩
  unfold fX1_isRightWith
  rw [bind_e e1]
  show (itr (fun z => fX1_isRightWith_l9b N (nI n) d1 v1 (nI T) (nI A) rF l1 h1 m1 ab dg vo rc (nI σ) z.1 z.2) N (s1, (0 : Int32))).bind _ = _
  rw [bind_e e3]
  show (itr (fun z => fX1_isRightWith_l68b N (nI n) (nI T) (nI A) rF l1 s2 ab dg vo rc z.1 z.2.1 z.2.2.1 z.2.2.2.1 z.2.2.2.2) N (d1, v1, h1, m1, (0 : Int32))).bind _ = _
  rw [bind_e e5]
  show (fX8_firstWrong N (nI T) d rF v m h).bind _ = _
  rw [bind_e (firstWrongC_e hN hT e8), e9]
  unfold RW
  by_cases q : fw T A dg (vC dg vo) (lT rF) (sS rF be σ n) rF rc = -1
  · rw [if_pos q, if_pos (decide_eq_true q)]
  · rw [if_neg q, if_neg (by rw [decide_eq_true_eq]; exact q)]
theorem innerM_e {N T L P A n σ : Nat} {rl rt rp ra rf b0 nc x y : Int32} {rc gr : Nat → Int64} {rP rF now dg vo lo sh he tn ls ss bm : Nat → Int32} {be : Nat → Nat} (hN : 16 < N) (h : IR1 T L P A rl rt rp ra rf rc rP rF now gr) (hF : IF1 T L rF) (hs : IST T A dg vo lo sh he tn rc rF now) (hn : n ≤ 6) (hσ : σ < 64) (hb : ∀ j, j < n → bm j = nI (be j) ∧ be j < T) (hi : ∀ i j, i < j → j < n → be i < be j) : ∃ s2, itr (fun z => fX12_narrow_l93b N 0 b0 nc now bm (lb ls now 4 T) gr (nI n) x y (nI σ) z.1 z.2.1 z.2.2.1 z.2.2.2) N (lb ss now 5 T, (0 : Int32), (0 : Int32), (0 : Int32)) = some (s2, nI (vS be σ n), cI rF be σ n) ∧ fX12_firstWrong N now gr (lb ls now 4 T) s2 = some (fw T A dg (vC dg vo) (lT rF) (sS rF be σ n) rF rc) := by
  have hT : T ≤ 16 := h.1.1
  have n1 : now 1 = nI T := h.2.2.1.2.1
  have hF2 := h.2.2.2.2.1
  have key : ∃ r, itr (fun z => fX12_narrow_l93b N 0 b0 nc now bm (lb ls now 4 T) gr (nI n) x y (nI σ) z.1 z.2.1 z.2.2.1 z.2.2.2) N (lb ss now 5 T, (0 : Int32), (0 : Int32), (0 : Int32)) = some r ∧ (r.2 = (nI (vS be σ n), cI rF be σ n) ∧ ∀ k, k < T → r.1 k = sS rF be σ n k) := by
    refine itr_inv (fun (i : Nat) (z : (Nat → Int32) × Int32 × Int32 × Int32) => z.2 = (nI (vS be σ i), cI rF be σ i, nI i) ∧ ∀ k, k < T → z.1 k = sS rF be σ i k) (fun (r : (Nat → Int32) × Int32 × Int32) => r.2 = (nI (vS be σ n), cI rF be σ n) ∧ ∀ k, k < T → r.1 k = sS rF be σ n k) (b := n) (by omega) ⟨rfl, fun k hk => by show lb ss now 5 T k = rF (14 * k + 5); rw [lb_in hk, ← hF2 k hk 5 (by decide)]⟩ ?_ ?_
    · rintro i ⟨f, p⟩ hi2 ⟨hp, hf⟩
      have hp : p = (nI (vS be σ i), cI rF be σ i, nI i) := hp
      subst hp
      have hf : ∀ k, k < T → f k = sS rF be σ i k := hf
      obtain ⟨ea, eb⟩ := hb i hi2
      have hh : fX12_has (nI σ) (nI i) = some (if σ.testBit i then 1 else 0) := by
        rw [hasM_e]
        unfold hv
        cases c : σ.testBit i
        · rw [if_pos ((bt_e σ hσ i (by omega)).mpr c)]
          rfl
        · rw [if_neg (fun q => by rw [(bt_e σ hσ i (by omega)).mp q] at c; cases c)]
          rfl
      cases c : σ.testBit i
      · refine ⟨(f, nI (vS be σ i), cI rF be σ i, nI (i + 1)), ?_, ?_, fun k hk => (hf k hk).trans (sS_s2 (Or.inr c)).symm⟩
        · show fX12_narrow_l93b N 0 b0 nc now bm (lb ls now 4 T) gr (nI n) x y (nI σ) f (nI (vS be σ i)) (cI rF be σ i) (nI i) = _
          unfold fX12_narrow_l93b
          rw [if_neg (nI_ge hi2 (by omega)), bind_e hh, c, if_neg (show ¬ (false = true) by decide), if_pos rfl, bnd_e, nI_1]
        · show (nI (vS be σ i), cI rF be σ i, nI (i + 1)) = (nI (vS be σ i + (if σ.testBit i then 2 ^ be i else 0)), (if σ.testBit i then cI rF be σ i + rF (14 * be i + 13) else cI rF be σ i), nI (i + 1))
          rw [c]
          rfl
      · obtain ⟨es, -, s2, -, -⟩ := fact5 hF eb
        refine ⟨(upd f (be i) (nI (min 99 (2 * sNat rF (be i)))), nI (vS be σ i + 2 ^ be i), cI rF be σ i + rF (14 * be i + 13), nI (i + 1)), ?_, ?_, fun k hk => ?_⟩
        · show fX12_narrow_l93b N 0 b0 nc now bm (lb ls now 4 T) gr (nI n) x y (nI σ) f (nI (vS be σ i)) (cI rF be σ i) (nI i) = _
          unfold fX12_narrow_l93b
          rw [if_neg (nI_ge hi2 (by omega)), bind_e hh, c, if_pos rfl, if_neg (show ¬ (1 : Int32) = 0 by decide), gdi_nI (by omega) (by decide), nI_clamp (by omega), bnd_e, ea, vS_or hi hi2 (by omega), bnd_e, bind_e (ofM_x (w := 13) (c := 13) rfl (by omega) (by decide) now), bnd_e, bind_e (ofM_x (w := 5) (c := 5) rfl (by omega) (by decide) now), bind_e (ofM_x (w := 5) (c := 5) rfl (by omega) (by decide) now), gdi_nI (by omega) (by decide), gdi_nI (by omega) (by decide), nI_clamp (by omega), bnd_e, bnd_e, bnd_e, bnd_e, nI_1, ← hF2 _ eb 13 (by decide), ← hF2 _ eb 5 (by decide), es, show (2 : Int32) * nI (sNat rF (be i)) = nI (2 * sNat rF (be i)) from pk_mul 2 _]
          by_cases q : 2 * sNat rF (be i) ≤ 99
          · rw [if_pos (show nI (2 * sNat rF (be i)) ≤ (99 : Int32) from nI_le (b := 99) q (by decide)), Nat.min_eq_right q]
          · rw [if_neg (show ¬ nI (2 * sNat rF (be i)) ≤ (99 : Int32) from nI_ge (a := 99) (by omega) (by omega)), Nat.min_eq_left (by omega)]
            rfl
        · show _ = (nI (vS be σ i + (if σ.testBit i then 2 ^ be i else 0)), (if σ.testBit i then cI rF be σ i + rF (14 * be i + 13) else cI rF be σ i), nI (i + 1))
          rw [c]
          rfl
        · show upd f (be i) (nI (min 99 (2 * sNat rF (be i)))) k = _
          by_cases q : k = be i
          · rw [q, pk_us, sS_s1 c]
          · rw [pk_un q, sS_s2 (Or.inl (Ne.symm q))]
            exact hf k hk
    · rintro ⟨f, p⟩ ⟨hp, hf⟩
      have hp : p = (nI (vS be σ n), cI rF be σ n, nI n) := hp
      subst hp
      refine ⟨(f, nI (vS be σ n), cI rF be σ n), ?_, rfl, hf⟩
      show fX12_narrow_l93b N 0 b0 nc now bm (lb ls now 4 T) gr (nI n) x y (nI σ) f (nI (vS be σ n)) (cI rF be σ n) (nI n) = _
      unfold fX12_narrow_l93b
      rw [if_pos (nI_le (Nat.le_refl n) (by omega))]
  obtain ⟨⟨f, p⟩, e1, e2, e3⟩ := key
  have e2 : p = (nI (vS be σ n), cI rF be σ n) := e2
  subst e2
  have e3 : ∀ k, k < T → f k = sS rF be σ n k := e3
  refine ⟨f, e1, ?_⟩
  have hv : IS1 T dg (vC dg vo) now := by
    intro t ht
    obtain ⟨q1, q2⟩ := hs.1 t ht
    refine ⟨q1, ?_⟩
    rcases q2 with e | ⟨a1, a2, a3⟩
    · exact Or.inl e
    · refine Or.inr ⟨a1, a2, ?_⟩
      obtain ⟨d, hd, e⟩ := a2
      unfold vC
      rw [if_neg (by rw [e]; exact nI_m1 (by omega))]
      exact a3
  refine firstWrongM_e hN h hv (WS_n hs hF) (fun j hj => ⟨?_, e3 j hj⟩)
  rw [lb_in hj, ← hF2 j hj 4 (by decide)]
  rfl

/-! FIND: both searches, step by step -/
theorem itr_inv2x {σ ρ τ υ : Type} {body : σ → Option (σ ⊕ ρ)} {bod2 : τ → Option (τ ⊕ υ)} (I : Nat → σ → τ → Prop) (Q : ρ → υ → Prop) {b n : Nat} {s : σ} {t : τ} (hn : b < n) (h0 : I 0 s t) (hs : ∀ i s t, i < b → I i s t → (∃ s' t', body s = some (.inl s') ∧ bod2 t = some (.inl t') ∧ I (i + 1) s' t') ∨ (∃ r q, body s = some (.inr r) ∧ bod2 t = some (.inr q) ∧ Q r q)) (he : ∀ s t, I b s t → ∃ r q, body s = some (.inr r) ∧ bod2 t = some (.inr q) ∧ Q r q) : ∃ r q, itr body n s = some r ∧ itr bod2 n t = some q ∧ Q r q := by
  have key : ∀ (d i n : Nat) (s : σ) (t : τ), i + d = b → d < n → I i s t → ∃ r q, itr body n s = some r ∧ itr bod2 n t = some q ∧ Q r q := by
    intro d
    induction d with
    | zero =>
      intro i n s t hi hn h
      obtain ⟨k, rfl⟩ : ∃ k, n = k + 1 := ⟨n - 1, by omega⟩
      have e : i = b := by omega
      subst e
      obtain ⟨r, q, e1, e2, e3⟩ := he s t h
      refine ⟨r, q, ?_, ?_, e3⟩
      · unfold itr
        rw [e1]
      · unfold itr
        rw [e2]
    | succ d ih =>
      intro i n s t hi hn h
      obtain ⟨k, rfl⟩ : ∃ k, n = k + 1 := ⟨n - 1, by omega⟩
      rcases hs i s t (by omega) h with ⟨s', t', e1, e2, e3⟩ | ⟨r, q, e1, e2, e3⟩
      · unfold itr
        rw [e1, e2]
        exact ih (i + 1) k s' t' (by omega) (by omega) e3
      · refine ⟨r, q, ?_, ?_, e3⟩
        · unfold itr
          rw [e1]
        · unfold itr
          rw [e2]
  exact key b 0 n s t (by omega) hn h0
/-- both searches at a PLACE and a VOICE of t: the same, nobody wrong -/
def FI (T A k n t : Nat) (w : Nat → Nat) (lo sh rF now0 : Nat → Int32) (rc : Nat → Int64) (dg vo he tn now : Nat → Int32) : Prop := K0 now0 now ∧ IS1x T t dg vo now ∧ IH T A dg vo lo sh he tn rc ∧ fw T A dg vo lo sh rF rc = -1 ∧ ∀ j, k ≤ j → j < n → dg (w j) = -1
def FQ (T A k n t : Nat) (w : Nat → Nat) (lo sh rF now0 : Nat → Int32) (rc : Nat → Int64) (r : ((Nat → Int32) × (Nat → Int32) × (Nat → Int32) × (Nat → Int32)) ⊕ ((Nat → Int32) × (Nat → Int32) × (Nat → Int32) × (Nat → Int32) × Int32)) (q : (Nat → Int32) ⊕ ((Nat → Int32) × Int32)) : Prop := (∃ dg vo he tn now, r = .inl (dg, vo, he, tn) ∧ q = .inl now ∧ FI T A k n t w lo sh rF now0 rc dg vo he tn now) ∨ (∃ dg vo he tn now, r = .inr (dg, vo, he, tn, 1) ∧ q = .inr (now, 1) ∧ K0 now0 now ∧ IST T A dg vo lo sh he tn rc rF now)
def LF (N T P A n d k : Nat) (w : Nat → Nat) (lo sh rF rP now0 ls ss row was wa sd sv : Nat → Int32) (rc gr : Nat → Int64) (st ot : Int32) : Prop := ∀ (dg vo he tn now : Nat → Int32), k ≤ n → n + 1 ≤ k + d → K0 now0 now → IST T A dg vo lo sh he tn rc rF now → fw T A dg vo lo sh rF rc = -1 → (∀ j, k ≤ j → j < n → dg (w j) = -1) → ∃ (dg2 vo2 he2 tn2 now2 : Nat → Int32) (r : Int32), fX6_placeFrom N d (nI n) ot wa (nI T) (nI P) (nI A) rP rF sd sv dg vo rc he lo sh tn (nI k) = some (dg2, vo2, he2, tn2, r) ∧ fX12_finds N d (nI n) now gr ls ss row was (nI k) st = some (now2, r) ∧ K0 now0 now2 ∧ IST T A dg2 vo2 lo sh he2 tn2 rc rF now2 ∧ (r = 1 ∨ (r = 0 ∧ fw T A dg2 vo2 lo sh rF rc = -1 ∧ ∀ j, k ≤ j → j < n → dg2 (w j) = -1))
theorem IS1x_vo {T t : Nat} {dg vo vo2 now : Nat → Int32} (h : IS1x T t dg vo now) (hv : ∀ s, s ≠ t → vo2 s = vo s) : IS1x T t dg vo2 now := by
  intro s hs hst
  rw [hv s hst]
  exact h s hs hst
theorem IS1x_less {T t : Nat} {dg vo now : Nat → Int32} {a b : Int32} (h : IS1 T dg vo now) : IS1x T t (upd dg t a) (upd vo t b) now := by
  intro s hs hst
  rw [pk_un hst, pk_un hst]
  exact h s hs
set_option maxHeartbeats 2000000 in
theorem lf_e {N T L P A n : Nat} {rl rt rp ra rf st ot : Int32} {rc gr : Nat → Int64} {rP rF now0 lo sh ls ss row was wa sd sv : Nat → Int32} {w : Nat → Nat} {sk : Nat → Nat → Nat → Bool} (hN : 16 < N) (h : IR1 T L P A rl rt rp ra rf rc rP rF now0 gr) (hF : IF1 T L rF) (hlo : ∀ t, t < T → lo t = rF (14 * t + 4) ∧ sh t = rF (14 * t + 5)) (hls : ∀ j, j < T → ls j = lo j ∧ ss j = sh j) (hn : n ≤ 4) (hw : ∀ j, j < n → w j < T) (hne : ∀ i j, i < j → j < n → w i ≠ w j) (hr : ∀ j, j < n → row j = nI (w j)) (hwa : ∀ j, j < n → wa j = nI (w j)) (hsk : ∀ j p v, j < n → p < P → v < 4 → sk (w j) p v = (decide (¬ hv st (nI (w j)) = 0) && (decide (was (2 * w j) = rP p) && decide (was (2 * w j + 1) = nI v)))) (hsc : ∀ j p v, j < n → p < P → v < 4 → sk (w j) p v = (decide (¬ ot = 0) && (decide (sd (w j) = rP p) && decide (sv (w j) = nI v)))) : ∀ d k, LF N T P A n d k w lo sh rF rP now0 ls ss row was wa sd sv rc gr st ot
  | 0, k => by
    intro dg vo he tn now h1 h2
    omega
  | d + 1, k => by
    intro dg vo he tn now hk hkd hK hS hf hup
    have hT : T ≤ 16 := h.1.1
    have hP : P ≤ 6 := h.1.2.2.1
    have hA : A ≤ 300 := h.1.2.2.2
    show ∃ (dg2 vo2 he2 tn2 now2 : Nat → Int32) (r : Int32), fX6_placeFrom_m N (fX6_placeFrom N d) (nI n) ot wa (nI T) (nI P) (nI A) rP rF sd sv dg vo rc he lo sh tn (nI k) = some (dg2, vo2, he2, tn2, r) ∧ fX12_finds_m N (fX12_finds N d) (nI n) now gr ls ss row was (nI k) st = some (now2, r) ∧ _
    unfold fX6_placeFrom_m fX12_finds_m
    by_cases c : k = n
    · rw [if_neg (show ¬ nI k < nI n from nI_nlt (by omega) (by omega)), if_pos (show nI k = nI n by rw [c]), bind_e (firstWrongM_e hN (IR1_K h hK) hS.1 (WS_of hS.1 hlo hF) hls), if_pos hf]
      exact ⟨dg, vo, he, tn, now, 1, rfl, rfl, hK, hS, Or.inl rfl⟩
    · have hkn : k < n := by omega
      have htT := hw k hkn
      rw [if_pos (nI_lt hkn (by omega)), if_neg (fun e => c ((nI_eq (by omega) (by omega)).mp e)), gdi_nI (n := 4) (by omega) (by decide), gdi_nI (n := 12) (by omega) (by decide), bnd_e, bnd_e, nI_clamp (by omega), hr k hkn, hwa k hkn]
      have outer : ∃ r q, itr (fun z => fX6_placeFrom_l19b N (fX6_placeFrom N d) (nI n) ot wa (nI T) (nI P) (nI A) rP rF sd sv rc lo sh (nI k) (nI (w k)) z.1 z.2.1 z.2.2.1 z.2.2.2.1 z.2.2.2.2) N (dg, vo, he, tn, (0 : Int32)) = some r ∧ itr (fun z => fX12_finds_l32b N (fX12_finds N d) (nI n) gr ls ss row was (nI k) st (nI (w k)) z.1 z.2) N (now, (0 : Int32)) = some q ∧ FQ T A k n (w k) w lo sh rF now0 rc r q := by
        refine itr_inv2x (fun (p : Nat) (z : (Nat → Int32) × (Nat → Int32) × (Nat → Int32) × (Nat → Int32) × Int32) (y : (Nat → Int32) × Int32) => z.2.2.2.2 = nI p ∧ y.2 = nI p ∧ FI T A k n (w k) w lo sh rF now0 rc z.1 z.2.1 z.2.2.1 z.2.2.2.1 y.1) (FQ T A k n (w k) w lo sh rF now0 rc) (b := P) (by omega) ⟨rfl, rfl, hK, fun s hs1 _ => hS.1 s hs1, hS.2.2, hf, hup⟩ ?_ ?_
        · rintro p ⟨dg1, vo1, he1, tn1, v⟩ ⟨nw, v'⟩ hp ⟨hv, hv', hI⟩
          have hv : v = nI p := hv
          subst hv
          have hv' : v' = nI p := hv'
          subst hv'
          have hI : FI T A k n (w k) w lo sh rF now0 rc dg1 vo1 he1 tn1 nw := hI
          obtain ⟨pd, hpd, epd⟩ := (h.2.2.2.1 p hp).2
          have inner : ∃ r q, itr (fun z => fX6_placeFrom_l33b N (fX6_placeFrom N d) (nI n) ot wa (nI T) (nI P) (nI A) rP rF sd sv rc lo sh (nI k) (nI (w k)) (nI p) z.1 z.2.1 z.2.2.1 z.2.2.2.1 z.2.2.2.2) N (dg1, vo1, he1, tn1, (0 : Int32)) = some r ∧ itr (fun z => fX12_finds_l46b N (fX12_finds N d) (nI n) gr ls ss row was (nI k) st (nI (w k)) (nI p) z.1 z.2) N (nw, (0 : Int32)) = some q ∧ FQ T A k n (w k) w lo sh rF now0 rc r q := by
            refine itr_inv2x (fun (v : Nat) (z : (Nat → Int32) × (Nat → Int32) × (Nat → Int32) × (Nat → Int32) × Int32) (y : (Nat → Int32) × Int32) => z.2.2.2.2 = nI v ∧ y.2 = nI v ∧ FI T A k n (w k) w lo sh rF now0 rc z.1 z.2.1 z.2.2.1 z.2.2.2.1 y.1) (FQ T A k n (w k) w lo sh rF now0 rc) (b := 4) (by omega) ⟨rfl, rfl, hI⟩ ?_ ?_
            · rintro v ⟨dg2, vo2, he2, tn2, y⟩ ⟨nv, y'⟩ hv4 ⟨hy, hy', hI2⟩
              have hy : y = nI v := hy
              subst hy
              have hy' : y' = nI v := hy'
              subst hy'
              have hI2 : FI T A k n (w k) w lo sh rF now0 rc dg2 vo2 he2 tn2 nv := hI2
              obtain ⟨K2, X2, H2, F2, U2⟩ := hI2
              have hu : dg2 (w k) = -1 := U2 k (Nat.le_refl k) hkn
              have W2 : WS T dg2 lo sh := WS_of (IS1x_take (w := 0) X2 hu) hlo hF
              have hstep := findStep (N := N) (n := n) (v1 := nI k) (st := st) (ls := ls) (ss := ss) (row := row) (was := was) (rcf := fX12_finds N d) (IR1_K h K2) htT hp hv4 (hsk k p v hkn hp hv4)
              obtain ⟨dg3, vo3, he3, tn3, r, e3, H3, F3, hor⟩ := putRightly_e (N := N) (ot := ot) (sd := sd) (sv := sv) (v := v) hN h hF htT hp W2 H2 hu F2 (hsc k p v hkn hp hv4)
              show (∃ s' t', fX6_placeFrom_l33b N (fX6_placeFrom N d) (nI n) ot wa (nI T) (nI P) (nI A) rP rF sd sv rc lo sh (nI k) (nI (w k)) (nI p) dg2 vo2 he2 tn2 (nI v) = some (.inl s') ∧ fX12_finds_l46b N (fX12_finds N d) (nI n) gr ls ss row was (nI k) st (nI (w k)) (nI p) nv (nI v) = some (.inl t') ∧ _) ∨ (∃ r' q', fX6_placeFrom_l33b N (fX6_placeFrom N d) (nI n) ot wa (nI T) (nI P) (nI A) rP rF sd sv rc lo sh (nI k) (nI (w k)) (nI p) dg2 vo2 he2 tn2 (nI v) = some (.inr r') ∧ fX12_finds_l46b N (fX12_finds N d) (nI n) gr ls ss row was (nI k) st (nI (w k)) (nI p) nv (nI v) = some (.inr q') ∧ _)
              rw [hstep]
              unfold fX6_placeFrom_l33b
              rw [if_neg (show ¬ (4 : Int32) ≤ nI v from nI_ge (b := 4) hv4 (by decide)), bind_e e3]
              have hs2 := IS1x_put (d := rP p) (v := nI v) X2 htT ⟨pd, hpd, epd⟩ ⟨v, hv4, rfl⟩
              have up2 : ∀ j, k + 1 ≤ j → j < n → upd dg2 (w k) (rP p) (w j) = -1 := fun j hj1 hj2 => by
                rw [pk_un (Ne.symm (hne k j (by omega) hj2))]
                exact U2 j (by omega) hj2
              rcases hor with ⟨hr1, hc, hd3, hv3⟩ | ⟨hr0, hor, hd3, hv3⟩
              · subst hr1
                subst hd3
                subst hv3
                obtain ⟨dg4, vo4, he4, tn4, nw4, r4, e4, e4', K4, S4, hor4⟩ := lf_e (P := P) (sk := sk) hN h hF hlo hls hn hw hne hr hwa hsk hsc d (k + 1) _ _ he3 tn3 (upd (upd nv (340 + 2 * w k) (rP p)) (341 + 2 * w k) (nI v)) (by omega) (by omega) (K0_put K2 (show w k < 16 by omega)) ⟨hs2, hlo, H3⟩ F3 up2
                rw [if_pos hc, if_neg (show ¬ (1 : Int32) = 0 by decide), nI_1 k, bind_e e4, bind_e e4']
                rcases hor4 with q1 | ⟨q0, F4, U4⟩
                · subst q1
                  refine Or.inr ⟨.inr (dg4, vo4, he4, tn4, 1), .inr (nw4, 1), ?_, ?_, Or.inr ⟨dg4, vo4, he4, tn4, nw4, rfl, rfl, K4, S4⟩⟩
                  · rw [if_neg (show ¬ (1 : Int32) = 0 by decide)]
                  · rw [if_neg (show ¬ (1 : Int32) = 0 by decide)]
                · subst q0
                  have W4 := WS_of S4.1 hlo hF
                  refine Or.inl ⟨(upd dg4 (w k) (-1), upd vo4 (w k) (-1), mH (-1) dg4 vo4 lo sh rc (w k) he4 T, mN (-1) A dg4 vo4 rc (w k) tn4 T, nI (v + 1)), (nw4, nI (v + 1)), ?_, ?_, rfl, rfl, K4, ?_, IH_take htT hT S4.2.2, fw_less hT hF W4 F4, fun j hj1 hj2 => ?_⟩
                  · rw [if_pos (show (0 : Int32) = 0 from rfl), bind_e (take_e hN hT hA htT W4), bnd_e, nI_1]
                  · rw [if_pos (show (0 : Int32) = 0 from rfl)]
                  · exact IS1x_less S4.1
                  · show upd dg4 (w k) (-1) (w j) = -1
                    by_cases q : w j = w k
                    · rw [q, pk_us]
                    · rw [pk_un q]
                      exact U4 j (by
                        by_cases y : j = k
                        · exact absurd (by rw [y]) q
                        · omega) hj2
              · subst hr0
                subst hd3
                rw [if_pos (show (0 : Int32) = 0 from rfl), bnd_e, nI_1]
                rcases hor with hc | hbad
                · rw [if_neg (by rw [hc]; decide)]
                  exact Or.inl ⟨(dg3, vo3, he3, tn3, nI (v + 1)), (nv, nI (v + 1)), rfl, rfl, rfl, rfl, K2, IS1x_vo X2 hv3, H3, F3, U2⟩
                · by_cases hc : can rF rP sk (w k) p v = true
                  · obtain ⟨now3, e4, K4, S4⟩ := df_e (P := P) (sk := sk) hN h hF hlo hls hn hw hne hr hsk d (k + 1) _ (upd dg3 (w k) (rP p)) (upd vo2 (w k) (nI v)) (by omega) (by omega) (K0_put K2 (show w k < 16 by omega)) hs2 hbad up2
                    rw [if_pos hc, nI_1 k, bind_e e4]
                    exact Or.inl ⟨(dg3, vo3, he3, tn3, nI (v + 1)), (now3, nI (v + 1)), rfl, rfl, rfl, rfl, K4, IS1x_vo (IS1x_of S4) hv3, H3, F3, U2⟩
                  · rw [if_neg hc]
                    exact Or.inl ⟨(dg3, vo3, he3, tn3, nI (v + 1)), (nv, nI (v + 1)), rfl, rfl, rfl, rfl, K2, IS1x_vo X2 hv3, H3, F3, U2⟩
            · rintro ⟨dg2, vo2, he2, tn2, y⟩ ⟨nv, y'⟩ ⟨hy, hy', hI2⟩
              have hy : y = nI 4 := hy
              subst hy
              have hy' : y' = nI 4 := hy'
              subst hy'
              refine ⟨.inl (dg2, vo2, he2, tn2), .inl nv, ?_, ?_, Or.inl ⟨dg2, vo2, he2, tn2, nv, rfl, rfl, hI2⟩⟩
              · show fX6_placeFrom_l33b N (fX6_placeFrom N d) (nI n) ot wa (nI T) (nI P) (nI A) rP rF sd sv rc lo sh (nI k) (nI (w k)) (nI p) dg2 vo2 he2 tn2 (nI 4) = _
                unfold fX6_placeFrom_l33b
                rw [if_pos (show (4 : Int32) ≤ nI 4 from nI_le (a := 4) (Nat.le_refl 4) (by decide))]
              · show fX12_finds_l46b N (fX12_finds N d) (nI n) gr ls ss row was (nI k) st (nI (w k)) (nI p) nv (nI 4) = _
                unfold fX12_finds_l46b
                rw [if_pos (show (4 : Int32) ≤ nI 4 from nI_le (a := 4) (Nat.le_refl 4) (by decide))]
          obtain ⟨r, q, e1, e2, hQ⟩ := inner
          show (∃ s' t', fX6_placeFrom_l19b N (fX6_placeFrom N d) (nI n) ot wa (nI T) (nI P) (nI A) rP rF sd sv rc lo sh (nI k) (nI (w k)) dg1 vo1 he1 tn1 (nI p) = some (.inl s') ∧ fX12_finds_l32b N (fX12_finds N d) (nI n) gr ls ss row was (nI k) st (nI (w k)) nw (nI p) = some (.inl t') ∧ _) ∨ (∃ r' q', fX6_placeFrom_l19b N (fX6_placeFrom N d) (nI n) ot wa (nI T) (nI P) (nI A) rP rF sd sv rc lo sh (nI k) (nI (w k)) dg1 vo1 he1 tn1 (nI p) = some (.inr r') ∧ fX12_finds_l32b N (fX12_finds N d) (nI n) gr ls ss row was (nI k) st (nI (w k)) nw (nI p) = some (.inr q') ∧ _)
          unfold fX6_placeFrom_l19b fX12_finds_l32b
          rw [if_neg (nI_ge hp (by omega)), gdi_e (i := 2) (n := 380) 2 rfl (by decide) (by decide), show nw ((2 : Int32).toNatClampNeg) = nI P from (IR1_K h hI.1).2.2.1.2.2.1, if_neg (nI_ge hp (by omega)), bind_e e1, bind_e e2]
          rcases hQ with ⟨dg2, vo2, he2, tn2, nv, rfl, rfl, hI2⟩ | ⟨dg2, vo2, he2, tn2, nv, rfl, rfl, K2, S2⟩
          · rw [Sum.elim_inl, Sum.elim_inl, bnd_e, bnd_e, nI_1]
            exact Or.inl ⟨(dg2, vo2, he2, tn2, nI (p + 1)), (nv, nI (p + 1)), rfl, rfl, rfl, rfl, hI2⟩
          · rw [Sum.elim_inr, Sum.elim_inr]
            exact Or.inr ⟨_, _, rfl, rfl, Or.inr ⟨dg2, vo2, he2, tn2, nv, rfl, rfl, K2, S2⟩⟩
        · rintro ⟨dg2, vo2, he2, tn2, y⟩ ⟨nv, y'⟩ ⟨hy, hy', hI2⟩
          have hy : y = nI P := hy
          subst hy
          have hy' : y' = nI P := hy'
          subst hy'
          refine ⟨.inl (dg2, vo2, he2, tn2), .inl nv, ?_, ?_, Or.inl ⟨dg2, vo2, he2, tn2, nv, rfl, rfl, hI2⟩⟩
          · show fX6_placeFrom_l19b N (fX6_placeFrom N d) (nI n) ot wa (nI T) (nI P) (nI A) rP rF sd sv rc lo sh (nI k) (nI (w k)) dg2 vo2 he2 tn2 (nI P) = _
            unfold fX6_placeFrom_l19b
            rw [if_pos (nI_le (Nat.le_refl P) (by omega))]
          · show fX12_finds_l32b N (fX12_finds N d) (nI n) gr ls ss row was (nI k) st (nI (w k)) nv (nI P) = _
            unfold fX12_finds_l32b
            rw [gdi_e (i := 2) (n := 380) 2 rfl (by decide) (by decide), show nv ((2 : Int32).toNatClampNeg) = nI P from (IR1_K h hI2.1).2.2.1.2.2.1, if_pos (nI_le (Nat.le_refl P) (by omega))]
      obtain ⟨r, q, e1, e2, hQ⟩ := outer
      rw [bind_e e1, bind_e e2]
      rcases hQ with ⟨dg2, vo2, he2, tn2, nv, rfl, rfl, K2, X2, H2, F2, U2⟩ | ⟨dg2, vo2, he2, tn2, nv, rfl, rfl, K2, S2⟩
      · rw [Sum.elim_inl, Sum.elim_inl, bind_e (putM_e (by omega) nv (-1) 0)]
        exact ⟨dg2, vo2, he2, tn2, _, 0, rfl, rfl, K0_put K2 (by omega), ⟨IS1x_take X2 (U2 k (Nat.le_refl k) hkn), hlo, H2⟩, Or.inr ⟨rfl, F2, U2⟩⟩
      · rw [Sum.elim_inr, Sum.elim_inr]
        exact ⟨dg2, vo2, he2, tn2, nv, 1, rfl, rfl, K2, S2, Or.inl rfl⟩

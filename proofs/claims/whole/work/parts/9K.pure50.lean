/-! MOST, both -/
/-- of those that are not told of, nothing has changed -/
def OB (n : Nat) (w : Nat → Nat) (dgB voB dg vo : Nat → Int32) : Prop := ∀ s, (∀ j, j < n → s ≠ w j) → dg s = dgB s ∧ vo s = voB s
theorem OB_upd {n k : Nat} {w : Nat → Nat} {dgB voB dg vo : Nat → Int32} {a b : Int32} (h : OB n w dgB voB dg vo) (hk : k < n) : OB n w dgB voB (upd dg (w k) a) (upd vo (w k) b) := by
  intro s hs
  rw [pk_un (hs k hk), pk_un (hs k hk)]
  exact h s hs
/-- the best so far, as both keep it -/
def BT (T n : Nat) (w : Nat → Nat) (dgB voB : Nat → Int32) (M : Option Nat) (bd bv sv : Nat → Int32) : Prop := M = none ∨ ∃ dgS voS nowS, IS1 T dgS voS nowS ∧ (∀ i, i < 32 → sv i = nowS (340 + i)) ∧ (∀ j, j < n → bd j = dgS (w j) ∧ bv j = voS (w j)) ∧ OB n w dgB voB dgS voS
theorem keepBest_e {N T n : Nat} {bw x : Int32} {wa dg bd vo bv : Nat → Int32} {w : Nat → Nat} (hN : 16 < N) (hT : T ≤ 16) (hn : n ≤ 4) (hw : ∀ j, j < n → w j < T) (hwa : ∀ j, j < n → wa j = nI (w j)) : ∃ bd2 bv2, fX6_keepBest N (nI n) bw wa dg bd vo bv x = some (x, bd2, bv2) ∧ ∀ j, j < n → bd2 j = dg (w j) ∧ bv2 j = vo (w j) := by
  unfold fX6_keepBest
  have key : ∃ r, itr (fun z => fX6_keepBest_l7b N (nI n) x wa dg vo z.1 z.2.1 z.2.2) N (bd, bv, (0 : Int32)) = some r ∧ ∀ j, j < n → r.1 j = dg (w j) ∧ r.2 j = vo (w j) := by
    refine itr_inv (fun (i : Nat) (z : (Nat → Int32) × (Nat → Int32) × Int32) => z.2.2 = nI i ∧ ∀ j, j < i → z.1 j = dg (w j) ∧ z.2.1 j = vo (w j)) (fun (r : (Nat → Int32) × (Nat → Int32)) => ∀ j, j < n → r.1 j = dg (w j) ∧ r.2 j = vo (w j)) (b := n) (by omega) ⟨rfl, fun j hj => absurd hj (Nat.not_lt_zero j)⟩ ?_ ?_
    · rintro i ⟨f, g, v⟩ hi ⟨hv, hf⟩
      have hv : v = nI i := hv
      subst hv
      have hf : ∀ j, j < i → f j = dg (w j) ∧ g j = vo (w j) := hf
      have hwi := hw i hi
      refine ⟨(upd f i (dg (w i)), upd g i (vo (w i)), nI (i + 1)), ?_, rfl, fun j hj => ?_⟩
      · show fX6_keepBest_l7b N (nI n) x wa dg vo f g (nI i) = _
        unfold fX6_keepBest_l7b
        rw [if_neg (nI_ge hi (by omega)), nI_clamp (n := i) (by omega), hwa i hi, gdi_nI (k := i) (by omega) (by decide), gdi_nI (k := w i) (by omega) (by decide), gdi_nI (k := i) (by omega) (by decide), bnd_e, gdi_nI (k := i) (by omega) (by decide), gdi_nI (k := w i) (by omega) (by decide), gdi_nI (k := i) (by omega) (by decide), bnd_e, bnd_e, nI_clamp (n := w i) (by omega), nI_1]
      · show upd f i (dg (w i)) j = _ ∧ upd g i (vo (w i)) j = _
        by_cases q : j = i
        · rw [q, pk_us, pk_us]
          exact ⟨rfl, rfl⟩
        · rw [pk_un q, pk_un q]
          exact hf j (by omega)
    · rintro ⟨f, g, v⟩ ⟨hv, hf⟩
      have hv : v = nI n := hv
      subst hv
      refine ⟨(f, g), ?_, hf⟩
      show fX6_keepBest_l7b N (nI n) x wa dg vo f g (nI n) = _
      unfold fX6_keepBest_l7b
      rw [if_pos (nI_le (Nat.le_refl n) (by omega))]
  obtain ⟨⟨f, g⟩, e1, e2⟩ := key
  exact ⟨f, g, by rw [bind_e e1], e2⟩
def MI (T A k n t : Nat) (w : Nat → Nat) (lo sh rF now0 dgB voB dg0 : Nat → Int32) (rc : Nat → Int64) (dg vo he tn now : Nat → Int32) (M : Option Nat) (bd bv sv : Nat → Int32) : Prop := FI T A k n t w lo sh rF now0 rc dg vo he tn now ∧ OB n w dgB voB dg vo ∧ (∀ j, j < k → dg (w j) = dg0 (w j)) ∧ (∀ m, M = some m → m ≤ 100000) ∧ BT T n w dgB voB M bd bv sv
def LM (N T P A n d k : Nat) (w : Nat → Nat) (lo sh rF rP now0 ls ss row wa sd sw dgB voB : Nat → Int32) (rc gr : Nat → Int64) : Prop := ∀ (dg vo he tn now bd bv sv : Nat → Int32) (M : Option Nat) (x : Nat), k ≤ n → n + 1 ≤ k + d → K0 now0 now → IST T A dg vo lo sh he tn rc rF now → fw T A dg vo lo sh rF rc = -1 → (∀ j, k ≤ j → j < n → dg (w j) = -1) → OB n w dgB voB dg vo → (∀ m, M = some m → m ≤ 100000) → x + rst (fun j => wt rF (w j)) n k ≤ 100000 → BT T n w dgB voB M bd bv sv → ∃ (dg2 vo2 he2 tn2 now2 bd2 bv2 sv2 : Nat → Int32) (M2 : Option Nat), fX6_mostFrom N d (nI n) 0 (enc M) wa (nI T) (nI P) (nI A) rF dg bd vo bv rP sd sw rc he lo sh tn (nI k) (nI x) = some (enc M2, dg2, bd2, vo2, bv2, he2, tn2) ∧ fX12_tryWorth N d (nI n) (enc M) now gr ls ss sv row (nI k) (nI x) = some (enc M2, now2, sv2) ∧ K0 now0 now2 ∧ IST T A dg2 vo2 lo sh he2 tn2 rc rF now2 ∧ fw T A dg2 vo2 lo sh rF rc = -1 ∧ (∀ j, k ≤ j → j < n → dg2 (w j) = -1) ∧ OB n w dgB voB dg2 vo2 ∧ (∀ j, j < k → dg2 (w j) = dg (w j)) ∧ (∀ m, M2 = some m → m ≤ 100000) ∧ BT T n w dgB voB M2 bd2 bv2 sv2 ∧ ∃ m, M2 = some m ∧ x ≤ m
set_option maxHeartbeats 4000000 in
theorem lm_e {N T L P A n : Nat} {rl rt rp ra rf : Int32} {rc gr : Nat → Int64} {rP rF now0 lo sh ls ss row wa sd sw dgB voB : Nat → Int32} {w : Nat → Nat} (hN : 32 < N) (h : IR1 T L P A rl rt rp ra rf rc rP rF now0 gr) (hF : IF1 T L rF) (hlo : ∀ t, t < T → lo t = rF (14 * t + 4) ∧ sh t = rF (14 * t + 5)) (hls : ∀ j, j < T → ls j = lo j ∧ ss j = sh j) (hn : n ≤ 4) (hw : ∀ j, j < n → w j < T) (hne : ∀ i j, i < j → j < n → w i ≠ w j) (hr : ∀ j, j < n → row j = nI (w j)) (hwa : ∀ j, j < n → wa j = nI (w j)) : ∀ d k, LM N T P A n d k w lo sh rF rP now0 ls ss row wa sd sw dgB voB rc gr
  | 0, k => by
    intro dg vo he tn now bd bv sv M x h1 h2
    omega
  | d + 1, k => by
    intro dg vo he tn now bd bv sv M x hk hkd hK hS hf hup hOB hM hx hBT
    have hT : T ≤ 16 := h.1.1
    have hP : P ≤ 6 := h.1.2.2.1
    have hA : A ≤ 300 := h.1.2.2.2
    have hN' : 16 < N := by omega
    show ∃ (dg2 vo2 he2 tn2 now2 bd2 bv2 sv2 : Nat → Int32) (M2 : Option Nat), fX6_mostFrom_m N (fX6_mostFrom N d) (nI n) 0 (enc M) wa (nI T) (nI P) (nI A) rF dg bd vo bv rP sd sw rc he lo sh tn (nI k) (nI x) = some (enc M2, dg2, bd2, vo2, bv2, he2, tn2) ∧ fX12_tryWorth N (d + 1) (nI n) (enc M) now gr ls ss sv row (nI k) (nI x) = some (enc M2, now2, sv2) ∧ _
    by_cases cp : ∃ m, M = some m ∧ x + rst (fun j => wt rF (w j)) n k ≤ m
    · obtain ⟨now2, e2, K2, S2⟩ := dm_e (P := P) hN' h hF hlo hls hn hw hne hr (d + 1) k now dg vo sv M x hk hkd hK hS.1 (Or.inr cp) hM hx hup
      obtain ⟨m, hm, hxm⟩ := cp
      have hm9 := hM m hm
      refine ⟨dg, vo, he, tn, now2, bd, bv, sv, M, ?_, e2, K2, ⟨S2, hlo, hS.2.2⟩, hf, hup, hOB, fun j _ => rfl, hM, hBT, m, hm, by omega⟩
      unfold fX6_mostFrom_m
      rw [bind_e (worth_e hN' hT hF hn hk hw hwa), nI_add, if_neg (show ¬ enc M < nI (x + rst (fun j => wt rF (w j)) n k) by rw [hm]; exact nI_nlt hxm (by omega))]
    · have hgo : enc M < nI (x + rst (fun j => wt rF (w j)) n k) := by
        cases hm : M with
        | none => exact Int32.lt_of_lt_of_le (show (-1 : Int32) < 0 by decide) (nI_le (a := 0) (Nat.zero_le _) (by omega))
        | some m =>
          refine nI_lt ?_ (by omega)
          rcases Nat.lt_or_ge m (x + rst (fun j => wt rF (w j)) n k) with q | q
          · exact q
          · exact absurd ⟨m, hm, q⟩ cp
      show ∃ (dg2 vo2 he2 tn2 now2 bd2 bv2 sv2 : Nat → Int32) (M2 : Option Nat), fX6_mostFrom_m N (fX6_mostFrom N d) (nI n) 0 (enc M) wa (nI T) (nI P) (nI A) rF dg bd vo bv rP sd sw rc he lo sh tn (nI k) (nI x) = some (enc M2, dg2, bd2, vo2, bv2, he2, tn2) ∧ fX12_tryWorth_m N (fX12_tryWorth N d) (nI n) (enc M) now gr ls ss sv row (nI k) (nI x) = some (enc M2, now2, sv2) ∧ _
      unfold fX6_mostFrom_m fX12_tryWorth_m
      rw [bind_e (worth_e hN' hT hF hn hk hw hwa), nI_add, if_pos hgo]
      by_cases c : k = n
      · subst c
        rw [rst_n, Nat.add_zero] at hgo
        obtain ⟨bd2, bv2, e1, e2⟩ := keepBest_e (N := N) (bw := enc M) (x := nI x) (dg := dg) (bd := bd) (vo := vo) (bv := bv) hN' hT hn hw hwa
        rw [if_neg (show ¬ nI k < nI k from nI_nlt (Nat.le_refl k) (by omega)), bind_e e1, if_pos rfl, if_neg (show ¬ nI x ≤ enc M from fun q => absurd (Int32.lt_of_lt_of_le hgo q) Int32.lt_irrefl), bind_e (firstWrongM_e hN' (IR1_K h hK) hS.1 (WS_of hS.1 hlo hF) hls), if_pos hf, bind_e (save_e hN now sv)]
        rw [rst_n] at hx
        refine ⟨dg, vo, he, tn, now, bd2, bv2, svd now sv, some x, rfl, rfl, hK, hS, hf, hup, hOB, fun j _ => rfl, fun m q => by cases q; omega, Or.inr ⟨dg, vo, now, hS.1, fun i hi => fa_fill_in hi, e2, hOB⟩, x, rfl, Nat.le_refl x⟩
      · have hkn : k < n := by omega
        have htT := hw k hkn
        have hrs : rst (fun j => wt rF (w j)) n k = wt rF (w k) + rst (fun j => wt rF (w j)) n (k + 1) := rst_s (f := fun j => wt rF (w j)) hkn
        rw [if_pos (nI_lt hkn (by omega)), if_neg (fun e => c ((nI_eq (by omega) (by omega)).mp e)), gdi_nI (n := 4) (by omega) (by decide), gdi_nI (n := 12) (by omega) (by decide), bnd_e, bnd_e, nI_clamp (by omega), hr k hkn, hwa k hkn]
        have outer : ∃ r q, itr (fun z => fX6_mostFrom_l39b N (fX6_mostFrom N d) (nI n) 0 wa (nI T) (nI P) (nI A) rF rP sd sw rc lo sh (nI k) (nI x) (nI (w k)) z.1 z.2.1 z.2.2.1 z.2.2.2.1 z.2.2.2.2.1 z.2.2.2.2.2.1 z.2.2.2.2.2.2.1 z.2.2.2.2.2.2.2) N (enc M, dg, bd, vo, bv, he, tn, (0 : Int32)) = some r ∧ itr (fun z => fX12_tryWorth_l49b N (fX12_tryWorth N d) (nI n) gr ls ss row (nI k) (nI x) (nI (w k)) z.1 z.2.1 z.2.2.1 z.2.2.2) N (enc M, now, sv, (0 : Int32)) = some q ∧ ∃ M2, r.1 = enc M2 ∧ q.1 = enc M2 ∧ MI T A k n (w k) w lo sh rF now0 dgB voB dg rc r.2.1 r.2.2.2.1 r.2.2.2.2.2.1 r.2.2.2.2.2.2 q.2.1 M2 r.2.2.1 r.2.2.2.2.1 q.2.2 := by
          refine itr_inv2 (fun (p : Nat) (z : Int32 × (Nat → Int32) × (Nat → Int32) × (Nat → Int32) × (Nat → Int32) × (Nat → Int32) × (Nat → Int32) × Int32) (y : Int32 × (Nat → Int32) × (Nat → Int32) × Int32) => z.2.2.2.2.2.2.2 = nI p ∧ y.2.2.2 = nI p ∧ ∃ M2, z.1 = enc M2 ∧ y.1 = enc M2 ∧ MI T A k n (w k) w lo sh rF now0 dgB voB dg rc z.2.1 z.2.2.2.1 z.2.2.2.2.2.1 z.2.2.2.2.2.2.1 y.2.1 M2 z.2.2.1 z.2.2.2.2.1 y.2.2.1) (fun (r : Int32 × (Nat → Int32) × (Nat → Int32) × (Nat → Int32) × (Nat → Int32) × (Nat → Int32) × (Nat → Int32)) (q : Int32 × (Nat → Int32) × (Nat → Int32)) => ∃ M2, r.1 = enc M2 ∧ q.1 = enc M2 ∧ MI T A k n (w k) w lo sh rF now0 dgB voB dg rc r.2.1 r.2.2.2.1 r.2.2.2.2.2.1 r.2.2.2.2.2.2 q.2.1 M2 r.2.2.1 r.2.2.2.2.1 q.2.2) (b := P) (by omega) ⟨rfl, rfl, M, rfl, rfl, ⟨hK, fun s hs1 _ => hS.1 s hs1, hS.2.2, hf, hup⟩, hOB, fun j _ => rfl, hM, hBT⟩ ?_ ?_
          · rintro p ⟨a, dg1, bd1, vo1, bv1, he1, tn1, v⟩ ⟨a', nw, sv1, v'⟩ hp ⟨hv, hv', M1, ha, ha', hI⟩
            have hv : v = nI p := hv
            subst hv
            have hv' : v' = nI p := hv'
            subst hv'
            have ha : a = enc M1 := ha
            subst ha
            have ha' : a' = enc M1 := ha'
            subst ha'
            have hI : MI T A k n (w k) w lo sh rF now0 dgB voB dg rc dg1 vo1 he1 tn1 nw M1 bd1 bv1 sv1 := hI
            obtain ⟨pd, hpd, epd⟩ := (h.2.2.2.1 p hp).2
            have inner : ∃ r q, itr (fun z => fX6_mostFrom_l54b N (fX6_mostFrom N d) (nI n) 0 wa (nI T) (nI P) (nI A) rF rP sd sw rc lo sh (nI k) (nI x) (nI (w k)) (nI p) z.1 z.2.1 z.2.2.1 z.2.2.2.1 z.2.2.2.2.1 z.2.2.2.2.2.1 z.2.2.2.2.2.2.1 z.2.2.2.2.2.2.2) N (enc M1, dg1, bd1, vo1, bv1, he1, tn1, (0 : Int32)) = some r ∧ itr (fun z => fX12_tryWorth_l63b N (fX12_tryWorth N d) (nI n) gr ls ss row (nI k) (nI x) (nI (w k)) (nI p) z.1 z.2.1 z.2.2.1 z.2.2.2) N (enc M1, nw, sv1, (0 : Int32)) = some q ∧ ∃ M2, r.1 = enc M2 ∧ q.1 = enc M2 ∧ MI T A k n (w k) w lo sh rF now0 dgB voB dg rc r.2.1 r.2.2.2.1 r.2.2.2.2.2.1 r.2.2.2.2.2.2 q.2.1 M2 r.2.2.1 r.2.2.2.2.1 q.2.2 := by
              refine itr_inv2 (fun (v : Nat) (z : Int32 × (Nat → Int32) × (Nat → Int32) × (Nat → Int32) × (Nat → Int32) × (Nat → Int32) × (Nat → Int32) × Int32) (y : Int32 × (Nat → Int32) × (Nat → Int32) × Int32) => z.2.2.2.2.2.2.2 = nI v ∧ y.2.2.2 = nI v ∧ ∃ M2, z.1 = enc M2 ∧ y.1 = enc M2 ∧ MI T A k n (w k) w lo sh rF now0 dgB voB dg rc z.2.1 z.2.2.2.1 z.2.2.2.2.2.1 z.2.2.2.2.2.2.1 y.2.1 M2 z.2.2.1 z.2.2.2.2.1 y.2.2.1) (fun (r : Int32 × (Nat → Int32) × (Nat → Int32) × (Nat → Int32) × (Nat → Int32) × (Nat → Int32) × (Nat → Int32)) (q : Int32 × (Nat → Int32) × (Nat → Int32)) => ∃ M2, r.1 = enc M2 ∧ q.1 = enc M2 ∧ MI T A k n (w k) w lo sh rF now0 dgB voB dg rc r.2.1 r.2.2.2.1 r.2.2.2.2.2.1 r.2.2.2.2.2.2 q.2.1 M2 r.2.2.1 r.2.2.2.2.1 q.2.2) (b := 4) (by omega) ⟨rfl, rfl, M1, rfl, rfl, hI⟩ ?_ ?_
              · rintro v ⟨a, dg2, bd2, vo2, bv2, he2, tn2, y⟩ ⟨a', nv, sv2, y'⟩ hv4 ⟨hy, hy', M2, ha, ha', hI2⟩
                have hy : y = nI v := hy
                subst hy
                have hy' : y' = nI v := hy'
                subst hy'
                have ha : a = enc M2 := ha
                subst ha
                have ha' : a' = enc M2 := ha'
                subst ha'
                have hI2 : MI T A k n (w k) w lo sh rF now0 dgB voB dg rc dg2 vo2 he2 tn2 nv M2 bd2 bv2 sv2 := hI2
                obtain ⟨⟨K2, X2, H2, F2, U2⟩, OB2, PR2, B2, BT2⟩ := hI2
                have hu : dg2 (w k) = -1 := U2 k (Nat.le_refl k) hkn
                have W2 : WS T dg2 lo sh := WS_of (IS1x_take (w := 0) X2 hu) hlo hF
                have hstep := mostStep (N := N) (n := n) (v1 := nI k) (v2 := nI x) (mw := enc M2) (sv := sv2) (ls := ls) (ss := ss) (row := row) (rcf := fX12_tryWorth N d) (IR1_K h K2) htT hp hv4
                obtain ⟨dg3, vo3, he3, tn3, r, e3, H3, F3, hor⟩ := putRightly_e (N := N) (ot := 0) (sd := sd) (sv := sw) (v := v) (sk := fun _ _ _ => false) hN' h hF htT hp W2 H2 hu F2 rfl
                show ∃ s' t', fX6_mostFrom_l54b N (fX6_mostFrom N d) (nI n) 0 wa (nI T) (nI P) (nI A) rF rP sd sw rc lo sh (nI k) (nI x) (nI (w k)) (nI p) (enc M2) dg2 bd2 vo2 bv2 he2 tn2 (nI v) = some (.inl s') ∧ fX12_tryWorth_l63b N (fX12_tryWorth N d) (nI n) gr ls ss row (nI k) (nI x) (nI (w k)) (nI p) (enc M2) nv sv2 (nI v) = some (.inl t') ∧ _
                rw [hstep]
                unfold fX6_mostFrom_l54b
                rw [if_neg (show ¬ (4 : Int32) ≤ nI v from nI_ge (b := 4) hv4 (by decide)), bind_e e3]
                have hs2 := IS1x_put (d := rP p) (v := nI v) X2 htT ⟨pd, hpd, epd⟩ ⟨v, hv4, rfl⟩
                have up2 : ∀ j, k + 1 ≤ j → j < n → upd dg2 (w k) (rP p) (w j) = -1 := fun j hj1 hj2 => by
                  rw [pk_un (Ne.symm (hne k j (by omega) hj2))]
                  exact U2 j (by omega) hj2
                rcases hor with ⟨hr1, hc, hd3, hv3⟩ | ⟨hr0, hor, hd3, hv3⟩
                · subst hr1
                  subst hd3
                  subst hv3
                  obtain ⟨dg4, vo4, he4, tn4, nw4, bd4, bv4, sv4, M4, e4, e4', K4, S4, F4, U4, OB4, PR4, B4, BT4, -⟩ := lm_e (P := P) (sd := sd) (sw := sw) (dgB := dgB) (voB := voB) hN h hF hlo hls hn hw hne hr hwa d (k + 1) _ _ he3 tn3 (upd (upd nv (340 + 2 * w k) (rP p)) (341 + 2 * w k) (nI v)) bd2 bv2 sv2 M2 (x + wt rF (w k)) (by omega) (by omega) (K0_put K2 (show w k < 16 by omega)) ⟨hs2, hlo, H3⟩ F3 up2 (OB_upd OB2 hkn) B2 (by omega) BT2
                  have W4 := WS_of S4.1 hlo hF
                  rw [if_pos hc, if_neg (show ¬ (1 : Int32) = 0 by decide), bind_e (told_x (w := 7) (c := 7) rfl (by omega) (by decide) rF), nI_1 k, (wt_e hF htT).1, nI_add, bind_e e4, bind_e e4']
                  refine ⟨(enc M4, upd dg4 (w k) (-1), bd4, upd vo4 (w k) (-1), bv4, mH (-1) dg4 vo4 lo sh rc (w k) he4 T, mN (-1) A dg4 vo4 rc (w k) tn4 T, nI (v + 1)), (enc M4, nw4, sv4, nI (v + 1)), ?_, rfl, rfl, rfl, M4, rfl, rfl, ⟨K4, IS1x_less S4.1, IH_take htT hT S4.2.2, fw_less hT hF W4 F4, fun j hj1 hj2 => ?_⟩, OB_upd OB4 hkn, fun j hj => ?_, B4, BT4⟩
                  · rw [bind_e (take_e hN' hT hA htT W4), bnd_e, nI_1]
                  · show upd dg4 (w k) (-1) (w j) = -1
                    by_cases q : w j = w k
                    · rw [q, pk_us]
                    · rw [pk_un q]
                      exact U4 j (by
                        by_cases y : j = k
                        · exact absurd (by rw [y]) q
                        · omega) hj2
                  · show upd dg4 (w k) (-1) (w j) = dg (w j)
                    rw [pk_un (hne j k hj hkn), PR4 j (by omega), pk_un (hne j k hj hkn)]
                    exact PR2 j hj
                · subst hr0
                  subst hd3
                  have OB3 : OB n w dgB voB dg3 vo3 := fun s hs => ⟨(OB2 s hs).1, by rw [hv3 s (hs k hkn)]; exact (OB2 s hs).2⟩
                  rw [if_pos (show (0 : Int32) = 0 from rfl), bnd_e, nI_1]
                  rcases hor with hc | hbad
                  · rw [if_neg (by rw [hc]; decide)]
                    exact ⟨(enc M2, dg3, bd2, vo3, bv2, he3, tn3, nI (v + 1)), (enc M2, nv, sv2, nI (v + 1)), rfl, rfl, rfl, rfl, M2, rfl, rfl, ⟨K2, IS1x_vo X2 hv3, H3, F3, U2⟩, OB3, PR2, B2, BT2⟩
                  · by_cases hc : can rF rP (fun _ _ _ => false) (w k) p v = true
                    · obtain ⟨now3, e4, K4, S4⟩ := dm_e (P := P) hN' h hF hlo hls hn hw hne hr d (k + 1) _ (upd dg3 (w k) (rP p)) (upd vo2 (w k) (nI v)) sv2 M2 (x + wt rF (w k)) (by omega) (by omega) (K0_put K2 (show w k < 16 by omega)) hs2 (Or.inl hbad) B2 (by omega) up2
                      rw [if_pos hc, nI_1 k, (wt_e hF htT).1, nI_add, bind_e e4]
                      exact ⟨(enc M2, dg3, bd2, vo3, bv2, he3, tn3, nI (v + 1)), (enc M2, now3, sv2, nI (v + 1)), rfl, rfl, rfl, rfl, M2, rfl, rfl, ⟨K4, IS1x_vo (IS1x_of S4) hv3, H3, F3, U2⟩, OB3, PR2, B2, BT2⟩
                    · rw [if_neg hc]
                      exact ⟨(enc M2, dg3, bd2, vo3, bv2, he3, tn3, nI (v + 1)), (enc M2, nv, sv2, nI (v + 1)), rfl, rfl, rfl, rfl, M2, rfl, rfl, ⟨K2, IS1x_vo X2 hv3, H3, F3, U2⟩, OB3, PR2, B2, BT2⟩
              · rintro ⟨a, dg2, bd2, vo2, bv2, he2, tn2, y⟩ ⟨a', nv, sv2, y'⟩ ⟨hy, hy', hM2⟩
                have hy : y = nI 4 := hy
                subst hy
                have hy' : y' = nI 4 := hy'
                subst hy'
                refine ⟨(a, dg2, bd2, vo2, bv2, he2, tn2), (a', nv, sv2), ?_, ?_, hM2⟩
                · show fX6_mostFrom_l54b N (fX6_mostFrom N d) (nI n) 0 wa (nI T) (nI P) (nI A) rF rP sd sw rc lo sh (nI k) (nI x) (nI (w k)) (nI p) a dg2 bd2 vo2 bv2 he2 tn2 (nI 4) = _
                  unfold fX6_mostFrom_l54b
                  rw [if_pos (show (4 : Int32) ≤ nI 4 from nI_le (a := 4) (Nat.le_refl 4) (by decide))]
                · show fX12_tryWorth_l63b N (fX12_tryWorth N d) (nI n) gr ls ss row (nI k) (nI x) (nI (w k)) (nI p) a' nv sv2 (nI 4) = _
                  unfold fX12_tryWorth_l63b
                  rw [if_pos (show (4 : Int32) ≤ nI 4 from nI_le (a := 4) (Nat.le_refl 4) (by decide))]
            obtain ⟨⟨a, dg2, bd2, vo2, bv2, he2, tn2⟩, ⟨a', nv, sv2⟩, e1, e2, hM2⟩ := inner
            refine ⟨(a, dg2, bd2, vo2, bv2, he2, tn2, nI (p + 1)), (a', nv, sv2, nI (p + 1)), ?_, ?_, rfl, rfl, hM2⟩
            · show fX6_mostFrom_l39b N (fX6_mostFrom N d) (nI n) 0 wa (nI T) (nI P) (nI A) rF rP sd sw rc lo sh (nI k) (nI x) (nI (w k)) (enc M1) dg1 bd1 vo1 bv1 he1 tn1 (nI p) = _
              unfold fX6_mostFrom_l39b
              rw [if_neg (nI_ge hp (by omega)), bind_e e1, bnd_e, nI_1]
            · show fX12_tryWorth_l49b N (fX12_tryWorth N d) (nI n) gr ls ss row (nI k) (nI x) (nI (w k)) (enc M1) nw sv1 (nI p) = _
              unfold fX12_tryWorth_l49b
              rw [gdi_e (i := 2) (n := 380) 2 rfl (by decide) (by decide), show nw ((2 : Int32).toNatClampNeg) = nI P from (IR1_K h hI.1.1).2.2.1.2.2.1, if_neg (nI_ge hp (by omega)), bind_e e2, bnd_e, nI_1]
          · rintro ⟨a, dg2, bd2, vo2, bv2, he2, tn2, y⟩ ⟨a', nv, sv2, y'⟩ ⟨hy, hy', hM2⟩
            have hy : y = nI P := hy
            subst hy
            have hy' : y' = nI P := hy'
            subst hy'
            refine ⟨(a, dg2, bd2, vo2, bv2, he2, tn2), (a', nv, sv2), ?_, ?_, hM2⟩
            · show fX6_mostFrom_l39b N (fX6_mostFrom N d) (nI n) 0 wa (nI T) (nI P) (nI A) rF rP sd sw rc lo sh (nI k) (nI x) (nI (w k)) a dg2 bd2 vo2 bv2 he2 tn2 (nI P) = _
              unfold fX6_mostFrom_l39b
              rw [if_pos (nI_le (Nat.le_refl P) (by omega))]
            · obtain ⟨M2, -, -, hI2⟩ := hM2
              show fX12_tryWorth_l49b N (fX12_tryWorth N d) (nI n) gr ls ss row (nI k) (nI x) (nI (w k)) a' nv sv2 (nI P) = _
              unfold fX12_tryWorth_l49b
              rw [gdi_e (i := 2) (n := 380) 2 rfl (by decide) (by decide), show nv ((2 : Int32).toNatClampNeg) = nI P from (IR1_K h hI2.1.1).2.2.1.2.2.1, if_pos (nI_le (Nat.le_refl P) (by omega))]
        obtain ⟨⟨a, dg2, bd2, vo2, bv2, he2, tn2⟩, ⟨a', nv, sv2⟩, e1, e2, M2, ha, ha', ⟨K2, X2, H2, F2, U2⟩, OB2, PR2, B2, BT2⟩ := outer
        have ha : a = enc M2 := ha
        subst ha
        have ha' : a' = enc M2 := ha'
        subst ha'
        have U2 : ∀ j, k ≤ j → j < n → dg2 (w j) = -1 := U2
        have PR2 : ∀ j, j < k → dg2 (w j) = dg (w j) := PR2
        have X2 : IS1x T (w k) dg2 vo2 nv := X2
        have hu := U2 k (Nat.le_refl k) hkn
        obtain ⟨dg4, vo4, he4, tn4, nw4, bd4, bv4, sv4, M4, e4, e4', K4, S4, F4, U4, OB4, PR4, B4, BT4, L4⟩ := lm_e (P := P) (sd := sd) (sw := sw) (dgB := dgB) (voB := voB) hN h hF hlo hls hn hw hne hr hwa d (k + 1) dg2 vo2 he2 tn2 (upd (upd nv (340 + 2 * w k) (-1)) (341 + 2 * w k) 0) bd2 bv2 sv2 M2 x (by omega) (by omega) (K0_put K2 (show w k < 16 by omega)) ⟨IS1x_take X2 hu, hlo, H2⟩ F2 (fun j hj1 hj2 => U2 j (by omega) hj2) OB2 B2 (by omega) BT2
        refine ⟨dg4, vo4, he4, tn4, nw4, bd4, bv4, sv4, M4, ?_, ?_, K4, S4, F4, fun j hj1 hj2 => ?_, OB4, fun j hj => ?_, B4, BT4, L4⟩
        · rw [bind_e e1, nI_1]
          show (fX6_mostFrom N d (nI n) 0 (enc M2) wa (nI T) (nI P) (nI A) rF dg2 bd2 vo2 bv2 rP sd sw rc he2 lo sh tn2 (nI (k + 1)) (nI x)).bind _ = _
          rw [bind_e e4]
        · rw [bind_e e2]
          show (fX12_put nv (nI (w k)) (-1) 0).bind _ = _
          rw [bind_e (putM_e (by omega) nv (-1) 0), nI_1]
          show (fX12_tryWorth N d (nI n) (enc M2) (upd (upd nv (340 + 2 * w k) (-1)) (341 + 2 * w k) 0) gr ls ss sv2 row (nI (k + 1)) (nI x)).bind _ = _
          rw [bind_e e4']
        · by_cases q : j = k
          · rw [q, PR4 k (by omega), hu]
          · exact U4 j (by omega) hj2
        · rw [PR4 j (by omega), PR2 j hj]

/-! SHORTEST: both searches, step by step -/
theorem itr_inv2 {σ ρ τ υ : Type} {body : σ → Option (σ ⊕ ρ)} {bod2 : τ → Option (τ ⊕ υ)} (I : Nat → σ → τ → Prop) (Q : ρ → υ → Prop) {b n : Nat} {s : σ} {t : τ} (hn : b < n) (h0 : I 0 s t) (hs : ∀ i s t, i < b → I i s t → ∃ s' t', body s = some (.inl s') ∧ bod2 t = some (.inl t') ∧ I (i + 1) s' t') (he : ∀ s t, I b s t → ∃ r q, body s = some (.inr r) ∧ bod2 t = some (.inr q) ∧ Q r q) : ∃ r q, itr body n s = some r ∧ itr bod2 n t = some q ∧ Q r q := by
  have key : ∀ (d i n : Nat) (s : σ) (t : τ), i + d = b → d < n → I i s t → ∃ r q, itr body n s = some r ∧ itr bod2 n t = some q ∧ Q r q := by
    intro d
    induction d with
    | zero =>
      intro i n s t hi hn h
      obtain ⟨k, rfl⟩ : ∃ k, n = k + 1 := ⟨n - 1, by omega⟩
      have e : i = b := by omega
      subst e
      obtain ⟨r, q, e1, e2, e3⟩ := he s t h
      refine ⟨r, q, ?_, ?_, e3⟩
      · unfold itr
        rw [e1]
      · unfold itr
        rw [e2]
    | succ d ih =>
      intro i n s t hi hn h
      obtain ⟨k, rfl⟩ : ∃ k, n = k + 1 := ⟨n - 1, by omega⟩
      obtain ⟨s', t', e1, e2, e3⟩ := hs i s t (by omega) h
      unfold itr
      rw [e1, e2]
      exact ih (i + 1) k s' t' (by omega) (by omega) e3
  exact key b 0 n s t (by omega) hn h0
theorem bz_e {m j : Nat} (hm : m < 2 ^ 31) (hj : j < 31) : ((nI m >>> (nI j &&& 31)) &&& 1 = 0) ↔ m.testBit j = false := by
  have h := hv_bit hm hj
  unfold hv at h
  constructor
  · intro e
    rw [if_pos e] at h
    cases q : m.testBit j with
    | false => rfl
    | true =>
      rw [q, if_pos rfl] at h
      exact absurd h (by decide)
  · intro e
    rw [e, if_neg (show ¬ false = true by decide)] at h
    by_cases c : (nI m >>> (nI j &&& 31)) &&& 1 = 0
    · exact c
    · rw [if_neg c] at h
      exact absurd h (by decide)
/-- what the class has found, against what the reference has: the class only looks below b0 -/
def RLS (n b0 bv : Nat) (aL : Int32) (an : Nat → Int32) (M : Option Nat) (be : Nat → Int32) : Prop := (bv = b0 ∧ ∀ m, M = some m → b0 ≤ m) ∨ (bv < b0 ∧ M = some bv ∧ aL = nI n ∧ ∀ j, j < n → an j = be j)
def LST (N n d k b0 A : Nat) (u : Nat → Nat) (rc : Nat → Int64) (rF so row ne : Nat → Int32) : Prop := ∀ (o : Nat → Nat) (aL : Int32) (bv : Nat) (sp od an : Nat → Int32) (M : Option Nat) (al om be : Nat → Int32), k ≤ n → n + 1 ≤ k + d → unl n o k → (∀ i, i < k → od i = nI (u (o i))) → (∀ i, i < k → sp i = nI (spn (fun a b => ndN A rF rc (u a) (u b)) o i)) → (∀ i, i < k → om i = nI (o i)) → (∀ i, i < k → al i = nI (spn (fun a b => ndN A rF rc (u a) (u b)) o i)) → (∀ m, M = some m → m ≤ 100000) → RLS n b0 bv aL an M be → (0 < k → spn (fun a b => ndN A rF rc (u a) (u b)) o (k - 1) < bv) → ∃ (aL2 : Int32) (bv2 : Nat) (sp2 od2 an2 : Nat → Int32) (M2 : Option Nat) (al2 om2 be2 : Nat → Int32), fX2_tryOrders N d aL (nI n) (nI bv) sp od an so (nI A) rc rF (nI k) (nI (stN o k)) = some (aL2, nI bv2, sp2, od2, an2) ∧ fX12_tryOrder N d (nI n) (enc M) al om row be ne (nI k) (nI (stN o k)) = some (enc M2, al2, om2, be2) ∧ RLS n b0 bv2 aL2 an2 M2 be2 ∧ (∀ m, M2 = some m → m ≤ 100000) ∧ (∀ i, i < k → od2 i = od i) ∧ (∀ i, i < k → sp2 i = sp i) ∧ (∀ i, i < k → om2 i = om i) ∧ (∀ i, i < k → al2 i = al i)
theorem RLS_bv {n b0 bv : Nat} {aL : Int32} {an be : Nat → Int32} {M : Option Nat} (h : RLS n b0 bv aL an M be) : bv ≤ b0 := by
  rcases h with h | h
  · exact Nat.le_of_eq h.1
  · exact Nat.le_of_lt h.1
set_option maxHeartbeats 2000000 in
theorem ls_e {N T L n b0 A : Nat} {u : Nat → Nat} {rc : Nat → Int64} {rF so row ne : Nat → Int32} (hN : 16 < N) (hT : T ≤ 16) (hA : A ≤ 300) (hF : IF1 T L rF) (hn : n ≤ 7) (hn1 : 1 ≤ n) (hb0 : b0 ≤ 100000) (hu : ∀ k, k < n → u k < T) (hso : ∀ k, k < n → so k = nI (u k)) (hro : ∀ k, k < n → row k = nI (u k)) (hno : ∀ i j, i < n → j < n → i ≠ j → ¬ nd A rF rc (u i) (u j) = -1) (hd : ∀ i j, i < n → j < n → i ≠ j → ne (12 * i + j) = nI (ndN A rF rc (u i) (u j)) ∧ ndN A rF rc (u i) (u j) ≤ 1800) : ∀ d k, LST N n d k b0 A u rc rF so row ne
  | 0, k => by
    intro o aL bv sp od an M al om be h1 h2
    omega
  | d + 1, k => by
    intro o aL bv sp od an M al om be hk hkd hul hod hsp hom hal hM hR hlt
    have hsb : ∀ i, i < k → spn (fun a b => ndN A rF rc (u a) (u b)) o i ≤ 20000 := by
      intro i hi
      have := spn_bd (D := fun a b => ndN A rF rc (u a) (u b)) (o := o) (n := k) (fun a b g1 g2 => (hd _ _ (hul.1 a (by omega)) (hul.1 b g2) (hul.2 a b g1 g2)).2) hi
      omega
    have hbv := RLS_bv hR
    have inner : ∃ (aL2 : Int32) (bv2 : Nat) (sp2 od2 an2 : Nat → Int32) (M2 : Option Nat) (al2 om2 be2 : Nat → Int32), fX2_tryOrders_m N (fX2_tryOrders N d) aL (nI n) (nI bv) sp od an so (nI A) rc rF (nI k) (nI (stN o k)) = some (aL2, nI bv2, sp2, od2, an2) ∧ fX12_tryOrder_j28 N (fX12_tryOrder N d) (nI n) (enc M) al om row be ne (nI k) (nI (stN o k)) = some (enc M2, al2, om2, be2) ∧ RLS n b0 bv2 aL2 an2 M2 be2 ∧ (∀ m, M2 = some m → m ≤ 100000) ∧ (∀ i, i < k → od2 i = od i) ∧ (∀ i, i < k → sp2 i = sp i) ∧ (∀ i, i < k → om2 i = om i) ∧ (∀ i, i < k → al2 i = al i) := by
      unfold fX2_tryOrders_m fX12_tryOrder_j28
      by_cases c : k = n
      · subst c
        have hlt := hlt (by omega)
        have hs1 := hsb (k - 1) (by omega)
        obtain ⟨be2, e1, e2⟩ := leafM_e (N := N) (n := k) (rc := fX12_tryOrder N d) (le := nI (spn (fun a b => ndN A rF rc (u a) (u b)) o (k - 1))) (al := al) (od := om) (row := row) (be := be) (ne := ne) (o := o) hN hn hul.1 hom
        refine ⟨nI k, spn (fun a b => ndN A rF rc (u a) (u b)) o (k - 1), sp, od, va_cpy od an 0 0 k, some (spn (fun a b => ndN A rF rc (u a) (u b)) o (k - 1)), al, om, be2, ?_, ?_, Or.inr ⟨by omega, rfl, rfl, fun j hj => ?_⟩, fun m hm => ?_, fun i _ => rfl, fun i _ => rfl, fun i _ => rfl, fun i _ => rfl⟩
        · rw [if_neg (nI_nlt (Nat.le_refl k) (by omega)), show nI k - (1 : Int32) = nI (k - 1) from pk_sub (b := 1) hn1, gdi_nI (by omega) (by decide), bnd_e, nI_clamp (n := k - 1) (by omega), hsp (k - 1) (by omega), nI_clamp (n := k) (by omega)]
          unfold gdc
          rw [if_pos ⟨by decide, by decide, nI_nlt0 (by omega), by rw [nI_clamp (by omega)]; show 0 + k ≤ 7; omega, by rw [nI_clamp (by omega)]; show 0 + k ≤ 7; omega⟩, bnd_e]
          rfl
        · rw [if_pos rfl, show nI k - (1 : Int32) = nI (k - 1) from pk_sub (b := 1) hn1, gdi_nI (by omega) (by decide), bnd_e, nI_clamp (by omega), hal (k - 1) (by omega), bind_e e1]
          rfl
        · rw [cp_f od an j hj, hod j hj, e2 j hj, hro (o j) (hul.1 j hj)]
        · cases hm
          omega
      · have hkn : k < n := by omega
        rw [if_pos (nI_lt hkn (by omega)), if_neg (fun e => c ((nI_eq (by omega) (by omega)).mp e))]
        have key : ∃ r q, itr (fun z => fX2_tryOrders_l51b N (fX2_tryOrders N d) (nI n) so (nI A) rc rF (nI k) (nI (stN o k)) z.1 z.2.1 z.2.2.1 z.2.2.2.1 z.2.2.2.2.1 z.2.2.2.2.2) N (aL, nI bv, sp, od, an, (0 : Int32)) = some r ∧ itr (fun z => fX12_tryOrder_l81b N (fX12_tryOrder N d) (nI n) row ne (nI k) (nI (stN o k)) z.1 z.2.1 z.2.2.1 z.2.2.2.1 z.2.2.2.2) N (enc M, al, om, be, (0 : Int32)) = some q ∧ ∃ (bv2 : Nat) (M2 : Option Nat), r.2.1 = nI bv2 ∧ q.1 = enc M2 ∧ RLS n b0 bv2 r.1 r.2.2.2.2 M2 q.2.2.2 ∧ (∀ m, M2 = some m → m ≤ 100000) ∧ (∀ i, i < k → r.2.2.2.1 i = od i) ∧ (∀ i, i < k → r.2.2.1 i = sp i) ∧ (∀ i, i < k → q.2.2.1 i = om i) ∧ (∀ i, i < k → q.2.1 i = al i) := by
          refine itr_inv2 (fun (j : Nat) (r : Int32 × Int32 × (Nat → Int32) × (Nat → Int32) × (Nat → Int32) × Int32) (q : Int32 × (Nat → Int32) × (Nat → Int32) × (Nat → Int32) × Int32) => r.2.2.2.2.2 = nI j ∧ q.2.2.2.2 = nI j ∧ ∃ (bv2 : Nat) (M2 : Option Nat), r.2.1 = nI bv2 ∧ q.1 = enc M2 ∧ RLS n b0 bv2 r.1 r.2.2.2.2.1 M2 q.2.2.2.1 ∧ (∀ m, M2 = some m → m ≤ 100000) ∧ (∀ i, i < k → r.2.2.2.1 i = od i) ∧ (∀ i, i < k → r.2.2.1 i = sp i) ∧ (∀ i, i < k → q.2.2.1 i = om i) ∧ (∀ i, i < k → q.2.1 i = al i)) (fun (r : Int32 × Int32 × (Nat → Int32) × (Nat → Int32) × (Nat → Int32)) (q : Int32 × (Nat → Int32) × (Nat → Int32) × (Nat → Int32)) => ∃ (bv2 : Nat) (M2 : Option Nat), r.2.1 = nI bv2 ∧ q.1 = enc M2 ∧ RLS n b0 bv2 r.1 r.2.2.2.2 M2 q.2.2.2 ∧ (∀ m, M2 = some m → m ≤ 100000) ∧ (∀ i, i < k → r.2.2.2.1 i = od i) ∧ (∀ i, i < k → r.2.2.1 i = sp i) ∧ (∀ i, i < k → q.2.2.1 i = om i) ∧ (∀ i, i < k → q.2.1 i = al i)) (b := n) (by omega) ⟨rfl, rfl, bv, M, rfl, rfl, hR, hM, fun i _ => rfl, fun i _ => rfl, fun i _ => rfl, fun i _ => rfl⟩ ?_ ?_
          · rintro j ⟨ra, rb, rs, ro, rn, v⟩ ⟨zl, za, zo, zb, v2⟩ hj ⟨hv, hv2, b1, M1, hr, hz, g1, g2, g3, g4, g5, g6⟩
            have hv : v = nI j := hv
            subst hv
            have hv2 : v2 = nI j := hv2
            subst hv2
            have hr : rb = nI b1 := hr
            subst hr
            have hz : zl = enc M1 := hz
            subst hz
            have g1 : RLS n b0 b1 ra rn M1 zb := g1
            have g3 : ∀ i, i < k → ro i = od i := g3
            have g4 : ∀ i, i < k → rs i = sp i := g4
            have g5 : ∀ i, i < k → zo i = om i := g5
            have g6 : ∀ i, i < k → za i = al i := g6
            have hb1 := RLS_bv g1
            have hst : stN o k < 2 ^ 16 := stN_lt (fun i hi => by have := hul.1 i hi; omega)
            show ∃ s' t', fX2_tryOrders_l51b N (fX2_tryOrders N d) (nI n) so (nI A) rc rF (nI k) (nI (stN o k)) ra (nI b1) rs ro rn (nI j) = some (.inl s') ∧ fX12_tryOrder_l81b N (fX12_tryOrder N d) (nI n) row ne (nI k) (nI (stN o k)) (enc M1) za zo zb (nI j) = some (.inl t') ∧ _
            unfold fX2_tryOrders_l51b fX12_tryOrder_l81b
            rw [if_neg (nI_ge hj (by omega)), if_neg (nI_ge hj (by omega)), bind_e (hasM_e _ _), hv_bit (by omega) (by omega)]
            by_cases q : (stN o k).testBit j = true
            · rw [if_pos q, if_neg (show ¬ (1 : Int32) = 0 by decide), if_neg (fun e => by
                rw [(bz_e (by omega) (by omega)).mp e] at q
                exact absurd q (by decide)), bnd_e, bnd_e, nI_1]
              exact ⟨(ra, nI b1, rs, ro, rn, nI (j + 1)), (enc M1, za, zo, zb, nI (j + 1)), rfl, rfl, rfl, rfl, b1, M1, rfl, rfl, g1, g2, g3, g4, g5, g6⟩
            · have q' : (stN o k).testBit j = false := by
                cases e : (stN o k).testBit j with
                | false => rfl
                | true => exact absurd e q
              have hu2 := unl_nxt hul hj q'
              have huj := hu j hj
              obtain ⟨s1, s2⟩ := spanN_e (N := N) (x := j) (al := za) (od := zo) (o := o) hN hn hkn hd hu2 (fun i hi => (g5 i hi).trans (hom i hi)) (fun i hi => (g6 i hi).trans (hal i hi))
              have s3 := s2 k (by omega)
              have hcg : ∀ i, i < k → spn (fun a b => ndN A rF rc (u a) (u b)) o i = spn (fun a b => ndN A rF rc (u a) (u b)) (nxt o k j) i := fun i hi => spn_cong i i (Nat.le_refl i) (fun a ha => (nxt_n (by omega)).symm)
              have s4 : fX2_spotBehind N 7 ro (nI A) rc rF rs (nI k) (nI (u j)) = some (nI (spn (fun a b => ndN A rF rc (u a) (u b)) (nxt o k j) k)) := by
                have e := spotC_e (N := N) (k := k) (t := u j) (nq := 7) (q := ro) (sp := rs) (rF := rF) (rc := rc) (w := fun i => u (o i)) (s := spn (fun a b => ndN A rF rc (u a) (u b)) o) hN hT hA hF (by omega) (by omega) (by omega) huj (fun i hi => ⟨(g3 i hi).trans (hod i hi), hu _ (hul.1 i hi)⟩) (fun i hi => ⟨(g4 i hi).trans (hsp i hi), by have := hsb i hi; omega⟩)
                rw [e, if_neg (ff_no (fun i hi => decide_eq_false (by
                  have h1 := hu2.2 i k hi (by omega)
                  rw [nxt_k, nxt_n (by omega)] at h1
                  exact hno _ _ (hul.1 i hi) hj h1))), spn_e _ (nxt o k j) k]
                refine congrArg (fun z => some (nI z)) (mxs_cong (fun i hi => ?_))
                rw [hcg i hi, nxt_k, nxt_n (show i ≠ k by omega)]
              have zp1 : ∀ i, i < k + 1 → upd zo k (nI j) i = nI (nxt o k j i) := fun i hi => by
                by_cases w : i = k
                · rw [w, pk_us, nxt_k]
                · rw [pk_un w, nxt_n w, g5 i (by omega), hom i (by omega)]
              have zp2 : ∀ i, i < k + 1 → upd za k (nI (spn (fun a b => ndN A rF rc (u a) (u b)) (nxt o k j) k)) i = nI (spn (fun a b => ndN A rF rc (u a) (u b)) (nxt o k j) i) := fun i hi => by
                by_cases w : i = k
                · rw [w, pk_us]
                · rw [pk_un w, g6 i (by omega), hal i (by omega), hcg i (by omega)]
              rw [if_neg q, if_pos (show (0 : Int32) = 0 from rfl), if_pos ((bz_e (by omega) (by omega)).mpr q'), gdi_nI (k := j) (n := 7) (by omega) (by decide), nI_clamp (n := j) (by omega), hso j hj, bind_e s4, nI_clamp (n := k) (by omega)]
              by_cases c2 : b1 ≤ spn (fun a b => ndN A rF rc (u a) (u b)) (nxt o k j) k
              · rw [if_pos (nI_le c2 (by omega)), bnd_e, nI_1 j]
                have ref : ∃ (M2 : Option Nat) (al2 om2 be2 : Nat → Int32), fX12_tryOrder N d (nI n) (enc M1) (upd za k (nI (spn (fun a b => ndN A rF rc (u a) (u b)) (nxt o k j) k))) (upd zo k (nI j)) row zb ne (nI (k + 1)) (nI (stN (nxt o k j) (k + 1))) = some (enc M2, al2, om2, be2) ∧ RLS n b0 b1 ra rn M2 be2 ∧ (∀ m, M2 = some m → m ≤ 100000) ∧ (∀ i, i < k → om2 i = om i) ∧ (∀ i, i < k → al2 i = al i) := by
                  rcases g1 with ⟨y1, y2⟩ | ⟨y1, y2, y3, y4⟩
                  · obtain ⟨M2, al2, od2, be2, r1, r2, r3, r4, r5, r6, r7⟩ := rt_e (row := row) hN hn hn1 hd d (k + 1) (nxt o k j) M1 (upd za k (nI (spn (fun a b => ndN A rF rc (u a) (u b)) (nxt o k j) k))) (upd zo k (nI j)) zb (by omega) (by omega) hu2 zp1 zp2 g2
                    refine ⟨M2, al2, od2, be2, r1, Or.inl ⟨y1, fun m hm => ?_⟩, r2, fun i hi => ?_, fun i hi => ?_⟩
                    · rcases r6 (by omega) m hm with w | w
                      · exact y2 m w
                      · have w : spn (fun a b => ndN A rF rc (u a) (u b)) (nxt o k j) k ≤ m := w
                        omega
                    · rw [r3 i (by omega), pk_un (by omega), g5 i hi]
                    · rw [r4 i (by omega), pk_un (by omega), g6 i hi]
                  · obtain ⟨d', rfl⟩ : ∃ d', d = d' + 1 := ⟨d - 1, by omega⟩
                    refine ⟨M1, upd za k (nI (spn (fun a b => ndN A rF rc (u a) (u b)) (nxt o k j) k)), upd zo k (nI j), zb, ?_, Or.inr ⟨y1, y2, y3, y4⟩, g2, fun i hi => ?_, fun i hi => ?_⟩
                    · show fX12_tryOrder_m N (fX12_tryOrder N d') (nI n) (enc M1) (upd za k (nI (spn (fun a b => ndN A rF rc (u a) (u b)) (nxt o k j) k))) (upd zo k (nI j)) row zb ne (nI (k + 1)) (nI (stN (nxt o k j) (k + 1))) = _
                      unfold fX12_tryOrder_m
                      rw [y2, if_neg (show ¬ nI (k + 1) ≤ 0 from nI_ge (a := 0) (by omega) (by omega)), if_neg (show ¬ enc (some b1) = -1 from nI_m1 (by omega)), show nI (k + 1) - (1 : Int32) = nI (k + 1 - 1) from pk_sub (b := 1) (by omega), show k + 1 - 1 = k by omega, gdi_nI (by omega) (by decide), nI_clamp (by omega), pk_us, if_neg (show ¬ nI (spn (fun a b => ndN A rF rc (u a) (u b)) (nxt o k j) k) < enc (some b1) from nI_nlt c2 (by omega))]
                    · rw [pk_un (by omega), g5 i hi]
                    · rw [pk_un (by omega), g6 i hi]
                obtain ⟨M2, al2, om2, be2, f1, f2, f3, f4, f5⟩ := ref
                refine ⟨(ra, nI b1, rs, ro, rn, nI (j + 1)), (enc M2, al2, om2, be2, nI (j + 1)), rfl, ?_, rfl, rfl, b1, M2, rfl, rfl, f2, f3, g3, g4, f4, f5⟩
                rw [gdi_nI (k := k) (n := 12) (by omega) (by decide), bnd_e, bind_e s1, gdi_nI (k := k) (n := 12) (by omega) (by decide), bnd_e, nI_1 k, stN_nxt (by omega), bind_e f1, bnd_e]
              · obtain ⟨aL2, b2, sp2, od2, an2, M2, al2, om2, be2, r1, r2, r3, r4, r5, r6, r7, r8⟩ := ls_e (b0 := b0) (ne := ne) hN hT hA hF hn hn1 hb0 hu hso hro hno hd d (k + 1) (nxt o k j) ra b1 (upd rs k (nI (spn (fun a b => ndN A rF rc (u a) (u b)) (nxt o k j) k))) (upd ro k (nI (u j))) rn M1 (upd za k (nI (spn (fun a b => ndN A rF rc (u a) (u b)) (nxt o k j) k))) (upd zo k (nI j)) zb (by omega) (by omega) hu2 (fun i hi => by
                  by_cases w : i = k
                  · rw [w, pk_us, nxt_k]
                  · rw [pk_un w, nxt_n w, g3 i (by omega), hod i (by omega)]) (fun i hi => by
                  by_cases w : i = k
                  · rw [w, pk_us]
                  · rw [pk_un w, g4 i (by omega), hsp i (by omega), hcg i (by omega)]) zp1 zp2 g2 g1 (fun _ => by
                  show spn (fun a b => ndN A rF rc (u a) (u b)) (nxt o k j) k < b1
                  omega)
                rw [if_neg (nI_ge (by omega) (by omega))]
                refine ⟨(aL2, nI b2, sp2, od2, an2, nI (j + 1)), (enc M2, al2, om2, be2, nI (j + 1)), ?_, ?_, rfl, rfl, b2, M2, rfl, rfl, r3, r4, fun i hi => ?_, fun i hi => ?_, fun i hi => ?_, fun i hi => ?_⟩
                · rw [gdi_nI (k := k) (n := 12) (by omega) (by decide), bnd_e, gdi_nI (k := j) (n := 7) (by omega) (by decide), gdi_nI (k := k) (n := 7) (by omega) (by decide), bnd_e, nI_1 k, stN_nxt (by omega), bind_e r1, bnd_e, nI_1]
                · rw [gdi_nI (k := k) (n := 12) (by omega) (by decide), bnd_e, bind_e s1, gdi_nI (k := k) (n := 12) (by omega) (by decide), bnd_e, nI_1 k, stN_nxt (by omega), bind_e r2, bnd_e, nI_1]
                · show od2 i = od i
                  rw [r5 i (by omega), pk_un (by omega), g3 i hi]
                · show sp2 i = sp i
                  rw [r6 i (by omega), pk_un (by omega), g4 i hi]
                · show om2 i = om i
                  rw [r7 i (by omega), pk_un (by omega), g5 i hi]
                · show al2 i = al i
                  rw [r8 i (by omega), pk_un (by omega), g6 i hi]
          · rintro ⟨ra, rb, rs, ro, rn, v⟩ ⟨zl, za, zo, zb, v2⟩ ⟨hv, hv2, b1, M1, hr, hz, g⟩
            have hv : v = nI n := hv
            subst hv
            have hv2 : v2 = nI n := hv2
            subst hv2
            refine ⟨(ra, rb, rs, ro, rn), (zl, za, zo, zb), ?_, ?_, b1, M1, hr, hz, g⟩
            · show fX2_tryOrders_l51b N (fX2_tryOrders N d) (nI n) so (nI A) rc rF (nI k) (nI (stN o k)) ra rb rs ro rn (nI n) = _
              unfold fX2_tryOrders_l51b
              rw [if_pos (nI_le (Nat.le_refl n) (by omega))]
            · show fX12_tryOrder_l81b N (fX12_tryOrder N d) (nI n) row ne (nI k) (nI (stN o k)) zl za zo zb (nI n) = _
              unfold fX12_tryOrder_l81b
              rw [if_pos (nI_le (Nat.le_refl n) (by omega))]
        obtain ⟨⟨ra, rb, rs, ro, rn⟩, ⟨zl, za, zo, zb⟩, e1, e2, b1, M1, hr, hz, g⟩ := key
        have hr : rb = nI b1 := hr
        subst hr
        have hz : zl = enc M1 := hz
        subst hz
        exact ⟨ra, b1, rs, ro, rn, M1, za, zo, zb, by rw [bind_e e1], by rw [bind_e e2], g⟩
    obtain ⟨aL2, bv2, sp2, od2, an2, M2, al2, om2, be2, i1, i2, i3⟩ := inner
    refine ⟨aL2, bv2, sp2, od2, an2, M2, al2, om2, be2, i1, ?_, i3⟩
    show fX12_tryOrder_m N (fX12_tryOrder N d) (nI n) (enc M) al om row be ne (nI k) (nI (stN o k)) = _
    unfold fX12_tryOrder_m
    by_cases c0 : k = 0
    · rw [if_pos (show nI k ≤ 0 by rw [c0]; exact nI_le (b := 0) (Nat.le_refl 0) (by decide))]
      exact i2
    · rw [if_neg (show ¬ nI k ≤ 0 from nI_ge (a := 0) (by omega) (by omega))]
      cases hM0 : M with
      | none =>
        rw [hM0] at i2
        rw [show enc none = -1 from rfl, if_pos rfl]
        exact i2
      | some m0 =>
        rw [hM0] at i2 hR
        have hm0 := hM m0 hM0
        have hlt := hlt (by omega)
        have hml : spn (fun a b => ndN A rF rc (u a) (u b)) o (k - 1) < m0 := by
          rcases hR with ⟨y1, y2⟩ | ⟨y1, y2, -⟩
          · have := y2 m0 rfl
            omega
          · cases y2
            exact hlt
        rw [if_neg (show ¬ enc (some m0) = -1 from nI_m1 (by omega)), show nI k - (1 : Int32) = nI (k - 1) from pk_sub (b := 1) (by omega), gdi_nI (by omega) (by decide), nI_clamp (by omega), hal (k - 1) (by omega), if_pos (show nI (spn (fun a b => ndN A rF rc (u a) (u b)) o (k - 1)) < enc (some m0) from nI_lt hml (by omega))]
        exact i2

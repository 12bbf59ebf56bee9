/-! SHORTEST: the reference's search -/
def spn (D : Nat → Nat → Nat) (o : Nat → Nat) (j : Nat) : Nat := alA (fun a b => D (o a) (o b)) (j + 1) j
theorem alA_st {d : Nat → Nat → Nat} : ∀ {m j : Nat}, j < m → alA d m j = alA d (j + 1) j
  | 0, j, h => absurd h (Nat.not_lt_zero j)
  | m + 1, j, h => by
    by_cases q : j = m
    · rw [q]
    · have e : alA d (m + 1) j = alA d m j := if_neg q
      rw [e]
      exact alA_st (by omega)
theorem spn_e (D : Nat → Nat → Nat) (o : Nat → Nat) (j : Nat) : spn D o j = mxs (fun k => spn D o k + D (o k) (o j)) j := by
  have e : spn D o j = mxs (fun k => alA (fun a b => D (o a) (o b)) j k + D (o k) (o j)) j := if_pos rfl
  rw [e]
  exact mxs_cong (fun k hk => by rw [alA_st hk]; rfl)
theorem spn_cong {D : Nat → Nat → Nat} {o q : Nat → Nat} : ∀ (b j : Nat), j ≤ b → (∀ i, i ≤ j → o i = q i) → spn D o j = spn D q j
  | 0, j, hj, h => by
    have e : j = 0 := by omega
    subst e
    rw [spn_e, spn_e]
    rfl
  | b + 1, j, hj, h => by
    rw [spn_e, spn_e]
    refine mxs_cong (fun k hk => ?_)
    rw [spn_cong b k (by omega) (fun i hi => h i (by omega)), h k (by omega), h j (Nat.le_refl j)]
theorem spn_mono {D : Nat → Nat → Nat} {o : Nat → Nat} {i j : Nat} (h : i < j) : spn D o i ≤ spn D o j := by
  rw [spn_e D o j]
  have := mxs_ge (f := fun k => spn D o k + D (o k) (o j)) h
  have : spn D o i + D (o i) (o j) ≤ mxs (fun k => spn D o k + D (o k) (o j)) j := this
  omega
theorem spn_bd {D : Nat → Nat → Nat} {o : Nat → Nat} {n : Nat} (h : ∀ i j, i < j → j < n → D (o i) (o j) ≤ 1800) {j : Nat} (hj : j < n) : spn D o j ≤ 1800 * j := alA_le (d := fun a b => D (o a) (o b)) (m := n) h (j + 1) (by omega) j (Nat.lt_succ_self j)
def nxt (o : Nat → Nat) (k x : Nat) : Nat → Nat := fun i => if i = k then x else o i
theorem nxt_k {o : Nat → Nat} {k x : Nat} : nxt o k x k = x := if_pos rfl
theorem nxt_n {o : Nat → Nat} {k x i : Nat} (h : i ≠ k) : nxt o k x i = o i := if_neg h
theorem stN_cong {o q : Nat → Nat} : ∀ {k : Nat}, (∀ i, i < k → o i = q i) → stN o k = stN q k
  | 0, _ => rfl
  | k + 1, h => by
    show stN o k ||| 2 ^ o k = stN q k ||| 2 ^ q k
    rw [stN_cong (fun i hi => h i (by omega)), h k (Nat.lt_succ_self k)]
theorem stN_nxt {o : Nat → Nat} {k x : Nat} (hx : x < 16) : nI (stN o k) ||| ((1 : Int32) <<< (nI x &&& 31)) = nI (stN (nxt o k x) (k + 1)) := by
  rw [sl_e x hx, fa_or]
  show _ = nI (stN (nxt o k x) k ||| 2 ^ nxt o k x k)
  rw [nxt_k, stN_cong (o := nxt o k x) (q := o) (fun i hi => nxt_n (by omega))]
/-- unlike numbers below n -/
def unl (n : Nat) (o : Nat → Nat) (k : Nat) : Prop := (∀ i, i < k → o i < n) ∧ ∀ i j, i < j → j < k → o i ≠ o j
theorem unl_nxt {n k x : Nat} {o : Nat → Nat} (h : unl n o k) (hx : x < n) (hb : (stN o k).testBit x = false) : unl n (nxt o k x) (k + 1) := by
  rw [stN_bit] at hb
  have hno : ¬ fa_first (fun j => decide (o j = x)) k < k := of_decide_eq_false hb
  refine ⟨fun i hi => ?_, fun i j hij hj => ?_⟩
  · by_cases q : i = k
    · rw [q, nxt_k]
      exact hx
    · rw [nxt_n q]
      exact h.1 i (by omega)
  · rw [nxt_n (show i ≠ k by omega)]
    by_cases q : j = k
    · rw [q, nxt_k]
      intro e
      exact hno (ff_yes (show i < k by omega) (decide_eq_true e))
    · rw [nxt_n q]
      exact h.2 i j hij (by omega)
theorem free_of {n k : Nat} {o c : Nat → Nat} (hc : unl n c n) (hk : k < n) (hp : ∀ i, i < k → c i = o i) : (stN o k).testBit (c k) = false := by
  rw [stN_bit, decide_eq_false]
  exact ff_no (fun i hi => decide_eq_false (fun e => hc.2 i k hi hk ((hp i hi).trans e)))
def ltO (M : Option Nat) (x : Nat) : Prop := ∃ m, M = some m ∧ m ≤ x
/-- what the reference's search brings: total, never worse, no order behind this beginning is better -/
def RT (N n d k : Nat) (D : Nat → Nat → Nat) (row ne : Nat → Int32) : Prop := ∀ (o : Nat → Nat) (M : Option Nat) (al od be : Nat → Int32), k ≤ n → n + 1 ≤ k + d → unl n o k → (∀ i, i < k → od i = nI (o i)) → (∀ i, i < k → al i = nI (spn D o i)) → (∀ m, M = some m → m ≤ 100000) → ∃ (M2 : Option Nat) (al2 od2 be2 : Nat → Int32), fX12_tryOrder N d (nI n) (enc M) al od row be ne (nI k) (nI (stN o k)) = some (enc M2, al2, od2, be2) ∧ (∀ m, M2 = some m → m ≤ 100000) ∧ (∀ i, i < k → od2 i = od i) ∧ (∀ i, i < k → al2 i = al i) ∧ (∀ m, M = some m → ltO M2 m) ∧ (0 < k → ∀ m, M2 = some m → M = some m ∨ spn D o (k - 1) ≤ m) ∧ ∀ c, unl n c n → (∀ i, i < k → c i = o i) → ltO M2 (spn D c (n - 1))
theorem leafM_e {N n : Nat} {rc : Int32 → Int32 → (Nat → Int32) → (Nat → Int32) → (Nat → Int32) → (Nat → Int32) → (Nat → Int32) → Int32 → Int32 → Option (Int32 × (Nat → Int32) × (Nat → Int32) × (Nat → Int32))} {le : Int32} {al od row be ne : Nat → Int32} {o : Nat → Nat} (hN : 16 < N) (hn : n ≤ 7) (ho : ∀ i, i < n → o i < n) (hod : ∀ i, i < n → od i = nI (o i)) : ∃ be2, itr (fun z => fX12_tryOrder_l50b N rc (nI n) le al od row ne (nI n) z.1 z.2) N (be, (0 : Int32)) = some be2 ∧ ∀ j, j < n → be2 j = row (o j) := by
  refine itr_inv (fun (i : Nat) (z : (Nat → Int32) × Int32) => z.2 = nI i ∧ ∀ j, j < i → z.1 j = row (o j)) (fun (r : Nat → Int32) => ∀ j, j < n → r j = row (o j)) (b := n) (by omega) ⟨rfl, fun j hj => absurd hj (Nat.not_lt_zero j)⟩ ?_ ?_
  · rintro i ⟨f, v⟩ hi ⟨hv, hf⟩
    have hv : v = nI i := hv
    subst hv
    have hf : ∀ j, j < i → f j = row (o j) := hf
    have hoi := ho i hi
    refine ⟨(upd f i (row (o i)), nI (i + 1)), ?_, rfl, fun j hj => ?_⟩
    · show fX12_tryOrder_l50b N rc (nI n) le al od row ne (nI n) f (nI i) = _
      unfold fX12_tryOrder_l50b
      rw [if_neg (nI_ge hi (by omega)), gdi_nI (k := i) (by omega) (by decide), nI_clamp (n := i) (by omega), hod i hi, gdi_nI (k := o i) (by omega) (by decide), nI_clamp (n := o i) (by omega), gdi_nI (k := i) (by omega) (by decide), bnd_e, bnd_e, nI_1]
    · show upd f i (row (o i)) j = _
      by_cases q : j = i
      · rw [q, pk_us]
      · rw [pk_un q]
        exact hf j (by omega)
  · rintro ⟨f, v⟩ ⟨hv, hf⟩
    have hv : v = nI n := hv
    subst hv
    refine ⟨f, ?_, hf⟩
    show fX12_tryOrder_l50b N rc (nI n) le al od row ne (nI n) f (nI n) = _
    unfold fX12_tryOrder_l50b
    rw [if_pos (nI_le (Nat.le_refl n) (by omega))]
theorem spanN_e {N n k x : Nat} {al od ne : Nat → Int32} {o : Nat → Nat} {D : Nat → Nat → Nat} (hN : 16 < N) (hn : n ≤ 7) (hk : k < n) (hd : ∀ i j, i < n → j < n → i ≠ j → ne (12 * i + j) = nI (D i j) ∧ D i j ≤ 1800) (hu : unl n (nxt o k x) (k + 1)) (hod : ∀ i, i < k → od i = nI (o i)) (hal : ∀ i, i < k → al i = nI (spn D o i)) : fX12_spanOf N 12 al (upd od k (nI x)) ne (nI k) = some (nI (spn D (nxt o k x) k)) ∧ ∀ i, i < k + 1 → spn D (nxt o k x) i ≤ 20000 := by
  have hb : ∀ i, i < k + 1 → spn D (nxt o k x) i ≤ 20000 := by
    intro i hi
    have := spn_bd (D := D) (o := nxt o k x) (n := k + 1) (fun a b h1 h2 => (hd _ _ (hu.1 a (by omega)) (hu.1 b h2) (hu.2 a b h1 h2)).2) hi
    omega
  have hc : ∀ i, i < k → spn D o i = spn D (nxt o k x) i := fun i hi => spn_cong i i (Nat.le_refl i) (fun j hj => (nxt_n (by omega)).symm)
  refine ⟨?_, hb⟩
  rw [spn_e]
  have e := spanM_e (N := N) (n := n) (k := k) (nq := 12) (al := al) (q := upd od k (nI x)) (ne := ne) (o := nxt o k x) (s := spn D (nxt o k x)) (d := D) hN (by omega) (by omega) (by omega) (fun i hi => ⟨by
    by_cases q : i = k
    · rw [q, pk_us, nxt_k]
    · rw [pk_un q, nxt_n q]
      exact hod i (by omega), hu.1 i (by omega)⟩) (fun i hi => ⟨by rw [hal i hi, hc i hi], by have := hb i (by omega); omega⟩) (fun i hi => hd _ _ (hu.1 i (by omega)) (hu.1 k (by omega)) (hu.2 i k hi (by omega)))
  exact e
theorem ltO_tr {M : Option Nat} {x y : Nat} (h : ltO M x) (hxy : x ≤ y) : ltO M y := by
  obtain ⟨m, e, hm⟩ := h
  exact ⟨m, e, by omega⟩
set_option maxHeartbeats 1000000 in
theorem rt_e {N n : Nat} {D : Nat → Nat → Nat} {row ne : Nat → Int32} (hN : 16 < N) (hn : n ≤ 7) (hn1 : 1 ≤ n) (hd : ∀ i j, i < n → j < n → i ≠ j → ne (12 * i + j) = nI (D i j) ∧ D i j ≤ 1800) : ∀ d k, RT N n d k D row ne
  | 0, k => by
    intro o M al od be h1 h2
    omega
  | d + 1, k => by
    intro o M al od be hk hkd hu hod hal hM
    have hsb : ∀ i, i < k → spn D o i ≤ 20000 := by
      intro i hi
      have := spn_bd (D := D) (o := o) (n := k) (fun a b g1 g2 => (hd _ _ (hu.1 a (by omega)) (hu.1 b g2) (hu.2 a b g1 g2)).2) hi
      omega
    have inner : (0 < k → ∀ m, M = some m → spn D o (k - 1) < m) → ∃ (M2 : Option Nat) (al2 od2 be2 : Nat → Int32), fX12_tryOrder_j28 N (fX12_tryOrder N d) (nI n) (enc M) al od row be ne (nI k) (nI (stN o k)) = some (enc M2, al2, od2, be2) ∧ (∀ m, M2 = some m → m ≤ 100000) ∧ (∀ i, i < k → od2 i = od i) ∧ (∀ i, i < k → al2 i = al i) ∧ (∀ m, M = some m → ltO M2 m) ∧ (0 < k → ∀ m, M2 = some m → M = some m ∨ spn D o (k - 1) ≤ m) ∧ ∀ c, unl n c n → (∀ i, i < k → c i = o i) → ltO M2 (spn D c (n - 1)) := by
      intro hlt
      unfold fX12_tryOrder_j28
      by_cases c : k = n
      · subst c
        obtain ⟨be2, e1, e2⟩ := leafM_e (N := N) (n := k) (rc := fX12_tryOrder N d) (le := nI (spn D o (k - 1))) (al := al) (od := od) (row := row) (be := be) (ne := ne) (o := o) hN hn hu.1 hod
        rw [if_pos rfl, show nI k - (1 : Int32) = nI (k - 1) from pk_sub (b := 1) hn1, gdi_nI (by omega) (by decide), bnd_e, nI_clamp (by omega), hal (k - 1) (by omega), bind_e e1]
        refine ⟨some (spn D o (k - 1)), al, od, be2, rfl, fun m hm => ?_, fun i _ => rfl, fun i _ => rfl, fun m hm => ⟨_, rfl, Nat.le_of_lt (hlt (by omega) m hm)⟩, fun _ m hm => Or.inr ?_, fun q hq hp => ⟨_, rfl, ?_⟩⟩
        · cases hm
          have := hsb (k - 1) (by omega)
          omega
        · cases hm
          exact Nat.le_refl _
        · rw [spn_cong (k - 1) (k - 1) (Nat.le_refl _) (fun i hi => (hp i (by omega)).symm)]
          exact Nat.le_refl _
      · rw [if_neg (fun e => c ((nI_eq (by omega) (by omega)).mp e))]
        have key : ∃ r, itr (fun z => fX12_tryOrder_l81b N (fX12_tryOrder N d) (nI n) row ne (nI k) (nI (stN o k)) z.1 z.2.1 z.2.2.1 z.2.2.2.1 z.2.2.2.2) N (enc M, al, od, be, (0 : Int32)) = some r ∧ ∃ M2 : Option Nat, r.1 = enc M2 ∧ (∀ m, M2 = some m → m ≤ 100000) ∧ (∀ i, i < k → r.2.2.1 i = od i) ∧ (∀ i, i < k → r.2.1 i = al i) ∧ (∀ m, M = some m → ltO M2 m) ∧ (0 < k → ∀ m, M2 = some m → M = some m ∨ spn D o (k - 1) ≤ m) ∧ ∀ c, unl n c n → (∀ i, i < k → c i = o i) → ltO M2 (spn D c (n - 1)) := by
          refine itr_inv (fun (j : Nat) (z : Int32 × (Nat → Int32) × (Nat → Int32) × (Nat → Int32) × Int32) => z.2.2.2.2 = nI j ∧ ∃ M2 : Option Nat, z.1 = enc M2 ∧ (∀ m, M2 = some m → m ≤ 100000) ∧ (∀ i, i < k → z.2.2.1 i = od i) ∧ (∀ i, i < k → z.2.1 i = al i) ∧ (∀ m, M = some m → ltO M2 m) ∧ (0 < k → ∀ m, M2 = some m → M = some m ∨ spn D o (k - 1) ≤ m) ∧ ∀ c, unl n c n → (∀ i, i < k → c i = o i) → c k < j → ltO M2 (spn D c (n - 1))) (fun (r : Int32 × (Nat → Int32) × (Nat → Int32) × (Nat → Int32)) => ∃ M2 : Option Nat, r.1 = enc M2 ∧ (∀ m, M2 = some m → m ≤ 100000) ∧ (∀ i, i < k → r.2.2.1 i = od i) ∧ (∀ i, i < k → r.2.1 i = al i) ∧ (∀ m, M = some m → ltO M2 m) ∧ (0 < k → ∀ m, M2 = some m → M = some m ∨ spn D o (k - 1) ≤ m) ∧ ∀ c, unl n c n → (∀ i, i < k → c i = o i) → ltO M2 (spn D c (n - 1))) (b := n) (by omega) ⟨rfl, M, rfl, hM, fun i _ => rfl, fun i _ => rfl, fun m hm => ⟨m, hm, Nat.le_refl m⟩, fun _ m hm => Or.inl hm, fun q _ _ hq => absurd hq (Nat.not_lt_zero _)⟩ ?_ ?_
          · rintro j ⟨zl, za, zo, zb, v⟩ hj ⟨hv, M1, hz, b1, b2, b3, b4, b5, b6⟩
            have hv : v = nI j := hv
            subst hv
            have hz : zl = enc M1 := hz
            subst hz
            have b2 : ∀ i, i < k → zo i = od i := b2
            have b3 : ∀ i, i < k → za i = al i := b3
            have hst : stN o k < 2 ^ 16 := stN_lt (fun i hi => by have := hu.1 i hi; omega)
            show ∃ s', fX12_tryOrder_l81b N (fX12_tryOrder N d) (nI n) row ne (nI k) (nI (stN o k)) (enc M1) za zo zb (nI j) = some (.inl s') ∧ _
            unfold fX12_tryOrder_l81b
            rw [if_neg (nI_ge hj (by omega)), bind_e (hasM_e _ _), hv_bit (by omega) (by omega)]
            by_cases q : (stN o k).testBit j = true
            · rw [if_pos q, if_neg (show ¬ (1 : Int32) = 0 by decide), bnd_e, nI_1]
              refine ⟨(enc M1, za, zo, zb, nI (j + 1)), rfl, rfl, M1, rfl, b1, b2, b3, b4, b5, fun c hc hp hcj => ?_⟩
              by_cases w : c k = j
              · have := free_of hc (by omega) hp
                rw [w, q] at this
                exact absurd this (by decide)
              · exact b6 c hc hp (by omega)
            · have q' : (stN o k).testBit j = false := by
                cases e : (stN o k).testBit j with
                | false => rfl
                | true => exact absurd e q
              have hu2 := unl_nxt hu hj q'
              obtain ⟨s1, s2⟩ := spanN_e (N := N) (x := j) (al := za) (od := zo) (o := o) hN hn (show k < n by omega) hd hu2 (fun i hi => (b2 i hi).trans (hod i hi)) (fun i hi => (b3 i hi).trans (hal i hi))
              obtain ⟨M2, al2, od2, be2, r1, r2, r3, r4, r5, r6, r7⟩ := rt_e (row := row) hN hn hn1 hd d (k + 1) (nxt o k j) M1 (upd za k (nI (spn D (nxt o k j) k))) (upd zo k (nI j)) zb (by omega) (by omega) hu2 (fun i hi => by
                by_cases w : i = k
                · rw [w, pk_us, nxt_k]
                · rw [pk_un w, nxt_n w, b2 i (by omega), hod i (by omega)]) (fun i hi => by
                by_cases w : i = k
                · rw [w, pk_us]
                · rw [pk_un w, b3 i (by omega), hal i (by omega)]
                  exact congrArg nI (spn_cong i i (Nat.le_refl i) (fun a ha => (nxt_n (by omega)).symm))) b1
              rw [if_neg q, if_pos (show (0 : Int32) = 0 from rfl), gdi_nI (k := k) (by omega) (by decide), nI_clamp (n := k) (by omega), bnd_e, bind_e s1, gdi_nI (k := k) (by omega) (by decide), bnd_e, nI_1 k, stN_nxt (by omega), bind_e r1, bnd_e, nI_1]
              refine ⟨(enc M2, al2, od2, be2, nI (j + 1)), rfl, rfl, M2, rfl, r2, fun i hi => ?_, fun i hi => ?_, fun m hm => ?_, fun hk0 m hm => ?_, fun c hc hp hcj => ?_⟩
              · show od2 i = od i
                rw [r3 i (by omega), pk_un (by omega), b2 i hi]
              · show al2 i = al i
                rw [r4 i (by omega), pk_un (by omega), b3 i hi]
              · obtain ⟨m1, w1, w2⟩ := b4 m hm
                exact ltO_tr (r5 m1 w1) w2
              · rcases r6 (by omega) m hm with w | w
                · exact b5 hk0 m w
                · refine Or.inr (Nat.le_trans ?_ w)
                  rw [spn_cong (D := D) (o := o) (q := nxt o k j) (k - 1) (k - 1) (Nat.le_refl _) (fun i hi => (nxt_n (by omega)).symm)]
                  exact spn_mono (by omega)
              · by_cases w : c k = j
                · exact r7 c hc (fun i hi => by
                    by_cases y : i = k
                    · rw [y, nxt_k, w]
                    · rw [nxt_n y]
                      exact hp i (by omega))
                · obtain ⟨m1, w1, w2⟩ := b6 c hc hp (by omega)
                  exact ltO_tr (r5 m1 w1) w2
          · rintro ⟨zl, za, zo, zb, v⟩ ⟨hv, M1, hz, b1, b2, b3, b4, b5, b6⟩
            have hv : v = nI n := hv
            subst hv
            refine ⟨(zl, za, zo, zb), ?_, M1, hz, b1, b2, b3, b4, b5, fun c hc hp => b6 c hc hp (hc.1 k (by omega))⟩
            show fX12_tryOrder_l81b N (fX12_tryOrder N d) (nI n) row ne (nI k) (nI (stN o k)) zl za zo zb (nI n) = _
            unfold fX12_tryOrder_l81b
            rw [if_pos (nI_le (Nat.le_refl n) (by omega))]
        obtain ⟨⟨rl, ra, ro, rb⟩, e1, M2, e2, b⟩ := key
        have e2 : rl = enc M2 := e2
        subst e2
        exact ⟨M2, ra, ro, rb, by rw [bind_e e1], b⟩
    show ∃ (M2 : Option Nat) (al2 od2 be2 : Nat → Int32), fX12_tryOrder_m N (fX12_tryOrder N d) (nI n) (enc M) al od row be ne (nI k) (nI (stN o k)) = some (enc M2, al2, od2, be2) ∧ _
    unfold fX12_tryOrder_m
    by_cases c0 : k = 0
    · rw [if_pos (show nI k ≤ 0 by rw [c0]; exact nI_le (b := 0) (Nat.le_refl 0) (by decide))]
      exact inner (fun w => absurd w (by omega))
    · rw [if_neg (show ¬ nI k ≤ 0 from nI_ge (a := 0) (by omega) (by omega))]
      cases hM0 : M with
      | none =>
        rw [hM0] at inner
        rw [show enc none = -1 from rfl, if_pos rfl]
        exact inner (fun _ m w => absurd w (by intro y; cases y))
      | some m0 =>
        rw [hM0] at inner
        have hm0 := hM m0 hM0
        have hsk := hsb (k - 1) (by omega)
        rw [if_neg (show ¬ enc (some m0) = -1 from nI_m1 (by omega)), show nI k - (1 : Int32) = nI (k - 1) from pk_sub (b := 1) (by omega), gdi_nI (by omega) (by decide), nI_clamp (by omega), hal (k - 1) (by omega)]
        by_cases c1 : spn D o (k - 1) < m0
        · rw [if_pos (show nI (spn D o (k - 1)) < enc (some m0) from nI_lt c1 (by omega))]
          exact inner (fun _ m w => by cases w; exact c1)
        · rw [if_neg (show ¬ nI (spn D o (k - 1)) < enc (some m0) from nI_nlt (by omega) (by omega))]
          refine ⟨some m0, al, od, be, rfl, fun m w => by cases w; exact hm0, fun i _ => rfl, fun i _ => rfl, fun m w => ⟨m, w, Nat.le_refl m⟩, fun _ m w => Or.inl w, fun c hc hp => ⟨m0, rfl, ?_⟩⟩
          rw [spn_cong (D := D) (o := o) (q := c) (k - 1) (k - 1) (Nat.le_refl _) (fun i hi => (hp i (by omega)).symm)] at c1
          by_cases w : k = n
          · rw [w] at c1
            omega
          · have := spn_mono (D := D) (o := c) (show k - 1 < n - 1 by omega)
            omega

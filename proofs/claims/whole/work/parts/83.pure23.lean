/-! FIT, the whole -/
theorem nstp_e {T L : Nat} {dg vo rF : Nat → Int32} {rc : Nat → Int64} {l : Nat → Nat} {i : Nat} (h : ¬ stp T dg vo rF rc l i) : (¬ fa_first (big T dg vo rF rc (lit T dg vo rF rc l i)) T < T) ∧ fa_first (chg T dg vo rF rc (lit T dg vo rF rc l i)) T < T := by
  constructor
  · refine ff_no (fun k hk => ?_)
    unfold big
    refine decide_eq_false (fun c => h (Or.inl ⟨k, hk, c⟩))
  · by_cases q : ∃ k, k < T ∧ ¬ lit T dg vo rF rc l (i + 1) k = lit T dg vo rF rc l i k
    · obtain ⟨k, hk, e⟩ := q
      exact ff_yes hk (decide_eq_true e)
    · refine absurd (Or.inr (fun k hk => ?_)) h
      by_cases e : lit T dg vo rF rc l (i + 1) k = lit T dg vo rF rc l i k
      · exact e
      · exact absurd ⟨k, hk, e⟩ q
theorem stp_fix {T : Nat} {dg vo rF : Nat → Int32} {rc : Nat → Int64} {l : Nat → Nat} {i : Nat} (h : stp T dg vo rF rc l i) (hb : ¬ fa_first (big T dg vo rF rc (lit T dg vo rF rc l i)) T < T) : (∀ k, k < T → lit T dg vo rF rc l (i + 1) k = lit T dg vo rF rc l i k) ∧ ¬ fa_first (chg T dg vo rF rc (lit T dg vo rF rc l i)) T < T := by
  rcases h with ⟨k, hk, c⟩ | h
  · exact absurd (ff_yes hk (decide_eq_true c)) hb
  · exact ⟨h, ff_no (fun k hk => decide_eq_false (fun z => z (h k hk)))⟩
set_option maxHeartbeats 1000000 in
theorem settle_e {N T L b : Nat} {dg vo lo sh ll nx an rF : Nat → Int32} {rc : Nat → Int64} (hN : 20000 < N) (hT : T ≤ 16) (hF : IF1 T L rF) (hW : WS T dg lo sh) (hb : b ≤ 15984) (hst : stp T dg vo rF rc (l0 rF) b) (hlow : ∀ i, i < b → ¬ stp T dg vo rF rc (l0 rF) i) : ∃ ll2 nx2 an2 r, fX0_settle N (nI T) rF ll dg vo rc nx an = some (ll2, nx2, an2, r) ∧ (if fa_first (big T dg vo rF rc (lit T dg vo rF rc (l0 rF) b)) T < T then an2 = an ∧ r = -1 else r = sg (fts dg rF (lit T dg vo rF rc (l0 rF) b)) T ∧ ∀ k, k < 16 → an2 k = if k < T then ftd dg rF (lit T dg vo rF rc (l0 rF) b) k else -1) := by
  have h9 := lit_9 (b := b) (fun k hk => (l0_9 hF hk).1) hlow
  obtain ⟨lc0, e0, h0⟩ := startC_e (N := N) (dg := dg) (vo := vo) (ll := ll) (nx := nx) (an := an) (rc := rc) (by omega) hT hF
  have key : ∃ r, itr (fun z => fX0_settle_l51b N (nI T) rF dg vo rc an z.1 z.2.1 z.2.2) N (lc0, nx, (0 : Int32)) = some r ∧ ∃ ll2 nx2 an2 q, r = .inr (ll2, nx2, an2, q) ∧ (if fa_first (big T dg vo rF rc (lit T dg vo rF rc (l0 rF) b)) T < T then an2 = an ∧ q = -1 else q = sg (fts dg rF (lit T dg vo rF rc (l0 rF) b)) T ∧ ∀ k, k < 16 → an2 k = if k < T then ftd dg rF (lit T dg vo rF rc (l0 rF) b) k else -1) := by
    refine itr_inv (fun (i : Nat) (z : (Nat → Int32) × (Nat → Int32) × Int32) => z.2.2 = nI i ∧ ∀ k, k < T → z.1 k = nI (lit T dg vo rF rc (l0 rF) i k)) (fun (r : ((Nat → Int32) × (Nat → Int32)) ⊕ ((Nat → Int32) × (Nat → Int32) × (Nat → Int32) × Int32)) => ∃ ll2 nx2 an2 q, r = .inr (ll2, nx2, an2, q) ∧ (if fa_first (big T dg vo rF rc (lit T dg vo rF rc (l0 rF) b)) T < T then an2 = an ∧ q = -1 else q = sg (fts dg rF (lit T dg vo rF rc (l0 rF) b)) T ∧ ∀ k, k < 16 → an2 k = if k < T then ftd dg rF (lit T dg vo rF rc (l0 rF) b) k else -1)) (b := b) (by omega) ⟨rfl, h0⟩ ?_ ?_
    · rintro i ⟨f, g, v⟩ hi ⟨hv, hf⟩
      have hv : v = nI i := hv
      subst hv
      have hf : ∀ k, k < T → f k = nI (lit T dg vo rF rc (l0 rF) i k) := hf
      obtain ⟨nb, ch⟩ := nstp_e (L := L) (hlow i hi)
      obtain ⟨nx2, e1, e2⟩ := hearAnew_e (N := N) (vo := vo) (nx := g) (rc := rc) (by omega) hT hF hW (fun k hk => ⟨hf k hk, h9 i (by omega) k hk⟩)
      obtain ⟨lc2, e3, e4⟩ := takeNext_e (N := N) (T := T) (lc := f) (nx := nx2) (by omega) hT
      have e2 := e2 nb
      have c1 : fa_first (fun k => decide (¬ nx2 k = f k)) T < T := by
        refine ff_yes (k := fa_first (chg T dg vo rF rc (lit T dg vo rF rc (l0 rF) i)) T) ch ?_
        have q := fa_first_yes _ T ch
        generalize fa_first (chg T dg vo rF rc (lit T dg vo rF rc (l0 rF) i)) T = k at q ch ⊢
        unfold chg at q
        rw [decide_eq_true_eq] at q
        refine decide_eq_true (fun z => q ?_)
        rw [e2 k ch, hf k ch] at z
        have a1 := h9 (i + 1) (by omega) k ch
        have a1 : ned T dg vo rF rc (lit T dg vo rF rc (l0 rF) i) k ≤ 999 := a1
        have a2 := h9 i (by omega) k ch
        exact (nI_eq (by omega) (by omega)).mp z
      refine ⟨(lc2, nx2, nI (i + 1)), ?_, rfl, fun k hk => (e4 k hk).trans (e2 k hk)⟩
      show fX0_settle_l51b N (nI T) rF dg vo rc an f g (nI i) = _
      unfold fX0_settle_l51b
      rw [if_neg (show ¬ (15984 : Int32) < nI i from nI_nlt (a := 15984) (by omega) (by decide)), bind_e e1, if_neg nb, if_neg (show ¬ (1 : Int32) = 0 by decide), bind_e e3, if_pos c1, if_neg (show ¬ (1 : Int32) = 0 by decide), bnd_e, nI_1]
    · rintro ⟨f, g, v⟩ ⟨hv, hf⟩
      have hv : v = nI b := hv
      subst hv
      have hf : ∀ k, k < T → f k = nI (lit T dg vo rF rc (l0 rF) b k) := hf
      obtain ⟨nx2, e1, e2⟩ := hearAnew_e (N := N) (vo := vo) (nx := g) (rc := rc) (by omega) hT hF hW (fun k hk => ⟨hf k hk, h9 b (by omega) k hk⟩)
      by_cases q : fa_first (big T dg vo rF rc (lit T dg vo rF rc (l0 rF) b)) T < T
      · refine ⟨.inr (f, nx2, an, -1), ?_, f, nx2, an, -1, rfl, by rw [if_pos q]; exact ⟨rfl, rfl⟩⟩
        show fX0_settle_l51b N (nI T) rF dg vo rc an f g (nI b) = _
        unfold fX0_settle_l51b
        rw [if_neg (show ¬ (15984 : Int32) < nI b from nI_nlt (a := 15984) (by omega) (by decide)), bind_e e1, if_pos q, if_pos rfl]
      · obtain ⟨fx, nc⟩ := stp_fix hst q
        have e2 := e2 q
        obtain ⟨lc2, e3, e4⟩ := takeNext_e (N := N) (T := T) (lc := f) (nx := nx2) (by omega) hT
        have c1 : ¬ fa_first (fun k => decide (¬ nx2 k = f k)) T < T := by
          refine ff_no (fun k hk => decide_eq_false (fun z => z ?_))
          rw [e2 k hk, hf k hk]
          exact congrArg nI (fx k hk)
        obtain ⟨an2, e5, e6⟩ := keepAnswer_e (N := N) (dg := dg) (rF := rF) (lc := lc2) (an := an) (l := lit T dg vo rF rc (l0 rF) b) (by omega) hT (fun k hk => ((e4 k hk).trans (e2 k hk)).trans (congrArg nI (fx k hk)))
        refine ⟨.inr (lc2, nx2, an2, sg (fts dg rF (lit T dg vo rF rc (l0 rF) b)) T), ?_, lc2, nx2, an2, _, rfl, by rw [if_neg q]; exact ⟨rfl, e6⟩⟩
        show fX0_settle_l51b N (nI T) rF dg vo rc an f g (nI b) = _
        unfold fX0_settle_l51b
        rw [if_neg (show ¬ (15984 : Int32) < nI b from nI_nlt (a := 15984) (by omega) (by decide)), bind_e e1, if_neg q, if_neg (show ¬ (1 : Int32) = 0 by decide), bind_e e3, if_neg c1, if_pos rfl, bind_e e5]
  obtain ⟨r, e1, ll2, nx2, an2, q, rfl, e2⟩ := key
  refine ⟨ll2, nx2, an2, q, ?_, e2⟩
  unfold fX0_settle
  rw [bind_e e0, bind_e e1]
  rfl
set_option maxHeartbeats 1000000 in
theorem p_fit {N T L P A : Nat} {rl rt rp ra rf b th fm : Int32} {rc gr : Nat → Int64} {rP rF now now1 dg vo lo sh he tn ll ln an ls ss nx ft : Nat → Int32} (hN : 20000 < N) (h : IR1 T L P A rl rt rp ra rf rc rP rF now1 gr) (hF : IF1 T L rF) (hs : IST T A dg vo lo sh he tn rc rF now1) (hl : LY N b now now1) (hi : IL an fm ft) : ∃ (ll2 ln2 an2 ls2 ss2 nx2 ft2 : Nat → Int32) (fm2 r : Int32), fX11_fit N rt rF ll dg vo rc ln an = some (ll2, ln2, an2, r) ∧ fX12_fit N th b fm now ls ss gr nx ft = some (0, 1, fm2, now1, ls2, ss2, nx2, ft2, r) ∧ IL an2 fm2 ft2 := by
  have hW := IST_WS hs hF
  have hT : T ≤ 16 := h.1.1
  have n1 : now1 1 = nI T := h.2.2.1.2.1
  have hF2 := h.2.2.2.2.1
  have hup : ∀ k, k < T → l0 rF k ≤ ned T dg vo rF rc (l0 rF) k := by
    intro k hk
    by_cases lv : liv dg rF k = true
    · have e : l0 rF k = 1 := by
        unfold l0
        rw [if_pos (liv_iff.mp lv).2]
      rw [e]
      unfold ned
      rw [if_pos lv]
      exact Nat.le_max_left _ _
    · rw [ned_liv lv]
      exact Nat.le_refl _
  obtain ⟨m, hm, hst, hlow⟩ := stp_ex hT hup (fun k hk => (l0_9 hF hk).1)
  have h9 := lit_9 (b := m) (fun k hk => (l0_9 hF hk).1) hlow
  obtain ⟨ll2, ln2, an2, r, e1, e2⟩ := settle_e (N := N) (ll := ll) (nx := ln) (an := an) hN hT hF hW hm hst hlow
  obtain ⟨lm, e3, e4, e5⟩ := startM_e (N := N) (b := 1) (fm := fm) (ls := ls) (ss := lb ss now1 5 T) (nx := nx) (ft := ft) (by omega) h hF hs.1
  have hss : ∀ k, k < T → lb ss now1 5 T k = rF (14 * k + 5) := fun k hk => by rw [lb_in hk, ← hF2 k hk 5 (by decide)]
  have key : ∃ q, itr (fun z => fX12_fit_l54b N 0 1 fm now1 (lb ss now1 5 T) gr ft z.1 z.2.1 z.2.2) N (lm, nx, (1 : Int32)) = some q ∧ (if fa_first (big T dg vo rF rc (lit T dg vo rF rc (l0 rF) m)) T < T then q.2.2 = 100000 else q.2.2 = 0 ∧ ∀ k, k < T → ¬ dg k = -1 → q.1 k = nI (lit T dg vo rF rc (l0 rF) m k)) := by
    refine itr_inv (fun (i : Nat) (z : (Nat → Int32) × (Nat → Int32) × Int32) => (i ≤ m → z.2.2 = 1 ∧ (∀ k, k < T → ∃ d, d ≤ 999 ∧ z.1 k = nI d) ∧ ∀ k, k < T → ¬ dg k = -1 → z.1 k = nI (lit T dg vo rF rc (l0 rF) i k)) ∧ (i = m + 1 → if fa_first (big T dg vo rF rc (lit T dg vo rF rc (l0 rF) m)) T < T then z.2.2 = 100000 else z.2.2 = 0 ∧ ∀ k, k < T → ¬ dg k = -1 → z.1 k = nI (lit T dg vo rF rc (l0 rF) m k))) (fun (q : (Nat → Int32) × (Nat → Int32) × Int32) => if fa_first (big T dg vo rF rc (lit T dg vo rF rc (l0 rF) m)) T < T then q.2.2 = 100000 else q.2.2 = 0 ∧ ∀ k, k < T → ¬ dg k = -1 → q.1 k = nI (lit T dg vo rF rc (l0 rF) m k)) (b := m + 1) (by omega) ⟨fun _ => ⟨rfl, e4, e5⟩, fun z => by omega⟩ ?_ ?_
    · rintro i ⟨f, g, v⟩ hi ⟨hz, -⟩
      obtain ⟨hv, hf1, hf2⟩ := hz (by omega)
      have hv : v = 1 := hv
      subst hv
      obtain ⟨ls2, nx2, e6, e7⟩ := louder_e (N := N) (nx := g) (by omega) h hF hs.1 hf1 hf2 (h9 i (by omega)) hss
      refine ⟨(ls2, nx2, if fa_first (big T dg vo rF rc (lit T dg vo rF rc (l0 rF) i)) T < T then 100000 else if fa_first (chg T dg vo rF rc (lit T dg vo rF rc (l0 rF) i)) T < T then 1 else 0), ?_, fun him => ?_, fun him => ?_⟩
      · show fX12_fit_l54b N 0 1 fm now1 (lb ss now1 5 T) gr ft f g 1 = _
        unfold fX12_fit_l54b
        rw [if_pos rfl, bind_e e6]
      · obtain ⟨nb, ch⟩ := nstp_e (L := L) (hlow i (by omega))
        obtain ⟨g1, g2⟩ := e7 nb
        refine ⟨?_, g1, g2⟩
        show (if _ then (100000 : Int32) else if _ then (1 : Int32) else 0) = 1
        rw [if_neg nb, if_pos ch]
      · have e : i = m := by omega
        subst e
        by_cases q : fa_first (big T dg vo rF rc (lit T dg vo rF rc (l0 rF) i)) T < T
        · rw [if_pos q, if_pos q]
        · obtain ⟨fx, nc⟩ := stp_fix hst q
          obtain ⟨g1, g2⟩ := e7 q
          rw [if_neg q, if_neg q, if_neg nc]
          exact ⟨rfl, fun k hk uk => (g2 k hk uk).trans (congrArg nI (fx k hk))⟩
    · rintro ⟨f, g, v⟩ ⟨-, hz⟩
      have hz := hz rfl
      refine ⟨(f, g, v), ?_, hz⟩
      show fX12_fit_l54b N 0 1 fm now1 (lb ss now1 5 T) gr ft f g v = _
      unfold fX12_fit_l54b
      rw [if_neg]
      by_cases q : fa_first (big T dg vo rF rc (lit T dg vo rF rc (l0 rF) m)) T < T
      · rw [if_pos q] at hz
        have hz : v = 100000 := hz
        rw [hz]
        decide
      · rw [if_neg q] at hz
        have hz : v = 0 := hz.1
        rw [hz]
        decide
  obtain ⟨⟨f, g, v⟩, e6, e7⟩ := key
  have eC : fX11_fit N rt rF ll dg vo rc ln an = some (ll2, ln2, an2, r) := by
    unfold fX11_fit
    rw [h.2.1.1, bind_e e1]
  have eM : ∀ X, (if v = (100000 : Int32) then some ((0 : Int32), (1 : Int32), fm, now1, f, lb ss now1 5 T, g, ft, (-1 : Int32)) else (fX12_things now1).bind fun o19 => (itr (fun z => fX12_fit_l88b N (0 : Int32) 1 o19 now1 f (lb ss now1 5 T) gr g z.1 z.2.1 z.2.2) N (ft, (0 : Int32), (0 : Int32))).bind fun q35 => some ((0 : Int32), (1 : Int32), o19, now1, f, lb ss now1 5 T, g, q35.1, q35.2)) = X → fX12_fit N th b fm now ls ss gr nx ft = X := by
    intro X hX
    unfold fX12_fit
    rw [bind_e hl, bind_e (layBeams_e (by omega) hT n1), bind_e e3]
    show (itr (fun z => fX12_fit_l54b N 0 1 fm now1 (lb ss now1 5 T) gr ft z.1 z.2.1 z.2.2) N (lm, nx, (1 : Int32))).bind _ = X
    rw [bind_e e6]
    exact hX
  by_cases q : fa_first (big T dg vo rF rc (lit T dg vo rF rc (l0 rF) m)) T < T
  · rw [if_pos q] at e2 e7
    obtain ⟨rfl, rfl⟩ := e2
    have e7 : v = 100000 := e7
    exact ⟨ll2, ln2, an2, f, lb ss now1 5 T, g, ft, fm, -1, eC, eM _ (by rw [if_pos e7]), hi⟩
  · rw [if_neg q] at e2 e7
    obtain ⟨rfl, hr⟩ := e2
    have e8 : v = 0 := e7.1
    obtain ⟨ft2, e9, e10⟩ := fittedM_e (N := N) (b := 1) (fm := nI T) (ss := lb ss now1 5 T) (nx := g) (ft := ft) (by omega) h hs.1 e7.2 (h9 m (Nat.le_refl m))
    have e9 : itr (fun z => fX12_fit_l88b N 0 1 (nI T) now1 f (lb ss now1 5 T) gr g z.1 z.2.1 z.2.2) N (ft, (0 : Int32), (0 : Int32)) = some (ft2, sg (fts dg rF (lit T dg vo rF rc (l0 rF) m)) T) := e9
    refine ⟨ll2, ln2, an2, f, lb ss now1 5 T, g, ft2, nI T, _, eC, eM _ ?_, T, hT, rfl, fun k hk => ?_⟩
    · rw [if_neg (by rw [e8]; decide), bind_e (things_e n1), bind_e e9]
    · rw [hr k hk]
      by_cases c : k < T
      · rw [if_pos c, if_pos c, e10 k c]
      · rw [if_neg c, if_neg c]

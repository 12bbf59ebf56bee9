/-! LETIN, both -/
theorem mk2_e (a : Nat) : mk 2 a 0 = 2 ^ a := by
  show 0 ||| 2 ^ a = 2 ^ a
  exact Nat.zero_or _
theorem mk3_e {a b : Nat} (h : a < b) : mk 3 a b = 2 ^ b + 2 ^ a := by
  show 0 ||| 2 ^ a ||| 2 ^ b = _
  have := Nat.two_pow_add_eq_or_of_lt (Nat.pow_lt_pow_right (show 1 < 2 by decide) h) 1
  rw [Nat.mul_one] at this
  rw [Nat.zero_or, this, Nat.or_comm]
theorem mk3_lt1 {a b a' b' : Nat} (h : a < b) (h' : a' < b') (hb : b < b') : mk 3 a b < mk 3 a' b' := by
  rw [mk3_e h, mk3_e h']
  have h1 : 2 ^ a < 2 ^ b := Nat.pow_lt_pow_right (by decide) h
  have h2 : 2 ^ (b + 1) ≤ 2 ^ b' := Nat.pow_le_pow_right (by decide) hb
  have h3 : 2 ^ (b + 1) = 2 * 2 ^ b := by rw [Nat.pow_succ, Nat.mul_comm]
  have h4 : 0 < 2 ^ a' := Nat.two_pow_pos a'
  omega
theorem mk3_lt2 {a a' b : Nat} (h : a < b) (h' : a' < b) (ha : a < a') : mk 3 a b < mk 3 a' b := by
  rw [mk3_e h, mk3_e h']
  have h1 : 2 ^ a < 2 ^ a' := Nat.pow_lt_pow_right (by decide) ha
  omega
set_option maxHeartbeats 2000000 in
theorem p_letIn {N T L P A : Nat} {rl rt rp ra rf b th rm len ot : Int32} {rc gr : Nat → Int64} {rP rF now now1 dg vo lo sh he tn d1 v1 l1 s1 h1 m1 wa ls ss was row : Nat → Int32} (hN : 70000 < N) (h : IR1 T L P A rl rt rp ra rf rc rP rF now1 gr) (hF : IF1 T L rF) (hs : IST T A dg vo lo sh he tn rc rF now1) (hl : LY N b now now1) (x : Int32) : ∃ (len2 ot2 rm2 : Int32) (dg2 d2 vo2 v2 lo2 l2 sh2 s2 he2 h2 tn2 m2 wa2 now2 ls2 ss2 was2 row2 : Nat → Int32) (r : Int32), fX11_letIn N rt rp ra dg rF len ot d1 vo v1 lo l1 sh s1 he h1 tn m1 wa rc rP x = some (dg2, len2, ot2, d2, vo2, v2, lo2, l2, sh2, s2, he2, h2, tn2, m2, wa2, r) ∧ fX12_letIn N th b rm now ls ss was row gr x = some (0, 1, rm2, now2, ls2, ss2, was2, row2, r) ∧ IR1 T L P A rl rt rp ra rf rc rP rF now2 gr ∧ IST T A dg2 vo2 lo2 sh2 he2 tn2 rc rF now2 := by
  have hT : T ≤ 16 := h.1.1
  unfold fX11_letIn fX12_letIn
  obtain rfl : rt = nI T := h.2.1.1
  obtain rfl : rp = nI P := h.2.1.2.2.1
  obtain rfl : ra = nI A := h.2.1.2.2.2
  rw [bind_e hl]
  rcases th_cases x hT with q | ⟨x, hxT, rfl⟩
  · rw [bind_e (has_no q), if_pos rfl]
    show ∃ (len2 ot2 rm2 : Int32) (dg2 d2 vo2 v2 lo2 l2 sh2 s2 he2 h2 tn2 m2 wa2 now2 ls2 ss2 was2 row2 : Nat → Int32) (r : Int32), _ ∧ ((fX12_isThing now1 x).bind _ = _) ∧ _
    rw [bind_e (isThing_no h.2.2.1.2.1 q), if_pos rfl]
    exact ⟨_, _, _, _, _, _, _, _, _, _, _, _, _, _, _, _, _, _, _, _, _, _, rfl, rfl, h, hs⟩
  · rw [bind_e (has_yes hxT hT), if_neg (show ¬ (1 : Int32) = 0 by decide), bind_e (isUpC_e (by omega) dg)]
    show ∃ (len2 ot2 rm2 : Int32) (dg2 d2 vo2 v2 lo2 l2 sh2 s2 he2 h2 tn2 m2 wa2 now2 ls2 ss2 was2 row2 : Nat → Int32) (r : Int32), _ ∧ ((fX12_isThing now1 (nI x)).bind _ = _) ∧ _
    rw [bind_e (isThing_yes h.2.2.1.2.1 hxT hT), if_neg (show ¬ (1 : Int32) = 0 by decide), bind_e (isUpM_e (by omega) now1), ← (hs.1 x (by omega)).1]
    by_cases hx : dg x = -1
    · rw [if_pos hx, if_pos rfl, if_pos rfl, bind_e (isDeadC_e (by omega) rF), bind_e (isDeadM_e (by omega) now1), ← h.2.2.2.2.1 x hxT 8 (by decide)]
      by_cases hd : rF (14 * x + 8) = -1
      · rw [if_pos hd, if_pos rfl, if_pos rfl, bind_e (layBeams_e (by omega) hT h.2.2.1.2.1), bind_e (save_e (by omega) now1 was)]
        have hls := beams (ls := ls) (ss := ss) h hs
        obtain ⟨out, e1, hC⟩ := admit_e (N := N) (wq := was) (z := (len, ot, dg, d1, vo, v1, lo, l1, sh, s1, he, h1, tn, m1, wa, 0)) (by omega) h hF hs hxT hx hls ⟨rfl, rfl, rfl, rfl, rfl, rfl⟩
        have e1 : fX6_admit N len ot dg d1 vo v1 lo l1 sh s1 he h1 tn m1 (nI T) (nI P) (nI A) wa rc rF rP (nI x) = some out := e1
        obtain ⟨r, e2, hM⟩ := sets_e (N := N) (wq := was) (th := 0) (b0 := 1) (rm := rm) (row := row) (by omega) h hF hs hxT hx hls (by omega)
        rw [bind_e e1]
        show ∃ (len2 ot2 rm2 : Int32) (dg2 d2 vo2 v2 lo2 l2 sh2 s2 he2 h2 tn2 m2 wa2 now2 ls2 ss2 was2 row2 : Nat → Int32) (r : Int32), _ ∧ ((itr (fun z => fX12_letIn_l50b N 0 1 (lb ls now1 4 T) (lb ss now1 5 T) (svd now1 was) gr (nI x) z.1 z.2.1 z.2.2.1 z.2.2.2) N (rm, now1, row, (0 : Int32))).bind _ = _) ∧ _
        rw [bind_e e2]
        -- a success of both, at the same set
        have fin : ∀ (c a b : Nat) (z' o : C16) (rm2 : Int32) (now2 row2 : Nat → Int32), c ≤ 2 → tri T (1 + c) x a b dg rF → out = setL o (nI c) → SS dg vo lo sh he tn z' → AT N T P A rc rF rP (nI x) z' (ag (1 + c) 1 a) (ag (1 + c) 2 b) = some o → (∀ j, j < 1 + c → row2 j = nI (w3 x a b j)) → RA N (1 + c) gr (lb ls now1 4 T) (lb ss now1 5 T) (svd now1 was) now1 row2 (mk (1 + c) a b) = some (now2, 1) → r = .inr (0, 1, rm2, now2, lb ls now1 4 T, lb ss now1 5 T, svd now1 was, row2, nI c) → K0 now1 now2 → ∃ (len2 ot2 rm2 : Int32) (dg2 d2 vo2 v2 lo2 l2 sh2 s2 he2 h2 tn2 m2 wa2 now2 ls2 ss2 was2 row2 : Nat → Int32) (rr : Int32), (some (out.2.2.1, out.1, out.2.1, out.2.2.2.1, out.2.2.2.2.1, out.2.2.2.2.2.1, out.2.2.2.2.2.2.1, out.2.2.2.2.2.2.2.1, out.2.2.2.2.2.2.2.2.1, out.2.2.2.2.2.2.2.2.2.1, out.2.2.2.2.2.2.2.2.2.2.1, out.2.2.2.2.2.2.2.2.2.2.2.1, out.2.2.2.2.2.2.2.2.2.2.2.2.1, out.2.2.2.2.2.2.2.2.2.2.2.2.2.1, out.2.2.2.2.2.2.2.2.2.2.2.2.2.2.1, out.2.2.2.2.2.2.2.2.2.2.2.2.2.2.2) : Option ((Nat → Int32) × Int32 × Int32 × (Nat → Int32) × (Nat → Int32) × (Nat → Int32) × (Nat → Int32) × (Nat → Int32) × (Nat → Int32) × (Nat → Int32) × (Nat → Int32) × (Nat → Int32) × (Nat → Int32) × (Nat → Int32) × (Nat → Int32) × Int32)) = some (dg2, len2, ot2, d2, vo2, v2, lo2, l2, sh2, s2, he2, h2, tn2, m2, wa2, rr) ∧ Sum.elim (fun (q38 : Int32 × (Nat → Int32) × (Nat → Int32)) => some ((0 : Int32), (1 : Int32), q38.1, q38.2.1, lb ls now1 4 T, lb ss now1 5 T, svd now1 was, q38.2.2, (-1 : Int32))) (fun q38 => some q38) r = some (0, 1, rm2, now2, ls2, ss2, was2, row2, rr) ∧ IR1 T L P A rl (nI T) (nI P) (nI A) rf rc rP rF now2 gr ∧ IST T A dg2 vo2 lo2 sh2 he2 tn2 rc rF now2 := by
          intro c a b z' o rm2 now2 row2 hc ht ho hz' eo hrow hRA hr hK
          obtain ⟨g1, g2, g3, g4, g5, g6⟩ := tri_h hxT hT hx (by omega) (by omega) ht
          obtain ⟨o', now3, f1, f2, K3, hor⟩ := att_e (N := N) (wq := was) (row := row2) (by omega) h hF hs (n := 1 + c) (by omega) (by omega) g1 g2 hx g3 g4 g5 g6 hls hrow hz'
          have eo' : o' = o := Option.some.inj (f1.symm.trans eo)
          subst eo'
          have e3 := Option.some.inj (hRA.symm.trans f2)
          have e4 : now2 = now3 := congrArg (fun y => y.1) e3
          have e5 : (1 : Int32) = o'.2.2.2.2.2.2.2.2.2.2.2.2.2.2.2 := congrArg (fun y => y.2) e3
          subst e4
          rcases hor with ⟨y, -⟩ | ⟨-, y⟩
          · rw [y] at e5
            exact absurd e5 (by decide)
          · subst ho
            subst hr
            exact ⟨_, _, _, _, _, _, _, _, _, _, _, _, _, _, _, _, _, _, _, _, _, _, rfl, rfl, IR1_K h K3, y⟩
        rcases hM with ⟨rm2, row2, rfl, hno⟩ | ⟨c, hc, hno, m, rm2, now2, row2, hr, hm, hG, hfirst, hrS, hRA, hK⟩
        · -- the reference finds none: nor does the class
          have no : ∀ c a b, c ≤ 2 → tri T (1 + c) x a b dg rF → ¬ succ N (1 + c) x a b gr (lb ls now1 4 T) (lb ss now1 5 T) (svd now1 was) now1 (mk (1 + c) a b) := fun c a b hc ht hsu => by
            obtain ⟨k1, k2⟩ := gs_of (N := N) (wq := was) (by omega) h hF hs hxT hx hls hc ht hsu
            exact hno c (by omega) _ k1 k2
          rcases hC with ⟨z', o, -, -, -, hsu⟩ | ⟨-, ⟨a, z', o, -, ha, hla, -, -, -, hsu⟩ | ⟨-, ⟨b, a, z', o, -, hb, hab, hla, hlb, -, -, -, -, hsu⟩ | ⟨-, hSS, hl1⟩⟩⟩
          · exact absurd hsu (no 0 0 0 (by omega) ⟨fun y => absurd y (by omega), fun y => absurd y (by omega)⟩)
          · exact absurd hsu (no 1 a 0 (by omega) ⟨fun _ => ⟨ha, hla⟩, fun y => absurd y (by omega)⟩)
          · exact absurd hsu (no 2 a b (by omega) ⟨fun _ => ⟨by omega, hla⟩, fun _ => ⟨hb, hlb, hab⟩⟩)
          · rw [Sum.elim_inl]
            obtain ⟨z_len, z_ot, z_dg, z_d1, z_vo, z_v1, z_lo, z_l1, z_sh, z_s1, z_he, z_h1, z_tn, z_m1, z_wa, z_v⟩ := out
            obtain ⟨q1, q2, q3, q4, q5, q6⟩ := hSS
            have q1 : z_dg = dg := q1
            have q2 : z_vo = vo := q2
            have q3 : z_lo = lo := q3
            have q4 : z_sh = sh := q4
            have q5 : z_he = he := q5
            have q6 : z_tn = tn := q6
            have q7 : z_v = -1 := hl1
            subst q1 q2 q3 q4 q5 q6 q7
            exact ⟨_, _, _, _, _, _, _, _, _, _, _, _, _, _, _, _, _, _, _, _, _, _, rfl, rfl, h, hs⟩
        · obtain ⟨a, b, ca, cb, ht, emk, hrw⟩ := shape_e (x := x) (dg := dg) (rF := rF) (show c ≤ 2 by omega) hm hG.1 hG.2.1
          subst emk
          have hrow := hrw row2 hrS
          obtain ⟨now4, r4, e4, -, hor4⟩ := attM (N := N) (wq := was) (by omega) h hF hs hxT hx hls (n := 1 + c) (by omega) (by omega) ht hrow
          have hsuM : succ N (1 + c) x a b gr (lb ls now1 4 T) (lb ss now1 5 T) (svd now1 was) now1 (mk (1 + c) a b) := by
            have y := congrArg (fun y => y.2) (Option.some.inj (hRA.symm.trans e4))
            have y : (1 : Int32) = r4 := y
            rcases hor4 with ⟨q, -⟩ | ⟨-, q⟩
            · rw [q] at y
              exact absurd y (by decide)
            · exact q
          have yes : ∀ c' a' b', c' ≤ 2 → tri T (1 + c') x a' b' dg rF → succ N (1 + c') x a' b' gr (lb ls now1 4 T) (lb ss now1 5 T) (svd now1 was) now1 (mk (1 + c') a' b') → c ≤ c' := fun c' a' b' hc' ht' hsu => by
            obtain ⟨k1, k2⟩ := gs_of (N := N) (wq := was) (by omega) h hF hs hxT hx hls hc' ht' hsu
            rcases Nat.lt_or_ge c' c with q | q
            · exact absurd k2 (hno c' q _ k1)
            · exact q
          have least : ∀ a' b', tri T (1 + c) x a' b' dg rF → succ N (1 + c) x a' b' gr (lb ls now1 4 T) (lb ss now1 5 T) (svd now1 was) now1 (mk (1 + c) a' b') → ¬ mk (1 + c) a' b' < mk (1 + c) a b := fun a' b' ht' hsu q => by
            obtain ⟨k1, k2⟩ := gs_of (N := N) (wq := was) (by omega) h hF hs hxT hx hls (show c ≤ 2 by omega) ht' hsu
            exact hfirst _ q k2
          have t1 : tri T (1 + 0) x 0 0 dg rF := ⟨fun y => absurd y (by omega), fun y => absurd y (by omega)⟩
          rcases hC with ⟨z', o, ho, hz', eo, hsu⟩ | ⟨hn1, ⟨a', z', o, ho, ha, hla, hlow, hz', eo, hsu⟩ | ⟨hn2, ⟨b', a', z', o, ho, hb, hab, hla, hlb, hlb1, hlb2, hz', eo, hsu⟩ | ⟨hn3, -, -⟩⟩⟩
          · have hc0 : c = 0 := by
              have := yes 0 0 0 (by omega) t1 hsu
              omega
            subst hc0
            have ha0 := ca (by omega)
            have hb0 := cb (by omega)
            subst ha0 hb0
            exact fin 0 0 0 z' o rm2 now2 row2 (by omega) t1 ho hz' eo hrow hRA hr hK
          · have t2 : tri T (1 + 1) x a' 0 dg rF := ⟨fun _ => ⟨ha, hla⟩, fun y => absurd y (by omega)⟩
            have hc1 := yes 1 a' 0 (by omega) t2 hsu
            have : c = 0 ∨ c = 1 := by omega
            rcases this with q | q
            · subst q
              have ha0 := ca (by omega)
              have hb0 := cb (by omega)
              subst ha0 hb0
              exact absurd hsuM hn1
            · subst q
              have hb0 := cb (by omega)
              subst hb0
              have hl := least a' 0 t2 hsu
              have haa : a = a' := by
                rcases Nat.lt_trichotomy a a' with q | q | q
                · exact absurd hsuM (hlow a q (ht.1 (by omega)).2)
                · exact q
                · have hl : ¬ mk 2 a' 0 < mk 2 a 0 := hl
                  rw [mk2_e, mk2_e] at hl
                  exact absurd (Nat.pow_lt_pow_right (by decide) q) hl
              subst haa
              exact fin 1 a 0 z' o rm2 now2 row2 (by omega) t2 ho hz' eo hrow hRA hr hK
          · have t3 : tri T (1 + 2) x a' b' dg rF := ⟨fun _ => ⟨by omega, hla⟩, fun _ => ⟨hb, hlb, hab⟩⟩
            have : c = 0 ∨ c = 1 ∨ c = 2 := by omega
            rcases this with q | q | q
            · subst q
              have ha0 := ca (by omega)
              have hb0 := cb (by omega)
              subst ha0 hb0
              exact absurd hsuM hn1
            · subst q
              have hb0 := cb (by omega)
              subst hb0
              exact absurd hsuM (hn2 a (ht.1 (by omega)).1 (ht.1 (by omega)).2)
            · subst q
              have hl : ¬ mk 3 a' b' < mk 3 a b := least a' b' t3 hsu
              have hab2 := (ht.2 (by omega)).2.2
              have hla2 := (ht.1 (by omega)).2
              have hlb3 := (ht.2 (by omega)).2.1
              have hbb : b = b' := by
                rcases Nat.lt_trichotomy b b' with q | q | q
                · exact absurd hsuM (hlb1 b q a hab2 hla2 hlb3)
                · exact q
                · exact absurd (mk3_lt1 hab hab2 q) hl
              subst hbb
              have haa : a = a' := by
                rcases Nat.lt_trichotomy a a' with q | q | q
                · exact absurd hsuM (hlb2 a q hla2 hlb3)
                · exact q
                · exact absurd (mk3_lt2 hab hab2 q) hl
              subst haa
              exact fin 2 a b z' o rm2 now2 row2 (by omega) t3 ho hz' eo hrow hRA hr hK
          · have : c = 0 ∨ c = 1 ∨ c = 2 := by omega
            rcases this with q | q | q
            · subst q
              have ha0 := ca (by omega)
              have hb0 := cb (by omega)
              subst ha0 hb0
              exact absurd hsuM hn1
            · subst q
              have hb0 := cb (by omega)
              subst hb0
              exact absurd hsuM (hn2 a (ht.1 (by omega)).1 (ht.1 (by omega)).2)
            · subst q
              exact absurd hsuM (hn3 b (ht.2 (by omega)).1 a (ht.2 (by omega)).2.2 (ht.1 (by omega)).2 (ht.2 (by omega)).2.1)
      · rw [if_neg hd, if_neg (show ¬ (1 : Int32) = 0 by decide), if_neg (show ¬ (1 : Int32) = 0 by decide)]
        exact ⟨_, _, _, _, _, _, _, _, _, _, _, _, _, _, _, _, _, _, _, _, _, _, rfl, rfl, h, hs⟩
    · rw [if_neg hx, if_neg (show ¬ (1 : Int32) = 0 by decide), if_neg (show ¬ (1 : Int32) = 0 by decide)]
      exact ⟨_, _, _, _, _, _, _, _, _, _, _, _, _, _, _, _, _, _, _, _, _, _, rfl, rfl, h, hs⟩

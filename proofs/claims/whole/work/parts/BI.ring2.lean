/-! ring -/
set_option maxHeartbeats 8000000 in
set_option maxRecDepth 100000 in
theorem p_ring {N n T L P A : Nat} (hN : 1241 < N) (hn : n ≤ 1240) {t u : Nat → Int32} (hB : IB t) (hu : ∀ j, j < 1240 → u j = t j &&& 255) {b : Int32} {now now1 : Nat → Int32} (hly : LY N b now now1) {rl rt rp ra rf : Int32} {rc gr : Nat → Int64} {rP rF dg vo lo sh he tn : Nat → Int32} (hR : IR1 T L P A rl rt rp ra rf rc rP rF now1 gr) (hF : IF1 T L rF) (hS : IST T A dg vo lo sh he tn rc rF now1) (fk0 Rfk Rfp Rat Rap Rfi Rto Rnu Kl Kle Knx Dl Dt Dp Da Df : Int32) (Ks Kw Kv Kk Rln Rtn DF DP : Nat → Int32) (Dc : Nat → Int64) (th sz mto mfr mkd mnu fo sp td had : Int32) (wd : Int64) (read : Nat → Int32) (nm rg : Nat → Int64) : ∃ (k r : Int32) (c1 : Int32) (c2 : Int32) (c3 : Int32) (c4 : Int32) (c5 : Int32) (c6 : Int32) (c7 : Int32) (c8 : Int32) (c9 : Int32) (c10 : Int32) (c11 : (Nat → Int32)) (c12 : (Nat → Int32)) (c13 : (Nat → Int32)) (c14 : (Nat → Int32)) (c15 : Int32) (c16 : Int32) (c17 : Int32) (c18 : Int32) (c19 : Int32) (c20 : (Nat → Int32)) (c21 : (Nat → Int32)) (c22 : (Nat → Int64)) (c23 : (Nat → Int32)) (c24 : (Nat → Int32)) (rl' rt' rp' ra' rf' : Int32) (rc' : Nat → Int64) (rP' rF' dg' vo' lo' sh' he' tn' : Nat → Int32) (y3 y4 y5 y6 y7 y9 y11 y13 : Int32) (y10 : Int64) (now' y15 : Nat → Int32) (y16 y17 gr' : Nat → Int64) (T' L' P' A' : Nat), fX11_ring N (nI n) fk0 Rfk Rfp Rat Rap Rfi Rto Rnu Kl Kle Knx t Ks Kw Kv Kk Dl Dt Dp Da Df Rln Rtn Dc DF DP rl rt rp ra rf rc rP rF dg vo lo sh he tn = some (0, k, c1, c2, c3, c4, c5, c6, c7, c8, c9, c10, c11, c12, c13, c14, c15, c16, c17, c18, c19, c20, c21, c22, c23, c24, rl', rt', rp', ra', rf', rc', rP', rF', dg', vo', lo', sh', he', tn', r) ∧ fX12_ring N th (nI n) sz mto mfr mkd mnu fo sp wd td b had now read u nm rg gr = some (0, 0, y3, y4, y5, y6, y7, k, y9, y10, y11, 1, y13, now', y15, y16, y17, gr', r) ∧ IR1 T' L' P' A' rl' rt' rp' ra' rf' rc' rP' rF' now' gr' ∧ IF1 T' L' rF' ∧ IST T' A' dg' vo' lo' sh' he' tn' rc' rF' now' := by
  obtain ⟨la, nx, sa, wa, va, ka, hcut, hC⟩ := cut_e (N := N) (t := t) hN hn Kl Kle Knx Ks Kw Kv Kk
  have h : RC N n la t u sa ka va wa := ⟨hN, hn, TU_of hB hu, hC⟩
  have hl := rd_la h
  obtain ⟨rd1, er1, er2⟩ := rd0_e (N := N) hN read 0 0 (nI n) 0 mfr mkd mnu 0 sp td 1 had wd u now1 nm rg gr
  obtain ⟨g0, eg0, ht0⟩ := go_0 (N := N) hN hn (TU_of hB hu) hC mfr mkd mnu wd
  have hI : TI t n la sa ka va wa sp 0 (0, 0, 0, 0, 0, Rto, Rnu, 0, 0, 0, 20, 0, Rln, Rtn, Dc, DF, DP, 0) (g0.1, g0.2.1, g0.2.2.1, g0.2.2.2.1, 0, sp, g0.2.2.2.2, td, 0, upd rd1 3 20, nm, rg, 0) := by
    refine ⟨0, 0, g0, 0, 0, Rto, Rnu, 0, 0, 0, 20, 0, Rln, Rtn, Dc, DF, DP, td, 0, upd rd1 3 20, nm, rg, 0, 0, 0, 20, Nat.le_refl 0, Nat.le_refl 0, rfl, rfl, ht0, ⟨⟨by decide, by decide, by decide, by decide⟩, ⟨rfl, rfl, rfl, rfl⟩, ⟨?_, ?_, ?_, pk_us, ?_, Or.inl rfl⟩, fun k hk => absurd hk (Nat.not_lt_zero k), fun s hs => absurd hs (Nat.not_lt_zero s), fun s hs => absurd hs (Nat.not_lt_zero s)⟩, fun s hs => absurd hs (Nat.not_lt_zero s), ⟨fun _ => 0, fun _ => 0, fun k hk => absurd hk (Nat.not_lt_zero k), fun k hk => absurd hk (Nat.not_lt_zero k), fun k j hk => absurd hk (Nat.not_lt_zero k)⟩, Or.inl ⟨rfl, rfl, rfl⟩⟩
    · rw [pk_un (by decide), er2 0 (by decide)]
      rfl
    · rw [pk_un (by decide), er2 1 (by decide)]
      rfl
    · rw [pk_un (by decide), er2 2 (by decide)]
      rfl
    · rw [pk_un (by decide), er2 4 (by decide)]
  obtain ⟨zr, yr, ez, ey, hQ⟩ := tx_loop h sp 0 1 nx now1 gr hI
  rcases hQ with ⟨lines, ap, fi, to1, nu, dl, dt, dp, da, df, ln, tn2, dc, dF, dP, x1, x2, x3, x4, w', td', had', read', nm', rg', L', T', P', A', hn12, hln, rfl, rfl, hR', hF', hn', hH'⟩ | ⟨lines, ap, fi, to1, nu, dl, dt, dp, da, df, ln, tn2, dc, dF, dP, y1, y2, y3, y4, w', td', had', read', nm', rg', hn12, rfl, rfl⟩ | ⟨k, p, a3, a4, a5, a6, a7, a8, a9, a10, a11, a12, a13, a14, a15, a16, a17, a18, a19, a20, a21, a22, a23, a24, y1, y2, y3, y4, w', td', had', read', nm', rg', hV, rfl, rfl⟩
  · obtain ⟨rd3, e3, f3, f3'⟩ := layM_e (N := N) hN read' now1 0 0 (nI n) x1 x2 x3 x4 0 sp td' 1 had' (nI lines) w' u nm' rg' gr
    obtain ⟨rd4, e4, f4, f5, f6⟩ := grM_e (N := N) hN read' rd3 0 0 (nI n) x1 x2 x3 x4 0 sp td' 1 had' (nI lines) w' u nm' rg' gr
    obtain ⟨⟨hT, hL, hP, hA⟩, ⟨rfl, rfl, rfl, rfl⟩, ⟨n0, n1, n2, n3, n4, hf⟩, hp, hFe, hc⟩ := hR'
    obtain ⟨g2, q2, f2, ec, ec1, ec2, ec3⟩ := ringCopy_e (a := rl) (b := rt) (c := rp) (d := ra) (e := rf) (rl := nI L') (rt := nI T') (rp := nI P') (ra := nI A') (rf := df) (rc := dc) (g := rc) (rP := dP) (q := rP) (rF := dF) (f := rF) hf
    obtain ⟨d2, v2, l2, s2, h2, m2, ek, ek1⟩ := clear_e (N := N) (by omega) f2 dg vo lo sh he tn
    have eT := text_l (Rfk := Rfk) (Rfp := Rfp) (Rat := Rat) (Rap := Rap) (Rfi := Rfi) (Dl := Dl) (Dt := Dt) (Dp := Dp) (Da := Da) (Df := Df) hcut ez
    have e103 : fX4_readText_j103 N 0 0 (nI la) ap fi to1 nu (nI la) (nI n) nx t sa wa va ka (nI L') (nI T') (nI P') (nI A') df ln tn2 dc dF dP (nI n) (nI lines) = some (0, 0, nI la, ap, fi, to1, nu, nI la, nI n, nx, sa, wa, va, ka, nI L', nI T', nI P', nI A', df, ln, tn2, dc, dF, dP, nI lines) := by
      unfold fX4_readText_j103
      rw [if_pos (show nI n ≤ (1200 : Int32) from nI_le (b := 1200) hn12 (by decide))]
    have qC := ringC_p (fk0 := fk0) (eT.trans e103) (nI_nlt0 (show lines < 2 ^ 31 by omega)) ec ek
    have qM := ringM_l (th := th) (sz := sz) (mto := mto) (fo := fo) hly er1 eg0 ey e3 e4
    have lw : ∀ j, j < 340 → rd4.1 j = read' j := fun j hj => by rw [f4 j hj, f3 j hj]
    have t1 : IR1 T' L' P' A' (nI L') (nI T') (nI P') (nI A') df g2 q2 f2 rd4.1 rd4.2 := by
      refine ⟨⟨hT, hL, hP, hA⟩, ⟨rfl, rfl, rfl, rfl⟩, ⟨?_, ?_, ?_, ?_, ?_, hf⟩, fun k hk => ?_, fun s hs w hw => ?_, fun s hs => ?_⟩
      · rw [lw 0 (by decide), n0]
      · rw [lw 1 (by decide), n1]
      · rw [lw 2 (by decide), n2]
      · rw [lw 3 (by decide), n3]
      · rw [lw 4 (by decide), n4]
      · rw [lw (5 + k) (by omega), ec2 k (by omega)]
        exact hp k hk
      · rw [lw (20 + 20 * s + w) (by omega), ec3 (14 * s + w) (by omega)]
        exact hFe s hs w hw
      · rw [f6 s (by omega), ec1 s (by omega)]
        exact hc s hs
    have t2 : IF1 T' L' f2 := by
      intro s hs
      exact FB_cong (f := fun w => f2 (14 * s + w)) (g := fun w => dF (14 * s + w)) (fun w hw => ec3 (14 * s + w) (by omega)) (hF' s hs)
    have t3 : IST T' A' d2 v2 l2 s2 h2 m2 g2 f2 rd4.1 := by
      refine ⟨fun s hs => ⟨?_, Or.inl (ek1 s hs).1⟩, fun s hs => ⟨(ek1 s (by omega)).2.2.1, (ek1 s (by omega)).2.2.2.1⟩, IH_empty (fun k hk => (ek1 k (by omega)).1) (fun k hk => (ek1 k (by omega)).2.2.2.2.1) (fun k hk => (ek1 k (by omega)).2.2.2.2.2)⟩
      rw [(ek1 s hs).1, f5 s hs]
    exact ⟨_, _, _, _, _, _, _, _, _, _, _, _, _, _, _, _, _, _, _, _, _, _, _, _, _, _, _, _, _, _, _, _, _, _, _, _, _, _, _, _, _, _, _, _, _, _, _, _, _, _, _, _, _, _, _, _, _, _, qC, qM, t1, t2, t3⟩
  · have hneg := VP_neg (p := sa la) hC ⟨la, Nat.le_refl la, rfl⟩
    have eT := text_l (Rfk := Rfk) (Rfp := Rfp) (Rat := Rat) (Rap := Rap) (Rfi := Rfi) (Dl := Dl) (Dt := Dt) (Dp := Dp) (Da := Da) (Df := Df) hcut ez
    have e103 : fX4_readText_j103 N 0 0 (nI la) ap fi to1 nu (nI la) (nI n) nx t sa wa va ka dl dt dp da df ln tn2 dc dF dP (nI n) (nI lines) = some (1, sa la, nI la, ap, fi, to1, nu, nI la, nI n, nx, sa, wa, va, ka, dl, dt, dp, da, df, ln, tn2, dc, dF, dP, -1 - sa la) := by
      unfold fX4_readText_j103
      rw [if_neg (show ¬ nI n ≤ (1200 : Int32) from nI_ge (a := 1200) (by omega) (by omega)), bind_e (refuse_e hl 0 0 1 sa)]
    have qC := ringC_n (fk0 := fk0) (rl := rl) (rt := rt) (rp := rp) (ra := ra) (rf := rf) (rc := rc) (rP := rP) (rF := rF) (dg := dg) (vo := vo) (lo := lo) (sh := sh) (he := he) (tn := tn) (eT.trans e103) hneg
    have qM := ringM_r (th := th) (sz := sz) (mto := mto) (fo := fo) hly er1 eg0 ey
    exact ⟨_, _, _, _, _, _, _, _, _, _, _, _, _, _, _, _, _, _, _, _, _, _, _, _, _, _, _, _, _, _, _, _, _, _, _, _, _, _, _, _, _, _, _, _, _, _, _, _, _, _, _, _, _, _, T, L, P, A, qC, qM, hR, hF, hS⟩
  · have hneg := VP_neg hC hV
    have eT := text_in (Rfk := Rfk) (Rfp := Rfp) (Rat := Rat) (Rap := Rap) (Rfi := Rfi) (Dl := Dl) (Dt := Dt) (Dp := Dp) (Da := Da) (Df := Df) hcut ez
    have qC := ringC_n (fk0 := fk0) (rl := rl) (rt := rt) (rp := rp) (ra := ra) (rf := rf) (rc := rc) (rP := rP) (rF := rF) (dg := dg) (vo := vo) (lo := lo) (sh := sh) (he := he) (tn := tn) eT hneg
    have qM := ringM_r (th := th) (sz := sz) (mto := mto) (fo := fo) hly er1 eg0 ey
    exact ⟨_, _, _, _, _, _, _, _, _, _, _, _, _, _, _, _, _, _, _, _, _, _, _, _, _, _, _, _, _, _, _, _, _, _, _, _, _, _, _, _, _, _, _, _, _, _, _, _, _, _, _, _, _, _, T, L, P, A, qC, qM, hR, hF, hS⟩

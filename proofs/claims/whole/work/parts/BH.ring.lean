/-! ring, side by side -/
theorem neg_ans {s : Nat} (hs : s < 2 ^ 30) : (-1 : Int32) - nI s < 0 := by
  refine (fa_lt _ _).mpr ?_
  rw [fb_subI (by rw [nI_toInt (by omega), show (-1 : Int32).toInt = -1 by decide]; omega) (by rw [nI_toInt (by omega), show (-1 : Int32).toInt = -1 by decide]; omega), nI_toInt (by omega), show (-1 : Int32).toInt = -1 by decide, show (0 : Int32).toInt = 0 by decide]
  omega
theorem VP_neg {t : Nat → Int32} {n la : Nat} {sa ka va wa : Nat → Int32} {p : Int32} (hc : CUT t n la sa ka va wa) (h : VP la sa p) : (-1 : Int32) - p < 0 := by
  obtain ⟨j, hj, rfl⟩ := h
  obtain ⟨h1, h2, h3, h4, h5, h6⟩ := hc
  rcases Nat.lt_or_ge j la with q | q
  · obtain ⟨a1, a2, _⟩ := h6 j q
    rw [a2]
    exact neg_ans (by omega)
  · rw [show j = la by omega, h2]
    exact neg_ans (by omega)
/-- the ring that is read takes the place of the one that was -/
theorem layM_e {N : Nat} (hN : 1241 < N) (read now : Nat → Int32) (a1 a2 a3 a4 a5 a6 a7 a8 a9 a11 a12 a13 v1 : Int32) (wd : Int64) (u : Nat → Int32) (nm rg gr : Nat → Int64) : ∃ r, itr (fun z : (Nat → Int32) × Int32 => fX12_ring_l96b N a1 a2 a3 a4 a5 a6 a7 a8 a9 wd a11 a12 a13 read u nm rg gr v1 z.1 z.2) N (now, (0 : Int32)) = some r ∧ (∀ j, j < 340 → r j = read j) ∧ ∀ j, 340 ≤ j → r j = now j := by
  obtain ⟨r, hr, h1, h2⟩ := itr_inv (body := fun z : (Nat → Int32) × Int32 => fX12_ring_l96b N a1 a2 a3 a4 a5 a6 a7 a8 a9 wd a11 a12 a13 read u nm rg gr v1 z.1 z.2) (n := N) (b := 340) (s := (now, (0 : Int32))) (fun m z => z.2 = nI m ∧ (∀ j, j < m → z.1 j = read j) ∧ ∀ j, 340 ≤ j → z.1 j = now j) (fun r => (∀ j, j < 340 → r j = read j) ∧ ∀ j, 340 ≤ j → r j = now j) (by omega) ⟨rfl, fun j hj => absurd hj (Nat.not_lt_zero j), fun j _ => rfl⟩ (by
    intro m z hm hI
    obtain ⟨b1, b2, b3⟩ := hI
    show ∃ s', fX12_ring_l96b N a1 a2 a3 a4 a5 a6 a7 a8 a9 wd a11 a12 a13 read u nm rg gr v1 z.1 z.2 = some (.inl s') ∧ _
    unfold fX12_ring_l96b
    rw [b1, if_neg (show ¬ (340 : Int32) ≤ nI m from nI_ge (b := 340) hm (by decide)), gdi_nI hm (by decide), gdi_nI (show m < 380 by omega) (by decide), bnd_e, bnd_e, nI_clamp (show m < 2 ^ 31 by omega), nI_1]
    refine ⟨_, rfl, rfl, fun j hj => ?_, fun j hj => ?_⟩
    · show upd z.1 m (read m) j = _
      by_cases c : j = m
      · rw [c, pk_us]
      · rw [pk_un c, b2 j (by omega)]
    · show upd z.1 m (read m) j = _
      rw [pk_un (by omega), b3 j hj]) (by
    intro z hI
    obtain ⟨b1, b2, b3⟩ := hI
    show ∃ r, fX12_ring_l96b N a1 a2 a3 a4 a5 a6 a7 a8 a9 wd a11 a12 a13 read u nm rg gr v1 z.1 z.2 = some (.inr r) ∧ _
    unfold fX12_ring_l96b
    rw [b1, if_pos (show (340 : Int32) ≤ nI 340 by decide)]
    exact ⟨z.1, rfl, b2, b3⟩)
  exact ⟨r, hr, h1, h2⟩
theorem grM_e {N : Nat} (hN : 1241 < N) (read now : Nat → Int32) (a1 a2 a3 a4 a5 a6 a7 a8 a9 a11 a12 a13 v1 : Int32) (wd : Int64) (u : Nat → Int32) (nm rg gr : Nat → Int64) : ∃ r, itr (fun z : (Nat → Int32) × (Nat → Int64) × Int32 => fX12_ring_l123b N a1 a2 a3 a4 a5 a6 a7 a8 a9 wd a11 a12 a13 read u nm rg v1 z.1 z.2.1 z.2.2) N (now, gr, (0 : Int32)) = some r ∧ (∀ j, j < 340 → r.1 j = now j) ∧ (∀ t, t < 16 → r.1 (340 + 2 * t) = -1) ∧ ∀ t, t < 16 → r.2 t = rg t := by
  obtain ⟨r, hr, h1, h2, h3⟩ := itr_inv (body := fun z : (Nat → Int32) × (Nat → Int64) × Int32 => fX12_ring_l123b N a1 a2 a3 a4 a5 a6 a7 a8 a9 wd a11 a12 a13 read u nm rg v1 z.1 z.2.1 z.2.2) (n := N) (b := 16) (s := (now, gr, (0 : Int32))) (fun m z => z.2.2 = nI m ∧ (∀ j, j < 340 → z.1 j = now j) ∧ (∀ t, t < m → z.1 (340 + 2 * t) = -1) ∧ ∀ t, t < m → z.2.1 t = rg t) (fun r => (∀ j, j < 340 → r.1 j = now j) ∧ (∀ t, t < 16 → r.1 (340 + 2 * t) = -1) ∧ ∀ t, t < 16 → r.2 t = rg t) (by omega) ⟨rfl, fun j _ => rfl, fun t ht => absurd ht (Nat.not_lt_zero t), fun t ht => absurd ht (Nat.not_lt_zero t)⟩ (by
    intro m z hm hI
    obtain ⟨b1, b2, b3, b4⟩ := hI
    show ∃ s', fX12_ring_l123b N a1 a2 a3 a4 a5 a6 a7 a8 a9 wd a11 a12 a13 read u nm rg v1 z.1 z.2.1 z.2.2 = some (.inl s') ∧ _
    unfold fX12_ring_l123b
    rw [b1, if_neg (show ¬ (16 : Int32) ≤ nI m from nI_ge (b := 16) hm (by decide)), gdi_nI hm (by decide), gdi_nI hm (by decide), bnd_e, bind_e (putM_e hm _ _ _), bnd_e, nI_clamp (show m < 2 ^ 31 by omega), nI_1]
    refine ⟨_, rfl, rfl, fun j hj => ?_, fun t ht => ?_, fun t ht => ?_⟩
    · show upd (upd z.1 (340 + 2 * m) (-1)) (341 + 2 * m) 0 j = _
      rw [pk_un (by omega), pk_un (by omega), b2 j hj]
    · show upd (upd z.1 (340 + 2 * m) (-1)) (341 + 2 * m) 0 (340 + 2 * t) = _
      rw [pk_un (by omega)]
      by_cases c : t = m
      · rw [c, pk_us]
      · rw [pk_un (by omega), b3 t (by omega)]
    · show vp_updL z.2.1 m (rg m) t = _
      by_cases c : t = m
      · rw [c, pk_uLs]
      · rw [pk_uLn c, b4 t (by omega)]) (by
    intro z hI
    obtain ⟨b1, b2, b3, b4⟩ := hI
    show ∃ r, fX12_ring_l123b N a1 a2 a3 a4 a5 a6 a7 a8 a9 wd a11 a12 a13 read u nm rg v1 z.1 z.2.1 z.2.2 = some (.inr r) ∧ _
    unfold fX12_ring_l123b
    rw [b1, if_pos (show (16 : Int32) ≤ nI 16 by decide)]
    exact ⟨_, rfl, b2, b3, b4⟩)
  exact ⟨r, hr, h1, h2, h3⟩
theorem rd0_e {N : Nat} (hN : 1241 < N) (read : Nat → Int32) (a1 a2 a3 a4 a5 a6 a7 a8 a9 a11 a12 a13 : Int32) (wd : Int64) (u now : Nat → Int32) (nm rg gr : Nat → Int64) : ∃ r, itr (fun z : (Nat → Int32) × Int32 => fX12_ring_l29b N a1 a2 a3 a4 a5 a6 a7 a8 a9 wd a11 a12 a13 now u nm rg gr z.1 z.2) N (read, (0 : Int32)) = some r ∧ ∀ j, j < 20 → r j = 0 := by
  obtain ⟨r, hr, h1⟩ := itr_inv (body := fun z : (Nat → Int32) × Int32 => fX12_ring_l29b N a1 a2 a3 a4 a5 a6 a7 a8 a9 wd a11 a12 a13 now u nm rg gr z.1 z.2) (n := N) (b := 20) (s := (read, (0 : Int32))) (fun m z => z.2 = nI m ∧ ∀ j, j < m → z.1 j = 0) (fun r => ∀ j, j < 20 → r j = 0) (by omega) ⟨rfl, fun j hj => absurd hj (Nat.not_lt_zero j)⟩ (by
    intro m z hm hI
    obtain ⟨b1, b2⟩ := hI
    show ∃ s', fX12_ring_l29b N a1 a2 a3 a4 a5 a6 a7 a8 a9 wd a11 a12 a13 now u nm rg gr z.1 z.2 = some (.inl s') ∧ _
    unfold fX12_ring_l29b
    rw [b1, if_neg (show ¬ (20 : Int32) ≤ nI m from nI_ge (b := 20) hm (by decide)), gdi_nI (show m < 340 by omega) (by decide), bnd_e, bnd_e, nI_clamp (show m < 2 ^ 31 by omega), nI_1]
    refine ⟨_, rfl, rfl, fun j hj => ?_⟩
    show upd z.1 m 0 j = _
    by_cases c : j = m
    · rw [c, pk_us]
    · rw [pk_un c, b2 j (by omega)]) (by
    intro z hI
    obtain ⟨b1, b2⟩ := hI
    show ∃ r, fX12_ring_l29b N a1 a2 a3 a4 a5 a6 a7 a8 a9 wd a11 a12 a13 now u nm rg gr z.1 z.2 = some (.inr r) ∧ _
    unfold fX12_ring_l29b
    rw [b1, if_pos (show (20 : Int32) ≤ nI 20 by decide)]
    exact ⟨z.1, rfl, b2⟩)
  exact ⟨r, hr, h1⟩
set_option maxHeartbeats 8000000 in
set_option maxRecDepth 100000 in
theorem ringC_n {N n : Nat} {t : Nat → Int32} {fk0 Rfk Rfp Rat Rap Rfi Rto Rnu Kl Kle Knx Dl Dt Dp Da Df : Int32} {Ks Kw Kv Kk Rln Rtn DF DP : Nat → Int32} {Dc : Nat → Int64} {rl rt rp ra rf : Int32} {rc : Nat → Int64} {rP rF dg vo lo sh he tn : Nat → Int32} {k p q : Int32} {a3 : Int32} {a4 : Int32} {a5 : Int32} {a6 : Int32} {a7 : Int32} {a8 : Int32} {a9 : Int32} {a10 : Int32} {a11 : (Nat → Int32)} {a12 : (Nat → Int32)} {a13 : (Nat → Int32)} {a14 : (Nat → Int32)} {a15 : Int32} {a16 : Int32} {a17 : Int32} {a18 : Int32} {a19 : Int32} {a20 : (Nat → Int32)} {a21 : (Nat → Int32)} {a22 : (Nat → Int64)} {a23 : (Nat → Int32)} {a24 : (Nat → Int32)} (hT : fX4_readText N Rfk Rfp Rat Rap Rfi Rto Rnu Kl Kle Knx t Ks Kw Kv Kk Dl Dt Dp Da Df Rln Rtn Dc DF DP (nI n) = some (k, p, a3, a4, a5, a6, a7, a8, a9, a10, a11, a12, a13, a14, a15, a16, a17, a18, a19, a20, a21, a22, a23, a24, q)) (hq : q < 0) : fX11_ring N (nI n) fk0 Rfk Rfp Rat Rap Rfi Rto Rnu Kl Kle Knx t Ks Kw Kv Kk Dl Dt Dp Da Df Rln Rtn Dc DF DP rl rt rp ra rf rc rP rF dg vo lo sh he tn = some (0, k, k, p, a3, a4, a5, a6, a7, a8, a9, a10, a11, a12, a13, a14, a15, a16, a17, a18, a19, a20, a21, a22, a23, a24, rl, rt, rp, ra, rf, rc, rP, rF, dg, vo, lo, sh, he, tn, q) := by
  unfold fX11_ring
  rw [bind_e hT]
  show fX11_ring_j11 N (nI n) fk0 k p a3 a4 a5 a6 a7 a8 a9 a10 t a11 a12 a13 a14 a15 a16 a17 a18 a19 a20 a21 a22 a23 a24 rl rt rp ra rf rc rP rF dg vo lo sh he tn q = _
  unfold fX11_ring_j11 fX11_ring_j53
  rw [if_pos hq]
set_option maxHeartbeats 8000000 in
set_option maxRecDepth 100000 in
theorem ringC_p {N n : Nat} {t : Nat → Int32} {fk0 Rfk Rfp Rat Rap Rfi Rto Rnu Kl Kle Knx Dl Dt Dp Da Df : Int32} {Ks Kw Kv Kk Rln Rtn DF DP : Nat → Int32} {Dc : Nat → Int64} {rl rt rp ra rf : Int32} {rc : Nat → Int64} {rP rF dg vo lo sh he tn : Nat → Int32} {k p q : Int32} {a3 : Int32} {a4 : Int32} {a5 : Int32} {a6 : Int32} {a7 : Int32} {a8 : Int32} {a9 : Int32} {a10 : Int32} {a11 : (Nat → Int32)} {a12 : (Nat → Int32)} {a13 : (Nat → Int32)} {a14 : (Nat → Int32)} {a15 : Int32} {a16 : Int32} {a17 : Int32} {a18 : Int32} {a19 : Int32} {a20 : (Nat → Int32)} {a21 : (Nat → Int32)} {a22 : (Nat → Int64)} {a23 : (Nat → Int32)} {a24 : (Nat → Int32)} (hT : fX4_readText N Rfk Rfp Rat Rap Rfi Rto Rnu Kl Kle Knx t Ks Kw Kv Kk Dl Dt Dp Da Df Rln Rtn Dc DF DP (nI n) = some (k, p, a3, a4, a5, a6, a7, a8, a9, a10, a11, a12, a13, a14, a15, a16, a17, a18, a19, a20, a21, a22, a23, a24, q)) (hq : ¬ q < 0) {b1 b2 b3 b4 b5 : Int32} {b6 : Nat → Int64} {b7 b8 e1 e2 e3 e4 e5 e6 : Nat → Int32} (hc : fX5_copyFrom rl rt rp ra rf a15 a16 a17 a18 a19 a22 rc a24 rP a23 rF = some (b1, b2, b3, b4, b5, b6, b7, b8)) (hk : fX8_clear N dg vo b8 lo sh he tn = some (e1, e2, e3, e4, e5, e6)) : fX11_ring N (nI n) fk0 Rfk Rfp Rat Rap Rfi Rto Rnu Kl Kle Knx t Ks Kw Kv Kk Dl Dt Dp Da Df Rln Rtn Dc DF DP rl rt rp ra rf rc rP rF dg vo lo sh he tn = some (0, k, k, p, a3, a4, a5, a6, a7, a8, a9, a10, a11, a12, a13, a14, a15, a16, a17, a18, a19, a20, a21, a22, a23, a24, b1, b2, b3, b4, b5, b6, b7, b8, e1, e2, e3, e4, e5, e6, q) := by
  unfold fX11_ring
  rw [bind_e hT]
  show fX11_ring_j11 N (nI n) fk0 k p a3 a4 a5 a6 a7 a8 a9 a10 t a11 a12 a13 a14 a15 a16 a17 a18 a19 a20 a21 a22 a23 a24 rl rt rp ra rf rc rP rF dg vo lo sh he tn q = _
  unfold fX11_ring_j11
  rw [if_neg hq, bind_e hc]
  unfold fX11_ring_j46 fX11_ring_j53
  rw [bind_e hk]
set_option maxHeartbeats 8000000 in
set_option maxRecDepth 100000 in
theorem text_in {N n : Nat} {t : Nat → Int32} {Rfk Rfp Rat Rap Rfi Rto Rnu Kl Kle Knx Dl Dt Dp Da Df : Int32} {Ks Kw Kv Kk Rln Rtn DF DP : Nat → Int32} {Dc : Nat → Int64} {la : Nat} {nx : Int32} {sa wa va ka : Nat → Int32} (hcut : fX9_cut N Kl Kle Knx t Ks Kw Kv Kk (nI n) = some (nI la, nI n, nx, sa, wa, va, ka)) {Z : C25} (ez : itr (bT N la (nI n) nx (nI n) t sa wa va ka) N (0, 0, 0, 0, 0, Rto, Rnu, 0, 0, 0, 20, 0, Rln, Rtn, Dc, DF, DP, 0) = some (.inr Z)) : fX4_readText N Rfk Rfp Rat Rap Rfi Rto Rnu Kl Kle Knx t Ks Kw Kv Kk Dl Dt Dp Da Df Rln Rtn Dc DF DP (nI n) = some Z := by
  unfold fX4_readText
  rw [bind_e hcut]
  show (itr (bT N la (nI n) nx (nI n) t sa wa va ka) N (0, 0, 0, 0, 0, Rto, Rnu, 0, 0, 0, 20, 0, Rln, Rtn, Dc, DF, DP, 0)).bind _ = _
  rw [bind_e ez]
  rfl
set_option maxHeartbeats 8000000 in
set_option maxRecDepth 100000 in
theorem text_l {N n : Nat} {t : Nat → Int32} {Rfk Rfp Rat Rap Rfi Rto Rnu Kl Kle Knx Dl Dt Dp Da Df : Int32} {Ks Kw Kv Kk Rln Rtn DF DP : Nat → Int32} {Dc : Nat → Int64} {la : Nat} {nx : Int32} {sa wa va ka : Nat → Int32} (hcut : fX9_cut N Kl Kle Knx t Ks Kw Kv Kk (nI n) = some (nI la, nI n, nx, sa, wa, va, ka)) {lines : Nat} {ap fi to1 nu dl dt dp da df : Int32} {ln tn2 dF dP : Nat → Int32} {dc : Nat → Int64} (ez : itr (bT N la (nI n) nx (nI n) t sa wa va ka) N (0, 0, 0, 0, 0, Rto, Rnu, 0, 0, 0, 20, 0, Rln, Rtn, Dc, DF, DP, 0) = some (.inl (0, 0, nI la, ap, fi, to1, nu, dl, dt, dp, da, df, ln, tn2, dc, dF, dP, nI lines))) : fX4_readText N Rfk Rfp Rat Rap Rfi Rto Rnu Kl Kle Knx t Ks Kw Kv Kk Dl Dt Dp Da Df Rln Rtn Dc DF DP (nI n) = fX4_readText_j103 N 0 0 (nI la) ap fi to1 nu (nI la) (nI n) nx t sa wa va ka dl dt dp da df ln tn2 dc dF dP (nI n) (nI lines) := by
  unfold fX4_readText
  rw [bind_e hcut]
  show (itr (bT N la (nI n) nx (nI n) t sa wa va ka) N (0, 0, 0, 0, 0, Rto, Rnu, 0, 0, 0, 20, 0, Rln, Rtn, Dc, DF, DP, 0)).bind _ = _
  rw [bind_e ez]
  rfl
set_option maxHeartbeats 8000000 in
set_option maxRecDepth 100000 in
theorem ringM_r {N n : Nat} {u : Nat → Int32} {b : Int32} {now now1 : Nat → Int32} (hly : LY N b now now1) {th sz mto mfr mkd mnu fo sp td had : Int32} {wd : Int64} {read : Nat → Int32} {nm rg gr : Nat → Int64} {rd1 : Nat → Int32} (er1 : itr (fun z : (Nat → Int32) × Int32 => fX12_ring_l29b N 0 0 (nI n) 0 mfr mkd mnu 0 sp wd td 1 had now1 u nm rg gr z.1 z.2) N (read, (0 : Int32)) = some rd1) {g0 : G5} (eg0 : fX12_go N (nI n) 0 mfr mkd mnu wd u = some g0) {Y : R19} (ey : itr (bR N 0 (nI n) 1 now1 u gr) N (g0.1, g0.2.1, g0.2.2.1, g0.2.2.2.1, 0, sp, g0.2.2.2.2, td, 0, upd rd1 3 20, nm, rg, 0) = some (.inr Y)) : fX12_ring N th (nI n) sz mto mfr mkd mnu fo sp wd td b had now read u nm rg gr = some Y := by
  unfold fX12_ring
  rw [bind_e hly]
  show ((itr (fun z : (Nat → Int32) × Int32 => fX12_ring_l29b N 0 0 (nI n) 0 mfr mkd mnu 0 sp wd td 1 had now1 u nm rg gr z.1 z.2) N (read, (0 : Int32))).bind _) = _
  rw [bind_e er1, gdi_e (i := 3) (n := 340) 3 rfl (by decide) (by decide), bnd_e]
  show ((fX12_go N (nI n) 0 mfr mkd mnu wd u).bind _) = _
  rw [bind_e eg0]
  show ((itr (bR N 0 (nI n) 1 now1 u gr) N (g0.1, g0.2.1, g0.2.2.1, g0.2.2.2.1, 0, sp, g0.2.2.2.2, td, 0, upd rd1 3 20, nm, rg, 0)).bind _) = _
  rw [bind_e ey]
  rfl
set_option maxHeartbeats 8000000 in
set_option maxRecDepth 100000 in
theorem ringM_l {N n : Nat} {u : Nat → Int32} {b : Int32} {now now1 : Nat → Int32} (hly : LY N b now now1) {th sz mto mfr mkd mnu fo sp td had : Int32} {wd : Int64} {read : Nat → Int32} {nm rg gr : Nat → Int64} {rd1 : Nat → Int32} (er1 : itr (fun z : (Nat → Int32) × Int32 => fX12_ring_l29b N 0 0 (nI n) 0 mfr mkd mnu 0 sp wd td 1 had now1 u nm rg gr z.1 z.2) N (read, (0 : Int32)) = some rd1) {g0 : G5} (eg0 : fX12_go N (nI n) 0 mfr mkd mnu wd u = some g0) {lines : Nat} {x1 x2 x3 x4 td' had' : Int32} {w' : Int64} {read' rd3 : Nat → Int32} {nm' rg' : Nat → Int64} {rd4 : (Nat → Int32) × (Nat → Int64)} (ey : itr (bR N 0 (nI n) 1 now1 u gr) N (g0.1, g0.2.1, g0.2.2.1, g0.2.2.2.1, 0, sp, g0.2.2.2.2, td, 0, upd rd1 3 20, nm, rg, 0) = some (.inl (x1, x2, x3, x4, 0, sp, w', td', had', read', nm', rg', nI lines))) (e3 : itr (fun z : (Nat → Int32) × Int32 => fX12_ring_l96b N 0 0 (nI n) x1 x2 x3 x4 0 sp w' td' 1 had' read' u nm' rg' gr (nI lines) z.1 z.2) N (now1, (0 : Int32)) = some rd3) (e4 : itr (fun z : (Nat → Int32) × (Nat → Int64) × Int32 => fX12_ring_l123b N 0 0 (nI n) x1 x2 x3 x4 0 sp w' td' 1 had' read' u nm' rg' (nI lines) z.1 z.2.1 z.2.2) N (rd3, gr, (0 : Int32)) = some rd4) : fX12_ring N th (nI n) sz mto mfr mkd mnu fo sp wd td b had now read u nm rg gr = some (0, 0, nI n, x1, x2, x3, x4, 0, sp, w', td', 1, had', rd4.1, read', nm', rg', rd4.2, nI lines) := by
  unfold fX12_ring
  rw [bind_e hly]
  show ((itr (fun z : (Nat → Int32) × Int32 => fX12_ring_l29b N 0 0 (nI n) 0 mfr mkd mnu 0 sp wd td 1 had now1 u nm rg gr z.1 z.2) N (read, (0 : Int32))).bind _) = _
  rw [bind_e er1, gdi_e (i := 3) (n := 340) 3 rfl (by decide) (by decide), bnd_e]
  show ((fX12_go N (nI n) 0 mfr mkd mnu wd u).bind _) = _
  rw [bind_e eg0]
  show ((itr (bR N 0 (nI n) 1 now1 u gr) N (g0.1, g0.2.1, g0.2.2.1, g0.2.2.2.1, 0, sp, g0.2.2.2.2, td, 0, upd rd1 3 20, nm, rg, 0)).bind _) = _
  rw [bind_e ey]
  show ((itr (fun z : (Nat → Int32) × Int32 => fX12_ring_l96b N 0 0 (nI n) x1 x2 x3 x4 0 sp w' td' 1 had' read' u nm' rg' gr (nI lines) z.1 z.2) N (now1, (0 : Int32))).bind _) = _
  rw [bind_e e3]
  show ((itr (fun z : (Nat → Int32) × (Nat → Int64) × Int32 => fX12_ring_l123b N 0 0 (nI n) x1 x2 x3 x4 0 sp w' td' 1 had' read' u nm' rg' (nI lines) z.1 z.2.1 z.2.2) N (rd3, gr, (0 : Int32))).bind _) = _
  rw [bind_e e4]

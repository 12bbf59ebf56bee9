/-! a run of letters and digits, cut by the class and by the reference -/
def rl (t : Nat → Int32) (n s : Nat) : Nat := fa_first (fun j => !anB (t (s + j))) (n - s)
theorem rl_le {t : Nat → Int32} {n s : Nat} (hs : s ≤ n) : s + rl t n s ≤ n := by
  have := fa_first_le (fun j => !anB (t (s + j))) (n - s)
  unfold rl
  omega
theorem rl_in {t : Nat → Int32} {n s j : Nat} (h : j < rl t n s) : anB (t (s + j)) = true := by
  have h1 : (!anB (t (s + j))) = false := fa_first_no (fun j => !anB (t (s + j))) (n - s) j h
  cases q : anB (t (s + j)) with
  | true => rfl
  | false =>
    rw [q] at h1
    exact absurd h1 (by decide)
theorem rl_out {t : Nat → Int32} {n s : Nat} (hs : s ≤ n) (h : s + rl t n s < n) : anB (t (s + rl t n s)) = false := by
  have h0 : fa_first (fun j => !anB (t (s + j))) (n - s) < n - s := by
    unfold rl at h
    omega
  have h1 : (!anB (t (s + rl t n s))) = true := fa_first_yes (fun j => !anB (t (s + j))) (n - s) h0
  cases q : anB (t (s + rl t n s)) with
  | false => rfl
  | true =>
    rw [q] at h1
    exact absurd h1 (by decide)
theorem rl_pos {t : Nat → Int32} {n s : Nat} (hs : s < n) (h : anB (t s) = true) : 1 ≤ rl t n s := by
  rcases Nat.eq_zero_or_pos (rl t n s) with q | q
  · have h1 := rl_out (t := t) (n := n) (s := s) (by omega) (by omega)
    rw [q, Nat.add_zero, h] at h1
    exact absurd h1 (by decide)
  · exact q
theorem an_f {x : Int32} (h : anB x = false) : leB x = false ∧ diB x = false := by
  unfold anB at h
  exact Bool.or_eq_false_iff.mp h
theorem an_d {x : Int32} (h : anB x = true) (q : leB x = false) : diB x = true := by
  unfold anB at h
  rw [q, Bool.false_or] at h
  exact h
theorem j50_e {N q : Nat} (hq : q < 1240) (la le v1 v2 v3 : Int32) (t va ka wo : Nat → Int32) : fX9_cutRun_j50 N la le (nI q) t va ka wo v1 v2 v3 = some (.inl (nI (q + 1), (if leB (t q) = true then v2 + 1 else v2), (if leB (t q) = true then v3 * 27 + t q - 97 + 1 else v3 * 10 + t q - 48))) := by
  unfold fX9_cutRun_j50
  rw [gdi_nI hq (by decide), nI_clamp (by omega), bind_e (isLetC _)]
  cases h : leB (t q) with
  | true =>
    rw [b01_t, if_neg (by decide), bnd_e, gdi_nI hq (by decide), if_pos rfl, if_pos rfl]
    show some (Sum.inl (nI q + 1, _, _)) = _
    rw [nI_1]
  | false =>
    rw [b01_f, if_pos rfl, gdi_nI hq (by decide), if_neg (by decide), if_neg (by decide)]
    show some (Sum.inl (nI q + 1, _, _)) = _
    rw [nI_1]
theorem lcN_s (t : Nat → Int32) (s j : Nat) : lcN t s (j + 1) = lcN t s j + (if leB (t (s + j)) = true then 1 else 0) := rfl
theorem runC {N n s : Nat} (hN : 1240 < N) (hn : n ≤ 1240) (hs : s ≤ n) (t va ka wo : Nat → Int32) (la v1 : Int32) : itr (fun z => fX9_cutRun_l9b N la (nI n) t va ka wo v1 z.1 z.2.1 z.2.2) N (nI s, (0 : Int32), (0 : Int32)) = some (nI (s + rl t n s), nI (lcN t s (rl t n s)), vcC t s (rl t n s)) := by
  have hm := rl_le (t := t) hs
  rw [show ((nI s, (0 : Int32), (0 : Int32)) : Int32 × Int32 × Int32) = (fun j => (nI (s + j), nI (lcN t s j), vcC t s j)) 0 from rfl]
  refine itr_0 (fun j => (nI (s + j), nI (lcN t s j), vcC t s j)) (rl t n s) (by omega) ?_ ?_
  · show fX9_cutRun_l9b N la (nI n) t va ka wo v1 (nI (s + rl t n s)) (nI (lcN t s (rl t n s))) (vcC t s (rl t n s)) = _
    unfold fX9_cutRun_l9b
    by_cases c : s + rl t n s < n
    · obtain ⟨h1, h2⟩ := an_f (rl_out hs c)
      rw [if_neg (nI_ge c (by omega)), gdi_nI (by omega) (by decide), nI_clamp (by omega), bind_e (isLetC _), h1, b01_f, if_pos rfl, gdi_nI (by omega) (by decide), bind_e (isDigC _), h2, b01_f, if_pos rfl]
    · rw [if_pos (nI_le (by omega) (by omega))]
  · intro j hj
    show fX9_cutRun_l9b N la (nI n) t va ka wo v1 (nI (s + j)) (nI (lcN t s j)) (vcC t s j) = _
    unfold fX9_cutRun_l9b
    have ha := rl_in hj
    have e1 : fX9_cutRun_j50 N la (nI n) (nI (s + j)) t va ka wo v1 (nI (lcN t s j)) (vcC t s j) = some (.inl (nI (s + (j + 1)), nI (lcN t s (j + 1)), vcC t s (j + 1))) := by
      rw [j50_e (by omega), lcN_s]
      show some (Sum.inl (nI (s + j + 1), _, vcC t s (j + 1))) = _
      by_cases h : leB (t (s + j)) = true
      · rw [if_pos h, if_pos h, nI_1]
        rfl
      · rw [if_neg h, if_neg h]
        rfl
    rw [if_neg (nI_ge (show s + j < n by omega) (by omega)), gdi_nI (by omega) (by decide), nI_clamp (by omega), bind_e (isLetC _)]
    cases h : leB (t (s + j)) with
    | true =>
      rw [b01_t, if_neg (by decide), e1]
    | false =>
      rw [b01_f, if_pos rfl, gdi_nI (by omega) (by decide), bind_e (isDigC _), an_d ha h, b01_t, if_neg (by decide), e1]
/-- all signs of a run as the first one -/
def gdM (u : Nat → Int32) (s : Nat) (l0 : Bool) : Nat → Bool
  | 0 => true
  | j + 1 => gdM u s l0 j && (leB (u (s + j)) == l0)
theorem gdM_e {u : Nat → Int32} {s : Nat} {l0 : Bool} : ∀ j, gdM u s l0 j = true ↔ ∀ k, k < j → leB (u (s + k)) = l0
  | 0 => ⟨fun _ k hk => absurd hk (Nat.not_lt_zero k), fun _ => rfl⟩
  | j + 1 => by
    show (gdM u s l0 j && (leB (u (s + j)) == l0)) = true ↔ _
    rw [Bool.and_eq_true, gdM_e j, beq_iff_eq]
    constructor
    · intro h k hk
      by_cases c : k = j
      · rw [c]
        exact h.2
      · exact h.1 k (by omega)
    · intro h
      exact ⟨fun k hk => h k (by omega), h j (by omega)⟩
theorem byteAt_e {n q : Nat} (hn : n ≤ 1240) (hq : q ≤ 1240) (u : Nat → Int32) : fX12_byteAt (nI n) u (nI q) = some (if n ≤ q then 0 else u q) := by
  unfold fX12_byteAt
  by_cases c : n ≤ q
  · rw [if_pos (nI_le c (by omega)), if_pos c]
  · rw [if_neg (nI_ge (by omega) (by omega)), if_neg c, gdi_nI (by omega) (by decide), nI_clamp (by omega)]
theorem j234_e {N s j : Nat} (hj : s + j < 1240) (sz k nu v2 x g : Int32) (w : Int64) (u : Nat → Int32) : fX12_go_j234 N sz (nI (s + j)) (nI s) k nu w u v2 x g = some (.inl (nI (s + (j + 1)), (if j < 4 then 10 * nu + x - 48 else nu), (if j < 6 then 27 * w + x.toInt64 - 96 else w), g)) := by
  have e1 : nI (s + j) - nI s = nI j := by rw [pk_sub (by omega), show s + j - s = j by omega]
  have e2 : ∀ w, fX12_go_j269 N sz (nI (s + j)) (nI s) k nu w u v2 g x = some (.inl (nI (s + (j + 1)), (if j < 4 then 10 * nu + x - 48 else nu), w, g)) := by
    intro w
    unfold fX12_go_j269
    rw [e1]
    by_cases c : j < 4
    · rw [if_neg (show ¬ (4 : Int32) ≤ nI j from nI_ge (b := 4) c (by decide)), if_pos c]
      show some (Sum.inl (nI (s + j) + 1, _, w, g)) = _
      rw [nI_1]
      rfl
    · rw [if_pos (show (4 : Int32) ≤ nI j from nI_le (a := 4) (by omega) (by omega)), if_neg c]
      show some (Sum.inl (nI (s + j) + 1, nu, w, g)) = _
      rw [nI_1]
      rfl
  unfold fX12_go_j234
  rw [e1]
  by_cases c : j < 6
  · rw [if_neg (show ¬ (6 : Int32) ≤ nI j from nI_ge (b := 6) c (by decide)), if_pos c, bnd_e, e2]
  · rw [if_pos (show (6 : Int32) ≤ nI j from nI_le (a := 6) (by omega) (by omega)), if_neg c, e2]
theorem b01_eq (a b : Bool) : b01 a = b01 b ↔ a = b := by
  cases a <;> cases b <;> decide
theorem b01_n0 {a : Bool} (h : a = true) : ¬ b01 a = 0 := by
  subst h
  decide
theorem j205_e {N s j : Nat} (hj : s + j < 1240) (sz k nu : Int32) (l0 g : Bool) (w : Int64) (u : Nat → Int32) : fX12_go_j205 N sz (nI (s + j)) (nI s) k nu w u (b01 l0) (b01 g) = some (.inl (nI (s + (j + 1)), (if j < 4 then 10 * nu + u (s + j) - 48 else nu), (if j < 6 then 27 * w + (u (s + j)).toInt64 - 96 else w), b01 (g && (leB (u (s + j)) == l0)))) := by
  unfold fX12_go_j205
  rw [gdi_nI hj (by decide), nI_clamp (by omega), bnd_e]
  cases g with
  | false =>
    rw [b01_f, if_pos rfl]
    unfold fX12_go_j233
    rw [j234_e hj]
    rfl
  | true =>
    rw [b01_t, if_neg (by decide), bind_e (isLetM _), Bool.true_and]
    by_cases c : leB (u (s + j)) = l0
    · rw [if_pos ((b01_eq _ _).mpr c), j234_e hj, beq_iff_eq.mpr c]
      rfl
    · rw [if_neg (fun q => c ((b01_eq _ _).mp q))]
      unfold fX12_go_j233
      rw [j234_e hj, beq_eq_false_iff_ne.mpr c]
      rfl
theorem runM {N n s : Nat} {t u : Nat → Int32} (hN : 1240 < N) (hn : n ≤ 1240) (hs : s ≤ n) (h : TU t u) (k : Int32) (l0 : Bool) : itr (fun z => fX12_go_l177b N (nI n) (nI s) k u (b01 l0) z.1 z.2.1 z.2.2.1 z.2.2.2) N (nI s, (0 : Int32), (0 : Int64), (1 : Int32)) = some (nI (s + rl t n s), nuM u s (rl t n s), wdM u s (rl t n s), b01 (gdM u s l0 (rl t n s))) := by
  have hm := rl_le (t := t) hs
  rw [show ((nI s, (0 : Int32), (0 : Int64), (1 : Int32)) : Int32 × Int32 × Int64 × Int32) = (fun j => (nI (s + j), nuM u s j, wdM u s j, b01 (gdM u s l0 j))) 0 from rfl]
  refine itr_0 (fun j => (nI (s + j), nuM u s j, wdM u s j, b01 (gdM u s l0 j))) (rl t n s) (by omega) ?_ ?_
  · show fX12_go_l177b N (nI n) (nI s) k u (b01 l0) (nI (s + rl t n s)) (nuM u s (rl t n s)) (wdM u s (rl t n s)) (b01 (gdM u s l0 (rl t n s))) = _
    unfold fX12_go_l177b
    rw [bind_e (byteAt_e hn (by omega) u), bind_e (isLetM _)]
    by_cases c : s + rl t n s < n
    · obtain ⟨h1, h2⟩ := an_f (rl_out hs c)
      rw [if_neg (show ¬ n ≤ s + rl t n s by omega), TU_le h (show s + rl t n s < 1240 by omega), h1, b01_f, if_pos rfl, bind_e (byteAt_e hn (by omega) u), bind_e (isDigM _), if_neg (show ¬ n ≤ s + rl t n s by omega), TU_di h (show s + rl t n s < 1240 by omega), h2, b01_f, if_pos rfl]
    · rw [if_pos (show n ≤ s + rl t n s by omega), show leB 0 = false by decide, b01_f, if_pos rfl, bind_e (byteAt_e hn (by omega) u), bind_e (isDigM _), if_pos (show n ≤ s + rl t n s by omega), show diB 0 = false by decide, b01_f, if_pos rfl]
  · intro j hj
    show fX12_go_l177b N (nI n) (nI s) k u (b01 l0) (nI (s + j)) (nuM u s j) (wdM u s j) (b01 (gdM u s l0 j)) = _
    unfold fX12_go_l177b
    have ha := rl_in hj
    rw [bind_e (byteAt_e hn (by omega) u), bind_e (isLetM _), if_neg (show ¬ n ≤ s + j by omega), TU_le h (show s + j < 1240 by omega)]
    cases q : leB (t (s + j)) with
    | true =>
      rw [b01_t, if_neg (by decide), j205_e (by omega)]
      rfl
    | false =>
      rw [b01_f, if_pos rfl, bind_e (byteAt_e hn (by omega) u), bind_e (isDigM _), if_neg (show ¬ n ≤ s + j by omega), TU_di h (show s + j < 1240 by omega), an_d ha q, b01_t, if_neg (by decide), j205_e (by omega)]
      rfl
/-! a token, as the class cuts it and as the reference sees it -/
def enT (t : Nat → Int32) (n s : Nat) : Nat := if anB (t s) = true then s + rl t n s else s + 1
def kC (t : Nat → Int32) (n s : Nat) : Int32 := if anB (t s) = true then (if lcN t s (rl t n s) = 0 then (if 4 < rl t n s then 1 else 3) else (if lcN t s (rl t n s) = rl t n s then (if 6 < rl t n s then 1 else (if lya t s (s + rl t n s) = -1 then 4 else 5)) else 1)) else (if t s = 59 then 2 else 1)
def wC (t : Nat → Int32) (n s : Nat) : Int32 := if anB (t s) = true ∧ ¬ lcN t s (rl t n s) = 0 ∧ lcN t s (rl t n s) = rl t n s ∧ ¬ 6 < rl t n s then lya t s (s + rl t n s) else -1
def TD (kc vc wc km nm : Int32) (wm : Int64) : Prop :=
  (kc = 1 ∧ km = 1 ∧ wc = -1) ∨ (kc = 2 ∧ km = 4 ∧ wc = -1) ∨ (kc = 3 ∧ km = 3 ∧ wc = -1 ∧ ∃ v, v ≤ 9999 ∧ vc = nI v ∧ nm = nI v) ∨ (km = 2 ∧ ∃ v, v < 2 ^ 30 ∧ vc = nI v ∧ wm = lN v ∧ ((kc = 4 ∧ wc = -1 ∧ ∀ k, k < 15 → ¬ v = wv k) ∨ (kc = 5 ∧ ∃ k, k < 15 ∧ wc = nI k ∧ v = wv k)))
theorem lcN_le (t : Nat → Int32) (s m : Nat) : lcN t s m ≤ m := fb_ct_le _ m

/-! BARRED, the whole -/
def ors (f : Nat → Int32) : Nat → Int32
  | 0 => 0
  | k + 1 => ors f k ||| f k
theorem and_not (b h : Int32) : (b ||| h) &&& (h ^^^ -1) = b &&& (h ^^^ -1) := by
  apply Int32.toBitVec_inj.mp
  rw [Int32.toBitVec_and, Int32.toBitVec_and, Int32.toBitVec_or, Int32.toBitVec_xor]
  apply BitVec.eq_of_getLsbD_eq
  intro i hi
  have e : ∀ i, i < 32 → (-1 : Int32).toBitVec.getLsbD i = true := by decide +kernel
  rw [BitVec.getLsbD_and, BitVec.getLsbD_and, BitVec.getLsbD_or, BitVec.getLsbD_xor, e i hi]
  cases b.toBitVec.getLsbD i <;> cases h.toBitVec.getLsbD i <;> rfl
theorem ors_split (c : Nat → Prop) (dc : ∀ k, Decidable (c k)) (f : Nat → Int32) : ∀ n, ors f n = ors (fun k => if c k then f k else 0) n ||| ors (fun k => if c k then 0 else f k) n
  | 0 => by
    show (0 : Int32) = 0 ||| 0
    exact Int32.or_zero.symm
  | n + 1 => by
    show ors f n ||| f n = (ors (fun k => if c k then f k else 0) n ||| (if c n then f n else 0)) ||| (ors (fun k => if c k then 0 else f k) n ||| (if c n then 0 else f n))
    rw [ors_split c dc f n]
    generalize ors (fun k => if c k then f k else 0) n = x
    generalize ors (fun k => if c k then 0 else f k) n = y
    by_cases h : c n
    · rw [if_pos h, if_pos h, Int32.or_zero, Int32.or_assoc, Int32.or_assoc, Int32.or_comm y]
    · rw [if_neg h, if_neg h, Int32.or_zero, Int32.or_assoc]
set_option maxHeartbeats 1000000 in
theorem barredBy_e {N T L P A t u : Nat} {day x3 b rl rt rp ra rf : Int32} {rc gr : Nat → Int64} {rP rF now : Nat → Int32} (hN : 1802 < N) (h : IR1 T L P A rl rt rp ra rf rc rP rF now gr) (hF : IF1 T L rF) (ht : t < T) (hu : u < T) : ∃ K : Int32, fX3_barredBy N rp ra rf rF rc rP (nI u) (nI t) day = some K ∧ ∀ v4 v5 : Int32, fX12_barred_l44b N 0 b now gr (nI t) day x3 v4 v5 (nI u) = some (.inl (v4 ||| K, v5 ||| (if rF (14 * u + 12) = -1 then 0 else K), nI (u + 1))) := by
  have hT : T ≤ 16 := h.1.1
  have hA : A ≤ 300 := h.1.2.2.2
  have n1 : now 1 = nI T := h.2.2.1.2.1
  have hF2 := h.2.2.2.2.1
  have z0 : ∀ v : Int32, v ||| 0 = v := fun v => Int32.or_zero
  -- nothing is barred
  have none_ : ∀ e : Prop, (e → fX3_barredBy N rp ra rf rF rc rP (nI u) (nI t) day = some 0) → (e → ∀ v4 v5 : Int32, fX12_barred_l44b N 0 b now gr (nI t) day x3 v4 v5 (nI u) = some (.inl (v4, v5, nI (u + 1)))) → e → ∃ K : Int32, fX3_barredBy N rp ra rf rF rc rP (nI u) (nI t) day = some K ∧ ∀ v4 v5 : Int32, fX12_barred_l44b N 0 b now gr (nI t) day x3 v4 v5 (nI u) = some (.inl (v4 ||| K, v5 ||| (if rF (14 * u + 12) = -1 then 0 else K), nI (u + 1))) := by
    intro e h1 h2 he
    refine ⟨0, h1 he, fun v4 v5 => ?_⟩
    rw [h2 he v4 v5, ite_self, z0, z0]
  by_cases c0 : u = t
  · refine none_ True (fun _ => ?_) (fun _ v4 v5 => ?_) trivial
    · unfold fX3_barredBy
      rw [if_pos (by rw [c0])]
    · unfold fX12_barred_l44b
      rw [bind_e (things_e n1), if_neg (nI_ge hu (by omega)), if_pos (by rw [c0]), bnd_e, nI_1]
  · have cn : ¬ nI u = nI t := fun q => c0 ((nI_eq (by omega) (by omega)).mp q)
    have gC := goodC_e (t := u) (by omega) rF day
    have gM := goodM_e (t := u) (by omega) now day
    rw [← hF2 u hu 10 (by decide), ← hF2 u hu 11 (by decide), ← hF2 u hu 12 (by decide)] at gM
    by_cases c1 : go (rF (14 * u + 10)) (rF (14 * u + 11)) (rF (14 * u + 12)) day = 0
    · refine none_ True (fun _ => ?_) (fun _ v4 v5 => ?_) trivial
      · unfold fX3_barredBy
        rw [if_neg cn, bind_e gC, if_pos c1]
      · unfold fX12_barred_l44b
        rw [bind_e (things_e n1), if_neg (nI_ge hu (by omega)), if_neg cn, bind_e gM, if_pos c1, bnd_e, nI_1]
    · obtain ⟨r, rC, rM⟩ := right_e hN h hF hu ht day
      have wC : fX3_wasThereBy rF (nI u) day = some (if rF (14 * u + 12) = -1 then 0 else (if day < rF (14 * u + 12) then 0 else 1)) := by
        unfold fX3_wasThereBy
        rw [bind_e (told_x (w := 12) (c := 12) rfl (by omega) (by decide) rF)]
        by_cases q : rF (14 * u + 12) = -1
        · rw [if_pos q, if_pos q]
        · rw [if_neg q, if_neg q]
          by_cases q2 : day < rF (14 * u + 12)
          · rw [if_pos q2, if_pos q2]
          · rw [if_neg q2, if_neg q2]
      by_cases c2 : ¬ rF (14 * u + 12) = -1 ∧ ¬ day < rF (14 * u + 12)
      · refine none_ True (fun _ => ?_) (fun _ v4 v5 => ?_) trivial
        · unfold fX3_barredBy
          rw [if_neg cn, bind_e gC, if_neg c1, bind_e wC, if_neg c2.1, if_neg c2.2, if_neg (show ¬ (1 : Int32) = 0 by decide)]
        · unfold fX12_barred_l44b
          rw [bind_e (things_e n1), if_neg (nI_ge hu (by omega)), if_neg cn, bind_e gM, if_neg c1, bind_e rM]
          by_cases c3 : r = 1
          · rw [if_pos c3, bind_e (ofM_x (w := 12) (c := 12) rfl (by omega) (by decide) now), ← hF2 u hu 12 (by decide), if_neg c2.1, bind_e (ofM_x (w := 12) (c := 12) rfl (by omega) (by decide) now), ← hF2 u hu 12 (by decide), if_neg c2.2, bnd_e, nI_1]
          · rw [if_neg c3, bnd_e, nI_1]
      · have w0 : (if rF (14 * u + 12) = -1 then (0 : Int32) else (if day < rF (14 * u + 12) then 0 else 1)) = 0 := by
          by_cases q : rF (14 * u + 12) = -1
          · rw [if_pos q]
          · rw [if_neg q]
            by_cases q2 : day < rF (14 * u + 12)
            · rw [if_pos q2]
            · exact absurd ⟨q, q2⟩ c2
        by_cases c3 : r = 1
        · obtain ⟨m, hm, mC, mM⟩ := middle_e h hF hu
          refine ⟨bm (isB rF rP t m (nd A rF rc u t)) P, ?_, fun v4 v5 => ?_⟩
          · unfold fX3_barredBy
            rw [if_neg cn, bind_e gC, if_neg c1, bind_e wC, w0, if_pos rfl, bind_e rC, if_pos c3, h.2.1.2.2.2, bind_e (needC_e hT hA hF hu ht), bind_e mC, h.2.1.2.2.1, bind_e (barredLoopC (N := N) (by omega) h ht hm)]
          · have j : fX12_barred_j108 N 0 b now gr (nI t) day x3 v4 v5 (nI u) = some (.inl (v4 ||| bm (isB rF rP t m (nd A rF rc u t)) P, v5 ||| (if rF (14 * u + 12) = -1 then 0 else bm (isB rF rP t m (nd A rF rc u t)) P), nI (u + 1))) := by
              unfold fX12_barred_j108
              rw [bind_e (needM_e hN h hF ht hu), nd_comm A rF rc t u, bind_e (barredLoopM (by omega) h ht hu hm mM), bnd_e, nI_1]
            unfold fX12_barred_l44b
            rw [bind_e (things_e n1), if_neg (nI_ge hu (by omega)), if_neg cn, bind_e gM, if_neg c1, bind_e rM, if_pos c3, bind_e (ofM_x (w := 12) (c := 12) rfl (by omega) (by decide) now), ← hF2 u hu 12 (by decide)]
            by_cases q : rF (14 * u + 12) = -1
            · rw [if_pos q]
              exact j
            · rw [if_neg q, bind_e (ofM_x (w := 12) (c := 12) rfl (by omega) (by decide) now), ← hF2 u hu 12 (by decide)]
              by_cases q2 : day < rF (14 * u + 12)
              · rw [if_pos q2]
                exact j
              · exact absurd ⟨q, q2⟩ c2
        · refine none_ True (fun _ => ?_) (fun _ v4 v5 => ?_) trivial
          · unfold fX3_barredBy
            rw [if_neg cn, bind_e gC, if_neg c1, bind_e wC, w0, if_pos rfl, bind_e rC, if_neg c3]
          · unfold fX12_barred_l44b
            rw [bind_e (things_e n1), if_neg (nI_ge hu (by omega)), if_neg cn, bind_e gM, if_neg c1, bind_e rM, if_neg c3, bnd_e, nI_1]
set_option maxHeartbeats 1000000 in
theorem p_barred {N T L P A : Nat} {rl rt rp ra rf b th : Int32} {rc gr : Nat → Int64} {rP rF now now1 : Nat → Int32} (hN : 1802 < N) (h : IR1 T L P A rl rt rp ra rf rc rP rF now1 gr) (hF : IF1 T L rF) (hl : LY N b now now1) (x y z : Int32) : ∃ r : Int32, fX11_barred N rt rp ra rf rF rc rP x y z = some r ∧ fX12_barred N th b now gr x y z = some (0, 1, now1, r) := by
  have h' := h
  obtain ⟨⟨hT, hL, hP, hA⟩, ⟨er, -, -, -⟩, ⟨n0, n1, n2, n3, n4, hf0⟩, hp, hF2, hc⟩ := h
  unfold fX11_barred fX12_barred
  rw [bind_e hl, er]
  rcases th_cases x hT with h0 | ⟨t, ht, rfl⟩
  · refine ⟨-1, ?_, ?_⟩
    · rw [bind_e (has_no h0), if_pos rfl]
    · rw [bind_e (isThing_no n1 h0), if_pos rfl]
  · rw [bind_e (has_yes ht hT), bind_e (isThing_yes n1 ht hT), if_neg (show ¬ (1 : Int32) = 0 by decide), if_neg (show ¬ (1 : Int32) = 0 by decide)]
    rcases in_cases y (n := 1000) (by decide) with h1 | ⟨d, hd, rfl⟩
    · refine ⟨-1, ?_, ?_⟩
      · rw [bind_e (isDay_no h1).1, if_pos rfl]
      · rw [bind_e (isDay_no h1).2, if_pos rfl]
    · rw [bind_e (isDay_yes hd).1, bind_e (isDay_yes hd).2, if_neg (show ¬ (1 : Int32) = 0 by decide), if_neg (show ¬ (1 : Int32) = 0 by decide)]
      have hK : ∀ u : Nat, ∃ K : Int32, u < T → fX3_barredBy N rp ra rf rF rc rP (nI u) (nI t) (nI d) = some K ∧ ∀ v4 v5 : Int32, fX12_barred_l44b N 0 1 now1 gr (nI t) (nI d) z v4 v5 (nI u) = some (.inl (v4 ||| K, v5 ||| (if rF (14 * u + 12) = -1 then 0 else K), nI (u + 1))) := by
        intro u
        by_cases c : u < T
        · obtain ⟨K, k1, k2⟩ := barredBy_e (day := nI d) (x3 := z) (b := 1) hN h' hF ht c
          exact ⟨K, fun _ => ⟨k1, k2⟩⟩
        · exact ⟨0, fun c2 => absurd c2 c⟩
      obtain ⟨K, hK⟩ := Classical.skolem.mp hK
      have lM : itr (fun w => fX12_barred_l44b N 0 1 now1 gr (nI t) (nI d) z w.1 w.2.1 w.2.2) N ((0 : Int32), (0 : Int32), (0 : Int32)) = some (ors K T, ors (fun u => if rF (14 * u + 12) = -1 then 0 else K u) T) := by
        rw [show (((0 : Int32), (0 : Int32), (0 : Int32)) : Int32 × Int32 × Int32) = (fun k => (ors K k, ors (fun u => if rF (14 * u + 12) = -1 then 0 else K u) k, nI k)) 0 from rfl]
        refine itr_0 (fun k => (ors K k, ors (fun u => if rF (14 * u + 12) = -1 then 0 else K u) k, nI k)) T (by omega) ?_ (fun k hk => ?_)
        · show fX12_barred_l44b N 0 1 now1 gr (nI t) (nI d) z (ors K T) (ors (fun u => if rF (14 * u + 12) = -1 then 0 else K u) T) (nI T) = _
          unfold fX12_barred_l44b
          rw [bind_e (things_e n1), if_pos (nI_le (Nat.le_refl T) (by omega))]
        · show fX12_barred_l44b N 0 1 now1 gr (nI t) (nI d) z (ors K k) (ors (fun u => if rF (14 * u + 12) = -1 then 0 else K u) k) (nI k) = _
          rw [(hK k hk).2]
          rfl
      have lC : fX3_barredFor N (nI T) rp ra rf rF rc rP (nI t) (nI d) = some (ors K T) := by
        unfold fX3_barredFor
        rw [show (((0 : Int32), (0 : Int32)) : Int32 × Int32) = (fun k => (ors K k, nI k)) 0 from rfl, itr_0 (r := ors K T) (fun k => (ors K k, nI k)) T (by omega) ?_ ?_]
        · rfl
        · show fX3_barredFor_l5b N (nI T) rp ra rf rF rc rP (nI t) (nI d) (ors K T) (nI T) = _
          unfold fX3_barredFor_l5b
          rw [if_pos (nI_le (Nat.le_refl T) (by omega))]
        · intro k hk
          show fX3_barredFor_l5b N (nI T) rp ra rf rF rc rP (nI t) (nI d) (ors K k) (nI k) = _
          unfold fX3_barredFor_l5b
          rw [if_neg (nI_ge hk (by omega)), bind_e (hK k hk).1, bnd_e, bnd_e, nI_1]
          rfl
      have lD : fX3_clearedFor N (nI T) rp ra rf rF rc rP (nI t) (nI d) = some (ors (fun u => if rF (14 * u + 12) = -1 then K u else 0) T &&& (ors (fun u => if rF (14 * u + 12) = -1 then 0 else K u) T ^^^ -1)) := by
        unfold fX3_clearedFor
        rw [show (((0 : Int32), (0 : Int32), (0 : Int32)) : Int32 × Int32 × Int32) = (fun k => (ors (fun u => if rF (14 * u + 12) = -1 then K u else 0) k, ors (fun u => if rF (14 * u + 12) = -1 then 0 else K u) k, nI k)) 0 from rfl, itr_0 (r := (ors (fun u => if rF (14 * u + 12) = -1 then K u else 0) T, ors (fun u => if rF (14 * u + 12) = -1 then 0 else K u) T)) (fun k => (ors (fun u => if rF (14 * u + 12) = -1 then K u else 0) k, ors (fun u => if rF (14 * u + 12) = -1 then 0 else K u) k, nI k)) T (by omega) ?_ ?_]
        · rfl
        · show fX3_clearedFor_l8b N (nI T) rp ra rf rF rc rP (nI t) (nI d) _ _ (nI T) = _
          unfold fX3_clearedFor_l8b
          rw [if_pos (nI_le (Nat.le_refl T) (by omega))]
        · intro k hk
          show fX3_clearedFor_l8b N (nI T) rp ra rf rF rc rP (nI t) (nI d) (ors (fun u => if rF (14 * u + 12) = -1 then K u else 0) k) (ors (fun u => if rF (14 * u + 12) = -1 then 0 else K u) k) (nI k) = some (.inl (ors (fun u => if rF (14 * u + 12) = -1 then K u else 0) k ||| (if rF (14 * k + 12) = -1 then K k else 0), ors (fun u => if rF (14 * u + 12) = -1 then 0 else K u) k ||| (if rF (14 * k + 12) = -1 then 0 else K k), nI (k + 1)))
          unfold fX3_clearedFor_l8b
          rw [if_neg (nI_ge hk (by omega)), bind_e (told_x (w := 12) (c := 12) rfl (by omega) (by decide) rF)]
          by_cases q : rF (14 * k + 12) = -1
          · rw [if_pos q, bind_e (hK k hk).1, bnd_e, bnd_e, nI_1, if_pos q, if_pos q, Int32.or_zero]
          · rw [if_neg q, bind_e (hK k hk).1, bnd_e, bnd_e, nI_1, if_neg q, if_neg q, Int32.or_zero]
      by_cases z0 : z < 0
      · refine ⟨-1, ?_, ?_⟩
        · rw [if_pos z0]
        · rw [isIn_e, if_neg (fun q => (fa_of_lt z0).2.1 q.1), bind_e rfl, if_pos rfl]
      · rw [if_neg z0]
        by_cases z1 : z ≤ 1
        · have e0 : fX12_isIn z 0 1 = some 1 := by rw [isIn_e, if_pos ⟨fa_of_nlt z0, z1⟩]
          rw [if_pos z1, bind_e e0, if_neg (show ¬ (1 : Int32) = 0 by decide)]
          by_cases z2 : z = 0
          · refine ⟨ors K T, ?_, ?_⟩
            · rw [if_pos z2, bind_e lC]
            · show (itr (fun w => fX12_barred_l44b N 0 1 now1 gr (nI t) (nI d) z w.1 w.2.1 w.2.2) N ((0 : Int32), (0 : Int32), (0 : Int32))).bind _ = _
              rw [bind_e lM, if_pos z2]
          · refine ⟨ors (fun u => if rF (14 * u + 12) = -1 then K u else 0) T &&& (ors (fun u => if rF (14 * u + 12) = -1 then 0 else K u) T ^^^ -1), ?_, ?_⟩
            · rw [if_neg z2, bind_e lD]
            · show (itr (fun w => fX12_barred_l44b N 0 1 now1 gr (nI t) (nI d) z w.1 w.2.1 w.2.2) N ((0 : Int32), (0 : Int32), (0 : Int32))).bind _ = _
              rw [bind_e lM, if_neg z2]
              show some ((0 : Int32), (1 : Int32), now1, ors K T &&& (ors (fun u => if rF (14 * u + 12) = -1 then 0 else K u) T ^^^ -1)) = _
              rw [ors_split (fun u => rF (14 * u + 12) = -1) (fun _ => inferInstance) K T, and_not]
        · refine ⟨-1, ?_, ?_⟩
          · rw [if_neg z1]
          · rw [isIn_e, if_neg (fun q => z1 q.2), bind_e rfl, if_pos rfl]

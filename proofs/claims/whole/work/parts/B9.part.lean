/-! the parts of a THING, side by side -/
theorem bit0 {a w : Nat} (ha : a < 2 ^ 31) (hw : w < 31) : ((nI a >>> (nI w &&& 31)) &&& 1 = 0) ↔ a.testBit w = false := by
  have hb := hv_bit ha hw
  unfold hv at hb
  constructor
  · intro c
    rw [if_pos c] at hb
    cases q : a.testBit w with
    | false => rfl
    | true =>
      rw [q, if_pos rfl] at hb
      exact absurd hb (by decide)
  · intro c
    rw [c] at hb
    rcases Classical.em ((nI a >>> (nI w &&& 31)) &&& 1 = 0) with q | q
    · exact q
    · rw [if_neg q] at hb
      exact absurd hb (by decide)
theorem or_sl {a w : Nat} (hw : w < 16) : nI a ||| ((1 : Int32) <<< (nI w &&& 31)) = nI (a ||| 2 ^ w) := by
  rw [sl_e w hw, fa_or]
theorem passOnce_e {i la a w : Nat} (hi : i < la) (hl : la ≤ 1200) (ha : a < 512) (hw : w < 9) (fk fp : Int32) (sa : Nat → Int32) : fX4_passOnce fk fp (nI i) (nI a) (nI la) sa (nI w) = some (if a.testBit w = true then (3, sa i, nI i, nI a, 0) else (fk, fp, nI (i + 1), nI (a ||| 2 ^ w), 1)) := by
  unfold fX4_passOnce
  cases c : a.testBit w with
  | true =>
    rw [if_neg (fun y => by rw [(bit0 (by omega) (by omega)).mp y] at c; exact absurd c (by decide)), if_pos rfl, bind_e (refuse_e (by omega) fk fp 3 sa), gdb_e (Or.inl rfl)]
  | false =>
    rw [if_pos ((bit0 (by omega) (by omega)).mpr c), if_neg (by decide), bnd_e, bind_e (pass_e hi hl), or_sl (by omega)]
/-- what was told but once: both know the same -/
def ON (a b : Int32) : Prop := ∃ x y, x < 512 ∧ y < 16384 ∧ a = nI x ∧ b = nI y ∧ ∀ k, k < 5 → x.testBit (4 + k) = y.testBit (9 + k)
theorem or_lt {x n j : Nat} (h : x < 2 ^ n) (hj : j < n) : x ||| 2 ^ j < 2 ^ n := Nat.or_lt_two_pow h (Nat.pow_lt_pow_right (by decide) hj)
theorem ON_gv {x y w : Nat} (hy : y < 16384) (hx : x < 512) (h : ∀ k, k < 5 → x.testBit (4 + k) = y.testBit (9 + k)) (hw : w < 9) : ON (nI x) (nI (y ||| 2 ^ w)) := by
  refine ⟨x, y ||| 2 ^ w, hx, or_lt (n := 14) hy (by omega), rfl, rfl, fun k hk => ?_⟩
  rw [fb_bit_set, decide_eq_false (show ¬ 9 + k = w by omega), Bool.or_false, h k hk]
theorem ON_k {x y j : Nat} (hy : y < 16384) (hx : x < 512) (h : ∀ k, k < 5 → x.testBit (4 + k) = y.testBit (9 + k)) (hj : j < 5) : ON (nI (x ||| 2 ^ (4 + j))) (nI (y ||| 2 ^ (9 + j))) := by
  refine ⟨x ||| 2 ^ (4 + j), y ||| 2 ^ (9 + j), or_lt (n := 9) hx (by omega), or_lt (n := 14) hy (by omega), rfl, rfl, fun k hk => ?_⟩
  rw [fb_bit_set, fb_bit_set, h k hk]
  by_cases c : k = j
  · rw [decide_eq_true (show 4 + k = 4 + j by omega), decide_eq_true (show 9 + k = 9 + j by omega)]
  · rw [decide_eq_false (show ¬ 4 + k = 4 + j by omega), decide_eq_false (show ¬ 9 + k = 9 + j by omega)]
theorem j219_e {w what : Nat} (hc : (w = 9 ∧ what = 4) ∨ (w = 10 ∧ what = 5) ∨ (w = 11 ∧ what = 6) ∨ (w = 12 ∧ what = 7)) {b : Nat} (hb : b ≤ 320) (N : Nat) (sz to fr kd nu fo sp td : Int32) (wd : Int64) (u read : Nat → Int32) (rg : Nat → Int64) : fX12_readPart_j219 N sz to fr kd nu fo sp wd td u rg read (nI b) (nI w) = some (to, fr, kd, nu, fo, sp, wd, td, rg, upd read (b + what) td, 1) := by
  have e4 : nI b + (4 : Int32) = nI (b + 4) := nI_add b 4
  have e5 : nI b + (5 : Int32) = nI (b + 5) := nI_add b 5
  have e6 : nI b + (6 : Int32) = nI (b + 6) := nI_add b 6
  have e7 : nI b + (7 : Int32) = nI (b + 7) := nI_add b 7
  unfold fX12_readPart_j219
  rw [e4, e5, e6, e7, gdi_nI (show b + 4 < 340 by omega) (by decide), gdi_nI (show b + 5 < 340 by omega) (by decide), gdi_nI (show b + 6 < 340 by omega) (by decide), gdi_nI (show b + 7 < 340 by omega) (by decide), nI_clamp (show b + 4 < 2 ^ 31 by omega), nI_clamp (show b + 5 < 2 ^ 31 by omega), nI_clamp (show b + 6 < 2 ^ 31 by omega), nI_clamp (show b + 7 < 2 ^ 31 by omega)]
  rcases hc with ⟨rfl, rfl⟩ | ⟨rfl, rfl⟩ | ⟨rfl, rfl⟩ | ⟨rfl, rfl⟩ <;> rfl
theorem partM {w what : Nat} {lo hi : Int32} (hc : (w = 9 ∧ what = 4 ∧ lo = 1 ∧ hi = 999) ∨ (w = 10 ∧ what = 5 ∧ lo = 1 ∧ hi = 99) ∨ (w = 11 ∧ what = 6 ∧ lo = 0 ∧ hi = 9999) ∨ (w = 12 ∧ what = 7 ∧ lo = 0 ∧ hi = 9999)) {b : Nat} (hb : b ≤ 320) (N : Nat) (sz to fr kd nu fo sp td x2 : Int32) (wd : Int64) (u read : Nat → Int32) (rg : Nat → Int64) : fX12_readPart N sz to fr kd nu fo sp wd td u rg read (nI b) x2 (nI w) = (fX12_readNumber N sz to fr kd nu fo sp wd td u lo hi).bind fun o => if o.2.2.2.2.2.2.2.2 = 0 then some (o.1, o.2.1, o.2.2.1, o.2.2.2.1, o.2.2.2.2.1, o.2.2.2.2.2.1, o.2.2.2.2.2.2.1, o.2.2.2.2.2.2.2.1, rg, read, 0) else some (o.1, o.2.1, o.2.2.1, o.2.2.2.1, o.2.2.2.2.1, o.2.2.2.2.2.1, o.2.2.2.2.2.2.1, o.2.2.2.2.2.2.2.1, rg, upd read (b + what) o.2.2.2.2.2.2.2.1, 1) := by
  have ej := j219_e (w := w) (what := what) (by rcases hc with ⟨h1, h2, _⟩ | ⟨h1, h2, _⟩ | ⟨h1, h2, _⟩ | ⟨h1, h2, _⟩ <;> omega) hb N sz
  unfold fX12_readPart
  rcases hc with ⟨rfl, rfl, rfl, rfl⟩ | ⟨rfl, rfl, rfl, rfl⟩ | ⟨rfl, rfl, rfl, rfl⟩ | ⟨rfl, rfl, rfl, rfl⟩
  · show (fX12_readNumber N sz to fr kd nu fo sp wd td u 1 999).bind _ = _
    exact congrArg (Option.bind _) (funext fun o => by rw [ej])
  · show (fX12_readNumber N sz to fr kd nu fo sp wd td u 1 99).bind _ = _
    exact congrArg (Option.bind _) (funext fun o => by rw [ej])
  · show (fX12_readNumber N sz to fr kd nu fo sp wd td u 0 9999).bind _ = _
    exact congrArg (Option.bind _) (funext fun o => by rw [ej])
  · show (fX12_readNumber N sz to fr kd nu fo sp wd td u 0 9999).bind _ = _
    exact congrArg (Option.bind _) (funext fun o => by rw [ej])
theorem partC {k w : Nat} {lo hi : Int32} (hc : (k = 11 ∧ w = 4 ∧ lo = 1 ∧ hi = 999) ∨ (k = 12 ∧ w = 5 ∧ lo = 1 ∧ hi = 99) ∨ (k = 13 ∧ w = 6 ∧ lo = 0 ∧ hi = 9999) ∨ (k = 14 ∧ w = 7 ∧ lo = 0 ∧ hi = 9999)) (N : Nat) (fk fp at' to1 nu last x1 : Int32) (ka sa va dF : Nat → Int32) (dc : Nat → Int64) : fX4_readPart N fk fp at' to1 nu last ka sa va dc dF x1 (nI k) = (fX4_passOnce fk fp at' to1 last sa (nI w)).bind fun o => if o.2.2.2.2 = 0 then some (o.1, o.2.1, o.2.2.1, o.2.2.2.1, nu, dc, dF, 0) else (fX4_readFact N o.1 o.2.1 o.2.2.1 nu last ka sa va dF x1 (nI w) lo hi).bind fun q => if q.2.2.2.2.2 = 0 then some (q.1, q.2.1, q.2.2.1, o.2.2.2.1, q.2.2.2.1, dc, q.2.2.2.2.1, 0) else some (q.1, q.2.1, q.2.2.1, o.2.2.2.1, q.2.2.2.1, dc, q.2.2.2.2.1, 1) := by
  unfold fX4_readPart
  rcases hc with ⟨rfl, rfl, rfl, rfl⟩ | ⟨rfl, rfl, rfl, rfl⟩ | ⟨rfl, rfl, rfl, rfl⟩ | ⟨rfl, rfl, rfl, rfl⟩ <;> rfl

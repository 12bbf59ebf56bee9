/-! SHARES: the fewest moves for a set of PLACES -/
def om : Option Nat → Option Nat → Option Nat
  | none, y => y
  | some a, none => some a
  | some a, some b => some (min a b)
def oad : Option Nat → Option Nat → Option Nat
  | some a, some b => some (a + b)
  | _, _ => none
theorem om_none (x : Option Nat) : om x none = x := by cases x <;> rfl
theorem om_assoc (x y z : Option Nat) : om (om x y) z = om x (om y z) := by
  cases x <;> cases y <;> cases z <;> first | rfl | (show some _ = some _; rw [Nat.min_assoc])
theorem om_comm (x y : Option Nat) : om x y = om y x := by
  cases x <;> cases y <;> first | rfl | (show some _ = some _; rw [Nat.min_comm])
theorem oad_om (x a b : Option Nat) : oad x (om a b) = om (oad x a) (oad x b) := by
  cases x with
  | none => rfl
  | some m =>
    cases a <;> cases b <;> first | rfl | (show some _ = some _; rw [Nat.add_min_add_left])
theorem oad_none (x : Option Nat) : oad x none = none := by cases x <;> rfl
/-- the fewest moves for s, when the PLACES below k may be the new LAND's -/
def stS (D mv : Nat → Option Nat) (s : Nat) : Nat → Option Nat
  | 0 => D s
  | p + 1 => om (stS D mv s p) (if s.testBit p = true then oad (D (s ^^^ 2 ^ p)) (mv p) else none)
theorem stS_cong {D mv mw : Nat → Option Nat} {s : Nat} : ∀ {k : Nat}, (∀ p, p < k → mv p = mw p) → stS D mv s k = stS D mw s k
  | 0, _ => rfl
  | k + 1, h => by
    show om (stS D mv s k) _ = om (stS D mw s k) _
    rw [stS_cong (fun p hp => h p (by omega)), h k (Nat.lt_succ_self k)]
theorem stS_none {D mv : Nat → Option Nat} {s : Nat} : ∀ {k : Nat}, (∀ p, p < k → mv p = none) → stS D mv s k = D s
  | 0, _ => rfl
  | k + 1, h => by
    show om (stS D mv s k) _ = D s
    rw [stS_none (fun p hp => h p (by omega)), h k (Nat.lt_succ_self k), oad_none, ite_self, om_none]
/-- one more way for the PLACE p -/
theorem stS_upd {D mv mw : Nat → Option Nat} {s p : Nat} {c : Option Nat} (hp : mw p = om (mv p) c) (hq : ∀ q, q ≠ p → mw q = mv q) : ∀ {k : Nat}, p < k → stS D mw s k = if s.testBit p = true then om (stS D mv s k) (oad (D (s ^^^ 2 ^ p)) c) else stS D mv s k
  | 0, h => absurd h (Nat.not_lt_zero p)
  | k + 1, h => by
    show om (stS D mw s k) (if s.testBit k = true then oad (D (s ^^^ 2 ^ k)) (mw k) else none) = if s.testBit p = true then om (om (stS D mv s k) (if s.testBit k = true then oad (D (s ^^^ 2 ^ k)) (mv k) else none)) (oad (D (s ^^^ 2 ^ p)) c) else om (stS D mv s k) (if s.testBit k = true then oad (D (s ^^^ 2 ^ k)) (mv k) else none)
    by_cases e : p = k
    · subst e
      rw [stS_cong (mv := mw) (mw := mv) (fun q hq2 => hq q (by omega)), hp, oad_om]
      by_cases b : s.testBit p = true
      · rw [if_pos b, if_pos b, if_pos b, om_assoc]
      · rw [if_neg b, if_neg b, if_neg b]
    · rw [stS_upd hp hq (show p < k by omega), hq k (Ne.symm e)]
      by_cases b : s.testBit p = true
      · rw [if_pos b, if_pos b, om_assoc, om_assoc, om_comm (oad (D (s ^^^ 2 ^ p)) c)]
      · rw [if_neg b, if_neg b]
def bdd (l : Nat) (D : Nat → Option Nat) : Prop := ∀ s m, D s = some m → m ≤ l
theorem om_bd {x y : Option Nat} {l m : Nat} (hx : ∀ a, x = some a → a ≤ l) (hy : ∀ a, y = some a → a ≤ l) (h : om x y = some m) : m ≤ l := by
  cases x with
  | none => exact hy m h
  | some a =>
    cases y with
    | none => exact hx m h
    | some b =>
      have h : some (min a b) = some m := h
      cases h
      have := hx a rfl
      omega
theorem stS_bd {l : Nat} {D mv : Nat → Option Nat} (h : bdd l D) (hm : ∀ p a, mv p = some a → a ≤ 1) {s : Nat} : ∀ {k m : Nat}, stS D mv s k = some m → m ≤ l + 1
  | 0, m, e => by have := h s m e; omega
  | k + 1, m, e => by
    refine om_bd (fun a ha => stS_bd h hm ha) (fun a ha => ?_) e
    by_cases b : s.testBit k = true
    · rw [if_pos b] at ha
      cases e1 : D (s ^^^ 2 ^ k) with
      | none =>
        rw [e1] at ha
        cases ha
      | some x =>
        cases e2 : mv k with
        | none =>
          rw [e1, e2] at ha
          cases ha
        | some y =>
          rw [e1, e2] at ha
          have ha : some (x + y) = some a := ha
          cases ha
          have := h _ x e1
          have := hm k y e2
          omega
    · rw [if_neg b] at ha
      cases ha
/-- as the class keeps it -/
def enc (x : Option Nat) : Int32 := x.elim (-1) nI
/-- may t of the LAND lie at the PLACE p, and at which cost -/
def elg (rF rP : Nat → Int32) (land t p : Nat) : Bool := decide (rF (14 * t + 0) = nI land) && (decide (rF (14 * t + 8) = -1) && decide (¬ ina (rF (14 * t + 1)) (rF (14 * t + 2)) (rP p) = 0))
def cst (dg rP : Nat → Int32) (t p : Nat) : Nat := if dg t = rP p then 0 else 1
/-- the moves that the PLACE p costs the LAND, by its THINGS below k -/
def mvt (dg rF rP : Nat → Int32) (land p : Nat) : Nat → Option Nat
  | 0 => none
  | t + 1 => if elg rF rP land t p = true then om (mvt dg rF rP land p t) (some (cst dg rP t p)) else mvt dg rF rP land p t
theorem mvt_1 {dg rF rP : Nat → Int32} {land p : Nat} : ∀ {t a : Nat}, mvt dg rF rP land p t = some a → a ≤ 1
  | 0, a, h => by cases h
  | t + 1, a, h => by
    have h : (if elg rF rP land t p = true then om (mvt dg rF rP land p t) (some (cst dg rP t p)) else mvt dg rF rP land p t) = some a := h
    by_cases c : elg rF rP land t p = true
    · rw [if_pos c] at h
      refine om_bd (fun b hb => mvt_1 hb) (fun b hb => ?_) h
      cases hb
      unfold cst
      split <;> omega
    · rw [if_neg c] at h
      exact mvt_1 h
/-- the fewest moves for each set, by the LANDS below l -/
def DL (T P : Nat) (dg rF rP : Nat → Int32) : Nat → Nat → Option Nat
  | 0 => fun s => if s = 0 then some 0 else none
  | l + 1 => fun s => stS (DL T P dg rF rP l) (fun p => mvt dg rF rP l p T) s P
theorem DL_bd (T P : Nat) (dg rF rP : Nat → Int32) : ∀ l, bdd l (DL T P dg rF rP l)
  | 0 => by
    intro s m h
    have h : (if s = 0 then some 0 else none) = some m := h
    by_cases c : s = 0
    · rw [if_pos c] at h
      cases h
      exact Nat.le_refl 0
    · rw [if_neg c] at h
      cases h
  | l + 1 => fun s m h => stS_bd (DL_bd T P dg rF rP l) (fun p a ha => mvt_1 ha) h
theorem stS_0 {D mv : Nat → Option Nat} : ∀ k, stS D mv 0 k = D 0
  | 0 => rfl
  | k + 1 => by
    show om (stS D mv 0 k) (if (0 : Nat).testBit k = true then _ else none) = D 0
    rw [stS_0 k, Nat.zero_testBit, if_neg (by decide), om_none]
theorem DL_0 (T P : Nat) (dg rF rP : Nat → Int32) : ∀ l, DL T P dg rF rP l 0 = some 0
  | 0 => rfl
  | l + 1 => by
    show stS (DL T P dg rF rP l) _ 0 P = some 0
    rw [stS_0, DL_0 T P dg rF rP l]
def pc (s : Nat) : Nat := fb_ct (fun j => s.testBit j) 6
theorem pc_bit : ∀ s, s < 64 → fJ6_bitCount_0f7a4 (nI s) = some (nI (pc s)) := by decide +kernel
theorem pc_s : ∀ s, s < 64 → ∀ p, p < 6 → s.testBit p = true → pc s = pc (s ^^^ 2 ^ p) + 1 ∧ s ^^^ 2 ^ p < s ∧ (s ^^^ 2 ^ p).testBit p = false ∧ nI s ^^^ ((1 : Int32) <<< (nI p &&& 31)) = nI (s ^^^ 2 ^ p) := by decide +kernel
theorem pc_u : ∀ s, s < 64 → ∀ p, p < 6 → s.testBit p = false → s ||| 2 ^ p < 64 ∧ (s ||| 2 ^ p).testBit p = true ∧ (s ||| 2 ^ p) ^^^ 2 ^ p = s ∧ nI s ||| ((1 : Int32) <<< (nI p &&& 31)) = nI (s ||| 2 ^ p) := by decide +kernel
theorem pc_le (s : Nat) : pc s ≤ 6 := fb_ct_le _ 6

/-! sums that change at one place; what each hears, kept along -/
def sg (f : Nat → Int32) : Nat → Int32
  | 0 => 0
  | k + 1 => sg f k + f k
theorem sg_cong {f g : Nat → Int32} : ∀ {n : Nat}, (∀ k, k < n → f k = g k) → sg f n = sg g n
  | 0, _ => rfl
  | n + 1, h => by
    show sg f n + f n = sg g n + g n
    rw [sg_cong (fun k hk => h k (by omega)), h n (by omega)]
theorem sg_zero {f : Nat → Int32} : ∀ {n : Nat}, (∀ k, k < n → f k = 0) → sg f n = 0
  | 0, _ => rfl
  | n + 1, h => by
    show sg f n + f n = 0
    rw [sg_zero (fun k hk => h k (by omega)), h n (by omega), Int32.add_zero]
theorem sg_one {f g : Nat → Int32} {t : Nat} : ∀ {n : Nat}, t < n → (∀ k, k < n → k ≠ t → f k = g k) → g t = 0 → sg f n = sg g n + f t
  | 0, h, _, _ => absurd h (Nat.not_lt_zero t)
  | n + 1, h, hk, hg => by
    show sg f n + f n = sg g n + g n + f t
    rcases Nat.lt_or_ge t n with q | q
    · rw [sg_one q (fun k h1 h2 => hk k (by omega) h2) hg, hk n (by omega) (by omega), Int32.add_assoc, Int32.add_assoc, Int32.add_comm (f t)]
    · have e : t = n := by omega
      subst e
      rw [sg_cong (fun k h1 => hk k (by omega) (by omega)), hg, Int32.add_zero]
def hf (dg vo lo sh : Nat → Int32) (rc : Nat → Int64) (t k : Nat) : Int32 := if k ≠ t ∧ tch dg vo rc t k = true then rv dg lo sh k t else 0
def nf (A : Nat) (dg vo : Nat → Int32) (rc : Nat → Int64) (t k : Nat) : Int32 := if k ≠ t ∧ tch dg vo rc t k = true ∧ gp (dg t).toNatClampNeg (dg k).toNatClampNeg < A then 1 else 0
theorem smH_sg (dg vo lo sh : Nat → Int32) (rc : Nat → Int64) (t : Nat) : ∀ n, smH dg vo lo sh rc t n = sg (hf dg vo lo sh rc t) n
  | 0 => rfl
  | n + 1 => by
    show smH dg vo lo sh rc t n + _ = sg (hf dg vo lo sh rc t) n + _
    rw [smH_sg dg vo lo sh rc t n]
    rfl
theorem smN_sg (A : Nat) (dg vo : Nat → Int32) (rc : Nat → Int64) (t : Nat) : ∀ n, smN A dg vo rc t n = sg (nf A dg vo rc t) n
  | 0 => rfl
  | n + 1 => by
    show smN A dg vo rc t n + _ = sg (nf A dg vo rc t) n + _
    rw [smN_sg A dg vo rc t n]
    rfl
/-- hears and tooNear are what they ought to be -/
def IH (T A : Nat) (dg vo lo sh he tn : Nat → Int32) (rc : Nat → Int64) : Prop := (∀ t, t < T → he t = smH dg vo lo sh rc t T) ∧ ∀ t, t < T → tn t = smN A dg vo rc t T
theorem tch_no {dg vo : Nat → Int32} {rc : Nat → Int64} {a b : Nat} (h : dg a = -1 ∨ dg b = -1) : ¬ tch dg vo rc a b = true := fun q => h.elim (fun e => (tch_up q).1 e) (fun e => (tch_up q).2 e)
theorem tch_upd {dg vo : Nat → Int32} {rc : Nat → Int64} {t a b : Nat} {d v : Int32} (ha : a ≠ t) (hb : b ≠ t) : tch (upd dg t d) (upd vo t v) rc a b = tch dg vo rc a b := by
  unfold tch
  rw [pk_un ha, pk_un hb, pk_un ha, pk_un hb]
theorem rv_upd {dg lo sh : Nat → Int32} {t a b : Nat} {d : Int32} (ha : a ≠ t) (hb : b ≠ t) : rv (upd dg t d) lo sh a b = rv dg lo sh a b := by
  unfold rv
  rw [pk_un ha, pk_un hb]
theorem tch_comm (dg vo : Nat → Int32) (rc : Nat → Int64) (a b : Nat) : tch dg vo rc a b = tch dg vo rc b a := by
  unfold tch
  rw [Int64.and_comm (rc a)]
  by_cases h1 : dg a = -1 <;> by_cases h2 : dg b = -1 <;> by_cases h3 : vo a = vo b
  · simp [h1]
  · simp [h1]
  · simp [h1]
  · simp [h1]
  · simp [h2]
  · simp [h2]
  · simp [h1, h2, h3]
  · simp [h1, h2, h3, Ne.symm h3]
/-- put of one that doesn't stand keeps them -/
theorem IH_put {T A t : Nat} {dg vo lo sh he tn : Nat → Int32} {rc : Nat → Int64} {d v : Int32} (ht : t < T) (hT : T ≤ 16) (hu : dg t = -1) (h : IH T A dg vo lo sh he tn rc) : IH T A (upd dg t d) (upd vo t v) lo sh (mH 1 (upd dg t d) (upd vo t v) lo sh rc t he T) (mN 1 A (upd dg t d) (upd vo t v) rc t tn T) rc := by
  have z0 : smH dg vo lo sh rc t T = 0 := by
    rw [smH_sg]
    exact sg_zero (fun k _ => if_neg (fun q => tch_no (Or.inl hu) q.2))
  have z1 : smN A dg vo rc t T = 0 := by
    rw [smN_sg]
    exact sg_zero (fun k _ => if_neg (fun q => tch_no (Or.inl hu) q.2.1))
  constructor
  · intro j hj
    unfold mH
    by_cases e : j = t
    · subst e
      rw [if_pos rfl, h.1 j hj, z0, Int32.zero_add, Int32.one_mul]
    · rw [if_neg e, h.1 j hj, smH_sg, smH_sg]
      have s1 : sg (hf (upd dg t d) (upd vo t v) lo sh rc j) T = sg (hf dg vo lo sh rc j) T + hf (upd dg t d) (upd vo t v) lo sh rc j t := by
        refine sg_one ht (fun k hk hkt => ?_) (if_neg (fun q => tch_no (Or.inr hu) q.2))
        unfold hf
        rw [tch_upd e hkt, rv_upd hkt e]
      rw [s1]
      unfold hf
      rw [tch_comm (upd dg t d) (upd vo t v) rc t j]
      by_cases c : tch (upd dg t d) (upd vo t v) rc j t = true
      · rw [if_pos ⟨hj, c⟩, if_pos ⟨Ne.symm e, c⟩, Int32.one_mul]
      · rw [if_neg (fun q => c q.2), if_neg (fun q => c q.2), Int32.add_zero]
  · intro j hj
    unfold mN
    by_cases e : j = t
    · subst e
      rw [if_pos rfl, h.2 j hj, z1, Int32.zero_add, Int32.one_mul]
    · rw [if_neg e, h.2 j hj, smN_sg, smN_sg]
      have s1 : sg (nf A (upd dg t d) (upd vo t v) rc j) T = sg (nf A dg vo rc j) T + nf A (upd dg t d) (upd vo t v) rc j t := by
        refine sg_one ht (fun k hk hkt => ?_) (if_neg (fun q => tch_no (Or.inr hu) q.2.1))
        unfold nf
        rw [tch_upd e hkt, pk_un e, pk_un hkt]
      rw [s1]
      unfold nf
      rw [tch_comm (upd dg t d) (upd vo t v) rc t j, gp_comm (upd dg t d t).toNatClampNeg]
      by_cases c : tch (upd dg t d) (upd vo t v) rc j t = true ∧ gp (upd dg t d j).toNatClampNeg (upd dg t d t).toNatClampNeg < A
      · rw [if_pos ⟨hj, c⟩, if_pos ⟨Ne.symm e, c⟩]
      · rw [if_neg (fun q => c q.2), if_neg (fun q => c q.2), Int32.add_zero]
/-- take of one that stands keeps them -/
theorem IH_take {T A t : Nat} {dg vo lo sh he tn : Nat → Int32} {rc : Nat → Int64} {v : Int32} (ht : t < T) (hT : T ≤ 16) (h : IH T A dg vo lo sh he tn rc) : IH T A (upd dg t (-1)) (upd vo t v) lo sh (mH (-1) dg vo lo sh rc t he T) (mN (-1) A dg vo rc t tn T) rc := by
  have hu : upd dg t (-1) t = -1 := pk_us
  constructor
  · intro j hj
    unfold mH
    by_cases e : j = t
    · subst e
      have z0 : smH (upd dg j (-1)) (upd vo j v) lo sh rc j T = 0 := by
        rw [smH_sg]
        exact sg_zero (fun k _ => if_neg (fun q => tch_no (Or.inl hu) q.2))
      rw [if_pos rfl, h.1 j hj, z0, Int32.neg_mul, Int32.one_mul, Int32.add_right_neg]
    · rw [if_neg e, h.1 j hj, smH_sg, smH_sg]
      have s1 : sg (hf dg vo lo sh rc j) T = sg (hf (upd dg t (-1)) (upd vo t v) lo sh rc j) T + hf dg vo lo sh rc j t := by
        refine sg_one ht (fun k hk hkt => ?_) (if_neg (fun q => tch_no (Or.inr hu) q.2))
        unfold hf
        rw [tch_upd e hkt, rv_upd hkt e]
      rw [s1]
      unfold hf
      rw [tch_comm dg vo rc t j]
      by_cases c : tch dg vo rc j t = true
      · rw [if_pos ⟨hj, c⟩, if_pos ⟨Ne.symm e, c⟩, Int32.neg_mul, Int32.one_mul, Int32.add_assoc, Int32.add_right_neg, Int32.add_zero]
      · rw [if_neg (fun q => c q.2), if_neg (fun q => c q.2), Int32.add_zero]
  · intro j hj
    unfold mN
    by_cases e : j = t
    · subst e
      have z0 : smN A (upd dg j (-1)) (upd vo j v) rc j T = 0 := by
        rw [smN_sg]
        exact sg_zero (fun k _ => if_neg (fun q => tch_no (Or.inl hu) q.2.1))
      rw [if_pos rfl, h.2 j hj, z0, Int32.neg_mul, Int32.one_mul, Int32.add_right_neg]
    · rw [if_neg e, h.2 j hj, smN_sg, smN_sg]
      have s1 : sg (nf A dg vo rc j) T = sg (nf A (upd dg t (-1)) (upd vo t v) rc j) T + nf A dg vo rc j t := by
        refine sg_one ht (fun k hk hkt => ?_) (if_neg (fun q => tch_no (Or.inr hu) q.2.1))
        unfold nf
        rw [tch_upd e hkt, pk_un e, pk_un hkt]
      rw [s1]
      unfold nf
      rw [tch_comm dg vo rc t j, gp_comm (dg t).toNatClampNeg]
      by_cases c : tch dg vo rc j t = true ∧ gp (dg j).toNatClampNeg (dg t).toNatClampNeg < A
      · rw [if_pos ⟨hj, c⟩, if_pos ⟨Ne.symm e, c⟩, Int32.add_assoc, Int32.add_right_neg, Int32.add_zero]
      · rw [if_neg (fun q => c q.2), if_neg (fun q => c q.2), Int32.add_zero]

/-! PURE: the lowest bit -/
theorem low_and (x : Int64) {i : Nat} (hi : i < 64) (h : tb x i = true) (h0 : ∀ j, j < i → tb x j = false) : x &&& (-x) = (1 : Int64) <<< ((nI i).toInt64 &&& 63) := by
  refine tb_ext (fun j hj => ?_)
  rw [tb_and, tb_1 hi]
  have e : tb (-x) j = (tb x j ^^ decide (j < 64 ∧ ∃ k, k < j ∧ tb x k = true)) := by
    show (-x).toBitVec.getLsbD j = _
    rw [Int64.toBitVec_neg, BitVec.getLsbD_neg]
    simp [hj]
  rw [e]
  by_cases z : j = i
  · subst z
    rw [h, decide_eq_true (show j = j from rfl), decide_eq_false (fun q => by
      obtain ⟨-, k, k1, k2⟩ := q
      rw [h0 k k1] at k2
      exact absurd k2 (by decide))]
    rfl
  · rw [decide_eq_false z]
    by_cases t : tb x j = true
    · have : i < j := by
        by_cases q : j < i
        · rw [h0 j q] at t; exact absurd t (by decide)
        · omega
      rw [t, decide_eq_true ⟨hj, i, this, h⟩]
      rfl
    · rw [Bool.not_eq_true] at t
      rw [t]
      rfl
theorem low_cnt : ∀ i, i < 64 → f_Long_bitCount ((((1 : Int64) <<< ((nI i).toInt64 &&& 63))) - (1 : Int64)) = some (nI i) := by decide +kernel
theorem f_low (x : Int64) {i : Nat} (hi : i < 64) (h : tb x i = true) (h0 : ∀ j, j < i → tb x j = false) : f_LinkAudit_lowestBit x = some (nI i) := by
  unfold f_LinkAudit_lowestBit
  rw [low_and x hi h h0, low_cnt i hi]
  rfl

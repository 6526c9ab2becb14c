/-! PURE: field, method -/
def bM (b : Sp) (c k n f s g : Nat) : Sp := ub (ub (ub (ub (ub (ub (ub b 0 9 (nM b + 1)) 9 (nM b + 1) c) 10 (nM b + 1) k) 11 (nM b + 1) n) 12 (nM b + 1) f) 13 (nM b + 1) s) 14 (nM b + 1) g
theorem bM_at (b : Sp) (c k n f s g m : Nat) : nM (bM b c k n f s g) = nM b + 1 ∧ (bM b c k n f s g 9 m = if m = nM b + 1 then c else b 9 m) ∧ (bM b c k n f s g 10 m = if m = nM b + 1 then k else b 10 m) ∧ (bM b c k n f s g 11 m = if m = nM b + 1 then n else b 11 m) ∧ (bM b c k n f s g 12 m = if m = nM b + 1 then f else b 12 m) ∧ (bM b c k n f s g 13 m = if m = nM b + 1 then s else b 13 m) ∧ bM b c k n f s g 14 m = if m = nM b + 1 then g else b 14 m := ⟨rfl, rfl, rfl, rfl, rfl, rfl, rfl⟩
theorem i_169 {α : Type} {x y : α} {k n f s : Nat} (hk : k < 2) (hn : n < 4) (hf : f < 13) (hs : s < 13) : (if nI (sig k n f s) / (169 : Int32) < (4 : Int32) then x else y) = if k = 0 then x else y := by
  have h := sig_lt hk hn hf hs
  rw [show (169 : Int32) = nI 169 from rfl, l4, n_div (by omega) (by omega) (by omega), i_lt (by omega) (by omega)]
  refine i_cg ?_
  unfold sig
  omega
theorem f_b104 (X : Mem) {g : Nat} (hg : g < 16) (bit : Int64) : f_Members_add_b104 X (nI g) bit = some ((if g &&& 8 = 0 then X else u2 X 3 5 ((X.2 3 5) ||| bit)).1 3 6, if g &&& 8 = 0 then X else u2 X 3 5 ((X.2 3 5) ||| bit)) := by
  unfold f_Members_add_b104 f_Members_add_b122
  rw [l8, i_and (by omega), sm_s]
  by_cases h : g &&& 8 = 0
  · rw [if_pos h, if_pos h]
  · rw [if_neg h, if_neg h]
def mV (k g : Nat) : Prop := k = 1 ∧ g &&& 4 = 0 ∧ g &&& 3 ≠ 3
/-- the class's memory with one member more -/
noncomputable def cM (M : Mem) (m c g0 g k : Nat) : Mem :=
  let bit := (1 : Int64) <<< ((nI m).toInt64 &&& 63)
  let N4 := u1 (u1 (u1 (u1 (fg M) 3 6 (nI m)) 29 m (nI c)) 30 m (nI g0)) 31 m (nI g)
  let N5 := u2 N4 32 c ((M.2 32 c) ||| bit)
  let N6 := if k = 1 ∧ g &&& 4 = 0 ∧ g &&& 3 ≠ 3 then u2 N5 3 4 ((M.2 3 4) ||| bit) else N5
  if g &&& 8 = 0 then N6 else u2 N6 3 5 ((N6.2 3 5) ||| bit)
theorem cM_1 (M : Mem) (m c g0 g k : Nat) : (cM M m c g0 g k).1 = (u1 (u1 (u1 (u1 (fg M) 3 6 (nI m)) 29 m (nI c)) 30 m (nI g0)) 31 m (nI g)).1 := by
  unfold cM
  dsimp only
  split <;> split <;> rfl
theorem cM_32 (M : Mem) (m c g0 g k : Nat) : (cM M m c g0 g k).2 32 = (u2 M 32 c ((M.2 32 c) ||| ((1 : Int64) <<< ((nI m).toInt64 &&& 63)))).2 32 := by
  unfold cM
  dsimp only
  split <;> split <;> rfl
theorem cM_34 (M : Mem) (m c g0 g k : Nat) : (cM M m c g0 g k).2 3 4 = if k = 1 ∧ g &&& 4 = 0 ∧ g &&& 3 ≠ 3 then (M.2 3 4) ||| ((1 : Int64) <<< ((nI m).toInt64 &&& 63)) else M.2 3 4 := by
  unfold cM
  dsimp only
  by_cases h : k = 1 ∧ g &&& 4 = 0 ∧ g &&& 3 ≠ 3
  · simp only [if_pos h]
    split <;> rfl
  · simp only [if_neg h]
    split <;> rfl
theorem cM_35 (M : Mem) (m c g0 g k : Nat) : (cM M m c g0 g k).2 3 5 = if g &&& 8 = 0 then M.2 3 5 else (M.2 3 5) ||| ((1 : Int64) <<< ((nI m).toInt64 &&& 63)) := by
  unfold cM
  dsimp only
  by_cases h : g &&& 8 = 0
  · simp only [if_pos h]
    split <;> rfl
  · simp only [if_neg h]
    split <;> rfl
theorem c_add {b : Sp} {M : Mem} (hv : BV b) (hc : CB b M) {c k n f s g : Nat} (hcc : c ≤ 16) (hk : k < 2) (hn : n < 4) (hf : f < 13) (hs : s < 13) (hg : g < 16) (h40 : nM b < 40) : f_Members_add (fg M) (nI c) (nI (sig k n f s)) (nI g) = some (nI (nM b + 1), cM M (nM b + 1) c (sig k n f s) g k) := by
  have h3 : (fg M).1 3 6 = nI (nM b) := by rw [fg_1 (by omega)]; exact hc.1.2.1
  unfold f_Members_add
  rw [h3, l1, n_add, sm_s]
  simp (disch := omega) only [u1_eq, u1_ne, if_true, gd_n, n_cl, sm_s, u2_1]
  unfold f_Members_isMethod f_Members_isStatic f_Members_access
  simp (disch := omega) only [u1_eq, u1_ne, if_true, gd_n, n_cl, sm_s, u2_1, bd1_s]
  rw [i_169 hk hn hf hs]
  have e2 : (u1 (u1 (u1 (u1 (fg M) 3 6 (nI (nM b + 1))) 29 (nM b + 1) (nI c)) 30 (nM b + 1) (nI (sig k n f s))) 31 (nM b + 1) (nI g)).2 32 c = M.2 32 c := rfl
  have fin : ∀ X : Mem, X.1 3 6 = nI (nM b + 1) → f_Members_add_b104 X (nI g) ((1 : Int64) <<< ((nI (nM b + 1)).toInt64 &&& 63)) = some (nI (nM b + 1), if g &&& 8 = 0 then X else u2 X 3 5 ((X.2 3 5) ||| ((1 : Int64) <<< ((nI (nM b + 1)).toInt64 &&& 63)))) := by
    intro X hX
    rw [f_b104 X hg]
    by_cases z : g &&& 8 = 0
    · rw [if_pos z, hX]
    · rw [if_neg z, u2_1, hX]
  have h36 : (u1 (u1 (u1 (u1 (fg M) 3 6 (nI (nM b + 1))) 29 (nM b + 1) (nI c)) 30 (nM b + 1) (nI (sig k n f s))) 31 (nM b + 1) (nI g)).1 3 6 = nI (nM b + 1) := by simp (disch := omega) only [u1_eq, u1_ne, if_true]
  rw [e2]
  by_cases k0 : k = 0
  · rw [if_pos k0, bd1_s, i0]
    refine (fin _ (by exact h36)).trans ?_
    unfold cM
    have no : ¬ (k = 1 ∧ g &&& 4 = 0 ∧ g &&& 3 ≠ 3) := fun q => by omega
    simp only [if_neg no]
  · rw [if_neg k0, bd1_s, i1, l4, i_and (by omega)]
    by_cases g4 : g &&& 4 = 0
    · rw [if_pos g4, bd1_s, i0, l3, n_and, i_eq (by have := @Nat.and_le_left g 3; omega) (by omega)]
      by_cases g3 : g &&& 3 = 3
      · rw [if_pos g3]
        refine (fin _ (by exact h36)).trans ?_
        unfold cM
        have no : ¬ (k = 1 ∧ g &&& 4 = 0 ∧ g &&& 3 ≠ 3) := fun q => q.2.2 g3
        simp only [if_neg no]
      · have yes : k = 1 ∧ g &&& 4 = 0 ∧ g &&& 3 ≠ 3 := ⟨by omega, g4, g3⟩
        rw [if_neg g3]
        refine (fin _ (by exact h36)).trans ?_
        unfold cM
        simp only [if_pos yes]
        rfl
    · rw [if_neg g4, bd1_s, i1]
      refine (fin _ (by exact h36)).trans ?_
      unfold cM
      have no : ¬ (k = 1 ∧ g &&& 4 = 0 ∧ g &&& 3 ≠ 3) := fun q => g4 q.2.1
      simp only [if_neg no]

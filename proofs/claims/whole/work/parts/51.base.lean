/-! PURE: the base data b (by the reference's cell numbers), and what a loader finds -/
abbrev Sp : Type := Nat → Nat → Nat
abbrev nC (b : Sp) : Nat := b 0 3
abbrev nM (b : Sp) : Nat := b 0 9
abbrev nR (b : Sp) : Nat := b 0 16
/-- the first of r places from i on with p; 0: none -/
def fi (p : Nat → Bool) : Nat → Nat → Nat
  | 0, _ => 0
  | r + 1, i => if p i = true then i else fi p r (i + 1)
theorem fi_s (p : Nat → Bool) (r i : Nat) : fi p (r + 1) i = if p i = true then i else fi p r (i + 1) := rfl
theorem fi_spec (p : Nat → Bool) : ∀ r i, 1 ≤ i → (fi p r i = 0 ∧ ∀ k, i ≤ k → k < i + r → p k = false) ∨ (i ≤ fi p r i ∧ fi p r i < i + r ∧ p (fi p r i) = true ∧ ∀ k, i ≤ k → k < fi p r i → p k = false) := by
  intro r
  induction r with
  | zero => intro i _; exact Or.inl ⟨rfl, fun k h1 h2 => by omega⟩
  | succ r ih =>
    intro i hi
    unfold fi
    by_cases h : p i = true
    · rw [if_pos h]
      exact Or.inr ⟨Nat.le_refl _, by omega, h, fun k h1 h2 => by omega⟩
    · rw [if_neg h]
      rcases ih (i + 1) (by omega) with ⟨h1, h2⟩ | ⟨h1, h2, h3, h4⟩
      · refine Or.inl ⟨h1, fun k k1 k2 => ?_⟩
        by_cases e : k = i
        · subst e; simpa using h
        · exact h2 k (by omega) (by omega)
      · refine Or.inr ⟨by omega, by omega, h3, fun k k1 k2 => ?_⟩
        by_cases e : k = i
        · subst e; simpa using h
        · exact h4 k (by omega) k2
theorem fi_le (p : Nat → Bool) (r i : Nat) (hi : 1 ≤ i) : fi p r i < i + r := by
  rcases fi_spec p r i hi with ⟨h, -⟩ | ⟨-, h, -⟩ <;> omega
def own (b : Sp) (l n : Nat) : Nat := fi (fun k => b 4 k == l && b 5 k == n) (nC b) 1
/-- the first class among the providers' own ones, from the j-th on, r of them -/
def fpr (b : Sp) (l n : Nat) : Nat → Nat → Nat
  | 0, _ => 0
  | r + 1, j => if own b (b 2 (3 * l + j)) n = 0 then fpr b l n r (j + 1) else own b (b 2 (3 * l + j)) n
def fnd (b : Sp) (l n : Nat) : Nat :=
  if l = 0 ∨ (b 3 l).testBit n = true then own b l n
  else if own b 0 n = 0 then (if fpr b l n (b 1 l) 0 = 0 then own b l n else fpr b l n (b 1 l) 0) else own b 0 n
def V1 (b : Sp) : Prop := nC b ≤ 16 ∧ nM b ≤ 40 ∧ nR b ≤ 12
def V2 (b : Sp) : Prop := b 1 0 = 0 ∧ b 3 0 = 0 ∧ (∀ l, l < 5 → b 1 l ≤ 3 ∧ b 3 l < 4096) ∧ ∀ l j, l < 5 → j < b 1 l → b 2 (3 * l + j) < 5
def V3 (b : Sp) : Prop := ∀ k, 1 ≤ k → k ≤ nC b → b 4 k < 5 ∧ b 5 k < 12 ∧ b 6 k < 16 ∧ b 7 k ≤ 12 ∧ b 8 k < 4096 ∧ (b 6 k &&& 8 ≠ 0 → b 7 k = 12)
def V4 (b : Sp) : Prop := ∀ k k', 1 ≤ k → k ≤ nC b → 1 ≤ k' → k' ≤ nC b → b 4 k = b 4 k' → b 5 k = b 5 k' → k = k'
def V5 (b : Sp) : Prop := ∀ m, 1 ≤ m → m ≤ nM b → 1 ≤ b 9 m ∧ b 9 m ≤ nC b ∧ b 10 m < 2 ∧ b 11 m < 4 ∧ b 12 m < 13 ∧ b 13 m < 13 ∧ b 14 m < 16
def likeM (b : Sp) (m o : Nat) : Prop := b 10 m = b 10 o ∧ b 11 m = b 11 o ∧ b 12 m = b 12 o ∧ b 13 m = b 13 o
def V6 (b : Sp) : Prop := ∀ m o, 1 ≤ m → m ≤ nM b → 1 ≤ o → o ≤ nM b → b 9 m = b 9 o → likeM b m o → m = o
def V7 (b : Sp) : Prop := ∀ m, 1 ≤ m → m ≤ nM b → (b 10 m = 0 → b 13 m = 12 ∧ b 14 m < 8) ∧ (b 10 m = 1 → b 14 m &&& 8 ≠ 0 → b 14 m &&& 3 ≠ 3 ∧ b 14 m &&& 4 = 0)
def V8 (b : Sp) : Prop := ∀ i, i < nR b → 1 ≤ b 15 (5 * i) ∧ b 15 (5 * i) ≤ nC b ∧ b 15 (5 * i + 1) < 24 ∧ b 15 (5 * i + 2) < 12 ∧ b 15 (5 * i + 3) < 13 ∧ b 15 (5 * i + 4) < 13
def BV (b : Sp) : Prop := V1 b ∧ V2 b ∧ V3 b ∧ V4 b ∧ V5 b ∧ V6 b ∧ V7 b ∧ V8 b
/-- the reference's memory holds b -/
def RB (b : Sp) (R : Mem) : Prop := R.1 0 3 = nI (nC b) ∧ R.1 0 9 = nI (nM b) ∧ R.1 0 16 = nI (nR b) ∧ ∀ a, 1 ≤ a → a ≤ 15 → ∀ i, R.1 a i = nI (b a i)
/-- a member's signature, as the class writes it -/
def sig (k n f s : Nat) : Nat := ((4 * k + n) * 13 + f) * 13 + s
def virt (b : Sp) (m : Nat) : Prop := b 10 m = 1 ∧ b 14 m &&& 3 ≠ 3 ∧ b 14 m &&& 4 = 0
def rsig (b : Sp) (i : Nat) : Nat :=
  if b 15 (5 * i + 1) / 4 = 1 ∨ b 15 (5 * i + 1) / 4 = 2 then sig 0 (b 15 (5 * i + 1) % 4) (b 15 (5 * i + 3)) 12
  else sig 1 (b 15 (5 * i + 1) % 4) (b 15 (5 * i + 3)) (b 15 (5 * i + 4))
/-- the class's memory holds b -/
def CB1 (b : Sp) (M : Mem) : Prop := M.1 2 5 = nI (nC b) ∧ M.1 3 6 = nI (nM b) ∧ M.1 4 4 = nI (nR b)
def CB2 (b : Sp) (M : Mem) : Prop := (∀ l, l < 5 → M.1 16 l = nI (b 1 l)) ∧ (∀ l j, l < 5 → j < b 1 l → M.1 (11 + l) j = nI (b 2 (3 * l + j))) ∧ ∀ l, l < 5 → M.1 17 l = nI (b 3 l)
def CB3 (b : Sp) (M : Mem) : Prop := ∀ l n, l < 5 → n < 12 → M.1 (19 + l) n = nI (own b l n)
def CB4 (b : Sp) (M : Mem) : Prop := ∀ k, 1 ≤ k → k ≤ nC b → M.1 24 k = nI (b 4 k) ∧ M.1 25 k = nI (b 5 k) ∧ M.1 26 k = nI (b 6 k) ∧ M.1 27 k = nI (b 7 k) ∧ M.1 28 k = nI (b 8 k)
def CB5 (b : Sp) (M : Mem) : Prop := ∀ m, 1 ≤ m → m ≤ nM b → M.1 29 m = nI (b 9 m) ∧ M.1 30 m = nI (sig (b 10 m) (b 11 m) (b 12 m) (b 13 m)) ∧ M.1 31 m = nI (b 14 m)
def CB6 (b : Sp) (M : Mem) : Prop := (∀ k, k ≤ 16 → ∀ m, m < 64 → (tb (M.2 32 k) m = true ↔ 1 ≤ m ∧ m ≤ nM b ∧ b 9 m = k)) ∧ (∀ m, m < 64 → (tb (M.2 3 4) m = true ↔ 1 ≤ m ∧ m ≤ nM b ∧ virt b m)) ∧ ∀ m, m < 64 → (tb (M.2 3 5) m = true ↔ 1 ≤ m ∧ m ≤ nM b ∧ b 14 m &&& 8 ≠ 0)
def CB7 (b : Sp) (M : Mem) : Prop := ∀ i, i < nR b → M.1 33 i = nI (b 15 (5 * i)) ∧ M.1 34 i = nI (b 15 (5 * i + 1) / 4) ∧ M.1 35 i = nI (b 15 (5 * i + 2)) ∧ M.1 36 i = nI (rsig b i)
def CB (b : Sp) (M : Mem) : Prop := CB1 b M ∧ CB2 b M ∧ CB3 b M ∧ CB4 b M ∧ CB5 b M ∧ CB6 b M ∧ CB7 b M
theorem own_le {b : Sp} (h : BV b) (l n : Nat) : own b l n ≤ nC b := by
  have := fi_le (fun k => b 4 k == l && b 5 k == n) (nC b) 1 (Nat.le_refl 1)
  unfold own
  omega
theorem own_at {b : Sp} {l n : Nat} (h : own b l n ≠ 0) : 1 ≤ own b l n ∧ own b l n ≤ nC b ∧ b 4 (own b l n) = l ∧ b 5 (own b l n) = n := by
  rcases fi_spec (fun k => b 4 k == l && b 5 k == n) (nC b) 1 (Nat.le_refl 1) with ⟨h1, -⟩ | ⟨h1, h2, h3, -⟩
  · exact absurd h1 h
  · simp only [Bool.and_eq_true, beq_iff_eq] at h3
    exact ⟨h1, by unfold own; omega, h3⟩
theorem own_of {b : Sp} (h : BV b) {k : Nat} (h1 : 1 ≤ k) (h2 : k ≤ nC b) : own b (b 4 k) (b 5 k) = k := by
  rcases fi_spec (fun j => b 4 j == b 4 k && b 5 j == b 5 k) (nC b) 1 (Nat.le_refl 1) with ⟨-, g⟩ | ⟨g1, g2, g3, -⟩
  · have := g k h1 (by omega)
    simp at this
  · simp only [Bool.and_eq_true, beq_iff_eq] at g3
    unfold own
    exact h.2.2.2.1 _ _ g1 (by omega) h1 h2 g3.1 g3.2
theorem r_own_L {b : Sp} {R : Mem} (hv : BV b) (hr : RB b R) {τ : Type} {l n : Nat} (hl : l < 1000) (hn : n < 1000) (ke30 : Int32 → Option τ) (ke38 : Option τ) : ∀ r f i, r < f → i + r = nC b + 1 → 1 ≤ i → f_LinkAuditModel_own_L2 R (nI l) (nI n) ke30 ke38 f (nI i) = if fi (fun k => b 4 k == l && b 5 k == n) r i = 0 then ke38 else ke30 (nI (fi (fun k => b 4 k == l && b 5 k == n) r i)) := by
  have h16 := hv.1.1
  intro r
  induction r with
  | zero =>
    intro f i hf hi h1
    obtain ⟨f, rfl⟩ : ∃ g, f = g + 1 := ⟨f - 1, by omega⟩
    rw [f_LinkAuditModel_own_L2, hr.1, i_lt (by omega) (by omega), if_pos (by omega)]
    rfl
  | succ r ih =>
    intro f i hf hi h1
    obtain ⟨f, rfl⟩ : ∃ g, f = g + 1 := ⟨f - 1, by omega⟩
    have hk := hv.2.2.1 i h1 (by omega)
    rw [f_LinkAuditModel_own_L2, hr.1, i_lt (by omega) (by omega), if_neg (by omega), gd_n (by omega) (by omega), n_cl (by omega), hr.2.2.2 4 (by omega) (by omega) i, hr.2.2.2 5 (by omega) (by omega) i, i_eq (by omega) (by omega), i_eq (by omega) (by omega), gd_n (by omega) (by omega), l1, n_add, ih f (i + 1) (by omega) (by omega) (by omega)]
    rw [fi_s]
    by_cases e1 : b 4 i = l
    · by_cases e2 : b 5 i = n
      · simp [e1, e2]
        intro h0
        omega
      · simp [e1, e2]
    · simp [e1]
theorem r_own {b : Sp} {R : Mem} (hv : BV b) (hr : RB b R) {l n : Nat} (hl : l < 1000) (hn : n < 1000) : f_LinkAuditModel_own R (nI l) (nI n) = some (nI (own b l n)) := by
  obtain ⟨f, hf⟩ := FU_s (r := nC b) (by have := hv.1.1; omega)
  unfold f_LinkAuditModel_own
  rw [l1, r_own_L hv hr hl hn _ _ (nC b) FU 1 (by omega) (by omega) (Nat.le_refl 1)]
  show (if own b l n = 0 then some 0 else some (nI (own b l n))) = _
  by_cases h : own b l n = 0
  · rw [if_pos h, h]; rfl
  · rw [if_neg h]
theorem r_found_L {b : Sp} {R : Mem} (hv : BV b) (hr : RB b R) {τ : Type} {l n : Nat} (hl : l < 5) (hn : n < 12) (ke : Int32 → Option τ) : ∀ r f j c, r < f → j + r = b 1 l → c ≤ 16 → f_LinkAuditModel_found_L34 R (nI l) (nI n) ke f (nI c) (nI j) = ke (nI (if c = 0 then fpr b l n r j else c)) := by
  have h3 := (hv.2.1.2.2.1 l hl).1
  intro r
  induction r with
  | zero =>
    intro f j c hf hj hc
    obtain ⟨f, rfl⟩ : ∃ g, f = g + 1 := ⟨f - 1, by omega⟩
    rw [f_LinkAuditModel_found_L34, gd_n (by omega) (by omega), n_cl (by omega), hr.2.2.2 1 (by omega) (by omega), i_le (by omega) (by omega), if_pos (by omega)]
    by_cases e : c = 0
    · rw [if_pos e, e]; rfl
    · rw [if_neg e]
  | succ r ih =>
    intro f j c hf hj hc
    obtain ⟨f, rfl⟩ : ∃ g, f = g + 1 := ⟨f - 1, by omega⟩
    have hp := hv.2.1.2.2.2 l j hl (by omega)
    have ho := own_le hv (b 2 (3 * l + j)) n
    have h16 := hv.1.1
    rw [f_LinkAuditModel_found_L34, gd_n (by omega) (by omega), n_cl (by omega), hr.2.2.2 1 (by omega) (by omega), i_le (by omega) (by omega), if_neg (by omega), i_eq0 (by omega)]
    by_cases e : c = 0
    · rw [if_pos e, l3, n_mul, n_add, gd_n (by omega) (by omega), n_cl (by omega), hr.2.2.2 2 (by omega) (by omega), r_own hv hr (by omega) (by omega), bd1_s, l1, n_add, ih f (j + 1) _ (by omega) (by omega) (by omega), if_pos e, fpr]
    · rw [if_neg e, if_neg e]
theorem fpr_le {b : Sp} (hv : BV b) (l n : Nat) : ∀ r j, fpr b l n r j ≤ nC b := by
  intro r
  induction r with
  | zero => intro j; exact Nat.zero_le _
  | succ r ih =>
    intro j
    unfold fpr
    split
    · exact ih _
    · exact own_le hv _ _
theorem fnd_le {b : Sp} (hv : BV b) (l n : Nat) : fnd b l n ≤ nC b := by
  unfold fnd
  have h1 := own_le hv l n
  have h2 := own_le hv 0 n
  have h3 := fpr_le hv l n (b 1 l) 0
  split
  · exact h1
  · split
    · split
      · exact h1
      · exact h3
    · exact h2
theorem r_found {b : Sp} {R : Mem} (hv : BV b) (hr : RB b R) {l n : Nat} (hl : l < 5) (hn : n < 12) : f_LinkAuditModel_found R (nI l) (nI n) = some (nI (fnd b l n)) := by
  have hm := (hv.2.1.2.2.1 l hl).2
  have h16 := hv.1.1
  have ho := own_le hv 0 n
  have hp := fpr_le hv l n (b 1 l) 0
  obtain ⟨f, hf⟩ := FU_s (r := b 1 l) (by have := (hv.2.1.2.2.1 l hl).1; omega)
  unfold f_LinkAuditModel_found fnd
  rw [i_eq0 (by omega)]
  by_cases e : l = 0
  · rw [if_pos e, if_pos (Or.inl e), f_LinkAuditModel_found_b17, r_own hv hr (by omega) (by omega), bd1_s]
  · rw [if_neg e, gd_n (by omega) (by omega), n_cl (by omega), hr.2.2.2 3 (by omega) (by omega), i_bit (by omega) (by omega)]
    by_cases t : (b 3 l).testBit n = true
    · rw [if_pos t, if_pos (Or.inr t), f_LinkAuditModel_found_b17, r_own hv hr (by omega) (by omega), bd1_s]
    · rw [if_neg t, if_neg (by intro q; exact q.elim e t), l0, r_own hv hr (by omega) (by omega), bd1_s, r_found_L hv hr hl hn _ (b 1 l) FU 0 _ (by omega) (by omega) (by omega), f_LinkAuditModel_found_b72]
      by_cases z : own b 0 n = 0
      · rw [if_pos z, if_pos z, i_eq0 (by omega)]
        by_cases y : fpr b l n (b 1 l) 0 = 0
        · rw [if_pos y, if_pos y, r_own hv hr (by omega) (by omega), bd1_s]
        · rw [if_neg y, if_neg y]
      · rw [if_neg z, if_neg z, i_eq0 (by omega), if_neg z]

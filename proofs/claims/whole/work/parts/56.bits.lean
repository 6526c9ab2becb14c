/-! PURE: sets as longs; members with a signature; a member of a class by its kind, name and types -/
theorem tb_or (x y : Int64) (i : Nat) : tb (x ||| y) i = (tb x i || tb y i) := BitVec.getLsbD_or
theorem tb_and (x y : Int64) (i : Nat) : tb (x &&& y) i = (tb x i && tb y i) := BitVec.getLsbD_and
theorem tb_0 (i : Nat) : tb 0 i = false := BitVec.getLsbD_zero
theorem tb_1 {k : Nat} (hk : k < 64) (i : Nat) : tb ((1 : Int64) <<< ((nI k).toInt64 &&& 63)) i = decide (i = k) := by
  rw [b_c k hk]
  have h1 : ((1 : Int64) <<< lN k).toBitVec = 1#64 <<< k := by
    show (1#64).shiftLeft ((BitVec.ofNat 64 k).smod 64).toNat = _
    rw [b_sm k hk, BitVec.toNat_ofNat, Nat.mod_eq_of_lt (by omega)]
    rfl
  show ((1 : Int64) <<< lN k).toBitVec.getLsbD i = _
  rw [h1, BitVec.getLsbD_shiftLeft]
  by_cases e : i = k
  · subst e
    simp [hk]
  · by_cases l : i < k
    · simp [l, e]
    · have : i - k ≠ 0 := by omega
      simp [e, BitVec.getLsbD_one, this]
theorem tb_ext {x y : Int64} (h : ∀ i, i < 64 → tb x i = tb y i) : x = y := Int64.toBitVec_inj.mp (BitVec.eq_of_getLsbD_eq h)
theorem tb_z {x : Int64} : x = 0 ↔ ∀ i, i < 64 → tb x i = false := ⟨fun h i _ => by rw [h]; exact tb_0 i, fun h => tb_ext (fun i hi => by rw [h i hi, tb_0])⟩
theorem sig_lt {k n f s : Nat} (hk : k < 2) (hn : n < 4) (hf : f < 13) (hs : s < 13) : sig k n f s < 1352 := by unfold sig; omega
theorem sig_inj {k n f s k' n' f' s' : Nat} (hn : n < 4) (hf : f < 13) (hs : s < 13) (hn' : n' < 4) (hf' : f' < 13) (hs' : s' < 13) : sig k n f s = sig k' n' f' s' ↔ k = k' ∧ n = n' ∧ f = f' ∧ s = s' := by
  unfold sig
  constructor
  · intro h; omega
  · rintro ⟨rfl, rfl, rfl, rfl⟩; rfl
abbrev msig (b : Sp) (m : Nat) : Nat := sig (b 10 m) (b 11 m) (b 12 m) (b 13 m)
theorem c_ws_L {b : Sp} {M : Mem} (hv : BV b) (hc : CB b M) {τ : Type} {g : Nat} (hg : g < 2000) (ke : Int64 → Option τ) : ∀ r f i (x : Int64), r < f → i + r = nM b + 1 → 1 ≤ i → (∀ m, m < 64 → (tb x m = true ↔ 1 ≤ m ∧ m < i ∧ msig b m = g)) → ∃ y : Int64, (∀ m, m < 64 → (tb y m = true ↔ 1 ≤ m ∧ m ≤ nM b ∧ msig b m = g)) ∧ f_Members_withSignature_L5 M (nI g) ke f x (nI i) = ke y := by
  have h40 := hv.1.2.1
  obtain ⟨⟨-, c2, -⟩, -, -, -, c5, -⟩ := hc
  intro r
  induction r with
  | zero =>
    intro f i x hf hi h1 hx
    obtain ⟨f, rfl⟩ : ∃ g, f = g + 1 := ⟨f - 1, by omega⟩
    refine ⟨x, fun m hm => ?_, ?_⟩
    · rw [hx m hm]
      exact ⟨fun ⟨a, b, c⟩ => ⟨a, by omega, c⟩, fun ⟨a, b, c⟩ => ⟨a, by omega, c⟩⟩
    · rw [f_Members_withSignature_L5, c2, i_lt (by omega) (by omega), if_pos (by omega)]
  | succ r ih =>
    intro f i x hf hi h1 hx
    obtain ⟨f, rfl⟩ : ∃ g, f = g + 1 := ⟨f - 1, by omega⟩
    obtain ⟨-, -, v10, v11, v12, v13, -⟩ := hv.2.2.2.2.1 i h1 (by omega)
    have hs := sig_lt v10 v11 v12 v13
    rw [f_Members_withSignature_L5, c2, i_lt (by omega) (by omega), if_neg (by omega), gd_n (by omega) (by omega), n_cl (by omega), (c5 i h1 (by omega)).2.1, i_eq (by omega) (by omega), l1, n_add]
    by_cases e : msig b i = g
    · rw [if_pos e]
      refine ih f (i + 1) _ (by omega) (by omega) (by omega) (fun m hm => ?_)
      rw [tb_or, tb_1 (by omega), Bool.or_eq_true, hx m hm, decide_eq_true_eq]
      constructor
      · rintro (⟨a, b, c⟩ | rfl)
        · exact ⟨a, by omega, c⟩
        · exact ⟨h1, by omega, e⟩
      · rintro ⟨a, b, c⟩
        by_cases z : m = i
        · exact Or.inr z
        · exact Or.inl ⟨a, by omega, c⟩
    · rw [if_neg e]
      refine ih f (i + 1) _ (by omega) (by omega) (by omega) (fun m hm => ?_)
      rw [hx m hm]
      constructor
      · rintro ⟨a, b, c⟩; exact ⟨a, by omega, c⟩
      · rintro ⟨a, b, c⟩
        by_cases z : m = i
        · subst z; exact absurd c e
        · exact ⟨a, by omega, c⟩
theorem c_withSig {b : Sp} {M : Mem} (hv : BV b) (hc : CB b M) {g : Nat} (hg : g < 2000) : ∃ y : Int64, (∀ m, m < 64 → (tb y m = true ↔ 1 ≤ m ∧ m ≤ nM b ∧ msig b m = g)) ∧ f_Members_withSignature M (nI g) = some y := by
  obtain ⟨f, hf⟩ := FU_s (r := nM b) (by have := hv.1.2.1; omega)
  unfold f_Members_withSignature
  rw [l1]
  have h0 : ∀ m, m < 64 → (tb 0 m = true ↔ 1 ≤ m ∧ m < 1 ∧ msig b m = g) := by
    intro m _
    rw [tb_0]
    constructor
    · intro q
      cases q
    · rintro ⟨a, b, -⟩
      omega
  exact c_ws_L hv hc hg _ (nM b) FU 1 0 (by omega) (by omega) (Nat.le_refl 1) h0
/-- the member of class c of this kind, name and types; 0: none -/
def lk (b : Sp) (c k n f s : Nat) : Nat := fi (fun m => b 9 m == c && b 10 m == k && b 11 m == n && b 12 m == f && b 13 m == s) (nM b) 1
theorem lk_at {b : Sp} {c k n f s : Nat} (h : lk b c k n f s ≠ 0) : 1 ≤ lk b c k n f s ∧ lk b c k n f s ≤ nM b ∧ b 9 (lk b c k n f s) = c ∧ b 10 (lk b c k n f s) = k ∧ b 11 (lk b c k n f s) = n ∧ b 12 (lk b c k n f s) = f ∧ b 13 (lk b c k n f s) = s := by
  rcases fi_spec (fun m => b 9 m == c && b 10 m == k && b 11 m == n && b 12 m == f && b 13 m == s) (nM b) 1 (Nat.le_refl 1) with ⟨h1, -⟩ | ⟨h1, h2, h3, -⟩
  · exact absurd h1 h
  · simp only [Bool.and_eq_true, beq_iff_eq] at h3
    obtain ⟨⟨⟨⟨a, b1⟩, c1⟩, d1⟩, e1⟩ := h3
    exact ⟨h1, by unfold lk; omega, a, b1, c1, d1, e1⟩
theorem lk_no {b : Sp} {c k n f s : Nat} (h : lk b c k n f s = 0) {m : Nat} (h1 : 1 ≤ m) (h2 : m ≤ nM b) : ¬ (b 9 m = c ∧ b 10 m = k ∧ b 11 m = n ∧ b 12 m = f ∧ b 13 m = s) := by
  rcases fi_spec (fun m => b 9 m == c && b 10 m == k && b 11 m == n && b 12 m == f && b 13 m == s) (nM b) 1 (Nat.le_refl 1) with ⟨-, g⟩ | ⟨g1, -, -, -⟩
  · have := g m h1 (by omega)
    rintro ⟨q1, q2, q3, q4, q5⟩
    simp [q1, q2, q3, q4, q5] at this
  · unfold lk at h
    omega
theorem r_add_L {b : Sp} {R : Mem} (hv : BV b) (hr : RB b R) {τ : Type} {c k n f s : Nat} {z : Int32} (hc : c < 1000) (hk : k < 1000) (hn : n < 1000) (hf : f < 1000) (hs : s < 1000) (k1 k2 : Option τ) : ∀ r fu i, r < fu → i + r = nM b + 1 → 1 ≤ i → f_LinkAuditModel_add_L3 R (nI c) (nI k) (nI n) (nI f) (nI s) z k1 k2 fu (nI i) = if fi (fun m => b 9 m == c && b 10 m == k && b 11 m == n && b 12 m == f && b 13 m == s) r i = 0 then k2 else k1 := by
  have h40 := hv.1.2.1
  have h16 := hv.1.1
  intro r
  induction r with
  | zero =>
    intro fu i hf' hi h1
    obtain ⟨fu, rfl⟩ : ∃ g, fu = g + 1 := ⟨fu - 1, by omega⟩
    rw [f_LinkAuditModel_add_L3, hr.2.1, i_lt (by omega) (by omega), if_pos (by omega)]
    rfl
  | succ r ih =>
    intro fu i hf' hi h1
    obtain ⟨fu, rfl⟩ : ∃ g, fu = g + 1 := ⟨fu - 1, by omega⟩
    obtain ⟨-, v9, v10, v11, v12, v13, -⟩ := hv.2.2.2.2.1 i h1 (by omega)
    rw [f_LinkAuditModel_add_L3, hr.2.1, i_lt (by omega) (by omega), if_neg (by omega)]
    simp (disch := omega) only [gd_n, n_cl]
    rw [hr.2.2.2 9 (by omega) (by omega) i, hr.2.2.2 10 (by omega) (by omega) i, hr.2.2.2 11 (by omega) (by omega) i, hr.2.2.2 12 (by omega) (by omega) i, hr.2.2.2 13 (by omega) (by omega) i, i_eq (by omega) (by omega), i_eq (by omega) (by omega), i_eq (by omega) (by omega), i_eq (by omega) (by omega), i_eq (by omega) (by omega), l1, n_add, ih fu (i + 1) (by omega) (by omega) (by omega), fi_s]
    by_cases e1 : b 9 i = c
    · by_cases e2 : b 10 i = k
      · by_cases e3 : b 11 i = n
        · by_cases e4 : b 12 i = f
          · by_cases e5 : b 13 i = s
            · simp [e1, e2, e3, e4, e5]
              intro q; omega
            · simp [e1, e2, e3, e4, e5]
          · simp [e1, e2, e3, e4]
        · simp [e1, e2, e3]
      · simp [e1, e2]
    · simp [e1]

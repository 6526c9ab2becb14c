/-! PURE: the class: methods that interfaces offer, the most specific ones with code -/
theorem tb_xor (x y : Int64) (i : Nat) : tb (x ^^^ y) i = (tb x i ^^ tb y i) := BitVec.getLsbD_xor
theorem tb_m1 {i : Nat} (hi : i < 64) : tb (-1) i = true := by
  have : ∀ i : Fin 64, tb (-1) i.val = true := by decide
  exact this ⟨i, hi⟩
theorem Bs_not {x y : Int64} {P Q : Nat → Prop} (h : Bs x P) (g : Bs y Q) : Bs (x &&& (y ^^^ (-1))) (fun i => P i ∧ ¬ Q i) := fun i hi => by
  rw [tb_and, Bool.and_eq_true, tb_xor, tb_m1 hi, h i hi]
  show _ ↔ P i ∧ ¬ Q i
  rw [← g i hi]
  cases tb y i <;> simp
/-- v says whether P has none, the one k, or more (-1) -/
def Sv (v : Int32) (P : Nat → Prop) : Prop := (v = 0 ∧ ∀ m, ¬ P m) ∨ (∃ k, v = nI k ∧ 1 ≤ k ∧ k ≤ 40 ∧ ∀ m, P m ↔ m = k) ∨ (v = -1 ∧ ∃ i j, i < j ∧ P i ∧ P j)
theorem Bs_n {y : Int64} {P : Nat → Prop} (h : Bs y P) (hP : ∀ m, P m → m ≤ 40) : ∃ n, n < 2 ^ 63 ∧ y = lN n ∧ ∀ i, i < 64 → (n.testBit i = true ↔ P i) := by
  refine ⟨y.toBitVec.toNat, ?_, ?_, fun i hi => ?_⟩
  · refine Nat.lt_of_not_le (fun q => ?_)
    have h64 : y.toBitVec.toNat < 2 ^ 64 := y.toBitVec.isLt
    have t : y.toBitVec.toNat.testBit 63 = true := by
      rw [Nat.testBit_eq_decide_div_mod_eq]
      have : y.toBitVec.toNat / 2 ^ 63 = 1 := by omega
      rw [this]
      rfl
    have := hP 63 ((h 63 (by omega)).mp t)
    omega
  · refine Int64.toBitVec_inj.mp ?_
    show y.toBitVec = BitVec.ofNat 64 y.toBitVec.toNat
    rw [BitVec.ofNat_toNat]
    simp
  · exact h i hi
theorem Bs_two {y : Int64} {P : Nat → Prop} (h : Bs y P) (hP : ∀ m, P m → m ≤ 40) {i j : Nat} (hij : i < j) (h1 : P i) (h2 : P j) : ∃ c, 2 ≤ c ∧ c ≤ 64 ∧ f_Long_bitCount y = some (nI c) := by
  obtain ⟨n, n1, n2, n3⟩ := Bs_n h hP
  have := hP j h2
  rw [n2]
  exact cnt_two n1 (by omega) hij ((n3 i (by omega)).mpr h1) ((n3 j (by omega)).mpr h2)
theorem Bs_one {y : Int64} {P : Nat → Prop} (h : Bs y P) {k : Nat} (hk : k ≤ 40) (hP : ∀ m, P m ↔ m = k) : f_Long_bitCount y = some (nI 1) ∧ f_LinkAudit_lowestBit y = some (nI k) := by
  have e : y = (1 : Int64) <<< ((nI k).toInt64 &&& 63) := tb_ext (fun i hi => by
    rw [tb_1 (by omega)]
    by_cases q : i = k
    · rw [(h i hi).mpr ((hP i).mpr q)]
      simp [q]
    · cases z : tb y i
      · simp [q]
      · exact absurd ((hP i).mp ((h i hi).mp z)) q)
  refine ⟨by rw [e]; exact cnt_1 k (by omega), f_low y (by omega) ((h k (by omega)).mpr ((hP k).mpr rfl)) (fun j hj => ?_)⟩
  cases z : tb y j
  · rfl
  · exact absurd ((hP j).mp ((h j (by omega)).mp z)) (by omega)
theorem Bs_low {y : Int64} {P : Nat → Prop} (h : Bs y P) {k : Nat} (hk : k ≤ 40) (h1 : P k) (h2 : ∀ j, j < k → ¬ P j) : f_LinkAudit_lowestBit y = some (nI k) := f_low y (by omega) ((h k (by omega)).mpr h1) (fun j hj => by
  cases z : tb y j
  · rfl
  · exact absurd ((h j (by omega)).mp z) (h2 j hj))
theorem c_off_L {b : Sp} {M : Mem} (hv : BV b) (hc : CB b M) {τ : Type} (ke : Int64 → Option τ) (x2 : Int64) {x : Nat} (hx : x ≤ nC b) (h58 : M.1 58 x = nI (fm b 16 x)) : ∀ r f i a, r < f → i + r = nC b + 1 → 1 ≤ i → Bs a (fun m => mr b m ∧ b 9 m < i ∧ (fm b 16 x).testBit (b 9 m) = true) → ∃ y, f_Inheritance_offered_L6 M (nI x) x2 ke f a (nI i) = ke y ∧ Bs y (fun m => mr b m ∧ (fm b 16 x).testBit (b 9 m) = true) := by
  have h16 := hv.1.1
  have hfm := fm_lt hv 16 x
  intro r
  induction r with
  | zero =>
    intro f i a hf hi h1 ha
    obtain ⟨f, rfl⟩ : ∃ g, f = g + 1 := ⟨f - 1, by omega⟩
    rw [f_Inheritance_offered_L6, hc.1.1, i_lt (by omega) (by omega), if_pos (by omega)]
    exact ⟨a, rfl, Bs_c ha (fun m _ => ⟨fun q => ⟨q.1, q.2.2⟩, fun q => ⟨q.1, by have := (m_lt hv q.1).2.2.1; omega, q.2⟩⟩)⟩
  | succ r ih =>
    intro f i a hf hi h1 ha
    obtain ⟨f, rfl⟩ : ∃ g, f = g + 1 := ⟨f - 1, by omega⟩
    rw [f_Inheritance_offered_L6, hc.1.1, i_lt (by omega) (by omega), if_neg (by omega), gd_n (by omega) (by omega), n_cl (by omega), h58, f_hasBitN (by omega) (by omega), bd1_s, i_hb, gd_n (by omega) (by omega), n_cl (by omega), show nI i + (1 : Int32) = nI (i + 1) from n_add i 1]
    by_cases t : (fm b 16 x).testBit i = true
    · rw [if_pos t]
      refine ih f (i + 1) _ (by omega) (by omega) (by omega) (Bs_c (Bs_or ha (hc.2.2.2.2.2.1.1 i (by omega))) (fun m _ => ?_))
      constructor
      · rintro (q | ⟨q1, q2, q3⟩)
        · exact ⟨q.1, by omega, q.2.2⟩
        · exact ⟨⟨q1, q2⟩, by omega, by rw [q3]; exact t⟩
      · rintro ⟨q1, q2, q3⟩
        by_cases e : b 9 m = i
        · exact Or.inr ⟨q1.1, q1.2, e⟩
        · exact Or.inl ⟨q1, by omega, q3⟩
    · rw [if_neg t]
      refine ih f (i + 1) _ (by omega) (by omega) (by omega) (Bs_c ha (fun m _ => ?_))
      constructor
      · rintro ⟨q1, q2, q3⟩; exact ⟨q1, by omega, q3⟩
      · rintro ⟨q1, q2, q3⟩
        by_cases e : b 9 m = i
        · rw [e] at q3; exact absurd q3 t
        · exact ⟨q1, by omega, q3⟩
theorem c_off {b : Sp} {M : Mem} (hv : BV b) (hc : CB b M) {x : Nat} (hx : x ≤ nC b) (h58 : M.1 58 x = nI (fm b 16 x)) {l : Int64} {Q : Nat → Prop} (hl : Bs l Q) : ∃ y, f_Inheritance_offered M (nI x) l = some y ∧ Bs y (fun m => mr b m ∧ (fm b 16 x).testBit (b 9 m) = true ∧ Q m ∧ virt b m) := by
  have h16 := hv.1.1
  obtain ⟨fu, hfu⟩ := FU_s (r := nC b) (by omega)
  obtain ⟨y, y1, y2⟩ := c_off_L hv hc (fun y4 => some ((y4 &&& l) &&& (M.2 3 4))) l hx h58 (nC b) FU 1 0 (by omega) (by omega) (Nat.le_refl 1) (Bs_0 (fun m _ q => by have := (m_lt hv q.1).2.1; omega))
  unfold f_Inheritance_offered
  rw [l1, y1]
  refine ⟨_, rfl, Bs_c (Bs_and (Bs_and y2 hl) hc.2.2.2.2.2.1.2.1) (fun m _ => ?_)⟩
  constructor
  · rintro ⟨⟨⟨q1, q2⟩, q3⟩, -, -, q4⟩; exact ⟨q1, q2, q3, q4⟩
  · rintro ⟨q1, q2, q3, q4⟩; exact ⟨⟨⟨q1, q2⟩, q3⟩, q1.1, q1.2, q4⟩
theorem c_ms_L5 {b : Sp} {M : Mem} (hv : BV b) (hc : CB b M) {τ : Type} (ke : Int32 → Option τ) {x1 : Int64} {P : Nat → Prop} (h1 : Bs x1 P) (hP : ∀ o, P o → mr b o ∧ M.1 58 (b 9 o) = nI (fm b 16 (b 9 o))) : ∀ r f i A, r < f → i + r = nM b + 1 → 1 ≤ i → A < 2 ^ 17 → (∀ k, A.testBit k = true ↔ ∃ o, P o ∧ o < i ∧ (fm b 16 (b 9 o)).testBit k = true) → ∃ A', A' < 2 ^ 17 ∧ f_Inheritance_mostSpecificWithCode_L5 M x1 ke f (nI A) (nI i) = ke (nI A') ∧ ∀ k, A'.testBit k = true ↔ ∃ o, P o ∧ (fm b 16 (b 9 o)).testBit k = true := by
  have h40 := hv.1.2.1
  have h16 := hv.1.1
  intro r
  induction r with
  | zero =>
    intro f i A hf hi i1 hA ha
    obtain ⟨f, rfl⟩ : ∃ g, f = g + 1 := ⟨f - 1, by omega⟩
    rw [f_Inheritance_mostSpecificWithCode_L5, hc.1.2.1, i_lt (by omega) (by omega), if_pos (by omega)]
    refine ⟨A, hA, rfl, fun k => (ha k).trans ⟨fun ⟨o, q1, _, q3⟩ => ⟨o, q1, q3⟩, fun ⟨o, q1, q3⟩ => ⟨o, q1, ?_, q3⟩⟩⟩
    have := (hP o q1).1.2; omega
  | succ r ih =>
    intro f i A hf hi i1 hA ha
    obtain ⟨f, rfl⟩ : ∃ g, f = g + 1 := ⟨f - 1, by omega⟩
    have hi' : mr b i := ⟨i1, by omega⟩
    obtain ⟨-, m1, m2, -⟩ := m_lt hv hi'
    rw [f_Inheritance_mostSpecificWithCode_L5, hc.1.2.1, i_lt (by omega) (by omega), if_neg (by omega), f_hasBit _ (by omega), bd1_s, i_hb, gd_n (by omega) (by omega), n_cl (by omega), (hc.2.2.2.2.1 i i1 (by omega)).1, gd_n (by omega) (by omega), n_cl (by omega), show nI i + (1 : Int32) = nI (i + 1) from n_add i 1]
    by_cases t : tb x1 i = true
    · have p := (h1 i (by omega)).mp t
      rw [if_pos t, (hP i p).2, n_or]
      refine ih f (i + 1) _ (by omega) (by omega) (by omega) (Nat.or_lt_two_pow hA (fm_lt hv _ _)) (fun k => ?_)
      rw [Nat.testBit_or, Bool.or_eq_true, ha]
      constructor
      · rintro (⟨o, q1, q2, q3⟩ | q)
        · exact ⟨o, q1, by omega, q3⟩
        · exact ⟨i, p, by omega, q⟩
      · rintro ⟨o, q1, q2, q3⟩
        by_cases e : o = i
        · rw [e] at q3; exact Or.inr q3
        · exact Or.inl ⟨o, q1, by omega, q3⟩
    · rw [if_neg t]
      refine ih f (i + 1) _ (by omega) (by omega) (by omega) hA (fun k => (ha k).trans ?_)
      constructor
      · rintro ⟨o, q1, q2, q3⟩; exact ⟨o, q1, by omega, q3⟩
      · rintro ⟨o, q1, q2, q3⟩
        refine ⟨o, q1, ?_, q3⟩
        by_cases e : o = i
        · rw [e] at q1; exact absurd ((h1 i (by omega)).mpr q1) t
        · omega
theorem c_ms_L59 {b : Sp} {M : Mem} (hv : BV b) (hc : CB b M) {τ : Type} (ke : Int64 → Option τ) {x1 : Int64} {P : Nat → Prop} (h1 : Bs x1 P) (hP : ∀ o, P o → mr b o) {A : Nat} (hA : A < 2 ^ 17) : ∀ r f i a, r < f → i + r = nM b + 1 → 1 ≤ i → Bs a (fun m => P m ∧ m < i ∧ ¬ A.testBit (b 9 m) = true) → ∃ y, f_Inheritance_mostSpecificWithCode_L59 M x1 (nI A) ke f a (nI i) = ke y ∧ Bs y (fun m => P m ∧ ¬ A.testBit (b 9 m) = true) := by
  have h40 := hv.1.2.1
  have h16 := hv.1.1
  intro r
  induction r with
  | zero =>
    intro f i a hf hi i1 ha
    obtain ⟨f, rfl⟩ : ∃ g, f = g + 1 := ⟨f - 1, by omega⟩
    rw [f_Inheritance_mostSpecificWithCode_L59, hc.1.2.1, i_lt (by omega) (by omega), if_pos (by omega)]
    refine ⟨a, rfl, Bs_c ha (fun m _ => ⟨fun q => ⟨q.1, q.2.2⟩, fun q => ⟨q.1, ?_, q.2⟩⟩)⟩
    have := (hP m q.1).2; omega
  | succ r ih =>
    intro f i a hf hi i1 ha
    obtain ⟨f, rfl⟩ : ∃ g, f = g + 1 := ⟨f - 1, by omega⟩
    obtain ⟨-, m1, m2, -⟩ := m_lt hv (show mr b i from ⟨i1, by omega⟩)
    rw [f_Inheritance_mostSpecificWithCode_L59, hc.1.2.1, i_lt (by omega) (by omega), if_neg (by omega), f_hasBit _ (by omega), bd1_s, i_hb, gd_n (by omega) (by omega), n_cl (by omega), (hc.2.2.2.2.1 i i1 (by omega)).1, f_hasBitN (by omega) (by omega), bd1_s, i_hb, show nI i + (1 : Int32) = nI (i + 1) from n_add i 1]
    have keep : ¬ (P i ∧ ¬ A.testBit (b 9 i) = true) → ∃ y, f_Inheritance_mostSpecificWithCode_L59 M x1 (nI A) ke f a (nI (i + 1)) = ke y ∧ Bs y (fun m => P m ∧ ¬ A.testBit (b 9 m) = true) := fun no => by
      refine ih f (i + 1) _ (by omega) (by omega) (by omega) (Bs_c ha (fun m _ => ?_))
      constructor
      · rintro ⟨q1, q2, q3⟩; exact ⟨q1, by omega, q3⟩
      · rintro ⟨q1, q2, q3⟩
        refine ⟨q1, ?_, q3⟩
        by_cases e : m = i
        · rw [e] at q1 q3; exact absurd ⟨q1, q3⟩ no
        · omega
    by_cases t : tb x1 i = true
    · have p := (h1 i (by omega)).mp t
      rw [if_pos t]
      by_cases z : A.testBit (b 9 i) = true
      · rw [if_pos z]
        exact keep (fun q => q.2 z)
      · rw [if_neg z]
        refine ih f (i + 1) _ (by omega) (by omega) (by omega) (fun m hm => ?_)
        rw [tb_or, tb_1 (by omega), Bool.or_eq_true, ha m hm, decide_eq_true_eq]
        constructor
        · rintro (⟨q1, q2, q3⟩ | q)
          · exact ⟨q1, by omega, q3⟩
          · rw [q]; exact ⟨p, by omega, z⟩
        · rintro ⟨q1, q2, q3⟩
          by_cases e : m = i
          · exact Or.inr e
          · exact Or.inl ⟨q1, by omega, q3⟩
    · rw [if_neg t]
      exact keep (fun q => t ((h1 i (by omega)).mpr q.1))
theorem c_ms {b : Sp} {M : Mem} (hv : BV b) (hc : CB b M) {x1 : Int64} {P : Nat → Prop} (h1 : Bs x1 P) (hP : ∀ o, P o → mr b o ∧ M.1 58 (b 9 o) = nI (fm b 16 (b 9 o))) : ∃ y, f_Inheritance_mostSpecificWithCode M x1 = some y ∧ Bs y (fun m => P m ∧ (∀ o, P o → ¬ (fm b 16 (b 9 o)).testBit (b 9 m) = true) ∧ b 14 m &&& 8 = 0) := by
  have h40 := hv.1.2.1
  obtain ⟨fu, hfu⟩ := FU_s (r := nM b) (by omega)
  unfold f_Inheritance_mostSpecificWithCode
  obtain ⟨A, a1, a2, a3⟩ := c_ms_L5 hv hc (fun y3 => f_Inheritance_mostSpecificWithCode_L59 M x1 y3 (fun y4 => some ((y4 &&& ((M.2 3 5) ^^^ (-1 : Int64))))) FU (0 : Int64) (1 : Int32)) h1 hP (nM b) FU 1 0 (by omega) (by omega) (Nat.le_refl 1) (by decide) (fun k => by
    rw [Nat.zero_testBit]
    exact ⟨fun q => (by cases q), fun ⟨o, q1, q2, _⟩ => by have := (hP o q1).1.1; omega⟩)
  obtain ⟨y, y1, y2⟩ := c_ms_L59 hv hc (fun y4 => some ((y4 &&& ((M.2 3 5) ^^^ (-1 : Int64))))) h1 (fun o q => (hP o q).1) a1 (nM b) FU 1 0 (by omega) (by omega) (Nat.le_refl 1) (Bs_0 (fun m _ q => by have := (hP m q.1).1.1; omega))
  refine ⟨_, a2.trans y1, Bs_c (Bs_not y2 hc.2.2.2.2.2.1.2.2) (fun m _ => ?_)⟩
  rw [a3]
  constructor
  · rintro ⟨⟨q1, q2⟩, q3⟩
    refine ⟨q1, fun o p q => q2 ⟨o, p, q⟩, Decidable.byContradiction (fun n => q3 ⟨(hP m q1).1.1, (hP m q1).1.2, n⟩)⟩
  · rintro ⟨q1, q2, q3⟩
    exact ⟨⟨q1, fun ⟨o, p, q⟩ => q2 o p q⟩, fun w => w.2.2 q3⟩

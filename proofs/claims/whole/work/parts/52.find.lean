/-! PURE: what a loader finds, in the class; ranges of arguments; find, count -/
theorem c_found_L {b : Sp} {M : Mem} (hv : BV b) (hc : CB b M) {τ : Type} {l n : Nat} (hl : l < 5) (hn : n < 12) (ke : Int32 → Option τ) : ∀ r f j c, r < f → j + r = b 1 l → c ≤ 16 → f_Loaders_found_L28 M (nI l) (nI n) ke f (nI c) (nI j) = ke (nI (if c = 0 then fpr b l n r j else c)) := by
  obtain ⟨-, ⟨p1, p2, -⟩, o1, -⟩ := hc
  have h3 := (hv.2.1.2.2.1 l hl).1
  intro r
  induction r with
  | zero =>
    intro f j c hf hj hc
    obtain ⟨f, rfl⟩ : ∃ g, f = g + 1 := ⟨f - 1, by omega⟩
    rw [f_Loaders_found_L28, gd_n (by omega) (by omega), n_cl (by omega), p1 l hl, i_le (by omega) (by omega), if_pos (by omega)]
    by_cases e : c = 0
    · rw [if_pos e, e]; rfl
    · rw [if_neg e]
  | succ r ih =>
    intro f j c hf hj hc
    obtain ⟨f, rfl⟩ : ∃ g, f = g + 1 := ⟨f - 1, by omega⟩
    have hp := hv.2.1.2.2.2 l j hl (by omega)
    have ho := own_le hv (b 2 (3 * l + j)) n
    have h16 := hv.1.1
    rw [f_Loaders_found_L28, gd_n (by omega) (by omega), n_cl (by omega), p1 l hl, i_le (by omega) (by omega), if_neg (by omega), i_eq0 (by omega)]
    by_cases e : c = 0
    · rw [if_pos e, gd_n (by omega) (by omega), gd_n (by omega) (by omega), n_cl (by omega), p2 l j hl (by omega), gd_n (by omega) (by omega), gd_n (by omega) (by omega), n_cl (by omega), n_cl (by omega), o1 _ n hp hn, l1, n_add, ih f (j + 1) _ (by omega) (by omega) (by omega), if_pos e, fpr]
    · rw [if_neg e, if_neg e]
theorem c_found {b : Sp} {M : Mem} (hv : BV b) (hc : CB b M) {l n : Nat} (hl : l < 5) (hn : n < 12) : f_Loaders_found M (nI l) (nI n) = some (nI (fnd b l n)) := by
  have hm := (hv.2.1.2.2.1 l hl).2
  have h16 := hv.1.1
  have ho := own_le hv 0 n
  have hp := fpr_le hv l n (b 1 l) 0
  obtain ⟨f, hf⟩ := FU_s (r := b 1 l) (by have := (hv.2.1.2.2.1 l hl).1; omega)
  have hcc := hc
  obtain ⟨-, ⟨-, -, p3⟩, o1, -⟩ := hc
  have hb66 : ∀ c, c ≤ 16 → f_Loaders_found_b66 M (nI l) (nI n) (nI c) = some (nI (if c = 0 then own b l n else c)) := by
    intro c hc
    rw [f_Loaders_found_b66, i_eq0 (by omega)]
    by_cases e : c = 0
    · rw [if_pos e, if_pos e, gd_n (by omega) (by omega), gd_n (by omega) (by omega), n_cl (by omega), n_cl (by omega), o1 l n hl hn]
    · rw [if_neg e, if_neg e]
  unfold f_Loaders_found
  rw [gd_n (by omega) (by omega), n_cl (by omega), p3 l hl, f_hasBitN (by omega) (by omega), bd1_s, i_hb]
  by_cases t : (b 3 l).testBit n = true
  · rw [if_pos t, l0, hb66 0 (by omega), if_pos rfl]
    unfold fnd
    rw [if_pos (Or.inr t)]
  · rw [if_neg t, l0, gd_n (by omega) (by omega), gd_n (by omega) (by omega), n_cl (by omega), n_cl (by omega), o1 0 n (by omega) hn, c_found_L hv hcc hl hn _ (b 1 l) FU 0 _ (by omega) (by omega) (by omega)]
    unfold fnd
    by_cases e : l = 0
    · subst e
      have h0 : b 1 0 = 0 := hv.2.1.1
      rw [h0, if_pos (Or.inl rfl)]
      by_cases z : own b 0 n = 0
      · rw [if_pos z, fpr, hb66 0 (by omega), if_pos rfl]
      · rw [if_neg z, hb66 _ (by omega), if_neg z]
    · rw [if_neg (show ¬ (l = 0 ∨ (b 3 l).testBit n = true) from fun q => q.elim e t)]
      by_cases z : own b 0 n = 0
      · rw [if_pos z, if_pos z, hb66 _ (by omega)]
      · rw [if_neg z, if_neg z, hb66 _ (by omega), if_neg z]
/-- an argument in range, or not: class and reference see the same -/
theorem rg (a : Int32) (N : Nat) (h0 : 0 < N) (hN : N < 1000000) : (∃ k, k < N ∧ a = nI k ∧ f_LinkAudit_isBelow a (nI N) = some 1 ∧ f_LinkAuditModel_in a (nI 0) (nI (N - 1)) = some 1) ∨ (f_LinkAudit_isBelow a (nI N) = some 0 ∧ f_LinkAuditModel_in a (nI 0) (nI (N - 1)) = some 0) := by
  unfold f_LinkAudit_isBelow f_LinkAuditModel_in
  rcases pk_ix a (show N < 2 ^ 31 by omega) with h | h | ⟨k, hk, rfl⟩
  · exact Or.inr ⟨by rw [if_pos h], by rw [if_pos (show a < nI 0 from h)]⟩
  · refine Or.inr ⟨?_, ?_⟩
    · by_cases z : a < 0
      · rw [if_pos z]
      · rw [if_neg z, if_pos h]
    · by_cases z : a < nI 0
      · rw [if_pos z]
      · rw [if_neg z, if_pos]
        exact Int32.lt_of_lt_of_le (nI_lt (show N - 1 < N by omega) (by omega)) h
  · refine Or.inl ⟨k, hk, rfl, ?_, ?_⟩
    · rw [if_neg (nI_pos (by omega)), i_le (by omega) (by omega), if_neg (by omega)]
    · rw [i_lt (by omega) (by omega), if_neg (by omega), i_lt (by omega) (by omega), if_neg (by omega)]
theorem i1 {α : Type} {x y : α} : (if (1 : Int32) = 0 then x else y) = y := if_neg (by decide)
theorem i0 {α : Type} {x y : α} : (if (0 : Int32) = 0 then x else y) = x := if_pos rfl
theorem sim_find {b : Sp} {Mc Mr : Mem} (hv : BV b) (hr : RB b Mr) (hc : CB b Mc) (x y : Int32) : SimR (f_LinkAudit_find Mc x y) (f_LinkAuditModel_find Mr x y) := by
  unfold f_LinkAudit_find f_LinkAuditModel_find SimR
  rcases rg x 5 (by omega) (by omega) with ⟨l, hl, rfl, h1, h2⟩ | ⟨h1, h2⟩
  · rw [show f_LinkAudit_isBelow (nI l) 5 = some 1 from h1, show f_LinkAuditModel_in (nI l) 0 4 = some 1 from h2, bd1_s, bd1_s, i1, i1]
    rcases rg y 12 (by omega) (by omega) with ⟨n, hn, rfl, g1, g2⟩ | ⟨g1, g2⟩
    · rw [show f_LinkAudit_isBelow (nI n) 12 = some 1 from g1, show f_LinkAuditModel_in (nI n) 0 11 = some 1 from g2, bd1_s, bd1_s, i1, i1, c_found hv hc hl hn, r_found hv hr hl hn, bd1_s, i_eq0 (by have := fnd_le hv l n; have := hv.1.1; omega)]
      by_cases z : fnd b l n = 0
      · rw [if_pos z]; exact ⟨_, rfl, rfl⟩
      · rw [if_neg z]; exact ⟨_, rfl, rfl⟩
    · rw [show f_LinkAudit_isBelow y 12 = some 0 from g1, show f_LinkAuditModel_in y 0 11 = some 0 from g2, bd1_s, bd1_s, i0, i0]
      exact ⟨_, rfl, rfl⟩
  · rw [show f_LinkAudit_isBelow x 5 = some 0 from h1, show f_LinkAuditModel_in x 0 4 = some 0 from h2, bd1_s, bd1_s, i0, i0]
    exact ⟨_, rfl, rfl⟩
theorem sim_count {b : Sp} {Mc Mr : Mem} (hr : RB b Mr) (hc : CB b Mc) (x : Int32) : SimR (f_LinkAudit_count Mc x) (f_LinkAuditModel_count Mr x) := by
  unfold f_LinkAudit_count f_LinkAuditModel_count SimR
  rw [hr.1, hr.2.1, hr.2.2.1, hc.1.1, hc.1.2.1, hc.1.2.2]
  refine ⟨if x = 0 then nI (nC b) else if x = 1 then nI (nM b) else if x = 2 then nI (nR b) else -1, ?_, ?_⟩
  · by_cases h0 : x = 0
    · rw [if_pos h0, if_pos h0]
    · by_cases h1 : x = 1
      · rw [if_neg h0, if_pos h1, if_neg h0, if_pos h1]
      · by_cases h2 : x = 2
        · rw [if_neg h0, if_neg h1, if_pos h2, if_neg h0, if_neg h1, if_pos h2]
        · rw [if_neg h0, if_neg h1, if_neg h2, if_neg h0, if_neg h1, if_neg h2]
  · by_cases h0 : x = 0
    · rw [if_pos h0, if_pos h0]
    · by_cases h1 : x = 1
      · rw [if_neg h0, if_pos h1, if_neg h0, if_pos h1]
      · by_cases h2 : x = 2
        · rw [if_neg h0, if_neg h1, if_pos h2, if_neg h0, if_neg h1, if_pos h2]
        · rw [if_neg h0, if_neg h1, if_neg h2, if_neg h0, if_neg h1, if_neg h2]

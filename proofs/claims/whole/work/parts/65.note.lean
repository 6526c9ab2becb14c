/-! PURE: the class notes the supers of a class -/
theorem c_nb {b : Sp} {M : Mem} (hv : BV b) (hc : CB b M) {x y : Nat} (h1 : 1 ≤ x) (h2 : x ≤ nC b) (h3 : 1 ≤ y) (h4 : y ≤ nC b) : f_Classes_areNeighbours M (nI x) (nI y) = some (if nb b x y then 1 else 0) := by
  have h16 := hv.1.1
  have hx := hv.2.2.1 x h1 h2
  have hy := hv.2.2.1 y h3 h4
  obtain ⟨x24, x25, -⟩ := hc.2.2.2.1 x h1 h2
  obtain ⟨y24, y25, -⟩ := hc.2.2.2.1 y h3 h4
  unfold f_Classes_areNeighbours
  have e4 : nI (b 5 x) / (4 : Int32) = nI (b 5 x / 4) := n_div (a := b 5 x) (d := 4) (by omega) (by omega) (by omega)
  have e5 : nI (b 5 y) / (4 : Int32) = nI (b 5 y / 4) := n_div (a := b 5 y) (d := 4) (by omega) (by omega) (by omega)
  simp (disch := omega) only [gd_n, n_cl]
  rw [x24, x25, y24, y25, e4, e5, i_eq (by omega) (by omega), i_eq (by omega) (by omega)]
  by_cases z : b 4 x = b 4 y
  · rw [if_pos z]
    by_cases w : b 5 x / 4 = b 5 y / 4
    · rw [if_pos w, if_pos ⟨z, w⟩]
    · rw [if_neg w, if_neg (fun q => w q.2)]
  · rw [if_neg z, if_neg (fun q => z q.1)]
theorem c_mu {b : Sp} {M : Mem} (hv : BV b) (hc : CB b M) {x y : Nat} (h1 : 1 ≤ x) (h2 : x ≤ nC b) (h3 : 1 ≤ y) (h4 : y ≤ nC b) : f_Classes_mayUse M (nI x) (nI y) = some (if mu b x y then 1 else 0) := by
  have h16 := hv.1.1
  have hy := hv.2.2.1 y h3 h4
  unfold f_Classes_mayUse
  rw [gd_n (by omega) (by omega), n_cl (by omega), (hc.2.2.2.1 y h3 h4).2.2.1, c_nb hv hc h1 h2 h3 h4, bd1_s, i_hb]
  have e1 : ∀ {α : Type} {u v : α}, (if (nI (b 6 y) &&& (1 : Int32)) = 0 then u else v) = if b 6 y &&& 1 = 0 then u else v := i_and (c := 1) (by omega)
  rw [e1]
  by_cases z : b 6 y &&& 1 = 0
  · rw [if_pos z]
    by_cases w : nb b x y
    · rw [if_pos w, if_pos (Or.inr w)]
    · rw [if_neg w, if_neg (fun q => q.elim (fun q => q z) w)]
  · rw [if_neg z, if_pos (Or.inl z)]
theorem c_cbs {b : Sp} {M : Mem} (hv : BV b) (hc : CB b M) {x : Nat} (h1 : 1 ≤ x) (h2 : x ≤ nC b) : f_Classes_canBeSuper M (nI x) = some (if b 6 x &&& 10 = 0 then 1 else 0) := by
  have h16 := hv.1.1
  have hx := hv.2.2.1 x h1 h2
  unfold f_Classes_canBeSuper
  have e1 : ∀ {α : Type} {u v : α}, (if (nI (b 6 x) &&& (10 : Int32)) = 0 then u else v) = if b 6 x &&& 10 = 0 then u else v := i_and (c := 10) (by omega)
  rw [gd_n (by omega) (by omega), n_cl (by omega), (hc.2.2.2.1 x h1 h2).2.2.1, e1]
  split <;> rfl
theorem ucp_ne {M : Mem} {k1 k2 s d n a : Nat} (h : a ≠ k2) : (ucp M k1 k2 s d n).1 a = M.1 a := by
  unfold ucp w1
  show (if a = k2 then _ else M.1 a) = M.1 a
  rw [if_neg h]
theorem ucp_eq {M : Mem} {k1 k2 s d n j : Nat} : (ucp M k1 k2 s d n).1 k2 j = if d ≤ j ∧ j < d + n then M.1 k1 (s + (j - d)) else M.1 k2 j := by
  unfold ucp w1
  show (if k2 = k2 then va_cpy (M.1 k1) (M.1 k2) s d n else M.1 k2) j = _
  rw [if_pos rfl]
  rfl
/-- the tables of the class x, as it can be loaded -/
def LT (b : Sp) (M : Mem) (x : Nat) : Prop := M.1 37 x = nI x ∧ M.1 56 x = nI (ch b 16 x).length ∧ (∀ i, i < (ch b 16 x).length → M.1 (39 + x) i = nI ((ch b 16 x).getD i 0)) ∧ M.1 57 x = nI (pm b 16 x) ∧ M.1 58 x = nI (fm b 16 x)
theorem c_noteSuper {M : Mem} {x a L P F : Nat} (hx : x ≤ 16) (ha : a ≤ 16) (hxa : x ≠ a) (hL : L ≤ 15) (e1 : M.1 56 a = nI L) (e2 : M.1 57 a = nI P) (e3 : M.1 58 a = nI F) : f_Links_noteSuper M (nI x) (nI a) = some (u1 (u1 (u1 (ucp M (39 + a) (39 + x) 0 1 L) 56 x (nI (L + 1))) 57 x (nI (2 ^ a ||| P))) 58 x (nI F)) := by
  have hk : cpok (0 : Int32) (1 : Int32) (M.1 56 a) 16 16 = true := by
    rw [e1]
    unfold cpok
    rw [decide_eq_true_eq]
    refine ⟨by decide, by decide, ?_, ?_, ?_⟩
    · rw [l0, n_lt (by omega) (by omega)]; omega
    · rw [n_cl (by omega), l0, n_cl (by omega)]; omega
    · rw [n_cl (by omega), l1, n_cl (by omega)]; omega
  unfold f_Links_noteSuper
  simp (disch := omega) only [gd_n, n_cl]
  rw [hk, gd_t, e1, show ((0 : Int32)).toNatClampNeg = 0 from rfl, show ((1 : Int32)).toNatClampNeg = 1 from rfl, n_cl (by omega)]
  simp (disch := omega) only [sm_s, u1_ne, ucp_ne, u1_eq, if_neg, e1, e2, e3, n_shl, n_or]
  rw [l1, n_add]
theorem wt_b {b : Sp} {x n : Nat} (hn : n < 12) : ((b 8 x).testBit n = true → wt b x (n + 1) = n) ∧ (¬ (b 8 x).testBit n = true → wt b x (n + 1) = 12) := by
  unfold wt
  rw [if_neg (by omega), show n + 1 - 1 = n by omega]
  exact ⟨fun h => by rw [if_pos h], fun h => by rw [if_neg h]⟩
theorem c_L76 {b : Sp} {M : Mem} (hv : BV b) (hc : CB b M) {τ : Type} (ke : Mem → Option τ) {x : Nat} (h1 : 1 ≤ x) (h2 : x ≤ nC b) (hS : ∀ s, s < 13 → wt b x s ≠ 12 → sp b x s ≠ x ∧ M.1 58 (sp b x s) = nI (fm b 16 (sp b x s))) : ∀ r f n a, r < f → n + r = 12 → f_Links_noteSupers_L76 (nI x) ke f (nI n) (u1 M 58 x (nI a)) = ke (u1 M 58 x (nI (um (fun s => if wt b x s = 12 then 0 else 2 ^ sp b x s ||| fm b 16 (sp b x s)) r (n + 1) a))) := by
  have h16 := hv.1.1
  have hx := hv.2.2.1 x h1 h2
  intro r
  induction r with
  | zero =>
    intro f n a hf hn
    obtain ⟨f, rfl⟩ : ∃ g, f = g + 1 := ⟨f - 1, by omega⟩
    rw [f_Links_noteSupers_L76, l12, i_le (by omega) (by omega), if_pos (by omega)]
    rfl
  | succ r ih =>
    intro f n a hf hn
    obtain ⟨f, rfl⟩ : ∃ g, f = g + 1 := ⟨f - 1, by omega⟩
    have hc' : CB b (u1 M 58 x (nI a)) := CB_k hc (Kc_u (Kc_r M) (by omega))
    obtain ⟨x24, -, -, -, x28⟩ := hc'.2.2.2.1 x h1 h2
    rw [f_Links_noteSupers_L76, l12, i_le (by omega) (by omega), if_neg (show ¬ 12 ≤ n by omega)]
    simp (disch := omega) only [gd_n, n_cl]
    rw [x28, x24, f_hasBitN (by omega) (by omega), bd1_s, i_hb, l1, n_add]
    rw [um]
    by_cases t : (b 8 x).testBit n = true
    · have w := (wt_b (x := x) (show n < 12 by omega)).1 t
      have e : sp b x (n + 1) = fnd b (b 4 x) n := by unfold sp; rw [w]
      have hsp := sp_le hv x (n + 1)
      obtain ⟨g1, g2⟩ := hS (n + 1) (by omega) (by omega)
      rw [if_pos t, if_neg (show ¬ wt b x (n + 1) = 12 by omega), c_found hv hc' (by omega) (by omega), bd1_s, ← e]
      simp (disch := omega) only [gd_n, n_cl]
      rw [u1_eq, if_pos rfl, u1_eq, if_neg g1, g2, ← l1, n_shl _ (by omega), n_or, n_or, sm_s, u1_u1, ih f (n + 1) _ (by omega) (by omega)]
    · have w := (wt_b (x := x) (show n < 12 by omega)).2 t
      rw [if_neg t, if_pos w, ih f (n + 1) _ (by omega) (by omega), Nat.or_zero]

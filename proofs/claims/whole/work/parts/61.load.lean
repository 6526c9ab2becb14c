/-! PURE: loading: what it comes to -/
/-- the name that step s of class x asks for; 12: none -/
def wt (b : Sp) (x s : Nat) : Nat := if s = 0 then b 7 x else if (b 8 x).testBit (s - 1) = true then s - 1 else 12
abbrev nb (b : Sp) (x y : Nat) : Prop := b 4 x = b 4 y ∧ b 5 x / 4 = b 5 y / 4
abbrev mu (b : Sp) (u c : Nat) : Prop := b 6 c &&& 1 ≠ 0 ∨ nb b u c
def ft (b : Sp) (x s d : Nat) : Int32 := if (s = 0 ∧ b 6 d &&& 10 ≠ 0) ∨ (s ≠ 0 ∧ b 6 d &&& 8 = 0) then -5 else if mu b x d then 0 else -6
def sp (b : Sp) (x s : Nat) : Nat := fnd b (b 4 x) (wt b x s)
/-- the first of r from s on that isn't 0 -/
def fz (g : Nat → Int32) : Nat → Nat → Int32
  | 0, _ => 0
  | r + 1, s => if g s = 0 then fz g r (s + 1) else g s
def sc (b : Sp) (h : Nat → Int32) (p : List Nat) (x s : Nat) : Int32 := if wt b x s = 12 then 0 else if sp b x s = 0 then -3 else if sp b x s ∈ p then -4 else if h (sp b x s) = 0 then ft b x s (sp b x s) else h (sp b x s)
/-- the code of x (not in p) when the classes of p are open; 0: it can be loaded -/
def lc (b : Sp) : Nat → List Nat → Nat → Int32
  | 0, _, _ => -4
  | k + 1, p, x => fz (sc b (lc b k (x :: p)) (x :: p) x) 13 0
/-- x and all above it can be loaded, k deep -/
def gk (b : Sp) : Nat → Nat → Prop
  | 0, _ => False
  | k + 1, x => ∀ s, s < 13 → wt b x s ≠ 12 → sp b x s ≠ 0 ∧ ft b x s (sp b x s) = 0 ∧ gk b k (sp b x s)
theorem gk_s {b : Sp} : ∀ k x, gk b k x → gk b (k + 1) x := by
  intro k
  induction k with
  | zero => intro x h; exact h.elim
  | succ k ih =>
    intro x h s hs hw
    obtain ⟨h1, h2, h3⟩ := h s hs hw
    exact ⟨h1, h2, ih _ h3⟩
theorem gk_le {b : Sp} {k k' x : Nat} (h : gk b k x) (hk : k ≤ k') : gk b k' x := by
  induction hk with
  | refl => exact h
  | step _ ih => exact gk_s _ _ ih
theorem fz_0 {g : Nat → Int32} : ∀ r s, fz g r s = 0 ↔ ∀ i, s ≤ i → i < s + r → g i = 0 := by
  intro r
  induction r with
  | zero => intro s; exact ⟨fun _ i h1 h2 => by omega, fun _ => rfl⟩
  | succ r ih =>
    intro s
    unfold fz
    by_cases h : g s = 0
    · rw [if_pos h, ih]
      refine ⟨fun q i h1 h2 => ?_, fun q i h1 h2 => q i (by omega) (by omega)⟩
      by_cases e : i = s
      · rw [e]; exact h
      · exact q i (by omega) (by omega)
    · rw [if_neg h]
      exact ⟨fun q => absurd q h, fun q => q s (Nat.le_refl s) (by omega)⟩
def Cd (z : Int32) : Prop := z = 0 ∨ z = -3 ∨ z = -4 ∨ z = -5 ∨ z = -6
theorem fz_Cd {g : Nat → Int32} (h : ∀ s, Cd (g s)) : ∀ r s, Cd (fz g r s) := by
  intro r
  induction r with
  | zero => intro s; exact Or.inl rfl
  | succ r ih =>
    intro s
    unfold fz
    split
    · exact ih _
    · exact h s
theorem ft_Cd (b : Sp) (x s d : Nat) : Cd (ft b x s d) := by
  unfold ft Cd
  split
  · exact Or.inr (Or.inr (Or.inr (Or.inl rfl)))
  · split
    · exact Or.inl rfl
    · exact Or.inr (Or.inr (Or.inr (Or.inr rfl)))
theorem sc_Cd {b : Sp} {h : Nat → Int32} (hh : ∀ x, Cd (h x)) (p : List Nat) (x s : Nat) : Cd (sc b h p x s) := by
  unfold sc
  split
  · exact Or.inl rfl
  · split
    · exact Or.inr (Or.inl rfl)
    · split
      · exact Or.inr (Or.inr (Or.inl rfl))
      · split
        · exact ft_Cd ..
        · exact hh _
theorem lc_Cd (b : Sp) : ∀ k p x, Cd (lc b k p x) := by
  intro k
  induction k with
  | zero => intro p x; exact Or.inr (Or.inr (Or.inl rfl))
  | succ k ih => intro p x; exact fz_Cd (fun s => sc_Cd (fun y => ih _ y) _ _ _) _ _
theorem lc_gk (b : Sp) : ∀ k p x, lc b k p x = 0 → gk b k x := by
  intro k
  induction k with
  | zero => intro p x h; exact absurd (show (-4 : Int32) = 0 from h) (by decide)
  | succ k ih =>
    intro p x h s hs hw
    have q := (fz_0 13 0).mp h s (by omega) (by omega)
    unfold sc at q
    rw [if_neg hw] at q
    by_cases e : sp b x s = 0
    · rw [if_pos e] at q; exact absurd q (by decide)
    · rw [if_neg e] at q
      by_cases m : sp b x s ∈ x :: p
      · rw [if_pos m] at q; exact absurd q (by decide)
      · rw [if_neg m] at q
        by_cases z : lc b k (x :: p) (sp b x s) = 0
        · rw [if_pos z] at q
          exact ⟨e, q, ih _ _ z⟩
        · rw [if_neg z] at q
          exact absurd q z
/-- no more different numbers below n than n -/
theorem pig : ∀ n (l : List Nat), l.Nodup → (∀ x ∈ l, x < n) → l.length ≤ n := by
  intro n
  induction n with
  | zero =>
    intro l _ h
    cases l with
    | nil => exact Nat.le_refl 0
    | cons a t => exact absurd (h a (List.mem_cons_self ..)) (by omega)
  | succ n ih =>
    intro l hl h
    have h1 := ih (l.erase n) (hl.erase n) (fun x hx => by
      have hx' := (hl.mem_erase_iff).mp hx
      have := h x hx'.2
      have := hx'.1
      omega)
    rw [List.length_erase] at h1
    split at h1 <;> omega
def PV (b : Sp) (p : List Nat) : Prop := p.Nodup ∧ ∀ y ∈ p, 1 ≤ y ∧ y ≤ nC b
theorem PV_le {b : Sp} (hv : BV b) {p : List Nat} (h : PV b p) : p.length ≤ 16 := by
  have h16 := hv.1.1
  have := pig 17 (0 :: p) (List.nodup_cons.mpr ⟨fun q => by have := (h.2 0 q).1; omega, h.1⟩) (fun x hx => by
    rcases List.mem_cons.mp hx with e | e
    · omega
    · have := (h.2 x e).2; omega)
  rw [List.length_cons] at this
  omega
theorem PV_cons {b : Sp} {p : List Nat} {x : Nat} (h : PV b p) (hx : x ∉ p) (h1 : 1 ≤ x) (h2 : x ≤ nC b) : PV b (x :: p) := ⟨List.nodup_cons.mpr ⟨hx, h.1⟩, fun y hy => by
  rcases List.mem_cons.mp hy with e | e
  · rw [e]; exact ⟨h1, h2⟩
  · exact h.2 y e⟩
theorem sp_le {b : Sp} (hv : BV b) (x s : Nat) : sp b x s ≤ nC b := fnd_le hv _ _
/-- what lies in a closed set that the open classes are outside of can be loaded -/
theorem lc_S {b : Sp} (hv : BV b) {S : Nat → Prop} (hS : ∀ x, S x → ∀ s, s < 13 → wt b x s ≠ 12 → S (sp b x s)) : ∀ k f p x, gk b k x → S x → 1 ≤ x → x ≤ nC b → PV b p → f + p.length = 16 → (∀ y ∈ p, ¬ (S y ∧ gk b k y)) → lc b f p x = 0 := by
  intro k
  induction k with
  | zero => intro f p x h; exact h.elim
  | succ k ih =>
    intro f p x hg hs h1 h2 hp hf hy
    by_cases hk : gk b k x
    · exact ih f p x hk hs h1 h2 hp hf (fun y q w => hy y q ⟨w.1, gk_s _ _ w.2⟩)
    · have hx : x ∉ p := fun q => hy x q ⟨hs, hg⟩
      have hp' := PV_cons hp hx h1 h2
      have hl := PV_le hv hp'
      rw [List.length_cons] at hl
      obtain ⟨f, rfl⟩ : ∃ g, f = g + 1 := ⟨f - 1, by omega⟩
      have hy' : ∀ y ∈ x :: p, ¬ (S y ∧ gk b k y) := fun y q w => by
        rcases List.mem_cons.mp q with e | e
        · rw [e] at w; exact hk w.2
        · exact hy y e ⟨w.1, gk_s _ _ w.2⟩
      unfold lc
      rw [fz_0]
      intro s _ hs13
      unfold sc
      by_cases hw : wt b x s = 12
      · rw [if_pos hw]
      · obtain ⟨g1, g2, g3⟩ := hg s (by omega) hw
        have sS := hS x hs s (by omega) hw
        have r := ih f (x :: p) (sp b x s) g3 sS (by omega) (sp_le hv x s) hp' (by rw [List.length_cons]; omega) hy'
        rw [if_neg hw, if_neg g1, if_neg (fun q => hy' _ q ⟨sS, g3⟩), r, if_pos rfl]
        exact g2
def cde (b : Sp) (x : Nat) : Int32 := lc b 16 [] x
def good (b : Sp) (x : Nat) : Prop := gk b 16 x
theorem cde_0 {b : Sp} (hv : BV b) {x : Nat} (h1 : 1 ≤ x) (h2 : x ≤ nC b) : cde b x = 0 ↔ good b x := by
  refine ⟨fun h => lc_gk b 16 [] x h, fun h => ?_⟩
  refine lc_S hv (S := good b) (fun y hy s hs hw => ?_) 16 16 [] x h h h1 h2 ⟨List.nodup_nil, fun y q => by cases q⟩ rfl (fun y q => by cases q)
  exact gk_s _ _ (hy s hs hw).2.2

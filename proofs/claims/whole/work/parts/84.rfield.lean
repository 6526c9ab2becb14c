/-! PURE: the reference searches a field -/
theorem n_dec (j : Nat) : nI (j + 1) + (-1 : Int32) = nI j := by
  rw [← n_add, Int32.add_assoc, show nI 1 + (-1 : Int32) = 0 from rfl, Int32.add_zero]
theorem i_le0 {α : Type} {x y : α} {a : Nat} [Decidable (nI a ≤ 0)] (ha : a < 1000000) : (if nI a ≤ 0 then x else y) = if a = 0 then x else y := i_cg ((nI_leI (b := 0) (by omega) (by omega)).trans ⟨fun h => by omega, fun h => by omega⟩)
theorem i_ge0 {α : Type} {x y : α} {a : Nat} [Decidable (0 ≤ nI a)] (ha : a < 1000000) : (if 0 ≤ nI a then x else y) = x := if_pos ((nI_leI (a := 0) (by omega) (by omega)).mpr (Nat.zero_le _))
theorem i_lt0 {α : Type} {x y : α} {a : Nat} [Decidable (nI a < 0)] (ha : a < 1000000) : (if nI a < 0 then x else y) = y := if_neg (nI_pos (by omega))
/-- the reference's base data and tables, its agreements and its list of conflicts stay -/
def Lq (M N : Mem) : Prop := ∀ a, a < 21 ∨ a = 24 ∨ a = 25 → N.1 a = M.1 a
theorem Lq_r (M : Mem) : Lq M M := fun _ _ => rfl
theorem Lq_t {M N O : Mem} (h : Lq M N) (g : Lq N O) : Lq M O := fun a ha => by rw [g a ha, h a ha]
theorem Lq_u {M N : Mem} (h : Lq M N) {c i : Nat} {v : Int32} (hc : 21 ≤ c ∧ c ≠ 24 ∧ c ≠ 25) : Lq M (u1 N c i v) := fun a ha => by rw [u1_ne (by omega)]; exact h a ha
theorem Lq_16 {M N : Mem} (h : Lq M N) : Lo 16 M N := fun a ha => h a (by omega)
theorem RP_Lo {b : Sp} {M N : Mem} (h : RP b M) (g : Lq M N) : RP b N := by
  refine ⟨fun y y1 y2 => ?_, h.2⟩
  rw [g 16 (by omega), g 17 (by omega), g 18 (by omega), g 19 (by omega), g 20 (by omega)]
  exact h.1 y y1 y2
def Stk (M : Mem) : List Nat → Prop
  | [] => True
  | x :: o => M.1 23 o.length = nI x ∧ Stk M o
theorem Stk_c {M N : Mem} : ∀ o : List Nat, Stk M o → (∀ i, i < o.length → N.1 23 i = M.1 23 i) → Stk N o := by
  intro o
  induction o with
  | nil => intro _ _; trivial
  | cons x o ih =>
    intro h g
    rw [List.length_cons] at g
    exact ⟨by rw [g _ (by omega)]; exact h.1, ih h.2 (fun i hi => g i (by omega))⟩
theorem Stk_p {M : Mem} {o : List Nat} {x : Nat} (h : Stk M o) : Stk (u1 M 23 o.length (nI x)) (x :: o) := ⟨by rw [u1_eq, if_pos rfl], Stk_c o h (fun i hi => by rw [u1_eq, if_neg (by omega)])⟩
theorem Stk_s {M : Mem} : ∀ r t : List Nat, Stk M (r ++ t) → Stk M t := by
  intro r
  induction r with
  | nil => intro t h; exact h
  | cons x r ih => intro t h; exact ih t h.2
theorem r_push {b : Sp} (hv : BV b) {τ : Type} (x2 x3 x4 : Int32) (ke : Int32 → Mem → Option τ) {x : Nat} (h1 : 1 ≤ x) (h2 : x ≤ nC b) {st : List Nat} (hst : st.length + 12 < 300) : ∀ j fu M, j < fu → j ≤ 12 → RB b M → Stk M (il b x (12 - j) (j + 1) ++ st) → ∃ N, f_LinkAuditModel_findField_L104 x2 x3 x4 (nI x) ke fu (nI (il b x (12 - j) (j + 1) ++ st).length) (nI j + (-1 : Int32)) M = ke (nI (il b x 12 1 ++ st).length) N ∧ Stk N (il b x 12 1 ++ st) ∧ Lq M N := by
  have h16 := hv.1.1
  have hx := hv.2.2.1 x h1 h2
  intro j
  induction j with
  | zero =>
    intro fu M hf hj hr hs
    obtain ⟨fu, rfl⟩ : ∃ g, fu = g + 1 := ⟨fu - 1, by omega⟩
    rw [f_LinkAuditModel_findField_L104, if_pos (by decide)]
    exact ⟨M, rfl, hs, Lq_r M⟩
  | succ j ih =>
    intro fu M hf hj hr hs
    obtain ⟨fu, rfl⟩ : ∃ g, fu = g + 1 := ⟨fu - 1, by omega⟩
    have hl : (il b x (12 - (j + 1)) (j + 1 + 1) ++ st).length ≤ 12 - (j + 1) + st.length := by
      rw [List.length_append]
      have := il_len (b := b) (x := x) (12 - (j + 1)) (j + 1 + 1)
      omega
    have ei : il b x (12 - j) (j + 1) = if wt b x (j + 1) = 12 then il b x (12 - (j + 1)) (j + 1 + 1) else sp b x (j + 1) :: il b x (12 - (j + 1)) (j + 1 + 1) := by
      rw [show 12 - j = (12 - (j + 1)) + 1 by omega, il]
    rw [f_LinkAuditModel_findField_L104, n_dec, if_neg (nI_pos (by omega)), gd_n (by omega) (by omega), n_cl (by omega), hr.2.2.2 8 (by omega) (by omega), i_bit (by omega) (by omega), gd_n (by omega) (by omega), hr.2.2.2 4 (by omega) (by omega)]
    by_cases t : (b 8 x).testBit j = true
    · have w := (wt_b (x := x) (show j < 12 by omega)).1 t
      have es : sp b x (j + 1) = fnd b (b 4 x) j := by unfold sp; rw [w]
      rw [if_neg (show ¬ wt b x (j + 1) = 12 by omega)] at ei
      rw [if_pos t, r_found hv hr (by omega) (by omega), bd1_s, ← es, gd_n (by omega) (by omega), n_cl (by omega), sm_s]
      have s' := Stk_p (x := sp b x (j + 1)) hs
      have lo : Lq M (u1 M 23 (il b x (12 - (j + 1)) (j + 1 + 1) ++ st).length (nI (sp b x (j + 1)))) := Lq_u (Lq_r M) (by omega)
      obtain ⟨N, n1, n2, n3⟩ := ih fu _ (by omega) (by omega) (RB_Lo hr (Lq_16 lo)) (by rw [ei]; exact s')
      rw [ei] at n1
      refine ⟨N, ?_, n2, Lq_t lo n3⟩
      rw [← n1, List.cons_append, List.length_cons, show nI (il b x (12 - (j + 1)) (j + 1 + 1) ++ st).length + (1 : Int32) = nI ((il b x (12 - (j + 1)) (j + 1 + 1) ++ st).length + 1) from n_add _ 1]
    · have w := (wt_b (x := x) (show j < 12 by omega)).2 t
      rw [if_pos w] at ei
      rw [if_neg t]
      obtain ⟨N, n1, n2, n3⟩ := ih fu M (by omega) (by omega) hr (by rw [ei]; exact hs)
      rw [ei] at n1
      exact ⟨N, n1, n2, n3⟩
theorem gd_b' {α : Type} {b : Bool} {x : Option α} {r : α} (h : gd b x = some r) : b = true ∧ x = some r := by
  cases b with
  | true => exact ⟨rfl, h⟩
  | false => exact absurd (show (none : Option α) = some r from h) (fun q => by cases q)
/-- the pushing loop ends, then goes on with whatever follows -/
theorem L104_k {τ : Type} {x2 x3 x4 x6 : Int32} {f : Nat} {x5 x8 y : Int32} {M N : Mem} (h : f_LinkAuditModel_findField_L104 x2 x3 x4 x6 (fun y5 M5 => some (y5, M5)) f x5 x8 M = some (y, N)) (ke : Int32 → Mem → Option τ) : f_LinkAuditModel_findField_L104 x2 x3 x4 x6 ke f x5 x8 M = ke y N := by
  induction f generalizing x5 x8 M with
  | zero => rw [f_LinkAuditModel_findField_L104] at h; cases h
  | succ f ih =>
    rw [f_LinkAuditModel_findField_L104] at h ⊢
    by_cases c1 : x8 < 0
    · rw [if_pos c1] at h ⊢
      cases h; rfl
    · rw [if_neg c1] at h ⊢
      obtain ⟨g1, h⟩ := gd_b' h
      rw [g1, gd_t]
      by_cases c2 : ((M.1 8 x6.toNatClampNeg) >>> (x8 &&& 31)) &&& (1 : Int32) = 0
      · rw [if_pos c2] at h ⊢
        exact ih h
      · rw [if_neg c2] at h ⊢
        obtain ⟨g2, h⟩ := gd_b' h
        rw [gd_t]
        cases hf : f_LinkAuditModel_found M (M.1 4 x6.toNatClampNeg) x8 with
        | none => rw [hf] at h; cases h
        | some r =>
          rw [hf, bd1_s] at h
          rw [bd1_s]
          obtain ⟨g3, h⟩ := gd_b' h
          rw [g3, gd_t]
          rw [sm_s] at h ⊢
          exact ih h
/-- one class taken from the stack, and what it brings -/
def SD {τ : Type} (b : Sp) (n a : Nat) (k70 : Int32 → Mem → Option τ) (k159 : Mem → Option τ) (q : Nat × Nat) (C S : Nat) (st st' : List Nat) (M : Mem) : Prop := ∃ c N, c ≤ C ∧ Lq M N ∧ Stk N st' ∧ ∀ f, f_LinkAuditModel_findField_L13 (nI n) (nI a) k70 k159 (f + c) (nI S) (nI st.length) M = if q.1 = 0 then f_LinkAuditModel_findField_L13 (nI n) (nI a) k70 k159 f (nI q.2) (nI st'.length) N else k70 (nI q.1) N
theorem r_DL {b : Sp} (hv : BV b) {n a : Nat} {τ : Type} (k70 : Int32 → Mem → Option τ) (k159 : Mem → Option τ) {k : Nat} (hD : ∀ x S st M, gk b k x → good b x → 1 ≤ x → x ≤ nC b → S < 2 ^ 17 → RB b M → RP b M → Stk M (x :: st) → st.length + 13 * k ≤ 220 → SD b n a k70 k159 (D b n a k x S) (14 ^ k) S (x :: st) st M) : ∀ ys S st M, (∀ y ∈ ys, gk b k y ∧ good b y ∧ 1 ≤ y ∧ y ≤ nC b) → S < 2 ^ 17 → RB b M → RP b M → Stk M (ys ++ st) → ys.length + st.length + 13 * k ≤ 221 → SD b n a k70 k159 (DL (D b n a k) ys S) (ys.length * 14 ^ k) S (ys ++ st) st M := by
  intro ys
  induction ys with
  | nil =>
    intro S st M hy hS hr hp hs hl
    exact ⟨0, M, by omega, Lq_r M, hs, fun f => rfl⟩
  | cons y ys ih =>
    intro S st M hy hS hr hp hs hl
    rw [List.length_cons] at hl
    obtain ⟨y1, y2, y3, y4⟩ := hy y (List.mem_cons_self ..)
    obtain ⟨c, N, n1, n2, n3, n4⟩ := hD y S (ys ++ st) M y1 y2 y3 y4 hS hr hp hs (by rw [List.length_append]; omega)
    have da := D_a hv n a k y S y1 y4 hS
    by_cases e : (D b n a k y S).1 = 0
    · obtain ⟨c', N', m1, m2, m3, m4⟩ := ih (D b n a k y S).2 st N (fun z hz => hy z (List.mem_cons_of_mem _ hz)) da.1 (RB_Lo hr (Lq_16 n2)) (RP_Lo hp n2) n3 (by omega)
      refine ⟨c' + c, N', by rw [List.length_cons, Nat.add_mul]; omega, Lq_t n2 m2, m3, fun f => ?_⟩
      rw [← Nat.add_assoc]
      refine (n4 (f + c')).trans ?_
      rw [if_pos e, m4 f]
      show _ = if (if (D b n a k y S).1 = 0 then DL (D b n a k) ys (D b n a k y S).2 else D b n a k y S).1 = 0 then f_LinkAuditModel_findField_L13 (nI n) (nI a) k70 k159 f (nI (if (D b n a k y S).1 = 0 then DL (D b n a k) ys (D b n a k y S).2 else D b n a k y S).2) (nI st.length) N' else k70 (nI (if (D b n a k y S).1 = 0 then DL (D b n a k) ys (D b n a k y S).2 else D b n a k y S).1) N'
      rw [if_pos e]
    · refine ⟨c, N, by rw [List.length_cons, Nat.add_mul]; omega, n2, Stk_s ys st n3, fun f => ?_⟩
      refine (n4 f).trans ?_
      rw [if_neg e]
      show _ = if (if (D b n a k y S).1 = 0 then DL (D b n a k) ys (D b n a k y S).2 else D b n a k y S).1 = 0 then f_LinkAuditModel_findField_L13 (nI n) (nI a) k70 k159 f (nI (if (D b n a k y S).1 = 0 then DL (D b n a k) ys (D b n a k y S).2 else D b n a k y S).2) (nI st.length) N else k70 (nI (if (D b n a k y S).1 = 0 then DL (D b n a k) ys (D b n a k y S).2 else D b n a k y S).1) N
      rw [if_neg e, if_neg e]
theorem r_dfs {b : Sp} (hv : BV b) {n a : Nat} (hn : n < 4) (ha : a < 13) {τ : Type} (k70 : Int32 → Mem → Option τ) (k159 : Mem → Option τ) : ∀ k x S st M, gk b k x → good b x → 1 ≤ x → x ≤ nC b → S < 2 ^ 17 → RB b M → RP b M → Stk M (x :: st) → st.length + 13 * k ≤ 220 → SD b n a k70 k159 (D b n a k x S) (14 ^ k) S (x :: st) st M := by
  have h16 := hv.1.1
  intro k
  induction k with
  | zero => intro x S st M h; exact h.elim
  | succ k ih =>
    intro x S st M h g h1 h2 hS hr hp hs hl
    have hlk := lk_le hv x 0 n a 12
    have hS' : S ||| 2 ^ x < 2 ^ 17 := Nat.or_lt_two_pow hS (p2_lt (by omega))
    obtain ⟨fu, hfu⟩ := FU_s (r := 12) (by omega)
    have h14 : 14 ^ (k + 1) = 14 ^ k * 14 := Nat.pow_succ ..
    have p14 : 1 ≤ 14 ^ k := Nat.one_le_pow _ _ (by omega)
    obtain ⟨ea, e2⟩ := ch_ab hv h1 h2 g
    have step : ∀ f, f_LinkAuditModel_findField_L13 (nI n) (nI a) k70 k159 (f + 1) (nI S) (nI (x :: st).length) M = if S.testBit x = true then f_LinkAuditModel_findField_L13 (nI n) (nI a) k70 k159 f (nI S) (nI st.length) M else if lk b x 0 n a 12 = 0 then (if ab b x = 0 then f_LinkAuditModel_findField_b100 M (nI n) (nI a) (nI (S ||| 2 ^ x)) (nI st.length) (nI x) (f_LinkAuditModel_findField_L13 (nI n) (nI a) k70 k159 f) k70 k159 else f_LinkAuditModel_findField_b100 (u1 M 23 st.length (nI (ab b x))) (nI n) (nI a) (nI (S ||| 2 ^ x)) (nI (st.length + 1)) (nI x) (f_LinkAuditModel_findField_L13 (nI n) (nI a) k70 k159 f) k70 k159) else k70 (nI (lk b x 0 n a 12)) M := by
      intro f
      rw [List.length_cons, f_LinkAuditModel_findField_L13, i_le0 (by omega), if_neg (show ¬ st.length + 1 = 0 by omega), n_dec, gd_n (show st.length < 300 by omega) (by omega), n_cl (show st.length < 1000000 by omega), hs.1, i_bit (show S < 2 ^ 31 by omega) (show x < 32 by omega), show f_LinkAuditModel_ownMember M (nI x) (0 : Int32) (nI n) (nI a) (12 : Int32) = _ from r_om hv hr (c := x) (k := 0) (n := n) (f := a) (s := 12) (by omega) (by omega) (by omega) (by omega) (by omega), bd1_s, i_le0 (by omega), gd_n (show x < 17 by omega) (by omega), gd_n (show x < 17 by omega) (by omega), n_cl (show x < 1000000 by omega), (hp.1 x h1 h2).2.1, ea, i_le0 (by have := ab_le hv x; omega), gd_n (show st.length < 300 by omega) (by omega), n_shl x (by omega), n_or, sm_s, show nI st.length + (1 : Int32) = nI (st.length + 1) from n_add _ 1]
    unfold D
    by_cases t : S.testBit x = true
    · refine ⟨1, M, by omega, Lq_r M, hs.2, fun f => ?_⟩
      rw [step, if_pos t, if_pos t]
      rfl
    · rw [if_neg t]
      by_cases z : lk b x 0 n a 12 = 0
      · rw [if_pos z]
        -- the stack with the superclass, then with the interfaces
        have push : ∃ P, Lq M P ∧ Stk P (sl b x ++ st) ∧ ∀ f, f_LinkAuditModel_findField_L13 (nI n) (nI a) k70 k159 (f + 1) (nI S) (nI (x :: st).length) M = f_LinkAuditModel_findField_L13 (nI n) (nI a) k70 k159 f (nI (S ||| 2 ^ x)) (nI (sl b x ++ st).length) P := by
          by_cases w : ab b x = 0
          · have es : sl b x ++ st = il b x 12 1 ++ st := by unfold sl; rw [if_pos w, List.append_nil]
            rw [es]
            -- the memory doesn't hang on f
            obtain ⟨N, n1, n2, n3⟩ := r_push hv (nI n) (nI a) (nI (S ||| 2 ^ x)) (fun y5 M5 => some (y5, M5)) h1 h2 (st := st) (by omega) 12 FU M (by omega) (by omega) hr hs.2
            refine ⟨N, n3, n2, fun f => ?_⟩
            rw [step, if_neg t, if_pos z, if_pos w]
            unfold f_LinkAuditModel_findField_b100
            exact L104_k n1 _
          · have es : sl b x ++ st = il b x 12 1 ++ (ab b x :: st) := by unfold sl; rw [if_neg w, List.append_assoc]; rfl
            rw [es]
            have lo : Lq M (u1 M 23 st.length (nI (ab b x))) := Lq_u (Lq_r M) (by omega)
            obtain ⟨N, n1, n2, n3⟩ := r_push hv (nI n) (nI a) (nI (S ||| 2 ^ x)) (fun y5 M5 => some (y5, M5)) h1 h2 (st := ab b x :: st) (by rw [List.length_cons]; omega) 12 FU _ (by omega) (by omega) (RB_Lo hr (Lq_16 lo)) (Stk_p hs.2)
            refine ⟨N, Lq_t lo n3, n2, fun f => ?_⟩
            rw [step, if_neg t, if_pos z, if_neg w]
            unfold f_LinkAuditModel_findField_b100
            exact L104_k n1 _
        obtain ⟨P, p1, p2, p3⟩ := push
        have len := sl_len (b := b) (x := x)
        obtain ⟨c, N, n1, n2, n3, n4⟩ := r_DL hv k70 k159 ih (sl b x) (S ||| 2 ^ x) st P (fun y hy => ⟨(sl_g hv h hy).1, gk_s _ _ (sl_g hv g hy).1, (sl_g hv h hy).2⟩) hS' (RB_Lo hr (Lq_16 p1)) (RP_Lo hp p1) p2 (by omega)
        refine ⟨c + 1, N, ?_, Lq_t p1 n2, n3, fun f => ?_⟩
        · have : (sl b x).length * 14 ^ k ≤ 13 * 14 ^ k := Nat.mul_le_mul_right _ len
          omega
        · rw [← Nat.add_assoc, p3, n4]
      · refine ⟨1, M, by omega, Lq_r M, hs.2, fun f => ?_⟩
        rw [step, if_neg t, if_neg z, if_neg z, if_neg z]

/-! PURE: finding a method, both sides -/
def Bo (b : Sp) (M R : Mem) : Prop := BV b ∧ CB b M ∧ LK b M ∧ RB b R ∧ RP b R
/-- the first of the list with g -/
def fl (g : Nat → Nat) : List Nat → Nat
  | [] => 0
  | x :: t => if g x = 0 then fl g t else g x
theorem fl_in {g : Nat → Nat} : ∀ l : List Nat, fl g l ≠ 0 → ∃ x ∈ l, fl g l = g x := by
  intro l
  induction l with
  | nil => intro h; exact absurd rfl h
  | cons x t ih =>
    intro h
    unfold fl at h ⊢
    by_cases e : g x = 0
    · rw [if_pos e] at h ⊢
      obtain ⟨y, y1, y2⟩ := ih h
      exact ⟨y, List.mem_cons_of_mem _ y1, y2⟩
    · rw [if_neg e]
      exact ⟨x, List.mem_cons_self .., rfl⟩
theorem c_fm_L {b : Sp} {M : Mem} (hv : BV b) (hc : CB b M) {x n a s : Nat} (h1 : 1 ≤ x) (h2 : x ≤ nC b) (g : good b x) (ht : LT b M x) (hn : n < 4) (ha : a < 13) (hs : s < 13) {l : Int64} (hl : Bs l (fun m => 1 ≤ m ∧ m ≤ nM b ∧ msig b m = sig 1 n a s)) (ke : Option Int32) : ∀ (suf pre : List Nat) (f : Nat), suf.length < f → ch b 16 x = pre ++ suf → f_Resolver_foundMethod_L3 M (nI x) l (fun y5 => bd1 (f_LinkAudit_lowestBit y5) (fun r1 => some (r1))) ke f (nI pre.length) = if fl (fun y => lk b y 1 n a s) suf = 0 then ke else some (nI (fl (fun y => lk b y 1 n a s) suf)) := by
  have h16 := hv.1.1
  have hlen := ch_le b 16 x
  obtain ⟨t1, t2, t3, t4, t5⟩ := ht
  intro suf
  induction suf with
  | nil =>
    intro pre f hf he
    obtain ⟨f, rfl⟩ : ∃ g, f = g + 1 := ⟨f - 1, by omega⟩
    rw [List.append_nil] at he
    rw [he] at hlen
    rw [f_Resolver_foundMethod_L3, gd_n (by omega) (by omega), n_cl (by omega), t2, he, i_le (by omega) (by omega), if_pos (Nat.le_refl _)]
    rfl
  | cons y suf ih =>
    intro pre f hf he
    rw [List.length_cons] at hf
    obtain ⟨f, rfl⟩ : ∃ g, f = g + 1 := ⟨f - 1, by omega⟩
    have hl' : (ch b 16 x).length = pre.length + (suf.length + 1) := by rw [he, List.length_append, List.length_cons]
    have ey : (ch b 16 x).getD pre.length 0 = y := by rw [he]; simp
    have ym : y ∈ ch b 16 x := by rw [he]; exact List.mem_append_right _ (List.mem_cons_self ..)
    obtain ⟨gy, y1, y2⟩ := ch_in hv g h1 h2 ym
    have he' : ch b 16 x = (pre ++ [y]) ++ suf := by rw [he, List.append_assoc]; rfl
    have hlp : (pre ++ [y]).length = pre.length + 1 := by simp
    have on := On_lk hv hc (y := y) (k := 1) (by omega) hn ha hs hl
    rw [f_Resolver_foundMethod_L3, gd_n (by omega) (by omega), n_cl (by omega), t2, i_le (by omega) (by omega), if_neg (by omega), gd_n (by omega) (by omega), gd_n (by omega) (by omega), n_cl (by omega), t3 _ (by omega), ey, gd_n (by omega) (by omega), n_cl (by omega), On_if on, show nI pre.length + (1 : Int32) = nI (pre.length + 1) from n_add _ 1, ← hlp, ih (pre ++ [y]) f (by omega) he']
    show _ = if (if lk b y 1 n a s = 0 then fl (fun y => lk b y 1 n a s) suf else lk b y 1 n a s) = 0 then ke else some (nI (if lk b y 1 n a s = 0 then fl (fun y => lk b y 1 n a s) suf else lk b y 1 n a s))
    by_cases e : lk b y 1 n a s = 0
    · rw [if_pos e, if_pos e]
    · rw [if_neg e, if_neg e, if_neg e, On_low on e, bd1_s]
theorem ch_ab {b : Sp} (hv : BV b) {x : Nat} (h1 : 1 ≤ x) (h2 : x ≤ nC b) (g : good b x) : aA b x = ab b x ∧ ((ab b x = 0 ∧ ch b 16 x = [x]) ∨ (ab b x ≠ 0 ∧ ch b 16 x = x :: ch b 16 (ab b x) ∧ good b (ab b x) ∧ 1 ≤ ab b x ∧ ab b x ≤ nC b)) := by
  refine ⟨?_, ?_⟩
  · unfold aA
    rw [if_pos ((cde_0 hv h1 h2).mpr g)]
  · have e := (tab_16 g).1
    by_cases a : ab b x = 0
    · rw [if_pos a] at e
      exact Or.inl ⟨a, e⟩
    · rw [if_neg a] at e
      exact Or.inr ⟨a, e, ab_16 g a, by omega, ab_le hv x⟩
theorem r_fm_L {b : Sp} {R : Mem} (hv : BV b) (hr : RB b R) (hp : RP b R) {n a s : Nat} (hn : n < 1000) (ha : a < 1000) (hs : s < 1000) {τ : Type} (x1 : Int32) (k1 : Int32 → Option τ) (k2 : Option τ) : ∀ (l : List Nat) (x f : Nat), ch b 16 x = l → good b x → 1 ≤ x → x ≤ nC b → l.length < f → f_LinkAuditModel_findMethod_L3 R x1 (nI n) (nI a) (nI s) k1 k2 f (nI x) = if fl (fun y => lk b y 1 n a s) l = 0 then k2 else k1 (nI (fl (fun y => lk b y 1 n a s) l)) := by
  have h16 := hv.1.1
  intro l
  induction l with
  | nil =>
    intro x f he g
    rw [(tab_16 g).1] at he
    cases he
  | cons y l ih =>
    intro x f he g h1 h2 hf
    rw [List.length_cons] at hf
    obtain ⟨f, rfl⟩ : ∃ g, f = g + 1 := ⟨f - 1, by omega⟩
    have hlk := lk_le hv x 1 n a s
    obtain ⟨e1, e2⟩ := ch_ab hv h1 h2 g
    rw [f_LinkAuditModel_findMethod_L3, show (0 : Int32) = nI 0 from rfl, i_le (by omega) (by omega), if_neg (by omega), show (1 : Int32) = nI 1 from rfl, r_om hv hr (by omega) (by omega) hn ha hs, bd1_s, i_le (by omega) (by omega), gd_n (by omega) (by omega), n_cl (by omega), (hp.1 x h1 h2).2.1, e1]
    have ex : y = x := by
      rw [(tab_16 g).1] at he
      exact (List.cons.inj he).1.symm
    subst ex
    show _ = if (if lk b y 1 n a s = 0 then fl (fun y => lk b y 1 n a s) l else lk b y 1 n a s) = 0 then k2 else k1 (nI (if lk b y 1 n a s = 0 then fl (fun y => lk b y 1 n a s) l else lk b y 1 n a s))
    by_cases z : lk b y 1 n a s = 0
    · rw [if_pos (by omega), if_pos z]
      rcases e2 with ⟨a0, a1⟩ | ⟨a0, a1, a2, a3, a4⟩
      · have : l = [] := by rw [a1] at he; exact (List.cons.inj he).2.symm
        obtain ⟨f, rfl⟩ : ∃ g, f = g + 1 := ⟨f - 1, by omega⟩
        rw [this, a0, f_LinkAuditModel_findMethod_L3, if_pos (by decide)]
        rfl
      · rw [ih (ab b y) f (by rw [a1] at he; exact (List.cons.inj he).2) a2 a3 a4 (by omega)]
    · rw [if_neg (by omega), if_neg z, if_neg z]
theorem r_fm_L63 {b : Sp} {R : Mem} (hv : BV b) (hr : RB b R) (hp : RP b R) {c n a s : Nat} (h1 : 1 ≤ c) (h2 : c ≤ nC b) (hn : n < 1000) (ha : a < 1000) (hs : s < 1000) {τ : Type} (k1 : Int32 → Option τ) (k2 : Option τ) : ∀ r f i, r < f → i + r = nM b + 1 → 1 ≤ i → f_LinkAuditModel_findMethod_L63 R (nI c) (nI n) (nI a) (nI s) k1 k2 f (nI i) = if fi (fun m => decide (ct b c n a s m)) r i = 0 then k2 else k1 (nI (fi (fun m => decide (ct b c n a s m)) r i)) := by
  have h40 := hv.1.2.1
  intro r
  induction r with
  | zero =>
    intro f i hf hi i1
    obtain ⟨f, rfl⟩ : ∃ g, f = g + 1 := ⟨f - 1, by omega⟩
    rw [f_LinkAuditModel_findMethod_L63, hr.2.1, i_lt (by omega) (by omega), if_pos (by omega)]
    rfl
  | succ r ih =>
    intro f i hf hi i1
    obtain ⟨f, rfl⟩ : ∃ g, f = g + 1 := ⟨f - 1, by omega⟩
    rw [f_LinkAuditModel_findMethod_L63, hr.2.1, i_lt (by omega) (by omega), if_neg (by omega), r_ct hv hr hp h1 h2 ⟨i1, by omega⟩ hn ha hs, bd1_s, i_hb, show nI i + (1 : Int32) = nI (i + 1) from n_add i 1, ih f (i + 1) (by omega) (by omega) (by omega), fi_s]
    by_cases e : ct b c n a s i
    · rw [if_pos e, if_pos (decide_eq_true e), if_neg (by omega)]
    · rw [if_neg e, if_neg (fun q => e (of_decide_eq_true q))]
theorem T2_fm {b : Sp} (hv : BV b) {x : Nat} (h1 : 1 ≤ x) (h2 : x ≤ nC b) (g : good b x) : T2 b x = fm b 16 x := by
  unfold T2
  rw [if_pos ((cde_0 hv h1 h2).mpr g)]
theorem T1_pm {b : Sp} (hv : BV b) {x : Nat} (h1 : 1 ≤ x) (h2 : x ≤ nC b) (g : good b x) : T1 b x = 2 ^ x ||| pm b 16 x := by
  unfold T1
  rw [if_pos ((cde_0 hv h1 h2).mpr g)]
theorem bc_0 : f_Long_bitCount 0 = some 0 := by decide +kernel
/-- offered to x, and the best of them -/
theorem c_best {b : Sp} {M : Mem} (hv : BV b) (hc : CB b M) (hk : LK b M) {x n a s : Nat} (h1 : 1 ≤ x) (h2 : x ≤ nC b) (g : good b x) {l : Int64} {Q : Nat → Prop} (hl : Bs l Q) (hQ : ∀ m, mr b m → virt b m → (Q m ↔ b 11 m = n ∧ b 12 m = a ∧ b 13 m = s)) : ∃ y z, f_Inheritance_offered M (nI x) l = some y ∧ f_Inheritance_mostSpecificWithCode M y = some z ∧ Bs y (fun m => mr b m ∧ ct b x n a s m) ∧ Bs z (SB b x n a s) := by
  have ht := hk.1 x h1 h2 g
  obtain ⟨y, y1, y2⟩ := c_off hv hc h2 ht.2.2.2.2 hl
  have e2 := T2_fm hv h1 h2 g
  have y3 : Bs y (fun m => mr b m ∧ ct b x n a s m) := Bs_c y2 (fun m _ => by
    constructor
    · rintro ⟨q1, q2, q3, q4⟩
      obtain ⟨w1, w2, w3⟩ := (hQ m q1 q4).mp q3
      exact ⟨q1, q4.1, w1, w2, w3, by rw [e2]; exact q2, q4.2⟩
    · rintro ⟨q1, q2, q3, q4, q5, q6, q7⟩
      exact ⟨q1, by rw [← e2]; exact q6, (hQ m q1 ⟨q2, q7⟩).mpr ⟨q3, q4, q5⟩, q2, q7⟩)
  have own : ∀ o, mr b o ∧ ct b x n a s o → good b (b 9 o) ∧ 1 ≤ b 9 o ∧ b 9 o ≤ nC b := fun o q => fm_in hv g (by rw [← e2]; exact q.2.2.2.2.2.1)
  obtain ⟨z, z1, z2⟩ := c_ms hv hc y3 (fun o q => ⟨q.1, (hk.1 _ (own o q).2.1 (own o q).2.2 (own o q).1).2.2.2.2⟩)
  refine ⟨y, z, y1, z1, y3, Bs_c z2 (fun m _ => ?_)⟩
  constructor
  · rintro ⟨⟨q1, q2⟩, q3, q4⟩
    refine ⟨q1, q2, fun o o1 o2 o3 o4 o5 => ?_, q4⟩
    have w := own o ⟨⟨o1, o2⟩, o4⟩
    rw [T2_fm hv w.2.1 w.2.2 w.1] at o5
    exact q3 o ⟨⟨o1, o2⟩, o4⟩ o5
  · rintro ⟨q1, q2, q3, q4⟩
    refine ⟨⟨q1, q2⟩, fun o w5 w6 => ?_, q4⟩
    have w := own o w5
    by_cases e : o = m
    · rw [e] at w w6
      exact fm_ir hv w.1 w6
    · refine q3 o w5.1.1 w5.1.2 e w5.2 ?_
      rw [T2_fm hv w.2.1 w.2.2 w.1]
      exact w6
theorem b_fm {b : Sp} {M R : Mem} (h : Bo b M R) {x n a s : Nat} (h1 : 1 ≤ x) (h2 : x ≤ nC b) (g : good b x) (hn : n < 4) (ha : a < 13) (hs : s < 13) {l : Int64} (hl : Bs l (fun m => 1 ≤ m ∧ m ≤ nM b ∧ msig b m = sig 1 n a s)) : ∃ k, k ≤ 40 ∧ (k ≠ 0 → mr b k) ∧ f_Resolver_foundMethod M (nI x) l = some (nI k) ∧ f_LinkAuditModel_findMethod R (nI x) (nI n) (nI a) (nI s) = some (nI k) := by
  obtain ⟨hv, hc, hk, hr, hp⟩ := h
  have h16 := hv.1.1
  have h40 := hv.1.2.1
  have hlen := ch_le b 16 x
  obtain ⟨fu, hfu⟩ := FU_s (r := 100) (by omega)
  unfold f_Resolver_foundMethod f_LinkAuditModel_findMethod
  have e1 := c_fm_L hv hc h1 h2 g (hk.1 x h1 h2 g) hn ha hs hl (bd1 (f_Inheritance_offered M (nI x) l) (fun r2 => if (lg_cmp r2 (0 : Int64)) = 0 then some ((0 : Int32)) else bd1 (f_Inheritance_mostSpecificWithCode M r2) (fun r3 => bd1 (f_Long_bitCount r3) (fun r4 => if r4 = (1 : Int32) then f_Resolver_foundMethod_b107 M r3 else f_Resolver_foundMethod_b107 M r2)))) (ch b 16 x) [] FU (by omega) rfl
  have e2 := r_fm_L hv hr hp (show n < 1000 by omega) (show a < 1000 by omega) (show s < 1000 by omega) (nI x) (fun y6 => some (y6)) (bd1 (f_LinkAuditModel_specificBody R (nI x) (nI n) (nI a) (nI s)) (fun r2 => if r2 ≤ 0 then f_LinkAuditModel_findMethod_L63 R (nI x) (nI n) (nI a) (nI s) (fun y7 => some (y7)) (some ((0 : Int32))) FU (1 : Int32) else some (r2))) (ch b 16 x) x FU rfl g h1 h2 (by omega)
  have l0' : (nI ([] : List Nat).length) = 0 := rfl
  rw [l0'] at e1
  rw [e1, e2]
  by_cases z : fl (fun y => lk b y 1 n a s) (ch b 16 x) = 0
  · rw [if_pos z, if_pos z]
    obtain ⟨y, w, o1, o2, o3, o4⟩ := c_best hv hc hk h1 h2 g hl (n := n) (a := a) (s := s) (fun m q1 q2 => by
      rw [msig_i hv q1 hn ha hs]
      exact ⟨fun q => q.2.2.2, fun q => ⟨q1.1, q1.2, q2.1, q⟩⟩)
    obtain ⟨v, v1, v2⟩ := r_sb hv hr hp h1 h2 (show n < 1000 by omega) (show a < 1000 by omega) (show s < 1000 by omega)
    have e63 := r_fm_L63 hv hr hp h1 h2 (show n < 1000 by omega) (show a < 1000 by omega) (show s < 1000 by omega) (fun y7 => some (y7)) (some ((0 : Int32))) (nM b) FU 1 (by omega) (by omega) (Nat.le_refl 1)
    rw [← l1] at e63
    rw [o1, bd1_s, v1, bd1_s, e63, o2, bd1_s]
    have sp := fi_spec (fun m => decide (ct b x n a s m)) (nM b) 1 (Nat.le_refl 1)
    rcases sp with ⟨p1, p2⟩ | ⟨p1, p2, p3, p4⟩
    · -- nothing is offered
      have none : ∀ m, ¬ (mr b m ∧ ct b x n a s m) := fun m q => by
        have := p2 m q.1.1 (by have := q.1.2; omega)
        rw [decide_eq_true q.2] at this; cases this
      have y0 : y = 0 := (Bs_z o3).mpr (fun m _ => none m)
      have v0 : v = 0 := by
        rcases v2 with ⟨q, -⟩ | ⟨k, -, -, -, q⟩ | ⟨-, i, -, -, q, -⟩
        · exact q
        · have := (q k).mpr rfl; exact absurd ⟨this.1, this.2.1⟩ (none k)
        · exact absurd ⟨q.1, q.2.1⟩ (none i)
      refine ⟨0, by omega, fun q => absurd rfl q, ?_, ?_⟩
      · rw [y0, if_pos (by rw [cmp0])]; rfl
      · rw [v0, if_pos (by decide), if_pos p1]; rfl
    · have first : mr b (fi (fun m => decide (ct b x n a s m)) (nM b) 1) ∧ ct b x n a s (fi (fun m => decide (ct b x n a s m)) (nM b) 1) := ⟨⟨p1, by omega⟩, of_decide_eq_true p3⟩
      have low := Bs_low o3 (k := fi (fun m => decide (ct b x n a s m)) (nM b) 1) (by omega) first (fun j hj q => by
        have := p4 j q.1.1 hj
        rw [decide_eq_true q.2] at this; cases this)
      have y0 : y ≠ 0 := fun q => (Bs_z o3).mp q _ (by omega) first
      rw [if_neg (show ¬ lg_cmp y 0 = 0 by rw [cmp0]; exact y0), if_neg (show ¬ fi (fun m => decide (ct b x n a s m)) (nM b) 1 = 0 by omega)]
      unfold f_Resolver_foundMethod_b107
      rcases v2 with ⟨q, q'⟩ | ⟨k, q1, q2, q3, q4⟩ | ⟨q, i, j, q1, q2, q3⟩
      · refine ⟨_, by omega, fun _ => first.1, ?_, ?_⟩
        · rw [(Bs_z o4).mpr (fun m _ => q' m), bc_0, bd1_s, if_neg (by decide), low, bd1_s]
        · rw [q, if_pos (by decide)]
      · obtain ⟨c1, c2⟩ := Bs_one o4 q3 q4
        refine ⟨k, q3, fun _ => ((q4 k).mpr rfl).1, ?_, ?_⟩
        · rw [c1, bd1_s, if_pos (show nI 1 = (1 : Int32) from rfl), c2, bd1_s]
        · rw [q1, show (0 : Int32) = nI 0 from rfl, i_le (by omega) (by omega), if_neg (by omega)]
      · obtain ⟨c, c1, c2, c3⟩ := Bs_two o4 (fun m w => by have := w.1.2; omega) q1 q2 q3
        refine ⟨_, by omega, fun _ => first.1, ?_, ?_⟩
        · rw [c3, bd1_s, l1, i_eq (by omega) (by omega), if_neg (by omega), low, bd1_s]
        · rw [q, if_pos (by decide)]
  · obtain ⟨y, y1, y2⟩ := fl_in _ z
    have q : lk b y 1 n a s ≠ 0 := by rw [y2] at z; exact z
    rw [if_neg z, if_neg z, y2]
    exact ⟨_, lk_le hv .., fun _ => ⟨(lk_at q).1, (lk_at q).2.1⟩, rfl, rfl⟩

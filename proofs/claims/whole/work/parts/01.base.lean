/-! the pure words that the walked functions are made of -/
abbrev Mem : Type := (Nat → Nat → Int32) × (Nat → Nat → Int64)
def FU : Nat := 10 ^ 40
def DP : Nat := 40
def w1 (M : Mem) (k : Nat) (f : Nat → Int32) : Mem := (fun a => if a = k then f else M.1 a, M.2)
def w2 (M : Mem) (k : Nat) (f : Nat → Int64) : Mem := (M.1, fun a => if a = k then f else M.2 a)
def u1 (M : Mem) (k i : Nat) (x : Int32) : Mem := w1 M k (upd (M.1 k) i x)
def u2 (M : Mem) (k i : Nat) (x : Int64) : Mem := w2 M k (vp_updL (M.2 k) i x)
def ucp (M : Mem) (k1 k2 sp dp n : Nat) : Mem := w1 M k2 (va_cpy (M.1 k1) (M.1 k2) sp dp n)
def ok (i : Int32) (n : Nat) : Bool := decide (¬ (i < 0 ∨ n ≤ i.toNatClampNeg))
def cpok (sp dp n : Int32) (n0 n1 : Nat) : Bool := decide (¬ sp < 0 ∧ ¬ dp < 0 ∧ ¬ n < 0 ∧ sp.toNatClampNeg + n.toNatClampNeg ≤ n0 ∧ dp.toNatClampNeg + n.toNatClampNeg ≤ n1)
def gd {α : Type} (b : Bool) (x : Option α) : Option α := match b with
  | true => x
  | false => none
def sm {α β : Type} (x : α) (k : α → β) : β := k x
def bd1 {α β : Type} (x : Option α) (k : α → Option β) : Option β := match x with
  | none => none
  | some a => k a
def bd2 {α β γ : Type} (x : Option (α × β)) (k : α → β → Option γ) : Option γ := match x with
  | none => none
  | some q => k q.1 q.2
theorem gd_b {α : Type} {b : Bool} {x : Option α} {r : α} (h : gd b x = some r) : b = true ∧ x = some r := by
  cases b with
  | true => exact ⟨rfl, h⟩
  | false => exact absurd (show (none : Option α) = some r from h) (fun q => by cases q)
theorem gd_ok {α : Type} {i : Int32} {n : Nat} {x : Option α} {r : α} (h : gd (ok i n) x = some r) : vp_in i n ∧ x = some r := ⟨of_decide_eq_true (p := ¬ (i < 0 ∨ n ≤ i.toNatClampNeg)) (gd_b h).1, (gd_b h).2⟩
theorem gd_d {α : Type} {p : Prop} [Decidable p] {x : Option α} {r : α} (h : gd (decide p) x = some r) : p ∧ x = some r := ⟨of_decide_eq_true (gd_b h).1, (gd_b h).2⟩
theorem sm_e {α β : Type} {x : α} {k : α → β} {r : β} (h : sm x k = r) : ∃ y, y = x ∧ k y = r := ⟨x, rfl, h⟩
theorem bd1_e {α β : Type} {x : Option α} {k : α → Option β} {r : β} (h : bd1 x k = some r) : ∃ a, x = some a ∧ k a = some r := by
  cases x with
  | none => exact absurd (show (none : Option β) = some r from h) (fun q => by cases q)
  | some a => exact ⟨a, rfl, h⟩
theorem bd2_e {α β γ : Type} {x : Option (α × β)} {k : α → β → Option γ} {r : γ} (h : bd2 x k = some r) : ∃ a b, x = some (a, b) ∧ k a b = some r := by
  cases x with
  | none => exact absurd (show (none : Option γ) = some r from h) (fun q => by cases q)
  | some a => exact ⟨a.1, a.2, rfl, h⟩
theorem ifp {c : Prop} [Decidable c] {α : Type} {a b r : α} (hc : c) (h : (if c then a else b) = r) : a = r := by
  rw [if_pos hc] at h
  exact h
theorem ifn {c : Prop} [Decidable c] {α : Type} {a b r : α} (hc : ¬ c) (h : (if c then a else b) = r) : b = r := by
  rw [if_neg hc] at h
  exact h
/-! contracts over a fixed set of cells: cw M is the world with the memory M -/
def Mi (l : Launch) (y : MethodName) (ws : List Cond) (rm : Room) (K : State → Prop) (D : va_G) (cl : List vw_C) (A : Nat → Prop) (cw : Mem → va_W) (av : List Value) (M M' : Mem) (r : Int32) : Prop :=
  Met l y ws rm (va_Pc av (fun U => K U ∧ va_P D cl (cw M) U.heap)) (va_Qi (fun r' (_ : Unit) => r' = r) (fun _ t => va_P D cl (cw M') t.heap) A) 0 0 A
def Ml (l : Launch) (y : MethodName) (ws : List Cond) (rm : Room) (K : State → Prop) (D : va_G) (cl : List vw_C) (A : Nat → Prop) (cw : Mem → va_W) (av : List Value) (M M' : Mem) (r : Int64) : Prop :=
  Met l y ws rm (va_Pc av (fun U => K U ∧ va_P D cl (cw M) U.heap)) (va_Ql (fun r' (_ : Unit) => r' = r) (fun _ t => va_P D cl (cw M') t.heap) A) 0 0 A
def Mv (l : Launch) (y : MethodName) (ws : List Cond) (rm : Room) (K : State → Prop) (D : va_G) (cl : List vw_C) (A : Nat → Prop) (cw : Mem → va_W) (av : List Value) (M M' : Mem) : Prop :=
  Met l y ws rm (va_Pc av (fun U => K U ∧ va_P D cl (cw M) U.heap)) (va_Qv (fun (_ : Unit) => True) (fun _ t => va_P D cl (cw M') t.heap) A) 0 0 A
/-- a state of words: it lasts over a call's frame, and over what a machine links -/
def Kw (K : State → Prop) : Prop := (∀ (s U : State), s.WarmedH U.vm → K s → K U) ∧ ∀ (U : State) (g : JFrame) (mk : MethodId) (a : Array Value), K U → K (U.calling g mk a)
section XB
variable {p : Program} {l : Launch} {e : Env} {R : Room} {s : State} {m : MethodId} {args : Array Value} {below : List Frame} {meth : Method} {c : Code} {H H0 : Heap} {locs : List Loc} {cells slots : Nat} {Q : State → Prop} {cc : ByteArray} {pc : Nat} {ls : Array Slot} {rest : List Value} {D : va_G} {cl : List vw_C} {tys : List (ClassId × FieldType)} {A : Nat → Prop} {cw : Mem → va_W} {M M1 : Mem} {ad : Nat → Nat} {cI cL cG cZ : ClassId}
theorem x_ild (hx : p.tables.exec = Jvm.exec) (hb : c.code = cc) (hK : va_K D cl ((cI, .int) :: (cL, .long) :: (cG, .array .int) :: tys) s) (hP : va_P D cl (cw M) H) {k n : Nat} (hc : (cw M)[k]? = some (ad k, .inl (cI, n, .inl (M.1 k)))) {i : Int32} (hin : vp_in i n) (hdg : decode cc pc = .ok (.iaload, 1))
    (kk : W p l e R s m args below meth c H locs cells slots Q (F0 m (pc + 1) ls (.int (M.1 k i.toNatClampNeg) :: rest))) : W p l e R s m args below meth c H locs cells slots Q (F0 m pc ls (.int i :: .ref (ad k) :: rest)) :=
  va_iald hx hb hK hP k 0 hc rfl hin hdg kk
theorem x_lld (hx : p.tables.exec = Jvm.exec) (hb : c.code = cc) (hK : va_K D cl ((cI, .int) :: (cL, .long) :: (cG, .array .int) :: tys) s) (hP : va_P D cl (cw M) H) {k n : Nat} (hc : (cw M)[k]? = some (ad k, .inl (cL, n, .inr (.inl (M.2 k))))) {i : Int32} (hin : vp_in i n) (hdg : decode cc pc = .ok (.laload, 1))
    (kk : W p l e R s m args below meth c H locs cells slots Q (F0 m (pc + 1) ls (.long (M.2 k i.toNatClampNeg) :: rest))) : W p l e R s m args below meth c H locs cells slots Q (F0 m pc ls (.int i :: .ref (ad k) :: rest)) :=
  va_lald hx hb hK hP k 1 hc rfl hin hdg kk
theorem x_ald (hx : p.tables.exec = Jvm.exec) (hb : c.code = cc) (hK : va_K D cl ((cI, .int) :: (cL, .long) :: (cG, .array .int) :: tys) s) (hP : va_P D cl (cw M) H) {k0 base n : Nat} (hc : (cw M)[k0]? = some (ad k0, .inl (cG, n, .inr (.inr (.inr (.inr (fun j => some (ad (base + j)))))))))  {i : Int32} (hin : vp_in i n) (hdg : decode cc pc = .ok (.aaload, 1))
    (kk : W p l e R s m args below meth c H locs cells slots Q (F0 m (pc + 1) ls (.ref (ad (base + i.toNatClampNeg)) :: rest))) : W p l e R s m args below meth c H locs cells slots Q (F0 m pc ls (.int i :: .ref (ad k0) :: rest)) := by
  have hlt : i.toNatClampNeg < n := Nat.not_le.mp fun q => hin (Or.inr q)
  exact W.aald (v := .ref (ad (base + i.toNatClampNeg))) (ty := .array .int) hx hb (hP k0 _ hc) ((hK.2 2 _ rfl).1 n (fun j => va_rf (some (ad (base + j))))) rfl (fun q => by cases q) (by show ¬ (i < 0 ∨ (arrV _ _ _).slots.size ≤ _); rw [arrV_size]; exact hin) (by show (arrV _ _ _).slots[_]? = _; rw [arrV_read _ _ hlt]; rfl) rfl rfl hdg kk
theorem x_ist (hx : p.tables.exec = Jvm.exec) (hb : c.code = cc) (hK : va_K D cl ((cI, .int) :: (cL, .long) :: (cG, .array .int) :: tys) s) (hP : va_P D cl (cw M) H) (hD : va_D A (cw M)) (hS : va_S A H0 H locs) {k n : Nat} (hc : (cw M)[k]? = some (ad k, .inl (cI, n, .inl (M.1 k)))) (hs : ∀ f : Nat → Int32, (cw M).set k (ad k, .inl (cI, n, .inl f)) = cw (w1 M k f)) {i x : Int32} (hin : vp_in i n) (eM : M1 = u1 M k i.toNatClampNeg x) (hdg : decode cc pc = .ok (.iastore, 1))
    (kk : ∀ (H1 : Heap) (locs1 : List Loc), va_P D cl (cw M1) H1 → va_S A H0 H1 locs1 → W p l e R s m args below meth c H1 locs1 cells slots Q (F0 m (pc + 1) ls rest)) : W p l e R s m args below meth c H locs cells slots Q (F0 m pc ls (.int x :: .int i :: .ref (ad k) :: rest)) := by
  refine va_iast hx hb hK hP hD hS k 0 hc rfl hin hdg (fun H1 locs1 h1 _ h3 => kk H1 locs1 ?_ h3)
  rw [hs] at h1
  rw [eM]
  exact h1
theorem x_lst (hx : p.tables.exec = Jvm.exec) (hb : c.code = cc) (hK : va_K D cl ((cI, .int) :: (cL, .long) :: (cG, .array .int) :: tys) s) (hP : va_P D cl (cw M) H) (hD : va_D A (cw M)) (hS : va_S A H0 H locs) {k n : Nat} (hc : (cw M)[k]? = some (ad k, .inl (cL, n, .inr (.inl (M.2 k))))) (hs : ∀ f : Nat → Int64, (cw M).set k (ad k, .inl (cL, n, .inr (.inl f))) = cw (w2 M k f)) {i : Int32} {x : Int64} (hin : vp_in i n) (eM : M1 = u2 M k i.toNatClampNeg x) (hdg : decode cc pc = .ok (.lastore, 1))
    (kk : ∀ (H1 : Heap) (locs1 : List Loc), va_P D cl (cw M1) H1 → va_S A H0 H1 locs1 → W p l e R s m args below meth c H1 locs1 cells slots Q (F0 m (pc + 1) ls rest)) : W p l e R s m args below meth c H locs cells slots Q (F0 m pc ls (.long x :: .int i :: .ref (ad k) :: rest)) := by
  refine va_last hx hb hK hP hD hS k 1 hc rfl hin hdg (fun H1 locs1 h1 _ h3 => kk H1 locs1 ?_ h3)
  rw [hs] at h1
  rw [eM]
  exact h1
theorem x_copy {own : String} {index : Nat} (hx : p.tables.exec = Jvm.exec) (hb : c.code = cc) (hml : c.maxLocals = ls.size) (hown : s.vm.findClass own = some m.cls) (hlink : (Cond.methodLink own index arraycopyName).before args s = true) (hnat : (Cond.native arraycopyName).before args s = true) (hstat : (Cond.static arraycopyName).before args s = true) (hini : (Cond.initialized "java/lang/System").before args s = true)
    (hK : va_K D cl ((cI, .int) :: (cL, .long) :: (cG, .array .int) :: tys) s) (hP : va_P D cl (cw M) H) (hD : va_D A (cw M)) (hS : va_S A H0 H locs) {k0 k1 n0 n1 : Nat} (hc0 : (cw M)[k0]? = some (ad k0, .inl (cI, n0, .inl (M.1 k0)))) (hc1 : (cw M)[k1]? = some (ad k1, .inl (cI, n1, .inl (M.1 k1)))) (hs : ∀ f : Nat → Int32, (cw M).set k1 (ad k1, .inl (cI, n1, .inl f)) = cw (w1 M k1 f)) {sp dp n : Int32} (hok : cpok sp dp n n0 n1 = true) (eM : M1 = ucp M k0 k1 sp.toNatClampNeg dp.toNatClampNeg n.toNatClampNeg)
    (hframes : 1 ≤ R.frames) (hlocals : (rest.map fun v => v.category).sum + (nativeFrameWords "java/lang/System" "arraycopy" 5 + 11) ≤ R.locals) (hdg : decode cc pc = .ok (.invokestatic index, 3))
    (kk : ∀ (H1 : Heap) (locs1 : List Loc), va_P D cl (cw M1) H1 → va_S A H0 H1 locs1 → W p l e R s m args below meth c H1 locs1 cells slots Q (F0 m (pc + 3) ls rest)) : W p l e R s m args below meth c H locs cells slots Q (F0 m pc ls (.int n :: .int dp :: .ref (ad k1) :: .int sp :: .ref (ad k0) :: rest)) := by
  obtain ⟨h1, h2, h3, h4, h5⟩ := of_decide_eq_true hok
  refine va_copyi hx hb hml hown hlink hnat hstat hini hK hP hD hS k0 k1 0 0 hc0 hc1 rfl rfl rfl h1 h2 h3 h4 h5 (fun i _ => rfl) hframes hlocals hdg (fun H1 locs1 g1 _ g3 => kk H1 locs1 ?_ g3)
  rw [hs] at g1
  rw [eM]
  exact g1
theorem x_zld (hx : p.tables.exec = Jvm.exec) (hb : c.code = cc) (hK : va_K D cl ((cI, .int) :: (cL, .long) :: (cG, .array .int) :: (cZ, .boolean) :: tys) s) (hP : va_P D cl (cw M) H) {k n : Nat} (hc : (cw M)[k]? = some (ad k, .inl (cZ, n, .inl (M.1 k)))) {i : Int32} (hin : vp_in i n) (hdg : decode cc pc = .ok (.baload, 1))
    (kk : W p l e R s m args below meth c H locs cells slots Q (F0 m (pc + 1) ls (.int (M.1 k i.toNatClampNeg) :: rest))) : W p l e R s m args below meth c H locs cells slots Q (F0 m pc ls (.int i :: .ref (ad k) :: rest)) :=
  va_zald hx hb hK hP k 3 hc rfl hin hdg kk
theorem x_nz {x : Int32} (h : x = 0 ∨ x = 1) : vp_nar .boolean x = x := by
  rcases h with rfl | rfl <;> decide
theorem x_zst (hx : p.tables.exec = Jvm.exec) (hb : c.code = cc) (hK : va_K D cl ((cI, .int) :: (cL, .long) :: (cG, .array .int) :: (cZ, .boolean) :: tys) s) (hP : va_P D cl (cw M) H) (hD : va_D A (cw M)) (hS : va_S A H0 H locs) {k n : Nat} (hc : (cw M)[k]? = some (ad k, .inl (cZ, n, .inl (M.1 k)))) (hs : ∀ f : Nat → Int32, (cw M).set k (ad k, .inl (cZ, n, .inl f)) = cw (w1 M k f)) {i x : Int32} (hin : vp_in i n) (hz : x = 0 ∨ x = 1) (eM : M1 = u1 M k i.toNatClampNeg x) (hdg : decode cc pc = .ok (.bastore, 1))
    (kk : ∀ (H1 : Heap) (locs1 : List Loc), va_P D cl (cw M1) H1 → va_S A H0 H1 locs1 → W p l e R s m args below meth c H1 locs1 cells slots Q (F0 m (pc + 1) ls rest)) : W p l e R s m args below meth c H locs cells slots Q (F0 m pc ls (.int x :: .int i :: .ref (ad k) :: rest)) := by
  refine va_zast hx hb hK hP hD hS k 3 hc rfl hin hdg (fun H1 locs1 h1 _ h3 => kk H1 locs1 ?_ h3)
  rw [hs, x_nz hz] at h1
  rw [eM]
  exact h1
end XB
section XC
variable {p : Program} {l : Launch} {e : Env} {R : Room} {s : State} {m : MethodId} {args : Array Value} {below : List Frame} {meth : Method} {c : Code} {H H0 : Heap} {locs : List Loc} {cells slots : Nat} {Q : State → Prop} {cc bytes : ByteArray} {pc nL maxL n index : Nat} {ls : Array Slot} {rest st0 As : List Value} {D : va_G} {cl : List vw_C} {A : Nat → Prop} {cw : Mem → va_W} {M M1 : Mem} {Ts ws : List Cond} {rm : Room} {own C host : String} {y : MethodName} {ret : Option FieldType} {K : State → Prop} {b : Nat}
theorem x_blind (hKw : Kw K) (av : List Value) : FrameBlind (va_Pc av (fun U => K U ∧ va_P D cl (cw M) U.heap)) := fun a U g mk q => ⟨q.1, hKw.2 U g mk a q.2.1, q.2.2⟩
theorem x_pre (hKw : Kw K) (hk : K s) (hP : va_P D cl (cw M) H) (av : List Value) : ∀ U : State, U.heap = H → s.WarmedH U.vm → va_Pc av (fun U => K U ∧ va_P D cl (cw M) U.heap) av.toArray U := fun U hU hW => ⟨rfl, hKw.1 s U hW hk, by rw [hU]; exact hP⟩
theorem x_afterI {r : Int32} {a : Array Value} (hr : va_Run p l e R s m args below meth c H locs cells slots 0 0 (F0 m pc ls st0) rest (va_Qi (fun r' (_ : Unit) => r' = r) (fun _ t => va_P D cl (cw M1) t.heap) A a) A) (hS : va_S A H0 H locs)
    (kk : ∀ (H1 : Heap) (locs1 : List Loc), va_P D cl (cw M1) H1 → va_S A H0 H1 locs1 → W p l e R s m args below meth c H1 locs1 cells slots Q (F0 m (pc + 3) ls (.int r :: rest))) : W p l e R s m args below meth c H locs cells slots Q (F0 m pc ls st0) := by
  refine va_calli hr hS (fun _ _ h => h) (fun _ h => h) (fun r1 u t H1 locs1 ht _ hw hB _ _ hS1 => ?_)
  subst hw
  rw [ht] at hB
  exact kk H1 locs1 hB hS1
theorem x_afterL {r : Int64} {a : Array Value} (hr : va_Run p l e R s m args below meth c H locs cells slots 0 0 (F0 m pc ls st0) rest (va_Ql (fun r' (_ : Unit) => r' = r) (fun _ t => va_P D cl (cw M1) t.heap) A a) A) (hS : va_S A H0 H locs)
    (kk : ∀ (H1 : Heap) (locs1 : List Loc), va_P D cl (cw M1) H1 → va_S A H0 H1 locs1 → W p l e R s m args below meth c H1 locs1 cells slots Q (F0 m (pc + 3) ls (.long r :: rest))) : W p l e R s m args below meth c H locs cells slots Q (F0 m pc ls st0) := by
  refine va_calll hr hS (fun _ _ h => h) (fun _ h => h) (fun r1 u t H1 locs1 ht _ hw hB _ _ hS1 => ?_)
  subst hw
  rw [ht] at hB
  exact kk H1 locs1 hB hS1
theorem x_afterV {a : Array Value} (hr : va_Run p l e R s m args below meth c H locs cells slots 0 0 (F0 m pc ls st0) rest (va_Qv (fun (_ : Unit) => True) (fun _ t => va_P D cl (cw M1) t.heap) A a) A) (hS : va_S A H0 H locs)
    (kk : ∀ (H1 : Heap) (locs1 : List Loc), va_P D cl (cw M1) H1 → va_S A H0 H1 locs1 → W p l e R s m args below meth c H1 locs1 cells slots Q (F0 m (pc + 3) ls rest)) : W p l e R s m args below meth c H locs cells slots Q (F0 m pc ls st0) := by
  refine va_callv hr hS (fun _ _ h => h) (fun _ h => h) (fun u t H1 locs1 ht _ _ hB _ _ hS1 => ?_)
  rw [ht] at hB
  exact kk H1 locs1 hB hS1
theorem x_after0I {r : Int32} {a : Array Value} {cl0 : List vw_C} {cw0 : Mem → va_W} {M0 : Mem} {A00 : Nat → Prop} (h00 : ∀ q, ¬ A00 q) (hr : va_Run p l e R s m args below meth c H locs cells slots 0 0 (F0 m pc ls st0) rest (va_Qi (fun r' (_ : Unit) => r' = r) (fun _ t => va_P D cl0 (cw0 M0) t.heap) A00 a) A00) (hP : va_P D cl (cw M) H) (hS : va_S A H0 H locs)
    (kk : ∀ (H1 : Heap) (locs1 : List Loc), va_P D cl (cw M) H1 → va_S A H0 H1 locs1 → W p l e R s m args below meth c H1 locs1 cells slots Q (F0 m (pc + 3) ls (.int r :: rest))) : W p l e R s m args below meth c H locs cells slots Q (F0 m pc ls st0) := by
  refine va_calli hr hS (fun q _ h => (h00 q h).elim) (fun q h => (h00 q h).elim) (fun r1 u t H1 locs1 ht _ hw hB _ hk hS1 => ?_)
  subst hw
  exact kk H1 locs1 (hP.kept (fun k q hq => hk q.1 ((hP k q hq).lt) (h00 _))) hS1
end XC
section XM
variable {l : Launch} {y : MethodName} {TS : List Cond} {rm : Room} {K : State → Prop} {D : va_G} {cl : List vw_C} {A : Nat → Prop} {cw : Mem → va_W} {av : List Value} {M M' : Mem} {cc : ByteArray} {maxL : Nat}
theorem Mi_of {r : Int32} (hy : plainName y.cls = true) (hlen : (lg_sl av).length ≤ maxL) (body : ∀ (p : Program) (e : Env) (s : State) (m : MethodId) (args : Array Value) (below : List Frame) (meth : Method) (c : Code) (ls : Array Slot) (Q : State → Prop), CallFix p m c cc maxL s args TS y.cls → K s → (∀ {H : Heap} {locs : List Loc} {ls : Array Slot} {pc : Nat} {v : Int32} {Mx : Mem}, some (v, Mx) = some (r, M') → va_P D cl (cw Mx) H → va_S A s.heap H locs → decode cc pc = .ok (.ireturn, 1) → W p l e rm s m args below meth c H locs 0 0 Q (F0 m pc ls [.int v])) → va_P D cl (cw M) s.heap → lv_has ls maxL (lv_args 0 av) → W p l e rm s m args below meth c s.heap [] 0 0 Q (F0 m 0 ls [])) : Mi l y (.code y cc maxL (some .int) :: TS) rm K D cl A cw av M M' r := by
  refine Met.ofW (cc := cc) (maxL := maxL) (ret := some .int) hy rfl ?_
  intro p e s m args below meth c s₁ B hml hv
  obtain ⟨rfl, hK, hP⟩ := hv
  have hts := atoms_spec (ws := .code y cc maxL (some .int) :: TS) B.pre
  have hl := lv_entry av (n := maxL) hlen
  rw [lg_entry_eq]
  generalize (lg_sl av ++ List.replicate (maxL - (lg_sl av).length) Slot.unset).toArray = ls at hl ⊢
  have hlocks := B.notSynchronized
  refine body p e s m av.toArray below meth c ls _ ⟨B.exec, B.bytes, hml, findClass_of_methodNamed B.named, fun w h => hts w (List.mem_cons_of_mem _ h)⟩ hK (fun {H locs ls pc v Mx} h hP hS hd => ?_) hP hl
  cases h
  exact W.iret B.exec B.bytes B.returns (fun t ht hW => ⟨⟨_, (), rfl, rfl, by show va_P D cl _ t.heap; rw [ht]; exact hP⟩, hS.F ht⟩) hS.2.2 hd
theorem Mi_ofR {r : Int32} (hy : plainName y.cls = true) (hlen : (lg_sl av).length ≤ maxL) (body : ∀ (p : Program) (e : Env) (s : State) (m : MethodId) (args : Array Value) (below : List Frame) (meth : Method) (c : Code) (ls : Array Slot) (Q : State → Prop), CallFix p m c cc maxL s args TS y.cls → K s → (∀ {H : Heap} {locs : List Loc} {ls : Array Slot} {pc : Nat} {v : Int32}, some v = some r → va_P D cl (cw M) H → va_S A s.heap H locs → decode cc pc = .ok (.ireturn, 1) → W p l e rm s m args below meth c H locs 0 0 Q (F0 m pc ls [.int v])) → va_P D cl (cw M) s.heap → lv_has ls maxL (lv_args 0 av) → W p l e rm s m args below meth c s.heap [] 0 0 Q (F0 m 0 ls [])) : Mi l y (.code y cc maxL (some .int) :: TS) rm K D cl A cw av M M r := by
  refine Met.ofW (cc := cc) (maxL := maxL) (ret := some .int) hy rfl ?_
  intro p e s m args below meth c s₁ B hml hv
  obtain ⟨rfl, hK, hP⟩ := hv
  have hts := atoms_spec (ws := .code y cc maxL (some .int) :: TS) B.pre
  have hl := lv_entry av (n := maxL) hlen
  rw [lg_entry_eq]
  generalize (lg_sl av ++ List.replicate (maxL - (lg_sl av).length) Slot.unset).toArray = ls at hl ⊢
  have hlocks := B.notSynchronized
  refine body p e s m av.toArray below meth c ls _ ⟨B.exec, B.bytes, hml, findClass_of_methodNamed B.named, fun w h => hts w (List.mem_cons_of_mem _ h)⟩ hK (fun {H locs ls pc v} h hP hS hd => ?_) hP hl
  cases h
  exact W.iret B.exec B.bytes B.returns (fun t ht hW => ⟨⟨_, (), rfl, rfl, by show va_P D cl _ t.heap; rw [ht]; exact hP⟩, hS.F ht⟩) hS.2.2 hd
theorem x_zf {v : Int32} (h : v = 0 ∨ v = 1) : fits .boolean (.int v) = true := by
  rcases h with rfl | rfl <;> decide
theorem x_zn {v : Int32} (h : v = 0 ∨ v = 1) : narrow .boolean (.int v) = .int v := by
  rcases h with rfl | rfl <;> decide
theorem Mz_of {r : Int32} (hy : plainName y.cls = true) (hlen : (lg_sl av).length ≤ maxL) (body : ∀ (p : Program) (e : Env) (s : State) (m : MethodId) (args : Array Value) (below : List Frame) (meth : Method) (c : Code) (ls : Array Slot) (Q : State → Prop), CallFix p m c cc maxL s args TS y.cls → K s → (∀ {H : Heap} {locs : List Loc} {ls : Array Slot} {pc : Nat} {v : Int32} {Mx : Mem}, (v = 0 ∨ v = 1) → some (v, Mx) = some (r, M') → va_P D cl (cw Mx) H → va_S A s.heap H locs → decode cc pc = .ok (.ireturn, 1) → W p l e rm s m args below meth c H locs 0 0 Q (F0 m pc ls [.int v])) → va_P D cl (cw M) s.heap → lv_has ls maxL (lv_args 0 av) → W p l e rm s m args below meth c s.heap [] 0 0 Q (F0 m 0 ls [])) : Mi l y (.code y cc maxL (some .boolean) :: TS) rm K D cl A cw av M M' r := by
  refine Met.ofW (cc := cc) (maxL := maxL) (ret := some .boolean) hy rfl ?_
  intro p e s m args below meth c s₁ B hml hv
  obtain ⟨rfl, hK, hP⟩ := hv
  have hts := atoms_spec (ws := .code y cc maxL (some .boolean) :: TS) B.pre
  have hl := lv_entry av (n := maxL) hlen
  rw [lg_entry_eq]
  generalize (lg_sl av ++ List.replicate (maxL - (lg_sl av).length) Slot.unset).toArray = ls at hl ⊢
  have hlocks := B.notSynchronized
  refine body p e s m av.toArray below meth c ls _ ⟨B.exec, B.bytes, hml, findClass_of_methodNamed B.named, fun w h => hts w (List.mem_cons_of_mem _ h)⟩ hK (fun {H locs ls pc v Mx} hz h hP hS hd => ?_) hP hl
  cases h
  exact W.zret B.exec B.bytes B.returns (x_zn hz) (fun t ht hW => ⟨⟨_, (), rfl, rfl, by show va_P D cl _ t.heap; rw [ht]; exact hP⟩, hS.F ht⟩) hS.2.2 hd
theorem Mz_ofR {r : Int32} (hy : plainName y.cls = true) (hlen : (lg_sl av).length ≤ maxL) (body : ∀ (p : Program) (e : Env) (s : State) (m : MethodId) (args : Array Value) (below : List Frame) (meth : Method) (c : Code) (ls : Array Slot) (Q : State → Prop), CallFix p m c cc maxL s args TS y.cls → K s → (∀ {H : Heap} {locs : List Loc} {ls : Array Slot} {pc : Nat} {v : Int32}, (v = 0 ∨ v = 1) → some v = some r → va_P D cl (cw M) H → va_S A s.heap H locs → decode cc pc = .ok (.ireturn, 1) → W p l e rm s m args below meth c H locs 0 0 Q (F0 m pc ls [.int v])) → va_P D cl (cw M) s.heap → lv_has ls maxL (lv_args 0 av) → W p l e rm s m args below meth c s.heap [] 0 0 Q (F0 m 0 ls [])) : Mi l y (.code y cc maxL (some .boolean) :: TS) rm K D cl A cw av M M r := by
  refine Met.ofW (cc := cc) (maxL := maxL) (ret := some .boolean) hy rfl ?_
  intro p e s m args below meth c s₁ B hml hv
  obtain ⟨rfl, hK, hP⟩ := hv
  have hts := atoms_spec (ws := .code y cc maxL (some .boolean) :: TS) B.pre
  have hl := lv_entry av (n := maxL) hlen
  rw [lg_entry_eq]
  generalize (lg_sl av ++ List.replicate (maxL - (lg_sl av).length) Slot.unset).toArray = ls at hl ⊢
  have hlocks := B.notSynchronized
  refine body p e s m av.toArray below meth c ls _ ⟨B.exec, B.bytes, hml, findClass_of_methodNamed B.named, fun w h => hts w (List.mem_cons_of_mem _ h)⟩ hK (fun {H locs ls pc v} hz h hP hS hd => ?_) hP hl
  cases h
  exact W.zret B.exec B.bytes B.returns (x_zn hz) (fun t ht hW => ⟨⟨_, (), rfl, rfl, by show va_P D cl _ t.heap; rw [ht]; exact hP⟩, hS.F ht⟩) hS.2.2 hd
theorem Ml_ofR {r : Int64} (hy : plainName y.cls = true) (hlen : (lg_sl av).length ≤ maxL) (body : ∀ (p : Program) (e : Env) (s : State) (m : MethodId) (args : Array Value) (below : List Frame) (meth : Method) (c : Code) (ls : Array Slot) (Q : State → Prop), CallFix p m c cc maxL s args TS y.cls → K s → (∀ {H : Heap} {locs : List Loc} {ls : Array Slot} {pc : Nat} {v : Int64}, some v = some r → va_P D cl (cw M) H → va_S A s.heap H locs → decode cc pc = .ok (.lreturn, 1) → W p l e rm s m args below meth c H locs 0 0 Q (F0 m pc ls [.long v])) → va_P D cl (cw M) s.heap → lv_has ls maxL (lv_args 0 av) → W p l e rm s m args below meth c s.heap [] 0 0 Q (F0 m 0 ls [])) : Ml l y (.code y cc maxL (some .long) :: TS) rm K D cl A cw av M M r := by
  refine Met.ofW (cc := cc) (maxL := maxL) (ret := some .long) hy rfl ?_
  intro p e s m args below meth c s₁ B hml hv
  obtain ⟨rfl, hK, hP⟩ := hv
  have hts := atoms_spec (ws := .code y cc maxL (some .long) :: TS) B.pre
  have hl := lv_entry av (n := maxL) hlen
  rw [lg_entry_eq]
  generalize (lg_sl av ++ List.replicate (maxL - (lg_sl av).length) Slot.unset).toArray = ls at hl ⊢
  have hlocks := B.notSynchronized
  refine body p e s m av.toArray below meth c ls _ ⟨B.exec, B.bytes, hml, findClass_of_methodNamed B.named, fun w h => hts w (List.mem_cons_of_mem _ h)⟩ hK (fun {H locs ls pc v} h hP hS hd => ?_) hP hl
  cases h
  exact W.lret B.exec B.bytes B.returns (fun t ht hW => ⟨⟨_, (), rfl, rfl, by show va_P D cl _ t.heap; rw [ht]; exact hP⟩, hS.F ht⟩) hS.2.2 hd
theorem Mv_of (hy : plainName y.cls = true) (hlen : (lg_sl av).length ≤ maxL) (body : ∀ (p : Program) (e : Env) (s : State) (m : MethodId) (args : Array Value) (below : List Frame) (meth : Method) (c : Code) (ls : Array Slot) (Q : State → Prop), CallFix p m c cc maxL s args TS y.cls → K s → (∀ {H : Heap} {locs : List Loc} {ls : Array Slot} {pc : Nat} {Mx : Mem}, some Mx = some M' → va_P D cl (cw Mx) H → va_S A s.heap H locs → decode cc pc = .ok (.return_, 1) → W p l e rm s m args below meth c H locs 0 0 Q (F0 m pc ls [])) → va_P D cl (cw M) s.heap → lv_has ls maxL (lv_args 0 av) → W p l e rm s m args below meth c s.heap [] 0 0 Q (F0 m 0 ls [])) : Mv l y (.code y cc maxL none :: TS) rm K D cl A cw av M M' := by
  refine Met.ofW (cc := cc) (maxL := maxL) (ret := none) hy rfl ?_
  intro p e s m args below meth c s₁ B hml hv
  obtain ⟨rfl, hK, hP⟩ := hv
  have hts := atoms_spec (ws := .code y cc maxL none :: TS) B.pre
  have hl := lv_entry av (n := maxL) hlen
  rw [lg_entry_eq]
  generalize (lg_sl av ++ List.replicate (maxL - (lg_sl av).length) Slot.unset).toArray = ls at hl ⊢
  have hlocks := B.notSynchronized
  refine body p e s m av.toArray below meth c ls _ ⟨B.exec, B.bytes, hml, findClass_of_methodNamed B.named, fun w h => hts w (List.mem_cons_of_mem _ h)⟩ hK (fun {H locs ls pc Mx} h hP hS hd => ?_) hP hl
  cases h
  exact W.vret B.exec B.bytes B.returns (fun t ht hW => ⟨⟨(), rfl, trivial, by show va_P D cl _ t.heap; rw [ht]; exact hP⟩, hS.F ht⟩) hS.2.2 hd
end XM
/-- the world of a method that touches no cell -/
def e_ws (_ _ _ _ : ClassId) (_ : Nat → Nat) (_ : Mem) : va_W := []
def e_A (_ : Nat → Nat) : Nat → Prop := fun _ => False
theorem e_no {ad : Nat → Nat} : ∀ q, ¬ e_A ad q := fun _ h => h
theorem e_P {D : va_G} {cl : List vw_C} {cI cL cG cZ : ClassId} {ad : Nat → Nat} {M : Mem} {H : Heap} : va_P D cl (e_ws cI cL cG cZ ad M) H := fun k q h => by simp [e_ws] at h
theorem e_D {cI cL cG cZ : ClassId} {ad : Nat → Nat} : ∀ M, va_D (e_A ad) (e_ws cI cL cG cZ ad M) := fun _ => ⟨fun i j p q h => by simp [e_ws] at h, fun k q h => by simp [e_ws] at h⟩

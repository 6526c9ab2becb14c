/-! new int[n][k], over the machine: first the outer array, then each row, put into its place -/
def mg_o (c : ClassId) (N h i : Nat) : Cell := arrV c N (fun j => va_rf (if j < i then some (h + 1 + j) else none))
def mg_r (c : ClassId) (K : Nat) : Cell := arrV c K (fun _ => .int 0)
theorem mg_o0 (c : ClassId) (N h : Nat) : ({ cls := c, slots := Array.replicate N .null, vm := .none } : Cell) = mg_o c N h 0 := by
  rw [arrV_new]
  exact congrArg (arrV c N) (funext fun j => by simp [va_rf])
theorem mg_r0 (c : ClassId) (K : Nat) : ({ cls := c, slots := Array.replicate K (.int 0), vm := .none } : Cell) = mg_r c K := arrV_new _ _ _
theorem mg_oS (c : ClassId) (N h i : Nat) : (mg_o c N h i).setSlot i (.ref (h + 1 + i)) = mg_o c N h (i + 1) := by
  unfold mg_o
  rw [arrV_store]
  refine congrArg (arrV c N) (funext fun j => ?_)
  by_cases e : j = i
  · subst e
    simp [updV, va_rf]
  · have h1 : (j < i + 1) = (j < i) := propext ⟨fun q => by omega, fun q => by omega⟩
    simp [updV, e, h1]
/-- the machine's states while it makes the grid: behind i rows -/
def mg_s (s : State) (c b : ClassId) (N K : Nat) : Nat → State
  | 0 => s.pushCell (mg_o c N s.heap.size 0)
  | i + 1 => ((mg_s s c b N K i).pushCell (mg_r b K)).setCell s.heap.size (mg_o c N s.heap.size (i + 1))
theorem mg_sz (c : ClassId) (N h i : Nat) : (mg_o c N h i).slots.size = N := arrV_size _ _ _
theorem mg_f (s : State) (c b : ClassId) (N K : Nat) (i : Nat) : (mg_s s c b N K i).heap.size = s.heap.size + 1 + i ∧ (mg_s s c b N K i).heap[s.heap.size]? = some (mg_o c N s.heap.size i) ∧ (mg_s s c b N K i).vm = s.vm ∧ (mg_s s c b N K i).slotsUsed = s.slotsUsed + N + i * K := by
  induction i with
  | zero => exact ⟨by simp [mg_s], by simp [mg_s], rfl, by simp [mg_s, mg_sz]⟩
  | succ i ih =>
    obtain ⟨h1, h2, h3, h4⟩ := ih
    have h0 : s.heap.size < (mg_s s c b N K i).heap.size := by omega
    have h5 : ((mg_s s c b N K i).pushCell (mg_r b K)).heap[s.heap.size]? = some (mg_o c N s.heap.size i) := by
      rw [State.heap_pushCell_of_lt (h := h0)]
      exact h2
    have h6 : (mg_r b K).slots.size = K := arrV_size _ _ _
    refine ⟨?_, State.heap_setCell_self h5, by simp [mg_s, h3], ?_⟩
    · simp [mg_s, State.setCell, h1]
      omega
    · simp [mg_s, h4, h6, Nat.succ_mul]
      omega
theorem mg_old (s : State) (c b : ClassId) (N K : Nat) {a : Addr} (ha : a < s.heap.size) (i : Nat) : (mg_s s c b N K i).heap[a]? = s.heap[a]? := by
  induction i with
  | zero => exact State.heap_pushCell_of_lt _ _ ha
  | succ i ih =>
    have h1 := (mg_f s c b N K i).1
    show (((mg_s s c b N K i).pushCell (mg_r b K)).setCell s.heap.size _).heap[a]? = _
    have h0 : a < (mg_s s c b N K i).heap.size := Nat.lt_of_lt_of_le ha (by rw [h1]; omega)
    rw [State.heap_setCell_other (Nat.ne_of_gt ha), State.heap_pushCell_of_lt (h := h0)]
    exact ih
theorem mg_row (s : State) (c b : ClassId) (N K : Nat) (i : Nat) : ∀ j, j < i → (mg_s s c b N K i).heap[s.heap.size + 1 + j]? = some (mg_r b K) := by
  induction i with
  | zero => exact fun j h => absurd h (Nat.not_lt_zero j)
  | succ i ih =>
    intro j hj
    have h1 := (mg_f s c b N K i).1
    show (((mg_s s c b N K i).pushCell (mg_r b K)).setCell s.heap.size _).heap[s.heap.size + 1 + j]? = _
    rw [State.heap_setCell_other (show s.heap.size ≠ s.heap.size + 1 + j by omega)]
    by_cases e : j = i
    · subst e
      rw [← h1]
      exact State.heap_pushCell_size _ _
    · have h0 : s.heap.size + 1 + j < (mg_s s c b N K i).heap.size := by omega
      rw [State.heap_pushCell_of_lt (h := h0)]
      exact ih j (by omega)
theorem mg_top (s : State) (f : JFrame) (c b : ClassId) (N K : Nat) (i : Nat) : mg_s (s.setTop f) c b N K i = (mg_s s c b N K i).setTop f := by
  induction i with
  | zero => rfl
  | succ i ih => simp only [mg_s, ih, State.heap_setTop, State.pushCell_setTop, State.setCell_setTop]
section MG
variable {E : CtlPost} {e : Env} {d : Bool} {acts : List Action} {s : State}
/-- the machine's own word for a fresh array -/
theorem mg_new {c k0 : ClassId} {k : Class} {ty : FieldType} {len : Nat} {v : Value} (hk : s.vm.classes[c]? = some k) (hkind : k.kind = .array k0 ty) (hl : ¬ len > e.platform.arrayLengthLimit) (hh : ¬ len * componentBytes ty > e.platform.maxHeapBytes) (hf : fits ty v = true) (hd : v.isDefault = true) {Q : Addr → Pre} (h1 : s.heap.size < e.platform.maxCells) (h2 : s.slotsUsed + len ≤ e.platform.maxSlots)
    (hq : Q s.heap.size d acts (s.pushCell { cls := c, slots := Array.replicate len v, vm := .none })) : wp (Jvm.newArray c len v) Q E e d acts s := by
  have g1 : ∀ i x, (Array.replicate len v)[i]? = some x → s.fitsSlot c .none i x = true := by
    intro i x hx
    simp only [Array.getElem?_replicate] at hx
    split at hx
    · cases hx
      simp [State.fitsSlot, State.slotType?, hk, hkind, hf]
    · cases hx
  have g2 : allocActs (Array.replicate len v) s.heap.size acts = acts := by
    unfold allocActs
    rw [if_pos]
    rw [Array.all_replicate]
    split <;> simp [hd]
  simp only [Jvm.newArray, Jvm.arrayFits, wp_bind', W.ask, W.ite, hl, if_false, wp_pure', W.theClass, hk, hkind, hh, W.alloc, W.stop, Option.some.injEq, exists_eq_left', Array.size_replicate, g2]
  rw [if_neg (by omega)]
  exact ⟨h1, h2, g1, hq⟩
theorem mg_make {c b b0 : ClassId} {k kb : Class} {n m : Int32} (hk : s.vm.classes[c]? = some k) (hkind : k.kind = .array b (.array .int)) (hkb : s.vm.classes[b]? = some kb) (hkindb : kb.kind = .array b0 .int) (hn : ¬ n < 0) (hm : ¬ m < 0)
    (hl1 : ¬ n.toNatClampNeg > e.platform.arrayLengthLimit) (hh1 : ¬ n.toNatClampNeg * componentBytes (.array .int) > e.platform.maxHeapBytes) (hl2 : ¬ m.toNatClampNeg > e.platform.arrayLengthLimit) (hh2 : ¬ m.toNatClampNeg * componentBytes .int > e.platform.maxHeapBytes)
    (hc : s.heap.size + 1 + n.toNatClampNeg ≤ e.platform.maxCells) (hs : s.slotsUsed + n.toNatClampNeg + n.toNatClampNeg * m.toNatClampNeg ≤ e.platform.maxSlots) {Q : Addr → Pre} (hq : ∀ d' acts', Q s.heap.size d' acts' (mg_s s c b n.toNatClampNeg m.toNatClampNeg n.toNatClampNeg)) :
    wp (multianewarray.make c [n, m]) Q E e d acts s := by
  have hfind : ([m].find? (· < 0)) = none := by simp [hm]
  rw [multianewarray.make]
  simp only [wp_bind', W.ite, hn, if_false, wp_pure', W.theClass, hk, hkind, Option.some.injEq, exists_eq_left']
  have hz := Nat.zero_le (n.toNatClampNeg * m.toNatClampNeg)
  refine mg_new hk hkind hl1 hh1 rfl rfl (by omega) (by omega) ?_
  rw [mg_o0 c n.toNatClampNeg s.heap.size]
  simp only [hfind]
  rw [ite_self, wp_bind', Std.Legacy.Range.forIn_eq_forIn_range', show ([:n.toNatClampNeg] : Std.Legacy.Range).size = n.toNatClampNeg by simp [Std.Legacy.Range.size]]
  refine wp_forIn_inv (fun todo u => ∃ i, i ≤ n.toNatClampNeg ∧ todo = List.range' i (n.toNatClampNeg - i) ∧ u = mg_s s c b n.toNatClampNeg m.toNatClampNeg i) _ _ ⟨0, Nat.zero_le _, rfl, rfl⟩ ?_ ?_
  · rintro x todo u d' acts' Q' ⟨i, hi, hl, rfl⟩ hgo
    have hlt : i < n.toNatClampNeg := by
      rcases Nat.lt_or_ge i n.toNatClampNeg with h | h
      · exact h
      · rw [show n.toNatClampNeg - i = 0 by omega] at hl
        simp at hl
    rw [show n.toNatClampNeg - i = (n.toNatClampNeg - (i + 1)) + 1 by omega, List.range'_succ] at hl
    obtain ⟨rfl, hl⟩ := List.cons.inj hl
    obtain ⟨f1, f2, f3, f4⟩ := mg_f s c b n.toNatClampNeg m.toNatClampNeg x
    have hmul := Nat.mul_le_mul_right m.toNatClampNeg (show x + 1 ≤ n.toNatClampNeg from hlt)
    rw [Nat.succ_mul] at hmul
    simp only [wp_bind']
    rw [multianewarray.make]
    simp only [wp_bind', W.ite, hm, if_false, wp_pure', W.theClass, f3, hkb, hkindb, Option.some.injEq, exists_eq_left']
    refine mg_new (by rw [f3]; exact hkb) hkindb hl2 hh2 rfl rfl (by rw [f1]; omega) (by rw [f4]; omega) ?_
    simp only [wp_bind', W.writeLoc, wp_pure']
    have h0 : s.heap.size < (mg_s s c b n.toNatClampNeg m.toNatClampNeg x).heap.size := by omega
    have h9 : (mg_o c n.toNatClampNeg s.heap.size x).vm ≠ .unknown := fun q => by cases q
    refine ⟨mg_o c n.toNatClampNeg s.heap.size x, ?_, h9, by rw [mg_sz]; exact hlt, ?_, hgo _ _ _ ⟨x + 1, hlt, hl, ?_⟩⟩
    · rw [State.heap_pushCell_of_lt (h := h0)]
      exact f2
    · show State.fitsSlot _ c .none x _ = true
      simp [State.fitsSlot, State.slotType?, f3, hk, hkind]
      rfl
    · rw [f1, mg_oS]
      show _ = (State.pushCell _ (mg_r b m.toNatClampNeg)).setCell _ _
      rw [← mg_r0]
      rfl
  · rintro u d' acts' ⟨i, hi, hl, rfl⟩
    have hi2 : i = n.toNatClampNeg := by
      rcases Nat.lt_or_ge i n.toNatClampNeg with h | h
      · rw [show n.toNatClampNeg - i = (n.toNatClampNeg - (i + 1)) + 1 by omega, List.range'_succ] at hl
        cases hl
      · omega
    subst hi2
    simp only [wp_pure']
    exact hq _ _
end MG
/-- the array class over int[] stands -/
def Gk (U : State) : Prop := ∃ (b cA : ClassId) (k : Class), U.vm.findClass (FieldType.array .int).toString = some b ∧ U.vm.classes[cA]? = some k ∧ k.kind = .array b (.array .int) ∧ U.vm.findClass ("[" ++ (FieldType.array .int).toString) = some cA
theorem Gk.moved {u U : State} (hvm : u.vm.Alike U.vm) (h : Gk u) : Gk U := by
  obtain ⟨b, cA, k, h1, h2, h3, h4⟩ := h
  obtain ⟨k2, hk2, he⟩ := hvm.2.2 _ _ h2
  exact ⟨b, cA, k2, by rw [hvm.findClass]; exact h1, hk2, by rw [he]; exact h3, by rw [hvm.findClass]; exact h4⟩
theorem mg_over {args : Array Value} {s : State} (h : (Cond.arrayOver (.array .int)).before args s = true) : Gk s := by
  simp only [Cond.before, Cond.holds, Cond.value, beq_iff_eq] at h
  cases hb : s.vm.findClass (FieldType.array .int).toString with
  | none => simp [hb] at h
  | some b =>
    simp only [hb, Option.bind_some, Option.bind_eq_some_iff, Option.map_eq_some_iff] at h
    obtain ⟨cA, h1, k, h2, h3⟩ := h
    obtain ⟨h4, h5, -⟩ := Array.findIdx?_eq_some_iff_getElem.mp h1
    rw [(Array.getElem?_eq_some_iff.mp h2).2] at h5
    cases hk : k.kind with
    | array b1 ty =>
      rw [hk] at h3 h5
      simp at h3 h5
      exact ⟨b, cA, k, hb, h2, by rw [hk, h5, h3.1], h3.2⟩
    | _ => rw [hk] at h3; simp at h3
section MW
variable {p : Program} {l : Launch} {e : Env} {R : Room} {s : State} {m : MethodId} {args : Array Value} {below : List Frame} {meth : Method} {c : Code} {H H0 : Heap} {locs : List Loc} {cells slots : Nat} {Q : State → Prop} {cc : ByteArray} {pc : Nat} {ls : Array Slot} {rest : List Value} {D : va_G} {cl : List vw_C} {A : Nat → Prop} {ws : va_W} {cI cL cG cZ : ClassId}
theorem mg_stand {T : State} (X : Stand p l e R s m args below meth c T locs cells slots) (cA b : ClassId) (N K : Nat) (i : Nat) : Stand p l e R s m args below meth c (mg_s T cA b N K i) (locs ++ (List.range i).map fun j => ⟨T.heap.size, j⟩) (cells + 1 + i) (slots + N + i * K) := by
  induction i with
  | zero =>
    have h := X.pushed (mg_o cA N T.heap.size 0)
    rw [mg_sz] at h
    simpa [mg_s] using h
  | succ i ih =>
    obtain ⟨f1, f2, -, -⟩ := mg_f T cA b N K i
    have h0 : T.heap.size < (mg_s T cA b N K i).heap.size := by omega
    have h1 : ((mg_s T cA b N K i).pushCell (mg_r b K)).heap[T.heap.size]? = some (mg_o cA N T.heap.size i) := by
      rw [State.heap_pushCell_of_lt (h := h0)]
      exact f2
    have h := (ih.pushed (mg_r b K)).stored h1 i (.ref (T.heap.size + 1 + i))
    rw [show (mg_r b K).slots.size = K from arrV_size _ _ _, mg_oS] at h
    rw [show (locs ++ (List.range (i + 1)).map fun j => (⟨T.heap.size, j⟩ : Loc)) = (locs ++ (List.range i).map fun j => (⟨T.heap.size, j⟩ : Loc)) ++ [⟨T.heap.size, i⟩] by simp [List.range_succ, List.append_assoc], show slots + N + (i + 1) * K = slots + N + i * K + K by rw [Nat.succ_mul]; omega]
    exact h
/-- new int[n][k] -/
theorem x_newG {own : String} {index : Nat} (hx : p.tables.exec = Jvm.exec) (hb : c.code = cc) (hown : s.vm.findClass own = some m.cls) (hcl : (Cond.classLink own index "[[I").before args s = true) (hov : Gk s) (harr : (Cond.arrayClass .int).before args s = true) (hK : va_K D cl [(cI, .int), (cL, .long), (cG, .array .int), (cZ, .boolean)] s) (hP : va_P D cl ws H) (hD : va_D A ws) (hS : va_S A H0 H locs) (hA : ∀ q, H0.size ≤ q → A q) {n k : Int32} {N' K' : Nat} (hn : ¬ n < 0) (hk : ¬ k < 0) (hN : n.toNatClampNeg = N') (hM : k.toNatClampNeg = K') (hb1 : N' * 4 ≤ 536870912) (hb2 : K' * 4 ≤ 536870912) (hcells : cells + (1 + N') ≤ R.cells) (hslots : slots + (N' + N' * K') ≤ R.slots) (hdg : decode cc pc = .ok (.multianewarray index 2, 4))
    (kk : ∀ (q : Nat) (H1 : Heap) (locs1 : List Loc), va_P D cl (ws ++ ((q, .inl (cG, N', .inr (.inr (.inr (.inr (fun j => some (q + 1 + j))))))) :: (List.range N').map (fun j => (q + 1 + j, .inl (cI, K', .inl (fun _ => 0)))))) H1 → va_D A (ws ++ ((q, .inl (cG, N', .inr (.inr (.inr (.inr (fun j => some (q + 1 + j))))))) :: (List.range N').map (fun j => (q + 1 + j, .inl (cI, K', .inl (fun _ => 0)))))) → va_S A H0 H1 locs1 →
      W p l e R s m args below meth c H1 locs1 (cells + 1 + N') (slots + N' + N' * K') Q (F0 m (pc + 4) ls (.ref q :: rest))) : W p l e R s m args below meth c H locs cells slots Q (F0 m pc ls (.int k :: .int n :: rest)) := by
  subst hN
  subst hM
  intro T hT X
  obtain ⟨b, cA, kA, hbn, hkA, hkindA, hnA⟩ := hov
  obtain ⟨b2, kB, b0, hbn2, hkB, hkindB⟩ := Cond.arrayClass_spec harr
  have e1 : b2 = b := Option.some.inj (hbn2.symm.trans hbn)
  subst e1
  have e2 : b2 = cI := Option.some.inj (hbn2.symm.trans (hK.2 0 _ rfl).2)
  subst e2
  have e3 : cA = cG := Option.some.inj (hnA.symm.trans (hK.2 2 _ rfl).2)
  subst e3
  have hpl : e.platform.magicAccessors = ({} : Platform).magicAccessors := by rw [X.admits.platform]
  obtain ⟨c0, hf0, hlk⟩ := Cond.classLink_spec hown hcl e.platform hpl
  have e4 : c0 = cA := Option.some.inj (hf0.symm.trans hnA)
  subst e4
  obtain ⟨hg1, hw1, -⟩ := State.classEntry (e := e) X.warmed hlk
  generalize T.vm.noted m.cls index (.cls c0) = vm1 at hg1 hw1
  obtain ⟨kA1, hkA1, heA⟩ := hw1.alike.2.2 _ _ hkA
  obtain ⟨kB1, hkB1, heB⟩ := hw1.alike.2.2 _ _ hkB
  have X1 := X.noted hw1
  have hTh : (T.setVm vm1).heap = H := hT
  obtain ⟨hr1, hr2⟩ := X.roomAbove hcells hslots
  generalize hF : mg_s (T.setVm vm1) c0 b2 n.toNatClampNeg k.toNatClampNeg n.toNatClampNeg = F
  have XF := mg_stand X1 c0 b2 n.toNatClampNeg k.toNatClampNeg n.toNatClampNeg
  rw [hF] at XF
  have f1 := mg_f (T.setVm vm1) c0 b2 n.toNatClampNeg k.toNatClampNeg n.toNatClampNeg
  rw [hF, hTh] at f1
  have fo : ∀ x : Nat, x < H.size → F.heap[x]? = H[x]? := fun x hx => by
    have := mg_old (T.setVm vm1) c0 b2 n.toNatClampNeg k.toNatClampNeg (a := x) (by rw [hTh]; exact hx) n.toNatClampNeg
    rw [hF, hTh] at this
    exact this
  have fr : ∀ j : Nat, j < n.toNatClampNeg → F.heap[H.size + 1 + j]? = some (mg_r b2 k.toNatClampNeg) := fun j hj => by
    have := mg_row (T.setVm vm1) c0 b2 n.toNatClampNeg k.toNatClampNeg n.toNatClampNeg j hj
    rw [hF, hTh] at this
    exact this
  have new : ∀ (i : Nat) (x : Nat × va_E), ((H.size, .inl (c0, n.toNatClampNeg, .inr (.inr (.inr (.inr (fun j => some (H.size + 1 + j))))))) :: (List.range n.toNatClampNeg).map (fun j => ((H.size + 1 + j, .inl (b2, k.toNatClampNeg, .inl (fun _ => 0))) : Nat × va_E)))[i]? = some x → x.1 = H.size + i ∧ va_at D cl x F.heap := by
    intro i x hx
    cases i with
    | zero =>
      cases hx
      refine ⟨rfl, ?_⟩
      show F.heap[H.size]? = some (vp_cell _ _)
      rw [f1.2.1, vp_cell_q]
      refine congrArg some ?_
      unfold mg_o arrV
      congr 1
      apply Array.ext
      · simp
      · intro j h1 h2
        have h3 : j < n.toNatClampNeg := by simpa using h1
        simp [h3]
    | succ i =>
      rw [List.getElem?_cons_succ, List.getElem?_map] at hx
      by_cases hi : i < n.toNatClampNeg
      · rw [List.getElem?_range hi] at hx
        cases hx
        refine ⟨by show H.size + 1 + i = _; omega, ?_⟩
        show F.heap[H.size + 1 + i]? = some (vp_cell _ _)
        rw [fr i hi]
        rfl
      · rw [List.getElem?_eq_none (by rw [List.length_range]; omega)] at hx
        cases hx
  have hP1 := (hP.kept (fun k9 x hx => fo x.1 ((hP k9 x hx).lt))).app (fun i x hx => (new i x hx).2)
  have hS1 : va_S A H0 F.heap (locs ++ (List.range n.toNatClampNeg).map fun j => ⟨(T.setVm vm1).heap.size, j⟩) := by
    refine ⟨by rw [f1.1]; have := hS.1; omega, fun x h1 h2 => (fo x (Nat.lt_of_lt_of_le h1 hS.1)).trans (hS.2.1 x h1 h2), fun x hx => ?_⟩
    rcases List.mem_append.mp hx with h | h
    · exact hS.2.2 x h
    · obtain ⟨j, -, rfl⟩ := List.mem_map.mp h
      exact hA _ (by rw [hTh]; exact hS.1)
  have hD1 := hD.app (w2 := (H.size, .inl (c0, n.toNatClampNeg, .inr (.inr (.inr (.inr (fun j => some (H.size + 1 + j))))))) :: (List.range n.toNatClampNeg).map (fun j => ((H.size + 1 + j, .inl (b2, k.toNatClampNeg, .inl (fun _ => 0))) : Nat × va_E))) ⟨fun i j x y hi hj hxy => by
      have h1 := (new i x hi).1
      have h2 := (new j y hj).1
      omega, fun i x hx => by
      rw [(new i x hx).1]
      exact hA _ (by have := hS.1; omega)⟩ (fun i j x y hi hj hxy => by
      have h1 := (hP i x hi).lt
      have h2 := (new j y hj).1
      omega)
  obtain ⟨t, a1, b1⟩ := kk H.size F.heap _ hP1 hD1 hS1 F rfl XF
  refine ⟨t, ?_, b1⟩
  have hl1 : ¬ n.toNatClampNeg > e.platform.arrayLengthLimit := by rw [Launch.admits_arrayLengthLimit X.admits]; omega
  have hh1 : ¬ n.toNatClampNeg * componentBytes (.array .int) > e.platform.maxHeapBytes := by
    rw [Launch.admits_maxHeapBytes X.admits]
    show ¬ n.toNatClampNeg * 4 > 536870912
    omega
  have hl2 : ¬ k.toNatClampNeg > e.platform.arrayLengthLimit := by rw [Launch.admits_arrayLengthLimit X.admits]; omega
  have hh2 : ¬ k.toNatClampNeg * componentBytes .int > e.platform.maxHeapBytes := by
    rw [Launch.admits_maxHeapBytes X.admits]
    show ¬ k.toNatClampNeg * 4 > 536870912
    omega
  jvm_step X.here [hx, hb, hdg]
  simp only [multianewarray.sem, wp_bind', W.resolveClassAt_links (State.method?_setTop (F0 m pc ls (.int k :: .int n :: rest)) X.here.top) hg1]
  rw [W.popN, if_neg (by decide)]
  refine ⟨F0 m pc ls (.int k :: .int n :: rest), State.topJava?_setTop' (s := T.setVm vm1) _ X.here.top, [.int n, .int k], rest, rfl, rfl, ?_⟩
  simp only [List.mapM_cons, List.mapM_nil, wp_bind', wp_pure']
  refine mg_make (k := kA1) (kb := kB1) (b := b2) (b0 := b0) hkA1 (by rw [heA]; exact hkindA) hkB1 (by rw [heB]; exact hkindB) hn hk hl1 hh1 hl2 hh2 (by show T.heap.size + 1 + _ ≤ _; omega) (by show T.slotsUsed + _ + _ ≤ _; omega) (fun d' acts' => ?_)
  have eS : ((T.setTop (F0 m pc ls (.int k :: .int n :: rest))).setVm vm1).setTop { F0 m pc ls (.int k :: .int n :: rest) with stack := rest } = (T.setVm vm1).setTop { F0 m pc ls (.int k :: .int n :: rest) with stack := rest } := by
    show ((T.setVm vm1).setTop _).setTop _ = _
    rw [State.setTop_setTop]
  rw [eS, mg_top, hF]
  simp only [wp_bind', W.mark, W.pushRef, State.topJava?_setTop' _ XF.here.top, Option.some.injEq, exists_eq_left', State.setTop_setTop, State.heap_setTop]
  intro acts
  simp [jvm, XF.here.top]
  rw [show T.heap.size = H.size by rw [hT]]
  exact a1
end MW

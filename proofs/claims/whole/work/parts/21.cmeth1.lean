-- LinkAudit$Members.add
theorem xg_Members_29 {p : Program} {l : Launch} {e : Env} {R : Room} {s : State} {m : MethodId} {args : Array Value} {below : List Frame} {meth : Method} {c : Code} {H : Heap} {locs : List Loc} {cells slots : Nat} {Q : State → Prop} {cc : ByteArray} {pc : Nat} {ls : Array Slot} {rest : List Value} {D : va_G} {cI cL cG cZ : ClassId} {ad : Nat → Nat} {M : Mem} (hx : p.tables.exec = Jvm.exec) (hb : c.code = cc) (hta : ∀ w ∈ ALLW, w.before args s = true) (hown : s.vm.findClass "LinkAudit$Members" = some m.cls) (hK : va_K D vwC [(cI, .int), (cL, .long), (cG, .array .int), (cZ, .boolean)] s) (hP : va_P D vwC (c_ws cI cL cG cZ ad M) H) (hdg : decode cc pc = .ok (.getfield 29, 3))
    (kk : W p l e R s m args below meth c H locs cells slots Q (F0 m (pc + 3) ls (.long (M.2 3 5) :: rest))) : W p l e R s m args below meth c H locs cells slots Q (F0 m pc ls (.ref (ad 3) :: rest)) :=
  va_get (D := D) (ci := 3) (v := .long (M.2 3 5)) (C := "LinkAudit$Members") (T := T_Members) (N := 7) hx hb hta i_Members hown hK hP 3 c_c3 rfl 5 (by decide) (hta _ wm_104) (fun _ h9 => h9) rfl hdg kk
theorem xp_Members_29 {p : Program} {l : Launch} {e : Env} {R : Room} {s : State} {m : MethodId} {args : Array Value} {below : List Frame} {meth : Method} {c : Code} {H : Heap} {locs : List Loc} {cells slots : Nat} {Q : State → Prop} {cc : ByteArray} {pc : Nat} {ls : Array Slot} {rest : List Value} {D : va_G} {cI cL cG cZ : ClassId} {ad : Nat → Nat} {M : Mem} {H0 : Heap} {M1 : Mem} {x : Int64} (hx : p.tables.exec = Jvm.exec) (hb : c.code = cc) (hta : ∀ w ∈ ALLW, w.before args s = true) (hown : s.vm.findClass "LinkAudit$Members" = some m.cls) (hK : va_K D vwC [(cI, .int), (cL, .long), (cG, .array .int), (cZ, .boolean)] s) (hP : va_P D vwC (c_ws cI cL cG cZ ad M) H) (hD : va_D (c_A ad) (c_ws cI cL cG cZ ad M)) (hS : va_S (c_A ad) H0 H locs) (eM : M1 = u2 M 3 5 x) (hdg : decode cc pc = .ok (.putfield 29, 3))
    (kk : ∀ (H1 : Heap) (locs1 : List Loc), va_P D vwC (c_ws cI cL cG cZ ad M1) H1 → va_S (c_A ad) H0 H1 locs1 → W p l e R s m args below meth c H1 locs1 cells slots Q (F0 m (pc + 3) ls rest)) : W p l e R s m args below meth c H locs cells slots Q (F0 m pc ls (.long x :: .ref (ad 3) :: rest)) := by
  refine va_put (D := D) (ci := 3) (v := .long x) (ty := .long) (C := "LinkAudit$Members") (T := T_Members) (N := 7) hx hb hta i_Members t_Members t_Members_ok n_Members hown hK hP hD hS 3 c_c3 rfl 5 (by decide) (hta _ wm_104) (fun _ h9 => h9) rfl (by decide +kernel) rfl rfl (Nat.le_of_ble_eq_true rfl) hdg (fun H1 locs1 h1 _ h3 => kk H1 locs1 ?_ h3)
  rw [eM]
  exact h1
theorem xp_Members_32 {p : Program} {l : Launch} {e : Env} {R : Room} {s : State} {m : MethodId} {args : Array Value} {below : List Frame} {meth : Method} {c : Code} {H : Heap} {locs : List Loc} {cells slots : Nat} {Q : State → Prop} {cc : ByteArray} {pc : Nat} {ls : Array Slot} {rest : List Value} {D : va_G} {cI cL cG cZ : ClassId} {ad : Nat → Nat} {M : Mem} {H0 : Heap} {M1 : Mem} {x : Int32} (hx : p.tables.exec = Jvm.exec) (hb : c.code = cc) (hta : ∀ w ∈ ALLW, w.before args s = true) (hown : s.vm.findClass "LinkAudit$Members" = some m.cls) (hK : va_K D vwC [(cI, .int), (cL, .long), (cG, .array .int), (cZ, .boolean)] s) (hP : va_P D vwC (c_ws cI cL cG cZ ad M) H) (hD : va_D (c_A ad) (c_ws cI cL cG cZ ad M)) (hS : va_S (c_A ad) H0 H locs) (eM : M1 = u1 M 3 6 x) (hdg : decode cc pc = .ok (.putfield 32, 3))
    (kk : ∀ (H1 : Heap) (locs1 : List Loc), va_P D vwC (c_ws cI cL cG cZ ad M1) H1 → va_S (c_A ad) H0 H1 locs1 → W p l e R s m args below meth c H1 locs1 cells slots Q (F0 m (pc + 3) ls rest)) : W p l e R s m args below meth c H locs cells slots Q (F0 m pc ls (.int x :: .ref (ad 3) :: rest)) := by
  refine va_put (D := D) (ci := 3) (v := .int x) (ty := .int) (C := "LinkAudit$Members") (T := T_Members) (N := 7) hx hb hta i_Members t_Members t_Members_ok n_Members hown hK hP hD hS 3 c_c3 rfl 6 (by decide) (hta _ wm_107) (fun _ h9 => h9) rfl (by decide +kernel) rfl rfl (Nat.le_of_ble_eq_true rfl) hdg (fun H1 locs1 h1 _ h3 => kk H1 locs1 ?_ h3)
  rw [eM]
  exact h1
theorem xg_Members_9 {p : Program} {l : Launch} {e : Env} {R : Room} {s : State} {m : MethodId} {args : Array Value} {below : List Frame} {meth : Method} {c : Code} {H : Heap} {locs : List Loc} {cells slots : Nat} {Q : State → Prop} {cc : ByteArray} {pc : Nat} {ls : Array Slot} {rest : List Value} {D : va_G} {cI cL cG cZ : ClassId} {ad : Nat → Nat} {M : Mem} (hx : p.tables.exec = Jvm.exec) (hb : c.code = cc) (hta : ∀ w ∈ ALLW, w.before args s = true) (hown : s.vm.findClass "LinkAudit$Members" = some m.cls) (hK : va_K D vwC [(cI, .int), (cL, .long), (cG, .array .int), (cZ, .boolean)] s) (hP : va_P D vwC (c_ws cI cL cG cZ ad M) H) (hdg : decode cc pc = .ok (.getfield 9, 3))
    (kk : W p l e R s m args below meth c H locs cells slots Q (F0 m (pc + 3) ls (.ref (ad 29) :: rest))) : W p l e R s m args below meth c H locs cells slots Q (F0 m pc ls (.ref (ad 3) :: rest)) :=
  va_get (D := D) (ci := 3) (v := .ref (ad 29)) (C := "LinkAudit$Members") (T := T_Members) (N := 7) hx hb hta i_Members hown hK hP 3 c_c3 rfl 0 (by decide) (hta _ wm_88) (fun _ h9 => h9) rfl hdg kk
theorem xg_Members_21 {p : Program} {l : Launch} {e : Env} {R : Room} {s : State} {m : MethodId} {args : Array Value} {below : List Frame} {meth : Method} {c : Code} {H : Heap} {locs : List Loc} {cells slots : Nat} {Q : State → Prop} {cc : ByteArray} {pc : Nat} {ls : Array Slot} {rest : List Value} {D : va_G} {cI cL cG cZ : ClassId} {ad : Nat → Nat} {M : Mem} (hx : p.tables.exec = Jvm.exec) (hb : c.code = cc) (hta : ∀ w ∈ ALLW, w.before args s = true) (hown : s.vm.findClass "LinkAudit$Members" = some m.cls) (hK : va_K D vwC [(cI, .int), (cL, .long), (cG, .array .int), (cZ, .boolean)] s) (hP : va_P D vwC (c_ws cI cL cG cZ ad M) H) (hdg : decode cc pc = .ok (.getfield 21, 3))
    (kk : W p l e R s m args below meth c H locs cells slots Q (F0 m (pc + 3) ls (.ref (ad 32) :: rest))) : W p l e R s m args below meth c H locs cells slots Q (F0 m pc ls (.ref (ad 3) :: rest)) :=
  va_get (D := D) (ci := 3) (v := .ref (ad 32)) (C := "LinkAudit$Members") (T := T_Members) (N := 7) hx hb hta i_Members hown hK hP 3 c_c3 rfl 3 (by decide) (hta _ wm_96) (fun _ h9 => h9) rfl hdg kk
theorem xvc_Members_36 {p : Program} {l : Launch} {e : Env} {R : Room} {s : State} {m : MethodId} {args : Array Value} {below : List Frame} {meth : Method} {c : Code} {H : Heap} {locs : List Loc} {cells slots : Nat} {Q : State → Prop} {cc : ByteArray} {pc : Nat} {ls : Array Slot} {rest : List Value} {D : va_G} {cI cL cG cZ : ClassId} {ad : Nat → Nat} {M : Mem} {H0 : Heap} {nL : Nat} {a0 : Int32} {r : Int32} (X : CallFix p m c cc nL s args ALLW "LinkAudit$Members") (hkk : Kk D cI cL cG cZ s) (hD : ∀ M, va_D (c_A ad) (c_ws cI cL cG cZ ad M)) (hrest : (rest.map fun v => v.category).sum ≤ 8) (hR : 0 + 1 ≤ R.frames ∧ 8 + (2 + 11) + 0 ≤ R.locals) (hcs : cells + 0 ≤ R.cells ∧ slots + 0 ≤ R.slots) (hc : f_Members_isMethod M a0 = some r) (hsz : ls.size = nL) (hP : va_P D vwC (c_ws cI cL cG cZ ad M) H) (hS : va_S (c_A ad) H0 H locs) (hdg : decode cc pc = .ok (.invokevirtual 36, 3))
    (kk : ∀ (H1 : Heap) (locs1 : List Loc), va_P D vwC (c_ws cI cL cG cZ ad M) H1 → va_S (c_A ad) H0 H1 locs1 → W p l e R s m args below meth c H1 locs1 cells slots Q (F0 m (pc + 3) ls (.int r :: rest))) : W p l e R s m args below meth c H locs cells slots Q (F0 m pc ls (.int a0 :: .ref (ad 3) :: rest)) := by
  have hta := X.2.2.2.2
  exact x_afterI (va_runV (As := [.int a0]) (rest := rest) X (c_Members_isMethod hD hc) ⟨callB_of 1 hta (good_all (L := .code y_Members_isMethod prog_7_method_5_code 2 (some .boolean) :: ALLW) (List.forall_mem_cons.mpr ⟨wm_393, fun _ h => h⟩)) rfl rfl rfl (hta _ wm_4) (hta _ wm_390) (by decide +kernel) hR, hta _ wm_391, hta _ wm_392⟩ ⟨x_blind Kk_w _, va_recv hkk.1 hP (ci := 3) (q0 := 3) rfl c_c3, x_pre Kk_w hkk hP _⟩ rfl rfl hsz rfl (lv_room hrest) hdg hcs) hS kk
theorem xvc_Members_40 {p : Program} {l : Launch} {e : Env} {R : Room} {s : State} {m : MethodId} {args : Array Value} {below : List Frame} {meth : Method} {c : Code} {H : Heap} {locs : List Loc} {cells slots : Nat} {Q : State → Prop} {cc : ByteArray} {pc : Nat} {ls : Array Slot} {rest : List Value} {D : va_G} {cI cL cG cZ : ClassId} {ad : Nat → Nat} {M : Mem} {H0 : Heap} {nL : Nat} {a0 : Int32} {r : Int32} (X : CallFix p m c cc nL s args ALLW "LinkAudit$Members") (hkk : Kk D cI cL cG cZ s) (hD : ∀ M, va_D (c_A ad) (c_ws cI cL cG cZ ad M)) (hrest : (rest.map fun v => v.category).sum ≤ 8) (hR : 0 + 1 ≤ R.frames ∧ 8 + (2 + 11) + 0 ≤ R.locals) (hcs : cells + 0 ≤ R.cells ∧ slots + 0 ≤ R.slots) (hc : f_Members_isStatic M a0 = some r) (hsz : ls.size = nL) (hP : va_P D vwC (c_ws cI cL cG cZ ad M) H) (hS : va_S (c_A ad) H0 H locs) (hdg : decode cc pc = .ok (.invokevirtual 40, 3))
    (kk : ∀ (H1 : Heap) (locs1 : List Loc), va_P D vwC (c_ws cI cL cG cZ ad M) H1 → va_S (c_A ad) H0 H1 locs1 → W p l e R s m args below meth c H1 locs1 cells slots Q (F0 m (pc + 3) ls (.int r :: rest))) : W p l e R s m args below meth c H locs cells slots Q (F0 m pc ls (.int a0 :: .ref (ad 3) :: rest)) := by
  have hta := X.2.2.2.2
  exact x_afterI (va_runV (As := [.int a0]) (rest := rest) X (c_Members_isStatic hD hc) ⟨callB_of 1 hta (good_all (L := .code y_Members_isStatic prog_7_method_9_code 2 (some .boolean) :: ALLW) (List.forall_mem_cons.mpr ⟨wm_397, fun _ h => h⟩)) rfl rfl rfl (hta _ wm_4) (hta _ wm_394) (by decide +kernel) hR, hta _ wm_395, hta _ wm_396⟩ ⟨x_blind Kk_w _, va_recv hkk.1 hP (ci := 3) (q0 := 3) rfl c_c3, x_pre Kk_w hkk hP _⟩ rfl rfl hsz rfl (lv_room hrest) hdg hcs) hS kk
theorem xvc_Members_43 {p : Program} {l : Launch} {e : Env} {R : Room} {s : State} {m : MethodId} {args : Array Value} {below : List Frame} {meth : Method} {c : Code} {H : Heap} {locs : List Loc} {cells slots : Nat} {Q : State → Prop} {cc : ByteArray} {pc : Nat} {ls : Array Slot} {rest : List Value} {D : va_G} {cI cL cG cZ : ClassId} {ad : Nat → Nat} {M : Mem} {H0 : Heap} {nL : Nat} {a0 : Int32} {r : Int32} (X : CallFix p m c cc nL s args ALLW "LinkAudit$Members") (hkk : Kk D cI cL cG cZ s) (hD : ∀ M, va_D (c_A ad) (c_ws cI cL cG cZ ad M)) (hrest : (rest.map fun v => v.category).sum ≤ 8) (hR : 0 + 1 ≤ R.frames ∧ 8 + (2 + 11) + 0 ≤ R.locals) (hcs : cells + 0 ≤ R.cells ∧ slots + 0 ≤ R.slots) (hc : f_Members_access M a0 = some r) (hsz : ls.size = nL) (hP : va_P D vwC (c_ws cI cL cG cZ ad M) H) (hS : va_S (c_A ad) H0 H locs) (hdg : decode cc pc = .ok (.invokevirtual 43, 3))
    (kk : ∀ (H1 : Heap) (locs1 : List Loc), va_P D vwC (c_ws cI cL cG cZ ad M) H1 → va_S (c_A ad) H0 H1 locs1 → W p l e R s m args below meth c H1 locs1 cells slots Q (F0 m (pc + 3) ls (.int r :: rest))) : W p l e R s m args below meth c H locs cells slots Q (F0 m pc ls (.int a0 :: .ref (ad 3) :: rest)) := by
  have hta := X.2.2.2.2
  exact x_afterI (va_runV (As := [.int a0]) (rest := rest) X (c_Members_access hD hc) ⟨callB_of 1 hta (good_all (L := .code y_Members_access prog_7_method_8_code 2 (some .int) :: ALLW) (List.forall_mem_cons.mpr ⟨wm_401, fun _ h => h⟩)) rfl rfl rfl (hta _ wm_4) (hta _ wm_398) (by decide +kernel) hR, hta _ wm_399, hta _ wm_400⟩ ⟨x_blind Kk_w _, va_recv hkk.1 hP (ci := 3) (q0 := 3) rfl c_c3, x_pre Kk_w hkk hP _⟩ rfl rfl hsz rfl (lv_room hrest) hdg hcs) hS kk
theorem xg_Members_25 {p : Program} {l : Launch} {e : Env} {R : Room} {s : State} {m : MethodId} {args : Array Value} {below : List Frame} {meth : Method} {c : Code} {H : Heap} {locs : List Loc} {cells slots : Nat} {Q : State → Prop} {cc : ByteArray} {pc : Nat} {ls : Array Slot} {rest : List Value} {D : va_G} {cI cL cG cZ : ClassId} {ad : Nat → Nat} {M : Mem} (hx : p.tables.exec = Jvm.exec) (hb : c.code = cc) (hta : ∀ w ∈ ALLW, w.before args s = true) (hown : s.vm.findClass "LinkAudit$Members" = some m.cls) (hK : va_K D vwC [(cI, .int), (cL, .long), (cG, .array .int), (cZ, .boolean)] s) (hP : va_P D vwC (c_ws cI cL cG cZ ad M) H) (hdg : decode cc pc = .ok (.getfield 25, 3))
    (kk : W p l e R s m args below meth c H locs cells slots Q (F0 m (pc + 3) ls (.long (M.2 3 4) :: rest))) : W p l e R s m args below meth c H locs cells slots Q (F0 m pc ls (.ref (ad 3) :: rest)) :=
  va_get (D := D) (ci := 3) (v := .long (M.2 3 4)) (C := "LinkAudit$Members") (T := T_Members) (N := 7) hx hb hta i_Members hown hK hP 3 c_c3 rfl 4 (by decide) (hta _ wm_101) (fun _ h9 => h9) rfl hdg kk
theorem xp_Members_25 {p : Program} {l : Launch} {e : Env} {R : Room} {s : State} {m : MethodId} {args : Array Value} {below : List Frame} {meth : Method} {c : Code} {H : Heap} {locs : List Loc} {cells slots : Nat} {Q : State → Prop} {cc : ByteArray} {pc : Nat} {ls : Array Slot} {rest : List Value} {D : va_G} {cI cL cG cZ : ClassId} {ad : Nat → Nat} {M : Mem} {H0 : Heap} {M1 : Mem} {x : Int64} (hx : p.tables.exec = Jvm.exec) (hb : c.code = cc) (hta : ∀ w ∈ ALLW, w.before args s = true) (hown : s.vm.findClass "LinkAudit$Members" = some m.cls) (hK : va_K D vwC [(cI, .int), (cL, .long), (cG, .array .int), (cZ, .boolean)] s) (hP : va_P D vwC (c_ws cI cL cG cZ ad M) H) (hD : va_D (c_A ad) (c_ws cI cL cG cZ ad M)) (hS : va_S (c_A ad) H0 H locs) (eM : M1 = u2 M 3 4 x) (hdg : decode cc pc = .ok (.putfield 25, 3))
    (kk : ∀ (H1 : Heap) (locs1 : List Loc), va_P D vwC (c_ws cI cL cG cZ ad M1) H1 → va_S (c_A ad) H0 H1 locs1 → W p l e R s m args below meth c H1 locs1 cells slots Q (F0 m (pc + 3) ls rest)) : W p l e R s m args below meth c H locs cells slots Q (F0 m pc ls (.long x :: .ref (ad 3) :: rest)) := by
  refine va_put (D := D) (ci := 3) (v := .long x) (ty := .long) (C := "LinkAudit$Members") (T := T_Members) (N := 7) hx hb hta i_Members t_Members t_Members_ok n_Members hown hK hP hD hS 3 c_c3 rfl 4 (by decide) (hta _ wm_101) (fun _ h9 => h9) rfl (by decide +kernel) rfl rfl (Nat.le_of_ble_eq_true rfl) hdg (fun H1 locs1 h1 _ h3 => kk H1 locs1 ?_ h3)
  rw [eM]
  exact h1
set_option maxHeartbeats 4000000 in
set_option maxRecDepth 100000 in
theorem c_Members_add {l : Launch} {D : va_G} {cI cL cG cZ : ClassId} {ad : Nat → Nat} {M M' : Mem} {a1 : Int32} {a2 : Int32} {a3 : Int32} {r : Int32} (hD : ∀ M, va_D (c_A ad) (c_ws cI cL cG cZ ad M)) (hf : f_Members_add M a1 a2 a3 = some (r, M')) : Mi l y_Members_add (.code y_Members_add prog_7_method_4_code 6 (some .int) :: ALLW) (rmR 1 21) (Kk D cI cL cG cZ) D vwC (c_A ad) (c_ws cI cL cG cZ ad) [.ref (ad 3), .int a1, .int a2, .int a3] M M' r := by
  refine Mi_of (by decide) (Nat.le_of_ble_eq_true rfl) ?_
  intro p e s m args below meth c ls Q X hkk hret hP hl
  obtain ⟨hx, hb, hml, hown, hta⟩ := id X
  have hKv := hkk.1
  have hS : va_S (c_A ad) s.heap s.heap [] := va_S.rf
  have hl : lv_has ls 6 [(0, .ref (ad 3)), (1, .int a1), (2, .int a2), (3, .int a3)] := hl
  have b122 : ∀ (M : Mem) (H : Heap) (locs : List Loc) (ls : Array Slot), f_Members_add_b122 M = some (r, M') → va_P D vwC (c_ws cI cL cG cZ ad M) H → va_S (c_A ad) s.heap H locs → lv_has ls 6 [(0, .ref (ad 3))] → W p l e (rmR 1 21) s m args below meth c H locs 0 0 Q (F0 m 122 ls []) := by
    intro M  H locs ls hf hP hS hl
    unfold f_Members_add_b122 at hf
    refine lv_aload_n hx hb d_Members_add_122 rfl (lv_at hl 0 rfl) ?_
    refine xg_Members_32 hx hb hta hown hKv hP d_Members_add_123 ?_
    exact hret hf hP hS d_Members_add_126
  have b104 : ∀ (M : Mem) (x3 : Int32) (x4 : Int64) (H : Heap) (locs : List Loc) (ls : Array Slot), f_Members_add_b104 M x3 x4 = some (r, M') → va_P D vwC (c_ws cI cL cG cZ ad M) H → va_S (c_A ad) s.heap H locs → lv_has ls 6 [(0, .ref (ad 3)), (3, .int x3), (4, .long x4)] → W p l e (rmR 1 21) s m args below meth c H locs 0 0 Q (F0 m 104 ls []) := by
    intro M x3 x4 H locs ls hf hP hS hl
    unfold f_Members_add_b104 at hf
    refine lv_iload_n hx hb d_Members_add_104 rfl (lv_at hl 1 rfl) ?_
    refine lv_bipush (v := (8 : Int32)) hx hb d_Members_add_105 (by decide) ?_
    refine lv_iand hx hb d_Members_add_107 ?_
    refine lv_if_eq (tgt := 122) hx hb d_Members_add_108 (by decide) (fun c1 => ?_) (fun c1 => ?_)
    · have hf := ifp c1 hf
      exact b122 M _ _ _ hf hP hS (lv_sub hl [0] rfl)
    · have hf := ifn c1 hf
      refine lv_aload_n hx hb d_Members_add_111 rfl (lv_at hl 0 rfl) ?_
      refine lv_dup hx hb d_Members_add_112 rfl ?_
      refine xg_Members_29 hx hb hta hown hKv hP d_Members_add_113 ?_
      refine lv_lload hx hb d_Members_add_116 (lv_at hl 2 rfl) ?_
      refine lv_lor hx hb d_Members_add_118 ?_
      obtain ⟨M11, eM11, hf⟩ := sm_e hf
      refine xp_Members_29 hx hb hta hown hKv hP (hD _) hS eM11 d_Members_add_119 (fun H locs hP hS => ?_)
      exact b122 M11 _ _ _ hf hP hS (lv_sub hl [0] rfl)
  unfold f_Members_add at hf
  refine lv_aload_n hx hb d_Members_add_0 rfl (lv_at hl 0 rfl) ?_
  refine lv_dup hx hb d_Members_add_1 rfl ?_
  refine xg_Members_32 hx hb hta hown hKv hP d_Members_add_2 ?_
  refine lv_iconst (v := (1 : Int32)) hx hb d_Members_add_5 (by decide) ?_
  refine lv_iadd hx hb d_Members_add_6 ?_
  obtain ⟨M12, eM12, hf⟩ := sm_e hf
  refine xp_Members_32 hx hb hta hown hKv hP (hD _) hS eM12 d_Members_add_7 (fun H locs hP hS => ?_)
  refine lv_aload_n hx hb d_Members_add_10 rfl (lv_at hl 0 rfl) ?_
  refine xg_Members_9 hx hb hta hown hKv hP d_Members_add_11 ?_
  refine lv_aload_n hx hb d_Members_add_14 rfl (lv_at hl 0 rfl) ?_
  refine xg_Members_32 hx hb hta hown hKv hP d_Members_add_15 ?_
  refine lv_iload_n hx hb d_Members_add_18 rfl (lv_at hl 1 rfl) ?_
  obtain ⟨g2, hf⟩ := gd_ok hf
  obtain ⟨M13, eM13, hf⟩ := sm_e hf
  refine x_ist hx hb hKv hP (hD _) hS c_c29 c_s29 g2 eM13 d_Members_add_19 (fun H locs hP hS => ?_)
  refine lv_aload_n hx hb d_Members_add_20 rfl (lv_at hl 0 rfl) ?_
  refine xg_Members_15 hx hb hta hown hKv hP d_Members_add_21 ?_
  refine lv_aload_n hx hb d_Members_add_24 rfl (lv_at hl 0 rfl) ?_
  refine xg_Members_32 hx hb hta hown hKv hP d_Members_add_25 ?_
  refine lv_iload_n hx hb d_Members_add_28 rfl (lv_at hl 2 rfl) ?_
  obtain ⟨g3, hf⟩ := gd_ok hf
  obtain ⟨M14, eM14, hf⟩ := sm_e hf
  refine x_ist hx hb hKv hP (hD _) hS c_c30 c_s30 g3 eM14 d_Members_add_29 (fun H locs hP hS => ?_)
  refine lv_aload_n hx hb d_Members_add_30 rfl (lv_at hl 0 rfl) ?_
  refine xg_Members_18 hx hb hta hown hKv hP d_Members_add_31 ?_
  refine lv_aload_n hx hb d_Members_add_34 rfl (lv_at hl 0 rfl) ?_
  refine xg_Members_32 hx hb hta hown hKv hP d_Members_add_35 ?_
  refine lv_iload_n hx hb d_Members_add_38 rfl (lv_at hl 3 rfl) ?_
  obtain ⟨g4, hf⟩ := gd_ok hf
  obtain ⟨M15, eM15, hf⟩ := sm_e hf
  refine x_ist hx hb hKv hP (hD _) hS c_c31 c_s31 g4 eM15 d_Members_add_39 (fun H locs hP hS => ?_)
  refine lv_lconst (v := (1 : Int64)) hx hb d_Members_add_40 (by decide) ?_
  refine lv_aload_n hx hb d_Members_add_41 rfl (lv_at hl 0 rfl) ?_
  refine xg_Members_32 hx hb hta hown hKv hP d_Members_add_42 ?_
  refine lv_lshl hx hb d_Members_add_45 rfl ?_
  refine lv_lstore (lv' := [(4, .long (((1 : Int64) <<< ((M15.1 3 6).toInt64 &&& 63)))), (0, .ref (ad 3)), (1, .int a1), (2, .int a2), (3, .int a3)]) hx hb d_Members_add_46 hl (by decide) rfl (fun ls hl => ?_)
  refine lv_aload_n hx hb d_Members_add_48 rfl (lv_at hl 1 rfl) ?_
  refine xg_Members_21 hx hb hta hown hKv hP d_Members_add_49 ?_
  refine lv_iload_n hx hb d_Members_add_52 rfl (lv_at hl 2 rfl) ?_
  refine lv_dup2_11 hx hb d_Members_add_53 rfl rfl ?_
  obtain ⟨g5, hf⟩ := gd_ok hf
  refine x_lld hx hb hKv hP c_c32 g5 d_Members_add_54 ?_
  refine lv_lload hx hb d_Members_add_55 (lv_at hl 0 rfl) ?_
  refine lv_lor hx hb d_Members_add_57 ?_
  obtain ⟨g6, hf⟩ := gd_ok hf
  obtain ⟨M16, eM16, hf⟩ := sm_e hf
  refine x_lst hx hb hKv hP (hD _) hS c_c32 c_s32 g6 eM16 d_Members_add_58 (fun H locs hP hS => ?_)
  refine lv_aload_n hx hb d_Members_add_59 rfl (lv_at hl 1 rfl) ?_
  refine lv_aload_n hx hb d_Members_add_60 rfl (lv_at hl 1 rfl) ?_
  refine xg_Members_32 hx hb hta hown hKv hP d_Members_add_61 ?_
  obtain ⟨r17, hc7, hf⟩ := bd1_e hf
  refine xvc_Members_36 X hkk hD (Nat.le_of_ble_eq_true rfl) ⟨by dsimp only [rmR]; omega, by dsimp only [rmR]; omega⟩ ⟨Nat.zero_le _, Nat.zero_le _⟩ hc7 hl.1 hP hS d_Members_add_64 (fun H locs hP hS => ?_)
  refine lv_if_eq (tgt := 104) hx hb d_Members_add_67 (by decide) (fun c8 => ?_) (fun c8 => ?_)
  · have hf := ifp c8 hf
    exact b104 M16 a3 ((1 : Int64) <<< ((M15.1 3 6).toInt64 &&& 63)) _ _ _ hf hP hS (lv_sub hl [1, 4, 0] rfl)
  · have hf := ifn c8 hf
    refine lv_aload_n hx hb d_Members_add_70 rfl (lv_at hl 1 rfl) ?_
    refine lv_aload_n hx hb d_Members_add_71 rfl (lv_at hl 1 rfl) ?_
    refine xg_Members_32 hx hb hta hown hKv hP d_Members_add_72 ?_
    obtain ⟨r18, hc9, hf⟩ := bd1_e hf
    refine xvc_Members_40 X hkk hD (Nat.le_of_ble_eq_true rfl) ⟨by dsimp only [rmR]; omega, by dsimp only [rmR]; omega⟩ ⟨Nat.zero_le _, Nat.zero_le _⟩ hc9 hl.1 hP hS d_Members_add_75 (fun H locs hP hS => ?_)
    refine lv_if_ne (tgt := 104) hx hb d_Members_add_78 (by decide) (fun c10 => ?_) (fun c10 => ?_)
    · have hf := ifn c10 hf
      exact b104 M16 a3 ((1 : Int64) <<< ((M15.1 3 6).toInt64 &&& 63)) _ _ _ hf hP hS (lv_sub hl [1, 4, 0] rfl)
    · have hf := ifp c10 hf
      refine lv_aload_n hx hb d_Members_add_81 rfl (lv_at hl 1 rfl) ?_
      refine lv_aload_n hx hb d_Members_add_82 rfl (lv_at hl 1 rfl) ?_
      refine xg_Members_32 hx hb hta hown hKv hP d_Members_add_83 ?_
      obtain ⟨r19, hc11, hf⟩ := bd1_e hf
      refine xvc_Members_43 X hkk hD (Nat.le_of_ble_eq_true rfl) ⟨by dsimp only [rmR]; omega, by dsimp only [rmR]; omega⟩ ⟨Nat.zero_le _, Nat.zero_le _⟩ hc11 hl.1 hP hS d_Members_add_86 (fun H locs hP hS => ?_)
      refine lv_iconst (v := (3 : Int32)) hx hb d_Members_add_89 (by decide) ?_
      refine lv_icmp_eq (tgt := 104) hx hb d_Members_add_90 (by decide) (fun c12 => ?_) (fun c12 => ?_)
      · have hf := ifp c12 hf
        exact b104 M16 a3 ((1 : Int64) <<< ((M15.1 3 6).toInt64 &&& 63)) _ _ _ hf hP hS (lv_sub hl [1, 4, 0] rfl)
      · have hf := ifn c12 hf
        refine lv_aload_n hx hb d_Members_add_93 rfl (lv_at hl 1 rfl) ?_
        refine lv_dup hx hb d_Members_add_94 rfl ?_
        refine xg_Members_25 hx hb hta hown hKv hP d_Members_add_95 ?_
        refine lv_lload hx hb d_Members_add_98 (lv_at hl 0 rfl) ?_
        refine lv_lor hx hb d_Members_add_100 ?_
        obtain ⟨M20, eM20, hf⟩ := sm_e hf
        refine xp_Members_25 hx hb hta hown hKv hP (hD _) hS eM20 d_Members_add_101 (fun H locs hP hS => ?_)
        exact b104 M20 a3 ((1 : Int64) <<< ((M15.1 3 6).toInt64 &&& 63)) _ _ _ hf hP hS (lv_sub hl [1, 4, 0] rfl)
-- LinkAudit.addMember
theorem xg_LinkAudit_26 {p : Program} {l : Launch} {e : Env} {R : Room} {s : State} {m : MethodId} {args : Array Value} {below : List Frame} {meth : Method} {c : Code} {H : Heap} {locs : List Loc} {cells slots : Nat} {Q : State → Prop} {cc : ByteArray} {pc : Nat} {ls : Array Slot} {rest : List Value} {D : va_G} {cI cL cG cZ : ClassId} {ad : Nat → Nat} {M : Mem} (hx : p.tables.exec = Jvm.exec) (hb : c.code = cc) (hta : ∀ w ∈ ALLW, w.before args s = true) (hown : s.vm.findClass "LinkAudit" = some m.cls) (hK : va_K D vwC [(cI, .int), (cL, .long), (cG, .array .int), (cZ, .boolean)] s) (hP : va_P D vwC (c_ws cI cL cG cZ ad M) H) (hdg : decode cc pc = .ok (.getfield 26, 3))
    (kk : W p l e R s m args below meth c H locs cells slots Q (F0 m (pc + 3) ls (.ref (ad 3) :: rest))) : W p l e R s m args below meth c H locs cells slots Q (F0 m pc ls (.ref (ad 0) :: rest)) :=
  va_get (D := D) (ci := 0) (v := .ref (ad 3)) (C := "LinkAudit") (T := T_LinkAudit) (N := 10) hx hb hta i_LinkAudit hown hK hP 0 c_c0 rfl 2 (by decide) (hta _ wm_300) (fun _ h9 => h9) rfl hdg kk
theorem xvc_LinkAudit_194 {p : Program} {l : Launch} {e : Env} {R : Room} {s : State} {m : MethodId} {args : Array Value} {below : List Frame} {meth : Method} {c : Code} {H : Heap} {locs : List Loc} {cells slots : Nat} {Q : State → Prop} {cc : ByteArray} {pc : Nat} {ls : Array Slot} {rest : List Value} {D : va_G} {cI cL cG cZ : ClassId} {ad : Nat → Nat} {M : Mem} {H0 : Heap} {nL : Nat} {a0 : Int32} {r : Int64} (X : CallFix p m c cc nL s args ALLW "LinkAudit") (hkk : Kk D cI cL cG cZ s) (hD : ∀ M, va_D (c_A ad) (c_ws cI cL cG cZ ad M)) (hrest : (rest.map fun v => v.category).sum ≤ 8) (hR : 0 + 1 ≤ R.frames ∧ 8 + (5 + 11) + 0 ≤ R.locals) (hcs : cells + 0 ≤ R.cells ∧ slots + 0 ≤ R.slots) (hc : f_Members_withSignature M a0 = some r) (hsz : ls.size = nL) (hP : va_P D vwC (c_ws cI cL cG cZ ad M) H) (hS : va_S (c_A ad) H0 H locs) (hdg : decode cc pc = .ok (.invokevirtual 194, 3))
    (kk : ∀ (H1 : Heap) (locs1 : List Loc), va_P D vwC (c_ws cI cL cG cZ ad M) H1 → va_S (c_A ad) H0 H1 locs1 → W p l e R s m args below meth c H1 locs1 cells slots Q (F0 m (pc + 3) ls (.long r :: rest))) : W p l e R s m args below meth c H locs cells slots Q (F0 m pc ls (.int a0 :: .ref (ad 3) :: rest)) := by
  have hta := X.2.2.2.2
  exact x_afterL (va_runV (As := [.int a0]) (rest := rest) X (c_Members_withSignature hD hc) ⟨callB_of 1 hta (good_all (L := .code y_Members_withSignature prog_7_method_10_code 5 (some .long) :: ALLW) (List.forall_mem_cons.mpr ⟨wm_385, fun _ h => h⟩)) rfl rfl rfl (hta _ wm_4) (hta _ wm_382) (by decide +kernel) hR, hta _ wm_383, hta _ wm_384⟩ ⟨x_blind Kk_w _, va_recv hkk.1 hP (ci := 3) (q0 := 3) rfl c_c3, x_pre Kk_w hkk hP _⟩ rfl rfl hsz rfl (lv_room hrest) hdg hcs) hS kk
theorem xg_LinkAudit_198 {p : Program} {l : Launch} {e : Env} {R : Room} {s : State} {m : MethodId} {args : Array Value} {below : List Frame} {meth : Method} {c : Code} {H : Heap} {locs : List Loc} {cells slots : Nat} {Q : State → Prop} {cc : ByteArray} {pc : Nat} {ls : Array Slot} {rest : List Value} {D : va_G} {cI cL cG cZ : ClassId} {ad : Nat → Nat} {M : Mem} (hx : p.tables.exec = Jvm.exec) (hb : c.code = cc) (hta : ∀ w ∈ ALLW, w.before args s = true) (hown : s.vm.findClass "LinkAudit" = some m.cls) (hK : va_K D vwC [(cI, .int), (cL, .long), (cG, .array .int), (cZ, .boolean)] s) (hP : va_P D vwC (c_ws cI cL cG cZ ad M) H) (hdg : decode cc pc = .ok (.getfield 198, 3))
    (kk : W p l e R s m args below meth c H locs cells slots Q (F0 m (pc + 3) ls (.ref (ad 32) :: rest))) : W p l e R s m args below meth c H locs cells slots Q (F0 m pc ls (.ref (ad 3) :: rest)) :=
  va_get (D := D) (ci := 3) (v := .ref (ad 32)) (C := "LinkAudit$Members") (T := T_Members) (N := 7) hx hb hta i_Members hown hK hP 3 c_c3 rfl 3 (by decide) (hta _ wm_100) (fun _ h9 => h9) rfl hdg kk
theorem xg_LinkAudit_186 {p : Program} {l : Launch} {e : Env} {R : Room} {s : State} {m : MethodId} {args : Array Value} {below : List Frame} {meth : Method} {c : Code} {H : Heap} {locs : List Loc} {cells slots : Nat} {Q : State → Prop} {cc : ByteArray} {pc : Nat} {ls : Array Slot} {rest : List Value} {D : va_G} {cI cL cG cZ : ClassId} {ad : Nat → Nat} {M : Mem} (hx : p.tables.exec = Jvm.exec) (hb : c.code = cc) (hta : ∀ w ∈ ALLW, w.before args s = true) (hown : s.vm.findClass "LinkAudit" = some m.cls) (hK : va_K D vwC [(cI, .int), (cL, .long), (cG, .array .int), (cZ, .boolean)] s) (hP : va_P D vwC (c_ws cI cL cG cZ ad M) H) (hdg : decode cc pc = .ok (.getfield 186, 3))
    (kk : W p l e R s m args below meth c H locs cells slots Q (F0 m (pc + 3) ls (.int (M.1 3 6) :: rest))) : W p l e R s m args below meth c H locs cells slots Q (F0 m pc ls (.ref (ad 3) :: rest)) :=
  va_get (D := D) (ci := 3) (v := .int (M.1 3 6)) (C := "LinkAudit$Members") (T := T_Members) (N := 7) hx hb hta i_Members hown hK hP 3 c_c3 rfl 6 (by decide) (hta _ wm_110) (fun _ h9 => h9) rfl hdg kk
theorem xvc_LinkAudit_202 {p : Program} {l : Launch} {e : Env} {R : Room} {s : State} {m : MethodId} {args : Array Value} {below : List Frame} {meth : Method} {c : Code} {H : Heap} {locs : List Loc} {cells slots : Nat} {Q : State → Prop} {cc : ByteArray} {pc : Nat} {ls : Array Slot} {rest : List Value} {D : va_G} {cI cL cG cZ : ClassId} {ad : Nat → Nat} {M : Mem} {H0 : Heap} {M1 : Mem} {nL : Nat} {a0 : Int32} {a1 : Int32} {a2 : Int32} {r : Int32} (X : CallFix p m c cc nL s args ALLW "LinkAudit") (hkk : Kk D cI cL cG cZ s) (hD : ∀ M, va_D (c_A ad) (c_ws cI cL cG cZ ad M)) (hrest : (rest.map fun v => v.category).sum ≤ 8) (hR : 1 + 1 ≤ R.frames ∧ 8 + (6 + 11) + 21 ≤ R.locals) (hcs : cells + 0 ≤ R.cells ∧ slots + 0 ≤ R.slots) (hc : f_Members_add M a0 a1 a2 = some (r, M1)) (hsz : ls.size = nL) (hP : va_P D vwC (c_ws cI cL cG cZ ad M) H) (hS : va_S (c_A ad) H0 H locs) (hdg : decode cc pc = .ok (.invokevirtual 202, 3))
    (kk : ∀ (H1 : Heap) (locs1 : List Loc), va_P D vwC (c_ws cI cL cG cZ ad M1) H1 → va_S (c_A ad) H0 H1 locs1 → W p l e R s m args below meth c H1 locs1 cells slots Q (F0 m (pc + 3) ls (.int r :: rest))) : W p l e R s m args below meth c H locs cells slots Q (F0 m pc ls (.int a2 :: .int a1 :: .int a0 :: .ref (ad 3) :: rest)) := by
  have hta := X.2.2.2.2
  exact x_afterI (va_runV (As := [.int a0, .int a1, .int a2]) (rest := rest) X (c_Members_add hD hc) ⟨callB_of 3 hta (good_all (L := .code y_Members_add prog_7_method_4_code 6 (some .int) :: ALLW) (List.forall_mem_cons.mpr ⟨wm_389, fun _ h => h⟩)) rfl rfl rfl (hta _ wm_4) (hta _ wm_386) (by decide +kernel) hR, hta _ wm_387, hta _ wm_388⟩ ⟨x_blind Kk_w _, va_recv hkk.1 hP (ci := 3) (q0 := 3) rfl c_c3, x_pre Kk_w hkk hP _⟩ rfl rfl hsz rfl (lv_room hrest) hdg hcs) hS kk
set_option maxHeartbeats 4000000 in
set_option maxRecDepth 100000 in
theorem c_LinkAudit_addMember {l : Launch} {D : va_G} {cI cL cG cZ : ClassId} {ad : Nat → Nat} {M M' : Mem} {a1 : Int32} {a2 : Int32} {a3 : Int32} {r : Int32} (hD : ∀ M, va_D (c_A ad) (c_ws cI cL cG cZ ad M)) (hf : f_LinkAudit_addMember M a1 a2 a3 = some (r, M')) : Mi l y_LinkAudit_addMember (.code y_LinkAudit_addMember prog_1_method_24_code 4 (some .int) :: ALLW) (rmR 2 46) (Kk D cI cL cG cZ) D vwC (c_A ad) (c_ws cI cL cG cZ ad) [.ref (ad 0), .int a1, .int a2, .int a3] M M' r := by
  refine Mi_of (by decide) (Nat.le_of_ble_eq_true rfl) ?_
  intro p e s m args below meth c ls Q X hkk hret hP hl
  obtain ⟨hx, hb, hml, hown, hta⟩ := id X
  have hKv := hkk.1
  have hS : va_S (c_A ad) s.heap s.heap [] := va_S.rf
  have hl : lv_has ls 4 [(0, .ref (ad 0)), (1, .int a1), (2, .int a2), (3, .int a3)] := hl
  unfold f_LinkAudit_addMember at hf
  refine lv_aload_n hx hb d_LinkAudit_addMember_0 rfl (lv_at hl 0 rfl) ?_
  refine xg_LinkAudit_26 hx hb hta hown hKv hP d_LinkAudit_addMember_1 ?_
  refine lv_iload_n hx hb d_LinkAudit_addMember_4 rfl (lv_at hl 2 rfl) ?_
  obtain ⟨r5, hc1, hf⟩ := bd1_e hf
  refine xvc_LinkAudit_194 X hkk hD (Nat.le_of_ble_eq_true rfl) ⟨by dsimp only [rmR]; omega, by dsimp only [rmR]; omega⟩ ⟨Nat.zero_le _, Nat.zero_le _⟩ hc1 hl.1 hP hS d_LinkAudit_addMember_5 (fun H locs hP hS => ?_)
  refine lv_aload_n hx hb d_LinkAudit_addMember_8 rfl (lv_at hl 0 rfl) ?_
  refine xg_LinkAudit_26 hx hb hta hown hKv hP d_LinkAudit_addMember_9 ?_
  refine xg_LinkAudit_198 hx hb hta hown hKv hP d_LinkAudit_addMember_12 ?_
  refine lv_iload_n hx hb d_LinkAudit_addMember_15 rfl (lv_at hl 1 rfl) ?_
  obtain ⟨g2, hf⟩ := gd_ok hf
  refine x_lld hx hb hKv hP c_c32 g2 d_LinkAudit_addMember_16 ?_
  refine lv_land hx hb d_LinkAudit_addMember_17 ?_
  refine lv_lconst (v := (0 : Int64)) hx hb d_LinkAudit_addMember_18 (by decide) ?_
  refine W.lcmp hx hb d_LinkAudit_addMember_19 ?_
  refine lv_if_eq (tgt := 25) hx hb d_LinkAudit_addMember_20 (by decide) (fun c3 => ?_) (fun c3 => ?_)
  · have hf := ifp c3 hf
    refine lv_aload_n hx hb d_LinkAudit_addMember_25 rfl (lv_at hl 0 rfl) ?_
    refine xg_LinkAudit_26 hx hb hta hown hKv hP d_LinkAudit_addMember_26 ?_
    refine xg_LinkAudit_186 hx hb hta hown hKv hP d_LinkAudit_addMember_29 ?_
    refine lv_bipush (v := (40 : Int32)) hx hb d_LinkAudit_addMember_32 (by decide) ?_
    refine lv_icmp_lt (tgt := 40) hx hb d_LinkAudit_addMember_34 (by decide) (fun c4 => ?_) (fun c4 => ?_)
    · have hf := ifp c4 hf
      refine lv_aload_n hx hb d_LinkAudit_addMember_40 rfl (lv_at hl 0 rfl) ?_
      obtain ⟨M6, hc5, hf⟩ := bd1_e hf
      refine xvc_LinkAudit_100 X hkk hD (Nat.le_of_ble_eq_true rfl) ⟨by dsimp only [rmR]; omega, by dsimp only [rmR]; omega⟩ ⟨Nat.zero_le _, Nat.zero_le _⟩ hc5 hl.1 hP hS d_LinkAudit_addMember_41 (fun H locs hP hS => ?_)
      refine lv_aload_n hx hb d_LinkAudit_addMember_44 rfl (lv_at hl 0 rfl) ?_
      refine xg_LinkAudit_26 hx hb hta hown hKv hP d_LinkAudit_addMember_45 ?_
      refine lv_iload_n hx hb d_LinkAudit_addMember_48 rfl (lv_at hl 1 rfl) ?_
      refine lv_iload_n hx hb d_LinkAudit_addMember_49 rfl (lv_at hl 2 rfl) ?_
      refine lv_iload_n hx hb d_LinkAudit_addMember_50 rfl (lv_at hl 3 rfl) ?_
      obtain ⟨r8, M7, hc6, hf⟩ := bd2_e hf
      refine xvc_LinkAudit_202 X hkk hD (Nat.le_of_ble_eq_true rfl) ⟨by dsimp only [rmR]; omega, by dsimp only [rmR]; omega⟩ ⟨Nat.zero_le _, Nat.zero_le _⟩ hc6 hl.1 hP hS d_LinkAudit_addMember_51 (fun H locs hP hS => ?_)
      exact hret hf hP hS d_LinkAudit_addMember_54
    · have hf := ifn c4 hf
      refine lv_bipush (v := (-2 : Int32)) hx hb d_LinkAudit_addMember_37 (by decide) ?_
      exact hret hf hP hS d_LinkAudit_addMember_39
  · have hf := ifn c3 hf
    refine lv_iconst (v := (-1 : Int32)) hx hb d_LinkAudit_addMember_23 (by decide) ?_
    exact hret hf hP hS d_LinkAudit_addMember_24
-- LinkAudit.field
theorem xvc_LinkAudit_123 {p : Program} {l : Launch} {e : Env} {R : Room} {s : State} {m : MethodId} {args : Array Value} {below : List Frame} {meth : Method} {c : Code} {H : Heap} {locs : List Loc} {cells slots : Nat} {Q : State → Prop} {cc : ByteArray} {pc : Nat} {ls : Array Slot} {rest : List Value} {D : va_G} {cI cL cG cZ : ClassId} {ad : Nat → Nat} {M : Mem} {H0 : Heap} {nL : Nat} {a0 : Int32} {r : Int32} (X : CallFix p m c cc nL s args ALLW "LinkAudit") (hkk : Kk D cI cL cG cZ s) (hD : ∀ M, va_D (c_A ad) (c_ws cI cL cG cZ ad M)) (hrest : (rest.map fun v => v.category).sum ≤ 8) (hR : 0 + 1 ≤ R.frames ∧ 8 + (2 + 11) + 0 ≤ R.locals) (hcs : cells + 0 ≤ R.cells ∧ slots + 0 ≤ R.slots) (hc : f_LinkAudit_isClass M a0 = some r) (hsz : ls.size = nL) (hP : va_P D vwC (c_ws cI cL cG cZ ad M) H) (hS : va_S (c_A ad) H0 H locs) (hdg : decode cc pc = .ok (.invokevirtual 123, 3))
    (kk : ∀ (H1 : Heap) (locs1 : List Loc), va_P D vwC (c_ws cI cL cG cZ ad M) H1 → va_S (c_A ad) H0 H1 locs1 → W p l e R s m args below meth c H1 locs1 cells slots Q (F0 m (pc + 3) ls (.int r :: rest))) : W p l e R s m args below meth c H locs cells slots Q (F0 m pc ls (.int a0 :: .ref (ad 0) :: rest)) := by
  have hta := X.2.2.2.2
  exact x_afterI (va_runV (As := [.int a0]) (rest := rest) X (c_LinkAudit_isClass hD hc) ⟨callB_of 1 hta (good_all (L := .code y_LinkAudit_isClass prog_1_method_20_code 2 (some .boolean) :: ALLW) (List.forall_mem_cons.mpr ⟨wm_374, fun _ h => h⟩)) rfl rfl rfl (hta _ wm_1) (hta _ wm_371) (by decide +kernel) hR, hta _ wm_373, hta _ wp_1⟩ ⟨x_blind Kk_w _, va_recv hkk.1 hP (ci := 0) (q0 := 0) rfl c_c0, x_pre Kk_w hkk hP _⟩ rfl rfl hsz rfl (lv_room hrest) hdg hcs) hS kk
theorem xvc_LinkAudit_126 {p : Program} {l : Launch} {e : Env} {R : Room} {s : State} {m : MethodId} {args : Array Value} {below : List Frame} {meth : Method} {c : Code} {H : Heap} {locs : List Loc} {cells slots : Nat} {Q : State → Prop} {cc : ByteArray} {pc : Nat} {ls : Array Slot} {rest : List Value} {D : va_G} {cI cL cG cZ : ClassId} {ad : Nat → Nat} {M : Mem} {H0 : Heap} {nL : Nat} {a0 : Int32} {a1 : Int32} {r : Int32} (X : CallFix p m c cc nL s args ALLW "LinkAudit") (hkk : Kk D cI cL cG cZ s) (hD : ∀ M, va_D (c_A ad) (c_ws cI cL cG cZ ad M)) (hrest : (rest.map fun v => v.category).sum ≤ 8) (hR : 0 + 1 ≤ R.frames ∧ 8 + (2 + 11) + 0 ≤ R.locals) (hcs : cells + 0 ≤ R.cells ∧ slots + 0 ≤ R.slots) (hc : f_Members_fieldSignature a0 a1 = some r) (hsz : ls.size = nL) (hP : va_P D vwC (c_ws cI cL cG cZ ad M) H) (hS : va_S (c_A ad) H0 H locs) (hdg : decode cc pc = .ok (.invokestatic 126, 3))
    (kk : ∀ (H1 : Heap) (locs1 : List Loc), va_P D vwC (c_ws cI cL cG cZ ad M) H1 → va_S (c_A ad) H0 H1 locs1 → W p l e R s m args below meth c H1 locs1 cells slots Q (F0 m (pc + 3) ls (.int r :: rest))) : W p l e R s m args below meth c H locs cells slots Q (F0 m pc ls (.int a1 :: .int a0 :: rest)) := by
  have hta := X.2.2.2.2
  exact x_after0I e_no (va_runS (As := [.int a0, .int a1]) (rest := rest) X (c_Members_fieldSignature (ad := ad) (M := M) e_D hc) ⟨callB_of 2 hta (good_all (L := .code y_Members_fieldSignature prog_7_method_3_code 2 (some .int) :: ALLW) (List.forall_mem_cons.mpr ⟨wm_377, fun _ h => h⟩)) rfl rfl rfl (hta _ wm_4) (hta _ wm_375) (by decide +kernel) hR, hta _ wm_376⟩ ⟨x_blind Kk_w _, x_pre Kk_w hkk e_P _⟩ rfl rfl hsz rfl (lv_room hrest) hdg hcs) hP hS kk
theorem xvc_LinkAudit_129 {p : Program} {l : Launch} {e : Env} {R : Room} {s : State} {m : MethodId} {args : Array Value} {below : List Frame} {meth : Method} {c : Code} {H : Heap} {locs : List Loc} {cells slots : Nat} {Q : State → Prop} {cc : ByteArray} {pc : Nat} {ls : Array Slot} {rest : List Value} {D : va_G} {cI cL cG cZ : ClassId} {ad : Nat → Nat} {M : Mem} {H0 : Heap} {M1 : Mem} {nL : Nat} {a0 : Int32} {a1 : Int32} {a2 : Int32} {r : Int32} (X : CallFix p m c cc nL s args ALLW "LinkAudit") (hkk : Kk D cI cL cG cZ s) (hD : ∀ M, va_D (c_A ad) (c_ws cI cL cG cZ ad M)) (hrest : (rest.map fun v => v.category).sum ≤ 8) (hR : 2 + 1 ≤ R.frames ∧ 8 + (4 + 11) + 46 ≤ R.locals) (hcs : cells + 0 ≤ R.cells ∧ slots + 0 ≤ R.slots) (hc : f_LinkAudit_addMember M a0 a1 a2 = some (r, M1)) (hsz : ls.size = nL) (hP : va_P D vwC (c_ws cI cL cG cZ ad M) H) (hS : va_S (c_A ad) H0 H locs) (hdg : decode cc pc = .ok (.invokevirtual 129, 3))
    (kk : ∀ (H1 : Heap) (locs1 : List Loc), va_P D vwC (c_ws cI cL cG cZ ad M1) H1 → va_S (c_A ad) H0 H1 locs1 → W p l e R s m args below meth c H1 locs1 cells slots Q (F0 m (pc + 3) ls (.int r :: rest))) : W p l e R s m args below meth c H locs cells slots Q (F0 m pc ls (.int a2 :: .int a1 :: .int a0 :: .ref (ad 0) :: rest)) := by
  have hta := X.2.2.2.2
  exact x_afterI (va_runV (As := [.int a0, .int a1, .int a2]) (rest := rest) X (c_LinkAudit_addMember hD hc) ⟨callB_of 3 hta (good_all (L := .code y_LinkAudit_addMember prog_1_method_24_code 4 (some .int) :: ALLW) (List.forall_mem_cons.mpr ⟨wm_381, fun _ h => h⟩)) rfl rfl rfl (hta _ wm_1) (hta _ wm_378) (by decide +kernel) hR, hta _ wm_380, hta _ wp_2⟩ ⟨x_blind Kk_w _, va_recv hkk.1 hP (ci := 0) (q0 := 0) rfl c_c0, x_pre Kk_w hkk hP _⟩ rfl rfl hsz rfl (lv_room hrest) hdg hcs) hS kk
set_option maxHeartbeats 4000000 in
set_option maxRecDepth 100000 in
theorem c_LinkAudit_field {l : Launch} {D : va_G} {cI cL cG cZ : ClassId} {ad : Nat → Nat} {M M' : Mem} {a1 : Int32} {a2 : Int32} {a3 : Int32} {a4 : Int32} {r : Int32} (hD : ∀ M, va_D (c_A ad) (c_ws cI cL cG cZ ad M)) (hf : f_LinkAudit_field M a1 a2 a3 a4 = some (r, M')) : Mi l y_LinkAudit_field (.code y_LinkAudit_field prog_1_method_5_code 5 (some .int) :: ALLW) (rmR 3 69) (Kk D cI cL cG cZ) D vwC (c_A ad) (c_ws cI cL cG cZ ad) [.ref (ad 0), .int a1, .int a2, .int a3, .int a4] M M' r := by
  refine Mi_of (by decide) (Nat.le_of_ble_eq_true rfl) ?_
  intro p e s m args below meth c ls Q X hkk hret hP hl
  obtain ⟨hx, hb, hml, hown, hta⟩ := id X
  have hKv := hkk.1
  have hS : va_S (c_A ad) s.heap s.heap [] := va_S.rf
  have hl : lv_has ls 5 [(0, .ref (ad 0)), (1, .int a1), (2, .int a2), (3, .int a3), (4, .int a4)] := hl
  unfold f_LinkAudit_field at hf
  refine lv_aload_n hx hb d_LinkAudit_field_0 rfl (lv_at hl 0 rfl) ?_
  refine lv_iload_n hx hb d_LinkAudit_field_1 rfl (lv_at hl 1 rfl) ?_
  obtain ⟨r8, hc1, hf⟩ := bd1_e hf
  refine xvc_LinkAudit_123 X hkk hD (Nat.le_of_ble_eq_true rfl) ⟨by dsimp only [rmR]; omega, by dsimp only [rmR]; omega⟩ ⟨Nat.zero_le _, Nat.zero_le _⟩ hc1 hl.1 hP hS d_LinkAudit_field_2 (fun H locs hP hS => ?_)
  refine lv_if_eq (tgt := 16) hx hb d_LinkAudit_field_5 (by decide) (fun c2 => ?_) (fun c2 => ?_)
  · have hf := ifp c2 hf
    refine lv_iconst (v := (-1 : Int32)) hx hb d_LinkAudit_field_16 (by decide) ?_
    exact hret hf hP hS d_LinkAudit_field_17
  · have hf := ifn c2 hf
    refine lv_iload_n hx hb d_LinkAudit_field_8 rfl (lv_at hl 2 rfl) ?_
    refine lv_iconst (v := (4 : Int32)) hx hb d_LinkAudit_field_9 (by decide) ?_
    obtain ⟨r9, hc3, hf⟩ := bd1_e hf
    refine xvc_LinkAudit_89 X hkk hD (Nat.le_of_ble_eq_true rfl) ⟨by dsimp only [rmR]; omega, by dsimp only [rmR]; omega⟩ ⟨Nat.zero_le _, Nat.zero_le _⟩ hc3 hl.1 hP hS d_LinkAudit_field_10 (fun H locs hP hS => ?_)
    refine lv_if_ne (tgt := 18) hx hb d_LinkAudit_field_13 (by decide) (fun c4 => ?_) (fun c4 => ?_)
    · have hf := ifn c4 hf
      refine lv_iload_n hx hb d_LinkAudit_field_18 rfl (lv_at hl 3 rfl) ?_
      refine lv_bipush (v := (13 : Int32)) hx hb d_LinkAudit_field_19 (by decide) ?_
      obtain ⟨r10, hc5, hf⟩ := bd1_e hf
      refine xvc_LinkAudit_89 X hkk hD (Nat.le_of_ble_eq_true rfl) ⟨by dsimp only [rmR]; omega, by dsimp only [rmR]; omega⟩ ⟨Nat.zero_le _, Nat.zero_le _⟩ hc5 hl.1 hP hS d_LinkAudit_field_21 (fun H locs hP hS => ?_)
      refine lv_if_eq (tgt := 37) hx hb d_LinkAudit_field_24 (by decide) (fun c6 => ?_) (fun c6 => ?_)
      · have hf := ifp c6 hf
        refine lv_iconst (v := (-1 : Int32)) hx hb d_LinkAudit_field_37 (by decide) ?_
        exact hret hf hP hS d_LinkAudit_field_38
      · have hf := ifn c6 hf
        refine lv_iload hx hb d_LinkAudit_field_27 (lv_at hl 4 rfl) ?_
        refine lv_bipush (v := (8 : Int32)) hx hb d_LinkAudit_field_29 (by decide) ?_
        obtain ⟨r11, hc7, hf⟩ := bd1_e hf
        refine xvc_LinkAudit_89 X hkk hD (Nat.le_of_ble_eq_true rfl) ⟨by dsimp only [rmR]; omega, by dsimp only [rmR]; omega⟩ ⟨Nat.zero_le _, Nat.zero_le _⟩ hc7 hl.1 hP hS d_LinkAudit_field_31 (fun H locs hP hS => ?_)
        refine lv_if_ne (tgt := 39) hx hb d_LinkAudit_field_34 (by decide) (fun c8 => ?_) (fun c8 => ?_)
        · have hf := ifn c8 hf
          refine lv_aload_n hx hb d_LinkAudit_field_39 rfl (lv_at hl 0 rfl) ?_
          refine lv_iload_n hx hb d_LinkAudit_field_40 rfl (lv_at hl 1 rfl) ?_
          refine lv_iload_n hx hb d_LinkAudit_field_41 rfl (lv_at hl 2 rfl) ?_
          refine lv_iload_n hx hb d_LinkAudit_field_42 rfl (lv_at hl 3 rfl) ?_
          obtain ⟨r12, hc9, hf⟩ := bd1_e hf
          refine xvc_LinkAudit_126 X hkk hD (Nat.le_of_ble_eq_true rfl) ⟨by dsimp only [rmR]; omega, by dsimp only [rmR]; omega⟩ ⟨Nat.zero_le _, Nat.zero_le _⟩ hc9 hl.1 hP hS d_LinkAudit_field_43 (fun H locs hP hS => ?_)
          refine lv_iload hx hb d_LinkAudit_field_46 (lv_at hl 4 rfl) ?_
          obtain ⟨r14, M13, hc10, hf⟩ := bd2_e hf
          refine xvc_LinkAudit_129 X hkk hD (Nat.le_of_ble_eq_true rfl) ⟨by dsimp only [rmR]; omega, by dsimp only [rmR]; omega⟩ ⟨Nat.zero_le _, Nat.zero_le _⟩ hc10 hl.1 hP hS d_LinkAudit_field_48 (fun H locs hP hS => ?_)
          exact hret hf hP hS d_LinkAudit_field_51
        · have hf := ifp c8 hf
          refine lv_iconst (v := (-1 : Int32)) hx hb d_LinkAudit_field_37 (by decide) ?_
          exact hret hf hP hS d_LinkAudit_field_38
    · have hf := ifp c4 hf
      refine lv_iconst (v := (-1 : Int32)) hx hb d_LinkAudit_field_16 (by decide) ?_
      exact hret hf hP hS d_LinkAudit_field_17
-- LinkAudit$Classes.isInterface
set_option maxHeartbeats 4000000 in
set_option maxRecDepth 100000 in
theorem c_Classes_isInterface {l : Launch} {D : va_G} {cI cL cG cZ : ClassId} {ad : Nat → Nat} {M : Mem} {a1 : Int32} {r : Int32} (hD : ∀ M, va_D (c_A ad) (c_ws cI cL cG cZ ad M)) (hf : f_Classes_isInterface M a1 = some r) : Mi l y_Classes_isInterface (.code y_Classes_isInterface prog_3_method_3_code 2 (some .boolean) :: ALLW) (rmR 0 0) (Kk D cI cL cG cZ) D vwC (c_A ad) (c_ws cI cL cG cZ ad) [.ref (ad 2), .int a1] M M r := by
  refine Mz_ofR (by decide) (Nat.le_of_ble_eq_true rfl) ?_
  intro p e s m args below meth c ls Q X hkk hret hP hl
  obtain ⟨hx, hb, hml, hown, hta⟩ := id X
  have hKv := hkk.1
  have hS : va_S (c_A ad) s.heap s.heap [] := va_S.rf
  have hl : lv_has ls 2 [(0, .ref (ad 2)), (1, .int a1)] := hl
  unfold f_Classes_isInterface at hf
  refine lv_aload_n hx hb d_Classes_isInterface_0 rfl (lv_at hl 0 rfl) ?_
  refine xg_Classes_18 hx hb hta hown hKv hP d_Classes_isInterface_1 ?_
  refine lv_iload_n hx hb d_Classes_isInterface_4 rfl (lv_at hl 1 rfl) ?_
  obtain ⟨g1, hf⟩ := gd_ok hf
  refine x_ild hx hb hKv hP c_c26 g1 d_Classes_isInterface_5 ?_
  refine lv_bipush (v := (8 : Int32)) hx hb d_Classes_isInterface_6 (by decide) ?_
  refine lv_iand hx hb d_Classes_isInterface_8 ?_
  refine lv_if_eq (tgt := 16) hx hb d_Classes_isInterface_9 (by decide) (fun c2 => ?_) (fun c2 => ?_)
  · have hf := ifp c2 hf
    refine lv_iconst (v := (0 : Int32)) hx hb d_Classes_isInterface_16 (by decide) ?_
    exact hret (Or.inl rfl) hf hP hS d_Classes_isInterface_17
  · have hf := ifn c2 hf
    refine lv_iconst (v := (1 : Int32)) hx hb d_Classes_isInterface_12 (by decide) ?_
    refine lv_goto (tgt := 17) hx hb d_Classes_isInterface_13 (by decide) ?_
    exact hret (Or.inr rfl) hf hP hS d_Classes_isInterface_17
-- LinkAudit$Members.methodSignature
set_option maxHeartbeats 4000000 in
set_option maxRecDepth 100000 in
theorem c_Members_methodSignature {l : Launch} {D : va_G} {cI cL cG cZ : ClassId} {ad : Nat → Nat} {M : Mem} {a0 : Int32} {a1 : Int32} {a2 : Int32} {r : Int32} (hD : ∀ M, va_D (e_A ad) (e_ws cI cL cG cZ ad M)) (hf : f_Members_methodSignature a0 a1 a2 = some r) : Mi l y_Members_methodSignature (.code y_Members_methodSignature prog_7_method_2_code 3 (some .int) :: ALLW) (rmR 0 0) (Kk D cI cL cG cZ) D vwC (e_A ad) (e_ws cI cL cG cZ ad) [.int a0, .int a1, .int a2] M M r := by
  refine Mi_ofR (by decide) (Nat.le_of_ble_eq_true rfl) ?_
  intro p e s m args below meth c ls Q X hkk hret hP hl
  obtain ⟨hx, hb, hml, hown, hta⟩ := id X
  have hKv := hkk.1
  have hS : va_S (e_A ad) s.heap s.heap [] := va_S.rf
  have hl : lv_has ls 3 [(0, .int a0), (1, .int a1), (2, .int a2)] := hl
  unfold f_Members_methodSignature at hf
  refine lv_iconst (v := (4 : Int32)) hx hb d_Members_methodSignature_0 (by decide) ?_
  refine lv_iload_n hx hb d_Members_methodSignature_1 rfl (lv_at hl 0 rfl) ?_
  refine lv_iadd hx hb d_Members_methodSignature_2 ?_
  refine lv_bipush (v := (13 : Int32)) hx hb d_Members_methodSignature_3 (by decide) ?_
  refine lv_imul hx hb d_Members_methodSignature_5 ?_
  refine lv_iload_n hx hb d_Members_methodSignature_6 rfl (lv_at hl 1 rfl) ?_
  refine lv_iadd hx hb d_Members_methodSignature_7 ?_
  refine lv_bipush (v := (13 : Int32)) hx hb d_Members_methodSignature_8 (by decide) ?_
  refine lv_imul hx hb d_Members_methodSignature_10 ?_
  refine lv_iload_n hx hb d_Members_methodSignature_11 rfl (lv_at hl 2 rfl) ?_
  refine lv_iadd hx hb d_Members_methodSignature_12 ?_
  exact hret hf hP hS d_Members_methodSignature_13
-- LinkAudit.method
theorem xvc_LinkAudit_136 {p : Program} {l : Launch} {e : Env} {R : Room} {s : State} {m : MethodId} {args : Array Value} {below : List Frame} {meth : Method} {c : Code} {H : Heap} {locs : List Loc} {cells slots : Nat} {Q : State → Prop} {cc : ByteArray} {pc : Nat} {ls : Array Slot} {rest : List Value} {D : va_G} {cI cL cG cZ : ClassId} {ad : Nat → Nat} {M : Mem} {H0 : Heap} {nL : Nat} {a0 : Int32} {a1 : Int32} {a2 : Int32} {r : Int32} (X : CallFix p m c cc nL s args ALLW "LinkAudit") (hkk : Kk D cI cL cG cZ s) (hD : ∀ M, va_D (c_A ad) (c_ws cI cL cG cZ ad M)) (hrest : (rest.map fun v => v.category).sum ≤ 8) (hR : 0 + 1 ≤ R.frames ∧ 8 + (3 + 11) + 0 ≤ R.locals) (hcs : cells + 0 ≤ R.cells ∧ slots + 0 ≤ R.slots) (hc : f_Members_methodSignature a0 a1 a2 = some r) (hsz : ls.size = nL) (hP : va_P D vwC (c_ws cI cL cG cZ ad M) H) (hS : va_S (c_A ad) H0 H locs) (hdg : decode cc pc = .ok (.invokestatic 136, 3))
    (kk : ∀ (H1 : Heap) (locs1 : List Loc), va_P D vwC (c_ws cI cL cG cZ ad M) H1 → va_S (c_A ad) H0 H1 locs1 → W p l e R s m args below meth c H1 locs1 cells slots Q (F0 m (pc + 3) ls (.int r :: rest))) : W p l e R s m args below meth c H locs cells slots Q (F0 m pc ls (.int a2 :: .int a1 :: .int a0 :: rest)) := by
  have hta := X.2.2.2.2
  exact x_after0I e_no (va_runS (As := [.int a0, .int a1, .int a2]) (rest := rest) X (c_Members_methodSignature (ad := ad) (M := M) e_D hc) ⟨callB_of 3 hta (good_all (L := .code y_Members_methodSignature prog_7_method_2_code 3 (some .int) :: ALLW) (List.forall_mem_cons.mpr ⟨wm_412, fun _ h => h⟩)) rfl rfl rfl (hta _ wm_4) (hta _ wm_410) (by decide +kernel) hR, hta _ wm_411⟩ ⟨x_blind Kk_w _, x_pre Kk_w hkk e_P _⟩ rfl rfl hsz rfl (lv_room hrest) hdg hcs) hP hS kk
theorem xvc_LinkAudit_133 {p : Program} {l : Launch} {e : Env} {R : Room} {s : State} {m : MethodId} {args : Array Value} {below : List Frame} {meth : Method} {c : Code} {H : Heap} {locs : List Loc} {cells slots : Nat} {Q : State → Prop} {cc : ByteArray} {pc : Nat} {ls : Array Slot} {rest : List Value} {D : va_G} {cI cL cG cZ : ClassId} {ad : Nat → Nat} {M : Mem} {H0 : Heap} {nL : Nat} {a0 : Int32} {r : Int32} (X : CallFix p m c cc nL s args ALLW "LinkAudit") (hkk : Kk D cI cL cG cZ s) (hD : ∀ M, va_D (c_A ad) (c_ws cI cL cG cZ ad M)) (hrest : (rest.map fun v => v.category).sum ≤ 8) (hR : 0 + 1 ≤ R.frames ∧ 8 + (2 + 11) + 0 ≤ R.locals) (hcs : cells + 0 ≤ R.cells ∧ slots + 0 ≤ R.slots) (hc : f_Classes_isInterface M a0 = some r) (hsz : ls.size = nL) (hP : va_P D vwC (c_ws cI cL cG cZ ad M) H) (hS : va_S (c_A ad) H0 H locs) (hdg : decode cc pc = .ok (.invokevirtual 133, 3))
    (kk : ∀ (H1 : Heap) (locs1 : List Loc), va_P D vwC (c_ws cI cL cG cZ ad M) H1 → va_S (c_A ad) H0 H1 locs1 → W p l e R s m args below meth c H1 locs1 cells slots Q (F0 m (pc + 3) ls (.int r :: rest))) : W p l e R s m args below meth c H locs cells slots Q (F0 m pc ls (.int a0 :: .ref (ad 2) :: rest)) := by
  have hta := X.2.2.2.2
  exact x_afterI (va_runV (As := [.int a0]) (rest := rest) X (c_Classes_isInterface hD hc) ⟨callB_of 1 hta (good_all (L := .code y_Classes_isInterface prog_3_method_3_code 2 (some .boolean) :: ALLW) (List.forall_mem_cons.mpr ⟨wm_409, fun _ h => h⟩)) rfl rfl rfl (hta _ wm_3) (hta _ wm_406) (by decide +kernel) hR, hta _ wm_407, hta _ wm_408⟩ ⟨x_blind Kk_w _, va_recv hkk.1 hP (ci := 2) (q0 := 2) rfl c_c2, x_pre Kk_w hkk hP _⟩ rfl rfl hsz rfl (lv_room hrest) hdg hcs) hS kk
set_option maxHeartbeats 4000000 in
set_option maxRecDepth 100000 in
theorem c_LinkAudit_method {l : Launch} {D : va_G} {cI cL cG cZ : ClassId} {ad : Nat → Nat} {M M' : Mem} {a1 : Int32} {a2 : Int32} {a3 : Int32} {a4 : Int32} {a5 : Int32} {r : Int32} (hD : ∀ M, va_D (c_A ad) (c_ws cI cL cG cZ ad M)) (hf : f_LinkAudit_method M a1 a2 a3 a4 a5 = some (r, M')) : Mi l y_LinkAudit_method (.code y_LinkAudit_method prog_1_method_6_code 7 (some .int) :: ALLW) (rmR 3 69) (Kk D cI cL cG cZ) D vwC (c_A ad) (c_ws cI cL cG cZ ad) [.ref (ad 0), .int a1, .int a2, .int a3, .int a4, .int a5] M M' r := by
  refine Mi_of (by decide) (Nat.le_of_ble_eq_true rfl) ?_
  intro p e s m args below meth c ls Q X hkk hret hP hl
  obtain ⟨hx, hb, hml, hown, hta⟩ := id X
  have hKv := hkk.1
  have hS : va_S (c_A ad) s.heap s.heap [] := va_S.rf
  have hl : lv_has ls 7 [(0, .ref (ad 0)), (1, .int a1), (2, .int a2), (3, .int a3), (4, .int a4), (5, .int a5)] := hl
  have b102 : ∀ (M : Mem) (x1 : Int32) (x2 : Int32) (x3 : Int32) (x4 : Int32) (x5 : Int32) (H : Heap) (locs : List Loc) (ls : Array Slot), f_LinkAudit_method_b102 M x1 x2 x3 x4 x5 = some (r, M') → va_P D vwC (c_ws cI cL cG cZ ad M) H → va_S (c_A ad) s.heap H locs → lv_has ls 7 [(0, .ref (ad 0)), (1, .int x1), (2, .int x2), (3, .int x3), (4, .int x4), (5, .int x5)] → W p l e (rmR 3 69) s m args below meth c H locs 0 0 Q (F0 m 102 ls []) := by
    intro M x1 x2 x3 x4 x5 H locs ls hf hP hS hl
    unfold f_LinkAudit_method_b102 at hf
    refine lv_aload_n hx hb d_LinkAudit_method_102 rfl (lv_at hl 0 rfl) ?_
    refine lv_iload_n hx hb d_LinkAudit_method_103 rfl (lv_at hl 1 rfl) ?_
    refine lv_iload_n hx hb d_LinkAudit_method_104 rfl (lv_at hl 2 rfl) ?_
    refine lv_iload_n hx hb d_LinkAudit_method_105 rfl (lv_at hl 3 rfl) ?_
    refine lv_iload hx hb d_LinkAudit_method_106 (lv_at hl 4 rfl) ?_
    obtain ⟨r10, hc1, hf⟩ := bd1_e hf
    refine xvc_LinkAudit_136 X hkk hD (Nat.le_of_ble_eq_true rfl) ⟨by dsimp only [rmR]; omega, by dsimp only [rmR]; omega⟩ ⟨Nat.zero_le _, Nat.zero_le _⟩ hc1 hl.1 hP hS d_LinkAudit_method_108 (fun H locs hP hS => ?_)
    refine lv_iload hx hb d_LinkAudit_method_111 (lv_at hl 5 rfl) ?_
    obtain ⟨r12, M11, hc2, hf⟩ := bd2_e hf
    refine xvc_LinkAudit_129 X hkk hD (Nat.le_of_ble_eq_true rfl) ⟨by dsimp only [rmR]; omega, by dsimp only [rmR]; omega⟩ ⟨Nat.zero_le _, Nat.zero_le _⟩ hc2 hl.1 hP hS d_LinkAudit_method_113 (fun H locs hP hS => ?_)
    exact hret hf hP hS d_LinkAudit_method_116
  have b79 : ∀ (M : Mem) (x1 : Int32) (x2 : Int32) (x3 : Int32) (x4 : Int32) (x5 : Int32) (x6 : Int32) (H : Heap) (locs : List Loc) (ls : Array Slot), f_LinkAudit_method_b79 M x1 x2 x3 x4 x5 x6 = some (r, M') → va_P D vwC (c_ws cI cL cG cZ ad M) H → va_S (c_A ad) s.heap H locs → lv_has ls 7 [(0, .ref (ad 0)), (1, .int x1), (2, .int x2), (3, .int x3), (4, .int x4), (5, .int x5), (6, .int x6)] → W p l e (rmR 3 69) s m args below meth c H locs 0 0 Q (F0 m 79 ls []) := by
    intro M x1 x2 x3 x4 x5 x6 H locs ls hf hP hS hl
    unfold f_LinkAudit_method_b79 at hf
    refine lv_iload hx hb d_LinkAudit_method_79 (lv_at hl 5 rfl) ?_
    refine lv_bipush (v := (8 : Int32)) hx hb d_LinkAudit_method_81 (by decide) ?_
    refine lv_iand hx hb d_LinkAudit_method_83 ?_
    refine lv_if_eq (tgt := 102) hx hb d_LinkAudit_method_84 (by decide) (fun c3 => ?_) (fun c3 => ?_)
    · have hf := ifp c3 hf
      exact b102 M x1 x2 x3 x4 x5 _ _ _ hf hP hS (lv_sub hl [0, 1, 2, 3, 4, 5] rfl)
    · have hf := ifn c3 hf
      refine lv_iload hx hb d_LinkAudit_method_87 (lv_at hl 6 rfl) ?_
      refine lv_iconst (v := (3 : Int32)) hx hb d_LinkAudit_method_89 (by decide) ?_
      refine lv_icmp_eq (tgt := 100) hx hb d_LinkAudit_method_90 (by decide) (fun c4 => ?_) (fun c4 => ?_)
      · have hf := ifp c4 hf
        refine lv_iconst (v := (-1 : Int32)) hx hb d_LinkAudit_method_100 (by decide) ?_
        exact hret hf hP hS d_LinkAudit_method_101
      · have hf := ifn c4 hf
        refine lv_iload hx hb d_LinkAudit_method_93 (lv_at hl 5 rfl) ?_
        refine lv_iconst (v := (4 : Int32)) hx hb d_LinkAudit_method_95 (by decide) ?_
        refine lv_iand hx hb d_LinkAudit_method_96 ?_
        refine lv_if_eq (tgt := 102) hx hb d_LinkAudit_method_97 (by decide) (fun c5 => ?_) (fun c5 => ?_)
        · have hf := ifp c5 hf
          exact b102 M x1 x2 x3 x4 x5 _ _ _ hf hP hS (lv_sub hl [0, 1, 2, 3, 4, 5] rfl)
        · have hf := ifn c5 hf
          refine lv_iconst (v := (-1 : Int32)) hx hb d_LinkAudit_method_100 (by decide) ?_
          exact hret hf hP hS d_LinkAudit_method_101
  unfold f_LinkAudit_method at hf
  refine lv_aload_n hx hb d_LinkAudit_method_0 rfl (lv_at hl 0 rfl) ?_
  refine lv_iload_n hx hb d_LinkAudit_method_1 rfl (lv_at hl 1 rfl) ?_
  obtain ⟨r13, hc6, hf⟩ := bd1_e hf
  refine xvc_LinkAudit_123 X hkk hD (Nat.le_of_ble_eq_true rfl) ⟨by dsimp only [rmR]; omega, by dsimp only [rmR]; omega⟩ ⟨Nat.zero_le _, Nat.zero_le _⟩ hc6 hl.1 hP hS d_LinkAudit_method_2 (fun H locs hP hS => ?_)
  refine lv_if_eq (tgt := 26) hx hb d_LinkAudit_method_5 (by decide) (fun c7 => ?_) (fun c7 => ?_)
  · have hf := ifp c7 hf
    refine lv_iconst (v := (-1 : Int32)) hx hb d_LinkAudit_method_26 (by decide) ?_
    exact hret hf hP hS d_LinkAudit_method_27
  · have hf := ifn c7 hf
    refine lv_iload_n hx hb d_LinkAudit_method_8 rfl (lv_at hl 2 rfl) ?_
    refine lv_iconst (v := (4 : Int32)) hx hb d_LinkAudit_method_9 (by decide) ?_
    obtain ⟨r14, hc8, hf⟩ := bd1_e hf
    refine xvc_LinkAudit_89 X hkk hD (Nat.le_of_ble_eq_true rfl) ⟨by dsimp only [rmR]; omega, by dsimp only [rmR]; omega⟩ ⟨Nat.zero_le _, Nat.zero_le _⟩ hc8 hl.1 hP hS d_LinkAudit_method_10 (fun H locs hP hS => ?_)
    refine lv_if_eq (tgt := 26) hx hb d_LinkAudit_method_13 (by decide) (fun c9 => ?_) (fun c9 => ?_)
    · have hf := ifp c9 hf
      refine lv_iconst (v := (-1 : Int32)) hx hb d_LinkAudit_method_26 (by decide) ?_
      exact hret hf hP hS d_LinkAudit_method_27
    · have hf := ifn c9 hf
      refine lv_iload hx hb d_LinkAudit_method_16 (lv_at hl 5 rfl) ?_
      refine lv_bipush (v := (16 : Int32)) hx hb d_LinkAudit_method_18 (by decide) ?_
      obtain ⟨r15, hc10, hf⟩ := bd1_e hf
      refine xvc_LinkAudit_89 X hkk hD (Nat.le_of_ble_eq_true rfl) ⟨by dsimp only [rmR]; omega, by dsimp only [rmR]; omega⟩ ⟨Nat.zero_le _, Nat.zero_le _⟩ hc10 hl.1 hP hS d_LinkAudit_method_20 (fun H locs hP hS => ?_)
      refine lv_if_ne (tgt := 28) hx hb d_LinkAudit_method_23 (by decide) (fun c11 => ?_) (fun c11 => ?_)
      · have hf := ifn c11 hf
        refine lv_iload_n hx hb d_LinkAudit_method_28 rfl (lv_at hl 3 rfl) ?_
        refine lv_bipush (v := (13 : Int32)) hx hb d_LinkAudit_method_29 (by decide) ?_
        obtain ⟨r16, hc12, hf⟩ := bd1_e hf
        refine xvc_LinkAudit_89 X hkk hD (Nat.le_of_ble_eq_true rfl) ⟨by dsimp only [rmR]; omega, by dsimp only [rmR]; omega⟩ ⟨Nat.zero_le _, Nat.zero_le _⟩ hc12 hl.1 hP hS d_LinkAudit_method_31 (fun H locs hP hS => ?_)
        refine lv_if_eq (tgt := 47) hx hb d_LinkAudit_method_34 (by decide) (fun c13 => ?_) (fun c13 => ?_)
        · have hf := ifp c13 hf
          refine lv_iconst (v := (-1 : Int32)) hx hb d_LinkAudit_method_47 (by decide) ?_
          exact hret hf hP hS d_LinkAudit_method_48
        · have hf := ifn c13 hf
          refine lv_iload hx hb d_LinkAudit_method_37 (lv_at hl 4 rfl) ?_
          refine lv_bipush (v := (13 : Int32)) hx hb d_LinkAudit_method_39 (by decide) ?_
          obtain ⟨r17, hc14, hf⟩ := bd1_e hf
          refine xvc_LinkAudit_89 X hkk hD (Nat.le_of_ble_eq_true rfl) ⟨by dsimp only [rmR]; omega, by dsimp only [rmR]; omega⟩ ⟨Nat.zero_le _, Nat.zero_le _⟩ hc14 hl.1 hP hS d_LinkAudit_method_41 (fun H locs hP hS => ?_)
          refine lv_if_ne (tgt := 49) hx hb d_LinkAudit_method_44 (by decide) (fun c15 => ?_) (fun c15 => ?_)
          · have hf := ifn c15 hf
            refine lv_iload hx hb d_LinkAudit_method_49 (lv_at hl 5 rfl) ?_
            refine lv_iconst (v := (3 : Int32)) hx hb d_LinkAudit_method_51 (by decide) ?_
            refine lv_iand hx hb d_LinkAudit_method_52 ?_
            refine lv_istore (lv' := [(6, .int (a5 &&& (3 : Int32))), (0, .ref (ad 0)), (1, .int a1), (2, .int a2), (3, .int a3), (4, .int a4), (5, .int a5)]) hx hb d_LinkAudit_method_53 hl (by decide) rfl (fun ls hl => ?_)
            refine lv_aload_n hx hb d_LinkAudit_method_55 rfl (lv_at hl 1 rfl) ?_
            refine xg_LinkAudit_19 hx hb hta hown hKv hP d_LinkAudit_method_56 ?_
            refine lv_iload_n hx hb d_LinkAudit_method_59 rfl (lv_at hl 2 rfl) ?_
            obtain ⟨r18, hc16, hf⟩ := bd1_e hf
            refine xvc_LinkAudit_133 X hkk hD (Nat.le_of_ble_eq_true rfl) ⟨by dsimp only [rmR]; omega, by dsimp only [rmR]; omega⟩ ⟨Nat.zero_le _, Nat.zero_le _⟩ hc16 hl.1 hP hS d_LinkAudit_method_60 (fun H locs hP hS => ?_)
            refine lv_if_eq (tgt := 79) hx hb d_LinkAudit_method_63 (by decide) (fun c17 => ?_) (fun c17 => ?_)
            · have hf := ifp c17 hf
              exact b79 M a1 a2 a3 a4 a5 (a5 &&& (3 : Int32)) _ _ _ hf hP hS (lv_sub hl [1, 2, 3, 4, 5, 6, 0] rfl)
            · have hf := ifn c17 hf
              refine lv_iload hx hb d_LinkAudit_method_66 (lv_at hl 0 rfl) ?_
              refine lv_if_eq (tgt := 79) hx hb d_LinkAudit_method_68 (by decide) (fun c18 => ?_) (fun c18 => ?_)
              · have hf := ifp c18 hf
                exact b79 M a1 a2 a3 a4 a5 (a5 &&& (3 : Int32)) _ _ _ hf hP hS (lv_sub hl [1, 2, 3, 4, 5, 6, 0] rfl)
              · have hf := ifn c18 hf
                refine lv_iload hx hb d_LinkAudit_method_71 (lv_at hl 0 rfl) ?_
                refine lv_iconst (v := (3 : Int32)) hx hb d_LinkAudit_method_73 (by decide) ?_
                refine lv_icmp_eq (tgt := 79) hx hb d_LinkAudit_method_74 (by decide) (fun c19 => ?_) (fun c19 => ?_)
                · have hf := ifp c19 hf
                  exact b79 M a1 a2 a3 a4 a5 (a5 &&& (3 : Int32)) _ _ _ hf hP hS (lv_sub hl [1, 2, 3, 4, 5, 6, 0] rfl)
                · have hf := ifn c19 hf
                  refine lv_iconst (v := (-1 : Int32)) hx hb d_LinkAudit_method_77 (by decide) ?_
                  exact hret hf hP hS d_LinkAudit_method_78
          · have hf := ifp c15 hf
            refine lv_iconst (v := (-1 : Int32)) hx hb d_LinkAudit_method_47 (by decide) ?_
            exact hret hf hP hS d_LinkAudit_method_48
      · have hf := ifp c11 hf
        refine lv_iconst (v := (-1 : Int32)) hx hb d_LinkAudit_method_26 (by decide) ?_
        exact hret hf hP hS d_LinkAudit_method_27
-- LinkAudit$References.add
theorem xg_References_24 {p : Program} {l : Launch} {e : Env} {R : Room} {s : State} {m : MethodId} {args : Array Value} {below : List Frame} {meth : Method} {c : Code} {H : Heap} {locs : List Loc} {cells slots : Nat} {Q : State → Prop} {cc : ByteArray} {pc : Nat} {ls : Array Slot} {rest : List Value} {D : va_G} {cI cL cG cZ : ClassId} {ad : Nat → Nat} {M : Mem} (hx : p.tables.exec = Jvm.exec) (hb : c.code = cc) (hta : ∀ w ∈ ALLW, w.before args s = true) (hown : s.vm.findClass "LinkAudit$References" = some m.cls) (hK : va_K D vwC [(cI, .int), (cL, .long), (cG, .array .int), (cZ, .boolean)] s) (hP : va_P D vwC (c_ws cI cL cG cZ ad M) H) (hdg : decode cc pc = .ok (.getfield 24, 3))
    (kk : W p l e R s m args below meth c H locs cells slots Q (F0 m (pc + 3) ls (.int (M.1 4 4) :: rest))) : W p l e R s m args below meth c H locs cells slots Q (F0 m pc ls (.ref (ad 4) :: rest)) :=
  va_get (D := D) (ci := 4) (v := .int (M.1 4 4)) (C := "LinkAudit$References") (T := T_References) (N := 5) hx hb hta i_References hown hK hP 4 c_c4 rfl 4 (by decide) (hta _ wm_143) (fun _ h9 => h9) rfl hdg kk
theorem xp_References_24 {p : Program} {l : Launch} {e : Env} {R : Room} {s : State} {m : MethodId} {args : Array Value} {below : List Frame} {meth : Method} {c : Code} {H : Heap} {locs : List Loc} {cells slots : Nat} {Q : State → Prop} {cc : ByteArray} {pc : Nat} {ls : Array Slot} {rest : List Value} {D : va_G} {cI cL cG cZ : ClassId} {ad : Nat → Nat} {M : Mem} {H0 : Heap} {M1 : Mem} {x : Int32} (hx : p.tables.exec = Jvm.exec) (hb : c.code = cc) (hta : ∀ w ∈ ALLW, w.before args s = true) (hown : s.vm.findClass "LinkAudit$References" = some m.cls) (hK : va_K D vwC [(cI, .int), (cL, .long), (cG, .array .int), (cZ, .boolean)] s) (hP : va_P D vwC (c_ws cI cL cG cZ ad M) H) (hD : va_D (c_A ad) (c_ws cI cL cG cZ ad M)) (hS : va_S (c_A ad) H0 H locs) (eM : M1 = u1 M 4 4 x) (hdg : decode cc pc = .ok (.putfield 24, 3))
    (kk : ∀ (H1 : Heap) (locs1 : List Loc), va_P D vwC (c_ws cI cL cG cZ ad M1) H1 → va_S (c_A ad) H0 H1 locs1 → W p l e R s m args below meth c H1 locs1 cells slots Q (F0 m (pc + 3) ls rest)) : W p l e R s m args below meth c H locs cells slots Q (F0 m pc ls (.int x :: .ref (ad 4) :: rest)) := by
  refine va_put (D := D) (ci := 4) (v := .int x) (ty := .int) (C := "LinkAudit$References") (T := T_References) (N := 5) hx hb hta i_References t_References t_References_ok n_References hown hK hP hD hS 4 c_c4 rfl 4 (by decide) (hta _ wm_143) (fun _ h9 => h9) rfl (by decide +kernel) rfl rfl (Nat.le_of_ble_eq_true rfl) hdg (fun H1 locs1 h1 _ h3 => kk H1 locs1 ?_ h3)
  rw [eM]
  exact h1
theorem xvc_References_28 {p : Program} {l : Launch} {e : Env} {R : Room} {s : State} {m : MethodId} {args : Array Value} {below : List Frame} {meth : Method} {c : Code} {H : Heap} {locs : List Loc} {cells slots : Nat} {Q : State → Prop} {cc : ByteArray} {pc : Nat} {ls : Array Slot} {rest : List Value} {D : va_G} {cI cL cG cZ : ClassId} {ad : Nat → Nat} {M : Mem} {H0 : Heap} {nL : Nat} {a0 : Int32} {a1 : Int32} {r : Int32} (X : CallFix p m c cc nL s args ALLW "LinkAudit$References") (hkk : Kk D cI cL cG cZ s) (hD : ∀ M, va_D (c_A ad) (c_ws cI cL cG cZ ad M)) (hrest : (rest.map fun v => v.category).sum ≤ 8) (hR : 0 + 1 ≤ R.frames ∧ 8 + (2 + 11) + 0 ≤ R.locals) (hcs : cells + 0 ≤ R.cells ∧ slots + 0 ≤ R.slots) (hc : f_Members_fieldSignature a0 a1 = some r) (hsz : ls.size = nL) (hP : va_P D vwC (c_ws cI cL cG cZ ad M) H) (hS : va_S (c_A ad) H0 H locs) (hdg : decode cc pc = .ok (.invokestatic 28, 3))
    (kk : ∀ (H1 : Heap) (locs1 : List Loc), va_P D vwC (c_ws cI cL cG cZ ad M) H1 → va_S (c_A ad) H0 H1 locs1 → W p l e R s m args below meth c H1 locs1 cells slots Q (F0 m (pc + 3) ls (.int r :: rest))) : W p l e R s m args below meth c H locs cells slots Q (F0 m pc ls (.int a1 :: .int a0 :: rest)) := by
  have hta := X.2.2.2.2
  exact x_after0I e_no (va_runS (As := [.int a0, .int a1]) (rest := rest) X (c_Members_fieldSignature (ad := ad) (M := M) e_D hc) ⟨callB_of 2 hta (good_all (L := .code y_Members_fieldSignature prog_7_method_3_code 2 (some .int) :: ALLW) (List.forall_mem_cons.mpr ⟨wm_377, fun _ h => h⟩)) rfl rfl rfl (hta _ wm_4) (hta _ wm_421) (by decide +kernel) hR, hta _ wm_376⟩ ⟨x_blind Kk_w _, x_pre Kk_w hkk e_P _⟩ rfl rfl hsz rfl (lv_room hrest) hdg hcs) hP hS kk
theorem xg_References_9 {p : Program} {l : Launch} {e : Env} {R : Room} {s : State} {m : MethodId} {args : Array Value} {below : List Frame} {meth : Method} {c : Code} {H : Heap} {locs : List Loc} {cells slots : Nat} {Q : State → Prop} {cc : ByteArray} {pc : Nat} {ls : Array Slot} {rest : List Value} {D : va_G} {cI cL cG cZ : ClassId} {ad : Nat → Nat} {M : Mem} (hx : p.tables.exec = Jvm.exec) (hb : c.code = cc) (hta : ∀ w ∈ ALLW, w.before args s = true) (hown : s.vm.findClass "LinkAudit$References" = some m.cls) (hK : va_K D vwC [(cI, .int), (cL, .long), (cG, .array .int), (cZ, .boolean)] s) (hP : va_P D vwC (c_ws cI cL cG cZ ad M) H) (hdg : decode cc pc = .ok (.getfield 9, 3))
    (kk : W p l e R s m args below meth c H locs cells slots Q (F0 m (pc + 3) ls (.ref (ad 33) :: rest))) : W p l e R s m args below meth c H locs cells slots Q (F0 m pc ls (.ref (ad 4) :: rest)) :=
  va_get (D := D) (ci := 4) (v := .ref (ad 33)) (C := "LinkAudit$References") (T := T_References) (N := 5) hx hb hta i_References hown hK hP 4 c_c4 rfl 0 (by decide) (hta _ wm_133) (fun _ h9 => h9) rfl hdg kk
theorem xg_References_15 {p : Program} {l : Launch} {e : Env} {R : Room} {s : State} {m : MethodId} {args : Array Value} {below : List Frame} {meth : Method} {c : Code} {H : Heap} {locs : List Loc} {cells slots : Nat} {Q : State → Prop} {cc : ByteArray} {pc : Nat} {ls : Array Slot} {rest : List Value} {D : va_G} {cI cL cG cZ : ClassId} {ad : Nat → Nat} {M : Mem} (hx : p.tables.exec = Jvm.exec) (hb : c.code = cc) (hta : ∀ w ∈ ALLW, w.before args s = true) (hown : s.vm.findClass "LinkAudit$References" = some m.cls) (hK : va_K D vwC [(cI, .int), (cL, .long), (cG, .array .int), (cZ, .boolean)] s) (hP : va_P D vwC (c_ws cI cL cG cZ ad M) H) (hdg : decode cc pc = .ok (.getfield 15, 3))
    (kk : W p l e R s m args below meth c H locs cells slots Q (F0 m (pc + 3) ls (.ref (ad 34) :: rest))) : W p l e R s m args below meth c H locs cells slots Q (F0 m pc ls (.ref (ad 4) :: rest)) :=
  va_get (D := D) (ci := 4) (v := .ref (ad 34)) (C := "LinkAudit$References") (T := T_References) (N := 5) hx hb hta i_References hown hK hP 4 c_c4 rfl 1 (by decide) (hta _ wm_136) (fun _ h9 => h9) rfl hdg kk
theorem xg_References_18 {p : Program} {l : Launch} {e : Env} {R : Room} {s : State} {m : MethodId} {args : Array Value} {below : List Frame} {meth : Method} {c : Code} {H : Heap} {locs : List Loc} {cells slots : Nat} {Q : State → Prop} {cc : ByteArray} {pc : Nat} {ls : Array Slot} {rest : List Value} {D : va_G} {cI cL cG cZ : ClassId} {ad : Nat → Nat} {M : Mem} (hx : p.tables.exec = Jvm.exec) (hb : c.code = cc) (hta : ∀ w ∈ ALLW, w.before args s = true) (hown : s.vm.findClass "LinkAudit$References" = some m.cls) (hK : va_K D vwC [(cI, .int), (cL, .long), (cG, .array .int), (cZ, .boolean)] s) (hP : va_P D vwC (c_ws cI cL cG cZ ad M) H) (hdg : decode cc pc = .ok (.getfield 18, 3))
    (kk : W p l e R s m args below meth c H locs cells slots Q (F0 m (pc + 3) ls (.ref (ad 35) :: rest))) : W p l e R s m args below meth c H locs cells slots Q (F0 m pc ls (.ref (ad 4) :: rest)) :=
  va_get (D := D) (ci := 4) (v := .ref (ad 35)) (C := "LinkAudit$References") (T := T_References) (N := 5) hx hb hta i_References hown hK hP 4 c_c4 rfl 2 (by decide) (hta _ wm_139) (fun _ h9 => h9) rfl hdg kk
theorem xg_References_21 {p : Program} {l : Launch} {e : Env} {R : Room} {s : State} {m : MethodId} {args : Array Value} {below : List Frame} {meth : Method} {c : Code} {H : Heap} {locs : List Loc} {cells slots : Nat} {Q : State → Prop} {cc : ByteArray} {pc : Nat} {ls : Array Slot} {rest : List Value} {D : va_G} {cI cL cG cZ : ClassId} {ad : Nat → Nat} {M : Mem} (hx : p.tables.exec = Jvm.exec) (hb : c.code = cc) (hta : ∀ w ∈ ALLW, w.before args s = true) (hown : s.vm.findClass "LinkAudit$References" = some m.cls) (hK : va_K D vwC [(cI, .int), (cL, .long), (cG, .array .int), (cZ, .boolean)] s) (hP : va_P D vwC (c_ws cI cL cG cZ ad M) H) (hdg : decode cc pc = .ok (.getfield 21, 3))
    (kk : W p l e R s m args below meth c H locs cells slots Q (F0 m (pc + 3) ls (.ref (ad 36) :: rest))) : W p l e R s m args below meth c H locs cells slots Q (F0 m pc ls (.ref (ad 4) :: rest)) :=
  va_get (D := D) (ci := 4) (v := .ref (ad 36)) (C := "LinkAudit$References") (T := T_References) (N := 5) hx hb hta i_References hown hK hP 4 c_c4 rfl 3 (by decide) (hta _ wm_141) (fun _ h9 => h9) rfl hdg kk
theorem xvc_References_34 {p : Program} {l : Launch} {e : Env} {R : Room} {s : State} {m : MethodId} {args : Array Value} {below : List Frame} {meth : Method} {c : Code} {H : Heap} {locs : List Loc} {cells slots : Nat} {Q : State → Prop} {cc : ByteArray} {pc : Nat} {ls : Array Slot} {rest : List Value} {D : va_G} {cI cL cG cZ : ClassId} {ad : Nat → Nat} {M : Mem} {H0 : Heap} {nL : Nat} {a0 : Int32} {a1 : Int32} {a2 : Int32} {r : Int32} (X : CallFix p m c cc nL s args ALLW "LinkAudit$References") (hkk : Kk D cI cL cG cZ s) (hD : ∀ M, va_D (c_A ad) (c_ws cI cL cG cZ ad M)) (hrest : (rest.map fun v => v.category).sum ≤ 8) (hR : 0 + 1 ≤ R.frames ∧ 8 + (3 + 11) + 0 ≤ R.locals) (hcs : cells + 0 ≤ R.cells ∧ slots + 0 ≤ R.slots) (hc : f_Members_methodSignature a0 a1 a2 = some r) (hsz : ls.size = nL) (hP : va_P D vwC (c_ws cI cL cG cZ ad M) H) (hS : va_S (c_A ad) H0 H locs) (hdg : decode cc pc = .ok (.invokestatic 34, 3))
    (kk : ∀ (H1 : Heap) (locs1 : List Loc), va_P D vwC (c_ws cI cL cG cZ ad M) H1 → va_S (c_A ad) H0 H1 locs1 → W p l e R s m args below meth c H1 locs1 cells slots Q (F0 m (pc + 3) ls (.int r :: rest))) : W p l e R s m args below meth c H locs cells slots Q (F0 m pc ls (.int a2 :: .int a1 :: .int a0 :: rest)) := by
  have hta := X.2.2.2.2
  exact x_after0I e_no (va_runS (As := [.int a0, .int a1, .int a2]) (rest := rest) X (c_Members_methodSignature (ad := ad) (M := M) e_D hc) ⟨callB_of 3 hta (good_all (L := .code y_Members_methodSignature prog_7_method_2_code 3 (some .int) :: ALLW) (List.forall_mem_cons.mpr ⟨wm_412, fun _ h => h⟩)) rfl rfl rfl (hta _ wm_4) (hta _ wm_422) (by decide +kernel) hR, hta _ wm_411⟩ ⟨x_blind Kk_w _, x_pre Kk_w hkk e_P _⟩ rfl rfl hsz rfl (lv_room hrest) hdg hcs) hP hS kk
set_option maxHeartbeats 4000000 in
set_option maxRecDepth 100000 in
theorem c_References_add {l : Launch} {D : va_G} {cI cL cG cZ : ClassId} {ad : Nat → Nat} {M M' : Mem} {a1 : Int32} {a2 : Int32} {a3 : Int32} {a4 : Int32} {a5 : Int32} {r : Int32} (hD : ∀ M, va_D (c_A ad) (c_ws cI cL cG cZ ad M)) (hf : f_References_add M a1 a2 a3 a4 a5 = some (r, M')) : Mi l y_References_add (.code y_References_add prog_8_method_2_code 8 (some .int) :: ALLW) (rmR 1 22) (Kk D cI cL cG cZ) D vwC (c_A ad) (c_ws cI cL cG cZ ad) [.ref (ad 4), .int a1, .int a2, .int a3, .int a4, .int a5] M M' r := by
  refine Mi_of (by decide) (Nat.le_of_ble_eq_true rfl) ?_
  intro p e s m args below meth c ls Q X hkk hret hP hl
  obtain ⟨hx, hb, hml, hown, hta⟩ := id X
  have hKv := hkk.1
  have hS : va_S (c_A ad) s.heap s.heap [] := va_S.rf
  have hl : lv_has ls 8 [(0, .ref (ad 4)), (1, .int a1), (2, .int a2), (3, .int a3), (4, .int a4), (5, .int a5)] := hl
  have b80 : ∀ (M : Mem) (t1 : Int32) (t2 : Int32) (H : Heap) (locs : List Loc) (ls : Array Slot), f_References_add_b80 M t1 t2 = some (r, M') → va_P D vwC (c_ws cI cL cG cZ ad M) H → va_S (c_A ad) s.heap H locs → lv_has ls 8 [(0, .ref (ad 4))] → W p l e (rmR 1 22) s m args below meth c H locs 0 0 Q (F0 m 80 ls [.int t2, .int t1, .ref (ad 36)]) := by
    intro M t1 t2 H locs ls hf hP hS hl
    unfold f_References_add_b80 at hf
    obtain ⟨g1, hf⟩ := gd_ok hf
    obtain ⟨M8, eM8, hf⟩ := sm_e hf
    refine x_ist hx hb hKv hP (hD _) hS c_c36 c_s36 g1 eM8 d_References_add_80 (fun H locs hP hS => ?_)
    refine lv_aload_n hx hb d_References_add_81 rfl (lv_at hl 0 rfl) ?_
    refine lv_dup hx hb d_References_add_82 rfl ?_
    refine xg_References_24 hx hb hta hown hKv hP d_References_add_83 ?_
    refine lv_iconst (v := (1 : Int32)) hx hb d_References_add_86 (by decide) ?_
    refine lv_iadd hx hb d_References_add_87 ?_
    obtain ⟨M9, eM9, hf⟩ := sm_e hf
    refine xp_References_24 hx hb hta hown hKv hP (hD _) hS eM9 d_References_add_88 (fun H locs hP hS => ?_)
    refine lv_aload_n hx hb d_References_add_91 rfl (lv_at hl 0 rfl) ?_
    refine xg_References_24 hx hb hta hown hKv hP d_References_add_92 ?_
    refine lv_iconst (v := (1 : Int32)) hx hb d_References_add_95 (by decide) ?_
    refine lv_isub hx hb d_References_add_96 ?_
    exact hret hf hP hS d_References_add_97
  have b61 : ∀ (M : Mem) (x4 : Int32) (x7 : Int32) (t1 : Int32) (H : Heap) (locs : List Loc) (ls : Array Slot), f_References_add_b61 M x4 x7 t1 = some (r, M') → va_P D vwC (c_ws cI cL cG cZ ad M) H → va_S (c_A ad) s.heap H locs → lv_has ls 8 [(0, .ref (ad 4)), (4, .int x4), (7, .int x7)] → W p l e (rmR 1 22) s m args below meth c H locs 0 0 Q (F0 m 61 ls [.int t1, .ref (ad 36)]) := by
    intro M x4 x7 t1 H locs ls hf hP hS hl
    unfold f_References_add_b61 at hf
    refine lv_iload hx hb d_References_add_61 (lv_at hl 2 rfl) ?_
    refine lv_iload hx hb d_References_add_63 (lv_at hl 1 rfl) ?_
    obtain ⟨r10, hc2, hf⟩ := bd1_e hf
    refine xvc_References_28 X hkk hD (Nat.le_of_ble_eq_true rfl) ⟨by dsimp only [rmR]; omega, by dsimp only [rmR]; omega⟩ ⟨Nat.zero_le _, Nat.zero_le _⟩ hc2 hl.1 hP hS d_References_add_65 (fun H locs hP hS => ?_)
    refine lv_goto (tgt := 80) hx hb d_References_add_68 (by decide) ?_
    exact b80 M t1 r10 _ _ _ hf hP hS (lv_sub hl [0] rfl)
  unfold f_References_add at hf
  refine lv_iload_n hx hb d_References_add_0 rfl (lv_at hl 2 rfl) ?_
  refine lv_iconst (v := (4 : Int32)) hx hb d_References_add_1 (by decide) ?_
  refine lv_idiv hx hb d_References_add_2 (by decide) ?_
  refine lv_istore (lv' := [(6, .int (a2 / (4 : Int32))), (0, .ref (ad 4)), (1, .int a1), (2, .int a2), (3, .int a3), (4, .int a4), (5, .int a5)]) hx hb d_References_add_3 hl (by decide) rfl (fun ls hl => ?_)
  refine lv_iload_n hx hb d_References_add_5 rfl (lv_at hl 3 rfl) ?_
  refine lv_iconst (v := (4 : Int32)) hx hb d_References_add_6 (by decide) ?_
  refine lv_irem hx hb d_References_add_7 (by decide) ?_
  refine lv_istore (lv' := [(7, .int (a2 - a2 / (4 : Int32) * (4 : Int32))), (6, .int (a2 / (4 : Int32))), (0, .ref (ad 4)), (1, .int a1), (2, .int a2), (3, .int a3), (4, .int a4), (5, .int a5)]) hx hb d_References_add_8 hl (by decide) rfl (fun ls hl => ?_)
  refine lv_aload_n hx hb d_References_add_10 rfl (lv_at hl 2 rfl) ?_
  refine xg_References_9 hx hb hta hown hKv hP d_References_add_11 ?_
  refine lv_aload_n hx hb d_References_add_14 rfl (lv_at hl 2 rfl) ?_
  refine xg_References_24 hx hb hta hown hKv hP d_References_add_15 ?_
  refine lv_iload_n hx hb d_References_add_18 rfl (lv_at hl 3 rfl) ?_
  obtain ⟨g3, hf⟩ := gd_ok hf
  obtain ⟨M11, eM11, hf⟩ := sm_e hf
  refine x_ist hx hb hKv hP (hD _) hS c_c33 c_s33 g3 eM11 d_References_add_19 (fun H locs hP hS => ?_)
  refine lv_aload_n hx hb d_References_add_20 rfl (lv_at hl 2 rfl) ?_
  refine xg_References_15 hx hb hta hown hKv hP d_References_add_21 ?_
  refine lv_aload_n hx hb d_References_add_24 rfl (lv_at hl 2 rfl) ?_
  refine xg_References_24 hx hb hta hown hKv hP d_References_add_25 ?_
  refine lv_iload hx hb d_References_add_28 (lv_at hl 1 rfl) ?_
  obtain ⟨g4, hf⟩ := gd_ok hf
  obtain ⟨M12, eM12, hf⟩ := sm_e hf
  refine x_ist hx hb hKv hP (hD _) hS c_c34 c_s34 g4 eM12 d_References_add_30 (fun H locs hP hS => ?_)
  refine lv_aload_n hx hb d_References_add_31 rfl (lv_at hl 2 rfl) ?_
  refine xg_References_18 hx hb hta hown hKv hP d_References_add_32 ?_
  refine lv_aload_n hx hb d_References_add_35 rfl (lv_at hl 2 rfl) ?_
  refine xg_References_24 hx hb hta hown hKv hP d_References_add_36 ?_
  refine lv_iload_n hx hb d_References_add_39 rfl (lv_at hl 5 rfl) ?_
  obtain ⟨g5, hf⟩ := gd_ok hf
  obtain ⟨M13, eM13, hf⟩ := sm_e hf
  refine x_ist hx hb hKv hP (hD _) hS c_c35 c_s35 g5 eM13 d_References_add_40 (fun H locs hP hS => ?_)
  refine lv_aload_n hx hb d_References_add_41 rfl (lv_at hl 2 rfl) ?_
  refine xg_References_21 hx hb hta hown hKv hP d_References_add_42 ?_
  refine lv_aload_n hx hb d_References_add_45 rfl (lv_at hl 2 rfl) ?_
  refine xg_References_24 hx hb hta hown hKv hP d_References_add_46 ?_
  refine lv_iload hx hb d_References_add_49 (lv_at hl 1 rfl) ?_
  refine lv_iconst (v := (1 : Int32)) hx hb d_References_add_51 (by decide) ?_
  refine lv_icmp_eq (tgt := 61) hx hb d_References_add_52 (by decide) (fun c6 => ?_) (fun c6 => ?_)
  · have hf := ifp c6 hf
    exact b61 M13 a4 (a2 - a2 / (4 : Int32) * (4 : Int32)) (M13.1 4 4) _ _ _ hf hP hS (lv_sub hl [2, 6, 0] rfl)
  · have hf := ifn c6 hf
    refine lv_iload hx hb d_References_add_55 (lv_at hl 1 rfl) ?_
    refine lv_iconst (v := (2 : Int32)) hx hb d_References_add_57 (by decide) ?_
    refine lv_icmp_ne (tgt := 71) hx hb d_References_add_58 (by decide) (fun c7 => ?_) (fun c7 => ?_)
    · have hf := ifn c7 hf
      refine lv_iload hx hb d_References_add_71 (lv_at hl 0 rfl) ?_
      refine lv_iload hx hb d_References_add_73 (lv_at hl 6 rfl) ?_
      refine lv_iload hx hb d_References_add_75 (lv_at hl 7 rfl) ?_
      obtain ⟨r14, hc8, hf⟩ := bd1_e hf
      refine xvc_References_34 X hkk hD (Nat.le_of_ble_eq_true rfl) ⟨by dsimp only [rmR]; omega, by dsimp only [rmR]; omega⟩ ⟨Nat.zero_le _, Nat.zero_le _⟩ hc8 hl.1 hP hS d_References_add_77 (fun H locs hP hS => ?_)
      exact b80 M13 (M13.1 4 4) r14 _ _ _ hf hP hS (lv_sub hl [2] rfl)
    · have hf := ifp c7 hf
      exact b61 M13 a4 (a2 - a2 / (4 : Int32) * (4 : Int32)) (M13.1 4 4) _ _ _ hf hP hS (lv_sub hl [2, 6, 0] rfl)
-- LinkAudit.reference
theorem xg_LinkAudit_33 {p : Program} {l : Launch} {e : Env} {R : Room} {s : State} {m : MethodId} {args : Array Value} {below : List Frame} {meth : Method} {c : Code} {H : Heap} {locs : List Loc} {cells slots : Nat} {Q : State → Prop} {cc : ByteArray} {pc : Nat} {ls : Array Slot} {rest : List Value} {D : va_G} {cI cL cG cZ : ClassId} {ad : Nat → Nat} {M : Mem} (hx : p.tables.exec = Jvm.exec) (hb : c.code = cc) (hta : ∀ w ∈ ALLW, w.before args s = true) (hown : s.vm.findClass "LinkAudit" = some m.cls) (hK : va_K D vwC [(cI, .int), (cL, .long), (cG, .array .int), (cZ, .boolean)] s) (hP : va_P D vwC (c_ws cI cL cG cZ ad M) H) (hdg : decode cc pc = .ok (.getfield 33, 3))
    (kk : W p l e R s m args below meth c H locs cells slots Q (F0 m (pc + 3) ls (.ref (ad 4) :: rest))) : W p l e R s m args below meth c H locs cells slots Q (F0 m pc ls (.ref (ad 0) :: rest)) :=
  va_get (D := D) (ci := 0) (v := .ref (ad 4)) (C := "LinkAudit") (T := T_LinkAudit) (N := 10) hx hb hta i_LinkAudit hown hK hP 0 c_c0 rfl 3 (by decide) (hta _ wm_301) (fun _ h9 => h9) rfl hdg kk
theorem xg_LinkAudit_139 {p : Program} {l : Launch} {e : Env} {R : Room} {s : State} {m : MethodId} {args : Array Value} {below : List Frame} {meth : Method} {c : Code} {H : Heap} {locs : List Loc} {cells slots : Nat} {Q : State → Prop} {cc : ByteArray} {pc : Nat} {ls : Array Slot} {rest : List Value} {D : va_G} {cI cL cG cZ : ClassId} {ad : Nat → Nat} {M : Mem} (hx : p.tables.exec = Jvm.exec) (hb : c.code = cc) (hta : ∀ w ∈ ALLW, w.before args s = true) (hown : s.vm.findClass "LinkAudit" = some m.cls) (hK : va_K D vwC [(cI, .int), (cL, .long), (cG, .array .int), (cZ, .boolean)] s) (hP : va_P D vwC (c_ws cI cL cG cZ ad M) H) (hdg : decode cc pc = .ok (.getfield 139, 3))
    (kk : W p l e R s m args below meth c H locs cells slots Q (F0 m (pc + 3) ls (.int (M.1 4 4) :: rest))) : W p l e R s m args below meth c H locs cells slots Q (F0 m pc ls (.ref (ad 4) :: rest)) :=
  va_get (D := D) (ci := 4) (v := .int (M.1 4 4)) (C := "LinkAudit$References") (T := T_References) (N := 5) hx hb hta i_References hown hK hP 4 c_c4 rfl 4 (by decide) (hta _ wm_145) (fun _ h9 => h9) rfl hdg kk
theorem xvc_LinkAudit_140 {p : Program} {l : Launch} {e : Env} {R : Room} {s : State} {m : MethodId} {args : Array Value} {below : List Frame} {meth : Method} {c : Code} {H : Heap} {locs : List Loc} {cells slots : Nat} {Q : State → Prop} {cc : ByteArray} {pc : Nat} {ls : Array Slot} {rest : List Value} {D : va_G} {cI cL cG cZ : ClassId} {ad : Nat → Nat} {M : Mem} {H0 : Heap} {M1 : Mem} {nL : Nat} {a0 : Int32} {a1 : Int32} {a2 : Int32} {a3 : Int32} {a4 : Int32} {r : Int32} (X : CallFix p m c cc nL s args ALLW "LinkAudit") (hkk : Kk D cI cL cG cZ s) (hD : ∀ M, va_D (c_A ad) (c_ws cI cL cG cZ ad M)) (hrest : (rest.map fun v => v.category).sum ≤ 8) (hR : 1 + 1 ≤ R.frames ∧ 8 + (8 + 11) + 22 ≤ R.locals) (hcs : cells + 0 ≤ R.cells ∧ slots + 0 ≤ R.slots) (hc : f_References_add M a0 a1 a2 a3 a4 = some (r, M1)) (hsz : ls.size = nL) (hP : va_P D vwC (c_ws cI cL cG cZ ad M) H) (hS : va_S (c_A ad) H0 H locs) (hdg : decode cc pc = .ok (.invokevirtual 140, 3))
    (kk : ∀ (H1 : Heap) (locs1 : List Loc), va_P D vwC (c_ws cI cL cG cZ ad M1) H1 → va_S (c_A ad) H0 H1 locs1 → W p l e R s m args below meth c H1 locs1 cells slots Q (F0 m (pc + 3) ls (.int r :: rest))) : W p l e R s m args below meth c H locs cells slots Q (F0 m pc ls (.int a4 :: .int a3 :: .int a2 :: .int a1 :: .int a0 :: .ref (ad 4) :: rest)) := by
  have hta := X.2.2.2.2
  exact x_afterI (va_runV (As := [.int a0, .int a1, .int a2, .int a3, .int a4]) (rest := rest) X (c_References_add hD hc) ⟨callB_of 5 hta (good_all (L := .code y_References_add prog_8_method_2_code 8 (some .int) :: ALLW) (List.forall_mem_cons.mpr ⟨wm_420, fun _ h => h⟩)) rfl rfl rfl (hta _ wm_5) (hta _ wm_417) (by decide +kernel) hR, hta _ wm_418, hta _ wm_419⟩ ⟨x_blind Kk_w _, va_recv hkk.1 hP (ci := 4) (q0 := 4) rfl c_c4, x_pre Kk_w hkk hP _⟩ rfl rfl hsz rfl (lv_room hrest) hdg hcs) hS kk
set_option maxHeartbeats 4000000 in
set_option maxRecDepth 100000 in
theorem c_LinkAudit_reference {l : Launch} {D : va_G} {cI cL cG cZ : ClassId} {ad : Nat → Nat} {M M' : Mem} {a1 : Int32} {a2 : Int32} {a3 : Int32} {a4 : Int32} {a5 : Int32} {r : Int32} (hD : ∀ M, va_D (c_A ad) (c_ws cI cL cG cZ ad M)) (hf : f_LinkAudit_reference M a1 a2 a3 a4 a5 = some (r, M')) : Mi l y_LinkAudit_reference (.code y_LinkAudit_reference prog_1_method_7_code 6 (some .int) :: ALLW) (rmR 2 49) (Kk D cI cL cG cZ) D vwC (c_A ad) (c_ws cI cL cG cZ ad) [.ref (ad 0), .int a1, .int a2, .int a3, .int a4, .int a5] M M' r := by
  refine Mi_of (by decide) (Nat.le_of_ble_eq_true rfl) ?_
  intro p e s m args below meth c ls Q X hkk hret hP hl
  obtain ⟨hx, hb, hml, hown, hta⟩ := id X
  have hKv := hkk.1
  have hS : va_S (c_A ad) s.heap s.heap [] := va_S.rf
  have hl : lv_has ls 6 [(0, .ref (ad 0)), (1, .int a1), (2, .int a2), (3, .int a3), (4, .int a4), (5, .int a5)] := hl
  unfold f_LinkAudit_reference at hf
  refine lv_aload_n hx hb d_LinkAudit_reference_0 rfl (lv_at hl 0 rfl) ?_
  refine lv_iload_n hx hb d_LinkAudit_reference_1 rfl (lv_at hl 1 rfl) ?_
  obtain ⟨r9, hc1, hf⟩ := bd1_e hf
  refine xvc_LinkAudit_123 X hkk hD (Nat.le_of_ble_eq_true rfl) ⟨by dsimp only [rmR]; omega, by dsimp only [rmR]; omega⟩ ⟨Nat.zero_le _, Nat.zero_le _⟩ hc1 hl.1 hP hS d_LinkAudit_reference_2 (fun H locs hP hS => ?_)
  refine lv_if_eq (tgt := 26) hx hb d_LinkAudit_reference_5 (by decide) (fun c2 => ?_) (fun c2 => ?_)
  · have hf := ifp c2 hf
    refine lv_iconst (v := (-1 : Int32)) hx hb d_LinkAudit_reference_26 (by decide) ?_
    exact hret hf hP hS d_LinkAudit_reference_27
  · have hf := ifn c2 hf
    refine lv_iload_n hx hb d_LinkAudit_reference_8 rfl (lv_at hl 2 rfl) ?_
    refine lv_bipush (v := (24 : Int32)) hx hb d_LinkAudit_reference_9 (by decide) ?_
    obtain ⟨r10, hc3, hf⟩ := bd1_e hf
    refine xvc_LinkAudit_89 X hkk hD (Nat.le_of_ble_eq_true rfl) ⟨by dsimp only [rmR]; omega, by dsimp only [rmR]; omega⟩ ⟨Nat.zero_le _, Nat.zero_le _⟩ hc3 hl.1 hP hS d_LinkAudit_reference_11 (fun H locs hP hS => ?_)
    refine lv_if_eq (tgt := 26) hx hb d_LinkAudit_reference_14 (by decide) (fun c4 => ?_) (fun c4 => ?_)
    · have hf := ifp c4 hf
      refine lv_iconst (v := (-1 : Int32)) hx hb d_LinkAudit_reference_26 (by decide) ?_
      exact hret hf hP hS d_LinkAudit_reference_27
    · have hf := ifn c4 hf
      refine lv_iload_n hx hb d_LinkAudit_reference_17 rfl (lv_at hl 3 rfl) ?_
      refine lv_bipush (v := (12 : Int32)) hx hb d_LinkAudit_reference_18 (by decide) ?_
      obtain ⟨r11, hc5, hf⟩ := bd1_e hf
      refine xvc_LinkAudit_89 X hkk hD (Nat.le_of_ble_eq_true rfl) ⟨by dsimp only [rmR]; omega, by dsimp only [rmR]; omega⟩ ⟨Nat.zero_le _, Nat.zero_le _⟩ hc5 hl.1 hP hS d_LinkAudit_reference_20 (fun H locs hP hS => ?_)
      refine lv_if_ne (tgt := 28) hx hb d_LinkAudit_reference_23 (by decide) (fun c6 => ?_) (fun c6 => ?_)
      · have hf := ifn c6 hf
        refine lv_iload hx hb d_LinkAudit_reference_28 (lv_at hl 4 rfl) ?_
        refine lv_bipush (v := (13 : Int32)) hx hb d_LinkAudit_reference_30 (by decide) ?_
        obtain ⟨r12, hc7, hf⟩ := bd1_e hf
        refine xvc_LinkAudit_89 X hkk hD (Nat.le_of_ble_eq_true rfl) ⟨by dsimp only [rmR]; omega, by dsimp only [rmR]; omega⟩ ⟨Nat.zero_le _, Nat.zero_le _⟩ hc7 hl.1 hP hS d_LinkAudit_reference_32 (fun H locs hP hS => ?_)
        refine lv_if_eq (tgt := 48) hx hb d_LinkAudit_reference_35 (by decide) (fun c8 => ?_) (fun c8 => ?_)
        · have hf := ifp c8 hf
          refine lv_iconst (v := (-1 : Int32)) hx hb d_LinkAudit_reference_48 (by decide) ?_
          exact hret hf hP hS d_LinkAudit_reference_49
        · have hf := ifn c8 hf
          refine lv_iload hx hb d_LinkAudit_reference_38 (lv_at hl 5 rfl) ?_
          refine lv_bipush (v := (13 : Int32)) hx hb d_LinkAudit_reference_40 (by decide) ?_
          obtain ⟨r13, hc9, hf⟩ := bd1_e hf
          refine xvc_LinkAudit_89 X hkk hD (Nat.le_of_ble_eq_true rfl) ⟨by dsimp only [rmR]; omega, by dsimp only [rmR]; omega⟩ ⟨Nat.zero_le _, Nat.zero_le _⟩ hc9 hl.1 hP hS d_LinkAudit_reference_42 (fun H locs hP hS => ?_)
          refine lv_if_ne (tgt := 50) hx hb d_LinkAudit_reference_45 (by decide) (fun c10 => ?_) (fun c10 => ?_)
          · have hf := ifn c10 hf
            refine lv_aload_n hx hb d_LinkAudit_reference_50 rfl (lv_at hl 0 rfl) ?_
            refine xg_LinkAudit_33 hx hb hta hown hKv hP d_LinkAudit_reference_51 ?_
            refine xg_LinkAudit_139 hx hb hta hown hKv hP d_LinkAudit_reference_54 ?_
            refine lv_bipush (v := (12 : Int32)) hx hb d_LinkAudit_reference_57 (by decide) ?_
            refine lv_icmp_lt (tgt := 65) hx hb d_LinkAudit_reference_59 (by decide) (fun c11 => ?_) (fun c11 => ?_)
            · have hf := ifp c11 hf
              refine lv_aload_n hx hb d_LinkAudit_reference_65 rfl (lv_at hl 0 rfl) ?_
              obtain ⟨M14, hc12, hf⟩ := bd1_e hf
              refine xvc_LinkAudit_100 X hkk hD (Nat.le_of_ble_eq_true rfl) ⟨by dsimp only [rmR]; omega, by dsimp only [rmR]; omega⟩ ⟨Nat.zero_le _, Nat.zero_le _⟩ hc12 hl.1 hP hS d_LinkAudit_reference_66 (fun H locs hP hS => ?_)
              refine lv_aload_n hx hb d_LinkAudit_reference_69 rfl (lv_at hl 0 rfl) ?_
              refine xg_LinkAudit_33 hx hb hta hown hKv hP d_LinkAudit_reference_70 ?_
              refine lv_iload_n hx hb d_LinkAudit_reference_73 rfl (lv_at hl 1 rfl) ?_
              refine lv_iload_n hx hb d_LinkAudit_reference_74 rfl (lv_at hl 2 rfl) ?_
              refine lv_iload_n hx hb d_LinkAudit_reference_75 rfl (lv_at hl 3 rfl) ?_
              refine lv_iload hx hb d_LinkAudit_reference_76 (lv_at hl 4 rfl) ?_
              refine lv_iload hx hb d_LinkAudit_reference_78 (lv_at hl 5 rfl) ?_
              obtain ⟨r16, M15, hc13, hf⟩ := bd2_e hf
              refine xvc_LinkAudit_140 X hkk hD (Nat.le_of_ble_eq_true rfl) ⟨by dsimp only [rmR]; omega, by dsimp only [rmR]; omega⟩ ⟨Nat.zero_le _, Nat.zero_le _⟩ hc13 hl.1 hP hS d_LinkAudit_reference_80 (fun H locs hP hS => ?_)
              exact hret hf hP hS d_LinkAudit_reference_83
            · have hf := ifn c11 hf
              refine lv_bipush (v := (-2 : Int32)) hx hb d_LinkAudit_reference_62 (by decide) ?_
              exact hret hf hP hS d_LinkAudit_reference_64
          · have hf := ifp c10 hf
            refine lv_iconst (v := (-1 : Int32)) hx hb d_LinkAudit_reference_48 (by decide) ?_
            exact hret hf hP hS d_LinkAudit_reference_49
      · have hf := ifp c6 hf
        refine lv_iconst (v := (-1 : Int32)) hx hb d_LinkAudit_reference_26 (by decide) ?_
        exact hret hf hP hS d_LinkAudit_reference_27
-- LinkAudit.hasBit
set_option maxHeartbeats 4000000 in
set_option maxRecDepth 100000 in
theorem c_LinkAudit_hasBit {l : Launch} {D : va_G} {cI cL cG cZ : ClassId} {ad : Nat → Nat} {M : Mem} {a0 : Int64} {a2 : Int32} {r : Int32} (hD : ∀ M, va_D (e_A ad) (e_ws cI cL cG cZ ad M)) (hf : f_LinkAudit_hasBit a0 a2 = some r) : Mi l y_LinkAudit_hasBit (.code y_LinkAudit_hasBit prog_1_method_22_code 3 (some .boolean) :: ALLW) (rmR 0 0) (Kk D cI cL cG cZ) D vwC (e_A ad) (e_ws cI cL cG cZ ad) [.long a0, .int a2] M M r := by
  refine Mz_ofR (by decide) (Nat.le_of_ble_eq_true rfl) ?_
  intro p e s m args below meth c ls Q X hkk hret hP hl
  obtain ⟨hx, hb, hml, hown, hta⟩ := id X
  have hKv := hkk.1
  have hS : va_S (e_A ad) s.heap s.heap [] := va_S.rf
  have hl : lv_has ls 3 [(0, .long a0), (2, .int a2)] := hl
  unfold f_LinkAudit_hasBit at hf
  refine lv_lload_n hx hb d_LinkAudit_hasBit_0 rfl (lv_at hl 0 rfl) ?_
  refine lv_iload_n hx hb d_LinkAudit_hasBit_1 rfl (lv_at hl 1 rfl) ?_
  refine lv_lshr hx hb d_LinkAudit_hasBit_2 rfl ?_
  refine lv_lconst (v := (1 : Int64)) hx hb d_LinkAudit_hasBit_3 (by decide) ?_
  refine lv_land hx hb d_LinkAudit_hasBit_4 ?_
  refine lv_lconst (v := (0 : Int64)) hx hb d_LinkAudit_hasBit_5 (by decide) ?_
  refine W.lcmp hx hb d_LinkAudit_hasBit_6 ?_
  refine lv_if_eq (tgt := 14) hx hb d_LinkAudit_hasBit_7 (by decide) (fun c1 => ?_) (fun c1 => ?_)
  · have hf := ifp c1 hf
    refine lv_iconst (v := (0 : Int32)) hx hb d_LinkAudit_hasBit_14 (by decide) ?_
    exact hret (Or.inl rfl) hf hP hS d_LinkAudit_hasBit_15
  · have hf := ifn c1 hf
    refine lv_iconst (v := (1 : Int32)) hx hb d_LinkAudit_hasBit_10 (by decide) ?_
    refine lv_goto (tgt := 15) hx hb d_LinkAudit_hasBit_11 (by decide) ?_
    exact hret (Or.inr rfl) hf hP hS d_LinkAudit_hasBit_15

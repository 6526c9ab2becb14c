-- LinkAudit$Inheritance.offered
theorem xg_Inheritance_7 {p : Program} {l : Launch} {e : Env} {R : Room} {s : State} {m : MethodId} {args : Array Value} {below : List Frame} {meth : Method} {c : Code} {H : Heap} {locs : List Loc} {cells slots : Nat} {Q : State → Prop} {cc : ByteArray} {pc : Nat} {ls : Array Slot} {rest : List Value} {D : va_G} {cI cL cG cZ : ClassId} {ad : Nat → Nat} {M : Mem} (hx : p.tables.exec = Jvm.exec) (hb : c.code = cc) (hta : ∀ w ∈ ALLW, w.before args s = true) (hown : s.vm.findClass "LinkAudit$Inheritance" = some m.cls) (hK : va_K D vwC [(cI, .int), (cL, .long), (cG, .array .int), (cZ, .boolean)] s) (hP : va_P D vwC (c_ws cI cL cG cZ ad M) H) (hdg : decode cc pc = .ok (.getfield 7, 3))
    (kk : W p l e R s m args below meth c H locs cells slots Q (F0 m (pc + 3) ls (.ref (ad 5) :: rest))) : W p l e R s m args below meth c H locs cells slots Q (F0 m pc ls (.ref (ad 6) :: rest)) :=
  va_get (D := D) (ci := 6) (v := .ref (ad 5)) (C := "LinkAudit$Inheritance") (T := T_Inheritance) (N := 2) hx hb hta i_Inheritance hown hK hP 6 c_c6 rfl 0 (by decide) (hta _ wm_210) (fun _ h9 => h9) rfl hdg kk
theorem xg_Inheritance_17 {p : Program} {l : Launch} {e : Env} {R : Room} {s : State} {m : MethodId} {args : Array Value} {below : List Frame} {meth : Method} {c : Code} {H : Heap} {locs : List Loc} {cells slots : Nat} {Q : State → Prop} {cc : ByteArray} {pc : Nat} {ls : Array Slot} {rest : List Value} {D : va_G} {cI cL cG cZ : ClassId} {ad : Nat → Nat} {M : Mem} (hx : p.tables.exec = Jvm.exec) (hb : c.code = cc) (hta : ∀ w ∈ ALLW, w.before args s = true) (hown : s.vm.findClass "LinkAudit$Inheritance" = some m.cls) (hK : va_K D vwC [(cI, .int), (cL, .long), (cG, .array .int), (cZ, .boolean)] s) (hP : va_P D vwC (c_ws cI cL cG cZ ad M) H) (hdg : decode cc pc = .ok (.getfield 17, 3))
    (kk : W p l e R s m args below meth c H locs cells slots Q (F0 m (pc + 3) ls (.ref (ad 2) :: rest))) : W p l e R s m args below meth c H locs cells slots Q (F0 m pc ls (.ref (ad 5) :: rest)) :=
  va_get (D := D) (ci := 5) (v := .ref (ad 2)) (C := "LinkAudit$Links") (T := T_Links) (N := 9) hx hb hta i_Links hown hK hP 5 c_c5 rfl 1 (by decide) (hta _ wm_169) (fun _ h9 => h9) rfl hdg kk
theorem xg_Inheritance_23 {p : Program} {l : Launch} {e : Env} {R : Room} {s : State} {m : MethodId} {args : Array Value} {below : List Frame} {meth : Method} {c : Code} {H : Heap} {locs : List Loc} {cells slots : Nat} {Q : State → Prop} {cc : ByteArray} {pc : Nat} {ls : Array Slot} {rest : List Value} {D : va_G} {cI cL cG cZ : ClassId} {ad : Nat → Nat} {M : Mem} (hx : p.tables.exec = Jvm.exec) (hb : c.code = cc) (hta : ∀ w ∈ ALLW, w.before args s = true) (hown : s.vm.findClass "LinkAudit$Inheritance" = some m.cls) (hK : va_K D vwC [(cI, .int), (cL, .long), (cG, .array .int), (cZ, .boolean)] s) (hP : va_P D vwC (c_ws cI cL cG cZ ad M) H) (hdg : decode cc pc = .ok (.getfield 23, 3))
    (kk : W p l e R s m args below meth c H locs cells slots Q (F0 m (pc + 3) ls (.int (M.1 2 5) :: rest))) : W p l e R s m args below meth c H locs cells slots Q (F0 m pc ls (.ref (ad 2) :: rest)) :=
  va_get (D := D) (ci := 2) (v := .int (M.1 2 5)) (C := "LinkAudit$Classes") (T := T_Classes) (N := 6) hx hb hta i_Classes hown hK hP 2 c_c2 rfl 5 (by decide) (hta _ wm_65) (fun _ h9 => h9) rfl hdg kk
theorem xg_Inheritance_13 {p : Program} {l : Launch} {e : Env} {R : Room} {s : State} {m : MethodId} {args : Array Value} {below : List Frame} {meth : Method} {c : Code} {H : Heap} {locs : List Loc} {cells slots : Nat} {Q : State → Prop} {cc : ByteArray} {pc : Nat} {ls : Array Slot} {rest : List Value} {D : va_G} {cI cL cG cZ : ClassId} {ad : Nat → Nat} {M : Mem} (hx : p.tables.exec = Jvm.exec) (hb : c.code = cc) (hta : ∀ w ∈ ALLW, w.before args s = true) (hown : s.vm.findClass "LinkAudit$Inheritance" = some m.cls) (hK : va_K D vwC [(cI, .int), (cL, .long), (cG, .array .int), (cZ, .boolean)] s) (hP : va_P D vwC (c_ws cI cL cG cZ ad M) H) (hdg : decode cc pc = .ok (.getfield 13, 3))
    (kk : W p l e R s m args below meth c H locs cells slots Q (F0 m (pc + 3) ls (.ref (ad 3) :: rest))) : W p l e R s m args below meth c H locs cells slots Q (F0 m pc ls (.ref (ad 6) :: rest)) :=
  va_get (D := D) (ci := 6) (v := .ref (ad 3)) (C := "LinkAudit$Inheritance") (T := T_Inheritance) (N := 2) hx hb hta i_Inheritance hown hK hP 6 c_c6 rfl 1 (by decide) (hta _ wm_213) (fun _ h9 => h9) rfl hdg kk
theorem xg_Inheritance_45 {p : Program} {l : Launch} {e : Env} {R : Room} {s : State} {m : MethodId} {args : Array Value} {below : List Frame} {meth : Method} {c : Code} {H : Heap} {locs : List Loc} {cells slots : Nat} {Q : State → Prop} {cc : ByteArray} {pc : Nat} {ls : Array Slot} {rest : List Value} {D : va_G} {cI cL cG cZ : ClassId} {ad : Nat → Nat} {M : Mem} (hx : p.tables.exec = Jvm.exec) (hb : c.code = cc) (hta : ∀ w ∈ ALLW, w.before args s = true) (hown : s.vm.findClass "LinkAudit$Inheritance" = some m.cls) (hK : va_K D vwC [(cI, .int), (cL, .long), (cG, .array .int), (cZ, .boolean)] s) (hP : va_P D vwC (c_ws cI cL cG cZ ad M) H) (hdg : decode cc pc = .ok (.getfield 45, 3))
    (kk : W p l e R s m args below meth c H locs cells slots Q (F0 m (pc + 3) ls (.long (M.2 3 4) :: rest))) : W p l e R s m args below meth c H locs cells slots Q (F0 m pc ls (.ref (ad 3) :: rest)) :=
  va_get (D := D) (ci := 3) (v := .long (M.2 3 4)) (C := "LinkAudit$Members") (T := T_Members) (N := 7) hx hb hta i_Members hown hK hP 3 c_c3 rfl 4 (by decide) (hta _ wm_103) (fun _ h9 => h9) rfl hdg kk
theorem xg_Inheritance_29 {p : Program} {l : Launch} {e : Env} {R : Room} {s : State} {m : MethodId} {args : Array Value} {below : List Frame} {meth : Method} {c : Code} {H : Heap} {locs : List Loc} {cells slots : Nat} {Q : State → Prop} {cc : ByteArray} {pc : Nat} {ls : Array Slot} {rest : List Value} {D : va_G} {cI cL cG cZ : ClassId} {ad : Nat → Nat} {M : Mem} (hx : p.tables.exec = Jvm.exec) (hb : c.code = cc) (hta : ∀ w ∈ ALLW, w.before args s = true) (hown : s.vm.findClass "LinkAudit$Inheritance" = some m.cls) (hK : va_K D vwC [(cI, .int), (cL, .long), (cG, .array .int), (cZ, .boolean)] s) (hP : va_P D vwC (c_ws cI cL cG cZ ad M) H) (hdg : decode cc pc = .ok (.getfield 29, 3))
    (kk : W p l e R s m args below meth c H locs cells slots Q (F0 m (pc + 3) ls (.ref (ad 58) :: rest))) : W p l e R s m args below meth c H locs cells slots Q (F0 m pc ls (.ref (ad 5) :: rest)) :=
  va_get (D := D) (ci := 5) (v := .ref (ad 58)) (C := "LinkAudit$Links") (T := T_Links) (N := 9) hx hb hta i_Links hown hK hP 5 c_c5 rfl 6 (by decide) (hta _ wm_180) (fun _ h9 => h9) rfl hdg kk
theorem xvc_Inheritance_33 {p : Program} {l : Launch} {e : Env} {R : Room} {s : State} {m : MethodId} {args : Array Value} {below : List Frame} {meth : Method} {c : Code} {H : Heap} {locs : List Loc} {cells slots : Nat} {Q : State → Prop} {cc : ByteArray} {pc : Nat} {ls : Array Slot} {rest : List Value} {D : va_G} {cI cL cG cZ : ClassId} {ad : Nat → Nat} {M : Mem} {H0 : Heap} {nL : Nat} {a0 : Int64} {a1 : Int32} {r : Int32} (X : CallFix p m c cc nL s args ALLW "LinkAudit$Inheritance") (hkk : Kk D cI cL cG cZ s) (hD : ∀ M, va_D (c_A ad) (c_ws cI cL cG cZ ad M)) (hrest : (rest.map fun v => v.category).sum ≤ 8) (hR : 0 + 1 ≤ R.frames ∧ 8 + (3 + 11) + 0 ≤ R.locals) (hcs : cells + 0 ≤ R.cells ∧ slots + 0 ≤ R.slots) (hc : f_LinkAudit_hasBit a0 a1 = some r) (hsz : ls.size = nL) (hP : va_P D vwC (c_ws cI cL cG cZ ad M) H) (hS : va_S (c_A ad) H0 H locs) (hdg : decode cc pc = .ok (.invokestatic 33, 3))
    (kk : ∀ (H1 : Heap) (locs1 : List Loc), va_P D vwC (c_ws cI cL cG cZ ad M) H1 → va_S (c_A ad) H0 H1 locs1 → W p l e R s m args below meth c H1 locs1 cells slots Q (F0 m (pc + 3) ls (.int r :: rest))) : W p l e R s m args below meth c H locs cells slots Q (F0 m pc ls (.int a1 :: .long a0 :: rest)) := by
  have hta := X.2.2.2.2
  exact x_after0I e_no (va_runSN (As := [.long a0, .int a1]) (rest := rest) X (c_LinkAudit_hasBit (ad := ad) (M := M) e_D hc) ⟨va_cnB (host := "LinkAudit") 2 hta (good_all (L := .code y_LinkAudit_hasBit prog_1_method_22_code 3 (some .boolean) :: ALLW) (List.forall_mem_cons.mpr ⟨wm_433, fun _ h => h⟩)) rfl rfl rfl (hkk.2 _ (List.mem_of_getElem? (i := 10) rfl)) (hta _ wm_1) (by decide +kernel) hR, hta _ wm_432, trivial⟩ ⟨x_blind Kk_w _, x_pre Kk_w hkk e_P _⟩ rfl rfl hsz rfl (lv_room hrest) hdg hcs) hP hS kk
theorem xg_Inheritance_39 {p : Program} {l : Launch} {e : Env} {R : Room} {s : State} {m : MethodId} {args : Array Value} {below : List Frame} {meth : Method} {c : Code} {H : Heap} {locs : List Loc} {cells slots : Nat} {Q : State → Prop} {cc : ByteArray} {pc : Nat} {ls : Array Slot} {rest : List Value} {D : va_G} {cI cL cG cZ : ClassId} {ad : Nat → Nat} {M : Mem} (hx : p.tables.exec = Jvm.exec) (hb : c.code = cc) (hta : ∀ w ∈ ALLW, w.before args s = true) (hown : s.vm.findClass "LinkAudit$Inheritance" = some m.cls) (hK : va_K D vwC [(cI, .int), (cL, .long), (cG, .array .int), (cZ, .boolean)] s) (hP : va_P D vwC (c_ws cI cL cG cZ ad M) H) (hdg : decode cc pc = .ok (.getfield 39, 3))
    (kk : W p l e R s m args below meth c H locs cells slots Q (F0 m (pc + 3) ls (.ref (ad 32) :: rest))) : W p l e R s m args below meth c H locs cells slots Q (F0 m pc ls (.ref (ad 3) :: rest)) :=
  va_get (D := D) (ci := 3) (v := .ref (ad 32)) (C := "LinkAudit$Members") (T := T_Members) (N := 7) hx hb hta i_Members hown hK hP 3 c_c3 rfl 3 (by decide) (hta _ wm_97) (fun _ h9 => h9) rfl hdg kk
set_option maxHeartbeats 4000000 in
set_option maxRecDepth 100000 in
theorem c_Inheritance_offered {l : Launch} {D : va_G} {cI cL cG cZ : ClassId} {ad : Nat → Nat} {M : Mem} {a1 : Int32} {a2 : Int64} {r : Int64} (hD : ∀ M, va_D (c_A ad) (c_ws cI cL cG cZ ad M)) (hf : f_Inheritance_offered M a1 a2 = some r) : Ml l y_Inheritance_offered (.code y_Inheritance_offered prog_4_method_2_code 7 (some .long) :: ALLW) (rmR 1 22) (Kk D cI cL cG cZ) D vwC (c_A ad) (c_ws cI cL cG cZ ad) [.ref (ad 6), .int a1, .long a2] M M r := by
  refine Ml_ofR (by decide) (Nat.le_of_ble_eq_true rfl) ?_
  intro p e s m args below meth c ls Q X hkk hret hP hl
  obtain ⟨hx, hb, hml, hown, hta⟩ := id X
  have hKv := hkk.1
  have hS : va_S (c_A ad) s.heap s.heap [] := va_S.rf
  have hl : lv_has ls 7 [(0, .ref (ad 6)), (1, .int a1), (2, .long a2)] := hl
  have L6 : ∀ (x1 : Int32) (x2 : Int64), ∀ (ke60 : Int64 → Option Int64), ke60 = (fun y4 => some (((y4 &&& x2) &&& (M.2 3 4)))) → ∀ (n6 : Nat) (x4 : Int64) (x6 : Int32) (H : Heap) (locs : List Loc) (ls : Array Slot), f_Inheritance_offered_L6 M x1 x2 ke60 n6 x4 x6 = some r → va_P D vwC (c_ws cI cL cG cZ ad M) H → va_S (c_A ad) s.heap H locs → lv_has ls 7 [(0, .ref (ad 6)), (1, .int x1), (2, .long x2), (4, .long x4), (6, .int x6)] → W p l e (rmR 1 22) s m args below meth c H locs 0 0 Q (F0 m 6 ls []) := by
    intro x1 x2 ke60 hke60 n6
    induction n6 with
    | zero => intro x4 x6 H locs ls hf; exact absurd (show (none : Option _) = some _ from hf) (fun q => by cases q)
    | succ n6 ih6 =>
      intro x4 x6 H locs ls hf hP hS hl
      rw [f_Inheritance_offered_L6] at hf
      refine lv_iload hx hb d_Inheritance_offered_6 (lv_at hl 4 rfl) ?_
      refine lv_aload_n hx hb d_Inheritance_offered_8 rfl (lv_at hl 0 rfl) ?_
      refine xg_Inheritance_7 hx hb hta hown hKv hP d_Inheritance_offered_9 ?_
      refine xg_Inheritance_17 hx hb hta hown hKv hP d_Inheritance_offered_12 ?_
      refine xg_Inheritance_23 hx hb hta hown hKv hP d_Inheritance_offered_15 ?_
      refine lv_icmp_gt (tgt := 60) hx hb d_Inheritance_offered_18 (by decide) (fun c1 => ?_) (fun c1 => ?_)
      · have hf := ifp c1 hf
        rw [hke60] at hf
        refine lv_lload hx hb d_Inheritance_offered_60 (lv_at hl 3 rfl) ?_
        refine lv_lload_n hx hb d_Inheritance_offered_62 rfl (lv_at hl 2 rfl) ?_
        refine lv_land hx hb d_Inheritance_offered_63 ?_
        refine lv_aload_n hx hb d_Inheritance_offered_64 rfl (lv_at hl 0 rfl) ?_
        refine xg_Inheritance_13 hx hb hta hown hKv hP d_Inheritance_offered_65 ?_
        refine xg_Inheritance_45 hx hb hta hown hKv hP d_Inheritance_offered_68 ?_
        refine lv_land hx hb d_Inheritance_offered_71 ?_
        exact hret hf hP hS d_Inheritance_offered_72
      · have hf := ifn c1 hf
        refine lv_aload_n hx hb d_Inheritance_offered_21 rfl (lv_at hl 0 rfl) ?_
        refine xg_Inheritance_7 hx hb hta hown hKv hP d_Inheritance_offered_22 ?_
        refine xg_Inheritance_29 hx hb hta hown hKv hP d_Inheritance_offered_25 ?_
        refine lv_iload_n hx hb d_Inheritance_offered_28 rfl (lv_at hl 1 rfl) ?_
        obtain ⟨g2, hf⟩ := gd_ok hf
        refine x_ild hx hb hKv hP c_c58 g2 d_Inheritance_offered_29 ?_
        refine lv_i2l hx hb d_Inheritance_offered_30 rfl ?_
        refine lv_iload hx hb d_Inheritance_offered_31 (lv_at hl 4 rfl) ?_
        obtain ⟨r2, hc3, hf⟩ := bd1_e hf
        refine xvc_Inheritance_33 X hkk hD (Nat.le_of_ble_eq_true rfl) ⟨by dsimp only [rmR]; omega, by dsimp only [rmR]; omega⟩ ⟨Nat.zero_le _, Nat.zero_le _⟩ hc3 hl.1 hP hS d_Inheritance_offered_33 (fun H locs hP hS => ?_)
        refine lv_if_eq (tgt := 54) hx hb d_Inheritance_offered_36 (by decide) (fun c4 => ?_) (fun c4 => ?_)
        · have hf := ifp c4 hf
          refine lv_iinc (v := (x6 + (1 : Int32))) (lv' := [(6, .int (x6 + (1 : Int32))), (0, .ref (ad 6)), (1, .int x1), (2, .long x2), (4, .long x4)]) hx hb d_Inheritance_offered_54 hl (k := 4) rfl rfl (by decide) rfl (fun ls hl => ?_)
          refine lv_goto (tgt := 6) hx hb d_Inheritance_offered_57 (by decide) ?_
          exact ih6 x4 (x6 + (1 : Int32)) _ _ _ hf hP hS (lv_sub hl [1, 2, 3, 4, 0] rfl)
        · have hf := ifn c4 hf
          refine lv_lload hx hb d_Inheritance_offered_39 (lv_at hl 3 rfl) ?_
          refine lv_aload_n hx hb d_Inheritance_offered_41 rfl (lv_at hl 0 rfl) ?_
          refine xg_Inheritance_13 hx hb hta hown hKv hP d_Inheritance_offered_42 ?_
          refine xg_Inheritance_39 hx hb hta hown hKv hP d_Inheritance_offered_45 ?_
          refine lv_iload hx hb d_Inheritance_offered_48 (lv_at hl 4 rfl) ?_
          obtain ⟨g5, hf⟩ := gd_ok hf
          refine x_lld hx hb hKv hP c_c32 g5 d_Inheritance_offered_50 ?_
          refine lv_lor hx hb d_Inheritance_offered_51 ?_
          refine lv_lstore (lv' := [(4, .long ((x4 ||| (M.2 32 x6.toNatClampNeg)))), (0, .ref (ad 6)), (1, .int x1), (2, .long x2), (6, .int x6)]) hx hb d_Inheritance_offered_52 hl (by decide) rfl (fun ls hl => ?_)
          refine lv_iinc (v := (x6 + (1 : Int32))) (lv' := [(6, .int (x6 + (1 : Int32))), (4, .long ((x4 ||| (M.2 32 x6.toNatClampNeg)))), (0, .ref (ad 6)), (1, .int x1), (2, .long x2)]) hx hb d_Inheritance_offered_54 hl (k := 4) rfl rfl (by decide) rfl (fun ls hl => ?_)
          refine lv_goto (tgt := 6) hx hb d_Inheritance_offered_57 (by decide) ?_
          exact ih6 (x4 ||| (M.2 32 x6.toNatClampNeg)) (x6 + (1 : Int32)) _ _ _ hf hP hS (lv_sub hl [2, 3, 4, 1, 0] rfl)
  unfold f_Inheritance_offered at hf
  refine lv_lconst (v := (0 : Int64)) hx hb d_Inheritance_offered_0 (by decide) ?_
  refine lv_lstore (lv' := [(4, .long ((0 : Int64))), (0, .ref (ad 6)), (1, .int a1), (2, .long a2)]) hx hb d_Inheritance_offered_1 hl (by decide) rfl (fun ls hl => ?_)
  refine lv_iconst (v := (1 : Int32)) hx hb d_Inheritance_offered_3 (by decide) ?_
  refine lv_istore (lv' := [(6, .int (1 : Int32)), (4, .long ((0 : Int64))), (0, .ref (ad 6)), (1, .int a1), (2, .long a2)]) hx hb d_Inheritance_offered_4 hl (by decide) rfl (fun ls hl => ?_)
  exact L6 a1 a2 _ rfl FU (0 : Int64) (1 : Int32) _ _ _ hf hP hS (lv_sub hl [2, 3, 4, 1, 0] rfl)
-- LinkAudit$Inheritance.mostSpecificWithCode
theorem xg_Inheritance_49 {p : Program} {l : Launch} {e : Env} {R : Room} {s : State} {m : MethodId} {args : Array Value} {below : List Frame} {meth : Method} {c : Code} {H : Heap} {locs : List Loc} {cells slots : Nat} {Q : State → Prop} {cc : ByteArray} {pc : Nat} {ls : Array Slot} {rest : List Value} {D : va_G} {cI cL cG cZ : ClassId} {ad : Nat → Nat} {M : Mem} (hx : p.tables.exec = Jvm.exec) (hb : c.code = cc) (hta : ∀ w ∈ ALLW, w.before args s = true) (hown : s.vm.findClass "LinkAudit$Inheritance" = some m.cls) (hK : va_K D vwC [(cI, .int), (cL, .long), (cG, .array .int), (cZ, .boolean)] s) (hP : va_P D vwC (c_ws cI cL cG cZ ad M) H) (hdg : decode cc pc = .ok (.getfield 49, 3))
    (kk : W p l e R s m args below meth c H locs cells slots Q (F0 m (pc + 3) ls (.int (M.1 3 6) :: rest))) : W p l e R s m args below meth c H locs cells slots Q (F0 m pc ls (.ref (ad 3) :: rest)) :=
  va_get (D := D) (ci := 3) (v := .int (M.1 3 6)) (C := "LinkAudit$Members") (T := T_Members) (N := 7) hx hb hta i_Members hown hK hP 3 c_c3 rfl 6 (by decide) (hta _ wm_109) (fun _ h9 => h9) rfl hdg kk
theorem xg_Inheritance_53 {p : Program} {l : Launch} {e : Env} {R : Room} {s : State} {m : MethodId} {args : Array Value} {below : List Frame} {meth : Method} {c : Code} {H : Heap} {locs : List Loc} {cells slots : Nat} {Q : State → Prop} {cc : ByteArray} {pc : Nat} {ls : Array Slot} {rest : List Value} {D : va_G} {cI cL cG cZ : ClassId} {ad : Nat → Nat} {M : Mem} (hx : p.tables.exec = Jvm.exec) (hb : c.code = cc) (hta : ∀ w ∈ ALLW, w.before args s = true) (hown : s.vm.findClass "LinkAudit$Inheritance" = some m.cls) (hK : va_K D vwC [(cI, .int), (cL, .long), (cG, .array .int), (cZ, .boolean)] s) (hP : va_P D vwC (c_ws cI cL cG cZ ad M) H) (hdg : decode cc pc = .ok (.getfield 53, 3))
    (kk : W p l e R s m args below meth c H locs cells slots Q (F0 m (pc + 3) ls (.long (M.2 3 5) :: rest))) : W p l e R s m args below meth c H locs cells slots Q (F0 m pc ls (.ref (ad 3) :: rest)) :=
  va_get (D := D) (ci := 3) (v := .long (M.2 3 5)) (C := "LinkAudit$Members") (T := T_Members) (N := 7) hx hb hta i_Members hown hK hP 3 c_c3 rfl 5 (by decide) (hta _ wm_105) (fun _ h9 => h9) rfl hdg kk
theorem xg_Inheritance_50 {p : Program} {l : Launch} {e : Env} {R : Room} {s : State} {m : MethodId} {args : Array Value} {below : List Frame} {meth : Method} {c : Code} {H : Heap} {locs : List Loc} {cells slots : Nat} {Q : State → Prop} {cc : ByteArray} {pc : Nat} {ls : Array Slot} {rest : List Value} {D : va_G} {cI cL cG cZ : ClassId} {ad : Nat → Nat} {M : Mem} (hx : p.tables.exec = Jvm.exec) (hb : c.code = cc) (hta : ∀ w ∈ ALLW, w.before args s = true) (hown : s.vm.findClass "LinkAudit$Inheritance" = some m.cls) (hK : va_K D vwC [(cI, .int), (cL, .long), (cG, .array .int), (cZ, .boolean)] s) (hP : va_P D vwC (c_ws cI cL cG cZ ad M) H) (hdg : decode cc pc = .ok (.getfield 50, 3))
    (kk : W p l e R s m args below meth c H locs cells slots Q (F0 m (pc + 3) ls (.ref (ad 29) :: rest))) : W p l e R s m args below meth c H locs cells slots Q (F0 m pc ls (.ref (ad 3) :: rest)) :=
  va_get (D := D) (ci := 3) (v := .ref (ad 29)) (C := "LinkAudit$Members") (T := T_Members) (N := 7) hx hb hta i_Members hown hK hP 3 c_c3 rfl 0 (by decide) (hta _ wm_90) (fun _ h9 => h9) rfl hdg kk
set_option maxHeartbeats 4000000 in
set_option maxRecDepth 100000 in
theorem c_Inheritance_mostSpecificWithCode {l : Launch} {D : va_G} {cI cL cG cZ : ClassId} {ad : Nat → Nat} {M : Mem} {a1 : Int64} {r : Int64} (hD : ∀ M, va_D (c_A ad) (c_ws cI cL cG cZ ad M)) (hf : f_Inheritance_mostSpecificWithCode M a1 = some r) : Ml l y_Inheritance_mostSpecificWithCode (.code y_Inheritance_mostSpecificWithCode prog_4_method_3_code 7 (some .long) :: ALLW) (rmR 1 22) (Kk D cI cL cG cZ) D vwC (c_A ad) (c_ws cI cL cG cZ ad) [.ref (ad 6), .long a1] M M r := by
  refine Ml_ofR (by decide) (Nat.le_of_ble_eq_true rfl) ?_
  intro p e s m args below meth c ls Q X hkk hret hP hl
  obtain ⟨hx, hb, hml, hown, hta⟩ := id X
  have hKv := hkk.1
  have hS : va_S (c_A ad) s.heap s.heap [] := va_S.rf
  have hl : lv_has ls 7 [(0, .ref (ad 6)), (1, .long a1)] := hl
  have L59 : ∀ (x1 : Int64) (x3 : Int32), ∀ (ke113 : Int64 → Option Int64), ke113 = (fun y4 => some ((y4 &&& ((M.2 3 5) ^^^ (-1 : Int64))))) → ∀ (n59 : Nat) (x4 : Int64) (x6 : Int32) (H : Heap) (locs : List Loc) (ls : Array Slot), f_Inheritance_mostSpecificWithCode_L59 M x1 x3 ke113 n59 x4 x6 = some r → va_P D vwC (c_ws cI cL cG cZ ad M) H → va_S (c_A ad) s.heap H locs → lv_has ls 7 [(0, .ref (ad 6)), (1, .long x1), (3, .int x3), (4, .long x4), (6, .int x6)] → W p l e (rmR 1 22) s m args below meth c H locs 0 0 Q (F0 m 59 ls []) := by
    intro x1 x3 ke113 hke113 n59
    induction n59 with
    | zero => intro x4 x6 H locs ls hf; exact absurd (show (none : Option _) = some _ from hf) (fun q => by cases q)
    | succ n59 ih59 =>
      intro x4 x6 H locs ls hf hP hS hl
      rw [f_Inheritance_mostSpecificWithCode_L59] at hf
      refine lv_iload hx hb d_Inheritance_mostSpecificWithCode_59 (lv_at hl 4 rfl) ?_
      refine lv_aload_n hx hb d_Inheritance_mostSpecificWithCode_61 rfl (lv_at hl 0 rfl) ?_
      refine xg_Inheritance_13 hx hb hta hown hKv hP d_Inheritance_mostSpecificWithCode_62 ?_
      refine xg_Inheritance_49 hx hb hta hown hKv hP d_Inheritance_mostSpecificWithCode_65 ?_
      refine lv_icmp_gt (tgt := 113) hx hb d_Inheritance_mostSpecificWithCode_68 (by decide) (fun c1 => ?_) (fun c1 => ?_)
      · have hf := ifp c1 hf
        rw [hke113] at hf
        refine lv_lload hx hb d_Inheritance_mostSpecificWithCode_113 (lv_at hl 3 rfl) ?_
        refine lv_aload_n hx hb d_Inheritance_mostSpecificWithCode_115 rfl (lv_at hl 0 rfl) ?_
        refine xg_Inheritance_13 hx hb hta hown hKv hP d_Inheritance_mostSpecificWithCode_116 ?_
        refine xg_Inheritance_53 hx hb hta hown hKv hP d_Inheritance_mostSpecificWithCode_119 ?_
        refine lv_ldc2 (v := (-1 : Int64)) hx hb hown (hta _ wm_567) d_Inheritance_mostSpecificWithCode_122 ?_
        refine lv_lxor hx hb d_Inheritance_mostSpecificWithCode_125 ?_
        refine lv_land hx hb d_Inheritance_mostSpecificWithCode_126 ?_
        exact hret hf hP hS d_Inheritance_mostSpecificWithCode_127
      · have hf := ifn c1 hf
        refine lv_lload_n hx hb d_Inheritance_mostSpecificWithCode_71 rfl (lv_at hl 1 rfl) ?_
        refine lv_iload hx hb d_Inheritance_mostSpecificWithCode_72 (lv_at hl 4 rfl) ?_
        obtain ⟨r4, hc2, hf⟩ := bd1_e hf
        refine xvc_Inheritance_33 X hkk hD (Nat.le_of_ble_eq_true rfl) ⟨by dsimp only [rmR]; omega, by dsimp only [rmR]; omega⟩ ⟨Nat.zero_le _, Nat.zero_le _⟩ hc2 hl.1 hP hS d_Inheritance_mostSpecificWithCode_74 (fun H locs hP hS => ?_)
        refine lv_if_eq (tgt := 107) hx hb d_Inheritance_mostSpecificWithCode_77 (by decide) (fun c3 => ?_) (fun c3 => ?_)
        · have hf := ifp c3 hf
          refine lv_iinc (v := (x6 + (1 : Int32))) (lv' := [(6, .int (x6 + (1 : Int32))), (0, .ref (ad 6)), (1, .long x1), (3, .int x3), (4, .long x4)]) hx hb d_Inheritance_mostSpecificWithCode_107 hl (k := 4) rfl rfl (by decide) rfl (fun ls hl => ?_)
          refine lv_goto (tgt := 59) hx hb d_Inheritance_mostSpecificWithCode_110 (by decide) ?_
          exact ih59 x4 (x6 + (1 : Int32)) _ _ _ hf hP hS (lv_sub hl [1, 2, 3, 4, 0] rfl)
        · have hf := ifn c3 hf
          refine lv_iload_n hx hb d_Inheritance_mostSpecificWithCode_80 rfl (lv_at hl 2 rfl) ?_
          refine lv_i2l hx hb d_Inheritance_mostSpecificWithCode_81 rfl ?_
          refine lv_aload_n hx hb d_Inheritance_mostSpecificWithCode_82 rfl (lv_at hl 0 rfl) ?_
          refine xg_Inheritance_13 hx hb hta hown hKv hP d_Inheritance_mostSpecificWithCode_83 ?_
          refine xg_Inheritance_50 hx hb hta hown hKv hP d_Inheritance_mostSpecificWithCode_86 ?_
          refine lv_iload hx hb d_Inheritance_mostSpecificWithCode_89 (lv_at hl 4 rfl) ?_
          obtain ⟨g4, hf⟩ := gd_ok hf
          refine x_ild hx hb hKv hP c_c29 g4 d_Inheritance_mostSpecificWithCode_91 ?_
          obtain ⟨r5, hc5, hf⟩ := bd1_e hf
          refine xvc_Inheritance_33 X hkk hD (Nat.le_of_ble_eq_true rfl) ⟨by dsimp only [rmR]; omega, by dsimp only [rmR]; omega⟩ ⟨Nat.zero_le _, Nat.zero_le _⟩ hc5 hl.1 hP hS d_Inheritance_mostSpecificWithCode_92 (fun H locs hP hS => ?_)
          refine lv_if_ne (tgt := 107) hx hb d_Inheritance_mostSpecificWithCode_95 (by decide) (fun c6 => ?_) (fun c6 => ?_)
          · have hf := ifn c6 hf
            refine lv_iinc (v := (x6 + (1 : Int32))) (lv' := [(6, .int (x6 + (1 : Int32))), (0, .ref (ad 6)), (1, .long x1), (3, .int x3), (4, .long x4)]) hx hb d_Inheritance_mostSpecificWithCode_107 hl (k := 4) rfl rfl (by decide) rfl (fun ls hl => ?_)
            refine lv_goto (tgt := 59) hx hb d_Inheritance_mostSpecificWithCode_110 (by decide) ?_
            exact ih59 x4 (x6 + (1 : Int32)) _ _ _ hf hP hS (lv_sub hl [1, 2, 3, 4, 0] rfl)
          · have hf := ifp c6 hf
            refine lv_lload hx hb d_Inheritance_mostSpecificWithCode_98 (lv_at hl 3 rfl) ?_
            refine lv_lconst (v := (1 : Int64)) hx hb d_Inheritance_mostSpecificWithCode_100 (by decide) ?_
            refine lv_iload hx hb d_Inheritance_mostSpecificWithCode_101 (lv_at hl 4 rfl) ?_
            refine lv_lshl hx hb d_Inheritance_mostSpecificWithCode_103 rfl ?_
            refine lv_lor hx hb d_Inheritance_mostSpecificWithCode_104 ?_
            refine lv_lstore (lv' := [(4, .long ((x4 ||| ((1 : Int64) <<< (x6.toInt64 &&& 63))))), (0, .ref (ad 6)), (1, .long x1), (3, .int x3), (6, .int x6)]) hx hb d_Inheritance_mostSpecificWithCode_105 hl (by decide) rfl (fun ls hl => ?_)
            refine lv_iinc (v := (x6 + (1 : Int32))) (lv' := [(6, .int (x6 + (1 : Int32))), (4, .long ((x4 ||| ((1 : Int64) <<< (x6.toInt64 &&& 63))))), (0, .ref (ad 6)), (1, .long x1), (3, .int x3)]) hx hb d_Inheritance_mostSpecificWithCode_107 hl (k := 4) rfl rfl (by decide) rfl (fun ls hl => ?_)
            refine lv_goto (tgt := 59) hx hb d_Inheritance_mostSpecificWithCode_110 (by decide) ?_
            exact ih59 (x4 ||| ((1 : Int64) <<< (x6.toInt64 &&& 63))) (x6 + (1 : Int32)) _ _ _ hf hP hS (lv_sub hl [2, 3, 4, 1, 0] rfl)
  have L5 : ∀ (x1 : Int64), ∀ (ke53 : Int32 → Option Int64), ke53 = (fun y3 => f_Inheritance_mostSpecificWithCode_L59 M x1 y3 (fun y4 => some ((y4 &&& ((M.2 3 5) ^^^ (-1 : Int64))))) FU (0 : Int64) (1 : Int32)) → ∀ (n5 : Nat) (x3 : Int32) (x4 : Int32) (H : Heap) (locs : List Loc) (ls : Array Slot), f_Inheritance_mostSpecificWithCode_L5 M x1 ke53 n5 x3 x4 = some r → va_P D vwC (c_ws cI cL cG cZ ad M) H → va_S (c_A ad) s.heap H locs → lv_has ls 7 [(0, .ref (ad 6)), (1, .long x1), (3, .int x3), (4, .int x4)] → W p l e (rmR 1 22) s m args below meth c H locs 0 0 Q (F0 m 5 ls []) := by
    intro x1 ke53 hke53 n5
    induction n5 with
    | zero => intro x3 x4 H locs ls hf; exact absurd (show (none : Option _) = some _ from hf) (fun q => by cases q)
    | succ n5 ih5 =>
      intro x3 x4 H locs ls hf hP hS hl
      rw [f_Inheritance_mostSpecificWithCode_L5] at hf
      refine lv_iload hx hb d_Inheritance_mostSpecificWithCode_5 (lv_at hl 3 rfl) ?_
      refine lv_aload_n hx hb d_Inheritance_mostSpecificWithCode_7 rfl (lv_at hl 0 rfl) ?_
      refine xg_Inheritance_13 hx hb hta hown hKv hP d_Inheritance_mostSpecificWithCode_8 ?_
      refine xg_Inheritance_49 hx hb hta hown hKv hP d_Inheritance_mostSpecificWithCode_11 ?_
      refine lv_icmp_gt (tgt := 53) hx hb d_Inheritance_mostSpecificWithCode_14 (by decide) (fun c7 => ?_) (fun c7 => ?_)
      · have hf := ifp c7 hf
        rw [hke53] at hf
        refine lv_lconst (v := (0 : Int64)) hx hb d_Inheritance_mostSpecificWithCode_53 (by decide) ?_
        refine lv_lstore (lv' := [(4, .long ((0 : Int64))), (0, .ref (ad 6)), (1, .long x1), (3, .int x3)]) hx hb d_Inheritance_mostSpecificWithCode_54 hl (by decide) rfl (fun ls hl => ?_)
        refine lv_iconst (v := (1 : Int32)) hx hb d_Inheritance_mostSpecificWithCode_56 (by decide) ?_
        refine lv_istore (lv' := [(6, .int (1 : Int32)), (4, .long ((0 : Int64))), (0, .ref (ad 6)), (1, .long x1), (3, .int x3)]) hx hb d_Inheritance_mostSpecificWithCode_57 hl (by decide) rfl (fun ls hl => ?_)
        exact L59 x1 x3 _ rfl FU (0 : Int64) (1 : Int32) _ _ _ hf hP hS (lv_sub hl [2, 3, 4, 1, 0] rfl)
      · have hf := ifn c7 hf
        refine lv_lload_n hx hb d_Inheritance_mostSpecificWithCode_17 rfl (lv_at hl 1 rfl) ?_
        refine lv_iload hx hb d_Inheritance_mostSpecificWithCode_18 (lv_at hl 3 rfl) ?_
        obtain ⟨r6, hc8, hf⟩ := bd1_e hf
        refine xvc_Inheritance_33 X hkk hD (Nat.le_of_ble_eq_true rfl) ⟨by dsimp only [rmR]; omega, by dsimp only [rmR]; omega⟩ ⟨Nat.zero_le _, Nat.zero_le _⟩ hc8 hl.1 hP hS d_Inheritance_mostSpecificWithCode_20 (fun H locs hP hS => ?_)
        refine lv_if_eq (tgt := 47) hx hb d_Inheritance_mostSpecificWithCode_23 (by decide) (fun c9 => ?_) (fun c9 => ?_)
        · have hf := ifp c9 hf
          refine lv_iinc (v := (x4 + (1 : Int32))) (lv' := [(4, .int (x4 + (1 : Int32))), (0, .ref (ad 6)), (1, .long x1), (3, .int x3)]) hx hb d_Inheritance_mostSpecificWithCode_47 hl (k := 3) rfl rfl (by decide) rfl (fun ls hl => ?_)
          refine lv_goto (tgt := 5) hx hb d_Inheritance_mostSpecificWithCode_50 (by decide) ?_
          exact ih5 x3 (x4 + (1 : Int32)) _ _ _ hf hP hS (lv_sub hl [1, 2, 3, 0] rfl)
        · have hf := ifn c9 hf
          refine lv_iload_n hx hb d_Inheritance_mostSpecificWithCode_26 rfl (lv_at hl 2 rfl) ?_
          refine lv_aload_n hx hb d_Inheritance_mostSpecificWithCode_27 rfl (lv_at hl 0 rfl) ?_
          refine xg_Inheritance_7 hx hb hta hown hKv hP d_Inheritance_mostSpecificWithCode_28 ?_
          refine xg_Inheritance_29 hx hb hta hown hKv hP d_Inheritance_mostSpecificWithCode_31 ?_
          refine lv_aload_n hx hb d_Inheritance_mostSpecificWithCode_34 rfl (lv_at hl 0 rfl) ?_
          refine xg_Inheritance_13 hx hb hta hown hKv hP d_Inheritance_mostSpecificWithCode_35 ?_
          refine xg_Inheritance_50 hx hb hta hown hKv hP d_Inheritance_mostSpecificWithCode_38 ?_
          refine lv_iload hx hb d_Inheritance_mostSpecificWithCode_41 (lv_at hl 3 rfl) ?_
          obtain ⟨g10, hf⟩ := gd_ok hf
          refine x_ild hx hb hKv hP c_c29 g10 d_Inheritance_mostSpecificWithCode_43 ?_
          obtain ⟨g11, hf⟩ := gd_ok hf
          refine x_ild hx hb hKv hP c_c58 g11 d_Inheritance_mostSpecificWithCode_44 ?_
          refine lv_ior hx hb d_Inheritance_mostSpecificWithCode_45 ?_
          refine lv_istore_n (lv' := [(3, .int (x3 ||| (M.1 58 ((M.1 29 x4.toNatClampNeg)).toNatClampNeg))), (0, .ref (ad 6)), (1, .long x1), (4, .int x4)]) hx hb d_Inheritance_mostSpecificWithCode_46 rfl hl (by decide) rfl (fun ls hl => ?_)
          refine lv_iinc (v := (x4 + (1 : Int32))) (lv' := [(4, .int (x4 + (1 : Int32))), (3, .int (x3 ||| (M.1 58 ((M.1 29 x4.toNatClampNeg)).toNatClampNeg))), (0, .ref (ad 6)), (1, .long x1)]) hx hb d_Inheritance_mostSpecificWithCode_47 hl (k := 3) rfl rfl (by decide) rfl (fun ls hl => ?_)
          refine lv_goto (tgt := 5) hx hb d_Inheritance_mostSpecificWithCode_50 (by decide) ?_
          exact ih5 (x3 ||| (M.1 58 ((M.1 29 x4.toNatClampNeg)).toNatClampNeg)) (x4 + (1 : Int32)) _ _ _ hf hP hS (lv_sub hl [2, 3, 1, 0] rfl)
  unfold f_Inheritance_mostSpecificWithCode at hf
  refine lv_iconst (v := (0 : Int32)) hx hb d_Inheritance_mostSpecificWithCode_0 (by decide) ?_
  refine lv_istore_n (lv' := [(3, .int (0 : Int32)), (0, .ref (ad 6)), (1, .long a1)]) hx hb d_Inheritance_mostSpecificWithCode_1 rfl hl (by decide) rfl (fun ls hl => ?_)
  refine lv_iconst (v := (1 : Int32)) hx hb d_Inheritance_mostSpecificWithCode_2 (by decide) ?_
  refine lv_istore (lv' := [(4, .int (1 : Int32)), (3, .int (0 : Int32)), (0, .ref (ad 6)), (1, .long a1)]) hx hb d_Inheritance_mostSpecificWithCode_3 hl (by decide) rfl (fun ls hl => ?_)
  exact L5 a1 _ rfl FU (0 : Int32) (1 : Int32) _ _ _ hf hP hS (lv_sub hl [2, 3, 1, 0] rfl)
-- LinkAudit$Resolver.foundMethod
theorem xg_Resolver_38 {p : Program} {l : Launch} {e : Env} {R : Room} {s : State} {m : MethodId} {args : Array Value} {below : List Frame} {meth : Method} {c : Code} {H : Heap} {locs : List Loc} {cells slots : Nat} {Q : State → Prop} {cc : ByteArray} {pc : Nat} {ls : Array Slot} {rest : List Value} {D : va_G} {cI cL cG cZ : ClassId} {ad : Nat → Nat} {M : Mem} (hx : p.tables.exec = Jvm.exec) (hb : c.code = cc) (hta : ∀ w ∈ ALLW, w.before args s = true) (hown : s.vm.findClass "LinkAudit$Resolver" = some m.cls) (hK : va_K D vwC [(cI, .int), (cL, .long), (cG, .array .int), (cZ, .boolean)] s) (hP : va_P D vwC (c_ws cI cL cG cZ ad M) H) (hdg : decode cc pc = .ok (.getfield 38, 3))
    (kk : W p l e R s m args below meth c H locs cells slots Q (F0 m (pc + 3) ls (.ref (ad 6) :: rest))) : W p l e R s m args below meth c H locs cells slots Q (F0 m pc ls (.ref (ad 7) :: rest)) :=
  va_get (D := D) (ci := 7) (v := .ref (ad 6)) (C := "LinkAudit$Resolver") (T := T_Resolver) (N := 6) hx hb hta i_Resolver hown hK hP 7 c_c7 rfl 4 (by decide) (hta _ wm_231) (fun _ h9 => h9) rfl hdg kk
theorem xvc_Resolver_158 {p : Program} {l : Launch} {e : Env} {R : Room} {s : State} {m : MethodId} {args : Array Value} {below : List Frame} {meth : Method} {c : Code} {H : Heap} {locs : List Loc} {cells slots : Nat} {Q : State → Prop} {cc : ByteArray} {pc : Nat} {ls : Array Slot} {rest : List Value} {D : va_G} {cI cL cG cZ : ClassId} {ad : Nat → Nat} {M : Mem} {H0 : Heap} {nL : Nat} {a0 : Int32} {a1 : Int64} {r : Int64} (X : CallFix p m c cc nL s args ALLW "LinkAudit$Resolver") (hkk : Kk D cI cL cG cZ s) (hD : ∀ M, va_D (c_A ad) (c_ws cI cL cG cZ ad M)) (hrest : (rest.map fun v => v.category).sum ≤ 8) (hR : 1 + 1 ≤ R.frames ∧ 8 + (7 + 11) + 22 ≤ R.locals) (hcs : cells + 0 ≤ R.cells ∧ slots + 0 ≤ R.slots) (hc : f_Inheritance_offered M a0 a1 = some r) (hsz : ls.size = nL) (hP : va_P D vwC (c_ws cI cL cG cZ ad M) H) (hS : va_S (c_A ad) H0 H locs) (hdg : decode cc pc = .ok (.invokevirtual 158, 3))
    (kk : ∀ (H1 : Heap) (locs1 : List Loc), va_P D vwC (c_ws cI cL cG cZ ad M) H1 → va_S (c_A ad) H0 H1 locs1 → W p l e R s m args below meth c H1 locs1 cells slots Q (F0 m (pc + 3) ls (.long r :: rest))) : W p l e R s m args below meth c H locs cells slots Q (F0 m pc ls (.long a1 :: .int a0 :: .ref (ad 6) :: rest)) := by
  have hta := X.2.2.2.2
  exact x_afterL (va_runV (As := [.int a0, .long a1]) (rest := rest) X (c_Inheritance_offered hD hc) ⟨callB_of 2 hta (good_all (L := .code y_Inheritance_offered prog_4_method_2_code 7 (some .long) :: ALLW) (List.forall_mem_cons.mpr ⟨wm_561, fun _ h => h⟩)) rfl rfl rfl (hta _ wm_7) (hta _ wm_558) (by decide +kernel) hR, hta _ wm_559, hta _ wm_560⟩ ⟨x_blind Kk_w _, va_recv hkk.1 hP (ci := 6) (q0 := 6) rfl c_c6, x_pre Kk_w hkk hP _⟩ rfl rfl hsz rfl (lv_room hrest) hdg hcs) hS kk
theorem xvc_Resolver_162 {p : Program} {l : Launch} {e : Env} {R : Room} {s : State} {m : MethodId} {args : Array Value} {below : List Frame} {meth : Method} {c : Code} {H : Heap} {locs : List Loc} {cells slots : Nat} {Q : State → Prop} {cc : ByteArray} {pc : Nat} {ls : Array Slot} {rest : List Value} {D : va_G} {cI cL cG cZ : ClassId} {ad : Nat → Nat} {M : Mem} {H0 : Heap} {nL : Nat} {a0 : Int64} {r : Int64} (X : CallFix p m c cc nL s args ALLW "LinkAudit$Resolver") (hkk : Kk D cI cL cG cZ s) (hD : ∀ M, va_D (c_A ad) (c_ws cI cL cG cZ ad M)) (hrest : (rest.map fun v => v.category).sum ≤ 8) (hR : 1 + 1 ≤ R.frames ∧ 8 + (7 + 11) + 22 ≤ R.locals) (hcs : cells + 0 ≤ R.cells ∧ slots + 0 ≤ R.slots) (hc : f_Inheritance_mostSpecificWithCode M a0 = some r) (hsz : ls.size = nL) (hP : va_P D vwC (c_ws cI cL cG cZ ad M) H) (hS : va_S (c_A ad) H0 H locs) (hdg : decode cc pc = .ok (.invokevirtual 162, 3))
    (kk : ∀ (H1 : Heap) (locs1 : List Loc), va_P D vwC (c_ws cI cL cG cZ ad M) H1 → va_S (c_A ad) H0 H1 locs1 → W p l e R s m args below meth c H1 locs1 cells slots Q (F0 m (pc + 3) ls (.long r :: rest))) : W p l e R s m args below meth c H locs cells slots Q (F0 m pc ls (.long a0 :: .ref (ad 6) :: rest)) := by
  have hta := X.2.2.2.2
  exact x_afterL (va_runV (As := [.long a0]) (rest := rest) X (c_Inheritance_mostSpecificWithCode hD hc) ⟨callB_of 1 hta (good_all (L := .code y_Inheritance_mostSpecificWithCode prog_4_method_3_code 7 (some .long) :: ALLW) (List.forall_mem_cons.mpr ⟨wm_566, fun _ h => h⟩)) rfl rfl rfl (hta _ wm_7) (hta _ wm_563) (by decide +kernel) hR, hta _ wm_564, hta _ wm_565⟩ ⟨x_blind Kk_w _, va_recv hkk.1 hP (ci := 6) (q0 := 6) rfl c_c6, x_pre Kk_w hkk hP _⟩ rfl rfl hsz rfl (lv_room hrest) hdg hcs) hS kk
theorem xvc_Resolver_166 {p : Program} {l : Launch} {e : Env} {R : Room} {s : State} {m : MethodId} {args : Array Value} {below : List Frame} {meth : Method} {c : Code} {H : Heap} {locs : List Loc} {cells slots : Nat} {Q : State → Prop} {cc : ByteArray} {pc : Nat} {ls : Array Slot} {rest : List Value} {D : va_G} {cI cL cG cZ : ClassId} {ad : Nat → Nat} {M : Mem} {H0 : Heap} {nL : Nat} {a0 : Int64} {r : Int32} (X : CallFix p m c cc nL s args ALLW "LinkAudit$Resolver") (hkk : Kk D cI cL cG cZ s) (hD : ∀ M, va_D (c_A ad) (c_ws cI cL cG cZ ad M)) (hrest : (rest.map fun v => v.category).sum ≤ 8) (hR : 0 + 1 ≤ R.frames ∧ 8 + (2 + 11) + 0 ≤ R.locals) (hcs : cells + 0 ≤ R.cells ∧ slots + 0 ≤ R.slots) (hc : f_Long_bitCount a0 = some r) (hsz : ls.size = nL) (hP : va_P D vwC (c_ws cI cL cG cZ ad M) H) (hS : va_S (c_A ad) H0 H locs) (hdg : decode cc pc = .ok (.invokestatic 166, 3))
    (kk : ∀ (H1 : Heap) (locs1 : List Loc), va_P D vwC (c_ws cI cL cG cZ ad M) H1 → va_S (c_A ad) H0 H1 locs1 → W p l e R s m args below meth c H1 locs1 cells slots Q (F0 m (pc + 3) ls (.int r :: rest))) : W p l e R s m args below meth c H locs cells slots Q (F0 m pc ls (.long a0 :: rest)) := by
  have hta := X.2.2.2.2
  exact x_after0I e_no (va_runS (As := [.long a0]) (rest := rest) X (c_Long_bitCount (ad := ad) (M := M) e_D hc) ⟨callB_of 1 hta (good_all (L := .code y_Long_bitCount prog_13_method_50_code 2 (some .int) :: ALLW) (List.forall_mem_cons.mpr ⟨wm_506, fun _ h => h⟩)) rfl rfl rfl (hta _ wm_14) (hta _ wm_568) (by decide +kernel) hR, hta _ wm_505⟩ ⟨x_blind Kk_w _, x_pre Kk_w hkk e_P _⟩ rfl rfl hsz rfl (lv_room hrest) hdg hcs) hP hS kk
set_option maxHeartbeats 4000000 in
set_option maxRecDepth 100000 in
theorem c_Resolver_foundMethod {l : Launch} {D : va_G} {cI cL cG cZ : ClassId} {ad : Nat → Nat} {M : Mem} {a1 : Int32} {a2 : Int64} {r : Int32} (hD : ∀ M, va_D (c_A ad) (c_ws cI cL cG cZ ad M)) (hf : f_Resolver_foundMethod M a1 a2 = some r) : Mi l y_Resolver_foundMethod (.code y_Resolver_foundMethod prog_9_method_8_code 8 (some .int) :: ALLW) (rmR 2 48) (Kk D cI cL cG cZ) D vwC (c_A ad) (c_ws cI cL cG cZ ad) [.ref (ad 7), .int a1, .long a2] M M r := by
  refine Mi_ofR (by decide) (Nat.le_of_ble_eq_true rfl) ?_
  intro p e s m args below meth c ls Q X hkk hret hP hl
  obtain ⟨hx, hb, hml, hown, hta⟩ := id X
  have hKv := hkk.1
  have hS : va_S (c_A ad) s.heap s.heap [] := va_S.rf
  have hl : lv_has ls 8 [(0, .ref (ad 7)), (1, .int a1), (2, .long a2)] := hl
  have b107 : ∀ (t0 : Int64) (H : Heap) (locs : List Loc) (ls : Array Slot), f_Resolver_foundMethod_b107 M t0 = some r → va_P D vwC (c_ws cI cL cG cZ ad M) H → va_S (c_A ad) s.heap H locs → lv_has ls 8 [] → W p l e (rmR 2 48) s m args below meth c H locs 0 0 Q (F0 m 107 ls [.long t0]) := by
    intro t0 H locs ls hf hP hS hl
    unfold f_Resolver_foundMethod_b107 at hf
    obtain ⟨r6, hc1, hf⟩ := bd1_e hf
    refine xvc_Resolver_133 X hkk hD (Nat.le_of_ble_eq_true rfl) ⟨by dsimp only [rmR]; omega, by dsimp only [rmR]; omega⟩ ⟨Nat.zero_le _, Nat.zero_le _⟩ hc1 hl.1 hP hS d_Resolver_foundMethod_107 (fun H locs hP hS => ?_)
    exact hret hf hP hS d_Resolver_foundMethod_110
  have L3 : ∀ (x1 : Int32) (x2 : Int64), ∀ (ke48 : Int64 → Option Int32), ke48 = (fun y5 => bd1 (f_LinkAudit_lowestBit y5) (fun r7 => some (r7))) → ∀ (ke60 : Option Int32), ke60 = (bd1 (f_Inheritance_offered M x1 x2) (fun r8 => if (lg_cmp r8 (0 : Int64)) = 0 then some ((0 : Int32)) else bd1 (f_Inheritance_mostSpecificWithCode M r8) (fun r9 => bd1 (f_Long_bitCount r9) (fun r10 => if r10 = (1 : Int32) then f_Resolver_foundMethod_b107 M r9 else f_Resolver_foundMethod_b107 M r8)))) → ∀ (n3 : Nat) (x4 : Int32) (H : Heap) (locs : List Loc) (ls : Array Slot), f_Resolver_foundMethod_L3 M x1 x2 ke48 ke60 n3 x4 = some r → va_P D vwC (c_ws cI cL cG cZ ad M) H → va_S (c_A ad) s.heap H locs → lv_has ls 8 [(0, .ref (ad 7)), (1, .int x1), (2, .long x2), (4, .int x4)] → W p l e (rmR 2 48) s m args below meth c H locs 0 0 Q (F0 m 3 ls []) := by
    intro x1 x2 ke48 hke48 ke60 hke60 n3
    induction n3 with
    | zero => intro x4 H locs ls hf; exact absurd (show (none : Option _) = some _ from hf) (fun q => by cases q)
    | succ n3 ih3 =>
      intro x4 H locs ls hf hP hS hl
      rw [f_Resolver_foundMethod_L3] at hf
      refine lv_iload hx hb d_Resolver_foundMethod_3 (lv_at hl 3 rfl) ?_
      refine lv_aload_n hx hb d_Resolver_foundMethod_5 rfl (lv_at hl 0 rfl) ?_
      refine xg_Resolver_21 hx hb hta hown hKv hP d_Resolver_foundMethod_6 ?_
      refine xg_Resolver_151 hx hb hta hown hKv hP d_Resolver_foundMethod_9 ?_
      refine lv_iload_n hx hb d_Resolver_foundMethod_12 rfl (lv_at hl 1 rfl) ?_
      obtain ⟨g2, hf⟩ := gd_ok hf
      refine x_ild hx hb hKv hP c_c56 g2 d_Resolver_foundMethod_13 ?_
      refine lv_icmp_ge (tgt := 60) hx hb d_Resolver_foundMethod_14 (by decide) (fun c3 => ?_) (fun c3 => ?_)
      · have hf := ifp c3 hf
        rw [hke60] at hf
        refine lv_aload_n hx hb d_Resolver_foundMethod_60 rfl (lv_at hl 0 rfl) ?_
        refine xg_Resolver_38 hx hb hta hown hKv hP d_Resolver_foundMethod_61 ?_
        refine lv_iload_n hx hb d_Resolver_foundMethod_64 rfl (lv_at hl 1 rfl) ?_
        refine lv_lload_n hx hb d_Resolver_foundMethod_65 rfl (lv_at hl 2 rfl) ?_
        obtain ⟨r11, hc4, hf⟩ := bd1_e hf
        refine xvc_Resolver_158 X hkk hD (Nat.le_of_ble_eq_true rfl) ⟨by dsimp only [rmR]; omega, by dsimp only [rmR]; omega⟩ ⟨Nat.zero_le _, Nat.zero_le _⟩ hc4 hl.1 hP hS d_Resolver_foundMethod_66 (fun H locs hP hS => ?_)
        refine lv_lstore (lv' := [(4, .long r11), (0, .ref (ad 7)), (1, .int x1), (2, .long x2)]) hx hb d_Resolver_foundMethod_69 hl (by decide) rfl (fun ls hl => ?_)
        refine lv_lload hx hb d_Resolver_foundMethod_71 (lv_at hl 0 rfl) ?_
        refine lv_lconst (v := (0 : Int64)) hx hb d_Resolver_foundMethod_73 (by decide) ?_
        refine W.lcmp hx hb d_Resolver_foundMethod_74 ?_
        refine lv_if_ne (tgt := 80) hx hb d_Resolver_foundMethod_75 (by decide) (fun c5 => ?_) (fun c5 => ?_)
        · have hf := ifn c5 hf
          refine lv_aload_n hx hb d_Resolver_foundMethod_80 rfl (lv_at hl 1 rfl) ?_
          refine xg_Resolver_38 hx hb hta hown hKv hP d_Resolver_foundMethod_81 ?_
          refine lv_lload hx hb d_Resolver_foundMethod_84 (lv_at hl 0 rfl) ?_
          obtain ⟨r12, hc6, hf⟩ := bd1_e hf
          refine xvc_Resolver_162 X hkk hD (Nat.le_of_ble_eq_true rfl) ⟨by dsimp only [rmR]; omega, by dsimp only [rmR]; omega⟩ ⟨Nat.zero_le _, Nat.zero_le _⟩ hc6 hl.1 hP hS d_Resolver_foundMethod_86 (fun H locs hP hS => ?_)
          refine lv_lstore (lv' := [(6, .long r12), (4, .long r11), (0, .ref (ad 7)), (1, .int x1), (2, .long x2)]) hx hb d_Resolver_foundMethod_89 hl (by decide) rfl (fun ls hl => ?_)
          refine lv_lload hx hb d_Resolver_foundMethod_91 (lv_at hl 0 rfl) ?_
          obtain ⟨r13, hc7, hf⟩ := bd1_e hf
          refine xvc_Resolver_166 X hkk hD (Nat.le_of_ble_eq_true rfl) ⟨by dsimp only [rmR]; omega, by dsimp only [rmR]; omega⟩ ⟨Nat.zero_le _, Nat.zero_le _⟩ hc7 hl.1 hP hS d_Resolver_foundMethod_93 (fun H locs hP hS => ?_)
          refine lv_iconst (v := (1 : Int32)) hx hb d_Resolver_foundMethod_96 (by decide) ?_
          refine lv_icmp_ne (tgt := 105) hx hb d_Resolver_foundMethod_97 (by decide) (fun c8 => ?_) (fun c8 => ?_)
          · have hf := ifn c8 hf
            refine lv_lload hx hb d_Resolver_foundMethod_105 (lv_at hl 1 rfl) ?_
            exact b107 r11 _ _ _ hf hP hS (lv_sub hl [] rfl)
          · have hf := ifp c8 hf
            refine lv_lload hx hb d_Resolver_foundMethod_100 (lv_at hl 0 rfl) ?_
            refine lv_goto (tgt := 107) hx hb d_Resolver_foundMethod_102 (by decide) ?_
            exact b107 r12 _ _ _ hf hP hS (lv_sub hl [] rfl)
        · have hf := ifp c5 hf
          refine lv_iconst (v := (0 : Int32)) hx hb d_Resolver_foundMethod_78 (by decide) ?_
          exact hret hf hP hS d_Resolver_foundMethod_79
      · have hf := ifn c3 hf
        refine lv_aload_n hx hb d_Resolver_foundMethod_17 rfl (lv_at hl 0 rfl) ?_
        refine xg_Resolver_33 hx hb hta hown hKv hP d_Resolver_foundMethod_18 ?_
        refine xg_Resolver_129 hx hb hta hown hKv hP d_Resolver_foundMethod_21 ?_
        refine lv_aload_n hx hb d_Resolver_foundMethod_24 rfl (lv_at hl 0 rfl) ?_
        refine xg_Resolver_21 hx hb hta hown hKv hP d_Resolver_foundMethod_25 ?_
        refine xg_Resolver_154 hx hb hta hown hKv hP d_Resolver_foundMethod_28 ?_
        refine lv_iload_n hx hb d_Resolver_foundMethod_31 rfl (lv_at hl 1 rfl) ?_
        obtain ⟨g9, hf⟩ := gd_ok hf
        refine x_ald (k0 := 38) (base := 39) (n := 17) hx hb hKv hP c_c38 g9 d_Resolver_foundMethod_32 ?_
        refine lv_iload hx hb d_Resolver_foundMethod_33 (lv_at hl 3 rfl) ?_
        obtain ⟨g10, hf⟩ := gd_ok hf
        refine x_ild hx hb hKv hP (c_c39 g9) g10 d_Resolver_foundMethod_35 ?_
        obtain ⟨g11, hf⟩ := gd_ok hf
        refine x_lld hx hb hKv hP c_c32 g11 d_Resolver_foundMethod_36 ?_
        refine lv_lload_n hx hb d_Resolver_foundMethod_37 rfl (lv_at hl 2 rfl) ?_
        refine lv_land hx hb d_Resolver_foundMethod_38 ?_
        refine lv_lstore (lv' := [(5, .long (((M.2 32 ((M.1 (39 + x1.toNatClampNeg) x4.toNatClampNeg)).toNatClampNeg) &&& x2))), (0, .ref (ad 7)), (1, .int x1), (2, .long x2), (4, .int x4)]) hx hb d_Resolver_foundMethod_39 hl (by decide) rfl (fun ls hl => ?_)
        refine lv_lload hx hb d_Resolver_foundMethod_41 (lv_at hl 0 rfl) ?_
        refine lv_lconst (v := (0 : Int64)) hx hb d_Resolver_foundMethod_43 (by decide) ?_
        refine W.lcmp hx hb d_Resolver_foundMethod_44 ?_
        refine lv_if_eq (tgt := 54) hx hb d_Resolver_foundMethod_45 (by decide) (fun c12 => ?_) (fun c12 => ?_)
        · have hf := ifp c12 hf
          refine lv_iinc (v := (x4 + (1 : Int32))) (lv' := [(4, .int (x4 + (1 : Int32))), (5, .long (((M.2 32 ((M.1 (39 + x1.toNatClampNeg) x4.toNatClampNeg)).toNatClampNeg) &&& x2))), (0, .ref (ad 7)), (1, .int x1), (2, .long x2)]) hx hb d_Resolver_foundMethod_54 hl (k := 4) rfl rfl (by decide) rfl (fun ls hl => ?_)
          refine lv_goto (tgt := 3) hx hb d_Resolver_foundMethod_57 (by decide) ?_
          exact ih3 (x4 + (1 : Int32)) _ _ _ hf hP hS (lv_sub hl [2, 3, 4, 0] rfl)
        · have hf := ifn c12 hf
          rw [hke48] at hf
          refine lv_lload hx hb d_Resolver_foundMethod_48 (lv_at hl 0 rfl) ?_
          obtain ⟨r14, hc13, hf⟩ := bd1_e hf
          refine xvc_Resolver_133 X hkk hD (Nat.le_of_ble_eq_true rfl) ⟨by dsimp only [rmR]; omega, by dsimp only [rmR]; omega⟩ ⟨Nat.zero_le _, Nat.zero_le _⟩ hc13 hl.1 hP hS d_Resolver_foundMethod_50 (fun H locs hP hS => ?_)
          exact hret hf hP hS d_Resolver_foundMethod_53
  unfold f_Resolver_foundMethod at hf
  refine lv_iconst (v := (0 : Int32)) hx hb d_Resolver_foundMethod_0 (by decide) ?_
  refine lv_istore (lv' := [(4, .int (0 : Int32)), (0, .ref (ad 7)), (1, .int a1), (2, .long a2)]) hx hb d_Resolver_foundMethod_1 hl (by decide) rfl (fun ls hl => ?_)
  exact L3 a1 a2 _ rfl _ rfl FU (0 : Int32) _ _ _ hf hP hS (lv_sub hl [1, 2, 3, 0] rfl)
-- LinkAudit$Links.isSubclass
set_option maxHeartbeats 4000000 in
set_option maxRecDepth 100000 in
theorem c_Links_isSubclass {l : Launch} {D : va_G} {cI cL cG cZ : ClassId} {ad : Nat → Nat} {M : Mem} {a1 : Int32} {a2 : Int32} {r : Int32} (hD : ∀ M, va_D (c_A ad) (c_ws cI cL cG cZ ad M)) (hf : f_Links_isSubclass M a1 a2 = some r) : Mi l y_Links_isSubclass (.code y_Links_isSubclass prog_5_method_4_code 3 (some .boolean) :: ALLW) (rmR 1 22) (Kk D cI cL cG cZ) D vwC (c_A ad) (c_ws cI cL cG cZ ad) [.ref (ad 5), .int a1, .int a2] M M r := by
  refine Mz_ofR (by decide) (Nat.le_of_ble_eq_true rfl) ?_
  intro p e s m args below meth c ls Q X hkk hret hP hl
  obtain ⟨hx, hb, hml, hown, hta⟩ := id X
  have hKv := hkk.1
  have hS : va_S (c_A ad) s.heap s.heap [] := va_S.rf
  have hl : lv_has ls 3 [(0, .ref (ad 5)), (1, .int a1), (2, .int a2)] := hl
  unfold f_Links_isSubclass at hf
  refine lv_iload_n hx hb d_Links_isSubclass_0 rfl (lv_at hl 1 rfl) ?_
  refine lv_iload_n hx hb d_Links_isSubclass_1 rfl (lv_at hl 2 rfl) ?_
  refine lv_icmp_eq (tgt := 19) hx hb d_Links_isSubclass_2 (by decide) (fun c1 => ?_) (fun c1 => ?_)
  · have hf := ifp c1 hf
    refine lv_iconst (v := (1 : Int32)) hx hb d_Links_isSubclass_19 (by decide) ?_
    refine lv_goto (tgt := 24) hx hb d_Links_isSubclass_20 (by decide) ?_
    exact hret (Or.inr rfl) hf hP hS d_Links_isSubclass_24
  · have hf := ifn c1 hf
    refine lv_aload_n hx hb d_Links_isSubclass_5 rfl (lv_at hl 0 rfl) ?_
    refine xg_Links_23 hx hb hta hown hKv hP d_Links_isSubclass_6 ?_
    refine lv_iload_n hx hb d_Links_isSubclass_9 rfl (lv_at hl 1 rfl) ?_
    obtain ⟨g2, hf⟩ := gd_ok hf
    refine x_ild hx hb hKv hP c_c57 g2 d_Links_isSubclass_10 ?_
    refine lv_i2l hx hb d_Links_isSubclass_11 rfl ?_
    refine lv_iload_n hx hb d_Links_isSubclass_12 rfl (lv_at hl 2 rfl) ?_
    obtain ⟨r2, hc3, hf⟩ := bd1_e hf
    refine xvc_Links_59 X hkk hD (Nat.le_of_ble_eq_true rfl) ⟨by dsimp only [rmR]; omega, by dsimp only [rmR]; omega⟩ ⟨Nat.zero_le _, Nat.zero_le _⟩ hc3 hl.1 hP hS d_Links_isSubclass_13 (fun H locs hP hS => ?_)
    refine lv_if_eq (tgt := 23) hx hb d_Links_isSubclass_16 (by decide) (fun c4 => ?_) (fun c4 => ?_)
    · have hf := ifp c4 hf
      refine lv_iconst (v := (0 : Int32)) hx hb d_Links_isSubclass_23 (by decide) ?_
      exact hret (Or.inl rfl) hf hP hS d_Links_isSubclass_24
    · have hf := ifn c4 hf
      refine lv_iconst (v := (1 : Int32)) hx hb d_Links_isSubclass_19 (by decide) ?_
      refine lv_goto (tgt := 24) hx hb d_Links_isSubclass_20 (by decide) ?_
      exact hret (Or.inr rfl) hf hP hS d_Links_isSubclass_24
-- LinkAudit$Resolver.mayReach
theorem xg_Resolver_113 {p : Program} {l : Launch} {e : Env} {R : Room} {s : State} {m : MethodId} {args : Array Value} {below : List Frame} {meth : Method} {c : Code} {H : Heap} {locs : List Loc} {cells slots : Nat} {Q : State → Prop} {cc : ByteArray} {pc : Nat} {ls : Array Slot} {rest : List Value} {D : va_G} {cI cL cG cZ : ClassId} {ad : Nat → Nat} {M : Mem} (hx : p.tables.exec = Jvm.exec) (hb : c.code = cc) (hta : ∀ w ∈ ALLW, w.before args s = true) (hown : s.vm.findClass "LinkAudit$Resolver" = some m.cls) (hK : va_K D vwC [(cI, .int), (cL, .long), (cG, .array .int), (cZ, .boolean)] s) (hP : va_P D vwC (c_ws cI cL cG cZ ad M) H) (hdg : decode cc pc = .ok (.getfield 113, 3))
    (kk : W p l e R s m args below meth c H locs cells slots Q (F0 m (pc + 3) ls (.ref (ad 29) :: rest))) : W p l e R s m args below meth c H locs cells slots Q (F0 m pc ls (.ref (ad 3) :: rest)) :=
  va_get (D := D) (ci := 3) (v := .ref (ad 29)) (C := "LinkAudit$Members") (T := T_Members) (N := 7) hx hb hta i_Members hown hK hP 3 c_c3 rfl 0 (by decide) (hta _ wm_91) (fun _ h9 => h9) rfl hdg kk
theorem xvc_Resolver_116 {p : Program} {l : Launch} {e : Env} {R : Room} {s : State} {m : MethodId} {args : Array Value} {below : List Frame} {meth : Method} {c : Code} {H : Heap} {locs : List Loc} {cells slots : Nat} {Q : State → Prop} {cc : ByteArray} {pc : Nat} {ls : Array Slot} {rest : List Value} {D : va_G} {cI cL cG cZ : ClassId} {ad : Nat → Nat} {M : Mem} {H0 : Heap} {nL : Nat} {a0 : Int32} {r : Int32} (X : CallFix p m c cc nL s args ALLW "LinkAudit$Resolver") (hkk : Kk D cI cL cG cZ s) (hD : ∀ M, va_D (c_A ad) (c_ws cI cL cG cZ ad M)) (hrest : (rest.map fun v => v.category).sum ≤ 8) (hR : 0 + 1 ≤ R.frames ∧ 8 + (2 + 11) + 0 ≤ R.locals) (hcs : cells + 0 ≤ R.cells ∧ slots + 0 ≤ R.slots) (hc : f_Members_access M a0 = some r) (hsz : ls.size = nL) (hP : va_P D vwC (c_ws cI cL cG cZ ad M) H) (hS : va_S (c_A ad) H0 H locs) (hdg : decode cc pc = .ok (.invokevirtual 116, 3))
    (kk : ∀ (H1 : Heap) (locs1 : List Loc), va_P D vwC (c_ws cI cL cG cZ ad M) H1 → va_S (c_A ad) H0 H1 locs1 → W p l e R s m args below meth c H1 locs1 cells slots Q (F0 m (pc + 3) ls (.int r :: rest))) : W p l e R s m args below meth c H locs cells slots Q (F0 m pc ls (.int a0 :: .ref (ad 3) :: rest)) := by
  have hta := X.2.2.2.2
  exact x_afterI (va_runV (As := [.int a0]) (rest := rest) X (c_Members_access hD hc) ⟨callB_of 1 hta (good_all (L := .code y_Members_access prog_7_method_8_code 2 (some .int) :: ALLW) (List.forall_mem_cons.mpr ⟨wm_401, fun _ h => h⟩)) rfl rfl rfl (hta _ wm_4) (hta _ wm_573) (by decide +kernel) hR, hta _ wm_399, hta _ wm_400⟩ ⟨x_blind Kk_w _, va_recv hkk.1 hP (ci := 3) (q0 := 3) rfl c_c3, x_pre Kk_w hkk hP _⟩ rfl rfl hsz rfl (lv_room hrest) hdg hcs) hS kk
theorem xvc_Resolver_119 {p : Program} {l : Launch} {e : Env} {R : Room} {s : State} {m : MethodId} {args : Array Value} {below : List Frame} {meth : Method} {c : Code} {H : Heap} {locs : List Loc} {cells slots : Nat} {Q : State → Prop} {cc : ByteArray} {pc : Nat} {ls : Array Slot} {rest : List Value} {D : va_G} {cI cL cG cZ : ClassId} {ad : Nat → Nat} {M : Mem} {H0 : Heap} {nL : Nat} {a0 : Int32} {a1 : Int32} {r : Int32} (X : CallFix p m c cc nL s args ALLW "LinkAudit$Resolver") (hkk : Kk D cI cL cG cZ s) (hD : ∀ M, va_D (c_A ad) (c_ws cI cL cG cZ ad M)) (hrest : (rest.map fun v => v.category).sum ≤ 8) (hR : 0 + 1 ≤ R.frames ∧ 8 + (3 + 11) + 0 ≤ R.locals) (hcs : cells + 0 ≤ R.cells ∧ slots + 0 ≤ R.slots) (hc : f_Classes_areNeighbours M a0 a1 = some r) (hsz : ls.size = nL) (hP : va_P D vwC (c_ws cI cL cG cZ ad M) H) (hS : va_S (c_A ad) H0 H locs) (hdg : decode cc pc = .ok (.invokevirtual 119, 3))
    (kk : ∀ (H1 : Heap) (locs1 : List Loc), va_P D vwC (c_ws cI cL cG cZ ad M) H1 → va_S (c_A ad) H0 H1 locs1 → W p l e R s m args below meth c H1 locs1 cells slots Q (F0 m (pc + 3) ls (.int r :: rest))) : W p l e R s m args below meth c H locs cells slots Q (F0 m pc ls (.int a1 :: .int a0 :: .ref (ad 2) :: rest)) := by
  have hta := X.2.2.2.2
  exact x_afterI (va_runV (As := [.int a0, .int a1]) (rest := rest) X (c_Classes_areNeighbours hD hc) ⟨callB_of 2 hta (good_all (L := .code y_Classes_areNeighbours prog_3_method_6_code 3 (some .boolean) :: ALLW) (List.forall_mem_cons.mpr ⟨wm_475, fun _ h => h⟩)) rfl rfl rfl (hta _ wm_3) (hta _ wm_574) (by decide +kernel) hR, hta _ wm_473, hta _ wm_474⟩ ⟨x_blind Kk_w _, va_recv hkk.1 hP (ci := 2) (q0 := 2) rfl c_c2, x_pre Kk_w hkk hP _⟩ rfl rfl hsz rfl (lv_room hrest) hdg hcs) hS kk
theorem xvc_Resolver_122 {p : Program} {l : Launch} {e : Env} {R : Room} {s : State} {m : MethodId} {args : Array Value} {below : List Frame} {meth : Method} {c : Code} {H : Heap} {locs : List Loc} {cells slots : Nat} {Q : State → Prop} {cc : ByteArray} {pc : Nat} {ls : Array Slot} {rest : List Value} {D : va_G} {cI cL cG cZ : ClassId} {ad : Nat → Nat} {M : Mem} {H0 : Heap} {nL : Nat} {a0 : Int32} {a1 : Int32} {r : Int32} (X : CallFix p m c cc nL s args ALLW "LinkAudit$Resolver") (hkk : Kk D cI cL cG cZ s) (hD : ∀ M, va_D (c_A ad) (c_ws cI cL cG cZ ad M)) (hrest : (rest.map fun v => v.category).sum ≤ 8) (hR : 1 + 1 ≤ R.frames ∧ 8 + (3 + 11) + 22 ≤ R.locals) (hcs : cells + 0 ≤ R.cells ∧ slots + 0 ≤ R.slots) (hc : f_Links_isSubclass M a0 a1 = some r) (hsz : ls.size = nL) (hP : va_P D vwC (c_ws cI cL cG cZ ad M) H) (hS : va_S (c_A ad) H0 H locs) (hdg : decode cc pc = .ok (.invokevirtual 122, 3))
    (kk : ∀ (H1 : Heap) (locs1 : List Loc), va_P D vwC (c_ws cI cL cG cZ ad M) H1 → va_S (c_A ad) H0 H1 locs1 → W p l e R s m args below meth c H1 locs1 cells slots Q (F0 m (pc + 3) ls (.int r :: rest))) : W p l e R s m args below meth c H locs cells slots Q (F0 m pc ls (.int a1 :: .int a0 :: .ref (ad 5) :: rest)) := by
  have hta := X.2.2.2.2
  exact x_afterI (va_runV (As := [.int a0, .int a1]) (rest := rest) X (c_Links_isSubclass hD hc) ⟨callB_of 2 hta (good_all (L := .code y_Links_isSubclass prog_5_method_4_code 3 (some .boolean) :: ALLW) (List.forall_mem_cons.mpr ⟨wm_578, fun _ h => h⟩)) rfl rfl rfl (hta _ wm_6) (hta _ wm_575) (by decide +kernel) hR, hta _ wm_576, hta _ wm_577⟩ ⟨x_blind Kk_w _, va_recv hkk.1 hP (ci := 5) (q0 := 5) rfl c_c5, x_pre Kk_w hkk hP _⟩ rfl rfl hsz rfl (lv_room hrest) hdg hcs) hS kk
set_option maxHeartbeats 4000000 in
set_option maxRecDepth 100000 in
theorem c_Resolver_mayReach {l : Launch} {D : va_G} {cI cL cG cZ : ClassId} {ad : Nat → Nat} {M : Mem} {a1 : Int32} {a2 : Int32} {r : Int32} (hD : ∀ M, va_D (c_A ad) (c_ws cI cL cG cZ ad M)) (hf : f_Resolver_mayReach M a1 a2 = some r) : Mi l y_Resolver_mayReach (.code y_Resolver_mayReach prog_9_method_6_code 4 (some .boolean) :: ALLW) (rmR 2 44) (Kk D cI cL cG cZ) D vwC (c_A ad) (c_ws cI cL cG cZ ad) [.ref (ad 7), .int a1, .int a2] M M r := by
  refine Mz_ofR (by decide) (Nat.le_of_ble_eq_true rfl) ?_
  intro p e s m args below meth c ls Q X hkk hret hP hl
  obtain ⟨hx, hb, hml, hown, hta⟩ := id X
  have hKv := hkk.1
  have hS : va_S (c_A ad) s.heap s.heap [] := va_S.rf
  have hl : lv_has ls 4 [(0, .ref (ad 7)), (1, .int a1), (2, .int a2)] := hl
  unfold f_Resolver_mayReach at hf
  refine lv_aload_n hx hb d_Resolver_mayReach_0 rfl (lv_at hl 0 rfl) ?_
  refine xg_Resolver_33 hx hb hta hown hKv hP d_Resolver_mayReach_1 ?_
  refine xg_Resolver_113 hx hb hta hown hKv hP d_Resolver_mayReach_4 ?_
  refine lv_iload_n hx hb d_Resolver_mayReach_7 rfl (lv_at hl 2 rfl) ?_
  obtain ⟨g1, hf⟩ := gd_ok hf
  refine x_ild hx hb hKv hP c_c29 g1 d_Resolver_mayReach_8 ?_
  refine lv_istore_n (lv' := [(3, .int (M.1 29 a2.toNatClampNeg)), (0, .ref (ad 7)), (1, .int a1), (2, .int a2)]) hx hb d_Resolver_mayReach_9 rfl hl (by decide) rfl (fun ls hl => ?_)
  refine lv_aload_n hx hb d_Resolver_mayReach_10 rfl (lv_at hl 1 rfl) ?_
  refine xg_Resolver_33 hx hb hta hown hKv hP d_Resolver_mayReach_11 ?_
  refine lv_iload_n hx hb d_Resolver_mayReach_14 rfl (lv_at hl 3 rfl) ?_
  obtain ⟨r5, hc2, hf⟩ := bd1_e hf
  refine xvc_Resolver_116 X hkk hD (Nat.le_of_ble_eq_true rfl) ⟨by dsimp only [rmR]; omega, by dsimp only [rmR]; omega⟩ ⟨Nat.zero_le _, Nat.zero_le _⟩ hc2 hl.1 hP hS d_Resolver_mayReach_15 (fun H locs hP hS => ?_)
  by_cases c3 : r5 = (0 : Int32)
  · have hf := ifp c3 hf
    refine lv_tableIn (tgt := 44) hx hb d_Resolver_mayReach_18 (by rw [c3]; decide) (by rw [c3]; decide) (by rw [c3]; rfl) (by decide) ?_
    refine lv_iconst (v := (1 : Int32)) hx hb d_Resolver_mayReach_44 (by decide) ?_
    exact hret (Or.inr rfl) hf hP hS d_Resolver_mayReach_45
  have hf := ifn c3 hf
  by_cases c4 : r5 = (1 : Int32)
  · have hf := ifp c4 hf
    refine lv_tableIn (tgt := 46) hx hb d_Resolver_mayReach_18 (by rw [c4]; decide) (by rw [c4]; decide) (by rw [c4]; rfl) (by decide) ?_
    refine lv_aload_n hx hb d_Resolver_mayReach_46 rfl (lv_at hl 1 rfl) ?_
    refine xg_Resolver_28 hx hb hta hown hKv hP d_Resolver_mayReach_47 ?_
    refine lv_iload_n hx hb d_Resolver_mayReach_50 rfl (lv_at hl 2 rfl) ?_
    refine lv_iload_n hx hb d_Resolver_mayReach_51 rfl (lv_at hl 0 rfl) ?_
    obtain ⟨r6, hc5, hf⟩ := bd1_e hf
    refine xvc_Resolver_119 X hkk hD (Nat.le_of_ble_eq_true rfl) ⟨by dsimp only [rmR]; omega, by dsimp only [rmR]; omega⟩ ⟨Nat.zero_le _, Nat.zero_le _⟩ hc5 hl.1 hP hS d_Resolver_mayReach_52 (fun H locs hP hS => ?_)
    refine lv_if_ne (tgt := 70) hx hb d_Resolver_mayReach_55 (by decide) (fun c6 => ?_) (fun c6 => ?_)
    · have hf := ifn c6 hf
      refine lv_iconst (v := (1 : Int32)) hx hb d_Resolver_mayReach_70 (by decide) ?_
      refine lv_goto (tgt := 75) hx hb d_Resolver_mayReach_71 (by decide) ?_
      exact hret (Or.inr rfl) hf hP hS d_Resolver_mayReach_75
    · have hf := ifp c6 hf
      refine lv_aload_n hx hb d_Resolver_mayReach_58 rfl (lv_at hl 1 rfl) ?_
      refine xg_Resolver_21 hx hb hta hown hKv hP d_Resolver_mayReach_59 ?_
      refine lv_iload_n hx hb d_Resolver_mayReach_62 rfl (lv_at hl 2 rfl) ?_
      refine lv_iload_n hx hb d_Resolver_mayReach_63 rfl (lv_at hl 0 rfl) ?_
      obtain ⟨r7, hc7, hf⟩ := bd1_e hf
      refine xvc_Resolver_122 X hkk hD (Nat.le_of_ble_eq_true rfl) ⟨by dsimp only [rmR]; omega, by dsimp only [rmR]; omega⟩ ⟨Nat.zero_le _, Nat.zero_le _⟩ hc7 hl.1 hP hS d_Resolver_mayReach_64 (fun H locs hP hS => ?_)
      refine lv_if_eq (tgt := 74) hx hb d_Resolver_mayReach_67 (by decide) (fun c8 => ?_) (fun c8 => ?_)
      · have hf := ifp c8 hf
        refine lv_iconst (v := (0 : Int32)) hx hb d_Resolver_mayReach_74 (by decide) ?_
        exact hret (Or.inl rfl) hf hP hS d_Resolver_mayReach_75
      · have hf := ifn c8 hf
        refine lv_iconst (v := (1 : Int32)) hx hb d_Resolver_mayReach_70 (by decide) ?_
        refine lv_goto (tgt := 75) hx hb d_Resolver_mayReach_71 (by decide) ?_
        exact hret (Or.inr rfl) hf hP hS d_Resolver_mayReach_75
  have hf := ifn c4 hf
  by_cases c9 : r5 = (2 : Int32)
  · have hf := ifp c9 hf
    refine lv_tableIn (tgt := 76) hx hb d_Resolver_mayReach_18 (by rw [c9]; decide) (by rw [c9]; decide) (by rw [c9]; rfl) (by decide) ?_
    refine lv_aload_n hx hb d_Resolver_mayReach_76 rfl (lv_at hl 1 rfl) ?_
    refine xg_Resolver_28 hx hb hta hown hKv hP d_Resolver_mayReach_77 ?_
    refine lv_iload_n hx hb d_Resolver_mayReach_80 rfl (lv_at hl 2 rfl) ?_
    refine lv_iload_n hx hb d_Resolver_mayReach_81 rfl (lv_at hl 0 rfl) ?_
    obtain ⟨r8, hc10, hf⟩ := bd1_e hf
    refine xvc_Resolver_119 X hkk hD (Nat.le_of_ble_eq_true rfl) ⟨by dsimp only [rmR]; omega, by dsimp only [rmR]; omega⟩ ⟨Nat.zero_le _, Nat.zero_le _⟩ hc10 hl.1 hP hS d_Resolver_mayReach_82 (fun H locs hP hS => ?_)
    obtain ⟨g11, hf⟩ := gd_d hf
    exact hret g11 hf hP hS d_Resolver_mayReach_85
  have hf := ifn c9 hf
  refine lv_tableOut (tgt := 86) hx hb d_Resolver_mayReach_18 (by have := lv_neT (a := 0) c3 rfl; have := lv_neT (a := 1) c4 rfl; have := lv_neT (a := 2) c9 rfl; omega) (by decide) ?_
  refine lv_iload_n hx hb d_Resolver_mayReach_86 rfl (lv_at hl 2 rfl) ?_
  refine lv_iload_n hx hb d_Resolver_mayReach_87 rfl (lv_at hl 0 rfl) ?_
  refine lv_icmp_ne (tgt := 95) hx hb d_Resolver_mayReach_88 (by decide) (fun c12 => ?_) (fun c12 => ?_)
  · have hf := ifn c12 hf
    refine lv_iconst (v := (0 : Int32)) hx hb d_Resolver_mayReach_95 (by decide) ?_
    exact hret (Or.inl rfl) hf hP hS d_Resolver_mayReach_96
  · have hf := ifp c12 hf
    refine lv_iconst (v := (1 : Int32)) hx hb d_Resolver_mayReach_91 (by decide) ?_
    refine lv_goto (tgt := 96) hx hb d_Resolver_mayReach_92 (by decide) ?_
    exact hret (Or.inr rfl) hf hP hS d_Resolver_mayReach_96
-- LinkAudit$References.wantsStatic
set_option maxHeartbeats 4000000 in
set_option maxRecDepth 100000 in
theorem c_References_wantsStatic {l : Launch} {D : va_G} {cI cL cG cZ : ClassId} {ad : Nat → Nat} {M : Mem} {a1 : Int32} {r : Int32} (hD : ∀ M, va_D (c_A ad) (c_ws cI cL cG cZ ad M)) (hf : f_References_wantsStatic M a1 = some r) : Mi l y_References_wantsStatic (.code y_References_wantsStatic prog_8_method_4_code 2 (some .boolean) :: ALLW) (rmR 0 0) (Kk D cI cL cG cZ) D vwC (c_A ad) (c_ws cI cL cG cZ ad) [.ref (ad 4), .int a1] M M r := by
  refine Mz_ofR (by decide) (Nat.le_of_ble_eq_true rfl) ?_
  intro p e s m args below meth c ls Q X hkk hret hP hl
  obtain ⟨hx, hb, hml, hown, hta⟩ := id X
  have hKv := hkk.1
  have hS : va_S (c_A ad) s.heap s.heap [] := va_S.rf
  have hl : lv_has ls 2 [(0, .ref (ad 4)), (1, .int a1)] := hl
  unfold f_References_wantsStatic at hf
  refine lv_aload_n hx hb d_References_wantsStatic_0 rfl (lv_at hl 0 rfl) ?_
  refine xg_References_15 hx hb hta hown hKv hP d_References_wantsStatic_1 ?_
  refine lv_iload_n hx hb d_References_wantsStatic_4 rfl (lv_at hl 1 rfl) ?_
  obtain ⟨g1, hf⟩ := gd_ok hf
  refine x_ild hx hb hKv hP c_c34 g1 d_References_wantsStatic_5 ?_
  refine lv_iconst (v := (2 : Int32)) hx hb d_References_wantsStatic_6 (by decide) ?_
  refine lv_icmp_eq (tgt := 20) hx hb d_References_wantsStatic_7 (by decide) (fun c2 => ?_) (fun c2 => ?_)
  · have hf := ifp c2 hf
    refine lv_iconst (v := (1 : Int32)) hx hb d_References_wantsStatic_20 (by decide) ?_
    refine lv_goto (tgt := 25) hx hb d_References_wantsStatic_21 (by decide) ?_
    exact hret (Or.inr rfl) hf hP hS d_References_wantsStatic_25
  · have hf := ifn c2 hf
    refine lv_aload_n hx hb d_References_wantsStatic_10 rfl (lv_at hl 0 rfl) ?_
    refine xg_References_15 hx hb hta hown hKv hP d_References_wantsStatic_11 ?_
    refine lv_iload_n hx hb d_References_wantsStatic_14 rfl (lv_at hl 1 rfl) ?_
    obtain ⟨g3, hf⟩ := gd_ok hf
    refine x_ild hx hb hKv hP c_c34 g3 d_References_wantsStatic_15 ?_
    refine lv_iconst (v := (4 : Int32)) hx hb d_References_wantsStatic_16 (by decide) ?_
    refine lv_icmp_ne (tgt := 24) hx hb d_References_wantsStatic_17 (by decide) (fun c4 => ?_) (fun c4 => ?_)
    · have hf := ifn c4 hf
      refine lv_iconst (v := (0 : Int32)) hx hb d_References_wantsStatic_24 (by decide) ?_
      exact hret (Or.inl rfl) hf hP hS d_References_wantsStatic_25
    · have hf := ifp c4 hf
      refine lv_iconst (v := (1 : Int32)) hx hb d_References_wantsStatic_20 (by decide) ?_
      refine lv_goto (tgt := 25) hx hb d_References_wantsStatic_21 (by decide) ?_
      exact hret (Or.inr rfl) hf hP hS d_References_wantsStatic_25
-- LinkAudit$Resolver.memberVerdict
theorem xvc_Resolver_104 {p : Program} {l : Launch} {e : Env} {R : Room} {s : State} {m : MethodId} {args : Array Value} {below : List Frame} {meth : Method} {c : Code} {H : Heap} {locs : List Loc} {cells slots : Nat} {Q : State → Prop} {cc : ByteArray} {pc : Nat} {ls : Array Slot} {rest : List Value} {D : va_G} {cI cL cG cZ : ClassId} {ad : Nat → Nat} {M : Mem} {H0 : Heap} {nL : Nat} {a0 : Int32} {a1 : Int32} {r : Int32} (X : CallFix p m c cc nL s args ALLW "LinkAudit$Resolver") (hkk : Kk D cI cL cG cZ s) (hD : ∀ M, va_D (c_A ad) (c_ws cI cL cG cZ ad M)) (hrest : (rest.map fun v => v.category).sum ≤ 8) (hR : 2 + 1 ≤ R.frames ∧ 8 + (4 + 11) + 44 ≤ R.locals) (hcs : cells + 0 ≤ R.cells ∧ slots + 0 ≤ R.slots) (hc : f_Resolver_mayReach M a0 a1 = some r) (hsz : ls.size = nL) (hP : va_P D vwC (c_ws cI cL cG cZ ad M) H) (hS : va_S (c_A ad) H0 H locs) (hdg : decode cc pc = .ok (.invokevirtual 104, 3))
    (kk : ∀ (H1 : Heap) (locs1 : List Loc), va_P D vwC (c_ws cI cL cG cZ ad M) H1 → va_S (c_A ad) H0 H1 locs1 → W p l e R s m args below meth c H1 locs1 cells slots Q (F0 m (pc + 3) ls (.int r :: rest))) : W p l e R s m args below meth c H locs cells slots Q (F0 m pc ls (.int a1 :: .int a0 :: .ref (ad 7) :: rest)) := by
  have hta := X.2.2.2.2
  exact x_afterI (va_runV (As := [.int a0, .int a1]) (rest := rest) X (c_Resolver_mayReach hD hc) ⟨callB_of 2 hta (good_all (L := .code y_Resolver_mayReach prog_9_method_6_code 4 (some .boolean) :: ALLW) (List.forall_mem_cons.mpr ⟨wm_572, fun _ h => h⟩)) rfl rfl rfl (hta _ wm_8) (hta _ wm_569) (by decide +kernel) hR, hta _ wm_571, hta _ wp_15⟩ ⟨x_blind Kk_w _, va_recv hkk.1 hP (ci := 7) (q0 := 7) rfl c_c7, x_pre Kk_w hkk hP _⟩ rfl rfl hsz rfl (lv_room hrest) hdg hcs) hS kk
theorem xvc_Resolver_107 {p : Program} {l : Launch} {e : Env} {R : Room} {s : State} {m : MethodId} {args : Array Value} {below : List Frame} {meth : Method} {c : Code} {H : Heap} {locs : List Loc} {cells slots : Nat} {Q : State → Prop} {cc : ByteArray} {pc : Nat} {ls : Array Slot} {rest : List Value} {D : va_G} {cI cL cG cZ : ClassId} {ad : Nat → Nat} {M : Mem} {H0 : Heap} {nL : Nat} {a0 : Int32} {r : Int32} (X : CallFix p m c cc nL s args ALLW "LinkAudit$Resolver") (hkk : Kk D cI cL cG cZ s) (hD : ∀ M, va_D (c_A ad) (c_ws cI cL cG cZ ad M)) (hrest : (rest.map fun v => v.category).sum ≤ 8) (hR : 0 + 1 ≤ R.frames ∧ 8 + (2 + 11) + 0 ≤ R.locals) (hcs : cells + 0 ≤ R.cells ∧ slots + 0 ≤ R.slots) (hc : f_Members_isStatic M a0 = some r) (hsz : ls.size = nL) (hP : va_P D vwC (c_ws cI cL cG cZ ad M) H) (hS : va_S (c_A ad) H0 H locs) (hdg : decode cc pc = .ok (.invokevirtual 107, 3))
    (kk : ∀ (H1 : Heap) (locs1 : List Loc), va_P D vwC (c_ws cI cL cG cZ ad M) H1 → va_S (c_A ad) H0 H1 locs1 → W p l e R s m args below meth c H1 locs1 cells slots Q (F0 m (pc + 3) ls (.int r :: rest))) : W p l e R s m args below meth c H locs cells slots Q (F0 m pc ls (.int a0 :: .ref (ad 3) :: rest)) := by
  have hta := X.2.2.2.2
  exact x_afterI (va_runV (As := [.int a0]) (rest := rest) X (c_Members_isStatic hD hc) ⟨callB_of 1 hta (good_all (L := .code y_Members_isStatic prog_7_method_9_code 2 (some .boolean) :: ALLW) (List.forall_mem_cons.mpr ⟨wm_397, fun _ h => h⟩)) rfl rfl rfl (hta _ wm_4) (hta _ wm_579) (by decide +kernel) hR, hta _ wm_395, hta _ wm_396⟩ ⟨x_blind Kk_w _, va_recv hkk.1 hP (ci := 3) (q0 := 3) rfl c_c3, x_pre Kk_w hkk hP _⟩ rfl rfl hsz rfl (lv_room hrest) hdg hcs) hS kk
theorem xg_Resolver_34 {p : Program} {l : Launch} {e : Env} {R : Room} {s : State} {m : MethodId} {args : Array Value} {below : List Frame} {meth : Method} {c : Code} {H : Heap} {locs : List Loc} {cells slots : Nat} {Q : State → Prop} {cc : ByteArray} {pc : Nat} {ls : Array Slot} {rest : List Value} {D : va_G} {cI cL cG cZ : ClassId} {ad : Nat → Nat} {M : Mem} (hx : p.tables.exec = Jvm.exec) (hb : c.code = cc) (hta : ∀ w ∈ ALLW, w.before args s = true) (hown : s.vm.findClass "LinkAudit$Resolver" = some m.cls) (hK : va_K D vwC [(cI, .int), (cL, .long), (cG, .array .int), (cZ, .boolean)] s) (hP : va_P D vwC (c_ws cI cL cG cZ ad M) H) (hdg : decode cc pc = .ok (.getfield 34, 3))
    (kk : W p l e R s m args below meth c H locs cells slots Q (F0 m (pc + 3) ls (.ref (ad 4) :: rest))) : W p l e R s m args below meth c H locs cells slots Q (F0 m pc ls (.ref (ad 7) :: rest)) :=
  va_get (D := D) (ci := 7) (v := .ref (ad 4)) (C := "LinkAudit$Resolver") (T := T_Resolver) (N := 6) hx hb hta i_Resolver hown hK hP 7 c_c7 rfl 3 (by decide) (hta _ wm_230) (fun _ h9 => h9) rfl hdg kk
theorem xvc_Resolver_110 {p : Program} {l : Launch} {e : Env} {R : Room} {s : State} {m : MethodId} {args : Array Value} {below : List Frame} {meth : Method} {c : Code} {H : Heap} {locs : List Loc} {cells slots : Nat} {Q : State → Prop} {cc : ByteArray} {pc : Nat} {ls : Array Slot} {rest : List Value} {D : va_G} {cI cL cG cZ : ClassId} {ad : Nat → Nat} {M : Mem} {H0 : Heap} {nL : Nat} {a0 : Int32} {r : Int32} (X : CallFix p m c cc nL s args ALLW "LinkAudit$Resolver") (hkk : Kk D cI cL cG cZ s) (hD : ∀ M, va_D (c_A ad) (c_ws cI cL cG cZ ad M)) (hrest : (rest.map fun v => v.category).sum ≤ 8) (hR : 0 + 1 ≤ R.frames ∧ 8 + (2 + 11) + 0 ≤ R.locals) (hcs : cells + 0 ≤ R.cells ∧ slots + 0 ≤ R.slots) (hc : f_References_wantsStatic M a0 = some r) (hsz : ls.size = nL) (hP : va_P D vwC (c_ws cI cL cG cZ ad M) H) (hS : va_S (c_A ad) H0 H locs) (hdg : decode cc pc = .ok (.invokevirtual 110, 3))
    (kk : ∀ (H1 : Heap) (locs1 : List Loc), va_P D vwC (c_ws cI cL cG cZ ad M) H1 → va_S (c_A ad) H0 H1 locs1 → W p l e R s m args below meth c H1 locs1 cells slots Q (F0 m (pc + 3) ls (.int r :: rest))) : W p l e R s m args below meth c H locs cells slots Q (F0 m pc ls (.int a0 :: .ref (ad 4) :: rest)) := by
  have hta := X.2.2.2.2
  exact x_afterI (va_runV (As := [.int a0]) (rest := rest) X (c_References_wantsStatic hD hc) ⟨callB_of 1 hta (good_all (L := .code y_References_wantsStatic prog_8_method_4_code 2 (some .boolean) :: ALLW) (List.forall_mem_cons.mpr ⟨wm_583, fun _ h => h⟩)) rfl rfl rfl (hta _ wm_5) (hta _ wm_580) (by decide +kernel) hR, hta _ wm_581, hta _ wm_582⟩ ⟨x_blind Kk_w _, va_recv hkk.1 hP (ci := 4) (q0 := 4) rfl c_c4, x_pre Kk_w hkk hP _⟩ rfl rfl hsz rfl (lv_room hrest) hdg hcs) hS kk
theorem xg_Resolver_85 {p : Program} {l : Launch} {e : Env} {R : Room} {s : State} {m : MethodId} {args : Array Value} {below : List Frame} {meth : Method} {c : Code} {H : Heap} {locs : List Loc} {cells slots : Nat} {Q : State → Prop} {cc : ByteArray} {pc : Nat} {ls : Array Slot} {rest : List Value} {D : va_G} {cI cL cG cZ : ClassId} {ad : Nat → Nat} {M : Mem} (hx : p.tables.exec = Jvm.exec) (hb : c.code = cc) (hta : ∀ w ∈ ALLW, w.before args s = true) (hown : s.vm.findClass "LinkAudit$Resolver" = some m.cls) (hK : va_K D vwC [(cI, .int), (cL, .long), (cG, .array .int), (cZ, .boolean)] s) (hP : va_P D vwC (c_ws cI cL cG cZ ad M) H) (hdg : decode cc pc = .ok (.getfield 85, 3))
    (kk : W p l e R s m args below meth c H locs cells slots Q (F0 m (pc + 3) ls (.ref (ad 36) :: rest))) : W p l e R s m args below meth c H locs cells slots Q (F0 m pc ls (.ref (ad 4) :: rest)) :=
  va_get (D := D) (ci := 4) (v := .ref (ad 36)) (C := "LinkAudit$References") (T := T_References) (N := 5) hx hb hta i_References hown hK hP 4 c_c4 rfl 3 (by decide) (hta _ wm_142) (fun _ h9 => h9) rfl hdg kk
theorem xvc_Resolver_88 {p : Program} {l : Launch} {e : Env} {R : Room} {s : State} {m : MethodId} {args : Array Value} {below : List Frame} {meth : Method} {c : Code} {H : Heap} {locs : List Loc} {cells slots : Nat} {Q : State → Prop} {cc : ByteArray} {pc : Nat} {ls : Array Slot} {rest : List Value} {D : va_G} {cI cL cG cZ : ClassId} {ad : Nat → Nat} {M : Mem} {H0 : Heap} {nL : Nat} {a0 : Int32} {r : Int64} (X : CallFix p m c cc nL s args ALLW "LinkAudit$Resolver") (hkk : Kk D cI cL cG cZ s) (hD : ∀ M, va_D (c_A ad) (c_ws cI cL cG cZ ad M)) (hrest : (rest.map fun v => v.category).sum ≤ 8) (hR : 0 + 1 ≤ R.frames ∧ 8 + (5 + 11) + 0 ≤ R.locals) (hcs : cells + 0 ≤ R.cells ∧ slots + 0 ≤ R.slots) (hc : f_Members_withSignature M a0 = some r) (hsz : ls.size = nL) (hP : va_P D vwC (c_ws cI cL cG cZ ad M) H) (hS : va_S (c_A ad) H0 H locs) (hdg : decode cc pc = .ok (.invokevirtual 88, 3))
    (kk : ∀ (H1 : Heap) (locs1 : List Loc), va_P D vwC (c_ws cI cL cG cZ ad M) H1 → va_S (c_A ad) H0 H1 locs1 → W p l e R s m args below meth c H1 locs1 cells slots Q (F0 m (pc + 3) ls (.long r :: rest))) : W p l e R s m args below meth c H locs cells slots Q (F0 m pc ls (.int a0 :: .ref (ad 3) :: rest)) := by
  have hta := X.2.2.2.2
  exact x_afterL (va_runV (As := [.int a0]) (rest := rest) X (c_Members_withSignature hD hc) ⟨callB_of 1 hta (good_all (L := .code y_Members_withSignature prog_7_method_10_code 5 (some .long) :: ALLW) (List.forall_mem_cons.mpr ⟨wm_385, fun _ h => h⟩)) rfl rfl rfl (hta _ wm_4) (hta _ wm_542) (by decide +kernel) hR, hta _ wm_383, hta _ wm_384⟩ ⟨x_blind Kk_w _, va_recv hkk.1 hP (ci := 3) (q0 := 3) rfl c_c3, x_pre Kk_w hkk hP _⟩ rfl rfl hsz rfl (lv_room hrest) hdg hcs) hS kk
theorem xvc_Resolver_94 {p : Program} {l : Launch} {e : Env} {R : Room} {s : State} {m : MethodId} {args : Array Value} {below : List Frame} {meth : Method} {c : Code} {H : Heap} {locs : List Loc} {cells slots : Nat} {Q : State → Prop} {cc : ByteArray} {pc : Nat} {ls : Array Slot} {rest : List Value} {D : va_G} {cI cL cG cZ : ClassId} {ad : Nat → Nat} {M : Mem} {H0 : Heap} {nL : Nat} {a0 : Int32} {r : Int32} (X : CallFix p m c cc nL s args ALLW "LinkAudit$Resolver") (hkk : Kk D cI cL cG cZ s) (hD : ∀ M, va_D (c_A ad) (c_ws cI cL cG cZ ad M)) (hrest : (rest.map fun v => v.category).sum ≤ 8) (hR : 0 + 1 ≤ R.frames ∧ 8 + (2 + 11) + 0 ≤ R.locals) (hcs : cells + 0 ≤ R.cells ∧ slots + 0 ≤ R.slots) (hc : f_References_wantsField M a0 = some r) (hsz : ls.size = nL) (hP : va_P D vwC (c_ws cI cL cG cZ ad M) H) (hS : va_S (c_A ad) H0 H locs) (hdg : decode cc pc = .ok (.invokevirtual 94, 3))
    (kk : ∀ (H1 : Heap) (locs1 : List Loc), va_P D vwC (c_ws cI cL cG cZ ad M) H1 → va_S (c_A ad) H0 H1 locs1 → W p l e R s m args below meth c H1 locs1 cells slots Q (F0 m (pc + 3) ls (.int r :: rest))) : W p l e R s m args below meth c H locs cells slots Q (F0 m pc ls (.int a0 :: .ref (ad 4) :: rest)) := by
  have hta := X.2.2.2.2
  exact x_afterI (va_runV (As := [.int a0]) (rest := rest) X (c_References_wantsField hD hc) ⟨callB_of 1 hta (good_all (L := .code y_References_wantsField prog_8_method_3_code 2 (some .boolean) :: ALLW) (List.forall_mem_cons.mpr ⟨wm_546, fun _ h => h⟩)) rfl rfl rfl (hta _ wm_5) (hta _ wm_543) (by decide +kernel) hR, hta _ wm_544, hta _ wm_545⟩ ⟨x_blind Kk_w _, va_recv hkk.1 hP (ci := 4) (q0 := 4) rfl c_c4, x_pre Kk_w hkk hP _⟩ rfl rfl hsz rfl (lv_room hrest) hdg hcs) hS kk
theorem xvc_Resolver_101 {p : Program} {l : Launch} {e : Env} {R : Room} {s : State} {m : MethodId} {args : Array Value} {below : List Frame} {meth : Method} {c : Code} {H : Heap} {locs : List Loc} {cells slots : Nat} {Q : State → Prop} {cc : ByteArray} {pc : Nat} {ls : Array Slot} {rest : List Value} {D : va_G} {cI cL cG cZ : ClassId} {ad : Nat → Nat} {M : Mem} {H0 : Heap} {nL : Nat} {a0 : Int32} {a1 : Int64} {r : Int32} (X : CallFix p m c cc nL s args ALLW "LinkAudit$Resolver") (hkk : Kk D cI cL cG cZ s) (hD : ∀ M, va_D (c_A ad) (c_ws cI cL cG cZ ad M)) (hrest : (rest.map fun v => v.category).sum ≤ 8) (hR : 2 + 1 ≤ R.frames ∧ 8 + (8 + 11) + 48 ≤ R.locals) (hcs : cells + 0 ≤ R.cells ∧ slots + 0 ≤ R.slots) (hc : f_Resolver_foundMethod M a0 a1 = some r) (hsz : ls.size = nL) (hP : va_P D vwC (c_ws cI cL cG cZ ad M) H) (hS : va_S (c_A ad) H0 H locs) (hdg : decode cc pc = .ok (.invokevirtual 101, 3))
    (kk : ∀ (H1 : Heap) (locs1 : List Loc), va_P D vwC (c_ws cI cL cG cZ ad M) H1 → va_S (c_A ad) H0 H1 locs1 → W p l e R s m args below meth c H1 locs1 cells slots Q (F0 m (pc + 3) ls (.int r :: rest))) : W p l e R s m args below meth c H locs cells slots Q (F0 m pc ls (.long a1 :: .int a0 :: .ref (ad 7) :: rest)) := by
  have hta := X.2.2.2.2
  exact x_afterI (va_runV (As := [.int a0, .long a1]) (rest := rest) X (c_Resolver_foundMethod hD hc) ⟨callB_of 2 hta (good_all (L := .code y_Resolver_foundMethod prog_9_method_8_code 8 (some .int) :: ALLW) (List.forall_mem_cons.mpr ⟨wm_557, fun _ h => h⟩)) rfl rfl rfl (hta _ wm_8) (hta _ wm_554) (by decide +kernel) hR, hta _ wm_556, hta _ wp_14⟩ ⟨x_blind Kk_w _, va_recv hkk.1 hP (ci := 7) (q0 := 7) rfl c_c7, x_pre Kk_w hkk hP _⟩ rfl rfl hsz rfl (lv_room hrest) hdg hcs) hS kk
theorem xvc_Resolver_97 {p : Program} {l : Launch} {e : Env} {R : Room} {s : State} {m : MethodId} {args : Array Value} {below : List Frame} {meth : Method} {c : Code} {H : Heap} {locs : List Loc} {cells slots : Nat} {Q : State → Prop} {cc : ByteArray} {pc : Nat} {ls : Array Slot} {rest : List Value} {D : va_G} {cI cL cG cZ : ClassId} {ad : Nat → Nat} {M : Mem} {H0 : Heap} {M1 : Mem} {nL : Nat} {a0 : Int32} {a1 : Int64} {r : Int32} (X : CallFix p m c cc nL s args ALLW "LinkAudit$Resolver") (hkk : Kk D cI cL cG cZ s) (hD : ∀ M, va_D (c_A ad) (c_ws cI cL cG cZ ad M)) (hrest : (rest.map fun v => v.category).sum ≤ 8) (hR : 42 + 1 ≤ R.frames ∧ 8 + (8 + 11) + 1126 ≤ R.locals) (hcs : cells + 0 ≤ R.cells ∧ slots + 0 ≤ R.slots) (hc : f_Resolver_searchField DP M a0 a1 = some (r, M1)) (hsz : ls.size = nL) (hP : va_P D vwC (c_ws cI cL cG cZ ad M) H) (hS : va_S (c_A ad) H0 H locs) (hdg : decode cc pc = .ok (.invokevirtual 97, 3))
    (kk : ∀ (H1 : Heap) (locs1 : List Loc), va_P D vwC (c_ws cI cL cG cZ ad M1) H1 → va_S (c_A ad) H0 H1 locs1 → W p l e R s m args below meth c H1 locs1 cells slots Q (F0 m (pc + 3) ls (.int r :: rest))) : W p l e R s m args below meth c H locs cells slots Q (F0 m pc ls (.long a1 :: .int a0 :: .ref (ad 7) :: rest)) := by
  have hta := X.2.2.2.2
  exact x_afterI (va_runV (As := [.int a0, .long a1]) (rest := rest) X (c_Resolver_searchField hD hc) ⟨callB_of 2 hta (good_all (L := .code y_Resolver_searchField prog_9_method_7_code 8 (some .int) :: ALLW) (List.forall_mem_cons.mpr ⟨wm_550, fun _ h => h⟩)) rfl rfl rfl (hta _ wm_8) (hta _ wm_547) (by decide +kernel) hR, hta _ wm_549, hta _ wp_13⟩ ⟨x_blind Kk_w _, va_recv hkk.1 hP (ci := 7) (q0 := 7) rfl c_c7, x_pre Kk_w hkk hP _⟩ rfl rfl hsz rfl (lv_room hrest) hdg hcs) hS kk
set_option maxHeartbeats 4000000 in
set_option maxRecDepth 100000 in
theorem c_Resolver_memberVerdict {l : Launch} {D : va_G} {cI cL cG cZ : ClassId} {ad : Nat → Nat} {M M' : Mem} {a1 : Int32} {a2 : Int32} {a3 : Int32} {r : Int32} (hD : ∀ M, va_D (c_A ad) (c_ws cI cL cG cZ ad M)) (hf : f_Resolver_memberVerdict M a1 a2 a3 = some (r, M')) : Mi l y_Resolver_memberVerdict (.code y_Resolver_memberVerdict prog_9_method_5_code 7 (some .int) :: ALLW) (rmR 43 1153) (Kk D cI cL cG cZ) D vwC (c_A ad) (c_ws cI cL cG cZ ad) [.ref (ad 7), .int a1, .int a2, .int a3] M M' r := by
  refine Mi_of (by decide) (Nat.le_of_ble_eq_true rfl) ?_
  intro p e s m args below meth c ls Q X hkk hret hP hl
  obtain ⟨hx, hb, hml, hown, hta⟩ := id X
  have hKv := hkk.1
  have hS : va_S (c_A ad) s.heap s.heap [] := va_S.rf
  have hl : lv_has ls 7 [(0, .ref (ad 7)), (1, .int a1), (2, .int a2), (3, .int a3)] := hl
  have b51 : ∀ (M : Mem) (x1 : Int32) (x2 : Int32) (t0 : Int32) (H : Heap) (locs : List Loc) (ls : Array Slot), f_Resolver_memberVerdict_b51 M x1 x2 t0 = some (r, M') → va_P D vwC (c_ws cI cL cG cZ ad M) H → va_S (c_A ad) s.heap H locs → lv_has ls 7 [(0, .ref (ad 7)), (1, .int x1), (2, .int x2)] → W p l e (rmR 43 1153) s m args below meth c H locs 0 0 Q (F0 m 51 ls [.int t0]) := by
    intro M x1 x2 t0 H locs ls hf hP hS hl
    unfold f_Resolver_memberVerdict_b51 at hf
    refine lv_istore (lv' := [(6, .int t0), (0, .ref (ad 7)), (1, .int x1), (2, .int x2)]) hx hb d_Resolver_memberVerdict_51 hl (by decide) rfl (fun ls hl => ?_)
    refine lv_iload hx hb d_Resolver_memberVerdict_53 (lv_at hl 0 rfl) ?_
    refine lv_if_ne (tgt := 61) hx hb d_Resolver_memberVerdict_55 (by decide) (fun c1 => ?_) (fun c1 => ?_)
    · have hf := ifn c1 hf
      refine lv_aload_n hx hb d_Resolver_memberVerdict_61 rfl (lv_at hl 1 rfl) ?_
      refine lv_iload_n hx hb d_Resolver_memberVerdict_62 rfl (lv_at hl 3 rfl) ?_
      refine lv_iload hx hb d_Resolver_memberVerdict_63 (lv_at hl 0 rfl) ?_
      obtain ⟨r10, hc2, hf⟩ := bd1_e hf
      refine xvc_Resolver_104 X hkk hD (Nat.le_of_ble_eq_true rfl) ⟨by dsimp only [rmR]; omega, by dsimp only [rmR]; omega⟩ ⟨Nat.zero_le _, Nat.zero_le _⟩ hc2 hl.1 hP hS d_Resolver_memberVerdict_65 (fun H locs hP hS => ?_)
      refine lv_if_ne (tgt := 74) hx hb d_Resolver_memberVerdict_68 (by decide) (fun c3 => ?_) (fun c3 => ?_)
      · have hf := ifn c3 hf
        refine lv_aload_n hx hb d_Resolver_memberVerdict_74 rfl (lv_at hl 1 rfl) ?_
        refine xg_Resolver_33 hx hb hta hown hKv hP d_Resolver_memberVerdict_75 ?_
        refine lv_iload hx hb d_Resolver_memberVerdict_78 (lv_at hl 0 rfl) ?_
        obtain ⟨r11, hc4, hf⟩ := bd1_e hf
        refine xvc_Resolver_107 X hkk hD (Nat.le_of_ble_eq_true rfl) ⟨by dsimp only [rmR]; omega, by dsimp only [rmR]; omega⟩ ⟨Nat.zero_le _, Nat.zero_le _⟩ hc4 hl.1 hP hS d_Resolver_memberVerdict_80 (fun H locs hP hS => ?_)
        refine lv_aload_n hx hb d_Resolver_memberVerdict_83 rfl (lv_at hl 1 rfl) ?_
        refine xg_Resolver_34 hx hb hta hown hKv hP d_Resolver_memberVerdict_84 ?_
        refine lv_iload_n hx hb d_Resolver_memberVerdict_87 rfl (lv_at hl 2 rfl) ?_
        obtain ⟨r12, hc5, hf⟩ := bd1_e hf
        refine xvc_Resolver_110 X hkk hD (Nat.le_of_ble_eq_true rfl) ⟨by dsimp only [rmR]; omega, by dsimp only [rmR]; omega⟩ ⟨Nat.zero_le _, Nat.zero_le _⟩ hc5 hl.1 hP hS d_Resolver_memberVerdict_88 (fun H locs hP hS => ?_)
        refine lv_icmp_ne (tgt := 99) hx hb d_Resolver_memberVerdict_91 (by decide) (fun c6 => ?_) (fun c6 => ?_)
        · have hf := ifn c6 hf
          refine lv_bipush (v := (-5 : Int32)) hx hb d_Resolver_memberVerdict_99 (by decide) ?_
          exact hret hf hP hS d_Resolver_memberVerdict_101
        · have hf := ifp c6 hf
          refine lv_iload hx hb d_Resolver_memberVerdict_94 (lv_at hl 0 rfl) ?_
          refine lv_goto (tgt := 101) hx hb d_Resolver_memberVerdict_96 (by decide) ?_
          exact hret hf hP hS d_Resolver_memberVerdict_101
      · have hf := ifp c3 hf
        refine lv_bipush (v := (-6 : Int32)) hx hb d_Resolver_memberVerdict_71 (by decide) ?_
        exact hret hf hP hS d_Resolver_memberVerdict_73
    · have hf := ifp c1 hf
      refine lv_bipush (v := (-7 : Int32)) hx hb d_Resolver_memberVerdict_58 (by decide) ?_
      exact hret hf hP hS d_Resolver_memberVerdict_60
  unfold f_Resolver_memberVerdict at hf
  refine lv_aload_n hx hb d_Resolver_memberVerdict_0 rfl (lv_at hl 0 rfl) ?_
  refine xg_Resolver_33 hx hb hta hown hKv hP d_Resolver_memberVerdict_1 ?_
  refine lv_aload_n hx hb d_Resolver_memberVerdict_4 rfl (lv_at hl 0 rfl) ?_
  refine xg_Resolver_34 hx hb hta hown hKv hP d_Resolver_memberVerdict_5 ?_
  refine xg_Resolver_85 hx hb hta hown hKv hP d_Resolver_memberVerdict_8 ?_
  refine lv_iload_n hx hb d_Resolver_memberVerdict_11 rfl (lv_at hl 1 rfl) ?_
  obtain ⟨g7, hf⟩ := gd_ok hf
  refine x_ild hx hb hKv hP c_c36 g7 d_Resolver_memberVerdict_12 ?_
  obtain ⟨r13, hc8, hf⟩ := bd1_e hf
  refine xvc_Resolver_88 X hkk hD (Nat.le_of_ble_eq_true rfl) ⟨by dsimp only [rmR]; omega, by dsimp only [rmR]; omega⟩ ⟨Nat.zero_le _, Nat.zero_le _⟩ hc8 hl.1 hP hS d_Resolver_memberVerdict_13 (fun H locs hP hS => ?_)
  refine lv_lstore (lv' := [(4, .long r13), (0, .ref (ad 7)), (1, .int a1), (2, .int a2), (3, .int a3)]) hx hb d_Resolver_memberVerdict_16 hl (by decide) rfl (fun ls hl => ?_)
  refine lv_aload_n hx hb d_Resolver_memberVerdict_18 rfl (lv_at hl 1 rfl) ?_
  refine lv_iconst (v := (0 : Int32)) hx hb d_Resolver_memberVerdict_19 (by decide) ?_
  obtain ⟨M14, eM14, hf⟩ := sm_e hf
  refine xp_Resolver_9 hx hb hta hown hKv hP (hD _) hS eM14 d_Resolver_memberVerdict_20 (fun H locs hP hS => ?_)
  refine lv_aload_n hx hb d_Resolver_memberVerdict_23 rfl (lv_at hl 1 rfl) ?_
  refine xg_Resolver_34 hx hb hta hown hKv hP d_Resolver_memberVerdict_24 ?_
  refine lv_iload_n hx hb d_Resolver_memberVerdict_27 rfl (lv_at hl 2 rfl) ?_
  obtain ⟨r15, hc9, hf⟩ := bd1_e hf
  refine xvc_Resolver_94 X hkk hD (Nat.le_of_ble_eq_true rfl) ⟨by dsimp only [rmR]; omega, by dsimp only [rmR]; omega⟩ ⟨Nat.zero_le _, Nat.zero_le _⟩ hc9 hl.1 hP hS d_Resolver_memberVerdict_28 (fun H locs hP hS => ?_)
  refine lv_if_eq (tgt := 44) hx hb d_Resolver_memberVerdict_31 (by decide) (fun c10 => ?_) (fun c10 => ?_)
  · have hf := ifp c10 hf
    refine lv_aload_n hx hb d_Resolver_memberVerdict_44 rfl (lv_at hl 1 rfl) ?_
    refine lv_iload_n hx hb d_Resolver_memberVerdict_45 rfl (lv_at hl 4 rfl) ?_
    refine lv_lload hx hb d_Resolver_memberVerdict_46 (lv_at hl 0 rfl) ?_
    obtain ⟨r16, hc11, hf⟩ := bd1_e hf
    refine xvc_Resolver_101 X hkk hD (Nat.le_of_ble_eq_true rfl) ⟨by dsimp only [rmR]; omega, by dsimp only [rmR]; omega⟩ ⟨Nat.zero_le _, Nat.zero_le _⟩ hc11 hl.1 hP hS d_Resolver_memberVerdict_48 (fun H locs hP hS => ?_)
    exact b51 M14 a1 a2 r16 _ _ _ hf hP hS (lv_sub hl [1, 2, 3] rfl)
  · have hf := ifn c10 hf
    refine lv_aload_n hx hb d_Resolver_memberVerdict_34 rfl (lv_at hl 1 rfl) ?_
    refine lv_iload_n hx hb d_Resolver_memberVerdict_35 rfl (lv_at hl 4 rfl) ?_
    refine lv_lload hx hb d_Resolver_memberVerdict_36 (lv_at hl 0 rfl) ?_
    obtain ⟨r18, M17, hc12, hf⟩ := bd2_e hf
    refine xvc_Resolver_97 X hkk hD (Nat.le_of_ble_eq_true rfl) ⟨by dsimp only [rmR]; omega, by dsimp only [rmR]; omega⟩ ⟨Nat.zero_le _, Nat.zero_le _⟩ hc12 hl.1 hP hS d_Resolver_memberVerdict_38 (fun H locs hP hS => ?_)
    refine lv_goto (tgt := 51) hx hb d_Resolver_memberVerdict_41 (by decide) ?_
    exact b51 M17 a1 a2 r18 _ _ _ hf hP hS (lv_sub hl [1, 2, 3] rfl)

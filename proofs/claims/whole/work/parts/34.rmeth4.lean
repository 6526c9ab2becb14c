-- LinkAuditModel.joinWay
theorem xg_LinkAuditModel_86 {p : Program} {l : Launch} {e : Env} {R : Room} {s : State} {m : MethodId} {args : Array Value} {below : List Frame} {meth : Method} {c : Code} {H : Heap} {locs : List Loc} {cells slots : Nat} {Q : State → Prop} {cc : ByteArray} {pc : Nat} {ls : Array Slot} {rest : List Value} {D : va_G} {cI cL cG cZ : ClassId} {ad : Nat → Nat} {M : Mem} (hx : p.tables.exec = Jvm.exec) (hb : c.code = cc) (hta : ∀ w ∈ ALLW, w.before args s = true) (hown : s.vm.findClass "LinkAuditModel" = some m.cls) (hK : va_K D vwC [(cI, .int), (cL, .long), (cG, .array .int), (cZ, .boolean)] s) (hP : va_P D vwC (r_ws cI cL cG cZ ad M) H) (hdg : decode cc pc = .ok (.getfield 86, 3))
    (kk : W p l e R s m args below meth c H locs cells slots Q (F0 m (pc + 3) ls (.ref (ad 26) :: rest))) : W p l e R s m args below meth c H locs cells slots Q (F0 m pc ls (.ref (ad 0) :: rest)) :=
  va_get (D := D) (ci := 10) (v := .ref (ad 26)) (C := "LinkAuditModel") (T := T_LinkAuditModel) (N := 31) hx hb hta i_LinkAuditModel hown hK hP 0 r_c0 rfl 29 (by decide) (hta _ wm_730) (fun _ h9 => h9) rfl hdg kk
theorem xg_LinkAuditModel_89 {p : Program} {l : Launch} {e : Env} {R : Room} {s : State} {m : MethodId} {args : Array Value} {below : List Frame} {meth : Method} {c : Code} {H : Heap} {locs : List Loc} {cells slots : Nat} {Q : State → Prop} {cc : ByteArray} {pc : Nat} {ls : Array Slot} {rest : List Value} {D : va_G} {cI cL cG cZ : ClassId} {ad : Nat → Nat} {M : Mem} (hx : p.tables.exec = Jvm.exec) (hb : c.code = cc) (hta : ∀ w ∈ ALLW, w.before args s = true) (hown : s.vm.findClass "LinkAuditModel" = some m.cls) (hK : va_K D vwC [(cI, .int), (cL, .long), (cG, .array .int), (cZ, .boolean)] s) (hP : va_P D vwC (r_ws cI cL cG cZ ad M) H) (hdg : decode cc pc = .ok (.getfield 89, 3))
    (kk : W p l e R s m args below meth c H locs cells slots Q (F0 m (pc + 3) ls (.ref (ad 27) :: rest))) : W p l e R s m args below meth c H locs cells slots Q (F0 m pc ls (.ref (ad 0) :: rest)) :=
  va_get (D := D) (ci := 10) (v := .ref (ad 27)) (C := "LinkAuditModel") (T := T_LinkAuditModel) (N := 31) hx hb hta i_LinkAuditModel hown hK hP 0 r_c0 rfl 30 (by decide) (hta _ wm_731) (fun _ h9 => h9) rfl hdg kk
theorem xvr_LinkAuditModel_175 {p : Program} {l : Launch} {e : Env} {R : Room} {s : State} {m : MethodId} {args : Array Value} {below : List Frame} {meth : Method} {c : Code} {H : Heap} {locs : List Loc} {cells slots : Nat} {Q : State → Prop} {cc : ByteArray} {pc : Nat} {ls : Array Slot} {rest : List Value} {D : va_G} {cI cL cG cZ : ClassId} {ad : Nat → Nat} {M : Mem} {H0 : Heap} {nL : Nat} {a0 : Int32} {a1 : Int32} {r : Int32} (X : CallFix p m c cc nL s args ALLW "LinkAuditModel") (hkk : Kk D cI cL cG cZ s) (hD : ∀ M, va_D (r_A ad) (r_ws cI cL cG cZ ad M)) (hrest : (rest.map fun v => v.category).sum ≤ 8) (hR : 1 + 1 ≤ R.frames ∧ 8 + (3 + 11) + 22 ≤ R.locals) (hcs : cells + 0 ≤ R.cells ∧ slots + 0 ≤ R.slots) (hc : f_LinkAuditModel_coversAtOnce M a0 a1 = some r) (hsz : ls.size = nL) (hP : va_P D vwC (r_ws cI cL cG cZ ad M) H) (hS : va_S (r_A ad) H0 H locs) (hdg : decode cc pc = .ok (.invokevirtual 175, 3))
    (kk : ∀ (H1 : Heap) (locs1 : List Loc), va_P D vwC (r_ws cI cL cG cZ ad M) H1 → va_S (r_A ad) H0 H1 locs1 → W p l e R s m args below meth c H1 locs1 cells slots Q (F0 m (pc + 3) ls (.int r :: rest))) : W p l e R s m args below meth c H locs cells slots Q (F0 m pc ls (.int a1 :: .int a0 :: .ref (ad 0) :: rest)) := by
  have hta := X.2.2.2.2
  exact x_afterI (va_runV (As := [.int a0, .int a1]) (rest := rest) X (c_LinkAuditModel_coversAtOnce hD hc) ⟨callB_of 2 hta (good_all (L := .code y_LinkAuditModel_coversAtOnce prog_12_method_31_code 3 (some .boolean) :: ALLW) (List.forall_mem_cons.mpr ⟨wm_934, fun _ h => h⟩)) rfl rfl rfl (hta _ wm_11) (hta _ wm_931) (by decide +kernel) hR, hta _ wm_933, hta _ wp_46⟩ ⟨x_blind Kk_w _, va_recv hkk.1 hP (ci := 10) (q0 := 0) rfl r_c0, x_pre Kk_w hkk hP _⟩ rfl rfl hsz rfl (lv_room hrest) hdg hcs) hS kk
set_option maxHeartbeats 4000000 in
set_option maxRecDepth 100000 in
theorem c_LinkAuditModel_joinWay {l : Launch} {D : va_G} {cI cL cG cZ : ClassId} {ad : Nat → Nat} {M M' : Mem} {a1 : Int32} {a2 : Int32} (hD : ∀ M, va_D (r_A ad) (r_ws cI cL cG cZ ad M)) (hf : f_LinkAuditModel_joinWay M a1 a2 = some M') : Mv l y_LinkAuditModel_joinWay (.code y_LinkAuditModel_joinWay prog_12_method_33_code 5 none :: ALLW) (rmR 2 44) (Kk D cI cL cG cZ) D vwC (r_A ad) (r_ws cI cL cG cZ ad) [.ref (ad 0), .int a1, .int a2] M M' := by
  refine Mv_of (by decide) (Nat.le_of_ble_eq_true rfl) ?_
  intro p e s m args below meth c ls Q X hkk hret hP hl
  obtain ⟨hx, hb, hml, hown, hta⟩ := id X
  have hKv := hkk.1
  have hS : va_S (r_A ad) s.heap s.heap [] := va_S.rf
  have hl : lv_has ls 5 [(0, .ref (ad 0)), (1, .int a1), (2, .int a2)] := hl
  have L22 : ∀ (M : Mem) (x1 : Int32) (x2 : Int32), ∀ (ke66 : Int32 → Option Mem), ke66 = (fun y3 => gd (ok (((20 : Int32) * x1) + x2) 400) (gd (decide (y3 = 0 ∨ y3 = 1)) (sm (u1 M 26 (((((20 : Int32) * x1) + x2)).toNatClampNeg) y3) (fun M3 => some M3)))) → ∀ (n22 : Nat) (x3 : Int32) (x4 : Int32) (H : Heap) (locs : List Loc) (ls : Array Slot), f_LinkAuditModel_joinWay_L22 M x1 x2 ke66 n22 x3 x4 = some M' → va_P D vwC (r_ws cI cL cG cZ ad M) H → va_S (r_A ad) s.heap H locs → lv_has ls 5 [(0, .ref (ad 0)), (1, .int x1), (2, .int x2), (3, .int x3), (4, .int x4)] → W p l e (rmR 2 44) s m args below meth c H locs 0 0 Q (F0 m 22 ls []) := by
    intro M x1 x2 ke66 hke66 n22
    induction n22 with
    | zero => intro x3 x4 H locs ls hf; exact absurd (show (none : Option _) = some _ from hf) (fun q => by cases q)
    | succ n22 ih22 =>
      intro x3 x4 H locs ls hf hP hS hl
      rw [f_LinkAuditModel_joinWay_L22] at hf
      refine lv_iload hx hb d_LinkAuditModel_joinWay_22 (lv_at hl 4 rfl) ?_
      refine lv_iload_n hx hb d_LinkAuditModel_joinWay_24 rfl (lv_at hl 2 rfl) ?_
      refine lv_icmp_ge (tgt := 66) hx hb d_LinkAuditModel_joinWay_25 (by decide) (fun c1 => ?_) (fun c1 => ?_)
      · have hf := ifp c1 hf
        rw [hke66] at hf
        refine lv_aload_n hx hb d_LinkAuditModel_joinWay_66 rfl (lv_at hl 0 rfl) ?_
        refine xg_LinkAuditModel_86 hx hb hta hown hKv hP d_LinkAuditModel_joinWay_67 ?_
        refine lv_bipush (v := (20 : Int32)) hx hb d_LinkAuditModel_joinWay_70 (by decide) ?_
        refine lv_iload_n hx hb d_LinkAuditModel_joinWay_72 rfl (lv_at hl 1 rfl) ?_
        refine lv_imul hx hb d_LinkAuditModel_joinWay_73 ?_
        refine lv_iload_n hx hb d_LinkAuditModel_joinWay_74 rfl (lv_at hl 2 rfl) ?_
        refine lv_iadd hx hb d_LinkAuditModel_joinWay_75 ?_
        refine lv_iload_n hx hb d_LinkAuditModel_joinWay_76 rfl (lv_at hl 3 rfl) ?_
        obtain ⟨g2, hf⟩ := gd_ok hf
        obtain ⟨g3, hf⟩ := gd_d hf
        obtain ⟨M4, eM4, hf⟩ := sm_e hf
        refine x_zst hx hb hKv hP (hD _) hS r_c26 r_s26 g2 g3 eM4 d_LinkAuditModel_joinWay_77 (fun H locs hP hS => ?_)
        exact hret hf hP hS d_LinkAuditModel_joinWay_78
      · have hf := ifn c1 hf
        refine lv_aload_n hx hb d_LinkAuditModel_joinWay_28 rfl (lv_at hl 0 rfl) ?_
        refine xg_LinkAuditModel_86 hx hb hta hown hKv hP d_LinkAuditModel_joinWay_29 ?_
        refine lv_bipush (v := (20 : Int32)) hx hb d_LinkAuditModel_joinWay_32 (by decide) ?_
        refine lv_iload_n hx hb d_LinkAuditModel_joinWay_34 rfl (lv_at hl 1 rfl) ?_
        refine lv_imul hx hb d_LinkAuditModel_joinWay_35 ?_
        refine lv_iload hx hb d_LinkAuditModel_joinWay_36 (lv_at hl 4 rfl) ?_
        refine lv_iadd hx hb d_LinkAuditModel_joinWay_38 ?_
        obtain ⟨g4, hf⟩ := gd_ok hf
        refine x_zld hx hb hKv hP r_c26 g4 d_LinkAuditModel_joinWay_39 ?_
        refine lv_if_eq (tgt := 60) hx hb d_LinkAuditModel_joinWay_40 (by decide) (fun c5 => ?_) (fun c5 => ?_)
        · have hf := ifp c5 hf
          refine lv_iinc (v := (x4 + (1 : Int32))) (lv' := [(4, .int (x4 + (1 : Int32))), (0, .ref (ad 0)), (1, .int x1), (2, .int x2), (3, .int x3)]) hx hb d_LinkAuditModel_joinWay_60 hl (k := 4) rfl rfl (by decide) rfl (fun ls hl => ?_)
          refine lv_goto (tgt := 22) hx hb d_LinkAuditModel_joinWay_63 (by decide) ?_
          exact ih22 x3 (x4 + (1 : Int32)) _ _ _ hf hP hS (lv_sub hl [1, 2, 3, 4, 0] rfl)
        · have hf := ifn c5 hf
          refine lv_aload_n hx hb d_LinkAuditModel_joinWay_43 rfl (lv_at hl 0 rfl) ?_
          refine xg_LinkAuditModel_86 hx hb hta hown hKv hP d_LinkAuditModel_joinWay_44 ?_
          refine lv_bipush (v := (20 : Int32)) hx hb d_LinkAuditModel_joinWay_47 (by decide) ?_
          refine lv_iload hx hb d_LinkAuditModel_joinWay_49 (lv_at hl 4 rfl) ?_
          refine lv_imul hx hb d_LinkAuditModel_joinWay_51 ?_
          refine lv_iload_n hx hb d_LinkAuditModel_joinWay_52 rfl (lv_at hl 2 rfl) ?_
          refine lv_iadd hx hb d_LinkAuditModel_joinWay_53 ?_
          obtain ⟨g6, hf⟩ := gd_ok hf
          refine x_zld hx hb hKv hP r_c26 g6 d_LinkAuditModel_joinWay_54 ?_
          refine lv_if_eq (tgt := 60) hx hb d_LinkAuditModel_joinWay_55 (by decide) (fun c7 => ?_) (fun c7 => ?_)
          · have hf := ifp c7 hf
            refine lv_iinc (v := (x4 + (1 : Int32))) (lv' := [(4, .int (x4 + (1 : Int32))), (0, .ref (ad 0)), (1, .int x1), (2, .int x2), (3, .int x3)]) hx hb d_LinkAuditModel_joinWay_60 hl (k := 4) rfl rfl (by decide) rfl (fun ls hl => ?_)
            refine lv_goto (tgt := 22) hx hb d_LinkAuditModel_joinWay_63 (by decide) ?_
            exact ih22 x3 (x4 + (1 : Int32)) _ _ _ hf hP hS (lv_sub hl [1, 2, 3, 4, 0] rfl)
          · have hf := ifn c7 hf
            refine lv_iconst (v := (1 : Int32)) hx hb d_LinkAuditModel_joinWay_58 (by decide) ?_
            refine lv_istore_n (lv' := [(3, .int (1 : Int32)), (0, .ref (ad 0)), (1, .int x1), (2, .int x2), (4, .int x4)]) hx hb d_LinkAuditModel_joinWay_59 rfl hl (by decide) rfl (fun ls hl => ?_)
            refine lv_iinc (v := (x4 + (1 : Int32))) (lv' := [(4, .int (x4 + (1 : Int32))), (3, .int (1 : Int32)), (0, .ref (ad 0)), (1, .int x1), (2, .int x2)]) hx hb d_LinkAuditModel_joinWay_60 hl (k := 4) rfl rfl (by decide) rfl (fun ls hl => ?_)
            refine lv_goto (tgt := 22) hx hb d_LinkAuditModel_joinWay_63 (by decide) ?_
            exact ih22 (1 : Int32) (x4 + (1 : Int32)) _ _ _ hf hP hS (lv_sub hl [2, 3, 4, 1, 0] rfl)
  unfold f_LinkAuditModel_joinWay at hf
  refine lv_aload_n hx hb d_LinkAuditModel_joinWay_0 rfl (lv_at hl 0 rfl) ?_
  refine lv_aload_n hx hb d_LinkAuditModel_joinWay_1 rfl (lv_at hl 0 rfl) ?_
  refine xg_LinkAuditModel_89 hx hb hta hown hKv hP d_LinkAuditModel_joinWay_2 ?_
  refine lv_iload_n hx hb d_LinkAuditModel_joinWay_5 rfl (lv_at hl 1 rfl) ?_
  obtain ⟨g8, hf⟩ := gd_ok hf
  refine x_ild hx hb hKv hP r_c27 g8 d_LinkAuditModel_joinWay_6 ?_
  refine lv_aload_n hx hb d_LinkAuditModel_joinWay_7 rfl (lv_at hl 0 rfl) ?_
  refine xg_LinkAuditModel_89 hx hb hta hown hKv hP d_LinkAuditModel_joinWay_8 ?_
  refine lv_iload_n hx hb d_LinkAuditModel_joinWay_11 rfl (lv_at hl 2 rfl) ?_
  obtain ⟨g9, hf⟩ := gd_ok hf
  refine x_ild hx hb hKv hP r_c27 g9 d_LinkAuditModel_joinWay_12 ?_
  obtain ⟨r5, hc10, hf⟩ := bd1_e hf
  refine xvr_LinkAuditModel_175 X hkk hD (Nat.le_of_ble_eq_true rfl) ⟨by dsimp only [rmR]; omega, by dsimp only [rmR]; omega⟩ ⟨Nat.zero_le _, Nat.zero_le _⟩ hc10 hl.1 hP hS d_LinkAuditModel_joinWay_13 (fun H locs hP hS => ?_)
  refine lv_istore_n (lv' := [(3, .int r5), (0, .ref (ad 0)), (1, .int a1), (2, .int a2)]) hx hb d_LinkAuditModel_joinWay_16 rfl hl (by decide) rfl (fun ls hl => ?_)
  refine lv_iload_n hx hb d_LinkAuditModel_joinWay_17 rfl (lv_at hl 2 rfl) ?_
  refine lv_iconst (v := (1 : Int32)) hx hb d_LinkAuditModel_joinWay_18 (by decide) ?_
  refine lv_iadd hx hb d_LinkAuditModel_joinWay_19 ?_
  refine lv_istore (lv' := [(4, .int (a1 + (1 : Int32))), (3, .int r5), (0, .ref (ad 0)), (1, .int a1), (2, .int a2)]) hx hb d_LinkAuditModel_joinWay_20 hl (by decide) rfl (fun ls hl => ?_)
  exact L22 M a1 a2 _ rfl FU r5 (a1 + (1 : Int32)) _ _ _ hf hP hS (lv_sub hl [2, 3, 4, 1, 0] rfl)
-- LinkAuditModel.covers
theorem xvr_LinkAuditModel_178 {p : Program} {l : Launch} {e : Env} {R : Room} {s : State} {m : MethodId} {args : Array Value} {below : List Frame} {meth : Method} {c : Code} {H : Heap} {locs : List Loc} {cells slots : Nat} {Q : State → Prop} {cc : ByteArray} {pc : Nat} {ls : Array Slot} {rest : List Value} {D : va_G} {cI cL cG cZ : ClassId} {ad : Nat → Nat} {M : Mem} {H0 : Heap} {M1 : Mem} {nL : Nat} {a0 : Int32} {a1 : Int32} (X : CallFix p m c cc nL s args ALLW "LinkAuditModel") (hkk : Kk D cI cL cG cZ s) (hD : ∀ M, va_D (r_A ad) (r_ws cI cL cG cZ ad M)) (hrest : (rest.map fun v => v.category).sum ≤ 8) (hR : 2 + 1 ≤ R.frames ∧ 8 + (5 + 11) + 44 ≤ R.locals) (hcs : cells + 0 ≤ R.cells ∧ slots + 0 ≤ R.slots) (hc : f_LinkAuditModel_joinWay M a0 a1 = some M1) (hsz : ls.size = nL) (hP : va_P D vwC (r_ws cI cL cG cZ ad M) H) (hS : va_S (r_A ad) H0 H locs) (hdg : decode cc pc = .ok (.invokevirtual 178, 3))
    (kk : ∀ (H1 : Heap) (locs1 : List Loc), va_P D vwC (r_ws cI cL cG cZ ad M1) H1 → va_S (r_A ad) H0 H1 locs1 → W p l e R s m args below meth c H1 locs1 cells slots Q (F0 m (pc + 3) ls (rest))) : W p l e R s m args below meth c H locs cells slots Q (F0 m pc ls (.int a1 :: .int a0 :: .ref (ad 0) :: rest)) := by
  have hta := X.2.2.2.2
  exact x_afterV (va_runV (As := [.int a0, .int a1]) (rest := rest) X (c_LinkAuditModel_joinWay hD hc) ⟨callB_of 2 hta (good_all (L := .code y_LinkAuditModel_joinWay prog_12_method_33_code 5 none :: ALLW) (List.forall_mem_cons.mpr ⟨wm_946, fun _ h => h⟩)) rfl rfl rfl (hta _ wm_11) (hta _ wm_943) (by decide +kernel) hR, hta _ wm_945, hta _ wp_49⟩ ⟨x_blind Kk_w _, va_recv hkk.1 hP (ci := 10) (q0 := 0) rfl r_c0, x_pre Kk_w hkk hP _⟩ rfl rfl hsz rfl (lv_room hrest) hdg hcs) hS kk
set_option maxHeartbeats 4000000 in
set_option maxRecDepth 100000 in
theorem c_LinkAuditModel_covers {l : Launch} {D : va_G} {cI cL cG cZ : ClassId} {ad : Nat → Nat} {M M' : Mem} {a1 : Int32} {a2 : Int32} {r : Int32} (hD : ∀ M, va_D (r_A ad) (r_ws cI cL cG cZ ad M)) (hf : f_LinkAuditModel_covers M a1 a2 = some (r, M')) : Mi l y_LinkAuditModel_covers (.code y_LinkAuditModel_covers prog_12_method_32_code 6 (some .boolean) :: ALLW) (rmR 3 68) (Kk D cI cL cG cZ) D vwC (r_A ad) (r_ws cI cL cG cZ ad) [.ref (ad 0), .int a1, .int a2] M M' r := by
  refine Mz_of (by decide) (Nat.le_of_ble_eq_true rfl) ?_
  intro p e s m args below meth c ls Q X hkk hret hP hl
  obtain ⟨hx, hb, hml, hown, hta⟩ := id X
  have hKv := hkk.1
  have hS : va_S (r_A ad) s.heap s.heap [] := va_S.rf
  have hl : lv_has ls 6 [(0, .ref (ad 0)), (1, .int a1), (2, .int a2)] := hl
  have L168 : ∀ (x3 : Int32), ∀ (ke209 : Mem → Option (Int32 × Mem)), ke209 = (fun M14 => gd (ok (x3 - (1 : Int32)) 400) (gd (decide ((M14.1 26 ((x3 - (1 : Int32))).toNatClampNeg) = 0 ∨ (M14.1 26 ((x3 - (1 : Int32))).toNatClampNeg) = 1)) (some ((M14.1 26 ((x3 - (1 : Int32))).toNatClampNeg), M14)))) → ∀ (n168 : Nat) (x4 : Int32) (M : Mem) (H : Heap) (locs : List Loc) (ls : Array Slot), f_LinkAuditModel_covers_L168 x3 ke209 n168 x4 M = some (r, M') → va_P D vwC (r_ws cI cL cG cZ ad M) H → va_S (r_A ad) s.heap H locs → lv_has ls 6 [(0, .ref (ad 0)), (3, .int x3), (4, .int x4)] → W p l e (rmR 3 68) s m args below meth c H locs 0 0 Q (F0 m 168 ls []) := by
    intro x3 ke209 hke209 n168
    induction n168 with
    | zero => intro x4 M H locs ls hf; exact absurd (show (none : Option _) = some _ from hf) (fun q => by cases q)
    | succ n168 ih168 =>
      intro x4 M H locs ls hf hP hS hl
      rw [f_LinkAuditModel_covers_L168] at hf
      have L177 : ∀ (x4 : Int32), ∀ (ke203 : Mem → Option (Int32 × Mem)), ke203 = (fun M15 => f_LinkAuditModel_covers_L168 x3 ke209 n168 (x4 + (1 : Int32)) M15) → ∀ (n177 : Nat) (x5 : Int32) (M : Mem) (H : Heap) (locs : List Loc) (ls : Array Slot), f_LinkAuditModel_covers_L177 x3 x4 ke203 n177 x5 M = some (r, M') → va_P D vwC (r_ws cI cL cG cZ ad M) H → va_S (r_A ad) s.heap H locs → lv_has ls 6 [(0, .ref (ad 0)), (3, .int x3), (4, .int x4), (5, .int x5)] → W p l e (rmR 3 68) s m args below meth c H locs 0 0 Q (F0 m 177 ls []) := by
        intro x4 ke203 hke203 n177
        induction n177 with
        | zero => intro x5 M H locs ls hf; exact absurd (show (none : Option _) = some _ from hf) (fun q => by cases q)
        | succ n177 ih177 =>
          intro x5 M H locs ls hf hP hS hl
          rw [f_LinkAuditModel_covers_L177] at hf
          refine lv_iload hx hb d_LinkAuditModel_covers_177 (lv_at hl 3 rfl) ?_
          refine lv_iload hx hb d_LinkAuditModel_covers_179 (lv_at hl 2 rfl) ?_
          refine lv_iadd hx hb d_LinkAuditModel_covers_181 ?_
          refine lv_iload_n hx hb d_LinkAuditModel_covers_182 rfl (lv_at hl 1 rfl) ?_
          refine lv_icmp_ge (tgt := 203) hx hb d_LinkAuditModel_covers_183 (by decide) (fun c1 => ?_) (fun c1 => ?_)
          · have hf := ifp c1 hf
            rw [hke203] at hf
            refine lv_iinc (v := (x4 + (1 : Int32))) (lv' := [(4, .int (x4 + (1 : Int32))), (0, .ref (ad 0)), (3, .int x3), (5, .int x5)]) hx hb d_LinkAuditModel_covers_203 hl (k := 2) rfl rfl (by decide) rfl (fun ls hl => ?_)
            refine lv_goto (tgt := 168) hx hb d_LinkAuditModel_covers_206 (by decide) ?_
            exact ih168 (x4 + (1 : Int32)) M _ _ _ hf hP hS (lv_sub hl [1, 2, 0] rfl)
          · have hf := ifn c1 hf
            refine lv_aload_n hx hb d_LinkAuditModel_covers_186 rfl (lv_at hl 0 rfl) ?_
            refine lv_iload hx hb d_LinkAuditModel_covers_187 (lv_at hl 3 rfl) ?_
            refine lv_iload hx hb d_LinkAuditModel_covers_189 (lv_at hl 3 rfl) ?_
            refine lv_iload hx hb d_LinkAuditModel_covers_191 (lv_at hl 2 rfl) ?_
            refine lv_iadd hx hb d_LinkAuditModel_covers_193 ?_
            obtain ⟨M16, hc2, hf⟩ := bd1_e hf
            refine xvr_LinkAuditModel_178 X hkk hD (Nat.le_of_ble_eq_true rfl) ⟨by dsimp only [rmR]; omega, by dsimp only [rmR]; omega⟩ ⟨Nat.zero_le _, Nat.zero_le _⟩ hc2 hl.1 hP hS d_LinkAuditModel_covers_194 (fun H locs hP hS => ?_)
            refine lv_iinc (v := (x5 + (1 : Int32))) (lv' := [(5, .int (x5 + (1 : Int32))), (0, .ref (ad 0)), (3, .int x3), (4, .int x4)]) hx hb d_LinkAuditModel_covers_197 hl (k := 3) rfl rfl (by decide) rfl (fun ls hl => ?_)
            refine lv_goto (tgt := 177) hx hb d_LinkAuditModel_covers_200 (by decide) ?_
            exact ih177 (x5 + (1 : Int32)) M16 _ _ _ hf hP hS (lv_sub hl [1, 2, 3, 0] rfl)
      refine lv_iload hx hb d_LinkAuditModel_covers_168 (lv_at hl 2 rfl) ?_
      refine lv_iload_n hx hb d_LinkAuditModel_covers_170 rfl (lv_at hl 1 rfl) ?_
      refine lv_icmp_ge (tgt := 209) hx hb d_LinkAuditModel_covers_171 (by decide) (fun c3 => ?_) (fun c3 => ?_)
      · have hf := ifp c3 hf
        rw [hke209] at hf
        refine lv_aload_n hx hb d_LinkAuditModel_covers_209 rfl (lv_at hl 0 rfl) ?_
        refine xg_LinkAuditModel_86 hx hb hta hown hKv hP d_LinkAuditModel_covers_210 ?_
        refine lv_iload_n hx hb d_LinkAuditModel_covers_213 rfl (lv_at hl 1 rfl) ?_
        refine lv_iconst (v := (1 : Int32)) hx hb d_LinkAuditModel_covers_214 (by decide) ?_
        refine lv_isub hx hb d_LinkAuditModel_covers_215 ?_
        obtain ⟨g4, hf⟩ := gd_ok hf
        refine x_zld hx hb hKv hP r_c26 g4 d_LinkAuditModel_covers_216 ?_
        obtain ⟨g5, hf⟩ := gd_d hf
        exact hret g5 hf hP hS d_LinkAuditModel_covers_217
      · have hf := ifn c3 hf
        refine lv_iconst (v := (0 : Int32)) hx hb d_LinkAuditModel_covers_174 (by decide) ?_
        refine lv_istore (lv' := [(5, .int (0 : Int32)), (0, .ref (ad 0)), (3, .int x3), (4, .int x4)]) hx hb d_LinkAuditModel_covers_175 hl (by decide) rfl (fun ls hl => ?_)
        exact L177 x4 _ rfl FU (0 : Int32) M _ _ _ hf hP hS (lv_sub hl [1, 2, 3, 0] rfl)
  have b165 : ∀ (M : Mem) (x3 : Int32) (H : Heap) (locs : List Loc) (ls : Array Slot), f_LinkAuditModel_covers_b165 M x3 = some (r, M') → va_P D vwC (r_ws cI cL cG cZ ad M) H → va_S (r_A ad) s.heap H locs → lv_has ls 6 [(0, .ref (ad 0)), (3, .int x3)] → W p l e (rmR 3 68) s m args below meth c H locs 0 0 Q (F0 m 165 ls []) := by
    intro M x3 H locs ls hf hP hS hl
    unfold f_LinkAuditModel_covers_b165 at hf
    refine lv_iconst (v := (1 : Int32)) hx hb d_LinkAuditModel_covers_165 (by decide) ?_
    refine lv_istore (lv' := [(4, .int (1 : Int32)), (0, .ref (ad 0)), (3, .int x3)]) hx hb d_LinkAuditModel_covers_166 hl (by decide) rfl (fun ls hl => ?_)
    exact L168 x3 _ rfl FU (1 : Int32) M _ _ _ hf hP hS (lv_sub hl [1, 2, 0] rfl)
  have L82 : ∀ (x1 : Int32) (x2 : Int32), ∀ (ke150 : Int32 → Mem → Option (Int32 × Mem)), ke150 = (fun y3 M17 => f_LinkAuditModel_covers_b165 M17 y3) → ∀ (ke165 : Int32 → Mem → Option (Int32 × Mem)), ke165 = (fun y3 M18 => f_LinkAuditModel_covers_b165 M18 y3) → ∀ (n82 : Nat) (x3 : Int32) (x4 : Int32) (M : Mem) (H : Heap) (locs : List Loc) (ls : Array Slot), f_LinkAuditModel_covers_L82 x1 x2 ke150 ke165 n82 x3 x4 M = some (r, M') → va_P D vwC (r_ws cI cL cG cZ ad M) H → va_S (r_A ad) s.heap H locs → lv_has ls 6 [(0, .ref (ad 0)), (1, .int x1), (2, .int x2), (3, .int x3), (4, .int x4)] → W p l e (rmR 3 68) s m args below meth c H locs 0 0 Q (F0 m 82 ls []) := by
    intro x1 x2 ke150 hke150 ke165 hke165 n82
    induction n82 with
    | zero => intro x3 x4 M H locs ls hf; exact absurd (show (none : Option _) = some _ from hf) (fun q => by cases q)
    | succ n82 ih82 =>
      intro x3 x4 M H locs ls hf hP hS hl
      rw [f_LinkAuditModel_covers_L82] at hf
      have b139 : ∀ (M : Mem) (x3 : Int32) (x4 : Int32) (H : Heap) (locs : List Loc) (ls : Array Slot), f_LinkAuditModel_covers_b139 M x1 x2 x3 x4 (f_LinkAuditModel_covers_L82 x1 x2 ke150 ke165 n82) ke150 ke165 = some (r, M') → va_P D vwC (r_ws cI cL cG cZ ad M) H → va_S (r_A ad) s.heap H locs → lv_has ls 6 [(0, .ref (ad 0)), (1, .int x1), (2, .int x2), (3, .int x3), (4, .int x4)] → W p l e (rmR 3 68) s m args below meth c H locs 0 0 Q (F0 m 139 ls []) := by
        intro M x3 x4 H locs ls hf hP hS hl
        unfold f_LinkAuditModel_covers_b139 at hf
        refine lv_iload hx hb d_LinkAuditModel_covers_139 (lv_at hl 4 rfl) ?_
        refine lv_aload_n hx hb d_LinkAuditModel_covers_141 rfl (lv_at hl 0 rfl) ?_
        refine xg_LinkAuditModel_34 hx hb hta hown hKv hP d_LinkAuditModel_covers_142 ?_
        refine lv_iload_n hx hb d_LinkAuditModel_covers_145 rfl (lv_at hl 2 rfl) ?_
        obtain ⟨g6, hf⟩ := gd_ok hf
        refine x_ild hx hb hKv hP r_c9 g6 d_LinkAuditModel_covers_146 ?_
        refine lv_icmp_ne (tgt := 153) hx hb d_LinkAuditModel_covers_147 (by decide) (fun c7 => ?_) (fun c7 => ?_)
        · have hf := ifn c7 hf
          refine lv_aload_n hx hb d_LinkAuditModel_covers_153 rfl (lv_at hl 0 rfl) ?_
          refine xg_LinkAuditModel_59 hx hb hta hown hKv hP d_LinkAuditModel_covers_154 ?_
          refine lv_iload hx hb d_LinkAuditModel_covers_157 (lv_at hl 4 rfl) ?_
          obtain ⟨g8, hf⟩ := gd_ok hf
          refine x_ild hx hb hKv hP r_c17 g8 d_LinkAuditModel_covers_159 ?_
          refine lv_istore (lv' := [(4, .int (M.1 17 x4.toNatClampNeg)), (0, .ref (ad 0)), (1, .int x1), (2, .int x2), (3, .int x3)]) hx hb d_LinkAuditModel_covers_160 hl (by decide) rfl (fun ls hl => ?_)
          refine lv_goto (tgt := 82) hx hb d_LinkAuditModel_covers_162 (by decide) ?_
          exact ih82 x3 (M.1 17 x4.toNatClampNeg) M _ _ _ hf hP hS (lv_sub hl [1, 2, 3, 4, 0] rfl)
        · have hf := ifp c7 hf
          rw [hke150] at hf
          refine lv_goto (tgt := 165) hx hb d_LinkAuditModel_covers_150 (by decide) ?_
          exact b165 M x3 _ _ _ hf hP hS (lv_sub hl [0, 3] rfl)
      refine lv_iload hx hb d_LinkAuditModel_covers_82 (lv_at hl 4 rfl) ?_
      refine lv_if_le (tgt := 165) hx hb d_LinkAuditModel_covers_84 (by decide) (fun c9 => ?_) (fun c9 => ?_)
      · have hf := ifp c9 hf
        rw [hke165] at hf
        exact b165 M x3 _ _ _ hf hP hS (lv_sub hl [0, 3] rfl)
      · have hf := ifn c9 hf
        refine lv_aload_n hx hb d_LinkAuditModel_covers_87 rfl (lv_at hl 0 rfl) ?_
        refine lv_iload hx hb d_LinkAuditModel_covers_88 (lv_at hl 4 rfl) ?_
        refine lv_iconst (v := (1 : Int32)) hx hb d_LinkAuditModel_covers_90 (by decide) ?_
        refine lv_aload_n hx hb d_LinkAuditModel_covers_91 rfl (lv_at hl 0 rfl) ?_
        refine xg_LinkAuditModel_41 hx hb hta hown hKv hP d_LinkAuditModel_covers_92 ?_
        refine lv_iload_n hx hb d_LinkAuditModel_covers_95 rfl (lv_at hl 1 rfl) ?_
        obtain ⟨g10, hf⟩ := gd_ok hf
        refine x_ild hx hb hKv hP r_c11 g10 d_LinkAuditModel_covers_96 ?_
        refine lv_aload_n hx hb d_LinkAuditModel_covers_97 rfl (lv_at hl 0 rfl) ?_
        refine xg_LinkAuditModel_44 hx hb hta hown hKv hP d_LinkAuditModel_covers_98 ?_
        refine lv_iload_n hx hb d_LinkAuditModel_covers_101 rfl (lv_at hl 1 rfl) ?_
        obtain ⟨g11, hf⟩ := gd_ok hf
        refine x_ild hx hb hKv hP r_c12 g11 d_LinkAuditModel_covers_102 ?_
        refine lv_aload_n hx hb d_LinkAuditModel_covers_103 rfl (lv_at hl 0 rfl) ?_
        refine xg_LinkAuditModel_47 hx hb hta hown hKv hP d_LinkAuditModel_covers_104 ?_
        refine lv_iload_n hx hb d_LinkAuditModel_covers_107 rfl (lv_at hl 1 rfl) ?_
        obtain ⟨g12, hf⟩ := gd_ok hf
        refine x_ild hx hb hKv hP r_c13 g12 d_LinkAuditModel_covers_108 ?_
        obtain ⟨r19, hc13, hf⟩ := bd1_e hf
        refine xvr_LinkAuditModel_142 X hkk hD (Nat.le_of_ble_eq_true rfl) ⟨by dsimp only [rmR]; omega, by dsimp only [rmR]; omega⟩ ⟨Nat.zero_le _, Nat.zero_le _⟩ hc13 hl.1 hP hS d_LinkAuditModel_covers_109 (fun H locs hP hS => ?_)
        refine lv_istore (lv' := [(5, .int r19), (0, .ref (ad 0)), (1, .int x1), (2, .int x2), (3, .int x3), (4, .int x4)]) hx hb d_LinkAuditModel_covers_112 hl (by decide) rfl (fun ls hl => ?_)
        refine lv_iload hx hb d_LinkAuditModel_covers_114 (lv_at hl 0 rfl) ?_
        refine lv_if_le (tgt := 139) hx hb d_LinkAuditModel_covers_116 (by decide) (fun c14 => ?_) (fun c14 => ?_)
        · have hf := ifp c14 hf
          exact b139 M x3 x4 _ _ _ hf hP hS (lv_sub hl [1, 2, 3, 4, 5] rfl)
        · have hf := ifn c14 hf
          refine lv_aload_n hx hb d_LinkAuditModel_covers_119 rfl (lv_at hl 1 rfl) ?_
          refine lv_iload hx hb d_LinkAuditModel_covers_120 (lv_at hl 0 rfl) ?_
          obtain ⟨r20, hc15, hf⟩ := bd1_e hf
          refine xvr_LinkAuditModel_172 X hkk hD (Nat.le_of_ble_eq_true rfl) ⟨by dsimp only [rmR]; omega, by dsimp only [rmR]; omega⟩ ⟨Nat.zero_le _, Nat.zero_le _⟩ hc15 hl.1 hP hS d_LinkAuditModel_covers_122 (fun H locs hP hS => ?_)
          refine lv_if_ne (tgt := 139) hx hb d_LinkAuditModel_covers_125 (by decide) (fun c16 => ?_) (fun c16 => ?_)
          · have hf := ifn c16 hf
            exact b139 M x3 x4 _ _ _ hf hP hS (lv_sub hl [1, 2, 3, 4, 5] rfl)
          · have hf := ifp c16 hf
            refine lv_aload_n hx hb d_LinkAuditModel_covers_128 rfl (lv_at hl 1 rfl) ?_
            refine xg_LinkAuditModel_89 hx hb hta hown hKv hP d_LinkAuditModel_covers_129 ?_
            refine lv_iload_n hx hb d_LinkAuditModel_covers_132 rfl (lv_at hl 4 rfl) ?_
            refine lv_iload hx hb d_LinkAuditModel_covers_133 (lv_at hl 0 rfl) ?_
            obtain ⟨g17, hf⟩ := gd_ok hf
            obtain ⟨M21, eM21, hf⟩ := sm_e hf
            refine x_ist hx hb hKv hP (hD _) hS r_c27 r_s27 g17 eM21 d_LinkAuditModel_covers_135 (fun H locs hP hS => ?_)
            refine lv_iinc (v := (x3 + (1 : Int32))) (lv' := [(3, .int (x3 + (1 : Int32))), (5, .int r19), (0, .ref (ad 0)), (1, .int x1), (2, .int x2), (4, .int x4)]) hx hb d_LinkAuditModel_covers_136 hl (k := 4) rfl rfl (by decide) rfl (fun ls hl => ?_)
            exact b139 M21 (x3 + (1 : Int32)) x4 _ _ _ hf hP hS (lv_sub hl [2, 3, 4, 0, 5] rfl)
  unfold f_LinkAuditModel_covers at hf
  refine lv_aload_n hx hb d_LinkAuditModel_covers_0 rfl (lv_at hl 0 rfl) ?_
  refine lv_iload_n hx hb d_LinkAuditModel_covers_1 rfl (lv_at hl 1 rfl) ?_
  refine lv_iload_n hx hb d_LinkAuditModel_covers_2 rfl (lv_at hl 2 rfl) ?_
  obtain ⟨r22, hc18, hf⟩ := bd1_e hf
  refine xvr_LinkAuditModel_175 X hkk hD (Nat.le_of_ble_eq_true rfl) ⟨by dsimp only [rmR]; omega, by dsimp only [rmR]; omega⟩ ⟨Nat.zero_le _, Nat.zero_le _⟩ hc18 hl.1 hP hS d_LinkAuditModel_covers_3 (fun H locs hP hS => ?_)
  refine lv_if_eq (tgt := 11) hx hb d_LinkAuditModel_covers_6 (by decide) (fun c19 => ?_) (fun c19 => ?_)
  · have hf := ifp c19 hf
    refine lv_aload_n hx hb d_LinkAuditModel_covers_11 rfl (lv_at hl 0 rfl) ?_
    refine lv_iload_n hx hb d_LinkAuditModel_covers_12 rfl (lv_at hl 1 rfl) ?_
    refine lv_iload_n hx hb d_LinkAuditModel_covers_13 rfl (lv_at hl 2 rfl) ?_
    obtain ⟨r23, hc20, hf⟩ := bd1_e hf
    refine xvr_LinkAuditModel_169 X hkk hD (Nat.le_of_ble_eq_true rfl) ⟨by dsimp only [rmR]; omega, by dsimp only [rmR]; omega⟩ ⟨Nat.zero_le _, Nat.zero_le _⟩ hc20 hl.1 hP hS d_LinkAuditModel_covers_14 (fun H locs hP hS => ?_)
    refine lv_if_eq (tgt := 70) hx hb d_LinkAuditModel_covers_17 (by decide) (fun c21 => ?_) (fun c21 => ?_)
    · have hf := ifp c21 hf
      refine lv_iconst (v := (0 : Int32)) hx hb d_LinkAuditModel_covers_70 (by decide) ?_
      exact hret (Or.inl rfl) hf hP hS d_LinkAuditModel_covers_71
    · have hf := ifn c21 hf
      refine lv_aload_n hx hb d_LinkAuditModel_covers_20 rfl (lv_at hl 0 rfl) ?_
      refine lv_iload_n hx hb d_LinkAuditModel_covers_21 rfl (lv_at hl 1 rfl) ?_
      obtain ⟨r24, hc22, hf⟩ := bd1_e hf
      refine xvr_LinkAuditModel_172 X hkk hD (Nat.le_of_ble_eq_true rfl) ⟨by dsimp only [rmR]; omega, by dsimp only [rmR]; omega⟩ ⟨Nat.zero_le _, Nat.zero_le _⟩ hc22 hl.1 hP hS d_LinkAuditModel_covers_22 (fun H locs hP hS => ?_)
      refine lv_if_ne (tgt := 70) hx hb d_LinkAuditModel_covers_25 (by decide) (fun c23 => ?_) (fun c23 => ?_)
      · have hf := ifn c23 hf
        refine lv_iconst (v := (0 : Int32)) hx hb d_LinkAuditModel_covers_70 (by decide) ?_
        exact hret (Or.inl rfl) hf hP hS d_LinkAuditModel_covers_71
      · have hf := ifp c23 hf
        refine lv_aload_n hx hb d_LinkAuditModel_covers_28 rfl (lv_at hl 0 rfl) ?_
        refine lv_iload_n hx hb d_LinkAuditModel_covers_29 rfl (lv_at hl 2 rfl) ?_
        obtain ⟨r25, hc24, hf⟩ := bd1_e hf
        refine xvr_LinkAuditModel_172 X hkk hD (Nat.le_of_ble_eq_true rfl) ⟨by dsimp only [rmR]; omega, by dsimp only [rmR]; omega⟩ ⟨Nat.zero_le _, Nat.zero_le _⟩ hc24 hl.1 hP hS d_LinkAuditModel_covers_30 (fun H locs hP hS => ?_)
        refine lv_if_ne (tgt := 70) hx hb d_LinkAuditModel_covers_33 (by decide) (fun c25 => ?_) (fun c25 => ?_)
        · have hf := ifn c25 hf
          refine lv_iconst (v := (0 : Int32)) hx hb d_LinkAuditModel_covers_70 (by decide) ?_
          exact hret (Or.inl rfl) hf hP hS d_LinkAuditModel_covers_71
        · have hf := ifp c25 hf
          refine lv_aload_n hx hb d_LinkAuditModel_covers_36 rfl (lv_at hl 0 rfl) ?_
          refine xg_LinkAuditModel_34 hx hb hta hown hKv hP d_LinkAuditModel_covers_37 ?_
          refine lv_iload_n hx hb d_LinkAuditModel_covers_40 rfl (lv_at hl 1 rfl) ?_
          obtain ⟨g26, hf⟩ := gd_ok hf
          refine x_ild hx hb hKv hP r_c9 g26 d_LinkAuditModel_covers_41 ?_
          refine lv_aload_n hx hb d_LinkAuditModel_covers_42 rfl (lv_at hl 0 rfl) ?_
          refine xg_LinkAuditModel_34 hx hb hta hown hKv hP d_LinkAuditModel_covers_43 ?_
          refine lv_iload_n hx hb d_LinkAuditModel_covers_46 rfl (lv_at hl 2 rfl) ?_
          obtain ⟨g27, hf⟩ := gd_ok hf
          refine x_ild hx hb hKv hP r_c9 g27 d_LinkAuditModel_covers_47 ?_
          refine lv_icmp_eq (tgt := 70) hx hb d_LinkAuditModel_covers_48 (by decide) (fun c28 => ?_) (fun c28 => ?_)
          · have hf := ifp c28 hf
            refine lv_iconst (v := (0 : Int32)) hx hb d_LinkAuditModel_covers_70 (by decide) ?_
            exact hret (Or.inl rfl) hf hP hS d_LinkAuditModel_covers_71
          · have hf := ifn c28 hf
            refine lv_aload_n hx hb d_LinkAuditModel_covers_51 rfl (lv_at hl 0 rfl) ?_
            refine lv_aload_n hx hb d_LinkAuditModel_covers_52 rfl (lv_at hl 0 rfl) ?_
            refine xg_LinkAuditModel_34 hx hb hta hown hKv hP d_LinkAuditModel_covers_53 ?_
            refine lv_iload_n hx hb d_LinkAuditModel_covers_56 rfl (lv_at hl 1 rfl) ?_
            obtain ⟨g29, hf⟩ := gd_ok hf
            refine x_ild hx hb hKv hP r_c9 g29 d_LinkAuditModel_covers_57 ?_
            refine lv_aload_n hx hb d_LinkAuditModel_covers_58 rfl (lv_at hl 0 rfl) ?_
            refine xg_LinkAuditModel_34 hx hb hta hown hKv hP d_LinkAuditModel_covers_59 ?_
            refine lv_iload_n hx hb d_LinkAuditModel_covers_62 rfl (lv_at hl 2 rfl) ?_
            obtain ⟨g30, hf⟩ := gd_ok hf
            refine x_ild hx hb hKv hP r_c9 g30 d_LinkAuditModel_covers_63 ?_
            obtain ⟨r26, hc31, hf⟩ := bd1_e hf
            refine xvr_LinkAuditModel_139 X hkk hD (Nat.le_of_ble_eq_true rfl) ⟨by dsimp only [rmR]; omega, by dsimp only [rmR]; omega⟩ ⟨Nat.zero_le _, Nat.zero_le _⟩ hc31 hl.1 hP hS d_LinkAuditModel_covers_64 (fun H locs hP hS => ?_)
            refine lv_if_ne (tgt := 72) hx hb d_LinkAuditModel_covers_67 (by decide) (fun c32 => ?_) (fun c32 => ?_)
            · have hf := ifn c32 hf
              refine lv_iconst (v := (0 : Int32)) hx hb d_LinkAuditModel_covers_72 (by decide) ?_
              refine lv_istore_n (lv' := [(3, .int (0 : Int32)), (0, .ref (ad 0)), (1, .int a1), (2, .int a2)]) hx hb d_LinkAuditModel_covers_73 rfl hl (by decide) rfl (fun ls hl => ?_)
              refine lv_aload_n hx hb d_LinkAuditModel_covers_74 rfl (lv_at hl 1 rfl) ?_
              refine xg_LinkAuditModel_34 hx hb hta hown hKv hP d_LinkAuditModel_covers_75 ?_
              refine lv_iload_n hx hb d_LinkAuditModel_covers_78 rfl (lv_at hl 2 rfl) ?_
              obtain ⟨g33, hf⟩ := gd_ok hf
              refine x_ild hx hb hKv hP r_c9 g33 d_LinkAuditModel_covers_79 ?_
              refine lv_istore (lv' := [(4, .int (M.1 9 a1.toNatClampNeg)), (3, .int (0 : Int32)), (0, .ref (ad 0)), (1, .int a1), (2, .int a2)]) hx hb d_LinkAuditModel_covers_80 hl (by decide) rfl (fun ls hl => ?_)
              exact L82 a1 a2 _ rfl _ rfl FU (0 : Int32) (M.1 9 a1.toNatClampNeg) M _ _ _ hf hP hS (lv_sub hl [2, 3, 4, 1, 0] rfl)
            · have hf := ifp c32 hf
              refine lv_iconst (v := (0 : Int32)) hx hb d_LinkAuditModel_covers_70 (by decide) ?_
              exact hret (Or.inl rfl) hf hP hS d_LinkAuditModel_covers_71
  · have hf := ifn c19 hf
    refine lv_iconst (v := (1 : Int32)) hx hb d_LinkAuditModel_covers_9 (by decide) ?_
    exact hret (Or.inr rfl) hf hP hS d_LinkAuditModel_covers_10
-- LinkAuditModel.selected
theorem xvr_LinkAuditModel_182 {p : Program} {l : Launch} {e : Env} {R : Room} {s : State} {m : MethodId} {args : Array Value} {below : List Frame} {meth : Method} {c : Code} {H : Heap} {locs : List Loc} {cells slots : Nat} {Q : State → Prop} {cc : ByteArray} {pc : Nat} {ls : Array Slot} {rest : List Value} {D : va_G} {cI cL cG cZ : ClassId} {ad : Nat → Nat} {M : Mem} {H0 : Heap} {M1 : Mem} {nL : Nat} {a0 : Int32} {a1 : Int32} {r : Int32} (X : CallFix p m c cc nL s args ALLW "LinkAuditModel") (hkk : Kk D cI cL cG cZ s) (hD : ∀ M, va_D (r_A ad) (r_ws cI cL cG cZ ad M)) (hrest : (rest.map fun v => v.category).sum ≤ 8) (hR : 3 + 1 ≤ R.frames ∧ 8 + (6 + 11) + 68 ≤ R.locals) (hcs : cells + 0 ≤ R.cells ∧ slots + 0 ≤ R.slots) (hc : f_LinkAuditModel_covers M a0 a1 = some (r, M1)) (hsz : ls.size = nL) (hP : va_P D vwC (r_ws cI cL cG cZ ad M) H) (hS : va_S (r_A ad) H0 H locs) (hdg : decode cc pc = .ok (.invokevirtual 182, 3))
    (kk : ∀ (H1 : Heap) (locs1 : List Loc), va_P D vwC (r_ws cI cL cG cZ ad M1) H1 → va_S (r_A ad) H0 H1 locs1 → W p l e R s m args below meth c H1 locs1 cells slots Q (F0 m (pc + 3) ls (.int r :: rest))) : W p l e R s m args below meth c H locs cells slots Q (F0 m pc ls (.int a1 :: .int a0 :: .ref (ad 0) :: rest)) := by
  have hta := X.2.2.2.2
  exact x_afterI (va_runV (As := [.int a0, .int a1]) (rest := rest) X (c_LinkAuditModel_covers hD hc) ⟨callB_of 2 hta (good_all (L := .code y_LinkAuditModel_covers prog_12_method_32_code 6 (some .boolean) :: ALLW) (List.forall_mem_cons.mpr ⟨wm_930, fun _ h => h⟩)) rfl rfl rfl (hta _ wm_11) (hta _ wm_927) (by decide +kernel) hR, hta _ wm_929, hta _ wp_45⟩ ⟨x_blind Kk_w _, va_recv hkk.1 hP (ci := 10) (q0 := 0) rfl r_c0, x_pre Kk_w hkk hP _⟩ rfl rfl hsz rfl (lv_room hrest) hdg hcs) hS kk
set_option maxHeartbeats 4000000 in
set_option maxRecDepth 100000 in
theorem c_LinkAuditModel_selected {l : Launch} {D : va_G} {cI cL cG cZ : ClassId} {ad : Nat → Nat} {M M' : Mem} {a1 : Int32} {a2 : Int32} {r : Int32} (hD : ∀ M, va_D (r_A ad) (r_ws cI cL cG cZ ad M)) (hf : f_LinkAuditModel_selected M a1 a2 = some (r, M')) : Mi l y_LinkAuditModel_selected (.code y_LinkAuditModel_selected prog_12_method_35_code 5 (some .int) :: ALLW) (rmR 4 100) (Kk D cI cL cG cZ) D vwC (r_A ad) (r_ws cI cL cG cZ ad) [.ref (ad 0), .int a1, .int a2] M M' r := by
  refine Mi_of (by decide) (Nat.le_of_ble_eq_true rfl) ?_
  intro p e s m args below meth c ls Q X hkk hret hP hl
  obtain ⟨hx, hb, hml, hown, hta⟩ := id X
  have hKv := hkk.1
  have hS : va_S (r_A ad) s.heap s.heap [] := va_S.rf
  have hl : lv_has ls 5 [(0, .ref (ad 0)), (1, .int a1), (2, .int a2)] := hl
  have L16 : ∀ (x1 : Int32) (x2 : Int32), ∀ (ke67 : Int32 → Mem → Option (Int32 × Mem)), ke67 = (fun y4 M7 => some (y4, M7)) → ∀ (ke80 : Mem → Option (Int32 × Mem)), ke80 = (fun M8 => gd (ok x2 41) (gd (ok x2 41) (gd (ok x2 41) (bd1 (f_LinkAuditModel_specificBody M8 x1 (M8.1 11 x2.toNatClampNeg) (M8.1 12 x2.toNatClampNeg) (M8.1 13 x2.toNatClampNeg)) (fun r9 => if r9 ≤ 0 then if 0 ≤ r9 then some ((-9 : Int32), M8) else some ((-5 : Int32), M8) else some (r9, M8)))))) → ∀ (n16 : Nat) (x3 : Int32) (M : Mem) (H : Heap) (locs : List Loc) (ls : Array Slot), f_LinkAuditModel_selected_L16 x1 x2 ke67 ke80 n16 x3 M = some (r, M') → va_P D vwC (r_ws cI cL cG cZ ad M) H → va_S (r_A ad) s.heap H locs → lv_has ls 5 [(0, .ref (ad 0)), (1, .int x1), (2, .int x2), (3, .int x3)] → W p l e (rmR 4 100) s m args below meth c H locs 0 0 Q (F0 m 16 ls []) := by
    intro x1 x2 ke67 hke67 ke80 hke80 n16
    induction n16 with
    | zero => intro x3 M H locs ls hf; exact absurd (show (none : Option _) = some _ from hf) (fun q => by cases q)
    | succ n16 ih16 =>
      intro x3 M H locs ls hf hP hS hl
      rw [f_LinkAuditModel_selected_L16] at hf
      have b70 : ∀ (M : Mem) (x3 : Int32) (H : Heap) (locs : List Loc) (ls : Array Slot), f_LinkAuditModel_selected_b70 M x1 x2 x3 (f_LinkAuditModel_selected_L16 x1 x2 ke67 ke80 n16) ke67 ke80 = some (r, M') → va_P D vwC (r_ws cI cL cG cZ ad M) H → va_S (r_A ad) s.heap H locs → lv_has ls 5 [(0, .ref (ad 0)), (1, .int x1), (2, .int x2), (3, .int x3)] → W p l e (rmR 4 100) s m args below meth c H locs 0 0 Q (F0 m 70 ls []) := by
        intro M x3 H locs ls hf hP hS hl
        unfold f_LinkAuditModel_selected_b70 at hf
        refine lv_aload_n hx hb d_LinkAuditModel_selected_70 rfl (lv_at hl 0 rfl) ?_
        refine xg_LinkAuditModel_59 hx hb hta hown hKv hP d_LinkAuditModel_selected_71 ?_
        refine lv_iload_n hx hb d_LinkAuditModel_selected_74 rfl (lv_at hl 3 rfl) ?_
        obtain ⟨g1, hf⟩ := gd_ok hf
        refine x_ild hx hb hKv hP r_c17 g1 d_LinkAuditModel_selected_75 ?_
        refine lv_istore_n (lv' := [(3, .int (M.1 17 x3.toNatClampNeg)), (0, .ref (ad 0)), (1, .int x1), (2, .int x2)]) hx hb d_LinkAuditModel_selected_76 rfl hl (by decide) rfl (fun ls hl => ?_)
        refine lv_goto (tgt := 16) hx hb d_LinkAuditModel_selected_77 (by decide) ?_
        exact ih16 (M.1 17 x3.toNatClampNeg) M _ _ _ hf hP hS (lv_sub hl [1, 2, 3, 0] rfl)
      refine lv_iload_n hx hb d_LinkAuditModel_selected_16 rfl (lv_at hl 3 rfl) ?_
      refine lv_if_le (tgt := 80) hx hb d_LinkAuditModel_selected_17 (by decide) (fun c2 => ?_) (fun c2 => ?_)
      · have hf := ifp c2 hf
        rw [hke80] at hf
        refine lv_aload_n hx hb d_LinkAuditModel_selected_80 rfl (lv_at hl 0 rfl) ?_
        refine lv_iload_n hx hb d_LinkAuditModel_selected_81 rfl (lv_at hl 1 rfl) ?_
        refine lv_aload_n hx hb d_LinkAuditModel_selected_82 rfl (lv_at hl 0 rfl) ?_
        refine xg_LinkAuditModel_41 hx hb hta hown hKv hP d_LinkAuditModel_selected_83 ?_
        refine lv_iload_n hx hb d_LinkAuditModel_selected_86 rfl (lv_at hl 2 rfl) ?_
        obtain ⟨g3, hf⟩ := gd_ok hf
        refine x_ild hx hb hKv hP r_c11 g3 d_LinkAuditModel_selected_87 ?_
        refine lv_aload_n hx hb d_LinkAuditModel_selected_88 rfl (lv_at hl 0 rfl) ?_
        refine xg_LinkAuditModel_44 hx hb hta hown hKv hP d_LinkAuditModel_selected_89 ?_
        refine lv_iload_n hx hb d_LinkAuditModel_selected_92 rfl (lv_at hl 2 rfl) ?_
        obtain ⟨g4, hf⟩ := gd_ok hf
        refine x_ild hx hb hKv hP r_c12 g4 d_LinkAuditModel_selected_93 ?_
        refine lv_aload_n hx hb d_LinkAuditModel_selected_94 rfl (lv_at hl 0 rfl) ?_
        refine xg_LinkAuditModel_47 hx hb hta hown hKv hP d_LinkAuditModel_selected_95 ?_
        refine lv_iload_n hx hb d_LinkAuditModel_selected_98 rfl (lv_at hl 2 rfl) ?_
        obtain ⟨g5, hf⟩ := gd_ok hf
        refine x_ild hx hb hKv hP r_c13 g5 d_LinkAuditModel_selected_99 ?_
        obtain ⟨r10, hc6, hf⟩ := bd1_e hf
        refine xvr_LinkAuditModel_156 X hkk hD (Nat.le_of_ble_eq_true rfl) ⟨by dsimp only [rmR]; omega, by dsimp only [rmR]; omega⟩ ⟨Nat.zero_le _, Nat.zero_le _⟩ hc6 hl.1 hP hS d_LinkAuditModel_selected_100 (fun H locs hP hS => ?_)
        refine lv_istore_n (lv' := [(3, .int r10), (0, .ref (ad 0)), (1, .int x1), (2, .int x2)]) hx hb d_LinkAuditModel_selected_103 rfl hl (by decide) rfl (fun ls hl => ?_)
        refine lv_iload_n hx hb d_LinkAuditModel_selected_104 rfl (lv_at hl 0 rfl) ?_
        refine lv_if_le (tgt := 112) hx hb d_LinkAuditModel_selected_105 (by decide) (fun c7 => ?_) (fun c7 => ?_)
        · have hf := ifp c7 hf
          refine lv_iload_n hx hb d_LinkAuditModel_selected_112 rfl (lv_at hl 0 rfl) ?_
          refine lv_if_ge (tgt := 121) hx hb d_LinkAuditModel_selected_113 (by decide) (fun c8 => ?_) (fun c8 => ?_)
          · have hf := ifp c8 hf
            refine lv_bipush (v := (-9 : Int32)) hx hb d_LinkAuditModel_selected_121 (by decide) ?_
            exact hret hf hP hS d_LinkAuditModel_selected_123
          · have hf := ifn c8 hf
            refine lv_bipush (v := (-5 : Int32)) hx hb d_LinkAuditModel_selected_116 (by decide) ?_
            refine lv_goto (tgt := 123) hx hb d_LinkAuditModel_selected_118 (by decide) ?_
            exact hret hf hP hS d_LinkAuditModel_selected_123
        · have hf := ifn c7 hf
          refine lv_iload_n hx hb d_LinkAuditModel_selected_108 rfl (lv_at hl 0 rfl) ?_
          refine lv_goto (tgt := 123) hx hb d_LinkAuditModel_selected_109 (by decide) ?_
          exact hret hf hP hS d_LinkAuditModel_selected_123
      · have hf := ifn c2 hf
        refine lv_aload_n hx hb d_LinkAuditModel_selected_20 rfl (lv_at hl 0 rfl) ?_
        refine lv_iload_n hx hb d_LinkAuditModel_selected_21 rfl (lv_at hl 3 rfl) ?_
        refine lv_iconst (v := (1 : Int32)) hx hb d_LinkAuditModel_selected_22 (by decide) ?_
        refine lv_aload_n hx hb d_LinkAuditModel_selected_23 rfl (lv_at hl 0 rfl) ?_
        refine xg_LinkAuditModel_41 hx hb hta hown hKv hP d_LinkAuditModel_selected_24 ?_
        refine lv_iload_n hx hb d_LinkAuditModel_selected_27 rfl (lv_at hl 2 rfl) ?_
        obtain ⟨g9, hf⟩ := gd_ok hf
        refine x_ild hx hb hKv hP r_c11 g9 d_LinkAuditModel_selected_28 ?_
        refine lv_aload_n hx hb d_LinkAuditModel_selected_29 rfl (lv_at hl 0 rfl) ?_
        refine xg_LinkAuditModel_44 hx hb hta hown hKv hP d_LinkAuditModel_selected_30 ?_
        refine lv_iload_n hx hb d_LinkAuditModel_selected_33 rfl (lv_at hl 2 rfl) ?_
        obtain ⟨g10, hf⟩ := gd_ok hf
        refine x_ild hx hb hKv hP r_c12 g10 d_LinkAuditModel_selected_34 ?_
        refine lv_aload_n hx hb d_LinkAuditModel_selected_35 rfl (lv_at hl 0 rfl) ?_
        refine xg_LinkAuditModel_47 hx hb hta hown hKv hP d_LinkAuditModel_selected_36 ?_
        refine lv_iload_n hx hb d_LinkAuditModel_selected_39 rfl (lv_at hl 2 rfl) ?_
        obtain ⟨g11, hf⟩ := gd_ok hf
        refine x_ild hx hb hKv hP r_c13 g11 d_LinkAuditModel_selected_40 ?_
        obtain ⟨r11, hc12, hf⟩ := bd1_e hf
        refine xvr_LinkAuditModel_142 X hkk hD (Nat.le_of_ble_eq_true rfl) ⟨by dsimp only [rmR]; omega, by dsimp only [rmR]; omega⟩ ⟨Nat.zero_le _, Nat.zero_le _⟩ hc12 hl.1 hP hS d_LinkAuditModel_selected_41 (fun H locs hP hS => ?_)
        refine lv_istore (lv' := [(4, .int r11), (0, .ref (ad 0)), (1, .int x1), (2, .int x2), (3, .int x3)]) hx hb d_LinkAuditModel_selected_44 hl (by decide) rfl (fun ls hl => ?_)
        refine lv_iload hx hb d_LinkAuditModel_selected_46 (lv_at hl 0 rfl) ?_
        refine lv_if_le (tgt := 70) hx hb d_LinkAuditModel_selected_48 (by decide) (fun c13 => ?_) (fun c13 => ?_)
        · have hf := ifp c13 hf
          exact b70 M x3 _ _ _ hf hP hS (lv_sub hl [1, 2, 3, 4] rfl)
        · have hf := ifn c13 hf
          refine lv_iload hx hb d_LinkAuditModel_selected_51 (lv_at hl 0 rfl) ?_
          refine lv_iload_n hx hb d_LinkAuditModel_selected_53 rfl (lv_at hl 3 rfl) ?_
          refine lv_icmp_eq (tgt := 67) hx hb d_LinkAuditModel_selected_54 (by decide) (fun c14 => ?_) (fun c14 => ?_)
          · have hf := ifp c14 hf
            rw [hke67] at hf
            refine lv_iload hx hb d_LinkAuditModel_selected_67 (lv_at hl 0 rfl) ?_
            exact hret hf hP hS d_LinkAuditModel_selected_69
          · have hf := ifn c14 hf
            refine lv_aload_n hx hb d_LinkAuditModel_selected_57 rfl (lv_at hl 1 rfl) ?_
            refine lv_iload hx hb d_LinkAuditModel_selected_58 (lv_at hl 0 rfl) ?_
            refine lv_iload_n hx hb d_LinkAuditModel_selected_60 rfl (lv_at hl 3 rfl) ?_
            obtain ⟨r13, M12, hc15, hf⟩ := bd2_e hf
            refine xvr_LinkAuditModel_182 X hkk hD (Nat.le_of_ble_eq_true rfl) ⟨by dsimp only [rmR]; omega, by dsimp only [rmR]; omega⟩ ⟨Nat.zero_le _, Nat.zero_le _⟩ hc15 hl.1 hP hS d_LinkAuditModel_selected_61 (fun H locs hP hS => ?_)
            refine lv_if_eq (tgt := 70) hx hb d_LinkAuditModel_selected_64 (by decide) (fun c16 => ?_) (fun c16 => ?_)
            · have hf := ifp c16 hf
              exact b70 M12 x3 _ _ _ hf hP hS (lv_sub hl [1, 2, 3, 4] rfl)
            · have hf := ifn c16 hf
              rw [hke67] at hf
              refine lv_iload hx hb d_LinkAuditModel_selected_67 (lv_at hl 0 rfl) ?_
              exact hret hf hP hS d_LinkAuditModel_selected_69
  unfold f_LinkAuditModel_selected at hf
  refine lv_aload_n hx hb d_LinkAuditModel_selected_0 rfl (lv_at hl 0 rfl) ?_
  refine xg_LinkAuditModel_50 hx hb hta hown hKv hP d_LinkAuditModel_selected_1 ?_
  refine lv_iload_n hx hb d_LinkAuditModel_selected_4 rfl (lv_at hl 2 rfl) ?_
  obtain ⟨g17, hf⟩ := gd_ok hf
  refine x_ild hx hb hKv hP r_c14 g17 d_LinkAuditModel_selected_5 ?_
  refine lv_iconst (v := (3 : Int32)) hx hb d_LinkAuditModel_selected_6 (by decide) ?_
  refine lv_iand hx hb d_LinkAuditModel_selected_7 ?_
  refine lv_iconst (v := (3 : Int32)) hx hb d_LinkAuditModel_selected_8 (by decide) ?_
  refine lv_icmp_ne (tgt := 14) hx hb d_LinkAuditModel_selected_9 (by decide) (fun c18 => ?_) (fun c18 => ?_)
  · have hf := ifn c18 hf
    refine lv_iload_n hx hb d_LinkAuditModel_selected_14 rfl (lv_at hl 1 rfl) ?_
    refine lv_istore_n (lv' := [(3, .int a1), (0, .ref (ad 0)), (1, .int a1), (2, .int a2)]) hx hb d_LinkAuditModel_selected_15 rfl hl (by decide) rfl (fun ls hl => ?_)
    exact L16 a1 a2 _ rfl _ rfl FU a1 M _ _ _ hf hP hS (lv_sub hl [1, 2, 3, 0] rfl)
  · have hf := ifp c18 hf
    refine lv_iload_n hx hb d_LinkAuditModel_selected_12 rfl (lv_at hl 2 rfl) ?_
    exact hret hf hP hS d_LinkAuditModel_selected_13
-- LinkAuditModel.select2
theorem xvr_LinkAuditModel_185 {p : Program} {l : Launch} {e : Env} {R : Room} {s : State} {m : MethodId} {args : Array Value} {below : List Frame} {meth : Method} {c : Code} {H : Heap} {locs : List Loc} {cells slots : Nat} {Q : State → Prop} {cc : ByteArray} {pc : Nat} {ls : Array Slot} {rest : List Value} {D : va_G} {cI cL cG cZ : ClassId} {ad : Nat → Nat} {M : Mem} {H0 : Heap} {M1 : Mem} {nL : Nat} {a0 : Int32} {a1 : Int32} {r : Int32} (X : CallFix p m c cc nL s args ALLW "LinkAuditModel") (hkk : Kk D cI cL cG cZ s) (hD : ∀ M, va_D (r_A ad) (r_ws cI cL cG cZ ad M)) (hrest : (rest.map fun v => v.category).sum ≤ 8) (hR : 4 + 1 ≤ R.frames ∧ 8 + (5 + 11) + 100 ≤ R.locals) (hcs : cells + 0 ≤ R.cells ∧ slots + 0 ≤ R.slots) (hc : f_LinkAuditModel_selected M a0 a1 = some (r, M1)) (hsz : ls.size = nL) (hP : va_P D vwC (r_ws cI cL cG cZ ad M) H) (hS : va_S (r_A ad) H0 H locs) (hdg : decode cc pc = .ok (.invokevirtual 185, 3))
    (kk : ∀ (H1 : Heap) (locs1 : List Loc), va_P D vwC (r_ws cI cL cG cZ ad M1) H1 → va_S (r_A ad) H0 H1 locs1 → W p l e R s m args below meth c H1 locs1 cells slots Q (F0 m (pc + 3) ls (.int r :: rest))) : W p l e R s m args below meth c H locs cells slots Q (F0 m pc ls (.int a1 :: .int a0 :: .ref (ad 0) :: rest)) := by
  have hta := X.2.2.2.2
  exact x_afterI (va_runV (As := [.int a0, .int a1]) (rest := rest) X (c_LinkAuditModel_selected hD hc) ⟨callB_of 2 hta (good_all (L := .code y_LinkAuditModel_selected prog_12_method_35_code 5 (some .int) :: ALLW) (List.forall_mem_cons.mpr ⟨wm_926, fun _ h => h⟩)) rfl rfl rfl (hta _ wm_11) (hta _ wm_923) (by decide +kernel) hR, hta _ wm_925, hta _ wp_44⟩ ⟨x_blind Kk_w _, va_recv hkk.1 hP (ci := 10) (q0 := 0) rfl r_c0, x_pre Kk_w hkk hP _⟩ rfl rfl hsz rfl (lv_room hrest) hdg hcs) hS kk
set_option maxHeartbeats 4000000 in
set_option maxRecDepth 100000 in
theorem c_LinkAuditModel_select2 {l : Launch} {D : va_G} {cI cL cG cZ : ClassId} {ad : Nat → Nat} {M M' : Mem} {a1 : Int32} {a2 : Int32} {r : Int32} (hD : ∀ M, va_D (r_A ad) (r_ws cI cL cG cZ ad M)) (hf : f_LinkAuditModel_select2 M a1 a2 = some (r, M')) : Mi l y_LinkAuditModel_select2 (.code y_LinkAuditModel_select2 prog_12_method_36_code 4 (some .int) :: ALLW) (rmR 5 124) (Kk D cI cL cG cZ) D vwC (r_A ad) (r_ws cI cL cG cZ ad) [.ref (ad 0), .int a1, .int a2] M M' r := by
  refine Mi_of (by decide) (Nat.le_of_ble_eq_true rfl) ?_
  intro p e s m args below meth c ls Q X hkk hret hP hl
  obtain ⟨hx, hb, hml, hown, hta⟩ := id X
  have hKv := hkk.1
  have hS : va_S (r_A ad) s.heap s.heap [] := va_S.rf
  have hl : lv_has ls 4 [(0, .ref (ad 0)), (1, .int a1), (2, .int a2)] := hl
  unfold f_LinkAuditModel_select2 at hf
  refine lv_aload_n hx hb d_LinkAuditModel_select2_0 rfl (lv_at hl 0 rfl) ?_
  refine lv_iload_n hx hb d_LinkAuditModel_select2_1 rfl (lv_at hl 1 rfl) ?_
  refine lv_iload_n hx hb d_LinkAuditModel_select2_2 rfl (lv_at hl 2 rfl) ?_
  obtain ⟨r5, M4, hc1, hf⟩ := bd2_e hf
  refine xvr_LinkAuditModel_185 X hkk hD (Nat.le_of_ble_eq_true rfl) ⟨by dsimp only [rmR]; omega, by dsimp only [rmR]; omega⟩ ⟨Nat.zero_le _, Nat.zero_le _⟩ hc1 hl.1 hP hS d_LinkAuditModel_select2_3 (fun H locs hP hS => ?_)
  refine lv_istore_n (lv' := [(3, .int r5), (0, .ref (ad 0)), (1, .int a1), (2, .int a2)]) hx hb d_LinkAuditModel_select2_6 rfl hl (by decide) rfl (fun ls hl => ?_)
  refine lv_iload_n hx hb d_LinkAuditModel_select2_7 rfl (lv_at hl 0 rfl) ?_
  refine lv_if_lt (tgt := 23) hx hb d_LinkAuditModel_select2_8 (by decide) (fun c2 => ?_) (fun c2 => ?_)
  · have hf := ifp c2 hf
    refine lv_iload_n hx hb d_LinkAuditModel_select2_23 rfl (lv_at hl 0 rfl) ?_
    exact hret hf hP hS d_LinkAuditModel_select2_24
  · have hf := ifn c2 hf
    refine lv_aload_n hx hb d_LinkAuditModel_select2_11 rfl (lv_at hl 1 rfl) ?_
    refine xg_LinkAuditModel_50 hx hb hta hown hKv hP d_LinkAuditModel_select2_12 ?_
    refine lv_iload_n hx hb d_LinkAuditModel_select2_15 rfl (lv_at hl 3 rfl) ?_
    obtain ⟨g3, hf⟩ := gd_ok hf
    refine x_ild hx hb hKv hP r_c14 g3 d_LinkAuditModel_select2_16 ?_
    refine lv_iconst (v := (3 : Int32)) hx hb d_LinkAuditModel_select2_17 (by decide) ?_
    refine lv_iand hx hb d_LinkAuditModel_select2_18 ?_
    refine lv_iconst (v := (3 : Int32)) hx hb d_LinkAuditModel_select2_19 (by decide) ?_
    refine lv_icmp_ne (tgt := 25) hx hb d_LinkAuditModel_select2_20 (by decide) (fun c4 => ?_) (fun c4 => ?_)
    · have hf := ifn c4 hf
      refine lv_aload_n hx hb d_LinkAuditModel_select2_25 rfl (lv_at hl 1 rfl) ?_
      refine xg_LinkAuditModel_50 hx hb hta hown hKv hP d_LinkAuditModel_select2_26 ?_
      refine lv_iload_n hx hb d_LinkAuditModel_select2_29 rfl (lv_at hl 0 rfl) ?_
      obtain ⟨g5, hf⟩ := gd_ok hf
      refine x_ild hx hb hKv hP r_c14 g5 d_LinkAuditModel_select2_30 ?_
      refine lv_bipush (v := (8 : Int32)) hx hb d_LinkAuditModel_select2_31 (by decide) ?_
      refine lv_iand hx hb d_LinkAuditModel_select2_33 ?_
      refine lv_if_eq (tgt := 40) hx hb d_LinkAuditModel_select2_34 (by decide) (fun c6 => ?_) (fun c6 => ?_)
      · have hf := ifp c6 hf
        refine lv_aload_n hx hb d_LinkAuditModel_select2_40 rfl (lv_at hl 1 rfl) ?_
        refine lv_aload_n hx hb d_LinkAuditModel_select2_41 rfl (lv_at hl 1 rfl) ?_
        refine xg_LinkAuditModel_34 hx hb hta hown hKv hP d_LinkAuditModel_select2_42 ?_
        refine lv_iload_n hx hb d_LinkAuditModel_select2_45 rfl (lv_at hl 3 rfl) ?_
        obtain ⟨g7, hf⟩ := gd_ok hf
        refine x_ild hx hb hKv hP r_c9 g7 d_LinkAuditModel_select2_46 ?_
        obtain ⟨r6, hc8, hf⟩ := bd1_e hf
        refine xvr_LinkAuditModel_111 X hkk hD (Nat.le_of_ble_eq_true rfl) ⟨by dsimp only [rmR]; omega, by dsimp only [rmR]; omega⟩ ⟨Nat.zero_le _, Nat.zero_le _⟩ hc8 hl.1 hP hS d_LinkAuditModel_select2_47 (fun H locs hP hS => ?_)
        refine lv_if_eq (tgt := 69) hx hb d_LinkAuditModel_select2_50 (by decide) (fun c9 => ?_) (fun c9 => ?_)
        · have hf := ifp c9 hf
          refine lv_iload_n hx hb d_LinkAuditModel_select2_69 rfl (lv_at hl 0 rfl) ?_
          exact hret hf hP hS d_LinkAuditModel_select2_70
        · have hf := ifn c9 hf
          refine lv_aload_n hx hb d_LinkAuditModel_select2_53 rfl (lv_at hl 1 rfl) ?_
          refine xg_LinkAuditModel_50 hx hb hta hown hKv hP d_LinkAuditModel_select2_54 ?_
          refine lv_iload_n hx hb d_LinkAuditModel_select2_57 rfl (lv_at hl 0 rfl) ?_
          obtain ⟨g10, hf⟩ := gd_ok hf
          refine x_ild hx hb hKv hP r_c14 g10 d_LinkAuditModel_select2_58 ?_
          refine lv_iconst (v := (3 : Int32)) hx hb d_LinkAuditModel_select2_59 (by decide) ?_
          refine lv_iand hx hb d_LinkAuditModel_select2_60 ?_
          refine lv_if_eq (tgt := 69) hx hb d_LinkAuditModel_select2_61 (by decide) (fun c11 => ?_) (fun c11 => ?_)
          · have hf := ifp c11 hf
            refine lv_iload_n hx hb d_LinkAuditModel_select2_69 rfl (lv_at hl 0 rfl) ?_
            exact hret hf hP hS d_LinkAuditModel_select2_70
          · have hf := ifn c11 hf
            refine lv_bipush (v := (-6 : Int32)) hx hb d_LinkAuditModel_select2_64 (by decide) ?_
            refine lv_goto (tgt := 70) hx hb d_LinkAuditModel_select2_66 (by decide) ?_
            exact hret hf hP hS d_LinkAuditModel_select2_70
      · have hf := ifn c6 hf
        refine lv_bipush (v := (-9 : Int32)) hx hb d_LinkAuditModel_select2_37 (by decide) ?_
        exact hret hf hP hS d_LinkAuditModel_select2_39
    · have hf := ifp c4 hf
      refine lv_iload_n hx hb d_LinkAuditModel_select2_23 rfl (lv_at hl 0 rfl) ?_
      exact hret hf hP hS d_LinkAuditModel_select2_24
-- LinkAuditModel.select
theorem xvr_LinkAuditModel_188 {p : Program} {l : Launch} {e : Env} {R : Room} {s : State} {m : MethodId} {args : Array Value} {below : List Frame} {meth : Method} {c : Code} {H : Heap} {locs : List Loc} {cells slots : Nat} {Q : State → Prop} {cc : ByteArray} {pc : Nat} {ls : Array Slot} {rest : List Value} {D : va_G} {cI cL cG cZ : ClassId} {ad : Nat → Nat} {M : Mem} {H0 : Heap} {M1 : Mem} {nL : Nat} {a0 : Int32} {a1 : Int32} {r : Int32} (X : CallFix p m c cc nL s args ALLW "LinkAuditModel") (hkk : Kk D cI cL cG cZ s) (hD : ∀ M, va_D (r_A ad) (r_ws cI cL cG cZ ad M)) (hrest : (rest.map fun v => v.category).sum ≤ 8) (hR : 5 + 1 ≤ R.frames ∧ 8 + (4 + 11) + 124 ≤ R.locals) (hcs : cells + 0 ≤ R.cells ∧ slots + 0 ≤ R.slots) (hc : f_LinkAuditModel_select2 M a0 a1 = some (r, M1)) (hsz : ls.size = nL) (hP : va_P D vwC (r_ws cI cL cG cZ ad M) H) (hS : va_S (r_A ad) H0 H locs) (hdg : decode cc pc = .ok (.invokevirtual 188, 3))
    (kk : ∀ (H1 : Heap) (locs1 : List Loc), va_P D vwC (r_ws cI cL cG cZ ad M1) H1 → va_S (r_A ad) H0 H1 locs1 → W p l e R s m args below meth c H1 locs1 cells slots Q (F0 m (pc + 3) ls (.int r :: rest))) : W p l e R s m args below meth c H locs cells slots Q (F0 m pc ls (.int a1 :: .int a0 :: .ref (ad 0) :: rest)) := by
  have hta := X.2.2.2.2
  exact x_afterI (va_runV (As := [.int a0, .int a1]) (rest := rest) X (c_LinkAuditModel_select2 hD hc) ⟨callB_of 2 hta (good_all (L := .code y_LinkAuditModel_select2 prog_12_method_36_code 4 (some .int) :: ALLW) (List.forall_mem_cons.mpr ⟨wm_922, fun _ h => h⟩)) rfl rfl rfl (hta _ wm_11) (hta _ wm_919) (by decide +kernel) hR, hta _ wm_921, hta _ wp_43⟩ ⟨x_blind Kk_w _, va_recv hkk.1 hP (ci := 10) (q0 := 0) rfl r_c0, x_pre Kk_w hkk hP _⟩ rfl rfl hsz rfl (lv_room hrest) hdg hcs) hS kk
set_option maxHeartbeats 4000000 in
set_option maxRecDepth 100000 in
theorem c_LinkAuditModel_select {l : Launch} {D : va_G} {cI cL cG cZ : ClassId} {ad : Nat → Nat} {M M' : Mem} {a1 : Int32} {a2 : Int32} {r : Int32} (hD : ∀ M, va_D (r_A ad) (r_ws cI cL cG cZ ad M)) (hf : f_LinkAuditModel_select M a1 a2 = some (r, M')) : Mi l y_LinkAuditModel_select (.code y_LinkAuditModel_select prog_12_method_45_code 4 (some .int) :: ALLW) (rmR 6 147) (Kk D cI cL cG cZ) D vwC (r_A ad) (r_ws cI cL cG cZ ad) [.ref (ad 0), .int a1, .int a2] M M' r := by
  refine Mi_of (by decide) (Nat.le_of_ble_eq_true rfl) ?_
  intro p e s m args below meth c ls Q X hkk hret hP hl
  obtain ⟨hx, hb, hml, hown, hta⟩ := id X
  have hKv := hkk.1
  have hS : va_S (r_A ad) s.heap s.heap [] := va_S.rf
  have hl : lv_has ls 4 [(0, .ref (ad 0)), (1, .int a1), (2, .int a2)] := hl
  have b63 : ∀ (M : Mem) (x1 : Int32) (x2 : Int32) (t0 : Int32) (H : Heap) (locs : List Loc) (ls : Array Slot), f_LinkAuditModel_select_b63 M x1 x2 t0 = some (r, M') → va_P D vwC (r_ws cI cL cG cZ ad M) H → va_S (r_A ad) s.heap H locs → lv_has ls 4 [(0, .ref (ad 0)), (1, .int x1), (2, .int x2)] → W p l e (rmR 6 147) s m args below meth c H locs 0 0 Q (F0 m 63 ls [.int t0]) := by
    intro M x1 x2 t0 H locs ls hf hP hS hl
    unfold f_LinkAuditModel_select_b63 at hf
    refine lv_istore_n (lv' := [(3, .int t0), (0, .ref (ad 0)), (1, .int x1), (2, .int x2)]) hx hb d_LinkAuditModel_select_63 rfl hl (by decide) rfl (fun ls hl => ?_)
    refine lv_aload_n hx hb d_LinkAuditModel_select_64 rfl (lv_at hl 1 rfl) ?_
    refine xg_LinkAuditModel_56 hx hb hta hown hKv hP d_LinkAuditModel_select_65 ?_
    refine lv_iload_n hx hb d_LinkAuditModel_select_68 rfl (lv_at hl 2 rfl) ?_
    obtain ⟨g1, hf⟩ := gd_ok hf
    refine x_ild hx hb hKv hP r_c16 g1 d_LinkAuditModel_select_69 ?_
    refine lv_if_ne (tgt := 105) hx hb d_LinkAuditModel_select_70 (by decide) (fun c2 => ?_) (fun c2 => ?_)
    · have hf := ifn c2 hf
      refine lv_iconst (v := (-1 : Int32)) hx hb d_LinkAuditModel_select_105 (by decide) ?_
      exact hret hf hP hS d_LinkAuditModel_select_106
    · have hf := ifp c2 hf
      refine lv_aload_n hx hb d_LinkAuditModel_select_73 rfl (lv_at hl 1 rfl) ?_
      refine lv_iload_n hx hb d_LinkAuditModel_select_74 rfl (lv_at hl 2 rfl) ?_
      obtain ⟨r9, hc3, hf⟩ := bd1_e hf
      refine xvr_LinkAuditModel_111 X hkk hD (Nat.le_of_ble_eq_true rfl) ⟨by dsimp only [rmR]; omega, by dsimp only [rmR]; omega⟩ ⟨Nat.zero_le _, Nat.zero_le _⟩ hc3 hl.1 hP hS d_LinkAuditModel_select_75 (fun H locs hP hS => ?_)
      refine lv_if_ne (tgt := 105) hx hb d_LinkAuditModel_select_78 (by decide) (fun c4 => ?_) (fun c4 => ?_)
      · have hf := ifn c4 hf
        refine lv_iconst (v := (-1 : Int32)) hx hb d_LinkAuditModel_select_105 (by decide) ?_
        exact hret hf hP hS d_LinkAuditModel_select_106
      · have hf := ifp c4 hf
        refine lv_aload_n hx hb d_LinkAuditModel_select_81 rfl (lv_at hl 1 rfl) ?_
        refine xg_LinkAuditModel_37 hx hb hta hown hKv hP d_LinkAuditModel_select_82 ?_
        refine lv_iload_n hx hb d_LinkAuditModel_select_85 rfl (lv_at hl 3 rfl) ?_
        obtain ⟨g5, hf⟩ := gd_ok hf
        refine x_zld hx hb hKv hP r_c10 g5 d_LinkAuditModel_select_86 ?_
        refine lv_if_eq (tgt := 105) hx hb d_LinkAuditModel_select_87 (by decide) (fun c6 => ?_) (fun c6 => ?_)
        · have hf := ifp c6 hf
          refine lv_iconst (v := (-1 : Int32)) hx hb d_LinkAuditModel_select_105 (by decide) ?_
          exact hret hf hP hS d_LinkAuditModel_select_106
        · have hf := ifn c6 hf
          refine lv_aload_n hx hb d_LinkAuditModel_select_90 rfl (lv_at hl 1 rfl) ?_
          refine xg_LinkAuditModel_50 hx hb hta hown hKv hP d_LinkAuditModel_select_91 ?_
          refine lv_iload_n hx hb d_LinkAuditModel_select_94 rfl (lv_at hl 3 rfl) ?_
          obtain ⟨g7, hf⟩ := gd_ok hf
          refine x_ild hx hb hKv hP r_c14 g7 d_LinkAuditModel_select_95 ?_
          refine lv_iconst (v := (4 : Int32)) hx hb d_LinkAuditModel_select_96 (by decide) ?_
          refine lv_iand hx hb d_LinkAuditModel_select_97 ?_
          refine lv_if_ne (tgt := 105) hx hb d_LinkAuditModel_select_98 (by decide) (fun c8 => ?_) (fun c8 => ?_)
          · have hf := ifn c8 hf
            refine lv_iconst (v := (-1 : Int32)) hx hb d_LinkAuditModel_select_105 (by decide) ?_
            exact hret hf hP hS d_LinkAuditModel_select_106
          · have hf := ifp c8 hf
            refine lv_iload_n hx hb d_LinkAuditModel_select_101 rfl (lv_at hl 0 rfl) ?_
            refine lv_if_ne (tgt := 107) hx hb d_LinkAuditModel_select_102 (by decide) (fun c9 => ?_) (fun c9 => ?_)
            · have hf := ifn c9 hf
              refine lv_aload_n hx hb d_LinkAuditModel_select_107 rfl (lv_at hl 1 rfl) ?_
              refine lv_iload_n hx hb d_LinkAuditModel_select_108 rfl (lv_at hl 2 rfl) ?_
              refine lv_iload_n hx hb d_LinkAuditModel_select_109 rfl (lv_at hl 3 rfl) ?_
              obtain ⟨r11, M10, hc10, hf⟩ := bd2_e hf
              refine xvr_LinkAuditModel_188 X hkk hD (Nat.le_of_ble_eq_true rfl) ⟨by dsimp only [rmR]; omega, by dsimp only [rmR]; omega⟩ ⟨Nat.zero_le _, Nat.zero_le _⟩ hc10 hl.1 hP hS d_LinkAuditModel_select_110 (fun H locs hP hS => ?_)
              exact hret hf hP hS d_LinkAuditModel_select_113
            · have hf := ifp c9 hf
              refine lv_iconst (v := (-1 : Int32)) hx hb d_LinkAuditModel_select_105 (by decide) ?_
              exact hret hf hP hS d_LinkAuditModel_select_106
  have b58 : ∀ (M : Mem) (x1 : Int32) (x2 : Int32) (H : Heap) (locs : List Loc) (ls : Array Slot), f_LinkAuditModel_select_b58 M x1 x2 = some (r, M') → va_P D vwC (r_ws cI cL cG cZ ad M) H → va_S (r_A ad) s.heap H locs → lv_has ls 4 [(0, .ref (ad 0)), (1, .int x1), (2, .int x2)] → W p l e (rmR 6 147) s m args below meth c H locs 0 0 Q (F0 m 58 ls []) := by
    intro M x1 x2 H locs ls hf hP hS hl
    unfold f_LinkAuditModel_select_b58 at hf
    refine lv_iconst (v := (1 : Int32)) hx hb d_LinkAuditModel_select_58 (by decide) ?_
    refine lv_goto (tgt := 63) hx hb d_LinkAuditModel_select_59 (by decide) ?_
    exact b63 M x1 x2 (1 : Int32) _ _ _ hf hP hS (lv_sub hl [0, 1, 2] rfl)
  unfold f_LinkAuditModel_select at hf
  refine lv_iload_n hx hb d_LinkAuditModel_select_0 rfl (lv_at hl 1 rfl) ?_
  refine lv_iconst (v := (1 : Int32)) hx hb d_LinkAuditModel_select_1 (by decide) ?_
  refine lv_aload_n hx hb d_LinkAuditModel_select_2 rfl (lv_at hl 0 rfl) ?_
  refine xg_LinkAuditModel_96 hx hb hta hown hKv hP d_LinkAuditModel_select_3 ?_
  obtain ⟨r12, hc11, hf⟩ := bd1_e hf
  refine xvr_LinkAuditModel_92 X hkk hD (Nat.le_of_ble_eq_true rfl) ⟨by dsimp only [rmR]; omega, by dsimp only [rmR]; omega⟩ ⟨Nat.zero_le _, Nat.zero_le _⟩ hc11 hl.1 hP hS d_LinkAuditModel_select_6 (fun H locs hP hS => ?_)
  refine lv_if_eq (tgt := 24) hx hb d_LinkAuditModel_select_9 (by decide) (fun c12 => ?_) (fun c12 => ?_)
  · have hf := ifp c12 hf
    refine lv_iconst (v := (-1 : Int32)) hx hb d_LinkAuditModel_select_24 (by decide) ?_
    exact hret hf hP hS d_LinkAuditModel_select_25
  · have hf := ifn c12 hf
    refine lv_iload_n hx hb d_LinkAuditModel_select_12 rfl (lv_at hl 2 rfl) ?_
    refine lv_iconst (v := (1 : Int32)) hx hb d_LinkAuditModel_select_13 (by decide) ?_
    refine lv_aload_n hx hb d_LinkAuditModel_select_14 rfl (lv_at hl 0 rfl) ?_
    refine xg_LinkAuditModel_104 hx hb hta hown hKv hP d_LinkAuditModel_select_15 ?_
    obtain ⟨r13, hc13, hf⟩ := bd1_e hf
    refine xvr_LinkAuditModel_92 X hkk hD (Nat.le_of_ble_eq_true rfl) ⟨by dsimp only [rmR]; omega, by dsimp only [rmR]; omega⟩ ⟨Nat.zero_le _, Nat.zero_le _⟩ hc13 hl.1 hP hS d_LinkAuditModel_select_18 (fun H locs hP hS => ?_)
    refine lv_if_ne (tgt := 26) hx hb d_LinkAuditModel_select_21 (by decide) (fun c14 => ?_) (fun c14 => ?_)
    · have hf := ifn c14 hf
      refine lv_aload_n hx hb d_LinkAuditModel_select_26 rfl (lv_at hl 0 rfl) ?_
      obtain ⟨M14, hc15, hf⟩ := bd1_e hf
      refine xvr_LinkAuditModel_210 X hkk hD (Nat.le_of_ble_eq_true rfl) ⟨by dsimp only [rmR]; omega, by dsimp only [rmR]; omega⟩ ⟨Nat.zero_le _, Nat.zero_le _⟩ hc15 hl.1 hP hS d_LinkAuditModel_select_27 (fun H locs hP hS => ?_)
      refine lv_aload_n hx hb d_LinkAuditModel_select_30 rfl (lv_at hl 0 rfl) ?_
      refine lv_iload_n hx hb d_LinkAuditModel_select_31 rfl (lv_at hl 1 rfl) ?_
      refine lv_aload_n hx hb d_LinkAuditModel_select_32 rfl (lv_at hl 0 rfl) ?_
      refine xg_LinkAuditModel_34 hx hb hta hown hKv hP d_LinkAuditModel_select_33 ?_
      refine lv_iload_n hx hb d_LinkAuditModel_select_36 rfl (lv_at hl 2 rfl) ?_
      obtain ⟨g16, hf⟩ := gd_ok hf
      refine x_ild hx hb hKv hP r_c9 g16 d_LinkAuditModel_select_37 ?_
      obtain ⟨r15, hc17, hf⟩ := bd1_e hf
      refine xvr_LinkAuditModel_139 X hkk hD (Nat.le_of_ble_eq_true rfl) ⟨by dsimp only [rmR]; omega, by dsimp only [rmR]; omega⟩ ⟨Nat.zero_le _, Nat.zero_le _⟩ hc17 hl.1 hP hS d_LinkAuditModel_select_38 (fun H locs hP hS => ?_)
      refine lv_if_ne (tgt := 58) hx hb d_LinkAuditModel_select_41 (by decide) (fun c18 => ?_) (fun c18 => ?_)
      · have hf := ifn c18 hf
        exact b58 M14 a1 a2 _ _ _ hf hP hS (lv_sub hl [0, 1, 2] rfl)
      · have hf := ifp c18 hf
        refine lv_aload_n hx hb d_LinkAuditModel_select_44 rfl (lv_at hl 0 rfl) ?_
        refine lv_iload_n hx hb d_LinkAuditModel_select_45 rfl (lv_at hl 1 rfl) ?_
        refine lv_aload_n hx hb d_LinkAuditModel_select_46 rfl (lv_at hl 0 rfl) ?_
        refine xg_LinkAuditModel_34 hx hb hta hown hKv hP d_LinkAuditModel_select_47 ?_
        refine lv_iload_n hx hb d_LinkAuditModel_select_50 rfl (lv_at hl 2 rfl) ?_
        obtain ⟨g19, hf⟩ := gd_ok hf
        refine x_ild hx hb hKv hP r_c9 g19 d_LinkAuditModel_select_51 ?_
        obtain ⟨r16, hc20, hf⟩ := bd1_e hf
        refine xvr_LinkAuditModel_146 X hkk hD (Nat.le_of_ble_eq_true rfl) ⟨by dsimp only [rmR]; omega, by dsimp only [rmR]; omega⟩ ⟨Nat.zero_le _, Nat.zero_le _⟩ hc20 hl.1 hP hS d_LinkAuditModel_select_52 (fun H locs hP hS => ?_)
        refine lv_if_eq (tgt := 62) hx hb d_LinkAuditModel_select_55 (by decide) (fun c21 => ?_) (fun c21 => ?_)
        · have hf := ifp c21 hf
          refine lv_iconst (v := (0 : Int32)) hx hb d_LinkAuditModel_select_62 (by decide) ?_
          exact b63 M14 a1 a2 (0 : Int32) _ _ _ hf hP hS (lv_sub hl [0, 1, 2] rfl)
        · have hf := ifn c21 hf
          exact b58 M14 a1 a2 _ _ _ hf hP hS (lv_sub hl [0, 1, 2] rfl)
    · have hf := ifp c14 hf
      refine lv_iconst (v := (-1 : Int32)) hx hb d_LinkAuditModel_select_24 (by decide) ?_
      exact hret hf hP hS d_LinkAuditModel_select_25
-- LinkAuditModel.overridesIt
set_option maxHeartbeats 4000000 in
set_option maxRecDepth 100000 in
theorem c_LinkAuditModel_overridesIt {l : Launch} {D : va_G} {cI cL cG cZ : ClassId} {ad : Nat → Nat} {M M' : Mem} {a1 : Int32} {a2 : Int32} {r : Int32} (hD : ∀ M, va_D (r_A ad) (r_ws cI cL cG cZ ad M)) (hf : f_LinkAuditModel_overridesIt M a1 a2 = some (r, M')) : Mi l y_LinkAuditModel_overridesIt (.code y_LinkAuditModel_overridesIt prog_12_method_34_code 5 (some .boolean) :: ALLW) (rmR 4 93) (Kk D cI cL cG cZ) D vwC (r_A ad) (r_ws cI cL cG cZ ad) [.ref (ad 0), .int a1, .int a2] M M' r := by
  refine Mz_of (by decide) (Nat.le_of_ble_eq_true rfl) ?_
  intro p e s m args below meth c ls Q X hkk hret hP hl
  obtain ⟨hx, hb, hml, hown, hta⟩ := id X
  have hKv := hkk.1
  have hS : va_S (r_A ad) s.heap s.heap [] := va_S.rf
  have hl : lv_has ls 5 [(0, .ref (ad 0)), (1, .int a1), (2, .int a2)] := hl
  have b41 : ∀ (M : Mem) (x1 : Int32) (x2 : Int32) (H : Heap) (locs : List Loc) (ls : Array Slot), f_LinkAuditModel_overridesIt_b41 M x1 x2 = some (r, M') → va_P D vwC (r_ws cI cL cG cZ ad M) H → va_S (r_A ad) s.heap H locs → lv_has ls 5 [(0, .ref (ad 0)), (1, .int x1), (2, .int x2)] → W p l e (rmR 4 93) s m args below meth c H locs 0 0 Q (F0 m 41 ls []) := by
    intro M x1 x2 H locs ls hf hP hS hl
    unfold f_LinkAuditModel_overridesIt_b41 at hf
    refine lv_aload_n hx hb d_LinkAuditModel_overridesIt_41 rfl (lv_at hl 0 rfl) ?_
    refine lv_iload_n hx hb d_LinkAuditModel_overridesIt_42 rfl (lv_at hl 1 rfl) ?_
    refine lv_iload_n hx hb d_LinkAuditModel_overridesIt_43 rfl (lv_at hl 2 rfl) ?_
    obtain ⟨r6, M5, hc1, hf⟩ := bd2_e hf
    refine xvr_LinkAuditModel_182 X hkk hD (Nat.le_of_ble_eq_true rfl) ⟨by dsimp only [rmR]; omega, by dsimp only [rmR]; omega⟩ ⟨Nat.zero_le _, Nat.zero_le _⟩ hc1 hl.1 hP hS d_LinkAuditModel_overridesIt_44 (fun H locs hP hS => ?_)
    refine lv_if_eq (tgt := 54) hx hb d_LinkAuditModel_overridesIt_47 (by decide) (fun c2 => ?_) (fun c2 => ?_)
    · have hf := ifp c2 hf
      refine lv_iconst (v := (0 : Int32)) hx hb d_LinkAuditModel_overridesIt_54 (by decide) ?_
      exact hret (Or.inl rfl) hf hP hS d_LinkAuditModel_overridesIt_55
    · have hf := ifn c2 hf
      refine lv_iconst (v := (1 : Int32)) hx hb d_LinkAuditModel_overridesIt_50 (by decide) ?_
      refine lv_goto (tgt := 55) hx hb d_LinkAuditModel_overridesIt_51 (by decide) ?_
      exact hret (Or.inr rfl) hf hP hS d_LinkAuditModel_overridesIt_55
  have b31 : ∀ (M : Mem) (x1 : Int32) (x2 : Int32) (x3 : Int32) (x4 : Int32) (H : Heap) (locs : List Loc) (ls : Array Slot), f_LinkAuditModel_overridesIt_b31 M x1 x2 x3 x4 = some (r, M') → va_P D vwC (r_ws cI cL cG cZ ad M) H → va_S (r_A ad) s.heap H locs → lv_has ls 5 [(0, .ref (ad 0)), (1, .int x1), (2, .int x2), (3, .int x3), (4, .int x4)] → W p l e (rmR 4 93) s m args below meth c H locs 0 0 Q (F0 m 31 ls []) := by
    intro M x1 x2 x3 x4 H locs ls hf hP hS hl
    unfold f_LinkAuditModel_overridesIt_b31 at hf
    refine lv_aload_n hx hb d_LinkAuditModel_overridesIt_31 rfl (lv_at hl 0 rfl) ?_
    refine lv_iload_n hx hb d_LinkAuditModel_overridesIt_32 rfl (lv_at hl 3 rfl) ?_
    refine lv_iload hx hb d_LinkAuditModel_overridesIt_33 (lv_at hl 4 rfl) ?_
    obtain ⟨r7, hc3, hf⟩ := bd1_e hf
    refine xvr_LinkAuditModel_146 X hkk hD (Nat.le_of_ble_eq_true rfl) ⟨by dsimp only [rmR]; omega, by dsimp only [rmR]; omega⟩ ⟨Nat.zero_le _, Nat.zero_le _⟩ hc3 hl.1 hP hS d_LinkAuditModel_overridesIt_35 (fun H locs hP hS => ?_)
    refine lv_if_eq (tgt := 54) hx hb d_LinkAuditModel_overridesIt_38 (by decide) (fun c4 => ?_) (fun c4 => ?_)
    · have hf := ifp c4 hf
      refine lv_iconst (v := (0 : Int32)) hx hb d_LinkAuditModel_overridesIt_54 (by decide) ?_
      exact hret (Or.inl rfl) hf hP hS d_LinkAuditModel_overridesIt_55
    · have hf := ifn c4 hf
      exact b41 M x1 x2 _ _ _ hf hP hS (lv_sub hl [0, 1, 2] rfl)
  unfold f_LinkAuditModel_overridesIt at hf
  refine lv_aload_n hx hb d_LinkAuditModel_overridesIt_0 rfl (lv_at hl 0 rfl) ?_
  refine xg_LinkAuditModel_34 hx hb hta hown hKv hP d_LinkAuditModel_overridesIt_1 ?_
  refine lv_iload_n hx hb d_LinkAuditModel_overridesIt_4 rfl (lv_at hl 1 rfl) ?_
  obtain ⟨g5, hf⟩ := gd_ok hf
  refine x_ild hx hb hKv hP r_c9 g5 d_LinkAuditModel_overridesIt_5 ?_
  refine lv_istore_n (lv' := [(3, .int (M.1 9 a1.toNatClampNeg)), (0, .ref (ad 0)), (1, .int a1), (2, .int a2)]) hx hb d_LinkAuditModel_overridesIt_6 rfl hl (by decide) rfl (fun ls hl => ?_)
  refine lv_aload_n hx hb d_LinkAuditModel_overridesIt_7 rfl (lv_at hl 1 rfl) ?_
  refine xg_LinkAuditModel_34 hx hb hta hown hKv hP d_LinkAuditModel_overridesIt_8 ?_
  refine lv_iload_n hx hb d_LinkAuditModel_overridesIt_11 rfl (lv_at hl 3 rfl) ?_
  obtain ⟨g6, hf⟩ := gd_ok hf
  refine x_ild hx hb hKv hP r_c9 g6 d_LinkAuditModel_overridesIt_12 ?_
  refine lv_istore (lv' := [(4, .int (M.1 9 a2.toNatClampNeg)), (3, .int (M.1 9 a1.toNatClampNeg)), (0, .ref (ad 0)), (1, .int a1), (2, .int a2)]) hx hb d_LinkAuditModel_overridesIt_13 hl (by decide) rfl (fun ls hl => ?_)
  refine lv_iload_n hx hb d_LinkAuditModel_overridesIt_15 rfl (lv_at hl 1 rfl) ?_
  refine lv_iload hx hb d_LinkAuditModel_overridesIt_16 (lv_at hl 0 rfl) ?_
  refine lv_icmp_eq (tgt := 31) hx hb d_LinkAuditModel_overridesIt_18 (by decide) (fun c7 => ?_) (fun c7 => ?_)
  · have hf := ifp c7 hf
    exact b31 M a1 a2 (M.1 9 a1.toNatClampNeg) (M.1 9 a2.toNatClampNeg) _ _ _ hf hP hS (lv_sub hl [2, 3, 4, 1, 0] rfl)
  · have hf := ifn c7 hf
    refine lv_aload_n hx hb d_LinkAuditModel_overridesIt_21 rfl (lv_at hl 2 rfl) ?_
    refine lv_iload_n hx hb d_LinkAuditModel_overridesIt_22 rfl (lv_at hl 1 rfl) ?_
    refine lv_iload hx hb d_LinkAuditModel_overridesIt_23 (lv_at hl 0 rfl) ?_
    obtain ⟨r8, hc8, hf⟩ := bd1_e hf
    refine xvr_LinkAuditModel_139 X hkk hD (Nat.le_of_ble_eq_true rfl) ⟨by dsimp only [rmR]; omega, by dsimp only [rmR]; omega⟩ ⟨Nat.zero_le _, Nat.zero_le _⟩ hc8 hl.1 hP hS d_LinkAuditModel_overridesIt_25 (fun H locs hP hS => ?_)
    refine lv_if_ne (tgt := 41) hx hb d_LinkAuditModel_overridesIt_28 (by decide) (fun c9 => ?_) (fun c9 => ?_)
    · have hf := ifn c9 hf
      exact b41 M a1 a2 _ _ _ hf hP hS (lv_sub hl [2, 3, 4] rfl)
    · have hf := ifp c9 hf
      exact b31 M a1 a2 (M.1 9 a1.toNatClampNeg) (M.1 9 a2.toNatClampNeg) _ _ _ hf hP hS (lv_sub hl [2, 3, 4, 1, 0] rfl)
-- LinkAuditModel.overrides
theorem xvr_LinkAuditModel_201 {p : Program} {l : Launch} {e : Env} {R : Room} {s : State} {m : MethodId} {args : Array Value} {below : List Frame} {meth : Method} {c : Code} {H : Heap} {locs : List Loc} {cells slots : Nat} {Q : State → Prop} {cc : ByteArray} {pc : Nat} {ls : Array Slot} {rest : List Value} {D : va_G} {cI cL cG cZ : ClassId} {ad : Nat → Nat} {M : Mem} {H0 : Heap} {M1 : Mem} {nL : Nat} {a0 : Int32} {a1 : Int32} {r : Int32} (X : CallFix p m c cc nL s args ALLW "LinkAuditModel") (hkk : Kk D cI cL cG cZ s) (hD : ∀ M, va_D (r_A ad) (r_ws cI cL cG cZ ad M)) (hrest : (rest.map fun v => v.category).sum ≤ 8) (hR : 4 + 1 ≤ R.frames ∧ 8 + (5 + 11) + 93 ≤ R.locals) (hcs : cells + 0 ≤ R.cells ∧ slots + 0 ≤ R.slots) (hc : f_LinkAuditModel_overridesIt M a0 a1 = some (r, M1)) (hsz : ls.size = nL) (hP : va_P D vwC (r_ws cI cL cG cZ ad M) H) (hS : va_S (r_A ad) H0 H locs) (hdg : decode cc pc = .ok (.invokevirtual 201, 3))
    (kk : ∀ (H1 : Heap) (locs1 : List Loc), va_P D vwC (r_ws cI cL cG cZ ad M1) H1 → va_S (r_A ad) H0 H1 locs1 → W p l e R s m args below meth c H1 locs1 cells slots Q (F0 m (pc + 3) ls (.int r :: rest))) : W p l e R s m args below meth c H locs cells slots Q (F0 m pc ls (.int a1 :: .int a0 :: .ref (ad 0) :: rest)) := by
  have hta := X.2.2.2.2
  exact x_afterI (va_runV (As := [.int a0, .int a1]) (rest := rest) X (c_LinkAuditModel_overridesIt hD hc) ⟨callB_of 2 hta (good_all (L := .code y_LinkAuditModel_overridesIt prog_12_method_34_code 5 (some .boolean) :: ALLW) (List.forall_mem_cons.mpr ⟨wm_954, fun _ h => h⟩)) rfl rfl rfl (hta _ wm_11) (hta _ wm_951) (by decide +kernel) hR, hta _ wm_953, hta _ wp_50⟩ ⟨x_blind Kk_w _, va_recv hkk.1 hP (ci := 10) (q0 := 0) rfl r_c0, x_pre Kk_w hkk hP _⟩ rfl rfl hsz rfl (lv_room hrest) hdg hcs) hS kk
set_option maxHeartbeats 4000000 in
set_option maxRecDepth 100000 in
theorem c_LinkAuditModel_overrides {l : Launch} {D : va_G} {cI cL cG cZ : ClassId} {ad : Nat → Nat} {M M' : Mem} {a1 : Int32} {a2 : Int32} {r : Int32} (hD : ∀ M, va_D (r_A ad) (r_ws cI cL cG cZ ad M)) (hf : f_LinkAuditModel_overrides M a1 a2 = some (r, M')) : Mi l y_LinkAuditModel_overrides (.code y_LinkAuditModel_overrides prog_12_method_46_code 3 (some .boolean) :: ALLW) (rmR 5 120) (Kk D cI cL cG cZ) D vwC (r_A ad) (r_ws cI cL cG cZ ad) [.ref (ad 0), .int a1, .int a2] M M' r := by
  refine Mz_of (by decide) (Nat.le_of_ble_eq_true rfl) ?_
  intro p e s m args below meth c ls Q X hkk hret hP hl
  obtain ⟨hx, hb, hml, hown, hta⟩ := id X
  have hKv := hkk.1
  have hS : va_S (r_A ad) s.heap s.heap [] := va_S.rf
  have hl : lv_has ls 3 [(0, .ref (ad 0)), (1, .int a1), (2, .int a2)] := hl
  unfold f_LinkAuditModel_overrides at hf
  refine lv_iload_n hx hb d_LinkAuditModel_overrides_0 rfl (lv_at hl 1 rfl) ?_
  refine lv_iconst (v := (1 : Int32)) hx hb d_LinkAuditModel_overrides_1 (by decide) ?_
  refine lv_aload_n hx hb d_LinkAuditModel_overrides_2 rfl (lv_at hl 0 rfl) ?_
  refine xg_LinkAuditModel_104 hx hb hta hown hKv hP d_LinkAuditModel_overrides_3 ?_
  obtain ⟨r6, hc1, hf⟩ := bd1_e hf
  refine xvr_LinkAuditModel_92 X hkk hD (Nat.le_of_ble_eq_true rfl) ⟨by dsimp only [rmR]; omega, by dsimp only [rmR]; omega⟩ ⟨Nat.zero_le _, Nat.zero_le _⟩ hc1 hl.1 hP hS d_LinkAuditModel_overrides_6 (fun H locs hP hS => ?_)
  refine lv_if_eq (tgt := 42) hx hb d_LinkAuditModel_overrides_9 (by decide) (fun c2 => ?_) (fun c2 => ?_)
  · have hf := ifp c2 hf
    refine lv_iconst (v := (0 : Int32)) hx hb d_LinkAuditModel_overrides_42 (by decide) ?_
    exact hret (Or.inl rfl) hf hP hS d_LinkAuditModel_overrides_43
  · have hf := ifn c2 hf
    refine lv_iload_n hx hb d_LinkAuditModel_overrides_12 rfl (lv_at hl 2 rfl) ?_
    refine lv_iconst (v := (1 : Int32)) hx hb d_LinkAuditModel_overrides_13 (by decide) ?_
    refine lv_aload_n hx hb d_LinkAuditModel_overrides_14 rfl (lv_at hl 0 rfl) ?_
    refine xg_LinkAuditModel_104 hx hb hta hown hKv hP d_LinkAuditModel_overrides_15 ?_
    obtain ⟨r7, hc3, hf⟩ := bd1_e hf
    refine xvr_LinkAuditModel_92 X hkk hD (Nat.le_of_ble_eq_true rfl) ⟨by dsimp only [rmR]; omega, by dsimp only [rmR]; omega⟩ ⟨Nat.zero_le _, Nat.zero_le _⟩ hc3 hl.1 hP hS d_LinkAuditModel_overrides_18 (fun H locs hP hS => ?_)
    refine lv_if_eq (tgt := 42) hx hb d_LinkAuditModel_overrides_21 (by decide) (fun c4 => ?_) (fun c4 => ?_)
    · have hf := ifp c4 hf
      refine lv_iconst (v := (0 : Int32)) hx hb d_LinkAuditModel_overrides_42 (by decide) ?_
      exact hret (Or.inl rfl) hf hP hS d_LinkAuditModel_overrides_43
    · have hf := ifn c4 hf
      refine lv_aload_n hx hb d_LinkAuditModel_overrides_24 rfl (lv_at hl 0 rfl) ?_
      refine xg_LinkAuditModel_37 hx hb hta hown hKv hP d_LinkAuditModel_overrides_25 ?_
      refine lv_iload_n hx hb d_LinkAuditModel_overrides_28 rfl (lv_at hl 1 rfl) ?_
      obtain ⟨g5, hf⟩ := gd_ok hf
      refine x_zld hx hb hKv hP r_c10 g5 d_LinkAuditModel_overrides_29 ?_
      refine lv_if_eq (tgt := 42) hx hb d_LinkAuditModel_overrides_30 (by decide) (fun c6 => ?_) (fun c6 => ?_)
      · have hf := ifp c6 hf
        refine lv_iconst (v := (0 : Int32)) hx hb d_LinkAuditModel_overrides_42 (by decide) ?_
        exact hret (Or.inl rfl) hf hP hS d_LinkAuditModel_overrides_43
      · have hf := ifn c6 hf
        refine lv_aload_n hx hb d_LinkAuditModel_overrides_33 rfl (lv_at hl 0 rfl) ?_
        refine xg_LinkAuditModel_37 hx hb hta hown hKv hP d_LinkAuditModel_overrides_34 ?_
        refine lv_iload_n hx hb d_LinkAuditModel_overrides_37 rfl (lv_at hl 2 rfl) ?_
        obtain ⟨g7, hf⟩ := gd_ok hf
        refine x_zld hx hb hKv hP r_c10 g7 d_LinkAuditModel_overrides_38 ?_
        refine lv_if_ne (tgt := 44) hx hb d_LinkAuditModel_overrides_39 (by decide) (fun c8 => ?_) (fun c8 => ?_)
        · have hf := ifn c8 hf
          refine lv_aload_n hx hb d_LinkAuditModel_overrides_44 rfl (lv_at hl 0 rfl) ?_
          obtain ⟨M8, hc9, hf⟩ := bd1_e hf
          refine xvr_LinkAuditModel_210 X hkk hD (Nat.le_of_ble_eq_true rfl) ⟨by dsimp only [rmR]; omega, by dsimp only [rmR]; omega⟩ ⟨Nat.zero_le _, Nat.zero_le _⟩ hc9 hl.1 hP hS d_LinkAuditModel_overrides_45 (fun H locs hP hS => ?_)
          refine lv_aload_n hx hb d_LinkAuditModel_overrides_48 rfl (lv_at hl 0 rfl) ?_
          refine xg_LinkAuditModel_56 hx hb hta hown hKv hP d_LinkAuditModel_overrides_49 ?_
          refine lv_aload_n hx hb d_LinkAuditModel_overrides_52 rfl (lv_at hl 0 rfl) ?_
          refine xg_LinkAuditModel_34 hx hb hta hown hKv hP d_LinkAuditModel_overrides_53 ?_
          refine lv_iload_n hx hb d_LinkAuditModel_overrides_56 rfl (lv_at hl 1 rfl) ?_
          obtain ⟨g10, hf⟩ := gd_ok hf
          refine x_ild hx hb hKv hP r_c9 g10 d_LinkAuditModel_overrides_57 ?_
          obtain ⟨g11, hf⟩ := gd_ok hf
          refine x_ild hx hb hKv hP r_c16 g11 d_LinkAuditModel_overrides_58 ?_
          refine lv_if_ne (tgt := 89) hx hb d_LinkAuditModel_overrides_59 (by decide) (fun c12 => ?_) (fun c12 => ?_)
          · have hf := ifn c12 hf
            refine lv_iconst (v := (0 : Int32)) hx hb d_LinkAuditModel_overrides_89 (by decide) ?_
            exact hret (Or.inl rfl) hf hP hS d_LinkAuditModel_overrides_90
          · have hf := ifp c12 hf
            refine lv_aload_n hx hb d_LinkAuditModel_overrides_62 rfl (lv_at hl 0 rfl) ?_
            refine xg_LinkAuditModel_56 hx hb hta hown hKv hP d_LinkAuditModel_overrides_63 ?_
            refine lv_aload_n hx hb d_LinkAuditModel_overrides_66 rfl (lv_at hl 0 rfl) ?_
            refine xg_LinkAuditModel_34 hx hb hta hown hKv hP d_LinkAuditModel_overrides_67 ?_
            refine lv_iload_n hx hb d_LinkAuditModel_overrides_70 rfl (lv_at hl 2 rfl) ?_
            obtain ⟨g13, hf⟩ := gd_ok hf
            refine x_ild hx hb hKv hP r_c9 g13 d_LinkAuditModel_overrides_71 ?_
            obtain ⟨g14, hf⟩ := gd_ok hf
            refine x_ild hx hb hKv hP r_c16 g14 d_LinkAuditModel_overrides_72 ?_
            refine lv_if_ne (tgt := 89) hx hb d_LinkAuditModel_overrides_73 (by decide) (fun c15 => ?_) (fun c15 => ?_)
            · have hf := ifn c15 hf
              refine lv_iconst (v := (0 : Int32)) hx hb d_LinkAuditModel_overrides_89 (by decide) ?_
              exact hret (Or.inl rfl) hf hP hS d_LinkAuditModel_overrides_90
            · have hf := ifp c15 hf
              refine lv_aload_n hx hb d_LinkAuditModel_overrides_76 rfl (lv_at hl 0 rfl) ?_
              refine lv_iload_n hx hb d_LinkAuditModel_overrides_77 rfl (lv_at hl 1 rfl) ?_
              refine lv_iload_n hx hb d_LinkAuditModel_overrides_78 rfl (lv_at hl 2 rfl) ?_
              obtain ⟨r10, M9, hc16, hf⟩ := bd2_e hf
              refine xvr_LinkAuditModel_201 X hkk hD (Nat.le_of_ble_eq_true rfl) ⟨by dsimp only [rmR]; omega, by dsimp only [rmR]; omega⟩ ⟨Nat.zero_le _, Nat.zero_le _⟩ hc16 hl.1 hP hS d_LinkAuditModel_overrides_79 (fun H locs hP hS => ?_)
              refine lv_if_eq (tgt := 89) hx hb d_LinkAuditModel_overrides_82 (by decide) (fun c17 => ?_) (fun c17 => ?_)
              · have hf := ifp c17 hf
                refine lv_iconst (v := (0 : Int32)) hx hb d_LinkAuditModel_overrides_89 (by decide) ?_
                exact hret (Or.inl rfl) hf hP hS d_LinkAuditModel_overrides_90
              · have hf := ifn c17 hf
                refine lv_iconst (v := (1 : Int32)) hx hb d_LinkAuditModel_overrides_85 (by decide) ?_
                refine lv_goto (tgt := 90) hx hb d_LinkAuditModel_overrides_86 (by decide) ?_
                exact hret (Or.inr rfl) hf hP hS d_LinkAuditModel_overrides_90
        · have hf := ifp c8 hf
          refine lv_iconst (v := (0 : Int32)) hx hb d_LinkAuditModel_overrides_42 (by decide) ?_
          exact hret (Or.inl rfl) hf hP hS d_LinkAuditModel_overrides_43

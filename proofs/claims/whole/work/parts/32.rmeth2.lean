-- LinkAuditModel.load
theorem xvr_LinkAuditModel_135 {p : Program} {l : Launch} {e : Env} {R : Room} {s : State} {m : MethodId} {args : Array Value} {below : List Frame} {meth : Method} {c : Code} {H : Heap} {locs : List Loc} {cells slots : Nat} {Q : State → Prop} {cc : ByteArray} {pc : Nat} {ls : Array Slot} {rest : List Value} {D : va_G} {cI cL cG cZ : ClassId} {ad : Nat → Nat} {M : Mem} {H0 : Heap} {M1 : Mem} {nL : Nat} {a0 : Int32} {r : Int32} (X : CallFix p m c cc nL s args ALLW "LinkAuditModel") (hkk : Kk D cI cL cG cZ s) (hD : ∀ M, va_D (r_A ad) (r_ws cI cL cG cZ ad M)) (hrest : (rest.map fun v => v.category).sum ≤ 8) (hR : 3 + 1 ≤ R.frames ∧ 8 + (9 + 11) + 68 ≤ R.locals) (hcs : cells + 0 ≤ R.cells ∧ slots + 0 ≤ R.slots) (hc : f_LinkAuditModel_loadCode M a0 = some (r, M1)) (hsz : ls.size = nL) (hP : va_P D vwC (r_ws cI cL cG cZ ad M) H) (hS : va_S (r_A ad) H0 H locs) (hdg : decode cc pc = .ok (.invokevirtual 135, 3))
    (kk : ∀ (H1 : Heap) (locs1 : List Loc), va_P D vwC (r_ws cI cL cG cZ ad M1) H1 → va_S (r_A ad) H0 H1 locs1 → W p l e R s m args below meth c H1 locs1 cells slots Q (F0 m (pc + 3) ls (.int r :: rest))) : W p l e R s m args below meth c H locs cells slots Q (F0 m pc ls (.int a0 :: .ref (ad 0) :: rest)) := by
  have hta := X.2.2.2.2
  exact x_afterI (va_runV (As := [.int a0]) (rest := rest) X (c_LinkAuditModel_loadCode hD hc) ⟨callB_of 1 hta (good_all (L := .code y_LinkAuditModel_loadCode prog_12_method_17_code 9 (some .int) :: ALLW) (List.forall_mem_cons.mpr ⟨wm_850, fun _ h => h⟩)) rfl rfl rfl (hta _ wm_11) (hta _ wm_847) (by decide +kernel) hR, hta _ wm_849, hta _ wp_27⟩ ⟨x_blind Kk_w _, va_recv hkk.1 hP (ci := 10) (q0 := 0) rfl r_c0, x_pre Kk_w hkk hP _⟩ rfl rfl hsz rfl (lv_room hrest) hdg hcs) hS kk
set_option maxHeartbeats 4000000 in
set_option maxRecDepth 100000 in
theorem c_LinkAuditModel_load {l : Launch} {D : va_G} {cI cL cG cZ : ClassId} {ad : Nat → Nat} {M M' : Mem} {a1 : Int32} {r : Int32} (hD : ∀ M, va_D (r_A ad) (r_ws cI cL cG cZ ad M)) (hf : f_LinkAuditModel_load M a1 = some (r, M')) : Mi l y_LinkAuditModel_load (.code y_LinkAuditModel_load prog_12_method_43_code 3 (some .int) :: ALLW) (rmR 4 96) (Kk D cI cL cG cZ) D vwC (r_A ad) (r_ws cI cL cG cZ ad) [.ref (ad 0), .int a1] M M' r := by
  refine Mi_of (by decide) (Nat.le_of_ble_eq_true rfl) ?_
  intro p e s m args below meth c ls Q X hkk hret hP hl
  obtain ⟨hx, hb, hml, hown, hta⟩ := id X
  have hKv := hkk.1
  have hS : va_S (r_A ad) s.heap s.heap [] := va_S.rf
  have hl : lv_has ls 3 [(0, .ref (ad 0)), (1, .int a1)] := hl
  unfold f_LinkAuditModel_load at hf
  refine lv_iload_n hx hb d_LinkAuditModel_load_0 rfl (lv_at hl 1 rfl) ?_
  refine lv_iconst (v := (1 : Int32)) hx hb d_LinkAuditModel_load_1 (by decide) ?_
  refine lv_aload_n hx hb d_LinkAuditModel_load_2 rfl (lv_at hl 0 rfl) ?_
  refine xg_LinkAuditModel_96 hx hb hta hown hKv hP d_LinkAuditModel_load_3 ?_
  obtain ⟨r4, hc1, hf⟩ := bd1_e hf
  refine xvr_LinkAuditModel_92 X hkk hD (Nat.le_of_ble_eq_true rfl) ⟨by dsimp only [rmR]; omega, by dsimp only [rmR]; omega⟩ ⟨Nat.zero_le _, Nat.zero_le _⟩ hc1 hl.1 hP hS d_LinkAuditModel_load_6 (fun H locs hP hS => ?_)
  refine lv_if_ne (tgt := 14) hx hb d_LinkAuditModel_load_9 (by decide) (fun c2 => ?_) (fun c2 => ?_)
  · have hf := ifn c2 hf
    refine lv_aload_n hx hb d_LinkAuditModel_load_14 rfl (lv_at hl 0 rfl) ?_
    refine lv_iload_n hx hb d_LinkAuditModel_load_15 rfl (lv_at hl 1 rfl) ?_
    obtain ⟨r6, M5, hc3, hf⟩ := bd2_e hf
    refine xvr_LinkAuditModel_135 X hkk hD (Nat.le_of_ble_eq_true rfl) ⟨by dsimp only [rmR]; omega, by dsimp only [rmR]; omega⟩ ⟨Nat.zero_le _, Nat.zero_le _⟩ hc3 hl.1 hP hS d_LinkAuditModel_load_16 (fun H locs hP hS => ?_)
    refine lv_istore_n (lv' := [(2, .int r6), (0, .ref (ad 0)), (1, .int a1)]) hx hb d_LinkAuditModel_load_19 rfl hl (by decide) rfl (fun ls hl => ?_)
    refine lv_iload_n hx hb d_LinkAuditModel_load_20 rfl (lv_at hl 0 rfl) ?_
    refine lv_if_ne (tgt := 28) hx hb d_LinkAuditModel_load_21 (by decide) (fun c4 => ?_) (fun c4 => ?_)
    · have hf := ifn c4 hf
      refine lv_iload_n hx hb d_LinkAuditModel_load_28 rfl (lv_at hl 0 rfl) ?_
      exact hret hf hP hS d_LinkAuditModel_load_29
    · have hf := ifp c4 hf
      refine lv_iload_n hx hb d_LinkAuditModel_load_24 rfl (lv_at hl 2 rfl) ?_
      refine lv_goto (tgt := 29) hx hb d_LinkAuditModel_load_25 (by decide) ?_
      exact hret hf hP hS d_LinkAuditModel_load_29
  · have hf := ifp c2 hf
    refine lv_iconst (v := (-1 : Int32)) hx hb d_LinkAuditModel_load_12 (by decide) ?_
    exact hret hf hP hS d_LinkAuditModel_load_13
-- LinkAuditModel.prepare
theorem xg_LinkAuditModel_62 {p : Program} {l : Launch} {e : Env} {R : Room} {s : State} {m : MethodId} {args : Array Value} {below : List Frame} {meth : Method} {c : Code} {H : Heap} {locs : List Loc} {cells slots : Nat} {Q : State → Prop} {cc : ByteArray} {pc : Nat} {ls : Array Slot} {rest : List Value} {D : va_G} {cI cL cG cZ : ClassId} {ad : Nat → Nat} {M : Mem} (hx : p.tables.exec = Jvm.exec) (hb : c.code = cc) (hta : ∀ w ∈ ALLW, w.before args s = true) (hown : s.vm.findClass "LinkAuditModel" = some m.cls) (hK : va_K D vwC [(cI, .int), (cL, .long), (cG, .array .int), (cZ, .boolean)] s) (hP : va_P D vwC (r_ws cI cL cG cZ ad M) H) (hdg : decode cc pc = .ok (.getfield 62, 3))
    (kk : W p l e R s m args below meth c H locs cells slots Q (F0 m (pc + 3) ls (.ref (ad 18) :: rest))) : W p l e R s m args below meth c H locs cells slots Q (F0 m pc ls (.ref (ad 0) :: rest)) :=
  va_get (D := D) (ci := 10) (v := .ref (ad 18)) (C := "LinkAuditModel") (T := T_LinkAuditModel) (N := 31) hx hb hta i_LinkAuditModel hown hK hP 0 r_c0 rfl 20 (by decide) (hta _ wm_721) (fun _ h9 => h9) rfl hdg kk
theorem xg_LinkAuditModel_68 {p : Program} {l : Launch} {e : Env} {R : Room} {s : State} {m : MethodId} {args : Array Value} {below : List Frame} {meth : Method} {c : Code} {H : Heap} {locs : List Loc} {cells slots : Nat} {Q : State → Prop} {cc : ByteArray} {pc : Nat} {ls : Array Slot} {rest : List Value} {D : va_G} {cI cL cG cZ : ClassId} {ad : Nat → Nat} {M : Mem} (hx : p.tables.exec = Jvm.exec) (hb : c.code = cc) (hta : ∀ w ∈ ALLW, w.before args s = true) (hown : s.vm.findClass "LinkAuditModel" = some m.cls) (hK : va_K D vwC [(cI, .int), (cL, .long), (cG, .array .int), (cZ, .boolean)] s) (hP : va_P D vwC (r_ws cI cL cG cZ ad M) H) (hdg : decode cc pc = .ok (.getfield 68, 3))
    (kk : W p l e R s m args below meth c H locs cells slots Q (F0 m (pc + 3) ls (.ref (ad 20) :: rest))) : W p l e R s m args below meth c H locs cells slots Q (F0 m pc ls (.ref (ad 0) :: rest)) :=
  va_get (D := D) (ci := 10) (v := .ref (ad 20)) (C := "LinkAuditModel") (T := T_LinkAuditModel) (N := 31) hx hb hta i_LinkAuditModel hown hK hP 0 r_c0 rfl 22 (by decide) (hta _ wm_723) (fun _ h9 => h9) rfl hdg kk
theorem xg_LinkAuditModel_59 {p : Program} {l : Launch} {e : Env} {R : Room} {s : State} {m : MethodId} {args : Array Value} {below : List Frame} {meth : Method} {c : Code} {H : Heap} {locs : List Loc} {cells slots : Nat} {Q : State → Prop} {cc : ByteArray} {pc : Nat} {ls : Array Slot} {rest : List Value} {D : va_G} {cI cL cG cZ : ClassId} {ad : Nat → Nat} {M : Mem} (hx : p.tables.exec = Jvm.exec) (hb : c.code = cc) (hta : ∀ w ∈ ALLW, w.before args s = true) (hown : s.vm.findClass "LinkAuditModel" = some m.cls) (hK : va_K D vwC [(cI, .int), (cL, .long), (cG, .array .int), (cZ, .boolean)] s) (hP : va_P D vwC (r_ws cI cL cG cZ ad M) H) (hdg : decode cc pc = .ok (.getfield 59, 3))
    (kk : W p l e R s m args below meth c H locs cells slots Q (F0 m (pc + 3) ls (.ref (ad 17) :: rest))) : W p l e R s m args below meth c H locs cells slots Q (F0 m pc ls (.ref (ad 0) :: rest)) :=
  va_get (D := D) (ci := 10) (v := .ref (ad 17)) (C := "LinkAuditModel") (T := T_LinkAuditModel) (N := 31) hx hb hta i_LinkAuditModel hown hK hP 0 r_c0 rfl 19 (by decide) (hta _ wm_720) (fun _ h9 => h9) rfl hdg kk
theorem xg_LinkAuditModel_65 {p : Program} {l : Launch} {e : Env} {R : Room} {s : State} {m : MethodId} {args : Array Value} {below : List Frame} {meth : Method} {c : Code} {H : Heap} {locs : List Loc} {cells slots : Nat} {Q : State → Prop} {cc : ByteArray} {pc : Nat} {ls : Array Slot} {rest : List Value} {D : va_G} {cI cL cG cZ : ClassId} {ad : Nat → Nat} {M : Mem} (hx : p.tables.exec = Jvm.exec) (hb : c.code = cc) (hta : ∀ w ∈ ALLW, w.before args s = true) (hown : s.vm.findClass "LinkAuditModel" = some m.cls) (hK : va_K D vwC [(cI, .int), (cL, .long), (cG, .array .int), (cZ, .boolean)] s) (hP : va_P D vwC (r_ws cI cL cG cZ ad M) H) (hdg : decode cc pc = .ok (.getfield 65, 3))
    (kk : W p l e R s m args below meth c H locs cells slots Q (F0 m (pc + 3) ls (.ref (ad 19) :: rest))) : W p l e R s m args below meth c H locs cells slots Q (F0 m pc ls (.ref (ad 0) :: rest)) :=
  va_get (D := D) (ci := 10) (v := .ref (ad 19)) (C := "LinkAuditModel") (T := T_LinkAuditModel) (N := 31) hx hb hta i_LinkAuditModel hown hK hP 0 r_c0 rfl 21 (by decide) (hta _ wm_722) (fun _ h9 => h9) rfl hdg kk
theorem xg_LinkAuditModel_56 {p : Program} {l : Launch} {e : Env} {R : Room} {s : State} {m : MethodId} {args : Array Value} {below : List Frame} {meth : Method} {c : Code} {H : Heap} {locs : List Loc} {cells slots : Nat} {Q : State → Prop} {cc : ByteArray} {pc : Nat} {ls : Array Slot} {rest : List Value} {D : va_G} {cI cL cG cZ : ClassId} {ad : Nat → Nat} {M : Mem} (hx : p.tables.exec = Jvm.exec) (hb : c.code = cc) (hta : ∀ w ∈ ALLW, w.before args s = true) (hown : s.vm.findClass "LinkAuditModel" = some m.cls) (hK : va_K D vwC [(cI, .int), (cL, .long), (cG, .array .int), (cZ, .boolean)] s) (hP : va_P D vwC (r_ws cI cL cG cZ ad M) H) (hdg : decode cc pc = .ok (.getfield 56, 3))
    (kk : W p l e R s m args below meth c H locs cells slots Q (F0 m (pc + 3) ls (.ref (ad 16) :: rest))) : W p l e R s m args below meth c H locs cells slots Q (F0 m pc ls (.ref (ad 0) :: rest)) :=
  va_get (D := D) (ci := 10) (v := .ref (ad 16)) (C := "LinkAuditModel") (T := T_LinkAuditModel) (N := 31) hx hb hta i_LinkAuditModel hown hK hP 0 r_c0 rfl 18 (by decide) (hta _ wm_719) (fun _ h9 => h9) rfl hdg kk
set_option maxHeartbeats 4000000 in
set_option maxRecDepth 100000 in
theorem c_LinkAuditModel_prepare {l : Launch} {D : va_G} {cI cL cG cZ : ClassId} {ad : Nat → Nat} {M M' : Mem}  (hD : ∀ M, va_D (r_A ad) (r_ws cI cL cG cZ ad M)) (hf : f_LinkAuditModel_prepare M = some M') : Mv l y_LinkAuditModel_prepare (.code y_LinkAuditModel_prepare prog_12_method_18_code 5 none :: ALLW) (rmR 4 96) (Kk D cI cL cG cZ) D vwC (r_A ad) (r_ws cI cL cG cZ ad) [.ref (ad 0)] M M' := by
  refine Mv_of (by decide) (Nat.le_of_ble_eq_true rfl) ?_
  intro p e s m args below meth c ls Q X hkk hret hP hl
  obtain ⟨hx, hb, hml, hown, hta⟩ := id X
  have hKv := hkk.1
  have hS : va_S (r_A ad) s.heap s.heap [] := va_S.rf
  have hl : lv_has ls 5 [(0, .ref (ad 0))] := hl
  have L153 : ∀ (ke287 : Mem → Option Mem), ke287 = (fun M20 => some M20) → ∀ (n153 : Nat) (x1 : Int32) (M : Mem) (H : Heap) (locs : List Loc) (ls : Array Slot), f_LinkAuditModel_prepare_L153 ke287 n153 x1 M = some M' → va_P D vwC (r_ws cI cL cG cZ ad M) H → va_S (r_A ad) s.heap H locs → lv_has ls 5 [(0, .ref (ad 0)), (1, .int x1)] → W p l e (rmR 4 96) s m args below meth c H locs 0 0 Q (F0 m 153 ls []) := by
    intro ke287 hke287 n153
    induction n153 with
    | zero => intro x1 M H locs ls hf; exact absurd (show (none : Option _) = some _ from hf) (fun q => by cases q)
    | succ n153 ih153 =>
      intro x1 M H locs ls hf hP hS hl
      rw [f_LinkAuditModel_prepare_L153] at hf
      have L236 : ∀ (x1 : Int32) (x2 : Int32), ∀ (ke281 : Mem → Option Mem), ke281 = (fun M21 => f_LinkAuditModel_prepare_L153 ke287 n153 (x1 + (1 : Int32)) M21) → ∀ (n236 : Nat) (x4 : Int32) (M : Mem) (H : Heap) (locs : List Loc) (ls : Array Slot), f_LinkAuditModel_prepare_L236 x1 x2 ke281 n236 x4 M = some M' → va_P D vwC (r_ws cI cL cG cZ ad M) H → va_S (r_A ad) s.heap H locs → lv_has ls 5 [(0, .ref (ad 0)), (1, .int x1), (2, .int x2), (4, .int x4)] → W p l e (rmR 4 96) s m args below meth c H locs 0 0 Q (F0 m 236 ls []) := by
        intro x1 x2 ke281 hke281 n236
        induction n236 with
        | zero => intro x4 M H locs ls hf; exact absurd (show (none : Option _) = some _ from hf) (fun q => by cases q)
        | succ n236 ih236 =>
          intro x4 M H locs ls hf hP hS hl
          rw [f_LinkAuditModel_prepare_L236] at hf
          refine lv_iload hx hb d_LinkAuditModel_prepare_236 (lv_at hl 3 rfl) ?_
          refine lv_aload_n hx hb d_LinkAuditModel_prepare_238 rfl (lv_at hl 0 rfl) ?_
          refine xg_LinkAuditModel_96 hx hb hta hown hKv hP d_LinkAuditModel_prepare_239 ?_
          refine lv_icmp_gt (tgt := 281) hx hb d_LinkAuditModel_prepare_242 (by decide) (fun c1 => ?_) (fun c1 => ?_)
          · have hf := ifp c1 hf
            rw [hke281] at hf
            refine lv_iinc (v := (x1 + (1 : Int32))) (lv' := [(1, .int (x1 + (1 : Int32))), (0, .ref (ad 0)), (2, .int x2), (4, .int x4)]) hx hb d_LinkAuditModel_prepare_281 hl (k := 1) rfl rfl (by decide) rfl (fun ls hl => ?_)
            refine lv_goto (tgt := 153) hx hb d_LinkAuditModel_prepare_284 (by decide) ?_
            exact ih153 (x1 + (1 : Int32)) M _ _ _ hf hP hS (lv_sub hl [1, 0] rfl)
          · have hf := ifn c1 hf
            refine lv_aload_n hx hb d_LinkAuditModel_prepare_245 rfl (lv_at hl 0 rfl) ?_
            refine xg_LinkAuditModel_62 hx hb hta hown hKv hP d_LinkAuditModel_prepare_246 ?_
            refine lv_iload_n hx hb d_LinkAuditModel_prepare_249 rfl (lv_at hl 2 rfl) ?_
            obtain ⟨g2, hf⟩ := gd_ok hf
            refine x_ild hx hb hKv hP r_c18 g2 d_LinkAuditModel_prepare_250 ?_
            refine lv_iload hx hb d_LinkAuditModel_prepare_251 (lv_at hl 3 rfl) ?_
            refine lv_ishr hx hb d_LinkAuditModel_prepare_253 ?_
            refine lv_iconst (v := (1 : Int32)) hx hb d_LinkAuditModel_prepare_254 (by decide) ?_
            refine lv_iand hx hb d_LinkAuditModel_prepare_255 ?_
            refine lv_if_eq (tgt := 275) hx hb d_LinkAuditModel_prepare_256 (by decide) (fun c3 => ?_) (fun c3 => ?_)
            · have hf := ifp c3 hf
              refine lv_iinc (v := (x4 + (1 : Int32))) (lv' := [(4, .int (x4 + (1 : Int32))), (0, .ref (ad 0)), (1, .int x1), (2, .int x2)]) hx hb d_LinkAuditModel_prepare_275 hl (k := 3) rfl rfl (by decide) rfl (fun ls hl => ?_)
              refine lv_goto (tgt := 236) hx hb d_LinkAuditModel_prepare_278 (by decide) ?_
              exact ih236 (x4 + (1 : Int32)) M _ _ _ hf hP hS (lv_sub hl [1, 2, 3, 0] rfl)
            · have hf := ifn c3 hf
              refine lv_aload_n hx hb d_LinkAuditModel_prepare_259 rfl (lv_at hl 0 rfl) ?_
              refine xg_LinkAuditModel_68 hx hb hta hown hKv hP d_LinkAuditModel_prepare_260 ?_
              refine lv_iload_n hx hb d_LinkAuditModel_prepare_263 rfl (lv_at hl 2 rfl) ?_
              refine lv_dup2_11 hx hb d_LinkAuditModel_prepare_264 rfl rfl ?_
              obtain ⟨g4, hf⟩ := gd_ok hf
              refine x_ild hx hb hKv hP r_c20 g4 d_LinkAuditModel_prepare_265 ?_
              refine lv_aload_n hx hb d_LinkAuditModel_prepare_266 rfl (lv_at hl 0 rfl) ?_
              refine xg_LinkAuditModel_68 hx hb hta hown hKv hP d_LinkAuditModel_prepare_267 ?_
              refine lv_iload hx hb d_LinkAuditModel_prepare_270 (lv_at hl 3 rfl) ?_
              obtain ⟨g5, hf⟩ := gd_ok hf
              refine x_ild hx hb hKv hP r_c20 g5 d_LinkAuditModel_prepare_272 ?_
              refine lv_ior hx hb d_LinkAuditModel_prepare_273 ?_
              obtain ⟨g6, hf⟩ := gd_ok hf
              obtain ⟨M22, eM22, hf⟩ := sm_e hf
              refine x_ist hx hb hKv hP (hD _) hS r_c20 r_s20 g6 eM22 d_LinkAuditModel_prepare_274 (fun H locs hP hS => ?_)
              refine lv_iinc (v := (x4 + (1 : Int32))) (lv' := [(4, .int (x4 + (1 : Int32))), (0, .ref (ad 0)), (1, .int x1), (2, .int x2)]) hx hb d_LinkAuditModel_prepare_275 hl (k := 3) rfl rfl (by decide) rfl (fun ls hl => ?_)
              refine lv_goto (tgt := 236) hx hb d_LinkAuditModel_prepare_278 (by decide) ?_
              exact ih236 (x4 + (1 : Int32)) M22 _ _ _ hf hP hS (lv_sub hl [1, 2, 3, 0] rfl)
      have b218 : ∀ (M : Mem) (x1 : Int32) (x2 : Int32) (H : Heap) (locs : List Loc) (ls : Array Slot), f_LinkAuditModel_prepare_b218 M x1 x2 (f_LinkAuditModel_prepare_L153 ke287 n153) ke287 = some M' → va_P D vwC (r_ws cI cL cG cZ ad M) H → va_S (r_A ad) s.heap H locs → lv_has ls 5 [(0, .ref (ad 0)), (1, .int x1), (2, .int x2)] → W p l e (rmR 4 96) s m args below meth c H locs 0 0 Q (F0 m 218 ls []) := by
        intro M x1 x2 H locs ls hf hP hS hl
        unfold f_LinkAuditModel_prepare_b218 at hf
        refine lv_aload_n hx hb d_LinkAuditModel_prepare_218 rfl (lv_at hl 0 rfl) ?_
        refine xg_LinkAuditModel_68 hx hb hta hown hKv hP d_LinkAuditModel_prepare_219 ?_
        refine lv_iload_n hx hb d_LinkAuditModel_prepare_222 rfl (lv_at hl 2 rfl) ?_
        refine lv_dup2_11 hx hb d_LinkAuditModel_prepare_223 rfl rfl ?_
        obtain ⟨g7, hf⟩ := gd_ok hf
        refine x_ild hx hb hKv hP r_c20 g7 d_LinkAuditModel_prepare_224 ?_
        refine lv_aload_n hx hb d_LinkAuditModel_prepare_225 rfl (lv_at hl 0 rfl) ?_
        refine xg_LinkAuditModel_62 hx hb hta hown hKv hP d_LinkAuditModel_prepare_226 ?_
        refine lv_iload_n hx hb d_LinkAuditModel_prepare_229 rfl (lv_at hl 2 rfl) ?_
        obtain ⟨g8, hf⟩ := gd_ok hf
        refine x_ild hx hb hKv hP r_c18 g8 d_LinkAuditModel_prepare_230 ?_
        refine lv_ior hx hb d_LinkAuditModel_prepare_231 ?_
        obtain ⟨g9, hf⟩ := gd_ok hf
        obtain ⟨M23, eM23, hf⟩ := sm_e hf
        refine x_ist hx hb hKv hP (hD _) hS r_c20 r_s20 g9 eM23 d_LinkAuditModel_prepare_232 (fun H locs hP hS => ?_)
        refine lv_iconst (v := (1 : Int32)) hx hb d_LinkAuditModel_prepare_233 (by decide) ?_
        refine lv_istore (lv' := [(4, .int (1 : Int32)), (0, .ref (ad 0)), (1, .int x1), (2, .int x2)]) hx hb d_LinkAuditModel_prepare_234 hl (by decide) rfl (fun ls hl => ?_)
        exact L236 x1 x2 _ rfl FU (1 : Int32) M23 _ _ _ hf hP hS (lv_sub hl [1, 2, 3, 0] rfl)
      have b199 : ∀ (M : Mem) (x1 : Int32) (x2 : Int32) (x3 : Int32) (H : Heap) (locs : List Loc) (ls : Array Slot), f_LinkAuditModel_prepare_b199 M x1 x2 x3 (f_LinkAuditModel_prepare_L153 ke287 n153) ke287 = some M' → va_P D vwC (r_ws cI cL cG cZ ad M) H → va_S (r_A ad) s.heap H locs → lv_has ls 5 [(0, .ref (ad 0)), (1, .int x1), (2, .int x2), (3, .int x3)] → W p l e (rmR 4 96) s m args below meth c H locs 0 0 Q (F0 m 199 ls []) := by
        intro M x1 x2 x3 H locs ls hf hP hS hl
        unfold f_LinkAuditModel_prepare_b199 at hf
        refine lv_iload_n hx hb d_LinkAuditModel_prepare_199 rfl (lv_at hl 3 rfl) ?_
        refine lv_if_le (tgt := 218) hx hb d_LinkAuditModel_prepare_200 (by decide) (fun c10 => ?_) (fun c10 => ?_)
        · have hf := ifp c10 hf
          exact b218 M x1 x2 _ _ _ hf hP hS (lv_sub hl [0, 1, 2] rfl)
        · have hf := ifn c10 hf
          refine lv_aload_n hx hb d_LinkAuditModel_prepare_203 rfl (lv_at hl 0 rfl) ?_
          refine xg_LinkAuditModel_68 hx hb hta hown hKv hP d_LinkAuditModel_prepare_204 ?_
          refine lv_iload_n hx hb d_LinkAuditModel_prepare_207 rfl (lv_at hl 2 rfl) ?_
          refine lv_dup2_11 hx hb d_LinkAuditModel_prepare_208 rfl rfl ?_
          obtain ⟨g11, hf⟩ := gd_ok hf
          refine x_ild hx hb hKv hP r_c20 g11 d_LinkAuditModel_prepare_209 ?_
          refine lv_aload_n hx hb d_LinkAuditModel_prepare_210 rfl (lv_at hl 0 rfl) ?_
          refine xg_LinkAuditModel_68 hx hb hta hown hKv hP d_LinkAuditModel_prepare_211 ?_
          refine lv_iload_n hx hb d_LinkAuditModel_prepare_214 rfl (lv_at hl 3 rfl) ?_
          obtain ⟨g12, hf⟩ := gd_ok hf
          refine x_ild hx hb hKv hP r_c20 g12 d_LinkAuditModel_prepare_215 ?_
          refine lv_ior hx hb d_LinkAuditModel_prepare_216 ?_
          obtain ⟨g13, hf⟩ := gd_ok hf
          obtain ⟨M24, eM24, hf⟩ := sm_e hf
          refine x_ist hx hb hKv hP (hD _) hS r_c20 r_s20 g13 eM24 d_LinkAuditModel_prepare_217 (fun H locs hP hS => ?_)
          exact b218 M24 x1 x2 _ _ _ hf hP hS (lv_sub hl [0, 1, 2] rfl)
      refine lv_iload_n hx hb d_LinkAuditModel_prepare_153 rfl (lv_at hl 1 rfl) ?_
      refine lv_bipush (v := (16 : Int32)) hx hb d_LinkAuditModel_prepare_154 (by decide) ?_
      refine lv_aload_n hx hb d_LinkAuditModel_prepare_156 rfl (lv_at hl 0 rfl) ?_
      refine xg_LinkAuditModel_96 hx hb hta hown hKv hP d_LinkAuditModel_prepare_157 ?_
      refine lv_imul hx hb d_LinkAuditModel_prepare_160 ?_
      refine lv_icmp_ge (tgt := 287) hx hb d_LinkAuditModel_prepare_161 (by decide) (fun c14 => ?_) (fun c14 => ?_)
      · have hf := ifp c14 hf
        rw [hke287] at hf
        exact hret hf hP hS d_LinkAuditModel_prepare_287
      · have hf := ifn c14 hf
        refine lv_iconst (v := (1 : Int32)) hx hb d_LinkAuditModel_prepare_164 (by decide) ?_
        refine lv_iload_n hx hb d_LinkAuditModel_prepare_165 rfl (lv_at hl 1 rfl) ?_
        refine lv_aload_n hx hb d_LinkAuditModel_prepare_166 rfl (lv_at hl 0 rfl) ?_
        refine xg_LinkAuditModel_96 hx hb hta hown hKv hP d_LinkAuditModel_prepare_167 ?_
        obtain ⟨g15, hf⟩ := gd_d hf
        refine lv_irem hx hb d_LinkAuditModel_prepare_170 g15 ?_
        refine lv_iadd hx hb d_LinkAuditModel_prepare_171 ?_
        refine lv_istore_n (lv' := [(2, .int ((1 : Int32) + (x1 - x1 / (M.1 0 3) * (M.1 0 3)))), (0, .ref (ad 0)), (1, .int x1)]) hx hb d_LinkAuditModel_prepare_172 rfl hl (by decide) rfl (fun ls hl => ?_)
        refine lv_aload_n hx hb d_LinkAuditModel_prepare_173 rfl (lv_at hl 1 rfl) ?_
        refine xg_LinkAuditModel_59 hx hb hta hown hKv hP d_LinkAuditModel_prepare_174 ?_
        refine lv_iload_n hx hb d_LinkAuditModel_prepare_177 rfl (lv_at hl 0 rfl) ?_
        obtain ⟨g16, hf⟩ := gd_ok hf
        refine x_ild hx hb hKv hP r_c17 g16 d_LinkAuditModel_prepare_178 ?_
        refine lv_istore_n (lv' := [(3, .int (M.1 17 (((1 : Int32) + (x1 - x1 / (M.1 0 3) * (M.1 0 3)))).toNatClampNeg)), (2, .int ((1 : Int32) + (x1 - x1 / (M.1 0 3) * (M.1 0 3)))), (0, .ref (ad 0)), (1, .int x1)]) hx hb d_LinkAuditModel_prepare_179 rfl hl (by decide) rfl (fun ls hl => ?_)
        refine lv_iload_n hx hb d_LinkAuditModel_prepare_180 rfl (lv_at hl 0 rfl) ?_
        refine lv_if_le (tgt := 199) hx hb d_LinkAuditModel_prepare_181 (by decide) (fun c17 => ?_) (fun c17 => ?_)
        · have hf := ifp c17 hf
          exact b199 M x1 ((1 : Int32) + (x1 - x1 / (M.1 0 3) * (M.1 0 3))) (M.1 17 (((1 : Int32) + (x1 - x1 / (M.1 0 3) * (M.1 0 3)))).toNatClampNeg) _ _ _ hf hP hS (lv_sub hl [2, 3, 1, 0] rfl)
        · have hf := ifn c17 hf
          refine lv_aload_n hx hb d_LinkAuditModel_prepare_184 rfl (lv_at hl 2 rfl) ?_
          refine xg_LinkAuditModel_65 hx hb hta hown hKv hP d_LinkAuditModel_prepare_185 ?_
          refine lv_iload_n hx hb d_LinkAuditModel_prepare_188 rfl (lv_at hl 1 rfl) ?_
          refine lv_dup2_11 hx hb d_LinkAuditModel_prepare_189 rfl rfl ?_
          obtain ⟨g18, hf⟩ := gd_ok hf
          refine x_ild hx hb hKv hP r_c19 g18 d_LinkAuditModel_prepare_190 ?_
          refine lv_aload_n hx hb d_LinkAuditModel_prepare_191 rfl (lv_at hl 2 rfl) ?_
          refine xg_LinkAuditModel_65 hx hb hta hown hKv hP d_LinkAuditModel_prepare_192 ?_
          refine lv_iload_n hx hb d_LinkAuditModel_prepare_195 rfl (lv_at hl 0 rfl) ?_
          obtain ⟨g19, hf⟩ := gd_ok hf
          refine x_ild hx hb hKv hP r_c19 g19 d_LinkAuditModel_prepare_196 ?_
          refine lv_ior hx hb d_LinkAuditModel_prepare_197 ?_
          obtain ⟨g20, hf⟩ := gd_ok hf
          obtain ⟨M25, eM25, hf⟩ := sm_e hf
          refine x_ist hx hb hKv hP (hD _) hS r_c19 r_s19 g20 eM25 d_LinkAuditModel_prepare_198 (fun H locs hP hS => ?_)
          exact b199 M25 x1 ((1 : Int32) + (x1 - x1 / (M.1 0 3) * (M.1 0 3))) (M.1 17 (((1 : Int32) + (x1 - x1 / (M.1 0 3) * (M.1 0 3)))).toNatClampNeg) _ _ _ hf hP hS (lv_sub hl [2, 3, 1, 0] rfl)
  have L2 : ∀ (ke151 : Mem → Option Mem), ke151 = (fun M26 => f_LinkAuditModel_prepare_L153 (fun M27 => some M27) FU (0 : Int32) M26) → ∀ (n2 : Nat) (x1 : Int32) (M : Mem) (H : Heap) (locs : List Loc) (ls : Array Slot), f_LinkAuditModel_prepare_L2 ke151 n2 x1 M = some M' → va_P D vwC (r_ws cI cL cG cZ ad M) H → va_S (r_A ad) s.heap H locs → lv_has ls 5 [(0, .ref (ad 0)), (1, .int x1)] → W p l e (rmR 4 96) s m args below meth c H locs 0 0 Q (F0 m 2 ls []) := by
    intro ke151 hke151 n2
    induction n2 with
    | zero => intro x1 M H locs ls hf; exact absurd (show (none : Option _) = some _ from hf) (fun q => by cases q)
    | succ n2 ih2 =>
      intro x1 M H locs ls hf hP hS hl
      rw [f_LinkAuditModel_prepare_L2] at hf
      have L98 : ∀ (x1 : Int32), ∀ (ke145 : Mem → Option Mem), ke145 = (fun M28 => f_LinkAuditModel_prepare_L2 ke151 n2 (x1 + (1 : Int32)) M28) → ∀ (n98 : Nat) (x2 : Int32) (M : Mem) (H : Heap) (locs : List Loc) (ls : Array Slot), f_LinkAuditModel_prepare_L98 x1 ke145 n98 x2 M = some M' → va_P D vwC (r_ws cI cL cG cZ ad M) H → va_S (r_A ad) s.heap H locs → lv_has ls 5 [(0, .ref (ad 0)), (1, .int x1), (2, .int x2)] → W p l e (rmR 4 96) s m args below meth c H locs 0 0 Q (F0 m 98 ls []) := by
        intro x1 ke145 hke145 n98
        induction n98 with
        | zero => intro x2 M H locs ls hf; exact absurd (show (none : Option _) = some _ from hf) (fun q => by cases q)
        | succ n98 ih98 =>
          intro x2 M H locs ls hf hP hS hl
          rw [f_LinkAuditModel_prepare_L98] at hf
          refine lv_iload_n hx hb d_LinkAuditModel_prepare_98 rfl (lv_at hl 2 rfl) ?_
          refine lv_bipush (v := (12 : Int32)) hx hb d_LinkAuditModel_prepare_99 (by decide) ?_
          refine lv_icmp_ge (tgt := 145) hx hb d_LinkAuditModel_prepare_101 (by decide) (fun c21 => ?_) (fun c21 => ?_)
          · have hf := ifp c21 hf
            rw [hke145] at hf
            refine lv_iinc (v := (x1 + (1 : Int32))) (lv' := [(1, .int (x1 + (1 : Int32))), (0, .ref (ad 0)), (2, .int x2)]) hx hb d_LinkAuditModel_prepare_145 hl (k := 1) rfl rfl (by decide) rfl (fun ls hl => ?_)
            refine lv_goto (tgt := 2) hx hb d_LinkAuditModel_prepare_148 (by decide) ?_
            exact ih2 (x1 + (1 : Int32)) M _ _ _ hf hP hS (lv_sub hl [1, 0] rfl)
          · have hf := ifn c21 hf
            refine lv_aload_n hx hb d_LinkAuditModel_prepare_104 rfl (lv_at hl 0 rfl) ?_
            refine xg_LinkAuditModel_31 hx hb hta hown hKv hP d_LinkAuditModel_prepare_105 ?_
            refine lv_iload_n hx hb d_LinkAuditModel_prepare_108 rfl (lv_at hl 1 rfl) ?_
            obtain ⟨g22, hf⟩ := gd_ok hf
            refine x_ild hx hb hKv hP r_c8 g22 d_LinkAuditModel_prepare_109 ?_
            refine lv_iload_n hx hb d_LinkAuditModel_prepare_110 rfl (lv_at hl 2 rfl) ?_
            refine lv_ishr hx hb d_LinkAuditModel_prepare_111 ?_
            refine lv_iconst (v := (1 : Int32)) hx hb d_LinkAuditModel_prepare_112 (by decide) ?_
            refine lv_iand hx hb d_LinkAuditModel_prepare_113 ?_
            refine lv_if_eq (tgt := 139) hx hb d_LinkAuditModel_prepare_114 (by decide) (fun c23 => ?_) (fun c23 => ?_)
            · have hf := ifp c23 hf
              refine lv_iinc (v := (x2 + (1 : Int32))) (lv' := [(2, .int (x2 + (1 : Int32))), (0, .ref (ad 0)), (1, .int x1)]) hx hb d_LinkAuditModel_prepare_139 hl (k := 2) rfl rfl (by decide) rfl (fun ls hl => ?_)
              refine lv_goto (tgt := 98) hx hb d_LinkAuditModel_prepare_142 (by decide) ?_
              exact ih98 (x2 + (1 : Int32)) M _ _ _ hf hP hS (lv_sub hl [1, 2, 0] rfl)
            · have hf := ifn c23 hf
              refine lv_aload_n hx hb d_LinkAuditModel_prepare_117 rfl (lv_at hl 0 rfl) ?_
              refine xg_LinkAuditModel_62 hx hb hta hown hKv hP d_LinkAuditModel_prepare_118 ?_
              refine lv_iload_n hx hb d_LinkAuditModel_prepare_121 rfl (lv_at hl 1 rfl) ?_
              refine lv_dup2_11 hx hb d_LinkAuditModel_prepare_122 rfl rfl ?_
              obtain ⟨g24, hf⟩ := gd_ok hf
              refine x_ild hx hb hKv hP r_c18 g24 d_LinkAuditModel_prepare_123 ?_
              refine lv_iconst (v := (1 : Int32)) hx hb d_LinkAuditModel_prepare_124 (by decide) ?_
              refine lv_aload_n hx hb d_LinkAuditModel_prepare_125 rfl (lv_at hl 0 rfl) ?_
              refine lv_aload_n hx hb d_LinkAuditModel_prepare_126 rfl (lv_at hl 0 rfl) ?_
              refine xg_LinkAuditModel_19 hx hb hta hown hKv hP d_LinkAuditModel_prepare_127 ?_
              refine lv_iload_n hx hb d_LinkAuditModel_prepare_130 rfl (lv_at hl 1 rfl) ?_
              obtain ⟨g25, hf⟩ := gd_ok hf
              refine x_ild hx hb hKv hP r_c4 g25 d_LinkAuditModel_prepare_131 ?_
              refine lv_iload_n hx hb d_LinkAuditModel_prepare_132 rfl (lv_at hl 2 rfl) ?_
              obtain ⟨r29, hc26, hf⟩ := bd1_e hf
              refine xvr_LinkAuditModel_132 X hkk hD (Nat.le_of_ble_eq_true rfl) ⟨by dsimp only [rmR]; omega, by dsimp only [rmR]; omega⟩ ⟨Nat.zero_le _, Nat.zero_le _⟩ hc26 hl.1 hP hS d_LinkAuditModel_prepare_133 (fun H locs hP hS => ?_)
              refine lv_ishl hx hb d_LinkAuditModel_prepare_136 ?_
              refine lv_ior hx hb d_LinkAuditModel_prepare_137 ?_
              obtain ⟨g27, hf⟩ := gd_ok hf
              obtain ⟨M30, eM30, hf⟩ := sm_e hf
              refine x_ist hx hb hKv hP (hD _) hS r_c18 r_s18 g27 eM30 d_LinkAuditModel_prepare_138 (fun H locs hP hS => ?_)
              refine lv_iinc (v := (x2 + (1 : Int32))) (lv' := [(2, .int (x2 + (1 : Int32))), (0, .ref (ad 0)), (1, .int x1)]) hx hb d_LinkAuditModel_prepare_139 hl (k := 2) rfl rfl (by decide) rfl (fun ls hl => ?_)
              refine lv_goto (tgt := 98) hx hb d_LinkAuditModel_prepare_142 (by decide) ?_
              exact ih98 (x2 + (1 : Int32)) M30 _ _ _ hf hP hS (lv_sub hl [1, 2, 0] rfl)
      have b96 : ∀ (M : Mem) (x1 : Int32) (H : Heap) (locs : List Loc) (ls : Array Slot), f_LinkAuditModel_prepare_b96 M x1 (f_LinkAuditModel_prepare_L2 ke151 n2) ke151 = some M' → va_P D vwC (r_ws cI cL cG cZ ad M) H → va_S (r_A ad) s.heap H locs → lv_has ls 5 [(0, .ref (ad 0)), (1, .int x1)] → W p l e (rmR 4 96) s m args below meth c H locs 0 0 Q (F0 m 96 ls []) := by
        intro M x1 H locs ls hf hP hS hl
        unfold f_LinkAuditModel_prepare_b96 at hf
        refine lv_iconst (v := (0 : Int32)) hx hb d_LinkAuditModel_prepare_96 (by decide) ?_
        refine lv_istore_n (lv' := [(2, .int (0 : Int32)), (0, .ref (ad 0)), (1, .int x1)]) hx hb d_LinkAuditModel_prepare_97 rfl hl (by decide) rfl (fun ls hl => ?_)
        exact L98 x1 _ rfl FU (0 : Int32) M _ _ _ hf hP hS (lv_sub hl [1, 2, 0] rfl)
      refine lv_iload_n hx hb d_LinkAuditModel_prepare_2 rfl (lv_at hl 1 rfl) ?_
      refine lv_aload_n hx hb d_LinkAuditModel_prepare_3 rfl (lv_at hl 0 rfl) ?_
      refine xg_LinkAuditModel_96 hx hb hta hown hKv hP d_LinkAuditModel_prepare_4 ?_
      refine lv_icmp_gt (tgt := 151) hx hb d_LinkAuditModel_prepare_7 (by decide) (fun c28 => ?_) (fun c28 => ?_)
      · have hf := ifp c28 hf
        rw [hke151] at hf
        refine lv_iconst (v := (0 : Int32)) hx hb d_LinkAuditModel_prepare_151 (by decide) ?_
        refine lv_istore_n (lv' := [(1, .int (0 : Int32)), (0, .ref (ad 0))]) hx hb d_LinkAuditModel_prepare_152 rfl hl (by decide) rfl (fun ls hl => ?_)
        exact L153  _ rfl FU (0 : Int32) M _ _ _ hf hP hS (lv_sub hl [1, 0] rfl)
      · have hf := ifn c28 hf
        refine lv_aload_n hx hb d_LinkAuditModel_prepare_10 rfl (lv_at hl 0 rfl) ?_
        refine xg_LinkAuditModel_56 hx hb hta hown hKv hP d_LinkAuditModel_prepare_11 ?_
        refine lv_iload_n hx hb d_LinkAuditModel_prepare_14 rfl (lv_at hl 1 rfl) ?_
        refine lv_aload_n hx hb d_LinkAuditModel_prepare_15 rfl (lv_at hl 0 rfl) ?_
        refine lv_iload_n hx hb d_LinkAuditModel_prepare_16 rfl (lv_at hl 1 rfl) ?_
        obtain ⟨r32, M31, hc29, hf⟩ := bd2_e hf
        refine xvr_LinkAuditModel_135 X hkk hD (Nat.le_of_ble_eq_true rfl) ⟨by dsimp only [rmR]; omega, by dsimp only [rmR]; omega⟩ ⟨Nat.zero_le _, Nat.zero_le _⟩ hc29 hl.1 hP hS d_LinkAuditModel_prepare_17 (fun H locs hP hS => ?_)
        obtain ⟨g30, hf⟩ := gd_ok hf
        obtain ⟨M33, eM33, hf⟩ := sm_e hf
        refine x_ist hx hb hKv hP (hD _) hS r_c16 r_s16 g30 eM33 d_LinkAuditModel_prepare_20 (fun H locs hP hS => ?_)
        refine lv_aload_n hx hb d_LinkAuditModel_prepare_21 rfl (lv_at hl 0 rfl) ?_
        refine xg_LinkAuditModel_59 hx hb hta hown hKv hP d_LinkAuditModel_prepare_22 ?_
        refine lv_iload_n hx hb d_LinkAuditModel_prepare_25 rfl (lv_at hl 1 rfl) ?_
        refine lv_iconst (v := (0 : Int32)) hx hb d_LinkAuditModel_prepare_26 (by decide) ?_
        obtain ⟨g31, hf⟩ := gd_ok hf
        obtain ⟨M34, eM34, hf⟩ := sm_e hf
        refine x_ist hx hb hKv hP (hD _) hS r_c17 r_s17 g31 eM34 d_LinkAuditModel_prepare_27 (fun H locs hP hS => ?_)
        refine lv_aload_n hx hb d_LinkAuditModel_prepare_28 rfl (lv_at hl 0 rfl) ?_
        refine xg_LinkAuditModel_62 hx hb hta hown hKv hP d_LinkAuditModel_prepare_29 ?_
        refine lv_iload_n hx hb d_LinkAuditModel_prepare_32 rfl (lv_at hl 1 rfl) ?_
        refine lv_iconst (v := (0 : Int32)) hx hb d_LinkAuditModel_prepare_33 (by decide) ?_
        obtain ⟨g32, hf⟩ := gd_ok hf
        obtain ⟨M35, eM35, hf⟩ := sm_e hf
        refine x_ist hx hb hKv hP (hD _) hS r_c18 r_s18 g32 eM35 d_LinkAuditModel_prepare_34 (fun H locs hP hS => ?_)
        refine lv_aload_n hx hb d_LinkAuditModel_prepare_35 rfl (lv_at hl 0 rfl) ?_
        refine xg_LinkAuditModel_65 hx hb hta hown hKv hP d_LinkAuditModel_prepare_36 ?_
        refine lv_iload_n hx hb d_LinkAuditModel_prepare_39 rfl (lv_at hl 1 rfl) ?_
        refine lv_iconst (v := (1 : Int32)) hx hb d_LinkAuditModel_prepare_40 (by decide) ?_
        refine lv_iload_n hx hb d_LinkAuditModel_prepare_41 rfl (lv_at hl 1 rfl) ?_
        refine lv_ishl hx hb d_LinkAuditModel_prepare_42 ?_
        obtain ⟨g33, hf⟩ := gd_ok hf
        obtain ⟨M36, eM36, hf⟩ := sm_e hf
        refine x_ist hx hb hKv hP (hD _) hS r_c19 r_s19 g33 eM36 d_LinkAuditModel_prepare_43 (fun H locs hP hS => ?_)
        refine lv_aload_n hx hb d_LinkAuditModel_prepare_44 rfl (lv_at hl 0 rfl) ?_
        refine xg_LinkAuditModel_68 hx hb hta hown hKv hP d_LinkAuditModel_prepare_45 ?_
        refine lv_iload_n hx hb d_LinkAuditModel_prepare_48 rfl (lv_at hl 1 rfl) ?_
        refine lv_iconst (v := (0 : Int32)) hx hb d_LinkAuditModel_prepare_49 (by decide) ?_
        obtain ⟨g34, hf⟩ := gd_ok hf
        obtain ⟨M37, eM37, hf⟩ := sm_e hf
        refine x_ist hx hb hKv hP (hD _) hS r_c20 r_s20 g34 eM37 d_LinkAuditModel_prepare_50 (fun H locs hP hS => ?_)
        refine lv_aload_n hx hb d_LinkAuditModel_prepare_51 rfl (lv_at hl 0 rfl) ?_
        refine xg_LinkAuditModel_56 hx hb hta hown hKv hP d_LinkAuditModel_prepare_52 ?_
        refine lv_iload_n hx hb d_LinkAuditModel_prepare_55 rfl (lv_at hl 1 rfl) ?_
        obtain ⟨g35, hf⟩ := gd_ok hf
        refine x_ild hx hb hKv hP r_c16 g35 d_LinkAuditModel_prepare_56 ?_
        refine lv_if_eq (tgt := 63) hx hb d_LinkAuditModel_prepare_57 (by decide) (fun c36 => ?_) (fun c36 => ?_)
        · have hf := ifp c36 hf
          refine lv_aload_n hx hb d_LinkAuditModel_prepare_63 rfl (lv_at hl 0 rfl) ?_
          refine xg_LinkAuditModel_28 hx hb hta hown hKv hP d_LinkAuditModel_prepare_64 ?_
          refine lv_iload_n hx hb d_LinkAuditModel_prepare_67 rfl (lv_at hl 1 rfl) ?_
          obtain ⟨g37, hf⟩ := gd_ok hf
          refine x_ild hx hb hKv hP r_c7 g37 d_LinkAuditModel_prepare_68 ?_
          refine lv_bipush (v := (12 : Int32)) hx hb d_LinkAuditModel_prepare_69 (by decide) ?_
          refine lv_icmp_ge (tgt := 96) hx hb d_LinkAuditModel_prepare_71 (by decide) (fun c38 => ?_) (fun c38 => ?_)
          · have hf := ifp c38 hf
            exact b96 M37 x1 _ _ _ hf hP hS (lv_sub hl [0, 1] rfl)
          · have hf := ifn c38 hf
            refine lv_aload_n hx hb d_LinkAuditModel_prepare_74 rfl (lv_at hl 0 rfl) ?_
            refine xg_LinkAuditModel_59 hx hb hta hown hKv hP d_LinkAuditModel_prepare_75 ?_
            refine lv_iload_n hx hb d_LinkAuditModel_prepare_78 rfl (lv_at hl 1 rfl) ?_
            refine lv_aload_n hx hb d_LinkAuditModel_prepare_79 rfl (lv_at hl 0 rfl) ?_
            refine lv_aload_n hx hb d_LinkAuditModel_prepare_80 rfl (lv_at hl 0 rfl) ?_
            refine xg_LinkAuditModel_19 hx hb hta hown hKv hP d_LinkAuditModel_prepare_81 ?_
            refine lv_iload_n hx hb d_LinkAuditModel_prepare_84 rfl (lv_at hl 1 rfl) ?_
            obtain ⟨g39, hf⟩ := gd_ok hf
            refine x_ild hx hb hKv hP r_c4 g39 d_LinkAuditModel_prepare_85 ?_
            refine lv_aload_n hx hb d_LinkAuditModel_prepare_86 rfl (lv_at hl 0 rfl) ?_
            refine xg_LinkAuditModel_28 hx hb hta hown hKv hP d_LinkAuditModel_prepare_87 ?_
            refine lv_iload_n hx hb d_LinkAuditModel_prepare_90 rfl (lv_at hl 1 rfl) ?_
            obtain ⟨g40, hf⟩ := gd_ok hf
            refine x_ild hx hb hKv hP r_c7 g40 d_LinkAuditModel_prepare_91 ?_
            obtain ⟨r38, hc41, hf⟩ := bd1_e hf
            refine xvr_LinkAuditModel_132 X hkk hD (Nat.le_of_ble_eq_true rfl) ⟨by dsimp only [rmR]; omega, by dsimp only [rmR]; omega⟩ ⟨Nat.zero_le _, Nat.zero_le _⟩ hc41 hl.1 hP hS d_LinkAuditModel_prepare_92 (fun H locs hP hS => ?_)
            obtain ⟨g42, hf⟩ := gd_ok hf
            obtain ⟨M39, eM39, hf⟩ := sm_e hf
            refine x_ist hx hb hKv hP (hD _) hS r_c17 r_s17 g42 eM39 d_LinkAuditModel_prepare_95 (fun H locs hP hS => ?_)
            exact b96 M39 x1 _ _ _ hf hP hS (lv_sub hl [0, 1] rfl)
        · have hf := ifn c36 hf
          refine lv_goto (tgt := 145) hx hb d_LinkAuditModel_prepare_60 (by decide) ?_
          refine lv_iinc (v := (x1 + (1 : Int32))) (lv' := [(1, .int (x1 + (1 : Int32))), (0, .ref (ad 0))]) hx hb d_LinkAuditModel_prepare_145 hl (k := 1) rfl rfl (by decide) rfl (fun ls hl => ?_)
          refine lv_goto (tgt := 2) hx hb d_LinkAuditModel_prepare_148 (by decide) ?_
          exact ih2 (x1 + (1 : Int32)) M37 _ _ _ hf hP hS (lv_sub hl [1, 0] rfl)
  unfold f_LinkAuditModel_prepare at hf
  refine lv_iconst (v := (1 : Int32)) hx hb d_LinkAuditModel_prepare_0 (by decide) ?_
  refine lv_istore_n (lv' := [(1, .int (1 : Int32)), (0, .ref (ad 0))]) hx hb d_LinkAuditModel_prepare_1 rfl hl (by decide) rfl (fun ls hl => ?_)
  exact L2  _ rfl FU (1 : Int32) M _ _ _ hf hP hS (lv_sub hl [1, 0] rfl)
-- LinkAuditModel.ownMember
set_option maxHeartbeats 4000000 in
set_option maxRecDepth 100000 in
theorem c_LinkAuditModel_ownMember {l : Launch} {D : va_G} {cI cL cG cZ : ClassId} {ad : Nat → Nat} {M : Mem} {a1 : Int32} {a2 : Int32} {a3 : Int32} {a4 : Int32} {a5 : Int32} {r : Int32} (hD : ∀ M, va_D (r_A ad) (r_ws cI cL cG cZ ad M)) (hf : f_LinkAuditModel_ownMember M a1 a2 a3 a4 a5 = some r) : Mi l y_LinkAuditModel_ownMember (.code y_LinkAuditModel_ownMember prog_12_method_22_code 7 (some .int) :: ALLW) (rmR 0 0) (Kk D cI cL cG cZ) D vwC (r_A ad) (r_ws cI cL cG cZ ad) [.ref (ad 0), .int a1, .int a2, .int a3, .int a4, .int a5] M M r := by
  refine Mi_ofR (by decide) (Nat.le_of_ble_eq_true rfl) ?_
  intro p e s m args below meth c ls Q X hkk hret hP hl
  obtain ⟨hx, hb, hml, hown, hta⟩ := id X
  have hKv := hkk.1
  have hS : va_S (r_A ad) s.heap s.heap [] := va_S.rf
  have hl : lv_has ls 7 [(0, .ref (ad 0)), (1, .int a1), (2, .int a2), (3, .int a3), (4, .int a4), (5, .int a5)] := hl
  have L3 : ∀ (x1 : Int32) (x2 : Int32) (x3 : Int32) (x4 : Int32) (x5 : Int32), ∀ (ke69 : Int32 → Option Int32), ke69 = (fun y6 => some (y6)) → ∀ (ke78 : Option Int32), ke78 = (some ((0 : Int32))) → ∀ (n3 : Nat) (x6 : Int32) (H : Heap) (locs : List Loc) (ls : Array Slot), f_LinkAuditModel_ownMember_L3 M x1 x2 x3 x4 x5 ke69 ke78 n3 x6 = some r → va_P D vwC (r_ws cI cL cG cZ ad M) H → va_S (r_A ad) s.heap H locs → lv_has ls 7 [(0, .ref (ad 0)), (1, .int x1), (2, .int x2), (3, .int x3), (4, .int x4), (5, .int x5), (6, .int x6)] → W p l e (rmR 0 0) s m args below meth c H locs 0 0 Q (F0 m 3 ls []) := by
    intro x1 x2 x3 x4 x5 ke69 hke69 ke78 hke78 n3
    induction n3 with
    | zero => intro x6 H locs ls hf; exact absurd (show (none : Option _) = some _ from hf) (fun q => by cases q)
    | succ n3 ih3 =>
      intro x6 H locs ls hf hP hS hl
      rw [f_LinkAuditModel_ownMember_L3] at hf
      refine lv_iload hx hb d_LinkAuditModel_ownMember_3 (lv_at hl 6 rfl) ?_
      refine lv_aload_n hx hb d_LinkAuditModel_ownMember_5 rfl (lv_at hl 0 rfl) ?_
      refine xg_LinkAuditModel_104 hx hb hta hown hKv hP d_LinkAuditModel_ownMember_6 ?_
      refine lv_icmp_gt (tgt := 78) hx hb d_LinkAuditModel_ownMember_9 (by decide) (fun c1 => ?_) (fun c1 => ?_)
      · have hf := ifp c1 hf
        rw [hke78] at hf
        refine lv_iconst (v := (0 : Int32)) hx hb d_LinkAuditModel_ownMember_78 (by decide) ?_
        exact hret hf hP hS d_LinkAuditModel_ownMember_79
      · have hf := ifn c1 hf
        refine lv_aload_n hx hb d_LinkAuditModel_ownMember_12 rfl (lv_at hl 0 rfl) ?_
        refine xg_LinkAuditModel_34 hx hb hta hown hKv hP d_LinkAuditModel_ownMember_13 ?_
        refine lv_iload hx hb d_LinkAuditModel_ownMember_16 (lv_at hl 6 rfl) ?_
        obtain ⟨g2, hf⟩ := gd_ok hf
        refine x_ild hx hb hKv hP r_c9 g2 d_LinkAuditModel_ownMember_18 ?_
        refine lv_iload_n hx hb d_LinkAuditModel_ownMember_19 rfl (lv_at hl 1 rfl) ?_
        refine lv_icmp_ne (tgt := 72) hx hb d_LinkAuditModel_ownMember_20 (by decide) (fun c3 => ?_) (fun c3 => ?_)
        · have hf := ifn c3 hf
          refine lv_iinc (v := (x6 + (1 : Int32))) (lv' := [(6, .int (x6 + (1 : Int32))), (0, .ref (ad 0)), (1, .int x1), (2, .int x2), (3, .int x3), (4, .int x4), (5, .int x5)]) hx hb d_LinkAuditModel_ownMember_72 hl (k := 6) rfl rfl (by decide) rfl (fun ls hl => ?_)
          refine lv_goto (tgt := 3) hx hb d_LinkAuditModel_ownMember_75 (by decide) ?_
          exact ih3 (x6 + (1 : Int32)) _ _ _ hf hP hS (lv_sub hl [1, 2, 3, 4, 5, 6, 0] rfl)
        · have hf := ifp c3 hf
          refine lv_aload_n hx hb d_LinkAuditModel_ownMember_23 rfl (lv_at hl 0 rfl) ?_
          refine xg_LinkAuditModel_37 hx hb hta hown hKv hP d_LinkAuditModel_ownMember_24 ?_
          refine lv_iload hx hb d_LinkAuditModel_ownMember_27 (lv_at hl 6 rfl) ?_
          obtain ⟨g4, hf⟩ := gd_ok hf
          refine x_zld hx hb hKv hP r_c10 g4 d_LinkAuditModel_ownMember_29 ?_
          refine lv_iload_n hx hb d_LinkAuditModel_ownMember_30 rfl (lv_at hl 2 rfl) ?_
          refine lv_icmp_ne (tgt := 72) hx hb d_LinkAuditModel_ownMember_31 (by decide) (fun c5 => ?_) (fun c5 => ?_)
          · have hf := ifn c5 hf
            refine lv_iinc (v := (x6 + (1 : Int32))) (lv' := [(6, .int (x6 + (1 : Int32))), (0, .ref (ad 0)), (1, .int x1), (2, .int x2), (3, .int x3), (4, .int x4), (5, .int x5)]) hx hb d_LinkAuditModel_ownMember_72 hl (k := 6) rfl rfl (by decide) rfl (fun ls hl => ?_)
            refine lv_goto (tgt := 3) hx hb d_LinkAuditModel_ownMember_75 (by decide) ?_
            exact ih3 (x6 + (1 : Int32)) _ _ _ hf hP hS (lv_sub hl [1, 2, 3, 4, 5, 6, 0] rfl)
          · have hf := ifp c5 hf
            refine lv_aload_n hx hb d_LinkAuditModel_ownMember_34 rfl (lv_at hl 0 rfl) ?_
            refine xg_LinkAuditModel_41 hx hb hta hown hKv hP d_LinkAuditModel_ownMember_35 ?_
            refine lv_iload hx hb d_LinkAuditModel_ownMember_38 (lv_at hl 6 rfl) ?_
            obtain ⟨g6, hf⟩ := gd_ok hf
            refine x_ild hx hb hKv hP r_c11 g6 d_LinkAuditModel_ownMember_40 ?_
            refine lv_iload_n hx hb d_LinkAuditModel_ownMember_41 rfl (lv_at hl 3 rfl) ?_
            refine lv_icmp_ne (tgt := 72) hx hb d_LinkAuditModel_ownMember_42 (by decide) (fun c7 => ?_) (fun c7 => ?_)
            · have hf := ifn c7 hf
              refine lv_iinc (v := (x6 + (1 : Int32))) (lv' := [(6, .int (x6 + (1 : Int32))), (0, .ref (ad 0)), (1, .int x1), (2, .int x2), (3, .int x3), (4, .int x4), (5, .int x5)]) hx hb d_LinkAuditModel_ownMember_72 hl (k := 6) rfl rfl (by decide) rfl (fun ls hl => ?_)
              refine lv_goto (tgt := 3) hx hb d_LinkAuditModel_ownMember_75 (by decide) ?_
              exact ih3 (x6 + (1 : Int32)) _ _ _ hf hP hS (lv_sub hl [1, 2, 3, 4, 5, 6, 0] rfl)
            · have hf := ifp c7 hf
              refine lv_aload_n hx hb d_LinkAuditModel_ownMember_45 rfl (lv_at hl 0 rfl) ?_
              refine xg_LinkAuditModel_44 hx hb hta hown hKv hP d_LinkAuditModel_ownMember_46 ?_
              refine lv_iload hx hb d_LinkAuditModel_ownMember_49 (lv_at hl 6 rfl) ?_
              obtain ⟨g8, hf⟩ := gd_ok hf
              refine x_ild hx hb hKv hP r_c12 g8 d_LinkAuditModel_ownMember_51 ?_
              refine lv_iload hx hb d_LinkAuditModel_ownMember_52 (lv_at hl 4 rfl) ?_
              refine lv_icmp_ne (tgt := 72) hx hb d_LinkAuditModel_ownMember_54 (by decide) (fun c9 => ?_) (fun c9 => ?_)
              · have hf := ifn c9 hf
                refine lv_iinc (v := (x6 + (1 : Int32))) (lv' := [(6, .int (x6 + (1 : Int32))), (0, .ref (ad 0)), (1, .int x1), (2, .int x2), (3, .int x3), (4, .int x4), (5, .int x5)]) hx hb d_LinkAuditModel_ownMember_72 hl (k := 6) rfl rfl (by decide) rfl (fun ls hl => ?_)
                refine lv_goto (tgt := 3) hx hb d_LinkAuditModel_ownMember_75 (by decide) ?_
                exact ih3 (x6 + (1 : Int32)) _ _ _ hf hP hS (lv_sub hl [1, 2, 3, 4, 5, 6, 0] rfl)
              · have hf := ifp c9 hf
                refine lv_aload_n hx hb d_LinkAuditModel_ownMember_57 rfl (lv_at hl 0 rfl) ?_
                refine xg_LinkAuditModel_47 hx hb hta hown hKv hP d_LinkAuditModel_ownMember_58 ?_
                refine lv_iload hx hb d_LinkAuditModel_ownMember_61 (lv_at hl 6 rfl) ?_
                obtain ⟨g10, hf⟩ := gd_ok hf
                refine x_ild hx hb hKv hP r_c13 g10 d_LinkAuditModel_ownMember_63 ?_
                refine lv_iload hx hb d_LinkAuditModel_ownMember_64 (lv_at hl 5 rfl) ?_
                refine lv_icmp_ne (tgt := 72) hx hb d_LinkAuditModel_ownMember_66 (by decide) (fun c11 => ?_) (fun c11 => ?_)
                · have hf := ifn c11 hf
                  refine lv_iinc (v := (x6 + (1 : Int32))) (lv' := [(6, .int (x6 + (1 : Int32))), (0, .ref (ad 0)), (1, .int x1), (2, .int x2), (3, .int x3), (4, .int x4), (5, .int x5)]) hx hb d_LinkAuditModel_ownMember_72 hl (k := 6) rfl rfl (by decide) rfl (fun ls hl => ?_)
                  refine lv_goto (tgt := 3) hx hb d_LinkAuditModel_ownMember_75 (by decide) ?_
                  exact ih3 (x6 + (1 : Int32)) _ _ _ hf hP hS (lv_sub hl [1, 2, 3, 4, 5, 6, 0] rfl)
                · have hf := ifp c11 hf
                  rw [hke69] at hf
                  refine lv_iload hx hb d_LinkAuditModel_ownMember_69 (lv_at hl 6 rfl) ?_
                  exact hret hf hP hS d_LinkAuditModel_ownMember_71
  unfold f_LinkAuditModel_ownMember at hf
  refine lv_iconst (v := (1 : Int32)) hx hb d_LinkAuditModel_ownMember_0 (by decide) ?_
  refine lv_istore (lv' := [(6, .int (1 : Int32)), (0, .ref (ad 0)), (1, .int a1), (2, .int a2), (3, .int a3), (4, .int a4), (5, .int a5)]) hx hb d_LinkAuditModel_ownMember_1 hl (by decide) rfl (fun ls hl => ?_)
  exact L3 a1 a2 a3 a4 a5 _ rfl _ rfl FU (1 : Int32) _ _ _ hf hP hS (lv_sub hl [1, 2, 3, 4, 5, 6, 0] rfl)
-- LinkAuditModel.findField
theorem xg_LinkAuditModel_77 {p : Program} {l : Launch} {e : Env} {R : Room} {s : State} {m : MethodId} {args : Array Value} {below : List Frame} {meth : Method} {c : Code} {H : Heap} {locs : List Loc} {cells slots : Nat} {Q : State → Prop} {cc : ByteArray} {pc : Nat} {ls : Array Slot} {rest : List Value} {D : va_G} {cI cL cG cZ : ClassId} {ad : Nat → Nat} {M : Mem} (hx : p.tables.exec = Jvm.exec) (hb : c.code = cc) (hta : ∀ w ∈ ALLW, w.before args s = true) (hown : s.vm.findClass "LinkAuditModel" = some m.cls) (hK : va_K D vwC [(cI, .int), (cL, .long), (cG, .array .int), (cZ, .boolean)] s) (hP : va_P D vwC (r_ws cI cL cG cZ ad M) H) (hdg : decode cc pc = .ok (.getfield 77, 3))
    (kk : W p l e R s m args below meth c H locs cells slots Q (F0 m (pc + 3) ls (.ref (ad 23) :: rest))) : W p l e R s m args below meth c H locs cells slots Q (F0 m pc ls (.ref (ad 0) :: rest)) :=
  va_get (D := D) (ci := 10) (v := .ref (ad 23)) (C := "LinkAuditModel") (T := T_LinkAuditModel) (N := 31) hx hb hta i_LinkAuditModel hown hK hP 0 r_c0 rfl 25 (by decide) (hta _ wm_726) (fun _ h9 => h9) rfl hdg kk
theorem xvr_LinkAuditModel_142 {p : Program} {l : Launch} {e : Env} {R : Room} {s : State} {m : MethodId} {args : Array Value} {below : List Frame} {meth : Method} {c : Code} {H : Heap} {locs : List Loc} {cells slots : Nat} {Q : State → Prop} {cc : ByteArray} {pc : Nat} {ls : Array Slot} {rest : List Value} {D : va_G} {cI cL cG cZ : ClassId} {ad : Nat → Nat} {M : Mem} {H0 : Heap} {nL : Nat} {a0 : Int32} {a1 : Int32} {a2 : Int32} {a3 : Int32} {a4 : Int32} {r : Int32} (X : CallFix p m c cc nL s args ALLW "LinkAuditModel") (hkk : Kk D cI cL cG cZ s) (hD : ∀ M, va_D (r_A ad) (r_ws cI cL cG cZ ad M)) (hrest : (rest.map fun v => v.category).sum ≤ 8) (hR : 0 + 1 ≤ R.frames ∧ 8 + (7 + 11) + 0 ≤ R.locals) (hcs : cells + 0 ≤ R.cells ∧ slots + 0 ≤ R.slots) (hc : f_LinkAuditModel_ownMember M a0 a1 a2 a3 a4 = some r) (hsz : ls.size = nL) (hP : va_P D vwC (r_ws cI cL cG cZ ad M) H) (hS : va_S (r_A ad) H0 H locs) (hdg : decode cc pc = .ok (.invokevirtual 142, 3))
    (kk : ∀ (H1 : Heap) (locs1 : List Loc), va_P D vwC (r_ws cI cL cG cZ ad M) H1 → va_S (r_A ad) H0 H1 locs1 → W p l e R s m args below meth c H1 locs1 cells slots Q (F0 m (pc + 3) ls (.int r :: rest))) : W p l e R s m args below meth c H locs cells slots Q (F0 m pc ls (.int a4 :: .int a3 :: .int a2 :: .int a1 :: .int a0 :: .ref (ad 0) :: rest)) := by
  have hta := X.2.2.2.2
  exact x_afterI (va_runV (As := [.int a0, .int a1, .int a2, .int a3, .int a4]) (rest := rest) X (c_LinkAuditModel_ownMember hD hc) ⟨callB_of 5 hta (good_all (L := .code y_LinkAuditModel_ownMember prog_12_method_22_code 7 (some .int) :: ALLW) (List.forall_mem_cons.mpr ⟨wm_886, fun _ h => h⟩)) rfl rfl rfl (hta _ wm_11) (hta _ wm_883) (by decide +kernel) hR, hta _ wm_885, hta _ wp_35⟩ ⟨x_blind Kk_w _, va_recv hkk.1 hP (ci := 10) (q0 := 0) rfl r_c0, x_pre Kk_w hkk hP _⟩ rfl rfl hsz rfl (lv_room hrest) hdg hcs) hS kk
set_option maxHeartbeats 4000000 in
set_option maxRecDepth 100000 in
theorem c_LinkAuditModel_findField {l : Launch} {D : va_G} {cI cL cG cZ : ClassId} {ad : Nat → Nat} {M M' : Mem} {a1 : Int32} {a2 : Int32} {a3 : Int32} {r : Int32} (hD : ∀ M, va_D (r_A ad) (r_ws cI cL cG cZ ad M)) (hf : f_LinkAuditModel_findField M a1 a2 a3 = some (r, M')) : Mi l y_LinkAuditModel_findField (.code y_LinkAuditModel_findField prog_12_method_23_code 9 (some .int) :: ALLW) (rmR 2 47) (Kk D cI cL cG cZ) D vwC (r_A ad) (r_ws cI cL cG cZ ad) [.ref (ad 0), .int a1, .int a2, .int a3] M M' r := by
  refine Mi_of (by decide) (Nat.le_of_ble_eq_true rfl) ?_
  intro p e s m args below meth c ls Q X hkk hret hP hl
  obtain ⟨hx, hb, hml, hown, hta⟩ := id X
  have hKv := hkk.1
  have hS : va_S (r_A ad) s.heap s.heap [] := va_S.rf
  have hl : lv_has ls 9 [(0, .ref (ad 0)), (1, .int a1), (2, .int a2), (3, .int a3)] := hl
  have L13 : ∀ (x2 : Int32) (x3 : Int32), ∀ (ke70 : Int32 → Mem → Option (Int32 × Mem)), ke70 = (fun y7 M9 => some (y7, M9)) → ∀ (ke159 : Mem → Option (Int32 × Mem)), ke159 = (fun M10 => some ((0 : Int32), M10)) → ∀ (n13 : Nat) (x4 : Int32) (x5 : Int32) (M : Mem) (H : Heap) (locs : List Loc) (ls : Array Slot), f_LinkAuditModel_findField_L13 x2 x3 ke70 ke159 n13 x4 x5 M = some (r, M') → va_P D vwC (r_ws cI cL cG cZ ad M) H → va_S (r_A ad) s.heap H locs → lv_has ls 9 [(0, .ref (ad 0)), (2, .int x2), (3, .int x3), (4, .int x4), (5, .int x5)] → W p l e (rmR 2 47) s m args below meth c H locs 0 0 Q (F0 m 13 ls []) := by
    intro x2 x3 ke70 hke70 ke159 hke159 n13
    induction n13 with
    | zero => intro x4 x5 M H locs ls hf; exact absurd (show (none : Option _) = some _ from hf) (fun q => by cases q)
    | succ n13 ih13 =>
      intro x4 x5 M H locs ls hf hP hS hl
      rw [f_LinkAuditModel_findField_L13] at hf
      have L104 : ∀ (x4 : Int32) (x6 : Int32), ∀ (ke156 : Int32 → Mem → Option (Int32 × Mem)), ke156 = (fun y5 M11 => f_LinkAuditModel_findField_L13 x2 x3 ke70 ke159 n13 x4 y5 M11) → ∀ (n104 : Nat) (x5 : Int32) (x8 : Int32) (M : Mem) (H : Heap) (locs : List Loc) (ls : Array Slot), f_LinkAuditModel_findField_L104 x2 x3 x4 x6 ke156 n104 x5 x8 M = some (r, M') → va_P D vwC (r_ws cI cL cG cZ ad M) H → va_S (r_A ad) s.heap H locs → lv_has ls 9 [(0, .ref (ad 0)), (2, .int x2), (3, .int x3), (4, .int x4), (5, .int x5), (6, .int x6), (8, .int x8)] → W p l e (rmR 2 47) s m args below meth c H locs 0 0 Q (F0 m 104 ls []) := by
        intro x4 x6 ke156 hke156 n104
        induction n104 with
        | zero => intro x5 x8 M H locs ls hf; exact absurd (show (none : Option _) = some _ from hf) (fun q => by cases q)
        | succ n104 ih104 =>
          intro x5 x8 M H locs ls hf hP hS hl
          rw [f_LinkAuditModel_findField_L104] at hf
          refine lv_iload hx hb d_LinkAuditModel_findField_104 (lv_at hl 6 rfl) ?_
          refine lv_if_lt (tgt := 156) hx hb d_LinkAuditModel_findField_106 (by decide) (fun c1 => ?_) (fun c1 => ?_)
          · have hf := ifp c1 hf
            rw [hke156] at hf
            refine lv_goto (tgt := 13) hx hb d_LinkAuditModel_findField_156 (by decide) ?_
            exact ih13 x4 x5 M _ _ _ hf hP hS (lv_sub hl [0, 1, 2, 3, 4] rfl)
          · have hf := ifn c1 hf
            refine lv_aload_n hx hb d_LinkAuditModel_findField_109 rfl (lv_at hl 0 rfl) ?_
            refine xg_LinkAuditModel_31 hx hb hta hown hKv hP d_LinkAuditModel_findField_110 ?_
            refine lv_iload hx hb d_LinkAuditModel_findField_113 (lv_at hl 5 rfl) ?_
            obtain ⟨g2, hf⟩ := gd_ok hf
            refine x_ild hx hb hKv hP r_c8 g2 d_LinkAuditModel_findField_115 ?_
            refine lv_iload hx hb d_LinkAuditModel_findField_116 (lv_at hl 6 rfl) ?_
            refine lv_ishr hx hb d_LinkAuditModel_findField_118 ?_
            refine lv_iconst (v := (1 : Int32)) hx hb d_LinkAuditModel_findField_119 (by decide) ?_
            refine lv_iand hx hb d_LinkAuditModel_findField_120 ?_
            refine lv_if_ne (tgt := 127) hx hb d_LinkAuditModel_findField_121 (by decide) (fun c3 => ?_) (fun c3 => ?_)
            · have hf := ifn c3 hf
              refine lv_aload_n hx hb d_LinkAuditModel_findField_127 rfl (lv_at hl 0 rfl) ?_
              refine xg_LinkAuditModel_77 hx hb hta hown hKv hP d_LinkAuditModel_findField_128 ?_
              refine lv_iload hx hb d_LinkAuditModel_findField_131 (lv_at hl 4 rfl) ?_
              refine lv_aload_n hx hb d_LinkAuditModel_findField_133 rfl (lv_at hl 0 rfl) ?_
              refine lv_aload_n hx hb d_LinkAuditModel_findField_134 rfl (lv_at hl 0 rfl) ?_
              refine xg_LinkAuditModel_19 hx hb hta hown hKv hP d_LinkAuditModel_findField_135 ?_
              refine lv_iload hx hb d_LinkAuditModel_findField_138 (lv_at hl 5 rfl) ?_
              obtain ⟨g4, hf⟩ := gd_ok hf
              refine x_ild hx hb hKv hP r_c4 g4 d_LinkAuditModel_findField_140 ?_
              refine lv_iload hx hb d_LinkAuditModel_findField_141 (lv_at hl 6 rfl) ?_
              obtain ⟨r12, hc5, hf⟩ := bd1_e hf
              refine xvr_LinkAuditModel_132 X hkk hD (Nat.le_of_ble_eq_true rfl) ⟨by dsimp only [rmR]; omega, by dsimp only [rmR]; omega⟩ ⟨Nat.zero_le _, Nat.zero_le _⟩ hc5 hl.1 hP hS d_LinkAuditModel_findField_143 (fun H locs hP hS => ?_)
              obtain ⟨g6, hf⟩ := gd_ok hf
              obtain ⟨M13, eM13, hf⟩ := sm_e hf
              refine x_ist hx hb hKv hP (hD _) hS r_c23 r_s23 g6 eM13 d_LinkAuditModel_findField_146 (fun H locs hP hS => ?_)
              refine lv_iinc (v := (x5 + (1 : Int32))) (lv' := [(5, .int (x5 + (1 : Int32))), (0, .ref (ad 0)), (2, .int x2), (3, .int x3), (4, .int x4), (6, .int x6), (8, .int x8)]) hx hb d_LinkAuditModel_findField_147 hl (k := 4) rfl rfl (by decide) rfl (fun ls hl => ?_)
              refine lv_iinc (v := (x8 + (-1 : Int32))) (lv' := [(8, .int (x8 + (-1 : Int32))), (5, .int (x5 + (1 : Int32))), (0, .ref (ad 0)), (2, .int x2), (3, .int x3), (4, .int x4), (6, .int x6)]) hx hb d_LinkAuditModel_findField_150 hl (k := 6) rfl rfl (by decide) rfl (fun ls hl => ?_)
              refine lv_goto (tgt := 104) hx hb d_LinkAuditModel_findField_153 (by decide) ?_
              exact ih104 (x5 + (1 : Int32)) (x8 + (-1 : Int32)) M13 _ _ _ hf hP hS (lv_sub hl [2, 3, 4, 5, 1, 6, 0] rfl)
            · have hf := ifp c3 hf
              refine lv_goto (tgt := 150) hx hb d_LinkAuditModel_findField_124 (by decide) ?_
              refine lv_iinc (v := (x8 + (-1 : Int32))) (lv' := [(8, .int (x8 + (-1 : Int32))), (0, .ref (ad 0)), (2, .int x2), (3, .int x3), (4, .int x4), (5, .int x5), (6, .int x6)]) hx hb d_LinkAuditModel_findField_150 hl (k := 6) rfl rfl (by decide) rfl (fun ls hl => ?_)
              refine lv_goto (tgt := 104) hx hb d_LinkAuditModel_findField_153 (by decide) ?_
              exact ih104 x5 (x8 + (-1 : Int32)) M _ _ _ hf hP hS (lv_sub hl [1, 2, 3, 4, 5, 6, 0] rfl)
      have b100 : ∀ (M : Mem) (x4 : Int32) (x5 : Int32) (x6 : Int32) (H : Heap) (locs : List Loc) (ls : Array Slot), f_LinkAuditModel_findField_b100 M x2 x3 x4 x5 x6 (f_LinkAuditModel_findField_L13 x2 x3 ke70 ke159 n13) ke70 ke159 = some (r, M') → va_P D vwC (r_ws cI cL cG cZ ad M) H → va_S (r_A ad) s.heap H locs → lv_has ls 9 [(0, .ref (ad 0)), (2, .int x2), (3, .int x3), (4, .int x4), (5, .int x5), (6, .int x6)] → W p l e (rmR 2 47) s m args below meth c H locs 0 0 Q (F0 m 100 ls []) := by
        intro M x4 x5 x6 H locs ls hf hP hS hl
        unfold f_LinkAuditModel_findField_b100 at hf
        refine lv_bipush (v := (11 : Int32)) hx hb d_LinkAuditModel_findField_100 (by decide) ?_
        refine lv_istore (lv' := [(8, .int (11 : Int32)), (0, .ref (ad 0)), (2, .int x2), (3, .int x3), (4, .int x4), (5, .int x5), (6, .int x6)]) hx hb d_LinkAuditModel_findField_102 hl (by decide) rfl (fun ls hl => ?_)
        exact L104 x4 x6 _ rfl FU x5 (11 : Int32) M _ _ _ hf hP hS (lv_sub hl [1, 2, 3, 4, 5, 6, 0] rfl)
      refine lv_iload hx hb d_LinkAuditModel_findField_13 (lv_at hl 4 rfl) ?_
      refine lv_if_le (tgt := 159) hx hb d_LinkAuditModel_findField_15 (by decide) (fun c7 => ?_) (fun c7 => ?_)
      · have hf := ifp c7 hf
        rw [hke159] at hf
        refine lv_iconst (v := (0 : Int32)) hx hb d_LinkAuditModel_findField_159 (by decide) ?_
        exact hret hf hP hS d_LinkAuditModel_findField_160
      · have hf := ifn c7 hf
        refine lv_iinc (v := (x5 + (-1 : Int32))) (lv' := [(5, .int (x5 + (-1 : Int32))), (0, .ref (ad 0)), (2, .int x2), (3, .int x3), (4, .int x4)]) hx hb d_LinkAuditModel_findField_18 hl (k := 4) rfl rfl (by decide) rfl (fun ls hl => ?_)
        refine lv_aload_n hx hb d_LinkAuditModel_findField_21 rfl (lv_at hl 1 rfl) ?_
        refine xg_LinkAuditModel_77 hx hb hta hown hKv hP d_LinkAuditModel_findField_22 ?_
        refine lv_iload hx hb d_LinkAuditModel_findField_25 (lv_at hl 0 rfl) ?_
        obtain ⟨g8, hf⟩ := gd_ok hf
        refine x_ild hx hb hKv hP r_c23 g8 d_LinkAuditModel_findField_27 ?_
        refine lv_istore (lv' := [(6, .int (M.1 23 ((x5 + (-1 : Int32))).toNatClampNeg)), (5, .int (x5 + (-1 : Int32))), (0, .ref (ad 0)), (2, .int x2), (3, .int x3), (4, .int x4)]) hx hb d_LinkAuditModel_findField_28 hl (by decide) rfl (fun ls hl => ?_)
        refine lv_iload hx hb d_LinkAuditModel_findField_30 (lv_at hl 5 rfl) ?_
        refine lv_iload hx hb d_LinkAuditModel_findField_32 (lv_at hl 0 rfl) ?_
        refine lv_ishr hx hb d_LinkAuditModel_findField_34 ?_
        refine lv_iconst (v := (1 : Int32)) hx hb d_LinkAuditModel_findField_35 (by decide) ?_
        refine lv_iand hx hb d_LinkAuditModel_findField_36 ?_
        refine lv_if_eq (tgt := 43) hx hb d_LinkAuditModel_findField_37 (by decide) (fun c9 => ?_) (fun c9 => ?_)
        · have hf := ifp c9 hf
          refine lv_iload hx hb d_LinkAuditModel_findField_43 (lv_at hl 5 rfl) ?_
          refine lv_iconst (v := (1 : Int32)) hx hb d_LinkAuditModel_findField_45 (by decide) ?_
          refine lv_iload hx hb d_LinkAuditModel_findField_46 (lv_at hl 0 rfl) ?_
          refine lv_ishl hx hb d_LinkAuditModel_findField_48 ?_
          refine lv_ior hx hb d_LinkAuditModel_findField_49 ?_
          refine lv_istore (lv' := [(4, .int (x4 ||| ((1 : Int32) <<< ((M.1 23 ((x5 + (-1 : Int32))).toNatClampNeg) &&& 31)))), (6, .int (M.1 23 ((x5 + (-1 : Int32))).toNatClampNeg)), (5, .int (x5 + (-1 : Int32))), (0, .ref (ad 0)), (2, .int x2), (3, .int x3)]) hx hb d_LinkAuditModel_findField_50 hl (by decide) rfl (fun ls hl => ?_)
          refine lv_aload_n hx hb d_LinkAuditModel_findField_52 rfl (lv_at hl 3 rfl) ?_
          refine lv_iload hx hb d_LinkAuditModel_findField_53 (lv_at hl 1 rfl) ?_
          refine lv_iconst (v := (0 : Int32)) hx hb d_LinkAuditModel_findField_55 (by decide) ?_
          refine lv_iload_n hx hb d_LinkAuditModel_findField_56 rfl (lv_at hl 4 rfl) ?_
          refine lv_iload_n hx hb d_LinkAuditModel_findField_57 rfl (lv_at hl 5 rfl) ?_
          refine lv_bipush (v := (12 : Int32)) hx hb d_LinkAuditModel_findField_58 (by decide) ?_
          obtain ⟨r14, hc10, hf⟩ := bd1_e hf
          refine xvr_LinkAuditModel_142 X hkk hD (Nat.le_of_ble_eq_true rfl) ⟨by dsimp only [rmR]; omega, by dsimp only [rmR]; omega⟩ ⟨Nat.zero_le _, Nat.zero_le _⟩ hc10 hl.1 hP hS d_LinkAuditModel_findField_60 (fun H locs hP hS => ?_)
          refine lv_istore (lv' := [(7, .int r14), (4, .int (x4 ||| ((1 : Int32) <<< ((M.1 23 ((x5 + (-1 : Int32))).toNatClampNeg) &&& 31)))), (6, .int (M.1 23 ((x5 + (-1 : Int32))).toNatClampNeg)), (5, .int (x5 + (-1 : Int32))), (0, .ref (ad 0)), (2, .int x2), (3, .int x3)]) hx hb d_LinkAuditModel_findField_63 hl (by decide) rfl (fun ls hl => ?_)
          refine lv_iload hx hb d_LinkAuditModel_findField_65 (lv_at hl 0 rfl) ?_
          refine lv_if_le (tgt := 73) hx hb d_LinkAuditModel_findField_67 (by decide) (fun c11 => ?_) (fun c11 => ?_)
          · have hf := ifp c11 hf
            refine lv_aload_n hx hb d_LinkAuditModel_findField_73 rfl (lv_at hl 4 rfl) ?_
            refine xg_LinkAuditModel_59 hx hb hta hown hKv hP d_LinkAuditModel_findField_74 ?_
            refine lv_iload hx hb d_LinkAuditModel_findField_77 (lv_at hl 2 rfl) ?_
            obtain ⟨g12, hf⟩ := gd_ok hf
            refine x_ild hx hb hKv hP r_c17 g12 d_LinkAuditModel_findField_79 ?_
            refine lv_if_le (tgt := 100) hx hb d_LinkAuditModel_findField_80 (by decide) (fun c13 => ?_) (fun c13 => ?_)
            · have hf := ifp c13 hf
              exact b100 M (x4 ||| ((1 : Int32) <<< ((M.1 23 ((x5 + (-1 : Int32))).toNatClampNeg) &&& 31))) (x5 + (-1 : Int32)) (M.1 23 ((x5 + (-1 : Int32))).toNatClampNeg) _ _ _ hf hP hS (lv_sub hl [4, 5, 6, 1, 3, 2] rfl)
            · have hf := ifn c13 hf
              refine lv_aload_n hx hb d_LinkAuditModel_findField_83 rfl (lv_at hl 4 rfl) ?_
              refine xg_LinkAuditModel_77 hx hb hta hown hKv hP d_LinkAuditModel_findField_84 ?_
              refine lv_iload hx hb d_LinkAuditModel_findField_87 (lv_at hl 3 rfl) ?_
              refine lv_aload_n hx hb d_LinkAuditModel_findField_89 rfl (lv_at hl 4 rfl) ?_
              refine xg_LinkAuditModel_59 hx hb hta hown hKv hP d_LinkAuditModel_findField_90 ?_
              refine lv_iload hx hb d_LinkAuditModel_findField_93 (lv_at hl 2 rfl) ?_
              obtain ⟨g14, hf⟩ := gd_ok hf
              refine x_ild hx hb hKv hP r_c17 g14 d_LinkAuditModel_findField_95 ?_
              obtain ⟨g15, hf⟩ := gd_ok hf
              obtain ⟨M15, eM15, hf⟩ := sm_e hf
              refine x_ist hx hb hKv hP (hD _) hS r_c23 r_s23 g15 eM15 d_LinkAuditModel_findField_96 (fun H locs hP hS => ?_)
              refine lv_iinc (v := ((x5 + (-1 : Int32)) + (1 : Int32))) (lv' := [(5, .int ((x5 + (-1 : Int32)) + (1 : Int32))), (7, .int r14), (4, .int (x4 ||| ((1 : Int32) <<< ((M.1 23 ((x5 + (-1 : Int32))).toNatClampNeg) &&& 31)))), (6, .int (M.1 23 ((x5 + (-1 : Int32))).toNatClampNeg)), (0, .ref (ad 0)), (2, .int x2), (3, .int x3)]) hx hb d_LinkAuditModel_findField_97 hl (k := 3) rfl rfl (by decide) rfl (fun ls hl => ?_)
              exact b100 M15 (x4 ||| ((1 : Int32) <<< ((M.1 23 ((x5 + (-1 : Int32))).toNatClampNeg) &&& 31))) ((x5 + (-1 : Int32)) + (1 : Int32)) (M.1 23 ((x5 + (-1 : Int32))).toNatClampNeg) _ _ _ hf hP hS (lv_sub hl [4, 5, 6, 2, 0, 3] rfl)
          · have hf := ifn c11 hf
            rw [hke70] at hf
            refine lv_iload hx hb d_LinkAuditModel_findField_70 (lv_at hl 0 rfl) ?_
            exact hret hf hP hS d_LinkAuditModel_findField_72
        · have hf := ifn c9 hf
          refine lv_goto (tgt := 13) hx hb d_LinkAuditModel_findField_40 (by decide) ?_
          exact ih13 x4 (x5 + (-1 : Int32)) M _ _ _ hf hP hS (lv_sub hl [2, 3, 4, 5, 1] rfl)
  unfold f_LinkAuditModel_findField at hf
  refine lv_iconst (v := (0 : Int32)) hx hb d_LinkAuditModel_findField_0 (by decide) ?_
  refine lv_istore (lv' := [(4, .int (0 : Int32)), (0, .ref (ad 0)), (1, .int a1), (2, .int a2), (3, .int a3)]) hx hb d_LinkAuditModel_findField_1 hl (by decide) rfl (fun ls hl => ?_)
  refine lv_iconst (v := (1 : Int32)) hx hb d_LinkAuditModel_findField_3 (by decide) ?_
  refine lv_istore (lv' := [(5, .int (1 : Int32)), (4, .int (0 : Int32)), (0, .ref (ad 0)), (1, .int a1), (2, .int a2), (3, .int a3)]) hx hb d_LinkAuditModel_findField_4 hl (by decide) rfl (fun ls hl => ?_)
  refine lv_aload_n hx hb d_LinkAuditModel_findField_6 rfl (lv_at hl 2 rfl) ?_
  refine xg_LinkAuditModel_77 hx hb hta hown hKv hP d_LinkAuditModel_findField_7 ?_
  refine lv_iconst (v := (0 : Int32)) hx hb d_LinkAuditModel_findField_10 (by decide) ?_
  refine lv_iload_n hx hb d_LinkAuditModel_findField_11 rfl (lv_at hl 3 rfl) ?_
  obtain ⟨g16, hf⟩ := gd_ok hf
  obtain ⟨M16, eM16, hf⟩ := sm_e hf
  refine x_ist hx hb hKv hP (hD _) hS r_c23 r_s23 g16 eM16 d_LinkAuditModel_findField_12 (fun H locs hP hS => ?_)
  exact L13 a2 a3 _ rfl _ rfl FU (0 : Int32) (1 : Int32) M16 _ _ _ hf hP hS (lv_sub hl [2, 4, 5, 1, 0] rfl)
-- LinkAuditModel.hasFace
set_option maxHeartbeats 4000000 in
set_option maxRecDepth 100000 in
theorem c_LinkAuditModel_hasFace {l : Launch} {D : va_G} {cI cL cG cZ : ClassId} {ad : Nat → Nat} {M : Mem} {a1 : Int32} {a2 : Int32} {r : Int32} (hD : ∀ M, va_D (r_A ad) (r_ws cI cL cG cZ ad M)) (hf : f_LinkAuditModel_hasFace M a1 a2 = some r) : Mi l y_LinkAuditModel_hasFace (.code y_LinkAuditModel_hasFace prog_12_method_20_code 3 (some .boolean) :: ALLW) (rmR 0 0) (Kk D cI cL cG cZ) D vwC (r_A ad) (r_ws cI cL cG cZ ad) [.ref (ad 0), .int a1, .int a2] M M r := by
  refine Mz_ofR (by decide) (Nat.le_of_ble_eq_true rfl) ?_
  intro p e s m args below meth c ls Q X hkk hret hP hl
  obtain ⟨hx, hb, hml, hown, hta⟩ := id X
  have hKv := hkk.1
  have hS : va_S (r_A ad) s.heap s.heap [] := va_S.rf
  have hl : lv_has ls 3 [(0, .ref (ad 0)), (1, .int a1), (2, .int a2)] := hl
  unfold f_LinkAuditModel_hasFace at hf
  refine lv_aload_n hx hb d_LinkAuditModel_hasFace_0 rfl (lv_at hl 0 rfl) ?_
  refine xg_LinkAuditModel_68 hx hb hta hown hKv hP d_LinkAuditModel_hasFace_1 ?_
  refine lv_iload_n hx hb d_LinkAuditModel_hasFace_4 rfl (lv_at hl 1 rfl) ?_
  obtain ⟨g1, hf⟩ := gd_ok hf
  refine x_ild hx hb hKv hP r_c20 g1 d_LinkAuditModel_hasFace_5 ?_
  refine lv_iload_n hx hb d_LinkAuditModel_hasFace_6 rfl (lv_at hl 2 rfl) ?_
  refine lv_ishr hx hb d_LinkAuditModel_hasFace_7 ?_
  refine lv_iconst (v := (1 : Int32)) hx hb d_LinkAuditModel_hasFace_8 (by decide) ?_
  refine lv_iand hx hb d_LinkAuditModel_hasFace_9 ?_
  refine lv_if_eq (tgt := 17) hx hb d_LinkAuditModel_hasFace_10 (by decide) (fun c2 => ?_) (fun c2 => ?_)
  · have hf := ifp c2 hf
    refine lv_iconst (v := (0 : Int32)) hx hb d_LinkAuditModel_hasFace_17 (by decide) ?_
    exact hret (Or.inl rfl) hf hP hS d_LinkAuditModel_hasFace_18
  · have hf := ifn c2 hf
    refine lv_iconst (v := (1 : Int32)) hx hb d_LinkAuditModel_hasFace_13 (by decide) ?_
    refine lv_goto (tgt := 18) hx hb d_LinkAuditModel_hasFace_14 (by decide) ?_
    exact hret (Or.inr rfl) hf hP hS d_LinkAuditModel_hasFace_18
-- LinkAuditModel.counts
theorem xvr_LinkAuditModel_146 {p : Program} {l : Launch} {e : Env} {R : Room} {s : State} {m : MethodId} {args : Array Value} {below : List Frame} {meth : Method} {c : Code} {H : Heap} {locs : List Loc} {cells slots : Nat} {Q : State → Prop} {cc : ByteArray} {pc : Nat} {ls : Array Slot} {rest : List Value} {D : va_G} {cI cL cG cZ : ClassId} {ad : Nat → Nat} {M : Mem} {H0 : Heap} {nL : Nat} {a0 : Int32} {a1 : Int32} {r : Int32} (X : CallFix p m c cc nL s args ALLW "LinkAuditModel") (hkk : Kk D cI cL cG cZ s) (hD : ∀ M, va_D (r_A ad) (r_ws cI cL cG cZ ad M)) (hrest : (rest.map fun v => v.category).sum ≤ 8) (hR : 0 + 1 ≤ R.frames ∧ 8 + (3 + 11) + 0 ≤ R.locals) (hcs : cells + 0 ≤ R.cells ∧ slots + 0 ≤ R.slots) (hc : f_LinkAuditModel_hasFace M a0 a1 = some r) (hsz : ls.size = nL) (hP : va_P D vwC (r_ws cI cL cG cZ ad M) H) (hS : va_S (r_A ad) H0 H locs) (hdg : decode cc pc = .ok (.invokevirtual 146, 3))
    (kk : ∀ (H1 : Heap) (locs1 : List Loc), va_P D vwC (r_ws cI cL cG cZ ad M) H1 → va_S (r_A ad) H0 H1 locs1 → W p l e R s m args below meth c H1 locs1 cells slots Q (F0 m (pc + 3) ls (.int r :: rest))) : W p l e R s m args below meth c H locs cells slots Q (F0 m pc ls (.int a1 :: .int a0 :: .ref (ad 0) :: rest)) := by
  have hta := X.2.2.2.2
  exact x_afterI (va_runV (As := [.int a0, .int a1]) (rest := rest) X (c_LinkAuditModel_hasFace hD hc) ⟨callB_of 2 hta (good_all (L := .code y_LinkAuditModel_hasFace prog_12_method_20_code 3 (some .boolean) :: ALLW) (List.forall_mem_cons.mpr ⟨wm_902, fun _ h => h⟩)) rfl rfl rfl (hta _ wm_11) (hta _ wm_899) (by decide +kernel) hR, hta _ wm_901, hta _ wp_39⟩ ⟨x_blind Kk_w _, va_recv hkk.1 hP (ci := 10) (q0 := 0) rfl r_c0, x_pre Kk_w hkk hP _⟩ rfl rfl hsz rfl (lv_room hrest) hdg hcs) hS kk
set_option maxHeartbeats 4000000 in
set_option maxRecDepth 100000 in
theorem c_LinkAuditModel_counts {l : Launch} {D : va_G} {cI cL cG cZ : ClassId} {ad : Nat → Nat} {M : Mem} {a1 : Int32} {a2 : Int32} {a3 : Int32} {a4 : Int32} {a5 : Int32} {r : Int32} (hD : ∀ M, va_D (r_A ad) (r_ws cI cL cG cZ ad M)) (hf : f_LinkAuditModel_counts M a1 a2 a3 a4 a5 = some r) : Mi l y_LinkAuditModel_counts (.code y_LinkAuditModel_counts prog_12_method_24_code 7 (some .boolean) :: ALLW) (rmR 1 22) (Kk D cI cL cG cZ) D vwC (r_A ad) (r_ws cI cL cG cZ ad) [.ref (ad 0), .int a1, .int a2, .int a3, .int a4, .int a5] M M r := by
  refine Mz_ofR (by decide) (Nat.le_of_ble_eq_true rfl) ?_
  intro p e s m args below meth c ls Q X hkk hret hP hl
  obtain ⟨hx, hb, hml, hown, hta⟩ := id X
  have hKv := hkk.1
  have hS : va_S (r_A ad) s.heap s.heap [] := va_S.rf
  have hl : lv_has ls 7 [(0, .ref (ad 0)), (1, .int a1), (2, .int a2), (3, .int a3), (4, .int a4), (5, .int a5)] := hl
  have b46 : ∀ (x1 : Int32) (x2 : Int32) (t0 : Int32) (H : Heap) (locs : List Loc) (ls : Array Slot), f_LinkAuditModel_counts_b46 M x1 x2 t0 = some r → va_P D vwC (r_ws cI cL cG cZ ad M) H → va_S (r_A ad) s.heap H locs → lv_has ls 7 [(0, .ref (ad 0)), (1, .int x1), (2, .int x2)] → W p l e (rmR 1 22) s m args below meth c H locs 0 0 Q (F0 m 46 ls [.int t0]) := by
    intro x1 x2 t0 H locs ls hf hP hS hl
    unfold f_LinkAuditModel_counts_b46 at hf
    refine lv_istore (lv' := [(6, .int t0), (0, .ref (ad 0)), (1, .int x1), (2, .int x2)]) hx hb d_LinkAuditModel_counts_46 hl (by decide) rfl (fun ls hl => ?_)
    refine lv_iload hx hb d_LinkAuditModel_counts_48 (lv_at hl 0 rfl) ?_
    refine lv_if_eq (tgt := 94) hx hb d_LinkAuditModel_counts_50 (by decide) (fun c1 => ?_) (fun c1 => ?_)
    · have hf := ifp c1 hf
      refine lv_iconst (v := (0 : Int32)) hx hb d_LinkAuditModel_counts_94 (by decide) ?_
      exact hret (Or.inl rfl) hf hP hS d_LinkAuditModel_counts_95
    · have hf := ifn c1 hf
      refine lv_aload_n hx hb d_LinkAuditModel_counts_53 rfl (lv_at hl 1 rfl) ?_
      refine lv_iload_n hx hb d_LinkAuditModel_counts_54 rfl (lv_at hl 2 rfl) ?_
      refine lv_aload_n hx hb d_LinkAuditModel_counts_55 rfl (lv_at hl 1 rfl) ?_
      refine xg_LinkAuditModel_34 hx hb hta hown hKv hP d_LinkAuditModel_counts_56 ?_
      refine lv_iload_n hx hb d_LinkAuditModel_counts_59 rfl (lv_at hl 3 rfl) ?_
      obtain ⟨g2, hf⟩ := gd_ok hf
      refine x_ild hx hb hKv hP r_c9 g2 d_LinkAuditModel_counts_60 ?_
      obtain ⟨r2, hc3, hf⟩ := bd1_e hf
      refine xvr_LinkAuditModel_146 X hkk hD (Nat.le_of_ble_eq_true rfl) ⟨by dsimp only [rmR]; omega, by dsimp only [rmR]; omega⟩ ⟨Nat.zero_le _, Nat.zero_le _⟩ hc3 hl.1 hP hS d_LinkAuditModel_counts_61 (fun H locs hP hS => ?_)
      refine lv_if_eq (tgt := 94) hx hb d_LinkAuditModel_counts_64 (by decide) (fun c4 => ?_) (fun c4 => ?_)
      · have hf := ifp c4 hf
        refine lv_iconst (v := (0 : Int32)) hx hb d_LinkAuditModel_counts_94 (by decide) ?_
        exact hret (Or.inl rfl) hf hP hS d_LinkAuditModel_counts_95
      · have hf := ifn c4 hf
        refine lv_aload_n hx hb d_LinkAuditModel_counts_67 rfl (lv_at hl 1 rfl) ?_
        refine xg_LinkAuditModel_50 hx hb hta hown hKv hP d_LinkAuditModel_counts_68 ?_
        refine lv_iload_n hx hb d_LinkAuditModel_counts_71 rfl (lv_at hl 3 rfl) ?_
        obtain ⟨g5, hf⟩ := gd_ok hf
        refine x_ild hx hb hKv hP r_c14 g5 d_LinkAuditModel_counts_72 ?_
        refine lv_iconst (v := (3 : Int32)) hx hb d_LinkAuditModel_counts_73 (by decide) ?_
        refine lv_iand hx hb d_LinkAuditModel_counts_74 ?_
        refine lv_iconst (v := (3 : Int32)) hx hb d_LinkAuditModel_counts_75 (by decide) ?_
        refine lv_icmp_eq (tgt := 94) hx hb d_LinkAuditModel_counts_76 (by decide) (fun c6 => ?_) (fun c6 => ?_)
        · have hf := ifp c6 hf
          refine lv_iconst (v := (0 : Int32)) hx hb d_LinkAuditModel_counts_94 (by decide) ?_
          exact hret (Or.inl rfl) hf hP hS d_LinkAuditModel_counts_95
        · have hf := ifn c6 hf
          refine lv_aload_n hx hb d_LinkAuditModel_counts_79 rfl (lv_at hl 1 rfl) ?_
          refine xg_LinkAuditModel_50 hx hb hta hown hKv hP d_LinkAuditModel_counts_80 ?_
          refine lv_iload_n hx hb d_LinkAuditModel_counts_83 rfl (lv_at hl 3 rfl) ?_
          obtain ⟨g7, hf⟩ := gd_ok hf
          refine x_ild hx hb hKv hP r_c14 g7 d_LinkAuditModel_counts_84 ?_
          refine lv_iconst (v := (4 : Int32)) hx hb d_LinkAuditModel_counts_85 (by decide) ?_
          refine lv_iand hx hb d_LinkAuditModel_counts_86 ?_
          refine lv_if_ne (tgt := 94) hx hb d_LinkAuditModel_counts_87 (by decide) (fun c8 => ?_) (fun c8 => ?_)
          · have hf := ifn c8 hf
            refine lv_iconst (v := (0 : Int32)) hx hb d_LinkAuditModel_counts_94 (by decide) ?_
            exact hret (Or.inl rfl) hf hP hS d_LinkAuditModel_counts_95
          · have hf := ifp c8 hf
            refine lv_iconst (v := (1 : Int32)) hx hb d_LinkAuditModel_counts_90 (by decide) ?_
            refine lv_goto (tgt := 95) hx hb d_LinkAuditModel_counts_91 (by decide) ?_
            exact hret (Or.inr rfl) hf hP hS d_LinkAuditModel_counts_95
  have b45 : ∀ (x1 : Int32) (x2 : Int32) (H : Heap) (locs : List Loc) (ls : Array Slot), f_LinkAuditModel_counts_b45 M x1 x2 = some r → va_P D vwC (r_ws cI cL cG cZ ad M) H → va_S (r_A ad) s.heap H locs → lv_has ls 7 [(0, .ref (ad 0)), (1, .int x1), (2, .int x2)] → W p l e (rmR 1 22) s m args below meth c H locs 0 0 Q (F0 m 45 ls []) := by
    intro x1 x2 H locs ls hf hP hS hl
    unfold f_LinkAuditModel_counts_b45 at hf
    refine lv_iconst (v := (0 : Int32)) hx hb d_LinkAuditModel_counts_45 (by decide) ?_
    exact b46 x1 x2 (0 : Int32) _ _ _ hf hP hS (lv_sub hl [0, 1, 2] rfl)
  unfold f_LinkAuditModel_counts at hf
  refine lv_aload_n hx hb d_LinkAuditModel_counts_0 rfl (lv_at hl 0 rfl) ?_
  refine xg_LinkAuditModel_37 hx hb hta hown hKv hP d_LinkAuditModel_counts_1 ?_
  refine lv_iload_n hx hb d_LinkAuditModel_counts_4 rfl (lv_at hl 2 rfl) ?_
  obtain ⟨g9, hf⟩ := gd_ok hf
  refine x_zld hx hb hKv hP r_c10 g9 d_LinkAuditModel_counts_5 ?_
  refine lv_if_eq (tgt := 45) hx hb d_LinkAuditModel_counts_6 (by decide) (fun c10 => ?_) (fun c10 => ?_)
  · have hf := ifp c10 hf
    exact b45 a1 a2 _ _ _ hf hP hS (lv_sub hl [0, 1, 2] rfl)
  · have hf := ifn c10 hf
    refine lv_aload_n hx hb d_LinkAuditModel_counts_9 rfl (lv_at hl 0 rfl) ?_
    refine xg_LinkAuditModel_41 hx hb hta hown hKv hP d_LinkAuditModel_counts_10 ?_
    refine lv_iload_n hx hb d_LinkAuditModel_counts_13 rfl (lv_at hl 2 rfl) ?_
    obtain ⟨g11, hf⟩ := gd_ok hf
    refine x_ild hx hb hKv hP r_c11 g11 d_LinkAuditModel_counts_14 ?_
    refine lv_iload_n hx hb d_LinkAuditModel_counts_15 rfl (lv_at hl 3 rfl) ?_
    refine lv_icmp_ne (tgt := 45) hx hb d_LinkAuditModel_counts_16 (by decide) (fun c12 => ?_) (fun c12 => ?_)
    · have hf := ifn c12 hf
      exact b45 a1 a2 _ _ _ hf hP hS (lv_sub hl [0, 1, 2] rfl)
    · have hf := ifp c12 hf
      refine lv_aload_n hx hb d_LinkAuditModel_counts_19 rfl (lv_at hl 0 rfl) ?_
      refine xg_LinkAuditModel_44 hx hb hta hown hKv hP d_LinkAuditModel_counts_20 ?_
      refine lv_iload_n hx hb d_LinkAuditModel_counts_23 rfl (lv_at hl 2 rfl) ?_
      obtain ⟨g13, hf⟩ := gd_ok hf
      refine x_ild hx hb hKv hP r_c12 g13 d_LinkAuditModel_counts_24 ?_
      refine lv_iload hx hb d_LinkAuditModel_counts_25 (lv_at hl 4 rfl) ?_
      refine lv_icmp_ne (tgt := 45) hx hb d_LinkAuditModel_counts_27 (by decide) (fun c14 => ?_) (fun c14 => ?_)
      · have hf := ifn c14 hf
        exact b45 a1 a2 _ _ _ hf hP hS (lv_sub hl [0, 1, 2] rfl)
      · have hf := ifp c14 hf
        refine lv_aload_n hx hb d_LinkAuditModel_counts_30 rfl (lv_at hl 0 rfl) ?_
        refine xg_LinkAuditModel_47 hx hb hta hown hKv hP d_LinkAuditModel_counts_31 ?_
        refine lv_iload_n hx hb d_LinkAuditModel_counts_34 rfl (lv_at hl 2 rfl) ?_
        obtain ⟨g15, hf⟩ := gd_ok hf
        refine x_ild hx hb hKv hP r_c13 g15 d_LinkAuditModel_counts_35 ?_
        refine lv_iload hx hb d_LinkAuditModel_counts_36 (lv_at hl 5 rfl) ?_
        refine lv_icmp_ne (tgt := 45) hx hb d_LinkAuditModel_counts_38 (by decide) (fun c16 => ?_) (fun c16 => ?_)
        · have hf := ifn c16 hf
          exact b45 a1 a2 _ _ _ hf hP hS (lv_sub hl [0, 1, 2] rfl)
        · have hf := ifp c16 hf
          refine lv_iconst (v := (1 : Int32)) hx hb d_LinkAuditModel_counts_41 (by decide) ?_
          refine lv_goto (tgt := 46) hx hb d_LinkAuditModel_counts_42 (by decide) ?_
          exact b46 a1 a2 (1 : Int32) _ _ _ hf hP hS (lv_sub hl [0, 1, 2] rfl)
-- LinkAuditModel.mostSpecific
theorem xvr_LinkAuditModel_149 {p : Program} {l : Launch} {e : Env} {R : Room} {s : State} {m : MethodId} {args : Array Value} {below : List Frame} {meth : Method} {c : Code} {H : Heap} {locs : List Loc} {cells slots : Nat} {Q : State → Prop} {cc : ByteArray} {pc : Nat} {ls : Array Slot} {rest : List Value} {D : va_G} {cI cL cG cZ : ClassId} {ad : Nat → Nat} {M : Mem} {H0 : Heap} {nL : Nat} {a0 : Int32} {a1 : Int32} {a2 : Int32} {a3 : Int32} {a4 : Int32} {r : Int32} (X : CallFix p m c cc nL s args ALLW "LinkAuditModel") (hkk : Kk D cI cL cG cZ s) (hD : ∀ M, va_D (r_A ad) (r_ws cI cL cG cZ ad M)) (hrest : (rest.map fun v => v.category).sum ≤ 8) (hR : 1 + 1 ≤ R.frames ∧ 8 + (7 + 11) + 22 ≤ R.locals) (hcs : cells + 0 ≤ R.cells ∧ slots + 0 ≤ R.slots) (hc : f_LinkAuditModel_counts M a0 a1 a2 a3 a4 = some r) (hsz : ls.size = nL) (hP : va_P D vwC (r_ws cI cL cG cZ ad M) H) (hS : va_S (r_A ad) H0 H locs) (hdg : decode cc pc = .ok (.invokevirtual 149, 3))
    (kk : ∀ (H1 : Heap) (locs1 : List Loc), va_P D vwC (r_ws cI cL cG cZ ad M) H1 → va_S (r_A ad) H0 H1 locs1 → W p l e R s m args below meth c H1 locs1 cells slots Q (F0 m (pc + 3) ls (.int r :: rest))) : W p l e R s m args below meth c H locs cells slots Q (F0 m pc ls (.int a4 :: .int a3 :: .int a2 :: .int a1 :: .int a0 :: .ref (ad 0) :: rest)) := by
  have hta := X.2.2.2.2
  exact x_afterI (va_runV (As := [.int a0, .int a1, .int a2, .int a3, .int a4]) (rest := rest) X (c_LinkAuditModel_counts hD hc) ⟨callB_of 5 hta (good_all (L := .code y_LinkAuditModel_counts prog_12_method_24_code 7 (some .boolean) :: ALLW) (List.forall_mem_cons.mpr ⟨wm_898, fun _ h => h⟩)) rfl rfl rfl (hta _ wm_11) (hta _ wm_895) (by decide +kernel) hR, hta _ wm_897, hta _ wp_38⟩ ⟨x_blind Kk_w _, va_recv hkk.1 hP (ci := 10) (q0 := 0) rfl r_c0, x_pre Kk_w hkk hP _⟩ rfl rfl hsz rfl (lv_room hrest) hdg hcs) hS kk
set_option maxHeartbeats 4000000 in
set_option maxRecDepth 100000 in
theorem c_LinkAuditModel_mostSpecific {l : Launch} {D : va_G} {cI cL cG cZ : ClassId} {ad : Nat → Nat} {M : Mem} {a1 : Int32} {a2 : Int32} {a3 : Int32} {a4 : Int32} {a5 : Int32} {r : Int32} (hD : ∀ M, va_D (r_A ad) (r_ws cI cL cG cZ ad M)) (hf : f_LinkAuditModel_mostSpecific M a1 a2 a3 a4 a5 = some r) : Mi l y_LinkAuditModel_mostSpecific (.code y_LinkAuditModel_mostSpecific prog_12_method_25_code 7 (some .boolean) :: ALLW) (rmR 2 48) (Kk D cI cL cG cZ) D vwC (r_A ad) (r_ws cI cL cG cZ ad) [.ref (ad 0), .int a1, .int a2, .int a3, .int a4, .int a5] M M r := by
  refine Mz_ofR (by decide) (Nat.le_of_ble_eq_true rfl) ?_
  intro p e s m args below meth c ls Q X hkk hret hP hl
  obtain ⟨hx, hb, hml, hown, hta⟩ := id X
  have hKv := hkk.1
  have hS : va_S (r_A ad) s.heap s.heap [] := va_S.rf
  have hl : lv_has ls 7 [(0, .ref (ad 0)), (1, .int a1), (2, .int a2), (3, .int a3), (4, .int a4), (5, .int a5)] := hl
  have L3 : ∀ (x1 : Int32) (x2 : Int32) (x3 : Int32) (x4 : Int32) (x5 : Int32), ∀ (ke53 : Option Int32), ke53 = (some ((0 : Int32))) → ∀ (ke61 : Option Int32), ke61 = (some ((1 : Int32))) → ∀ (n3 : Nat) (x6 : Int32) (H : Heap) (locs : List Loc) (ls : Array Slot), f_LinkAuditModel_mostSpecific_L3 M x1 x2 x3 x4 x5 ke53 ke61 n3 x6 = some r → va_P D vwC (r_ws cI cL cG cZ ad M) H → va_S (r_A ad) s.heap H locs → lv_has ls 7 [(0, .ref (ad 0)), (1, .int x1), (2, .int x2), (3, .int x3), (4, .int x4), (5, .int x5), (6, .int x6)] → W p l e (rmR 2 48) s m args below meth c H locs 0 0 Q (F0 m 3 ls []) := by
    intro x1 x2 x3 x4 x5 ke53 hke53 ke61 hke61 n3
    induction n3 with
    | zero => intro x6 H locs ls hf; exact absurd (show (none : Option _) = some _ from hf) (fun q => by cases q)
    | succ n3 ih3 =>
      intro x6 H locs ls hf hP hS hl
      rw [f_LinkAuditModel_mostSpecific_L3] at hf
      refine lv_iload hx hb d_LinkAuditModel_mostSpecific_3 (lv_at hl 6 rfl) ?_
      refine lv_aload_n hx hb d_LinkAuditModel_mostSpecific_5 rfl (lv_at hl 0 rfl) ?_
      refine xg_LinkAuditModel_104 hx hb hta hown hKv hP d_LinkAuditModel_mostSpecific_6 ?_
      refine lv_icmp_gt (tgt := 61) hx hb d_LinkAuditModel_mostSpecific_9 (by decide) (fun c1 => ?_) (fun c1 => ?_)
      · have hf := ifp c1 hf
        rw [hke61] at hf
        refine lv_iconst (v := (1 : Int32)) hx hb d_LinkAuditModel_mostSpecific_61 (by decide) ?_
        exact hret (Or.inr rfl) hf hP hS d_LinkAuditModel_mostSpecific_62
      · have hf := ifn c1 hf
        refine lv_iload hx hb d_LinkAuditModel_mostSpecific_12 (lv_at hl 6 rfl) ?_
        refine lv_iload_n hx hb d_LinkAuditModel_mostSpecific_14 rfl (lv_at hl 2 rfl) ?_
        refine lv_icmp_eq (tgt := 55) hx hb d_LinkAuditModel_mostSpecific_15 (by decide) (fun c2 => ?_) (fun c2 => ?_)
        · have hf := ifp c2 hf
          refine lv_iinc (v := (x6 + (1 : Int32))) (lv' := [(6, .int (x6 + (1 : Int32))), (0, .ref (ad 0)), (1, .int x1), (2, .int x2), (3, .int x3), (4, .int x4), (5, .int x5)]) hx hb d_LinkAuditModel_mostSpecific_55 hl (k := 6) rfl rfl (by decide) rfl (fun ls hl => ?_)
          refine lv_goto (tgt := 3) hx hb d_LinkAuditModel_mostSpecific_58 (by decide) ?_
          exact ih3 (x6 + (1 : Int32)) _ _ _ hf hP hS (lv_sub hl [1, 2, 3, 4, 5, 6, 0] rfl)
        · have hf := ifn c2 hf
          refine lv_aload_n hx hb d_LinkAuditModel_mostSpecific_18 rfl (lv_at hl 0 rfl) ?_
          refine lv_iload_n hx hb d_LinkAuditModel_mostSpecific_19 rfl (lv_at hl 1 rfl) ?_
          refine lv_iload hx hb d_LinkAuditModel_mostSpecific_20 (lv_at hl 6 rfl) ?_
          refine lv_iload_n hx hb d_LinkAuditModel_mostSpecific_22 rfl (lv_at hl 3 rfl) ?_
          refine lv_iload hx hb d_LinkAuditModel_mostSpecific_23 (lv_at hl 4 rfl) ?_
          refine lv_iload hx hb d_LinkAuditModel_mostSpecific_25 (lv_at hl 5 rfl) ?_
          obtain ⟨r3, hc3, hf⟩ := bd1_e hf
          refine xvr_LinkAuditModel_149 X hkk hD (Nat.le_of_ble_eq_true rfl) ⟨by dsimp only [rmR]; omega, by dsimp only [rmR]; omega⟩ ⟨Nat.zero_le _, Nat.zero_le _⟩ hc3 hl.1 hP hS d_LinkAuditModel_mostSpecific_27 (fun H locs hP hS => ?_)
          refine lv_if_eq (tgt := 55) hx hb d_LinkAuditModel_mostSpecific_30 (by decide) (fun c4 => ?_) (fun c4 => ?_)
          · have hf := ifp c4 hf
            refine lv_iinc (v := (x6 + (1 : Int32))) (lv' := [(6, .int (x6 + (1 : Int32))), (0, .ref (ad 0)), (1, .int x1), (2, .int x2), (3, .int x3), (4, .int x4), (5, .int x5)]) hx hb d_LinkAuditModel_mostSpecific_55 hl (k := 6) rfl rfl (by decide) rfl (fun ls hl => ?_)
            refine lv_goto (tgt := 3) hx hb d_LinkAuditModel_mostSpecific_58 (by decide) ?_
            exact ih3 (x6 + (1 : Int32)) _ _ _ hf hP hS (lv_sub hl [1, 2, 3, 4, 5, 6, 0] rfl)
          · have hf := ifn c4 hf
            refine lv_aload_n hx hb d_LinkAuditModel_mostSpecific_33 rfl (lv_at hl 0 rfl) ?_
            refine lv_aload_n hx hb d_LinkAuditModel_mostSpecific_34 rfl (lv_at hl 0 rfl) ?_
            refine xg_LinkAuditModel_34 hx hb hta hown hKv hP d_LinkAuditModel_mostSpecific_35 ?_
            refine lv_iload hx hb d_LinkAuditModel_mostSpecific_38 (lv_at hl 6 rfl) ?_
            obtain ⟨g5, hf⟩ := gd_ok hf
            refine x_ild hx hb hKv hP r_c9 g5 d_LinkAuditModel_mostSpecific_40 ?_
            refine lv_aload_n hx hb d_LinkAuditModel_mostSpecific_41 rfl (lv_at hl 0 rfl) ?_
            refine xg_LinkAuditModel_34 hx hb hta hown hKv hP d_LinkAuditModel_mostSpecific_42 ?_
            refine lv_iload_n hx hb d_LinkAuditModel_mostSpecific_45 rfl (lv_at hl 2 rfl) ?_
            obtain ⟨g6, hf⟩ := gd_ok hf
            refine x_ild hx hb hKv hP r_c9 g6 d_LinkAuditModel_mostSpecific_46 ?_
            obtain ⟨r4, hc7, hf⟩ := bd1_e hf
            refine xvr_LinkAuditModel_146 X hkk hD (Nat.le_of_ble_eq_true rfl) ⟨by dsimp only [rmR]; omega, by dsimp only [rmR]; omega⟩ ⟨Nat.zero_le _, Nat.zero_le _⟩ hc7 hl.1 hP hS d_LinkAuditModel_mostSpecific_47 (fun H locs hP hS => ?_)
            refine lv_if_eq (tgt := 55) hx hb d_LinkAuditModel_mostSpecific_50 (by decide) (fun c8 => ?_) (fun c8 => ?_)
            · have hf := ifp c8 hf
              refine lv_iinc (v := (x6 + (1 : Int32))) (lv' := [(6, .int (x6 + (1 : Int32))), (0, .ref (ad 0)), (1, .int x1), (2, .int x2), (3, .int x3), (4, .int x4), (5, .int x5)]) hx hb d_LinkAuditModel_mostSpecific_55 hl (k := 6) rfl rfl (by decide) rfl (fun ls hl => ?_)
              refine lv_goto (tgt := 3) hx hb d_LinkAuditModel_mostSpecific_58 (by decide) ?_
              exact ih3 (x6 + (1 : Int32)) _ _ _ hf hP hS (lv_sub hl [1, 2, 3, 4, 5, 6, 0] rfl)
            · have hf := ifn c8 hf
              rw [hke53] at hf
              refine lv_iconst (v := (0 : Int32)) hx hb d_LinkAuditModel_mostSpecific_53 (by decide) ?_
              exact hret (Or.inl rfl) hf hP hS d_LinkAuditModel_mostSpecific_54
  unfold f_LinkAuditModel_mostSpecific at hf
  refine lv_iconst (v := (1 : Int32)) hx hb d_LinkAuditModel_mostSpecific_0 (by decide) ?_
  refine lv_istore (lv' := [(6, .int (1 : Int32)), (0, .ref (ad 0)), (1, .int a1), (2, .int a2), (3, .int a3), (4, .int a4), (5, .int a5)]) hx hb d_LinkAuditModel_mostSpecific_1 hl (by decide) rfl (fun ls hl => ?_)
  exact L3 a1 a2 a3 a4 a5 _ rfl _ rfl FU (1 : Int32) _ _ _ hf hP hS (lv_sub hl [1, 2, 3, 4, 5, 6, 0] rfl)

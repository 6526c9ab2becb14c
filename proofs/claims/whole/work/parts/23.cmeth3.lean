-- LinkAudit$Links.loadCode
theorem xvc_Links_88 {p : Program} {l : Launch} {e : Env} {R : Room} {s : State} {m : MethodId} {args : Array Value} {below : List Frame} {meth : Method} {c : Code} {H : Heap} {locs : List Loc} {cells slots : Nat} {Q : State → Prop} {cc : ByteArray} {pc : Nat} {ls : Array Slot} {rest : List Value} {D : va_G} {cI cL cG cZ : ClassId} {ad : Nat → Nat} {M : Mem} {H0 : Heap} {M1 : Mem} {nL : Nat} {a0 : Int32} (X : CallFix p m c cc nL s args ALLW "LinkAudit$Links") (hkk : Kk D cI cL cG cZ s) (hD : ∀ M, va_D (c_A ad) (c_ws cI cL cG cZ ad M)) (hrest : (rest.map fun v => v.category).sum ≤ 8) (hR : 2 + 1 ≤ R.frames ∧ 8 + (4 + 11) + 122 ≤ R.locals) (hcs : cells + 0 ≤ R.cells ∧ slots + 0 ≤ R.slots) (hc : f_Links_noteSupers M a0 = some M1) (hsz : ls.size = nL) (hP : va_P D vwC (c_ws cI cL cG cZ ad M) H) (hS : va_S (c_A ad) H0 H locs) (hdg : decode cc pc = .ok (.invokevirtual 88, 3))
    (kk : ∀ (H1 : Heap) (locs1 : List Loc), va_P D vwC (c_ws cI cL cG cZ ad M1) H1 → va_S (c_A ad) H0 H1 locs1 → W p l e R s m args below meth c H1 locs1 cells slots Q (F0 m (pc + 3) ls (rest))) : W p l e R s m args below meth c H locs cells slots Q (F0 m pc ls (.int a0 :: .ref (ad 5) :: rest)) := by
  have hta := X.2.2.2.2
  exact x_afterV (va_runV (As := [.int a0]) (rest := rest) X (c_Links_noteSupers hD hc) ⟨callB_of 1 hta (good_all (L := .code y_Links_noteSupers prog_5_method_9_code 4 none :: ALLW) (List.forall_mem_cons.mpr ⟨wm_479, fun _ h => h⟩)) rfl rfl rfl (hta _ wm_6) (hta _ wm_476) (by decide +kernel) hR, hta _ wm_478, hta _ wp_6⟩ ⟨x_blind Kk_w _, va_recv hkk.1 hP (ci := 5) (q0 := 5) rfl c_c5, x_pre Kk_w hkk hP _⟩ rfl rfl hsz rfl (lv_room hrest) hdg hcs) hS kk
theorem xvcr_Links_81 {p : Program} {l : Launch} {e : Env} {R : Room} {s : State} {m : MethodId} {args : Array Value} {below : List Frame} {meth : Method} {c : Code} {H : Heap} {locs : List Loc} {cells slots : Nat} {Q : State → Prop} {cc : ByteArray} {pc : Nat} {ls : Array Slot} {rest : List Value} {D : va_G} {cI cL cG cZ : ClassId} {ad : Nat → Nat} {M : Mem} {H0 : Heap} {M1 : Mem} {nL : Nat} {a0 : Int32} {a1 : Int32} {a2 : Int32} {a3 : Int32} {r : Int32} (X : CallFix p m c cc nL s args ALLW "LinkAudit$Links") (hkk : Kk D cI cL cG cZ s) (hD : ∀ M, va_D (c_A ad) (c_ws cI cL cG cZ ad M)) {fr : Mem → Int32 → Int32 → Option (Int32 × Mem)} {d lo : Nat} (hrec : ∀ {N N1 : Mem} {b0 : Int32} {b1 : Int32} {r : Int32}, fr N b0 b1 = some (r, N1) → Mi l y_Links_loadCode (.code y_Links_loadCode prog_5_method_7_code 7 (some .int) :: ALLW) (rmR (d) (lo)) (Kk D cI cL cG cZ) D vwC (c_A ad) (c_ws cI cL cG cZ ad) [.ref (ad 5), .int b0, .int b1] N N1 r) (hd : 3 ≤ d) (hlo : 145 ≤ lo) (hrest : (rest.map fun v => v.category).sum ≤ 8) (hR : d + 1 + 1 ≤ R.frames ∧ 8 + (7 + 11) + lo + 26 ≤ R.locals) (hcs : cells + 0 ≤ R.cells ∧ slots + 0 ≤ R.slots) (hc : f_Links_superCode fr M a0 a1 a2 a3 = some (r, M1)) (hsz : ls.size = nL) (hP : va_P D vwC (c_ws cI cL cG cZ ad M) H) (hS : va_S (c_A ad) H0 H locs) (hdg : decode cc pc = .ok (.invokevirtual 81, 3))
    (kk : ∀ (H1 : Heap) (locs1 : List Loc), va_P D vwC (c_ws cI cL cG cZ ad M1) H1 → va_S (c_A ad) H0 H1 locs1 → W p l e R s m args below meth c H1 locs1 cells slots Q (F0 m (pc + 3) ls (.int r :: rest))) : W p l e R s m args below meth c H locs cells slots Q (F0 m pc ls (.int a3 :: .int a2 :: .int a1 :: .int a0 :: .ref (ad 5) :: rest)) := by
  have hta := X.2.2.2.2
  exact x_afterI (va_runV (As := [.int a0, .int a1, .int a2, .int a3]) (rest := rest) X (c_Links_superCode hD hrec hd hlo hc) ⟨callB_of 4 hta (good_all (L := .code y_Links_superCode prog_5_method_8_code 7 (some .int) :: ALLW) (List.forall_mem_cons.mpr ⟨wm_461, fun _ h => h⟩)) rfl rfl rfl (hta _ wm_6) (hta _ wm_458) (by decide +kernel) hR, hta _ wm_460, hta _ wp_5⟩ ⟨x_blind Kk_w _, va_recv hkk.1 hP (ci := 5) (q0 := 5) rfl c_c5, x_pre Kk_w hkk hP _⟩ rfl rfl hsz rfl (lv_room hrest) hdg hcs) hS kk
theorem xvc_Links_70 {p : Program} {l : Launch} {e : Env} {R : Room} {s : State} {m : MethodId} {args : Array Value} {below : List Frame} {meth : Method} {c : Code} {H : Heap} {locs : List Loc} {cells slots : Nat} {Q : State → Prop} {cc : ByteArray} {pc : Nat} {ls : Array Slot} {rest : List Value} {D : va_G} {cI cL cG cZ : ClassId} {ad : Nat → Nat} {M : Mem} {H0 : Heap} {nL : Nat} {a0 : Int32} {r : Int32} (X : CallFix p m c cc nL s args ALLW "LinkAudit$Links") (hkk : Kk D cI cL cG cZ s) (hD : ∀ M, va_D (c_A ad) (c_ws cI cL cG cZ ad M)) (hrest : (rest.map fun v => v.category).sum ≤ 8) (hR : 0 + 1 ≤ R.frames ∧ 8 + (2 + 11) + 0 ≤ R.locals) (hcs : cells + 0 ≤ R.cells ∧ slots + 0 ≤ R.slots) (hc : f_Links_isLoadable M a0 = some r) (hsz : ls.size = nL) (hP : va_P D vwC (c_ws cI cL cG cZ ad M) H) (hS : va_S (c_A ad) H0 H locs) (hdg : decode cc pc = .ok (.invokevirtual 70, 3))
    (kk : ∀ (H1 : Heap) (locs1 : List Loc), va_P D vwC (c_ws cI cL cG cZ ad M) H1 → va_S (c_A ad) H0 H1 locs1 → W p l e R s m args below meth c H1 locs1 cells slots Q (F0 m (pc + 3) ls (.int r :: rest))) : W p l e R s m args below meth c H locs cells slots Q (F0 m pc ls (.int a0 :: .ref (ad 5) :: rest)) := by
  have hta := X.2.2.2.2
  exact x_afterI (va_runV (As := [.int a0]) (rest := rest) X (c_Links_isLoadable hD hc) ⟨callB_of 1 hta (good_all (L := .code y_Links_isLoadable prog_5_method_3_code 2 (some .boolean) :: ALLW) (List.forall_mem_cons.mpr ⟨wm_457, fun _ h => h⟩)) rfl rfl rfl (hta _ wm_6) (hta _ wm_454) (by decide +kernel) hR, hta _ wm_455, hta _ wm_456⟩ ⟨x_blind Kk_w _, va_recv hkk.1 hP (ci := 5) (q0 := 5) rfl c_c5, x_pre Kk_w hkk hP _⟩ rfl rfl hsz rfl (lv_room hrest) hdg hcs) hS kk
set_option maxHeartbeats 4000000 in
set_option maxRecDepth 100000 in
theorem c_Links_loadCode_B {l : Launch} {D : va_G} {cI cL cG cZ : ClassId} {ad : Nat → Nat} {M M' : Mem} {a1 : Int32} {a2 : Int32} {r : Int32} (hD : ∀ M, va_D (c_A ad) (c_ws cI cL cG cZ ad M)) {fr : Mem → Int32 → Int32 → Option (Int32 × Mem)} {d lo : Nat} (hrec : ∀ {N N1 : Mem} {b0 : Int32} {b1 : Int32} {r : Int32}, fr N b0 b1 = some (r, N1) → Mi l y_Links_loadCode (.code y_Links_loadCode prog_5_method_7_code 7 (some .int) :: ALLW) (rmR (d) (lo)) (Kk D cI cL cG cZ) D vwC (c_A ad) (c_ws cI cL cG cZ ad) [.ref (ad 5), .int b0, .int b1] N N1 r) (hd : 3 ≤ d) (hlo : 145 ≤ lo) (hf : f_Links_loadCode_B fr M a1 a2 = some (r, M')) : Mi l y_Links_loadCode (.code y_Links_loadCode prog_5_method_7_code 7 (some .int) :: ALLW) (rmR (d + 2) (lo + 52)) (Kk D cI cL cG cZ) D vwC (c_A ad) (c_ws cI cL cG cZ ad) [.ref (ad 5), .int a1, .int a2] M M' r := by
  refine Mi_of (by decide) (Nat.le_of_ble_eq_true rfl) ?_
  intro p e s m args below meth c ls Q X hkk hret hP hl
  obtain ⟨hx, hb, hml, hown, hta⟩ := id X
  have hKv := hkk.1
  have hS : va_S (c_A ad) s.heap s.heap [] := va_S.rf
  have hl : lv_has ls 7 [(0, .ref (ad 5)), (1, .int a1), (2, .int a2)] := hl
  have b111 : ∀ (M : Mem) (x1 : Int32) (x5 : Int32) (H : Heap) (locs : List Loc) (ls : Array Slot), f_Links_loadCode_B_b111 fr M x1 x5 = some (r, M') → va_P D vwC (c_ws cI cL cG cZ ad M) H → va_S (c_A ad) s.heap H locs → lv_has ls 7 [(0, .ref (ad 5)), (1, .int x1), (5, .int x5)] → W p l e (rmR (d + 2) (lo + 52)) s m args below meth c H locs 0 0 Q (F0 m 111 ls []) := by
    intro M x1 x5 H locs ls hf hP hS hl
    unfold f_Links_loadCode_B_b111 at hf
    refine lv_iload hx hb d_Links_loadCode_111 (lv_at hl 2 rfl) ?_
    refine lv_if_ge (tgt := 119) hx hb d_Links_loadCode_113 (by decide) (fun c1 => ?_) (fun c1 => ?_)
    · have hf := ifp c1 hf
      refine lv_aload_n hx hb d_Links_loadCode_119 rfl (lv_at hl 0 rfl) ?_
      refine lv_iload_n hx hb d_Links_loadCode_120 rfl (lv_at hl 1 rfl) ?_
      obtain ⟨M10, hc2, hf⟩ := bd1_e hf
      refine xvc_Links_88 X hkk hD (Nat.le_of_ble_eq_true rfl) ⟨by dsimp only [rmR]; omega, by dsimp only [rmR]; omega⟩ ⟨Nat.zero_le _, Nat.zero_le _⟩ hc2 hl.1 hP hS d_Links_loadCode_121 (fun H locs hP hS => ?_)
      refine lv_iload_n hx hb d_Links_loadCode_124 rfl (lv_at hl 1 rfl) ?_
      exact hret hf hP hS d_Links_loadCode_125
    · have hf := ifn c1 hf
      refine lv_iload hx hb d_Links_loadCode_116 (lv_at hl 2 rfl) ?_
      exact hret hf hP hS d_Links_loadCode_118
  have L64 : ∀ (x1 : Int32) (x3 : Int32), ∀ (ke111 : Int32 → Mem → Option (Int32 × Mem)), ke111 = (fun y5 M11 => f_Links_loadCode_B_b111 fr M11 x1 y5) → ∀ (n64 : Nat) (x5 : Int32) (x6 : Int32) (M : Mem) (H : Heap) (locs : List Loc) (ls : Array Slot), f_Links_loadCode_B_L64 fr x1 x3 ke111 n64 x5 x6 M = some (r, M') → va_P D vwC (c_ws cI cL cG cZ ad M) H → va_S (c_A ad) s.heap H locs → lv_has ls 7 [(0, .ref (ad 5)), (1, .int x1), (3, .int x3), (5, .int x5), (6, .int x6)] → W p l e (rmR (d + 2) (lo + 52)) s m args below meth c H locs 0 0 Q (F0 m 64 ls []) := by
    intro x1 x3 ke111 hke111 n64
    induction n64 with
    | zero => intro x5 x6 M H locs ls hf; exact absurd (show (none : Option _) = some _ from hf) (fun q => by cases q)
    | succ n64 ih64 =>
      intro x5 x6 M H locs ls hf hP hS hl
      rw [f_Links_loadCode_B_L64] at hf
      refine lv_iload hx hb d_Links_loadCode_64 (lv_at hl 4 rfl) ?_
      refine lv_bipush (v := (12 : Int32)) hx hb d_Links_loadCode_66 (by decide) ?_
      refine lv_icmp_ge (tgt := 111) hx hb d_Links_loadCode_68 (by decide) (fun c3 => ?_) (fun c3 => ?_)
      · have hf := ifp c3 hf
        rw [hke111] at hf
        exact b111 M x1 x5 _ _ _ hf hP hS (lv_sub hl [0, 1, 3] rfl)
      · have hf := ifn c3 hf
        refine lv_iload hx hb d_Links_loadCode_71 (lv_at hl 3 rfl) ?_
        refine lv_if_le (tgt := 111) hx hb d_Links_loadCode_73 (by decide) (fun c4 => ?_) (fun c4 => ?_)
        · have hf := ifp c4 hf
          rw [hke111] at hf
          exact b111 M x1 x5 _ _ _ hf hP hS (lv_sub hl [0, 1, 3] rfl)
        · have hf := ifn c4 hf
          refine lv_aload_n hx hb d_Links_loadCode_76 rfl (lv_at hl 0 rfl) ?_
          refine xg_Links_40 hx hb hta hown hKv hP d_Links_loadCode_77 ?_
          refine xg_Links_85 hx hb hta hown hKv hP d_Links_loadCode_80 ?_
          refine lv_iload_n hx hb d_Links_loadCode_83 rfl (lv_at hl 1 rfl) ?_
          obtain ⟨g5, hf⟩ := gd_ok hf
          refine x_ild hx hb hKv hP c_c28 g5 d_Links_loadCode_84 ?_
          refine lv_i2l hx hb d_Links_loadCode_85 rfl ?_
          refine lv_iload hx hb d_Links_loadCode_86 (lv_at hl 4 rfl) ?_
          obtain ⟨r12, hc6, hf⟩ := bd1_e hf
          refine xvc_Links_59 X hkk hD (Nat.le_of_ble_eq_true rfl) ⟨by dsimp only [rmR]; omega, by dsimp only [rmR]; omega⟩ ⟨Nat.zero_le _, Nat.zero_le _⟩ hc6 hl.1 hP hS d_Links_loadCode_88 (fun H locs hP hS => ?_)
          refine lv_if_eq (tgt := 105) hx hb d_Links_loadCode_91 (by decide) (fun c7 => ?_) (fun c7 => ?_)
          · have hf := ifp c7 hf
            refine lv_iinc (v := (x6 + (1 : Int32))) (lv' := [(6, .int (x6 + (1 : Int32))), (0, .ref (ad 5)), (1, .int x1), (3, .int x3), (5, .int x5)]) hx hb d_Links_loadCode_105 hl (k := 4) rfl rfl (by decide) rfl (fun ls hl => ?_)
            refine lv_goto (tgt := 64) hx hb d_Links_loadCode_108 (by decide) ?_
            exact ih64 x5 (x6 + (1 : Int32)) M _ _ _ hf hP hS (lv_sub hl [1, 2, 3, 4, 0] rfl)
          · have hf := ifn c7 hf
            refine lv_aload_n hx hb d_Links_loadCode_94 rfl (lv_at hl 0 rfl) ?_
            refine lv_iload_n hx hb d_Links_loadCode_95 rfl (lv_at hl 1 rfl) ?_
            refine lv_iload hx hb d_Links_loadCode_96 (lv_at hl 4 rfl) ?_
            refine lv_iconst (v := (1 : Int32)) hx hb d_Links_loadCode_98 (by decide) ?_
            refine lv_iload_n hx hb d_Links_loadCode_99 rfl (lv_at hl 2 rfl) ?_
            obtain ⟨r14, M13, hc8, hf⟩ := bd2_e hf
            refine xvcr_Links_81 X hkk hD hrec hd hlo (Nat.le_of_ble_eq_true rfl) ⟨by dsimp only [rmR]; omega, by dsimp only [rmR]; omega⟩ ⟨Nat.zero_le _, Nat.zero_le _⟩ hc8 hl.1 hP hS d_Links_loadCode_100 (fun H locs hP hS => ?_)
            refine lv_istore (lv' := [(5, .int r14), (0, .ref (ad 5)), (1, .int x1), (3, .int x3), (6, .int x6)]) hx hb d_Links_loadCode_103 hl (by decide) rfl (fun ls hl => ?_)
            refine lv_iinc (v := (x6 + (1 : Int32))) (lv' := [(6, .int (x6 + (1 : Int32))), (5, .int r14), (0, .ref (ad 5)), (1, .int x1), (3, .int x3)]) hx hb d_Links_loadCode_105 hl (k := 4) rfl rfl (by decide) rfl (fun ls hl => ?_)
            refine lv_goto (tgt := 64) hx hb d_Links_loadCode_108 (by decide) ?_
            exact ih64 r14 (x6 + (1 : Int32)) M13 _ _ _ hf hP hS (lv_sub hl [2, 3, 4, 1, 0] rfl)
  have b59 : ∀ (M : Mem) (x1 : Int32) (x3 : Int32) (t0 : Int32) (H : Heap) (locs : List Loc) (ls : Array Slot), f_Links_loadCode_B_b59 fr M x1 x3 t0 = some (r, M') → va_P D vwC (c_ws cI cL cG cZ ad M) H → va_S (c_A ad) s.heap H locs → lv_has ls 7 [(0, .ref (ad 5)), (1, .int x1), (3, .int x3)] → W p l e (rmR (d + 2) (lo + 52)) s m args below meth c H locs 0 0 Q (F0 m 59 ls [.int t0]) := by
    intro M x1 x3 t0 H locs ls hf hP hS hl
    unfold f_Links_loadCode_B_b59 at hf
    refine lv_istore (lv' := [(5, .int t0), (0, .ref (ad 5)), (1, .int x1), (3, .int x3)]) hx hb d_Links_loadCode_59 hl (by decide) rfl (fun ls hl => ?_)
    refine lv_iconst (v := (0 : Int32)) hx hb d_Links_loadCode_61 (by decide) ?_
    refine lv_istore (lv' := [(6, .int (0 : Int32)), (5, .int t0), (0, .ref (ad 5)), (1, .int x1), (3, .int x3)]) hx hb d_Links_loadCode_62 hl (by decide) rfl (fun ls hl => ?_)
    exact L64 x1 x3 _ rfl FU t0 (0 : Int32) M _ _ _ hf hP hS (lv_sub hl [2, 3, 4, 1, 0] rfl)
  unfold f_Links_loadCode_B at hf
  refine lv_iload_n hx hb d_Links_loadCode_0 rfl (lv_at hl 2 rfl) ?_
  refine lv_i2l hx hb d_Links_loadCode_1 rfl ?_
  refine lv_iload_n hx hb d_Links_loadCode_2 rfl (lv_at hl 1 rfl) ?_
  obtain ⟨r15, hc9, hf⟩ := bd1_e hf
  refine xvc_Links_59 X hkk hD (Nat.le_of_ble_eq_true rfl) ⟨by dsimp only [rmR]; omega, by dsimp only [rmR]; omega⟩ ⟨Nat.zero_le _, Nat.zero_le _⟩ hc9 hl.1 hP hS d_Links_loadCode_3 (fun H locs hP hS => ?_)
  refine lv_if_eq (tgt := 12) hx hb d_Links_loadCode_6 (by decide) (fun c10 => ?_) (fun c10 => ?_)
  · have hf := ifp c10 hf
    refine lv_aload_n hx hb d_Links_loadCode_12 rfl (lv_at hl 0 rfl) ?_
    refine lv_iload_n hx hb d_Links_loadCode_13 rfl (lv_at hl 1 rfl) ?_
    obtain ⟨r16, hc11, hf⟩ := bd1_e hf
    refine xvc_Links_70 X hkk hD (Nat.le_of_ble_eq_true rfl) ⟨by dsimp only [rmR]; omega, by dsimp only [rmR]; omega⟩ ⟨Nat.zero_le _, Nat.zero_le _⟩ hc11 hl.1 hP hS d_Links_loadCode_14 (fun H locs hP hS => ?_)
    refine lv_if_eq (tgt := 22) hx hb d_Links_loadCode_17 (by decide) (fun c12 => ?_) (fun c12 => ?_)
    · have hf := ifp c12 hf
      refine lv_iload_n hx hb d_Links_loadCode_22 rfl (lv_at hl 2 rfl) ?_
      refine lv_iconst (v := (1 : Int32)) hx hb d_Links_loadCode_23 (by decide) ?_
      refine lv_iload_n hx hb d_Links_loadCode_24 rfl (lv_at hl 1 rfl) ?_
      refine lv_ishl hx hb d_Links_loadCode_25 ?_
      refine lv_ior hx hb d_Links_loadCode_26 ?_
      refine lv_istore_n (lv' := [(3, .int (a2 ||| ((1 : Int32) <<< (a1 &&& 31)))), (0, .ref (ad 5)), (1, .int a1), (2, .int a2)]) hx hb d_Links_loadCode_27 rfl hl (by decide) rfl (fun ls hl => ?_)
      refine lv_aload_n hx hb d_Links_loadCode_28 rfl (lv_at hl 1 rfl) ?_
      refine xg_Links_40 hx hb hta hown hKv hP d_Links_loadCode_29 ?_
      refine xg_Links_78 hx hb hta hown hKv hP d_Links_loadCode_32 ?_
      refine lv_iload_n hx hb d_Links_loadCode_35 rfl (lv_at hl 2 rfl) ?_
      obtain ⟨g13, hf⟩ := gd_ok hf
      refine x_ild hx hb hKv hP c_c27 g13 d_Links_loadCode_36 ?_
      refine lv_istore (lv' := [(4, .int (M.1 27 a1.toNatClampNeg)), (3, .int (a2 ||| ((1 : Int32) <<< (a1 &&& 31)))), (0, .ref (ad 5)), (1, .int a1), (2, .int a2)]) hx hb d_Links_loadCode_37 hl (by decide) rfl (fun ls hl => ?_)
      refine lv_iload hx hb d_Links_loadCode_39 (lv_at hl 0 rfl) ?_
      refine lv_bipush (v := (12 : Int32)) hx hb d_Links_loadCode_41 (by decide) ?_
      refine lv_icmp_ne (tgt := 50) hx hb d_Links_loadCode_43 (by decide) (fun c14 => ?_) (fun c14 => ?_)
      · have hf := ifn c14 hf
        refine lv_aload_n hx hb d_Links_loadCode_50 rfl (lv_at hl 2 rfl) ?_
        refine lv_iload_n hx hb d_Links_loadCode_51 rfl (lv_at hl 3 rfl) ?_
        refine lv_iload hx hb d_Links_loadCode_52 (lv_at hl 0 rfl) ?_
        refine lv_iconst (v := (0 : Int32)) hx hb d_Links_loadCode_54 (by decide) ?_
        refine lv_iload_n hx hb d_Links_loadCode_55 rfl (lv_at hl 1 rfl) ?_
        obtain ⟨r18, M17, hc15, hf⟩ := bd2_e hf
        refine xvcr_Links_81 X hkk hD hrec hd hlo (Nat.le_of_ble_eq_true rfl) ⟨by dsimp only [rmR]; omega, by dsimp only [rmR]; omega⟩ ⟨Nat.zero_le _, Nat.zero_le _⟩ hc15 hl.1 hP hS d_Links_loadCode_56 (fun H locs hP hS => ?_)
        exact b59 M17 a1 (a2 ||| ((1 : Int32) <<< (a1 &&& 31))) r18 _ _ _ hf hP hS (lv_sub hl [2, 3, 1] rfl)
      · have hf := ifp c14 hf
        refine lv_iload_n hx hb d_Links_loadCode_46 rfl (lv_at hl 3 rfl) ?_
        refine lv_goto (tgt := 59) hx hb d_Links_loadCode_47 (by decide) ?_
        exact b59 M a1 (a2 ||| ((1 : Int32) <<< (a1 &&& 31))) a1 _ _ _ hf hP hS (lv_sub hl [2, 3, 1] rfl)
    · have hf := ifn c12 hf
      refine lv_iload_n hx hb d_Links_loadCode_20 rfl (lv_at hl 1 rfl) ?_
      exact hret hf hP hS d_Links_loadCode_21
  · have hf := ifn c10 hf
    refine lv_bipush (v := (-4 : Int32)) hx hb d_Links_loadCode_9 (by decide) ?_
    exact hret hf hP hS d_Links_loadCode_11
theorem c_Links_loadCode_d {l : Launch} {D : va_G} {cI cL cG cZ : ClassId} {ad : Nat → Nat} (hD : ∀ M, va_D (c_A ad) (c_ws cI cL cG cZ ad M)) : ∀ n : Nat, ∀ {N N1 : Mem} {b0 : Int32} {b1 : Int32} {r : Int32}, f_Links_loadCode n N b0 b1 = some (r, N1) → Mi l y_Links_loadCode (.code y_Links_loadCode prog_5_method_7_code 7 (some .int) :: ALLW) (rmR (3 + 2 * n) (145 + 52 * n)) (Kk D cI cL cG cZ) D vwC (c_A ad) (c_ws cI cL cG cZ ad) [.ref (ad 5), .int b0, .int b1] N N1 r := by
  intro n
  induction n with
  | zero =>
    intro N N1 b0 b1 r h
    exact absurd (show (none : Option _) = some _ from h) (fun q => by cases q)
  | succ n ih =>
    intro N N1 b0 b1 r h
    rw [show 3 + 2 * (n + 1) = 3 + 2 * n + 2 by omega, show 145 + 52 * (n + 1) = 145 + 52 * n + 52 by omega]
    exact c_Links_loadCode_B hD ih (by omega) (by omega) h
theorem c_Links_loadCode {l : Launch} {D : va_G} {cI cL cG cZ : ClassId} {ad : Nat → Nat} {N N1 : Mem} {b0 : Int32} {b1 : Int32} {r : Int32} (hD : ∀ M, va_D (c_A ad) (c_ws cI cL cG cZ ad M)) (h : f_Links_loadCode DP N b0 b1 = some (r, N1)) : Mi l y_Links_loadCode (.code y_Links_loadCode prog_5_method_7_code 7 (some .int) :: ALLW) (rmR (83) (2225)) (Kk D cI cL cG cZ) D vwC (c_A ad) (c_ws cI cL cG cZ ad) [.ref (ad 5), .int b0, .int b1] N N1 r := c_Links_loadCode_d hD DP h
-- LinkAudit$Links.renew
theorem xg_Links_50 {p : Program} {l : Launch} {e : Env} {R : Room} {s : State} {m : MethodId} {args : Array Value} {below : List Frame} {meth : Method} {c : Code} {H : Heap} {locs : List Loc} {cells slots : Nat} {Q : State → Prop} {cc : ByteArray} {pc : Nat} {ls : Array Slot} {rest : List Value} {D : va_G} {cI cL cG cZ : ClassId} {ad : Nat → Nat} {M : Mem} (hx : p.tables.exec = Jvm.exec) (hb : c.code = cc) (hta : ∀ w ∈ ALLW, w.before args s = true) (hown : s.vm.findClass "LinkAudit$Links" = some m.cls) (hK : va_K D vwC [(cI, .int), (cL, .long), (cG, .array .int), (cZ, .boolean)] s) (hP : va_P D vwC (c_ws cI cL cG cZ ad M) H) (hdg : decode cc pc = .ok (.getfield 50, 3))
    (kk : W p l e R s m args below meth c H locs cells slots Q (F0 m (pc + 3) ls (.int (M.1 2 5) :: rest))) : W p l e R s m args below meth c H locs cells slots Q (F0 m pc ls (.ref (ad 2) :: rest)) :=
  va_get (D := D) (ci := 2) (v := .int (M.1 2 5)) (C := "LinkAudit$Classes") (T := T_Classes) (N := 6) hx hb hta i_Classes hown hK hP 2 c_c2 rfl 5 (by decide) (hta _ wm_66) (fun _ h9 => h9) rfl hdg kk
theorem xvc_Links_55 {p : Program} {l : Launch} {e : Env} {R : Room} {s : State} {m : MethodId} {args : Array Value} {below : List Frame} {meth : Method} {c : Code} {H : Heap} {locs : List Loc} {cells slots : Nat} {Q : State → Prop} {cc : ByteArray} {pc : Nat} {ls : Array Slot} {rest : List Value} {D : va_G} {cI cL cG cZ : ClassId} {ad : Nat → Nat} {M : Mem} {H0 : Heap} {M1 : Mem} {nL : Nat} {a0 : Int32} {a1 : Int32} {r : Int32} (X : CallFix p m c cc nL s args ALLW "LinkAudit$Links") (hkk : Kk D cI cL cG cZ s) (hD : ∀ M, va_D (c_A ad) (c_ws cI cL cG cZ ad M)) (hrest : (rest.map fun v => v.category).sum ≤ 8) (hR : 83 + 1 ≤ R.frames ∧ 8 + (7 + 11) + 2225 ≤ R.locals) (hcs : cells + 0 ≤ R.cells ∧ slots + 0 ≤ R.slots) (hc : f_Links_loadCode DP M a0 a1 = some (r, M1)) (hsz : ls.size = nL) (hP : va_P D vwC (c_ws cI cL cG cZ ad M) H) (hS : va_S (c_A ad) H0 H locs) (hdg : decode cc pc = .ok (.invokevirtual 55, 3))
    (kk : ∀ (H1 : Heap) (locs1 : List Loc), va_P D vwC (c_ws cI cL cG cZ ad M1) H1 → va_S (c_A ad) H0 H1 locs1 → W p l e R s m args below meth c H1 locs1 cells slots Q (F0 m (pc + 3) ls (.int r :: rest))) : W p l e R s m args below meth c H locs cells slots Q (F0 m pc ls (.int a1 :: .int a0 :: .ref (ad 5) :: rest)) := by
  have hta := X.2.2.2.2
  exact x_afterI (va_runV (As := [.int a0, .int a1]) (rest := rest) X (c_Links_loadCode hD hc) ⟨callB_of 2 hta (good_all (L := .code y_Links_loadCode prog_5_method_7_code 7 (some .int) :: ALLW) (List.forall_mem_cons.mpr ⟨wm_452, fun _ h => h⟩)) rfl rfl rfl (hta _ wm_6) (hta _ wm_449) (by decide +kernel) hR, hta _ wm_451, hta _ wp_4⟩ ⟨x_blind Kk_w _, va_recv hkk.1 hP (ci := 5) (q0 := 5) rfl c_c5, x_pre Kk_w hkk hP _⟩ rfl rfl hsz rfl (lv_room hrest) hdg hcs) hS kk
theorem xvc_Links_44 {p : Program} {l : Launch} {e : Env} {R : Room} {s : State} {m : MethodId} {args : Array Value} {below : List Frame} {meth : Method} {c : Code} {H : Heap} {locs : List Loc} {cells slots : Nat} {Q : State → Prop} {cc : ByteArray} {pc : Nat} {ls : Array Slot} {rest : List Value} {D : va_G} {cI cL cG cZ : ClassId} {ad : Nat → Nat} {M : Mem} {H0 : Heap} {M1 : Mem} {nL : Nat} {a1 : Int32} (X : CallFix p m c cc nL s args ALLW "LinkAudit$Links") (hkk : Kk D cI cL cG cZ s) (hD : ∀ M, va_D (c_A ad) (c_ws cI cL cG cZ ad M)) (hrest : (rest.map fun v => v.category).sum ≤ 8) (hR : 0 + 1 ≤ R.frames ∧ 8 + (4 + 11) + 0 ≤ R.locals) (hcs : cells + 0 ≤ R.cells ∧ slots + 0 ≤ R.slots) (hc : f_Arrays_fill M a1 = some M1) (hsz : ls.size = nL) (hP : va_P D vwC (c_ws cI cL cG cZ ad M) H) (hS : va_S (c_A ad) H0 H locs) (hdg : decode cc pc = .ok (.invokestatic 44, 3))
    (kk : ∀ (H1 : Heap) (locs1 : List Loc), va_P D vwC (c_ws cI cL cG cZ ad M1) H1 → va_S (c_A ad) H0 H1 locs1 → W p l e R s m args below meth c H1 locs1 cells slots Q (F0 m (pc + 3) ls (rest))) : W p l e R s m args below meth c H locs cells slots Q (F0 m pc ls (.int a1 :: .ref (ad 37) :: rest)) := by
  have hta := X.2.2.2.2
  exact x_afterV (va_runS (As := [.ref (ad 37), .int a1]) (rest := rest) X (c_Arrays_fill hD hc) ⟨callB_of 2 hta (good_all (L := .code y_Arrays_fill prog_15_method_103_code 4 none :: ALLW) (List.forall_mem_cons.mpr ⟨wm_448, fun _ h => h⟩)) rfl rfl rfl (hta _ wm_12) (hta _ wm_446) (by decide +kernel) hR, hta _ wm_447⟩ ⟨x_blind Kk_w _, x_pre Kk_w hkk hP _⟩ rfl rfl hsz rfl (lv_room hrest) hdg hcs) hS kk
set_option maxHeartbeats 4000000 in
set_option maxRecDepth 100000 in
theorem c_Links_renew {l : Launch} {D : va_G} {cI cL cG cZ : ClassId} {ad : Nat → Nat} {M M' : Mem}  (hD : ∀ M, va_D (c_A ad) (c_ws cI cL cG cZ ad M)) (hf : f_Links_renew M = some M') : Mv l y_Links_renew (.code y_Links_renew prog_5_method_2_code 2 none :: ALLW) (rmR 84 2251) (Kk D cI cL cG cZ) D vwC (c_A ad) (c_ws cI cL cG cZ ad) [.ref (ad 5)] M M' := by
  refine Mv_of (by decide) (Nat.le_of_ble_eq_true rfl) ?_
  intro p e s m args below meth c ls Q X hkk hret hP hl
  obtain ⟨hx, hb, hml, hown, hta⟩ := id X
  have hKv := hkk.1
  have hS : va_S (c_A ad) s.heap s.heap [] := va_S.rf
  have hl : lv_has ls 2 [(0, .ref (ad 5))] := hl
  have L15 : ∀ (ke44 : Mem → Option Mem), ke44 = (fun M7 => some M7) → ∀ (n15 : Nat) (x1 : Int32) (M : Mem) (H : Heap) (locs : List Loc) (ls : Array Slot), f_Links_renew_L15 ke44 n15 x1 M = some M' → va_P D vwC (c_ws cI cL cG cZ ad M) H → va_S (c_A ad) s.heap H locs → lv_has ls 2 [(0, .ref (ad 5)), (1, .int x1)] → W p l e (rmR 84 2251) s m args below meth c H locs 0 0 Q (F0 m 15 ls []) := by
    intro ke44 hke44 n15
    induction n15 with
    | zero => intro x1 M H locs ls hf; exact absurd (show (none : Option _) = some _ from hf) (fun q => by cases q)
    | succ n15 ih15 =>
      intro x1 M H locs ls hf hP hS hl
      rw [f_Links_renew_L15] at hf
      refine lv_iload_n hx hb d_Links_renew_15 rfl (lv_at hl 1 rfl) ?_
      refine lv_aload_n hx hb d_Links_renew_16 rfl (lv_at hl 0 rfl) ?_
      refine xg_Links_40 hx hb hta hown hKv hP d_Links_renew_17 ?_
      refine xg_Links_50 hx hb hta hown hKv hP d_Links_renew_20 ?_
      refine lv_icmp_gt (tgt := 44) hx hb d_Links_renew_23 (by decide) (fun c1 => ?_) (fun c1 => ?_)
      · have hf := ifp c1 hf
        rw [hke44] at hf
        exact hret hf hP hS d_Links_renew_44
      · have hf := ifn c1 hf
        refine lv_aload_n hx hb d_Links_renew_26 rfl (lv_at hl 0 rfl) ?_
        refine xg_Links_9 hx hb hta hown hKv hP d_Links_renew_27 ?_
        refine lv_iload_n hx hb d_Links_renew_30 rfl (lv_at hl 1 rfl) ?_
        refine lv_aload_n hx hb d_Links_renew_31 rfl (lv_at hl 0 rfl) ?_
        refine lv_iload_n hx hb d_Links_renew_32 rfl (lv_at hl 1 rfl) ?_
        refine lv_iconst (v := (0 : Int32)) hx hb d_Links_renew_33 (by decide) ?_
        obtain ⟨r9, M8, hc2, hf⟩ := bd2_e hf
        refine xvc_Links_55 X hkk hD (Nat.le_of_ble_eq_true rfl) ⟨by dsimp only [rmR]; omega, by dsimp only [rmR]; omega⟩ ⟨Nat.zero_le _, Nat.zero_le _⟩ hc2 hl.1 hP hS d_Links_renew_34 (fun H locs hP hS => ?_)
        obtain ⟨g3, hf⟩ := gd_ok hf
        obtain ⟨M10, eM10, hf⟩ := sm_e hf
        refine x_ist hx hb hKv hP (hD _) hS c_c37 c_s37 g3 eM10 d_Links_renew_37 (fun H locs hP hS => ?_)
        refine lv_iinc (v := (x1 + (1 : Int32))) (lv' := [(1, .int (x1 + (1 : Int32))), (0, .ref (ad 5))]) hx hb d_Links_renew_38 hl (k := 1) rfl rfl (by decide) rfl (fun ls hl => ?_)
        refine lv_goto (tgt := 15) hx hb d_Links_renew_41 (by decide) ?_
        exact ih15 (x1 + (1 : Int32)) M10 _ _ _ hf hP hS (lv_sub hl [1, 0] rfl)
  unfold f_Links_renew at hf
  refine lv_aload_n hx hb d_Links_renew_0 rfl (lv_at hl 0 rfl) ?_
  refine lv_iconst (v := (0 : Int32)) hx hb d_Links_renew_1 (by decide) ?_
  obtain ⟨M11, eM11, hf⟩ := sm_e hf
  refine xp_Links_32 hx hb hta hown hKv hP (hD _) hS eM11 d_Links_renew_2 (fun H locs hP hS => ?_)
  refine lv_aload_n hx hb d_Links_renew_5 rfl (lv_at hl 0 rfl) ?_
  refine xg_Links_9 hx hb hta hown hKv hP d_Links_renew_6 ?_
  refine lv_iconst (v := (0 : Int32)) hx hb d_Links_renew_9 (by decide) ?_
  obtain ⟨M12, hc4, hf⟩ := bd1_e hf
  refine xvc_Links_44 X hkk hD (Nat.le_of_ble_eq_true rfl) ⟨by dsimp only [rmR]; omega, by dsimp only [rmR]; omega⟩ ⟨Nat.zero_le _, Nat.zero_le _⟩ hc4 hl.1 hP hS d_Links_renew_10 (fun H locs hP hS => ?_)
  refine lv_iconst (v := (1 : Int32)) hx hb d_Links_renew_13 (by decide) ?_
  refine lv_istore_n (lv' := [(1, .int (1 : Int32)), (0, .ref (ad 5))]) hx hb d_Links_renew_14 rfl hl (by decide) rfl (fun ls hl => ?_)
  exact L15  _ rfl FU (1 : Int32) M12 _ _ _ hf hP hS (lv_sub hl [1, 0] rfl)
-- LinkAudit$Selector.likeOnes
theorem xg_Selector_33 {p : Program} {l : Launch} {e : Env} {R : Room} {s : State} {m : MethodId} {args : Array Value} {below : List Frame} {meth : Method} {c : Code} {H : Heap} {locs : List Loc} {cells slots : Nat} {Q : State → Prop} {cc : ByteArray} {pc : Nat} {ls : Array Slot} {rest : List Value} {D : va_G} {cI cL cG cZ : ClassId} {ad : Nat → Nat} {M : Mem} (hx : p.tables.exec = Jvm.exec) (hb : c.code = cc) (hta : ∀ w ∈ ALLW, w.before args s = true) (hown : s.vm.findClass "LinkAudit$Selector" = some m.cls) (hK : va_K D vwC [(cI, .int), (cL, .long), (cG, .array .int), (cZ, .boolean)] s) (hP : va_P D vwC (c_ws cI cL cG cZ ad M) H) (hdg : decode cc pc = .ok (.getfield 33, 3))
    (kk : W p l e R s m args below meth c H locs cells slots Q (F0 m (pc + 3) ls (.ref (ad 3) :: rest))) : W p l e R s m args below meth c H locs cells slots Q (F0 m pc ls (.ref (ad 8) :: rest)) :=
  va_get (D := D) (ci := 8) (v := .ref (ad 3)) (C := "LinkAudit$Selector") (T := T_Selector) (N := 5) hx hb hta i_Selector hown hK hP 8 c_c8 rfl 2 (by decide) (hta _ wm_254) (fun _ h9 => h9) rfl hdg kk
theorem xg_Selector_88 {p : Program} {l : Launch} {e : Env} {R : Room} {s : State} {m : MethodId} {args : Array Value} {below : List Frame} {meth : Method} {c : Code} {H : Heap} {locs : List Loc} {cells slots : Nat} {Q : State → Prop} {cc : ByteArray} {pc : Nat} {ls : Array Slot} {rest : List Value} {D : va_G} {cI cL cG cZ : ClassId} {ad : Nat → Nat} {M : Mem} (hx : p.tables.exec = Jvm.exec) (hb : c.code = cc) (hta : ∀ w ∈ ALLW, w.before args s = true) (hown : s.vm.findClass "LinkAudit$Selector" = some m.cls) (hK : va_K D vwC [(cI, .int), (cL, .long), (cG, .array .int), (cZ, .boolean)] s) (hP : va_P D vwC (c_ws cI cL cG cZ ad M) H) (hdg : decode cc pc = .ok (.getfield 88, 3))
    (kk : W p l e R s m args below meth c H locs cells slots Q (F0 m (pc + 3) ls (.ref (ad 30) :: rest))) : W p l e R s m args below meth c H locs cells slots Q (F0 m pc ls (.ref (ad 3) :: rest)) :=
  va_get (D := D) (ci := 3) (v := .ref (ad 30)) (C := "LinkAudit$Members") (T := T_Members) (N := 7) hx hb hta i_Members hown hK hP 3 c_c3 rfl 1 (by decide) (hta _ wm_94) (fun _ h9 => h9) rfl hdg kk
theorem xvc_Selector_91 {p : Program} {l : Launch} {e : Env} {R : Room} {s : State} {m : MethodId} {args : Array Value} {below : List Frame} {meth : Method} {c : Code} {H : Heap} {locs : List Loc} {cells slots : Nat} {Q : State → Prop} {cc : ByteArray} {pc : Nat} {ls : Array Slot} {rest : List Value} {D : va_G} {cI cL cG cZ : ClassId} {ad : Nat → Nat} {M : Mem} {H0 : Heap} {nL : Nat} {a0 : Int32} {r : Int64} (X : CallFix p m c cc nL s args ALLW "LinkAudit$Selector") (hkk : Kk D cI cL cG cZ s) (hD : ∀ M, va_D (c_A ad) (c_ws cI cL cG cZ ad M)) (hrest : (rest.map fun v => v.category).sum ≤ 8) (hR : 0 + 1 ≤ R.frames ∧ 8 + (5 + 11) + 0 ≤ R.locals) (hcs : cells + 0 ≤ R.cells ∧ slots + 0 ≤ R.slots) (hc : f_Members_withSignature M a0 = some r) (hsz : ls.size = nL) (hP : va_P D vwC (c_ws cI cL cG cZ ad M) H) (hS : va_S (c_A ad) H0 H locs) (hdg : decode cc pc = .ok (.invokevirtual 91, 3))
    (kk : ∀ (H1 : Heap) (locs1 : List Loc), va_P D vwC (c_ws cI cL cG cZ ad M) H1 → va_S (c_A ad) H0 H1 locs1 → W p l e R s m args below meth c H1 locs1 cells slots Q (F0 m (pc + 3) ls (.long r :: rest))) : W p l e R s m args below meth c H locs cells slots Q (F0 m pc ls (.int a0 :: .ref (ad 3) :: rest)) := by
  have hta := X.2.2.2.2
  exact x_afterL (va_runV (As := [.int a0]) (rest := rest) X (c_Members_withSignature hD hc) ⟨callB_of 1 hta (good_all (L := .code y_Members_withSignature prog_7_method_10_code 5 (some .long) :: ALLW) (List.forall_mem_cons.mpr ⟨wm_385, fun _ h => h⟩)) rfl rfl rfl (hta _ wm_4) (hta _ wm_500) (by decide +kernel) hR, hta _ wm_383, hta _ wm_384⟩ ⟨x_blind Kk_w _, va_recv hkk.1 hP (ci := 3) (q0 := 3) rfl c_c3, x_pre Kk_w hkk hP _⟩ rfl rfl hsz rfl (lv_room hrest) hdg hcs) hS kk
theorem xg_Selector_54 {p : Program} {l : Launch} {e : Env} {R : Room} {s : State} {m : MethodId} {args : Array Value} {below : List Frame} {meth : Method} {c : Code} {H : Heap} {locs : List Loc} {cells slots : Nat} {Q : State → Prop} {cc : ByteArray} {pc : Nat} {ls : Array Slot} {rest : List Value} {D : va_G} {cI cL cG cZ : ClassId} {ad : Nat → Nat} {M : Mem} (hx : p.tables.exec = Jvm.exec) (hb : c.code = cc) (hta : ∀ w ∈ ALLW, w.before args s = true) (hown : s.vm.findClass "LinkAudit$Selector" = some m.cls) (hK : va_K D vwC [(cI, .int), (cL, .long), (cG, .array .int), (cZ, .boolean)] s) (hP : va_P D vwC (c_ws cI cL cG cZ ad M) H) (hdg : decode cc pc = .ok (.getfield 54, 3))
    (kk : W p l e R s m args below meth c H locs cells slots Q (F0 m (pc + 3) ls (.long (M.2 3 4) :: rest))) : W p l e R s m args below meth c H locs cells slots Q (F0 m pc ls (.ref (ad 3) :: rest)) :=
  va_get (D := D) (ci := 3) (v := .long (M.2 3 4)) (C := "LinkAudit$Members") (T := T_Members) (N := 7) hx hb hta i_Members hown hK hP 3 c_c3 rfl 4 (by decide) (hta _ wm_102) (fun _ h9 => h9) rfl hdg kk
set_option maxHeartbeats 4000000 in
set_option maxRecDepth 100000 in
theorem c_Selector_likeOnes {l : Launch} {D : va_G} {cI cL cG cZ : ClassId} {ad : Nat → Nat} {M : Mem} {a1 : Int32} {r : Int64} (hD : ∀ M, va_D (c_A ad) (c_ws cI cL cG cZ ad M)) (hf : f_Selector_likeOnes M a1 = some r) : Ml l y_Selector_likeOnes (.code y_Selector_likeOnes prog_10_method_4_code 2 (some .long) :: ALLW) (rmR 1 24) (Kk D cI cL cG cZ) D vwC (c_A ad) (c_ws cI cL cG cZ ad) [.ref (ad 8), .int a1] M M r := by
  refine Ml_ofR (by decide) (Nat.le_of_ble_eq_true rfl) ?_
  intro p e s m args below meth c ls Q X hkk hret hP hl
  obtain ⟨hx, hb, hml, hown, hta⟩ := id X
  have hKv := hkk.1
  have hS : va_S (c_A ad) s.heap s.heap [] := va_S.rf
  have hl : lv_has ls 2 [(0, .ref (ad 8)), (1, .int a1)] := hl
  unfold f_Selector_likeOnes at hf
  refine lv_aload_n hx hb d_Selector_likeOnes_0 rfl (lv_at hl 0 rfl) ?_
  refine xg_Selector_33 hx hb hta hown hKv hP d_Selector_likeOnes_1 ?_
  refine lv_aload_n hx hb d_Selector_likeOnes_4 rfl (lv_at hl 0 rfl) ?_
  refine xg_Selector_33 hx hb hta hown hKv hP d_Selector_likeOnes_5 ?_
  refine xg_Selector_88 hx hb hta hown hKv hP d_Selector_likeOnes_8 ?_
  refine lv_iload_n hx hb d_Selector_likeOnes_11 rfl (lv_at hl 1 rfl) ?_
  obtain ⟨g1, hf⟩ := gd_ok hf
  refine x_ild hx hb hKv hP c_c30 g1 d_Selector_likeOnes_12 ?_
  obtain ⟨r2, hc2, hf⟩ := bd1_e hf
  refine xvc_Selector_91 X hkk hD (Nat.le_of_ble_eq_true rfl) ⟨by dsimp only [rmR]; omega, by dsimp only [rmR]; omega⟩ ⟨Nat.zero_le _, Nat.zero_le _⟩ hc2 hl.1 hP hS d_Selector_likeOnes_13 (fun H locs hP hS => ?_)
  refine lv_aload_n hx hb d_Selector_likeOnes_16 rfl (lv_at hl 0 rfl) ?_
  refine xg_Selector_33 hx hb hta hown hKv hP d_Selector_likeOnes_17 ?_
  refine xg_Selector_54 hx hb hta hown hKv hP d_Selector_likeOnes_20 ?_
  refine lv_land hx hb d_Selector_likeOnes_23 ?_
  exact hret hf hP hS d_Selector_likeOnes_24
-- java/lang/Long.bitCount
set_option maxHeartbeats 4000000 in
set_option maxRecDepth 100000 in
theorem c_Long_bitCount {l : Launch} {D : va_G} {cI cL cG cZ : ClassId} {ad : Nat → Nat} {M : Mem} {a0 : Int64} {r : Int32} (hD : ∀ M, va_D (e_A ad) (e_ws cI cL cG cZ ad M)) (hf : f_Long_bitCount a0 = some r) : Mi l y_Long_bitCount (.code y_Long_bitCount prog_13_method_50_code 2 (some .int) :: ALLW) (rmR 0 0) (Kk D cI cL cG cZ) D vwC (e_A ad) (e_ws cI cL cG cZ ad) [.long a0] M M r := by
  refine Mi_ofR (by decide) (Nat.le_of_ble_eq_true rfl) ?_
  intro p e s m args below meth c ls Q X hkk hret hP hl
  obtain ⟨hx, hb, hml, hown, hta⟩ := id X
  have hKv := hkk.1
  have hS : va_S (e_A ad) s.heap s.heap [] := va_S.rf
  have hl : lv_has ls 2 [(0, .long a0)] := hl
  unfold f_Long_bitCount at hf
  refine lv_lload_n hx hb d_Long_bitCount_0 rfl (lv_at hl 0 rfl) ?_
  refine lv_lload_n hx hb d_Long_bitCount_1 rfl (lv_at hl 0 rfl) ?_
  refine lv_iconst (v := (1 : Int32)) hx hb d_Long_bitCount_2 (by decide) ?_
  refine lv_lushr hx hb d_Long_bitCount_3 rfl ?_
  refine lv_ldc2 (v := (6148914691236517205 : Int64)) hx hb hown (hta _ wm_507) d_Long_bitCount_4 ?_
  refine lv_land hx hb d_Long_bitCount_7 ?_
  refine lv_lsub hx hb d_Long_bitCount_8 ?_
  refine lv_lstore_n (lv' := [(0, .long ((a0 - (((a0.toUInt64 >>> ((1 : Int32).toInt64.toUInt64 &&& Int64.toUInt64 63)).toInt64) &&& (6148914691236517205 : Int64)))))]) hx hb d_Long_bitCount_9 rfl hl (by decide) rfl (fun ls hl => ?_)
  refine lv_lload_n hx hb d_Long_bitCount_10 rfl (lv_at hl 0 rfl) ?_
  refine lv_ldc2 (v := (3689348814741910323 : Int64)) hx hb hown (hta _ wm_508) d_Long_bitCount_11 ?_
  refine lv_land hx hb d_Long_bitCount_14 ?_
  refine lv_lload_n hx hb d_Long_bitCount_15 rfl (lv_at hl 0 rfl) ?_
  refine lv_iconst (v := (2 : Int32)) hx hb d_Long_bitCount_16 (by decide) ?_
  refine lv_lushr hx hb d_Long_bitCount_17 rfl ?_
  refine lv_ldc2 (v := (3689348814741910323 : Int64)) hx hb hown (hta _ wm_508) d_Long_bitCount_18 ?_
  refine lv_land hx hb d_Long_bitCount_21 ?_
  refine lv_ladd hx hb d_Long_bitCount_22 ?_
  refine lv_lstore_n (lv' := [(0, .long ((((a0 - (((a0.toUInt64 >>> ((1 : Int32).toInt64.toUInt64 &&& Int64.toUInt64 63)).toInt64) &&& (6148914691236517205 : Int64))) &&& (3689348814741910323 : Int64)) + ((((a0 - (((a0.toUInt64 >>> ((1 : Int32).toInt64.toUInt64 &&& Int64.toUInt64 63)).toInt64) &&& (6148914691236517205 : Int64))).toUInt64 >>> ((2 : Int32).toInt64.toUInt64 &&& Int64.toUInt64 63)).toInt64) &&& (3689348814741910323 : Int64)))))]) hx hb d_Long_bitCount_23 rfl hl (by decide) rfl (fun ls hl => ?_)
  refine lv_lload_n hx hb d_Long_bitCount_24 rfl (lv_at hl 0 rfl) ?_
  refine lv_lload_n hx hb d_Long_bitCount_25 rfl (lv_at hl 0 rfl) ?_
  refine lv_iconst (v := (4 : Int32)) hx hb d_Long_bitCount_26 (by decide) ?_
  refine lv_lushr hx hb d_Long_bitCount_27 rfl ?_
  refine lv_ladd hx hb d_Long_bitCount_28 ?_
  refine lv_ldc2 (v := (1085102592571150095 : Int64)) hx hb hown (hta _ wm_509) d_Long_bitCount_29 ?_
  refine lv_land hx hb d_Long_bitCount_32 ?_
  refine lv_lstore_n (lv' := [(0, .long ((((((a0 - (((a0.toUInt64 >>> ((1 : Int32).toInt64.toUInt64 &&& Int64.toUInt64 63)).toInt64) &&& (6148914691236517205 : Int64))) &&& (3689348814741910323 : Int64)) + ((((a0 - (((a0.toUInt64 >>> ((1 : Int32).toInt64.toUInt64 &&& Int64.toUInt64 63)).toInt64) &&& (6148914691236517205 : Int64))).toUInt64 >>> ((2 : Int32).toInt64.toUInt64 &&& Int64.toUInt64 63)).toInt64) &&& (3689348814741910323 : Int64))) + (((((a0 - (((a0.toUInt64 >>> ((1 : Int32).toInt64.toUInt64 &&& Int64.toUInt64 63)).toInt64) &&& (6148914691236517205 : Int64))) &&& (3689348814741910323 : Int64)) + ((((a0 - (((a0.toUInt64 >>> ((1 : Int32).toInt64.toUInt64 &&& Int64.toUInt64 63)).toInt64) &&& (6148914691236517205 : Int64))).toUInt64 >>> ((2 : Int32).toInt64.toUInt64 &&& Int64.toUInt64 63)).toInt64) &&& (3689348814741910323 : Int64))).toUInt64 >>> ((4 : Int32).toInt64.toUInt64 &&& Int64.toUInt64 63)).toInt64)) &&& (1085102592571150095 : Int64))))]) hx hb d_Long_bitCount_33 rfl hl (by decide) rfl (fun ls hl => ?_)
  refine lv_lload_n hx hb d_Long_bitCount_34 rfl (lv_at hl 0 rfl) ?_
  refine lv_lload_n hx hb d_Long_bitCount_35 rfl (lv_at hl 0 rfl) ?_
  refine lv_bipush (v := (8 : Int32)) hx hb d_Long_bitCount_36 (by decide) ?_
  refine lv_lushr hx hb d_Long_bitCount_38 rfl ?_
  refine lv_ladd hx hb d_Long_bitCount_39 ?_
  refine lv_lstore_n (lv' := [(0, .long (((((((a0 - (((a0.toUInt64 >>> ((1 : Int32).toInt64.toUInt64 &&& Int64.toUInt64 63)).toInt64) &&& (6148914691236517205 : Int64))) &&& (3689348814741910323 : Int64)) + ((((a0 - (((a0.toUInt64 >>> ((1 : Int32).toInt64.toUInt64 &&& Int64.toUInt64 63)).toInt64) &&& (6148914691236517205 : Int64))).toUInt64 >>> ((2 : Int32).toInt64.toUInt64 &&& Int64.toUInt64 63)).toInt64) &&& (3689348814741910323 : Int64))) + (((((a0 - (((a0.toUInt64 >>> ((1 : Int32).toInt64.toUInt64 &&& Int64.toUInt64 63)).toInt64) &&& (6148914691236517205 : Int64))) &&& (3689348814741910323 : Int64)) + ((((a0 - (((a0.toUInt64 >>> ((1 : Int32).toInt64.toUInt64 &&& Int64.toUInt64 63)).toInt64) &&& (6148914691236517205 : Int64))).toUInt64 >>> ((2 : Int32).toInt64.toUInt64 &&& Int64.toUInt64 63)).toInt64) &&& (3689348814741910323 : Int64))).toUInt64 >>> ((4 : Int32).toInt64.toUInt64 &&& Int64.toUInt64 63)).toInt64)) &&& (1085102592571150095 : Int64)) + (((((((a0 - (((a0.toUInt64 >>> ((1 : Int32).toInt64.toUInt64 &&& Int64.toUInt64 63)).toInt64) &&& (6148914691236517205 : Int64))) &&& (3689348814741910323 : Int64)) + ((((a0 - (((a0.toUInt64 >>> ((1 : Int32).toInt64.toUInt64 &&& Int64.toUInt64 63)).toInt64) &&& (6148914691236517205 : Int64))).toUInt64 >>> ((2 : Int32).toInt64.toUInt64 &&& Int64.toUInt64 63)).toInt64) &&& (3689348814741910323 : Int64))) + (((((a0 - (((a0.toUInt64 >>> ((1 : Int32).toInt64.toUInt64 &&& Int64.toUInt64 63)).toInt64) &&& (6148914691236517205 : Int64))) &&& (3689348814741910323 : Int64)) + ((((a0 - (((a0.toUInt64 >>> ((1 : Int32).toInt64.toUInt64 &&& Int64.toUInt64 63)).toInt64) &&& (6148914691236517205 : Int64))).toUInt64 >>> ((2 : Int32).toInt64.toUInt64 &&& Int64.toUInt64 63)).toInt64) &&& (3689348814741910323 : Int64))).toUInt64 >>> ((4 : Int32).toInt64.toUInt64 &&& Int64.toUInt64 63)).toInt64)) &&& (1085102592571150095 : Int64)).toUInt64 >>> ((8 : Int32).toInt64.toUInt64 &&& Int64.toUInt64 63)).toInt64))))]) hx hb d_Long_bitCount_40 rfl hl (by decide) rfl (fun ls hl => ?_)
  refine lv_lload_n hx hb d_Long_bitCount_41 rfl (lv_at hl 0 rfl) ?_
  refine lv_lload_n hx hb d_Long_bitCount_42 rfl (lv_at hl 0 rfl) ?_
  refine lv_bipush (v := (16 : Int32)) hx hb d_Long_bitCount_43 (by decide) ?_
  refine lv_lushr hx hb d_Long_bitCount_45 rfl ?_
  refine lv_ladd hx hb d_Long_bitCount_46 ?_
  refine lv_lstore_n (lv' := [(0, .long ((((((((a0 - (((a0.toUInt64 >>> ((1 : Int32).toInt64.toUInt64 &&& Int64.toUInt64 63)).toInt64) &&& (6148914691236517205 : Int64))) &&& (3689348814741910323 : Int64)) + ((((a0 - (((a0.toUInt64 >>> ((1 : Int32).toInt64.toUInt64 &&& Int64.toUInt64 63)).toInt64) &&& (6148914691236517205 : Int64))).toUInt64 >>> ((2 : Int32).toInt64.toUInt64 &&& Int64.toUInt64 63)).toInt64) &&& (3689348814741910323 : Int64))) + (((((a0 - (((a0.toUInt64 >>> ((1 : Int32).toInt64.toUInt64 &&& Int64.toUInt64 63)).toInt64) &&& (6148914691236517205 : Int64))) &&& (3689348814741910323 : Int64)) + ((((a0 - (((a0.toUInt64 >>> ((1 : Int32).toInt64.toUInt64 &&& Int64.toUInt64 63)).toInt64) &&& (6148914691236517205 : Int64))).toUInt64 >>> ((2 : Int32).toInt64.toUInt64 &&& Int64.toUInt64 63)).toInt64) &&& (3689348814741910323 : Int64))).toUInt64 >>> ((4 : Int32).toInt64.toUInt64 &&& Int64.toUInt64 63)).toInt64)) &&& (1085102592571150095 : Int64)) + (((((((a0 - (((a0.toUInt64 >>> ((1 : Int32).toInt64.toUInt64 &&& Int64.toUInt64 63)).toInt64) &&& (6148914691236517205 : Int64))) &&& (3689348814741910323 : Int64)) + ((((a0 - (((a0.toUInt64 >>> ((1 : Int32).toInt64.toUInt64 &&& Int64.toUInt64 63)).toInt64) &&& (6148914691236517205 : Int64))).toUInt64 >>> ((2 : Int32).toInt64.toUInt64 &&& Int64.toUInt64 63)).toInt64) &&& (3689348814741910323 : Int64))) + (((((a0 - (((a0.toUInt64 >>> ((1 : Int32).toInt64.toUInt64 &&& Int64.toUInt64 63)).toInt64) &&& (6148914691236517205 : Int64))) &&& (3689348814741910323 : Int64)) + ((((a0 - (((a0.toUInt64 >>> ((1 : Int32).toInt64.toUInt64 &&& Int64.toUInt64 63)).toInt64) &&& (6148914691236517205 : Int64))).toUInt64 >>> ((2 : Int32).toInt64.toUInt64 &&& Int64.toUInt64 63)).toInt64) &&& (3689348814741910323 : Int64))).toUInt64 >>> ((4 : Int32).toInt64.toUInt64 &&& Int64.toUInt64 63)).toInt64)) &&& (1085102592571150095 : Int64)).toUInt64 >>> ((8 : Int32).toInt64.toUInt64 &&& Int64.toUInt64 63)).toInt64)) + ((((((((a0 - (((a0.toUInt64 >>> ((1 : Int32).toInt64.toUInt64 &&& Int64.toUInt64 63)).toInt64) &&& (6148914691236517205 : Int64))) &&& (3689348814741910323 : Int64)) + ((((a0 - (((a0.toUInt64 >>> ((1 : Int32).toInt64.toUInt64 &&& Int64.toUInt64 63)).toInt64) &&& (6148914691236517205 : Int64))).toUInt64 >>> ((2 : Int32).toInt64.toUInt64 &&& Int64.toUInt64 63)).toInt64) &&& (3689348814741910323 : Int64))) + (((((a0 - (((a0.toUInt64 >>> ((1 : Int32).toInt64.toUInt64 &&& Int64.toUInt64 63)).toInt64) &&& (6148914691236517205 : Int64))) &&& (3689348814741910323 : Int64)) + ((((a0 - (((a0.toUInt64 >>> ((1 : Int32).toInt64.toUInt64 &&& Int64.toUInt64 63)).toInt64) &&& (6148914691236517205 : Int64))).toUInt64 >>> ((2 : Int32).toInt64.toUInt64 &&& Int64.toUInt64 63)).toInt64) &&& (3689348814741910323 : Int64))).toUInt64 >>> ((4 : Int32).toInt64.toUInt64 &&& Int64.toUInt64 63)).toInt64)) &&& (1085102592571150095 : Int64)) + (((((((a0 - (((a0.toUInt64 >>> ((1 : Int32).toInt64.toUInt64 &&& Int64.toUInt64 63)).toInt64) &&& (6148914691236517205 : Int64))) &&& (3689348814741910323 : Int64)) + ((((a0 - (((a0.toUInt64 >>> ((1 : Int32).toInt64.toUInt64 &&& Int64.toUInt64 63)).toInt64) &&& (6148914691236517205 : Int64))).toUInt64 >>> ((2 : Int32).toInt64.toUInt64 &&& Int64.toUInt64 63)).toInt64) &&& (3689348814741910323 : Int64))) + (((((a0 - (((a0.toUInt64 >>> ((1 : Int32).toInt64.toUInt64 &&& Int64.toUInt64 63)).toInt64) &&& (6148914691236517205 : Int64))) &&& (3689348814741910323 : Int64)) + ((((a0 - (((a0.toUInt64 >>> ((1 : Int32).toInt64.toUInt64 &&& Int64.toUInt64 63)).toInt64) &&& (6148914691236517205 : Int64))).toUInt64 >>> ((2 : Int32).toInt64.toUInt64 &&& Int64.toUInt64 63)).toInt64) &&& (3689348814741910323 : Int64))).toUInt64 >>> ((4 : Int32).toInt64.toUInt64 &&& Int64.toUInt64 63)).toInt64)) &&& (1085102592571150095 : Int64)).toUInt64 >>> ((8 : Int32).toInt64.toUInt64 &&& Int64.toUInt64 63)).toInt64)).toUInt64 >>> ((16 : Int32).toInt64.toUInt64 &&& Int64.toUInt64 63)).toInt64))))]) hx hb d_Long_bitCount_47 rfl hl (by decide) rfl (fun ls hl => ?_)
  refine lv_lload_n hx hb d_Long_bitCount_48 rfl (lv_at hl 0 rfl) ?_
  refine lv_lload_n hx hb d_Long_bitCount_49 rfl (lv_at hl 0 rfl) ?_
  refine lv_bipush (v := (32 : Int32)) hx hb d_Long_bitCount_50 (by decide) ?_
  refine lv_lushr hx hb d_Long_bitCount_52 rfl ?_
  refine lv_ladd hx hb d_Long_bitCount_53 ?_
  refine lv_lstore_n (lv' := [(0, .long (((((((((a0 - (((a0.toUInt64 >>> ((1 : Int32).toInt64.toUInt64 &&& Int64.toUInt64 63)).toInt64) &&& (6148914691236517205 : Int64))) &&& (3689348814741910323 : Int64)) + ((((a0 - (((a0.toUInt64 >>> ((1 : Int32).toInt64.toUInt64 &&& Int64.toUInt64 63)).toInt64) &&& (6148914691236517205 : Int64))).toUInt64 >>> ((2 : Int32).toInt64.toUInt64 &&& Int64.toUInt64 63)).toInt64) &&& (3689348814741910323 : Int64))) + (((((a0 - (((a0.toUInt64 >>> ((1 : Int32).toInt64.toUInt64 &&& Int64.toUInt64 63)).toInt64) &&& (6148914691236517205 : Int64))) &&& (3689348814741910323 : Int64)) + ((((a0 - (((a0.toUInt64 >>> ((1 : Int32).toInt64.toUInt64 &&& Int64.toUInt64 63)).toInt64) &&& (6148914691236517205 : Int64))).toUInt64 >>> ((2 : Int32).toInt64.toUInt64 &&& Int64.toUInt64 63)).toInt64) &&& (3689348814741910323 : Int64))).toUInt64 >>> ((4 : Int32).toInt64.toUInt64 &&& Int64.toUInt64 63)).toInt64)) &&& (1085102592571150095 : Int64)) + (((((((a0 - (((a0.toUInt64 >>> ((1 : Int32).toInt64.toUInt64 &&& Int64.toUInt64 63)).toInt64) &&& (6148914691236517205 : Int64))) &&& (3689348814741910323 : Int64)) + ((((a0 - (((a0.toUInt64 >>> ((1 : Int32).toInt64.toUInt64 &&& Int64.toUInt64 63)).toInt64) &&& (6148914691236517205 : Int64))).toUInt64 >>> ((2 : Int32).toInt64.toUInt64 &&& Int64.toUInt64 63)).toInt64) &&& (3689348814741910323 : Int64))) + (((((a0 - (((a0.toUInt64 >>> ((1 : Int32).toInt64.toUInt64 &&& Int64.toUInt64 63)).toInt64) &&& (6148914691236517205 : Int64))) &&& (3689348814741910323 : Int64)) + ((((a0 - (((a0.toUInt64 >>> ((1 : Int32).toInt64.toUInt64 &&& Int64.toUInt64 63)).toInt64) &&& (6148914691236517205 : Int64))).toUInt64 >>> ((2 : Int32).toInt64.toUInt64 &&& Int64.toUInt64 63)).toInt64) &&& (3689348814741910323 : Int64))).toUInt64 >>> ((4 : Int32).toInt64.toUInt64 &&& Int64.toUInt64 63)).toInt64)) &&& (1085102592571150095 : Int64)).toUInt64 >>> ((8 : Int32).toInt64.toUInt64 &&& Int64.toUInt64 63)).toInt64)) + ((((((((a0 - (((a0.toUInt64 >>> ((1 : Int32).toInt64.toUInt64 &&& Int64.toUInt64 63)).toInt64) &&& (6148914691236517205 : Int64))) &&& (3689348814741910323 : Int64)) + ((((a0 - (((a0.toUInt64 >>> ((1 : Int32).toInt64.toUInt64 &&& Int64.toUInt64 63)).toInt64) &&& (6148914691236517205 : Int64))).toUInt64 >>> ((2 : Int32).toInt64.toUInt64 &&& Int64.toUInt64 63)).toInt64) &&& (3689348814741910323 : Int64))) + (((((a0 - (((a0.toUInt64 >>> ((1 : Int32).toInt64.toUInt64 &&& Int64.toUInt64 63)).toInt64) &&& (6148914691236517205 : Int64))) &&& (3689348814741910323 : Int64)) + ((((a0 - (((a0.toUInt64 >>> ((1 : Int32).toInt64.toUInt64 &&& Int64.toUInt64 63)).toInt64) &&& (6148914691236517205 : Int64))).toUInt64 >>> ((2 : Int32).toInt64.toUInt64 &&& Int64.toUInt64 63)).toInt64) &&& (3689348814741910323 : Int64))).toUInt64 >>> ((4 : Int32).toInt64.toUInt64 &&& Int64.toUInt64 63)).toInt64)) &&& (1085102592571150095 : Int64)) + (((((((a0 - (((a0.toUInt64 >>> ((1 : Int32).toInt64.toUInt64 &&& Int64.toUInt64 63)).toInt64) &&& (6148914691236517205 : Int64))) &&& (3689348814741910323 : Int64)) + ((((a0 - (((a0.toUInt64 >>> ((1 : Int32).toInt64.toUInt64 &&& Int64.toUInt64 63)).toInt64) &&& (6148914691236517205 : Int64))).toUInt64 >>> ((2 : Int32).toInt64.toUInt64 &&& Int64.toUInt64 63)).toInt64) &&& (3689348814741910323 : Int64))) + (((((a0 - (((a0.toUInt64 >>> ((1 : Int32).toInt64.toUInt64 &&& Int64.toUInt64 63)).toInt64) &&& (6148914691236517205 : Int64))) &&& (3689348814741910323 : Int64)) + ((((a0 - (((a0.toUInt64 >>> ((1 : Int32).toInt64.toUInt64 &&& Int64.toUInt64 63)).toInt64) &&& (6148914691236517205 : Int64))).toUInt64 >>> ((2 : Int32).toInt64.toUInt64 &&& Int64.toUInt64 63)).toInt64) &&& (3689348814741910323 : Int64))).toUInt64 >>> ((4 : Int32).toInt64.toUInt64 &&& Int64.toUInt64 63)).toInt64)) &&& (1085102592571150095 : Int64)).toUInt64 >>> ((8 : Int32).toInt64.toUInt64 &&& Int64.toUInt64 63)).toInt64)).toUInt64 >>> ((16 : Int32).toInt64.toUInt64 &&& Int64.toUInt64 63)).toInt64)) + (((((((((a0 - (((a0.toUInt64 >>> ((1 : Int32).toInt64.toUInt64 &&& Int64.toUInt64 63)).toInt64) &&& (6148914691236517205 : Int64))) &&& (3689348814741910323 : Int64)) + ((((a0 - (((a0.toUInt64 >>> ((1 : Int32).toInt64.toUInt64 &&& Int64.toUInt64 63)).toInt64) &&& (6148914691236517205 : Int64))).toUInt64 >>> ((2 : Int32).toInt64.toUInt64 &&& Int64.toUInt64 63)).toInt64) &&& (3689348814741910323 : Int64))) + (((((a0 - (((a0.toUInt64 >>> ((1 : Int32).toInt64.toUInt64 &&& Int64.toUInt64 63)).toInt64) &&& (6148914691236517205 : Int64))) &&& (3689348814741910323 : Int64)) + ((((a0 - (((a0.toUInt64 >>> ((1 : Int32).toInt64.toUInt64 &&& Int64.toUInt64 63)).toInt64) &&& (6148914691236517205 : Int64))).toUInt64 >>> ((2 : Int32).toInt64.toUInt64 &&& Int64.toUInt64 63)).toInt64) &&& (3689348814741910323 : Int64))).toUInt64 >>> ((4 : Int32).toInt64.toUInt64 &&& Int64.toUInt64 63)).toInt64)) &&& (1085102592571150095 : Int64)) + (((((((a0 - (((a0.toUInt64 >>> ((1 : Int32).toInt64.toUInt64 &&& Int64.toUInt64 63)).toInt64) &&& (6148914691236517205 : Int64))) &&& (3689348814741910323 : Int64)) + ((((a0 - (((a0.toUInt64 >>> ((1 : Int32).toInt64.toUInt64 &&& Int64.toUInt64 63)).toInt64) &&& (6148914691236517205 : Int64))).toUInt64 >>> ((2 : Int32).toInt64.toUInt64 &&& Int64.toUInt64 63)).toInt64) &&& (3689348814741910323 : Int64))) + (((((a0 - (((a0.toUInt64 >>> ((1 : Int32).toInt64.toUInt64 &&& Int64.toUInt64 63)).toInt64) &&& (6148914691236517205 : Int64))) &&& (3689348814741910323 : Int64)) + ((((a0 - (((a0.toUInt64 >>> ((1 : Int32).toInt64.toUInt64 &&& Int64.toUInt64 63)).toInt64) &&& (6148914691236517205 : Int64))).toUInt64 >>> ((2 : Int32).toInt64.toUInt64 &&& Int64.toUInt64 63)).toInt64) &&& (3689348814741910323 : Int64))).toUInt64 >>> ((4 : Int32).toInt64.toUInt64 &&& Int64.toUInt64 63)).toInt64)) &&& (1085102592571150095 : Int64)).toUInt64 >>> ((8 : Int32).toInt64.toUInt64 &&& Int64.toUInt64 63)).toInt64)) + ((((((((a0 - (((a0.toUInt64 >>> ((1 : Int32).toInt64.toUInt64 &&& Int64.toUInt64 63)).toInt64) &&& (6148914691236517205 : Int64))) &&& (3689348814741910323 : Int64)) + ((((a0 - (((a0.toUInt64 >>> ((1 : Int32).toInt64.toUInt64 &&& Int64.toUInt64 63)).toInt64) &&& (6148914691236517205 : Int64))).toUInt64 >>> ((2 : Int32).toInt64.toUInt64 &&& Int64.toUInt64 63)).toInt64) &&& (3689348814741910323 : Int64))) + (((((a0 - (((a0.toUInt64 >>> ((1 : Int32).toInt64.toUInt64 &&& Int64.toUInt64 63)).toInt64) &&& (6148914691236517205 : Int64))) &&& (3689348814741910323 : Int64)) + ((((a0 - (((a0.toUInt64 >>> ((1 : Int32).toInt64.toUInt64 &&& Int64.toUInt64 63)).toInt64) &&& (6148914691236517205 : Int64))).toUInt64 >>> ((2 : Int32).toInt64.toUInt64 &&& Int64.toUInt64 63)).toInt64) &&& (3689348814741910323 : Int64))).toUInt64 >>> ((4 : Int32).toInt64.toUInt64 &&& Int64.toUInt64 63)).toInt64)) &&& (1085102592571150095 : Int64)) + (((((((a0 - (((a0.toUInt64 >>> ((1 : Int32).toInt64.toUInt64 &&& Int64.toUInt64 63)).toInt64) &&& (6148914691236517205 : Int64))) &&& (3689348814741910323 : Int64)) + ((((a0 - (((a0.toUInt64 >>> ((1 : Int32).toInt64.toUInt64 &&& Int64.toUInt64 63)).toInt64) &&& (6148914691236517205 : Int64))).toUInt64 >>> ((2 : Int32).toInt64.toUInt64 &&& Int64.toUInt64 63)).toInt64) &&& (3689348814741910323 : Int64))) + (((((a0 - (((a0.toUInt64 >>> ((1 : Int32).toInt64.toUInt64 &&& Int64.toUInt64 63)).toInt64) &&& (6148914691236517205 : Int64))) &&& (3689348814741910323 : Int64)) + ((((a0 - (((a0.toUInt64 >>> ((1 : Int32).toInt64.toUInt64 &&& Int64.toUInt64 63)).toInt64) &&& (6148914691236517205 : Int64))).toUInt64 >>> ((2 : Int32).toInt64.toUInt64 &&& Int64.toUInt64 63)).toInt64) &&& (3689348814741910323 : Int64))).toUInt64 >>> ((4 : Int32).toInt64.toUInt64 &&& Int64.toUInt64 63)).toInt64)) &&& (1085102592571150095 : Int64)).toUInt64 >>> ((8 : Int32).toInt64.toUInt64 &&& Int64.toUInt64 63)).toInt64)).toUInt64 >>> ((16 : Int32).toInt64.toUInt64 &&& Int64.toUInt64 63)).toInt64)).toUInt64 >>> ((32 : Int32).toInt64.toUInt64 &&& Int64.toUInt64 63)).toInt64))))]) hx hb d_Long_bitCount_54 rfl hl (by decide) rfl (fun ls hl => ?_)
  refine lv_lload_n hx hb d_Long_bitCount_55 rfl (lv_at hl 0 rfl) ?_
  refine lv_l2i hx hb d_Long_bitCount_56 rfl ?_
  refine lv_bipush (v := (127 : Int32)) hx hb d_Long_bitCount_57 (by decide) ?_
  refine lv_iand hx hb d_Long_bitCount_59 ?_
  exact hret hf hP hS d_Long_bitCount_60
-- LinkAudit.lowestBit
theorem xve_LinkAudit_188 {p : Program} {l : Launch} {e : Env} {R : Room} {s : State} {m : MethodId} {args : Array Value} {below : List Frame} {meth : Method} {c : Code} {H : Heap} {locs : List Loc} {cells slots : Nat} {Q : State → Prop} {cc : ByteArray} {pc : Nat} {ls : Array Slot} {rest : List Value} {D : va_G} {cI cL cG cZ : ClassId} {ad : Nat → Nat} {M : Mem} {H0 : Heap} {nL : Nat} {a0 : Int64} {r : Int32} (X : CallFix p m c cc nL s args ALLW "LinkAudit") (hkk : Kk D cI cL cG cZ s) (hD : ∀ M, va_D (e_A ad) (e_ws cI cL cG cZ ad M)) (hrest : (rest.map fun v => v.category).sum ≤ 8) (hR : 0 + 1 ≤ R.frames ∧ 8 + (2 + 11) + 0 ≤ R.locals) (hcs : cells + 0 ≤ R.cells ∧ slots + 0 ≤ R.slots) (hc : f_Long_bitCount a0 = some r) (hsz : ls.size = nL) (hP : va_P D vwC (e_ws cI cL cG cZ ad M) H) (hS : va_S (e_A ad) H0 H locs) (hdg : decode cc pc = .ok (.invokestatic 188, 3))
    (kk : ∀ (H1 : Heap) (locs1 : List Loc), va_P D vwC (e_ws cI cL cG cZ ad M) H1 → va_S (e_A ad) H0 H1 locs1 → W p l e R s m args below meth c H1 locs1 cells slots Q (F0 m (pc + 3) ls (.int r :: rest))) : W p l e R s m args below meth c H locs cells slots Q (F0 m pc ls (.long a0 :: rest)) := by
  have hta := X.2.2.2.2
  exact x_after0I e_no (va_runS (As := [.long a0]) (rest := rest) X (c_Long_bitCount (ad := ad) (M := M) e_D hc) ⟨callB_of 1 hta (good_all (L := .code y_Long_bitCount prog_13_method_50_code 2 (some .int) :: ALLW) (List.forall_mem_cons.mpr ⟨wm_506, fun _ h => h⟩)) rfl rfl rfl (hta _ wm_14) (hta _ wm_504) (by decide +kernel) hR, hta _ wm_505⟩ ⟨x_blind Kk_w _, x_pre Kk_w hkk e_P _⟩ rfl rfl hsz rfl (lv_room hrest) hdg hcs) hP hS kk
set_option maxHeartbeats 4000000 in
set_option maxRecDepth 100000 in
theorem c_LinkAudit_lowestBit {l : Launch} {D : va_G} {cI cL cG cZ : ClassId} {ad : Nat → Nat} {M : Mem} {a0 : Int64} {r : Int32} (hD : ∀ M, va_D (e_A ad) (e_ws cI cL cG cZ ad M)) (hf : f_LinkAudit_lowestBit a0 = some r) : Mi l y_LinkAudit_lowestBit (.code y_LinkAudit_lowestBit prog_1_method_23_code 2 (some .int) :: ALLW) (rmR 1 21) (Kk D cI cL cG cZ) D vwC (e_A ad) (e_ws cI cL cG cZ ad) [.long a0] M M r := by
  refine Mi_ofR (by decide) (Nat.le_of_ble_eq_true rfl) ?_
  intro p e s m args below meth c ls Q X hkk hret hP hl
  obtain ⟨hx, hb, hml, hown, hta⟩ := id X
  have hKv := hkk.1
  have hS : va_S (e_A ad) s.heap s.heap [] := va_S.rf
  have hl : lv_has ls 2 [(0, .long a0)] := hl
  unfold f_LinkAudit_lowestBit at hf
  refine lv_lload_n hx hb d_LinkAudit_lowestBit_0 rfl (lv_at hl 0 rfl) ?_
  refine lv_lload_n hx hb d_LinkAudit_lowestBit_1 rfl (lv_at hl 0 rfl) ?_
  refine lv_lneg hx hb d_LinkAudit_lowestBit_2 ?_
  refine lv_land hx hb d_LinkAudit_lowestBit_3 ?_
  refine lv_lconst (v := (1 : Int64)) hx hb d_LinkAudit_lowestBit_4 (by decide) ?_
  refine lv_lsub hx hb d_LinkAudit_lowestBit_5 ?_
  obtain ⟨r2, hc1, hf⟩ := bd1_e hf
  refine xve_LinkAudit_188 X hkk hD (Nat.le_of_ble_eq_true rfl) ⟨by dsimp only [rmR]; omega, by dsimp only [rmR]; omega⟩ ⟨Nat.zero_le _, Nat.zero_le _⟩ hc1 hl.1 hP hS d_LinkAudit_lowestBit_6 (fun H locs hP hS => ?_)
  exact hret hf hP hS d_LinkAudit_lowestBit_9
-- LinkAudit$Selector.coversAtOnce
theorem xvc_Selector_94 {p : Program} {l : Launch} {e : Env} {R : Room} {s : State} {m : MethodId} {args : Array Value} {below : List Frame} {meth : Method} {c : Code} {H : Heap} {locs : List Loc} {cells slots : Nat} {Q : State → Prop} {cc : ByteArray} {pc : Nat} {ls : Array Slot} {rest : List Value} {D : va_G} {cI cL cG cZ : ClassId} {ad : Nat → Nat} {M : Mem} {H0 : Heap} {nL : Nat} {a0 : Int32} {r : Int32} (X : CallFix p m c cc nL s args ALLW "LinkAudit$Selector") (hkk : Kk D cI cL cG cZ s) (hD : ∀ M, va_D (c_A ad) (c_ws cI cL cG cZ ad M)) (hrest : (rest.map fun v => v.category).sum ≤ 8) (hR : 0 + 1 ≤ R.frames ∧ 8 + (2 + 11) + 0 ≤ R.locals) (hcs : cells + 0 ≤ R.cells ∧ slots + 0 ≤ R.slots) (hc : f_Members_access M a0 = some r) (hsz : ls.size = nL) (hP : va_P D vwC (c_ws cI cL cG cZ ad M) H) (hS : va_S (c_A ad) H0 H locs) (hdg : decode cc pc = .ok (.invokevirtual 94, 3))
    (kk : ∀ (H1 : Heap) (locs1 : List Loc), va_P D vwC (c_ws cI cL cG cZ ad M) H1 → va_S (c_A ad) H0 H1 locs1 → W p l e R s m args below meth c H1 locs1 cells slots Q (F0 m (pc + 3) ls (.int r :: rest))) : W p l e R s m args below meth c H locs cells slots Q (F0 m pc ls (.int a0 :: .ref (ad 3) :: rest)) := by
  have hta := X.2.2.2.2
  exact x_afterI (va_runV (As := [.int a0]) (rest := rest) X (c_Members_access hD hc) ⟨callB_of 1 hta (good_all (L := .code y_Members_access prog_7_method_8_code 2 (some .int) :: ALLW) (List.forall_mem_cons.mpr ⟨wm_401, fun _ h => h⟩)) rfl rfl rfl (hta _ wm_4) (hta _ wm_514) (by decide +kernel) hR, hta _ wm_399, hta _ wm_400⟩ ⟨x_blind Kk_w _, va_recv hkk.1 hP (ci := 3) (q0 := 3) rfl c_c3, x_pre Kk_w hkk hP _⟩ rfl rfl hsz rfl (lv_room hrest) hdg hcs) hS kk
theorem xg_Selector_28 {p : Program} {l : Launch} {e : Env} {R : Room} {s : State} {m : MethodId} {args : Array Value} {below : List Frame} {meth : Method} {c : Code} {H : Heap} {locs : List Loc} {cells slots : Nat} {Q : State → Prop} {cc : ByteArray} {pc : Nat} {ls : Array Slot} {rest : List Value} {D : va_G} {cI cL cG cZ : ClassId} {ad : Nat → Nat} {M : Mem} (hx : p.tables.exec = Jvm.exec) (hb : c.code = cc) (hta : ∀ w ∈ ALLW, w.before args s = true) (hown : s.vm.findClass "LinkAudit$Selector" = some m.cls) (hK : va_K D vwC [(cI, .int), (cL, .long), (cG, .array .int), (cZ, .boolean)] s) (hP : va_P D vwC (c_ws cI cL cG cZ ad M) H) (hdg : decode cc pc = .ok (.getfield 28, 3))
    (kk : W p l e R s m args below meth c H locs cells slots Q (F0 m (pc + 3) ls (.ref (ad 2) :: rest))) : W p l e R s m args below meth c H locs cells slots Q (F0 m pc ls (.ref (ad 8) :: rest)) :=
  va_get (D := D) (ci := 8) (v := .ref (ad 2)) (C := "LinkAudit$Selector") (T := T_Selector) (N := 5) hx hb hta i_Selector hown hK hP 8 c_c8 rfl 1 (by decide) (hta _ wm_253) (fun _ h9 => h9) rfl hdg kk
theorem xg_Selector_51 {p : Program} {l : Launch} {e : Env} {R : Room} {s : State} {m : MethodId} {args : Array Value} {below : List Frame} {meth : Method} {c : Code} {H : Heap} {locs : List Loc} {cells slots : Nat} {Q : State → Prop} {cc : ByteArray} {pc : Nat} {ls : Array Slot} {rest : List Value} {D : va_G} {cI cL cG cZ : ClassId} {ad : Nat → Nat} {M : Mem} (hx : p.tables.exec = Jvm.exec) (hb : c.code = cc) (hta : ∀ w ∈ ALLW, w.before args s = true) (hown : s.vm.findClass "LinkAudit$Selector" = some m.cls) (hK : va_K D vwC [(cI, .int), (cL, .long), (cG, .array .int), (cZ, .boolean)] s) (hP : va_P D vwC (c_ws cI cL cG cZ ad M) H) (hdg : decode cc pc = .ok (.getfield 51, 3))
    (kk : W p l e R s m args below meth c H locs cells slots Q (F0 m (pc + 3) ls (.ref (ad 29) :: rest))) : W p l e R s m args below meth c H locs cells slots Q (F0 m pc ls (.ref (ad 3) :: rest)) :=
  va_get (D := D) (ci := 3) (v := .ref (ad 29)) (C := "LinkAudit$Members") (T := T_Members) (N := 7) hx hb hta i_Members hown hK hP 3 c_c3 rfl 0 (by decide) (hta _ wm_89) (fun _ h9 => h9) rfl hdg kk
theorem xvc_Selector_98 {p : Program} {l : Launch} {e : Env} {R : Room} {s : State} {m : MethodId} {args : Array Value} {below : List Frame} {meth : Method} {c : Code} {H : Heap} {locs : List Loc} {cells slots : Nat} {Q : State → Prop} {cc : ByteArray} {pc : Nat} {ls : Array Slot} {rest : List Value} {D : va_G} {cI cL cG cZ : ClassId} {ad : Nat → Nat} {M : Mem} {H0 : Heap} {nL : Nat} {a0 : Int32} {a1 : Int32} {r : Int32} (X : CallFix p m c cc nL s args ALLW "LinkAudit$Selector") (hkk : Kk D cI cL cG cZ s) (hD : ∀ M, va_D (c_A ad) (c_ws cI cL cG cZ ad M)) (hrest : (rest.map fun v => v.category).sum ≤ 8) (hR : 0 + 1 ≤ R.frames ∧ 8 + (3 + 11) + 0 ≤ R.locals) (hcs : cells + 0 ≤ R.cells ∧ slots + 0 ≤ R.slots) (hc : f_Classes_areNeighbours M a0 a1 = some r) (hsz : ls.size = nL) (hP : va_P D vwC (c_ws cI cL cG cZ ad M) H) (hS : va_S (c_A ad) H0 H locs) (hdg : decode cc pc = .ok (.invokevirtual 98, 3))
    (kk : ∀ (H1 : Heap) (locs1 : List Loc), va_P D vwC (c_ws cI cL cG cZ ad M) H1 → va_S (c_A ad) H0 H1 locs1 → W p l e R s m args below meth c H1 locs1 cells slots Q (F0 m (pc + 3) ls (.int r :: rest))) : W p l e R s m args below meth c H locs cells slots Q (F0 m pc ls (.int a1 :: .int a0 :: .ref (ad 2) :: rest)) := by
  have hta := X.2.2.2.2
  exact x_afterI (va_runV (As := [.int a0, .int a1]) (rest := rest) X (c_Classes_areNeighbours hD hc) ⟨callB_of 2 hta (good_all (L := .code y_Classes_areNeighbours prog_3_method_6_code 3 (some .boolean) :: ALLW) (List.forall_mem_cons.mpr ⟨wm_475, fun _ h => h⟩)) rfl rfl rfl (hta _ wm_3) (hta _ wm_515) (by decide +kernel) hR, hta _ wm_473, hta _ wm_474⟩ ⟨x_blind Kk_w _, va_recv hkk.1 hP (ci := 2) (q0 := 2) rfl c_c2, x_pre Kk_w hkk hP _⟩ rfl rfl hsz rfl (lv_room hrest) hdg hcs) hS kk
set_option maxHeartbeats 4000000 in
set_option maxRecDepth 100000 in
theorem c_Selector_coversAtOnce {l : Launch} {D : va_G} {cI cL cG cZ : ClassId} {ad : Nat → Nat} {M : Mem} {a1 : Int32} {a2 : Int32} {r : Int32} (hD : ∀ M, va_D (c_A ad) (c_ws cI cL cG cZ ad M)) (hf : f_Selector_coversAtOnce M a1 a2 = some r) : Mi l y_Selector_coversAtOnce (.code y_Selector_coversAtOnce prog_10_method_5_code 3 (some .boolean) :: ALLW) (rmR 1 22) (Kk D cI cL cG cZ) D vwC (c_A ad) (c_ws cI cL cG cZ ad) [.ref (ad 8), .int a1, .int a2] M M r := by
  refine Mz_ofR (by decide) (Nat.le_of_ble_eq_true rfl) ?_
  intro p e s m args below meth c ls Q X hkk hret hP hl
  obtain ⟨hx, hb, hml, hown, hta⟩ := id X
  have hKv := hkk.1
  have hS : va_S (c_A ad) s.heap s.heap [] := va_S.rf
  have hl : lv_has ls 3 [(0, .ref (ad 8)), (1, .int a1), (2, .int a2)] := hl
  unfold f_Selector_coversAtOnce at hf
  refine lv_aload_n hx hb d_Selector_coversAtOnce_0 rfl (lv_at hl 0 rfl) ?_
  refine xg_Selector_33 hx hb hta hown hKv hP d_Selector_coversAtOnce_1 ?_
  refine lv_iload_n hx hb d_Selector_coversAtOnce_4 rfl (lv_at hl 2 rfl) ?_
  obtain ⟨r3, hc1, hf⟩ := bd1_e hf
  refine xvc_Selector_94 X hkk hD (Nat.le_of_ble_eq_true rfl) ⟨by dsimp only [rmR]; omega, by dsimp only [rmR]; omega⟩ ⟨Nat.zero_le _, Nat.zero_le _⟩ hc1 hl.1 hP hS d_Selector_coversAtOnce_5 (fun H locs hP hS => ?_)
  refine lv_iconst (v := (2 : Int32)) hx hb d_Selector_coversAtOnce_8 (by decide) ?_
  refine lv_icmp_ne (tgt := 40) hx hb d_Selector_coversAtOnce_9 (by decide) (fun c2 => ?_) (fun c2 => ?_)
  · have hf := ifn c2 hf
    refine lv_iconst (v := (1 : Int32)) hx hb d_Selector_coversAtOnce_40 (by decide) ?_
    refine lv_goto (tgt := 45) hx hb d_Selector_coversAtOnce_41 (by decide) ?_
    exact hret (Or.inr rfl) hf hP hS d_Selector_coversAtOnce_45
  · have hf := ifp c2 hf
    refine lv_aload_n hx hb d_Selector_coversAtOnce_12 rfl (lv_at hl 0 rfl) ?_
    refine xg_Selector_28 hx hb hta hown hKv hP d_Selector_coversAtOnce_13 ?_
    refine lv_aload_n hx hb d_Selector_coversAtOnce_16 rfl (lv_at hl 0 rfl) ?_
    refine xg_Selector_33 hx hb hta hown hKv hP d_Selector_coversAtOnce_17 ?_
    refine xg_Selector_51 hx hb hta hown hKv hP d_Selector_coversAtOnce_20 ?_
    refine lv_iload_n hx hb d_Selector_coversAtOnce_23 rfl (lv_at hl 1 rfl) ?_
    obtain ⟨g3, hf⟩ := gd_ok hf
    refine x_ild hx hb hKv hP c_c29 g3 d_Selector_coversAtOnce_24 ?_
    refine lv_aload_n hx hb d_Selector_coversAtOnce_25 rfl (lv_at hl 0 rfl) ?_
    refine xg_Selector_33 hx hb hta hown hKv hP d_Selector_coversAtOnce_26 ?_
    refine xg_Selector_51 hx hb hta hown hKv hP d_Selector_coversAtOnce_29 ?_
    refine lv_iload_n hx hb d_Selector_coversAtOnce_32 rfl (lv_at hl 2 rfl) ?_
    obtain ⟨g4, hf⟩ := gd_ok hf
    refine x_ild hx hb hKv hP c_c29 g4 d_Selector_coversAtOnce_33 ?_
    obtain ⟨r4, hc5, hf⟩ := bd1_e hf
    refine xvc_Selector_98 X hkk hD (Nat.le_of_ble_eq_true rfl) ⟨by dsimp only [rmR]; omega, by dsimp only [rmR]; omega⟩ ⟨Nat.zero_le _, Nat.zero_le _⟩ hc5 hl.1 hP hS d_Selector_coversAtOnce_34 (fun H locs hP hS => ?_)
    refine lv_if_eq (tgt := 44) hx hb d_Selector_coversAtOnce_37 (by decide) (fun c6 => ?_) (fun c6 => ?_)
    · have hf := ifp c6 hf
      refine lv_iconst (v := (0 : Int32)) hx hb d_Selector_coversAtOnce_44 (by decide) ?_
      exact hret (Or.inl rfl) hf hP hS d_Selector_coversAtOnce_45
    · have hf := ifn c6 hf
      refine lv_iconst (v := (1 : Int32)) hx hb d_Selector_coversAtOnce_40 (by decide) ?_
      refine lv_goto (tgt := 45) hx hb d_Selector_coversAtOnce_41 (by decide) ?_
      exact hret (Or.inr rfl) hf hP hS d_Selector_coversAtOnce_45
-- LinkAudit$Selector.coveredFrom
theorem xg_Selector_9 {p : Program} {l : Launch} {e : Env} {R : Room} {s : State} {m : MethodId} {args : Array Value} {below : List Frame} {meth : Method} {c : Code} {H : Heap} {locs : List Loc} {cells slots : Nat} {Q : State → Prop} {cc : ByteArray} {pc : Nat} {ls : Array Slot} {rest : List Value} {D : va_G} {cI cL cG cZ : ClassId} {ad : Nat → Nat} {M : Mem} (hx : p.tables.exec = Jvm.exec) (hb : c.code = cc) (hta : ∀ w ∈ ALLW, w.before args s = true) (hown : s.vm.findClass "LinkAudit$Selector" = some m.cls) (hK : va_K D vwC [(cI, .int), (cL, .long), (cG, .array .int), (cZ, .boolean)] s) (hP : va_P D vwC (c_ws cI cL cG cZ ad M) H) (hdg : decode cc pc = .ok (.getfield 9, 3))
    (kk : W p l e R s m args below meth c H locs cells slots Q (F0 m (pc + 3) ls (.ref (ad 60) :: rest))) : W p l e R s m args below meth c H locs cells slots Q (F0 m pc ls (.ref (ad 8) :: rest)) :=
  va_get (D := D) (ci := 8) (v := .ref (ad 60)) (C := "LinkAudit$Selector") (T := T_Selector) (N := 5) hx hb hta i_Selector hown hK hP 8 c_c8 rfl 4 (by decide) (hta _ wm_256) (fun _ h9 => h9) rfl hdg kk
theorem xg_Selector_21 {p : Program} {l : Launch} {e : Env} {R : Room} {s : State} {m : MethodId} {args : Array Value} {below : List Frame} {meth : Method} {c : Code} {H : Heap} {locs : List Loc} {cells slots : Nat} {Q : State → Prop} {cc : ByteArray} {pc : Nat} {ls : Array Slot} {rest : List Value} {D : va_G} {cI cL cG cZ : ClassId} {ad : Nat → Nat} {M : Mem} (hx : p.tables.exec = Jvm.exec) (hb : c.code = cc) (hta : ∀ w ∈ ALLW, w.before args s = true) (hown : s.vm.findClass "LinkAudit$Selector" = some m.cls) (hK : va_K D vwC [(cI, .int), (cL, .long), (cG, .array .int), (cZ, .boolean)] s) (hP : va_P D vwC (c_ws cI cL cG cZ ad M) H) (hdg : decode cc pc = .ok (.getfield 21, 3))
    (kk : W p l e R s m args below meth c H locs cells slots Q (F0 m (pc + 3) ls (.ref (ad 5) :: rest))) : W p l e R s m args below meth c H locs cells slots Q (F0 m pc ls (.ref (ad 8) :: rest)) :=
  va_get (D := D) (ci := 8) (v := .ref (ad 5)) (C := "LinkAudit$Selector") (T := T_Selector) (N := 5) hx hb hta i_Selector hown hK hP 8 c_c8 rfl 0 (by decide) (hta _ wm_252) (fun _ h9 => h9) rfl hdg kk
theorem xg_Selector_70 {p : Program} {l : Launch} {e : Env} {R : Room} {s : State} {m : MethodId} {args : Array Value} {below : List Frame} {meth : Method} {c : Code} {H : Heap} {locs : List Loc} {cells slots : Nat} {Q : State → Prop} {cc : ByteArray} {pc : Nat} {ls : Array Slot} {rest : List Value} {D : va_G} {cI cL cG cZ : ClassId} {ad : Nat → Nat} {M : Mem} (hx : p.tables.exec = Jvm.exec) (hb : c.code = cc) (hta : ∀ w ∈ ALLW, w.before args s = true) (hown : s.vm.findClass "LinkAudit$Selector" = some m.cls) (hK : va_K D vwC [(cI, .int), (cL, .long), (cG, .array .int), (cZ, .boolean)] s) (hP : va_P D vwC (c_ws cI cL cG cZ ad M) H) (hdg : decode cc pc = .ok (.getfield 70, 3))
    (kk : W p l e R s m args below meth c H locs cells slots Q (F0 m (pc + 3) ls (.ref (ad 56) :: rest))) : W p l e R s m args below meth c H locs cells slots Q (F0 m pc ls (.ref (ad 5) :: rest)) :=
  va_get (D := D) (ci := 5) (v := .ref (ad 56)) (C := "LinkAudit$Links") (T := T_Links) (N := 9) hx hb hta i_Links hown hK hP 5 c_c5 rfl 4 (by decide) (hta _ wm_176) (fun _ h9 => h9) rfl hdg kk
theorem xg_Selector_73 {p : Program} {l : Launch} {e : Env} {R : Room} {s : State} {m : MethodId} {args : Array Value} {below : List Frame} {meth : Method} {c : Code} {H : Heap} {locs : List Loc} {cells slots : Nat} {Q : State → Prop} {cc : ByteArray} {pc : Nat} {ls : Array Slot} {rest : List Value} {D : va_G} {cI cL cG cZ : ClassId} {ad : Nat → Nat} {M : Mem} (hx : p.tables.exec = Jvm.exec) (hb : c.code = cc) (hta : ∀ w ∈ ALLW, w.before args s = true) (hown : s.vm.findClass "LinkAudit$Selector" = some m.cls) (hK : va_K D vwC [(cI, .int), (cL, .long), (cG, .array .int), (cZ, .boolean)] s) (hP : va_P D vwC (c_ws cI cL cG cZ ad M) H) (hdg : decode cc pc = .ok (.getfield 73, 3))
    (kk : W p l e R s m args below meth c H locs cells slots Q (F0 m (pc + 3) ls (.ref (ad 32) :: rest))) : W p l e R s m args below meth c H locs cells slots Q (F0 m pc ls (.ref (ad 3) :: rest)) :=
  va_get (D := D) (ci := 3) (v := .ref (ad 32)) (C := "LinkAudit$Members") (T := T_Members) (N := 7) hx hb hta i_Members hown hK hP 3 c_c3 rfl 3 (by decide) (hta _ wm_98) (fun _ h9 => h9) rfl hdg kk
theorem xg_Selector_76 {p : Program} {l : Launch} {e : Env} {R : Room} {s : State} {m : MethodId} {args : Array Value} {below : List Frame} {meth : Method} {c : Code} {H : Heap} {locs : List Loc} {cells slots : Nat} {Q : State → Prop} {cc : ByteArray} {pc : Nat} {ls : Array Slot} {rest : List Value} {D : va_G} {cI cL cG cZ : ClassId} {ad : Nat → Nat} {M : Mem} (hx : p.tables.exec = Jvm.exec) (hb : c.code = cc) (hta : ∀ w ∈ ALLW, w.before args s = true) (hown : s.vm.findClass "LinkAudit$Selector" = some m.cls) (hK : va_K D vwC [(cI, .int), (cL, .long), (cG, .array .int), (cZ, .boolean)] s) (hP : va_P D vwC (c_ws cI cL cG cZ ad M) H) (hdg : decode cc pc = .ok (.getfield 76, 3))
    (kk : W p l e R s m args below meth c H locs cells slots Q (F0 m (pc + 3) ls (.ref (ad 38) :: rest))) : W p l e R s m args below meth c H locs cells slots Q (F0 m pc ls (.ref (ad 5) :: rest)) :=
  va_get (D := D) (ci := 5) (v := .ref (ad 38)) (C := "LinkAudit$Links") (T := T_Links) (N := 9) hx hb hta i_Links hown hK hP 5 c_c5 rfl 3 (by decide) (hta _ wm_173) (fun _ h9 => h9) rfl hdg kk
theorem xvc_Selector_80 {p : Program} {l : Launch} {e : Env} {R : Room} {s : State} {m : MethodId} {args : Array Value} {below : List Frame} {meth : Method} {c : Code} {H : Heap} {locs : List Loc} {cells slots : Nat} {Q : State → Prop} {cc : ByteArray} {pc : Nat} {ls : Array Slot} {rest : List Value} {D : va_G} {cI cL cG cZ : ClassId} {ad : Nat → Nat} {M : Mem} {H0 : Heap} {nL : Nat} {a0 : Int64} {r : Int32} (X : CallFix p m c cc nL s args ALLW "LinkAudit$Selector") (hkk : Kk D cI cL cG cZ s) (hD : ∀ M, va_D (c_A ad) (c_ws cI cL cG cZ ad M)) (hrest : (rest.map fun v => v.category).sum ≤ 8) (hR : 1 + 1 ≤ R.frames ∧ 8 + (2 + 11) + 21 ≤ R.locals) (hcs : cells + 0 ≤ R.cells ∧ slots + 0 ≤ R.slots) (hc : f_LinkAudit_lowestBit a0 = some r) (hsz : ls.size = nL) (hP : va_P D vwC (c_ws cI cL cG cZ ad M) H) (hS : va_S (c_A ad) H0 H locs) (hdg : decode cc pc = .ok (.invokestatic 80, 3))
    (kk : ∀ (H1 : Heap) (locs1 : List Loc), va_P D vwC (c_ws cI cL cG cZ ad M) H1 → va_S (c_A ad) H0 H1 locs1 → W p l e R s m args below meth c H1 locs1 cells slots Q (F0 m (pc + 3) ls (.int r :: rest))) : W p l e R s m args below meth c H locs cells slots Q (F0 m pc ls (.long a0 :: rest)) := by
  have hta := X.2.2.2.2
  exact x_after0I e_no (va_runSN (As := [.long a0]) (rest := rest) X (c_LinkAudit_lowestBit (ad := ad) (M := M) e_D hc) ⟨va_cnB (host := "LinkAudit") 1 hta (good_all (L := .code y_LinkAudit_lowestBit prog_1_method_23_code 2 (some .int) :: ALLW) (List.forall_mem_cons.mpr ⟨wm_503, fun _ h => h⟩)) rfl rfl rfl (hkk.2 _ (List.mem_of_getElem? (i := 7) rfl)) (hta _ wm_1) (by decide +kernel) hR, hta _ wm_502, trivial⟩ ⟨x_blind Kk_w _, x_pre Kk_w hkk e_P _⟩ rfl rfl hsz rfl (lv_room hrest) hdg hcs) hP hS kk
theorem xvc_Selector_84 {p : Program} {l : Launch} {e : Env} {R : Room} {s : State} {m : MethodId} {args : Array Value} {below : List Frame} {meth : Method} {c : Code} {H : Heap} {locs : List Loc} {cells slots : Nat} {Q : State → Prop} {cc : ByteArray} {pc : Nat} {ls : Array Slot} {rest : List Value} {D : va_G} {cI cL cG cZ : ClassId} {ad : Nat → Nat} {M : Mem} {H0 : Heap} {nL : Nat} {a0 : Int32} {a1 : Int32} {r : Int32} (X : CallFix p m c cc nL s args ALLW "LinkAudit$Selector") (hkk : Kk D cI cL cG cZ s) (hD : ∀ M, va_D (c_A ad) (c_ws cI cL cG cZ ad M)) (hrest : (rest.map fun v => v.category).sum ≤ 8) (hR : 1 + 1 ≤ R.frames ∧ 8 + (3 + 11) + 22 ≤ R.locals) (hcs : cells + 0 ≤ R.cells ∧ slots + 0 ≤ R.slots) (hc : f_Selector_coversAtOnce M a0 a1 = some r) (hsz : ls.size = nL) (hP : va_P D vwC (c_ws cI cL cG cZ ad M) H) (hS : va_S (c_A ad) H0 H locs) (hdg : decode cc pc = .ok (.invokevirtual 84, 3))
    (kk : ∀ (H1 : Heap) (locs1 : List Loc), va_P D vwC (c_ws cI cL cG cZ ad M) H1 → va_S (c_A ad) H0 H1 locs1 → W p l e R s m args below meth c H1 locs1 cells slots Q (F0 m (pc + 3) ls (.int r :: rest))) : W p l e R s m args below meth c H locs cells slots Q (F0 m pc ls (.int a1 :: .int a0 :: .ref (ad 8) :: rest)) := by
  have hta := X.2.2.2.2
  exact x_afterI (va_runV (As := [.int a0, .int a1]) (rest := rest) X (c_Selector_coversAtOnce hD hc) ⟨callB_of 2 hta (good_all (L := .code y_Selector_coversAtOnce prog_10_method_5_code 3 (some .boolean) :: ALLW) (List.forall_mem_cons.mpr ⟨wm_513, fun _ h => h⟩)) rfl rfl rfl (hta _ wm_9) (hta _ wm_510) (by decide +kernel) hR, hta _ wm_512, hta _ wp_10⟩ ⟨x_blind Kk_w _, va_recv hkk.1 hP (ci := 8) (q0 := 8) rfl c_c8, x_pre Kk_w hkk hP _⟩ rfl rfl hsz rfl (lv_room hrest) hdg hcs) hS kk
theorem xvc_Selector_58 {p : Program} {l : Launch} {e : Env} {R : Room} {s : State} {m : MethodId} {args : Array Value} {below : List Frame} {meth : Method} {c : Code} {H : Heap} {locs : List Loc} {cells slots : Nat} {Q : State → Prop} {cc : ByteArray} {pc : Nat} {ls : Array Slot} {rest : List Value} {D : va_G} {cI cL cG cZ : ClassId} {ad : Nat → Nat} {M : Mem} {H0 : Heap} {nL : Nat} {a0 : Int64} {a1 : Int32} {r : Int32} (X : CallFix p m c cc nL s args ALLW "LinkAudit$Selector") (hkk : Kk D cI cL cG cZ s) (hD : ∀ M, va_D (c_A ad) (c_ws cI cL cG cZ ad M)) (hrest : (rest.map fun v => v.category).sum ≤ 8) (hR : 0 + 1 ≤ R.frames ∧ 8 + (3 + 11) + 0 ≤ R.locals) (hcs : cells + 0 ≤ R.cells ∧ slots + 0 ≤ R.slots) (hc : f_LinkAudit_hasBit a0 a1 = some r) (hsz : ls.size = nL) (hP : va_P D vwC (c_ws cI cL cG cZ ad M) H) (hS : va_S (c_A ad) H0 H locs) (hdg : decode cc pc = .ok (.invokestatic 58, 3))
    (kk : ∀ (H1 : Heap) (locs1 : List Loc), va_P D vwC (c_ws cI cL cG cZ ad M) H1 → va_S (c_A ad) H0 H1 locs1 → W p l e R s m args below meth c H1 locs1 cells slots Q (F0 m (pc + 3) ls (.int r :: rest))) : W p l e R s m args below meth c H locs cells slots Q (F0 m pc ls (.int a1 :: .long a0 :: rest)) := by
  have hta := X.2.2.2.2
  exact x_after0I e_no (va_runSN (As := [.long a0, .int a1]) (rest := rest) X (c_LinkAudit_hasBit (ad := ad) (M := M) e_D hc) ⟨va_cnB (host := "LinkAudit") 2 hta (good_all (L := .code y_LinkAudit_hasBit prog_1_method_22_code 3 (some .boolean) :: ALLW) (List.forall_mem_cons.mpr ⟨wm_433, fun _ h => h⟩)) rfl rfl rfl (hkk.2 _ (List.mem_of_getElem? (i := 6) rfl)) (hta _ wm_1) (by decide +kernel) hR, hta _ wm_432, trivial⟩ ⟨x_blind Kk_w _, x_pre Kk_w hkk e_P _⟩ rfl rfl hsz rfl (lv_room hrest) hdg hcs) hP hS kk
theorem xvc_Selector_66 {p : Program} {l : Launch} {e : Env} {R : Room} {s : State} {m : MethodId} {args : Array Value} {below : List Frame} {meth : Method} {c : Code} {H : Heap} {locs : List Loc} {cells slots : Nat} {Q : State → Prop} {cc : ByteArray} {pc : Nat} {ls : Array Slot} {rest : List Value} {D : va_G} {cI cL cG cZ : ClassId} {ad : Nat → Nat} {M : Mem} {H0 : Heap} {nL : Nat} {a0 : Int32} {r : Int64} (X : CallFix p m c cc nL s args ALLW "LinkAudit$Selector") (hkk : Kk D cI cL cG cZ s) (hD : ∀ M, va_D (c_A ad) (c_ws cI cL cG cZ ad M)) (hrest : (rest.map fun v => v.category).sum ≤ 8) (hR : 1 + 1 ≤ R.frames ∧ 8 + (2 + 11) + 24 ≤ R.locals) (hcs : cells + 0 ≤ R.cells ∧ slots + 0 ≤ R.slots) (hc : f_Selector_likeOnes M a0 = some r) (hsz : ls.size = nL) (hP : va_P D vwC (c_ws cI cL cG cZ ad M) H) (hS : va_S (c_A ad) H0 H locs) (hdg : decode cc pc = .ok (.invokevirtual 66, 3))
    (kk : ∀ (H1 : Heap) (locs1 : List Loc), va_P D vwC (c_ws cI cL cG cZ ad M) H1 → va_S (c_A ad) H0 H1 locs1 → W p l e R s m args below meth c H1 locs1 cells slots Q (F0 m (pc + 3) ls (.long r :: rest))) : W p l e R s m args below meth c H locs cells slots Q (F0 m pc ls (.int a0 :: .ref (ad 8) :: rest)) := by
  have hta := X.2.2.2.2
  exact x_afterL (va_runV (As := [.int a0]) (rest := rest) X (c_Selector_likeOnes hD hc) ⟨callB_of 1 hta (good_all (L := .code y_Selector_likeOnes prog_10_method_4_code 2 (some .long) :: ALLW) (List.forall_mem_cons.mpr ⟨wm_499, fun _ h => h⟩)) rfl rfl rfl (hta _ wm_9) (hta _ wm_496) (by decide +kernel) hR, hta _ wm_498, hta _ wp_9⟩ ⟨x_blind Kk_w _, va_recv hkk.1 hP (ci := 8) (q0 := 8) rfl c_c8, x_pre Kk_w hkk hP _⟩ rfl rfl hsz rfl (lv_room hrest) hdg hcs) hS kk
set_option maxHeartbeats 4000000 in
set_option maxRecDepth 100000 in
theorem c_Selector_coveredFrom {l : Launch} {D : va_G} {cI cL cG cZ : ClassId} {ad : Nat → Nat} {M : Mem} {a1 : Int32} {a2 : Int32} {r : Int64} (hD : ∀ M, va_D (c_A ad) (c_ws cI cL cG cZ ad M)) (hf : f_Selector_coveredFrom M a1 a2 = some r) : Ml l y_Selector_coveredFrom (.code y_Selector_coveredFrom prog_10_method_3_code 13 (some .long) :: ALLW) (rmR 2 45) (Kk D cI cL cG cZ) D vwC (c_A ad) (c_ws cI cL cG cZ ad) [.ref (ad 8), .int a1, .int a2] M M r := by
  refine Ml_ofR (by decide) (Nat.le_of_ble_eq_true rfl) ?_
  intro p e s m args below meth c ls Q X hkk hret hP hl
  obtain ⟨hx, hb, hml, hown, hta⟩ := id X
  have hKv := hkk.1
  have hS : va_S (c_A ad) s.heap s.heap [] := va_S.rf
  have hl : lv_has ls 13 [(0, .ref (ad 8)), (1, .int a1), (2, .int a2)] := hl
  have L15 : ∀ (x1 : Int32) (x2 : Int32) (x3 : Int64), ∀ (ke112 : Int64 → Option Int64), ke112 = (fun y5 => some (y5)) → ∀ (n15 : Nat) (x5 : Int64) (x7 : Int64) (x9 : Int32) (H : Heap) (locs : List Loc) (ls : Array Slot), f_Selector_coveredFrom_L15 M x1 x2 x3 ke112 n15 x5 x7 x9 = some r → va_P D vwC (c_ws cI cL cG cZ ad M) H → va_S (c_A ad) s.heap H locs → lv_has ls 13 [(0, .ref (ad 8)), (1, .int x1), (2, .int x2), (3, .long x3), (5, .long x5), (7, .long x7), (9, .int x9)] → W p l e (rmR 2 45) s m args below meth c H locs 0 0 Q (F0 m 15 ls []) := by
    intro x1 x2 x3 ke112 hke112 n15
    induction n15 with
    | zero => intro x5 x7 x9 H locs ls hf; exact absurd (show (none : Option _) = some _ from hf) (fun q => by cases q)
    | succ n15 ih15 =>
      intro x5 x7 x9 H locs ls hf hP hS hl
      rw [f_Selector_coveredFrom_L15] at hf
      have b87 : ∀ (x5 : Int64) (x7 : Int64) (x9 : Int32) (x10 : Int64) (x12 : Int32) (H : Heap) (locs : List Loc) (ls : Array Slot), f_Selector_coveredFrom_b87 M x1 x2 x3 x5 x7 x9 x10 x12 (f_Selector_coveredFrom_L15 M x1 x2 x3 ke112 n15) ke112 = some r → va_P D vwC (c_ws cI cL cG cZ ad M) H → va_S (c_A ad) s.heap H locs → lv_has ls 13 [(0, .ref (ad 8)), (1, .int x1), (2, .int x2), (3, .long x3), (5, .long x5), (7, .long x7), (9, .int x9), (10, .long x10), (12, .int x12)] → W p l e (rmR 2 45) s m args below meth c H locs 0 0 Q (F0 m 87 ls []) := by
        intro x5 x7 x9 x10 x12 H locs ls hf hP hS hl
        unfold f_Selector_coveredFrom_b87 at hf
        refine lv_lload hx hb d_Selector_coveredFrom_87 (lv_at hl 4 rfl) ?_
        refine lv_lload hx hb d_Selector_coveredFrom_89 (lv_at hl 7 rfl) ?_
        refine lv_lor hx hb d_Selector_coveredFrom_91 ?_
        refine lv_lstore (lv' := [(5, .long ((x5 ||| x10))), (0, .ref (ad 8)), (1, .int x1), (2, .int x2), (3, .long x3), (7, .long x7), (9, .int x9), (10, .long x10), (12, .int x12)]) hx hb d_Selector_coveredFrom_92 hl (by decide) rfl (fun ls hl => ?_)
        refine lv_lload hx hb d_Selector_coveredFrom_94 (lv_at hl 5 rfl) ?_
        refine lv_aload_n hx hb d_Selector_coveredFrom_96 rfl (lv_at hl 1 rfl) ?_
        refine xg_Selector_9 hx hb hta hown hKv hP d_Selector_coveredFrom_97 ?_
        refine lv_iload hx hb d_Selector_coveredFrom_100 (lv_at hl 8 rfl) ?_
        obtain ⟨g1, hf⟩ := gd_ok hf
        refine x_lld hx hb hKv hP c_c60 g1 d_Selector_coveredFrom_102 ?_
        refine lv_lor hx hb d_Selector_coveredFrom_103 ?_
        refine lv_lstore (lv' := [(7, .long ((x7 ||| (M.2 60 x12.toNatClampNeg)))), (5, .long ((x5 ||| x10))), (0, .ref (ad 8)), (1, .int x1), (2, .int x2), (3, .long x3), (9, .int x9), (10, .long x10), (12, .int x12)]) hx hb d_Selector_coveredFrom_104 hl (by decide) rfl (fun ls hl => ?_)
        refine lv_iinc (v := (x9 + (1 : Int32))) (lv' := [(9, .int (x9 + (1 : Int32))), (7, .long ((x7 ||| (M.2 60 x12.toNatClampNeg)))), (5, .long ((x5 ||| x10))), (0, .ref (ad 8)), (1, .int x1), (2, .int x2), (3, .long x3), (10, .long x10), (12, .int x12)]) hx hb d_Selector_coveredFrom_106 hl (k := 6) rfl rfl (by decide) rfl (fun ls hl => ?_)
        refine lv_goto (tgt := 15) hx hb d_Selector_coveredFrom_109 (by decide) ?_
        exact ih15 (x5 ||| x10) (x7 ||| (M.2 60 x12.toNatClampNeg)) (x9 + (1 : Int32)) _ _ _ hf hP hS (lv_sub hl [3, 4, 5, 6, 2, 1, 0] rfl)
      refine lv_iload hx hb d_Selector_coveredFrom_15 (lv_at hl 6 rfl) ?_
      refine lv_aload_n hx hb d_Selector_coveredFrom_17 rfl (lv_at hl 0 rfl) ?_
      refine xg_Selector_21 hx hb hta hown hKv hP d_Selector_coveredFrom_18 ?_
      refine xg_Selector_70 hx hb hta hown hKv hP d_Selector_coveredFrom_21 ?_
      refine lv_iload_n hx hb d_Selector_coveredFrom_24 rfl (lv_at hl 1 rfl) ?_
      obtain ⟨g2, hf⟩ := gd_ok hf
      refine x_ild hx hb hKv hP c_c56 g2 d_Selector_coveredFrom_25 ?_
      refine lv_icmp_ge (tgt := 112) hx hb d_Selector_coveredFrom_26 (by decide) (fun c3 => ?_) (fun c3 => ?_)
      · have hf := ifp c3 hf
        rw [hke112] at hf
        refine lv_lload hx hb d_Selector_coveredFrom_112 (lv_at hl 4 rfl) ?_
        exact hret hf hP hS d_Selector_coveredFrom_114
      · have hf := ifn c3 hf
        refine lv_aload_n hx hb d_Selector_coveredFrom_29 rfl (lv_at hl 0 rfl) ?_
        refine xg_Selector_33 hx hb hta hown hKv hP d_Selector_coveredFrom_30 ?_
        refine xg_Selector_73 hx hb hta hown hKv hP d_Selector_coveredFrom_33 ?_
        refine lv_aload_n hx hb d_Selector_coveredFrom_36 rfl (lv_at hl 0 rfl) ?_
        refine xg_Selector_21 hx hb hta hown hKv hP d_Selector_coveredFrom_37 ?_
        refine xg_Selector_76 hx hb hta hown hKv hP d_Selector_coveredFrom_40 ?_
        refine lv_iload_n hx hb d_Selector_coveredFrom_43 rfl (lv_at hl 1 rfl) ?_
        obtain ⟨g4, hf⟩ := gd_ok hf
        refine x_ald (k0 := 38) (base := 39) (n := 17) hx hb hKv hP c_c38 g4 d_Selector_coveredFrom_44 ?_
        refine lv_iload hx hb d_Selector_coveredFrom_45 (lv_at hl 6 rfl) ?_
        obtain ⟨g5, hf⟩ := gd_ok hf
        refine x_ild hx hb hKv hP (c_c39 g4) g5 d_Selector_coveredFrom_47 ?_
        obtain ⟨g6, hf⟩ := gd_ok hf
        refine x_lld hx hb hKv hP c_c32 g6 d_Selector_coveredFrom_48 ?_
        refine lv_lload_n hx hb d_Selector_coveredFrom_49 rfl (lv_at hl 3 rfl) ?_
        refine lv_land hx hb d_Selector_coveredFrom_50 ?_
        refine lv_lstore (lv' := [(10, .long (((M.2 32 ((M.1 (39 + x1.toNatClampNeg) x9.toNatClampNeg)).toNatClampNeg) &&& x3))), (0, .ref (ad 8)), (1, .int x1), (2, .int x2), (3, .long x3), (5, .long x5), (7, .long x7), (9, .int x9)]) hx hb d_Selector_coveredFrom_51 hl (by decide) rfl (fun ls hl => ?_)
        refine lv_lload hx hb d_Selector_coveredFrom_53 (lv_at hl 0 rfl) ?_
        refine lv_lconst (v := (0 : Int64)) hx hb d_Selector_coveredFrom_55 (by decide) ?_
        refine W.lcmp hx hb d_Selector_coveredFrom_56 ?_
        refine lv_if_eq (tgt := 106) hx hb d_Selector_coveredFrom_57 (by decide) (fun c7 => ?_) (fun c7 => ?_)
        · have hf := ifp c7 hf
          refine lv_iinc (v := (x9 + (1 : Int32))) (lv' := [(9, .int (x9 + (1 : Int32))), (10, .long (((M.2 32 ((M.1 (39 + x1.toNatClampNeg) x9.toNatClampNeg)).toNatClampNeg) &&& x3))), (0, .ref (ad 8)), (1, .int x1), (2, .int x2), (3, .long x3), (5, .long x5), (7, .long x7)]) hx hb d_Selector_coveredFrom_106 hl (k := 7) rfl rfl (by decide) rfl (fun ls hl => ?_)
          refine lv_goto (tgt := 15) hx hb d_Selector_coveredFrom_109 (by decide) ?_
          exact ih15 x5 x7 (x9 + (1 : Int32)) _ _ _ hf hP hS (lv_sub hl [2, 3, 4, 5, 6, 7, 0] rfl)
        · have hf := ifn c7 hf
          refine lv_lload hx hb d_Selector_coveredFrom_60 (lv_at hl 0 rfl) ?_
          obtain ⟨r5, hc8, hf⟩ := bd1_e hf
          refine xvc_Selector_80 X hkk hD (Nat.le_of_ble_eq_true rfl) ⟨by dsimp only [rmR]; omega, by dsimp only [rmR]; omega⟩ ⟨Nat.zero_le _, Nat.zero_le _⟩ hc8 hl.1 hP hS d_Selector_coveredFrom_62 (fun H locs hP hS => ?_)
          refine lv_istore (lv' := [(12, .int r5), (10, .long (((M.2 32 ((M.1 (39 + x1.toNatClampNeg) x9.toNatClampNeg)).toNatClampNeg) &&& x3))), (0, .ref (ad 8)), (1, .int x1), (2, .int x2), (3, .long x3), (5, .long x5), (7, .long x7), (9, .int x9)]) hx hb d_Selector_coveredFrom_65 hl (by decide) rfl (fun ls hl => ?_)
          refine lv_aload_n hx hb d_Selector_coveredFrom_67 rfl (lv_at hl 2 rfl) ?_
          refine lv_iload_n hx hb d_Selector_coveredFrom_68 rfl (lv_at hl 4 rfl) ?_
          refine lv_iload hx hb d_Selector_coveredFrom_69 (lv_at hl 0 rfl) ?_
          obtain ⟨r6, hc9, hf⟩ := bd1_e hf
          refine xvc_Selector_84 X hkk hD (Nat.le_of_ble_eq_true rfl) ⟨by dsimp only [rmR]; omega, by dsimp only [rmR]; omega⟩ ⟨Nat.zero_le _, Nat.zero_le _⟩ hc9 hl.1 hP hS d_Selector_coveredFrom_71 (fun H locs hP hS => ?_)
          refine lv_if_ne (tgt := 87) hx hb d_Selector_coveredFrom_74 (by decide) (fun c10 => ?_) (fun c10 => ?_)
          · have hf := ifn c10 hf
            exact b87 x5 x7 x9 ((M.2 32 ((M.1 (39 + x1.toNatClampNeg) x9.toNatClampNeg)).toNatClampNeg) &&& x3) r5 _ _ _ hf hP hS (lv_sub hl [2, 3, 4, 5, 6, 7, 8, 1, 0] rfl)
          · have hf := ifp c10 hf
            refine lv_lload hx hb d_Selector_coveredFrom_77 (lv_at hl 7 rfl) ?_
            refine lv_iload hx hb d_Selector_coveredFrom_79 (lv_at hl 0 rfl) ?_
            obtain ⟨r7, hc11, hf⟩ := bd1_e hf
            refine xvc_Selector_58 X hkk hD (Nat.le_of_ble_eq_true rfl) ⟨by dsimp only [rmR]; omega, by dsimp only [rmR]; omega⟩ ⟨Nat.zero_le _, Nat.zero_le _⟩ hc11 hl.1 hP hS d_Selector_coveredFrom_81 (fun H locs hP hS => ?_)
            refine lv_if_eq (tgt := 106) hx hb d_Selector_coveredFrom_84 (by decide) (fun c12 => ?_) (fun c12 => ?_)
            · have hf := ifp c12 hf
              refine lv_iinc (v := (x9 + (1 : Int32))) (lv' := [(9, .int (x9 + (1 : Int32))), (12, .int r5), (10, .long (((M.2 32 ((M.1 (39 + x1.toNatClampNeg) x9.toNatClampNeg)).toNatClampNeg) &&& x3))), (0, .ref (ad 8)), (1, .int x1), (2, .int x2), (3, .long x3), (5, .long x5), (7, .long x7)]) hx hb d_Selector_coveredFrom_106 hl (k := 8) rfl rfl (by decide) rfl (fun ls hl => ?_)
              refine lv_goto (tgt := 15) hx hb d_Selector_coveredFrom_109 (by decide) ?_
              exact ih15 x5 x7 (x9 + (1 : Int32)) _ _ _ hf hP hS (lv_sub hl [3, 4, 5, 6, 7, 8, 0] rfl)
            · have hf := ifn c12 hf
              exact b87 x5 x7 x9 ((M.2 32 ((M.1 (39 + x1.toNatClampNeg) x9.toNatClampNeg)).toNatClampNeg) &&& x3) r5 _ _ _ hf hP hS (lv_sub hl [2, 3, 4, 5, 6, 7, 8, 1, 0] rfl)
  unfold f_Selector_coveredFrom at hf
  refine lv_aload_n hx hb d_Selector_coveredFrom_0 rfl (lv_at hl 0 rfl) ?_
  refine lv_iload_n hx hb d_Selector_coveredFrom_1 rfl (lv_at hl 2 rfl) ?_
  obtain ⟨r8, hc13, hf⟩ := bd1_e hf
  refine xvc_Selector_66 X hkk hD (Nat.le_of_ble_eq_true rfl) ⟨by dsimp only [rmR]; omega, by dsimp only [rmR]; omega⟩ ⟨Nat.zero_le _, Nat.zero_le _⟩ hc13 hl.1 hP hS d_Selector_coveredFrom_2 (fun H locs hP hS => ?_)
  refine lv_lstore_n (lv' := [(3, .long r8), (0, .ref (ad 8)), (1, .int a1), (2, .int a2)]) hx hb d_Selector_coveredFrom_5 rfl hl (by decide) rfl (fun ls hl => ?_)
  refine lv_lconst (v := (0 : Int64)) hx hb d_Selector_coveredFrom_6 (by decide) ?_
  refine lv_lstore (lv' := [(5, .long ((0 : Int64))), (3, .long r8), (0, .ref (ad 8)), (1, .int a1), (2, .int a2)]) hx hb d_Selector_coveredFrom_7 hl (by decide) rfl (fun ls hl => ?_)
  refine lv_lconst (v := (0 : Int64)) hx hb d_Selector_coveredFrom_9 (by decide) ?_
  refine lv_lstore (lv' := [(7, .long ((0 : Int64))), (5, .long ((0 : Int64))), (3, .long r8), (0, .ref (ad 8)), (1, .int a1), (2, .int a2)]) hx hb d_Selector_coveredFrom_10 hl (by decide) rfl (fun ls hl => ?_)
  refine lv_iconst (v := (1 : Int32)) hx hb d_Selector_coveredFrom_12 (by decide) ?_
  refine lv_istore (lv' := [(9, .int (1 : Int32)), (7, .long ((0 : Int64))), (5, .long ((0 : Int64))), (3, .long r8), (0, .ref (ad 8)), (1, .int a1), (2, .int a2)]) hx hb d_Selector_coveredFrom_13 hl (by decide) rfl (fun ls hl => ?_)
  exact L15 a1 a2 r8 _ rfl FU (0 : Int64) (0 : Int64) (1 : Int32) _ _ _ hf hP hS (lv_sub hl [4, 5, 6, 3, 2, 1, 0] rfl)

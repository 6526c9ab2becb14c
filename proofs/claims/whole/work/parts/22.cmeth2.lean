-- LinkAudit$Loaders.found
theorem xg_Loaders_23 {p : Program} {l : Launch} {e : Env} {R : Room} {s : State} {m : MethodId} {args : Array Value} {below : List Frame} {meth : Method} {c : Code} {H : Heap} {locs : List Loc} {cells slots : Nat} {Q : State → Prop} {cc : ByteArray} {pc : Nat} {ls : Array Slot} {rest : List Value} {D : va_G} {cI cL cG cZ : ClassId} {ad : Nat → Nat} {M : Mem} (hx : p.tables.exec = Jvm.exec) (hb : c.code = cc) (hta : ∀ w ∈ ALLW, w.before args s = true) (hown : s.vm.findClass "LinkAudit$Loaders" = some m.cls) (hK : va_K D vwC [(cI, .int), (cL, .long), (cG, .array .int), (cZ, .boolean)] s) (hP : va_P D vwC (c_ws cI cL cG cZ ad M) H) (hdg : decode cc pc = .ok (.getfield 23, 3))
    (kk : W p l e R s m args below meth c H locs cells slots Q (F0 m (pc + 3) ls (.ref (ad 18) :: rest))) : W p l e R s m args below meth c H locs cells slots Q (F0 m pc ls (.ref (ad 1) :: rest)) :=
  va_get (D := D) (ci := 1) (v := .ref (ad 18)) (C := "LinkAudit$Loaders") (T := T_Loaders) (N := 4) hx hb hta i_Loaders hown hK hP 1 c_c1 rfl 3 (by decide) (hta _ wm_35) (fun _ h9 => h9) rfl hdg kk
theorem xvc_Loaders_26 {p : Program} {l : Launch} {e : Env} {R : Room} {s : State} {m : MethodId} {args : Array Value} {below : List Frame} {meth : Method} {c : Code} {H : Heap} {locs : List Loc} {cells slots : Nat} {Q : State → Prop} {cc : ByteArray} {pc : Nat} {ls : Array Slot} {rest : List Value} {D : va_G} {cI cL cG cZ : ClassId} {ad : Nat → Nat} {M : Mem} {H0 : Heap} {nL : Nat} {a0 : Int64} {a1 : Int32} {r : Int32} (X : CallFix p m c cc nL s args ALLW "LinkAudit$Loaders") (hkk : Kk D cI cL cG cZ s) (hD : ∀ M, va_D (c_A ad) (c_ws cI cL cG cZ ad M)) (hrest : (rest.map fun v => v.category).sum ≤ 8) (hR : 0 + 1 ≤ R.frames ∧ 8 + (3 + 11) + 0 ≤ R.locals) (hcs : cells + 0 ≤ R.cells ∧ slots + 0 ≤ R.slots) (hc : f_LinkAudit_hasBit a0 a1 = some r) (hsz : ls.size = nL) (hP : va_P D vwC (c_ws cI cL cG cZ ad M) H) (hS : va_S (c_A ad) H0 H locs) (hdg : decode cc pc = .ok (.invokestatic 26, 3))
    (kk : ∀ (H1 : Heap) (locs1 : List Loc), va_P D vwC (c_ws cI cL cG cZ ad M) H1 → va_S (c_A ad) H0 H1 locs1 → W p l e R s m args below meth c H1 locs1 cells slots Q (F0 m (pc + 3) ls (.int r :: rest))) : W p l e R s m args below meth c H locs cells slots Q (F0 m pc ls (.int a1 :: .long a0 :: rest)) := by
  have hta := X.2.2.2.2
  exact x_after0I e_no (va_runSN (As := [.long a0, .int a1]) (rest := rest) X (c_LinkAudit_hasBit (ad := ad) (M := M) e_D hc) ⟨va_cnB (host := "LinkAudit") 2 hta (good_all (L := .code y_LinkAudit_hasBit prog_1_method_22_code 3 (some .boolean) :: ALLW) (List.forall_mem_cons.mpr ⟨wm_433, fun _ h => h⟩)) rfl rfl rfl (hkk.2 _ (List.mem_of_getElem? (i := 4) rfl)) (hta _ wm_1) (by decide +kernel) hR, hta _ wm_432, trivial⟩ ⟨x_blind Kk_w _, x_pre Kk_w hkk e_P _⟩ rfl rfl hsz rfl (lv_room hrest) hdg hcs) hP hS kk
set_option maxHeartbeats 4000000 in
set_option maxRecDepth 100000 in
theorem c_Loaders_found {l : Launch} {D : va_G} {cI cL cG cZ : ClassId} {ad : Nat → Nat} {M : Mem} {a1 : Int32} {a2 : Int32} {r : Int32} (hD : ∀ M, va_D (c_A ad) (c_ws cI cL cG cZ ad M)) (hf : f_Loaders_found M a1 a2 = some r) : Mi l y_Loaders_found (.code y_Loaders_found prog_6_method_5_code 5 (some .int) :: ALLW) (rmR 1 22) (Kk D cI cL cG cZ) D vwC (c_A ad) (c_ws cI cL cG cZ ad) [.ref (ad 1), .int a1, .int a2] M M r := by
  refine Mi_ofR (by decide) (Nat.le_of_ble_eq_true rfl) ?_
  intro p e s m args below meth c ls Q X hkk hret hP hl
  obtain ⟨hx, hb, hml, hown, hta⟩ := id X
  have hKv := hkk.1
  have hS : va_S (c_A ad) s.heap s.heap [] := va_S.rf
  have hl : lv_has ls 5 [(0, .ref (ad 1)), (1, .int a1), (2, .int a2)] := hl
  have b66 : ∀ (x1 : Int32) (x2 : Int32) (x3 : Int32) (H : Heap) (locs : List Loc) (ls : Array Slot), f_Loaders_found_b66 M x1 x2 x3 = some r → va_P D vwC (c_ws cI cL cG cZ ad M) H → va_S (c_A ad) s.heap H locs → lv_has ls 5 [(0, .ref (ad 1)), (1, .int x1), (2, .int x2), (3, .int x3)] → W p l e (rmR 1 22) s m args below meth c H locs 0 0 Q (F0 m 66 ls []) := by
    intro x1 x2 x3 H locs ls hf hP hS hl
    unfold f_Loaders_found_b66 at hf
    refine lv_iload_n hx hb d_Loaders_found_66 rfl (lv_at hl 3 rfl) ?_
    refine lv_if_ne (tgt := 81) hx hb d_Loaders_found_67 (by decide) (fun c1 => ?_) (fun c1 => ?_)
    · have hf := ifn c1 hf
      refine lv_iload_n hx hb d_Loaders_found_81 rfl (lv_at hl 3 rfl) ?_
      exact hret hf hP hS d_Loaders_found_82
    · have hf := ifp c1 hf
      refine lv_aload_n hx hb d_Loaders_found_70 rfl (lv_at hl 0 rfl) ?_
      refine xg_Loaders_23 hx hb hta hown hKv hP d_Loaders_found_71 ?_
      refine lv_iload_n hx hb d_Loaders_found_74 rfl (lv_at hl 1 rfl) ?_
      obtain ⟨g2, hf⟩ := gd_ok hf
      refine x_ald (k0 := 18) (base := 19) (n := 5) hx hb hKv hP c_c18 g2 d_Loaders_found_75 ?_
      refine lv_iload_n hx hb d_Loaders_found_76 rfl (lv_at hl 2 rfl) ?_
      obtain ⟨g3, hf⟩ := gd_ok hf
      refine x_ild hx hb hKv hP (c_c19 g2) g3 d_Loaders_found_77 ?_
      refine lv_goto (tgt := 82) hx hb d_Loaders_found_78 (by decide) ?_
      exact hret hf hP hS d_Loaders_found_82
  have L28 : ∀ (x1 : Int32) (x2 : Int32), ∀ (ke66 : Int32 → Option Int32), ke66 = (fun y3 => f_Loaders_found_b66 M x1 x2 y3) → ∀ (n28 : Nat) (x3 : Int32) (x4 : Int32) (H : Heap) (locs : List Loc) (ls : Array Slot), f_Loaders_found_L28 M x1 x2 ke66 n28 x3 x4 = some r → va_P D vwC (c_ws cI cL cG cZ ad M) H → va_S (c_A ad) s.heap H locs → lv_has ls 5 [(0, .ref (ad 1)), (1, .int x1), (2, .int x2), (3, .int x3), (4, .int x4)] → W p l e (rmR 1 22) s m args below meth c H locs 0 0 Q (F0 m 28 ls []) := by
    intro x1 x2 ke66 hke66 n28
    induction n28 with
    | zero => intro x3 x4 H locs ls hf; exact absurd (show (none : Option _) = some _ from hf) (fun q => by cases q)
    | succ n28 ih28 =>
      intro x3 x4 H locs ls hf hP hS hl
      rw [f_Loaders_found_L28] at hf
      refine lv_iload hx hb d_Loaders_found_28 (lv_at hl 4 rfl) ?_
      refine lv_aload_n hx hb d_Loaders_found_30 rfl (lv_at hl 0 rfl) ?_
      refine xg_Loaders_16 hx hb hta hown hKv hP d_Loaders_found_31 ?_
      refine lv_iload_n hx hb d_Loaders_found_34 rfl (lv_at hl 1 rfl) ?_
      obtain ⟨g4, hf⟩ := gd_ok hf
      refine x_ild hx hb hKv hP c_c16 g4 d_Loaders_found_35 ?_
      refine lv_icmp_ge (tgt := 66) hx hb d_Loaders_found_36 (by decide) (fun c5 => ?_) (fun c5 => ?_)
      · have hf := ifp c5 hf
        rw [hke66] at hf
        exact b66 x1 x2 x3 _ _ _ hf hP hS (lv_sub hl [0, 1, 2, 3] rfl)
      · have hf := ifn c5 hf
        refine lv_iload_n hx hb d_Loaders_found_39 rfl (lv_at hl 3 rfl) ?_
        refine lv_if_ne (tgt := 66) hx hb d_Loaders_found_40 (by decide) (fun c6 => ?_) (fun c6 => ?_)
        · have hf := ifn c6 hf
          rw [hke66] at hf
          exact b66 x1 x2 x3 _ _ _ hf hP hS (lv_sub hl [0, 1, 2, 3] rfl)
        · have hf := ifp c6 hf
          refine lv_aload_n hx hb d_Loaders_found_43 rfl (lv_at hl 0 rfl) ?_
          refine xg_Loaders_23 hx hb hta hown hKv hP d_Loaders_found_44 ?_
          refine lv_aload_n hx hb d_Loaders_found_47 rfl (lv_at hl 0 rfl) ?_
          refine xg_Loaders_11 hx hb hta hown hKv hP d_Loaders_found_48 ?_
          refine lv_iload_n hx hb d_Loaders_found_51 rfl (lv_at hl 1 rfl) ?_
          obtain ⟨g7, hf⟩ := gd_ok hf
          refine x_ald (k0 := 10) (base := 11) (n := 5) hx hb hKv hP c_c10 g7 d_Loaders_found_52 ?_
          refine lv_iload hx hb d_Loaders_found_53 (lv_at hl 4 rfl) ?_
          obtain ⟨g8, hf⟩ := gd_ok hf
          refine x_ild hx hb hKv hP (c_c11 g7) g8 d_Loaders_found_55 ?_
          obtain ⟨g9, hf⟩ := gd_ok hf
          refine x_ald (k0 := 18) (base := 19) (n := 5) hx hb hKv hP c_c18 g9 d_Loaders_found_56 ?_
          refine lv_iload_n hx hb d_Loaders_found_57 rfl (lv_at hl 2 rfl) ?_
          obtain ⟨g10, hf⟩ := gd_ok hf
          refine x_ild hx hb hKv hP (c_c19 g9) g10 d_Loaders_found_58 ?_
          refine lv_istore_n (lv' := [(3, .int (M.1 (19 + ((M.1 (11 + x1.toNatClampNeg) x4.toNatClampNeg)).toNatClampNeg) x2.toNatClampNeg)), (0, .ref (ad 1)), (1, .int x1), (2, .int x2), (4, .int x4)]) hx hb d_Loaders_found_59 rfl hl (by decide) rfl (fun ls hl => ?_)
          refine lv_iinc (v := (x4 + (1 : Int32))) (lv' := [(4, .int (x4 + (1 : Int32))), (3, .int (M.1 (19 + ((M.1 (11 + x1.toNatClampNeg) x4.toNatClampNeg)).toNatClampNeg) x2.toNatClampNeg)), (0, .ref (ad 1)), (1, .int x1), (2, .int x2)]) hx hb d_Loaders_found_60 hl (k := 4) rfl rfl (by decide) rfl (fun ls hl => ?_)
          refine lv_goto (tgt := 28) hx hb d_Loaders_found_63 (by decide) ?_
          exact ih28 (M.1 (19 + ((M.1 (11 + x1.toNatClampNeg) x4.toNatClampNeg)).toNatClampNeg) x2.toNatClampNeg) (x4 + (1 : Int32)) _ _ _ hf hP hS (lv_sub hl [2, 3, 4, 1, 0] rfl)
  unfold f_Loaders_found at hf
  refine lv_iconst (v := (0 : Int32)) hx hb d_Loaders_found_0 (by decide) ?_
  refine lv_istore_n (lv' := [(3, .int (0 : Int32)), (0, .ref (ad 1)), (1, .int a1), (2, .int a2)]) hx hb d_Loaders_found_1 rfl hl (by decide) rfl (fun ls hl => ?_)
  refine lv_aload_n hx hb d_Loaders_found_2 rfl (lv_at hl 1 rfl) ?_
  refine xg_Loaders_20 hx hb hta hown hKv hP d_Loaders_found_3 ?_
  refine lv_iload_n hx hb d_Loaders_found_6 rfl (lv_at hl 2 rfl) ?_
  obtain ⟨g11, hf⟩ := gd_ok hf
  refine x_ild hx hb hKv hP c_c17 g11 d_Loaders_found_7 ?_
  refine lv_i2l hx hb d_Loaders_found_8 rfl ?_
  refine lv_iload_n hx hb d_Loaders_found_9 rfl (lv_at hl 3 rfl) ?_
  obtain ⟨r2, hc12, hf⟩ := bd1_e hf
  refine xvc_Loaders_26 X hkk hD (Nat.le_of_ble_eq_true rfl) ⟨by dsimp only [rmR]; omega, by dsimp only [rmR]; omega⟩ ⟨Nat.zero_le _, Nat.zero_le _⟩ hc12 hl.1 hP hS d_Loaders_found_10 (fun H locs hP hS => ?_)
  refine lv_if_ne (tgt := 66) hx hb d_Loaders_found_13 (by decide) (fun c13 => ?_) (fun c13 => ?_)
  · have hf := ifn c13 hf
    exact b66 a1 a2 (0 : Int32) _ _ _ hf hP hS (lv_sub hl [1, 2, 3, 0] rfl)
  · have hf := ifp c13 hf
    refine lv_aload_n hx hb d_Loaders_found_16 rfl (lv_at hl 1 rfl) ?_
    refine xg_Loaders_23 hx hb hta hown hKv hP d_Loaders_found_17 ?_
    refine lv_iconst (v := (0 : Int32)) hx hb d_Loaders_found_20 (by decide) ?_
    obtain ⟨g14, hf⟩ := gd_ok hf
    refine x_ald (k0 := 18) (base := 19) (n := 5) hx hb hKv hP c_c18 g14 d_Loaders_found_21 ?_
    refine lv_iload_n hx hb d_Loaders_found_22 rfl (lv_at hl 3 rfl) ?_
    obtain ⟨g15, hf⟩ := gd_ok hf
    refine x_ild hx hb hKv hP (c_c19 g14) g15 d_Loaders_found_23 ?_
    refine lv_istore_n (lv' := [(3, .int (M.1 (19 + ((0 : Int32)).toNatClampNeg) a2.toNatClampNeg)), (0, .ref (ad 1)), (1, .int a1), (2, .int a2)]) hx hb d_Loaders_found_24 rfl hl (by decide) rfl (fun ls hl => ?_)
    refine lv_iconst (v := (0 : Int32)) hx hb d_Loaders_found_25 (by decide) ?_
    refine lv_istore (lv' := [(4, .int (0 : Int32)), (3, .int (M.1 (19 + ((0 : Int32)).toNatClampNeg) a2.toNatClampNeg)), (0, .ref (ad 1)), (1, .int a1), (2, .int a2)]) hx hb d_Loaders_found_26 hl (by decide) rfl (fun ls hl => ?_)
    exact L28 a1 a2 _ rfl FU (M.1 (19 + ((0 : Int32)).toNatClampNeg) a2.toNatClampNeg) (0 : Int32) _ _ _ hf hP hS (lv_sub hl [2, 3, 4, 1, 0] rfl)
-- LinkAudit.find
theorem xvc_LinkAudit_141 {p : Program} {l : Launch} {e : Env} {R : Room} {s : State} {m : MethodId} {args : Array Value} {below : List Frame} {meth : Method} {c : Code} {H : Heap} {locs : List Loc} {cells slots : Nat} {Q : State → Prop} {cc : ByteArray} {pc : Nat} {ls : Array Slot} {rest : List Value} {D : va_G} {cI cL cG cZ : ClassId} {ad : Nat → Nat} {M : Mem} {H0 : Heap} {nL : Nat} {a0 : Int32} {a1 : Int32} {r : Int32} (X : CallFix p m c cc nL s args ALLW "LinkAudit") (hkk : Kk D cI cL cG cZ s) (hD : ∀ M, va_D (c_A ad) (c_ws cI cL cG cZ ad M)) (hrest : (rest.map fun v => v.category).sum ≤ 8) (hR : 1 + 1 ≤ R.frames ∧ 8 + (5 + 11) + 22 ≤ R.locals) (hcs : cells + 0 ≤ R.cells ∧ slots + 0 ≤ R.slots) (hc : f_Loaders_found M a0 a1 = some r) (hsz : ls.size = nL) (hP : va_P D vwC (c_ws cI cL cG cZ ad M) H) (hS : va_S (c_A ad) H0 H locs) (hdg : decode cc pc = .ok (.invokevirtual 141, 3))
    (kk : ∀ (H1 : Heap) (locs1 : List Loc), va_P D vwC (c_ws cI cL cG cZ ad M) H1 → va_S (c_A ad) H0 H1 locs1 → W p l e R s m args below meth c H1 locs1 cells slots Q (F0 m (pc + 3) ls (.int r :: rest))) : W p l e R s m args below meth c H locs cells slots Q (F0 m pc ls (.int a1 :: .int a0 :: .ref (ad 1) :: rest)) := by
  have hta := X.2.2.2.2
  exact x_afterI (va_runV (As := [.int a0, .int a1]) (rest := rest) X (c_Loaders_found hD hc) ⟨callB_of 2 hta (good_all (L := .code y_Loaders_found prog_6_method_5_code 5 (some .int) :: ALLW) (List.forall_mem_cons.mpr ⟨wm_430, fun _ h => h⟩)) rfl rfl rfl (hta _ wm_2) (hta _ wm_427) (by decide +kernel) hR, hta _ wm_428, hta _ wm_429⟩ ⟨x_blind Kk_w _, va_recv hkk.1 hP (ci := 1) (q0 := 1) rfl c_c1, x_pre Kk_w hkk hP _⟩ rfl rfl hsz rfl (lv_room hrest) hdg hcs) hS kk
set_option maxHeartbeats 4000000 in
set_option maxRecDepth 100000 in
theorem c_LinkAudit_find {l : Launch} {D : va_G} {cI cL cG cZ : ClassId} {ad : Nat → Nat} {M : Mem} {a1 : Int32} {a2 : Int32} {r : Int32} (hD : ∀ M, va_D (c_A ad) (c_ws cI cL cG cZ ad M)) (hf : f_LinkAudit_find M a1 a2 = some r) : Mi l y_LinkAudit_find (.code y_LinkAudit_find prog_1_method_8_code 4 (some .int) :: ALLW) (rmR 2 46) (Kk D cI cL cG cZ) D vwC (c_A ad) (c_ws cI cL cG cZ ad) [.ref (ad 0), .int a1, .int a2] M M r := by
  refine Mi_ofR (by decide) (Nat.le_of_ble_eq_true rfl) ?_
  intro p e s m args below meth c ls Q X hkk hret hP hl
  obtain ⟨hx, hb, hml, hown, hta⟩ := id X
  have hKv := hkk.1
  have hS : va_S (c_A ad) s.heap s.heap [] := va_S.rf
  have hl : lv_has ls 4 [(0, .ref (ad 0)), (1, .int a1), (2, .int a2)] := hl
  unfold f_LinkAudit_find at hf
  refine lv_iload_n hx hb d_LinkAudit_find_0 rfl (lv_at hl 1 rfl) ?_
  refine lv_iconst (v := (5 : Int32)) hx hb d_LinkAudit_find_1 (by decide) ?_
  obtain ⟨r4, hc1, hf⟩ := bd1_e hf
  refine xvc_LinkAudit_89 X hkk hD (Nat.le_of_ble_eq_true rfl) ⟨by dsimp only [rmR]; omega, by dsimp only [rmR]; omega⟩ ⟨Nat.zero_le _, Nat.zero_le _⟩ hc1 hl.1 hP hS d_LinkAudit_find_2 (fun H locs hP hS => ?_)
  refine lv_if_eq (tgt := 17) hx hb d_LinkAudit_find_5 (by decide) (fun c2 => ?_) (fun c2 => ?_)
  · have hf := ifp c2 hf
    refine lv_iconst (v := (-1 : Int32)) hx hb d_LinkAudit_find_17 (by decide) ?_
    exact hret hf hP hS d_LinkAudit_find_18
  · have hf := ifn c2 hf
    refine lv_iload_n hx hb d_LinkAudit_find_8 rfl (lv_at hl 2 rfl) ?_
    refine lv_bipush (v := (12 : Int32)) hx hb d_LinkAudit_find_9 (by decide) ?_
    obtain ⟨r5, hc3, hf⟩ := bd1_e hf
    refine xvc_LinkAudit_89 X hkk hD (Nat.le_of_ble_eq_true rfl) ⟨by dsimp only [rmR]; omega, by dsimp only [rmR]; omega⟩ ⟨Nat.zero_le _, Nat.zero_le _⟩ hc3 hl.1 hP hS d_LinkAudit_find_11 (fun H locs hP hS => ?_)
    refine lv_if_ne (tgt := 19) hx hb d_LinkAudit_find_14 (by decide) (fun c4 => ?_) (fun c4 => ?_)
    · have hf := ifn c4 hf
      refine lv_aload_n hx hb d_LinkAudit_find_19 rfl (lv_at hl 0 rfl) ?_
      refine xg_LinkAudit_12 hx hb hta hown hKv hP d_LinkAudit_find_20 ?_
      refine lv_iload_n hx hb d_LinkAudit_find_23 rfl (lv_at hl 1 rfl) ?_
      refine lv_iload_n hx hb d_LinkAudit_find_24 rfl (lv_at hl 2 rfl) ?_
      obtain ⟨r6, hc5, hf⟩ := bd1_e hf
      refine xvc_LinkAudit_141 X hkk hD (Nat.le_of_ble_eq_true rfl) ⟨by dsimp only [rmR]; omega, by dsimp only [rmR]; omega⟩ ⟨Nat.zero_le _, Nat.zero_le _⟩ hc5 hl.1 hP hS d_LinkAudit_find_25 (fun H locs hP hS => ?_)
      refine lv_istore_n (lv' := [(3, .int r6), (0, .ref (ad 0)), (1, .int a1), (2, .int a2)]) hx hb d_LinkAudit_find_28 rfl hl (by decide) rfl (fun ls hl => ?_)
      refine lv_iload_n hx hb d_LinkAudit_find_29 rfl (lv_at hl 0 rfl) ?_
      refine lv_if_ne (tgt := 38) hx hb d_LinkAudit_find_30 (by decide) (fun c6 => ?_) (fun c6 => ?_)
      · have hf := ifn c6 hf
        refine lv_iload_n hx hb d_LinkAudit_find_38 rfl (lv_at hl 0 rfl) ?_
        exact hret hf hP hS d_LinkAudit_find_39
      · have hf := ifp c6 hf
        refine lv_bipush (v := (-3 : Int32)) hx hb d_LinkAudit_find_33 (by decide) ?_
        refine lv_goto (tgt := 39) hx hb d_LinkAudit_find_35 (by decide) ?_
        exact hret hf hP hS d_LinkAudit_find_39
    · have hf := ifp c4 hf
      refine lv_iconst (v := (-1 : Int32)) hx hb d_LinkAudit_find_17 (by decide) ?_
      exact hret hf hP hS d_LinkAudit_find_18
-- java/util/Arrays.fill
set_option maxHeartbeats 4000000 in
set_option maxRecDepth 100000 in
theorem c_Arrays_fill {l : Launch} {D : va_G} {cI cL cG cZ : ClassId} {ad : Nat → Nat} {M M' : Mem} {a1 : Int32} (hD : ∀ M, va_D (c_A ad) (c_ws cI cL cG cZ ad M)) (hf : f_Arrays_fill M a1 = some M') : Mv l y_Arrays_fill (.code y_Arrays_fill prog_15_method_103_code 4 none :: ALLW) (rmR 0 0) (Kk D cI cL cG cZ) D vwC (c_A ad) (c_ws cI cL cG cZ ad) [.ref (ad 37), .int a1] M M' := by
  refine Mv_of (by decide) (Nat.le_of_ble_eq_true rfl) ?_
  intro p e s m args below meth c ls Q X hkk hret hP hl
  obtain ⟨hx, hb, hml, hown, hta⟩ := id X
  have hKv := hkk.1
  have hS : va_S (c_A ad) s.heap s.heap [] := va_S.rf
  have hl : lv_has ls 4 [(0, .ref (ad 37)), (1, .int a1)] := hl
  have L5 : ∀ (x1 : Int32) (x3 : Int32), ∀ (ke20 : Mem → Option Mem), ke20 = (fun M3 => some M3) → ∀ (n5 : Nat) (x2 : Int32) (M : Mem) (H : Heap) (locs : List Loc) (ls : Array Slot), f_Arrays_fill_L5 x1 x3 ke20 n5 x2 M = some M' → va_P D vwC (c_ws cI cL cG cZ ad M) H → va_S (c_A ad) s.heap H locs → lv_has ls 4 [(0, .ref (ad 37)), (1, .int x1), (2, .int x2), (3, .int x3)] → W p l e (rmR 0 0) s m args below meth c H locs 0 0 Q (F0 m 5 ls []) := by
    intro x1 x3 ke20 hke20 n5
    induction n5 with
    | zero => intro x2 M H locs ls hf; exact absurd (show (none : Option _) = some _ from hf) (fun q => by cases q)
    | succ n5 ih5 =>
      intro x2 M H locs ls hf hP hS hl
      rw [f_Arrays_fill_L5] at hf
      refine lv_iload_n hx hb d_Arrays_fill_5 rfl (lv_at hl 2 rfl) ?_
      refine lv_iload_n hx hb d_Arrays_fill_6 rfl (lv_at hl 3 rfl) ?_
      refine lv_icmp_ge (tgt := 20) hx hb d_Arrays_fill_7 (by decide) (fun c1 => ?_) (fun c1 => ?_)
      · have hf := ifp c1 hf
        rw [hke20] at hf
        exact hret hf hP hS d_Arrays_fill_20
      · have hf := ifn c1 hf
        refine lv_aload_n hx hb d_Arrays_fill_10 rfl (lv_at hl 0 rfl) ?_
        refine lv_iload_n hx hb d_Arrays_fill_11 rfl (lv_at hl 2 rfl) ?_
        refine lv_iload_n hx hb d_Arrays_fill_12 rfl (lv_at hl 1 rfl) ?_
        obtain ⟨g2, hf⟩ := gd_ok hf
        obtain ⟨M4, eM4, hf⟩ := sm_e hf
        refine x_ist hx hb hKv hP (hD _) hS c_c37 c_s37 g2 eM4 d_Arrays_fill_13 (fun H locs hP hS => ?_)
        refine lv_iinc (v := (x2 + (1 : Int32))) (lv' := [(2, .int (x2 + (1 : Int32))), (0, .ref (ad 37)), (1, .int x1), (3, .int x3)]) hx hb d_Arrays_fill_14 hl (k := 2) rfl rfl (by decide) rfl (fun ls hl => ?_)
        refine lv_goto (tgt := 5) hx hb d_Arrays_fill_17 (by decide) ?_
        exact ih5 (x2 + (1 : Int32)) M4 _ _ _ hf hP hS (lv_sub hl [1, 2, 0, 3] rfl)
  unfold f_Arrays_fill at hf
  refine lv_iconst (v := (0 : Int32)) hx hb d_Arrays_fill_0 (by decide) ?_
  refine lv_istore_n (lv' := [(2, .int (0 : Int32)), (0, .ref (ad 37)), (1, .int a1)]) hx hb d_Arrays_fill_1 rfl hl (by decide) rfl (fun ls hl => ?_)
  refine lv_aload_n hx hb d_Arrays_fill_2 rfl (lv_at hl 1 rfl) ?_
  refine va_alen hx hb hKv hP 37 0 c_c37 rfl (v := (17 : Int32)) rfl d_Arrays_fill_3 ?_
  refine lv_istore_n (lv' := [(3, .int (17 : Int32)), (2, .int (0 : Int32)), (0, .ref (ad 37)), (1, .int a1)]) hx hb d_Arrays_fill_4 rfl hl (by decide) rfl (fun ls hl => ?_)
  exact L5 a1 (17 : Int32) _ rfl FU (0 : Int32) M _ _ _ hf hP hS (lv_sub hl [2, 3, 1, 0] rfl)
-- LinkAudit$Links.isLoadable
theorem xg_Links_9 {p : Program} {l : Launch} {e : Env} {R : Room} {s : State} {m : MethodId} {args : Array Value} {below : List Frame} {meth : Method} {c : Code} {H : Heap} {locs : List Loc} {cells slots : Nat} {Q : State → Prop} {cc : ByteArray} {pc : Nat} {ls : Array Slot} {rest : List Value} {D : va_G} {cI cL cG cZ : ClassId} {ad : Nat → Nat} {M : Mem} (hx : p.tables.exec = Jvm.exec) (hb : c.code = cc) (hta : ∀ w ∈ ALLW, w.before args s = true) (hown : s.vm.findClass "LinkAudit$Links" = some m.cls) (hK : va_K D vwC [(cI, .int), (cL, .long), (cG, .array .int), (cZ, .boolean)] s) (hP : va_P D vwC (c_ws cI cL cG cZ ad M) H) (hdg : decode cc pc = .ok (.getfield 9, 3))
    (kk : W p l e R s m args below meth c H locs cells slots Q (F0 m (pc + 3) ls (.ref (ad 37) :: rest))) : W p l e R s m args below meth c H locs cells slots Q (F0 m pc ls (.ref (ad 5) :: rest)) :=
  va_get (D := D) (ci := 5) (v := .ref (ad 37)) (C := "LinkAudit$Links") (T := T_Links) (N := 9) hx hb hta i_Links hown hK hP 5 c_c5 rfl 2 (by decide) (hta _ wm_170) (fun _ h9 => h9) rfl hdg kk
set_option maxHeartbeats 4000000 in
set_option maxRecDepth 100000 in
theorem c_Links_isLoadable {l : Launch} {D : va_G} {cI cL cG cZ : ClassId} {ad : Nat → Nat} {M : Mem} {a1 : Int32} {r : Int32} (hD : ∀ M, va_D (c_A ad) (c_ws cI cL cG cZ ad M)) (hf : f_Links_isLoadable M a1 = some r) : Mi l y_Links_isLoadable (.code y_Links_isLoadable prog_5_method_3_code 2 (some .boolean) :: ALLW) (rmR 0 0) (Kk D cI cL cG cZ) D vwC (c_A ad) (c_ws cI cL cG cZ ad) [.ref (ad 5), .int a1] M M r := by
  refine Mz_ofR (by decide) (Nat.le_of_ble_eq_true rfl) ?_
  intro p e s m args below meth c ls Q X hkk hret hP hl
  obtain ⟨hx, hb, hml, hown, hta⟩ := id X
  have hKv := hkk.1
  have hS : va_S (c_A ad) s.heap s.heap [] := va_S.rf
  have hl : lv_has ls 2 [(0, .ref (ad 5)), (1, .int a1)] := hl
  unfold f_Links_isLoadable at hf
  refine lv_aload_n hx hb d_Links_isLoadable_0 rfl (lv_at hl 0 rfl) ?_
  refine xg_Links_9 hx hb hta hown hKv hP d_Links_isLoadable_1 ?_
  refine lv_iload_n hx hb d_Links_isLoadable_4 rfl (lv_at hl 1 rfl) ?_
  obtain ⟨g1, hf⟩ := gd_ok hf
  refine x_ild hx hb hKv hP c_c37 g1 d_Links_isLoadable_5 ?_
  refine lv_iload_n hx hb d_Links_isLoadable_6 rfl (lv_at hl 1 rfl) ?_
  refine lv_icmp_ne (tgt := 14) hx hb d_Links_isLoadable_7 (by decide) (fun c2 => ?_) (fun c2 => ?_)
  · have hf := ifn c2 hf
    refine lv_iconst (v := (0 : Int32)) hx hb d_Links_isLoadable_14 (by decide) ?_
    exact hret (Or.inl rfl) hf hP hS d_Links_isLoadable_15
  · have hf := ifp c2 hf
    refine lv_iconst (v := (1 : Int32)) hx hb d_Links_isLoadable_10 (by decide) ?_
    refine lv_goto (tgt := 15) hx hb d_Links_isLoadable_11 (by decide) ?_
    exact hret (Or.inr rfl) hf hP hS d_Links_isLoadable_15
-- LinkAudit$Classes.canBeSuper
set_option maxHeartbeats 4000000 in
set_option maxRecDepth 100000 in
theorem c_Classes_canBeSuper {l : Launch} {D : va_G} {cI cL cG cZ : ClassId} {ad : Nat → Nat} {M : Mem} {a1 : Int32} {r : Int32} (hD : ∀ M, va_D (c_A ad) (c_ws cI cL cG cZ ad M)) (hf : f_Classes_canBeSuper M a1 = some r) : Mi l y_Classes_canBeSuper (.code y_Classes_canBeSuper prog_3_method_5_code 2 (some .boolean) :: ALLW) (rmR 0 0) (Kk D cI cL cG cZ) D vwC (c_A ad) (c_ws cI cL cG cZ ad) [.ref (ad 2), .int a1] M M r := by
  refine Mz_ofR (by decide) (Nat.le_of_ble_eq_true rfl) ?_
  intro p e s m args below meth c ls Q X hkk hret hP hl
  obtain ⟨hx, hb, hml, hown, hta⟩ := id X
  have hKv := hkk.1
  have hS : va_S (c_A ad) s.heap s.heap [] := va_S.rf
  have hl : lv_has ls 2 [(0, .ref (ad 2)), (1, .int a1)] := hl
  unfold f_Classes_canBeSuper at hf
  refine lv_aload_n hx hb d_Classes_canBeSuper_0 rfl (lv_at hl 0 rfl) ?_
  refine xg_Classes_18 hx hb hta hown hKv hP d_Classes_canBeSuper_1 ?_
  refine lv_iload_n hx hb d_Classes_canBeSuper_4 rfl (lv_at hl 1 rfl) ?_
  obtain ⟨g1, hf⟩ := gd_ok hf
  refine x_ild hx hb hKv hP c_c26 g1 d_Classes_canBeSuper_5 ?_
  refine lv_bipush (v := (10 : Int32)) hx hb d_Classes_canBeSuper_6 (by decide) ?_
  refine lv_iand hx hb d_Classes_canBeSuper_8 ?_
  refine lv_if_ne (tgt := 16) hx hb d_Classes_canBeSuper_9 (by decide) (fun c2 => ?_) (fun c2 => ?_)
  · have hf := ifn c2 hf
    refine lv_iconst (v := (0 : Int32)) hx hb d_Classes_canBeSuper_16 (by decide) ?_
    exact hret (Or.inl rfl) hf hP hS d_Classes_canBeSuper_17
  · have hf := ifp c2 hf
    refine lv_iconst (v := (1 : Int32)) hx hb d_Classes_canBeSuper_12 (by decide) ?_
    refine lv_goto (tgt := 17) hx hb d_Classes_canBeSuper_13 (by decide) ?_
    exact hret (Or.inr rfl) hf hP hS d_Classes_canBeSuper_17
-- LinkAudit$Classes.areNeighbours
set_option maxHeartbeats 4000000 in
set_option maxRecDepth 100000 in
theorem c_Classes_areNeighbours {l : Launch} {D : va_G} {cI cL cG cZ : ClassId} {ad : Nat → Nat} {M : Mem} {a1 : Int32} {a2 : Int32} {r : Int32} (hD : ∀ M, va_D (c_A ad) (c_ws cI cL cG cZ ad M)) (hf : f_Classes_areNeighbours M a1 a2 = some r) : Mi l y_Classes_areNeighbours (.code y_Classes_areNeighbours prog_3_method_6_code 3 (some .boolean) :: ALLW) (rmR 0 0) (Kk D cI cL cG cZ) D vwC (c_A ad) (c_ws cI cL cG cZ ad) [.ref (ad 2), .int a1, .int a2] M M r := by
  refine Mz_ofR (by decide) (Nat.le_of_ble_eq_true rfl) ?_
  intro p e s m args below meth c ls Q X hkk hret hP hl
  obtain ⟨hx, hb, hml, hown, hta⟩ := id X
  have hKv := hkk.1
  have hS : va_S (c_A ad) s.heap s.heap [] := va_S.rf
  have hl : lv_has ls 3 [(0, .ref (ad 2)), (1, .int a1), (2, .int a2)] := hl
  unfold f_Classes_areNeighbours at hf
  refine lv_aload_n hx hb d_Classes_areNeighbours_0 rfl (lv_at hl 0 rfl) ?_
  refine xg_Classes_9 hx hb hta hown hKv hP d_Classes_areNeighbours_1 ?_
  refine lv_iload_n hx hb d_Classes_areNeighbours_4 rfl (lv_at hl 1 rfl) ?_
  obtain ⟨g1, hf⟩ := gd_ok hf
  refine x_ild hx hb hKv hP c_c24 g1 d_Classes_areNeighbours_5 ?_
  refine lv_aload_n hx hb d_Classes_areNeighbours_6 rfl (lv_at hl 0 rfl) ?_
  refine xg_Classes_9 hx hb hta hown hKv hP d_Classes_areNeighbours_7 ?_
  refine lv_iload_n hx hb d_Classes_areNeighbours_10 rfl (lv_at hl 2 rfl) ?_
  obtain ⟨g2, hf⟩ := gd_ok hf
  refine x_ild hx hb hKv hP c_c24 g2 d_Classes_areNeighbours_11 ?_
  refine lv_icmp_ne (tgt := 38) hx hb d_Classes_areNeighbours_12 (by decide) (fun c3 => ?_) (fun c3 => ?_)
  · have hf := ifn c3 hf
    refine lv_iconst (v := (0 : Int32)) hx hb d_Classes_areNeighbours_38 (by decide) ?_
    exact hret (Or.inl rfl) hf hP hS d_Classes_areNeighbours_39
  · have hf := ifp c3 hf
    refine lv_aload_n hx hb d_Classes_areNeighbours_15 rfl (lv_at hl 0 rfl) ?_
    refine xg_Classes_15 hx hb hta hown hKv hP d_Classes_areNeighbours_16 ?_
    refine lv_iload_n hx hb d_Classes_areNeighbours_19 rfl (lv_at hl 1 rfl) ?_
    obtain ⟨g4, hf⟩ := gd_ok hf
    refine x_ild hx hb hKv hP c_c25 g4 d_Classes_areNeighbours_20 ?_
    refine lv_iconst (v := (4 : Int32)) hx hb d_Classes_areNeighbours_21 (by decide) ?_
    refine lv_idiv hx hb d_Classes_areNeighbours_22 (by decide) ?_
    refine lv_aload_n hx hb d_Classes_areNeighbours_23 rfl (lv_at hl 0 rfl) ?_
    refine xg_Classes_15 hx hb hta hown hKv hP d_Classes_areNeighbours_24 ?_
    refine lv_iload_n hx hb d_Classes_areNeighbours_27 rfl (lv_at hl 2 rfl) ?_
    obtain ⟨g5, hf⟩ := gd_ok hf
    refine x_ild hx hb hKv hP c_c25 g5 d_Classes_areNeighbours_28 ?_
    refine lv_iconst (v := (4 : Int32)) hx hb d_Classes_areNeighbours_29 (by decide) ?_
    refine lv_idiv hx hb d_Classes_areNeighbours_30 (by decide) ?_
    refine lv_icmp_ne (tgt := 38) hx hb d_Classes_areNeighbours_31 (by decide) (fun c6 => ?_) (fun c6 => ?_)
    · have hf := ifn c6 hf
      refine lv_iconst (v := (0 : Int32)) hx hb d_Classes_areNeighbours_38 (by decide) ?_
      exact hret (Or.inl rfl) hf hP hS d_Classes_areNeighbours_39
    · have hf := ifp c6 hf
      refine lv_iconst (v := (1 : Int32)) hx hb d_Classes_areNeighbours_34 (by decide) ?_
      refine lv_goto (tgt := 39) hx hb d_Classes_areNeighbours_35 (by decide) ?_
      exact hret (Or.inr rfl) hf hP hS d_Classes_areNeighbours_39
-- LinkAudit$Classes.mayUse
theorem xvc_Classes_31 {p : Program} {l : Launch} {e : Env} {R : Room} {s : State} {m : MethodId} {args : Array Value} {below : List Frame} {meth : Method} {c : Code} {H : Heap} {locs : List Loc} {cells slots : Nat} {Q : State → Prop} {cc : ByteArray} {pc : Nat} {ls : Array Slot} {rest : List Value} {D : va_G} {cI cL cG cZ : ClassId} {ad : Nat → Nat} {M : Mem} {H0 : Heap} {nL : Nat} {a0 : Int32} {a1 : Int32} {r : Int32} (X : CallFix p m c cc nL s args ALLW "LinkAudit$Classes") (hkk : Kk D cI cL cG cZ s) (hD : ∀ M, va_D (c_A ad) (c_ws cI cL cG cZ ad M)) (hrest : (rest.map fun v => v.category).sum ≤ 8) (hR : 0 + 1 ≤ R.frames ∧ 8 + (3 + 11) + 0 ≤ R.locals) (hcs : cells + 0 ≤ R.cells ∧ slots + 0 ≤ R.slots) (hc : f_Classes_areNeighbours M a0 a1 = some r) (hsz : ls.size = nL) (hP : va_P D vwC (c_ws cI cL cG cZ ad M) H) (hS : va_S (c_A ad) H0 H locs) (hdg : decode cc pc = .ok (.invokevirtual 31, 3))
    (kk : ∀ (H1 : Heap) (locs1 : List Loc), va_P D vwC (c_ws cI cL cG cZ ad M) H1 → va_S (c_A ad) H0 H1 locs1 → W p l e R s m args below meth c H1 locs1 cells slots Q (F0 m (pc + 3) ls (.int r :: rest))) : W p l e R s m args below meth c H locs cells slots Q (F0 m pc ls (.int a1 :: .int a0 :: .ref (ad 2) :: rest)) := by
  have hta := X.2.2.2.2
  exact x_afterI (va_runV (As := [.int a0, .int a1]) (rest := rest) X (c_Classes_areNeighbours hD hc) ⟨callB_of 2 hta (good_all (L := .code y_Classes_areNeighbours prog_3_method_6_code 3 (some .boolean) :: ALLW) (List.forall_mem_cons.mpr ⟨wm_475, fun _ h => h⟩)) rfl rfl rfl (hta _ wm_3) (hta _ wm_472) (by decide +kernel) hR, hta _ wm_473, hta _ wm_474⟩ ⟨x_blind Kk_w _, va_recv hkk.1 hP (ci := 2) (q0 := 2) rfl c_c2, x_pre Kk_w hkk hP _⟩ rfl rfl hsz rfl (lv_room hrest) hdg hcs) hS kk
set_option maxHeartbeats 4000000 in
set_option maxRecDepth 100000 in
theorem c_Classes_mayUse {l : Launch} {D : va_G} {cI cL cG cZ : ClassId} {ad : Nat → Nat} {M : Mem} {a1 : Int32} {a2 : Int32} {r : Int32} (hD : ∀ M, va_D (c_A ad) (c_ws cI cL cG cZ ad M)) (hf : f_Classes_mayUse M a1 a2 = some r) : Mi l y_Classes_mayUse (.code y_Classes_mayUse prog_3_method_7_code 3 (some .boolean) :: ALLW) (rmR 1 22) (Kk D cI cL cG cZ) D vwC (c_A ad) (c_ws cI cL cG cZ ad) [.ref (ad 2), .int a1, .int a2] M M r := by
  refine Mz_ofR (by decide) (Nat.le_of_ble_eq_true rfl) ?_
  intro p e s m args below meth c ls Q X hkk hret hP hl
  obtain ⟨hx, hb, hml, hown, hta⟩ := id X
  have hKv := hkk.1
  have hS : va_S (c_A ad) s.heap s.heap [] := va_S.rf
  have hl : lv_has ls 3 [(0, .ref (ad 2)), (1, .int a1), (2, .int a2)] := hl
  unfold f_Classes_mayUse at hf
  refine lv_aload_n hx hb d_Classes_mayUse_0 rfl (lv_at hl 0 rfl) ?_
  refine xg_Classes_18 hx hb hta hown hKv hP d_Classes_mayUse_1 ?_
  refine lv_iload_n hx hb d_Classes_mayUse_4 rfl (lv_at hl 2 rfl) ?_
  obtain ⟨g1, hf⟩ := gd_ok hf
  refine x_ild hx hb hKv hP c_c26 g1 d_Classes_mayUse_5 ?_
  refine lv_iconst (v := (1 : Int32)) hx hb d_Classes_mayUse_6 (by decide) ?_
  refine lv_iand hx hb d_Classes_mayUse_7 ?_
  refine lv_if_ne (tgt := 20) hx hb d_Classes_mayUse_8 (by decide) (fun c2 => ?_) (fun c2 => ?_)
  · have hf := ifn c2 hf
    refine lv_iconst (v := (1 : Int32)) hx hb d_Classes_mayUse_20 (by decide) ?_
    refine lv_goto (tgt := 25) hx hb d_Classes_mayUse_21 (by decide) ?_
    exact hret (Or.inr rfl) hf hP hS d_Classes_mayUse_25
  · have hf := ifp c2 hf
    refine lv_aload_n hx hb d_Classes_mayUse_11 rfl (lv_at hl 0 rfl) ?_
    refine lv_iload_n hx hb d_Classes_mayUse_12 rfl (lv_at hl 1 rfl) ?_
    refine lv_iload_n hx hb d_Classes_mayUse_13 rfl (lv_at hl 2 rfl) ?_
    obtain ⟨r2, hc3, hf⟩ := bd1_e hf
    refine xvc_Classes_31 X hkk hD (Nat.le_of_ble_eq_true rfl) ⟨by dsimp only [rmR]; omega, by dsimp only [rmR]; omega⟩ ⟨Nat.zero_le _, Nat.zero_le _⟩ hc3 hl.1 hP hS d_Classes_mayUse_14 (fun H locs hP hS => ?_)
    refine lv_if_eq (tgt := 24) hx hb d_Classes_mayUse_17 (by decide) (fun c4 => ?_) (fun c4 => ?_)
    · have hf := ifp c4 hf
      refine lv_iconst (v := (0 : Int32)) hx hb d_Classes_mayUse_24 (by decide) ?_
      exact hret (Or.inl rfl) hf hP hS d_Classes_mayUse_25
    · have hf := ifn c4 hf
      refine lv_iconst (v := (1 : Int32)) hx hb d_Classes_mayUse_20 (by decide) ?_
      refine lv_goto (tgt := 25) hx hb d_Classes_mayUse_21 (by decide) ?_
      exact hret (Or.inr rfl) hf hP hS d_Classes_mayUse_25
-- LinkAudit$Links.superCode
theorem xg_Links_40 {p : Program} {l : Launch} {e : Env} {R : Room} {s : State} {m : MethodId} {args : Array Value} {below : List Frame} {meth : Method} {c : Code} {H : Heap} {locs : List Loc} {cells slots : Nat} {Q : State → Prop} {cc : ByteArray} {pc : Nat} {ls : Array Slot} {rest : List Value} {D : va_G} {cI cL cG cZ : ClassId} {ad : Nat → Nat} {M : Mem} (hx : p.tables.exec = Jvm.exec) (hb : c.code = cc) (hta : ∀ w ∈ ALLW, w.before args s = true) (hown : s.vm.findClass "LinkAudit$Links" = some m.cls) (hK : va_K D vwC [(cI, .int), (cL, .long), (cG, .array .int), (cZ, .boolean)] s) (hP : va_P D vwC (c_ws cI cL cG cZ ad M) H) (hdg : decode cc pc = .ok (.getfield 40, 3))
    (kk : W p l e R s m args below meth c H locs cells slots Q (F0 m (pc + 3) ls (.ref (ad 2) :: rest))) : W p l e R s m args below meth c H locs cells slots Q (F0 m pc ls (.ref (ad 5) :: rest)) :=
  va_get (D := D) (ci := 5) (v := .ref (ad 2)) (C := "LinkAudit$Links") (T := T_Links) (N := 9) hx hb hta i_Links hown hK hP 5 c_c5 rfl 1 (by decide) (hta _ wm_168) (fun _ h9 => h9) rfl hdg kk
theorem xvc_Links_74 {p : Program} {l : Launch} {e : Env} {R : Room} {s : State} {m : MethodId} {args : Array Value} {below : List Frame} {meth : Method} {c : Code} {H : Heap} {locs : List Loc} {cells slots : Nat} {Q : State → Prop} {cc : ByteArray} {pc : Nat} {ls : Array Slot} {rest : List Value} {D : va_G} {cI cL cG cZ : ClassId} {ad : Nat → Nat} {M : Mem} {H0 : Heap} {nL : Nat} {a0 : Int32} {a1 : Int32} {r : Int32} (X : CallFix p m c cc nL s args ALLW "LinkAudit$Links") (hkk : Kk D cI cL cG cZ s) (hD : ∀ M, va_D (c_A ad) (c_ws cI cL cG cZ ad M)) (hrest : (rest.map fun v => v.category).sum ≤ 8) (hR : 1 + 1 ≤ R.frames ∧ 8 + (3 + 11) + 22 ≤ R.locals) (hcs : cells + 0 ≤ R.cells ∧ slots + 0 ≤ R.slots) (hc : f_Classes_mayUse M a0 a1 = some r) (hsz : ls.size = nL) (hP : va_P D vwC (c_ws cI cL cG cZ ad M) H) (hS : va_S (c_A ad) H0 H locs) (hdg : decode cc pc = .ok (.invokevirtual 74, 3))
    (kk : ∀ (H1 : Heap) (locs1 : List Loc), va_P D vwC (c_ws cI cL cG cZ ad M) H1 → va_S (c_A ad) H0 H1 locs1 → W p l e R s m args below meth c H1 locs1 cells slots Q (F0 m (pc + 3) ls (.int r :: rest))) : W p l e R s m args below meth c H locs cells slots Q (F0 m pc ls (.int a1 :: .int a0 :: .ref (ad 2) :: rest)) := by
  have hta := X.2.2.2.2
  exact x_afterI (va_runV (As := [.int a0, .int a1]) (rest := rest) X (c_Classes_mayUse hD hc) ⟨callB_of 2 hta (good_all (L := .code y_Classes_mayUse prog_3_method_7_code 3 (some .boolean) :: ALLW) (List.forall_mem_cons.mpr ⟨wm_471, fun _ h => h⟩)) rfl rfl rfl (hta _ wm_3) (hta _ wm_468) (by decide +kernel) hR, hta _ wm_469, hta _ wm_470⟩ ⟨x_blind Kk_w _, va_recv hkk.1 hP (ci := 2) (q0 := 2) rfl c_c2, x_pre Kk_w hkk hP _⟩ rfl rfl hsz rfl (lv_room hrest) hdg hcs) hS kk
theorem xg_Links_36 {p : Program} {l : Launch} {e : Env} {R : Room} {s : State} {m : MethodId} {args : Array Value} {below : List Frame} {meth : Method} {c : Code} {H : Heap} {locs : List Loc} {cells slots : Nat} {Q : State → Prop} {cc : ByteArray} {pc : Nat} {ls : Array Slot} {rest : List Value} {D : va_G} {cI cL cG cZ : ClassId} {ad : Nat → Nat} {M : Mem} (hx : p.tables.exec = Jvm.exec) (hb : c.code = cc) (hta : ∀ w ∈ ALLW, w.before args s = true) (hown : s.vm.findClass "LinkAudit$Links" = some m.cls) (hK : va_K D vwC [(cI, .int), (cL, .long), (cG, .array .int), (cZ, .boolean)] s) (hP : va_P D vwC (c_ws cI cL cG cZ ad M) H) (hdg : decode cc pc = .ok (.getfield 36, 3))
    (kk : W p l e R s m args below meth c H locs cells slots Q (F0 m (pc + 3) ls (.ref (ad 1) :: rest))) : W p l e R s m args below meth c H locs cells slots Q (F0 m pc ls (.ref (ad 5) :: rest)) :=
  va_get (D := D) (ci := 5) (v := .ref (ad 1)) (C := "LinkAudit$Links") (T := T_Links) (N := 9) hx hb hta i_Links hown hK hP 5 c_c5 rfl 0 (by decide) (hta _ wm_164) (fun _ h9 => h9) rfl hdg kk
theorem xg_Links_63 {p : Program} {l : Launch} {e : Env} {R : Room} {s : State} {m : MethodId} {args : Array Value} {below : List Frame} {meth : Method} {c : Code} {H : Heap} {locs : List Loc} {cells slots : Nat} {Q : State → Prop} {cc : ByteArray} {pc : Nat} {ls : Array Slot} {rest : List Value} {D : va_G} {cI cL cG cZ : ClassId} {ad : Nat → Nat} {M : Mem} (hx : p.tables.exec = Jvm.exec) (hb : c.code = cc) (hta : ∀ w ∈ ALLW, w.before args s = true) (hown : s.vm.findClass "LinkAudit$Links" = some m.cls) (hK : va_K D vwC [(cI, .int), (cL, .long), (cG, .array .int), (cZ, .boolean)] s) (hP : va_P D vwC (c_ws cI cL cG cZ ad M) H) (hdg : decode cc pc = .ok (.getfield 63, 3))
    (kk : W p l e R s m args below meth c H locs cells slots Q (F0 m (pc + 3) ls (.ref (ad 24) :: rest))) : W p l e R s m args below meth c H locs cells slots Q (F0 m pc ls (.ref (ad 2) :: rest)) :=
  va_get (D := D) (ci := 2) (v := .ref (ad 24)) (C := "LinkAudit$Classes") (T := T_Classes) (N := 6) hx hb hta i_Classes hown hK hP 2 c_c2 rfl 0 (by decide) (hta _ wm_54) (fun _ h9 => h9) rfl hdg kk
theorem xvc_Links_65 {p : Program} {l : Launch} {e : Env} {R : Room} {s : State} {m : MethodId} {args : Array Value} {below : List Frame} {meth : Method} {c : Code} {H : Heap} {locs : List Loc} {cells slots : Nat} {Q : State → Prop} {cc : ByteArray} {pc : Nat} {ls : Array Slot} {rest : List Value} {D : va_G} {cI cL cG cZ : ClassId} {ad : Nat → Nat} {M : Mem} {H0 : Heap} {nL : Nat} {a0 : Int32} {a1 : Int32} {r : Int32} (X : CallFix p m c cc nL s args ALLW "LinkAudit$Links") (hkk : Kk D cI cL cG cZ s) (hD : ∀ M, va_D (c_A ad) (c_ws cI cL cG cZ ad M)) (hrest : (rest.map fun v => v.category).sum ≤ 8) (hR : 1 + 1 ≤ R.frames ∧ 8 + (5 + 11) + 22 ≤ R.locals) (hcs : cells + 0 ≤ R.cells ∧ slots + 0 ≤ R.slots) (hc : f_Loaders_found M a0 a1 = some r) (hsz : ls.size = nL) (hP : va_P D vwC (c_ws cI cL cG cZ ad M) H) (hS : va_S (c_A ad) H0 H locs) (hdg : decode cc pc = .ok (.invokevirtual 65, 3))
    (kk : ∀ (H1 : Heap) (locs1 : List Loc), va_P D vwC (c_ws cI cL cG cZ ad M) H1 → va_S (c_A ad) H0 H1 locs1 → W p l e R s m args below meth c H1 locs1 cells slots Q (F0 m (pc + 3) ls (.int r :: rest))) : W p l e R s m args below meth c H locs cells slots Q (F0 m pc ls (.int a1 :: .int a0 :: .ref (ad 1) :: rest)) := by
  have hta := X.2.2.2.2
  exact x_afterI (va_runV (As := [.int a0, .int a1]) (rest := rest) X (c_Loaders_found hD hc) ⟨callB_of 2 hta (good_all (L := .code y_Loaders_found prog_6_method_5_code 5 (some .int) :: ALLW) (List.forall_mem_cons.mpr ⟨wm_430, fun _ h => h⟩)) rfl rfl rfl (hta _ wm_2) (hta _ wm_462) (by decide +kernel) hR, hta _ wm_428, hta _ wm_429⟩ ⟨x_blind Kk_w _, va_recv hkk.1 hP (ci := 1) (q0 := 1) rfl c_c1, x_pre Kk_w hkk hP _⟩ rfl rfl hsz rfl (lv_room hrest) hdg hcs) hS kk
theorem xvcr_Links_55 {p : Program} {l : Launch} {e : Env} {R : Room} {s : State} {m : MethodId} {args : Array Value} {below : List Frame} {meth : Method} {c : Code} {H : Heap} {locs : List Loc} {cells slots : Nat} {Q : State → Prop} {cc : ByteArray} {pc : Nat} {ls : Array Slot} {rest : List Value} {D : va_G} {cI cL cG cZ : ClassId} {ad : Nat → Nat} {M : Mem} {H0 : Heap} {M1 : Mem} {nL : Nat} {a0 : Int32} {a1 : Int32} {r : Int32} (X : CallFix p m c cc nL s args ALLW "LinkAudit$Links") (hkk : Kk D cI cL cG cZ s) (hD : ∀ M, va_D (c_A ad) (c_ws cI cL cG cZ ad M)) {fr : Mem → Int32 → Int32 → Option (Int32 × Mem)} {d lo : Nat} (hrec : ∀ {N N1 : Mem} {b0 : Int32} {b1 : Int32} {r : Int32}, fr N b0 b1 = some (r, N1) → Mi l y_Links_loadCode (.code y_Links_loadCode prog_5_method_7_code 7 (some .int) :: ALLW) (rmR (d) (lo)) (Kk D cI cL cG cZ) D vwC (c_A ad) (c_ws cI cL cG cZ ad) [.ref (ad 5), .int b0, .int b1] N N1 r) (hrest : (rest.map fun v => v.category).sum ≤ 8) (hR : d + 1 ≤ R.frames ∧ 8 + (7 + 11) + lo ≤ R.locals) (hcs : cells + 0 ≤ R.cells ∧ slots + 0 ≤ R.slots) (hc : fr M a0 a1 = some (r, M1)) (hsz : ls.size = nL) (hP : va_P D vwC (c_ws cI cL cG cZ ad M) H) (hS : va_S (c_A ad) H0 H locs) (hdg : decode cc pc = .ok (.invokevirtual 55, 3))
    (kk : ∀ (H1 : Heap) (locs1 : List Loc), va_P D vwC (c_ws cI cL cG cZ ad M1) H1 → va_S (c_A ad) H0 H1 locs1 → W p l e R s m args below meth c H1 locs1 cells slots Q (F0 m (pc + 3) ls (.int r :: rest))) : W p l e R s m args below meth c H locs cells slots Q (F0 m pc ls (.int a1 :: .int a0 :: .ref (ad 5) :: rest)) := by
  have hta := X.2.2.2.2
  exact x_afterI (va_runV (As := [.int a0, .int a1]) (rest := rest) X (hrec hc) ⟨callB_of 2 hta (good_all (L := .code y_Links_loadCode prog_5_method_7_code 7 (some .int) :: ALLW) (List.forall_mem_cons.mpr ⟨wm_452, fun _ h => h⟩)) rfl rfl rfl (hta _ wm_6) (hta _ wm_449) (by decide +kernel) hR, hta _ wm_451, hta _ wp_4⟩ ⟨x_blind Kk_w _, va_recv hkk.1 hP (ci := 5) (q0 := 5) rfl c_c5, x_pre Kk_w hkk hP _⟩ rfl rfl hsz rfl (lv_room hrest) hdg hcs) hS kk
theorem xvc_Links_95 {p : Program} {l : Launch} {e : Env} {R : Room} {s : State} {m : MethodId} {args : Array Value} {below : List Frame} {meth : Method} {c : Code} {H : Heap} {locs : List Loc} {cells slots : Nat} {Q : State → Prop} {cc : ByteArray} {pc : Nat} {ls : Array Slot} {rest : List Value} {D : va_G} {cI cL cG cZ : ClassId} {ad : Nat → Nat} {M : Mem} {H0 : Heap} {nL : Nat} {a0 : Int32} {r : Int32} (X : CallFix p m c cc nL s args ALLW "LinkAudit$Links") (hkk : Kk D cI cL cG cZ s) (hD : ∀ M, va_D (c_A ad) (c_ws cI cL cG cZ ad M)) (hrest : (rest.map fun v => v.category).sum ≤ 8) (hR : 0 + 1 ≤ R.frames ∧ 8 + (2 + 11) + 0 ≤ R.locals) (hcs : cells + 0 ≤ R.cells ∧ slots + 0 ≤ R.slots) (hc : f_Classes_canBeSuper M a0 = some r) (hsz : ls.size = nL) (hP : va_P D vwC (c_ws cI cL cG cZ ad M) H) (hS : va_S (c_A ad) H0 H locs) (hdg : decode cc pc = .ok (.invokevirtual 95, 3))
    (kk : ∀ (H1 : Heap) (locs1 : List Loc), va_P D vwC (c_ws cI cL cG cZ ad M) H1 → va_S (c_A ad) H0 H1 locs1 → W p l e R s m args below meth c H1 locs1 cells slots Q (F0 m (pc + 3) ls (.int r :: rest))) : W p l e R s m args below meth c H locs cells slots Q (F0 m pc ls (.int a0 :: .ref (ad 2) :: rest)) := by
  have hta := X.2.2.2.2
  exact x_afterI (va_runV (As := [.int a0]) (rest := rest) X (c_Classes_canBeSuper hD hc) ⟨callB_of 1 hta (good_all (L := .code y_Classes_canBeSuper prog_3_method_5_code 2 (some .boolean) :: ALLW) (List.forall_mem_cons.mpr ⟨wm_467, fun _ h => h⟩)) rfl rfl rfl (hta _ wm_3) (hta _ wm_464) (by decide +kernel) hR, hta _ wm_465, hta _ wm_466⟩ ⟨x_blind Kk_w _, va_recv hkk.1 hP (ci := 2) (q0 := 2) rfl c_c2, x_pre Kk_w hkk hP _⟩ rfl rfl hsz rfl (lv_room hrest) hdg hcs) hS kk
theorem xvc_Links_92 {p : Program} {l : Launch} {e : Env} {R : Room} {s : State} {m : MethodId} {args : Array Value} {below : List Frame} {meth : Method} {c : Code} {H : Heap} {locs : List Loc} {cells slots : Nat} {Q : State → Prop} {cc : ByteArray} {pc : Nat} {ls : Array Slot} {rest : List Value} {D : va_G} {cI cL cG cZ : ClassId} {ad : Nat → Nat} {M : Mem} {H0 : Heap} {nL : Nat} {a0 : Int32} {r : Int32} (X : CallFix p m c cc nL s args ALLW "LinkAudit$Links") (hkk : Kk D cI cL cG cZ s) (hD : ∀ M, va_D (c_A ad) (c_ws cI cL cG cZ ad M)) (hrest : (rest.map fun v => v.category).sum ≤ 8) (hR : 0 + 1 ≤ R.frames ∧ 8 + (2 + 11) + 0 ≤ R.locals) (hcs : cells + 0 ≤ R.cells ∧ slots + 0 ≤ R.slots) (hc : f_Classes_isInterface M a0 = some r) (hsz : ls.size = nL) (hP : va_P D vwC (c_ws cI cL cG cZ ad M) H) (hS : va_S (c_A ad) H0 H locs) (hdg : decode cc pc = .ok (.invokevirtual 92, 3))
    (kk : ∀ (H1 : Heap) (locs1 : List Loc), va_P D vwC (c_ws cI cL cG cZ ad M) H1 → va_S (c_A ad) H0 H1 locs1 → W p l e R s m args below meth c H1 locs1 cells slots Q (F0 m (pc + 3) ls (.int r :: rest))) : W p l e R s m args below meth c H locs cells slots Q (F0 m pc ls (.int a0 :: .ref (ad 2) :: rest)) := by
  have hta := X.2.2.2.2
  exact x_afterI (va_runV (As := [.int a0]) (rest := rest) X (c_Classes_isInterface hD hc) ⟨callB_of 1 hta (good_all (L := .code y_Classes_isInterface prog_3_method_3_code 2 (some .boolean) :: ALLW) (List.forall_mem_cons.mpr ⟨wm_409, fun _ h => h⟩)) rfl rfl rfl (hta _ wm_3) (hta _ wm_463) (by decide +kernel) hR, hta _ wm_407, hta _ wm_408⟩ ⟨x_blind Kk_w _, va_recv hkk.1 hP (ci := 2) (q0 := 2) rfl c_c2, x_pre Kk_w hkk hP _⟩ rfl rfl hsz rfl (lv_room hrest) hdg hcs) hS kk
set_option maxHeartbeats 4000000 in
set_option maxRecDepth 100000 in
theorem c_Links_superCode {l : Launch} {D : va_G} {cI cL cG cZ : ClassId} {ad : Nat → Nat} {M M' : Mem} {a1 : Int32} {a2 : Int32} {a3 : Int32} {a4 : Int32} {r : Int32} (hD : ∀ M, va_D (c_A ad) (c_ws cI cL cG cZ ad M)) {fr : Mem → Int32 → Int32 → Option (Int32 × Mem)} {d lo : Nat} (hrec : ∀ {N N1 : Mem} {b0 : Int32} {b1 : Int32} {r : Int32}, fr N b0 b1 = some (r, N1) → Mi l y_Links_loadCode (.code y_Links_loadCode prog_5_method_7_code 7 (some .int) :: ALLW) (rmR (d) (lo)) (Kk D cI cL cG cZ) D vwC (c_A ad) (c_ws cI cL cG cZ ad) [.ref (ad 5), .int b0, .int b1] N N1 r) (hd : 3 ≤ d) (hlo : 145 ≤ lo) (hf : f_Links_superCode fr M a1 a2 a3 a4 = some (r, M')) : Mi l y_Links_superCode (.code y_Links_superCode prog_5_method_8_code 7 (some .int) :: ALLW) (rmR (d + 1) (lo + 26)) (Kk D cI cL cG cZ) D vwC (c_A ad) (c_ws cI cL cG cZ ad) [.ref (ad 5), .int a1, .int a2, .int a3, .int a4] M M' r := by
  refine Mi_of (by decide) (Nat.le_of_ble_eq_true rfl) ?_
  intro p e s m args below meth c ls Q X hkk hret hP hl
  obtain ⟨hx, hb, hml, hown, hta⟩ := id X
  have hKv := hkk.1
  have hS : va_S (c_A ad) s.heap s.heap [] := va_S.rf
  have hl : lv_has ls 7 [(0, .ref (ad 5)), (1, .int a1), (2, .int a2), (3, .int a3), (4, .int a4)] := hl
  have b79 : ∀ (M : Mem) (x1 : Int32) (x5 : Int32) (H : Heap) (locs : List Loc) (ls : Array Slot), f_Links_superCode_b79 fr M x1 x5 = some (r, M') → va_P D vwC (c_ws cI cL cG cZ ad M) H → va_S (c_A ad) s.heap H locs → lv_has ls 7 [(0, .ref (ad 5)), (1, .int x1), (5, .int x5)] → W p l e (rmR (d + 1) (lo + 26)) s m args below meth c H locs 0 0 Q (F0 m 79 ls []) := by
    intro M x1 x5 H locs ls hf hP hS hl
    unfold f_Links_superCode_b79 at hf
    refine lv_aload_n hx hb d_Links_superCode_79 rfl (lv_at hl 0 rfl) ?_
    refine xg_Links_40 hx hb hta hown hKv hP d_Links_superCode_80 ?_
    refine lv_iload_n hx hb d_Links_superCode_83 rfl (lv_at hl 1 rfl) ?_
    refine lv_iload hx hb d_Links_superCode_84 (lv_at hl 2 rfl) ?_
    obtain ⟨r7, hc1, hf⟩ := bd1_e hf
    refine xvc_Links_74 X hkk hD (Nat.le_of_ble_eq_true rfl) ⟨by dsimp only [rmR]; omega, by dsimp only [rmR]; omega⟩ ⟨Nat.zero_le _, Nat.zero_le _⟩ hc1 hl.1 hP hS d_Links_superCode_86 (fun H locs hP hS => ?_)
    refine lv_if_eq (tgt := 97) hx hb d_Links_superCode_89 (by decide) (fun c2 => ?_) (fun c2 => ?_)
    · have hf := ifp c2 hf
      refine lv_bipush (v := (-6 : Int32)) hx hb d_Links_superCode_97 (by decide) ?_
      exact hret hf hP hS d_Links_superCode_99
    · have hf := ifn c2 hf
      refine lv_iload hx hb d_Links_superCode_92 (lv_at hl 2 rfl) ?_
      refine lv_goto (tgt := 99) hx hb d_Links_superCode_94 (by decide) ?_
      exact hret hf hP hS d_Links_superCode_99
  unfold f_Links_superCode at hf
  refine lv_aload_n hx hb d_Links_superCode_0 rfl (lv_at hl 0 rfl) ?_
  refine xg_Links_36 hx hb hta hown hKv hP d_Links_superCode_1 ?_
  refine lv_aload_n hx hb d_Links_superCode_4 rfl (lv_at hl 0 rfl) ?_
  refine xg_Links_40 hx hb hta hown hKv hP d_Links_superCode_5 ?_
  refine xg_Links_63 hx hb hta hown hKv hP d_Links_superCode_8 ?_
  refine lv_iload_n hx hb d_Links_superCode_11 rfl (lv_at hl 1 rfl) ?_
  obtain ⟨g3, hf⟩ := gd_ok hf
  refine x_ild hx hb hKv hP c_c24 g3 d_Links_superCode_12 ?_
  refine lv_iload_n hx hb d_Links_superCode_13 rfl (lv_at hl 2 rfl) ?_
  obtain ⟨r8, hc4, hf⟩ := bd1_e hf
  refine xvc_Links_65 X hkk hD (Nat.le_of_ble_eq_true rfl) ⟨by dsimp only [rmR]; omega, by dsimp only [rmR]; omega⟩ ⟨Nat.zero_le _, Nat.zero_le _⟩ hc4 hl.1 hP hS d_Links_superCode_14 (fun H locs hP hS => ?_)
  refine lv_istore (lv' := [(5, .int r8), (0, .ref (ad 5)), (1, .int a1), (2, .int a2), (3, .int a3), (4, .int a4)]) hx hb d_Links_superCode_17 hl (by decide) rfl (fun ls hl => ?_)
  refine lv_iload hx hb d_Links_superCode_19 (lv_at hl 0 rfl) ?_
  refine lv_if_ne (tgt := 27) hx hb d_Links_superCode_21 (by decide) (fun c5 => ?_) (fun c5 => ?_)
  · have hf := ifn c5 hf
    refine lv_aload_n hx hb d_Links_superCode_27 rfl (lv_at hl 1 rfl) ?_
    refine lv_iload hx hb d_Links_superCode_28 (lv_at hl 0 rfl) ?_
    refine lv_iload hx hb d_Links_superCode_30 (lv_at hl 5 rfl) ?_
    obtain ⟨r10, M9, hc6, hf⟩ := bd2_e hf
    refine xvcr_Links_55 X hkk hD hrec (Nat.le_of_ble_eq_true rfl) ⟨by dsimp only [rmR]; omega, by dsimp only [rmR]; omega⟩ ⟨Nat.zero_le _, Nat.zero_le _⟩ hc6 hl.1 hP hS d_Links_superCode_32 (fun H locs hP hS => ?_)
    refine lv_istore (lv' := [(6, .int r10), (5, .int r8), (0, .ref (ad 5)), (1, .int a1), (2, .int a2), (3, .int a3), (4, .int a4)]) hx hb d_Links_superCode_35 hl (by decide) rfl (fun ls hl => ?_)
    refine lv_iload hx hb d_Links_superCode_37 (lv_at hl 0 rfl) ?_
    refine lv_if_ge (tgt := 45) hx hb d_Links_superCode_39 (by decide) (fun c7 => ?_) (fun c7 => ?_)
    · have hf := ifp c7 hf
      refine lv_iload_n hx hb d_Links_superCode_45 rfl (lv_at hl 5 rfl) ?_
      refine lv_if_eq (tgt := 64) hx hb d_Links_superCode_46 (by decide) (fun c8 => ?_) (fun c8 => ?_)
      · have hf := ifp c8 hf
        refine lv_aload_n hx hb d_Links_superCode_64 rfl (lv_at hl 2 rfl) ?_
        refine xg_Links_40 hx hb hta hown hKv hP d_Links_superCode_65 ?_
        refine lv_iload hx hb d_Links_superCode_68 (lv_at hl 1 rfl) ?_
        obtain ⟨r11, hc9, hf⟩ := bd1_e hf
        refine xvc_Links_95 X hkk hD (Nat.le_of_ble_eq_true rfl) ⟨by dsimp only [rmR]; omega, by dsimp only [rmR]; omega⟩ ⟨Nat.zero_le _, Nat.zero_le _⟩ hc9 hl.1 hP hS d_Links_superCode_70 (fun H locs hP hS => ?_)
        refine lv_if_ne (tgt := 79) hx hb d_Links_superCode_73 (by decide) (fun c10 => ?_) (fun c10 => ?_)
        · have hf := ifn c10 hf
          exact b79 M9 a1 r8 _ _ _ hf hP hS (lv_sub hl [2, 3, 1] rfl)
        · have hf := ifp c10 hf
          refine lv_bipush (v := (-5 : Int32)) hx hb d_Links_superCode_76 (by decide) ?_
          exact hret hf hP hS d_Links_superCode_78
      · have hf := ifn c8 hf
        refine lv_aload_n hx hb d_Links_superCode_49 rfl (lv_at hl 2 rfl) ?_
        refine xg_Links_40 hx hb hta hown hKv hP d_Links_superCode_50 ?_
        refine lv_iload hx hb d_Links_superCode_53 (lv_at hl 1 rfl) ?_
        obtain ⟨r12, hc11, hf⟩ := bd1_e hf
        refine xvc_Links_92 X hkk hD (Nat.le_of_ble_eq_true rfl) ⟨by dsimp only [rmR]; omega, by dsimp only [rmR]; omega⟩ ⟨Nat.zero_le _, Nat.zero_le _⟩ hc11 hl.1 hP hS d_Links_superCode_55 (fun H locs hP hS => ?_)
        refine lv_if_ne (tgt := 79) hx hb d_Links_superCode_58 (by decide) (fun c12 => ?_) (fun c12 => ?_)
        · have hf := ifn c12 hf
          exact b79 M9 a1 r8 _ _ _ hf hP hS (lv_sub hl [2, 3, 1] rfl)
        · have hf := ifp c12 hf
          refine lv_goto (tgt := 76) hx hb d_Links_superCode_61 (by decide) ?_
          refine lv_bipush (v := (-5 : Int32)) hx hb d_Links_superCode_76 (by decide) ?_
          exact hret hf hP hS d_Links_superCode_78
    · have hf := ifn c7 hf
      refine lv_iload hx hb d_Links_superCode_42 (lv_at hl 0 rfl) ?_
      exact hret hf hP hS d_Links_superCode_44
  · have hf := ifp c5 hf
    refine lv_bipush (v := (-3 : Int32)) hx hb d_Links_superCode_24 (by decide) ?_
    exact hret hf hP hS d_Links_superCode_26
-- LinkAudit$Links.noteSuper
theorem xg_Links_17 {p : Program} {l : Launch} {e : Env} {R : Room} {s : State} {m : MethodId} {args : Array Value} {below : List Frame} {meth : Method} {c : Code} {H : Heap} {locs : List Loc} {cells slots : Nat} {Q : State → Prop} {cc : ByteArray} {pc : Nat} {ls : Array Slot} {rest : List Value} {D : va_G} {cI cL cG cZ : ClassId} {ad : Nat → Nat} {M : Mem} (hx : p.tables.exec = Jvm.exec) (hb : c.code = cc) (hta : ∀ w ∈ ALLW, w.before args s = true) (hown : s.vm.findClass "LinkAudit$Links" = some m.cls) (hK : va_K D vwC [(cI, .int), (cL, .long), (cG, .array .int), (cZ, .boolean)] s) (hP : va_P D vwC (c_ws cI cL cG cZ ad M) H) (hdg : decode cc pc = .ok (.getfield 17, 3))
    (kk : W p l e R s m args below meth c H locs cells slots Q (F0 m (pc + 3) ls (.ref (ad 38) :: rest))) : W p l e R s m args below meth c H locs cells slots Q (F0 m pc ls (.ref (ad 5) :: rest)) :=
  va_get (D := D) (ci := 5) (v := .ref (ad 38)) (C := "LinkAudit$Links") (T := T_Links) (N := 9) hx hb hta i_Links hown hK hP 5 c_c5 rfl 3 (by decide) (hta _ wm_172) (fun _ h9 => h9) rfl hdg kk
theorem xg_Links_20 {p : Program} {l : Launch} {e : Env} {R : Room} {s : State} {m : MethodId} {args : Array Value} {below : List Frame} {meth : Method} {c : Code} {H : Heap} {locs : List Loc} {cells slots : Nat} {Q : State → Prop} {cc : ByteArray} {pc : Nat} {ls : Array Slot} {rest : List Value} {D : va_G} {cI cL cG cZ : ClassId} {ad : Nat → Nat} {M : Mem} (hx : p.tables.exec = Jvm.exec) (hb : c.code = cc) (hta : ∀ w ∈ ALLW, w.before args s = true) (hown : s.vm.findClass "LinkAudit$Links" = some m.cls) (hK : va_K D vwC [(cI, .int), (cL, .long), (cG, .array .int), (cZ, .boolean)] s) (hP : va_P D vwC (c_ws cI cL cG cZ ad M) H) (hdg : decode cc pc = .ok (.getfield 20, 3))
    (kk : W p l e R s m args below meth c H locs cells slots Q (F0 m (pc + 3) ls (.ref (ad 56) :: rest))) : W p l e R s m args below meth c H locs cells slots Q (F0 m pc ls (.ref (ad 5) :: rest)) :=
  va_get (D := D) (ci := 5) (v := .ref (ad 56)) (C := "LinkAudit$Links") (T := T_Links) (N := 9) hx hb hta i_Links hown hK hP 5 c_c5 rfl 4 (by decide) (hta _ wm_175) (fun _ h9 => h9) rfl hdg kk
theorem xg_Links_23 {p : Program} {l : Launch} {e : Env} {R : Room} {s : State} {m : MethodId} {args : Array Value} {below : List Frame} {meth : Method} {c : Code} {H : Heap} {locs : List Loc} {cells slots : Nat} {Q : State → Prop} {cc : ByteArray} {pc : Nat} {ls : Array Slot} {rest : List Value} {D : va_G} {cI cL cG cZ : ClassId} {ad : Nat → Nat} {M : Mem} (hx : p.tables.exec = Jvm.exec) (hb : c.code = cc) (hta : ∀ w ∈ ALLW, w.before args s = true) (hown : s.vm.findClass "LinkAudit$Links" = some m.cls) (hK : va_K D vwC [(cI, .int), (cL, .long), (cG, .array .int), (cZ, .boolean)] s) (hP : va_P D vwC (c_ws cI cL cG cZ ad M) H) (hdg : decode cc pc = .ok (.getfield 23, 3))
    (kk : W p l e R s m args below meth c H locs cells slots Q (F0 m (pc + 3) ls (.ref (ad 57) :: rest))) : W p l e R s m args below meth c H locs cells slots Q (F0 m pc ls (.ref (ad 5) :: rest)) :=
  va_get (D := D) (ci := 5) (v := .ref (ad 57)) (C := "LinkAudit$Links") (T := T_Links) (N := 9) hx hb hta i_Links hown hK hP 5 c_c5 rfl 5 (by decide) (hta _ wm_178) (fun _ h9 => h9) rfl hdg kk
theorem xg_Links_26 {p : Program} {l : Launch} {e : Env} {R : Room} {s : State} {m : MethodId} {args : Array Value} {below : List Frame} {meth : Method} {c : Code} {H : Heap} {locs : List Loc} {cells slots : Nat} {Q : State → Prop} {cc : ByteArray} {pc : Nat} {ls : Array Slot} {rest : List Value} {D : va_G} {cI cL cG cZ : ClassId} {ad : Nat → Nat} {M : Mem} (hx : p.tables.exec = Jvm.exec) (hb : c.code = cc) (hta : ∀ w ∈ ALLW, w.before args s = true) (hown : s.vm.findClass "LinkAudit$Links" = some m.cls) (hK : va_K D vwC [(cI, .int), (cL, .long), (cG, .array .int), (cZ, .boolean)] s) (hP : va_P D vwC (c_ws cI cL cG cZ ad M) H) (hdg : decode cc pc = .ok (.getfield 26, 3))
    (kk : W p l e R s m args below meth c H locs cells slots Q (F0 m (pc + 3) ls (.ref (ad 58) :: rest))) : W p l e R s m args below meth c H locs cells slots Q (F0 m pc ls (.ref (ad 5) :: rest)) :=
  va_get (D := D) (ci := 5) (v := .ref (ad 58)) (C := "LinkAudit$Links") (T := T_Links) (N := 9) hx hb hta i_Links hown hK hP 5 c_c5 rfl 6 (by decide) (hta _ wm_179) (fun _ h9 => h9) rfl hdg kk
set_option maxHeartbeats 4000000 in
set_option maxRecDepth 100000 in
theorem c_Links_noteSuper {l : Launch} {D : va_G} {cI cL cG cZ : ClassId} {ad : Nat → Nat} {M M' : Mem} {a1 : Int32} {a2 : Int32} (hD : ∀ M, va_D (c_A ad) (c_ws cI cL cG cZ ad M)) (hf : f_Links_noteSuper M a1 a2 = some M') : Mv l y_Links_noteSuper (.code y_Links_noteSuper prog_5_method_10_code 3 none :: ALLW) (rmR 1 100) (Kk D cI cL cG cZ) D vwC (c_A ad) (c_ws cI cL cG cZ ad) [.ref (ad 5), .int a1, .int a2] M M' := by
  refine Mv_of (by decide) (Nat.le_of_ble_eq_true rfl) ?_
  intro p e s m args below meth c ls Q X hkk hret hP hl
  obtain ⟨hx, hb, hml, hown, hta⟩ := id X
  have hKv := hkk.1
  have hS : va_S (c_A ad) s.heap s.heap [] := va_S.rf
  have hl : lv_has ls 3 [(0, .ref (ad 5)), (1, .int a1), (2, .int a2)] := hl
  unfold f_Links_noteSuper at hf
  refine lv_aload_n hx hb d_Links_noteSuper_0 rfl (lv_at hl 0 rfl) ?_
  refine xg_Links_17 hx hb hta hown hKv hP d_Links_noteSuper_1 ?_
  refine lv_iload_n hx hb d_Links_noteSuper_4 rfl (lv_at hl 2 rfl) ?_
  obtain ⟨g1, hf⟩ := gd_ok hf
  refine x_ald (k0 := 38) (base := 39) (n := 17) hx hb hKv hP c_c38 g1 d_Links_noteSuper_5 ?_
  refine lv_iconst (v := (0 : Int32)) hx hb d_Links_noteSuper_6 (by decide) ?_
  refine lv_aload_n hx hb d_Links_noteSuper_7 rfl (lv_at hl 0 rfl) ?_
  refine xg_Links_17 hx hb hta hown hKv hP d_Links_noteSuper_8 ?_
  refine lv_iload_n hx hb d_Links_noteSuper_11 rfl (lv_at hl 1 rfl) ?_
  obtain ⟨g2, hf⟩ := gd_ok hf
  refine x_ald (k0 := 38) (base := 39) (n := 17) hx hb hKv hP c_c38 g2 d_Links_noteSuper_12 ?_
  refine lv_iconst (v := (1 : Int32)) hx hb d_Links_noteSuper_13 (by decide) ?_
  refine lv_aload_n hx hb d_Links_noteSuper_14 rfl (lv_at hl 0 rfl) ?_
  refine xg_Links_20 hx hb hta hown hKv hP d_Links_noteSuper_15 ?_
  refine lv_iload_n hx hb d_Links_noteSuper_18 rfl (lv_at hl 2 rfl) ?_
  obtain ⟨g3, hf⟩ := gd_ok hf
  refine x_ild hx hb hKv hP c_c56 g3 d_Links_noteSuper_19 ?_
  obtain ⟨g4, hf⟩ := gd_b hf
  obtain ⟨M5, eM5, hf⟩ := sm_e hf
  refine x_copy hx hb (hml.trans hl.1.symm) hown (hta _ wm_484) (hta _ wm_486) (hta _ wm_485) (hta _ wm_13) hKv hP (hD _) hS (c_c39 g1) (c_c39 g2) (c_s39 g2) g4 eM5 (by decide) (Nat.le_of_ble_eq_true rfl) d_Links_noteSuper_20 (fun H locs hP hS => ?_)
  refine lv_aload_n hx hb d_Links_noteSuper_23 rfl (lv_at hl 0 rfl) ?_
  refine xg_Links_20 hx hb hta hown hKv hP d_Links_noteSuper_24 ?_
  refine lv_iload_n hx hb d_Links_noteSuper_27 rfl (lv_at hl 1 rfl) ?_
  refine lv_aload_n hx hb d_Links_noteSuper_28 rfl (lv_at hl 0 rfl) ?_
  refine xg_Links_20 hx hb hta hown hKv hP d_Links_noteSuper_29 ?_
  refine lv_iload_n hx hb d_Links_noteSuper_32 rfl (lv_at hl 2 rfl) ?_
  obtain ⟨g5, hf⟩ := gd_ok hf
  refine x_ild hx hb hKv hP c_c56 g5 d_Links_noteSuper_33 ?_
  refine lv_iconst (v := (1 : Int32)) hx hb d_Links_noteSuper_34 (by decide) ?_
  refine lv_iadd hx hb d_Links_noteSuper_35 ?_
  obtain ⟨g6, hf⟩ := gd_ok hf
  obtain ⟨M6, eM6, hf⟩ := sm_e hf
  refine x_ist hx hb hKv hP (hD _) hS c_c56 c_s56 g6 eM6 d_Links_noteSuper_36 (fun H locs hP hS => ?_)
  refine lv_aload_n hx hb d_Links_noteSuper_37 rfl (lv_at hl 0 rfl) ?_
  refine xg_Links_23 hx hb hta hown hKv hP d_Links_noteSuper_38 ?_
  refine lv_iload_n hx hb d_Links_noteSuper_41 rfl (lv_at hl 1 rfl) ?_
  refine lv_iconst (v := (1 : Int32)) hx hb d_Links_noteSuper_42 (by decide) ?_
  refine lv_iload_n hx hb d_Links_noteSuper_43 rfl (lv_at hl 2 rfl) ?_
  refine lv_ishl hx hb d_Links_noteSuper_44 ?_
  refine lv_aload_n hx hb d_Links_noteSuper_45 rfl (lv_at hl 0 rfl) ?_
  refine xg_Links_23 hx hb hta hown hKv hP d_Links_noteSuper_46 ?_
  refine lv_iload_n hx hb d_Links_noteSuper_49 rfl (lv_at hl 2 rfl) ?_
  obtain ⟨g7, hf⟩ := gd_ok hf
  refine x_ild hx hb hKv hP c_c57 g7 d_Links_noteSuper_50 ?_
  refine lv_ior hx hb d_Links_noteSuper_51 ?_
  obtain ⟨g8, hf⟩ := gd_ok hf
  obtain ⟨M7, eM7, hf⟩ := sm_e hf
  refine x_ist hx hb hKv hP (hD _) hS c_c57 c_s57 g8 eM7 d_Links_noteSuper_52 (fun H locs hP hS => ?_)
  refine lv_aload_n hx hb d_Links_noteSuper_53 rfl (lv_at hl 0 rfl) ?_
  refine xg_Links_26 hx hb hta hown hKv hP d_Links_noteSuper_54 ?_
  refine lv_iload_n hx hb d_Links_noteSuper_57 rfl (lv_at hl 1 rfl) ?_
  refine lv_aload_n hx hb d_Links_noteSuper_58 rfl (lv_at hl 0 rfl) ?_
  refine xg_Links_26 hx hb hta hown hKv hP d_Links_noteSuper_59 ?_
  refine lv_iload_n hx hb d_Links_noteSuper_62 rfl (lv_at hl 2 rfl) ?_
  obtain ⟨g9, hf⟩ := gd_ok hf
  refine x_ild hx hb hKv hP c_c58 g9 d_Links_noteSuper_63 ?_
  obtain ⟨g10, hf⟩ := gd_ok hf
  obtain ⟨M8, eM8, hf⟩ := sm_e hf
  refine x_ist hx hb hKv hP (hD _) hS c_c58 c_s58 g10 eM8 d_Links_noteSuper_64 (fun H locs hP hS => ?_)
  exact hret hf hP hS d_Links_noteSuper_65
-- LinkAudit$Links.noteSupers
theorem xg_Links_29 {p : Program} {l : Launch} {e : Env} {R : Room} {s : State} {m : MethodId} {args : Array Value} {below : List Frame} {meth : Method} {c : Code} {H : Heap} {locs : List Loc} {cells slots : Nat} {Q : State → Prop} {cc : ByteArray} {pc : Nat} {ls : Array Slot} {rest : List Value} {D : va_G} {cI cL cG cZ : ClassId} {ad : Nat → Nat} {M : Mem} (hx : p.tables.exec = Jvm.exec) (hb : c.code = cc) (hta : ∀ w ∈ ALLW, w.before args s = true) (hown : s.vm.findClass "LinkAudit$Links" = some m.cls) (hK : va_K D vwC [(cI, .int), (cL, .long), (cG, .array .int), (cZ, .boolean)] s) (hP : va_P D vwC (c_ws cI cL cG cZ ad M) H) (hdg : decode cc pc = .ok (.getfield 29, 3))
    (kk : W p l e R s m args below meth c H locs cells slots Q (F0 m (pc + 3) ls (.ref (ad 59) :: rest))) : W p l e R s m args below meth c H locs cells slots Q (F0 m pc ls (.ref (ad 5) :: rest)) :=
  va_get (D := D) (ci := 5) (v := .ref (ad 59)) (C := "LinkAudit$Links") (T := T_Links) (N := 9) hx hb hta i_Links hown hK hP 5 c_c5 rfl 7 (by decide) (hta _ wm_181) (fun _ h9 => h9) rfl hdg kk
theorem xg_Links_32 {p : Program} {l : Launch} {e : Env} {R : Room} {s : State} {m : MethodId} {args : Array Value} {below : List Frame} {meth : Method} {c : Code} {H : Heap} {locs : List Loc} {cells slots : Nat} {Q : State → Prop} {cc : ByteArray} {pc : Nat} {ls : Array Slot} {rest : List Value} {D : va_G} {cI cL cG cZ : ClassId} {ad : Nat → Nat} {M : Mem} (hx : p.tables.exec = Jvm.exec) (hb : c.code = cc) (hta : ∀ w ∈ ALLW, w.before args s = true) (hown : s.vm.findClass "LinkAudit$Links" = some m.cls) (hK : va_K D vwC [(cI, .int), (cL, .long), (cG, .array .int), (cZ, .boolean)] s) (hP : va_P D vwC (c_ws cI cL cG cZ ad M) H) (hdg : decode cc pc = .ok (.getfield 32, 3))
    (kk : W p l e R s m args below meth c H locs cells slots Q (F0 m (pc + 3) ls (.int (M.1 5 8) :: rest))) : W p l e R s m args below meth c H locs cells slots Q (F0 m pc ls (.ref (ad 5) :: rest)) :=
  va_get (D := D) (ci := 5) (v := .int (M.1 5 8)) (C := "LinkAudit$Links") (T := T_Links) (N := 9) hx hb hta i_Links hown hK hP 5 c_c5 rfl 8 (by decide) (hta _ wm_183) (fun _ h9 => h9) rfl hdg kk
theorem xp_Links_32 {p : Program} {l : Launch} {e : Env} {R : Room} {s : State} {m : MethodId} {args : Array Value} {below : List Frame} {meth : Method} {c : Code} {H : Heap} {locs : List Loc} {cells slots : Nat} {Q : State → Prop} {cc : ByteArray} {pc : Nat} {ls : Array Slot} {rest : List Value} {D : va_G} {cI cL cG cZ : ClassId} {ad : Nat → Nat} {M : Mem} {H0 : Heap} {M1 : Mem} {x : Int32} (hx : p.tables.exec = Jvm.exec) (hb : c.code = cc) (hta : ∀ w ∈ ALLW, w.before args s = true) (hown : s.vm.findClass "LinkAudit$Links" = some m.cls) (hK : va_K D vwC [(cI, .int), (cL, .long), (cG, .array .int), (cZ, .boolean)] s) (hP : va_P D vwC (c_ws cI cL cG cZ ad M) H) (hD : va_D (c_A ad) (c_ws cI cL cG cZ ad M)) (hS : va_S (c_A ad) H0 H locs) (eM : M1 = u1 M 5 8 x) (hdg : decode cc pc = .ok (.putfield 32, 3))
    (kk : ∀ (H1 : Heap) (locs1 : List Loc), va_P D vwC (c_ws cI cL cG cZ ad M1) H1 → va_S (c_A ad) H0 H1 locs1 → W p l e R s m args below meth c H1 locs1 cells slots Q (F0 m (pc + 3) ls rest)) : W p l e R s m args below meth c H locs cells slots Q (F0 m pc ls (.int x :: .ref (ad 5) :: rest)) := by
  refine va_put (D := D) (ci := 5) (v := .int x) (ty := .int) (C := "LinkAudit$Links") (T := T_Links) (N := 9) hx hb hta i_Links t_Links t_Links_ok n_Links hown hK hP hD hS 5 c_c5 rfl 8 (by decide) (hta _ wm_183) (fun _ h9 => h9) rfl (by decide +kernel) rfl rfl (Nat.le_of_ble_eq_true rfl) hdg (fun H1 locs1 h1 _ h3 => kk H1 locs1 ?_ h3)
  rw [eM]
  exact h1
theorem xg_Links_85 {p : Program} {l : Launch} {e : Env} {R : Room} {s : State} {m : MethodId} {args : Array Value} {below : List Frame} {meth : Method} {c : Code} {H : Heap} {locs : List Loc} {cells slots : Nat} {Q : State → Prop} {cc : ByteArray} {pc : Nat} {ls : Array Slot} {rest : List Value} {D : va_G} {cI cL cG cZ : ClassId} {ad : Nat → Nat} {M : Mem} (hx : p.tables.exec = Jvm.exec) (hb : c.code = cc) (hta : ∀ w ∈ ALLW, w.before args s = true) (hown : s.vm.findClass "LinkAudit$Links" = some m.cls) (hK : va_K D vwC [(cI, .int), (cL, .long), (cG, .array .int), (cZ, .boolean)] s) (hP : va_P D vwC (c_ws cI cL cG cZ ad M) H) (hdg : decode cc pc = .ok (.getfield 85, 3))
    (kk : W p l e R s m args below meth c H locs cells slots Q (F0 m (pc + 3) ls (.ref (ad 28) :: rest))) : W p l e R s m args below meth c H locs cells slots Q (F0 m pc ls (.ref (ad 2) :: rest)) :=
  va_get (D := D) (ci := 2) (v := .ref (ad 28)) (C := "LinkAudit$Classes") (T := T_Classes) (N := 6) hx hb hta i_Classes hown hK hP 2 c_c2 rfl 4 (by decide) (hta _ wm_63) (fun _ h9 => h9) rfl hdg kk
theorem xvc_Links_59 {p : Program} {l : Launch} {e : Env} {R : Room} {s : State} {m : MethodId} {args : Array Value} {below : List Frame} {meth : Method} {c : Code} {H : Heap} {locs : List Loc} {cells slots : Nat} {Q : State → Prop} {cc : ByteArray} {pc : Nat} {ls : Array Slot} {rest : List Value} {D : va_G} {cI cL cG cZ : ClassId} {ad : Nat → Nat} {M : Mem} {H0 : Heap} {nL : Nat} {a0 : Int64} {a1 : Int32} {r : Int32} (X : CallFix p m c cc nL s args ALLW "LinkAudit$Links") (hkk : Kk D cI cL cG cZ s) (hD : ∀ M, va_D (c_A ad) (c_ws cI cL cG cZ ad M)) (hrest : (rest.map fun v => v.category).sum ≤ 8) (hR : 0 + 1 ≤ R.frames ∧ 8 + (3 + 11) + 0 ≤ R.locals) (hcs : cells + 0 ≤ R.cells ∧ slots + 0 ≤ R.slots) (hc : f_LinkAudit_hasBit a0 a1 = some r) (hsz : ls.size = nL) (hP : va_P D vwC (c_ws cI cL cG cZ ad M) H) (hS : va_S (c_A ad) H0 H locs) (hdg : decode cc pc = .ok (.invokestatic 59, 3))
    (kk : ∀ (H1 : Heap) (locs1 : List Loc), va_P D vwC (c_ws cI cL cG cZ ad M) H1 → va_S (c_A ad) H0 H1 locs1 → W p l e R s m args below meth c H1 locs1 cells slots Q (F0 m (pc + 3) ls (.int r :: rest))) : W p l e R s m args below meth c H locs cells slots Q (F0 m pc ls (.int a1 :: .long a0 :: rest)) := by
  have hta := X.2.2.2.2
  exact x_after0I e_no (va_runSN (As := [.long a0, .int a1]) (rest := rest) X (c_LinkAudit_hasBit (ad := ad) (M := M) e_D hc) ⟨va_cnB (host := "LinkAudit") 2 hta (good_all (L := .code y_LinkAudit_hasBit prog_1_method_22_code 3 (some .boolean) :: ALLW) (List.forall_mem_cons.mpr ⟨wm_433, fun _ h => h⟩)) rfl rfl rfl (hkk.2 _ (List.mem_of_getElem? (i := 5) rfl)) (hta _ wm_1) (by decide +kernel) hR, hta _ wm_432, trivial⟩ ⟨x_blind Kk_w _, x_pre Kk_w hkk e_P _⟩ rfl rfl hsz rfl (lv_room hrest) hdg hcs) hP hS kk
theorem xg_Links_78 {p : Program} {l : Launch} {e : Env} {R : Room} {s : State} {m : MethodId} {args : Array Value} {below : List Frame} {meth : Method} {c : Code} {H : Heap} {locs : List Loc} {cells slots : Nat} {Q : State → Prop} {cc : ByteArray} {pc : Nat} {ls : Array Slot} {rest : List Value} {D : va_G} {cI cL cG cZ : ClassId} {ad : Nat → Nat} {M : Mem} (hx : p.tables.exec = Jvm.exec) (hb : c.code = cc) (hta : ∀ w ∈ ALLW, w.before args s = true) (hown : s.vm.findClass "LinkAudit$Links" = some m.cls) (hK : va_K D vwC [(cI, .int), (cL, .long), (cG, .array .int), (cZ, .boolean)] s) (hP : va_P D vwC (c_ws cI cL cG cZ ad M) H) (hdg : decode cc pc = .ok (.getfield 78, 3))
    (kk : W p l e R s m args below meth c H locs cells slots Q (F0 m (pc + 3) ls (.ref (ad 27) :: rest))) : W p l e R s m args below meth c H locs cells slots Q (F0 m pc ls (.ref (ad 2) :: rest)) :=
  va_get (D := D) (ci := 2) (v := .ref (ad 27)) (C := "LinkAudit$Classes") (T := T_Classes) (N := 6) hx hb hta i_Classes hown hK hP 2 c_c2 rfl 3 (by decide) (hta _ wm_60) (fun _ h9 => h9) rfl hdg kk
theorem xvc_Links_98 {p : Program} {l : Launch} {e : Env} {R : Room} {s : State} {m : MethodId} {args : Array Value} {below : List Frame} {meth : Method} {c : Code} {H : Heap} {locs : List Loc} {cells slots : Nat} {Q : State → Prop} {cc : ByteArray} {pc : Nat} {ls : Array Slot} {rest : List Value} {D : va_G} {cI cL cG cZ : ClassId} {ad : Nat → Nat} {M : Mem} {H0 : Heap} {M1 : Mem} {nL : Nat} {a0 : Int32} {a1 : Int32} (X : CallFix p m c cc nL s args ALLW "LinkAudit$Links") (hkk : Kk D cI cL cG cZ s) (hD : ∀ M, va_D (c_A ad) (c_ws cI cL cG cZ ad M)) (hrest : (rest.map fun v => v.category).sum ≤ 8) (hR : 1 + 1 ≤ R.frames ∧ 8 + (3 + 11) + 100 ≤ R.locals) (hcs : cells + 0 ≤ R.cells ∧ slots + 0 ≤ R.slots) (hc : f_Links_noteSuper M a0 a1 = some M1) (hsz : ls.size = nL) (hP : va_P D vwC (c_ws cI cL cG cZ ad M) H) (hS : va_S (c_A ad) H0 H locs) (hdg : decode cc pc = .ok (.invokevirtual 98, 3))
    (kk : ∀ (H1 : Heap) (locs1 : List Loc), va_P D vwC (c_ws cI cL cG cZ ad M1) H1 → va_S (c_A ad) H0 H1 locs1 → W p l e R s m args below meth c H1 locs1 cells slots Q (F0 m (pc + 3) ls (rest))) : W p l e R s m args below meth c H locs cells slots Q (F0 m pc ls (.int a1 :: .int a0 :: .ref (ad 5) :: rest)) := by
  have hta := X.2.2.2.2
  exact x_afterV (va_runV (As := [.int a0, .int a1]) (rest := rest) X (c_Links_noteSuper hD hc) ⟨callB_of 2 hta (good_all (L := .code y_Links_noteSuper prog_5_method_10_code 3 none :: ALLW) (List.forall_mem_cons.mpr ⟨wm_483, fun _ h => h⟩)) rfl rfl rfl (hta _ wm_6) (hta _ wm_480) (by decide +kernel) hR, hta _ wm_482, hta _ wp_7⟩ ⟨x_blind Kk_w _, va_recv hkk.1 hP (ci := 5) (q0 := 5) rfl c_c5, x_pre Kk_w hkk hP _⟩ rfl rfl hsz rfl (lv_room hrest) hdg hcs) hS kk
set_option maxHeartbeats 4000000 in
set_option maxRecDepth 100000 in
theorem c_Links_noteSupers {l : Launch} {D : va_G} {cI cL cG cZ : ClassId} {ad : Nat → Nat} {M M' : Mem} {a1 : Int32} (hD : ∀ M, va_D (c_A ad) (c_ws cI cL cG cZ ad M)) (hf : f_Links_noteSupers M a1 = some M') : Mv l y_Links_noteSupers (.code y_Links_noteSupers prog_5_method_9_code 4 none :: ALLW) (rmR 2 122) (Kk D cI cL cG cZ) D vwC (c_A ad) (c_ws cI cL cG cZ ad) [.ref (ad 5), .int a1] M M' := by
  refine Mv_of (by decide) (Nat.le_of_ble_eq_true rfl) ?_
  intro p e s m args below meth c ls Q X hkk hret hP hl
  obtain ⟨hx, hb, hml, hown, hta⟩ := id X
  have hKv := hkk.1
  have hS : va_S (c_A ad) s.heap s.heap [] := va_S.rf
  have hl : lv_has ls 4 [(0, .ref (ad 5)), (1, .int a1)] := hl
  have L76 : ∀ (x1 : Int32), ∀ (ke142 : Mem → Option Mem), ke142 = (fun M14 => gd (ok x1 17) (sm (u1 M14 37 x1.toNatClampNeg x1) (fun M15 => gd (ok (M15.1 5 8) 16) (sm (u1 M15 59 (((M15.1 5 8)).toNatClampNeg) x1) (fun M16 => sm (u1 M16 5 8 ((M16.1 5 8) + (1 : Int32))) (fun M17 => some M17)))))) → ∀ (n76 : Nat) (x2 : Int32) (M : Mem) (H : Heap) (locs : List Loc) (ls : Array Slot), f_Links_noteSupers_L76 x1 ke142 n76 x2 M = some M' → va_P D vwC (c_ws cI cL cG cZ ad M) H → va_S (c_A ad) s.heap H locs → lv_has ls 4 [(0, .ref (ad 5)), (1, .int x1), (2, .int x2)] → W p l e (rmR 2 122) s m args below meth c H locs 0 0 Q (F0 m 76 ls []) := by
    intro x1 ke142 hke142 n76
    induction n76 with
    | zero => intro x2 M H locs ls hf; exact absurd (show (none : Option _) = some _ from hf) (fun q => by cases q)
    | succ n76 ih76 =>
      intro x2 M H locs ls hf hP hS hl
      rw [f_Links_noteSupers_L76] at hf
      refine lv_iload_n hx hb d_Links_noteSupers_76 rfl (lv_at hl 2 rfl) ?_
      refine lv_bipush (v := (12 : Int32)) hx hb d_Links_noteSupers_77 (by decide) ?_
      refine lv_icmp_ge (tgt := 142) hx hb d_Links_noteSupers_79 (by decide) (fun c1 => ?_) (fun c1 => ?_)
      · have hf := ifp c1 hf
        rw [hke142] at hf
        refine lv_aload_n hx hb d_Links_noteSupers_142 rfl (lv_at hl 0 rfl) ?_
        refine xg_Links_9 hx hb hta hown hKv hP d_Links_noteSupers_143 ?_
        refine lv_iload_n hx hb d_Links_noteSupers_146 rfl (lv_at hl 1 rfl) ?_
        refine lv_iload_n hx hb d_Links_noteSupers_147 rfl (lv_at hl 1 rfl) ?_
        obtain ⟨g2, hf⟩ := gd_ok hf
        obtain ⟨M18, eM18, hf⟩ := sm_e hf
        refine x_ist hx hb hKv hP (hD _) hS c_c37 c_s37 g2 eM18 d_Links_noteSupers_148 (fun H locs hP hS => ?_)
        refine lv_aload_n hx hb d_Links_noteSupers_149 rfl (lv_at hl 0 rfl) ?_
        refine xg_Links_29 hx hb hta hown hKv hP d_Links_noteSupers_150 ?_
        refine lv_aload_n hx hb d_Links_noteSupers_153 rfl (lv_at hl 0 rfl) ?_
        refine xg_Links_32 hx hb hta hown hKv hP d_Links_noteSupers_154 ?_
        refine lv_iload_n hx hb d_Links_noteSupers_157 rfl (lv_at hl 1 rfl) ?_
        obtain ⟨g3, hf⟩ := gd_ok hf
        obtain ⟨M19, eM19, hf⟩ := sm_e hf
        refine x_ist hx hb hKv hP (hD _) hS c_c59 c_s59 g3 eM19 d_Links_noteSupers_158 (fun H locs hP hS => ?_)
        refine lv_aload_n hx hb d_Links_noteSupers_159 rfl (lv_at hl 0 rfl) ?_
        refine lv_dup hx hb d_Links_noteSupers_160 rfl ?_
        refine xg_Links_32 hx hb hta hown hKv hP d_Links_noteSupers_161 ?_
        refine lv_iconst (v := (1 : Int32)) hx hb d_Links_noteSupers_164 (by decide) ?_
        refine lv_iadd hx hb d_Links_noteSupers_165 ?_
        obtain ⟨M20, eM20, hf⟩ := sm_e hf
        refine xp_Links_32 hx hb hta hown hKv hP (hD _) hS eM20 d_Links_noteSupers_166 (fun H locs hP hS => ?_)
        exact hret hf hP hS d_Links_noteSupers_169
      · have hf := ifn c1 hf
        refine lv_aload_n hx hb d_Links_noteSupers_82 rfl (lv_at hl 0 rfl) ?_
        refine xg_Links_40 hx hb hta hown hKv hP d_Links_noteSupers_83 ?_
        refine xg_Links_85 hx hb hta hown hKv hP d_Links_noteSupers_86 ?_
        refine lv_iload_n hx hb d_Links_noteSupers_89 rfl (lv_at hl 1 rfl) ?_
        obtain ⟨g4, hf⟩ := gd_ok hf
        refine x_ild hx hb hKv hP c_c28 g4 d_Links_noteSupers_90 ?_
        refine lv_i2l hx hb d_Links_noteSupers_91 rfl ?_
        refine lv_iload_n hx hb d_Links_noteSupers_92 rfl (lv_at hl 2 rfl) ?_
        obtain ⟨r21, hc5, hf⟩ := bd1_e hf
        refine xvc_Links_59 X hkk hD (Nat.le_of_ble_eq_true rfl) ⟨by dsimp only [rmR]; omega, by dsimp only [rmR]; omega⟩ ⟨Nat.zero_le _, Nat.zero_le _⟩ hc5 hl.1 hP hS d_Links_noteSupers_93 (fun H locs hP hS => ?_)
        refine lv_if_eq (tgt := 136) hx hb d_Links_noteSupers_96 (by decide) (fun c6 => ?_) (fun c6 => ?_)
        · have hf := ifp c6 hf
          refine lv_iinc (v := (x2 + (1 : Int32))) (lv' := [(2, .int (x2 + (1 : Int32))), (0, .ref (ad 5)), (1, .int x1)]) hx hb d_Links_noteSupers_136 hl (k := 2) rfl rfl (by decide) rfl (fun ls hl => ?_)
          refine lv_goto (tgt := 76) hx hb d_Links_noteSupers_139 (by decide) ?_
          exact ih76 (x2 + (1 : Int32)) M _ _ _ hf hP hS (lv_sub hl [1, 2, 0] rfl)
        · have hf := ifn c6 hf
          refine lv_aload_n hx hb d_Links_noteSupers_99 rfl (lv_at hl 0 rfl) ?_
          refine xg_Links_36 hx hb hta hown hKv hP d_Links_noteSupers_100 ?_
          refine lv_aload_n hx hb d_Links_noteSupers_103 rfl (lv_at hl 0 rfl) ?_
          refine xg_Links_40 hx hb hta hown hKv hP d_Links_noteSupers_104 ?_
          refine xg_Links_63 hx hb hta hown hKv hP d_Links_noteSupers_107 ?_
          refine lv_iload_n hx hb d_Links_noteSupers_110 rfl (lv_at hl 1 rfl) ?_
          obtain ⟨g7, hf⟩ := gd_ok hf
          refine x_ild hx hb hKv hP c_c24 g7 d_Links_noteSupers_111 ?_
          refine lv_iload_n hx hb d_Links_noteSupers_112 rfl (lv_at hl 2 rfl) ?_
          obtain ⟨r22, hc8, hf⟩ := bd1_e hf
          refine xvc_Links_65 X hkk hD (Nat.le_of_ble_eq_true rfl) ⟨by dsimp only [rmR]; omega, by dsimp only [rmR]; omega⟩ ⟨Nat.zero_le _, Nat.zero_le _⟩ hc8 hl.1 hP hS d_Links_noteSupers_113 (fun H locs hP hS => ?_)
          refine lv_istore_n (lv' := [(3, .int r22), (0, .ref (ad 5)), (1, .int x1), (2, .int x2)]) hx hb d_Links_noteSupers_116 rfl hl (by decide) rfl (fun ls hl => ?_)
          refine lv_aload_n hx hb d_Links_noteSupers_117 rfl (lv_at hl 1 rfl) ?_
          refine xg_Links_26 hx hb hta hown hKv hP d_Links_noteSupers_118 ?_
          refine lv_iload_n hx hb d_Links_noteSupers_121 rfl (lv_at hl 2 rfl) ?_
          refine lv_dup2_11 hx hb d_Links_noteSupers_122 rfl rfl ?_
          obtain ⟨g9, hf⟩ := gd_ok hf
          refine x_ild hx hb hKv hP c_c58 g9 d_Links_noteSupers_123 ?_
          refine lv_iconst (v := (1 : Int32)) hx hb d_Links_noteSupers_124 (by decide) ?_
          refine lv_iload_n hx hb d_Links_noteSupers_125 rfl (lv_at hl 0 rfl) ?_
          refine lv_ishl hx hb d_Links_noteSupers_126 ?_
          refine lv_aload_n hx hb d_Links_noteSupers_127 rfl (lv_at hl 1 rfl) ?_
          refine xg_Links_26 hx hb hta hown hKv hP d_Links_noteSupers_128 ?_
          refine lv_iload_n hx hb d_Links_noteSupers_131 rfl (lv_at hl 0 rfl) ?_
          obtain ⟨g10, hf⟩ := gd_ok hf
          refine x_ild hx hb hKv hP c_c58 g10 d_Links_noteSupers_132 ?_
          refine lv_ior hx hb d_Links_noteSupers_133 ?_
          refine lv_ior hx hb d_Links_noteSupers_134 ?_
          obtain ⟨g11, hf⟩ := gd_ok hf
          obtain ⟨M23, eM23, hf⟩ := sm_e hf
          refine x_ist hx hb hKv hP (hD _) hS c_c58 c_s58 g11 eM23 d_Links_noteSupers_135 (fun H locs hP hS => ?_)
          refine lv_iinc (v := (x2 + (1 : Int32))) (lv' := [(2, .int (x2 + (1 : Int32))), (3, .int r22), (0, .ref (ad 5)), (1, .int x1)]) hx hb d_Links_noteSupers_136 hl (k := 3) rfl rfl (by decide) rfl (fun ls hl => ?_)
          refine lv_goto (tgt := 76) hx hb d_Links_noteSupers_139 (by decide) ?_
          exact ih76 (x2 + (1 : Int32)) M23 _ _ _ hf hP hS (lv_sub hl [2, 3, 0] rfl)
  have b74 : ∀ (M : Mem) (x1 : Int32) (H : Heap) (locs : List Loc) (ls : Array Slot), f_Links_noteSupers_b74 M x1 = some M' → va_P D vwC (c_ws cI cL cG cZ ad M) H → va_S (c_A ad) s.heap H locs → lv_has ls 4 [(0, .ref (ad 5)), (1, .int x1)] → W p l e (rmR 2 122) s m args below meth c H locs 0 0 Q (F0 m 74 ls []) := by
    intro M x1 H locs ls hf hP hS hl
    unfold f_Links_noteSupers_b74 at hf
    refine lv_iconst (v := (0 : Int32)) hx hb d_Links_noteSupers_74 (by decide) ?_
    refine lv_istore_n (lv' := [(2, .int (0 : Int32)), (0, .ref (ad 5)), (1, .int x1)]) hx hb d_Links_noteSupers_75 rfl hl (by decide) rfl (fun ls hl => ?_)
    exact L76 x1 _ rfl FU (0 : Int32) M _ _ _ hf hP hS (lv_sub hl [1, 2, 0] rfl)
  unfold f_Links_noteSupers at hf
  refine lv_aload_n hx hb d_Links_noteSupers_0 rfl (lv_at hl 0 rfl) ?_
  refine xg_Links_17 hx hb hta hown hKv hP d_Links_noteSupers_1 ?_
  refine lv_iload_n hx hb d_Links_noteSupers_4 rfl (lv_at hl 1 rfl) ?_
  obtain ⟨g12, hf⟩ := gd_ok hf
  refine x_ald (k0 := 38) (base := 39) (n := 17) hx hb hKv hP c_c38 g12 d_Links_noteSupers_5 ?_
  refine lv_iconst (v := (0 : Int32)) hx hb d_Links_noteSupers_6 (by decide) ?_
  refine lv_iload_n hx hb d_Links_noteSupers_7 rfl (lv_at hl 1 rfl) ?_
  obtain ⟨g13, hf⟩ := gd_ok hf
  obtain ⟨M24, eM24, hf⟩ := sm_e hf
  refine x_ist hx hb hKv hP (hD _) hS (c_c39 g12) (c_s39 g12) g13 eM24 d_Links_noteSupers_8 (fun H locs hP hS => ?_)
  refine lv_aload_n hx hb d_Links_noteSupers_9 rfl (lv_at hl 0 rfl) ?_
  refine xg_Links_20 hx hb hta hown hKv hP d_Links_noteSupers_10 ?_
  refine lv_iload_n hx hb d_Links_noteSupers_13 rfl (lv_at hl 1 rfl) ?_
  refine lv_iconst (v := (1 : Int32)) hx hb d_Links_noteSupers_14 (by decide) ?_
  obtain ⟨g14, hf⟩ := gd_ok hf
  obtain ⟨M25, eM25, hf⟩ := sm_e hf
  refine x_ist hx hb hKv hP (hD _) hS c_c56 c_s56 g14 eM25 d_Links_noteSupers_15 (fun H locs hP hS => ?_)
  refine lv_aload_n hx hb d_Links_noteSupers_16 rfl (lv_at hl 0 rfl) ?_
  refine xg_Links_23 hx hb hta hown hKv hP d_Links_noteSupers_17 ?_
  refine lv_iload_n hx hb d_Links_noteSupers_20 rfl (lv_at hl 1 rfl) ?_
  refine lv_iconst (v := (0 : Int32)) hx hb d_Links_noteSupers_21 (by decide) ?_
  obtain ⟨g15, hf⟩ := gd_ok hf
  obtain ⟨M26, eM26, hf⟩ := sm_e hf
  refine x_ist hx hb hKv hP (hD _) hS c_c57 c_s57 g15 eM26 d_Links_noteSupers_22 (fun H locs hP hS => ?_)
  refine lv_aload_n hx hb d_Links_noteSupers_23 rfl (lv_at hl 0 rfl) ?_
  refine xg_Links_26 hx hb hta hown hKv hP d_Links_noteSupers_24 ?_
  refine lv_iload_n hx hb d_Links_noteSupers_27 rfl (lv_at hl 1 rfl) ?_
  refine lv_iconst (v := (0 : Int32)) hx hb d_Links_noteSupers_28 (by decide) ?_
  obtain ⟨g16, hf⟩ := gd_ok hf
  obtain ⟨M27, eM27, hf⟩ := sm_e hf
  refine x_ist hx hb hKv hP (hD _) hS c_c58 c_s58 g16 eM27 d_Links_noteSupers_29 (fun H locs hP hS => ?_)
  refine lv_aload_n hx hb d_Links_noteSupers_30 rfl (lv_at hl 0 rfl) ?_
  refine xg_Links_40 hx hb hta hown hKv hP d_Links_noteSupers_31 ?_
  refine xg_Links_78 hx hb hta hown hKv hP d_Links_noteSupers_34 ?_
  refine lv_iload_n hx hb d_Links_noteSupers_37 rfl (lv_at hl 1 rfl) ?_
  obtain ⟨g17, hf⟩ := gd_ok hf
  refine x_ild hx hb hKv hP c_c27 g17 d_Links_noteSupers_38 ?_
  refine lv_bipush (v := (12 : Int32)) hx hb d_Links_noteSupers_39 (by decide) ?_
  refine lv_icmp_eq (tgt := 74) hx hb d_Links_noteSupers_41 (by decide) (fun c18 => ?_) (fun c18 => ?_)
  · have hf := ifp c18 hf
    exact b74 M27 a1 _ _ _ hf hP hS (lv_sub hl [0, 1] rfl)
  · have hf := ifn c18 hf
    refine lv_aload_n hx hb d_Links_noteSupers_44 rfl (lv_at hl 0 rfl) ?_
    refine lv_iload_n hx hb d_Links_noteSupers_45 rfl (lv_at hl 1 rfl) ?_
    refine lv_aload_n hx hb d_Links_noteSupers_46 rfl (lv_at hl 0 rfl) ?_
    refine xg_Links_36 hx hb hta hown hKv hP d_Links_noteSupers_47 ?_
    refine lv_aload_n hx hb d_Links_noteSupers_50 rfl (lv_at hl 0 rfl) ?_
    refine xg_Links_40 hx hb hta hown hKv hP d_Links_noteSupers_51 ?_
    refine xg_Links_63 hx hb hta hown hKv hP d_Links_noteSupers_54 ?_
    refine lv_iload_n hx hb d_Links_noteSupers_57 rfl (lv_at hl 1 rfl) ?_
    obtain ⟨g19, hf⟩ := gd_ok hf
    refine x_ild hx hb hKv hP c_c24 g19 d_Links_noteSupers_58 ?_
    refine lv_aload_n hx hb d_Links_noteSupers_59 rfl (lv_at hl 0 rfl) ?_
    refine xg_Links_40 hx hb hta hown hKv hP d_Links_noteSupers_60 ?_
    refine xg_Links_78 hx hb hta hown hKv hP d_Links_noteSupers_63 ?_
    refine lv_iload_n hx hb d_Links_noteSupers_66 rfl (lv_at hl 1 rfl) ?_
    obtain ⟨g20, hf⟩ := gd_ok hf
    refine x_ild hx hb hKv hP c_c27 g20 d_Links_noteSupers_67 ?_
    obtain ⟨r28, hc21, hf⟩ := bd1_e hf
    refine xvc_Links_65 X hkk hD (Nat.le_of_ble_eq_true rfl) ⟨by dsimp only [rmR]; omega, by dsimp only [rmR]; omega⟩ ⟨Nat.zero_le _, Nat.zero_le _⟩ hc21 hl.1 hP hS d_Links_noteSupers_68 (fun H locs hP hS => ?_)
    obtain ⟨M29, hc22, hf⟩ := bd1_e hf
    refine xvc_Links_98 X hkk hD (Nat.le_of_ble_eq_true rfl) ⟨by dsimp only [rmR]; omega, by dsimp only [rmR]; omega⟩ ⟨Nat.zero_le _, Nat.zero_le _⟩ hc22 hl.1 hP hS d_Links_noteSupers_71 (fun H locs hP hS => ?_)
    exact b74 M29 a1 _ _ _ hf hP hS (lv_sub hl [0, 1] rfl)

-- LinkAuditModel.allGaps
set_option maxHeartbeats 4000000 in
set_option maxRecDepth 100000 in
theorem c_LinkAuditModel_allGaps {l : Launch} {D : va_G} {cI cL cG cZ : ClassId} {ad : Nat → Nat} {M M' : Mem} {r : Int32} (hD : ∀ M, va_D (r_A ad) (r_ws cI cL cG cZ ad M)) (hf : f_LinkAuditModel_allGaps M = some (r, M')) : Mi l y_LinkAuditModel_allGaps (.code y_LinkAuditModel_allGaps prog_12_method_37_code 5 (some .int) :: ALLW) (rmR 6 147) (Kk D cI cL cG cZ) D vwC (r_A ad) (r_ws cI cL cG cZ ad) [.ref (ad 0)] M M' r := by
  refine Mi_of (by decide) (Nat.le_of_ble_eq_true rfl) ?_
  intro p e s m args below meth c ls Q X hkk hret hP hl
  obtain ⟨hx, hb, hml, hown, hta⟩ := id X
  have hKv := hkk.1
  have hS : va_S (r_A ad) s.heap s.heap [] := va_S.rf
  have hl : lv_has ls 5 [(0, .ref (ad 0))] := hl
  have L4 : ∀ (ke137 : Int32 → Mem → Option (Int32 × Mem)), ke137 = (fun y1 M8 => some (y1, M8)) → ∀ (n4 : Nat) (x1 : Int32) (x2 : Int32) (M : Mem) (H : Heap) (locs : List Loc) (ls : Array Slot), f_LinkAuditModel_allGaps_L4 ke137 n4 x1 x2 M = some (r, M') → va_P D vwC (r_ws cI cL cG cZ ad M) H → va_S (r_A ad) s.heap H locs → lv_has ls 5 [(0, .ref (ad 0)), (1, .int x1), (2, .int x2)] → W p l e (rmR 6 147) s m args below meth c H locs 0 0 Q (F0 m 4 ls []) := by
    intro ke137 hke137 n4
    induction n4 with
    | zero => intro x1 x2 M H locs ls hf; exact absurd (show (none : Option _) = some _ from hf) (fun q => by cases q)
    | succ n4 ih4 =>
      intro x1 x2 M H locs ls hf hP hS hl
      rw [f_LinkAuditModel_allGaps_L4] at hf
      have L38 : ∀ (x2 : Int32), ∀ (ke131 : Int32 → Mem → Option (Int32 × Mem)), ke131 = (fun y1 M9 => f_LinkAuditModel_allGaps_L4 ke137 n4 y1 (x2 + (1 : Int32)) M9) → ∀ (n38 : Nat) (x1 : Int32) (x3 : Int32) (M : Mem) (H : Heap) (locs : List Loc) (ls : Array Slot), f_LinkAuditModel_allGaps_L38 x2 ke131 n38 x1 x3 M = some (r, M') → va_P D vwC (r_ws cI cL cG cZ ad M) H → va_S (r_A ad) s.heap H locs → lv_has ls 5 [(0, .ref (ad 0)), (1, .int x1), (2, .int x2), (3, .int x3)] → W p l e (rmR 6 147) s m args below meth c H locs 0 0 Q (F0 m 38 ls []) := by
        intro x2 ke131 hke131 n38
        induction n38 with
        | zero => intro x1 x3 M H locs ls hf; exact absurd (show (none : Option _) = some _ from hf) (fun q => by cases q)
        | succ n38 ih38 =>
          intro x1 x3 M H locs ls hf hP hS hl
          rw [f_LinkAuditModel_allGaps_L38] at hf
          have b89 : ∀ (M : Mem) (x1 : Int32) (x3 : Int32) (t0 : Int32) (H : Heap) (locs : List Loc) (ls : Array Slot), f_LinkAuditModel_allGaps_b89 M x1 x2 x3 t0 (f_LinkAuditModel_allGaps_L38 x2 ke131 n38) ke131 = some (r, M') → va_P D vwC (r_ws cI cL cG cZ ad M) H → va_S (r_A ad) s.heap H locs → lv_has ls 5 [(0, .ref (ad 0)), (1, .int x1), (2, .int x2), (3, .int x3)] → W p l e (rmR 6 147) s m args below meth c H locs 0 0 Q (F0 m 89 ls [.int t0]) := by
            intro M x1 x3 t0 H locs ls hf hP hS hl
            unfold f_LinkAuditModel_allGaps_b89 at hf
            refine lv_istore (lv' := [(4, .int t0), (0, .ref (ad 0)), (1, .int x1), (2, .int x2), (3, .int x3)]) hx hb d_LinkAuditModel_allGaps_89 hl (by decide) rfl (fun ls hl => ?_)
            refine lv_iload hx hb d_LinkAuditModel_allGaps_91 (lv_at hl 0 rfl) ?_
            refine lv_if_eq (tgt := 125) hx hb d_LinkAuditModel_allGaps_93 (by decide) (fun c1 => ?_) (fun c1 => ?_)
            · have hf := ifp c1 hf
              refine lv_iinc (v := (x3 + (1 : Int32))) (lv' := [(3, .int (x3 + (1 : Int32))), (4, .int t0), (0, .ref (ad 0)), (1, .int x1), (2, .int x2)]) hx hb d_LinkAuditModel_allGaps_125 hl (k := 4) rfl rfl (by decide) rfl (fun ls hl => ?_)
              refine lv_goto (tgt := 38) hx hb d_LinkAuditModel_allGaps_128 (by decide) ?_
              exact ih38 x1 (x3 + (1 : Int32)) M _ _ _ hf hP hS (lv_sub hl [2, 3, 4, 0] rfl)
            · have hf := ifn c1 hf
              refine lv_aload_n hx hb d_LinkAuditModel_allGaps_96 rfl (lv_at hl 1 rfl) ?_
              refine xg_LinkAuditModel_37 hx hb hta hown hKv hP d_LinkAuditModel_allGaps_97 ?_
              refine lv_iload_n hx hb d_LinkAuditModel_allGaps_100 rfl (lv_at hl 4 rfl) ?_
              obtain ⟨g2, hf⟩ := gd_ok hf
              refine x_zld hx hb hKv hP r_c10 g2 d_LinkAuditModel_allGaps_101 ?_
              refine lv_if_eq (tgt := 125) hx hb d_LinkAuditModel_allGaps_102 (by decide) (fun c3 => ?_) (fun c3 => ?_)
              · have hf := ifp c3 hf
                refine lv_iinc (v := (x3 + (1 : Int32))) (lv' := [(3, .int (x3 + (1 : Int32))), (4, .int t0), (0, .ref (ad 0)), (1, .int x1), (2, .int x2)]) hx hb d_LinkAuditModel_allGaps_125 hl (k := 4) rfl rfl (by decide) rfl (fun ls hl => ?_)
                refine lv_goto (tgt := 38) hx hb d_LinkAuditModel_allGaps_128 (by decide) ?_
                exact ih38 x1 (x3 + (1 : Int32)) M _ _ _ hf hP hS (lv_sub hl [2, 3, 4, 0] rfl)
              · have hf := ifn c3 hf
                refine lv_aload_n hx hb d_LinkAuditModel_allGaps_105 rfl (lv_at hl 1 rfl) ?_
                refine lv_iload_n hx hb d_LinkAuditModel_allGaps_106 rfl (lv_at hl 4 rfl) ?_
                obtain ⟨r10, hc4, hf⟩ := bd1_e hf
                refine xvr_LinkAuditModel_172 X hkk hD (Nat.le_of_ble_eq_true rfl) ⟨by dsimp only [rmR]; omega, by dsimp only [rmR]; omega⟩ ⟨Nat.zero_le _, Nat.zero_le _⟩ hc4 hl.1 hP hS d_LinkAuditModel_allGaps_107 (fun H locs hP hS => ?_)
                refine lv_if_ne (tgt := 125) hx hb d_LinkAuditModel_allGaps_110 (by decide) (fun c5 => ?_) (fun c5 => ?_)
                · have hf := ifn c5 hf
                  refine lv_iinc (v := (x3 + (1 : Int32))) (lv' := [(3, .int (x3 + (1 : Int32))), (4, .int t0), (0, .ref (ad 0)), (1, .int x1), (2, .int x2)]) hx hb d_LinkAuditModel_allGaps_125 hl (k := 4) rfl rfl (by decide) rfl (fun ls hl => ?_)
                  refine lv_goto (tgt := 38) hx hb d_LinkAuditModel_allGaps_128 (by decide) ?_
                  exact ih38 x1 (x3 + (1 : Int32)) M _ _ _ hf hP hS (lv_sub hl [2, 3, 4, 0] rfl)
                · have hf := ifp c5 hf
                  refine lv_aload_n hx hb d_LinkAuditModel_allGaps_113 rfl (lv_at hl 1 rfl) ?_
                  refine lv_iload_n hx hb d_LinkAuditModel_allGaps_114 rfl (lv_at hl 3 rfl) ?_
                  refine lv_iload_n hx hb d_LinkAuditModel_allGaps_115 rfl (lv_at hl 4 rfl) ?_
                  obtain ⟨r12, M11, hc6, hf⟩ := bd2_e hf
                  refine xvr_LinkAuditModel_188 X hkk hD (Nat.le_of_ble_eq_true rfl) ⟨by dsimp only [rmR]; omega, by dsimp only [rmR]; omega⟩ ⟨Nat.zero_le _, Nat.zero_le _⟩ hc6 hl.1 hP hS d_LinkAuditModel_allGaps_116 (fun H locs hP hS => ?_)
                  refine lv_if_ge (tgt := 125) hx hb d_LinkAuditModel_allGaps_119 (by decide) (fun c7 => ?_) (fun c7 => ?_)
                  · have hf := ifp c7 hf
                    refine lv_iinc (v := (x3 + (1 : Int32))) (lv' := [(3, .int (x3 + (1 : Int32))), (4, .int t0), (0, .ref (ad 0)), (1, .int x1), (2, .int x2)]) hx hb d_LinkAuditModel_allGaps_125 hl (k := 4) rfl rfl (by decide) rfl (fun ls hl => ?_)
                    refine lv_goto (tgt := 38) hx hb d_LinkAuditModel_allGaps_128 (by decide) ?_
                    exact ih38 x1 (x3 + (1 : Int32)) M11 _ _ _ hf hP hS (lv_sub hl [2, 3, 4, 0] rfl)
                  · have hf := ifn c7 hf
                    refine lv_iinc (v := (x1 + (1 : Int32))) (lv' := [(1, .int (x1 + (1 : Int32))), (4, .int t0), (0, .ref (ad 0)), (2, .int x2), (3, .int x3)]) hx hb d_LinkAuditModel_allGaps_122 hl (k := 2) rfl rfl (by decide) rfl (fun ls hl => ?_)
                    refine lv_iinc (v := (x3 + (1 : Int32))) (lv' := [(3, .int (x3 + (1 : Int32))), (1, .int (x1 + (1 : Int32))), (4, .int t0), (0, .ref (ad 0)), (2, .int x2)]) hx hb d_LinkAuditModel_allGaps_125 hl (k := 4) rfl rfl (by decide) rfl (fun ls hl => ?_)
                    refine lv_goto (tgt := 38) hx hb d_LinkAuditModel_allGaps_128 (by decide) ?_
                    exact ih38 (x1 + (1 : Int32)) (x3 + (1 : Int32)) M11 _ _ _ hf hP hS (lv_sub hl [3, 1, 4, 0] rfl)
          have b84 : ∀ (M : Mem) (x1 : Int32) (x3 : Int32) (H : Heap) (locs : List Loc) (ls : Array Slot), f_LinkAuditModel_allGaps_b84 M x1 x2 x3 (f_LinkAuditModel_allGaps_L38 x2 ke131 n38) ke131 = some (r, M') → va_P D vwC (r_ws cI cL cG cZ ad M) H → va_S (r_A ad) s.heap H locs → lv_has ls 5 [(0, .ref (ad 0)), (1, .int x1), (2, .int x2), (3, .int x3)] → W p l e (rmR 6 147) s m args below meth c H locs 0 0 Q (F0 m 84 ls []) := by
            intro M x1 x3 H locs ls hf hP hS hl
            unfold f_LinkAuditModel_allGaps_b84 at hf
            refine lv_iconst (v := (1 : Int32)) hx hb d_LinkAuditModel_allGaps_84 (by decide) ?_
            refine lv_goto (tgt := 89) hx hb d_LinkAuditModel_allGaps_85 (by decide) ?_
            exact b89 M x1 x3 (1 : Int32) _ _ _ hf hP hS (lv_sub hl [0, 1, 2, 3] rfl)
          have b70 : ∀ (M : Mem) (x1 : Int32) (x3 : Int32) (H : Heap) (locs : List Loc) (ls : Array Slot), f_LinkAuditModel_allGaps_b70 M x1 x2 x3 (f_LinkAuditModel_allGaps_L38 x2 ke131 n38) ke131 = some (r, M') → va_P D vwC (r_ws cI cL cG cZ ad M) H → va_S (r_A ad) s.heap H locs → lv_has ls 5 [(0, .ref (ad 0)), (1, .int x1), (2, .int x2), (3, .int x3)] → W p l e (rmR 6 147) s m args below meth c H locs 0 0 Q (F0 m 70 ls []) := by
            intro M x1 x3 H locs ls hf hP hS hl
            unfold f_LinkAuditModel_allGaps_b70 at hf
            refine lv_aload_n hx hb d_LinkAuditModel_allGaps_70 rfl (lv_at hl 0 rfl) ?_
            refine lv_iload_n hx hb d_LinkAuditModel_allGaps_71 rfl (lv_at hl 2 rfl) ?_
            refine lv_aload_n hx hb d_LinkAuditModel_allGaps_72 rfl (lv_at hl 0 rfl) ?_
            refine xg_LinkAuditModel_34 hx hb hta hown hKv hP d_LinkAuditModel_allGaps_73 ?_
            refine lv_iload_n hx hb d_LinkAuditModel_allGaps_76 rfl (lv_at hl 3 rfl) ?_
            obtain ⟨g8, hf⟩ := gd_ok hf
            refine x_ild hx hb hKv hP r_c9 g8 d_LinkAuditModel_allGaps_77 ?_
            obtain ⟨r13, hc9, hf⟩ := bd1_e hf
            refine xvr_LinkAuditModel_146 X hkk hD (Nat.le_of_ble_eq_true rfl) ⟨by dsimp only [rmR]; omega, by dsimp only [rmR]; omega⟩ ⟨Nat.zero_le _, Nat.zero_le _⟩ hc9 hl.1 hP hS d_LinkAuditModel_allGaps_78 (fun H locs hP hS => ?_)
            refine lv_if_eq (tgt := 88) hx hb d_LinkAuditModel_allGaps_81 (by decide) (fun c10 => ?_) (fun c10 => ?_)
            · have hf := ifp c10 hf
              refine lv_iconst (v := (0 : Int32)) hx hb d_LinkAuditModel_allGaps_88 (by decide) ?_
              exact b89 M x1 x3 (0 : Int32) _ _ _ hf hP hS (lv_sub hl [0, 1, 2, 3] rfl)
            · have hf := ifn c10 hf
              exact b84 M x1 x3 _ _ _ hf hP hS (lv_sub hl [0, 1, 2, 3] rfl)
          refine lv_iload_n hx hb d_LinkAuditModel_allGaps_38 rfl (lv_at hl 3 rfl) ?_
          refine lv_aload_n hx hb d_LinkAuditModel_allGaps_39 rfl (lv_at hl 0 rfl) ?_
          refine xg_LinkAuditModel_104 hx hb hta hown hKv hP d_LinkAuditModel_allGaps_40 ?_
          refine lv_icmp_gt (tgt := 131) hx hb d_LinkAuditModel_allGaps_43 (by decide) (fun c11 => ?_) (fun c11 => ?_)
          · have hf := ifp c11 hf
            rw [hke131] at hf
            refine lv_iinc (v := (x2 + (1 : Int32))) (lv' := [(2, .int (x2 + (1 : Int32))), (0, .ref (ad 0)), (1, .int x1), (3, .int x3)]) hx hb d_LinkAuditModel_allGaps_131 hl (k := 2) rfl rfl (by decide) rfl (fun ls hl => ?_)
            refine lv_goto (tgt := 4) hx hb d_LinkAuditModel_allGaps_134 (by decide) ?_
            exact ih4 x1 (x2 + (1 : Int32)) M _ _ _ hf hP hS (lv_sub hl [1, 2, 0] rfl)
          · have hf := ifn c11 hf
            refine lv_aload_n hx hb d_LinkAuditModel_allGaps_46 rfl (lv_at hl 0 rfl) ?_
            refine lv_iload_n hx hb d_LinkAuditModel_allGaps_47 rfl (lv_at hl 2 rfl) ?_
            refine lv_aload_n hx hb d_LinkAuditModel_allGaps_48 rfl (lv_at hl 0 rfl) ?_
            refine xg_LinkAuditModel_34 hx hb hta hown hKv hP d_LinkAuditModel_allGaps_49 ?_
            refine lv_iload_n hx hb d_LinkAuditModel_allGaps_52 rfl (lv_at hl 3 rfl) ?_
            obtain ⟨g12, hf⟩ := gd_ok hf
            refine x_ild hx hb hKv hP r_c9 g12 d_LinkAuditModel_allGaps_53 ?_
            obtain ⟨r14, hc13, hf⟩ := bd1_e hf
            refine xvr_LinkAuditModel_139 X hkk hD (Nat.le_of_ble_eq_true rfl) ⟨by dsimp only [rmR]; omega, by dsimp only [rmR]; omega⟩ ⟨Nat.zero_le _, Nat.zero_le _⟩ hc13 hl.1 hP hS d_LinkAuditModel_allGaps_54 (fun H locs hP hS => ?_)
            refine lv_if_eq (tgt := 70) hx hb d_LinkAuditModel_allGaps_57 (by decide) (fun c14 => ?_) (fun c14 => ?_)
            · have hf := ifp c14 hf
              exact b70 M x1 x3 _ _ _ hf hP hS (lv_sub hl [0, 1, 2, 3] rfl)
            · have hf := ifn c14 hf
              refine lv_aload_n hx hb d_LinkAuditModel_allGaps_60 rfl (lv_at hl 0 rfl) ?_
              refine xg_LinkAuditModel_34 hx hb hta hown hKv hP d_LinkAuditModel_allGaps_61 ?_
              refine lv_iload_n hx hb d_LinkAuditModel_allGaps_64 rfl (lv_at hl 3 rfl) ?_
              obtain ⟨g15, hf⟩ := gd_ok hf
              refine x_ild hx hb hKv hP r_c9 g15 d_LinkAuditModel_allGaps_65 ?_
              refine lv_iload_n hx hb d_LinkAuditModel_allGaps_66 rfl (lv_at hl 2 rfl) ?_
              refine lv_icmp_ne (tgt := 84) hx hb d_LinkAuditModel_allGaps_67 (by decide) (fun c16 => ?_) (fun c16 => ?_)
              · have hf := ifn c16 hf
                exact b84 M x1 x3 _ _ _ hf hP hS (lv_sub hl [0, 1, 2, 3] rfl)
              · have hf := ifp c16 hf
                exact b70 M x1 x3 _ _ _ hf hP hS (lv_sub hl [0, 1, 2, 3] rfl)
      refine lv_iload_n hx hb d_LinkAuditModel_allGaps_4 rfl (lv_at hl 2 rfl) ?_
      refine lv_aload_n hx hb d_LinkAuditModel_allGaps_5 rfl (lv_at hl 0 rfl) ?_
      refine xg_LinkAuditModel_96 hx hb hta hown hKv hP d_LinkAuditModel_allGaps_6 ?_
      refine lv_icmp_gt (tgt := 137) hx hb d_LinkAuditModel_allGaps_9 (by decide) (fun c17 => ?_) (fun c17 => ?_)
      · have hf := ifp c17 hf
        rw [hke137] at hf
        refine lv_iload_n hx hb d_LinkAuditModel_allGaps_137 rfl (lv_at hl 1 rfl) ?_
        exact hret hf hP hS d_LinkAuditModel_allGaps_138
      · have hf := ifn c17 hf
        refine lv_aload_n hx hb d_LinkAuditModel_allGaps_12 rfl (lv_at hl 0 rfl) ?_
        refine xg_LinkAuditModel_56 hx hb hta hown hKv hP d_LinkAuditModel_allGaps_13 ?_
        refine lv_iload_n hx hb d_LinkAuditModel_allGaps_16 rfl (lv_at hl 2 rfl) ?_
        obtain ⟨g18, hf⟩ := gd_ok hf
        refine x_ild hx hb hKv hP r_c16 g18 d_LinkAuditModel_allGaps_17 ?_
        refine lv_if_ne (tgt := 131) hx hb d_LinkAuditModel_allGaps_18 (by decide) (fun c19 => ?_) (fun c19 => ?_)
        · have hf := ifn c19 hf
          refine lv_iinc (v := (x2 + (1 : Int32))) (lv' := [(2, .int (x2 + (1 : Int32))), (0, .ref (ad 0)), (1, .int x1)]) hx hb d_LinkAuditModel_allGaps_131 hl (k := 2) rfl rfl (by decide) rfl (fun ls hl => ?_)
          refine lv_goto (tgt := 4) hx hb d_LinkAuditModel_allGaps_134 (by decide) ?_
          exact ih4 x1 (x2 + (1 : Int32)) M _ _ _ hf hP hS (lv_sub hl [1, 2, 0] rfl)
        · have hf := ifp c19 hf
          refine lv_aload_n hx hb d_LinkAuditModel_allGaps_21 rfl (lv_at hl 0 rfl) ?_
          refine xg_LinkAuditModel_25 hx hb hta hown hKv hP d_LinkAuditModel_allGaps_22 ?_
          refine lv_iload_n hx hb d_LinkAuditModel_allGaps_25 rfl (lv_at hl 2 rfl) ?_
          obtain ⟨g20, hf⟩ := gd_ok hf
          refine x_ild hx hb hKv hP r_c6 g20 d_LinkAuditModel_allGaps_26 ?_
          refine lv_bipush (v := (12 : Int32)) hx hb d_LinkAuditModel_allGaps_27 (by decide) ?_
          refine lv_iand hx hb d_LinkAuditModel_allGaps_29 ?_
          refine lv_if_eq (tgt := 36) hx hb d_LinkAuditModel_allGaps_30 (by decide) (fun c21 => ?_) (fun c21 => ?_)
          · have hf := ifp c21 hf
            refine lv_iconst (v := (1 : Int32)) hx hb d_LinkAuditModel_allGaps_36 (by decide) ?_
            refine lv_istore_n (lv' := [(3, .int (1 : Int32)), (0, .ref (ad 0)), (1, .int x1), (2, .int x2)]) hx hb d_LinkAuditModel_allGaps_37 rfl hl (by decide) rfl (fun ls hl => ?_)
            exact L38 x2 _ rfl FU x1 (1 : Int32) M _ _ _ hf hP hS (lv_sub hl [1, 2, 3, 0] rfl)
          · have hf := ifn c21 hf
            refine lv_goto (tgt := 131) hx hb d_LinkAuditModel_allGaps_33 (by decide) ?_
            refine lv_iinc (v := (x2 + (1 : Int32))) (lv' := [(2, .int (x2 + (1 : Int32))), (0, .ref (ad 0)), (1, .int x1)]) hx hb d_LinkAuditModel_allGaps_131 hl (k := 2) rfl rfl (by decide) rfl (fun ls hl => ?_)
            refine lv_goto (tgt := 4) hx hb d_LinkAuditModel_allGaps_134 (by decide) ?_
            exact ih4 x1 (x2 + (1 : Int32)) M _ _ _ hf hP hS (lv_sub hl [1, 2, 0] rfl)
  unfold f_LinkAuditModel_allGaps at hf
  refine lv_iconst (v := (0 : Int32)) hx hb d_LinkAuditModel_allGaps_0 (by decide) ?_
  refine lv_istore_n (lv' := [(1, .int (0 : Int32)), (0, .ref (ad 0))]) hx hb d_LinkAuditModel_allGaps_1 rfl hl (by decide) rfl (fun ls hl => ?_)
  refine lv_iconst (v := (1 : Int32)) hx hb d_LinkAuditModel_allGaps_2 (by decide) ?_
  refine lv_istore_n (lv' := [(2, .int (1 : Int32)), (1, .int (0 : Int32)), (0, .ref (ad 0))]) hx hb d_LinkAuditModel_allGaps_3 rfl hl (by decide) rfl (fun ls hl => ?_)
  exact L4  _ rfl FU (0 : Int32) (1 : Int32) M _ _ _ hf hP hS (lv_sub hl [2, 1, 0] rfl)
-- LinkAuditModel.gaps
theorem xvr_LinkAuditModel_213 {p : Program} {l : Launch} {e : Env} {R : Room} {s : State} {m : MethodId} {args : Array Value} {below : List Frame} {meth : Method} {c : Code} {H : Heap} {locs : List Loc} {cells slots : Nat} {Q : State → Prop} {cc : ByteArray} {pc : Nat} {ls : Array Slot} {rest : List Value} {D : va_G} {cI cL cG cZ : ClassId} {ad : Nat → Nat} {M : Mem} {H0 : Heap} {M1 : Mem} {nL : Nat}  {r : Int32} (X : CallFix p m c cc nL s args ALLW "LinkAuditModel") (hkk : Kk D cI cL cG cZ s) (hD : ∀ M, va_D (r_A ad) (r_ws cI cL cG cZ ad M)) (hrest : (rest.map fun v => v.category).sum ≤ 8) (hR : 6 + 1 ≤ R.frames ∧ 8 + (5 + 11) + 147 ≤ R.locals) (hcs : cells + 0 ≤ R.cells ∧ slots + 0 ≤ R.slots) (hc : f_LinkAuditModel_allGaps M = some (r, M1)) (hsz : ls.size = nL) (hP : va_P D vwC (r_ws cI cL cG cZ ad M) H) (hS : va_S (r_A ad) H0 H locs) (hdg : decode cc pc = .ok (.invokevirtual 213, 3))
    (kk : ∀ (H1 : Heap) (locs1 : List Loc), va_P D vwC (r_ws cI cL cG cZ ad M1) H1 → va_S (r_A ad) H0 H1 locs1 → W p l e R s m args below meth c H1 locs1 cells slots Q (F0 m (pc + 3) ls (.int r :: rest))) : W p l e R s m args below meth c H locs cells slots Q (F0 m pc ls (.ref (ad 0) :: rest)) := by
  have hta := X.2.2.2.2
  exact x_afterI (va_runV (As := []) (rest := rest) X (c_LinkAuditModel_allGaps hD hc) ⟨callB_of 0 hta (good_all (L := .code y_LinkAuditModel_allGaps prog_12_method_37_code 5 (some .int) :: ALLW) (List.forall_mem_cons.mpr ⟨wm_962, fun _ h => h⟩)) rfl rfl rfl (hta _ wm_11) (hta _ wm_959) (by decide +kernel) hR, hta _ wm_961, hta _ wp_51⟩ ⟨x_blind Kk_w _, va_recv hkk.1 hP (ci := 10) (q0 := 0) rfl r_c0, x_pre Kk_w hkk hP _⟩ rfl rfl hsz rfl (lv_room hrest) hdg hcs) hS kk
set_option maxHeartbeats 4000000 in
set_option maxRecDepth 100000 in
theorem c_LinkAuditModel_gaps {l : Launch} {D : va_G} {cI cL cG cZ : ClassId} {ad : Nat → Nat} {M M' : Mem} {r : Int32} (hD : ∀ M, va_D (r_A ad) (r_ws cI cL cG cZ ad M)) (hf : f_LinkAuditModel_gaps M = some (r, M')) : Mi l y_LinkAuditModel_gaps (.code y_LinkAuditModel_gaps prog_12_method_47_code 1 (some .int) :: ALLW) (rmR 7 171) (Kk D cI cL cG cZ) D vwC (r_A ad) (r_ws cI cL cG cZ ad) [.ref (ad 0)] M M' r := by
  refine Mi_of (by decide) (Nat.le_of_ble_eq_true rfl) ?_
  intro p e s m args below meth c ls Q X hkk hret hP hl
  obtain ⟨hx, hb, hml, hown, hta⟩ := id X
  have hKv := hkk.1
  have hS : va_S (r_A ad) s.heap s.heap [] := va_S.rf
  have hl : lv_has ls 1 [(0, .ref (ad 0))] := hl
  unfold f_LinkAuditModel_gaps at hf
  refine lv_aload_n hx hb d_LinkAuditModel_gaps_0 rfl (lv_at hl 0 rfl) ?_
  obtain ⟨M4, hc1, hf⟩ := bd1_e hf
  refine xvr_LinkAuditModel_210 X hkk hD (Nat.le_of_ble_eq_true rfl) ⟨by dsimp only [rmR]; omega, by dsimp only [rmR]; omega⟩ ⟨Nat.zero_le _, Nat.zero_le _⟩ hc1 hl.1 hP hS d_LinkAuditModel_gaps_1 (fun H locs hP hS => ?_)
  refine lv_aload_n hx hb d_LinkAuditModel_gaps_4 rfl (lv_at hl 0 rfl) ?_
  obtain ⟨r6, M5, hc2, hf⟩ := bd2_e hf
  refine xvr_LinkAuditModel_213 X hkk hD (Nat.le_of_ble_eq_true rfl) ⟨by dsimp only [rmR]; omega, by dsimp only [rmR]; omega⟩ ⟨Nat.zero_le _, Nat.zero_le _⟩ hc2 hl.1 hP hS d_LinkAuditModel_gaps_5 (fun H locs hP hS => ?_)
  exact hret hf hP hS d_LinkAuditModel_gaps_8
-- LinkAuditModel.must
theorem xg_LinkAuditModel_80 {p : Program} {l : Launch} {e : Env} {R : Room} {s : State} {m : MethodId} {args : Array Value} {below : List Frame} {meth : Method} {c : Code} {H : Heap} {locs : List Loc} {cells slots : Nat} {Q : State → Prop} {cc : ByteArray} {pc : Nat} {ls : Array Slot} {rest : List Value} {D : va_G} {cI cL cG cZ : ClassId} {ad : Nat → Nat} {M : Mem} (hx : p.tables.exec = Jvm.exec) (hb : c.code = cc) (hta : ∀ w ∈ ALLW, w.before args s = true) (hown : s.vm.findClass "LinkAuditModel" = some m.cls) (hK : va_K D vwC [(cI, .int), (cL, .long), (cG, .array .int), (cZ, .boolean)] s) (hP : va_P D vwC (r_ws cI cL cG cZ ad M) H) (hdg : decode cc pc = .ok (.getfield 80, 3))
    (kk : W p l e R s m args below meth c H locs cells slots Q (F0 m (pc + 3) ls (.ref (ad 24) :: rest))) : W p l e R s m args below meth c H locs cells slots Q (F0 m pc ls (.ref (ad 0) :: rest)) :=
  va_get (D := D) (ci := 10) (v := .ref (ad 24)) (C := "LinkAuditModel") (T := T_LinkAuditModel) (N := 31) hx hb hta i_LinkAuditModel hown hK hP 0 r_c0 rfl 26 (by decide) (hta _ wm_727) (fun _ h9 => h9) rfl hdg kk
set_option maxHeartbeats 4000000 in
set_option maxRecDepth 100000 in
theorem c_LinkAuditModel_must {l : Launch} {D : va_G} {cI cL cG cZ : ClassId} {ad : Nat → Nat} {M M' : Mem} {a1 : Int32} {a2 : Int32} {a3 : Int32} (hD : ∀ M, va_D (r_A ad) (r_ws cI cL cG cZ ad M)) (hf : f_LinkAuditModel_must M a1 a2 a3 = some M') : Mv l y_LinkAuditModel_must (.code y_LinkAuditModel_must prog_12_method_38_code 4 none :: ALLW) (rmR 0 0) (Kk D cI cL cG cZ) D vwC (r_A ad) (r_ws cI cL cG cZ ad) [.ref (ad 0), .int a1, .int a2, .int a3] M M' := by
  refine Mv_of (by decide) (Nat.le_of_ble_eq_true rfl) ?_
  intro p e s m args below meth c ls Q X hkk hret hP hl
  obtain ⟨hx, hb, hml, hown, hta⟩ := id X
  have hKv := hkk.1
  have hS : va_S (r_A ad) s.heap s.heap [] := va_S.rf
  have hl : lv_has ls 4 [(0, .ref (ad 0)), (1, .int a1), (2, .int a2), (3, .int a3)] := hl
  unfold f_LinkAuditModel_must at hf
  refine lv_iload_n hx hb d_LinkAuditModel_must_0 rfl (lv_at hl 1 rfl) ?_
  refine lv_bipush (v := (12 : Int32)) hx hb d_LinkAuditModel_must_1 (by decide) ?_
  refine lv_icmp_ne (tgt := 7) hx hb d_LinkAuditModel_must_3 (by decide) (fun c1 => ?_) (fun c1 => ?_)
  · have hf := ifn c1 hf
    refine lv_aload_n hx hb d_LinkAuditModel_must_7 rfl (lv_at hl 0 rfl) ?_
    refine xg_LinkAuditModel_80 hx hb hta hown hKv hP d_LinkAuditModel_must_8 ?_
    refine lv_bipush (v := (25 : Int32)) hx hb d_LinkAuditModel_must_11 (by decide) ?_
    refine lv_iload_n hx hb d_LinkAuditModel_must_13 rfl (lv_at hl 1 rfl) ?_
    refine lv_imul hx hb d_LinkAuditModel_must_14 ?_
    refine lv_iconst (v := (5 : Int32)) hx hb d_LinkAuditModel_must_15 (by decide) ?_
    refine lv_iload_n hx hb d_LinkAuditModel_must_16 rfl (lv_at hl 2 rfl) ?_
    refine lv_imul hx hb d_LinkAuditModel_must_17 ?_
    refine lv_iadd hx hb d_LinkAuditModel_must_18 ?_
    refine lv_iload_n hx hb d_LinkAuditModel_must_19 rfl (lv_at hl 3 rfl) ?_
    refine lv_iadd hx hb d_LinkAuditModel_must_20 ?_
    refine lv_iconst (v := (1 : Int32)) hx hb d_LinkAuditModel_must_21 (by decide) ?_
    obtain ⟨g2, hf⟩ := gd_ok hf
    obtain ⟨M3, eM3, hf⟩ := sm_e hf
    refine x_zst hx hb hKv hP (hD _) hS r_c24 r_s24 g2 (Or.inr rfl) eM3 d_LinkAuditModel_must_22 (fun H locs hP hS => ?_)
    refine lv_aload_n hx hb d_LinkAuditModel_must_23 rfl (lv_at hl 0 rfl) ?_
    refine xg_LinkAuditModel_80 hx hb hta hown hKv hP d_LinkAuditModel_must_24 ?_
    refine lv_bipush (v := (25 : Int32)) hx hb d_LinkAuditModel_must_27 (by decide) ?_
    refine lv_iload_n hx hb d_LinkAuditModel_must_29 rfl (lv_at hl 1 rfl) ?_
    refine lv_imul hx hb d_LinkAuditModel_must_30 ?_
    refine lv_iconst (v := (5 : Int32)) hx hb d_LinkAuditModel_must_31 (by decide) ?_
    refine lv_iload_n hx hb d_LinkAuditModel_must_32 rfl (lv_at hl 3 rfl) ?_
    refine lv_imul hx hb d_LinkAuditModel_must_33 ?_
    refine lv_iadd hx hb d_LinkAuditModel_must_34 ?_
    refine lv_iload_n hx hb d_LinkAuditModel_must_35 rfl (lv_at hl 2 rfl) ?_
    refine lv_iadd hx hb d_LinkAuditModel_must_36 ?_
    refine lv_iconst (v := (1 : Int32)) hx hb d_LinkAuditModel_must_37 (by decide) ?_
    obtain ⟨g3, hf⟩ := gd_ok hf
    obtain ⟨M4, eM4, hf⟩ := sm_e hf
    refine x_zst hx hb hKv hP (hD _) hS r_c24 r_s24 g3 (Or.inr rfl) eM4 d_LinkAuditModel_must_38 (fun H locs hP hS => ?_)
    exact hret hf hP hS d_LinkAuditModel_must_39
  · have hf := ifp c1 hf
    exact hret hf hP hS d_LinkAuditModel_must_6
-- LinkAuditModel.mustBoth
theorem xvr_LinkAuditModel_191 {p : Program} {l : Launch} {e : Env} {R : Room} {s : State} {m : MethodId} {args : Array Value} {below : List Frame} {meth : Method} {c : Code} {H : Heap} {locs : List Loc} {cells slots : Nat} {Q : State → Prop} {cc : ByteArray} {pc : Nat} {ls : Array Slot} {rest : List Value} {D : va_G} {cI cL cG cZ : ClassId} {ad : Nat → Nat} {M : Mem} {H0 : Heap} {M1 : Mem} {nL : Nat} {a0 : Int32} {a1 : Int32} {a2 : Int32} (X : CallFix p m c cc nL s args ALLW "LinkAuditModel") (hkk : Kk D cI cL cG cZ s) (hD : ∀ M, va_D (r_A ad) (r_ws cI cL cG cZ ad M)) (hrest : (rest.map fun v => v.category).sum ≤ 8) (hR : 0 + 1 ≤ R.frames ∧ 8 + (4 + 11) + 0 ≤ R.locals) (hcs : cells + 0 ≤ R.cells ∧ slots + 0 ≤ R.slots) (hc : f_LinkAuditModel_must M a0 a1 a2 = some M1) (hsz : ls.size = nL) (hP : va_P D vwC (r_ws cI cL cG cZ ad M) H) (hS : va_S (r_A ad) H0 H locs) (hdg : decode cc pc = .ok (.invokevirtual 191, 3))
    (kk : ∀ (H1 : Heap) (locs1 : List Loc), va_P D vwC (r_ws cI cL cG cZ ad M1) H1 → va_S (r_A ad) H0 H1 locs1 → W p l e R s m args below meth c H1 locs1 cells slots Q (F0 m (pc + 3) ls (rest))) : W p l e R s m args below meth c H locs cells slots Q (F0 m pc ls (.int a2 :: .int a1 :: .int a0 :: .ref (ad 0) :: rest)) := by
  have hta := X.2.2.2.2
  exact x_afterV (va_runV (As := [.int a0, .int a1, .int a2]) (rest := rest) X (c_LinkAuditModel_must hD hc) ⟨callB_of 3 hta (good_all (L := .code y_LinkAuditModel_must prog_12_method_38_code 4 none :: ALLW) (List.forall_mem_cons.mpr ⟨wm_982, fun _ h => h⟩)) rfl rfl rfl (hta _ wm_11) (hta _ wm_979) (by decide +kernel) hR, hta _ wm_981, hta _ wp_55⟩ ⟨x_blind Kk_w _, va_recv hkk.1 hP (ci := 10) (q0 := 0) rfl r_c0, x_pre Kk_w hkk hP _⟩ rfl rfl hsz rfl (lv_room hrest) hdg hcs) hS kk
set_option maxHeartbeats 4000000 in
set_option maxRecDepth 100000 in
theorem c_LinkAuditModel_mustBoth {l : Launch} {D : va_G} {cI cL cG cZ : ClassId} {ad : Nat → Nat} {M M' : Mem} {a1 : Int32} {a2 : Int32} {a3 : Int32} (hD : ∀ M, va_D (r_A ad) (r_ws cI cL cG cZ ad M)) (hf : f_LinkAuditModel_mustBoth M a1 a2 a3 = some M') : Mv l y_LinkAuditModel_mustBoth (.code y_LinkAuditModel_mustBoth prog_12_method_39_code 4 none :: ALLW) (rmR 1 23) (Kk D cI cL cG cZ) D vwC (r_A ad) (r_ws cI cL cG cZ ad) [.ref (ad 0), .int a1, .int a2, .int a3] M M' := by
  refine Mv_of (by decide) (Nat.le_of_ble_eq_true rfl) ?_
  intro p e s m args below meth c ls Q X hkk hret hP hl
  obtain ⟨hx, hb, hml, hown, hta⟩ := id X
  have hKv := hkk.1
  have hS : va_S (r_A ad) s.heap s.heap [] := va_S.rf
  have hl : lv_has ls 4 [(0, .ref (ad 0)), (1, .int a1), (2, .int a2), (3, .int a3)] := hl
  unfold f_LinkAuditModel_mustBoth at hf
  refine lv_aload_n hx hb d_LinkAuditModel_mustBoth_0 rfl (lv_at hl 0 rfl) ?_
  refine lv_aload_n hx hb d_LinkAuditModel_mustBoth_1 rfl (lv_at hl 0 rfl) ?_
  refine xg_LinkAuditModel_44 hx hb hta hown hKv hP d_LinkAuditModel_mustBoth_2 ?_
  refine lv_iload_n hx hb d_LinkAuditModel_mustBoth_5 rfl (lv_at hl 1 rfl) ?_
  obtain ⟨g1, hf⟩ := gd_ok hf
  refine x_ild hx hb hKv hP r_c12 g1 d_LinkAuditModel_mustBoth_6 ?_
  refine lv_iload_n hx hb d_LinkAuditModel_mustBoth_7 rfl (lv_at hl 2 rfl) ?_
  refine lv_iload_n hx hb d_LinkAuditModel_mustBoth_8 rfl (lv_at hl 3 rfl) ?_
  obtain ⟨M3, hc2, hf⟩ := bd1_e hf
  refine xvr_LinkAuditModel_191 X hkk hD (Nat.le_of_ble_eq_true rfl) ⟨by dsimp only [rmR]; omega, by dsimp only [rmR]; omega⟩ ⟨Nat.zero_le _, Nat.zero_le _⟩ hc2 hl.1 hP hS d_LinkAuditModel_mustBoth_9 (fun H locs hP hS => ?_)
  refine lv_aload_n hx hb d_LinkAuditModel_mustBoth_12 rfl (lv_at hl 0 rfl) ?_
  refine lv_aload_n hx hb d_LinkAuditModel_mustBoth_13 rfl (lv_at hl 0 rfl) ?_
  refine xg_LinkAuditModel_47 hx hb hta hown hKv hP d_LinkAuditModel_mustBoth_14 ?_
  refine lv_iload_n hx hb d_LinkAuditModel_mustBoth_17 rfl (lv_at hl 1 rfl) ?_
  obtain ⟨g3, hf⟩ := gd_ok hf
  refine x_ild hx hb hKv hP r_c13 g3 d_LinkAuditModel_mustBoth_18 ?_
  refine lv_iload_n hx hb d_LinkAuditModel_mustBoth_19 rfl (lv_at hl 2 rfl) ?_
  refine lv_iload_n hx hb d_LinkAuditModel_mustBoth_20 rfl (lv_at hl 3 rfl) ?_
  obtain ⟨M4, hc4, hf⟩ := bd1_e hf
  refine xvr_LinkAuditModel_191 X hkk hD (Nat.le_of_ble_eq_true rfl) ⟨by dsimp only [rmR]; omega, by dsimp only [rmR]; omega⟩ ⟨Nat.zero_le _, Nat.zero_le _⟩ hc4 hl.1 hP hS d_LinkAuditModel_mustBoth_21 (fun H locs hP hS => ?_)
  exact hret hf hP hS d_LinkAuditModel_mustBoth_24
-- LinkAuditModel.constrain
theorem xvr_LinkAuditModel_198 {p : Program} {l : Launch} {e : Env} {R : Room} {s : State} {m : MethodId} {args : Array Value} {below : List Frame} {meth : Method} {c : Code} {H : Heap} {locs : List Loc} {cells slots : Nat} {Q : State → Prop} {cc : ByteArray} {pc : Nat} {ls : Array Slot} {rest : List Value} {D : va_G} {cI cL cG cZ : ClassId} {ad : Nat → Nat} {M : Mem} {H0 : Heap} {M1 : Mem} {nL : Nat} {a0 : Int32} {a1 : Int32} {a2 : Int32} (X : CallFix p m c cc nL s args ALLW "LinkAuditModel") (hkk : Kk D cI cL cG cZ s) (hD : ∀ M, va_D (r_A ad) (r_ws cI cL cG cZ ad M)) (hrest : (rest.map fun v => v.category).sum ≤ 8) (hR : 1 + 1 ≤ R.frames ∧ 8 + (4 + 11) + 23 ≤ R.locals) (hcs : cells + 0 ≤ R.cells ∧ slots + 0 ≤ R.slots) (hc : f_LinkAuditModel_mustBoth M a0 a1 a2 = some M1) (hsz : ls.size = nL) (hP : va_P D vwC (r_ws cI cL cG cZ ad M) H) (hS : va_S (r_A ad) H0 H locs) (hdg : decode cc pc = .ok (.invokevirtual 198, 3))
    (kk : ∀ (H1 : Heap) (locs1 : List Loc), va_P D vwC (r_ws cI cL cG cZ ad M1) H1 → va_S (r_A ad) H0 H1 locs1 → W p l e R s m args below meth c H1 locs1 cells slots Q (F0 m (pc + 3) ls (rest))) : W p l e R s m args below meth c H locs cells slots Q (F0 m pc ls (.int a2 :: .int a1 :: .int a0 :: .ref (ad 0) :: rest)) := by
  have hta := X.2.2.2.2
  exact x_afterV (va_runV (As := [.int a0, .int a1, .int a2]) (rest := rest) X (c_LinkAuditModel_mustBoth hD hc) ⟨callB_of 3 hta (good_all (L := .code y_LinkAuditModel_mustBoth prog_12_method_39_code 4 none :: ALLW) (List.forall_mem_cons.mpr ⟨wm_978, fun _ h => h⟩)) rfl rfl rfl (hta _ wm_11) (hta _ wm_975) (by decide +kernel) hR, hta _ wm_977, hta _ wp_54⟩ ⟨x_blind Kk_w _, va_recv hkk.1 hP (ci := 10) (q0 := 0) rfl r_c0, x_pre Kk_w hkk hP _⟩ rfl rfl hsz rfl (lv_room hrest) hdg hcs) hS kk
set_option maxHeartbeats 4000000 in
set_option maxRecDepth 100000 in
theorem c_LinkAuditModel_constrain {l : Launch} {D : va_G} {cI cL cG cZ : ClassId} {ad : Nat → Nat} {M M' : Mem}  (hD : ∀ M, va_D (r_A ad) (r_ws cI cL cG cZ ad M)) (hf : f_LinkAuditModel_constrain M = some M') : Mv l y_LinkAuditModel_constrain (.code y_LinkAuditModel_constrain prog_12_method_40_code 7 none :: ALLW) (rmR 6 155) (Kk D cI cL cG cZ) D vwC (r_A ad) (r_ws cI cL cG cZ ad) [.ref (ad 0)] M M' := by
  refine Mv_of (by decide) (Nat.le_of_ble_eq_true rfl) ?_
  intro p e s m args below meth c ls Q X hkk hret hP hl
  obtain ⟨hx, hb, hml, hown, hta⟩ := id X
  have hKv := hkk.1
  have hS : va_S (r_A ad) s.heap s.heap [] := va_S.rf
  have hl : lv_has ls 7 [(0, .ref (ad 0))] := hl
  have L227 : ∀ (ke330 : Mem → Option Mem), ke330 = (fun M14 => some M14) → ∀ (n227 : Nat) (x1 : Int32) (M : Mem) (H : Heap) (locs : List Loc) (ls : Array Slot), f_LinkAuditModel_constrain_L227 ke330 n227 x1 M = some M' → va_P D vwC (r_ws cI cL cG cZ ad M) H → va_S (r_A ad) s.heap H locs → lv_has ls 7 [(0, .ref (ad 0)), (1, .int x1)] → W p l e (rmR 6 155) s m args below meth c H locs 0 0 Q (F0 m 227 ls []) := by
    intro ke330 hke330 n227
    induction n227 with
    | zero => intro x1 M H locs ls hf; exact absurd (show (none : Option _) = some _ from hf) (fun q => by cases q)
    | succ n227 ih227 =>
      intro x1 M H locs ls hf hP hS hl
      rw [f_LinkAuditModel_constrain_L227] at hf
      have L234 : ∀ (x1 : Int32), ∀ (ke324 : Mem → Option Mem), ke324 = (fun M15 => f_LinkAuditModel_constrain_L227 ke330 n227 (x1 + (1 : Int32)) M15) → ∀ (n234 : Nat) (x2 : Int32) (M : Mem) (H : Heap) (locs : List Loc) (ls : Array Slot), f_LinkAuditModel_constrain_L234 x1 ke324 n234 x2 M = some M' → va_P D vwC (r_ws cI cL cG cZ ad M) H → va_S (r_A ad) s.heap H locs → lv_has ls 7 [(0, .ref (ad 0)), (1, .int x1), (2, .int x2)] → W p l e (rmR 6 155) s m args below meth c H locs 0 0 Q (F0 m 234 ls []) := by
        intro x1 ke324 hke324 n234
        induction n234 with
        | zero => intro x2 M H locs ls hf; exact absurd (show (none : Option _) = some _ from hf) (fun q => by cases q)
        | succ n234 ih234 =>
          intro x2 M H locs ls hf hP hS hl
          rw [f_LinkAuditModel_constrain_L234] at hf
          refine lv_iload_n hx hb d_LinkAuditModel_constrain_234 rfl (lv_at hl 2 rfl) ?_
          refine lv_sipush (v := (1500 : Int32)) hx hb d_LinkAuditModel_constrain_235 (by decide) ?_
          refine lv_icmp_ge (tgt := 324) hx hb d_LinkAuditModel_constrain_238 (by decide) (fun c1 => ?_) (fun c1 => ?_)
          · have hf := ifp c1 hf
            rw [hke324] at hf
            refine lv_iinc (v := (x1 + (1 : Int32))) (lv' := [(1, .int (x1 + (1 : Int32))), (0, .ref (ad 0)), (2, .int x2)]) hx hb d_LinkAuditModel_constrain_324 hl (k := 1) rfl rfl (by decide) rfl (fun ls hl => ?_)
            refine lv_goto (tgt := 227) hx hb d_LinkAuditModel_constrain_327 (by decide) ?_
            exact ih227 (x1 + (1 : Int32)) M _ _ _ hf hP hS (lv_sub hl [1, 0] rfl)
          · have hf := ifn c1 hf
            refine lv_iload_n hx hb d_LinkAuditModel_constrain_241 rfl (lv_at hl 2 rfl) ?_
            refine lv_bipush (v := (125 : Int32)) hx hb d_LinkAuditModel_constrain_242 (by decide) ?_
            refine lv_idiv hx hb d_LinkAuditModel_constrain_244 (by decide) ?_
            refine lv_bipush (v := (25 : Int32)) hx hb d_LinkAuditModel_constrain_245 (by decide) ?_
            refine lv_imul hx hb d_LinkAuditModel_constrain_247 ?_
            refine lv_istore_n (lv' := [(3, .int ((x2 / (125 : Int32)) * (25 : Int32))), (0, .ref (ad 0)), (1, .int x1), (2, .int x2)]) hx hb d_LinkAuditModel_constrain_248 rfl hl (by decide) rfl (fun ls hl => ?_)
            refine lv_iload_n hx hb d_LinkAuditModel_constrain_249 rfl (lv_at hl 3 rfl) ?_
            refine lv_bipush (v := (25 : Int32)) hx hb d_LinkAuditModel_constrain_250 (by decide) ?_
            refine lv_idiv hx hb d_LinkAuditModel_constrain_252 (by decide) ?_
            refine lv_iconst (v := (5 : Int32)) hx hb d_LinkAuditModel_constrain_253 (by decide) ?_
            refine lv_irem hx hb d_LinkAuditModel_constrain_254 (by decide) ?_
            refine lv_istore (lv' := [(4, .int ((x2 / (25 : Int32)) - (x2 / (25 : Int32)) / (5 : Int32) * (5 : Int32))), (3, .int ((x2 / (125 : Int32)) * (25 : Int32))), (0, .ref (ad 0)), (1, .int x1), (2, .int x2)]) hx hb d_LinkAuditModel_constrain_255 hl (by decide) rfl (fun ls hl => ?_)
            refine lv_iload_n hx hb d_LinkAuditModel_constrain_257 rfl (lv_at hl 4 rfl) ?_
            refine lv_iconst (v := (5 : Int32)) hx hb d_LinkAuditModel_constrain_258 (by decide) ?_
            refine lv_idiv hx hb d_LinkAuditModel_constrain_259 (by decide) ?_
            refine lv_iconst (v := (5 : Int32)) hx hb d_LinkAuditModel_constrain_260 (by decide) ?_
            refine lv_irem hx hb d_LinkAuditModel_constrain_261 (by decide) ?_
            refine lv_istore (lv' := [(5, .int ((x2 / (5 : Int32)) - (x2 / (5 : Int32)) / (5 : Int32) * (5 : Int32))), (4, .int ((x2 / (25 : Int32)) - (x2 / (25 : Int32)) / (5 : Int32) * (5 : Int32))), (3, .int ((x2 / (125 : Int32)) * (25 : Int32))), (0, .ref (ad 0)), (1, .int x1), (2, .int x2)]) hx hb d_LinkAuditModel_constrain_262 hl (by decide) rfl (fun ls hl => ?_)
            refine lv_iload_n hx hb d_LinkAuditModel_constrain_264 rfl (lv_at hl 5 rfl) ?_
            refine lv_iconst (v := (5 : Int32)) hx hb d_LinkAuditModel_constrain_265 (by decide) ?_
            refine lv_irem hx hb d_LinkAuditModel_constrain_266 (by decide) ?_
            refine lv_istore (lv' := [(6, .int (x2 - x2 / (5 : Int32) * (5 : Int32))), (5, .int ((x2 / (5 : Int32)) - (x2 / (5 : Int32)) / (5 : Int32) * (5 : Int32))), (4, .int ((x2 / (25 : Int32)) - (x2 / (25 : Int32)) / (5 : Int32) * (5 : Int32))), (3, .int ((x2 / (125 : Int32)) * (25 : Int32))), (0, .ref (ad 0)), (1, .int x1), (2, .int x2)]) hx hb d_LinkAuditModel_constrain_267 hl (by decide) rfl (fun ls hl => ?_)
            refine lv_aload_n hx hb d_LinkAuditModel_constrain_269 rfl (lv_at hl 4 rfl) ?_
            refine xg_LinkAuditModel_80 hx hb hta hown hKv hP d_LinkAuditModel_constrain_270 ?_
            refine lv_iload_n hx hb d_LinkAuditModel_constrain_273 rfl (lv_at hl 3 rfl) ?_
            refine lv_iconst (v := (5 : Int32)) hx hb d_LinkAuditModel_constrain_274 (by decide) ?_
            refine lv_iload hx hb d_LinkAuditModel_constrain_275 (lv_at hl 2 rfl) ?_
            refine lv_imul hx hb d_LinkAuditModel_constrain_277 ?_
            refine lv_iadd hx hb d_LinkAuditModel_constrain_278 ?_
            refine lv_iload hx hb d_LinkAuditModel_constrain_279 (lv_at hl 1 rfl) ?_
            refine lv_iadd hx hb d_LinkAuditModel_constrain_281 ?_
            obtain ⟨g2, hf⟩ := gd_ok hf
            refine x_zld hx hb hKv hP r_c24 g2 d_LinkAuditModel_constrain_282 ?_
            refine lv_if_eq (tgt := 318) hx hb d_LinkAuditModel_constrain_283 (by decide) (fun c3 => ?_) (fun c3 => ?_)
            · have hf := ifp c3 hf
              refine lv_iinc (v := (x2 + (1 : Int32))) (lv' := [(2, .int (x2 + (1 : Int32))), (6, .int (x2 - x2 / (5 : Int32) * (5 : Int32))), (5, .int ((x2 / (5 : Int32)) - (x2 / (5 : Int32)) / (5 : Int32) * (5 : Int32))), (4, .int ((x2 / (25 : Int32)) - (x2 / (25 : Int32)) / (5 : Int32) * (5 : Int32))), (3, .int ((x2 / (125 : Int32)) * (25 : Int32))), (0, .ref (ad 0)), (1, .int x1)]) hx hb d_LinkAuditModel_constrain_318 hl (k := 6) rfl rfl (by decide) rfl (fun ls hl => ?_)
              refine lv_goto (tgt := 234) hx hb d_LinkAuditModel_constrain_321 (by decide) ?_
              exact ih234 (x2 + (1 : Int32)) M _ _ _ hf hP hS (lv_sub hl [5, 6, 0] rfl)
            · have hf := ifn c3 hf
              refine lv_aload_n hx hb d_LinkAuditModel_constrain_286 rfl (lv_at hl 4 rfl) ?_
              refine xg_LinkAuditModel_80 hx hb hta hown hKv hP d_LinkAuditModel_constrain_287 ?_
              refine lv_iload_n hx hb d_LinkAuditModel_constrain_290 rfl (lv_at hl 3 rfl) ?_
              refine lv_iconst (v := (5 : Int32)) hx hb d_LinkAuditModel_constrain_291 (by decide) ?_
              refine lv_iload hx hb d_LinkAuditModel_constrain_292 (lv_at hl 1 rfl) ?_
              refine lv_imul hx hb d_LinkAuditModel_constrain_294 ?_
              refine lv_iadd hx hb d_LinkAuditModel_constrain_295 ?_
              refine lv_iload hx hb d_LinkAuditModel_constrain_296 (lv_at hl 0 rfl) ?_
              refine lv_iadd hx hb d_LinkAuditModel_constrain_298 ?_
              obtain ⟨g4, hf⟩ := gd_ok hf
              refine x_zld hx hb hKv hP r_c24 g4 d_LinkAuditModel_constrain_299 ?_
              refine lv_if_eq (tgt := 318) hx hb d_LinkAuditModel_constrain_300 (by decide) (fun c5 => ?_) (fun c5 => ?_)
              · have hf := ifp c5 hf
                refine lv_iinc (v := (x2 + (1 : Int32))) (lv' := [(2, .int (x2 + (1 : Int32))), (6, .int (x2 - x2 / (5 : Int32) * (5 : Int32))), (5, .int ((x2 / (5 : Int32)) - (x2 / (5 : Int32)) / (5 : Int32) * (5 : Int32))), (4, .int ((x2 / (25 : Int32)) - (x2 / (25 : Int32)) / (5 : Int32) * (5 : Int32))), (3, .int ((x2 / (125 : Int32)) * (25 : Int32))), (0, .ref (ad 0)), (1, .int x1)]) hx hb d_LinkAuditModel_constrain_318 hl (k := 6) rfl rfl (by decide) rfl (fun ls hl => ?_)
                refine lv_goto (tgt := 234) hx hb d_LinkAuditModel_constrain_321 (by decide) ?_
                exact ih234 (x2 + (1 : Int32)) M _ _ _ hf hP hS (lv_sub hl [5, 6, 0] rfl)
              · have hf := ifn c5 hf
                refine lv_aload_n hx hb d_LinkAuditModel_constrain_303 rfl (lv_at hl 4 rfl) ?_
                refine xg_LinkAuditModel_80 hx hb hta hown hKv hP d_LinkAuditModel_constrain_304 ?_
                refine lv_iload_n hx hb d_LinkAuditModel_constrain_307 rfl (lv_at hl 3 rfl) ?_
                refine lv_iconst (v := (5 : Int32)) hx hb d_LinkAuditModel_constrain_308 (by decide) ?_
                refine lv_iload hx hb d_LinkAuditModel_constrain_309 (lv_at hl 2 rfl) ?_
                refine lv_imul hx hb d_LinkAuditModel_constrain_311 ?_
                refine lv_iadd hx hb d_LinkAuditModel_constrain_312 ?_
                refine lv_iload hx hb d_LinkAuditModel_constrain_313 (lv_at hl 0 rfl) ?_
                refine lv_iadd hx hb d_LinkAuditModel_constrain_315 ?_
                refine lv_iconst (v := (1 : Int32)) hx hb d_LinkAuditModel_constrain_316 (by decide) ?_
                obtain ⟨g6, hf⟩ := gd_ok hf
                obtain ⟨M16, eM16, hf⟩ := sm_e hf
                refine x_zst hx hb hKv hP (hD _) hS r_c24 r_s24 g6 (Or.inr rfl) eM16 d_LinkAuditModel_constrain_317 (fun H locs hP hS => ?_)
                refine lv_iinc (v := (x2 + (1 : Int32))) (lv' := [(2, .int (x2 + (1 : Int32))), (6, .int (x2 - x2 / (5 : Int32) * (5 : Int32))), (5, .int ((x2 / (5 : Int32)) - (x2 / (5 : Int32)) / (5 : Int32) * (5 : Int32))), (4, .int ((x2 / (25 : Int32)) - (x2 / (25 : Int32)) / (5 : Int32) * (5 : Int32))), (3, .int ((x2 / (125 : Int32)) * (25 : Int32))), (0, .ref (ad 0)), (1, .int x1)]) hx hb d_LinkAuditModel_constrain_318 hl (k := 6) rfl rfl (by decide) rfl (fun ls hl => ?_)
                refine lv_goto (tgt := 234) hx hb d_LinkAuditModel_constrain_321 (by decide) ?_
                exact ih234 (x2 + (1 : Int32)) M16 _ _ _ hf hP hS (lv_sub hl [5, 6, 0] rfl)
      refine lv_iload_n hx hb d_LinkAuditModel_constrain_227 rfl (lv_at hl 1 rfl) ?_
      refine lv_iconst (v := (5 : Int32)) hx hb d_LinkAuditModel_constrain_228 (by decide) ?_
      refine lv_icmp_ge (tgt := 330) hx hb d_LinkAuditModel_constrain_229 (by decide) (fun c7 => ?_) (fun c7 => ?_)
      · have hf := ifp c7 hf
        rw [hke330] at hf
        exact hret hf hP hS d_LinkAuditModel_constrain_330
      · have hf := ifn c7 hf
        refine lv_iconst (v := (0 : Int32)) hx hb d_LinkAuditModel_constrain_232 (by decide) ?_
        refine lv_istore_n (lv' := [(2, .int (0 : Int32)), (0, .ref (ad 0)), (1, .int x1)]) hx hb d_LinkAuditModel_constrain_233 rfl hl (by decide) rfl (fun ls hl => ?_)
        exact L234 x1 _ rfl FU (0 : Int32) M _ _ _ hf hP hS (lv_sub hl [1, 2, 0] rfl)
  have L108 : ∀ (ke225 : Mem → Option Mem), ke225 = (fun M17 => f_LinkAuditModel_constrain_L227 (fun M18 => some M18) FU (0 : Int32) M17) → ∀ (n108 : Nat) (x1 : Int32) (M : Mem) (H : Heap) (locs : List Loc) (ls : Array Slot), f_LinkAuditModel_constrain_L108 ke225 n108 x1 M = some M' → va_P D vwC (r_ws cI cL cG cZ ad M) H → va_S (r_A ad) s.heap H locs → lv_has ls 7 [(0, .ref (ad 0)), (1, .int x1)] → W p l e (rmR 6 155) s m args below meth c H locs 0 0 Q (F0 m 108 ls []) := by
    intro ke225 hke225 n108
    induction n108 with
    | zero => intro x1 M H locs ls hf; exact absurd (show (none : Option _) = some _ from hf) (fun q => by cases q)
    | succ n108 ih108 =>
      intro x1 M H locs ls hf hP hS hl
      rw [f_LinkAuditModel_constrain_L108] at hf
      have b176 : ∀ (M : Mem) (x1 : Int32) (x2 : Int32) (x3 : Int32) (t0 : Int32) (H : Heap) (locs : List Loc) (ls : Array Slot), f_LinkAuditModel_constrain_b176 M x1 x2 x3 t0 (f_LinkAuditModel_constrain_L108 ke225 n108) ke225 = some M' → va_P D vwC (r_ws cI cL cG cZ ad M) H → va_S (r_A ad) s.heap H locs → lv_has ls 7 [(0, .ref (ad 0)), (1, .int x1), (2, .int x2), (3, .int x3)] → W p l e (rmR 6 155) s m args below meth c H locs 0 0 Q (F0 m 176 ls [.int t0]) := by
        intro M x1 x2 x3 t0 H locs ls hf hP hS hl
        unfold f_LinkAuditModel_constrain_b176 at hf
        refine lv_istore (lv' := [(4, .int t0), (0, .ref (ad 0)), (1, .int x1), (2, .int x2), (3, .int x3)]) hx hb d_LinkAuditModel_constrain_176 hl (by decide) rfl (fun ls hl => ?_)
        refine lv_iload hx hb d_LinkAuditModel_constrain_178 (lv_at hl 0 rfl) ?_
        refine lv_if_eq (tgt := 219) hx hb d_LinkAuditModel_constrain_180 (by decide) (fun c8 => ?_) (fun c8 => ?_)
        · have hf := ifp c8 hf
          refine lv_iinc (v := (x1 + (1 : Int32))) (lv' := [(1, .int (x1 + (1 : Int32))), (4, .int t0), (0, .ref (ad 0)), (2, .int x2), (3, .int x3)]) hx hb d_LinkAuditModel_constrain_219 hl (k := 2) rfl rfl (by decide) rfl (fun ls hl => ?_)
          refine lv_goto (tgt := 108) hx hb d_LinkAuditModel_constrain_222 (by decide) ?_
          exact ih108 (x1 + (1 : Int32)) M _ _ _ hf hP hS (lv_sub hl [2, 0] rfl)
        · have hf := ifn c8 hf
          refine lv_aload_n hx hb d_LinkAuditModel_constrain_183 rfl (lv_at hl 1 rfl) ?_
          refine lv_iload_n hx hb d_LinkAuditModel_constrain_184 rfl (lv_at hl 3 rfl) ?_
          refine lv_iload_n hx hb d_LinkAuditModel_constrain_185 rfl (lv_at hl 4 rfl) ?_
          obtain ⟨r20, M19, hc9, hf⟩ := bd2_e hf
          refine xvr_LinkAuditModel_201 X hkk hD (Nat.le_of_ble_eq_true rfl) ⟨by dsimp only [rmR]; omega, by dsimp only [rmR]; omega⟩ ⟨Nat.zero_le _, Nat.zero_le _⟩ hc9 hl.1 hP hS d_LinkAuditModel_constrain_186 (fun H locs hP hS => ?_)
          refine lv_if_eq (tgt := 219) hx hb d_LinkAuditModel_constrain_189 (by decide) (fun c10 => ?_) (fun c10 => ?_)
          · have hf := ifp c10 hf
            refine lv_iinc (v := (x1 + (1 : Int32))) (lv' := [(1, .int (x1 + (1 : Int32))), (4, .int t0), (0, .ref (ad 0)), (2, .int x2), (3, .int x3)]) hx hb d_LinkAuditModel_constrain_219 hl (k := 2) rfl rfl (by decide) rfl (fun ls hl => ?_)
            refine lv_goto (tgt := 108) hx hb d_LinkAuditModel_constrain_222 (by decide) ?_
            exact ih108 (x1 + (1 : Int32)) M19 _ _ _ hf hP hS (lv_sub hl [2, 0] rfl)
          · have hf := ifn c10 hf
            refine lv_aload_n hx hb d_LinkAuditModel_constrain_192 rfl (lv_at hl 1 rfl) ?_
            refine lv_iload_n hx hb d_LinkAuditModel_constrain_193 rfl (lv_at hl 4 rfl) ?_
            refine lv_aload_n hx hb d_LinkAuditModel_constrain_194 rfl (lv_at hl 1 rfl) ?_
            refine xg_LinkAuditModel_19 hx hb hta hown hKv hP d_LinkAuditModel_constrain_195 ?_
            refine lv_aload_n hx hb d_LinkAuditModel_constrain_198 rfl (lv_at hl 1 rfl) ?_
            refine xg_LinkAuditModel_34 hx hb hta hown hKv hP d_LinkAuditModel_constrain_199 ?_
            refine lv_iload_n hx hb d_LinkAuditModel_constrain_202 rfl (lv_at hl 3 rfl) ?_
            obtain ⟨g11, hf⟩ := gd_ok hf
            refine x_ild hx hb hKv hP r_c9 g11 d_LinkAuditModel_constrain_203 ?_
            obtain ⟨g12, hf⟩ := gd_ok hf
            refine x_ild hx hb hKv hP r_c4 g12 d_LinkAuditModel_constrain_204 ?_
            refine lv_aload_n hx hb d_LinkAuditModel_constrain_205 rfl (lv_at hl 1 rfl) ?_
            refine xg_LinkAuditModel_19 hx hb hta hown hKv hP d_LinkAuditModel_constrain_206 ?_
            refine lv_aload_n hx hb d_LinkAuditModel_constrain_209 rfl (lv_at hl 1 rfl) ?_
            refine xg_LinkAuditModel_34 hx hb hta hown hKv hP d_LinkAuditModel_constrain_210 ?_
            refine lv_iload_n hx hb d_LinkAuditModel_constrain_213 rfl (lv_at hl 4 rfl) ?_
            obtain ⟨g13, hf⟩ := gd_ok hf
            refine x_ild hx hb hKv hP r_c9 g13 d_LinkAuditModel_constrain_214 ?_
            obtain ⟨g14, hf⟩ := gd_ok hf
            refine x_ild hx hb hKv hP r_c4 g14 d_LinkAuditModel_constrain_215 ?_
            obtain ⟨M21, hc15, hf⟩ := bd1_e hf
            refine xvr_LinkAuditModel_198 X hkk hD (Nat.le_of_ble_eq_true rfl) ⟨by dsimp only [rmR]; omega, by dsimp only [rmR]; omega⟩ ⟨Nat.zero_le _, Nat.zero_le _⟩ hc15 hl.1 hP hS d_LinkAuditModel_constrain_216 (fun H locs hP hS => ?_)
            refine lv_iinc (v := (x1 + (1 : Int32))) (lv' := [(1, .int (x1 + (1 : Int32))), (4, .int t0), (0, .ref (ad 0)), (2, .int x2), (3, .int x3)]) hx hb d_LinkAuditModel_constrain_219 hl (k := 2) rfl rfl (by decide) rfl (fun ls hl => ?_)
            refine lv_goto (tgt := 108) hx hb d_LinkAuditModel_constrain_222 (by decide) ?_
            exact ih108 (x1 + (1 : Int32)) M21 _ _ _ hf hP hS (lv_sub hl [2, 0] rfl)
      have b175 : ∀ (M : Mem) (x1 : Int32) (x2 : Int32) (x3 : Int32) (H : Heap) (locs : List Loc) (ls : Array Slot), f_LinkAuditModel_constrain_b175 M x1 x2 x3 (f_LinkAuditModel_constrain_L108 ke225 n108) ke225 = some M' → va_P D vwC (r_ws cI cL cG cZ ad M) H → va_S (r_A ad) s.heap H locs → lv_has ls 7 [(0, .ref (ad 0)), (1, .int x1), (2, .int x2), (3, .int x3)] → W p l e (rmR 6 155) s m args below meth c H locs 0 0 Q (F0 m 175 ls []) := by
        intro M x1 x2 x3 H locs ls hf hP hS hl
        unfold f_LinkAuditModel_constrain_b175 at hf
        refine lv_iconst (v := (0 : Int32)) hx hb d_LinkAuditModel_constrain_175 (by decide) ?_
        exact b176 M x1 x2 x3 (0 : Int32) _ _ _ hf hP hS (lv_sub hl [0, 1, 2, 3] rfl)
      refine lv_iload_n hx hb d_LinkAuditModel_constrain_108 rfl (lv_at hl 1 rfl) ?_
      refine lv_aload_n hx hb d_LinkAuditModel_constrain_109 rfl (lv_at hl 0 rfl) ?_
      refine xg_LinkAuditModel_104 hx hb hta hown hKv hP d_LinkAuditModel_constrain_110 ?_
      refine lv_aload_n hx hb d_LinkAuditModel_constrain_113 rfl (lv_at hl 0 rfl) ?_
      refine xg_LinkAuditModel_104 hx hb hta hown hKv hP d_LinkAuditModel_constrain_114 ?_
      refine lv_imul hx hb d_LinkAuditModel_constrain_117 ?_
      refine lv_icmp_ge (tgt := 225) hx hb d_LinkAuditModel_constrain_118 (by decide) (fun c16 => ?_) (fun c16 => ?_)
      · have hf := ifp c16 hf
        rw [hke225] at hf
        refine lv_iconst (v := (0 : Int32)) hx hb d_LinkAuditModel_constrain_225 (by decide) ?_
        refine lv_istore_n (lv' := [(1, .int (0 : Int32)), (0, .ref (ad 0))]) hx hb d_LinkAuditModel_constrain_226 rfl hl (by decide) rfl (fun ls hl => ?_)
        exact L227  _ rfl FU (0 : Int32) M _ _ _ hf hP hS (lv_sub hl [1, 0] rfl)
      · have hf := ifn c16 hf
        refine lv_iconst (v := (1 : Int32)) hx hb d_LinkAuditModel_constrain_121 (by decide) ?_
        refine lv_iload_n hx hb d_LinkAuditModel_constrain_122 rfl (lv_at hl 1 rfl) ?_
        refine lv_aload_n hx hb d_LinkAuditModel_constrain_123 rfl (lv_at hl 0 rfl) ?_
        refine xg_LinkAuditModel_104 hx hb hta hown hKv hP d_LinkAuditModel_constrain_124 ?_
        obtain ⟨g17, hf⟩ := gd_d hf
        refine lv_idiv hx hb d_LinkAuditModel_constrain_127 g17 ?_
        refine lv_iadd hx hb d_LinkAuditModel_constrain_128 ?_
        refine lv_istore_n (lv' := [(2, .int ((1 : Int32) + (x1 / (M.1 0 9)))), (0, .ref (ad 0)), (1, .int x1)]) hx hb d_LinkAuditModel_constrain_129 rfl hl (by decide) rfl (fun ls hl => ?_)
        refine lv_iconst (v := (1 : Int32)) hx hb d_LinkAuditModel_constrain_130 (by decide) ?_
        refine lv_iload_n hx hb d_LinkAuditModel_constrain_131 rfl (lv_at hl 2 rfl) ?_
        refine lv_aload_n hx hb d_LinkAuditModel_constrain_132 rfl (lv_at hl 1 rfl) ?_
        refine xg_LinkAuditModel_104 hx hb hta hown hKv hP d_LinkAuditModel_constrain_133 ?_
        obtain ⟨g18, hf⟩ := gd_d hf
        refine lv_irem hx hb d_LinkAuditModel_constrain_136 g18 ?_
        refine lv_iadd hx hb d_LinkAuditModel_constrain_137 ?_
        refine lv_istore_n (lv' := [(3, .int ((1 : Int32) + (x1 - x1 / (M.1 0 9) * (M.1 0 9)))), (2, .int ((1 : Int32) + (x1 / (M.1 0 9)))), (0, .ref (ad 0)), (1, .int x1)]) hx hb d_LinkAuditModel_constrain_138 rfl hl (by decide) rfl (fun ls hl => ?_)
        refine lv_aload_n hx hb d_LinkAuditModel_constrain_139 rfl (lv_at hl 2 rfl) ?_
        refine xg_LinkAuditModel_37 hx hb hta hown hKv hP d_LinkAuditModel_constrain_140 ?_
        refine lv_iload_n hx hb d_LinkAuditModel_constrain_143 rfl (lv_at hl 1 rfl) ?_
        obtain ⟨g19, hf⟩ := gd_ok hf
        refine x_zld hx hb hKv hP r_c10 g19 d_LinkAuditModel_constrain_144 ?_
        refine lv_if_eq (tgt := 175) hx hb d_LinkAuditModel_constrain_145 (by decide) (fun c20 => ?_) (fun c20 => ?_)
        · have hf := ifp c20 hf
          exact b175 M x1 ((1 : Int32) + (x1 / (M.1 0 9))) ((1 : Int32) + (x1 - x1 / (M.1 0 9) * (M.1 0 9))) _ _ _ hf hP hS (lv_sub hl [2, 3, 1, 0] rfl)
        · have hf := ifn c20 hf
          refine lv_aload_n hx hb d_LinkAuditModel_constrain_148 rfl (lv_at hl 2 rfl) ?_
          refine xg_LinkAuditModel_37 hx hb hta hown hKv hP d_LinkAuditModel_constrain_149 ?_
          refine lv_iload_n hx hb d_LinkAuditModel_constrain_152 rfl (lv_at hl 0 rfl) ?_
          obtain ⟨g21, hf⟩ := gd_ok hf
          refine x_zld hx hb hKv hP r_c10 g21 d_LinkAuditModel_constrain_153 ?_
          refine lv_if_eq (tgt := 175) hx hb d_LinkAuditModel_constrain_154 (by decide) (fun c22 => ?_) (fun c22 => ?_)
          · have hf := ifp c22 hf
            exact b175 M x1 ((1 : Int32) + (x1 / (M.1 0 9))) ((1 : Int32) + (x1 - x1 / (M.1 0 9) * (M.1 0 9))) _ _ _ hf hP hS (lv_sub hl [2, 3, 1, 0] rfl)
          · have hf := ifn c22 hf
            refine lv_aload_n hx hb d_LinkAuditModel_constrain_157 rfl (lv_at hl 2 rfl) ?_
            refine xg_LinkAuditModel_56 hx hb hta hown hKv hP d_LinkAuditModel_constrain_158 ?_
            refine lv_aload_n hx hb d_LinkAuditModel_constrain_161 rfl (lv_at hl 2 rfl) ?_
            refine xg_LinkAuditModel_34 hx hb hta hown hKv hP d_LinkAuditModel_constrain_162 ?_
            refine lv_iload_n hx hb d_LinkAuditModel_constrain_165 rfl (lv_at hl 1 rfl) ?_
            obtain ⟨g23, hf⟩ := gd_ok hf
            refine x_ild hx hb hKv hP r_c9 g23 d_LinkAuditModel_constrain_166 ?_
            obtain ⟨g24, hf⟩ := gd_ok hf
            refine x_ild hx hb hKv hP r_c16 g24 d_LinkAuditModel_constrain_167 ?_
            refine lv_if_ne (tgt := 175) hx hb d_LinkAuditModel_constrain_168 (by decide) (fun c25 => ?_) (fun c25 => ?_)
            · have hf := ifn c25 hf
              exact b175 M x1 ((1 : Int32) + (x1 / (M.1 0 9))) ((1 : Int32) + (x1 - x1 / (M.1 0 9) * (M.1 0 9))) _ _ _ hf hP hS (lv_sub hl [2, 3, 1, 0] rfl)
            · have hf := ifp c25 hf
              refine lv_iconst (v := (1 : Int32)) hx hb d_LinkAuditModel_constrain_171 (by decide) ?_
              refine lv_goto (tgt := 176) hx hb d_LinkAuditModel_constrain_172 (by decide) ?_
              exact b176 M x1 ((1 : Int32) + (x1 / (M.1 0 9))) ((1 : Int32) + (x1 - x1 / (M.1 0 9) * (M.1 0 9))) (1 : Int32) _ _ _ hf hP hS (lv_sub hl [2, 3, 1, 0] rfl)
  have L38 : ∀ (ke106 : Mem → Option Mem), ke106 = (fun M22 => f_LinkAuditModel_constrain_L108 (fun M23 => f_LinkAuditModel_constrain_L227 (fun M24 => some M24) FU (0 : Int32) M23) FU (0 : Int32) M22) → ∀ (n38 : Nat) (x1 : Int32) (M : Mem) (H : Heap) (locs : List Loc) (ls : Array Slot), f_LinkAuditModel_constrain_L38 ke106 n38 x1 M = some M' → va_P D vwC (r_ws cI cL cG cZ ad M) H → va_S (r_A ad) s.heap H locs → lv_has ls 7 [(0, .ref (ad 0)), (1, .int x1)] → W p l e (rmR 6 155) s m args below meth c H locs 0 0 Q (F0 m 38 ls []) := by
    intro ke106 hke106 n38
    induction n38 with
    | zero => intro x1 M H locs ls hf; exact absurd (show (none : Option _) = some _ from hf) (fun q => by cases q)
    | succ n38 ih38 =>
      intro x1 M H locs ls hf hP hS hl
      rw [f_LinkAuditModel_constrain_L38] at hf
      refine lv_iload_n hx hb d_LinkAuditModel_constrain_38 rfl (lv_at hl 1 rfl) ?_
      refine lv_aload_n hx hb d_LinkAuditModel_constrain_39 rfl (lv_at hl 0 rfl) ?_
      refine xg_LinkAuditModel_115 hx hb hta hown hKv hP d_LinkAuditModel_constrain_40 ?_
      refine lv_icmp_ge (tgt := 106) hx hb d_LinkAuditModel_constrain_43 (by decide) (fun c26 => ?_) (fun c26 => ?_)
      · have hf := ifp c26 hf
        rw [hke106] at hf
        refine lv_iconst (v := (0 : Int32)) hx hb d_LinkAuditModel_constrain_106 (by decide) ?_
        refine lv_istore_n (lv' := [(1, .int (0 : Int32)), (0, .ref (ad 0))]) hx hb d_LinkAuditModel_constrain_107 rfl hl (by decide) rfl (fun ls hl => ?_)
        exact L108  _ rfl FU (0 : Int32) M _ _ _ hf hP hS (lv_sub hl [1, 0] rfl)
      · have hf := ifn c26 hf
        refine lv_aload_n hx hb d_LinkAuditModel_constrain_46 rfl (lv_at hl 0 rfl) ?_
        refine lv_iload_n hx hb d_LinkAuditModel_constrain_47 rfl (lv_at hl 1 rfl) ?_
        obtain ⟨r26, M25, hc27, hf⟩ := bd2_e hf
        refine xvr_LinkAuditModel_195 X hkk hD (Nat.le_of_ble_eq_true rfl) ⟨by dsimp only [rmR]; omega, by dsimp only [rmR]; omega⟩ ⟨Nat.zero_le _, Nat.zero_le _⟩ hc27 hl.1 hP hS d_LinkAuditModel_constrain_48 (fun H locs hP hS => ?_)
        refine lv_istore_n (lv' := [(2, .int r26), (0, .ref (ad 0)), (1, .int x1)]) hx hb d_LinkAuditModel_constrain_51 rfl hl (by decide) rfl (fun ls hl => ?_)
        refine lv_iload_n hx hb d_LinkAuditModel_constrain_52 rfl (lv_at hl 0 rfl) ?_
        refine lv_if_le (tgt := 100) hx hb d_LinkAuditModel_constrain_53 (by decide) (fun c28 => ?_) (fun c28 => ?_)
        · have hf := ifp c28 hf
          refine lv_iinc (v := (x1 + (1 : Int32))) (lv' := [(1, .int (x1 + (1 : Int32))), (2, .int r26), (0, .ref (ad 0))]) hx hb d_LinkAuditModel_constrain_100 hl (k := 2) rfl rfl (by decide) rfl (fun ls hl => ?_)
          refine lv_goto (tgt := 38) hx hb d_LinkAuditModel_constrain_103 (by decide) ?_
          exact ih38 (x1 + (1 : Int32)) M25 _ _ _ hf hP hS (lv_sub hl [2, 0] rfl)
        · have hf := ifn c28 hf
          refine lv_aload_n hx hb d_LinkAuditModel_constrain_56 rfl (lv_at hl 1 rfl) ?_
          refine xg_LinkAuditModel_53 hx hb hta hown hKv hP d_LinkAuditModel_constrain_57 ?_
          refine lv_iconst (v := (5 : Int32)) hx hb d_LinkAuditModel_constrain_60 (by decide) ?_
          refine lv_iload_n hx hb d_LinkAuditModel_constrain_61 rfl (lv_at hl 2 rfl) ?_
          refine lv_imul hx hb d_LinkAuditModel_constrain_62 ?_
          refine lv_iconst (v := (1 : Int32)) hx hb d_LinkAuditModel_constrain_63 (by decide) ?_
          refine lv_iadd hx hb d_LinkAuditModel_constrain_64 ?_
          obtain ⟨g29, hf⟩ := gd_ok hf
          refine x_ild hx hb hKv hP r_c15 g29 d_LinkAuditModel_constrain_65 ?_
          refine lv_iconst (v := (4 : Int32)) hx hb d_LinkAuditModel_constrain_66 (by decide) ?_
          refine lv_idiv hx hb d_LinkAuditModel_constrain_67 (by decide) ?_
          refine lv_if_le (tgt := 100) hx hb d_LinkAuditModel_constrain_68 (by decide) (fun c30 => ?_) (fun c30 => ?_)
          · have hf := ifp c30 hf
            refine lv_iinc (v := (x1 + (1 : Int32))) (lv' := [(1, .int (x1 + (1 : Int32))), (2, .int r26), (0, .ref (ad 0))]) hx hb d_LinkAuditModel_constrain_100 hl (k := 2) rfl rfl (by decide) rfl (fun ls hl => ?_)
            refine lv_goto (tgt := 38) hx hb d_LinkAuditModel_constrain_103 (by decide) ?_
            exact ih38 (x1 + (1 : Int32)) M25 _ _ _ hf hP hS (lv_sub hl [2, 0] rfl)
          · have hf := ifn c30 hf
            refine lv_aload_n hx hb d_LinkAuditModel_constrain_71 rfl (lv_at hl 1 rfl) ?_
            refine lv_iload_n hx hb d_LinkAuditModel_constrain_72 rfl (lv_at hl 0 rfl) ?_
            refine lv_aload_n hx hb d_LinkAuditModel_constrain_73 rfl (lv_at hl 1 rfl) ?_
            refine xg_LinkAuditModel_19 hx hb hta hown hKv hP d_LinkAuditModel_constrain_74 ?_
            refine lv_aload_n hx hb d_LinkAuditModel_constrain_77 rfl (lv_at hl 1 rfl) ?_
            refine xg_LinkAuditModel_53 hx hb hta hown hKv hP d_LinkAuditModel_constrain_78 ?_
            refine lv_iconst (v := (5 : Int32)) hx hb d_LinkAuditModel_constrain_81 (by decide) ?_
            refine lv_iload_n hx hb d_LinkAuditModel_constrain_82 rfl (lv_at hl 2 rfl) ?_
            refine lv_imul hx hb d_LinkAuditModel_constrain_83 ?_
            obtain ⟨g31, hf⟩ := gd_ok hf
            refine x_ild hx hb hKv hP r_c15 g31 d_LinkAuditModel_constrain_84 ?_
            obtain ⟨g32, hf⟩ := gd_ok hf
            refine x_ild hx hb hKv hP r_c4 g32 d_LinkAuditModel_constrain_85 ?_
            refine lv_aload_n hx hb d_LinkAuditModel_constrain_86 rfl (lv_at hl 1 rfl) ?_
            refine xg_LinkAuditModel_19 hx hb hta hown hKv hP d_LinkAuditModel_constrain_87 ?_
            refine lv_aload_n hx hb d_LinkAuditModel_constrain_90 rfl (lv_at hl 1 rfl) ?_
            refine xg_LinkAuditModel_34 hx hb hta hown hKv hP d_LinkAuditModel_constrain_91 ?_
            refine lv_iload_n hx hb d_LinkAuditModel_constrain_94 rfl (lv_at hl 0 rfl) ?_
            obtain ⟨g33, hf⟩ := gd_ok hf
            refine x_ild hx hb hKv hP r_c9 g33 d_LinkAuditModel_constrain_95 ?_
            obtain ⟨g34, hf⟩ := gd_ok hf
            refine x_ild hx hb hKv hP r_c4 g34 d_LinkAuditModel_constrain_96 ?_
            obtain ⟨M27, hc35, hf⟩ := bd1_e hf
            refine xvr_LinkAuditModel_198 X hkk hD (Nat.le_of_ble_eq_true rfl) ⟨by dsimp only [rmR]; omega, by dsimp only [rmR]; omega⟩ ⟨Nat.zero_le _, Nat.zero_le _⟩ hc35 hl.1 hP hS d_LinkAuditModel_constrain_97 (fun H locs hP hS => ?_)
            refine lv_iinc (v := (x1 + (1 : Int32))) (lv' := [(1, .int (x1 + (1 : Int32))), (2, .int r26), (0, .ref (ad 0))]) hx hb d_LinkAuditModel_constrain_100 hl (k := 2) rfl rfl (by decide) rfl (fun ls hl => ?_)
            refine lv_goto (tgt := 38) hx hb d_LinkAuditModel_constrain_103 (by decide) ?_
            exact ih38 (x1 + (1 : Int32)) M27 _ _ _ hf hP hS (lv_sub hl [2, 0] rfl)
  have L2 : ∀ (ke36 : Mem → Option Mem), ke36 = (fun M28 => f_LinkAuditModel_constrain_L38 (fun M29 => f_LinkAuditModel_constrain_L108 (fun M30 => f_LinkAuditModel_constrain_L227 (fun M31 => some M31) FU (0 : Int32) M30) FU (0 : Int32) M29) FU (0 : Int32) M28) → ∀ (n2 : Nat) (x1 : Int32) (M : Mem) (H : Heap) (locs : List Loc) (ls : Array Slot), f_LinkAuditModel_constrain_L2 ke36 n2 x1 M = some M' → va_P D vwC (r_ws cI cL cG cZ ad M) H → va_S (r_A ad) s.heap H locs → lv_has ls 7 [(0, .ref (ad 0)), (1, .int x1)] → W p l e (rmR 6 155) s m args below meth c H locs 0 0 Q (F0 m 2 ls []) := by
    intro ke36 hke36 n2
    induction n2 with
    | zero => intro x1 M H locs ls hf; exact absurd (show (none : Option _) = some _ from hf) (fun q => by cases q)
    | succ n2 ih2 =>
      intro x1 M H locs ls hf hP hS hl
      rw [f_LinkAuditModel_constrain_L2] at hf
      have b29 : ∀ (M : Mem) (x1 : Int32) (t1 : Int32) (t2 : Int32) (H : Heap) (locs : List Loc) (ls : Array Slot), f_LinkAuditModel_constrain_b29 M x1 t1 t2 (f_LinkAuditModel_constrain_L2 ke36 n2) ke36 = some M' → va_P D vwC (r_ws cI cL cG cZ ad M) H → va_S (r_A ad) s.heap H locs → lv_has ls 7 [(0, .ref (ad 0)), (1, .int x1)] → W p l e (rmR 6 155) s m args below meth c H locs 0 0 Q (F0 m 29 ls [.int t2, .int t1, .ref (ad 24)]) := by
        intro M x1 t1 t2 H locs ls hf hP hS hl
        unfold f_LinkAuditModel_constrain_b29 at hf
        obtain ⟨g36, hf⟩ := gd_ok hf
        obtain ⟨g37, hf⟩ := gd_d hf
        obtain ⟨M32, eM32, hf⟩ := sm_e hf
        refine x_zst hx hb hKv hP (hD _) hS r_c24 r_s24 g36 g37 eM32 d_LinkAuditModel_constrain_29 (fun H locs hP hS => ?_)
        refine lv_iinc (v := (x1 + (1 : Int32))) (lv' := [(1, .int (x1 + (1 : Int32))), (0, .ref (ad 0))]) hx hb d_LinkAuditModel_constrain_30 hl (k := 1) rfl rfl (by decide) rfl (fun ls hl => ?_)
        refine lv_goto (tgt := 2) hx hb d_LinkAuditModel_constrain_33 (by decide) ?_
        exact ih2 (x1 + (1 : Int32)) M32 _ _ _ hf hP hS (lv_sub hl [1, 0] rfl)
      refine lv_iload_n hx hb d_LinkAuditModel_constrain_2 rfl (lv_at hl 1 rfl) ?_
      refine lv_sipush (v := (300 : Int32)) hx hb d_LinkAuditModel_constrain_3 (by decide) ?_
      refine lv_icmp_ge (tgt := 36) hx hb d_LinkAuditModel_constrain_6 (by decide) (fun c38 => ?_) (fun c38 => ?_)
      · have hf := ifp c38 hf
        rw [hke36] at hf
        refine lv_iconst (v := (0 : Int32)) hx hb d_LinkAuditModel_constrain_36 (by decide) ?_
        refine lv_istore_n (lv' := [(1, .int (0 : Int32)), (0, .ref (ad 0))]) hx hb d_LinkAuditModel_constrain_37 rfl hl (by decide) rfl (fun ls hl => ?_)
        exact L38  _ rfl FU (0 : Int32) M _ _ _ hf hP hS (lv_sub hl [1, 0] rfl)
      · have hf := ifn c38 hf
        refine lv_aload_n hx hb d_LinkAuditModel_constrain_9 rfl (lv_at hl 0 rfl) ?_
        refine xg_LinkAuditModel_80 hx hb hta hown hKv hP d_LinkAuditModel_constrain_10 ?_
        refine lv_iload_n hx hb d_LinkAuditModel_constrain_13 rfl (lv_at hl 1 rfl) ?_
        refine lv_iload_n hx hb d_LinkAuditModel_constrain_14 rfl (lv_at hl 1 rfl) ?_
        refine lv_bipush (v := (25 : Int32)) hx hb d_LinkAuditModel_constrain_15 (by decide) ?_
        refine lv_irem hx hb d_LinkAuditModel_constrain_17 (by decide) ?_
        refine lv_bipush (v := (6 : Int32)) hx hb d_LinkAuditModel_constrain_18 (by decide) ?_
        refine lv_irem hx hb d_LinkAuditModel_constrain_20 (by decide) ?_
        refine lv_if_ne (tgt := 28) hx hb d_LinkAuditModel_constrain_21 (by decide) (fun c39 => ?_) (fun c39 => ?_)
        · have hf := ifn c39 hf
          refine lv_iconst (v := (0 : Int32)) hx hb d_LinkAuditModel_constrain_28 (by decide) ?_
          exact b29 M x1 x1 (0 : Int32) _ _ _ hf hP hS (lv_sub hl [0, 1] rfl)
        · have hf := ifp c39 hf
          refine lv_iconst (v := (1 : Int32)) hx hb d_LinkAuditModel_constrain_24 (by decide) ?_
          refine lv_goto (tgt := 29) hx hb d_LinkAuditModel_constrain_25 (by decide) ?_
          exact b29 M x1 x1 (1 : Int32) _ _ _ hf hP hS (lv_sub hl [0, 1] rfl)
  unfold f_LinkAuditModel_constrain at hf
  refine lv_iconst (v := (0 : Int32)) hx hb d_LinkAuditModel_constrain_0 (by decide) ?_
  refine lv_istore_n (lv' := [(1, .int (0 : Int32)), (0, .ref (ad 0))]) hx hb d_LinkAuditModel_constrain_1 rfl hl (by decide) rfl (fun ls hl => ?_)
  exact L2  _ rfl FU (0 : Int32) M _ _ _ hf hP hS (lv_sub hl [1, 0] rfl)
-- LinkAuditModel.allConflicts
theorem xg_LinkAuditModel_83 {p : Program} {l : Launch} {e : Env} {R : Room} {s : State} {m : MethodId} {args : Array Value} {below : List Frame} {meth : Method} {c : Code} {H : Heap} {locs : List Loc} {cells slots : Nat} {Q : State → Prop} {cc : ByteArray} {pc : Nat} {ls : Array Slot} {rest : List Value} {D : va_G} {cI cL cG cZ : ClassId} {ad : Nat → Nat} {M : Mem} (hx : p.tables.exec = Jvm.exec) (hb : c.code = cc) (hta : ∀ w ∈ ALLW, w.before args s = true) (hown : s.vm.findClass "LinkAuditModel" = some m.cls) (hK : va_K D vwC [(cI, .int), (cL, .long), (cG, .array .int), (cZ, .boolean)] s) (hP : va_P D vwC (r_ws cI cL cG cZ ad M) H) (hdg : decode cc pc = .ok (.getfield 83, 3))
    (kk : W p l e R s m args below meth c H locs cells slots Q (F0 m (pc + 3) ls (.ref (ad 25) :: rest))) : W p l e R s m args below meth c H locs cells slots Q (F0 m pc ls (.ref (ad 0) :: rest)) :=
  va_get (D := D) (ci := 10) (v := .ref (ad 25)) (C := "LinkAuditModel") (T := T_LinkAuditModel) (N := 31) hx hb hta i_LinkAuditModel hown hK hP 0 r_c0 rfl 28 (by decide) (hta _ wm_729) (fun _ h9 => h9) rfl hdg kk
theorem xg_LinkAuditModel_207 {p : Program} {l : Launch} {e : Env} {R : Room} {s : State} {m : MethodId} {args : Array Value} {below : List Frame} {meth : Method} {c : Code} {H : Heap} {locs : List Loc} {cells slots : Nat} {Q : State → Prop} {cc : ByteArray} {pc : Nat} {ls : Array Slot} {rest : List Value} {D : va_G} {cI cL cG cZ : ClassId} {ad : Nat → Nat} {M : Mem} (hx : p.tables.exec = Jvm.exec) (hb : c.code = cc) (hta : ∀ w ∈ ALLW, w.before args s = true) (hown : s.vm.findClass "LinkAuditModel" = some m.cls) (hK : va_K D vwC [(cI, .int), (cL, .long), (cG, .array .int), (cZ, .boolean)] s) (hP : va_P D vwC (r_ws cI cL cG cZ ad M) H) (hdg : decode cc pc = .ok (.getfield 207, 3))
    (kk : W p l e R s m args below meth c H locs cells slots Q (F0 m (pc + 3) ls (.int (M.1 0 27) :: rest))) : W p l e R s m args below meth c H locs cells slots Q (F0 m pc ls (.ref (ad 0) :: rest)) :=
  va_get (D := D) (ci := 10) (v := .int (M.1 0 27)) (C := "LinkAuditModel") (T := T_LinkAuditModel) (N := 31) hx hb hta i_LinkAuditModel hown hK hP 0 r_c0 rfl 27 (by decide) (hta _ wm_728) (fun _ h9 => h9) rfl hdg kk
theorem xp_LinkAuditModel_207 {p : Program} {l : Launch} {e : Env} {R : Room} {s : State} {m : MethodId} {args : Array Value} {below : List Frame} {meth : Method} {c : Code} {H : Heap} {locs : List Loc} {cells slots : Nat} {Q : State → Prop} {cc : ByteArray} {pc : Nat} {ls : Array Slot} {rest : List Value} {D : va_G} {cI cL cG cZ : ClassId} {ad : Nat → Nat} {M : Mem} {H0 : Heap} {M1 : Mem} {x : Int32} (hx : p.tables.exec = Jvm.exec) (hb : c.code = cc) (hta : ∀ w ∈ ALLW, w.before args s = true) (hown : s.vm.findClass "LinkAuditModel" = some m.cls) (hK : va_K D vwC [(cI, .int), (cL, .long), (cG, .array .int), (cZ, .boolean)] s) (hP : va_P D vwC (r_ws cI cL cG cZ ad M) H) (hD : va_D (r_A ad) (r_ws cI cL cG cZ ad M)) (hS : va_S (r_A ad) H0 H locs) (eM : M1 = u1 M 0 27 x) (hdg : decode cc pc = .ok (.putfield 207, 3))
    (kk : ∀ (H1 : Heap) (locs1 : List Loc), va_P D vwC (r_ws cI cL cG cZ ad M1) H1 → va_S (r_A ad) H0 H1 locs1 → W p l e R s m args below meth c H1 locs1 cells slots Q (F0 m (pc + 3) ls rest)) : W p l e R s m args below meth c H locs cells slots Q (F0 m pc ls (.int x :: .ref (ad 0) :: rest)) := by
  refine va_put (D := D) (ci := 10) (v := .int x) (ty := .int) (C := "LinkAuditModel") (T := T_LinkAuditModel) (N := 31) hx hb hta i_LinkAuditModel t_LinkAuditModel t_LinkAuditModel_ok n_LinkAuditModel hown hK hP hD hS 0 r_c0 rfl 27 (by decide) (hta _ wm_728) (fun _ h9 => h9) rfl (by decide +kernel) rfl rfl (Nat.le_of_ble_eq_true rfl) hdg (fun H1 locs1 h1 _ h3 => kk H1 locs1 ?_ h3)
  rw [eM]
  exact h1
theorem xvr_LinkAuditModel_204 {p : Program} {l : Launch} {e : Env} {R : Room} {s : State} {m : MethodId} {args : Array Value} {below : List Frame} {meth : Method} {c : Code} {H : Heap} {locs : List Loc} {cells slots : Nat} {Q : State → Prop} {cc : ByteArray} {pc : Nat} {ls : Array Slot} {rest : List Value} {D : va_G} {cI cL cG cZ : ClassId} {ad : Nat → Nat} {M : Mem} {H0 : Heap} {M1 : Mem} {nL : Nat}  (X : CallFix p m c cc nL s args ALLW "LinkAuditModel") (hkk : Kk D cI cL cG cZ s) (hD : ∀ M, va_D (r_A ad) (r_ws cI cL cG cZ ad M)) (hrest : (rest.map fun v => v.category).sum ≤ 8) (hR : 6 + 1 ≤ R.frames ∧ 8 + (7 + 11) + 155 ≤ R.locals) (hcs : cells + 0 ≤ R.cells ∧ slots + 0 ≤ R.slots) (hc : f_LinkAuditModel_constrain M = some M1) (hsz : ls.size = nL) (hP : va_P D vwC (r_ws cI cL cG cZ ad M) H) (hS : va_S (r_A ad) H0 H locs) (hdg : decode cc pc = .ok (.invokevirtual 204, 3))
    (kk : ∀ (H1 : Heap) (locs1 : List Loc), va_P D vwC (r_ws cI cL cG cZ ad M1) H1 → va_S (r_A ad) H0 H1 locs1 → W p l e R s m args below meth c H1 locs1 cells slots Q (F0 m (pc + 3) ls (rest))) : W p l e R s m args below meth c H locs cells slots Q (F0 m pc ls (.ref (ad 0) :: rest)) := by
  have hta := X.2.2.2.2
  exact x_afterV (va_runV (As := []) (rest := rest) X (c_LinkAuditModel_constrain hD hc) ⟨callB_of 0 hta (good_all (L := .code y_LinkAuditModel_constrain prog_12_method_40_code 7 none :: ALLW) (List.forall_mem_cons.mpr ⟨wm_974, fun _ h => h⟩)) rfl rfl rfl (hta _ wm_11) (hta _ wm_971) (by decide +kernel) hR, hta _ wm_973, hta _ wp_53⟩ ⟨x_blind Kk_w _, va_recv hkk.1 hP (ci := 10) (q0 := 0) rfl r_c0, x_pre Kk_w hkk hP _⟩ rfl rfl hsz rfl (lv_room hrest) hdg hcs) hS kk
set_option maxHeartbeats 4000000 in
set_option maxRecDepth 100000 in
theorem c_LinkAuditModel_allConflicts {l : Launch} {D : va_G} {cI cL cG cZ : ClassId} {ad : Nat → Nat} {M M' : Mem}  (hD : ∀ M, va_D (r_A ad) (r_ws cI cL cG cZ ad M)) (hf : f_LinkAuditModel_allConflicts M = some M') : Mv l y_LinkAuditModel_allConflicts (.code y_LinkAuditModel_allConflicts prog_12_method_41_code 7 none :: ALLW) (rmR 7 181) (Kk D cI cL cG cZ) D vwC (r_A ad) (r_ws cI cL cG cZ ad) [.ref (ad 0)] M M' := by
  refine Mv_of (by decide) (Nat.le_of_ble_eq_true rfl) ?_
  intro p e s m args below meth c ls Q X hkk hret hP hl
  obtain ⟨hx, hb, hml, hown, hta⟩ := id X
  have hKv := hkk.1
  have hS : va_S (r_A ad) s.heap s.heap [] := va_S.rf
  have hl : lv_has ls 7 [(0, .ref (ad 0))] := hl
  have L11 : ∀ (ke143 : Mem → Option Mem), ke143 = (fun M10 => some M10) → ∀ (n11 : Nat) (x1 : Int32) (M : Mem) (H : Heap) (locs : List Loc) (ls : Array Slot), f_LinkAuditModel_allConflicts_L11 ke143 n11 x1 M = some M' → va_P D vwC (r_ws cI cL cG cZ ad M) H → va_S (r_A ad) s.heap H locs → lv_has ls 7 [(0, .ref (ad 0)), (1, .int x1)] → W p l e (rmR 7 181) s m args below meth c H locs 0 0 Q (F0 m 11 ls []) := by
    intro ke143 hke143 n11
    induction n11 with
    | zero => intro x1 M H locs ls hf; exact absurd (show (none : Option _) = some _ from hf) (fun q => by cases q)
    | succ n11 ih11 =>
      intro x1 M H locs ls hf hP hS hl
      rw [f_LinkAuditModel_allConflicts_L11] at hf
      refine lv_iload_n hx hb d_LinkAuditModel_allConflicts_11 rfl (lv_at hl 1 rfl) ?_
      refine lv_sipush (v := (300 : Int32)) hx hb d_LinkAuditModel_allConflicts_12 (by decide) ?_
      refine lv_icmp_ge (tgt := 143) hx hb d_LinkAuditModel_allConflicts_15 (by decide) (fun c1 => ?_) (fun c1 => ?_)
      · have hf := ifp c1 hf
        rw [hke143] at hf
        exact hret hf hP hS d_LinkAuditModel_allConflicts_143
      · have hf := ifn c1 hf
        refine lv_iload_n hx hb d_LinkAuditModel_allConflicts_18 rfl (lv_at hl 1 rfl) ?_
        refine lv_bipush (v := (25 : Int32)) hx hb d_LinkAuditModel_allConflicts_19 (by decide) ?_
        refine lv_idiv hx hb d_LinkAuditModel_allConflicts_21 (by decide) ?_
        refine lv_istore_n (lv' := [(2, .int (x1 / (25 : Int32))), (0, .ref (ad 0)), (1, .int x1)]) hx hb d_LinkAuditModel_allConflicts_22 rfl hl (by decide) rfl (fun ls hl => ?_)
        refine lv_iload_n hx hb d_LinkAuditModel_allConflicts_23 rfl (lv_at hl 2 rfl) ?_
        refine lv_iconst (v := (5 : Int32)) hx hb d_LinkAuditModel_allConflicts_24 (by decide) ?_
        refine lv_idiv hx hb d_LinkAuditModel_allConflicts_25 (by decide) ?_
        refine lv_iconst (v := (5 : Int32)) hx hb d_LinkAuditModel_allConflicts_26 (by decide) ?_
        refine lv_irem hx hb d_LinkAuditModel_allConflicts_27 (by decide) ?_
        refine lv_istore_n (lv' := [(3, .int ((x1 / (5 : Int32)) - (x1 / (5 : Int32)) / (5 : Int32) * (5 : Int32))), (2, .int (x1 / (25 : Int32))), (0, .ref (ad 0)), (1, .int x1)]) hx hb d_LinkAuditModel_allConflicts_28 rfl hl (by decide) rfl (fun ls hl => ?_)
        refine lv_iload_n hx hb d_LinkAuditModel_allConflicts_29 rfl (lv_at hl 3 rfl) ?_
        refine lv_iconst (v := (5 : Int32)) hx hb d_LinkAuditModel_allConflicts_30 (by decide) ?_
        refine lv_irem hx hb d_LinkAuditModel_allConflicts_31 (by decide) ?_
        refine lv_istore (lv' := [(4, .int (x1 - x1 / (5 : Int32) * (5 : Int32))), (3, .int ((x1 / (5 : Int32)) - (x1 / (5 : Int32)) / (5 : Int32) * (5 : Int32))), (2, .int (x1 / (25 : Int32))), (0, .ref (ad 0)), (1, .int x1)]) hx hb d_LinkAuditModel_allConflicts_32 hl (by decide) rfl (fun ls hl => ?_)
        refine lv_aload_n hx hb d_LinkAuditModel_allConflicts_34 rfl (lv_at hl 3 rfl) ?_
        refine lv_iload_n hx hb d_LinkAuditModel_allConflicts_35 rfl (lv_at hl 1 rfl) ?_
        refine lv_iload_n hx hb d_LinkAuditModel_allConflicts_36 rfl (lv_at hl 2 rfl) ?_
        obtain ⟨r11, hc2, hf⟩ := bd1_e hf
        refine xvr_LinkAuditModel_132 X hkk hD (Nat.le_of_ble_eq_true rfl) ⟨by dsimp only [rmR]; omega, by dsimp only [rmR]; omega⟩ ⟨Nat.zero_le _, Nat.zero_le _⟩ hc2 hl.1 hP hS d_LinkAuditModel_allConflicts_37 (fun H locs hP hS => ?_)
        refine lv_istore (lv' := [(5, .int r11), (4, .int (x1 - x1 / (5 : Int32) * (5 : Int32))), (3, .int ((x1 / (5 : Int32)) - (x1 / (5 : Int32)) / (5 : Int32) * (5 : Int32))), (2, .int (x1 / (25 : Int32))), (0, .ref (ad 0)), (1, .int x1)]) hx hb d_LinkAuditModel_allConflicts_40 hl (by decide) rfl (fun ls hl => ?_)
        refine lv_aload_n hx hb d_LinkAuditModel_allConflicts_42 rfl (lv_at hl 4 rfl) ?_
        refine lv_iload hx hb d_LinkAuditModel_allConflicts_43 (lv_at hl 1 rfl) ?_
        refine lv_iload_n hx hb d_LinkAuditModel_allConflicts_45 rfl (lv_at hl 3 rfl) ?_
        obtain ⟨r12, hc3, hf⟩ := bd1_e hf
        refine xvr_LinkAuditModel_132 X hkk hD (Nat.le_of_ble_eq_true rfl) ⟨by dsimp only [rmR]; omega, by dsimp only [rmR]; omega⟩ ⟨Nat.zero_le _, Nat.zero_le _⟩ hc3 hl.1 hP hS d_LinkAuditModel_allConflicts_46 (fun H locs hP hS => ?_)
        refine lv_istore (lv' := [(6, .int r12), (5, .int r11), (4, .int (x1 - x1 / (5 : Int32) * (5 : Int32))), (3, .int ((x1 / (5 : Int32)) - (x1 / (5 : Int32)) / (5 : Int32) * (5 : Int32))), (2, .int (x1 / (25 : Int32))), (0, .ref (ad 0)), (1, .int x1)]) hx hb d_LinkAuditModel_allConflicts_49 hl (by decide) rfl (fun ls hl => ?_)
        refine lv_iload_n hx hb d_LinkAuditModel_allConflicts_51 rfl (lv_at hl 3 rfl) ?_
        refine lv_iload hx hb d_LinkAuditModel_allConflicts_52 (lv_at hl 2 rfl) ?_
        refine lv_icmp_ge (tgt := 137) hx hb d_LinkAuditModel_allConflicts_54 (by decide) (fun c4 => ?_) (fun c4 => ?_)
        · have hf := ifp c4 hf
          refine lv_iinc (v := (x1 + (1 : Int32))) (lv' := [(1, .int (x1 + (1 : Int32))), (6, .int r12), (5, .int r11), (4, .int (x1 - x1 / (5 : Int32) * (5 : Int32))), (3, .int ((x1 / (5 : Int32)) - (x1 / (5 : Int32)) / (5 : Int32) * (5 : Int32))), (2, .int (x1 / (25 : Int32))), (0, .ref (ad 0))]) hx hb d_LinkAuditModel_allConflicts_137 hl (k := 6) rfl rfl (by decide) rfl (fun ls hl => ?_)
          refine lv_goto (tgt := 11) hx hb d_LinkAuditModel_allConflicts_140 (by decide) ?_
          exact ih11 (x1 + (1 : Int32)) M _ _ _ hf hP hS (lv_sub hl [6, 0] rfl)
        · have hf := ifn c4 hf
          refine lv_aload_n hx hb d_LinkAuditModel_allConflicts_57 rfl (lv_at hl 5 rfl) ?_
          refine xg_LinkAuditModel_80 hx hb hta hown hKv hP d_LinkAuditModel_allConflicts_58 ?_
          refine lv_iload_n hx hb d_LinkAuditModel_allConflicts_61 rfl (lv_at hl 6 rfl) ?_
          obtain ⟨g5, hf⟩ := gd_ok hf
          refine x_zld hx hb hKv hP r_c24 g5 d_LinkAuditModel_allConflicts_62 ?_
          refine lv_if_eq (tgt := 137) hx hb d_LinkAuditModel_allConflicts_63 (by decide) (fun c6 => ?_) (fun c6 => ?_)
          · have hf := ifp c6 hf
            refine lv_iinc (v := (x1 + (1 : Int32))) (lv' := [(1, .int (x1 + (1 : Int32))), (6, .int r12), (5, .int r11), (4, .int (x1 - x1 / (5 : Int32) * (5 : Int32))), (3, .int ((x1 / (5 : Int32)) - (x1 / (5 : Int32)) / (5 : Int32) * (5 : Int32))), (2, .int (x1 / (25 : Int32))), (0, .ref (ad 0))]) hx hb d_LinkAuditModel_allConflicts_137 hl (k := 6) rfl rfl (by decide) rfl (fun ls hl => ?_)
            refine lv_goto (tgt := 11) hx hb d_LinkAuditModel_allConflicts_140 (by decide) ?_
            exact ih11 (x1 + (1 : Int32)) M _ _ _ hf hP hS (lv_sub hl [6, 0] rfl)
          · have hf := ifn c6 hf
            refine lv_iload hx hb d_LinkAuditModel_allConflicts_66 (lv_at hl 1 rfl) ?_
            refine lv_if_eq (tgt := 137) hx hb d_LinkAuditModel_allConflicts_68 (by decide) (fun c7 => ?_) (fun c7 => ?_)
            · have hf := ifp c7 hf
              refine lv_iinc (v := (x1 + (1 : Int32))) (lv' := [(1, .int (x1 + (1 : Int32))), (6, .int r12), (5, .int r11), (4, .int (x1 - x1 / (5 : Int32) * (5 : Int32))), (3, .int ((x1 / (5 : Int32)) - (x1 / (5 : Int32)) / (5 : Int32) * (5 : Int32))), (2, .int (x1 / (25 : Int32))), (0, .ref (ad 0))]) hx hb d_LinkAuditModel_allConflicts_137 hl (k := 6) rfl rfl (by decide) rfl (fun ls hl => ?_)
              refine lv_goto (tgt := 11) hx hb d_LinkAuditModel_allConflicts_140 (by decide) ?_
              exact ih11 (x1 + (1 : Int32)) M _ _ _ hf hP hS (lv_sub hl [6, 0] rfl)
            · have hf := ifn c7 hf
              refine lv_iload hx hb d_LinkAuditModel_allConflicts_71 (lv_at hl 0 rfl) ?_
              refine lv_if_eq (tgt := 137) hx hb d_LinkAuditModel_allConflicts_73 (by decide) (fun c8 => ?_) (fun c8 => ?_)
              · have hf := ifp c8 hf
                refine lv_iinc (v := (x1 + (1 : Int32))) (lv' := [(1, .int (x1 + (1 : Int32))), (6, .int r12), (5, .int r11), (4, .int (x1 - x1 / (5 : Int32) * (5 : Int32))), (3, .int ((x1 / (5 : Int32)) - (x1 / (5 : Int32)) / (5 : Int32) * (5 : Int32))), (2, .int (x1 / (25 : Int32))), (0, .ref (ad 0))]) hx hb d_LinkAuditModel_allConflicts_137 hl (k := 6) rfl rfl (by decide) rfl (fun ls hl => ?_)
                refine lv_goto (tgt := 11) hx hb d_LinkAuditModel_allConflicts_140 (by decide) ?_
                exact ih11 (x1 + (1 : Int32)) M _ _ _ hf hP hS (lv_sub hl [6, 0] rfl)
              · have hf := ifn c8 hf
                refine lv_iload hx hb d_LinkAuditModel_allConflicts_76 (lv_at hl 1 rfl) ?_
                refine lv_iload hx hb d_LinkAuditModel_allConflicts_78 (lv_at hl 0 rfl) ?_
                refine lv_icmp_ne (tgt := 86) hx hb d_LinkAuditModel_allConflicts_80 (by decide) (fun c9 => ?_) (fun c9 => ?_)
                · have hf := ifn c9 hf
                  refine lv_aload_n hx hb d_LinkAuditModel_allConflicts_86 rfl (lv_at hl 5 rfl) ?_
                  refine xg_LinkAuditModel_83 hx hb hta hown hKv hP d_LinkAuditModel_allConflicts_87 ?_
                  refine lv_iconst (v := (3 : Int32)) hx hb d_LinkAuditModel_allConflicts_90 (by decide) ?_
                  refine lv_aload_n hx hb d_LinkAuditModel_allConflicts_91 rfl (lv_at hl 5 rfl) ?_
                  refine xg_LinkAuditModel_207 hx hb hta hown hKv hP d_LinkAuditModel_allConflicts_92 ?_
                  refine lv_imul hx hb d_LinkAuditModel_allConflicts_95 ?_
                  refine lv_iload_n hx hb d_LinkAuditModel_allConflicts_96 rfl (lv_at hl 4 rfl) ?_
                  obtain ⟨g10, hf⟩ := gd_ok hf
                  obtain ⟨M13, eM13, hf⟩ := sm_e hf
                  refine x_ist hx hb hKv hP (hD _) hS r_c25 r_s25 g10 eM13 d_LinkAuditModel_allConflicts_97 (fun H locs hP hS => ?_)
                  refine lv_aload_n hx hb d_LinkAuditModel_allConflicts_98 rfl (lv_at hl 5 rfl) ?_
                  refine xg_LinkAuditModel_83 hx hb hta hown hKv hP d_LinkAuditModel_allConflicts_99 ?_
                  refine lv_iconst (v := (3 : Int32)) hx hb d_LinkAuditModel_allConflicts_102 (by decide) ?_
                  refine lv_aload_n hx hb d_LinkAuditModel_allConflicts_103 rfl (lv_at hl 5 rfl) ?_
                  refine xg_LinkAuditModel_207 hx hb hta hown hKv hP d_LinkAuditModel_allConflicts_104 ?_
                  refine lv_imul hx hb d_LinkAuditModel_allConflicts_107 ?_
                  refine lv_iconst (v := (1 : Int32)) hx hb d_LinkAuditModel_allConflicts_108 (by decide) ?_
                  refine lv_iadd hx hb d_LinkAuditModel_allConflicts_109 ?_
                  refine lv_iload_n hx hb d_LinkAuditModel_allConflicts_110 rfl (lv_at hl 3 rfl) ?_
                  obtain ⟨g11, hf⟩ := gd_ok hf
                  obtain ⟨M14, eM14, hf⟩ := sm_e hf
                  refine x_ist hx hb hKv hP (hD _) hS r_c25 r_s25 g11 eM14 d_LinkAuditModel_allConflicts_111 (fun H locs hP hS => ?_)
                  refine lv_aload_n hx hb d_LinkAuditModel_allConflicts_112 rfl (lv_at hl 5 rfl) ?_
                  refine xg_LinkAuditModel_83 hx hb hta hown hKv hP d_LinkAuditModel_allConflicts_113 ?_
                  refine lv_iconst (v := (3 : Int32)) hx hb d_LinkAuditModel_allConflicts_116 (by decide) ?_
                  refine lv_aload_n hx hb d_LinkAuditModel_allConflicts_117 rfl (lv_at hl 5 rfl) ?_
                  refine xg_LinkAuditModel_207 hx hb hta hown hKv hP d_LinkAuditModel_allConflicts_118 ?_
                  refine lv_imul hx hb d_LinkAuditModel_allConflicts_121 ?_
                  refine lv_iconst (v := (2 : Int32)) hx hb d_LinkAuditModel_allConflicts_122 (by decide) ?_
                  refine lv_iadd hx hb d_LinkAuditModel_allConflicts_123 ?_
                  refine lv_iload hx hb d_LinkAuditModel_allConflicts_124 (lv_at hl 2 rfl) ?_
                  obtain ⟨g12, hf⟩ := gd_ok hf
                  obtain ⟨M15, eM15, hf⟩ := sm_e hf
                  refine x_ist hx hb hKv hP (hD _) hS r_c25 r_s25 g12 eM15 d_LinkAuditModel_allConflicts_126 (fun H locs hP hS => ?_)
                  refine lv_aload_n hx hb d_LinkAuditModel_allConflicts_127 rfl (lv_at hl 5 rfl) ?_
                  refine lv_dup hx hb d_LinkAuditModel_allConflicts_128 rfl ?_
                  refine xg_LinkAuditModel_207 hx hb hta hown hKv hP d_LinkAuditModel_allConflicts_129 ?_
                  refine lv_iconst (v := (1 : Int32)) hx hb d_LinkAuditModel_allConflicts_132 (by decide) ?_
                  refine lv_iadd hx hb d_LinkAuditModel_allConflicts_133 ?_
                  obtain ⟨M16, eM16, hf⟩ := sm_e hf
                  refine xp_LinkAuditModel_207 hx hb hta hown hKv hP (hD _) hS eM16 d_LinkAuditModel_allConflicts_134 (fun H locs hP hS => ?_)
                  refine lv_iinc (v := (x1 + (1 : Int32))) (lv' := [(1, .int (x1 + (1 : Int32))), (6, .int r12), (5, .int r11), (4, .int (x1 - x1 / (5 : Int32) * (5 : Int32))), (3, .int ((x1 / (5 : Int32)) - (x1 / (5 : Int32)) / (5 : Int32) * (5 : Int32))), (2, .int (x1 / (25 : Int32))), (0, .ref (ad 0))]) hx hb d_LinkAuditModel_allConflicts_137 hl (k := 6) rfl rfl (by decide) rfl (fun ls hl => ?_)
                  refine lv_goto (tgt := 11) hx hb d_LinkAuditModel_allConflicts_140 (by decide) ?_
                  exact ih11 (x1 + (1 : Int32)) M16 _ _ _ hf hP hS (lv_sub hl [6, 0] rfl)
                · have hf := ifp c9 hf
                  refine lv_goto (tgt := 137) hx hb d_LinkAuditModel_allConflicts_83 (by decide) ?_
                  refine lv_iinc (v := (x1 + (1 : Int32))) (lv' := [(1, .int (x1 + (1 : Int32))), (6, .int r12), (5, .int r11), (4, .int (x1 - x1 / (5 : Int32) * (5 : Int32))), (3, .int ((x1 / (5 : Int32)) - (x1 / (5 : Int32)) / (5 : Int32) * (5 : Int32))), (2, .int (x1 / (25 : Int32))), (0, .ref (ad 0))]) hx hb d_LinkAuditModel_allConflicts_137 hl (k := 6) rfl rfl (by decide) rfl (fun ls hl => ?_)
                  refine lv_goto (tgt := 11) hx hb d_LinkAuditModel_allConflicts_140 (by decide) ?_
                  exact ih11 (x1 + (1 : Int32)) M _ _ _ hf hP hS (lv_sub hl [6, 0] rfl)
  unfold f_LinkAuditModel_allConflicts at hf
  refine lv_aload_n hx hb d_LinkAuditModel_allConflicts_0 rfl (lv_at hl 0 rfl) ?_
  obtain ⟨M17, hc13, hf⟩ := bd1_e hf
  refine xvr_LinkAuditModel_204 X hkk hD (Nat.le_of_ble_eq_true rfl) ⟨by dsimp only [rmR]; omega, by dsimp only [rmR]; omega⟩ ⟨Nat.zero_le _, Nat.zero_le _⟩ hc13 hl.1 hP hS d_LinkAuditModel_allConflicts_1 (fun H locs hP hS => ?_)
  refine lv_aload_n hx hb d_LinkAuditModel_allConflicts_4 rfl (lv_at hl 0 rfl) ?_
  refine lv_iconst (v := (0 : Int32)) hx hb d_LinkAuditModel_allConflicts_5 (by decide) ?_
  obtain ⟨M18, eM18, hf⟩ := sm_e hf
  refine xp_LinkAuditModel_207 hx hb hta hown hKv hP (hD _) hS eM18 d_LinkAuditModel_allConflicts_6 (fun H locs hP hS => ?_)
  refine lv_iconst (v := (0 : Int32)) hx hb d_LinkAuditModel_allConflicts_9 (by decide) ?_
  refine lv_istore_n (lv' := [(1, .int (0 : Int32)), (0, .ref (ad 0))]) hx hb d_LinkAuditModel_allConflicts_10 rfl hl (by decide) rfl (fun ls hl => ?_)
  exact L11  _ rfl FU (0 : Int32) M18 _ _ _ hf hP hS (lv_sub hl [1, 0] rfl)
-- LinkAuditModel.conflicts
theorem xvr_LinkAuditModel_217 {p : Program} {l : Launch} {e : Env} {R : Room} {s : State} {m : MethodId} {args : Array Value} {below : List Frame} {meth : Method} {c : Code} {H : Heap} {locs : List Loc} {cells slots : Nat} {Q : State → Prop} {cc : ByteArray} {pc : Nat} {ls : Array Slot} {rest : List Value} {D : va_G} {cI cL cG cZ : ClassId} {ad : Nat → Nat} {M : Mem} {H0 : Heap} {M1 : Mem} {nL : Nat}  (X : CallFix p m c cc nL s args ALLW "LinkAuditModel") (hkk : Kk D cI cL cG cZ s) (hD : ∀ M, va_D (r_A ad) (r_ws cI cL cG cZ ad M)) (hrest : (rest.map fun v => v.category).sum ≤ 8) (hR : 7 + 1 ≤ R.frames ∧ 8 + (7 + 11) + 181 ≤ R.locals) (hcs : cells + 0 ≤ R.cells ∧ slots + 0 ≤ R.slots) (hc : f_LinkAuditModel_allConflicts M = some M1) (hsz : ls.size = nL) (hP : va_P D vwC (r_ws cI cL cG cZ ad M) H) (hS : va_S (r_A ad) H0 H locs) (hdg : decode cc pc = .ok (.invokevirtual 217, 3))
    (kk : ∀ (H1 : Heap) (locs1 : List Loc), va_P D vwC (r_ws cI cL cG cZ ad M1) H1 → va_S (r_A ad) H0 H1 locs1 → W p l e R s m args below meth c H1 locs1 cells slots Q (F0 m (pc + 3) ls (rest))) : W p l e R s m args below meth c H locs cells slots Q (F0 m pc ls (.ref (ad 0) :: rest)) := by
  have hta := X.2.2.2.2
  exact x_afterV (va_runV (As := []) (rest := rest) X (c_LinkAuditModel_allConflicts hD hc) ⟨callB_of 0 hta (good_all (L := .code y_LinkAuditModel_allConflicts prog_12_method_41_code 7 none :: ALLW) (List.forall_mem_cons.mpr ⟨wm_970, fun _ h => h⟩)) rfl rfl rfl (hta _ wm_11) (hta _ wm_967) (by decide +kernel) hR, hta _ wm_969, hta _ wp_52⟩ ⟨x_blind Kk_w _, va_recv hkk.1 hP (ci := 10) (q0 := 0) rfl r_c0, x_pre Kk_w hkk hP _⟩ rfl rfl hsz rfl (lv_room hrest) hdg hcs) hS kk
set_option maxHeartbeats 4000000 in
set_option maxRecDepth 100000 in
theorem c_LinkAuditModel_conflicts {l : Launch} {D : va_G} {cI cL cG cZ : ClassId} {ad : Nat → Nat} {M M' : Mem} {r : Int32} (hD : ∀ M, va_D (r_A ad) (r_ws cI cL cG cZ ad M)) (hf : f_LinkAuditModel_conflicts M = some (r, M')) : Mi l y_LinkAuditModel_conflicts (.code y_LinkAuditModel_conflicts prog_12_method_48_code 1 (some .int) :: ALLW) (rmR 8 207) (Kk D cI cL cG cZ) D vwC (r_A ad) (r_ws cI cL cG cZ ad) [.ref (ad 0)] M M' r := by
  refine Mi_of (by decide) (Nat.le_of_ble_eq_true rfl) ?_
  intro p e s m args below meth c ls Q X hkk hret hP hl
  obtain ⟨hx, hb, hml, hown, hta⟩ := id X
  have hKv := hkk.1
  have hS : va_S (r_A ad) s.heap s.heap [] := va_S.rf
  have hl : lv_has ls 1 [(0, .ref (ad 0))] := hl
  unfold f_LinkAuditModel_conflicts at hf
  refine lv_aload_n hx hb d_LinkAuditModel_conflicts_0 rfl (lv_at hl 0 rfl) ?_
  obtain ⟨M3, hc1, hf⟩ := bd1_e hf
  refine xvr_LinkAuditModel_210 X hkk hD (Nat.le_of_ble_eq_true rfl) ⟨by dsimp only [rmR]; omega, by dsimp only [rmR]; omega⟩ ⟨Nat.zero_le _, Nat.zero_le _⟩ hc1 hl.1 hP hS d_LinkAuditModel_conflicts_1 (fun H locs hP hS => ?_)
  refine lv_aload_n hx hb d_LinkAuditModel_conflicts_4 rfl (lv_at hl 0 rfl) ?_
  obtain ⟨M4, hc2, hf⟩ := bd1_e hf
  refine xvr_LinkAuditModel_217 X hkk hD (Nat.le_of_ble_eq_true rfl) ⟨by dsimp only [rmR]; omega, by dsimp only [rmR]; omega⟩ ⟨Nat.zero_le _, Nat.zero_le _⟩ hc2 hl.1 hP hS d_LinkAuditModel_conflicts_5 (fun H locs hP hS => ?_)
  refine lv_aload_n hx hb d_LinkAuditModel_conflicts_8 rfl (lv_at hl 0 rfl) ?_
  refine xg_LinkAuditModel_207 hx hb hta hown hKv hP d_LinkAuditModel_conflicts_9 ?_
  exact hret hf hP hS d_LinkAuditModel_conflicts_12

-- LinkAuditModel.conflict
set_option maxHeartbeats 4000000 in
set_option maxRecDepth 100000 in
theorem c_LinkAuditModel_conflict {l : Launch} {D : va_G} {cI cL cG cZ : ClassId} {ad : Nat → Nat} {M M' : Mem} {a1 : Int32} {a2 : Int32} {r : Int32} (hD : ∀ M, va_D (r_A ad) (r_ws cI cL cG cZ ad M)) (hf : f_LinkAuditModel_conflict M a1 a2 = some (r, M')) : Mi l y_LinkAuditModel_conflict (.code y_LinkAuditModel_conflict prog_12_method_49_code 3 (some .int) :: ALLW) (rmR 8 207) (Kk D cI cL cG cZ) D vwC (r_A ad) (r_ws cI cL cG cZ ad) [.ref (ad 0), .int a1, .int a2] M M' r := by
  refine Mi_of (by decide) (Nat.le_of_ble_eq_true rfl) ?_
  intro p e s m args below meth c ls Q X hkk hret hP hl
  obtain ⟨hx, hb, hml, hown, hta⟩ := id X
  have hKv := hkk.1
  have hS : va_S (r_A ad) s.heap s.heap [] := va_S.rf
  have hl : lv_has ls 3 [(0, .ref (ad 0)), (1, .int a1), (2, .int a2)] := hl
  unfold f_LinkAuditModel_conflict at hf
  refine lv_iload_n hx hb d_LinkAuditModel_conflict_0 rfl (lv_at hl 1 rfl) ?_
  refine lv_if_lt (tgt := 13) hx hb d_LinkAuditModel_conflict_1 (by decide) (fun c1 => ?_) (fun c1 => ?_)
  · have hf := ifp c1 hf
    refine lv_iconst (v := (-1 : Int32)) hx hb d_LinkAuditModel_conflict_13 (by decide) ?_
    exact hret hf hP hS d_LinkAuditModel_conflict_14
  · have hf := ifn c1 hf
    refine lv_iload_n hx hb d_LinkAuditModel_conflict_4 rfl (lv_at hl 2 rfl) ?_
    refine lv_iconst (v := (0 : Int32)) hx hb d_LinkAuditModel_conflict_5 (by decide) ?_
    refine lv_iconst (v := (2 : Int32)) hx hb d_LinkAuditModel_conflict_6 (by decide) ?_
    obtain ⟨r4, hc2, hf⟩ := bd1_e hf
    refine xvr_LinkAuditModel_92 X hkk hD (Nat.le_of_ble_eq_true rfl) ⟨by dsimp only [rmR]; omega, by dsimp only [rmR]; omega⟩ ⟨Nat.zero_le _, Nat.zero_le _⟩ hc2 hl.1 hP hS d_LinkAuditModel_conflict_7 (fun H locs hP hS => ?_)
    refine lv_if_ne (tgt := 15) hx hb d_LinkAuditModel_conflict_10 (by decide) (fun c3 => ?_) (fun c3 => ?_)
    · have hf := ifn c3 hf
      refine lv_aload_n hx hb d_LinkAuditModel_conflict_15 rfl (lv_at hl 0 rfl) ?_
      obtain ⟨M5, hc4, hf⟩ := bd1_e hf
      refine xvr_LinkAuditModel_210 X hkk hD (Nat.le_of_ble_eq_true rfl) ⟨by dsimp only [rmR]; omega, by dsimp only [rmR]; omega⟩ ⟨Nat.zero_le _, Nat.zero_le _⟩ hc4 hl.1 hP hS d_LinkAuditModel_conflict_16 (fun H locs hP hS => ?_)
      refine lv_aload_n hx hb d_LinkAuditModel_conflict_19 rfl (lv_at hl 0 rfl) ?_
      obtain ⟨M6, hc5, hf⟩ := bd1_e hf
      refine xvr_LinkAuditModel_217 X hkk hD (Nat.le_of_ble_eq_true rfl) ⟨by dsimp only [rmR]; omega, by dsimp only [rmR]; omega⟩ ⟨Nat.zero_le _, Nat.zero_le _⟩ hc5 hl.1 hP hS d_LinkAuditModel_conflict_20 (fun H locs hP hS => ?_)
      refine lv_iload_n hx hb d_LinkAuditModel_conflict_23 rfl (lv_at hl 1 rfl) ?_
      refine lv_aload_n hx hb d_LinkAuditModel_conflict_24 rfl (lv_at hl 0 rfl) ?_
      refine xg_LinkAuditModel_207 hx hb hta hown hKv hP d_LinkAuditModel_conflict_25 ?_
      refine lv_icmp_ge (tgt := 44) hx hb d_LinkAuditModel_conflict_28 (by decide) (fun c6 => ?_) (fun c6 => ?_)
      · have hf := ifp c6 hf
        refine lv_iconst (v := (-1 : Int32)) hx hb d_LinkAuditModel_conflict_44 (by decide) ?_
        exact hret hf hP hS d_LinkAuditModel_conflict_45
      · have hf := ifn c6 hf
        refine lv_aload_n hx hb d_LinkAuditModel_conflict_31 rfl (lv_at hl 0 rfl) ?_
        refine xg_LinkAuditModel_83 hx hb hta hown hKv hP d_LinkAuditModel_conflict_32 ?_
        refine lv_iconst (v := (3 : Int32)) hx hb d_LinkAuditModel_conflict_35 (by decide) ?_
        refine lv_iload_n hx hb d_LinkAuditModel_conflict_36 rfl (lv_at hl 1 rfl) ?_
        refine lv_imul hx hb d_LinkAuditModel_conflict_37 ?_
        refine lv_iload_n hx hb d_LinkAuditModel_conflict_38 rfl (lv_at hl 2 rfl) ?_
        refine lv_iadd hx hb d_LinkAuditModel_conflict_39 ?_
        obtain ⟨g7, hf⟩ := gd_ok hf
        refine x_ild hx hb hKv hP r_c25 g7 d_LinkAuditModel_conflict_40 ?_
        refine lv_goto (tgt := 45) hx hb d_LinkAuditModel_conflict_41 (by decide) ?_
        exact hret hf hP hS d_LinkAuditModel_conflict_45
    · have hf := ifp c3 hf
      refine lv_iconst (v := (-1 : Int32)) hx hb d_LinkAuditModel_conflict_13 (by decide) ?_
      exact hret hf hP hS d_LinkAuditModel_conflict_14
-- LinkAuditModel.faults
set_option maxHeartbeats 4000000 in
set_option maxRecDepth 100000 in
theorem c_LinkAuditModel_faults {l : Launch} {D : va_G} {cI cL cG cZ : ClassId} {ad : Nat → Nat} {M M' : Mem} {r : Int32} (hD : ∀ M, va_D (r_A ad) (r_ws cI cL cG cZ ad M)) (hf : f_LinkAuditModel_faults M = some (r, M')) : Mi l y_LinkAuditModel_faults (.code y_LinkAuditModel_faults prog_12_method_50_code 3 (some .int) :: ALLW) (rmR 8 207) (Kk D cI cL cG cZ) D vwC (r_A ad) (r_ws cI cL cG cZ ad) [.ref (ad 0)] M M' r := by
  refine Mi_of (by decide) (Nat.le_of_ble_eq_true rfl) ?_
  intro p e s m args below meth c ls Q X hkk hret hP hl
  obtain ⟨hx, hb, hml, hown, hta⟩ := id X
  have hKv := hkk.1
  have hS : va_S (r_A ad) s.heap s.heap [] := va_S.rf
  have hl : lv_has ls 3 [(0, .ref (ad 0))] := hl
  have L11 : ∀ (ke36 : Int32 → Mem → Option (Int32 × Mem)), ke36 = (fun y1 M8 => bd1 (f_LinkAuditModel_allConflicts M8) (fun M9 => some ((y1 + (M9.1 0 27)), M9))) → ∀ (n11 : Nat) (x1 : Int32) (x2 : Int32) (M : Mem) (H : Heap) (locs : List Loc) (ls : Array Slot), f_LinkAuditModel_faults_L11 ke36 n11 x1 x2 M = some (r, M') → va_P D vwC (r_ws cI cL cG cZ ad M) H → va_S (r_A ad) s.heap H locs → lv_has ls 3 [(0, .ref (ad 0)), (1, .int x1), (2, .int x2)] → W p l e (rmR 8 207) s m args below meth c H locs 0 0 Q (F0 m 11 ls []) := by
    intro ke36 hke36 n11
    induction n11 with
    | zero => intro x1 x2 M H locs ls hf; exact absurd (show (none : Option _) = some _ from hf) (fun q => by cases q)
    | succ n11 ih11 =>
      intro x1 x2 M H locs ls hf hP hS hl
      rw [f_LinkAuditModel_faults_L11] at hf
      refine lv_iload_n hx hb d_LinkAuditModel_faults_11 rfl (lv_at hl 2 rfl) ?_
      refine lv_aload_n hx hb d_LinkAuditModel_faults_12 rfl (lv_at hl 0 rfl) ?_
      refine xg_LinkAuditModel_115 hx hb hta hown hKv hP d_LinkAuditModel_faults_13 ?_
      refine lv_icmp_ge (tgt := 36) hx hb d_LinkAuditModel_faults_16 (by decide) (fun c1 => ?_) (fun c1 => ?_)
      · have hf := ifp c1 hf
        rw [hke36] at hf
        refine lv_aload_n hx hb d_LinkAuditModel_faults_36 rfl (lv_at hl 0 rfl) ?_
        obtain ⟨M10, hc2, hf⟩ := bd1_e hf
        refine xvr_LinkAuditModel_217 X hkk hD (Nat.le_of_ble_eq_true rfl) ⟨by dsimp only [rmR]; omega, by dsimp only [rmR]; omega⟩ ⟨Nat.zero_le _, Nat.zero_le _⟩ hc2 hl.1 hP hS d_LinkAuditModel_faults_37 (fun H locs hP hS => ?_)
        refine lv_iload_n hx hb d_LinkAuditModel_faults_40 rfl (lv_at hl 1 rfl) ?_
        refine lv_aload_n hx hb d_LinkAuditModel_faults_41 rfl (lv_at hl 0 rfl) ?_
        refine xg_LinkAuditModel_207 hx hb hta hown hKv hP d_LinkAuditModel_faults_42 ?_
        refine lv_iadd hx hb d_LinkAuditModel_faults_45 ?_
        exact hret hf hP hS d_LinkAuditModel_faults_46
      · have hf := ifn c1 hf
        refine lv_aload_n hx hb d_LinkAuditModel_faults_19 rfl (lv_at hl 0 rfl) ?_
        refine lv_iload_n hx hb d_LinkAuditModel_faults_20 rfl (lv_at hl 2 rfl) ?_
        obtain ⟨r12, M11, hc3, hf⟩ := bd2_e hf
        refine xvr_LinkAuditModel_195 X hkk hD (Nat.le_of_ble_eq_true rfl) ⟨by dsimp only [rmR]; omega, by dsimp only [rmR]; omega⟩ ⟨Nat.zero_le _, Nat.zero_le _⟩ hc3 hl.1 hP hS d_LinkAuditModel_faults_21 (fun H locs hP hS => ?_)
        refine lv_if_ge (tgt := 30) hx hb d_LinkAuditModel_faults_24 (by decide) (fun c4 => ?_) (fun c4 => ?_)
        · have hf := ifp c4 hf
          refine lv_iinc (v := (x2 + (1 : Int32))) (lv' := [(2, .int (x2 + (1 : Int32))), (0, .ref (ad 0)), (1, .int x1)]) hx hb d_LinkAuditModel_faults_30 hl (k := 2) rfl rfl (by decide) rfl (fun ls hl => ?_)
          refine lv_goto (tgt := 11) hx hb d_LinkAuditModel_faults_33 (by decide) ?_
          exact ih11 x1 (x2 + (1 : Int32)) M11 _ _ _ hf hP hS (lv_sub hl [1, 2, 0] rfl)
        · have hf := ifn c4 hf
          refine lv_iinc (v := (x1 + (1 : Int32))) (lv' := [(1, .int (x1 + (1 : Int32))), (0, .ref (ad 0)), (2, .int x2)]) hx hb d_LinkAuditModel_faults_27 hl (k := 1) rfl rfl (by decide) rfl (fun ls hl => ?_)
          refine lv_iinc (v := (x2 + (1 : Int32))) (lv' := [(2, .int (x2 + (1 : Int32))), (1, .int (x1 + (1 : Int32))), (0, .ref (ad 0))]) hx hb d_LinkAuditModel_faults_30 hl (k := 2) rfl rfl (by decide) rfl (fun ls hl => ?_)
          refine lv_goto (tgt := 11) hx hb d_LinkAuditModel_faults_33 (by decide) ?_
          exact ih11 (x1 + (1 : Int32)) (x2 + (1 : Int32)) M11 _ _ _ hf hP hS (lv_sub hl [2, 1, 0] rfl)
  unfold f_LinkAuditModel_faults at hf
  refine lv_aload_n hx hb d_LinkAuditModel_faults_0 rfl (lv_at hl 0 rfl) ?_
  obtain ⟨M13, hc5, hf⟩ := bd1_e hf
  refine xvr_LinkAuditModel_210 X hkk hD (Nat.le_of_ble_eq_true rfl) ⟨by dsimp only [rmR]; omega, by dsimp only [rmR]; omega⟩ ⟨Nat.zero_le _, Nat.zero_le _⟩ hc5 hl.1 hP hS d_LinkAuditModel_faults_1 (fun H locs hP hS => ?_)
  refine lv_aload_n hx hb d_LinkAuditModel_faults_4 rfl (lv_at hl 0 rfl) ?_
  obtain ⟨r15, M14, hc6, hf⟩ := bd2_e hf
  refine xvr_LinkAuditModel_213 X hkk hD (Nat.le_of_ble_eq_true rfl) ⟨by dsimp only [rmR]; omega, by dsimp only [rmR]; omega⟩ ⟨Nat.zero_le _, Nat.zero_le _⟩ hc6 hl.1 hP hS d_LinkAuditModel_faults_5 (fun H locs hP hS => ?_)
  refine lv_istore_n (lv' := [(1, .int r15), (0, .ref (ad 0))]) hx hb d_LinkAuditModel_faults_8 rfl hl (by decide) rfl (fun ls hl => ?_)
  refine lv_iconst (v := (0 : Int32)) hx hb d_LinkAuditModel_faults_9 (by decide) ?_
  refine lv_istore_n (lv' := [(2, .int (0 : Int32)), (1, .int r15), (0, .ref (ad 0))]) hx hb d_LinkAuditModel_faults_10 rfl hl (by decide) rfl (fun ls hl => ?_)
  exact L11  _ rfl FU r15 (0 : Int32) M14 _ _ _ hf hP hS (lv_sub hl [2, 1, 0] rfl)
-- LinkAuditModel.count
set_option maxHeartbeats 4000000 in
set_option maxRecDepth 100000 in
theorem c_LinkAuditModel_count {l : Launch} {D : va_G} {cI cL cG cZ : ClassId} {ad : Nat → Nat} {M : Mem} {a1 : Int32} {r : Int32} (hD : ∀ M, va_D (r_A ad) (r_ws cI cL cG cZ ad M)) (hf : f_LinkAuditModel_count M a1 = some r) : Mi l y_LinkAuditModel_count (.code y_LinkAuditModel_count prog_12_method_51_code 2 (some .int) :: ALLW) (rmR 0 0) (Kk D cI cL cG cZ) D vwC (r_A ad) (r_ws cI cL cG cZ ad) [.ref (ad 0), .int a1] M M r := by
  refine Mi_ofR (by decide) (Nat.le_of_ble_eq_true rfl) ?_
  intro p e s m args below meth c ls Q X hkk hret hP hl
  obtain ⟨hx, hb, hml, hown, hta⟩ := id X
  have hKv := hkk.1
  have hS : va_S (r_A ad) s.heap s.heap [] := va_S.rf
  have hl : lv_has ls 2 [(0, .ref (ad 0)), (1, .int a1)] := hl
  unfold f_LinkAuditModel_count at hf
  refine lv_iload_n hx hb d_LinkAuditModel_count_0 rfl (lv_at hl 1 rfl) ?_
  refine lv_if_ne (tgt := 11) hx hb d_LinkAuditModel_count_1 (by decide) (fun c1 => ?_) (fun c1 => ?_)
  · have hf := ifn c1 hf
    refine lv_iload_n hx hb d_LinkAuditModel_count_11 rfl (lv_at hl 1 rfl) ?_
    refine lv_iconst (v := (1 : Int32)) hx hb d_LinkAuditModel_count_12 (by decide) ?_
    refine lv_icmp_ne (tgt := 23) hx hb d_LinkAuditModel_count_13 (by decide) (fun c2 => ?_) (fun c2 => ?_)
    · have hf := ifn c2 hf
      refine lv_iload_n hx hb d_LinkAuditModel_count_23 rfl (lv_at hl 1 rfl) ?_
      refine lv_iconst (v := (2 : Int32)) hx hb d_LinkAuditModel_count_24 (by decide) ?_
      refine lv_icmp_ne (tgt := 35) hx hb d_LinkAuditModel_count_25 (by decide) (fun c3 => ?_) (fun c3 => ?_)
      · have hf := ifn c3 hf
        refine lv_iconst (v := (-1 : Int32)) hx hb d_LinkAuditModel_count_35 (by decide) ?_
        exact hret hf hP hS d_LinkAuditModel_count_36
      · have hf := ifp c3 hf
        refine lv_aload_n hx hb d_LinkAuditModel_count_28 rfl (lv_at hl 0 rfl) ?_
        refine xg_LinkAuditModel_115 hx hb hta hown hKv hP d_LinkAuditModel_count_29 ?_
        refine lv_goto (tgt := 36) hx hb d_LinkAuditModel_count_32 (by decide) ?_
        exact hret hf hP hS d_LinkAuditModel_count_36
    · have hf := ifp c2 hf
      refine lv_aload_n hx hb d_LinkAuditModel_count_16 rfl (lv_at hl 0 rfl) ?_
      refine xg_LinkAuditModel_104 hx hb hta hown hKv hP d_LinkAuditModel_count_17 ?_
      refine lv_goto (tgt := 36) hx hb d_LinkAuditModel_count_20 (by decide) ?_
      exact hret hf hP hS d_LinkAuditModel_count_36
  · have hf := ifp c1 hf
    refine lv_aload_n hx hb d_LinkAuditModel_count_4 rfl (lv_at hl 0 rfl) ?_
    refine xg_LinkAuditModel_96 hx hb hta hown hKv hP d_LinkAuditModel_count_5 ?_
    refine lv_goto (tgt := 36) hx hb d_LinkAuditModel_count_8 (by decide) ?_
    exact hret hf hP hS d_LinkAuditModel_count_36

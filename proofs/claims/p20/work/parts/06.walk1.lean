set_option maxHeartbeats 4000000 in
set_option maxRecDepth 100000 in
theorem t_J13_compare_74951 {l : Launch} {E : zE} {a0 : Int64} {a2 : Int64} {s0 : zS} {Q : Int32 → zS → Prop}  (hw : Wp_J13_compare_74951 a0 a2 s0 Q) : zT l 1 E yJ13_compare_74951 cJ13_compare_74951 4 (some .int) [.long a0, .long a2] s0 (zQi Q) := by
  unfold Wp_J13_compare_74951 at hw
  refine z_entry rfl (Nat.le_of_ble_eq_true rfl) rfl ?_
  intro X C D hl hE
  subst hl; subst hE
  have C : zC X cJ13_compare_74951 RJ13 4 1 := C
  refine z_lload_n C dJ13_compare_74951_0 rfl 0 rfl ?_
  refine z_lload_n C dJ13_compare_74951_1 rfl 1 rfl ?_
  refine z_lcmp_ge C (tgt := 10) dJ13_compare_74951_2 dJ13_compare_74951_3 (by decide) (fun h => ?_) (fun h => ?_)
  · replace hw := hw.1 h
    refine z_lload_n C dJ13_compare_74951_10 rfl 0 rfl ?_
    refine z_lload_n C dJ13_compare_74951_11 rfl 1 rfl ?_
    refine z_lcmp_ne C (tgt := 20) dJ13_compare_74951_12 dJ13_compare_74951_13 (by decide) (fun h => ?_) (fun h => ?_)
    · replace hw := hw.1 h
      refine z_iconst C 1 dJ13_compare_74951_20 (by decide) ?_
      exact z_ireturn C D dJ13_compare_74951_21 ⟨_, rfl, hw⟩
    · replace hw := hw.2 h
      refine z_iconst C 0 dJ13_compare_74951_16 (by decide) ?_
      refine z_goto C (tgt := 21) dJ13_compare_74951_17 (by decide) ?_
      exact z_ireturn C D dJ13_compare_74951_21 ⟨_, rfl, hw⟩
  · replace hw := hw.2 h
    refine z_iconst C (-1) dJ13_compare_74951_6 (by decide) ?_
    refine z_goto C (tgt := 21) dJ13_compare_74951_7 (by decide) ?_
    exact z_ireturn C D dJ13_compare_74951_21 ⟨_, rfl, hw⟩
set_option maxHeartbeats 4000000 in
set_option maxRecDepth 100000 in
theorem t_X3_sign {l : Launch} {E : zE}  {s0 : zS} {Q : Int32 → zS → Prop}  (hw : Wp_X3_sign  s0 Q) : zT l 2 E yX3_sign cX3_sign 1 (some .int) [.ref (E.1 1 0)] s0 (zQi Q) := by
  unfold Wp_X3_sign at hw
  refine z_entry rfl (Nat.le_of_ble_eq_true rfl) rfl ?_
  intro X C D hl hE
  subst hl; subst hE
  have C : zC X cX3_sign RX3 1 2 := C
  refine z_aload_n C dX3_sign_0 rfl 0 rfl ?_
  refine f_X3_7 C dX3_sign_1 ?_
  refine z_lconst C 0 dX3_sign_4 (by decide) ?_
  refine z_callS C (by decide) M_J13_compare_74951 Ms_J13_compare_74951 kw_m_X3_26 (t_J13_compare_74951 hw) rfl rfl (Nat.le_of_ble_eq_true rfl) dX3_sign_5 (z_ki (fun r1 s2 hw => ?_))
  exact z_ireturn C D dX3_sign_8 ⟨_, rfl, hw⟩
set_option maxHeartbeats 4000000 in
set_option maxRecDepth 100000 in
theorem t_X8_sure {l : Launch} {E : zE} {a1 : Int32} {a2 : Int32} {a3 : Int32} {s0 : zS} {Q : Int32 → zS → Prop}  (hw : Wp_X8_sure a1 a2 a3 s0 Q) : zT l 5 E yX8_sure cX8_sure 4 (some .int) [.ref (E.1 0 0), .int a1, .int a2, .int a3] s0 (zQi Q) := by
  unfold Wp_X8_sure at hw
  refine z_entry rfl (Nat.le_of_ble_eq_true rfl) rfl ?_
  intro X C D hl hE
  subst hl; subst hE
  have C : zC X cX8_sure RX8 4 5 := C
  refine z_aload_n C dX8_sure_0 rfl 0 rfl ?_
  refine z_aload_n C dX8_sure_1 rfl 0 rfl ?_
  refine z_iload_n C dX8_sure_2 rfl 1 rfl ?_
  refine z_iload_n C dX8_sure_3 rfl 2 rfl ?_
  refine z_iload_n C dX8_sure_4 rfl 3 rfl ?_
  refine z_callV C (by decide) M_X8_sureFault Mv_X8_sureFault kw_m_X8_173 ob_X8 (t_X8_sureFault hw) rfl rfl (Nat.le_of_ble_eq_true rfl) dX8_sure_5 (z_ki (fun r1 s2 hw => ?_))
  refine p_X8_67 C dX8_sure_8 (z_nms (fun s3 es3 => ?_))
  replace hw := hw s3 es3
  refine z_aload_n C dX8_sure_11 rfl 0 rfl ?_
  refine f_X8_67 C dX8_sure_12 ?_
  refine z_if_eq C (tgt := 20) dX8_sure_15 (by decide) (fun h => ?_) (fun h => ?_)
  · replace hw := hw.1 h
    refine z_aload_n C dX8_sure_20 rfl 0 rfl ?_
    refine f_X8_10 C dX8_sure_21 ?_
    refine z_aload_n C dX8_sure_24 rfl 0 rfl ?_
    refine f_X8_26 C dX8_sure_25 ?_
    refine z_iload_n C dX8_sure_28 rfl 1 rfl ?_
    refine z_iload_n C dX8_sure_29 rfl 2 rfl ?_
    refine z_iload_n C dX8_sure_30 rfl 3 rfl ?_
    refine z_callV C (by decide) M_X6_sureTop Mv_X6_sureTop kw_m_X8_177 ob_X6 (t_X6_sureTop hw) rfl rfl (Nat.le_of_ble_eq_true rfl) dX8_sure_31 (z_kl (fun r4 s5 hw => ?_))
    refine z_ldc2 C (v := 10) kw_cl_X8_181 dX8_sure_34 ?_
    refine z_iload_n C dX8_sure_37 rfl 3 rfl ?_
    refine z_callS C (by decide) M_X8_power Ms_X8_power kw_m_X8_183 (t_X8_power hw) rfl rfl (Nat.le_of_ble_eq_true rfl) dX8_sure_38 (z_kl (fun r6 s7 hw => ?_))
    refine z_callV C (by decide) M_X3_tell Mv_X3_tell kw_m_X8_187 ob_X3 (t_X3_tell hw) rfl rfl (Nat.le_of_ble_eq_true rfl) dX8_sure_41 (z_kv (fun s9 hw => ?_))
    refine z_aload_n C dX8_sure_44 rfl 0 rfl ?_
    refine f_X8_10 C dX8_sure_45 ?_
    refine z_callV C (by decide) M_X3_sign Mv_X3_sign kw_m_X8_191 ob_X3 (t_X3_sign hw) rfl rfl (Nat.le_of_ble_eq_true rfl) dX8_sure_48 (z_ki (fun r10 s11 hw => ?_))
    exact z_ireturn C D dX8_sure_51 ⟨_, rfl, hw⟩
  · replace hw := hw.2 h
    refine z_iconst C (-1) dX8_sure_18 (by decide) ?_
    exact z_ireturn C D dX8_sure_19 ⟨_, rfl, hw⟩
set_option maxHeartbeats 4000000 in
set_option maxRecDepth 100000 in
theorem t_X9_wrongRoad {l : Launch} {E : zE} {a1 : Int32} {a2 : Int32} {s0 : zS} {Q : Int32 → zS → Prop}  (hw : Wp_X9_wrongRoad a1 a2 s0 Q) : zT l 2 E yX9_wrongRoad cX9_wrongRoad 3 (some .int) [.ref (E.1 54 0), .int a1, .int a2] s0 (zQi Q) := by
  unfold Wp_X9_wrongRoad at hw
  refine z_entry rfl (Nat.le_of_ble_eq_true rfl) rfl ?_
  intro X C D hl hE
  subst hl; subst hE
  have C : zC X cX9_wrongRoad RX9 3 2 := C
  refine z_aload_n C dX9_wrongRoad_0 rfl 0 rfl ?_
  refine z_iload_n C dX9_wrongRoad_1 rfl 1 rfl ?_
  refine z_callV C (by decide) M_X9_isTown Mv_X9_isTown kw_m_X9_146 ob_X9 (t_X9_isTown hw) rfl rfl (Nat.le_of_ble_eq_true rfl) dX9_wrongRoad_2 (z_kb (fun r1 s2 hr1 hw => ?_))
  refine z_if_eq C (tgt := 21) dX9_wrongRoad_5 (by decide) (fun h => ?_) (fun h => ?_)
  · replace hw := hw.1 h
    refine z_iconst C 1 dX9_wrongRoad_21 (by decide) ?_
    refine z_goto C (tgt := 45) dX9_wrongRoad_22 (by decide) ?_
    exact z_ireturn C D dX9_wrongRoad_45 ⟨_, rfl, hw⟩
  · replace hw := hw.2 h
    refine z_aload_n C dX9_wrongRoad_8 rfl 0 rfl ?_
    refine z_iload_n C dX9_wrongRoad_9 rfl 2 rfl ?_
    refine z_callV C (by decide) M_X9_isTown Mv_X9_isTown kw_m_X9_146 ob_X9 (t_X9_isTown hw) rfl rfl (Nat.le_of_ble_eq_true rfl) dX9_wrongRoad_10 (z_kb (fun r3 s4 hr3 hw => ?_))
    refine z_if_eq C (tgt := 21) dX9_wrongRoad_13 (by decide) (fun h => ?_) (fun h => ?_)
    · replace hw := hw.1 h
      refine z_iconst C 1 dX9_wrongRoad_21 (by decide) ?_
      refine z_goto C (tgt := 45) dX9_wrongRoad_22 (by decide) ?_
      exact z_ireturn C D dX9_wrongRoad_45 ⟨_, rfl, hw⟩
    · replace hw := hw.2 h
      refine z_iload_n C dX9_wrongRoad_16 rfl 1 rfl ?_
      refine z_iload_n C dX9_wrongRoad_17 rfl 2 rfl ?_
      refine z_icmp_ne C (tgt := 25) dX9_wrongRoad_18 (by decide) (fun h => ?_) (fun h => ?_)
      · replace hw := hw.1 h
        refine z_aload_n C dX9_wrongRoad_25 rfl 0 rfl ?_
        refine f_X9_24 C dX9_wrongRoad_26 ?_
        refine z_iload_n C dX9_wrongRoad_29 rfl 1 rfl ?_
        refine z_iload_n C dX9_wrongRoad_30 rfl 2 rfl ?_
        refine z_callS C (by decide) M_X9_at Ms_X9_at kw_m_X9_143 (t_X9_at hw) rfl rfl (Nat.le_of_ble_eq_true rfl) dX9_wrongRoad_31 (z_ki (fun r5 s6 hw => ?_))
        refine z_iald C za_58 (by decide) (Int32.toNatClampNeg r5) rfl hw.1 dX9_wrongRoad_34 ?_
        replace hw := hw.2
        refine z_iconst C (-1) dX9_wrongRoad_35 (by decide) ?_
        refine z_icmp_ne C (tgt := 44) dX9_wrongRoad_36 (by decide) (fun h => ?_) (fun h => ?_)
        · replace hw := hw.1 h
          refine z_iconst C 0 dX9_wrongRoad_44 (by decide) ?_
          exact z_ireturn C D dX9_wrongRoad_45 ⟨_, rfl, hw⟩
        · replace hw := hw.2 h
          refine z_bipush C 6 dX9_wrongRoad_39 (by decide) ?_
          refine z_goto C (tgt := 45) dX9_wrongRoad_41 (by decide) ?_
          exact z_ireturn C D dX9_wrongRoad_45 ⟨_, rfl, hw⟩
      · replace hw := hw.2 h
        refine z_iconst C 1 dX9_wrongRoad_21 (by decide) ?_
        refine z_goto C (tgt := 45) dX9_wrongRoad_22 (by decide) ?_
        exact z_ireturn C D dX9_wrongRoad_45 ⟨_, rfl, hw⟩
set_option maxHeartbeats 4000000 in
set_option maxRecDepth 100000 in
theorem t_X9_power {l : Launch} {E : zE} {a0 : Int32} {a1 : Int32} {s0 : zS} {Q : Int64 → zS → Prop}  (hw : Wp_X9_power a0 a1 s0 Q) : zT l 1 E yX9_power cX9_power 5 (some .long) [.int a0, .int a1] s0 (zQl Q) := by
  unfold Wp_X9_power at hw
  refine z_entry rfl (Nat.le_of_ble_eq_true rfl) rfl ?_
  intro X C D hl hE
  subst hl; subst hE
  have C : zC X cX9_power RX9 5 1 := C
  refine z_use (hw (fun v2 v4 s0 => zV X 5 [(0, .int a0), (1, .int a1), (2, .long v2), (4, .int v4)] [] s0) (fun v2 v4 s0 hw => ?_)) (fun hw => ?_)
  · show zV X 5 _ _ _
    refine z_iload C dX9_power_5 3 rfl ?_
    refine z_iload_n C dX9_power_7 rfl 1 rfl ?_
    refine z_icmp_ge C (tgt := 22) dX9_power_8 (by decide) (fun h => ?_) (fun h => ?_)
    · replace hw := hw.1 h
      refine z_lload_n C dX9_power_22 rfl 2 rfl ?_
      exact z_lreturn C D dX9_power_23 ⟨_, rfl, hw⟩
    · replace hw := hw.2 h
      refine z_lload_n C dX9_power_11 rfl 2 rfl ?_
      refine z_iload_n C dX9_power_12 rfl 0 rfl ?_
      refine z_i2l C dX9_power_13 ?_
      refine z_lmul C dX9_power_14 ?_
      refine z_nml (fun y1 ey1 => ?_)
      replace hw := hw y1 ey1
      refine z_lstore_n C [(2, .long y1), (0, .int a0), (1, .int a1), (4, .int v4)] dX9_power_15 rfl (by decide) rfl ?_
      refine z_iinc C (v4 + 1) [(4, .int (v4 + 1)), (2, .long y1), (0, .int a0), (1, .int a1)] dX9_power_16 3 rfl rfl (by decide) rfl ?_
      refine z_goto C (tgt := 5) dX9_power_19 (by decide) ?_
      exact z_lv [2, 3, 1, 0] rfl hw
  refine z_lconst C 1 dX9_power_0 (by decide) ?_
  refine z_lstore_n C [(2, .long (1 : Int64)), (0, .int a0), (1, .int a1)] dX9_power_1 rfl (by decide) rfl ?_
  refine z_iconst C 0 dX9_power_2 (by decide) ?_
  refine z_istore C [(4, .int (0 : Int32)), (2, .long (1 : Int64)), (0, .int a0), (1, .int a1)] dX9_power_3 (by decide) rfl ?_
  exact z_lv [2, 3, 1, 0] rfl hw
set_option maxHeartbeats 4000000 in
set_option maxRecDepth 100000 in
theorem t_X9_tells {l : Launch} {E : zE} {a1 : Int64} {a3 : Int64} {s0 : zS} {Q : Int32 → zS → Prop}  (hw : Wp_X9_tells a1 a3 s0 Q) : zT l 1 E yX9_tells cX9_tells 11 (some .int) [.ref (E.1 54 0), .long a1, .long a3] s0 (zQi Q) := by
  unfold Wp_X9_tells at hw
  refine z_entry rfl (Nat.le_of_ble_eq_true rfl) rfl ?_
  intro X C D hl hE
  subst hl; subst hE
  have C : zC X cX9_tells RX9 11 1 := C
  refine z_use (hw (fun v5 v7 s0 => zV X 17 [(0, .ref ((zXE X).1 54 0)), (1, .long a1), (3, .long a3), (5, .long v5), (7, .long v7)] [] s0) (fun v5 v7 s0 hw => ?_)) (fun hw => ?_)
  · show zV X 17 _ _ _
    refine z_lload C dX9_tells_17 4 rfl ?_
    refine z_lconst C 0 dX9_tells_19 (by decide) ?_
    refine z_lcmp_eq C (tgt := 42) dX9_tells_20 dX9_tells_21 (by decide) (fun h => ?_) (fun h => ?_)
    · replace hw := hw.1 h
      refine z_aload_n C dX9_tells_42 rfl 0 rfl ?_
      refine z_lload_n C dX9_tells_43 rfl 1 rfl ?_
      refine z_lload C dX9_tells_44 3 rfl ?_
      refine z_ldiv C dX9_tells_46 hw.1 ?_
      replace hw := hw.2
      refine p_X9_113 C dX9_tells_47 (z_nms (fun s2 es2 => ?_))
      replace hw := hw s2 es2
      refine z_aload_n C dX9_tells_50 rfl 0 rfl ?_
      refine z_lload_n C dX9_tells_51 rfl 2 rfl ?_
      refine z_lload C dX9_tells_52 3 rfl ?_
      refine z_ldiv C dX9_tells_54 hw.1 ?_
      replace hw := hw.2
      refine p_X9_7 C dX9_tells_55 (z_nms (fun s3 es3 => ?_))
      replace hw := hw s3 es3
      refine z_aload_n C dX9_tells_58 rfl 0 rfl ?_
      refine z_iconst C 0 dX9_tells_59 (by decide) ?_
      refine p_X9_109 C dX9_tells_60 (z_nms (fun s4 es4 => ?_))
      replace hw := hw s4 es4
      refine z_lload_n C dX9_tells_63 rfl 1 rfl ?_
      refine z_lconst C 0 dX9_tells_64 (by decide) ?_
      refine z_lcmp_le C (tgt := 73) dX9_tells_65 dX9_tells_66 (by decide) (fun h => ?_) (fun h => ?_)
      · replace hw := hw.1 h
        refine z_lload_n C dX9_tells_73 rfl 1 rfl ?_
        refine z_lconst C 0 dX9_tells_74 (by decide) ?_
        refine z_lcmp_ge C (tgt := 83) dX9_tells_75 dX9_tells_76 (by decide) (fun h => ?_) (fun h => ?_)
        · replace hw := hw.1 h
          refine z_iconst C 0 dX9_tells_83 (by decide) ?_
          exact z_ireturn C D dX9_tells_84 ⟨_, rfl, hw⟩
        · replace hw := hw.2 h
          refine z_iconst C (-1) dX9_tells_79 (by decide) ?_
          refine z_goto C (tgt := 84) dX9_tells_80 (by decide) ?_
          exact z_ireturn C D dX9_tells_84 ⟨_, rfl, hw⟩
      · replace hw := hw.2 h
        refine z_iconst C 1 dX9_tells_69 (by decide) ?_
        refine z_goto C (tgt := 84) dX9_tells_70 (by decide) ?_
        exact z_ireturn C D dX9_tells_84 ⟨_, rfl, hw⟩
    · replace hw := hw.2 h
      refine z_lload C dX9_tells_24 3 rfl ?_
      refine z_lload C dX9_tells_26 4 rfl ?_
      refine z_lrem C dX9_tells_28 hw.1 ?_
      replace hw := hw.2
      refine z_nml (fun y5 ey5 => ?_)
      replace hw := hw y5 ey5
      refine z_lstore C [(9, .long y5), (0, .ref ((zXE X).1 54 0)), (1, .long a1), (3, .long a3), (5, .long v5), (7, .long v7)] dX9_tells_29 (by decide) rfl ?_
      refine z_lload C dX9_tells_31 5 rfl ?_
      refine z_lstore C [(5, .long v7), (9, .long y5), (0, .ref ((zXE X).1 54 0)), (1, .long a1), (3, .long a3), (7, .long v7)] dX9_tells_33 (by decide) rfl ?_
      refine z_lload C dX9_tells_35 1 rfl ?_
      refine z_lstore C [(7, .long y5), (5, .long v7), (9, .long y5), (0, .ref ((zXE X).1 54 0)), (1, .long a1), (3, .long a3)] dX9_tells_37 (by decide) rfl ?_
      refine z_goto C (tgt := 17) dX9_tells_39 (by decide) ?_
      exact z_lv [3, 4, 5, 1, 0] rfl hw
  refine z_lload_n C dX9_tells_0 rfl 1 rfl ?_
  refine z_lconst C 0 dX9_tells_1 (by decide) ?_
  refine z_lcmp_ge C (tgt := 11) dX9_tells_2 dX9_tells_3 (by decide) (fun h => ?_) (fun h => ?_)
  · replace hw := hw.1 h
    refine z_lload_n C dX9_tells_11 rfl 1 rfl ?_
    refine z_lstore C [(5, .long a1), (0, .ref ((zXE X).1 54 0)), (1, .long a1), (3, .long a3)] dX9_tells_12 (by decide) rfl ?_
    refine z_lload_n C dX9_tells_14 rfl 3 rfl ?_
    refine z_lstore C [(7, .long a3), (5, .long a1), (0, .ref ((zXE X).1 54 0)), (1, .long a1), (3, .long a3)] dX9_tells_15 (by decide) rfl ?_
    exact z_lv [2, 3, 4, 1, 0] rfl hw
  · replace hw := hw.2 h
    refine z_lload_n C dX9_tells_6 rfl 1 rfl ?_
    refine z_lneg C dX9_tells_7 ?_
    refine z_goto C (tgt := 12) dX9_tells_8 (by decide) ?_
    refine z_nml (fun y1 ey1 => ?_)
    replace hw := hw y1 ey1
    refine z_lstore C [(5, .long y1), (0, .ref ((zXE X).1 54 0)), (1, .long a1), (3, .long a3)] dX9_tells_12 (by decide) rfl ?_
    refine z_lload_n C dX9_tells_14 rfl 3 rfl ?_
    refine z_lstore C [(7, .long a3), (5, .long y1), (0, .ref ((zXE X).1 54 0)), (1, .long a1), (3, .long a3)] dX9_tells_15 (by decide) rfl ?_
    exact z_lv [2, 3, 4, 1, 0] rfl hw
set_option maxHeartbeats 4000000 in
set_option maxRecDepth 100000 in
theorem t_X9_sure {l : Launch} {E : zE} {a1 : Int32} {a2 : Int32} {a3 : Int32} {s0 : zS} {Q : Int32 → zS → Prop}  (hw : Wp_X9_sure a1 a2 a3 s0 Q) : zT l 3 E yX9_sure cX9_sure 5 (some .int) [.ref (E.1 54 0), .int a1, .int a2, .int a3] s0 (zQi Q) := by
  unfold Wp_X9_sure at hw
  refine z_entry rfl (Nat.le_of_ble_eq_true rfl) rfl ?_
  intro X C D hl hE
  subst hl; subst hE
  have C : zC X cX9_sure RX9 5 3 := C
  refine z_iload_n C dX9_sure_0 rfl 3 rfl ?_
  refine z_iconst C 1 dX9_sure_1 (by decide) ?_
  refine z_icmp_lt C (tgt := 10) dX9_sure_2 (by decide) (fun h => ?_) (fun h => ?_)
  · replace hw := hw.1 h
    refine z_iconst C 1 dX9_sure_10 (by decide) ?_
    refine z_goto C (tgt := 20) dX9_sure_11 (by decide) ?_
    refine z_istore C [(4, .int (1 : Int32)), (0, .ref ((zXE X).1 54 0)), (1, .int a1), (2, .int a2), (3, .int a3)] dX9_sure_20 (by decide) rfl ?_
    refine z_iload C dX9_sure_22 0 rfl ?_
    refine z_if_le C (tgt := 34) dX9_sure_24 (by decide) (fun h => absurd h (by decide)) (fun _ => ?_)
    refine z_aload_n C dX9_sure_27 rfl 1 rfl ?_
    refine z_iload C dX9_sure_28 0 rfl ?_
    refine z_callV C (by decide) M_X9_refuse Mv_X9_refuse kw_m_X9_139 ob_X9 (t_X9_refuse hw) rfl rfl (Nat.le_of_ble_eq_true rfl) dX9_sure_30 (z_ki (fun r1 s2 hw => ?_))
    exact z_ireturn C D dX9_sure_33 ⟨_, rfl, hw⟩
  · replace hw := hw.2 h
    refine z_iload_n C dX9_sure_5 rfl 3 rfl ?_
    refine z_iconst C 4 dX9_sure_6 (by decide) ?_
    refine z_icmp_le C (tgt := 14) dX9_sure_7 (by decide) (fun h => ?_) (fun h => ?_)
    · replace hw := hw.1 h
      refine z_aload_n C dX9_sure_14 rfl 0 rfl ?_
      refine z_iload_n C dX9_sure_15 rfl 1 rfl ?_
      refine z_iload_n C dX9_sure_16 rfl 2 rfl ?_
      refine z_callV C (by decide) M_X9_wrongRoad Mv_X9_wrongRoad kw_m_X9_155 ob_X9 (t_X9_wrongRoad hw) rfl rfl (Nat.le_of_ble_eq_true rfl) dX9_sure_17 (z_ki (fun r3 s4 hw => ?_))
      refine z_istore C [(4, .int r3), (0, .ref ((zXE X).1 54 0)), (1, .int a1), (2, .int a2), (3, .int a3)] dX9_sure_20 (by decide) rfl ?_
      refine z_iload C dX9_sure_22 0 rfl ?_
      refine z_if_le C (tgt := 34) dX9_sure_24 (by decide) (fun h => ?_) (fun h => ?_)
      · replace hw := hw.1 h
        refine z_aload_n C dX9_sure_34 rfl 1 rfl ?_
        refine z_bipush C 10 dX9_sure_35 (by decide) ?_
        refine z_iload_n C dX9_sure_37 rfl 4 rfl ?_
        refine z_callS C (by decide) M_X9_power Ms_X9_power kw_m_X9_158 (t_X9_power hw) rfl rfl (Nat.le_of_ble_eq_true rfl) dX9_sure_38 (z_kl (fun r5 s6 hw => ?_))
        refine z_aload_n C dX9_sure_41 rfl 1 rfl ?_
        refine f_X9_27 C dX9_sure_42 ?_
        refine z_iload_n C dX9_sure_45 rfl 2 rfl ?_
        refine z_iload_n C dX9_sure_46 rfl 3 rfl ?_
        refine z_callS C (by decide) M_X9_at Ms_X9_at kw_m_X9_143 (t_X9_at hw) rfl rfl (Nat.le_of_ble_eq_true rfl) dX9_sure_47 (z_ki (fun r7 s8 hw => ?_))
        refine z_iald C za_59 (by decide) (Int32.toNatClampNeg r7) rfl hw.1 dX9_sure_50 ?_
        replace hw := hw.2
        refine z_iload_n C dX9_sure_51 rfl 4 rfl ?_
        refine z_callS C (by decide) M_X9_power Ms_X9_power kw_m_X9_158 (t_X9_power hw) rfl rfl (Nat.le_of_ble_eq_true rfl) dX9_sure_52 (z_kl (fun r9 s10 hw => ?_))
        refine z_lsub C dX9_sure_55 ?_
        refine z_bipush C 10 dX9_sure_56 (by decide) ?_
        refine z_iload_n C dX9_sure_58 rfl 4 rfl ?_
        refine z_callS C (by decide) M_X9_power Ms_X9_power kw_m_X9_158 (t_X9_power hw) rfl rfl (Nat.le_of_ble_eq_true rfl) dX9_sure_59 (z_kl (fun r11 s12 hw => ?_))
        refine z_callV C (by decide) M_X9_tells Mv_X9_tells kw_m_X9_162 ob_X9 (t_X9_tells hw) rfl rfl (Nat.le_of_ble_eq_true rfl) dX9_sure_62 (z_ki (fun r13 s14 hw => ?_))
        exact z_ireturn C D dX9_sure_65 ⟨_, rfl, hw⟩
      · replace hw := hw.2 h
        refine z_aload_n C dX9_sure_27 rfl 1 rfl ?_
        refine z_iload C dX9_sure_28 0 rfl ?_
        refine z_callV C (by decide) M_X9_refuse Mv_X9_refuse kw_m_X9_139 ob_X9 (t_X9_refuse hw) rfl rfl (Nat.le_of_ble_eq_true rfl) dX9_sure_30 (z_ki (fun r15 s16 hw => ?_))
        exact z_ireturn C D dX9_sure_33 ⟨_, rfl, hw⟩
    · replace hw := hw.2 h
      refine z_iconst C 1 dX9_sure_10 (by decide) ?_
      refine z_goto C (tgt := 20) dX9_sure_11 (by decide) ?_
      refine z_istore C [(4, .int (1 : Int32)), (0, .ref ((zXE X).1 54 0)), (1, .int a1), (2, .int a2), (3, .int a3)] dX9_sure_20 (by decide) rfl ?_
      refine z_iload C dX9_sure_22 0 rfl ?_
      refine z_if_le C (tgt := 34) dX9_sure_24 (by decide) (fun h => absurd h (by decide)) (fun _ => ?_)
      refine z_aload_n C dX9_sure_27 rfl 1 rfl ?_
      refine z_iload C dX9_sure_28 0 rfl ?_
      refine z_callV C (by decide) M_X9_refuse Mv_X9_refuse kw_m_X9_139 ob_X9 (t_X9_refuse hw) rfl rfl (Nat.le_of_ble_eq_true rfl) dX9_sure_30 (z_ki (fun r17 s18 hw => ?_))
      exact z_ireturn C D dX9_sure_33 ⟨_, rfl, hw⟩
set_option maxHeartbeats 4000000 in
set_option maxRecDepth 100000 in
theorem t_X6_fewestDoubles {l : Launch} {E : zE} {a1 : Int32} {a2 : Int32} {a3 : Int32} {a4 : Int32} {s0 : zS} {Q : Int32 → zS → Prop}  (hw : Wp_X6_fewestDoubles a1 a2 a3 a4 s0 Q) : zT l 3 E yX6_fewestDoubles cX6_fewestDoubles 6 (some .int) [.ref (E.1 7 0), .int a1, .int a2, .int a3, .int a4] s0 (zQi Q) := by
  unfold Wp_X6_fewestDoubles at hw
  refine z_entry rfl (Nat.le_of_ble_eq_true rfl) rfl ?_
  intro X C D hl hE
  subst hl; subst hE
  have C : zC X cX6_fewestDoubles RX6 6 3 := C
  refine z_use (hw (fun v5 s0 => zV X 14 [(0, .ref ((zXE X).1 7 0)), (1, .int a1), (2, .int a2), (3, .int a3), (4, .int a4), (5, .int v5)] [] s0) (fun v5 s0 hw => ?_)) (fun hw => ?_)
  · show zV X 14 _ _ _
    refine z_iload C dX6_fewestDoubles_14 5 rfl ?_
    refine z_iconst C 4 dX6_fewestDoubles_16 (by decide) ?_
    refine z_icmp_gt C (tgt := 56) dX6_fewestDoubles_17 (by decide) (fun h => ?_) (fun h => ?_)
    · replace hw := hw.1 h
      refine z_iconst C (-1) dX6_fewestDoubles_56 (by decide) ?_
      exact z_ireturn C D dX6_fewestDoubles_57 ⟨_, rfl, hw⟩
    · replace hw := hw.2 h
      refine z_aload_n C dX6_fewestDoubles_20 rfl 0 rfl ?_
      refine z_iload_n C dX6_fewestDoubles_21 rfl 1 rfl ?_
      refine z_iload_n C dX6_fewestDoubles_22 rfl 2 rfl ?_
      refine z_iload C dX6_fewestDoubles_23 5 rfl ?_
      refine z_callV C (by decide) M_X6_sureTop Mv_X6_sureTop kw_m_X6_42 ob_X6 (t_X6_sureTop hw) rfl rfl (Nat.le_of_ble_eq_true rfl) dX6_fewestDoubles_25 (z_kl (fun r3 s4 hw => ?_))
      refine z_iload C dX6_fewestDoubles_28 4 rfl ?_
      refine z_i2l C dX6_fewestDoubles_30 ?_
      refine z_lmul C dX6_fewestDoubles_31 ?_
      refine z_iload_n C dX6_fewestDoubles_32 rfl 3 rfl ?_
      refine z_i2l C dX6_fewestDoubles_33 ?_
      refine z_ldc2 C (v := 10) kw_cl_X6_32 dX6_fewestDoubles_34 ?_
      refine z_iload C dX6_fewestDoubles_37 5 rfl ?_
      refine z_callSN C (by decide) M_X8_power Ms_X8_power kw_mn_X6_34 (t_X8_power hw) rfl rfl (Nat.le_of_ble_eq_true rfl) dX6_fewestDoubles_39 (z_kl (fun r5 s6 hw => ?_))
      refine z_lmul C dX6_fewestDoubles_42 ?_
      refine z_lcmp_lt C (tgt := 50) dX6_fewestDoubles_43 dX6_fewestDoubles_44 (by decide) (fun h => ?_) (fun h => ?_)
      · replace hw := hw.1 h
        refine z_iinc C (v5 + 1) [(5, .int (v5 + 1)), (0, .ref ((zXE X).1 7 0)), (1, .int a1), (2, .int a2), (3, .int a3), (4, .int a4)] dX6_fewestDoubles_50 5 rfl rfl (by decide) rfl ?_
        refine z_goto C (tgt := 14) dX6_fewestDoubles_53 (by decide) ?_
        exact z_lv [1, 2, 3, 4, 5, 0] rfl hw
      · replace hw := hw.2 h
        refine z_iload C dX6_fewestDoubles_47 5 rfl ?_
        exact z_ireturn C D dX6_fewestDoubles_49 ⟨_, rfl, hw⟩
  refine z_aload_n C dX6_fewestDoubles_0 rfl 0 rfl ?_
  refine z_iload_n C dX6_fewestDoubles_1 rfl 1 rfl ?_
  refine z_iload_n C dX6_fewestDoubles_2 rfl 2 rfl ?_
  refine z_callV C (by decide) M_X6_isRoad Mv_X6_isRoad kw_m_X6_38 ob_X6 (t_X6_isRoad hw) rfl rfl (Nat.le_of_ble_eq_true rfl) dX6_fewestDoubles_3 (z_kb (fun r1 s2 hr1 hw => ?_))
  refine z_if_ne C (tgt := 11) dX6_fewestDoubles_6 (by decide) (fun h => ?_) (fun h => ?_)
  · replace hw := hw.1 h
    refine z_iconst C 1 dX6_fewestDoubles_11 (by decide) ?_
    refine z_istore C [(5, .int (1 : Int32)), (0, .ref ((zXE X).1 7 0)), (1, .int a1), (2, .int a2), (3, .int a3), (4, .int a4)] dX6_fewestDoubles_12 (by decide) rfl ?_
    exact z_lv [1, 2, 3, 4, 5, 0] rfl hw
  · replace hw := hw.2 h
    refine z_iconst C (-1) dX6_fewestDoubles_9 (by decide) ?_
    exact z_ireturn C D dX6_fewestDoubles_10 ⟨_, rfl, hw⟩
set_option maxHeartbeats 4000000 in
set_option maxRecDepth 100000 in
theorem t_X8_isChance {l : Launch} {E : zE} {a0 : Int32} {a1 : Int32} {s0 : zS} {Q : Int32 → zS → Prop}  (hw : Wp_X8_isChance a0 a1 s0 Q) : zT l 2 E yX8_isChance cX8_isChance 2 (some .boolean) [.int a0, .int a1] s0 (zQb Q) := by
  unfold Wp_X8_isChance at hw
  refine z_entry rfl (Nat.le_of_ble_eq_true rfl) rfl ?_
  intro X C D hl hE
  subst hl; subst hE
  have C : zC X cX8_isChance RX8 2 2 := C
  refine z_iload_n C dX8_isChance_0 rfl 1 rfl ?_
  refine z_iconst C 1 dX8_isChance_1 (by decide) ?_
  refine z_sipush C 1000 dX8_isChance_2 (by decide) ?_
  refine z_callS C (by decide) M_X8_within Ms_X8_within kw_m_X8_85 (t_X8_within hw) rfl rfl (Nat.le_of_ble_eq_true rfl) dX8_isChance_5 (z_kb (fun r1 s2 hr1 hw => ?_))
  refine z_if_eq C (tgt := 24) dX8_isChance_8 (by decide) (fun h => ?_) (fun h => ?_)
  · replace hw := hw.1 h
    refine z_iconst C 0 dX8_isChance_24 (by decide) ?_
    exact z_zreturn C D dX8_isChance_25 (Or.inl rfl) ⟨_, rfl, (Or.inl rfl), hw⟩
  · replace hw := hw.2 h
    refine z_iload_n C dX8_isChance_11 rfl 0 rfl ?_
    refine z_iconst C 0 dX8_isChance_12 (by decide) ?_
    refine z_iload_n C dX8_isChance_13 rfl 1 rfl ?_
    refine z_callS C (by decide) M_X8_within Ms_X8_within kw_m_X8_85 (t_X8_within hw) rfl rfl (Nat.le_of_ble_eq_true rfl) dX8_isChance_14 (z_kb (fun r3 s4 hr3 hw => ?_))
    refine z_if_eq C (tgt := 24) dX8_isChance_17 (by decide) (fun h => ?_) (fun h => ?_)
    · replace hw := hw.1 h
      refine z_iconst C 0 dX8_isChance_24 (by decide) ?_
      exact z_zreturn C D dX8_isChance_25 (Or.inl rfl) ⟨_, rfl, (Or.inl rfl), hw⟩
    · replace hw := hw.2 h
      refine z_iconst C 1 dX8_isChance_20 (by decide) ?_
      refine z_goto C (tgt := 25) dX8_isChance_21 (by decide) ?_
      exact z_zreturn C D dX8_isChance_25 (Or.inr rfl) ⟨_, rfl, (Or.inr rfl), hw⟩
set_option maxHeartbeats 4000000 in
set_option maxRecDepth 100000 in
theorem t_X8_doubles {l : Launch} {E : zE} {a1 : Int32} {a2 : Int32} {a3 : Int32} {a4 : Int32} {s0 : zS} {Q : Int32 → zS → Prop}  (hw : Wp_X8_doubles a1 a2 a3 a4 s0 Q) : zT l 4 E yX8_doubles cX8_doubles 6 (some .int) [.ref (E.1 0 0), .int a1, .int a2, .int a3, .int a4] s0 (zQi Q) := by
  unfold Wp_X8_doubles at hw
  refine z_entry rfl (Nat.le_of_ble_eq_true rfl) rfl ?_
  intro X C D hl hE
  subst hl; subst hE
  have C : zC X cX8_doubles RX8 6 4 := C
  refine z_aload_n C dX8_doubles_0 rfl 0 rfl ?_
  refine z_aload_n C dX8_doubles_1 rfl 0 rfl ?_
  refine z_iload_n C dX8_doubles_2 rfl 1 rfl ?_
  refine z_callV C (by decide) M_X8_isTown Mv_X8_isTown kw_m_X8_167 ob_X8 (t_X8_isTown hw) rfl rfl (Nat.le_of_ble_eq_true rfl) dX8_doubles_3 (z_kb (fun r1 s2 hr1 hw => ?_))
  refine z_if_eq C (tgt := 30) dX8_doubles_6 (by decide) (fun h => ?_) (fun h => ?_)
  · replace hw := hw.1 h
    refine z_iconst C 0 dX8_doubles_30 (by decide) ?_
    refine z_callS C (by decide) M_X8_wrongUnless Ms_X8_wrongUnless kw_m_X8_89 (t_X8_wrongUnless hw) rfl rfl (Nat.le_of_ble_eq_true rfl) dX8_doubles_31 (z_ki (fun r3 s4 hw => ?_))
    refine p_X8_67 C dX8_doubles_34 (z_nms (fun s5 es5 => ?_))
    replace hw := hw s5 es5
    refine z_aload_n C dX8_doubles_37 rfl 0 rfl ?_
    refine f_X8_67 C dX8_doubles_38 ?_
    refine z_if_eq C (tgt := 46) dX8_doubles_41 (by decide) (fun h => ?_) (fun h => ?_)
    · replace hw := hw.1 h
      refine z_aload_n C dX8_doubles_46 rfl 0 rfl ?_
      refine f_X8_26 C dX8_doubles_47 ?_
      refine z_iload_n C dX8_doubles_50 rfl 1 rfl ?_
      refine z_iload_n C dX8_doubles_51 rfl 2 rfl ?_
      refine z_iload_n C dX8_doubles_52 rfl 3 rfl ?_
      refine z_iload C dX8_doubles_53 4 rfl ?_
      refine z_callV C (by decide) M_X6_fewestDoubles Mv_X6_fewestDoubles kw_m_X8_197 ob_X6 (t_X6_fewestDoubles hw) rfl rfl (Nat.le_of_ble_eq_true rfl) dX8_doubles_55 (z_ki (fun r6 s7 hw => ?_))
      refine z_istore C [(5, .int r6), (0, .ref ((zXE X).1 0 0)), (1, .int a1), (2, .int a2), (3, .int a3), (4, .int a4)] dX8_doubles_58 (by decide) rfl ?_
      refine z_iload C dX8_doubles_60 0 rfl ?_
      refine z_iconst C (-1) dX8_doubles_62 (by decide) ?_
      refine z_icmp_ne C (tgt := 72) dX8_doubles_63 (by decide) (fun h => ?_) (fun h => ?_)
      · replace hw := hw.1 h
        refine z_iload C dX8_doubles_72 0 rfl ?_
        exact z_ireturn C D dX8_doubles_74 ⟨_, rfl, hw⟩
      · replace hw := hw.2 h
        refine z_aload_n C dX8_doubles_66 rfl 1 rfl ?_
        refine z_bipush C 6 dX8_doubles_67 (by decide) ?_
        refine p_X8_67 C dX8_doubles_69 (z_nms (fun s8 es8 => ?_))
        replace hw := hw s8 es8
        refine z_iload C dX8_doubles_72 0 rfl ?_
        exact z_ireturn C D dX8_doubles_74 ⟨_, rfl, hw⟩
    · replace hw := hw.2 h
      refine z_iconst C (-1) dX8_doubles_44 (by decide) ?_
      exact z_ireturn C D dX8_doubles_45 ⟨_, rfl, hw⟩
  · replace hw := hw.2 h
    refine z_aload_n C dX8_doubles_9 rfl 0 rfl ?_
    refine z_iload_n C dX8_doubles_10 rfl 2 rfl ?_
    refine z_callV C (by decide) M_X8_isTown Mv_X8_isTown kw_m_X8_167 ob_X8 (t_X8_isTown hw) rfl rfl (Nat.le_of_ble_eq_true rfl) dX8_doubles_11 (z_kb (fun r9 s10 hr9 hw => ?_))
    refine z_if_eq C (tgt := 30) dX8_doubles_14 (by decide) (fun h => ?_) (fun h => ?_)
    · replace hw := hw.1 h
      refine z_iconst C 0 dX8_doubles_30 (by decide) ?_
      refine z_callS C (by decide) M_X8_wrongUnless Ms_X8_wrongUnless kw_m_X8_89 (t_X8_wrongUnless hw) rfl rfl (Nat.le_of_ble_eq_true rfl) dX8_doubles_31 (z_ki (fun r11 s12 hw => ?_))
      refine p_X8_67 C dX8_doubles_34 (z_nms (fun s13 es13 => ?_))
      replace hw := hw s13 es13
      refine z_aload_n C dX8_doubles_37 rfl 0 rfl ?_
      refine f_X8_67 C dX8_doubles_38 ?_
      refine z_if_eq C (tgt := 46) dX8_doubles_41 (by decide) (fun h => ?_) (fun h => ?_)
      · replace hw := hw.1 h
        refine z_aload_n C dX8_doubles_46 rfl 0 rfl ?_
        refine f_X8_26 C dX8_doubles_47 ?_
        refine z_iload_n C dX8_doubles_50 rfl 1 rfl ?_
        refine z_iload_n C dX8_doubles_51 rfl 2 rfl ?_
        refine z_iload_n C dX8_doubles_52 rfl 3 rfl ?_
        refine z_iload C dX8_doubles_53 4 rfl ?_
        refine z_callV C (by decide) M_X6_fewestDoubles Mv_X6_fewestDoubles kw_m_X8_197 ob_X6 (t_X6_fewestDoubles hw) rfl rfl (Nat.le_of_ble_eq_true rfl) dX8_doubles_55 (z_ki (fun r14 s15 hw => ?_))
        refine z_istore C [(5, .int r14), (0, .ref ((zXE X).1 0 0)), (1, .int a1), (2, .int a2), (3, .int a3), (4, .int a4)] dX8_doubles_58 (by decide) rfl ?_
        refine z_iload C dX8_doubles_60 0 rfl ?_
        refine z_iconst C (-1) dX8_doubles_62 (by decide) ?_
        refine z_icmp_ne C (tgt := 72) dX8_doubles_63 (by decide) (fun h => ?_) (fun h => ?_)
        · replace hw := hw.1 h
          refine z_iload C dX8_doubles_72 0 rfl ?_
          exact z_ireturn C D dX8_doubles_74 ⟨_, rfl, hw⟩
        · replace hw := hw.2 h
          refine z_aload_n C dX8_doubles_66 rfl 1 rfl ?_
          refine z_bipush C 6 dX8_doubles_67 (by decide) ?_
          refine p_X8_67 C dX8_doubles_69 (z_nms (fun s16 es16 => ?_))
          replace hw := hw s16 es16
          refine z_iload C dX8_doubles_72 0 rfl ?_
          exact z_ireturn C D dX8_doubles_74 ⟨_, rfl, hw⟩
      · replace hw := hw.2 h
        refine z_iconst C (-1) dX8_doubles_44 (by decide) ?_
        exact z_ireturn C D dX8_doubles_45 ⟨_, rfl, hw⟩
    · replace hw := hw.2 h
      refine z_iload_n C dX8_doubles_17 rfl 3 rfl ?_
      refine z_iload C dX8_doubles_18 4 rfl ?_
      refine z_callS C (by decide) M_X8_isChance Ms_X8_isChance kw_m_X8_194 (t_X8_isChance hw) rfl rfl (Nat.le_of_ble_eq_true rfl) dX8_doubles_20 (z_kb (fun r17 s18 hr17 hw => ?_))
      refine z_if_eq C (tgt := 30) dX8_doubles_23 (by decide) (fun h => ?_) (fun h => ?_)
      · replace hw := hw.1 h
        refine z_iconst C 0 dX8_doubles_30 (by decide) ?_
        refine z_callS C (by decide) M_X8_wrongUnless Ms_X8_wrongUnless kw_m_X8_89 (t_X8_wrongUnless hw) rfl rfl (Nat.le_of_ble_eq_true rfl) dX8_doubles_31 (z_ki (fun r19 s20 hw => ?_))
        refine p_X8_67 C dX8_doubles_34 (z_nms (fun s21 es21 => ?_))
        replace hw := hw s21 es21
        refine z_aload_n C dX8_doubles_37 rfl 0 rfl ?_
        refine f_X8_67 C dX8_doubles_38 ?_
        refine z_if_eq C (tgt := 46) dX8_doubles_41 (by decide) (fun h => ?_) (fun h => ?_)
        · replace hw := hw.1 h
          refine z_aload_n C dX8_doubles_46 rfl 0 rfl ?_
          refine f_X8_26 C dX8_doubles_47 ?_
          refine z_iload_n C dX8_doubles_50 rfl 1 rfl ?_
          refine z_iload_n C dX8_doubles_51 rfl 2 rfl ?_
          refine z_iload_n C dX8_doubles_52 rfl 3 rfl ?_
          refine z_iload C dX8_doubles_53 4 rfl ?_
          refine z_callV C (by decide) M_X6_fewestDoubles Mv_X6_fewestDoubles kw_m_X8_197 ob_X6 (t_X6_fewestDoubles hw) rfl rfl (Nat.le_of_ble_eq_true rfl) dX8_doubles_55 (z_ki (fun r22 s23 hw => ?_))
          refine z_istore C [(5, .int r22), (0, .ref ((zXE X).1 0 0)), (1, .int a1), (2, .int a2), (3, .int a3), (4, .int a4)] dX8_doubles_58 (by decide) rfl ?_
          refine z_iload C dX8_doubles_60 0 rfl ?_
          refine z_iconst C (-1) dX8_doubles_62 (by decide) ?_
          refine z_icmp_ne C (tgt := 72) dX8_doubles_63 (by decide) (fun h => ?_) (fun h => ?_)
          · replace hw := hw.1 h
            refine z_iload C dX8_doubles_72 0 rfl ?_
            exact z_ireturn C D dX8_doubles_74 ⟨_, rfl, hw⟩
          · replace hw := hw.2 h
            refine z_aload_n C dX8_doubles_66 rfl 1 rfl ?_
            refine z_bipush C 6 dX8_doubles_67 (by decide) ?_
            refine p_X8_67 C dX8_doubles_69 (z_nms (fun s24 es24 => ?_))
            replace hw := hw s24 es24
            refine z_iload C dX8_doubles_72 0 rfl ?_
            exact z_ireturn C D dX8_doubles_74 ⟨_, rfl, hw⟩
        · replace hw := hw.2 h
          refine z_iconst C (-1) dX8_doubles_44 (by decide) ?_
          exact z_ireturn C D dX8_doubles_45 ⟨_, rfl, hw⟩
      · replace hw := hw.2 h
        refine z_iconst C 1 dX8_doubles_26 (by decide) ?_
        refine z_goto C (tgt := 31) dX8_doubles_27 (by decide) ?_
        refine z_callS C (by decide) M_X8_wrongUnless Ms_X8_wrongUnless kw_m_X8_89 (t_X8_wrongUnless hw) rfl rfl (Nat.le_of_ble_eq_true rfl) dX8_doubles_31 (z_ki (fun r25 s26 hw => ?_))
        refine p_X8_67 C dX8_doubles_34 (z_nms (fun s27 es27 => ?_))
        replace hw := hw s27 es27
        refine z_aload_n C dX8_doubles_37 rfl 0 rfl ?_
        refine f_X8_67 C dX8_doubles_38 ?_
        refine z_if_eq C (tgt := 46) dX8_doubles_41 (by decide) (fun h => ?_) (fun h => ?_)
        · replace hw := hw.1 h
          refine z_aload_n C dX8_doubles_46 rfl 0 rfl ?_
          refine f_X8_26 C dX8_doubles_47 ?_
          refine z_iload_n C dX8_doubles_50 rfl 1 rfl ?_
          refine z_iload_n C dX8_doubles_51 rfl 2 rfl ?_
          refine z_iload_n C dX8_doubles_52 rfl 3 rfl ?_
          refine z_iload C dX8_doubles_53 4 rfl ?_
          refine z_callV C (by decide) M_X6_fewestDoubles Mv_X6_fewestDoubles kw_m_X8_197 ob_X6 (t_X6_fewestDoubles hw) rfl rfl (Nat.le_of_ble_eq_true rfl) dX8_doubles_55 (z_ki (fun r28 s29 hw => ?_))
          refine z_istore C [(5, .int r28), (0, .ref ((zXE X).1 0 0)), (1, .int a1), (2, .int a2), (3, .int a3), (4, .int a4)] dX8_doubles_58 (by decide) rfl ?_
          refine z_iload C dX8_doubles_60 0 rfl ?_
          refine z_iconst C (-1) dX8_doubles_62 (by decide) ?_
          refine z_icmp_ne C (tgt := 72) dX8_doubles_63 (by decide) (fun h => ?_) (fun h => ?_)
          · replace hw := hw.1 h
            refine z_iload C dX8_doubles_72 0 rfl ?_
            exact z_ireturn C D dX8_doubles_74 ⟨_, rfl, hw⟩
          · replace hw := hw.2 h
            refine z_aload_n C dX8_doubles_66 rfl 1 rfl ?_
            refine z_bipush C 6 dX8_doubles_67 (by decide) ?_
            refine p_X8_67 C dX8_doubles_69 (z_nms (fun s30 es30 => ?_))
            replace hw := hw s30 es30
            refine z_iload C dX8_doubles_72 0 rfl ?_
            exact z_ireturn C D dX8_doubles_74 ⟨_, rfl, hw⟩
        · replace hw := hw.2 h
          refine z_iconst C (-1) dX8_doubles_44 (by decide) ?_
          exact z_ireturn C D dX8_doubles_45 ⟨_, rfl, hw⟩
set_option maxHeartbeats 4000000 in
set_option maxRecDepth 100000 in
theorem t_X9_isShare {l : Launch} {E : zE} {a0 : Int32} {a1 : Int32} {s0 : zS} {Q : Int32 → zS → Prop}  (hw : Wp_X9_isShare a0 a1 s0 Q) : zT l 1 E yX9_isShare cX9_isShare 2 (some .boolean) [.int a0, .int a1] s0 (zQb Q) := by
  unfold Wp_X9_isShare at hw
  refine z_entry rfl (Nat.le_of_ble_eq_true rfl) rfl ?_
  intro X C D hl hE
  subst hl; subst hE
  have C : zC X cX9_isShare RX9 2 1 := C
  refine z_iload_n C dX9_isShare_0 rfl 1 rfl ?_
  refine z_iconst C 1 dX9_isShare_1 (by decide) ?_
  refine z_icmp_lt C (tgt := 25) dX9_isShare_2 (by decide) (fun h => ?_) (fun h => ?_)
  · replace hw := hw.1 h
    refine z_iconst C 0 dX9_isShare_25 (by decide) ?_
    exact z_zreturn C D dX9_isShare_26 (Or.inl rfl) ⟨_, rfl, (Or.inl rfl), hw⟩
  · replace hw := hw.2 h
    refine z_iload_n C dX9_isShare_5 rfl 1 rfl ?_
    refine z_sipush C 1000 dX9_isShare_6 (by decide) ?_
    refine z_icmp_gt C (tgt := 25) dX9_isShare_9 (by decide) (fun h => ?_) (fun h => ?_)
    · replace hw := hw.1 h
      refine z_iconst C 0 dX9_isShare_25 (by decide) ?_
      exact z_zreturn C D dX9_isShare_26 (Or.inl rfl) ⟨_, rfl, (Or.inl rfl), hw⟩
    · replace hw := hw.2 h
      refine z_iload_n C dX9_isShare_12 rfl 0 rfl ?_
      refine z_if_lt C (tgt := 25) dX9_isShare_13 (by decide) (fun h => ?_) (fun h => ?_)
      · replace hw := hw.1 h
        refine z_iconst C 0 dX9_isShare_25 (by decide) ?_
        exact z_zreturn C D dX9_isShare_26 (Or.inl rfl) ⟨_, rfl, (Or.inl rfl), hw⟩
      · replace hw := hw.2 h
        refine z_iload_n C dX9_isShare_16 rfl 0 rfl ?_
        refine z_iload_n C dX9_isShare_17 rfl 1 rfl ?_
        refine z_icmp_gt C (tgt := 25) dX9_isShare_18 (by decide) (fun h => ?_) (fun h => ?_)
        · replace hw := hw.1 h
          refine z_iconst C 0 dX9_isShare_25 (by decide) ?_
          exact z_zreturn C D dX9_isShare_26 (Or.inl rfl) ⟨_, rfl, (Or.inl rfl), hw⟩
        · replace hw := hw.2 h
          refine z_iconst C 1 dX9_isShare_21 (by decide) ?_
          refine z_goto C (tgt := 26) dX9_isShare_22 (by decide) ?_
          exact z_zreturn C D dX9_isShare_26 (Or.inr rfl) ⟨_, rfl, (Or.inr rfl), hw⟩
set_option maxHeartbeats 4000000 in
set_option maxRecDepth 100000 in
theorem t_X9_doubles {l : Launch} {E : zE} {a1 : Int32} {a2 : Int32} {a3 : Int32} {a4 : Int32} {s0 : zS} {Q : Int32 → zS → Prop}  (hw : Wp_X9_doubles a1 a2 a3 a4 s0 Q) : zT l 3 E yX9_doubles cX9_doubles 7 (some .int) [.ref (E.1 54 0), .int a1, .int a2, .int a3, .int a4] s0 (zQi Q) := by
  unfold Wp_X9_doubles at hw
  refine z_entry rfl (Nat.le_of_ble_eq_true rfl) rfl ?_
  intro X C D hl hE
  subst hl; subst hE
  have C : zC X cX9_doubles RX9 7 3 := C
  refine z_use (hw (fun v6 s0 => zV X 41 [(0, .ref ((zXE X).1 54 0)), (1, .int a1), (2, .int a2), (3, .int a3), (4, .int a4), (6, .int v6)] [] s0) (fun v6 s0 hw => ?_)) (fun hw => ?_)
  · show zV X 41 _ _ _
    refine z_iload C dX9_doubles_41 5 rfl ?_
    refine z_iconst C 4 dX9_doubles_43 (by decide) ?_
    refine z_icmp_gt C (tgt := 97) dX9_doubles_44 (by decide) (fun h => ?_) (fun h => ?_)
    · replace hw := hw.1 h
      refine z_aload_n C dX9_doubles_97 rfl 0 rfl ?_
      refine z_bipush C 6 dX9_doubles_98 (by decide) ?_
      refine z_callV C (by decide) M_X9_refuse Mv_X9_refuse kw_m_X9_139 ob_X9 (t_X9_refuse hw) rfl rfl (Nat.le_of_ble_eq_true rfl) dX9_doubles_100 (z_ki (fun r10 s11 hw => ?_))
      exact z_ireturn C D dX9_doubles_103 ⟨_, rfl, hw⟩
    · replace hw := hw.2 h
      refine z_bipush C 10 dX9_doubles_47 (by decide) ?_
      refine z_iload C dX9_doubles_49 5 rfl ?_
      refine z_callS C (by decide) M_X9_power Ms_X9_power kw_m_X9_158 (t_X9_power hw) rfl rfl (Nat.le_of_ble_eq_true rfl) dX9_doubles_51 (z_kl (fun r12 s13 hw => ?_))
      refine z_aload_n C dX9_doubles_54 rfl 0 rfl ?_
      refine f_X9_27 C dX9_doubles_55 ?_
      refine z_iload_n C dX9_doubles_58 rfl 1 rfl ?_
      refine z_iload_n C dX9_doubles_59 rfl 2 rfl ?_
      refine z_callS C (by decide) M_X9_at Ms_X9_at kw_m_X9_143 (t_X9_at hw) rfl rfl (Nat.le_of_ble_eq_true rfl) dX9_doubles_60 (z_ki (fun r14 s15 hw => ?_))
      refine z_iald C za_59 (by decide) (Int32.toNatClampNeg r14) rfl hw.1 dX9_doubles_63 ?_
      replace hw := hw.2
      refine z_iload C dX9_doubles_64 5 rfl ?_
      refine z_callS C (by decide) M_X9_power Ms_X9_power kw_m_X9_158 (t_X9_power hw) rfl rfl (Nat.le_of_ble_eq_true rfl) dX9_doubles_66 (z_kl (fun r16 s17 hw => ?_))
      refine z_lsub C dX9_doubles_69 ?_
      refine z_iload C dX9_doubles_70 4 rfl ?_
      refine z_i2l C dX9_doubles_72 ?_
      refine z_lmul C dX9_doubles_73 ?_
      refine z_iload_n C dX9_doubles_74 rfl 3 rfl ?_
      refine z_i2l C dX9_doubles_75 ?_
      refine z_bipush C 10 dX9_doubles_76 (by decide) ?_
      refine z_iload C dX9_doubles_78 5 rfl ?_
      refine z_callS C (by decide) M_X9_power Ms_X9_power kw_m_X9_158 (t_X9_power hw) rfl rfl (Nat.le_of_ble_eq_true rfl) dX9_doubles_80 (z_kl (fun r18 s19 hw => ?_))
      refine z_lmul C dX9_doubles_83 ?_
      refine z_lcmp_lt C (tgt := 91) dX9_doubles_84 dX9_doubles_85 (by decide) (fun h => ?_) (fun h => ?_)
      · replace hw := hw.1 h
        refine z_iinc C (v6 + 1) [(6, .int (v6 + 1)), (0, .ref ((zXE X).1 54 0)), (1, .int a1), (2, .int a2), (3, .int a3), (4, .int a4)] dX9_doubles_91 5 rfl rfl (by decide) rfl ?_
        refine z_goto C (tgt := 41) dX9_doubles_94 (by decide) ?_
        exact z_lv [1, 2, 3, 4, 5, 0] rfl hw
      · replace hw := hw.2 h
        refine z_iload C dX9_doubles_88 5 rfl ?_
        exact z_ireturn C D dX9_doubles_90 ⟨_, rfl, hw⟩
  refine z_iload_n C dX9_doubles_0 rfl 3 rfl ?_
  refine z_iload C dX9_doubles_1 4 rfl ?_
  refine z_callS C (by decide) M_X9_isShare Ms_X9_isShare kw_m_X9_166 (t_X9_isShare hw) rfl rfl (Nat.le_of_ble_eq_true rfl) dX9_doubles_3 (z_kb (fun r1 s2 hr1 hw => ?_))
  refine z_if_ne C (tgt := 13) dX9_doubles_6 (by decide) (fun h => ?_) (fun h => ?_)
  · replace hw := hw.1 h
    refine z_aload_n C dX9_doubles_13 rfl 0 rfl ?_
    refine z_iload_n C dX9_doubles_14 rfl 1 rfl ?_
    refine z_iload_n C dX9_doubles_15 rfl 2 rfl ?_
    refine z_callV C (by decide) M_X9_wrongRoad Mv_X9_wrongRoad kw_m_X9_155 ob_X9 (t_X9_wrongRoad hw) rfl rfl (Nat.le_of_ble_eq_true rfl) dX9_doubles_16 (z_ki (fun r3 s4 hw => ?_))
    refine z_istore C [(5, .int r3), (0, .ref ((zXE X).1 54 0)), (1, .int a1), (2, .int a2), (3, .int a3), (4, .int a4)] dX9_doubles_19 (by decide) rfl ?_
    refine z_iload C dX9_doubles_21 0 rfl ?_
    refine z_if_le C (tgt := 33) dX9_doubles_23 (by decide) (fun h => ?_) (fun h => ?_)
    · replace hw := hw.1 h
      refine z_aload_n C dX9_doubles_33 rfl 1 rfl ?_
      refine z_iconst C 0 dX9_doubles_34 (by decide) ?_
      refine p_X9_109 C dX9_doubles_35 (z_nms (fun s5 es5 => ?_))
      replace hw := hw s5 es5
      refine z_iconst C 1 dX9_doubles_38 (by decide) ?_
      refine z_istore C [(6, .int (1 : Int32)), (5, .int r3), (0, .ref ((zXE X).1 54 0)), (1, .int a1), (2, .int a2), (3, .int a3), (4, .int a4)] dX9_doubles_39 (by decide) rfl ?_
      exact z_lv [2, 3, 4, 5, 6, 0] rfl hw
    · replace hw := hw.2 h
      refine z_aload_n C dX9_doubles_26 rfl 1 rfl ?_
      refine z_iload C dX9_doubles_27 0 rfl ?_
      refine z_callV C (by decide) M_X9_refuse Mv_X9_refuse kw_m_X9_139 ob_X9 (t_X9_refuse hw) rfl rfl (Nat.le_of_ble_eq_true rfl) dX9_doubles_29 (z_ki (fun r6 s7 hw => ?_))
      exact z_ireturn C D dX9_doubles_32 ⟨_, rfl, hw⟩
  · replace hw := hw.2 h
    refine z_iconst C 1 dX9_doubles_9 (by decide) ?_
    refine z_goto C (tgt := 19) dX9_doubles_10 (by decide) ?_
    refine z_istore C [(5, .int (1 : Int32)), (0, .ref ((zXE X).1 54 0)), (1, .int a1), (2, .int a2), (3, .int a3), (4, .int a4)] dX9_doubles_19 (by decide) rfl ?_
    refine z_iload C dX9_doubles_21 0 rfl ?_
    refine z_if_le C (tgt := 33) dX9_doubles_23 (by decide) (fun h => absurd h (by decide)) (fun _ => ?_)
    refine z_aload_n C dX9_doubles_26 rfl 1 rfl ?_
    refine z_iload C dX9_doubles_27 0 rfl ?_
    refine z_callV C (by decide) M_X9_refuse Mv_X9_refuse kw_m_X9_139 ob_X9 (t_X9_refuse hw) rfl rfl (Nat.le_of_ble_eq_true rfl) dX9_doubles_29 (z_ki (fun r8 s9 hw => ?_))
    exact z_ireturn C D dX9_doubles_32 ⟨_, rfl, hw⟩
set_option maxHeartbeats 4000000 in
set_option maxRecDepth 100000 in
theorem t_X5_canGoOn {l : Launch} {E : zE} {a1 : Int32} {a2 : Int32} {s0 : zS} {Q : Int32 → zS → Prop}  (hw : Wp_X5_canGoOn a1 a2 s0 Q) : zT l 2 E yX5_canGoOn cX5_canGoOn 4 (some .boolean) [.ref (E.1 22 0), .int a1, .int a2] s0 (zQb Q) := by
  unfold Wp_X5_canGoOn at hw
  refine z_entry rfl (Nat.le_of_ble_eq_true rfl) rfl ?_
  intro X C D hl hE
  subst hl; subst hE
  have C : zC X cX5_canGoOn RX5 4 2 := C
  refine z_use (hw (fun v3 s0 => zV X 2 [(0, .ref ((zXE X).1 22 0)), (1, .int a1), (2, .int a2), (3, .int v3)] [] s0) (fun v3 s0 hw => ?_)) (fun hw => ?_)
  · show zV X 2 _ _ _
    refine z_iload_n C dX5_canGoOn_2 rfl 3 rfl ?_
    refine z_iload_n C dX5_canGoOn_3 rfl 1 rfl ?_
    refine z_icmp_gt C (tgt := 25) dX5_canGoOn_4 (by decide) (fun h => ?_) (fun h => ?_)
    · replace hw := hw.1 h
      refine z_aload_n C dX5_canGoOn_25 rfl 0 rfl ?_
      refine f_X5_53 C dX5_canGoOn_26 ?_
      refine z_aload_n C dX5_canGoOn_29 rfl 0 rfl ?_
      refine f_X5_9 C dX5_canGoOn_30 ?_
      refine z_iload_n C dX5_canGoOn_33 rfl 1 rfl ?_
      refine z_iald C za_23 (by decide) (Int32.toNatClampNeg a1) rfl hw.1 dX5_canGoOn_34 ?_
      replace hw := hw.2
      refine z_iload_n C dX5_canGoOn_35 rfl 2 rfl ?_
      refine z_callV C (by decide) M_X6_isRoad Mv_X6_isRoad kw_m_X5_77 ob_X6 (t_X6_isRoad hw) rfl rfl (Nat.le_of_ble_eq_true rfl) dX5_canGoOn_36 (z_kb (fun r1 s2 hr1 hw => ?_))
      refine z_if_eq C (tgt := 65) dX5_canGoOn_39 (by decide) (fun h => ?_) (fun h => ?_)
      · replace hw := hw.1 h
        refine z_iconst C 0 dX5_canGoOn_65 (by decide) ?_
        exact z_zreturn C D dX5_canGoOn_66 (Or.inl rfl) ⟨_, rfl, (Or.inl rfl), hw⟩
      · replace hw := hw.2 h
        refine z_aload_n C dX5_canGoOn_42 rfl 0 rfl ?_
        refine f_X5_57 C dX5_canGoOn_43 ?_
        refine f_X5_80 C dX5_canGoOn_46 ?_
        refine z_iload_n C dX5_canGoOn_49 rfl 2 rfl ?_
        have hb3 := zin_lt hw.1
        refine z_aald C za_20 (by decide) rfl (Int32.toNatClampNeg a2) rfl hw.1 dX5_canGoOn_50 ?_
        replace hw := hw.2
        refine z_aload_n C dX5_canGoOn_51 rfl 0 rfl ?_
        refine f_X5_9 C dX5_canGoOn_52 ?_
        refine z_iload_n C dX5_canGoOn_55 rfl 1 rfl ?_
        refine z_iald C za_23 (by decide) (Int32.toNatClampNeg a1) rfl hw.1 dX5_canGoOn_56 ?_
        replace hw := hw.2
        refine z_iald C za_21 hb3 (Int32.toNatClampNeg (zi s2 23 0 (Int32.toNatClampNeg a1))) rfl hw.1 dX5_canGoOn_57 ?_
        replace hw := hw.2
        refine z_if_le C (tgt := 65) dX5_canGoOn_58 (by decide) (fun h => ?_) (fun h => ?_)
        · replace hw := hw.1 h
          refine z_iconst C 0 dX5_canGoOn_65 (by decide) ?_
          exact z_zreturn C D dX5_canGoOn_66 (Or.inl rfl) ⟨_, rfl, (Or.inl rfl), hw⟩
        · replace hw := hw.2 h
          refine z_iconst C 1 dX5_canGoOn_61 (by decide) ?_
          refine z_goto C (tgt := 66) dX5_canGoOn_62 (by decide) ?_
          exact z_zreturn C D dX5_canGoOn_66 (Or.inr rfl) ⟨_, rfl, (Or.inr rfl), hw⟩
    · replace hw := hw.2 h
      refine z_aload_n C dX5_canGoOn_7 rfl 0 rfl ?_
      refine f_X5_9 C dX5_canGoOn_8 ?_
      refine z_iload_n C dX5_canGoOn_11 rfl 3 rfl ?_
      refine z_iald C za_23 (by decide) (Int32.toNatClampNeg v3) rfl hw.1 dX5_canGoOn_12 ?_
      replace hw := hw.2
      refine z_iload_n C dX5_canGoOn_13 rfl 2 rfl ?_
      refine z_icmp_ne C (tgt := 19) dX5_canGoOn_14 (by decide) (fun h => ?_) (fun h => ?_)
      · replace hw := hw.1 h
        refine z_iinc C (v3 + 1) [(3, .int (v3 + 1)), (0, .ref ((zXE X).1 22 0)), (1, .int a1), (2, .int a2)] dX5_canGoOn_19 3 rfl rfl (by decide) rfl ?_
        refine z_goto C (tgt := 2) dX5_canGoOn_22 (by decide) ?_
        exact z_lv [1, 2, 3, 0] rfl hw
      · replace hw := hw.2 h
        refine z_iconst C 0 dX5_canGoOn_17 (by decide) ?_
        exact z_zreturn C D dX5_canGoOn_18 (Or.inl rfl) ⟨_, rfl, (Or.inl rfl), hw⟩
  refine z_iconst C 0 dX5_canGoOn_0 (by decide) ?_
  refine z_istore_n C [(3, .int (0 : Int32)), (0, .ref ((zXE X).1 22 0)), (1, .int a1), (2, .int a2)] dX5_canGoOn_1 rfl (by decide) rfl ?_
  exact z_lv [1, 2, 3, 0] rfl hw
set_option maxHeartbeats 4000000 in
set_option maxRecDepth 100000 in
theorem t_X5_isBetter {l : Launch} {E : zE} {a1 : Int32} {a2 : Int32} {s0 : zS} {Q : Int32 → zS → Prop}  (hw : Wp_X5_isBetter a1 a2 s0 Q) : zT l 1 E yX5_isBetter cX5_isBetter 3 (some .boolean) [.ref (E.1 22 0), .int a1, .int a2] s0 (zQb Q) := by
  unfold Wp_X5_isBetter at hw
  refine z_entry rfl (Nat.le_of_ble_eq_true rfl) rfl ?_
  intro X C D hl hE
  subst hl; subst hE
  have C : zC X cX5_isBetter RX5 3 1 := C
  refine z_aload_n C dX5_isBetter_0 rfl 0 rfl ?_
  refine f_X5_31 C dX5_isBetter_1 ?_
  refine z_iconst C (-1) dX5_isBetter_4 (by decide) ?_
  refine z_icmp_eq C (tgt := 16) dX5_isBetter_5 (by decide) (fun h => ?_) (fun h => ?_)
  · replace hw := hw.1 h
    refine z_iconst C 1 dX5_isBetter_16 (by decide) ?_
    exact z_zreturn C D dX5_isBetter_17 (Or.inr rfl) ⟨_, rfl, (Or.inr rfl), hw⟩
  · replace hw := hw.2 h
    refine z_iload_n C dX5_isBetter_8 rfl 1 rfl ?_
    refine z_aload_n C dX5_isBetter_9 rfl 0 rfl ?_
    refine f_X5_31 C dX5_isBetter_10 ?_
    refine z_icmp_ge C (tgt := 18) dX5_isBetter_13 (by decide) (fun h => ?_) (fun h => ?_)
    · replace hw := hw.1 h
      refine z_iload_n C dX5_isBetter_18 rfl 1 rfl ?_
      refine z_aload_n C dX5_isBetter_19 rfl 0 rfl ?_
      refine f_X5_31 C dX5_isBetter_20 ?_
      refine z_icmp_ne C (tgt := 38) dX5_isBetter_23 (by decide) (fun h => ?_) (fun h => ?_)
      · replace hw := hw.1 h
        refine z_iconst C 0 dX5_isBetter_38 (by decide) ?_
        exact z_zreturn C D dX5_isBetter_39 (Or.inl rfl) ⟨_, rfl, (Or.inl rfl), hw⟩
      · replace hw := hw.2 h
        refine z_iload_n C dX5_isBetter_26 rfl 2 rfl ?_
        refine z_aload_n C dX5_isBetter_27 rfl 0 rfl ?_
        refine f_X5_34 C dX5_isBetter_28 ?_
        refine z_icmp_ge C (tgt := 38) dX5_isBetter_31 (by decide) (fun h => ?_) (fun h => ?_)
        · replace hw := hw.1 h
          refine z_iconst C 0 dX5_isBetter_38 (by decide) ?_
          exact z_zreturn C D dX5_isBetter_39 (Or.inl rfl) ⟨_, rfl, (Or.inl rfl), hw⟩
        · replace hw := hw.2 h
          refine z_iconst C 1 dX5_isBetter_34 (by decide) ?_
          refine z_goto C (tgt := 39) dX5_isBetter_35 (by decide) ?_
          exact z_zreturn C D dX5_isBetter_39 (Or.inr rfl) ⟨_, rfl, (Or.inr rfl), hw⟩
    · replace hw := hw.2 h
      refine z_iconst C 1 dX5_isBetter_16 (by decide) ?_
      exact z_zreturn C D dX5_isBetter_17 (Or.inr rfl) ⟨_, rfl, (Or.inr rfl), hw⟩
set_option maxHeartbeats 4000000 in
set_option maxRecDepth 100000 in
theorem t_X5_weigh {l : Launch} {E : zE} {a1 : Int32} {a2 : Int32} {s0 : zS} {Q : zS → Prop}  (hw : Wp_X5_weigh a1 a2 s0 Q) : zT l 3 E yX5_weigh cX5_weigh 9 none [.ref (E.1 22 0), .int a1, .int a2] s0 (zQv Q) := by
  unfold Wp_X5_weigh at hw
  refine z_entry rfl (Nat.le_of_ble_eq_true rfl) rfl ?_
  intro X C D hl hE
  subst hl; subst hE
  have C : zC X cX5_weigh RX5 9 3 := C
  refine z_use (hw (fun v3 v4 v6 v8 s0 => zV X 11 [(0, .ref ((zXE X).1 22 0)), (1, .int a1), (2, .int a2), (3, .int v3), (4, .long v4), (6, .long v6), (8, .int v8)] [] s0) (fun v3 v4 v6 v8 s0 hw => ?_)) (fun hw => ?_)
  · show zV X 11 _ _ _
    refine z_iload C dX5_weigh_11 6 rfl ?_
    refine z_iload_n C dX5_weigh_13 rfl 1 rfl ?_
    refine z_icmp_ge C (tgt := 86) dX5_weigh_14 (by decide) (fun h => ?_) (fun h => ?_)
    · replace hw := hw.1 h
      refine z_lload C dX5_weigh_86 4 rfl ?_
      refine z_aload_n C dX5_weigh_88 rfl 0 rfl ?_
      refine f_X5_28 C dX5_weigh_89 ?_
      refine z_i2l C dX5_weigh_92 ?_
      refine z_lmul C dX5_weigh_93 ?_
      refine z_aload_n C dX5_weigh_94 rfl 0 rfl ?_
      refine f_X5_25 C dX5_weigh_95 ?_
      refine z_i2l C dX5_weigh_98 ?_
      refine z_lload C dX5_weigh_99 5 rfl ?_
      refine z_lmul C dX5_weigh_101 ?_
      refine z_lcmp_lt C (tgt := 115) dX5_weigh_102 dX5_weigh_103 (by decide) (fun h => ?_) (fun h => ?_)
      · replace hw := hw.1 h
        exact z_vreturn C D dX5_weigh_115 ⟨rfl, hw⟩
      · replace hw := hw.2 h
        refine z_aload_n C dX5_weigh_106 rfl 0 rfl ?_
        refine z_iload_n C dX5_weigh_107 rfl 3 rfl ?_
        refine z_iload_n C dX5_weigh_108 rfl 2 rfl ?_
        refine z_callV C (by decide) M_X5_isBetter Mv_X5_isBetter kw_m_X5_112 ob_X5 (t_X5_isBetter hw) rfl rfl (Nat.le_of_ble_eq_true rfl) dX5_weigh_109 (z_kb (fun r1 s2 hr1 hw => ?_))
        refine z_if_ne C (tgt := 116) dX5_weigh_112 (by decide) (fun h => ?_) (fun h => ?_)
        · replace hw := hw.1 h
          refine z_aload_n C dX5_weigh_116 rfl 0 rfl ?_
          refine z_iload_n C dX5_weigh_117 rfl 3 rfl ?_
          refine p_X5_31 C dX5_weigh_118 (z_nms (fun s3 es3 => ?_))
          replace hw := hw s3 es3
          refine z_aload_n C dX5_weigh_121 rfl 0 rfl ?_
          refine z_iload_n C dX5_weigh_122 rfl 2 rfl ?_
          refine p_X5_34 C dX5_weigh_123 (z_nms (fun s4 es4 => ?_))
          replace hw := hw s4 es4
          refine z_aload_n C dX5_weigh_126 rfl 0 rfl ?_
          refine z_iload_n C dX5_weigh_127 rfl 1 rfl ?_
          refine p_X5_43 C dX5_weigh_128 (z_nms (fun s5 es5 => ?_))
          replace hw := hw s5 es5
          refine z_aload_n C dX5_weigh_131 rfl 0 rfl ?_
          refine z_lload C dX5_weigh_132 4 rfl ?_
          refine p_X5_46 C dX5_weigh_134 (z_nms (fun s6 es6 => ?_))
          replace hw := hw s6 es6
          refine z_aload_n C dX5_weigh_137 rfl 0 rfl ?_
          refine z_lload C dX5_weigh_138 5 rfl ?_
          refine p_X5_50 C dX5_weigh_140 (z_nms (fun s7 es7 => ?_))
          replace hw := hw s7 es7
          refine z_aload_n C dX5_weigh_143 rfl 0 rfl ?_
          refine f_X5_9 C dX5_weigh_144 ?_
          refine z_iconst C 0 dX5_weigh_147 (by decide) ?_
          refine z_aload_n C dX5_weigh_148 rfl 0 rfl ?_
          refine f_X5_37 C dX5_weigh_149 ?_
          refine z_iconst C 0 dX5_weigh_152 (by decide) ?_
          refine z_iload_n C dX5_weigh_153 rfl 1 rfl ?_
          refine z_iconst C 1 dX5_weigh_154 (by decide) ?_
          refine z_iadd C dX5_weigh_155 ?_
          refine z_copyi C (by decide) za_23 (by decide) za_26 (by decide) kw_m_X5_115 (Nat.le_of_ble_eq_true rfl) hw.1 dX5_weigh_156 (z_nms (fun s8 es8 => ?_))
          replace hw := hw.2 s8 es8
          refine z_aload_n C dX5_weigh_159 rfl 0 rfl ?_
          refine f_X5_15 C dX5_weigh_160 ?_
          refine z_iconst C 0 dX5_weigh_163 (by decide) ?_
          refine z_aload_n C dX5_weigh_164 rfl 0 rfl ?_
          refine f_X5_40 C dX5_weigh_165 ?_
          refine z_iconst C 0 dX5_weigh_168 (by decide) ?_
          refine z_iload_n C dX5_weigh_169 rfl 1 rfl ?_
          refine z_copyi C (by decide) za_24 (by decide) za_27 (by decide) kw_m_X5_115 (Nat.le_of_ble_eq_true rfl) hw.1 dX5_weigh_170 (z_nms (fun s9 es9 => ?_))
          replace hw := hw.2 s9 es9
          exact z_vreturn C D dX5_weigh_173 ⟨rfl, hw⟩
        · replace hw := hw.2 h
          exact z_vreturn C D dX5_weigh_115 ⟨rfl, hw⟩
    · replace hw := hw.2 h
      refine z_iload_n C dX5_weigh_17 rfl 3 rfl ?_
      refine z_aload_n C dX5_weigh_18 rfl 0 rfl ?_
      refine f_X5_15 C dX5_weigh_19 ?_
      refine z_iload C dX5_weigh_22 6 rfl ?_
      refine z_iald C za_24 (by decide) (Int32.toNatClampNeg v8) rfl hw.1 dX5_weigh_24 ?_
      replace hw := hw.2
      refine z_iadd C dX5_weigh_25 ?_
      refine z_nmi (fun x10 ex10 => ?_)
      replace hw := hw x10 ex10
      refine z_istore_n C [(3, .int x10), (0, .ref ((zXE X).1 22 0)), (1, .int a1), (2, .int a2), (4, .long v4), (6, .long v6), (8, .int v8)] dX5_weigh_26 rfl (by decide) rfl ?_
      refine z_lload C dX5_weigh_27 4 rfl ?_
      refine z_aload_n C dX5_weigh_29 rfl 1 rfl ?_
      refine f_X5_53 C dX5_weigh_30 ?_
      refine z_aload_n C dX5_weigh_33 rfl 1 rfl ?_
      refine f_X5_9 C dX5_weigh_34 ?_
      refine z_iload C dX5_weigh_37 6 rfl ?_
      refine z_iald C za_23 (by decide) (Int32.toNatClampNeg v8) rfl hw.1 dX5_weigh_39 ?_
      replace hw := hw.2
      refine z_aload_n C dX5_weigh_40 rfl 1 rfl ?_
      refine f_X5_9 C dX5_weigh_41 ?_
      refine z_iload C dX5_weigh_44 6 rfl ?_
      refine z_iconst C 1 dX5_weigh_46 (by decide) ?_
      refine z_iadd C dX5_weigh_47 ?_
      refine z_iald C za_23 (by decide) (Int32.toNatClampNeg (v8 + (1 : Int32))) rfl hw.1 dX5_weigh_48 ?_
      replace hw := hw.2
      refine z_aload_n C dX5_weigh_49 rfl 1 rfl ?_
      refine f_X5_15 C dX5_weigh_50 ?_
      refine z_iload C dX5_weigh_53 6 rfl ?_
      refine z_iald C za_24 (by decide) (Int32.toNatClampNeg v8) rfl hw.1 dX5_weigh_55 ?_
      replace hw := hw.2
      refine z_callV C (by decide) M_X6_sureTop Mv_X6_sureTop kw_m_X5_102 ob_X6 (t_X6_sureTop hw) rfl rfl (Nat.le_of_ble_eq_true rfl) dX5_weigh_56 (z_kl (fun r11 s12 hw => ?_))
      refine z_lmul C dX5_weigh_59 ?_
      refine z_nml (fun y13 ey13 => ?_)
      replace hw := hw y13 ey13
      refine z_lstore C [(4, .long y13), (3, .int x10), (0, .ref ((zXE X).1 22 0)), (1, .int a1), (2, .int a2), (6, .long v6), (8, .int v8)] dX5_weigh_60 (by decide) rfl ?_
      refine z_lload C dX5_weigh_62 5 rfl ?_
      refine z_ldc2 C (v := 10) kw_cl_X5_106 dX5_weigh_64 ?_
      refine z_aload_n C dX5_weigh_67 rfl 2 rfl ?_
      refine f_X5_15 C dX5_weigh_68 ?_
      refine z_iload C dX5_weigh_71 6 rfl ?_
      refine z_iald C za_24 (by decide) (Int32.toNatClampNeg v8) rfl hw.1 dX5_weigh_73 ?_
      replace hw := hw.2
      refine z_callSN C (by decide) M_X8_power Ms_X8_power kw_mn_X5_108 (t_X8_power hw) rfl rfl (Nat.le_of_ble_eq_true rfl) dX5_weigh_74 (z_kl (fun r14 s15 hw => ?_))
      refine z_lmul C dX5_weigh_77 ?_
      refine z_nml (fun y16 ey16 => ?_)
      replace hw := hw y16 ey16
      refine z_lstore C [(6, .long y16), (4, .long y13), (3, .int x10), (0, .ref ((zXE X).1 22 0)), (1, .int a1), (2, .int a2), (8, .int v8)] dX5_weigh_78 (by decide) rfl ?_
      refine z_iinc C (v8 + 1) [(8, .int (v8 + 1)), (6, .long y16), (4, .long y13), (3, .int x10), (0, .ref ((zXE X).1 22 0)), (1, .int a1), (2, .int a2)] dX5_weigh_80 6 rfl rfl (by decide) rfl ?_
      refine z_goto C (tgt := 11) dX5_weigh_83 (by decide) ?_
      exact z_lv [4, 5, 6, 3, 2, 1, 0] rfl hw
  refine z_iconst C 0 dX5_weigh_0 (by decide) ?_
  refine z_istore_n C [(3, .int (0 : Int32)), (0, .ref ((zXE X).1 22 0)), (1, .int a1), (2, .int a2)] dX5_weigh_1 rfl (by decide) rfl ?_
  refine z_lconst C 1 dX5_weigh_2 (by decide) ?_
  refine z_lstore C [(4, .long (1 : Int64)), (3, .int (0 : Int32)), (0, .ref ((zXE X).1 22 0)), (1, .int a1), (2, .int a2)] dX5_weigh_3 (by decide) rfl ?_
  refine z_lconst C 1 dX5_weigh_5 (by decide) ?_
  refine z_lstore C [(6, .long (1 : Int64)), (4, .long (1 : Int64)), (3, .int (0 : Int32)), (0, .ref ((zXE X).1 22 0)), (1, .int a1), (2, .int a2)] dX5_weigh_6 (by decide) rfl ?_
  refine z_iconst C 0 dX5_weigh_8 (by decide) ?_
  refine z_istore C [(8, .int (0 : Int32)), (6, .long (1 : Int64)), (4, .long (1 : Int64)), (3, .int (0 : Int32)), (0, .ref ((zXE X).1 22 0)), (1, .int a1), (2, .int a2)] dX5_weigh_9 (by decide) rfl ?_
  exact z_lv [4, 5, 6, 3, 2, 1, 0] rfl hw
set_option maxHeartbeats 4000000 in
set_option maxRecDepth 100000 in
theorem t_X5_goToNextDoubles {l : Launch} {E : zE} {a1 : Int32} {s0 : zS} {Q : zS → Prop}  (hw : Wp_X5_goToNextDoubles a1 s0 Q) : zT l 1 E yX5_goToNextDoubles cX5_goToNextDoubles 3 none [.ref (E.1 22 0), .int a1] s0 (zQv Q) := by
  unfold Wp_X5_goToNextDoubles at hw
  refine z_entry rfl (Nat.le_of_ble_eq_true rfl) rfl ?_
  intro X C D hl hE
  subst hl; subst hE
  have C : zC X cX5_goToNextDoubles RX5 3 1 := C
  refine z_use (hw (fun v2 s0 => zV X 4 [(0, .ref ((zXE X).1 22 0)), (2, .int v2)] [] s0) (fun v2 s0 hw => ?_)) (fun hw => ?_)
  · show zV X 4 _ _ _
    refine z_iload_n C dX5_goToNextDoubles_4 rfl 1 rfl ?_
    refine z_if_lt C (tgt := 47) dX5_goToNextDoubles_5 (by decide) (fun h => ?_) (fun h => ?_)
    · replace hw := hw.1 h
      exact z_vreturn C D dX5_goToNextDoubles_47 ⟨rfl, hw⟩
    · replace hw := hw.2 h
      refine z_aload_n C dX5_goToNextDoubles_8 rfl 0 rfl ?_
      refine f_X5_15 C dX5_goToNextDoubles_9 ?_
      refine z_iload_n C dX5_goToNextDoubles_12 rfl 1 rfl ?_
      refine z_iald C za_24 (by decide) (Int32.toNatClampNeg v2) rfl hw.1 dX5_goToNextDoubles_13 ?_
      replace hw := hw.2
      refine z_aload_n C dX5_goToNextDoubles_14 rfl 0 rfl ?_
      refine f_X5_18 C dX5_goToNextDoubles_15 ?_
      refine z_iload_n C dX5_goToNextDoubles_18 rfl 1 rfl ?_
      refine z_iald C za_25 (by decide) (Int32.toNatClampNeg v2) rfl hw.1 dX5_goToNextDoubles_19 ?_
      replace hw := hw.2
      refine z_icmp_ge C (tgt := 34) dX5_goToNextDoubles_20 (by decide) (fun h => ?_) (fun h => ?_)
      · replace hw := hw.1 h
        refine z_aload_n C dX5_goToNextDoubles_34 rfl 0 rfl ?_
        refine f_X5_15 C dX5_goToNextDoubles_35 ?_
        refine z_iload_n C dX5_goToNextDoubles_38 rfl 1 rfl ?_
        refine z_iconst C 1 dX5_goToNextDoubles_39 (by decide) ?_
        refine z_iast C za_24 (by decide) (Int32.toNatClampNeg v2) rfl hw.1 dX5_goToNextDoubles_40 (z_nms (fun s2 es2 => ?_))
        replace hw := hw.2
        replace hw := hw s2 es2
        refine z_iinc C (v2 + (-1)) [(2, .int (v2 + (-1))), (0, .ref ((zXE X).1 22 0))] dX5_goToNextDoubles_41 1 rfl rfl (by decide) rfl ?_
        refine z_goto C (tgt := 4) dX5_goToNextDoubles_44 (by decide) ?_
        exact z_lv [1, 0] rfl hw
      · replace hw := hw.2 h
        refine z_aload_n C dX5_goToNextDoubles_23 rfl 0 rfl ?_
        refine f_X5_15 C dX5_goToNextDoubles_24 ?_
        refine z_iload_n C dX5_goToNextDoubles_27 rfl 1 rfl ?_
        refine z_dup2_11 C dX5_goToNextDoubles_28 rfl rfl ?_
        refine z_iald C za_24 (by decide) (Int32.toNatClampNeg v2) rfl hw.1 dX5_goToNextDoubles_29 ?_
        replace hw := hw.2
        refine z_iconst C 1 dX5_goToNextDoubles_30 (by decide) ?_
        refine z_iadd C dX5_goToNextDoubles_31 ?_
        refine z_iast C za_24 (by decide) (Int32.toNatClampNeg v2) rfl hw.1 dX5_goToNextDoubles_32 (z_nms (fun s3 es3 => ?_))
        replace hw := hw.2
        replace hw := hw s3 es3
        exact z_vreturn C D dX5_goToNextDoubles_33 ⟨rfl, hw⟩
  refine z_iload_n C dX5_goToNextDoubles_0 rfl 1 rfl ?_
  refine z_iconst C 1 dX5_goToNextDoubles_1 (by decide) ?_
  refine z_isub C dX5_goToNextDoubles_2 ?_
  refine z_nmi (fun x1 ex1 => ?_)
  replace hw := hw x1 ex1
  refine z_istore_n C [(2, .int x1), (0, .ref ((zXE X).1 22 0)), (1, .int a1)] dX5_goToNextDoubles_3 rfl (by decide) rfl ?_
  exact z_lv [1, 0] rfl hw
set_option maxHeartbeats 4000000 in
set_option maxRecDepth 100000 in
theorem t_X5_tryDoubles {l : Launch} {E : zE} {a1 : Int32} {s0 : zS} {Q : zS → Prop}  (hw : Wp_X5_tryDoubles a1 s0 Q) : zT l 4 E yX5_tryDoubles cX5_tryDoubles 5 none [.ref (E.1 22 0), .int a1] s0 (zQv Q) := by
  unfold Wp_X5_tryDoubles at hw
  refine z_entry rfl (Nat.le_of_ble_eq_true rfl) rfl ?_
  intro X C D hl hE
  subst hl; subst hE
  have C : zC X cX5_tryDoubles RX5 5 4 := C
  refine z_use (hw (fun v2 v3 v4 s0 => zV X 7 [(0, .ref ((zXE X).1 22 0)), (1, .int a1), (2, .int v2), (3, .int v3), (4, .int v4)] [] s0) (fun v2 v3 v4 s0 => zV X 104 [(0, .ref ((zXE X).1 22 0)), (1, .int a1), (2, .int v2), (3, .int v3), (4, .int v4)] [] s0) (fun v2 v3 v4 s0 hw => ?_) (fun v2 v3 v4 s0 hw => ?_)) (fun hw => ?_)
  · show zV X 7 _ _ _
    refine z_iload C dX5_tryDoubles_7 4 rfl ?_
    refine z_iload_n C dX5_tryDoubles_9 rfl 1 rfl ?_
    refine z_icmp_ge C (tgt := 101) dX5_tryDoubles_10 (by decide) (fun h => ?_) (fun h => ?_)
    · replace hw := hw.1 h
      refine z_iconst C 0 dX5_tryDoubles_101 (by decide) ?_
      refine z_istore C [(4, .int (0 : Int32)), (0, .ref ((zXE X).1 22 0)), (1, .int a1), (2, .int v2), (3, .int v3)] dX5_tryDoubles_102 (by decide) rfl ?_
      exact z_lv [1, 2, 3, 4, 0] rfl hw
    · replace hw := hw.2 h
      refine z_aload_n C dX5_tryDoubles_13 rfl 0 rfl ?_
      refine f_X5_15 C dX5_tryDoubles_14 ?_
      refine z_iload C dX5_tryDoubles_17 4 rfl ?_
      refine z_iconst C 1 dX5_tryDoubles_19 (by decide) ?_
      refine z_iast C za_24 (by decide) (Int32.toNatClampNeg v4) rfl hw.1 dX5_tryDoubles_20 (z_nms (fun s1 es1 => ?_))
      replace hw := hw.2
      replace hw := hw s1 es1
      refine z_aload_n C dX5_tryDoubles_21 rfl 0 rfl ?_
      refine f_X5_18 C dX5_tryDoubles_22 ?_
      refine z_iload C dX5_tryDoubles_25 4 rfl ?_
      refine z_iconst C 4 dX5_tryDoubles_27 (by decide) ?_
      refine z_aload_n C dX5_tryDoubles_28 rfl 0 rfl ?_
      refine f_X5_57 C dX5_tryDoubles_29 ?_
      refine f_X5_80 C dX5_tryDoubles_32 ?_
      refine z_aload_n C dX5_tryDoubles_35 rfl 0 rfl ?_
      refine f_X5_9 C dX5_tryDoubles_36 ?_
      refine z_iload C dX5_tryDoubles_39 4 rfl ?_
      refine z_iconst C 1 dX5_tryDoubles_41 (by decide) ?_
      refine z_iadd C dX5_tryDoubles_42 ?_
      refine z_iald C za_23 (by decide) (Int32.toNatClampNeg (v4 + (1 : Int32))) rfl hw.1 dX5_tryDoubles_43 ?_
      replace hw := hw.2
      have hb2 := zin_lt hw.1
      refine z_aald C za_20 (by decide) rfl (Int32.toNatClampNeg (zi s1 23 0 (Int32.toNatClampNeg (v4 + (1 : Int32))))) rfl hw.1 dX5_tryDoubles_44 ?_
      replace hw := hw.2
      refine z_aload_n C dX5_tryDoubles_45 rfl 0 rfl ?_
      refine f_X5_9 C dX5_tryDoubles_46 ?_
      refine z_iload C dX5_tryDoubles_49 4 rfl ?_
      refine z_iald C za_23 (by decide) (Int32.toNatClampNeg v4) rfl hw.1 dX5_tryDoubles_51 ?_
      replace hw := hw.2
      refine z_iald C za_21 hb2 (Int32.toNatClampNeg (zi s1 23 0 (Int32.toNatClampNeg v4))) rfl hw.1 dX5_tryDoubles_52 ?_
      replace hw := hw.2
      refine z_mmin C (by decide) kw_m_X5_86 (Nat.le_of_ble_eq_true rfl) dX5_tryDoubles_53 ?_
      refine z_iast C za_25 (by decide) (Int32.toNatClampNeg v4) rfl hw.1 dX5_tryDoubles_56 (z_nms (fun s3 es3 => ?_))
      replace hw := hw.2
      replace hw := hw s3 es3
      refine z_iload_n C dX5_tryDoubles_57 rfl 2 rfl ?_
      refine z_aload_n C dX5_tryDoubles_58 rfl 0 rfl ?_
      refine f_X5_18 C dX5_tryDoubles_59 ?_
      refine z_iload C dX5_tryDoubles_62 4 rfl ?_
      refine z_iald C za_25 (by decide) (Int32.toNatClampNeg v4) rfl hw.1 dX5_tryDoubles_64 ?_
      replace hw := hw.2
      refine z_imul C dX5_tryDoubles_65 ?_
      refine z_nmi (fun x4 ex4 => ?_)
      replace hw := hw x4 ex4
      refine z_istore_n C [(2, .int x4), (0, .ref ((zXE X).1 22 0)), (1, .int a1), (3, .int v3), (4, .int v4)] dX5_tryDoubles_66 rfl (by decide) rfl ?_
      refine z_iload_n C dX5_tryDoubles_67 rfl 3 rfl ?_
      refine z_aload_n C dX5_tryDoubles_68 rfl 1 rfl ?_
      refine f_X5_53 C dX5_tryDoubles_69 ?_
      refine f_X5_92 C dX5_tryDoubles_72 ?_
      refine z_aload_n C dX5_tryDoubles_75 rfl 1 rfl ?_
      refine f_X5_9 C dX5_tryDoubles_76 ?_
      refine z_iload C dX5_tryDoubles_79 4 rfl ?_
      refine z_iald C za_23 (by decide) (Int32.toNatClampNeg v4) rfl hw.1 dX5_tryDoubles_81 ?_
      replace hw := hw.2
      have hb5 := zin_lt hw.1
      refine z_aald C za_8 (by decide) rfl (Int32.toNatClampNeg (zi s3 23 0 (Int32.toNatClampNeg v4))) rfl hw.1 dX5_tryDoubles_82 ?_
      replace hw := hw.2
      refine z_aload_n C dX5_tryDoubles_83 rfl 1 rfl ?_
      refine f_X5_9 C dX5_tryDoubles_84 ?_
      refine z_iload C dX5_tryDoubles_87 4 rfl ?_
      refine z_iconst C 1 dX5_tryDoubles_89 (by decide) ?_
      refine z_iadd C dX5_tryDoubles_90 ?_
      refine z_iald C za_23 (by decide) (Int32.toNatClampNeg (v4 + (1 : Int32))) rfl hw.1 dX5_tryDoubles_91 ?_
      replace hw := hw.2
      refine z_iald C za_9 hb5 (Int32.toNatClampNeg (zi s3 23 0 (Int32.toNatClampNeg (v4 + (1 : Int32))))) rfl hw.1 dX5_tryDoubles_92 ?_
      replace hw := hw.2
      refine z_iadd C dX5_tryDoubles_93 ?_
      refine z_nmi (fun x6 ex6 => ?_)
      replace hw := hw x6 ex6
      refine z_istore_n C [(3, .int x6), (2, .int x4), (0, .ref ((zXE X).1 22 0)), (1, .int a1), (4, .int v4)] dX5_tryDoubles_94 rfl (by decide) rfl ?_
      refine z_iinc C (v4 + 1) [(4, .int (v4 + 1)), (3, .int x6), (2, .int x4), (0, .ref ((zXE X).1 22 0)), (1, .int a1)] dX5_tryDoubles_95 4 rfl rfl (by decide) rfl ?_
      refine z_goto C (tgt := 7) dX5_tryDoubles_98 (by decide) ?_
      exact z_lv [3, 4, 2, 1, 0] rfl hw
  · show zV X 104 _ _ _
    refine z_iload C dX5_tryDoubles_104 4 rfl ?_
    refine z_iload_n C dX5_tryDoubles_106 rfl 2 rfl ?_
    refine z_icmp_ge C (tgt := 127) dX5_tryDoubles_107 (by decide) (fun h => ?_) (fun h => ?_)
    · replace hw := hw.1 h
      exact z_vreturn C D dX5_tryDoubles_127 ⟨rfl, hw⟩
    · replace hw := hw.2 h
      refine z_aload_n C dX5_tryDoubles_110 rfl 0 rfl ?_
      refine z_iload_n C dX5_tryDoubles_111 rfl 1 rfl ?_
      refine z_iload_n C dX5_tryDoubles_112 rfl 3 rfl ?_
      refine z_callV C (by decide) M_X5_weigh Mv_X5_weigh kw_m_X5_95 ob_X5 (t_X5_weigh hw) rfl rfl (Nat.le_of_ble_eq_true rfl) dX5_tryDoubles_113 (z_kv (fun s8 hw => ?_))
      refine z_aload_n C dX5_tryDoubles_116 rfl 0 rfl ?_
      refine z_iload_n C dX5_tryDoubles_117 rfl 1 rfl ?_
      refine z_callV C (by decide) M_X5_goToNextDoubles Mv_X5_goToNextDoubles kw_m_X5_99 ob_X5 (t_X5_goToNextDoubles hw) rfl rfl (Nat.le_of_ble_eq_true rfl) dX5_tryDoubles_118 (z_kv (fun s10 hw => ?_))
      refine z_iinc C (v4 + 1) [(4, .int (v4 + 1)), (0, .ref ((zXE X).1 22 0)), (1, .int a1), (2, .int v2), (3, .int v3)] dX5_tryDoubles_121 4 rfl rfl (by decide) rfl ?_
      refine z_goto C (tgt := 104) dX5_tryDoubles_124 (by decide) ?_
      exact z_lv [1, 2, 3, 4, 0] rfl hw
  refine z_iconst C 1 dX5_tryDoubles_0 (by decide) ?_
  refine z_istore_n C [(2, .int (1 : Int32)), (0, .ref ((zXE X).1 22 0)), (1, .int a1)] dX5_tryDoubles_1 rfl (by decide) rfl ?_
  refine z_iconst C 0 dX5_tryDoubles_2 (by decide) ?_
  refine z_istore_n C [(3, .int (0 : Int32)), (2, .int (1 : Int32)), (0, .ref ((zXE X).1 22 0)), (1, .int a1)] dX5_tryDoubles_3 rfl (by decide) rfl ?_
  refine z_iconst C 0 dX5_tryDoubles_4 (by decide) ?_
  refine z_istore C [(4, .int (0 : Int32)), (3, .int (0 : Int32)), (2, .int (1 : Int32)), (0, .ref ((zXE X).1 22 0)), (1, .int a1)] dX5_tryDoubles_5 (by decide) rfl ?_
  exact z_lv [3, 4, 2, 1, 0] rfl hw
set_option maxHeartbeats 4000000 in
set_option maxRecDepth 100000 in
theorem t_X5_extend {l : Launch} {E : zE} : ∀ (n : Nat) {a1 : Int32} {s0 : zS} {Q : zS → Prop} (_ : Wp_X5_extend n a1 s0 Q), zT l (5 + n) E yX5_extend cX5_extend 3 none [.ref (E.1 22 0), .int a1] s0 (zQv Q) := by
  intro n
  induction n with
  | zero => intro a1 s0 Q hw; exact hw.elim
  | succ n ih =>
  intro a1 s0 Q hw
  unfold Wp_X5_extend at hw
  refine z_entry rfl (Nat.le_of_ble_eq_true rfl) rfl ?_
  intro X C D hl hE
  subst hl; subst hE
  have C : zC X cX5_extend RX5 3 (5 + (n + 1)) := C
  refine z_use (hw (fun v2 s0 => zV X 8 [(0, .ref ((zXE X).1 22 0)), (1, .int a1), (2, .int v2)] [] s0) (fun v2 s0 hw => ?_)) (fun hw => ?_)
  · show zV X 8 _ _ _
    refine z_iload_n C dX5_extend_8 rfl 2 rfl ?_
    refine z_aload_n C dX5_extend_9 rfl 0 rfl ?_
    refine f_X5_53 C dX5_extend_10 ?_
    refine f_X5_65 C dX5_extend_13 ?_
    refine z_icmp_ge C (tgt := 71) dX5_extend_16 (by decide) (fun h => ?_) (fun h => ?_)
    · replace hw := hw.1 h
      exact z_vreturn C D dX5_extend_71 ⟨rfl, hw⟩
    · replace hw := hw.2 h
      refine z_aload_n C dX5_extend_19 rfl 0 rfl ?_
      refine z_iload_n C dX5_extend_20 rfl 1 rfl ?_
      refine z_iload_n C dX5_extend_21 rfl 2 rfl ?_
      refine z_callV C (by omega) M_X5_canGoOn Mv_X5_canGoOn kw_m_X5_70 ob_X5 (t_X5_canGoOn hw) rfl rfl (Nat.le_of_ble_eq_true rfl) dX5_extend_22 (z_kb (fun r1 s2 hr1 hw => ?_))
      refine z_if_ne C (tgt := 31) dX5_extend_25 (by decide) (fun h => ?_) (fun h => ?_)
      · replace hw := hw.1 h
        refine z_aload_n C dX5_extend_31 rfl 0 rfl ?_
        refine f_X5_9 C dX5_extend_32 ?_
        refine z_iload_n C dX5_extend_35 rfl 1 rfl ?_
        refine z_iconst C 1 dX5_extend_36 (by decide) ?_
        refine z_iadd C dX5_extend_37 ?_
        refine z_iload_n C dX5_extend_38 rfl 2 rfl ?_
        refine z_iast C za_23 (by decide) (Int32.toNatClampNeg (a1 + (1 : Int32))) rfl hw.1 dX5_extend_39 (z_nms (fun s3 es3 => ?_))
        replace hw := hw.2
        replace hw := hw s3 es3
        refine z_iload_n C dX5_extend_40 rfl 2 rfl ?_
        refine z_aload_n C dX5_extend_41 rfl 0 rfl ?_
        refine f_X5_21 C dX5_extend_42 ?_
        refine z_icmp_ne C (tgt := 58) dX5_extend_45 (by decide) (fun h => ?_) (fun h => ?_)
        · replace hw := hw.1 h
          refine z_aload_n C dX5_extend_58 rfl 0 rfl ?_
          refine z_iload_n C dX5_extend_59 rfl 1 rfl ?_
          refine z_iconst C 1 dX5_extend_60 (by decide) ?_
          refine z_iadd C dX5_extend_61 ?_
          refine z_callV C (by omega) M_X5_extend Mv_X5_extend kw_m_X5_61 ob_X5 (ih hw) rfl rfl (Nat.le_of_ble_eq_true rfl) dX5_extend_62 (z_kv (fun s5 hw => ?_))
          refine z_iinc C (v2 + 1) [(2, .int (v2 + 1)), (0, .ref ((zXE X).1 22 0)), (1, .int a1)] dX5_extend_65 2 rfl rfl (by decide) rfl ?_
          refine z_goto C (tgt := 8) dX5_extend_68 (by decide) ?_
          exact z_lv [1, 2, 0] rfl hw
        · replace hw := hw.2 h
          refine z_aload_n C dX5_extend_48 rfl 0 rfl ?_
          refine z_iload_n C dX5_extend_49 rfl 1 rfl ?_
          refine z_iconst C 1 dX5_extend_50 (by decide) ?_
          refine z_iadd C dX5_extend_51 ?_
          refine z_callV C (by omega) M_X5_tryDoubles Mv_X5_tryDoubles kw_m_X5_74 ob_X5 (t_X5_tryDoubles hw) rfl rfl (Nat.le_of_ble_eq_true rfl) dX5_extend_52 (z_kv (fun s7 hw => ?_))
          refine z_goto C (tgt := 65) dX5_extend_55 (by decide) ?_
          refine z_iinc C (v2 + 1) [(2, .int (v2 + 1)), (0, .ref ((zXE X).1 22 0)), (1, .int a1)] dX5_extend_65 2 rfl rfl (by decide) rfl ?_
          refine z_goto C (tgt := 8) dX5_extend_68 (by decide) ?_
          exact z_lv [1, 2, 0] rfl hw
      · replace hw := hw.2 h
        refine z_goto C (tgt := 65) dX5_extend_28 (by decide) ?_
        refine z_iinc C (v2 + 1) [(2, .int (v2 + 1)), (0, .ref ((zXE X).1 22 0)), (1, .int a1)] dX5_extend_65 2 rfl rfl (by decide) rfl ?_
        refine z_goto C (tgt := 8) dX5_extend_68 (by decide) ?_
        exact z_lv [1, 2, 0] rfl hw
  refine z_iload_n C dX5_extend_0 rfl 1 rfl ?_
  refine z_iconst C 3 dX5_extend_1 (by decide) ?_
  refine z_icmp_lt C (tgt := 6) dX5_extend_2 (by decide) (fun h => ?_) (fun h => ?_)
  · replace hw := hw.1 h
    refine z_iconst C 0 dX5_extend_6 (by decide) ?_
    refine z_istore_n C [(2, .int (0 : Int32)), (0, .ref ((zXE X).1 22 0)), (1, .int a1)] dX5_extend_7 rfl (by decide) rfl ?_
    exact z_lv [1, 2, 0] rfl hw
  · replace hw := hw.2 h
    exact z_vreturn C D dX5_extend_5 ⟨rfl, hw⟩
set_option maxHeartbeats 4000000 in
set_option maxRecDepth 100000 in
theorem t_X5_seek {l : Launch} {E : zE} {a1 : Int32} {a2 : Int32} {a3 : Int32} {a4 : Int32} {s0 : zS} {Q : Int32 → zS → Prop}  (hw : Wp_X5_seek a1 a2 a3 a4 s0 Q) : zT l 10 E yX5_seek cX5_seek 5 (some .int) [.ref (E.1 22 0), .int a1, .int a2, .int a3, .int a4] s0 (zQi Q) := by
  unfold Wp_X5_seek at hw
  refine z_entry rfl (Nat.le_of_ble_eq_true rfl) rfl ?_
  intro X C D hl hE
  subst hl; subst hE
  have C : zC X cX5_seek RX5 5 10 := C
  refine z_aload_n C dX5_seek_0 rfl 0 rfl ?_
  refine f_X5_9 C dX5_seek_1 ?_
  refine z_iconst C 0 dX5_seek_4 (by decide) ?_
  refine z_iload_n C dX5_seek_5 rfl 1 rfl ?_
  refine z_iast C za_23 (by decide) 0 (by decide) (vp_in_iff.mpr (by decide)) dX5_seek_6 (z_nms (fun s1 es1 => ?_))
  replace hw := hw s1 es1
  refine z_aload_n C dX5_seek_7 rfl 0 rfl ?_
  refine z_iload_n C dX5_seek_8 rfl 2 rfl ?_
  refine p_X5_21 C dX5_seek_9 (z_nms (fun s2 es2 => ?_))
  replace hw := hw s2 es2
  refine z_aload_n C dX5_seek_12 rfl 0 rfl ?_
  refine z_iload_n C dX5_seek_13 rfl 3 rfl ?_
  refine p_X5_25 C dX5_seek_14 (z_nms (fun s3 es3 => ?_))
  replace hw := hw s3 es3
  refine z_aload_n C dX5_seek_17 rfl 0 rfl ?_
  refine z_iload C dX5_seek_18 4 rfl ?_
  refine p_X5_28 C dX5_seek_20 (z_nms (fun s4 es4 => ?_))
  replace hw := hw s4 es4
  refine z_aload_n C dX5_seek_23 rfl 0 rfl ?_
  refine z_iconst C (-1) dX5_seek_24 (by decide) ?_
  refine p_X5_31 C dX5_seek_25 (z_nms (fun s5 es5 => ?_))
  replace hw := hw s5 es5
  refine z_aload_n C dX5_seek_28 rfl 0 rfl ?_
  refine z_iconst C 0 dX5_seek_29 (by decide) ?_
  refine z_callV C (by decide) M_X5_extend Mv_X5_extend kw_m_X5_61 ob_X5 (t_X5_extend 4 hw) rfl rfl (Nat.le_of_ble_eq_true rfl) dX5_seek_30 (z_kv (fun s7 hw => ?_))
  refine z_aload_n C dX5_seek_33 rfl 0 rfl ?_
  refine f_X5_31 C dX5_seek_34 ?_
  exact z_ireturn C D dX5_seek_37 ⟨_, rfl, hw⟩
set_option maxHeartbeats 4000000 in
set_option maxRecDepth 100000 in
theorem t_X8_relay {l : Launch} {E : zE} {a1 : Int32} {a2 : Int32} {a3 : Int32} {a4 : Int32} {s0 : zS} {Q : Int32 → zS → Prop}  (hw : Wp_X8_relay a1 a2 a3 a4 s0 Q) : zT l 11 E yX8_relay cX8_relay 6 (some .int) [.ref (E.1 0 0), .int a1, .int a2, .int a3, .int a4] s0 (zQi Q) := by
  unfold Wp_X8_relay at hw
  refine z_entry rfl (Nat.le_of_ble_eq_true rfl) rfl ?_
  intro X C D hl hE
  subst hl; subst hE
  have C : zC X cX8_relay RX8 6 11 := C
  refine z_aload_n C dX8_relay_0 rfl 0 rfl ?_
  refine z_aload_n C dX8_relay_1 rfl 0 rfl ?_
  refine z_iload_n C dX8_relay_2 rfl 1 rfl ?_
  refine z_iload_n C dX8_relay_3 rfl 2 rfl ?_
  refine z_callV C (by decide) M_X8_areTwoTowns Mv_X8_areTwoTowns kw_m_X8_136 ob_X8 (t_X8_areTwoTowns hw) rfl rfl (Nat.le_of_ble_eq_true rfl) dX8_relay_4 (z_kb (fun r1 s2 hr1 hw => ?_))
  refine z_if_eq C (tgt := 23) dX8_relay_7 (by decide) (fun h => ?_) (fun h => ?_)
  · replace hw := hw.1 h
    refine z_iconst C 0 dX8_relay_23 (by decide) ?_
    refine z_callS C (by decide) M_X8_wrongUnless Ms_X8_wrongUnless kw_m_X8_89 (t_X8_wrongUnless hw) rfl rfl (Nat.le_of_ble_eq_true rfl) dX8_relay_24 (z_ki (fun r3 s4 hw => ?_))
    refine p_X8_67 C dX8_relay_27 (z_nms (fun s5 es5 => ?_))
    replace hw := hw s5 es5
    refine z_aload_n C dX8_relay_30 rfl 0 rfl ?_
    refine f_X8_67 C dX8_relay_31 ?_
    refine z_if_eq C (tgt := 39) dX8_relay_34 (by decide) (fun h => ?_) (fun h => ?_)
    · replace hw := hw.1 h
      refine z_aload_n C dX8_relay_39 rfl 0 rfl ?_
      refine f_X8_42 C dX8_relay_40 ?_
      refine z_iload_n C dX8_relay_43 rfl 1 rfl ?_
      refine z_iload_n C dX8_relay_44 rfl 2 rfl ?_
      refine z_iload_n C dX8_relay_45 rfl 3 rfl ?_
      refine z_iload C dX8_relay_46 4 rfl ?_
      refine z_callV C (by decide) M_X5_seek Mv_X5_seek kw_m_X8_200 ob_X5 (t_X5_seek hw) rfl rfl (Nat.le_of_ble_eq_true rfl) dX8_relay_48 (z_ki (fun r6 s7 hw => ?_))
      refine z_istore C [(5, .int r6), (0, .ref ((zXE X).1 0 0)), (1, .int a1), (2, .int a2), (3, .int a3), (4, .int a4)] dX8_relay_51 (by decide) rfl ?_
      refine z_iload C dX8_relay_53 0 rfl ?_
      refine z_iconst C (-1) dX8_relay_55 (by decide) ?_
      refine z_icmp_ne C (tgt := 67) dX8_relay_56 (by decide) (fun h => ?_) (fun h => ?_)
      · replace hw := hw.1 h
        refine z_aload_n C dX8_relay_67 rfl 1 rfl ?_
        refine f_X8_10 C dX8_relay_68 ?_
        refine z_aload_n C dX8_relay_71 rfl 1 rfl ?_
        refine f_X8_42 C dX8_relay_72 ?_
        refine f_X8_203 C dX8_relay_75 ?_
        refine z_aload_n C dX8_relay_78 rfl 1 rfl ?_
        refine f_X8_42 C dX8_relay_79 ?_
        refine f_X8_204 C dX8_relay_82 ?_
        refine z_callV C (by decide) M_X3_tell Mv_X3_tell kw_m_X8_187 ob_X3 (t_X3_tell hw) rfl rfl (Nat.le_of_ble_eq_true rfl) dX8_relay_85 (z_kv (fun s9 hw => ?_))
        refine z_iload C dX8_relay_88 0 rfl ?_
        exact z_ireturn C D dX8_relay_90 ⟨_, rfl, hw⟩
      · replace hw := hw.2 h
        refine z_aload_n C dX8_relay_59 rfl 1 rfl ?_
        refine z_bipush C 6 dX8_relay_60 (by decide) ?_
        refine p_X8_67 C dX8_relay_62 (z_nms (fun s10 es10 => ?_))
        replace hw := hw s10 es10
        refine z_iconst C (-1) dX8_relay_65 (by decide) ?_
        exact z_ireturn C D dX8_relay_66 ⟨_, rfl, hw⟩
    · replace hw := hw.2 h
      refine z_iconst C (-1) dX8_relay_37 (by decide) ?_
      exact z_ireturn C D dX8_relay_38 ⟨_, rfl, hw⟩
  · replace hw := hw.2 h
    refine z_iload_n C dX8_relay_10 rfl 3 rfl ?_
    refine z_iload C dX8_relay_11 4 rfl ?_
    refine z_callS C (by decide) M_X8_isChance Ms_X8_isChance kw_m_X8_194 (t_X8_isChance hw) rfl rfl (Nat.le_of_ble_eq_true rfl) dX8_relay_13 (z_kb (fun r11 s12 hr11 hw => ?_))
    refine z_if_eq C (tgt := 23) dX8_relay_16 (by decide) (fun h => ?_) (fun h => ?_)
    · replace hw := hw.1 h
      refine z_iconst C 0 dX8_relay_23 (by decide) ?_
      refine z_callS C (by decide) M_X8_wrongUnless Ms_X8_wrongUnless kw_m_X8_89 (t_X8_wrongUnless hw) rfl rfl (Nat.le_of_ble_eq_true rfl) dX8_relay_24 (z_ki (fun r13 s14 hw => ?_))
      refine p_X8_67 C dX8_relay_27 (z_nms (fun s15 es15 => ?_))
      replace hw := hw s15 es15
      refine z_aload_n C dX8_relay_30 rfl 0 rfl ?_
      refine f_X8_67 C dX8_relay_31 ?_
      refine z_if_eq C (tgt := 39) dX8_relay_34 (by decide) (fun h => ?_) (fun h => ?_)
      · replace hw := hw.1 h
        refine z_aload_n C dX8_relay_39 rfl 0 rfl ?_
        refine f_X8_42 C dX8_relay_40 ?_
        refine z_iload_n C dX8_relay_43 rfl 1 rfl ?_
        refine z_iload_n C dX8_relay_44 rfl 2 rfl ?_
        refine z_iload_n C dX8_relay_45 rfl 3 rfl ?_
        refine z_iload C dX8_relay_46 4 rfl ?_
        refine z_callV C (by decide) M_X5_seek Mv_X5_seek kw_m_X8_200 ob_X5 (t_X5_seek hw) rfl rfl (Nat.le_of_ble_eq_true rfl) dX8_relay_48 (z_ki (fun r16 s17 hw => ?_))
        refine z_istore C [(5, .int r16), (0, .ref ((zXE X).1 0 0)), (1, .int a1), (2, .int a2), (3, .int a3), (4, .int a4)] dX8_relay_51 (by decide) rfl ?_
        refine z_iload C dX8_relay_53 0 rfl ?_
        refine z_iconst C (-1) dX8_relay_55 (by decide) ?_
        refine z_icmp_ne C (tgt := 67) dX8_relay_56 (by decide) (fun h => ?_) (fun h => ?_)
        · replace hw := hw.1 h
          refine z_aload_n C dX8_relay_67 rfl 1 rfl ?_
          refine f_X8_10 C dX8_relay_68 ?_
          refine z_aload_n C dX8_relay_71 rfl 1 rfl ?_
          refine f_X8_42 C dX8_relay_72 ?_
          refine f_X8_203 C dX8_relay_75 ?_
          refine z_aload_n C dX8_relay_78 rfl 1 rfl ?_
          refine f_X8_42 C dX8_relay_79 ?_
          refine f_X8_204 C dX8_relay_82 ?_
          refine z_callV C (by decide) M_X3_tell Mv_X3_tell kw_m_X8_187 ob_X3 (t_X3_tell hw) rfl rfl (Nat.le_of_ble_eq_true rfl) dX8_relay_85 (z_kv (fun s19 hw => ?_))
          refine z_iload C dX8_relay_88 0 rfl ?_
          exact z_ireturn C D dX8_relay_90 ⟨_, rfl, hw⟩
        · replace hw := hw.2 h
          refine z_aload_n C dX8_relay_59 rfl 1 rfl ?_
          refine z_bipush C 6 dX8_relay_60 (by decide) ?_
          refine p_X8_67 C dX8_relay_62 (z_nms (fun s20 es20 => ?_))
          replace hw := hw s20 es20
          refine z_iconst C (-1) dX8_relay_65 (by decide) ?_
          exact z_ireturn C D dX8_relay_66 ⟨_, rfl, hw⟩
      · replace hw := hw.2 h
        refine z_iconst C (-1) dX8_relay_37 (by decide) ?_
        exact z_ireturn C D dX8_relay_38 ⟨_, rfl, hw⟩
    · replace hw := hw.2 h
      refine z_iconst C 1 dX8_relay_19 (by decide) ?_
      refine z_goto C (tgt := 24) dX8_relay_20 (by decide) ?_
      refine z_callS C (by decide) M_X8_wrongUnless Ms_X8_wrongUnless kw_m_X8_89 (t_X8_wrongUnless hw) rfl rfl (Nat.le_of_ble_eq_true rfl) dX8_relay_24 (z_ki (fun r21 s22 hw => ?_))
      refine p_X8_67 C dX8_relay_27 (z_nms (fun s23 es23 => ?_))
      replace hw := hw s23 es23
      refine z_aload_n C dX8_relay_30 rfl 0 rfl ?_
      refine f_X8_67 C dX8_relay_31 ?_
      refine z_if_eq C (tgt := 39) dX8_relay_34 (by decide) (fun h => ?_) (fun h => ?_)
      · replace hw := hw.1 h
        refine z_aload_n C dX8_relay_39 rfl 0 rfl ?_
        refine f_X8_42 C dX8_relay_40 ?_
        refine z_iload_n C dX8_relay_43 rfl 1 rfl ?_
        refine z_iload_n C dX8_relay_44 rfl 2 rfl ?_
        refine z_iload_n C dX8_relay_45 rfl 3 rfl ?_
        refine z_iload C dX8_relay_46 4 rfl ?_
        refine z_callV C (by decide) M_X5_seek Mv_X5_seek kw_m_X8_200 ob_X5 (t_X5_seek hw) rfl rfl (Nat.le_of_ble_eq_true rfl) dX8_relay_48 (z_ki (fun r24 s25 hw => ?_))
        refine z_istore C [(5, .int r24), (0, .ref ((zXE X).1 0 0)), (1, .int a1), (2, .int a2), (3, .int a3), (4, .int a4)] dX8_relay_51 (by decide) rfl ?_
        refine z_iload C dX8_relay_53 0 rfl ?_
        refine z_iconst C (-1) dX8_relay_55 (by decide) ?_
        refine z_icmp_ne C (tgt := 67) dX8_relay_56 (by decide) (fun h => ?_) (fun h => ?_)
        · replace hw := hw.1 h
          refine z_aload_n C dX8_relay_67 rfl 1 rfl ?_
          refine f_X8_10 C dX8_relay_68 ?_
          refine z_aload_n C dX8_relay_71 rfl 1 rfl ?_
          refine f_X8_42 C dX8_relay_72 ?_
          refine f_X8_203 C dX8_relay_75 ?_
          refine z_aload_n C dX8_relay_78 rfl 1 rfl ?_
          refine f_X8_42 C dX8_relay_79 ?_
          refine f_X8_204 C dX8_relay_82 ?_
          refine z_callV C (by decide) M_X3_tell Mv_X3_tell kw_m_X8_187 ob_X3 (t_X3_tell hw) rfl rfl (Nat.le_of_ble_eq_true rfl) dX8_relay_85 (z_kv (fun s27 hw => ?_))
          refine z_iload C dX8_relay_88 0 rfl ?_
          exact z_ireturn C D dX8_relay_90 ⟨_, rfl, hw⟩
        · replace hw := hw.2 h
          refine z_aload_n C dX8_relay_59 rfl 1 rfl ?_
          refine z_bipush C 6 dX8_relay_60 (by decide) ?_
          refine p_X8_67 C dX8_relay_62 (z_nms (fun s28 es28 => ?_))
          replace hw := hw s28 es28
          refine z_iconst C (-1) dX8_relay_65 (by decide) ?_
          exact z_ireturn C D dX8_relay_66 ⟨_, rfl, hw⟩
      · replace hw := hw.2 h
        refine z_iconst C (-1) dX8_relay_37 (by decide) ?_
        exact z_ireturn C D dX8_relay_38 ⟨_, rfl, hw⟩
set_option maxHeartbeats 4000000 in
set_option maxRecDepth 100000 in
theorem t_X9_isAhead {l : Launch} {E : zE} {a1 : Int32} {a2 : Int32} {s0 : zS} {Q : Int32 → zS → Prop}  (hw : Wp_X9_isAhead a1 a2 s0 Q) : zT l 1 E yX9_isAhead cX9_isAhead 6 (some .boolean) [.ref (E.1 54 0), .int a1, .int a2] s0 (zQb Q) := by
  unfold Wp_X9_isAhead at hw
  refine z_entry rfl (Nat.le_of_ble_eq_true rfl) rfl ?_
  intro X C D hl hE
  subst hl; subst hE
  have C : zC X cX9_isAhead RX9 6 1 := C
  refine z_use (hw (fun v3 s0 => zV X 55 [(0, .ref ((zXE X).1 54 0)), (3, .int v3)] [] s0) (fun v3 s0 => zV X 160 [(0, .ref ((zXE X).1 54 0)), (3, .int v3)] [] s0) (fun v3 s0 hw => ?_) (fun v3 s0 hw => ?_)) (fun hw => ?_)
  · show zV X 55 _ _ _
    refine z_iload_n C dX9_isAhead_55 rfl 1 rfl ?_
    refine z_iconst C 3 dX9_isAhead_56 (by decide) ?_
    refine z_icmp_gt C (tgt := 158) dX9_isAhead_57 (by decide) (fun h => ?_) (fun h => ?_)
    · replace hw := hw.1 h
      refine z_iconst C 0 dX9_isAhead_158 (by decide) ?_
      refine z_istore_n C [(3, .int (0 : Int32)), (0, .ref ((zXE X).1 54 0))] dX9_isAhead_159 rfl (by decide) rfl ?_
      exact z_lv [1, 0] rfl hw
    · replace hw := hw.2 h
      refine z_iload_n C dX9_isAhead_60 rfl 1 rfl ?_
      refine z_aload_n C dX9_isAhead_61 rfl 0 rfl ?_
      refine f_X9_179 C dX9_isAhead_62 ?_
      refine z_icmp_gt C (tgt := 72) dX9_isAhead_65 (by decide) (fun h => ?_) (fun h => ?_)
      · replace hw := hw.1 h
        refine z_iconst C 0 dX9_isAhead_72 (by decide) ?_
        refine z_istore C [(4, .int (0 : Int32)), (0, .ref ((zXE X).1 54 0)), (3, .int v3)] dX9_isAhead_73 (by decide) rfl ?_
        refine z_iload_n C dX9_isAhead_75 rfl 2 rfl ?_
        refine z_aload_n C dX9_isAhead_76 rfl 1 rfl ?_
        refine f_X9_170 C dX9_isAhead_77 ?_
        refine z_icmp_gt C (tgt := 87) dX9_isAhead_80 (by decide) (fun h => ?_) (fun h => ?_)
        · replace hw := hw.1 h
          refine z_iconst C 0 dX9_isAhead_87 (by decide) ?_
          refine z_istore C [(5, .int (0 : Int32)), (4, .int (0 : Int32)), (0, .ref ((zXE X).1 54 0)), (3, .int v3)] dX9_isAhead_88 (by decide) rfl ?_
          refine z_iload C dX9_isAhead_90 1 rfl ?_
          refine z_iload C dX9_isAhead_92 0 rfl ?_
          refine z_icmp_eq C (tgt := 108) dX9_isAhead_94 (by decide) (fun _ => ?_) (fun h => absurd h (by decide))
          refine z_iload C dX9_isAhead_108 1 rfl ?_
          refine z_if_ne C (tgt := 116) dX9_isAhead_110 (by decide) (fun h => absurd h (by decide)) (fun _ => ?_)
          refine z_goto C (tgt := 158) dX9_isAhead_113 (by decide) ?_
          refine z_iconst C 0 dX9_isAhead_158 (by decide) ?_
          refine z_istore_n C [(3, .int (0 : Int32)), (5, .int (0 : Int32)), (4, .int (0 : Int32)), (0, .ref ((zXE X).1 54 0))] dX9_isAhead_159 rfl (by decide) rfl ?_
          exact z_lv [3, 0] rfl hw
        · replace hw := hw.2 h
          refine z_iconst C 1 dX9_isAhead_83 (by decide) ?_
          refine z_goto C (tgt := 88) dX9_isAhead_84 (by decide) ?_
          refine z_istore C [(5, .int (1 : Int32)), (4, .int (0 : Int32)), (0, .ref ((zXE X).1 54 0)), (3, .int v3)] dX9_isAhead_88 (by decide) rfl ?_
          refine z_iload C dX9_isAhead_90 1 rfl ?_
          refine z_iload C dX9_isAhead_92 0 rfl ?_
          refine z_icmp_eq C (tgt := 108) dX9_isAhead_94 (by decide) (fun h => absurd h (by decide)) (fun _ => ?_)
          refine z_iload C dX9_isAhead_97 1 rfl ?_
          refine z_if_ne C (tgt := 106) dX9_isAhead_99 (by decide) (fun h => absurd h (by decide)) (fun _ => ?_)
          refine z_iconst C 1 dX9_isAhead_102 (by decide) ?_
          refine z_goto C (tgt := 107) dX9_isAhead_103 (by decide) ?_
          exact z_zreturn C D dX9_isAhead_107 (Or.inr rfl) ⟨_, rfl, (Or.inr rfl), hw⟩
      · replace hw := hw.2 h
        refine z_iconst C 1 dX9_isAhead_68 (by decide) ?_
        refine z_goto C (tgt := 73) dX9_isAhead_69 (by decide) ?_
        refine z_istore C [(4, .int (1 : Int32)), (0, .ref ((zXE X).1 54 0)), (3, .int v3)] dX9_isAhead_73 (by decide) rfl ?_
        refine z_iload_n C dX9_isAhead_75 rfl 2 rfl ?_
        refine z_aload_n C dX9_isAhead_76 rfl 1 rfl ?_
        refine f_X9_170 C dX9_isAhead_77 ?_
        refine z_icmp_gt C (tgt := 87) dX9_isAhead_80 (by decide) (fun h => ?_) (fun h => ?_)
        · replace hw := hw.1 h
          refine z_iconst C 0 dX9_isAhead_87 (by decide) ?_
          refine z_istore C [(5, .int (0 : Int32)), (4, .int (1 : Int32)), (0, .ref ((zXE X).1 54 0)), (3, .int v3)] dX9_isAhead_88 (by decide) rfl ?_
          refine z_iload C dX9_isAhead_90 1 rfl ?_
          refine z_iload C dX9_isAhead_92 0 rfl ?_
          refine z_icmp_eq C (tgt := 108) dX9_isAhead_94 (by decide) (fun h => absurd h (by decide)) (fun _ => ?_)
          refine z_iload C dX9_isAhead_97 1 rfl ?_
          refine z_if_ne C (tgt := 106) dX9_isAhead_99 (by decide) (fun _ => ?_) (fun h => absurd h (by decide))
          refine z_iconst C 0 dX9_isAhead_106 (by decide) ?_
          exact z_zreturn C D dX9_isAhead_107 (Or.inl rfl) ⟨_, rfl, (Or.inl rfl), hw⟩
        · replace hw := hw.2 h
          refine z_iconst C 1 dX9_isAhead_83 (by decide) ?_
          refine z_goto C (tgt := 88) dX9_isAhead_84 (by decide) ?_
          refine z_istore C [(5, .int (1 : Int32)), (4, .int (1 : Int32)), (0, .ref ((zXE X).1 54 0)), (3, .int v3)] dX9_isAhead_88 (by decide) rfl ?_
          refine z_iload C dX9_isAhead_90 1 rfl ?_
          refine z_iload C dX9_isAhead_92 0 rfl ?_
          refine z_icmp_eq C (tgt := 108) dX9_isAhead_94 (by decide) (fun _ => ?_) (fun h => absurd h (by decide))
          refine z_iload C dX9_isAhead_108 1 rfl ?_
          refine z_if_ne C (tgt := 116) dX9_isAhead_110 (by decide) (fun _ => ?_) (fun h => absurd h (by decide))
          refine z_aload_n C dX9_isAhead_116 rfl 2 rfl ?_
          refine f_X9_54 C dX9_isAhead_117 ?_
          refine z_iload_n C dX9_isAhead_120 rfl 3 rfl ?_
          refine z_iald C za_68 (by decide) (Int32.toNatClampNeg v3) rfl hw.1 dX9_isAhead_121 ?_
          replace hw := hw.2
          refine z_aload_n C dX9_isAhead_122 rfl 2 rfl ?_
          refine f_X9_60 C dX9_isAhead_123 ?_
          refine z_iload_n C dX9_isAhead_126 rfl 3 rfl ?_
          refine z_iald C za_70 (by decide) (Int32.toNatClampNeg v3) rfl hw.1 dX9_isAhead_127 ?_
          replace hw := hw.2
          refine z_icmp_eq C (tgt := 152) dX9_isAhead_128 (by decide) (fun h => ?_) (fun h => ?_)
          · replace hw := hw.1 h
            refine z_iinc C (v3 + 1) [(3, .int (v3 + 1)), (5, .int (1 : Int32)), (4, .int (1 : Int32)), (0, .ref ((zXE X).1 54 0))] dX9_isAhead_152 3 rfl rfl (by decide) rfl ?_
            refine z_goto C (tgt := 55) dX9_isAhead_155 (by decide) ?_
            exact z_lv [3, 0] rfl hw
          · replace hw := hw.2 h
            refine z_aload_n C dX9_isAhead_131 rfl 2 rfl ?_
            refine f_X9_54 C dX9_isAhead_132 ?_
            refine z_iload_n C dX9_isAhead_135 rfl 3 rfl ?_
            refine z_iald C za_68 (by decide) (Int32.toNatClampNeg v3) rfl hw.1 dX9_isAhead_136 ?_
            replace hw := hw.2
            refine z_aload_n C dX9_isAhead_137 rfl 2 rfl ?_
            refine f_X9_60 C dX9_isAhead_138 ?_
            refine z_iload_n C dX9_isAhead_141 rfl 3 rfl ?_
            refine z_iald C za_70 (by decide) (Int32.toNatClampNeg v3) rfl hw.1 dX9_isAhead_142 ?_
            replace hw := hw.2
            refine z_icmp_ge C (tgt := 150) dX9_isAhead_143 (by decide) (fun h => ?_) (fun h => ?_)
            · replace hw := hw.1 h
              refine z_iconst C 0 dX9_isAhead_150 (by decide) ?_
              exact z_zreturn C D dX9_isAhead_151 (Or.inl rfl) ⟨_, rfl, (Or.inl rfl), hw⟩
            · replace hw := hw.2 h
              refine z_iconst C 1 dX9_isAhead_146 (by decide) ?_
              refine z_goto C (tgt := 151) dX9_isAhead_147 (by decide) ?_
              exact z_zreturn C D dX9_isAhead_151 (Or.inr rfl) ⟨_, rfl, (Or.inr rfl), hw⟩
  · show zV X 160 _ _ _
    refine z_iload_n C dX9_isAhead_160 rfl 1 rfl ?_
    refine z_aload_n C dX9_isAhead_161 rfl 0 rfl ?_
    refine f_X9_179 C dX9_isAhead_162 ?_
    refine z_icmp_ge C (tgt := 210) dX9_isAhead_165 (by decide) (fun h => ?_) (fun h => ?_)
    · replace hw := hw.1 h
      refine z_iconst C 0 dX9_isAhead_210 (by decide) ?_
      exact z_zreturn C D dX9_isAhead_211 (Or.inl rfl) ⟨_, rfl, (Or.inl rfl), hw⟩
    · replace hw := hw.2 h
      refine z_aload_n C dX9_isAhead_168 rfl 0 rfl ?_
      refine f_X9_57 C dX9_isAhead_169 ?_
      refine z_iload_n C dX9_isAhead_172 rfl 1 rfl ?_
      refine z_iald C za_69 (by decide) (Int32.toNatClampNeg v3) rfl hw.1 dX9_isAhead_173 ?_
      replace hw := hw.2
      refine z_aload_n C dX9_isAhead_174 rfl 0 rfl ?_
      refine f_X9_63 C dX9_isAhead_175 ?_
      refine z_iload_n C dX9_isAhead_178 rfl 1 rfl ?_
      refine z_iald C za_71 (by decide) (Int32.toNatClampNeg v3) rfl hw.1 dX9_isAhead_179 ?_
      replace hw := hw.2
      refine z_icmp_eq C (tgt := 204) dX9_isAhead_180 (by decide) (fun h => ?_) (fun h => ?_)
      · replace hw := hw.1 h
        refine z_iinc C (v3 + 1) [(3, .int (v3 + 1)), (0, .ref ((zXE X).1 54 0))] dX9_isAhead_204 1 rfl rfl (by decide) rfl ?_
        refine z_goto C (tgt := 160) dX9_isAhead_207 (by decide) ?_
        exact z_lv [1, 0] rfl hw
      · replace hw := hw.2 h
        refine z_aload_n C dX9_isAhead_183 rfl 0 rfl ?_
        refine f_X9_57 C dX9_isAhead_184 ?_
        refine z_iload_n C dX9_isAhead_187 rfl 1 rfl ?_
        refine z_iald C za_69 (by decide) (Int32.toNatClampNeg v3) rfl hw.1 dX9_isAhead_188 ?_
        replace hw := hw.2
        refine z_aload_n C dX9_isAhead_189 rfl 0 rfl ?_
        refine f_X9_63 C dX9_isAhead_190 ?_
        refine z_iload_n C dX9_isAhead_193 rfl 1 rfl ?_
        refine z_iald C za_71 (by decide) (Int32.toNatClampNeg v3) rfl hw.1 dX9_isAhead_194 ?_
        replace hw := hw.2
        refine z_icmp_ge C (tgt := 202) dX9_isAhead_195 (by decide) (fun h => ?_) (fun h => ?_)
        · replace hw := hw.1 h
          refine z_iconst C 0 dX9_isAhead_202 (by decide) ?_
          exact z_zreturn C D dX9_isAhead_203 (Or.inl rfl) ⟨_, rfl, (Or.inl rfl), hw⟩
        · replace hw := hw.2 h
          refine z_iconst C 1 dX9_isAhead_198 (by decide) ?_
          refine z_goto C (tgt := 203) dX9_isAhead_199 (by decide) ?_
          exact z_zreturn C D dX9_isAhead_203 (Or.inr rfl) ⟨_, rfl, (Or.inr rfl), hw⟩
  refine z_aload_n C dX9_isAhead_0 rfl 0 rfl ?_
  refine f_X9_170 C dX9_isAhead_1 ?_
  refine z_if_ne C (tgt := 9) dX9_isAhead_4 (by decide) (fun h => ?_) (fun h => ?_)
  · replace hw := hw.1 h
    refine z_iload_n C dX9_isAhead_9 rfl 1 rfl ?_
    refine z_aload_n C dX9_isAhead_10 rfl 0 rfl ?_
    refine f_X9_173 C dX9_isAhead_11 ?_
    refine z_icmp_eq C (tgt := 31) dX9_isAhead_14 (by decide) (fun h => ?_) (fun h => ?_)
    · replace hw := hw.1 h
      refine z_iload_n C dX9_isAhead_31 rfl 2 rfl ?_
      refine z_aload_n C dX9_isAhead_32 rfl 0 rfl ?_
      refine f_X9_176 C dX9_isAhead_33 ?_
      refine z_icmp_eq C (tgt := 53) dX9_isAhead_36 (by decide) (fun h => ?_) (fun h => ?_)
      · replace hw := hw.1 h
        refine z_iconst C 1 dX9_isAhead_53 (by decide) ?_
        refine z_istore_n C [(3, .int (1 : Int32)), (0, .ref ((zXE X).1 54 0)), (1, .int a1), (2, .int a2)] dX9_isAhead_54 rfl (by decide) rfl ?_
        exact z_lv [1, 0] rfl hw
      · replace hw := hw.2 h
        refine z_iload_n C dX9_isAhead_39 rfl 2 rfl ?_
        refine z_aload_n C dX9_isAhead_40 rfl 0 rfl ?_
        refine f_X9_176 C dX9_isAhead_41 ?_
        refine z_icmp_ge C (tgt := 51) dX9_isAhead_44 (by decide) (fun h => ?_) (fun h => ?_)
        · replace hw := hw.1 h
          refine z_iconst C 0 dX9_isAhead_51 (by decide) ?_
          exact z_zreturn C D dX9_isAhead_52 (Or.inl rfl) ⟨_, rfl, (Or.inl rfl), hw⟩
        · replace hw := hw.2 h
          refine z_iconst C 1 dX9_isAhead_47 (by decide) ?_
          refine z_goto C (tgt := 52) dX9_isAhead_48 (by decide) ?_
          exact z_zreturn C D dX9_isAhead_52 (Or.inr rfl) ⟨_, rfl, (Or.inr rfl), hw⟩
    · replace hw := hw.2 h
      refine z_iload_n C dX9_isAhead_17 rfl 1 rfl ?_
      refine z_aload_n C dX9_isAhead_18 rfl 0 rfl ?_
      refine f_X9_173 C dX9_isAhead_19 ?_
      refine z_icmp_ge C (tgt := 29) dX9_isAhead_22 (by decide) (fun h => ?_) (fun h => ?_)
      · replace hw := hw.1 h
        refine z_iconst C 0 dX9_isAhead_29 (by decide) ?_
        exact z_zreturn C D dX9_isAhead_30 (Or.inl rfl) ⟨_, rfl, (Or.inl rfl), hw⟩
      · replace hw := hw.2 h
        refine z_iconst C 1 dX9_isAhead_25 (by decide) ?_
        refine z_goto C (tgt := 30) dX9_isAhead_26 (by decide) ?_
        exact z_zreturn C D dX9_isAhead_30 (Or.inr rfl) ⟨_, rfl, (Or.inr rfl), hw⟩
  · replace hw := hw.2 h
    refine z_iconst C 1 dX9_isAhead_7 (by decide) ?_
    exact z_zreturn C D dX9_isAhead_8 (Or.inr rfl) ⟨_, rfl, (Or.inr rfl), hw⟩
set_option maxHeartbeats 4000000 in
set_option maxRecDepth 100000 in
theorem t_X9_tryWay {l : Launch} {E : zE} {a1 : Int32} {a2 : Int32} {s0 : zS} {Q : zS → Prop}  (hw : Wp_X9_tryWay a1 a2 s0 Q) : zT l 2 E yX9_tryWay cX9_tryWay 14 none [.ref (E.1 54 0), .int a1, .int a2] s0 (zQv Q) := by
  unfold Wp_X9_tryWay at hw
  refine z_entry rfl (Nat.le_of_ble_eq_true rfl) rfl ?_
  intro X C D hl hE
  subst hl; subst hE
  have C : zC X cX9_tryWay RX9 14 2 := C
  refine z_use (hw (fun v3 v4 s0 => zV X 5 [(0, .ref ((zXE X).1 54 0)), (1, .int a1), (2, .int a2), (3, .int v3), (4, .int v4)] [] s0) (fun v3 v4 v5 s0 => zV X 82 [(0, .ref ((zXE X).1 54 0)), (1, .int a1), (2, .int a2), (3, .int v3), (4, .int v4), (5, .int v5)] [] s0) (fun v3 v4 v5 s0 => zV X 106 [(0, .ref ((zXE X).1 54 0)), (1, .int a1), (2, .int a2), (3, .int v3), (4, .int v4), (5, .int v5)] [] s0) (fun v3 v4 v5 v6 v7 v8 v10 v12 v13 s0 => zV X 132 [(0, .ref ((zXE X).1 54 0)), (1, .int a1), (2, .int a2), (3, .int v3), (4, .int v4), (5, .int v5), (6, .int v6), (7, .int v7), (8, .long v8), (10, .long v10), (12, .int v12), (13, .int v13)] [] s0) (fun v3 v4 v5 v13 s0 => zV X 355 [(0, .ref ((zXE X).1 54 0)), (1, .int a1), (2, .int a2), (3, .int v3), (4, .int v4), (5, .int v5), (13, .int v13)] [] s0) (fun v3 v4 v5 v13 s0 => zV X 387 [(0, .ref ((zXE X).1 54 0)), (1, .int a1), (2, .int a2), (3, .int v3), (4, .int v4), (5, .int v5), (13, .int v13)] [] s0) (fun v3 v4 s0 hw => ?_) (fun v3 v4 v5 s0 hw => ?_) (fun v3 v4 v5 s0 hw => ?_) (fun v3 v4 v5 v6 v7 v8 v10 v12 v13 s0 hw => ?_) (fun v3 v4 v5 v13 s0 hw => ?_) (fun v3 v4 v5 v13 s0 hw => ?_)) (fun hw => ?_)
  · show zV X 5 _ _ _
    refine z_iload C dX9_tryWay_5 4 rfl ?_
    refine z_aload_n C dX9_tryWay_7 rfl 0 rfl ?_
    refine f_X9_179 C dX9_tryWay_8 ?_
    refine z_icmp_ge C (tgt := 76) dX9_tryWay_11 (by decide) (fun h => ?_) (fun h => ?_)
    · replace hw := hw.1 h
      refine z_iconst C 1 dX9_tryWay_76 (by decide) ?_
      refine z_istore C [(4, .int (1 : Int32)), (0, .ref ((zXE X).1 54 0)), (1, .int a1), (2, .int a2), (3, .int v3)] dX9_tryWay_77 (by decide) rfl ?_
      refine z_iconst C 0 dX9_tryWay_79 (by decide) ?_
      refine z_istore C [(5, .int (0 : Int32)), (4, .int (1 : Int32)), (0, .ref ((zXE X).1 54 0)), (1, .int a1), (2, .int a2), (3, .int v3)] dX9_tryWay_80 (by decide) rfl ?_
      exact z_lv [2, 3, 4, 5, 1, 0] rfl hw
    · replace hw := hw.2 h
      refine z_aload_n C dX9_tryWay_14 rfl 0 rfl ?_
      refine f_X9_24 C dX9_tryWay_15 ?_
      refine z_aload_n C dX9_tryWay_18 rfl 0 rfl ?_
      refine f_X9_54 C dX9_tryWay_19 ?_
      refine z_iload C dX9_tryWay_22 4 rfl ?_
      refine z_iald C za_68 (by decide) (Int32.toNatClampNeg v4) rfl hw.1 dX9_tryWay_24 ?_
      replace hw := hw.2
      refine z_aload_n C dX9_tryWay_25 rfl 0 rfl ?_
      refine f_X9_54 C dX9_tryWay_26 ?_
      refine z_iload C dX9_tryWay_29 4 rfl ?_
      refine z_iconst C 1 dX9_tryWay_31 (by decide) ?_
      refine z_iadd C dX9_tryWay_32 ?_
      refine z_iald C za_68 (by decide) (Int32.toNatClampNeg (v4 + (1 : Int32))) rfl hw.1 dX9_tryWay_33 ?_
      replace hw := hw.2
      refine z_callS C (by decide) M_X9_at Ms_X9_at kw_m_X9_143 (t_X9_at hw) rfl rfl (Nat.le_of_ble_eq_true rfl) dX9_tryWay_34 (z_ki (fun r1 s2 hw => ?_))
      refine z_iald C za_58 (by decide) (Int32.toNatClampNeg r1) rfl hw.1 dX9_tryWay_37 ?_
      replace hw := hw.2
      refine z_iconst C (-1) dX9_tryWay_38 (by decide) ?_
      refine z_icmp_ne C (tgt := 43) dX9_tryWay_39 (by decide) (fun h => ?_) (fun h => ?_)
      · replace hw := hw.1 h
        refine z_iload_n C dX9_tryWay_43 rfl 3 rfl ?_
        refine z_aload_n C dX9_tryWay_44 rfl 0 rfl ?_
        refine f_X9_24 C dX9_tryWay_45 ?_
        refine z_aload_n C dX9_tryWay_48 rfl 0 rfl ?_
        refine f_X9_54 C dX9_tryWay_49 ?_
        refine z_iload C dX9_tryWay_52 4 rfl ?_
        refine z_iald C za_68 (by decide) (Int32.toNatClampNeg v4) rfl hw.1 dX9_tryWay_54 ?_
        replace hw := hw.2
        refine z_aload_n C dX9_tryWay_55 rfl 0 rfl ?_
        refine f_X9_54 C dX9_tryWay_56 ?_
        refine z_iload C dX9_tryWay_59 4 rfl ?_
        refine z_iconst C 1 dX9_tryWay_61 (by decide) ?_
        refine z_iadd C dX9_tryWay_62 ?_
        refine z_iald C za_68 (by decide) (Int32.toNatClampNeg (v4 + (1 : Int32))) rfl hw.1 dX9_tryWay_63 ?_
        replace hw := hw.2
        refine z_callS C (by decide) M_X9_at Ms_X9_at kw_m_X9_143 (t_X9_at hw) rfl rfl (Nat.le_of_ble_eq_true rfl) dX9_tryWay_64 (z_ki (fun r3 s4 hw => ?_))
        refine z_iald C za_58 (by decide) (Int32.toNatClampNeg r3) rfl hw.1 dX9_tryWay_67 ?_
        replace hw := hw.2
        refine z_iadd C dX9_tryWay_68 ?_
        refine z_nmi (fun x5 ex5 => ?_)
        replace hw := hw x5 ex5
        refine z_istore_n C [(3, .int x5), (0, .ref ((zXE X).1 54 0)), (1, .int a1), (2, .int a2), (4, .int v4)] dX9_tryWay_69 rfl (by decide) rfl ?_
        refine z_iinc C (v4 + 1) [(4, .int (v4 + 1)), (3, .int x5), (0, .ref ((zXE X).1 54 0)), (1, .int a1), (2, .int a2)] dX9_tryWay_70 4 rfl rfl (by decide) rfl ?_
        refine z_goto C (tgt := 5) dX9_tryWay_73 (by decide) ?_
        exact z_lv [2, 3, 4, 1, 0] rfl hw
      · replace hw := hw.2 h
        exact z_vreturn C D dX9_tryWay_42 ⟨rfl, hw⟩
  · show zV X 82 _ _ _
    refine z_iload C dX9_tryWay_82 5 rfl ?_
    refine z_aload_n C dX9_tryWay_84 rfl 0 rfl ?_
    refine f_X9_179 C dX9_tryWay_85 ?_
    refine z_icmp_ge C (tgt := 103) dX9_tryWay_88 (by decide) (fun h => ?_) (fun h => ?_)
    · replace hw := hw.1 h
      refine z_iconst C 0 dX9_tryWay_103 (by decide) ?_
      refine z_istore C [(5, .int (0 : Int32)), (0, .ref ((zXE X).1 54 0)), (1, .int a1), (2, .int a2), (3, .int v3), (4, .int v4)] dX9_tryWay_104 (by decide) rfl ?_
      exact z_lv [1, 2, 3, 4, 5, 0] rfl hw
    · replace hw := hw.2 h
      refine z_iload C dX9_tryWay_91 4 rfl ?_
      refine z_iconst C 4 dX9_tryWay_93 (by decide) ?_
      refine z_imul C dX9_tryWay_94 ?_
      refine z_nmi (fun x6 ex6 => ?_)
      replace hw := hw x6 ex6
      refine z_istore C [(4, .int x6), (0, .ref ((zXE X).1 54 0)), (1, .int a1), (2, .int a2), (3, .int v3), (5, .int v5)] dX9_tryWay_95 (by decide) rfl ?_
      refine z_iinc C (v5 + 1) [(5, .int (v5 + 1)), (4, .int x6), (0, .ref ((zXE X).1 54 0)), (1, .int a1), (2, .int a2), (3, .int v3)] dX9_tryWay_97 5 rfl rfl (by decide) rfl ?_
      refine z_goto C (tgt := 82) dX9_tryWay_100 (by decide) ?_
      exact z_lv [2, 3, 4, 5, 1, 0] rfl hw
  · show zV X 106 _ _ _
    refine z_iload C dX9_tryWay_106 5 rfl ?_
    refine z_iload C dX9_tryWay_108 4 rfl ?_
    refine z_icmp_ge C (tgt := 422) dX9_tryWay_110 (by decide) (fun h => ?_) (fun h => ?_)
    · replace hw := hw.1 h
      exact z_vreturn C D dX9_tryWay_422 ⟨rfl, hw⟩
    · replace hw := hw.2 h
      refine z_iload C dX9_tryWay_113 5 rfl ?_
      refine z_istore C [(6, .int v5), (0, .ref ((zXE X).1 54 0)), (1, .int a1), (2, .int a2), (3, .int v3), (4, .int v4), (5, .int v5)] dX9_tryWay_115 (by decide) rfl ?_
      refine z_iconst C 0 dX9_tryWay_117 (by decide) ?_
      refine z_istore C [(7, .int (0 : Int32)), (6, .int v5), (0, .ref ((zXE X).1 54 0)), (1, .int a1), (2, .int a2), (3, .int v3), (4, .int v4), (5, .int v5)] dX9_tryWay_118 (by decide) rfl ?_
      refine z_lconst C 1 dX9_tryWay_120 (by decide) ?_
      refine z_lstore C [(8, .long (1 : Int64)), (7, .int (0 : Int32)), (6, .int v5), (0, .ref ((zXE X).1 54 0)), (1, .int a1), (2, .int a2), (3, .int v3), (4, .int v4), (5, .int v5)] dX9_tryWay_121 (by decide) rfl ?_
      refine z_lconst C 1 dX9_tryWay_123 (by decide) ?_
      refine z_lstore C [(10, .long (1 : Int64)), (8, .long (1 : Int64)), (7, .int (0 : Int32)), (6, .int v5), (0, .ref ((zXE X).1 54 0)), (1, .int a1), (2, .int a2), (3, .int v3), (4, .int v4), (5, .int v5)] dX9_tryWay_124 (by decide) rfl ?_
      refine z_iconst C 1 dX9_tryWay_126 (by decide) ?_
      refine z_istore C [(12, .int (1 : Int32)), (10, .long (1 : Int64)), (8, .long (1 : Int64)), (7, .int (0 : Int32)), (6, .int v5), (0, .ref ((zXE X).1 54 0)), (1, .int a1), (2, .int a2), (3, .int v3), (4, .int v4), (5, .int v5)] dX9_tryWay_127 (by decide) rfl ?_
      refine z_iconst C 0 dX9_tryWay_129 (by decide) ?_
      refine z_istore C [(13, .int (0 : Int32)), (12, .int (1 : Int32)), (10, .long (1 : Int64)), (8, .long (1 : Int64)), (7, .int (0 : Int32)), (6, .int v5), (0, .ref ((zXE X).1 54 0)), (1, .int a1), (2, .int a2), (3, .int v3), (4, .int v4), (5, .int v5)] dX9_tryWay_130 (by decide) rfl ?_
      exact z_lv [6, 7, 8, 9, 10, 11, 5, 4, 3, 2, 1, 0] rfl hw
  · show zV X 132 _ _ _
    refine z_iload C dX9_tryWay_132 11 rfl ?_
    refine z_aload_n C dX9_tryWay_134 rfl 0 rfl ?_
    refine f_X9_179 C dX9_tryWay_135 ?_
    refine z_icmp_ge C (tgt := 289) dX9_tryWay_138 (by decide) (fun h => ?_) (fun h => ?_)
    · replace hw := hw.1 h
      refine z_iload C dX9_tryWay_289 10 rfl ?_
      refine z_if_eq C (tgt := 416) dX9_tryWay_291 (by decide) (fun h => ?_) (fun h => ?_)
      · replace hw := hw.1 h
        refine z_iinc C (v5 + 1) [(5, .int (v5 + 1)), (0, .ref ((zXE X).1 54 0)), (1, .int a1), (2, .int a2), (3, .int v3), (4, .int v4), (6, .int v6), (7, .int v7), (8, .long v8), (10, .long v10), (12, .int v12), (13, .int v13)] dX9_tryWay_416 5 rfl rfl (by decide) rfl ?_
        refine z_goto C (tgt := 106) dX9_tryWay_419 (by decide) ?_
        exact z_lv [1, 2, 3, 4, 5, 0] rfl hw
      · replace hw := hw.2 h
        refine z_lload C dX9_tryWay_294 8 rfl ?_
        refine z_iload_n C dX9_tryWay_296 rfl 2 rfl ?_
        refine z_i2l C dX9_tryWay_297 ?_
        refine z_lmul C dX9_tryWay_298 ?_
        refine z_iload_n C dX9_tryWay_299 rfl 1 rfl ?_
        refine z_i2l C dX9_tryWay_300 ?_
        refine z_lload C dX9_tryWay_301 9 rfl ?_
        refine z_lmul C dX9_tryWay_303 ?_
        refine z_lcmp_lt C (tgt := 416) dX9_tryWay_304 dX9_tryWay_305 (by decide) (fun h => ?_) (fun h => ?_)
        · replace hw := hw.1 h
          refine z_iinc C (v5 + 1) [(5, .int (v5 + 1)), (0, .ref ((zXE X).1 54 0)), (1, .int a1), (2, .int a2), (3, .int v3), (4, .int v4), (6, .int v6), (7, .int v7), (8, .long v8), (10, .long v10), (12, .int v12), (13, .int v13)] dX9_tryWay_416 5 rfl rfl (by decide) rfl ?_
          refine z_goto C (tgt := 106) dX9_tryWay_419 (by decide) ?_
          exact z_lv [1, 2, 3, 4, 5, 0] rfl hw
        · replace hw := hw.2 h
          refine z_aload_n C dX9_tryWay_308 rfl 0 rfl ?_
          refine z_iload C dX9_tryWay_309 7 rfl ?_
          refine z_iload_n C dX9_tryWay_311 rfl 3 rfl ?_
          refine z_callV C (by decide) M_X9_isAhead Mv_X9_isAhead kw_m_X9_182 ob_X9 (t_X9_isAhead hw) rfl rfl (Nat.le_of_ble_eq_true rfl) dX9_tryWay_312 (z_kb (fun r7 s8 hr7 hw => ?_))
          refine z_if_ne C (tgt := 321) dX9_tryWay_315 (by decide) (fun h => ?_) (fun h => ?_)
          · replace hw := hw.1 h
            refine z_aload_n C dX9_tryWay_321 rfl 0 rfl ?_
            refine z_aload_n C dX9_tryWay_322 rfl 0 rfl ?_
            refine f_X9_179 C dX9_tryWay_323 ?_
            refine p_X9_170 C dX9_tryWay_326 (z_nms (fun s9 es9 => ?_))
            replace hw := hw s9 es9
            refine z_aload_n C dX9_tryWay_329 rfl 0 rfl ?_
            refine z_iload C dX9_tryWay_330 7 rfl ?_
            refine p_X9_173 C dX9_tryWay_332 (z_nms (fun s10 es10 => ?_))
            replace hw := hw s10 es10
            refine z_aload_n C dX9_tryWay_335 rfl 0 rfl ?_
            refine z_iload_n C dX9_tryWay_336 rfl 3 rfl ?_
            refine p_X9_176 C dX9_tryWay_337 (z_nms (fun s11 es11 => ?_))
            replace hw := hw s11 es11
            refine z_aload_n C dX9_tryWay_340 rfl 0 rfl ?_
            refine z_lload C dX9_tryWay_341 8 rfl ?_
            refine p_X9_185 C dX9_tryWay_343 (z_nms (fun s12 es12 => ?_))
            replace hw := hw s12 es12
            refine z_aload_n C dX9_tryWay_346 rfl 0 rfl ?_
            refine z_lload C dX9_tryWay_347 9 rfl ?_
            refine p_X9_188 C dX9_tryWay_349 (z_nms (fun s13 es13 => ?_))
            replace hw := hw s13 es13
            refine z_iconst C 0 dX9_tryWay_352 (by decide) ?_
            refine z_istore C [(13, .int (0 : Int32)), (0, .ref ((zXE X).1 54 0)), (1, .int a1), (2, .int a2), (3, .int v3), (4, .int v4), (5, .int v5), (6, .int v6), (7, .int v7), (8, .long v8), (10, .long v10), (12, .int v12)] dX9_tryWay_353 (by decide) rfl ?_
            exact z_lv [1, 2, 3, 4, 5, 6, 0] rfl hw
          · replace hw := hw.2 h
            refine z_goto C (tgt := 416) dX9_tryWay_318 (by decide) ?_
            refine z_iinc C (v5 + 1) [(5, .int (v5 + 1)), (0, .ref ((zXE X).1 54 0)), (1, .int a1), (2, .int a2), (3, .int v3), (4, .int v4), (6, .int v6), (7, .int v7), (8, .long v8), (10, .long v10), (12, .int v12), (13, .int v13)] dX9_tryWay_416 5 rfl rfl (by decide) rfl ?_
            refine z_goto C (tgt := 106) dX9_tryWay_419 (by decide) ?_
            exact z_lv [1, 2, 3, 4, 5, 0] rfl hw
    · replace hw := hw.2 h
      refine z_aload_n C dX9_tryWay_141 rfl 0 rfl ?_
      refine f_X9_57 C dX9_tryWay_142 ?_
      refine z_iload C dX9_tryWay_145 11 rfl ?_
      refine z_iconst C 1 dX9_tryWay_147 (by decide) ?_
      refine z_iload C dX9_tryWay_148 6 rfl ?_
      refine z_iconst C 4 dX9_tryWay_150 (by decide) ?_
      refine z_irem C dX9_tryWay_151 (by decide) ?_
      refine z_iadd C dX9_tryWay_152 ?_
      refine z_iast C za_69 (by decide) (Int32.toNatClampNeg v13) rfl hw.1 dX9_tryWay_153 (z_nms (fun s14 es14 => ?_))
      replace hw := hw.2
      replace hw := hw s14 es14
      refine z_iload C dX9_tryWay_154 6 rfl ?_
      refine z_iconst C 4 dX9_tryWay_156 (by decide) ?_
      refine z_idiv C dX9_tryWay_157 (by decide) ?_
      refine z_nmi (fun x15 ex15 => ?_)
      replace hw := hw x15 ex15
      refine z_istore C [(6, .int x15), (0, .ref ((zXE X).1 54 0)), (1, .int a1), (2, .int a2), (3, .int v3), (4, .int v4), (5, .int v5), (7, .int v7), (8, .long v8), (10, .long v10), (12, .int v12), (13, .int v13)] dX9_tryWay_158 (by decide) rfl ?_
      refine z_iload C dX9_tryWay_160 7 rfl ?_
      refine z_aload_n C dX9_tryWay_162 rfl 1 rfl ?_
      refine f_X9_57 C dX9_tryWay_163 ?_
      refine z_iload C dX9_tryWay_166 11 rfl ?_
      refine z_iald C za_69 (by decide) (Int32.toNatClampNeg v13) rfl hw.1 dX9_tryWay_168 ?_
      replace hw := hw.2
      refine z_iadd C dX9_tryWay_169 ?_
      refine z_nmi (fun x16 ex16 => ?_)
      replace hw := hw x16 ex16
      refine z_istore C [(7, .int x16), (6, .int x15), (0, .ref ((zXE X).1 54 0)), (1, .int a1), (2, .int a2), (3, .int v3), (4, .int v4), (5, .int v5), (8, .long v8), (10, .long v10), (12, .int v12), (13, .int v13)] dX9_tryWay_170 (by decide) rfl ?_
      refine z_iload C dX9_tryWay_172 10 rfl ?_
      refine z_if_eq C (tgt := 211) dX9_tryWay_174 (by decide) (fun h => ?_) (fun h => ?_)
      · replace hw := hw.1 h
        refine z_iconst C 0 dX9_tryWay_211 (by decide) ?_
        refine z_istore C [(12, .int (0 : Int32)), (7, .int x16), (6, .int x15), (0, .ref ((zXE X).1 54 0)), (1, .int a1), (2, .int a2), (3, .int v3), (4, .int v4), (5, .int v5), (8, .long v8), (10, .long v10), (13, .int v13)] dX9_tryWay_212 (by decide) rfl ?_
        refine z_lload C dX9_tryWay_214 9 rfl ?_
        refine z_bipush C 10 dX9_tryWay_216 (by decide) ?_
        refine z_aload_n C dX9_tryWay_218 rfl 3 rfl ?_
        refine f_X9_57 C dX9_tryWay_219 ?_
        refine z_iload C dX9_tryWay_222 11 rfl ?_
        refine z_iald C za_69 (by decide) (Int32.toNatClampNeg v13) rfl hw.1 dX9_tryWay_224 ?_
        replace hw := hw.2
        refine z_callS C (by decide) M_X9_power Ms_X9_power kw_m_X9_158 (t_X9_power hw) rfl rfl (Nat.le_of_ble_eq_true rfl) dX9_tryWay_225 (z_kl (fun r17 s18 hw => ?_))
        refine z_aload_n C dX9_tryWay_228 rfl 3 rfl ?_
        refine f_X9_27 C dX9_tryWay_229 ?_
        refine z_aload_n C dX9_tryWay_232 rfl 3 rfl ?_
        refine f_X9_54 C dX9_tryWay_233 ?_
        refine z_iload C dX9_tryWay_236 11 rfl ?_
        refine z_iald C za_68 (by decide) (Int32.toNatClampNeg v13) rfl hw.1 dX9_tryWay_238 ?_
        replace hw := hw.2
        refine z_aload_n C dX9_tryWay_239 rfl 3 rfl ?_
        refine f_X9_54 C dX9_tryWay_240 ?_
        refine z_iload C dX9_tryWay_243 11 rfl ?_
        refine z_iconst C 1 dX9_tryWay_245 (by decide) ?_
        refine z_iadd C dX9_tryWay_246 ?_
        refine z_iald C za_68 (by decide) (Int32.toNatClampNeg (v13 + (1 : Int32))) rfl hw.1 dX9_tryWay_247 ?_
        replace hw := hw.2
        refine z_callS C (by decide) M_X9_at Ms_X9_at kw_m_X9_143 (t_X9_at hw) rfl rfl (Nat.le_of_ble_eq_true rfl) dX9_tryWay_248 (z_ki (fun r19 s20 hw => ?_))
        refine z_iald C za_59 (by decide) (Int32.toNatClampNeg r19) rfl hw.1 dX9_tryWay_251 ?_
        replace hw := hw.2
        refine z_aload_n C dX9_tryWay_252 rfl 3 rfl ?_
        refine f_X9_57 C dX9_tryWay_253 ?_
        refine z_iload C dX9_tryWay_256 11 rfl ?_
        refine z_iald C za_69 (by decide) (Int32.toNatClampNeg v13) rfl hw.1 dX9_tryWay_258 ?_
        replace hw := hw.2
        refine z_callS C (by decide) M_X9_power Ms_X9_power kw_m_X9_158 (t_X9_power hw) rfl rfl (Nat.le_of_ble_eq_true rfl) dX9_tryWay_259 (z_kl (fun r21 s22 hw => ?_))
        refine z_lsub C dX9_tryWay_262 ?_
        refine z_lmul C dX9_tryWay_263 ?_
        refine z_nml (fun y23 ey23 => ?_)
        replace hw := hw y23 ey23
        refine z_lstore C [(8, .long y23), (12, .int (0 : Int32)), (7, .int x16), (6, .int x15), (0, .ref ((zXE X).1 54 0)), (1, .int a1), (2, .int a2), (3, .int v3), (4, .int v4), (5, .int v5), (10, .long v10), (13, .int v13)] dX9_tryWay_264 (by decide) rfl ?_
        refine z_lload C dX9_tryWay_266 10 rfl ?_
        refine z_bipush C 10 dX9_tryWay_268 (by decide) ?_
        refine z_aload_n C dX9_tryWay_270 rfl 4 rfl ?_
        refine f_X9_57 C dX9_tryWay_271 ?_
        refine z_iload C dX9_tryWay_274 11 rfl ?_
        refine z_iald C za_69 (by decide) (Int32.toNatClampNeg v13) rfl hw.1 dX9_tryWay_276 ?_
        replace hw := hw.2
        refine z_callS C (by decide) M_X9_power Ms_X9_power kw_m_X9_158 (t_X9_power hw) rfl rfl (Nat.le_of_ble_eq_true rfl) dX9_tryWay_277 (z_kl (fun r24 s25 hw => ?_))
        refine z_lmul C dX9_tryWay_280 ?_
        refine z_nml (fun y26 ey26 => ?_)
        replace hw := hw y26 ey26
        refine z_lstore C [(10, .long y26), (8, .long y23), (12, .int (0 : Int32)), (7, .int x16), (6, .int x15), (0, .ref ((zXE X).1 54 0)), (1, .int a1), (2, .int a2), (3, .int v3), (4, .int v4), (5, .int v5), (13, .int v13)] dX9_tryWay_281 (by decide) rfl ?_
        refine z_iinc C (v13 + 1) [(13, .int (v13 + 1)), (10, .long y26), (8, .long y23), (12, .int (0 : Int32)), (7, .int x16), (6, .int x15), (0, .ref ((zXE X).1 54 0)), (1, .int a1), (2, .int a2), (3, .int v3), (4, .int v4), (5, .int v5)] dX9_tryWay_283 11 rfl rfl (by decide) rfl ?_
        refine z_goto C (tgt := 132) dX9_tryWay_286 (by decide) ?_
        exact z_lv [6, 7, 8, 9, 10, 11, 5, 4, 2, 1, 3, 0] rfl hw
      · replace hw := hw.2 h
        refine z_aload_n C dX9_tryWay_177 rfl 2 rfl ?_
        refine z_aload_n C dX9_tryWay_178 rfl 2 rfl ?_
        refine f_X9_54 C dX9_tryWay_179 ?_
        refine z_iload C dX9_tryWay_182 11 rfl ?_
        refine z_iconst C 1 dX9_tryWay_184 (by decide) ?_
        refine z_iadd C dX9_tryWay_185 ?_
        refine z_iald C za_68 (by decide) (Int32.toNatClampNeg (v13 + (1 : Int32))) rfl hw.1 dX9_tryWay_186 ?_
        replace hw := hw.2
        refine z_aload_n C dX9_tryWay_187 rfl 2 rfl ?_
        refine f_X9_54 C dX9_tryWay_188 ?_
        refine z_iload C dX9_tryWay_191 11 rfl ?_
        refine z_iald C za_68 (by decide) (Int32.toNatClampNeg v13) rfl hw.1 dX9_tryWay_193 ?_
        replace hw := hw.2
        refine z_callV C (by decide) M_X9_count Mv_X9_count kw_m_X9_152 ob_X9 (t_X9_count hw) rfl rfl (Nat.le_of_ble_eq_true rfl) dX9_tryWay_194 (z_ki (fun r27 s28 hw => ?_))
        refine z_aload_n C dX9_tryWay_197 rfl 2 rfl ?_
        refine f_X9_57 C dX9_tryWay_198 ?_
        refine z_iload C dX9_tryWay_201 11 rfl ?_
        refine z_iald C za_69 (by decide) (Int32.toNatClampNeg v13) rfl hw.1 dX9_tryWay_203 ?_
        replace hw := hw.2
        refine z_icmp_lt C (tgt := 211) dX9_tryWay_204 (by decide) (fun h => ?_) (fun h => ?_)
        · replace hw := hw.1 h
          refine z_iconst C 0 dX9_tryWay_211 (by decide) ?_
          refine z_istore C [(12, .int (0 : Int32)), (7, .int x16), (6, .int x15), (0, .ref ((zXE X).1 54 0)), (1, .int a1), (2, .int a2), (3, .int v3), (4, .int v4), (5, .int v5), (8, .long v8), (10, .long v10), (13, .int v13)] dX9_tryWay_212 (by decide) rfl ?_
          refine z_lload C dX9_tryWay_214 9 rfl ?_
          refine z_bipush C 10 dX9_tryWay_216 (by decide) ?_
          refine z_aload_n C dX9_tryWay_218 rfl 3 rfl ?_
          refine f_X9_57 C dX9_tryWay_219 ?_
          refine z_iload C dX9_tryWay_222 11 rfl ?_
          refine z_iald C za_69 (by decide) (Int32.toNatClampNeg v13) rfl hw.1 dX9_tryWay_224 ?_
          replace hw := hw.2
          refine z_callS C (by decide) M_X9_power Ms_X9_power kw_m_X9_158 (t_X9_power hw) rfl rfl (Nat.le_of_ble_eq_true rfl) dX9_tryWay_225 (z_kl (fun r29 s30 hw => ?_))
          refine z_aload_n C dX9_tryWay_228 rfl 3 rfl ?_
          refine f_X9_27 C dX9_tryWay_229 ?_
          refine z_aload_n C dX9_tryWay_232 rfl 3 rfl ?_
          refine f_X9_54 C dX9_tryWay_233 ?_
          refine z_iload C dX9_tryWay_236 11 rfl ?_
          refine z_iald C za_68 (by decide) (Int32.toNatClampNeg v13) rfl hw.1 dX9_tryWay_238 ?_
          replace hw := hw.2
          refine z_aload_n C dX9_tryWay_239 rfl 3 rfl ?_
          refine f_X9_54 C dX9_tryWay_240 ?_
          refine z_iload C dX9_tryWay_243 11 rfl ?_
          refine z_iconst C 1 dX9_tryWay_245 (by decide) ?_
          refine z_iadd C dX9_tryWay_246 ?_
          refine z_iald C za_68 (by decide) (Int32.toNatClampNeg (v13 + (1 : Int32))) rfl hw.1 dX9_tryWay_247 ?_
          replace hw := hw.2
          refine z_callS C (by decide) M_X9_at Ms_X9_at kw_m_X9_143 (t_X9_at hw) rfl rfl (Nat.le_of_ble_eq_true rfl) dX9_tryWay_248 (z_ki (fun r31 s32 hw => ?_))
          refine z_iald C za_59 (by decide) (Int32.toNatClampNeg r31) rfl hw.1 dX9_tryWay_251 ?_
          replace hw := hw.2
          refine z_aload_n C dX9_tryWay_252 rfl 3 rfl ?_
          refine f_X9_57 C dX9_tryWay_253 ?_
          refine z_iload C dX9_tryWay_256 11 rfl ?_
          refine z_iald C za_69 (by decide) (Int32.toNatClampNeg v13) rfl hw.1 dX9_tryWay_258 ?_
          replace hw := hw.2
          refine z_callS C (by decide) M_X9_power Ms_X9_power kw_m_X9_158 (t_X9_power hw) rfl rfl (Nat.le_of_ble_eq_true rfl) dX9_tryWay_259 (z_kl (fun r33 s34 hw => ?_))
          refine z_lsub C dX9_tryWay_262 ?_
          refine z_lmul C dX9_tryWay_263 ?_
          refine z_nml (fun y35 ey35 => ?_)
          replace hw := hw y35 ey35
          refine z_lstore C [(8, .long y35), (12, .int (0 : Int32)), (7, .int x16), (6, .int x15), (0, .ref ((zXE X).1 54 0)), (1, .int a1), (2, .int a2), (3, .int v3), (4, .int v4), (5, .int v5), (10, .long v10), (13, .int v13)] dX9_tryWay_264 (by decide) rfl ?_
          refine z_lload C dX9_tryWay_266 10 rfl ?_
          refine z_bipush C 10 dX9_tryWay_268 (by decide) ?_
          refine z_aload_n C dX9_tryWay_270 rfl 4 rfl ?_
          refine f_X9_57 C dX9_tryWay_271 ?_
          refine z_iload C dX9_tryWay_274 11 rfl ?_
          refine z_iald C za_69 (by decide) (Int32.toNatClampNeg v13) rfl hw.1 dX9_tryWay_276 ?_
          replace hw := hw.2
          refine z_callS C (by decide) M_X9_power Ms_X9_power kw_m_X9_158 (t_X9_power hw) rfl rfl (Nat.le_of_ble_eq_true rfl) dX9_tryWay_277 (z_kl (fun r36 s37 hw => ?_))
          refine z_lmul C dX9_tryWay_280 ?_
          refine z_nml (fun y38 ey38 => ?_)
          replace hw := hw y38 ey38
          refine z_lstore C [(10, .long y38), (8, .long y35), (12, .int (0 : Int32)), (7, .int x16), (6, .int x15), (0, .ref ((zXE X).1 54 0)), (1, .int a1), (2, .int a2), (3, .int v3), (4, .int v4), (5, .int v5), (13, .int v13)] dX9_tryWay_281 (by decide) rfl ?_
          refine z_iinc C (v13 + 1) [(13, .int (v13 + 1)), (10, .long y38), (8, .long y35), (12, .int (0 : Int32)), (7, .int x16), (6, .int x15), (0, .ref ((zXE X).1 54 0)), (1, .int a1), (2, .int a2), (3, .int v3), (4, .int v4), (5, .int v5)] dX9_tryWay_283 11 rfl rfl (by decide) rfl ?_
          refine z_goto C (tgt := 132) dX9_tryWay_286 (by decide) ?_
          exact z_lv [6, 7, 8, 9, 10, 11, 5, 4, 2, 1, 3, 0] rfl hw
        · replace hw := hw.2 h
          refine z_iconst C 1 dX9_tryWay_207 (by decide) ?_
          refine z_goto C (tgt := 212) dX9_tryWay_208 (by decide) ?_
          refine z_istore C [(12, .int (1 : Int32)), (7, .int x16), (6, .int x15), (0, .ref ((zXE X).1 54 0)), (1, .int a1), (2, .int a2), (3, .int v3), (4, .int v4), (5, .int v5), (8, .long v8), (10, .long v10), (13, .int v13)] dX9_tryWay_212 (by decide) rfl ?_
          refine z_lload C dX9_tryWay_214 9 rfl ?_
          refine z_bipush C 10 dX9_tryWay_216 (by decide) ?_
          refine z_aload_n C dX9_tryWay_218 rfl 3 rfl ?_
          refine f_X9_57 C dX9_tryWay_219 ?_
          refine z_iload C dX9_tryWay_222 11 rfl ?_
          refine z_iald C za_69 (by decide) (Int32.toNatClampNeg v13) rfl hw.1 dX9_tryWay_224 ?_
          replace hw := hw.2
          refine z_callS C (by decide) M_X9_power Ms_X9_power kw_m_X9_158 (t_X9_power hw) rfl rfl (Nat.le_of_ble_eq_true rfl) dX9_tryWay_225 (z_kl (fun r39 s40 hw => ?_))
          refine z_aload_n C dX9_tryWay_228 rfl 3 rfl ?_
          refine f_X9_27 C dX9_tryWay_229 ?_
          refine z_aload_n C dX9_tryWay_232 rfl 3 rfl ?_
          refine f_X9_54 C dX9_tryWay_233 ?_
          refine z_iload C dX9_tryWay_236 11 rfl ?_
          refine z_iald C za_68 (by decide) (Int32.toNatClampNeg v13) rfl hw.1 dX9_tryWay_238 ?_
          replace hw := hw.2
          refine z_aload_n C dX9_tryWay_239 rfl 3 rfl ?_
          refine f_X9_54 C dX9_tryWay_240 ?_
          refine z_iload C dX9_tryWay_243 11 rfl ?_
          refine z_iconst C 1 dX9_tryWay_245 (by decide) ?_
          refine z_iadd C dX9_tryWay_246 ?_
          refine z_iald C za_68 (by decide) (Int32.toNatClampNeg (v13 + (1 : Int32))) rfl hw.1 dX9_tryWay_247 ?_
          replace hw := hw.2
          refine z_callS C (by decide) M_X9_at Ms_X9_at kw_m_X9_143 (t_X9_at hw) rfl rfl (Nat.le_of_ble_eq_true rfl) dX9_tryWay_248 (z_ki (fun r41 s42 hw => ?_))
          refine z_iald C za_59 (by decide) (Int32.toNatClampNeg r41) rfl hw.1 dX9_tryWay_251 ?_
          replace hw := hw.2
          refine z_aload_n C dX9_tryWay_252 rfl 3 rfl ?_
          refine f_X9_57 C dX9_tryWay_253 ?_
          refine z_iload C dX9_tryWay_256 11 rfl ?_
          refine z_iald C za_69 (by decide) (Int32.toNatClampNeg v13) rfl hw.1 dX9_tryWay_258 ?_
          replace hw := hw.2
          refine z_callS C (by decide) M_X9_power Ms_X9_power kw_m_X9_158 (t_X9_power hw) rfl rfl (Nat.le_of_ble_eq_true rfl) dX9_tryWay_259 (z_kl (fun r43 s44 hw => ?_))
          refine z_lsub C dX9_tryWay_262 ?_
          refine z_lmul C dX9_tryWay_263 ?_
          refine z_nml (fun y45 ey45 => ?_)
          replace hw := hw y45 ey45
          refine z_lstore C [(8, .long y45), (12, .int (1 : Int32)), (7, .int x16), (6, .int x15), (0, .ref ((zXE X).1 54 0)), (1, .int a1), (2, .int a2), (3, .int v3), (4, .int v4), (5, .int v5), (10, .long v10), (13, .int v13)] dX9_tryWay_264 (by decide) rfl ?_
          refine z_lload C dX9_tryWay_266 10 rfl ?_
          refine z_bipush C 10 dX9_tryWay_268 (by decide) ?_
          refine z_aload_n C dX9_tryWay_270 rfl 4 rfl ?_
          refine f_X9_57 C dX9_tryWay_271 ?_
          refine z_iload C dX9_tryWay_274 11 rfl ?_
          refine z_iald C za_69 (by decide) (Int32.toNatClampNeg v13) rfl hw.1 dX9_tryWay_276 ?_
          replace hw := hw.2
          refine z_callS C (by decide) M_X9_power Ms_X9_power kw_m_X9_158 (t_X9_power hw) rfl rfl (Nat.le_of_ble_eq_true rfl) dX9_tryWay_277 (z_kl (fun r46 s47 hw => ?_))
          refine z_lmul C dX9_tryWay_280 ?_
          refine z_nml (fun y48 ey48 => ?_)
          replace hw := hw y48 ey48
          refine z_lstore C [(10, .long y48), (8, .long y45), (12, .int (1 : Int32)), (7, .int x16), (6, .int x15), (0, .ref ((zXE X).1 54 0)), (1, .int a1), (2, .int a2), (3, .int v3), (4, .int v4), (5, .int v5), (13, .int v13)] dX9_tryWay_281 (by decide) rfl ?_
          refine z_iinc C (v13 + 1) [(13, .int (v13 + 1)), (10, .long y48), (8, .long y45), (12, .int (1 : Int32)), (7, .int x16), (6, .int x15), (0, .ref ((zXE X).1 54 0)), (1, .int a1), (2, .int a2), (3, .int v3), (4, .int v4), (5, .int v5)] dX9_tryWay_283 11 rfl rfl (by decide) rfl ?_
          refine z_goto C (tgt := 132) dX9_tryWay_286 (by decide) ?_
          exact z_lv [6, 7, 8, 9, 10, 11, 5, 4, 2, 1, 3, 0] rfl hw
  · show zV X 355 _ _ _
    refine z_iload C dX9_tryWay_355 6 rfl ?_
    refine z_aload_n C dX9_tryWay_357 rfl 0 rfl ?_
    refine f_X9_179 C dX9_tryWay_358 ?_
    refine z_icmp_gt C (tgt := 384) dX9_tryWay_361 (by decide) (fun h => ?_) (fun h => ?_)
    · replace hw := hw.1 h
      refine z_iconst C 0 dX9_tryWay_384 (by decide) ?_
      refine z_istore C [(13, .int (0 : Int32)), (0, .ref ((zXE X).1 54 0)), (1, .int a1), (2, .int a2), (3, .int v3), (4, .int v4), (5, .int v5)] dX9_tryWay_385 (by decide) rfl ?_
      exact z_lv [1, 2, 3, 4, 5, 6, 0] rfl hw
    · replace hw := hw.2 h
      refine z_aload_n C dX9_tryWay_364 rfl 0 rfl ?_
      refine f_X9_60 C dX9_tryWay_365 ?_
      refine z_iload C dX9_tryWay_368 6 rfl ?_
      refine z_aload_n C dX9_tryWay_370 rfl 0 rfl ?_
      refine f_X9_54 C dX9_tryWay_371 ?_
      refine z_iload C dX9_tryWay_374 6 rfl ?_
      refine z_iald C za_68 (by decide) (Int32.toNatClampNeg v13) rfl hw.1 dX9_tryWay_376 ?_
      replace hw := hw.2
      refine z_iast C za_70 (by decide) (Int32.toNatClampNeg v13) rfl hw.1 dX9_tryWay_377 (z_nms (fun s49 es49 => ?_))
      replace hw := hw.2
      replace hw := hw s49 es49
      refine z_iinc C (v13 + 1) [(13, .int (v13 + 1)), (0, .ref ((zXE X).1 54 0)), (1, .int a1), (2, .int a2), (3, .int v3), (4, .int v4), (5, .int v5)] dX9_tryWay_378 6 rfl rfl (by decide) rfl ?_
      refine z_goto C (tgt := 355) dX9_tryWay_381 (by decide) ?_
      exact z_lv [1, 2, 3, 4, 5, 6, 0] rfl hw
  · show zV X 387 _ _ _
    refine z_iload C dX9_tryWay_387 6 rfl ?_
    refine z_aload_n C dX9_tryWay_389 rfl 0 rfl ?_
    refine f_X9_179 C dX9_tryWay_390 ?_
    refine z_icmp_ge C (tgt := 416) dX9_tryWay_393 (by decide) (fun h => ?_) (fun h => ?_)
    · replace hw := hw.1 h
      refine z_iinc C (v5 + 1) [(5, .int (v5 + 1)), (0, .ref ((zXE X).1 54 0)), (1, .int a1), (2, .int a2), (3, .int v3), (4, .int v4), (13, .int v13)] dX9_tryWay_416 5 rfl rfl (by decide) rfl ?_
      refine z_goto C (tgt := 106) dX9_tryWay_419 (by decide) ?_
      exact z_lv [1, 2, 3, 4, 5, 0] rfl hw
    · replace hw := hw.2 h
      refine z_aload_n C dX9_tryWay_396 rfl 0 rfl ?_
      refine f_X9_63 C dX9_tryWay_397 ?_
      refine z_iload C dX9_tryWay_400 6 rfl ?_
      refine z_aload_n C dX9_tryWay_402 rfl 0 rfl ?_
      refine f_X9_57 C dX9_tryWay_403 ?_
      refine z_iload C dX9_tryWay_406 6 rfl ?_
      refine z_iald C za_69 (by decide) (Int32.toNatClampNeg v13) rfl hw.1 dX9_tryWay_408 ?_
      replace hw := hw.2
      refine z_iast C za_71 (by decide) (Int32.toNatClampNeg v13) rfl hw.1 dX9_tryWay_409 (z_nms (fun s50 es50 => ?_))
      replace hw := hw.2
      replace hw := hw s50 es50
      refine z_iinc C (v13 + 1) [(13, .int (v13 + 1)), (0, .ref ((zXE X).1 54 0)), (1, .int a1), (2, .int a2), (3, .int v3), (4, .int v4), (5, .int v5)] dX9_tryWay_410 6 rfl rfl (by decide) rfl ?_
      refine z_goto C (tgt := 387) dX9_tryWay_413 (by decide) ?_
      exact z_lv [1, 2, 3, 4, 5, 6, 0] rfl hw
  refine z_iconst C 0 dX9_tryWay_0 (by decide) ?_
  refine z_istore_n C [(3, .int (0 : Int32)), (0, .ref ((zXE X).1 54 0)), (1, .int a1), (2, .int a2)] dX9_tryWay_1 rfl (by decide) rfl ?_
  refine z_iconst C 0 dX9_tryWay_2 (by decide) ?_
  refine z_istore C [(4, .int (0 : Int32)), (3, .int (0 : Int32)), (0, .ref ((zXE X).1 54 0)), (1, .int a1), (2, .int a2)] dX9_tryWay_3 (by decide) rfl ?_
  exact z_lv [2, 3, 4, 1, 0] rfl hw
set_option maxHeartbeats 4000000 in
set_option maxRecDepth 100000 in
theorem t_X9_relay {l : Launch} {E : zE} {a1 : Int32} {a2 : Int32} {a3 : Int32} {a4 : Int32} {s0 : zS} {Q : Int32 → zS → Prop}  (hw : Wp_X9_relay a1 a2 a3 a4 s0 Q) : zT l 3 E yX9_relay cX9_relay 7 (some .int) [.ref (E.1 54 0), .int a1, .int a2, .int a3, .int a4] s0 (zQi Q) := by
  unfold Wp_X9_relay at hw
  refine z_entry rfl (Nat.le_of_ble_eq_true rfl) rfl ?_
  intro X C D hl hE
  subst hl; subst hE
  have C : zC X cX9_relay RX9 7 3 := C
  refine z_use (hw (fun v5 s0 => zV X 70 [(0, .ref ((zXE X).1 54 0)), (1, .int a1), (2, .int a2), (3, .int a3), (4, .int a4), (5, .int v5)] [] s0) (fun v5 v6 s0 => zV X 124 [(0, .ref ((zXE X).1 54 0)), (1, .int a1), (2, .int a2), (3, .int a3), (4, .int a4), (5, .int v5), (6, .int v6)] [] s0) (fun v5 s0 => zV X 219 [(0, .ref ((zXE X).1 54 0)), (5, .int v5)] [] s0) (fun v5 s0 => zV X 248 [(0, .ref ((zXE X).1 54 0)), (5, .int v5)] [] s0) (fun v5 s0 hw => ?_) (fun v5 v6 s0 hw => ?_) (fun v5 s0 hw => ?_) (fun v5 s0 hw => ?_)) (fun hw => ?_)
  · show zV X 70 _ _ _
    refine z_iload C dX9_relay_70 5 rfl ?_
    refine z_aload_n C dX9_relay_72 rfl 0 rfl ?_
    refine f_X9_133 C dX9_relay_73 ?_
    refine z_icmp_ge C (tgt := 194) dX9_relay_76 (by decide) (fun h => ?_) (fun h => ?_)
    · replace hw := hw.1 h
      refine z_aload_n C dX9_relay_194 rfl 0 rfl ?_
      refine f_X9_170 C dX9_relay_195 ?_
      refine z_if_ne C (tgt := 208) dX9_relay_198 (by decide) (fun h => ?_) (fun h => ?_)
      · replace hw := hw.1 h
        refine z_aload_n C dX9_relay_208 rfl 0 rfl ?_
        refine z_aload_n C dX9_relay_209 rfl 0 rfl ?_
        refine f_X9_170 C dX9_relay_210 ?_
        refine p_X9_195 C dX9_relay_213 (z_nms (fun s21 es21 => ?_))
        replace hw := hw s21 es21
        refine z_iconst C 0 dX9_relay_216 (by decide) ?_
        refine z_istore C [(5, .int (0 : Int32)), (0, .ref ((zXE X).1 54 0)), (1, .int a1), (2, .int a2), (3, .int a3), (4, .int a4)] dX9_relay_217 (by decide) rfl ?_
        exact z_lv [1, 0] rfl hw
      · replace hw := hw.2 h
        refine z_aload_n C dX9_relay_201 rfl 0 rfl ?_
        refine z_bipush C 6 dX9_relay_202 (by decide) ?_
        refine z_callV C (by decide) M_X9_refuse Mv_X9_refuse kw_m_X9_139 ob_X9 (t_X9_refuse hw) rfl rfl (Nat.le_of_ble_eq_true rfl) dX9_relay_204 (z_ki (fun r22 s23 hw => ?_))
        exact z_ireturn C D dX9_relay_207 ⟨_, rfl, hw⟩
    · replace hw := hw.2 h
      refine z_iload C dX9_relay_79 5 rfl ?_
      refine z_iload_n C dX9_relay_81 rfl 1 rfl ?_
      refine z_icmp_eq C (tgt := 188) dX9_relay_82 (by decide) (fun h => ?_) (fun h => ?_)
      · replace hw := hw.1 h
        refine z_iinc C (v5 + 1) [(5, .int (v5 + 1)), (0, .ref ((zXE X).1 54 0)), (1, .int a1), (2, .int a2), (3, .int a3), (4, .int a4)] dX9_relay_188 5 rfl rfl (by decide) rfl ?_
        refine z_goto C (tgt := 70) dX9_relay_191 (by decide) ?_
        exact z_lv [1, 2, 3, 4, 5, 0] rfl hw
      · replace hw := hw.2 h
        refine z_iload C dX9_relay_85 5 rfl ?_
        refine z_iload_n C dX9_relay_87 rfl 2 rfl ?_
        refine z_icmp_ne C (tgt := 94) dX9_relay_88 (by decide) (fun h => ?_) (fun h => ?_)
        · replace hw := hw.1 h
          refine z_aload_n C dX9_relay_94 rfl 0 rfl ?_
          refine z_iconst C 2 dX9_relay_95 (by decide) ?_
          refine p_X9_179 C dX9_relay_96 (z_nms (fun s24 es24 => ?_))
          replace hw := hw s24 es24
          refine z_aload_n C dX9_relay_99 rfl 0 rfl ?_
          refine f_X9_54 C dX9_relay_100 ?_
          refine z_iconst C 1 dX9_relay_103 (by decide) ?_
          refine z_iload C dX9_relay_104 5 rfl ?_
          refine z_iast C za_68 (by decide) 1 (by decide) (vp_in_iff.mpr (by decide)) dX9_relay_106 (z_nms (fun s25 es25 => ?_))
          replace hw := hw s25 es25
          refine z_aload_n C dX9_relay_107 rfl 0 rfl ?_
          refine f_X9_54 C dX9_relay_108 ?_
          refine z_iconst C 2 dX9_relay_111 (by decide) ?_
          refine z_iload_n C dX9_relay_112 rfl 2 rfl ?_
          refine z_iast C za_68 (by decide) 2 (by decide) (vp_in_iff.mpr (by decide)) dX9_relay_113 (z_nms (fun s26 es26 => ?_))
          replace hw := hw s26 es26
          refine z_aload_n C dX9_relay_114 rfl 0 rfl ?_
          refine z_iload_n C dX9_relay_115 rfl 3 rfl ?_
          refine z_iload C dX9_relay_116 4 rfl ?_
          refine z_callV C (by decide) M_X9_tryWay Mv_X9_tryWay kw_m_X9_191 ob_X9 (t_X9_tryWay hw) rfl rfl (Nat.le_of_ble_eq_true rfl) dX9_relay_118 (z_kv (fun s28 hw => ?_))
          refine z_iconst C 0 dX9_relay_121 (by decide) ?_
          refine z_istore C [(6, .int (0 : Int32)), (0, .ref ((zXE X).1 54 0)), (1, .int a1), (2, .int a2), (3, .int a3), (4, .int a4), (5, .int v5)] dX9_relay_122 (by decide) rfl ?_
          exact z_lv [1, 2, 3, 4, 5, 6, 0] rfl hw
        · replace hw := hw.2 h
          refine z_goto C (tgt := 188) dX9_relay_91 (by decide) ?_
          refine z_iinc C (v5 + 1) [(5, .int (v5 + 1)), (0, .ref ((zXE X).1 54 0)), (1, .int a1), (2, .int a2), (3, .int a3), (4, .int a4)] dX9_relay_188 5 rfl rfl (by decide) rfl ?_
          refine z_goto C (tgt := 70) dX9_relay_191 (by decide) ?_
          exact z_lv [1, 2, 3, 4, 5, 0] rfl hw
  · show zV X 124 _ _ _
    refine z_iload C dX9_relay_124 6 rfl ?_
    refine z_aload_n C dX9_relay_126 rfl 0 rfl ?_
    refine f_X9_133 C dX9_relay_127 ?_
    refine z_icmp_ge C (tgt := 188) dX9_relay_130 (by decide) (fun h => ?_) (fun h => ?_)
    · replace hw := hw.1 h
      refine z_iinc C (v5 + 1) [(5, .int (v5 + 1)), (0, .ref ((zXE X).1 54 0)), (1, .int a1), (2, .int a2), (3, .int a3), (4, .int a4), (6, .int v6)] dX9_relay_188 5 rfl rfl (by decide) rfl ?_
      refine z_goto C (tgt := 70) dX9_relay_191 (by decide) ?_
      exact z_lv [1, 2, 3, 4, 5, 0] rfl hw
    · replace hw := hw.2 h
      refine z_iload C dX9_relay_133 6 rfl ?_
      refine z_iload_n C dX9_relay_135 rfl 1 rfl ?_
      refine z_icmp_eq C (tgt := 182) dX9_relay_136 (by decide) (fun h => ?_) (fun h => ?_)
      · replace hw := hw.1 h
        refine z_iinc C (v6 + 1) [(6, .int (v6 + 1)), (0, .ref ((zXE X).1 54 0)), (1, .int a1), (2, .int a2), (3, .int a3), (4, .int a4), (5, .int v5)] dX9_relay_182 6 rfl rfl (by decide) rfl ?_
        refine z_goto C (tgt := 124) dX9_relay_185 (by decide) ?_
        exact z_lv [1, 2, 3, 4, 5, 6, 0] rfl hw
      · replace hw := hw.2 h
        refine z_iload C dX9_relay_139 6 rfl ?_
        refine z_iload_n C dX9_relay_141 rfl 2 rfl ?_
        refine z_icmp_eq C (tgt := 182) dX9_relay_142 (by decide) (fun h => ?_) (fun h => ?_)
        · replace hw := hw.1 h
          refine z_iinc C (v6 + 1) [(6, .int (v6 + 1)), (0, .ref ((zXE X).1 54 0)), (1, .int a1), (2, .int a2), (3, .int a3), (4, .int a4), (5, .int v5)] dX9_relay_182 6 rfl rfl (by decide) rfl ?_
          refine z_goto C (tgt := 124) dX9_relay_185 (by decide) ?_
          exact z_lv [1, 2, 3, 4, 5, 6, 0] rfl hw
        · replace hw := hw.2 h
          refine z_iload C dX9_relay_145 6 rfl ?_
          refine z_iload C dX9_relay_147 5 rfl ?_
          refine z_icmp_ne C (tgt := 155) dX9_relay_149 (by decide) (fun h => ?_) (fun h => ?_)
          · replace hw := hw.1 h
            refine z_aload_n C dX9_relay_155 rfl 0 rfl ?_
            refine z_iconst C 3 dX9_relay_156 (by decide) ?_
            refine p_X9_179 C dX9_relay_157 (z_nms (fun s29 es29 => ?_))
            replace hw := hw s29 es29
            refine z_aload_n C dX9_relay_160 rfl 0 rfl ?_
            refine f_X9_54 C dX9_relay_161 ?_
            refine z_iconst C 2 dX9_relay_164 (by decide) ?_
            refine z_iload C dX9_relay_165 6 rfl ?_
            refine z_iast C za_68 (by decide) 2 (by decide) (vp_in_iff.mpr (by decide)) dX9_relay_167 (z_nms (fun s30 es30 => ?_))
            replace hw := hw s30 es30
            refine z_aload_n C dX9_relay_168 rfl 0 rfl ?_
            refine f_X9_54 C dX9_relay_169 ?_
            refine z_iconst C 3 dX9_relay_172 (by decide) ?_
            refine z_iload_n C dX9_relay_173 rfl 2 rfl ?_
            refine z_iast C za_68 (by decide) 3 (by decide) (vp_in_iff.mpr (by decide)) dX9_relay_174 (z_nms (fun s31 es31 => ?_))
            replace hw := hw s31 es31
            refine z_aload_n C dX9_relay_175 rfl 0 rfl ?_
            refine z_iload_n C dX9_relay_176 rfl 3 rfl ?_
            refine z_iload C dX9_relay_177 4 rfl ?_
            refine z_callV C (by decide) M_X9_tryWay Mv_X9_tryWay kw_m_X9_191 ob_X9 (t_X9_tryWay hw) rfl rfl (Nat.le_of_ble_eq_true rfl) dX9_relay_179 (z_kv (fun s33 hw => ?_))
            refine z_iinc C (v6 + 1) [(6, .int (v6 + 1)), (0, .ref ((zXE X).1 54 0)), (1, .int a1), (2, .int a2), (3, .int a3), (4, .int a4), (5, .int v5)] dX9_relay_182 6 rfl rfl (by decide) rfl ?_
            refine z_goto C (tgt := 124) dX9_relay_185 (by decide) ?_
            exact z_lv [1, 2, 3, 4, 5, 6, 0] rfl hw
          · replace hw := hw.2 h
            refine z_goto C (tgt := 182) dX9_relay_152 (by decide) ?_
            refine z_iinc C (v6 + 1) [(6, .int (v6 + 1)), (0, .ref ((zXE X).1 54 0)), (1, .int a1), (2, .int a2), (3, .int a3), (4, .int a4), (5, .int v5)] dX9_relay_182 6 rfl rfl (by decide) rfl ?_
            refine z_goto C (tgt := 124) dX9_relay_185 (by decide) ?_
            exact z_lv [1, 2, 3, 4, 5, 6, 0] rfl hw
  · show zV X 219 _ _ _
    refine z_iload C dX9_relay_219 1 rfl ?_
    refine z_iconst C 4 dX9_relay_221 (by decide) ?_
    refine z_icmp_ge C (tgt := 245) dX9_relay_222 (by decide) (fun h => ?_) (fun h => ?_)
    · replace hw := hw.1 h
      refine z_iconst C 0 dX9_relay_245 (by decide) ?_
      refine z_istore C [(5, .int (0 : Int32)), (0, .ref ((zXE X).1 54 0))] dX9_relay_246 (by decide) rfl ?_
      exact z_lv [1, 0] rfl hw
    · replace hw := hw.2 h
      refine z_aload_n C dX9_relay_225 rfl 0 rfl ?_
      refine f_X9_66 C dX9_relay_226 ?_
      refine z_iload C dX9_relay_229 1 rfl ?_
      refine z_aload_n C dX9_relay_231 rfl 0 rfl ?_
      refine f_X9_60 C dX9_relay_232 ?_
      refine z_iload C dX9_relay_235 1 rfl ?_
      refine z_iald C za_70 (by decide) (Int32.toNatClampNeg v5) rfl hw.1 dX9_relay_237 ?_
      replace hw := hw.2
      refine z_iast C za_72 (by decide) (Int32.toNatClampNeg v5) rfl hw.1 dX9_relay_238 (z_nms (fun s34 es34 => ?_))
      replace hw := hw.2
      replace hw := hw s34 es34
      refine z_iinc C (v5 + 1) [(5, .int (v5 + 1)), (0, .ref ((zXE X).1 54 0))] dX9_relay_239 1 rfl rfl (by decide) rfl ?_
      refine z_goto C (tgt := 219) dX9_relay_242 (by decide) ?_
      exact z_lv [1, 0] rfl hw
  · show zV X 248 _ _ _
    refine z_iload C dX9_relay_248 1 rfl ?_
    refine z_iconst C 3 dX9_relay_250 (by decide) ?_
    refine z_icmp_ge C (tgt := 274) dX9_relay_251 (by decide) (fun h => ?_) (fun h => ?_)
    · replace hw := hw.1 h
      refine z_aload_n C dX9_relay_274 rfl 0 rfl ?_
      refine z_aload_n C dX9_relay_275 rfl 0 rfl ?_
      refine f_X9_185 C dX9_relay_276 ?_
      refine z_aload_n C dX9_relay_279 rfl 0 rfl ?_
      refine f_X9_188 C dX9_relay_280 ?_
      refine z_callV C (by decide) M_X9_tells Mv_X9_tells kw_m_X9_162 ob_X9 (t_X9_tells hw) rfl rfl (Nat.le_of_ble_eq_true rfl) dX9_relay_283 (z_ki (fun r35 s36 hw => ?_))
      refine z_istore C [(5, .int r35), (0, .ref ((zXE X).1 54 0))] dX9_relay_286 (by decide) rfl ?_
      refine z_aload_n C dX9_relay_288 rfl 1 rfl ?_
      refine f_X9_173 C dX9_relay_289 ?_
      exact z_ireturn C D dX9_relay_292 ⟨_, rfl, hw⟩
    · replace hw := hw.2 h
      refine z_aload_n C dX9_relay_254 rfl 0 rfl ?_
      refine f_X9_69 C dX9_relay_255 ?_
      refine z_iload C dX9_relay_258 1 rfl ?_
      refine z_aload_n C dX9_relay_260 rfl 0 rfl ?_
      refine f_X9_63 C dX9_relay_261 ?_
      refine z_iload C dX9_relay_264 1 rfl ?_
      refine z_iald C za_71 (by decide) (Int32.toNatClampNeg v5) rfl hw.1 dX9_relay_266 ?_
      replace hw := hw.2
      refine z_iast C za_73 (by decide) (Int32.toNatClampNeg v5) rfl hw.1 dX9_relay_267 (z_nms (fun s37 es37 => ?_))
      replace hw := hw.2
      replace hw := hw s37 es37
      refine z_iinc C (v5 + 1) [(5, .int (v5 + 1)), (0, .ref ((zXE X).1 54 0))] dX9_relay_268 1 rfl rfl (by decide) rfl ?_
      refine z_goto C (tgt := 248) dX9_relay_271 (by decide) ?_
      exact z_lv [1, 0] rfl hw
  refine z_aload_n C dX9_relay_0 rfl 0 rfl ?_
  refine z_iload_n C dX9_relay_1 rfl 1 rfl ?_
  refine z_callV C (by decide) M_X9_isTown Mv_X9_isTown kw_m_X9_146 ob_X9 (t_X9_isTown hw) rfl rfl (Nat.le_of_ble_eq_true rfl) dX9_relay_2 (z_kb (fun r1 s2 hr1 hw => ?_))
  refine z_if_eq C (tgt := 30) dX9_relay_5 (by decide) (fun h => ?_) (fun h => ?_)
  · replace hw := hw.1 h
    refine z_aload_n C dX9_relay_30 rfl 0 rfl ?_
    refine z_iconst C 1 dX9_relay_31 (by decide) ?_
    refine z_callV C (by decide) M_X9_refuse Mv_X9_refuse kw_m_X9_139 ob_X9 (t_X9_refuse hw) rfl rfl (Nat.le_of_ble_eq_true rfl) dX9_relay_32 (z_ki (fun r3 s4 hw => ?_))
    exact z_ireturn C D dX9_relay_35 ⟨_, rfl, hw⟩
  · replace hw := hw.2 h
    refine z_aload_n C dX9_relay_8 rfl 0 rfl ?_
    refine z_iload_n C dX9_relay_9 rfl 2 rfl ?_
    refine z_callV C (by decide) M_X9_isTown Mv_X9_isTown kw_m_X9_146 ob_X9 (t_X9_isTown hw) rfl rfl (Nat.le_of_ble_eq_true rfl) dX9_relay_10 (z_kb (fun r5 s6 hr5 hw => ?_))
    refine z_if_eq C (tgt := 30) dX9_relay_13 (by decide) (fun h => ?_) (fun h => ?_)
    · replace hw := hw.1 h
      refine z_aload_n C dX9_relay_30 rfl 0 rfl ?_
      refine z_iconst C 1 dX9_relay_31 (by decide) ?_
      refine z_callV C (by decide) M_X9_refuse Mv_X9_refuse kw_m_X9_139 ob_X9 (t_X9_refuse hw) rfl rfl (Nat.le_of_ble_eq_true rfl) dX9_relay_32 (z_ki (fun r7 s8 hw => ?_))
      exact z_ireturn C D dX9_relay_35 ⟨_, rfl, hw⟩
    · replace hw := hw.2 h
      refine z_iload_n C dX9_relay_16 rfl 1 rfl ?_
      refine z_iload_n C dX9_relay_17 rfl 2 rfl ?_
      refine z_icmp_eq C (tgt := 30) dX9_relay_18 (by decide) (fun h => ?_) (fun h => ?_)
      · replace hw := hw.1 h
        refine z_aload_n C dX9_relay_30 rfl 0 rfl ?_
        refine z_iconst C 1 dX9_relay_31 (by decide) ?_
        refine z_callV C (by decide) M_X9_refuse Mv_X9_refuse kw_m_X9_139 ob_X9 (t_X9_refuse hw) rfl rfl (Nat.le_of_ble_eq_true rfl) dX9_relay_32 (z_ki (fun r9 s10 hw => ?_))
        exact z_ireturn C D dX9_relay_35 ⟨_, rfl, hw⟩
      · replace hw := hw.2 h
        refine z_iload_n C dX9_relay_21 rfl 3 rfl ?_
        refine z_iload C dX9_relay_22 4 rfl ?_
        refine z_callS C (by decide) M_X9_isShare Ms_X9_isShare kw_m_X9_166 (t_X9_isShare hw) rfl rfl (Nat.le_of_ble_eq_true rfl) dX9_relay_24 (z_kb (fun r11 s12 hr11 hw => ?_))
        refine z_if_ne C (tgt := 36) dX9_relay_27 (by decide) (fun h => ?_) (fun h => ?_)
        · replace hw := hw.1 h
          refine z_aload_n C dX9_relay_36 rfl 0 rfl ?_
          refine z_iconst C 0 dX9_relay_37 (by decide) ?_
          refine p_X9_170 C dX9_relay_38 (z_nms (fun s13 es13 => ?_))
          replace hw := hw s13 es13
          refine z_aload_n C dX9_relay_41 rfl 0 rfl ?_
          refine f_X9_54 C dX9_relay_42 ?_
          refine z_iconst C 0 dX9_relay_45 (by decide) ?_
          refine z_iload_n C dX9_relay_46 rfl 1 rfl ?_
          refine z_iast C za_68 (by decide) 0 (by decide) (vp_in_iff.mpr (by decide)) dX9_relay_47 (z_nms (fun s14 es14 => ?_))
          replace hw := hw s14 es14
          refine z_aload_n C dX9_relay_48 rfl 0 rfl ?_
          refine z_iconst C 1 dX9_relay_49 (by decide) ?_
          refine p_X9_179 C dX9_relay_50 (z_nms (fun s15 es15 => ?_))
          replace hw := hw s15 es15
          refine z_aload_n C dX9_relay_53 rfl 0 rfl ?_
          refine f_X9_54 C dX9_relay_54 ?_
          refine z_iconst C 1 dX9_relay_57 (by decide) ?_
          refine z_iload_n C dX9_relay_58 rfl 2 rfl ?_
          refine z_iast C za_68 (by decide) 1 (by decide) (vp_in_iff.mpr (by decide)) dX9_relay_59 (z_nms (fun s16 es16 => ?_))
          replace hw := hw s16 es16
          refine z_aload_n C dX9_relay_60 rfl 0 rfl ?_
          refine z_iload_n C dX9_relay_61 rfl 3 rfl ?_
          refine z_iload C dX9_relay_62 4 rfl ?_
          refine z_callV C (by decide) M_X9_tryWay Mv_X9_tryWay kw_m_X9_191 ob_X9 (t_X9_tryWay hw) rfl rfl (Nat.le_of_ble_eq_true rfl) dX9_relay_64 (z_kv (fun s18 hw => ?_))
          refine z_iconst C 0 dX9_relay_67 (by decide) ?_
          refine z_istore C [(5, .int (0 : Int32)), (0, .ref ((zXE X).1 54 0)), (1, .int a1), (2, .int a2), (3, .int a3), (4, .int a4)] dX9_relay_68 (by decide) rfl ?_
          exact z_lv [1, 2, 3, 4, 5, 0] rfl hw
        · replace hw := hw.2 h
          refine z_aload_n C dX9_relay_30 rfl 0 rfl ?_
          refine z_iconst C 1 dX9_relay_31 (by decide) ?_
          refine z_callV C (by decide) M_X9_refuse Mv_X9_refuse kw_m_X9_139 ob_X9 (t_X9_refuse hw) rfl rfl (Nat.le_of_ble_eq_true rfl) dX9_relay_32 (z_ki (fun r19 s20 hw => ?_))
          exact z_ireturn C D dX9_relay_35 ⟨_, rfl, hw⟩
set_option maxHeartbeats 4000000 in
set_option maxRecDepth 100000 in
theorem t_X8_legFault {l : Launch} {E : zE} {a1 : Int32} {a2 : Int32} {s0 : zS} {Q : Int32 → zS → Prop}  (hw : Wp_X8_legFault a1 a2 s0 Q) : zT l 2 E yX8_legFault cX8_legFault 3 (some .int) [.ref (E.1 0 0), .int a1, .int a2] s0 (zQi Q) := by
  unfold Wp_X8_legFault at hw
  refine z_entry rfl (Nat.le_of_ble_eq_true rfl) rfl ?_
  intro X C D hl hE
  subst hl; subst hE
  have C : zC X cX8_legFault RX8 3 2 := C
  refine z_iload_n C dX8_legFault_0 rfl 1 rfl ?_
  refine z_iconst C 0 dX8_legFault_1 (by decide) ?_
  refine z_iconst C 2 dX8_legFault_2 (by decide) ?_
  refine z_callS C (by decide) M_X8_within Ms_X8_within kw_m_X8_85 (t_X8_within hw) rfl rfl (Nat.le_of_ble_eq_true rfl) dX8_legFault_3 (z_kb (fun r1 s2 hr1 hw => ?_))
  refine z_if_eq C (tgt := 18) dX8_legFault_6 (by decide) (fun h => ?_) (fun h => ?_)
  · replace hw := hw.1 h
    refine z_iconst C 1 dX8_legFault_18 (by decide) ?_
    exact z_ireturn C D dX8_legFault_19 ⟨_, rfl, hw⟩
  · replace hw := hw.2 h
    refine z_iload_n C dX8_legFault_9 rfl 2 rfl ?_
    refine z_iconst C 0 dX8_legFault_10 (by decide) ?_
    refine z_iconst C 2 dX8_legFault_11 (by decide) ?_
    refine z_callS C (by decide) M_X8_within Ms_X8_within kw_m_X8_85 (t_X8_within hw) rfl rfl (Nat.le_of_ble_eq_true rfl) dX8_legFault_12 (z_kb (fun r3 s4 hr3 hw => ?_))
    refine z_if_ne C (tgt := 20) dX8_legFault_15 (by decide) (fun h => ?_) (fun h => ?_)
    · replace hw := hw.1 h
      refine z_iload_n C dX8_legFault_20 rfl 1 rfl ?_
      refine z_aload_n C dX8_legFault_21 rfl 0 rfl ?_
      refine f_X8_42 C dX8_legFault_22 ?_
      refine f_X8_318 C dX8_legFault_25 ?_
      refine z_icmp_ge C (tgt := 35) dX8_legFault_28 (by decide) (fun h => ?_) (fun h => ?_)
      · replace hw := hw.1 h
        refine z_bipush C 6 dX8_legFault_35 (by decide) ?_
        exact z_ireturn C D dX8_legFault_37 ⟨_, rfl, hw⟩
      · replace hw := hw.2 h
        refine z_iconst C 0 dX8_legFault_31 (by decide) ?_
        refine z_goto C (tgt := 37) dX8_legFault_32 (by decide) ?_
        exact z_ireturn C D dX8_legFault_37 ⟨_, rfl, hw⟩
    · replace hw := hw.2 h
      refine z_iconst C 1 dX8_legFault_18 (by decide) ?_
      exact z_ireturn C D dX8_legFault_19 ⟨_, rfl, hw⟩
set_option maxHeartbeats 4000000 in
set_option maxRecDepth 100000 in
theorem t_X8_leg {l : Launch} {E : zE} {a1 : Int32} {a2 : Int32} {s0 : zS} {Q : Int32 → zS → Prop}  (hw : Wp_X8_leg a1 a2 s0 Q) : zT l 3 E yX8_leg cX8_leg 3 (some .int) [.ref (E.1 0 0), .int a1, .int a2] s0 (zQi Q) := by
  unfold Wp_X8_leg at hw
  refine z_entry rfl (Nat.le_of_ble_eq_true rfl) rfl ?_
  intro X C D hl hE
  subst hl; subst hE
  have C : zC X cX8_leg RX8 3 3 := C
  refine z_aload_n C dX8_leg_0 rfl 0 rfl ?_
  refine z_aload_n C dX8_leg_1 rfl 0 rfl ?_
  refine z_iload_n C dX8_leg_2 rfl 1 rfl ?_
  refine z_iload_n C dX8_leg_3 rfl 2 rfl ?_
  refine z_callV C (by decide) M_X8_legFault Mv_X8_legFault kw_m_X8_205 ob_X8 (t_X8_legFault hw) rfl rfl (Nat.le_of_ble_eq_true rfl) dX8_leg_4 (z_ki (fun r1 s2 hw => ?_))
  refine p_X8_67 C dX8_leg_7 (z_nms (fun s3 es3 => ?_))
  replace hw := hw s3 es3
  refine z_aload_n C dX8_leg_10 rfl 0 rfl ?_
  refine f_X8_67 C dX8_leg_11 ?_
  refine z_if_eq C (tgt := 19) dX8_leg_14 (by decide) (fun h => ?_) (fun h => ?_)
  · replace hw := hw.1 h
    refine z_iload_n C dX8_leg_19 rfl 2 rfl ?_
    refine z_iconst C 2 dX8_leg_20 (by decide) ?_
    refine z_icmp_ne C (tgt := 34) dX8_leg_21 (by decide) (fun h => ?_) (fun h => ?_)
    · replace hw := hw.1 h
      refine z_aload_n C dX8_leg_34 rfl 0 rfl ?_
      refine f_X8_42 C dX8_leg_35 ?_
      refine f_X8_212 C dX8_leg_38 ?_
      refine z_iload_n C dX8_leg_41 rfl 1 rfl ?_
      refine z_iload_n C dX8_leg_42 rfl 2 rfl ?_
      refine z_iadd C dX8_leg_43 ?_
      refine z_iald C za_26 (by decide) (Int32.toNatClampNeg (a1 + a2)) rfl hw.1 dX8_leg_44 ?_
      replace hw := hw.2
      exact z_ireturn C D dX8_leg_45 ⟨_, rfl, hw⟩
    · replace hw := hw.2 h
      refine z_aload_n C dX8_leg_24 rfl 0 rfl ?_
      refine f_X8_42 C dX8_leg_25 ?_
      refine f_X8_208 C dX8_leg_28 ?_
      refine z_iload_n C dX8_leg_31 rfl 1 rfl ?_
      refine z_iald C za_27 (by decide) (Int32.toNatClampNeg a1) rfl hw.1 dX8_leg_32 ?_
      replace hw := hw.2
      exact z_ireturn C D dX8_leg_33 ⟨_, rfl, hw⟩
  · replace hw := hw.2 h
    refine z_iconst C (-1) dX8_leg_17 (by decide) ?_
    exact z_ireturn C D dX8_leg_18 ⟨_, rfl, hw⟩
set_option maxHeartbeats 4000000 in
set_option maxRecDepth 100000 in
theorem t_X9_leg {l : Launch} {E : zE} {a1 : Int32} {a2 : Int32} {s0 : zS} {Q : Int32 → zS → Prop}  (hw : Wp_X9_leg a1 a2 s0 Q) : zT l 2 E yX9_leg cX9_leg 3 (some .int) [.ref (E.1 54 0), .int a1, .int a2] s0 (zQi Q) := by
  unfold Wp_X9_leg at hw
  refine z_entry rfl (Nat.le_of_ble_eq_true rfl) rfl ?_
  intro X C D hl hE
  subst hl; subst hE
  have C : zC X cX9_leg RX9 3 2 := C
  refine z_iload_n C dX9_leg_0 rfl 1 rfl ?_
  refine z_if_lt C (tgt := 18) dX9_leg_1 (by decide) (fun h => ?_) (fun h => ?_)
  · replace hw := hw.1 h
    refine z_aload_n C dX9_leg_18 rfl 0 rfl ?_
    refine z_iconst C 1 dX9_leg_19 (by decide) ?_
    refine z_callV C (by decide) M_X9_refuse Mv_X9_refuse kw_m_X9_139 ob_X9 (t_X9_refuse hw) rfl rfl (Nat.le_of_ble_eq_true rfl) dX9_leg_20 (z_ki (fun r1 s2 hw => ?_))
    exact z_ireturn C D dX9_leg_23 ⟨_, rfl, hw⟩
  · replace hw := hw.2 h
    refine z_iload_n C dX9_leg_4 rfl 1 rfl ?_
    refine z_iconst C 2 dX9_leg_5 (by decide) ?_
    refine z_icmp_gt C (tgt := 18) dX9_leg_6 (by decide) (fun h => ?_) (fun h => ?_)
    · replace hw := hw.1 h
      refine z_aload_n C dX9_leg_18 rfl 0 rfl ?_
      refine z_iconst C 1 dX9_leg_19 (by decide) ?_
      refine z_callV C (by decide) M_X9_refuse Mv_X9_refuse kw_m_X9_139 ob_X9 (t_X9_refuse hw) rfl rfl (Nat.le_of_ble_eq_true rfl) dX9_leg_20 (z_ki (fun r3 s4 hw => ?_))
      exact z_ireturn C D dX9_leg_23 ⟨_, rfl, hw⟩
    · replace hw := hw.2 h
      refine z_iload_n C dX9_leg_9 rfl 2 rfl ?_
      refine z_if_lt C (tgt := 18) dX9_leg_10 (by decide) (fun h => ?_) (fun h => ?_)
      · replace hw := hw.1 h
        refine z_aload_n C dX9_leg_18 rfl 0 rfl ?_
        refine z_iconst C 1 dX9_leg_19 (by decide) ?_
        refine z_callV C (by decide) M_X9_refuse Mv_X9_refuse kw_m_X9_139 ob_X9 (t_X9_refuse hw) rfl rfl (Nat.le_of_ble_eq_true rfl) dX9_leg_20 (z_ki (fun r5 s6 hw => ?_))
        exact z_ireturn C D dX9_leg_23 ⟨_, rfl, hw⟩
      · replace hw := hw.2 h
        refine z_iload_n C dX9_leg_13 rfl 2 rfl ?_
        refine z_iconst C 2 dX9_leg_14 (by decide) ?_
        refine z_icmp_le C (tgt := 24) dX9_leg_15 (by decide) (fun h => ?_) (fun h => ?_)
        · replace hw := hw.1 h
          refine z_iload_n C dX9_leg_24 rfl 1 rfl ?_
          refine z_aload_n C dX9_leg_25 rfl 0 rfl ?_
          refine f_X9_195 C dX9_leg_26 ?_
          refine z_icmp_lt C (tgt := 39) dX9_leg_29 (by decide) (fun h => ?_) (fun h => ?_)
          · replace hw := hw.1 h
            refine z_aload_n C dX9_leg_39 rfl 0 rfl ?_
            refine z_iconst C 0 dX9_leg_40 (by decide) ?_
            refine p_X9_109 C dX9_leg_41 (z_nms (fun s7 es7 => ?_))
            replace hw := hw s7 es7
            refine z_iload_n C dX9_leg_44 rfl 2 rfl ?_
            refine z_if_ne C (tgt := 57) dX9_leg_45 (by decide) (fun h => ?_) (fun h => ?_)
            · replace hw := hw.1 h
              refine z_iload_n C dX9_leg_57 rfl 2 rfl ?_
              refine z_iconst C 1 dX9_leg_58 (by decide) ?_
              refine z_icmp_ne C (tgt := 73) dX9_leg_59 (by decide) (fun h => ?_) (fun h => ?_)
              · replace hw := hw.1 h
                refine z_aload_n C dX9_leg_73 rfl 0 rfl ?_
                refine f_X9_69 C dX9_leg_74 ?_
                refine z_iload_n C dX9_leg_77 rfl 1 rfl ?_
                refine z_iald C za_73 (by decide) (Int32.toNatClampNeg a1) rfl hw.1 dX9_leg_78 ?_
                replace hw := hw.2
                exact z_ireturn C D dX9_leg_79 ⟨_, rfl, hw⟩
              · replace hw := hw.2 h
                refine z_aload_n C dX9_leg_62 rfl 0 rfl ?_
                refine f_X9_66 C dX9_leg_63 ?_
                refine z_iload_n C dX9_leg_66 rfl 1 rfl ?_
                refine z_iconst C 1 dX9_leg_67 (by decide) ?_
                refine z_iadd C dX9_leg_68 ?_
                refine z_iald C za_72 (by decide) (Int32.toNatClampNeg (a1 + (1 : Int32))) rfl hw.1 dX9_leg_69 ?_
                replace hw := hw.2
                refine z_goto C (tgt := 79) dX9_leg_70 (by decide) ?_
                exact z_ireturn C D dX9_leg_79 ⟨_, rfl, hw⟩
            · replace hw := hw.2 h
              refine z_aload_n C dX9_leg_48 rfl 0 rfl ?_
              refine f_X9_66 C dX9_leg_49 ?_
              refine z_iload_n C dX9_leg_52 rfl 1 rfl ?_
              refine z_iald C za_72 (by decide) (Int32.toNatClampNeg a1) rfl hw.1 dX9_leg_53 ?_
              replace hw := hw.2
              refine z_goto C (tgt := 79) dX9_leg_54 (by decide) ?_
              exact z_ireturn C D dX9_leg_79 ⟨_, rfl, hw⟩
          · replace hw := hw.2 h
            refine z_aload_n C dX9_leg_32 rfl 0 rfl ?_
            refine z_bipush C 6 dX9_leg_33 (by decide) ?_
            refine z_callV C (by decide) M_X9_refuse Mv_X9_refuse kw_m_X9_139 ob_X9 (t_X9_refuse hw) rfl rfl (Nat.le_of_ble_eq_true rfl) dX9_leg_35 (z_ki (fun r8 s9 hw => ?_))
            exact z_ireturn C D dX9_leg_38 ⟨_, rfl, hw⟩
        · replace hw := hw.2 h
          refine z_aload_n C dX9_leg_18 rfl 0 rfl ?_
          refine z_iconst C 1 dX9_leg_19 (by decide) ?_
          refine z_callV C (by decide) M_X9_refuse Mv_X9_refuse kw_m_X9_139 ob_X9 (t_X9_refuse hw) rfl rfl (Nat.le_of_ble_eq_true rfl) dX9_leg_20 (z_ki (fun r10 s11 hw => ?_))
          exact z_ireturn C D dX9_leg_23 ⟨_, rfl, hw⟩
set_option maxHeartbeats 4000000 in
set_option maxRecDepth 100000 in
theorem t_X8_want {l : Launch} {E : zE} {a1 : Int32} {a2 : Int32} {a3 : Int32} {a4 : Int32} {s0 : zS} {Q : Int32 → zS → Prop}  (hw : Wp_X8_want a1 a2 a3 a4 s0 Q) : zT l 4 E yX8_want cX8_want 5 (some .boolean) [.ref (E.1 0 0), .int a1, .int a2, .int a3, .int a4] s0 (zQb Q) := by
  unfold Wp_X8_want at hw
  refine z_entry rfl (Nat.le_of_ble_eq_true rfl) rfl ?_
  intro X C D hl hE
  subst hl; subst hE
  have C : zC X cX8_want RX8 5 4 := C
  refine z_aload_n C dX8_want_0 rfl 0 rfl ?_
  refine z_aload_n C dX8_want_1 rfl 0 rfl ?_
  refine z_iload_n C dX8_want_2 rfl 1 rfl ?_
  refine z_iload_n C dX8_want_3 rfl 2 rfl ?_
  refine z_callV C (by decide) M_X8_areTwoTowns Mv_X8_areTwoTowns kw_m_X8_136 ob_X8 (t_X8_areTwoTowns hw) rfl rfl (Nat.le_of_ble_eq_true rfl) dX8_want_4 (z_kb (fun r1 s2 hr1 hw => ?_))
  refine z_if_eq C (tgt := 35) dX8_want_7 (by decide) (fun h => ?_) (fun h => ?_)
  · replace hw := hw.1 h
    refine z_iconst C 0 dX8_want_35 (by decide) ?_
    refine z_callS C (by decide) M_X8_wrongUnless Ms_X8_wrongUnless kw_m_X8_89 (t_X8_wrongUnless hw) rfl rfl (Nat.le_of_ble_eq_true rfl) dX8_want_36 (z_ki (fun r3 s4 hw => ?_))
    refine p_X8_67 C dX8_want_39 (z_nms (fun s5 es5 => ?_))
    replace hw := hw s5 es5
    refine z_aload_n C dX8_want_42 rfl 0 rfl ?_
    refine f_X8_67 C dX8_want_43 ?_
    refine z_if_eq C (tgt := 51) dX8_want_46 (by decide) (fun h => ?_) (fun h => ?_)
    · replace hw := hw.1 h
      refine z_aload_n C dX8_want_51 rfl 0 rfl ?_
      refine f_X8_49 C dX8_want_52 ?_
      refine f_X8_215 C dX8_want_55 ?_
      refine z_iload_n C dX8_want_58 rfl 1 rfl ?_
      have hb6 := zin_lt hw.1
      refine z_aald C za_29 (by decide) rfl (Int32.toNatClampNeg a1) rfl hw.1 dX8_want_59 ?_
      replace hw := hw.2
      refine z_iload_n C dX8_want_60 rfl 2 rfl ?_
      refine z_iload_n C dX8_want_61 rfl 3 rfl ?_
      refine z_iast C za_30 hb6 (Int32.toNatClampNeg a2) rfl hw.1 dX8_want_62 (z_nms (fun s7 es7 => ?_))
      replace hw := hw.2
      replace hw := hw s7 es7
      refine z_aload_n C dX8_want_63 rfl 0 rfl ?_
      refine f_X8_49 C dX8_want_64 ?_
      refine f_X8_218 C dX8_want_67 ?_
      refine z_iload_n C dX8_want_70 rfl 1 rfl ?_
      have hb8 := zin_lt hw.1
      refine z_aald C za_31 (by decide) rfl (Int32.toNatClampNeg a1) rfl hw.1 dX8_want_71 ?_
      replace hw := hw.2
      refine z_iload_n C dX8_want_72 rfl 2 rfl ?_
      refine z_iload C dX8_want_73 4 rfl ?_
      refine z_iast C za_32 hb8 (Int32.toNatClampNeg a2) rfl hw.1 dX8_want_75 (z_nms (fun s9 es9 => ?_))
      replace hw := hw.2
      replace hw := hw s9 es9
      refine z_iconst C 1 dX8_want_76 (by decide) ?_
      exact z_zreturn C D dX8_want_77 (Or.inr rfl) ⟨_, rfl, (Or.inr rfl), hw⟩
    · replace hw := hw.2 h
      refine z_iconst C 0 dX8_want_49 (by decide) ?_
      exact z_zreturn C D dX8_want_50 (Or.inl rfl) ⟨_, rfl, (Or.inl rfl), hw⟩
  · replace hw := hw.2 h
    refine z_iload_n C dX8_want_10 rfl 3 rfl ?_
    refine z_iconst C 0 dX8_want_11 (by decide) ?_
    refine z_bipush C 20 dX8_want_12 (by decide) ?_
    refine z_callS C (by decide) M_X8_within Ms_X8_within kw_m_X8_85 (t_X8_within hw) rfl rfl (Nat.le_of_ble_eq_true rfl) dX8_want_14 (z_kb (fun r10 s11 hr10 hw => ?_))
    refine z_if_eq C (tgt := 35) dX8_want_17 (by decide) (fun h => ?_) (fun h => ?_)
    · replace hw := hw.1 h
      refine z_iconst C 0 dX8_want_35 (by decide) ?_
      refine z_callS C (by decide) M_X8_wrongUnless Ms_X8_wrongUnless kw_m_X8_89 (t_X8_wrongUnless hw) rfl rfl (Nat.le_of_ble_eq_true rfl) dX8_want_36 (z_ki (fun r12 s13 hw => ?_))
      refine p_X8_67 C dX8_want_39 (z_nms (fun s14 es14 => ?_))
      replace hw := hw s14 es14
      refine z_aload_n C dX8_want_42 rfl 0 rfl ?_
      refine f_X8_67 C dX8_want_43 ?_
      refine z_if_eq C (tgt := 51) dX8_want_46 (by decide) (fun h => ?_) (fun h => ?_)
      · replace hw := hw.1 h
        refine z_aload_n C dX8_want_51 rfl 0 rfl ?_
        refine f_X8_49 C dX8_want_52 ?_
        refine f_X8_215 C dX8_want_55 ?_
        refine z_iload_n C dX8_want_58 rfl 1 rfl ?_
        have hb15 := zin_lt hw.1
        refine z_aald C za_29 (by decide) rfl (Int32.toNatClampNeg a1) rfl hw.1 dX8_want_59 ?_
        replace hw := hw.2
        refine z_iload_n C dX8_want_60 rfl 2 rfl ?_
        refine z_iload_n C dX8_want_61 rfl 3 rfl ?_
        refine z_iast C za_30 hb15 (Int32.toNatClampNeg a2) rfl hw.1 dX8_want_62 (z_nms (fun s16 es16 => ?_))
        replace hw := hw.2
        replace hw := hw s16 es16
        refine z_aload_n C dX8_want_63 rfl 0 rfl ?_
        refine f_X8_49 C dX8_want_64 ?_
        refine f_X8_218 C dX8_want_67 ?_
        refine z_iload_n C dX8_want_70 rfl 1 rfl ?_
        have hb17 := zin_lt hw.1
        refine z_aald C za_31 (by decide) rfl (Int32.toNatClampNeg a1) rfl hw.1 dX8_want_71 ?_
        replace hw := hw.2
        refine z_iload_n C dX8_want_72 rfl 2 rfl ?_
        refine z_iload C dX8_want_73 4 rfl ?_
        refine z_iast C za_32 hb17 (Int32.toNatClampNeg a2) rfl hw.1 dX8_want_75 (z_nms (fun s18 es18 => ?_))
        replace hw := hw.2
        replace hw := hw s18 es18
        refine z_iconst C 1 dX8_want_76 (by decide) ?_
        exact z_zreturn C D dX8_want_77 (Or.inr rfl) ⟨_, rfl, (Or.inr rfl), hw⟩
      · replace hw := hw.2 h
        refine z_iconst C 0 dX8_want_49 (by decide) ?_
        exact z_zreturn C D dX8_want_50 (Or.inl rfl) ⟨_, rfl, (Or.inl rfl), hw⟩
    · replace hw := hw.2 h
      refine z_iload C dX8_want_20 4 rfl ?_
      refine z_iconst C 1 dX8_want_22 (by decide) ?_
      refine z_bipush C 100 dX8_want_23 (by decide) ?_
      refine z_callS C (by decide) M_X8_within Ms_X8_within kw_m_X8_85 (t_X8_within hw) rfl rfl (Nat.le_of_ble_eq_true rfl) dX8_want_25 (z_kb (fun r19 s20 hr19 hw => ?_))
      refine z_if_eq C (tgt := 35) dX8_want_28 (by decide) (fun h => ?_) (fun h => ?_)
      · replace hw := hw.1 h
        refine z_iconst C 0 dX8_want_35 (by decide) ?_
        refine z_callS C (by decide) M_X8_wrongUnless Ms_X8_wrongUnless kw_m_X8_89 (t_X8_wrongUnless hw) rfl rfl (Nat.le_of_ble_eq_true rfl) dX8_want_36 (z_ki (fun r21 s22 hw => ?_))
        refine p_X8_67 C dX8_want_39 (z_nms (fun s23 es23 => ?_))
        replace hw := hw s23 es23
        refine z_aload_n C dX8_want_42 rfl 0 rfl ?_
        refine f_X8_67 C dX8_want_43 ?_
        refine z_if_eq C (tgt := 51) dX8_want_46 (by decide) (fun h => ?_) (fun h => ?_)
        · replace hw := hw.1 h
          refine z_aload_n C dX8_want_51 rfl 0 rfl ?_
          refine f_X8_49 C dX8_want_52 ?_
          refine f_X8_215 C dX8_want_55 ?_
          refine z_iload_n C dX8_want_58 rfl 1 rfl ?_
          have hb24 := zin_lt hw.1
          refine z_aald C za_29 (by decide) rfl (Int32.toNatClampNeg a1) rfl hw.1 dX8_want_59 ?_
          replace hw := hw.2
          refine z_iload_n C dX8_want_60 rfl 2 rfl ?_
          refine z_iload_n C dX8_want_61 rfl 3 rfl ?_
          refine z_iast C za_30 hb24 (Int32.toNatClampNeg a2) rfl hw.1 dX8_want_62 (z_nms (fun s25 es25 => ?_))
          replace hw := hw.2
          replace hw := hw s25 es25
          refine z_aload_n C dX8_want_63 rfl 0 rfl ?_
          refine f_X8_49 C dX8_want_64 ?_
          refine f_X8_218 C dX8_want_67 ?_
          refine z_iload_n C dX8_want_70 rfl 1 rfl ?_
          have hb26 := zin_lt hw.1
          refine z_aald C za_31 (by decide) rfl (Int32.toNatClampNeg a1) rfl hw.1 dX8_want_71 ?_
          replace hw := hw.2
          refine z_iload_n C dX8_want_72 rfl 2 rfl ?_
          refine z_iload C dX8_want_73 4 rfl ?_
          refine z_iast C za_32 hb26 (Int32.toNatClampNeg a2) rfl hw.1 dX8_want_75 (z_nms (fun s27 es27 => ?_))
          replace hw := hw.2
          replace hw := hw s27 es27
          refine z_iconst C 1 dX8_want_76 (by decide) ?_
          exact z_zreturn C D dX8_want_77 (Or.inr rfl) ⟨_, rfl, (Or.inr rfl), hw⟩
        · replace hw := hw.2 h
          refine z_iconst C 0 dX8_want_49 (by decide) ?_
          exact z_zreturn C D dX8_want_50 (Or.inl rfl) ⟨_, rfl, (Or.inl rfl), hw⟩
      · replace hw := hw.2 h
        refine z_iconst C 1 dX8_want_31 (by decide) ?_
        refine z_goto C (tgt := 36) dX8_want_32 (by decide) ?_
        refine z_callS C (by decide) M_X8_wrongUnless Ms_X8_wrongUnless kw_m_X8_89 (t_X8_wrongUnless hw) rfl rfl (Nat.le_of_ble_eq_true rfl) dX8_want_36 (z_ki (fun r28 s29 hw => ?_))
        refine p_X8_67 C dX8_want_39 (z_nms (fun s30 es30 => ?_))
        replace hw := hw s30 es30
        refine z_aload_n C dX8_want_42 rfl 0 rfl ?_
        refine f_X8_67 C dX8_want_43 ?_
        refine z_if_eq C (tgt := 51) dX8_want_46 (by decide) (fun h => ?_) (fun h => ?_)
        · replace hw := hw.1 h
          refine z_aload_n C dX8_want_51 rfl 0 rfl ?_
          refine f_X8_49 C dX8_want_52 ?_
          refine f_X8_215 C dX8_want_55 ?_
          refine z_iload_n C dX8_want_58 rfl 1 rfl ?_
          have hb31 := zin_lt hw.1
          refine z_aald C za_29 (by decide) rfl (Int32.toNatClampNeg a1) rfl hw.1 dX8_want_59 ?_
          replace hw := hw.2
          refine z_iload_n C dX8_want_60 rfl 2 rfl ?_
          refine z_iload_n C dX8_want_61 rfl 3 rfl ?_
          refine z_iast C za_30 hb31 (Int32.toNatClampNeg a2) rfl hw.1 dX8_want_62 (z_nms (fun s32 es32 => ?_))
          replace hw := hw.2
          replace hw := hw s32 es32
          refine z_aload_n C dX8_want_63 rfl 0 rfl ?_
          refine f_X8_49 C dX8_want_64 ?_
          refine f_X8_218 C dX8_want_67 ?_
          refine z_iload_n C dX8_want_70 rfl 1 rfl ?_
          have hb33 := zin_lt hw.1
          refine z_aald C za_31 (by decide) rfl (Int32.toNatClampNeg a1) rfl hw.1 dX8_want_71 ?_
          replace hw := hw.2
          refine z_iload_n C dX8_want_72 rfl 2 rfl ?_
          refine z_iload C dX8_want_73 4 rfl ?_
          refine z_iast C za_32 hb33 (Int32.toNatClampNeg a2) rfl hw.1 dX8_want_75 (z_nms (fun s34 es34 => ?_))
          replace hw := hw.2
          replace hw := hw s34 es34
          refine z_iconst C 1 dX8_want_76 (by decide) ?_
          exact z_zreturn C D dX8_want_77 (Or.inr rfl) ⟨_, rfl, (Or.inr rfl), hw⟩
        · replace hw := hw.2 h
          refine z_iconst C 0 dX8_want_49 (by decide) ?_
          exact z_zreturn C D dX8_want_50 (Or.inl rfl) ⟨_, rfl, (Or.inl rfl), hw⟩
set_option maxHeartbeats 4000000 in
set_option maxRecDepth 100000 in
theorem t_X9_want {l : Launch} {E : zE} {a1 : Int32} {a2 : Int32} {a3 : Int32} {a4 : Int32} {s0 : zS} {Q : Int32 → zS → Prop}  (hw : Wp_X9_want a1 a2 a3 a4 s0 Q) : zT l 2 E yX9_want cX9_want 5 (some .boolean) [.ref (E.1 54 0), .int a1, .int a2, .int a3, .int a4] s0 (zQb Q) := by
  unfold Wp_X9_want at hw
  refine z_entry rfl (Nat.le_of_ble_eq_true rfl) rfl ?_
  intro X C D hl hE
  subst hl; subst hE
  have C : zC X cX9_want RX9 5 2 := C
  refine z_aload_n C dX9_want_0 rfl 0 rfl ?_
  refine z_iload_n C dX9_want_1 rfl 1 rfl ?_
  refine z_callV C (by decide) M_X9_isTown Mv_X9_isTown kw_m_X9_146 ob_X9 (t_X9_isTown hw) rfl rfl (Nat.le_of_ble_eq_true rfl) dX9_want_2 (z_kb (fun r1 s2 hr1 hw => ?_))
  refine z_if_eq C (tgt := 44) dX9_want_5 (by decide) (fun h => ?_) (fun h => ?_)
  · replace hw := hw.1 h
    refine z_aload_n C dX9_want_44 rfl 0 rfl ?_
    refine z_iconst C 1 dX9_want_45 (by decide) ?_
    refine z_callV C (by decide) M_X9_is Mv_X9_is kw_m_X9_120 ob_X9 (t_X9_is hw) rfl rfl (Nat.le_of_ble_eq_true rfl) dX9_want_46 (z_kb (fun r3 s4 hr3 hw => ?_))
    exact z_zreturn C D dX9_want_49 hr3 ⟨_, rfl, hr3, hw⟩
  · replace hw := hw.2 h
    refine z_aload_n C dX9_want_8 rfl 0 rfl ?_
    refine z_iload_n C dX9_want_9 rfl 2 rfl ?_
    refine z_callV C (by decide) M_X9_isTown Mv_X9_isTown kw_m_X9_146 ob_X9 (t_X9_isTown hw) rfl rfl (Nat.le_of_ble_eq_true rfl) dX9_want_10 (z_kb (fun r5 s6 hr5 hw => ?_))
    refine z_if_eq C (tgt := 44) dX9_want_13 (by decide) (fun h => ?_) (fun h => ?_)
    · replace hw := hw.1 h
      refine z_aload_n C dX9_want_44 rfl 0 rfl ?_
      refine z_iconst C 1 dX9_want_45 (by decide) ?_
      refine z_callV C (by decide) M_X9_is Mv_X9_is kw_m_X9_120 ob_X9 (t_X9_is hw) rfl rfl (Nat.le_of_ble_eq_true rfl) dX9_want_46 (z_kb (fun r7 s8 hr7 hw => ?_))
      exact z_zreturn C D dX9_want_49 hr7 ⟨_, rfl, hr7, hw⟩
    · replace hw := hw.2 h
      refine z_iload_n C dX9_want_16 rfl 1 rfl ?_
      refine z_iload_n C dX9_want_17 rfl 2 rfl ?_
      refine z_icmp_eq C (tgt := 44) dX9_want_18 (by decide) (fun h => ?_) (fun h => ?_)
      · replace hw := hw.1 h
        refine z_aload_n C dX9_want_44 rfl 0 rfl ?_
        refine z_iconst C 1 dX9_want_45 (by decide) ?_
        refine z_callV C (by decide) M_X9_is Mv_X9_is kw_m_X9_120 ob_X9 (t_X9_is hw) rfl rfl (Nat.le_of_ble_eq_true rfl) dX9_want_46 (z_kb (fun r9 s10 hr9 hw => ?_))
        exact z_zreturn C D dX9_want_49 hr9 ⟨_, rfl, hr9, hw⟩
      · replace hw := hw.2 h
        refine z_iload_n C dX9_want_21 rfl 3 rfl ?_
        refine z_if_lt C (tgt := 44) dX9_want_22 (by decide) (fun h => ?_) (fun h => ?_)
        · replace hw := hw.1 h
          refine z_aload_n C dX9_want_44 rfl 0 rfl ?_
          refine z_iconst C 1 dX9_want_45 (by decide) ?_
          refine z_callV C (by decide) M_X9_is Mv_X9_is kw_m_X9_120 ob_X9 (t_X9_is hw) rfl rfl (Nat.le_of_ble_eq_true rfl) dX9_want_46 (z_kb (fun r11 s12 hr11 hw => ?_))
          exact z_zreturn C D dX9_want_49 hr11 ⟨_, rfl, hr11, hw⟩
        · replace hw := hw.2 h
          refine z_iload_n C dX9_want_25 rfl 3 rfl ?_
          refine z_bipush C 20 dX9_want_26 (by decide) ?_
          refine z_icmp_gt C (tgt := 44) dX9_want_28 (by decide) (fun h => ?_) (fun h => ?_)
          · replace hw := hw.1 h
            refine z_aload_n C dX9_want_44 rfl 0 rfl ?_
            refine z_iconst C 1 dX9_want_45 (by decide) ?_
            refine z_callV C (by decide) M_X9_is Mv_X9_is kw_m_X9_120 ob_X9 (t_X9_is hw) rfl rfl (Nat.le_of_ble_eq_true rfl) dX9_want_46 (z_kb (fun r13 s14 hr13 hw => ?_))
            exact z_zreturn C D dX9_want_49 hr13 ⟨_, rfl, hr13, hw⟩
          · replace hw := hw.2 h
            refine z_iload C dX9_want_31 4 rfl ?_
            refine z_iconst C 1 dX9_want_33 (by decide) ?_
            refine z_icmp_lt C (tgt := 44) dX9_want_34 (by decide) (fun h => ?_) (fun h => ?_)
            · replace hw := hw.1 h
              refine z_aload_n C dX9_want_44 rfl 0 rfl ?_
              refine z_iconst C 1 dX9_want_45 (by decide) ?_
              refine z_callV C (by decide) M_X9_is Mv_X9_is kw_m_X9_120 ob_X9 (t_X9_is hw) rfl rfl (Nat.le_of_ble_eq_true rfl) dX9_want_46 (z_kb (fun r15 s16 hr15 hw => ?_))
              exact z_zreturn C D dX9_want_49 hr15 ⟨_, rfl, hr15, hw⟩
            · replace hw := hw.2 h
              refine z_iload C dX9_want_37 4 rfl ?_
              refine z_bipush C 100 dX9_want_39 (by decide) ?_
              refine z_icmp_le C (tgt := 50) dX9_want_41 (by decide) (fun h => ?_) (fun h => ?_)
              · replace hw := hw.1 h
                refine z_aload_n C dX9_want_50 rfl 0 rfl ?_
                refine f_X9_33 C dX9_want_51 ?_
                refine z_iload_n C dX9_want_54 rfl 1 rfl ?_
                refine z_iload_n C dX9_want_55 rfl 2 rfl ?_
                refine z_callS C (by decide) M_X9_at Ms_X9_at kw_m_X9_143 (t_X9_at hw) rfl rfl (Nat.le_of_ble_eq_true rfl) dX9_want_56 (z_ki (fun r17 s18 hw => ?_))
                refine z_iload_n C dX9_want_59 rfl 3 rfl ?_
                refine z_iast C za_61 (by decide) (Int32.toNatClampNeg r17) rfl hw.1 dX9_want_60 (z_nms (fun s19 es19 => ?_))
                replace hw := hw.2
                replace hw := hw s19 es19
                refine z_aload_n C dX9_want_61 rfl 0 rfl ?_
                refine f_X9_36 C dX9_want_62 ?_
                refine z_iload_n C dX9_want_65 rfl 1 rfl ?_
                refine z_iload_n C dX9_want_66 rfl 2 rfl ?_
                refine z_callS C (by decide) M_X9_at Ms_X9_at kw_m_X9_143 (t_X9_at hw) rfl rfl (Nat.le_of_ble_eq_true rfl) dX9_want_67 (z_ki (fun r20 s21 hw => ?_))
                refine z_iload C dX9_want_70 4 rfl ?_
                refine z_iast C za_62 (by decide) (Int32.toNatClampNeg r20) rfl hw.1 dX9_want_72 (z_nms (fun s22 es22 => ?_))
                replace hw := hw.2
                replace hw := hw s22 es22
                refine z_aload_n C dX9_want_73 rfl 0 rfl ?_
                refine z_iconst C 0 dX9_want_74 (by decide) ?_
                refine z_callV C (by decide) M_X9_is Mv_X9_is kw_m_X9_120 ob_X9 (t_X9_is hw) rfl rfl (Nat.le_of_ble_eq_true rfl) dX9_want_75 (z_kb (fun r23 s24 hr23 hw => ?_))
                exact z_zreturn C D dX9_want_78 hr23 ⟨_, rfl, hr23, hw⟩
              · replace hw := hw.2 h
                refine z_aload_n C dX9_want_44 rfl 0 rfl ?_
                refine z_iconst C 1 dX9_want_45 (by decide) ?_
                refine z_callV C (by decide) M_X9_is Mv_X9_is kw_m_X9_120 ob_X9 (t_X9_is hw) rfl rfl (Nat.le_of_ble_eq_true rfl) dX9_want_46 (z_kb (fun r25 s26 hr25 hw => ?_))
                exact z_zreturn C D dX9_want_49 hr25 ⟨_, rfl, hr25, hw⟩
set_option maxHeartbeats 4000000 in
set_option maxRecDepth 100000 in
theorem t_X0_lacked {l : Launch} {E : zE} {a1 : Int32} {a2 : Int32} {s0 : zS} {Q : Int32 → zS → Prop}  (hw : Wp_X0_lacked a1 a2 s0 Q) : zT l 1 E yX0_lacked cX0_lacked 3 (some .int) [.ref (E.1 28 0), .int a1, .int a2] s0 (zQi Q) := by
  unfold Wp_X0_lacked at hw
  refine z_entry rfl (Nat.le_of_ble_eq_true rfl) rfl ?_
  intro X C D hl hE
  subst hl; subst hE
  have C : zC X cX0_lacked RX0 3 1 := C
  refine z_iconst C 0 dX0_lacked_0 (by decide) ?_
  refine z_aload_n C dX0_lacked_1 rfl 0 rfl ?_
  refine f_X0_11 C dX0_lacked_2 ?_
  refine z_iload_n C dX0_lacked_5 rfl 1 rfl ?_
  have hb1 := zin_lt hw.1
  refine z_aald C za_29 (by decide) rfl (Int32.toNatClampNeg a1) rfl hw.1 dX0_lacked_6 ?_
  replace hw := hw.2
  refine z_iload_n C dX0_lacked_7 rfl 2 rfl ?_
  refine z_iald C za_30 hb1 (Int32.toNatClampNeg a2) rfl hw.1 dX0_lacked_8 ?_
  replace hw := hw.2
  refine z_aload_n C dX0_lacked_9 rfl 0 rfl ?_
  refine f_X0_35 C dX0_lacked_10 ?_
  refine f_X0_39 C dX0_lacked_13 ?_
  refine z_iload_n C dX0_lacked_16 rfl 2 rfl ?_
  have hb2 := zin_lt hw.1
  refine z_aald C za_20 (by decide) rfl (Int32.toNatClampNeg a2) rfl hw.1 dX0_lacked_17 ?_
  replace hw := hw.2
  refine z_iload_n C dX0_lacked_18 rfl 1 rfl ?_
  refine z_iald C za_21 hb2 (Int32.toNatClampNeg a1) rfl hw.1 dX0_lacked_19 ?_
  replace hw := hw.2
  refine z_isub C dX0_lacked_20 ?_
  refine z_mmax C (by decide) kw_m_X0_44 (Nat.le_of_ble_eq_true rfl) dX0_lacked_21 ?_
  exact z_ireturn C D dX0_lacked_24 ⟨_, rfl, hw⟩
set_option maxHeartbeats 4000000 in
set_option maxRecDepth 100000 in
theorem t_X8_lack {l : Launch} {E : zE} {a1 : Int32} {a2 : Int32} {s0 : zS} {Q : Int32 → zS → Prop}  (hw : Wp_X8_lack a1 a2 s0 Q) : zT l 4 E yX8_lack cX8_lack 3 (some .int) [.ref (E.1 0 0), .int a1, .int a2] s0 (zQi Q) := by
  unfold Wp_X8_lack at hw
  refine z_entry rfl (Nat.le_of_ble_eq_true rfl) rfl ?_
  intro X C D hl hE
  subst hl; subst hE
  have C : zC X cX8_lack RX8 3 4 := C
  refine z_aload_n C dX8_lack_0 rfl 0 rfl ?_
  refine z_aload_n C dX8_lack_1 rfl 0 rfl ?_
  refine z_iload_n C dX8_lack_2 rfl 1 rfl ?_
  refine z_iload_n C dX8_lack_3 rfl 2 rfl ?_
  refine z_callV C (by decide) M_X8_areTwoTowns Mv_X8_areTwoTowns kw_m_X8_136 ob_X8 (t_X8_areTwoTowns hw) rfl rfl (Nat.le_of_ble_eq_true rfl) dX8_lack_4 (z_kb (fun r1 s2 hr1 hw => ?_))
  refine z_callS C (by decide) M_X8_wrongUnless Ms_X8_wrongUnless kw_m_X8_89 (t_X8_wrongUnless hw) rfl rfl (Nat.le_of_ble_eq_true rfl) dX8_lack_7 (z_ki (fun r3 s4 hw => ?_))
  refine p_X8_67 C dX8_lack_10 (z_nms (fun s5 es5 => ?_))
  replace hw := hw s5 es5
  refine z_aload_n C dX8_lack_13 rfl 0 rfl ?_
  refine f_X8_67 C dX8_lack_14 ?_
  refine z_if_eq C (tgt := 22) dX8_lack_17 (by decide) (fun h => ?_) (fun h => ?_)
  · replace hw := hw.1 h
    refine z_aload_n C dX8_lack_22 rfl 0 rfl ?_
    refine f_X8_49 C dX8_lack_23 ?_
    refine z_iload_n C dX8_lack_26 rfl 1 rfl ?_
    refine z_iload_n C dX8_lack_27 rfl 2 rfl ?_
    refine z_callV C (by decide) M_X0_lacked Mv_X0_lacked kw_m_X8_221 ob_X0 (t_X0_lacked hw) rfl rfl (Nat.le_of_ble_eq_true rfl) dX8_lack_28 (z_ki (fun r6 s7 hw => ?_))
    exact z_ireturn C D dX8_lack_31 ⟨_, rfl, hw⟩
  · replace hw := hw.2 h
    refine z_iconst C (-1) dX8_lack_20 (by decide) ?_
    exact z_ireturn C D dX8_lack_21 ⟨_, rfl, hw⟩

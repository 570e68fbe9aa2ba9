set_option maxHeartbeats 4000000 in
set_option maxRecDepth 100000 in
theorem t_X9_lackOf {l : Launch} {E : zE} {a1 : Int32} {a2 : Int32} {s0 : zS} {Q : Int32 → zS → Prop}  (hw : Wp_X9_lackOf a1 a2 s0 Q) : zT l 2 E yX9_lackOf cX9_lackOf 3 (some .int) [.ref (E.1 54 0), .int a1, .int a2] s0 (zQi Q) := by
  unfold Wp_X9_lackOf at hw
  refine z_entry rfl (Nat.le_of_ble_eq_true rfl) rfl ?_
  intro X C D hl hE
  subst hl; subst hE
  have C : zC X cX9_lackOf RX9 3 2 := C
  refine z_iload_n C dX9_lackOf_0 rfl 1 rfl ?_
  refine z_iload_n C dX9_lackOf_1 rfl 2 rfl ?_
  refine z_icmp_ne C (tgt := 9) dX9_lackOf_2 (by decide) (fun h => ?_) (fun h => ?_)
  · replace hw := hw.1 h
    refine z_iconst C 0 dX9_lackOf_9 (by decide) ?_
    refine z_aload_n C dX9_lackOf_10 rfl 0 rfl ?_
    refine f_X9_33 C dX9_lackOf_11 ?_
    refine z_iload_n C dX9_lackOf_14 rfl 1 rfl ?_
    refine z_iload_n C dX9_lackOf_15 rfl 2 rfl ?_
    refine z_callS C (by decide) M_X9_at Ms_X9_at kw_m_X9_143 (t_X9_at hw) rfl rfl (Nat.le_of_ble_eq_true rfl) dX9_lackOf_16 (z_ki (fun r1 s2 hw => ?_))
    refine z_iald C za_61 (by decide) (Int32.toNatClampNeg r1) rfl hw.1 dX9_lackOf_19 ?_
    replace hw := hw.2
    refine z_aload_n C dX9_lackOf_20 rfl 0 rfl ?_
    refine z_iload_n C dX9_lackOf_21 rfl 2 rfl ?_
    refine z_iload_n C dX9_lackOf_22 rfl 1 rfl ?_
    refine z_callV C (by decide) M_X9_count Mv_X9_count kw_m_X9_152 ob_X9 (t_X9_count hw) rfl rfl (Nat.le_of_ble_eq_true rfl) dX9_lackOf_23 (z_ki (fun r3 s4 hw => ?_))
    refine z_isub C dX9_lackOf_26 ?_
    refine z_mmax C (by decide) kw_m_X9_198 (Nat.le_of_ble_eq_true rfl) dX9_lackOf_27 ?_
    exact z_ireturn C D dX9_lackOf_30 ⟨_, rfl, hw⟩
  · replace hw := hw.2 h
    refine z_iconst C 0 dX9_lackOf_5 (by decide) ?_
    refine z_goto C (tgt := 30) dX9_lackOf_6 (by decide) ?_
    exact z_ireturn C D dX9_lackOf_30 ⟨_, rfl, hw⟩
set_option maxHeartbeats 4000000 in
set_option maxRecDepth 100000 in
theorem t_X9_lack {l : Launch} {E : zE} {a1 : Int32} {a2 : Int32} {s0 : zS} {Q : Int32 → zS → Prop}  (hw : Wp_X9_lack a1 a2 s0 Q) : zT l 3 E yX9_lack cX9_lack 3 (some .int) [.ref (E.1 54 0), .int a1, .int a2] s0 (zQi Q) := by
  unfold Wp_X9_lack at hw
  refine z_entry rfl (Nat.le_of_ble_eq_true rfl) rfl ?_
  intro X C D hl hE
  subst hl; subst hE
  have C : zC X cX9_lack RX9 3 3 := C
  refine z_aload_n C dX9_lack_0 rfl 0 rfl ?_
  refine z_iload_n C dX9_lack_1 rfl 1 rfl ?_
  refine z_callV C (by decide) M_X9_isTown Mv_X9_isTown kw_m_X9_146 ob_X9 (t_X9_isTown hw) rfl rfl (Nat.le_of_ble_eq_true rfl) dX9_lack_2 (z_kb (fun r1 s2 hr1 hw => ?_))
  refine z_if_eq C (tgt := 21) dX9_lack_5 (by decide) (fun h => ?_) (fun h => ?_)
  · replace hw := hw.1 h
    refine z_aload_n C dX9_lack_21 rfl 0 rfl ?_
    refine z_iconst C 1 dX9_lack_22 (by decide) ?_
    refine z_callV C (by decide) M_X9_refuse Mv_X9_refuse kw_m_X9_139 ob_X9 (t_X9_refuse hw) rfl rfl (Nat.le_of_ble_eq_true rfl) dX9_lack_23 (z_ki (fun r3 s4 hw => ?_))
    exact z_ireturn C D dX9_lack_26 ⟨_, rfl, hw⟩
  · replace hw := hw.2 h
    refine z_aload_n C dX9_lack_8 rfl 0 rfl ?_
    refine z_iload_n C dX9_lack_9 rfl 2 rfl ?_
    refine z_callV C (by decide) M_X9_isTown Mv_X9_isTown kw_m_X9_146 ob_X9 (t_X9_isTown hw) rfl rfl (Nat.le_of_ble_eq_true rfl) dX9_lack_10 (z_kb (fun r5 s6 hr5 hw => ?_))
    refine z_if_eq C (tgt := 21) dX9_lack_13 (by decide) (fun h => ?_) (fun h => ?_)
    · replace hw := hw.1 h
      refine z_aload_n C dX9_lack_21 rfl 0 rfl ?_
      refine z_iconst C 1 dX9_lack_22 (by decide) ?_
      refine z_callV C (by decide) M_X9_refuse Mv_X9_refuse kw_m_X9_139 ob_X9 (t_X9_refuse hw) rfl rfl (Nat.le_of_ble_eq_true rfl) dX9_lack_23 (z_ki (fun r7 s8 hw => ?_))
      exact z_ireturn C D dX9_lack_26 ⟨_, rfl, hw⟩
    · replace hw := hw.2 h
      refine z_iload_n C dX9_lack_16 rfl 1 rfl ?_
      refine z_iload_n C dX9_lack_17 rfl 2 rfl ?_
      refine z_icmp_ne C (tgt := 27) dX9_lack_18 (by decide) (fun h => ?_) (fun h => ?_)
      · replace hw := hw.1 h
        refine z_aload_n C dX9_lack_27 rfl 0 rfl ?_
        refine z_iconst C 0 dX9_lack_28 (by decide) ?_
        refine p_X9_109 C dX9_lack_29 (z_nms (fun s9 es9 => ?_))
        replace hw := hw s9 es9
        refine z_aload_n C dX9_lack_32 rfl 0 rfl ?_
        refine z_iload_n C dX9_lack_33 rfl 1 rfl ?_
        refine z_iload_n C dX9_lack_34 rfl 2 rfl ?_
        refine z_callV C (by decide) M_X9_lackOf Mv_X9_lackOf kw_m_X9_203 ob_X9 (t_X9_lackOf hw) rfl rfl (Nat.le_of_ble_eq_true rfl) dX9_lack_35 (z_ki (fun r10 s11 hw => ?_))
        exact z_ireturn C D dX9_lack_38 ⟨_, rfl, hw⟩
      · replace hw := hw.2 h
        refine z_aload_n C dX9_lack_21 rfl 0 rfl ?_
        refine z_iconst C 1 dX9_lack_22 (by decide) ?_
        refine z_callV C (by decide) M_X9_refuse Mv_X9_refuse kw_m_X9_139 ob_X9 (t_X9_refuse hw) rfl rfl (Nat.le_of_ble_eq_true rfl) dX9_lack_23 (z_ki (fun r12 s13 hw => ?_))
        exact z_ireturn C D dX9_lack_26 ⟨_, rfl, hw⟩
set_option maxHeartbeats 4000000 in
set_option maxRecDepth 100000 in
theorem t_X0_worthOf {l : Launch} {E : zE} {a1 : Int32} {a2 : Int32} {a3 : Int32} {s0 : zS} {Q : Int64 → zS → Prop}  (hw : Wp_X0_worthOf a1 a2 a3 s0 Q) : zT l 1 E yX0_worthOf cX0_worthOf 4 (some .long) [.ref (E.1 28 0), .int a1, .int a2, .int a3] s0 (zQl Q) := by
  unfold Wp_X0_worthOf at hw
  refine z_entry rfl (Nat.le_of_ble_eq_true rfl) rfl ?_
  intro X C D hl hE
  subst hl; subst hE
  have C : zC X cX0_worthOf RX0 4 1 := C
  refine z_iload_n C dX0_worthOf_0 rfl 3 rfl ?_
  refine z_i2l C dX0_worthOf_1 ?_
  refine z_aload_n C dX0_worthOf_2 rfl 0 rfl ?_
  refine f_X0_16 C dX0_worthOf_3 ?_
  refine z_iload_n C dX0_worthOf_6 rfl 1 rfl ?_
  have hb1 := zin_lt hw.1
  refine z_aald C za_31 (by decide) rfl (Int32.toNatClampNeg a1) rfl hw.1 dX0_worthOf_7 ?_
  replace hw := hw.2
  refine z_iload_n C dX0_worthOf_8 rfl 2 rfl ?_
  refine z_iald C za_32 hb1 (Int32.toNatClampNeg a2) rfl hw.1 dX0_worthOf_9 ?_
  replace hw := hw.2
  refine z_i2l C dX0_worthOf_10 ?_
  refine z_lmul C dX0_worthOf_11 ?_
  exact z_lreturn C D dX0_worthOf_12 ⟨_, rfl, hw⟩
set_option maxHeartbeats 4000000 in
set_option maxRecDepth 100000 in
theorem t_X0_fareOf {l : Launch} {E : zE} {a1 : Int32} {a2 : Int32} {a3 : Int32} {s0 : zS} {Q : Int64 → zS → Prop}  (hw : Wp_X0_fareOf a1 a2 a3 s0 Q) : zT l 1 E yX0_fareOf cX0_fareOf 4 (some .long) [.ref (E.1 28 0), .int a1, .int a2, .int a3] s0 (zQl Q) := by
  unfold Wp_X0_fareOf at hw
  refine z_entry rfl (Nat.le_of_ble_eq_true rfl) rfl ?_
  intro X C D hl hE
  subst hl; subst hE
  have C : zC X cX0_fareOf RX0 4 1 := C
  refine z_iload_n C dX0_fareOf_0 rfl 3 rfl ?_
  refine z_bipush C 6 dX0_fareOf_1 (by decide) ?_
  refine z_iadd C dX0_fareOf_3 ?_
  refine z_iconst C 1 dX0_fareOf_4 (by decide) ?_
  refine z_isub C dX0_fareOf_5 ?_
  refine z_bipush C 6 dX0_fareOf_6 (by decide) ?_
  refine z_idiv C dX0_fareOf_8 (by decide) ?_
  refine z_i2l C dX0_fareOf_9 ?_
  refine z_aload_n C dX0_fareOf_10 rfl 0 rfl ?_
  refine f_X0_31 C dX0_fareOf_11 ?_
  refine f_X0_66 C dX0_fareOf_14 ?_
  refine z_iload_n C dX0_fareOf_17 rfl 2 rfl ?_
  have hb1 := zin_lt hw.1
  refine z_aald C za_12 (by decide) rfl (Int32.toNatClampNeg a2) rfl hw.1 dX0_fareOf_18 ?_
  replace hw := hw.2
  refine z_iload_n C dX0_fareOf_19 rfl 1 rfl ?_
  refine z_iald C za_13 hb1 (Int32.toNatClampNeg a1) rfl hw.1 dX0_fareOf_20 ?_
  replace hw := hw.2
  refine z_i2l C dX0_fareOf_21 ?_
  refine z_lmul C dX0_fareOf_22 ?_
  exact z_lreturn C D dX0_fareOf_23 ⟨_, rfl, hw⟩
set_option maxHeartbeats 4000000 in
set_option maxRecDepth 100000 in
theorem t_X0_weighTown {l : Launch} {E : zE} {a1 : Int32} {a2 : Int32} {a3 : Int32} {s0 : zS} {Q : zS → Prop}  (hw : Wp_X0_weighTown a1 a2 a3 s0 Q) : zT l 2 E yX0_weighTown cX0_weighTown 9 none [.ref (E.1 28 0), .int a1, .int a2, .int a3] s0 (zQv Q) := by
  unfold Wp_X0_weighTown at hw
  refine z_entry rfl (Nat.le_of_ble_eq_true rfl) rfl ?_
  intro X C D hl hE
  subst hl; subst hE
  have C : zC X cX0_weighTown RX0 9 2 := C
  refine z_use (hw (fun v4 v5 s0 => zV X 11 [(0, .ref ((zXE X).1 28 0)), (1, .int a1), (2, .int a2), (3, .int a3), (4, .int v4), (5, .int v5)] [] s0) (fun v4 v5 v6 s0 => zV X 50 [(0, .ref ((zXE X).1 28 0)), (1, .int a1), (2, .int a2), (3, .int a3), (4, .int v4), (5, .int v5), (6, .int v6)] [] s0) (fun v4 v5 s0 hw => ?_) (fun v4 v5 v6 s0 hw => ?_)) (fun hw => ?_)
  · show zV X 11 _ _ _
    refine z_iload C dX0_weighTown_11 5 rfl ?_
    refine z_iload_n C dX0_weighTown_13 rfl 3 rfl ?_
    refine z_icmp_gt C (tgt := 151) dX0_weighTown_14 (by decide) (fun h => ?_) (fun h => ?_)
    · replace hw := hw.1 h
      exact z_vreturn C D dX0_weighTown_151 ⟨rfl, hw⟩
    · replace hw := hw.2 h
      refine z_aload_n C dX0_weighTown_17 rfl 0 rfl ?_
      refine f_X0_24 C dX0_weighTown_18 ?_
      refine z_iload_n C dX0_weighTown_21 rfl 1 rfl ?_
      have hb3 := zin_lt hw.1
      refine z_aald C za_35 (by decide) rfl (Int32.toNatClampNeg a1) rfl hw.1 dX0_weighTown_22 ?_
      replace hw := hw.2
      refine z_iload C dX0_weighTown_23 5 rfl ?_
      refine z_iconst C 0 dX0_weighTown_25 (by decide) ?_
      refine z_iast C za_36 hb3 (Int32.toNatClampNeg v5) rfl hw.1 dX0_weighTown_26 (z_nms (fun s4 es4 => ?_))
      replace hw := hw.2
      replace hw := hw s4 es4
      refine z_aload_n C dX0_weighTown_27 rfl 0 rfl ?_
      refine f_X0_21 C dX0_weighTown_28 ?_
      refine z_iload_n C dX0_weighTown_31 rfl 1 rfl ?_
      have hb5 := zin_lt hw.1
      refine z_aald C za_33 (by decide) rfl (Int32.toNatClampNeg a1) rfl hw.1 dX0_weighTown_32 ?_
      replace hw := hw.2
      refine z_iload C dX0_weighTown_33 5 rfl ?_
      refine z_aload_n C dX0_weighTown_35 rfl 0 rfl ?_
      refine f_X0_21 C dX0_weighTown_36 ?_
      refine z_iload_n C dX0_weighTown_39 rfl 1 rfl ?_
      refine z_iconst C 1 dX0_weighTown_40 (by decide) ?_
      refine z_iadd C dX0_weighTown_41 ?_
      have hb6 := zin_lt hw.1
      refine z_aald C za_33 (by decide) rfl (Int32.toNatClampNeg (a1 + (1 : Int32))) rfl hw.1 dX0_weighTown_42 ?_
      replace hw := hw.2
      refine z_iload C dX0_weighTown_43 5 rfl ?_
      refine z_lald C za_34 hb6 (Int32.toNatClampNeg v5) rfl hw.1 dX0_weighTown_45 ?_
      replace hw := hw.2
      refine z_last C za_34 hb5 (Int32.toNatClampNeg v5) rfl hw.1 dX0_weighTown_46 (z_nms (fun s7 es7 => ?_))
      replace hw := hw.2
      replace hw := hw s7 es7
      refine z_iconst C 1 dX0_weighTown_47 (by decide) ?_
      refine z_istore C [(6, .int (1 : Int32)), (0, .ref ((zXE X).1 28 0)), (1, .int a1), (2, .int a2), (3, .int a3), (4, .int v4), (5, .int v5)] dX0_weighTown_48 (by decide) rfl ?_
      exact z_lv [1, 2, 3, 4, 5, 6, 0] rfl hw
  · show zV X 50 _ _ _
    refine z_iload C dX0_weighTown_50 6 rfl ?_
    refine z_iload C dX0_weighTown_52 4 rfl ?_
    refine z_icmp_gt C (tgt := 145) dX0_weighTown_54 (by decide) (fun h => ?_) (fun h => ?_)
    · replace hw := hw.1 h
      refine z_iinc C (v5 + 1) [(5, .int (v5 + 1)), (0, .ref ((zXE X).1 28 0)), (1, .int a1), (2, .int a2), (3, .int a3), (4, .int v4), (6, .int v6)] dX0_weighTown_145 5 rfl rfl (by decide) rfl ?_
      refine z_goto C (tgt := 11) dX0_weighTown_148 (by decide) ?_
      exact z_lv [1, 2, 3, 4, 5, 0] rfl hw
    · replace hw := hw.2 h
      refine z_iload C dX0_weighTown_57 6 rfl ?_
      refine z_iload C dX0_weighTown_59 5 rfl ?_
      refine z_icmp_gt C (tgt := 145) dX0_weighTown_61 (by decide) (fun h => ?_) (fun h => ?_)
      · replace hw := hw.1 h
        refine z_iinc C (v5 + 1) [(5, .int (v5 + 1)), (0, .ref ((zXE X).1 28 0)), (1, .int a1), (2, .int a2), (3, .int a3), (4, .int v4), (6, .int v6)] dX0_weighTown_145 5 rfl rfl (by decide) rfl ?_
        refine z_goto C (tgt := 11) dX0_weighTown_148 (by decide) ?_
        exact z_lv [1, 2, 3, 4, 5, 0] rfl hw
      · replace hw := hw.2 h
        refine z_aload_n C dX0_weighTown_64 rfl 0 rfl ?_
        refine z_iload_n C dX0_weighTown_65 rfl 1 rfl ?_
        refine z_iload_n C dX0_weighTown_66 rfl 2 rfl ?_
        refine z_iload C dX0_weighTown_67 6 rfl ?_
        refine z_callV C (by decide) M_X0_worthOf Mv_X0_worthOf kw_m_X0_57 ob_X0 (t_X0_worthOf hw) rfl rfl (Nat.le_of_ble_eq_true rfl) dX0_weighTown_69 (z_kl (fun r8 s9 hw => ?_))
        refine z_ldc2 C (v := 1000000) kw_cl_X0_61 dX0_weighTown_72 ?_
        refine z_lmul C dX0_weighTown_75 ?_
        refine z_aload_n C dX0_weighTown_76 rfl 0 rfl ?_
        refine z_iload_n C dX0_weighTown_77 rfl 1 rfl ?_
        refine z_iload_n C dX0_weighTown_78 rfl 2 rfl ?_
        refine z_iload C dX0_weighTown_79 6 rfl ?_
        refine z_callV C (by decide) M_X0_fareOf Mv_X0_fareOf kw_m_X0_63 ob_X0 (t_X0_fareOf hw) rfl rfl (Nat.le_of_ble_eq_true rfl) dX0_weighTown_81 (z_kl (fun r10 s11 hw => ?_))
        refine z_lsub C dX0_weighTown_84 ?_
        refine z_aload_n C dX0_weighTown_85 rfl 0 rfl ?_
        refine f_X0_21 C dX0_weighTown_86 ?_
        refine z_iload_n C dX0_weighTown_89 rfl 1 rfl ?_
        refine z_iconst C 1 dX0_weighTown_90 (by decide) ?_
        refine z_iadd C dX0_weighTown_91 ?_
        have hb12 := zin_lt hw.1
        refine z_aald C za_33 (by decide) rfl (Int32.toNatClampNeg (a1 + (1 : Int32))) rfl hw.1 dX0_weighTown_92 ?_
        replace hw := hw.2
        refine z_iload C dX0_weighTown_93 5 rfl ?_
        refine z_iload C dX0_weighTown_95 6 rfl ?_
        refine z_isub C dX0_weighTown_97 ?_
        refine z_lald C za_34 hb12 (Int32.toNatClampNeg (v5 - v6)) rfl hw.1 dX0_weighTown_98 ?_
        replace hw := hw.2
        refine z_ladd C dX0_weighTown_99 ?_
        refine z_nml (fun y13 ey13 => ?_)
        replace hw := hw y13 ey13
        refine z_lstore C [(7, .long y13), (0, .ref ((zXE X).1 28 0)), (1, .int a1), (2, .int a2), (3, .int a3), (4, .int v4), (5, .int v5), (6, .int v6)] dX0_weighTown_100 (by decide) rfl ?_
        refine z_lload C dX0_weighTown_102 0 rfl ?_
        refine z_aload_n C dX0_weighTown_104 rfl 1 rfl ?_
        refine f_X0_21 C dX0_weighTown_105 ?_
        refine z_iload_n C dX0_weighTown_108 rfl 2 rfl ?_
        have hb14 := zin_lt hw.1
        refine z_aald C za_33 (by decide) rfl (Int32.toNatClampNeg a1) rfl hw.1 dX0_weighTown_109 ?_
        replace hw := hw.2
        refine z_iload C dX0_weighTown_110 6 rfl ?_
        refine z_lald C za_34 hb14 (Int32.toNatClampNeg v5) rfl hw.1 dX0_weighTown_112 ?_
        replace hw := hw.2
        refine z_lcmp_lt C (tgt := 139) dX0_weighTown_113 dX0_weighTown_114 (by decide) (fun h => ?_) (fun h => ?_)
        · replace hw := hw.1 h
          refine z_iinc C (v6 + 1) [(6, .int (v6 + 1)), (7, .long y13), (0, .ref ((zXE X).1 28 0)), (1, .int a1), (2, .int a2), (3, .int a3), (4, .int v4), (5, .int v5)] dX0_weighTown_139 7 rfl rfl (by decide) rfl ?_
          refine z_goto C (tgt := 50) dX0_weighTown_142 (by decide) ?_
          exact z_lv [2, 3, 4, 5, 6, 7, 0] rfl hw
        · replace hw := hw.2 h
          refine z_aload_n C dX0_weighTown_117 rfl 1 rfl ?_
          refine f_X0_24 C dX0_weighTown_118 ?_
          refine z_iload_n C dX0_weighTown_121 rfl 2 rfl ?_
          have hb15 := zin_lt hw.1
          refine z_aald C za_35 (by decide) rfl (Int32.toNatClampNeg a1) rfl hw.1 dX0_weighTown_122 ?_
          replace hw := hw.2
          refine z_iload C dX0_weighTown_123 6 rfl ?_
          refine z_iload C dX0_weighTown_125 7 rfl ?_
          refine z_iast C za_36 hb15 (Int32.toNatClampNeg v5) rfl hw.1 dX0_weighTown_127 (z_nms (fun s16 es16 => ?_))
          replace hw := hw.2
          replace hw := hw s16 es16
          refine z_aload_n C dX0_weighTown_128 rfl 1 rfl ?_
          refine f_X0_21 C dX0_weighTown_129 ?_
          refine z_iload_n C dX0_weighTown_132 rfl 2 rfl ?_
          have hb17 := zin_lt hw.1
          refine z_aald C za_33 (by decide) rfl (Int32.toNatClampNeg a1) rfl hw.1 dX0_weighTown_133 ?_
          replace hw := hw.2
          refine z_iload C dX0_weighTown_134 6 rfl ?_
          refine z_lload C dX0_weighTown_136 0 rfl ?_
          refine z_last C za_34 hb17 (Int32.toNatClampNeg v5) rfl hw.1 dX0_weighTown_138 (z_nms (fun s18 es18 => ?_))
          replace hw := hw.2
          replace hw := hw s18 es18
          refine z_iinc C (v6 + 1) [(6, .int (v6 + 1)), (7, .long y13), (0, .ref ((zXE X).1 28 0)), (1, .int a1), (2, .int a2), (3, .int a3), (4, .int v4), (5, .int v5)] dX0_weighTown_139 7 rfl rfl (by decide) rfl ?_
          refine z_goto C (tgt := 50) dX0_weighTown_142 (by decide) ?_
          exact z_lv [2, 3, 4, 5, 6, 7, 0] rfl hw
  refine z_aload_n C dX0_weighTown_0 rfl 0 rfl ?_
  refine z_iload_n C dX0_weighTown_1 rfl 1 rfl ?_
  refine z_iload_n C dX0_weighTown_2 rfl 2 rfl ?_
  refine z_callV C (by decide) M_X0_lacked Mv_X0_lacked kw_m_X0_54 ob_X0 (t_X0_lacked hw) rfl rfl (Nat.le_of_ble_eq_true rfl) dX0_weighTown_3 (z_ki (fun r1 s2 hw => ?_))
  refine z_istore C [(4, .int r1), (0, .ref ((zXE X).1 28 0)), (1, .int a1), (2, .int a2), (3, .int a3)] dX0_weighTown_6 (by decide) rfl ?_
  refine z_iconst C 0 dX0_weighTown_8 (by decide) ?_
  refine z_istore C [(5, .int (0 : Int32)), (4, .int r1), (0, .ref ((zXE X).1 28 0)), (1, .int a1), (2, .int a2), (3, .int a3)] dX0_weighTown_9 (by decide) rfl ?_
  exact z_lv [2, 3, 4, 5, 1, 0] rfl hw
set_option maxHeartbeats 4000000 in
set_option maxRecDepth 100000 in
theorem t_X0_plan {l : Launch} {E : zE} {a1 : Int32} {s0 : zS} {Q : zS → Prop}  (hw : Wp_X0_plan a1 s0 Q) : zT l 3 E yX0_plan cX0_plan 4 none [.ref (E.1 28 0), .int a1] s0 (zQv Q) := by
  unfold Wp_X0_plan at hw
  refine z_entry rfl (Nat.le_of_ble_eq_true rfl) rfl ?_
  intro X C D hl hE
  subst hl; subst hE
  have C : zC X cX0_plan RX0 4 3 := C
  refine z_use (hw (fun v2 v3 s0 => zV X 15 [(0, .ref ((zXE X).1 28 0)), (1, .int a1), (2, .int v2), (3, .int v3)] [] s0) (fun v2 v3 s0 => zV X 34 [(0, .ref ((zXE X).1 28 0)), (2, .int v2), (3, .int v3)] [] s0) (fun v2 v3 s0 hw => ?_) (fun v2 v3 s0 hw => ?_)) (fun hw => ?_)
  · show zV X 15 _ _ _
    refine z_iload_n C dX0_plan_15 rfl 3 rfl ?_
    refine z_if_lt C (tgt := 32) dX0_plan_16 (by decide) (fun h => ?_) (fun h => ?_)
    · replace hw := hw.1 h
      refine z_iconst C 0 dX0_plan_32 (by decide) ?_
      refine z_istore_n C [(3, .int (0 : Int32)), (0, .ref ((zXE X).1 28 0)), (1, .int a1), (2, .int v2)] dX0_plan_33 rfl (by decide) rfl ?_
      exact z_lv [1, 3, 0] rfl hw
    · replace hw := hw.2 h
      refine z_aload_n C dX0_plan_19 rfl 0 rfl ?_
      refine z_iload_n C dX0_plan_20 rfl 3 rfl ?_
      refine z_iload_n C dX0_plan_21 rfl 1 rfl ?_
      refine z_iload_n C dX0_plan_22 rfl 2 rfl ?_
      refine z_callV C (by decide) M_X0_weighTown Mv_X0_weighTown kw_m_X0_50 ob_X0 (t_X0_weighTown hw) rfl rfl (Nat.le_of_ble_eq_true rfl) dX0_plan_23 (z_kv (fun s4 hw => ?_))
      refine z_iinc C (v3 + (-1)) [(3, .int (v3 + (-1))), (0, .ref ((zXE X).1 28 0)), (1, .int a1), (2, .int v2)] dX0_plan_26 3 rfl rfl (by decide) rfl ?_
      refine z_goto C (tgt := 15) dX0_plan_29 (by decide) ?_
      exact z_lv [1, 2, 3, 0] rfl hw
  · show zV X 34 _ _ _
    refine z_iload_n C dX0_plan_34 rfl 2 rfl ?_
    refine z_bipush C 10 dX0_plan_35 (by decide) ?_
    refine z_icmp_ge C (tgt := 69) dX0_plan_37 (by decide) (fun h => ?_) (fun h => ?_)
    · replace hw := hw.1 h
      exact z_vreturn C D dX0_plan_69 ⟨rfl, hw⟩
    · replace hw := hw.2 h
      refine z_aload_n C dX0_plan_40 rfl 0 rfl ?_
      refine f_X0_27 C dX0_plan_41 ?_
      refine z_iload_n C dX0_plan_44 rfl 2 rfl ?_
      refine z_aload_n C dX0_plan_45 rfl 0 rfl ?_
      refine f_X0_24 C dX0_plan_46 ?_
      refine z_iload_n C dX0_plan_49 rfl 2 rfl ?_
      have hb5 := zin_lt hw.1
      refine z_aald C za_35 (by decide) rfl (Int32.toNatClampNeg v3) rfl hw.1 dX0_plan_50 ?_
      replace hw := hw.2
      refine z_iload_n C dX0_plan_51 rfl 1 rfl ?_
      refine z_iald C za_36 hb5 (Int32.toNatClampNeg v2) rfl hw.1 dX0_plan_52 ?_
      replace hw := hw.2
      refine z_iast C za_37 (by decide) (Int32.toNatClampNeg v3) rfl hw.1 dX0_plan_53 (z_nms (fun s6 es6 => ?_))
      replace hw := hw.2
      replace hw := hw s6 es6
      refine z_iload_n C dX0_plan_54 rfl 1 rfl ?_
      refine z_aload_n C dX0_plan_55 rfl 0 rfl ?_
      refine f_X0_27 C dX0_plan_56 ?_
      refine z_iload_n C dX0_plan_59 rfl 2 rfl ?_
      refine z_iald C za_37 (by decide) (Int32.toNatClampNeg v3) rfl hw.1 dX0_plan_60 ?_
      replace hw := hw.2
      refine z_isub C dX0_plan_61 ?_
      refine z_nmi (fun x7 ex7 => ?_)
      replace hw := hw x7 ex7
      refine z_istore_n C [(2, .int x7), (0, .ref ((zXE X).1 28 0)), (3, .int v3)] dX0_plan_62 rfl (by decide) rfl ?_
      refine z_iinc C (v3 + 1) [(3, .int (v3 + 1)), (2, .int x7), (0, .ref ((zXE X).1 28 0))] dX0_plan_63 2 rfl rfl (by decide) rfl ?_
      refine z_goto C (tgt := 34) dX0_plan_66 (by decide) ?_
      exact z_lv [2, 1, 0] rfl hw
  refine z_aload_n C dX0_plan_0 rfl 0 rfl ?_
  refine f_X0_35 C dX0_plan_1 ?_
  refine f_X0_39 C dX0_plan_4 ?_
  refine z_iload_n C dX0_plan_7 rfl 1 rfl ?_
  have hb1 := zin_lt hw.1
  refine z_aald C za_20 (by decide) rfl (Int32.toNatClampNeg a1) rfl hw.1 dX0_plan_8 ?_
  replace hw := hw.2
  refine z_iload_n C dX0_plan_9 rfl 1 rfl ?_
  refine z_iald C za_21 hb1 (Int32.toNatClampNeg a1) rfl hw.1 dX0_plan_10 ?_
  replace hw := hw.2
  refine z_nmi (fun x2 ex2 => ?_)
  replace hw := hw x2 ex2
  refine z_istore_n C [(2, .int x2), (0, .ref ((zXE X).1 28 0)), (1, .int a1)] dX0_plan_11 rfl (by decide) rfl ?_
  refine z_bipush C 9 dX0_plan_12 (by decide) ?_
  refine z_istore_n C [(3, .int (9 : Int32)), (2, .int x2), (0, .ref ((zXE X).1 28 0)), (1, .int a1)] dX0_plan_14 rfl (by decide) rfl ?_
  exact z_lv [2, 3, 1, 0] rfl hw
set_option maxHeartbeats 4000000 in
set_option maxRecDepth 100000 in
theorem t_X0_worthTogether {l : Launch} {E : zE} {a1 : Int32} {s0 : zS} {Q : Int32 → zS → Prop}  (hw : Wp_X0_worthTogether a1 s0 Q) : zT l 2 E yX0_worthTogether cX0_worthTogether 5 (some .int) [.ref (E.1 28 0), .int a1] s0 (zQi Q) := by
  unfold Wp_X0_worthTogether at hw
  refine z_entry rfl (Nat.le_of_ble_eq_true rfl) rfl ?_
  intro X C D hl hE
  subst hl; subst hE
  have C : zC X cX0_worthTogether RX0 5 2 := C
  refine z_use (hw (fun v2 v4 s0 => zV X 5 [(0, .ref ((zXE X).1 28 0)), (1, .int a1), (2, .long v2), (4, .int v4)] [] s0) (fun v2 v4 s0 hw => ?_)) (fun hw => ?_)
  · show zV X 5 _ _ _
    refine z_iload C dX0_worthTogether_5 3 rfl ?_
    refine z_bipush C 10 dX0_worthTogether_7 (by decide) ?_
    refine z_icmp_ge C (tgt := 35) dX0_worthTogether_9 (by decide) (fun h => ?_) (fun h => ?_)
    · replace hw := hw.1 h
      refine z_lload_n C dX0_worthTogether_35 rfl 2 rfl ?_
      refine z_l2i C dX0_worthTogether_36 ?_
      exact z_ireturn C D dX0_worthTogether_37 ⟨_, rfl, hw⟩
    · replace hw := hw.2 h
      refine z_lload_n C dX0_worthTogether_12 rfl 2 rfl ?_
      refine z_aload_n C dX0_worthTogether_13 rfl 0 rfl ?_
      refine z_iload C dX0_worthTogether_14 3 rfl ?_
      refine z_iload_n C dX0_worthTogether_16 rfl 1 rfl ?_
      refine z_aload_n C dX0_worthTogether_17 rfl 0 rfl ?_
      refine f_X0_27 C dX0_worthTogether_18 ?_
      refine z_iload C dX0_worthTogether_21 3 rfl ?_
      refine z_iald C za_37 (by decide) (Int32.toNatClampNeg v4) rfl hw.1 dX0_worthTogether_23 ?_
      replace hw := hw.2
      refine z_callV C (by decide) M_X0_worthOf Mv_X0_worthOf kw_m_X0_57 ob_X0 (t_X0_worthOf hw) rfl rfl (Nat.le_of_ble_eq_true rfl) dX0_worthTogether_24 (z_kl (fun r1 s2 hw => ?_))
      refine z_ladd C dX0_worthTogether_27 ?_
      refine z_nml (fun y3 ey3 => ?_)
      replace hw := hw y3 ey3
      refine z_lstore_n C [(2, .long y3), (0, .ref ((zXE X).1 28 0)), (1, .int a1), (4, .int v4)] dX0_worthTogether_28 rfl (by decide) rfl ?_
      refine z_iinc C (v4 + 1) [(4, .int (v4 + 1)), (2, .long y3), (0, .ref ((zXE X).1 28 0)), (1, .int a1)] dX0_worthTogether_29 3 rfl rfl (by decide) rfl ?_
      refine z_goto C (tgt := 5) dX0_worthTogether_32 (by decide) ?_
      exact z_lv [2, 3, 1, 0] rfl hw
  refine z_lconst C 0 dX0_worthTogether_0 (by decide) ?_
  refine z_lstore_n C [(2, .long (0 : Int64)), (0, .ref ((zXE X).1 28 0)), (1, .int a1)] dX0_worthTogether_1 rfl (by decide) rfl ?_
  refine z_iconst C 0 dX0_worthTogether_2 (by decide) ?_
  refine z_istore C [(4, .int (0 : Int32)), (2, .long (0 : Int64)), (0, .ref ((zXE X).1 28 0)), (1, .int a1)] dX0_worthTogether_3 (by decide) rfl ?_
  exact z_lv [2, 3, 1, 0] rfl hw
set_option maxHeartbeats 4000000 in
set_option maxRecDepth 100000 in
theorem t_X8_carrying {l : Launch} {E : zE} {a1 : Int32} {s0 : zS} {Q : Int32 → zS → Prop}  (hw : Wp_X8_carrying a1 s0 Q) : zT l 4 E yX8_carrying cX8_carrying 2 (some .int) [.ref (E.1 0 0), .int a1] s0 (zQi Q) := by
  unfold Wp_X8_carrying at hw
  refine z_entry rfl (Nat.le_of_ble_eq_true rfl) rfl ?_
  intro X C D hl hE
  subst hl; subst hE
  have C : zC X cX8_carrying RX8 2 4 := C
  refine z_aload_n C dX8_carrying_0 rfl 0 rfl ?_
  refine z_aload_n C dX8_carrying_1 rfl 0 rfl ?_
  refine z_iload_n C dX8_carrying_2 rfl 1 rfl ?_
  refine z_callV C (by decide) M_X8_isTown Mv_X8_isTown kw_m_X8_167 ob_X8 (t_X8_isTown hw) rfl rfl (Nat.le_of_ble_eq_true rfl) dX8_carrying_3 (z_kb (fun r1 s2 hr1 hw => ?_))
  refine z_callS C (by decide) M_X8_wrongUnless Ms_X8_wrongUnless kw_m_X8_89 (t_X8_wrongUnless hw) rfl rfl (Nat.le_of_ble_eq_true rfl) dX8_carrying_6 (z_ki (fun r3 s4 hw => ?_))
  refine p_X8_67 C dX8_carrying_9 (z_nms (fun s5 es5 => ?_))
  replace hw := hw s5 es5
  refine z_aload_n C dX8_carrying_12 rfl 0 rfl ?_
  refine f_X8_67 C dX8_carrying_13 ?_
  refine z_if_eq C (tgt := 21) dX8_carrying_16 (by decide) (fun h => ?_) (fun h => ?_)
  · replace hw := hw.1 h
    refine z_aload_n C dX8_carrying_21 rfl 0 rfl ?_
    refine f_X8_49 C dX8_carrying_22 ?_
    refine z_iload_n C dX8_carrying_25 rfl 1 rfl ?_
    refine z_callV C (by decide) M_X0_plan Mv_X0_plan kw_m_X8_224 ob_X0 (t_X0_plan hw) rfl rfl (Nat.le_of_ble_eq_true rfl) dX8_carrying_26 (z_kv (fun s7 hw => ?_))
    refine z_aload_n C dX8_carrying_29 rfl 0 rfl ?_
    refine f_X8_49 C dX8_carrying_30 ?_
    refine z_iload_n C dX8_carrying_33 rfl 1 rfl ?_
    refine z_callV C (by decide) M_X0_worthTogether Mv_X0_worthTogether kw_m_X8_227 ob_X0 (t_X0_worthTogether hw) rfl rfl (Nat.le_of_ble_eq_true rfl) dX8_carrying_34 (z_ki (fun r8 s9 hw => ?_))
    exact z_ireturn C D dX8_carrying_37 ⟨_, rfl, hw⟩
  · replace hw := hw.2 h
    refine z_iconst C (-1) dX8_carrying_19 (by decide) ?_
    exact z_ireturn C D dX8_carrying_20 ⟨_, rfl, hw⟩
set_option maxHeartbeats 4000000 in
set_option maxRecDepth 100000 in
theorem t_X9_value {l : Launch} {E : zE} {a1 : Int32} {a2 : Int32} {a3 : Int32} {s0 : zS} {Q : Int64 → zS → Prop}  (hw : Wp_X9_value a1 a2 a3 s0 Q) : zT l 2 E yX9_value cX9_value 4 (some .long) [.ref (E.1 54 0), .int a1, .int a2, .int a3] s0 (zQl Q) := by
  unfold Wp_X9_value at hw
  refine z_entry rfl (Nat.le_of_ble_eq_true rfl) rfl ?_
  intro X C D hl hE
  subst hl; subst hE
  have C : zC X cX9_value RX9 4 2 := C
  refine z_iload_n C dX9_value_0 rfl 3 rfl ?_
  refine z_if_ne C (tgt := 8) dX9_value_1 (by decide) (fun h => ?_) (fun h => ?_)
  · replace hw := hw.1 h
    refine z_ldc2 C (v := 100000) kw_cl_X9_216 dX9_value_8 ?_
    refine z_iload_n C dX9_value_11 rfl 3 rfl ?_
    refine z_i2l C dX9_value_12 ?_
    refine z_lmul C dX9_value_13 ?_
    refine z_aload_n C dX9_value_14 rfl 0 rfl ?_
    refine f_X9_36 C dX9_value_15 ?_
    refine z_iload_n C dX9_value_18 rfl 1 rfl ?_
    refine z_iload_n C dX9_value_19 rfl 2 rfl ?_
    refine z_callS C (by decide) M_X9_at Ms_X9_at kw_m_X9_143 (t_X9_at hw) rfl rfl (Nat.le_of_ble_eq_true rfl) dX9_value_20 (z_ki (fun r1 s2 hw => ?_))
    refine z_iald C za_62 (by decide) (Int32.toNatClampNeg r1) rfl hw.1 dX9_value_23 ?_
    replace hw := hw.2
    refine z_i2l C dX9_value_24 ?_
    refine z_lmul C dX9_value_25 ?_
    refine z_iload_n C dX9_value_26 rfl 3 rfl ?_
    refine z_bipush C 6 dX9_value_27 (by decide) ?_
    refine z_iadd C dX9_value_29 ?_
    refine z_iconst C 1 dX9_value_30 (by decide) ?_
    refine z_isub C dX9_value_31 ?_
    refine z_bipush C 6 dX9_value_32 (by decide) ?_
    refine z_idiv C dX9_value_34 (by decide) ?_
    refine z_i2l C dX9_value_35 ?_
    refine z_aload_n C dX9_value_36 rfl 0 rfl ?_
    refine f_X9_30 C dX9_value_37 ?_
    refine z_iload_n C dX9_value_40 rfl 2 rfl ?_
    refine z_iload_n C dX9_value_41 rfl 1 rfl ?_
    refine z_callS C (by decide) M_X9_at Ms_X9_at kw_m_X9_143 (t_X9_at hw) rfl rfl (Nat.le_of_ble_eq_true rfl) dX9_value_42 (z_ki (fun r3 s4 hw => ?_))
    refine z_iald C za_60 (by decide) (Int32.toNatClampNeg r3) rfl hw.1 dX9_value_45 ?_
    replace hw := hw.2
    refine z_i2l C dX9_value_46 ?_
    refine z_lmul C dX9_value_47 ?_
    refine z_lsub C dX9_value_48 ?_
    exact z_lreturn C D dX9_value_49 ⟨_, rfl, hw⟩
  · replace hw := hw.2 h
    refine z_lconst C 0 dX9_value_4 (by decide) ?_
    refine z_goto C (tgt := 49) dX9_value_5 (by decide) ?_
    exact z_lreturn C D dX9_value_49 ⟨_, rfl, hw⟩
set_option maxHeartbeats 4000000 in
set_option maxRecDepth 100000 in
theorem t_X9_bring {l : Launch} {E : zE} {a1 : Int32} {s0 : zS} {Q : Int64 → zS → Prop}  (hw : Wp_X9_bring a1 s0 Q) : zT l 3 E yX9_bring cX9_bring 9 (some .long) [.ref (E.1 54 0), .int a1] s0 (zQl Q) := by
  unfold Wp_X9_bring at hw
  refine z_entry rfl (Nat.le_of_ble_eq_true rfl) rfl ?_
  intro X C D hl hE
  subst hl; subst hE
  have C : zC X cX9_bring RX9 9 3 := C
  refine z_use (hw (fun v2 v3 s0 => zV X 9 [(0, .ref ((zXE X).1 54 0)), (1, .int a1), (2, .int v2), (3, .int v3)] [] s0) (fun v2 v3 s0 => zV X 42 [(0, .ref ((zXE X).1 54 0)), (1, .int a1), (2, .int v2), (3, .int v3)] [] s0) (fun v2 v3 v4 v5 s0 => zV X 57 [(0, .ref ((zXE X).1 54 0)), (1, .int a1), (2, .int v2), (3, .int v3), (4, .int v4), (5, .int v5)] [] s0) (fun v2 v3 v4 v5 v6 v8 s0 => zV X 82 [(0, .ref ((zXE X).1 54 0)), (1, .int a1), (2, .int v2), (3, .int v3), (4, .int v4), (5, .int v5), (6, .long v6), (8, .int v8)] [] s0) (fun v2 v3 v4 s0 => zV X 166 [(0, .ref ((zXE X).1 54 0)), (1, .int a1), (2, .int v2), (3, .int v3), (4, .int v4)] [] s0) (fun v2 v3 v4 v5 s0 => zV X 188 [(0, .ref ((zXE X).1 54 0)), (1, .int a1), (2, .int v2), (3, .int v3), (4, .int v4), (5, .int v5)] [] s0) (fun v2 v3 s0 hw => ?_) (fun v2 v3 s0 hw => ?_) (fun v2 v3 v4 v5 s0 hw => ?_) (fun v2 v3 v4 v5 v6 v8 s0 hw => ?_) (fun v2 v3 v4 s0 hw => ?_) (fun v2 v3 v4 v5 s0 hw => ?_)) (fun hw => ?_)
  · show zV X 9 _ _ _
    refine z_iload_n C dX9_bring_9 rfl 3 rfl ?_
    refine z_iload_n C dX9_bring_10 rfl 2 rfl ?_
    refine z_icmp_gt C (tgt := 35) dX9_bring_11 (by decide) (fun h => ?_) (fun h => ?_)
    · replace hw := hw.1 h
      refine z_aload_n C dX9_bring_35 rfl 0 rfl ?_
      refine f_X9_133 C dX9_bring_36 ?_
      refine z_iconst C 1 dX9_bring_39 (by decide) ?_
      refine z_isub C dX9_bring_40 ?_
      refine z_nmi (fun x3 ex3 => ?_)
      replace hw := hw x3 ex3
      refine z_istore_n C [(3, .int x3), (0, .ref ((zXE X).1 54 0)), (1, .int a1), (2, .int v2)] dX9_bring_41 rfl (by decide) rfl ?_
      exact z_lv [1, 2, 3, 0] rfl hw
    · replace hw := hw.2 h
      refine z_aload_n C dX9_bring_14 rfl 0 rfl ?_
      refine f_X9_72 C dX9_bring_15 ?_
      refine z_bipush C 61 dX9_bring_18 (by decide) ?_
      refine z_aload_n C dX9_bring_20 rfl 0 rfl ?_
      refine f_X9_133 C dX9_bring_21 ?_
      refine z_imul C dX9_bring_24 ?_
      refine z_iload_n C dX9_bring_25 rfl 3 rfl ?_
      refine z_iadd C dX9_bring_26 ?_
      refine z_lconst C 0 dX9_bring_27 (by decide) ?_
      refine z_last C za_74 (by decide) (Int32.toNatClampNeg (((61 : Int32) * (zi s0 54 0 6)) + v3)) rfl hw.1 dX9_bring_28 (z_nms (fun s4 es4 => ?_))
      replace hw := hw.2
      replace hw := hw s4 es4
      refine z_iinc C (v3 + 1) [(3, .int (v3 + 1)), (0, .ref ((zXE X).1 54 0)), (1, .int a1), (2, .int v2)] dX9_bring_29 3 rfl rfl (by decide) rfl ?_
      refine z_goto C (tgt := 9) dX9_bring_32 (by decide) ?_
      exact z_lv [1, 2, 3, 0] rfl hw
  · show zV X 42 _ _ _
    refine z_iload_n C dX9_bring_42 rfl 3 rfl ?_
    refine z_if_lt C (tgt := 161) dX9_bring_43 (by decide) (fun h => ?_) (fun h => ?_)
    · replace hw := hw.1 h
      refine z_iload_n C dX9_bring_161 rfl 2 rfl ?_
      refine z_istore_n C [(3, .int v2), (0, .ref ((zXE X).1 54 0)), (1, .int a1), (2, .int v2)] dX9_bring_162 rfl (by decide) rfl ?_
      refine z_iconst C 0 dX9_bring_163 (by decide) ?_
      refine z_istore C [(4, .int (0 : Int32)), (3, .int v2), (0, .ref ((zXE X).1 54 0)), (1, .int a1), (2, .int v2)] dX9_bring_164 (by decide) rfl ?_
      exact z_lv [2, 3, 4, 1, 0] rfl hw
    · replace hw := hw.2 h
      refine z_aload_n C dX9_bring_46 rfl 0 rfl ?_
      refine z_iload_n C dX9_bring_47 rfl 3 rfl ?_
      refine z_iload_n C dX9_bring_48 rfl 1 rfl ?_
      refine z_callV C (by decide) M_X9_lackOf Mv_X9_lackOf kw_m_X9_203 ob_X9 (t_X9_lackOf hw) rfl rfl (Nat.le_of_ble_eq_true rfl) dX9_bring_49 (z_ki (fun r5 s6 hw => ?_))
      refine z_istore C [(4, .int r5), (0, .ref ((zXE X).1 54 0)), (1, .int a1), (2, .int v2), (3, .int v3)] dX9_bring_52 (by decide) rfl ?_
      refine z_iconst C 0 dX9_bring_54 (by decide) ?_
      refine z_istore C [(5, .int (0 : Int32)), (4, .int r5), (0, .ref ((zXE X).1 54 0)), (1, .int a1), (2, .int v2), (3, .int v3)] dX9_bring_55 (by decide) rfl ?_
      exact z_lv [2, 3, 4, 5, 1, 0] rfl hw
  · show zV X 57 _ _ _
    refine z_iload C dX9_bring_57 5 rfl ?_
    refine z_iload_n C dX9_bring_59 rfl 2 rfl ?_
    refine z_icmp_gt C (tgt := 155) dX9_bring_60 (by decide) (fun h => ?_) (fun h => ?_)
    · replace hw := hw.1 h
      refine z_iinc C (v3 + (-1)) [(3, .int (v3 + (-1))), (0, .ref ((zXE X).1 54 0)), (1, .int a1), (2, .int v2), (4, .int v4), (5, .int v5)] dX9_bring_155 3 rfl rfl (by decide) rfl ?_
      refine z_goto C (tgt := 42) dX9_bring_158 (by decide) ?_
      exact z_lv [1, 2, 3, 0] rfl hw
    · replace hw := hw.2 h
      refine z_aload_n C dX9_bring_63 rfl 0 rfl ?_
      refine f_X9_72 C dX9_bring_64 ?_
      refine z_bipush C 61 dX9_bring_67 (by decide) ?_
      refine z_iload_n C dX9_bring_69 rfl 3 rfl ?_
      refine z_iconst C 1 dX9_bring_70 (by decide) ?_
      refine z_iadd C dX9_bring_71 ?_
      refine z_imul C dX9_bring_72 ?_
      refine z_iload C dX9_bring_73 5 rfl ?_
      refine z_iadd C dX9_bring_75 ?_
      refine z_lald C za_74 (by decide) (Int32.toNatClampNeg (((61 : Int32) * (v3 + (1 : Int32))) + v5)) rfl hw.1 dX9_bring_76 ?_
      replace hw := hw.2
      refine z_nml (fun y7 ey7 => ?_)
      replace hw := hw y7 ey7
      refine z_lstore C [(6, .long y7), (0, .ref ((zXE X).1 54 0)), (1, .int a1), (2, .int v2), (3, .int v3), (4, .int v4), (5, .int v5)] dX9_bring_77 (by decide) rfl ?_
      refine z_iconst C 1 dX9_bring_79 (by decide) ?_
      refine z_istore C [(8, .int (1 : Int32)), (6, .long y7), (0, .ref ((zXE X).1 54 0)), (1, .int a1), (2, .int v2), (3, .int v3), (4, .int v4), (5, .int v5)] dX9_bring_80 (by decide) rfl ?_
      exact z_lv [2, 3, 4, 5, 6, 7, 1, 0] rfl hw
  · show zV X 82 _ _ _
    refine z_iload C dX9_bring_82 7 rfl ?_
    refine z_iload C dX9_bring_84 4 rfl ?_
    refine z_icmp_gt C (tgt := 135) dX9_bring_86 (by decide) (fun h => ?_) (fun h => ?_)
    · replace hw := hw.1 h
      refine z_aload_n C dX9_bring_135 rfl 0 rfl ?_
      refine f_X9_72 C dX9_bring_136 ?_
      refine z_bipush C 61 dX9_bring_139 (by decide) ?_
      refine z_iload_n C dX9_bring_141 rfl 3 rfl ?_
      refine z_imul C dX9_bring_142 ?_
      refine z_iload C dX9_bring_143 5 rfl ?_
      refine z_iadd C dX9_bring_145 ?_
      refine z_lload C dX9_bring_146 6 rfl ?_
      refine z_last C za_74 (by decide) (Int32.toNatClampNeg (((61 : Int32) * v3) + v5)) rfl hw.1 dX9_bring_148 (z_nms (fun s8 es8 => ?_))
      replace hw := hw.2
      replace hw := hw s8 es8
      refine z_iinc C (v5 + 1) [(5, .int (v5 + 1)), (0, .ref ((zXE X).1 54 0)), (1, .int a1), (2, .int v2), (3, .int v3), (4, .int v4), (6, .long v6), (8, .int v8)] dX9_bring_149 5 rfl rfl (by decide) rfl ?_
      refine z_goto C (tgt := 57) dX9_bring_152 (by decide) ?_
      exact z_lv [1, 2, 3, 4, 5, 0] rfl hw
    · replace hw := hw.2 h
      refine z_iload C dX9_bring_89 7 rfl ?_
      refine z_iload C dX9_bring_91 5 rfl ?_
      refine z_icmp_gt C (tgt := 135) dX9_bring_93 (by decide) (fun h => ?_) (fun h => ?_)
      · replace hw := hw.1 h
        refine z_aload_n C dX9_bring_135 rfl 0 rfl ?_
        refine f_X9_72 C dX9_bring_136 ?_
        refine z_bipush C 61 dX9_bring_139 (by decide) ?_
        refine z_iload_n C dX9_bring_141 rfl 3 rfl ?_
        refine z_imul C dX9_bring_142 ?_
        refine z_iload C dX9_bring_143 5 rfl ?_
        refine z_iadd C dX9_bring_145 ?_
        refine z_lload C dX9_bring_146 6 rfl ?_
        refine z_last C za_74 (by decide) (Int32.toNatClampNeg (((61 : Int32) * v3) + v5)) rfl hw.1 dX9_bring_148 (z_nms (fun s9 es9 => ?_))
        replace hw := hw.2
        replace hw := hw s9 es9
        refine z_iinc C (v5 + 1) [(5, .int (v5 + 1)), (0, .ref ((zXE X).1 54 0)), (1, .int a1), (2, .int v2), (3, .int v3), (4, .int v4), (6, .long v6), (8, .int v8)] dX9_bring_149 5 rfl rfl (by decide) rfl ?_
        refine z_goto C (tgt := 57) dX9_bring_152 (by decide) ?_
        exact z_lv [1, 2, 3, 4, 5, 0] rfl hw
      · replace hw := hw.2 h
        refine z_lload C dX9_bring_96 6 rfl ?_
        refine z_aload_n C dX9_bring_98 rfl 0 rfl ?_
        refine z_iload_n C dX9_bring_99 rfl 3 rfl ?_
        refine z_iload_n C dX9_bring_100 rfl 1 rfl ?_
        refine z_iload C dX9_bring_101 7 rfl ?_
        refine z_callV C (by decide) M_X9_value Mv_X9_value kw_m_X9_206 ob_X9 (t_X9_value hw) rfl rfl (Nat.le_of_ble_eq_true rfl) dX9_bring_103 (z_kl (fun r10 s11 hw => ?_))
        refine z_aload_n C dX9_bring_106 rfl 0 rfl ?_
        refine f_X9_72 C dX9_bring_107 ?_
        refine z_bipush C 61 dX9_bring_110 (by decide) ?_
        refine z_iload_n C dX9_bring_112 rfl 3 rfl ?_
        refine z_iconst C 1 dX9_bring_113 (by decide) ?_
        refine z_iadd C dX9_bring_114 ?_
        refine z_imul C dX9_bring_115 ?_
        refine z_iload C dX9_bring_116 5 rfl ?_
        refine z_iadd C dX9_bring_118 ?_
        refine z_iload C dX9_bring_119 7 rfl ?_
        refine z_isub C dX9_bring_121 ?_
        refine z_lald C za_74 (by decide) (Int32.toNatClampNeg ((((61 : Int32) * (v3 + (1 : Int32))) + v5) - v8)) rfl hw.1 dX9_bring_122 ?_
        replace hw := hw.2
        refine z_ladd C dX9_bring_123 ?_
        refine z_mmaxl C (by decide) kw_m_X9_210 (Nat.le_of_ble_eq_true rfl) dX9_bring_124 ?_
        refine z_nml (fun y12 ey12 => ?_)
        replace hw := hw y12 ey12
        refine z_lstore C [(6, .long y12), (0, .ref ((zXE X).1 54 0)), (1, .int a1), (2, .int v2), (3, .int v3), (4, .int v4), (5, .int v5), (8, .int v8)] dX9_bring_127 (by decide) rfl ?_
        refine z_iinc C (v8 + 1) [(8, .int (v8 + 1)), (6, .long y12), (0, .ref ((zXE X).1 54 0)), (1, .int a1), (2, .int v2), (3, .int v3), (4, .int v4), (5, .int v5)] dX9_bring_129 7 rfl rfl (by decide) rfl ?_
        refine z_goto C (tgt := 82) dX9_bring_132 (by decide) ?_
        exact z_lv [2, 3, 4, 5, 6, 7, 1, 0] rfl hw
  · show zV X 166 _ _ _
    refine z_iload C dX9_bring_166 4 rfl ?_
    refine z_aload_n C dX9_bring_168 rfl 0 rfl ?_
    refine f_X9_133 C dX9_bring_169 ?_
    refine z_icmp_ge C (tgt := 257) dX9_bring_172 (by decide) (fun h => ?_) (fun h => ?_)
    · replace hw := hw.1 h
      refine z_aload_n C dX9_bring_257 rfl 0 rfl ?_
      refine f_X9_72 C dX9_bring_258 ?_
      refine z_iload_n C dX9_bring_261 rfl 2 rfl ?_
      refine z_lald C za_74 (by decide) (Int32.toNatClampNeg v2) rfl hw.1 dX9_bring_262 ?_
      replace hw := hw.2
      exact z_lreturn C D dX9_bring_263 ⟨_, rfl, hw⟩
    · replace hw := hw.2 h
      refine z_aload_n C dX9_bring_175 rfl 0 rfl ?_
      refine z_iload C dX9_bring_176 4 rfl ?_
      refine z_iload_n C dX9_bring_178 rfl 1 rfl ?_
      refine z_callV C (by decide) M_X9_lackOf Mv_X9_lackOf kw_m_X9_203 ob_X9 (t_X9_lackOf hw) rfl rfl (Nat.le_of_ble_eq_true rfl) dX9_bring_179 (z_ki (fun r13 s14 hw => ?_))
      refine z_iload_n C dX9_bring_182 rfl 3 rfl ?_
      refine z_mmin C (by decide) kw_m_X9_213 (Nat.le_of_ble_eq_true rfl) dX9_bring_183 ?_
      refine z_nmi (fun x15 ex15 => ?_)
      replace hw := hw x15 ex15
      refine z_istore C [(5, .int x15), (0, .ref ((zXE X).1 54 0)), (1, .int a1), (2, .int v2), (3, .int v3), (4, .int v4)] dX9_bring_186 (by decide) rfl ?_
      exact z_lv [1, 2, 3, 4, 5, 0] rfl hw
  · show zV X 188 _ _ _
    refine z_aload_n C dX9_bring_188 rfl 0 rfl ?_
    refine z_iload C dX9_bring_189 4 rfl ?_
    refine z_iload_n C dX9_bring_191 rfl 1 rfl ?_
    refine z_iload C dX9_bring_192 5 rfl ?_
    refine z_callV C (by decide) M_X9_value Mv_X9_value kw_m_X9_206 ob_X9 (t_X9_value hw) rfl rfl (Nat.le_of_ble_eq_true rfl) dX9_bring_194 (z_kl (fun r16 s17 hw => ?_))
    refine z_aload_n C dX9_bring_197 rfl 0 rfl ?_
    refine f_X9_72 C dX9_bring_198 ?_
    refine z_bipush C 61 dX9_bring_201 (by decide) ?_
    refine z_iload C dX9_bring_203 4 rfl ?_
    refine z_iconst C 1 dX9_bring_205 (by decide) ?_
    refine z_iadd C dX9_bring_206 ?_
    refine z_imul C dX9_bring_207 ?_
    refine z_iload_n C dX9_bring_208 rfl 3 rfl ?_
    refine z_iadd C dX9_bring_209 ?_
    refine z_iload C dX9_bring_210 5 rfl ?_
    refine z_isub C dX9_bring_212 ?_
    refine z_lald C za_74 (by decide) (Int32.toNatClampNeg ((((61 : Int32) * (v4 + (1 : Int32))) + v3) - v5)) rfl hw.1 dX9_bring_213 ?_
    replace hw := hw.2
    refine z_ladd C dX9_bring_214 ?_
    refine z_aload_n C dX9_bring_215 rfl 0 rfl ?_
    refine f_X9_72 C dX9_bring_216 ?_
    refine z_bipush C 61 dX9_bring_219 (by decide) ?_
    refine z_iload C dX9_bring_221 4 rfl ?_
    refine z_imul C dX9_bring_223 ?_
    refine z_iload_n C dX9_bring_224 rfl 3 rfl ?_
    refine z_iadd C dX9_bring_225 ?_
    refine z_lald C za_74 (by decide) (Int32.toNatClampNeg (((61 : Int32) * v4) + v3)) rfl hw.1 dX9_bring_226 ?_
    replace hw := hw.2
    refine z_lcmp_eq C (tgt := 237) dX9_bring_227 dX9_bring_228 (by decide) (fun h => ?_) (fun h => ?_)
    · replace hw := hw.1 h
      refine z_aload_n C dX9_bring_237 rfl 0 rfl ?_
      refine f_X9_75 C dX9_bring_238 ?_
      refine z_iload C dX9_bring_241 4 rfl ?_
      refine z_iload C dX9_bring_243 5 rfl ?_
      refine z_iast C za_75 (by decide) (Int32.toNatClampNeg v4) rfl hw.1 dX9_bring_245 (z_nms (fun s18 es18 => ?_))
      replace hw := hw.2
      replace hw := hw s18 es18
      refine z_iload_n C dX9_bring_246 rfl 3 rfl ?_
      refine z_iload C dX9_bring_247 5 rfl ?_
      refine z_isub C dX9_bring_249 ?_
      refine z_nmi (fun x19 ex19 => ?_)
      replace hw := hw x19 ex19
      refine z_istore_n C [(3, .int x19), (0, .ref ((zXE X).1 54 0)), (1, .int a1), (2, .int v2), (4, .int v4), (5, .int v5)] dX9_bring_250 rfl (by decide) rfl ?_
      refine z_iinc C (v4 + 1) [(4, .int (v4 + 1)), (3, .int x19), (0, .ref ((zXE X).1 54 0)), (1, .int a1), (2, .int v2), (5, .int v5)] dX9_bring_251 4 rfl rfl (by decide) rfl ?_
      refine z_goto C (tgt := 166) dX9_bring_254 (by decide) ?_
      exact z_lv [2, 3, 4, 1, 0] rfl hw
    · replace hw := hw.2 h
      refine z_iinc C (v5 + (-1)) [(5, .int (v5 + (-1))), (0, .ref ((zXE X).1 54 0)), (1, .int a1), (2, .int v2), (3, .int v3), (4, .int v4)] dX9_bring_231 5 rfl rfl (by decide) rfl ?_
      refine z_goto C (tgt := 188) dX9_bring_234 (by decide) ?_
      exact z_lv [1, 2, 3, 4, 5, 0] rfl hw
  refine z_aload_n C dX9_bring_0 rfl 0 rfl ?_
  refine z_iload_n C dX9_bring_1 rfl 1 rfl ?_
  refine z_iload_n C dX9_bring_2 rfl 1 rfl ?_
  refine z_callV C (by decide) M_X9_count Mv_X9_count kw_m_X9_152 ob_X9 (t_X9_count hw) rfl rfl (Nat.le_of_ble_eq_true rfl) dX9_bring_3 (z_ki (fun r1 s2 hw => ?_))
  refine z_istore_n C [(2, .int r1), (0, .ref ((zXE X).1 54 0)), (1, .int a1)] dX9_bring_6 rfl (by decide) rfl ?_
  refine z_iconst C 0 dX9_bring_7 (by decide) ?_
  refine z_istore_n C [(3, .int (0 : Int32)), (2, .int r1), (0, .ref ((zXE X).1 54 0)), (1, .int a1)] dX9_bring_8 rfl (by decide) rfl ?_
  exact z_lv [2, 3, 1, 0] rfl hw
set_option maxHeartbeats 4000000 in
set_option maxRecDepth 100000 in
theorem t_X9_carrying {l : Launch} {E : zE} {a1 : Int32} {s0 : zS} {Q : Int32 → zS → Prop}  (hw : Wp_X9_carrying a1 s0 Q) : zT l 4 E yX9_carrying cX9_carrying 6 (some .int) [.ref (E.1 54 0), .int a1] s0 (zQi Q) := by
  unfold Wp_X9_carrying at hw
  refine z_entry rfl (Nat.le_of_ble_eq_true rfl) rfl ?_
  intro X C D hl hE
  subst hl; subst hE
  have C : zC X cX9_carrying RX9 6 4 := C
  refine z_use (hw (fun v4 v5 s0 => zV X 31 [(0, .ref ((zXE X).1 54 0)), (1, .int a1), (4, .int v4), (5, .int v5)] [] s0) (fun v4 v5 s0 hw => ?_)) (fun hw => ?_)
  · show zV X 31 _ _ _
    refine z_iload C dX9_carrying_31 3 rfl ?_
    refine z_aload_n C dX9_carrying_33 rfl 0 rfl ?_
    refine f_X9_133 C dX9_carrying_34 ?_
    refine z_icmp_ge C (tgt := 70) dX9_carrying_37 (by decide) (fun h => ?_) (fun h => ?_)
    · replace hw := hw.1 h
      refine z_iload C dX9_carrying_70 2 rfl ?_
      exact z_ireturn C D dX9_carrying_72 ⟨_, rfl, hw⟩
    · replace hw := hw.2 h
      refine z_iload C dX9_carrying_40 2 rfl ?_
      refine z_aload_n C dX9_carrying_42 rfl 0 rfl ?_
      refine f_X9_75 C dX9_carrying_43 ?_
      refine z_iload C dX9_carrying_46 3 rfl ?_
      refine z_iald C za_75 (by decide) (Int32.toNatClampNeg v5) rfl hw.1 dX9_carrying_48 ?_
      replace hw := hw.2
      refine z_aload_n C dX9_carrying_49 rfl 0 rfl ?_
      refine f_X9_36 C dX9_carrying_50 ?_
      refine z_iload C dX9_carrying_53 3 rfl ?_
      refine z_iload_n C dX9_carrying_55 rfl 1 rfl ?_
      refine z_callS C (by decide) M_X9_at Ms_X9_at kw_m_X9_143 (t_X9_at hw) rfl rfl (Nat.le_of_ble_eq_true rfl) dX9_carrying_56 (z_ki (fun r8 s9 hw => ?_))
      refine z_iald C za_62 (by decide) (Int32.toNatClampNeg r8) rfl hw.1 dX9_carrying_59 ?_
      replace hw := hw.2
      refine z_imul C dX9_carrying_60 ?_
      refine z_iadd C dX9_carrying_61 ?_
      refine z_nmi (fun x10 ex10 => ?_)
      replace hw := hw x10 ex10
      refine z_istore C [(4, .int x10), (0, .ref ((zXE X).1 54 0)), (1, .int a1), (5, .int v5)] dX9_carrying_62 (by decide) rfl ?_
      refine z_iinc C (v5 + 1) [(5, .int (v5 + 1)), (4, .int x10), (0, .ref ((zXE X).1 54 0)), (1, .int a1)] dX9_carrying_64 3 rfl rfl (by decide) rfl ?_
      refine z_goto C (tgt := 31) dX9_carrying_67 (by decide) ?_
      exact z_lv [2, 3, 1, 0] rfl hw
  refine z_aload_n C dX9_carrying_0 rfl 0 rfl ?_
  refine z_iload_n C dX9_carrying_1 rfl 1 rfl ?_
  refine z_callV C (by decide) M_X9_isTown Mv_X9_isTown kw_m_X9_146 ob_X9 (t_X9_isTown hw) rfl rfl (Nat.le_of_ble_eq_true rfl) dX9_carrying_2 (z_kb (fun r1 s2 hr1 hw => ?_))
  refine z_if_ne C (tgt := 14) dX9_carrying_5 (by decide) (fun h => ?_) (fun h => ?_)
  · replace hw := hw.1 h
    refine z_aload_n C dX9_carrying_14 rfl 0 rfl ?_
    refine z_iconst C 0 dX9_carrying_15 (by decide) ?_
    refine p_X9_109 C dX9_carrying_16 (z_nms (fun s3 es3 => ?_))
    replace hw := hw s3 es3
    refine z_aload_n C dX9_carrying_19 rfl 0 rfl ?_
    refine z_iload_n C dX9_carrying_20 rfl 1 rfl ?_
    refine z_callV C (by decide) M_X9_bring Mv_X9_bring kw_m_X9_218 ob_X9 (t_X9_bring hw) rfl rfl (Nat.le_of_ble_eq_true rfl) dX9_carrying_21 (z_kl (fun r4 s5 hw => ?_))
    refine z_lstore_n C [(2, .long r4), (0, .ref ((zXE X).1 54 0)), (1, .int a1)] dX9_carrying_24 rfl (by decide) rfl ?_
    refine z_iconst C 0 dX9_carrying_25 (by decide) ?_
    refine z_istore C [(4, .int (0 : Int32)), (2, .long r4), (0, .ref ((zXE X).1 54 0)), (1, .int a1)] dX9_carrying_26 (by decide) rfl ?_
    refine z_iconst C 0 dX9_carrying_28 (by decide) ?_
    refine z_istore C [(5, .int (0 : Int32)), (4, .int (0 : Int32)), (2, .long r4), (0, .ref ((zXE X).1 54 0)), (1, .int a1)] dX9_carrying_29 (by decide) rfl ?_
    exact z_lv [3, 4, 1, 0] rfl hw
  · replace hw := hw.2 h
    refine z_aload_n C dX9_carrying_8 rfl 0 rfl ?_
    refine z_iconst C 1 dX9_carrying_9 (by decide) ?_
    refine z_callV C (by decide) M_X9_refuse Mv_X9_refuse kw_m_X9_139 ob_X9 (t_X9_refuse hw) rfl rfl (Nat.le_of_ble_eq_true rfl) dX9_carrying_10 (z_ki (fun r6 s7 hw => ?_))
    exact z_ireturn C D dX9_carrying_13 ⟨_, rfl, hw⟩
set_option maxHeartbeats 4000000 in
set_option maxRecDepth 100000 in
theorem t_X8_carried {l : Launch} {E : zE} {a1 : Int32} {a2 : Int32} {s0 : zS} {Q : Int32 → zS → Prop}  (hw : Wp_X8_carried a1 a2 s0 Q) : zT l 4 E yX8_carried cX8_carried 3 (some .int) [.ref (E.1 0 0), .int a1, .int a2] s0 (zQi Q) := by
  unfold Wp_X8_carried at hw
  refine z_entry rfl (Nat.le_of_ble_eq_true rfl) rfl ?_
  intro X C D hl hE
  subst hl; subst hE
  have C : zC X cX8_carried RX8 3 4 := C
  refine z_aload_n C dX8_carried_0 rfl 0 rfl ?_
  refine z_aload_n C dX8_carried_1 rfl 0 rfl ?_
  refine z_iload_n C dX8_carried_2 rfl 1 rfl ?_
  refine z_iload_n C dX8_carried_3 rfl 2 rfl ?_
  refine z_callV C (by decide) M_X8_areTwoTowns Mv_X8_areTwoTowns kw_m_X8_136 ob_X8 (t_X8_areTwoTowns hw) rfl rfl (Nat.le_of_ble_eq_true rfl) dX8_carried_4 (z_kb (fun r1 s2 hr1 hw => ?_))
  refine z_callS C (by decide) M_X8_wrongUnless Ms_X8_wrongUnless kw_m_X8_89 (t_X8_wrongUnless hw) rfl rfl (Nat.le_of_ble_eq_true rfl) dX8_carried_7 (z_ki (fun r3 s4 hw => ?_))
  refine p_X8_67 C dX8_carried_10 (z_nms (fun s5 es5 => ?_))
  replace hw := hw s5 es5
  refine z_aload_n C dX8_carried_13 rfl 0 rfl ?_
  refine f_X8_67 C dX8_carried_14 ?_
  refine z_if_eq C (tgt := 22) dX8_carried_17 (by decide) (fun h => ?_) (fun h => ?_)
  · replace hw := hw.1 h
    refine z_aload_n C dX8_carried_22 rfl 0 rfl ?_
    refine f_X8_49 C dX8_carried_23 ?_
    refine z_iload_n C dX8_carried_26 rfl 1 rfl ?_
    refine z_callV C (by decide) M_X0_plan Mv_X0_plan kw_m_X8_224 ob_X0 (t_X0_plan hw) rfl rfl (Nat.le_of_ble_eq_true rfl) dX8_carried_27 (z_kv (fun s7 hw => ?_))
    refine z_aload_n C dX8_carried_30 rfl 0 rfl ?_
    refine f_X8_49 C dX8_carried_31 ?_
    refine f_X8_230 C dX8_carried_34 ?_
    refine z_iload_n C dX8_carried_37 rfl 2 rfl ?_
    refine z_iald C za_37 (by decide) (Int32.toNatClampNeg a2) rfl hw.1 dX8_carried_38 ?_
    replace hw := hw.2
    exact z_ireturn C D dX8_carried_39 ⟨_, rfl, hw⟩
  · replace hw := hw.2 h
    refine z_iconst C (-1) dX8_carried_20 (by decide) ?_
    exact z_ireturn C D dX8_carried_21 ⟨_, rfl, hw⟩
set_option maxHeartbeats 4000000 in
set_option maxRecDepth 100000 in
theorem t_X9_carried {l : Launch} {E : zE} {a1 : Int32} {a2 : Int32} {s0 : zS} {Q : Int32 → zS → Prop}  (hw : Wp_X9_carried a1 a2 s0 Q) : zT l 4 E yX9_carried cX9_carried 5 (some .int) [.ref (E.1 54 0), .int a1, .int a2] s0 (zQi Q) := by
  unfold Wp_X9_carried at hw
  refine z_entry rfl (Nat.le_of_ble_eq_true rfl) rfl ?_
  intro X C D hl hE
  subst hl; subst hE
  have C : zC X cX9_carried RX9 5 4 := C
  refine z_aload_n C dX9_carried_0 rfl 0 rfl ?_
  refine z_iload_n C dX9_carried_1 rfl 1 rfl ?_
  refine z_callV C (by decide) M_X9_isTown Mv_X9_isTown kw_m_X9_146 ob_X9 (t_X9_isTown hw) rfl rfl (Nat.le_of_ble_eq_true rfl) dX9_carried_2 (z_kb (fun r1 s2 hr1 hw => ?_))
  refine z_if_eq C (tgt := 21) dX9_carried_5 (by decide) (fun h => ?_) (fun h => ?_)
  · replace hw := hw.1 h
    refine z_aload_n C dX9_carried_21 rfl 0 rfl ?_
    refine z_iconst C 1 dX9_carried_22 (by decide) ?_
    refine z_callV C (by decide) M_X9_refuse Mv_X9_refuse kw_m_X9_139 ob_X9 (t_X9_refuse hw) rfl rfl (Nat.le_of_ble_eq_true rfl) dX9_carried_23 (z_ki (fun r3 s4 hw => ?_))
    exact z_ireturn C D dX9_carried_26 ⟨_, rfl, hw⟩
  · replace hw := hw.2 h
    refine z_aload_n C dX9_carried_8 rfl 0 rfl ?_
    refine z_iload_n C dX9_carried_9 rfl 2 rfl ?_
    refine z_callV C (by decide) M_X9_isTown Mv_X9_isTown kw_m_X9_146 ob_X9 (t_X9_isTown hw) rfl rfl (Nat.le_of_ble_eq_true rfl) dX9_carried_10 (z_kb (fun r5 s6 hr5 hw => ?_))
    refine z_if_eq C (tgt := 21) dX9_carried_13 (by decide) (fun h => ?_) (fun h => ?_)
    · replace hw := hw.1 h
      refine z_aload_n C dX9_carried_21 rfl 0 rfl ?_
      refine z_iconst C 1 dX9_carried_22 (by decide) ?_
      refine z_callV C (by decide) M_X9_refuse Mv_X9_refuse kw_m_X9_139 ob_X9 (t_X9_refuse hw) rfl rfl (Nat.le_of_ble_eq_true rfl) dX9_carried_23 (z_ki (fun r7 s8 hw => ?_))
      exact z_ireturn C D dX9_carried_26 ⟨_, rfl, hw⟩
    · replace hw := hw.2 h
      refine z_iload_n C dX9_carried_16 rfl 1 rfl ?_
      refine z_iload_n C dX9_carried_17 rfl 2 rfl ?_
      refine z_icmp_ne C (tgt := 27) dX9_carried_18 (by decide) (fun h => ?_) (fun h => ?_)
      · replace hw := hw.1 h
        refine z_aload_n C dX9_carried_27 rfl 0 rfl ?_
        refine z_iconst C 0 dX9_carried_28 (by decide) ?_
        refine p_X9_109 C dX9_carried_29 (z_nms (fun s9 es9 => ?_))
        replace hw := hw s9 es9
        refine z_aload_n C dX9_carried_32 rfl 0 rfl ?_
        refine z_iload_n C dX9_carried_33 rfl 1 rfl ?_
        refine z_callV C (by decide) M_X9_bring Mv_X9_bring kw_m_X9_218 ob_X9 (t_X9_bring hw) rfl rfl (Nat.le_of_ble_eq_true rfl) dX9_carried_34 (z_kl (fun r10 s11 hw => ?_))
        refine z_lstore_n C [(3, .long r10), (0, .ref ((zXE X).1 54 0)), (1, .int a1), (2, .int a2)] dX9_carried_37 rfl (by decide) rfl ?_
        refine z_aload_n C dX9_carried_38 rfl 1 rfl ?_
        refine f_X9_75 C dX9_carried_39 ?_
        refine z_iload_n C dX9_carried_42 rfl 3 rfl ?_
        refine z_iald C za_75 (by decide) (Int32.toNatClampNeg a2) rfl hw.1 dX9_carried_43 ?_
        replace hw := hw.2
        exact z_ireturn C D dX9_carried_44 ⟨_, rfl, hw⟩
      · replace hw := hw.2 h
        refine z_aload_n C dX9_carried_21 rfl 0 rfl ?_
        refine z_iconst C 1 dX9_carried_22 (by decide) ?_
        refine z_callV C (by decide) M_X9_refuse Mv_X9_refuse kw_m_X9_139 ob_X9 (t_X9_refuse hw) rfl rfl (Nat.le_of_ble_eq_true rfl) dX9_carried_23 (z_ki (fun r12 s13 hw => ?_))
        exact z_ireturn C D dX9_carried_26 ⟨_, rfl, hw⟩
set_option maxHeartbeats 4000000 in
set_option maxRecDepth 100000 in
theorem t_X0_faresTogether {l : Launch} {E : zE} {a1 : Int32} {s0 : zS} {Q : Int32 → zS → Prop}  (hw : Wp_X0_faresTogether a1 s0 Q) : zT l 2 E yX0_faresTogether cX0_faresTogether 5 (some .int) [.ref (E.1 28 0), .int a1] s0 (zQi Q) := by
  unfold Wp_X0_faresTogether at hw
  refine z_entry rfl (Nat.le_of_ble_eq_true rfl) rfl ?_
  intro X C D hl hE
  subst hl; subst hE
  have C : zC X cX0_faresTogether RX0 5 2 := C
  refine z_use (hw (fun v2 v4 s0 => zV X 5 [(0, .ref ((zXE X).1 28 0)), (1, .int a1), (2, .long v2), (4, .int v4)] [] s0) (fun v2 v4 s0 hw => ?_)) (fun hw => ?_)
  · show zV X 5 _ _ _
    refine z_iload C dX0_faresTogether_5 3 rfl ?_
    refine z_bipush C 10 dX0_faresTogether_7 (by decide) ?_
    refine z_icmp_ge C (tgt := 35) dX0_faresTogether_9 (by decide) (fun h => ?_) (fun h => ?_)
    · replace hw := hw.1 h
      refine z_lload_n C dX0_faresTogether_35 rfl 2 rfl ?_
      refine z_l2i C dX0_faresTogether_36 ?_
      exact z_ireturn C D dX0_faresTogether_37 ⟨_, rfl, hw⟩
    · replace hw := hw.2 h
      refine z_lload_n C dX0_faresTogether_12 rfl 2 rfl ?_
      refine z_aload_n C dX0_faresTogether_13 rfl 0 rfl ?_
      refine z_iload C dX0_faresTogether_14 3 rfl ?_
      refine z_iload_n C dX0_faresTogether_16 rfl 1 rfl ?_
      refine z_aload_n C dX0_faresTogether_17 rfl 0 rfl ?_
      refine f_X0_27 C dX0_faresTogether_18 ?_
      refine z_iload C dX0_faresTogether_21 3 rfl ?_
      refine z_iald C za_37 (by decide) (Int32.toNatClampNeg v4) rfl hw.1 dX0_faresTogether_23 ?_
      replace hw := hw.2
      refine z_callV C (by decide) M_X0_fareOf Mv_X0_fareOf kw_m_X0_63 ob_X0 (t_X0_fareOf hw) rfl rfl (Nat.le_of_ble_eq_true rfl) dX0_faresTogether_24 (z_kl (fun r1 s2 hw => ?_))
      refine z_ladd C dX0_faresTogether_27 ?_
      refine z_nml (fun y3 ey3 => ?_)
      replace hw := hw y3 ey3
      refine z_lstore_n C [(2, .long y3), (0, .ref ((zXE X).1 28 0)), (1, .int a1), (4, .int v4)] dX0_faresTogether_28 rfl (by decide) rfl ?_
      refine z_iinc C (v4 + 1) [(4, .int (v4 + 1)), (2, .long y3), (0, .ref ((zXE X).1 28 0)), (1, .int a1)] dX0_faresTogether_29 3 rfl rfl (by decide) rfl ?_
      refine z_goto C (tgt := 5) dX0_faresTogether_32 (by decide) ?_
      exact z_lv [2, 3, 1, 0] rfl hw
  refine z_lconst C 0 dX0_faresTogether_0 (by decide) ?_
  refine z_lstore_n C [(2, .long (0 : Int64)), (0, .ref ((zXE X).1 28 0)), (1, .int a1)] dX0_faresTogether_1 rfl (by decide) rfl ?_
  refine z_iconst C 0 dX0_faresTogether_2 (by decide) ?_
  refine z_istore C [(4, .int (0 : Int32)), (2, .long (0 : Int64)), (0, .ref ((zXE X).1 28 0)), (1, .int a1)] dX0_faresTogether_3 (by decide) rfl ?_
  exact z_lv [2, 3, 1, 0] rfl hw
set_option maxHeartbeats 4000000 in
set_option maxRecDepth 100000 in
theorem t_X8_fares {l : Launch} {E : zE} {a1 : Int32} {s0 : zS} {Q : Int32 → zS → Prop}  (hw : Wp_X8_fares a1 s0 Q) : zT l 4 E yX8_fares cX8_fares 2 (some .int) [.ref (E.1 0 0), .int a1] s0 (zQi Q) := by
  unfold Wp_X8_fares at hw
  refine z_entry rfl (Nat.le_of_ble_eq_true rfl) rfl ?_
  intro X C D hl hE
  subst hl; subst hE
  have C : zC X cX8_fares RX8 2 4 := C
  refine z_aload_n C dX8_fares_0 rfl 0 rfl ?_
  refine z_aload_n C dX8_fares_1 rfl 0 rfl ?_
  refine z_iload_n C dX8_fares_2 rfl 1 rfl ?_
  refine z_callV C (by decide) M_X8_isTown Mv_X8_isTown kw_m_X8_167 ob_X8 (t_X8_isTown hw) rfl rfl (Nat.le_of_ble_eq_true rfl) dX8_fares_3 (z_kb (fun r1 s2 hr1 hw => ?_))
  refine z_callS C (by decide) M_X8_wrongUnless Ms_X8_wrongUnless kw_m_X8_89 (t_X8_wrongUnless hw) rfl rfl (Nat.le_of_ble_eq_true rfl) dX8_fares_6 (z_ki (fun r3 s4 hw => ?_))
  refine p_X8_67 C dX8_fares_9 (z_nms (fun s5 es5 => ?_))
  replace hw := hw s5 es5
  refine z_aload_n C dX8_fares_12 rfl 0 rfl ?_
  refine f_X8_67 C dX8_fares_13 ?_
  refine z_if_eq C (tgt := 21) dX8_fares_16 (by decide) (fun h => ?_) (fun h => ?_)
  · replace hw := hw.1 h
    refine z_aload_n C dX8_fares_21 rfl 0 rfl ?_
    refine f_X8_49 C dX8_fares_22 ?_
    refine z_iload_n C dX8_fares_25 rfl 1 rfl ?_
    refine z_callV C (by decide) M_X0_plan Mv_X0_plan kw_m_X8_224 ob_X0 (t_X0_plan hw) rfl rfl (Nat.le_of_ble_eq_true rfl) dX8_fares_26 (z_kv (fun s7 hw => ?_))
    refine z_aload_n C dX8_fares_29 rfl 0 rfl ?_
    refine f_X8_49 C dX8_fares_30 ?_
    refine z_iload_n C dX8_fares_33 rfl 1 rfl ?_
    refine z_callV C (by decide) M_X0_faresTogether Mv_X0_faresTogether kw_m_X8_233 ob_X0 (t_X0_faresTogether hw) rfl rfl (Nat.le_of_ble_eq_true rfl) dX8_fares_34 (z_ki (fun r8 s9 hw => ?_))
    exact z_ireturn C D dX8_fares_37 ⟨_, rfl, hw⟩
  · replace hw := hw.2 h
    refine z_iconst C (-1) dX8_fares_19 (by decide) ?_
    exact z_ireturn C D dX8_fares_20 ⟨_, rfl, hw⟩
set_option maxHeartbeats 4000000 in
set_option maxRecDepth 100000 in
theorem t_X9_fares {l : Launch} {E : zE} {a1 : Int32} {s0 : zS} {Q : Int32 → zS → Prop}  (hw : Wp_X9_fares a1 s0 Q) : zT l 4 E yX9_fares cX9_fares 6 (some .int) [.ref (E.1 54 0), .int a1] s0 (zQi Q) := by
  unfold Wp_X9_fares at hw
  refine z_entry rfl (Nat.le_of_ble_eq_true rfl) rfl ?_
  intro X C D hl hE
  subst hl; subst hE
  have C : zC X cX9_fares RX9 6 4 := C
  refine z_use (hw (fun v4 v5 s0 => zV X 31 [(0, .ref ((zXE X).1 54 0)), (1, .int a1), (4, .int v4), (5, .int v5)] [] s0) (fun v4 v5 s0 hw => ?_)) (fun hw => ?_)
  · show zV X 31 _ _ _
    refine z_iload C dX9_fares_31 3 rfl ?_
    refine z_aload_n C dX9_fares_33 rfl 0 rfl ?_
    refine f_X9_133 C dX9_fares_34 ?_
    refine z_icmp_ge C (tgt := 78) dX9_fares_37 (by decide) (fun h => ?_) (fun h => ?_)
    · replace hw := hw.1 h
      refine z_iload C dX9_fares_78 2 rfl ?_
      exact z_ireturn C D dX9_fares_80 ⟨_, rfl, hw⟩
    · replace hw := hw.2 h
      refine z_iload C dX9_fares_40 2 rfl ?_
      refine z_aload_n C dX9_fares_42 rfl 0 rfl ?_
      refine f_X9_75 C dX9_fares_43 ?_
      refine z_iload C dX9_fares_46 3 rfl ?_
      refine z_iald C za_75 (by decide) (Int32.toNatClampNeg v5) rfl hw.1 dX9_fares_48 ?_
      replace hw := hw.2
      refine z_bipush C 6 dX9_fares_49 (by decide) ?_
      refine z_iadd C dX9_fares_51 ?_
      refine z_iconst C 1 dX9_fares_52 (by decide) ?_
      refine z_isub C dX9_fares_53 ?_
      refine z_bipush C 6 dX9_fares_54 (by decide) ?_
      refine z_idiv C dX9_fares_56 (by decide) ?_
      refine z_aload_n C dX9_fares_57 rfl 0 rfl ?_
      refine f_X9_30 C dX9_fares_58 ?_
      refine z_iload_n C dX9_fares_61 rfl 1 rfl ?_
      refine z_iload C dX9_fares_62 3 rfl ?_
      refine z_callS C (by decide) M_X9_at Ms_X9_at kw_m_X9_143 (t_X9_at hw) rfl rfl (Nat.le_of_ble_eq_true rfl) dX9_fares_64 (z_ki (fun r8 s9 hw => ?_))
      refine z_iald C za_60 (by decide) (Int32.toNatClampNeg r8) rfl hw.1 dX9_fares_67 ?_
      replace hw := hw.2
      refine z_imul C dX9_fares_68 ?_
      refine z_iadd C dX9_fares_69 ?_
      refine z_nmi (fun x10 ex10 => ?_)
      replace hw := hw x10 ex10
      refine z_istore C [(4, .int x10), (0, .ref ((zXE X).1 54 0)), (1, .int a1), (5, .int v5)] dX9_fares_70 (by decide) rfl ?_
      refine z_iinc C (v5 + 1) [(5, .int (v5 + 1)), (4, .int x10), (0, .ref ((zXE X).1 54 0)), (1, .int a1)] dX9_fares_72 3 rfl rfl (by decide) rfl ?_
      refine z_goto C (tgt := 31) dX9_fares_75 (by decide) ?_
      exact z_lv [2, 3, 1, 0] rfl hw
  refine z_aload_n C dX9_fares_0 rfl 0 rfl ?_
  refine z_iload_n C dX9_fares_1 rfl 1 rfl ?_
  refine z_callV C (by decide) M_X9_isTown Mv_X9_isTown kw_m_X9_146 ob_X9 (t_X9_isTown hw) rfl rfl (Nat.le_of_ble_eq_true rfl) dX9_fares_2 (z_kb (fun r1 s2 hr1 hw => ?_))
  refine z_if_ne C (tgt := 14) dX9_fares_5 (by decide) (fun h => ?_) (fun h => ?_)
  · replace hw := hw.1 h
    refine z_aload_n C dX9_fares_14 rfl 0 rfl ?_
    refine z_iconst C 0 dX9_fares_15 (by decide) ?_
    refine p_X9_109 C dX9_fares_16 (z_nms (fun s3 es3 => ?_))
    replace hw := hw s3 es3
    refine z_aload_n C dX9_fares_19 rfl 0 rfl ?_
    refine z_iload_n C dX9_fares_20 rfl 1 rfl ?_
    refine z_callV C (by decide) M_X9_bring Mv_X9_bring kw_m_X9_218 ob_X9 (t_X9_bring hw) rfl rfl (Nat.le_of_ble_eq_true rfl) dX9_fares_21 (z_kl (fun r4 s5 hw => ?_))
    refine z_lstore_n C [(2, .long r4), (0, .ref ((zXE X).1 54 0)), (1, .int a1)] dX9_fares_24 rfl (by decide) rfl ?_
    refine z_iconst C 0 dX9_fares_25 (by decide) ?_
    refine z_istore C [(4, .int (0 : Int32)), (2, .long r4), (0, .ref ((zXE X).1 54 0)), (1, .int a1)] dX9_fares_26 (by decide) rfl ?_
    refine z_iconst C 0 dX9_fares_28 (by decide) ?_
    refine z_istore C [(5, .int (0 : Int32)), (4, .int (0 : Int32)), (2, .long r4), (0, .ref ((zXE X).1 54 0)), (1, .int a1)] dX9_fares_29 (by decide) rfl ?_
    exact z_lv [3, 4, 1, 0] rfl hw
  · replace hw := hw.2 h
    refine z_aload_n C dX9_fares_8 rfl 0 rfl ?_
    refine z_iconst C 1 dX9_fares_9 (by decide) ?_
    refine z_callV C (by decide) M_X9_refuse Mv_X9_refuse kw_m_X9_139 ob_X9 (t_X9_refuse hw) rfl rfl (Nat.le_of_ble_eq_true rfl) dX9_fares_10 (z_ki (fun r6 s7 hw => ?_))
    exact z_ireturn C D dX9_fares_13 ⟨_, rfl, hw⟩
set_option maxHeartbeats 4000000 in
set_option maxRecDepth 100000 in
theorem t_X1_waitsAtHome {l : Launch} {E : zE} {a1 : Int32} {a2 : Int32} {s0 : zS} {Q : Int32 → zS → Prop}  (hw : Wp_X1_waitsAtHome a1 a2 s0 Q) : zT l 1 E yX1_waitsAtHome cX1_waitsAtHome 3 (some .boolean) [.ref (E.1 14 0), .int a1, .int a2] s0 (zQb Q) := by
  unfold Wp_X1_waitsAtHome at hw
  refine z_entry rfl (Nat.le_of_ble_eq_true rfl) rfl ?_
  intro X C D hl hE
  subst hl; subst hE
  have C : zC X cX1_waitsAtHome RX1 3 1 := C
  refine z_aload_n C dX1_waitsAtHome_0 rfl 0 rfl ?_
  refine f_X1_15 C dX1_waitsAtHome_1 ?_
  refine z_iload_n C dX1_waitsAtHome_4 rfl 1 rfl ?_
  refine z_iald C za_15 (by decide) (Int32.toNatClampNeg a1) rfl hw.1 dX1_waitsAtHome_5 ?_
  replace hw := hw.2
  refine z_iload_n C dX1_waitsAtHome_6 rfl 2 rfl ?_
  refine z_icmp_ne C (tgt := 24) dX1_waitsAtHome_7 (by decide) (fun h => ?_) (fun h => ?_)
  · replace hw := hw.1 h
    refine z_iconst C 0 dX1_waitsAtHome_24 (by decide) ?_
    exact z_zreturn C D dX1_waitsAtHome_25 (Or.inl rfl) ⟨_, rfl, (Or.inl rfl), hw⟩
  · replace hw := hw.2 h
    refine z_aload_n C dX1_waitsAtHome_10 rfl 0 rfl ?_
    refine f_X1_19 C dX1_waitsAtHome_11 ?_
    refine z_iload_n C dX1_waitsAtHome_14 rfl 1 rfl ?_
    refine z_iald C za_16 (by decide) (Int32.toNatClampNeg a1) rfl hw.1 dX1_waitsAtHome_15 ?_
    replace hw := hw.2
    refine z_iload_n C dX1_waitsAtHome_16 rfl 2 rfl ?_
    refine z_icmp_ne C (tgt := 24) dX1_waitsAtHome_17 (by decide) (fun h => ?_) (fun h => ?_)
    · replace hw := hw.1 h
      refine z_iconst C 0 dX1_waitsAtHome_24 (by decide) ?_
      exact z_zreturn C D dX1_waitsAtHome_25 (Or.inl rfl) ⟨_, rfl, (Or.inl rfl), hw⟩
    · replace hw := hw.2 h
      refine z_iconst C 1 dX1_waitsAtHome_20 (by decide) ?_
      refine z_goto C (tgt := 25) dX1_waitsAtHome_21 (by decide) ?_
      exact z_zreturn C D dX1_waitsAtHome_25 (Or.inr rfl) ⟨_, rfl, (Or.inr rfl), hw⟩
set_option maxHeartbeats 4000000 in
set_option maxRecDepth 100000 in
theorem t_X0_carryOut {l : Launch} {E : zE} {a1 : Int32} {s0 : zS} {Q : Int32 → zS → Prop}  (hw : Wp_X0_carryOut a1 s0 Q) : zT l 2 E yX0_carryOut cX0_carryOut 6 (some .int) [.ref (E.1 28 0), .int a1] s0 (zQi Q) := by
  unfold Wp_X0_carryOut at hw
  refine z_entry rfl (Nat.le_of_ble_eq_true rfl) rfl ?_
  intro X C D hl hE
  subst hl; subst hE
  have C : zC X cX0_carryOut RX0 6 2 := C
  refine z_use (hw (fun v2 v3 v4 s0 => zV X 7 [(0, .ref ((zXE X).1 28 0)), (1, .int a1), (2, .int v2), (3, .int v3), (4, .int v4)] [] s0) (fun v2 v3 v4 v5 s0 => zV X 23 [(0, .ref ((zXE X).1 28 0)), (1, .int a1), (2, .int v2), (3, .int v3), (4, .int v4), (5, .int v5)] [] s0) (fun v2 v3 v4 s0 hw => ?_) (fun v2 v3 v4 v5 s0 hw => ?_)) (fun hw => ?_)
  · show zV X 7 _ _ _
    refine z_iload C dX0_carryOut_7 4 rfl ?_
    refine z_bipush C 10 dX0_carryOut_9 (by decide) ?_
    refine z_icmp_ge C (tgt := 90) dX0_carryOut_11 (by decide) (fun h => ?_) (fun h => ?_)
    · replace hw := hw.1 h
      refine z_iload_n C dX0_carryOut_90 rfl 3 rfl ?_
      exact z_ireturn C D dX0_carryOut_91 ⟨_, rfl, hw⟩
    · replace hw := hw.2 h
      refine z_aload_n C dX0_carryOut_14 rfl 0 rfl ?_
      refine f_X0_27 C dX0_carryOut_15 ?_
      refine z_iload C dX0_carryOut_18 4 rfl ?_
      refine z_iald C za_37 (by decide) (Int32.toNatClampNeg v4) rfl hw.1 dX0_carryOut_20 ?_
      replace hw := hw.2
      refine z_nmi (fun x1 ex1 => ?_)
      replace hw := hw x1 ex1
      refine z_istore C [(5, .int x1), (0, .ref ((zXE X).1 28 0)), (1, .int a1), (2, .int v2), (3, .int v3), (4, .int v4)] dX0_carryOut_21 (by decide) rfl ?_
      exact z_lv [1, 2, 3, 4, 5, 0] rfl hw
  · show zV X 23 _ _ _
    refine z_iload C dX0_carryOut_23 5 rfl ?_
    refine z_if_le C (tgt := 84) dX0_carryOut_25 (by decide) (fun h => ?_) (fun h => ?_)
    · replace hw := hw.1 h
      refine z_iinc C (v4 + 1) [(4, .int (v4 + 1)), (0, .ref ((zXE X).1 28 0)), (1, .int a1), (2, .int v2), (3, .int v3), (5, .int v5)] dX0_carryOut_84 4 rfl rfl (by decide) rfl ?_
      refine z_goto C (tgt := 7) dX0_carryOut_87 (by decide) ?_
      exact z_lv [1, 2, 3, 4, 0] rfl hw
    · replace hw := hw.2 h
      refine z_iload_n C dX0_carryOut_28 rfl 2 rfl ?_
      refine z_aload_n C dX0_carryOut_29 rfl 0 rfl ?_
      refine f_X0_35 C dX0_carryOut_30 ?_
      refine f_X0_71 C dX0_carryOut_33 ?_
      refine z_icmp_ge C (tgt := 84) dX0_carryOut_36 (by decide) (fun h => ?_) (fun h => ?_)
      · replace hw := hw.1 h
        refine z_iinc C (v4 + 1) [(4, .int (v4 + 1)), (0, .ref ((zXE X).1 28 0)), (1, .int a1), (2, .int v2), (3, .int v3), (5, .int v5)] dX0_carryOut_84 4 rfl rfl (by decide) rfl ?_
        refine z_goto C (tgt := 7) dX0_carryOut_87 (by decide) ?_
        exact z_lv [1, 2, 3, 4, 0] rfl hw
      · replace hw := hw.2 h
        refine z_aload_n C dX0_carryOut_39 rfl 0 rfl ?_
        refine f_X0_35 C dX0_carryOut_40 ?_
        refine z_iload_n C dX0_carryOut_43 rfl 2 rfl ?_
        refine z_iload_n C dX0_carryOut_44 rfl 1 rfl ?_
        refine z_callV C (by decide) M_X1_waitsAtHome Mv_X1_waitsAtHome kw_m_X0_75 ob_X1 (t_X1_waitsAtHome hw) rfl rfl (Nat.le_of_ble_eq_true rfl) dX0_carryOut_45 (z_kb (fun r2 s3 hr2 hw => ?_))
        refine z_if_ne C (tgt := 54) dX0_carryOut_48 (by decide) (fun h => ?_) (fun h => ?_)
        · replace hw := hw.1 h
          refine z_aload_n C dX0_carryOut_54 rfl 0 rfl ?_
          refine f_X0_35 C dX0_carryOut_55 ?_
          refine z_iload_n C dX0_carryOut_58 rfl 2 rfl ?_
          refine z_callV C (by decide) M_X1_leave Mv_X1_leave kw_m_X0_79 ob_X1 (t_X1_leave hw) rfl rfl (Nat.le_of_ble_eq_true rfl) dX0_carryOut_59 (z_kv (fun s5 hw => ?_))
          refine z_aload_n C dX0_carryOut_62 rfl 0 rfl ?_
          refine f_X0_35 C dX0_carryOut_63 ?_
          refine z_iload_n C dX0_carryOut_66 rfl 2 rfl ?_
          refine z_iload C dX0_carryOut_67 4 rfl ?_
          refine z_callV C (by decide) M_X1_settle Mv_X1_settle kw_m_X0_83 ob_X1 (t_X1_settle hw) rfl rfl (Nat.le_of_ble_eq_true rfl) dX0_carryOut_69 (z_kv (fun s7 hw => ?_))
          refine z_iinc C (v5 + (-1)) [(5, .int (v5 + (-1))), (0, .ref ((zXE X).1 28 0)), (1, .int a1), (2, .int v2), (3, .int v3), (4, .int v4)] dX0_carryOut_72 5 rfl rfl (by decide) rfl ?_
          refine z_iinc C (v3 + 1) [(3, .int (v3 + 1)), (5, .int (v5 + (-1))), (0, .ref ((zXE X).1 28 0)), (1, .int a1), (2, .int v2), (4, .int v4)] dX0_carryOut_75 4 rfl rfl (by decide) rfl ?_
          refine z_iinc C (v2 + 1) [(2, .int (v2 + 1)), (3, .int (v3 + 1)), (5, .int (v5 + (-1))), (0, .ref ((zXE X).1 28 0)), (1, .int a1), (4, .int v4)] dX0_carryOut_78 4 rfl rfl (by decide) rfl ?_
          refine z_goto C (tgt := 23) dX0_carryOut_81 (by decide) ?_
          exact z_lv [3, 4, 0, 1, 5, 2] rfl hw
        · replace hw := hw.2 h
          refine z_goto C (tgt := 78) dX0_carryOut_51 (by decide) ?_
          refine z_iinc C (v2 + 1) [(2, .int (v2 + 1)), (0, .ref ((zXE X).1 28 0)), (1, .int a1), (3, .int v3), (4, .int v4), (5, .int v5)] dX0_carryOut_78 2 rfl rfl (by decide) rfl ?_
          refine z_goto C (tgt := 23) dX0_carryOut_81 (by decide) ?_
          exact z_lv [1, 2, 0, 3, 4, 5] rfl hw
  refine z_iconst C 0 dX0_carryOut_0 (by decide) ?_
  refine z_istore_n C [(2, .int (0 : Int32)), (0, .ref ((zXE X).1 28 0)), (1, .int a1)] dX0_carryOut_1 rfl (by decide) rfl ?_
  refine z_iconst C 0 dX0_carryOut_2 (by decide) ?_
  refine z_istore_n C [(3, .int (0 : Int32)), (2, .int (0 : Int32)), (0, .ref ((zXE X).1 28 0)), (1, .int a1)] dX0_carryOut_3 rfl (by decide) rfl ?_
  refine z_iconst C 0 dX0_carryOut_4 (by decide) ?_
  refine z_istore C [(4, .int (0 : Int32)), (3, .int (0 : Int32)), (2, .int (0 : Int32)), (0, .ref ((zXE X).1 28 0)), (1, .int a1)] dX0_carryOut_5 (by decide) rfl ?_
  exact z_lv [3, 4, 2, 1, 0] rfl hw
set_option maxHeartbeats 4000000 in
set_option maxRecDepth 100000 in
theorem t_X8_send {l : Launch} {E : zE} {a1 : Int32} {s0 : zS} {Q : Int32 → zS → Prop}  (hw : Wp_X8_send a1 s0 Q) : zT l 4 E yX8_send cX8_send 2 (some .int) [.ref (E.1 0 0), .int a1] s0 (zQi Q) := by
  unfold Wp_X8_send at hw
  refine z_entry rfl (Nat.le_of_ble_eq_true rfl) rfl ?_
  intro X C D hl hE
  subst hl; subst hE
  have C : zC X cX8_send RX8 2 4 := C
  refine z_aload_n C dX8_send_0 rfl 0 rfl ?_
  refine z_aload_n C dX8_send_1 rfl 0 rfl ?_
  refine z_iload_n C dX8_send_2 rfl 1 rfl ?_
  refine z_callV C (by decide) M_X8_isTown Mv_X8_isTown kw_m_X8_167 ob_X8 (t_X8_isTown hw) rfl rfl (Nat.le_of_ble_eq_true rfl) dX8_send_3 (z_kb (fun r1 s2 hr1 hw => ?_))
  refine z_callS C (by decide) M_X8_wrongUnless Ms_X8_wrongUnless kw_m_X8_89 (t_X8_wrongUnless hw) rfl rfl (Nat.le_of_ble_eq_true rfl) dX8_send_6 (z_ki (fun r3 s4 hw => ?_))
  refine p_X8_67 C dX8_send_9 (z_nms (fun s5 es5 => ?_))
  replace hw := hw s5 es5
  refine z_aload_n C dX8_send_12 rfl 0 rfl ?_
  refine f_X8_67 C dX8_send_13 ?_
  refine z_if_eq C (tgt := 21) dX8_send_16 (by decide) (fun h => ?_) (fun h => ?_)
  · replace hw := hw.1 h
    refine z_aload_n C dX8_send_21 rfl 0 rfl ?_
    refine f_X8_49 C dX8_send_22 ?_
    refine z_iload_n C dX8_send_25 rfl 1 rfl ?_
    refine z_callV C (by decide) M_X0_plan Mv_X0_plan kw_m_X8_224 ob_X0 (t_X0_plan hw) rfl rfl (Nat.le_of_ble_eq_true rfl) dX8_send_26 (z_kv (fun s7 hw => ?_))
    refine z_aload_n C dX8_send_29 rfl 0 rfl ?_
    refine f_X8_49 C dX8_send_30 ?_
    refine z_iload_n C dX8_send_33 rfl 1 rfl ?_
    refine z_callV C (by decide) M_X0_carryOut Mv_X0_carryOut kw_m_X8_236 ob_X0 (t_X0_carryOut hw) rfl rfl (Nat.le_of_ble_eq_true rfl) dX8_send_34 (z_ki (fun r8 s9 hw => ?_))
    exact z_ireturn C D dX8_send_37 ⟨_, rfl, hw⟩
  · replace hw := hw.2 h
    refine z_iconst C (-1) dX8_send_19 (by decide) ?_
    exact z_ireturn C D dX8_send_20 ⟨_, rfl, hw⟩
set_option maxHeartbeats 4000000 in
set_option maxRecDepth 100000 in
theorem t_X9_send {l : Launch} {E : zE} {a1 : Int32} {s0 : zS} {Q : Int32 → zS → Prop}  (hw : Wp_X9_send a1 s0 Q) : zT l 4 E yX9_send cX9_send 7 (some .int) [.ref (E.1 54 0), .int a1] s0 (zQi Q) := by
  unfold Wp_X9_send at hw
  refine z_entry rfl (Nat.le_of_ble_eq_true rfl) rfl ?_
  intro X C D hl hE
  subst hl; subst hE
  have C : zC X cX9_send RX9 7 4 := C
  refine z_use (hw (fun v4 v5 s0 => zV X 31 [(0, .ref ((zXE X).1 54 0)), (1, .int a1), (4, .int v4), (5, .int v5)] [] s0) (fun v4 v5 v6 s0 => zV X 43 [(0, .ref ((zXE X).1 54 0)), (1, .int a1), (4, .int v4), (5, .int v5), (6, .int v6)] [] s0) (fun v4 v5 s0 hw => ?_) (fun v4 v5 v6 s0 hw => ?_)) (fun hw => ?_)
  · show zV X 31 _ _ _
    refine z_iload C dX9_send_31 3 rfl ?_
    refine z_aload_n C dX9_send_33 rfl 0 rfl ?_
    refine f_X9_133 C dX9_send_34 ?_
    refine z_icmp_ge C (tgt := 132) dX9_send_37 (by decide) (fun h => ?_) (fun h => ?_)
    · replace hw := hw.1 h
      refine z_iload C dX9_send_132 2 rfl ?_
      exact z_ireturn C D dX9_send_134 ⟨_, rfl, hw⟩
    · replace hw := hw.2 h
      refine z_iconst C 0 dX9_send_40 (by decide) ?_
      refine z_istore C [(6, .int (0 : Int32)), (0, .ref ((zXE X).1 54 0)), (1, .int a1), (4, .int v4), (5, .int v5)] dX9_send_41 (by decide) rfl ?_
      exact z_lv [1, 2, 3, 4, 0] rfl hw
  · show zV X 43 _ _ _
    refine z_iload C dX9_send_43 4 rfl ?_
    refine z_aload_n C dX9_send_45 rfl 0 rfl ?_
    refine f_X9_136 C dX9_send_46 ?_
    refine z_icmp_ge C (tgt := 126) dX9_send_49 (by decide) (fun h => ?_) (fun h => ?_)
    · replace hw := hw.1 h
      refine z_iinc C (v5 + 1) [(5, .int (v5 + 1)), (0, .ref ((zXE X).1 54 0)), (1, .int a1), (4, .int v4), (6, .int v6)] dX9_send_126 3 rfl rfl (by decide) rfl ?_
      refine z_goto C (tgt := 31) dX9_send_129 (by decide) ?_
      exact z_lv [1, 2, 3, 0] rfl hw
    · replace hw := hw.2 h
      refine z_aload_n C dX9_send_52 rfl 0 rfl ?_
      refine f_X9_75 C dX9_send_53 ?_
      refine z_iload C dX9_send_56 3 rfl ?_
      refine z_iald C za_75 (by decide) (Int32.toNatClampNeg v5) rfl hw.1 dX9_send_58 ?_
      replace hw := hw.2
      refine z_if_le C (tgt := 126) dX9_send_59 (by decide) (fun h => ?_) (fun h => ?_)
      · replace hw := hw.1 h
        refine z_iinc C (v5 + 1) [(5, .int (v5 + 1)), (0, .ref ((zXE X).1 54 0)), (1, .int a1), (4, .int v4), (6, .int v6)] dX9_send_126 3 rfl rfl (by decide) rfl ?_
        refine z_goto C (tgt := 31) dX9_send_129 (by decide) ?_
        exact z_lv [1, 2, 3, 0] rfl hw
      · replace hw := hw.2 h
        refine z_aload_n C dX9_send_62 rfl 0 rfl ?_
        refine f_X9_39 C dX9_send_63 ?_
        refine z_iload C dX9_send_66 4 rfl ?_
        refine z_iald C za_63 (by decide) (Int32.toNatClampNeg v6) rfl hw.1 dX9_send_68 ?_
        replace hw := hw.2
        refine z_iload_n C dX9_send_69 rfl 1 rfl ?_
        refine z_icmp_ne C (tgt := 120) dX9_send_70 (by decide) (fun h => ?_) (fun h => ?_)
        · replace hw := hw.1 h
          refine z_iinc C (v6 + 1) [(6, .int (v6 + 1)), (0, .ref ((zXE X).1 54 0)), (1, .int a1), (4, .int v4), (5, .int v5)] dX9_send_120 4 rfl rfl (by decide) rfl ?_
          refine z_goto C (tgt := 43) dX9_send_123 (by decide) ?_
          exact z_lv [1, 2, 3, 4, 0] rfl hw
        · replace hw := hw.2 h
          refine z_aload_n C dX9_send_73 rfl 0 rfl ?_
          refine f_X9_45 C dX9_send_74 ?_
          refine z_iload C dX9_send_77 4 rfl ?_
          refine z_iald C za_65 (by decide) (Int32.toNatClampNeg v6) rfl hw.1 dX9_send_79 ?_
          replace hw := hw.2
          refine z_if_ne C (tgt := 120) dX9_send_80 (by decide) (fun h => ?_) (fun h => ?_)
          · replace hw := hw.1 h
            refine z_iinc C (v6 + 1) [(6, .int (v6 + 1)), (0, .ref ((zXE X).1 54 0)), (1, .int a1), (4, .int v4), (5, .int v5)] dX9_send_120 4 rfl rfl (by decide) rfl ?_
            refine z_goto C (tgt := 43) dX9_send_123 (by decide) ?_
            exact z_lv [1, 2, 3, 4, 0] rfl hw
          · replace hw := hw.2 h
            refine z_aload_n C dX9_send_83 rfl 0 rfl ?_
            refine f_X9_42 C dX9_send_84 ?_
            refine z_iload C dX9_send_87 4 rfl ?_
            refine z_iald C za_64 (by decide) (Int32.toNatClampNeg v6) rfl hw.1 dX9_send_89 ?_
            replace hw := hw.2
            refine z_iload_n C dX9_send_90 rfl 1 rfl ?_
            refine z_icmp_eq C (tgt := 97) dX9_send_91 (by decide) (fun h => ?_) (fun h => ?_)
            · replace hw := hw.1 h
              refine z_aload_n C dX9_send_97 rfl 0 rfl ?_
              refine f_X9_42 C dX9_send_98 ?_
              refine z_iload C dX9_send_101 4 rfl ?_
              refine z_iload C dX9_send_103 3 rfl ?_
              refine z_iast C za_64 (by decide) (Int32.toNatClampNeg v6) rfl hw.1 dX9_send_105 (z_nms (fun s8 es8 => ?_))
              replace hw := hw.2
              replace hw := hw s8 es8
              refine z_aload_n C dX9_send_106 rfl 0 rfl ?_
              refine f_X9_75 C dX9_send_107 ?_
              refine z_iload C dX9_send_110 3 rfl ?_
              refine z_dup2_11 C dX9_send_112 rfl rfl ?_
              refine z_iald C za_75 (by decide) (Int32.toNatClampNeg v5) rfl hw.1 dX9_send_113 ?_
              replace hw := hw.2
              refine z_iconst C 1 dX9_send_114 (by decide) ?_
              refine z_isub C dX9_send_115 ?_
              refine z_iast C za_75 (by decide) (Int32.toNatClampNeg v5) rfl hw.1 dX9_send_116 (z_nms (fun s9 es9 => ?_))
              replace hw := hw.2
              replace hw := hw s9 es9
              refine z_iinc C (v4 + 1) [(4, .int (v4 + 1)), (0, .ref ((zXE X).1 54 0)), (1, .int a1), (5, .int v5), (6, .int v6)] dX9_send_117 2 rfl rfl (by decide) rfl ?_
              refine z_iinc C (v6 + 1) [(6, .int (v6 + 1)), (4, .int (v4 + 1)), (0, .ref ((zXE X).1 54 0)), (1, .int a1), (5, .int v5)] dX9_send_120 4 rfl rfl (by decide) rfl ?_
              refine z_goto C (tgt := 43) dX9_send_123 (by decide) ?_
              exact z_lv [2, 3, 1, 4, 0] rfl hw
            · replace hw := hw.2 h
              refine z_goto C (tgt := 120) dX9_send_94 (by decide) ?_
              refine z_iinc C (v6 + 1) [(6, .int (v6 + 1)), (0, .ref ((zXE X).1 54 0)), (1, .int a1), (4, .int v4), (5, .int v5)] dX9_send_120 4 rfl rfl (by decide) rfl ?_
              refine z_goto C (tgt := 43) dX9_send_123 (by decide) ?_
              exact z_lv [1, 2, 3, 4, 0] rfl hw
  refine z_aload_n C dX9_send_0 rfl 0 rfl ?_
  refine z_iload_n C dX9_send_1 rfl 1 rfl ?_
  refine z_callV C (by decide) M_X9_isTown Mv_X9_isTown kw_m_X9_146 ob_X9 (t_X9_isTown hw) rfl rfl (Nat.le_of_ble_eq_true rfl) dX9_send_2 (z_kb (fun r1 s2 hr1 hw => ?_))
  refine z_if_ne C (tgt := 14) dX9_send_5 (by decide) (fun h => ?_) (fun h => ?_)
  · replace hw := hw.1 h
    refine z_aload_n C dX9_send_14 rfl 0 rfl ?_
    refine z_iconst C 0 dX9_send_15 (by decide) ?_
    refine p_X9_109 C dX9_send_16 (z_nms (fun s3 es3 => ?_))
    replace hw := hw s3 es3
    refine z_aload_n C dX9_send_19 rfl 0 rfl ?_
    refine z_iload_n C dX9_send_20 rfl 1 rfl ?_
    refine z_callV C (by decide) M_X9_bring Mv_X9_bring kw_m_X9_218 ob_X9 (t_X9_bring hw) rfl rfl (Nat.le_of_ble_eq_true rfl) dX9_send_21 (z_kl (fun r4 s5 hw => ?_))
    refine z_lstore_n C [(2, .long r4), (0, .ref ((zXE X).1 54 0)), (1, .int a1)] dX9_send_24 rfl (by decide) rfl ?_
    refine z_iconst C 0 dX9_send_25 (by decide) ?_
    refine z_istore C [(4, .int (0 : Int32)), (2, .long r4), (0, .ref ((zXE X).1 54 0)), (1, .int a1)] dX9_send_26 (by decide) rfl ?_
    refine z_iconst C 0 dX9_send_28 (by decide) ?_
    refine z_istore C [(5, .int (0 : Int32)), (4, .int (0 : Int32)), (2, .long r4), (0, .ref ((zXE X).1 54 0)), (1, .int a1)] dX9_send_29 (by decide) rfl ?_
    exact z_lv [3, 4, 1, 0] rfl hw
  · replace hw := hw.2 h
    refine z_aload_n C dX9_send_8 rfl 0 rfl ?_
    refine z_iconst C 1 dX9_send_9 (by decide) ?_
    refine z_callV C (by decide) M_X9_refuse Mv_X9_refuse kw_m_X9_139 ob_X9 (t_X9_refuse hw) rfl rfl (Nat.le_of_ble_eq_true rfl) dX9_send_10 (z_ki (fun r6 s7 hw => ?_))
    exact z_ireturn C D dX9_send_13 ⟨_, rfl, hw⟩
set_option maxHeartbeats 4000000 in
set_option maxRecDepth 100000 in
theorem t_X8_isMinute {l : Launch} {E : zE} {a0 : Int32} {s0 : zS} {Q : Int32 → zS → Prop}  (hw : Wp_X8_isMinute a0 s0 Q) : zT l 2 E yX8_isMinute cX8_isMinute 1 (some .boolean) [.int a0] s0 (zQb Q) := by
  unfold Wp_X8_isMinute at hw
  refine z_entry rfl (Nat.le_of_ble_eq_true rfl) rfl ?_
  intro X C D hl hE
  subst hl; subst hE
  have C : zC X cX8_isMinute RX8 1 2 := C
  refine z_iload_n C dX8_isMinute_0 rfl 0 rfl ?_
  refine z_iconst C 0 dX8_isMinute_1 (by decide) ?_
  refine z_ldc_w C (v := 100000) kw_c_X8_344 dX8_isMinute_2 ?_
  refine z_callS C (by decide) M_X8_within Ms_X8_within kw_m_X8_85 (t_X8_within hw) rfl rfl (Nat.le_of_ble_eq_true rfl) dX8_isMinute_5 (z_kb (fun r1 s2 hr1 hw => ?_))
  exact z_zreturn C D dX8_isMinute_8 hr1 ⟨_, rfl, hr1, hw⟩
set_option maxHeartbeats 4000000 in
set_option maxRecDepth 100000 in
theorem t_X7_beginsWithBytes {l : Launch} {E : zE} {a1 : Int32} {a2 : Int32} {s0 : zS} {Q : Int32 → zS → Prop}  (hw : Wp_X7_beginsWithBytes a1 a2 s0 Q) : zT l 1 E yX7_beginsWithBytes cX7_beginsWithBytes 4 (some .boolean) [.ref (E.1 2 0), .int a1, .int a2] s0 (zQb Q) := by
  unfold Wp_X7_beginsWithBytes at hw
  refine z_entry rfl (Nat.le_of_ble_eq_true rfl) rfl ?_
  intro X C D hl hE
  subst hl; subst hE
  have C : zC X cX7_beginsWithBytes RX7 4 1 := C
  refine z_use (hw (fun v3 s0 => zV X 2 [(0, .ref ((zXE X).1 2 0)), (1, .int a1), (2, .int a2), (3, .int v3)] [] s0) (fun v3 s0 hw => ?_)) (fun hw => ?_)
  · show zV X 2 _ _ _
    refine z_iload_n C dX7_beginsWithBytes_2 rfl 3 rfl ?_
    refine z_iload_n C dX7_beginsWithBytes_3 rfl 2 rfl ?_
    refine z_icmp_ge C (tgt := 43) dX7_beginsWithBytes_4 (by decide) (fun h => ?_) (fun h => ?_)
    · replace hw := hw.1 h
      refine z_iconst C 1 dX7_beginsWithBytes_43 (by decide) ?_
      exact z_zreturn C D dX7_beginsWithBytes_44 (Or.inr rfl) ⟨_, rfl, (Or.inr rfl), hw⟩
    · replace hw := hw.2 h
      refine z_aload_n C dX7_beginsWithBytes_7 rfl 0 rfl ?_
      refine f_X7_20 C dX7_beginsWithBytes_8 ?_
      refine z_iload_n C dX7_beginsWithBytes_11 rfl 1 rfl ?_
      have hb1 := zin_lt hw.1
      refine z_aald C za_5 (by decide) rfl (Int32.toNatClampNeg a1) rfl hw.1 dX7_beginsWithBytes_12 ?_
      replace hw := hw.2
      refine z_iload_n C dX7_beginsWithBytes_13 rfl 3 rfl ?_
      refine z_lald C za_6 hb1 (Int32.toNatClampNeg v3) rfl hw.1 dX7_beginsWithBytes_14 ?_
      replace hw := hw.2
      refine z_lconst C 1 dX7_beginsWithBytes_15 (by decide) ?_
      refine z_lcmp_lt C (tgt := 35) dX7_beginsWithBytes_16 dX7_beginsWithBytes_17 (by decide) (fun h => ?_) (fun h => ?_)
      · replace hw := hw.1 h
        refine z_iconst C 0 dX7_beginsWithBytes_35 (by decide) ?_
        exact z_zreturn C D dX7_beginsWithBytes_36 (Or.inl rfl) ⟨_, rfl, (Or.inl rfl), hw⟩
      · replace hw := hw.2 h
        refine z_aload_n C dX7_beginsWithBytes_20 rfl 0 rfl ?_
        refine f_X7_20 C dX7_beginsWithBytes_21 ?_
        refine z_iload_n C dX7_beginsWithBytes_24 rfl 1 rfl ?_
        have hb2 := zin_lt hw.1
        refine z_aald C za_5 (by decide) rfl (Int32.toNatClampNeg a1) rfl hw.1 dX7_beginsWithBytes_25 ?_
        replace hw := hw.2
        refine z_iload_n C dX7_beginsWithBytes_26 rfl 3 rfl ?_
        refine z_lald C za_6 hb2 (Int32.toNatClampNeg v3) rfl hw.1 dX7_beginsWithBytes_27 ?_
        replace hw := hw.2
        refine z_ldc2 C (v := 255) kw_cl_X7_36 dX7_beginsWithBytes_28 ?_
        refine z_lcmp_le C (tgt := 37) dX7_beginsWithBytes_31 dX7_beginsWithBytes_32 (by decide) (fun h => ?_) (fun h => ?_)
        · replace hw := hw.1 h
          refine z_iinc C (v3 + 1) [(3, .int (v3 + 1)), (0, .ref ((zXE X).1 2 0)), (1, .int a1), (2, .int a2)] dX7_beginsWithBytes_37 3 rfl rfl (by decide) rfl ?_
          refine z_goto C (tgt := 2) dX7_beginsWithBytes_40 (by decide) ?_
          exact z_lv [1, 2, 3, 0] rfl hw
        · replace hw := hw.2 h
          refine z_iconst C 0 dX7_beginsWithBytes_35 (by decide) ?_
          exact z_zreturn C D dX7_beginsWithBytes_36 (Or.inl rfl) ⟨_, rfl, (Or.inl rfl), hw⟩
  refine z_iconst C 0 dX7_beginsWithBytes_0 (by decide) ?_
  refine z_istore_n C [(3, .int (0 : Int32)), (0, .ref ((zXE X).1 2 0)), (1, .int a1), (2, .int a2)] dX7_beginsWithBytes_1 rfl (by decide) rfl ?_
  exact z_lv [1, 2, 3, 0] rfl hw
set_option maxHeartbeats 4000000 in
set_option maxRecDepth 100000 in
theorem t_X8_letterFault {l : Launch} {E : zE} {a1 : Int32} {a2 : Int32} {a3 : Int32} {a4 : Int32} {s0 : zS} {Q : Int32 → zS → Prop}  (hw : Wp_X8_letterFault a1 a2 a3 a4 s0 Q) : zT l 3 E yX8_letterFault cX8_letterFault 5 (some .int) [.ref (E.1 0 0), .int a1, .int a2, .int a3, .int a4] s0 (zQi Q) := by
  unfold Wp_X8_letterFault at hw
  refine z_entry rfl (Nat.le_of_ble_eq_true rfl) rfl ?_
  intro X C D hl hE
  subst hl; subst hE
  have C : zC X cX8_letterFault RX8 5 3 := C
  refine z_aload_n C dX8_letterFault_0 rfl 0 rfl ?_
  refine z_iload_n C dX8_letterFault_1 rfl 1 rfl ?_
  refine z_callV C (by decide) M_X8_isTown Mv_X8_isTown kw_m_X8_167 ob_X8 (t_X8_isTown hw) rfl rfl (Nat.le_of_ble_eq_true rfl) dX8_letterFault_2 (z_kb (fun r1 s2 hr1 hw => ?_))
  refine z_if_eq C (tgt := 15) dX8_letterFault_5 (by decide) (fun h => ?_) (fun h => ?_)
  · replace hw := hw.1 h
    refine z_iconst C 1 dX8_letterFault_15 (by decide) ?_
    exact z_ireturn C D dX8_letterFault_16 ⟨_, rfl, hw⟩
  · replace hw := hw.2 h
    refine z_iload_n C dX8_letterFault_8 rfl 2 rfl ?_
    refine z_callS C (by decide) M_X8_isTray Ms_X8_isTray kw_m_X8_81 (t_X8_isTray hw) rfl rfl (Nat.le_of_ble_eq_true rfl) dX8_letterFault_9 (z_kb (fun r3 s4 hr3 hw => ?_))
    refine z_if_ne C (tgt := 17) dX8_letterFault_12 (by decide) (fun h => ?_) (fun h => ?_)
    · replace hw := hw.1 h
      refine z_iload_n C dX8_letterFault_17 rfl 3 rfl ?_
      refine z_iconst C 1 dX8_letterFault_18 (by decide) ?_
      refine z_bipush C 40 dX8_letterFault_19 (by decide) ?_
      refine z_callS C (by decide) M_X8_within Ms_X8_within kw_m_X8_85 (t_X8_within hw) rfl rfl (Nat.le_of_ble_eq_true rfl) dX8_letterFault_21 (z_kb (fun r5 s6 hr5 hw => ?_))
      refine z_if_eq C (tgt := 35) dX8_letterFault_24 (by decide) (fun h => ?_) (fun h => ?_)
      · replace hw := hw.1 h
        refine z_iconst C 1 dX8_letterFault_35 (by decide) ?_
        exact z_ireturn C D dX8_letterFault_36 ⟨_, rfl, hw⟩
      · replace hw := hw.2 h
        refine z_iload C dX8_letterFault_27 4 rfl ?_
        refine z_callS C (by decide) M_X8_isMinute Ms_X8_isMinute kw_m_X8_321 (t_X8_isMinute hw) rfl rfl (Nat.le_of_ble_eq_true rfl) dX8_letterFault_29 (z_kb (fun r7 s8 hr7 hw => ?_))
        refine z_if_ne C (tgt := 37) dX8_letterFault_32 (by decide) (fun h => ?_) (fun h => ?_)
        · replace hw := hw.1 h
          refine z_iload C dX8_letterFault_37 4 rfl ?_
          refine z_aload_n C dX8_letterFault_39 rfl 0 rfl ?_
          refine f_X8_71 C dX8_letterFault_40 ?_
          refine z_icmp_ge C (tgt := 48) dX8_letterFault_43 (by decide) (fun h => ?_) (fun h => ?_)
          · replace hw := hw.1 h
            refine z_aload_n C dX8_letterFault_48 rfl 0 rfl ?_
            refine f_X8_19 C dX8_letterFault_49 ?_
            refine z_iload_n C dX8_letterFault_52 rfl 2 rfl ?_
            refine z_callV C (by decide) M_X7_isMissing Mv_X7_isMissing kw_m_X8_299 ob_X7 (t_X7_isMissing hw) rfl rfl (Nat.le_of_ble_eq_true rfl) dX8_letterFault_53 (z_kb (fun r9 s10 hr9 hw => ?_))
            refine z_if_eq C (tgt := 61) dX8_letterFault_56 (by decide) (fun h => ?_) (fun h => ?_)
            · replace hw := hw.1 h
              refine z_iload_n C dX8_letterFault_61 rfl 3 rfl ?_
              refine z_aload_n C dX8_letterFault_62 rfl 0 rfl ?_
              refine f_X8_19 C dX8_letterFault_63 ?_
              refine f_X8_302 C dX8_letterFault_66 ?_
              refine z_iload_n C dX8_letterFault_69 rfl 2 rfl ?_
              refine z_iald C za_4 (by decide) (Int32.toNatClampNeg a2) rfl hw.1 dX8_letterFault_70 ?_
              replace hw := hw.2
              refine z_icmp_le C (tgt := 76) dX8_letterFault_71 (by decide) (fun h => ?_) (fun h => ?_)
              · replace hw := hw.1 h
                refine z_aload_n C dX8_letterFault_76 rfl 0 rfl ?_
                refine f_X8_19 C dX8_letterFault_77 ?_
                refine z_iload_n C dX8_letterFault_80 rfl 2 rfl ?_
                refine z_iload_n C dX8_letterFault_81 rfl 3 rfl ?_
                refine z_callV C (by decide) M_X7_beginsWithBytes Mv_X7_beginsWithBytes kw_m_X8_324 ob_X7 (t_X7_beginsWithBytes hw) rfl rfl (Nat.le_of_ble_eq_true rfl) dX8_letterFault_82 (z_kb (fun r11 s12 hr11 hw => ?_))
                refine z_if_ne C (tgt := 90) dX8_letterFault_85 (by decide) (fun h => ?_) (fun h => ?_)
                · replace hw := hw.1 h
                  refine z_aload_n C dX8_letterFault_90 rfl 0 rfl ?_
                  refine f_X8_56 C dX8_letterFault_91 ?_
                  refine f_X8_327 C dX8_letterFault_94 ?_
                  refine z_bipush C 40 dX8_letterFault_97 (by decide) ?_
                  refine z_icmp_ge C (tgt := 106) dX8_letterFault_99 (by decide) (fun h => ?_) (fun h => ?_)
                  · replace hw := hw.1 h
                    refine z_iconst C 5 dX8_letterFault_106 (by decide) ?_
                    exact z_ireturn C D dX8_letterFault_107 ⟨_, rfl, hw⟩
                  · replace hw := hw.2 h
                    refine z_iconst C 0 dX8_letterFault_102 (by decide) ?_
                    refine z_goto C (tgt := 107) dX8_letterFault_103 (by decide) ?_
                    exact z_ireturn C D dX8_letterFault_107 ⟨_, rfl, hw⟩
                · replace hw := hw.2 h
                  refine z_iconst C 1 dX8_letterFault_88 (by decide) ?_
                  exact z_ireturn C D dX8_letterFault_89 ⟨_, rfl, hw⟩
              · replace hw := hw.2 h
                refine z_iconst C 4 dX8_letterFault_74 (by decide) ?_
                exact z_ireturn C D dX8_letterFault_75 ⟨_, rfl, hw⟩
            · replace hw := hw.2 h
              refine z_iconst C 3 dX8_letterFault_59 (by decide) ?_
              exact z_ireturn C D dX8_letterFault_60 ⟨_, rfl, hw⟩
          · replace hw := hw.2 h
            refine z_iconst C 2 dX8_letterFault_46 (by decide) ?_
            exact z_ireturn C D dX8_letterFault_47 ⟨_, rfl, hw⟩
        · replace hw := hw.2 h
          refine z_iconst C 1 dX8_letterFault_35 (by decide) ?_
          exact z_ireturn C D dX8_letterFault_36 ⟨_, rfl, hw⟩
    · replace hw := hw.2 h
      refine z_iconst C 1 dX8_letterFault_15 (by decide) ?_
      exact z_ireturn C D dX8_letterFault_16 ⟨_, rfl, hw⟩
set_option maxHeartbeats 4000000 in
set_option maxRecDepth 100000 in
theorem t_J7_fill_53178__45 {l : Launch} {E : zE} {b0 : Nat} {a1 : Int32} {s0 : zS} {Q : zS → Prop} (hb0 : b0 < zrows 45) (hw : Wp_J7_fill_53178__45 b0 a1 s0 Q) : zT l 1 E yJ7_fill_53178 cJ7_fill_53178 4 none [.ref (E.1 45 b0), .int a1] s0 (zQv Q) := by
  unfold Wp_J7_fill_53178__45 at hw
  refine z_entry rfl (Nat.le_of_ble_eq_true rfl) rfl ?_
  intro X C D hl hE
  subst hl; subst hE
  have C : zC X cJ7_fill_53178 RJ7 4 1 := C
  refine z_use (hw (fun v2 v3 s0 => zV X 5 [(0, .ref ((zXE X).1 45 b0)), (1, .int a1), (2, .int v2), (3, .int v3)] [] s0) (fun v2 v3 s0 hw => ?_)) (fun hw => ?_)
  · show zV X 5 _ _ _
    refine z_iload_n C dJ7_fill_53178_5 rfl 2 rfl ?_
    refine z_iload_n C dJ7_fill_53178_6 rfl 3 rfl ?_
    refine z_icmp_ge C (tgt := 20) dJ7_fill_53178_7 (by decide) (fun h => ?_) (fun h => ?_)
    · replace hw := hw.1 h
      exact z_vreturn C D dJ7_fill_53178_20 ⟨rfl, hw⟩
    · replace hw := hw.2 h
      refine z_aload_n C dJ7_fill_53178_10 rfl 0 rfl ?_
      refine z_iload_n C dJ7_fill_53178_11 rfl 2 rfl ?_
      refine z_iload_n C dJ7_fill_53178_12 rfl 1 rfl ?_
      refine z_iast C za_45 hb0 (Int32.toNatClampNeg v2) rfl hw.1 dJ7_fill_53178_13 (z_nms (fun s1 es1 => ?_))
      replace hw := hw.2
      replace hw := hw s1 es1
      refine z_iinc C (v2 + 1) [(2, .int (v2 + 1)), (0, .ref ((zXE X).1 45 b0)), (1, .int a1), (3, .int v3)] dJ7_fill_53178_14 2 rfl rfl (by decide) rfl ?_
      refine z_goto C (tgt := 5) dJ7_fill_53178_17 (by decide) ?_
      exact z_lv [1, 2, 0, 3] rfl hw
  refine z_iconst C 0 dJ7_fill_53178_0 (by decide) ?_
  refine z_istore_n C [(2, .int (0 : Int32)), (0, .ref ((zXE X).1 45 b0)), (1, .int a1)] dJ7_fill_53178_1 rfl (by decide) rfl ?_
  refine z_aload_n C dJ7_fill_53178_2 rfl 1 rfl ?_
  refine z_alen C (n := 10) (v := 10) (t := 0) rfl rfl hb0 rfl (by decide) dJ7_fill_53178_3 ?_
  refine z_istore_n C [(3, .int (10 : Int32)), (2, .int (0 : Int32)), (0, .ref ((zXE X).1 45 b0)), (1, .int a1)] dJ7_fill_53178_4 rfl (by decide) rfl ?_
  exact z_lv [2, 3, 1, 0] rfl hw
set_option maxHeartbeats 4000000 in
set_option maxRecDepth 100000 in
theorem t_X4_allOf {l : Launch} {E : zE} {a0 : Int32} {s0 : zS} {Q : Int64 → zS → Prop}  (hw : Wp_X4_allOf a0 s0 Q) : zT l 1 E yX4_allOf cX4_allOf 1 (some .long) [.int a0] s0 (zQl Q) := by
  unfold Wp_X4_allOf at hw
  refine z_entry rfl (Nat.le_of_ble_eq_true rfl) rfl ?_
  intro X C D hl hE
  subst hl; subst hE
  have C : zC X cX4_allOf RX4 1 1 := C
  refine z_lconst C 1 dX4_allOf_0 (by decide) ?_
  refine z_iload_n C dX4_allOf_1 rfl 0 rfl ?_
  refine z_lshl C dX4_allOf_2 ?_
  refine z_lconst C 1 dX4_allOf_3 (by decide) ?_
  refine z_lsub C dX4_allOf_4 ?_
  exact z_lreturn C D dX4_allOf_5 ⟨_, rfl, hw⟩
set_option maxHeartbeats 4000000 in
set_option maxRecDepth 100000 in
theorem t_X4_add__6 {l : Launch} {E : zE} {a1 : Int32} {b2 : Nat} {a3 : Int32} {a4 : Int32} {s0 : zS} {Q : Int32 → zS → Prop} (hb2 : b2 < zrows 6) (hw : Wp_X4_add__6 a1 b2 a3 a4 s0 Q) : zT l 2 E yX4_add cX4_add 7 (some .int) [.ref (E.1 38 0), .int a1, .ref (E.1 6 b2), .int a3, .int a4] s0 (zQi Q) := by
  unfold Wp_X4_add__6 at hw
  refine z_entry rfl (Nat.le_of_ble_eq_true rfl) rfl ?_
  intro X C D hl hE
  subst hl; subst hE
  have C : zC X cX4_add RX4 7 2 := C
  refine z_use (hw (fun v5 v6 s0 => zV X 27 [(0, .ref ((zXE X).1 38 0)), (1, .int a1), (2, .ref ((zXE X).1 6 b2)), (3, .int a3), (4, .int a4), (5, .int v5), (6, .int v6)] [] s0) (fun v5 v6 s0 hw => ?_)) (fun hw => ?_)
  · show zV X 27 _ _ _
    refine z_iload C dX4_add_27 6 rfl ?_
    refine z_iload_n C dX4_add_29 rfl 3 rfl ?_
    refine z_icmp_ge C (tgt := 61) dX4_add_30 (by decide) (fun h => ?_) (fun h => ?_)
    · replace hw := hw.1 h
      refine z_aload_n C dX4_add_61 rfl 0 rfl ?_
      refine f_X4_27 C dX4_add_62 ?_
      refine z_iload C dX4_add_65 5 rfl ?_
      have hb4 := zin_lt hw.1
      refine z_aald C za_44 (by decide) rfl (Int32.toNatClampNeg v5) rfl hw.1 dX4_add_67 ?_
      replace hw := hw.2
      refine z_iconst C (-1) dX4_add_68 (by decide) ?_
      refine z_callS C (by decide) M_J7_fill_53178 Ms_J7_fill_53178 kw_m_X4_35 (t_J7_fill_53178__45 hb4 hw) rfl rfl (Nat.le_of_ble_eq_true rfl) dX4_add_69 (z_kv (fun s6 hw => ?_))
      refine z_aload_n C dX4_add_72 rfl 0 rfl ?_
      refine f_X4_27 C dX4_add_73 ?_
      refine z_iload C dX4_add_76 5 rfl ?_
      have hb7 := zin_lt hw.1
      refine z_aald C za_44 (by decide) rfl (Int32.toNatClampNeg v5) rfl hw.1 dX4_add_78 ?_
      replace hw := hw.2
      refine z_iload_n C dX4_add_79 rfl 1 rfl ?_
      refine z_iload C dX4_add_80 4 rfl ?_
      refine z_iast C za_45 hb7 (Int32.toNatClampNeg a1) rfl hw.1 dX4_add_82 (z_nms (fun s8 es8 => ?_))
      replace hw := hw.2
      replace hw := hw s8 es8
      refine z_aload_n C dX4_add_83 rfl 0 rfl ?_
      refine f_X4_32 C dX4_add_84 ?_
      refine z_iload C dX4_add_87 5 rfl ?_
      have hb9 := zin_lt hw.1
      refine z_aald C za_46 (by decide) rfl (Int32.toNatClampNeg v5) rfl hw.1 dX4_add_89 ?_
      replace hw := hw.2
      refine z_iload_n C dX4_add_90 rfl 1 rfl ?_
      refine z_iload_n C dX4_add_91 rfl 3 rfl ?_
      refine z_callS C (by decide) M_X4_allOf Ms_X4_allOf kw_m_X4_41 (t_X4_allOf hw) rfl rfl (Nat.le_of_ble_eq_true rfl) dX4_add_92 (z_kl (fun r10 s11 hw => ?_))
      refine z_last C za_47 hb9 (Int32.toNatClampNeg a1) rfl hw.1 dX4_add_95 (z_nms (fun s12 es12 => ?_))
      replace hw := hw.2
      replace hw := hw s12 es12
      refine z_iload C dX4_add_96 5 rfl ?_
      exact z_ireturn C D dX4_add_98 ⟨_, rfl, hw⟩
    · replace hw := hw.2 h
      refine z_iload C dX4_add_33 6 rfl ?_
      refine z_aload_n C dX4_add_35 rfl 2 rfl ?_
      refine z_alen C (n := 60) (v := 60) (t := 1) rfl rfl hb2 rfl (by decide) dX4_add_36 ?_
      refine z_icmp_ge C (tgt := 61) dX4_add_37 (by decide) (fun h => ?_) (fun h => ?_)
      · replace hw := hw.1 h
        refine z_aload_n C dX4_add_61 rfl 0 rfl ?_
        refine f_X4_27 C dX4_add_62 ?_
        refine z_iload C dX4_add_65 5 rfl ?_
        have hb13 := zin_lt hw.1
        refine z_aald C za_44 (by decide) rfl (Int32.toNatClampNeg v5) rfl hw.1 dX4_add_67 ?_
        replace hw := hw.2
        refine z_iconst C (-1) dX4_add_68 (by decide) ?_
        refine z_callS C (by decide) M_J7_fill_53178 Ms_J7_fill_53178 kw_m_X4_35 (t_J7_fill_53178__45 hb13 hw) rfl rfl (Nat.le_of_ble_eq_true rfl) dX4_add_69 (z_kv (fun s15 hw => ?_))
        refine z_aload_n C dX4_add_72 rfl 0 rfl ?_
        refine f_X4_27 C dX4_add_73 ?_
        refine z_iload C dX4_add_76 5 rfl ?_
        have hb16 := zin_lt hw.1
        refine z_aald C za_44 (by decide) rfl (Int32.toNatClampNeg v5) rfl hw.1 dX4_add_78 ?_
        replace hw := hw.2
        refine z_iload_n C dX4_add_79 rfl 1 rfl ?_
        refine z_iload C dX4_add_80 4 rfl ?_
        refine z_iast C za_45 hb16 (Int32.toNatClampNeg a1) rfl hw.1 dX4_add_82 (z_nms (fun s17 es17 => ?_))
        replace hw := hw.2
        replace hw := hw s17 es17
        refine z_aload_n C dX4_add_83 rfl 0 rfl ?_
        refine f_X4_32 C dX4_add_84 ?_
        refine z_iload C dX4_add_87 5 rfl ?_
        have hb18 := zin_lt hw.1
        refine z_aald C za_46 (by decide) rfl (Int32.toNatClampNeg v5) rfl hw.1 dX4_add_89 ?_
        replace hw := hw.2
        refine z_iload_n C dX4_add_90 rfl 1 rfl ?_
        refine z_iload_n C dX4_add_91 rfl 3 rfl ?_
        refine z_callS C (by decide) M_X4_allOf Ms_X4_allOf kw_m_X4_41 (t_X4_allOf hw) rfl rfl (Nat.le_of_ble_eq_true rfl) dX4_add_92 (z_kl (fun r19 s20 hw => ?_))
        refine z_last C za_47 hb18 (Int32.toNatClampNeg a1) rfl hw.1 dX4_add_95 (z_nms (fun s21 es21 => ?_))
        replace hw := hw.2
        replace hw := hw s21 es21
        refine z_iload C dX4_add_96 5 rfl ?_
        exact z_ireturn C D dX4_add_98 ⟨_, rfl, hw⟩
      · replace hw := hw.2 h
        refine z_aload_n C dX4_add_40 rfl 0 rfl ?_
        refine f_X4_21 C dX4_add_41 ?_
        refine z_iload C dX4_add_44 5 rfl ?_
        have hb22 := zin_lt hw.1
        refine z_aald C za_40 (by decide) rfl (Int32.toNatClampNeg v5) rfl hw.1 dX4_add_46 ?_
        replace hw := hw.2
        refine z_iload C dX4_add_47 6 rfl ?_
        refine z_aload_n C dX4_add_49 rfl 2 rfl ?_
        refine z_iload C dX4_add_50 6 rfl ?_
        refine z_lald C za_6 hb2 (Int32.toNatClampNeg v6) rfl hw.1 dX4_add_52 ?_
        replace hw := hw.2
        refine z_l2i C dX4_add_53 ?_
        refine z_iast C za_41 hb22 (Int32.toNatClampNeg v6) rfl hw.1 dX4_add_54 (z_nms (fun s23 es23 => ?_))
        replace hw := hw.2
        replace hw := hw s23 es23
        refine z_iinc C (v6 + 1) [(6, .int (v6 + 1)), (0, .ref ((zXE X).1 38 0)), (1, .int a1), (2, .ref ((zXE X).1 6 b2)), (3, .int a3), (4, .int a4), (5, .int v5)] dX4_add_55 6 rfl rfl (by decide) rfl ?_
        refine z_goto C (tgt := 27) dX4_add_58 (by decide) ?_
        exact z_lv [1, 2, 3, 4, 5, 6, 0] rfl hw
  refine z_aload_n C dX4_add_0 rfl 0 rfl ?_
  refine f_X4_9 C dX4_add_1 ?_
  refine z_nmi (fun x1 ex1 => ?_)
  replace hw := hw x1 ex1
  refine z_istore C [(5, .int x1), (0, .ref ((zXE X).1 38 0)), (1, .int a1), (2, .ref ((zXE X).1 6 b2)), (3, .int a3), (4, .int a4)] dX4_add_4 (by decide) rfl ?_
  refine z_aload_n C dX4_add_6 rfl 1 rfl ?_
  refine z_dup C dX4_add_7 rfl ?_
  refine f_X4_9 C dX4_add_8 ?_
  refine z_iconst C 1 dX4_add_11 (by decide) ?_
  refine z_iadd C dX4_add_12 ?_
  refine p_X4_9 C dX4_add_13 (z_nms (fun s2 es2 => ?_))
  replace hw := hw s2 es2
  refine z_aload_n C dX4_add_16 rfl 1 rfl ?_
  refine f_X4_15 C dX4_add_17 ?_
  refine z_iload C dX4_add_20 0 rfl ?_
  refine z_iload_n C dX4_add_22 rfl 4 rfl ?_
  refine z_iast C za_39 (by decide) (Int32.toNatClampNeg x1) rfl hw.1 dX4_add_23 (z_nms (fun s3 es3 => ?_))
  replace hw := hw.2
  replace hw := hw s3 es3
  refine z_iconst C 0 dX4_add_24 (by decide) ?_
  refine z_istore C [(6, .int (0 : Int32)), (5, .int x1), (0, .ref ((zXE X).1 38 0)), (1, .int a1), (2, .ref ((zXE X).1 6 b2)), (3, .int a3), (4, .int a4)] dX4_add_25 (by decide) rfl ?_
  exact z_lv [2, 3, 4, 5, 6, 1, 0] rfl hw
set_option maxHeartbeats 4000000 in
set_option maxRecDepth 100000 in
theorem t_X8_letter {l : Launch} {E : zE} {a1 : Int32} {a2 : Int32} {a3 : Int32} {a4 : Int32} {s0 : zS} {Q : Int32 → zS → Prop}  (hw : Wp_X8_letter a1 a2 a3 a4 s0 Q) : zT l 4 E yX8_letter cX8_letter 5 (some .int) [.ref (E.1 0 0), .int a1, .int a2, .int a3, .int a4] s0 (zQi Q) := by
  unfold Wp_X8_letter at hw
  refine z_entry rfl (Nat.le_of_ble_eq_true rfl) rfl ?_
  intro X C D hl hE
  subst hl; subst hE
  have C : zC X cX8_letter RX8 5 4 := C
  refine z_aload_n C dX8_letter_0 rfl 0 rfl ?_
  refine z_aload_n C dX8_letter_1 rfl 0 rfl ?_
  refine z_iload_n C dX8_letter_2 rfl 1 rfl ?_
  refine z_iload_n C dX8_letter_3 rfl 2 rfl ?_
  refine z_iload_n C dX8_letter_4 rfl 3 rfl ?_
  refine z_iload C dX8_letter_5 4 rfl ?_
  refine z_callV C (by decide) M_X8_letterFault Mv_X8_letterFault kw_m_X8_239 ob_X8 (t_X8_letterFault hw) rfl rfl (Nat.le_of_ble_eq_true rfl) dX8_letter_7 (z_ki (fun r1 s2 hw => ?_))
  refine p_X8_67 C dX8_letter_10 (z_nms (fun s3 es3 => ?_))
  replace hw := hw s3 es3
  refine z_aload_n C dX8_letter_13 rfl 0 rfl ?_
  refine f_X8_67 C dX8_letter_14 ?_
  refine z_if_eq C (tgt := 22) dX8_letter_17 (by decide) (fun h => ?_) (fun h => ?_)
  · replace hw := hw.1 h
    refine z_aload_n C dX8_letter_22 rfl 0 rfl ?_
    refine z_iload C dX8_letter_23 4 rfl ?_
    refine p_X8_71 C dX8_letter_25 (z_nms (fun s4 es4 => ?_))
    replace hw := hw s4 es4
    refine z_aload_n C dX8_letter_28 rfl 0 rfl ?_
    refine f_X8_56 C dX8_letter_29 ?_
    refine z_iload_n C dX8_letter_32 rfl 1 rfl ?_
    refine z_aload_n C dX8_letter_33 rfl 0 rfl ?_
    refine f_X8_19 C dX8_letter_34 ?_
    refine f_X8_107 C dX8_letter_37 ?_
    refine z_iload_n C dX8_letter_40 rfl 2 rfl ?_
    have hb5 := zin_lt hw.1
    refine z_aald C za_5 (by decide) rfl (Int32.toNatClampNeg a2) rfl hw.1 dX8_letter_41 ?_
    replace hw := hw.2
    refine z_iload_n C dX8_letter_42 rfl 3 rfl ?_
    refine z_iload C dX8_letter_43 4 rfl ?_
    refine z_callV C (by decide) M_X4_add Mv_X4_add kw_m_X8_242 ob_X4 (t_X4_add__6 hb5 hw) rfl rfl (Nat.le_of_ble_eq_true rfl) dX8_letter_45 (z_ki (fun r6 s7 hw => ?_))
    exact z_ireturn C D dX8_letter_48 ⟨_, rfl, hw⟩
  · replace hw := hw.2 h
    refine z_iconst C (-1) dX8_letter_20 (by decide) ?_
    exact z_ireturn C D dX8_letter_21 ⟨_, rfl, hw⟩
set_option maxHeartbeats 4000000 in
set_option maxRecDepth 100000 in
theorem t_X9_isMinute {l : Launch} {E : zE} {a0 : Int32} {s0 : zS} {Q : Int32 → zS → Prop}  (hw : Wp_X9_isMinute a0 s0 Q) : zT l 1 E yX9_isMinute cX9_isMinute 1 (some .boolean) [.int a0] s0 (zQb Q) := by
  unfold Wp_X9_isMinute at hw
  refine z_entry rfl (Nat.le_of_ble_eq_true rfl) rfl ?_
  intro X C D hl hE
  subst hl; subst hE
  have C : zC X cX9_isMinute RX9 1 1 := C
  refine z_iload_n C dX9_isMinute_0 rfl 0 rfl ?_
  refine z_if_lt C (tgt := 14) dX9_isMinute_1 (by decide) (fun h => ?_) (fun h => ?_)
  · replace hw := hw.1 h
    refine z_iconst C 0 dX9_isMinute_14 (by decide) ?_
    exact z_zreturn C D dX9_isMinute_15 (Or.inl rfl) ⟨_, rfl, (Or.inl rfl), hw⟩
  · replace hw := hw.2 h
    refine z_iload_n C dX9_isMinute_4 rfl 0 rfl ?_
    refine z_ldc C (v := 100000) kw_c_X9_225 dX9_isMinute_5 ?_
    refine z_icmp_gt C (tgt := 14) dX9_isMinute_7 (by decide) (fun h => ?_) (fun h => ?_)
    · replace hw := hw.1 h
      refine z_iconst C 0 dX9_isMinute_14 (by decide) ?_
      exact z_zreturn C D dX9_isMinute_15 (Or.inl rfl) ⟨_, rfl, (Or.inl rfl), hw⟩
    · replace hw := hw.2 h
      refine z_iconst C 1 dX9_isMinute_10 (by decide) ?_
      refine z_goto C (tgt := 15) dX9_isMinute_11 (by decide) ?_
      exact z_zreturn C D dX9_isMinute_15 (Or.inr rfl) ⟨_, rfl, (Or.inr rfl), hw⟩
set_option maxHeartbeats 4000000 in
set_option maxRecDepth 100000 in
theorem t_X9_place {l : Launch} {E : zE} {a0 : Int32} {a1 : Int32} {s0 : zS} {Q : Int32 → zS → Prop}  (hw : Wp_X9_place a0 a1 s0 Q) : zT l 1 E yX9_place cX9_place 2 (some .int) [.int a0, .int a1] s0 (zQi Q) := by
  unfold Wp_X9_place at hw
  refine z_entry rfl (Nat.le_of_ble_eq_true rfl) rfl ?_
  intro X C D hl hE
  subst hl; subst hE
  have C : zC X cX9_place RX9 2 1 := C
  refine z_bipush C 10 dX9_place_0 (by decide) ?_
  refine z_iload_n C dX9_place_2 rfl 0 rfl ?_
  refine z_imul C dX9_place_3 ?_
  refine z_iload_n C dX9_place_4 rfl 1 rfl ?_
  refine z_iadd C dX9_place_5 ?_
  exact z_ireturn C D dX9_place_6 ⟨_, rfl, hw⟩
set_option maxHeartbeats 4000000 in
set_option maxRecDepth 100000 in
theorem t_X9_letter {l : Launch} {E : zE} {a1 : Int32} {a2 : Int32} {a3 : Int32} {a4 : Int32} {s0 : zS} {Q : Int32 → zS → Prop}  (hw : Wp_X9_letter a1 a2 a3 a4 s0 Q) : zT l 2 E yX9_letter cX9_letter 8 (some .int) [.ref (E.1 54 0), .int a1, .int a2, .int a3, .int a4] s0 (zQi Q) := by
  unfold Wp_X9_letter at hw
  refine z_entry rfl (Nat.le_of_ble_eq_true rfl) rfl ?_
  intro X C D hl hE
  subst hl; subst hE
  have C : zC X cX9_letter RX9 8 2 := C
  refine z_use (hw (fun v5 s0 => zV X 90 [(0, .ref ((zXE X).1 54 0)), (1, .int a1), (2, .int a2), (3, .int a3), (4, .int a4), (5, .int v5)] [] s0) (fun v5 v6 s0 => zV X 192 [(0, .ref ((zXE X).1 54 0)), (1, .int a1), (2, .int a2), (3, .int a3), (4, .int a4), (5, .int v5), (6, .int v6)] [] s0) (fun v5 v6 s0 => zV X 233 [(0, .ref ((zXE X).1 54 0)), (1, .int a1), (4, .int a4), (5, .int v5), (6, .int v6)] [] s0) (fun v5 v6 v7 s0 => zV X 267 [(0, .ref ((zXE X).1 54 0)), (1, .int a1), (4, .int a4), (5, .int v5), (6, .int v6), (7, .int v7)] [] s0) (fun v5 s0 hw => ?_) (fun v5 v6 s0 hw => ?_) (fun v5 v6 s0 hw => ?_) (fun v5 v6 v7 s0 hw => ?_)) (fun hw => ?_)
  · show zV X 90 _ _ _
    refine z_iload C dX9_letter_90 5 rfl ?_
    refine z_iload_n C dX9_letter_92 rfl 3 rfl ?_
    refine z_icmp_ge C (tgt := 144) dX9_letter_93 (by decide) (fun h => ?_) (fun h => ?_)
    · replace hw := hw.1 h
      refine z_aload_n C dX9_letter_144 rfl 0 rfl ?_
      refine f_X9_222 C dX9_letter_145 ?_
      refine z_bipush C 40 dX9_letter_148 (by decide) ?_
      refine z_icmp_ne C (tgt := 159) dX9_letter_150 (by decide) (fun h => ?_) (fun h => ?_)
      · replace hw := hw.1 h
        refine z_aload_n C dX9_letter_159 rfl 0 rfl ?_
        refine f_X9_222 C dX9_letter_160 ?_
        refine z_nmi (fun x23 ex23 => ?_)
        replace hw := hw x23 ex23
        refine z_istore C [(5, .int x23), (0, .ref ((zXE X).1 54 0)), (1, .int a1), (2, .int a2), (3, .int a3), (4, .int a4)] dX9_letter_163 (by decide) rfl ?_
        refine z_aload_n C dX9_letter_165 rfl 1 rfl ?_
        refine z_dup C dX9_letter_166 rfl ?_
        refine f_X9_222 C dX9_letter_167 ?_
        refine z_iconst C 1 dX9_letter_170 (by decide) ?_
        refine z_iadd C dX9_letter_171 ?_
        refine p_X9_222 C dX9_letter_172 (z_nms (fun s24 es24 => ?_))
        replace hw := hw s24 es24
        refine z_aload_n C dX9_letter_175 rfl 1 rfl ?_
        refine z_iload C dX9_letter_176 5 rfl ?_
        refine p_X9_229 C dX9_letter_178 (z_nms (fun s25 es25 => ?_))
        replace hw := hw s25 es25
        refine z_aload_n C dX9_letter_181 rfl 1 rfl ?_
        refine f_X9_78 C dX9_letter_182 ?_
        refine z_iload C dX9_letter_185 0 rfl ?_
        refine z_iload_n C dX9_letter_187 rfl 4 rfl ?_
        refine z_iast C za_76 (by decide) (Int32.toNatClampNeg x23) rfl hw.1 dX9_letter_188 (z_nms (fun s26 es26 => ?_))
        replace hw := hw.2
        replace hw := hw s26 es26
        refine z_iconst C 0 dX9_letter_189 (by decide) ?_
        refine z_istore C [(6, .int (0 : Int32)), (5, .int x23), (0, .ref ((zXE X).1 54 0)), (1, .int a1), (2, .int a2), (3, .int a3), (4, .int a4)] dX9_letter_190 (by decide) rfl ?_
        exact z_lv [2, 3, 4, 5, 6, 1, 0] rfl hw
      · replace hw := hw.2 h
        refine z_aload_n C dX9_letter_153 rfl 0 rfl ?_
        refine z_iconst C 5 dX9_letter_154 (by decide) ?_
        refine z_callV C (by decide) M_X9_refuse Mv_X9_refuse kw_m_X9_139 ob_X9 (t_X9_refuse hw) rfl rfl (Nat.le_of_ble_eq_true rfl) dX9_letter_155 (z_ki (fun r27 s28 hw => ?_))
        exact z_ireturn C D dX9_letter_158 ⟨_, rfl, hw⟩
    · replace hw := hw.2 h
      refine z_aload_n C dX9_letter_96 rfl 0 rfl ?_
      refine f_X9_20 C dX9_letter_97 ?_
      refine z_bipush C 60 dX9_letter_100 (by decide) ?_
      refine z_iload_n C dX9_letter_102 rfl 2 rfl ?_
      refine z_imul C dX9_letter_103 ?_
      refine z_iload C dX9_letter_104 5 rfl ?_
      refine z_iadd C dX9_letter_106 ?_
      refine z_lald C za_57 (by decide) (Int32.toNatClampNeg (((60 : Int32) * a2) + v5)) rfl hw.1 dX9_letter_107 ?_
      replace hw := hw.2
      refine z_lconst C 1 dX9_letter_108 (by decide) ?_
      refine z_lcmp_lt C (tgt := 132) dX9_letter_109 dX9_letter_110 (by decide) (fun h => ?_) (fun h => ?_)
      · replace hw := hw.1 h
        refine z_aload_n C dX9_letter_132 rfl 0 rfl ?_
        refine z_iconst C 1 dX9_letter_133 (by decide) ?_
        refine z_callV C (by decide) M_X9_refuse Mv_X9_refuse kw_m_X9_139 ob_X9 (t_X9_refuse hw) rfl rfl (Nat.le_of_ble_eq_true rfl) dX9_letter_134 (z_ki (fun r29 s30 hw => ?_))
        exact z_ireturn C D dX9_letter_137 ⟨_, rfl, hw⟩
      · replace hw := hw.2 h
        refine z_aload_n C dX9_letter_113 rfl 0 rfl ?_
        refine f_X9_20 C dX9_letter_114 ?_
        refine z_bipush C 60 dX9_letter_117 (by decide) ?_
        refine z_iload_n C dX9_letter_119 rfl 2 rfl ?_
        refine z_imul C dX9_letter_120 ?_
        refine z_iload C dX9_letter_121 5 rfl ?_
        refine z_iadd C dX9_letter_123 ?_
        refine z_lald C za_57 (by decide) (Int32.toNatClampNeg (((60 : Int32) * a2) + v5)) rfl hw.1 dX9_letter_124 ?_
        replace hw := hw.2
        refine z_ldc2 C (v := 255) kw_cl_X9_232 dX9_letter_125 ?_
        refine z_lcmp_le C (tgt := 138) dX9_letter_128 dX9_letter_129 (by decide) (fun h => ?_) (fun h => ?_)
        · replace hw := hw.1 h
          refine z_iinc C (v5 + 1) [(5, .int (v5 + 1)), (0, .ref ((zXE X).1 54 0)), (1, .int a1), (2, .int a2), (3, .int a3), (4, .int a4)] dX9_letter_138 5 rfl rfl (by decide) rfl ?_
          refine z_goto C (tgt := 90) dX9_letter_141 (by decide) ?_
          exact z_lv [1, 2, 3, 4, 5, 0] rfl hw
        · replace hw := hw.2 h
          refine z_aload_n C dX9_letter_132 rfl 0 rfl ?_
          refine z_iconst C 1 dX9_letter_133 (by decide) ?_
          refine z_callV C (by decide) M_X9_refuse Mv_X9_refuse kw_m_X9_139 ob_X9 (t_X9_refuse hw) rfl rfl (Nat.le_of_ble_eq_true rfl) dX9_letter_134 (z_ki (fun r31 s32 hw => ?_))
          exact z_ireturn C D dX9_letter_137 ⟨_, rfl, hw⟩
  · show zV X 192 _ _ _
    refine z_iload C dX9_letter_192 6 rfl ?_
    refine z_iload_n C dX9_letter_194 rfl 3 rfl ?_
    refine z_icmp_ge C (tgt := 230) dX9_letter_195 (by decide) (fun h => ?_) (fun h => ?_)
    · replace hw := hw.1 h
      refine z_iconst C 0 dX9_letter_230 (by decide) ?_
      refine z_istore C [(6, .int (0 : Int32)), (0, .ref ((zXE X).1 54 0)), (1, .int a1), (2, .int a2), (3, .int a3), (4, .int a4), (5, .int v5)] dX9_letter_231 (by decide) rfl ?_
      exact z_lv [1, 2, 5, 6, 0] rfl hw
    · replace hw := hw.2 h
      refine z_aload_n C dX9_letter_198 rfl 0 rfl ?_
      refine f_X9_90 C dX9_letter_199 ?_
      refine z_bipush C 40 dX9_letter_202 (by decide) ?_
      refine z_iload C dX9_letter_204 5 rfl ?_
      refine z_imul C dX9_letter_206 ?_
      refine z_iload C dX9_letter_207 6 rfl ?_
      refine z_iadd C dX9_letter_209 ?_
      refine z_aload_n C dX9_letter_210 rfl 0 rfl ?_
      refine f_X9_20 C dX9_letter_211 ?_
      refine z_bipush C 60 dX9_letter_214 (by decide) ?_
      refine z_iload_n C dX9_letter_216 rfl 2 rfl ?_
      refine z_imul C dX9_letter_217 ?_
      refine z_iload C dX9_letter_218 6 rfl ?_
      refine z_iadd C dX9_letter_220 ?_
      refine z_lald C za_57 (by decide) (Int32.toNatClampNeg (((60 : Int32) * a2) + v6)) rfl hw.1 dX9_letter_221 ?_
      replace hw := hw.2
      refine z_l2i C dX9_letter_222 ?_
      refine z_iast C za_80 (by decide) (Int32.toNatClampNeg (((40 : Int32) * v5) + v6)) rfl hw.1 dX9_letter_223 (z_nms (fun s33 es33 => ?_))
      replace hw := hw.2
      replace hw := hw s33 es33
      refine z_iinc C (v6 + 1) [(6, .int (v6 + 1)), (0, .ref ((zXE X).1 54 0)), (1, .int a1), (2, .int a2), (3, .int a3), (4, .int a4), (5, .int v5)] dX9_letter_224 6 rfl rfl (by decide) rfl ?_
      refine z_goto C (tgt := 192) dX9_letter_227 (by decide) ?_
      exact z_lv [1, 2, 3, 4, 5, 6, 0] rfl hw
  · show zV X 233 _ _ _
    refine z_iload C dX9_letter_233 4 rfl ?_
    refine z_bipush C 10 dX9_letter_235 (by decide) ?_
    refine z_icmp_ge C (tgt := 315) dX9_letter_237 (by decide) (fun h => ?_) (fun h => ?_)
    · replace hw := hw.1 h
      refine z_aload_n C dX9_letter_315 rfl 0 rfl ?_
      refine z_iconst C 0 dX9_letter_316 (by decide) ?_
      refine p_X9_109 C dX9_letter_317 (z_nms (fun s34 es34 => ?_))
      replace hw := hw s34 es34
      refine z_iload C dX9_letter_320 3 rfl ?_
      exact z_ireturn C D dX9_letter_322 ⟨_, rfl, hw⟩
    · replace hw := hw.2 h
      refine z_aload_n C dX9_letter_240 rfl 0 rfl ?_
      refine f_X9_93 C dX9_letter_241 ?_
      refine z_iload C dX9_letter_244 3 rfl ?_
      refine z_iload C dX9_letter_246 4 rfl ?_
      refine z_callS C (by decide) M_X9_place Ms_X9_place kw_m_X9_234 (t_X9_place hw) rfl rfl (Nat.le_of_ble_eq_true rfl) dX9_letter_248 (z_ki (fun r35 s36 hw => ?_))
      refine z_iload C dX9_letter_251 4 rfl ?_
      refine z_iload_n C dX9_letter_253 rfl 1 rfl ?_
      refine z_icmp_ne C (tgt := 262) dX9_letter_254 (by decide) (fun h => ?_) (fun h => ?_)
      · replace hw := hw.1 h
        refine z_iconst C (-1) dX9_letter_262 (by decide) ?_
        refine z_iast C za_81 (by decide) (Int32.toNatClampNeg r35) rfl hw.1 dX9_letter_263 (z_nms (fun s37 es37 => ?_))
        replace hw := hw.2
        replace hw := hw s37 es37
        refine z_iconst C 0 dX9_letter_264 (by decide) ?_
        refine z_istore C [(7, .int (0 : Int32)), (0, .ref ((zXE X).1 54 0)), (1, .int a1), (4, .int a4), (5, .int v5), (6, .int v6)] dX9_letter_265 (by decide) rfl ?_
        exact z_lv [1, 2, 3, 4, 5, 0] rfl hw
      · replace hw := hw.2 h
        refine z_iload C dX9_letter_257 2 rfl ?_
        refine z_goto C (tgt := 263) dX9_letter_259 (by decide) ?_
        refine z_iast C za_81 (by decide) (Int32.toNatClampNeg r35) rfl hw.1 dX9_letter_263 (z_nms (fun s38 es38 => ?_))
        replace hw := hw.2
        replace hw := hw s38 es38
        refine z_iconst C 0 dX9_letter_264 (by decide) ?_
        refine z_istore C [(7, .int (0 : Int32)), (0, .ref ((zXE X).1 54 0)), (1, .int a1), (4, .int a4), (5, .int v5), (6, .int v6)] dX9_letter_265 (by decide) rfl ?_
        exact z_lv [1, 2, 3, 4, 5, 0] rfl hw
  · show zV X 267 _ _ _
    refine z_iload C dX9_letter_267 5 rfl ?_
    refine z_bipush C 40 dX9_letter_269 (by decide) ?_
    refine z_icmp_ge C (tgt := 309) dX9_letter_271 (by decide) (fun h => ?_) (fun h => ?_)
    · replace hw := hw.1 h
      refine z_iinc C (v6 + 1) [(6, .int (v6 + 1)), (0, .ref ((zXE X).1 54 0)), (1, .int a1), (4, .int a4), (5, .int v5), (7, .int v7)] dX9_letter_309 4 rfl rfl (by decide) rfl ?_
      refine z_goto C (tgt := 233) dX9_letter_312 (by decide) ?_
      exact z_lv [1, 2, 3, 4, 0] rfl hw
    · replace hw := hw.2 h
      refine z_aload_n C dX9_letter_274 rfl 0 rfl ?_
      refine f_X9_96 C dX9_letter_275 ?_
      refine z_bipush C 40 dX9_letter_278 (by decide) ?_
      refine z_iload C dX9_letter_280 3 rfl ?_
      refine z_iload C dX9_letter_282 4 rfl ?_
      refine z_callS C (by decide) M_X9_place Ms_X9_place kw_m_X9_234 (t_X9_place hw) rfl rfl (Nat.le_of_ble_eq_true rfl) dX9_letter_284 (z_ki (fun r39 s40 hw => ?_))
      refine z_imul C dX9_letter_287 ?_
      refine z_iload C dX9_letter_288 5 rfl ?_
      refine z_iadd C dX9_letter_290 ?_
      refine z_iload C dX9_letter_291 4 rfl ?_
      refine z_iload_n C dX9_letter_293 rfl 1 rfl ?_
      refine z_icmp_ne C (tgt := 301) dX9_letter_294 (by decide) (fun h => ?_) (fun h => ?_)
      · replace hw := hw.1 h
        refine z_iconst C 0 dX9_letter_301 (by decide) ?_
        refine z_zast C za_82 (by decide) (Int32.toNatClampNeg (((40 : Int32) * r39) + v7)) rfl hw.1 dX9_letter_302 (z_nms (fun s41 es41 => ?_))
        replace hw := hw.2
        replace hw := hw s41 es41
        refine z_iinc C (v7 + 1) [(7, .int (v7 + 1)), (0, .ref ((zXE X).1 54 0)), (1, .int a1), (4, .int a4), (5, .int v5), (6, .int v6)] dX9_letter_303 5 rfl rfl (by decide) rfl ?_
        refine z_goto C (tgt := 267) dX9_letter_306 (by decide) ?_
        exact z_lv [1, 2, 3, 4, 5, 0] rfl hw
      · replace hw := hw.2 h
        refine z_iconst C 1 dX9_letter_297 (by decide) ?_
        refine z_goto C (tgt := 302) dX9_letter_298 (by decide) ?_
        refine z_zast C za_82 (by decide) (Int32.toNatClampNeg (((40 : Int32) * r39) + v7)) rfl hw.1 dX9_letter_302 (z_nms (fun s42 es42 => ?_))
        replace hw := hw.2
        replace hw := hw s42 es42
        refine z_iinc C (v7 + 1) [(7, .int (v7 + 1)), (0, .ref ((zXE X).1 54 0)), (1, .int a1), (4, .int a4), (5, .int v5), (6, .int v6)] dX9_letter_303 5 rfl rfl (by decide) rfl ?_
        refine z_goto C (tgt := 267) dX9_letter_306 (by decide) ?_
        exact z_lv [1, 2, 3, 4, 5, 0] rfl hw
  refine z_aload_n C dX9_letter_0 rfl 0 rfl ?_
  refine z_iload_n C dX9_letter_1 rfl 1 rfl ?_
  refine z_callV C (by decide) M_X9_isTown Mv_X9_isTown kw_m_X9_146 ob_X9 (t_X9_isTown hw) rfl rfl (Nat.le_of_ble_eq_true rfl) dX9_letter_2 (z_kb (fun r1 s2 hr1 hw => ?_))
  refine z_if_eq C (tgt := 34) dX9_letter_5 (by decide) (fun h => ?_) (fun h => ?_)
  · replace hw := hw.1 h
    refine z_aload_n C dX9_letter_34 rfl 0 rfl ?_
    refine z_iconst C 1 dX9_letter_35 (by decide) ?_
    refine z_callV C (by decide) M_X9_refuse Mv_X9_refuse kw_m_X9_139 ob_X9 (t_X9_refuse hw) rfl rfl (Nat.le_of_ble_eq_true rfl) dX9_letter_36 (z_ki (fun r3 s4 hw => ?_))
    exact z_ireturn C D dX9_letter_39 ⟨_, rfl, hw⟩
  · replace hw := hw.2 h
    refine z_iload_n C dX9_letter_8 rfl 2 rfl ?_
    refine z_callS C (by decide) M_X9_isTray Ms_X9_isTray kw_m_X9_116 (t_X9_isTray hw) rfl rfl (Nat.le_of_ble_eq_true rfl) dX9_letter_9 (z_kb (fun r5 s6 hr5 hw => ?_))
    refine z_if_eq C (tgt := 34) dX9_letter_12 (by decide) (fun h => ?_) (fun h => ?_)
    · replace hw := hw.1 h
      refine z_aload_n C dX9_letter_34 rfl 0 rfl ?_
      refine z_iconst C 1 dX9_letter_35 (by decide) ?_
      refine z_callV C (by decide) M_X9_refuse Mv_X9_refuse kw_m_X9_139 ob_X9 (t_X9_refuse hw) rfl rfl (Nat.le_of_ble_eq_true rfl) dX9_letter_36 (z_ki (fun r7 s8 hw => ?_))
      exact z_ireturn C D dX9_letter_39 ⟨_, rfl, hw⟩
    · replace hw := hw.2 h
      refine z_iload_n C dX9_letter_15 rfl 3 rfl ?_
      refine z_iconst C 1 dX9_letter_16 (by decide) ?_
      refine z_icmp_lt C (tgt := 34) dX9_letter_17 (by decide) (fun h => ?_) (fun h => ?_)
      · replace hw := hw.1 h
        refine z_aload_n C dX9_letter_34 rfl 0 rfl ?_
        refine z_iconst C 1 dX9_letter_35 (by decide) ?_
        refine z_callV C (by decide) M_X9_refuse Mv_X9_refuse kw_m_X9_139 ob_X9 (t_X9_refuse hw) rfl rfl (Nat.le_of_ble_eq_true rfl) dX9_letter_36 (z_ki (fun r9 s10 hw => ?_))
        exact z_ireturn C D dX9_letter_39 ⟨_, rfl, hw⟩
      · replace hw := hw.2 h
        refine z_iload_n C dX9_letter_20 rfl 3 rfl ?_
        refine z_bipush C 40 dX9_letter_21 (by decide) ?_
        refine z_icmp_gt C (tgt := 34) dX9_letter_23 (by decide) (fun h => ?_) (fun h => ?_)
        · replace hw := hw.1 h
          refine z_aload_n C dX9_letter_34 rfl 0 rfl ?_
          refine z_iconst C 1 dX9_letter_35 (by decide) ?_
          refine z_callV C (by decide) M_X9_refuse Mv_X9_refuse kw_m_X9_139 ob_X9 (t_X9_refuse hw) rfl rfl (Nat.le_of_ble_eq_true rfl) dX9_letter_36 (z_ki (fun r11 s12 hw => ?_))
          exact z_ireturn C D dX9_letter_39 ⟨_, rfl, hw⟩
        · replace hw := hw.2 h
          refine z_iload C dX9_letter_26 4 rfl ?_
          refine z_callS C (by decide) M_X9_isMinute Ms_X9_isMinute kw_m_X9_226 (t_X9_isMinute hw) rfl rfl (Nat.le_of_ble_eq_true rfl) dX9_letter_28 (z_kb (fun r13 s14 hr13 hw => ?_))
          refine z_if_ne C (tgt := 40) dX9_letter_31 (by decide) (fun h => ?_) (fun h => ?_)
          · replace hw := hw.1 h
            refine z_iload C dX9_letter_40 4 rfl ?_
            refine z_aload_n C dX9_letter_42 rfl 0 rfl ?_
            refine f_X9_229 C dX9_letter_43 ?_
            refine z_icmp_ge C (tgt := 55) dX9_letter_46 (by decide) (fun h => ?_) (fun h => ?_)
            · replace hw := hw.1 h
              refine z_aload_n C dX9_letter_55 rfl 0 rfl ?_
              refine f_X9_17 C dX9_letter_56 ?_
              refine z_iload_n C dX9_letter_59 rfl 2 rfl ?_
              refine z_iald C za_56 (by decide) (Int32.toNatClampNeg a2) rfl hw.1 dX9_letter_60 ?_
              replace hw := hw.2
              refine z_iconst C (-1) dX9_letter_61 (by decide) ?_
              refine z_icmp_ne C (tgt := 71) dX9_letter_62 (by decide) (fun h => ?_) (fun h => ?_)
              · replace hw := hw.1 h
                refine z_iload_n C dX9_letter_71 rfl 3 rfl ?_
                refine z_aload_n C dX9_letter_72 rfl 0 rfl ?_
                refine f_X9_17 C dX9_letter_73 ?_
                refine z_iload_n C dX9_letter_76 rfl 2 rfl ?_
                refine z_iald C za_56 (by decide) (Int32.toNatClampNeg a2) rfl hw.1 dX9_letter_77 ?_
                replace hw := hw.2
                refine z_icmp_le C (tgt := 87) dX9_letter_78 (by decide) (fun h => ?_) (fun h => ?_)
                · replace hw := hw.1 h
                  refine z_iconst C 0 dX9_letter_87 (by decide) ?_
                  refine z_istore C [(5, .int (0 : Int32)), (0, .ref ((zXE X).1 54 0)), (1, .int a1), (2, .int a2), (3, .int a3), (4, .int a4)] dX9_letter_88 (by decide) rfl ?_
                  exact z_lv [1, 2, 3, 4, 5, 0] rfl hw
                · replace hw := hw.2 h
                  refine z_aload_n C dX9_letter_81 rfl 0 rfl ?_
                  refine z_iconst C 4 dX9_letter_82 (by decide) ?_
                  refine z_callV C (by decide) M_X9_refuse Mv_X9_refuse kw_m_X9_139 ob_X9 (t_X9_refuse hw) rfl rfl (Nat.le_of_ble_eq_true rfl) dX9_letter_83 (z_ki (fun r15 s16 hw => ?_))
                  exact z_ireturn C D dX9_letter_86 ⟨_, rfl, hw⟩
              · replace hw := hw.2 h
                refine z_aload_n C dX9_letter_65 rfl 0 rfl ?_
                refine z_iconst C 3 dX9_letter_66 (by decide) ?_
                refine z_callV C (by decide) M_X9_refuse Mv_X9_refuse kw_m_X9_139 ob_X9 (t_X9_refuse hw) rfl rfl (Nat.le_of_ble_eq_true rfl) dX9_letter_67 (z_ki (fun r17 s18 hw => ?_))
                exact z_ireturn C D dX9_letter_70 ⟨_, rfl, hw⟩
            · replace hw := hw.2 h
              refine z_aload_n C dX9_letter_49 rfl 0 rfl ?_
              refine z_iconst C 2 dX9_letter_50 (by decide) ?_
              refine z_callV C (by decide) M_X9_refuse Mv_X9_refuse kw_m_X9_139 ob_X9 (t_X9_refuse hw) rfl rfl (Nat.le_of_ble_eq_true rfl) dX9_letter_51 (z_ki (fun r19 s20 hw => ?_))
              exact z_ireturn C D dX9_letter_54 ⟨_, rfl, hw⟩
          · replace hw := hw.2 h
            refine z_aload_n C dX9_letter_34 rfl 0 rfl ?_
            refine z_iconst C 1 dX9_letter_35 (by decide) ?_
            refine z_callV C (by decide) M_X9_refuse Mv_X9_refuse kw_m_X9_139 ob_X9 (t_X9_refuse hw) rfl rfl (Nat.le_of_ble_eq_true rfl) dX9_letter_36 (z_ki (fun r21 s22 hw => ?_))
            exact z_ireturn C D dX9_letter_39 ⟨_, rfl, hw⟩
set_option maxHeartbeats 4000000 in
set_option maxRecDepth 100000 in
theorem t_X8_isLetter {l : Launch} {E : zE} {a1 : Int32} {s0 : zS} {Q : Int32 → zS → Prop}  (hw : Wp_X8_isLetter a1 s0 Q) : zT l 2 E yX8_isLetter cX8_isLetter 2 (some .boolean) [.ref (E.1 0 0), .int a1] s0 (zQb Q) := by
  unfold Wp_X8_isLetter at hw
  refine z_entry rfl (Nat.le_of_ble_eq_true rfl) rfl ?_
  intro X C D hl hE
  subst hl; subst hE
  have C : zC X cX8_isLetter RX8 2 2 := C
  refine z_iload_n C dX8_isLetter_0 rfl 1 rfl ?_
  refine z_iconst C 0 dX8_isLetter_1 (by decide) ?_
  refine z_aload_n C dX8_isLetter_2 rfl 0 rfl ?_
  refine f_X8_56 C dX8_isLetter_3 ?_
  refine f_X8_327 C dX8_isLetter_6 ?_
  refine z_iconst C 1 dX8_isLetter_9 (by decide) ?_
  refine z_isub C dX8_isLetter_10 ?_
  refine z_callS C (by decide) M_X8_within Ms_X8_within kw_m_X8_85 (t_X8_within hw) rfl rfl (Nat.le_of_ble_eq_true rfl) dX8_isLetter_11 (z_kb (fun r1 s2 hr1 hw => ?_))
  exact z_zreturn C D dX8_isLetter_14 hr1 ⟨_, rfl, hr1, hw⟩
set_option maxHeartbeats 4000000 in
set_option maxRecDepth 100000 in
theorem t_X1_canFlyOff {l : Launch} {E : zE} {a1 : Int32} {a2 : Int32} {s0 : zS} {Q : Int32 → zS → Prop}  (hw : Wp_X1_canFlyOff a1 a2 s0 Q) : zT l 1 E yX1_canFlyOff cX1_canFlyOff 3 (some .boolean) [.ref (E.1 14 0), .int a1, .int a2] s0 (zQb Q) := by
  unfold Wp_X1_canFlyOff at hw
  refine z_entry rfl (Nat.le_of_ble_eq_true rfl) rfl ?_
  intro X C D hl hE
  subst hl; subst hE
  have C : zC X cX1_canFlyOff RX1 3 1 := C
  refine z_aload_n C dX1_canFlyOff_0 rfl 0 rfl ?_
  refine f_X1_22 C dX1_canFlyOff_1 ?_
  refine z_iload_n C dX1_canFlyOff_4 rfl 1 rfl ?_
  refine z_iald C za_17 (by decide) (Int32.toNatClampNeg a1) rfl hw.1 dX1_canFlyOff_5 ?_
  replace hw := hw.2
  refine z_if_ne C (tgt := 38) dX1_canFlyOff_6 (by decide) (fun h => ?_) (fun h => ?_)
  · replace hw := hw.1 h
    refine z_iconst C 0 dX1_canFlyOff_38 (by decide) ?_
    exact z_zreturn C D dX1_canFlyOff_39 (Or.inl rfl) ⟨_, rfl, (Or.inl rfl), hw⟩
  · replace hw := hw.2 h
    refine z_iload_n C dX1_canFlyOff_9 rfl 2 rfl ?_
    refine z_aload_n C dX1_canFlyOff_10 rfl 0 rfl ?_
    refine f_X1_25 C dX1_canFlyOff_11 ?_
    refine z_iload_n C dX1_canFlyOff_14 rfl 1 rfl ?_
    refine z_iald C za_18 (by decide) (Int32.toNatClampNeg a1) rfl hw.1 dX1_canFlyOff_15 ?_
    replace hw := hw.2
    refine z_icmp_lt C (tgt := 38) dX1_canFlyOff_16 (by decide) (fun h => ?_) (fun h => ?_)
    · replace hw := hw.1 h
      refine z_iconst C 0 dX1_canFlyOff_38 (by decide) ?_
      exact z_zreturn C D dX1_canFlyOff_39 (Or.inl rfl) ⟨_, rfl, (Or.inl rfl), hw⟩
    · replace hw := hw.2 h
      refine z_aload_n C dX1_canFlyOff_19 rfl 0 rfl ?_
      refine f_X1_19 C dX1_canFlyOff_20 ?_
      refine z_iload_n C dX1_canFlyOff_23 rfl 1 rfl ?_
      refine z_iald C za_16 (by decide) (Int32.toNatClampNeg a1) rfl hw.1 dX1_canFlyOff_24 ?_
      replace hw := hw.2
      refine z_aload_n C dX1_canFlyOff_25 rfl 0 rfl ?_
      refine f_X1_15 C dX1_canFlyOff_26 ?_
      refine z_iload_n C dX1_canFlyOff_29 rfl 1 rfl ?_
      refine z_iald C za_15 (by decide) (Int32.toNatClampNeg a1) rfl hw.1 dX1_canFlyOff_30 ?_
      replace hw := hw.2
      refine z_icmp_eq C (tgt := 38) dX1_canFlyOff_31 (by decide) (fun h => ?_) (fun h => ?_)
      · replace hw := hw.1 h
        refine z_iconst C 0 dX1_canFlyOff_38 (by decide) ?_
        exact z_zreturn C D dX1_canFlyOff_39 (Or.inl rfl) ⟨_, rfl, (Or.inl rfl), hw⟩
      · replace hw := hw.2 h
        refine z_iconst C 1 dX1_canFlyOff_34 (by decide) ?_
        refine z_goto C (tgt := 39) dX1_canFlyOff_35 (by decide) ?_
        exact z_zreturn C D dX1_canFlyOff_39 (Or.inr rfl) ⟨_, rfl, (Or.inr rfl), hw⟩
set_option maxHeartbeats 4000000 in
set_option maxRecDepth 100000 in
theorem t_X8_flyFault {l : Launch} {E : zE} {a1 : Int32} {a2 : Int32} {a3 : Int32} {s0 : zS} {Q : Int32 → zS → Prop}  (hw : Wp_X8_flyFault a1 a2 a3 s0 Q) : zT l 3 E yX8_flyFault cX8_flyFault 5 (some .int) [.ref (E.1 0 0), .int a1, .int a2, .int a3] s0 (zQi Q) := by
  unfold Wp_X8_flyFault at hw
  refine z_entry rfl (Nat.le_of_ble_eq_true rfl) rfl ?_
  intro X C D hl hE
  subst hl; subst hE
  have C : zC X cX8_flyFault RX8 5 3 := C
  refine z_aload_n C dX8_flyFault_0 rfl 0 rfl ?_
  refine z_iload_n C dX8_flyFault_1 rfl 1 rfl ?_
  refine z_callV C (by decide) M_X8_isBird Mv_X8_isBird kw_m_X8_161 ob_X8 (t_X8_isBird hw) rfl rfl (Nat.le_of_ble_eq_true rfl) dX8_flyFault_2 (z_kb (fun r1 s2 hr1 hw => ?_))
  refine z_if_eq C (tgt := 23) dX8_flyFault_5 (by decide) (fun h => ?_) (fun h => ?_)
  · replace hw := hw.1 h
    refine z_iconst C 1 dX8_flyFault_23 (by decide) ?_
    exact z_ireturn C D dX8_flyFault_24 ⟨_, rfl, hw⟩
  · replace hw := hw.2 h
    refine z_aload_n C dX8_flyFault_8 rfl 0 rfl ?_
    refine z_iload_n C dX8_flyFault_9 rfl 2 rfl ?_
    refine z_callV C (by decide) M_X8_isLetter Mv_X8_isLetter kw_m_X8_275 ob_X8 (t_X8_isLetter hw) rfl rfl (Nat.le_of_ble_eq_true rfl) dX8_flyFault_10 (z_kb (fun r3 s4 hr3 hw => ?_))
    refine z_if_eq C (tgt := 23) dX8_flyFault_13 (by decide) (fun h => ?_) (fun h => ?_)
    · replace hw := hw.1 h
      refine z_iconst C 1 dX8_flyFault_23 (by decide) ?_
      exact z_ireturn C D dX8_flyFault_24 ⟨_, rfl, hw⟩
    · replace hw := hw.2 h
      refine z_iload_n C dX8_flyFault_16 rfl 3 rfl ?_
      refine z_callS C (by decide) M_X8_isMinute Ms_X8_isMinute kw_m_X8_321 (t_X8_isMinute hw) rfl rfl (Nat.le_of_ble_eq_true rfl) dX8_flyFault_17 (z_kb (fun r5 s6 hr5 hw => ?_))
      refine z_if_ne C (tgt := 25) dX8_flyFault_20 (by decide) (fun h => ?_) (fun h => ?_)
      · replace hw := hw.1 h
        refine z_iload_n C dX8_flyFault_25 rfl 3 rfl ?_
        refine z_aload_n C dX8_flyFault_26 rfl 0 rfl ?_
        refine f_X8_71 C dX8_flyFault_27 ?_
        refine z_icmp_ge C (tgt := 35) dX8_flyFault_30 (by decide) (fun h => ?_) (fun h => ?_)
        · replace hw := hw.1 h
          refine z_aload_n C dX8_flyFault_35 rfl 0 rfl ?_
          refine f_X8_33 C dX8_flyFault_36 ?_
          refine z_iload_n C dX8_flyFault_39 rfl 1 rfl ?_
          refine z_iload_n C dX8_flyFault_40 rfl 3 rfl ?_
          refine z_callV C (by decide) M_X1_canFlyOff Mv_X1_canFlyOff kw_m_X8_328 ob_X1 (t_X1_canFlyOff hw) rfl rfl (Nat.le_of_ble_eq_true rfl) dX8_flyFault_41 (z_kb (fun r7 s8 hr7 hw => ?_))
          refine z_if_ne C (tgt := 50) dX8_flyFault_44 (by decide) (fun h => ?_) (fun h => ?_)
          · replace hw := hw.1 h
            refine z_aload_n C dX8_flyFault_50 rfl 0 rfl ?_
            refine f_X8_33 C dX8_flyFault_51 ?_
            refine f_X8_331 C dX8_flyFault_54 ?_
            refine z_iload_n C dX8_flyFault_57 rfl 1 rfl ?_
            refine z_iald C za_16 (by decide) (Int32.toNatClampNeg a1) rfl hw.1 dX8_flyFault_58 ?_
            replace hw := hw.2
            refine z_nmi (fun x9 ex9 => ?_)
            replace hw := hw x9 ex9
            refine z_istore C [(4, .int x9), (0, .ref ((zXE X).1 0 0)), (1, .int a1), (2, .int a2), (3, .int a3)] dX8_flyFault_59 (by decide) rfl ?_
            refine z_aload_n C dX8_flyFault_61 rfl 1 rfl ?_
            refine f_X8_26 C dX8_flyFault_62 ?_
            refine z_iload C dX8_flyFault_65 0 rfl ?_
            refine z_aload_n C dX8_flyFault_67 rfl 1 rfl ?_
            refine f_X8_33 C dX8_flyFault_68 ?_
            refine f_X8_259 C dX8_flyFault_71 ?_
            refine z_iload_n C dX8_flyFault_74 rfl 2 rfl ?_
            refine z_iald C za_15 (by decide) (Int32.toNatClampNeg a1) rfl hw.1 dX8_flyFault_75 ?_
            replace hw := hw.2
            refine z_callV C (by decide) M_X6_isRoad Mv_X6_isRoad kw_m_X8_311 ob_X6 (t_X6_isRoad hw) rfl rfl (Nat.le_of_ble_eq_true rfl) dX8_flyFault_76 (z_kb (fun r10 s11 hr10 hw => ?_))
            refine z_if_ne C (tgt := 85) dX8_flyFault_79 (by decide) (fun h => ?_) (fun h => ?_)
            · replace hw := hw.1 h
              refine z_aload_n C dX8_flyFault_85 rfl 1 rfl ?_
              refine f_X8_56 C dX8_flyFault_86 ?_
              refine f_X8_278 C dX8_flyFault_89 ?_
              refine z_iload_n C dX8_flyFault_92 rfl 3 rfl ?_
              have hb12 := zin_lt hw.1
              refine z_aald C za_44 (by decide) rfl (Int32.toNatClampNeg a2) rfl hw.1 dX8_flyFault_93 ?_
              replace hw := hw.2
              refine z_iload C dX8_flyFault_94 0 rfl ?_
              refine z_iald C za_45 hb12 (Int32.toNatClampNeg x9) rfl hw.1 dX8_flyFault_96 ?_
              replace hw := hw.2
              refine z_iconst C (-1) dX8_flyFault_97 (by decide) ?_
              refine z_icmp_ne C (tgt := 106) dX8_flyFault_98 (by decide) (fun h => ?_) (fun h => ?_)
              · replace hw := hw.1 h
                refine z_iconst C 0 dX8_flyFault_106 (by decide) ?_
                exact z_ireturn C D dX8_flyFault_107 ⟨_, rfl, hw⟩
              · replace hw := hw.2 h
                refine z_bipush C 7 dX8_flyFault_101 (by decide) ?_
                refine z_goto C (tgt := 107) dX8_flyFault_103 (by decide) ?_
                exact z_ireturn C D dX8_flyFault_107 ⟨_, rfl, hw⟩
            · replace hw := hw.2 h
              refine z_bipush C 6 dX8_flyFault_82 (by decide) ?_
              exact z_ireturn C D dX8_flyFault_84 ⟨_, rfl, hw⟩
          · replace hw := hw.2 h
            refine z_bipush C 7 dX8_flyFault_47 (by decide) ?_
            exact z_ireturn C D dX8_flyFault_49 ⟨_, rfl, hw⟩
        · replace hw := hw.2 h
          refine z_iconst C 2 dX8_flyFault_33 (by decide) ?_
          exact z_ireturn C D dX8_flyFault_34 ⟨_, rfl, hw⟩
      · replace hw := hw.2 h
        refine z_iconst C 1 dX8_flyFault_23 (by decide) ?_
        exact z_ireturn C D dX8_flyFault_24 ⟨_, rfl, hw⟩
set_option maxHeartbeats 4000000 in
set_option maxRecDepth 100000 in
theorem t_X1_flyOff {l : Launch} {E : zE} {a1 : Int32} {a2 : Int32} {s0 : zS} {Q : zS → Prop}  (hw : Wp_X1_flyOff a1 a2 s0 Q) : zT l 2 E yX1_flyOff cX1_flyOff 3 none [.ref (E.1 14 0), .int a1, .int a2] s0 (zQv Q) := by
  unfold Wp_X1_flyOff at hw
  refine z_entry rfl (Nat.le_of_ble_eq_true rfl) rfl ?_
  intro X C D hl hE
  subst hl; subst hE
  have C : zC X cX1_flyOff RX1 3 2 := C
  refine z_aload_n C dX1_flyOff_0 rfl 0 rfl ?_
  refine z_iload_n C dX1_flyOff_1 rfl 1 rfl ?_
  refine z_callV C (by decide) M_X1_leave Mv_X1_leave kw_m_X1_40 ob_X1 (t_X1_leave hw) rfl rfl (Nat.le_of_ble_eq_true rfl) dX1_flyOff_2 (z_kv (fun s2 hw => ?_))
  refine z_aload_n C dX1_flyOff_5 rfl 0 rfl ?_
  refine f_X1_22 C dX1_flyOff_6 ?_
  refine z_iload_n C dX1_flyOff_9 rfl 1 rfl ?_
  refine z_iconst C 1 dX1_flyOff_10 (by decide) ?_
  refine z_iast C za_17 (by decide) (Int32.toNatClampNeg a1) rfl hw.1 dX1_flyOff_11 (z_nms (fun s3 es3 => ?_))
  replace hw := hw.2
  replace hw := hw s3 es3
  refine z_aload_n C dX1_flyOff_12 rfl 0 rfl ?_
  refine f_X1_28 C dX1_flyOff_13 ?_
  refine z_iload_n C dX1_flyOff_16 rfl 1 rfl ?_
  refine z_iload_n C dX1_flyOff_17 rfl 2 rfl ?_
  refine z_iast C za_19 (by decide) (Int32.toNatClampNeg a1) rfl hw.1 dX1_flyOff_18 (z_nms (fun s4 es4 => ?_))
  replace hw := hw.2
  replace hw := hw s4 es4
  exact z_vreturn C D dX1_flyOff_19 ⟨rfl, hw⟩
set_option maxHeartbeats 4000000 in
set_option maxRecDepth 100000 in
theorem t_X8_fly {l : Launch} {E : zE} {a1 : Int32} {a2 : Int32} {a3 : Int32} {s0 : zS} {Q : Int32 → zS → Prop}  (hw : Wp_X8_fly a1 a2 a3 s0 Q) : zT l 4 E yX8_fly cX8_fly 4 (some .boolean) [.ref (E.1 0 0), .int a1, .int a2, .int a3] s0 (zQb Q) := by
  unfold Wp_X8_fly at hw
  refine z_entry rfl (Nat.le_of_ble_eq_true rfl) rfl ?_
  intro X C D hl hE
  subst hl; subst hE
  have C : zC X cX8_fly RX8 4 4 := C
  refine z_aload_n C dX8_fly_0 rfl 0 rfl ?_
  refine z_aload_n C dX8_fly_1 rfl 0 rfl ?_
  refine z_iload_n C dX8_fly_2 rfl 1 rfl ?_
  refine z_iload_n C dX8_fly_3 rfl 2 rfl ?_
  refine z_iload_n C dX8_fly_4 rfl 3 rfl ?_
  refine z_callV C (by decide) M_X8_flyFault Mv_X8_flyFault kw_m_X8_245 ob_X8 (t_X8_flyFault hw) rfl rfl (Nat.le_of_ble_eq_true rfl) dX8_fly_5 (z_ki (fun r1 s2 hw => ?_))
  refine p_X8_67 C dX8_fly_8 (z_nms (fun s3 es3 => ?_))
  replace hw := hw s3 es3
  refine z_aload_n C dX8_fly_11 rfl 0 rfl ?_
  refine f_X8_67 C dX8_fly_12 ?_
  refine z_if_eq C (tgt := 20) dX8_fly_15 (by decide) (fun h => ?_) (fun h => ?_)
  · replace hw := hw.1 h
    refine z_aload_n C dX8_fly_20 rfl 0 rfl ?_
    refine z_iload_n C dX8_fly_21 rfl 3 rfl ?_
    refine p_X8_71 C dX8_fly_22 (z_nms (fun s4 es4 => ?_))
    replace hw := hw s4 es4
    refine z_aload_n C dX8_fly_25 rfl 0 rfl ?_
    refine f_X8_33 C dX8_fly_26 ?_
    refine z_iload_n C dX8_fly_29 rfl 1 rfl ?_
    refine z_iload_n C dX8_fly_30 rfl 2 rfl ?_
    refine z_callV C (by decide) M_X1_flyOff Mv_X1_flyOff kw_m_X8_248 ob_X1 (t_X1_flyOff hw) rfl rfl (Nat.le_of_ble_eq_true rfl) dX8_fly_31 (z_kv (fun s6 hw => ?_))
    refine z_aload_n C dX8_fly_34 rfl 0 rfl ?_
    refine f_X8_56 C dX8_fly_35 ?_
    refine f_X8_251 C dX8_fly_38 ?_
    refine z_iload_n C dX8_fly_41 rfl 2 rfl ?_
    have hb7 := zin_lt hw.1
    refine z_aald C za_42 (by decide) rfl (Int32.toNatClampNeg a2) rfl hw.1 dX8_fly_42 ?_
    replace hw := hw.2
    refine z_iconst C 0 dX8_fly_43 (by decide) ?_
    refine z_dup2_11 C dX8_fly_44 rfl rfl ?_
    refine z_iald C za_43 hb7 0 (by decide) (vp_in_iff.mpr (by decide)) dX8_fly_45 ?_
    refine z_iconst C 1 dX8_fly_46 (by decide) ?_
    refine z_iadd C dX8_fly_47 ?_
    refine z_iast C za_43 hb7 0 (by decide) (vp_in_iff.mpr (by decide)) dX8_fly_48 (z_nms (fun s8 es8 => ?_))
    replace hw := hw s8 es8
    refine z_iconst C 1 dX8_fly_49 (by decide) ?_
    exact z_zreturn C D dX8_fly_50 (Or.inr rfl) ⟨_, rfl, (Or.inr rfl), hw⟩
  · replace hw := hw.2 h
    refine z_iconst C 0 dX8_fly_18 (by decide) ?_
    exact z_zreturn C D dX8_fly_19 (Or.inl rfl) ⟨_, rfl, (Or.inl rfl), hw⟩
set_option maxHeartbeats 4000000 in
set_option maxRecDepth 100000 in
theorem t_X9_isLetter {l : Launch} {E : zE} {a1 : Int32} {s0 : zS} {Q : Int32 → zS → Prop}  (hw : Wp_X9_isLetter a1 s0 Q) : zT l 1 E yX9_isLetter cX9_isLetter 2 (some .boolean) [.ref (E.1 54 0), .int a1] s0 (zQb Q) := by
  unfold Wp_X9_isLetter at hw
  refine z_entry rfl (Nat.le_of_ble_eq_true rfl) rfl ?_
  intro X C D hl hE
  subst hl; subst hE
  have C : zC X cX9_isLetter RX9 2 1 := C
  refine z_iload_n C dX9_isLetter_0 rfl 1 rfl ?_
  refine z_if_lt C (tgt := 16) dX9_isLetter_1 (by decide) (fun h => ?_) (fun h => ?_)
  · replace hw := hw.1 h
    refine z_iconst C 0 dX9_isLetter_16 (by decide) ?_
    exact z_zreturn C D dX9_isLetter_17 (Or.inl rfl) ⟨_, rfl, (Or.inl rfl), hw⟩
  · replace hw := hw.2 h
    refine z_iload_n C dX9_isLetter_4 rfl 1 rfl ?_
    refine z_aload_n C dX9_isLetter_5 rfl 0 rfl ?_
    refine f_X9_222 C dX9_isLetter_6 ?_
    refine z_icmp_ge C (tgt := 16) dX9_isLetter_9 (by decide) (fun h => ?_) (fun h => ?_)
    · replace hw := hw.1 h
      refine z_iconst C 0 dX9_isLetter_16 (by decide) ?_
      exact z_zreturn C D dX9_isLetter_17 (Or.inl rfl) ⟨_, rfl, (Or.inl rfl), hw⟩
    · replace hw := hw.2 h
      refine z_iconst C 1 dX9_isLetter_12 (by decide) ?_
      refine z_goto C (tgt := 17) dX9_isLetter_13 (by decide) ?_
      exact z_zreturn C D dX9_isLetter_17 (Or.inr rfl) ⟨_, rfl, (Or.inr rfl), hw⟩
set_option maxHeartbeats 4000000 in
set_option maxRecDepth 100000 in
theorem t_X9_fly {l : Launch} {E : zE} {a1 : Int32} {a2 : Int32} {a3 : Int32} {s0 : zS} {Q : Int32 → zS → Prop}  (hw : Wp_X9_fly a1 a2 a3 s0 Q) : zT l 2 E yX9_fly cX9_fly 4 (some .boolean) [.ref (E.1 54 0), .int a1, .int a2, .int a3] s0 (zQb Q) := by
  unfold Wp_X9_fly at hw
  refine z_entry rfl (Nat.le_of_ble_eq_true rfl) rfl ?_
  intro X C D hl hE
  subst hl; subst hE
  have C : zC X cX9_fly RX9 4 2 := C
  refine z_aload_n C dX9_fly_0 rfl 0 rfl ?_
  refine z_iload_n C dX9_fly_1 rfl 1 rfl ?_
  refine z_callV C (by decide) M_X9_isBird Mv_X9_isBird kw_m_X9_149 ob_X9 (t_X9_isBird hw) rfl rfl (Nat.le_of_ble_eq_true rfl) dX9_fly_2 (z_kb (fun r1 s2 hr1 hw => ?_))
  refine z_if_eq C (tgt := 23) dX9_fly_5 (by decide) (fun h => ?_) (fun h => ?_)
  · replace hw := hw.1 h
    refine z_aload_n C dX9_fly_23 rfl 0 rfl ?_
    refine z_iconst C 1 dX9_fly_24 (by decide) ?_
    refine z_callV C (by decide) M_X9_is Mv_X9_is kw_m_X9_120 ob_X9 (t_X9_is hw) rfl rfl (Nat.le_of_ble_eq_true rfl) dX9_fly_25 (z_kb (fun r3 s4 hr3 hw => ?_))
    exact z_zreturn C D dX9_fly_28 hr3 ⟨_, rfl, hr3, hw⟩
  · replace hw := hw.2 h
    refine z_aload_n C dX9_fly_8 rfl 0 rfl ?_
    refine z_iload_n C dX9_fly_9 rfl 2 rfl ?_
    refine z_callV C (by decide) M_X9_isLetter Mv_X9_isLetter kw_m_X9_237 ob_X9 (t_X9_isLetter hw) rfl rfl (Nat.le_of_ble_eq_true rfl) dX9_fly_10 (z_kb (fun r5 s6 hr5 hw => ?_))
    refine z_if_eq C (tgt := 23) dX9_fly_13 (by decide) (fun h => ?_) (fun h => ?_)
    · replace hw := hw.1 h
      refine z_aload_n C dX9_fly_23 rfl 0 rfl ?_
      refine z_iconst C 1 dX9_fly_24 (by decide) ?_
      refine z_callV C (by decide) M_X9_is Mv_X9_is kw_m_X9_120 ob_X9 (t_X9_is hw) rfl rfl (Nat.le_of_ble_eq_true rfl) dX9_fly_25 (z_kb (fun r7 s8 hr7 hw => ?_))
      exact z_zreturn C D dX9_fly_28 hr7 ⟨_, rfl, hr7, hw⟩
    · replace hw := hw.2 h
      refine z_iload_n C dX9_fly_16 rfl 3 rfl ?_
      refine z_callS C (by decide) M_X9_isMinute Ms_X9_isMinute kw_m_X9_226 (t_X9_isMinute hw) rfl rfl (Nat.le_of_ble_eq_true rfl) dX9_fly_17 (z_kb (fun r9 s10 hr9 hw => ?_))
      refine z_if_ne C (tgt := 29) dX9_fly_20 (by decide) (fun h => ?_) (fun h => ?_)
      · replace hw := hw.1 h
        refine z_iload_n C dX9_fly_29 rfl 3 rfl ?_
        refine z_aload_n C dX9_fly_30 rfl 0 rfl ?_
        refine f_X9_229 C dX9_fly_31 ?_
        refine z_icmp_ge C (tgt := 43) dX9_fly_34 (by decide) (fun h => ?_) (fun h => ?_)
        · replace hw := hw.1 h
          refine z_aload_n C dX9_fly_43 rfl 0 rfl ?_
          refine f_X9_45 C dX9_fly_44 ?_
          refine z_iload_n C dX9_fly_47 rfl 1 rfl ?_
          refine z_iald C za_65 (by decide) (Int32.toNatClampNeg a1) rfl hw.1 dX9_fly_48 ?_
          replace hw := hw.2
          refine z_if_ne C (tgt := 77) dX9_fly_49 (by decide) (fun h => ?_) (fun h => ?_)
          · replace hw := hw.1 h
            refine z_aload_n C dX9_fly_77 rfl 0 rfl ?_
            refine z_bipush C 7 dX9_fly_78 (by decide) ?_
            refine z_callV C (by decide) M_X9_is Mv_X9_is kw_m_X9_120 ob_X9 (t_X9_is hw) rfl rfl (Nat.le_of_ble_eq_true rfl) dX9_fly_80 (z_kb (fun r11 s12 hr11 hw => ?_))
            exact z_zreturn C D dX9_fly_83 hr11 ⟨_, rfl, hr11, hw⟩
          · replace hw := hw.2 h
            refine z_aload_n C dX9_fly_52 rfl 0 rfl ?_
            refine f_X9_48 C dX9_fly_53 ?_
            refine z_iload_n C dX9_fly_56 rfl 1 rfl ?_
            refine z_iald C za_66 (by decide) (Int32.toNatClampNeg a1) rfl hw.1 dX9_fly_57 ?_
            replace hw := hw.2
            refine z_iload_n C dX9_fly_58 rfl 3 rfl ?_
            refine z_icmp_gt C (tgt := 77) dX9_fly_59 (by decide) (fun h => ?_) (fun h => ?_)
            · replace hw := hw.1 h
              refine z_aload_n C dX9_fly_77 rfl 0 rfl ?_
              refine z_bipush C 7 dX9_fly_78 (by decide) ?_
              refine z_callV C (by decide) M_X9_is Mv_X9_is kw_m_X9_120 ob_X9 (t_X9_is hw) rfl rfl (Nat.le_of_ble_eq_true rfl) dX9_fly_80 (z_kb (fun r13 s14 hr13 hw => ?_))
              exact z_zreturn C D dX9_fly_83 hr13 ⟨_, rfl, hr13, hw⟩
            · replace hw := hw.2 h
              refine z_aload_n C dX9_fly_62 rfl 0 rfl ?_
              refine f_X9_42 C dX9_fly_63 ?_
              refine z_iload_n C dX9_fly_66 rfl 1 rfl ?_
              refine z_iald C za_64 (by decide) (Int32.toNatClampNeg a1) rfl hw.1 dX9_fly_67 ?_
              replace hw := hw.2
              refine z_aload_n C dX9_fly_68 rfl 0 rfl ?_
              refine f_X9_39 C dX9_fly_69 ?_
              refine z_iload_n C dX9_fly_72 rfl 1 rfl ?_
              refine z_iald C za_63 (by decide) (Int32.toNatClampNeg a1) rfl hw.1 dX9_fly_73 ?_
              replace hw := hw.2
              refine z_icmp_ne C (tgt := 84) dX9_fly_74 (by decide) (fun h => ?_) (fun h => ?_)
              · replace hw := hw.1 h
                refine z_aload_n C dX9_fly_84 rfl 0 rfl ?_
                refine f_X9_24 C dX9_fly_85 ?_
                refine z_aload_n C dX9_fly_88 rfl 0 rfl ?_
                refine f_X9_42 C dX9_fly_89 ?_
                refine z_iload_n C dX9_fly_92 rfl 1 rfl ?_
                refine z_iald C za_64 (by decide) (Int32.toNatClampNeg a1) rfl hw.1 dX9_fly_93 ?_
                replace hw := hw.2
                refine z_aload_n C dX9_fly_94 rfl 0 rfl ?_
                refine f_X9_39 C dX9_fly_95 ?_
                refine z_iload_n C dX9_fly_98 rfl 1 rfl ?_
                refine z_iald C za_63 (by decide) (Int32.toNatClampNeg a1) rfl hw.1 dX9_fly_99 ?_
                replace hw := hw.2
                refine z_callS C (by decide) M_X9_at Ms_X9_at kw_m_X9_143 (t_X9_at hw) rfl rfl (Nat.le_of_ble_eq_true rfl) dX9_fly_100 (z_ki (fun r15 s16 hw => ?_))
                refine z_iald C za_58 (by decide) (Int32.toNatClampNeg r15) rfl hw.1 dX9_fly_103 ?_
                replace hw := hw.2
                refine z_iconst C (-1) dX9_fly_104 (by decide) ?_
                refine z_icmp_ne C (tgt := 115) dX9_fly_105 (by decide) (fun h => ?_) (fun h => ?_)
                · replace hw := hw.1 h
                  refine z_aload_n C dX9_fly_115 rfl 0 rfl ?_
                  refine f_X9_93 C dX9_fly_116 ?_
                  refine z_iload_n C dX9_fly_119 rfl 2 rfl ?_
                  refine z_aload_n C dX9_fly_120 rfl 0 rfl ?_
                  refine f_X9_42 C dX9_fly_121 ?_
                  refine z_iload_n C dX9_fly_124 rfl 1 rfl ?_
                  refine z_iald C za_64 (by decide) (Int32.toNatClampNeg a1) rfl hw.1 dX9_fly_125 ?_
                  replace hw := hw.2
                  refine z_callS C (by decide) M_X9_place Ms_X9_place kw_m_X9_234 (t_X9_place hw) rfl rfl (Nat.le_of_ble_eq_true rfl) dX9_fly_126 (z_ki (fun r17 s18 hw => ?_))
                  refine z_iald C za_81 (by decide) (Int32.toNatClampNeg r17) rfl hw.1 dX9_fly_129 ?_
                  replace hw := hw.2
                  refine z_iconst C (-1) dX9_fly_130 (by decide) ?_
                  refine z_icmp_ne C (tgt := 141) dX9_fly_131 (by decide) (fun h => ?_) (fun h => ?_)
                  · replace hw := hw.1 h
                    refine z_aload_n C dX9_fly_141 rfl 0 rfl ?_
                    refine z_iload_n C dX9_fly_142 rfl 3 rfl ?_
                    refine p_X9_229 C dX9_fly_143 (z_nms (fun s19 es19 => ?_))
                    replace hw := hw s19 es19
                    refine z_aload_n C dX9_fly_146 rfl 0 rfl ?_
                    refine f_X9_45 C dX9_fly_147 ?_
                    refine z_iload_n C dX9_fly_150 rfl 1 rfl ?_
                    refine z_iconst C 1 dX9_fly_151 (by decide) ?_
                    refine z_iast C za_65 (by decide) (Int32.toNatClampNeg a1) rfl hw.1 dX9_fly_152 (z_nms (fun s20 es20 => ?_))
                    replace hw := hw.2
                    replace hw := hw s20 es20
                    refine z_aload_n C dX9_fly_153 rfl 0 rfl ?_
                    refine f_X9_51 C dX9_fly_154 ?_
                    refine z_iload_n C dX9_fly_157 rfl 1 rfl ?_
                    refine z_iload_n C dX9_fly_158 rfl 2 rfl ?_
                    refine z_iast C za_67 (by decide) (Int32.toNatClampNeg a1) rfl hw.1 dX9_fly_159 (z_nms (fun s21 es21 => ?_))
                    replace hw := hw.2
                    replace hw := hw s21 es21
                    refine z_aload_n C dX9_fly_160 rfl 0 rfl ?_
                    refine f_X9_81 C dX9_fly_161 ?_
                    refine z_iload_n C dX9_fly_164 rfl 2 rfl ?_
                    refine z_dup2_11 C dX9_fly_165 rfl rfl ?_
                    refine z_iald C za_77 (by decide) (Int32.toNatClampNeg a2) rfl hw.1 dX9_fly_166 ?_
                    replace hw := hw.2
                    refine z_iconst C 1 dX9_fly_167 (by decide) ?_
                    refine z_iadd C dX9_fly_168 ?_
                    refine z_iast C za_77 (by decide) (Int32.toNatClampNeg a2) rfl hw.1 dX9_fly_169 (z_nms (fun s22 es22 => ?_))
                    replace hw := hw.2
                    replace hw := hw s22 es22
                    refine z_aload_n C dX9_fly_170 rfl 0 rfl ?_
                    refine z_iconst C 0 dX9_fly_171 (by decide) ?_
                    refine z_callV C (by decide) M_X9_is Mv_X9_is kw_m_X9_120 ob_X9 (t_X9_is hw) rfl rfl (Nat.le_of_ble_eq_true rfl) dX9_fly_172 (z_kb (fun r23 s24 hr23 hw => ?_))
                    exact z_zreturn C D dX9_fly_175 hr23 ⟨_, rfl, hr23, hw⟩
                  · replace hw := hw.2 h
                    refine z_aload_n C dX9_fly_134 rfl 0 rfl ?_
                    refine z_bipush C 7 dX9_fly_135 (by decide) ?_
                    refine z_callV C (by decide) M_X9_is Mv_X9_is kw_m_X9_120 ob_X9 (t_X9_is hw) rfl rfl (Nat.le_of_ble_eq_true rfl) dX9_fly_137 (z_kb (fun r25 s26 hr25 hw => ?_))
                    exact z_zreturn C D dX9_fly_140 hr25 ⟨_, rfl, hr25, hw⟩
                · replace hw := hw.2 h
                  refine z_aload_n C dX9_fly_108 rfl 0 rfl ?_
                  refine z_bipush C 6 dX9_fly_109 (by decide) ?_
                  refine z_callV C (by decide) M_X9_is Mv_X9_is kw_m_X9_120 ob_X9 (t_X9_is hw) rfl rfl (Nat.le_of_ble_eq_true rfl) dX9_fly_111 (z_kb (fun r27 s28 hr27 hw => ?_))
                  exact z_zreturn C D dX9_fly_114 hr27 ⟨_, rfl, hr27, hw⟩
              · replace hw := hw.2 h
                refine z_aload_n C dX9_fly_77 rfl 0 rfl ?_
                refine z_bipush C 7 dX9_fly_78 (by decide) ?_
                refine z_callV C (by decide) M_X9_is Mv_X9_is kw_m_X9_120 ob_X9 (t_X9_is hw) rfl rfl (Nat.le_of_ble_eq_true rfl) dX9_fly_80 (z_kb (fun r29 s30 hr29 hw => ?_))
                exact z_zreturn C D dX9_fly_83 hr29 ⟨_, rfl, hr29, hw⟩
        · replace hw := hw.2 h
          refine z_aload_n C dX9_fly_37 rfl 0 rfl ?_
          refine z_iconst C 2 dX9_fly_38 (by decide) ?_
          refine z_callV C (by decide) M_X9_is Mv_X9_is kw_m_X9_120 ob_X9 (t_X9_is hw) rfl rfl (Nat.le_of_ble_eq_true rfl) dX9_fly_39 (z_kb (fun r31 s32 hr31 hw => ?_))
          exact z_zreturn C D dX9_fly_42 hr31 ⟨_, rfl, hr31, hw⟩
      · replace hw := hw.2 h
        refine z_aload_n C dX9_fly_23 rfl 0 rfl ?_
        refine z_iconst C 1 dX9_fly_24 (by decide) ?_
        refine z_callV C (by decide) M_X9_is Mv_X9_is kw_m_X9_120 ob_X9 (t_X9_is hw) rfl rfl (Nat.le_of_ble_eq_true rfl) dX9_fly_25 (z_kb (fun r33 s34 hr33 hw => ?_))
        exact z_zreturn C D dX9_fly_28 hr33 ⟨_, rfl, hr33, hw⟩
set_option maxHeartbeats 4000000 in
set_option maxRecDepth 100000 in
theorem t_X8_isTear {l : Launch} {E : zE} {a1 : Int32} {a2 : Int32} {a3 : Int32} {s0 : zS} {Q : Int32 → zS → Prop}  (hw : Wp_X8_isTear a1 a2 a3 s0 Q) : zT l 1 E yX8_isTear cX8_isTear 4 (some .boolean) [.ref (E.1 0 0), .int a1, .int a2, .int a3] s0 (zQb Q) := by
  unfold Wp_X8_isTear at hw
  refine z_entry rfl (Nat.le_of_ble_eq_true rfl) rfl ?_
  intro X C D hl hE
  subst hl; subst hE
  have C : zC X cX8_isTear RX8 4 1 := C
  refine z_iload_n C dX8_isTear_0 rfl 2 rfl ?_
  refine z_iconst C (-1) dX8_isTear_1 (by decide) ?_
  refine z_icmp_ne C (tgt := 12) dX8_isTear_2 (by decide) (fun h => ?_) (fun h => ?_)
  · replace hw := hw.1 h
    refine z_iload_n C dX8_isTear_12 rfl 2 rfl ?_
    refine z_if_lt C (tgt := 27) dX8_isTear_13 (by decide) (fun h => ?_) (fun h => ?_)
    · replace hw := hw.1 h
      refine z_iconst C 0 dX8_isTear_27 (by decide) ?_
      exact z_zreturn C D dX8_isTear_28 (Or.inl rfl) ⟨_, rfl, (Or.inl rfl), hw⟩
    · replace hw := hw.2 h
      refine z_iload_n C dX8_isTear_16 rfl 2 rfl ?_
      refine z_iload_n C dX8_isTear_17 rfl 3 rfl ?_
      refine z_icmp_gt C (tgt := 27) dX8_isTear_18 (by decide) (fun h => ?_) (fun h => ?_)
      · replace hw := hw.1 h
        refine z_iconst C 0 dX8_isTear_27 (by decide) ?_
        exact z_zreturn C D dX8_isTear_28 (Or.inl rfl) ⟨_, rfl, (Or.inl rfl), hw⟩
      · replace hw := hw.2 h
        refine z_iload_n C dX8_isTear_21 rfl 3 rfl ?_
        refine z_bipush C 40 dX8_isTear_22 (by decide) ?_
        refine z_icmp_lt C (tgt := 29) dX8_isTear_24 (by decide) (fun h => ?_) (fun h => ?_)
        · replace hw := hw.1 h
          refine z_aload_n C dX8_isTear_29 rfl 0 rfl ?_
          refine f_X8_33 C dX8_isTear_30 ?_
          refine f_X8_315 C dX8_isTear_33 ?_
          refine z_iload_n C dX8_isTear_36 rfl 1 rfl ?_
          refine z_iald C za_17 (by decide) (Int32.toNatClampNeg a1) rfl hw.1 dX8_isTear_37 ?_
          replace hw := hw.2
          refine z_iconst C 1 dX8_isTear_38 (by decide) ?_
          refine z_icmp_ne C (tgt := 63) dX8_isTear_39 (by decide) (fun h => ?_) (fun h => ?_)
          · replace hw := hw.1 h
            refine z_iconst C 1 dX8_isTear_63 (by decide) ?_
            refine z_goto C (tgt := 68) dX8_isTear_64 (by decide) ?_
            exact z_zreturn C D dX8_isTear_68 (Or.inr rfl) ⟨_, rfl, (Or.inr rfl), hw⟩
          · replace hw := hw.2 h
            refine z_iload_n C dX8_isTear_42 rfl 3 rfl ?_
            refine z_aload_n C dX8_isTear_43 rfl 0 rfl ?_
            refine f_X8_56 C dX8_isTear_44 ?_
            refine f_X8_336 C dX8_isTear_47 ?_
            refine z_aload_n C dX8_isTear_50 rfl 0 rfl ?_
            refine f_X8_33 C dX8_isTear_51 ?_
            refine f_X8_257 C dX8_isTear_54 ?_
            refine z_iload_n C dX8_isTear_57 rfl 1 rfl ?_
            refine z_iald C za_19 (by decide) (Int32.toNatClampNeg a1) rfl hw.1 dX8_isTear_58 ?_
            replace hw := hw.2
            refine z_iald C za_39 (by decide) (Int32.toNatClampNeg (zi s0 19 0 (Int32.toNatClampNeg a1))) rfl hw.1 dX8_isTear_59 ?_
            replace hw := hw.2
            refine z_icmp_ge C (tgt := 67) dX8_isTear_60 (by decide) (fun h => ?_) (fun h => ?_)
            · replace hw := hw.1 h
              refine z_iconst C 0 dX8_isTear_67 (by decide) ?_
              exact z_zreturn C D dX8_isTear_68 (Or.inl rfl) ⟨_, rfl, (Or.inl rfl), hw⟩
            · replace hw := hw.2 h
              refine z_iconst C 1 dX8_isTear_63 (by decide) ?_
              refine z_goto C (tgt := 68) dX8_isTear_64 (by decide) ?_
              exact z_zreturn C D dX8_isTear_68 (Or.inr rfl) ⟨_, rfl, (Or.inr rfl), hw⟩
        · replace hw := hw.2 h
          refine z_iconst C 0 dX8_isTear_27 (by decide) ?_
          exact z_zreturn C D dX8_isTear_28 (Or.inl rfl) ⟨_, rfl, (Or.inl rfl), hw⟩
  · replace hw := hw.2 h
    refine z_iload_n C dX8_isTear_5 rfl 3 rfl ?_
    refine z_iconst C (-1) dX8_isTear_6 (by decide) ?_
    refine z_icmp_ne C (tgt := 12) dX8_isTear_7 (by decide) (fun h => ?_) (fun h => ?_)
    · replace hw := hw.1 h
      refine z_iload_n C dX8_isTear_12 rfl 2 rfl ?_
      refine z_if_lt C (tgt := 27) dX8_isTear_13 (by decide) (fun h => ?_) (fun h => ?_)
      · replace hw := hw.1 h
        refine z_iconst C 0 dX8_isTear_27 (by decide) ?_
        exact z_zreturn C D dX8_isTear_28 (Or.inl rfl) ⟨_, rfl, (Or.inl rfl), hw⟩
      · replace hw := hw.2 h
        refine z_iload_n C dX8_isTear_16 rfl 2 rfl ?_
        refine z_iload_n C dX8_isTear_17 rfl 3 rfl ?_
        refine z_icmp_gt C (tgt := 27) dX8_isTear_18 (by decide) (fun h => ?_) (fun h => ?_)
        · replace hw := hw.1 h
          refine z_iconst C 0 dX8_isTear_27 (by decide) ?_
          exact z_zreturn C D dX8_isTear_28 (Or.inl rfl) ⟨_, rfl, (Or.inl rfl), hw⟩
        · replace hw := hw.2 h
          refine z_iload_n C dX8_isTear_21 rfl 3 rfl ?_
          refine z_bipush C 40 dX8_isTear_22 (by decide) ?_
          refine z_icmp_lt C (tgt := 29) dX8_isTear_24 (by decide) (fun h => ?_) (fun h => ?_)
          · replace hw := hw.1 h
            refine z_aload_n C dX8_isTear_29 rfl 0 rfl ?_
            refine f_X8_33 C dX8_isTear_30 ?_
            refine f_X8_315 C dX8_isTear_33 ?_
            refine z_iload_n C dX8_isTear_36 rfl 1 rfl ?_
            refine z_iald C za_17 (by decide) (Int32.toNatClampNeg a1) rfl hw.1 dX8_isTear_37 ?_
            replace hw := hw.2
            refine z_iconst C 1 dX8_isTear_38 (by decide) ?_
            refine z_icmp_ne C (tgt := 63) dX8_isTear_39 (by decide) (fun h => ?_) (fun h => ?_)
            · replace hw := hw.1 h
              refine z_iconst C 1 dX8_isTear_63 (by decide) ?_
              refine z_goto C (tgt := 68) dX8_isTear_64 (by decide) ?_
              exact z_zreturn C D dX8_isTear_68 (Or.inr rfl) ⟨_, rfl, (Or.inr rfl), hw⟩
            · replace hw := hw.2 h
              refine z_iload_n C dX8_isTear_42 rfl 3 rfl ?_
              refine z_aload_n C dX8_isTear_43 rfl 0 rfl ?_
              refine f_X8_56 C dX8_isTear_44 ?_
              refine f_X8_336 C dX8_isTear_47 ?_
              refine z_aload_n C dX8_isTear_50 rfl 0 rfl ?_
              refine f_X8_33 C dX8_isTear_51 ?_
              refine f_X8_257 C dX8_isTear_54 ?_
              refine z_iload_n C dX8_isTear_57 rfl 1 rfl ?_
              refine z_iald C za_19 (by decide) (Int32.toNatClampNeg a1) rfl hw.1 dX8_isTear_58 ?_
              replace hw := hw.2
              refine z_iald C za_39 (by decide) (Int32.toNatClampNeg (zi s0 19 0 (Int32.toNatClampNeg a1))) rfl hw.1 dX8_isTear_59 ?_
              replace hw := hw.2
              refine z_icmp_ge C (tgt := 67) dX8_isTear_60 (by decide) (fun h => ?_) (fun h => ?_)
              · replace hw := hw.1 h
                refine z_iconst C 0 dX8_isTear_67 (by decide) ?_
                exact z_zreturn C D dX8_isTear_68 (Or.inl rfl) ⟨_, rfl, (Or.inl rfl), hw⟩
              · replace hw := hw.2 h
                refine z_iconst C 1 dX8_isTear_63 (by decide) ?_
                refine z_goto C (tgt := 68) dX8_isTear_64 (by decide) ?_
                exact z_zreturn C D dX8_isTear_68 (Or.inr rfl) ⟨_, rfl, (Or.inr rfl), hw⟩
          · replace hw := hw.2 h
            refine z_iconst C 0 dX8_isTear_27 (by decide) ?_
            exact z_zreturn C D dX8_isTear_28 (Or.inl rfl) ⟨_, rfl, (Or.inl rfl), hw⟩
    · replace hw := hw.2 h
      refine z_iconst C 1 dX8_isTear_10 (by decide) ?_
      exact z_zreturn C D dX8_isTear_11 (Or.inr rfl) ⟨_, rfl, (Or.inr rfl), hw⟩
set_option maxHeartbeats 4000000 in
set_option maxRecDepth 100000 in
theorem t_X8_comesFault {l : Launch} {E : zE} {a1 : Int32} {a2 : Int32} {a3 : Int32} {a4 : Int32} {s0 : zS} {Q : Int32 → zS → Prop}  (hw : Wp_X8_comesFault a1 a2 a3 a4 s0 Q) : zT l 3 E yX8_comesFault cX8_comesFault 5 (some .int) [.ref (E.1 0 0), .int a1, .int a2, .int a3, .int a4] s0 (zQi Q) := by
  unfold Wp_X8_comesFault at hw
  refine z_entry rfl (Nat.le_of_ble_eq_true rfl) rfl ?_
  intro X C D hl hE
  subst hl; subst hE
  have C : zC X cX8_comesFault RX8 5 3 := C
  refine z_aload_n C dX8_comesFault_0 rfl 0 rfl ?_
  refine z_iload_n C dX8_comesFault_1 rfl 1 rfl ?_
  refine z_callV C (by decide) M_X8_isBird Mv_X8_isBird kw_m_X8_161 ob_X8 (t_X8_isBird hw) rfl rfl (Nat.le_of_ble_eq_true rfl) dX8_comesFault_2 (z_kb (fun r1 s2 hr1 hw => ?_))
  refine z_if_eq C (tgt := 16) dX8_comesFault_5 (by decide) (fun h => ?_) (fun h => ?_)
  · replace hw := hw.1 h
    refine z_iconst C 1 dX8_comesFault_16 (by decide) ?_
    exact z_ireturn C D dX8_comesFault_17 ⟨_, rfl, hw⟩
  · replace hw := hw.2 h
    refine z_iload C dX8_comesFault_8 4 rfl ?_
    refine z_callS C (by decide) M_X8_isMinute Ms_X8_isMinute kw_m_X8_321 (t_X8_isMinute hw) rfl rfl (Nat.le_of_ble_eq_true rfl) dX8_comesFault_10 (z_kb (fun r3 s4 hr3 hw => ?_))
    refine z_if_ne C (tgt := 18) dX8_comesFault_13 (by decide) (fun h => ?_) (fun h => ?_)
    · replace hw := hw.1 h
      refine z_aload_n C dX8_comesFault_18 rfl 0 rfl ?_
      refine z_iload_n C dX8_comesFault_19 rfl 1 rfl ?_
      refine z_iload_n C dX8_comesFault_20 rfl 2 rfl ?_
      refine z_iload_n C dX8_comesFault_21 rfl 3 rfl ?_
      refine z_callV C (by decide) M_X8_isTear Mv_X8_isTear kw_m_X8_333 ob_X8 (t_X8_isTear hw) rfl rfl (Nat.le_of_ble_eq_true rfl) dX8_comesFault_22 (z_kb (fun r5 s6 hr5 hw => ?_))
      refine z_if_ne C (tgt := 30) dX8_comesFault_25 (by decide) (fun h => ?_) (fun h => ?_)
      · replace hw := hw.1 h
        refine z_iload C dX8_comesFault_30 4 rfl ?_
        refine z_aload_n C dX8_comesFault_32 rfl 0 rfl ?_
        refine f_X8_71 C dX8_comesFault_33 ?_
        refine z_icmp_ge C (tgt := 41) dX8_comesFault_36 (by decide) (fun h => ?_) (fun h => ?_)
        · replace hw := hw.1 h
          refine z_aload_n C dX8_comesFault_41 rfl 0 rfl ?_
          refine f_X8_33 C dX8_comesFault_42 ?_
          refine f_X8_315 C dX8_comesFault_45 ?_
          refine z_iload_n C dX8_comesFault_48 rfl 1 rfl ?_
          refine z_iald C za_17 (by decide) (Int32.toNatClampNeg a1) rfl hw.1 dX8_comesFault_49 ?_
          replace hw := hw.2
          refine z_iconst C 1 dX8_comesFault_50 (by decide) ?_
          refine z_icmp_ne C (tgt := 58) dX8_comesFault_51 (by decide) (fun h => ?_) (fun h => ?_)
          · replace hw := hw.1 h
            refine z_bipush C 7 dX8_comesFault_58 (by decide) ?_
            exact z_ireturn C D dX8_comesFault_60 ⟨_, rfl, hw⟩
          · replace hw := hw.2 h
            refine z_iconst C 0 dX8_comesFault_54 (by decide) ?_
            refine z_goto C (tgt := 60) dX8_comesFault_55 (by decide) ?_
            exact z_ireturn C D dX8_comesFault_60 ⟨_, rfl, hw⟩
        · replace hw := hw.2 h
          refine z_iconst C 2 dX8_comesFault_39 (by decide) ?_
          exact z_ireturn C D dX8_comesFault_40 ⟨_, rfl, hw⟩
      · replace hw := hw.2 h
        refine z_iconst C 1 dX8_comesFault_28 (by decide) ?_
        exact z_ireturn C D dX8_comesFault_29 ⟨_, rfl, hw⟩
    · replace hw := hw.2 h
      refine z_iconst C 1 dX8_comesFault_16 (by decide) ?_
      exact z_ireturn C D dX8_comesFault_17 ⟨_, rfl, hw⟩
set_option maxHeartbeats 4000000 in
set_option maxRecDepth 100000 in
theorem t_X1_comeHome {l : Launch} {E : zE} {a1 : Int32} {a2 : Int32} {s0 : zS} {Q : zS → Prop}  (hw : Wp_X1_comeHome a1 a2 s0 Q) : zT l 2 E yX1_comeHome cX1_comeHome 3 none [.ref (E.1 14 0), .int a1, .int a2] s0 (zQv Q) := by
  unfold Wp_X1_comeHome at hw
  refine z_entry rfl (Nat.le_of_ble_eq_true rfl) rfl ?_
  intro X C D hl hE
  subst hl; subst hE
  have C : zC X cX1_comeHome RX1 3 2 := C
  refine z_aload_n C dX1_comeHome_0 rfl 0 rfl ?_
  refine f_X1_28 C dX1_comeHome_1 ?_
  refine z_iload_n C dX1_comeHome_4 rfl 1 rfl ?_
  refine z_iconst C (-1) dX1_comeHome_5 (by decide) ?_
  refine z_iast C za_19 (by decide) (Int32.toNatClampNeg a1) rfl hw.1 dX1_comeHome_6 (z_nms (fun s1 es1 => ?_))
  replace hw := hw.2
  replace hw := hw s1 es1
  refine z_aload_n C dX1_comeHome_7 rfl 0 rfl ?_
  refine f_X1_25 C dX1_comeHome_8 ?_
  refine z_iload_n C dX1_comeHome_11 rfl 1 rfl ?_
  refine z_iload_n C dX1_comeHome_12 rfl 2 rfl ?_
  refine z_bipush C 60 dX1_comeHome_13 (by decide) ?_
  refine z_iadd C dX1_comeHome_15 ?_
  refine z_iast C za_18 (by decide) (Int32.toNatClampNeg a1) rfl hw.1 dX1_comeHome_16 (z_nms (fun s2 es2 => ?_))
  replace hw := hw.2
  replace hw := hw s2 es2
  refine z_aload_n C dX1_comeHome_17 rfl 0 rfl ?_
  refine z_iload_n C dX1_comeHome_18 rfl 1 rfl ?_
  refine z_aload_n C dX1_comeHome_19 rfl 0 rfl ?_
  refine f_X1_15 C dX1_comeHome_20 ?_
  refine z_iload_n C dX1_comeHome_23 rfl 1 rfl ?_
  refine z_iald C za_15 (by decide) (Int32.toNatClampNeg a1) rfl hw.1 dX1_comeHome_24 ?_
  replace hw := hw.2
  refine z_callV C (by decide) M_X1_settle Mv_X1_settle kw_m_X1_36 ob_X1 (t_X1_settle hw) rfl rfl (Nat.le_of_ble_eq_true rfl) dX1_comeHome_25 (z_kv (fun s4 hw => ?_))
  exact z_vreturn C D dX1_comeHome_28 ⟨rfl, hw⟩
set_option maxHeartbeats 4000000 in
set_option maxRecDepth 100000 in
theorem t_X4_join {l : Launch} {E : zE} {a1 : Int32} {a2 : Int32} {a3 : Int32} {a4 : Int32} {a5 : Int32} {s0 : zS} {Q : Int32 → zS → Prop}  (hw : Wp_X4_join a1 a2 a3 a4 a5 s0 Q) : zT l 2 E yX4_join cX4_join 10 (some .boolean) [.ref (E.1 38 0), .int a1, .int a2, .int a3, .int a4, .int a5] s0 (zQb Q) := by
  unfold Wp_X4_join at hw
  refine z_entry rfl (Nat.le_of_ble_eq_true rfl) rfl ?_
  intro X C D hl hE
  subst hl; subst hE
  have C : zC X cX4_join RX4 10 2 := C
  refine z_aload_n C dX4_join_0 rfl 0 rfl ?_
  refine f_X4_15 C dX4_join_1 ?_
  refine z_iload_n C dX4_join_4 rfl 1 rfl ?_
  refine z_iald C za_39 (by decide) (Int32.toNatClampNeg a1) rfl hw.1 dX4_join_5 ?_
  replace hw := hw.2
  refine z_callS C (by decide) M_X4_allOf Ms_X4_allOf kw_m_X4_41 (t_X4_allOf hw) rfl rfl (Nat.le_of_ble_eq_true rfl) dX4_join_6 (z_kl (fun r1 s2 hw => ?_))
  refine z_lstore C [(6, .long r1), (0, .ref ((zXE X).1 38 0)), (1, .int a1), (2, .int a2), (3, .int a3), (4, .int a4), (5, .int a5)] dX4_join_9 (by decide) rfl ?_
  refine z_iload_n C dX4_join_11 rfl 4 rfl ?_
  refine z_iconst C (-1) dX4_join_12 (by decide) ?_
  refine z_icmp_ne C (tgt := 20) dX4_join_13 (by decide) (fun h => ?_) (fun h => ?_)
  · replace hw := hw.1 h
    refine z_iload C dX4_join_20 5 rfl ?_
    refine z_iload_n C dX4_join_22 rfl 4 rfl ?_
    refine z_isub C dX4_join_23 ?_
    refine z_iconst C 1 dX4_join_24 (by decide) ?_
    refine z_iadd C dX4_join_25 ?_
    refine z_callS C (by decide) M_X4_allOf Ms_X4_allOf kw_m_X4_41 (t_X4_allOf hw) rfl rfl (Nat.le_of_ble_eq_true rfl) dX4_join_26 (z_kl (fun r3 s4 hw => ?_))
    refine z_iload_n C dX4_join_29 rfl 4 rfl ?_
    refine z_lshl C dX4_join_30 ?_
    refine z_nml (fun y5 ey5 => ?_)
    replace hw := hw y5 ey5
    refine z_lstore C [(8, .long y5), (6, .long r1), (0, .ref ((zXE X).1 38 0)), (1, .int a1), (2, .int a2), (3, .int a3), (4, .int a4), (5, .int a5)] dX4_join_31 (by decide) rfl ?_
    refine z_aload_n C dX4_join_33 rfl 2 rfl ?_
    refine f_X4_32 C dX4_join_34 ?_
    refine z_iload_n C dX4_join_37 rfl 3 rfl ?_
    have hb6 := zin_lt hw.1
    refine z_aald C za_46 (by decide) rfl (Int32.toNatClampNeg a1) rfl hw.1 dX4_join_38 ?_
    replace hw := hw.2
    refine z_iload_n C dX4_join_39 rfl 4 rfl ?_
    refine z_dup2_11 C dX4_join_40 rfl rfl ?_
    refine z_lald C za_47 hb6 (Int32.toNatClampNeg a2) rfl hw.1 dX4_join_41 ?_
    replace hw := hw.2
    refine z_lload C dX4_join_42 1 rfl ?_
    refine z_lload C dX4_join_44 0 rfl ?_
    refine z_ldc2 C (v := (-1)) kw_cl_X4_45 dX4_join_46 ?_
    refine z_lxor C dX4_join_49 ?_
    refine z_land C dX4_join_50 ?_
    refine z_lor C dX4_join_51 ?_
    refine z_last C za_47 hb6 (Int32.toNatClampNeg a2) rfl hw.1 dX4_join_52 (z_nms (fun s7 es7 => ?_))
    replace hw := hw.2
    replace hw := hw s7 es7
    refine z_aload_n C dX4_join_53 rfl 2 rfl ?_
    refine f_X4_27 C dX4_join_54 ?_
    refine z_iload_n C dX4_join_57 rfl 3 rfl ?_
    have hb8 := zin_lt hw.1
    refine z_aald C za_44 (by decide) rfl (Int32.toNatClampNeg a1) rfl hw.1 dX4_join_58 ?_
    replace hw := hw.2
    refine z_iload_n C dX4_join_59 rfl 4 rfl ?_
    refine z_iald C za_45 hb8 (Int32.toNatClampNeg a2) rfl hw.1 dX4_join_60 ?_
    replace hw := hw.2
    refine z_iconst C (-1) dX4_join_61 (by decide) ?_
    refine z_icmp_ne C (tgt := 79) dX4_join_62 (by decide) (fun h => ?_) (fun h => ?_)
    · replace hw := hw.1 h
      refine z_iconst C 0 dX4_join_79 (by decide) ?_
      exact z_zreturn C D dX4_join_80 (Or.inl rfl) ⟨_, rfl, (Or.inl rfl), hw⟩
    · replace hw := hw.2 h
      refine z_aload_n C dX4_join_65 rfl 2 rfl ?_
      refine f_X4_32 C dX4_join_66 ?_
      refine z_iload_n C dX4_join_69 rfl 3 rfl ?_
      have hb9 := zin_lt hw.1
      refine z_aald C za_46 (by decide) rfl (Int32.toNatClampNeg a1) rfl hw.1 dX4_join_70 ?_
      replace hw := hw.2
      refine z_iload_n C dX4_join_71 rfl 4 rfl ?_
      refine z_lald C za_47 hb9 (Int32.toNatClampNeg a2) rfl hw.1 dX4_join_72 ?_
      replace hw := hw.2
      refine z_lload C dX4_join_73 1 rfl ?_
      refine z_lcmp_eq C (tgt := 81) dX4_join_75 dX4_join_76 (by decide) (fun h => ?_) (fun h => ?_)
      · replace hw := hw.1 h
        refine z_aload_n C dX4_join_81 rfl 2 rfl ?_
        refine f_X4_27 C dX4_join_82 ?_
        refine z_iload_n C dX4_join_85 rfl 3 rfl ?_
        have hb10 := zin_lt hw.1
        refine z_aald C za_44 (by decide) rfl (Int32.toNatClampNeg a1) rfl hw.1 dX4_join_86 ?_
        replace hw := hw.2
        refine z_iload_n C dX4_join_87 rfl 4 rfl ?_
        refine z_iload C dX4_join_88 7 rfl ?_
        refine z_iast C za_45 hb10 (Int32.toNatClampNeg a2) rfl hw.1 dX4_join_90 (z_nms (fun s11 es11 => ?_))
        replace hw := hw.2
        replace hw := hw s11 es11
        refine z_iconst C 1 dX4_join_91 (by decide) ?_
        exact z_zreturn C D dX4_join_92 (Or.inr rfl) ⟨_, rfl, (Or.inr rfl), hw⟩
      · replace hw := hw.2 h
        refine z_iconst C 0 dX4_join_79 (by decide) ?_
        exact z_zreturn C D dX4_join_80 (Or.inl rfl) ⟨_, rfl, (Or.inl rfl), hw⟩
  · replace hw := hw.2 h
    refine z_lconst C 0 dX4_join_16 (by decide) ?_
    refine z_goto C (tgt := 31) dX4_join_17 (by decide) ?_
    refine z_lstore C [(8, .long (0 : Int64)), (6, .long r1), (0, .ref ((zXE X).1 38 0)), (1, .int a1), (2, .int a2), (3, .int a3), (4, .int a4), (5, .int a5)] dX4_join_31 (by decide) rfl ?_
    refine z_aload_n C dX4_join_33 rfl 2 rfl ?_
    refine f_X4_32 C dX4_join_34 ?_
    refine z_iload_n C dX4_join_37 rfl 3 rfl ?_
    have hb12 := zin_lt hw.1
    refine z_aald C za_46 (by decide) rfl (Int32.toNatClampNeg a1) rfl hw.1 dX4_join_38 ?_
    replace hw := hw.2
    refine z_iload_n C dX4_join_39 rfl 4 rfl ?_
    refine z_dup2_11 C dX4_join_40 rfl rfl ?_
    refine z_lald C za_47 hb12 (Int32.toNatClampNeg a2) rfl hw.1 dX4_join_41 ?_
    replace hw := hw.2
    refine z_lload C dX4_join_42 1 rfl ?_
    refine z_lload C dX4_join_44 0 rfl ?_
    refine z_ldc2 C (v := (-1)) kw_cl_X4_45 dX4_join_46 ?_
    refine z_lxor C dX4_join_49 ?_
    refine z_land C dX4_join_50 ?_
    refine z_lor C dX4_join_51 ?_
    refine z_last C za_47 hb12 (Int32.toNatClampNeg a2) rfl hw.1 dX4_join_52 (z_nms (fun s13 es13 => ?_))
    replace hw := hw.2
    replace hw := hw s13 es13
    refine z_aload_n C dX4_join_53 rfl 2 rfl ?_
    refine f_X4_27 C dX4_join_54 ?_
    refine z_iload_n C dX4_join_57 rfl 3 rfl ?_
    have hb14 := zin_lt hw.1
    refine z_aald C za_44 (by decide) rfl (Int32.toNatClampNeg a1) rfl hw.1 dX4_join_58 ?_
    replace hw := hw.2
    refine z_iload_n C dX4_join_59 rfl 4 rfl ?_
    refine z_iald C za_45 hb14 (Int32.toNatClampNeg a2) rfl hw.1 dX4_join_60 ?_
    replace hw := hw.2
    refine z_iconst C (-1) dX4_join_61 (by decide) ?_
    refine z_icmp_ne C (tgt := 79) dX4_join_62 (by decide) (fun h => ?_) (fun h => ?_)
    · replace hw := hw.1 h
      refine z_iconst C 0 dX4_join_79 (by decide) ?_
      exact z_zreturn C D dX4_join_80 (Or.inl rfl) ⟨_, rfl, (Or.inl rfl), hw⟩
    · replace hw := hw.2 h
      refine z_aload_n C dX4_join_65 rfl 2 rfl ?_
      refine f_X4_32 C dX4_join_66 ?_
      refine z_iload_n C dX4_join_69 rfl 3 rfl ?_
      have hb15 := zin_lt hw.1
      refine z_aald C za_46 (by decide) rfl (Int32.toNatClampNeg a1) rfl hw.1 dX4_join_70 ?_
      replace hw := hw.2
      refine z_iload_n C dX4_join_71 rfl 4 rfl ?_
      refine z_lald C za_47 hb15 (Int32.toNatClampNeg a2) rfl hw.1 dX4_join_72 ?_
      replace hw := hw.2
      refine z_lload C dX4_join_73 1 rfl ?_
      refine z_lcmp_eq C (tgt := 81) dX4_join_75 dX4_join_76 (by decide) (fun h => ?_) (fun h => ?_)
      · replace hw := hw.1 h
        refine z_aload_n C dX4_join_81 rfl 2 rfl ?_
        refine f_X4_27 C dX4_join_82 ?_
        refine z_iload_n C dX4_join_85 rfl 3 rfl ?_
        have hb16 := zin_lt hw.1
        refine z_aald C za_44 (by decide) rfl (Int32.toNatClampNeg a1) rfl hw.1 dX4_join_86 ?_
        replace hw := hw.2
        refine z_iload_n C dX4_join_87 rfl 4 rfl ?_
        refine z_iload C dX4_join_88 7 rfl ?_
        refine z_iast C za_45 hb16 (Int32.toNatClampNeg a2) rfl hw.1 dX4_join_90 (z_nms (fun s17 es17 => ?_))
        replace hw := hw.2
        replace hw := hw s17 es17
        refine z_iconst C 1 dX4_join_91 (by decide) ?_
        exact z_zreturn C D dX4_join_92 (Or.inr rfl) ⟨_, rfl, (Or.inr rfl), hw⟩
      · replace hw := hw.2 h
        refine z_iconst C 0 dX4_join_79 (by decide) ?_
        exact z_zreturn C D dX4_join_80 (Or.inl rfl) ⟨_, rfl, (Or.inl rfl), hw⟩
set_option maxHeartbeats 4000000 in
set_option maxRecDepth 100000 in
theorem t_X8_comes {l : Launch} {E : zE} {a1 : Int32} {a2 : Int32} {a3 : Int32} {a4 : Int32} {s0 : zS} {Q : Int32 → zS → Prop}  (hw : Wp_X8_comes a1 a2 a3 a4 s0 Q) : zT l 4 E yX8_comes cX8_comes 7 (some .int) [.ref (E.1 0 0), .int a1, .int a2, .int a3, .int a4] s0 (zQi Q) := by
  unfold Wp_X8_comes at hw
  refine z_entry rfl (Nat.le_of_ble_eq_true rfl) rfl ?_
  intro X C D hl hE
  subst hl; subst hE
  have C : zC X cX8_comes RX8 7 4 := C
  refine z_aload_n C dX8_comes_0 rfl 0 rfl ?_
  refine z_aload_n C dX8_comes_1 rfl 0 rfl ?_
  refine z_iload_n C dX8_comes_2 rfl 1 rfl ?_
  refine z_iload_n C dX8_comes_3 rfl 2 rfl ?_
  refine z_iload_n C dX8_comes_4 rfl 3 rfl ?_
  refine z_iload C dX8_comes_5 4 rfl ?_
  refine z_callV C (by decide) M_X8_comesFault Mv_X8_comesFault kw_m_X8_254 ob_X8 (t_X8_comesFault hw) rfl rfl (Nat.le_of_ble_eq_true rfl) dX8_comes_7 (z_ki (fun r1 s2 hw => ?_))
  refine p_X8_67 C dX8_comes_10 (z_nms (fun s3 es3 => ?_))
  replace hw := hw s3 es3
  refine z_aload_n C dX8_comes_13 rfl 0 rfl ?_
  refine f_X8_67 C dX8_comes_14 ?_
  refine z_if_eq C (tgt := 22) dX8_comes_17 (by decide) (fun h => ?_) (fun h => ?_)
  · replace hw := hw.1 h
    refine z_aload_n C dX8_comes_22 rfl 0 rfl ?_
    refine z_iload C dX8_comes_23 4 rfl ?_
    refine p_X8_71 C dX8_comes_25 (z_nms (fun s4 es4 => ?_))
    replace hw := hw s4 es4
    refine z_aload_n C dX8_comes_28 rfl 0 rfl ?_
    refine f_X8_33 C dX8_comes_29 ?_
    refine f_X8_257 C dX8_comes_32 ?_
    refine z_iload_n C dX8_comes_35 rfl 1 rfl ?_
    refine z_iald C za_19 (by decide) (Int32.toNatClampNeg a1) rfl hw.1 dX8_comes_36 ?_
    replace hw := hw.2
    refine z_nmi (fun x5 ex5 => ?_)
    replace hw := hw x5 ex5
    refine z_istore C [(5, .int x5), (0, .ref ((zXE X).1 0 0)), (1, .int a1), (2, .int a2), (3, .int a3), (4, .int a4)] dX8_comes_37 (by decide) rfl ?_
    refine z_aload_n C dX8_comes_39 rfl 1 rfl ?_
    refine f_X8_33 C dX8_comes_40 ?_
    refine f_X8_259 C dX8_comes_43 ?_
    refine z_iload_n C dX8_comes_46 rfl 2 rfl ?_
    refine z_iald C za_15 (by decide) (Int32.toNatClampNeg a1) rfl hw.1 dX8_comes_47 ?_
    replace hw := hw.2
    refine z_nmi (fun x6 ex6 => ?_)
    replace hw := hw x6 ex6
    refine z_istore C [(6, .int x6), (5, .int x5), (0, .ref ((zXE X).1 0 0)), (1, .int a1), (2, .int a2), (3, .int a3), (4, .int a4)] dX8_comes_48 (by decide) rfl ?_
    refine z_aload_n C dX8_comes_50 rfl 2 rfl ?_
    refine f_X8_33 C dX8_comes_51 ?_
    refine z_iload_n C dX8_comes_54 rfl 3 rfl ?_
    refine z_iload C dX8_comes_55 6 rfl ?_
    refine z_callV C (by decide) M_X1_comeHome Mv_X1_comeHome kw_m_X8_262 ob_X1 (t_X1_comeHome hw) rfl rfl (Nat.le_of_ble_eq_true rfl) dX8_comes_57 (z_kv (fun s8 hw => ?_))
    refine z_aload_n C dX8_comes_60 rfl 2 rfl ?_
    refine f_X8_56 C dX8_comes_61 ?_
    refine f_X8_251 C dX8_comes_64 ?_
    refine z_iload C dX8_comes_67 1 rfl ?_
    have hb9 := zin_lt hw.1
    refine z_aald C za_42 (by decide) rfl (Int32.toNatClampNeg x5) rfl hw.1 dX8_comes_69 ?_
    replace hw := hw.2
    refine z_iconst C 1 dX8_comes_70 (by decide) ?_
    refine z_dup2_11 C dX8_comes_71 rfl rfl ?_
    refine z_iald C za_43 hb9 1 (by decide) (vp_in_iff.mpr (by decide)) dX8_comes_72 ?_
    refine z_iconst C 1 dX8_comes_73 (by decide) ?_
    refine z_iadd C dX8_comes_74 ?_
    refine z_iast C za_43 hb9 1 (by decide) (vp_in_iff.mpr (by decide)) dX8_comes_75 (z_nms (fun s10 es10 => ?_))
    replace hw := hw s10 es10
    refine z_aload_n C dX8_comes_76 rfl 2 rfl ?_
    refine f_X8_56 C dX8_comes_77 ?_
    refine z_iload C dX8_comes_80 1 rfl ?_
    refine z_iload C dX8_comes_82 0 rfl ?_
    refine z_iload_n C dX8_comes_84 rfl 4 rfl ?_
    refine z_iload_n C dX8_comes_85 rfl 5 rfl ?_
    refine z_iload C dX8_comes_86 6 rfl ?_
    refine z_callV C (by decide) M_X4_join Mv_X4_join kw_m_X8_265 ob_X4 (t_X4_join hw) rfl rfl (Nat.le_of_ble_eq_true rfl) dX8_comes_88 (z_kb (fun r11 s12 hr11 hw => ?_))
    refine z_if_eq C (tgt := 98) dX8_comes_91 (by decide) (fun h => ?_) (fun h => ?_)
    · replace hw := hw.1 h
      refine z_iconst C 0 dX8_comes_98 (by decide) ?_
      exact z_ireturn C D dX8_comes_99 ⟨_, rfl, hw⟩
    · replace hw := hw.2 h
      refine z_iconst C 1 dX8_comes_94 (by decide) ?_
      refine z_goto C (tgt := 99) dX8_comes_95 (by decide) ?_
      exact z_ireturn C D dX8_comes_99 ⟨_, rfl, hw⟩
  · replace hw := hw.2 h
    refine z_iconst C (-1) dX8_comes_20 (by decide) ?_
    exact z_ireturn C D dX8_comes_21 ⟨_, rfl, hw⟩

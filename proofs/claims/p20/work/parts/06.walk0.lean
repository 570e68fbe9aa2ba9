set_option maxHeartbeats 4000000 in
set_option maxRecDepth 100000 in
theorem t_X8_status {l : Launch} {E : zE}  {s0 : zS} {Q : Int32 → zS → Prop}  (hw : Wp_X8_status  s0 Q) : zT l 1 E yX8_status cX8_status 1 (some .int) [.ref (E.1 0 0)] s0 (zQi Q) := by
  unfold Wp_X8_status at hw
  refine z_entry rfl (Nat.le_of_ble_eq_true rfl) rfl ?_
  intro X C D hl hE
  subst hl; subst hE
  have C : zC X cX8_status RX8 1 1 := C
  refine z_aload_n C dX8_status_0 rfl 0 rfl ?_
  refine f_X8_67 C dX8_status_1 ?_
  exact z_ireturn C D dX8_status_4 ⟨_, rfl, hw⟩
set_option maxHeartbeats 4000000 in
set_option maxRecDepth 100000 in
theorem t_X9_status {l : Launch} {E : zE}  {s0 : zS} {Q : Int32 → zS → Prop}  (hw : Wp_X9_status  s0 Q) : zT l 1 E yX9_status cX9_status 1 (some .int) [.ref (E.1 54 0)] s0 (zQi Q) := by
  unfold Wp_X9_status at hw
  refine z_entry rfl (Nat.le_of_ble_eq_true rfl) rfl ?_
  intro X C D hl hE
  subst hl; subst hE
  have C : zC X cX9_status RX9 1 1 := C
  refine z_aload_n C dX9_status_0 rfl 0 rfl ?_
  refine f_X9_109 C dX9_status_1 ?_
  exact z_ireturn C D dX9_status_4 ⟨_, rfl, hw⟩
set_option maxHeartbeats 4000000 in
set_option maxRecDepth 100000 in
theorem t_X8_top {l : Launch} {E : zE}  {s0 : zS} {Q : Int64 → zS → Prop}  (hw : Wp_X8_top  s0 Q) : zT l 1 E yX8_top cX8_top 1 (some .long) [.ref (E.1 0 0)] s0 (zQl Q) := by
  unfold Wp_X8_top at hw
  refine z_entry rfl (Nat.le_of_ble_eq_true rfl) rfl ?_
  intro X C D hl hE
  subst hl; subst hE
  have C : zC X cX8_top RX8 1 1 := C
  refine z_aload_n C dX8_top_0 rfl 0 rfl ?_
  refine f_X8_10 C dX8_top_1 ?_
  refine f_X8_74 C dX8_top_4 ?_
  exact z_lreturn C D dX8_top_7 ⟨_, rfl, hw⟩
set_option maxHeartbeats 4000000 in
set_option maxRecDepth 100000 in
theorem t_X9_top {l : Launch} {E : zE}  {s0 : zS} {Q : Int64 → zS → Prop}  (hw : Wp_X9_top  s0 Q) : zT l 1 E yX9_top cX9_top 1 (some .long) [.ref (E.1 54 0)] s0 (zQl Q) := by
  unfold Wp_X9_top at hw
  refine z_entry rfl (Nat.le_of_ble_eq_true rfl) rfl ?_
  intro X C D hl hE
  subst hl; subst hE
  have C : zC X cX9_top RX9 1 1 := C
  refine z_aload_n C dX9_top_0 rfl 0 rfl ?_
  refine f_X9_113 C dX9_top_1 ?_
  exact z_lreturn C D dX9_top_4 ⟨_, rfl, hw⟩
set_option maxHeartbeats 4000000 in
set_option maxRecDepth 100000 in
theorem t_X8_bottom {l : Launch} {E : zE}  {s0 : zS} {Q : Int64 → zS → Prop}  (hw : Wp_X8_bottom  s0 Q) : zT l 1 E yX8_bottom cX8_bottom 1 (some .long) [.ref (E.1 0 0)] s0 (zQl Q) := by
  unfold Wp_X8_bottom at hw
  refine z_entry rfl (Nat.le_of_ble_eq_true rfl) rfl ?_
  intro X C D hl hE
  subst hl; subst hE
  have C : zC X cX8_bottom RX8 1 1 := C
  refine z_aload_n C dX8_bottom_0 rfl 0 rfl ?_
  refine f_X8_10 C dX8_bottom_1 ?_
  refine f_X8_78 C dX8_bottom_4 ?_
  exact z_lreturn C D dX8_bottom_7 ⟨_, rfl, hw⟩
set_option maxHeartbeats 4000000 in
set_option maxRecDepth 100000 in
theorem t_X9_bottom {l : Launch} {E : zE}  {s0 : zS} {Q : Int64 → zS → Prop}  (hw : Wp_X9_bottom  s0 Q) : zT l 1 E yX9_bottom cX9_bottom 1 (some .long) [.ref (E.1 54 0)] s0 (zQl Q) := by
  unfold Wp_X9_bottom at hw
  refine z_entry rfl (Nat.le_of_ble_eq_true rfl) rfl ?_
  intro X C D hl hE
  subst hl; subst hE
  have C : zC X cX9_bottom RX9 1 1 := C
  refine z_aload_n C dX9_bottom_0 rfl 0 rfl ?_
  refine f_X9_7 C dX9_bottom_1 ?_
  exact z_lreturn C D dX9_bottom_4 ⟨_, rfl, hw⟩
set_option maxHeartbeats 4000000 in
set_option maxRecDepth 100000 in
theorem t_X8_within {l : Launch} {E : zE} {a0 : Int32} {a1 : Int32} {a2 : Int32} {s0 : zS} {Q : Int32 → zS → Prop}  (hw : Wp_X8_within a0 a1 a2 s0 Q) : zT l 1 E yX8_within cX8_within 3 (some .boolean) [.int a0, .int a1, .int a2] s0 (zQb Q) := by
  unfold Wp_X8_within at hw
  refine z_entry rfl (Nat.le_of_ble_eq_true rfl) rfl ?_
  intro X C D hl hE
  subst hl; subst hE
  have C : zC X cX8_within RX8 3 1 := C
  refine z_iload_n C dX8_within_0 rfl 0 rfl ?_
  refine z_iload_n C dX8_within_1 rfl 1 rfl ?_
  refine z_icmp_lt C (tgt := 14) dX8_within_2 (by decide) (fun h => ?_) (fun h => ?_)
  · replace hw := hw.1 h
    refine z_iconst C 0 dX8_within_14 (by decide) ?_
    exact z_zreturn C D dX8_within_15 (Or.inl rfl) ⟨_, rfl, (Or.inl rfl), hw⟩
  · replace hw := hw.2 h
    refine z_iload_n C dX8_within_5 rfl 0 rfl ?_
    refine z_iload_n C dX8_within_6 rfl 2 rfl ?_
    refine z_icmp_gt C (tgt := 14) dX8_within_7 (by decide) (fun h => ?_) (fun h => ?_)
    · replace hw := hw.1 h
      refine z_iconst C 0 dX8_within_14 (by decide) ?_
      exact z_zreturn C D dX8_within_15 (Or.inl rfl) ⟨_, rfl, (Or.inl rfl), hw⟩
    · replace hw := hw.2 h
      refine z_iconst C 1 dX8_within_10 (by decide) ?_
      refine z_goto C (tgt := 15) dX8_within_11 (by decide) ?_
      exact z_zreturn C D dX8_within_15 (Or.inr rfl) ⟨_, rfl, (Or.inr rfl), hw⟩
set_option maxHeartbeats 4000000 in
set_option maxRecDepth 100000 in
theorem t_X8_isTray {l : Launch} {E : zE} {a0 : Int32} {s0 : zS} {Q : Int32 → zS → Prop}  (hw : Wp_X8_isTray a0 s0 Q) : zT l 2 E yX8_isTray cX8_isTray 1 (some .boolean) [.int a0] s0 (zQb Q) := by
  unfold Wp_X8_isTray at hw
  refine z_entry rfl (Nat.le_of_ble_eq_true rfl) rfl ?_
  intro X C D hl hE
  subst hl; subst hE
  have C : zC X cX8_isTray RX8 1 2 := C
  refine z_iload_n C dX8_isTray_0 rfl 0 rfl ?_
  refine z_iconst C 0 dX8_isTray_1 (by decide) ?_
  refine z_iconst C 3 dX8_isTray_2 (by decide) ?_
  refine z_callS C (by decide) M_X8_within Ms_X8_within kw_m_X8_85 (t_X8_within hw) rfl rfl (Nat.le_of_ble_eq_true rfl) dX8_isTray_3 (z_kb (fun r1 s2 hr1 hw => ?_))
  exact z_zreturn C D dX8_isTray_6 hr1 ⟨_, rfl, hr1, hw⟩
set_option maxHeartbeats 4000000 in
set_option maxRecDepth 100000 in
theorem t_X8_wrongUnless {l : Launch} {E : zE} {a0 : Int32} {s0 : zS} {Q : Int32 → zS → Prop}  (hw : Wp_X8_wrongUnless a0 s0 Q) : zT l 1 E yX8_wrongUnless cX8_wrongUnless 1 (some .int) [.int a0] s0 (zQi Q) := by
  unfold Wp_X8_wrongUnless at hw
  refine z_entry rfl (Nat.le_of_ble_eq_true rfl) rfl ?_
  intro X C D hl hE
  subst hl; subst hE
  have C : zC X cX8_wrongUnless RX8 1 1 := C
  refine z_iload_n C dX8_wrongUnless_0 rfl 0 rfl ?_
  refine z_if_eq C (tgt := 8) dX8_wrongUnless_1 (by decide) (fun h => ?_) (fun h => ?_)
  · replace hw := hw.1 h
    refine z_iconst C 1 dX8_wrongUnless_8 (by decide) ?_
    exact z_ireturn C D dX8_wrongUnless_9 ⟨_, rfl, hw⟩
  · replace hw := hw.2 h
    refine z_iconst C 0 dX8_wrongUnless_4 (by decide) ?_
    refine z_goto C (tgt := 9) dX8_wrongUnless_5 (by decide) ?_
    exact z_ireturn C D dX8_wrongUnless_9 ⟨_, rfl, hw⟩
set_option maxHeartbeats 4000000 in
set_option maxRecDepth 100000 in
theorem t_J7_fill_d0a16__6 {l : Launch} {E : zE} {b0 : Nat} {a1 : Int64} {s0 : zS} {Q : zS → Prop} (hb0 : b0 < zrows 6) (hw : Wp_J7_fill_d0a16__6 b0 a1 s0 Q) : zT l 1 E yJ7_fill_d0a16 cJ7_fill_d0a16 5 none [.ref (E.1 6 b0), .long a1] s0 (zQv Q) := by
  unfold Wp_J7_fill_d0a16__6 at hw
  refine z_entry rfl (Nat.le_of_ble_eq_true rfl) rfl ?_
  intro X C D hl hE
  subst hl; subst hE
  have C : zC X cJ7_fill_d0a16 RJ7 5 1 := C
  refine z_use (hw (fun v3 v4 s0 => zV X 6 [(0, .ref ((zXE X).1 6 b0)), (1, .long a1), (3, .int v3), (4, .int v4)] [] s0) (fun v3 v4 s0 hw => ?_)) (fun hw => ?_)
  · show zV X 6 _ _ _
    refine z_iload_n C dJ7_fill_d0a16_6 rfl 2 rfl ?_
    refine z_iload C dJ7_fill_d0a16_7 3 rfl ?_
    refine z_icmp_ge C (tgt := 22) dJ7_fill_d0a16_9 (by decide) (fun h => ?_) (fun h => ?_)
    · replace hw := hw.1 h
      exact z_vreturn C D dJ7_fill_d0a16_22 ⟨rfl, hw⟩
    · replace hw := hw.2 h
      refine z_aload_n C dJ7_fill_d0a16_12 rfl 0 rfl ?_
      refine z_iload_n C dJ7_fill_d0a16_13 rfl 2 rfl ?_
      refine z_lload_n C dJ7_fill_d0a16_14 rfl 1 rfl ?_
      refine z_last C za_6 hb0 (Int32.toNatClampNeg v3) rfl hw.1 dJ7_fill_d0a16_15 (z_nms (fun s1 es1 => ?_))
      replace hw := hw.2
      replace hw := hw s1 es1
      refine z_iinc C (v3 + 1) [(3, .int (v3 + 1)), (0, .ref ((zXE X).1 6 b0)), (1, .long a1), (4, .int v4)] dJ7_fill_d0a16_16 2 rfl rfl (by decide) rfl ?_
      refine z_goto C (tgt := 6) dJ7_fill_d0a16_19 (by decide) ?_
      exact z_lv [1, 2, 0, 3] rfl hw
  refine z_iconst C 0 dJ7_fill_d0a16_0 (by decide) ?_
  refine z_istore_n C [(3, .int (0 : Int32)), (0, .ref ((zXE X).1 6 b0)), (1, .long a1)] dJ7_fill_d0a16_1 rfl (by decide) rfl ?_
  refine z_aload_n C dJ7_fill_d0a16_2 rfl 1 rfl ?_
  refine z_alen C (n := 60) (v := 60) (t := 1) rfl rfl hb0 rfl (by decide) dJ7_fill_d0a16_3 ?_
  refine z_istore C [(4, .int (60 : Int32)), (3, .int (0 : Int32)), (0, .ref ((zXE X).1 6 b0)), (1, .long a1)] dJ7_fill_d0a16_4 (by decide) rfl ?_
  exact z_lv [2, 3, 1, 0] rfl hw
set_option maxHeartbeats 4000000 in
set_option maxRecDepth 100000 in
theorem t_X7_make {l : Launch} {E : zE} {a1 : Int32} {a2 : Int32} {a3 : Int32} {s0 : zS} {Q : zS → Prop}  (hw : Wp_X7_make a1 a2 a3 s0 Q) : zT l 2 E yX7_make cX7_make 4 none [.ref (E.1 2 0), .int a1, .int a2, .int a3] s0 (zQv Q) := by
  unfold Wp_X7_make at hw
  refine z_entry rfl (Nat.le_of_ble_eq_true rfl) rfl ?_
  intro X C D hl hE
  subst hl; subst hE
  have C : zC X cX7_make RX7 4 2 := C
  refine z_aload_n C dX7_make_0 rfl 0 rfl ?_
  refine f_X7_9 C dX7_make_1 ?_
  refine z_iload_n C dX7_make_4 rfl 1 rfl ?_
  refine z_iload_n C dX7_make_5 rfl 2 rfl ?_
  refine z_iast C za_3 (by decide) (Int32.toNatClampNeg a1) rfl hw.1 dX7_make_6 (z_nms (fun s1 es1 => ?_))
  replace hw := hw.2
  replace hw := hw s1 es1
  refine z_aload_n C dX7_make_7 rfl 0 rfl ?_
  refine f_X7_15 C dX7_make_8 ?_
  refine z_iload_n C dX7_make_11 rfl 1 rfl ?_
  refine z_iload_n C dX7_make_12 rfl 3 rfl ?_
  refine z_iast C za_4 (by decide) (Int32.toNatClampNeg a1) rfl hw.1 dX7_make_13 (z_nms (fun s2 es2 => ?_))
  replace hw := hw.2
  replace hw := hw s2 es2
  refine z_aload_n C dX7_make_14 rfl 0 rfl ?_
  refine f_X7_20 C dX7_make_15 ?_
  refine z_iload_n C dX7_make_18 rfl 1 rfl ?_
  have hb3 := zin_lt hw.1
  refine z_aald C za_5 (by decide) rfl (Int32.toNatClampNeg a1) rfl hw.1 dX7_make_19 ?_
  replace hw := hw.2
  refine z_lconst C 0 dX7_make_20 (by decide) ?_
  refine z_callS C (by decide) M_J7_fill_d0a16 Ms_J7_fill_d0a16 kw_m_X7_29 (t_J7_fill_d0a16__6 hb3 hw) rfl rfl (Nat.le_of_ble_eq_true rfl) dX7_make_21 (z_kv (fun s5 hw => ?_))
  exact z_vreturn C D dX7_make_24 ⟨rfl, hw⟩
set_option maxHeartbeats 4000000 in
set_option maxRecDepth 100000 in
theorem t_X8_tray {l : Launch} {E : zE} {a1 : Int32} {a2 : Int32} {a3 : Int32} {s0 : zS} {Q : Int32 → zS → Prop}  (hw : Wp_X8_tray a1 a2 a3 s0 Q) : zT l 3 E yX8_tray cX8_tray 4 (some .boolean) [.ref (E.1 0 0), .int a1, .int a2, .int a3] s0 (zQb Q) := by
  unfold Wp_X8_tray at hw
  refine z_entry rfl (Nat.le_of_ble_eq_true rfl) rfl ?_
  intro X C D hl hE
  subst hl; subst hE
  have C : zC X cX8_tray RX8 4 3 := C
  refine z_aload_n C dX8_tray_0 rfl 0 rfl ?_
  refine z_iload_n C dX8_tray_1 rfl 1 rfl ?_
  refine z_callS C (by decide) M_X8_isTray Ms_X8_isTray kw_m_X8_81 (t_X8_isTray hw) rfl rfl (Nat.le_of_ble_eq_true rfl) dX8_tray_2 (z_kb (fun r1 s2 hr1 hw => ?_))
  refine z_if_eq C (tgt := 31) dX8_tray_5 (by decide) (fun h => ?_) (fun h => ?_)
  · replace hw := hw.1 h
    refine z_iconst C 0 dX8_tray_31 (by decide) ?_
    refine z_callS C (by decide) M_X8_wrongUnless Ms_X8_wrongUnless kw_m_X8_89 (t_X8_wrongUnless hw) rfl rfl (Nat.le_of_ble_eq_true rfl) dX8_tray_32 (z_ki (fun r3 s4 hw => ?_))
    refine p_X8_67 C dX8_tray_35 (z_nms (fun s5 es5 => ?_))
    replace hw := hw s5 es5
    refine z_aload_n C dX8_tray_38 rfl 0 rfl ?_
    refine f_X8_67 C dX8_tray_39 ?_
    refine z_if_eq C (tgt := 47) dX8_tray_42 (by decide) (fun h => ?_) (fun h => ?_)
    · replace hw := hw.1 h
      refine z_aload_n C dX8_tray_47 rfl 0 rfl ?_
      refine f_X8_19 C dX8_tray_48 ?_
      refine z_iload_n C dX8_tray_51 rfl 1 rfl ?_
      refine z_iload_n C dX8_tray_52 rfl 2 rfl ?_
      refine z_iload_n C dX8_tray_53 rfl 3 rfl ?_
      refine z_callV C (by decide) M_X7_make Mv_X7_make kw_m_X8_93 ob_X7 (t_X7_make hw) rfl rfl (Nat.le_of_ble_eq_true rfl) dX8_tray_54 (z_kv (fun s7 hw => ?_))
      refine z_iconst C 1 dX8_tray_57 (by decide) ?_
      exact z_zreturn C D dX8_tray_58 (Or.inr rfl) ⟨_, rfl, (Or.inr rfl), hw⟩
    · replace hw := hw.2 h
      refine z_iconst C 0 dX8_tray_45 (by decide) ?_
      exact z_zreturn C D dX8_tray_46 (Or.inl rfl) ⟨_, rfl, (Or.inl rfl), hw⟩
  · replace hw := hw.2 h
    refine z_iload_n C dX8_tray_8 rfl 2 rfl ?_
    refine z_iconst C 0 dX8_tray_9 (by decide) ?_
    refine z_iconst C 3 dX8_tray_10 (by decide) ?_
    refine z_callS C (by decide) M_X8_within Ms_X8_within kw_m_X8_85 (t_X8_within hw) rfl rfl (Nat.le_of_ble_eq_true rfl) dX8_tray_11 (z_kb (fun r8 s9 hr8 hw => ?_))
    refine z_if_eq C (tgt := 31) dX8_tray_14 (by decide) (fun h => ?_) (fun h => ?_)
    · replace hw := hw.1 h
      refine z_iconst C 0 dX8_tray_31 (by decide) ?_
      refine z_callS C (by decide) M_X8_wrongUnless Ms_X8_wrongUnless kw_m_X8_89 (t_X8_wrongUnless hw) rfl rfl (Nat.le_of_ble_eq_true rfl) dX8_tray_32 (z_ki (fun r10 s11 hw => ?_))
      refine p_X8_67 C dX8_tray_35 (z_nms (fun s12 es12 => ?_))
      replace hw := hw s12 es12
      refine z_aload_n C dX8_tray_38 rfl 0 rfl ?_
      refine f_X8_67 C dX8_tray_39 ?_
      refine z_if_eq C (tgt := 47) dX8_tray_42 (by decide) (fun h => ?_) (fun h => ?_)
      · replace hw := hw.1 h
        refine z_aload_n C dX8_tray_47 rfl 0 rfl ?_
        refine f_X8_19 C dX8_tray_48 ?_
        refine z_iload_n C dX8_tray_51 rfl 1 rfl ?_
        refine z_iload_n C dX8_tray_52 rfl 2 rfl ?_
        refine z_iload_n C dX8_tray_53 rfl 3 rfl ?_
        refine z_callV C (by decide) M_X7_make Mv_X7_make kw_m_X8_93 ob_X7 (t_X7_make hw) rfl rfl (Nat.le_of_ble_eq_true rfl) dX8_tray_54 (z_kv (fun s14 hw => ?_))
        refine z_iconst C 1 dX8_tray_57 (by decide) ?_
        exact z_zreturn C D dX8_tray_58 (Or.inr rfl) ⟨_, rfl, (Or.inr rfl), hw⟩
      · replace hw := hw.2 h
        refine z_iconst C 0 dX8_tray_45 (by decide) ?_
        exact z_zreturn C D dX8_tray_46 (Or.inl rfl) ⟨_, rfl, (Or.inl rfl), hw⟩
    · replace hw := hw.2 h
      refine z_iload_n C dX8_tray_17 rfl 3 rfl ?_
      refine z_iconst C 0 dX8_tray_18 (by decide) ?_
      refine z_bipush C 60 dX8_tray_19 (by decide) ?_
      refine z_callS C (by decide) M_X8_within Ms_X8_within kw_m_X8_85 (t_X8_within hw) rfl rfl (Nat.le_of_ble_eq_true rfl) dX8_tray_21 (z_kb (fun r15 s16 hr15 hw => ?_))
      refine z_if_eq C (tgt := 31) dX8_tray_24 (by decide) (fun h => ?_) (fun h => ?_)
      · replace hw := hw.1 h
        refine z_iconst C 0 dX8_tray_31 (by decide) ?_
        refine z_callS C (by decide) M_X8_wrongUnless Ms_X8_wrongUnless kw_m_X8_89 (t_X8_wrongUnless hw) rfl rfl (Nat.le_of_ble_eq_true rfl) dX8_tray_32 (z_ki (fun r17 s18 hw => ?_))
        refine p_X8_67 C dX8_tray_35 (z_nms (fun s19 es19 => ?_))
        replace hw := hw s19 es19
        refine z_aload_n C dX8_tray_38 rfl 0 rfl ?_
        refine f_X8_67 C dX8_tray_39 ?_
        refine z_if_eq C (tgt := 47) dX8_tray_42 (by decide) (fun h => ?_) (fun h => ?_)
        · replace hw := hw.1 h
          refine z_aload_n C dX8_tray_47 rfl 0 rfl ?_
          refine f_X8_19 C dX8_tray_48 ?_
          refine z_iload_n C dX8_tray_51 rfl 1 rfl ?_
          refine z_iload_n C dX8_tray_52 rfl 2 rfl ?_
          refine z_iload_n C dX8_tray_53 rfl 3 rfl ?_
          refine z_callV C (by decide) M_X7_make Mv_X7_make kw_m_X8_93 ob_X7 (t_X7_make hw) rfl rfl (Nat.le_of_ble_eq_true rfl) dX8_tray_54 (z_kv (fun s21 hw => ?_))
          refine z_iconst C 1 dX8_tray_57 (by decide) ?_
          exact z_zreturn C D dX8_tray_58 (Or.inr rfl) ⟨_, rfl, (Or.inr rfl), hw⟩
        · replace hw := hw.2 h
          refine z_iconst C 0 dX8_tray_45 (by decide) ?_
          exact z_zreturn C D dX8_tray_46 (Or.inl rfl) ⟨_, rfl, (Or.inl rfl), hw⟩
      · replace hw := hw.2 h
        refine z_iconst C 1 dX8_tray_27 (by decide) ?_
        refine z_goto C (tgt := 32) dX8_tray_28 (by decide) ?_
        refine z_callS C (by decide) M_X8_wrongUnless Ms_X8_wrongUnless kw_m_X8_89 (t_X8_wrongUnless hw) rfl rfl (Nat.le_of_ble_eq_true rfl) dX8_tray_32 (z_ki (fun r22 s23 hw => ?_))
        refine p_X8_67 C dX8_tray_35 (z_nms (fun s24 es24 => ?_))
        replace hw := hw s24 es24
        refine z_aload_n C dX8_tray_38 rfl 0 rfl ?_
        refine f_X8_67 C dX8_tray_39 ?_
        refine z_if_eq C (tgt := 47) dX8_tray_42 (by decide) (fun h => ?_) (fun h => ?_)
        · replace hw := hw.1 h
          refine z_aload_n C dX8_tray_47 rfl 0 rfl ?_
          refine f_X8_19 C dX8_tray_48 ?_
          refine z_iload_n C dX8_tray_51 rfl 1 rfl ?_
          refine z_iload_n C dX8_tray_52 rfl 2 rfl ?_
          refine z_iload_n C dX8_tray_53 rfl 3 rfl ?_
          refine z_callV C (by decide) M_X7_make Mv_X7_make kw_m_X8_93 ob_X7 (t_X7_make hw) rfl rfl (Nat.le_of_ble_eq_true rfl) dX8_tray_54 (z_kv (fun s26 hw => ?_))
          refine z_iconst C 1 dX8_tray_57 (by decide) ?_
          exact z_zreturn C D dX8_tray_58 (Or.inr rfl) ⟨_, rfl, (Or.inr rfl), hw⟩
        · replace hw := hw.2 h
          refine z_iconst C 0 dX8_tray_45 (by decide) ?_
          exact z_zreturn C D dX8_tray_46 (Or.inl rfl) ⟨_, rfl, (Or.inl rfl), hw⟩
set_option maxHeartbeats 4000000 in
set_option maxRecDepth 100000 in
theorem t_X9_isTray {l : Launch} {E : zE} {a0 : Int32} {s0 : zS} {Q : Int32 → zS → Prop}  (hw : Wp_X9_isTray a0 s0 Q) : zT l 1 E yX9_isTray cX9_isTray 1 (some .boolean) [.int a0] s0 (zQb Q) := by
  unfold Wp_X9_isTray at hw
  refine z_entry rfl (Nat.le_of_ble_eq_true rfl) rfl ?_
  intro X C D hl hE
  subst hl; subst hE
  have C : zC X cX9_isTray RX9 1 1 := C
  refine z_iload_n C dX9_isTray_0 rfl 0 rfl ?_
  refine z_if_lt C (tgt := 13) dX9_isTray_1 (by decide) (fun h => ?_) (fun h => ?_)
  · replace hw := hw.1 h
    refine z_iconst C 0 dX9_isTray_13 (by decide) ?_
    exact z_zreturn C D dX9_isTray_14 (Or.inl rfl) ⟨_, rfl, (Or.inl rfl), hw⟩
  · replace hw := hw.2 h
    refine z_iload_n C dX9_isTray_4 rfl 0 rfl ?_
    refine z_iconst C 4 dX9_isTray_5 (by decide) ?_
    refine z_icmp_ge C (tgt := 13) dX9_isTray_6 (by decide) (fun h => ?_) (fun h => ?_)
    · replace hw := hw.1 h
      refine z_iconst C 0 dX9_isTray_13 (by decide) ?_
      exact z_zreturn C D dX9_isTray_14 (Or.inl rfl) ⟨_, rfl, (Or.inl rfl), hw⟩
    · replace hw := hw.2 h
      refine z_iconst C 1 dX9_isTray_9 (by decide) ?_
      refine z_goto C (tgt := 14) dX9_isTray_10 (by decide) ?_
      exact z_zreturn C D dX9_isTray_14 (Or.inr rfl) ⟨_, rfl, (Or.inr rfl), hw⟩
set_option maxHeartbeats 4000000 in
set_option maxRecDepth 100000 in
theorem t_X9_is {l : Launch} {E : zE} {a1 : Int32} {s0 : zS} {Q : Int32 → zS → Prop}  (hw : Wp_X9_is a1 s0 Q) : zT l 1 E yX9_is cX9_is 2 (some .boolean) [.ref (E.1 54 0), .int a1] s0 (zQb Q) := by
  unfold Wp_X9_is at hw
  refine z_entry rfl (Nat.le_of_ble_eq_true rfl) rfl ?_
  intro X C D hl hE
  subst hl; subst hE
  have C : zC X cX9_is RX9 2 1 := C
  refine z_aload_n C dX9_is_0 rfl 0 rfl ?_
  refine z_iload_n C dX9_is_1 rfl 1 rfl ?_
  refine p_X9_109 C dX9_is_2 (z_nms (fun s1 es1 => ?_))
  replace hw := hw s1 es1
  refine z_iload_n C dX9_is_5 rfl 1 rfl ?_
  refine z_if_ne C (tgt := 13) dX9_is_6 (by decide) (fun h => ?_) (fun h => ?_)
  · replace hw := hw.1 h
    refine z_iconst C 0 dX9_is_13 (by decide) ?_
    exact z_zreturn C D dX9_is_14 (Or.inl rfl) ⟨_, rfl, (Or.inl rfl), hw⟩
  · replace hw := hw.2 h
    refine z_iconst C 1 dX9_is_9 (by decide) ?_
    refine z_goto C (tgt := 14) dX9_is_10 (by decide) ?_
    exact z_zreturn C D dX9_is_14 (Or.inr rfl) ⟨_, rfl, (Or.inr rfl), hw⟩
set_option maxHeartbeats 4000000 in
set_option maxRecDepth 100000 in
theorem t_X9_tray {l : Launch} {E : zE} {a1 : Int32} {a2 : Int32} {a3 : Int32} {s0 : zS} {Q : Int32 → zS → Prop}  (hw : Wp_X9_tray a1 a2 a3 s0 Q) : zT l 2 E yX9_tray cX9_tray 5 (some .boolean) [.ref (E.1 54 0), .int a1, .int a2, .int a3] s0 (zQb Q) := by
  unfold Wp_X9_tray at hw
  refine z_entry rfl (Nat.le_of_ble_eq_true rfl) rfl ?_
  intro X C D hl hE
  subst hl; subst hE
  have C : zC X cX9_tray RX9 5 2 := C
  refine z_use (hw (fun v4 s0 => zV X 49 [(0, .ref ((zXE X).1 54 0)), (1, .int a1), (3, .int a3), (4, .int v4)] [] s0) (fun v4 s0 hw => ?_)) (fun hw => ?_)
  · show zV X 49 _ _ _
    refine z_iload C dX9_tray_49 3 rfl ?_
    refine z_iload_n C dX9_tray_51 rfl 2 rfl ?_
    refine z_icmp_ge C (tgt := 74) dX9_tray_52 (by decide) (fun h => ?_) (fun h => ?_)
    · replace hw := hw.1 h
      refine z_aload_n C dX9_tray_74 rfl 0 rfl ?_
      refine z_iconst C 0 dX9_tray_75 (by decide) ?_
      refine z_callV C (by decide) M_X9_is Mv_X9_is kw_m_X9_120 ob_X9 (t_X9_is hw) rfl rfl (Nat.le_of_ble_eq_true rfl) dX9_tray_76 (z_kb (fun r15 s16 hr15 hw => ?_))
      exact z_zreturn C D dX9_tray_79 hr15 ⟨_, rfl, hr15, hw⟩
    · replace hw := hw.2 h
      refine z_aload_n C dX9_tray_55 rfl 0 rfl ?_
      refine f_X9_20 C dX9_tray_56 ?_
      refine z_bipush C 60 dX9_tray_59 (by decide) ?_
      refine z_iload_n C dX9_tray_61 rfl 1 rfl ?_
      refine z_imul C dX9_tray_62 ?_
      refine z_iload C dX9_tray_63 3 rfl ?_
      refine z_iadd C dX9_tray_65 ?_
      refine z_lconst C 0 dX9_tray_66 (by decide) ?_
      refine z_last C za_57 (by decide) (Int32.toNatClampNeg (((60 : Int32) * a1) + v4)) rfl hw.1 dX9_tray_67 (z_nms (fun s17 es17 => ?_))
      replace hw := hw.2
      replace hw := hw s17 es17
      refine z_iinc C (v4 + 1) [(4, .int (v4 + 1)), (0, .ref ((zXE X).1 54 0)), (1, .int a1), (3, .int a3)] dX9_tray_68 3 rfl rfl (by decide) rfl ?_
      refine z_goto C (tgt := 49) dX9_tray_71 (by decide) ?_
      exact z_lv [1, 2, 3, 0] rfl hw
  refine z_iload_n C dX9_tray_0 rfl 1 rfl ?_
  refine z_callS C (by decide) M_X9_isTray Ms_X9_isTray kw_m_X9_116 (t_X9_isTray hw) rfl rfl (Nat.le_of_ble_eq_true rfl) dX9_tray_1 (z_kb (fun r1 s2 hr1 hw => ?_))
  refine z_if_eq C (tgt := 26) dX9_tray_4 (by decide) (fun h => ?_) (fun h => ?_)
  · replace hw := hw.1 h
    refine z_aload_n C dX9_tray_26 rfl 0 rfl ?_
    refine z_iconst C 1 dX9_tray_27 (by decide) ?_
    refine z_callV C (by decide) M_X9_is Mv_X9_is kw_m_X9_120 ob_X9 (t_X9_is hw) rfl rfl (Nat.le_of_ble_eq_true rfl) dX9_tray_28 (z_kb (fun r3 s4 hr3 hw => ?_))
    exact z_zreturn C D dX9_tray_31 hr3 ⟨_, rfl, hr3, hw⟩
  · replace hw := hw.2 h
    refine z_iload_n C dX9_tray_7 rfl 2 rfl ?_
    refine z_if_lt C (tgt := 26) dX9_tray_8 (by decide) (fun h => ?_) (fun h => ?_)
    · replace hw := hw.1 h
      refine z_aload_n C dX9_tray_26 rfl 0 rfl ?_
      refine z_iconst C 1 dX9_tray_27 (by decide) ?_
      refine z_callV C (by decide) M_X9_is Mv_X9_is kw_m_X9_120 ob_X9 (t_X9_is hw) rfl rfl (Nat.le_of_ble_eq_true rfl) dX9_tray_28 (z_kb (fun r5 s6 hr5 hw => ?_))
      exact z_zreturn C D dX9_tray_31 hr5 ⟨_, rfl, hr5, hw⟩
    · replace hw := hw.2 h
      refine z_iload_n C dX9_tray_11 rfl 2 rfl ?_
      refine z_iconst C 3 dX9_tray_12 (by decide) ?_
      refine z_icmp_gt C (tgt := 26) dX9_tray_13 (by decide) (fun h => ?_) (fun h => ?_)
      · replace hw := hw.1 h
        refine z_aload_n C dX9_tray_26 rfl 0 rfl ?_
        refine z_iconst C 1 dX9_tray_27 (by decide) ?_
        refine z_callV C (by decide) M_X9_is Mv_X9_is kw_m_X9_120 ob_X9 (t_X9_is hw) rfl rfl (Nat.le_of_ble_eq_true rfl) dX9_tray_28 (z_kb (fun r7 s8 hr7 hw => ?_))
        exact z_zreturn C D dX9_tray_31 hr7 ⟨_, rfl, hr7, hw⟩
      · replace hw := hw.2 h
        refine z_iload_n C dX9_tray_16 rfl 3 rfl ?_
        refine z_if_lt C (tgt := 26) dX9_tray_17 (by decide) (fun h => ?_) (fun h => ?_)
        · replace hw := hw.1 h
          refine z_aload_n C dX9_tray_26 rfl 0 rfl ?_
          refine z_iconst C 1 dX9_tray_27 (by decide) ?_
          refine z_callV C (by decide) M_X9_is Mv_X9_is kw_m_X9_120 ob_X9 (t_X9_is hw) rfl rfl (Nat.le_of_ble_eq_true rfl) dX9_tray_28 (z_kb (fun r9 s10 hr9 hw => ?_))
          exact z_zreturn C D dX9_tray_31 hr9 ⟨_, rfl, hr9, hw⟩
        · replace hw := hw.2 h
          refine z_iload_n C dX9_tray_20 rfl 3 rfl ?_
          refine z_bipush C 60 dX9_tray_21 (by decide) ?_
          refine z_icmp_le C (tgt := 32) dX9_tray_23 (by decide) (fun h => ?_) (fun h => ?_)
          · replace hw := hw.1 h
            refine z_aload_n C dX9_tray_32 rfl 0 rfl ?_
            refine f_X9_13 C dX9_tray_33 ?_
            refine z_iload_n C dX9_tray_36 rfl 1 rfl ?_
            refine z_iload_n C dX9_tray_37 rfl 2 rfl ?_
            refine z_iast C za_55 (by decide) (Int32.toNatClampNeg a1) rfl hw.1 dX9_tray_38 (z_nms (fun s11 es11 => ?_))
            replace hw := hw.2
            replace hw := hw s11 es11
            refine z_aload_n C dX9_tray_39 rfl 0 rfl ?_
            refine f_X9_17 C dX9_tray_40 ?_
            refine z_iload_n C dX9_tray_43 rfl 1 rfl ?_
            refine z_iload_n C dX9_tray_44 rfl 3 rfl ?_
            refine z_iast C za_56 (by decide) (Int32.toNatClampNeg a1) rfl hw.1 dX9_tray_45 (z_nms (fun s12 es12 => ?_))
            replace hw := hw.2
            replace hw := hw s12 es12
            refine z_iconst C 0 dX9_tray_46 (by decide) ?_
            refine z_istore C [(4, .int (0 : Int32)), (0, .ref ((zXE X).1 54 0)), (1, .int a1), (2, .int a2), (3, .int a3)] dX9_tray_47 (by decide) rfl ?_
            exact z_lv [1, 2, 4, 0] rfl hw
          · replace hw := hw.2 h
            refine z_aload_n C dX9_tray_26 rfl 0 rfl ?_
            refine z_iconst C 1 dX9_tray_27 (by decide) ?_
            refine z_callV C (by decide) M_X9_is Mv_X9_is kw_m_X9_120 ob_X9 (t_X9_is hw) rfl rfl (Nat.le_of_ble_eq_true rfl) dX9_tray_28 (z_kb (fun r13 s14 hr13 hw => ?_))
            exact z_zreturn C D dX9_tray_31 hr13 ⟨_, rfl, hr13, hw⟩
set_option maxHeartbeats 4000000 in
set_option maxRecDepth 100000 in
theorem t_X7_isMissing {l : Launch} {E : zE} {a1 : Int32} {s0 : zS} {Q : Int32 → zS → Prop}  (hw : Wp_X7_isMissing a1 s0 Q) : zT l 1 E yX7_isMissing cX7_isMissing 2 (some .boolean) [.ref (E.1 2 0), .int a1] s0 (zQb Q) := by
  unfold Wp_X7_isMissing at hw
  refine z_entry rfl (Nat.le_of_ble_eq_true rfl) rfl ?_
  intro X C D hl hE
  subst hl; subst hE
  have C : zC X cX7_isMissing RX7 2 1 := C
  refine z_aload_n C dX7_isMissing_0 rfl 0 rfl ?_
  refine f_X7_9 C dX7_isMissing_1 ?_
  refine z_iload_n C dX7_isMissing_4 rfl 1 rfl ?_
  refine z_iald C za_3 (by decide) (Int32.toNatClampNeg a1) rfl hw.1 dX7_isMissing_5 ?_
  replace hw := hw.2
  refine z_iconst C (-1) dX7_isMissing_6 (by decide) ?_
  refine z_icmp_ne C (tgt := 14) dX7_isMissing_7 (by decide) (fun h => ?_) (fun h => ?_)
  · replace hw := hw.1 h
    refine z_iconst C 0 dX7_isMissing_14 (by decide) ?_
    exact z_zreturn C D dX7_isMissing_15 (Or.inl rfl) ⟨_, rfl, (Or.inl rfl), hw⟩
  · replace hw := hw.2 h
    refine z_iconst C 1 dX7_isMissing_10 (by decide) ?_
    refine z_goto C (tgt := 15) dX7_isMissing_11 (by decide) ?_
    exact z_zreturn C D dX7_isMissing_15 (Or.inr rfl) ⟨_, rfl, (Or.inr rfl), hw⟩
set_option maxHeartbeats 4000000 in
set_option maxRecDepth 100000 in
theorem t_X8_placeFault {l : Launch} {E : zE} {a1 : Int32} {a2 : Int32} {s0 : zS} {Q : Int32 → zS → Prop}  (hw : Wp_X8_placeFault a1 a2 s0 Q) : zT l 3 E yX8_placeFault cX8_placeFault 3 (some .int) [.ref (E.1 0 0), .int a1, .int a2] s0 (zQi Q) := by
  unfold Wp_X8_placeFault at hw
  refine z_entry rfl (Nat.le_of_ble_eq_true rfl) rfl ?_
  intro X C D hl hE
  subst hl; subst hE
  have C : zC X cX8_placeFault RX8 3 3 := C
  refine z_iload_n C dX8_placeFault_0 rfl 1 rfl ?_
  refine z_callS C (by decide) M_X8_isTray Ms_X8_isTray kw_m_X8_81 (t_X8_isTray hw) rfl rfl (Nat.le_of_ble_eq_true rfl) dX8_placeFault_1 (z_kb (fun r1 s2 hr1 hw => ?_))
  refine z_if_ne C (tgt := 9) dX8_placeFault_4 (by decide) (fun h => ?_) (fun h => ?_)
  · replace hw := hw.1 h
    refine z_aload_n C dX8_placeFault_9 rfl 0 rfl ?_
    refine f_X8_19 C dX8_placeFault_10 ?_
    refine z_iload_n C dX8_placeFault_13 rfl 1 rfl ?_
    refine z_callV C (by decide) M_X7_isMissing Mv_X7_isMissing kw_m_X8_299 ob_X7 (t_X7_isMissing hw) rfl rfl (Nat.le_of_ble_eq_true rfl) dX8_placeFault_14 (z_kb (fun r3 s4 hr3 hw => ?_))
    refine z_if_eq C (tgt := 22) dX8_placeFault_17 (by decide) (fun h => ?_) (fun h => ?_)
    · replace hw := hw.1 h
      refine z_iload_n C dX8_placeFault_22 rfl 2 rfl ?_
      refine z_iconst C 0 dX8_placeFault_23 (by decide) ?_
      refine z_aload_n C dX8_placeFault_24 rfl 0 rfl ?_
      refine f_X8_19 C dX8_placeFault_25 ?_
      refine f_X8_302 C dX8_placeFault_28 ?_
      refine z_iload_n C dX8_placeFault_31 rfl 1 rfl ?_
      refine z_iald C za_4 (by decide) (Int32.toNatClampNeg a1) rfl hw.1 dX8_placeFault_32 ?_
      replace hw := hw.2
      refine z_iconst C 1 dX8_placeFault_33 (by decide) ?_
      refine z_isub C dX8_placeFault_34 ?_
      refine z_callS C (by decide) M_X8_within Ms_X8_within kw_m_X8_85 (t_X8_within hw) rfl rfl (Nat.le_of_ble_eq_true rfl) dX8_placeFault_35 (z_kb (fun r5 s6 hr5 hw => ?_))
      refine z_if_eq C (tgt := 45) dX8_placeFault_38 (by decide) (fun h => ?_) (fun h => ?_)
      · replace hw := hw.1 h
        refine z_iconst C 4 dX8_placeFault_45 (by decide) ?_
        exact z_ireturn C D dX8_placeFault_46 ⟨_, rfl, hw⟩
      · replace hw := hw.2 h
        refine z_iconst C 0 dX8_placeFault_41 (by decide) ?_
        refine z_goto C (tgt := 46) dX8_placeFault_42 (by decide) ?_
        exact z_ireturn C D dX8_placeFault_46 ⟨_, rfl, hw⟩
    · replace hw := hw.2 h
      refine z_iconst C 3 dX8_placeFault_20 (by decide) ?_
      exact z_ireturn C D dX8_placeFault_21 ⟨_, rfl, hw⟩
  · replace hw := hw.2 h
    refine z_iconst C 1 dX8_placeFault_7 (by decide) ?_
    exact z_ireturn C D dX8_placeFault_8 ⟨_, rfl, hw⟩
set_option maxHeartbeats 4000000 in
set_option maxRecDepth 100000 in
theorem t_X7_cut {l : Launch} {E : zE} {a0 : Int64} {a2 : Int32} {s0 : zS} {Q : Int64 → zS → Prop}  (hw : Wp_X7_cut a0 a2 s0 Q) : zT l 1 E yX7_cut cX7_cut 3 (some .long) [.long a0, .int a2] s0 (zQl Q) := by
  unfold Wp_X7_cut at hw
  refine z_entry rfl (Nat.le_of_ble_eq_true rfl) rfl ?_
  intro X C D hl hE
  subst hl; subst hE
  have C : zC X cX7_cut RX7 3 1 := C
  refine z_iload_n C dX7_cut_0 rfl 1 rfl ?_
  by_cases h0 : a2 = 0
  · replace hw := hw.1 h0
    refine z_tabIn C (tgt := 28) dX7_cut_1 (by rw [h0]; decide) (by rw [h0]; decide) (by rw [h0]; rfl) (by decide) ?_
    refine z_lload_n C dX7_cut_28 rfl 0 rfl ?_
    refine z_l2i C dX7_cut_29 ?_
    refine z_i2b C dX7_cut_30 ?_
    refine z_i2l C dX7_cut_31 ?_
    exact z_lreturn C D dX7_cut_32 ⟨_, rfl, hw⟩
  by_cases h1 : a2 = 1
  · replace hw := hw.2.1 h1
    refine z_tabIn C (tgt := 33) dX7_cut_1 (by rw [h1]; decide) (by rw [h1]; decide) (by rw [h1]; rfl) (by decide) ?_
    refine z_lload_n C dX7_cut_33 rfl 0 rfl ?_
    refine z_l2i C dX7_cut_34 ?_
    refine z_i2s C dX7_cut_35 ?_
    refine z_i2l C dX7_cut_36 ?_
    exact z_lreturn C D dX7_cut_37 ⟨_, rfl, hw⟩
  by_cases h2 : a2 = 2
  · replace hw := hw.2.2.1 h2
    refine z_tabIn C (tgt := 38) dX7_cut_1 (by rw [h2]; decide) (by rw [h2]; decide) (by rw [h2]; rfl) (by decide) ?_
    refine z_lload_n C dX7_cut_38 rfl 0 rfl ?_
    refine z_l2i C dX7_cut_39 ?_
    refine z_i2l C dX7_cut_40 ?_
    exact z_lreturn C D dX7_cut_41 ⟨_, rfl, hw⟩
  replace hw := hw.2.2.2 ⟨h0, h1, h2⟩
  refine z_tabOut C (tgt := 42) dX7_cut_1 (z_tab_0_3 ⟨h0, h1, h2⟩) (by decide) ?_
  refine z_lload_n C dX7_cut_42 rfl 0 rfl ?_
  exact z_lreturn C D dX7_cut_43 ⟨_, rfl, hw⟩
set_option maxHeartbeats 4000000 in
set_option maxRecDepth 100000 in
theorem t_X7_put {l : Launch} {E : zE} {a1 : Int32} {a2 : Int32} {a3 : Int64} {s0 : zS} {Q : zS → Prop}  (hw : Wp_X7_put a1 a2 a3 s0 Q) : zT l 2 E yX7_put cX7_put 5 none [.ref (E.1 2 0), .int a1, .int a2, .long a3] s0 (zQv Q) := by
  unfold Wp_X7_put at hw
  refine z_entry rfl (Nat.le_of_ble_eq_true rfl) rfl ?_
  intro X C D hl hE
  subst hl; subst hE
  have C : zC X cX7_put RX7 5 2 := C
  refine z_aload_n C dX7_put_0 rfl 0 rfl ?_
  refine f_X7_20 C dX7_put_1 ?_
  refine z_iload_n C dX7_put_4 rfl 1 rfl ?_
  have hb1 := zin_lt hw.1
  refine z_aald C za_5 (by decide) rfl (Int32.toNatClampNeg a1) rfl hw.1 dX7_put_5 ?_
  replace hw := hw.2
  refine z_iload_n C dX7_put_6 rfl 2 rfl ?_
  refine z_lload_n C dX7_put_7 rfl 3 rfl ?_
  refine z_aload_n C dX7_put_8 rfl 0 rfl ?_
  refine f_X7_9 C dX7_put_9 ?_
  refine z_iload_n C dX7_put_12 rfl 1 rfl ?_
  refine z_iald C za_3 (by decide) (Int32.toNatClampNeg a1) rfl hw.1 dX7_put_13 ?_
  replace hw := hw.2
  refine z_callS C (by decide) M_X7_cut Ms_X7_cut kw_m_X7_32 (t_X7_cut hw) rfl rfl (Nat.le_of_ble_eq_true rfl) dX7_put_14 (z_kl (fun r2 s3 hw => ?_))
  refine z_last C za_6 hb1 (Int32.toNatClampNeg a2) rfl hw.1 dX7_put_17 (z_nms (fun s4 es4 => ?_))
  replace hw := hw.2
  replace hw := hw s4 es4
  exact z_vreturn C D dX7_put_18 ⟨rfl, hw⟩
set_option maxHeartbeats 4000000 in
set_option maxRecDepth 100000 in
theorem t_X8_write {l : Launch} {E : zE} {a1 : Int32} {a2 : Int32} {a3 : Int64} {s0 : zS} {Q : Int32 → zS → Prop}  (hw : Wp_X8_write a1 a2 a3 s0 Q) : zT l 4 E yX8_write cX8_write 5 (some .boolean) [.ref (E.1 0 0), .int a1, .int a2, .long a3] s0 (zQb Q) := by
  unfold Wp_X8_write at hw
  refine z_entry rfl (Nat.le_of_ble_eq_true rfl) rfl ?_
  intro X C D hl hE
  subst hl; subst hE
  have C : zC X cX8_write RX8 5 4 := C
  refine z_aload_n C dX8_write_0 rfl 0 rfl ?_
  refine z_aload_n C dX8_write_1 rfl 0 rfl ?_
  refine z_iload_n C dX8_write_2 rfl 1 rfl ?_
  refine z_iload_n C dX8_write_3 rfl 2 rfl ?_
  refine z_callV C (by decide) M_X8_placeFault Mv_X8_placeFault kw_m_X8_97 ob_X8 (t_X8_placeFault hw) rfl rfl (Nat.le_of_ble_eq_true rfl) dX8_write_4 (z_ki (fun r1 s2 hw => ?_))
  refine p_X8_67 C dX8_write_7 (z_nms (fun s3 es3 => ?_))
  replace hw := hw s3 es3
  refine z_aload_n C dX8_write_10 rfl 0 rfl ?_
  refine f_X8_67 C dX8_write_11 ?_
  refine z_if_eq C (tgt := 19) dX8_write_14 (by decide) (fun h => ?_) (fun h => ?_)
  · replace hw := hw.1 h
    refine z_aload_n C dX8_write_19 rfl 0 rfl ?_
    refine f_X8_19 C dX8_write_20 ?_
    refine z_iload_n C dX8_write_23 rfl 1 rfl ?_
    refine z_iload_n C dX8_write_24 rfl 2 rfl ?_
    refine z_lload_n C dX8_write_25 rfl 3 rfl ?_
    refine z_callV C (by decide) M_X7_put Mv_X7_put kw_m_X8_101 ob_X7 (t_X7_put hw) rfl rfl (Nat.le_of_ble_eq_true rfl) dX8_write_26 (z_kv (fun s5 hw => ?_))
    refine z_iconst C 1 dX8_write_29 (by decide) ?_
    exact z_zreturn C D dX8_write_30 (Or.inr rfl) ⟨_, rfl, (Or.inr rfl), hw⟩
  · replace hw := hw.2 h
    refine z_iconst C 0 dX8_write_17 (by decide) ?_
    exact z_zreturn C D dX8_write_18 (Or.inl rfl) ⟨_, rfl, (Or.inl rfl), hw⟩
set_option maxHeartbeats 4000000 in
set_option maxRecDepth 100000 in
theorem t_X9_wrong {l : Launch} {E : zE} {a1 : Int32} {a2 : Int32} {s0 : zS} {Q : Int32 → zS → Prop}  (hw : Wp_X9_wrong a1 a2 s0 Q) : zT l 2 E yX9_wrong cX9_wrong 3 (some .int) [.ref (E.1 54 0), .int a1, .int a2] s0 (zQi Q) := by
  unfold Wp_X9_wrong at hw
  refine z_entry rfl (Nat.le_of_ble_eq_true rfl) rfl ?_
  intro X C D hl hE
  subst hl; subst hE
  have C : zC X cX9_wrong RX9 3 2 := C
  refine z_iload_n C dX9_wrong_0 rfl 1 rfl ?_
  refine z_callS C (by decide) M_X9_isTray Ms_X9_isTray kw_m_X9_116 (t_X9_isTray hw) rfl rfl (Nat.le_of_ble_eq_true rfl) dX9_wrong_1 (z_kb (fun r1 s2 hr1 hw => ?_))
  refine z_if_ne C (tgt := 11) dX9_wrong_4 (by decide) (fun h => ?_) (fun h => ?_)
  · replace hw := hw.1 h
    refine z_aload_n C dX9_wrong_11 rfl 0 rfl ?_
    refine f_X9_17 C dX9_wrong_12 ?_
    refine z_iload_n C dX9_wrong_15 rfl 1 rfl ?_
    refine z_iald C za_56 (by decide) (Int32.toNatClampNeg a1) rfl hw.1 dX9_wrong_16 ?_
    replace hw := hw.2
    refine z_iconst C (-1) dX9_wrong_17 (by decide) ?_
    refine z_icmp_ne C (tgt := 25) dX9_wrong_18 (by decide) (fun h => ?_) (fun h => ?_)
    · replace hw := hw.1 h
      refine z_iload_n C dX9_wrong_25 rfl 2 rfl ?_
      refine z_if_lt C (tgt := 39) dX9_wrong_26 (by decide) (fun h => ?_) (fun h => ?_)
      · replace hw := hw.1 h
        refine z_iconst C 4 dX9_wrong_39 (by decide) ?_
        refine z_goto C (tgt := 44) dX9_wrong_40 (by decide) ?_
        exact z_ireturn C D dX9_wrong_44 ⟨_, rfl, hw⟩
      · replace hw := hw.2 h
        refine z_iload_n C dX9_wrong_29 rfl 2 rfl ?_
        refine z_aload_n C dX9_wrong_30 rfl 0 rfl ?_
        refine f_X9_17 C dX9_wrong_31 ?_
        refine z_iload_n C dX9_wrong_34 rfl 1 rfl ?_
        refine z_iald C za_56 (by decide) (Int32.toNatClampNeg a1) rfl hw.1 dX9_wrong_35 ?_
        replace hw := hw.2
        refine z_icmp_lt C (tgt := 43) dX9_wrong_36 (by decide) (fun h => ?_) (fun h => ?_)
        · replace hw := hw.1 h
          refine z_iconst C 0 dX9_wrong_43 (by decide) ?_
          exact z_ireturn C D dX9_wrong_44 ⟨_, rfl, hw⟩
        · replace hw := hw.2 h
          refine z_iconst C 4 dX9_wrong_39 (by decide) ?_
          refine z_goto C (tgt := 44) dX9_wrong_40 (by decide) ?_
          exact z_ireturn C D dX9_wrong_44 ⟨_, rfl, hw⟩
    · replace hw := hw.2 h
      refine z_iconst C 3 dX9_wrong_21 (by decide) ?_
      refine z_goto C (tgt := 44) dX9_wrong_22 (by decide) ?_
      exact z_ireturn C D dX9_wrong_44 ⟨_, rfl, hw⟩
  · replace hw := hw.2 h
    refine z_iconst C 1 dX9_wrong_7 (by decide) ?_
    refine z_goto C (tgt := 44) dX9_wrong_8 (by decide) ?_
    exact z_ireturn C D dX9_wrong_44 ⟨_, rfl, hw⟩
set_option maxHeartbeats 4000000 in
set_option maxRecDepth 100000 in
theorem t_X9_cut {l : Launch} {E : zE} {a0 : Int64} {a2 : Int32} {s0 : zS} {Q : Int64 → zS → Prop}  (hw : Wp_X9_cut a0 a2 s0 Q) : zT l 1 E yX9_cut cX9_cut 3 (some .long) [.long a0, .int a2] s0 (zQl Q) := by
  unfold Wp_X9_cut at hw
  refine z_entry rfl (Nat.le_of_ble_eq_true rfl) rfl ?_
  intro X C D hl hE
  subst hl; subst hE
  have C : zC X cX9_cut RX9 3 1 := C
  refine z_iload_n C dX9_cut_0 rfl 1 rfl ?_
  refine z_if_ne C (tgt := 11) dX9_cut_1 (by decide) (fun h => ?_) (fun h => ?_)
  · replace hw := hw.1 h
    refine z_iload_n C dX9_cut_11 rfl 1 rfl ?_
    refine z_iconst C 1 dX9_cut_12 (by decide) ?_
    refine z_icmp_ne C (tgt := 23) dX9_cut_13 (by decide) (fun h => ?_) (fun h => ?_)
    · replace hw := hw.1 h
      refine z_iload_n C dX9_cut_23 rfl 1 rfl ?_
      refine z_iconst C 2 dX9_cut_24 (by decide) ?_
      refine z_icmp_ne C (tgt := 34) dX9_cut_25 (by decide) (fun h => ?_) (fun h => ?_)
      · replace hw := hw.1 h
        refine z_lload_n C dX9_cut_34 rfl 0 rfl ?_
        exact z_lreturn C D dX9_cut_35 ⟨_, rfl, hw⟩
      · replace hw := hw.2 h
        refine z_lload_n C dX9_cut_28 rfl 0 rfl ?_
        refine z_l2i C dX9_cut_29 ?_
        refine z_i2l C dX9_cut_30 ?_
        refine z_goto C (tgt := 35) dX9_cut_31 (by decide) ?_
        exact z_lreturn C D dX9_cut_35 ⟨_, rfl, hw⟩
    · replace hw := hw.2 h
      refine z_lload_n C dX9_cut_16 rfl 0 rfl ?_
      refine z_l2i C dX9_cut_17 ?_
      refine z_i2s C dX9_cut_18 ?_
      refine z_i2l C dX9_cut_19 ?_
      refine z_goto C (tgt := 35) dX9_cut_20 (by decide) ?_
      exact z_lreturn C D dX9_cut_35 ⟨_, rfl, hw⟩
  · replace hw := hw.2 h
    refine z_lload_n C dX9_cut_4 rfl 0 rfl ?_
    refine z_l2i C dX9_cut_5 ?_
    refine z_i2b C dX9_cut_6 ?_
    refine z_i2l C dX9_cut_7 ?_
    refine z_goto C (tgt := 35) dX9_cut_8 (by decide) ?_
    exact z_lreturn C D dX9_cut_35 ⟨_, rfl, hw⟩
set_option maxHeartbeats 4000000 in
set_option maxRecDepth 100000 in
theorem t_X9_write {l : Launch} {E : zE} {a1 : Int32} {a2 : Int32} {a3 : Int64} {s0 : zS} {Q : Int32 → zS → Prop}  (hw : Wp_X9_write a1 a2 a3 s0 Q) : zT l 3 E yX9_write cX9_write 6 (some .boolean) [.ref (E.1 54 0), .int a1, .int a2, .long a3] s0 (zQb Q) := by
  unfold Wp_X9_write at hw
  refine z_entry rfl (Nat.le_of_ble_eq_true rfl) rfl ?_
  intro X C D hl hE
  subst hl; subst hE
  have C : zC X cX9_write RX9 6 3 := C
  refine z_aload_n C dX9_write_0 rfl 0 rfl ?_
  refine z_iload_n C dX9_write_1 rfl 1 rfl ?_
  refine z_iload_n C dX9_write_2 rfl 2 rfl ?_
  refine z_callV C (by decide) M_X9_wrong Mv_X9_wrong kw_m_X9_123 ob_X9 (t_X9_wrong hw) rfl rfl (Nat.le_of_ble_eq_true rfl) dX9_write_3 (z_ki (fun r1 s2 hw => ?_))
  refine z_istore C [(5, .int r1), (0, .ref ((zXE X).1 54 0)), (1, .int a1), (2, .int a2), (3, .long a3)] dX9_write_6 (by decide) rfl ?_
  refine z_iload C dX9_write_8 0 rfl ?_
  refine z_if_ne C (tgt := 34) dX9_write_10 (by decide) (fun h => ?_) (fun h => ?_)
  · replace hw := hw.1 h
    refine z_aload_n C dX9_write_34 rfl 1 rfl ?_
    refine z_iload C dX9_write_35 0 rfl ?_
    refine z_callV C (by decide) M_X9_is Mv_X9_is kw_m_X9_120 ob_X9 (t_X9_is hw) rfl rfl (Nat.le_of_ble_eq_true rfl) dX9_write_37 (z_kb (fun r3 s4 hr3 hw => ?_))
    exact z_zreturn C D dX9_write_40 hr3 ⟨_, rfl, hr3, hw⟩
  · replace hw := hw.2 h
    refine z_aload_n C dX9_write_13 rfl 1 rfl ?_
    refine f_X9_20 C dX9_write_14 ?_
    refine z_bipush C 60 dX9_write_17 (by decide) ?_
    refine z_iload_n C dX9_write_19 rfl 2 rfl ?_
    refine z_imul C dX9_write_20 ?_
    refine z_iload_n C dX9_write_21 rfl 3 rfl ?_
    refine z_iadd C dX9_write_22 ?_
    refine z_lload_n C dX9_write_23 rfl 4 rfl ?_
    refine z_aload_n C dX9_write_24 rfl 1 rfl ?_
    refine f_X9_13 C dX9_write_25 ?_
    refine z_iload_n C dX9_write_28 rfl 2 rfl ?_
    refine z_iald C za_55 (by decide) (Int32.toNatClampNeg a1) rfl hw.1 dX9_write_29 ?_
    replace hw := hw.2
    refine z_callS C (by decide) M_X9_cut Ms_X9_cut kw_m_X9_127 (t_X9_cut hw) rfl rfl (Nat.le_of_ble_eq_true rfl) dX9_write_30 (z_kl (fun r5 s6 hw => ?_))
    refine z_last C za_57 (by decide) (Int32.toNatClampNeg (((60 : Int32) * a1) + a2)) rfl hw.1 dX9_write_33 (z_nms (fun s7 es7 => ?_))
    replace hw := hw.2
    replace hw := hw s7 es7
    refine z_aload_n C dX9_write_34 rfl 1 rfl ?_
    refine z_iload C dX9_write_35 0 rfl ?_
    refine z_callV C (by decide) M_X9_is Mv_X9_is kw_m_X9_120 ob_X9 (t_X9_is hw) rfl rfl (Nat.le_of_ble_eq_true rfl) dX9_write_37 (z_kb (fun r8 s9 hr8 hw => ?_))
    exact z_zreturn C D dX9_write_40 hr8 ⟨_, rfl, hr8, hw⟩
set_option maxHeartbeats 4000000 in
set_option maxRecDepth 100000 in
theorem t_X8_read {l : Launch} {E : zE} {a1 : Int32} {a2 : Int32} {s0 : zS} {Q : Int64 → zS → Prop}  (hw : Wp_X8_read a1 a2 s0 Q) : zT l 4 E yX8_read cX8_read 3 (some .long) [.ref (E.1 0 0), .int a1, .int a2] s0 (zQl Q) := by
  unfold Wp_X8_read at hw
  refine z_entry rfl (Nat.le_of_ble_eq_true rfl) rfl ?_
  intro X C D hl hE
  subst hl; subst hE
  have C : zC X cX8_read RX8 3 4 := C
  refine z_aload_n C dX8_read_0 rfl 0 rfl ?_
  refine z_aload_n C dX8_read_1 rfl 0 rfl ?_
  refine z_iload_n C dX8_read_2 rfl 1 rfl ?_
  refine z_iload_n C dX8_read_3 rfl 2 rfl ?_
  refine z_callV C (by decide) M_X8_placeFault Mv_X8_placeFault kw_m_X8_97 ob_X8 (t_X8_placeFault hw) rfl rfl (Nat.le_of_ble_eq_true rfl) dX8_read_4 (z_ki (fun r1 s2 hw => ?_))
  refine p_X8_67 C dX8_read_7 (z_nms (fun s3 es3 => ?_))
  replace hw := hw s3 es3
  refine z_aload_n C dX8_read_10 rfl 0 rfl ?_
  refine f_X8_67 C dX8_read_11 ?_
  refine z_if_eq C (tgt := 21) dX8_read_14 (by decide) (fun h => ?_) (fun h => ?_)
  · replace hw := hw.1 h
    refine z_aload_n C dX8_read_21 rfl 0 rfl ?_
    refine f_X8_19 C dX8_read_22 ?_
    refine f_X8_107 C dX8_read_25 ?_
    refine z_iload_n C dX8_read_28 rfl 1 rfl ?_
    have hb4 := zin_lt hw.1
    refine z_aald C za_5 (by decide) rfl (Int32.toNatClampNeg a1) rfl hw.1 dX8_read_29 ?_
    replace hw := hw.2
    refine z_iload_n C dX8_read_30 rfl 2 rfl ?_
    refine z_lald C za_6 hb4 (Int32.toNatClampNeg a2) rfl hw.1 dX8_read_31 ?_
    replace hw := hw.2
    exact z_lreturn C D dX8_read_32 ⟨_, rfl, hw⟩
  · replace hw := hw.2 h
    refine z_ldc2 C (v := (-1)) kw_cl_X8_105 dX8_read_17 ?_
    exact z_lreturn C D dX8_read_20 ⟨_, rfl, hw⟩
set_option maxHeartbeats 4000000 in
set_option maxRecDepth 100000 in
theorem t_X9_read {l : Launch} {E : zE} {a1 : Int32} {a2 : Int32} {s0 : zS} {Q : Int64 → zS → Prop}  (hw : Wp_X9_read a1 a2 s0 Q) : zT l 3 E yX9_read cX9_read 3 (some .long) [.ref (E.1 54 0), .int a1, .int a2] s0 (zQl Q) := by
  unfold Wp_X9_read at hw
  refine z_entry rfl (Nat.le_of_ble_eq_true rfl) rfl ?_
  intro X C D hl hE
  subst hl; subst hE
  have C : zC X cX9_read RX9 3 3 := C
  refine z_aload_n C dX9_read_0 rfl 0 rfl ?_
  refine z_aload_n C dX9_read_1 rfl 0 rfl ?_
  refine z_iload_n C dX9_read_2 rfl 1 rfl ?_
  refine z_iload_n C dX9_read_3 rfl 2 rfl ?_
  refine z_callV C (by decide) M_X9_wrong Mv_X9_wrong kw_m_X9_123 ob_X9 (t_X9_wrong hw) rfl rfl (Nat.le_of_ble_eq_true rfl) dX9_read_4 (z_ki (fun r1 s2 hw => ?_))
  refine p_X9_109 C dX9_read_7 (z_nms (fun s3 es3 => ?_))
  replace hw := hw s3 es3
  refine z_aload_n C dX9_read_10 rfl 0 rfl ?_
  refine f_X9_109 C dX9_read_11 ?_
  refine z_if_le C (tgt := 23) dX9_read_14 (by decide) (fun h => ?_) (fun h => ?_)
  · replace hw := hw.1 h
    refine z_aload_n C dX9_read_23 rfl 0 rfl ?_
    refine f_X9_20 C dX9_read_24 ?_
    refine z_bipush C 60 dX9_read_27 (by decide) ?_
    refine z_iload_n C dX9_read_29 rfl 1 rfl ?_
    refine z_imul C dX9_read_30 ?_
    refine z_iload_n C dX9_read_31 rfl 2 rfl ?_
    refine z_iadd C dX9_read_32 ?_
    refine z_lald C za_57 (by decide) (Int32.toNatClampNeg (((60 : Int32) * a1) + a2)) rfl hw.1 dX9_read_33 ?_
    replace hw := hw.2
    exact z_lreturn C D dX9_read_34 ⟨_, rfl, hw⟩
  · replace hw := hw.2 h
    refine z_ldc2 C (v := (-1)) kw_cl_X9_131 dX9_read_17 ?_
    refine z_goto C (tgt := 34) dX9_read_20 (by decide) ?_
    exact z_lreturn C D dX9_read_34 ⟨_, rfl, hw⟩
set_option maxHeartbeats 4000000 in
set_option maxRecDepth 100000 in
theorem t_X7_holds {l : Launch} {E : zE} {a1 : Int32} {a2 : Int32} {a3 : Int32} {s0 : zS} {Q : Int32 → zS → Prop}  (hw : Wp_X7_holds a1 a2 a3 s0 Q) : zT l 1 E yX7_holds cX7_holds 4 (some .boolean) [.ref (E.1 2 0), .int a1, .int a2, .int a3] s0 (zQb Q) := by
  unfold Wp_X7_holds at hw
  refine z_entry rfl (Nat.le_of_ble_eq_true rfl) rfl ?_
  intro X C D hl hE
  subst hl; subst hE
  have C : zC X cX7_holds RX7 4 1 := C
  refine z_iload_n C dX7_holds_0 rfl 3 rfl ?_
  refine z_aload_n C dX7_holds_1 rfl 0 rfl ?_
  refine f_X7_15 C dX7_holds_2 ?_
  refine z_iload_n C dX7_holds_5 rfl 1 rfl ?_
  refine z_iald C za_4 (by decide) (Int32.toNatClampNeg a1) rfl hw.1 dX7_holds_6 ?_
  replace hw := hw.2
  refine z_icmp_gt C (tgt := 26) dX7_holds_7 (by decide) (fun h => ?_) (fun h => ?_)
  · replace hw := hw.1 h
    refine z_iconst C 0 dX7_holds_26 (by decide) ?_
    exact z_zreturn C D dX7_holds_27 (Or.inl rfl) ⟨_, rfl, (Or.inl rfl), hw⟩
  · replace hw := hw.2 h
    refine z_iload_n C dX7_holds_10 rfl 2 rfl ?_
    refine z_aload_n C dX7_holds_11 rfl 0 rfl ?_
    refine f_X7_15 C dX7_holds_12 ?_
    refine z_iload_n C dX7_holds_15 rfl 1 rfl ?_
    refine z_iald C za_4 (by decide) (Int32.toNatClampNeg a1) rfl hw.1 dX7_holds_16 ?_
    replace hw := hw.2
    refine z_iload_n C dX7_holds_17 rfl 3 rfl ?_
    refine z_isub C dX7_holds_18 ?_
    refine z_icmp_gt C (tgt := 26) dX7_holds_19 (by decide) (fun h => ?_) (fun h => ?_)
    · replace hw := hw.1 h
      refine z_iconst C 0 dX7_holds_26 (by decide) ?_
      exact z_zreturn C D dX7_holds_27 (Or.inl rfl) ⟨_, rfl, (Or.inl rfl), hw⟩
    · replace hw := hw.2 h
      refine z_iconst C 1 dX7_holds_22 (by decide) ?_
      refine z_goto C (tgt := 27) dX7_holds_23 (by decide) ?_
      exact z_zreturn C D dX7_holds_27 (Or.inr rfl) ⟨_, rfl, (Or.inr rfl), hw⟩
set_option maxHeartbeats 4000000 in
set_option maxRecDepth 100000 in
theorem t_X8_pourFault {l : Launch} {E : zE} {a1 : Int32} {a2 : Int32} {a3 : Int32} {a4 : Int32} {a5 : Int32} {s0 : zS} {Q : Int32 → zS → Prop}  (hw : Wp_X8_pourFault a1 a2 a3 a4 a5 s0 Q) : zT l 3 E yX8_pourFault cX8_pourFault 6 (some .int) [.ref (E.1 0 0), .int a1, .int a2, .int a3, .int a4, .int a5] s0 (zQi Q) := by
  unfold Wp_X8_pourFault at hw
  refine z_entry rfl (Nat.le_of_ble_eq_true rfl) rfl ?_
  intro X C D hl hE
  subst hl; subst hE
  have C : zC X cX8_pourFault RX8 6 3 := C
  refine z_iload_n C dX8_pourFault_0 rfl 1 rfl ?_
  refine z_callS C (by decide) M_X8_isTray Ms_X8_isTray kw_m_X8_81 (t_X8_isTray hw) rfl rfl (Nat.le_of_ble_eq_true rfl) dX8_pourFault_1 (z_kb (fun r1 s2 hr1 hw => ?_))
  refine z_if_eq C (tgt := 28) dX8_pourFault_4 (by decide) (fun h => ?_) (fun h => ?_)
  · replace hw := hw.1 h
    refine z_iconst C 1 dX8_pourFault_28 (by decide) ?_
    exact z_ireturn C D dX8_pourFault_29 ⟨_, rfl, hw⟩
  · replace hw := hw.2 h
    refine z_iload_n C dX8_pourFault_7 rfl 3 rfl ?_
    refine z_callS C (by decide) M_X8_isTray Ms_X8_isTray kw_m_X8_81 (t_X8_isTray hw) rfl rfl (Nat.le_of_ble_eq_true rfl) dX8_pourFault_8 (z_kb (fun r3 s4 hr3 hw => ?_))
    refine z_if_eq C (tgt := 28) dX8_pourFault_11 (by decide) (fun h => ?_) (fun h => ?_)
    · replace hw := hw.1 h
      refine z_iconst C 1 dX8_pourFault_28 (by decide) ?_
      exact z_ireturn C D dX8_pourFault_29 ⟨_, rfl, hw⟩
    · replace hw := hw.2 h
      refine z_iload_n C dX8_pourFault_14 rfl 2 rfl ?_
      refine z_if_lt C (tgt := 28) dX8_pourFault_15 (by decide) (fun h => ?_) (fun h => ?_)
      · replace hw := hw.1 h
        refine z_iconst C 1 dX8_pourFault_28 (by decide) ?_
        exact z_ireturn C D dX8_pourFault_29 ⟨_, rfl, hw⟩
      · replace hw := hw.2 h
        refine z_iload C dX8_pourFault_18 4 rfl ?_
        refine z_if_lt C (tgt := 28) dX8_pourFault_20 (by decide) (fun h => ?_) (fun h => ?_)
        · replace hw := hw.1 h
          refine z_iconst C 1 dX8_pourFault_28 (by decide) ?_
          exact z_ireturn C D dX8_pourFault_29 ⟨_, rfl, hw⟩
        · replace hw := hw.2 h
          refine z_iload C dX8_pourFault_23 5 rfl ?_
          refine z_if_ge C (tgt := 30) dX8_pourFault_25 (by decide) (fun h => ?_) (fun h => ?_)
          · replace hw := hw.1 h
            refine z_aload_n C dX8_pourFault_30 rfl 0 rfl ?_
            refine f_X8_19 C dX8_pourFault_31 ?_
            refine z_iload_n C dX8_pourFault_34 rfl 1 rfl ?_
            refine z_callV C (by decide) M_X7_isMissing Mv_X7_isMissing kw_m_X8_299 ob_X7 (t_X7_isMissing hw) rfl rfl (Nat.le_of_ble_eq_true rfl) dX8_pourFault_35 (z_kb (fun r5 s6 hr5 hw => ?_))
            refine z_if_ne C (tgt := 52) dX8_pourFault_38 (by decide) (fun h => ?_) (fun h => ?_)
            · replace hw := hw.1 h
              refine z_iconst C 3 dX8_pourFault_52 (by decide) ?_
              exact z_ireturn C D dX8_pourFault_53 ⟨_, rfl, hw⟩
            · replace hw := hw.2 h
              refine z_aload_n C dX8_pourFault_41 rfl 0 rfl ?_
              refine f_X8_19 C dX8_pourFault_42 ?_
              refine z_iload_n C dX8_pourFault_45 rfl 3 rfl ?_
              refine z_callV C (by decide) M_X7_isMissing Mv_X7_isMissing kw_m_X8_299 ob_X7 (t_X7_isMissing hw) rfl rfl (Nat.le_of_ble_eq_true rfl) dX8_pourFault_46 (z_kb (fun r7 s8 hr7 hw => ?_))
              refine z_if_eq C (tgt := 54) dX8_pourFault_49 (by decide) (fun h => ?_) (fun h => ?_)
              · replace hw := hw.1 h
                refine z_aload_n C dX8_pourFault_54 rfl 0 rfl ?_
                refine f_X8_19 C dX8_pourFault_55 ?_
                refine f_X8_305 C dX8_pourFault_58 ?_
                refine z_iload_n C dX8_pourFault_61 rfl 1 rfl ?_
                refine z_iald C za_3 (by decide) (Int32.toNatClampNeg a1) rfl hw.1 dX8_pourFault_62 ?_
                replace hw := hw.2
                refine z_aload_n C dX8_pourFault_63 rfl 0 rfl ?_
                refine f_X8_19 C dX8_pourFault_64 ?_
                refine f_X8_305 C dX8_pourFault_67 ?_
                refine z_iload_n C dX8_pourFault_70 rfl 3 rfl ?_
                refine z_iald C za_3 (by decide) (Int32.toNatClampNeg a3) rfl hw.1 dX8_pourFault_71 ?_
                replace hw := hw.2
                refine z_icmp_eq C (tgt := 78) dX8_pourFault_72 (by decide) (fun h => ?_) (fun h => ?_)
                · replace hw := hw.1 h
                  refine z_aload_n C dX8_pourFault_78 rfl 0 rfl ?_
                  refine f_X8_19 C dX8_pourFault_79 ?_
                  refine z_iload_n C dX8_pourFault_82 rfl 1 rfl ?_
                  refine z_iload_n C dX8_pourFault_83 rfl 2 rfl ?_
                  refine z_iload C dX8_pourFault_84 5 rfl ?_
                  refine z_callV C (by decide) M_X7_holds Mv_X7_holds kw_m_X8_308 ob_X7 (t_X7_holds hw) rfl rfl (Nat.le_of_ble_eq_true rfl) dX8_pourFault_86 (z_kb (fun r9 s10 hr9 hw => ?_))
                  refine z_if_eq C (tgt := 111) dX8_pourFault_89 (by decide) (fun h => ?_) (fun h => ?_)
                  · replace hw := hw.1 h
                    refine z_iconst C 4 dX8_pourFault_111 (by decide) ?_
                    exact z_ireturn C D dX8_pourFault_112 ⟨_, rfl, hw⟩
                  · replace hw := hw.2 h
                    refine z_aload_n C dX8_pourFault_92 rfl 0 rfl ?_
                    refine f_X8_19 C dX8_pourFault_93 ?_
                    refine z_iload_n C dX8_pourFault_96 rfl 3 rfl ?_
                    refine z_iload C dX8_pourFault_97 4 rfl ?_
                    refine z_iload C dX8_pourFault_99 5 rfl ?_
                    refine z_callV C (by decide) M_X7_holds Mv_X7_holds kw_m_X8_308 ob_X7 (t_X7_holds hw) rfl rfl (Nat.le_of_ble_eq_true rfl) dX8_pourFault_101 (z_kb (fun r11 s12 hr11 hw => ?_))
                    refine z_if_eq C (tgt := 111) dX8_pourFault_104 (by decide) (fun h => ?_) (fun h => ?_)
                    · replace hw := hw.1 h
                      refine z_iconst C 4 dX8_pourFault_111 (by decide) ?_
                      exact z_ireturn C D dX8_pourFault_112 ⟨_, rfl, hw⟩
                    · replace hw := hw.2 h
                      refine z_iconst C 0 dX8_pourFault_107 (by decide) ?_
                      refine z_goto C (tgt := 112) dX8_pourFault_108 (by decide) ?_
                      exact z_ireturn C D dX8_pourFault_112 ⟨_, rfl, hw⟩
                · replace hw := hw.2 h
                  refine z_bipush C 8 dX8_pourFault_75 (by decide) ?_
                  exact z_ireturn C D dX8_pourFault_77 ⟨_, rfl, hw⟩
              · replace hw := hw.2 h
                refine z_iconst C 3 dX8_pourFault_52 (by decide) ?_
                exact z_ireturn C D dX8_pourFault_53 ⟨_, rfl, hw⟩
          · replace hw := hw.2 h
            refine z_iconst C 1 dX8_pourFault_28 (by decide) ?_
            exact z_ireturn C D dX8_pourFault_29 ⟨_, rfl, hw⟩
set_option maxHeartbeats 4000000 in
set_option maxRecDepth 100000 in
theorem t_X8_pour {l : Launch} {E : zE} {a1 : Int32} {a2 : Int32} {a3 : Int32} {a4 : Int32} {a5 : Int32} {s0 : zS} {Q : Int32 → zS → Prop}  (hw : Wp_X8_pour a1 a2 a3 a4 a5 s0 Q) : zT l 4 E yX8_pour cX8_pour 6 (some .boolean) [.ref (E.1 0 0), .int a1, .int a2, .int a3, .int a4, .int a5] s0 (zQb Q) := by
  unfold Wp_X8_pour at hw
  refine z_entry rfl (Nat.le_of_ble_eq_true rfl) rfl ?_
  intro X C D hl hE
  subst hl; subst hE
  have C : zC X cX8_pour RX8 6 4 := C
  refine z_aload_n C dX8_pour_0 rfl 0 rfl ?_
  refine z_aload_n C dX8_pour_1 rfl 0 rfl ?_
  refine z_iload_n C dX8_pour_2 rfl 1 rfl ?_
  refine z_iload_n C dX8_pour_3 rfl 2 rfl ?_
  refine z_iload_n C dX8_pour_4 rfl 3 rfl ?_
  refine z_iload C dX8_pour_5 4 rfl ?_
  refine z_iload C dX8_pour_7 5 rfl ?_
  refine z_callV C (by decide) M_X8_pourFault Mv_X8_pourFault kw_m_X8_111 ob_X8 (t_X8_pourFault hw) rfl rfl (Nat.le_of_ble_eq_true rfl) dX8_pour_9 (z_ki (fun r1 s2 hw => ?_))
  refine p_X8_67 C dX8_pour_12 (z_nms (fun s3 es3 => ?_))
  replace hw := hw s3 es3
  refine z_aload_n C dX8_pour_15 rfl 0 rfl ?_
  refine f_X8_67 C dX8_pour_16 ?_
  refine z_if_eq C (tgt := 24) dX8_pour_19 (by decide) (fun h => ?_) (fun h => ?_)
  · replace hw := hw.1 h
    refine z_aload_n C dX8_pour_24 rfl 0 rfl ?_
    refine f_X8_19 C dX8_pour_25 ?_
    refine f_X8_107 C dX8_pour_28 ?_
    refine z_iload_n C dX8_pour_31 rfl 1 rfl ?_
    have hb4 := zin_lt hw.1
    refine z_aald C za_5 (by decide) rfl (Int32.toNatClampNeg a1) rfl hw.1 dX8_pour_32 ?_
    replace hw := hw.2
    refine z_iload_n C dX8_pour_33 rfl 2 rfl ?_
    refine z_aload_n C dX8_pour_34 rfl 0 rfl ?_
    refine f_X8_19 C dX8_pour_35 ?_
    refine f_X8_107 C dX8_pour_38 ?_
    refine z_iload_n C dX8_pour_41 rfl 3 rfl ?_
    have hb5 := zin_lt hw.1
    refine z_aald C za_5 (by decide) rfl (Int32.toNatClampNeg a3) rfl hw.1 dX8_pour_42 ?_
    replace hw := hw.2
    refine z_iload C dX8_pour_43 4 rfl ?_
    refine z_iload C dX8_pour_45 5 rfl ?_
    refine z_copyl C (by decide) za_6 hb4 za_6 hb5 kw_m_X8_115 (Nat.le_of_ble_eq_true rfl) hw.1 dX8_pour_47 (z_nms (fun s6 es6 => ?_))
    replace hw := hw.2 s6 es6
    refine z_iconst C 1 dX8_pour_50 (by decide) ?_
    exact z_zreturn C D dX8_pour_51 (Or.inr rfl) ⟨_, rfl, (Or.inr rfl), hw⟩
  · replace hw := hw.2 h
    refine z_iconst C 0 dX8_pour_22 (by decide) ?_
    exact z_zreturn C D dX8_pour_23 (Or.inl rfl) ⟨_, rfl, (Or.inl rfl), hw⟩
set_option maxHeartbeats 4000000 in
set_option maxRecDepth 100000 in
theorem t_X9_pour {l : Launch} {E : zE} {a1 : Int32} {a2 : Int32} {a3 : Int32} {a4 : Int32} {a5 : Int32} {s0 : zS} {Q : Int32 → zS → Prop}  (hw : Wp_X9_pour a1 a2 a3 a4 a5 s0 Q) : zT l 2 E yX9_pour cX9_pour 8 (some .boolean) [.ref (E.1 54 0), .int a1, .int a2, .int a3, .int a4, .int a5] s0 (zQb Q) := by
  unfold Wp_X9_pour at hw
  refine z_entry rfl (Nat.le_of_ble_eq_true rfl) rfl ?_
  intro X C D hl hE
  subst hl; subst hE
  have C : zC X cX9_pour RX9 8 2 := C
  refine z_use (hw (fun v6 s0 => zV X 118 [(0, .ref ((zXE X).1 54 0)), (1, .int a1), (2, .int a2), (3, .int a3), (4, .int a4), (5, .int a5), (6, .int v6)] [] s0) (fun v6 s0 hw => ?_)) (fun hw => ?_)
  · show zV X 118 _ _ _
    refine z_iload C dX9_pour_118 6 rfl ?_
    refine z_iload C dX9_pour_120 5 rfl ?_
    refine z_icmp_ge C (tgt := 180) dX9_pour_122 (by decide) (fun h => ?_) (fun h => ?_)
    · replace hw := hw.1 h
      refine z_aload_n C dX9_pour_180 rfl 0 rfl ?_
      refine z_iconst C 0 dX9_pour_181 (by decide) ?_
      refine z_callV C (by decide) M_X9_is Mv_X9_is kw_m_X9_120 ob_X9 (t_X9_is hw) rfl rfl (Nat.le_of_ble_eq_true rfl) dX9_pour_182 (z_kb (fun r25 s26 hr25 hw => ?_))
      exact z_zreturn C D dX9_pour_185 hr25 ⟨_, rfl, hr25, hw⟩
    · replace hw := hw.2 h
      refine z_iload_n C dX9_pour_125 rfl 2 rfl ?_
      refine z_iload C dX9_pour_126 4 rfl ?_
      refine z_icmp_ge C (tgt := 141) dX9_pour_128 (by decide) (fun h => ?_) (fun h => ?_)
      · replace hw := hw.1 h
        refine z_iload C dX9_pour_141 6 rfl ?_
        refine z_istore C [(7, .int v6), (0, .ref ((zXE X).1 54 0)), (1, .int a1), (2, .int a2), (3, .int a3), (4, .int a4), (5, .int a5), (6, .int v6)] dX9_pour_143 (by decide) rfl ?_
        refine z_aload_n C dX9_pour_145 rfl 1 rfl ?_
        refine f_X9_20 C dX9_pour_146 ?_
        refine z_bipush C 60 dX9_pour_149 (by decide) ?_
        refine z_iload_n C dX9_pour_151 rfl 4 rfl ?_
        refine z_imul C dX9_pour_152 ?_
        refine z_iload C dX9_pour_153 5 rfl ?_
        refine z_iadd C dX9_pour_155 ?_
        refine z_iload C dX9_pour_156 0 rfl ?_
        refine z_iadd C dX9_pour_158 ?_
        refine z_aload_n C dX9_pour_159 rfl 1 rfl ?_
        refine f_X9_20 C dX9_pour_160 ?_
        refine z_bipush C 60 dX9_pour_163 (by decide) ?_
        refine z_iload_n C dX9_pour_165 rfl 2 rfl ?_
        refine z_imul C dX9_pour_166 ?_
        refine z_iload_n C dX9_pour_167 rfl 3 rfl ?_
        refine z_iadd C dX9_pour_168 ?_
        refine z_iload C dX9_pour_169 0 rfl ?_
        refine z_iadd C dX9_pour_171 ?_
        refine z_lald C za_57 (by decide) (Int32.toNatClampNeg ((((60 : Int32) * a1) + a2) + v6)) rfl hw.1 dX9_pour_172 ?_
        replace hw := hw.2
        refine z_last C za_57 (by decide) (Int32.toNatClampNeg ((((60 : Int32) * a3) + a4) + v6)) rfl hw.1 dX9_pour_173 (z_nms (fun s27 es27 => ?_))
        replace hw := hw.2
        replace hw := hw s27 es27
        refine z_iinc C (v6 + 1) [(6, .int (v6 + 1)), (7, .int v6), (0, .ref ((zXE X).1 54 0)), (1, .int a1), (2, .int a2), (3, .int a3), (4, .int a4), (5, .int a5)] dX9_pour_174 7 rfl rfl (by decide) rfl ?_
        refine z_goto C (tgt := 118) dX9_pour_177 (by decide) ?_
        exact z_lv [2, 3, 4, 5, 6, 7, 0] rfl hw
      · replace hw := hw.2 h
        refine z_iload C dX9_pour_131 5 rfl ?_
        refine z_iconst C 1 dX9_pour_133 (by decide) ?_
        refine z_isub C dX9_pour_134 ?_
        refine z_iload C dX9_pour_135 6 rfl ?_
        refine z_isub C dX9_pour_137 ?_
        refine z_goto C (tgt := 143) dX9_pour_138 (by decide) ?_
        refine z_nmi (fun x28 ex28 => ?_)
        replace hw := hw x28 ex28
        refine z_istore C [(7, .int x28), (0, .ref ((zXE X).1 54 0)), (1, .int a1), (2, .int a2), (3, .int a3), (4, .int a4), (5, .int a5), (6, .int v6)] dX9_pour_143 (by decide) rfl ?_
        refine z_aload_n C dX9_pour_145 rfl 1 rfl ?_
        refine f_X9_20 C dX9_pour_146 ?_
        refine z_bipush C 60 dX9_pour_149 (by decide) ?_
        refine z_iload_n C dX9_pour_151 rfl 4 rfl ?_
        refine z_imul C dX9_pour_152 ?_
        refine z_iload C dX9_pour_153 5 rfl ?_
        refine z_iadd C dX9_pour_155 ?_
        refine z_iload C dX9_pour_156 0 rfl ?_
        refine z_iadd C dX9_pour_158 ?_
        refine z_aload_n C dX9_pour_159 rfl 1 rfl ?_
        refine f_X9_20 C dX9_pour_160 ?_
        refine z_bipush C 60 dX9_pour_163 (by decide) ?_
        refine z_iload_n C dX9_pour_165 rfl 2 rfl ?_
        refine z_imul C dX9_pour_166 ?_
        refine z_iload_n C dX9_pour_167 rfl 3 rfl ?_
        refine z_iadd C dX9_pour_168 ?_
        refine z_iload C dX9_pour_169 0 rfl ?_
        refine z_iadd C dX9_pour_171 ?_
        refine z_lald C za_57 (by decide) (Int32.toNatClampNeg ((((60 : Int32) * a1) + a2) + x28)) rfl hw.1 dX9_pour_172 ?_
        replace hw := hw.2
        refine z_last C za_57 (by decide) (Int32.toNatClampNeg ((((60 : Int32) * a3) + a4) + x28)) rfl hw.1 dX9_pour_173 (z_nms (fun s29 es29 => ?_))
        replace hw := hw.2
        replace hw := hw s29 es29
        refine z_iinc C (v6 + 1) [(6, .int (v6 + 1)), (7, .int x28), (0, .ref ((zXE X).1 54 0)), (1, .int a1), (2, .int a2), (3, .int a3), (4, .int a4), (5, .int a5)] dX9_pour_174 7 rfl rfl (by decide) rfl ?_
        refine z_goto C (tgt := 118) dX9_pour_177 (by decide) ?_
        exact z_lv [2, 3, 4, 5, 6, 7, 0] rfl hw
  refine z_iload_n C dX9_pour_0 rfl 1 rfl ?_
  refine z_callS C (by decide) M_X9_isTray Ms_X9_isTray kw_m_X9_116 (t_X9_isTray hw) rfl rfl (Nat.le_of_ble_eq_true rfl) dX9_pour_1 (z_kb (fun r1 s2 hr1 hw => ?_))
  refine z_if_eq C (tgt := 28) dX9_pour_4 (by decide) (fun h => ?_) (fun h => ?_)
  · replace hw := hw.1 h
    refine z_aload_n C dX9_pour_28 rfl 0 rfl ?_
    refine z_iconst C 1 dX9_pour_29 (by decide) ?_
    refine z_callV C (by decide) M_X9_is Mv_X9_is kw_m_X9_120 ob_X9 (t_X9_is hw) rfl rfl (Nat.le_of_ble_eq_true rfl) dX9_pour_30 (z_kb (fun r3 s4 hr3 hw => ?_))
    exact z_zreturn C D dX9_pour_33 hr3 ⟨_, rfl, hr3, hw⟩
  · replace hw := hw.2 h
    refine z_iload_n C dX9_pour_7 rfl 3 rfl ?_
    refine z_callS C (by decide) M_X9_isTray Ms_X9_isTray kw_m_X9_116 (t_X9_isTray hw) rfl rfl (Nat.le_of_ble_eq_true rfl) dX9_pour_8 (z_kb (fun r5 s6 hr5 hw => ?_))
    refine z_if_eq C (tgt := 28) dX9_pour_11 (by decide) (fun h => ?_) (fun h => ?_)
    · replace hw := hw.1 h
      refine z_aload_n C dX9_pour_28 rfl 0 rfl ?_
      refine z_iconst C 1 dX9_pour_29 (by decide) ?_
      refine z_callV C (by decide) M_X9_is Mv_X9_is kw_m_X9_120 ob_X9 (t_X9_is hw) rfl rfl (Nat.le_of_ble_eq_true rfl) dX9_pour_30 (z_kb (fun r7 s8 hr7 hw => ?_))
      exact z_zreturn C D dX9_pour_33 hr7 ⟨_, rfl, hr7, hw⟩
    · replace hw := hw.2 h
      refine z_iload_n C dX9_pour_14 rfl 2 rfl ?_
      refine z_if_lt C (tgt := 28) dX9_pour_15 (by decide) (fun h => ?_) (fun h => ?_)
      · replace hw := hw.1 h
        refine z_aload_n C dX9_pour_28 rfl 0 rfl ?_
        refine z_iconst C 1 dX9_pour_29 (by decide) ?_
        refine z_callV C (by decide) M_X9_is Mv_X9_is kw_m_X9_120 ob_X9 (t_X9_is hw) rfl rfl (Nat.le_of_ble_eq_true rfl) dX9_pour_30 (z_kb (fun r9 s10 hr9 hw => ?_))
        exact z_zreturn C D dX9_pour_33 hr9 ⟨_, rfl, hr9, hw⟩
      · replace hw := hw.2 h
        refine z_iload C dX9_pour_18 4 rfl ?_
        refine z_if_lt C (tgt := 28) dX9_pour_20 (by decide) (fun h => ?_) (fun h => ?_)
        · replace hw := hw.1 h
          refine z_aload_n C dX9_pour_28 rfl 0 rfl ?_
          refine z_iconst C 1 dX9_pour_29 (by decide) ?_
          refine z_callV C (by decide) M_X9_is Mv_X9_is kw_m_X9_120 ob_X9 (t_X9_is hw) rfl rfl (Nat.le_of_ble_eq_true rfl) dX9_pour_30 (z_kb (fun r11 s12 hr11 hw => ?_))
          exact z_zreturn C D dX9_pour_33 hr11 ⟨_, rfl, hr11, hw⟩
        · replace hw := hw.2 h
          refine z_iload C dX9_pour_23 5 rfl ?_
          refine z_if_ge C (tgt := 34) dX9_pour_25 (by decide) (fun h => ?_) (fun h => ?_)
          · replace hw := hw.1 h
            refine z_aload_n C dX9_pour_34 rfl 0 rfl ?_
            refine f_X9_17 C dX9_pour_35 ?_
            refine z_iload_n C dX9_pour_38 rfl 1 rfl ?_
            refine z_iald C za_56 (by decide) (Int32.toNatClampNeg a1) rfl hw.1 dX9_pour_39 ?_
            replace hw := hw.2
            refine z_iconst C (-1) dX9_pour_40 (by decide) ?_
            refine z_icmp_eq C (tgt := 54) dX9_pour_41 (by decide) (fun h => ?_) (fun h => ?_)
            · replace hw := hw.1 h
              refine z_aload_n C dX9_pour_54 rfl 0 rfl ?_
              refine z_iconst C 3 dX9_pour_55 (by decide) ?_
              refine z_callV C (by decide) M_X9_is Mv_X9_is kw_m_X9_120 ob_X9 (t_X9_is hw) rfl rfl (Nat.le_of_ble_eq_true rfl) dX9_pour_56 (z_kb (fun r13 s14 hr13 hw => ?_))
              exact z_zreturn C D dX9_pour_59 hr13 ⟨_, rfl, hr13, hw⟩
            · replace hw := hw.2 h
              refine z_aload_n C dX9_pour_44 rfl 0 rfl ?_
              refine f_X9_17 C dX9_pour_45 ?_
              refine z_iload_n C dX9_pour_48 rfl 3 rfl ?_
              refine z_iald C za_56 (by decide) (Int32.toNatClampNeg a3) rfl hw.1 dX9_pour_49 ?_
              replace hw := hw.2
              refine z_iconst C (-1) dX9_pour_50 (by decide) ?_
              refine z_icmp_ne C (tgt := 60) dX9_pour_51 (by decide) (fun h => ?_) (fun h => ?_)
              · replace hw := hw.1 h
                refine z_aload_n C dX9_pour_60 rfl 0 rfl ?_
                refine f_X9_13 C dX9_pour_61 ?_
                refine z_iload_n C dX9_pour_64 rfl 1 rfl ?_
                refine z_iald C za_55 (by decide) (Int32.toNatClampNeg a1) rfl hw.1 dX9_pour_65 ?_
                replace hw := hw.2
                refine z_aload_n C dX9_pour_66 rfl 0 rfl ?_
                refine f_X9_13 C dX9_pour_67 ?_
                refine z_iload_n C dX9_pour_70 rfl 3 rfl ?_
                refine z_iald C za_55 (by decide) (Int32.toNatClampNeg a3) rfl hw.1 dX9_pour_71 ?_
                replace hw := hw.2
                refine z_icmp_eq C (tgt := 82) dX9_pour_72 (by decide) (fun h => ?_) (fun h => ?_)
                · replace hw := hw.1 h
                  refine z_iload C dX9_pour_82 5 rfl ?_
                  refine z_aload_n C dX9_pour_84 rfl 0 rfl ?_
                  refine f_X9_17 C dX9_pour_85 ?_
                  refine z_iload_n C dX9_pour_88 rfl 1 rfl ?_
                  refine z_iald C za_56 (by decide) (Int32.toNatClampNeg a1) rfl hw.1 dX9_pour_89 ?_
                  replace hw := hw.2
                  refine z_iload_n C dX9_pour_90 rfl 2 rfl ?_
                  refine z_isub C dX9_pour_91 ?_
                  refine z_icmp_gt C (tgt := 109) dX9_pour_92 (by decide) (fun h => ?_) (fun h => ?_)
                  · replace hw := hw.1 h
                    refine z_aload_n C dX9_pour_109 rfl 0 rfl ?_
                    refine z_iconst C 4 dX9_pour_110 (by decide) ?_
                    refine z_callV C (by decide) M_X9_is Mv_X9_is kw_m_X9_120 ob_X9 (t_X9_is hw) rfl rfl (Nat.le_of_ble_eq_true rfl) dX9_pour_111 (z_kb (fun r15 s16 hr15 hw => ?_))
                    exact z_zreturn C D dX9_pour_114 hr15 ⟨_, rfl, hr15, hw⟩
                  · replace hw := hw.2 h
                    refine z_iload C dX9_pour_95 5 rfl ?_
                    refine z_aload_n C dX9_pour_97 rfl 0 rfl ?_
                    refine f_X9_17 C dX9_pour_98 ?_
                    refine z_iload_n C dX9_pour_101 rfl 3 rfl ?_
                    refine z_iald C za_56 (by decide) (Int32.toNatClampNeg a3) rfl hw.1 dX9_pour_102 ?_
                    replace hw := hw.2
                    refine z_iload C dX9_pour_103 4 rfl ?_
                    refine z_isub C dX9_pour_105 ?_
                    refine z_icmp_le C (tgt := 115) dX9_pour_106 (by decide) (fun h => ?_) (fun h => ?_)
                    · replace hw := hw.1 h
                      refine z_iconst C 0 dX9_pour_115 (by decide) ?_
                      refine z_istore C [(6, .int (0 : Int32)), (0, .ref ((zXE X).1 54 0)), (1, .int a1), (2, .int a2), (3, .int a3), (4, .int a4), (5, .int a5)] dX9_pour_116 (by decide) rfl ?_
                      exact z_lv [1, 2, 3, 4, 5, 6, 0] rfl hw
                    · replace hw := hw.2 h
                      refine z_aload_n C dX9_pour_109 rfl 0 rfl ?_
                      refine z_iconst C 4 dX9_pour_110 (by decide) ?_
                      refine z_callV C (by decide) M_X9_is Mv_X9_is kw_m_X9_120 ob_X9 (t_X9_is hw) rfl rfl (Nat.le_of_ble_eq_true rfl) dX9_pour_111 (z_kb (fun r17 s18 hr17 hw => ?_))
                      exact z_zreturn C D dX9_pour_114 hr17 ⟨_, rfl, hr17, hw⟩
                · replace hw := hw.2 h
                  refine z_aload_n C dX9_pour_75 rfl 0 rfl ?_
                  refine z_bipush C 8 dX9_pour_76 (by decide) ?_
                  refine z_callV C (by decide) M_X9_is Mv_X9_is kw_m_X9_120 ob_X9 (t_X9_is hw) rfl rfl (Nat.le_of_ble_eq_true rfl) dX9_pour_78 (z_kb (fun r19 s20 hr19 hw => ?_))
                  exact z_zreturn C D dX9_pour_81 hr19 ⟨_, rfl, hr19, hw⟩
              · replace hw := hw.2 h
                refine z_aload_n C dX9_pour_54 rfl 0 rfl ?_
                refine z_iconst C 3 dX9_pour_55 (by decide) ?_
                refine z_callV C (by decide) M_X9_is Mv_X9_is kw_m_X9_120 ob_X9 (t_X9_is hw) rfl rfl (Nat.le_of_ble_eq_true rfl) dX9_pour_56 (z_kb (fun r21 s22 hr21 hw => ?_))
                exact z_zreturn C D dX9_pour_59 hr21 ⟨_, rfl, hr21, hw⟩
          · replace hw := hw.2 h
            refine z_aload_n C dX9_pour_28 rfl 0 rfl ?_
            refine z_iconst C 1 dX9_pour_29 (by decide) ?_
            refine z_callV C (by decide) M_X9_is Mv_X9_is kw_m_X9_120 ob_X9 (t_X9_is hw) rfl rfl (Nat.le_of_ble_eq_true rfl) dX9_pour_30 (z_kb (fun r23 s24 hr23 hw => ?_))
            exact z_zreturn C D dX9_pour_33 hr23 ⟨_, rfl, hr23, hw⟩
set_option maxHeartbeats 4000000 in
set_option maxRecDepth 100000 in
theorem t_X6_add {l : Launch} {E : zE}  {s0 : zS} {Q : Int32 → zS → Prop}  (hw : Wp_X6_add  s0 Q) : zT l 1 E yX6_add cX6_add 1 (some .int) [.ref (E.1 7 0)] s0 (zQi Q) := by
  unfold Wp_X6_add at hw
  refine z_entry rfl (Nat.le_of_ble_eq_true rfl) rfl ?_
  intro X C D hl hE
  subst hl; subst hE
  have C : zC X cX6_add RX6 1 1 := C
  refine z_aload_n C dX6_add_0 rfl 0 rfl ?_
  refine z_dup C dX6_add_1 rfl ?_
  refine f_X6_9 C dX6_add_2 ?_
  refine z_iconst C 1 dX6_add_5 (by decide) ?_
  refine z_iadd C dX6_add_6 ?_
  refine p_X6_9 C dX6_add_7 (z_nms (fun s1 es1 => ?_))
  replace hw := hw s1 es1
  refine z_aload_n C dX6_add_10 rfl 0 rfl ?_
  refine f_X6_9 C dX6_add_11 ?_
  refine z_iconst C 1 dX6_add_14 (by decide) ?_
  refine z_isub C dX6_add_15 ?_
  exact z_ireturn C D dX6_add_16 ⟨_, rfl, hw⟩
set_option maxHeartbeats 4000000 in
set_option maxRecDepth 100000 in
theorem t_X8_town {l : Launch} {E : zE}  {s0 : zS} {Q : Int32 → zS → Prop}  (hw : Wp_X8_town  s0 Q) : zT l 2 E yX8_town cX8_town 1 (some .int) [.ref (E.1 0 0)] s0 (zQi Q) := by
  unfold Wp_X8_town at hw
  refine z_entry rfl (Nat.le_of_ble_eq_true rfl) rfl ?_
  intro X C D hl hE
  subst hl; subst hE
  have C : zC X cX8_town RX8 1 2 := C
  refine z_aload_n C dX8_town_0 rfl 0 rfl ?_
  refine z_aload_n C dX8_town_1 rfl 0 rfl ?_
  refine f_X8_26 C dX8_town_2 ?_
  refine f_X8_121 C dX8_town_5 ?_
  refine z_bipush C 10 dX8_town_8 (by decide) ?_
  refine z_icmp_ge C (tgt := 17) dX8_town_10 (by decide) (fun h => ?_) (fun h => ?_)
  · replace hw := hw.1 h
    refine z_iconst C 5 dX8_town_17 (by decide) ?_
    refine p_X8_67 C dX8_town_18 (z_nms (fun s1 es1 => ?_))
    replace hw := hw s1 es1
    refine z_aload_n C dX8_town_21 rfl 0 rfl ?_
    refine f_X8_67 C dX8_town_22 ?_
    refine z_if_eq C (tgt := 30) dX8_town_25 (by decide) (fun h => ?_) (fun h => ?_)
    · replace hw := hw.1 h
      refine z_aload_n C dX8_town_30 rfl 0 rfl ?_
      refine f_X8_26 C dX8_town_31 ?_
      refine z_callV C (by decide) M_X6_add Mv_X6_add kw_m_X8_124 ob_X6 (t_X6_add hw) rfl rfl (Nat.le_of_ble_eq_true rfl) dX8_town_34 (z_ki (fun r2 s3 hw => ?_))
      exact z_ireturn C D dX8_town_37 ⟨_, rfl, hw⟩
    · replace hw := hw.2 h
      refine z_iconst C (-1) dX8_town_28 (by decide) ?_
      exact z_ireturn C D dX8_town_29 ⟨_, rfl, hw⟩
  · replace hw := hw.2 h
    refine z_iconst C 0 dX8_town_13 (by decide) ?_
    refine z_goto C (tgt := 18) dX8_town_14 (by decide) ?_
    refine p_X8_67 C dX8_town_18 (z_nms (fun s4 es4 => ?_))
    replace hw := hw s4 es4
    refine z_aload_n C dX8_town_21 rfl 0 rfl ?_
    refine f_X8_67 C dX8_town_22 ?_
    refine z_if_eq C (tgt := 30) dX8_town_25 (by decide) (fun h => ?_) (fun h => ?_)
    · replace hw := hw.1 h
      refine z_aload_n C dX8_town_30 rfl 0 rfl ?_
      refine f_X8_26 C dX8_town_31 ?_
      refine z_callV C (by decide) M_X6_add Mv_X6_add kw_m_X8_124 ob_X6 (t_X6_add hw) rfl rfl (Nat.le_of_ble_eq_true rfl) dX8_town_34 (z_ki (fun r5 s6 hw => ?_))
      exact z_ireturn C D dX8_town_37 ⟨_, rfl, hw⟩
    · replace hw := hw.2 h
      refine z_iconst C (-1) dX8_town_28 (by decide) ?_
      exact z_ireturn C D dX8_town_29 ⟨_, rfl, hw⟩
set_option maxHeartbeats 4000000 in
set_option maxRecDepth 100000 in
theorem t_X9_refuse {l : Launch} {E : zE} {a1 : Int32} {s0 : zS} {Q : Int32 → zS → Prop}  (hw : Wp_X9_refuse a1 s0 Q) : zT l 1 E yX9_refuse cX9_refuse 2 (some .int) [.ref (E.1 54 0), .int a1] s0 (zQi Q) := by
  unfold Wp_X9_refuse at hw
  refine z_entry rfl (Nat.le_of_ble_eq_true rfl) rfl ?_
  intro X C D hl hE
  subst hl; subst hE
  have C : zC X cX9_refuse RX9 2 1 := C
  refine z_aload_n C dX9_refuse_0 rfl 0 rfl ?_
  refine z_iload_n C dX9_refuse_1 rfl 1 rfl ?_
  refine p_X9_109 C dX9_refuse_2 (z_nms (fun s1 es1 => ?_))
  replace hw := hw s1 es1
  refine z_iconst C (-1) dX9_refuse_5 (by decide) ?_
  exact z_ireturn C D dX9_refuse_6 ⟨_, rfl, hw⟩
set_option maxHeartbeats 4000000 in
set_option maxRecDepth 100000 in
theorem t_X9_at {l : Launch} {E : zE} {a0 : Int32} {a1 : Int32} {s0 : zS} {Q : Int32 → zS → Prop}  (hw : Wp_X9_at a0 a1 s0 Q) : zT l 1 E yX9_at cX9_at 2 (some .int) [.int a0, .int a1] s0 (zQi Q) := by
  unfold Wp_X9_at at hw
  refine z_entry rfl (Nat.le_of_ble_eq_true rfl) rfl ?_
  intro X C D hl hE
  subst hl; subst hE
  have C : zC X cX9_at RX9 2 1 := C
  refine z_bipush C 10 dX9_at_0 (by decide) ?_
  refine z_iload_n C dX9_at_2 rfl 0 rfl ?_
  refine z_imul C dX9_at_3 ?_
  refine z_iload_n C dX9_at_4 rfl 1 rfl ?_
  refine z_iadd C dX9_at_5 ?_
  exact z_ireturn C D dX9_at_6 ⟨_, rfl, hw⟩
set_option maxHeartbeats 4000000 in
set_option maxRecDepth 100000 in
theorem t_X9_town {l : Launch} {E : zE}  {s0 : zS} {Q : Int32 → zS → Prop}  (hw : Wp_X9_town  s0 Q) : zT l 2 E yX9_town cX9_town 2 (some .int) [.ref (E.1 54 0)] s0 (zQi Q) := by
  unfold Wp_X9_town at hw
  refine z_entry rfl (Nat.le_of_ble_eq_true rfl) rfl ?_
  intro X C D hl hE
  subst hl; subst hE
  have C : zC X cX9_town RX9 2 2 := C
  refine z_use (hw (fun v1 s0 => zV X 17 [(0, .ref ((zXE X).1 54 0)), (1, .int v1)] [] s0) (fun v1 s0 hw => ?_)) (fun hw => ?_)
  · show zV X 17 _ _ _
    refine z_iload_n C dX9_town_17 rfl 1 rfl ?_
    refine z_bipush C 10 dX9_town_18 (by decide) ?_
    refine z_icmp_ge C (tgt := 87) dX9_town_20 (by decide) (fun h => ?_) (fun h => ?_)
    · replace hw := hw.1 h
      refine z_aload_n C dX9_town_87 rfl 0 rfl ?_
      refine z_dup C dX9_town_88 rfl ?_
      refine f_X9_133 C dX9_town_89 ?_
      refine z_iconst C 1 dX9_town_92 (by decide) ?_
      refine z_iadd C dX9_town_93 ?_
      refine p_X9_133 C dX9_town_94 (z_nms (fun s3 es3 => ?_))
      replace hw := hw s3 es3
      refine z_aload_n C dX9_town_97 rfl 0 rfl ?_
      refine z_iconst C 0 dX9_town_98 (by decide) ?_
      refine p_X9_109 C dX9_town_99 (z_nms (fun s4 es4 => ?_))
      replace hw := hw s4 es4
      refine z_aload_n C dX9_town_102 rfl 0 rfl ?_
      refine f_X9_133 C dX9_town_103 ?_
      refine z_iconst C 1 dX9_town_106 (by decide) ?_
      refine z_isub C dX9_town_107 ?_
      exact z_ireturn C D dX9_town_108 ⟨_, rfl, hw⟩
    · replace hw := hw.2 h
      refine z_aload_n C dX9_town_23 rfl 0 rfl ?_
      refine f_X9_24 C dX9_town_24 ?_
      refine z_aload_n C dX9_town_27 rfl 0 rfl ?_
      refine f_X9_133 C dX9_town_28 ?_
      refine z_iload_n C dX9_town_31 rfl 1 rfl ?_
      refine z_callS C (by decide) M_X9_at Ms_X9_at kw_m_X9_143 (t_X9_at hw) rfl rfl (Nat.le_of_ble_eq_true rfl) dX9_town_32 (z_ki (fun r5 s6 hw => ?_))
      refine z_iconst C (-1) dX9_town_35 (by decide) ?_
      refine z_iast C za_58 (by decide) (Int32.toNatClampNeg r5) rfl hw.1 dX9_town_36 (z_nms (fun s7 es7 => ?_))
      replace hw := hw.2
      replace hw := hw s7 es7
      refine z_aload_n C dX9_town_37 rfl 0 rfl ?_
      refine f_X9_24 C dX9_town_38 ?_
      refine z_iload_n C dX9_town_41 rfl 1 rfl ?_
      refine z_aload_n C dX9_town_42 rfl 0 rfl ?_
      refine f_X9_133 C dX9_town_43 ?_
      refine z_callS C (by decide) M_X9_at Ms_X9_at kw_m_X9_143 (t_X9_at hw) rfl rfl (Nat.le_of_ble_eq_true rfl) dX9_town_46 (z_ki (fun r8 s9 hw => ?_))
      refine z_iconst C (-1) dX9_town_49 (by decide) ?_
      refine z_iast C za_58 (by decide) (Int32.toNatClampNeg r8) rfl hw.1 dX9_town_50 (z_nms (fun s10 es10 => ?_))
      replace hw := hw.2
      replace hw := hw s10 es10
      refine z_aload_n C dX9_town_51 rfl 0 rfl ?_
      refine f_X9_30 C dX9_town_52 ?_
      refine z_aload_n C dX9_town_55 rfl 0 rfl ?_
      refine f_X9_133 C dX9_town_56 ?_
      refine z_iload_n C dX9_town_59 rfl 1 rfl ?_
      refine z_callS C (by decide) M_X9_at Ms_X9_at kw_m_X9_143 (t_X9_at hw) rfl rfl (Nat.le_of_ble_eq_true rfl) dX9_town_60 (z_ki (fun r11 s12 hw => ?_))
      refine z_bipush C 10 dX9_town_63 (by decide) ?_
      refine z_iast C za_60 (by decide) (Int32.toNatClampNeg r11) rfl hw.1 dX9_town_65 (z_nms (fun s13 es13 => ?_))
      replace hw := hw.2
      replace hw := hw s13 es13
      refine z_aload_n C dX9_town_66 rfl 0 rfl ?_
      refine f_X9_30 C dX9_town_67 ?_
      refine z_iload_n C dX9_town_70 rfl 1 rfl ?_
      refine z_aload_n C dX9_town_71 rfl 0 rfl ?_
      refine f_X9_133 C dX9_town_72 ?_
      refine z_callS C (by decide) M_X9_at Ms_X9_at kw_m_X9_143 (t_X9_at hw) rfl rfl (Nat.le_of_ble_eq_true rfl) dX9_town_75 (z_ki (fun r14 s15 hw => ?_))
      refine z_bipush C 10 dX9_town_78 (by decide) ?_
      refine z_iast C za_60 (by decide) (Int32.toNatClampNeg r14) rfl hw.1 dX9_town_80 (z_nms (fun s16 es16 => ?_))
      replace hw := hw.2
      replace hw := hw s16 es16
      refine z_iinc C (v1 + 1) [(1, .int (v1 + 1)), (0, .ref ((zXE X).1 54 0))] dX9_town_81 1 rfl rfl (by decide) rfl ?_
      refine z_goto C (tgt := 17) dX9_town_84 (by decide) ?_
      exact z_lv [1, 0] rfl hw
  refine z_aload_n C dX9_town_0 rfl 0 rfl ?_
  refine f_X9_133 C dX9_town_1 ?_
  refine z_bipush C 10 dX9_town_4 (by decide) ?_
  refine z_icmp_ne C (tgt := 15) dX9_town_6 (by decide) (fun h => ?_) (fun h => ?_)
  · replace hw := hw.1 h
    refine z_iconst C 0 dX9_town_15 (by decide) ?_
    refine z_istore_n C [(1, .int (0 : Int32)), (0, .ref ((zXE X).1 54 0))] dX9_town_16 rfl (by decide) rfl ?_
    exact z_lv [1, 0] rfl hw
  · replace hw := hw.2 h
    refine z_aload_n C dX9_town_9 rfl 0 rfl ?_
    refine z_iconst C 5 dX9_town_10 (by decide) ?_
    refine z_callV C (by decide) M_X9_refuse Mv_X9_refuse kw_m_X9_139 ob_X9 (t_X9_refuse hw) rfl rfl (Nat.le_of_ble_eq_true rfl) dX9_town_11 (z_ki (fun r1 s2 hw => ?_))
    exact z_ireturn C D dX9_town_14 ⟨_, rfl, hw⟩
set_option maxHeartbeats 4000000 in
set_option maxRecDepth 100000 in
theorem t_X8_isTown {l : Launch} {E : zE} {a1 : Int32} {s0 : zS} {Q : Int32 → zS → Prop}  (hw : Wp_X8_isTown a1 s0 Q) : zT l 2 E yX8_isTown cX8_isTown 2 (some .boolean) [.ref (E.1 0 0), .int a1] s0 (zQb Q) := by
  unfold Wp_X8_isTown at hw
  refine z_entry rfl (Nat.le_of_ble_eq_true rfl) rfl ?_
  intro X C D hl hE
  subst hl; subst hE
  have C : zC X cX8_isTown RX8 2 2 := C
  refine z_iload_n C dX8_isTown_0 rfl 1 rfl ?_
  refine z_iconst C 0 dX8_isTown_1 (by decide) ?_
  refine z_aload_n C dX8_isTown_2 rfl 0 rfl ?_
  refine f_X8_26 C dX8_isTown_3 ?_
  refine f_X8_121 C dX8_isTown_6 ?_
  refine z_iconst C 1 dX8_isTown_9 (by decide) ?_
  refine z_isub C dX8_isTown_10 ?_
  refine z_callS C (by decide) M_X8_within Ms_X8_within kw_m_X8_85 (t_X8_within hw) rfl rfl (Nat.le_of_ble_eq_true rfl) dX8_isTown_11 (z_kb (fun r1 s2 hr1 hw => ?_))
  exact z_zreturn C D dX8_isTown_14 hr1 ⟨_, rfl, hr1, hw⟩
set_option maxHeartbeats 4000000 in
set_option maxRecDepth 100000 in
theorem t_X8_areTwoTowns {l : Launch} {E : zE} {a1 : Int32} {a2 : Int32} {s0 : zS} {Q : Int32 → zS → Prop}  (hw : Wp_X8_areTwoTowns a1 a2 s0 Q) : zT l 3 E yX8_areTwoTowns cX8_areTwoTowns 3 (some .boolean) [.ref (E.1 0 0), .int a1, .int a2] s0 (zQb Q) := by
  unfold Wp_X8_areTwoTowns at hw
  refine z_entry rfl (Nat.le_of_ble_eq_true rfl) rfl ?_
  intro X C D hl hE
  subst hl; subst hE
  have C : zC X cX8_areTwoTowns RX8 3 3 := C
  refine z_aload_n C dX8_areTwoTowns_0 rfl 0 rfl ?_
  refine z_iload_n C dX8_areTwoTowns_1 rfl 1 rfl ?_
  refine z_callV C (by decide) M_X8_isTown Mv_X8_isTown kw_m_X8_167 ob_X8 (t_X8_isTown hw) rfl rfl (Nat.le_of_ble_eq_true rfl) dX8_areTwoTowns_2 (z_kb (fun r1 s2 hr1 hw => ?_))
  refine z_if_eq C (tgt := 25) dX8_areTwoTowns_5 (by decide) (fun h => ?_) (fun h => ?_)
  · replace hw := hw.1 h
    refine z_iconst C 0 dX8_areTwoTowns_25 (by decide) ?_
    exact z_zreturn C D dX8_areTwoTowns_26 (Or.inl rfl) ⟨_, rfl, (Or.inl rfl), hw⟩
  · replace hw := hw.2 h
    refine z_aload_n C dX8_areTwoTowns_8 rfl 0 rfl ?_
    refine z_iload_n C dX8_areTwoTowns_9 rfl 2 rfl ?_
    refine z_callV C (by decide) M_X8_isTown Mv_X8_isTown kw_m_X8_167 ob_X8 (t_X8_isTown hw) rfl rfl (Nat.le_of_ble_eq_true rfl) dX8_areTwoTowns_10 (z_kb (fun r3 s4 hr3 hw => ?_))
    refine z_if_eq C (tgt := 25) dX8_areTwoTowns_13 (by decide) (fun h => ?_) (fun h => ?_)
    · replace hw := hw.1 h
      refine z_iconst C 0 dX8_areTwoTowns_25 (by decide) ?_
      exact z_zreturn C D dX8_areTwoTowns_26 (Or.inl rfl) ⟨_, rfl, (Or.inl rfl), hw⟩
    · replace hw := hw.2 h
      refine z_iload_n C dX8_areTwoTowns_16 rfl 1 rfl ?_
      refine z_iload_n C dX8_areTwoTowns_17 rfl 2 rfl ?_
      refine z_icmp_eq C (tgt := 25) dX8_areTwoTowns_18 (by decide) (fun h => ?_) (fun h => ?_)
      · replace hw := hw.1 h
        refine z_iconst C 0 dX8_areTwoTowns_25 (by decide) ?_
        exact z_zreturn C D dX8_areTwoTowns_26 (Or.inl rfl) ⟨_, rfl, (Or.inl rfl), hw⟩
      · replace hw := hw.2 h
        refine z_iconst C 1 dX8_areTwoTowns_21 (by decide) ?_
        refine z_goto C (tgt := 26) dX8_areTwoTowns_22 (by decide) ?_
        exact z_zreturn C D dX8_areTwoTowns_26 (Or.inr rfl) ⟨_, rfl, (Or.inr rfl), hw⟩
set_option maxHeartbeats 4000000 in
set_option maxRecDepth 100000 in
theorem t_X6_isRoad {l : Launch} {E : zE} {a1 : Int32} {a2 : Int32} {s0 : zS} {Q : Int32 → zS → Prop}  (hw : Wp_X6_isRoad a1 a2 s0 Q) : zT l 1 E yX6_isRoad cX6_isRoad 3 (some .boolean) [.ref (E.1 7 0), .int a1, .int a2] s0 (zQb Q) := by
  unfold Wp_X6_isRoad at hw
  refine z_entry rfl (Nat.le_of_ble_eq_true rfl) rfl ?_
  intro X C D hl hE
  subst hl; subst hE
  have C : zC X cX6_isRoad RX6 3 1 := C
  refine z_aload_n C dX6_isRoad_0 rfl 0 rfl ?_
  refine f_X6_17 C dX6_isRoad_1 ?_
  refine z_iload_n C dX6_isRoad_4 rfl 1 rfl ?_
  have hb1 := zin_lt hw.1
  refine z_aald C za_8 (by decide) rfl (Int32.toNatClampNeg a1) rfl hw.1 dX6_isRoad_5 ?_
  replace hw := hw.2
  refine z_iload_n C dX6_isRoad_6 rfl 2 rfl ?_
  refine z_iald C za_9 hb1 (Int32.toNatClampNeg a2) rfl hw.1 dX6_isRoad_7 ?_
  replace hw := hw.2
  refine z_if_le C (tgt := 15) dX6_isRoad_8 (by decide) (fun h => ?_) (fun h => ?_)
  · replace hw := hw.1 h
    refine z_iconst C 0 dX6_isRoad_15 (by decide) ?_
    exact z_zreturn C D dX6_isRoad_16 (Or.inl rfl) ⟨_, rfl, (Or.inl rfl), hw⟩
  · replace hw := hw.2 h
    refine z_iconst C 1 dX6_isRoad_11 (by decide) ?_
    refine z_goto C (tgt := 16) dX6_isRoad_12 (by decide) ?_
    exact z_zreturn C D dX6_isRoad_16 (Or.inr rfl) ⟨_, rfl, (Or.inr rfl), hw⟩
set_option maxHeartbeats 4000000 in
set_option maxRecDepth 100000 in
theorem t_X8_roadFault {l : Launch} {E : zE} {a1 : Int32} {a2 : Int32} {a3 : Int32} {a4 : Int32} {s0 : zS} {Q : Int32 → zS → Prop}  (hw : Wp_X8_roadFault a1 a2 a3 a4 s0 Q) : zT l 4 E yX8_roadFault cX8_roadFault 5 (some .int) [.ref (E.1 0 0), .int a1, .int a2, .int a3, .int a4] s0 (zQi Q) := by
  unfold Wp_X8_roadFault at hw
  refine z_entry rfl (Nat.le_of_ble_eq_true rfl) rfl ?_
  intro X C D hl hE
  subst hl; subst hE
  have C : zC X cX8_roadFault RX8 5 4 := C
  refine z_aload_n C dX8_roadFault_0 rfl 0 rfl ?_
  refine z_iload_n C dX8_roadFault_1 rfl 1 rfl ?_
  refine z_iload_n C dX8_roadFault_2 rfl 2 rfl ?_
  refine z_callV C (by decide) M_X8_areTwoTowns Mv_X8_areTwoTowns kw_m_X8_136 ob_X8 (t_X8_areTwoTowns hw) rfl rfl (Nat.le_of_ble_eq_true rfl) dX8_roadFault_3 (z_kb (fun r1 s2 hr1 hw => ?_))
  refine z_if_eq C (tgt := 20) dX8_roadFault_6 (by decide) (fun h => ?_) (fun h => ?_)
  · replace hw := hw.1 h
    refine z_iconst C 1 dX8_roadFault_20 (by decide) ?_
    exact z_ireturn C D dX8_roadFault_21 ⟨_, rfl, hw⟩
  · replace hw := hw.2 h
    refine z_iload C dX8_roadFault_9 4 rfl ?_
    refine z_iconst C 0 dX8_roadFault_11 (by decide) ?_
    refine z_bipush C 9 dX8_roadFault_12 (by decide) ?_
    refine z_callS C (by decide) M_X8_within Ms_X8_within kw_m_X8_85 (t_X8_within hw) rfl rfl (Nat.le_of_ble_eq_true rfl) dX8_roadFault_14 (z_kb (fun r3 s4 hr3 hw => ?_))
    refine z_if_ne C (tgt := 22) dX8_roadFault_17 (by decide) (fun h => ?_) (fun h => ?_)
    · replace hw := hw.1 h
      refine z_iload_n C dX8_roadFault_22 rfl 3 rfl ?_
      refine z_iconst C (-1) dX8_roadFault_23 (by decide) ?_
      refine z_icmp_ne C (tgt := 46) dX8_roadFault_24 (by decide) (fun h => ?_) (fun h => ?_)
      · replace hw := hw.1 h
        refine z_iload_n C dX8_roadFault_46 rfl 3 rfl ?_
        refine z_iconst C 1 dX8_roadFault_47 (by decide) ?_
        refine z_sipush C 500 dX8_roadFault_48 (by decide) ?_
        refine z_callS C (by decide) M_X8_within Ms_X8_within kw_m_X8_85 (t_X8_within hw) rfl rfl (Nat.le_of_ble_eq_true rfl) dX8_roadFault_51 (z_kb (fun r5 s6 hr5 hw => ?_))
        refine z_callS C (by decide) M_X8_wrongUnless Ms_X8_wrongUnless kw_m_X8_89 (t_X8_wrongUnless hw) rfl rfl (Nat.le_of_ble_eq_true rfl) dX8_roadFault_54 (z_ki (fun r7 s8 hw => ?_))
        exact z_ireturn C D dX8_roadFault_57 ⟨_, rfl, hw⟩
      · replace hw := hw.2 h
        refine z_aload_n C dX8_roadFault_27 rfl 0 rfl ?_
        refine f_X8_26 C dX8_roadFault_28 ?_
        refine z_iload_n C dX8_roadFault_31 rfl 1 rfl ?_
        refine z_iload_n C dX8_roadFault_32 rfl 2 rfl ?_
        refine z_callV C (by decide) M_X6_isRoad Mv_X6_isRoad kw_m_X8_311 ob_X6 (t_X6_isRoad hw) rfl rfl (Nat.le_of_ble_eq_true rfl) dX8_roadFault_33 (z_kb (fun r9 s10 hr9 hw => ?_))
        refine z_if_eq C (tgt := 43) dX8_roadFault_36 (by decide) (fun h => ?_) (fun h => ?_)
        · replace hw := hw.1 h
          refine z_bipush C 6 dX8_roadFault_43 (by decide) ?_
          exact z_ireturn C D dX8_roadFault_45 ⟨_, rfl, hw⟩
        · replace hw := hw.2 h
          refine z_iconst C 0 dX8_roadFault_39 (by decide) ?_
          refine z_goto C (tgt := 45) dX8_roadFault_40 (by decide) ?_
          exact z_ireturn C D dX8_roadFault_45 ⟨_, rfl, hw⟩
    · replace hw := hw.2 h
      refine z_iconst C 1 dX8_roadFault_20 (by decide) ?_
      exact z_ireturn C D dX8_roadFault_21 ⟨_, rfl, hw⟩
set_option maxHeartbeats 4000000 in
set_option maxRecDepth 100000 in
theorem t_X6_setRoad {l : Launch} {E : zE} {a1 : Int32} {a2 : Int32} {a3 : Int32} {a4 : Int32} {s0 : zS} {Q : zS → Prop}  (hw : Wp_X6_setRoad a1 a2 a3 a4 s0 Q) : zT l 1 E yX6_setRoad cX6_setRoad 5 none [.ref (E.1 7 0), .int a1, .int a2, .int a3, .int a4] s0 (zQv Q) := by
  unfold Wp_X6_setRoad at hw
  refine z_entry rfl (Nat.le_of_ble_eq_true rfl) rfl ?_
  intro X C D hl hE
  subst hl; subst hE
  have C : zC X cX6_setRoad RX6 5 1 := C
  refine z_aload_n C dX6_setRoad_0 rfl 0 rfl ?_
  refine f_X6_17 C dX6_setRoad_1 ?_
  refine z_iload_n C dX6_setRoad_4 rfl 1 rfl ?_
  have hb1 := zin_lt hw.1
  refine z_aald C za_8 (by decide) rfl (Int32.toNatClampNeg a1) rfl hw.1 dX6_setRoad_5 ?_
  replace hw := hw.2
  refine z_iload_n C dX6_setRoad_6 rfl 2 rfl ?_
  refine z_iload_n C dX6_setRoad_7 rfl 3 rfl ?_
  refine z_iast C za_9 hb1 (Int32.toNatClampNeg a2) rfl hw.1 dX6_setRoad_8 (z_nms (fun s2 es2 => ?_))
  replace hw := hw.2
  replace hw := hw s2 es2
  refine z_aload_n C dX6_setRoad_9 rfl 0 rfl ?_
  refine f_X6_17 C dX6_setRoad_10 ?_
  refine z_iload_n C dX6_setRoad_13 rfl 2 rfl ?_
  have hb3 := zin_lt hw.1
  refine z_aald C za_8 (by decide) rfl (Int32.toNatClampNeg a2) rfl hw.1 dX6_setRoad_14 ?_
  replace hw := hw.2
  refine z_iload_n C dX6_setRoad_15 rfl 1 rfl ?_
  refine z_iload_n C dX6_setRoad_16 rfl 3 rfl ?_
  refine z_iast C za_9 hb3 (Int32.toNatClampNeg a1) rfl hw.1 dX6_setRoad_17 (z_nms (fun s4 es4 => ?_))
  replace hw := hw.2
  replace hw := hw s4 es4
  refine z_aload_n C dX6_setRoad_18 rfl 0 rfl ?_
  refine f_X6_20 C dX6_setRoad_19 ?_
  refine z_iload_n C dX6_setRoad_22 rfl 1 rfl ?_
  have hb5 := zin_lt hw.1
  refine z_aald C za_10 (by decide) rfl (Int32.toNatClampNeg a1) rfl hw.1 dX6_setRoad_23 ?_
  replace hw := hw.2
  refine z_iload_n C dX6_setRoad_24 rfl 2 rfl ?_
  refine z_iload C dX6_setRoad_25 4 rfl ?_
  refine z_iast C za_11 hb5 (Int32.toNatClampNeg a2) rfl hw.1 dX6_setRoad_27 (z_nms (fun s6 es6 => ?_))
  replace hw := hw.2
  replace hw := hw s6 es6
  refine z_aload_n C dX6_setRoad_28 rfl 0 rfl ?_
  refine f_X6_20 C dX6_setRoad_29 ?_
  refine z_iload_n C dX6_setRoad_32 rfl 2 rfl ?_
  have hb7 := zin_lt hw.1
  refine z_aald C za_10 (by decide) rfl (Int32.toNatClampNeg a2) rfl hw.1 dX6_setRoad_33 ?_
  replace hw := hw.2
  refine z_iload_n C dX6_setRoad_34 rfl 1 rfl ?_
  refine z_iload C dX6_setRoad_35 4 rfl ?_
  refine z_iast C za_11 hb7 (Int32.toNatClampNeg a1) rfl hw.1 dX6_setRoad_37 (z_nms (fun s8 es8 => ?_))
  replace hw := hw.2
  replace hw := hw s8 es8
  exact z_vreturn C D dX6_setRoad_38 ⟨rfl, hw⟩
set_option maxHeartbeats 4000000 in
set_option maxRecDepth 100000 in
theorem t_X8_road {l : Launch} {E : zE} {a1 : Int32} {a2 : Int32} {a3 : Int32} {a4 : Int32} {s0 : zS} {Q : Int32 → zS → Prop}  (hw : Wp_X8_road a1 a2 a3 a4 s0 Q) : zT l 5 E yX8_road cX8_road 5 (some .boolean) [.ref (E.1 0 0), .int a1, .int a2, .int a3, .int a4] s0 (zQb Q) := by
  unfold Wp_X8_road at hw
  refine z_entry rfl (Nat.le_of_ble_eq_true rfl) rfl ?_
  intro X C D hl hE
  subst hl; subst hE
  have C : zC X cX8_road RX8 5 5 := C
  refine z_aload_n C dX8_road_0 rfl 0 rfl ?_
  refine z_aload_n C dX8_road_1 rfl 0 rfl ?_
  refine z_iload_n C dX8_road_2 rfl 1 rfl ?_
  refine z_iload_n C dX8_road_3 rfl 2 rfl ?_
  refine z_iload_n C dX8_road_4 rfl 3 rfl ?_
  refine z_iload C dX8_road_5 4 rfl ?_
  refine z_callV C (by decide) M_X8_roadFault Mv_X8_roadFault kw_m_X8_128 ob_X8 (t_X8_roadFault hw) rfl rfl (Nat.le_of_ble_eq_true rfl) dX8_road_7 (z_ki (fun r1 s2 hw => ?_))
  refine p_X8_67 C dX8_road_10 (z_nms (fun s3 es3 => ?_))
  replace hw := hw s3 es3
  refine z_aload_n C dX8_road_13 rfl 0 rfl ?_
  refine f_X8_67 C dX8_road_14 ?_
  refine z_if_eq C (tgt := 22) dX8_road_17 (by decide) (fun h => ?_) (fun h => ?_)
  · replace hw := hw.1 h
    refine z_aload_n C dX8_road_22 rfl 0 rfl ?_
    refine f_X8_26 C dX8_road_23 ?_
    refine z_iload_n C dX8_road_26 rfl 1 rfl ?_
    refine z_iload_n C dX8_road_27 rfl 2 rfl ?_
    refine z_iload_n C dX8_road_28 rfl 3 rfl ?_
    refine z_iconst C (-1) dX8_road_29 (by decide) ?_
    refine z_icmp_ne C (tgt := 37) dX8_road_30 (by decide) (fun h => ?_) (fun h => ?_)
    · replace hw := hw.1 h
      refine z_iload_n C dX8_road_37 rfl 3 rfl ?_
      refine z_iload C dX8_road_38 4 rfl ?_
      refine z_callV C (by decide) M_X6_setRoad Mv_X6_setRoad kw_m_X8_132 ob_X6 (t_X6_setRoad hw) rfl rfl (Nat.le_of_ble_eq_true rfl) dX8_road_40 (z_kv (fun s5 hw => ?_))
      refine z_iconst C 1 dX8_road_43 (by decide) ?_
      exact z_zreturn C D dX8_road_44 (Or.inr rfl) ⟨_, rfl, (Or.inr rfl), hw⟩
    · replace hw := hw.2 h
      refine z_iconst C 0 dX8_road_33 (by decide) ?_
      refine z_goto C (tgt := 38) dX8_road_34 (by decide) ?_
      refine z_iload C dX8_road_38 4 rfl ?_
      refine z_callV C (by decide) M_X6_setRoad Mv_X6_setRoad kw_m_X8_132 ob_X6 (t_X6_setRoad hw) rfl rfl (Nat.le_of_ble_eq_true rfl) dX8_road_40 (z_kv (fun s7 hw => ?_))
      refine z_iconst C 1 dX8_road_43 (by decide) ?_
      exact z_zreturn C D dX8_road_44 (Or.inr rfl) ⟨_, rfl, (Or.inr rfl), hw⟩
  · replace hw := hw.2 h
    refine z_iconst C 0 dX8_road_20 (by decide) ?_
    exact z_zreturn C D dX8_road_21 (Or.inl rfl) ⟨_, rfl, (Or.inl rfl), hw⟩
set_option maxHeartbeats 4000000 in
set_option maxRecDepth 100000 in
theorem t_X9_isTown {l : Launch} {E : zE} {a1 : Int32} {s0 : zS} {Q : Int32 → zS → Prop}  (hw : Wp_X9_isTown a1 s0 Q) : zT l 1 E yX9_isTown cX9_isTown 2 (some .boolean) [.ref (E.1 54 0), .int a1] s0 (zQb Q) := by
  unfold Wp_X9_isTown at hw
  refine z_entry rfl (Nat.le_of_ble_eq_true rfl) rfl ?_
  intro X C D hl hE
  subst hl; subst hE
  have C : zC X cX9_isTown RX9 2 1 := C
  refine z_iload_n C dX9_isTown_0 rfl 1 rfl ?_
  refine z_if_lt C (tgt := 16) dX9_isTown_1 (by decide) (fun h => ?_) (fun h => ?_)
  · replace hw := hw.1 h
    refine z_iconst C 0 dX9_isTown_16 (by decide) ?_
    exact z_zreturn C D dX9_isTown_17 (Or.inl rfl) ⟨_, rfl, (Or.inl rfl), hw⟩
  · replace hw := hw.2 h
    refine z_iload_n C dX9_isTown_4 rfl 1 rfl ?_
    refine z_aload_n C dX9_isTown_5 rfl 0 rfl ?_
    refine f_X9_133 C dX9_isTown_6 ?_
    refine z_icmp_ge C (tgt := 16) dX9_isTown_9 (by decide) (fun h => ?_) (fun h => ?_)
    · replace hw := hw.1 h
      refine z_iconst C 0 dX9_isTown_16 (by decide) ?_
      exact z_zreturn C D dX9_isTown_17 (Or.inl rfl) ⟨_, rfl, (Or.inl rfl), hw⟩
    · replace hw := hw.2 h
      refine z_iconst C 1 dX9_isTown_12 (by decide) ?_
      refine z_goto C (tgt := 17) dX9_isTown_13 (by decide) ?_
      exact z_zreturn C D dX9_isTown_17 (Or.inr rfl) ⟨_, rfl, (Or.inr rfl), hw⟩
set_option maxHeartbeats 4000000 in
set_option maxRecDepth 100000 in
theorem t_X9_road {l : Launch} {E : zE} {a1 : Int32} {a2 : Int32} {a3 : Int32} {a4 : Int32} {s0 : zS} {Q : Int32 → zS → Prop}  (hw : Wp_X9_road a1 a2 a3 a4 s0 Q) : zT l 2 E yX9_road cX9_road 5 (some .boolean) [.ref (E.1 54 0), .int a1, .int a2, .int a3, .int a4] s0 (zQb Q) := by
  unfold Wp_X9_road at hw
  refine z_entry rfl (Nat.le_of_ble_eq_true rfl) rfl ?_
  intro X C D hl hE
  subst hl; subst hE
  have C : zC X cX9_road RX9 5 2 := C
  refine z_aload_n C dX9_road_0 rfl 0 rfl ?_
  refine z_iload_n C dX9_road_1 rfl 1 rfl ?_
  refine z_callV C (by decide) M_X9_isTown Mv_X9_isTown kw_m_X9_146 ob_X9 (t_X9_isTown hw) rfl rfl (Nat.le_of_ble_eq_true rfl) dX9_road_2 (z_kb (fun r1 s2 hr1 hw => ?_))
  refine z_if_eq C (tgt := 21) dX9_road_5 (by decide) (fun h => ?_) (fun h => ?_)
  · replace hw := hw.1 h
    refine z_aload_n C dX9_road_21 rfl 0 rfl ?_
    refine z_iconst C 1 dX9_road_22 (by decide) ?_
    refine z_callV C (by decide) M_X9_is Mv_X9_is kw_m_X9_120 ob_X9 (t_X9_is hw) rfl rfl (Nat.le_of_ble_eq_true rfl) dX9_road_23 (z_kb (fun r3 s4 hr3 hw => ?_))
    exact z_zreturn C D dX9_road_26 hr3 ⟨_, rfl, hr3, hw⟩
  · replace hw := hw.2 h
    refine z_aload_n C dX9_road_8 rfl 0 rfl ?_
    refine z_iload_n C dX9_road_9 rfl 2 rfl ?_
    refine z_callV C (by decide) M_X9_isTown Mv_X9_isTown kw_m_X9_146 ob_X9 (t_X9_isTown hw) rfl rfl (Nat.le_of_ble_eq_true rfl) dX9_road_10 (z_kb (fun r5 s6 hr5 hw => ?_))
    refine z_if_eq C (tgt := 21) dX9_road_13 (by decide) (fun h => ?_) (fun h => ?_)
    · replace hw := hw.1 h
      refine z_aload_n C dX9_road_21 rfl 0 rfl ?_
      refine z_iconst C 1 dX9_road_22 (by decide) ?_
      refine z_callV C (by decide) M_X9_is Mv_X9_is kw_m_X9_120 ob_X9 (t_X9_is hw) rfl rfl (Nat.le_of_ble_eq_true rfl) dX9_road_23 (z_kb (fun r7 s8 hr7 hw => ?_))
      exact z_zreturn C D dX9_road_26 hr7 ⟨_, rfl, hr7, hw⟩
    · replace hw := hw.2 h
      refine z_iload_n C dX9_road_16 rfl 1 rfl ?_
      refine z_iload_n C dX9_road_17 rfl 2 rfl ?_
      refine z_icmp_ne C (tgt := 27) dX9_road_18 (by decide) (fun h => ?_) (fun h => ?_)
      · replace hw := hw.1 h
        refine z_iload_n C dX9_road_27 rfl 3 rfl ?_
        refine z_iconst C (-1) dX9_road_28 (by decide) ?_
        refine z_icmp_ne C (tgt := 81) dX9_road_29 (by decide) (fun h => ?_) (fun h => ?_)
        · replace hw := hw.1 h
          refine z_iload_n C dX9_road_81 rfl 3 rfl ?_
          refine z_iconst C 1 dX9_road_82 (by decide) ?_
          refine z_icmp_lt C (tgt := 105) dX9_road_83 (by decide) (fun h => ?_) (fun h => ?_)
          · replace hw := hw.1 h
            refine z_aload_n C dX9_road_105 rfl 0 rfl ?_
            refine z_iconst C 1 dX9_road_106 (by decide) ?_
            refine z_callV C (by decide) M_X9_is Mv_X9_is kw_m_X9_120 ob_X9 (t_X9_is hw) rfl rfl (Nat.le_of_ble_eq_true rfl) dX9_road_107 (z_kb (fun r9 s10 hr9 hw => ?_))
            exact z_zreturn C D dX9_road_110 hr9 ⟨_, rfl, hr9, hw⟩
          · replace hw := hw.2 h
            refine z_iload_n C dX9_road_86 rfl 3 rfl ?_
            refine z_sipush C 500 dX9_road_87 (by decide) ?_
            refine z_icmp_gt C (tgt := 105) dX9_road_90 (by decide) (fun h => ?_) (fun h => ?_)
            · replace hw := hw.1 h
              refine z_aload_n C dX9_road_105 rfl 0 rfl ?_
              refine z_iconst C 1 dX9_road_106 (by decide) ?_
              refine z_callV C (by decide) M_X9_is Mv_X9_is kw_m_X9_120 ob_X9 (t_X9_is hw) rfl rfl (Nat.le_of_ble_eq_true rfl) dX9_road_107 (z_kb (fun r11 s12 hr11 hw => ?_))
              exact z_zreturn C D dX9_road_110 hr11 ⟨_, rfl, hr11, hw⟩
            · replace hw := hw.2 h
              refine z_iload C dX9_road_93 4 rfl ?_
              refine z_if_lt C (tgt := 105) dX9_road_95 (by decide) (fun h => ?_) (fun h => ?_)
              · replace hw := hw.1 h
                refine z_aload_n C dX9_road_105 rfl 0 rfl ?_
                refine z_iconst C 1 dX9_road_106 (by decide) ?_
                refine z_callV C (by decide) M_X9_is Mv_X9_is kw_m_X9_120 ob_X9 (t_X9_is hw) rfl rfl (Nat.le_of_ble_eq_true rfl) dX9_road_107 (z_kb (fun r13 s14 hr13 hw => ?_))
                exact z_zreturn C D dX9_road_110 hr13 ⟨_, rfl, hr13, hw⟩
              · replace hw := hw.2 h
                refine z_iload C dX9_road_98 4 rfl ?_
                refine z_bipush C 9 dX9_road_100 (by decide) ?_
                refine z_icmp_le C (tgt := 111) dX9_road_102 (by decide) (fun h => ?_) (fun h => ?_)
                · replace hw := hw.1 h
                  refine z_aload_n C dX9_road_111 rfl 0 rfl ?_
                  refine f_X9_24 C dX9_road_112 ?_
                  refine z_iload_n C dX9_road_115 rfl 1 rfl ?_
                  refine z_iload_n C dX9_road_116 rfl 2 rfl ?_
                  refine z_callS C (by decide) M_X9_at Ms_X9_at kw_m_X9_143 (t_X9_at hw) rfl rfl (Nat.le_of_ble_eq_true rfl) dX9_road_117 (z_ki (fun r15 s16 hw => ?_))
                  refine z_iload_n C dX9_road_120 rfl 3 rfl ?_
                  refine z_iast C za_58 (by decide) (Int32.toNatClampNeg r15) rfl hw.1 dX9_road_121 (z_nms (fun s17 es17 => ?_))
                  replace hw := hw.2
                  replace hw := hw s17 es17
                  refine z_aload_n C dX9_road_122 rfl 0 rfl ?_
                  refine f_X9_24 C dX9_road_123 ?_
                  refine z_iload_n C dX9_road_126 rfl 2 rfl ?_
                  refine z_iload_n C dX9_road_127 rfl 1 rfl ?_
                  refine z_callS C (by decide) M_X9_at Ms_X9_at kw_m_X9_143 (t_X9_at hw) rfl rfl (Nat.le_of_ble_eq_true rfl) dX9_road_128 (z_ki (fun r18 s19 hw => ?_))
                  refine z_iload_n C dX9_road_131 rfl 3 rfl ?_
                  refine z_iast C za_58 (by decide) (Int32.toNatClampNeg r18) rfl hw.1 dX9_road_132 (z_nms (fun s20 es20 => ?_))
                  replace hw := hw.2
                  replace hw := hw s20 es20
                  refine z_aload_n C dX9_road_133 rfl 0 rfl ?_
                  refine f_X9_27 C dX9_road_134 ?_
                  refine z_iload_n C dX9_road_137 rfl 1 rfl ?_
                  refine z_iload_n C dX9_road_138 rfl 2 rfl ?_
                  refine z_callS C (by decide) M_X9_at Ms_X9_at kw_m_X9_143 (t_X9_at hw) rfl rfl (Nat.le_of_ble_eq_true rfl) dX9_road_139 (z_ki (fun r21 s22 hw => ?_))
                  refine z_iload C dX9_road_142 4 rfl ?_
                  refine z_iast C za_59 (by decide) (Int32.toNatClampNeg r21) rfl hw.1 dX9_road_144 (z_nms (fun s23 es23 => ?_))
                  replace hw := hw.2
                  replace hw := hw s23 es23
                  refine z_aload_n C dX9_road_145 rfl 0 rfl ?_
                  refine f_X9_27 C dX9_road_146 ?_
                  refine z_iload_n C dX9_road_149 rfl 2 rfl ?_
                  refine z_iload_n C dX9_road_150 rfl 1 rfl ?_
                  refine z_callS C (by decide) M_X9_at Ms_X9_at kw_m_X9_143 (t_X9_at hw) rfl rfl (Nat.le_of_ble_eq_true rfl) dX9_road_151 (z_ki (fun r24 s25 hw => ?_))
                  refine z_iload C dX9_road_154 4 rfl ?_
                  refine z_iast C za_59 (by decide) (Int32.toNatClampNeg r24) rfl hw.1 dX9_road_156 (z_nms (fun s26 es26 => ?_))
                  replace hw := hw.2
                  replace hw := hw s26 es26
                  refine z_aload_n C dX9_road_157 rfl 0 rfl ?_
                  refine z_iconst C 0 dX9_road_158 (by decide) ?_
                  refine z_callV C (by decide) M_X9_is Mv_X9_is kw_m_X9_120 ob_X9 (t_X9_is hw) rfl rfl (Nat.le_of_ble_eq_true rfl) dX9_road_159 (z_kb (fun r27 s28 hr27 hw => ?_))
                  exact z_zreturn C D dX9_road_162 hr27 ⟨_, rfl, hr27, hw⟩
                · replace hw := hw.2 h
                  refine z_aload_n C dX9_road_105 rfl 0 rfl ?_
                  refine z_iconst C 1 dX9_road_106 (by decide) ?_
                  refine z_callV C (by decide) M_X9_is Mv_X9_is kw_m_X9_120 ob_X9 (t_X9_is hw) rfl rfl (Nat.le_of_ble_eq_true rfl) dX9_road_107 (z_kb (fun r29 s30 hr29 hw => ?_))
                  exact z_zreturn C D dX9_road_110 hr29 ⟨_, rfl, hr29, hw⟩
        · replace hw := hw.2 h
          refine z_aload_n C dX9_road_32 rfl 0 rfl ?_
          refine f_X9_24 C dX9_road_33 ?_
          refine z_iload_n C dX9_road_36 rfl 1 rfl ?_
          refine z_iload_n C dX9_road_37 rfl 2 rfl ?_
          refine z_callS C (by decide) M_X9_at Ms_X9_at kw_m_X9_143 (t_X9_at hw) rfl rfl (Nat.le_of_ble_eq_true rfl) dX9_road_38 (z_ki (fun r31 s32 hw => ?_))
          refine z_iald C za_58 (by decide) (Int32.toNatClampNeg r31) rfl hw.1 dX9_road_41 ?_
          replace hw := hw.2
          refine z_iconst C (-1) dX9_road_42 (by decide) ?_
          refine z_icmp_ne C (tgt := 53) dX9_road_43 (by decide) (fun h => ?_) (fun h => ?_)
          · replace hw := hw.1 h
            refine z_aload_n C dX9_road_53 rfl 0 rfl ?_
            refine f_X9_24 C dX9_road_54 ?_
            refine z_iload_n C dX9_road_57 rfl 1 rfl ?_
            refine z_iload_n C dX9_road_58 rfl 2 rfl ?_
            refine z_callS C (by decide) M_X9_at Ms_X9_at kw_m_X9_143 (t_X9_at hw) rfl rfl (Nat.le_of_ble_eq_true rfl) dX9_road_59 (z_ki (fun r33 s34 hw => ?_))
            refine z_iconst C (-1) dX9_road_62 (by decide) ?_
            refine z_iast C za_58 (by decide) (Int32.toNatClampNeg r33) rfl hw.1 dX9_road_63 (z_nms (fun s35 es35 => ?_))
            replace hw := hw.2
            replace hw := hw s35 es35
            refine z_aload_n C dX9_road_64 rfl 0 rfl ?_
            refine f_X9_24 C dX9_road_65 ?_
            refine z_iload_n C dX9_road_68 rfl 2 rfl ?_
            refine z_iload_n C dX9_road_69 rfl 1 rfl ?_
            refine z_callS C (by decide) M_X9_at Ms_X9_at kw_m_X9_143 (t_X9_at hw) rfl rfl (Nat.le_of_ble_eq_true rfl) dX9_road_70 (z_ki (fun r36 s37 hw => ?_))
            refine z_iconst C (-1) dX9_road_73 (by decide) ?_
            refine z_iast C za_58 (by decide) (Int32.toNatClampNeg r36) rfl hw.1 dX9_road_74 (z_nms (fun s38 es38 => ?_))
            replace hw := hw.2
            replace hw := hw s38 es38
            refine z_aload_n C dX9_road_75 rfl 0 rfl ?_
            refine z_iconst C 0 dX9_road_76 (by decide) ?_
            refine z_callV C (by decide) M_X9_is Mv_X9_is kw_m_X9_120 ob_X9 (t_X9_is hw) rfl rfl (Nat.le_of_ble_eq_true rfl) dX9_road_77 (z_kb (fun r39 s40 hr39 hw => ?_))
            exact z_zreturn C D dX9_road_80 hr39 ⟨_, rfl, hr39, hw⟩
          · replace hw := hw.2 h
            refine z_aload_n C dX9_road_46 rfl 0 rfl ?_
            refine z_bipush C 6 dX9_road_47 (by decide) ?_
            refine z_callV C (by decide) M_X9_is Mv_X9_is kw_m_X9_120 ob_X9 (t_X9_is hw) rfl rfl (Nat.le_of_ble_eq_true rfl) dX9_road_49 (z_kb (fun r41 s42 hr41 hw => ?_))
            exact z_zreturn C D dX9_road_52 hr41 ⟨_, rfl, hr41, hw⟩
      · replace hw := hw.2 h
        refine z_aload_n C dX9_road_21 rfl 0 rfl ?_
        refine z_iconst C 1 dX9_road_22 (by decide) ?_
        refine z_callV C (by decide) M_X9_is Mv_X9_is kw_m_X9_120 ob_X9 (t_X9_is hw) rfl rfl (Nat.le_of_ble_eq_true rfl) dX9_road_23 (z_kb (fun r43 s44 hr43 hw => ?_))
        exact z_zreturn C D dX9_road_26 hr43 ⟨_, rfl, hr43, hw⟩
set_option maxHeartbeats 4000000 in
set_option maxRecDepth 100000 in
theorem t_X8_fare {l : Launch} {E : zE} {a1 : Int32} {a2 : Int32} {a3 : Int32} {s0 : zS} {Q : Int32 → zS → Prop}  (hw : Wp_X8_fare a1 a2 a3 s0 Q) : zT l 4 E yX8_fare cX8_fare 4 (some .boolean) [.ref (E.1 0 0), .int a1, .int a2, .int a3] s0 (zQb Q) := by
  unfold Wp_X8_fare at hw
  refine z_entry rfl (Nat.le_of_ble_eq_true rfl) rfl ?_
  intro X C D hl hE
  subst hl; subst hE
  have C : zC X cX8_fare RX8 4 4 := C
  refine z_aload_n C dX8_fare_0 rfl 0 rfl ?_
  refine z_aload_n C dX8_fare_1 rfl 0 rfl ?_
  refine z_iload_n C dX8_fare_2 rfl 1 rfl ?_
  refine z_iload_n C dX8_fare_3 rfl 2 rfl ?_
  refine z_callV C (by decide) M_X8_areTwoTowns Mv_X8_areTwoTowns kw_m_X8_136 ob_X8 (t_X8_areTwoTowns hw) rfl rfl (Nat.le_of_ble_eq_true rfl) dX8_fare_4 (z_kb (fun r1 s2 hr1 hw => ?_))
  refine z_if_eq C (tgt := 25) dX8_fare_7 (by decide) (fun h => ?_) (fun h => ?_)
  · replace hw := hw.1 h
    refine z_iconst C 0 dX8_fare_25 (by decide) ?_
    refine z_callS C (by decide) M_X8_wrongUnless Ms_X8_wrongUnless kw_m_X8_89 (t_X8_wrongUnless hw) rfl rfl (Nat.le_of_ble_eq_true rfl) dX8_fare_26 (z_ki (fun r3 s4 hw => ?_))
    refine p_X8_67 C dX8_fare_29 (z_nms (fun s5 es5 => ?_))
    replace hw := hw s5 es5
    refine z_aload_n C dX8_fare_32 rfl 0 rfl ?_
    refine f_X8_67 C dX8_fare_33 ?_
    refine z_if_eq C (tgt := 41) dX8_fare_36 (by decide) (fun h => ?_) (fun h => ?_)
    · replace hw := hw.1 h
      refine z_aload_n C dX8_fare_41 rfl 0 rfl ?_
      refine f_X8_26 C dX8_fare_42 ?_
      refine f_X8_140 C dX8_fare_45 ?_
      refine z_iload_n C dX8_fare_48 rfl 1 rfl ?_
      have hb6 := zin_lt hw.1
      refine z_aald C za_12 (by decide) rfl (Int32.toNatClampNeg a1) rfl hw.1 dX8_fare_49 ?_
      replace hw := hw.2
      refine z_iload_n C dX8_fare_50 rfl 2 rfl ?_
      refine z_iload_n C dX8_fare_51 rfl 3 rfl ?_
      refine z_iast C za_13 hb6 (Int32.toNatClampNeg a2) rfl hw.1 dX8_fare_52 (z_nms (fun s7 es7 => ?_))
      replace hw := hw.2
      replace hw := hw s7 es7
      refine z_iconst C 1 dX8_fare_53 (by decide) ?_
      exact z_zreturn C D dX8_fare_54 (Or.inr rfl) ⟨_, rfl, (Or.inr rfl), hw⟩
    · replace hw := hw.2 h
      refine z_iconst C 0 dX8_fare_39 (by decide) ?_
      exact z_zreturn C D dX8_fare_40 (Or.inl rfl) ⟨_, rfl, (Or.inl rfl), hw⟩
  · replace hw := hw.2 h
    refine z_iload_n C dX8_fare_10 rfl 3 rfl ?_
    refine z_iconst C 0 dX8_fare_11 (by decide) ?_
    refine z_sipush C 1000 dX8_fare_12 (by decide) ?_
    refine z_callS C (by decide) M_X8_within Ms_X8_within kw_m_X8_85 (t_X8_within hw) rfl rfl (Nat.le_of_ble_eq_true rfl) dX8_fare_15 (z_kb (fun r8 s9 hr8 hw => ?_))
    refine z_if_eq C (tgt := 25) dX8_fare_18 (by decide) (fun h => ?_) (fun h => ?_)
    · replace hw := hw.1 h
      refine z_iconst C 0 dX8_fare_25 (by decide) ?_
      refine z_callS C (by decide) M_X8_wrongUnless Ms_X8_wrongUnless kw_m_X8_89 (t_X8_wrongUnless hw) rfl rfl (Nat.le_of_ble_eq_true rfl) dX8_fare_26 (z_ki (fun r10 s11 hw => ?_))
      refine p_X8_67 C dX8_fare_29 (z_nms (fun s12 es12 => ?_))
      replace hw := hw s12 es12
      refine z_aload_n C dX8_fare_32 rfl 0 rfl ?_
      refine f_X8_67 C dX8_fare_33 ?_
      refine z_if_eq C (tgt := 41) dX8_fare_36 (by decide) (fun h => ?_) (fun h => ?_)
      · replace hw := hw.1 h
        refine z_aload_n C dX8_fare_41 rfl 0 rfl ?_
        refine f_X8_26 C dX8_fare_42 ?_
        refine f_X8_140 C dX8_fare_45 ?_
        refine z_iload_n C dX8_fare_48 rfl 1 rfl ?_
        have hb13 := zin_lt hw.1
        refine z_aald C za_12 (by decide) rfl (Int32.toNatClampNeg a1) rfl hw.1 dX8_fare_49 ?_
        replace hw := hw.2
        refine z_iload_n C dX8_fare_50 rfl 2 rfl ?_
        refine z_iload_n C dX8_fare_51 rfl 3 rfl ?_
        refine z_iast C za_13 hb13 (Int32.toNatClampNeg a2) rfl hw.1 dX8_fare_52 (z_nms (fun s14 es14 => ?_))
        replace hw := hw.2
        replace hw := hw s14 es14
        refine z_iconst C 1 dX8_fare_53 (by decide) ?_
        exact z_zreturn C D dX8_fare_54 (Or.inr rfl) ⟨_, rfl, (Or.inr rfl), hw⟩
      · replace hw := hw.2 h
        refine z_iconst C 0 dX8_fare_39 (by decide) ?_
        exact z_zreturn C D dX8_fare_40 (Or.inl rfl) ⟨_, rfl, (Or.inl rfl), hw⟩
    · replace hw := hw.2 h
      refine z_iconst C 1 dX8_fare_21 (by decide) ?_
      refine z_goto C (tgt := 26) dX8_fare_22 (by decide) ?_
      refine z_callS C (by decide) M_X8_wrongUnless Ms_X8_wrongUnless kw_m_X8_89 (t_X8_wrongUnless hw) rfl rfl (Nat.le_of_ble_eq_true rfl) dX8_fare_26 (z_ki (fun r15 s16 hw => ?_))
      refine p_X8_67 C dX8_fare_29 (z_nms (fun s17 es17 => ?_))
      replace hw := hw s17 es17
      refine z_aload_n C dX8_fare_32 rfl 0 rfl ?_
      refine f_X8_67 C dX8_fare_33 ?_
      refine z_if_eq C (tgt := 41) dX8_fare_36 (by decide) (fun h => ?_) (fun h => ?_)
      · replace hw := hw.1 h
        refine z_aload_n C dX8_fare_41 rfl 0 rfl ?_
        refine f_X8_26 C dX8_fare_42 ?_
        refine f_X8_140 C dX8_fare_45 ?_
        refine z_iload_n C dX8_fare_48 rfl 1 rfl ?_
        have hb18 := zin_lt hw.1
        refine z_aald C za_12 (by decide) rfl (Int32.toNatClampNeg a1) rfl hw.1 dX8_fare_49 ?_
        replace hw := hw.2
        refine z_iload_n C dX8_fare_50 rfl 2 rfl ?_
        refine z_iload_n C dX8_fare_51 rfl 3 rfl ?_
        refine z_iast C za_13 hb18 (Int32.toNatClampNeg a2) rfl hw.1 dX8_fare_52 (z_nms (fun s19 es19 => ?_))
        replace hw := hw.2
        replace hw := hw s19 es19
        refine z_iconst C 1 dX8_fare_53 (by decide) ?_
        exact z_zreturn C D dX8_fare_54 (Or.inr rfl) ⟨_, rfl, (Or.inr rfl), hw⟩
      · replace hw := hw.2 h
        refine z_iconst C 0 dX8_fare_39 (by decide) ?_
        exact z_zreturn C D dX8_fare_40 (Or.inl rfl) ⟨_, rfl, (Or.inl rfl), hw⟩
set_option maxHeartbeats 4000000 in
set_option maxRecDepth 100000 in
theorem t_X9_fare {l : Launch} {E : zE} {a1 : Int32} {a2 : Int32} {a3 : Int32} {s0 : zS} {Q : Int32 → zS → Prop}  (hw : Wp_X9_fare a1 a2 a3 s0 Q) : zT l 2 E yX9_fare cX9_fare 4 (some .boolean) [.ref (E.1 54 0), .int a1, .int a2, .int a3] s0 (zQb Q) := by
  unfold Wp_X9_fare at hw
  refine z_entry rfl (Nat.le_of_ble_eq_true rfl) rfl ?_
  intro X C D hl hE
  subst hl; subst hE
  have C : zC X cX9_fare RX9 4 2 := C
  refine z_aload_n C dX9_fare_0 rfl 0 rfl ?_
  refine z_iload_n C dX9_fare_1 rfl 1 rfl ?_
  refine z_callV C (by decide) M_X9_isTown Mv_X9_isTown kw_m_X9_146 ob_X9 (t_X9_isTown hw) rfl rfl (Nat.le_of_ble_eq_true rfl) dX9_fare_2 (z_kb (fun r1 s2 hr1 hw => ?_))
  refine z_if_eq C (tgt := 32) dX9_fare_5 (by decide) (fun h => ?_) (fun h => ?_)
  · replace hw := hw.1 h
    refine z_aload_n C dX9_fare_32 rfl 0 rfl ?_
    refine z_iconst C 1 dX9_fare_33 (by decide) ?_
    refine z_callV C (by decide) M_X9_is Mv_X9_is kw_m_X9_120 ob_X9 (t_X9_is hw) rfl rfl (Nat.le_of_ble_eq_true rfl) dX9_fare_34 (z_kb (fun r3 s4 hr3 hw => ?_))
    exact z_zreturn C D dX9_fare_37 hr3 ⟨_, rfl, hr3, hw⟩
  · replace hw := hw.2 h
    refine z_aload_n C dX9_fare_8 rfl 0 rfl ?_
    refine z_iload_n C dX9_fare_9 rfl 2 rfl ?_
    refine z_callV C (by decide) M_X9_isTown Mv_X9_isTown kw_m_X9_146 ob_X9 (t_X9_isTown hw) rfl rfl (Nat.le_of_ble_eq_true rfl) dX9_fare_10 (z_kb (fun r5 s6 hr5 hw => ?_))
    refine z_if_eq C (tgt := 32) dX9_fare_13 (by decide) (fun h => ?_) (fun h => ?_)
    · replace hw := hw.1 h
      refine z_aload_n C dX9_fare_32 rfl 0 rfl ?_
      refine z_iconst C 1 dX9_fare_33 (by decide) ?_
      refine z_callV C (by decide) M_X9_is Mv_X9_is kw_m_X9_120 ob_X9 (t_X9_is hw) rfl rfl (Nat.le_of_ble_eq_true rfl) dX9_fare_34 (z_kb (fun r7 s8 hr7 hw => ?_))
      exact z_zreturn C D dX9_fare_37 hr7 ⟨_, rfl, hr7, hw⟩
    · replace hw := hw.2 h
      refine z_iload_n C dX9_fare_16 rfl 1 rfl ?_
      refine z_iload_n C dX9_fare_17 rfl 2 rfl ?_
      refine z_icmp_eq C (tgt := 32) dX9_fare_18 (by decide) (fun h => ?_) (fun h => ?_)
      · replace hw := hw.1 h
        refine z_aload_n C dX9_fare_32 rfl 0 rfl ?_
        refine z_iconst C 1 dX9_fare_33 (by decide) ?_
        refine z_callV C (by decide) M_X9_is Mv_X9_is kw_m_X9_120 ob_X9 (t_X9_is hw) rfl rfl (Nat.le_of_ble_eq_true rfl) dX9_fare_34 (z_kb (fun r9 s10 hr9 hw => ?_))
        exact z_zreturn C D dX9_fare_37 hr9 ⟨_, rfl, hr9, hw⟩
      · replace hw := hw.2 h
        refine z_iload_n C dX9_fare_21 rfl 3 rfl ?_
        refine z_if_lt C (tgt := 32) dX9_fare_22 (by decide) (fun h => ?_) (fun h => ?_)
        · replace hw := hw.1 h
          refine z_aload_n C dX9_fare_32 rfl 0 rfl ?_
          refine z_iconst C 1 dX9_fare_33 (by decide) ?_
          refine z_callV C (by decide) M_X9_is Mv_X9_is kw_m_X9_120 ob_X9 (t_X9_is hw) rfl rfl (Nat.le_of_ble_eq_true rfl) dX9_fare_34 (z_kb (fun r11 s12 hr11 hw => ?_))
          exact z_zreturn C D dX9_fare_37 hr11 ⟨_, rfl, hr11, hw⟩
        · replace hw := hw.2 h
          refine z_iload_n C dX9_fare_25 rfl 3 rfl ?_
          refine z_sipush C 1000 dX9_fare_26 (by decide) ?_
          refine z_icmp_le C (tgt := 38) dX9_fare_29 (by decide) (fun h => ?_) (fun h => ?_)
          · replace hw := hw.1 h
            refine z_aload_n C dX9_fare_38 rfl 0 rfl ?_
            refine f_X9_30 C dX9_fare_39 ?_
            refine z_iload_n C dX9_fare_42 rfl 1 rfl ?_
            refine z_iload_n C dX9_fare_43 rfl 2 rfl ?_
            refine z_callS C (by decide) M_X9_at Ms_X9_at kw_m_X9_143 (t_X9_at hw) rfl rfl (Nat.le_of_ble_eq_true rfl) dX9_fare_44 (z_ki (fun r13 s14 hw => ?_))
            refine z_iload_n C dX9_fare_47 rfl 3 rfl ?_
            refine z_iast C za_60 (by decide) (Int32.toNatClampNeg r13) rfl hw.1 dX9_fare_48 (z_nms (fun s15 es15 => ?_))
            replace hw := hw.2
            replace hw := hw s15 es15
            refine z_aload_n C dX9_fare_49 rfl 0 rfl ?_
            refine z_iconst C 0 dX9_fare_50 (by decide) ?_
            refine z_callV C (by decide) M_X9_is Mv_X9_is kw_m_X9_120 ob_X9 (t_X9_is hw) rfl rfl (Nat.le_of_ble_eq_true rfl) dX9_fare_51 (z_kb (fun r16 s17 hr16 hw => ?_))
            exact z_zreturn C D dX9_fare_54 hr16 ⟨_, rfl, hr16, hw⟩
          · replace hw := hw.2 h
            refine z_aload_n C dX9_fare_32 rfl 0 rfl ?_
            refine z_iconst C 1 dX9_fare_33 (by decide) ?_
            refine z_callV C (by decide) M_X9_is Mv_X9_is kw_m_X9_120 ob_X9 (t_X9_is hw) rfl rfl (Nat.le_of_ble_eq_true rfl) dX9_fare_34 (z_kb (fun r18 s19 hr18 hw => ?_))
            exact z_zreturn C D dX9_fare_37 hr18 ⟨_, rfl, hr18, hw⟩
set_option maxHeartbeats 4000000 in
set_option maxRecDepth 100000 in
theorem t_X8_birdFault {l : Launch} {E : zE} {a1 : Int32} {s0 : zS} {Q : Int32 → zS → Prop}  (hw : Wp_X8_birdFault a1 s0 Q) : zT l 3 E yX8_birdFault cX8_birdFault 2 (some .int) [.ref (E.1 0 0), .int a1] s0 (zQi Q) := by
  unfold Wp_X8_birdFault at hw
  refine z_entry rfl (Nat.le_of_ble_eq_true rfl) rfl ?_
  intro X C D hl hE
  subst hl; subst hE
  have C : zC X cX8_birdFault RX8 2 3 := C
  refine z_aload_n C dX8_birdFault_0 rfl 0 rfl ?_
  refine z_iload_n C dX8_birdFault_1 rfl 1 rfl ?_
  refine z_callV C (by decide) M_X8_isTown Mv_X8_isTown kw_m_X8_167 ob_X8 (t_X8_isTown hw) rfl rfl (Nat.le_of_ble_eq_true rfl) dX8_birdFault_2 (z_kb (fun r1 s2 hr1 hw => ?_))
  refine z_if_ne C (tgt := 10) dX8_birdFault_5 (by decide) (fun h => ?_) (fun h => ?_)
  · replace hw := hw.1 h
    refine z_aload_n C dX8_birdFault_10 rfl 0 rfl ?_
    refine f_X8_33 C dX8_birdFault_11 ?_
    refine f_X8_314 C dX8_birdFault_14 ?_
    refine z_bipush C 60 dX8_birdFault_17 (by decide) ?_
    refine z_icmp_ge C (tgt := 26) dX8_birdFault_19 (by decide) (fun h => ?_) (fun h => ?_)
    · replace hw := hw.1 h
      refine z_iconst C 5 dX8_birdFault_26 (by decide) ?_
      exact z_ireturn C D dX8_birdFault_27 ⟨_, rfl, hw⟩
    · replace hw := hw.2 h
      refine z_iconst C 0 dX8_birdFault_22 (by decide) ?_
      refine z_goto C (tgt := 27) dX8_birdFault_23 (by decide) ?_
      exact z_ireturn C D dX8_birdFault_27 ⟨_, rfl, hw⟩
  · replace hw := hw.2 h
    refine z_iconst C 1 dX8_birdFault_8 (by decide) ?_
    exact z_ireturn C D dX8_birdFault_9 ⟨_, rfl, hw⟩
set_option maxHeartbeats 4000000 in
set_option maxRecDepth 100000 in
theorem t_X1_settle {l : Launch} {E : zE} {a1 : Int32} {a2 : Int32} {s0 : zS} {Q : zS → Prop}  (hw : Wp_X1_settle a1 a2 s0 Q) : zT l 1 E yX1_settle cX1_settle 3 none [.ref (E.1 14 0), .int a1, .int a2] s0 (zQv Q) := by
  unfold Wp_X1_settle at hw
  refine z_entry rfl (Nat.le_of_ble_eq_true rfl) rfl ?_
  intro X C D hl hE
  subst hl; subst hE
  have C : zC X cX1_settle RX1 3 1 := C
  refine z_aload_n C dX1_settle_0 rfl 0 rfl ?_
  refine f_X1_22 C dX1_settle_1 ?_
  refine z_iload_n C dX1_settle_4 rfl 1 rfl ?_
  refine z_iconst C 0 dX1_settle_5 (by decide) ?_
  refine z_iast C za_17 (by decide) (Int32.toNatClampNeg a1) rfl hw.1 dX1_settle_6 (z_nms (fun s1 es1 => ?_))
  replace hw := hw.2
  replace hw := hw s1 es1
  refine z_aload_n C dX1_settle_7 rfl 0 rfl ?_
  refine f_X1_19 C dX1_settle_8 ?_
  refine z_iload_n C dX1_settle_11 rfl 1 rfl ?_
  refine z_iload_n C dX1_settle_12 rfl 2 rfl ?_
  refine z_iast C za_16 (by decide) (Int32.toNatClampNeg a1) rfl hw.1 dX1_settle_13 (z_nms (fun s2 es2 => ?_))
  replace hw := hw.2
  replace hw := hw s2 es2
  refine z_aload_n C dX1_settle_14 rfl 0 rfl ?_
  refine f_X1_33 C dX1_settle_15 ?_
  refine z_aload_n C dX1_settle_18 rfl 0 rfl ?_
  refine f_X1_15 C dX1_settle_19 ?_
  refine z_iload_n C dX1_settle_22 rfl 1 rfl ?_
  refine z_iald C za_15 (by decide) (Int32.toNatClampNeg a1) rfl hw.1 dX1_settle_23 ?_
  replace hw := hw.2
  have hb3 := zin_lt hw.1
  refine z_aald C za_20 (by decide) rfl (Int32.toNatClampNeg (zi s2 15 0 (Int32.toNatClampNeg a1))) rfl hw.1 dX1_settle_24 ?_
  replace hw := hw.2
  refine z_iload_n C dX1_settle_25 rfl 2 rfl ?_
  refine z_dup2_11 C dX1_settle_26 rfl rfl ?_
  refine z_iald C za_21 hb3 (Int32.toNatClampNeg a2) rfl hw.1 dX1_settle_27 ?_
  replace hw := hw.2
  refine z_iconst C 1 dX1_settle_28 (by decide) ?_
  refine z_iadd C dX1_settle_29 ?_
  refine z_iast C za_21 hb3 (Int32.toNatClampNeg a2) rfl hw.1 dX1_settle_30 (z_nms (fun s4 es4 => ?_))
  replace hw := hw.2
  replace hw := hw s4 es4
  exact z_vreturn C D dX1_settle_31 ⟨rfl, hw⟩
set_option maxHeartbeats 4000000 in
set_option maxRecDepth 100000 in
theorem t_X1_add {l : Launch} {E : zE} {a1 : Int32} {s0 : zS} {Q : Int32 → zS → Prop}  (hw : Wp_X1_add a1 s0 Q) : zT l 2 E yX1_add cX1_add 3 (some .int) [.ref (E.1 14 0), .int a1] s0 (zQi Q) := by
  unfold Wp_X1_add at hw
  refine z_entry rfl (Nat.le_of_ble_eq_true rfl) rfl ?_
  intro X C D hl hE
  subst hl; subst hE
  have C : zC X cX1_add RX1 3 2 := C
  refine z_aload_n C dX1_add_0 rfl 0 rfl ?_
  refine f_X1_9 C dX1_add_1 ?_
  refine z_nmi (fun x1 ex1 => ?_)
  replace hw := hw x1 ex1
  refine z_istore_n C [(2, .int x1), (0, .ref ((zXE X).1 14 0)), (1, .int a1)] dX1_add_4 rfl (by decide) rfl ?_
  refine z_aload_n C dX1_add_5 rfl 1 rfl ?_
  refine z_dup C dX1_add_6 rfl ?_
  refine f_X1_9 C dX1_add_7 ?_
  refine z_iconst C 1 dX1_add_10 (by decide) ?_
  refine z_iadd C dX1_add_11 ?_
  refine p_X1_9 C dX1_add_12 (z_nms (fun s2 es2 => ?_))
  replace hw := hw s2 es2
  refine z_aload_n C dX1_add_15 rfl 1 rfl ?_
  refine f_X1_15 C dX1_add_16 ?_
  refine z_iload_n C dX1_add_19 rfl 0 rfl ?_
  refine z_iload_n C dX1_add_20 rfl 2 rfl ?_
  refine z_iast C za_15 (by decide) (Int32.toNatClampNeg x1) rfl hw.1 dX1_add_21 (z_nms (fun s3 es3 => ?_))
  replace hw := hw.2
  replace hw := hw s3 es3
  refine z_aload_n C dX1_add_22 rfl 1 rfl ?_
  refine f_X1_28 C dX1_add_23 ?_
  refine z_iload_n C dX1_add_26 rfl 0 rfl ?_
  refine z_iconst C (-1) dX1_add_27 (by decide) ?_
  refine z_iast C za_19 (by decide) (Int32.toNatClampNeg x1) rfl hw.1 dX1_add_28 (z_nms (fun s4 es4 => ?_))
  replace hw := hw.2
  replace hw := hw s4 es4
  refine z_aload_n C dX1_add_29 rfl 1 rfl ?_
  refine z_iload_n C dX1_add_30 rfl 0 rfl ?_
  refine z_iload_n C dX1_add_31 rfl 2 rfl ?_
  refine z_callV C (by decide) M_X1_settle Mv_X1_settle kw_m_X1_36 ob_X1 (t_X1_settle hw) rfl rfl (Nat.le_of_ble_eq_true rfl) dX1_add_32 (z_kv (fun s6 hw => ?_))
  refine z_iload_n C dX1_add_35 rfl 0 rfl ?_
  exact z_ireturn C D dX1_add_36 ⟨_, rfl, hw⟩
set_option maxHeartbeats 4000000 in
set_option maxRecDepth 100000 in
theorem t_X8_bird {l : Launch} {E : zE} {a1 : Int32} {s0 : zS} {Q : Int32 → zS → Prop}  (hw : Wp_X8_bird a1 s0 Q) : zT l 4 E yX8_bird cX8_bird 2 (some .int) [.ref (E.1 0 0), .int a1] s0 (zQi Q) := by
  unfold Wp_X8_bird at hw
  refine z_entry rfl (Nat.le_of_ble_eq_true rfl) rfl ?_
  intro X C D hl hE
  subst hl; subst hE
  have C : zC X cX8_bird RX8 2 4 := C
  refine z_aload_n C dX8_bird_0 rfl 0 rfl ?_
  refine z_aload_n C dX8_bird_1 rfl 0 rfl ?_
  refine z_iload_n C dX8_bird_2 rfl 1 rfl ?_
  refine z_callV C (by decide) M_X8_birdFault Mv_X8_birdFault kw_m_X8_144 ob_X8 (t_X8_birdFault hw) rfl rfl (Nat.le_of_ble_eq_true rfl) dX8_bird_3 (z_ki (fun r1 s2 hw => ?_))
  refine p_X8_67 C dX8_bird_6 (z_nms (fun s3 es3 => ?_))
  replace hw := hw s3 es3
  refine z_aload_n C dX8_bird_9 rfl 0 rfl ?_
  refine f_X8_67 C dX8_bird_10 ?_
  refine z_if_eq C (tgt := 18) dX8_bird_13 (by decide) (fun h => ?_) (fun h => ?_)
  · replace hw := hw.1 h
    refine z_aload_n C dX8_bird_18 rfl 0 rfl ?_
    refine f_X8_33 C dX8_bird_19 ?_
    refine z_iload_n C dX8_bird_22 rfl 1 rfl ?_
    refine z_callV C (by decide) M_X1_add Mv_X1_add kw_m_X8_148 ob_X1 (t_X1_add hw) rfl rfl (Nat.le_of_ble_eq_true rfl) dX8_bird_23 (z_ki (fun r4 s5 hw => ?_))
    exact z_ireturn C D dX8_bird_26 ⟨_, rfl, hw⟩
  · replace hw := hw.2 h
    refine z_iconst C (-1) dX8_bird_16 (by decide) ?_
    exact z_ireturn C D dX8_bird_17 ⟨_, rfl, hw⟩
set_option maxHeartbeats 4000000 in
set_option maxRecDepth 100000 in
theorem t_X9_bird {l : Launch} {E : zE} {a1 : Int32} {s0 : zS} {Q : Int32 → zS → Prop}  (hw : Wp_X9_bird a1 s0 Q) : zT l 2 E yX9_bird cX9_bird 2 (some .int) [.ref (E.1 54 0), .int a1] s0 (zQi Q) := by
  unfold Wp_X9_bird at hw
  refine z_entry rfl (Nat.le_of_ble_eq_true rfl) rfl ?_
  intro X C D hl hE
  subst hl; subst hE
  have C : zC X cX9_bird RX9 2 2 := C
  refine z_aload_n C dX9_bird_0 rfl 0 rfl ?_
  refine z_iload_n C dX9_bird_1 rfl 1 rfl ?_
  refine z_callV C (by decide) M_X9_isTown Mv_X9_isTown kw_m_X9_146 ob_X9 (t_X9_isTown hw) rfl rfl (Nat.le_of_ble_eq_true rfl) dX9_bird_2 (z_kb (fun r1 s2 hr1 hw => ?_))
  refine z_if_ne C (tgt := 14) dX9_bird_5 (by decide) (fun h => ?_) (fun h => ?_)
  · replace hw := hw.1 h
    refine z_aload_n C dX9_bird_14 rfl 0 rfl ?_
    refine f_X9_136 C dX9_bird_15 ?_
    refine z_bipush C 60 dX9_bird_18 (by decide) ?_
    refine z_icmp_ne C (tgt := 29) dX9_bird_20 (by decide) (fun h => ?_) (fun h => ?_)
    · replace hw := hw.1 h
      refine z_aload_n C dX9_bird_29 rfl 0 rfl ?_
      refine f_X9_39 C dX9_bird_30 ?_
      refine z_aload_n C dX9_bird_33 rfl 0 rfl ?_
      refine f_X9_136 C dX9_bird_34 ?_
      refine z_iload_n C dX9_bird_37 rfl 1 rfl ?_
      refine z_iast C za_63 (by decide) (Int32.toNatClampNeg (zi s2 54 0 7)) rfl hw.1 dX9_bird_38 (z_nms (fun s3 es3 => ?_))
      replace hw := hw.2
      replace hw := hw s3 es3
      refine z_aload_n C dX9_bird_39 rfl 0 rfl ?_
      refine f_X9_42 C dX9_bird_40 ?_
      refine z_aload_n C dX9_bird_43 rfl 0 rfl ?_
      refine f_X9_136 C dX9_bird_44 ?_
      refine z_iload_n C dX9_bird_47 rfl 1 rfl ?_
      refine z_iast C za_64 (by decide) (Int32.toNatClampNeg (zi s3 54 0 7)) rfl hw.1 dX9_bird_48 (z_nms (fun s4 es4 => ?_))
      replace hw := hw.2
      replace hw := hw s4 es4
      refine z_aload_n C dX9_bird_49 rfl 0 rfl ?_
      refine f_X9_45 C dX9_bird_50 ?_
      refine z_aload_n C dX9_bird_53 rfl 0 rfl ?_
      refine f_X9_136 C dX9_bird_54 ?_
      refine z_iconst C 0 dX9_bird_57 (by decide) ?_
      refine z_iast C za_65 (by decide) (Int32.toNatClampNeg (zi s4 54 0 7)) rfl hw.1 dX9_bird_58 (z_nms (fun s5 es5 => ?_))
      replace hw := hw.2
      replace hw := hw s5 es5
      refine z_aload_n C dX9_bird_59 rfl 0 rfl ?_
      refine f_X9_48 C dX9_bird_60 ?_
      refine z_aload_n C dX9_bird_63 rfl 0 rfl ?_
      refine f_X9_136 C dX9_bird_64 ?_
      refine z_iconst C 0 dX9_bird_67 (by decide) ?_
      refine z_iast C za_66 (by decide) (Int32.toNatClampNeg (zi s5 54 0 7)) rfl hw.1 dX9_bird_68 (z_nms (fun s6 es6 => ?_))
      replace hw := hw.2
      replace hw := hw s6 es6
      refine z_aload_n C dX9_bird_69 rfl 0 rfl ?_
      refine f_X9_51 C dX9_bird_70 ?_
      refine z_aload_n C dX9_bird_73 rfl 0 rfl ?_
      refine f_X9_136 C dX9_bird_74 ?_
      refine z_iconst C (-1) dX9_bird_77 (by decide) ?_
      refine z_iast C za_67 (by decide) (Int32.toNatClampNeg (zi s6 54 0 7)) rfl hw.1 dX9_bird_78 (z_nms (fun s7 es7 => ?_))
      replace hw := hw.2
      replace hw := hw s7 es7
      refine z_aload_n C dX9_bird_79 rfl 0 rfl ?_
      refine z_dup C dX9_bird_80 rfl ?_
      refine f_X9_136 C dX9_bird_81 ?_
      refine z_iconst C 1 dX9_bird_84 (by decide) ?_
      refine z_iadd C dX9_bird_85 ?_
      refine p_X9_136 C dX9_bird_86 (z_nms (fun s8 es8 => ?_))
      replace hw := hw s8 es8
      refine z_aload_n C dX9_bird_89 rfl 0 rfl ?_
      refine z_iconst C 0 dX9_bird_90 (by decide) ?_
      refine p_X9_109 C dX9_bird_91 (z_nms (fun s9 es9 => ?_))
      replace hw := hw s9 es9
      refine z_aload_n C dX9_bird_94 rfl 0 rfl ?_
      refine f_X9_136 C dX9_bird_95 ?_
      refine z_iconst C 1 dX9_bird_98 (by decide) ?_
      refine z_isub C dX9_bird_99 ?_
      exact z_ireturn C D dX9_bird_100 ⟨_, rfl, hw⟩
    · replace hw := hw.2 h
      refine z_aload_n C dX9_bird_23 rfl 0 rfl ?_
      refine z_iconst C 5 dX9_bird_24 (by decide) ?_
      refine z_callV C (by decide) M_X9_refuse Mv_X9_refuse kw_m_X9_139 ob_X9 (t_X9_refuse hw) rfl rfl (Nat.le_of_ble_eq_true rfl) dX9_bird_25 (z_ki (fun r10 s11 hw => ?_))
      exact z_ireturn C D dX9_bird_28 ⟨_, rfl, hw⟩
  · replace hw := hw.2 h
    refine z_aload_n C dX9_bird_8 rfl 0 rfl ?_
    refine z_iconst C 1 dX9_bird_9 (by decide) ?_
    refine z_callV C (by decide) M_X9_refuse Mv_X9_refuse kw_m_X9_139 ob_X9 (t_X9_refuse hw) rfl rfl (Nat.le_of_ble_eq_true rfl) dX9_bird_10 (z_ki (fun r12 s13 hw => ?_))
    exact z_ireturn C D dX9_bird_13 ⟨_, rfl, hw⟩
set_option maxHeartbeats 4000000 in
set_option maxRecDepth 100000 in
theorem t_X8_isBird {l : Launch} {E : zE} {a1 : Int32} {s0 : zS} {Q : Int32 → zS → Prop}  (hw : Wp_X8_isBird a1 s0 Q) : zT l 2 E yX8_isBird cX8_isBird 2 (some .boolean) [.ref (E.1 0 0), .int a1] s0 (zQb Q) := by
  unfold Wp_X8_isBird at hw
  refine z_entry rfl (Nat.le_of_ble_eq_true rfl) rfl ?_
  intro X C D hl hE
  subst hl; subst hE
  have C : zC X cX8_isBird RX8 2 2 := C
  refine z_iload_n C dX8_isBird_0 rfl 1 rfl ?_
  refine z_iconst C 0 dX8_isBird_1 (by decide) ?_
  refine z_aload_n C dX8_isBird_2 rfl 0 rfl ?_
  refine f_X8_33 C dX8_isBird_3 ?_
  refine f_X8_314 C dX8_isBird_6 ?_
  refine z_iconst C 1 dX8_isBird_9 (by decide) ?_
  refine z_isub C dX8_isBird_10 ?_
  refine z_callS C (by decide) M_X8_within Ms_X8_within kw_m_X8_85 (t_X8_within hw) rfl rfl (Nat.le_of_ble_eq_true rfl) dX8_isBird_11 (z_kb (fun r1 s2 hr1 hw => ?_))
  exact z_zreturn C D dX8_isBird_14 hr1 ⟨_, rfl, hr1, hw⟩
set_option maxHeartbeats 4000000 in
set_option maxRecDepth 100000 in
theorem t_X8_carryFault {l : Launch} {E : zE} {a1 : Int32} {a2 : Int32} {s0 : zS} {Q : Int32 → zS → Prop}  (hw : Wp_X8_carryFault a1 a2 s0 Q) : zT l 3 E yX8_carryFault cX8_carryFault 3 (some .int) [.ref (E.1 0 0), .int a1, .int a2] s0 (zQi Q) := by
  unfold Wp_X8_carryFault at hw
  refine z_entry rfl (Nat.le_of_ble_eq_true rfl) rfl ?_
  intro X C D hl hE
  subst hl; subst hE
  have C : zC X cX8_carryFault RX8 3 3 := C
  refine z_aload_n C dX8_carryFault_0 rfl 0 rfl ?_
  refine z_iload_n C dX8_carryFault_1 rfl 1 rfl ?_
  refine z_callV C (by decide) M_X8_isBird Mv_X8_isBird kw_m_X8_161 ob_X8 (t_X8_isBird hw) rfl rfl (Nat.le_of_ble_eq_true rfl) dX8_carryFault_2 (z_kb (fun r1 s2 hr1 hw => ?_))
  refine z_if_eq C (tgt := 16) dX8_carryFault_5 (by decide) (fun h => ?_) (fun h => ?_)
  · replace hw := hw.1 h
    refine z_iconst C 1 dX8_carryFault_16 (by decide) ?_
    exact z_ireturn C D dX8_carryFault_17 ⟨_, rfl, hw⟩
  · replace hw := hw.2 h
    refine z_aload_n C dX8_carryFault_8 rfl 0 rfl ?_
    refine z_iload_n C dX8_carryFault_9 rfl 2 rfl ?_
    refine z_callV C (by decide) M_X8_isTown Mv_X8_isTown kw_m_X8_167 ob_X8 (t_X8_isTown hw) rfl rfl (Nat.le_of_ble_eq_true rfl) dX8_carryFault_10 (z_kb (fun r3 s4 hr3 hw => ?_))
    refine z_if_ne C (tgt := 18) dX8_carryFault_13 (by decide) (fun h => ?_) (fun h => ?_)
    · replace hw := hw.1 h
      refine z_aload_n C dX8_carryFault_18 rfl 0 rfl ?_
      refine f_X8_33 C dX8_carryFault_19 ?_
      refine f_X8_315 C dX8_carryFault_22 ?_
      refine z_iload_n C dX8_carryFault_25 rfl 1 rfl ?_
      refine z_iald C za_17 (by decide) (Int32.toNatClampNeg a1) rfl hw.1 dX8_carryFault_26 ?_
      replace hw := hw.2
      refine z_if_ne C (tgt := 34) dX8_carryFault_27 (by decide) (fun h => ?_) (fun h => ?_)
      · replace hw := hw.1 h
        refine z_bipush C 7 dX8_carryFault_34 (by decide) ?_
        exact z_ireturn C D dX8_carryFault_36 ⟨_, rfl, hw⟩
      · replace hw := hw.2 h
        refine z_iconst C 0 dX8_carryFault_30 (by decide) ?_
        refine z_goto C (tgt := 36) dX8_carryFault_31 (by decide) ?_
        exact z_ireturn C D dX8_carryFault_36 ⟨_, rfl, hw⟩
    · replace hw := hw.2 h
      refine z_iconst C 1 dX8_carryFault_16 (by decide) ?_
      exact z_ireturn C D dX8_carryFault_17 ⟨_, rfl, hw⟩
set_option maxHeartbeats 4000000 in
set_option maxRecDepth 100000 in
theorem t_X1_leave {l : Launch} {E : zE} {a1 : Int32} {s0 : zS} {Q : zS → Prop}  (hw : Wp_X1_leave a1 s0 Q) : zT l 1 E yX1_leave cX1_leave 2 none [.ref (E.1 14 0), .int a1] s0 (zQv Q) := by
  unfold Wp_X1_leave at hw
  refine z_entry rfl (Nat.le_of_ble_eq_true rfl) rfl ?_
  intro X C D hl hE
  subst hl; subst hE
  have C : zC X cX1_leave RX1 2 1 := C
  refine z_aload_n C dX1_leave_0 rfl 0 rfl ?_
  refine f_X1_33 C dX1_leave_1 ?_
  refine z_aload_n C dX1_leave_4 rfl 0 rfl ?_
  refine f_X1_15 C dX1_leave_5 ?_
  refine z_iload_n C dX1_leave_8 rfl 1 rfl ?_
  refine z_iald C za_15 (by decide) (Int32.toNatClampNeg a1) rfl hw.1 dX1_leave_9 ?_
  replace hw := hw.2
  have hb1 := zin_lt hw.1
  refine z_aald C za_20 (by decide) rfl (Int32.toNatClampNeg (zi s0 15 0 (Int32.toNatClampNeg a1))) rfl hw.1 dX1_leave_10 ?_
  replace hw := hw.2
  refine z_aload_n C dX1_leave_11 rfl 0 rfl ?_
  refine f_X1_19 C dX1_leave_12 ?_
  refine z_iload_n C dX1_leave_15 rfl 1 rfl ?_
  refine z_iald C za_16 (by decide) (Int32.toNatClampNeg a1) rfl hw.1 dX1_leave_16 ?_
  replace hw := hw.2
  refine z_dup2_11 C dX1_leave_17 rfl rfl ?_
  refine z_iald C za_21 hb1 (Int32.toNatClampNeg (zi s0 16 0 (Int32.toNatClampNeg a1))) rfl hw.1 dX1_leave_18 ?_
  replace hw := hw.2
  refine z_iconst C 1 dX1_leave_19 (by decide) ?_
  refine z_isub C dX1_leave_20 ?_
  refine z_iast C za_21 hb1 (Int32.toNatClampNeg (zi s0 16 0 (Int32.toNatClampNeg a1))) rfl hw.1 dX1_leave_21 (z_nms (fun s2 es2 => ?_))
  replace hw := hw.2
  replace hw := hw s2 es2
  refine z_aload_n C dX1_leave_22 rfl 0 rfl ?_
  refine f_X1_19 C dX1_leave_23 ?_
  refine z_iload_n C dX1_leave_26 rfl 1 rfl ?_
  refine z_iconst C (-1) dX1_leave_27 (by decide) ?_
  refine z_iast C za_16 (by decide) (Int32.toNatClampNeg a1) rfl hw.1 dX1_leave_28 (z_nms (fun s3 es3 => ?_))
  replace hw := hw.2
  replace hw := hw s3 es3
  exact z_vreturn C D dX1_leave_29 ⟨rfl, hw⟩
set_option maxHeartbeats 4000000 in
set_option maxRecDepth 100000 in
theorem t_X8_carry {l : Launch} {E : zE} {a1 : Int32} {a2 : Int32} {s0 : zS} {Q : Int32 → zS → Prop}  (hw : Wp_X8_carry a1 a2 s0 Q) : zT l 4 E yX8_carry cX8_carry 3 (some .boolean) [.ref (E.1 0 0), .int a1, .int a2] s0 (zQb Q) := by
  unfold Wp_X8_carry at hw
  refine z_entry rfl (Nat.le_of_ble_eq_true rfl) rfl ?_
  intro X C D hl hE
  subst hl; subst hE
  have C : zC X cX8_carry RX8 3 4 := C
  refine z_aload_n C dX8_carry_0 rfl 0 rfl ?_
  refine z_aload_n C dX8_carry_1 rfl 0 rfl ?_
  refine z_iload_n C dX8_carry_2 rfl 1 rfl ?_
  refine z_iload_n C dX8_carry_3 rfl 2 rfl ?_
  refine z_callV C (by decide) M_X8_carryFault Mv_X8_carryFault kw_m_X8_150 ob_X8 (t_X8_carryFault hw) rfl rfl (Nat.le_of_ble_eq_true rfl) dX8_carry_4 (z_ki (fun r1 s2 hw => ?_))
  refine p_X8_67 C dX8_carry_7 (z_nms (fun s3 es3 => ?_))
  replace hw := hw s3 es3
  refine z_aload_n C dX8_carry_10 rfl 0 rfl ?_
  refine f_X8_67 C dX8_carry_11 ?_
  refine z_if_eq C (tgt := 19) dX8_carry_14 (by decide) (fun h => ?_) (fun h => ?_)
  · replace hw := hw.1 h
    refine z_aload_n C dX8_carry_19 rfl 0 rfl ?_
    refine f_X8_33 C dX8_carry_20 ?_
    refine z_iload_n C dX8_carry_23 rfl 1 rfl ?_
    refine z_callV C (by decide) M_X1_leave Mv_X1_leave kw_m_X8_153 ob_X1 (t_X1_leave hw) rfl rfl (Nat.le_of_ble_eq_true rfl) dX8_carry_24 (z_kv (fun s5 hw => ?_))
    refine z_aload_n C dX8_carry_27 rfl 0 rfl ?_
    refine f_X8_33 C dX8_carry_28 ?_
    refine z_iload_n C dX8_carry_31 rfl 1 rfl ?_
    refine z_iload_n C dX8_carry_32 rfl 2 rfl ?_
    refine z_callV C (by decide) M_X1_settle Mv_X1_settle kw_m_X8_157 ob_X1 (t_X1_settle hw) rfl rfl (Nat.le_of_ble_eq_true rfl) dX8_carry_33 (z_kv (fun s7 hw => ?_))
    refine z_iconst C 1 dX8_carry_36 (by decide) ?_
    exact z_zreturn C D dX8_carry_37 (Or.inr rfl) ⟨_, rfl, (Or.inr rfl), hw⟩
  · replace hw := hw.2 h
    refine z_iconst C 0 dX8_carry_17 (by decide) ?_
    exact z_zreturn C D dX8_carry_18 (Or.inl rfl) ⟨_, rfl, (Or.inl rfl), hw⟩
set_option maxHeartbeats 4000000 in
set_option maxRecDepth 100000 in
theorem t_X9_isBird {l : Launch} {E : zE} {a1 : Int32} {s0 : zS} {Q : Int32 → zS → Prop}  (hw : Wp_X9_isBird a1 s0 Q) : zT l 1 E yX9_isBird cX9_isBird 2 (some .boolean) [.ref (E.1 54 0), .int a1] s0 (zQb Q) := by
  unfold Wp_X9_isBird at hw
  refine z_entry rfl (Nat.le_of_ble_eq_true rfl) rfl ?_
  intro X C D hl hE
  subst hl; subst hE
  have C : zC X cX9_isBird RX9 2 1 := C
  refine z_iload_n C dX9_isBird_0 rfl 1 rfl ?_
  refine z_if_lt C (tgt := 16) dX9_isBird_1 (by decide) (fun h => ?_) (fun h => ?_)
  · replace hw := hw.1 h
    refine z_iconst C 0 dX9_isBird_16 (by decide) ?_
    exact z_zreturn C D dX9_isBird_17 (Or.inl rfl) ⟨_, rfl, (Or.inl rfl), hw⟩
  · replace hw := hw.2 h
    refine z_iload_n C dX9_isBird_4 rfl 1 rfl ?_
    refine z_aload_n C dX9_isBird_5 rfl 0 rfl ?_
    refine f_X9_136 C dX9_isBird_6 ?_
    refine z_icmp_ge C (tgt := 16) dX9_isBird_9 (by decide) (fun h => ?_) (fun h => ?_)
    · replace hw := hw.1 h
      refine z_iconst C 0 dX9_isBird_16 (by decide) ?_
      exact z_zreturn C D dX9_isBird_17 (Or.inl rfl) ⟨_, rfl, (Or.inl rfl), hw⟩
    · replace hw := hw.2 h
      refine z_iconst C 1 dX9_isBird_12 (by decide) ?_
      refine z_goto C (tgt := 17) dX9_isBird_13 (by decide) ?_
      exact z_zreturn C D dX9_isBird_17 (Or.inr rfl) ⟨_, rfl, (Or.inr rfl), hw⟩
set_option maxHeartbeats 4000000 in
set_option maxRecDepth 100000 in
theorem t_X9_carry {l : Launch} {E : zE} {a1 : Int32} {a2 : Int32} {s0 : zS} {Q : Int32 → zS → Prop}  (hw : Wp_X9_carry a1 a2 s0 Q) : zT l 2 E yX9_carry cX9_carry 3 (some .boolean) [.ref (E.1 54 0), .int a1, .int a2] s0 (zQb Q) := by
  unfold Wp_X9_carry at hw
  refine z_entry rfl (Nat.le_of_ble_eq_true rfl) rfl ?_
  intro X C D hl hE
  subst hl; subst hE
  have C : zC X cX9_carry RX9 3 2 := C
  refine z_aload_n C dX9_carry_0 rfl 0 rfl ?_
  refine z_iload_n C dX9_carry_1 rfl 1 rfl ?_
  refine z_callV C (by decide) M_X9_isBird Mv_X9_isBird kw_m_X9_149 ob_X9 (t_X9_isBird hw) rfl rfl (Nat.le_of_ble_eq_true rfl) dX9_carry_2 (z_kb (fun r1 s2 hr1 hw => ?_))
  refine z_if_eq C (tgt := 16) dX9_carry_5 (by decide) (fun h => ?_) (fun h => ?_)
  · replace hw := hw.1 h
    refine z_aload_n C dX9_carry_16 rfl 0 rfl ?_
    refine z_iconst C 1 dX9_carry_17 (by decide) ?_
    refine z_callV C (by decide) M_X9_is Mv_X9_is kw_m_X9_120 ob_X9 (t_X9_is hw) rfl rfl (Nat.le_of_ble_eq_true rfl) dX9_carry_18 (z_kb (fun r3 s4 hr3 hw => ?_))
    exact z_zreturn C D dX9_carry_21 hr3 ⟨_, rfl, hr3, hw⟩
  · replace hw := hw.2 h
    refine z_aload_n C dX9_carry_8 rfl 0 rfl ?_
    refine z_iload_n C dX9_carry_9 rfl 2 rfl ?_
    refine z_callV C (by decide) M_X9_isTown Mv_X9_isTown kw_m_X9_146 ob_X9 (t_X9_isTown hw) rfl rfl (Nat.le_of_ble_eq_true rfl) dX9_carry_10 (z_kb (fun r5 s6 hr5 hw => ?_))
    refine z_if_ne C (tgt := 22) dX9_carry_13 (by decide) (fun h => ?_) (fun h => ?_)
    · replace hw := hw.1 h
      refine z_aload_n C dX9_carry_22 rfl 0 rfl ?_
      refine f_X9_45 C dX9_carry_23 ?_
      refine z_iload_n C dX9_carry_26 rfl 1 rfl ?_
      refine z_iald C za_65 (by decide) (Int32.toNatClampNeg a1) rfl hw.1 dX9_carry_27 ?_
      replace hw := hw.2
      refine z_if_eq C (tgt := 38) dX9_carry_28 (by decide) (fun h => ?_) (fun h => ?_)
      · replace hw := hw.1 h
        refine z_aload_n C dX9_carry_38 rfl 0 rfl ?_
        refine f_X9_42 C dX9_carry_39 ?_
        refine z_iload_n C dX9_carry_42 rfl 1 rfl ?_
        refine z_iload_n C dX9_carry_43 rfl 2 rfl ?_
        refine z_iast C za_64 (by decide) (Int32.toNatClampNeg a1) rfl hw.1 dX9_carry_44 (z_nms (fun s7 es7 => ?_))
        replace hw := hw.2
        replace hw := hw s7 es7
        refine z_aload_n C dX9_carry_45 rfl 0 rfl ?_
        refine z_iconst C 0 dX9_carry_46 (by decide) ?_
        refine z_callV C (by decide) M_X9_is Mv_X9_is kw_m_X9_120 ob_X9 (t_X9_is hw) rfl rfl (Nat.le_of_ble_eq_true rfl) dX9_carry_47 (z_kb (fun r8 s9 hr8 hw => ?_))
        exact z_zreturn C D dX9_carry_50 hr8 ⟨_, rfl, hr8, hw⟩
      · replace hw := hw.2 h
        refine z_aload_n C dX9_carry_31 rfl 0 rfl ?_
        refine z_bipush C 7 dX9_carry_32 (by decide) ?_
        refine z_callV C (by decide) M_X9_is Mv_X9_is kw_m_X9_120 ob_X9 (t_X9_is hw) rfl rfl (Nat.le_of_ble_eq_true rfl) dX9_carry_34 (z_kb (fun r10 s11 hr10 hw => ?_))
        exact z_zreturn C D dX9_carry_37 hr10 ⟨_, rfl, hr10, hw⟩
    · replace hw := hw.2 h
      refine z_aload_n C dX9_carry_16 rfl 0 rfl ?_
      refine z_iconst C 1 dX9_carry_17 (by decide) ?_
      refine z_callV C (by decide) M_X9_is Mv_X9_is kw_m_X9_120 ob_X9 (t_X9_is hw) rfl rfl (Nat.le_of_ble_eq_true rfl) dX9_carry_18 (z_kb (fun r12 s13 hr12 hw => ?_))
      exact z_zreturn C D dX9_carry_21 hr12 ⟨_, rfl, hr12, hw⟩
set_option maxHeartbeats 4000000 in
set_option maxRecDepth 100000 in
theorem t_X1_answer {l : Launch} {E : zE} {a1 : Int32} {a2 : Int32} {s0 : zS} {Q : Int32 → zS → Prop}  (hw : Wp_X1_answer a1 a2 s0 Q) : zT l 1 E yX1_answer cX1_answer 3 (some .int) [.ref (E.1 14 0), .int a1, .int a2] s0 (zQi Q) := by
  unfold Wp_X1_answer at hw
  refine z_entry rfl (Nat.le_of_ble_eq_true rfl) rfl ?_
  intro X C D hl hE
  subst hl; subst hE
  have C : zC X cX1_answer RX1 3 1 := C
  refine z_iload_n C dX1_answer_0 rfl 2 rfl ?_
  by_cases h0 : a2 = 0
  · replace hw := hw.1 h0
    refine z_tabIn C (tgt := 32) dX1_answer_1 (by rw [h0]; decide) (by rw [h0]; decide) (by rw [h0]; rfl) (by decide) ?_
    refine z_aload_n C dX1_answer_32 rfl 0 rfl ?_
    refine f_X1_15 C dX1_answer_33 ?_
    refine z_iload_n C dX1_answer_36 rfl 1 rfl ?_
    refine z_iald C za_15 (by decide) (Int32.toNatClampNeg a1) rfl hw.1 dX1_answer_37 ?_
    replace hw := hw.2
    exact z_ireturn C D dX1_answer_38 ⟨_, rfl, hw⟩
  by_cases h1 : a2 = 1
  · replace hw := hw.2.1 h1
    refine z_tabIn C (tgt := 39) dX1_answer_1 (by rw [h1]; decide) (by rw [h1]; decide) (by rw [h1]; rfl) (by decide) ?_
    refine z_aload_n C dX1_answer_39 rfl 0 rfl ?_
    refine f_X1_19 C dX1_answer_40 ?_
    refine z_iload_n C dX1_answer_43 rfl 1 rfl ?_
    refine z_iald C za_16 (by decide) (Int32.toNatClampNeg a1) rfl hw.1 dX1_answer_44 ?_
    replace hw := hw.2
    exact z_ireturn C D dX1_answer_45 ⟨_, rfl, hw⟩
  by_cases h2 : a2 = 2
  · replace hw := hw.2.2.1 h2
    refine z_tabIn C (tgt := 46) dX1_answer_1 (by rw [h2]; decide) (by rw [h2]; decide) (by rw [h2]; rfl) (by decide) ?_
    refine z_aload_n C dX1_answer_46 rfl 0 rfl ?_
    refine f_X1_22 C dX1_answer_47 ?_
    refine z_iload_n C dX1_answer_50 rfl 1 rfl ?_
    refine z_iald C za_17 (by decide) (Int32.toNatClampNeg a1) rfl hw.1 dX1_answer_51 ?_
    replace hw := hw.2
    exact z_ireturn C D dX1_answer_52 ⟨_, rfl, hw⟩
  by_cases h3 : a2 = 3
  · replace hw := hw.2.2.2.1 h3
    refine z_tabIn C (tgt := 53) dX1_answer_1 (by rw [h3]; decide) (by rw [h3]; decide) (by rw [h3]; rfl) (by decide) ?_
    refine z_aload_n C dX1_answer_53 rfl 0 rfl ?_
    refine f_X1_25 C dX1_answer_54 ?_
    refine z_iload_n C dX1_answer_57 rfl 1 rfl ?_
    refine z_iald C za_18 (by decide) (Int32.toNatClampNeg a1) rfl hw.1 dX1_answer_58 ?_
    replace hw := hw.2
    exact z_ireturn C D dX1_answer_59 ⟨_, rfl, hw⟩
  replace hw := hw.2.2.2.2 ⟨h0, h1, h2, h3⟩
  refine z_tabOut C (tgt := 60) dX1_answer_1 (z_tab_0_4 ⟨h0, h1, h2, h3⟩) (by decide) ?_
  refine z_aload_n C dX1_answer_60 rfl 0 rfl ?_
  refine f_X1_28 C dX1_answer_61 ?_
  refine z_iload_n C dX1_answer_64 rfl 1 rfl ?_
  refine z_iald C za_19 (by decide) (Int32.toNatClampNeg a1) rfl hw.1 dX1_answer_65 ?_
  replace hw := hw.2
  exact z_ireturn C D dX1_answer_66 ⟨_, rfl, hw⟩
set_option maxHeartbeats 4000000 in
set_option maxRecDepth 100000 in
theorem t_X8_told {l : Launch} {E : zE} {a1 : Int32} {a2 : Int32} {s0 : zS} {Q : Int32 → zS → Prop}  (hw : Wp_X8_told a1 a2 s0 Q) : zT l 3 E yX8_told cX8_told 3 (some .int) [.ref (E.1 0 0), .int a1, .int a2] s0 (zQi Q) := by
  unfold Wp_X8_told at hw
  refine z_entry rfl (Nat.le_of_ble_eq_true rfl) rfl ?_
  intro X C D hl hE
  subst hl; subst hE
  have C : zC X cX8_told RX8 3 3 := C
  refine z_aload_n C dX8_told_0 rfl 0 rfl ?_
  refine z_aload_n C dX8_told_1 rfl 0 rfl ?_
  refine z_iload_n C dX8_told_2 rfl 1 rfl ?_
  refine z_callV C (by decide) M_X8_isBird Mv_X8_isBird kw_m_X8_161 ob_X8 (t_X8_isBird hw) rfl rfl (Nat.le_of_ble_eq_true rfl) dX8_told_3 (z_kb (fun r1 s2 hr1 hw => ?_))
  refine z_if_eq C (tgt := 22) dX8_told_6 (by decide) (fun h => ?_) (fun h => ?_)
  · replace hw := hw.1 h
    refine z_iconst C 0 dX8_told_22 (by decide) ?_
    refine z_callS C (by decide) M_X8_wrongUnless Ms_X8_wrongUnless kw_m_X8_89 (t_X8_wrongUnless hw) rfl rfl (Nat.le_of_ble_eq_true rfl) dX8_told_23 (z_ki (fun r3 s4 hw => ?_))
    refine p_X8_67 C dX8_told_26 (z_nms (fun s5 es5 => ?_))
    replace hw := hw s5 es5
    refine z_aload_n C dX8_told_29 rfl 0 rfl ?_
    refine f_X8_67 C dX8_told_30 ?_
    refine z_if_eq C (tgt := 38) dX8_told_33 (by decide) (fun h => ?_) (fun h => ?_)
    · replace hw := hw.1 h
      refine z_aload_n C dX8_told_38 rfl 0 rfl ?_
      refine f_X8_33 C dX8_told_39 ?_
      refine z_iload_n C dX8_told_42 rfl 1 rfl ?_
      refine z_iload_n C dX8_told_43 rfl 2 rfl ?_
      refine z_callV C (by decide) M_X1_answer Mv_X1_answer kw_m_X8_164 ob_X1 (t_X1_answer hw) rfl rfl (Nat.le_of_ble_eq_true rfl) dX8_told_44 (z_ki (fun r6 s7 hw => ?_))
      exact z_ireturn C D dX8_told_47 ⟨_, rfl, hw⟩
    · replace hw := hw.2 h
      refine z_iconst C (-1) dX8_told_36 (by decide) ?_
      exact z_ireturn C D dX8_told_37 ⟨_, rfl, hw⟩
  · replace hw := hw.2 h
    refine z_iload_n C dX8_told_9 rfl 2 rfl ?_
    refine z_iconst C 0 dX8_told_10 (by decide) ?_
    refine z_iconst C 4 dX8_told_11 (by decide) ?_
    refine z_callS C (by decide) M_X8_within Ms_X8_within kw_m_X8_85 (t_X8_within hw) rfl rfl (Nat.le_of_ble_eq_true rfl) dX8_told_12 (z_kb (fun r8 s9 hr8 hw => ?_))
    refine z_if_eq C (tgt := 22) dX8_told_15 (by decide) (fun h => ?_) (fun h => ?_)
    · replace hw := hw.1 h
      refine z_iconst C 0 dX8_told_22 (by decide) ?_
      refine z_callS C (by decide) M_X8_wrongUnless Ms_X8_wrongUnless kw_m_X8_89 (t_X8_wrongUnless hw) rfl rfl (Nat.le_of_ble_eq_true rfl) dX8_told_23 (z_ki (fun r10 s11 hw => ?_))
      refine p_X8_67 C dX8_told_26 (z_nms (fun s12 es12 => ?_))
      replace hw := hw s12 es12
      refine z_aload_n C dX8_told_29 rfl 0 rfl ?_
      refine f_X8_67 C dX8_told_30 ?_
      refine z_if_eq C (tgt := 38) dX8_told_33 (by decide) (fun h => ?_) (fun h => ?_)
      · replace hw := hw.1 h
        refine z_aload_n C dX8_told_38 rfl 0 rfl ?_
        refine f_X8_33 C dX8_told_39 ?_
        refine z_iload_n C dX8_told_42 rfl 1 rfl ?_
        refine z_iload_n C dX8_told_43 rfl 2 rfl ?_
        refine z_callV C (by decide) M_X1_answer Mv_X1_answer kw_m_X8_164 ob_X1 (t_X1_answer hw) rfl rfl (Nat.le_of_ble_eq_true rfl) dX8_told_44 (z_ki (fun r13 s14 hw => ?_))
        exact z_ireturn C D dX8_told_47 ⟨_, rfl, hw⟩
      · replace hw := hw.2 h
        refine z_iconst C (-1) dX8_told_36 (by decide) ?_
        exact z_ireturn C D dX8_told_37 ⟨_, rfl, hw⟩
    · replace hw := hw.2 h
      refine z_iconst C 1 dX8_told_18 (by decide) ?_
      refine z_goto C (tgt := 23) dX8_told_19 (by decide) ?_
      refine z_callS C (by decide) M_X8_wrongUnless Ms_X8_wrongUnless kw_m_X8_89 (t_X8_wrongUnless hw) rfl rfl (Nat.le_of_ble_eq_true rfl) dX8_told_23 (z_ki (fun r15 s16 hw => ?_))
      refine p_X8_67 C dX8_told_26 (z_nms (fun s17 es17 => ?_))
      replace hw := hw s17 es17
      refine z_aload_n C dX8_told_29 rfl 0 rfl ?_
      refine f_X8_67 C dX8_told_30 ?_
      refine z_if_eq C (tgt := 38) dX8_told_33 (by decide) (fun h => ?_) (fun h => ?_)
      · replace hw := hw.1 h
        refine z_aload_n C dX8_told_38 rfl 0 rfl ?_
        refine f_X8_33 C dX8_told_39 ?_
        refine z_iload_n C dX8_told_42 rfl 1 rfl ?_
        refine z_iload_n C dX8_told_43 rfl 2 rfl ?_
        refine z_callV C (by decide) M_X1_answer Mv_X1_answer kw_m_X8_164 ob_X1 (t_X1_answer hw) rfl rfl (Nat.le_of_ble_eq_true rfl) dX8_told_44 (z_ki (fun r18 s19 hw => ?_))
        exact z_ireturn C D dX8_told_47 ⟨_, rfl, hw⟩
      · replace hw := hw.2 h
        refine z_iconst C (-1) dX8_told_36 (by decide) ?_
        exact z_ireturn C D dX8_told_37 ⟨_, rfl, hw⟩
set_option maxHeartbeats 4000000 in
set_option maxRecDepth 100000 in
theorem t_X9_told {l : Launch} {E : zE} {a1 : Int32} {a2 : Int32} {s0 : zS} {Q : Int32 → zS → Prop}  (hw : Wp_X9_told a1 a2 s0 Q) : zT l 2 E yX9_told cX9_told 3 (some .int) [.ref (E.1 54 0), .int a1, .int a2] s0 (zQi Q) := by
  unfold Wp_X9_told at hw
  refine z_entry rfl (Nat.le_of_ble_eq_true rfl) rfl ?_
  intro X C D hl hE
  subst hl; subst hE
  have C : zC X cX9_told RX9 3 2 := C
  refine z_aload_n C dX9_told_0 rfl 0 rfl ?_
  refine z_iload_n C dX9_told_1 rfl 1 rfl ?_
  refine z_callV C (by decide) M_X9_isBird Mv_X9_isBird kw_m_X9_149 ob_X9 (t_X9_isBird hw) rfl rfl (Nat.le_of_ble_eq_true rfl) dX9_told_2 (z_kb (fun r1 s2 hr1 hw => ?_))
  refine z_if_eq C (tgt := 17) dX9_told_5 (by decide) (fun h => ?_) (fun h => ?_)
  · replace hw := hw.1 h
    refine z_aload_n C dX9_told_17 rfl 0 rfl ?_
    refine z_iconst C 1 dX9_told_18 (by decide) ?_
    refine z_callV C (by decide) M_X9_refuse Mv_X9_refuse kw_m_X9_139 ob_X9 (t_X9_refuse hw) rfl rfl (Nat.le_of_ble_eq_true rfl) dX9_told_19 (z_ki (fun r3 s4 hw => ?_))
    exact z_ireturn C D dX9_told_22 ⟨_, rfl, hw⟩
  · replace hw := hw.2 h
    refine z_iload_n C dX9_told_8 rfl 2 rfl ?_
    refine z_if_lt C (tgt := 17) dX9_told_9 (by decide) (fun h => ?_) (fun h => ?_)
    · replace hw := hw.1 h
      refine z_aload_n C dX9_told_17 rfl 0 rfl ?_
      refine z_iconst C 1 dX9_told_18 (by decide) ?_
      refine z_callV C (by decide) M_X9_refuse Mv_X9_refuse kw_m_X9_139 ob_X9 (t_X9_refuse hw) rfl rfl (Nat.le_of_ble_eq_true rfl) dX9_told_19 (z_ki (fun r5 s6 hw => ?_))
      exact z_ireturn C D dX9_told_22 ⟨_, rfl, hw⟩
    · replace hw := hw.2 h
      refine z_iload_n C dX9_told_12 rfl 2 rfl ?_
      refine z_iconst C 4 dX9_told_13 (by decide) ?_
      refine z_icmp_le C (tgt := 23) dX9_told_14 (by decide) (fun h => ?_) (fun h => ?_)
      · replace hw := hw.1 h
        refine z_aload_n C dX9_told_23 rfl 0 rfl ?_
        refine z_iconst C 0 dX9_told_24 (by decide) ?_
        refine p_X9_109 C dX9_told_25 (z_nms (fun s7 es7 => ?_))
        replace hw := hw s7 es7
        refine z_iload_n C dX9_told_28 rfl 2 rfl ?_
        by_cases h0 : a2 = 0
        · replace hw := hw.1 h0
          refine z_tabIn C (tgt := 60) dX9_told_29 (by rw [h0]; decide) (by rw [h0]; decide) (by rw [h0]; rfl) (by decide) ?_
          refine z_aload_n C dX9_told_60 rfl 0 rfl ?_
          refine f_X9_39 C dX9_told_61 ?_
          refine z_iload_n C dX9_told_64 rfl 1 rfl ?_
          refine z_iald C za_63 (by decide) (Int32.toNatClampNeg a1) rfl hw.1 dX9_told_65 ?_
          replace hw := hw.2
          exact z_ireturn C D dX9_told_66 ⟨_, rfl, hw⟩
        by_cases h1 : a2 = 1
        · replace hw := hw.2.1 h1
          refine z_tabIn C (tgt := 67) dX9_told_29 (by rw [h1]; decide) (by rw [h1]; decide) (by rw [h1]; rfl) (by decide) ?_
          refine z_aload_n C dX9_told_67 rfl 0 rfl ?_
          refine f_X9_45 C dX9_told_68 ?_
          refine z_iload_n C dX9_told_71 rfl 1 rfl ?_
          refine z_iald C za_65 (by decide) (Int32.toNatClampNeg a1) rfl hw.1 dX9_told_72 ?_
          replace hw := hw.2
          refine z_if_ne C (tgt := 85) dX9_told_73 (by decide) (fun h => ?_) (fun h => ?_)
          · replace hw := hw.1 h
            refine z_iconst C (-1) dX9_told_85 (by decide) ?_
            exact z_ireturn C D dX9_told_86 ⟨_, rfl, hw⟩
          · replace hw := hw.2 h
            refine z_aload_n C dX9_told_76 rfl 0 rfl ?_
            refine f_X9_42 C dX9_told_77 ?_
            refine z_iload_n C dX9_told_80 rfl 1 rfl ?_
            refine z_iald C za_64 (by decide) (Int32.toNatClampNeg a1) rfl hw.1 dX9_told_81 ?_
            replace hw := hw.2
            refine z_goto C (tgt := 86) dX9_told_82 (by decide) ?_
            exact z_ireturn C D dX9_told_86 ⟨_, rfl, hw⟩
        by_cases h2 : a2 = 2
        · replace hw := hw.2.2.1 h2
          refine z_tabIn C (tgt := 87) dX9_told_29 (by rw [h2]; decide) (by rw [h2]; decide) (by rw [h2]; rfl) (by decide) ?_
          refine z_aload_n C dX9_told_87 rfl 0 rfl ?_
          refine f_X9_45 C dX9_told_88 ?_
          refine z_iload_n C dX9_told_91 rfl 1 rfl ?_
          refine z_iald C za_65 (by decide) (Int32.toNatClampNeg a1) rfl hw.1 dX9_told_92 ?_
          replace hw := hw.2
          exact z_ireturn C D dX9_told_93 ⟨_, rfl, hw⟩
        by_cases h3 : a2 = 3
        · replace hw := hw.2.2.2.1 h3
          refine z_tabIn C (tgt := 94) dX9_told_29 (by rw [h3]; decide) (by rw [h3]; decide) (by rw [h3]; rfl) (by decide) ?_
          refine z_aload_n C dX9_told_94 rfl 0 rfl ?_
          refine f_X9_48 C dX9_told_95 ?_
          refine z_iload_n C dX9_told_98 rfl 1 rfl ?_
          refine z_iald C za_66 (by decide) (Int32.toNatClampNeg a1) rfl hw.1 dX9_told_99 ?_
          replace hw := hw.2
          exact z_ireturn C D dX9_told_100 ⟨_, rfl, hw⟩
        replace hw := hw.2.2.2.2 ⟨h0, h1, h2, h3⟩
        refine z_tabOut C (tgt := 101) dX9_told_29 (z_tab_0_4 ⟨h0, h1, h2, h3⟩) (by decide) ?_
        refine z_aload_n C dX9_told_101 rfl 0 rfl ?_
        refine f_X9_45 C dX9_told_102 ?_
        refine z_iload_n C dX9_told_105 rfl 1 rfl ?_
        refine z_iald C za_65 (by decide) (Int32.toNatClampNeg a1) rfl hw.1 dX9_told_106 ?_
        replace hw := hw.2
        refine z_iconst C 1 dX9_told_107 (by decide) ?_
        refine z_icmp_ne C (tgt := 120) dX9_told_108 (by decide) (fun h => ?_) (fun h => ?_)
        · replace hw := hw.1 h
          refine z_iconst C (-1) dX9_told_120 (by decide) ?_
          exact z_ireturn C D dX9_told_121 ⟨_, rfl, hw⟩
        · replace hw := hw.2 h
          refine z_aload_n C dX9_told_111 rfl 0 rfl ?_
          refine f_X9_51 C dX9_told_112 ?_
          refine z_iload_n C dX9_told_115 rfl 1 rfl ?_
          refine z_iald C za_67 (by decide) (Int32.toNatClampNeg a1) rfl hw.1 dX9_told_116 ?_
          replace hw := hw.2
          refine z_goto C (tgt := 121) dX9_told_117 (by decide) ?_
          exact z_ireturn C D dX9_told_121 ⟨_, rfl, hw⟩
      · replace hw := hw.2 h
        refine z_aload_n C dX9_told_17 rfl 0 rfl ?_
        refine z_iconst C 1 dX9_told_18 (by decide) ?_
        refine z_callV C (by decide) M_X9_refuse Mv_X9_refuse kw_m_X9_139 ob_X9 (t_X9_refuse hw) rfl rfl (Nat.le_of_ble_eq_true rfl) dX9_told_19 (z_ki (fun r8 s9 hw => ?_))
        exact z_ireturn C D dX9_told_22 ⟨_, rfl, hw⟩
set_option maxHeartbeats 4000000 in
set_option maxRecDepth 100000 in
theorem t_X8_waits {l : Launch} {E : zE} {a1 : Int32} {a2 : Int32} {s0 : zS} {Q : Int32 → zS → Prop}  (hw : Wp_X8_waits a1 a2 s0 Q) : zT l 3 E yX8_waits cX8_waits 3 (some .int) [.ref (E.1 0 0), .int a1, .int a2] s0 (zQi Q) := by
  unfold Wp_X8_waits at hw
  refine z_entry rfl (Nat.le_of_ble_eq_true rfl) rfl ?_
  intro X C D hl hE
  subst hl; subst hE
  have C : zC X cX8_waits RX8 3 3 := C
  refine z_aload_n C dX8_waits_0 rfl 0 rfl ?_
  refine z_aload_n C dX8_waits_1 rfl 0 rfl ?_
  refine z_iload_n C dX8_waits_2 rfl 1 rfl ?_
  refine z_callV C (by decide) M_X8_isTown Mv_X8_isTown kw_m_X8_167 ob_X8 (t_X8_isTown hw) rfl rfl (Nat.le_of_ble_eq_true rfl) dX8_waits_3 (z_kb (fun r1 s2 hr1 hw => ?_))
  refine z_if_eq C (tgt := 21) dX8_waits_6 (by decide) (fun h => ?_) (fun h => ?_)
  · replace hw := hw.1 h
    refine z_iconst C 0 dX8_waits_21 (by decide) ?_
    refine z_callS C (by decide) M_X8_wrongUnless Ms_X8_wrongUnless kw_m_X8_89 (t_X8_wrongUnless hw) rfl rfl (Nat.le_of_ble_eq_true rfl) dX8_waits_22 (z_ki (fun r3 s4 hw => ?_))
    refine p_X8_67 C dX8_waits_25 (z_nms (fun s5 es5 => ?_))
    replace hw := hw s5 es5
    refine z_aload_n C dX8_waits_28 rfl 0 rfl ?_
    refine f_X8_67 C dX8_waits_29 ?_
    refine z_if_eq C (tgt := 37) dX8_waits_32 (by decide) (fun h => ?_) (fun h => ?_)
    · replace hw := hw.1 h
      refine z_aload_n C dX8_waits_37 rfl 0 rfl ?_
      refine f_X8_33 C dX8_waits_38 ?_
      refine f_X8_170 C dX8_waits_41 ?_
      refine z_iload_n C dX8_waits_44 rfl 1 rfl ?_
      have hb6 := zin_lt hw.1
      refine z_aald C za_20 (by decide) rfl (Int32.toNatClampNeg a1) rfl hw.1 dX8_waits_45 ?_
      replace hw := hw.2
      refine z_iload_n C dX8_waits_46 rfl 2 rfl ?_
      refine z_iald C za_21 hb6 (Int32.toNatClampNeg a2) rfl hw.1 dX8_waits_47 ?_
      replace hw := hw.2
      exact z_ireturn C D dX8_waits_48 ⟨_, rfl, hw⟩
    · replace hw := hw.2 h
      refine z_iconst C (-1) dX8_waits_35 (by decide) ?_
      exact z_ireturn C D dX8_waits_36 ⟨_, rfl, hw⟩
  · replace hw := hw.2 h
    refine z_aload_n C dX8_waits_9 rfl 0 rfl ?_
    refine z_iload_n C dX8_waits_10 rfl 2 rfl ?_
    refine z_callV C (by decide) M_X8_isTown Mv_X8_isTown kw_m_X8_167 ob_X8 (t_X8_isTown hw) rfl rfl (Nat.le_of_ble_eq_true rfl) dX8_waits_11 (z_kb (fun r7 s8 hr7 hw => ?_))
    refine z_if_eq C (tgt := 21) dX8_waits_14 (by decide) (fun h => ?_) (fun h => ?_)
    · replace hw := hw.1 h
      refine z_iconst C 0 dX8_waits_21 (by decide) ?_
      refine z_callS C (by decide) M_X8_wrongUnless Ms_X8_wrongUnless kw_m_X8_89 (t_X8_wrongUnless hw) rfl rfl (Nat.le_of_ble_eq_true rfl) dX8_waits_22 (z_ki (fun r9 s10 hw => ?_))
      refine p_X8_67 C dX8_waits_25 (z_nms (fun s11 es11 => ?_))
      replace hw := hw s11 es11
      refine z_aload_n C dX8_waits_28 rfl 0 rfl ?_
      refine f_X8_67 C dX8_waits_29 ?_
      refine z_if_eq C (tgt := 37) dX8_waits_32 (by decide) (fun h => ?_) (fun h => ?_)
      · replace hw := hw.1 h
        refine z_aload_n C dX8_waits_37 rfl 0 rfl ?_
        refine f_X8_33 C dX8_waits_38 ?_
        refine f_X8_170 C dX8_waits_41 ?_
        refine z_iload_n C dX8_waits_44 rfl 1 rfl ?_
        have hb12 := zin_lt hw.1
        refine z_aald C za_20 (by decide) rfl (Int32.toNatClampNeg a1) rfl hw.1 dX8_waits_45 ?_
        replace hw := hw.2
        refine z_iload_n C dX8_waits_46 rfl 2 rfl ?_
        refine z_iald C za_21 hb12 (Int32.toNatClampNeg a2) rfl hw.1 dX8_waits_47 ?_
        replace hw := hw.2
        exact z_ireturn C D dX8_waits_48 ⟨_, rfl, hw⟩
      · replace hw := hw.2 h
        refine z_iconst C (-1) dX8_waits_35 (by decide) ?_
        exact z_ireturn C D dX8_waits_36 ⟨_, rfl, hw⟩
    · replace hw := hw.2 h
      refine z_iconst C 1 dX8_waits_17 (by decide) ?_
      refine z_goto C (tgt := 22) dX8_waits_18 (by decide) ?_
      refine z_callS C (by decide) M_X8_wrongUnless Ms_X8_wrongUnless kw_m_X8_89 (t_X8_wrongUnless hw) rfl rfl (Nat.le_of_ble_eq_true rfl) dX8_waits_22 (z_ki (fun r13 s14 hw => ?_))
      refine p_X8_67 C dX8_waits_25 (z_nms (fun s15 es15 => ?_))
      replace hw := hw s15 es15
      refine z_aload_n C dX8_waits_28 rfl 0 rfl ?_
      refine f_X8_67 C dX8_waits_29 ?_
      refine z_if_eq C (tgt := 37) dX8_waits_32 (by decide) (fun h => ?_) (fun h => ?_)
      · replace hw := hw.1 h
        refine z_aload_n C dX8_waits_37 rfl 0 rfl ?_
        refine f_X8_33 C dX8_waits_38 ?_
        refine f_X8_170 C dX8_waits_41 ?_
        refine z_iload_n C dX8_waits_44 rfl 1 rfl ?_
        have hb16 := zin_lt hw.1
        refine z_aald C za_20 (by decide) rfl (Int32.toNatClampNeg a1) rfl hw.1 dX8_waits_45 ?_
        replace hw := hw.2
        refine z_iload_n C dX8_waits_46 rfl 2 rfl ?_
        refine z_iald C za_21 hb16 (Int32.toNatClampNeg a2) rfl hw.1 dX8_waits_47 ?_
        replace hw := hw.2
        exact z_ireturn C D dX8_waits_48 ⟨_, rfl, hw⟩
      · replace hw := hw.2 h
        refine z_iconst C (-1) dX8_waits_35 (by decide) ?_
        exact z_ireturn C D dX8_waits_36 ⟨_, rfl, hw⟩
set_option maxHeartbeats 4000000 in
set_option maxRecDepth 100000 in
theorem t_X9_count {l : Launch} {E : zE} {a1 : Int32} {a2 : Int32} {s0 : zS} {Q : Int32 → zS → Prop}  (hw : Wp_X9_count a1 a2 s0 Q) : zT l 1 E yX9_count cX9_count 5 (some .int) [.ref (E.1 54 0), .int a1, .int a2] s0 (zQi Q) := by
  unfold Wp_X9_count at hw
  refine z_entry rfl (Nat.le_of_ble_eq_true rfl) rfl ?_
  intro X C D hl hE
  subst hl; subst hE
  have C : zC X cX9_count RX9 5 1 := C
  refine z_use (hw (fun v3 v4 s0 => zV X 5 [(0, .ref ((zXE X).1 54 0)), (1, .int a1), (2, .int a2), (3, .int v3), (4, .int v4)] [] s0) (fun v3 v4 s0 hw => ?_)) (fun hw => ?_)
  · show zV X 5 _ _ _
    refine z_iload C dX9_count_5 4 rfl ?_
    refine z_aload_n C dX9_count_7 rfl 0 rfl ?_
    refine f_X9_136 C dX9_count_8 ?_
    refine z_icmp_ge C (tgt := 60) dX9_count_11 (by decide) (fun h => ?_) (fun h => ?_)
    · replace hw := hw.1 h
      refine z_iload_n C dX9_count_60 rfl 3 rfl ?_
      exact z_ireturn C D dX9_count_61 ⟨_, rfl, hw⟩
    · replace hw := hw.2 h
      refine z_iload_n C dX9_count_14 rfl 3 rfl ?_
      refine z_aload_n C dX9_count_15 rfl 0 rfl ?_
      refine f_X9_39 C dX9_count_16 ?_
      refine z_iload C dX9_count_19 4 rfl ?_
      refine z_iald C za_63 (by decide) (Int32.toNatClampNeg v4) rfl hw.1 dX9_count_21 ?_
      replace hw := hw.2
      refine z_iload_n C dX9_count_22 rfl 1 rfl ?_
      refine z_icmp_ne C (tgt := 51) dX9_count_23 (by decide) (fun h => ?_) (fun h => ?_)
      · replace hw := hw.1 h
        refine z_iconst C 0 dX9_count_51 (by decide) ?_
        refine z_iadd C dX9_count_52 ?_
        refine z_nmi (fun x1 ex1 => ?_)
        replace hw := hw x1 ex1
        refine z_istore_n C [(3, .int x1), (0, .ref ((zXE X).1 54 0)), (1, .int a1), (2, .int a2), (4, .int v4)] dX9_count_53 rfl (by decide) rfl ?_
        refine z_iinc C (v4 + 1) [(4, .int (v4 + 1)), (3, .int x1), (0, .ref ((zXE X).1 54 0)), (1, .int a1), (2, .int a2)] dX9_count_54 4 rfl rfl (by decide) rfl ?_
        refine z_goto C (tgt := 5) dX9_count_57 (by decide) ?_
        exact z_lv [2, 3, 4, 1, 0] rfl hw
      · replace hw := hw.2 h
        refine z_aload_n C dX9_count_26 rfl 0 rfl ?_
        refine f_X9_45 C dX9_count_27 ?_
        refine z_iload C dX9_count_30 4 rfl ?_
        refine z_iald C za_65 (by decide) (Int32.toNatClampNeg v4) rfl hw.1 dX9_count_32 ?_
        replace hw := hw.2
        refine z_if_ne C (tgt := 51) dX9_count_33 (by decide) (fun h => ?_) (fun h => ?_)
        · replace hw := hw.1 h
          refine z_iconst C 0 dX9_count_51 (by decide) ?_
          refine z_iadd C dX9_count_52 ?_
          refine z_nmi (fun x2 ex2 => ?_)
          replace hw := hw x2 ex2
          refine z_istore_n C [(3, .int x2), (0, .ref ((zXE X).1 54 0)), (1, .int a1), (2, .int a2), (4, .int v4)] dX9_count_53 rfl (by decide) rfl ?_
          refine z_iinc C (v4 + 1) [(4, .int (v4 + 1)), (3, .int x2), (0, .ref ((zXE X).1 54 0)), (1, .int a1), (2, .int a2)] dX9_count_54 4 rfl rfl (by decide) rfl ?_
          refine z_goto C (tgt := 5) dX9_count_57 (by decide) ?_
          exact z_lv [2, 3, 4, 1, 0] rfl hw
        · replace hw := hw.2 h
          refine z_aload_n C dX9_count_36 rfl 0 rfl ?_
          refine f_X9_42 C dX9_count_37 ?_
          refine z_iload C dX9_count_40 4 rfl ?_
          refine z_iald C za_64 (by decide) (Int32.toNatClampNeg v4) rfl hw.1 dX9_count_42 ?_
          replace hw := hw.2
          refine z_iload_n C dX9_count_43 rfl 2 rfl ?_
          refine z_icmp_ne C (tgt := 51) dX9_count_44 (by decide) (fun h => ?_) (fun h => ?_)
          · replace hw := hw.1 h
            refine z_iconst C 0 dX9_count_51 (by decide) ?_
            refine z_iadd C dX9_count_52 ?_
            refine z_nmi (fun x3 ex3 => ?_)
            replace hw := hw x3 ex3
            refine z_istore_n C [(3, .int x3), (0, .ref ((zXE X).1 54 0)), (1, .int a1), (2, .int a2), (4, .int v4)] dX9_count_53 rfl (by decide) rfl ?_
            refine z_iinc C (v4 + 1) [(4, .int (v4 + 1)), (3, .int x3), (0, .ref ((zXE X).1 54 0)), (1, .int a1), (2, .int a2)] dX9_count_54 4 rfl rfl (by decide) rfl ?_
            refine z_goto C (tgt := 5) dX9_count_57 (by decide) ?_
            exact z_lv [2, 3, 4, 1, 0] rfl hw
          · replace hw := hw.2 h
            refine z_iconst C 1 dX9_count_47 (by decide) ?_
            refine z_goto C (tgt := 52) dX9_count_48 (by decide) ?_
            refine z_iadd C dX9_count_52 ?_
            refine z_nmi (fun x4 ex4 => ?_)
            replace hw := hw x4 ex4
            refine z_istore_n C [(3, .int x4), (0, .ref ((zXE X).1 54 0)), (1, .int a1), (2, .int a2), (4, .int v4)] dX9_count_53 rfl (by decide) rfl ?_
            refine z_iinc C (v4 + 1) [(4, .int (v4 + 1)), (3, .int x4), (0, .ref ((zXE X).1 54 0)), (1, .int a1), (2, .int a2)] dX9_count_54 4 rfl rfl (by decide) rfl ?_
            refine z_goto C (tgt := 5) dX9_count_57 (by decide) ?_
            exact z_lv [2, 3, 4, 1, 0] rfl hw
  refine z_iconst C 0 dX9_count_0 (by decide) ?_
  refine z_istore_n C [(3, .int (0 : Int32)), (0, .ref ((zXE X).1 54 0)), (1, .int a1), (2, .int a2)] dX9_count_1 rfl (by decide) rfl ?_
  refine z_iconst C 0 dX9_count_2 (by decide) ?_
  refine z_istore C [(4, .int (0 : Int32)), (3, .int (0 : Int32)), (0, .ref ((zXE X).1 54 0)), (1, .int a1), (2, .int a2)] dX9_count_3 (by decide) rfl ?_
  exact z_lv [2, 3, 4, 1, 0] rfl hw
set_option maxHeartbeats 4000000 in
set_option maxRecDepth 100000 in
theorem t_X9_waits {l : Launch} {E : zE} {a1 : Int32} {a2 : Int32} {s0 : zS} {Q : Int32 → zS → Prop}  (hw : Wp_X9_waits a1 a2 s0 Q) : zT l 2 E yX9_waits cX9_waits 3 (some .int) [.ref (E.1 54 0), .int a1, .int a2] s0 (zQi Q) := by
  unfold Wp_X9_waits at hw
  refine z_entry rfl (Nat.le_of_ble_eq_true rfl) rfl ?_
  intro X C D hl hE
  subst hl; subst hE
  have C : zC X cX9_waits RX9 3 2 := C
  refine z_aload_n C dX9_waits_0 rfl 0 rfl ?_
  refine z_iload_n C dX9_waits_1 rfl 1 rfl ?_
  refine z_callV C (by decide) M_X9_isTown Mv_X9_isTown kw_m_X9_146 ob_X9 (t_X9_isTown hw) rfl rfl (Nat.le_of_ble_eq_true rfl) dX9_waits_2 (z_kb (fun r1 s2 hr1 hw => ?_))
  refine z_if_eq C (tgt := 16) dX9_waits_5 (by decide) (fun h => ?_) (fun h => ?_)
  · replace hw := hw.1 h
    refine z_aload_n C dX9_waits_16 rfl 0 rfl ?_
    refine z_iconst C 1 dX9_waits_17 (by decide) ?_
    refine z_callV C (by decide) M_X9_refuse Mv_X9_refuse kw_m_X9_139 ob_X9 (t_X9_refuse hw) rfl rfl (Nat.le_of_ble_eq_true rfl) dX9_waits_18 (z_ki (fun r3 s4 hw => ?_))
    exact z_ireturn C D dX9_waits_21 ⟨_, rfl, hw⟩
  · replace hw := hw.2 h
    refine z_aload_n C dX9_waits_8 rfl 0 rfl ?_
    refine z_iload_n C dX9_waits_9 rfl 2 rfl ?_
    refine z_callV C (by decide) M_X9_isTown Mv_X9_isTown kw_m_X9_146 ob_X9 (t_X9_isTown hw) rfl rfl (Nat.le_of_ble_eq_true rfl) dX9_waits_10 (z_kb (fun r5 s6 hr5 hw => ?_))
    refine z_if_ne C (tgt := 22) dX9_waits_13 (by decide) (fun h => ?_) (fun h => ?_)
    · replace hw := hw.1 h
      refine z_aload_n C dX9_waits_22 rfl 0 rfl ?_
      refine z_iconst C 0 dX9_waits_23 (by decide) ?_
      refine p_X9_109 C dX9_waits_24 (z_nms (fun s7 es7 => ?_))
      replace hw := hw s7 es7
      refine z_aload_n C dX9_waits_27 rfl 0 rfl ?_
      refine z_iload_n C dX9_waits_28 rfl 1 rfl ?_
      refine z_iload_n C dX9_waits_29 rfl 2 rfl ?_
      refine z_callV C (by decide) M_X9_count Mv_X9_count kw_m_X9_152 ob_X9 (t_X9_count hw) rfl rfl (Nat.le_of_ble_eq_true rfl) dX9_waits_30 (z_ki (fun r8 s9 hw => ?_))
      exact z_ireturn C D dX9_waits_33 ⟨_, rfl, hw⟩
    · replace hw := hw.2 h
      refine z_aload_n C dX9_waits_16 rfl 0 rfl ?_
      refine z_iconst C 1 dX9_waits_17 (by decide) ?_
      refine z_callV C (by decide) M_X9_refuse Mv_X9_refuse kw_m_X9_139 ob_X9 (t_X9_refuse hw) rfl rfl (Nat.le_of_ble_eq_true rfl) dX9_waits_18 (z_ki (fun r10 s11 hw => ?_))
      exact z_ireturn C D dX9_waits_21 ⟨_, rfl, hw⟩
set_option maxHeartbeats 4000000 in
set_option maxRecDepth 100000 in
theorem t_X8_sureFault {l : Launch} {E : zE} {a1 : Int32} {a2 : Int32} {a3 : Int32} {s0 : zS} {Q : Int32 → zS → Prop}  (hw : Wp_X8_sureFault a1 a2 a3 s0 Q) : zT l 4 E yX8_sureFault cX8_sureFault 4 (some .int) [.ref (E.1 0 0), .int a1, .int a2, .int a3] s0 (zQi Q) := by
  unfold Wp_X8_sureFault at hw
  refine z_entry rfl (Nat.le_of_ble_eq_true rfl) rfl ?_
  intro X C D hl hE
  subst hl; subst hE
  have C : zC X cX8_sureFault RX8 4 4 := C
  refine z_aload_n C dX8_sureFault_0 rfl 0 rfl ?_
  refine z_iload_n C dX8_sureFault_1 rfl 1 rfl ?_
  refine z_iload_n C dX8_sureFault_2 rfl 2 rfl ?_
  refine z_callV C (by decide) M_X8_areTwoTowns Mv_X8_areTwoTowns kw_m_X8_136 ob_X8 (t_X8_areTwoTowns hw) rfl rfl (Nat.le_of_ble_eq_true rfl) dX8_sureFault_3 (z_kb (fun r1 s2 hr1 hw => ?_))
  refine z_if_eq C (tgt := 18) dX8_sureFault_6 (by decide) (fun h => ?_) (fun h => ?_)
  · replace hw := hw.1 h
    refine z_iconst C 1 dX8_sureFault_18 (by decide) ?_
    exact z_ireturn C D dX8_sureFault_19 ⟨_, rfl, hw⟩
  · replace hw := hw.2 h
    refine z_iload_n C dX8_sureFault_9 rfl 3 rfl ?_
    refine z_iconst C 1 dX8_sureFault_10 (by decide) ?_
    refine z_iconst C 4 dX8_sureFault_11 (by decide) ?_
    refine z_callS C (by decide) M_X8_within Ms_X8_within kw_m_X8_85 (t_X8_within hw) rfl rfl (Nat.le_of_ble_eq_true rfl) dX8_sureFault_12 (z_kb (fun r3 s4 hr3 hw => ?_))
    refine z_if_ne C (tgt := 20) dX8_sureFault_15 (by decide) (fun h => ?_) (fun h => ?_)
    · replace hw := hw.1 h
      refine z_aload_n C dX8_sureFault_20 rfl 0 rfl ?_
      refine f_X8_26 C dX8_sureFault_21 ?_
      refine z_iload_n C dX8_sureFault_24 rfl 1 rfl ?_
      refine z_iload_n C dX8_sureFault_25 rfl 2 rfl ?_
      refine z_callV C (by decide) M_X6_isRoad Mv_X6_isRoad kw_m_X8_311 ob_X6 (t_X6_isRoad hw) rfl rfl (Nat.le_of_ble_eq_true rfl) dX8_sureFault_26 (z_kb (fun r5 s6 hr5 hw => ?_))
      refine z_if_eq C (tgt := 36) dX8_sureFault_29 (by decide) (fun h => ?_) (fun h => ?_)
      · replace hw := hw.1 h
        refine z_bipush C 6 dX8_sureFault_36 (by decide) ?_
        exact z_ireturn C D dX8_sureFault_38 ⟨_, rfl, hw⟩
      · replace hw := hw.2 h
        refine z_iconst C 0 dX8_sureFault_32 (by decide) ?_
        refine z_goto C (tgt := 38) dX8_sureFault_33 (by decide) ?_
        exact z_ireturn C D dX8_sureFault_38 ⟨_, rfl, hw⟩
    · replace hw := hw.2 h
      refine z_iconst C 1 dX8_sureFault_18 (by decide) ?_
      exact z_ireturn C D dX8_sureFault_19 ⟨_, rfl, hw⟩
set_option maxHeartbeats 4000000 in
set_option maxRecDepth 100000 in
theorem t_X8_power {l : Launch} {E : zE} {a0 : Int64} {a2 : Int32} {s0 : zS} {Q : Int64 → zS → Prop}  (hw : Wp_X8_power a0 a2 s0 Q) : zT l 1 E yX8_power cX8_power 6 (some .long) [.long a0, .int a2] s0 (zQl Q) := by
  unfold Wp_X8_power at hw
  refine z_entry rfl (Nat.le_of_ble_eq_true rfl) rfl ?_
  intro X C D hl hE
  subst hl; subst hE
  have C : zC X cX8_power RX8 6 1 := C
  refine z_use (hw (fun v3 v5 s0 => zV X 5 [(0, .long a0), (2, .int a2), (3, .long v3), (5, .int v5)] [] s0) (fun v3 v5 s0 hw => ?_)) (fun hw => ?_)
  · show zV X 5 _ _ _
    refine z_iload C dX8_power_5 3 rfl ?_
    refine z_iload_n C dX8_power_7 rfl 1 rfl ?_
    refine z_icmp_ge C (tgt := 21) dX8_power_8 (by decide) (fun h => ?_) (fun h => ?_)
    · replace hw := hw.1 h
      refine z_lload_n C dX8_power_21 rfl 2 rfl ?_
      exact z_lreturn C D dX8_power_22 ⟨_, rfl, hw⟩
    · replace hw := hw.2 h
      refine z_lload_n C dX8_power_11 rfl 2 rfl ?_
      refine z_lload_n C dX8_power_12 rfl 0 rfl ?_
      refine z_lmul C dX8_power_13 ?_
      refine z_nml (fun y1 ey1 => ?_)
      replace hw := hw y1 ey1
      refine z_lstore_n C [(3, .long y1), (0, .long a0), (2, .int a2), (5, .int v5)] dX8_power_14 rfl (by decide) rfl ?_
      refine z_iinc C (v5 + 1) [(5, .int (v5 + 1)), (3, .long y1), (0, .long a0), (2, .int a2)] dX8_power_15 3 rfl rfl (by decide) rfl ?_
      refine z_goto C (tgt := 5) dX8_power_18 (by decide) ?_
      exact z_lv [2, 3, 1, 0] rfl hw
  refine z_lconst C 1 dX8_power_0 (by decide) ?_
  refine z_lstore_n C [(3, .long (1 : Int64)), (0, .long a0), (2, .int a2)] dX8_power_1 rfl (by decide) rfl ?_
  refine z_iconst C 0 dX8_power_2 (by decide) ?_
  refine z_istore C [(5, .int (0 : Int32)), (3, .long (1 : Int64)), (0, .long a0), (2, .int a2)] dX8_power_3 (by decide) rfl ?_
  exact z_lv [2, 3, 1, 0] rfl hw
set_option maxHeartbeats 4000000 in
set_option maxRecDepth 100000 in
theorem t_X6_sureTop {l : Launch} {E : zE} {a1 : Int32} {a2 : Int32} {a3 : Int32} {s0 : zS} {Q : Int64 → zS → Prop}  (hw : Wp_X6_sureTop a1 a2 a3 s0 Q) : zT l 2 E yX6_sureTop cX6_sureTop 4 (some .long) [.ref (E.1 7 0), .int a1, .int a2, .int a3] s0 (zQl Q) := by
  unfold Wp_X6_sureTop at hw
  refine z_entry rfl (Nat.le_of_ble_eq_true rfl) rfl ?_
  intro X C D hl hE
  subst hl; subst hE
  have C : zC X cX6_sureTop RX6 4 2 := C
  refine z_ldc2 C (v := 10) kw_cl_X6_32 dX6_sureTop_0 ?_
  refine z_iload_n C dX6_sureTop_3 rfl 3 rfl ?_
  refine z_callSN C (by decide) M_X8_power Ms_X8_power kw_mn_X6_34 (t_X8_power hw) rfl rfl (Nat.le_of_ble_eq_true rfl) dX6_sureTop_4 (z_kl (fun r1 s2 hw => ?_))
  refine z_aload_n C dX6_sureTop_7 rfl 0 rfl ?_
  refine f_X6_20 C dX6_sureTop_8 ?_
  refine z_iload_n C dX6_sureTop_11 rfl 1 rfl ?_
  have hb3 := zin_lt hw.1
  refine z_aald C za_10 (by decide) rfl (Int32.toNatClampNeg a1) rfl hw.1 dX6_sureTop_12 ?_
  replace hw := hw.2
  refine z_iload_n C dX6_sureTop_13 rfl 2 rfl ?_
  refine z_iald C za_11 hb3 (Int32.toNatClampNeg a2) rfl hw.1 dX6_sureTop_14 ?_
  replace hw := hw.2
  refine z_i2l C dX6_sureTop_15 ?_
  refine z_iload_n C dX6_sureTop_16 rfl 3 rfl ?_
  refine z_callSN C (by decide) M_X8_power Ms_X8_power kw_mn_X6_34 (t_X8_power hw) rfl rfl (Nat.le_of_ble_eq_true rfl) dX6_sureTop_17 (z_kl (fun r4 s5 hw => ?_))
  refine z_lsub C dX6_sureTop_20 ?_
  exact z_lreturn C D dX6_sureTop_21 ⟨_, rfl, hw⟩
set_option maxHeartbeats 4000000 in
set_option maxRecDepth 100000 in
theorem t_X3_commonDivisor {l : Launch} {E : zE} {a0 : Int64} {a2 : Int64} {s0 : zS} {Q : Int64 → zS → Prop}  (hw : Wp_X3_commonDivisor a0 a2 s0 Q) : zT l 1 E yX3_commonDivisor cX3_commonDivisor 11 (some .long) [.long a0, .long a2] s0 (zQl Q) := by
  unfold Wp_X3_commonDivisor at hw
  refine z_entry rfl (Nat.le_of_ble_eq_true rfl) rfl ?_
  intro X C D hl hE
  subst hl; subst hE
  have C : zC X cX3_commonDivisor RX3 11 1 := C
  refine z_use (hw (fun v4 v6 v8 s0 => zV X 9 [(4, .long v4), (6, .long v6), (8, .int v8)] [] s0) (fun v4 v6 v8 s0 hw => ?_)) (fun hw => ?_)
  · show zV X 9 _ _ _
    refine z_iload C dX3_commonDivisor_9 2 rfl ?_
    refine z_bipush C 100 dX3_commonDivisor_11 (by decide) ?_
    refine z_icmp_ge C (tgt := 44) dX3_commonDivisor_13 (by decide) (fun h => ?_) (fun h => ?_)
    · replace hw := hw.1 h
      refine z_lload C dX3_commonDivisor_44 0 rfl ?_
      exact z_lreturn C D dX3_commonDivisor_46 ⟨_, rfl, hw⟩
    · replace hw := hw.2 h
      refine z_lload C dX3_commonDivisor_16 1 rfl ?_
      refine z_lconst C 0 dX3_commonDivisor_18 (by decide) ?_
      refine z_lcmp_eq C (tgt := 44) dX3_commonDivisor_19 dX3_commonDivisor_20 (by decide) (fun h => ?_) (fun h => ?_)
      · replace hw := hw.1 h
        refine z_lload C dX3_commonDivisor_44 0 rfl ?_
        exact z_lreturn C D dX3_commonDivisor_46 ⟨_, rfl, hw⟩
      · replace hw := hw.2 h
        refine z_lload C dX3_commonDivisor_23 0 rfl ?_
        refine z_lload C dX3_commonDivisor_25 1 rfl ?_
        refine z_lrem C dX3_commonDivisor_27 hw.1 ?_
        replace hw := hw.2
        refine z_nml (fun y1 ey1 => ?_)
        replace hw := hw y1 ey1
        refine z_lstore C [(9, .long y1), (4, .long v4), (6, .long v6), (8, .int v8)] dX3_commonDivisor_28 (by decide) rfl ?_
        refine z_lload C dX3_commonDivisor_30 2 rfl ?_
        refine z_lstore C [(4, .long v6), (9, .long y1), (6, .long v6), (8, .int v8)] dX3_commonDivisor_32 (by decide) rfl ?_
        refine z_lload C dX3_commonDivisor_34 1 rfl ?_
        refine z_lstore C [(6, .long y1), (4, .long v6), (9, .long y1), (8, .int v8)] dX3_commonDivisor_36 (by decide) rfl ?_
        refine z_iinc C (v8 + 1) [(8, .int (v8 + 1)), (6, .long y1), (4, .long v6), (9, .long y1)] dX3_commonDivisor_38 3 rfl rfl (by decide) rfl ?_
        refine z_goto C (tgt := 9) dX3_commonDivisor_41 (by decide) ?_
        exact z_lv [2, 1, 0] rfl hw
  refine z_lload_n C dX3_commonDivisor_0 rfl 0 rfl ?_
  refine z_lstore C [(4, .long a0), (0, .long a0), (2, .long a2)] dX3_commonDivisor_1 (by decide) rfl ?_
  refine z_lload_n C dX3_commonDivisor_3 rfl 2 rfl ?_
  refine z_lstore C [(6, .long a2), (4, .long a0), (0, .long a0), (2, .long a2)] dX3_commonDivisor_4 (by decide) rfl ?_
  refine z_iconst C 0 dX3_commonDivisor_6 (by decide) ?_
  refine z_istore C [(8, .int (0 : Int32)), (6, .long a2), (4, .long a0), (0, .long a0), (2, .long a2)] dX3_commonDivisor_7 (by decide) rfl ?_
  exact z_lv [2, 1, 0] rfl hw
set_option maxHeartbeats 4000000 in
set_option maxRecDepth 100000 in
theorem t_X3_tell {l : Launch} {E : zE} {a1 : Int64} {a3 : Int64} {s0 : zS} {Q : zS → Prop}  (hw : Wp_X3_tell a1 a3 s0 Q) : zT l 2 E yX3_tell cX3_tell 7 none [.ref (E.1 1 0), .long a1, .long a3] s0 (zQv Q) := by
  unfold Wp_X3_tell at hw
  refine z_entry rfl (Nat.le_of_ble_eq_true rfl) rfl ?_
  intro X C D hl hE
  subst hl; subst hE
  have C : zC X cX3_tell RX3 7 2 := C
  refine z_lload_n C dX3_tell_0 rfl 1 rfl ?_
  refine z_mabsl C (by decide) kw_m_X3_16 (Nat.le_of_ble_eq_true rfl) dX3_tell_1 ?_
  refine z_lload_n C dX3_tell_4 rfl 2 rfl ?_
  refine z_callS C (by decide) M_X3_commonDivisor Ms_X3_commonDivisor kw_m_X3_22 (t_X3_commonDivisor hw) rfl rfl (Nat.le_of_ble_eq_true rfl) dX3_tell_5 (z_kl (fun r1 s2 hw => ?_))
  refine z_lstore C [(5, .long r1), (0, .ref ((zXE X).1 1 0)), (1, .long a1), (3, .long a3)] dX3_tell_8 (by decide) rfl ?_
  refine z_lload C dX3_tell_10 0 rfl ?_
  refine z_lconst C 0 dX3_tell_12 (by decide) ?_
  refine z_lcmp_gt C (tgt := 18) dX3_tell_13 dX3_tell_14 (by decide) (fun h => ?_) (fun h => ?_)
  · replace hw := hw.1 h
    refine z_aload_n C dX3_tell_18 rfl 1 rfl ?_
    refine z_lload_n C dX3_tell_19 rfl 2 rfl ?_
    refine z_lload C dX3_tell_20 0 rfl ?_
    refine z_ldiv C dX3_tell_22 hw.1 ?_
    replace hw := hw.2
    refine p_X3_7 C dX3_tell_23 (z_nms (fun s3 es3 => ?_))
    replace hw := hw s3 es3
    refine z_aload_n C dX3_tell_26 rfl 1 rfl ?_
    refine z_lload_n C dX3_tell_27 rfl 3 rfl ?_
    refine z_lload C dX3_tell_28 0 rfl ?_
    refine z_ldiv C dX3_tell_30 hw.1 ?_
    replace hw := hw.2
    refine p_X3_13 C dX3_tell_31 (z_nms (fun s4 es4 => ?_))
    replace hw := hw s4 es4
    exact z_vreturn C D dX3_tell_34 ⟨rfl, hw⟩
  · replace hw := hw.2 h
    exact z_vreturn C D dX3_tell_17 ⟨rfl, hw⟩

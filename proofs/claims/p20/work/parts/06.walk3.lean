set_option maxHeartbeats 4000000 in
set_option maxRecDepth 100000 in
theorem t_X9_comes {l : Launch} {E : zE} {a1 : Int32} {a2 : Int32} {a3 : Int32} {a4 : Int32} {s0 : zS} {Q : Int32 → zS → Prop}  (hw : Wp_X9_comes a1 a2 a3 a4 s0 Q) : zT l 2 E yX9_comes cX9_comes 11 (some .int) [.ref (E.1 54 0), .int a1, .int a2, .int a3, .int a4] s0 (zQi Q) := by
  unfold Wp_X9_comes at hw
  refine z_entry rfl (Nat.le_of_ble_eq_true rfl) rfl ?_
  intro X C D hl hE
  subst hl; subst hE
  have C : zC X cX9_comes RX9 11 2 := C
  refine z_use (hw (fun v5 v7 v8 v9 v10 s0 => zV X 195 [(0, .ref ((zXE X).1 54 0)), (2, .int a2), (3, .int a3), (4, .int a4), (5, .int v5), (7, .int v7), (8, .int v8), (9, .int v9), (10, .int v10)] [] s0) (fun v5 v7 v8 v9 v10 s0 hw => ?_)) (fun hw => ?_)
  · show zV X 195 _ _ _
    refine z_iload C dX9_comes_195 8 rfl ?_
    refine z_aload_n C dX9_comes_197 rfl 0 rfl ?_
    refine f_X9_78 C dX9_comes_198 ?_
    refine z_iload C dX9_comes_201 5 rfl ?_
    refine z_iald C za_76 (by decide) (Int32.toNatClampNeg v7) rfl hw.1 dX9_comes_203 ?_
    replace hw := hw.2
    refine z_icmp_ge C (tgt := 282) dX9_comes_204 (by decide) (fun h => ?_) (fun h => ?_)
    · replace hw := hw.1 h
      refine z_iload C dX9_comes_282 7 rfl ?_
      refine z_if_eq C (tgt := 303) dX9_comes_284 (by decide) (fun h => ?_) (fun h => ?_)
      · replace hw := hw.1 h
        refine z_iconst C 0 dX9_comes_303 (by decide) ?_
        exact z_ireturn C D dX9_comes_304 ⟨_, rfl, hw⟩
      · replace hw := hw.2 h
        refine z_aload_n C dX9_comes_287 rfl 0 rfl ?_
        refine f_X9_93 C dX9_comes_288 ?_
        refine z_iload C dX9_comes_291 5 rfl ?_
        refine z_iload C dX9_comes_293 6 rfl ?_
        refine z_callS C (by decide) M_X9_place Ms_X9_place kw_m_X9_234 (t_X9_place hw) rfl rfl (Nat.le_of_ble_eq_true rfl) dX9_comes_295 (z_ki (fun r108 s109 hw => ?_))
        refine z_iald C za_81 (by decide) (Int32.toNatClampNeg r108) rfl hw.1 dX9_comes_298 ?_
        replace hw := hw.2
        refine z_iconst C (-1) dX9_comes_299 (by decide) ?_
        refine z_icmp_eq C (tgt := 305) dX9_comes_300 (by decide) (fun h => ?_) (fun h => ?_)
        · replace hw := hw.1 h
          refine z_aload_n C dX9_comes_305 rfl 0 rfl ?_
          refine f_X9_93 C dX9_comes_306 ?_
          refine z_iload C dX9_comes_309 5 rfl ?_
          refine z_iload C dX9_comes_311 6 rfl ?_
          refine z_callS C (by decide) M_X9_place Ms_X9_place kw_m_X9_234 (t_X9_place hw) rfl rfl (Nat.le_of_ble_eq_true rfl) dX9_comes_313 (z_ki (fun r110 s111 hw => ?_))
          refine z_iload C dX9_comes_316 3 rfl ?_
          refine z_iast C za_81 (by decide) (Int32.toNatClampNeg r110) rfl hw.1 dX9_comes_318 (z_nms (fun s112 es112 => ?_))
          replace hw := hw.2
          replace hw := hw s112 es112
          refine z_iconst C 1 dX9_comes_319 (by decide) ?_
          exact z_ireturn C D dX9_comes_320 ⟨_, rfl, hw⟩
        · replace hw := hw.2 h
          refine z_iconst C 0 dX9_comes_303 (by decide) ?_
          exact z_ireturn C D dX9_comes_304 ⟨_, rfl, hw⟩
    · replace hw := hw.2 h
      refine z_iload C dX9_comes_207 4 rfl ?_
      refine z_if_ne C (tgt := 224) dX9_comes_209 (by decide) (fun h => ?_) (fun h => ?_)
      · replace hw := hw.1 h
        refine z_aload_n C dX9_comes_224 rfl 0 rfl ?_
        refine f_X9_96 C dX9_comes_225 ?_
        refine z_bipush C 40 dX9_comes_228 (by decide) ?_
        refine z_iload C dX9_comes_230 5 rfl ?_
        refine z_iload C dX9_comes_232 6 rfl ?_
        refine z_callS C (by decide) M_X9_place Ms_X9_place kw_m_X9_234 (t_X9_place hw) rfl rfl (Nat.le_of_ble_eq_true rfl) dX9_comes_234 (z_ki (fun r113 s114 hw => ?_))
        refine z_imul C dX9_comes_237 ?_
        refine z_iload C dX9_comes_238 8 rfl ?_
        refine z_iadd C dX9_comes_240 ?_
        refine z_iconst C 1 dX9_comes_241 (by decide) ?_
        refine z_zast C za_82 (by decide) (Int32.toNatClampNeg (((40 : Int32) * r113) + v10)) rfl hw.1 dX9_comes_242 (z_nms (fun s115 es115 => ?_))
        replace hw := hw.2
        replace hw := hw s115 es115
        refine z_iload C dX9_comes_243 7 rfl ?_
        refine z_if_eq C (tgt := 273) dX9_comes_245 (by decide) (fun h => ?_) (fun h => ?_)
        · replace hw := hw.1 h
          refine z_iconst C 0 dX9_comes_273 (by decide) ?_
          refine z_istore C [(9, .int (0 : Int32)), (0, .ref ((zXE X).1 54 0)), (2, .int a2), (3, .int a3), (4, .int a4), (5, .int v5), (7, .int v7), (8, .int v8), (10, .int v10)] dX9_comes_274 (by decide) rfl ?_
          refine z_iinc C (v10 + 1) [(10, .int (v10 + 1)), (9, .int (0 : Int32)), (0, .ref ((zXE X).1 54 0)), (2, .int a2), (3, .int a3), (4, .int a4), (5, .int v5), (7, .int v7), (8, .int v8)] dX9_comes_276 8 rfl rfl (by decide) rfl ?_
          refine z_goto C (tgt := 195) dX9_comes_279 (by decide) ?_
          exact z_lv [2, 3, 4, 5, 6, 7, 8, 1, 0] rfl hw
        · replace hw := hw.2 h
          refine z_aload_n C dX9_comes_248 rfl 0 rfl ?_
          refine f_X9_96 C dX9_comes_249 ?_
          refine z_bipush C 40 dX9_comes_252 (by decide) ?_
          refine z_iload C dX9_comes_254 5 rfl ?_
          refine z_iload C dX9_comes_256 6 rfl ?_
          refine z_callS C (by decide) M_X9_place Ms_X9_place kw_m_X9_234 (t_X9_place hw) rfl rfl (Nat.le_of_ble_eq_true rfl) dX9_comes_258 (z_ki (fun r116 s117 hw => ?_))
          refine z_imul C dX9_comes_261 ?_
          refine z_iload C dX9_comes_262 8 rfl ?_
          refine z_iadd C dX9_comes_264 ?_
          refine z_zald C za_82 (by decide) (Int32.toNatClampNeg (((40 : Int32) * r116) + v10)) rfl hw.1 dX9_comes_265 ?_
          replace hw := hw.2
          refine z_if_eq C (tgt := 273) dX9_comes_266 (by decide) (fun h => ?_) (fun h => ?_)
          · replace hw := hw.1 h
            refine z_iconst C 0 dX9_comes_273 (by decide) ?_
            refine z_istore C [(9, .int (0 : Int32)), (0, .ref ((zXE X).1 54 0)), (2, .int a2), (3, .int a3), (4, .int a4), (5, .int v5), (7, .int v7), (8, .int v8), (10, .int v10)] dX9_comes_274 (by decide) rfl ?_
            refine z_iinc C (v10 + 1) [(10, .int (v10 + 1)), (9, .int (0 : Int32)), (0, .ref ((zXE X).1 54 0)), (2, .int a2), (3, .int a3), (4, .int a4), (5, .int v5), (7, .int v7), (8, .int v8)] dX9_comes_276 8 rfl rfl (by decide) rfl ?_
            refine z_goto C (tgt := 195) dX9_comes_279 (by decide) ?_
            exact z_lv [2, 3, 4, 5, 6, 7, 8, 1, 0] rfl hw
          · replace hw := hw.2 h
            refine z_iconst C 1 dX9_comes_269 (by decide) ?_
            refine z_goto C (tgt := 274) dX9_comes_270 (by decide) ?_
            refine z_istore C [(9, .int (1 : Int32)), (0, .ref ((zXE X).1 54 0)), (2, .int a2), (3, .int a3), (4, .int a4), (5, .int v5), (7, .int v7), (8, .int v8), (10, .int v10)] dX9_comes_274 (by decide) rfl ?_
            refine z_iinc C (v10 + 1) [(10, .int (v10 + 1)), (9, .int (1 : Int32)), (0, .ref ((zXE X).1 54 0)), (2, .int a2), (3, .int a3), (4, .int a4), (5, .int v5), (7, .int v7), (8, .int v8)] dX9_comes_276 8 rfl rfl (by decide) rfl ?_
            refine z_goto C (tgt := 195) dX9_comes_279 (by decide) ?_
            exact z_lv [2, 3, 4, 5, 6, 7, 8, 1, 0] rfl hw
      · replace hw := hw.2 h
        refine z_iload C dX9_comes_212 8 rfl ?_
        refine z_iload_n C dX9_comes_214 rfl 1 rfl ?_
        refine z_icmp_lt C (tgt := 224) dX9_comes_215 (by decide) (fun h => ?_) (fun h => ?_)
        · replace hw := hw.1 h
          refine z_aload_n C dX9_comes_224 rfl 0 rfl ?_
          refine f_X9_96 C dX9_comes_225 ?_
          refine z_bipush C 40 dX9_comes_228 (by decide) ?_
          refine z_iload C dX9_comes_230 5 rfl ?_
          refine z_iload C dX9_comes_232 6 rfl ?_
          refine z_callS C (by decide) M_X9_place Ms_X9_place kw_m_X9_234 (t_X9_place hw) rfl rfl (Nat.le_of_ble_eq_true rfl) dX9_comes_234 (z_ki (fun r118 s119 hw => ?_))
          refine z_imul C dX9_comes_237 ?_
          refine z_iload C dX9_comes_238 8 rfl ?_
          refine z_iadd C dX9_comes_240 ?_
          refine z_iconst C 1 dX9_comes_241 (by decide) ?_
          refine z_zast C za_82 (by decide) (Int32.toNatClampNeg (((40 : Int32) * r118) + v10)) rfl hw.1 dX9_comes_242 (z_nms (fun s120 es120 => ?_))
          replace hw := hw.2
          replace hw := hw s120 es120
          refine z_iload C dX9_comes_243 7 rfl ?_
          refine z_if_eq C (tgt := 273) dX9_comes_245 (by decide) (fun h => ?_) (fun h => ?_)
          · replace hw := hw.1 h
            refine z_iconst C 0 dX9_comes_273 (by decide) ?_
            refine z_istore C [(9, .int (0 : Int32)), (0, .ref ((zXE X).1 54 0)), (2, .int a2), (3, .int a3), (4, .int a4), (5, .int v5), (7, .int v7), (8, .int v8), (10, .int v10)] dX9_comes_274 (by decide) rfl ?_
            refine z_iinc C (v10 + 1) [(10, .int (v10 + 1)), (9, .int (0 : Int32)), (0, .ref ((zXE X).1 54 0)), (2, .int a2), (3, .int a3), (4, .int a4), (5, .int v5), (7, .int v7), (8, .int v8)] dX9_comes_276 8 rfl rfl (by decide) rfl ?_
            refine z_goto C (tgt := 195) dX9_comes_279 (by decide) ?_
            exact z_lv [2, 3, 4, 5, 6, 7, 8, 1, 0] rfl hw
          · replace hw := hw.2 h
            refine z_aload_n C dX9_comes_248 rfl 0 rfl ?_
            refine f_X9_96 C dX9_comes_249 ?_
            refine z_bipush C 40 dX9_comes_252 (by decide) ?_
            refine z_iload C dX9_comes_254 5 rfl ?_
            refine z_iload C dX9_comes_256 6 rfl ?_
            refine z_callS C (by decide) M_X9_place Ms_X9_place kw_m_X9_234 (t_X9_place hw) rfl rfl (Nat.le_of_ble_eq_true rfl) dX9_comes_258 (z_ki (fun r121 s122 hw => ?_))
            refine z_imul C dX9_comes_261 ?_
            refine z_iload C dX9_comes_262 8 rfl ?_
            refine z_iadd C dX9_comes_264 ?_
            refine z_zald C za_82 (by decide) (Int32.toNatClampNeg (((40 : Int32) * r121) + v10)) rfl hw.1 dX9_comes_265 ?_
            replace hw := hw.2
            refine z_if_eq C (tgt := 273) dX9_comes_266 (by decide) (fun h => ?_) (fun h => ?_)
            · replace hw := hw.1 h
              refine z_iconst C 0 dX9_comes_273 (by decide) ?_
              refine z_istore C [(9, .int (0 : Int32)), (0, .ref ((zXE X).1 54 0)), (2, .int a2), (3, .int a3), (4, .int a4), (5, .int v5), (7, .int v7), (8, .int v8), (10, .int v10)] dX9_comes_274 (by decide) rfl ?_
              refine z_iinc C (v10 + 1) [(10, .int (v10 + 1)), (9, .int (0 : Int32)), (0, .ref ((zXE X).1 54 0)), (2, .int a2), (3, .int a3), (4, .int a4), (5, .int v5), (7, .int v7), (8, .int v8)] dX9_comes_276 8 rfl rfl (by decide) rfl ?_
              refine z_goto C (tgt := 195) dX9_comes_279 (by decide) ?_
              exact z_lv [2, 3, 4, 5, 6, 7, 8, 1, 0] rfl hw
            · replace hw := hw.2 h
              refine z_iconst C 1 dX9_comes_269 (by decide) ?_
              refine z_goto C (tgt := 274) dX9_comes_270 (by decide) ?_
              refine z_istore C [(9, .int (1 : Int32)), (0, .ref ((zXE X).1 54 0)), (2, .int a2), (3, .int a3), (4, .int a4), (5, .int v5), (7, .int v7), (8, .int v8), (10, .int v10)] dX9_comes_274 (by decide) rfl ?_
              refine z_iinc C (v10 + 1) [(10, .int (v10 + 1)), (9, .int (1 : Int32)), (0, .ref ((zXE X).1 54 0)), (2, .int a2), (3, .int a3), (4, .int a4), (5, .int v5), (7, .int v7), (8, .int v8)] dX9_comes_276 8 rfl rfl (by decide) rfl ?_
              refine z_goto C (tgt := 195) dX9_comes_279 (by decide) ?_
              exact z_lv [2, 3, 4, 5, 6, 7, 8, 1, 0] rfl hw
        · replace hw := hw.2 h
          refine z_iload C dX9_comes_218 8 rfl ?_
          refine z_iload_n C dX9_comes_220 rfl 2 rfl ?_
          refine z_icmp_le C (tgt := 243) dX9_comes_221 (by decide) (fun h => ?_) (fun h => ?_)
          · replace hw := hw.1 h
            refine z_iload C dX9_comes_243 7 rfl ?_
            refine z_if_eq C (tgt := 273) dX9_comes_245 (by decide) (fun h => ?_) (fun h => ?_)
            · replace hw := hw.1 h
              refine z_iconst C 0 dX9_comes_273 (by decide) ?_
              refine z_istore C [(9, .int (0 : Int32)), (0, .ref ((zXE X).1 54 0)), (2, .int a2), (3, .int a3), (4, .int a4), (5, .int v5), (7, .int v7), (8, .int v8), (10, .int v10)] dX9_comes_274 (by decide) rfl ?_
              refine z_iinc C (v10 + 1) [(10, .int (v10 + 1)), (9, .int (0 : Int32)), (0, .ref ((zXE X).1 54 0)), (2, .int a2), (3, .int a3), (4, .int a4), (5, .int v5), (7, .int v7), (8, .int v8)] dX9_comes_276 8 rfl rfl (by decide) rfl ?_
              refine z_goto C (tgt := 195) dX9_comes_279 (by decide) ?_
              exact z_lv [2, 3, 4, 5, 6, 7, 8, 1, 0] rfl hw
            · replace hw := hw.2 h
              refine z_aload_n C dX9_comes_248 rfl 0 rfl ?_
              refine f_X9_96 C dX9_comes_249 ?_
              refine z_bipush C 40 dX9_comes_252 (by decide) ?_
              refine z_iload C dX9_comes_254 5 rfl ?_
              refine z_iload C dX9_comes_256 6 rfl ?_
              refine z_callS C (by decide) M_X9_place Ms_X9_place kw_m_X9_234 (t_X9_place hw) rfl rfl (Nat.le_of_ble_eq_true rfl) dX9_comes_258 (z_ki (fun r123 s124 hw => ?_))
              refine z_imul C dX9_comes_261 ?_
              refine z_iload C dX9_comes_262 8 rfl ?_
              refine z_iadd C dX9_comes_264 ?_
              refine z_zald C za_82 (by decide) (Int32.toNatClampNeg (((40 : Int32) * r123) + v10)) rfl hw.1 dX9_comes_265 ?_
              replace hw := hw.2
              refine z_if_eq C (tgt := 273) dX9_comes_266 (by decide) (fun h => ?_) (fun h => ?_)
              · replace hw := hw.1 h
                refine z_iconst C 0 dX9_comes_273 (by decide) ?_
                refine z_istore C [(9, .int (0 : Int32)), (0, .ref ((zXE X).1 54 0)), (2, .int a2), (3, .int a3), (4, .int a4), (5, .int v5), (7, .int v7), (8, .int v8), (10, .int v10)] dX9_comes_274 (by decide) rfl ?_
                refine z_iinc C (v10 + 1) [(10, .int (v10 + 1)), (9, .int (0 : Int32)), (0, .ref ((zXE X).1 54 0)), (2, .int a2), (3, .int a3), (4, .int a4), (5, .int v5), (7, .int v7), (8, .int v8)] dX9_comes_276 8 rfl rfl (by decide) rfl ?_
                refine z_goto C (tgt := 195) dX9_comes_279 (by decide) ?_
                exact z_lv [2, 3, 4, 5, 6, 7, 8, 1, 0] rfl hw
              · replace hw := hw.2 h
                refine z_iconst C 1 dX9_comes_269 (by decide) ?_
                refine z_goto C (tgt := 274) dX9_comes_270 (by decide) ?_
                refine z_istore C [(9, .int (1 : Int32)), (0, .ref ((zXE X).1 54 0)), (2, .int a2), (3, .int a3), (4, .int a4), (5, .int v5), (7, .int v7), (8, .int v8), (10, .int v10)] dX9_comes_274 (by decide) rfl ?_
                refine z_iinc C (v10 + 1) [(10, .int (v10 + 1)), (9, .int (1 : Int32)), (0, .ref ((zXE X).1 54 0)), (2, .int a2), (3, .int a3), (4, .int a4), (5, .int v5), (7, .int v7), (8, .int v8)] dX9_comes_276 8 rfl rfl (by decide) rfl ?_
                refine z_goto C (tgt := 195) dX9_comes_279 (by decide) ?_
                exact z_lv [2, 3, 4, 5, 6, 7, 8, 1, 0] rfl hw
          · replace hw := hw.2 h
            refine z_aload_n C dX9_comes_224 rfl 0 rfl ?_
            refine f_X9_96 C dX9_comes_225 ?_
            refine z_bipush C 40 dX9_comes_228 (by decide) ?_
            refine z_iload C dX9_comes_230 5 rfl ?_
            refine z_iload C dX9_comes_232 6 rfl ?_
            refine z_callS C (by decide) M_X9_place Ms_X9_place kw_m_X9_234 (t_X9_place hw) rfl rfl (Nat.le_of_ble_eq_true rfl) dX9_comes_234 (z_ki (fun r125 s126 hw => ?_))
            refine z_imul C dX9_comes_237 ?_
            refine z_iload C dX9_comes_238 8 rfl ?_
            refine z_iadd C dX9_comes_240 ?_
            refine z_iconst C 1 dX9_comes_241 (by decide) ?_
            refine z_zast C za_82 (by decide) (Int32.toNatClampNeg (((40 : Int32) * r125) + v10)) rfl hw.1 dX9_comes_242 (z_nms (fun s127 es127 => ?_))
            replace hw := hw.2
            replace hw := hw s127 es127
            refine z_iload C dX9_comes_243 7 rfl ?_
            refine z_if_eq C (tgt := 273) dX9_comes_245 (by decide) (fun h => ?_) (fun h => ?_)
            · replace hw := hw.1 h
              refine z_iconst C 0 dX9_comes_273 (by decide) ?_
              refine z_istore C [(9, .int (0 : Int32)), (0, .ref ((zXE X).1 54 0)), (2, .int a2), (3, .int a3), (4, .int a4), (5, .int v5), (7, .int v7), (8, .int v8), (10, .int v10)] dX9_comes_274 (by decide) rfl ?_
              refine z_iinc C (v10 + 1) [(10, .int (v10 + 1)), (9, .int (0 : Int32)), (0, .ref ((zXE X).1 54 0)), (2, .int a2), (3, .int a3), (4, .int a4), (5, .int v5), (7, .int v7), (8, .int v8)] dX9_comes_276 8 rfl rfl (by decide) rfl ?_
              refine z_goto C (tgt := 195) dX9_comes_279 (by decide) ?_
              exact z_lv [2, 3, 4, 5, 6, 7, 8, 1, 0] rfl hw
            · replace hw := hw.2 h
              refine z_aload_n C dX9_comes_248 rfl 0 rfl ?_
              refine f_X9_96 C dX9_comes_249 ?_
              refine z_bipush C 40 dX9_comes_252 (by decide) ?_
              refine z_iload C dX9_comes_254 5 rfl ?_
              refine z_iload C dX9_comes_256 6 rfl ?_
              refine z_callS C (by decide) M_X9_place Ms_X9_place kw_m_X9_234 (t_X9_place hw) rfl rfl (Nat.le_of_ble_eq_true rfl) dX9_comes_258 (z_ki (fun r128 s129 hw => ?_))
              refine z_imul C dX9_comes_261 ?_
              refine z_iload C dX9_comes_262 8 rfl ?_
              refine z_iadd C dX9_comes_264 ?_
              refine z_zald C za_82 (by decide) (Int32.toNatClampNeg (((40 : Int32) * r128) + v10)) rfl hw.1 dX9_comes_265 ?_
              replace hw := hw.2
              refine z_if_eq C (tgt := 273) dX9_comes_266 (by decide) (fun h => ?_) (fun h => ?_)
              · replace hw := hw.1 h
                refine z_iconst C 0 dX9_comes_273 (by decide) ?_
                refine z_istore C [(9, .int (0 : Int32)), (0, .ref ((zXE X).1 54 0)), (2, .int a2), (3, .int a3), (4, .int a4), (5, .int v5), (7, .int v7), (8, .int v8), (10, .int v10)] dX9_comes_274 (by decide) rfl ?_
                refine z_iinc C (v10 + 1) [(10, .int (v10 + 1)), (9, .int (0 : Int32)), (0, .ref ((zXE X).1 54 0)), (2, .int a2), (3, .int a3), (4, .int a4), (5, .int v5), (7, .int v7), (8, .int v8)] dX9_comes_276 8 rfl rfl (by decide) rfl ?_
                refine z_goto C (tgt := 195) dX9_comes_279 (by decide) ?_
                exact z_lv [2, 3, 4, 5, 6, 7, 8, 1, 0] rfl hw
              · replace hw := hw.2 h
                refine z_iconst C 1 dX9_comes_269 (by decide) ?_
                refine z_goto C (tgt := 274) dX9_comes_270 (by decide) ?_
                refine z_istore C [(9, .int (1 : Int32)), (0, .ref ((zXE X).1 54 0)), (2, .int a2), (3, .int a3), (4, .int a4), (5, .int v5), (7, .int v7), (8, .int v8), (10, .int v10)] dX9_comes_274 (by decide) rfl ?_
                refine z_iinc C (v10 + 1) [(10, .int (v10 + 1)), (9, .int (1 : Int32)), (0, .ref ((zXE X).1 54 0)), (2, .int a2), (3, .int a3), (4, .int a4), (5, .int v5), (7, .int v7), (8, .int v8)] dX9_comes_276 8 rfl rfl (by decide) rfl ?_
                refine z_goto C (tgt := 195) dX9_comes_279 (by decide) ?_
                exact z_lv [2, 3, 4, 5, 6, 7, 8, 1, 0] rfl hw
  refine z_aload_n C dX9_comes_0 rfl 0 rfl ?_
  refine z_iload_n C dX9_comes_1 rfl 1 rfl ?_
  refine z_callV C (by decide) M_X9_isBird Mv_X9_isBird kw_m_X9_149 ob_X9 (t_X9_isBird hw) rfl rfl (Nat.le_of_ble_eq_true rfl) dX9_comes_2 (z_kb (fun r1 s2 hr1 hw => ?_))
  refine z_if_eq C (tgt := 16) dX9_comes_5 (by decide) (fun h => ?_) (fun h => ?_)
  · replace hw := hw.1 h
    refine z_aload_n C dX9_comes_16 rfl 0 rfl ?_
    refine z_iconst C 1 dX9_comes_17 (by decide) ?_
    refine z_callV C (by decide) M_X9_refuse Mv_X9_refuse kw_m_X9_139 ob_X9 (t_X9_refuse hw) rfl rfl (Nat.le_of_ble_eq_true rfl) dX9_comes_18 (z_ki (fun r3 s4 hw => ?_))
    exact z_ireturn C D dX9_comes_21 ⟨_, rfl, hw⟩
  · replace hw := hw.2 h
    refine z_iload C dX9_comes_8 4 rfl ?_
    refine z_callS C (by decide) M_X9_isMinute Ms_X9_isMinute kw_m_X9_226 (t_X9_isMinute hw) rfl rfl (Nat.le_of_ble_eq_true rfl) dX9_comes_10 (z_kb (fun r5 s6 hr5 hw => ?_))
    refine z_if_ne C (tgt := 22) dX9_comes_13 (by decide) (fun h => ?_) (fun h => ?_)
    · replace hw := hw.1 h
      refine z_iload_n C dX9_comes_22 rfl 2 rfl ?_
      refine z_iconst C (-1) dX9_comes_23 (by decide) ?_
      refine z_icmp_ne C (tgt := 36) dX9_comes_24 (by decide) (fun h => ?_) (fun h => ?_)
      · replace hw := hw.1 h
        refine z_iconst C 0 dX9_comes_36 (by decide) ?_
        refine z_istore C [(5, .int (0 : Int32)), (0, .ref ((zXE X).1 54 0)), (1, .int a1), (2, .int a2), (3, .int a3), (4, .int a4)] dX9_comes_37 (by decide) rfl ?_
        refine z_aload_n C dX9_comes_39 rfl 1 rfl ?_
        refine f_X9_45 C dX9_comes_40 ?_
        refine z_iload_n C dX9_comes_43 rfl 2 rfl ?_
        refine z_iald C za_65 (by decide) (Int32.toNatClampNeg a1) rfl hw.1 dX9_comes_44 ?_
        replace hw := hw.2
        refine z_iconst C 1 dX9_comes_45 (by decide) ?_
        refine z_icmp_ne C (tgt := 63) dX9_comes_46 (by decide) (fun h => ?_) (fun h => ?_)
        · replace hw := hw.1 h
          refine z_bipush C 40 dX9_comes_63 (by decide) ?_
          refine z_istore C [(6, .int (40 : Int32)), (5, .int (0 : Int32)), (0, .ref ((zXE X).1 54 0)), (1, .int a1), (2, .int a2), (3, .int a3), (4, .int a4)] dX9_comes_65 (by decide) rfl ?_
          refine z_iload C dX9_comes_67 1 rfl ?_
          refine z_if_ne C (tgt := 93) dX9_comes_69 (by decide) (fun h => absurd h (by decide)) (fun _ => ?_)
          refine z_iload_n C dX9_comes_72 rfl 4 rfl ?_
          refine z_if_lt C (tgt := 87) dX9_comes_73 (by decide) (fun h => ?_) (fun h => ?_)
          · replace hw := hw.1 h
            refine z_aload_n C dX9_comes_87 rfl 2 rfl ?_
            refine z_iconst C 1 dX9_comes_88 (by decide) ?_
            refine z_callV C (by decide) M_X9_refuse Mv_X9_refuse kw_m_X9_139 ob_X9 (t_X9_refuse hw) rfl rfl (Nat.le_of_ble_eq_true rfl) dX9_comes_89 (z_ki (fun r7 s8 hw => ?_))
            exact z_ireturn C D dX9_comes_92 ⟨_, rfl, hw⟩
          · replace hw := hw.2 h
            refine z_iload_n C dX9_comes_76 rfl 5 rfl ?_
            refine z_iload_n C dX9_comes_77 rfl 4 rfl ?_
            refine z_icmp_lt C (tgt := 87) dX9_comes_78 (by decide) (fun h => ?_) (fun h => ?_)
            · replace hw := hw.1 h
              refine z_aload_n C dX9_comes_87 rfl 2 rfl ?_
              refine z_iconst C 1 dX9_comes_88 (by decide) ?_
              refine z_callV C (by decide) M_X9_refuse Mv_X9_refuse kw_m_X9_139 ob_X9 (t_X9_refuse hw) rfl rfl (Nat.le_of_ble_eq_true rfl) dX9_comes_89 (z_ki (fun r9 s10 hw => ?_))
              exact z_ireturn C D dX9_comes_92 ⟨_, rfl, hw⟩
            · replace hw := hw.2 h
              refine z_iload_n C dX9_comes_81 rfl 5 rfl ?_
              refine z_iload C dX9_comes_82 0 rfl ?_
              refine z_icmp_lt C (tgt := 93) dX9_comes_84 (by decide) (fun h => ?_) (fun h => ?_)
              · replace hw := hw.1 h
                refine z_iload C dX9_comes_93 6 rfl ?_
                refine z_aload_n C dX9_comes_95 rfl 2 rfl ?_
                refine f_X9_229 C dX9_comes_96 ?_
                refine z_icmp_ge C (tgt := 108) dX9_comes_99 (by decide) (fun h => ?_) (fun h => ?_)
                · replace hw := hw.1 h
                  refine z_aload_n C dX9_comes_108 rfl 2 rfl ?_
                  refine f_X9_45 C dX9_comes_109 ?_
                  refine z_iload_n C dX9_comes_112 rfl 3 rfl ?_
                  refine z_iald C za_65 (by decide) (Int32.toNatClampNeg a1) rfl hw.1 dX9_comes_113 ?_
                  replace hw := hw.2
                  refine z_iconst C 1 dX9_comes_114 (by decide) ?_
                  refine z_icmp_eq C (tgt := 125) dX9_comes_115 (by decide) (fun h => ?_) (fun h => ?_)
                  · replace hw := hw.1 h
                    refine z_aload_n C dX9_comes_125 rfl 2 rfl ?_
                    refine z_iload C dX9_comes_126 6 rfl ?_
                    refine p_X9_229 C dX9_comes_128 (z_nms (fun s11 es11 => ?_))
                    replace hw := hw s11 es11
                    refine z_aload_n C dX9_comes_131 rfl 2 rfl ?_
                    refine z_iconst C 0 dX9_comes_132 (by decide) ?_
                    refine p_X9_109 C dX9_comes_133 (z_nms (fun s12 es12 => ?_))
                    replace hw := hw s12 es12
                    refine z_aload_n C dX9_comes_136 rfl 2 rfl ?_
                    refine f_X9_51 C dX9_comes_137 ?_
                    refine z_iload_n C dX9_comes_140 rfl 3 rfl ?_
                    refine z_iald C za_67 (by decide) (Int32.toNatClampNeg a1) rfl hw.1 dX9_comes_141 ?_
                    replace hw := hw.2
                    refine z_nmi (fun x13 ex13 => ?_)
                    replace hw := hw x13 ex13
                    refine z_istore C [(7, .int x13), (6, .int (40 : Int32)), (5, .int (0 : Int32)), (0, .ref ((zXE X).1 54 0)), (1, .int a1), (2, .int a2), (3, .int a3), (4, .int a4)] dX9_comes_142 (by decide) rfl ?_
                    refine z_aload_n C dX9_comes_144 rfl 3 rfl ?_
                    refine f_X9_39 C dX9_comes_145 ?_
                    refine z_iload_n C dX9_comes_148 rfl 4 rfl ?_
                    refine z_iald C za_63 (by decide) (Int32.toNatClampNeg a1) rfl hw.1 dX9_comes_149 ?_
                    replace hw := hw.2
                    refine z_nmi (fun x14 ex14 => ?_)
                    replace hw := hw x14 ex14
                    refine z_istore C [(8, .int x14), (7, .int x13), (6, .int (40 : Int32)), (5, .int (0 : Int32)), (0, .ref ((zXE X).1 54 0)), (1, .int a1), (2, .int a2), (3, .int a3), (4, .int a4)] dX9_comes_150 (by decide) rfl ?_
                    refine z_aload_n C dX9_comes_152 rfl 4 rfl ?_
                    refine f_X9_45 C dX9_comes_153 ?_
                    refine z_iload_n C dX9_comes_156 rfl 5 rfl ?_
                    refine z_iconst C 0 dX9_comes_157 (by decide) ?_
                    refine z_iast C za_65 (by decide) (Int32.toNatClampNeg a1) rfl hw.1 dX9_comes_158 (z_nms (fun s15 es15 => ?_))
                    replace hw := hw.2
                    replace hw := hw s15 es15
                    refine z_aload_n C dX9_comes_159 rfl 4 rfl ?_
                    refine f_X9_42 C dX9_comes_160 ?_
                    refine z_iload_n C dX9_comes_163 rfl 5 rfl ?_
                    refine z_iload C dX9_comes_164 0 rfl ?_
                    refine z_iast C za_64 (by decide) (Int32.toNatClampNeg a1) rfl hw.1 dX9_comes_166 (z_nms (fun s16 es16 => ?_))
                    replace hw := hw.2
                    replace hw := hw s16 es16
                    refine z_aload_n C dX9_comes_167 rfl 4 rfl ?_
                    refine f_X9_48 C dX9_comes_168 ?_
                    refine z_iload_n C dX9_comes_171 rfl 5 rfl ?_
                    refine z_iload C dX9_comes_172 8 rfl ?_
                    refine z_bipush C 60 dX9_comes_174 (by decide) ?_
                    refine z_iadd C dX9_comes_176 ?_
                    refine z_iast C za_66 (by decide) (Int32.toNatClampNeg a1) rfl hw.1 dX9_comes_177 (z_nms (fun s17 es17 => ?_))
                    replace hw := hw.2
                    replace hw := hw s17 es17
                    refine z_aload_n C dX9_comes_178 rfl 4 rfl ?_
                    refine f_X9_84 C dX9_comes_179 ?_
                    refine z_iload C dX9_comes_182 1 rfl ?_
                    refine z_dup2_11 C dX9_comes_184 rfl rfl ?_
                    refine z_iald C za_78 (by decide) (Int32.toNatClampNeg x13) rfl hw.1 dX9_comes_185 ?_
                    replace hw := hw.2
                    refine z_iconst C 1 dX9_comes_186 (by decide) ?_
                    refine z_iadd C dX9_comes_187 ?_
                    refine z_iast C za_78 (by decide) (Int32.toNatClampNeg x13) rfl hw.1 dX9_comes_188 (z_nms (fun s18 es18 => ?_))
                    replace hw := hw.2
                    replace hw := hw s18 es18
                    refine z_iconst C 1 dX9_comes_189 (by decide) ?_
                    refine z_istore C [(9, .int (1 : Int32)), (8, .int x14), (7, .int x13), (6, .int (40 : Int32)), (5, .int (0 : Int32)), (0, .ref ((zXE X).1 54 0)), (1, .int a1), (2, .int a2), (3, .int a3), (4, .int a4)] dX9_comes_190 (by decide) rfl ?_
                    refine z_iconst C 0 dX9_comes_192 (by decide) ?_
                    refine z_istore C [(10, .int (0 : Int32)), (9, .int (1 : Int32)), (8, .int x14), (7, .int x13), (6, .int (40 : Int32)), (5, .int (0 : Int32)), (0, .ref ((zXE X).1 54 0)), (1, .int a1), (2, .int a2), (3, .int a3), (4, .int a4)] dX9_comes_193 (by decide) rfl ?_
                    exact z_lv [6, 8, 9, 10, 5, 3, 2, 1, 0] rfl hw
                  · replace hw := hw.2 h
                    refine z_aload_n C dX9_comes_118 rfl 2 rfl ?_
                    refine z_bipush C 7 dX9_comes_119 (by decide) ?_
                    refine z_callV C (by decide) M_X9_refuse Mv_X9_refuse kw_m_X9_139 ob_X9 (t_X9_refuse hw) rfl rfl (Nat.le_of_ble_eq_true rfl) dX9_comes_121 (z_ki (fun r19 s20 hw => ?_))
                    exact z_ireturn C D dX9_comes_124 ⟨_, rfl, hw⟩
                · replace hw := hw.2 h
                  refine z_aload_n C dX9_comes_102 rfl 2 rfl ?_
                  refine z_iconst C 2 dX9_comes_103 (by decide) ?_
                  refine z_callV C (by decide) M_X9_refuse Mv_X9_refuse kw_m_X9_139 ob_X9 (t_X9_refuse hw) rfl rfl (Nat.le_of_ble_eq_true rfl) dX9_comes_104 (z_ki (fun r21 s22 hw => ?_))
                  exact z_ireturn C D dX9_comes_107 ⟨_, rfl, hw⟩
              · replace hw := hw.2 h
                refine z_aload_n C dX9_comes_87 rfl 2 rfl ?_
                refine z_iconst C 1 dX9_comes_88 (by decide) ?_
                refine z_callV C (by decide) M_X9_refuse Mv_X9_refuse kw_m_X9_139 ob_X9 (t_X9_refuse hw) rfl rfl (Nat.le_of_ble_eq_true rfl) dX9_comes_89 (z_ki (fun r23 s24 hw => ?_))
                exact z_ireturn C D dX9_comes_92 ⟨_, rfl, hw⟩
        · replace hw := hw.2 h
          refine z_aload_n C dX9_comes_49 rfl 1 rfl ?_
          refine f_X9_78 C dX9_comes_50 ?_
          refine z_aload_n C dX9_comes_53 rfl 1 rfl ?_
          refine f_X9_51 C dX9_comes_54 ?_
          refine z_iload_n C dX9_comes_57 rfl 2 rfl ?_
          refine z_iald C za_67 (by decide) (Int32.toNatClampNeg a1) rfl hw.1 dX9_comes_58 ?_
          replace hw := hw.2
          refine z_iald C za_76 (by decide) (Int32.toNatClampNeg (zi s6 67 0 (Int32.toNatClampNeg a1))) rfl hw.1 dX9_comes_59 ?_
          replace hw := hw.2
          refine z_goto C (tgt := 65) dX9_comes_60 (by decide) ?_
          refine z_nmi (fun x25 ex25 => ?_)
          replace hw := hw x25 ex25
          refine z_istore C [(6, .int x25), (5, .int (0 : Int32)), (0, .ref ((zXE X).1 54 0)), (1, .int a1), (2, .int a2), (3, .int a3), (4, .int a4)] dX9_comes_65 (by decide) rfl ?_
          refine z_iload C dX9_comes_67 1 rfl ?_
          refine z_if_ne C (tgt := 93) dX9_comes_69 (by decide) (fun h => absurd h (by decide)) (fun _ => ?_)
          refine z_iload_n C dX9_comes_72 rfl 4 rfl ?_
          refine z_if_lt C (tgt := 87) dX9_comes_73 (by decide) (fun h => ?_) (fun h => ?_)
          · replace hw := hw.1 h
            refine z_aload_n C dX9_comes_87 rfl 2 rfl ?_
            refine z_iconst C 1 dX9_comes_88 (by decide) ?_
            refine z_callV C (by decide) M_X9_refuse Mv_X9_refuse kw_m_X9_139 ob_X9 (t_X9_refuse hw) rfl rfl (Nat.le_of_ble_eq_true rfl) dX9_comes_89 (z_ki (fun r26 s27 hw => ?_))
            exact z_ireturn C D dX9_comes_92 ⟨_, rfl, hw⟩
          · replace hw := hw.2 h
            refine z_iload_n C dX9_comes_76 rfl 5 rfl ?_
            refine z_iload_n C dX9_comes_77 rfl 4 rfl ?_
            refine z_icmp_lt C (tgt := 87) dX9_comes_78 (by decide) (fun h => ?_) (fun h => ?_)
            · replace hw := hw.1 h
              refine z_aload_n C dX9_comes_87 rfl 2 rfl ?_
              refine z_iconst C 1 dX9_comes_88 (by decide) ?_
              refine z_callV C (by decide) M_X9_refuse Mv_X9_refuse kw_m_X9_139 ob_X9 (t_X9_refuse hw) rfl rfl (Nat.le_of_ble_eq_true rfl) dX9_comes_89 (z_ki (fun r28 s29 hw => ?_))
              exact z_ireturn C D dX9_comes_92 ⟨_, rfl, hw⟩
            · replace hw := hw.2 h
              refine z_iload_n C dX9_comes_81 rfl 5 rfl ?_
              refine z_iload C dX9_comes_82 0 rfl ?_
              refine z_icmp_lt C (tgt := 93) dX9_comes_84 (by decide) (fun h => ?_) (fun h => ?_)
              · replace hw := hw.1 h
                refine z_iload C dX9_comes_93 6 rfl ?_
                refine z_aload_n C dX9_comes_95 rfl 2 rfl ?_
                refine f_X9_229 C dX9_comes_96 ?_
                refine z_icmp_ge C (tgt := 108) dX9_comes_99 (by decide) (fun h => ?_) (fun h => ?_)
                · replace hw := hw.1 h
                  refine z_aload_n C dX9_comes_108 rfl 2 rfl ?_
                  refine f_X9_45 C dX9_comes_109 ?_
                  refine z_iload_n C dX9_comes_112 rfl 3 rfl ?_
                  refine z_iald C za_65 (by decide) (Int32.toNatClampNeg a1) rfl hw.1 dX9_comes_113 ?_
                  replace hw := hw.2
                  refine z_iconst C 1 dX9_comes_114 (by decide) ?_
                  refine z_icmp_eq C (tgt := 125) dX9_comes_115 (by decide) (fun h => ?_) (fun h => ?_)
                  · replace hw := hw.1 h
                    refine z_aload_n C dX9_comes_125 rfl 2 rfl ?_
                    refine z_iload C dX9_comes_126 6 rfl ?_
                    refine p_X9_229 C dX9_comes_128 (z_nms (fun s30 es30 => ?_))
                    replace hw := hw s30 es30
                    refine z_aload_n C dX9_comes_131 rfl 2 rfl ?_
                    refine z_iconst C 0 dX9_comes_132 (by decide) ?_
                    refine p_X9_109 C dX9_comes_133 (z_nms (fun s31 es31 => ?_))
                    replace hw := hw s31 es31
                    refine z_aload_n C dX9_comes_136 rfl 2 rfl ?_
                    refine f_X9_51 C dX9_comes_137 ?_
                    refine z_iload_n C dX9_comes_140 rfl 3 rfl ?_
                    refine z_iald C za_67 (by decide) (Int32.toNatClampNeg a1) rfl hw.1 dX9_comes_141 ?_
                    replace hw := hw.2
                    refine z_nmi (fun x32 ex32 => ?_)
                    replace hw := hw x32 ex32
                    refine z_istore C [(7, .int x32), (6, .int x25), (5, .int (0 : Int32)), (0, .ref ((zXE X).1 54 0)), (1, .int a1), (2, .int a2), (3, .int a3), (4, .int a4)] dX9_comes_142 (by decide) rfl ?_
                    refine z_aload_n C dX9_comes_144 rfl 3 rfl ?_
                    refine f_X9_39 C dX9_comes_145 ?_
                    refine z_iload_n C dX9_comes_148 rfl 4 rfl ?_
                    refine z_iald C za_63 (by decide) (Int32.toNatClampNeg a1) rfl hw.1 dX9_comes_149 ?_
                    replace hw := hw.2
                    refine z_nmi (fun x33 ex33 => ?_)
                    replace hw := hw x33 ex33
                    refine z_istore C [(8, .int x33), (7, .int x32), (6, .int x25), (5, .int (0 : Int32)), (0, .ref ((zXE X).1 54 0)), (1, .int a1), (2, .int a2), (3, .int a3), (4, .int a4)] dX9_comes_150 (by decide) rfl ?_
                    refine z_aload_n C dX9_comes_152 rfl 4 rfl ?_
                    refine f_X9_45 C dX9_comes_153 ?_
                    refine z_iload_n C dX9_comes_156 rfl 5 rfl ?_
                    refine z_iconst C 0 dX9_comes_157 (by decide) ?_
                    refine z_iast C za_65 (by decide) (Int32.toNatClampNeg a1) rfl hw.1 dX9_comes_158 (z_nms (fun s34 es34 => ?_))
                    replace hw := hw.2
                    replace hw := hw s34 es34
                    refine z_aload_n C dX9_comes_159 rfl 4 rfl ?_
                    refine f_X9_42 C dX9_comes_160 ?_
                    refine z_iload_n C dX9_comes_163 rfl 5 rfl ?_
                    refine z_iload C dX9_comes_164 0 rfl ?_
                    refine z_iast C za_64 (by decide) (Int32.toNatClampNeg a1) rfl hw.1 dX9_comes_166 (z_nms (fun s35 es35 => ?_))
                    replace hw := hw.2
                    replace hw := hw s35 es35
                    refine z_aload_n C dX9_comes_167 rfl 4 rfl ?_
                    refine f_X9_48 C dX9_comes_168 ?_
                    refine z_iload_n C dX9_comes_171 rfl 5 rfl ?_
                    refine z_iload C dX9_comes_172 8 rfl ?_
                    refine z_bipush C 60 dX9_comes_174 (by decide) ?_
                    refine z_iadd C dX9_comes_176 ?_
                    refine z_iast C za_66 (by decide) (Int32.toNatClampNeg a1) rfl hw.1 dX9_comes_177 (z_nms (fun s36 es36 => ?_))
                    replace hw := hw.2
                    replace hw := hw s36 es36
                    refine z_aload_n C dX9_comes_178 rfl 4 rfl ?_
                    refine f_X9_84 C dX9_comes_179 ?_
                    refine z_iload C dX9_comes_182 1 rfl ?_
                    refine z_dup2_11 C dX9_comes_184 rfl rfl ?_
                    refine z_iald C za_78 (by decide) (Int32.toNatClampNeg x32) rfl hw.1 dX9_comes_185 ?_
                    replace hw := hw.2
                    refine z_iconst C 1 dX9_comes_186 (by decide) ?_
                    refine z_iadd C dX9_comes_187 ?_
                    refine z_iast C za_78 (by decide) (Int32.toNatClampNeg x32) rfl hw.1 dX9_comes_188 (z_nms (fun s37 es37 => ?_))
                    replace hw := hw.2
                    replace hw := hw s37 es37
                    refine z_iconst C 1 dX9_comes_189 (by decide) ?_
                    refine z_istore C [(9, .int (1 : Int32)), (8, .int x33), (7, .int x32), (6, .int x25), (5, .int (0 : Int32)), (0, .ref ((zXE X).1 54 0)), (1, .int a1), (2, .int a2), (3, .int a3), (4, .int a4)] dX9_comes_190 (by decide) rfl ?_
                    refine z_iconst C 0 dX9_comes_192 (by decide) ?_
                    refine z_istore C [(10, .int (0 : Int32)), (9, .int (1 : Int32)), (8, .int x33), (7, .int x32), (6, .int x25), (5, .int (0 : Int32)), (0, .ref ((zXE X).1 54 0)), (1, .int a1), (2, .int a2), (3, .int a3), (4, .int a4)] dX9_comes_193 (by decide) rfl ?_
                    exact z_lv [6, 8, 9, 10, 5, 3, 2, 1, 0] rfl hw
                  · replace hw := hw.2 h
                    refine z_aload_n C dX9_comes_118 rfl 2 rfl ?_
                    refine z_bipush C 7 dX9_comes_119 (by decide) ?_
                    refine z_callV C (by decide) M_X9_refuse Mv_X9_refuse kw_m_X9_139 ob_X9 (t_X9_refuse hw) rfl rfl (Nat.le_of_ble_eq_true rfl) dX9_comes_121 (z_ki (fun r38 s39 hw => ?_))
                    exact z_ireturn C D dX9_comes_124 ⟨_, rfl, hw⟩
                · replace hw := hw.2 h
                  refine z_aload_n C dX9_comes_102 rfl 2 rfl ?_
                  refine z_iconst C 2 dX9_comes_103 (by decide) ?_
                  refine z_callV C (by decide) M_X9_refuse Mv_X9_refuse kw_m_X9_139 ob_X9 (t_X9_refuse hw) rfl rfl (Nat.le_of_ble_eq_true rfl) dX9_comes_104 (z_ki (fun r40 s41 hw => ?_))
                  exact z_ireturn C D dX9_comes_107 ⟨_, rfl, hw⟩
              · replace hw := hw.2 h
                refine z_aload_n C dX9_comes_87 rfl 2 rfl ?_
                refine z_iconst C 1 dX9_comes_88 (by decide) ?_
                refine z_callV C (by decide) M_X9_refuse Mv_X9_refuse kw_m_X9_139 ob_X9 (t_X9_refuse hw) rfl rfl (Nat.le_of_ble_eq_true rfl) dX9_comes_89 (z_ki (fun r42 s43 hw => ?_))
                exact z_ireturn C D dX9_comes_92 ⟨_, rfl, hw⟩
      · replace hw := hw.2 h
        refine z_iload_n C dX9_comes_27 rfl 3 rfl ?_
        refine z_iconst C (-1) dX9_comes_28 (by decide) ?_
        refine z_icmp_ne C (tgt := 36) dX9_comes_29 (by decide) (fun h => ?_) (fun h => ?_)
        · replace hw := hw.1 h
          refine z_iconst C 0 dX9_comes_36 (by decide) ?_
          refine z_istore C [(5, .int (0 : Int32)), (0, .ref ((zXE X).1 54 0)), (1, .int a1), (2, .int a2), (3, .int a3), (4, .int a4)] dX9_comes_37 (by decide) rfl ?_
          refine z_aload_n C dX9_comes_39 rfl 1 rfl ?_
          refine f_X9_45 C dX9_comes_40 ?_
          refine z_iload_n C dX9_comes_43 rfl 2 rfl ?_
          refine z_iald C za_65 (by decide) (Int32.toNatClampNeg a1) rfl hw.1 dX9_comes_44 ?_
          replace hw := hw.2
          refine z_iconst C 1 dX9_comes_45 (by decide) ?_
          refine z_icmp_ne C (tgt := 63) dX9_comes_46 (by decide) (fun h => ?_) (fun h => ?_)
          · replace hw := hw.1 h
            refine z_bipush C 40 dX9_comes_63 (by decide) ?_
            refine z_istore C [(6, .int (40 : Int32)), (5, .int (0 : Int32)), (0, .ref ((zXE X).1 54 0)), (1, .int a1), (2, .int a2), (3, .int a3), (4, .int a4)] dX9_comes_65 (by decide) rfl ?_
            refine z_iload C dX9_comes_67 1 rfl ?_
            refine z_if_ne C (tgt := 93) dX9_comes_69 (by decide) (fun h => absurd h (by decide)) (fun _ => ?_)
            refine z_iload_n C dX9_comes_72 rfl 4 rfl ?_
            refine z_if_lt C (tgt := 87) dX9_comes_73 (by decide) (fun h => ?_) (fun h => ?_)
            · replace hw := hw.1 h
              refine z_aload_n C dX9_comes_87 rfl 2 rfl ?_
              refine z_iconst C 1 dX9_comes_88 (by decide) ?_
              refine z_callV C (by decide) M_X9_refuse Mv_X9_refuse kw_m_X9_139 ob_X9 (t_X9_refuse hw) rfl rfl (Nat.le_of_ble_eq_true rfl) dX9_comes_89 (z_ki (fun r44 s45 hw => ?_))
              exact z_ireturn C D dX9_comes_92 ⟨_, rfl, hw⟩
            · replace hw := hw.2 h
              refine z_iload_n C dX9_comes_76 rfl 5 rfl ?_
              refine z_iload_n C dX9_comes_77 rfl 4 rfl ?_
              refine z_icmp_lt C (tgt := 87) dX9_comes_78 (by decide) (fun h => ?_) (fun h => ?_)
              · replace hw := hw.1 h
                refine z_aload_n C dX9_comes_87 rfl 2 rfl ?_
                refine z_iconst C 1 dX9_comes_88 (by decide) ?_
                refine z_callV C (by decide) M_X9_refuse Mv_X9_refuse kw_m_X9_139 ob_X9 (t_X9_refuse hw) rfl rfl (Nat.le_of_ble_eq_true rfl) dX9_comes_89 (z_ki (fun r46 s47 hw => ?_))
                exact z_ireturn C D dX9_comes_92 ⟨_, rfl, hw⟩
              · replace hw := hw.2 h
                refine z_iload_n C dX9_comes_81 rfl 5 rfl ?_
                refine z_iload C dX9_comes_82 0 rfl ?_
                refine z_icmp_lt C (tgt := 93) dX9_comes_84 (by decide) (fun h => ?_) (fun h => ?_)
                · replace hw := hw.1 h
                  refine z_iload C dX9_comes_93 6 rfl ?_
                  refine z_aload_n C dX9_comes_95 rfl 2 rfl ?_
                  refine f_X9_229 C dX9_comes_96 ?_
                  refine z_icmp_ge C (tgt := 108) dX9_comes_99 (by decide) (fun h => ?_) (fun h => ?_)
                  · replace hw := hw.1 h
                    refine z_aload_n C dX9_comes_108 rfl 2 rfl ?_
                    refine f_X9_45 C dX9_comes_109 ?_
                    refine z_iload_n C dX9_comes_112 rfl 3 rfl ?_
                    refine z_iald C za_65 (by decide) (Int32.toNatClampNeg a1) rfl hw.1 dX9_comes_113 ?_
                    replace hw := hw.2
                    refine z_iconst C 1 dX9_comes_114 (by decide) ?_
                    refine z_icmp_eq C (tgt := 125) dX9_comes_115 (by decide) (fun h => ?_) (fun h => ?_)
                    · replace hw := hw.1 h
                      refine z_aload_n C dX9_comes_125 rfl 2 rfl ?_
                      refine z_iload C dX9_comes_126 6 rfl ?_
                      refine p_X9_229 C dX9_comes_128 (z_nms (fun s48 es48 => ?_))
                      replace hw := hw s48 es48
                      refine z_aload_n C dX9_comes_131 rfl 2 rfl ?_
                      refine z_iconst C 0 dX9_comes_132 (by decide) ?_
                      refine p_X9_109 C dX9_comes_133 (z_nms (fun s49 es49 => ?_))
                      replace hw := hw s49 es49
                      refine z_aload_n C dX9_comes_136 rfl 2 rfl ?_
                      refine f_X9_51 C dX9_comes_137 ?_
                      refine z_iload_n C dX9_comes_140 rfl 3 rfl ?_
                      refine z_iald C za_67 (by decide) (Int32.toNatClampNeg a1) rfl hw.1 dX9_comes_141 ?_
                      replace hw := hw.2
                      refine z_nmi (fun x50 ex50 => ?_)
                      replace hw := hw x50 ex50
                      refine z_istore C [(7, .int x50), (6, .int (40 : Int32)), (5, .int (0 : Int32)), (0, .ref ((zXE X).1 54 0)), (1, .int a1), (2, .int a2), (3, .int a3), (4, .int a4)] dX9_comes_142 (by decide) rfl ?_
                      refine z_aload_n C dX9_comes_144 rfl 3 rfl ?_
                      refine f_X9_39 C dX9_comes_145 ?_
                      refine z_iload_n C dX9_comes_148 rfl 4 rfl ?_
                      refine z_iald C za_63 (by decide) (Int32.toNatClampNeg a1) rfl hw.1 dX9_comes_149 ?_
                      replace hw := hw.2
                      refine z_nmi (fun x51 ex51 => ?_)
                      replace hw := hw x51 ex51
                      refine z_istore C [(8, .int x51), (7, .int x50), (6, .int (40 : Int32)), (5, .int (0 : Int32)), (0, .ref ((zXE X).1 54 0)), (1, .int a1), (2, .int a2), (3, .int a3), (4, .int a4)] dX9_comes_150 (by decide) rfl ?_
                      refine z_aload_n C dX9_comes_152 rfl 4 rfl ?_
                      refine f_X9_45 C dX9_comes_153 ?_
                      refine z_iload_n C dX9_comes_156 rfl 5 rfl ?_
                      refine z_iconst C 0 dX9_comes_157 (by decide) ?_
                      refine z_iast C za_65 (by decide) (Int32.toNatClampNeg a1) rfl hw.1 dX9_comes_158 (z_nms (fun s52 es52 => ?_))
                      replace hw := hw.2
                      replace hw := hw s52 es52
                      refine z_aload_n C dX9_comes_159 rfl 4 rfl ?_
                      refine f_X9_42 C dX9_comes_160 ?_
                      refine z_iload_n C dX9_comes_163 rfl 5 rfl ?_
                      refine z_iload C dX9_comes_164 0 rfl ?_
                      refine z_iast C za_64 (by decide) (Int32.toNatClampNeg a1) rfl hw.1 dX9_comes_166 (z_nms (fun s53 es53 => ?_))
                      replace hw := hw.2
                      replace hw := hw s53 es53
                      refine z_aload_n C dX9_comes_167 rfl 4 rfl ?_
                      refine f_X9_48 C dX9_comes_168 ?_
                      refine z_iload_n C dX9_comes_171 rfl 5 rfl ?_
                      refine z_iload C dX9_comes_172 8 rfl ?_
                      refine z_bipush C 60 dX9_comes_174 (by decide) ?_
                      refine z_iadd C dX9_comes_176 ?_
                      refine z_iast C za_66 (by decide) (Int32.toNatClampNeg a1) rfl hw.1 dX9_comes_177 (z_nms (fun s54 es54 => ?_))
                      replace hw := hw.2
                      replace hw := hw s54 es54
                      refine z_aload_n C dX9_comes_178 rfl 4 rfl ?_
                      refine f_X9_84 C dX9_comes_179 ?_
                      refine z_iload C dX9_comes_182 1 rfl ?_
                      refine z_dup2_11 C dX9_comes_184 rfl rfl ?_
                      refine z_iald C za_78 (by decide) (Int32.toNatClampNeg x50) rfl hw.1 dX9_comes_185 ?_
                      replace hw := hw.2
                      refine z_iconst C 1 dX9_comes_186 (by decide) ?_
                      refine z_iadd C dX9_comes_187 ?_
                      refine z_iast C za_78 (by decide) (Int32.toNatClampNeg x50) rfl hw.1 dX9_comes_188 (z_nms (fun s55 es55 => ?_))
                      replace hw := hw.2
                      replace hw := hw s55 es55
                      refine z_iconst C 1 dX9_comes_189 (by decide) ?_
                      refine z_istore C [(9, .int (1 : Int32)), (8, .int x51), (7, .int x50), (6, .int (40 : Int32)), (5, .int (0 : Int32)), (0, .ref ((zXE X).1 54 0)), (1, .int a1), (2, .int a2), (3, .int a3), (4, .int a4)] dX9_comes_190 (by decide) rfl ?_
                      refine z_iconst C 0 dX9_comes_192 (by decide) ?_
                      refine z_istore C [(10, .int (0 : Int32)), (9, .int (1 : Int32)), (8, .int x51), (7, .int x50), (6, .int (40 : Int32)), (5, .int (0 : Int32)), (0, .ref ((zXE X).1 54 0)), (1, .int a1), (2, .int a2), (3, .int a3), (4, .int a4)] dX9_comes_193 (by decide) rfl ?_
                      exact z_lv [6, 8, 9, 10, 5, 3, 2, 1, 0] rfl hw
                    · replace hw := hw.2 h
                      refine z_aload_n C dX9_comes_118 rfl 2 rfl ?_
                      refine z_bipush C 7 dX9_comes_119 (by decide) ?_
                      refine z_callV C (by decide) M_X9_refuse Mv_X9_refuse kw_m_X9_139 ob_X9 (t_X9_refuse hw) rfl rfl (Nat.le_of_ble_eq_true rfl) dX9_comes_121 (z_ki (fun r56 s57 hw => ?_))
                      exact z_ireturn C D dX9_comes_124 ⟨_, rfl, hw⟩
                  · replace hw := hw.2 h
                    refine z_aload_n C dX9_comes_102 rfl 2 rfl ?_
                    refine z_iconst C 2 dX9_comes_103 (by decide) ?_
                    refine z_callV C (by decide) M_X9_refuse Mv_X9_refuse kw_m_X9_139 ob_X9 (t_X9_refuse hw) rfl rfl (Nat.le_of_ble_eq_true rfl) dX9_comes_104 (z_ki (fun r58 s59 hw => ?_))
                    exact z_ireturn C D dX9_comes_107 ⟨_, rfl, hw⟩
                · replace hw := hw.2 h
                  refine z_aload_n C dX9_comes_87 rfl 2 rfl ?_
                  refine z_iconst C 1 dX9_comes_88 (by decide) ?_
                  refine z_callV C (by decide) M_X9_refuse Mv_X9_refuse kw_m_X9_139 ob_X9 (t_X9_refuse hw) rfl rfl (Nat.le_of_ble_eq_true rfl) dX9_comes_89 (z_ki (fun r60 s61 hw => ?_))
                  exact z_ireturn C D dX9_comes_92 ⟨_, rfl, hw⟩
          · replace hw := hw.2 h
            refine z_aload_n C dX9_comes_49 rfl 1 rfl ?_
            refine f_X9_78 C dX9_comes_50 ?_
            refine z_aload_n C dX9_comes_53 rfl 1 rfl ?_
            refine f_X9_51 C dX9_comes_54 ?_
            refine z_iload_n C dX9_comes_57 rfl 2 rfl ?_
            refine z_iald C za_67 (by decide) (Int32.toNatClampNeg a1) rfl hw.1 dX9_comes_58 ?_
            replace hw := hw.2
            refine z_iald C za_76 (by decide) (Int32.toNatClampNeg (zi s6 67 0 (Int32.toNatClampNeg a1))) rfl hw.1 dX9_comes_59 ?_
            replace hw := hw.2
            refine z_goto C (tgt := 65) dX9_comes_60 (by decide) ?_
            refine z_nmi (fun x62 ex62 => ?_)
            replace hw := hw x62 ex62
            refine z_istore C [(6, .int x62), (5, .int (0 : Int32)), (0, .ref ((zXE X).1 54 0)), (1, .int a1), (2, .int a2), (3, .int a3), (4, .int a4)] dX9_comes_65 (by decide) rfl ?_
            refine z_iload C dX9_comes_67 1 rfl ?_
            refine z_if_ne C (tgt := 93) dX9_comes_69 (by decide) (fun h => absurd h (by decide)) (fun _ => ?_)
            refine z_iload_n C dX9_comes_72 rfl 4 rfl ?_
            refine z_if_lt C (tgt := 87) dX9_comes_73 (by decide) (fun h => ?_) (fun h => ?_)
            · replace hw := hw.1 h
              refine z_aload_n C dX9_comes_87 rfl 2 rfl ?_
              refine z_iconst C 1 dX9_comes_88 (by decide) ?_
              refine z_callV C (by decide) M_X9_refuse Mv_X9_refuse kw_m_X9_139 ob_X9 (t_X9_refuse hw) rfl rfl (Nat.le_of_ble_eq_true rfl) dX9_comes_89 (z_ki (fun r63 s64 hw => ?_))
              exact z_ireturn C D dX9_comes_92 ⟨_, rfl, hw⟩
            · replace hw := hw.2 h
              refine z_iload_n C dX9_comes_76 rfl 5 rfl ?_
              refine z_iload_n C dX9_comes_77 rfl 4 rfl ?_
              refine z_icmp_lt C (tgt := 87) dX9_comes_78 (by decide) (fun h => ?_) (fun h => ?_)
              · replace hw := hw.1 h
                refine z_aload_n C dX9_comes_87 rfl 2 rfl ?_
                refine z_iconst C 1 dX9_comes_88 (by decide) ?_
                refine z_callV C (by decide) M_X9_refuse Mv_X9_refuse kw_m_X9_139 ob_X9 (t_X9_refuse hw) rfl rfl (Nat.le_of_ble_eq_true rfl) dX9_comes_89 (z_ki (fun r65 s66 hw => ?_))
                exact z_ireturn C D dX9_comes_92 ⟨_, rfl, hw⟩
              · replace hw := hw.2 h
                refine z_iload_n C dX9_comes_81 rfl 5 rfl ?_
                refine z_iload C dX9_comes_82 0 rfl ?_
                refine z_icmp_lt C (tgt := 93) dX9_comes_84 (by decide) (fun h => ?_) (fun h => ?_)
                · replace hw := hw.1 h
                  refine z_iload C dX9_comes_93 6 rfl ?_
                  refine z_aload_n C dX9_comes_95 rfl 2 rfl ?_
                  refine f_X9_229 C dX9_comes_96 ?_
                  refine z_icmp_ge C (tgt := 108) dX9_comes_99 (by decide) (fun h => ?_) (fun h => ?_)
                  · replace hw := hw.1 h
                    refine z_aload_n C dX9_comes_108 rfl 2 rfl ?_
                    refine f_X9_45 C dX9_comes_109 ?_
                    refine z_iload_n C dX9_comes_112 rfl 3 rfl ?_
                    refine z_iald C za_65 (by decide) (Int32.toNatClampNeg a1) rfl hw.1 dX9_comes_113 ?_
                    replace hw := hw.2
                    refine z_iconst C 1 dX9_comes_114 (by decide) ?_
                    refine z_icmp_eq C (tgt := 125) dX9_comes_115 (by decide) (fun h => ?_) (fun h => ?_)
                    · replace hw := hw.1 h
                      refine z_aload_n C dX9_comes_125 rfl 2 rfl ?_
                      refine z_iload C dX9_comes_126 6 rfl ?_
                      refine p_X9_229 C dX9_comes_128 (z_nms (fun s67 es67 => ?_))
                      replace hw := hw s67 es67
                      refine z_aload_n C dX9_comes_131 rfl 2 rfl ?_
                      refine z_iconst C 0 dX9_comes_132 (by decide) ?_
                      refine p_X9_109 C dX9_comes_133 (z_nms (fun s68 es68 => ?_))
                      replace hw := hw s68 es68
                      refine z_aload_n C dX9_comes_136 rfl 2 rfl ?_
                      refine f_X9_51 C dX9_comes_137 ?_
                      refine z_iload_n C dX9_comes_140 rfl 3 rfl ?_
                      refine z_iald C za_67 (by decide) (Int32.toNatClampNeg a1) rfl hw.1 dX9_comes_141 ?_
                      replace hw := hw.2
                      refine z_nmi (fun x69 ex69 => ?_)
                      replace hw := hw x69 ex69
                      refine z_istore C [(7, .int x69), (6, .int x62), (5, .int (0 : Int32)), (0, .ref ((zXE X).1 54 0)), (1, .int a1), (2, .int a2), (3, .int a3), (4, .int a4)] dX9_comes_142 (by decide) rfl ?_
                      refine z_aload_n C dX9_comes_144 rfl 3 rfl ?_
                      refine f_X9_39 C dX9_comes_145 ?_
                      refine z_iload_n C dX9_comes_148 rfl 4 rfl ?_
                      refine z_iald C za_63 (by decide) (Int32.toNatClampNeg a1) rfl hw.1 dX9_comes_149 ?_
                      replace hw := hw.2
                      refine z_nmi (fun x70 ex70 => ?_)
                      replace hw := hw x70 ex70
                      refine z_istore C [(8, .int x70), (7, .int x69), (6, .int x62), (5, .int (0 : Int32)), (0, .ref ((zXE X).1 54 0)), (1, .int a1), (2, .int a2), (3, .int a3), (4, .int a4)] dX9_comes_150 (by decide) rfl ?_
                      refine z_aload_n C dX9_comes_152 rfl 4 rfl ?_
                      refine f_X9_45 C dX9_comes_153 ?_
                      refine z_iload_n C dX9_comes_156 rfl 5 rfl ?_
                      refine z_iconst C 0 dX9_comes_157 (by decide) ?_
                      refine z_iast C za_65 (by decide) (Int32.toNatClampNeg a1) rfl hw.1 dX9_comes_158 (z_nms (fun s71 es71 => ?_))
                      replace hw := hw.2
                      replace hw := hw s71 es71
                      refine z_aload_n C dX9_comes_159 rfl 4 rfl ?_
                      refine f_X9_42 C dX9_comes_160 ?_
                      refine z_iload_n C dX9_comes_163 rfl 5 rfl ?_
                      refine z_iload C dX9_comes_164 0 rfl ?_
                      refine z_iast C za_64 (by decide) (Int32.toNatClampNeg a1) rfl hw.1 dX9_comes_166 (z_nms (fun s72 es72 => ?_))
                      replace hw := hw.2
                      replace hw := hw s72 es72
                      refine z_aload_n C dX9_comes_167 rfl 4 rfl ?_
                      refine f_X9_48 C dX9_comes_168 ?_
                      refine z_iload_n C dX9_comes_171 rfl 5 rfl ?_
                      refine z_iload C dX9_comes_172 8 rfl ?_
                      refine z_bipush C 60 dX9_comes_174 (by decide) ?_
                      refine z_iadd C dX9_comes_176 ?_
                      refine z_iast C za_66 (by decide) (Int32.toNatClampNeg a1) rfl hw.1 dX9_comes_177 (z_nms (fun s73 es73 => ?_))
                      replace hw := hw.2
                      replace hw := hw s73 es73
                      refine z_aload_n C dX9_comes_178 rfl 4 rfl ?_
                      refine f_X9_84 C dX9_comes_179 ?_
                      refine z_iload C dX9_comes_182 1 rfl ?_
                      refine z_dup2_11 C dX9_comes_184 rfl rfl ?_
                      refine z_iald C za_78 (by decide) (Int32.toNatClampNeg x69) rfl hw.1 dX9_comes_185 ?_
                      replace hw := hw.2
                      refine z_iconst C 1 dX9_comes_186 (by decide) ?_
                      refine z_iadd C dX9_comes_187 ?_
                      refine z_iast C za_78 (by decide) (Int32.toNatClampNeg x69) rfl hw.1 dX9_comes_188 (z_nms (fun s74 es74 => ?_))
                      replace hw := hw.2
                      replace hw := hw s74 es74
                      refine z_iconst C 1 dX9_comes_189 (by decide) ?_
                      refine z_istore C [(9, .int (1 : Int32)), (8, .int x70), (7, .int x69), (6, .int x62), (5, .int (0 : Int32)), (0, .ref ((zXE X).1 54 0)), (1, .int a1), (2, .int a2), (3, .int a3), (4, .int a4)] dX9_comes_190 (by decide) rfl ?_
                      refine z_iconst C 0 dX9_comes_192 (by decide) ?_
                      refine z_istore C [(10, .int (0 : Int32)), (9, .int (1 : Int32)), (8, .int x70), (7, .int x69), (6, .int x62), (5, .int (0 : Int32)), (0, .ref ((zXE X).1 54 0)), (1, .int a1), (2, .int a2), (3, .int a3), (4, .int a4)] dX9_comes_193 (by decide) rfl ?_
                      exact z_lv [6, 8, 9, 10, 5, 3, 2, 1, 0] rfl hw
                    · replace hw := hw.2 h
                      refine z_aload_n C dX9_comes_118 rfl 2 rfl ?_
                      refine z_bipush C 7 dX9_comes_119 (by decide) ?_
                      refine z_callV C (by decide) M_X9_refuse Mv_X9_refuse kw_m_X9_139 ob_X9 (t_X9_refuse hw) rfl rfl (Nat.le_of_ble_eq_true rfl) dX9_comes_121 (z_ki (fun r75 s76 hw => ?_))
                      exact z_ireturn C D dX9_comes_124 ⟨_, rfl, hw⟩
                  · replace hw := hw.2 h
                    refine z_aload_n C dX9_comes_102 rfl 2 rfl ?_
                    refine z_iconst C 2 dX9_comes_103 (by decide) ?_
                    refine z_callV C (by decide) M_X9_refuse Mv_X9_refuse kw_m_X9_139 ob_X9 (t_X9_refuse hw) rfl rfl (Nat.le_of_ble_eq_true rfl) dX9_comes_104 (z_ki (fun r77 s78 hw => ?_))
                    exact z_ireturn C D dX9_comes_107 ⟨_, rfl, hw⟩
                · replace hw := hw.2 h
                  refine z_aload_n C dX9_comes_87 rfl 2 rfl ?_
                  refine z_iconst C 1 dX9_comes_88 (by decide) ?_
                  refine z_callV C (by decide) M_X9_refuse Mv_X9_refuse kw_m_X9_139 ob_X9 (t_X9_refuse hw) rfl rfl (Nat.le_of_ble_eq_true rfl) dX9_comes_89 (z_ki (fun r79 s80 hw => ?_))
                  exact z_ireturn C D dX9_comes_92 ⟨_, rfl, hw⟩
        · replace hw := hw.2 h
          refine z_iconst C 1 dX9_comes_32 (by decide) ?_
          refine z_goto C (tgt := 37) dX9_comes_33 (by decide) ?_
          refine z_istore C [(5, .int (1 : Int32)), (0, .ref ((zXE X).1 54 0)), (1, .int a1), (2, .int a2), (3, .int a3), (4, .int a4)] dX9_comes_37 (by decide) rfl ?_
          refine z_aload_n C dX9_comes_39 rfl 1 rfl ?_
          refine f_X9_45 C dX9_comes_40 ?_
          refine z_iload_n C dX9_comes_43 rfl 2 rfl ?_
          refine z_iald C za_65 (by decide) (Int32.toNatClampNeg a1) rfl hw.1 dX9_comes_44 ?_
          replace hw := hw.2
          refine z_iconst C 1 dX9_comes_45 (by decide) ?_
          refine z_icmp_ne C (tgt := 63) dX9_comes_46 (by decide) (fun h => ?_) (fun h => ?_)
          · replace hw := hw.1 h
            refine z_bipush C 40 dX9_comes_63 (by decide) ?_
            refine z_istore C [(6, .int (40 : Int32)), (5, .int (1 : Int32)), (0, .ref ((zXE X).1 54 0)), (1, .int a1), (2, .int a2), (3, .int a3), (4, .int a4)] dX9_comes_65 (by decide) rfl ?_
            refine z_iload C dX9_comes_67 1 rfl ?_
            refine z_if_ne C (tgt := 93) dX9_comes_69 (by decide) (fun _ => ?_) (fun h => absurd h (by decide))
            refine z_iload C dX9_comes_93 6 rfl ?_
            refine z_aload_n C dX9_comes_95 rfl 2 rfl ?_
            refine f_X9_229 C dX9_comes_96 ?_
            refine z_icmp_ge C (tgt := 108) dX9_comes_99 (by decide) (fun h => ?_) (fun h => ?_)
            · replace hw := hw.1 h
              refine z_aload_n C dX9_comes_108 rfl 2 rfl ?_
              refine f_X9_45 C dX9_comes_109 ?_
              refine z_iload_n C dX9_comes_112 rfl 3 rfl ?_
              refine z_iald C za_65 (by decide) (Int32.toNatClampNeg a1) rfl hw.1 dX9_comes_113 ?_
              replace hw := hw.2
              refine z_iconst C 1 dX9_comes_114 (by decide) ?_
              refine z_icmp_eq C (tgt := 125) dX9_comes_115 (by decide) (fun h => ?_) (fun h => ?_)
              · replace hw := hw.1 h
                refine z_aload_n C dX9_comes_125 rfl 2 rfl ?_
                refine z_iload C dX9_comes_126 6 rfl ?_
                refine p_X9_229 C dX9_comes_128 (z_nms (fun s81 es81 => ?_))
                replace hw := hw s81 es81
                refine z_aload_n C dX9_comes_131 rfl 2 rfl ?_
                refine z_iconst C 0 dX9_comes_132 (by decide) ?_
                refine p_X9_109 C dX9_comes_133 (z_nms (fun s82 es82 => ?_))
                replace hw := hw s82 es82
                refine z_aload_n C dX9_comes_136 rfl 2 rfl ?_
                refine f_X9_51 C dX9_comes_137 ?_
                refine z_iload_n C dX9_comes_140 rfl 3 rfl ?_
                refine z_iald C za_67 (by decide) (Int32.toNatClampNeg a1) rfl hw.1 dX9_comes_141 ?_
                replace hw := hw.2
                refine z_nmi (fun x83 ex83 => ?_)
                replace hw := hw x83 ex83
                refine z_istore C [(7, .int x83), (6, .int (40 : Int32)), (5, .int (1 : Int32)), (0, .ref ((zXE X).1 54 0)), (1, .int a1), (2, .int a2), (3, .int a3), (4, .int a4)] dX9_comes_142 (by decide) rfl ?_
                refine z_aload_n C dX9_comes_144 rfl 3 rfl ?_
                refine f_X9_39 C dX9_comes_145 ?_
                refine z_iload_n C dX9_comes_148 rfl 4 rfl ?_
                refine z_iald C za_63 (by decide) (Int32.toNatClampNeg a1) rfl hw.1 dX9_comes_149 ?_
                replace hw := hw.2
                refine z_nmi (fun x84 ex84 => ?_)
                replace hw := hw x84 ex84
                refine z_istore C [(8, .int x84), (7, .int x83), (6, .int (40 : Int32)), (5, .int (1 : Int32)), (0, .ref ((zXE X).1 54 0)), (1, .int a1), (2, .int a2), (3, .int a3), (4, .int a4)] dX9_comes_150 (by decide) rfl ?_
                refine z_aload_n C dX9_comes_152 rfl 4 rfl ?_
                refine f_X9_45 C dX9_comes_153 ?_
                refine z_iload_n C dX9_comes_156 rfl 5 rfl ?_
                refine z_iconst C 0 dX9_comes_157 (by decide) ?_
                refine z_iast C za_65 (by decide) (Int32.toNatClampNeg a1) rfl hw.1 dX9_comes_158 (z_nms (fun s85 es85 => ?_))
                replace hw := hw.2
                replace hw := hw s85 es85
                refine z_aload_n C dX9_comes_159 rfl 4 rfl ?_
                refine f_X9_42 C dX9_comes_160 ?_
                refine z_iload_n C dX9_comes_163 rfl 5 rfl ?_
                refine z_iload C dX9_comes_164 0 rfl ?_
                refine z_iast C za_64 (by decide) (Int32.toNatClampNeg a1) rfl hw.1 dX9_comes_166 (z_nms (fun s86 es86 => ?_))
                replace hw := hw.2
                replace hw := hw s86 es86
                refine z_aload_n C dX9_comes_167 rfl 4 rfl ?_
                refine f_X9_48 C dX9_comes_168 ?_
                refine z_iload_n C dX9_comes_171 rfl 5 rfl ?_
                refine z_iload C dX9_comes_172 8 rfl ?_
                refine z_bipush C 60 dX9_comes_174 (by decide) ?_
                refine z_iadd C dX9_comes_176 ?_
                refine z_iast C za_66 (by decide) (Int32.toNatClampNeg a1) rfl hw.1 dX9_comes_177 (z_nms (fun s87 es87 => ?_))
                replace hw := hw.2
                replace hw := hw s87 es87
                refine z_aload_n C dX9_comes_178 rfl 4 rfl ?_
                refine f_X9_84 C dX9_comes_179 ?_
                refine z_iload C dX9_comes_182 1 rfl ?_
                refine z_dup2_11 C dX9_comes_184 rfl rfl ?_
                refine z_iald C za_78 (by decide) (Int32.toNatClampNeg x83) rfl hw.1 dX9_comes_185 ?_
                replace hw := hw.2
                refine z_iconst C 1 dX9_comes_186 (by decide) ?_
                refine z_iadd C dX9_comes_187 ?_
                refine z_iast C za_78 (by decide) (Int32.toNatClampNeg x83) rfl hw.1 dX9_comes_188 (z_nms (fun s88 es88 => ?_))
                replace hw := hw.2
                replace hw := hw s88 es88
                refine z_iconst C 1 dX9_comes_189 (by decide) ?_
                refine z_istore C [(9, .int (1 : Int32)), (8, .int x84), (7, .int x83), (6, .int (40 : Int32)), (5, .int (1 : Int32)), (0, .ref ((zXE X).1 54 0)), (1, .int a1), (2, .int a2), (3, .int a3), (4, .int a4)] dX9_comes_190 (by decide) rfl ?_
                refine z_iconst C 0 dX9_comes_192 (by decide) ?_
                refine z_istore C [(10, .int (0 : Int32)), (9, .int (1 : Int32)), (8, .int x84), (7, .int x83), (6, .int (40 : Int32)), (5, .int (1 : Int32)), (0, .ref ((zXE X).1 54 0)), (1, .int a1), (2, .int a2), (3, .int a3), (4, .int a4)] dX9_comes_193 (by decide) rfl ?_
                exact z_lv [6, 8, 9, 10, 5, 3, 2, 1, 0] rfl hw
              · replace hw := hw.2 h
                refine z_aload_n C dX9_comes_118 rfl 2 rfl ?_
                refine z_bipush C 7 dX9_comes_119 (by decide) ?_
                refine z_callV C (by decide) M_X9_refuse Mv_X9_refuse kw_m_X9_139 ob_X9 (t_X9_refuse hw) rfl rfl (Nat.le_of_ble_eq_true rfl) dX9_comes_121 (z_ki (fun r89 s90 hw => ?_))
                exact z_ireturn C D dX9_comes_124 ⟨_, rfl, hw⟩
            · replace hw := hw.2 h
              refine z_aload_n C dX9_comes_102 rfl 2 rfl ?_
              refine z_iconst C 2 dX9_comes_103 (by decide) ?_
              refine z_callV C (by decide) M_X9_refuse Mv_X9_refuse kw_m_X9_139 ob_X9 (t_X9_refuse hw) rfl rfl (Nat.le_of_ble_eq_true rfl) dX9_comes_104 (z_ki (fun r91 s92 hw => ?_))
              exact z_ireturn C D dX9_comes_107 ⟨_, rfl, hw⟩
          · replace hw := hw.2 h
            refine z_aload_n C dX9_comes_49 rfl 1 rfl ?_
            refine f_X9_78 C dX9_comes_50 ?_
            refine z_aload_n C dX9_comes_53 rfl 1 rfl ?_
            refine f_X9_51 C dX9_comes_54 ?_
            refine z_iload_n C dX9_comes_57 rfl 2 rfl ?_
            refine z_iald C za_67 (by decide) (Int32.toNatClampNeg a1) rfl hw.1 dX9_comes_58 ?_
            replace hw := hw.2
            refine z_iald C za_76 (by decide) (Int32.toNatClampNeg (zi s6 67 0 (Int32.toNatClampNeg a1))) rfl hw.1 dX9_comes_59 ?_
            replace hw := hw.2
            refine z_goto C (tgt := 65) dX9_comes_60 (by decide) ?_
            refine z_nmi (fun x93 ex93 => ?_)
            replace hw := hw x93 ex93
            refine z_istore C [(6, .int x93), (5, .int (1 : Int32)), (0, .ref ((zXE X).1 54 0)), (1, .int a1), (2, .int a2), (3, .int a3), (4, .int a4)] dX9_comes_65 (by decide) rfl ?_
            refine z_iload C dX9_comes_67 1 rfl ?_
            refine z_if_ne C (tgt := 93) dX9_comes_69 (by decide) (fun _ => ?_) (fun h => absurd h (by decide))
            refine z_iload C dX9_comes_93 6 rfl ?_
            refine z_aload_n C dX9_comes_95 rfl 2 rfl ?_
            refine f_X9_229 C dX9_comes_96 ?_
            refine z_icmp_ge C (tgt := 108) dX9_comes_99 (by decide) (fun h => ?_) (fun h => ?_)
            · replace hw := hw.1 h
              refine z_aload_n C dX9_comes_108 rfl 2 rfl ?_
              refine f_X9_45 C dX9_comes_109 ?_
              refine z_iload_n C dX9_comes_112 rfl 3 rfl ?_
              refine z_iald C za_65 (by decide) (Int32.toNatClampNeg a1) rfl hw.1 dX9_comes_113 ?_
              replace hw := hw.2
              refine z_iconst C 1 dX9_comes_114 (by decide) ?_
              refine z_icmp_eq C (tgt := 125) dX9_comes_115 (by decide) (fun h => ?_) (fun h => ?_)
              · replace hw := hw.1 h
                refine z_aload_n C dX9_comes_125 rfl 2 rfl ?_
                refine z_iload C dX9_comes_126 6 rfl ?_
                refine p_X9_229 C dX9_comes_128 (z_nms (fun s94 es94 => ?_))
                replace hw := hw s94 es94
                refine z_aload_n C dX9_comes_131 rfl 2 rfl ?_
                refine z_iconst C 0 dX9_comes_132 (by decide) ?_
                refine p_X9_109 C dX9_comes_133 (z_nms (fun s95 es95 => ?_))
                replace hw := hw s95 es95
                refine z_aload_n C dX9_comes_136 rfl 2 rfl ?_
                refine f_X9_51 C dX9_comes_137 ?_
                refine z_iload_n C dX9_comes_140 rfl 3 rfl ?_
                refine z_iald C za_67 (by decide) (Int32.toNatClampNeg a1) rfl hw.1 dX9_comes_141 ?_
                replace hw := hw.2
                refine z_nmi (fun x96 ex96 => ?_)
                replace hw := hw x96 ex96
                refine z_istore C [(7, .int x96), (6, .int x93), (5, .int (1 : Int32)), (0, .ref ((zXE X).1 54 0)), (1, .int a1), (2, .int a2), (3, .int a3), (4, .int a4)] dX9_comes_142 (by decide) rfl ?_
                refine z_aload_n C dX9_comes_144 rfl 3 rfl ?_
                refine f_X9_39 C dX9_comes_145 ?_
                refine z_iload_n C dX9_comes_148 rfl 4 rfl ?_
                refine z_iald C za_63 (by decide) (Int32.toNatClampNeg a1) rfl hw.1 dX9_comes_149 ?_
                replace hw := hw.2
                refine z_nmi (fun x97 ex97 => ?_)
                replace hw := hw x97 ex97
                refine z_istore C [(8, .int x97), (7, .int x96), (6, .int x93), (5, .int (1 : Int32)), (0, .ref ((zXE X).1 54 0)), (1, .int a1), (2, .int a2), (3, .int a3), (4, .int a4)] dX9_comes_150 (by decide) rfl ?_
                refine z_aload_n C dX9_comes_152 rfl 4 rfl ?_
                refine f_X9_45 C dX9_comes_153 ?_
                refine z_iload_n C dX9_comes_156 rfl 5 rfl ?_
                refine z_iconst C 0 dX9_comes_157 (by decide) ?_
                refine z_iast C za_65 (by decide) (Int32.toNatClampNeg a1) rfl hw.1 dX9_comes_158 (z_nms (fun s98 es98 => ?_))
                replace hw := hw.2
                replace hw := hw s98 es98
                refine z_aload_n C dX9_comes_159 rfl 4 rfl ?_
                refine f_X9_42 C dX9_comes_160 ?_
                refine z_iload_n C dX9_comes_163 rfl 5 rfl ?_
                refine z_iload C dX9_comes_164 0 rfl ?_
                refine z_iast C za_64 (by decide) (Int32.toNatClampNeg a1) rfl hw.1 dX9_comes_166 (z_nms (fun s99 es99 => ?_))
                replace hw := hw.2
                replace hw := hw s99 es99
                refine z_aload_n C dX9_comes_167 rfl 4 rfl ?_
                refine f_X9_48 C dX9_comes_168 ?_
                refine z_iload_n C dX9_comes_171 rfl 5 rfl ?_
                refine z_iload C dX9_comes_172 8 rfl ?_
                refine z_bipush C 60 dX9_comes_174 (by decide) ?_
                refine z_iadd C dX9_comes_176 ?_
                refine z_iast C za_66 (by decide) (Int32.toNatClampNeg a1) rfl hw.1 dX9_comes_177 (z_nms (fun s100 es100 => ?_))
                replace hw := hw.2
                replace hw := hw s100 es100
                refine z_aload_n C dX9_comes_178 rfl 4 rfl ?_
                refine f_X9_84 C dX9_comes_179 ?_
                refine z_iload C dX9_comes_182 1 rfl ?_
                refine z_dup2_11 C dX9_comes_184 rfl rfl ?_
                refine z_iald C za_78 (by decide) (Int32.toNatClampNeg x96) rfl hw.1 dX9_comes_185 ?_
                replace hw := hw.2
                refine z_iconst C 1 dX9_comes_186 (by decide) ?_
                refine z_iadd C dX9_comes_187 ?_
                refine z_iast C za_78 (by decide) (Int32.toNatClampNeg x96) rfl hw.1 dX9_comes_188 (z_nms (fun s101 es101 => ?_))
                replace hw := hw.2
                replace hw := hw s101 es101
                refine z_iconst C 1 dX9_comes_189 (by decide) ?_
                refine z_istore C [(9, .int (1 : Int32)), (8, .int x97), (7, .int x96), (6, .int x93), (5, .int (1 : Int32)), (0, .ref ((zXE X).1 54 0)), (1, .int a1), (2, .int a2), (3, .int a3), (4, .int a4)] dX9_comes_190 (by decide) rfl ?_
                refine z_iconst C 0 dX9_comes_192 (by decide) ?_
                refine z_istore C [(10, .int (0 : Int32)), (9, .int (1 : Int32)), (8, .int x97), (7, .int x96), (6, .int x93), (5, .int (1 : Int32)), (0, .ref ((zXE X).1 54 0)), (1, .int a1), (2, .int a2), (3, .int a3), (4, .int a4)] dX9_comes_193 (by decide) rfl ?_
                exact z_lv [6, 8, 9, 10, 5, 3, 2, 1, 0] rfl hw
              · replace hw := hw.2 h
                refine z_aload_n C dX9_comes_118 rfl 2 rfl ?_
                refine z_bipush C 7 dX9_comes_119 (by decide) ?_
                refine z_callV C (by decide) M_X9_refuse Mv_X9_refuse kw_m_X9_139 ob_X9 (t_X9_refuse hw) rfl rfl (Nat.le_of_ble_eq_true rfl) dX9_comes_121 (z_ki (fun r102 s103 hw => ?_))
                exact z_ireturn C D dX9_comes_124 ⟨_, rfl, hw⟩
            · replace hw := hw.2 h
              refine z_aload_n C dX9_comes_102 rfl 2 rfl ?_
              refine z_iconst C 2 dX9_comes_103 (by decide) ?_
              refine z_callV C (by decide) M_X9_refuse Mv_X9_refuse kw_m_X9_139 ob_X9 (t_X9_refuse hw) rfl rfl (Nat.le_of_ble_eq_true rfl) dX9_comes_104 (z_ki (fun r104 s105 hw => ?_))
              exact z_ireturn C D dX9_comes_107 ⟨_, rfl, hw⟩
    · replace hw := hw.2 h
      refine z_aload_n C dX9_comes_16 rfl 0 rfl ?_
      refine z_iconst C 1 dX9_comes_17 (by decide) ?_
      refine z_callV C (by decide) M_X9_refuse Mv_X9_refuse kw_m_X9_139 ob_X9 (t_X9_refuse hw) rfl rfl (Nat.le_of_ble_eq_true rfl) dX9_comes_18 (z_ki (fun r106 s107 hw => ?_))
      exact z_ireturn C D dX9_comes_21 ⟨_, rfl, hw⟩
set_option maxHeartbeats 4000000 in
set_option maxRecDepth 100000 in
theorem t_X8_loseFault {l : Launch} {E : zE} {a1 : Int32} {a2 : Int32} {s0 : zS} {Q : Int32 → zS → Prop}  (hw : Wp_X8_loseFault a1 a2 s0 Q) : zT l 3 E yX8_loseFault cX8_loseFault 3 (some .int) [.ref (E.1 0 0), .int a1, .int a2] s0 (zQi Q) := by
  unfold Wp_X8_loseFault at hw
  refine z_entry rfl (Nat.le_of_ble_eq_true rfl) rfl ?_
  intro X C D hl hE
  subst hl; subst hE
  have C : zC X cX8_loseFault RX8 3 3 := C
  refine z_aload_n C dX8_loseFault_0 rfl 0 rfl ?_
  refine z_iload_n C dX8_loseFault_1 rfl 1 rfl ?_
  refine z_callV C (by decide) M_X8_isBird Mv_X8_isBird kw_m_X8_161 ob_X8 (t_X8_isBird hw) rfl rfl (Nat.le_of_ble_eq_true rfl) dX8_loseFault_2 (z_kb (fun r1 s2 hr1 hw => ?_))
  refine z_if_eq C (tgt := 15) dX8_loseFault_5 (by decide) (fun h => ?_) (fun h => ?_)
  · replace hw := hw.1 h
    refine z_iconst C 1 dX8_loseFault_15 (by decide) ?_
    exact z_ireturn C D dX8_loseFault_16 ⟨_, rfl, hw⟩
  · replace hw := hw.2 h
    refine z_iload_n C dX8_loseFault_8 rfl 2 rfl ?_
    refine z_callS C (by decide) M_X8_isMinute Ms_X8_isMinute kw_m_X8_321 (t_X8_isMinute hw) rfl rfl (Nat.le_of_ble_eq_true rfl) dX8_loseFault_9 (z_kb (fun r3 s4 hr3 hw => ?_))
    refine z_if_ne C (tgt := 17) dX8_loseFault_12 (by decide) (fun h => ?_) (fun h => ?_)
    · replace hw := hw.1 h
      refine z_iload_n C dX8_loseFault_17 rfl 2 rfl ?_
      refine z_aload_n C dX8_loseFault_18 rfl 0 rfl ?_
      refine f_X8_71 C dX8_loseFault_19 ?_
      refine z_icmp_ge C (tgt := 27) dX8_loseFault_22 (by decide) (fun h => ?_) (fun h => ?_)
      · replace hw := hw.1 h
        refine z_aload_n C dX8_loseFault_27 rfl 0 rfl ?_
        refine f_X8_33 C dX8_loseFault_28 ?_
        refine f_X8_315 C dX8_loseFault_31 ?_
        refine z_iload_n C dX8_loseFault_34 rfl 1 rfl ?_
        refine z_iald C za_17 (by decide) (Int32.toNatClampNeg a1) rfl hw.1 dX8_loseFault_35 ?_
        replace hw := hw.2
        refine z_iconst C 1 dX8_loseFault_36 (by decide) ?_
        refine z_icmp_ne C (tgt := 44) dX8_loseFault_37 (by decide) (fun h => ?_) (fun h => ?_)
        · replace hw := hw.1 h
          refine z_bipush C 7 dX8_loseFault_44 (by decide) ?_
          exact z_ireturn C D dX8_loseFault_46 ⟨_, rfl, hw⟩
        · replace hw := hw.2 h
          refine z_iconst C 0 dX8_loseFault_40 (by decide) ?_
          refine z_goto C (tgt := 46) dX8_loseFault_41 (by decide) ?_
          exact z_ireturn C D dX8_loseFault_46 ⟨_, rfl, hw⟩
      · replace hw := hw.2 h
        refine z_iconst C 2 dX8_loseFault_25 (by decide) ?_
        exact z_ireturn C D dX8_loseFault_26 ⟨_, rfl, hw⟩
    · replace hw := hw.2 h
      refine z_iconst C 1 dX8_loseFault_15 (by decide) ?_
      exact z_ireturn C D dX8_loseFault_16 ⟨_, rfl, hw⟩
set_option maxHeartbeats 4000000 in
set_option maxRecDepth 100000 in
theorem t_X1_getLost {l : Launch} {E : zE} {a1 : Int32} {s0 : zS} {Q : zS → Prop}  (hw : Wp_X1_getLost a1 s0 Q) : zT l 1 E yX1_getLost cX1_getLost 2 none [.ref (E.1 14 0), .int a1] s0 (zQv Q) := by
  unfold Wp_X1_getLost at hw
  refine z_entry rfl (Nat.le_of_ble_eq_true rfl) rfl ?_
  intro X C D hl hE
  subst hl; subst hE
  have C : zC X cX1_getLost RX1 2 1 := C
  refine z_aload_n C dX1_getLost_0 rfl 0 rfl ?_
  refine f_X1_28 C dX1_getLost_1 ?_
  refine z_iload_n C dX1_getLost_4 rfl 1 rfl ?_
  refine z_iconst C (-1) dX1_getLost_5 (by decide) ?_
  refine z_iast C za_19 (by decide) (Int32.toNatClampNeg a1) rfl hw.1 dX1_getLost_6 (z_nms (fun s1 es1 => ?_))
  replace hw := hw.2
  replace hw := hw s1 es1
  refine z_aload_n C dX1_getLost_7 rfl 0 rfl ?_
  refine f_X1_22 C dX1_getLost_8 ?_
  refine z_iload_n C dX1_getLost_11 rfl 1 rfl ?_
  refine z_iconst C 2 dX1_getLost_12 (by decide) ?_
  refine z_iast C za_17 (by decide) (Int32.toNatClampNeg a1) rfl hw.1 dX1_getLost_13 (z_nms (fun s2 es2 => ?_))
  replace hw := hw.2
  replace hw := hw s2 es2
  exact z_vreturn C D dX1_getLost_14 ⟨rfl, hw⟩
set_option maxHeartbeats 4000000 in
set_option maxRecDepth 100000 in
theorem t_X8_lose {l : Launch} {E : zE} {a1 : Int32} {a2 : Int32} {s0 : zS} {Q : Int32 → zS → Prop}  (hw : Wp_X8_lose a1 a2 s0 Q) : zT l 4 E yX8_lose cX8_lose 3 (some .boolean) [.ref (E.1 0 0), .int a1, .int a2] s0 (zQb Q) := by
  unfold Wp_X8_lose at hw
  refine z_entry rfl (Nat.le_of_ble_eq_true rfl) rfl ?_
  intro X C D hl hE
  subst hl; subst hE
  have C : zC X cX8_lose RX8 3 4 := C
  refine z_aload_n C dX8_lose_0 rfl 0 rfl ?_
  refine z_aload_n C dX8_lose_1 rfl 0 rfl ?_
  refine z_iload_n C dX8_lose_2 rfl 1 rfl ?_
  refine z_iload_n C dX8_lose_3 rfl 2 rfl ?_
  refine z_callV C (by decide) M_X8_loseFault Mv_X8_loseFault kw_m_X8_269 ob_X8 (t_X8_loseFault hw) rfl rfl (Nat.le_of_ble_eq_true rfl) dX8_lose_4 (z_ki (fun r1 s2 hw => ?_))
  refine p_X8_67 C dX8_lose_7 (z_nms (fun s3 es3 => ?_))
  replace hw := hw s3 es3
  refine z_aload_n C dX8_lose_10 rfl 0 rfl ?_
  refine f_X8_67 C dX8_lose_11 ?_
  refine z_if_eq C (tgt := 19) dX8_lose_14 (by decide) (fun h => ?_) (fun h => ?_)
  · replace hw := hw.1 h
    refine z_aload_n C dX8_lose_19 rfl 0 rfl ?_
    refine z_iload_n C dX8_lose_20 rfl 2 rfl ?_
    refine p_X8_71 C dX8_lose_21 (z_nms (fun s4 es4 => ?_))
    replace hw := hw s4 es4
    refine z_aload_n C dX8_lose_24 rfl 0 rfl ?_
    refine f_X8_56 C dX8_lose_25 ?_
    refine f_X8_251 C dX8_lose_28 ?_
    refine z_aload_n C dX8_lose_31 rfl 0 rfl ?_
    refine f_X8_33 C dX8_lose_32 ?_
    refine f_X8_257 C dX8_lose_35 ?_
    refine z_iload_n C dX8_lose_38 rfl 1 rfl ?_
    refine z_iald C za_19 (by decide) (Int32.toNatClampNeg a1) rfl hw.1 dX8_lose_39 ?_
    replace hw := hw.2
    have hb5 := zin_lt hw.1
    refine z_aald C za_42 (by decide) rfl (Int32.toNatClampNeg (zi s4 19 0 (Int32.toNatClampNeg a1))) rfl hw.1 dX8_lose_40 ?_
    replace hw := hw.2
    refine z_iconst C 2 dX8_lose_41 (by decide) ?_
    refine z_dup2_11 C dX8_lose_42 rfl rfl ?_
    refine z_iald C za_43 hb5 2 (by decide) (vp_in_iff.mpr (by decide)) dX8_lose_43 ?_
    refine z_iconst C 1 dX8_lose_44 (by decide) ?_
    refine z_iadd C dX8_lose_45 ?_
    refine z_iast C za_43 hb5 2 (by decide) (vp_in_iff.mpr (by decide)) dX8_lose_46 (z_nms (fun s6 es6 => ?_))
    replace hw := hw s6 es6
    refine z_aload_n C dX8_lose_47 rfl 0 rfl ?_
    refine f_X8_33 C dX8_lose_48 ?_
    refine z_iload_n C dX8_lose_51 rfl 1 rfl ?_
    refine z_callV C (by decide) M_X1_getLost Mv_X1_getLost kw_m_X8_272 ob_X1 (t_X1_getLost hw) rfl rfl (Nat.le_of_ble_eq_true rfl) dX8_lose_52 (z_kv (fun s8 hw => ?_))
    refine z_iconst C 1 dX8_lose_55 (by decide) ?_
    exact z_zreturn C D dX8_lose_56 (Or.inr rfl) ⟨_, rfl, (Or.inr rfl), hw⟩
  · replace hw := hw.2 h
    refine z_iconst C 0 dX8_lose_17 (by decide) ?_
    exact z_zreturn C D dX8_lose_18 (Or.inl rfl) ⟨_, rfl, (Or.inl rfl), hw⟩
set_option maxHeartbeats 4000000 in
set_option maxRecDepth 100000 in
theorem t_X9_lose {l : Launch} {E : zE} {a1 : Int32} {a2 : Int32} {s0 : zS} {Q : Int32 → zS → Prop}  (hw : Wp_X9_lose a1 a2 s0 Q) : zT l 2 E yX9_lose cX9_lose 3 (some .boolean) [.ref (E.1 54 0), .int a1, .int a2] s0 (zQb Q) := by
  unfold Wp_X9_lose at hw
  refine z_entry rfl (Nat.le_of_ble_eq_true rfl) rfl ?_
  intro X C D hl hE
  subst hl; subst hE
  have C : zC X cX9_lose RX9 3 2 := C
  refine z_aload_n C dX9_lose_0 rfl 0 rfl ?_
  refine z_iload_n C dX9_lose_1 rfl 1 rfl ?_
  refine z_callV C (by decide) M_X9_isBird Mv_X9_isBird kw_m_X9_149 ob_X9 (t_X9_isBird hw) rfl rfl (Nat.le_of_ble_eq_true rfl) dX9_lose_2 (z_kb (fun r1 s2 hr1 hw => ?_))
  refine z_if_eq C (tgt := 15) dX9_lose_5 (by decide) (fun h => ?_) (fun h => ?_)
  · replace hw := hw.1 h
    refine z_aload_n C dX9_lose_15 rfl 0 rfl ?_
    refine z_iconst C 1 dX9_lose_16 (by decide) ?_
    refine z_callV C (by decide) M_X9_is Mv_X9_is kw_m_X9_120 ob_X9 (t_X9_is hw) rfl rfl (Nat.le_of_ble_eq_true rfl) dX9_lose_17 (z_kb (fun r3 s4 hr3 hw => ?_))
    exact z_zreturn C D dX9_lose_20 hr3 ⟨_, rfl, hr3, hw⟩
  · replace hw := hw.2 h
    refine z_iload_n C dX9_lose_8 rfl 2 rfl ?_
    refine z_callS C (by decide) M_X9_isMinute Ms_X9_isMinute kw_m_X9_226 (t_X9_isMinute hw) rfl rfl (Nat.le_of_ble_eq_true rfl) dX9_lose_9 (z_kb (fun r5 s6 hr5 hw => ?_))
    refine z_if_ne C (tgt := 21) dX9_lose_12 (by decide) (fun h => ?_) (fun h => ?_)
    · replace hw := hw.1 h
      refine z_iload_n C dX9_lose_21 rfl 2 rfl ?_
      refine z_aload_n C dX9_lose_22 rfl 0 rfl ?_
      refine f_X9_229 C dX9_lose_23 ?_
      refine z_icmp_ge C (tgt := 35) dX9_lose_26 (by decide) (fun h => ?_) (fun h => ?_)
      · replace hw := hw.1 h
        refine z_aload_n C dX9_lose_35 rfl 0 rfl ?_
        refine f_X9_45 C dX9_lose_36 ?_
        refine z_iload_n C dX9_lose_39 rfl 1 rfl ?_
        refine z_iald C za_65 (by decide) (Int32.toNatClampNeg a1) rfl hw.1 dX9_lose_40 ?_
        replace hw := hw.2
        refine z_iconst C 1 dX9_lose_41 (by decide) ?_
        refine z_icmp_eq C (tgt := 52) dX9_lose_42 (by decide) (fun h => ?_) (fun h => ?_)
        · replace hw := hw.1 h
          refine z_aload_n C dX9_lose_52 rfl 0 rfl ?_
          refine z_iload_n C dX9_lose_53 rfl 2 rfl ?_
          refine p_X9_229 C dX9_lose_54 (z_nms (fun s7 es7 => ?_))
          replace hw := hw s7 es7
          refine z_aload_n C dX9_lose_57 rfl 0 rfl ?_
          refine f_X9_45 C dX9_lose_58 ?_
          refine z_iload_n C dX9_lose_61 rfl 1 rfl ?_
          refine z_iconst C 2 dX9_lose_62 (by decide) ?_
          refine z_iast C za_65 (by decide) (Int32.toNatClampNeg a1) rfl hw.1 dX9_lose_63 (z_nms (fun s8 es8 => ?_))
          replace hw := hw.2
          replace hw := hw s8 es8
          refine z_aload_n C dX9_lose_64 rfl 0 rfl ?_
          refine f_X9_87 C dX9_lose_65 ?_
          refine z_aload_n C dX9_lose_68 rfl 0 rfl ?_
          refine f_X9_51 C dX9_lose_69 ?_
          refine z_iload_n C dX9_lose_72 rfl 1 rfl ?_
          refine z_iald C za_67 (by decide) (Int32.toNatClampNeg a1) rfl hw.1 dX9_lose_73 ?_
          replace hw := hw.2
          refine z_dup2_11 C dX9_lose_74 rfl rfl ?_
          refine z_iald C za_79 (by decide) (Int32.toNatClampNeg (zi s8 67 0 (Int32.toNatClampNeg a1))) rfl hw.1 dX9_lose_75 ?_
          replace hw := hw.2
          refine z_iconst C 1 dX9_lose_76 (by decide) ?_
          refine z_iadd C dX9_lose_77 ?_
          refine z_iast C za_79 (by decide) (Int32.toNatClampNeg (zi s8 67 0 (Int32.toNatClampNeg a1))) rfl hw.1 dX9_lose_78 (z_nms (fun s9 es9 => ?_))
          replace hw := hw.2
          replace hw := hw s9 es9
          refine z_aload_n C dX9_lose_79 rfl 0 rfl ?_
          refine z_iconst C 0 dX9_lose_80 (by decide) ?_
          refine z_callV C (by decide) M_X9_is Mv_X9_is kw_m_X9_120 ob_X9 (t_X9_is hw) rfl rfl (Nat.le_of_ble_eq_true rfl) dX9_lose_81 (z_kb (fun r10 s11 hr10 hw => ?_))
          exact z_zreturn C D dX9_lose_84 hr10 ⟨_, rfl, hr10, hw⟩
        · replace hw := hw.2 h
          refine z_aload_n C dX9_lose_45 rfl 0 rfl ?_
          refine z_bipush C 7 dX9_lose_46 (by decide) ?_
          refine z_callV C (by decide) M_X9_is Mv_X9_is kw_m_X9_120 ob_X9 (t_X9_is hw) rfl rfl (Nat.le_of_ble_eq_true rfl) dX9_lose_48 (z_kb (fun r12 s13 hr12 hw => ?_))
          exact z_zreturn C D dX9_lose_51 hr12 ⟨_, rfl, hr12, hw⟩
      · replace hw := hw.2 h
        refine z_aload_n C dX9_lose_29 rfl 0 rfl ?_
        refine z_iconst C 2 dX9_lose_30 (by decide) ?_
        refine z_callV C (by decide) M_X9_is Mv_X9_is kw_m_X9_120 ob_X9 (t_X9_is hw) rfl rfl (Nat.le_of_ble_eq_true rfl) dX9_lose_31 (z_kb (fun r14 s15 hr14 hw => ?_))
        exact z_zreturn C D dX9_lose_34 hr14 ⟨_, rfl, hr14, hw⟩
    · replace hw := hw.2 h
      refine z_aload_n C dX9_lose_15 rfl 0 rfl ?_
      refine z_iconst C 1 dX9_lose_16 (by decide) ?_
      refine z_callV C (by decide) M_X9_is Mv_X9_is kw_m_X9_120 ob_X9 (t_X9_is hw) rfl rfl (Nat.le_of_ble_eq_true rfl) dX9_lose_17 (z_kb (fun r16 s17 hr16 hw => ?_))
      exact z_zreturn C D dX9_lose_20 hr16 ⟨_, rfl, hr16, hw⟩
set_option maxHeartbeats 4000000 in
set_option maxRecDepth 100000 in
theorem t_X8_knows {l : Launch} {E : zE} {a1 : Int32} {a2 : Int32} {s0 : zS} {Q : Int32 → zS → Prop}  (hw : Wp_X8_knows a1 a2 s0 Q) : zT l 3 E yX8_knows cX8_knows 4 (some .int) [.ref (E.1 0 0), .int a1, .int a2] s0 (zQi Q) := by
  unfold Wp_X8_knows at hw
  refine z_entry rfl (Nat.le_of_ble_eq_true rfl) rfl ?_
  intro X C D hl hE
  subst hl; subst hE
  have C : zC X cX8_knows RX8 4 3 := C
  refine z_aload_n C dX8_knows_0 rfl 0 rfl ?_
  refine z_aload_n C dX8_knows_1 rfl 0 rfl ?_
  refine z_iload_n C dX8_knows_2 rfl 1 rfl ?_
  refine z_callV C (by decide) M_X8_isLetter Mv_X8_isLetter kw_m_X8_275 ob_X8 (t_X8_isLetter hw) rfl rfl (Nat.le_of_ble_eq_true rfl) dX8_knows_3 (z_kb (fun r1 s2 hr1 hw => ?_))
  refine z_if_eq C (tgt := 21) dX8_knows_6 (by decide) (fun h => ?_) (fun h => ?_)
  · replace hw := hw.1 h
    refine z_iconst C 0 dX8_knows_21 (by decide) ?_
    refine z_callS C (by decide) M_X8_wrongUnless Ms_X8_wrongUnless kw_m_X8_89 (t_X8_wrongUnless hw) rfl rfl (Nat.le_of_ble_eq_true rfl) dX8_knows_22 (z_ki (fun r3 s4 hw => ?_))
    refine p_X8_67 C dX8_knows_25 (z_nms (fun s5 es5 => ?_))
    replace hw := hw s5 es5
    refine z_aload_n C dX8_knows_28 rfl 0 rfl ?_
    refine f_X8_67 C dX8_knows_29 ?_
    refine z_if_eq C (tgt := 37) dX8_knows_32 (by decide) (fun h => ?_) (fun h => ?_)
    · replace hw := hw.1 h
      refine z_aload_n C dX8_knows_37 rfl 0 rfl ?_
      refine f_X8_56 C dX8_knows_38 ?_
      refine f_X8_278 C dX8_knows_41 ?_
      refine z_iload_n C dX8_knows_44 rfl 1 rfl ?_
      have hb6 := zin_lt hw.1
      refine z_aald C za_44 (by decide) rfl (Int32.toNatClampNeg a1) rfl hw.1 dX8_knows_45 ?_
      replace hw := hw.2
      refine z_iload_n C dX8_knows_46 rfl 2 rfl ?_
      refine z_iald C za_45 hb6 (Int32.toNatClampNeg a2) rfl hw.1 dX8_knows_47 ?_
      replace hw := hw.2
      refine z_nmi (fun x7 ex7 => ?_)
      replace hw := hw x7 ex7
      refine z_istore_n C [(3, .int x7), (0, .ref ((zXE X).1 0 0)), (1, .int a1), (2, .int a2)] dX8_knows_48 rfl (by decide) rfl ?_
      refine z_iload_n C dX8_knows_49 rfl 0 rfl ?_
      refine z_iconst C (-1) dX8_knows_50 (by decide) ?_
      refine z_icmp_ne C (tgt := 60) dX8_knows_51 (by decide) (fun h => ?_) (fun h => ?_)
      · replace hw := hw.1 h
        refine z_iload_n C dX8_knows_60 rfl 0 rfl ?_
        exact z_ireturn C D dX8_knows_61 ⟨_, rfl, hw⟩
      · replace hw := hw.2 h
        refine z_aload_n C dX8_knows_54 rfl 1 rfl ?_
        refine z_bipush C 7 dX8_knows_55 (by decide) ?_
        refine p_X8_67 C dX8_knows_57 (z_nms (fun s8 es8 => ?_))
        replace hw := hw s8 es8
        refine z_iload_n C dX8_knows_60 rfl 0 rfl ?_
        exact z_ireturn C D dX8_knows_61 ⟨_, rfl, hw⟩
    · replace hw := hw.2 h
      refine z_iconst C (-1) dX8_knows_35 (by decide) ?_
      exact z_ireturn C D dX8_knows_36 ⟨_, rfl, hw⟩
  · replace hw := hw.2 h
    refine z_aload_n C dX8_knows_9 rfl 0 rfl ?_
    refine z_iload_n C dX8_knows_10 rfl 2 rfl ?_
    refine z_callV C (by decide) M_X8_isTown Mv_X8_isTown kw_m_X8_167 ob_X8 (t_X8_isTown hw) rfl rfl (Nat.le_of_ble_eq_true rfl) dX8_knows_11 (z_kb (fun r9 s10 hr9 hw => ?_))
    refine z_if_eq C (tgt := 21) dX8_knows_14 (by decide) (fun h => ?_) (fun h => ?_)
    · replace hw := hw.1 h
      refine z_iconst C 0 dX8_knows_21 (by decide) ?_
      refine z_callS C (by decide) M_X8_wrongUnless Ms_X8_wrongUnless kw_m_X8_89 (t_X8_wrongUnless hw) rfl rfl (Nat.le_of_ble_eq_true rfl) dX8_knows_22 (z_ki (fun r11 s12 hw => ?_))
      refine p_X8_67 C dX8_knows_25 (z_nms (fun s13 es13 => ?_))
      replace hw := hw s13 es13
      refine z_aload_n C dX8_knows_28 rfl 0 rfl ?_
      refine f_X8_67 C dX8_knows_29 ?_
      refine z_if_eq C (tgt := 37) dX8_knows_32 (by decide) (fun h => ?_) (fun h => ?_)
      · replace hw := hw.1 h
        refine z_aload_n C dX8_knows_37 rfl 0 rfl ?_
        refine f_X8_56 C dX8_knows_38 ?_
        refine f_X8_278 C dX8_knows_41 ?_
        refine z_iload_n C dX8_knows_44 rfl 1 rfl ?_
        have hb14 := zin_lt hw.1
        refine z_aald C za_44 (by decide) rfl (Int32.toNatClampNeg a1) rfl hw.1 dX8_knows_45 ?_
        replace hw := hw.2
        refine z_iload_n C dX8_knows_46 rfl 2 rfl ?_
        refine z_iald C za_45 hb14 (Int32.toNatClampNeg a2) rfl hw.1 dX8_knows_47 ?_
        replace hw := hw.2
        refine z_nmi (fun x15 ex15 => ?_)
        replace hw := hw x15 ex15
        refine z_istore_n C [(3, .int x15), (0, .ref ((zXE X).1 0 0)), (1, .int a1), (2, .int a2)] dX8_knows_48 rfl (by decide) rfl ?_
        refine z_iload_n C dX8_knows_49 rfl 0 rfl ?_
        refine z_iconst C (-1) dX8_knows_50 (by decide) ?_
        refine z_icmp_ne C (tgt := 60) dX8_knows_51 (by decide) (fun h => ?_) (fun h => ?_)
        · replace hw := hw.1 h
          refine z_iload_n C dX8_knows_60 rfl 0 rfl ?_
          exact z_ireturn C D dX8_knows_61 ⟨_, rfl, hw⟩
        · replace hw := hw.2 h
          refine z_aload_n C dX8_knows_54 rfl 1 rfl ?_
          refine z_bipush C 7 dX8_knows_55 (by decide) ?_
          refine p_X8_67 C dX8_knows_57 (z_nms (fun s16 es16 => ?_))
          replace hw := hw s16 es16
          refine z_iload_n C dX8_knows_60 rfl 0 rfl ?_
          exact z_ireturn C D dX8_knows_61 ⟨_, rfl, hw⟩
      · replace hw := hw.2 h
        refine z_iconst C (-1) dX8_knows_35 (by decide) ?_
        exact z_ireturn C D dX8_knows_36 ⟨_, rfl, hw⟩
    · replace hw := hw.2 h
      refine z_iconst C 1 dX8_knows_17 (by decide) ?_
      refine z_goto C (tgt := 22) dX8_knows_18 (by decide) ?_
      refine z_callS C (by decide) M_X8_wrongUnless Ms_X8_wrongUnless kw_m_X8_89 (t_X8_wrongUnless hw) rfl rfl (Nat.le_of_ble_eq_true rfl) dX8_knows_22 (z_ki (fun r17 s18 hw => ?_))
      refine p_X8_67 C dX8_knows_25 (z_nms (fun s19 es19 => ?_))
      replace hw := hw s19 es19
      refine z_aload_n C dX8_knows_28 rfl 0 rfl ?_
      refine f_X8_67 C dX8_knows_29 ?_
      refine z_if_eq C (tgt := 37) dX8_knows_32 (by decide) (fun h => ?_) (fun h => ?_)
      · replace hw := hw.1 h
        refine z_aload_n C dX8_knows_37 rfl 0 rfl ?_
        refine f_X8_56 C dX8_knows_38 ?_
        refine f_X8_278 C dX8_knows_41 ?_
        refine z_iload_n C dX8_knows_44 rfl 1 rfl ?_
        have hb20 := zin_lt hw.1
        refine z_aald C za_44 (by decide) rfl (Int32.toNatClampNeg a1) rfl hw.1 dX8_knows_45 ?_
        replace hw := hw.2
        refine z_iload_n C dX8_knows_46 rfl 2 rfl ?_
        refine z_iald C za_45 hb20 (Int32.toNatClampNeg a2) rfl hw.1 dX8_knows_47 ?_
        replace hw := hw.2
        refine z_nmi (fun x21 ex21 => ?_)
        replace hw := hw x21 ex21
        refine z_istore_n C [(3, .int x21), (0, .ref ((zXE X).1 0 0)), (1, .int a1), (2, .int a2)] dX8_knows_48 rfl (by decide) rfl ?_
        refine z_iload_n C dX8_knows_49 rfl 0 rfl ?_
        refine z_iconst C (-1) dX8_knows_50 (by decide) ?_
        refine z_icmp_ne C (tgt := 60) dX8_knows_51 (by decide) (fun h => ?_) (fun h => ?_)
        · replace hw := hw.1 h
          refine z_iload_n C dX8_knows_60 rfl 0 rfl ?_
          exact z_ireturn C D dX8_knows_61 ⟨_, rfl, hw⟩
        · replace hw := hw.2 h
          refine z_aload_n C dX8_knows_54 rfl 1 rfl ?_
          refine z_bipush C 7 dX8_knows_55 (by decide) ?_
          refine p_X8_67 C dX8_knows_57 (z_nms (fun s22 es22 => ?_))
          replace hw := hw s22 es22
          refine z_iload_n C dX8_knows_60 rfl 0 rfl ?_
          exact z_ireturn C D dX8_knows_61 ⟨_, rfl, hw⟩
      · replace hw := hw.2 h
        refine z_iconst C (-1) dX8_knows_35 (by decide) ?_
        exact z_ireturn C D dX8_knows_36 ⟨_, rfl, hw⟩
set_option maxHeartbeats 4000000 in
set_option maxRecDepth 100000 in
theorem t_X9_knows {l : Launch} {E : zE} {a1 : Int32} {a2 : Int32} {s0 : zS} {Q : Int32 → zS → Prop}  (hw : Wp_X9_knows a1 a2 s0 Q) : zT l 2 E yX9_knows cX9_knows 3 (some .int) [.ref (E.1 54 0), .int a1, .int a2] s0 (zQi Q) := by
  unfold Wp_X9_knows at hw
  refine z_entry rfl (Nat.le_of_ble_eq_true rfl) rfl ?_
  intro X C D hl hE
  subst hl; subst hE
  have C : zC X cX9_knows RX9 3 2 := C
  refine z_aload_n C dX9_knows_0 rfl 0 rfl ?_
  refine z_iload_n C dX9_knows_1 rfl 1 rfl ?_
  refine z_callV C (by decide) M_X9_isLetter Mv_X9_isLetter kw_m_X9_237 ob_X9 (t_X9_isLetter hw) rfl rfl (Nat.le_of_ble_eq_true rfl) dX9_knows_2 (z_kb (fun r1 s2 hr1 hw => ?_))
  refine z_if_eq C (tgt := 16) dX9_knows_5 (by decide) (fun h => ?_) (fun h => ?_)
  · replace hw := hw.1 h
    refine z_aload_n C dX9_knows_16 rfl 0 rfl ?_
    refine z_iconst C 1 dX9_knows_17 (by decide) ?_
    refine z_callV C (by decide) M_X9_refuse Mv_X9_refuse kw_m_X9_139 ob_X9 (t_X9_refuse hw) rfl rfl (Nat.le_of_ble_eq_true rfl) dX9_knows_18 (z_ki (fun r3 s4 hw => ?_))
    exact z_ireturn C D dX9_knows_21 ⟨_, rfl, hw⟩
  · replace hw := hw.2 h
    refine z_aload_n C dX9_knows_8 rfl 0 rfl ?_
    refine z_iload_n C dX9_knows_9 rfl 2 rfl ?_
    refine z_callV C (by decide) M_X9_isTown Mv_X9_isTown kw_m_X9_146 ob_X9 (t_X9_isTown hw) rfl rfl (Nat.le_of_ble_eq_true rfl) dX9_knows_10 (z_kb (fun r5 s6 hr5 hw => ?_))
    refine z_if_ne C (tgt := 22) dX9_knows_13 (by decide) (fun h => ?_) (fun h => ?_)
    · replace hw := hw.1 h
      refine z_aload_n C dX9_knows_22 rfl 0 rfl ?_
      refine f_X9_93 C dX9_knows_23 ?_
      refine z_iload_n C dX9_knows_26 rfl 1 rfl ?_
      refine z_iload_n C dX9_knows_27 rfl 2 rfl ?_
      refine z_callS C (by decide) M_X9_place Ms_X9_place kw_m_X9_234 (t_X9_place hw) rfl rfl (Nat.le_of_ble_eq_true rfl) dX9_knows_28 (z_ki (fun r7 s8 hw => ?_))
      refine z_iald C za_81 (by decide) (Int32.toNatClampNeg r7) rfl hw.1 dX9_knows_31 ?_
      replace hw := hw.2
      refine z_iconst C (-1) dX9_knows_32 (by decide) ?_
      refine z_icmp_ne C (tgt := 43) dX9_knows_33 (by decide) (fun h => ?_) (fun h => ?_)
      · replace hw := hw.1 h
        refine z_aload_n C dX9_knows_43 rfl 0 rfl ?_
        refine z_iconst C 0 dX9_knows_44 (by decide) ?_
        refine p_X9_109 C dX9_knows_45 (z_nms (fun s9 es9 => ?_))
        replace hw := hw s9 es9
        refine z_aload_n C dX9_knows_48 rfl 0 rfl ?_
        refine f_X9_93 C dX9_knows_49 ?_
        refine z_iload_n C dX9_knows_52 rfl 1 rfl ?_
        refine z_iload_n C dX9_knows_53 rfl 2 rfl ?_
        refine z_callS C (by decide) M_X9_place Ms_X9_place kw_m_X9_234 (t_X9_place hw) rfl rfl (Nat.le_of_ble_eq_true rfl) dX9_knows_54 (z_ki (fun r10 s11 hw => ?_))
        refine z_iald C za_81 (by decide) (Int32.toNatClampNeg r10) rfl hw.1 dX9_knows_57 ?_
        replace hw := hw.2
        exact z_ireturn C D dX9_knows_58 ⟨_, rfl, hw⟩
      · replace hw := hw.2 h
        refine z_aload_n C dX9_knows_36 rfl 0 rfl ?_
        refine z_bipush C 7 dX9_knows_37 (by decide) ?_
        refine z_callV C (by decide) M_X9_refuse Mv_X9_refuse kw_m_X9_139 ob_X9 (t_X9_refuse hw) rfl rfl (Nat.le_of_ble_eq_true rfl) dX9_knows_39 (z_ki (fun r12 s13 hw => ?_))
        exact z_ireturn C D dX9_knows_42 ⟨_, rfl, hw⟩
    · replace hw := hw.2 h
      refine z_aload_n C dX9_knows_16 rfl 0 rfl ?_
      refine z_iconst C 1 dX9_knows_17 (by decide) ?_
      refine z_callV C (by decide) M_X9_refuse Mv_X9_refuse kw_m_X9_139 ob_X9 (t_X9_refuse hw) rfl rfl (Nat.le_of_ble_eq_true rfl) dX9_knows_18 (z_ki (fun r14 s15 hw => ?_))
      exact z_ireturn C D dX9_knows_21 ⟨_, rfl, hw⟩
set_option maxHeartbeats 4000000 in
set_option maxRecDepth 100000 in
theorem t_X8_joinedFault {l : Launch} {E : zE} {a1 : Int32} {a2 : Int32} {a3 : Int32} {s0 : zS} {Q : Int32 → zS → Prop}  (hw : Wp_X8_joinedFault a1 a2 a3 s0 Q) : zT l 3 E yX8_joinedFault cX8_joinedFault 4 (some .int) [.ref (E.1 0 0), .int a1, .int a2, .int a3] s0 (zQi Q) := by
  unfold Wp_X8_joinedFault at hw
  refine z_entry rfl (Nat.le_of_ble_eq_true rfl) rfl ?_
  intro X C D hl hE
  subst hl; subst hE
  have C : zC X cX8_joinedFault RX8 4 3 := C
  refine z_aload_n C dX8_joinedFault_0 rfl 0 rfl ?_
  refine z_iload_n C dX8_joinedFault_1 rfl 1 rfl ?_
  refine z_callV C (by decide) M_X8_isLetter Mv_X8_isLetter kw_m_X8_275 ob_X8 (t_X8_isLetter hw) rfl rfl (Nat.le_of_ble_eq_true rfl) dX8_joinedFault_2 (z_kb (fun r1 s2 hr1 hw => ?_))
  refine z_if_eq C (tgt := 16) dX8_joinedFault_5 (by decide) (fun h => ?_) (fun h => ?_)
  · replace hw := hw.1 h
    refine z_iconst C 1 dX8_joinedFault_16 (by decide) ?_
    exact z_ireturn C D dX8_joinedFault_17 ⟨_, rfl, hw⟩
  · replace hw := hw.2 h
    refine z_aload_n C dX8_joinedFault_8 rfl 0 rfl ?_
    refine z_iload_n C dX8_joinedFault_9 rfl 2 rfl ?_
    refine z_callV C (by decide) M_X8_isTown Mv_X8_isTown kw_m_X8_167 ob_X8 (t_X8_isTown hw) rfl rfl (Nat.le_of_ble_eq_true rfl) dX8_joinedFault_10 (z_kb (fun r3 s4 hr3 hw => ?_))
    refine z_if_ne C (tgt := 18) dX8_joinedFault_13 (by decide) (fun h => ?_) (fun h => ?_)
    · replace hw := hw.1 h
      refine z_iload_n C dX8_joinedFault_18 rfl 3 rfl ?_
      refine z_iconst C 0 dX8_joinedFault_19 (by decide) ?_
      refine z_aload_n C dX8_joinedFault_20 rfl 0 rfl ?_
      refine f_X8_56 C dX8_joinedFault_21 ?_
      refine f_X8_336 C dX8_joinedFault_24 ?_
      refine z_iload_n C dX8_joinedFault_27 rfl 1 rfl ?_
      refine z_iald C za_39 (by decide) (Int32.toNatClampNeg a1) rfl hw.1 dX8_joinedFault_28 ?_
      replace hw := hw.2
      refine z_iconst C 1 dX8_joinedFault_29 (by decide) ?_
      refine z_isub C dX8_joinedFault_30 ?_
      refine z_callS C (by decide) M_X8_within Ms_X8_within kw_m_X8_85 (t_X8_within hw) rfl rfl (Nat.le_of_ble_eq_true rfl) dX8_joinedFault_31 (z_kb (fun r5 s6 hr5 hw => ?_))
      refine z_if_eq C (tgt := 41) dX8_joinedFault_34 (by decide) (fun h => ?_) (fun h => ?_)
      · replace hw := hw.1 h
        refine z_bipush C 6 dX8_joinedFault_41 (by decide) ?_
        exact z_ireturn C D dX8_joinedFault_43 ⟨_, rfl, hw⟩
      · replace hw := hw.2 h
        refine z_iconst C 0 dX8_joinedFault_37 (by decide) ?_
        refine z_goto C (tgt := 43) dX8_joinedFault_38 (by decide) ?_
        exact z_ireturn C D dX8_joinedFault_43 ⟨_, rfl, hw⟩
    · replace hw := hw.2 h
      refine z_iconst C 1 dX8_joinedFault_16 (by decide) ?_
      exact z_ireturn C D dX8_joinedFault_17 ⟨_, rfl, hw⟩
set_option maxHeartbeats 4000000 in
set_option maxRecDepth 100000 in
theorem t_X4_byteThere {l : Launch} {E : zE} {a1 : Int32} {a2 : Int32} {a3 : Int32} {s0 : zS} {Q : Int32 → zS → Prop}  (hw : Wp_X4_byteThere a1 a2 a3 s0 Q) : zT l 1 E yX4_byteThere cX4_byteThere 4 (some .int) [.ref (E.1 38 0), .int a1, .int a2, .int a3] s0 (zQi Q) := by
  unfold Wp_X4_byteThere at hw
  refine z_entry rfl (Nat.le_of_ble_eq_true rfl) rfl ?_
  intro X C D hl hE
  subst hl; subst hE
  have C : zC X cX4_byteThere RX4 4 1 := C
  refine z_aload_n C dX4_byteThere_0 rfl 0 rfl ?_
  refine f_X4_32 C dX4_byteThere_1 ?_
  refine z_iload_n C dX4_byteThere_4 rfl 1 rfl ?_
  have hb1 := zin_lt hw.1
  refine z_aald C za_46 (by decide) rfl (Int32.toNatClampNeg a1) rfl hw.1 dX4_byteThere_5 ?_
  replace hw := hw.2
  refine z_iload_n C dX4_byteThere_6 rfl 2 rfl ?_
  refine z_lald C za_47 hb1 (Int32.toNatClampNeg a2) rfl hw.1 dX4_byteThere_7 ?_
  replace hw := hw.2
  refine z_iload_n C dX4_byteThere_8 rfl 3 rfl ?_
  refine z_lshr C dX4_byteThere_9 ?_
  refine z_lconst C 1 dX4_byteThere_10 (by decide) ?_
  refine z_land C dX4_byteThere_11 ?_
  refine z_lconst C 1 dX4_byteThere_12 (by decide) ?_
  refine z_lcmp_ne C (tgt := 28) dX4_byteThere_13 dX4_byteThere_14 (by decide) (fun h => ?_) (fun h => ?_)
  · replace hw := hw.1 h
    refine z_iconst C 0 dX4_byteThere_28 (by decide) ?_
    exact z_ireturn C D dX4_byteThere_29 ⟨_, rfl, hw⟩
  · replace hw := hw.2 h
    refine z_aload_n C dX4_byteThere_17 rfl 0 rfl ?_
    refine f_X4_21 C dX4_byteThere_18 ?_
    refine z_iload_n C dX4_byteThere_21 rfl 1 rfl ?_
    have hb2 := zin_lt hw.1
    refine z_aald C za_40 (by decide) rfl (Int32.toNatClampNeg a1) rfl hw.1 dX4_byteThere_22 ?_
    replace hw := hw.2
    refine z_iload_n C dX4_byteThere_23 rfl 3 rfl ?_
    refine z_iald C za_41 hb2 (Int32.toNatClampNeg a3) rfl hw.1 dX4_byteThere_24 ?_
    replace hw := hw.2
    refine z_goto C (tgt := 29) dX4_byteThere_25 (by decide) ?_
    exact z_ireturn C D dX4_byteThere_29 ⟨_, rfl, hw⟩
set_option maxHeartbeats 4000000 in
set_option maxRecDepth 100000 in
theorem t_X8_joined {l : Launch} {E : zE} {a1 : Int32} {a2 : Int32} {a3 : Int32} {s0 : zS} {Q : Int32 → zS → Prop}  (hw : Wp_X8_joined a1 a2 a3 s0 Q) : zT l 4 E yX8_joined cX8_joined 4 (some .int) [.ref (E.1 0 0), .int a1, .int a2, .int a3] s0 (zQi Q) := by
  unfold Wp_X8_joined at hw
  refine z_entry rfl (Nat.le_of_ble_eq_true rfl) rfl ?_
  intro X C D hl hE
  subst hl; subst hE
  have C : zC X cX8_joined RX8 4 4 := C
  refine z_aload_n C dX8_joined_0 rfl 0 rfl ?_
  refine z_aload_n C dX8_joined_1 rfl 0 rfl ?_
  refine z_iload_n C dX8_joined_2 rfl 1 rfl ?_
  refine z_iload_n C dX8_joined_3 rfl 2 rfl ?_
  refine z_iload_n C dX8_joined_4 rfl 3 rfl ?_
  refine z_callV C (by decide) M_X8_joinedFault Mv_X8_joinedFault kw_m_X8_281 ob_X8 (t_X8_joinedFault hw) rfl rfl (Nat.le_of_ble_eq_true rfl) dX8_joined_5 (z_ki (fun r1 s2 hw => ?_))
  refine p_X8_67 C dX8_joined_8 (z_nms (fun s3 es3 => ?_))
  replace hw := hw s3 es3
  refine z_aload_n C dX8_joined_11 rfl 0 rfl ?_
  refine f_X8_67 C dX8_joined_12 ?_
  refine z_if_eq C (tgt := 20) dX8_joined_15 (by decide) (fun h => ?_) (fun h => ?_)
  · replace hw := hw.1 h
    refine z_aload_n C dX8_joined_20 rfl 0 rfl ?_
    refine f_X8_56 C dX8_joined_21 ?_
    refine z_iload_n C dX8_joined_24 rfl 1 rfl ?_
    refine z_iload_n C dX8_joined_25 rfl 2 rfl ?_
    refine z_iload_n C dX8_joined_26 rfl 3 rfl ?_
    refine z_callV C (by decide) M_X4_byteThere Mv_X4_byteThere kw_m_X8_284 ob_X4 (t_X4_byteThere hw) rfl rfl (Nat.le_of_ble_eq_true rfl) dX8_joined_27 (z_ki (fun r4 s5 hw => ?_))
    exact z_ireturn C D dX8_joined_30 ⟨_, rfl, hw⟩
  · replace hw := hw.2 h
    refine z_iconst C (-1) dX8_joined_18 (by decide) ?_
    exact z_ireturn C D dX8_joined_19 ⟨_, rfl, hw⟩
set_option maxHeartbeats 4000000 in
set_option maxRecDepth 100000 in
theorem t_X9_joined {l : Launch} {E : zE} {a1 : Int32} {a2 : Int32} {a3 : Int32} {s0 : zS} {Q : Int32 → zS → Prop}  (hw : Wp_X9_joined a1 a2 a3 s0 Q) : zT l 2 E yX9_joined cX9_joined 4 (some .int) [.ref (E.1 54 0), .int a1, .int a2, .int a3] s0 (zQi Q) := by
  unfold Wp_X9_joined at hw
  refine z_entry rfl (Nat.le_of_ble_eq_true rfl) rfl ?_
  intro X C D hl hE
  subst hl; subst hE
  have C : zC X cX9_joined RX9 4 2 := C
  refine z_aload_n C dX9_joined_0 rfl 0 rfl ?_
  refine z_iload_n C dX9_joined_1 rfl 1 rfl ?_
  refine z_callV C (by decide) M_X9_isLetter Mv_X9_isLetter kw_m_X9_237 ob_X9 (t_X9_isLetter hw) rfl rfl (Nat.le_of_ble_eq_true rfl) dX9_joined_2 (z_kb (fun r1 s2 hr1 hw => ?_))
  refine z_if_eq C (tgt := 16) dX9_joined_5 (by decide) (fun h => ?_) (fun h => ?_)
  · replace hw := hw.1 h
    refine z_aload_n C dX9_joined_16 rfl 0 rfl ?_
    refine z_iconst C 1 dX9_joined_17 (by decide) ?_
    refine z_callV C (by decide) M_X9_refuse Mv_X9_refuse kw_m_X9_139 ob_X9 (t_X9_refuse hw) rfl rfl (Nat.le_of_ble_eq_true rfl) dX9_joined_18 (z_ki (fun r3 s4 hw => ?_))
    exact z_ireturn C D dX9_joined_21 ⟨_, rfl, hw⟩
  · replace hw := hw.2 h
    refine z_aload_n C dX9_joined_8 rfl 0 rfl ?_
    refine z_iload_n C dX9_joined_9 rfl 2 rfl ?_
    refine z_callV C (by decide) M_X9_isTown Mv_X9_isTown kw_m_X9_146 ob_X9 (t_X9_isTown hw) rfl rfl (Nat.le_of_ble_eq_true rfl) dX9_joined_10 (z_kb (fun r5 s6 hr5 hw => ?_))
    refine z_if_ne C (tgt := 22) dX9_joined_13 (by decide) (fun h => ?_) (fun h => ?_)
    · replace hw := hw.1 h
      refine z_iload_n C dX9_joined_22 rfl 3 rfl ?_
      refine z_if_lt C (tgt := 36) dX9_joined_23 (by decide) (fun h => ?_) (fun h => ?_)
      · replace hw := hw.1 h
        refine z_aload_n C dX9_joined_36 rfl 0 rfl ?_
        refine z_bipush C 6 dX9_joined_37 (by decide) ?_
        refine z_callV C (by decide) M_X9_refuse Mv_X9_refuse kw_m_X9_139 ob_X9 (t_X9_refuse hw) rfl rfl (Nat.le_of_ble_eq_true rfl) dX9_joined_39 (z_ki (fun r7 s8 hw => ?_))
        exact z_ireturn C D dX9_joined_42 ⟨_, rfl, hw⟩
      · replace hw := hw.2 h
        refine z_iload_n C dX9_joined_26 rfl 3 rfl ?_
        refine z_aload_n C dX9_joined_27 rfl 0 rfl ?_
        refine f_X9_78 C dX9_joined_28 ?_
        refine z_iload_n C dX9_joined_31 rfl 1 rfl ?_
        refine z_iald C za_76 (by decide) (Int32.toNatClampNeg a1) rfl hw.1 dX9_joined_32 ?_
        replace hw := hw.2
        refine z_icmp_lt C (tgt := 43) dX9_joined_33 (by decide) (fun h => ?_) (fun h => ?_)
        · replace hw := hw.1 h
          refine z_aload_n C dX9_joined_43 rfl 0 rfl ?_
          refine z_iconst C 0 dX9_joined_44 (by decide) ?_
          refine p_X9_109 C dX9_joined_45 (z_nms (fun s9 es9 => ?_))
          replace hw := hw s9 es9
          refine z_aload_n C dX9_joined_48 rfl 0 rfl ?_
          refine f_X9_96 C dX9_joined_49 ?_
          refine z_bipush C 40 dX9_joined_52 (by decide) ?_
          refine z_iload_n C dX9_joined_54 rfl 1 rfl ?_
          refine z_iload_n C dX9_joined_55 rfl 2 rfl ?_
          refine z_callS C (by decide) M_X9_place Ms_X9_place kw_m_X9_234 (t_X9_place hw) rfl rfl (Nat.le_of_ble_eq_true rfl) dX9_joined_56 (z_ki (fun r10 s11 hw => ?_))
          refine z_imul C dX9_joined_59 ?_
          refine z_iload_n C dX9_joined_60 rfl 3 rfl ?_
          refine z_iadd C dX9_joined_61 ?_
          refine z_zald C za_82 (by decide) (Int32.toNatClampNeg (((40 : Int32) * r10) + a3)) rfl hw.1 dX9_joined_62 ?_
          replace hw := hw.2
          refine z_if_eq C (tgt := 80) dX9_joined_63 (by decide) (fun h => ?_) (fun h => ?_)
          · replace hw := hw.1 h
            refine z_iconst C 0 dX9_joined_80 (by decide) ?_
            exact z_ireturn C D dX9_joined_81 ⟨_, rfl, hw⟩
          · replace hw := hw.2 h
            refine z_aload_n C dX9_joined_66 rfl 0 rfl ?_
            refine f_X9_90 C dX9_joined_67 ?_
            refine z_bipush C 40 dX9_joined_70 (by decide) ?_
            refine z_iload_n C dX9_joined_72 rfl 1 rfl ?_
            refine z_imul C dX9_joined_73 ?_
            refine z_iload_n C dX9_joined_74 rfl 3 rfl ?_
            refine z_iadd C dX9_joined_75 ?_
            refine z_iald C za_80 (by decide) (Int32.toNatClampNeg (((40 : Int32) * a1) + a3)) rfl hw.1 dX9_joined_76 ?_
            replace hw := hw.2
            refine z_goto C (tgt := 81) dX9_joined_77 (by decide) ?_
            exact z_ireturn C D dX9_joined_81 ⟨_, rfl, hw⟩
        · replace hw := hw.2 h
          refine z_aload_n C dX9_joined_36 rfl 0 rfl ?_
          refine z_bipush C 6 dX9_joined_37 (by decide) ?_
          refine z_callV C (by decide) M_X9_refuse Mv_X9_refuse kw_m_X9_139 ob_X9 (t_X9_refuse hw) rfl rfl (Nat.le_of_ble_eq_true rfl) dX9_joined_39 (z_ki (fun r12 s13 hw => ?_))
          exact z_ireturn C D dX9_joined_42 ⟨_, rfl, hw⟩
    · replace hw := hw.2 h
      refine z_aload_n C dX9_joined_16 rfl 0 rfl ?_
      refine z_iconst C 1 dX9_joined_17 (by decide) ?_
      refine z_callV C (by decide) M_X9_refuse Mv_X9_refuse kw_m_X9_139 ob_X9 (t_X9_refuse hw) rfl rfl (Nat.le_of_ble_eq_true rfl) dX9_joined_18 (z_ki (fun r14 s15 hw => ?_))
      exact z_ireturn C D dX9_joined_21 ⟨_, rfl, hw⟩
set_option maxHeartbeats 4000000 in
set_option maxRecDepth 100000 in
theorem t_X8_copies {l : Launch} {E : zE} {a1 : Int32} {a2 : Int32} {s0 : zS} {Q : Int32 → zS → Prop}  (hw : Wp_X8_copies a1 a2 s0 Q) : zT l 3 E yX8_copies cX8_copies 3 (some .int) [.ref (E.1 0 0), .int a1, .int a2] s0 (zQi Q) := by
  unfold Wp_X8_copies at hw
  refine z_entry rfl (Nat.le_of_ble_eq_true rfl) rfl ?_
  intro X C D hl hE
  subst hl; subst hE
  have C : zC X cX8_copies RX8 3 3 := C
  refine z_aload_n C dX8_copies_0 rfl 0 rfl ?_
  refine z_aload_n C dX8_copies_1 rfl 0 rfl ?_
  refine z_iload_n C dX8_copies_2 rfl 1 rfl ?_
  refine z_callV C (by decide) M_X8_isLetter Mv_X8_isLetter kw_m_X8_275 ob_X8 (t_X8_isLetter hw) rfl rfl (Nat.le_of_ble_eq_true rfl) dX8_copies_3 (z_kb (fun r1 s2 hr1 hw => ?_))
  refine z_if_eq C (tgt := 22) dX8_copies_6 (by decide) (fun h => ?_) (fun h => ?_)
  · replace hw := hw.1 h
    refine z_iconst C 0 dX8_copies_22 (by decide) ?_
    refine z_callS C (by decide) M_X8_wrongUnless Ms_X8_wrongUnless kw_m_X8_89 (t_X8_wrongUnless hw) rfl rfl (Nat.le_of_ble_eq_true rfl) dX8_copies_23 (z_ki (fun r3 s4 hw => ?_))
    refine p_X8_67 C dX8_copies_26 (z_nms (fun s5 es5 => ?_))
    replace hw := hw s5 es5
    refine z_aload_n C dX8_copies_29 rfl 0 rfl ?_
    refine f_X8_67 C dX8_copies_30 ?_
    refine z_if_eq C (tgt := 38) dX8_copies_33 (by decide) (fun h => ?_) (fun h => ?_)
    · replace hw := hw.1 h
      refine z_aload_n C dX8_copies_38 rfl 0 rfl ?_
      refine f_X8_56 C dX8_copies_39 ?_
      refine f_X8_251 C dX8_copies_42 ?_
      refine z_iload_n C dX8_copies_45 rfl 1 rfl ?_
      have hb6 := zin_lt hw.1
      refine z_aald C za_42 (by decide) rfl (Int32.toNatClampNeg a1) rfl hw.1 dX8_copies_46 ?_
      replace hw := hw.2
      refine z_iload_n C dX8_copies_47 rfl 2 rfl ?_
      refine z_iald C za_43 hb6 (Int32.toNatClampNeg a2) rfl hw.1 dX8_copies_48 ?_
      replace hw := hw.2
      exact z_ireturn C D dX8_copies_49 ⟨_, rfl, hw⟩
    · replace hw := hw.2 h
      refine z_iconst C (-1) dX8_copies_36 (by decide) ?_
      exact z_ireturn C D dX8_copies_37 ⟨_, rfl, hw⟩
  · replace hw := hw.2 h
    refine z_iload_n C dX8_copies_9 rfl 2 rfl ?_
    refine z_iconst C 0 dX8_copies_10 (by decide) ?_
    refine z_iconst C 2 dX8_copies_11 (by decide) ?_
    refine z_callS C (by decide) M_X8_within Ms_X8_within kw_m_X8_85 (t_X8_within hw) rfl rfl (Nat.le_of_ble_eq_true rfl) dX8_copies_12 (z_kb (fun r7 s8 hr7 hw => ?_))
    refine z_if_eq C (tgt := 22) dX8_copies_15 (by decide) (fun h => ?_) (fun h => ?_)
    · replace hw := hw.1 h
      refine z_iconst C 0 dX8_copies_22 (by decide) ?_
      refine z_callS C (by decide) M_X8_wrongUnless Ms_X8_wrongUnless kw_m_X8_89 (t_X8_wrongUnless hw) rfl rfl (Nat.le_of_ble_eq_true rfl) dX8_copies_23 (z_ki (fun r9 s10 hw => ?_))
      refine p_X8_67 C dX8_copies_26 (z_nms (fun s11 es11 => ?_))
      replace hw := hw s11 es11
      refine z_aload_n C dX8_copies_29 rfl 0 rfl ?_
      refine f_X8_67 C dX8_copies_30 ?_
      refine z_if_eq C (tgt := 38) dX8_copies_33 (by decide) (fun h => ?_) (fun h => ?_)
      · replace hw := hw.1 h
        refine z_aload_n C dX8_copies_38 rfl 0 rfl ?_
        refine f_X8_56 C dX8_copies_39 ?_
        refine f_X8_251 C dX8_copies_42 ?_
        refine z_iload_n C dX8_copies_45 rfl 1 rfl ?_
        have hb12 := zin_lt hw.1
        refine z_aald C za_42 (by decide) rfl (Int32.toNatClampNeg a1) rfl hw.1 dX8_copies_46 ?_
        replace hw := hw.2
        refine z_iload_n C dX8_copies_47 rfl 2 rfl ?_
        refine z_iald C za_43 hb12 (Int32.toNatClampNeg a2) rfl hw.1 dX8_copies_48 ?_
        replace hw := hw.2
        exact z_ireturn C D dX8_copies_49 ⟨_, rfl, hw⟩
      · replace hw := hw.2 h
        refine z_iconst C (-1) dX8_copies_36 (by decide) ?_
        exact z_ireturn C D dX8_copies_37 ⟨_, rfl, hw⟩
    · replace hw := hw.2 h
      refine z_iconst C 1 dX8_copies_18 (by decide) ?_
      refine z_goto C (tgt := 23) dX8_copies_19 (by decide) ?_
      refine z_callS C (by decide) M_X8_wrongUnless Ms_X8_wrongUnless kw_m_X8_89 (t_X8_wrongUnless hw) rfl rfl (Nat.le_of_ble_eq_true rfl) dX8_copies_23 (z_ki (fun r13 s14 hw => ?_))
      refine p_X8_67 C dX8_copies_26 (z_nms (fun s15 es15 => ?_))
      replace hw := hw s15 es15
      refine z_aload_n C dX8_copies_29 rfl 0 rfl ?_
      refine f_X8_67 C dX8_copies_30 ?_
      refine z_if_eq C (tgt := 38) dX8_copies_33 (by decide) (fun h => ?_) (fun h => ?_)
      · replace hw := hw.1 h
        refine z_aload_n C dX8_copies_38 rfl 0 rfl ?_
        refine f_X8_56 C dX8_copies_39 ?_
        refine f_X8_251 C dX8_copies_42 ?_
        refine z_iload_n C dX8_copies_45 rfl 1 rfl ?_
        have hb16 := zin_lt hw.1
        refine z_aald C za_42 (by decide) rfl (Int32.toNatClampNeg a1) rfl hw.1 dX8_copies_46 ?_
        replace hw := hw.2
        refine z_iload_n C dX8_copies_47 rfl 2 rfl ?_
        refine z_iald C za_43 hb16 (Int32.toNatClampNeg a2) rfl hw.1 dX8_copies_48 ?_
        replace hw := hw.2
        exact z_ireturn C D dX8_copies_49 ⟨_, rfl, hw⟩
      · replace hw := hw.2 h
        refine z_iconst C (-1) dX8_copies_36 (by decide) ?_
        exact z_ireturn C D dX8_copies_37 ⟨_, rfl, hw⟩
set_option maxHeartbeats 4000000 in
set_option maxRecDepth 100000 in
theorem t_X9_copies {l : Launch} {E : zE} {a1 : Int32} {a2 : Int32} {s0 : zS} {Q : Int32 → zS → Prop}  (hw : Wp_X9_copies a1 a2 s0 Q) : zT l 2 E yX9_copies cX9_copies 3 (some .int) [.ref (E.1 54 0), .int a1, .int a2] s0 (zQi Q) := by
  unfold Wp_X9_copies at hw
  refine z_entry rfl (Nat.le_of_ble_eq_true rfl) rfl ?_
  intro X C D hl hE
  subst hl; subst hE
  have C : zC X cX9_copies RX9 3 2 := C
  refine z_aload_n C dX9_copies_0 rfl 0 rfl ?_
  refine z_iload_n C dX9_copies_1 rfl 1 rfl ?_
  refine z_callV C (by decide) M_X9_isLetter Mv_X9_isLetter kw_m_X9_237 ob_X9 (t_X9_isLetter hw) rfl rfl (Nat.le_of_ble_eq_true rfl) dX9_copies_2 (z_kb (fun r1 s2 hr1 hw => ?_))
  refine z_if_eq C (tgt := 17) dX9_copies_5 (by decide) (fun h => ?_) (fun h => ?_)
  · replace hw := hw.1 h
    refine z_aload_n C dX9_copies_17 rfl 0 rfl ?_
    refine z_iconst C 1 dX9_copies_18 (by decide) ?_
    refine z_callV C (by decide) M_X9_refuse Mv_X9_refuse kw_m_X9_139 ob_X9 (t_X9_refuse hw) rfl rfl (Nat.le_of_ble_eq_true rfl) dX9_copies_19 (z_ki (fun r3 s4 hw => ?_))
    exact z_ireturn C D dX9_copies_22 ⟨_, rfl, hw⟩
  · replace hw := hw.2 h
    refine z_iload_n C dX9_copies_8 rfl 2 rfl ?_
    refine z_if_lt C (tgt := 17) dX9_copies_9 (by decide) (fun h => ?_) (fun h => ?_)
    · replace hw := hw.1 h
      refine z_aload_n C dX9_copies_17 rfl 0 rfl ?_
      refine z_iconst C 1 dX9_copies_18 (by decide) ?_
      refine z_callV C (by decide) M_X9_refuse Mv_X9_refuse kw_m_X9_139 ob_X9 (t_X9_refuse hw) rfl rfl (Nat.le_of_ble_eq_true rfl) dX9_copies_19 (z_ki (fun r5 s6 hw => ?_))
      exact z_ireturn C D dX9_copies_22 ⟨_, rfl, hw⟩
    · replace hw := hw.2 h
      refine z_iload_n C dX9_copies_12 rfl 2 rfl ?_
      refine z_iconst C 2 dX9_copies_13 (by decide) ?_
      refine z_icmp_le C (tgt := 23) dX9_copies_14 (by decide) (fun h => ?_) (fun h => ?_)
      · replace hw := hw.1 h
        refine z_aload_n C dX9_copies_23 rfl 0 rfl ?_
        refine z_iconst C 0 dX9_copies_24 (by decide) ?_
        refine p_X9_109 C dX9_copies_25 (z_nms (fun s7 es7 => ?_))
        replace hw := hw s7 es7
        refine z_iload_n C dX9_copies_28 rfl 2 rfl ?_
        refine z_if_ne C (tgt := 41) dX9_copies_29 (by decide) (fun h => ?_) (fun h => ?_)
        · replace hw := hw.1 h
          refine z_iload_n C dX9_copies_41 rfl 2 rfl ?_
          refine z_iconst C 1 dX9_copies_42 (by decide) ?_
          refine z_icmp_ne C (tgt := 55) dX9_copies_43 (by decide) (fun h => ?_) (fun h => ?_)
          · replace hw := hw.1 h
            refine z_aload_n C dX9_copies_55 rfl 0 rfl ?_
            refine f_X9_87 C dX9_copies_56 ?_
            refine z_iload_n C dX9_copies_59 rfl 1 rfl ?_
            refine z_iald C za_79 (by decide) (Int32.toNatClampNeg a1) rfl hw.1 dX9_copies_60 ?_
            replace hw := hw.2
            exact z_ireturn C D dX9_copies_61 ⟨_, rfl, hw⟩
          · replace hw := hw.2 h
            refine z_aload_n C dX9_copies_46 rfl 0 rfl ?_
            refine f_X9_84 C dX9_copies_47 ?_
            refine z_iload_n C dX9_copies_50 rfl 1 rfl ?_
            refine z_iald C za_78 (by decide) (Int32.toNatClampNeg a1) rfl hw.1 dX9_copies_51 ?_
            replace hw := hw.2
            refine z_goto C (tgt := 61) dX9_copies_52 (by decide) ?_
            exact z_ireturn C D dX9_copies_61 ⟨_, rfl, hw⟩
        · replace hw := hw.2 h
          refine z_aload_n C dX9_copies_32 rfl 0 rfl ?_
          refine f_X9_81 C dX9_copies_33 ?_
          refine z_iload_n C dX9_copies_36 rfl 1 rfl ?_
          refine z_iald C za_77 (by decide) (Int32.toNatClampNeg a1) rfl hw.1 dX9_copies_37 ?_
          replace hw := hw.2
          refine z_goto C (tgt := 61) dX9_copies_38 (by decide) ?_
          exact z_ireturn C D dX9_copies_61 ⟨_, rfl, hw⟩
      · replace hw := hw.2 h
        refine z_aload_n C dX9_copies_17 rfl 0 rfl ?_
        refine z_iconst C 1 dX9_copies_18 (by decide) ?_
        refine z_callV C (by decide) M_X9_refuse Mv_X9_refuse kw_m_X9_139 ob_X9 (t_X9_refuse hw) rfl rfl (Nat.le_of_ble_eq_true rfl) dX9_copies_19 (z_ki (fun r8 s9 hw => ?_))
        exact z_ireturn C D dX9_copies_22 ⟨_, rfl, hw⟩
set_option maxHeartbeats 4000000 in
set_option maxRecDepth 100000 in
theorem t_X2_isAboveLatest {l : Launch} {E : zE} {a1 : Int32} {a2 : Int32} {a3 : Int32} {s0 : zS} {Q : Int32 → zS → Prop}  (hw : Wp_X2_isAboveLatest a1 a2 a3 s0 Q) : zT l 1 E yX2_isAboveLatest cX2_isAboveLatest 5 (some .boolean) [.ref (E.1 48 0), .int a1, .int a2, .int a3] s0 (zQb Q) := by
  unfold Wp_X2_isAboveLatest at hw
  refine z_entry rfl (Nat.le_of_ble_eq_true rfl) rfl ?_
  intro X C D hl hE
  subst hl; subst hE
  have C : zC X cX2_isAboveLatest RX2 5 1 := C
  refine z_aload_n C dX2_isAboveLatest_0 rfl 0 rfl ?_
  refine f_X2_9 C dX2_isAboveLatest_1 ?_
  refine z_iload_n C dX2_isAboveLatest_4 rfl 1 rfl ?_
  refine z_iald C za_49 (by decide) (Int32.toNatClampNeg a1) rfl hw.1 dX2_isAboveLatest_5 ?_
  replace hw := hw.2
  refine z_iconst C 1 dX2_isAboveLatest_6 (by decide) ?_
  refine z_isub C dX2_isAboveLatest_7 ?_
  refine z_nmi (fun x1 ex1 => ?_)
  replace hw := hw x1 ex1
  refine z_istore C [(4, .int x1), (0, .ref ((zXE X).1 48 0)), (1, .int a1), (2, .int a2), (3, .int a3)] dX2_isAboveLatest_8 (by decide) rfl ?_
  refine z_iload C dX2_isAboveLatest_10 0 rfl ?_
  refine z_if_lt C (tgt := 41) dX2_isAboveLatest_12 (by decide) (fun h => ?_) (fun h => ?_)
  · replace hw := hw.1 h
    refine z_iconst C 1 dX2_isAboveLatest_41 (by decide) ?_
    refine z_goto C (tgt := 46) dX2_isAboveLatest_42 (by decide) ?_
    exact z_zreturn C D dX2_isAboveLatest_46 (Or.inr rfl) ⟨_, rfl, (Or.inr rfl), hw⟩
  · replace hw := hw.2 h
    refine z_iload_n C dX2_isAboveLatest_15 rfl 3 rfl ?_
    refine z_aload_n C dX2_isAboveLatest_16 rfl 1 rfl ?_
    refine f_X2_17 C dX2_isAboveLatest_17 ?_
    refine z_iload_n C dX2_isAboveLatest_20 rfl 2 rfl ?_
    have hb2 := zin_lt hw.1
    refine z_aald C za_50 (by decide) rfl (Int32.toNatClampNeg a1) rfl hw.1 dX2_isAboveLatest_21 ?_
    replace hw := hw.2
    refine z_iload C dX2_isAboveLatest_22 0 rfl ?_
    refine z_iald C za_51 hb2 (Int32.toNatClampNeg x1) rfl hw.1 dX2_isAboveLatest_24 ?_
    replace hw := hw.2
    refine z_icmp_le C (tgt := 45) dX2_isAboveLatest_25 (by decide) (fun h => ?_) (fun h => ?_)
    · replace hw := hw.1 h
      refine z_iconst C 0 dX2_isAboveLatest_45 (by decide) ?_
      exact z_zreturn C D dX2_isAboveLatest_46 (Or.inl rfl) ⟨_, rfl, (Or.inl rfl), hw⟩
    · replace hw := hw.2 h
      refine z_iload_n C dX2_isAboveLatest_28 rfl 4 rfl ?_
      refine z_aload_n C dX2_isAboveLatest_29 rfl 1 rfl ?_
      refine f_X2_20 C dX2_isAboveLatest_30 ?_
      refine z_iload_n C dX2_isAboveLatest_33 rfl 2 rfl ?_
      have hb3 := zin_lt hw.1
      refine z_aald C za_52 (by decide) rfl (Int32.toNatClampNeg a1) rfl hw.1 dX2_isAboveLatest_34 ?_
      replace hw := hw.2
      refine z_iload C dX2_isAboveLatest_35 0 rfl ?_
      refine z_iald C za_53 hb3 (Int32.toNatClampNeg x1) rfl hw.1 dX2_isAboveLatest_37 ?_
      replace hw := hw.2
      refine z_icmp_le C (tgt := 45) dX2_isAboveLatest_38 (by decide) (fun h => ?_) (fun h => ?_)
      · replace hw := hw.1 h
        refine z_iconst C 0 dX2_isAboveLatest_45 (by decide) ?_
        exact z_zreturn C D dX2_isAboveLatest_46 (Or.inl rfl) ⟨_, rfl, (Or.inl rfl), hw⟩
      · replace hw := hw.2 h
        refine z_iconst C 1 dX2_isAboveLatest_41 (by decide) ?_
        refine z_goto C (tgt := 46) dX2_isAboveLatest_42 (by decide) ?_
        exact z_zreturn C D dX2_isAboveLatest_46 (Or.inr rfl) ⟨_, rfl, (Or.inr rfl), hw⟩
set_option maxHeartbeats 4000000 in
set_option maxRecDepth 100000 in
theorem t_X8_readingFault {l : Launch} {E : zE} {a1 : Int32} {a2 : Int32} {a3 : Int32} {s0 : zS} {Q : Int32 → zS → Prop}  (hw : Wp_X8_readingFault a1 a2 a3 s0 Q) : zT l 3 E yX8_readingFault cX8_readingFault 4 (some .int) [.ref (E.1 0 0), .int a1, .int a2, .int a3] s0 (zQi Q) := by
  unfold Wp_X8_readingFault at hw
  refine z_entry rfl (Nat.le_of_ble_eq_true rfl) rfl ?_
  intro X C D hl hE
  subst hl; subst hE
  have C : zC X cX8_readingFault RX8 4 3 := C
  refine z_aload_n C dX8_readingFault_0 rfl 0 rfl ?_
  refine z_iload_n C dX8_readingFault_1 rfl 1 rfl ?_
  refine z_callV C (by decide) M_X8_isTown Mv_X8_isTown kw_m_X8_167 ob_X8 (t_X8_isTown hw) rfl rfl (Nat.le_of_ble_eq_true rfl) dX8_readingFault_2 (z_kb (fun r1 s2 hr1 hw => ?_))
  refine z_if_eq C (tgt := 26) dX8_readingFault_5 (by decide) (fun h => ?_) (fun h => ?_)
  · replace hw := hw.1 h
    refine z_iconst C 1 dX8_readingFault_26 (by decide) ?_
    exact z_ireturn C D dX8_readingFault_27 ⟨_, rfl, hw⟩
  · replace hw := hw.2 h
    refine z_iload_n C dX8_readingFault_8 rfl 2 rfl ?_
    refine z_callS C (by decide) M_X8_isMinute Ms_X8_isMinute kw_m_X8_321 (t_X8_isMinute hw) rfl rfl (Nat.le_of_ble_eq_true rfl) dX8_readingFault_9 (z_kb (fun r3 s4 hr3 hw => ?_))
    refine z_if_eq C (tgt := 26) dX8_readingFault_12 (by decide) (fun h => ?_) (fun h => ?_)
    · replace hw := hw.1 h
      refine z_iconst C 1 dX8_readingFault_26 (by decide) ?_
      exact z_ireturn C D dX8_readingFault_27 ⟨_, rfl, hw⟩
    · replace hw := hw.2 h
      refine z_iload_n C dX8_readingFault_15 rfl 3 rfl ?_
      refine z_iconst C 0 dX8_readingFault_16 (by decide) ?_
      refine z_ldc_w C (v := 200000) kw_c_X8_337 dX8_readingFault_17 ?_
      refine z_callS C (by decide) M_X8_within Ms_X8_within kw_m_X8_85 (t_X8_within hw) rfl rfl (Nat.le_of_ble_eq_true rfl) dX8_readingFault_20 (z_kb (fun r5 s6 hr5 hw => ?_))
      refine z_if_ne C (tgt := 28) dX8_readingFault_23 (by decide) (fun h => ?_) (fun h => ?_)
      · replace hw := hw.1 h
        refine z_iload_n C dX8_readingFault_28 rfl 2 rfl ?_
        refine z_aload_n C dX8_readingFault_29 rfl 0 rfl ?_
        refine f_X8_71 C dX8_readingFault_30 ?_
        refine z_icmp_ge C (tgt := 38) dX8_readingFault_33 (by decide) (fun h => ?_) (fun h => ?_)
        · replace hw := hw.1 h
          refine z_aload_n C dX8_readingFault_38 rfl 0 rfl ?_
          refine f_X8_63 C dX8_readingFault_39 ?_
          refine z_iload_n C dX8_readingFault_42 rfl 1 rfl ?_
          refine z_iload_n C dX8_readingFault_43 rfl 2 rfl ?_
          refine z_iload_n C dX8_readingFault_44 rfl 3 rfl ?_
          refine z_callV C (by decide) M_X2_isAboveLatest Mv_X2_isAboveLatest kw_m_X8_338 ob_X2 (t_X2_isAboveLatest hw) rfl rfl (Nat.le_of_ble_eq_true rfl) dX8_readingFault_45 (z_kb (fun r7 s8 hr7 hw => ?_))
          refine z_if_ne C (tgt := 53) dX8_readingFault_48 (by decide) (fun h => ?_) (fun h => ?_)
          · replace hw := hw.1 h
            refine z_aload_n C dX8_readingFault_53 rfl 0 rfl ?_
            refine f_X8_63 C dX8_readingFault_54 ?_
            refine f_X8_341 C dX8_readingFault_57 ?_
            refine z_iload_n C dX8_readingFault_60 rfl 1 rfl ?_
            refine z_iald C za_49 (by decide) (Int32.toNatClampNeg a1) rfl hw.1 dX8_readingFault_61 ?_
            replace hw := hw.2
            refine z_bipush C 10 dX8_readingFault_62 (by decide) ?_
            refine z_icmp_ge C (tgt := 71) dX8_readingFault_64 (by decide) (fun h => ?_) (fun h => ?_)
            · replace hw := hw.1 h
              refine z_iconst C 5 dX8_readingFault_71 (by decide) ?_
              exact z_ireturn C D dX8_readingFault_72 ⟨_, rfl, hw⟩
            · replace hw := hw.2 h
              refine z_iconst C 0 dX8_readingFault_67 (by decide) ?_
              refine z_goto C (tgt := 72) dX8_readingFault_68 (by decide) ?_
              exact z_ireturn C D dX8_readingFault_72 ⟨_, rfl, hw⟩
          · replace hw := hw.2 h
            refine z_iconst C 1 dX8_readingFault_51 (by decide) ?_
            exact z_ireturn C D dX8_readingFault_52 ⟨_, rfl, hw⟩
        · replace hw := hw.2 h
          refine z_iconst C 2 dX8_readingFault_36 (by decide) ?_
          exact z_ireturn C D dX8_readingFault_37 ⟨_, rfl, hw⟩
      · replace hw := hw.2 h
        refine z_iconst C 1 dX8_readingFault_26 (by decide) ?_
        exact z_ireturn C D dX8_readingFault_27 ⟨_, rfl, hw⟩
set_option maxHeartbeats 4000000 in
set_option maxRecDepth 100000 in
theorem t_X2_add {l : Launch} {E : zE} {a1 : Int32} {a2 : Int32} {a3 : Int32} {s0 : zS} {Q : zS → Prop}  (hw : Wp_X2_add a1 a2 a3 s0 Q) : zT l 1 E yX2_add cX2_add 4 none [.ref (E.1 48 0), .int a1, .int a2, .int a3] s0 (zQv Q) := by
  unfold Wp_X2_add at hw
  refine z_entry rfl (Nat.le_of_ble_eq_true rfl) rfl ?_
  intro X C D hl hE
  subst hl; subst hE
  have C : zC X cX2_add RX2 4 1 := C
  refine z_aload_n C dX2_add_0 rfl 0 rfl ?_
  refine f_X2_17 C dX2_add_1 ?_
  refine z_iload_n C dX2_add_4 rfl 1 rfl ?_
  have hb1 := zin_lt hw.1
  refine z_aald C za_50 (by decide) rfl (Int32.toNatClampNeg a1) rfl hw.1 dX2_add_5 ?_
  replace hw := hw.2
  refine z_aload_n C dX2_add_6 rfl 0 rfl ?_
  refine f_X2_9 C dX2_add_7 ?_
  refine z_iload_n C dX2_add_10 rfl 1 rfl ?_
  refine z_iald C za_49 (by decide) (Int32.toNatClampNeg a1) rfl hw.1 dX2_add_11 ?_
  replace hw := hw.2
  refine z_iload_n C dX2_add_12 rfl 2 rfl ?_
  refine z_iast C za_51 hb1 (Int32.toNatClampNeg (zi s0 49 0 (Int32.toNatClampNeg a1))) rfl hw.1 dX2_add_13 (z_nms (fun s2 es2 => ?_))
  replace hw := hw.2
  replace hw := hw s2 es2
  refine z_aload_n C dX2_add_14 rfl 0 rfl ?_
  refine f_X2_20 C dX2_add_15 ?_
  refine z_iload_n C dX2_add_18 rfl 1 rfl ?_
  have hb3 := zin_lt hw.1
  refine z_aald C za_52 (by decide) rfl (Int32.toNatClampNeg a1) rfl hw.1 dX2_add_19 ?_
  replace hw := hw.2
  refine z_aload_n C dX2_add_20 rfl 0 rfl ?_
  refine f_X2_9 C dX2_add_21 ?_
  refine z_iload_n C dX2_add_24 rfl 1 rfl ?_
  refine z_iald C za_49 (by decide) (Int32.toNatClampNeg a1) rfl hw.1 dX2_add_25 ?_
  replace hw := hw.2
  refine z_iload_n C dX2_add_26 rfl 3 rfl ?_
  refine z_iast C za_53 hb3 (Int32.toNatClampNeg (zi s2 49 0 (Int32.toNatClampNeg a1))) rfl hw.1 dX2_add_27 (z_nms (fun s4 es4 => ?_))
  replace hw := hw.2
  replace hw := hw s4 es4
  refine z_aload_n C dX2_add_28 rfl 0 rfl ?_
  refine f_X2_9 C dX2_add_29 ?_
  refine z_iload_n C dX2_add_32 rfl 1 rfl ?_
  refine z_dup2_11 C dX2_add_33 rfl rfl ?_
  refine z_iald C za_49 (by decide) (Int32.toNatClampNeg a1) rfl hw.1 dX2_add_34 ?_
  replace hw := hw.2
  refine z_iconst C 1 dX2_add_35 (by decide) ?_
  refine z_iadd C dX2_add_36 ?_
  refine z_iast C za_49 (by decide) (Int32.toNatClampNeg a1) rfl hw.1 dX2_add_37 (z_nms (fun s5 es5 => ?_))
  replace hw := hw.2
  replace hw := hw s5 es5
  exact z_vreturn C D dX2_add_38 ⟨rfl, hw⟩
set_option maxHeartbeats 4000000 in
set_option maxRecDepth 100000 in
theorem t_X8_reading {l : Launch} {E : zE} {a1 : Int32} {a2 : Int32} {a3 : Int32} {s0 : zS} {Q : Int32 → zS → Prop}  (hw : Wp_X8_reading a1 a2 a3 s0 Q) : zT l 4 E yX8_reading cX8_reading 4 (some .boolean) [.ref (E.1 0 0), .int a1, .int a2, .int a3] s0 (zQb Q) := by
  unfold Wp_X8_reading at hw
  refine z_entry rfl (Nat.le_of_ble_eq_true rfl) rfl ?_
  intro X C D hl hE
  subst hl; subst hE
  have C : zC X cX8_reading RX8 4 4 := C
  refine z_aload_n C dX8_reading_0 rfl 0 rfl ?_
  refine z_aload_n C dX8_reading_1 rfl 0 rfl ?_
  refine z_iload_n C dX8_reading_2 rfl 1 rfl ?_
  refine z_iload_n C dX8_reading_3 rfl 2 rfl ?_
  refine z_iload_n C dX8_reading_4 rfl 3 rfl ?_
  refine z_callV C (by decide) M_X8_readingFault Mv_X8_readingFault kw_m_X8_287 ob_X8 (t_X8_readingFault hw) rfl rfl (Nat.le_of_ble_eq_true rfl) dX8_reading_5 (z_ki (fun r1 s2 hw => ?_))
  refine p_X8_67 C dX8_reading_8 (z_nms (fun s3 es3 => ?_))
  replace hw := hw s3 es3
  refine z_aload_n C dX8_reading_11 rfl 0 rfl ?_
  refine f_X8_67 C dX8_reading_12 ?_
  refine z_if_eq C (tgt := 20) dX8_reading_15 (by decide) (fun h => ?_) (fun h => ?_)
  · replace hw := hw.1 h
    refine z_aload_n C dX8_reading_20 rfl 0 rfl ?_
    refine z_iload_n C dX8_reading_21 rfl 2 rfl ?_
    refine p_X8_71 C dX8_reading_22 (z_nms (fun s4 es4 => ?_))
    replace hw := hw s4 es4
    refine z_aload_n C dX8_reading_25 rfl 0 rfl ?_
    refine f_X8_63 C dX8_reading_26 ?_
    refine z_iload_n C dX8_reading_29 rfl 1 rfl ?_
    refine z_iload_n C dX8_reading_30 rfl 2 rfl ?_
    refine z_iload_n C dX8_reading_31 rfl 3 rfl ?_
    refine z_callV C (by decide) M_X2_add Mv_X2_add kw_m_X8_290 ob_X2 (t_X2_add hw) rfl rfl (Nat.le_of_ble_eq_true rfl) dX8_reading_32 (z_kv (fun s6 hw => ?_))
    refine z_iconst C 1 dX8_reading_35 (by decide) ?_
    exact z_zreturn C D dX8_reading_36 (Or.inr rfl) ⟨_, rfl, (Or.inr rfl), hw⟩
  · replace hw := hw.2 h
    refine z_iconst C 0 dX8_reading_18 (by decide) ?_
    exact z_zreturn C D dX8_reading_19 (Or.inl rfl) ⟨_, rfl, (Or.inl rfl), hw⟩
set_option maxHeartbeats 4000000 in
set_option maxRecDepth 100000 in
theorem t_X9_reading {l : Launch} {E : zE} {a1 : Int32} {a2 : Int32} {a3 : Int32} {s0 : zS} {Q : Int32 → zS → Prop}  (hw : Wp_X9_reading a1 a2 a3 s0 Q) : zT l 2 E yX9_reading cX9_reading 5 (some .boolean) [.ref (E.1 54 0), .int a1, .int a2, .int a3] s0 (zQb Q) := by
  unfold Wp_X9_reading at hw
  refine z_entry rfl (Nat.le_of_ble_eq_true rfl) rfl ?_
  intro X C D hl hE
  subst hl; subst hE
  have C : zC X cX9_reading RX9 5 2 := C
  refine z_aload_n C dX9_reading_0 rfl 0 rfl ?_
  refine z_iload_n C dX9_reading_1 rfl 1 rfl ?_
  refine z_callV C (by decide) M_X9_isTown Mv_X9_isTown kw_m_X9_146 ob_X9 (t_X9_isTown hw) rfl rfl (Nat.le_of_ble_eq_true rfl) dX9_reading_2 (z_kb (fun r1 s2 hr1 hw => ?_))
  refine z_if_eq C (tgt := 25) dX9_reading_5 (by decide) (fun h => ?_) (fun h => ?_)
  · replace hw := hw.1 h
    refine z_aload_n C dX9_reading_25 rfl 0 rfl ?_
    refine z_iconst C 1 dX9_reading_26 (by decide) ?_
    refine z_callV C (by decide) M_X9_is Mv_X9_is kw_m_X9_120 ob_X9 (t_X9_is hw) rfl rfl (Nat.le_of_ble_eq_true rfl) dX9_reading_27 (z_kb (fun r3 s4 hr3 hw => ?_))
    exact z_zreturn C D dX9_reading_30 hr3 ⟨_, rfl, hr3, hw⟩
  · replace hw := hw.2 h
    refine z_iload_n C dX9_reading_8 rfl 2 rfl ?_
    refine z_callS C (by decide) M_X9_isMinute Ms_X9_isMinute kw_m_X9_226 (t_X9_isMinute hw) rfl rfl (Nat.le_of_ble_eq_true rfl) dX9_reading_9 (z_kb (fun r5 s6 hr5 hw => ?_))
    refine z_if_eq C (tgt := 25) dX9_reading_12 (by decide) (fun h => ?_) (fun h => ?_)
    · replace hw := hw.1 h
      refine z_aload_n C dX9_reading_25 rfl 0 rfl ?_
      refine z_iconst C 1 dX9_reading_26 (by decide) ?_
      refine z_callV C (by decide) M_X9_is Mv_X9_is kw_m_X9_120 ob_X9 (t_X9_is hw) rfl rfl (Nat.le_of_ble_eq_true rfl) dX9_reading_27 (z_kb (fun r7 s8 hr7 hw => ?_))
      exact z_zreturn C D dX9_reading_30 hr7 ⟨_, rfl, hr7, hw⟩
    · replace hw := hw.2 h
      refine z_iload_n C dX9_reading_15 rfl 3 rfl ?_
      refine z_if_lt C (tgt := 25) dX9_reading_16 (by decide) (fun h => ?_) (fun h => ?_)
      · replace hw := hw.1 h
        refine z_aload_n C dX9_reading_25 rfl 0 rfl ?_
        refine z_iconst C 1 dX9_reading_26 (by decide) ?_
        refine z_callV C (by decide) M_X9_is Mv_X9_is kw_m_X9_120 ob_X9 (t_X9_is hw) rfl rfl (Nat.le_of_ble_eq_true rfl) dX9_reading_27 (z_kb (fun r9 s10 hr9 hw => ?_))
        exact z_zreturn C D dX9_reading_30 hr9 ⟨_, rfl, hr9, hw⟩
      · replace hw := hw.2 h
        refine z_iload_n C dX9_reading_19 rfl 3 rfl ?_
        refine z_ldc C (v := 200000) kw_c_X9_240 dX9_reading_20 ?_
        refine z_icmp_le C (tgt := 31) dX9_reading_22 (by decide) (fun h => ?_) (fun h => ?_)
        · replace hw := hw.1 h
          refine z_iload_n C dX9_reading_31 rfl 2 rfl ?_
          refine z_aload_n C dX9_reading_32 rfl 0 rfl ?_
          refine f_X9_229 C dX9_reading_33 ?_
          refine z_icmp_ge C (tgt := 45) dX9_reading_36 (by decide) (fun h => ?_) (fun h => ?_)
          · replace hw := hw.1 h
            refine z_aload_n C dX9_reading_45 rfl 0 rfl ?_
            refine f_X9_100 C dX9_reading_46 ?_
            refine z_iload_n C dX9_reading_49 rfl 1 rfl ?_
            refine z_iald C za_83 (by decide) (Int32.toNatClampNeg a1) rfl hw.1 dX9_reading_50 ?_
            replace hw := hw.2
            refine z_nmi (fun x11 ex11 => ?_)
            replace hw := hw x11 ex11
            refine z_istore C [(4, .int x11), (0, .ref ((zXE X).1 54 0)), (1, .int a1), (2, .int a2), (3, .int a3)] dX9_reading_51 (by decide) rfl ?_
            refine z_iload C dX9_reading_53 0 rfl ?_
            refine z_if_le C (tgt := 100) dX9_reading_55 (by decide) (fun h => ?_) (fun h => ?_)
            · replace hw := hw.1 h
              refine z_iload C dX9_reading_100 0 rfl ?_
              refine z_bipush C 10 dX9_reading_102 (by decide) ?_
              refine z_icmp_ne C (tgt := 113) dX9_reading_104 (by decide) (fun h => ?_) (fun h => ?_)
              · replace hw := hw.1 h
                refine z_aload_n C dX9_reading_113 rfl 1 rfl ?_
                refine z_iload_n C dX9_reading_114 rfl 3 rfl ?_
                refine p_X9_229 C dX9_reading_115 (z_nms (fun s12 es12 => ?_))
                replace hw := hw s12 es12
                refine z_aload_n C dX9_reading_118 rfl 1 rfl ?_
                refine f_X9_103 C dX9_reading_119 ?_
                refine z_bipush C 10 dX9_reading_122 (by decide) ?_
                refine z_iload_n C dX9_reading_124 rfl 2 rfl ?_
                refine z_imul C dX9_reading_125 ?_
                refine z_iload C dX9_reading_126 0 rfl ?_
                refine z_iadd C dX9_reading_128 ?_
                refine z_iload_n C dX9_reading_129 rfl 3 rfl ?_
                refine z_iast C za_84 (by decide) (Int32.toNatClampNeg (((10 : Int32) * a1) + x11)) rfl hw.1 dX9_reading_130 (z_nms (fun s13 es13 => ?_))
                replace hw := hw.2
                replace hw := hw s13 es13
                refine z_aload_n C dX9_reading_131 rfl 1 rfl ?_
                refine f_X9_106 C dX9_reading_132 ?_
                refine z_bipush C 10 dX9_reading_135 (by decide) ?_
                refine z_iload_n C dX9_reading_137 rfl 2 rfl ?_
                refine z_imul C dX9_reading_138 ?_
                refine z_iload C dX9_reading_139 0 rfl ?_
                refine z_iadd C dX9_reading_141 ?_
                refine z_iload_n C dX9_reading_142 rfl 4 rfl ?_
                refine z_iast C za_85 (by decide) (Int32.toNatClampNeg (((10 : Int32) * a1) + x11)) rfl hw.1 dX9_reading_143 (z_nms (fun s14 es14 => ?_))
                replace hw := hw.2
                replace hw := hw s14 es14
                refine z_aload_n C dX9_reading_144 rfl 1 rfl ?_
                refine f_X9_100 C dX9_reading_145 ?_
                refine z_iload_n C dX9_reading_148 rfl 2 rfl ?_
                refine z_dup2_11 C dX9_reading_149 rfl rfl ?_
                refine z_iald C za_83 (by decide) (Int32.toNatClampNeg a1) rfl hw.1 dX9_reading_150 ?_
                replace hw := hw.2
                refine z_iconst C 1 dX9_reading_151 (by decide) ?_
                refine z_iadd C dX9_reading_152 ?_
                refine z_iast C za_83 (by decide) (Int32.toNatClampNeg a1) rfl hw.1 dX9_reading_153 (z_nms (fun s15 es15 => ?_))
                replace hw := hw.2
                replace hw := hw s15 es15
                refine z_aload_n C dX9_reading_154 rfl 1 rfl ?_
                refine z_iconst C 0 dX9_reading_155 (by decide) ?_
                refine z_callV C (by decide) M_X9_is Mv_X9_is kw_m_X9_120 ob_X9 (t_X9_is hw) rfl rfl (Nat.le_of_ble_eq_true rfl) dX9_reading_156 (z_kb (fun r16 s17 hr16 hw => ?_))
                exact z_zreturn C D dX9_reading_159 hr16 ⟨_, rfl, hr16, hw⟩
              · replace hw := hw.2 h
                refine z_aload_n C dX9_reading_107 rfl 1 rfl ?_
                refine z_iconst C 5 dX9_reading_108 (by decide) ?_
                refine z_callV C (by decide) M_X9_is Mv_X9_is kw_m_X9_120 ob_X9 (t_X9_is hw) rfl rfl (Nat.le_of_ble_eq_true rfl) dX9_reading_109 (z_kb (fun r18 s19 hr18 hw => ?_))
                exact z_zreturn C D dX9_reading_112 hr18 ⟨_, rfl, hr18, hw⟩
            · replace hw := hw.2 h
              refine z_iload_n C dX9_reading_58 rfl 3 rfl ?_
              refine z_aload_n C dX9_reading_59 rfl 1 rfl ?_
              refine f_X9_103 C dX9_reading_60 ?_
              refine z_bipush C 10 dX9_reading_63 (by decide) ?_
              refine z_iload_n C dX9_reading_65 rfl 2 rfl ?_
              refine z_imul C dX9_reading_66 ?_
              refine z_iload C dX9_reading_67 0 rfl ?_
              refine z_iadd C dX9_reading_69 ?_
              refine z_iconst C 1 dX9_reading_70 (by decide) ?_
              refine z_isub C dX9_reading_71 ?_
              refine z_iald C za_84 (by decide) (Int32.toNatClampNeg ((((10 : Int32) * a1) + x11) - (1 : Int32))) rfl hw.1 dX9_reading_72 ?_
              replace hw := hw.2
              refine z_icmp_le C (tgt := 94) dX9_reading_73 (by decide) (fun h => ?_) (fun h => ?_)
              · replace hw := hw.1 h
                refine z_aload_n C dX9_reading_94 rfl 1 rfl ?_
                refine z_iconst C 1 dX9_reading_95 (by decide) ?_
                refine z_callV C (by decide) M_X9_is Mv_X9_is kw_m_X9_120 ob_X9 (t_X9_is hw) rfl rfl (Nat.le_of_ble_eq_true rfl) dX9_reading_96 (z_kb (fun r20 s21 hr20 hw => ?_))
                exact z_zreturn C D dX9_reading_99 hr20 ⟨_, rfl, hr20, hw⟩
              · replace hw := hw.2 h
                refine z_iload_n C dX9_reading_76 rfl 4 rfl ?_
                refine z_aload_n C dX9_reading_77 rfl 1 rfl ?_
                refine f_X9_106 C dX9_reading_78 ?_
                refine z_bipush C 10 dX9_reading_81 (by decide) ?_
                refine z_iload_n C dX9_reading_83 rfl 2 rfl ?_
                refine z_imul C dX9_reading_84 ?_
                refine z_iload C dX9_reading_85 0 rfl ?_
                refine z_iadd C dX9_reading_87 ?_
                refine z_iconst C 1 dX9_reading_88 (by decide) ?_
                refine z_isub C dX9_reading_89 ?_
                refine z_iald C za_85 (by decide) (Int32.toNatClampNeg ((((10 : Int32) * a1) + x11) - (1 : Int32))) rfl hw.1 dX9_reading_90 ?_
                replace hw := hw.2
                refine z_icmp_gt C (tgt := 100) dX9_reading_91 (by decide) (fun h => ?_) (fun h => ?_)
                · replace hw := hw.1 h
                  refine z_iload C dX9_reading_100 0 rfl ?_
                  refine z_bipush C 10 dX9_reading_102 (by decide) ?_
                  refine z_icmp_ne C (tgt := 113) dX9_reading_104 (by decide) (fun h => ?_) (fun h => ?_)
                  · replace hw := hw.1 h
                    refine z_aload_n C dX9_reading_113 rfl 1 rfl ?_
                    refine z_iload_n C dX9_reading_114 rfl 3 rfl ?_
                    refine p_X9_229 C dX9_reading_115 (z_nms (fun s22 es22 => ?_))
                    replace hw := hw s22 es22
                    refine z_aload_n C dX9_reading_118 rfl 1 rfl ?_
                    refine f_X9_103 C dX9_reading_119 ?_
                    refine z_bipush C 10 dX9_reading_122 (by decide) ?_
                    refine z_iload_n C dX9_reading_124 rfl 2 rfl ?_
                    refine z_imul C dX9_reading_125 ?_
                    refine z_iload C dX9_reading_126 0 rfl ?_
                    refine z_iadd C dX9_reading_128 ?_
                    refine z_iload_n C dX9_reading_129 rfl 3 rfl ?_
                    refine z_iast C za_84 (by decide) (Int32.toNatClampNeg (((10 : Int32) * a1) + x11)) rfl hw.1 dX9_reading_130 (z_nms (fun s23 es23 => ?_))
                    replace hw := hw.2
                    replace hw := hw s23 es23
                    refine z_aload_n C dX9_reading_131 rfl 1 rfl ?_
                    refine f_X9_106 C dX9_reading_132 ?_
                    refine z_bipush C 10 dX9_reading_135 (by decide) ?_
                    refine z_iload_n C dX9_reading_137 rfl 2 rfl ?_
                    refine z_imul C dX9_reading_138 ?_
                    refine z_iload C dX9_reading_139 0 rfl ?_
                    refine z_iadd C dX9_reading_141 ?_
                    refine z_iload_n C dX9_reading_142 rfl 4 rfl ?_
                    refine z_iast C za_85 (by decide) (Int32.toNatClampNeg (((10 : Int32) * a1) + x11)) rfl hw.1 dX9_reading_143 (z_nms (fun s24 es24 => ?_))
                    replace hw := hw.2
                    replace hw := hw s24 es24
                    refine z_aload_n C dX9_reading_144 rfl 1 rfl ?_
                    refine f_X9_100 C dX9_reading_145 ?_
                    refine z_iload_n C dX9_reading_148 rfl 2 rfl ?_
                    refine z_dup2_11 C dX9_reading_149 rfl rfl ?_
                    refine z_iald C za_83 (by decide) (Int32.toNatClampNeg a1) rfl hw.1 dX9_reading_150 ?_
                    replace hw := hw.2
                    refine z_iconst C 1 dX9_reading_151 (by decide) ?_
                    refine z_iadd C dX9_reading_152 ?_
                    refine z_iast C za_83 (by decide) (Int32.toNatClampNeg a1) rfl hw.1 dX9_reading_153 (z_nms (fun s25 es25 => ?_))
                    replace hw := hw.2
                    replace hw := hw s25 es25
                    refine z_aload_n C dX9_reading_154 rfl 1 rfl ?_
                    refine z_iconst C 0 dX9_reading_155 (by decide) ?_
                    refine z_callV C (by decide) M_X9_is Mv_X9_is kw_m_X9_120 ob_X9 (t_X9_is hw) rfl rfl (Nat.le_of_ble_eq_true rfl) dX9_reading_156 (z_kb (fun r26 s27 hr26 hw => ?_))
                    exact z_zreturn C D dX9_reading_159 hr26 ⟨_, rfl, hr26, hw⟩
                  · replace hw := hw.2 h
                    refine z_aload_n C dX9_reading_107 rfl 1 rfl ?_
                    refine z_iconst C 5 dX9_reading_108 (by decide) ?_
                    refine z_callV C (by decide) M_X9_is Mv_X9_is kw_m_X9_120 ob_X9 (t_X9_is hw) rfl rfl (Nat.le_of_ble_eq_true rfl) dX9_reading_109 (z_kb (fun r28 s29 hr28 hw => ?_))
                    exact z_zreturn C D dX9_reading_112 hr28 ⟨_, rfl, hr28, hw⟩
                · replace hw := hw.2 h
                  refine z_aload_n C dX9_reading_94 rfl 1 rfl ?_
                  refine z_iconst C 1 dX9_reading_95 (by decide) ?_
                  refine z_callV C (by decide) M_X9_is Mv_X9_is kw_m_X9_120 ob_X9 (t_X9_is hw) rfl rfl (Nat.le_of_ble_eq_true rfl) dX9_reading_96 (z_kb (fun r30 s31 hr30 hw => ?_))
                  exact z_zreturn C D dX9_reading_99 hr30 ⟨_, rfl, hr30, hw⟩
          · replace hw := hw.2 h
            refine z_aload_n C dX9_reading_39 rfl 0 rfl ?_
            refine z_iconst C 2 dX9_reading_40 (by decide) ?_
            refine z_callV C (by decide) M_X9_is Mv_X9_is kw_m_X9_120 ob_X9 (t_X9_is hw) rfl rfl (Nat.le_of_ble_eq_true rfl) dX9_reading_41 (z_kb (fun r32 s33 hr32 hw => ?_))
            exact z_zreturn C D dX9_reading_44 hr32 ⟨_, rfl, hr32, hw⟩
        · replace hw := hw.2 h
          refine z_aload_n C dX9_reading_25 rfl 0 rfl ?_
          refine z_iconst C 1 dX9_reading_26 (by decide) ?_
          refine z_callV C (by decide) M_X9_is Mv_X9_is kw_m_X9_120 ob_X9 (t_X9_is hw) rfl rfl (Nat.le_of_ble_eq_true rfl) dX9_reading_27 (z_kb (fun r34 s35 hr34 hw => ?_))
          exact z_zreturn C D dX9_reading_30 hr34 ⟨_, rfl, hr34, hw⟩
set_option maxHeartbeats 4000000 in
set_option maxRecDepth 100000 in
theorem t_X8_rightFault {l : Launch} {E : zE} {a1 : Int32} {a2 : Int32} {s0 : zS} {Q : Int32 → zS → Prop}  (hw : Wp_X8_rightFault a1 a2 s0 Q) : zT l 3 E yX8_rightFault cX8_rightFault 3 (some .int) [.ref (E.1 0 0), .int a1, .int a2] s0 (zQi Q) := by
  unfold Wp_X8_rightFault at hw
  refine z_entry rfl (Nat.le_of_ble_eq_true rfl) rfl ?_
  intro X C D hl hE
  subst hl; subst hE
  have C : zC X cX8_rightFault RX8 3 3 := C
  refine z_aload_n C dX8_rightFault_0 rfl 0 rfl ?_
  refine z_iload_n C dX8_rightFault_1 rfl 1 rfl ?_
  refine z_callV C (by decide) M_X8_isTown Mv_X8_isTown kw_m_X8_167 ob_X8 (t_X8_isTown hw) rfl rfl (Nat.le_of_ble_eq_true rfl) dX8_rightFault_2 (z_kb (fun r1 s2 hr1 hw => ?_))
  refine z_if_eq C (tgt := 19) dX8_rightFault_5 (by decide) (fun h => ?_) (fun h => ?_)
  · replace hw := hw.1 h
    refine z_iconst C 1 dX8_rightFault_19 (by decide) ?_
    exact z_ireturn C D dX8_rightFault_20 ⟨_, rfl, hw⟩
  · replace hw := hw.2 h
    refine z_iload_n C dX8_rightFault_8 rfl 2 rfl ?_
    refine z_iconst C 0 dX8_rightFault_9 (by decide) ?_
    refine z_ldc_w C (v := 200000) kw_c_X8_337 dX8_rightFault_10 ?_
    refine z_callS C (by decide) M_X8_within Ms_X8_within kw_m_X8_85 (t_X8_within hw) rfl rfl (Nat.le_of_ble_eq_true rfl) dX8_rightFault_13 (z_kb (fun r3 s4 hr3 hw => ?_))
    refine z_if_ne C (tgt := 21) dX8_rightFault_16 (by decide) (fun h => ?_) (fun h => ?_)
    · replace hw := hw.1 h
      refine z_aload_n C dX8_rightFault_21 rfl 0 rfl ?_
      refine f_X8_63 C dX8_rightFault_22 ?_
      refine f_X8_341 C dX8_rightFault_25 ?_
      refine z_iload_n C dX8_rightFault_28 rfl 1 rfl ?_
      refine z_iald C za_49 (by decide) (Int32.toNatClampNeg a1) rfl hw.1 dX8_rightFault_29 ?_
      replace hw := hw.2
      refine z_if_le C (tgt := 37) dX8_rightFault_30 (by decide) (fun h => ?_) (fun h => ?_)
      · replace hw := hw.1 h
        refine z_bipush C 6 dX8_rightFault_37 (by decide) ?_
        exact z_ireturn C D dX8_rightFault_39 ⟨_, rfl, hw⟩
      · replace hw := hw.2 h
        refine z_iconst C 0 dX8_rightFault_33 (by decide) ?_
        refine z_goto C (tgt := 39) dX8_rightFault_34 (by decide) ?_
        exact z_ireturn C D dX8_rightFault_39 ⟨_, rfl, hw⟩
    · replace hw := hw.2 h
      refine z_iconst C 1 dX8_rightFault_19 (by decide) ?_
      exact z_ireturn C D dX8_rightFault_20 ⟨_, rfl, hw⟩
set_option maxHeartbeats 4000000 in
set_option maxRecDepth 100000 in
theorem t_X2_latestUpTo {l : Launch} {E : zE} {a1 : Int32} {a2 : Int32} {s0 : zS} {Q : Int32 → zS → Prop}  (hw : Wp_X2_latestUpTo a1 a2 s0 Q) : zT l 1 E yX2_latestUpTo cX2_latestUpTo 5 (some .int) [.ref (E.1 48 0), .int a1, .int a2] s0 (zQi Q) := by
  unfold Wp_X2_latestUpTo at hw
  refine z_entry rfl (Nat.le_of_ble_eq_true rfl) rfl ?_
  intro X C D hl hE
  subst hl; subst hE
  have C : zC X cX2_latestUpTo RX2 5 1 := C
  refine z_use (hw (fun v3 v4 s0 => zV X 5 [(0, .ref ((zXE X).1 48 0)), (1, .int a1), (2, .int a2), (3, .int v3), (4, .int v4)] [] s0) (fun v3 v4 s0 hw => ?_)) (fun hw => ?_)
  · show zV X 5 _ _ _
    refine z_iload C dX2_latestUpTo_5 4 rfl ?_
    refine z_aload_n C dX2_latestUpTo_7 rfl 0 rfl ?_
    refine f_X2_9 C dX2_latestUpTo_8 ?_
    refine z_iload_n C dX2_latestUpTo_11 rfl 1 rfl ?_
    refine z_iald C za_49 (by decide) (Int32.toNatClampNeg a1) rfl hw.1 dX2_latestUpTo_12 ?_
    replace hw := hw.2
    refine z_icmp_ge C (tgt := 38) dX2_latestUpTo_13 (by decide) (fun h => ?_) (fun h => ?_)
    · replace hw := hw.1 h
      refine z_iload_n C dX2_latestUpTo_38 rfl 3 rfl ?_
      exact z_ireturn C D dX2_latestUpTo_39 ⟨_, rfl, hw⟩
    · replace hw := hw.2 h
      refine z_aload_n C dX2_latestUpTo_16 rfl 0 rfl ?_
      refine f_X2_20 C dX2_latestUpTo_17 ?_
      refine z_iload_n C dX2_latestUpTo_20 rfl 1 rfl ?_
      have hb1 := zin_lt hw.1
      refine z_aald C za_52 (by decide) rfl (Int32.toNatClampNeg a1) rfl hw.1 dX2_latestUpTo_21 ?_
      replace hw := hw.2
      refine z_iload C dX2_latestUpTo_22 4 rfl ?_
      refine z_iald C za_53 hb1 (Int32.toNatClampNeg v4) rfl hw.1 dX2_latestUpTo_24 ?_
      replace hw := hw.2
      refine z_iload_n C dX2_latestUpTo_25 rfl 2 rfl ?_
      refine z_icmp_gt C (tgt := 32) dX2_latestUpTo_26 (by decide) (fun h => ?_) (fun h => ?_)
      · replace hw := hw.1 h
        refine z_iinc C (v4 + 1) [(4, .int (v4 + 1)), (0, .ref ((zXE X).1 48 0)), (1, .int a1), (2, .int a2), (3, .int v3)] dX2_latestUpTo_32 4 rfl rfl (by decide) rfl ?_
        refine z_goto C (tgt := 5) dX2_latestUpTo_35 (by decide) ?_
        exact z_lv [1, 2, 3, 4, 0] rfl hw
      · replace hw := hw.2 h
        refine z_iload C dX2_latestUpTo_29 4 rfl ?_
        refine z_istore_n C [(3, .int v4), (0, .ref ((zXE X).1 48 0)), (1, .int a1), (2, .int a2), (4, .int v4)] dX2_latestUpTo_31 rfl (by decide) rfl ?_
        refine z_iinc C (v4 + 1) [(4, .int (v4 + 1)), (3, .int v4), (0, .ref ((zXE X).1 48 0)), (1, .int a1), (2, .int a2)] dX2_latestUpTo_32 4 rfl rfl (by decide) rfl ?_
        refine z_goto C (tgt := 5) dX2_latestUpTo_35 (by decide) ?_
        exact z_lv [2, 3, 4, 1, 0] rfl hw
  refine z_iconst C (-1) dX2_latestUpTo_0 (by decide) ?_
  refine z_istore_n C [(3, .int (-1 : Int32)), (0, .ref ((zXE X).1 48 0)), (1, .int a1), (2, .int a2)] dX2_latestUpTo_1 rfl (by decide) rfl ?_
  refine z_iconst C 0 dX2_latestUpTo_2 (by decide) ?_
  refine z_istore C [(4, .int (0 : Int32)), (3, .int (-1 : Int32)), (0, .ref ((zXE X).1 48 0)), (1, .int a1), (2, .int a2)] dX2_latestUpTo_3 (by decide) rfl ?_
  exact z_lv [2, 3, 4, 1, 0] rfl hw
set_option maxHeartbeats 4000000 in
set_option maxRecDepth 100000 in
theorem t_X2_tellRight__1 {l : Launch} {E : zE} {a1 : Int32} {a2 : Int32} {s0 : zS} {Q : zS → Prop}  (hw : Wp_X2_tellRight__1 a1 a2 s0 Q) : zT l 3 E yX2_tellRight cX2_tellRight 12 none [.ref (E.1 48 0), .int a1, .int a2, .ref (E.1 1 0)] s0 (zQv Q) := by
  unfold Wp_X2_tellRight__1 at hw
  refine z_entry rfl (Nat.le_of_ble_eq_true rfl) rfl ?_
  intro X C D hl hE
  subst hl; subst hE
  have C : zC X cX2_tellRight RX2 12 3 := C
  refine z_aload_n C dX2_tellRight_0 rfl 0 rfl ?_
  refine z_iload_n C dX2_tellRight_1 rfl 1 rfl ?_
  refine z_iload_n C dX2_tellRight_2 rfl 2 rfl ?_
  refine z_callV C (by decide) M_X2_latestUpTo Mv_X2_latestUpTo kw_m_X2_23 ob_X2 (t_X2_latestUpTo hw) rfl rfl (Nat.le_of_ble_eq_true rfl) dX2_tellRight_3 (z_ki (fun r1 s2 hw => ?_))
  refine z_istore C [(4, .int r1), (0, .ref ((zXE X).1 48 0)), (1, .int a1), (2, .int a2), (3, .ref ((zXE X).1 1 0))] dX2_tellRight_6 (by decide) rfl ?_
  refine z_iconst C 0 dX2_tellRight_8 (by decide) ?_
  refine z_iload C dX2_tellRight_9 0 rfl ?_
  refine z_mmax C (by decide) kw_m_X2_27 (Nat.le_of_ble_eq_true rfl) dX2_tellRight_11 ?_
  refine z_nmi (fun x3 ex3 => ?_)
  replace hw := hw x3 ex3
  refine z_istore C [(5, .int x3), (4, .int r1), (0, .ref ((zXE X).1 48 0)), (1, .int a1), (2, .int a2), (3, .ref ((zXE X).1 1 0))] dX2_tellRight_14 (by decide) rfl ?_
  refine z_iload_n C dX2_tellRight_16 rfl 4 rfl ?_
  refine z_aload_n C dX2_tellRight_17 rfl 2 rfl ?_
  refine f_X2_20 C dX2_tellRight_18 ?_
  refine z_iload_n C dX2_tellRight_21 rfl 3 rfl ?_
  have hb4 := zin_lt hw.1
  refine z_aald C za_52 (by decide) rfl (Int32.toNatClampNeg a1) rfl hw.1 dX2_tellRight_22 ?_
  replace hw := hw.2
  refine z_iload C dX2_tellRight_23 0 rfl ?_
  refine z_iald C za_53 hb4 (Int32.toNatClampNeg x3) rfl hw.1 dX2_tellRight_25 ?_
  replace hw := hw.2
  refine z_isub C dX2_tellRight_26 ?_
  refine z_i2l C dX2_tellRight_27 ?_
  refine z_nml (fun y5 ey5 => ?_)
  replace hw := hw y5 ey5
  refine z_lstore C [(6, .long y5), (5, .int x3), (4, .int r1), (0, .ref ((zXE X).1 48 0)), (1, .int a1), (2, .int a2), (3, .ref ((zXE X).1 1 0))] dX2_tellRight_28 (by decide) rfl ?_
  refine z_iload C dX2_tellRight_30 2 rfl ?_
  refine z_if_lt C (tgt := 48) dX2_tellRight_32 (by decide) (fun h => ?_) (fun h => ?_)
  · replace hw := hw.1 h
    refine z_aload_n C dX2_tellRight_48 rfl 6 rfl ?_
    refine z_aload_n C dX2_tellRight_49 rfl 3 rfl ?_
    refine f_X2_17 C dX2_tellRight_50 ?_
    refine z_iload_n C dX2_tellRight_53 rfl 4 rfl ?_
    have hb6 := zin_lt hw.1
    refine z_aald C za_50 (by decide) rfl (Int32.toNatClampNeg a1) rfl hw.1 dX2_tellRight_54 ?_
    replace hw := hw.2
    refine z_iload C dX2_tellRight_55 1 rfl ?_
    refine z_iald C za_51 hb6 (Int32.toNatClampNeg x3) rfl hw.1 dX2_tellRight_57 ?_
    replace hw := hw.2
    refine z_i2l C dX2_tellRight_58 ?_
    refine z_lload C dX2_tellRight_59 0 rfl ?_
    refine z_ladd C dX2_tellRight_61 ?_
    refine z_lconst C 1 dX2_tellRight_62 (by decide) ?_
    refine z_callV C (by decide) M_X3_tell Mv_X3_tell kw_m_X2_32 ob_X3 (t_X3_tell hw) rfl rfl (Nat.le_of_ble_eq_true rfl) dX2_tellRight_63 (z_kv (fun s8 hw => ?_))
    exact z_vreturn C D dX2_tellRight_66 ⟨rfl, hw⟩
  · replace hw := hw.2 h
    refine z_iload C dX2_tellRight_35 2 rfl ?_
    refine z_aload_n C dX2_tellRight_37 rfl 3 rfl ?_
    refine f_X2_9 C dX2_tellRight_38 ?_
    refine z_iload_n C dX2_tellRight_41 rfl 4 rfl ?_
    refine z_iald C za_49 (by decide) (Int32.toNatClampNeg a1) rfl hw.1 dX2_tellRight_42 ?_
    replace hw := hw.2
    refine z_iconst C 1 dX2_tellRight_43 (by decide) ?_
    refine z_isub C dX2_tellRight_44 ?_
    refine z_icmp_ne C (tgt := 67) dX2_tellRight_45 (by decide) (fun h => ?_) (fun h => ?_)
    · replace hw := hw.1 h
      refine z_aload_n C dX2_tellRight_67 rfl 3 rfl ?_
      refine f_X2_20 C dX2_tellRight_68 ?_
      refine z_iload_n C dX2_tellRight_71 rfl 4 rfl ?_
      have hb9 := zin_lt hw.1
      refine z_aald C za_52 (by decide) rfl (Int32.toNatClampNeg a1) rfl hw.1 dX2_tellRight_72 ?_
      replace hw := hw.2
      refine z_iload C dX2_tellRight_73 1 rfl ?_
      refine z_iconst C 1 dX2_tellRight_75 (by decide) ?_
      refine z_iadd C dX2_tellRight_76 ?_
      refine z_iald C za_53 hb9 (Int32.toNatClampNeg (x3 + (1 : Int32))) rfl hw.1 dX2_tellRight_77 ?_
      replace hw := hw.2
      refine z_aload_n C dX2_tellRight_78 rfl 3 rfl ?_
      refine f_X2_20 C dX2_tellRight_79 ?_
      refine z_iload_n C dX2_tellRight_82 rfl 4 rfl ?_
      have hb10 := zin_lt hw.1
      refine z_aald C za_52 (by decide) rfl (Int32.toNatClampNeg a1) rfl hw.1 dX2_tellRight_83 ?_
      replace hw := hw.2
      refine z_iload C dX2_tellRight_84 1 rfl ?_
      refine z_iald C za_53 hb10 (Int32.toNatClampNeg x3) rfl hw.1 dX2_tellRight_86 ?_
      replace hw := hw.2
      refine z_isub C dX2_tellRight_87 ?_
      refine z_i2l C dX2_tellRight_88 ?_
      refine z_nml (fun y11 ey11 => ?_)
      replace hw := hw y11 ey11
      refine z_lstore C [(8, .long y11), (6, .long y5), (5, .int x3), (4, .int r1), (0, .ref ((zXE X).1 48 0)), (1, .int a1), (2, .int a2), (3, .ref ((zXE X).1 1 0))] dX2_tellRight_89 (by decide) rfl ?_
      refine z_aload_n C dX2_tellRight_91 rfl 4 rfl ?_
      refine f_X2_17 C dX2_tellRight_92 ?_
      refine z_iload_n C dX2_tellRight_95 rfl 5 rfl ?_
      have hb12 := zin_lt hw.1
      refine z_aald C za_50 (by decide) rfl (Int32.toNatClampNeg a1) rfl hw.1 dX2_tellRight_96 ?_
      replace hw := hw.2
      refine z_iload C dX2_tellRight_97 2 rfl ?_
      refine z_iconst C 1 dX2_tellRight_99 (by decide) ?_
      refine z_iadd C dX2_tellRight_100 ?_
      refine z_iald C za_51 hb12 (Int32.toNatClampNeg (x3 + (1 : Int32))) rfl hw.1 dX2_tellRight_101 ?_
      replace hw := hw.2
      refine z_aload_n C dX2_tellRight_102 rfl 4 rfl ?_
      refine f_X2_17 C dX2_tellRight_103 ?_
      refine z_iload_n C dX2_tellRight_106 rfl 5 rfl ?_
      have hb13 := zin_lt hw.1
      refine z_aald C za_50 (by decide) rfl (Int32.toNatClampNeg a1) rfl hw.1 dX2_tellRight_107 ?_
      replace hw := hw.2
      refine z_iload C dX2_tellRight_108 2 rfl ?_
      refine z_iald C za_51 hb13 (Int32.toNatClampNeg x3) rfl hw.1 dX2_tellRight_110 ?_
      replace hw := hw.2
      refine z_isub C dX2_tellRight_111 ?_
      refine z_i2l C dX2_tellRight_112 ?_
      refine z_nml (fun y14 ey14 => ?_)
      replace hw := hw y14 ey14
      refine z_lstore C [(10, .long y14), (8, .long y11), (6, .long y5), (5, .int x3), (4, .int r1), (0, .ref ((zXE X).1 48 0)), (1, .int a1), (2, .int a2), (3, .ref ((zXE X).1 1 0))] dX2_tellRight_113 (by decide) rfl ?_
      refine z_aload_n C dX2_tellRight_115 rfl 8 rfl ?_
      refine z_aload_n C dX2_tellRight_116 rfl 5 rfl ?_
      refine f_X2_17 C dX2_tellRight_117 ?_
      refine z_iload_n C dX2_tellRight_120 rfl 6 rfl ?_
      have hb15 := zin_lt hw.1
      refine z_aald C za_50 (by decide) rfl (Int32.toNatClampNeg a1) rfl hw.1 dX2_tellRight_121 ?_
      replace hw := hw.2
      refine z_iload C dX2_tellRight_122 3 rfl ?_
      refine z_iald C za_51 hb15 (Int32.toNatClampNeg x3) rfl hw.1 dX2_tellRight_124 ?_
      replace hw := hw.2
      refine z_i2l C dX2_tellRight_125 ?_
      refine z_lload C dX2_tellRight_126 1 rfl ?_
      refine z_lmul C dX2_tellRight_128 ?_
      refine z_lload C dX2_tellRight_129 2 rfl ?_
      refine z_lload C dX2_tellRight_131 0 rfl ?_
      refine z_lmul C dX2_tellRight_133 ?_
      refine z_ladd C dX2_tellRight_134 ?_
      refine z_lload C dX2_tellRight_135 1 rfl ?_
      refine z_callV C (by decide) M_X3_tell Mv_X3_tell kw_m_X2_32 ob_X3 (t_X3_tell hw) rfl rfl (Nat.le_of_ble_eq_true rfl) dX2_tellRight_137 (z_kv (fun s17 hw => ?_))
      exact z_vreturn C D dX2_tellRight_140 ⟨rfl, hw⟩
    · replace hw := hw.2 h
      refine z_aload_n C dX2_tellRight_48 rfl 6 rfl ?_
      refine z_aload_n C dX2_tellRight_49 rfl 3 rfl ?_
      refine f_X2_17 C dX2_tellRight_50 ?_
      refine z_iload_n C dX2_tellRight_53 rfl 4 rfl ?_
      have hb18 := zin_lt hw.1
      refine z_aald C za_50 (by decide) rfl (Int32.toNatClampNeg a1) rfl hw.1 dX2_tellRight_54 ?_
      replace hw := hw.2
      refine z_iload C dX2_tellRight_55 1 rfl ?_
      refine z_iald C za_51 hb18 (Int32.toNatClampNeg x3) rfl hw.1 dX2_tellRight_57 ?_
      replace hw := hw.2
      refine z_i2l C dX2_tellRight_58 ?_
      refine z_lload C dX2_tellRight_59 0 rfl ?_
      refine z_ladd C dX2_tellRight_61 ?_
      refine z_lconst C 1 dX2_tellRight_62 (by decide) ?_
      refine z_callV C (by decide) M_X3_tell Mv_X3_tell kw_m_X2_32 ob_X3 (t_X3_tell hw) rfl rfl (Nat.le_of_ble_eq_true rfl) dX2_tellRight_63 (z_kv (fun s20 hw => ?_))
      exact z_vreturn C D dX2_tellRight_66 ⟨rfl, hw⟩
set_option maxHeartbeats 4000000 in
set_option maxRecDepth 100000 in
theorem t_X8_right {l : Launch} {E : zE} {a1 : Int32} {a2 : Int32} {s0 : zS} {Q : Int32 → zS → Prop}  (hw : Wp_X8_right a1 a2 s0 Q) : zT l 4 E yX8_right cX8_right 3 (some .int) [.ref (E.1 0 0), .int a1, .int a2] s0 (zQi Q) := by
  unfold Wp_X8_right at hw
  refine z_entry rfl (Nat.le_of_ble_eq_true rfl) rfl ?_
  intro X C D hl hE
  subst hl; subst hE
  have C : zC X cX8_right RX8 3 4 := C
  refine z_aload_n C dX8_right_0 rfl 0 rfl ?_
  refine z_aload_n C dX8_right_1 rfl 0 rfl ?_
  refine z_iload_n C dX8_right_2 rfl 1 rfl ?_
  refine z_iload_n C dX8_right_3 rfl 2 rfl ?_
  refine z_callV C (by decide) M_X8_rightFault Mv_X8_rightFault kw_m_X8_292 ob_X8 (t_X8_rightFault hw) rfl rfl (Nat.le_of_ble_eq_true rfl) dX8_right_4 (z_ki (fun r1 s2 hw => ?_))
  refine p_X8_67 C dX8_right_7 (z_nms (fun s3 es3 => ?_))
  replace hw := hw s3 es3
  refine z_aload_n C dX8_right_10 rfl 0 rfl ?_
  refine f_X8_67 C dX8_right_11 ?_
  refine z_if_eq C (tgt := 19) dX8_right_14 (by decide) (fun h => ?_) (fun h => ?_)
  · replace hw := hw.1 h
    refine z_aload_n C dX8_right_19 rfl 0 rfl ?_
    refine f_X8_63 C dX8_right_20 ?_
    refine z_iload_n C dX8_right_23 rfl 1 rfl ?_
    refine z_iload_n C dX8_right_24 rfl 2 rfl ?_
    refine z_aload_n C dX8_right_25 rfl 0 rfl ?_
    refine f_X8_10 C dX8_right_26 ?_
    refine z_callV C (by decide) M_X2_tellRight Mv_X2_tellRight kw_m_X8_295 ob_X2 (t_X2_tellRight__1 hw) rfl rfl (Nat.le_of_ble_eq_true rfl) dX8_right_29 (z_kv (fun s5 hw => ?_))
    refine z_aload_n C dX8_right_32 rfl 0 rfl ?_
    refine f_X8_10 C dX8_right_33 ?_
    refine z_callV C (by decide) M_X3_sign Mv_X3_sign kw_m_X8_191 ob_X3 (t_X3_sign hw) rfl rfl (Nat.le_of_ble_eq_true rfl) dX8_right_36 (z_ki (fun r6 s7 hw => ?_))
    exact z_ireturn C D dX8_right_39 ⟨_, rfl, hw⟩
  · replace hw := hw.2 h
    refine z_iconst C (-1) dX8_right_17 (by decide) ?_
    exact z_ireturn C D dX8_right_18 ⟨_, rfl, hw⟩
set_option maxHeartbeats 4000000 in
set_option maxRecDepth 100000 in
theorem t_X9_right {l : Launch} {E : zE} {a1 : Int32} {a2 : Int32} {s0 : zS} {Q : Int32 → zS → Prop}  (hw : Wp_X9_right a1 a2 s0 Q) : zT l 2 E yX9_right cX9_right 9 (some .int) [.ref (E.1 54 0), .int a1, .int a2] s0 (zQi Q) := by
  unfold Wp_X9_right at hw
  refine z_entry rfl (Nat.le_of_ble_eq_true rfl) rfl ?_
  intro X C D hl hE
  subst hl; subst hE
  have C : zC X cX9_right RX9 9 2 := C
  refine z_use (hw (fun v6 s0 => zV X 132 [(0, .ref ((zXE X).1 54 0)), (2, .int a2), (6, .int v6)] [] s0) (fun v6 s0 hw => ?_)) (fun hw => ?_)
  · show zV X 132 _ _ _
    refine z_aload_n C dX9_right_132 rfl 0 rfl ?_
    refine f_X9_106 C dX9_right_133 ?_
    refine z_iload C dX9_right_136 2 rfl ?_
    refine z_iconst C 1 dX9_right_138 (by decide) ?_
    refine z_iadd C dX9_right_139 ?_
    refine z_iald C za_85 (by decide) (Int32.toNatClampNeg (v6 + (1 : Int32))) rfl hw.1 dX9_right_140 ?_
    replace hw := hw.2
    refine z_iload_n C dX9_right_141 rfl 1 rfl ?_
    refine z_icmp_ge C (tgt := 151) dX9_right_142 (by decide) (fun h => ?_) (fun h => ?_)
    · replace hw := hw.1 h
      refine z_aload_n C dX9_right_151 rfl 0 rfl ?_
      refine f_X9_106 C dX9_right_152 ?_
      refine z_iload C dX9_right_155 2 rfl ?_
      refine z_iconst C 1 dX9_right_157 (by decide) ?_
      refine z_iadd C dX9_right_158 ?_
      refine z_iald C za_85 (by decide) (Int32.toNatClampNeg (v6 + (1 : Int32))) rfl hw.1 dX9_right_159 ?_
      replace hw := hw.2
      refine z_aload_n C dX9_right_160 rfl 0 rfl ?_
      refine f_X9_106 C dX9_right_161 ?_
      refine z_iload C dX9_right_164 2 rfl ?_
      refine z_iald C za_85 (by decide) (Int32.toNatClampNeg v6) rfl hw.1 dX9_right_166 ?_
      replace hw := hw.2
      refine z_isub C dX9_right_167 ?_
      refine z_i2l C dX9_right_168 ?_
      refine z_nml (fun y18 ey18 => ?_)
      replace hw := hw y18 ey18
      refine z_lstore C [(7, .long y18), (0, .ref ((zXE X).1 54 0)), (2, .int a2), (6, .int v6)] dX9_right_169 (by decide) rfl ?_
      refine z_aload_n C dX9_right_171 rfl 1 rfl ?_
      refine z_aload_n C dX9_right_172 rfl 1 rfl ?_
      refine f_X9_103 C dX9_right_173 ?_
      refine z_iload C dX9_right_176 3 rfl ?_
      refine z_iald C za_84 (by decide) (Int32.toNatClampNeg v6) rfl hw.1 dX9_right_178 ?_
      replace hw := hw.2
      refine z_i2l C dX9_right_179 ?_
      refine z_lload C dX9_right_180 0 rfl ?_
      refine z_lmul C dX9_right_182 ?_
      refine z_iload_n C dX9_right_183 rfl 2 rfl ?_
      refine z_aload_n C dX9_right_184 rfl 1 rfl ?_
      refine f_X9_106 C dX9_right_185 ?_
      refine z_iload C dX9_right_188 3 rfl ?_
      refine z_iald C za_85 (by decide) (Int32.toNatClampNeg v6) rfl hw.1 dX9_right_190 ?_
      replace hw := hw.2
      refine z_isub C dX9_right_191 ?_
      refine z_i2l C dX9_right_192 ?_
      refine z_aload_n C dX9_right_193 rfl 1 rfl ?_
      refine f_X9_103 C dX9_right_194 ?_
      refine z_iload C dX9_right_197 3 rfl ?_
      refine z_iconst C 1 dX9_right_199 (by decide) ?_
      refine z_iadd C dX9_right_200 ?_
      refine z_iald C za_84 (by decide) (Int32.toNatClampNeg (v6 + (1 : Int32))) rfl hw.1 dX9_right_201 ?_
      replace hw := hw.2
      refine z_aload_n C dX9_right_202 rfl 1 rfl ?_
      refine f_X9_103 C dX9_right_203 ?_
      refine z_iload C dX9_right_206 3 rfl ?_
      refine z_iald C za_84 (by decide) (Int32.toNatClampNeg v6) rfl hw.1 dX9_right_208 ?_
      replace hw := hw.2
      refine z_isub C dX9_right_209 ?_
      refine z_i2l C dX9_right_210 ?_
      refine z_lmul C dX9_right_211 ?_
      refine z_ladd C dX9_right_212 ?_
      refine z_lload C dX9_right_213 0 rfl ?_
      refine z_callV C (by decide) M_X9_tells Mv_X9_tells kw_m_X9_162 ob_X9 (t_X9_tells hw) rfl rfl (Nat.le_of_ble_eq_true rfl) dX9_right_215 (z_ki (fun r19 s20 hw => ?_))
      exact z_ireturn C D dX9_right_218 ⟨_, rfl, hw⟩
    · replace hw := hw.2 h
      refine z_iinc C (v6 + 1) [(6, .int (v6 + 1)), (0, .ref ((zXE X).1 54 0)), (2, .int a2)] dX9_right_145 2 rfl rfl (by decide) rfl ?_
      refine z_goto C (tgt := 132) dX9_right_148 (by decide) ?_
      exact z_lv [1, 2, 0] rfl hw
  refine z_aload_n C dX9_right_0 rfl 0 rfl ?_
  refine z_iload_n C dX9_right_1 rfl 1 rfl ?_
  refine z_callV C (by decide) M_X9_isTown Mv_X9_isTown kw_m_X9_146 ob_X9 (t_X9_isTown hw) rfl rfl (Nat.le_of_ble_eq_true rfl) dX9_right_2 (z_kb (fun r1 s2 hr1 hw => ?_))
  refine z_if_eq C (tgt := 18) dX9_right_5 (by decide) (fun h => ?_) (fun h => ?_)
  · replace hw := hw.1 h
    refine z_aload_n C dX9_right_18 rfl 0 rfl ?_
    refine z_iconst C 1 dX9_right_19 (by decide) ?_
    refine z_callV C (by decide) M_X9_refuse Mv_X9_refuse kw_m_X9_139 ob_X9 (t_X9_refuse hw) rfl rfl (Nat.le_of_ble_eq_true rfl) dX9_right_20 (z_ki (fun r3 s4 hw => ?_))
    exact z_ireturn C D dX9_right_23 ⟨_, rfl, hw⟩
  · replace hw := hw.2 h
    refine z_iload_n C dX9_right_8 rfl 2 rfl ?_
    refine z_if_lt C (tgt := 18) dX9_right_9 (by decide) (fun h => ?_) (fun h => ?_)
    · replace hw := hw.1 h
      refine z_aload_n C dX9_right_18 rfl 0 rfl ?_
      refine z_iconst C 1 dX9_right_19 (by decide) ?_
      refine z_callV C (by decide) M_X9_refuse Mv_X9_refuse kw_m_X9_139 ob_X9 (t_X9_refuse hw) rfl rfl (Nat.le_of_ble_eq_true rfl) dX9_right_20 (z_ki (fun r5 s6 hw => ?_))
      exact z_ireturn C D dX9_right_23 ⟨_, rfl, hw⟩
    · replace hw := hw.2 h
      refine z_iload_n C dX9_right_12 rfl 2 rfl ?_
      refine z_ldc C (v := 200000) kw_c_X9_240 dX9_right_13 ?_
      refine z_icmp_le C (tgt := 24) dX9_right_15 (by decide) (fun h => ?_) (fun h => ?_)
      · replace hw := hw.1 h
        refine z_aload_n C dX9_right_24 rfl 0 rfl ?_
        refine f_X9_100 C dX9_right_25 ?_
        refine z_iload_n C dX9_right_28 rfl 1 rfl ?_
        refine z_iald C za_83 (by decide) (Int32.toNatClampNeg a1) rfl hw.1 dX9_right_29 ?_
        replace hw := hw.2
        refine z_nmi (fun x7 ex7 => ?_)
        replace hw := hw x7 ex7
        refine z_istore_n C [(3, .int x7), (0, .ref ((zXE X).1 54 0)), (1, .int a1), (2, .int a2)] dX9_right_30 rfl (by decide) rfl ?_
        refine z_iload_n C dX9_right_31 rfl 0 rfl ?_
        refine z_if_ne C (tgt := 42) dX9_right_32 (by decide) (fun h => ?_) (fun h => ?_)
        · replace hw := hw.1 h
          refine z_bipush C 10 dX9_right_42 (by decide) ?_
          refine z_iload_n C dX9_right_44 rfl 2 rfl ?_
          refine z_imul C dX9_right_45 ?_
          refine z_nmi (fun x8 ex8 => ?_)
          replace hw := hw x8 ex8
          refine z_istore C [(4, .int x8), (3, .int x7), (0, .ref ((zXE X).1 54 0)), (1, .int a1), (2, .int a2)] dX9_right_46 (by decide) rfl ?_
          refine z_iload C dX9_right_48 0 rfl ?_
          refine z_iload_n C dX9_right_50 rfl 1 rfl ?_
          refine z_iadd C dX9_right_51 ?_
          refine z_iconst C 1 dX9_right_52 (by decide) ?_
          refine z_isub C dX9_right_53 ?_
          refine z_nmi (fun x9 ex9 => ?_)
          replace hw := hw x9 ex9
          refine z_istore C [(5, .int x9), (4, .int x8), (3, .int x7), (0, .ref ((zXE X).1 54 0)), (1, .int a1), (2, .int a2)] dX9_right_54 (by decide) rfl ?_
          refine z_iload_n C dX9_right_56 rfl 5 rfl ?_
          refine z_aload_n C dX9_right_57 rfl 3 rfl ?_
          refine f_X9_106 C dX9_right_58 ?_
          refine z_iload C dX9_right_61 1 rfl ?_
          refine z_iald C za_85 (by decide) (Int32.toNatClampNeg x8) rfl hw.1 dX9_right_63 ?_
          replace hw := hw.2
          refine z_icmp_gt C (tgt := 92) dX9_right_64 (by decide) (fun h => ?_) (fun h => ?_)
          · replace hw := hw.1 h
            refine z_iload_n C dX9_right_92 rfl 5 rfl ?_
            refine z_aload_n C dX9_right_93 rfl 3 rfl ?_
            refine f_X9_106 C dX9_right_94 ?_
            refine z_iload C dX9_right_97 0 rfl ?_
            refine z_iald C za_85 (by decide) (Int32.toNatClampNeg x9) rfl hw.1 dX9_right_99 ?_
            replace hw := hw.2
            refine z_icmp_lt C (tgt := 128) dX9_right_100 (by decide) (fun h => ?_) (fun h => ?_)
            · replace hw := hw.1 h
              refine z_iload C dX9_right_128 1 rfl ?_
              refine z_istore C [(6, .int x8), (5, .int x9), (4, .int x8), (3, .int x7), (0, .ref ((zXE X).1 54 0)), (1, .int a1), (2, .int a2)] dX9_right_130 (by decide) rfl ?_
              exact z_lv [4, 6, 0] rfl hw
            · replace hw := hw.2 h
              refine z_aload_n C dX9_right_103 rfl 3 rfl ?_
              refine z_aload_n C dX9_right_104 rfl 3 rfl ?_
              refine f_X9_103 C dX9_right_105 ?_
              refine z_iload C dX9_right_108 0 rfl ?_
              refine z_iald C za_84 (by decide) (Int32.toNatClampNeg x9) rfl hw.1 dX9_right_110 ?_
              replace hw := hw.2
              refine z_i2l C dX9_right_111 ?_
              refine z_iload_n C dX9_right_112 rfl 5 rfl ?_
              refine z_aload_n C dX9_right_113 rfl 3 rfl ?_
              refine f_X9_106 C dX9_right_114 ?_
              refine z_iload C dX9_right_117 0 rfl ?_
              refine z_iald C za_85 (by decide) (Int32.toNatClampNeg x9) rfl hw.1 dX9_right_119 ?_
              replace hw := hw.2
              refine z_isub C dX9_right_120 ?_
              refine z_i2l C dX9_right_121 ?_
              refine z_ladd C dX9_right_122 ?_
              refine z_lconst C 1 dX9_right_123 (by decide) ?_
              refine z_callV C (by decide) M_X9_tells Mv_X9_tells kw_m_X9_162 ob_X9 (t_X9_tells hw) rfl rfl (Nat.le_of_ble_eq_true rfl) dX9_right_124 (z_ki (fun r10 s11 hw => ?_))
              exact z_ireturn C D dX9_right_127 ⟨_, rfl, hw⟩
          · replace hw := hw.2 h
            refine z_aload_n C dX9_right_67 rfl 3 rfl ?_
            refine z_aload_n C dX9_right_68 rfl 3 rfl ?_
            refine f_X9_103 C dX9_right_69 ?_
            refine z_iload C dX9_right_72 1 rfl ?_
            refine z_iald C za_84 (by decide) (Int32.toNatClampNeg x8) rfl hw.1 dX9_right_74 ?_
            replace hw := hw.2
            refine z_i2l C dX9_right_75 ?_
            refine z_aload_n C dX9_right_76 rfl 3 rfl ?_
            refine f_X9_106 C dX9_right_77 ?_
            refine z_iload C dX9_right_80 1 rfl ?_
            refine z_iald C za_85 (by decide) (Int32.toNatClampNeg x8) rfl hw.1 dX9_right_82 ?_
            replace hw := hw.2
            refine z_iload_n C dX9_right_83 rfl 5 rfl ?_
            refine z_isub C dX9_right_84 ?_
            refine z_i2l C dX9_right_85 ?_
            refine z_lsub C dX9_right_86 ?_
            refine z_lconst C 1 dX9_right_87 (by decide) ?_
            refine z_callV C (by decide) M_X9_tells Mv_X9_tells kw_m_X9_162 ob_X9 (t_X9_tells hw) rfl rfl (Nat.le_of_ble_eq_true rfl) dX9_right_88 (z_ki (fun r12 s13 hw => ?_))
            exact z_ireturn C D dX9_right_91 ⟨_, rfl, hw⟩
        · replace hw := hw.2 h
          refine z_aload_n C dX9_right_35 rfl 1 rfl ?_
          refine z_bipush C 6 dX9_right_36 (by decide) ?_
          refine z_callV C (by decide) M_X9_refuse Mv_X9_refuse kw_m_X9_139 ob_X9 (t_X9_refuse hw) rfl rfl (Nat.le_of_ble_eq_true rfl) dX9_right_38 (z_ki (fun r14 s15 hw => ?_))
          exact z_ireturn C D dX9_right_41 ⟨_, rfl, hw⟩
      · replace hw := hw.2 h
        refine z_aload_n C dX9_right_18 rfl 0 rfl ?_
        refine z_iconst C 1 dX9_right_19 (by decide) ?_
        refine z_callV C (by decide) M_X9_refuse Mv_X9_refuse kw_m_X9_139 ob_X9 (t_X9_refuse hw) rfl rfl (Nat.le_of_ble_eq_true rfl) dX9_right_20 (z_ki (fun r16 s17 hw => ?_))
        exact z_ireturn C D dX9_right_23 ⟨_, rfl, hw⟩

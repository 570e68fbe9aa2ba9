def LF_X3 (base : Nat) (cA : Nat → ClassId)  : List va_E := ([.inr (3, [.long (0 : Int64), .long (1 : Int64)])] : List va_E)
set_option maxHeartbeats 8000000 in
set_option maxRecDepth 100000 in
theorem c_X3_init (l : Launch) (D : va_G) (cA : Nat → ClassId) (base : Nat) (pre : List va_E) : zUT l 2 0 0 D cA base 1 pre yX3_init cX3_init 1 [.ref (base + 1)] ([.inr (3, [.long 0, .long 0])] : List va_E) (fun L2 => L2 = LF_X3 base cA) := by
  refine u_entry rfl rfl (Nat.le_of_ble_eq_true rfl) rfl ?_
  intro Y C Rr hl hD ha9 hb9 hn hp9
  subst hl; subst hD; subst ha9; subst hb9; subst hp9
  have C : zUC Y cX3_init RX3 1 0 0 2 := C
  refine u_aload_n C dX3_init_0 rfl 0 rfl ?_
  refine u_obj C (by decide) kz_71 (Nat.le_of_ble_eq_true rfl) dX3_init_1 ?_
  refine u_aload_n C dX3_init_4 rfl 0 rfl ?_
  refine u_lconst C 0 dX3_init_5 (by decide) ?_
  refine u_put C (Cn := RX3) (T := TX3) (N := 2) (ci := 3) (j := 0) (fj := 0) (ty := tyX3 0) (congrArg (fun q => zYb Y + (q + 0)) hn) rfl zin_X3 tyX3 tyX3_ok nmX3 rfl (by decide) kw_f_X3_7 rfl rfl (by decide +kernel) rfl rfl (Nat.le_of_ble_eq_true rfl) dX3_init_6 ?_
  show zU Y _ _ _ _ _ ([.inr (3, [.long (0 : Int64), .long 0])] : List va_E)
  refine u_aload_n C dX3_init_9 rfl 0 rfl ?_
  refine u_lconst C 1 dX3_init_10 (by decide) ?_
  refine u_put C (Cn := RX3) (T := TX3) (N := 2) (ci := 3) (j := 0) (fj := 1) (ty := tyX3 1) (congrArg (fun q => zYb Y + (q + 0)) hn) rfl zin_X3 tyX3 tyX3_ok nmX3 rfl (by decide) kw_f_X3_13 rfl rfl (by decide +kernel) rfl rfl (Nat.le_of_ble_eq_true rfl) dX3_init_11 ?_
  show zU Y _ _ _ _ _ ([.inr (3, [.long (0 : Int64), .long (1 : Int64)])] : List va_E)
  exact u_vret C Rr rfl (Nat.le_of_ble_eq_true rfl) (Nat.le_of_ble_eq_true rfl) dX3_init_14
def LF_X7 (base : Nat) (cA : Nat → ClassId) (g0 : Nat → Int32) : List va_E := ([.inr (7, [.ref (base + 3), .ref (base + 4), .ref (base + 5)]), .inl (cA 0, 4, .inl g0), .inl (cA 0, 4, .inl (fun _ => 0))] ++ (.inl (cA 4, 4, .inr (.inr (.inr (.inr (fun i => if i < 4 then some (base + (5 + 1 + i)) else none))))) :: List.replicate 4 (.inl (cA 1, 60, .inr (.inl (fun _ => 0))))) : List va_E)
set_option maxHeartbeats 8000000 in
set_option maxRecDepth 100000 in
theorem c_X7_init (l : Launch) (D : va_G) (cA : Nat → ClassId) (base : Nat) (pre : List va_E) : zUT l 3 7 252 D cA base 2 pre yX7_init cX7_init 1 [.ref (base + 2)] ([.inr (7, [.null, .null, .null])] : List va_E) (fun L2 => ∃ g0, ((∀ i, i < 4 → g0 i = -1)) ∧ L2 = LF_X7 base cA g0) := by
  refine u_entry rfl rfl (Nat.le_of_ble_eq_true rfl) rfl ?_
  intro Y C Rr hl hD ha9 hb9 hn hp9
  subst hl; subst hD; subst ha9; subst hb9; subst hp9
  have C : zUC Y cX7_init RX7 1 7 252 3 := C
  refine u_aload_n C dX7_init_0 rfl 0 rfl ?_
  refine u_obj C (by decide) kz_86 (Nat.le_of_ble_eq_true rfl) dX7_init_1 ?_
  refine u_aload_n C dX7_init_4 rfl 0 rfl ?_
  refine u_iconst C (4) dX7_init_5 (by decide) ?_
  refine u_newa C (ty := .int) (t := 0) (a0 := (4, .inl (fun _ => 0))) (N := 4) 3 (Eq.trans (congrArg (fun q => q + _) hn) rfl) rfl rfl (fun _ _ => rfl) (fun _ => rfl) kz_105 (by decide) (by decide) (Nat.le_of_ble_eq_true rfl) (by decide) (Nat.le_of_ble_eq_true rfl) dX7_init_6 ?_
  show zU Y _ _ _ _ _ ([.inr (7, [.null, .null, .null]), .inl (zYa Y 0, 4, .inl (fun _ => 0))] : List va_E)
  refine u_putF C Rr (Cn := RX7) (T := TX7) (N := 3) (ci := 7) (j := 0) (fj := 0) (ty := tyX7 0) (congrArg (fun q => zYb Y + (q + 0)) hn) rfl zin_X7 tyX7 tyX7_ok nmX7 rfl (by decide) kw_f_X7_9 rfl rfl rfl (by decide +kernel) rfl rfl (Nat.le_of_ble_eq_true rfl) dX7_init_8 ?_
  show zU Y _ _ _ _ _ ([.inr (7, [.ref (zYb Y + 3), .null, .null]), .inl (zYa Y 0, 4, .inl (fun _ => 0))] : List va_E)
  refine u_aload_n C dX7_init_11 rfl 0 rfl ?_
  refine u_iconst C (4) dX7_init_12 (by decide) ?_
  refine u_newa C (ty := .int) (t := 0) (a0 := (4, .inl (fun _ => 0))) (N := 4) 4 (Eq.trans (congrArg (fun q => q + _) hn) rfl) rfl rfl (fun _ _ => rfl) (fun _ => rfl) kz_105 (by decide) (by decide) (Nat.le_of_ble_eq_true rfl) (by decide) (Nat.le_of_ble_eq_true rfl) dX7_init_13 ?_
  show zU Y _ _ _ _ _ ([.inr (7, [.ref (zYb Y + 3), .null, .null]), .inl (zYa Y 0, 4, .inl (fun _ => 0)), .inl (zYa Y 0, 4, .inl (fun _ => 0))] : List va_E)
  refine u_putF C Rr (Cn := RX7) (T := TX7) (N := 3) (ci := 7) (j := 0) (fj := 1) (ty := tyX7 1) (congrArg (fun q => zYb Y + (q + 0)) hn) rfl zin_X7 tyX7 tyX7_ok nmX7 rfl (by decide) kw_f_X7_15 rfl rfl rfl (by decide +kernel) rfl rfl (Nat.le_of_ble_eq_true rfl) dX7_init_15 ?_
  show zU Y _ _ _ _ _ ([.inr (7, [.ref (zYb Y + 3), .ref (zYb Y + 4), .null]), .inl (zYa Y 0, 4, .inl (fun _ => 0)), .inl (zYa Y 0, 4, .inl (fun _ => 0))] : List va_E)
  refine u_aload_n C dX7_init_18 rfl 0 rfl ?_
  refine u_iconst C (4) dX7_init_19 (by decide) ?_
  refine u_bipush C (60) dX7_init_20 (by decide) ?_
  refine u_mna C (ty := .long) (t := 1) (t2 := 4) (z := (60, .inr (.inl (fun _ => 0)))) (N := 4) (K' := 60) 5 (Eq.trans (congrArg (fun q => q + _) hn) rfl) rfl rfl (fun _ _ => rfl) (by decide +kernel) (fun _ h => h.2) kz_87 kz_106 (by decide) (by decide) (by decide) (by decide) (by decide) (by decide) (by decide) rfl rfl (fun c => arrV_new c _ _) (by decide) (Nat.le_of_ble_eq_true rfl) dX7_init_22 ?_
  show zU Y _ _ _ _ _ ([.inr (7, [.ref (zYb Y + 3), .ref (zYb Y + 4), .null]), .inl (zYa Y 0, 4, .inl (fun _ => 0)), .inl (zYa Y 0, 4, .inl (fun _ => 0))] ++ (.inl (zYa Y 4, 4, .inr (.inr (.inr (.inr (fun i => if i < 4 then some (zYb Y + (5 + 1 + i)) else none))))) :: List.replicate 4 (.inl (zYa Y 1, 60, .inr (.inl (fun _ => 0))))) : List va_E)
  refine u_putF C Rr (Cn := RX7) (T := TX7) (N := 3) (ci := 7) (j := 0) (fj := 2) (ty := tyX7 2) (congrArg (fun q => zYb Y + (q + 0)) hn) rfl zin_X7 tyX7 tyX7_ok nmX7 rfl (by decide) kw_f_X7_20 rfl rfl rfl (by decide +kernel) rfl rfl (Nat.le_of_ble_eq_true rfl) dX7_init_26 ?_
  show zU Y _ _ _ _ _ ([.inr (7, [.ref (zYb Y + 3), .ref (zYb Y + 4), .ref (zYb Y + 5)]), .inl (zYa Y 0, 4, .inl (fun _ => 0)), .inl (zYa Y 0, 4, .inl (fun _ => 0))] ++ (.inl (zYa Y 4, 4, .inr (.inr (.inr (.inr (fun i => if i < 4 then some (zYb Y + (5 + 1 + i)) else none))))) :: List.replicate 4 (.inl (zYa Y 1, 60, .inr (.inl (fun _ => 0))))) : List va_E)
  refine u_aload_n C dX7_init_29 rfl 0 rfl ?_
  refine u_get C (Cn := RX7) (T := TX7) (N := 3) (ci := 7) (j := 0) (fj := 0) (v := .ref (zYb Y + 3)) (congrArg (fun q => zYb Y + (q + 0)) hn) rfl zin_X7 rfl (by decide) kw_f_X7_9 rfl rfl dX7_init_30 ?_
  refine u_iconst C (-1) dX7_init_33 (by decide) ?_
  refine u_fill C (j := 1) (n := 4) (congrArg (fun q => zYb Y + (q + 1)) hn) (by decide) kz_89 rfl (by decide) (Nat.le_of_ble_eq_true rfl) (by decide) (Nat.le_of_ble_eq_true rfl) dX7_init_34 ?_
  intro g0 hg0
  show zU Y _ _ _ _ _ ([.inr (7, [.ref (zYb Y + 3), .ref (zYb Y + 4), .ref (zYb Y + 5)]), .inl (zYa Y 0, 4, .inl g0), .inl (zYa Y 0, 4, .inl (fun _ => 0))] ++ (.inl (zYa Y 4, 4, .inr (.inr (.inr (.inr (fun i => if i < 4 then some (zYb Y + (5 + 1 + i)) else none))))) :: List.replicate 4 (.inl (zYa Y 1, 60, .inr (.inl (fun _ => 0))))) : List va_E)
  exact u_vret C Rr ⟨g0, hg0, rfl⟩ (Nat.le_of_ble_eq_true rfl) (Nat.le_of_ble_eq_true rfl) dX7_init_37
def LF_X6 (base : Nat) (cA : Nat → ClassId) (g0 : Nat → Int32) (g1 : Nat → Int32) (g2 : Nat → Int32) (g3 : Nat → Int32) (g4 : Nat → Int32) (g5 : Nat → Int32) (g6 : Nat → Int32) (g7 : Nat → Int32) (g8 : Nat → Int32) (g9 : Nat → Int32) : List va_E := ([.inr (6, [.int (0 : Int32), .ref (base + 11), .ref (base + 22), .ref (base + 33)])] ++ (.inl (cA 3, 10, .inr (.inr (.inr (.inr (fun i => if i < 10 then some (base + (11 + 1 + i)) else none))))) :: List.replicate 10 (.inl (cA 0, 10, .inl (fun _ => 0)))) ++ (.inl (cA 3, 10, .inr (.inr (.inr (.inr (fun i => if i < 10 then some (base + (22 + 1 + i)) else none))))) :: List.replicate 10 (.inl (cA 0, 10, .inl (fun _ => 0)))) ++ (.inl (cA 3, 10, .inr (.inr (.inr (.inr (fun i => if i < 10 then some (base + (33 + 1 + i)) else none))))) :: [.inl (cA 0, 10, .inl g0), .inl (cA 0, 10, .inl g1), .inl (cA 0, 10, .inl g2), .inl (cA 0, 10, .inl g3), .inl (cA 0, 10, .inl g4), .inl (cA 0, 10, .inl g5), .inl (cA 0, 10, .inl g6), .inl (cA 0, 10, .inl g7), .inl (cA 0, 10, .inl g8), .inl (cA 0, 10, .inl g9)]) : List va_E)
set_option maxHeartbeats 8000000 in
set_option maxRecDepth 100000 in
theorem c_X6_init (l : Launch) (D : va_G) (cA : Nat → ClassId) (base : Nat) (pre : List va_E) : zUT l 3 33 330 D cA base 10 pre yX6_init cX6_init 2 [.ref (base + 10)] ([.inr (6, [.int 0, .null, .null, .null])] : List va_E) (fun L2 => ∃ g0 g1 g2 g3 g4 g5 g6 g7 g8 g9, ((∀ i, i < 10 → g0 i = 10) ∧ (∀ i, i < 10 → g1 i = 10) ∧ (∀ i, i < 10 → g2 i = 10) ∧ (∀ i, i < 10 → g3 i = 10) ∧ (∀ i, i < 10 → g4 i = 10) ∧ (∀ i, i < 10 → g5 i = 10) ∧ (∀ i, i < 10 → g6 i = 10) ∧ (∀ i, i < 10 → g7 i = 10) ∧ (∀ i, i < 10 → g8 i = 10) ∧ (∀ i, i < 10 → g9 i = 10)) ∧ L2 = LF_X6 base cA g0 g1 g2 g3 g4 g5 g6 g7 g8 g9) := by
  refine u_entry rfl rfl (Nat.le_of_ble_eq_true rfl) rfl ?_
  intro Y C Rr hl hD ha9 hb9 hn hp9
  subst hl; subst hD; subst ha9; subst hb9; subst hp9
  have C : zUC Y cX6_init RX6 2 33 330 3 := C
  refine u_aload_n C dX6_init_0 rfl 0 rfl ?_
  refine u_obj C (by decide) kz_112 (Nat.le_of_ble_eq_true rfl) dX6_init_1 ?_
  refine u_aload_n C dX6_init_4 rfl 0 rfl ?_
  refine u_iconst C (0) dX6_init_5 (by decide) ?_
  refine u_put C (Cn := RX6) (T := TX6) (N := 4) (ci := 6) (j := 0) (fj := 0) (ty := tyX6 0) (congrArg (fun q => zYb Y + (q + 0)) hn) rfl zin_X6 tyX6 tyX6_ok nmX6 rfl (by decide) kw_f_X6_9 rfl rfl (by decide +kernel) rfl rfl (Nat.le_of_ble_eq_true rfl) dX6_init_6 ?_
  show zU Y _ _ _ _ _ ([.inr (6, [.int (0 : Int32), .null, .null, .null])] : List va_E)
  refine u_aload_n C dX6_init_9 rfl 0 rfl ?_
  refine u_bipush C (10) dX6_init_10 (by decide) ?_
  refine u_bipush C (10) dX6_init_12 (by decide) ?_
  refine u_mna C (ty := .int) (t := 0) (t2 := 3) (z := (10, .inl (fun _ => 0))) (N := 10) (K' := 10) 11 (Eq.trans (congrArg (fun q => q + _) hn) rfl) rfl rfl (fun _ _ => rfl) (by decide +kernel) (fun _ h => h.1) kz_113 kz_105 (by decide) (by decide) (by decide) (by decide) (by decide) (by decide) (by decide) rfl rfl (fun c => arrV_new c _ _) (by decide) (Nat.le_of_ble_eq_true rfl) dX6_init_14 ?_
  show zU Y _ _ _ _ _ ([.inr (6, [.int (0 : Int32), .null, .null, .null])] ++ (.inl (zYa Y 3, 10, .inr (.inr (.inr (.inr (fun i => if i < 10 then some (zYb Y + (11 + 1 + i)) else none))))) :: List.replicate 10 (.inl (zYa Y 0, 10, .inl (fun _ => 0)))) : List va_E)
  refine u_putF C Rr (Cn := RX6) (T := TX6) (N := 4) (ci := 6) (j := 0) (fj := 1) (ty := tyX6 1) (congrArg (fun q => zYb Y + (q + 0)) hn) rfl zin_X6 tyX6 tyX6_ok nmX6 rfl (by decide) kw_f_X6_17 rfl rfl rfl (by decide +kernel) rfl rfl (Nat.le_of_ble_eq_true rfl) dX6_init_18 ?_
  show zU Y _ _ _ _ _ ([.inr (6, [.int (0 : Int32), .ref (zYb Y + 11), .null, .null])] ++ (.inl (zYa Y 3, 10, .inr (.inr (.inr (.inr (fun i => if i < 10 then some (zYb Y + (11 + 1 + i)) else none))))) :: List.replicate 10 (.inl (zYa Y 0, 10, .inl (fun _ => 0)))) : List va_E)
  refine u_aload_n C dX6_init_21 rfl 0 rfl ?_
  refine u_bipush C (10) dX6_init_22 (by decide) ?_
  refine u_bipush C (10) dX6_init_24 (by decide) ?_
  refine u_mna C (ty := .int) (t := 0) (t2 := 3) (z := (10, .inl (fun _ => 0))) (N := 10) (K' := 10) 22 (Eq.trans (congrArg (fun q => q + _) hn) rfl) rfl rfl (fun _ _ => rfl) (by decide +kernel) (fun _ h => h.1) kz_113 kz_105 (by decide) (by decide) (by decide) (by decide) (by decide) (by decide) (by decide) rfl rfl (fun c => arrV_new c _ _) (by decide) (Nat.le_of_ble_eq_true rfl) dX6_init_26 ?_
  show zU Y _ _ _ _ _ ([.inr (6, [.int (0 : Int32), .ref (zYb Y + 11), .null, .null])] ++ (.inl (zYa Y 3, 10, .inr (.inr (.inr (.inr (fun i => if i < 10 then some (zYb Y + (11 + 1 + i)) else none))))) :: List.replicate 10 (.inl (zYa Y 0, 10, .inl (fun _ => 0)))) ++ (.inl (zYa Y 3, 10, .inr (.inr (.inr (.inr (fun i => if i < 10 then some (zYb Y + (22 + 1 + i)) else none))))) :: List.replicate 10 (.inl (zYa Y 0, 10, .inl (fun _ => 0)))) : List va_E)
  refine u_putF C Rr (Cn := RX6) (T := TX6) (N := 4) (ci := 6) (j := 0) (fj := 2) (ty := tyX6 2) (congrArg (fun q => zYb Y + (q + 0)) hn) rfl zin_X6 tyX6 tyX6_ok nmX6 rfl (by decide) kw_f_X6_20 rfl rfl rfl (by decide +kernel) rfl rfl (Nat.le_of_ble_eq_true rfl) dX6_init_30 ?_
  show zU Y _ _ _ _ _ ([.inr (6, [.int (0 : Int32), .ref (zYb Y + 11), .ref (zYb Y + 22), .null])] ++ (.inl (zYa Y 3, 10, .inr (.inr (.inr (.inr (fun i => if i < 10 then some (zYb Y + (11 + 1 + i)) else none))))) :: List.replicate 10 (.inl (zYa Y 0, 10, .inl (fun _ => 0)))) ++ (.inl (zYa Y 3, 10, .inr (.inr (.inr (.inr (fun i => if i < 10 then some (zYb Y + (22 + 1 + i)) else none))))) :: List.replicate 10 (.inl (zYa Y 0, 10, .inl (fun _ => 0)))) : List va_E)
  refine u_aload_n C dX6_init_33 rfl 0 rfl ?_
  refine u_bipush C (10) dX6_init_34 (by decide) ?_
  refine u_bipush C (10) dX6_init_36 (by decide) ?_
  refine u_mna C (ty := .int) (t := 0) (t2 := 3) (z := (10, .inl (fun _ => 0))) (N := 10) (K' := 10) 33 (Eq.trans (congrArg (fun q => q + _) hn) rfl) rfl rfl (fun _ _ => rfl) (by decide +kernel) (fun _ h => h.1) kz_113 kz_105 (by decide) (by decide) (by decide) (by decide) (by decide) (by decide) (by decide) rfl rfl (fun c => arrV_new c _ _) (by decide) (Nat.le_of_ble_eq_true rfl) dX6_init_38 ?_
  show zU Y _ _ _ _ _ ([.inr (6, [.int (0 : Int32), .ref (zYb Y + 11), .ref (zYb Y + 22), .null])] ++ (.inl (zYa Y 3, 10, .inr (.inr (.inr (.inr (fun i => if i < 10 then some (zYb Y + (11 + 1 + i)) else none))))) :: List.replicate 10 (.inl (zYa Y 0, 10, .inl (fun _ => 0)))) ++ (.inl (zYa Y 3, 10, .inr (.inr (.inr (.inr (fun i => if i < 10 then some (zYb Y + (22 + 1 + i)) else none))))) :: List.replicate 10 (.inl (zYa Y 0, 10, .inl (fun _ => 0)))) ++ (.inl (zYa Y 3, 10, .inr (.inr (.inr (.inr (fun i => if i < 10 then some (zYb Y + (33 + 1 + i)) else none))))) :: List.replicate 10 (.inl (zYa Y 0, 10, .inl (fun _ => 0)))) : List va_E)
  refine u_putF C Rr (Cn := RX6) (T := TX6) (N := 4) (ci := 6) (j := 0) (fj := 3) (ty := tyX6 3) (congrArg (fun q => zYb Y + (q + 0)) hn) rfl zin_X6 tyX6 tyX6_ok nmX6 rfl (by decide) kw_f_X6_23 rfl rfl rfl (by decide +kernel) rfl rfl (Nat.le_of_ble_eq_true rfl) dX6_init_42 ?_
  show zU Y _ _ _ _ _ ([.inr (6, [.int (0 : Int32), .ref (zYb Y + 11), .ref (zYb Y + 22), .ref (zYb Y + 33)])] ++ (.inl (zYa Y 3, 10, .inr (.inr (.inr (.inr (fun i => if i < 10 then some (zYb Y + (11 + 1 + i)) else none))))) :: List.replicate 10 (.inl (zYa Y 0, 10, .inl (fun _ => 0)))) ++ (.inl (zYa Y 3, 10, .inr (.inr (.inr (.inr (fun i => if i < 10 then some (zYb Y + (22 + 1 + i)) else none))))) :: List.replicate 10 (.inl (zYa Y 0, 10, .inl (fun _ => 0)))) ++ (.inl (zYa Y 3, 10, .inr (.inr (.inr (.inr (fun i => if i < 10 then some (zYb Y + (33 + 1 + i)) else none))))) :: List.replicate 10 (.inl (zYa Y 0, 10, .inl (fun _ => 0)))) : List va_E)
  refine u_iconst C (0) dX6_init_45 (by decide) ?_
  refine u_istore_n C [(1, .int (0 : Int32)), (0, .ref (zYb Y + 10))] dX6_init_46 rfl (by decide) rfl ?_
  refine u_iload_n C dX6_init_47 rfl 0 rfl ?_
  refine u_bipush C (10) dX6_init_48 (by decide) ?_
  refine u_icmp_ge C (tgt := 70) dX6_init_50 (by decide) (fun h => absurd h (by decide)) (fun _ => ?_)
  refine u_aload_n C dX6_init_53 rfl 1 rfl ?_
  refine u_get C (Cn := RX6) (T := TX6) (N := 4) (ci := 6) (j := 0) (fj := 3) (v := .ref (zYb Y + 33)) (congrArg (fun q => zYb Y + (q + 0)) hn) rfl zin_X6 rfl (by decide) kw_f_X6_23 rfl rfl dX6_init_54 ?_
  refine u_iload_n C dX6_init_57 rfl 0 rfl ?_
  refine u_aald C (t := 3) (ty := .int) (a := zYb Y + 34) (congrArg (fun q => zYb Y + (q + 23)) hn) rfl rfl (vp_in_iff.mpr (by decide)) rfl dX6_init_58 ?_
  refine u_bipush C (10) dX6_init_59 (by decide) ?_
  refine u_fill C (j := 24) (n := 10) (congrArg (fun q => zYb Y + (q + 24)) hn) (by decide) kz_115 rfl (by decide) (Nat.le_of_ble_eq_true rfl) (by decide) (Nat.le_of_ble_eq_true rfl) dX6_init_61 ?_
  intro g0 hg0
  show zU Y _ _ _ _ _ ([.inr (6, [.int (0 : Int32), .ref (zYb Y + 11), .ref (zYb Y + 22), .ref (zYb Y + 33)])] ++ (.inl (zYa Y 3, 10, .inr (.inr (.inr (.inr (fun i => if i < 10 then some (zYb Y + (11 + 1 + i)) else none))))) :: List.replicate 10 (.inl (zYa Y 0, 10, .inl (fun _ => 0)))) ++ (.inl (zYa Y 3, 10, .inr (.inr (.inr (.inr (fun i => if i < 10 then some (zYb Y + (22 + 1 + i)) else none))))) :: List.replicate 10 (.inl (zYa Y 0, 10, .inl (fun _ => 0)))) ++ (.inl (zYa Y 3, 10, .inr (.inr (.inr (.inr (fun i => if i < 10 then some (zYb Y + (33 + 1 + i)) else none))))) :: [.inl (zYa Y 0, 10, .inl g0), .inl (zYa Y 0, 10, .inl (fun _ => 0)), .inl (zYa Y 0, 10, .inl (fun _ => 0)), .inl (zYa Y 0, 10, .inl (fun _ => 0)), .inl (zYa Y 0, 10, .inl (fun _ => 0)), .inl (zYa Y 0, 10, .inl (fun _ => 0)), .inl (zYa Y 0, 10, .inl (fun _ => 0)), .inl (zYa Y 0, 10, .inl (fun _ => 0)), .inl (zYa Y 0, 10, .inl (fun _ => 0)), .inl (zYa Y 0, 10, .inl (fun _ => 0))]) : List va_E)
  refine u_iinc C 1 [(1, .int (1 : Int32)), (0, .ref (zYb Y + 10))] dX6_init_64 0 rfl (by decide) (by decide) rfl ?_
  refine u_goto C (tgt := 47) dX6_init_67 (by decide) ?_
  refine u_iload_n C dX6_init_47 rfl 0 rfl ?_
  refine u_bipush C (10) dX6_init_48 (by decide) ?_
  refine u_icmp_ge C (tgt := 70) dX6_init_50 (by decide) (fun h => absurd h (by decide)) (fun _ => ?_)
  refine u_aload_n C dX6_init_53 rfl 1 rfl ?_
  refine u_get C (Cn := RX6) (T := TX6) (N := 4) (ci := 6) (j := 0) (fj := 3) (v := .ref (zYb Y + 33)) (congrArg (fun q => zYb Y + (q + 0)) hn) rfl zin_X6 rfl (by decide) kw_f_X6_23 rfl rfl dX6_init_54 ?_
  refine u_iload_n C dX6_init_57 rfl 0 rfl ?_
  refine u_aald C (t := 3) (ty := .int) (a := zYb Y + 35) (congrArg (fun q => zYb Y + (q + 23)) hn) rfl rfl (vp_in_iff.mpr (by decide)) rfl dX6_init_58 ?_
  refine u_bipush C (10) dX6_init_59 (by decide) ?_
  refine u_fill C (j := 25) (n := 10) (congrArg (fun q => zYb Y + (q + 25)) hn) (by decide) kz_115 rfl (by decide) (Nat.le_of_ble_eq_true rfl) (by decide) (Nat.le_of_ble_eq_true rfl) dX6_init_61 ?_
  intro g1 hg1
  show zU Y _ _ _ _ _ ([.inr (6, [.int (0 : Int32), .ref (zYb Y + 11), .ref (zYb Y + 22), .ref (zYb Y + 33)])] ++ (.inl (zYa Y 3, 10, .inr (.inr (.inr (.inr (fun i => if i < 10 then some (zYb Y + (11 + 1 + i)) else none))))) :: List.replicate 10 (.inl (zYa Y 0, 10, .inl (fun _ => 0)))) ++ (.inl (zYa Y 3, 10, .inr (.inr (.inr (.inr (fun i => if i < 10 then some (zYb Y + (22 + 1 + i)) else none))))) :: List.replicate 10 (.inl (zYa Y 0, 10, .inl (fun _ => 0)))) ++ (.inl (zYa Y 3, 10, .inr (.inr (.inr (.inr (fun i => if i < 10 then some (zYb Y + (33 + 1 + i)) else none))))) :: [.inl (zYa Y 0, 10, .inl g0), .inl (zYa Y 0, 10, .inl g1), .inl (zYa Y 0, 10, .inl (fun _ => 0)), .inl (zYa Y 0, 10, .inl (fun _ => 0)), .inl (zYa Y 0, 10, .inl (fun _ => 0)), .inl (zYa Y 0, 10, .inl (fun _ => 0)), .inl (zYa Y 0, 10, .inl (fun _ => 0)), .inl (zYa Y 0, 10, .inl (fun _ => 0)), .inl (zYa Y 0, 10, .inl (fun _ => 0)), .inl (zYa Y 0, 10, .inl (fun _ => 0))]) : List va_E)
  refine u_iinc C 2 [(1, .int (2 : Int32)), (0, .ref (zYb Y + 10))] dX6_init_64 0 rfl (by decide) (by decide) rfl ?_
  refine u_goto C (tgt := 47) dX6_init_67 (by decide) ?_
  refine u_iload_n C dX6_init_47 rfl 0 rfl ?_
  refine u_bipush C (10) dX6_init_48 (by decide) ?_
  refine u_icmp_ge C (tgt := 70) dX6_init_50 (by decide) (fun h => absurd h (by decide)) (fun _ => ?_)
  refine u_aload_n C dX6_init_53 rfl 1 rfl ?_
  refine u_get C (Cn := RX6) (T := TX6) (N := 4) (ci := 6) (j := 0) (fj := 3) (v := .ref (zYb Y + 33)) (congrArg (fun q => zYb Y + (q + 0)) hn) rfl zin_X6 rfl (by decide) kw_f_X6_23 rfl rfl dX6_init_54 ?_
  refine u_iload_n C dX6_init_57 rfl 0 rfl ?_
  refine u_aald C (t := 3) (ty := .int) (a := zYb Y + 36) (congrArg (fun q => zYb Y + (q + 23)) hn) rfl rfl (vp_in_iff.mpr (by decide)) rfl dX6_init_58 ?_
  refine u_bipush C (10) dX6_init_59 (by decide) ?_
  refine u_fill C (j := 26) (n := 10) (congrArg (fun q => zYb Y + (q + 26)) hn) (by decide) kz_115 rfl (by decide) (Nat.le_of_ble_eq_true rfl) (by decide) (Nat.le_of_ble_eq_true rfl) dX6_init_61 ?_
  intro g2 hg2
  show zU Y _ _ _ _ _ ([.inr (6, [.int (0 : Int32), .ref (zYb Y + 11), .ref (zYb Y + 22), .ref (zYb Y + 33)])] ++ (.inl (zYa Y 3, 10, .inr (.inr (.inr (.inr (fun i => if i < 10 then some (zYb Y + (11 + 1 + i)) else none))))) :: List.replicate 10 (.inl (zYa Y 0, 10, .inl (fun _ => 0)))) ++ (.inl (zYa Y 3, 10, .inr (.inr (.inr (.inr (fun i => if i < 10 then some (zYb Y + (22 + 1 + i)) else none))))) :: List.replicate 10 (.inl (zYa Y 0, 10, .inl (fun _ => 0)))) ++ (.inl (zYa Y 3, 10, .inr (.inr (.inr (.inr (fun i => if i < 10 then some (zYb Y + (33 + 1 + i)) else none))))) :: [.inl (zYa Y 0, 10, .inl g0), .inl (zYa Y 0, 10, .inl g1), .inl (zYa Y 0, 10, .inl g2), .inl (zYa Y 0, 10, .inl (fun _ => 0)), .inl (zYa Y 0, 10, .inl (fun _ => 0)), .inl (zYa Y 0, 10, .inl (fun _ => 0)), .inl (zYa Y 0, 10, .inl (fun _ => 0)), .inl (zYa Y 0, 10, .inl (fun _ => 0)), .inl (zYa Y 0, 10, .inl (fun _ => 0)), .inl (zYa Y 0, 10, .inl (fun _ => 0))]) : List va_E)
  refine u_iinc C 3 [(1, .int (3 : Int32)), (0, .ref (zYb Y + 10))] dX6_init_64 0 rfl (by decide) (by decide) rfl ?_
  refine u_goto C (tgt := 47) dX6_init_67 (by decide) ?_
  refine u_iload_n C dX6_init_47 rfl 0 rfl ?_
  refine u_bipush C (10) dX6_init_48 (by decide) ?_
  refine u_icmp_ge C (tgt := 70) dX6_init_50 (by decide) (fun h => absurd h (by decide)) (fun _ => ?_)
  refine u_aload_n C dX6_init_53 rfl 1 rfl ?_
  refine u_get C (Cn := RX6) (T := TX6) (N := 4) (ci := 6) (j := 0) (fj := 3) (v := .ref (zYb Y + 33)) (congrArg (fun q => zYb Y + (q + 0)) hn) rfl zin_X6 rfl (by decide) kw_f_X6_23 rfl rfl dX6_init_54 ?_
  refine u_iload_n C dX6_init_57 rfl 0 rfl ?_
  refine u_aald C (t := 3) (ty := .int) (a := zYb Y + 37) (congrArg (fun q => zYb Y + (q + 23)) hn) rfl rfl (vp_in_iff.mpr (by decide)) rfl dX6_init_58 ?_
  refine u_bipush C (10) dX6_init_59 (by decide) ?_
  refine u_fill C (j := 27) (n := 10) (congrArg (fun q => zYb Y + (q + 27)) hn) (by decide) kz_115 rfl (by decide) (Nat.le_of_ble_eq_true rfl) (by decide) (Nat.le_of_ble_eq_true rfl) dX6_init_61 ?_
  intro g3 hg3
  show zU Y _ _ _ _ _ ([.inr (6, [.int (0 : Int32), .ref (zYb Y + 11), .ref (zYb Y + 22), .ref (zYb Y + 33)])] ++ (.inl (zYa Y 3, 10, .inr (.inr (.inr (.inr (fun i => if i < 10 then some (zYb Y + (11 + 1 + i)) else none))))) :: List.replicate 10 (.inl (zYa Y 0, 10, .inl (fun _ => 0)))) ++ (.inl (zYa Y 3, 10, .inr (.inr (.inr (.inr (fun i => if i < 10 then some (zYb Y + (22 + 1 + i)) else none))))) :: List.replicate 10 (.inl (zYa Y 0, 10, .inl (fun _ => 0)))) ++ (.inl (zYa Y 3, 10, .inr (.inr (.inr (.inr (fun i => if i < 10 then some (zYb Y + (33 + 1 + i)) else none))))) :: [.inl (zYa Y 0, 10, .inl g0), .inl (zYa Y 0, 10, .inl g1), .inl (zYa Y 0, 10, .inl g2), .inl (zYa Y 0, 10, .inl g3), .inl (zYa Y 0, 10, .inl (fun _ => 0)), .inl (zYa Y 0, 10, .inl (fun _ => 0)), .inl (zYa Y 0, 10, .inl (fun _ => 0)), .inl (zYa Y 0, 10, .inl (fun _ => 0)), .inl (zYa Y 0, 10, .inl (fun _ => 0)), .inl (zYa Y 0, 10, .inl (fun _ => 0))]) : List va_E)
  refine u_iinc C 4 [(1, .int (4 : Int32)), (0, .ref (zYb Y + 10))] dX6_init_64 0 rfl (by decide) (by decide) rfl ?_
  refine u_goto C (tgt := 47) dX6_init_67 (by decide) ?_
  refine u_iload_n C dX6_init_47 rfl 0 rfl ?_
  refine u_bipush C (10) dX6_init_48 (by decide) ?_
  refine u_icmp_ge C (tgt := 70) dX6_init_50 (by decide) (fun h => absurd h (by decide)) (fun _ => ?_)
  refine u_aload_n C dX6_init_53 rfl 1 rfl ?_
  refine u_get C (Cn := RX6) (T := TX6) (N := 4) (ci := 6) (j := 0) (fj := 3) (v := .ref (zYb Y + 33)) (congrArg (fun q => zYb Y + (q + 0)) hn) rfl zin_X6 rfl (by decide) kw_f_X6_23 rfl rfl dX6_init_54 ?_
  refine u_iload_n C dX6_init_57 rfl 0 rfl ?_
  refine u_aald C (t := 3) (ty := .int) (a := zYb Y + 38) (congrArg (fun q => zYb Y + (q + 23)) hn) rfl rfl (vp_in_iff.mpr (by decide)) rfl dX6_init_58 ?_
  refine u_bipush C (10) dX6_init_59 (by decide) ?_
  refine u_fill C (j := 28) (n := 10) (congrArg (fun q => zYb Y + (q + 28)) hn) (by decide) kz_115 rfl (by decide) (Nat.le_of_ble_eq_true rfl) (by decide) (Nat.le_of_ble_eq_true rfl) dX6_init_61 ?_
  intro g4 hg4
  show zU Y _ _ _ _ _ ([.inr (6, [.int (0 : Int32), .ref (zYb Y + 11), .ref (zYb Y + 22), .ref (zYb Y + 33)])] ++ (.inl (zYa Y 3, 10, .inr (.inr (.inr (.inr (fun i => if i < 10 then some (zYb Y + (11 + 1 + i)) else none))))) :: List.replicate 10 (.inl (zYa Y 0, 10, .inl (fun _ => 0)))) ++ (.inl (zYa Y 3, 10, .inr (.inr (.inr (.inr (fun i => if i < 10 then some (zYb Y + (22 + 1 + i)) else none))))) :: List.replicate 10 (.inl (zYa Y 0, 10, .inl (fun _ => 0)))) ++ (.inl (zYa Y 3, 10, .inr (.inr (.inr (.inr (fun i => if i < 10 then some (zYb Y + (33 + 1 + i)) else none))))) :: [.inl (zYa Y 0, 10, .inl g0), .inl (zYa Y 0, 10, .inl g1), .inl (zYa Y 0, 10, .inl g2), .inl (zYa Y 0, 10, .inl g3), .inl (zYa Y 0, 10, .inl g4), .inl (zYa Y 0, 10, .inl (fun _ => 0)), .inl (zYa Y 0, 10, .inl (fun _ => 0)), .inl (zYa Y 0, 10, .inl (fun _ => 0)), .inl (zYa Y 0, 10, .inl (fun _ => 0)), .inl (zYa Y 0, 10, .inl (fun _ => 0))]) : List va_E)
  refine u_iinc C 5 [(1, .int (5 : Int32)), (0, .ref (zYb Y + 10))] dX6_init_64 0 rfl (by decide) (by decide) rfl ?_
  refine u_goto C (tgt := 47) dX6_init_67 (by decide) ?_
  refine u_iload_n C dX6_init_47 rfl 0 rfl ?_
  refine u_bipush C (10) dX6_init_48 (by decide) ?_
  refine u_icmp_ge C (tgt := 70) dX6_init_50 (by decide) (fun h => absurd h (by decide)) (fun _ => ?_)
  refine u_aload_n C dX6_init_53 rfl 1 rfl ?_
  refine u_get C (Cn := RX6) (T := TX6) (N := 4) (ci := 6) (j := 0) (fj := 3) (v := .ref (zYb Y + 33)) (congrArg (fun q => zYb Y + (q + 0)) hn) rfl zin_X6 rfl (by decide) kw_f_X6_23 rfl rfl dX6_init_54 ?_
  refine u_iload_n C dX6_init_57 rfl 0 rfl ?_
  refine u_aald C (t := 3) (ty := .int) (a := zYb Y + 39) (congrArg (fun q => zYb Y + (q + 23)) hn) rfl rfl (vp_in_iff.mpr (by decide)) rfl dX6_init_58 ?_
  refine u_bipush C (10) dX6_init_59 (by decide) ?_
  refine u_fill C (j := 29) (n := 10) (congrArg (fun q => zYb Y + (q + 29)) hn) (by decide) kz_115 rfl (by decide) (Nat.le_of_ble_eq_true rfl) (by decide) (Nat.le_of_ble_eq_true rfl) dX6_init_61 ?_
  intro g5 hg5
  show zU Y _ _ _ _ _ ([.inr (6, [.int (0 : Int32), .ref (zYb Y + 11), .ref (zYb Y + 22), .ref (zYb Y + 33)])] ++ (.inl (zYa Y 3, 10, .inr (.inr (.inr (.inr (fun i => if i < 10 then some (zYb Y + (11 + 1 + i)) else none))))) :: List.replicate 10 (.inl (zYa Y 0, 10, .inl (fun _ => 0)))) ++ (.inl (zYa Y 3, 10, .inr (.inr (.inr (.inr (fun i => if i < 10 then some (zYb Y + (22 + 1 + i)) else none))))) :: List.replicate 10 (.inl (zYa Y 0, 10, .inl (fun _ => 0)))) ++ (.inl (zYa Y 3, 10, .inr (.inr (.inr (.inr (fun i => if i < 10 then some (zYb Y + (33 + 1 + i)) else none))))) :: [.inl (zYa Y 0, 10, .inl g0), .inl (zYa Y 0, 10, .inl g1), .inl (zYa Y 0, 10, .inl g2), .inl (zYa Y 0, 10, .inl g3), .inl (zYa Y 0, 10, .inl g4), .inl (zYa Y 0, 10, .inl g5), .inl (zYa Y 0, 10, .inl (fun _ => 0)), .inl (zYa Y 0, 10, .inl (fun _ => 0)), .inl (zYa Y 0, 10, .inl (fun _ => 0)), .inl (zYa Y 0, 10, .inl (fun _ => 0))]) : List va_E)
  refine u_iinc C 6 [(1, .int (6 : Int32)), (0, .ref (zYb Y + 10))] dX6_init_64 0 rfl (by decide) (by decide) rfl ?_
  refine u_goto C (tgt := 47) dX6_init_67 (by decide) ?_
  refine u_iload_n C dX6_init_47 rfl 0 rfl ?_
  refine u_bipush C (10) dX6_init_48 (by decide) ?_
  refine u_icmp_ge C (tgt := 70) dX6_init_50 (by decide) (fun h => absurd h (by decide)) (fun _ => ?_)
  refine u_aload_n C dX6_init_53 rfl 1 rfl ?_
  refine u_get C (Cn := RX6) (T := TX6) (N := 4) (ci := 6) (j := 0) (fj := 3) (v := .ref (zYb Y + 33)) (congrArg (fun q => zYb Y + (q + 0)) hn) rfl zin_X6 rfl (by decide) kw_f_X6_23 rfl rfl dX6_init_54 ?_
  refine u_iload_n C dX6_init_57 rfl 0 rfl ?_
  refine u_aald C (t := 3) (ty := .int) (a := zYb Y + 40) (congrArg (fun q => zYb Y + (q + 23)) hn) rfl rfl (vp_in_iff.mpr (by decide)) rfl dX6_init_58 ?_
  refine u_bipush C (10) dX6_init_59 (by decide) ?_
  refine u_fill C (j := 30) (n := 10) (congrArg (fun q => zYb Y + (q + 30)) hn) (by decide) kz_115 rfl (by decide) (Nat.le_of_ble_eq_true rfl) (by decide) (Nat.le_of_ble_eq_true rfl) dX6_init_61 ?_
  intro g6 hg6
  show zU Y _ _ _ _ _ ([.inr (6, [.int (0 : Int32), .ref (zYb Y + 11), .ref (zYb Y + 22), .ref (zYb Y + 33)])] ++ (.inl (zYa Y 3, 10, .inr (.inr (.inr (.inr (fun i => if i < 10 then some (zYb Y + (11 + 1 + i)) else none))))) :: List.replicate 10 (.inl (zYa Y 0, 10, .inl (fun _ => 0)))) ++ (.inl (zYa Y 3, 10, .inr (.inr (.inr (.inr (fun i => if i < 10 then some (zYb Y + (22 + 1 + i)) else none))))) :: List.replicate 10 (.inl (zYa Y 0, 10, .inl (fun _ => 0)))) ++ (.inl (zYa Y 3, 10, .inr (.inr (.inr (.inr (fun i => if i < 10 then some (zYb Y + (33 + 1 + i)) else none))))) :: [.inl (zYa Y 0, 10, .inl g0), .inl (zYa Y 0, 10, .inl g1), .inl (zYa Y 0, 10, .inl g2), .inl (zYa Y 0, 10, .inl g3), .inl (zYa Y 0, 10, .inl g4), .inl (zYa Y 0, 10, .inl g5), .inl (zYa Y 0, 10, .inl g6), .inl (zYa Y 0, 10, .inl (fun _ => 0)), .inl (zYa Y 0, 10, .inl (fun _ => 0)), .inl (zYa Y 0, 10, .inl (fun _ => 0))]) : List va_E)
  refine u_iinc C 7 [(1, .int (7 : Int32)), (0, .ref (zYb Y + 10))] dX6_init_64 0 rfl (by decide) (by decide) rfl ?_
  refine u_goto C (tgt := 47) dX6_init_67 (by decide) ?_
  refine u_iload_n C dX6_init_47 rfl 0 rfl ?_
  refine u_bipush C (10) dX6_init_48 (by decide) ?_
  refine u_icmp_ge C (tgt := 70) dX6_init_50 (by decide) (fun h => absurd h (by decide)) (fun _ => ?_)
  refine u_aload_n C dX6_init_53 rfl 1 rfl ?_
  refine u_get C (Cn := RX6) (T := TX6) (N := 4) (ci := 6) (j := 0) (fj := 3) (v := .ref (zYb Y + 33)) (congrArg (fun q => zYb Y + (q + 0)) hn) rfl zin_X6 rfl (by decide) kw_f_X6_23 rfl rfl dX6_init_54 ?_
  refine u_iload_n C dX6_init_57 rfl 0 rfl ?_
  refine u_aald C (t := 3) (ty := .int) (a := zYb Y + 41) (congrArg (fun q => zYb Y + (q + 23)) hn) rfl rfl (vp_in_iff.mpr (by decide)) rfl dX6_init_58 ?_
  refine u_bipush C (10) dX6_init_59 (by decide) ?_
  refine u_fill C (j := 31) (n := 10) (congrArg (fun q => zYb Y + (q + 31)) hn) (by decide) kz_115 rfl (by decide) (Nat.le_of_ble_eq_true rfl) (by decide) (Nat.le_of_ble_eq_true rfl) dX6_init_61 ?_
  intro g7 hg7
  show zU Y _ _ _ _ _ ([.inr (6, [.int (0 : Int32), .ref (zYb Y + 11), .ref (zYb Y + 22), .ref (zYb Y + 33)])] ++ (.inl (zYa Y 3, 10, .inr (.inr (.inr (.inr (fun i => if i < 10 then some (zYb Y + (11 + 1 + i)) else none))))) :: List.replicate 10 (.inl (zYa Y 0, 10, .inl (fun _ => 0)))) ++ (.inl (zYa Y 3, 10, .inr (.inr (.inr (.inr (fun i => if i < 10 then some (zYb Y + (22 + 1 + i)) else none))))) :: List.replicate 10 (.inl (zYa Y 0, 10, .inl (fun _ => 0)))) ++ (.inl (zYa Y 3, 10, .inr (.inr (.inr (.inr (fun i => if i < 10 then some (zYb Y + (33 + 1 + i)) else none))))) :: [.inl (zYa Y 0, 10, .inl g0), .inl (zYa Y 0, 10, .inl g1), .inl (zYa Y 0, 10, .inl g2), .inl (zYa Y 0, 10, .inl g3), .inl (zYa Y 0, 10, .inl g4), .inl (zYa Y 0, 10, .inl g5), .inl (zYa Y 0, 10, .inl g6), .inl (zYa Y 0, 10, .inl g7), .inl (zYa Y 0, 10, .inl (fun _ => 0)), .inl (zYa Y 0, 10, .inl (fun _ => 0))]) : List va_E)
  refine u_iinc C 8 [(1, .int (8 : Int32)), (0, .ref (zYb Y + 10))] dX6_init_64 0 rfl (by decide) (by decide) rfl ?_
  refine u_goto C (tgt := 47) dX6_init_67 (by decide) ?_
  refine u_iload_n C dX6_init_47 rfl 0 rfl ?_
  refine u_bipush C (10) dX6_init_48 (by decide) ?_
  refine u_icmp_ge C (tgt := 70) dX6_init_50 (by decide) (fun h => absurd h (by decide)) (fun _ => ?_)
  refine u_aload_n C dX6_init_53 rfl 1 rfl ?_
  refine u_get C (Cn := RX6) (T := TX6) (N := 4) (ci := 6) (j := 0) (fj := 3) (v := .ref (zYb Y + 33)) (congrArg (fun q => zYb Y + (q + 0)) hn) rfl zin_X6 rfl (by decide) kw_f_X6_23 rfl rfl dX6_init_54 ?_
  refine u_iload_n C dX6_init_57 rfl 0 rfl ?_
  refine u_aald C (t := 3) (ty := .int) (a := zYb Y + 42) (congrArg (fun q => zYb Y + (q + 23)) hn) rfl rfl (vp_in_iff.mpr (by decide)) rfl dX6_init_58 ?_
  refine u_bipush C (10) dX6_init_59 (by decide) ?_
  refine u_fill C (j := 32) (n := 10) (congrArg (fun q => zYb Y + (q + 32)) hn) (by decide) kz_115 rfl (by decide) (Nat.le_of_ble_eq_true rfl) (by decide) (Nat.le_of_ble_eq_true rfl) dX6_init_61 ?_
  intro g8 hg8
  show zU Y _ _ _ _ _ ([.inr (6, [.int (0 : Int32), .ref (zYb Y + 11), .ref (zYb Y + 22), .ref (zYb Y + 33)])] ++ (.inl (zYa Y 3, 10, .inr (.inr (.inr (.inr (fun i => if i < 10 then some (zYb Y + (11 + 1 + i)) else none))))) :: List.replicate 10 (.inl (zYa Y 0, 10, .inl (fun _ => 0)))) ++ (.inl (zYa Y 3, 10, .inr (.inr (.inr (.inr (fun i => if i < 10 then some (zYb Y + (22 + 1 + i)) else none))))) :: List.replicate 10 (.inl (zYa Y 0, 10, .inl (fun _ => 0)))) ++ (.inl (zYa Y 3, 10, .inr (.inr (.inr (.inr (fun i => if i < 10 then some (zYb Y + (33 + 1 + i)) else none))))) :: [.inl (zYa Y 0, 10, .inl g0), .inl (zYa Y 0, 10, .inl g1), .inl (zYa Y 0, 10, .inl g2), .inl (zYa Y 0, 10, .inl g3), .inl (zYa Y 0, 10, .inl g4), .inl (zYa Y 0, 10, .inl g5), .inl (zYa Y 0, 10, .inl g6), .inl (zYa Y 0, 10, .inl g7), .inl (zYa Y 0, 10, .inl g8), .inl (zYa Y 0, 10, .inl (fun _ => 0))]) : List va_E)
  refine u_iinc C 9 [(1, .int (9 : Int32)), (0, .ref (zYb Y + 10))] dX6_init_64 0 rfl (by decide) (by decide) rfl ?_
  refine u_goto C (tgt := 47) dX6_init_67 (by decide) ?_
  refine u_iload_n C dX6_init_47 rfl 0 rfl ?_
  refine u_bipush C (10) dX6_init_48 (by decide) ?_
  refine u_icmp_ge C (tgt := 70) dX6_init_50 (by decide) (fun h => absurd h (by decide)) (fun _ => ?_)
  refine u_aload_n C dX6_init_53 rfl 1 rfl ?_
  refine u_get C (Cn := RX6) (T := TX6) (N := 4) (ci := 6) (j := 0) (fj := 3) (v := .ref (zYb Y + 33)) (congrArg (fun q => zYb Y + (q + 0)) hn) rfl zin_X6 rfl (by decide) kw_f_X6_23 rfl rfl dX6_init_54 ?_
  refine u_iload_n C dX6_init_57 rfl 0 rfl ?_
  refine u_aald C (t := 3) (ty := .int) (a := zYb Y + 43) (congrArg (fun q => zYb Y + (q + 23)) hn) rfl rfl (vp_in_iff.mpr (by decide)) rfl dX6_init_58 ?_
  refine u_bipush C (10) dX6_init_59 (by decide) ?_
  refine u_fill C (j := 33) (n := 10) (congrArg (fun q => zYb Y + (q + 33)) hn) (by decide) kz_115 rfl (by decide) (Nat.le_of_ble_eq_true rfl) (by decide) (Nat.le_of_ble_eq_true rfl) dX6_init_61 ?_
  intro g9 hg9
  show zU Y _ _ _ _ _ ([.inr (6, [.int (0 : Int32), .ref (zYb Y + 11), .ref (zYb Y + 22), .ref (zYb Y + 33)])] ++ (.inl (zYa Y 3, 10, .inr (.inr (.inr (.inr (fun i => if i < 10 then some (zYb Y + (11 + 1 + i)) else none))))) :: List.replicate 10 (.inl (zYa Y 0, 10, .inl (fun _ => 0)))) ++ (.inl (zYa Y 3, 10, .inr (.inr (.inr (.inr (fun i => if i < 10 then some (zYb Y + (22 + 1 + i)) else none))))) :: List.replicate 10 (.inl (zYa Y 0, 10, .inl (fun _ => 0)))) ++ (.inl (zYa Y 3, 10, .inr (.inr (.inr (.inr (fun i => if i < 10 then some (zYb Y + (33 + 1 + i)) else none))))) :: [.inl (zYa Y 0, 10, .inl g0), .inl (zYa Y 0, 10, .inl g1), .inl (zYa Y 0, 10, .inl g2), .inl (zYa Y 0, 10, .inl g3), .inl (zYa Y 0, 10, .inl g4), .inl (zYa Y 0, 10, .inl g5), .inl (zYa Y 0, 10, .inl g6), .inl (zYa Y 0, 10, .inl g7), .inl (zYa Y 0, 10, .inl g8), .inl (zYa Y 0, 10, .inl g9)]) : List va_E)
  refine u_iinc C 10 [(1, .int (10 : Int32)), (0, .ref (zYb Y + 10))] dX6_init_64 0 rfl (by decide) (by decide) rfl ?_
  refine u_goto C (tgt := 47) dX6_init_67 (by decide) ?_
  refine u_iload_n C dX6_init_47 rfl 0 rfl ?_
  refine u_bipush C (10) dX6_init_48 (by decide) ?_
  refine u_icmp_ge C (tgt := 70) dX6_init_50 (by decide) (fun _ => ?_) (fun h => absurd (by decide) h)
  exact u_vret C Rr ⟨g0, g1, g2, g3, g4, g5, g6, g7, g8, g9, ⟨hg0, hg1, hg2, hg3, hg4, hg5, hg6, hg7, hg8, hg9⟩, rfl⟩ (Nat.le_of_ble_eq_true rfl) (Nat.le_of_ble_eq_true rfl) dX6_init_70
def LF_X1 (base : Nat) (cA : Nat → ClassId)  : List va_E := ([.inr (1, [.int (0 : Int32), .ref (base + 45), .ref (base + 46), .ref (base + 47), .ref (base + 48), .ref (base + 49), .ref (base + 50)]), .inl (cA 0, 60, .inl (fun _ => 0)), .inl (cA 0, 60, .inl (fun _ => 0)), .inl (cA 0, 60, .inl (fun _ => 0)), .inl (cA 0, 60, .inl (fun _ => 0)), .inl (cA 0, 60, .inl (fun _ => 0))] ++ (.inl (cA 3, 10, .inr (.inr (.inr (.inr (fun i => if i < 10 then some (base + (50 + 1 + i)) else none))))) :: List.replicate 10 (.inl (cA 0, 10, .inl (fun _ => 0)))) : List va_E)
set_option maxHeartbeats 8000000 in
set_option maxRecDepth 100000 in
theorem c_X1_init (l : Launch) (D : va_G) (cA : Nat → ClassId) (base : Nat) (pre : List va_E) : zUT l 2 16 410 D cA base 44 pre yX1_init cX1_init 1 [.ref (base + 44)] ([.inr (1, [.int 0, .null, .null, .null, .null, .null, .null])] : List va_E) (fun L2 => L2 = LF_X1 base cA) := by
  refine u_entry rfl rfl (Nat.le_of_ble_eq_true rfl) rfl ?_
  intro Y C Rr hl hD ha9 hb9 hn hp9
  subst hl; subst hD; subst ha9; subst hb9; subst hp9
  have C : zUC Y cX1_init RX1 1 16 410 2 := C
  refine u_aload_n C dX1_init_0 rfl 0 rfl ?_
  refine u_obj C (by decide) kz_139 (Nat.le_of_ble_eq_true rfl) dX1_init_1 ?_
  refine u_aload_n C dX1_init_4 rfl 0 rfl ?_
  refine u_iconst C (0) dX1_init_5 (by decide) ?_
  refine u_put C (Cn := RX1) (T := TX1) (N := 7) (ci := 1) (j := 0) (fj := 0) (ty := tyX1 0) (congrArg (fun q => zYb Y + (q + 0)) hn) rfl zin_X1 tyX1 tyX1_ok nmX1 rfl (by decide) kw_f_X1_9 rfl rfl (by decide +kernel) rfl rfl (Nat.le_of_ble_eq_true rfl) dX1_init_6 ?_
  show zU Y _ _ _ _ _ ([.inr (1, [.int (0 : Int32), .null, .null, .null, .null, .null, .null])] : List va_E)
  refine u_aload_n C dX1_init_9 rfl 0 rfl ?_
  refine u_bipush C (60) dX1_init_10 (by decide) ?_
  refine u_newa C (ty := .int) (t := 0) (a0 := (60, .inl (fun _ => 0))) (N := 60) 45 (Eq.trans (congrArg (fun q => q + _) hn) rfl) rfl rfl (fun _ _ => rfl) (fun _ => rfl) kz_105 (by decide) (by decide) (Nat.le_of_ble_eq_true rfl) (by decide) (Nat.le_of_ble_eq_true rfl) dX1_init_12 ?_
  show zU Y _ _ _ _ _ ([.inr (1, [.int (0 : Int32), .null, .null, .null, .null, .null, .null]), .inl (zYa Y 0, 60, .inl (fun _ => 0))] : List va_E)
  refine u_putF C Rr (Cn := RX1) (T := TX1) (N := 7) (ci := 1) (j := 0) (fj := 1) (ty := tyX1 1) (congrArg (fun q => zYb Y + (q + 0)) hn) rfl zin_X1 tyX1 tyX1_ok nmX1 rfl (by decide) kw_f_X1_15 rfl rfl rfl (by decide +kernel) rfl rfl (Nat.le_of_ble_eq_true rfl) dX1_init_14 ?_
  show zU Y _ _ _ _ _ ([.inr (1, [.int (0 : Int32), .ref (zYb Y + 45), .null, .null, .null, .null, .null]), .inl (zYa Y 0, 60, .inl (fun _ => 0))] : List va_E)
  refine u_aload_n C dX1_init_17 rfl 0 rfl ?_
  refine u_bipush C (60) dX1_init_18 (by decide) ?_
  refine u_newa C (ty := .int) (t := 0) (a0 := (60, .inl (fun _ => 0))) (N := 60) 46 (Eq.trans (congrArg (fun q => q + _) hn) rfl) rfl rfl (fun _ _ => rfl) (fun _ => rfl) kz_105 (by decide) (by decide) (Nat.le_of_ble_eq_true rfl) (by decide) (Nat.le_of_ble_eq_true rfl) dX1_init_20 ?_
  show zU Y _ _ _ _ _ ([.inr (1, [.int (0 : Int32), .ref (zYb Y + 45), .null, .null, .null, .null, .null]), .inl (zYa Y 0, 60, .inl (fun _ => 0)), .inl (zYa Y 0, 60, .inl (fun _ => 0))] : List va_E)
  refine u_putF C Rr (Cn := RX1) (T := TX1) (N := 7) (ci := 1) (j := 0) (fj := 2) (ty := tyX1 2) (congrArg (fun q => zYb Y + (q + 0)) hn) rfl zin_X1 tyX1 tyX1_ok nmX1 rfl (by decide) kw_f_X1_19 rfl rfl rfl (by decide +kernel) rfl rfl (Nat.le_of_ble_eq_true rfl) dX1_init_22 ?_
  show zU Y _ _ _ _ _ ([.inr (1, [.int (0 : Int32), .ref (zYb Y + 45), .ref (zYb Y + 46), .null, .null, .null, .null]), .inl (zYa Y 0, 60, .inl (fun _ => 0)), .inl (zYa Y 0, 60, .inl (fun _ => 0))] : List va_E)
  refine u_aload_n C dX1_init_25 rfl 0 rfl ?_
  refine u_bipush C (60) dX1_init_26 (by decide) ?_
  refine u_newa C (ty := .int) (t := 0) (a0 := (60, .inl (fun _ => 0))) (N := 60) 47 (Eq.trans (congrArg (fun q => q + _) hn) rfl) rfl rfl (fun _ _ => rfl) (fun _ => rfl) kz_105 (by decide) (by decide) (Nat.le_of_ble_eq_true rfl) (by decide) (Nat.le_of_ble_eq_true rfl) dX1_init_28 ?_
  show zU Y _ _ _ _ _ ([.inr (1, [.int (0 : Int32), .ref (zYb Y + 45), .ref (zYb Y + 46), .null, .null, .null, .null]), .inl (zYa Y 0, 60, .inl (fun _ => 0)), .inl (zYa Y 0, 60, .inl (fun _ => 0)), .inl (zYa Y 0, 60, .inl (fun _ => 0))] : List va_E)
  refine u_putF C Rr (Cn := RX1) (T := TX1) (N := 7) (ci := 1) (j := 0) (fj := 3) (ty := tyX1 3) (congrArg (fun q => zYb Y + (q + 0)) hn) rfl zin_X1 tyX1 tyX1_ok nmX1 rfl (by decide) kw_f_X1_22 rfl rfl rfl (by decide +kernel) rfl rfl (Nat.le_of_ble_eq_true rfl) dX1_init_30 ?_
  show zU Y _ _ _ _ _ ([.inr (1, [.int (0 : Int32), .ref (zYb Y + 45), .ref (zYb Y + 46), .ref (zYb Y + 47), .null, .null, .null]), .inl (zYa Y 0, 60, .inl (fun _ => 0)), .inl (zYa Y 0, 60, .inl (fun _ => 0)), .inl (zYa Y 0, 60, .inl (fun _ => 0))] : List va_E)
  refine u_aload_n C dX1_init_33 rfl 0 rfl ?_
  refine u_bipush C (60) dX1_init_34 (by decide) ?_
  refine u_newa C (ty := .int) (t := 0) (a0 := (60, .inl (fun _ => 0))) (N := 60) 48 (Eq.trans (congrArg (fun q => q + _) hn) rfl) rfl rfl (fun _ _ => rfl) (fun _ => rfl) kz_105 (by decide) (by decide) (Nat.le_of_ble_eq_true rfl) (by decide) (Nat.le_of_ble_eq_true rfl) dX1_init_36 ?_
  show zU Y _ _ _ _ _ ([.inr (1, [.int (0 : Int32), .ref (zYb Y + 45), .ref (zYb Y + 46), .ref (zYb Y + 47), .null, .null, .null]), .inl (zYa Y 0, 60, .inl (fun _ => 0)), .inl (zYa Y 0, 60, .inl (fun _ => 0)), .inl (zYa Y 0, 60, .inl (fun _ => 0)), .inl (zYa Y 0, 60, .inl (fun _ => 0))] : List va_E)
  refine u_putF C Rr (Cn := RX1) (T := TX1) (N := 7) (ci := 1) (j := 0) (fj := 4) (ty := tyX1 4) (congrArg (fun q => zYb Y + (q + 0)) hn) rfl zin_X1 tyX1 tyX1_ok nmX1 rfl (by decide) kw_f_X1_25 rfl rfl rfl (by decide +kernel) rfl rfl (Nat.le_of_ble_eq_true rfl) dX1_init_38 ?_
  show zU Y _ _ _ _ _ ([.inr (1, [.int (0 : Int32), .ref (zYb Y + 45), .ref (zYb Y + 46), .ref (zYb Y + 47), .ref (zYb Y + 48), .null, .null]), .inl (zYa Y 0, 60, .inl (fun _ => 0)), .inl (zYa Y 0, 60, .inl (fun _ => 0)), .inl (zYa Y 0, 60, .inl (fun _ => 0)), .inl (zYa Y 0, 60, .inl (fun _ => 0))] : List va_E)
  refine u_aload_n C dX1_init_41 rfl 0 rfl ?_
  refine u_bipush C (60) dX1_init_42 (by decide) ?_
  refine u_newa C (ty := .int) (t := 0) (a0 := (60, .inl (fun _ => 0))) (N := 60) 49 (Eq.trans (congrArg (fun q => q + _) hn) rfl) rfl rfl (fun _ _ => rfl) (fun _ => rfl) kz_105 (by decide) (by decide) (Nat.le_of_ble_eq_true rfl) (by decide) (Nat.le_of_ble_eq_true rfl) dX1_init_44 ?_
  show zU Y _ _ _ _ _ ([.inr (1, [.int (0 : Int32), .ref (zYb Y + 45), .ref (zYb Y + 46), .ref (zYb Y + 47), .ref (zYb Y + 48), .null, .null]), .inl (zYa Y 0, 60, .inl (fun _ => 0)), .inl (zYa Y 0, 60, .inl (fun _ => 0)), .inl (zYa Y 0, 60, .inl (fun _ => 0)), .inl (zYa Y 0, 60, .inl (fun _ => 0)), .inl (zYa Y 0, 60, .inl (fun _ => 0))] : List va_E)
  refine u_putF C Rr (Cn := RX1) (T := TX1) (N := 7) (ci := 1) (j := 0) (fj := 5) (ty := tyX1 5) (congrArg (fun q => zYb Y + (q + 0)) hn) rfl zin_X1 tyX1 tyX1_ok nmX1 rfl (by decide) kw_f_X1_28 rfl rfl rfl (by decide +kernel) rfl rfl (Nat.le_of_ble_eq_true rfl) dX1_init_46 ?_
  show zU Y _ _ _ _ _ ([.inr (1, [.int (0 : Int32), .ref (zYb Y + 45), .ref (zYb Y + 46), .ref (zYb Y + 47), .ref (zYb Y + 48), .ref (zYb Y + 49), .null]), .inl (zYa Y 0, 60, .inl (fun _ => 0)), .inl (zYa Y 0, 60, .inl (fun _ => 0)), .inl (zYa Y 0, 60, .inl (fun _ => 0)), .inl (zYa Y 0, 60, .inl (fun _ => 0)), .inl (zYa Y 0, 60, .inl (fun _ => 0))] : List va_E)
  refine u_aload_n C dX1_init_49 rfl 0 rfl ?_
  refine u_bipush C (10) dX1_init_50 (by decide) ?_
  refine u_bipush C (10) dX1_init_52 (by decide) ?_
  refine u_mna C (ty := .int) (t := 0) (t2 := 3) (z := (10, .inl (fun _ => 0))) (N := 10) (K' := 10) 50 (Eq.trans (congrArg (fun q => q + _) hn) rfl) rfl rfl (fun _ _ => rfl) (by decide +kernel) (fun _ h => h.1) kz_140 kz_105 (by decide) (by decide) (by decide) (by decide) (by decide) (by decide) (by decide) rfl rfl (fun c => arrV_new c _ _) (by decide) (Nat.le_of_ble_eq_true rfl) dX1_init_54 ?_
  show zU Y _ _ _ _ _ ([.inr (1, [.int (0 : Int32), .ref (zYb Y + 45), .ref (zYb Y + 46), .ref (zYb Y + 47), .ref (zYb Y + 48), .ref (zYb Y + 49), .null]), .inl (zYa Y 0, 60, .inl (fun _ => 0)), .inl (zYa Y 0, 60, .inl (fun _ => 0)), .inl (zYa Y 0, 60, .inl (fun _ => 0)), .inl (zYa Y 0, 60, .inl (fun _ => 0)), .inl (zYa Y 0, 60, .inl (fun _ => 0))] ++ (.inl (zYa Y 3, 10, .inr (.inr (.inr (.inr (fun i => if i < 10 then some (zYb Y + (50 + 1 + i)) else none))))) :: List.replicate 10 (.inl (zYa Y 0, 10, .inl (fun _ => 0)))) : List va_E)
  refine u_putF C Rr (Cn := RX1) (T := TX1) (N := 7) (ci := 1) (j := 0) (fj := 6) (ty := tyX1 6) (congrArg (fun q => zYb Y + (q + 0)) hn) rfl zin_X1 tyX1 tyX1_ok nmX1 rfl (by decide) kw_f_X1_33 rfl rfl rfl (by decide +kernel) rfl rfl (Nat.le_of_ble_eq_true rfl) dX1_init_58 ?_
  show zU Y _ _ _ _ _ ([.inr (1, [.int (0 : Int32), .ref (zYb Y + 45), .ref (zYb Y + 46), .ref (zYb Y + 47), .ref (zYb Y + 48), .ref (zYb Y + 49), .ref (zYb Y + 50)]), .inl (zYa Y 0, 60, .inl (fun _ => 0)), .inl (zYa Y 0, 60, .inl (fun _ => 0)), .inl (zYa Y 0, 60, .inl (fun _ => 0)), .inl (zYa Y 0, 60, .inl (fun _ => 0)), .inl (zYa Y 0, 60, .inl (fun _ => 0))] ++ (.inl (zYa Y 3, 10, .inr (.inr (.inr (.inr (fun i => if i < 10 then some (zYb Y + (50 + 1 + i)) else none))))) :: List.replicate 10 (.inl (zYa Y 0, 10, .inl (fun _ => 0)))) : List va_E)
  exact u_vret C Rr rfl (Nat.le_of_ble_eq_true rfl) (Nat.le_of_ble_eq_true rfl) dX1_init_61
def LF_X5 (base : Nat) (cA : Nat → ClassId)  : List va_E := ([.inr (5, [.ref (base + 10), .ref (base + 44), .ref (base + 62), .ref (base + 63), .ref (base + 64), .int (-1 : Int32), .int (0 : Int32), .int (1 : Int32), .int (-1 : Int32), .int (0 : Int32), .ref (base + 65), .ref (base + 66), .int (0 : Int32), .long (0 : Int64), .long (1 : Int64)]), .inl (cA 0, 4, .inl (fun _ => 0)), .inl (cA 0, 3, .inl (fun _ => 0)), .inl (cA 0, 3, .inl (fun _ => 0)), .inl (cA 0, 4, .inl (fun _ => 0)), .inl (cA 0, 3, .inl (fun _ => 0))] : List va_E)
set_option maxHeartbeats 8000000 in
set_option maxRecDepth 100000 in
theorem c_X5_init (l : Launch) (D : va_G) (cA : Nat → ClassId) (base : Nat) (pre : List va_E) : zUT l 2 5 17 D cA base 61 pre yX5_init cX5_init 3 [.ref (base + 61), .ref (base + 10), .ref (base + 44)] ([.inr (5, [.null, .null, .null, .null, .null, .int 0, .int 0, .int 0, .int 0, .int 0, .null, .null, .int 0, .long 0, .long 0])] : List va_E) (fun L2 => L2 = LF_X5 base cA) := by
  refine u_entry rfl rfl (Nat.le_of_ble_eq_true rfl) rfl ?_
  intro Y C Rr hl hD ha9 hb9 hn hp9
  subst hl; subst hD; subst ha9; subst hb9; subst hp9
  have C : zUC Y cX5_init RX5 3 5 17 2 := C
  refine u_aload_n C dX5_init_0 rfl 0 rfl ?_
  refine u_obj C (by decide) kz_177 (Nat.le_of_ble_eq_true rfl) dX5_init_1 ?_
  refine u_aload_n C dX5_init_4 rfl 0 rfl ?_
  refine u_iconst C (4) dX5_init_5 (by decide) ?_
  refine u_newa C (ty := .int) (t := 0) (a0 := (4, .inl (fun _ => 0))) (N := 4) 62 (Eq.trans (congrArg (fun q => q + _) hn) rfl) rfl rfl (fun _ _ => rfl) (fun _ => rfl) kz_105 (by decide) (by decide) (Nat.le_of_ble_eq_true rfl) (by decide) (Nat.le_of_ble_eq_true rfl) dX5_init_6 ?_
  show zU Y _ _ _ _ _ ([.inr (5, [.null, .null, .null, .null, .null, .int 0, .int 0, .int 0, .int 0, .int 0, .null, .null, .int 0, .long 0, .long 0]), .inl (zYa Y 0, 4, .inl (fun _ => 0))] : List va_E)
  refine u_putF C Rr (Cn := RX5) (T := TX5) (N := 15) (ci := 5) (j := 0) (fj := 2) (ty := tyX5 2) (congrArg (fun q => zYb Y + (q + 0)) hn) rfl zin_X5 tyX5 tyX5_ok nmX5 rfl (by decide) kw_f_X5_9 rfl rfl rfl (by decide +kernel) rfl rfl (Nat.le_of_ble_eq_true rfl) dX5_init_8 ?_
  show zU Y _ _ _ _ _ ([.inr (5, [.null, .null, .ref (zYb Y + 62), .null, .null, .int 0, .int 0, .int 0, .int 0, .int 0, .null, .null, .int 0, .long 0, .long 0]), .inl (zYa Y 0, 4, .inl (fun _ => 0))] : List va_E)
  refine u_aload_n C dX5_init_11 rfl 0 rfl ?_
  refine u_iconst C (3) dX5_init_12 (by decide) ?_
  refine u_newa C (ty := .int) (t := 0) (a0 := (3, .inl (fun _ => 0))) (N := 3) 63 (Eq.trans (congrArg (fun q => q + _) hn) rfl) rfl rfl (fun _ _ => rfl) (fun _ => rfl) kz_105 (by decide) (by decide) (Nat.le_of_ble_eq_true rfl) (by decide) (Nat.le_of_ble_eq_true rfl) dX5_init_13 ?_
  show zU Y _ _ _ _ _ ([.inr (5, [.null, .null, .ref (zYb Y + 62), .null, .null, .int 0, .int 0, .int 0, .int 0, .int 0, .null, .null, .int 0, .long 0, .long 0]), .inl (zYa Y 0, 4, .inl (fun _ => 0)), .inl (zYa Y 0, 3, .inl (fun _ => 0))] : List va_E)
  refine u_putF C Rr (Cn := RX5) (T := TX5) (N := 15) (ci := 5) (j := 0) (fj := 3) (ty := tyX5 3) (congrArg (fun q => zYb Y + (q + 0)) hn) rfl zin_X5 tyX5 tyX5_ok nmX5 rfl (by decide) kw_f_X5_15 rfl rfl rfl (by decide +kernel) rfl rfl (Nat.le_of_ble_eq_true rfl) dX5_init_15 ?_
  show zU Y _ _ _ _ _ ([.inr (5, [.null, .null, .ref (zYb Y + 62), .ref (zYb Y + 63), .null, .int 0, .int 0, .int 0, .int 0, .int 0, .null, .null, .int 0, .long 0, .long 0]), .inl (zYa Y 0, 4, .inl (fun _ => 0)), .inl (zYa Y 0, 3, .inl (fun _ => 0))] : List va_E)
  refine u_aload_n C dX5_init_18 rfl 0 rfl ?_
  refine u_iconst C (3) dX5_init_19 (by decide) ?_
  refine u_newa C (ty := .int) (t := 0) (a0 := (3, .inl (fun _ => 0))) (N := 3) 64 (Eq.trans (congrArg (fun q => q + _) hn) rfl) rfl rfl (fun _ _ => rfl) (fun _ => rfl) kz_105 (by decide) (by decide) (Nat.le_of_ble_eq_true rfl) (by decide) (Nat.le_of_ble_eq_true rfl) dX5_init_20 ?_
  show zU Y _ _ _ _ _ ([.inr (5, [.null, .null, .ref (zYb Y + 62), .ref (zYb Y + 63), .null, .int 0, .int 0, .int 0, .int 0, .int 0, .null, .null, .int 0, .long 0, .long 0]), .inl (zYa Y 0, 4, .inl (fun _ => 0)), .inl (zYa Y 0, 3, .inl (fun _ => 0)), .inl (zYa Y 0, 3, .inl (fun _ => 0))] : List va_E)
  refine u_putF C Rr (Cn := RX5) (T := TX5) (N := 15) (ci := 5) (j := 0) (fj := 4) (ty := tyX5 4) (congrArg (fun q => zYb Y + (q + 0)) hn) rfl zin_X5 tyX5 tyX5_ok nmX5 rfl (by decide) kw_f_X5_18 rfl rfl rfl (by decide +kernel) rfl rfl (Nat.le_of_ble_eq_true rfl) dX5_init_22 ?_
  show zU Y _ _ _ _ _ ([.inr (5, [.null, .null, .ref (zYb Y + 62), .ref (zYb Y + 63), .ref (zYb Y + 64), .int 0, .int 0, .int 0, .int 0, .int 0, .null, .null, .int 0, .long 0, .long 0]), .inl (zYa Y 0, 4, .inl (fun _ => 0)), .inl (zYa Y 0, 3, .inl (fun _ => 0)), .inl (zYa Y 0, 3, .inl (fun _ => 0))] : List va_E)
  refine u_aload_n C dX5_init_25 rfl 0 rfl ?_
  refine u_iconst C (-1) dX5_init_26 (by decide) ?_
  refine u_put C (Cn := RX5) (T := TX5) (N := 15) (ci := 5) (j := 0) (fj := 5) (ty := tyX5 5) (congrArg (fun q => zYb Y + (q + 0)) hn) rfl zin_X5 tyX5 tyX5_ok nmX5 rfl (by decide) kw_f_X5_21 rfl rfl (by decide +kernel) rfl rfl (Nat.le_of_ble_eq_true rfl) dX5_init_27 ?_
  show zU Y _ _ _ _ _ ([.inr (5, [.null, .null, .ref (zYb Y + 62), .ref (zYb Y + 63), .ref (zYb Y + 64), .int (-1 : Int32), .int 0, .int 0, .int 0, .int 0, .null, .null, .int 0, .long 0, .long 0]), .inl (zYa Y 0, 4, .inl (fun _ => 0)), .inl (zYa Y 0, 3, .inl (fun _ => 0)), .inl (zYa Y 0, 3, .inl (fun _ => 0))] : List va_E)
  refine u_aload_n C dX5_init_30 rfl 0 rfl ?_
  refine u_iconst C (0) dX5_init_31 (by decide) ?_
  refine u_put C (Cn := RX5) (T := TX5) (N := 15) (ci := 5) (j := 0) (fj := 6) (ty := tyX5 6) (congrArg (fun q => zYb Y + (q + 0)) hn) rfl zin_X5 tyX5 tyX5_ok nmX5 rfl (by decide) kw_f_X5_25 rfl rfl (by decide +kernel) rfl rfl (Nat.le_of_ble_eq_true rfl) dX5_init_32 ?_
  show zU Y _ _ _ _ _ ([.inr (5, [.null, .null, .ref (zYb Y + 62), .ref (zYb Y + 63), .ref (zYb Y + 64), .int (-1 : Int32), .int (0 : Int32), .int 0, .int 0, .int 0, .null, .null, .int 0, .long 0, .long 0]), .inl (zYa Y 0, 4, .inl (fun _ => 0)), .inl (zYa Y 0, 3, .inl (fun _ => 0)), .inl (zYa Y 0, 3, .inl (fun _ => 0))] : List va_E)
  refine u_aload_n C dX5_init_35 rfl 0 rfl ?_
  refine u_iconst C (1) dX5_init_36 (by decide) ?_
  refine u_put C (Cn := RX5) (T := TX5) (N := 15) (ci := 5) (j := 0) (fj := 7) (ty := tyX5 7) (congrArg (fun q => zYb Y + (q + 0)) hn) rfl zin_X5 tyX5 tyX5_ok nmX5 rfl (by decide) kw_f_X5_28 rfl rfl (by decide +kernel) rfl rfl (Nat.le_of_ble_eq_true rfl) dX5_init_37 ?_
  show zU Y _ _ _ _ _ ([.inr (5, [.null, .null, .ref (zYb Y + 62), .ref (zYb Y + 63), .ref (zYb Y + 64), .int (-1 : Int32), .int (0 : Int32), .int (1 : Int32), .int 0, .int 0, .null, .null, .int 0, .long 0, .long 0]), .inl (zYa Y 0, 4, .inl (fun _ => 0)), .inl (zYa Y 0, 3, .inl (fun _ => 0)), .inl (zYa Y 0, 3, .inl (fun _ => 0))] : List va_E)
  refine u_aload_n C dX5_init_40 rfl 0 rfl ?_
  refine u_iconst C (-1) dX5_init_41 (by decide) ?_
  refine u_put C (Cn := RX5) (T := TX5) (N := 15) (ci := 5) (j := 0) (fj := 8) (ty := tyX5 8) (congrArg (fun q => zYb Y + (q + 0)) hn) rfl zin_X5 tyX5 tyX5_ok nmX5 rfl (by decide) kw_f_X5_31 rfl rfl (by decide +kernel) rfl rfl (Nat.le_of_ble_eq_true rfl) dX5_init_42 ?_
  show zU Y _ _ _ _ _ ([.inr (5, [.null, .null, .ref (zYb Y + 62), .ref (zYb Y + 63), .ref (zYb Y + 64), .int (-1 : Int32), .int (0 : Int32), .int (1 : Int32), .int (-1 : Int32), .int 0, .null, .null, .int 0, .long 0, .long 0]), .inl (zYa Y 0, 4, .inl (fun _ => 0)), .inl (zYa Y 0, 3, .inl (fun _ => 0)), .inl (zYa Y 0, 3, .inl (fun _ => 0))] : List va_E)
  refine u_aload_n C dX5_init_45 rfl 0 rfl ?_
  refine u_iconst C (0) dX5_init_46 (by decide) ?_
  refine u_put C (Cn := RX5) (T := TX5) (N := 15) (ci := 5) (j := 0) (fj := 9) (ty := tyX5 9) (congrArg (fun q => zYb Y + (q + 0)) hn) rfl zin_X5 tyX5 tyX5_ok nmX5 rfl (by decide) kw_f_X5_34 rfl rfl (by decide +kernel) rfl rfl (Nat.le_of_ble_eq_true rfl) dX5_init_47 ?_
  show zU Y _ _ _ _ _ ([.inr (5, [.null, .null, .ref (zYb Y + 62), .ref (zYb Y + 63), .ref (zYb Y + 64), .int (-1 : Int32), .int (0 : Int32), .int (1 : Int32), .int (-1 : Int32), .int (0 : Int32), .null, .null, .int 0, .long 0, .long 0]), .inl (zYa Y 0, 4, .inl (fun _ => 0)), .inl (zYa Y 0, 3, .inl (fun _ => 0)), .inl (zYa Y 0, 3, .inl (fun _ => 0))] : List va_E)
  refine u_aload_n C dX5_init_50 rfl 0 rfl ?_
  refine u_iconst C (4) dX5_init_51 (by decide) ?_
  refine u_newa C (ty := .int) (t := 0) (a0 := (4, .inl (fun _ => 0))) (N := 4) 65 (Eq.trans (congrArg (fun q => q + _) hn) rfl) rfl rfl (fun _ _ => rfl) (fun _ => rfl) kz_105 (by decide) (by decide) (Nat.le_of_ble_eq_true rfl) (by decide) (Nat.le_of_ble_eq_true rfl) dX5_init_52 ?_
  show zU Y _ _ _ _ _ ([.inr (5, [.null, .null, .ref (zYb Y + 62), .ref (zYb Y + 63), .ref (zYb Y + 64), .int (-1 : Int32), .int (0 : Int32), .int (1 : Int32), .int (-1 : Int32), .int (0 : Int32), .null, .null, .int 0, .long 0, .long 0]), .inl (zYa Y 0, 4, .inl (fun _ => 0)), .inl (zYa Y 0, 3, .inl (fun _ => 0)), .inl (zYa Y 0, 3, .inl (fun _ => 0)), .inl (zYa Y 0, 4, .inl (fun _ => 0))] : List va_E)
  refine u_putF C Rr (Cn := RX5) (T := TX5) (N := 15) (ci := 5) (j := 0) (fj := 10) (ty := tyX5 10) (congrArg (fun q => zYb Y + (q + 0)) hn) rfl zin_X5 tyX5 tyX5_ok nmX5 rfl (by decide) kw_f_X5_37 rfl rfl rfl (by decide +kernel) rfl rfl (Nat.le_of_ble_eq_true rfl) dX5_init_54 ?_
  show zU Y _ _ _ _ _ ([.inr (5, [.null, .null, .ref (zYb Y + 62), .ref (zYb Y + 63), .ref (zYb Y + 64), .int (-1 : Int32), .int (0 : Int32), .int (1 : Int32), .int (-1 : Int32), .int (0 : Int32), .ref (zYb Y + 65), .null, .int 0, .long 0, .long 0]), .inl (zYa Y 0, 4, .inl (fun _ => 0)), .inl (zYa Y 0, 3, .inl (fun _ => 0)), .inl (zYa Y 0, 3, .inl (fun _ => 0)), .inl (zYa Y 0, 4, .inl (fun _ => 0))] : List va_E)
  refine u_aload_n C dX5_init_57 rfl 0 rfl ?_
  refine u_iconst C (3) dX5_init_58 (by decide) ?_
  refine u_newa C (ty := .int) (t := 0) (a0 := (3, .inl (fun _ => 0))) (N := 3) 66 (Eq.trans (congrArg (fun q => q + _) hn) rfl) rfl rfl (fun _ _ => rfl) (fun _ => rfl) kz_105 (by decide) (by decide) (Nat.le_of_ble_eq_true rfl) (by decide) (Nat.le_of_ble_eq_true rfl) dX5_init_59 ?_
  show zU Y _ _ _ _ _ ([.inr (5, [.null, .null, .ref (zYb Y + 62), .ref (zYb Y + 63), .ref (zYb Y + 64), .int (-1 : Int32), .int (0 : Int32), .int (1 : Int32), .int (-1 : Int32), .int (0 : Int32), .ref (zYb Y + 65), .null, .int 0, .long 0, .long 0]), .inl (zYa Y 0, 4, .inl (fun _ => 0)), .inl (zYa Y 0, 3, .inl (fun _ => 0)), .inl (zYa Y 0, 3, .inl (fun _ => 0)), .inl (zYa Y 0, 4, .inl (fun _ => 0)), .inl (zYa Y 0, 3, .inl (fun _ => 0))] : List va_E)
  refine u_putF C Rr (Cn := RX5) (T := TX5) (N := 15) (ci := 5) (j := 0) (fj := 11) (ty := tyX5 11) (congrArg (fun q => zYb Y + (q + 0)) hn) rfl zin_X5 tyX5 tyX5_ok nmX5 rfl (by decide) kw_f_X5_40 rfl rfl rfl (by decide +kernel) rfl rfl (Nat.le_of_ble_eq_true rfl) dX5_init_61 ?_
  show zU Y _ _ _ _ _ ([.inr (5, [.null, .null, .ref (zYb Y + 62), .ref (zYb Y + 63), .ref (zYb Y + 64), .int (-1 : Int32), .int (0 : Int32), .int (1 : Int32), .int (-1 : Int32), .int (0 : Int32), .ref (zYb Y + 65), .ref (zYb Y + 66), .int 0, .long 0, .long 0]), .inl (zYa Y 0, 4, .inl (fun _ => 0)), .inl (zYa Y 0, 3, .inl (fun _ => 0)), .inl (zYa Y 0, 3, .inl (fun _ => 0)), .inl (zYa Y 0, 4, .inl (fun _ => 0)), .inl (zYa Y 0, 3, .inl (fun _ => 0))] : List va_E)
  refine u_aload_n C dX5_init_64 rfl 0 rfl ?_
  refine u_iconst C (0) dX5_init_65 (by decide) ?_
  refine u_put C (Cn := RX5) (T := TX5) (N := 15) (ci := 5) (j := 0) (fj := 12) (ty := tyX5 12) (congrArg (fun q => zYb Y + (q + 0)) hn) rfl zin_X5 tyX5 tyX5_ok nmX5 rfl (by decide) kw_f_X5_43 rfl rfl (by decide +kernel) rfl rfl (Nat.le_of_ble_eq_true rfl) dX5_init_66 ?_
  show zU Y _ _ _ _ _ ([.inr (5, [.null, .null, .ref (zYb Y + 62), .ref (zYb Y + 63), .ref (zYb Y + 64), .int (-1 : Int32), .int (0 : Int32), .int (1 : Int32), .int (-1 : Int32), .int (0 : Int32), .ref (zYb Y + 65), .ref (zYb Y + 66), .int (0 : Int32), .long 0, .long 0]), .inl (zYa Y 0, 4, .inl (fun _ => 0)), .inl (zYa Y 0, 3, .inl (fun _ => 0)), .inl (zYa Y 0, 3, .inl (fun _ => 0)), .inl (zYa Y 0, 4, .inl (fun _ => 0)), .inl (zYa Y 0, 3, .inl (fun _ => 0))] : List va_E)
  refine u_aload_n C dX5_init_69 rfl 0 rfl ?_
  refine u_lconst C 0 dX5_init_70 (by decide) ?_
  refine u_put C (Cn := RX5) (T := TX5) (N := 15) (ci := 5) (j := 0) (fj := 13) (ty := tyX5 13) (congrArg (fun q => zYb Y + (q + 0)) hn) rfl zin_X5 tyX5 tyX5_ok nmX5 rfl (by decide) kw_f_X5_46 rfl rfl (by decide +kernel) rfl rfl (Nat.le_of_ble_eq_true rfl) dX5_init_71 ?_
  show zU Y _ _ _ _ _ ([.inr (5, [.null, .null, .ref (zYb Y + 62), .ref (zYb Y + 63), .ref (zYb Y + 64), .int (-1 : Int32), .int (0 : Int32), .int (1 : Int32), .int (-1 : Int32), .int (0 : Int32), .ref (zYb Y + 65), .ref (zYb Y + 66), .int (0 : Int32), .long (0 : Int64), .long 0]), .inl (zYa Y 0, 4, .inl (fun _ => 0)), .inl (zYa Y 0, 3, .inl (fun _ => 0)), .inl (zYa Y 0, 3, .inl (fun _ => 0)), .inl (zYa Y 0, 4, .inl (fun _ => 0)), .inl (zYa Y 0, 3, .inl (fun _ => 0))] : List va_E)
  refine u_aload_n C dX5_init_74 rfl 0 rfl ?_
  refine u_lconst C 1 dX5_init_75 (by decide) ?_
  refine u_put C (Cn := RX5) (T := TX5) (N := 15) (ci := 5) (j := 0) (fj := 14) (ty := tyX5 14) (congrArg (fun q => zYb Y + (q + 0)) hn) rfl zin_X5 tyX5 tyX5_ok nmX5 rfl (by decide) kw_f_X5_50 rfl rfl (by decide +kernel) rfl rfl (Nat.le_of_ble_eq_true rfl) dX5_init_76 ?_
  show zU Y _ _ _ _ _ ([.inr (5, [.null, .null, .ref (zYb Y + 62), .ref (zYb Y + 63), .ref (zYb Y + 64), .int (-1 : Int32), .int (0 : Int32), .int (1 : Int32), .int (-1 : Int32), .int (0 : Int32), .ref (zYb Y + 65), .ref (zYb Y + 66), .int (0 : Int32), .long (0 : Int64), .long (1 : Int64)]), .inl (zYa Y 0, 4, .inl (fun _ => 0)), .inl (zYa Y 0, 3, .inl (fun _ => 0)), .inl (zYa Y 0, 3, .inl (fun _ => 0)), .inl (zYa Y 0, 4, .inl (fun _ => 0)), .inl (zYa Y 0, 3, .inl (fun _ => 0))] : List va_E)
  refine u_aload_n C dX5_init_79 rfl 0 rfl ?_
  refine u_aload_n C dX5_init_80 rfl 1 rfl ?_
  refine u_putF C Rr (Cn := RX5) (T := TX5) (N := 15) (ci := 5) (j := 0) (fj := 0) (ty := tyX5 0) (congrArg (fun q => zYb Y + (q + 0)) hn) rfl zin_X5 tyX5 tyX5_ok nmX5 rfl (by decide) kw_f_X5_53 rfl rfl rfl (by decide +kernel) rfl rfl (Nat.le_of_ble_eq_true rfl) dX5_init_81 ?_
  show zU Y _ _ _ _ _ ([.inr (5, [.ref (zYb Y + 10), .null, .ref (zYb Y + 62), .ref (zYb Y + 63), .ref (zYb Y + 64), .int (-1 : Int32), .int (0 : Int32), .int (1 : Int32), .int (-1 : Int32), .int (0 : Int32), .ref (zYb Y + 65), .ref (zYb Y + 66), .int (0 : Int32), .long (0 : Int64), .long (1 : Int64)]), .inl (zYa Y 0, 4, .inl (fun _ => 0)), .inl (zYa Y 0, 3, .inl (fun _ => 0)), .inl (zYa Y 0, 3, .inl (fun _ => 0)), .inl (zYa Y 0, 4, .inl (fun _ => 0)), .inl (zYa Y 0, 3, .inl (fun _ => 0))] : List va_E)
  refine u_aload_n C dX5_init_84 rfl 0 rfl ?_
  refine u_aload_n C dX5_init_85 rfl 2 rfl ?_
  refine u_putF C Rr (Cn := RX5) (T := TX5) (N := 15) (ci := 5) (j := 0) (fj := 1) (ty := tyX5 1) (congrArg (fun q => zYb Y + (q + 0)) hn) rfl zin_X5 tyX5 tyX5_ok nmX5 rfl (by decide) kw_f_X5_57 rfl rfl rfl (by decide +kernel) rfl rfl (Nat.le_of_ble_eq_true rfl) dX5_init_86 ?_
  show zU Y _ _ _ _ _ ([.inr (5, [.ref (zYb Y + 10), .ref (zYb Y + 44), .ref (zYb Y + 62), .ref (zYb Y + 63), .ref (zYb Y + 64), .int (-1 : Int32), .int (0 : Int32), .int (1 : Int32), .int (-1 : Int32), .int (0 : Int32), .ref (zYb Y + 65), .ref (zYb Y + 66), .int (0 : Int32), .long (0 : Int64), .long (1 : Int64)]), .inl (zYa Y 0, 4, .inl (fun _ => 0)), .inl (zYa Y 0, 3, .inl (fun _ => 0)), .inl (zYa Y 0, 3, .inl (fun _ => 0)), .inl (zYa Y 0, 4, .inl (fun _ => 0)), .inl (zYa Y 0, 3, .inl (fun _ => 0))] : List va_E)
  exact u_vret C Rr rfl (Nat.le_of_ble_eq_true rfl) (Nat.le_of_ble_eq_true rfl) dX5_init_89
def LF_X0 (base : Nat) (cA : Nat → ClassId)  : List va_E := ([.inr (0, [.ref (base + 10), .ref (base + 44), .ref (base + 68), .ref (base + 79), .ref (base + 90), .ref (base + 102), .ref (base + 113)])] ++ (.inl (cA 3, 10, .inr (.inr (.inr (.inr (fun i => if i < 10 then some (base + (68 + 1 + i)) else none))))) :: List.replicate 10 (.inl (cA 0, 10, .inl (fun _ => 0)))) ++ (.inl (cA 3, 10, .inr (.inr (.inr (.inr (fun i => if i < 10 then some (base + (79 + 1 + i)) else none))))) :: List.replicate 10 (.inl (cA 0, 10, .inl (fun _ => 0)))) ++ (.inl (cA 4, 11, .inr (.inr (.inr (.inr (fun i => if i < 11 then some (base + (90 + 1 + i)) else none))))) :: List.replicate 11 (.inl (cA 1, 61, .inr (.inl (fun _ => 0))))) ++ (.inl (cA 3, 10, .inr (.inr (.inr (.inr (fun i => if i < 10 then some (base + (102 + 1 + i)) else none))))) :: List.replicate 10 (.inl (cA 0, 61, .inl (fun _ => 0)))) ++ [.inl (cA 0, 10, .inl (fun _ => 0))] : List va_E)
set_option maxHeartbeats 8000000 in
set_option maxRecDepth 100000 in
theorem c_X0_init (l : Launch) (D : va_G) (cA : Nat → ClassId) (base : Nat) (pre : List va_E) : zUT l 2 46 1532 D cA base 67 pre yX0_init cX0_init 3 [.ref (base + 67), .ref (base + 10), .ref (base + 44)] ([.inr (0, [.null, .null, .null, .null, .null, .null, .null])] : List va_E) (fun L2 => L2 = LF_X0 base cA) := by
  refine u_entry rfl rfl (Nat.le_of_ble_eq_true rfl) rfl ?_
  intro Y C Rr hl hD ha9 hb9 hn hp9
  subst hl; subst hD; subst ha9; subst hb9; subst hp9
  have C : zUC Y cX0_init RX0 3 46 1532 2 := C
  refine u_aload_n C dX0_init_0 rfl 0 rfl ?_
  refine u_obj C (by decide) kz_234 (Nat.le_of_ble_eq_true rfl) dX0_init_1 ?_
  refine u_aload_n C dX0_init_4 rfl 0 rfl ?_
  refine u_bipush C (10) dX0_init_5 (by decide) ?_
  refine u_bipush C (10) dX0_init_7 (by decide) ?_
  refine u_mna C (ty := .int) (t := 0) (t2 := 3) (z := (10, .inl (fun _ => 0))) (N := 10) (K' := 10) 68 (Eq.trans (congrArg (fun q => q + _) hn) rfl) rfl rfl (fun _ _ => rfl) (by decide +kernel) (fun _ h => h.1) kz_235 kz_105 (by decide) (by decide) (by decide) (by decide) (by decide) (by decide) (by decide) rfl rfl (fun c => arrV_new c _ _) (by decide) (Nat.le_of_ble_eq_true rfl) dX0_init_9 ?_
  show zU Y _ _ _ _ _ ([.inr (0, [.null, .null, .null, .null, .null, .null, .null])] ++ (.inl (zYa Y 3, 10, .inr (.inr (.inr (.inr (fun i => if i < 10 then some (zYb Y + (68 + 1 + i)) else none))))) :: List.replicate 10 (.inl (zYa Y 0, 10, .inl (fun _ => 0)))) : List va_E)
  refine u_putF C Rr (Cn := RX0) (T := TX0) (N := 7) (ci := 0) (j := 0) (fj := 2) (ty := tyX0 2) (congrArg (fun q => zYb Y + (q + 0)) hn) rfl zin_X0 tyX0 tyX0_ok nmX0 rfl (by decide) kw_f_X0_11 rfl rfl rfl (by decide +kernel) rfl rfl (Nat.le_of_ble_eq_true rfl) dX0_init_13 ?_
  show zU Y _ _ _ _ _ ([.inr (0, [.null, .null, .ref (zYb Y + 68), .null, .null, .null, .null])] ++ (.inl (zYa Y 3, 10, .inr (.inr (.inr (.inr (fun i => if i < 10 then some (zYb Y + (68 + 1 + i)) else none))))) :: List.replicate 10 (.inl (zYa Y 0, 10, .inl (fun _ => 0)))) : List va_E)
  refine u_aload_n C dX0_init_16 rfl 0 rfl ?_
  refine u_bipush C (10) dX0_init_17 (by decide) ?_
  refine u_bipush C (10) dX0_init_19 (by decide) ?_
  refine u_mna C (ty := .int) (t := 0) (t2 := 3) (z := (10, .inl (fun _ => 0))) (N := 10) (K' := 10) 79 (Eq.trans (congrArg (fun q => q + _) hn) rfl) rfl rfl (fun _ _ => rfl) (by decide +kernel) (fun _ h => h.1) kz_235 kz_105 (by decide) (by decide) (by decide) (by decide) (by decide) (by decide) (by decide) rfl rfl (fun c => arrV_new c _ _) (by decide) (Nat.le_of_ble_eq_true rfl) dX0_init_21 ?_
  show zU Y _ _ _ _ _ ([.inr (0, [.null, .null, .ref (zYb Y + 68), .null, .null, .null, .null])] ++ (.inl (zYa Y 3, 10, .inr (.inr (.inr (.inr (fun i => if i < 10 then some (zYb Y + (68 + 1 + i)) else none))))) :: List.replicate 10 (.inl (zYa Y 0, 10, .inl (fun _ => 0)))) ++ (.inl (zYa Y 3, 10, .inr (.inr (.inr (.inr (fun i => if i < 10 then some (zYb Y + (79 + 1 + i)) else none))))) :: List.replicate 10 (.inl (zYa Y 0, 10, .inl (fun _ => 0)))) : List va_E)
  refine u_putF C Rr (Cn := RX0) (T := TX0) (N := 7) (ci := 0) (j := 0) (fj := 3) (ty := tyX0 3) (congrArg (fun q => zYb Y + (q + 0)) hn) rfl zin_X0 tyX0 tyX0_ok nmX0 rfl (by decide) kw_f_X0_16 rfl rfl rfl (by decide +kernel) rfl rfl (Nat.le_of_ble_eq_true rfl) dX0_init_25 ?_
  show zU Y _ _ _ _ _ ([.inr (0, [.null, .null, .ref (zYb Y + 68), .ref (zYb Y + 79), .null, .null, .null])] ++ (.inl (zYa Y 3, 10, .inr (.inr (.inr (.inr (fun i => if i < 10 then some (zYb Y + (68 + 1 + i)) else none))))) :: List.replicate 10 (.inl (zYa Y 0, 10, .inl (fun _ => 0)))) ++ (.inl (zYa Y 3, 10, .inr (.inr (.inr (.inr (fun i => if i < 10 then some (zYb Y + (79 + 1 + i)) else none))))) :: List.replicate 10 (.inl (zYa Y 0, 10, .inl (fun _ => 0)))) : List va_E)
  refine u_aload_n C dX0_init_28 rfl 0 rfl ?_
  refine u_bipush C (11) dX0_init_29 (by decide) ?_
  refine u_bipush C (61) dX0_init_31 (by decide) ?_
  refine u_mna C (ty := .long) (t := 1) (t2 := 4) (z := (61, .inr (.inl (fun _ => 0)))) (N := 11) (K' := 61) 90 (Eq.trans (congrArg (fun q => q + _) hn) rfl) rfl rfl (fun _ _ => rfl) (by decide +kernel) (fun _ h => h.2) kz_236 kz_106 (by decide) (by decide) (by decide) (by decide) (by decide) (by decide) (by decide) rfl rfl (fun c => arrV_new c _ _) (by decide) (Nat.le_of_ble_eq_true rfl) dX0_init_33 ?_
  show zU Y _ _ _ _ _ ([.inr (0, [.null, .null, .ref (zYb Y + 68), .ref (zYb Y + 79), .null, .null, .null])] ++ (.inl (zYa Y 3, 10, .inr (.inr (.inr (.inr (fun i => if i < 10 then some (zYb Y + (68 + 1 + i)) else none))))) :: List.replicate 10 (.inl (zYa Y 0, 10, .inl (fun _ => 0)))) ++ (.inl (zYa Y 3, 10, .inr (.inr (.inr (.inr (fun i => if i < 10 then some (zYb Y + (79 + 1 + i)) else none))))) :: List.replicate 10 (.inl (zYa Y 0, 10, .inl (fun _ => 0)))) ++ (.inl (zYa Y 4, 11, .inr (.inr (.inr (.inr (fun i => if i < 11 then some (zYb Y + (90 + 1 + i)) else none))))) :: List.replicate 11 (.inl (zYa Y 1, 61, .inr (.inl (fun _ => 0))))) : List va_E)
  refine u_putF C Rr (Cn := RX0) (T := TX0) (N := 7) (ci := 0) (j := 0) (fj := 4) (ty := tyX0 4) (congrArg (fun q => zYb Y + (q + 0)) hn) rfl zin_X0 tyX0 tyX0_ok nmX0 rfl (by decide) kw_f_X0_21 rfl rfl rfl (by decide +kernel) rfl rfl (Nat.le_of_ble_eq_true rfl) dX0_init_37 ?_
  show zU Y _ _ _ _ _ ([.inr (0, [.null, .null, .ref (zYb Y + 68), .ref (zYb Y + 79), .ref (zYb Y + 90), .null, .null])] ++ (.inl (zYa Y 3, 10, .inr (.inr (.inr (.inr (fun i => if i < 10 then some (zYb Y + (68 + 1 + i)) else none))))) :: List.replicate 10 (.inl (zYa Y 0, 10, .inl (fun _ => 0)))) ++ (.inl (zYa Y 3, 10, .inr (.inr (.inr (.inr (fun i => if i < 10 then some (zYb Y + (79 + 1 + i)) else none))))) :: List.replicate 10 (.inl (zYa Y 0, 10, .inl (fun _ => 0)))) ++ (.inl (zYa Y 4, 11, .inr (.inr (.inr (.inr (fun i => if i < 11 then some (zYb Y + (90 + 1 + i)) else none))))) :: List.replicate 11 (.inl (zYa Y 1, 61, .inr (.inl (fun _ => 0))))) : List va_E)
  refine u_aload_n C dX0_init_40 rfl 0 rfl ?_
  refine u_bipush C (10) dX0_init_41 (by decide) ?_
  refine u_bipush C (61) dX0_init_43 (by decide) ?_
  refine u_mna C (ty := .int) (t := 0) (t2 := 3) (z := (61, .inl (fun _ => 0))) (N := 10) (K' := 61) 102 (Eq.trans (congrArg (fun q => q + _) hn) rfl) rfl rfl (fun _ _ => rfl) (by decide +kernel) (fun _ h => h.1) kz_235 kz_105 (by decide) (by decide) (by decide) (by decide) (by decide) (by decide) (by decide) rfl rfl (fun c => arrV_new c _ _) (by decide) (Nat.le_of_ble_eq_true rfl) dX0_init_45 ?_
  show zU Y _ _ _ _ _ ([.inr (0, [.null, .null, .ref (zYb Y + 68), .ref (zYb Y + 79), .ref (zYb Y + 90), .null, .null])] ++ (.inl (zYa Y 3, 10, .inr (.inr (.inr (.inr (fun i => if i < 10 then some (zYb Y + (68 + 1 + i)) else none))))) :: List.replicate 10 (.inl (zYa Y 0, 10, .inl (fun _ => 0)))) ++ (.inl (zYa Y 3, 10, .inr (.inr (.inr (.inr (fun i => if i < 10 then some (zYb Y + (79 + 1 + i)) else none))))) :: List.replicate 10 (.inl (zYa Y 0, 10, .inl (fun _ => 0)))) ++ (.inl (zYa Y 4, 11, .inr (.inr (.inr (.inr (fun i => if i < 11 then some (zYb Y + (90 + 1 + i)) else none))))) :: List.replicate 11 (.inl (zYa Y 1, 61, .inr (.inl (fun _ => 0))))) ++ (.inl (zYa Y 3, 10, .inr (.inr (.inr (.inr (fun i => if i < 10 then some (zYb Y + (102 + 1 + i)) else none))))) :: List.replicate 10 (.inl (zYa Y 0, 61, .inl (fun _ => 0)))) : List va_E)
  refine u_putF C Rr (Cn := RX0) (T := TX0) (N := 7) (ci := 0) (j := 0) (fj := 5) (ty := tyX0 5) (congrArg (fun q => zYb Y + (q + 0)) hn) rfl zin_X0 tyX0 tyX0_ok nmX0 rfl (by decide) kw_f_X0_24 rfl rfl rfl (by decide +kernel) rfl rfl (Nat.le_of_ble_eq_true rfl) dX0_init_49 ?_
  show zU Y _ _ _ _ _ ([.inr (0, [.null, .null, .ref (zYb Y + 68), .ref (zYb Y + 79), .ref (zYb Y + 90), .ref (zYb Y + 102), .null])] ++ (.inl (zYa Y 3, 10, .inr (.inr (.inr (.inr (fun i => if i < 10 then some (zYb Y + (68 + 1 + i)) else none))))) :: List.replicate 10 (.inl (zYa Y 0, 10, .inl (fun _ => 0)))) ++ (.inl (zYa Y 3, 10, .inr (.inr (.inr (.inr (fun i => if i < 10 then some (zYb Y + (79 + 1 + i)) else none))))) :: List.replicate 10 (.inl (zYa Y 0, 10, .inl (fun _ => 0)))) ++ (.inl (zYa Y 4, 11, .inr (.inr (.inr (.inr (fun i => if i < 11 then some (zYb Y + (90 + 1 + i)) else none))))) :: List.replicate 11 (.inl (zYa Y 1, 61, .inr (.inl (fun _ => 0))))) ++ (.inl (zYa Y 3, 10, .inr (.inr (.inr (.inr (fun i => if i < 10 then some (zYb Y + (102 + 1 + i)) else none))))) :: List.replicate 10 (.inl (zYa Y 0, 61, .inl (fun _ => 0)))) : List va_E)
  refine u_aload_n C dX0_init_52 rfl 0 rfl ?_
  refine u_bipush C (10) dX0_init_53 (by decide) ?_
  refine u_newa C (ty := .int) (t := 0) (a0 := (10, .inl (fun _ => 0))) (N := 10) 113 (Eq.trans (congrArg (fun q => q + _) hn) rfl) rfl rfl (fun _ _ => rfl) (fun _ => rfl) kz_105 (by decide) (by decide) (Nat.le_of_ble_eq_true rfl) (by decide) (Nat.le_of_ble_eq_true rfl) dX0_init_55 ?_
  show zU Y _ _ _ _ _ ([.inr (0, [.null, .null, .ref (zYb Y + 68), .ref (zYb Y + 79), .ref (zYb Y + 90), .ref (zYb Y + 102), .null])] ++ (.inl (zYa Y 3, 10, .inr (.inr (.inr (.inr (fun i => if i < 10 then some (zYb Y + (68 + 1 + i)) else none))))) :: List.replicate 10 (.inl (zYa Y 0, 10, .inl (fun _ => 0)))) ++ (.inl (zYa Y 3, 10, .inr (.inr (.inr (.inr (fun i => if i < 10 then some (zYb Y + (79 + 1 + i)) else none))))) :: List.replicate 10 (.inl (zYa Y 0, 10, .inl (fun _ => 0)))) ++ (.inl (zYa Y 4, 11, .inr (.inr (.inr (.inr (fun i => if i < 11 then some (zYb Y + (90 + 1 + i)) else none))))) :: List.replicate 11 (.inl (zYa Y 1, 61, .inr (.inl (fun _ => 0))))) ++ (.inl (zYa Y 3, 10, .inr (.inr (.inr (.inr (fun i => if i < 10 then some (zYb Y + (102 + 1 + i)) else none))))) :: List.replicate 10 (.inl (zYa Y 0, 61, .inl (fun _ => 0)))) ++ [.inl (zYa Y 0, 10, .inl (fun _ => 0))] : List va_E)
  refine u_putF C Rr (Cn := RX0) (T := TX0) (N := 7) (ci := 0) (j := 0) (fj := 6) (ty := tyX0 6) (congrArg (fun q => zYb Y + (q + 0)) hn) rfl zin_X0 tyX0 tyX0_ok nmX0 rfl (by decide) kw_f_X0_27 rfl rfl rfl (by decide +kernel) rfl rfl (Nat.le_of_ble_eq_true rfl) dX0_init_57 ?_
  show zU Y _ _ _ _ _ ([.inr (0, [.null, .null, .ref (zYb Y + 68), .ref (zYb Y + 79), .ref (zYb Y + 90), .ref (zYb Y + 102), .ref (zYb Y + 113)])] ++ (.inl (zYa Y 3, 10, .inr (.inr (.inr (.inr (fun i => if i < 10 then some (zYb Y + (68 + 1 + i)) else none))))) :: List.replicate 10 (.inl (zYa Y 0, 10, .inl (fun _ => 0)))) ++ (.inl (zYa Y 3, 10, .inr (.inr (.inr (.inr (fun i => if i < 10 then some (zYb Y + (79 + 1 + i)) else none))))) :: List.replicate 10 (.inl (zYa Y 0, 10, .inl (fun _ => 0)))) ++ (.inl (zYa Y 4, 11, .inr (.inr (.inr (.inr (fun i => if i < 11 then some (zYb Y + (90 + 1 + i)) else none))))) :: List.replicate 11 (.inl (zYa Y 1, 61, .inr (.inl (fun _ => 0))))) ++ (.inl (zYa Y 3, 10, .inr (.inr (.inr (.inr (fun i => if i < 10 then some (zYb Y + (102 + 1 + i)) else none))))) :: List.replicate 10 (.inl (zYa Y 0, 61, .inl (fun _ => 0)))) ++ [.inl (zYa Y 0, 10, .inl (fun _ => 0))] : List va_E)
  refine u_aload_n C dX0_init_60 rfl 0 rfl ?_
  refine u_aload_n C dX0_init_61 rfl 1 rfl ?_
  refine u_putF C Rr (Cn := RX0) (T := TX0) (N := 7) (ci := 0) (j := 0) (fj := 0) (ty := tyX0 0) (congrArg (fun q => zYb Y + (q + 0)) hn) rfl zin_X0 tyX0 tyX0_ok nmX0 rfl (by decide) kw_f_X0_31 rfl rfl rfl (by decide +kernel) rfl rfl (Nat.le_of_ble_eq_true rfl) dX0_init_62 ?_
  show zU Y _ _ _ _ _ ([.inr (0, [.ref (zYb Y + 10), .null, .ref (zYb Y + 68), .ref (zYb Y + 79), .ref (zYb Y + 90), .ref (zYb Y + 102), .ref (zYb Y + 113)])] ++ (.inl (zYa Y 3, 10, .inr (.inr (.inr (.inr (fun i => if i < 10 then some (zYb Y + (68 + 1 + i)) else none))))) :: List.replicate 10 (.inl (zYa Y 0, 10, .inl (fun _ => 0)))) ++ (.inl (zYa Y 3, 10, .inr (.inr (.inr (.inr (fun i => if i < 10 then some (zYb Y + (79 + 1 + i)) else none))))) :: List.replicate 10 (.inl (zYa Y 0, 10, .inl (fun _ => 0)))) ++ (.inl (zYa Y 4, 11, .inr (.inr (.inr (.inr (fun i => if i < 11 then some (zYb Y + (90 + 1 + i)) else none))))) :: List.replicate 11 (.inl (zYa Y 1, 61, .inr (.inl (fun _ => 0))))) ++ (.inl (zYa Y 3, 10, .inr (.inr (.inr (.inr (fun i => if i < 10 then some (zYb Y + (102 + 1 + i)) else none))))) :: List.replicate 10 (.inl (zYa Y 0, 61, .inl (fun _ => 0)))) ++ [.inl (zYa Y 0, 10, .inl (fun _ => 0))] : List va_E)
  refine u_aload_n C dX0_init_65 rfl 0 rfl ?_
  refine u_aload_n C dX0_init_66 rfl 2 rfl ?_
  refine u_putF C Rr (Cn := RX0) (T := TX0) (N := 7) (ci := 0) (j := 0) (fj := 1) (ty := tyX0 1) (congrArg (fun q => zYb Y + (q + 0)) hn) rfl zin_X0 tyX0 tyX0_ok nmX0 rfl (by decide) kw_f_X0_35 rfl rfl rfl (by decide +kernel) rfl rfl (Nat.le_of_ble_eq_true rfl) dX0_init_67 ?_
  show zU Y _ _ _ _ _ ([.inr (0, [.ref (zYb Y + 10), .ref (zYb Y + 44), .ref (zYb Y + 68), .ref (zYb Y + 79), .ref (zYb Y + 90), .ref (zYb Y + 102), .ref (zYb Y + 113)])] ++ (.inl (zYa Y 3, 10, .inr (.inr (.inr (.inr (fun i => if i < 10 then some (zYb Y + (68 + 1 + i)) else none))))) :: List.replicate 10 (.inl (zYa Y 0, 10, .inl (fun _ => 0)))) ++ (.inl (zYa Y 3, 10, .inr (.inr (.inr (.inr (fun i => if i < 10 then some (zYb Y + (79 + 1 + i)) else none))))) :: List.replicate 10 (.inl (zYa Y 0, 10, .inl (fun _ => 0)))) ++ (.inl (zYa Y 4, 11, .inr (.inr (.inr (.inr (fun i => if i < 11 then some (zYb Y + (90 + 1 + i)) else none))))) :: List.replicate 11 (.inl (zYa Y 1, 61, .inr (.inl (fun _ => 0))))) ++ (.inl (zYa Y 3, 10, .inr (.inr (.inr (.inr (fun i => if i < 10 then some (zYb Y + (102 + 1 + i)) else none))))) :: List.replicate 10 (.inl (zYa Y 0, 61, .inl (fun _ => 0)))) ++ [.inl (zYa Y 0, 10, .inl (fun _ => 0))] : List va_E)
  exact u_vret C Rr rfl (Nat.le_of_ble_eq_true rfl) (Nat.le_of_ble_eq_true rfl) dX0_init_70
def LF_X4 (base : Nat) (cA : Nat → ClassId)  : List va_E := ([.inr (4, [.int (0 : Int32), .ref (base + 115), .ref (base + 116), .ref (base + 157), .ref (base + 198), .ref (base + 239)]), .inl (cA 0, 40, .inl (fun _ => 0))] ++ (.inl (cA 3, 40, .inr (.inr (.inr (.inr (fun i => if i < 40 then some (base + (116 + 1 + i)) else none))))) :: List.replicate 40 (.inl (cA 0, 40, .inl (fun _ => 0)))) ++ (.inl (cA 3, 40, .inr (.inr (.inr (.inr (fun i => if i < 40 then some (base + (157 + 1 + i)) else none))))) :: List.replicate 40 (.inl (cA 0, 3, .inl (fun _ => 0)))) ++ (.inl (cA 3, 40, .inr (.inr (.inr (.inr (fun i => if i < 40 then some (base + (198 + 1 + i)) else none))))) :: List.replicate 40 (.inl (cA 0, 10, .inl (fun _ => 0)))) ++ (.inl (cA 4, 40, .inr (.inr (.inr (.inr (fun i => if i < 40 then some (base + (239 + 1 + i)) else none))))) :: List.replicate 40 (.inl (cA 1, 10, .inr (.inl (fun _ => 0))))) : List va_E)
set_option maxHeartbeats 8000000 in
set_option maxRecDepth 100000 in
theorem c_X4_init (l : Launch) (D : va_G) (cA : Nat → ClassId) (base : Nat) (pre : List va_E) : zUT l 2 165 2720 D cA base 114 pre yX4_init cX4_init 1 [.ref (base + 114)] ([.inr (4, [.int 0, .null, .null, .null, .null, .null])] : List va_E) (fun L2 => L2 = LF_X4 base cA) := by
  refine u_entry rfl rfl (Nat.le_of_ble_eq_true rfl) rfl ?_
  intro Y C Rr hl hD ha9 hb9 hn hp9
  subst hl; subst hD; subst ha9; subst hb9; subst hp9
  have C : zUC Y cX4_init RX4 1 165 2720 2 := C
  refine u_aload_n C dX4_init_0 rfl 0 rfl ?_
  refine u_obj C (by decide) kz_267 (Nat.le_of_ble_eq_true rfl) dX4_init_1 ?_
  refine u_aload_n C dX4_init_4 rfl 0 rfl ?_
  refine u_iconst C (0) dX4_init_5 (by decide) ?_
  refine u_put C (Cn := RX4) (T := TX4) (N := 6) (ci := 4) (j := 0) (fj := 0) (ty := tyX4 0) (congrArg (fun q => zYb Y + (q + 0)) hn) rfl zin_X4 tyX4 tyX4_ok nmX4 rfl (by decide) kw_f_X4_9 rfl rfl (by decide +kernel) rfl rfl (Nat.le_of_ble_eq_true rfl) dX4_init_6 ?_
  show zU Y _ _ _ _ _ ([.inr (4, [.int (0 : Int32), .null, .null, .null, .null, .null])] : List va_E)
  refine u_aload_n C dX4_init_9 rfl 0 rfl ?_
  refine u_bipush C (40) dX4_init_10 (by decide) ?_
  refine u_newa C (ty := .int) (t := 0) (a0 := (40, .inl (fun _ => 0))) (N := 40) 115 (Eq.trans (congrArg (fun q => q + _) hn) rfl) rfl rfl (fun _ _ => rfl) (fun _ => rfl) kz_105 (by decide) (by decide) (Nat.le_of_ble_eq_true rfl) (by decide) (Nat.le_of_ble_eq_true rfl) dX4_init_12 ?_
  show zU Y _ _ _ _ _ ([.inr (4, [.int (0 : Int32), .null, .null, .null, .null, .null]), .inl (zYa Y 0, 40, .inl (fun _ => 0))] : List va_E)
  refine u_putF C Rr (Cn := RX4) (T := TX4) (N := 6) (ci := 4) (j := 0) (fj := 1) (ty := tyX4 1) (congrArg (fun q => zYb Y + (q + 0)) hn) rfl zin_X4 tyX4 tyX4_ok nmX4 rfl (by decide) kw_f_X4_15 rfl rfl rfl (by decide +kernel) rfl rfl (Nat.le_of_ble_eq_true rfl) dX4_init_14 ?_
  show zU Y _ _ _ _ _ ([.inr (4, [.int (0 : Int32), .ref (zYb Y + 115), .null, .null, .null, .null]), .inl (zYa Y 0, 40, .inl (fun _ => 0))] : List va_E)
  refine u_aload_n C dX4_init_17 rfl 0 rfl ?_
  refine u_bipush C (40) dX4_init_18 (by decide) ?_
  refine u_bipush C (40) dX4_init_20 (by decide) ?_
  refine u_mna C (ty := .int) (t := 0) (t2 := 3) (z := (40, .inl (fun _ => 0))) (N := 40) (K' := 40) 116 (Eq.trans (congrArg (fun q => q + _) hn) rfl) rfl rfl (fun _ _ => rfl) (by decide +kernel) (fun _ h => h.1) kz_268 kz_105 (by decide) (by decide) (by decide) (by decide) (by decide) (by decide) (by decide) rfl rfl (fun c => arrV_new c _ _) (by decide) (Nat.le_of_ble_eq_true rfl) dX4_init_22 ?_
  show zU Y _ _ _ _ _ ([.inr (4, [.int (0 : Int32), .ref (zYb Y + 115), .null, .null, .null, .null]), .inl (zYa Y 0, 40, .inl (fun _ => 0))] ++ (.inl (zYa Y 3, 40, .inr (.inr (.inr (.inr (fun i => if i < 40 then some (zYb Y + (116 + 1 + i)) else none))))) :: List.replicate 40 (.inl (zYa Y 0, 40, .inl (fun _ => 0)))) : List va_E)
  refine u_putF C Rr (Cn := RX4) (T := TX4) (N := 6) (ci := 4) (j := 0) (fj := 2) (ty := tyX4 2) (congrArg (fun q => zYb Y + (q + 0)) hn) rfl zin_X4 tyX4 tyX4_ok nmX4 rfl (by decide) kw_f_X4_21 rfl rfl rfl (by decide +kernel) rfl rfl (Nat.le_of_ble_eq_true rfl) dX4_init_26 ?_
  show zU Y _ _ _ _ _ ([.inr (4, [.int (0 : Int32), .ref (zYb Y + 115), .ref (zYb Y + 116), .null, .null, .null]), .inl (zYa Y 0, 40, .inl (fun _ => 0))] ++ (.inl (zYa Y 3, 40, .inr (.inr (.inr (.inr (fun i => if i < 40 then some (zYb Y + (116 + 1 + i)) else none))))) :: List.replicate 40 (.inl (zYa Y 0, 40, .inl (fun _ => 0)))) : List va_E)
  refine u_aload_n C dX4_init_29 rfl 0 rfl ?_
  refine u_bipush C (40) dX4_init_30 (by decide) ?_
  refine u_iconst C (3) dX4_init_32 (by decide) ?_
  refine u_mna C (ty := .int) (t := 0) (t2 := 3) (z := (3, .inl (fun _ => 0))) (N := 40) (K' := 3) 157 (Eq.trans (congrArg (fun q => q + _) hn) rfl) rfl rfl (fun _ _ => rfl) (by decide +kernel) (fun _ h => h.1) kz_268 kz_105 (by decide) (by decide) (by decide) (by decide) (by decide) (by decide) (by decide) rfl rfl (fun c => arrV_new c _ _) (by decide) (Nat.le_of_ble_eq_true rfl) dX4_init_33 ?_
  show zU Y _ _ _ _ _ ([.inr (4, [.int (0 : Int32), .ref (zYb Y + 115), .ref (zYb Y + 116), .null, .null, .null]), .inl (zYa Y 0, 40, .inl (fun _ => 0))] ++ (.inl (zYa Y 3, 40, .inr (.inr (.inr (.inr (fun i => if i < 40 then some (zYb Y + (116 + 1 + i)) else none))))) :: List.replicate 40 (.inl (zYa Y 0, 40, .inl (fun _ => 0)))) ++ (.inl (zYa Y 3, 40, .inr (.inr (.inr (.inr (fun i => if i < 40 then some (zYb Y + (157 + 1 + i)) else none))))) :: List.replicate 40 (.inl (zYa Y 0, 3, .inl (fun _ => 0)))) : List va_E)
  refine u_putF C Rr (Cn := RX4) (T := TX4) (N := 6) (ci := 4) (j := 0) (fj := 3) (ty := tyX4 3) (congrArg (fun q => zYb Y + (q + 0)) hn) rfl zin_X4 tyX4 tyX4_ok nmX4 rfl (by decide) kw_f_X4_24 rfl rfl rfl (by decide +kernel) rfl rfl (Nat.le_of_ble_eq_true rfl) dX4_init_37 ?_
  show zU Y _ _ _ _ _ ([.inr (4, [.int (0 : Int32), .ref (zYb Y + 115), .ref (zYb Y + 116), .ref (zYb Y + 157), .null, .null]), .inl (zYa Y 0, 40, .inl (fun _ => 0))] ++ (.inl (zYa Y 3, 40, .inr (.inr (.inr (.inr (fun i => if i < 40 then some (zYb Y + (116 + 1 + i)) else none))))) :: List.replicate 40 (.inl (zYa Y 0, 40, .inl (fun _ => 0)))) ++ (.inl (zYa Y 3, 40, .inr (.inr (.inr (.inr (fun i => if i < 40 then some (zYb Y + (157 + 1 + i)) else none))))) :: List.replicate 40 (.inl (zYa Y 0, 3, .inl (fun _ => 0)))) : List va_E)
  refine u_aload_n C dX4_init_40 rfl 0 rfl ?_
  refine u_bipush C (40) dX4_init_41 (by decide) ?_
  refine u_bipush C (10) dX4_init_43 (by decide) ?_
  refine u_mna C (ty := .int) (t := 0) (t2 := 3) (z := (10, .inl (fun _ => 0))) (N := 40) (K' := 10) 198 (Eq.trans (congrArg (fun q => q + _) hn) rfl) rfl rfl (fun _ _ => rfl) (by decide +kernel) (fun _ h => h.1) kz_268 kz_105 (by decide) (by decide) (by decide) (by decide) (by decide) (by decide) (by decide) rfl rfl (fun c => arrV_new c _ _) (by decide) (Nat.le_of_ble_eq_true rfl) dX4_init_45 ?_
  show zU Y _ _ _ _ _ ([.inr (4, [.int (0 : Int32), .ref (zYb Y + 115), .ref (zYb Y + 116), .ref (zYb Y + 157), .null, .null]), .inl (zYa Y 0, 40, .inl (fun _ => 0))] ++ (.inl (zYa Y 3, 40, .inr (.inr (.inr (.inr (fun i => if i < 40 then some (zYb Y + (116 + 1 + i)) else none))))) :: List.replicate 40 (.inl (zYa Y 0, 40, .inl (fun _ => 0)))) ++ (.inl (zYa Y 3, 40, .inr (.inr (.inr (.inr (fun i => if i < 40 then some (zYb Y + (157 + 1 + i)) else none))))) :: List.replicate 40 (.inl (zYa Y 0, 3, .inl (fun _ => 0)))) ++ (.inl (zYa Y 3, 40, .inr (.inr (.inr (.inr (fun i => if i < 40 then some (zYb Y + (198 + 1 + i)) else none))))) :: List.replicate 40 (.inl (zYa Y 0, 10, .inl (fun _ => 0)))) : List va_E)
  refine u_putF C Rr (Cn := RX4) (T := TX4) (N := 6) (ci := 4) (j := 0) (fj := 4) (ty := tyX4 4) (congrArg (fun q => zYb Y + (q + 0)) hn) rfl zin_X4 tyX4 tyX4_ok nmX4 rfl (by decide) kw_f_X4_27 rfl rfl rfl (by decide +kernel) rfl rfl (Nat.le_of_ble_eq_true rfl) dX4_init_49 ?_
  show zU Y _ _ _ _ _ ([.inr (4, [.int (0 : Int32), .ref (zYb Y + 115), .ref (zYb Y + 116), .ref (zYb Y + 157), .ref (zYb Y + 198), .null]), .inl (zYa Y 0, 40, .inl (fun _ => 0))] ++ (.inl (zYa Y 3, 40, .inr (.inr (.inr (.inr (fun i => if i < 40 then some (zYb Y + (116 + 1 + i)) else none))))) :: List.replicate 40 (.inl (zYa Y 0, 40, .inl (fun _ => 0)))) ++ (.inl (zYa Y 3, 40, .inr (.inr (.inr (.inr (fun i => if i < 40 then some (zYb Y + (157 + 1 + i)) else none))))) :: List.replicate 40 (.inl (zYa Y 0, 3, .inl (fun _ => 0)))) ++ (.inl (zYa Y 3, 40, .inr (.inr (.inr (.inr (fun i => if i < 40 then some (zYb Y + (198 + 1 + i)) else none))))) :: List.replicate 40 (.inl (zYa Y 0, 10, .inl (fun _ => 0)))) : List va_E)
  refine u_aload_n C dX4_init_52 rfl 0 rfl ?_
  refine u_bipush C (40) dX4_init_53 (by decide) ?_
  refine u_bipush C (10) dX4_init_55 (by decide) ?_
  refine u_mna C (ty := .long) (t := 1) (t2 := 4) (z := (10, .inr (.inl (fun _ => 0)))) (N := 40) (K' := 10) 239 (Eq.trans (congrArg (fun q => q + _) hn) rfl) rfl rfl (fun _ _ => rfl) (by decide +kernel) (fun _ h => h.2) kz_269 kz_106 (by decide) (by decide) (by decide) (by decide) (by decide) (by decide) (by decide) rfl rfl (fun c => arrV_new c _ _) (by decide) (Nat.le_of_ble_eq_true rfl) dX4_init_57 ?_
  show zU Y _ _ _ _ _ ([.inr (4, [.int (0 : Int32), .ref (zYb Y + 115), .ref (zYb Y + 116), .ref (zYb Y + 157), .ref (zYb Y + 198), .null]), .inl (zYa Y 0, 40, .inl (fun _ => 0))] ++ (.inl (zYa Y 3, 40, .inr (.inr (.inr (.inr (fun i => if i < 40 then some (zYb Y + (116 + 1 + i)) else none))))) :: List.replicate 40 (.inl (zYa Y 0, 40, .inl (fun _ => 0)))) ++ (.inl (zYa Y 3, 40, .inr (.inr (.inr (.inr (fun i => if i < 40 then some (zYb Y + (157 + 1 + i)) else none))))) :: List.replicate 40 (.inl (zYa Y 0, 3, .inl (fun _ => 0)))) ++ (.inl (zYa Y 3, 40, .inr (.inr (.inr (.inr (fun i => if i < 40 then some (zYb Y + (198 + 1 + i)) else none))))) :: List.replicate 40 (.inl (zYa Y 0, 10, .inl (fun _ => 0)))) ++ (.inl (zYa Y 4, 40, .inr (.inr (.inr (.inr (fun i => if i < 40 then some (zYb Y + (239 + 1 + i)) else none))))) :: List.replicate 40 (.inl (zYa Y 1, 10, .inr (.inl (fun _ => 0))))) : List va_E)
  refine u_putF C Rr (Cn := RX4) (T := TX4) (N := 6) (ci := 4) (j := 0) (fj := 5) (ty := tyX4 5) (congrArg (fun q => zYb Y + (q + 0)) hn) rfl zin_X4 tyX4 tyX4_ok nmX4 rfl (by decide) kw_f_X4_32 rfl rfl rfl (by decide +kernel) rfl rfl (Nat.le_of_ble_eq_true rfl) dX4_init_61 ?_
  show zU Y _ _ _ _ _ ([.inr (4, [.int (0 : Int32), .ref (zYb Y + 115), .ref (zYb Y + 116), .ref (zYb Y + 157), .ref (zYb Y + 198), .ref (zYb Y + 239)]), .inl (zYa Y 0, 40, .inl (fun _ => 0))] ++ (.inl (zYa Y 3, 40, .inr (.inr (.inr (.inr (fun i => if i < 40 then some (zYb Y + (116 + 1 + i)) else none))))) :: List.replicate 40 (.inl (zYa Y 0, 40, .inl (fun _ => 0)))) ++ (.inl (zYa Y 3, 40, .inr (.inr (.inr (.inr (fun i => if i < 40 then some (zYb Y + (157 + 1 + i)) else none))))) :: List.replicate 40 (.inl (zYa Y 0, 3, .inl (fun _ => 0)))) ++ (.inl (zYa Y 3, 40, .inr (.inr (.inr (.inr (fun i => if i < 40 then some (zYb Y + (198 + 1 + i)) else none))))) :: List.replicate 40 (.inl (zYa Y 0, 10, .inl (fun _ => 0)))) ++ (.inl (zYa Y 4, 40, .inr (.inr (.inr (.inr (fun i => if i < 40 then some (zYb Y + (239 + 1 + i)) else none))))) :: List.replicate 40 (.inl (zYa Y 1, 10, .inr (.inl (fun _ => 0))))) : List va_E)
  exact u_vret C Rr rfl (Nat.le_of_ble_eq_true rfl) (Nat.le_of_ble_eq_true rfl) dX4_init_64
def LF_X2 (base : Nat) (cA : Nat → ClassId)  : List va_E := ([.inr (2, [.ref (base + 281), .ref (base + 282), .ref (base + 293)]), .inl (cA 0, 10, .inl (fun _ => 0))] ++ (.inl (cA 3, 10, .inr (.inr (.inr (.inr (fun i => if i < 10 then some (base + (282 + 1 + i)) else none))))) :: List.replicate 10 (.inl (cA 0, 10, .inl (fun _ => 0)))) ++ (.inl (cA 3, 10, .inr (.inr (.inr (.inr (fun i => if i < 10 then some (base + (293 + 1 + i)) else none))))) :: List.replicate 10 (.inl (cA 0, 10, .inl (fun _ => 0)))) : List va_E)
set_option maxHeartbeats 8000000 in
set_option maxRecDepth 100000 in
theorem c_X2_init (l : Launch) (D : va_G) (cA : Nat → ClassId) (base : Nat) (pre : List va_E) : zUT l 2 23 230 D cA base 280 pre yX2_init cX2_init 1 [.ref (base + 280)] ([.inr (2, [.null, .null, .null])] : List va_E) (fun L2 => L2 = LF_X2 base cA) := by
  refine u_entry rfl rfl (Nat.le_of_ble_eq_true rfl) rfl ?_
  intro Y C Rr hl hD ha9 hb9 hn hp9
  subst hl; subst hD; subst ha9; subst hb9; subst hp9
  have C : zUC Y cX2_init RX2 1 23 230 2 := C
  refine u_aload_n C dX2_init_0 rfl 0 rfl ?_
  refine u_obj C (by decide) kz_298 (Nat.le_of_ble_eq_true rfl) dX2_init_1 ?_
  refine u_aload_n C dX2_init_4 rfl 0 rfl ?_
  refine u_bipush C (10) dX2_init_5 (by decide) ?_
  refine u_newa C (ty := .int) (t := 0) (a0 := (10, .inl (fun _ => 0))) (N := 10) 281 (Eq.trans (congrArg (fun q => q + _) hn) rfl) rfl rfl (fun _ _ => rfl) (fun _ => rfl) kz_105 (by decide) (by decide) (Nat.le_of_ble_eq_true rfl) (by decide) (Nat.le_of_ble_eq_true rfl) dX2_init_7 ?_
  show zU Y _ _ _ _ _ ([.inr (2, [.null, .null, .null]), .inl (zYa Y 0, 10, .inl (fun _ => 0))] : List va_E)
  refine u_putF C Rr (Cn := RX2) (T := TX2) (N := 3) (ci := 2) (j := 0) (fj := 0) (ty := tyX2 0) (congrArg (fun q => zYb Y + (q + 0)) hn) rfl zin_X2 tyX2 tyX2_ok nmX2 rfl (by decide) kw_f_X2_9 rfl rfl rfl (by decide +kernel) rfl rfl (Nat.le_of_ble_eq_true rfl) dX2_init_9 ?_
  show zU Y _ _ _ _ _ ([.inr (2, [.ref (zYb Y + 281), .null, .null]), .inl (zYa Y 0, 10, .inl (fun _ => 0))] : List va_E)
  refine u_aload_n C dX2_init_12 rfl 0 rfl ?_
  refine u_bipush C (10) dX2_init_13 (by decide) ?_
  refine u_bipush C (10) dX2_init_15 (by decide) ?_
  refine u_mna C (ty := .int) (t := 0) (t2 := 3) (z := (10, .inl (fun _ => 0))) (N := 10) (K' := 10) 282 (Eq.trans (congrArg (fun q => q + _) hn) rfl) rfl rfl (fun _ _ => rfl) (by decide +kernel) (fun _ h => h.1) kz_299 kz_105 (by decide) (by decide) (by decide) (by decide) (by decide) (by decide) (by decide) rfl rfl (fun c => arrV_new c _ _) (by decide) (Nat.le_of_ble_eq_true rfl) dX2_init_17 ?_
  show zU Y _ _ _ _ _ ([.inr (2, [.ref (zYb Y + 281), .null, .null]), .inl (zYa Y 0, 10, .inl (fun _ => 0))] ++ (.inl (zYa Y 3, 10, .inr (.inr (.inr (.inr (fun i => if i < 10 then some (zYb Y + (282 + 1 + i)) else none))))) :: List.replicate 10 (.inl (zYa Y 0, 10, .inl (fun _ => 0)))) : List va_E)
  refine u_putF C Rr (Cn := RX2) (T := TX2) (N := 3) (ci := 2) (j := 0) (fj := 1) (ty := tyX2 1) (congrArg (fun q => zYb Y + (q + 0)) hn) rfl zin_X2 tyX2 tyX2_ok nmX2 rfl (by decide) kw_f_X2_17 rfl rfl rfl (by decide +kernel) rfl rfl (Nat.le_of_ble_eq_true rfl) dX2_init_21 ?_
  show zU Y _ _ _ _ _ ([.inr (2, [.ref (zYb Y + 281), .ref (zYb Y + 282), .null]), .inl (zYa Y 0, 10, .inl (fun _ => 0))] ++ (.inl (zYa Y 3, 10, .inr (.inr (.inr (.inr (fun i => if i < 10 then some (zYb Y + (282 + 1 + i)) else none))))) :: List.replicate 10 (.inl (zYa Y 0, 10, .inl (fun _ => 0)))) : List va_E)
  refine u_aload_n C dX2_init_24 rfl 0 rfl ?_
  refine u_bipush C (10) dX2_init_25 (by decide) ?_
  refine u_bipush C (10) dX2_init_27 (by decide) ?_
  refine u_mna C (ty := .int) (t := 0) (t2 := 3) (z := (10, .inl (fun _ => 0))) (N := 10) (K' := 10) 293 (Eq.trans (congrArg (fun q => q + _) hn) rfl) rfl rfl (fun _ _ => rfl) (by decide +kernel) (fun _ h => h.1) kz_299 kz_105 (by decide) (by decide) (by decide) (by decide) (by decide) (by decide) (by decide) rfl rfl (fun c => arrV_new c _ _) (by decide) (Nat.le_of_ble_eq_true rfl) dX2_init_29 ?_
  show zU Y _ _ _ _ _ ([.inr (2, [.ref (zYb Y + 281), .ref (zYb Y + 282), .null]), .inl (zYa Y 0, 10, .inl (fun _ => 0))] ++ (.inl (zYa Y 3, 10, .inr (.inr (.inr (.inr (fun i => if i < 10 then some (zYb Y + (282 + 1 + i)) else none))))) :: List.replicate 10 (.inl (zYa Y 0, 10, .inl (fun _ => 0)))) ++ (.inl (zYa Y 3, 10, .inr (.inr (.inr (.inr (fun i => if i < 10 then some (zYb Y + (293 + 1 + i)) else none))))) :: List.replicate 10 (.inl (zYa Y 0, 10, .inl (fun _ => 0)))) : List va_E)
  refine u_putF C Rr (Cn := RX2) (T := TX2) (N := 3) (ci := 2) (j := 0) (fj := 2) (ty := tyX2 2) (congrArg (fun q => zYb Y + (q + 0)) hn) rfl zin_X2 tyX2 tyX2_ok nmX2 rfl (by decide) kw_f_X2_20 rfl rfl rfl (by decide +kernel) rfl rfl (Nat.le_of_ble_eq_true rfl) dX2_init_33 ?_
  show zU Y _ _ _ _ _ ([.inr (2, [.ref (zYb Y + 281), .ref (zYb Y + 282), .ref (zYb Y + 293)]), .inl (zYa Y 0, 10, .inl (fun _ => 0))] ++ (.inl (zYa Y 3, 10, .inr (.inr (.inr (.inr (fun i => if i < 10 then some (zYb Y + (282 + 1 + i)) else none))))) :: List.replicate 10 (.inl (zYa Y 0, 10, .inl (fun _ => 0)))) ++ (.inl (zYa Y 3, 10, .inr (.inr (.inr (.inr (fun i => if i < 10 then some (zYb Y + (293 + 1 + i)) else none))))) :: List.replicate 10 (.inl (zYa Y 0, 10, .inl (fun _ => 0)))) : List va_E)
  exact u_vret C Rr rfl (Nat.le_of_ble_eq_true rfl) (Nat.le_of_ble_eq_true rfl) dX2_init_36

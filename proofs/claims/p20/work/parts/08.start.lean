theorem kz_law1 : Cond.classLink RL 7 RX8 ∈ zW := zmem 58 (by decide +kernel) rfl
theorem kz_law2 : Cond.classLink RL 10 RX9 ∈ zW := zmem 791 (by decide +kernel) rfl
theorem kz_lawi1 : Cond.instantiable RX8 10 ∈ zW := zmem 59 (by decide +kernel) rfl
theorem kz_lawn1 : Cond.initialized RX8 ∈ zW := zmem 44 (by decide +kernel) rfl
theorem kz_lawi2 : Cond.instantiable RX9 45 ∈ zW := zmem 792 (by decide +kernel) rfl
theorem kz_lawn2 : Cond.initialized RX9 ∈ zW := zmem 54 (by decide +kernel) rfl
theorem kz_lawm1 : Cond.methodLink RL 9 yX8_init ∈ zW := zmem 60 (by decide +kernel) rfl
theorem kz_lawm2 : Cond.methodLink RL 12 yX9_init ∈ zW := zmem 793 (by decide +kernel) rfl
/-- the world as the two constructors leave it; g: what is filled by loops -/
def zs0 (g : Nat → Nat → Int32) : zS := (fun k r => match k with
  | 3 => g 0
  | 13 => g (r + 1)
  | 22 => fun i => match i with
    | 5 => -1
    | 7 => 1
    | 8 => -1
    | _ => 0
  | 56 => (upd (upd (upd (upd (fun _ => 0) 0 (-1)) 1 (-1)) 2 (-1)) 3 (-1))
  | _ => fun _ => 0, fun k _ => match k with
  | 1 => fun i => match i with
    | 1 => 1
    | _ => 0
  | 22 => fun i => match i with
    | 14 => 1
    | _ => 0
  | 54 => fun i => match i with
    | 2 => 1
    | _ => 0
  | _ => fun _ => 0)
def zg0 (g : Nat → Nat → Int32) : Prop := (∀ i, i < 4 → g 0 i = -1) ∧ ∀ r, r < 10 → ∀ i, i < 10 → g (r + 1) i = 10
def zE0 (base : Nat) (D : va_G) (cA : Nat → ClassId) : zE := (fun k r => base + (zoff k + r), D, cA)
set_option maxRecDepth 100000 in
set_option maxHeartbeats 8000000 in
theorem zs0_list (base : Nat) (D : va_G) (cA : Nat → ClassId) (g : Nat → Nat → Int32) : LF_X8 base cA (g 0) (g 1) (g 2) (g 3) (g 4) (g 5) (g 6) (g 7) (g 8) (g 9) (g 10) ++ LF_X9 base cA = zKeys.map (fun q => zct (zE0 base D cA) q.1 q.2 (zi (zs0 g) q.1 q.2) (zj (zs0 g) q.1 q.2)) := by
  rfl
theorem zs0_world {base : Nat} {D : va_G} {cA : Nat → ClassId} {g : Nat → Nat → Int32} {L : List va_E} {H : Heap} (hL : L = zKeys.map (fun q => zct (zE0 base D cA) q.1 q.2 (zi (zs0 g) q.1 q.2) (zj (zs0 g) q.1 q.2))) (h : zHp D base 0 [] L H) : va_P D zCl (zws (zE0 base D cA) (zs0 g)) H := by
  intro i q hq
  unfold zws at hq
  rw [List.getElem?_map] at hq
  cases hk : zKeys[i]? with
  | none => rw [hk] at hq; cases hq
  | some k =>
    rw [hk] at hq
    cases hq
    have h1 : (zwl base ([] ++ L))[i]? = some (base + i, zct (zE0 base D cA) k.1 k.2 (zi (zs0 g) k.1 k.2) (zj (zs0 g) k.1 k.2)) := by
      rw [zwl_get, List.nil_append, hL, List.getElem?_map, hk]
      rfl
    have h2 := h.2.2 i _ h1
    have h3 : i = zoff k.1 + k.2 := zkey_u hk
    rw [h3] at h2
    exact h2
theorem zE0_D {base : Nat} {D : va_G} {cA : Nat → ClassId} (σ : zS) : va_D (fun q : Nat => base ≤ q) (zws (zE0 base D cA) σ) := by
  have key : ∀ (i : Nat) (x : Nat × va_E), (zws (zE0 base D cA) σ)[i]? = some x → x.1 = base + i := by
    intro i x h
    unfold zws at h
    rw [List.getElem?_map] at h
    cases hk : zKeys[i]? with
    | none => rw [hk] at h; cases h
    | some k =>
      rw [hk] at h
      cases h
      show base + (zoff k.1 + k.2) = base + i
      rw [← zkey_u hk]
  refine ⟨fun i j x y hi hj hxy => ?_, fun i x hi => ?_⟩
  · have := key i x hi
    have := key j y hj
    omega
  · show base ≤ x.1
    have := key i x hi
    omega
section ZUST
variable {Y : zY} {cc : ByteArray} {own : String} {nL mc ms d nc ns pc : Nat} {lv : List (Nat × Value)} {st : List Value} {L : List va_E}
theorem u_astore_n (C : zUC Y cc own nL mc ms d) {k : Fin 4} {i : Nat} {x : Nat} (lv' : List (Nat × Value)) (hd : decode cc pc = .ok (.astore_n k, 1)) (hi : (k : Nat) = i) (hn : i < nL) (hl : (i, Value.ref x) :: lv.filter (fun q => !(q.1 == i) && !(q.1 + 1 == i && q.2.category == 2)) = lv') (K : zU Y nc ns (pc + 1) lv' st L) : zU Y nc ns pc lv (.ref x :: st) L := by
  obtain ⟨p, l, e, R, s, m, args, below, meth, c, Qf, D, cA, base, n0, pre, nX⟩ := Y
  obtain ⟨hx, hb, ⟨hnX, hml⟩, hown, hts, hK, hN, hO, hbs, hRc, hRs, hf, hlo⟩ := C
  subst hnX
  exact fun H locs ls hP hS hL => lv_astore_n hx hb hd hi hL hn hl (fun ls' hL' => K H locs ls' hP hS hL')
end ZUST
set_option maxHeartbeats 8000000 in
set_option maxRecDepth 100000 in
/-- THE LAW, from its entry, where what must hold behind the constructors holds -/
theorem law_start {p : Program} {e : Env} {s : State} {m : MethodId} {below : List Frame} {meth : Method} {c : Code} (l : Launch) {b L : Nat} {xs : Nat → Int32} (C0 : lw_At p s m meth c b L xs) (hw : ∀ g : Nat → Nat → Int32, zg0 g → Wp_law L xs (zs0 g)) : W p l e room_1 s m #[Value.ref b] below meth c s.heap [] 0 0 (lw_Z below #[Value.ref b] s) (entryFrame m ([Value.ref b] : List Value).toArray 4) := by
  obtain ⟨hx, hb, hr, hml, hown, hts0, hX, hbl, hlocks, hgv⟩ := id C0
  have hts : ∀ w ∈ zW, w.before #[Value.ref b] s = true := fun w h => hts0 w (List.mem_filter.mp h).1
  have hN : ∀ w ∈ zNst, va_Nw w s := fun w h => va_Nw.of (zNst_on w h) (hts0 w (zNst_in w h))
  have hO : zOv s := ⟨hts0 _ (List.mem_of_getElem? (i := 114) (by decide +kernel) : Cond.arrayOver (.array .int) ∈ lw_tbl), hts0 _ (List.mem_of_getElem? (i := 88) (by decide +kernel) : Cond.arrayOver (.array .long) ∈ lw_tbl)⟩
  obtain ⟨d0, i0, hk0⟩ := u_known (C := RX0) (T := TX0) (N := 7) (n := 7) hts zin_X0 (hts0 _ (List.mem_of_getElem? (i := 230) (by decide +kernel) : Cond.instantiable RX0 7 ∈ lw_tbl))
  obtain ⟨d1, i1, hk1⟩ := u_known (C := RX1) (T := TX1) (N := 7) (n := 7) hts zin_X1 (hts0 _ (List.mem_of_getElem? (i := 135) (by decide +kernel) : Cond.instantiable RX1 7 ∈ lw_tbl))
  obtain ⟨d2, i2, hk2⟩ := u_known (C := RX2) (T := TX2) (N := 3) (n := 3) hts zin_X2 (hts0 _ (List.mem_of_getElem? (i := 294) (by decide +kernel) : Cond.instantiable RX2 3 ∈ lw_tbl))
  obtain ⟨d3, i3, hk3⟩ := u_known (C := RX3) (T := TX3) (N := 2) (n := 2) hts zin_X3 (hts0 _ (List.mem_of_getElem? (i := 67) (by decide +kernel) : Cond.instantiable RX3 2 ∈ lw_tbl))
  obtain ⟨d4, i4, hk4⟩ := u_known (C := RX4) (T := TX4) (N := 6) (n := 6) hts zin_X4 (hts0 _ (List.mem_of_getElem? (i := 263) (by decide +kernel) : Cond.instantiable RX4 6 ∈ lw_tbl))
  obtain ⟨d5, i5, hk5⟩ := u_known (C := RX5) (T := TX5) (N := 15) (n := 15) hts zin_X5 (hts0 _ (List.mem_of_getElem? (i := 173) (by decide +kernel) : Cond.instantiable RX5 15 ∈ lw_tbl))
  obtain ⟨d6, i6, hk6⟩ := u_known (C := RX6) (T := TX6) (N := 4) (n := 4) hts zin_X6 (hts0 _ (List.mem_of_getElem? (i := 108) (by decide +kernel) : Cond.instantiable RX6 4 ∈ lw_tbl))
  obtain ⟨d7, i7, hk7⟩ := u_known (C := RX7) (T := TX7) (N := 3) (n := 3) hts zin_X7 (hts0 _ (List.mem_of_getElem? (i := 82) (by decide +kernel) : Cond.instantiable RX7 3 ∈ lw_tbl))
  obtain ⟨d8, i8, hk8⟩ := u_known (C := RX8) (T := TX8) (N := 10) (n := 10) hts zin_X8 (hts0 _ (List.mem_of_getElem? (i := 59) (by decide +kernel) : Cond.instantiable RX8 10 ∈ lw_tbl))
  obtain ⟨d9, i9, hk9⟩ := u_known (C := RX9) (T := TX9) (N := 45) (n := 45) hts zin_X9 (hts0 _ (List.mem_of_getElem? (i := 792) (by decide +kernel) : Cond.instantiable RX9 45 ∈ lw_tbl))
  obtain ⟨a0, k0, q0, e0, f0, h0⟩ := Cond.arrayClass_spec (hts0 _ (List.mem_of_getElem? (i := 105) (by decide +kernel) : Cond.arrayClass .int ∈ lw_tbl))
  obtain ⟨a1, k1, q1, e1, f1, h1⟩ := Cond.arrayClass_spec (hts0 _ (List.mem_of_getElem? (i := 106) (by decide +kernel) : Cond.arrayClass .long ∈ lw_tbl))
  obtain ⟨a2, k2, q2, e2, f2, h2⟩ := Cond.arrayClass_spec (hts0 _ (List.mem_of_getElem? (i := 933) (by decide +kernel) : Cond.arrayClass .boolean ∈ lw_tbl))
  obtain ⟨q3, a3, k3, -, -, f3, h3, e3⟩ := Jvm.Stand.arrayOver_specB hO.1
  obtain ⟨q4, a4, k4, -, -, f4, h4, e4⟩ := Jvm.Stand.arrayOver_specB hO.2
  obtain ⟨D, hDk⟩ : ∃ D : va_G, ∀ (k : Nat) (q : vw_C), zCl[k]? = some q → u_Kn s q.1 q.2.1 q.2.2 (D.1 k) (D.2 k) := by
    refine ⟨(fun k => match k with | 0 => d0 | 1 => d1 | 2 => d2 | 3 => d3 | 4 => d4 | 5 => d5 | 6 => d6 | 7 => d7 | 8 => d8 | _ => d9, fun k => match k with | 0 => i0 | 1 => i1 | 2 => i2 | 3 => i3 | 4 => i4 | 5 => i5 | 6 => i6 | 7 => i7 | 8 => i8 | _ => i9), ?_⟩
    intro k q hq
    match k, hq with
    | 0, hq => cases hq; exact hk0
    | 1, hq => cases hq; exact hk1
    | 2, hq => cases hq; exact hk2
    | 3, hq => cases hq; exact hk3
    | 4, hq => cases hq; exact hk4
    | 5, hq => cases hq; exact hk5
    | 6, hq => cases hq; exact hk6
    | 7, hq => cases hq; exact hk7
    | 8, hq => cases hq; exact hk8
    | 9, hq => cases hq; exact hk9
    | k + 10, hq => simp [zCl] at hq
  obtain ⟨cA, hcA⟩ : ∃ cA : Nat → ClassId, ∀ (k : Nat) (q : ClassId × FieldType), (zTa cA)[k]? = some q → ArrOfT s q.1 q.2 ∧ va_RA s q.1 q.2 := by
    refine ⟨fun k => match k with | 0 => a0 | 1 => a1 | 2 => a2 | 3 => a3 | _ => a4, ?_⟩
    intro k q hq
    match k, hq with
    | 0, hq => cases hq; exact ⟨fun n z => ⟨fun k h => (by cases h), k0, f0, q0, h0⟩, e0⟩
    | 1, hq => cases hq; exact ⟨fun n z => ⟨fun k h => (by cases h), k1, f1, q1, h1⟩, e1⟩
    | 2, hq => cases hq; exact ⟨fun n z => ⟨fun k h => (by cases h), k2, f2, q2, h2⟩, e2⟩
    | 3, hq => cases hq; exact ⟨fun n z => ⟨fun k h => (by cases h), k3, f3, q3, h3⟩, e3⟩
    | 4, hq => cases hq; exact ⟨fun n z => ⟨fun k h => (by cases h), k4, f4, q4, h4⟩, e4⟩
    | k + 5, hq => simp [zTa] at hq
  have hK : va_K D zCl (zTa cA) s := ⟨hDk, hcA⟩
  have hl := lv_entry ([.ref b]) (n := 4) (Nat.le_of_ble_eq_true rfl)
  rw [lg_entry_eq]
  generalize (lg_sl ([.ref b]) ++ List.replicate (4 - (lg_sl ([.ref b])).length) Slot.unset).toArray = ls at hl ⊢
  have hl : lv_has ls 4 [(0, .ref b)] := hl
  have main : ∀ Y : zY, Y = (p, l, e, room_1, s, m, #[Value.ref b], below, meth, c, lw_Z below #[Value.ref b] s, D, cA, s.heap.size, 0, [], 4) → zU Y 0 0 0 [(0, .ref b)] [] [] := by
    intro Y hY
    have C : zUC Y code RL 4 600000 7302250 20 := by
      rw [hY]
      exact ⟨hx, hb, ⟨rfl, hml⟩, hown, hts, hK, hN, hO, Nat.le_refl _, Nat.le_refl _, Nat.le_refl _, by decide, by decide⟩
    have hn : zYn Y = 0 := by rw [hY]; rfl
    have fin : ∀ (g : Nat → Nat → Int32), zg0 g → zU Y 336 25713 16 [(2, .ref (zYb Y + 304)), (1, .ref (zYb Y + 0)), (0, .ref b)] [] (LF_X8 (zYb Y) (zYa Y) (g 0) (g 1) (g 2) (g 3) (g 4) (g 5) (g 6) (g 7) (g 8) (g 9) (g 10) ++ LF_X9 (zYb Y) (zYa Y)) := by
      intro g hg
      subst hY
      have t := t_law (X := (p, l, e, room_1, s, m, #[Value.ref b], below, meth, c, (336, 25713), lw_Z below #[Value.ref b] s, fun q : Nat => s.heap.size ≤ q, zE0 s.heap.size D cA, 4)) (b := b) (L := L) (xs := xs) ⟨hx, hb, ⟨rfl, hml⟩, hown, hts, hK, fun σ => zE0_D σ, hN, ⟨by decide, by decide⟩, by decide, by decide⟩ ⟨hX, hbl, rfl, rfl, rfl, rfl, hr, hlocks, by decide, by decide⟩ (hw g hg)
      intro H locs ls hP hS hL
      exact t H locs ls (zs0_world (zs0_list s.heap.size D cA g) hP) hS hL
    refine u_new C (ci := 8) (T := TX8) (N := 10) (fs := [.null, .null, .null, .null, .null, .null, .null, .null, .int 0, .int 0]) 0 (Eq.trans (congrArg (fun q => q + _) hn) rfl) rfl zin_X8 tyX8 tyX8_ok kz_law1 kz_lawi1 kz_lawn1 (by intro j hj; match j, hj with | 0, _ => rfl | 1, _ => rfl | 2, _ => rfl | 3, _ => rfl | 4, _ => rfl | 5, _ => rfl | 6, _ => rfl | 7, _ => rfl | 8, _ => rfl | 9, _ => rfl | j + 10, hj => exact absurd hj (by omega)) (by decide) (by decide) dL_law_0 ?_
    refine u_dup C dL_law_3 rfl ?_
    refine u_call C (by decide) M_X8_init Mi_X8_init rfl kz_lawm1 0 (Eq.trans (congrArg (fun q => q + _) hn) rfl) (Lr := []) (L1 := [.inr (8, [.null, .null, .null, .null, .null, .null, .null, .null, .int 0, .int 0])]) rfl (c_X8_init _ _ _ _ _) rfl rfl (Nat.le_of_ble_eq_true rfl) (by decide) (by decide) dL_law_4 ?_
    rintro _ ⟨g0, g1, g2, g3, g4, g5, g6, g7, g8, g9, g10, ⟨hg0, hg1, hg2, hg3, hg4, hg5, hg6, hg7, hg8, hg9, hg10⟩, rfl⟩
    refine u_astore_n C [(1, .ref (zYb Y + 0)), (0, .ref b)] dL_law_7 rfl (by decide) rfl ?_
    refine u_new C (ci := 9) (T := TX9) (N := 45) (fs := [.int 0, .long 0, .long 0, .null, .null, .null, .int 0, .int 0, .int 0, .null, .null, .null, .null, .null, .null, .null, .null, .null, .null, .null, .null, .null, .null, .null, .null, .int 0, .int 0, .int 0, .int 0, .int 0, .long 0, .long 0, .null, .null, .int 0, .null, .null, .null, .null, .null, .null, .null, .null, .null, .null]) 304 (Eq.trans (congrArg (fun q => q + _) hn) rfl) rfl zin_X9 tyX9 tyX9_ok kz_law2 kz_lawi2 kz_lawn2 (by intro j hj; match j, hj with | 0, _ => rfl | 1, _ => rfl | 2, _ => rfl | 3, _ => rfl | 4, _ => rfl | 5, _ => rfl | 6, _ => rfl | 7, _ => rfl | 8, _ => rfl | 9, _ => rfl | 10, _ => rfl | 11, _ => rfl | 12, _ => rfl | 13, _ => rfl | 14, _ => rfl | 15, _ => rfl | 16, _ => rfl | 17, _ => rfl | 18, _ => rfl | 19, _ => rfl | 20, _ => rfl | 21, _ => rfl | 22, _ => rfl | 23, _ => rfl | 24, _ => rfl | 25, _ => rfl | 26, _ => rfl | 27, _ => rfl | 28, _ => rfl | 29, _ => rfl | 30, _ => rfl | 31, _ => rfl | 32, _ => rfl | 33, _ => rfl | 34, _ => rfl | 35, _ => rfl | 36, _ => rfl | 37, _ => rfl | 38, _ => rfl | 39, _ => rfl | 40, _ => rfl | 41, _ => rfl | 42, _ => rfl | 43, _ => rfl | 44, _ => rfl | j + 45, hj => exact absurd hj (by omega)) (by decide) (by decide) dL_law_8 ?_
    refine u_dup C dL_law_11 rfl ?_
    refine u_call C (by decide) M_X9_init Mi_X9_init rfl kz_lawm2 304 (Eq.trans (congrArg (fun q => q + _) hn) rfl) (Lr := [] ++ LF_X8 (zYb Y) (zYa Y) g0 g1 g2 g3 g4 g5 g6 g7 g8 g9 g10) (L1 := [.inr (9, [.int 0, .long 0, .long 0, .null, .null, .null, .int 0, .int 0, .int 0, .null, .null, .null, .null, .null, .null, .null, .null, .null, .null, .null, .null, .null, .null, .null, .null, .int 0, .int 0, .int 0, .int 0, .int 0, .long 0, .long 0, .null, .null, .int 0, .null, .null, .null, .null, .null, .null, .null, .null, .null, .null])]) rfl (c_X9_init _ _ _ _ _) rfl rfl (Nat.le_of_ble_eq_true rfl) (by decide) (by decide) dL_law_12 ?_
    rintro _ rfl
    refine u_astore_n C [(2, .ref (zYb Y + 304)), (1, .ref (zYb Y + 0)), (0, .ref b)] dL_law_15 rfl (by decide) rfl ?_
    exact fin (fun k => match k with | 0 => g0 | 1 => g1 | 2 => g2 | 3 => g3 | 4 => g4 | 5 => g5 | 6 => g6 | 7 => g7 | 8 => g8 | 9 => g9 | _ => g10) ⟨hg0, fun r hr9 => match r, hr9 with | 0, _ => hg1 | 1, _ => hg2 | 2, _ => hg3 | 3, _ => hg4 | 4, _ => hg5 | 5, _ => hg6 | 6, _ => hg7 | 7, _ => hg8 | 8, _ => hg9 | 9, _ => hg10 | r + 10, hr9 => absurd hr9 (by omega)⟩
  exact main _ rfl s.heap [] ls ⟨rfl, rfl, fun k q hq => by simp [zwl] at hq⟩ va_S.rf hl

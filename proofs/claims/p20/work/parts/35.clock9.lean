/-! ===== clocks, few others, of the reference ===== -/
/-- MI out of what it speaks of -/
theorem MI_g {s s' : zS} (h : MI s) (hk : ∀ k, (k = 56 ∨ k = 63 ∨ k = 64 ∨ k = 65 ∨ k = 67 ∨ k = 76 ∨ k = 83 ∨ k = 85) → zi s' k 0 = zi s k 0) (hc : C3eq s s') : MI s' := by
  have h6 := hc 6 (by unfold C3; omega)
  have h7 := hc 7 (by unfold C3; omega)
  have h34 := hc 34 (by unfold C3; omega)
  unfold MI T9 B9 S9L R9 L9 zB9 zL9 at h ⊢
  rw [hk 56 (by omega), hk 63 (by omega), hk 64 (by omega), hk 65 (by omega), hk 67 (by omega), hk 76 (by omega), hk 83 (by omega), hk 85 (by omega), h6, h7, h34]
  exact h
theorem S9_reading {a b c : Int32} {s : zS} {Q : Int32 → zS → Prop} (h : MI s) (hQ : ∀ (r : Int32) (s' : zS), MI s' → MF s s' → Q r s') : Wp_X9_reading a b c s Q := by
  unfold Wp_X9_reading
  have bad : ∀ r : Int32, Wp_X9_is r s (fun r1 s1 => Q r1 s1) := fun r => isq h hQ mfx_rf
  refine W_tn h.1 (fun _ => ⟨fun _ => bad 1, nz0⟩) (fun g1 g2 g3 => ⟨nz1, fun _ => ?_⟩)
  obtain ⟨t, ht, rfl⟩ := n_ofl (a := a) (n := 10) g1 g3
  have it' : vp_in (nI t) 10 := nat_in ht (by omega)
  have hr := h.2.2.2.1
  obtain ⟨m, hm, em⟩ := n_of (a := zi s 83 0 t) (n := 10) (hr t ht).1.1 (hr t ht).1.2
  rw [nI_clamp (by omega)]
  have add : (m = 0 ∨ (zi s 85 0 (10 * t + m - 1)).toInt < c.toInt) → ¬ nI m = (10 : Int32) → ∀ s12 : zS, s12 = zsi s 54 0 8 b → (vp_in (((10 : Int32) * nI t) + nI m) 100 ∧ ∀ s13 : zS, s13 = zsi s12 84 0 (Int32.toNatClampNeg (((10 : Int32) * nI t) + nI m)) b → (vp_in (((10 : Int32) * nI t) + nI m) 100 ∧ ∀ s14 : zS, s14 = zsi s13 85 0 (Int32.toNatClampNeg (((10 : Int32) * nI t) + nI m)) c → (vp_in (nI t) 10 ∧ (vp_in (nI t) 10 ∧ ∀ s15 : zS, s15 = zsi s14 83 0 t ((zi s14 83 0 t) + (1 : Int32)) → Wp_X9_is (0 : Int32) s15 (fun r16 s17 => Q r16 s17))))) := by
    intro hlast ne
    have hm10 : m < 10 := by
      rcases Nat.lt_or_ge m 10 with q | q
      · exact q
      · exfalso
        obtain rfl : m = 10 := by omega
        exact ne rfl
    rw [n_at, nI_clamp (by omega)]
    have ia : vp_in (nI (10 * t + m)) 100 := nat_in (by omega) (by omega)
    rintro _ rfl
    refine ⟨ia, ?_⟩
    rintro _ rfl
    refine ⟨ia, ?_⟩
    rintro _ rfl
    refine ⟨it', it', ?_⟩
    have e83 : zi (zsi (zsi (zsi s 54 0 8 b) 84 0 (10 * t + m) b) 85 0 (10 * t + m) c) 83 0 t = nI m := by rw [zi_sir _ _ _ _ _ _ _ (by omega), zi_sir _ _ _ _ _ _ _ (by omega), zi_sir _ _ _ _ _ _ _ (by omega)]; exact em
    rw [e83, nI_1]
    rintro _ rfl
    generalize hs1 : zsi (zsi (zsi (zsi s 54 0 8 b) 84 0 (10 * t + m) b) 85 0 (10 * t + m) c) 83 0 t (nI (m + 1)) = s1
    have f1 : zfx (fun k => k = 54 ∨ k = 83 ∨ k = 84 ∨ k = 85) s s1 := by rw [← hs1]; exact zfx_si (zfx_si (zfx_si (zfx1 (by omega)) (by omega)) (by omega)) (by omega)
    have c1 : C3eq s s1 := by rw [← hs1]; exact C3_si (C3_si (C3_si (C3_54 C3_rf c8) (by omega)) (by omega)) (by omega)
    have d83 : zi s1 83 0 = upd (zi s 83 0) t (nI (m + 1)) := by rw [← hs1, zi_sig, zi_sir _ _ _ _ _ _ _ (by omega), zi_sir _ _ _ _ _ _ _ (by omega), zi_sir _ _ _ _ _ _ _ (by omega)]
    have d85 : zi s1 85 0 = upd (zi s 85 0) (10 * t + m) c := by rw [← hs1, zi_sir _ _ _ _ _ _ _ (by omega), zi_sig, zi_sir _ _ _ _ _ _ _ (by omega), zi_sir _ _ _ _ _ _ _ (by omega)]
    have hm1 : MI s1 := by
      have hk : ∀ k, ¬ (k = 54 ∨ k = 83 ∨ k = 84 ∨ k = 85) → zi s1 k 0 = zi s k 0 := fun k hk => (f1 k hk 0).1
      have h6 := c1 6 (by unfold C3; omega)
      have h7 := c1 7 (by unfold C3; omega)
      have h34 := c1 34 (by unfold C3; omega)
      unfold MI T9 B9 S9L R9 L9 zB9 zL9 at h ⊢
      rw [hk 56 (by omega), hk 63 (by omega), hk 64 (by omega), hk 65 (by omega), hk 67 (by omega), hk 76 (by omega), h6, h7, h34, d83, d85]
      refine ⟨h.1, h.2.1, h.2.2.1, fun x hx => ?_, h.2.2.2.2⟩
      have hx4 := h.2.2.2.1 x hx
      by_cases e : x = t
      · subst e
        rw [em, nI_toInt (by omega)] at hx4
        rw [upd_at, nI_toInt (by omega)]
        refine ⟨by omega, fun i hi => ?_⟩
        by_cases ei : i + 1 = m
        · rw [show 10 * x + i + 1 = 10 * x + m by omega, upd_at, upd_ne (by omega)]
          rcases hlast with q | q
          · omega
          · rw [show 10 * x + m - 1 = 10 * x + i by omega] at q
            exact q
        · rw [upd_ne (by omega), upd_ne (by omega)]
          exact hx4.2 i (by omega)
      · rw [upd_ne e]
        refine ⟨hx4.1, fun i hi => ?_⟩
        rw [upd_ne (by omega), upd_ne (by omega)]
        exact hx4.2 i hi
    have hF : MF s s1 := ⟨zfx_mo f1 (fun k hk => by omega), c1 6 (by unfold C3; omega), c1 7 (by unfold C3; omega)⟩
    exact isq hm1 (fun r s' m f => hQ r s' m (MF_tr hF f)) mfx_rf
  have bad1 := bad 1
  have bad5 := bad 5
  refine W_mn ⟨fun _ => bad1, nz0⟩ ⟨nz1, fun _ => ⟨fun _ => bad1, fun _ => ⟨fun _ => ⟨fun _ => ⟨it', ?_⟩, fun _ => bad 2⟩, fun _ => bad1⟩⟩⟩
  rw [em]
  rintro _ rfl
  refine ⟨fun g => ⟨add ?_, fun _ => bad5⟩, fun g => ?_⟩
  · rw [it_le, it_0, nI_toInt (by omega)] at g
    exact Or.inl (by omega)
  rw [it_le, it_0, nI_toInt (by omega)] at g
  have el : ((10 : Int32) * nI t + nI m) - (1 : Int32) = nI (10 * t + m - 1) := by
    rw [n_at, show (1 : Int32) = nI 1 from rfl, nI_subN (by omega) (by omega)]
  have ia : vp_in (nI (10 * t + m - 1)) 100 := nat_in (by omega) (by omega)
  rw [el, nI_clamp (show 10 * t + m - 1 < 2 ^ 31 by omega)]
  refine ⟨ia, fun _ => bad1, fun _ => ⟨ia, fun q => ⟨add (Or.inr ?_), fun _ => bad5⟩, fun _ => bad1⟩⟩
  rw [it_lt] at q
  exact q
theorem sub_nz {x y : Int32} (h : y.toInt < x.toInt) : ¬ (x - y).toInt64 = 0 := fun e => by
  have e1 : (x - y).toInt64.toInt = (0 : Int64).toInt := congrArg Int64.toInt e
  rw [Int32.toInt_toInt64] at e1
  have e2 : x - y = 0 := Int32.toInt_inj.mp (e1.trans rfl)
  have e3 : x = y := by
    have q : x - y + y = 0 + y := by rw [e2]
    rw [Int32.sub_add_cancel, Int32.zero_add] at q
    exact q
  rw [e3] at h
  omega
theorem S9_right {a b : Int32} {s : zS} {Q : Int32 → zS → Prop} (h : MI s) (hQ : ∀ (r : Int32) (s' : zS), MI s' → MF s s' → Q r s') : Wp_X9_right a b s Q := by
  unfold Wp_X9_right
  intro P hP
  have bad : ∀ r : Int32, Wp_X9_refuse r s (fun r1 s1 => Q r1 s1) := fun r => rfq h hQ mfx_rf
  refine W_tn h.1 (fun _ => ⟨fun _ => bad 1, nz0⟩) (fun g1 g2 g3 => ⟨nz1, fun _ => ⟨fun _ => bad 1, fun _ => ⟨fun _ => ?_, fun _ => bad 1⟩⟩⟩)
  obtain ⟨t, ht, rfl⟩ := n_ofl (a := a) (n := 10) g1 g3
  have it' : vp_in (nI t) 10 := nat_in ht (by omega)
  have hr := h.2.2.2.1 t ht
  obtain ⟨m, hm, em⟩ := n_of (a := zi s 83 0 t) (n := 10) hr.1.1 hr.1.2
  rw [nI_clamp (by omega), em]
  rw [em, nI_toInt (by omega)] at hr
  refine ⟨it', ?_⟩
  rintro _ rfl
  refine ⟨fun ne => ?_, fun _ => bad 6⟩
  have hm0 : 0 < m := by
    rcases Nat.eq_zero_or_pos m with q | q
    · exact absurd (by rw [q]; rfl) ne
    · exact q
  have ea : (10 : Int32) * nI t = nI (10 * t) := by rw [ni10, pk_mul]
  have tell : ∀ x : Int64, Wp_X9_tells x 1 s (fun r s' => Q r s') := fun x => W_tells (by decide) (fun r s' hf => fin9 h hQ hf)
  rw [ea]
  rintro _ rfl
  have el : nI (10 * t) + nI m - (1 : Int32) = nI (10 * t + (m - 1)) := by
    rw [nI_add, show (1 : Int32) = nI 1 from rfl, nI_subN (by omega) (by omega)]
    congr 1
    omega
  rw [el]
  rintro _ rfl
  rw [nI_clamp (show 10 * t < 2 ^ 31 by omega), nI_clamp (show 10 * t + (m - 1) < 2 ^ 31 by omega)]
  have i0 : vp_in (nI (10 * t)) 100 := nat_in (by omega) (by omega)
  have i9 : vp_in (nI (10 * t + (m - 1))) 100 := nat_in (by omega) (by omega)
  refine ⟨i0, fun gf => ⟨i9, fun gl => ?_, fun _ => ⟨i9, i9, tell _⟩⟩, fun _ => ⟨i0, i0, tell _⟩⟩
  rw [it_lt] at gf gl
  have key : ∀ (n i : Nat), i + n + 1 = m → (zi s 85 0 (10 * t + i)).toInt < b.toInt → P (nI (10 * t + i)) s := by
    intro n
    induction n with
    | zero =>
      intro i hi hq
      exfalso
      rw [show i = m - 1 by omega] at hq
      omega
    | succ n ih =>
      intro i hi hq
      apply hP
      rw [nI_1, nI_clamp (show 10 * t + i < 2 ^ 31 by omega), nI_clamp (show 10 * t + i + 1 < 2 ^ 31 by omega)]
      have j0 : vp_in (nI (10 * t + i)) 100 := nat_in (by omega) (by omega)
      have j1 : vp_in (nI (10 * t + i + 1)) 100 := nat_in (by omega) (by omega)
      have up := hr.2 i (by omega)
      refine ⟨j1, fun _ => ⟨j1, j0, ?_⟩, fun g => ?_⟩
      · rintro _ rfl
        exact ⟨j0, j0, j1, j0, W_tells (sub_nz up) (fun r s' hf => fin9 h hQ hf)⟩
      · rw [it_le] at g
        exact ih (i + 1) (by omega) (by rw [show 10 * t + (i + 1) = 10 * t + i + 1 by omega]; omega)
  exact key (m - 1) 0 (by omega) gf
theorem S9_carry {a b : Int32} {s : zS} {Q : Int32 → zS → Prop} (h : MI s) (hQ : ∀ (r : Int32) (s' : zS), MI s' → MF s s' → Q r s') : Wp_X9_carry a b s Q := by
  unfold Wp_X9_carry
  have bad : ∀ r : Int32, Wp_X9_is r s (fun r1 s1 => Q r1 s1) := fun r => isq h hQ mfx_rf
  refine W_bd h.2.1 ⟨fun _ => bad 1, nz0⟩ (fun g1 g2 g3 => ⟨nz1, fun _ => ?_⟩)
  refine W_tn h.1 (fun _ => ⟨nz0, fun _ => bad 1⟩) (fun g4 g5 g6 => ⟨fun _ => ?_, nz1⟩)
  obtain ⟨j, hj, rfl⟩ := n_ofl (a := a) (n := 60) g1 g3
  have ij : vp_in (nI j) 60 := nat_in hj (by omega)
  rw [nI_clamp (by omega)]
  refine ⟨ij, fun _ => ⟨ij, ?_⟩, fun _ => bad 7⟩
  rintro _ rfl
  have f1 : zfx KU s (zsi s 64 0 j b) := zfx1 (by unfold KU; omega)
  have c1 : C3eq s (zsi s 64 0 j b) := C3_si C3_rf (by omega)
  have hB1 : B9 (zsi s 64 0 j b) := by
    have h0 := h.2.1
    unfold B9 zB9 zL9 at h0 ⊢
    rw [c1 7 (by unfold C3; omega), c1 34 (by unfold C3; omega), (zi_sir s 64 0 j b 63 0 (by omega)), (zi_sir s 64 0 j b 65 0 (by omega)), (zi_sir s 64 0 j b 67 0 (by omega)), zi_sig]
    refine ⟨h0.1, fun x hx => ⟨(h0.2 x hx).1, ?_, (h0.2 x hx).2.2⟩⟩
    by_cases e : x = j
    · rw [e, upd_at]
      exact ⟨g4, g6⟩
    · rw [upd_ne e]
      exact (h0.2 x hx).2.1
  exact isq (MI_B h f1 c1 hB1) (fun r s' m f => hQ r s' m (MF_tr (MF_KU f1 c1) f)) mfx_rf
/-- bird(a) of the reference, with n BIRDS -/
theorem S9_bird {a : Int32} {s : zS} {Q : Int32 → zS → Prop} (n : Nat) (hn : n ≤ 60) (hN : zi s 54 0 7 = nI n) (h : MI s) (h0 : ¬ (0 ≤ a.toInt ∧ a.toInt < (zi s 54 0 6).toInt ∧ n < 60) → ∀ s' : zS, MI s' → MF s s' → Q (-1) s')
    (h1 : 0 ≤ a.toInt → a.toInt < (zi s 54 0 6).toInt → n < 60 → ∀ s' : zS, MI s' → zfx (fun k => 54 ≤ k ∧ ¬ (k = 55 ∨ k = 56 ∨ k = 57)) s s' → zi s' 54 0 6 = zi s 54 0 6 → zi s' 54 0 7 = nI (n + 1) → Q (nI n) s') : Wp_X9_bird a s Q := by
  unfold Wp_X9_bird
  have bad : ∀ r : Int32, ¬ (0 ≤ a.toInt ∧ a.toInt < (zi s 54 0 6).toInt ∧ n < 60) → Wp_X9_refuse r s (fun r1 s1 => Q r1 s1) := fun r g => W_ref9 (h0 g _ (MI_fx h s09) (MF_of s09))
  refine W_tn h.1 (fun g => ⟨nz0, fun _ => bad 1 (fun q => g ⟨q.1, q.2.1⟩)⟩) (fun g1 g2 g3 => ⟨fun _ => ?_, nz1⟩)
  rw [hN]
  refine ⟨fun ne => ?_, fun e => bad 5 (fun q => ?_)⟩
  · have hn60 : n < 60 := by
      rcases Nat.lt_or_ge n 60 with q | q
      · exact q
      · exfalso
        obtain rfl : n = 60 := by omega
        exact ne rfl
    have im : vp_in (nI n) 60 := nat_in hn60 (by omega)
    have st : ∀ (s1 : zS) (k : Nat) (v : Int32), ¬ k = 54 → zi s1 54 0 7 = nI n → zi (zsi s1 k 0 n v) 54 0 7 = nI n := fun s1 k v hk e => by rw [zi_sir _ _ _ _ _ _ _ (fun q => hk q.1.symm)]; exact e
    rw [nI_clamp (by omega)]
    refine ⟨im, ?_⟩
    rintro _ rfl
    have e1 := st s 63 a (by omega) hN
    rw [e1, nI_clamp (by omega)]
    refine ⟨im, ?_⟩
    rintro _ rfl
    have e2 := st _ 64 a (by omega) e1
    rw [e2, nI_clamp (by omega)]
    refine ⟨im, ?_⟩
    rintro _ rfl
    have e3 := st _ 65 0 (by omega) e2
    rw [e3, nI_clamp (by omega)]
    refine ⟨im, ?_⟩
    rintro _ rfl
    have e4 := st _ 66 0 (by omega) e3
    rw [e4, nI_clamp (by omega)]
    refine ⟨im, ?_⟩
    rintro _ rfl
    have e5 := st _ 67 (-1) (by omega) e4
    rw [e5, nI_1]
    rintro _ rfl _ rfl
    generalize hs1 : zsi (zsi (zsi (zsi (zsi s 63 0 n a) 64 0 n a) 65 0 n 0) 66 0 n 0) 67 0 n (-1) = s1
    have f1 : zfx (fun k => k = 63 ∨ k = 64 ∨ k = 65 ∨ k = 66 ∨ k = 67) s s1 := by rw [← hs1]; exact zfx_si (zfx_si (zfx_si (zfx_si (zfx1 (by omega)) (by omega)) (by omega)) (by omega)) (by omega)
    have d63 : zi s1 63 0 = upd (zi s 63 0) n a := by rw [← hs1, zi_sir _ _ _ _ _ _ _ (by omega), zi_sir _ _ _ _ _ _ _ (by omega), zi_sir _ _ _ _ _ _ _ (by omega), zi_sir _ _ _ _ _ _ _ (by omega), zi_sig]
    have d64 : zi s1 64 0 = upd (zi s 64 0) n a := by rw [← hs1, zi_sir _ _ _ _ _ _ _ (by omega), zi_sir _ _ _ _ _ _ _ (by omega), zi_sir _ _ _ _ _ _ _ (by omega), zi_sig, zi_sir _ _ _ _ _ _ _ (by omega)]
    have d65 : zi s1 65 0 = upd (zi s 65 0) n 0 := by rw [← hs1, zi_sir _ _ _ _ _ _ _ (by omega), zi_sir _ _ _ _ _ _ _ (by omega), zi_sig, zi_sir _ _ _ _ _ _ _ (by omega), zi_sir _ _ _ _ _ _ _ (by omega)]
    have d67 : zi s1 67 0 = upd (zi s 67 0) n (-1) := by rw [← hs1, zi_sig, zi_sir _ _ _ _ _ _ _ (by omega), zi_sir _ _ _ _ _ _ _ (by omega), zi_sir _ _ _ _ _ _ _ (by omega), zi_sir _ _ _ _ _ _ _ (by omega)]
    generalize hs2 : zsi (zsi s1 54 0 7 (nI (n + 1))) 54 0 0 0 = s2
    have f2 : zfx (fun k => k = 54) s1 s2 := by rw [← hs2]; exact zfx_si (zfx1 rfl) rfl
    have x7 : zi s2 54 0 7 = nI (n + 1) := by rw [← hs2, zi_si, if_neg (by omega), zi_si, if_pos ⟨rfl, rfl, rfl⟩]
    have x6 : zi s2 54 0 6 = zi s 54 0 6 := by rw [← hs2, zi_si, if_neg (by omega), zi_si, if_neg (by omega), (f1 54 (by omega) 0).1]
    have x34 : zi s2 54 0 34 = zi s 54 0 34 := by rw [← hs2, zi_si, if_neg (by omega), zi_si, if_neg (by omega), (f1 54 (by omega) 0).1]
    rw [x7, nI_pred]
    have hf : zfx (fun k => k = 54 ∨ k = 63 ∨ k = 64 ∨ k = 65 ∨ k = 66 ∨ k = 67) s s2 := zfx_tr (zfx_mo f1 (fun k hk => by omega)) (zfx_mo f2 (fun k hk => by omega))
    refine h1 g1 g2 hn60 s2 ?_ (zfx_mo hf (fun k hk => by omega)) x6 x7
    have hk : ∀ k, ¬ (k = 54 ∨ k = 63 ∨ k = 64 ∨ k = 65 ∨ k = 66 ∨ k = 67) → zi s2 k 0 = zi s k 0 := fun k hk => (hf k hk 0).1
    unfold MI T9 B9 S9L R9 L9 zB9 zL9 at h ⊢
    rw [hN, nI_toInt (by omega)] at h
    rw [hk 56 (by omega), hk 76 (by omega), hk 83 (by omega), hk 85 (by omega), x6, x7, x34, (f2 63 (by omega) 0).1, (f2 64 (by omega) 0).1, (f2 65 (by omega) 0).1, (f2 67 (by omega) 0).1, d63, d64, d65, d67, nI_toInt (by omega)]
    refine ⟨h.1, ⟨by omega, fun x hx => ?_⟩, h.2.2⟩
    by_cases e : x = n
    · rw [e, upd_at, upd_at, upd_at, upd_at]
      exact ⟨⟨g1, g3⟩, ⟨g1, g3⟩, fun q => absurd q (by decide)⟩
    · rw [upd_ne e, upd_ne e, upd_ne e, upd_ne e]
      exact h.2.1.2 x (by omega)
  · have := congrArg Int32.toInt e
    rw [nI_toInt (by omega)] at this
    have : (n : Int) = 60 := this
    omega

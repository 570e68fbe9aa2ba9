/-! ===== a BIRD comes, of the reference ===== -/
theorem S9_comes {a b c d : Int32} {s : zS} {Q : Int32 → zS → Prop} (h : MI s) (hQ : ∀ (r : Int32) (s' : zS), MI s' → MF s s' → Q r s') : Wp_X9_comes a b c d s Q := by
  unfold Wp_X9_comes Wp_X9_place
  intro P hP
  have bad : ∀ r : Int32, Wp_X9_refuse r s (fun r1 s1 => Q r1 s1) := fun r => rfq h hQ mfx_rf
  refine W_bd h.2.1 ⟨fun _ => bad 1, nz0⟩ (fun g1 g2 g3 => ⟨nz1, fun _ => ?_⟩)
  obtain ⟨j, hj, rfl⟩ := n_ofl (a := a) (n := 60) g1 g3
  rw [nI_toInt (by omega)] at g2
  have ij : vp_in (nI j) 60 := nat_in hj (by omega)
  rw [nI_clamp (by omega)]
  have hb := h.2.1.2 j g2
  have hl40 := h.2.2.1.1.2
  have i67 : zi s 65 0 j = 1 → vp_in (zi s 67 0 j) 40 := fun e => in_of (hb.2.2 e).1 (by have := (hb.2.2 e).2; omega)
  have go : ∀ w : Int32, zi s 65 0 j = 1 → ∀ s30 : zS, s30 = zsi s 54 0 8 d → ∀ s31 : zS, s31 = zsi s30 54 0 0 (0 : Int32) → (vp_in (nI j) 60 ∧ ∀ x32 : Int32, x32 = (zi s31 67 0 j) → (vp_in (nI j) 60 ∧ ∀ x33 : Int32, x33 = (zi s31 63 0 j) → (vp_in (nI j) 60 ∧ ∀ s34 : zS, s34 = zsi s31 65 0 j (0 : Int32) → (vp_in (nI j) 60 ∧ ∀ s35 : zS, s35 = zsi s34 64 0 j x33 → (vp_in (nI j) 60 ∧ ∀ s36 : zS, s36 = zsi s35 66 0 j (d + (60 : Int32)) → (vp_in x32 40 ∧ (vp_in x32 40 ∧ ∀ s37 : zS, s37 = zsi s36 78 0 (Int32.toNatClampNeg x32) ((zi s36 78 0 (Int32.toNatClampNeg x32)) + (1 : Int32)) → P w x32 x33 (1 : Int32) (0 : Int32) s37))))))) := by
    intro w e1
    have hl := hb.2.2 e1
    obtain ⟨l, hl1, el⟩ := n_ofl (a := zi s 67 0 j) (n := 40) hl.1 (by omega)
    obtain ⟨t, ht1, et⟩ := n_ofl (a := zi s 63 0 j) (n := 10) hb.1.1 hb.1.2
    have il : vp_in (nI l) 40 := nat_in hl1 (by omega)
    have hl2 := hl.2
    rw [el, nI_toInt (by omega)] at hl2
    have hz := h.2.2.1.2 l hl2
    obtain ⟨n, hn, en⟩ := n_of (a := zi s 76 0 l) (n := 40) hz.1 hz.2
    rintro _ rfl _ rfl
    refine ⟨ij, ?_⟩
    intro x32 h32
    have d32 : x32 = nI l := by rw [h32, zi_sir _ _ _ _ _ _ _ (by omega), zi_sir _ _ _ _ _ _ _ (by omega), el]
    subst d32
    refine ⟨ij, ?_⟩
    intro x33 h33
    have d33 : x33 = nI t := by rw [h33, zi_sir _ _ _ _ _ _ _ (by omega), zi_sir _ _ _ _ _ _ _ (by omega), et]
    subst d33
    refine ⟨ij, ?_⟩
    rintro _ rfl
    refine ⟨ij, ?_⟩
    rintro _ rfl
    refine ⟨ij, ?_⟩
    rintro _ rfl
    refine ⟨il, il, ?_⟩
    rintro _ rfl
    generalize hs1 : zsi (zsi (zsi (zsi (zsi s 54 0 8 d) 54 0 0 0) 65 0 j 0) 64 0 j (nI t)) 66 0 j (d + 60) = s1
    have f1 : zfx KU s s1 := by rw [← hs1]; exact zfx_si (zfx_si (zfx_si (zfx_si (zfx1 (by unfold KU; omega)) (by unfold KU; omega)) (by unfold KU; omega)) (by unfold KU; omega)) (by unfold KU KM; omega)
    have c1 : C3eq s s1 := by rw [← hs1]; exact C3_si (C3_si (C3_si (C3_54 (C3_54 C3_rf c8) c0) (by omega)) (by omega)) (by omega)
    have e65 : zi s1 65 0 = upd (zi s 65 0) j 0 := by rw [← hs1, zi_sir _ _ _ _ _ _ _ (by omega), zi_sir _ _ _ _ _ _ _ (by omega), zi_sig, zi_sir _ _ _ _ _ _ _ (by omega), zi_sir _ _ _ _ _ _ _ (by omega)]
    have e64 : zi s1 64 0 = upd (zi s 64 0) j (nI t) := by rw [← hs1, zi_sir _ _ _ _ _ _ _ (by omega), zi_sig, zi_sir _ _ _ _ _ _ _ (by omega), zi_sir _ _ _ _ _ _ _ (by omega), zi_sir _ _ _ _ _ _ _ (by omega)]
    have e67 : zi s1 67 0 = zi s 67 0 := by rw [← hs1, zi_sir _ _ _ _ _ _ _ (by omega), zi_sir _ _ _ _ _ _ _ (by omega), zi_sir _ _ _ _ _ _ _ (by omega), zi_sir _ _ _ _ _ _ _ (by omega), zi_sir _ _ _ _ _ _ _ (by omega)]
    have hB1 : B9 s1 := by
      have h0 := h.2.1
      unfold B9 zB9 zL9 at h0 ⊢
      rw [c1 7 (by unfold C3; omega), c1 34 (by unfold C3; omega), (f1 63 (by unfold KU KM; omega) 0).1, e64, e65, e67]
      refine ⟨h0.1, fun x hx => ⟨(h0.2 x hx).1, ?_, fun q => ?_⟩⟩
      · by_cases e : x = j
        · rw [e, upd_at, nI_toInt (by omega)]
          omega
        · rw [upd_ne e]
          exact (h0.2 x hx).2.1
      · by_cases e : x = j
        · rw [e, upd_at] at q
          exact absurd q (by decide)
        · rw [upd_ne e] at q
          exact (h0.2 x hx).2.2 q
    have hm1 := MI_B h f1 c1 hB1
    have hF := MF_KU f1 c1
    have f76 : zi s1 76 0 l = nI n := by rw [(f1 76 (by unfold KU KM; omega) 0).1]; exact en
    have fin : ∀ (r : Int32) (s' : zS), mfx s1 s' → Q r s' := fun r s' hf => hQ r s' (MI_fx hm1 hf) (MF_tr hF (MF_of hf))
    have k78 : KM 78 := km 78 (by omega)
    have k81 : KM 81 := km 81 (by omega)
    have k82 : KM 82 := km 82 (by omega)
    have ipl : vp_in ((10 : Int32) * nI l + nI t) 400 := by
      rw [n_at]
      exact nat_in (by omega) (by omega)
    have key : ∀ (m i : Nat) (v : Int32) (s' : zS), i + m = n → mfx s1 s' → P w (nI l) (nI t) v (nI i) s' := by
      intro m
      induction m with
      | zero =>
        intro i v s' hi hf
        apply hP
        have e76 : zi s' 76 0 l = nI n := by rw [(hf.1 76 (by unfold KM; omega) 0).1]; exact f76
        rw [nI_clamp (show l < 2 ^ 31 by omega), e76]
        refine ⟨il, fun _ => ⟨fun _ => fin _ _ hf, fun _ => ⟨ipl, fun _ => ⟨ipl, ?_⟩, fun _ => fin _ _ hf⟩⟩, fun g => absurd (nI_le (show n ≤ i by omega) (by omega)) g⟩
        rintro _ rfl
        exact fin _ _ (mfx_si hf k81)
      | succ m ih =>
        intro i v s' hi hf
        apply hP
        have e76 : zi s' 76 0 l = nI n := by rw [(hf.1 76 (by unfold KM; omega) 0).1]; exact f76
        rw [nI_clamp (show l < 2 ^ 31 by omega), e76]
        have nx : ∀ (v : Int32) (s' : zS), mfx s1 s' → P w (nI l) (nI t) v (nI i + 1) s' := fun v s' hf => by
          rw [nI_1]
          exact ih (i + 1) v s' (by omega) hf
        have ipt : vp_in ((40 : Int32) * ((10 : Int32) * nI l + nI t) + nI i) 16000 := by
          rw [n_at, n_at40]
          exact nat_in (by omega) (by omega)
        refine ⟨il, fun g => absurd g (nI_ge (by omega) (by omega)), fun _ => ⟨fun _ => ⟨ipt, ?_⟩, fun _ => ⟨fun _ => ⟨ipt, ?_⟩, fun _ => ⟨fun _ => ⟨fun _ => nx _ _ hf, fun _ => ⟨ipt, fun _ => nx _ _ hf, fun _ => nx _ _ hf⟩⟩, fun _ => ⟨ipt, ?_⟩⟩⟩⟩⟩
        · rintro _ rfl
          exact ⟨fun _ => nx _ _ (mfx_si hf k82), fun _ => ⟨ipt, fun _ => nx _ _ (mfx_si hf k82), fun _ => nx _ _ (mfx_si hf k82)⟩⟩
        · rintro _ rfl
          exact ⟨fun _ => nx _ _ (mfx_si hf k82), fun _ => ⟨ipt, fun _ => nx _ _ (mfx_si hf k82), fun _ => nx _ _ (mfx_si hf k82)⟩⟩
        · rintro _ rfl
          exact ⟨fun _ => nx _ _ (mfx_si hf k82), fun _ => ⟨ipt, fun _ => nx _ _ (mfx_si hf k82), fun _ => nx _ _ (mfx_si hf k82)⟩⟩
    exact key n 0 1 _ (by omega) (mfx_si mfx_rf k78)
  have bad1 := bad 1
  have bad2 := bad 2
  have bad7 := bad 7
  refine W_mn ⟨nz0, fun _ => bad1⟩ ⟨fun _ => ⟨fun _ => ?_, fun _ => ⟨fun _ => ?_, fun _ => ?_⟩⟩, nz1⟩
  · refine ⟨ij, fun ne => ⟨fun _ => bad1, fun _ => ⟨fun _ => bad1, fun _ => ⟨fun _ => ⟨fun _ => ⟨ij, fun e => absurd e ne, fun _ => bad7⟩, fun _ => bad2⟩, fun _ => bad1⟩⟩⟩, fun e => ⟨ij, i67 e, ?_⟩⟩
    intro x25 _
    exact ⟨fun _ => bad1, fun _ => ⟨fun _ => bad1, fun _ => ⟨fun _ => ⟨fun _ => ⟨ij, fun e => go 0 e, fun _ => bad7⟩, fun _ => bad2⟩, fun _ => bad1⟩⟩⟩
  · refine ⟨ij, fun ne => ⟨fun _ => bad1, fun _ => ⟨fun _ => bad1, fun _ => ⟨fun _ => ⟨fun _ => ⟨ij, fun e => absurd e ne, fun _ => bad7⟩, fun _ => bad2⟩, fun _ => bad1⟩⟩⟩, fun e => ⟨ij, i67 e, ?_⟩⟩
    intro x25 _
    exact ⟨fun _ => bad1, fun _ => ⟨fun _ => bad1, fun _ => ⟨fun _ => ⟨fun _ => ⟨ij, fun e => go 0 e, fun _ => bad7⟩, fun _ => bad2⟩, fun _ => bad1⟩⟩⟩
  · refine ⟨ij, fun ne => ⟨fun _ => ⟨ij, fun e => absurd e ne, fun _ => bad7⟩, fun _ => bad2⟩, fun e => ⟨ij, i67 e, ?_⟩⟩
    intro x25 _
    exact ⟨fun _ => ⟨ij, fun e => go 1 e, fun _ => bad7⟩, fun _ => bad2⟩

/-! ===== LETTERS, of the reference ===== -/
theorem MF_tr {s s1 s2 : zS} (h1 : MF s s1) (h2 : MF s1 s2) : MF s s2 := ⟨zfx_tr h1.1 h2.1, h2.2.1.trans h1.2.1, h2.2.2.trans h1.2.2⟩
/-- the three numbers stand -/
def C3eq (s s' : zS) : Prop := ∀ i, C3 i → zi s' 54 0 i = zi s 54 0 i
theorem W_tr9 {a : Int32} {s : zS} {Q : Int32 → zS → Prop} (h0 : Q 0 s) (h1 : 0 ≤ a.toInt → a.toInt < 4 → Q 1 s) : Wp_X9_isTray a s Q := by
  unfold Wp_X9_isTray
  simp only [it_lt, it_le, it_0, it_4]
  exact ⟨fun g => h0, fun g1 => ⟨fun g => h0, fun g2 => h1 (by omega) (by omega)⟩⟩
theorem ni40 : (40 : Int32) = nI 40 := rfl
theorem n_at40 {a b : Nat} : (40 : Int32) * nI a + nI b = nI (40 * a + b) := by rw [ni40, pk_mul, nI_add]
/-- only BIRDS' cells changed -/
def KU (k : Nat) : Prop := KM k ∨ k = 54 ∨ k = 64 ∨ k = 65 ∨ k = 67
theorem MI_B {s s' : zS} (h : MI s) (hf : zfx KU s s') (hc : C3eq s s') (hb : B9 s') : MI s' := by
  have hk : ∀ k, (k = 56 ∨ k = 76 ∨ k = 83 ∨ k = 85) → zi s' k 0 = zi s k 0 := fun k hk => (hf k (fun q => by unfold KU KM at q; omega) 0).1
  have h6 := hc 6 (by unfold C3; omega)
  have h34 := hc 34 (by unfold C3; omega)
  unfold MI T9 S9L R9 L9 zL9 at h ⊢
  rw [hk 56 (by omega), hk 76 (by omega), hk 83 (by omega), hk 85 (by omega), h6, h34]
  exact ⟨h.1, hb, h.2.2⟩
theorem MF_KU {s s' : zS} (hf : zfx KU s s') (hc : C3eq s s') : MF s s' := ⟨zfx_mo hf (fun k hk => by unfold KU KM at hk; omega), hc 6 (by unfold C3; omega), hc 7 (by unfold C3; omega)⟩
theorem c8 : ¬ C3 8 := by unfold C3; omega
theorem C3_54 {s s' : zS} {i : Nat} {v : Int32} (h : C3eq s s') (hi : ¬ C3 i) : C3eq s (zsi s' 54 0 i v) := fun j hj => by
  rw [zi_si, if_neg (fun q : 54 = 54 ∧ 0 = 0 ∧ j = i => hi (q.2.2 ▸ hj))]
  exact h j hj
theorem C3_si {s s' : zS} {k r i : Nat} {v : Int32} (h : C3eq s s') (hk : ¬ k = 54) : C3eq s (zsi s' k r i v) := fun j hj => by
  rw [zi_sir _ _ _ _ _ _ _ (fun q => hk q.1.symm)]
  exact h j hj
theorem C3_rf {s : zS} : C3eq s s := fun _ _ => rfl
theorem S9_letter {a b c d : Int32} {s : zS} {Q : Int32 → zS → Prop} (h : MI s) (hQ : ∀ (r : Int32) (s' : zS), MI s' → MF s s' → Q r s') : Wp_X9_letter a b c d s Q := by
  unfold Wp_X9_letter Wp_X9_place
  intro P90 P192 P233 P267 h90 h192 h233 h267
  have bad : ∀ r : Int32, Wp_X9_refuse r s (fun r1 s1 => Q r1 s1) := fun r => rfq h hQ mfx_rf
  refine W_tn h.1 (fun _ => ⟨fun _ => bad 1, nz0⟩) (fun g1 g2 g3 => ⟨nz1, fun _ => ?_⟩)
  refine W_tr9 ⟨fun _ => bad 1, nz0⟩ (fun g4 g5 => ⟨nz1, fun _ => ⟨fun _ => bad 1, fun g6 => ⟨fun _ => bad 1, fun g7 => ?_⟩⟩⟩)
  rw [it_lt, it_1] at g6
  rw [it_lt, it_40] at g7
  obtain ⟨t, ht, rfl⟩ := n_ofl (a := b) (n := 4) g4 g5
  obtain ⟨n, hn, rfl⟩ := n_of (a := c) (n := 40) (by omega) (by omega)
  have it' : vp_in (nI t) 4 := nat_in ht (by omega)
  have k80 : KM 80 := km 80 (by omega)
  have k81 : KM 81 := km 81 (by omega)
  have k82 : KM 82 := km 82 (by omega)
  -- the bytes are looked at
  suffices hs : P90 0 s from W_mn ⟨nz0, fun _ => bad 1⟩ ⟨fun _ => ⟨fun _ => ⟨it', fun _ => ⟨it', fun _ => hs, fun _ => bad 4⟩, fun _ => bad 3⟩, fun _ => bad 2⟩, nz1⟩
  have look : ∀ (m i : Nat), i + m = n → P90 (nI i) s := by
    intro m
    induction m with
    | succ m ih =>
      intro i hi
      apply h90
      rw [n_at60, nI_1]
      have ii : vp_in (nI (60 * t + i)) 240 := nat_in (by omega) (by omega)
      exact ⟨fun g => absurd g (nI_ge (by omega) (by omega)), fun _ => ⟨ii, fun _ => bad 1, fun _ => ⟨ii, fun _ => ih (i + 1) (by omega), fun _ => bad 1⟩⟩⟩
    | zero =>
      intro i hi
      apply h90
      refine ⟨fun _ => ⟨fun ne => ?_, fun _ => bad 5⟩, fun g => absurd (nI_le (show n ≤ i by omega) (by omega)) g⟩
      obtain ⟨l, hl, el⟩ := n_of (a := zi s 54 0 34) (n := 40) h.2.2.1.1.1 h.2.2.1.1.2
      have hl40 : l < 40 := by
        rcases Nat.lt_or_ge l 40 with q | q
        · exact q
        · exfalso
          obtain rfl : l = 40 := by omega
          exact ne el
      rw [el, nI_1 l]
      have il : vp_in (nI l) 40 := nat_in hl40 (by omega)
      rintro _ rfl _ rfl _ rfl
      refine ⟨il, ?_⟩
      rintro _ rfl
      rw [nI_clamp (by omega)]
      generalize hs1 : zsi (zsi (zsi s 54 0 34 (nI (l + 1))) 54 0 8 d) 76 0 l (nI n) = s1
      have f1 : zfx (fun k => k = 54 ∨ k = 76) s s1 := by rw [← hs1]; exact zfx_si (zfx_si (zfx1 (Or.inl rfl)) (Or.inl rfl)) (Or.inr rfl)
      have e76 : zi s1 76 0 = upd (zi s 76 0) l (nI n) := by rw [← hs1, zi_sig, zi_sir _ _ _ _ _ _ _ (by omega), zi_sir _ _ _ _ _ _ _ (by omega)]
      have e34 : zi s1 54 0 34 = nI (l + 1) := by rw [← hs1, zi_sir _ _ _ _ _ _ _ (by omega), zi_si, if_neg (by omega), zi_si, if_pos ⟨rfl, rfl, rfl⟩]
      have e6 : zi s1 54 0 6 = zi s 54 0 6 := by rw [← hs1, zi_sir _ _ _ _ _ _ _ (by omega), zi_si, if_neg (by omega), zi_si, if_neg (by omega)]
      have e7 : zi s1 54 0 7 = zi s 54 0 7 := by rw [← hs1, zi_sir _ _ _ _ _ _ _ (by omega), zi_si, if_neg (by omega), zi_si, if_neg (by omega)]
      have hm1 : MI s1 := by
        have hk : ∀ k, ¬ (k = 54 ∨ k = 76) → zi s1 k 0 = zi s k 0 := fun k hk => (f1 k hk 0).1
        unfold MI T9 B9 S9L R9 L9 zB9 zL9 at h ⊢
        rw [el, nI_toInt (by omega)] at h
        rw [hk 56 (by omega), hk 63 (by omega), hk 64 (by omega), hk 65 (by omega), hk 67 (by omega), hk 83 (by omega), hk 85 (by omega), e6, e7, e34, e76, nI_toInt (by omega)]
        refine ⟨h.1, ⟨h.2.1.1, fun x hx => ⟨(h.2.1.2 x hx).1, (h.2.1.2 x hx).2.1, fun q => ?_⟩⟩, ⟨by omega, fun x hx => ?_⟩, h.2.2.2⟩
        · have := (h.2.1.2 x hx).2.2 q
          omega
        · by_cases e : x = l
          · rw [e, upd_at, nI_toInt (by omega)]
            omega
          · rw [upd_ne e]
            exact h.2.2.1.2 x (by omega)
      have hF : MF s s1 := ⟨zfx_mo f1 (fun k hk => by omega), e6, e7⟩
      have fin : ∀ (r : Int32) (s' : zS), mfx s1 s' → Q r s' := fun r s' hf => hQ r s' (MI_fx hm1 hf) (MF_tr hF (MF_of hf))
      have towns : ∀ (m j : Nat) (s' : zS), j + m = 10 → mfx s1 s' → P233 (nI l) (nI j) s' := by
        intro m
        induction m with
        | zero =>
          intro j s' hj hf
          apply h233
          obtain rfl : j = 10 := by omega
          refine ⟨fun _ => ?_, fun g => absurd (Int32.le_refl _) g⟩
          rintro _ rfl
          exact fin _ _ (mfx_54 hf c0)
        | succ m ih =>
          intro j s' hj hf
          have there : ∀ (q k : Nat) (s2 : zS), k + q = 40 → mfx s1 s2 → P267 (nI l) (nI j) (nI k) s2 := by
            intro q
            induction q with
            | zero =>
              intro k s2 hk hf2
              apply h267
              obtain rfl : k = 40 := by omega
              refine ⟨fun _ => ?_, fun g => absurd (Int32.le_refl _) g⟩
              rw [nI_1 j]
              exact ih (j + 1) s2 (by omega) hf2
            | succ q ihq =>
              intro k s2 hk hf2
              apply h267
              have ik : vp_in (nI (40 * (10 * l + j) + k)) 16000 := nat_in (by omega) (by omega)
              rw [n_at]
              dsimp only
              rw [n_at40, nI_1 k]
              refine ⟨fun g => absurd g (nI_ge (a := k) (b := 40) (by omega) (by omega)), fun _ => ⟨fun _ => ⟨ik, ?_⟩, fun _ => ⟨ik, ?_⟩⟩⟩
              · rintro _ rfl
                exact ihq (k + 1) _ (by omega) (mfx_si hf2 k82)
              · rintro _ rfl
                exact ihq (k + 1) _ (by omega) (mfx_si hf2 k82)
          apply h233
          have ij : vp_in (nI (10 * l + j)) 400 := nat_in (by omega) (by omega)
          rw [n_at]
          refine ⟨fun g => absurd g (nI_ge (a := j) (b := 10) (by omega) (by omega)), fun _ => ⟨fun _ => ⟨ij, ?_⟩, fun _ => ⟨ij, ?_⟩⟩⟩
          · rintro _ rfl
            exact there 40 0 _ (by omega) (mfx_si hf k81)
          · rintro _ rfl
            exact there 40 0 _ (by omega) (mfx_si hf k81)
      have bytes : ∀ (m i : Nat) (s' : zS), i + m = n → mfx s1 s' → P192 (nI l) (nI i) s' := by
        intro m
        induction m with
        | zero =>
          intro i s' hi hf
          apply h192
          exact ⟨fun _ => towns 10 0 s' (by omega) hf, fun g => absurd (nI_le (show n ≤ i by omega) (by omega)) g⟩
        | succ m ih =>
          intro i s' hi hf
          apply h192
          rw [n_at60, n_at40, nI_1 i]
          refine ⟨fun g => absurd g (nI_ge (by omega) (by omega)), fun _ => ⟨nat_in (by omega) (by omega), nat_in (by omega) (by omega), ?_⟩⟩
          rintro _ rfl
          exact ih (i + 1) _ (by omega) (mfx_si hf k80)
      exact bytes n 0 s1 (by omega) mfx_rf
  exact look n 0 (by omega)
theorem in_place {l : Nat} {b : Int32} (hl : l < 40) (hb : 0 ≤ b.toInt) (hb2 : b.toInt < 10) : vp_in ((10 : Int32) * nI l + b) 400 := by
  obtain ⟨j, hj, rfl⟩ := n_ofl (a := b) (n := 10) hb hb2
  rw [n_at]
  exact nat_in (by omega) (by omega)
theorem S9_fly {a b c : Int32} {s : zS} {Q : Int32 → zS → Prop} (h : MI s) (hQ : ∀ (r : Int32) (s' : zS), MI s' → MF s s' → Q r s') : Wp_X9_fly a b c s Q := by
  unfold Wp_X9_fly Wp_X9_at Wp_X9_place
  have bad : ∀ r : Int32, Wp_X9_is r s (fun r1 s1 => Q r1 s1) := fun r => isq h hQ mfx_rf
  refine W_bd h.2.1 ⟨fun _ => bad 1, nz0⟩ (fun g1 g2 g3 => ⟨nz1, fun _ => ?_⟩)
  refine W_lt h.2.2.1 ⟨fun _ => bad 1, nz0⟩ (fun g4 g5 g6 => ⟨nz1, fun _ => ?_⟩)
  obtain ⟨j, hj, rfl⟩ := n_ofl (a := a) (n := 60) g1 g3
  obtain ⟨l, hl, rfl⟩ := n_ofl (a := b) (n := 40) g4 g6
  rw [nI_toInt (by omega)] at g2 g5
  have ij : vp_in (nI j) 60 := nat_in hj (by omega)
  have il : vp_in (nI l) 40 := nat_in hl (by omega)
  have hb := h.2.1.2 j g2
  have iat := in_at hb.2.1.1 hb.2.1.2 hb.1.1 hb.1.2
  have ipl := in_place hl hb.2.1.1 hb.2.1.2
  rw [nI_clamp (by omega)]
  refine W_mn ⟨nz0, fun _ => bad 1⟩ ⟨fun _ => ⟨fun _ => ⟨ij, fun _ => bad 7, fun _ => ⟨ij, fun _ => bad 7, fun _ => ⟨ij, ij, fun _ => ⟨ij, ij, iat, fun _ => ⟨ij, ipl, fun _ => ?_, fun _ => bad 7⟩, fun _ => bad 6⟩, fun _ => bad 7⟩⟩⟩, fun _ => bad 2⟩, nz1⟩
  rintro _ rfl
  refine ⟨ij, ?_⟩
  rintro _ rfl
  refine ⟨ij, ?_⟩
  rintro _ rfl
  refine ⟨il, il, ?_⟩
  rintro _ rfl
  rw [nI_clamp (by omega)]
  generalize hs1 : zsi (zsi (zsi s 54 0 8 c) 65 0 j 1) 67 0 j (nI l) = s1
  have f1 : zfx KU s s1 := by rw [← hs1]; exact zfx_si (zfx_si (zfx1 (by unfold KU; omega)) (by unfold KU; omega)) (by unfold KU; omega)
  have c1 : C3eq s s1 := by rw [← hs1]; exact C3_si (C3_si (C3_54 C3_rf c8) (by omega)) (by omega)
  have e65 : zi s1 65 0 = upd (zi s 65 0) j 1 := by rw [← hs1, zi_sir _ _ _ _ _ _ _ (by omega), zi_sig, zi_sir _ _ _ _ _ _ _ (by omega)]
  have e67 : zi s1 67 0 = upd (zi s 67 0) j (nI l) := by rw [← hs1, zi_sig, zi_sir _ _ _ _ _ _ _ (by omega), zi_sir _ _ _ _ _ _ _ (by omega)]
  have e64 : zi s1 64 0 = zi s 64 0 := by rw [← hs1, zi_sir _ _ _ _ _ _ _ (by omega), zi_sir _ _ _ _ _ _ _ (by omega), zi_sir _ _ _ _ _ _ _ (by omega)]
  have hB1 : B9 s1 := by
    have h0 := h.2.1
    unfold B9 zB9 zL9 at h0 ⊢
    unfold zL9 at g5
    rw [c1 7 (by unfold C3; omega), c1 34 (by unfold C3; omega), (f1 63 (by unfold KU KM; omega) 0).1, e64, e65, e67]
    refine ⟨h0.1, fun x hx => ⟨(h0.2 x hx).1, (h0.2 x hx).2.1, fun q => ?_⟩⟩
    by_cases e : x = j
    · rw [e, upd_at, nI_toInt (by omega)]
      omega
    · rw [upd_ne e] at q ⊢
      exact (h0.2 x hx).2.2 q
  have hm1 := MI_B h f1 c1 hB1
  have hF := MF_KU f1 c1
  exact isq hm1 (fun r s' m f => hQ r s' m (MF_tr hF f)) (mfx_si mfx_rf (km 77 (by omega)))
theorem S9_lose {a b : Int32} {s : zS} {Q : Int32 → zS → Prop} (h : MI s) (hQ : ∀ (r : Int32) (s' : zS), MI s' → MF s s' → Q r s') : Wp_X9_lose a b s Q := by
  unfold Wp_X9_lose
  have bad : ∀ r : Int32, Wp_X9_is r s (fun r1 s1 => Q r1 s1) := fun r => isq h hQ mfx_rf
  refine W_bd h.2.1 ⟨fun _ => bad 1, nz0⟩ (fun g1 g2 g3 => ⟨nz1, fun _ => ?_⟩)
  obtain ⟨j, hj, rfl⟩ := n_ofl (a := a) (n := 60) g1 g3
  rw [nI_toInt (by omega)] at g2
  have ij : vp_in (nI j) 60 := nat_in hj (by omega)
  rw [nI_clamp (by omega)]
  refine W_mn ⟨nz0, fun _ => bad 1⟩ ⟨fun _ => ⟨fun _ => ⟨ij, fun e1 => ?_, fun _ => bad 7⟩, fun _ => bad 2⟩, nz1⟩
  have hl := (h.2.1.2 j g2).2.2 e1
  have hl40 := h.2.2.1.1.2
  rintro _ rfl
  refine ⟨ij, ?_⟩
  rintro _ rfl
  generalize hs1 : zsi (zsi s 54 0 8 b) 65 0 j 2 = s1
  have f1 : zfx KU s s1 := by rw [← hs1]; exact zfx_si (zfx1 (by unfold KU; omega)) (by unfold KU; omega)
  have c1 : C3eq s s1 := by rw [← hs1]; exact C3_si (C3_54 C3_rf c8) (by omega)
  have e65 : zi s1 65 0 = upd (zi s 65 0) j 2 := by rw [← hs1, zi_sig, zi_sir _ _ _ _ _ _ _ (by omega)]
  have e67 : zi s1 67 0 = zi s 67 0 := by rw [← hs1, zi_sir _ _ _ _ _ _ _ (by omega), zi_sir _ _ _ _ _ _ _ (by omega)]
  have e64 : zi s1 64 0 = zi s 64 0 := by rw [← hs1, zi_sir _ _ _ _ _ _ _ (by omega), zi_sir _ _ _ _ _ _ _ (by omega)]
  have hB1 : B9 s1 := by
    have h0 := h.2.1
    unfold B9 zB9 zL9 at h0 ⊢
    rw [c1 7 (by unfold C3; omega), c1 34 (by unfold C3; omega), (f1 63 (by unfold KU KM; omega) 0).1, e64, e65, e67]
    refine ⟨h0.1, fun x hx => ⟨(h0.2 x hx).1, (h0.2 x hx).2.1, fun q => ?_⟩⟩
    by_cases e : x = j
    · rw [e, upd_at] at q
      exact absurd q (by decide)
    · rw [upd_ne e] at q
      exact (h0.2 x hx).2.2 q
  rw [e67]
  have il : vp_in (zi s 67 0 j) 40 := in_of hl.1 (by omega)
  refine ⟨ij, il, il, ?_⟩
  rintro _ rfl
  have hm1 := MI_B h f1 c1 hB1
  have hF := MF_KU f1 c1
  exact isq hm1 (fun r s' m f => hQ r s' m (MF_tr hF f)) (mfx_si mfx_rf (km 79 (by omega)))
theorem S9_knows {a b : Int32} {s : zS} {Q : Int32 → zS → Prop} (h : MI s) (hQ : ∀ (r : Int32) (s' : zS), MI s' → MF s s' → Q r s') : Wp_X9_knows a b s Q := by
  unfold Wp_X9_knows Wp_X9_place
  have bad : ∀ r : Int32, Wp_X9_refuse r s (fun r1 s1 => Q r1 s1) := fun r => rfq h hQ mfx_rf
  refine W_lt h.2.2.1 ⟨fun _ => bad 1, nz0⟩ (fun g4 g5 g6 => ⟨nz1, fun _ => ?_⟩)
  refine W_tn h.1 (fun _ => ⟨nz0, fun _ => bad 1⟩) (fun g1 g2 g3 => ⟨fun _ => ?_, nz1⟩)
  obtain ⟨l, hl, rfl⟩ := n_ofl (a := a) (n := 40) g4 g6
  have ipl := in_place hl g1 g3
  refine ⟨ipl, fun _ => ?_, fun _ => bad 7⟩
  rintro _ rfl
  exact ⟨ipl, fin9 h hQ s09⟩
theorem S9_joined {a b c : Int32} {s : zS} {Q : Int32 → zS → Prop} (h : MI s) (hQ : ∀ (r : Int32) (s' : zS), MI s' → MF s s' → Q r s') : Wp_X9_joined a b c s Q := by
  unfold Wp_X9_joined Wp_X9_place
  have bad : ∀ r : Int32, Wp_X9_refuse r s (fun r1 s1 => Q r1 s1) := fun r => rfq h hQ mfx_rf
  refine W_lt h.2.2.1 ⟨fun _ => bad 1, nz0⟩ (fun g4 g5 g6 => ⟨nz1, fun _ => ?_⟩)
  refine W_tn h.1 (fun _ => ⟨nz0, fun _ => bad 1⟩) (fun g1 g2 g3 => ⟨fun _ => ⟨fun _ => bad 6, fun g7 => ?_⟩, nz1⟩)
  obtain ⟨l, hl, rfl⟩ := n_ofl (a := a) (n := 40) g4 g6
  obtain ⟨t, ht, rfl⟩ := n_ofl (a := b) (n := 10) g1 g3
  rw [nI_toInt (by omega)] at g5
  have hz := h.2.2.1.2 l g5
  rw [nI_clamp (by omega)]
  refine ⟨nat_in hl (by omega), fun g8 => ?_, fun _ => bad 6⟩
  rw [it_lt, it_0] at g7
  rw [it_lt] at g8
  obtain ⟨k, hk, rfl⟩ := n_ofl (a := c) (n := 40) (by omega) (by omega)
  rintro _ rfl
  rw [n_at, n_at40, n_at40]
  exact ⟨nat_in (by omega) (by omega), fun _ => fin9 h hQ s09, fun _ => ⟨nat_in (by omega) (by omega), fin9 h hQ s09⟩⟩
theorem S9_copies {a b : Int32} {s : zS} {Q : Int32 → zS → Prop} (h : MI s) (hQ : ∀ (r : Int32) (s' : zS), MI s' → MF s s' → Q r s') : Wp_X9_copies a b s Q := by
  unfold Wp_X9_copies
  have bad : ∀ r : Int32, Wp_X9_refuse r s (fun r1 s1 => Q r1 s1) := fun r => rfq h hQ mfx_rf
  refine W_lt h.2.2.1 ⟨fun _ => bad 1, nz0⟩ (fun g4 g5 g6 => ⟨nz1, fun _ => ⟨fun _ => bad 1, fun _ => ⟨fun _ => ?_, fun _ => bad 1⟩⟩⟩)
  have ia : vp_in a 40 := in_of g4 g6
  rintro _ rfl
  exact ⟨fun _ => ⟨fun _ => ⟨ia, fin9 h hQ s09⟩, fun _ => ⟨ia, fin9 h hQ s09⟩⟩, fun _ => ⟨ia, fin9 h hQ s09⟩⟩

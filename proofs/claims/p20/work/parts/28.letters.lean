/-! ===== LETTERS: the class comes back ===== -/
theorem L8_of {s : zS} (h : CI s) : L8 s := h.2.2.2.2
theorem W_begins {t n : Nat} {s : zS} {Q : Int32 → zS → Prop} (ht : t < 4) (hn : n ≤ 60) (h0 : Q 0 s) (h1 : Q 1 s) : Wp_X7_beginsWithBytes (nI t) (nI n) s Q := by
  unfold Wp_X7_beginsWithBytes
  intro P hP
  have key : ∀ m i : Nat, i + m = n → P (nI i) s := by
    intro m
    induction m with
    | zero =>
      intro i hi
      apply hP
      obtain rfl : i = n := by omega
      exact ⟨fun _ => h1, fun g => absurd (Int32.le_refl _) g⟩
    | succ m ih =>
      intro i hi
      apply hP
      have ii : vp_in (nI i) 60 := nat_in (by omega) (by omega)
      have it' : vp_in (nI t) 4 := nat_in ht (by omega)
      have nx : P (nI i + 1) s := by rw [nI_1]; exact ih (i + 1) (by omega)
      exact ⟨fun _ => h1, fun _ => ⟨it', ii, fun _ => h0, fun _ => ⟨it', ii, fun _ => nx, fun _ => h0⟩⟩⟩
  exact key n 0 (by omega)
theorem W_fill45 {l : Nat} {v : Int32} {s : zS} {Q : zS → Prop} (hQ : ∀ s' : zS, zfx (fun k => k = 45) s s' → Q s') : Wp_J7_fill_53178__45 l v s Q := by
  unfold Wp_J7_fill_53178__45
  intro P hP
  have key : ∀ (n i : Nat) (s' : zS), i + n = 10 → zfx (fun k => k = 45) s s' → P (nI i) 10 s' := by
    intro n
    induction n with
    | zero =>
      intro i s' hi hf
      apply hP
      obtain rfl : i = 10 := by omega
      exact ⟨fun _ => hQ s' hf, fun g => absurd (Int32.le_refl _) g⟩
    | succ n ih =>
      intro i s' hi hf
      apply hP
      refine ⟨fun g => absurd g (nI_ge (a := i) (b := 10) (by omega) (by omega)), fun _ => ⟨nat_in (by omega) (by omega), ?_⟩⟩
      rintro _ rfl
      rw [nI_1]
      exact ih (i + 1) _ (by omega) (zfx_si hf rfl)
  exact key 10 0 s rfl zfx_rf
def KL (k : Nat) : Prop := k = 41 ∨ k = 45 ∨ k = 47
theorem W_addL {a n : Nat} {x : Int32} {b l : Nat} {s : zS} {Q : Int32 → zS → Prop} (ha : a < 10) (hn : n ≤ 40) (hl : l < 40) (e38 : zi s 38 0 0 = nI l) (hQ : ∀ s' : zS, zfx KL (zsi (zsi s 38 0 0 (nI (l + 1))) 39 0 l (nI n)) s' → Q (nI l) s') : Wp_X4_add__6 (nI a) b (nI n) x s Q := by
  unfold Wp_X4_add__6
  intro P hP
  have k41 : KL 41 := Or.inl rfl
  have k45 : KL 45 := Or.inr (Or.inl rfl)
  have k47 : KL 47 := Or.inr (Or.inr rfl)
  have il : vp_in (nI l) 40 := nat_in hl (by omega)
  have ia : vp_in (nI a) 10 := nat_in ha (by omega)
  rw [e38, nI_1]
  rintro _ rfl _ rfl
  refine ⟨il, ?_⟩
  rintro _ rfl
  rw [nI_clamp (by omega)]
  generalize zsi (zsi s 38 0 0 (nI (l + 1))) 39 0 l (nI n) = s1 at hQ
  have key : ∀ (m i : Nat) (s' : zS), i + m = n → zfx KL s1 s' → P (nI l) (nI i) s' := by
    intro m
    induction m with
    | zero =>
      intro i s' hi hf
      apply hP
      obtain rfl : i = n := by omega
      refine ⟨fun _ => ⟨il, W_fill45 (fun s2 hf2 => ⟨il, ia, ?_⟩)⟩, fun g => absurd (Int32.le_refl _) g⟩
      rintro _ rfl
      refine ⟨il, ?_⟩
      unfold Wp_X4_allOf
      refine ⟨ia, ?_⟩
      rintro _ rfl
      exact hQ _ (zfx_sj (zfx_si (zfx_tr hf (zfx_mo hf2 (fun k hk => by rw [hk]; exact k45))) k45) k47)
    | succ m ih =>
      intro i s' hi hf
      apply hP
      refine ⟨fun g => absurd g (nI_ge (by omega) (by omega)), fun _ => ⟨fun g => absurd g (nI_ge (a := i) (b := 60) (by omega) (by omega)), fun _ => ⟨il, nat_in (by omega) (by omega), nat_in (by omega) (by omega), ?_⟩⟩⟩
      rintro _ rfl
      rw [nI_1]
      exact ih (i + 1) _ (by omega) (zfx_si hf k41)
  exact key n 0 s1 (by omega) zfx_rf
theorem S8_letter {a b c d : Int32} {s : zS} {Q : Int32 → zS → Prop} (h : CI s) (hQ : ∀ (r : Int32) (s' : zS), CI s' → zfx KE s s' → Q r s') : Wp_X8_letter a b c d s Q := by
  unfold Wp_X8_letter Wp_X8_letterFault
  have ref : ∀ r : Int32, ¬ r = 0 → ∀ F : zS → Prop, ∀ s3 : zS, s3 = zsi s 0 0 8 r → (((zi s3 0 0 8) = 0 → F s3) ∧ (¬ (zi s3 0 0 8) = 0 → Q (-1) s3)) := fun r hr F => st_of (fun q => absurd q hr) (fun _ => fin8 h hQ s0)
  refine W_isTown h.1 (fun _ => ⟨fun _ => ref 1 one_nz _, fun q => absurd rfl q⟩) (fun g1 g2 g3 => ⟨fun q => absurd q one_nz, fun _ => ?_⟩)
  refine W_isTray (fun _ => ⟨fun q => absurd rfl q, fun _ => ref 1 one_nz _⟩) (fun g4 g5 => ⟨fun _ => ?_, fun q => absurd q one_nz⟩)
  refine W_within (fun _ => ⟨fun _ => ref 1 one_nz _, fun q => absurd rfl q⟩) (fun g6 g7 => ⟨fun q => absurd q one_nz, fun _ => ?_⟩)
  refine W_isMinute ⟨fun q => absurd rfl q, fun _ => ref 1 one_nz _⟩ ⟨fun _ => ⟨fun _ => ?_, fun _ => ref 2 (by decide) _⟩, fun q => absurd q one_nz⟩
  rw [it_1] at g6
  rw [it_40] at g7
  obtain ⟨t, ht, rfl⟩ := n_ofl (a := b) (n := 4) g4 g5
  obtain ⟨n, hn, rfl⟩ := n_of (a := c) (n := 40) (by omega) g7
  obtain ⟨v, hv, rfl⟩ := n_ofl (a := a) (n := 10) g1 g3
  have it' : vp_in (nI t) 4 := nat_in ht (by omega)
  refine W_missing ht (fun _ => ⟨fun _ => ⟨it', fun _ => ?_, fun _ => ref 4 (by decide) _⟩, fun q => absurd rfl q⟩) (fun _ => ⟨fun q => absurd q one_nz, fun _ => ref 3 (by decide) _⟩)
  refine W_begins ht (by omega) ⟨fun q => absurd rfl q, fun _ => ref 1 one_nz _⟩ ⟨fun _ => ⟨fun _ => ref 5 (by decide) _, fun g8 => ?_⟩, fun q => absurd q one_nz⟩
  refine st_of (fun _ => ?_) (fun q => absurd rfl q)
  rintro _ rfl
  have lc := h.2.2.1.1
  unfold zLc at lc
  rw [it_le, it_40] at g8
  obtain ⟨l, hl, el⟩ := n_ofl (a := zi s 38 0 0) (n := 40) lc.1 (by omega)
  have hf1 : zfx KI s (zsi (zsi s 0 0 8 0) 0 0 9 d) := zfx_si s0 ki0
  have e38 : zi (zsi (zsi s 0 0 8 0) 0 0 9 d) 38 0 0 = nI l := by rw [(hf1 38 (by unfold KI; omega) 0).1]; exact el
  refine ⟨it', W_addL hv hn hl e38 (fun s' hf => ?_)⟩
  have hc1 := CI_KI h hf1
  generalize zsi (zsi s 0 0 8 0) 0 0 9 d = s1 at hf1 e38 hf hc1
  generalize hs2 : zsi (zsi s1 38 0 0 (nI (l + 1))) 39 0 l (nI n) = s2 at hf
  have hf2 : zfx (fun k => k = 38 ∨ k = 39) s1 s2 := by rw [← hs2]; exact zfx_si (zfx1 (Or.inl rfl)) (Or.inr rfl)
  have d38 : zi s2 38 0 0 = nI (l + 1) := by rw [← hs2, zi_sir _ _ _ _ _ _ _ (by omega), zi_si, if_pos ⟨rfl, rfl, rfl⟩]
  have d39 : zi s2 39 0 = upd (zi s1 39 0) l (nI n) := by rw [← hs2, zi_sig, zi_sir _ _ _ _ _ _ _ (by omega)]
  have hL2 : LI s2 := by
    have cL := hc1.2.2.1
    unfold LI zLc zNb at cL ⊢
    rw [e38, nI_toInt (by omega)] at cL
    rw [d38, d39, nI_toInt (by omega), (hf2 14 (by omega) 0).1, (hf2 17 (by omega) 0).1, (hf2 19 (by omega) 0).1]
    refine ⟨by omega, fun c hc h1 => ?_, fun c hc => ?_⟩
    · have := cL.2.1 c hc h1
      omega
    · by_cases e : c = l
      · rw [e, upd_at, nI_toInt (by omega)]
        omega
      · rw [upd_ne e]
        exact cL.2.2 c (by omega)
  have hc2 : CI s2 := CI_2 hc1 (BI_fr (fun k hk => by omega) hc1.2.1 hf2) hL2 (hf2 7 (by omega) 0).1 (hf2 49 (by omega) 0).1 (hf2 4 (by omega) 0).1
  have hkl : ∀ k, KL k → KI k := fun k hk => by unfold KL at hk; unfold KI; omega
  refine hQ _ s' (CI_KI hc2 (zfx_mo hf hkl)) ?_
  exact zfx_tr (zfx_mo hf1 (fun _ => KI_KE)) (zfx_tr (zfx_mo hf2 (fun k hk => by unfold KE; omega)) (zfx_mo hf (fun k hk => KI_KE (hkl k hk))))
theorem CI_st {s : zS} {v : Int32} (h : CI s) : CI (zsi (zsi s 0 0 8 0) 0 0 9 v) := CI_KI h (zfx_si s0 ki0)
theorem st_fr {s : zS} {v : Int32} : zfx KI s (zsi (zsi s 0 0 8 0) 0 0 9 v) := zfx_si s0 ki0
theorem S8_fly {a b c : Int32} {s : zS} {Q : Int32 → zS → Prop} (h : CI s) (hQ : ∀ (r : Int32) (s' : zS), CI s' → zfx KE s s' → Q r s') : Wp_X8_fly a b c s Q := by
  unfold Wp_X8_fly Wp_X8_flyFault
  have ref : ∀ r : Int32, ¬ r = 0 → ∀ F : zS → Prop, ∀ s3 : zS, s3 = zsi s 0 0 8 r → (((zi s3 0 0 8) = 0 → F s3) ∧ (¬ (zi s3 0 0 8) = 0 → Q 0 s3)) := fun r hr F => st_of (fun q => absurd q hr) (fun _ => fin8 h hQ s0)
  refine W_isBird h.2.1 (fun _ => ⟨fun _ => ref 1 one_nz _, fun q => absurd rfl q⟩) (fun g1 g2 g3 => ⟨fun q => absurd q one_nz, fun _ => ?_⟩)
  refine W_isLetter h.2.2.1 (fun _ => ⟨fun _ => ref 1 one_nz _, fun q => absurd rfl q⟩) (fun g4 g5 g6 => ⟨fun q => absurd q one_nz, fun _ => ?_⟩)
  refine W_isMinute ⟨fun q => absurd rfl q, fun _ => ref 1 one_nz _⟩ ⟨fun _ => ⟨fun _ => ?_, fun _ => ref 2 (by decide) _⟩, fun q => absurd q one_nz⟩
  obtain ⟨j, hj, rfl⟩ := n_ofl (a := a) (n := 60) g1 g3
  rw [nI_toInt (by omega)] at g2
  have ij : vp_in (nI j) 60 := nat_in hj (by omega)
  have il : vp_in b 40 := in_of g4 g6
  unfold Wp_X1_canFlyOff Wp_X6_isRoad
  rw [nI_clamp (by omega)]
  have no : (¬ (0 : Int32) = 0 → False) := fun q => q rfl
  have n7 : ∀ F : Prop, (¬ (0 : Int32) = 0 → F) := fun F q => absurd rfl q
  refine ⟨ij, fun _ => ⟨n7 _, fun _ => ref 7 (by decide) _⟩, fun h0 => ⟨ij, fun _ => ⟨n7 _, fun _ => ref 7 (by decide) _⟩, fun _ => ⟨ij, ij, fun _ => ⟨n7 _, fun _ => ref 7 (by decide) _⟩, fun _ => ⟨fun _ => ⟨ij, ?_⟩, fun q => absurd q one_nz⟩⟩⟩⟩
  rintro _ rfl
  have hb := h.2.1.2.1 j g2
  have ht := hb.2.1 h0
  have it' : vp_in (zi s 16 0 j) 10 := in_of ht.1 ht.2
  refine ⟨ij, it', in_of hb.1.1 hb.1.2, fun _ => ⟨n7 _, fun _ => ref 6 (by decide) _⟩, fun _ => ⟨fun _ => ⟨il, it', fun _ => ?_, fun _ => ref 7 (by decide) _⟩, fun q => absurd q one_nz⟩⟩
  refine st_of (fun _ => ?_) (fun q => absurd rfl q)
  rintro _ rfl
  have hc1 := CI_st (v := c) h
  have hf1 := st_fr (s := s) (v := c)
  generalize zsi (zsi s 0 0 8 0) 0 0 9 c = s1 at hc1 hf1
  have d17 : zi s1 17 0 = zi s 17 0 := (hf1 17 (by unfold KI; omega) 0).1
  have d14 : zNb s1 = zNb s := by unfold zNb; rw [(hf1 14 (by unfold KI; omega) 0).1]
  have d38 : zLc s1 = zLc s := by unfold zLc; rw [(hf1 38 (by unfold KI; omega) 0).1]
  unfold Wp_X1_flyOff
  refine W_leave hc1.2.1 (by rw [d14]; exact g2) (by rw [d17]; exact h0) (fun s2 hx f2 => ⟨ij, ?_⟩)
  rintro _ rfl
  refine ⟨ij, ?_⟩
  rintro _ rfl
  refine ⟨il, ?_⟩
  rintro _ rfl
  rw [nI_clamp (by omega)]
  generalize hs3 : zsi (zsi s2 17 0 j 1) 19 0 j b = s3
  have f3 : zfx (fun k => k = 17 ∨ k = 19) s2 s3 := by rw [← hs3]; exact zfx_si (zfx1 (Or.inl rfl)) (Or.inr rfl)
  have e17 : zi s3 17 0 = upd (zi s1 17 0) j 1 := by rw [← hs3, zi_sir _ _ _ _ _ _ _ (by omega), zi_sig, (f2 17 (by omega) 0).1]
  have e19 : zi s3 19 0 = upd (zi s1 19 0) j b := by rw [← hs3, zi_sig, zi_sir _ _ _ _ _ _ _ (by omega), (f2 19 (by omega) 0).1]
  have f13 : zfx (fun k => k = 16 ∨ k = 17 ∨ k = 19 ∨ k = 21) s1 s3 := zfx_tr (zfx_mo f2 (fun k hk => by omega)) (zfx_mo f3 (fun k hk => by omega))
  have hB3 : BI s3 := by
    have e14 : zNb s3 = zNb s2 := by unfold zNb; rw [(f3 14 (by omega) 0).1]
    unfold BX at hx
    unfold BI
    have e17b : zi s3 17 0 = upd (zi s2 17 0) j 1 := by rw [e17, (f2 17 (by omega) 0).1]
    rw [e14, (f3 15 (by omega) 0).1, (f3 16 (by omega) 0).1, e17b]
    refine ⟨hx.1, fun c' hc' => ⟨(hx.2.1 c' hc').1, ?_⟩, fun x y hx9 hy9 => ?_⟩
    · by_cases e : c' = j
      · rw [e, upd_at]
        exact ⟨fun q => absurd q one_nz, fun _ => hx.2.2.1⟩
      · rw [upd_ne e]
        exact (hx.2.1 c' hc').2 e
    · rw [(f3 21 (by omega) x).1]
      exact hx.2.2.2 x y hx9 hy9
  have hL3 : LI s3 := by
    have cL := hc1.2.2.1
    unfold LI at cL ⊢
    have e14 : zNb s3 = zNb s1 := by unfold zNb; rw [(f13 14 (by omega) 0).1]
    have e38 : zLc s3 = zLc s1 := by unfold zLc; rw [(f13 38 (by omega) 0).1]
    rw [e14, e38, e17, e19, (f13 39 (by omega) 0).1]
    refine ⟨cL.1, fun x hx9 h1 => ?_, cL.2.2⟩
    by_cases e : x = j
    · rw [e, upd_at, d38]
      exact ⟨g4, g5⟩
    · rw [upd_ne e] at h1 ⊢
      exact cL.2.1 x hx9 h1
  have hc3 : CI s3 := CI_2 hc1 hB3 hL3 (f13 7 (by omega) 0).1 (f13 49 (by omega) 0).1 (f13 4 (by omega) 0).1
  have f4 : zfx KI s3 (zsi s3 43 (Int32.toNatClampNeg b) 0 (zi s3 43 (Int32.toNatClampNeg b) 0 + 1)) := zfx1 (by unfold KI; omega)
  refine hQ 1 _ (CI_KI hc3 f4) (zfx_tr (zfx_mo hf1 (fun _ => KI_KE)) (zfx_tr (zfx_mo f13 (fun k hk => by unfold KE; omega)) (zfx_mo f4 (fun _ => KI_KE))))
theorem W_isTear {j : Nat} {b c : Int32} {s : zS} {Q : Int32 → zS → Prop} (h : CI s) (hj : (j : Int) < zNb s) (hQ : ∀ r : Int32, (r = 0 ∨ r = 1) → Q r s) : Wp_X8_isTear (nI j) b c s Q := by
  unfold Wp_X8_isTear
  have j60 : j < 60 := by have := h.2.1.1.2; omega
  have ij : vp_in (nI j) 60 := nat_in j60 (by omega)
  have q0 := hQ 0 (Or.inl rfl)
  have q1 := hQ 1 (Or.inr rfl)
  rw [nI_clamp (by omega)]
  have in40 : zi s 17 0 j = 1 → vp_in (zi s 19 0 j) 40 := by
    intro e
    have := h.2.2.1.2.1 j hj e
    have lc := h.2.2.1.1.2
    exact in_of this.1 (by omega)
  refine ⟨fun _ => ⟨fun _ => q0, fun _ => ⟨fun _ => q0, fun _ => ⟨fun _ => ⟨ij, fun _ => q1, fun e => ⟨ij, in40 e, fun _ => q0, fun _ => q1⟩⟩, fun _ => q0⟩⟩⟩, fun _ => ⟨fun _ => ⟨fun _ => q0, fun _ => ⟨fun _ => q0, fun _ => ⟨fun _ => ⟨ij, fun _ => q1, fun e => ⟨ij, in40 e, fun _ => q0, fun _ => q1⟩⟩, fun _ => q0⟩⟩⟩, fun _ => q1⟩⟩
theorem W_join {l h : Nat} {c d e : Int32} {s : zS} {Q : Int32 → zS → Prop} (hl : l < 40) (hh : h < 10) (hQ : ∀ (r : Int32) (s' : zS), zfx (fun k => k = 45 ∨ k = 47) s s' → Q r s') : Wp_X4_join (nI l) (nI h) c d e s Q := by
  unfold Wp_X4_join Wp_X4_allOf
  have il : vp_in (nI l) 40 := nat_in hl (by omega)
  have ih : vp_in (nI h) 10 := nat_in hh (by omega)
  have k45 : (fun k : Nat => k = 45 ∨ k = 47) 45 := Or.inl rfl
  have k47 : (fun k : Nat => k = 45 ∨ k = 47) 47 := Or.inr rfl
  have tail : ∀ (r1 y : Int64), ∀ s7 : zS, s7 = zsj s 47 (Int32.toNatClampNeg (nI l)) (Int32.toNatClampNeg (nI h)) y → (vp_in (nI l) 40 ∧ (vp_in (nI h) 10 ∧ ((¬ (zi s7 45 (Int32.toNatClampNeg (nI l)) (Int32.toNatClampNeg (nI h))) = (-1 : Int32) → Q (0 : Int32) s7) ∧ ((zi s7 45 (Int32.toNatClampNeg (nI l)) (Int32.toNatClampNeg (nI h))) = (-1 : Int32) → (vp_in (nI l) 40 ∧ (vp_in (nI h) 10 ∧ (((zj s7 47 (Int32.toNatClampNeg (nI l)) (Int32.toNatClampNeg (nI h))) = r1 → (vp_in (nI l) 40 ∧ (vp_in (nI h) 10 ∧ ∀ s11 : zS, s11 = zsi s7 45 (Int32.toNatClampNeg (nI l)) (Int32.toNatClampNeg (nI h)) e → Q (1 : Int32) s11))) ∧ (¬ (zj s7 47 (Int32.toNatClampNeg (nI l)) (Int32.toNatClampNeg (nI h))) = r1 → Q (0 : Int32) s7)))))))) := by
    rintro r1 y _ rfl
    have f1 : zfx (fun k : Nat => k = 45 ∨ k = 47) s (zsj s 47 (Int32.toNatClampNeg (nI l)) (Int32.toNatClampNeg (nI h)) y) := zfx_sj zfx_rf k47
    refine ⟨il, ih, fun _ => hQ _ _ f1, fun _ => ⟨il, ih, fun _ => ⟨il, ih, ?_⟩, fun _ => hQ _ _ f1⟩⟩
    rintro _ rfl
    exact hQ _ _ (zfx_si f1 k45)
  refine ⟨il, fun _ => ?_, fun _ => ⟨il, ih, ih, tail _ _⟩⟩
  intro y hy
  exact ⟨il, ih, ih, tail _ _⟩
theorem S8_comes {a b c d : Int32} {s : zS} {Q : Int32 → zS → Prop} (h : CI s) (hQ : ∀ (r : Int32) (s' : zS), CI s' → zfx KE s s' → Q r s') : Wp_X8_comes a b c d s Q := by
  unfold Wp_X8_comes Wp_X8_comesFault
  have ref : ∀ r : Int32, ¬ r = 0 → ∀ F : zS → Prop, ∀ s3 : zS, s3 = zsi s 0 0 8 r → (((zi s3 0 0 8) = 0 → F s3) ∧ (¬ (zi s3 0 0 8) = 0 → Q (-1) s3)) := fun r hr F => st_of (fun q => absurd q hr) (fun _ => fin8 h hQ s0)
  refine W_isBird h.2.1 (fun _ => ⟨fun _ => ref 1 one_nz _, fun q => absurd rfl q⟩) (fun g1 g2 g3 => ⟨fun q => absurd q one_nz, fun _ => ?_⟩)
  refine W_isMinute ⟨fun q => absurd rfl q, fun _ => ref 1 one_nz _⟩ ⟨fun _ => ?_, fun q => absurd q one_nz⟩
  obtain ⟨j, hj, rfl⟩ := n_ofl (a := a) (n := 60) g1 g3
  rw [nI_toInt (by omega)] at g2
  have ij : vp_in (nI j) 60 := nat_in hj (by omega)
  refine W_isTear h g2 (fun r hr => ?_)
  refine ⟨fun _ => ⟨fun _ => ⟨ij, fun _ => ref 7 (by decide) _, fun e1 => ?_⟩, fun _ => ref 2 (by decide) _⟩, fun _ => ref 1 one_nz _⟩
  rw [nI_clamp (by omega)] at e1
  refine st_of (fun _ => ?_) (fun q => absurd rfl q)
  rintro _ rfl
  have hc1 := CI_st (v := d) h
  have hf1 := st_fr (s := s) (v := d)
  generalize zsi (zsi s 0 0 8 0) 0 0 9 d = s1 at hc1 hf1
  have d17 : zi s1 17 0 j = 1 := by rw [(hf1 17 (by unfold KI; omega) 0).1]; exact e1
  have d14 : (j : Int) < zNb s1 := by unfold zNb; rw [(hf1 14 (by unfold KI; omega) 0).1]; exact g2
  rw [nI_clamp (by omega)]
  refine ⟨ij, ?_⟩
  rintro _ rfl
  refine ⟨ij, ?_⟩
  rintro _ rfl
  have hlt := hc1.2.2.1.2.1 j d14 d17
  have lc := hc1.2.2.1.1.2
  obtain ⟨l, hl, el⟩ := n_ofl (n := 40) hlt.1 (by omega)
  have hho := (hc1.2.1.2.1 j d14).1
  obtain ⟨w, hw, ew⟩ := n_ofl (n := 10) hho.1 hho.2
  rw [el, ew]
  unfold Wp_X1_comeHome
  refine ⟨ij, ?_⟩
  rintro _ rfl
  refine ⟨ij, ?_⟩
  rintro _ rfl
  rw [nI_clamp (by omega)]
  generalize hs2 : zsi (zsi s1 19 0 j (-1)) 18 0 j (d + 60) = s2
  have f2 : zfx (fun k => k = 18 ∨ k = 19) s1 s2 := by rw [← hs2]; exact zfx_si (zfx1 (Or.inr rfl)) (Or.inl rfl)
  have e15 : zi s2 15 0 j = nI w := by rw [(f2 15 (by omega) 0).1]; exact ew
  have e19 : zi s2 19 0 = upd (zi s1 19 0) j (-1) := by rw [← hs2, zi_sir _ _ _ _ _ _ _ (by omega), zi_sig]
  rw [e15]
  have e14 : zNb s2 = zNb s1 := by unfold zNb; rw [(f2 14 (by omega) 0).1]
  have hx2 : BX s2 j := by
    have cB := hc1.2.1
    unfold BI at cB
    unfold BX
    rw [e14, (f2 15 (by omega) 0).1, (f2 16 (by omega) 0).1, (f2 17 (by omega) 0).1]
    refine ⟨cB.1, fun x hx9 => ⟨(cB.2.1 x hx9).1, fun _ => (cB.2.1 x hx9).2⟩, (cB.2.1 j d14).2.2 (by rw [d17]; exact one_nz), fun x y hx9 hy9 => ?_⟩
    rw [(f2 21 (by omega) x).1]
    exact cB.2.2 x y hx9 hy9
  refine ⟨ij, W_settle hx2 (by rw [e14]; exact d14) hw (fun s3 hB3 f3 e17 => ⟨nat_in hl (by omega), ?_⟩)⟩
  have f13 : zfx (fun k => k = 16 ∨ k = 17 ∨ k = 18 ∨ k = 19 ∨ k = 21) s1 s3 := zfx_tr (zfx_mo f2 (fun k hk => by omega)) (zfx_mo f3 (fun k hk => by omega))
  have hL3 : LI s3 := by
    have cL := hc1.2.2.1
    unfold LI at cL ⊢
    have e14' : zNb s3 = zNb s1 := by unfold zNb; rw [(f13 14 (by omega) 0).1]
    have e38 : zLc s3 = zLc s1 := by unfold zLc; rw [(f13 38 (by omega) 0).1]
    rw [e14', e38, e17, (f3 19 (by omega) 0).1, e19, (f2 17 (by omega) 0).1, (f13 39 (by omega) 0).1]
    refine ⟨cL.1, fun x hx9 h1 => ?_, cL.2.2⟩
    by_cases e : x = j
    · rw [e, upd_at] at h1
      exact absurd h1 (by decide)
    · rw [upd_ne e] at h1 ⊢
      exact cL.2.1 x hx9 h1
  have hc3 : CI s3 := CI_2 hc1 hB3 hL3 (f13 7 (by omega) 0).1 (f13 49 (by omega) 0).1 (f13 4 (by omega) 0).1
  rintro _ rfl
  refine W_join hl hw (fun r s4 f4 => ?_)
  rw [nI_clamp (by omega)] at f4
  have f5 : zfx KI s3 s4 := zfx_tr (zfx1 (k := 43) (by unfold KI; omega)) (zfx_mo f4 (fun k hk => by unfold KI; omega))
  have fin : zfx KE s s4 := zfx_tr (zfx_mo hf1 (fun _ => KI_KE)) (zfx_tr (zfx_mo f13 (fun k hk => by unfold KE; omega)) (zfx_mo f5 (fun _ => KI_KE)))
  exact ⟨fun _ => hQ _ s4 (CI_KI hc3 f5) fin, fun _ => hQ _ s4 (CI_KI hc3 f5) fin⟩
theorem S8_lose {a b : Int32} {s : zS} {Q : Int32 → zS → Prop} (h : CI s) (hQ : ∀ (r : Int32) (s' : zS), CI s' → zfx KE s s' → Q r s') : Wp_X8_lose a b s Q := by
  unfold Wp_X8_lose Wp_X8_loseFault
  have ref : ∀ r : Int32, ¬ r = 0 → ∀ F : zS → Prop, ∀ s3 : zS, s3 = zsi s 0 0 8 r → (((zi s3 0 0 8) = 0 → F s3) ∧ (¬ (zi s3 0 0 8) = 0 → Q 0 s3)) := fun r hr F => st_of (fun q => absurd q hr) (fun _ => fin8 h hQ s0)
  refine W_isBird h.2.1 (fun _ => ⟨fun _ => ref 1 one_nz _, fun q => absurd rfl q⟩) (fun g1 g2 g3 => ⟨fun q => absurd q one_nz, fun _ => ?_⟩)
  obtain ⟨j, hj, rfl⟩ := n_ofl (a := a) (n := 60) g1 g3
  rw [nI_toInt (by omega)] at g2
  have ij : vp_in (nI j) 60 := nat_in hj (by omega)
  refine W_isMinute ⟨fun q => absurd rfl q, fun _ => ref 1 one_nz _⟩ ⟨fun _ => ⟨fun _ => ⟨ij, fun _ => ref 7 (by decide) _, fun e1 => ?_⟩, fun _ => ref 2 (by decide) _⟩, fun q => absurd q one_nz⟩
  rw [nI_clamp (by omega)] at e1
  refine st_of (fun _ => ?_) (fun q => absurd rfl q)
  rintro _ rfl
  have hc1 := CI_st (v := b) h
  have hf1 := st_fr (s := s) (v := b)
  generalize zsi (zsi s 0 0 8 0) 0 0 9 b = s1 at hc1 hf1
  have d17 : zi s1 17 0 j = 1 := by rw [(hf1 17 (by unfold KI; omega) 0).1]; exact e1
  have d14 : (j : Int) < zNb s1 := by unfold zNb; rw [(hf1 14 (by unfold KI; omega) 0).1]; exact g2
  have hlt := hc1.2.2.1.2.1 j d14 d17
  have lc := hc1.2.2.1.1.2
  rw [nI_clamp (by omega)]
  refine ⟨ij, in_of hlt.1 (by omega), ?_⟩
  rintro _ rfl
  unfold Wp_X1_getLost
  refine ⟨ij, ?_⟩
  rintro _ rfl
  refine ⟨ij, ?_⟩
  rintro _ rfl
  rw [nI_clamp (by omega)]
  generalize hs2 : zsi s1 43 (Int32.toNatClampNeg (zi s1 19 0 j)) 2 (zi s1 43 (Int32.toNatClampNeg (zi s1 19 0 j)) 2 + 1) = s2
  have f2 : zfx KI s1 s2 := by rw [← hs2]; exact zfx1 (by unfold KI; omega)
  have hc2 := CI_KI hc1 f2
  have d17' : zi s2 17 0 = zi s1 17 0 := (f2 17 (by unfold KI; omega) 0).1
  generalize hs3 : zsi (zsi s2 19 0 j (-1)) 17 0 j 2 = s3
  have f3 : zfx (fun k => k = 17 ∨ k = 19) s2 s3 := by rw [← hs3]; exact zfx_si (zfx1 (Or.inr rfl)) (Or.inl rfl)
  have e17 : zi s3 17 0 = upd (zi s2 17 0) j 2 := by rw [← hs3, zi_sig, zi_sir _ _ _ _ _ _ _ (by omega)]
  have e19 : zi s3 19 0 = upd (zi s2 19 0) j (-1) := by rw [← hs3, zi_sir _ _ _ _ _ _ _ (by omega), zi_sig]
  have e14 : zNb s3 = zNb s2 := by unfold zNb; rw [(f3 14 (by omega) 0).1]
  have j2 : (j : Int) < zNb s2 := by unfold zNb; rw [(f2 14 (by unfold KI; omega) 0).1]; exact d14
  have hB3 : BI s3 := by
    have cB := hc2.2.1
    unfold BI at cB ⊢
    rw [e14, (f3 15 (by omega) 0).1, (f3 16 (by omega) 0).1, e17]
    refine ⟨cB.1, fun x hx9 => ⟨(cB.2.1 x hx9).1, ?_⟩, fun x y hx9 hy9 => ?_⟩
    · by_cases e : x = j
      · rw [e, upd_at]
        exact ⟨fun q => absurd q (by decide), fun _ => (cB.2.1 j j2).2.2 (by rw [d17', d17]; exact one_nz)⟩
      · rw [upd_ne e]
        exact (cB.2.1 x hx9).2
    · rw [(f3 21 (by omega) x).1]
      exact cB.2.2 x y hx9 hy9
  have hL3 : LI s3 := by
    have cL := hc2.2.2.1
    unfold LI at cL ⊢
    have e38 : zLc s3 = zLc s2 := by unfold zLc; rw [(f3 38 (by omega) 0).1]
    rw [e14, e38, e17, e19, (f3 39 (by omega) 0).1]
    refine ⟨cL.1, fun x hx9 h1 => ?_, cL.2.2⟩
    by_cases e : x = j
    · rw [e, upd_at] at h1
      exact absurd h1 (by decide)
    · rw [upd_ne e] at h1 ⊢
      exact cL.2.1 x hx9 h1
  have hc3 : CI s3 := CI_2 hc2 hB3 hL3 (f3 7 (by omega) 0).1 (f3 49 (by omega) 0).1 (f3 4 (by omega) 0).1
  exact hQ 1 s3 hc3 (zfx_tr (zfx_mo hf1 (fun _ => KI_KE)) (zfx_tr (zfx_mo f2 (fun _ => KI_KE)) (zfx_mo f3 (fun k hk => by unfold KE; omega))))
theorem S8_knows {a b : Int32} {s : zS} {Q : Int32 → zS → Prop} (h : CI s) (hQ : ∀ (r : Int32) (s' : zS), CI s' → zfx KE s s' → Q r s') : Wp_X8_knows a b s Q := by
  unfold Wp_X8_knows
  refine W_isLetter h.2.2.1 (fun _ => ⟨fun _ => W_ref0 (fin8 h hQ s0), fun q => absurd rfl q⟩) (fun g1 g2 g3 => ⟨fun q => absurd q one_nz, fun _ => ?_⟩)
  refine W_isTown h.1 (fun _ => ⟨fun _ => W_ref0 (fin8 h hQ s0), fun q => absurd rfl q⟩) (fun g4 g5 g6 => ⟨fun q => absurd q one_nz, fun _ => W_ref1 ?_⟩)
  refine ⟨in_of g1 g3, in_of g4 g6, ?_⟩
  rintro _ rfl
  refine ⟨fun _ => fin8 h hQ s0, fun _ => ?_⟩
  rintro _ rfl
  exact fin8 h hQ (zfx_si s0 ki0)
theorem S8_joined {a b c : Int32} {s : zS} {Q : Int32 → zS → Prop} (h : CI s) (hQ : ∀ (r : Int32) (s' : zS), CI s' → zfx KE s s' → Q r s') : Wp_X8_joined a b c s Q := by
  unfold Wp_X8_joined Wp_X8_joinedFault
  have ref : ∀ r : Int32, ¬ r = 0 → ∀ F : zS → Prop, ∀ s3 : zS, s3 = zsi s 0 0 8 r → (((zi s3 0 0 8) = 0 → F s3) ∧ (¬ (zi s3 0 0 8) = 0 → Q (-1) s3)) := fun r hr F => st_of (fun q => absurd q hr) (fun _ => fin8 h hQ s0)
  refine W_isLetter h.2.2.1 (fun _ => ⟨fun _ => ref 1 one_nz _, fun q => absurd rfl q⟩) (fun g1 g2 g3 => ⟨fun q => absurd q one_nz, fun _ => ?_⟩)
  refine W_isTown h.1 (fun _ => ⟨fun q => absurd rfl q, fun _ => ref 1 one_nz _⟩) (fun g4 g5 g6 => ⟨fun _ => ?_, fun q => absurd q one_nz⟩)
  obtain ⟨l, hl, rfl⟩ := n_ofl (a := a) (n := 40) g1 g3
  rw [nI_toInt (by omega)] at g2
  have il : vp_in (nI l) 40 := nat_in hl (by omega)
  have hlen := h.2.2.1.2.2 l g2
  rw [nI_clamp (by omega)]
  have e1 : (zi s 39 0 l - 1).toInt = (zi s 39 0 l).toInt - 1 := W_pred (a := b) hlen.1 hlen.2 (by omega)
  refine ⟨il, W_within (fun _ => ⟨fun _ => ref 6 (by decide) _, fun q => absurd rfl q⟩) (fun g7 g8 => ⟨fun q => absurd q one_nz, fun _ => ?_⟩)⟩
  rw [it_0] at g7
  rw [e1] at g8
  refine st_of (fun _ => ?_) (fun q => absurd rfl q)
  unfold Wp_X4_byteThere
  exact ⟨il, in_of g4 g6, fun _ => fin8 h hQ s0, fun _ => ⟨il, in_of g7 (by omega), fin8 h hQ s0⟩⟩
theorem S8_copies {a b : Int32} {s : zS} {Q : Int32 → zS → Prop} (h : CI s) (hQ : ∀ (r : Int32) (s' : zS), CI s' → zfx KE s s' → Q r s') : Wp_X8_copies a b s Q := by
  unfold Wp_X8_copies
  refine W_isLetter h.2.2.1 (fun _ => ⟨fun _ => W_ref0 (fin8 h hQ s0), fun q => absurd rfl q⟩) (fun g1 g2 g3 => ⟨fun q => absurd q one_nz, fun _ => ?_⟩)
  refine W_within (fun _ => ⟨fun _ => W_ref0 (fin8 h hQ s0), fun q => absurd rfl q⟩) (fun g4 g5 => ⟨fun q => absurd q one_nz, fun _ => W_ref1 ?_⟩)
  rw [it_0] at g4
  rw [it_2] at g5
  exact ⟨in_of g1 g3, in_of g4 (by omega), fin8 h hQ s0⟩
/-! ===== clocks: the class comes back ===== -/
theorem S8_reading {a b c : Int32} {s : zS} {Q : Int32 → zS → Prop} (h : CI s) (hQ : ∀ (r : Int32) (s' : zS), CI s' → zfx KE s s' → Q r s') : Wp_X8_reading a b c s Q := by
  unfold Wp_X8_reading Wp_X8_readingFault
  have ref : ∀ r : Int32, ¬ r = 0 → ∀ F : zS → Prop, ∀ s3 : zS, s3 = zsi s 0 0 8 r → (((zi s3 0 0 8) = 0 → F s3) ∧ (¬ (zi s3 0 0 8) = 0 → Q 0 s3)) := fun r hr F => st_of (fun q => absurd q hr) (fun _ => fin8 h hQ s0)
  refine W_isTown h.1 (fun _ => ⟨fun _ => ref 1 one_nz _, fun q => absurd rfl q⟩) (fun g1 g2 g3 => ⟨fun q => absurd q one_nz, fun _ => ?_⟩)
  refine W_isMinute ⟨fun _ => ref 1 one_nz _, fun q => absurd rfl q⟩ ⟨fun q => absurd q one_nz, fun _ => ?_⟩
  refine W_within (fun _ => ⟨fun q => absurd rfl q, fun _ => ref 1 one_nz _⟩) (fun _ _ => ⟨fun _ => ⟨fun _ => ?_, fun _ => ref 2 (by decide) _⟩, fun q => absurd q one_nz⟩)
  obtain ⟨t, ht, rfl⟩ := n_ofl (a := a) (n := 10) g1 g3
  have it' : vp_in (nI t) 10 := nat_in ht (by omega)
  have ct := h.2.2.2.1 t ht
  obtain ⟨m, hm, em⟩ := n_of (n := 10) ct.1 ct.2
  unfold Wp_X2_isAboveLatest
  rw [nI_clamp (by omega), em]
  have good : ((¬ (1 : Int32) = 0 → (vp_in (nI t) 10 ∧ (((10 : Int32) ≤ zi s 49 0 t → ∀ s3 : zS, s3 = zsi s 0 0 8 5 → (((zi s3 0 0 8) = 0 → ∀ s4 : zS, s4 = zsi s3 0 0 9 b → Wp_X2_add (nI t) b c s4 (fun s6 => Q (1 : Int32) s6)) ∧ (¬ (zi s3 0 0 8) = 0 → Q (0 : Int32) s3))) ∧ (¬ (10 : Int32) ≤ zi s 49 0 t → ∀ s3 : zS, s3 = zsi s 0 0 8 0 → (((zi s3 0 0 8) = 0 → ∀ s4 : zS, s4 = zsi s3 0 0 9 b → Wp_X2_add (nI t) b c s4 (fun s6 => Q (1 : Int32) s6)) ∧ (¬ (zi s3 0 0 8) = 0 → Q (0 : Int32) s3)))))) ∧ ((1 : Int32) = 0 → ∀ s3 : zS, s3 = zsi s 0 0 8 1 → (((zi s3 0 0 8) = 0 → ∀ s4 : zS, s4 = zsi s3 0 0 9 b → Wp_X2_add (nI t) b c s4 (fun s6 => Q (1 : Int32) s6)) ∧ (¬ (zi s3 0 0 8) = 0 → Q (0 : Int32) s3)))) := by
    refine ⟨fun _ => ⟨it', fun _ => ref 5 (by decide) _, fun g => ?_⟩, fun q => absurd q one_nz⟩
    rw [em, ni10, nI_leI (by omega) (by omega)] at g
    refine st_of (fun _ => ?_) (fun q => absurd rfl q)
    rintro _ rfl
    have hc1 := CI_st (v := b) h
    have hf1 := st_fr (s := s) (v := b)
    generalize zsi (zsi s 0 0 8 0) 0 0 9 b = s1 at hc1 hf1
    have d49 : zi s1 49 0 t = nI m := by rw [(hf1 49 (by unfold KI; omega) 0).1]; exact em
    unfold Wp_X2_add
    rw [nI_clamp (by omega), d49, nI_clamp (by omega)]
    have im : vp_in (nI m) 10 := nat_in (by omega) (by omega)
    refine ⟨it', it', im, ?_⟩
    rintro _ rfl
    have d2 : zi (zsi s1 51 t m b) 49 0 t = nI m := by rw [zi_sir _ _ _ _ _ _ _ (by omega)]; exact d49
    rw [d2, nI_clamp (by omega)]
    refine ⟨it', it', im, ?_⟩
    rintro _ rfl
    have d3 : zi (zsi (zsi s1 51 t m b) 53 t m c) 49 0 t = nI m := by rw [zi_sir _ _ _ _ _ _ _ (by omega)]; exact d2
    rw [d3, nI_1]
    refine ⟨it', it', ?_⟩
    rintro _ rfl
    have f2 : zfx KI s1 (zsi (zsi s1 51 t m b) 53 t m c) := zfx_si (zfx1 (by unfold KI; omega)) (by unfold KI; omega)
    have hc2 := CI_KI hc1 f2
    generalize zsi (zsi s1 51 t m b) 53 t m c = s2 at f2 hc2
    have f3 : zfx (fun k => k = 49) s2 (zsi s2 49 0 t (nI (m + 1))) := zfx1 rfl
    refine hQ 1 _ ?_ (zfx_tr (zfx_mo hf1 (fun _ => KI_KE)) (zfx_tr (zfx_mo f2 (fun _ => KI_KE)) (zfx_mo f3 (fun k hk => by unfold KE; omega))))
    have c1 := hc2.1
    have c2 := hc2.2.1
    have c3 := hc2.2.2.1
    have c4 := hc2.2.2.2.1
    have c5 := hc2.2.2.2.2
    unfold CI
    rw [(f3 7 (by omega) 0).1, (f3 4 (by omega) 0).1]
    refine ⟨c1, BI_fr (fun k hk => by omega) c2 f3, LI_fr (fun k hk => by omega) c3 f3, fun x hx => ?_, c5⟩
    rw [zi_sig]
    by_cases e : x = t
    · rw [e, upd_at, nI_toInt (by omega)]
      omega
    · rw [upd_ne e]
      exact c4 x hx
  have bad : ((¬ (0 : Int32) = 0 → (vp_in (nI t) 10 ∧ (((10 : Int32) ≤ zi s 49 0 t → ∀ s3 : zS, s3 = zsi s 0 0 8 5 → (((zi s3 0 0 8) = 0 → ∀ s4 : zS, s4 = zsi s3 0 0 9 b → Wp_X2_add (nI t) b c s4 (fun s6 => Q (1 : Int32) s6)) ∧ (¬ (zi s3 0 0 8) = 0 → Q (0 : Int32) s3))) ∧ (¬ (10 : Int32) ≤ zi s 49 0 t → ∀ s3 : zS, s3 = zsi s 0 0 8 0 → (((zi s3 0 0 8) = 0 → ∀ s4 : zS, s4 = zsi s3 0 0 9 b → Wp_X2_add (nI t) b c s4 (fun s6 => Q (1 : Int32) s6)) ∧ (¬ (zi s3 0 0 8) = 0 → Q (0 : Int32) s3)))))) ∧ ((0 : Int32) = 0 → ∀ s3 : zS, s3 = zsi s 0 0 8 1 → (((zi s3 0 0 8) = 0 → ∀ s4 : zS, s4 = zsi s3 0 0 9 b → Wp_X2_add (nI t) b c s4 (fun s6 => Q (1 : Int32) s6)) ∧ (¬ (zi s3 0 0 8) = 0 → Q (0 : Int32) s3)))) := ⟨fun q => absurd rfl q, fun _ => ref 1 one_nz _⟩
  have e1 : (nI m - 1).toInt = (m : Int) - 1 := by rw [it_sub (by rw [nI_toInt (by omega), it_1]; omega) (by rw [nI_toInt (by omega), it_1]; omega), nI_toInt (by omega), it_1]
  refine ⟨it', ?_⟩
  rintro _ rfl
  refine ⟨fun _ => good, fun g => ?_⟩
  have im : vp_in (nI m - 1) 10 := by
    rw [it_lt, it_0, e1] at g
    exact in_of (by omega) (by omega)
  exact ⟨it', im, fun _ => bad, fun _ => ⟨it', im, fun _ => bad, fun _ => good⟩⟩
theorem W_latest {t m : Nat} {b : Int32} {s : zS} {Q : Int32 → zS → Prop} (ht : t < 10) (hm : m ≤ 10) (em : zi s 49 0 t = nI m) (hQ : ∀ r : Int32, -1 ≤ r.toInt → r.toInt < m → Q r s) : Wp_X2_latestUpTo (nI t) b s Q := by
  unfold Wp_X2_latestUpTo
  intro P hP
  have it' : vp_in (nI t) 10 := nat_in ht (by omega)
  have key : ∀ (n i : Nat) (v : Int32), i + n = m → -1 ≤ v.toInt → v.toInt < i → P v (nI i) s := by
    intro n
    induction n with
    | zero =>
      intro i v hi h1 h2
      apply hP
      rw [nI_clamp (by omega), em]
      exact ⟨it', fun _ => hQ v h1 (by omega), fun g => absurd (nI_le (show m ≤ i by omega) (by omega)) g⟩
    | succ n ih =>
      intro i v hi h1 h2
      apply hP
      rw [nI_clamp (by omega), em]
      refine ⟨it', fun g => absurd g (nI_ge (by omega) (by omega)), fun _ => ⟨it', nat_in (by omega) (by omega), fun _ => ?_, fun _ => ?_⟩⟩
      · rw [nI_1]
        exact ih (i + 1) v (by omega) h1 (by omega)
      · rw [nI_1]
        exact ih (i + 1) (nI i) (by omega) (by rw [nI_toInt (by omega)]; omega) (by rw [nI_toInt (by omega)]; omega)
  exact key m 0 (-1) (by omega) (by rw [it_m1]; omega) (by rw [it_m1]; omega)
theorem S8_right {a b : Int32} {s : zS} {Q : Int32 → zS → Prop} (h : CI s) (hQ : ∀ (r : Int32) (s' : zS), CI s' → zfx KE s s' → Q r s') : Wp_X8_right a b s Q := by
  unfold Wp_X8_right Wp_X8_rightFault
  have ref : ∀ r : Int32, ¬ r = 0 → ∀ F : zS → Prop, ∀ s3 : zS, s3 = zsi s 0 0 8 r → (((zi s3 0 0 8) = 0 → F s3) ∧ (¬ (zi s3 0 0 8) = 0 → Q (-1) s3)) := fun r hr F => st_of (fun q => absurd q hr) (fun _ => fin8 h hQ s0)
  refine W_isTown h.1 (fun _ => ⟨fun _ => ref 1 one_nz _, fun q => absurd rfl q⟩) (fun g1 g2 g3 => ⟨fun q => absurd q one_nz, fun _ => ?_⟩)
  obtain ⟨t, ht, rfl⟩ := n_ofl (a := a) (n := 10) g1 g3
  have it' : vp_in (nI t) 10 := nat_in ht (by omega)
  have ct := h.2.2.2.1 t ht
  obtain ⟨m, hm, em⟩ := n_of (n := 10) ct.1 ct.2
  refine W_within (fun _ => ⟨fun q => absurd rfl q, fun _ => ref 1 one_nz _⟩) (fun _ _ => ⟨fun _ => ?_, fun q => absurd q one_nz⟩)
  rw [nI_clamp (by omega), em]
  refine ⟨it', fun _ => ref 6 (by decide) _, fun g => ?_⟩
  rw [it_le, it_0, nI_toInt (by omega)] at g
  refine st_of (fun _ => ?_) (fun q => absurd rfl q)
  have d49 : zi (zsi s 0 0 8 0) 49 0 t = nI m := by rw [zi_sir _ _ _ _ _ _ _ (by omega)]; exact em
  have fin : ∀ s2 : zS, zfx KI s s2 → Wp_X3_sign s2 (fun r6 s7 => Q r6 s7) := fun s2 hf => W_sign (fun r => fin8 h hQ hf)
  unfold Wp_X2_tellRight__1
  refine W_latest ht hm d49 (fun r hr1 hr2 => ?_)
  rintro _ rfl
  rw [nI_clamp (by omega), d49]
  generalize hx : (if (0 : Int32) < r then r else (0 : Int32)) = x
  have hx0 : 0 ≤ x.toInt ∧ x.toInt < m ∧ (0 ≤ r.toInt → x.toInt = r.toInt) := by
    rw [← hx]
    by_cases q : (0 : Int32) < r
    · rw [if_pos q]
      rw [it_lt, it_0] at q
      omega
    · rw [if_neg q]
      rw [it_lt, it_0] at q
      rw [it_0]
      omega
  have ix : vp_in x 10 := in_of hx0.1 (by omega)
  refine ⟨it', ix, ?_⟩
  intro y5 _
  refine ⟨fun _ => ⟨it', ix, W_tell s0 fin⟩, fun gr => ⟨it', fun ne => ?_, fun _ => ⟨it', ix, W_tell s0 fin⟩⟩⟩
  rw [it_lt, it_0] at gr
  have e1 : (nI m - 1).toInt = (m : Int) - 1 := by rw [it_sub (by rw [nI_toInt (by omega), it_1]; omega) (by rw [nI_toInt (by omega), it_1]; omega), nI_toInt (by omega), it_1]
  have ne2 : ¬ r.toInt = (m : Int) - 1 := fun q => ne (Int32.toInt_inj.mp (by rw [e1]; exact q))
  have ex1 : (x + 1).toInt = x.toInt + 1 := by rw [it_add (by rw [it_1]; omega) (by rw [it_1]; omega), it_1]
  have ix1 : vp_in (x + 1) 10 := in_of (by omega) (by omega)
  refine ⟨it', ix1, it', ix, ?_⟩
  intro y11 _
  refine ⟨it', ix1, it', ix, ?_⟩
  intro y14 _
  exact ⟨it', ix, W_tell s0 fin⟩

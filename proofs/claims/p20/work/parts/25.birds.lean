/-! ===== BIRDS of the class: carried, flown off, come ===== -/
theorem zi_sig (s : zS) (k r i : Nat) (v : Int32) : zi (zsi s k r i v) k r = upd (zi s k r) i v := by
  unfold zsi
  rw [zi_ci, if_pos ⟨rfl, rfl⟩]
theorem upd_at (f : Nat → Int32) (i : Nat) (v : Int32) : upd f i v i = v := by unfold upd; rw [if_pos rfl]
theorem upd_ne {f : Nat → Int32} {i j : Nat} {v : Int32} (h : ¬ j = i) : upd f i v j = f j := by unfold upd; rw [if_neg h]
theorem nI_m1 (i : Nat) (h : i < 1000) : nI (i + 1) + (-1) = nI i := by
  apply Int32.toInt_inj.mp
  rw [it_add (by rw [nI_toInt (by omega), it_m1]; omega) (by rw [nI_toInt (by omega), it_m1]; omega), it_m1, nI_toInt (by omega), nI_toInt (by omega)]
  omega
theorem nI_subN {a b : Nat} (h : b ≤ a) (ha : a < 1000) : nI a - nI b = nI (a - b) := by
  apply Int32.toInt_inj.mp
  rw [it_sub (by rw [nI_toInt (by omega), nI_toInt (by omega)]; omega) (by rw [nI_toInt (by omega), nI_toInt (by omega)]; omega), nI_toInt (by omega), nI_toInt (by omega), nI_toInt (by omega)]
  omega
theorem in_nat {a : Int32} {n : Nat} (h : vp_in a n) (hn : n < 1000) : ∃ j : Nat, j < n ∧ a = nI j := by
  have g := it_in.mp h
  exact n_ofl g.1 g.2
/-- as BI, but BIRD b is nowhere -/
def BX (s : zS) (b : Nat) : Prop := (0 ≤ zNb s ∧ zNb s ≤ 60) ∧ (∀ c : Nat, (c : Int) < zNb s → (0 ≤ (zi s 15 0 c).toInt ∧ (zi s 15 0 c).toInt < 10) ∧ (¬ c = b → (zi s 17 0 c = 0 → 0 ≤ (zi s 16 0 c).toInt ∧ (zi s 16 0 c).toInt < 10) ∧ (¬ zi s 17 0 c = 0 → zi s 16 0 c = -1))) ∧ zi s 16 0 b = -1 ∧
  ∀ h t : Nat, h < 10 → t < 10 → (zi s 21 h t).toInt = cnt (zi s 15 0) (zi s 16 0) (nI h) (nI t) (zNb s).toNat
theorem m1_no {t : Nat} (h : t < 10) : ¬ (-1 : Int32) = nI t := fun e => by
  have := congrArg Int32.toInt e
  rw [it_m1, nI_toInt (by omega)] at this
  omega
/-- the number of those that wait at a place, by one less, or more -/
theorem W_leave {b : Nat} {s : zS} {Q : zS → Prop} (hB : BI s) (hb : (b : Int) < zNb s) (h0 : zi s 17 0 b = 0) (hQ : ∀ s' : zS, BX s' b → zfx (fun k => k = 16 ∨ k = 21) s s' → Q s') : Wp_X1_leave (nI b) s Q := by
  have h60 : b < 60 := by have := hB.1.2; omega
  obtain ⟨hh, ht, -⟩ := hB.2.1 b hb
  have ht := ht h0
  obtain ⟨h, hh1, eh⟩ := n_ofl (n := 10) hh.1 hh.2
  obtain ⟨t, ht1, et⟩ := n_ofl (n := 10) ht.1 ht.2
  have ib : vp_in (nI b) 60 := nat_in h60 (by omega)
  unfold Wp_X1_leave
  rw [nI_clamp (by omega), eh, et, nI_clamp (by omega), nI_clamp (by omega)]
  refine ⟨ib, nat_in hh1 (by omega), ib, nat_in ht1 (by omega), nat_in ht1 (by omega), ?_⟩
  rintro _ rfl
  refine ⟨ib, ?_⟩
  rintro _ rfl
  have hf : zfx (fun k => k = 16 ∨ k = 21) s (zsi (zsi s 21 h t (zi s 21 h t - 1)) 16 0 b (-1)) := zfx_si (zfx1 (Or.inr rfl)) (Or.inl rfl)
  refine hQ _ ?_ hf
  have e14 : zNb (zsi (zsi s 21 h t (zi s 21 h t - 1)) 16 0 b (-1)) = zNb s := by unfold zNb; rw [(hf 14 (by omega) 0).1]
  have e15 := (hf 15 (by omega) 0).1
  have e17 := (hf 17 (by omega) 0).1
  have e16 : zi (zsi (zsi s 21 h t (zi s 21 h t - 1)) 16 0 b (-1)) 16 0 = upd (zi s 16 0) b (-1) := by
    rw [zi_sig, zi_sir _ _ _ _ _ _ _ (by omega)]
  unfold BX
  rw [e14, e15, e16, e17]
  refine ⟨hB.1, fun c hc => ⟨(hB.2.1 c hc).1, fun hn => ?_⟩, upd_at _ _ _, fun h' t' hh' ht' => ?_⟩
  · rw [upd_ne hn]
    exact (hB.2.1 c hc).2
  · rw [zi_sir _ _ _ _ _ _ _ (by omega), zi_si]
    have q := cnt_upd (f := zi s 15 0) (g := zi s 16 0) (x := nI h') (y := nI t') (v := -1) (zNb s).toNat (show b < (zNb s).toNat by omega)
    rw [if_neg (fun z : zi s 15 0 b = nI h' ∧ (-1 : Int32) = nI t' => m1_no ht' z.2)] at q
    have w := hB.2.2 h' t' hh' ht'
    by_cases e : h' = h ∧ t' = t
    · obtain ⟨rfl, rfl⟩ := e
      rw [if_pos ⟨eh, et⟩] at q
      rw [if_pos ⟨rfl, rfl, rfl⟩]
      have le := cnt_le (zi s 15 0) (zi s 16 0) (nI h') (nI t') (zNb s).toNat
      have b60 := hB.1.2
      rw [it_sub (by rw [it_1]; omega) (by rw [it_1]; omega), it_1]
      omega
    · rw [if_neg (fun z : zi s 15 0 b = nI h' ∧ zi s 16 0 b = nI t' => e ⟨((nI_eq (by omega) (by omega)).mp (z.1.symm.trans eh)), ((nI_eq (by omega) (by omega)).mp (z.2.symm.trans et))⟩)] at q
      rw [if_neg (fun z => e ⟨z.2.1, z.2.2⟩)]
      omega
theorem W_settle {b v : Nat} {s : zS} {Q : zS → Prop} (hB : BX s b) (hb : (b : Int) < zNb s) (hv : v < 10) (hQ : ∀ s' : zS, BI s' → zfx (fun k => k = 16 ∨ k = 17 ∨ k = 21) s s' → zi s' 17 0 = upd (zi s 17 0) b 0 → Q s') : Wp_X1_settle (nI b) (nI v) s Q := by
  have h60 : b < 60 := by have := hB.1.2; omega
  obtain ⟨hh, -⟩ := hB.2.1 b hb
  obtain ⟨h, hh1, eh⟩ := n_ofl (n := 10) hh.1 hh.2
  have ib : vp_in (nI b) 60 := nat_in h60 (by omega)
  have iv : vp_in (nI v) 10 := nat_in hv (by omega)
  unfold Wp_X1_settle
  refine ⟨ib, ?_⟩
  rintro _ rfl
  refine ⟨ib, ?_⟩
  rintro _ rfl
  rw [nI_clamp (by omega), nI_clamp (by omega)]
  have e15' : zi (zsi (zsi s 17 0 b 0) 16 0 b (nI v)) 15 0 b = nI h := by
    rw [zi_sir _ _ _ _ _ _ _ (by omega), zi_sir _ _ _ _ _ _ _ (by omega), eh]
  rw [e15', nI_clamp (by omega)]
  refine ⟨ib, nat_in hh1 (by omega), iv, iv, ?_⟩
  rintro _ rfl
  have e21 : zi (zsi (zsi s 17 0 b 0) 16 0 b (nI v)) 21 h v = zi s 21 h v := by
    rw [zi_sir _ _ _ _ _ _ _ (by omega), zi_sir _ _ _ _ _ _ _ (by omega)]
  rw [e21]
  have hf : zfx (fun k => k = 16 ∨ k = 17 ∨ k = 21) s (zsi (zsi (zsi s 17 0 b 0) 16 0 b (nI v)) 21 h v (zi s 21 h v + 1)) := zfx_si (zfx_si (zfx1 (Or.inr (Or.inl rfl))) (Or.inl rfl)) (Or.inr (Or.inr rfl))
  have e14 : zNb (zsi (zsi (zsi s 17 0 b 0) 16 0 b (nI v)) 21 h v (zi s 21 h v + 1)) = zNb s := by unfold zNb; rw [(hf 14 (by omega) 0).1]
  have e15 := (hf 15 (by omega) 0).1
  have e17 : zi (zsi (zsi (zsi s 17 0 b 0) 16 0 b (nI v)) 21 h v (zi s 21 h v + 1)) 17 0 = upd (zi s 17 0) b 0 := by
    rw [zi_sir _ _ _ _ _ _ _ (by omega), zi_sir _ _ _ _ _ _ _ (by omega), zi_sig]
  have e16 : zi (zsi (zsi (zsi s 17 0 b 0) 16 0 b (nI v)) 21 h v (zi s 21 h v + 1)) 16 0 = upd (zi s 16 0) b (nI v) := by
    rw [zi_sir _ _ _ _ _ _ _ (by omega), zi_sig, zi_sir _ _ _ _ _ _ _ (by omega)]
  refine hQ _ ?_ hf e17
  unfold BI
  rw [e14, e15, e16, e17]
  refine ⟨hB.1, fun c hc => ⟨(hB.2.1 c hc).1, ?_⟩, fun h' t' hh' ht' => ?_⟩
  · by_cases e : c = b
    · rw [e, upd_at, upd_at]
      refine ⟨fun _ => ?_, fun q => absurd rfl q⟩
      rw [nI_toInt (by omega)]
      omega
    · rw [upd_ne e, upd_ne e]
      exact (hB.2.1 c hc).2 e
  · rw [zi_si]
    have q := cnt_upd (f := zi s 15 0) (g := zi s 16 0) (x := nI h') (y := nI t') (v := nI v) (zNb s).toNat (show b < (zNb s).toNat by omega)
    rw [if_neg (fun z : zi s 15 0 b = nI h' ∧ zi s 16 0 b = nI t' => m1_no ht' (hB.2.2.1.symm.trans z.2))] at q
    have w := hB.2.2.2 h' t' hh' ht'
    by_cases e : h' = h ∧ t' = v
    · obtain ⟨rfl, rfl⟩ := e
      rw [if_pos ⟨eh, rfl⟩] at q
      rw [if_pos ⟨rfl, rfl, rfl⟩]
      have le := cnt_le (zi s 15 0) (zi s 16 0) (nI h') (nI t') (zNb s).toNat
      have b60 := hB.1.2
      rw [it_add (by rw [it_1]; omega) (by rw [it_1]; omega), it_1]
      omega
    · rw [if_neg (fun z : zi s 15 0 b = nI h' ∧ nI v = nI t' => e ⟨((nI_eq (by omega) (by omega)).mp (z.1.symm.trans eh)), ((nI_eq (by omega) (by omega)).mp z.2).symm⟩)] at q
      rw [if_neg (fun z => e ⟨z.2.1, z.2.2⟩), zi_sir _ _ _ _ _ _ _ (by omega), zi_sir _ _ _ _ _ _ _ (by omega)]
      omega
theorem CI_2 {s s' : zS} (h : CI s) (hb : BI s') (hl : LI s') (h7 : zi s' 7 0 = zi s 7 0) (h49 : zi s' 49 0 = zi s 49 0) (h4 : zi s' 4 0 = zi s 4 0) : CI s' := by
  unfold CI at h ⊢
  rw [h7, h49, h4]
  exact ⟨h.1, hb, hl, h.2.2.2.1, h.2.2.2.2⟩
theorem LI_2 {s s' : zS} (h : LI s) (h14 : zi s' 14 0 = zi s 14 0) (h19 : zi s' 19 0 = zi s 19 0) (h38 : zi s' 38 0 = zi s 38 0) (h39 : zi s' 39 0 = zi s 39 0) (h17 : ∀ c, zi s' 17 0 c = 1 → zi s 17 0 c = 1) : LI s' := by
  unfold LI zNb zLc at h ⊢
  rw [h14, h19, h38, h39]
  exact ⟨h.1, fun b hb h1 => h.2.1 b hb (h17 b h1), h.2.2⟩
theorem up0_1 {f : Nat → Int32} {b c : Nat} {v : Int32} (hv : ¬ v = 1) (h : upd f b v c = 1) : f c = 1 := by
  by_cases e : c = b
  · rw [e, upd_at] at h
    exact absurd h hv
  · rw [upd_ne e] at h
    exact h
/-- a BIRD that waits leaves and settles -/
theorem W_move {b v : Nat} {s : zS} {Q : zS → Prop} (h : CI s) (hb : (b : Int) < zNb s) (h0 : zi s 17 0 b = 0) (hv : v < 10) (hQ : ∀ s' : zS, CI s' → zfx (fun k => k = 16 ∨ k = 17 ∨ k = 21) s s' → Q s') : Wp_X1_leave (nI b) s (fun s1 => Wp_X1_settle (nI b) (nI v) s1 Q) := by
  refine W_leave h.2.1 hb h0 (fun s1 hx f1 => W_settle hx ?_ hv (fun s2 hb2 f2 e17 => ?_))
  · unfold zNb
    rw [(f1 14 (by omega) 0).1]
    exact hb
  · have hf : zfx (fun k => k = 16 ∨ k = 17 ∨ k = 21) s s2 := zfx_tr (zfx_mo f1 (fun k hk => by omega)) f2
    refine hQ s2 (CI_2 h hb2 (LI_2 h.2.2.1 (hf 14 (by omega) 0).1 (hf 19 (by omega) 0).1 (hf 38 (by omega) 0).1 (hf 39 (by omega) 0).1 (fun c hc => ?_)) (hf 7 (by omega) 0).1 (hf 49 (by omega) 0).1 (hf 4 (by omega) 0).1) hf
    rw [e17] at hc
    have := up0_1 (by decide) hc
    rw [(f1 17 (by omega) 0).1] at this
    exact this
theorem mv_KE {k : Nat} (h : k = 16 ∨ k = 17 ∨ k = 21) : KE k := by unfold KE; omega
theorem S8_carry {a b : Int32} {s : zS} {Q : Int32 → zS → Prop} (h : CI s) (hQ : ∀ (r : Int32) (s' : zS), CI s' → zfx KE s s' → Q r s') : Wp_X8_carry a b s Q := by
  unfold Wp_X8_carry Wp_X8_carryFault
  have ref : ∀ r : Int32, ¬ r = 0 → ∀ F : zS → Prop, ∀ s3 : zS, s3 = zsi s 0 0 8 r → (((zi s3 0 0 8) = 0 → F s3) ∧ (¬ (zi s3 0 0 8) = 0 → Q 0 s3)) := fun r hr F => st_of (fun q => absurd q hr) (fun _ => fin8 h hQ s0)
  refine W_isBird h.2.1 (fun _ => ⟨fun _ => ref 1 one_nz _, fun q => absurd rfl q⟩) (fun g1 g2 g3 => ⟨fun q => absurd q one_nz, fun _ => ?_⟩)
  refine W_isTown h.1 (fun _ => ⟨fun q => absurd rfl q, fun _ => ref 1 one_nz _⟩) (fun g4 g5 g6 => ⟨fun _ => ?_, fun q => absurd q one_nz⟩)
  obtain ⟨j, hj, rfl⟩ := n_ofl (a := a) (n := 60) g1 g3
  obtain ⟨v, hv, rfl⟩ := n_ofl (a := b) (n := 10) g4 g6
  rw [nI_toInt (by omega)] at g2
  rw [nI_clamp (by omega)]
  refine ⟨nat_in hj (by omega), fun _ => ref 7 (by decide) _, fun h0 => ?_⟩
  refine st_of (fun _ => ?_) (fun q => absurd rfl q)
  exact W_move (CI_KI h s0) (by unfold zNb; rw [zi_sir _ _ _ _ _ _ _ (by omega)]; exact g2) (by rw [zi_sir _ _ _ _ _ _ _ (by omega)]; exact h0) hv (fun s' hc hf => hQ _ _ hc (zfx_tr (zfx_mo s0 (fun _ => KI_KE)) (zfx_mo hf (fun _ => mv_KE))))
/-- bird(a) of the class, with n BIRDS -/
theorem S8_bird {a : Int32} {s : zS} {Q : Int32 → zS → Prop} (n : Nat) (hn : n ≤ 60) (hN : zi s 14 0 0 = nI n) (h : CI s) (h0 : ¬ (0 ≤ a.toInt ∧ a.toInt < (zi s 7 0 0).toInt ∧ n < 60) → ∀ s' : zS, CI s' → zfx KE s s' → Q (-1) s')
    (h1 : 0 ≤ a.toInt → a.toInt < (zi s 7 0 0).toInt → n < 60 → ∀ s' : zS, CI s' → zfx (fun k => KE k ∨ k = 14) s s' → zi s' 14 0 0 = nI (n + 1) → Q (nI n) s') : Wp_X8_bird a s Q := by
  unfold Wp_X8_bird Wp_X8_birdFault
  have ref : ∀ r : Int32, ¬ r = 0 → ¬ (0 ≤ a.toInt ∧ a.toInt < (zi s 7 0 0).toInt ∧ n < 60) → ∀ F : zS → Prop, ∀ s3 : zS, s3 = zsi s 0 0 8 r → (((zi s3 0 0 8) = 0 → F s3) ∧ (¬ (zi s3 0 0 8) = 0 → Q (-1) s3)) := fun r hr g F => st_of (fun q => absurd q hr) (fun _ => h0 g _ (CI_KI h s0) (zfx_mo s0 (fun _ => KI_KE)))
  refine W_isTown h.1 (fun g => ⟨fun q => absurd rfl q, fun _ => ref 1 one_nz (fun q => g ⟨q.1, q.2.1⟩) _⟩) (fun g1 g2 g3 => ⟨fun _ => ?_, fun q => absurd q one_nz⟩)
  rw [hN]
  refine ⟨fun g => ?_, fun g => ?_⟩
  · rw [ni60, nI_leI (by omega) (by omega)] at g
    exact ref 5 (by decide) (fun q => by omega) _
  rw [ni60, nI_leI (by omega) (by omega)] at g
  refine st_of (fun _ => ?_) (fun q => absurd rfl q)
  unfold Wp_X1_add
  have hc := CI_KI h (s0 (v := 0))
  have hN2 : zi (zsi s 0 0 8 0) 14 0 0 = nI n := by rw [zi_sir _ _ _ _ _ _ _ (by omega)]; exact hN
  have h7 : zi (zsi s 0 0 8 0) 7 0 = zi s 7 0 := by rw [zi_sir _ _ _ _ _ _ _ (by omega)]
  generalize hs1 : zsi s 0 0 8 0 = s1 at hc hN2 h7
  have hf1 : zfx KE s s1 := by rw [← hs1]; exact zfx_mo s0 (fun _ => KI_KE)
  obtain ⟨v, hv, rfl⟩ := n_ofl (a := a) (n := 10) g1 g3
  rw [hN2, nI_1]
  rintro _ rfl _ rfl
  have im : vp_in (nI n) 60 := nat_in (by omega) (by omega)
  refine ⟨im, ?_⟩
  rintro _ rfl
  refine ⟨im, ?_⟩
  rintro _ rfl
  rw [nI_clamp (by omega)]
  have nb1 : zNb s1 = n := by unfold zNb; rw [hN2, nI_toInt (by omega)]
  have cB := hc.2.1
  have cL := hc.2.2.1
  generalize hs2 : zsi (zsi (zsi s1 14 0 0 (nI (n + 1))) 15 0 n (nI v)) 19 0 n (-1) = s2
  have hf2 : zfx (fun k => k = 14 ∨ k = 15 ∨ k = 19) s1 s2 := by rw [← hs2]; exact zfx_si (zfx_si (zfx1 (Or.inl rfl)) (Or.inr (Or.inl rfl))) (Or.inr (Or.inr rfl))
  have e14 : zi s2 14 0 0 = nI (n + 1) := by rw [← hs2, zi_sir _ _ _ _ _ _ _ (by omega), zi_sir _ _ _ _ _ _ _ (by omega), zi_si, if_pos ⟨rfl, rfl, rfl⟩]
  have e15 : zi s2 15 0 = upd (zi s1 15 0) n (nI v) := by rw [← hs2, zi_sir _ _ _ _ _ _ _ (by omega), zi_sig, zi_sir _ _ _ _ _ _ _ (by omega)]
  have e19 : zi s2 19 0 = upd (zi s1 19 0) n (-1) := by rw [← hs2, zi_sig, zi_sir _ _ _ _ _ _ _ (by omega), zi_sir _ _ _ _ _ _ _ (by omega)]
  have e16 := (hf2 16 (by omega) 0).1
  have e17 := (hf2 17 (by omega) 0).1
  have nb2 : zNb s2 = n + 1 := by unfold zNb; rw [e14, nI_toInt (by omega)]; omega
  -- the new BIRD's places are settled over: what stood there is no matter
  unfold Wp_X1_settle
  refine ⟨im, ?_⟩
  rintro _ rfl
  refine ⟨im, ?_⟩
  rintro _ rfl
  have iv : vp_in (nI v) 10 := nat_in hv (by omega)
  rw [nI_clamp (by omega), nI_clamp (by omega)]
  have ee : zi (zsi (zsi s2 17 0 n 0) 16 0 n (nI v)) 15 0 n = nI v := by
    rw [zi_sir _ _ _ _ _ _ _ (by omega), zi_sir _ _ _ _ _ _ _ (by omega), e15, upd_at]
  rw [ee, nI_clamp (by omega)]
  refine ⟨im, iv, iv, iv, ?_⟩
  rintro _ rfl
  have e21 : zi (zsi (zsi s2 17 0 n 0) 16 0 n (nI v)) 21 v v = zi s1 21 v v := by
    rw [zi_sir _ _ _ _ _ _ _ (by omega), zi_sir _ _ _ _ _ _ _ (by omega), (hf2 21 (by omega) v).1]
  rw [e21]
  have hf3 : zfx (fun k => k = 16 ∨ k = 17 ∨ k = 21) s2 (zsi (zsi (zsi s2 17 0 n 0) 16 0 n (nI v)) 21 v v (zi s1 21 v v + 1)) := zfx_si (zfx_si (zfx1 (Or.inr (Or.inl rfl))) (Or.inl rfl)) (Or.inr (Or.inr rfl))
  have d16 : zi (zsi (zsi (zsi s2 17 0 n 0) 16 0 n (nI v)) 21 v v (zi s1 21 v v + 1)) 16 0 = upd (zi s1 16 0) n (nI v) := by
    rw [zi_sir _ _ _ _ _ _ _ (by omega), zi_sig, zi_sir _ _ _ _ _ _ _ (by omega), e16]
  have d17 : zi (zsi (zsi (zsi s2 17 0 n 0) 16 0 n (nI v)) 21 v v (zi s1 21 v v + 1)) 17 0 = upd (zi s1 17 0) n 0 := by
    rw [zi_sir _ _ _ _ _ _ _ (by omega), zi_sir _ _ _ _ _ _ _ (by omega), zi_sig, e17]
  have d21 : ∀ x y : Nat, zi (zsi (zsi (zsi s2 17 0 n 0) 16 0 n (nI v)) 21 v v (zi s1 21 v v + 1)) 21 x y = if x = v ∧ y = v then zi s1 21 v v + 1 else zi s1 21 x y := by
    intro x y
    rw [zi_si]
    by_cases e : x = v ∧ y = v
    · rw [if_pos ⟨rfl, e.1, e.2⟩, if_pos e]
    · rw [if_neg (fun q => e ⟨q.2.1, q.2.2⟩), if_neg e, zi_sir _ _ _ _ _ _ _ (by omega), zi_sir _ _ _ _ _ _ _ (by omega), (hf2 21 (by omega) x).1]
  generalize zsi (zsi (zsi s2 17 0 n 0) 16 0 n (nI v)) 21 v v (zi s1 21 v v + 1) = s3 at hf3 d16 d17 d21
  have d14 : zi s3 14 0 0 = nI (n + 1) := by rw [(hf3 14 (by omega) 0).1]; exact e14
  have d15 : zi s3 15 0 = upd (zi s1 15 0) n (nI v) := by rw [(hf3 15 (by omega) 0).1]; exact e15
  have d19 : zi s3 19 0 = upd (zi s1 19 0) n (-1) := by rw [(hf3 19 (by omega) 0).1]; exact e19
  have nb3 : zNb s3 = n + 1 := by unfold zNb; rw [d14, nI_toInt (by omega)]; omega
  have hf : zfx (fun k => k = 14 ∨ k = 15 ∨ k = 16 ∨ k = 17 ∨ k = 19 ∨ k = 21) s1 s3 := zfx_tr (zfx_mo hf2 (fun k hk => by omega)) (zfx_mo hf3 (fun k hk => by omega))
  refine h1 g1 g2 (by omega) s3 ?_ (zfx_tr (zfx_mo hf1 (fun k hk => Or.inl hk)) (zfx_mo hf (fun k hk => by unfold KE; omega))) d14
  refine CI_2 hc ?_ ?_ (hf 7 (by omega) 0).1 (hf 49 (by omega) 0).1 (hf 4 (by omega) 0).1
  · unfold BI at cB ⊢
    rw [nb1] at cB
    rw [nb3, d15, d16, d17]
    refine ⟨by omega, fun c hc9 => ?_, fun x y hx hy => ?_⟩
    · by_cases e : c = n
      · rw [e, upd_at, upd_at, upd_at, nI_toInt (by omega)]
        exact ⟨by omega, fun _ => by omega, fun q => absurd rfl q⟩
      · rw [upd_ne e, upd_ne e, upd_ne e]
        exact cB.2.1 c (by omega)
    · rw [d21 x y]
      have w := cB.2.2 x y hx hy
      have tn : ((n : Int) + 1).toNat = n + 1 := by omega
      rw [tn]
      have tn2 : ((n : Int)).toNat = n := by omega
      rw [tn2] at w
      unfold cnt
      rw [upd_at, upd_at]
      have cg : cnt (upd (zi s1 15 0) n (nI v)) (upd (zi s1 16 0) n (nI v)) (nI x) (nI y) n = cnt (zi s1 15 0) (zi s1 16 0) (nI x) (nI y) n := cnt_congr n (fun c hc8 => ⟨upd_ne (by omega), upd_ne (by omega)⟩)
      rw [cg]
      by_cases e : x = v ∧ y = v
      · obtain ⟨rfl, rfl⟩ := e
        rw [if_pos ⟨rfl, rfl⟩, if_pos ⟨rfl, rfl⟩]
        have le := cnt_le (zi s1 15 0) (zi s1 16 0) (nI y) (nI y) n
        rw [it_add (by rw [it_1]; omega) (by rw [it_1]; omega), it_1]
        omega
      · rw [if_neg e, if_neg (fun q : nI v = nI x ∧ nI v = nI y => e ⟨((nI_eq (by omega) (by omega)).mp q.1).symm, ((nI_eq (by omega) (by omega)).mp q.2).symm⟩)]
        omega
  · unfold LI zLc at cL ⊢
    rw [nb1] at cL
    rw [nb3, d17, d19, (hf 38 (by omega) 0).1, (hf 39 (by omega) 0).1]
    refine ⟨cL.1, fun c hc9 h9 => ?_, cL.2.2⟩
    by_cases e : c = n
    · rw [e, upd_at] at h9
      exact absurd h9 (by decide)
    · rw [upd_ne e] at h9 ⊢
      exact cL.2.1 c (by omega) h9
/-- town() of the class, with t TOWNS -/
theorem S8_town {s : zS} {Q : Int32 → zS → Prop} (t : Nat) (ht : t ≤ 10) (hT : zi s 7 0 0 = nI t) (h : CI s) (h0 : t = 10 → ∀ s' : zS, CI s' → zfx KE s s' → Q (-1) s')
    (h1 : t < 10 → ∀ s' : zS, CI s' → zfx (fun k => KE k ∨ k = 7) s s' → zi s' 7 0 0 = nI (t + 1) → Q (nI t) s') : Wp_X8_town s Q := by
  unfold Wp_X8_town
  rw [hT]
  refine ⟨fun g => ?_, fun g => ?_⟩
  · rw [ni10, nI_leI (by omega) (by omega)] at g
    exact st_of (fun q => absurd q (by decide)) (fun _ => h0 (by omega) _ (CI_KI h s0) (zfx_mo s0 (fun _ => KI_KE)))
  · rw [ni10, nI_leI (by omega) (by omega)] at g
    refine st_of (fun _ => ?_) (fun q => absurd rfl q)
    unfold Wp_X6_add
    rintro _ rfl
    have e7 : zi (zsi s 0 0 8 0) 7 0 0 = nI t := by rw [zi_sir _ _ _ _ _ _ _ (by omega)]; exact hT
    rw [e7, nI_1, zi_si, if_pos ⟨rfl, rfl, rfl⟩, nI_pred]
    have hc := CI_KI h (s0 (v := 0))
    have d7 : zi (zsi (zsi s 0 0 8 0) 7 0 0 (nI (t + 1))) 7 0 0 = nI (t + 1) := by rw [zi_si, if_pos ⟨rfl, rfl, rfl⟩]
    have hf : zfx (fun k => k = 7) (zsi s 0 0 8 0) (zsi (zsi s 0 0 8 0) 7 0 0 (nI (t + 1))) := zfx1 rfl
    refine h1 (by omega) _ ?_ (zfx_tr (zfx_mo s0 (fun k hk => Or.inl (KI_KE hk))) (zfx_mo hf (fun k hk => Or.inr hk))) d7
    have c2 := hc.2.1
    have c3 := hc.2.2.1
    unfold CI
    rw [d7, nI_toInt (by omega), (hf 49 (by omega) 0).1, (hf 4 (by omega) 0).1]
    exact ⟨by omega, BI_fr (fun k hk => by omega) c2 hf, LI_fr (fun k hk => by omega) c3 hf, hc.2.2.2.1, hc.2.2.2.2⟩

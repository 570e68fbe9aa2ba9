/-! ===== BEST RELAY: the class comes back, whatever it finds ===== -/
theorem S8_doubles {a b c d : Int32} {s : zS} {Q : Int32 → zS → Prop} (h : CI s) (hQ : ∀ (r : Int32) (s' : zS), CI s' → zfx KE s s' → Q r s') : Wp_X8_doubles a b c d s Q := by
  unfold Wp_X8_doubles
  refine W_isTown h.1 (fun _ => ⟨fun _ => W_ref0 (fin8 h hQ s0), fun q => absurd rfl q⟩) (fun g1 g2 g3 => ⟨fun q => absurd q one_nz, fun _ => ?_⟩)
  refine W_isTown h.1 (fun _ => ⟨fun _ => W_ref0 (fin8 h hQ s0), fun q => absurd rfl q⟩) (fun g4 g5 g6 => ⟨fun q => absurd q one_nz, fun _ => ?_⟩)
  refine W_isChance ⟨fun _ => W_ref0 (fin8 h hQ s0), fun q => absurd rfl q⟩ ⟨fun q => absurd q one_nz, fun _ => W_ref1 ?_⟩
  refine W_fewest (in_of g1 g3) (in_of g4 g6) (fun r => ⟨fun _ => fin8 h hQ s0, fun _ => ?_⟩)
  rintro _ rfl
  exact fin8 h hQ (zfx_si s0 ki0)
/-- the path up to place m is of TOWNS -/
def PV (s : zS) (m : Nat) : Prop := ∀ i : Nat, i ≤ m → 0 ≤ (zi s 23 0 i).toInt ∧ (zi s 23 0 i).toInt < 10
theorem PV_in {s : zS} {m i : Nat} (h : PV s m) (hi : i ≤ m) : vp_in (zi s 23 0 i) 10 := in_of (h i hi).1 (h i hi).2
theorem nat_in {i n : Nat} (h : i < n) (hn : n < 2 ^ 31) : vp_in (nI i) n := vp_in_nI h hn
theorem W_canGoOn {m : Nat} {b : Int32} {s : zS} {Q : Int32 → zS → Prop} (hm : m < 4) (hp : PV s m) (hb0 : 0 ≤ b.toInt) (hb1 : b.toInt < 10) (h0 : Q 0 s) (h1 : Q 1 s) : Wp_X5_canGoOn (nI m) b s Q := by
  unfold Wp_X5_canGoOn
  intro P hP
  have ib : vp_in b 10 := in_of hb0 hb1
  have im : vp_in (nI m) 4 := nat_in hm (by omega)
  have key : ∀ n i : Nat, i + n = m + 1 → P (nI i) s := by
    intro n
    induction n with
    | zero =>
      intro i hi
      apply hP
      refine ⟨fun _ => ?_, fun g => absurd (nI_lt (show m < i by omega) (by omega)) g⟩
      rw [nI_clamp (by omega)]
      have ip := PV_in hp (Nat.le_refl m)
      exact ⟨im, ip, ib, fun _ => ⟨fun _ => h0, fun q => absurd rfl q⟩, fun _ => ⟨fun q => absurd q one_nz, fun _ => ⟨ib, im, ip, fun _ => h0, fun _ => h1⟩⟩⟩
    | succ n ih =>
      intro i hi
      apply hP
      refine ⟨fun g => absurd g (nI_nlt (by omega) (by omega)), fun _ => ⟨nat_in (by omega) (by omega), fun _ => ?_, fun _ => h0⟩⟩
      rw [nI_1]
      exact ih (i + 1) (by omega)
  exact key (m + 1) 0 (by omega)
theorem W_goNext {m : Nat} {s : zS} {Q : zS → Prop} (hm : m ≤ 3) (hQ : ∀ s' : zS, zfx (fun k => k = 24) s s' → Q s') : Wp_X5_goToNextDoubles (nI m) s Q := by
  unfold Wp_X5_goToNextDoubles
  intro P hP
  have key : ∀ (i : Nat) (s' : zS), i ≤ m → zfx (fun k => k = 24) s s' → P (nI i - 1) s' := by
    intro i
    induction i with
    | zero =>
      intro s' hi hf
      apply hP
      exact ⟨fun _ => hQ s' hf, fun g => absurd (by decide) g⟩
    | succ i ih =>
      intro s' hi hf
      rw [nI_pred]
      apply hP
      have ii : vp_in (nI i) 3 := nat_in (by omega) (by omega)
      refine ⟨fun g => absurd g (nI_pos (by omega)), fun _ => ⟨ii, ii, fun _ => ⟨ii, ?_⟩, fun _ => ⟨ii, ii, ?_⟩⟩⟩
      · rintro _ rfl
        have e : nI i + (-1) = nI i - 1 := by
          apply Int32.toInt_inj.mp
          rw [it_add (by rw [nI_toInt (by omega), it_m1]; omega) (by rw [nI_toInt (by omega), it_m1]; omega), it_sub (by rw [nI_toInt (by omega), it_1]; omega) (by rw [nI_toInt (by omega), it_1]; omega), it_m1, it_1]
          omega
        rw [e]
        exact ih _ (by omega) (zfx_si hf rfl)
      · rintro _ rfl
        exact hQ _ (zfx_si hf rfl)
  rintro _ rfl
  exact key m s (Nat.le_refl m) zfx_rf
def KW (k : Nat) : Prop := k = 22 ∨ k = 26 ∨ k = 27
theorem W_isBetter {a b : Int32} {s : zS} {Q : Int32 → zS → Prop} (h0 : Q 0 s) (h1 : Q 1 s) : Wp_X5_isBetter a b s Q := by
  unfold Wp_X5_isBetter
  exact ⟨fun _ => h1, fun _ => ⟨fun _ => ⟨fun _ => h0, fun _ => ⟨fun _ => h0, fun _ => h1⟩⟩, fun _ => h1⟩⟩
theorem W_weigh {m : Nat} {b : Int32} {s : zS} {Q : zS → Prop} (hm : m ≤ 3) (hp : PV s m) (hQ : ∀ s' : zS, zfx KW s s' → Q s') : Wp_X5_weigh (nI m) b s Q := by
  unfold Wp_X5_weigh
  intro P hP
  have k22 : KW 22 := Or.inl rfl
  have k26 : KW 26 := Or.inr (Or.inl rfl)
  have k27 : KW 27 := Or.inr (Or.inr rfl)
  have key : ∀ (n i : Nat) (v3 : Int32) (v4 v6 : Int64), i + n = m → P v3 v4 v6 (nI i) s := by
    intro n
    induction n with
    | zero =>
      intro i v3 v4 v6 hi
      apply hP
      refine ⟨fun _ => ⟨fun _ => hQ s zfx_rf, fun _ => W_isBetter ⟨fun q => absurd rfl q, fun _ => hQ s zfx_rf⟩ ⟨fun _ => ?_, fun q => absurd q one_nz⟩⟩, fun g => absurd (nI_le (show m ≤ i by omega) (by omega)) g⟩
      rintro _ rfl _ rfl _ rfl _ rfl _ rfl
      have e1 : nI m + 1 = nI (m + 1) := nI_1 m
      rw [e1]
      refine ⟨⟨⟨by decide, by decide, nI_pos (by omega)⟩, ?_, ?_⟩, ?_⟩
      · rw [nI_clamp (by omega)]; show 0 + (m + 1) ≤ 4; omega
      · rw [nI_clamp (by omega)]; show 0 + (m + 1) ≤ 4; omega
      rintro _ rfl
      refine ⟨⟨⟨by decide, by decide, nI_pos (by omega)⟩, ?_, ?_⟩, ?_⟩
      · rw [nI_clamp (by omega)]; show 0 + m ≤ 3; omega
      · rw [nI_clamp (by omega)]; show 0 + m ≤ 3; omega
      rintro _ rfl
      exact hQ _ (zfx_ci (zfx_ci (zfx_sj (zfx_sj (zfx_si (zfx_si (zfx1 k22) k22) k22) k22) k22) k26) k27)
    | succ n ih =>
      intro i v3 v4 v6 hi
      apply hP
      have i3 : vp_in (nI i) 3 := nat_in (by omega) (by omega)
      refine ⟨fun g => absurd g (nI_ge (by omega) (by omega)), fun _ => ⟨i3, ?_⟩⟩
      rintro _ rfl
      rw [nI_1, nI_clamp (by omega), nI_clamp (by omega)]
      refine ⟨nat_in (by omega) (by omega), nat_in (by omega) (by omega), i3, W_sureTop (PV_in hp (by omega)) (PV_in hp (by omega)) (fun r => ?_)⟩
      rintro _ rfl
      refine ⟨i3, W_power (fun r2 => ?_)⟩
      rintro _ rfl
      exact ih (i + 1) _ _ _ (by omega)
  exact key m 0 0 1 1 (by omega)
def KT (k : Nat) : Prop := 22 ≤ k ∧ k ≤ 27 ∧ ¬ k = 23
theorem PV_fr {K : Nat → Prop} {s s' : zS} {m : Nat} (hk : ¬ K 23) (h : PV s m) (hf : zfx K s s') : PV s' m := by
  unfold PV at h ⊢
  rw [(hf 23 hk 0).1]
  exact h
theorem W_tryDoubles {m : Nat} {s : zS} {Q : zS → Prop} (hm : m ≤ 3) (hp : PV s m) (hQ : ∀ s' : zS, zfx KT s s' → Q s') : Wp_X5_tryDoubles (nI m) s Q := by
  unfold Wp_X5_tryDoubles
  intro P7 P104 h7 h104
  have n23 : ¬ KT 23 := fun q => q.2.2 rfl
  have k24 : KT 24 := by unfold KT; omega
  have k25 : KT 25 := by unfold KT; omega
  have key104 : ∀ (n : Nat) (v2 v3 v4 : Int32) (s' : zS), (v2.toInt - v4.toInt).toNat = n → zfx KT s s' → P104 v2 v3 v4 s' := by
    intro n
    induction n with
    | zero =>
      intro v2 v3 v4 s' hn hf
      apply h104
      refine ⟨fun _ => hQ s' hf, fun g => ?_⟩
      rw [it_le] at g
      omega
    | succ n ih =>
      intro v2 v3 v4 s' hn hf
      apply h104
      refine ⟨fun _ => hQ s' hf, fun g => ?_⟩
      refine W_weigh hm (PV_fr n23 hp hf) (fun s1 hf1 => W_goNext hm (fun s2 hf2 => ?_))
      rw [it_le] at g
      have h1 := it_lo v4
      have h2 := it_hi v2
      refine ih _ _ _ s2 (by rw [it_add (by rw [it_1]; omega) (by rw [it_1]; omega), it_1]; omega) (zfx_tr hf (zfx_tr (zfx_mo hf1 (fun k hk => ?_)) (zfx_mo hf2 (fun k hk => ?_))))
      · unfold KW at hk; unfold KT; omega
      · rw [hk]; exact k24
  have key7 : ∀ (n i : Nat) (v2 v3 : Int32) (s' : zS), i + n = m → zfx KT s s' → P7 v2 v3 (nI i) s' := by
    intro n
    induction n with
    | zero =>
      intro i v2 v3 s' hi hf
      apply h7
      exact ⟨fun _ => key104 _ v2 v3 0 s' rfl hf, fun g => absurd (nI_le (show m ≤ i by omega) (by omega)) g⟩
    | succ n ih =>
      intro i v2 v3 s' hi hf
      apply h7
      have i3 : vp_in (nI i) 3 := nat_in (by omega) (by omega)
      have i4 : vp_in (nI i) 4 := nat_in (by omega) (by omega)
      have i5 : vp_in (nI (i + 1)) 4 := nat_in (by omega) (by omega)
      refine ⟨fun g => absurd g (nI_ge (by omega) (by omega)), fun _ => ⟨i3, ?_⟩⟩
      rintro _ rfl
      rw [nI_1, nI_clamp (by omega), nI_clamp (by omega)]
      have p1 := PV_fr (s' := zsi s' 24 0 i 1) n23 hp (zfx_si hf k24)
      refine ⟨i5, PV_in p1 (by omega), i4, PV_in p1 (by omega), i3, ?_⟩
      rintro _ rfl
      refine ⟨i3, ?_⟩
      rintro _ rfl
      have p2 := PV_fr (s' := zsi (zsi s' 24 0 i 1) 25 0 i (if (zi (zsi s' 24 0 i 1) 21 (Int32.toNatClampNeg (zi (zsi s' 24 0 i 1) 23 0 (i + 1))) (Int32.toNatClampNeg (zi (zsi s' 24 0 i 1) 23 0 i))) < (4 : Int32) then (zi (zsi s' 24 0 i 1) 21 (Int32.toNatClampNeg (zi (zsi s' 24 0 i 1) 23 0 (i + 1))) (Int32.toNatClampNeg (zi (zsi s' 24 0 i 1) 23 0 i))) else (4 : Int32))) n23 hp (zfx_si (zfx_si hf k24) k25)
      refine ⟨i4, PV_in p2 (by omega), i5, PV_in p2 (by omega), ?_⟩
      rintro _ rfl
      exact ih (i + 1) _ _ _ (by omega) (zfx_si (zfx_si hf k24) k25)
  exact key7 m 0 1 0 s (by omega) zfx_rf
def KR (k : Nat) : Prop := 22 ≤ k ∧ k ≤ 27
theorem W_extend : ∀ (n m : Nat) (s : zS) (Q : zS → Prop), n + m = 4 → 1 ≤ n → (0 ≤ (zi s 7 0 0).toInt ∧ (zi s 7 0 0).toInt ≤ 10) → PV s m → (∀ s' : zS, zfx KR s s' → (∀ i, i ≤ m → zi s' 23 0 i = zi s 23 0 i) → Q s') → Wp_X5_extend n (nI m) s Q := by
  intro n
  induction n with
  | zero => intro m s Q _ h1; exact absurd h1 (by omega)
  | succ n ihn =>
    intro m s Q hnm h1 hT hp hQ
    unfold Wp_X5_extend
    intro P hP
    have n7 : ¬ KR 7 := by unfold KR; omega
    have k23 : KR 23 := by unfold KR; omega
    refine ⟨fun g => ?_, fun _ => hQ s zfx_rf (fun _ _ => rfl)⟩
    have hm3 : m < 3 := by
      rcases Nat.lt_or_ge m 3 with q | q
      · exact q
      · exact absurd g (nI_nlt (a := m) (b := 3) q (by omega))
    have key : ∀ (k j : Nat) (s' : zS), j + k = 10 → zfx KR s s' → (∀ i, i ≤ m → zi s' 23 0 i = zi s 23 0 i) → P (nI j) s' := by
      intro k
      induction k with
      | zero =>
        intro j s' hj hf hpp
        apply hP
        have e7 : zi s' 7 0 0 = zi s 7 0 0 := by rw [(hf 7 n7 0).1]
        refine ⟨fun _ => hQ s' hf hpp, fun g => ?_⟩
        rw [it_le, e7, nI_toInt (by omega)] at g
        omega
      | succ k ihk =>
        intro j s' hj hf hpp
        apply hP
        refine ⟨fun _ => hQ s' hf hpp, fun g => ?_⟩
        have pv : PV s' m := fun i hi => by rw [hpp i hi]; exact hp i hi
        rw [nI_1, nI_1]
        refine W_canGoOn (by omega) pv (by rw [nI_toInt (by omega)]; omega) (by rw [nI_toInt (by omega)]; omega) ⟨fun q => absurd rfl q, fun _ => ihk (j + 1) s' (by omega) hf hpp⟩ ⟨fun _ => ⟨nat_in (by omega) (by omega), ?_⟩, fun q => absurd q one_nz⟩
        rintro _ rfl
        rw [nI_clamp (by omega)]
        have hf2 : zfx KR s (zsi s' 23 0 (m + 1) (nI j)) := zfx_si hf k23
        have hp2 : ∀ i, i ≤ m → zi (zsi s' 23 0 (m + 1) (nI j)) 23 0 i = zi s 23 0 i := fun i hi => by rw [zi_si, if_neg (by omega)]; exact hpp i hi
        have pv2 : PV (zsi s' 23 0 (m + 1) (nI j)) (m + 1) := by
          intro i hi
          by_cases e : i = m + 1
          · rw [e, zi_si, if_pos ⟨rfl, rfl, rfl⟩, nI_toInt (by omega)]
            omega
          · rw [hp2 i (by omega)]
            exact hp i (by omega)
        refine ⟨fun _ => ?_, fun _ => ?_⟩
        · rcases Nat.eq_zero_or_pos n with z | z
          · exfalso; omega
          · refine ihn (m + 1) _ _ (by omega) z ?_ pv2 (fun s2 hf3 hp3 => ihk (j + 1) s2 (by omega) (zfx_tr hf2 hf3) (fun i hi => (hp3 i (by omega)).trans (hp2 i hi)))
            have e7 : zi (zsi s' 23 0 (m + 1) (nI j)) 7 0 = zi s 7 0 := (hf2 7 n7 0).1
            rw [e7]
            exact hT
        · exact W_tryDoubles (by omega) pv2 (fun s2 hf3 => ihk (j + 1) s2 (by omega) (zfx_tr hf2 (zfx_mo hf3 (fun q hq => by unfold KT at hq; unfold KR; omega))) (fun i hi => by rw [(hf3 23 (fun q => q.2.2 rfl) 0).1]; exact hp2 i hi))
    exact key 10 0 s rfl zfx_rf (fun _ _ => rfl)
theorem S8_relay {a b c d : Int32} {s : zS} {Q : Int32 → zS → Prop} (h : CI s) (hQ : ∀ (r : Int32) (s' : zS), CI s' → zfx KE s s' → Q r s') : Wp_X8_relay a b c d s Q := by
  unfold Wp_X8_relay
  refine W_two h.1 (fun _ => ⟨fun _ => W_ref0 (fin8 h hQ s0), fun q => absurd rfl q⟩) (fun g => ⟨fun q => absurd q one_nz, fun _ => ?_⟩)
  refine W_isChance ⟨fun _ => W_ref0 (fin8 h hQ s0), fun q => absurd rfl q⟩ ⟨fun q => absurd q one_nz, fun _ => W_ref1 ?_⟩
  unfold Wp_X5_seek
  rintro _ rfl _ rfl _ rfl _ rfl _ rfl
  have kr : ∀ k, KR k → KI k := fun k hk => by unfold KR at hk; unfold KI; omega
  have k22 : KI 22 := kr 22 (by unfold KR; omega)
  have k23 : KI 23 := kr 23 (by unfold KR; omega)
  have hf : zfx KI s (zsi (zsi (zsi (zsi (zsi (zsi s 0 0 8 0) 23 0 0 a) 22 0 5 b) 22 0 6 c) 22 0 7 d) 22 0 8 (-1)) := zfx_si (zfx_si (zfx_si (zfx_si (zfx_si s0 k23) k22) k22) k22) k22
  generalize hs9 : zsi (zsi (zsi (zsi (zsi (zsi s 0 0 8 0) 23 0 0 a) 22 0 5 b) 22 0 6 c) 22 0 7 d) 22 0 8 (-1) = s9 at hf ⊢
  have hpv : zi s9 23 0 0 = a := by
    rw [← hs9]
    simp only [zi_si, Nat.reduceEqDiff, false_and, if_false, and_self, if_true]
  refine W_extend 4 0 s9 _ rfl (by omega) ?_ ?_ ?_
  · rw [(hf 7 (by unfold KI; omega) 0).1]
    exact h.1
  · intro i hi
    obtain rfl : i = 0 := by omega
    rw [hpv]
    exact ⟨g.1, g.2.2.1⟩
  · intro s' hf2 _
    have hf3 := zfx_tr hf (zfx_mo hf2 kr)
    refine ⟨fun _ => W_tell hf3 (fun s2 hf4 => fin8 h hQ hf4), fun _ => ?_⟩
    rintro _ rfl
    exact fin8 h hQ (zfx_si hf3 ki0)

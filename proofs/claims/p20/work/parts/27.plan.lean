/-! ===== BEST CARRYING: the class comes back ===== -/
/-- choices of a TOWN up to L: no more than are left -/
def CH (s : zS) (a L : Nat) : Prop := ∀ j : Nat, j ≤ L → 0 ≤ (zi s 36 a j).toInt ∧ (zi s 36 a j).toInt ≤ j
def KG (k : Nat) : Prop := k = 34 ∨ k = 36
theorem W_lacked {a h : Nat} {s : zS} {Q : Int32 → zS → Prop} (ha : a < 10) (hh : h < 10) (hQ : ∀ r : Int32, Q r s) : Wp_X0_lacked (nI a) (nI h) s Q := by
  unfold Wp_X0_lacked
  exact ⟨nat_in ha (by omega), nat_in hh (by omega), nat_in hh (by omega), nat_in ha (by omega), hQ _⟩
theorem CH_set {s : zS} {a i m L : Nat} (h : CH s a L) (hm : m ≤ i) (hi : i ≤ 60) : CH (zsi s 36 a i (nI m)) a L := by
  intro j hj
  rw [zi_si]
  by_cases e : j = i
  · rw [if_pos ⟨rfl, rfl, e⟩, nI_toInt (by omega)]
    omega
  · rw [if_neg (fun q => e q.2.2)]
    exact h j hj
theorem W_weighTown {a h L : Nat} {s : zS} {Q : zS → Prop} (ha : a < 10) (hh : h < 10) (hL : L ≤ 60) (hQ : ∀ s' : zS, zfx KG s s' → (∀ r : Nat, ¬ r = a → zi s' 36 r = zi s 36 r) → CH s' a L → Q s') : Wp_X0_weighTown (nI a) (nI h) (nI L) s Q := by
  unfold Wp_X0_weighTown
  intro P11 P50 h11 h50
  have k34 : KG 34 := Or.inl rfl
  have k36 : KG 36 := Or.inr rfl
  have ia : vp_in (nI a) 10 := nat_in ha (by omega)
  have ia11 : vp_in (nI a) 11 := nat_in (by omega) (by omega)
  have ia1 : vp_in (nI (a + 1)) 11 := nat_in (by omega) (by omega)
  have ih' : vp_in (nI h) 10 := nat_in hh (by omega)
  have ca : Int32.toNatClampNeg (nI a) = a := nI_clamp (by omega)
  refine W_lacked ha hh (fun lack => ?_)
  have key : ∀ (n i : Nat) (s' : zS), i + n = L + 1 → zfx KG s s' → (∀ r : Nat, ¬ r = a → zi s' 36 r = zi s 36 r) → (∀ j : Nat, j < i → 0 ≤ (zi s' 36 a j).toInt ∧ (zi s' 36 a j).toInt ≤ j) → P11 lack (nI i) s' := by
    intro n
    induction n with
    | zero =>
      intro i s' hi hf hr hc
      apply h11
      exact ⟨fun _ => hQ s' hf hr (fun j hj => hc j (by omega)), fun g => absurd (nI_lt (show L < i by omega) (by omega)) g⟩
    | succ n ih =>
      intro i s' hi hf hr hc
      have inner : ∀ (m k : Nat) (s2 : zS), k + m = i + 1 → 1 ≤ k → zfx KG s s2 → (∀ r : Nat, ¬ r = a → zi s2 36 r = zi s 36 r) → (∀ j : Nat, j < i + 1 → 0 ≤ (zi s2 36 a j).toInt ∧ (zi s2 36 a j).toInt ≤ j) → P50 lack (nI i) (nI k) s2 := by
        intro m
        induction m with
        | zero =>
          intro k s2 hk hk1 hf2 hr2 hc2
          apply h50
          have nx : P11 lack (nI i + 1) s2 := by rw [nI_1]; exact ih (i + 1) s2 (by omega) hf2 hr2 hc2
          exact ⟨fun _ => nx, fun _ => ⟨fun _ => nx, fun g => absurd (nI_lt (show i < k by omega) (by omega)) g⟩⟩
        | succ m ihm =>
          intro k s2 hk hk1 hf2 hr2 hc2
          apply h50
          have nx : P11 lack (nI i + 1) s2 := by rw [nI_1]; exact ih (i + 1) s2 (by omega) hf2 hr2 hc2
          refine ⟨fun _ => nx, fun _ => ⟨fun _ => nx, fun _ => ?_⟩⟩
          unfold Wp_X0_worthOf Wp_X0_fareOf
          rw [nI_1, nI_1, nI_subN (by omega) (by omega)]
          refine ⟨ia, ih', ih', ia, ia1, nat_in (by omega) (by omega), ?_⟩
          intro y hy
          refine ⟨ia11, nat_in (by omega) (by omega), fun _ => ?_, fun _ => ⟨ia, nat_in (by omega) (by omega), ?_⟩⟩
          · exact ihm (k + 1) s2 (by omega) (by omega) hf2 hr2 hc2
          rintro _ rfl
          refine ⟨ia11, nat_in (by omega) (by omega), ?_⟩
          rintro _ rfl
          rw [ca, nI_clamp (by omega)]
          refine ihm (k + 1) _ (by omega) (by omega) (zfx_sj (zfx_si hf2 k36) k34) (fun r hn => ?_) (fun j hj => ?_)
          · rw [zi_sj, zi_sir _ _ _ _ _ _ _ (fun q => hn q.2)]
            exact hr2 r hn
          · rw [zi_sj, zi_si]
            by_cases e : j = i
            · rw [if_pos ⟨rfl, rfl, e⟩, nI_toInt (by omega)]
              omega
            · rw [if_neg (fun q => e q.2.2)]
              exact hc2 j hj
      apply h11
      refine ⟨fun g => absurd g (nI_nlt (show i ≤ L by omega) (by omega)), fun _ => ⟨ia, nat_in (by omega) (by omega), ?_⟩⟩
      rintro _ rfl
      rw [nI_1, ca, nI_clamp (by omega)]
      refine ⟨ia11, ia1, nat_in (by omega) (by omega), nat_in (by omega) (by omega), ?_⟩
      rintro _ rfl
      refine inner i 1 _ (by omega) (by omega) (zfx_sj (zfx_si hf k36) k34) (fun r hn => ?_) (fun j hj => ?_)
      · rw [zi_sj, zi_sir _ _ _ _ _ _ _ (fun q => hn q.2)]
        exact hr r hn
      · rw [zi_sj, zi_si]
        by_cases e : j = i
        · rw [if_pos ⟨rfl, rfl, e⟩, it_0]
          omega
        · rw [if_neg (fun q => e q.2.2)]
          exact hc j (by omega)
  exact key (L + 1) 0 s (by omega) zfx_rf (fun _ _ => rfl) (fun j hj => absurd hj (Nat.not_lt_zero j))
def KP (k : Nat) : Prop := k = 34 ∨ k = 36 ∨ k = 37
theorem KG_KP {k : Nat} (h : KG k) : KP k := by unfold KG at h; unfold KP; omega
theorem KP_KI {k : Nat} (h : KP k) : KI k := by unfold KP at h; unfold KI; omega
theorem W_plan {h : Nat} {s : zS} {Q : zS → Prop} (hh : h < 10) (hB : BI s) (hQ : ∀ s' : zS, zfx KP s s' → Q s') : Wp_X0_plan (nI h) s Q := by
  unfold Wp_X0_plan
  intro P15 P34 h15 h34
  have ih' : vp_in (nI h) 10 := nat_in hh (by omega)
  have hw := hB.2.2 h h hh hh
  have le := cnt_le (zi s 15 0) (zi s 16 0) (nI h) (nI h) (zNb s).toNat
  have b60 := hB.1.2
  obtain ⟨L, hL, eL⟩ := n_of (a := zi s 21 h h) (n := 60) (by omega) (by omega)
  have second : ∀ (n i l : Nat) (s' : zS), i + n = 10 → l ≤ L → zfx KP s s' → (∀ r, r < 10 → CH s' r L) → P34 (nI l) (nI i) s' := by
    intro n
    induction n with
    | zero =>
      intro i l s' hi hl hf hc
      apply h34
      obtain rfl : i = 10 := by omega
      exact ⟨fun _ => hQ s' hf, fun g => absurd (Int32.le_refl _) g⟩
    | succ n ih =>
      intro i l s' hi hl hf hc
      apply h34
      have ii : vp_in (nI i) 10 := nat_in (by omega) (by omega)
      refine ⟨fun g => absurd g (nI_ge (a := i) (b := 10) (by omega) (by omega)), fun _ => ⟨ii, nat_in (by omega) (by omega), ii, ?_⟩⟩
      rintro _ rfl
      rw [nI_clamp (by omega), nI_clamp (by omega)]
      refine ⟨ii, ?_⟩
      rintro _ rfl
      have c1 := hc i (by omega) l hl
      obtain ⟨m, hm, em⟩ := n_of (n := l) c1.1 c1.2
      rw [zi_si, if_pos ⟨rfl, rfl, rfl⟩, em, nI_subN hm (by omega), nI_1]
      refine ih (i + 1) (l - m) _ (by omega) (by omega) (zfx_si hf (Or.inr (Or.inr rfl))) (fun r hr j hj => ?_)
      rw [zi_sir _ _ _ _ _ _ _ (by omega)]
      exact hc r hr j hj
  have first : ∀ (i : Nat) (s' : zS), i ≤ 10 → zfx KG s s' → (∀ r, i ≤ r → r < 10 → CH s' r L) → P15 (nI L) (nI i - 1) s' := by
    intro i
    induction i with
    | zero =>
      intro s' hi hf hc
      apply h15
      exact ⟨fun _ => second 10 0 L s' rfl (Nat.le_refl L) (zfx_mo hf (fun _ => KG_KP)) (fun r hr => hc r (by omega) hr), fun g => absurd (by decide) g⟩
    | succ i ih =>
      intro s' hi hf hc
      rw [nI_pred]
      apply h15
      refine ⟨fun g => absurd g (nI_pos (by omega)), fun _ => ?_⟩
      refine W_weighTown (by omega) hh hL (fun s2 hf2 hr2 hc2 => ?_)
      have e : nI i + (-1) = nI i - 1 := by
        apply Int32.toInt_inj.mp
        rw [it_add (by rw [nI_toInt (by omega), it_m1]; omega) (by rw [nI_toInt (by omega), it_m1]; omega), it_sub (by rw [nI_toInt (by omega), it_1]; omega) (by rw [nI_toInt (by omega), it_1]; omega), it_m1, it_1]
        omega
      rw [e]
      refine ih s2 (by omega) (zfx_tr hf hf2) (fun r h1 h2 j hj => ?_)
      by_cases er : r = i
      · rw [er]; exact hc2 j hj
      · rw [hr2 r er]; exact hc r (by omega) h2 j hj
  refine ⟨ih', ih', ?_⟩
  rintro _ rfl
  rw [nI_clamp (by omega), eL]
  exact first 10 s (by omega) zfx_rf (fun r h1 h2 => absurd h1 (by omega))
theorem W_worthT {h : Nat} {s : zS} {Q : Int32 → zS → Prop} (hh : h < 10) (hQ : ∀ r : Int32, Q r s) : Wp_X0_worthTogether (nI h) s Q := by
  unfold Wp_X0_worthTogether
  intro P hP
  have key : ∀ (n i : Nat) (v : Int64), i + n = 10 → P v (nI i) s := by
    intro n
    induction n with
    | zero =>
      intro i v hi
      apply hP
      obtain rfl : i = 10 := by omega
      exact ⟨fun _ => hQ _, fun g => absurd (Int32.le_refl _) g⟩
    | succ n ih =>
      intro i v hi
      apply hP
      have ii : vp_in (nI i) 10 := nat_in (by omega) (by omega)
      refine ⟨fun g => absurd g (nI_ge (a := i) (b := 10) (by omega) (by omega)), fun _ => ⟨ii, ii, nat_in hh (by omega), ?_⟩⟩
      rintro _ rfl
      rw [nI_1]
      exact ih (i + 1) _ (by omega)
  exact key 10 0 0 rfl
theorem W_faresT {h : Nat} {s : zS} {Q : Int32 → zS → Prop} (hh : h < 10) (hQ : ∀ r : Int32, Q r s) : Wp_X0_faresTogether (nI h) s Q := by
  unfold Wp_X0_faresTogether
  intro P hP
  have key : ∀ (n i : Nat) (v : Int64), i + n = 10 → P v (nI i) s := by
    intro n
    induction n with
    | zero =>
      intro i v hi
      apply hP
      obtain rfl : i = 10 := by omega
      exact ⟨fun _ => hQ _, fun g => absurd (Int32.le_refl _) g⟩
    | succ n ih =>
      intro i v hi
      apply hP
      have ii : vp_in (nI i) 10 := nat_in (by omega) (by omega)
      refine ⟨fun g => absurd g (nI_ge (a := i) (b := 10) (by omega) (by omega)), fun _ => ⟨ii, nat_in hh (by omega), ii, ?_⟩⟩
      rintro _ rfl
      rw [nI_1]
      exact ih (i + 1) _ (by omega)
  exact key 10 0 0 rfl
theorem BI_KI {s s' : zS} (h : CI s) (hf : zfx KI s s') : BI s' := (CI_KI h hf).2.1
theorem S8_carrying {a : Int32} {s : zS} {Q : Int32 → zS → Prop} (h : CI s) (hQ : ∀ (r : Int32) (s' : zS), CI s' → zfx KE s s' → Q r s') : Wp_X8_carrying a s Q := by
  unfold Wp_X8_carrying
  refine W_isTown h.1 (fun _ => W_ref0 (fin8 h hQ s0)) (fun g1 g2 g3 => W_ref1 ?_)
  obtain ⟨j, hj, rfl⟩ := n_ofl (a := a) (n := 10) g1 g3
  exact W_plan hj (BI_KI h s0) (fun s' hf => W_worthT hj (fun r => fin8 h hQ (zfx_tr s0 (zfx_mo hf (fun _ => KP_KI)))))
theorem S8_carried {a b : Int32} {s : zS} {Q : Int32 → zS → Prop} (h : CI s) (hQ : ∀ (r : Int32) (s' : zS), CI s' → zfx KE s s' → Q r s') : Wp_X8_carried a b s Q := by
  unfold Wp_X8_carried
  refine W_two h.1 (fun _ => W_ref0 (fin8 h hQ s0)) (fun g => W_ref1 ?_)
  have ib : vp_in b 10 := in_of g.2.2.2.1 g.2.2.2.2.2.1
  obtain ⟨j, hj, rfl⟩ := n_ofl (a := a) (n := 10) g.1 g.2.2.1
  exact W_plan hj (BI_KI h s0) (fun s' hf => ⟨ib, fin8 h hQ (zfx_tr s0 (zfx_mo hf (fun _ => KP_KI)))⟩)
theorem S8_fares {a : Int32} {s : zS} {Q : Int32 → zS → Prop} (h : CI s) (hQ : ∀ (r : Int32) (s' : zS), CI s' → zfx KE s s' → Q r s') : Wp_X8_fares a s Q := by
  unfold Wp_X8_fares
  refine W_isTown h.1 (fun _ => W_ref0 (fin8 h hQ s0)) (fun g1 g2 g3 => W_ref1 ?_)
  obtain ⟨j, hj, rfl⟩ := n_ofl (a := a) (n := 10) g1 g3
  exact W_plan hj (BI_KI h s0) (fun s' hf => W_faresT hj (fun r => fin8 h hQ (zfx_tr s0 (zfx_mo hf (fun _ => KP_KI)))))
theorem W_carryOut {h : Nat} {s : zS} {Q : Int32 → zS → Prop} (hh : h < 10) (hc : CI s) (hQ : ∀ (r : Int32) (s' : zS), CI s' → zfx (fun k => k = 16 ∨ k = 17 ∨ k = 21) s s' → Q r s') : Wp_X0_carryOut (nI h) s Q := by
  unfold Wp_X0_carryOut
  intro P7 P23 h7 h23
  -- n: the TOWNS behind this one; m: the BIRDS behind this one
  have key : ∀ (n i b : Nat) (v3 : Int32) (s' : zS), i + n = 10 → b ≤ 60 → CI s' → zfx (fun k => k = 16 ∨ k = 17 ∨ k = 21) s s' → P7 (nI b) v3 (nI i) s' := by
    intro n
    induction n with
    | zero =>
      intro i b v3 s' hi hb hc' hf
      apply h7
      obtain rfl : i = 10 := by omega
      exact ⟨fun _ => hQ _ s' hc' hf, fun g => absurd (Int32.le_refl _) g⟩
    | succ n ih =>
      intro i b v3 s' hi hb hc' hf
      have inner : ∀ (m b : Nat) (v3 v5 : Int32) (s2 : zS), b + m = 60 → CI s2 → zfx (fun k => k = 16 ∨ k = 17 ∨ k = 21) s s2 → P23 (nI b) v3 (nI i) v5 s2 := by
        intro m
        induction m with
        | zero =>
          intro b v3 v5 s2 hb2 hc2 hf2
          apply h23
          have nx : P7 (nI b) v3 (nI i + 1) s2 := by rw [nI_1]; exact ih (i + 1) b v3 s2 (by omega) (by omega) hc2 hf2
          refine ⟨fun _ => nx, fun _ => ⟨fun _ => nx, fun g => ?_⟩⟩
          have b60 := hc2.2.1.1.2
          unfold zNb at b60
          rw [it_le, nI_toInt (by omega)] at g
          omega
        | succ m ihm =>
          intro b v3 v5 s2 hb2 hc2 hf2
          apply h23
          have nx : P7 (nI b) v3 (nI i + 1) s2 := by rw [nI_1]; exact ih (i + 1) b v3 s2 (by omega) (by omega) hc2 hf2
          refine ⟨fun _ => nx, fun _ => ⟨fun _ => nx, fun g => ?_⟩⟩
          rw [it_le, nI_toInt (by omega)] at g
          have hlt : (b : Int) < zNb s2 := by unfold zNb; omega
          have ib : vp_in (nI b) 60 := nat_in (by omega) (by omega)
          unfold Wp_X1_waitsAtHome
          rw [nI_clamp (by omega), nI_1]
          have skip : (¬ (0 : Int32) = 0 → Wp_X1_leave (nI b) s2 (fun s5 => Wp_X1_settle (nI b) (nI i) s5 (fun s7 => P23 (nI (b + 1)) (v3 + 1) (nI i) (v5 + (-1)) s7))) ∧ ((0 : Int32) = 0 → P23 (nI (b + 1)) v3 (nI i) v5 s2) := ⟨fun q => absurd rfl q, fun _ => ihm (b + 1) v3 v5 s2 (by omega) hc2 hf2⟩
          refine ⟨ib, fun _ => skip, fun e15 => ⟨ib, fun _ => skip, fun e16 => ⟨fun _ => ?_, fun q => absurd q one_nz⟩⟩⟩
          have st0 : zi s2 17 0 b = 0 := by
            by_cases e : zi s2 17 0 b = 0
            · exact e
            · exact absurd (((hc2.2.1.2.1 b hlt).2.2 e).symm.trans e16) (m1_no hh)
          exact W_move hc2 hlt st0 (by omega) (fun s3 hc3 hf3 => ihm (b + 1) _ _ s3 (by omega) hc3 (zfx_tr hf2 hf3))
      apply h7
      refine ⟨fun g => absurd g (nI_ge (a := i) (b := 10) (by omega) (by omega)), fun _ => ⟨nat_in (by omega) (by omega), ?_⟩⟩
      rintro _ rfl
      exact inner (60 - b) b _ _ s' (by omega) hc' hf
  exact key 10 0 0 0 s rfl (by omega) hc zfx_rf
theorem S8_send {a : Int32} {s : zS} {Q : Int32 → zS → Prop} (h : CI s) (hQ : ∀ (r : Int32) (s' : zS), CI s' → zfx KE s s' → Q r s') : Wp_X8_send a s Q := by
  unfold Wp_X8_send
  refine W_isTown h.1 (fun _ => W_ref0 (fin8 h hQ s0)) (fun g1 g2 g3 => W_ref1 ?_)
  obtain ⟨j, hj, rfl⟩ := n_ofl (a := a) (n := 10) g1 g3
  refine W_plan hj (BI_KI h s0) (fun s' hf => ?_)
  have hf2 : zfx KI s s' := zfx_tr s0 (zfx_mo hf (fun _ => KP_KI))
  exact W_carryOut hj (CI_KI h hf2) (fun r s2 hc hf3 => hQ r s2 hc (zfx_tr (zfx_mo hf2 (fun _ => KI_KE)) (zfx_mo hf3 (fun _ => mv_KE))))

theorem one_ne : ¬ (1 : Int32) = 0 := by decide
theorem k_place {s : zS} {a b : Int32} {Q : Int32 → zS → Prop} (h : FC s) (h1 : Q 1 s) (h3 : Q 3 s) : Wp_X8_placeFault a b s Q := by
  have hm : ¬ a < 0 → ¬ (3 : Int32) < a → vp_in a 4 ∧ zi s 3 0 (Int32.toNatClampNeg a) = -1 := by
    intro g1 g2
    simp only [it_lt, it_0, it_3] at g1 g2
    obtain ⟨t, ht, rfl⟩ := n_ofl (a := a) (n := 4) (by omega) (by omega)
    refine ⟨vp_in_nI ht (by omega), ?_⟩
    rw [nI_clamp (by omega)]
    exact h.2.2.2.1 t ht
  simp only [Wp_X8_placeFault, Wp_X8_isTray, Wp_X8_within, Wp_X7_isMissing, one_ne, not_false_eq_true, true_implies, false_implies, implies_true, true_and, and_true, not_true_eq_false, forall_const]
  refine ⟨fun _ => h1, fun g1 => ⟨fun _ => h1, fun g2 => ?_⟩⟩
  obtain ⟨q1, q2⟩ := hm g1 g2
  exact ⟨q1, fun q => absurd q2 q, fun _ => h3⟩
theorem k_wrong {s : zS} {a b : Int32} {Q : Int32 → zS → Prop} (h : FM s) (h1 : Q 1 s) (h3 : Q 3 s) : Wp_X9_wrong a b s Q := by
  have hm : ¬ a < 0 → ¬ (4 : Int32) ≤ a → vp_in a 4 ∧ zi s 56 0 (Int32.toNatClampNeg a) = -1 := by
    intro g1 g2
    simp only [it_lt, it_le, it_0, it_4] at g1 g2
    obtain ⟨t, ht, rfl⟩ := n_ofl (a := a) (n := 4) (by omega) (by omega)
    refine ⟨vp_in_nI ht (by omega), ?_⟩
    rw [nI_clamp (by omega)]
    exact h.2.2.2.1 t ht
  simp only [Wp_X9_wrong, Wp_X9_isTray, one_ne, not_false_eq_true, true_implies, false_implies, implies_true, true_and, and_true, not_true_eq_false, forall_const]
  refine ⟨fun _ => h1, fun g1 => ⟨fun _ => h1, fun g2 => ?_⟩⟩
  obtain ⟨q1, q2⟩ := hm g1 g2
  exact ⟨q1, fun q => absurd q2 q, fun _ => h3⟩
theorem p1_write {a b : Int32} {v : Int64} {s : zS} {Q : Int32 → zS → Prop} (h : FC s) (hm : FM s) (hQ : ∀ s', FM s' → Q 0 s') : Wp_X8_write a b v s Q := by
  unfold Wp_X8_write
  refine k_place h ?_ ?_
  · rintro _ rfl
    refine ⟨fun q => ?_, fun _ => hQ _ (FM_si (by decide) hm)⟩
    simp [zi_si] at q
  · rintro _ rfl
    refine ⟨fun q => ?_, fun _ => hQ _ (FM_si (by decide) hm)⟩
    simp [zi_si] at q
theorem p1_write9 {a b : Int32} {v : Int64} {s : zS} {Q : Int32 → zS → Prop} (h : FM s) (hQ : ∀ s', Q 0 s') : Wp_X9_write a b v s Q := by
  unfold Wp_X9_write
  refine k_wrong h ?_ ?_
  · simp [Wp_X9_is, hQ]
  · simp [Wp_X9_is, hQ]
theorem p1_read {a b : Int32} {s : zS} {Q : Int64 → zS → Prop} (h : FC s) (hm : FM s) (hQ : ∀ s', FM s' → Q (-1) s') : Wp_X8_read a b s Q := by
  unfold Wp_X8_read
  refine k_place h ?_ ?_
  · rintro _ rfl
    refine ⟨fun q => ?_, fun _ => hQ _ (FM_si (by decide) hm)⟩
    simp [zi_si] at q
  · rintro _ rfl
    refine ⟨fun q => ?_, fun _ => hQ _ (FM_si (by decide) hm)⟩
    simp [zi_si] at q
theorem p1_read9 {a b : Int32} {s : zS} {Q : Int64 → zS → Prop} (h : FM s) (hQ : ∀ s', Q (-1) s') : Wp_X9_read a b s Q := by
  unfold Wp_X9_read
  refine k_wrong h ?_ ?_
  · rintro _ rfl
    refine ⟨fun q => ?_, fun _ => hQ _⟩
    simp [zi_si] at q
  · rintro _ rfl
    refine ⟨fun q => ?_, fun _ => hQ _⟩
    simp [zi_si] at q
theorem p1_pour {a b c d e : Int32} {s : zS} {Q : Int32 → zS → Prop} (h : FC s) (hm : FM s) (hQ : ∀ s', FM s' → Q 0 s') : Wp_X8_pour a b c d e s Q := by
  have hr : ∀ r : Int32, ¬ r = 0 → ∀ s3 : zS, s3 = zsi s 0 0 8 r → Q 0 s3 := by
    rintro r _ _ rfl
    exact hQ _ (FM_si (by decide) hm)
  have hm : ¬ a < 0 → ¬ (3 : Int32) < a → vp_in a 4 ∧ zi s 3 0 (Int32.toNatClampNeg a) = -1 := by
    intro g1 g2
    simp only [it_lt, it_0, it_3] at g1 g2
    obtain ⟨t, ht, rfl⟩ := n_ofl (a := a) (n := 4) (by omega) (by omega)
    refine ⟨vp_in_nI ht (by omega), ?_⟩
    rw [nI_clamp (by omega)]
    exact h.2.2.2.1 t ht
  have k : ∀ r : Int32, ¬ r = 0 → ∀ F : zS → Prop, ∀ s3 : zS, s3 = zsi s 0 0 8 r → (((zi s3 0 0 8) = 0 → F s3) ∧ (¬ (zi s3 0 0 8) = 0 → Q 0 s3)) := by
    rintro r hr9 F _ rfl
    refine ⟨fun q => ?_, fun _ => hr r hr9 _ rfl⟩
    simp [zi_si] at q
    exact absurd q hr9
  unfold Wp_X8_pour
  simp only [Wp_X8_pourFault, Wp_X8_isTray, Wp_X8_within, Wp_X7_isMissing, one_ne, not_false_eq_true, true_implies, false_implies, implies_true, true_and, and_true, not_true_eq_false, forall_const]
  refine ⟨fun _ => k 1 (by decide) _, fun g1 => ⟨fun _ => k 1 (by decide) _, fun g2 => ⟨fun _ => k 1 (by decide) _, fun g3 => ⟨fun _ => k 1 (by decide) _, fun g4 => ⟨fun _ => k 1 (by decide) _, fun g5 => ⟨fun _ => k 1 (by decide) _, fun g6 => ⟨fun g7 => ?_, fun _ => k 1 (by decide) _⟩⟩⟩⟩⟩⟩⟩
  obtain ⟨q1, q2⟩ := hm g1 g2
  exact ⟨q1, fun q => absurd q2 q, fun _ => k 3 (by decide) _⟩
theorem p1_pour9 {a b c d e : Int32} {s : zS} {Q : Int32 → zS → Prop} (h : FM s) (hQ : ∀ s', Q 0 s') : Wp_X9_pour a b c d e s Q := by
  have hm : ¬ a < 0 → ¬ (4 : Int32) ≤ a → vp_in a 4 ∧ zi s 56 0 (Int32.toNatClampNeg a) = -1 := by
    intro g1 g2
    simp only [it_lt, it_le, it_0, it_4] at g1 g2
    obtain ⟨t, ht, rfl⟩ := n_ofl (a := a) (n := 4) (by omega) (by omega)
    refine ⟨vp_in_nI ht (by omega), ?_⟩
    rw [nI_clamp (by omega)]
    exact h.2.2.2.1 t ht
  have k : ∀ r : Int32, ¬ r = 0 → Wp_X9_is r s Q := by
    intro r hr
    unfold Wp_X9_is
    rintro _ rfl
    exact ⟨fun _ => hQ _, fun q => absurd q hr⟩
  unfold Wp_X9_pour
  intro P hP
  simp only [Wp_X9_isTray, one_ne, not_false_eq_true, true_implies, false_implies, implies_true, true_and, and_true, not_true_eq_false, forall_const]
  refine ⟨fun _ => k 1 (by decide), fun g1 => ⟨fun _ => k 1 (by decide), fun g2 => ⟨fun _ => k 1 (by decide), fun g3 => ⟨fun _ => k 1 (by decide), fun g4 => ⟨fun _ => k 1 (by decide), fun g5 => ⟨fun _ => k 1 (by decide), fun g6 => ⟨fun g7 => ?_, fun _ => k 1 (by decide)⟩⟩⟩⟩⟩⟩⟩
  obtain ⟨q1, q2⟩ := hm g1 g2
  exact ⟨q1, fun _ => k 3 (by decide), fun q => absurd q2 q⟩
theorem p1_leg {a b : Int32} {s : zS} {Q : Int32 → zS → Prop} (h : FC s) (hm : FM s) (hQ : ∀ s', FM s' → Q (-1) s') : Wp_X8_leg a b s Q := by
  have k : ∀ r : Int32, ¬ r = 0 → ∀ F : zS → Prop, ∀ s3 : zS, s3 = zsi s 0 0 8 r → (((zi s3 0 0 8) = 0 → F s3) ∧ (¬ (zi s3 0 0 8) = 0 → Q (-1) s3)) := by
    rintro r hr9 F _ rfl
    refine ⟨fun q => ?_, fun _ => hQ _ (FM_si (by decide) hm)⟩
    simp [zi_si] at q
    exact absurd q hr9
  unfold Wp_X8_leg
  simp only [Wp_X8_legFault, Wp_X8_within, one_ne, not_false_eq_true, true_implies, false_implies, implies_true, true_and, and_true, not_true_eq_false, forall_const, h.2.2.2.2.1]
  refine ⟨fun _ => k 1 (by decide) _, fun g1 => ⟨fun _ => k 1 (by decide) _, fun g2 => ⟨fun _ => k 1 (by decide) _, fun g3 => ⟨fun _ => k 1 (by decide) _, fun g4 => ⟨fun _ => k 6 (by decide) _, fun g5 => absurd (m_le a g1) g5⟩⟩⟩⟩⟩
theorem p1_leg9 {a b : Int32} {s : zS} {Q : Int32 → zS → Prop} (h : FM s) (hQ : ∀ s', Q (-1) s') : Wp_X9_leg a b s Q := by
  simp only [Wp_X9_leg, Wp_X9_refuse, forall_eq, h.2.2.2.2.1]
  refine ⟨fun _ => hQ _, fun g1 => ⟨fun _ => hQ _, fun g2 => ⟨fun _ => hQ _, fun g3 => ⟨fun g4 => ⟨fun g5 => absurd g5 g1, fun _ => hQ _⟩, fun _ => hQ _⟩⟩⟩⟩
theorem p1_tray {a b c : Int32} {s : zS} {Q : Int32 → zS → Prop} (hm : FM s) (h0 : ¬ (0 ≤ a.toInt ∧ a.toInt < 4 ∧ 0 ≤ b.toInt ∧ b.toInt ≤ 3 ∧ 0 ≤ c.toInt ∧ c.toInt ≤ 60) → ∀ s', FM s' → Q 0 s')
    (h1 : (0 ≤ a.toInt ∧ a.toInt < 4 ∧ 0 ≤ b.toInt ∧ b.toInt ≤ 3 ∧ 0 ≤ c.toInt ∧ c.toInt ≤ 60) → ∀ s', FM s' → Q 1 s') : Wp_X8_tray a b c s Q := by
  refine W8_tray (fun q => h0 q _ (FM_si (by decide) hm)) ?_
  rintro t ht rfl g1 g2 g3 g4 s' q1 q2 q3
  refine h1 ⟨by rw [nI_toInt (by omega)]; omega, by rw [nI_toInt (by omega)]; omega, g1, g2, g3, g4⟩ s' ?_
  have e1 : ∀ k r', 54 ≤ k → zi s' k r' = zi s k r' := by
    intro k r' hk
    rw [q3, zi_sir _ _ _ _ _ _ _ (by omega), zi_sir _ _ _ _ _ _ _ (by omega), zi_sir _ _ _ _ _ _ _ (by omega)]
  have e2 : ∀ k r', 54 ≤ k → zj s' k r' = zj s k r' := fun k r' hk => q2 k r' (by omega)
  unfold FM at hm ⊢
  rw [e1 54 0 (by omega), e1 56 0 (by omega), e2 54 0 (by omega)]
  exact hm
theorem FC0 {g : Nat → Nat → Int32} (hg : zg0 g) : FC (zs0 g) := ⟨rfl, rfl, rfl, hg.1, rfl, rfl, rfl, rfl⟩
theorem FM0 {g : Nat → Nat → Int32} : FM (zs0 g) := by
  refine ⟨rfl, rfl, rfl, fun i hi => ?_, rfl, rfl, rfl, rfl⟩
  match i, hi with
  | 0, _ => rfl
  | 1, _ => rfl
  | 2, _ => rfl
  | 3, _ => rfl
theorem p1_town {s : zS} {Q : Int32 → zS → Prop} (h : FC s) (hm : FM s) (hQ : ∀ s', FM s' → Q 0 s') : Wp_X8_town s Q := by
  simp only [Wp_X8_town, Wp_X6_add, forall_eq]
  rw [h.1]
  simp [zi_si, h.1]
  exact hQ _ (FM_si (by decide) (FM_si (by decide) hm))
theorem p1_town9 {s : zS} {Q : Int32 → zS → Prop} (h : FM s) (hQ : ∀ s', Q 0 s') : Wp_X9_town s Q := W9_town 0 (by omega) h.1 (fun q => absurd q (by decide)) (fun _ _ _ => hQ _)
theorem p1_tray9 {a b c : Int32} {s : zS} {Q : Int32 → zS → Prop} (h0 : ¬ (0 ≤ a.toInt ∧ a.toInt < 4 ∧ 0 ≤ b.toInt ∧ b.toInt ≤ 3 ∧ 0 ≤ c.toInt ∧ c.toInt ≤ 60) → ∀ s', Q 0 s')
    (h1 : (0 ≤ a.toInt ∧ a.toInt < 4 ∧ 0 ≤ b.toInt ∧ b.toInt ≤ 3 ∧ 0 ≤ c.toInt ∧ c.toInt ≤ 60) → ∀ s', Q 1 s') : Wp_X9_tray a b c s Q := by
  refine W9_tray (fun q => h0 q _) ?_
  rintro t m ht hm rfl rfl g1 g2 s' _ _ _ _
  exact h1 ⟨by rw [nI_toInt (by omega)]; omega, by rw [nI_toInt (by omega)]; omega, g1, g2, by rw [nI_toInt (by omega)]; omega, by rw [nI_toInt (by omega)]; omega⟩ _
set_option maxHeartbeats 4000000 in
theorem p1_main {L : Nat} (hL : L ≤ 6) {xs : Nat → Int32} {g : Nat → Nat → Int32} (hg : zg0 g) : Wp_law L xs (zs0 g) := by
  unfold Wp_law
  intro P18 hP
  apply hP
  refine ⟨fun _ => rfl, fun hc => ?_⟩
  have hL6 : L = 6 := by
    rcases Nat.lt_or_ge L 6 with q | q
    · exfalso
      apply hc
      have e := nI_toInt (n := L) (by omega)
      have e2 : (nI L - 6).toInt = (L : Int) - 6 := by rw [it_sub (by rw [e, it_6]; omega) (by rw [e, it_6]; omega), e, it_6]
      rw [it_lt, e2, it_0]
      omega
    · omega
  subst hL6
  have hE : ∀ s' : zS, P18 (0 + 6) s' := by
    intro s'
    apply hP
    exact ⟨fun _ => rfl, fun q => absurd (by decide) q⟩
  have v0 : vp_in (0 : Int32) 6 := vp_in_iff.mpr (by decide)
  have v1 : vp_in ((0 : Int32) + 1) 6 := vp_in_iff.mpr (by decide)
  have v2 : vp_in ((0 : Int32) + 2) 6 := vp_in_iff.mpr (by decide)
  have v3 : vp_in ((0 : Int32) + 3) 6 := vp_in_iff.mpr (by decide)
  have v4 : vp_in ((0 : Int32) + 4) 6 := vp_in_iff.mpr (by decide)
  have v5 : vp_in ((0 : Int32) + 5) 6 := vp_in_iff.mpr (by decide)
  refine ⟨v0, ?_⟩
  have c_status : Wp_X8_status (zs0 g) (fun r s => Wp_X9_status s (fun r2 s2 => ((r = r2 → P18 (0 + 6) s2) ∧ (¬ r = r2 → (0 : Int32) = 1)))) := ⟨fun _ => hE _, fun q => absurd rfl q⟩
  refine ⟨fun _ => c_status, ?_⟩
  have c_top : Wp_X8_top (zs0 g) (fun r s => Wp_X9_top s (fun r2 s2 => ((r = r2 → P18 (0 + 6) s2) ∧ (¬ r = r2 → (0 : Int32) = 1)))) := ⟨fun _ => hE _, fun q => absurd rfl q⟩
  refine ⟨fun _ => c_top, ?_⟩
  have c_bottom : Wp_X8_bottom (zs0 g) (fun r s => Wp_X9_bottom s (fun r2 s2 => ((r = r2 → P18 (0 + 6) s2) ∧ (¬ r = r2 → (0 : Int32) = 1)))) := ⟨fun _ => hE _, fun q => absurd rfl q⟩
  refine ⟨fun _ => c_bottom, ?_⟩
  refine ⟨fun _ => ⟨v1, v2, v3, p1_tray FM0 (fun hn s1 _ => ⟨v1, v2, v3, p1_tray9 (fun _ s2 => ⟨fun _ => hE _, fun q => absurd rfl q⟩) (fun hy => absurd hy hn)⟩) (fun hy s1 _ => ⟨v1, v2, v3, p1_tray9 (fun hn => absurd hy hn) (fun _ s2 => ⟨fun _ => hE _, fun q => absurd rfl q⟩)⟩)⟩, ?_⟩
  refine ⟨fun _ => ⟨v1, v2, v3, v4, p1_write (FC0 hg) FM0 (fun s1 hs => ⟨v1, v2, v3, v4, p1_write9 hs (fun s2 => ⟨fun _ => hE _, fun q => absurd rfl q⟩)⟩)⟩, ?_⟩
  refine ⟨fun _ => ⟨v1, v2, p1_read (FC0 hg) FM0 (fun s1 hs => ⟨v1, v2, p1_read9 hs (fun s2 => ⟨fun _ => hE _, fun q => absurd rfl q⟩)⟩)⟩, ?_⟩
  refine ⟨fun _ => ⟨v1, v2, v3, v4, v5, p1_pour (FC0 hg) FM0 (fun s1 hs => ⟨v1, v2, v3, v4, v5, p1_pour9 hs (fun s2 => ⟨fun _ => hE _, fun q => absurd rfl q⟩)⟩)⟩, ?_⟩
  refine ⟨fun _ => p1_town (FC0 hg) FM0 (fun s1 hs => p1_town9 hs (fun s2 => ⟨fun _ => hE _, fun q => absurd rfl q⟩)), ?_⟩
  refine ⟨fun _ => ⟨v1, v2, v3, v4, p1_road (FC0 hg) FM0 (fun s1 hs => ⟨v1, v2, v3, v4, p1_road9 hs (fun s2 => ⟨fun _ => hE _, fun q => absurd rfl q⟩)⟩)⟩, ?_⟩
  refine ⟨fun _ => ⟨v1, v2, v3, p1_fare (FC0 hg) FM0 (fun s1 hs => ⟨v1, v2, v3, p1_fare9 hs (fun s2 => ⟨fun _ => hE _, fun q => absurd rfl q⟩)⟩)⟩, ?_⟩
  refine ⟨fun _ => ⟨v1, p1_bird (FC0 hg) FM0 (fun s1 hs => ⟨v1, p1_bird9 hs (fun s2 => ⟨fun _ => hE _, fun q => absurd rfl q⟩)⟩)⟩, ?_⟩
  refine ⟨fun _ => ⟨v1, v2, p1_carry (FC0 hg) FM0 (fun s1 hs => ⟨v1, v2, p1_carry9 hs (fun s2 => ⟨fun _ => hE _, fun q => absurd rfl q⟩)⟩)⟩, ?_⟩
  refine ⟨fun _ => ⟨v1, v2, p1_told (FC0 hg) FM0 (fun s1 hs => ⟨v1, v2, p1_told9 hs (fun s2 => ⟨fun _ => hE _, fun q => absurd rfl q⟩)⟩)⟩, ?_⟩
  refine ⟨fun _ => ⟨v1, v2, p1_waits (FC0 hg) FM0 (fun s1 hs => ⟨v1, v2, p1_waits9 hs (fun s2 => ⟨fun _ => hE _, fun q => absurd rfl q⟩)⟩)⟩, ?_⟩
  refine ⟨fun _ => ⟨v1, v2, v3, p1_sure (FC0 hg) FM0 (fun s1 hs => ⟨v1, v2, v3, p1_sure9 hs (fun s2 => ⟨fun _ => hE _, fun q => absurd rfl q⟩)⟩)⟩, ?_⟩
  refine ⟨fun _ => ⟨v1, v2, v3, v4, p1_doubles (FC0 hg) FM0 (fun s1 hs => ⟨v1, v2, v3, v4, p1_doubles9 hs (fun s2 => ⟨fun _ => hE _, fun q => absurd rfl q⟩)⟩)⟩, ?_⟩
  refine ⟨fun _ => ⟨v1, v2, v3, v4, p1_relay (FC0 hg) FM0 (fun s1 hs => ⟨v1, v2, v3, v4, p1_relay9 hs (fun s2 => ⟨fun _ => hE _, fun q => absurd rfl q⟩)⟩)⟩, ?_⟩
  refine ⟨fun _ => ⟨v1, v2, p1_leg (FC0 hg) FM0 (fun s1 hs => ⟨v1, v2, p1_leg9 hs (fun s2 => ⟨fun _ => hE _, fun q => absurd rfl q⟩)⟩)⟩, ?_⟩
  refine ⟨fun _ => ⟨v1, v2, v3, v4, p1_want (FC0 hg) FM0 (fun s1 hs => ⟨v1, v2, v3, v4, p1_want9 hs (fun s2 => ⟨fun _ => hE _, fun q => absurd rfl q⟩)⟩)⟩, ?_⟩
  refine ⟨fun _ => ⟨v1, v2, p1_lack (FC0 hg) FM0 (fun s1 hs => ⟨v1, v2, p1_lack9 hs (fun s2 => ⟨fun _ => hE _, fun q => absurd rfl q⟩)⟩)⟩, ?_⟩
  refine ⟨fun _ => ⟨v1, p1_carrying (FC0 hg) FM0 (fun s1 hs => ⟨v1, p1_carrying9 hs (fun s2 => ⟨fun _ => hE _, fun q => absurd rfl q⟩)⟩)⟩, ?_⟩
  refine ⟨fun _ => ⟨v1, v2, p1_carried (FC0 hg) FM0 (fun s1 hs => ⟨v1, v2, p1_carried9 hs (fun s2 => ⟨fun _ => hE _, fun q => absurd rfl q⟩)⟩)⟩, ?_⟩
  refine ⟨fun _ => ⟨v1, p1_fares (FC0 hg) FM0 (fun s1 hs => ⟨v1, p1_fares9 hs (fun s2 => ⟨fun _ => hE _, fun q => absurd rfl q⟩)⟩)⟩, ?_⟩
  refine ⟨fun _ => ⟨v1, p1_send (FC0 hg) FM0 (fun s1 hs => ⟨v1, p1_send9 hs (fun s2 => ⟨fun _ => hE _, fun q => absurd rfl q⟩)⟩)⟩, ?_⟩
  refine ⟨fun _ => ⟨v1, v2, v3, v4, p1_letter (FC0 hg) FM0 (fun s1 hs => ⟨v1, v2, v3, v4, p1_letter9 hs (fun s2 => ⟨fun _ => hE _, fun q => absurd rfl q⟩)⟩)⟩, ?_⟩
  refine ⟨fun _ => ⟨v1, v2, v3, p1_fly (FC0 hg) FM0 (fun s1 hs => ⟨v1, v2, v3, p1_fly9 hs (fun s2 => ⟨fun _ => hE _, fun q => absurd rfl q⟩)⟩)⟩, ?_⟩
  refine ⟨fun _ => ⟨v1, v2, v3, v4, p1_comes (FC0 hg) FM0 (fun s1 hs => ⟨v1, v2, v3, v4, p1_comes9 hs (fun s2 => ⟨fun _ => hE _, fun q => absurd rfl q⟩)⟩)⟩, ?_⟩
  refine ⟨fun _ => ⟨v1, v2, p1_lose (FC0 hg) FM0 (fun s1 hs => ⟨v1, v2, p1_lose9 hs (fun s2 => ⟨fun _ => hE _, fun q => absurd rfl q⟩)⟩)⟩, ?_⟩
  refine ⟨fun _ => ⟨v1, v2, p1_knows (FC0 hg) FM0 (fun s1 hs => ⟨v1, v2, p1_knows9 hs (fun s2 => ⟨fun _ => hE _, fun q => absurd rfl q⟩)⟩)⟩, ?_⟩
  refine ⟨fun _ => ⟨v1, v2, v3, p1_joined (FC0 hg) FM0 (fun s1 hs => ⟨v1, v2, v3, p1_joined9 hs (fun s2 => ⟨fun _ => hE _, fun q => absurd rfl q⟩)⟩)⟩, ?_⟩
  refine ⟨fun _ => ⟨v1, v2, p1_copies (FC0 hg) FM0 (fun s1 hs => ⟨v1, v2, p1_copies9 hs (fun s2 => ⟨fun _ => hE _, fun q => absurd rfl q⟩)⟩)⟩, ?_⟩
  refine ⟨fun _ => ⟨v1, v2, v3, p1_reading (FC0 hg) FM0 (fun s1 hs => ⟨v1, v2, v3, p1_reading9 hs (fun s2 => ⟨fun _ => hE _, fun q => absurd rfl q⟩)⟩)⟩, ?_⟩
  refine ⟨fun _ => ⟨v1, v2, p1_right (FC0 hg) FM0 (fun s1 hs => ⟨v1, v2, p1_right9 hs (fun s2 => ⟨fun _ => hE _, fun q => absurd rfl q⟩)⟩)⟩, ?_⟩
  exact fun _ => hE _
theorem whole_start {p : Program} {e : Env} {s : State} {m : MethodId} {below : List Frame} {meth : Method} {c : Code} (l : Launch) (hflags : l.flags = flags0) {b L : Nat} {xs : Nat → Int32} (hL : L ≤ 6) (C0 : lw_At p s m meth c b L xs) : W p l e room_1 s m #[Value.ref b] below meth c s.heap [] 0 0 (lw_Z below #[Value.ref b] s) (entryFrame m ([Value.ref b] : List Value).toArray 4) := law_start l C0 (fun g hg => p1_main hL hg)

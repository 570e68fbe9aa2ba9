/-! ===== the reference: tray, town ===== -/
theorem W9_tray {a b c : Int32} {s : zS} {Q : Int32 → zS → Prop} (h0 : ¬ (0 ≤ a.toInt ∧ a.toInt < 4 ∧ 0 ≤ b.toInt ∧ b.toInt ≤ 3 ∧ 0 ≤ c.toInt ∧ c.toInt ≤ 60) → Q 0 (zsi s 54 0 0 1))
    (h1 : ∀ t m : Nat, t < 4 → m ≤ 60 → a = nI t → c = nI m → 0 ≤ b.toInt → b.toInt ≤ 3 → ∀ s' : zS, (∀ i, i < m → zj s' 57 0 (60 * t + i) = 0) → (∀ j, j < 60 * t ∨ 60 * t + m ≤ j → zj s' 57 0 j = zj s 57 0 j) → (∀ k r', ¬ (k = 57 ∧ r' = 0) → zj s' k r' = zj s k r') → (∀ k r', zi s' k r' = zi (zsi (zsi s 55 0 t b) 56 0 t c) k r') → Q 1 (zsi s' 54 0 0 0)) : Wp_X9_tray a b c s Q := by
  have one : ¬ (1 : Int32) = 0 := by decide
  unfold Wp_X9_tray
  intro P hP
  have hm : ∀ t m : Nat, t < 4 → m ≤ 60 → a = nI t → c = nI m → 0 ≤ b.toInt → b.toInt ≤ 3 → P 0 (zsi (zsi s 55 0 t b) 56 0 t c) := by
    intro t m ht hmm ea ec hb0 hb3
    subst ea; subst ec
    have key : ∀ (n i : Nat) (s' : zS), i + n = m → (∀ j, j < i → zj s' 57 0 (60 * t + j) = 0) → (∀ j, j < 60 * t ∨ 60 * t + m ≤ j → zj s' 57 0 j = zj s 57 0 j) → (∀ k r', ¬ (k = 57 ∧ r' = 0) → zj s' k r' = zj s k r') → (∀ k r', zi s' k r' = zi (zsi (zsi s 55 0 t b) 56 0 t (nI m)) k r') → P (nI i) s' := by
      intro n
      induction n with
      | zero =>
        intro i s' hi g1 g2 g3 g4
        apply hP
        obtain rfl : i = m := by omega
        refine ⟨fun _ => ?_, fun h => absurd (Int32.le_refl _) h⟩
        simp only [Wp_X9_is, forall_eq, one, not_true_eq_false, false_implies, true_and, forall_const]
        exact h1 t i ht hmm rfl rfl hb0 hb3 s' g1 g2 g3 g4
      | succ n ih =>
        intro i s' hi g1 g2 g3 g4
        apply hP
        refine ⟨fun h => absurd h (nI_ge (by omega) (by omega)), fun _ => ?_⟩
        rw [n_at60]
        refine ⟨vp_in_nI (by omega) (by omega), ?_⟩
        rintro _ rfl
        rw [nI_1, nI_clamp (by omega)]
        refine ih (i + 1) _ (by omega) (fun j hj => ?_) (fun j hj => ?_) (fun k r' hk => ?_) (fun k r' => ?_)
        · rw [zj_sj]
          by_cases e : j = i
          · rw [if_pos ⟨rfl, rfl, by rw [e]⟩]
          · rw [if_neg (fun q => e (by omega))]
            exact g1 j (by omega)
        · rw [zj_sj, if_neg (fun q => by omega)]
          exact g2 j hj
        · rw [zj_sjr _ _ _ _ _ _ _ hk]
          exact g3 k r' hk
        · rw [zi_sj]
          exact g4 k r'
    exact key m 0 _ (by omega) (fun j hj => absurd hj (Nat.not_lt_zero j)) (fun _ _ => rfl) (fun _ _ _ => rfl) (fun _ _ => rfl)
  have hm2 : ¬ a.toInt < 0 → ¬ 4 ≤ a.toInt → ¬ b.toInt < 0 → ¬ 3 < b.toInt → ¬ c.toInt < 0 → c.toInt ≤ 60 → vp_in a 4 ∧ (vp_in a 4 ∧ P 0 (zsi (zsi s 55 0 (Int32.toNatClampNeg a) b) 56 0 (Int32.toNatClampNeg a) c)) := by
    intro g1 g2 g3 g4 g5 g6
    obtain ⟨t, ht, ea⟩ := n_ofl (a := a) (n := 4) (by omega) (by omega)
    obtain ⟨m, hmm, ec⟩ := n_of (a := c) (n := 60) (by omega) (by omega)
    have hin : vp_in a 4 := it_in.mpr ⟨by omega, by omega⟩
    refine ⟨hin, hin, ?_⟩
    have := hm t m ht hmm ea ec (by omega) (by omega)
    rw [ea, nI_clamp (by omega)]
    exact this
  simp only [Wp_X9_isTray, Wp_X9_is, forall_eq, one, not_false_eq_true, true_implies, false_implies, implies_true, true_and, and_true, not_true_eq_false, forall_const, it_lt, it_le, it_0, it_3, it_4, it_60]
  refine ⟨fun g => h0 (by omega), fun g1 => ⟨fun g => h0 (by omega), fun g2 => ⟨fun g => h0 (by omega), fun g3 => ⟨fun g => h0 (by omega), fun g4 => ⟨fun g => h0 (by omega), fun g5 => ⟨fun g6 => hm2 g1 g2 g3 g4 g5 g6, fun g => h0 (by omega)⟩⟩⟩⟩⟩⟩
/-- town() of the reference, with t TOWNS -/
theorem W9_town {s : zS} {Q : Int32 → zS → Prop} (t : Nat) (ht : t ≤ 10) (hT : zi s 54 0 6 = nI t) (h0 : t = 10 → Q (-1) (zsi s 54 0 0 5))
    (h1 : t < 10 → ∀ s' : zS, zfx (fun k => k = 58 ∨ k = 60) s s' → Q (nI t) (zsi (zsi s' 54 0 6 (nI (t + 1))) 54 0 0 0)) : Wp_X9_town s Q := by
  unfold Wp_X9_town
  intro P hP
  rw [hT]
  refine ⟨fun h => ?_, fun h => ?_⟩
  · have ht2 : t < 10 := by
      rcases Nat.lt_or_ge t 10 with q | q
      · exact q
      · exact absurd (by rw [show t = 10 by omega]; rfl) h
    have key : ∀ (n i : Nat) (s' : zS), i + n = 10 → zfx (fun k => k = 58 ∨ k = 60) s s' → P (nI i) s' := by
      intro n
      induction n with
      | zero =>
        intro i s' hi hf
        apply hP
        obtain rfl : i = 10 := by omega
        have h54 : zi s' 54 0 6 = nI t := by rw [(hf 54 (by omega) 0).1]; exact hT
        refine ⟨fun _ => ?_, fun h => absurd (Int32.le_refl _) h⟩
        rintro _ rfl _ rfl
        have e : zi (zsi (zsi s' 54 0 6 (zi s' 54 0 6 + 1)) 54 0 0 0) 54 0 6 - 1 = nI t := by
          rw [zi_si, if_neg (by omega), zi_si, if_pos ⟨rfl, rfl, rfl⟩, h54, nI_1]
          exact nI_pred t
        rw [e, h54, nI_1]
        exact h1 ht2 s' hf
      | succ n ih =>
        intro i s' hi hf
        apply hP
        refine ⟨fun h => absurd h (nI_ge (a := i) (b := 10) (by omega) (by omega)), fun _ => ?_⟩
        have h54 : zi s' 54 0 6 = nI t := by rw [(hf 54 (by omega) 0).1]; exact hT
        simp only [Wp_X9_at, forall_eq, zi_si, Nat.reduceEqDiff, false_and, if_false, h54, n_at]
        rw [nI_1]
        refine ⟨vp_in_nI (by omega) (by omega), vp_in_nI (by omega) (by omega), vp_in_nI (by omega) (by omega), vp_in_nI (by omega) (by omega), ?_⟩
        exact ih (i + 1) _ (by omega) (zfx_si (zfx_si (zfx_si (zfx_si hf (Or.inl rfl)) (Or.inl rfl)) (Or.inr rfl)) (Or.inr rfl))
    exact key 10 0 s rfl zfx_rf
  · have ht2 : t = 10 := by
      have := congrArg Int32.toInt h
      rw [nI_toInt (by omega)] at this
      have : (t : Int) = 10 := this
      omega
    simp only [Wp_X9_refuse, forall_eq]
    exact h0 ht2

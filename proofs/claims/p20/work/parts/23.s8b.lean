/-! ===== SURETY, doubles: the class ===== -/
theorem W_power {a : Int64} {k : Int32} {s : zS} {Q : Int64 → zS → Prop} (hQ : ∀ r : Int64, Q r s) : Wp_X8_power a k s Q := by
  unfold Wp_X8_power
  intro P hP
  have key : ∀ (n : Nat) (v : Int64) (i : Int32), (k.toInt - i.toInt).toNat = n → P v i s := by
    intro n
    induction n with
    | zero =>
      intro v i hn
      apply hP
      refine ⟨fun _ => hQ v, fun g => ?_⟩
      rw [it_le] at g
      omega
    | succ n ih =>
      intro v i hn
      apply hP
      refine ⟨fun _ => hQ v, fun g => ?_⟩
      rintro _ rfl
      rw [it_le] at g
      have h1 := it_lo i
      have h2 := it_hi k
      exact ih _ _ (by rw [it_add (by rw [it_1]; omega) (by rw [it_1]; omega), it_1]; omega)
  exact key _ 1 0 rfl
theorem W_sureTop {a b k : Int32} {s : zS} {Q : Int64 → zS → Prop} (ia : vp_in a 10) (ib : vp_in b 10) (hQ : ∀ r : Int64, Q r s) : Wp_X6_sureTop a b k s Q := by
  unfold Wp_X6_sureTop
  exact W_power (fun _ => ⟨ia, ib, W_power (fun _ => hQ _)⟩)
theorem W_cd {a b : Int64} {s : zS} {Q : Int64 → zS → Prop} (hQ : ∀ r : Int64, Q r s) : Wp_X3_commonDivisor a b s Q := by
  unfold Wp_X3_commonDivisor
  intro P hP
  have key : ∀ (n i : Nat) (v w : Int64), i + n = 100 → P v w (nI i) s := by
    intro n
    induction n with
    | zero =>
      intro i v w hi
      apply hP
      obtain rfl : i = 100 := by omega
      exact ⟨fun _ => hQ v, fun g => absurd (Int32.le_refl _) g⟩
    | succ n ih =>
      intro i v w hi
      apply hP
      refine ⟨fun _ => hQ v, fun _ => ⟨fun _ => hQ v, fun g => ⟨g, ?_⟩⟩⟩
      rintro _ rfl
      rw [nI_1]
      exact ih (i + 1) _ _ (by omega)
  exact key 100 0 a b rfl
theorem ki1 : KI 1 := Or.inr (Or.inl rfl)
theorem W_tell {a b : Int64} {s s' : zS} {Q : zS → Prop} (hf : zfx KI s s') (hQ : ∀ s2 : zS, zfx KI s s2 → Q s2) : Wp_X3_tell a b s' Q := by
  unfold Wp_X3_tell
  refine W_cd (fun r => ⟨fun g => ?_, fun _ => hQ s' hf⟩)
  have hr : ¬ r = 0 := fun e => by
    rw [e] at g
    exact absurd g (by decide)
  refine ⟨hr, ?_⟩
  rintro _ rfl
  refine ⟨hr, ?_⟩
  rintro _ rfl
  exact hQ _ (zfx_sj (zfx_sj hf ki1) ki1)
theorem W_sign {s : zS} {Q : Int32 → zS → Prop} (hQ : ∀ r : Int32, Q r s) : Wp_X3_sign s Q := by
  unfold Wp_X3_sign Wp_J13_compare_74951
  exact ⟨fun _ => ⟨fun _ => hQ _, fun _ => hQ _⟩, fun _ => hQ _⟩
theorem S8_sure {a b c : Int32} {s : zS} {Q : Int32 → zS → Prop} (h : CI s) (hQ : ∀ (r : Int32) (s' : zS), CI s' → zfx KE s s' → Q r s') : Wp_X8_sure a b c s Q := by
  unfold Wp_X8_sure Wp_X8_sureFault
  have ref : ∀ r : Int32, ¬ r = 0 → ∀ F : zS → Prop, ∀ s3 : zS, s3 = zsi s 0 0 8 r → (((zi s3 0 0 8) = 0 → F s3) ∧ (¬ (zi s3 0 0 8) = 0 → Q (-1) s3)) := fun r hr F => st_of (fun q => absurd q hr) (fun _ => fin8 h hQ s0)
  refine W_two h.1 (fun _ => ⟨fun _ => ref 1 one_nz _, fun q => absurd rfl q⟩) (fun g => ⟨fun q => absurd q one_nz, fun _ => ?_⟩)
  have ia : vp_in a 10 := in_of g.1 g.2.2.1
  have ib : vp_in b 10 := in_of g.2.2.2.1 g.2.2.2.2.2.1
  refine W_within (fun _ => ⟨fun q => absurd rfl q, fun _ => ref 1 one_nz _⟩) (fun _ _ => ⟨fun _ => ?_, fun q => absurd q one_nz⟩)
  refine ⟨ia, ib, fun _ => ⟨fun _ => ref 6 (by decide) _, fun q => absurd rfl q⟩, fun _ => ⟨fun q => absurd q one_nz, fun _ => ?_⟩⟩
  refine st_of (fun _ => ?_) (fun q => absurd rfl q)
  exact W_sureTop ia ib (fun _ => W_power (fun _ => W_tell s0 (fun s2 hf => W_sign (fun _ => fin8 h hQ hf))))
theorem W_isChance {a b : Int32} {s : zS} {Q : Int32 → zS → Prop} (h0 : Q 0 s) (h1 : Q 1 s) : Wp_X8_isChance a b s Q := by
  unfold Wp_X8_isChance
  refine W_within (fun _ => ⟨fun _ => h0, fun q => absurd rfl q⟩) (fun _ _ => ⟨fun q => absurd q one_nz, fun _ => ?_⟩)
  exact W_within (fun _ => ⟨fun _ => h0, fun q => absurd rfl q⟩) (fun _ _ => ⟨fun q => absurd q one_nz, fun _ => h1⟩)
theorem W_fewest {a b n d : Int32} {s : zS} {Q : Int32 → zS → Prop} (ia : vp_in a 10) (ib : vp_in b 10) (hQ : ∀ r : Int32, Q r s) : Wp_X6_fewestDoubles a b n d s Q := by
  unfold Wp_X6_fewestDoubles
  intro P hP
  have key : ∀ (m i : Nat), i + m = 5 → 1 ≤ i → P (nI i) s := by
    intro m
    induction m with
    | zero =>
      intro i hi h1
      apply hP
      obtain rfl : i = 5 := by omega
      exact ⟨fun _ => hQ _, fun g => absurd (by decide) g⟩
    | succ m ih =>
      intro i hi h1
      apply hP
      refine ⟨fun _ => hQ _, fun _ => ?_⟩
      refine W_sureTop ia ib (fun _ => W_power (fun _ => ⟨fun _ => ?_, fun _ => hQ _⟩))
      rw [nI_1]
      exact ih (i + 1) (by omega) (by omega)
  exact ⟨ia, ib, fun _ => ⟨fun q => absurd rfl q, fun _ => hQ _⟩, fun _ => ⟨fun _ => key 4 1 rfl (by omega), fun q => absurd q one_nz⟩⟩

/-! ===== the class's calls, one by one: they come back, CI stands, nothing that is compared changes ===== -/
theorem W_ref0 {s : zS} {F G : zS → Prop} (h : G (zsi s 0 0 8 1)) : Wp_X8_wrongUnless 0 s (fun r s4 => ∀ s5 : zS, s5 = zsi s4 0 0 8 r → (((zi s5 0 0 8) = 0 → F s5) ∧ (¬ (zi s5 0 0 8) = 0 → G s5))) :=
  W_wu (fun _ => st_of (fun q => absurd q one_nz) (fun _ => h)) (fun q => absurd rfl q)
theorem W_ref1 {s : zS} {F G : zS → Prop} (h : F (zsi s 0 0 8 0)) : Wp_X8_wrongUnless 1 s (fun r s4 => ∀ s5 : zS, s5 = zsi s4 0 0 8 r → (((zi s5 0 0 8) = 0 → F s5) ∧ (¬ (zi s5 0 0 8) = 0 → G s5))) :=
  W_wu (fun q => absurd q one_nz) (fun _ => st_of (fun _ => h) (fun q => absurd rfl q))
theorem ki0 : KI 0 := Or.inl rfl
/-- what a call's answer needs, where only kinds of KI changed -/
theorem fin8 {s s' : zS} {r : Int32} {Q : Int32 → zS → Prop} (h : CI s) (hQ : ∀ (r : Int32) (s' : zS), CI s' → zfx KE s s' → Q r s') (hf : zfx KI s s') : Q r s' := hQ r s' (CI_KI h hf) (zfx_mo hf (fun _ => KI_KE))
theorem s0 {s : zS} {v : Int32} : zfx KI s (zsi s 0 0 8 v) := zfx1 ki0
theorem S8_road {a b c d : Int32} {s : zS} {Q : Int32 → zS → Prop} (h : CI s) (hQ : ∀ (r : Int32) (s' : zS), CI s' → zfx KE s s' → Q r s') : Wp_X8_road a b c d s Q := by
  unfold Wp_X8_road Wp_X8_roadFault
  have ref : ∀ r : Int32, ¬ r = 0 → ∀ F : zS → Prop, ∀ s3 : zS, s3 = zsi s 0 0 8 r → (((zi s3 0 0 8) = 0 → F s3) ∧ (¬ (zi s3 0 0 8) = 0 → Q 0 s3)) := fun r hr F => st_of (fun q => absurd q hr) (fun _ => fin8 h hQ s0)
  refine W_two h.1 (fun _ => ⟨fun _ => ref 1 one_nz _, fun q => absurd rfl q⟩) (fun g => ⟨fun q => absurd q one_nz, fun _ => ?_⟩)
  have ia : vp_in a 10 := in_of g.1 g.2.2.1
  have ib : vp_in b 10 := in_of g.2.2.2.1 g.2.2.2.2.2.1
  have k9 : KI 9 := by unfold KI; omega
  have k11 : KI 11 := by unfold KI; omega
  have set : ∀ v : Int32, Wp_X6_setRoad a b v d (zsi s 0 0 8 0) (fun s5 => Q 1 s5) := by
    intro v
    refine ⟨ia, ib, ?_⟩
    rintro _ rfl
    refine ⟨ib, ia, ?_⟩
    rintro _ rfl
    refine ⟨ia, ib, ?_⟩
    rintro _ rfl
    refine ⟨ib, ia, ?_⟩
    rintro _ rfl
    exact fin8 h hQ (zfx_si (zfx_si (zfx_si (zfx_si s0 k9) k9) k11) k11)
  have ok : ∀ s3 : zS, s3 = zsi s 0 0 8 0 → (((zi s3 0 0 8) = 0 → ((¬ c = (-1 : Int32) → Wp_X6_setRoad a b c d s3 (fun s5 => Q (1 : Int32) s5)) ∧ (c = (-1 : Int32) → Wp_X6_setRoad a b (0 : Int32) d s3 (fun s7 => Q (1 : Int32) s7)))) ∧ (¬ (zi s3 0 0 8) = 0 → Q (0 : Int32) s3)) := st_of (fun _ => ⟨fun _ => set c, fun _ => set 0⟩) (fun q => absurd rfl q)
  refine W_within (fun _ => ⟨fun q => absurd rfl q, fun _ => ref 1 one_nz _⟩) (fun _ _ => ⟨fun _ => ⟨fun _ => ?_, fun _ => ?_⟩, fun q => absurd q one_nz⟩)
  · exact W_within (fun _ => W_wu (fun _ => ref 1 one_nz _) (fun q => absurd rfl q)) (fun _ _ => W_wu (fun q => absurd q one_nz) (fun _ => ok))
  · exact ⟨ia, ib, fun _ => ⟨fun _ => ref 6 (by decide) _, fun q => absurd rfl q⟩, fun _ => ⟨fun q => absurd q one_nz, fun _ => ok⟩⟩
/-- fare(a, b, c): true where a, b are two TOWNS and c from 0 to 1000 -/
theorem S8_fare {a b c : Int32} {s : zS} {Q : Int32 → zS → Prop} (h : CI s) (h0 : ¬ (Two s a b ∧ 0 ≤ c.toInt ∧ c.toInt ≤ 1000) → ∀ s' : zS, CI s' → zfx KE s s' → Q 0 s') (h1 : (Two s a b ∧ 0 ≤ c.toInt ∧ c.toInt ≤ 1000) → ∀ s' : zS, CI s' → zfx KE s s' → Q 1 s') : Wp_X8_fare a b c s Q := by
  unfold Wp_X8_fare
  have r0 : ¬ (Two s a b ∧ 0 ≤ c.toInt ∧ c.toInt ≤ 1000) → Q 0 (zsi s 0 0 8 1) := fun g => h0 g _ (CI_KI h s0) (zfx_mo s0 (fun _ => KI_KE))
  refine W_two h.1 (fun g => ⟨fun _ => W_ref0 (r0 (fun q => g q.1)), fun q => absurd rfl q⟩) (fun g => ⟨fun q => absurd q one_nz, fun _ => ?_⟩)
  refine W_within (fun g2 => ⟨fun _ => W_ref0 (r0 (fun q => g2 ⟨q.2.1, q.2.2⟩)), fun q => absurd rfl q⟩) (fun g1 g2 => ⟨fun q => absurd q one_nz, fun _ => W_ref1 ?_⟩)
  refine ⟨in_of g.1 g.2.2.1, in_of g.2.2.2.1 g.2.2.2.2.2.1, ?_⟩
  rintro _ rfl
  have hf : zfx KI s (zsi (zsi s 0 0 8 0) 13 (Int32.toNatClampNeg a) (Int32.toNatClampNeg b) c) := zfx_si s0 (by unfold KI; omega)
  exact h1 ⟨g, g1, g2⟩ _ (CI_KI h hf) (zfx_mo hf (fun _ => KI_KE))
theorem S8_want {a b c d : Int32} {s : zS} {Q : Int32 → zS → Prop} (h : CI s) (h0 : ¬ (Two s a b ∧ 0 ≤ c.toInt ∧ c.toInt ≤ 20 ∧ 1 ≤ d.toInt ∧ d.toInt ≤ 100) → ∀ s' : zS, CI s' → zfx KE s s' → Q 0 s') (h1 : (Two s a b ∧ 0 ≤ c.toInt ∧ c.toInt ≤ 20 ∧ 1 ≤ d.toInt ∧ d.toInt ≤ 100) → ∀ s' : zS, CI s' → zfx KE s s' → Q 1 s') : Wp_X8_want a b c d s Q := by
  unfold Wp_X8_want
  have r0 : ¬ (Two s a b ∧ 0 ≤ c.toInt ∧ c.toInt ≤ 20 ∧ 1 ≤ d.toInt ∧ d.toInt ≤ 100) → Q 0 (zsi s 0 0 8 1) := fun g => h0 g _ (CI_KI h s0) (zfx_mo s0 (fun _ => KI_KE))
  refine W_two h.1 (fun g => ⟨fun _ => W_ref0 (r0 (fun q => g q.1)), fun q => absurd rfl q⟩) (fun g => ⟨fun q => absurd q one_nz, fun _ => ?_⟩)
  refine W_within (fun g2 => ⟨fun _ => W_ref0 (r0 (fun q => g2 ⟨q.2.1, q.2.2.1⟩)), fun q => absurd rfl q⟩) (fun g1 g2 => ⟨fun q => absurd q one_nz, fun _ => ?_⟩)
  refine W_within (fun g3 => ⟨fun _ => W_ref0 (r0 (fun q => g3 ⟨q.2.2.2.1, q.2.2.2.2⟩)), fun q => absurd rfl q⟩) (fun g3 g4 => ⟨fun q => absurd q one_nz, fun _ => W_ref1 ?_⟩)
  have ia : vp_in a 10 := in_of g.1 g.2.2.1
  have ib : vp_in b 10 := in_of g.2.2.2.1 g.2.2.2.2.2.1
  refine ⟨ia, ib, ?_⟩
  rintro _ rfl
  refine ⟨ia, ib, ?_⟩
  rintro _ rfl
  have hf : zfx KI s (zsi (zsi (zsi s 0 0 8 0) 30 (Int32.toNatClampNeg a) (Int32.toNatClampNeg b) c) 32 (Int32.toNatClampNeg a) (Int32.toNatClampNeg b) d) := zfx_si (zfx_si s0 (by unfold KI; omega)) (by unfold KI; omega)
  exact h1 ⟨g, g1, g2, g3, g4⟩ _ (CI_KI h hf) (zfx_mo hf (fun _ => KI_KE))
theorem S8_lack {a b : Int32} {s : zS} {Q : Int32 → zS → Prop} (h : CI s) (hQ : ∀ (r : Int32) (s' : zS), CI s' → zfx KE s s' → Q r s') : Wp_X8_lack a b s Q := by
  unfold Wp_X8_lack
  refine W_two h.1 (fun _ => W_ref0 (fin8 h hQ s0)) (fun g => W_ref1 ?_)
  have ia : vp_in a 10 := in_of g.1 g.2.2.1
  have ib : vp_in b 10 := in_of g.2.2.2.1 g.2.2.2.2.2.1
  exact ⟨ia, ib, ib, ia, fin8 h hQ s0⟩
theorem S8_waits {a b : Int32} {s : zS} {Q : Int32 → zS → Prop} (h : CI s) (hQ : ∀ (r : Int32) (s' : zS), CI s' → zfx KE s s' → Q r s') : Wp_X8_waits a b s Q := by
  unfold Wp_X8_waits
  refine W_isTown h.1 (fun _ => ⟨fun _ => W_ref0 (fin8 h hQ s0), fun q => absurd rfl q⟩) (fun g1 g2 g3 => ⟨fun q => absurd q one_nz, fun _ => ?_⟩)
  refine W_isTown h.1 (fun _ => ⟨fun _ => W_ref0 (fin8 h hQ s0), fun q => absurd rfl q⟩) (fun g4 g5 g6 => ⟨fun q => absurd q one_nz, fun _ => W_ref1 ?_⟩)
  exact ⟨in_of g1 g3, in_of g4 g6, fin8 h hQ s0⟩
theorem S8_told {a b : Int32} {s : zS} {Q : Int32 → zS → Prop} (h : CI s) (hQ : ∀ (r : Int32) (s' : zS), CI s' → zfx KE s s' → Q r s') : Wp_X8_told a b s Q := by
  unfold Wp_X8_told
  refine W_isBird h.2.1 (fun _ => ⟨fun _ => W_ref0 (fin8 h hQ s0), fun q => absurd rfl q⟩) (fun g1 g2 g3 => ⟨fun q => absurd q one_nz, fun _ => ?_⟩)
  refine W_within (fun _ => ⟨fun _ => W_ref0 (fin8 h hQ s0), fun q => absurd rfl q⟩) (fun g4 g5 => ⟨fun q => absurd q one_nz, fun _ => W_ref1 ?_⟩)
  have ia : vp_in a 60 := in_of g1 g3
  exact ⟨fun _ => ⟨ia, fin8 h hQ s0⟩, fun _ => ⟨ia, fin8 h hQ s0⟩, fun _ => ⟨ia, fin8 h hQ s0⟩, fun _ => ⟨ia, fin8 h hQ s0⟩, fun _ => ⟨ia, fin8 h hQ s0⟩⟩
theorem S8_leg {a b : Int32} {s : zS} {Q : Int32 → zS → Prop} (h : CI s) (hQ : ∀ (r : Int32) (s' : zS), CI s' → zfx KE s s' → Q r s') : Wp_X8_leg a b s Q := by
  unfold Wp_X8_leg Wp_X8_legFault
  have ref : ∀ r : Int32, ¬ r = 0 → ∀ F : zS → Prop, ∀ s3 : zS, s3 = zsi s 0 0 8 r → (((zi s3 0 0 8) = 0 → F s3) ∧ (¬ (zi s3 0 0 8) = 0 → Q (-1) s3)) := fun r hr F => st_of (fun q => absurd q hr) (fun _ => fin8 h hQ s0)
  refine W_within (fun _ => ⟨fun _ => ref 1 one_nz _, fun q => absurd rfl q⟩) (fun g1 g2 => ⟨fun q => absurd q one_nz, fun _ => ?_⟩)
  refine W_within (fun _ => ⟨fun q => absurd rfl q, fun _ => ref 1 one_nz _⟩) (fun g3 g4 => ⟨fun _ => ⟨fun _ => ref 6 (by decide) _, fun _ => ?_⟩, fun q => absurd q one_nz⟩)
  rw [it_0] at g1 g3
  rw [it_2] at g2 g4
  refine st_of (fun _ => ⟨fun hb => ⟨?_, fin8 h hQ s0⟩, fun _ => ⟨in_of g1 (by omega), fin8 h hQ s0⟩⟩) (fun q => absurd rfl q)
  rw [it_eq, it_2] at hb
  have e : (a + b).toInt = a.toInt + b.toInt := it_add (by omega) (by omega)
  exact in_of (by omega) (by omega)

/-! ===== TRAYS: filling a row ===== -/
theorem W_fill6 {r : Nat} {v : Int64} {s : zS} {Q : zS → Prop} (hQ : ∀ s' : zS, (∀ i, i < 60 → zj s' 6 r i = v) → (∀ k r', ¬ (k = 6 ∧ r' = r) → zj s' k r' = zj s k r') → (∀ k r', zi s' k r' = zi s k r') → Q s') : Wp_J7_fill_d0a16__6 r v s Q := by
  unfold Wp_J7_fill_d0a16__6
  intro P hP
  have key : ∀ (n i : Nat) (s' : zS), i + n = 60 → (∀ j, j < i → zj s' 6 r j = v) → (∀ k r', ¬ (k = 6 ∧ r' = r) → zj s' k r' = zj s k r') → (∀ k r', zi s' k r' = zi s k r') → P (nI i) (nI 60) s' := by
    intro n
    induction n with
    | zero =>
      intro i s' hi h1 h2 h3
      apply hP
      obtain rfl : i = 60 := by omega
      exact ⟨fun _ => hQ s' h1 h2 h3, fun h => absurd (Int32.le_refl _) h⟩
    | succ n ih =>
      intro i s' hi h1 h2 h3
      apply hP
      refine ⟨fun h => absurd h (nI_ge (by omega) (by omega)), fun _ => ⟨vp_in_nI (by omega) (by omega), ?_⟩⟩
      rintro _ rfl
      rw [nI_1, nI_clamp (by omega)]
      refine ih (i + 1) _ (by omega) (fun j hj => ?_) (fun k r' hk => ?_) (fun k r' => ?_)
      · rw [zj_sj]
        by_cases e : j = i
        · rw [if_pos ⟨rfl, rfl, e⟩]
        · rw [if_neg (fun q => e q.2.2)]
          exact h1 j (by omega)
      · rw [zj_sjr _ _ _ _ _ _ _ hk]
        exact h2 k r' hk
      · rw [zi_sj]
        exact h3 k r'
  exact key 60 0 s rfl (fun j hj => absurd hj (Nat.not_lt_zero j)) (fun _ _ _ => rfl) (fun _ _ => rfl)
/-- tray(t, sort, many) of the class -/
theorem W8_tray {a b c : Int32} {s : zS} {Q : Int32 → zS → Prop} (h0 : ¬ (0 ≤ a.toInt ∧ a.toInt < 4 ∧ 0 ≤ b.toInt ∧ b.toInt ≤ 3 ∧ 0 ≤ c.toInt ∧ c.toInt ≤ 60) → Q 0 (zsi s 0 0 8 1))
    (h1 : ∀ t : Nat, t < 4 → a = nI t → 0 ≤ b.toInt → b.toInt ≤ 3 → 0 ≤ c.toInt → c.toInt ≤ 60 → ∀ s' : zS, (∀ i, i < 60 → zj s' 6 t i = 0) → (∀ k r', ¬ (k = 6 ∧ r' = t) → zj s' k r' = zj s k r') → (∀ k r', zi s' k r' = zi (zsi (zsi (zsi s 0 0 8 0) 3 0 t b) 4 0 t c) k r') → Q 1 s') : Wp_X8_tray a b c s Q := by
  simp only [Wp_X8_tray, Wp_X8_isTray, Wp_X8_within, Wp_X8_wrongUnless, Wp_X7_make, forall_eq, zi_si, and_self, if_true]
  have hm : ¬ a < 0 → ¬ (3 : Int32) < a → ¬ b < 0 → ¬ (3 : Int32) < b → ¬ c < 0 → ¬ (60 : Int32) < c → vp_in a 4 ∧ (vp_in a 4 ∧ (vp_in a 4 ∧ Wp_J7_fill_d0a16__6 (Int32.toNatClampNeg a) 0 (zsi (zsi (zsi s 0 0 8 0) 3 0 (Int32.toNatClampNeg a) b) 4 0 (Int32.toNatClampNeg a) c) (fun s5 => Q 1 s5))) := by
    intro g1 g2 g3 g4 g5 g6
    simp only [it_lt, it_0, it_3, it_60] at g1 g2 g3 g4 g5 g6
    have hin : vp_in a 4 := it_in.mpr ⟨by omega, by omega⟩
    obtain ⟨t, ht, rfl⟩ := n_ofl (a := a) (n := 4) (by omega) (by omega)
    refine ⟨hin, hin, hin, ?_⟩
    rw [nI_clamp (by omega)]
    exact W_fill6 (fun s' q1 q2 q3 => h1 t ht rfl (by omega) (by omega) (by omega) (by omega) s' q1 (fun k r' hk => (q2 k r' hk).trans rfl) q3)
  have z : ∀ p : Prop, (p → Q 0 (zsi s 0 0 8 1)) → p → Q 0 (zsi s 0 0 8 1) := fun _ f => f
  simp only [it_lt, it_0, it_3, it_60] at hm ⊢
  have one : ¬ (1 : Int32) = 0 := by decide
  simp only [one, not_false_eq_true, true_implies, false_implies, implies_true, true_and, and_true, not_true_eq_false, forall_const]
  refine ⟨fun g => h0 (by omega), fun g1 => ⟨fun g => h0 (by omega), fun g2 => ⟨fun g => h0 (by omega), fun g3 => ⟨fun g => h0 (by omega), fun g4 => ⟨fun g => h0 (by omega), fun g5 => ⟨fun g => h0 (by omega), fun g6 => hm g1 g2 g3 g4 g5 g6⟩⟩⟩⟩⟩⟩

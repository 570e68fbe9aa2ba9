/-! ===== p1: one call on a fresh object ===== -/
def FC (s : zS) : Prop := zi s 7 0 0 = 0 ∧ zi s 14 0 0 = 0 ∧ zi s 38 0 0 = 0 ∧ (∀ i, i < 4 → zi s 3 0 i = -1) ∧ zi s 22 0 12 = 0 ∧ zi s 0 0 8 = 0 ∧ zj s 1 0 0 = 0 ∧ zj s 1 0 1 = 1
def FM (s : zS) : Prop := zi s 54 0 6 = 0 ∧ zi s 54 0 7 = 0 ∧ zi s 54 0 34 = 0 ∧ (∀ i, i < 4 → zi s 56 0 i = -1) ∧ zi s 54 0 27 = 0 ∧ zi s 54 0 0 = 0 ∧ zj s 54 0 1 = 0 ∧ zj s 54 0 2 = 1
theorem FM_si {s : zS} {k r i : Nat} {v : Int32} (hk : k < 54) (h : FM s) : FM (zsi s k r i v) := by
  have e : ∀ k' r' : Nat, 54 ≤ k' → zi (zsi s k r i v) k' r' = zi s k' r' := fun k' r' hk' => zi_sir s k r i v k' r' (by omega)
  unfold FM at h ⊢
  simp only [zj_si]
  rw [e 54 0 (by omega), e 56 0 (by omega)]
  exact h
theorem FM_sj {s : zS} {k r i : Nat} {v : Int64} (hk : k < 54) (h : FM s) : FM (zsj s k r i v) := by
  have e : ∀ k' r' : Nat, 54 ≤ k' → zj (zsj s k r i v) k' r' = zj s k' r' := fun k' r' hk' => zj_sjr s k r i v k' r' (by omega)
  unfold FM at h ⊢
  simp only [zi_sj]
  rw [e 54 0 (by omega)]
  exact h
theorem n_neg (a : Int32) (h : ¬ a < 0) : (0 : Int32) - 1 < a := by
  rw [it_lt] at h ⊢
  have : ((0 : Int32) - 1).toInt = -1 := rfl
  have h0 : (0 : Int32).toInt = 0 := rfl
  omega
theorem k_isTown {s : zS} {a : Int32} {Q : Int32 → zS → Prop} (h : FC s) : Wp_X8_isTown a s Q = Q 0 s := by
  unfold Wp_X8_isTown Wp_X8_within
  rw [h.1]
  apply propext
  constructor
  · intro q
    by_cases c : a < 0
    · exact q.1 c
    · exact (q.2 c).1 (n_neg a c)
  · intro q
    exact ⟨fun _ => q, fun c => ⟨fun _ => q, fun c2 => absurd (n_neg a c) c2⟩⟩
theorem k_isBird {s : zS} {a : Int32} {Q : Int32 → zS → Prop} (h : FC s) : Wp_X8_isBird a s Q = Q 0 s := by
  unfold Wp_X8_isBird Wp_X8_within
  rw [h.2.1]
  apply propext
  constructor
  · intro q
    by_cases c : a < 0
    · exact q.1 c
    · exact (q.2 c).1 (n_neg a c)
  · intro q
    exact ⟨fun _ => q, fun c => ⟨fun _ => q, fun c2 => absurd (n_neg a c) c2⟩⟩
theorem k_isLetter {s : zS} {a : Int32} {Q : Int32 → zS → Prop} (h : FC s) : Wp_X8_isLetter a s Q = Q 0 s := by
  unfold Wp_X8_isLetter Wp_X8_within
  rw [h.2.2.1]
  apply propext
  constructor
  · intro q
    by_cases c : a < 0
    · exact q.1 c
    · exact (q.2 c).1 (n_neg a c)
  · intro q
    exact ⟨fun _ => q, fun c => ⟨fun _ => q, fun c2 => absurd (n_neg a c) c2⟩⟩
theorem k_two {s : zS} {a b : Int32} {Q : Int32 → zS → Prop} (h : FC s) : Wp_X8_areTwoTowns a b s Q = Q 0 s := by
  unfold Wp_X8_areTwoTowns
  rw [k_isTown h]
  simp
theorem m_le (a : Int32) (h : ¬ a < 0) : (0 : Int32) ≤ a := by
  rw [it_lt] at h
  rw [it_le]
  omega
theorem m_isTown {s : zS} {a : Int32} {Q : Int32 → zS → Prop} (h : FM s) : Wp_X9_isTown a s Q = Q 0 s := by
  unfold Wp_X9_isTown
  rw [h.1]
  apply propext
  constructor
  · intro q
    by_cases c : a < 0
    · exact q.1 c
    · exact (q.2 c).1 (m_le a c)
  · intro q
    exact ⟨fun _ => q, fun c => ⟨fun _ => q, fun c2 => absurd (m_le a c) c2⟩⟩
theorem m_isBird {s : zS} {a : Int32} {Q : Int32 → zS → Prop} (h : FM s) : Wp_X9_isBird a s Q = Q 0 s := by
  unfold Wp_X9_isBird
  rw [h.2.1]
  apply propext
  constructor
  · intro q
    by_cases c : a < 0
    · exact q.1 c
    · exact (q.2 c).1 (m_le a c)
  · intro q
    exact ⟨fun _ => q, fun c => ⟨fun _ => q, fun c2 => absurd (m_le a c) c2⟩⟩
theorem m_isLetter {s : zS} {a : Int32} {Q : Int32 → zS → Prop} (h : FM s) : Wp_X9_isLetter a s Q = Q 0 s := by
  unfold Wp_X9_isLetter
  rw [h.2.2.1]
  apply propext
  constructor
  · intro q
    by_cases c : a < 0
    · exact q.1 c
    · exact (q.2 c).1 (m_le a c)
  · intro q
    exact ⟨fun _ => q, fun c => ⟨fun _ => q, fun c2 => absurd (m_le a c) c2⟩⟩

theorem p1_road {a b c d : Int32} {s : zS} {Q : Int32 → zS → Prop} (h : FC s) (hm : FM s) (hQ : ∀ s', FM s' → Q 0 s') : Wp_X8_road a b c d s Q := by
  simp only [Wp_X8_road, Wp_X8_roadFault, Wp_X8_wrongUnless, k_two h, k_isTown h, k_isBird h, k_isLetter h, forall_eq]
  simp [zi_si]
  exact hQ _ (FM_si (by decide) hm)
theorem p1_road9 {a b c d : Int32} {s : zS} {Q : Int32 → zS → Prop} (h : FM s) (hQ : ∀ s', Q 0 s') : Wp_X9_road a b c d s Q := by
  simp only [Wp_X9_road, Wp_X9_is, Wp_X9_refuse, Wp_X9_wrongRoad, m_isTown h, m_isBird h, m_isLetter h, forall_eq]
  simp [hQ]
theorem p1_fare {a b c : Int32} {s : zS} {Q : Int32 → zS → Prop} (h : FC s) (hm : FM s) (hQ : ∀ s', FM s' → Q 0 s') : Wp_X8_fare a b c s Q := by
  simp only [Wp_X8_fare, Wp_X8_wrongUnless, k_two h, k_isTown h, k_isBird h, k_isLetter h, forall_eq]
  simp [zi_si]
  exact hQ _ (FM_si (by decide) hm)
theorem p1_fare9 {a b c : Int32} {s : zS} {Q : Int32 → zS → Prop} (h : FM s) (hQ : ∀ s', Q 0 s') : Wp_X9_fare a b c s Q := by
  simp only [Wp_X9_fare, Wp_X9_is, Wp_X9_refuse, Wp_X9_wrongRoad, m_isTown h, m_isBird h, m_isLetter h, forall_eq]
  simp [hQ]
theorem p1_carry {a b : Int32} {s : zS} {Q : Int32 → zS → Prop} (h : FC s) (hm : FM s) (hQ : ∀ s', FM s' → Q 0 s') : Wp_X8_carry a b s Q := by
  simp only [Wp_X8_carry, Wp_X8_carryFault, Wp_X8_wrongUnless, k_two h, k_isTown h, k_isBird h, k_isLetter h, forall_eq]
  simp [zi_si]
  exact hQ _ (FM_si (by decide) hm)
theorem p1_carry9 {a b : Int32} {s : zS} {Q : Int32 → zS → Prop} (h : FM s) (hQ : ∀ s', Q 0 s') : Wp_X9_carry a b s Q := by
  simp only [Wp_X9_carry, Wp_X9_is, Wp_X9_refuse, Wp_X9_wrongRoad, m_isTown h, m_isBird h, m_isLetter h, forall_eq]
  simp [hQ]
theorem p1_want {a b c d : Int32} {s : zS} {Q : Int32 → zS → Prop} (h : FC s) (hm : FM s) (hQ : ∀ s', FM s' → Q 0 s') : Wp_X8_want a b c d s Q := by
  simp only [Wp_X8_want, Wp_X8_wrongUnless, k_two h, k_isTown h, k_isBird h, k_isLetter h, forall_eq]
  simp [zi_si]
  exact hQ _ (FM_si (by decide) hm)
theorem p1_want9 {a b c d : Int32} {s : zS} {Q : Int32 → zS → Prop} (h : FM s) (hQ : ∀ s', Q 0 s') : Wp_X9_want a b c d s Q := by
  simp only [Wp_X9_want, Wp_X9_is, Wp_X9_refuse, Wp_X9_wrongRoad, m_isTown h, m_isBird h, m_isLetter h, forall_eq]
  simp [hQ]
theorem p1_fly {a b c : Int32} {s : zS} {Q : Int32 → zS → Prop} (h : FC s) (hm : FM s) (hQ : ∀ s', FM s' → Q 0 s') : Wp_X8_fly a b c s Q := by
  simp only [Wp_X8_fly, Wp_X8_flyFault, Wp_X8_wrongUnless, k_two h, k_isTown h, k_isBird h, k_isLetter h, forall_eq]
  simp [zi_si]
  exact hQ _ (FM_si (by decide) hm)
theorem p1_fly9 {a b c : Int32} {s : zS} {Q : Int32 → zS → Prop} (h : FM s) (hQ : ∀ s', Q 0 s') : Wp_X9_fly a b c s Q := by
  simp only [Wp_X9_fly, Wp_X9_is, Wp_X9_refuse, Wp_X9_wrongRoad, m_isTown h, m_isBird h, m_isLetter h, forall_eq]
  simp [hQ]
theorem p1_lose {a b : Int32} {s : zS} {Q : Int32 → zS → Prop} (h : FC s) (hm : FM s) (hQ : ∀ s', FM s' → Q 0 s') : Wp_X8_lose a b s Q := by
  simp only [Wp_X8_lose, Wp_X8_loseFault, Wp_X8_wrongUnless, k_two h, k_isTown h, k_isBird h, k_isLetter h, forall_eq]
  simp [zi_si]
  exact hQ _ (FM_si (by decide) hm)
theorem p1_lose9 {a b : Int32} {s : zS} {Q : Int32 → zS → Prop} (h : FM s) (hQ : ∀ s', Q 0 s') : Wp_X9_lose a b s Q := by
  simp only [Wp_X9_lose, Wp_X9_is, Wp_X9_refuse, Wp_X9_wrongRoad, m_isTown h, m_isBird h, m_isLetter h, forall_eq]
  simp [hQ]
theorem p1_reading {a b c : Int32} {s : zS} {Q : Int32 → zS → Prop} (h : FC s) (hm : FM s) (hQ : ∀ s', FM s' → Q 0 s') : Wp_X8_reading a b c s Q := by
  simp only [Wp_X8_reading, Wp_X8_readingFault, Wp_X8_wrongUnless, k_two h, k_isTown h, k_isBird h, k_isLetter h, forall_eq]
  simp [zi_si]
  exact hQ _ (FM_si (by decide) hm)
theorem p1_reading9 {a b c : Int32} {s : zS} {Q : Int32 → zS → Prop} (h : FM s) (hQ : ∀ s', Q 0 s') : Wp_X9_reading a b c s Q := by
  simp only [Wp_X9_reading, Wp_X9_is, Wp_X9_refuse, Wp_X9_wrongRoad, m_isTown h, m_isBird h, m_isLetter h, forall_eq]
  simp [hQ]
theorem p1_bird {a : Int32} {s : zS} {Q : Int32 → zS → Prop} (h : FC s) (hm : FM s) (hQ : ∀ s', FM s' → Q (-1) s') : Wp_X8_bird a s Q := by
  simp only [Wp_X8_bird, Wp_X8_birdFault, Wp_X8_wrongUnless, k_two h, k_isTown h, k_isBird h, k_isLetter h, forall_eq]
  simp [zi_si]
  exact hQ _ (FM_si (by decide) hm)
theorem p1_bird9 {a : Int32} {s : zS} {Q : Int32 → zS → Prop} (h : FM s) (hQ : ∀ s', Q (-1) s') : Wp_X9_bird a s Q := by
  simp only [Wp_X9_bird, Wp_X9_is, Wp_X9_refuse, Wp_X9_wrongRoad, m_isTown h, m_isBird h, m_isLetter h, forall_eq]
  simp [hQ]
theorem p1_told {a b : Int32} {s : zS} {Q : Int32 → zS → Prop} (h : FC s) (hm : FM s) (hQ : ∀ s', FM s' → Q (-1) s') : Wp_X8_told a b s Q := by
  simp only [Wp_X8_told, Wp_X8_wrongUnless, k_two h, k_isTown h, k_isBird h, k_isLetter h, forall_eq]
  simp [zi_si]
  exact hQ _ (FM_si (by decide) hm)
theorem p1_told9 {a b : Int32} {s : zS} {Q : Int32 → zS → Prop} (h : FM s) (hQ : ∀ s', Q (-1) s') : Wp_X9_told a b s Q := by
  simp only [Wp_X9_told, Wp_X9_is, Wp_X9_refuse, Wp_X9_wrongRoad, m_isTown h, m_isBird h, m_isLetter h, forall_eq]
  simp [hQ]
theorem p1_waits {a b : Int32} {s : zS} {Q : Int32 → zS → Prop} (h : FC s) (hm : FM s) (hQ : ∀ s', FM s' → Q (-1) s') : Wp_X8_waits a b s Q := by
  simp only [Wp_X8_waits, Wp_X8_wrongUnless, k_two h, k_isTown h, k_isBird h, k_isLetter h, forall_eq]
  simp [zi_si]
  exact hQ _ (FM_si (by decide) hm)
theorem p1_waits9 {a b : Int32} {s : zS} {Q : Int32 → zS → Prop} (h : FM s) (hQ : ∀ s', Q (-1) s') : Wp_X9_waits a b s Q := by
  simp only [Wp_X9_waits, Wp_X9_is, Wp_X9_refuse, Wp_X9_wrongRoad, m_isTown h, m_isBird h, m_isLetter h, forall_eq]
  simp [hQ]
theorem p1_sure {a b c : Int32} {s : zS} {Q : Int32 → zS → Prop} (h : FC s) (hm : FM s) (hQ : ∀ s', FM s' → Q (-1) s') : Wp_X8_sure a b c s Q := by
  simp only [Wp_X8_sure, Wp_X8_sureFault, Wp_X8_wrongUnless, k_two h, k_isTown h, k_isBird h, k_isLetter h, forall_eq]
  simp [zi_si]
  exact hQ _ (FM_si (by decide) hm)
theorem p1_sure9 {a b c : Int32} {s : zS} {Q : Int32 → zS → Prop} (h : FM s) (hQ : ∀ s', Q (-1) s') : Wp_X9_sure a b c s Q := by
  simp only [Wp_X9_sure, Wp_X9_is, Wp_X9_refuse, Wp_X9_wrongRoad, m_isTown h, m_isBird h, m_isLetter h, forall_eq]
  simp [hQ]
theorem p1_doubles {a b c d : Int32} {s : zS} {Q : Int32 → zS → Prop} (h : FC s) (hm : FM s) (hQ : ∀ s', FM s' → Q (-1) s') : Wp_X8_doubles a b c d s Q := by
  simp only [Wp_X8_doubles, Wp_X8_wrongUnless, k_two h, k_isTown h, k_isBird h, k_isLetter h, forall_eq]
  simp [zi_si]
  exact hQ _ (FM_si (by decide) hm)
theorem p1_doubles9 {a b c d : Int32} {s : zS} {Q : Int32 → zS → Prop} (h : FM s) (hQ : ∀ s', Q (-1) s') : Wp_X9_doubles a b c d s Q := by
  simp only [Wp_X9_doubles, Wp_X9_is, Wp_X9_refuse, Wp_X9_wrongRoad, Wp_X9_isShare, m_isTown h, m_isBird h, m_isLetter h, forall_eq]
  simp [hQ]
theorem p1_relay {a b c d : Int32} {s : zS} {Q : Int32 → zS → Prop} (h : FC s) (hm : FM s) (hQ : ∀ s', FM s' → Q (-1) s') : Wp_X8_relay a b c d s Q := by
  simp only [Wp_X8_relay, Wp_X8_wrongUnless, k_two h, k_isTown h, k_isBird h, k_isLetter h, forall_eq]
  simp [zi_si]
  exact hQ _ (FM_si (by decide) hm)
theorem p1_relay9 {a b c d : Int32} {s : zS} {Q : Int32 → zS → Prop} (h : FM s) (hQ : ∀ s', Q (-1) s') : Wp_X9_relay a b c d s Q := by
  simp only [Wp_X9_relay, Wp_X9_is, Wp_X9_refuse, Wp_X9_wrongRoad, Wp_X9_isShare, m_isTown h, m_isBird h, m_isLetter h, forall_eq]
  simp [hQ]
theorem p1_lack {a b : Int32} {s : zS} {Q : Int32 → zS → Prop} (h : FC s) (hm : FM s) (hQ : ∀ s', FM s' → Q (-1) s') : Wp_X8_lack a b s Q := by
  simp only [Wp_X8_lack, Wp_X8_wrongUnless, k_two h, k_isTown h, k_isBird h, k_isLetter h, forall_eq]
  simp [zi_si]
  exact hQ _ (FM_si (by decide) hm)
theorem p1_lack9 {a b : Int32} {s : zS} {Q : Int32 → zS → Prop} (h : FM s) (hQ : ∀ s', Q (-1) s') : Wp_X9_lack a b s Q := by
  simp only [Wp_X9_lack, Wp_X9_is, Wp_X9_refuse, Wp_X9_wrongRoad, m_isTown h, m_isBird h, m_isLetter h, forall_eq]
  simp [hQ]
theorem p1_carrying {a : Int32} {s : zS} {Q : Int32 → zS → Prop} (h : FC s) (hm : FM s) (hQ : ∀ s', FM s' → Q (-1) s') : Wp_X8_carrying a s Q := by
  simp only [Wp_X8_carrying, Wp_X8_wrongUnless, k_two h, k_isTown h, k_isBird h, k_isLetter h, forall_eq]
  simp [zi_si]
  exact hQ _ (FM_si (by decide) hm)
theorem p1_carrying9 {a : Int32} {s : zS} {Q : Int32 → zS → Prop} (h : FM s) (hQ : ∀ s', Q (-1) s') : Wp_X9_carrying a s Q := by
  simp only [Wp_X9_carrying, Wp_X9_is, Wp_X9_refuse, Wp_X9_wrongRoad, m_isTown h, m_isBird h, m_isLetter h, forall_eq]
  simp [hQ]
theorem p1_carried {a b : Int32} {s : zS} {Q : Int32 → zS → Prop} (h : FC s) (hm : FM s) (hQ : ∀ s', FM s' → Q (-1) s') : Wp_X8_carried a b s Q := by
  simp only [Wp_X8_carried, Wp_X8_wrongUnless, k_two h, k_isTown h, k_isBird h, k_isLetter h, forall_eq]
  simp [zi_si]
  exact hQ _ (FM_si (by decide) hm)
theorem p1_carried9 {a b : Int32} {s : zS} {Q : Int32 → zS → Prop} (h : FM s) (hQ : ∀ s', Q (-1) s') : Wp_X9_carried a b s Q := by
  simp only [Wp_X9_carried, Wp_X9_is, Wp_X9_refuse, Wp_X9_wrongRoad, m_isTown h, m_isBird h, m_isLetter h, forall_eq]
  simp [hQ]
theorem p1_fares {a : Int32} {s : zS} {Q : Int32 → zS → Prop} (h : FC s) (hm : FM s) (hQ : ∀ s', FM s' → Q (-1) s') : Wp_X8_fares a s Q := by
  simp only [Wp_X8_fares, Wp_X8_wrongUnless, k_two h, k_isTown h, k_isBird h, k_isLetter h, forall_eq]
  simp [zi_si]
  exact hQ _ (FM_si (by decide) hm)
theorem p1_fares9 {a : Int32} {s : zS} {Q : Int32 → zS → Prop} (h : FM s) (hQ : ∀ s', Q (-1) s') : Wp_X9_fares a s Q := by
  simp only [Wp_X9_fares, Wp_X9_is, Wp_X9_refuse, Wp_X9_wrongRoad, m_isTown h, m_isBird h, m_isLetter h, forall_eq]
  simp [hQ]
theorem p1_send {a : Int32} {s : zS} {Q : Int32 → zS → Prop} (h : FC s) (hm : FM s) (hQ : ∀ s', FM s' → Q (-1) s') : Wp_X8_send a s Q := by
  simp only [Wp_X8_send, Wp_X8_wrongUnless, k_two h, k_isTown h, k_isBird h, k_isLetter h, forall_eq]
  simp [zi_si]
  exact hQ _ (FM_si (by decide) hm)
theorem p1_send9 {a : Int32} {s : zS} {Q : Int32 → zS → Prop} (h : FM s) (hQ : ∀ s', Q (-1) s') : Wp_X9_send a s Q := by
  simp only [Wp_X9_send, Wp_X9_is, Wp_X9_refuse, Wp_X9_wrongRoad, m_isTown h, m_isBird h, m_isLetter h, forall_eq]
  simp [hQ]
theorem p1_letter {a b c d : Int32} {s : zS} {Q : Int32 → zS → Prop} (h : FC s) (hm : FM s) (hQ : ∀ s', FM s' → Q (-1) s') : Wp_X8_letter a b c d s Q := by
  simp only [Wp_X8_letter, Wp_X8_letterFault, Wp_X8_wrongUnless, k_two h, k_isTown h, k_isBird h, k_isLetter h, forall_eq]
  simp [zi_si]
  exact hQ _ (FM_si (by decide) hm)
theorem p1_letter9 {a b c d : Int32} {s : zS} {Q : Int32 → zS → Prop} (h : FM s) (hQ : ∀ s', Q (-1) s') : Wp_X9_letter a b c d s Q := by
  simp only [Wp_X9_letter, Wp_X9_is, Wp_X9_refuse, Wp_X9_wrongRoad, m_isTown h, m_isBird h, m_isLetter h, forall_eq]
  simp [hQ]
theorem p1_comes {a b c d : Int32} {s : zS} {Q : Int32 → zS → Prop} (h : FC s) (hm : FM s) (hQ : ∀ s', FM s' → Q (-1) s') : Wp_X8_comes a b c d s Q := by
  simp only [Wp_X8_comes, Wp_X8_comesFault, Wp_X8_wrongUnless, k_two h, k_isTown h, k_isBird h, k_isLetter h, forall_eq]
  simp [zi_si]
  exact hQ _ (FM_si (by decide) hm)
theorem p1_comes9 {a b c d : Int32} {s : zS} {Q : Int32 → zS → Prop} (h : FM s) (hQ : ∀ s', Q (-1) s') : Wp_X9_comes a b c d s Q := by
  simp only [Wp_X9_comes, Wp_X9_is, Wp_X9_refuse, Wp_X9_wrongRoad, m_isTown h, m_isBird h, m_isLetter h, forall_eq]
  simp [hQ]
theorem p1_knows {a b : Int32} {s : zS} {Q : Int32 → zS → Prop} (h : FC s) (hm : FM s) (hQ : ∀ s', FM s' → Q (-1) s') : Wp_X8_knows a b s Q := by
  simp only [Wp_X8_knows, Wp_X8_wrongUnless, k_two h, k_isTown h, k_isBird h, k_isLetter h, forall_eq]
  simp [zi_si]
  exact hQ _ (FM_si (by decide) hm)
theorem p1_knows9 {a b : Int32} {s : zS} {Q : Int32 → zS → Prop} (h : FM s) (hQ : ∀ s', Q (-1) s') : Wp_X9_knows a b s Q := by
  simp only [Wp_X9_knows, Wp_X9_is, Wp_X9_refuse, Wp_X9_wrongRoad, m_isTown h, m_isBird h, m_isLetter h, forall_eq]
  simp [hQ]
theorem p1_joined {a b c : Int32} {s : zS} {Q : Int32 → zS → Prop} (h : FC s) (hm : FM s) (hQ : ∀ s', FM s' → Q (-1) s') : Wp_X8_joined a b c s Q := by
  simp only [Wp_X8_joined, Wp_X8_joinedFault, Wp_X8_wrongUnless, k_two h, k_isTown h, k_isBird h, k_isLetter h, forall_eq]
  simp [zi_si]
  exact hQ _ (FM_si (by decide) hm)
theorem p1_joined9 {a b c : Int32} {s : zS} {Q : Int32 → zS → Prop} (h : FM s) (hQ : ∀ s', Q (-1) s') : Wp_X9_joined a b c s Q := by
  simp only [Wp_X9_joined, Wp_X9_is, Wp_X9_refuse, Wp_X9_wrongRoad, m_isTown h, m_isBird h, m_isLetter h, forall_eq]
  simp [hQ]
theorem p1_copies {a b : Int32} {s : zS} {Q : Int32 → zS → Prop} (h : FC s) (hm : FM s) (hQ : ∀ s', FM s' → Q (-1) s') : Wp_X8_copies a b s Q := by
  simp only [Wp_X8_copies, Wp_X8_wrongUnless, k_two h, k_isTown h, k_isBird h, k_isLetter h, forall_eq]
  simp [zi_si]
  exact hQ _ (FM_si (by decide) hm)
theorem p1_copies9 {a b : Int32} {s : zS} {Q : Int32 → zS → Prop} (h : FM s) (hQ : ∀ s', Q (-1) s') : Wp_X9_copies a b s Q := by
  simp only [Wp_X9_copies, Wp_X9_is, Wp_X9_refuse, Wp_X9_wrongRoad, m_isTown h, m_isBird h, m_isLetter h, forall_eq]
  simp [hQ]
theorem p1_right {a b : Int32} {s : zS} {Q : Int32 → zS → Prop} (h : FC s) (hm : FM s) (hQ : ∀ s', FM s' → Q (-1) s') : Wp_X8_right a b s Q := by
  simp only [Wp_X8_right, Wp_X8_rightFault, Wp_X8_wrongUnless, k_two h, k_isTown h, k_isBird h, k_isLetter h, forall_eq]
  simp [zi_si]
  exact hQ _ (FM_si (by decide) hm)
theorem p1_right9 {a b : Int32} {s : zS} {Q : Int32 → zS → Prop} (h : FM s) (hQ : ∀ s', Q (-1) s') : Wp_X9_right a b s Q := by
  simp only [Wp_X9_right, Wp_X9_is, Wp_X9_refuse, Wp_X9_wrongRoad, m_isTown h, m_isBird h, m_isLetter h, forall_eq]
  simp [hQ]

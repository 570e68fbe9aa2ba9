/-! ===== counting ===== -/
/-- how many b below n have f b = x and g b = y -/
def cnt (f g : Nat → Int32) (x y : Int32) : Nat → Nat
  | 0 => 0
  | n + 1 => cnt f g x y n + if f n = x ∧ g n = y then 1 else 0
theorem cnt_le (f g : Nat → Int32) (x y : Int32) : ∀ n, cnt f g x y n ≤ n
  | 0 => Nat.le_refl 0
  | n + 1 => by
    have := cnt_le f g x y n
    unfold cnt
    split <;> omega
theorem cnt_congr {f g f' g' : Nat → Int32} {x y : Int32} : ∀ n, (∀ b, b < n → f b = f' b ∧ g b = g' b) → cnt f g x y n = cnt f' g' x y n
  | 0, _ => rfl
  | n + 1, h => by
    unfold cnt
    rw [cnt_congr n (fun b hb => h b (by omega)), (h n (by omega)).1, (h n (by omega)).2]
/-- one place changed -/
theorem cnt_upd {f g : Nat → Int32} {x y v : Int32} {b : Nat} : ∀ n, b < n → cnt f (upd g b v) x y n + (if f b = x ∧ g b = y then 1 else 0) = cnt f g x y n + (if f b = x ∧ v = y then 1 else 0)
  | 0, h => absurd h (Nat.not_lt_zero b)
  | n + 1, h => by
    unfold cnt
    by_cases e : b = n
    · subst e
      have h1 : cnt f (upd g b v) x y b = cnt f g x y b := cnt_congr b (fun c hc => ⟨rfl, by unfold upd; rw [if_neg (by omega)]⟩)
      rw [h1]
      have h2 : upd g b v b = v := by unfold upd; rw [if_pos rfl]
      rw [h2]
      omega
    · have := cnt_upd (f := f) (g := g) (x := x) (y := y) (v := v) n (show b < n by omega)
      have h2 : upd g b v n = g n := by unfold upd; rw [if_neg (by omega)]
      rw [h2]
      omega
theorem cnt_off {f g : Nat → Int32} {x y v : Int32} {b n : Nat} (h : b < n) (h0 : ¬ (f b = x ∧ g b = y)) (h1 : ¬ (f b = x ∧ v = y)) : cnt f (upd g b v) x y n = cnt f g x y n := by
  have := cnt_upd (f := f) (g := g) (x := x) (y := y) (v := v) n h
  rw [if_neg h0, if_neg h1] at this
  exact this
theorem cnt_pos {f g : Nat → Int32} {x y : Int32} {b : Nat} : ∀ n, b < n → f b = x → g b = y → 0 < cnt f g x y n
  | 0, h, _, _ => absurd h (Nat.not_lt_zero b)
  | n + 1, h, hx, hy => by
    unfold cnt
    by_cases e : b = n
    · subst e
      rw [if_pos ⟨hx, hy⟩]
      omega
    · have := cnt_pos n (show b < n by omega) hx hy
      omega

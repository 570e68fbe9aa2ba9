/-! ===== what always holds of the class's cells ===== -/
def zNb (s : zS) : Int := (zi s 14 0 0).toInt
def zLc (s : zS) : Int := (zi s 38 0 0).toInt
/-- the BIRDS: places within bounds, and how many wait where -/
def BI (s : zS) : Prop := (0 ≤ zNb s ∧ zNb s ≤ 60) ∧ (∀ b : Nat, (b : Int) < zNb s → (0 ≤ (zi s 15 0 b).toInt ∧ (zi s 15 0 b).toInt < 10) ∧ (zi s 17 0 b = 0 → 0 ≤ (zi s 16 0 b).toInt ∧ (zi s 16 0 b).toInt < 10) ∧ (¬ zi s 17 0 b = 0 → zi s 16 0 b = -1)) ∧
  ∀ h t : Nat, h < 10 → t < 10 → (zi s 21 h t).toInt = cnt (zi s 15 0) (zi s 16 0) (nI h) (nI t) (zNb s).toNat
/-- the LETTERS that BIRDS have -/
def LI (s : zS) : Prop := (0 ≤ zLc s ∧ zLc s ≤ 40) ∧ (∀ b : Nat, (b : Int) < zNb s → zi s 17 0 b = 1 → 0 ≤ (zi s 19 0 b).toInt ∧ (zi s 19 0 b).toInt < zLc s) ∧ ∀ l : Nat, (l : Int) < zLc s → 0 ≤ (zi s 39 0 l).toInt ∧ (zi s 39 0 l).toInt ≤ 40
def CI (s : zS) : Prop := (0 ≤ (zi s 7 0 0).toInt ∧ (zi s 7 0 0).toInt ≤ 10) ∧ BI s ∧ LI s ∧ (∀ t : Nat, t < 10 → 0 ≤ (zi s 49 0 t).toInt ∧ (zi s 49 0 t).toInt ≤ 10) ∧ ∀ t : Nat, t < 4 → 0 ≤ (zi s 4 0 t).toInt ∧ (zi s 4 0 t).toInt ≤ 60
/-- kinds that no clause of CI speaks of, of the class, and that are not compared -/
def KI (k : Nat) : Prop := k = 0 ∨ k = 1 ∨ k = 9 ∨ k = 11 ∨ k = 13 ∨ k = 18 ∨ (22 ≤ k ∧ k ≤ 27) ∨ k = 30 ∨ k = 32 ∨ k = 34 ∨ k = 36 ∨ k = 37 ∨ k = 41 ∨ k = 43 ∨ k = 45 ∨ k = 47 ∨ k = 51 ∨ k = 53
/-- kinds of the class that are not compared -/
def KE (k : Nat) : Prop := k < 54 ∧ ¬ (k = 3 ∨ k = 4 ∨ k = 6 ∨ k = 7 ∨ k = 14)
theorem KI_KE {k : Nat} (h : KI k) : KE k := by unfold KI at h; unfold KE; omega
theorem BI_fr {K : Nat → Prop} {s s' : zS} (hk : ∀ k, (k = 14 ∨ k = 15 ∨ k = 16 ∨ k = 17 ∨ k = 21) → ¬ K k) (h : BI s) (hf : zfx K s s') : BI s' := by
  unfold BI zNb at h ⊢
  rw [(hf 14 (hk 14 (by omega)) 0).1, (hf 15 (hk 15 (by omega)) 0).1, (hf 16 (hk 16 (by omega)) 0).1, (hf 17 (hk 17 (by omega)) 0).1]
  refine ⟨h.1, h.2.1, fun x y hx hy => ?_⟩
  rw [(hf 21 (hk 21 (by omega)) x).1]
  exact h.2.2 x y hx hy
theorem LI_fr {K : Nat → Prop} {s s' : zS} (hk : ∀ k, (k = 14 ∨ k = 17 ∨ k = 19 ∨ k = 38 ∨ k = 39) → ¬ K k) (h : LI s) (hf : zfx K s s') : LI s' := by
  unfold LI zNb zLc at h ⊢
  rw [(hf 14 (hk 14 (by omega)) 0).1, (hf 17 (hk 17 (by omega)) 0).1, (hf 19 (hk 19 (by omega)) 0).1, (hf 38 (hk 38 (by omega)) 0).1, (hf 39 (hk 39 (by omega)) 0).1]
  exact h
theorem CI_fr {K : Nat → Prop} {s s' : zS} (hk : ∀ k, (k = 4 ∨ k = 7 ∨ k = 14 ∨ k = 15 ∨ k = 16 ∨ k = 17 ∨ k = 19 ∨ k = 21 ∨ k = 38 ∨ k = 39 ∨ k = 49) → ¬ K k) (h : CI s) (hf : zfx K s s') : CI s' := by
  unfold CI at h ⊢
  refine ⟨?_, BI_fr (fun k hk9 => hk k (by omega)) h.2.1 hf, LI_fr (fun k hk9 => hk k (by omega)) h.2.2.1 hf, ?_, ?_⟩
  · rw [(hf 7 (hk 7 (by omega)) 0).1]
    exact h.1
  · rw [(hf 49 (hk 49 (by omega)) 0).1]
    exact h.2.2.2.1
  · rw [(hf 4 (hk 4 (by omega)) 0).1]
    exact h.2.2.2.2
theorem CI_KI {s s' : zS} (h : CI s) (hf : zfx KI s s') : CI s' := CI_fr (fun k hk q => by unfold KI at q; omega) h hf
/-! ===== questions of the class ===== -/
theorem one_nz : ¬ (1 : Int32) = 0 := by decide
theorem W_within {a b c : Int32} {s : zS} {Q : Int32 → zS → Prop} (h0 : ¬ (b.toInt ≤ a.toInt ∧ a.toInt ≤ c.toInt) → Q 0 s) (h1 : b.toInt ≤ a.toInt → a.toInt ≤ c.toInt → Q 1 s) : Wp_X8_within a b c s Q := by
  simp only [Wp_X8_within, it_lt]
  exact ⟨fun g => h0 (by omega), fun g1 => ⟨fun g => h0 (by omega), fun g2 => h1 (by omega) (by omega)⟩⟩
theorem W_isTray {a : Int32} {s : zS} {Q : Int32 → zS → Prop} (h0 : ¬ (0 ≤ a.toInt ∧ a.toInt < 4) → Q 0 s) (h1 : 0 ≤ a.toInt → a.toInt < 4 → Q 1 s) : Wp_X8_isTray a s Q := by
  unfold Wp_X8_isTray
  exact W_within (fun g => h0 (by rw [it_0, it_3] at g; omega)) (fun g1 g2 => h1 g1 (by rw [it_3] at g2; omega))
theorem W_isMinute {a : Int32} {s : zS} {Q : Int32 → zS → Prop} (h0 : Q 0 s) (h1 : Q 1 s) : Wp_X8_isMinute a s Q := by
  unfold Wp_X8_isMinute
  exact W_within (fun _ => h0) (fun _ _ => h1)
theorem W_pred {n a : Int32} {m : Int} (h1 : 0 ≤ n.toInt) (h2 : n.toInt ≤ m) (hm : m ≤ 1000) : (n - 1).toInt = n.toInt - 1 := it_sub (by rw [it_1]; omega) (by rw [it_1]; omega)
theorem W_isTown {a : Int32} {s : zS} {Q : Int32 → zS → Prop} (hT : 0 ≤ (zi s 7 0 0).toInt ∧ (zi s 7 0 0).toInt ≤ 10) (h0 : ¬ (0 ≤ a.toInt ∧ a.toInt < (zi s 7 0 0).toInt) → Q 0 s) (h1 : 0 ≤ a.toInt → a.toInt < (zi s 7 0 0).toInt → a.toInt < 10 → Q 1 s) : Wp_X8_isTown a s Q := by
  unfold Wp_X8_isTown
  have e := W_pred (a := a) hT.1 hT.2 (by omega)
  exact W_within (fun g => h0 (by rw [e, it_0] at g; omega)) (fun g1 g2 => by rw [it_0] at g1; rw [e] at g2; exact h1 g1 (by omega) (by omega))
theorem W_isBird {a : Int32} {s : zS} {Q : Int32 → zS → Prop} (hB : BI s) (h0 : ¬ (0 ≤ a.toInt ∧ a.toInt < zNb s) → Q 0 s) (h1 : 0 ≤ a.toInt → a.toInt < zNb s → a.toInt < 60 → Q 1 s) : Wp_X8_isBird a s Q := by
  unfold Wp_X8_isBird
  obtain ⟨⟨g1, g2⟩, -⟩ := hB
  have e := W_pred (a := a) g1 g2 (by omega)
  unfold zNb at *
  exact W_within (fun g => h0 (by rw [e, it_0] at g; omega)) (fun g1 g2 => by rw [it_0] at g1; rw [e] at g2; exact h1 g1 (by omega) (by omega))
theorem W_isLetter {a : Int32} {s : zS} {Q : Int32 → zS → Prop} (hB : LI s) (h0 : ¬ (0 ≤ a.toInt ∧ a.toInt < zLc s) → Q 0 s) (h1 : 0 ≤ a.toInt → a.toInt < zLc s → a.toInt < 40 → Q 1 s) : Wp_X8_isLetter a s Q := by
  unfold Wp_X8_isLetter
  obtain ⟨⟨g1, g2⟩, -⟩ := hB
  have e := W_pred (a := a) g1 g2 (by omega)
  unfold zLc at *
  exact W_within (fun g => h0 (by rw [e, it_0] at g; omega)) (fun g1 g2 => by rw [it_0] at g1; rw [e] at g2; exact h1 g1 (by omega) (by omega))
/-- a and b are TOWNS, and differ -/
def Two (s : zS) (a b : Int32) : Prop := 0 ≤ a.toInt ∧ a.toInt < (zi s 7 0 0).toInt ∧ a.toInt < 10 ∧ 0 ≤ b.toInt ∧ b.toInt < (zi s 7 0 0).toInt ∧ b.toInt < 10 ∧ ¬ a = b
theorem W_two {a b : Int32} {s : zS} {Q : Int32 → zS → Prop} (hT : 0 ≤ (zi s 7 0 0).toInt ∧ (zi s 7 0 0).toInt ≤ 10) (h0 : ¬ Two s a b → Q 0 s) (h1 : Two s a b → Q 1 s) : Wp_X8_areTwoTowns a b s Q := by
  unfold Wp_X8_areTwoTowns
  refine W_isTown hT (fun g => ⟨fun _ => h0 (fun q => g ⟨q.1, q.2.1⟩), fun q => absurd rfl q⟩) (fun g1 g2 g3 => ⟨fun q => absurd q one_nz, fun _ => ?_⟩)
  refine W_isTown hT (fun g => ⟨fun _ => h0 (fun q => g ⟨q.2.2.2.1, q.2.2.2.2.1⟩), fun q => absurd rfl q⟩) (fun g4 g5 g6 => ⟨fun q => absurd q one_nz, fun _ => ?_⟩)
  exact ⟨fun e => h0 (fun q => q.2.2.2.2.2.2 e), fun e => h1 ⟨g1, g2, g3, g4, g5, g6, e⟩⟩
theorem W_wu {a : Int32} {s : zS} {Q : Int32 → zS → Prop} (h0 : a = 0 → Q 1 s) (h1 : ¬ a = 0 → Q 0 s) : Wp_X8_wrongUnless a s Q := ⟨h0, h1⟩
theorem in_of {a : Int32} {n : Nat} (h1 : 0 ≤ a.toInt) (h2 : a.toInt < n) : vp_in a n := it_in.mpr ⟨h1, h2⟩
theorem zfx1 {K : Nat → Prop} {s : zS} {k r i : Nat} {v : Int32} (hk : K k) : zfx K s (zsi s k r i v) := zfx_si zfx_rf hk
theorem st_of {s : zS} {r : Int32} {F G : zS → Prop} (h0 : r = 0 → F (zsi s 0 0 8 r)) (h1 : ¬ r = 0 → G (zsi s 0 0 8 r)) : ∀ s3 : zS, s3 = zsi s 0 0 8 r → (((zi s3 0 0 8) = 0 → F s3) ∧ (¬ (zi s3 0 0 8) = 0 → G s3)) := by
  rintro _ rfl
  have e : zi (zsi s 0 0 8 r) 0 0 8 = r := by rw [zi_si, if_pos ⟨rfl, rfl, rfl⟩]
  rw [e]
  exact ⟨h0, h1⟩

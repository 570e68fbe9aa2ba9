/-! ===== plain rows: reading a changed state ===== -/
theorem zi_si (s : zS) (k r i : Nat) (v : Int32) (k' r' i' : Nat) : zi (zsi s k r i v) k' r' i' = if k' = k ∧ r' = r ∧ i' = i then v else zi s k' r' i' := by
  unfold zsi
  rw [zi_ci]
  by_cases h : k' = k ∧ r' = r
  · obtain ⟨rfl, rfl⟩ := h
    simp only [and_self, if_true, true_and]
    unfold upd
    rfl
  · rw [if_neg h, if_neg (fun q => h ⟨q.1, q.2.1⟩)]
theorem zj_si (s : zS) (k r i : Nat) (v : Int32) (k' r' : Nat) : zj (zsi s k r i v) k' r' = zj s k' r' := rfl
theorem zi_sj (s : zS) (k r i : Nat) (v : Int64) (k' r' : Nat) : zi (zsj s k r i v) k' r' = zi s k' r' := rfl
theorem zj_sj (s : zS) (k r i : Nat) (v : Int64) (k' r' i' : Nat) : zj (zsj s k r i v) k' r' i' = if k' = k ∧ r' = r ∧ i' = i then v else zj s k' r' i' := by
  unfold zsj
  rw [zj_cj]
  by_cases h : k' = k ∧ r' = r
  · obtain ⟨rfl, rfl⟩ := h
    simp only [and_self, if_true, true_and]
    unfold vp_updL
    rfl
  · rw [if_neg h, if_neg (fun q => h ⟨q.1, q.2.1⟩)]
theorem zi_sir (s : zS) (k r i : Nat) (v : Int32) (k' r' : Nat) (h : ¬ (k' = k ∧ r' = r)) : zi (zsi s k r i v) k' r' = zi s k' r' := by
  unfold zsi
  rw [zi_ci, if_neg h]
theorem zj_sjr (s : zS) (k r i : Nat) (v : Int64) (k' r' : Nat) (h : ¬ (k' = k ∧ r' = r)) : zj (zsj s k r i v) k' r' = zj s k' r' := by
  unfold zsj
  rw [zj_cj, if_neg h]
/-! ===== plain rows: ints as integers ===== -/
theorem it_lt {a b : Int32} : a < b ↔ a.toInt < b.toInt := Int32.lt_iff_toInt_lt
theorem it_le {a b : Int32} : a ≤ b ↔ a.toInt ≤ b.toInt := Int32.le_iff_toInt_le
theorem it_eq {a b : Int32} : a = b ↔ a.toInt = b.toInt := Int32.toInt_inj.symm
theorem it_lo (a : Int32) : -2147483648 ≤ a.toInt := Int32.le_toInt a
theorem it_hi (a : Int32) : a.toInt < 2147483648 := Int32.toInt_lt a
theorem it_bm {x : Int} (h1 : -2147483648 ≤ x) (h2 : x < 2147483648) : x.bmod 4294967296 = x := by
  rw [Int.bmod_def]
  split <;> omega
theorem it_add {a b : Int32} (h1 : -2147483648 ≤ a.toInt + b.toInt) (h2 : a.toInt + b.toInt < 2147483648) : (a + b).toInt = a.toInt + b.toInt := by
  rw [Int32.toInt_add]; exact it_bm h1 h2
theorem it_sub {a b : Int32} (h1 : -2147483648 ≤ a.toInt - b.toInt) (h2 : a.toInt - b.toInt < 2147483648) : (a - b).toInt = a.toInt - b.toInt := by
  rw [Int32.toInt_sub]; exact it_bm h1 h2
theorem it_mul {a b : Int32} (h1 : -2147483648 ≤ a.toInt * b.toInt) (h2 : a.toInt * b.toInt < 2147483648) : (a * b).toInt = a.toInt * b.toInt := by
  rw [Int32.toInt_mul]; exact it_bm h1 h2
theorem it_nat (a : Int32) : a.toNatClampNeg = a.toInt.toNat := rfl
theorem it_in {a : Int32} {n : Nat} : vp_in a n ↔ 0 ≤ a.toInt ∧ a.toInt < n := vp_in_iff
theorem it_0 : (0 : Int32).toInt = 0 := rfl
theorem it_1 : (1 : Int32).toInt = 1 := rfl
theorem it_m1 : (-1 : Int32).toInt = -1 := rfl
theorem it_2 : (2 : Int32).toInt = 2 := rfl
theorem it_3 : (3 : Int32).toInt = 3 := rfl
theorem it_4 : (4 : Int32).toInt = 4 := rfl
theorem it_6 : (6 : Int32).toInt = 6 := rfl
theorem it_9 : (9 : Int32).toInt = 9 := rfl
theorem it_10 : (10 : Int32).toInt = 10 := rfl
theorem it_39 : (39 : Int32).toInt = 39 := rfl
theorem it_40 : (40 : Int32).toInt = 40 := rfl
theorem it_60 : (60 : Int32).toInt = 60 := rfl
theorem it_61 : (61 : Int32).toInt = 61 := rfl
/-! ===== what may differ between two states ===== -/
def zfx (K : Nat → Prop) (s s' : zS) : Prop := ∀ k : Nat, ¬ K k → ∀ r : Nat, zi s' k r = zi s k r ∧ zj s' k r = zj s k r
theorem zfx_rf {K : Nat → Prop} {s : zS} : zfx K s s := fun _ _ _ => ⟨rfl, rfl⟩
theorem zfx_tr {K : Nat → Prop} {s s1 s2 : zS} (h1 : zfx K s s1) (h2 : zfx K s1 s2) : zfx K s s2 := fun k hk r => ⟨(h2 k hk r).1.trans (h1 k hk r).1, (h2 k hk r).2.trans (h1 k hk r).2⟩
theorem zfx_mo {K K' : Nat → Prop} {s s' : zS} (h : zfx K s s') (hk : ∀ k, K k → K' k) : zfx K' s s' := fun k hn r => h k (fun q => hn (hk k q)) r
theorem zfx_si {K : Nat → Prop} {s s' : zS} {k r i : Nat} {v : Int32} (h : zfx K s s') (hk : K k) : zfx K s (zsi s' k r i v) := fun k' hn r' => by
  rw [zi_sir s' k r i v k' r' (fun q => hn (q.1 ▸ hk)), zj_si]
  exact h k' hn r'
theorem zfx_sj {K : Nat → Prop} {s s' : zS} {k r i : Nat} {v : Int64} (h : zfx K s s') (hk : K k) : zfx K s (zsj s' k r i v) := fun k' hn r' => by
  rw [zj_sjr s' k r i v k' r' (fun q => hn (q.1 ▸ hk)), zi_sj]
  exact h k' hn r'
theorem zfx_cj {K : Nat → Prop} {s s' : zS} {k r : Nat} {g : Nat → Int64} (h : zfx K s s') (hk : K k) : zfx K s (zcj s' k r g) := fun k' hn r' => by
  rw [zj_cj, if_neg (fun q : k' = k ∧ r' = r => hn (q.1 ▸ hk)), zi_cj]
  exact h k' hn r'
theorem zfx_ci {K : Nat → Prop} {s s' : zS} {k r : Nat} {f : Nat → Int32} (h : zfx K s s') (hk : K k) : zfx K s (zci s' k r f) := fun k' hn r' => by
  rw [zi_ci, if_neg (fun q : k' = k ∧ r' = r => hn (q.1 ▸ hk)), zj_ci]
  exact h k' hn r'
theorem ni10 : (10 : Int32) = nI 10 := rfl
theorem ni60 : (60 : Int32) = nI 60 := rfl
theorem n_at {a b : Nat} : (10 : Int32) * nI a + nI b = nI (10 * a + b) := by rw [ni10, pk_mul, nI_add]
theorem n_at60 {a b : Nat} : (60 : Int32) * nI a + nI b = nI (60 * a + b) := by rw [ni60, pk_mul, nI_add]
/-- an int between bounds, as a number -/
theorem n_of {a : Int32} {n : Nat} (h0 : 0 ≤ a.toInt) (h1 : a.toInt ≤ n) : ∃ j : Nat, j ≤ n ∧ a = nI j := by
  refine ⟨a.toInt.toNat, by omega, ?_⟩
  apply Int32.toInt_inj.mp
  have := it_hi a
  rw [nI_toInt (by omega)]
  omega
theorem n_ofl {a : Int32} {n : Nat} (h0 : 0 ≤ a.toInt) (h1 : a.toInt < n) : ∃ j : Nat, j < n ∧ a = nI j := by
  refine ⟨a.toInt.toNat, by omega, ?_⟩
  apply Int32.toInt_inj.mp
  have := it_hi a
  rw [nI_toInt (by omega)]
  omega

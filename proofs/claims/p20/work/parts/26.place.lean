/-! ===== TRAYS: write, read, pour of both ===== -/
theorem zj_sjg (s : zS) (k r i : Nat) (v : Int64) : zj (zsj s k r i v) k r = vp_updL (zj s k r) i v := by
  unfold zsj
  rw [zj_cj, if_pos ⟨rfl, rfl⟩]
theorem m1_no2 {t : Nat} (h : t < 1000) : ¬ (-1 : Int32) = nI t := fun e => by
  have := congrArg Int32.toInt e
  rw [it_m1, nI_toInt (by omega)] at this
  omega
def PO8 (s : zS) (a b : Int32) : Prop := ∃ t i m : Nat, t < 4 ∧ a = nI t ∧ b = nI i ∧ i < m ∧ m ≤ 60 ∧ zi s 4 0 t = nI m ∧ ¬ zi s 3 0 t = -1
def PO9 (s : zS) (a b : Int32) : Prop := ∃ t i m : Nat, t < 4 ∧ a = nI t ∧ b = nI i ∧ i < m ∧ m ≤ 60 ∧ zi s 56 0 t = nI m
def L8 (s : zS) : Prop := ∀ t : Nat, t < 4 → 0 ≤ (zi s 4 0 t).toInt ∧ (zi s 4 0 t).toInt ≤ 60
def L9 (s : zS) : Prop := ∀ t : Nat, t < 4 → zi s 56 0 t = -1 ∨ 0 ≤ (zi s 56 0 t).toInt ∧ (zi s 56 0 t).toInt ≤ 60
theorem nI_t {a t : Nat} (h : a < 1000) (ht : t < 1000) (e : nI a = nI t) : a = t := (nI_eq (by omega) (by omega)).mp e
theorem W_missing {t : Nat} {s : zS} {Q : Int32 → zS → Prop} (ht : t < 4) (h0 : ¬ zi s 3 0 t = -1 → Q 0 s) (h1 : zi s 3 0 t = -1 → Q 1 s) : Wp_X7_isMissing (nI t) s Q := by
  unfold Wp_X7_isMissing
  rw [nI_clamp (by omega)]
  exact ⟨nat_in ht (by omega), h0, h1⟩
theorem W_place8 {a b : Int32} {s : zS} {Q : Int32 → zS → Prop} (hL : L8 s) (h0 : ¬ PO8 s a b → ∀ r : Int32, ¬ r = 0 → Q r s) (h1 : PO8 s a b → Q 0 s) : Wp_X8_placeFault a b s Q := by
  unfold Wp_X8_placeFault
  refine W_isTray (fun g => ⟨fun q => absurd rfl q, fun _ => h0 ?_ 1 one_nz⟩) (fun g1 g2 => ⟨fun _ => ?_, fun q => absurd q one_nz⟩)
  · rintro ⟨t, i, m, ht, rfl, -⟩
    rw [nI_toInt (by omega)] at g
    omega
  obtain ⟨t, ht, rfl⟩ := n_ofl (n := 4) g1 g2
  refine W_missing ht (fun e => ⟨fun _ => ?_, fun q => absurd rfl q⟩) (fun e => ⟨fun q => absurd q one_nz, fun _ => h0 ?_ 3 (by decide)⟩)
  · rw [nI_clamp (by omega)]
    obtain ⟨m, hm, em⟩ := n_of (n := 60) (hL t ht).1 (hL t ht).2
    have e1 : (nI m - 1).toInt = (m : Int) - 1 := by rw [it_sub (by rw [nI_toInt (by omega), it_1]; omega) (by rw [nI_toInt (by omega), it_1]; omega), nI_toInt (by omega), it_1]
    rw [em]
    refine ⟨nat_in ht (by omega), W_within (fun g => ⟨fun _ => h0 ?_ 4 (by decide), fun q => absurd rfl q⟩) (fun g3 g4 => ⟨fun q => absurd q one_nz, fun _ => h1 ?_⟩)⟩
    · rintro ⟨t', i, m', ht', et, rfl, hi, hm', em', -⟩
      obtain rfl := nI_t (by omega) (by omega) et
      obtain rfl := nI_t (by omega) (by omega) (em.symm.trans em')
      rw [e1, it_0, nI_toInt (by omega)] at g
      omega
    · rw [it_0] at g3
      rw [e1] at g4
      obtain ⟨i, hi, rfl⟩ := n_ofl (a := b) (n := 60) g3 (by omega)
      rw [nI_toInt (by omega)] at g4
      exact ⟨t, i, m, ht, rfl, rfl, by omega, hm, em, e⟩
  · rintro ⟨t', i, m', ht', et, -, -, -, -, q⟩
    obtain rfl := nI_t (by omega) (by omega) et
    exact q e
theorem W_place9 {a b : Int32} {s : zS} {Q : Int32 → zS → Prop} (hL : L9 s) (h0 : ¬ PO9 s a b → ∀ r : Int32, 0 < r.toInt → Q r s) (h1 : PO9 s a b → Q 0 s) : Wp_X9_wrong a b s Q := by
  unfold Wp_X9_wrong Wp_X9_isTray
  have no : ∀ t : Nat, t < 4 → (zi s 56 0 t = -1) → ¬ PO9 s (nI t) b := by
    rintro t ht e ⟨t', i, m, ht', et, rfl, hi, hm, em⟩
    obtain rfl := nI_t (by omega) (by omega) et
    have := congrArg Int32.toInt (e.symm.trans em)
    rw [nI_toInt (by omega), it_m1] at this
    omega
  have out : ¬ (0 ≤ a.toInt ∧ a.toInt < 4) → Q 1 s := fun g => h0 (by
    rintro ⟨t, i, m, ht, rfl, -⟩
    rw [nI_toInt (by omega)] at g
    omega) 1 (by decide)
  refine ⟨fun g => ⟨fun q => absurd rfl q, fun _ => out ?_⟩, fun g1 => ⟨fun g => ⟨fun q => absurd rfl q, fun _ => out ?_⟩, fun g2 => ⟨fun _ => ?_, fun q => absurd q one_nz⟩⟩⟩
  · rw [it_lt, it_0] at g; omega
  · rw [it_le, it_4] at g; omega
  rw [it_lt, it_0] at g1
  rw [it_le, it_4] at g2
  obtain ⟨t, ht, rfl⟩ := n_ofl (a := a) (n := 4) (by omega) (by omega)
  rw [nI_clamp (by omega)]
  have im : vp_in (nI t) 4 := nat_in ht (by omega)
  refine ⟨im, fun e => ?_, fun e => h0 (no t ht e) 3 (by decide)⟩
  obtain ⟨m, hm, em⟩ : ∃ m : Nat, m ≤ 60 ∧ zi s 56 0 t = nI m := by
    rcases hL t ht with q | q
    · exact absurd q e
    · exact n_of q.1 q.2
  rw [em]
  refine ⟨fun g => h0 ?_ 4 (by decide), fun g3 => ⟨im, fun g4 => h1 ?_, fun g => h0 ?_ 4 (by decide)⟩⟩
  · rintro ⟨t', i, m', ht', et, rfl, hi, hm', em'⟩
    rw [it_lt, it_0, nI_toInt (by omega)] at g
    omega
  · rw [it_lt, it_0] at g3
    rw [it_lt, nI_toInt (by omega)] at g4
    obtain ⟨i, hi, rfl⟩ := n_ofl (a := b) (n := 60) (by omega) (by omega)
    rw [nI_toInt (by omega)] at g4
    exact ⟨t, i, m, ht, rfl, rfl, by omega, hm, em⟩
  · rintro ⟨t', i, m', ht', et, rfl, hi, hm', em'⟩
    obtain rfl := nI_t (by omega) (by omega) et
    obtain rfl := nI_t (by omega) (by omega) (em.symm.trans em')
    exact g (nI_lt hi (by omega))
def cutv (v : Int64) (c : Int32) : Int64 := if c = 0 then v.toInt32.toInt8.toInt32.toInt64 else if c = 1 then v.toInt32.toInt16.toInt32.toInt64 else if c = 2 then v.toInt32.toInt64 else v
theorem W_cut8 {v : Int64} {c : Int32} {s : zS} {Q : Int64 → zS → Prop} (h : Q (cutv v c) s) : Wp_X7_cut v c s Q := by
  unfold Wp_X7_cut
  unfold cutv at h
  refine ⟨fun e => ?_, fun e => ?_, fun e => ?_, fun e => ?_⟩
  · rw [if_pos e] at h; exact h
  · rw [if_neg (by rw [e]; decide), if_pos e] at h; exact h
  · rw [if_neg (by rw [e]; decide), if_neg (by rw [e]; decide), if_pos e] at h; exact h
  · rw [if_neg e.1, if_neg e.2.1, if_neg e.2.2] at h; exact h
theorem W_cut9 {v : Int64} {c : Int32} {s : zS} {Q : Int64 → zS → Prop} (h : Q (cutv v c) s) : Wp_X9_cut v c s Q := by
  unfold Wp_X9_cut
  unfold cutv at h
  refine ⟨fun e => ⟨fun e1 => ⟨fun e2 => ?_, fun e2 => ?_⟩, fun e1 => ?_⟩, fun e => ?_⟩
  · rw [if_neg e, if_neg e1, if_neg e2] at h; exact h
  · rw [if_neg e, if_neg e1, if_pos e2] at h; exact h
  · rw [if_neg e, if_pos e1] at h; exact h
  · rw [if_pos e] at h; exact h
theorem S8_write {a b : Int32} {v : Int64} {s : zS} {Q : Int32 → zS → Prop} (hL : L8 s) (h0 : ¬ PO8 s a b → ∀ r : Int32, Q 0 (zsi s 0 0 8 r))
    (h1 : ∀ t i : Nat, t < 4 → i < 60 → a = nI t → b = nI i → PO8 s a b → Q 1 (zsj (zsi s 0 0 8 0) 6 t i (cutv v (zi s 3 0 t)))) : Wp_X8_write a b v s Q := by
  unfold Wp_X8_write
  refine W_place8 hL (fun g r hr => st_of (fun q => absurd q hr) (fun _ => h0 g r)) (fun g => st_of (fun _ => ?_) (fun q => absurd rfl q))
  have g' := g
  obtain ⟨t, i, m, ht, rfl, rfl, hi, hm, em, en⟩ := g
  unfold Wp_X7_put
  have im : vp_in (nI t) 4 := nat_in ht (by omega)
  rw [nI_clamp (by omega), nI_clamp (by omega), zi_sir _ _ _ _ _ _ _ (by omega)]
  refine ⟨im, im, W_cut8 ⟨nat_in (by omega) (by omega), ?_⟩⟩
  rintro _ rfl
  exact h1 t i ht (by omega) rfl rfl g'
theorem S8_read {a b : Int32} {s : zS} {Q : Int64 → zS → Prop} (hL : L8 s) (h0 : ¬ PO8 s a b → ∀ r : Int32, Q (-1) (zsi s 0 0 8 r))
    (h1 : ∀ t i : Nat, t < 4 → i < 60 → a = nI t → b = nI i → PO8 s a b → Q (zj s 6 t i) (zsi s 0 0 8 0)) : Wp_X8_read a b s Q := by
  unfold Wp_X8_read
  refine W_place8 hL (fun g r hr => st_of (fun q => absurd q hr) (fun _ => h0 g r)) (fun g => st_of (fun _ => ?_) (fun q => absurd rfl q))
  have g' := g
  obtain ⟨t, i, m, ht, rfl, rfl, hi, hm, em, en⟩ := g
  rw [nI_clamp (by omega), nI_clamp (by omega), zj_si]
  exact ⟨nat_in ht (by omega), nat_in (by omega) (by omega), h1 t i ht (by omega) rfl rfl g'⟩
theorem at60 {t i : Nat} (h : 60 * t + i < 1000) : (Int32.toNatClampNeg ((60 : Int32) * nI t + nI i)) = 60 * t + i := by rw [n_at60, nI_clamp (by omega)]
/-- is(r): the answer is r = 0, the STATUS r -/
theorem W_is9 {r : Int32} {s : zS} {Q : Int32 → zS → Prop} (h0 : r = 0 → Q 1 (zsi s 54 0 0 r)) (h1 : ¬ r = 0 → Q 0 (zsi s 54 0 0 r)) : Wp_X9_is r s Q := by
  unfold Wp_X9_is
  rintro _ rfl
  exact ⟨h1, h0⟩
theorem S9_write {a b : Int32} {v : Int64} {s : zS} {Q : Int32 → zS → Prop} (hL : L9 s) (h0 : ¬ PO9 s a b → ∀ r : Int32, Q 0 (zsi s 54 0 0 r))
    (h1 : ∀ t i : Nat, t < 4 → i < 60 → a = nI t → b = nI i → PO9 s a b → Q 1 (zsi (zsj s 57 0 (60 * t + i) (cutv v (zi s 55 0 t))) 54 0 0 0)) : Wp_X9_write a b v s Q := by
  unfold Wp_X9_write
  have nz : ∀ r : Int32, 0 < r.toInt → ¬ r = 0 := fun r hr e => by rw [e, it_0] at hr; omega
  refine W_place9 hL (fun g r hr => ⟨fun _ => W_is9 (fun q => absurd q (nz r hr)) (fun _ => h0 g r), fun q => absurd q (nz r hr)⟩) (fun g => ⟨fun q => absurd rfl q, fun _ => ?_⟩)
  have g' := g
  obtain ⟨t, i, m, ht, rfl, rfl, hi, hm, em⟩ := g
  have im : vp_in (nI t) 4 := nat_in ht (by omega)
  rw [at60 (by omega), nI_clamp (by omega), n_at60]
  refine ⟨im, W_cut9 ⟨nat_in (by omega) (by omega), ?_⟩⟩
  rintro _ rfl
  exact W_is9 (fun _ => h1 t i ht (by omega) rfl rfl g') (fun q => absurd rfl q)
theorem S9_read {a b : Int32} {s : zS} {Q : Int64 → zS → Prop} (hL : L9 s) (h0 : ¬ PO9 s a b → ∀ r : Int32, Q (-1) (zsi s 54 0 0 r))
    (h1 : ∀ t i : Nat, t < 4 → i < 60 → a = nI t → b = nI i → PO9 s a b → Q (zj s 57 0 (60 * t + i)) (zsi s 54 0 0 0)) : Wp_X9_read a b s Q := by
  unfold Wp_X9_read
  refine W_place9 hL (fun g r hr => ?_) (fun g => ?_)
  · rintro _ rfl
    rw [zi_si, if_pos ⟨rfl, rfl, rfl⟩]
    refine ⟨fun q => ?_, fun _ => h0 g r⟩
    rw [it_le, it_0] at q
    omega
  · rintro _ rfl
    rw [zi_si, if_pos ⟨rfl, rfl, rfl⟩]
    have g' := g
    obtain ⟨t, i, m, ht, rfl, rfl, hi, hm, em⟩ := g
    rw [at60 (by omega), n_at60, zj_si]
    exact ⟨fun _ => ⟨nat_in (by omega) (by omega), h1 t i ht (by omega) rfl rfl g'⟩, fun q => absurd (Int32.le_refl _) q⟩
/-! ===== pour ===== -/
def QO8 (s : zS) (a b c d e : Int32) : Prop := ∃ t p u q n m1 m2 : Nat, t < 4 ∧ u < 4 ∧ a = nI t ∧ b = nI p ∧ c = nI u ∧ d = nI q ∧ e = nI n ∧ ¬ zi s 3 0 t = -1 ∧ ¬ zi s 3 0 u = -1 ∧ zi s 3 0 t = zi s 3 0 u ∧ zi s 4 0 t = nI m1 ∧ zi s 4 0 u = nI m2 ∧ m1 ≤ 60 ∧ m2 ≤ 60 ∧ p + n ≤ m1 ∧ q + n ≤ m2
def QO9 (s : zS) (a b c d e : Int32) : Prop := ∃ t p u q n m1 m2 : Nat, t < 4 ∧ u < 4 ∧ a = nI t ∧ b = nI p ∧ c = nI u ∧ d = nI q ∧ e = nI n ∧ zi s 55 0 t = zi s 55 0 u ∧ zi s 56 0 t = nI m1 ∧ zi s 56 0 u = nI m2 ∧ m1 ≤ 60 ∧ m2 ≤ 60 ∧ p + n ≤ m1 ∧ q + n ≤ m2
theorem nn {a : Int32} (h : 0 ≤ a.toInt) : ∃ j : Nat, (j : Int) = a.toInt ∧ a = nI j := by
  have h2 := it_hi a
  refine ⟨a.toInt.toNat, by omega, ?_⟩
  apply Int32.toInt_inj.mp
  rw [nI_toInt (by omega)]
  omega
/-- holds(t, p, n) -/
theorem W_holds {t m : Nat} {b e : Int32} {s : zS} {Q : Int32 → zS → Prop} (ht : t < 4) (hm : m ≤ 60) (em : zi s 4 0 t = nI m) (hb : 0 ≤ b.toInt) (he : 0 ≤ e.toInt) (h0 : ¬ b.toInt + e.toInt ≤ m → Q 0 s) (h1 : b.toInt + e.toInt ≤ m → Q 1 s) : Wp_X7_holds (nI t) b e s Q := by
  unfold Wp_X7_holds
  have im : vp_in (nI t) 4 := nat_in ht (by omega)
  have hi := it_hi e
  rw [nI_clamp (by omega), em]
  have e1 : (nI m - e).toInt = (m : Int) - e.toInt := by rw [it_sub (by rw [nI_toInt (by omega)]; omega) (by rw [nI_toInt (by omega)]; omega), nI_toInt (by omega)]
  refine ⟨im, fun g => h0 ?_, fun g => ⟨im, fun g2 => h0 ?_, fun g2 => h1 ?_⟩⟩
  · rw [it_lt, nI_toInt (by omega)] at g; omega
  · rw [it_lt, e1] at g2; omega
  · rw [it_lt, e1] at g2; omega
theorem W_pour8 {a b c d e : Int32} {s : zS} {Q : Int32 → zS → Prop} (hL : L8 s) (h0 : ¬ QO8 s a b c d e → ∀ r : Int32, ¬ r = 0 → Q r s) (h1 : QO8 s a b c d e → Q 0 s) : Wp_X8_pourFault a b c d e s Q := by
  unfold Wp_X8_pourFault
  refine W_isTray (fun g => ⟨fun _ => h0 ?_ 1 one_nz, fun q => absurd rfl q⟩) (fun g1 g2 => ⟨fun q => absurd q one_nz, fun _ => ?_⟩)
  · rintro ⟨t, p, u, q, n, m1, m2, ht, hu, rfl, -⟩
    rw [nI_toInt (by omega)] at g
    omega
  refine W_isTray (fun g => ⟨fun _ => h0 ?_ 1 one_nz, fun q => absurd rfl q⟩) (fun g3 g4 => ⟨fun q => absurd q one_nz, fun _ => ?_⟩)
  · rintro ⟨t, p, u, q, n, m1, m2, ht, hu, -, -, rfl, -⟩
    rw [nI_toInt (by omega)] at g
    omega
  obtain ⟨t, ht, rfl⟩ := n_ofl (n := 4) g1 g2
  obtain ⟨u, hu, rfl⟩ := n_ofl (n := 4) g3 g4
  have neg : ∀ x : Int32, x < 0 → ∀ j : Nat, j ≤ 60 → ¬ x = nI j := by
    intro x hx j hj ex
    rw [ex] at hx
    exact absurd hx (nI_pos (by omega))
  refine ⟨fun g => h0 ?_ 1 one_nz, fun gb => ⟨fun g => h0 ?_ 1 one_nz, fun gd => ⟨fun ge => ?_, fun g => h0 ?_ 1 one_nz⟩⟩⟩
  · rintro ⟨t', p, u', q, n, m1, m2, ht', hu', -, eb, -, -, -, -, -, -, -, -, x1, x2, x3, x4⟩
    exact neg b g p (by omega) eb
  · rintro ⟨t', p, u', q, n, m1, m2, ht', hu', -, -, -, eb, -, -, -, -, -, -, x1, x2, x3, x4⟩
    exact neg d g q (by omega) eb
  · refine W_missing ht (fun et => ⟨fun q => absurd rfl q, fun _ => ?_⟩) (fun et => ⟨fun _ => h0 ?_ 3 (by decide), fun q => absurd q one_nz⟩)
    · refine W_missing hu (fun eu => ⟨fun _ => ?_, fun q => absurd rfl q⟩) (fun eu => ⟨fun q => absurd q one_nz, fun _ => h0 ?_ 3 (by decide)⟩)
      · rw [nI_clamp (by omega), nI_clamp (by omega)]
        refine ⟨nat_in ht (by omega), nat_in hu (by omega), fun es => ?_, fun es => h0 ?_ 8 (by decide)⟩
        · obtain ⟨m1, hm1, em1⟩ := n_of (n := 60) (hL t ht).1 (hL t ht).2
          obtain ⟨m2, hm2, em2⟩ := n_of (n := 60) (hL u hu).1 (hL u hu).2
          rw [it_lt, it_0] at gb gd
          rw [it_le, it_0] at ge
          refine W_holds ht hm1 em1 (by omega) ge (fun g => ⟨fun _ => h0 ?_ 4 (by decide), fun q => absurd rfl q⟩) (fun gh1 => ⟨fun q => absurd q one_nz, fun _ => ?_⟩)
          · rintro ⟨t', p, u', q, n, m1', m2', ht', hu', et', rfl, -, -, rfl, -, -, -, x0, -, x1, x2, x3, x4⟩
            obtain rfl := nI_t (by omega) (by omega) et'
            obtain rfl := nI_t (by omega) (by omega) (em1.symm.trans x0)
            rw [nI_toInt (by omega), nI_toInt (by omega)] at g
            omega
          · refine W_holds hu hm2 em2 (by omega) ge (fun g => ⟨fun _ => h0 ?_ 4 (by decide), fun q => absurd rfl q⟩) (fun gh2 => ⟨fun q => absurd q one_nz, fun _ => h1 ?_⟩)
            · rintro ⟨t', p, u', q, n, m1', m2', ht', hu', -, -, eu', rfl, rfl, -, -, -, -, x0, x1, x2, x3, x4⟩
              obtain rfl := nI_t (by omega) (by omega) eu'
              obtain rfl := nI_t (by omega) (by omega) (em2.symm.trans x0)
              rw [nI_toInt (by omega), nI_toInt (by omega)] at g
              omega
            · obtain ⟨p, hp, ep⟩ := nn (a := b) (by omega)
              obtain ⟨q, hq, eq⟩ := nn (a := d) (by omega)
              obtain ⟨n, hn, en⟩ := nn ge
              exact ⟨t, p, u, q, n, m1, m2, ht, hu, rfl, ep, rfl, eq, en, et, eu, es, em1, em2, hm1, hm2, by omega, by omega⟩
        · rintro ⟨t', p, u', q, n, m1, m2, ht', hu', et', -, eu', -, -, -, -, x, -⟩
          obtain rfl := nI_t (by omega) (by omega) et'
          obtain rfl := nI_t (by omega) (by omega) eu'
          exact es x
      · rintro ⟨t', p, u', q, n, m1, m2, ht', hu', et', -, eu', -, -, -, x, -⟩
        obtain rfl := nI_t (by omega) (by omega) eu'
        exact x eu
    · rintro ⟨t', p, u', q, n, m1, m2, ht', hu', et', -, eu', -, -, x, -⟩
      obtain rfl := nI_t (by omega) (by omega) et'
      exact x et
  · rintro ⟨t', p, u', q, n, m1, m2, ht', hu', -, -, -, -, eb, -, -, -, -, -, x1, x2, x3, x4⟩
    rw [it_le, it_0, eb, nI_toInt (by omega)] at g
    omega
theorem S8_pour {a b c d e : Int32} {s : zS} {Q : Int32 → zS → Prop} (hL : L8 s) (h0 : ¬ QO8 s a b c d e → ∀ r : Int32, Q 0 (zsi s 0 0 8 r))
    (h1 : ∀ t p u q n : Nat, t < 4 → u < 4 → p + n ≤ 60 → q + n ≤ 60 → a = nI t → b = nI p → c = nI u → d = nI q → e = nI n → QO8 s a b c d e → Q 1 (zcj (zsi s 0 0 8 0) 6 u (va_cpy (zj s 6 t) (zj s 6 u) p q n))) : Wp_X8_pour a b c d e s Q := by
  unfold Wp_X8_pour
  refine W_pour8 hL (fun g r hr => st_of (fun q => absurd q hr) (fun _ => h0 g r)) (fun g => st_of (fun _ => ?_) (fun q => absurd rfl q))
  have g' := g
  obtain ⟨t, p, u, q, n, m1, m2, ht, hu, rfl, rfl, rfl, rfl, rfl, x1, x2, x3, x4, x5, x6, x7, x8, x9⟩ := g
  refine ⟨nat_in ht (by omega), nat_in hu (by omega), ⟨⟨nI_pos (by omega), nI_pos (by omega), nI_pos (by omega)⟩, ?_, ?_⟩, ?_⟩
  · rw [nI_clamp (by omega), nI_clamp (by omega)]; omega
  · rw [nI_clamp (by omega), nI_clamp (by omega)]; omega
  · rintro _ rfl
    rw [nI_clamp (by omega), nI_clamp (by omega), nI_clamp (by omega), nI_clamp (by omega), nI_clamp (by omega), zj_si]
    exact h1 t p u q n ht hu (by omega) (by omega) rfl rfl rfl rfl rfl g'
theorem n_sub {a b : Nat} (h : b ≤ a) (ha : a < 1000) : nI a - nI b = nI (a - b) := nI_subN h ha
theorem S9_pour {a b c d e : Int32} {s : zS} {Q : Int32 → zS → Prop} (hL : L9 s) (h0 : ¬ QO9 s a b c d e → ∀ r : Int32, Q 0 (zsi s 54 0 0 r))
    (h1 : ∀ t p u q n : Nat, t < 4 → u < 4 → p + n ≤ 60 → q + n ≤ 60 → a = nI t → b = nI p → c = nI u → d = nI q → e = nI n → QO9 s a b c d e → ∀ s' : zS, (∀ k r, zi s' k r = zi s k r) → (∀ k r, ¬ (k = 57 ∧ r = 0) → zj s' k r = zj s k r) → (∀ j, zj s' 57 0 j = if 60 * u + q ≤ j ∧ j < 60 * u + q + n then zj s 57 0 (60 * t + p + (j - (60 * u + q))) else zj s 57 0 j) → Q 1 (zsi s' 54 0 0 0)) : Wp_X9_pour a b c d e s Q := by
  unfold Wp_X9_pour
  intro P hP
  have ref : ¬ QO9 s a b c d e → ∀ r : Int32, ¬ r = 0 → Wp_X9_is r s (fun r25 s26 => Q r25 s26) := fun g r hr => W_is9 (fun q => absurd q hr) (fun _ => h0 g r)
  have go : ∀ t p u q n : Nat, t < 4 → u < 4 → p + n ≤ 60 → q + n ≤ 60 → a = nI t → b = nI p → c = nI u → d = nI q → e = nI n → QO9 s a b c d e → P 0 s := by
    intro t p u q n ht hu hp hq ea eb ec ed ee g
    have fin : ∀ s' : zS, (∀ k r, zi s' k r = zi s k r) → (∀ k r, ¬ (k = 57 ∧ r = 0) → zj s' k r = zj s k r) → (∀ j, zj s' 57 0 j = if 60 * u + q ≤ j ∧ j < 60 * u + q + n then zj s 57 0 (60 * t + p + (j - (60 * u + q))) else zj s 57 0 j) → Wp_X9_is 0 s' (fun r25 s26 => Q r25 s26) := fun s' z1 z2 z3 => W_is9 (fun _ => h1 t p u q n ht hu hp hq ea eb ec ed ee g s' z1 z2 z3) (fun x => absurd rfl x)
    subst ea; subst eb; subst ec; subst ed; subst ee
    by_cases hle : q ≤ p
    · have key : ∀ (m i : Nat) (s' : zS), i + m = n → (∀ k r, zi s' k r = zi s k r) → (∀ k r, ¬ (k = 57 ∧ r = 0) → zj s' k r = zj s k r) → (∀ j, zj s' 57 0 j = if 60 * u + q ≤ j ∧ j < 60 * u + q + i then zj s 57 0 (60 * t + p + (j - (60 * u + q))) else zj s 57 0 j) → P (nI i) s' := by
        intro m
        induction m with
        | zero =>
          intro i s' hi z1 z2 z3
          apply hP
          obtain rfl : i = n := by omega
          exact ⟨fun _ => fin s' z1 z2 z3, fun x => absurd (Int32.le_refl _) x⟩
        | succ m ih =>
          intro i s' hi z1 z2 z3
          apply hP
          refine ⟨fun x => absurd x (nI_ge (by omega) (by omega)), fun _ => ⟨fun _ => ?_, fun x => absurd (nI_le hle (by omega)) x⟩⟩
          rw [n_at60, n_at60, nI_add, nI_add, nI_clamp (by omega), nI_clamp (by omega)]
          refine ⟨nat_in (by omega) (by omega), nat_in (by omega) (by omega), ?_⟩
          rintro _ rfl
          rw [nI_1]
          refine ih (i + 1) _ (by omega) (fun k r => by rw [zi_sj]; exact z1 k r) (fun k r hk => by rw [zj_sjr _ _ _ _ _ _ _ hk]; exact z2 k r hk) (fun j => ?_)
          have src : zj s' 57 0 (60 * t + p + i) = zj s 57 0 (60 * t + p + i) := by
            rw [z3, if_neg (by omega)]
          rw [zj_sj, src]
          by_cases ej : j = 60 * u + q + i
          · rw [if_pos ⟨rfl, rfl, ej⟩, if_pos (by omega), ej]
            congr 1
            omega
          · rw [if_neg (fun x => ej x.2.2), z3]
            by_cases e2 : 60 * u + q ≤ j ∧ j < 60 * u + q + i
            · rw [if_pos e2, if_pos (by omega)]
            · rw [if_neg e2, if_neg (by omega)]
      exact key n 0 s (by omega) (fun _ _ => rfl) (fun _ _ _ => rfl) (fun j => by rw [if_neg (by omega)])
    · have key : ∀ (m i : Nat) (s' : zS), i + m = n → (∀ k r, zi s' k r = zi s k r) → (∀ k r, ¬ (k = 57 ∧ r = 0) → zj s' k r = zj s k r) → (∀ j, zj s' 57 0 j = if 60 * u + q + (n - i) ≤ j ∧ j < 60 * u + q + n then zj s 57 0 (60 * t + p + (j - (60 * u + q))) else zj s 57 0 j) → P (nI i) s' := by
        intro m
        induction m with
        | zero =>
          intro i s' hi z1 z2 z3
          apply hP
          obtain rfl : i = n := by omega
          refine ⟨fun _ => fin s' z1 z2 (fun j => ?_), fun x => absurd (Int32.le_refl _) x⟩
          rw [z3]
          have : 60 * u + q + (i - i) = 60 * u + q := by omega
          rw [this]
        | succ m ih =>
          intro i s' hi z1 z2 z3
          apply hP
          refine ⟨fun x => absurd x (nI_ge (by omega) (by omega)), fun _ => ⟨fun x => absurd x (nI_ge (by omega) (by omega)), fun _ => ?_⟩⟩
          have ex : nI n - 1 - nI i = nI (n - 1 - i) := by
            rw [show (1 : Int32) = nI 1 from rfl, nI_subN (by omega) (by omega), nI_subN (by omega) (by omega)]
          rintro _ rfl
          rw [ex, n_at60, n_at60, nI_add, nI_add, nI_clamp (by omega), nI_clamp (by omega)]
          refine ⟨nat_in (by omega) (by omega), nat_in (by omega) (by omega), ?_⟩
          rintro _ rfl
          rw [nI_1]
          refine ih (i + 1) _ (by omega) (fun k r => by rw [zi_sj]; exact z1 k r) (fun k r hk => by rw [zj_sjr _ _ _ _ _ _ _ hk]; exact z2 k r hk) (fun j => ?_)
          have src : zj s' 57 0 (60 * t + p + (n - 1 - i)) = zj s 57 0 (60 * t + p + (n - 1 - i)) := by
            rw [z3, if_neg (by omega)]
          rw [zj_sj, src]
          by_cases ej : j = 60 * u + q + (n - 1 - i)
          · rw [if_pos ⟨rfl, rfl, ej⟩, if_pos (by omega), ej]
            congr 1
            omega
          · rw [if_neg (fun x => ej x.2.2), z3]
            by_cases e2 : 60 * u + q + (n - i) ≤ j ∧ j < 60 * u + q + n
            · rw [if_pos e2, if_pos (by omega)]
            · rw [if_neg e2, if_neg (by omega)]
      exact key n 0 s (by omega) (fun _ _ => rfl) (fun _ _ _ => rfl) (fun j => by rw [if_neg (by omega)])
  unfold Wp_X9_isTray
  have neg : ∀ x : Int32, x.toInt < 0 → ∀ j : Nat, j ≤ 60 → ¬ x = nI j := by
    intro x hx j hj ex
    rw [ex, nI_toInt (by omega)] at hx
    omega
  have outa : ¬ (0 ≤ a.toInt ∧ a.toInt < 4) → ¬ QO9 s a b c d e := by
    rintro g ⟨t, p, u, q, n, m1, m2, ht, hu, rfl, -⟩
    rw [nI_toInt (by omega)] at g
    omega
  have outc : ¬ (0 ≤ c.toInt ∧ c.toInt < 4) → ¬ QO9 s a b c d e := by
    rintro g ⟨t, p, u, q, n, m1, m2, ht, hu, -, -, rfl, -⟩
    rw [nI_toInt (by omega)] at g
    omega
  refine ⟨fun g => ⟨fun _ => ref (outa ?_) 1 one_nz, fun q => absurd rfl q⟩, fun g1 => ⟨fun g => ⟨fun _ => ref (outa ?_) 1 one_nz, fun q => absurd rfl q⟩, fun g2 => ⟨fun q => absurd q one_nz, fun _ => ⟨fun g => ⟨fun _ => ref (outc ?_) 1 one_nz, fun q => absurd rfl q⟩, fun g3 => ⟨fun g => ⟨fun _ => ref (outc ?_) 1 one_nz, fun q => absurd rfl q⟩, fun g4 => ⟨fun q => absurd q one_nz, fun _ => ?_⟩⟩⟩⟩⟩⟩
  · rw [it_lt, it_0] at g; omega
  · rw [it_le, it_4] at g; omega
  · rw [it_lt, it_0] at g; omega
  · rw [it_le, it_4] at g; omega
  rw [it_lt, it_0] at g1 g3
  rw [it_le, it_4] at g2 g4
  obtain ⟨t, ht, ea⟩ := n_ofl (a := a) (n := 4) (by omega) (by omega)
  obtain ⟨u, hu, ec⟩ := n_ofl (a := c) (n := 4) (by omega) (by omega)
  have it' : vp_in a 4 := in_of (by omega) (by omega)
  have iu' : vp_in c 4 := in_of (by omega) (by omega)
  have ct : Int32.toNatClampNeg a = t := by rw [ea, nI_clamp (by omega)]
  have cu : Int32.toNatClampNeg c = u := by rw [ec, nI_clamp (by omega)]
  rw [ct, cu]
  refine ⟨fun g => ref ?_ 1 one_nz, fun gb => ⟨fun g => ref ?_ 1 one_nz, fun gd => ⟨fun ge => ⟨it', fun et => ref ?_ 3 (by decide), fun et => ⟨iu', fun eu => ⟨it', iu', fun es => ?_, fun es => ref ?_ 8 (by decide)⟩, fun eu => ref ?_ 3 (by decide)⟩⟩, fun g => ref ?_ 1 one_nz⟩⟩⟩
  · rintro ⟨t', p, u', q, n, m1, m2, ht', hu', -, eb, -, -, -, -, -, -, x1, x2, x3, x4⟩
    rw [it_lt, it_0] at g
    exact neg b g p (by omega) eb
  · rintro ⟨t', p, u', q, n, m1, m2, ht', hu', -, -, -, eb, -, -, -, -, x1, x2, x3, x4⟩
    rw [it_lt, it_0] at g
    exact neg d g q (by omega) eb
  · rintro ⟨t', p, u', q, n, m1, m2, ht', hu', et', -, eu', -, -, -, x, -, x1, -⟩
    obtain rfl := nI_t (by omega) (by omega) (ea.symm.trans et')
    exact m1_no2 (by omega) (et.symm.trans x)
  · rw [it_lt, it_0] at gb gd
    rw [it_le, it_0] at ge
    obtain ⟨m1, hm1, em1⟩ : ∃ m : Nat, m ≤ 60 ∧ zi s 56 0 t = nI m := by
      rcases hL t ht with x | x
      · exact absurd x et
      · exact n_of x.1 x.2
    obtain ⟨m2, hm2, em2⟩ : ∃ m : Nat, m ≤ 60 ∧ zi s 56 0 u = nI m := by
      rcases hL u hu with x | x
      · exact absurd x eu
      · exact n_of x.1 x.2
    have hib := it_hi b
    have hid := it_hi d
    have e1 : (nI m1 - b).toInt = (m1 : Int) - b.toInt := by rw [it_sub (by rw [nI_toInt (by omega)]; omega) (by rw [nI_toInt (by omega)]; omega), nI_toInt (by omega)]
    have e2 : (nI m2 - d).toInt = (m2 : Int) - d.toInt := by rw [it_sub (by rw [nI_toInt (by omega)]; omega) (by rw [nI_toInt (by omega)]; omega), nI_toInt (by omega)]
    rw [em1, em2]
    refine ⟨it', fun g => ref ?_ 4 (by decide), fun g5 => ⟨iu', fun g6 => ?_, fun g => ref ?_ 4 (by decide)⟩⟩
    · rintro ⟨t', p, u', q, n, m1', m2', ht', hu', et', eb, -, -, en, -, x0, -, x1, x2, x3, x4⟩
      obtain rfl := nI_t (by omega) (by omega) (ea.symm.trans et')
      obtain rfl := nI_t (by omega) (by omega) (em1.symm.trans x0)
      rw [it_lt, e1, eb, en, nI_toInt (by omega), nI_toInt (by omega)] at g
      omega
    · rw [it_lt, e1] at g5
      rw [it_le, e2] at g6
      obtain ⟨p, hp, ep⟩ := nn (a := b) (by omega)
      obtain ⟨q, hq, eq⟩ := nn (a := d) (by omega)
      obtain ⟨n, hn, en⟩ := nn ge
      exact go t p u q n ht hu (by omega) (by omega) ea ep ec eq en ⟨t, p, u, q, n, m1, m2, ht, hu, ea, ep, ec, eq, en, es, em1, em2, hm1, hm2, by omega, by omega⟩
    · rintro ⟨t', p, u', q, n, m1', m2', ht', hu', -, -, eu', ed, en, -, -, x0, x1, x2, x3, x4⟩
      obtain rfl := nI_t (by omega) (by omega) (ec.symm.trans eu')
      obtain rfl := nI_t (by omega) (by omega) (em2.symm.trans x0)
      rw [it_le, e2, ed, en, nI_toInt (by omega), nI_toInt (by omega)] at g
      omega
  · rintro ⟨t', p, u', q, n, m1, m2, ht', hu', et', -, eu', -, -, x, -⟩
    obtain rfl := nI_t (by omega) (by omega) (ea.symm.trans et')
    obtain rfl := nI_t (by omega) (by omega) (ec.symm.trans eu')
    exact es x
  · rintro ⟨t', p, u', q, n, m1, m2, ht', hu', et', -, eu', -, -, -, -, x, x1, x2, -⟩
    obtain rfl := nI_t (by omega) (by omega) (ec.symm.trans eu')
    exact m1_no2 (by omega) (eu.symm.trans x)
  · rintro ⟨t', p, u', q, n, m1, m2, ht', hu', -, -, -, -, en, -, -, -, x1, x2, x3, x4⟩
    rw [it_le, it_0, en, nI_toInt (by omega)] at g
    omega

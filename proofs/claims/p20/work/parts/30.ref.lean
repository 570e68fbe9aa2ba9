/-! ===== what always holds of the reference's cells ===== -/
def zB9 (s : zS) : Int := (zi s 54 0 7).toInt
def zL9 (s : zS) : Int := (zi s 54 0 34).toInt
def T9 (s : zS) : Prop := 0 ≤ (zi s 54 0 6).toInt ∧ (zi s 54 0 6).toInt ≤ 10
def B9 (s : zS) : Prop := (0 ≤ zB9 s ∧ zB9 s ≤ 60) ∧ ∀ b : Nat, (b : Int) < zB9 s → (0 ≤ (zi s 63 0 b).toInt ∧ (zi s 63 0 b).toInt < 10) ∧ (0 ≤ (zi s 64 0 b).toInt ∧ (zi s 64 0 b).toInt < 10) ∧ (zi s 65 0 b = 1 → 0 ≤ (zi s 67 0 b).toInt ∧ (zi s 67 0 b).toInt < zL9 s)
def S9L (s : zS) : Prop := (0 ≤ zL9 s ∧ zL9 s ≤ 40) ∧ ∀ l : Nat, (l : Int) < zL9 s → 0 ≤ (zi s 76 0 l).toInt ∧ (zi s 76 0 l).toInt ≤ 40
def R9 (s : zS) : Prop := ∀ t : Nat, t < 10 → (0 ≤ (zi s 83 0 t).toInt ∧ (zi s 83 0 t).toInt ≤ 10) ∧ ∀ i : Nat, (i : Int) + 1 < (zi s 83 0 t).toInt → (zi s 85 0 (10 * t + i)).toInt < (zi s 85 0 (10 * t + i + 1)).toInt
def MI (s : zS) : Prop := T9 s ∧ B9 s ∧ S9L s ∧ R9 s ∧ L9 s
/-- kinds of the reference's arrays that MI does not speak of, and that are not compared -/
def KM (k : Nat) : Prop := (58 ≤ k ∧ k ≤ 62) ∨ k = 66 ∨ (68 ≤ k ∧ k ≤ 75) ∨ (77 ≤ k ∧ k ≤ 82) ∨ k = 84
/-- one of the three numbers of the object that count -/
def C3 (i : Nat) : Prop := i = 6 ∨ i = 7 ∨ i = 34
def mfx (s s' : zS) : Prop := zfx (fun k => KM k ∨ k = 54) s s' ∧ ∀ i, C3 i → zi s' 54 0 i = zi s 54 0 i
theorem mfx_rf {s : zS} : mfx s s := ⟨zfx_rf, fun _ _ => rfl⟩
theorem mfx_tr {s s1 s2 : zS} (h1 : mfx s s1) (h2 : mfx s1 s2) : mfx s s2 := ⟨zfx_tr h1.1 h2.1, fun i hi => (h2.2 i hi).trans (h1.2 i hi)⟩
theorem KM_54 {k : Nat} (h : KM k) : ¬ k = 54 := by unfold KM at h; omega
theorem mfx_si {s s' : zS} {k r i : Nat} {v : Int32} (h : mfx s s') (hk : KM k) : mfx s (zsi s' k r i v) :=
  ⟨zfx_si h.1 (Or.inl hk), fun j hj => by rw [zi_sir _ _ _ _ _ _ _ (fun q => KM_54 hk q.1.symm)]; exact h.2 j hj⟩
theorem mfx_54 {s s' : zS} {i : Nat} {v : Int32} (h : mfx s s') (hi : ¬ C3 i) : mfx s (zsi s' 54 0 i v) :=
  ⟨zfx_si h.1 (Or.inr rfl), fun j hj => by rw [zi_si, if_neg (fun q : 54 = 54 ∧ 0 = 0 ∧ j = i => hi (q.2.2 ▸ hj))]; exact h.2 j hj⟩
theorem mfx_sj {s s' : zS} {k r i : Nat} {v : Int64} (h : mfx s s') (hk : KM k ∨ k = 54) : mfx s (zsj s' k r i v) :=
  ⟨zfx_sj h.1 hk, fun j hj => by rw [zi_sj]; exact h.2 j hj⟩
theorem mfx_zf {K : Nat → Prop} {s s' s2 : zS} (h : mfx s s') (hz : zfx K s' s2) (hk : ∀ k, K k → KM k) : mfx s s2 :=
  ⟨zfx_tr h.1 (zfx_mo hz (fun k q => Or.inl (hk k q))), fun j hj => by
    rw [(hz 54 (fun q => KM_54 (hk 54 q) rfl) 0).1]
    exact h.2 j hj⟩
theorem c0 : ¬ C3 0 := by unfold C3; omega
theorem s09 {s : zS} {v : Int32} : mfx s (zsi s 54 0 0 v) := mfx_54 mfx_rf c0
theorem MI_fx {s s' : zS} (h : MI s) (hf : mfx s s') : MI s' := by
  have hk : ∀ k, (k = 56 ∨ k = 63 ∨ k = 64 ∨ k = 65 ∨ k = 67 ∨ k = 76 ∨ k = 83 ∨ k = 85) → zi s' k 0 = zi s k 0 := fun k hk => (hf.1 k (fun q => by unfold KM at q; omega) 0).1
  have h6 := hf.2 6 (by unfold C3; omega)
  have h7 := hf.2 7 (by unfold C3; omega)
  have h34 := hf.2 34 (by unfold C3; omega)
  unfold MI T9 B9 S9L R9 L9 zB9 zL9 at h ⊢
  rw [hk 56 (by omega), hk 63 (by omega), hk 64 (by omega), hk 65 (by omega), hk 67 (by omega), hk 76 (by omega), hk 83 (by omega), hk 85 (by omega), h6, h7, h34]
  exact h
/-- what a call of the reference may change of what is compared: nothing -/
def MF (s s' : zS) : Prop := zfx (fun k => 54 ≤ k ∧ ¬ (k = 55 ∨ k = 56 ∨ k = 57)) s s' ∧ zi s' 54 0 6 = zi s 54 0 6 ∧ zi s' 54 0 7 = zi s 54 0 7
theorem MF_of {s s' : zS} (h : mfx s s') : MF s s' := ⟨zfx_mo h.1 (fun k hk => by unfold KM at hk; omega), h.2 6 (by unfold C3; omega), h.2 7 (by unfold C3; omega)⟩
theorem fin9 {s s' : zS} {r : Int32} {Q : Int32 → zS → Prop} (h : MI s) (hQ : ∀ (r : Int32) (s' : zS), MI s' → MF s s' → Q r s') (hf : mfx s s') : Q r s' := hQ r s' (MI_fx h hf) (MF_of hf)
theorem isq {s s' : zS} {r : Int32} {Q : Int32 → zS → Prop} (h : MI s) (hQ : ∀ (r : Int32) (s' : zS), MI s' → MF s s' → Q r s') (hf : mfx s s') : Wp_X9_is r s' (fun r1 s1 => Q r1 s1) :=
  W_is9 (fun _ => fin9 h hQ (mfx_54 hf c0)) (fun _ => fin9 h hQ (mfx_54 hf c0))
theorem W_ref9 {s : zS} {r : Int32} {Q : Int32 → zS → Prop} (h : Q (-1) (zsi s 54 0 0 r)) : Wp_X9_refuse r s Q := by
  unfold Wp_X9_refuse
  rintro _ rfl
  exact h
theorem rfq {s s' : zS} {r : Int32} {Q : Int32 → zS → Prop} (h : MI s) (hQ : ∀ (r : Int32) (s' : zS), MI s' → MF s s' → Q r s') (hf : mfx s s') : Wp_X9_refuse r s' (fun r1 s1 => Q r1 s1) := W_ref9 (fin9 h hQ (mfx_54 hf c0))
theorem W_tn {a : Int32} {s : zS} {Q : Int32 → zS → Prop} (hT : T9 s) (h0 : ¬ (0 ≤ a.toInt ∧ a.toInt < (zi s 54 0 6).toInt) → Q 0 s) (h1 : 0 ≤ a.toInt → a.toInt < (zi s 54 0 6).toInt → a.toInt < 10 → Q 1 s) : Wp_X9_isTown a s Q := by
  unfold Wp_X9_isTown
  unfold T9 at hT
  simp only [it_lt, it_le, it_0]
  exact ⟨fun g => h0 (by omega), fun g1 => ⟨fun g => h0 (by omega), fun g2 => h1 (by omega) (by omega) (by omega)⟩⟩
theorem W_bd {a : Int32} {s : zS} {Q : Int32 → zS → Prop} (hB : B9 s) (h0 : Q 0 s) (h1 : 0 ≤ a.toInt → a.toInt < zB9 s → a.toInt < 60 → Q 1 s) : Wp_X9_isBird a s Q := by
  unfold Wp_X9_isBird
  have hb := hB.1
  unfold zB9 at *
  simp only [it_lt, it_le, it_0]
  exact ⟨fun g => h0, fun g1 => ⟨fun g => h0, fun g2 => h1 (by omega) (by omega) (by omega)⟩⟩
theorem W_lt {a : Int32} {s : zS} {Q : Int32 → zS → Prop} (hB : S9L s) (h0 : Q 0 s) (h1 : 0 ≤ a.toInt → a.toInt < zL9 s → a.toInt < 40 → Q 1 s) : Wp_X9_isLetter a s Q := by
  unfold Wp_X9_isLetter
  have hb := hB.1
  unfold zL9 at *
  simp only [it_lt, it_le, it_0]
  exact ⟨fun g => h0, fun g1 => ⟨fun g => h0, fun g2 => h1 (by omega) (by omega) (by omega)⟩⟩
theorem W_mn {a : Int32} {s : zS} {Q : Int32 → zS → Prop} (h0 : Q 0 s) (h1 : Q 1 s) : Wp_X9_isMinute a s Q := by
  unfold Wp_X9_isMinute
  exact ⟨fun _ => h0, fun _ => ⟨fun _ => h0, fun _ => h1⟩⟩
theorem W_sh {a b : Int32} {s : zS} {Q : Int32 → zS → Prop} (h0 : Q 0 s) (h1 : Q 1 s) : Wp_X9_isShare a b s Q := by
  unfold Wp_X9_isShare
  exact ⟨fun _ => h0, fun _ => ⟨fun _ => h0, fun _ => ⟨fun _ => h0, fun _ => ⟨fun _ => h0, fun _ => h1⟩⟩⟩⟩
theorem in_at {a b : Int32} (ha : 0 ≤ a.toInt) (ha2 : a.toInt < 10) (hb : 0 ≤ b.toInt) (hb2 : b.toInt < 10) : vp_in ((10 : Int32) * a + b) 100 := by
  obtain ⟨i, hi, rfl⟩ := n_ofl (a := a) (n := 10) ha ha2
  obtain ⟨j, hj, rfl⟩ := n_ofl (a := b) (n := 10) hb hb2
  rw [n_at]
  exact nat_in (by omega) (by omega)
theorem km (k : Nat) (h : (58 ≤ k ∧ k ≤ 62) ∨ k = 66 ∨ (68 ≤ k ∧ k ≤ 75) ∨ (77 ≤ k ∧ k ≤ 82) ∨ k = 84) : KM k := h
theorem nz1 {F : Prop} : (1 : Int32) = 0 → F := fun q => absurd q one_nz
theorem nz0 {F : Prop} : ¬ (0 : Int32) = 0 → F := fun q => absurd rfl q
/-! ===== straight ones ===== -/
theorem S9_road {a b c d : Int32} {s : zS} {Q : Int32 → zS → Prop} (h : MI s) (hQ : ∀ (r : Int32) (s' : zS), MI s' → MF s s' → Q r s') : Wp_X9_road a b c d s Q := by
  unfold Wp_X9_road Wp_X9_at
  have bad : ∀ r : Int32, Wp_X9_is r s (fun r1 s1 => Q r1 s1) := fun r => isq h hQ mfx_rf
  have k58 : KM 58 := km 58 (by omega)
  have k59 : KM 59 := km 59 (by omega)
  refine W_tn h.1 (fun _ => ⟨fun _ => bad 1, nz0⟩) (fun g1 g2 g3 => ⟨nz1, fun _ => ?_⟩)
  refine W_tn h.1 (fun _ => ⟨fun _ => bad 1, nz0⟩) (fun g4 g5 g6 => ⟨nz1, fun _ => ?_⟩)
  have iab := in_at g1 g3 g4 g6
  have iba := in_at g4 g6 g1 g3
  refine ⟨fun _ => ⟨fun _ => ⟨fun _ => bad 1, fun _ => ⟨fun _ => bad 1, fun _ => ⟨fun _ => bad 1, fun _ => ⟨fun _ => ⟨iab, ?_⟩, fun _ => bad 1⟩⟩⟩⟩, fun _ => ⟨iab, fun _ => ⟨iab, ?_⟩, fun _ => bad 6⟩⟩, fun _ => bad 1⟩
  · rintro _ rfl
    refine ⟨iba, ?_⟩
    rintro _ rfl
    refine ⟨iab, ?_⟩
    rintro _ rfl
    refine ⟨iba, ?_⟩
    rintro _ rfl
    exact isq h hQ (mfx_si (mfx_si (mfx_si (mfx_si mfx_rf k58) k58) k59) k59)
  · rintro _ rfl
    refine ⟨iba, ?_⟩
    rintro _ rfl
    exact isq h hQ (mfx_si (mfx_si mfx_rf k58) k58)
/-- the same TWO TOWNS, of the reference -/
def Two9 (s : zS) (a b : Int32) : Prop := 0 ≤ a.toInt ∧ a.toInt < (zi s 54 0 6).toInt ∧ 0 ≤ b.toInt ∧ b.toInt < (zi s 54 0 6).toInt ∧ ¬ a = b
theorem S9_fare {a b c : Int32} {s : zS} {Q : Int32 → zS → Prop} (h : MI s) (h0 : ¬ (Two9 s a b ∧ 0 ≤ c.toInt ∧ c.toInt ≤ 1000) → ∀ s' : zS, MI s' → MF s s' → Q 0 s') (h1 : (Two9 s a b ∧ 0 ≤ c.toInt ∧ c.toInt ≤ 1000) → ∀ s' : zS, MI s' → MF s s' → Q 1 s') : Wp_X9_fare a b c s Q := by
  unfold Wp_X9_fare Wp_X9_at
  have bad : ¬ (Two9 s a b ∧ 0 ≤ c.toInt ∧ c.toInt ≤ 1000) → Wp_X9_is 1 s (fun r1 s1 => Q r1 s1) := fun g => W_is9 nz1 (fun _ => h0 g _ (MI_fx h s09) (MF_of s09))
  refine W_tn h.1 (fun g => ⟨fun _ => bad (fun q => g ⟨q.1.1, q.1.2.1⟩), nz0⟩) (fun g1 g2 g3 => ⟨nz1, fun _ => ?_⟩)
  refine W_tn h.1 (fun g => ⟨fun _ => bad (fun q => g ⟨q.1.2.2.1, q.1.2.2.2.1⟩), nz0⟩) (fun g4 g5 g6 => ⟨nz1, fun _ => ?_⟩)
  have iab := in_at g1 g3 g4 g6
  refine ⟨fun e => bad (fun q => q.1.2.2.2.2 e), fun ne => ⟨fun g => bad (fun q => ?_), fun g7 => ⟨fun g8 => ⟨iab, ?_⟩, fun g => bad (fun q => ?_)⟩⟩⟩
  · rw [it_lt, it_0] at g
    omega
  · rintro _ rfl
    rw [it_lt, it_0] at g7
    rw [it_le] at g8
    have hf : mfx s (zsi (zsi s 60 0 (Int32.toNatClampNeg (10 * a + b)) c) 54 0 0 0) := mfx_54 (mfx_si mfx_rf (km 60 (by omega))) c0
    exact W_is9 (fun _ => h1 ⟨⟨g1, g2, g4, g5, ne⟩, by omega, g8⟩ _ (MI_fx h hf) (MF_of hf)) nz0
  · rw [it_le] at g
    exact g q.2.2
theorem S9_want {a b c d : Int32} {s : zS} {Q : Int32 → zS → Prop} (h : MI s) (h0 : ¬ (Two9 s a b ∧ 0 ≤ c.toInt ∧ c.toInt ≤ 20 ∧ 1 ≤ d.toInt ∧ d.toInt ≤ 100) → ∀ s' : zS, MI s' → MF s s' → Q 0 s') (h1 : (Two9 s a b ∧ 0 ≤ c.toInt ∧ c.toInt ≤ 20 ∧ 1 ≤ d.toInt ∧ d.toInt ≤ 100) → ∀ s' : zS, MI s' → MF s s' → Q 1 s') : Wp_X9_want a b c d s Q := by
  unfold Wp_X9_want Wp_X9_at
  have bad : ¬ (Two9 s a b ∧ 0 ≤ c.toInt ∧ c.toInt ≤ 20 ∧ 1 ≤ d.toInt ∧ d.toInt ≤ 100) → Wp_X9_is 1 s (fun r1 s1 => Q r1 s1) := fun g => W_is9 nz1 (fun _ => h0 g _ (MI_fx h s09) (MF_of s09))
  refine W_tn h.1 (fun g => ⟨fun _ => bad (fun q => g ⟨q.1.1, q.1.2.1⟩), nz0⟩) (fun g1 g2 g3 => ⟨nz1, fun _ => ?_⟩)
  refine W_tn h.1 (fun g => ⟨fun _ => bad (fun q => g ⟨q.1.2.2.1, q.1.2.2.2.1⟩), nz0⟩) (fun g4 g5 g6 => ⟨nz1, fun _ => ?_⟩)
  have iab := in_at g1 g3 g4 g6
  refine ⟨fun e => bad (fun q => q.1.2.2.2.2 e), fun ne => ⟨fun g => bad (fun q => ?_), fun g7 => ⟨fun g => bad (fun q => ?_), fun g8 => ⟨fun g => bad (fun q => ?_), fun g9 => ⟨fun g10 => ⟨iab, ?_⟩, fun g => bad (fun q => ?_)⟩⟩⟩⟩⟩
  · rw [it_lt, it_0] at g
    omega
  · rw [it_lt] at g
    have e : (20 : Int32).toInt = 20 := rfl
    omega
  · rw [it_lt, it_1] at g
    omega
  · rintro _ rfl
    refine ⟨iab, ?_⟩
    rintro _ rfl
    rw [it_lt, it_0] at g7
    rw [it_lt] at g8
    rw [it_lt, it_1] at g9
    rw [it_le] at g10
    have e : (20 : Int32).toInt = 20 := rfl
    have hf : mfx s (zsi (zsi (zsi s 61 0 (Int32.toNatClampNeg (10 * a + b)) c) 62 0 (Int32.toNatClampNeg (10 * a + b)) d) 54 0 0 0) := mfx_54 (mfx_si (mfx_si mfx_rf (km 61 (by omega))) (km 62 (by omega))) c0
    exact W_is9 (fun _ => h1 ⟨⟨g1, g2, g4, g5, ne⟩, by omega, by omega, by omega, g10⟩ _ (MI_fx h hf) (MF_of hf)) nz0
  · rw [it_le] at g
    exact g q.2.2.2.2
theorem S9_told {a b : Int32} {s : zS} {Q : Int32 → zS → Prop} (h : MI s) (hQ : ∀ (r : Int32) (s' : zS), MI s' → MF s s' → Q r s') : Wp_X9_told a b s Q := by
  unfold Wp_X9_told
  have bad : ∀ r : Int32, Wp_X9_refuse r s (fun r1 s1 => Q r1 s1) := fun r => rfq h hQ mfx_rf
  refine W_bd h.2.1 ⟨fun _ => bad 1, nz0⟩ (fun g1 g2 g3 => ⟨nz1, fun _ => ⟨fun _ => bad 1, fun _ => ⟨fun _ => ?_, fun _ => bad 1⟩⟩⟩)
  rintro _ rfl
  have ia : vp_in a 60 := in_of g1 g3
  have fin : ∀ r : Int32, Q r (zsi s 54 0 0 0) := fun r => fin9 h hQ s09
  exact ⟨fun _ => ⟨ia, fin _⟩, fun _ => ⟨ia, fun _ => fin _, fun _ => ⟨ia, fin _⟩⟩, fun _ => ⟨ia, fin _⟩, fun _ => ⟨ia, fin _⟩, fun _ => ⟨ia, fun _ => fin _, fun _ => ⟨ia, fin _⟩⟩⟩
/-! ===== counting, of the reference ===== -/
def cnM (h st w : Nat → Int32) (a b : Int32) : Nat → Nat
  | 0 => 0
  | n + 1 => cnM h st w a b n + if h n = a ∧ st n = 0 ∧ w n = b then 1 else 0
theorem cnM_le (h st w : Nat → Int32) (a b : Int32) : ∀ n, cnM h st w a b n ≤ n
  | 0 => Nat.le_refl 0
  | n + 1 => by
    have := cnM_le h st w a b n
    unfold cnM
    split <;> omega
def cM (s : zS) (a b : Int32) : Nat := cnM (zi s 63 0) (zi s 65 0) (zi s 64 0) a b (zB9 s).toNat
theorem cM_le {s : zS} (h : B9 s) (a b : Int32) : cM s a b ≤ 60 := by
  have := cnM_le (zi s 63 0) (zi s 65 0) (zi s 64 0) a b (zB9 s).toNat
  have := h.1
  unfold cM
  omega
theorem W_count9 {a b : Int32} {s : zS} {Q : Int32 → zS → Prop} (hB : B9 s) (hQ : Q (nI (cM s a b)) s) : Wp_X9_count a b s Q := by
  unfold Wp_X9_count
  intro P hP
  obtain ⟨N, hN, eN⟩ := n_of (a := zi s 54 0 7) (n := 60) hB.1.1 hB.1.2
  have eB : (zB9 s).toNat = N := by unfold zB9; rw [eN, nI_toInt (by omega)]; omega
  unfold cM at hQ
  rw [eB] at hQ
  have key : ∀ (n i : Nat), i + n = N → P (nI (cnM (zi s 63 0) (zi s 65 0) (zi s 64 0) a b i)) (nI i) s := by
    intro n
    induction n with
    | zero =>
      intro i hi
      apply hP
      obtain rfl : i = N := by omega
      rw [eN]
      exact ⟨fun _ => hQ, fun g => absurd (Int32.le_refl _) g⟩
    | succ n ih =>
      intro i hi
      apply hP
      rw [eN]
      have ii : vp_in (nI i) 60 := nat_in (by omega) (by omega)
      have nx := ih (i + 1) (by omega)
      rw [nI_clamp (by omega)]
      have off : ¬ (zi s 63 0 i = a ∧ zi s 65 0 i = 0 ∧ zi s 64 0 i = b) → P (nI (cnM (zi s 63 0) (zi s 65 0) (zi s 64 0) a b i)) (nI i + 1) s := by
        intro q
        unfold cnM at nx
        rw [if_neg q, Nat.add_zero] at nx
        rw [nI_1]
        exact nx
      refine ⟨fun g => absurd g (nI_ge (by omega) (by omega)), fun _ => ⟨ii, fun e1 => ?_, fun e1 => ⟨ii, fun e2 => ?_, fun e2 => ⟨ii, fun e3 => ?_, fun e3 => ?_⟩⟩⟩⟩
      · rintro _ rfl
        rw [Int32.add_zero]
        exact off (fun q => e1 q.1)
      · rintro _ rfl
        rw [Int32.add_zero]
        exact off (fun q => e2 q.2.1)
      · rintro _ rfl
        rw [Int32.add_zero]
        exact off (fun q => e3 q.2.2)
      · rintro _ rfl
        unfold cnM at nx
        rw [if_pos ⟨e1, e2, e3⟩] at nx
        rw [nI_1, nI_1]
        exact nx
  exact key N 0 (by omega)
theorem S9_waits {a b : Int32} {s : zS} {Q : Int32 → zS → Prop} (h : MI s) (hQ : ∀ (r : Int32) (s' : zS), MI s' → MF s s' → Q r s') : Wp_X9_waits a b s Q := by
  unfold Wp_X9_waits
  have bad : ∀ r : Int32, Wp_X9_refuse r s (fun r1 s1 => Q r1 s1) := fun r => rfq h hQ mfx_rf
  refine W_tn h.1 (fun _ => ⟨fun _ => bad 1, nz0⟩) (fun g1 g2 g3 => ⟨nz1, fun _ => ?_⟩)
  refine W_tn h.1 (fun _ => ⟨nz0, fun _ => bad 1⟩) (fun g4 g5 g6 => ⟨fun _ => ?_, nz1⟩)
  rintro _ rfl
  exact W_count9 (MI_fx h s09).2.1 (fin9 h hQ s09)
/-- lackOf, as a number -/
def lkM (s : zS) (t h : Int32) : Int32 := if t = h then 0 else if (0 : Int32) < zi s 61 0 (Int32.toNatClampNeg (10 * t + h)) - nI (cM s h t) then zi s 61 0 (Int32.toNatClampNeg (10 * t + h)) - nI (cM s h t) else 0
theorem lk_nn (s : zS) (t h : Int32) : 0 ≤ (lkM s t h).toInt := by
  unfold lkM
  split
  · exact Int.le_refl 0
  · split
    · rename_i g
      rw [it_lt, it_0] at g
      omega
    · exact Int.le_refl 0
theorem W_lackOf9 {a b : Int32} {s : zS} {Q : Int32 → zS → Prop} (hB : B9 s) (iab : vp_in ((10 : Int32) * a + b) 100) (hQ : Q (lkM s a b) s) : Wp_X9_lackOf a b s Q := by
  unfold Wp_X9_lackOf Wp_X9_at
  unfold lkM at hQ
  refine ⟨fun ne => ⟨iab, W_count9 hB ?_⟩, fun e => ?_⟩
  · rw [if_neg ne] at hQ
    exact hQ
  · rw [if_pos e] at hQ
    exact hQ
theorem S9_lack {a b : Int32} {s : zS} {Q : Int32 → zS → Prop} (h : MI s) (hQ : ∀ (r : Int32) (s' : zS), MI s' → MF s s' → Q r s') : Wp_X9_lack a b s Q := by
  unfold Wp_X9_lack
  have bad : ∀ r : Int32, Wp_X9_refuse r s (fun r1 s1 => Q r1 s1) := fun r => rfq h hQ mfx_rf
  refine W_tn h.1 (fun _ => ⟨fun _ => bad 1, nz0⟩) (fun g1 g2 g3 => ⟨nz1, fun _ => ?_⟩)
  refine W_tn h.1 (fun _ => ⟨fun _ => bad 1, nz0⟩) (fun g4 g5 g6 => ⟨nz1, fun _ => ⟨fun _ => ?_, fun _ => bad 1⟩⟩)
  rintro _ rfl
  exact W_lackOf9 (MI_fx h s09).2.1 (in_at g1 g3 g4 g6) (fin9 h hQ s09)
theorem S9_leg {a b : Int32} {s : zS} {Q : Int32 → zS → Prop} (h : MI s) (hQ : ∀ (r : Int32) (s' : zS), MI s' → MF s s' → Q r s') : Wp_X9_leg a b s Q := by
  unfold Wp_X9_leg
  have bad : ∀ r : Int32, Wp_X9_refuse r s (fun r1 s1 => Q r1 s1) := fun r => rfq h hQ mfx_rf
  refine ⟨fun _ => bad 1, fun g1 => ⟨fun _ => bad 1, fun g2 => ⟨fun _ => bad 1, fun _ => ⟨fun _ => ⟨fun _ => ?_, fun _ => bad 6⟩, fun _ => bad 1⟩⟩⟩⟩
  rw [it_lt, it_0] at g1
  rw [it_lt, it_2] at g2
  have ha1 : (a + 1).toInt = a.toInt + 1 := by rw [it_add (by rw [it_1]; omega) (by rw [it_1]; omega), it_1]
  rintro _ rfl
  have fin : ∀ r : Int32, Q r (zsi s 54 0 0 0) := fun r => fin9 h hQ s09
  exact ⟨fun _ => ⟨fun _ => ⟨in_of (by omega) (by omega), fin _⟩, fun _ => ⟨in_of (by omega) (by omega), fin _⟩⟩, fun _ => ⟨in_of (by omega) (by omega), fin _⟩⟩
/-! ===== SURETY, of the reference ===== -/
theorem W_power9 {a k : Int32} {s : zS} {Q : Int64 → zS → Prop} (hQ : ∀ r : Int64, Q r s) : Wp_X9_power a k s Q := by
  unfold Wp_X9_power
  intro P hP
  have key : ∀ (n : Nat) (v : Int64) (i : Int32), (k.toInt - i.toInt).toNat = n → P v i s := by
    intro n
    induction n with
    | zero =>
      intro v i hn
      apply hP
      refine ⟨fun _ => hQ v, fun g => ?_⟩
      rw [it_le] at g
      omega
    | succ n ih =>
      intro v i hn
      apply hP
      refine ⟨fun _ => hQ v, fun g => ?_⟩
      rintro _ rfl
      rw [it_le] at g
      have h1 := it_lo i
      have h2 := it_hi k
      exact ih _ _ (by rw [it_add (by rw [it_1]; omega) (by rw [it_1]; omega), it_1]; omega)
  exact key _ 1 0 rfl
/-- ten, so many times -/
def p10 : Nat → Int64
  | 0 => 1
  | n + 1 => p10 n * 10
theorem p10_add (a : Nat) : ∀ b, p10 a * p10 b = p10 (a + b)
  | 0 => Int64.mul_one _
  | b + 1 => by
    show p10 a * (p10 b * 10) = p10 (a + b) * 10
    rw [← p10_add a b, Int64.mul_assoc]
theorem p10_nz : ∀ j, j < 16 → ¬ p10 j = 0 := by decide +kernel
theorem W_pow10 {k : Nat} {s : zS} {Q : Int64 → zS → Prop} (hk : k < 100) (hQ : Q (p10 k) s) : Wp_X9_power 10 (nI k) s Q := by
  unfold Wp_X9_power
  intro P hP
  have key : ∀ (n i : Nat), i + n = k → P (p10 i) (nI i) s := by
    intro n
    induction n with
    | zero =>
      intro i hi
      apply hP
      obtain rfl : i = k := by omega
      exact ⟨fun _ => hQ, fun g => absurd (Int32.le_refl _) g⟩
    | succ n ih =>
      intro i hi
      apply hP
      refine ⟨fun g => absurd g (nI_ge (by omega) (by omega)), fun _ => ?_⟩
      rintro _ rfl
      rw [nI_1]
      exact ih (i + 1) (by omega)
  exact key k 0 (by omega)
theorem rem_lt (a b : Int64) (hb : ¬ b = 0) : (a - a / b * b).toInt.natAbs < b.toInt.natAbs := by
  have h1 : ¬ b.toInt = 0 := fun e => hb (Int64.toInt_inj.mp (e.trans rfl))
  by_cases hm : b = -1
  · subst hm
    have e : a / (-1 : Int64) * (-1) = a := by
      by_cases ha : a = Int64.minValue
      · rw [ha]
        rfl
      · rw [Int64.mul_neg, Int64.mul_one]
        apply Int64.toInt_inj.mp
        rw [Int64.toInt_neg, Int64.toInt_div_of_ne_left a (-1) ha]
        have hlo : -9223372036854775808 < a.toInt := by
          have g := a.le_toInt
          have g2 : ¬ a.toInt = -9223372036854775808 := fun q => ha (Int64.toInt_inj.mp (q.trans rfl))
          omega
        have hhi := a.toInt_lt
        rw [show (-1 : Int64).toInt = -1 from rfl, Int.tdiv_neg, Int.tdiv_one, Int.neg_neg]
        exact Int.bmod_eq_of_le (by omega) (by omega)
    rw [e, Int64.sub_self]
    decide
  · have hlo := b.le_toInt
    have hhi := b.toInt_lt
    have q1 := Int.tmod_add_tdiv_mul a.toInt b.toInt
    have q2 : (a.toInt.tmod b.toInt).natAbs < b.toInt.natAbs := by
      rw [Int.natAbs_tmod]
      exact Nat.mod_lt _ (by omega)
    have q3 : (a.toInt.tmod b.toInt).natAbs ≤ a.toInt.natAbs := by
      rw [Int.natAbs_tmod]
      exact Nat.mod_le _ _
    have e : (a - a / b * b).toInt = a.toInt.tmod b.toInt := by
      rw [Int64.toInt_sub, Int64.toInt_mul, Int64.toInt_div_of_ne_right a b hm]
      have d : a.toInt - a.toInt.tdiv b.toInt * b.toInt = a.toInt.tmod b.toInt := by omega
      rw [Int.sub_bmod_bmod, d]
      exact Int.bmod_eq_of_le (by omega) (by omega)
    rw [e]
    exact q2
theorem W_tells {a b : Int64} {s : zS} {Q : Int32 → zS → Prop} (hb : ¬ b = 0) (hQ : ∀ (r : Int32) (s' : zS), mfx s s' → Q r s') : Wp_X9_tells a b s Q := by
  unfold Wp_X9_tells
  intro P hP
  have key : ∀ (n : Nat) (v w : Int64), w.toInt.natAbs ≤ n → (¬ v = 0 ∨ ¬ w = 0) → P v w s := by
    intro n
    induction n with
    | zero =>
      intro v w hn hd
      apply hP
      have hw : w = 0 := Int64.toInt_inj.mp (show w.toInt = 0 by omega)
      refine ⟨fun _ => ?_, fun g => absurd hw g⟩
      have hv : ¬ v = 0 := by
        rcases hd with q | q
        · exact q
        · exact absurd hw q
      refine ⟨hv, ?_⟩
      rintro _ rfl
      refine ⟨hv, ?_⟩
      rintro _ rfl
      rintro _ rfl
      have hf : mfx s (zsi (zsj (zsj s 54 0 1 (a / v)) 54 0 2 (b / v)) 54 0 0 0) := mfx_54 (mfx_sj (mfx_sj mfx_rf (Or.inr rfl)) (Or.inr rfl)) c0
      exact ⟨fun _ => ⟨fun _ => hQ _ _ hf, fun _ => hQ _ _ hf⟩, fun _ => hQ _ _ hf⟩
    | succ n ih =>
      intro v w hn hd
      apply hP
      refine ⟨fun hw => ?_, fun g => ⟨g, ?_⟩⟩
      · have hv : ¬ v = 0 := by
          rcases hd with q | q
          · exact q
          · exact absurd hw q
        refine ⟨hv, ?_⟩
        rintro _ rfl
        refine ⟨hv, ?_⟩
        rintro _ rfl
        rintro _ rfl
        have hf : mfx s (zsi (zsj (zsj s 54 0 1 (a / v)) 54 0 2 (b / v)) 54 0 0 0) := mfx_54 (mfx_sj (mfx_sj mfx_rf (Or.inr rfl)) (Or.inr rfl)) c0
        exact ⟨fun _ => ⟨fun _ => hQ _ _ hf, fun _ => hQ _ _ hf⟩, fun _ => hQ _ _ hf⟩
      · rintro _ rfl
        have := rem_lt v w g
        exact ih w _ (by omega) (Or.inl g)
  refine ⟨fun _ => key _ a b (Nat.le_refl _) (Or.inr hb), fun _ => ?_⟩
  rintro _ rfl
  exact key _ _ b (Nat.le_refl _) (Or.inr hb)
theorem W_wr {a b : Int32} {s : zS} {Q : Int32 → zS → Prop} (hT : T9 s) (h0 : ∀ r : Int32, 0 < r.toInt → Q r s) (h1 : vp_in ((10 : Int32) * a + b) 100 → Q 0 s) : Wp_X9_wrongRoad a b s Q := by
  unfold Wp_X9_wrongRoad Wp_X9_at
  refine W_tn hT (fun _ => ⟨fun _ => h0 1 (by decide), nz0⟩) (fun g1 g2 g3 => ⟨nz1, fun _ => ?_⟩)
  refine W_tn hT (fun _ => ⟨fun _ => h0 1 (by decide), nz0⟩) (fun g4 g5 g6 => ⟨nz1, fun _ => ?_⟩)
  have iab := in_at g1 g3 g4 g6
  exact ⟨fun _ => ⟨iab, fun _ => h1 iab, fun _ => h0 6 (by decide)⟩, fun _ => h0 1 (by decide)⟩
theorem pos_nle {r : Int32} (h : 0 < r.toInt) : ¬ r ≤ 0 := fun q => by
  rw [it_le, it_0] at q
  omega
theorem S9_sure {a b c : Int32} {s : zS} {Q : Int32 → zS → Prop} (h : MI s) (hQ : ∀ (r : Int32) (s' : zS), MI s' → MF s s' → Q r s') : Wp_X9_sure a b c s Q := by
  unfold Wp_X9_sure Wp_X9_at
  have bad : ∀ r : Int32, Wp_X9_refuse r s (fun r1 s1 => Q r1 s1) := fun r => rfq h hQ mfx_rf
  refine ⟨fun _ => bad 1, fun g1 => ⟨fun g2 => ?_, fun _ => bad 1⟩⟩
  rw [it_lt, it_1] at g1
  rw [it_le, it_4] at g2
  obtain ⟨k, hk, rfl⟩ := n_of (a := c) (n := 4) (by omega) (by omega)
  refine W_wr h.1 (fun r hr => ⟨fun q => absurd q (pos_nle hr), fun _ => bad r⟩) (fun iab => ⟨fun _ => ?_, fun q => absurd (Int32.le_refl _) q⟩)
  refine W_power9 (fun _ => ⟨iab, W_power9 (fun _ => W_pow10 (by omega) ?_)⟩)
  exact W_tells (p10_nz k (by omega)) (fun r s' hf => fin9 h hQ hf)
theorem S9_doubles {a b c d : Int32} {s : zS} {Q : Int32 → zS → Prop} (h : MI s) (hQ : ∀ (r : Int32) (s' : zS), MI s' → MF s s' → Q r s') : Wp_X9_doubles a b c d s Q := by
  unfold Wp_X9_doubles Wp_X9_at
  intro P hP
  have bad : ∀ r : Int32, Wp_X9_refuse r s (fun r1 s1 => Q r1 s1) := fun r => rfq h hQ mfx_rf
  refine W_sh ⟨nz0, fun _ => bad 1⟩ ⟨fun _ => ?_, nz1⟩
  refine W_wr h.1 (fun r hr => ⟨fun q => absurd q (pos_nle hr), fun _ => bad r⟩) (fun iab => ⟨fun _ => ?_, fun q => absurd (Int32.le_refl _) q⟩)
  rintro _ rfl
  have key : ∀ (n i : Nat), i + n = 5 → P (nI i) (zsi s 54 0 0 0) := by
    intro n
    induction n with
    | zero =>
      intro i hi
      apply hP
      obtain rfl : i = 5 := by omega
      exact ⟨fun _ => rfq h hQ s09, fun g => absurd (by decide) g⟩
    | succ n ih =>
      intro i hi
      apply hP
      refine ⟨fun g => absurd g (nI_nlt (a := 4) (b := i) (by omega) (by omega)), fun _ => ?_⟩
      refine W_power9 (fun _ => ⟨iab, W_power9 (fun _ => W_power9 (fun _ => ⟨fun _ => ?_, fun _ => fin9 h hQ s09⟩))⟩)
      rw [nI_1]
      exact ih (i + 1) (by omega)
  exact key 4 1 (by omega)

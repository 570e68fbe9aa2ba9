/-! ===== the world: every cell that the class and the reference hold, by kind and row ===== -/
abbrev zE : Type := (Nat → Nat → Nat) × va_G × (Nat → ClassId)
abbrev zS : Type := (Nat → Nat → Nat → Int32) × (Nat → Nat → Nat → Int64)
def zi (σ : zS) (k r : Nat) : Nat → Int32 := σ.1 k r
def zj (σ : zS) (k r : Nat) : Nat → Int64 := σ.2 k r
def zci (σ : zS) (k r : Nat) (f : Nat → Int32) : zS := (fun k' r' => if k' = k ∧ r' = r then f else σ.1 k' r', σ.2)
def zcj (σ : zS) (k r : Nat) (g : Nat → Int64) : zS := (σ.1, fun k' r' => if k' = k ∧ r' = r then g else σ.2 k' r')
def zsi (σ : zS) (k r i : Nat) (v : Int32) : zS := zci σ k r (upd (zi σ k r) i v)
def zsj (σ : zS) (k r i : Nat) (v : Int64) : zS := zcj σ k r (vp_updL (zj σ k r) i v)
theorem zi_ci (σ : zS) (k r : Nat) (f : Nat → Int32) (k' r' : Nat) : zi (zci σ k r f) k' r' = if k' = k ∧ r' = r then f else zi σ k' r' := rfl
theorem zj_ci (σ : zS) (k r : Nat) (f : Nat → Int32) (k' r' : Nat) : zj (zci σ k r f) k' r' = zj σ k' r' := rfl
theorem zj_cj (σ : zS) (k r : Nat) (g : Nat → Int64) (k' r' : Nat) : zj (zcj σ k r g) k' r' = if k' = k ∧ r' = r then g else zj σ k' r' := rfl
theorem zi_cj (σ : zS) (k r : Nat) (g : Nat → Int64) (k' r' : Nat) : zi (zcj σ k r g) k' r' = zi σ k' r' := rfl
def zag (σ σ' : zS) (k r : Nat) : Prop := ∀ k' r' : Nat, ¬ (k' = k ∧ r' = r) → zi σ k' r' = zi σ' k' r' ∧ zj σ k' r' = zj σ' k' r'
theorem zag_ci {σ : zS} {k r : Nat} {f : Nat → Int32} : zag σ (zci σ k r f) k r := fun k' r' h => ⟨by rw [zi_ci, if_neg h], rfl⟩
theorem zag_cj {σ : zS} {k r : Nat} {g : Nat → Int64} : zag σ (zcj σ k r g) k r := fun k' r' h => ⟨rfl, by rw [zj_cj, if_neg h]⟩
/-- how many cells of each kind -/
def zRL : List Nat := [1, 1, 1, 1, 1, 1, 4, 1, 1, 10, 1, 10, 1, 10, 1, 1, 1, 1, 1, 1, 1, 10, 1, 1, 1, 1, 1, 1, 1, 1, 10, 1, 10, 1, 11, 1, 10, 1, 1, 1, 1, 40, 1, 40, 1, 40, 1, 40, 1, 1, 1, 10, 1, 10, 1, 1, 1, 1, 1, 1, 1, 1, 1, 1, 1, 1, 1, 1, 1, 1, 1, 1, 1, 1, 1, 1, 1, 1, 1, 1, 1, 1, 1, 1, 1, 1]
/-- what a cell of a kind holds: of the class named, or an array; f its ints, g its longs -/
def zct (E : zE) (k r : Nat) (f : Nat → Int32) (g : Nat → Int64) : va_E := match k with
  | 0 => .inr (8, [.ref (E.1 1 0), .ref (E.1 2 0), .ref (E.1 7 0), .ref (E.1 14 0), .ref (E.1 22 0), .ref (E.1 28 0), .ref (E.1 38 0), .ref (E.1 48 0), .int (f 8), .int (f 9)])
  | 1 => .inr (3, [.long (g 0), .long (g 1)])
  | 2 => .inr (7, [.ref (E.1 3 0), .ref (E.1 4 0), .ref (E.1 5 0)])
  | 3 => .inl (E.2.2 0, 4, .inl f)
  | 4 => .inl (E.2.2 0, 4, .inl f)
  | 5 => .inl (E.2.2 4, 4, .inr (.inr (.inr (.inr (fun i => if i < 4 then some (E.1 6 i) else none)))))
  | 6 => .inl (E.2.2 1, 60, .inr (.inl g))
  | 7 => .inr (6, [.int (f 0), .ref (E.1 8 0), .ref (E.1 10 0), .ref (E.1 12 0)])
  | 8 => .inl (E.2.2 3, 10, .inr (.inr (.inr (.inr (fun i => if i < 10 then some (E.1 9 i) else none)))))
  | 9 => .inl (E.2.2 0, 10, .inl f)
  | 10 => .inl (E.2.2 3, 10, .inr (.inr (.inr (.inr (fun i => if i < 10 then some (E.1 11 i) else none)))))
  | 11 => .inl (E.2.2 0, 10, .inl f)
  | 12 => .inl (E.2.2 3, 10, .inr (.inr (.inr (.inr (fun i => if i < 10 then some (E.1 13 i) else none)))))
  | 13 => .inl (E.2.2 0, 10, .inl f)
  | 14 => .inr (1, [.int (f 0), .ref (E.1 15 0), .ref (E.1 16 0), .ref (E.1 17 0), .ref (E.1 18 0), .ref (E.1 19 0), .ref (E.1 20 0)])
  | 15 => .inl (E.2.2 0, 60, .inl f)
  | 16 => .inl (E.2.2 0, 60, .inl f)
  | 17 => .inl (E.2.2 0, 60, .inl f)
  | 18 => .inl (E.2.2 0, 60, .inl f)
  | 19 => .inl (E.2.2 0, 60, .inl f)
  | 20 => .inl (E.2.2 3, 10, .inr (.inr (.inr (.inr (fun i => if i < 10 then some (E.1 21 i) else none)))))
  | 21 => .inl (E.2.2 0, 10, .inl f)
  | 22 => .inr (5, [.ref (E.1 7 0), .ref (E.1 14 0), .ref (E.1 23 0), .ref (E.1 24 0), .ref (E.1 25 0), .int (f 5), .int (f 6), .int (f 7), .int (f 8), .int (f 9), .ref (E.1 26 0), .ref (E.1 27 0), .int (f 12), .long (g 13), .long (g 14)])
  | 23 => .inl (E.2.2 0, 4, .inl f)
  | 24 => .inl (E.2.2 0, 3, .inl f)
  | 25 => .inl (E.2.2 0, 3, .inl f)
  | 26 => .inl (E.2.2 0, 4, .inl f)
  | 27 => .inl (E.2.2 0, 3, .inl f)
  | 28 => .inr (0, [.ref (E.1 7 0), .ref (E.1 14 0), .ref (E.1 29 0), .ref (E.1 31 0), .ref (E.1 33 0), .ref (E.1 35 0), .ref (E.1 37 0)])
  | 29 => .inl (E.2.2 3, 10, .inr (.inr (.inr (.inr (fun i => if i < 10 then some (E.1 30 i) else none)))))
  | 30 => .inl (E.2.2 0, 10, .inl f)
  | 31 => .inl (E.2.2 3, 10, .inr (.inr (.inr (.inr (fun i => if i < 10 then some (E.1 32 i) else none)))))
  | 32 => .inl (E.2.2 0, 10, .inl f)
  | 33 => .inl (E.2.2 4, 11, .inr (.inr (.inr (.inr (fun i => if i < 11 then some (E.1 34 i) else none)))))
  | 34 => .inl (E.2.2 1, 61, .inr (.inl g))
  | 35 => .inl (E.2.2 3, 10, .inr (.inr (.inr (.inr (fun i => if i < 10 then some (E.1 36 i) else none)))))
  | 36 => .inl (E.2.2 0, 61, .inl f)
  | 37 => .inl (E.2.2 0, 10, .inl f)
  | 38 => .inr (4, [.int (f 0), .ref (E.1 39 0), .ref (E.1 40 0), .ref (E.1 42 0), .ref (E.1 44 0), .ref (E.1 46 0)])
  | 39 => .inl (E.2.2 0, 40, .inl f)
  | 40 => .inl (E.2.2 3, 40, .inr (.inr (.inr (.inr (fun i => if i < 40 then some (E.1 41 i) else none)))))
  | 41 => .inl (E.2.2 0, 40, .inl f)
  | 42 => .inl (E.2.2 3, 40, .inr (.inr (.inr (.inr (fun i => if i < 40 then some (E.1 43 i) else none)))))
  | 43 => .inl (E.2.2 0, 3, .inl f)
  | 44 => .inl (E.2.2 3, 40, .inr (.inr (.inr (.inr (fun i => if i < 40 then some (E.1 45 i) else none)))))
  | 45 => .inl (E.2.2 0, 10, .inl f)
  | 46 => .inl (E.2.2 4, 40, .inr (.inr (.inr (.inr (fun i => if i < 40 then some (E.1 47 i) else none)))))
  | 47 => .inl (E.2.2 1, 10, .inr (.inl g))
  | 48 => .inr (2, [.ref (E.1 49 0), .ref (E.1 50 0), .ref (E.1 52 0)])
  | 49 => .inl (E.2.2 0, 10, .inl f)
  | 50 => .inl (E.2.2 3, 10, .inr (.inr (.inr (.inr (fun i => if i < 10 then some (E.1 51 i) else none)))))
  | 51 => .inl (E.2.2 0, 10, .inl f)
  | 52 => .inl (E.2.2 3, 10, .inr (.inr (.inr (.inr (fun i => if i < 10 then some (E.1 53 i) else none)))))
  | 53 => .inl (E.2.2 0, 10, .inl f)
  | 54 => .inr (9, [.int (f 0), .long (g 1), .long (g 2), .ref (E.1 55 0), .ref (E.1 56 0), .ref (E.1 57 0), .int (f 6), .int (f 7), .int (f 8), .ref (E.1 58 0), .ref (E.1 59 0), .ref (E.1 60 0), .ref (E.1 61 0), .ref (E.1 62 0), .ref (E.1 63 0), .ref (E.1 64 0), .ref (E.1 65 0), .ref (E.1 66 0), .ref (E.1 67 0), .ref (E.1 68 0), .ref (E.1 69 0), .ref (E.1 70 0), .ref (E.1 71 0), .ref (E.1 72 0), .ref (E.1 73 0), .int (f 25), .int (f 26), .int (f 27), .int (f 28), .int (f 29), .long (g 30), .long (g 31), .ref (E.1 74 0), .ref (E.1 75 0), .int (f 34), .ref (E.1 76 0), .ref (E.1 77 0), .ref (E.1 78 0), .ref (E.1 79 0), .ref (E.1 80 0), .ref (E.1 81 0), .ref (E.1 82 0), .ref (E.1 83 0), .ref (E.1 84 0), .ref (E.1 85 0)])
  | 55 => .inl (E.2.2 0, 4, .inl f)
  | 56 => .inl (E.2.2 0, 4, .inl f)
  | 57 => .inl (E.2.2 1, 240, .inr (.inl g))
  | 58 => .inl (E.2.2 0, 100, .inl f)
  | 59 => .inl (E.2.2 0, 100, .inl f)
  | 60 => .inl (E.2.2 0, 100, .inl f)
  | 61 => .inl (E.2.2 0, 100, .inl f)
  | 62 => .inl (E.2.2 0, 100, .inl f)
  | 63 => .inl (E.2.2 0, 60, .inl f)
  | 64 => .inl (E.2.2 0, 60, .inl f)
  | 65 => .inl (E.2.2 0, 60, .inl f)
  | 66 => .inl (E.2.2 0, 60, .inl f)
  | 67 => .inl (E.2.2 0, 60, .inl f)
  | 68 => .inl (E.2.2 0, 4, .inl f)
  | 69 => .inl (E.2.2 0, 3, .inl f)
  | 70 => .inl (E.2.2 0, 4, .inl f)
  | 71 => .inl (E.2.2 0, 3, .inl f)
  | 72 => .inl (E.2.2 0, 4, .inl f)
  | 73 => .inl (E.2.2 0, 3, .inl f)
  | 74 => .inl (E.2.2 1, 671, .inr (.inl g))
  | 75 => .inl (E.2.2 0, 10, .inl f)
  | 76 => .inl (E.2.2 0, 40, .inl f)
  | 77 => .inl (E.2.2 0, 40, .inl f)
  | 78 => .inl (E.2.2 0, 40, .inl f)
  | 79 => .inl (E.2.2 0, 40, .inl f)
  | 80 => .inl (E.2.2 0, 1600, .inl f)
  | 81 => .inl (E.2.2 0, 400, .inl f)
  | 82 => .inl (E.2.2 2, 16000, .inl f)
  | 83 => .inl (E.2.2 0, 10, .inl f)
  | 84 => .inl (E.2.2 0, 100, .inl f)
  | 85 => .inl (E.2.2 0, 100, .inl f)
  | _ => .inl (E.2.2 0, 0, .inl f)
def zrows (k : Nat) : Nat := zRL.getD k 0
def zNK : Nat := 86
def zoff : Nat → Nat
  | 0 => 0
  | k + 1 => zoff k + zrows k
def zKeys : List (Nat × Nat) := (List.range zNK).flatMap fun k => (List.range (zrows k)).map fun r => (k, r)
theorem zkey_all : ∀ k, k < zNK → ∀ r, r < zrows k → zKeys[zoff k + r]? = some (k, r) := by decide +kernel
theorem zkey_un : ∀ j, j < zKeys.length → zoff (zKeys.getD j (0, 0)).1 + (zKeys.getD j (0, 0)).2 = j := by decide +kernel
theorem zkey {k r : Nat} (h : r < zrows k) : zKeys[zoff k + r]? = some (k, r) := by
  refine zkey_all k ?_ r h
  apply Nat.lt_of_not_le
  intro q
  have : zRL.length ≤ k := Nat.le_trans (by decide +kernel) q
  unfold zrows at h
  rw [List.getD_eq_getElem?_getD, List.getElem?_eq_none this] at h
  exact absurd h (Nat.not_lt_zero _)
theorem zkey_u {j k r : Nat} (h : zKeys[j]? = some (k, r)) : j = zoff k + r := by
  have h1 := zkey_un j (List.getElem?_eq_some_iff.mp h).1
  rw [List.getD_eq_getElem?_getD, h] at h1
  exact h1.symm
def zws (E : zE) (σ : zS) : va_W := zKeys.map fun q => (E.1 q.1 q.2, zct E q.1 q.2 (zi σ q.1 q.2) (zj σ q.1 q.2))
theorem zws_get {E : zE} {σ : zS} {k r : Nat} (h : r < zrows k) : (zws E σ)[zoff k + r]? = some (E.1 k r, zct E k r (zi σ k r) (zj σ k r)) := by
  unfold zws
  rw [List.getElem?_map, zkey h]
  rfl
theorem zws_set {E : zE} {σ σ' : zS} {k r : Nat} (h : r < zrows k) (ha : zag σ σ' k r) : (zws E σ).set (zoff k + r) (E.1 k r, zct E k r (zi σ' k r) (zj σ' k r)) = zws E σ' := by
  apply List.ext_getElem?
  intro j
  by_cases hj : j = zoff k + r
  · subst hj
    rw [List.getElem?_set_self (List.getElem?_eq_some_iff.mp (zws_get (E := E) (σ := σ) h)).1, zws_get h]
  · rw [List.getElem?_set_ne (Ne.symm hj)]
    unfold zws
    rw [List.getElem?_map, List.getElem?_map]
    cases hq : zKeys[j]? with
    | none => rfl
    | some q =>
      have hn : ¬ (q.1 = k ∧ q.2 = r) := fun z => hj (zkey_u (by rw [hq, ← z.1, ← z.2]))
      show some (_, zct E q.1 q.2 (zi σ q.1 q.2) (zj σ q.1 q.2)) = some (_, zct E q.1 q.2 (zi σ' q.1 q.2) (zj σ' q.1 q.2))
      rw [(ha q.1 q.2 hn).1, (ha q.1 q.2 hn).2]
def zAd (E : zE) : Nat → Prop := fun q => ∃ k r : Nat, r < zrows k ∧ q = E.1 k r
theorem zAd_of {E : zE} {σ : zS} {A : Nat → Prop} (hD : va_D A (zws E σ)) {q : Nat} (h : zAd E q) : A q := by
  obtain ⟨k, r, hr, rfl⟩ := h
  exact hD.2 _ _ (zws_get hr)
theorem zD_mono {E : zE} {σ σ' : zS} {A : Nat → Prop} (hD : va_D A (zws E σ)) : va_D A (zws E σ') := by
  have key : ∀ (i : Nat) (x : Nat × va_E), (zws E σ')[i]? = some x → ∃ y, (zws E σ)[i]? = some y ∧ y.1 = x.1 := by
    intro i x h
    unfold zws at h ⊢
    rw [List.getElem?_map] at h ⊢
    cases hq : zKeys[i]? with
    | none => rw [hq] at h; cases h
    | some q => rw [hq] at h; cases h; exact ⟨_, rfl, rfl⟩
  refine ⟨fun i j x y hi hj hxy => ?_, fun i x hi => ?_⟩
  · obtain ⟨x', h1, h2⟩ := key i x hi
    obtain ⟨y', h3, h4⟩ := key j y hj
    exact hD.1 i j x' y' h1 h3 (h2.trans (hxy.trans h4.symm))
  · obtain ⟨x', h1, h2⟩ := key i x hi
    rw [← h2]
    exact hD.2 i x' h1
theorem zD_self {E : zE} {σ : zS} {A : Nat → Prop} (hD : va_D A (zws E σ)) : va_D (zAd E) (zws E σ) := by
  refine ⟨hD.1, fun i x hi => ?_⟩
  unfold zws at hi
  rw [List.getElem?_map] at hi
  cases hq : zKeys[i]? with
  | none => rw [hq] at hi; cases hi
  | some q =>
    rw [hq] at hi
    cases hi
    have hm := List.mem_of_getElem? hq
    unfold zKeys at hm
    rw [List.mem_flatMap] at hm
    obtain ⟨k, -, hm⟩ := hm
    rw [List.mem_map] at hm
    obtain ⟨r, hr, rfl⟩ := hm
    exact ⟨k, r, List.mem_range.mp hr, rfl⟩
/-! ===== the judgement: from this place, with these locals and this stack, in this state of the world, the run comes to its end ===== -/
def zTy (E : zE) : List (ClassId × FieldType) := [(E.2.2 0, .int), (E.2.2 1, .long), (E.2.2 2, .boolean), (E.2.2 3, .array .int), (E.2.2 4, .array .long)]
abbrev zX : Type := Program × Launch × Env × Room × State × MethodId × Array Value × List Frame × Method × Code × (Nat × Nat) × (State → Prop) × (Nat → Prop) × zE × Nat
def zXl (X : zX) : Launch := X.2.1
def zXE (X : zX) : zE := X.2.2.2.2.2.2.2.2.2.2.2.2.2.1
def zV (X : zX) (pc : Nat) (lv : List (Nat × Value)) (st : List Value) (σ : zS) : Prop := match X with
  | (p, l, e, R, s, m, args, below, meth, c, (nc, ns), Qf, A, E, nL) => ∀ (H : Heap) (locs : List Loc) (ls : Array Slot), va_P E.2.1 zCl (zws E σ) H → va_S A s.heap H locs → lv_has ls nL lv → W p l e R s m args below meth c H locs nc ns Qf (F0 m pc ls st)
/-- what a walk stands on: the machine, the code, the tables' words, the classes, the cells apart -/
def zC (X : zX) (cc : ByteArray) (own : String) (nL0 d : Nat) : Prop := match X with
  | (p, l, e, R, s, m, args, below, meth, c, (nc, ns), Qf, A, E, nL) => p.tables.exec = Jvm.exec ∧ c.code = cc ∧ (nL = nL0 ∧ c.maxLocals = nL0) ∧ s.vm.findClass own = some m.cls ∧ (∀ w ∈ zW, w.before args s = true) ∧ va_K E.2.1 zCl (zTy E) s ∧ (∀ σ : zS, va_D A (zws E σ)) ∧ (∀ w ∈ zNst, va_Nw w s) ∧ (nc ≤ R.cells ∧ ns ≤ R.slots) ∧ d ≤ R.frames ∧ 40 * d ≤ R.locals
def zRm (d : Nat) : Room := { frames := d, cells := 0, slots := 0, locals := 40 * d }
def zPc (E : zE) (vs : List Value) (σ : zS) : Array Value → State → Prop := va_Pc vs (fun U => va_P E.2.1 zCl (zws E σ) U.heap ∧ va_K E.2.1 zCl (zTy E) U ∧ (∀ w ∈ zNst, va_Nw w U) ∧ ∀ σ' : zS, va_D (zAd E) (zws E σ'))
def zQc (E : zE) (Q : Option Value → zS → Prop) : Array Value → State → Outcome → State → Prop := fun _ st oc t => (∃ (v : Option Value) (σ' : zS), oc = .returned v ∧ Q v σ' ∧ va_P E.2.1 zCl (zws E σ') t.heap) ∧ va_F (zAd E) st t
/-- how a walk of a method may end -/
def zR (X : zX) (ret : Option FieldType) (Q : Option Value → zS → Prop) : Prop := match X with
  | (p, l, e, R, s, m, args, below, meth, c, (nc, ns), Qf, A, E, nL) => meth.sig.returnType = ret ∧ meth.locks = false ∧ Qf = MQ below (zQc E Q) args s nc ns A ∧ A = zAd E
/-- method y, called with vs in the state σ, comes back with an answer and a state of which Q holds -/
def zT (l : Launch) (d : Nat) (E : zE) (y : MethodName) (cc : ByteArray) (nL : Nat) (ret : Option FieldType) (vs : List Value) (σ : zS) (Q : Option Value → zS → Prop) : Prop :=
  Met l y (.code y cc nL ret :: zW) (zRm d) (zPc E vs σ) (zQc E Q) 0 0 (zAd E)
def zQi (Q : Int32 → zS → Prop) : Option Value → zS → Prop := fun v σ => ∃ r : Int32, v = some (.int r) ∧ Q r σ
def zQb (Q : Int32 → zS → Prop) : Option Value → zS → Prop := fun v σ => ∃ r : Int32, v = some (.int r) ∧ (r = 0 ∨ r = 1) ∧ Q r σ
def zQl (Q : Int64 → zS → Prop) : Option Value → zS → Prop := fun v σ => ∃ r : Int64, v = some (.long r) ∧ Q r σ
def zQv (Q : zS → Prop) : Option Value → zS → Prop := fun v σ => v = none ∧ Q σ
theorem zmem {w : Cond} (i : Nat) (h : lw_tbl[i]? = some w) (g : goodWord w = true) : w ∈ zW := List.mem_filter.mpr ⟨List.mem_of_getElem? h, g⟩
theorem zmems {ws : List Cond} (is : List Nat) (h : is.map (fun i => lw_tbl[i]?) = ws.map some) (g : ws.all goodWord = true) : ∀ w ∈ ws, w ∈ zW := by
  intro w hw
  have h1 : some w ∈ is.map (fun i => lw_tbl[i]?) := by rw [h]; exact List.mem_map.mpr ⟨w, hw, rfl⟩
  obtain ⟨i, -, hi⟩ := List.mem_map.mp h1
  exact zmem i hi (List.all_eq_true.mp g w hw)
theorem zgood {big : List Cond} (h : ∀ w ∈ big, w ∈ zW) : GoodIn zW big := fun w hw => ⟨h w hw, good_of_word (List.mem_filter.mp (h w hw)).2⟩
theorem zgoodC {y : MethodName} {cc : ByteArray} {nL : Nat} {ret : Option FieldType} (h : Cond.code y cc nL ret ∈ zW) : GoodIn zW (.code y cc nL ret :: zW) := zgood fun w hw => (List.mem_cons.mp hw).elim (fun e => e ▸ h) id
def zNstAll (s : State) : Prop := ∀ w ∈ zNst, va_Nw w s
theorem zNst_warm {s U : State} (hW : s.WarmedH U.vm) (h : ∀ w ∈ zNst, va_Nw w s) : ∀ w ∈ zNst, va_Nw w U := by
  intro w hw
  have hs := List.all_eq_true.mp zNst_shape w hw
  cases w <;> first
    | exact va_Nw.warmF hW (h _ hw)
    | exact va_Nw.warmM hW (h _ hw)
    | (cases hs)
theorem zPc_blind {E : zE} {vs : List Value} {σ : zS} : FrameBlind (zPc E vs σ) := fun a U g mk q => ⟨q.1, q.2.1, va_K.moved (u := U) (U := U.calling g mk a) (Vm.Alike.refl U.vm) q.2.2.1, fun w hw => va_Nw.same (u := U) (zNst_on w hw) rfl (q.2.2.2.1 w hw), q.2.2.2.2⟩
/-- a method's walk, from its entry -/
theorem z_entry {l : Launch} {d : Nat} {E : zE} {y : MethodName} {cc : ByteArray} {nL : Nat} {ret : Option FieldType} {vs : List Value} {σ : zS} {Q : Option Value → zS → Prop} {lv : List (Nat × Value)} (hpl : plainName y.cls = true) (hlen : (lg_sl vs).length ≤ nL) (hlv : lv_args 0 vs = lv)
    (K : ∀ X : zX, zC X cc y.cls nL d → zR X ret Q → zXl X = l → zXE X = E → zV X 0 lv [] σ) : zT l d E y cc nL ret vs σ Q := by
  refine Met.ofW (cc := cc) (maxL := nL) (ret := ret) hpl rfl ?_
  intro p e s m args below meth c s₁ B hml hv
  obtain ⟨rfl, hP, hK, hN, hD⟩ := hv
  have hts := atoms_spec (ws := .code y cc nL ret :: zW) B.pre
  have hown : s.vm.findClass y.cls = some m.cls := findClass_of_methodNamed B.named
  have k := K (p, l, e, (headSpec (.code y cc nL ret :: zW) (zRm d)).room, s, m, vs.toArray, below, meth, c, (0, 0), MQ below (zQc E Q) vs.toArray s 0 0 (zAd E), zAd E, E, nL)
    ⟨B.exec, B.bytes, ⟨rfl, hml⟩, hown, fun w hw => hts w (List.mem_cons_of_mem _ hw), hK, hD, hN, ⟨Nat.zero_le _, Nat.zero_le _⟩, Nat.le_refl d, Nat.le_refl (40 * d)⟩
    ⟨B.returns, B.notSynchronized, rfl, rfl⟩ rfl rfl
  have hl := lv_entry vs (n := nL) hlen
  rw [hlv] at hl
  rw [lg_entry_eq]
  exact k s.heap [] _ hP va_S.rf hl
/-- an object of the world: its kind, its class -/
def zOb (k : Nat) (Cn : String) : Prop := 0 < zrows k ∧ ∃ (ci : Nat) (T : u_T) (N : Nat), zCl[ci]? = some (Cn, T, N) ∧ ∀ (E : zE) (f : Nat → Int32) (g : Nat → Int64), ∃ fs : List Value, zct E k 0 f g = .inr (ci, fs)
theorem kw_copy : Cond.native arraycopyName ∈ zW ∧ Cond.static arraycopyName ∈ zW ∧ Cond.initialized "java/lang/System" ∈ zW := ⟨zmem 412 (by decide +kernel) rfl, zmem 411 (by decide +kernel) rfl, zmem 55 (by decide +kernel) rfl⟩
theorem kw_mmax : Cond.static Lib.Math.max.name ∈ zW ∧ Cond.initialized "java/lang/Math" ∈ zW ∧ Cond.code Lib.Math.max.name Lib.Math.max.code 2 (some .int) ∈ zW := ⟨zmem 603 (by decide +kernel) rfl, zmem 56 (by decide +kernel) rfl, zmem 604 (by decide +kernel) rfl⟩
theorem kw_mmin : Cond.static Lib.Math.min.name ∈ zW ∧ Cond.initialized "java/lang/Math" ∈ zW ∧ Cond.code Lib.Math.min.name Lib.Math.min.code 2 (some .int) ∈ zW := ⟨zmem 564 (by decide +kernel) rfl, zmem 56 (by decide +kernel) rfl, zmem 565 (by decide +kernel) rfl⟩
theorem kw_mmaxl : Cond.static Lib.MathLoose.max_long.x ∈ zW ∧ Cond.initialized "java/lang/Math" ∈ zW ∧ Cond.code Lib.MathLoose.max_long.x Lib.MathLoose.max_long.code 4 (some .long) ∈ zW := ⟨zmem 1089 (by decide +kernel) rfl, zmem 56 (by decide +kernel) rfl, zmem 1090 (by decide +kernel) rfl⟩
theorem kw_mabsl : Cond.static Lib.MathLoose.abs_long.x ∈ zW ∧ Cond.initialized "java/lang/Math" ∈ zW ∧ Cond.code Lib.MathLoose.abs_long.x Lib.MathLoose.abs_long.code 2 (some .long) ∈ zW := ⟨zmem 517 (by decide +kernel) rfl, zmem 56 (by decide +kernel) rfl, zmem 518 (by decide +kernel) rfl⟩
section ZROWS
variable {X : zX} {cc : ByteArray} {own : String} {nL d pc : Nat} {lv : List (Nat × Value)} {st : List Value} {σ : zS}
theorem z_use {A B : Prop} (a : A) (f : A → B) : B := f a
theorem z_lv {lv' : List (Nat × Value)} (ks : List Nat) (h : lv_pick lv ks = lv') (K : zV X pc lv' st σ) : zV X pc lv st σ := by
  obtain ⟨p, l, e, R, s, m, args, below, meth, c, ⟨nc, ns⟩, Qf, A, E, nL⟩ := X
  exact fun H locs ls hP hS hL => K H locs ls hP hS (lv_sub hL ks h)
theorem z_nms {σ0 : zS} (K : ∀ σ' : zS, σ' = σ0 → zV X pc lv st σ') : zV X pc lv st σ0 := K σ0 rfl
theorem z_nmi {x : Int32} (K : ∀ y : Int32, y = x → zV X pc lv (.int y :: st) σ) : zV X pc lv (.int x :: st) σ := K x rfl
theorem z_nml {x : Int64} (K : ∀ y : Int64, y = x → zV X pc lv (.long y :: st) σ) : zV X pc lv (.long x :: st) σ := K x rfl
theorem z_iconst (C : zC X cc own nL d) {n : Int} (v : Int32) (hd : decode cc pc = .ok (.iconst n, 1)) (hv : Int32.ofInt n = v) (K : zV X (pc + 1) lv (.int v :: st) σ) : zV X pc lv (st) σ := by
  obtain ⟨p, l, e, R, s, m, args, below, meth, c, ⟨nc, ns⟩, Qf, A, E, nX⟩ := X
  obtain ⟨hx, hb, ⟨hnX, hml⟩, hown, hts, hK, hD, hN, ⟨hc, hs⟩, hf, hlo⟩ := C
  exact fun H locs ls hP hS hL => lv_iconst hx hb hd hv (K H locs ls hP hS hL)
theorem z_bipush (C : zC X cc own nL d) {n : Int} (v : Int32) (hd : decode cc pc = .ok (.bipush n, 2)) (hv : (Int8.ofInt n).toInt32 = v) (K : zV X (pc + 2) lv (.int v :: st) σ) : zV X pc lv (st) σ := by
  obtain ⟨p, l, e, R, s, m, args, below, meth, c, ⟨nc, ns⟩, Qf, A, E, nX⟩ := X
  obtain ⟨hx, hb, ⟨hnX, hml⟩, hown, hts, hK, hD, hN, ⟨hc, hs⟩, hf, hlo⟩ := C
  exact fun H locs ls hP hS hL => lv_bipush hx hb hd hv (K H locs ls hP hS hL)
theorem z_sipush (C : zC X cc own nL d) {n : Int} (v : Int32) (hd : decode cc pc = .ok (.sipush n, 3)) (hv : (Int16.ofInt n).toInt32 = v) (K : zV X (pc + 3) lv (.int v :: st) σ) : zV X pc lv (st) σ := by
  obtain ⟨p, l, e, R, s, m, args, below, meth, c, ⟨nc, ns⟩, Qf, A, E, nX⟩ := X
  obtain ⟨hx, hb, ⟨hnX, hml⟩, hown, hts, hK, hD, hN, ⟨hc, hs⟩, hf, hlo⟩ := C
  exact fun H locs ls hP hS hL => lv_sipush hx hb hd hv (K H locs ls hP hS hL)
theorem z_lconst (C : zC X cc own nL d) {n : Fin 2} (v : Int64) (hd : decode cc pc = .ok (.lconst n, 1)) (hv : Int64.ofNat (n : Nat) = v) (K : zV X (pc + 1) lv (.long v :: st) σ) : zV X pc lv (st) σ := by
  obtain ⟨p, l, e, R, s, m, args, below, meth, c, ⟨nc, ns⟩, Qf, A, E, nX⟩ := X
  obtain ⟨hx, hb, ⟨hnX, hml⟩, hown, hts, hK, hD, hN, ⟨hc, hs⟩, hf, hlo⟩ := C
  exact fun H locs ls hP hS hL => lv_lconst hx hb hd hv (K H locs ls hP hS hL)
theorem z_iload_n (C : zC X cc own nL d) {k : Fin 4} {i : Nat} {x : Int32} (hd : decode cc pc = .ok (.iload_n k, 1)) (hi : (k : Nat) = i) (j : Nat) (h : lv[j]? = some (i, .int x)) (K : zV X (pc + 1) lv (.int x :: st) σ) : zV X pc lv (st) σ := by
  obtain ⟨p, l, e, R, s, m, args, below, meth, c, ⟨nc, ns⟩, Qf, A, E, nX⟩ := X
  obtain ⟨hx, hb, ⟨hnX, hml⟩, hown, hts, hK, hD, hN, ⟨hc, hs⟩, hf, hlo⟩ := C
  exact fun H locs ls hP hS hL => lv_iload_n hx hb hd hi (lv_at hL j h) (K H locs ls hP hS hL)
theorem z_iload (C : zC X cc own nL d) {i : Nat} {x : Int32} (hd : decode cc pc = .ok (.iload i, 2)) (j : Nat) (h : lv[j]? = some (i, .int x)) (K : zV X (pc + 2) lv (.int x :: st) σ) : zV X pc lv (st) σ := by
  obtain ⟨p, l, e, R, s, m, args, below, meth, c, ⟨nc, ns⟩, Qf, A, E, nX⟩ := X
  obtain ⟨hx, hb, ⟨hnX, hml⟩, hown, hts, hK, hD, hN, ⟨hc, hs⟩, hf, hlo⟩ := C
  exact fun H locs ls hP hS hL => lv_iload hx hb hd (lv_at hL j h) (K H locs ls hP hS hL)
theorem z_istore_n (C : zC X cc own nL d) {k : Fin 4} {i : Nat} {x : Int32} (lv' : List (Nat × Value)) (hd : decode cc pc = .ok (.istore_n k, 1)) (hi : (k : Nat) = i) (hn : i < nL) (hl : (i, Value.int x) :: lv.filter (fun q => !(q.1 == i) && !(q.1 + 1 == i && q.2.category == 2)) = lv') (K : zV X (pc + 1) lv' st σ) : zV X pc lv (.int x :: st) σ := by
  obtain ⟨p, l, e, R, s, m, args, below, meth, c, ⟨nc, ns⟩, Qf, A, E, nX⟩ := X
  obtain ⟨hx, hb, ⟨hnX, hml⟩, hown, hts, hK, hD, hN, ⟨hc, hs⟩, hf, hlo⟩ := C
  subst hnX
  exact fun H locs ls hP hS hL => lv_istore_n hx hb hd hi hL hn hl (fun ls' hL' => K H locs ls' hP hS hL')
theorem z_istore (C : zC X cc own nL d) {i : Nat} {x : Int32} (lv' : List (Nat × Value)) (hd : decode cc pc = .ok (.istore i, 2)) (hn : i < nL) (hl : (i, Value.int x) :: lv.filter (fun q => !(q.1 == i) && !(q.1 + 1 == i && q.2.category == 2)) = lv') (K : zV X (pc + 2) lv' st σ) : zV X pc lv (.int x :: st) σ := by
  obtain ⟨p, l, e, R, s, m, args, below, meth, c, ⟨nc, ns⟩, Qf, A, E, nX⟩ := X
  obtain ⟨hx, hb, ⟨hnX, hml⟩, hown, hts, hK, hD, hN, ⟨hc, hs⟩, hf, hlo⟩ := C
  subst hnX
  exact fun H locs ls hP hS hL => lv_istore hx hb hd hL hn hl (fun ls' hL' => K H locs ls' hP hS hL')
theorem z_lload_n (C : zC X cc own nL d) {k : Fin 4} {i : Nat} {x : Int64} (hd : decode cc pc = .ok (.lload_n k, 1)) (hi : (k : Nat) = i) (j : Nat) (h : lv[j]? = some (i, .long x)) (K : zV X (pc + 1) lv (.long x :: st) σ) : zV X pc lv (st) σ := by
  obtain ⟨p, l, e, R, s, m, args, below, meth, c, ⟨nc, ns⟩, Qf, A, E, nX⟩ := X
  obtain ⟨hx, hb, ⟨hnX, hml⟩, hown, hts, hK, hD, hN, ⟨hc, hs⟩, hf, hlo⟩ := C
  exact fun H locs ls hP hS hL => lv_lload_n hx hb hd hi (lv_at hL j h) (K H locs ls hP hS hL)
theorem z_lload (C : zC X cc own nL d) {i : Nat} {x : Int64} (hd : decode cc pc = .ok (.lload i, 2)) (j : Nat) (h : lv[j]? = some (i, .long x)) (K : zV X (pc + 2) lv (.long x :: st) σ) : zV X pc lv (st) σ := by
  obtain ⟨p, l, e, R, s, m, args, below, meth, c, ⟨nc, ns⟩, Qf, A, E, nX⟩ := X
  obtain ⟨hx, hb, ⟨hnX, hml⟩, hown, hts, hK, hD, hN, ⟨hc, hs⟩, hf, hlo⟩ := C
  exact fun H locs ls hP hS hL => lv_lload hx hb hd (lv_at hL j h) (K H locs ls hP hS hL)
theorem z_lstore_n (C : zC X cc own nL d) {k : Fin 4} {i : Nat} {x : Int64} (lv' : List (Nat × Value)) (hd : decode cc pc = .ok (.lstore_n k, 1)) (hi : (k : Nat) = i) (hn : i + 1 < nL) (hl : (i, Value.long x) :: lv.filter (fun q => !(q.1 == i) && (!(q.1 == i + 1) && !(q.1 + 1 == i && q.2.category == 2))) = lv') (K : zV X (pc + 1) lv' st σ) : zV X pc lv (.long x :: st) σ := by
  obtain ⟨p, l, e, R, s, m, args, below, meth, c, ⟨nc, ns⟩, Qf, A, E, nX⟩ := X
  obtain ⟨hx, hb, ⟨hnX, hml⟩, hown, hts, hK, hD, hN, ⟨hc, hs⟩, hf, hlo⟩ := C
  subst hnX
  exact fun H locs ls hP hS hL => lv_lstore_n hx hb hd hi hL hn hl (fun ls' hL' => K H locs ls' hP hS hL')
theorem z_lstore (C : zC X cc own nL d) {i : Nat} {x : Int64} (lv' : List (Nat × Value)) (hd : decode cc pc = .ok (.lstore i, 2)) (hn : i + 1 < nL) (hl : (i, Value.long x) :: lv.filter (fun q => !(q.1 == i) && (!(q.1 == i + 1) && !(q.1 + 1 == i && q.2.category == 2))) = lv') (K : zV X (pc + 2) lv' st σ) : zV X pc lv (.long x :: st) σ := by
  obtain ⟨p, l, e, R, s, m, args, below, meth, c, ⟨nc, ns⟩, Qf, A, E, nX⟩ := X
  obtain ⟨hx, hb, ⟨hnX, hml⟩, hown, hts, hK, hD, hN, ⟨hc, hs⟩, hf, hlo⟩ := C
  subst hnX
  exact fun H locs ls hP hS hL => lv_lstore hx hb hd hL hn hl (fun ls' hL' => K H locs ls' hP hS hL')
theorem z_aload_n (C : zC X cc own nL d) {k : Fin 4} {i : Nat} {x : Nat} (hd : decode cc pc = .ok (.aload_n k, 1)) (hi : (k : Nat) = i) (j : Nat) (h : lv[j]? = some (i, .ref x)) (K : zV X (pc + 1) lv (.ref x :: st) σ) : zV X pc lv (st) σ := by
  obtain ⟨p, l, e, R, s, m, args, below, meth, c, ⟨nc, ns⟩, Qf, A, E, nX⟩ := X
  obtain ⟨hx, hb, ⟨hnX, hml⟩, hown, hts, hK, hD, hN, ⟨hc, hs⟩, hf, hlo⟩ := C
  exact fun H locs ls hP hS hL => lv_aload_n hx hb hd hi (lv_at hL j h) (K H locs ls hP hS hL)
theorem z_aload (C : zC X cc own nL d) {i : Nat} {x : Nat} (hd : decode cc pc = .ok (.aload i, 2)) (j : Nat) (h : lv[j]? = some (i, .ref x)) (K : zV X (pc + 2) lv (.ref x :: st) σ) : zV X pc lv (st) σ := by
  obtain ⟨p, l, e, R, s, m, args, below, meth, c, ⟨nc, ns⟩, Qf, A, E, nX⟩ := X
  obtain ⟨hx, hb, ⟨hnX, hml⟩, hown, hts, hK, hD, hN, ⟨hc, hs⟩, hf, hlo⟩ := C
  exact fun H locs ls hP hS hL => lv_aload hx hb hd (lv_at hL j h) (K H locs ls hP hS hL)
theorem z_astore_n (C : zC X cc own nL d) {k : Fin 4} {i : Nat} {x : Nat} (lv' : List (Nat × Value)) (hd : decode cc pc = .ok (.astore_n k, 1)) (hi : (k : Nat) = i) (hn : i < nL) (hl : (i, Value.ref x) :: lv.filter (fun q => !(q.1 == i) && !(q.1 + 1 == i && q.2.category == 2)) = lv') (K : zV X (pc + 1) lv' st σ) : zV X pc lv (.ref x :: st) σ := by
  obtain ⟨p, l, e, R, s, m, args, below, meth, c, ⟨nc, ns⟩, Qf, A, E, nX⟩ := X
  obtain ⟨hx, hb, ⟨hnX, hml⟩, hown, hts, hK, hD, hN, ⟨hc, hs⟩, hf, hlo⟩ := C
  subst hnX
  exact fun H locs ls hP hS hL => lv_astore_n hx hb hd hi hL hn hl (fun ls' hL' => K H locs ls' hP hS hL')
theorem z_astore (C : zC X cc own nL d) {i : Nat} {x : Nat} (lv' : List (Nat × Value)) (hd : decode cc pc = .ok (.astore i, 2)) (hn : i < nL) (hl : (i, Value.ref x) :: lv.filter (fun q => !(q.1 == i) && !(q.1 + 1 == i && q.2.category == 2)) = lv') (K : zV X (pc + 2) lv' st σ) : zV X pc lv (.ref x :: st) σ := by
  obtain ⟨p, l, e, R, s, m, args, below, meth, c, ⟨nc, ns⟩, Qf, A, E, nX⟩ := X
  obtain ⟨hx, hb, ⟨hnX, hml⟩, hown, hts, hK, hD, hN, ⟨hc, hs⟩, hf, hlo⟩ := C
  subst hnX
  exact fun H locs ls hP hS hL => lv_astore hx hb hd hL hn hl (fun ls' hL' => K H locs ls' hP hS hL')
theorem z_iinc (C : zC X cc own nL d) {i : Nat} {n : Int} {x : Int32} (v : Int32) (lv' : List (Nat × Value)) (hd : decode cc pc = .ok (.iinc i n, 3)) (j : Nat) (hk : lv[j]? = some (i, .int x)) (hv : x + Int32.ofInt n = v) (hn : i < nL) (hl : (i, Value.int v) :: lv.filter (fun q => !(q.1 == i) && !(q.1 + 1 == i && q.2.category == 2)) = lv') (K : zV X (pc + 3) lv' st σ) : zV X pc lv st σ := by
  obtain ⟨p, l, e, R, s, m, args, below, meth, c, ⟨nc, ns⟩, Qf, A, E, nX⟩ := X
  obtain ⟨hx, hb, ⟨hnX, hml⟩, hown, hts, hK, hD, hN, ⟨hc, hs⟩, hf, hlo⟩ := C
  subst hnX
  exact fun H locs ls hP hS hL => lv_iinc hx hb hd hL hk hv hn hl (fun ls' hL' => K H locs ls' hP hS hL')
theorem z_iadd (C : zC X cc own nL d) {x y : Int32} (hd : decode cc pc = .ok (.iadd, 1)) (K : zV X (pc + 1) lv (.int (x + y) :: st) σ) : zV X pc lv (.int y :: .int x :: st) σ := by
  obtain ⟨p, l, e, R, s, m, args, below, meth, c, ⟨nc, ns⟩, Qf, A, E, nX⟩ := X
  obtain ⟨hx, hb, ⟨hnX, hml⟩, hown, hts, hK, hD, hN, ⟨hc, hs⟩, hf, hlo⟩ := C
  exact fun H locs ls hP hS hL => lv_iadd hx hb hd (K H locs ls hP hS hL)
theorem z_isub (C : zC X cc own nL d) {x y : Int32} (hd : decode cc pc = .ok (.isub, 1)) (K : zV X (pc + 1) lv (.int (x - y) :: st) σ) : zV X pc lv (.int y :: .int x :: st) σ := by
  obtain ⟨p, l, e, R, s, m, args, below, meth, c, ⟨nc, ns⟩, Qf, A, E, nX⟩ := X
  obtain ⟨hx, hb, ⟨hnX, hml⟩, hown, hts, hK, hD, hN, ⟨hc, hs⟩, hf, hlo⟩ := C
  exact fun H locs ls hP hS hL => lv_isub hx hb hd (K H locs ls hP hS hL)
theorem z_imul (C : zC X cc own nL d) {x y : Int32} (hd : decode cc pc = .ok (.imul, 1)) (K : zV X (pc + 1) lv (.int (x * y) :: st) σ) : zV X pc lv (.int y :: .int x :: st) σ := by
  obtain ⟨p, l, e, R, s, m, args, below, meth, c, ⟨nc, ns⟩, Qf, A, E, nX⟩ := X
  obtain ⟨hx, hb, ⟨hnX, hml⟩, hown, hts, hK, hD, hN, ⟨hc, hs⟩, hf, hlo⟩ := C
  exact fun H locs ls hP hS hL => lv_imul hx hb hd (K H locs ls hP hS hL)
theorem z_iand (C : zC X cc own nL d) {x y : Int32} (hd : decode cc pc = .ok (.iand, 1)) (K : zV X (pc + 1) lv (.int (x &&& y) :: st) σ) : zV X pc lv (.int y :: .int x :: st) σ := by
  obtain ⟨p, l, e, R, s, m, args, below, meth, c, ⟨nc, ns⟩, Qf, A, E, nX⟩ := X
  obtain ⟨hx, hb, ⟨hnX, hml⟩, hown, hts, hK, hD, hN, ⟨hc, hs⟩, hf, hlo⟩ := C
  exact fun H locs ls hP hS hL => lv_iand hx hb hd (K H locs ls hP hS hL)
theorem z_ior (C : zC X cc own nL d) {x y : Int32} (hd : decode cc pc = .ok (.ior, 1)) (K : zV X (pc + 1) lv (.int (x ||| y) :: st) σ) : zV X pc lv (.int y :: .int x :: st) σ := by
  obtain ⟨p, l, e, R, s, m, args, below, meth, c, ⟨nc, ns⟩, Qf, A, E, nX⟩ := X
  obtain ⟨hx, hb, ⟨hnX, hml⟩, hown, hts, hK, hD, hN, ⟨hc, hs⟩, hf, hlo⟩ := C
  exact fun H locs ls hP hS hL => lv_ior hx hb hd (K H locs ls hP hS hL)
theorem z_ixor (C : zC X cc own nL d) {x y : Int32} (hd : decode cc pc = .ok (.ixor, 1)) (K : zV X (pc + 1) lv (.int (x ^^^ y) :: st) σ) : zV X pc lv (.int y :: .int x :: st) σ := by
  obtain ⟨p, l, e, R, s, m, args, below, meth, c, ⟨nc, ns⟩, Qf, A, E, nX⟩ := X
  obtain ⟨hx, hb, ⟨hnX, hml⟩, hown, hts, hK, hD, hN, ⟨hc, hs⟩, hf, hlo⟩ := C
  exact fun H locs ls hP hS hL => lv_ixor hx hb hd (K H locs ls hP hS hL)
theorem z_ladd (C : zC X cc own nL d) {x y : Int64} (hd : decode cc pc = .ok (.ladd, 1)) (K : zV X (pc + 1) lv (.long (x + y) :: st) σ) : zV X pc lv (.long y :: .long x :: st) σ := by
  obtain ⟨p, l, e, R, s, m, args, below, meth, c, ⟨nc, ns⟩, Qf, A, E, nX⟩ := X
  obtain ⟨hx, hb, ⟨hnX, hml⟩, hown, hts, hK, hD, hN, ⟨hc, hs⟩, hf, hlo⟩ := C
  exact fun H locs ls hP hS hL => lv_ladd hx hb hd (K H locs ls hP hS hL)
theorem z_lsub (C : zC X cc own nL d) {x y : Int64} (hd : decode cc pc = .ok (.lsub, 1)) (K : zV X (pc + 1) lv (.long (x - y) :: st) σ) : zV X pc lv (.long y :: .long x :: st) σ := by
  obtain ⟨p, l, e, R, s, m, args, below, meth, c, ⟨nc, ns⟩, Qf, A, E, nX⟩ := X
  obtain ⟨hx, hb, ⟨hnX, hml⟩, hown, hts, hK, hD, hN, ⟨hc, hs⟩, hf, hlo⟩ := C
  exact fun H locs ls hP hS hL => lv_lsub hx hb hd (K H locs ls hP hS hL)
theorem z_lmul (C : zC X cc own nL d) {x y : Int64} (hd : decode cc pc = .ok (.lmul, 1)) (K : zV X (pc + 1) lv (.long (x * y) :: st) σ) : zV X pc lv (.long y :: .long x :: st) σ := by
  obtain ⟨p, l, e, R, s, m, args, below, meth, c, ⟨nc, ns⟩, Qf, A, E, nX⟩ := X
  obtain ⟨hx, hb, ⟨hnX, hml⟩, hown, hts, hK, hD, hN, ⟨hc, hs⟩, hf, hlo⟩ := C
  exact fun H locs ls hP hS hL => lv_lmul hx hb hd (K H locs ls hP hS hL)
theorem z_land (C : zC X cc own nL d) {x y : Int64} (hd : decode cc pc = .ok (.land, 1)) (K : zV X (pc + 1) lv (.long (x &&& y) :: st) σ) : zV X pc lv (.long y :: .long x :: st) σ := by
  obtain ⟨p, l, e, R, s, m, args, below, meth, c, ⟨nc, ns⟩, Qf, A, E, nX⟩ := X
  obtain ⟨hx, hb, ⟨hnX, hml⟩, hown, hts, hK, hD, hN, ⟨hc, hs⟩, hf, hlo⟩ := C
  exact fun H locs ls hP hS hL => lv_land hx hb hd (K H locs ls hP hS hL)
theorem z_lor (C : zC X cc own nL d) {x y : Int64} (hd : decode cc pc = .ok (.lor, 1)) (K : zV X (pc + 1) lv (.long (x ||| y) :: st) σ) : zV X pc lv (.long y :: .long x :: st) σ := by
  obtain ⟨p, l, e, R, s, m, args, below, meth, c, ⟨nc, ns⟩, Qf, A, E, nX⟩ := X
  obtain ⟨hx, hb, ⟨hnX, hml⟩, hown, hts, hK, hD, hN, ⟨hc, hs⟩, hf, hlo⟩ := C
  exact fun H locs ls hP hS hL => lv_lor hx hb hd (K H locs ls hP hS hL)
theorem z_lxor (C : zC X cc own nL d) {x y : Int64} (hd : decode cc pc = .ok (.lxor, 1)) (K : zV X (pc + 1) lv (.long (x ^^^ y) :: st) σ) : zV X pc lv (.long y :: .long x :: st) σ := by
  obtain ⟨p, l, e, R, s, m, args, below, meth, c, ⟨nc, ns⟩, Qf, A, E, nX⟩ := X
  obtain ⟨hx, hb, ⟨hnX, hml⟩, hown, hts, hK, hD, hN, ⟨hc, hs⟩, hf, hlo⟩ := C
  exact fun H locs ls hP hS hL => lv_lxor hx hb hd (K H locs ls hP hS hL)
theorem z_idiv (C : zC X cc own nL d) {x y : Int32} (hd : decode cc pc = .ok (.idiv, 1)) (hne : ¬ y = 0) (K : zV X (pc + 1) lv (.int (x / y) :: st) σ) : zV X pc lv (.int y :: .int x :: st) σ := by
  obtain ⟨p, l, e, R, s, m, args, below, meth, c, ⟨nc, ns⟩, Qf, A, E, nX⟩ := X
  obtain ⟨hx, hb, ⟨hnX, hml⟩, hown, hts, hK, hD, hN, ⟨hc, hs⟩, hf, hlo⟩ := C
  exact fun H locs ls hP hS hL => lv_idiv hx hb hd hne (K H locs ls hP hS hL)
theorem z_irem (C : zC X cc own nL d) {x y : Int32} (hd : decode cc pc = .ok (.irem, 1)) (hne : ¬ y = 0) (K : zV X (pc + 1) lv (.int (x - x / y * y) :: st) σ) : zV X pc lv (.int y :: .int x :: st) σ := by
  obtain ⟨p, l, e, R, s, m, args, below, meth, c, ⟨nc, ns⟩, Qf, A, E, nX⟩ := X
  obtain ⟨hx, hb, ⟨hnX, hml⟩, hown, hts, hK, hD, hN, ⟨hc, hs⟩, hf, hlo⟩ := C
  exact fun H locs ls hP hS hL => lv_irem hx hb hd hne (K H locs ls hP hS hL)
theorem z_ldiv (C : zC X cc own nL d) {x y : Int64} (hd : decode cc pc = .ok (.ldiv, 1)) (hne : ¬ y = 0) (K : zV X (pc + 1) lv (.long (x / y) :: st) σ) : zV X pc lv (.long y :: .long x :: st) σ := by
  obtain ⟨p, l, e, R, s, m, args, below, meth, c, ⟨nc, ns⟩, Qf, A, E, nX⟩ := X
  obtain ⟨hx, hb, ⟨hnX, hml⟩, hown, hts, hK, hD, hN, ⟨hc, hs⟩, hf, hlo⟩ := C
  exact fun H locs ls hP hS hL => lv_ldiv hx hb hd hne (K H locs ls hP hS hL)
theorem z_lrem (C : zC X cc own nL d) {x y : Int64} (hd : decode cc pc = .ok (.lrem, 1)) (hne : ¬ y = 0) (K : zV X (pc + 1) lv (.long (x - x / y * y) :: st) σ) : zV X pc lv (.long y :: .long x :: st) σ := by
  obtain ⟨p, l, e, R, s, m, args, below, meth, c, ⟨nc, ns⟩, Qf, A, E, nX⟩ := X
  obtain ⟨hx, hb, ⟨hnX, hml⟩, hown, hts, hK, hD, hN, ⟨hc, hs⟩, hf, hlo⟩ := C
  exact fun H locs ls hP hS hL => lv_lrem hx hb hd hne (K H locs ls hP hS hL)
theorem z_ineg (C : zC X cc own nL d) {x : Int32} (hd : decode cc pc = .ok (.ineg, 1)) (K : zV X (pc + 1) lv (.int (-x) :: st) σ) : zV X pc lv (.int x :: st) σ := by
  obtain ⟨p, l, e, R, s, m, args, below, meth, c, ⟨nc, ns⟩, Qf, A, E, nX⟩ := X
  obtain ⟨hx, hb, ⟨hnX, hml⟩, hown, hts, hK, hD, hN, ⟨hc, hs⟩, hf, hlo⟩ := C
  exact fun H locs ls hP hS hL => lv_ineg hx hb hd (K H locs ls hP hS hL)
theorem z_lneg (C : zC X cc own nL d) {x : Int64} (hd : decode cc pc = .ok (.lneg, 1)) (K : zV X (pc + 1) lv (.long (-x) :: st) σ) : zV X pc lv (.long x :: st) σ := by
  obtain ⟨p, l, e, R, s, m, args, below, meth, c, ⟨nc, ns⟩, Qf, A, E, nX⟩ := X
  obtain ⟨hx, hb, ⟨hnX, hml⟩, hown, hts, hK, hD, hN, ⟨hc, hs⟩, hf, hlo⟩ := C
  exact fun H locs ls hP hS hL => lv_lneg hx hb hd (K H locs ls hP hS hL)
theorem z_lshl (C : zC X cc own nL d) {x : Int64} {y : Int32} (hd : decode cc pc = .ok (.lshl, 1)) (K : zV X (pc + 1) lv (.long (x <<< (y.toInt64 &&& 63)) :: st) σ) : zV X pc lv (.int y :: .long x :: st) σ := by
  obtain ⟨p, l, e, R, s, m, args, below, meth, c, ⟨nc, ns⟩, Qf, A, E, nX⟩ := X
  obtain ⟨hx, hb, ⟨hnX, hml⟩, hown, hts, hK, hD, hN, ⟨hc, hs⟩, hf, hlo⟩ := C
  exact fun H locs ls hP hS hL => lv_lshl hx hb hd rfl (K H locs ls hP hS hL)
theorem z_lshr (C : zC X cc own nL d) {x : Int64} {y : Int32} (hd : decode cc pc = .ok (.lshr, 1)) (K : zV X (pc + 1) lv (.long (x >>> (y.toInt64 &&& 63)) :: st) σ) : zV X pc lv (.int y :: .long x :: st) σ := by
  obtain ⟨p, l, e, R, s, m, args, below, meth, c, ⟨nc, ns⟩, Qf, A, E, nX⟩ := X
  obtain ⟨hx, hb, ⟨hnX, hml⟩, hown, hts, hK, hD, hN, ⟨hc, hs⟩, hf, hlo⟩ := C
  exact fun H locs ls hP hS hL => lv_lshr hx hb hd rfl (K H locs ls hP hS hL)
theorem z_i2l (C : zC X cc own nL d) {x : Int32} (hd : decode cc pc = .ok (.i2l, 1)) (K : zV X (pc + 1) lv (.long x.toInt64 :: st) σ) : zV X pc lv (.int x :: st) σ := by
  obtain ⟨p, l, e, R, s, m, args, below, meth, c, ⟨nc, ns⟩, Qf, A, E, nX⟩ := X
  obtain ⟨hx, hb, ⟨hnX, hml⟩, hown, hts, hK, hD, hN, ⟨hc, hs⟩, hf, hlo⟩ := C
  exact fun H locs ls hP hS hL => lv_i2l hx hb hd rfl (K H locs ls hP hS hL)
theorem z_l2i (C : zC X cc own nL d) {x : Int64} (hd : decode cc pc = .ok (.l2i, 1)) (K : zV X (pc + 1) lv (.int x.toInt32 :: st) σ) : zV X pc lv (.long x :: st) σ := by
  obtain ⟨p, l, e, R, s, m, args, below, meth, c, ⟨nc, ns⟩, Qf, A, E, nX⟩ := X
  obtain ⟨hx, hb, ⟨hnX, hml⟩, hown, hts, hK, hD, hN, ⟨hc, hs⟩, hf, hlo⟩ := C
  exact fun H locs ls hP hS hL => lv_l2i hx hb hd rfl (K H locs ls hP hS hL)
theorem z_i2b (C : zC X cc own nL d) {x : Int32} (hd : decode cc pc = .ok (.i2b, 1)) (K : zV X (pc + 1) lv (.int x.toInt8.toInt32 :: st) σ) : zV X pc lv (.int x :: st) σ := by
  obtain ⟨p, l, e, R, s, m, args, below, meth, c, ⟨nc, ns⟩, Qf, A, E, nX⟩ := X
  obtain ⟨hx, hb, ⟨hnX, hml⟩, hown, hts, hK, hD, hN, ⟨hc, hs⟩, hf, hlo⟩ := C
  exact fun H locs ls hP hS hL => lv_i2b hx hb hd rfl (K H locs ls hP hS hL)
theorem z_i2s (C : zC X cc own nL d) {x : Int32} (hd : decode cc pc = .ok (.i2s, 1)) (K : zV X (pc + 1) lv (.int x.toInt16.toInt32 :: st) σ) : zV X pc lv (.int x :: st) σ := by
  obtain ⟨p, l, e, R, s, m, args, below, meth, c, ⟨nc, ns⟩, Qf, A, E, nX⟩ := X
  obtain ⟨hx, hb, ⟨hnX, hml⟩, hown, hts, hK, hD, hN, ⟨hc, hs⟩, hf, hlo⟩ := C
  exact fun H locs ls hP hS hL => lv_i2s hx hb hd rfl (K H locs ls hP hS hL)
theorem z_dup (C : zC X cc own nL d) {a : Value} (hd : decode cc pc = .ok (.dup, 1)) (h1 : a.category = 1) (K : zV X (pc + 1) lv (a :: a :: st) σ) : zV X pc lv (a :: st) σ := by
  obtain ⟨p, l, e, R, s, m, args, below, meth, c, ⟨nc, ns⟩, Qf, A, E, nX⟩ := X
  obtain ⟨hx, hb, ⟨hnX, hml⟩, hown, hts, hK, hD, hN, ⟨hc, hs⟩, hf, hlo⟩ := C
  exact fun H locs ls hP hS hL => lv_dup hx hb hd h1 (K H locs ls hP hS hL)
theorem z_pop (C : zC X cc own nL d) {a : Value} (hd : decode cc pc = .ok (.pop, 1)) (h1 : a.category = 1) (K : zV X (pc + 1) lv (st) σ) : zV X pc lv (a :: st) σ := by
  obtain ⟨p, l, e, R, s, m, args, below, meth, c, ⟨nc, ns⟩, Qf, A, E, nX⟩ := X
  obtain ⟨hx, hb, ⟨hnX, hml⟩, hown, hts, hK, hD, hN, ⟨hc, hs⟩, hf, hlo⟩ := C
  exact fun H locs ls hP hS hL => lv_pop hx hb hd h1 (K H locs ls hP hS hL)
theorem z_pop2 (C : zC X cc own nL d) {a : Value} (hd : decode cc pc = .ok (.pop2, 1)) (h1 : a.category = 2) (K : zV X (pc + 1) lv (st) σ) : zV X pc lv (a :: st) σ := by
  obtain ⟨p, l, e, R, s, m, args, below, meth, c, ⟨nc, ns⟩, Qf, A, E, nX⟩ := X
  obtain ⟨hx, hb, ⟨hnX, hml⟩, hown, hts, hK, hD, hN, ⟨hc, hs⟩, hf, hlo⟩ := C
  exact fun H locs ls hP hS hL => lv_pop2_2 hx hb hd h1 (K H locs ls hP hS hL)
theorem z_dup2_11 (C : zC X cc own nL d) {a b : Value} (hd : decode cc pc = .ok (.dup2, 1)) (h1 : a.category = 1) (h2 : b.category = 1) (K : zV X (pc + 1) lv (a :: b :: a :: b :: st) σ) : zV X pc lv (a :: b :: st) σ := by
  obtain ⟨p, l, e, R, s, m, args, below, meth, c, ⟨nc, ns⟩, Qf, A, E, nX⟩ := X
  obtain ⟨hx, hb, ⟨hnX, hml⟩, hown, hts, hK, hD, hN, ⟨hc, hs⟩, hf, hlo⟩ := C
  exact fun H locs ls hP hS hL => lv_dup2_11 hx hb hd h1 h2 (K H locs ls hP hS hL)
theorem z_dup2_2 (C : zC X cc own nL d) {a : Value} (hd : decode cc pc = .ok (.dup2, 1)) (h1 : a.category = 2) (K : zV X (pc + 1) lv (a :: a :: st) σ) : zV X pc lv (a :: st) σ := by
  obtain ⟨p, l, e, R, s, m, args, below, meth, c, ⟨nc, ns⟩, Qf, A, E, nX⟩ := X
  obtain ⟨hx, hb, ⟨hnX, hml⟩, hown, hts, hK, hD, hN, ⟨hc, hs⟩, hf, hlo⟩ := C
  exact fun H locs ls hP hS hL => lv_dup2_2 hx hb hd h1 (K H locs ls hP hS hL)
theorem z_if_eq (C : zC X cc own nL d) {x : Int32} {off : Int} {tgt : Nat} (hd : decode cc pc = .ok (.ifCond .eq off, 3)) (ht : (pc : Int) + off = (tgt : Int)) (kt : x = 0 → zV X tgt lv st σ) (kf : ¬ x = 0 → zV X (pc + 3) lv st σ) : zV X pc lv (.int x :: st) σ := by
  obtain ⟨p, l, e, R, s, m, args, below, meth, c, ⟨nc, ns⟩, Qf, A, E, nX⟩ := X
  obtain ⟨hx, hb, ⟨hnX, hml⟩, hown, hts, hK, hD, hN, ⟨hc, hs⟩, hf, hlo⟩ := C
  exact fun H locs ls hP hS hL => lv_if_eq hx hb hd ht (fun h => kt h H locs ls hP hS hL) (fun h => kf h H locs ls hP hS hL)
theorem z_if_ne (C : zC X cc own nL d) {x : Int32} {off : Int} {tgt : Nat} (hd : decode cc pc = .ok (.ifCond .ne off, 3)) (ht : (pc : Int) + off = (tgt : Int)) (kt : ¬ x = 0 → zV X tgt lv st σ) (kf : x = 0 → zV X (pc + 3) lv st σ) : zV X pc lv (.int x :: st) σ := by
  obtain ⟨p, l, e, R, s, m, args, below, meth, c, ⟨nc, ns⟩, Qf, A, E, nX⟩ := X
  obtain ⟨hx, hb, ⟨hnX, hml⟩, hown, hts, hK, hD, hN, ⟨hc, hs⟩, hf, hlo⟩ := C
  exact fun H locs ls hP hS hL => lv_if_ne hx hb hd ht (fun h => kt h H locs ls hP hS hL) (fun h => kf h H locs ls hP hS hL)
theorem z_if_lt (C : zC X cc own nL d) {x : Int32} {off : Int} {tgt : Nat} (hd : decode cc pc = .ok (.ifCond .lt off, 3)) (ht : (pc : Int) + off = (tgt : Int)) (kt : x < 0 → zV X tgt lv st σ) (kf : ¬ x < 0 → zV X (pc + 3) lv st σ) : zV X pc lv (.int x :: st) σ := by
  obtain ⟨p, l, e, R, s, m, args, below, meth, c, ⟨nc, ns⟩, Qf, A, E, nX⟩ := X
  obtain ⟨hx, hb, ⟨hnX, hml⟩, hown, hts, hK, hD, hN, ⟨hc, hs⟩, hf, hlo⟩ := C
  exact fun H locs ls hP hS hL => lv_if_lt hx hb hd ht (fun h => kt h H locs ls hP hS hL) (fun h => kf h H locs ls hP hS hL)
theorem z_if_ge (C : zC X cc own nL d) {x : Int32} {off : Int} {tgt : Nat} (hd : decode cc pc = .ok (.ifCond .ge off, 3)) (ht : (pc : Int) + off = (tgt : Int)) (kt : 0 ≤ x → zV X tgt lv st σ) (kf : ¬ 0 ≤ x → zV X (pc + 3) lv st σ) : zV X pc lv (.int x :: st) σ := by
  obtain ⟨p, l, e, R, s, m, args, below, meth, c, ⟨nc, ns⟩, Qf, A, E, nX⟩ := X
  obtain ⟨hx, hb, ⟨hnX, hml⟩, hown, hts, hK, hD, hN, ⟨hc, hs⟩, hf, hlo⟩ := C
  exact fun H locs ls hP hS hL => lv_if_ge hx hb hd ht (fun h => kt h H locs ls hP hS hL) (fun h => kf h H locs ls hP hS hL)
theorem z_if_gt (C : zC X cc own nL d) {x : Int32} {off : Int} {tgt : Nat} (hd : decode cc pc = .ok (.ifCond .gt off, 3)) (ht : (pc : Int) + off = (tgt : Int)) (kt : 0 < x → zV X tgt lv st σ) (kf : ¬ 0 < x → zV X (pc + 3) lv st σ) : zV X pc lv (.int x :: st) σ := by
  obtain ⟨p, l, e, R, s, m, args, below, meth, c, ⟨nc, ns⟩, Qf, A, E, nX⟩ := X
  obtain ⟨hx, hb, ⟨hnX, hml⟩, hown, hts, hK, hD, hN, ⟨hc, hs⟩, hf, hlo⟩ := C
  exact fun H locs ls hP hS hL => lv_if_gt hx hb hd ht (fun h => kt h H locs ls hP hS hL) (fun h => kf h H locs ls hP hS hL)
theorem z_if_le (C : zC X cc own nL d) {x : Int32} {off : Int} {tgt : Nat} (hd : decode cc pc = .ok (.ifCond .le off, 3)) (ht : (pc : Int) + off = (tgt : Int)) (kt : x ≤ 0 → zV X tgt lv st σ) (kf : ¬ x ≤ 0 → zV X (pc + 3) lv st σ) : zV X pc lv (.int x :: st) σ := by
  obtain ⟨p, l, e, R, s, m, args, below, meth, c, ⟨nc, ns⟩, Qf, A, E, nX⟩ := X
  obtain ⟨hx, hb, ⟨hnX, hml⟩, hown, hts, hK, hD, hN, ⟨hc, hs⟩, hf, hlo⟩ := C
  exact fun H locs ls hP hS hL => lv_if_le hx hb hd ht (fun h => kt h H locs ls hP hS hL) (fun h => kf h H locs ls hP hS hL)
theorem z_icmp_eq (C : zC X cc own nL d) {x y : Int32} {off : Int} {tgt : Nat} (hd : decode cc pc = .ok (.if_icmp .eq off, 3)) (ht : (pc : Int) + off = (tgt : Int)) (kt : x = y → zV X tgt lv st σ) (kf : ¬ x = y → zV X (pc + 3) lv st σ) : zV X pc lv (.int y :: .int x :: st) σ := by
  obtain ⟨p, l, e, R, s, m, args, below, meth, c, ⟨nc, ns⟩, Qf, A, E, nX⟩ := X
  obtain ⟨hx, hb, ⟨hnX, hml⟩, hown, hts, hK, hD, hN, ⟨hc, hs⟩, hf, hlo⟩ := C
  exact fun H locs ls hP hS hL => lv_icmp_eq hx hb hd ht (fun h => kt h H locs ls hP hS hL) (fun h => kf h H locs ls hP hS hL)
theorem z_icmp_ne (C : zC X cc own nL d) {x y : Int32} {off : Int} {tgt : Nat} (hd : decode cc pc = .ok (.if_icmp .ne off, 3)) (ht : (pc : Int) + off = (tgt : Int)) (kt : ¬ x = y → zV X tgt lv st σ) (kf : x = y → zV X (pc + 3) lv st σ) : zV X pc lv (.int y :: .int x :: st) σ := by
  obtain ⟨p, l, e, R, s, m, args, below, meth, c, ⟨nc, ns⟩, Qf, A, E, nX⟩ := X
  obtain ⟨hx, hb, ⟨hnX, hml⟩, hown, hts, hK, hD, hN, ⟨hc, hs⟩, hf, hlo⟩ := C
  exact fun H locs ls hP hS hL => lv_icmp_ne hx hb hd ht (fun h => kt h H locs ls hP hS hL) (fun h => kf h H locs ls hP hS hL)
theorem z_icmp_lt (C : zC X cc own nL d) {x y : Int32} {off : Int} {tgt : Nat} (hd : decode cc pc = .ok (.if_icmp .lt off, 3)) (ht : (pc : Int) + off = (tgt : Int)) (kt : x < y → zV X tgt lv st σ) (kf : ¬ x < y → zV X (pc + 3) lv st σ) : zV X pc lv (.int y :: .int x :: st) σ := by
  obtain ⟨p, l, e, R, s, m, args, below, meth, c, ⟨nc, ns⟩, Qf, A, E, nX⟩ := X
  obtain ⟨hx, hb, ⟨hnX, hml⟩, hown, hts, hK, hD, hN, ⟨hc, hs⟩, hf, hlo⟩ := C
  exact fun H locs ls hP hS hL => lv_icmp_lt hx hb hd ht (fun h => kt h H locs ls hP hS hL) (fun h => kf h H locs ls hP hS hL)
theorem z_icmp_ge (C : zC X cc own nL d) {x y : Int32} {off : Int} {tgt : Nat} (hd : decode cc pc = .ok (.if_icmp .ge off, 3)) (ht : (pc : Int) + off = (tgt : Int)) (kt : y ≤ x → zV X tgt lv st σ) (kf : ¬ y ≤ x → zV X (pc + 3) lv st σ) : zV X pc lv (.int y :: .int x :: st) σ := by
  obtain ⟨p, l, e, R, s, m, args, below, meth, c, ⟨nc, ns⟩, Qf, A, E, nX⟩ := X
  obtain ⟨hx, hb, ⟨hnX, hml⟩, hown, hts, hK, hD, hN, ⟨hc, hs⟩, hf, hlo⟩ := C
  exact fun H locs ls hP hS hL => lv_icmp_ge hx hb hd ht (fun h => kt h H locs ls hP hS hL) (fun h => kf h H locs ls hP hS hL)
theorem z_icmp_gt (C : zC X cc own nL d) {x y : Int32} {off : Int} {tgt : Nat} (hd : decode cc pc = .ok (.if_icmp .gt off, 3)) (ht : (pc : Int) + off = (tgt : Int)) (kt : y < x → zV X tgt lv st σ) (kf : ¬ y < x → zV X (pc + 3) lv st σ) : zV X pc lv (.int y :: .int x :: st) σ := by
  obtain ⟨p, l, e, R, s, m, args, below, meth, c, ⟨nc, ns⟩, Qf, A, E, nX⟩ := X
  obtain ⟨hx, hb, ⟨hnX, hml⟩, hown, hts, hK, hD, hN, ⟨hc, hs⟩, hf, hlo⟩ := C
  exact fun H locs ls hP hS hL => lv_icmp_gt hx hb hd ht (fun h => kt h H locs ls hP hS hL) (fun h => kf h H locs ls hP hS hL)
theorem z_icmp_le (C : zC X cc own nL d) {x y : Int32} {off : Int} {tgt : Nat} (hd : decode cc pc = .ok (.if_icmp .le off, 3)) (ht : (pc : Int) + off = (tgt : Int)) (kt : x ≤ y → zV X tgt lv st σ) (kf : ¬ x ≤ y → zV X (pc + 3) lv st σ) : zV X pc lv (.int y :: .int x :: st) σ := by
  obtain ⟨p, l, e, R, s, m, args, below, meth, c, ⟨nc, ns⟩, Qf, A, E, nX⟩ := X
  obtain ⟨hx, hb, ⟨hnX, hml⟩, hown, hts, hK, hD, hN, ⟨hc, hs⟩, hf, hlo⟩ := C
  exact fun H locs ls hP hS hL => lv_icmp_le hx hb hd ht (fun h => kt h H locs ls hP hS hL) (fun h => kf h H locs ls hP hS hL)
theorem zl_eq (x y : Int64) : (lg_cmp x y = 0) ↔ x = y := by
  have e1 : x = y ↔ x.toInt = y.toInt := ⟨fun h => by rw [h], Int64.toInt_inj.mp⟩
  rw [show lg_cmp x y = _ from rfl]
  unfold lg_cmp
  split
  · rename_i h
    simp only [Int64.lt_iff_toInt_lt, Int64.le_iff_toInt_le, e1] at h ⊢
    first | (constructor <;> intro q <;> first | omega | (exact absurd q (by decide)) | decide) | (simp; omega)
  · split
    · rename_i h1 h2
      simp only [Int64.lt_iff_toInt_lt, Int64.le_iff_toInt_le, e1] at h1 h2 ⊢
      first | (constructor <;> intro q <;> first | omega | (exact absurd q (by decide)) | decide) | (simp; omega)
    · rename_i h1 h2
      simp only [Int64.lt_iff_toInt_lt, Int64.le_iff_toInt_le, e1] at h1 h2 ⊢
      first | (constructor <;> intro q <;> first | omega | (exact absurd q (by decide)) | decide) | (simp; omega)
theorem z_lcmp_eq (C : zC X cc own nL d) {x y : Int64} {off : Int} {tgt : Nat} (hd : decode cc pc = .ok (.lcmp, 1)) (hd2 : decode cc (pc + 1) = .ok (.ifCond .eq off, 3)) (ht : ((pc + 1 : Nat) : Int) + off = (tgt : Int)) (kt : x = y → zV X tgt lv st σ) (kf : ¬ x = y → zV X (pc + 1 + 3) lv st σ) : zV X pc lv (.long y :: .long x :: st) σ := by
  obtain ⟨p, l, e, R, s, m, args, below, meth, c, ⟨nc, ns⟩, Qf, A, E, nX⟩ := X
  obtain ⟨hx, hb, ⟨hnX, hml⟩, hown, hts, hK, hD, hN, ⟨hc, hs⟩, hf, hlo⟩ := C
  refine fun H locs ls hP hS hL => W.lcmp hx hb hd (lv_if_eq hx hb hd2 ht (fun h => kt ?_ H locs ls hP hS hL) (fun h => kf ?_ H locs ls hP hS hL))
  · exact (zl_eq x y).mp h
  · exact fun q => h ((zl_eq x y).mpr q)
theorem zl_ne (x y : Int64) : (¬ lg_cmp x y = 0) ↔ ¬ x = y := by
  have e1 : x = y ↔ x.toInt = y.toInt := ⟨fun h => by rw [h], Int64.toInt_inj.mp⟩
  rw [show lg_cmp x y = _ from rfl]
  unfold lg_cmp
  split
  · rename_i h
    simp only [Int64.lt_iff_toInt_lt, Int64.le_iff_toInt_le, e1] at h ⊢
    first | (constructor <;> intro q <;> first | omega | (exact absurd q (by decide)) | decide) | (simp; omega)
  · split
    · rename_i h1 h2
      simp only [Int64.lt_iff_toInt_lt, Int64.le_iff_toInt_le, e1] at h1 h2 ⊢
      first | (constructor <;> intro q <;> first | omega | (exact absurd q (by decide)) | decide) | (simp; omega)
    · rename_i h1 h2
      simp only [Int64.lt_iff_toInt_lt, Int64.le_iff_toInt_le, e1] at h1 h2 ⊢
      first | (constructor <;> intro q <;> first | omega | (exact absurd q (by decide)) | decide) | (simp; omega)
theorem z_lcmp_ne (C : zC X cc own nL d) {x y : Int64} {off : Int} {tgt : Nat} (hd : decode cc pc = .ok (.lcmp, 1)) (hd2 : decode cc (pc + 1) = .ok (.ifCond .ne off, 3)) (ht : ((pc + 1 : Nat) : Int) + off = (tgt : Int)) (kt : ¬ x = y → zV X tgt lv st σ) (kf : x = y → zV X (pc + 1 + 3) lv st σ) : zV X pc lv (.long y :: .long x :: st) σ := by
  obtain ⟨p, l, e, R, s, m, args, below, meth, c, ⟨nc, ns⟩, Qf, A, E, nX⟩ := X
  obtain ⟨hx, hb, ⟨hnX, hml⟩, hown, hts, hK, hD, hN, ⟨hc, hs⟩, hf, hlo⟩ := C
  refine fun H locs ls hP hS hL => W.lcmp hx hb hd (lv_if_ne hx hb hd2 ht (fun h => kt ?_ H locs ls hP hS hL) (fun h => kf ?_ H locs ls hP hS hL))
  · exact (zl_ne x y).mp h
  · exact Classical.byContradiction fun q => absurd h ((zl_ne x y).mpr q)
theorem zl_lt (x y : Int64) : (lg_cmp x y < 0) ↔ x < y := by
  have e1 : x = y ↔ x.toInt = y.toInt := ⟨fun h => by rw [h], Int64.toInt_inj.mp⟩
  rw [show lg_cmp x y = _ from rfl]
  unfold lg_cmp
  split
  · rename_i h
    simp only [Int64.lt_iff_toInt_lt, Int64.le_iff_toInt_le, e1] at h ⊢
    first | (constructor <;> intro q <;> first | omega | (exact absurd q (by decide)) | decide) | (simp; omega)
  · split
    · rename_i h1 h2
      simp only [Int64.lt_iff_toInt_lt, Int64.le_iff_toInt_le, e1] at h1 h2 ⊢
      first | (constructor <;> intro q <;> first | omega | (exact absurd q (by decide)) | decide) | (simp; omega)
    · rename_i h1 h2
      simp only [Int64.lt_iff_toInt_lt, Int64.le_iff_toInt_le, e1] at h1 h2 ⊢
      first | (constructor <;> intro q <;> first | omega | (exact absurd q (by decide)) | decide) | (simp; omega)
theorem z_lcmp_lt (C : zC X cc own nL d) {x y : Int64} {off : Int} {tgt : Nat} (hd : decode cc pc = .ok (.lcmp, 1)) (hd2 : decode cc (pc + 1) = .ok (.ifCond .lt off, 3)) (ht : ((pc + 1 : Nat) : Int) + off = (tgt : Int)) (kt : x < y → zV X tgt lv st σ) (kf : ¬ x < y → zV X (pc + 1 + 3) lv st σ) : zV X pc lv (.long y :: .long x :: st) σ := by
  obtain ⟨p, l, e, R, s, m, args, below, meth, c, ⟨nc, ns⟩, Qf, A, E, nX⟩ := X
  obtain ⟨hx, hb, ⟨hnX, hml⟩, hown, hts, hK, hD, hN, ⟨hc, hs⟩, hf, hlo⟩ := C
  refine fun H locs ls hP hS hL => W.lcmp hx hb hd (lv_if_lt hx hb hd2 ht (fun h => kt ?_ H locs ls hP hS hL) (fun h => kf ?_ H locs ls hP hS hL))
  · exact (zl_lt x y).mp h
  · exact fun q => h ((zl_lt x y).mpr q)
theorem zl_ge (x y : Int64) : (0 ≤ lg_cmp x y) ↔ y ≤ x := by
  have e1 : x = y ↔ x.toInt = y.toInt := ⟨fun h => by rw [h], Int64.toInt_inj.mp⟩
  rw [show lg_cmp x y = _ from rfl]
  unfold lg_cmp
  split
  · rename_i h
    simp only [Int64.lt_iff_toInt_lt, Int64.le_iff_toInt_le, e1] at h ⊢
    first | (constructor <;> intro q <;> first | omega | (exact absurd q (by decide)) | decide) | (simp; omega)
  · split
    · rename_i h1 h2
      simp only [Int64.lt_iff_toInt_lt, Int64.le_iff_toInt_le, e1] at h1 h2 ⊢
      first | (constructor <;> intro q <;> first | omega | (exact absurd q (by decide)) | decide) | (simp; omega)
    · rename_i h1 h2
      simp only [Int64.lt_iff_toInt_lt, Int64.le_iff_toInt_le, e1] at h1 h2 ⊢
      first | (constructor <;> intro q <;> first | omega | (exact absurd q (by decide)) | decide) | (simp; omega)
theorem z_lcmp_ge (C : zC X cc own nL d) {x y : Int64} {off : Int} {tgt : Nat} (hd : decode cc pc = .ok (.lcmp, 1)) (hd2 : decode cc (pc + 1) = .ok (.ifCond .ge off, 3)) (ht : ((pc + 1 : Nat) : Int) + off = (tgt : Int)) (kt : y ≤ x → zV X tgt lv st σ) (kf : ¬ y ≤ x → zV X (pc + 1 + 3) lv st σ) : zV X pc lv (.long y :: .long x :: st) σ := by
  obtain ⟨p, l, e, R, s, m, args, below, meth, c, ⟨nc, ns⟩, Qf, A, E, nX⟩ := X
  obtain ⟨hx, hb, ⟨hnX, hml⟩, hown, hts, hK, hD, hN, ⟨hc, hs⟩, hf, hlo⟩ := C
  refine fun H locs ls hP hS hL => W.lcmp hx hb hd (lv_if_ge hx hb hd2 ht (fun h => kt ?_ H locs ls hP hS hL) (fun h => kf ?_ H locs ls hP hS hL))
  · exact (zl_ge x y).mp h
  · exact fun q => h ((zl_ge x y).mpr q)
theorem zl_gt (x y : Int64) : (0 < lg_cmp x y) ↔ y < x := by
  have e1 : x = y ↔ x.toInt = y.toInt := ⟨fun h => by rw [h], Int64.toInt_inj.mp⟩
  rw [show lg_cmp x y = _ from rfl]
  unfold lg_cmp
  split
  · rename_i h
    simp only [Int64.lt_iff_toInt_lt, Int64.le_iff_toInt_le, e1] at h ⊢
    first | (constructor <;> intro q <;> first | omega | (exact absurd q (by decide)) | decide) | (simp; omega)
  · split
    · rename_i h1 h2
      simp only [Int64.lt_iff_toInt_lt, Int64.le_iff_toInt_le, e1] at h1 h2 ⊢
      first | (constructor <;> intro q <;> first | omega | (exact absurd q (by decide)) | decide) | (simp; omega)
    · rename_i h1 h2
      simp only [Int64.lt_iff_toInt_lt, Int64.le_iff_toInt_le, e1] at h1 h2 ⊢
      first | (constructor <;> intro q <;> first | omega | (exact absurd q (by decide)) | decide) | (simp; omega)
theorem z_lcmp_gt (C : zC X cc own nL d) {x y : Int64} {off : Int} {tgt : Nat} (hd : decode cc pc = .ok (.lcmp, 1)) (hd2 : decode cc (pc + 1) = .ok (.ifCond .gt off, 3)) (ht : ((pc + 1 : Nat) : Int) + off = (tgt : Int)) (kt : y < x → zV X tgt lv st σ) (kf : ¬ y < x → zV X (pc + 1 + 3) lv st σ) : zV X pc lv (.long y :: .long x :: st) σ := by
  obtain ⟨p, l, e, R, s, m, args, below, meth, c, ⟨nc, ns⟩, Qf, A, E, nX⟩ := X
  obtain ⟨hx, hb, ⟨hnX, hml⟩, hown, hts, hK, hD, hN, ⟨hc, hs⟩, hf, hlo⟩ := C
  refine fun H locs ls hP hS hL => W.lcmp hx hb hd (lv_if_gt hx hb hd2 ht (fun h => kt ?_ H locs ls hP hS hL) (fun h => kf ?_ H locs ls hP hS hL))
  · exact (zl_gt x y).mp h
  · exact fun q => h ((zl_gt x y).mpr q)
theorem zl_le (x y : Int64) : (lg_cmp x y ≤ 0) ↔ x ≤ y := by
  have e1 : x = y ↔ x.toInt = y.toInt := ⟨fun h => by rw [h], Int64.toInt_inj.mp⟩
  rw [show lg_cmp x y = _ from rfl]
  unfold lg_cmp
  split
  · rename_i h
    simp only [Int64.lt_iff_toInt_lt, Int64.le_iff_toInt_le, e1] at h ⊢
    first | (constructor <;> intro q <;> first | omega | (exact absurd q (by decide)) | decide) | (simp; omega)
  · split
    · rename_i h1 h2
      simp only [Int64.lt_iff_toInt_lt, Int64.le_iff_toInt_le, e1] at h1 h2 ⊢
      first | (constructor <;> intro q <;> first | omega | (exact absurd q (by decide)) | decide) | (simp; omega)
    · rename_i h1 h2
      simp only [Int64.lt_iff_toInt_lt, Int64.le_iff_toInt_le, e1] at h1 h2 ⊢
      first | (constructor <;> intro q <;> first | omega | (exact absurd q (by decide)) | decide) | (simp; omega)
theorem z_lcmp_le (C : zC X cc own nL d) {x y : Int64} {off : Int} {tgt : Nat} (hd : decode cc pc = .ok (.lcmp, 1)) (hd2 : decode cc (pc + 1) = .ok (.ifCond .le off, 3)) (ht : ((pc + 1 : Nat) : Int) + off = (tgt : Int)) (kt : x ≤ y → zV X tgt lv st σ) (kf : ¬ x ≤ y → zV X (pc + 1 + 3) lv st σ) : zV X pc lv (.long y :: .long x :: st) σ := by
  obtain ⟨p, l, e, R, s, m, args, below, meth, c, ⟨nc, ns⟩, Qf, A, E, nX⟩ := X
  obtain ⟨hx, hb, ⟨hnX, hml⟩, hown, hts, hK, hD, hN, ⟨hc, hs⟩, hf, hlo⟩ := C
  refine fun H locs ls hP hS hL => W.lcmp hx hb hd (lv_if_le hx hb hd2 ht (fun h => kt ?_ H locs ls hP hS hL) (fun h => kf ?_ H locs ls hP hS hL))
  · exact (zl_le x y).mp h
  · exact fun q => h ((zl_le x y).mpr q)
theorem z_goto (C : zC X cc own nL d) {off : Int} {tgt : Nat} (hd : decode cc pc = .ok (.goto off, 3)) (ht : (pc : Int) + off = (tgt : Int)) (K : zV X tgt lv st σ) : zV X pc lv st σ := by
  obtain ⟨p, l, e, R, s, m, args, below, meth, c, ⟨nc, ns⟩, Qf, A, E, nX⟩ := X
  obtain ⟨hx, hb, ⟨hnX, hml⟩, hown, hts, hK, hD, hN, ⟨hc, hs⟩, hf, hlo⟩ := C
  exact fun H locs ls hP hS hL => lv_goto hx hb hd ht (K H locs ls hP hS hL)
theorem z_tabIn (C : zC X cc own nL d) {dflt lo hi : Int} {offs : Array Int} {len : Nat} {x : Int32} {off : Int} {tgt : Nat} (hd : decode cc pc = .ok (.tableswitch dflt lo hi offs, len)) (h1 : ¬ x.toInt < lo) (h2 : ¬ hi < x.toInt) (ho : offs[(x.toInt - lo).toNat]? = some off) (ht : (pc : Int) + off = (tgt : Int)) (K : zV X tgt lv st σ) : zV X pc lv (.int x :: st) σ := by
  obtain ⟨p, l, e, R, s, m, args, below, meth, c, ⟨nc, ns⟩, Qf, A, E, nX⟩ := X
  obtain ⟨hx, hb, ⟨hnX, hml⟩, hown, hts, hK, hD, hN, ⟨hc, hs⟩, hf, hlo⟩ := C
  exact fun H locs ls hP hS hL => lv_tableIn hx hb hd h1 h2 ho ht (K H locs ls hP hS hL)
theorem z_tabOut (C : zC X cc own nL d) {dflt lo hi : Int} {offs : Array Int} {len : Nat} {x : Int32} {tgt : Nat} (hd : decode cc pc = .ok (.tableswitch dflt lo hi offs, len)) (h1 : x.toInt < lo ∨ hi < x.toInt) (ht : (pc : Int) + dflt = (tgt : Int)) (K : zV X tgt lv st σ) : zV X pc lv (.int x :: st) σ := by
  obtain ⟨p, l, e, R, s, m, args, below, meth, c, ⟨nc, ns⟩, Qf, A, E, nX⟩ := X
  obtain ⟨hx, hb, ⟨hnX, hml⟩, hown, hts, hK, hD, hN, ⟨hc, hs⟩, hf, hlo⟩ := C
  exact fun H locs ls hP hS hL => lv_tableOut hx hb hd h1 ht (K H locs ls hP hS hL)
theorem z_ldc (C : zC X cc own nL d) {index : Nat} {v : Int32} (hw : Cond.constant own index v ∈ zW) (hd : decode cc pc = .ok (.ldc index, 2)) (K : zV X (pc + 2) lv (.int v :: st) σ) : zV X pc lv st σ := by
  obtain ⟨p, l, e, R, s, m, args, below, meth, c, ⟨nc, ns⟩, Qf, A, E, nX⟩ := X
  obtain ⟨hx, hb, ⟨hnX, hml⟩, hown, hts, hK, hD, hN, ⟨hc, hs⟩, hf, hlo⟩ := C
  exact fun H locs ls hP hS hL => lv_ldc hx hb hown (hts _ hw) hd (K H locs ls hP hS hL)
theorem z_ldc_w (C : zC X cc own nL d) {index : Nat} {v : Int32} (hw : Cond.constant own index v ∈ zW) (hd : decode cc pc = .ok (.ldc_w index, 3)) (K : zV X (pc + 3) lv (.int v :: st) σ) : zV X pc lv st σ := by
  obtain ⟨p, l, e, R, s, m, args, below, meth, c, ⟨nc, ns⟩, Qf, A, E, nX⟩ := X
  obtain ⟨hx, hb, ⟨hnX, hml⟩, hown, hts, hK, hD, hN, ⟨hc, hs⟩, hf, hlo⟩ := C
  exact fun H locs ls hP hS hL => lv_ldcw hx hb hown (hts _ hw) hd (K H locs ls hP hS hL)
theorem z_ldc2 (C : zC X cc own nL d) {index : Nat} {v : Int64} (hw : Cond.constantLong own index v ∈ zW) (hd : decode cc pc = .ok (.ldc2_w index, 3)) (K : zV X (pc + 3) lv (.long v :: st) σ) : zV X pc lv st σ := by
  obtain ⟨p, l, e, R, s, m, args, below, meth, c, ⟨nc, ns⟩, Qf, A, E, nX⟩ := X
  obtain ⟨hx, hb, ⟨hnX, hml⟩, hown, hts, hK, hD, hN, ⟨hc, hs⟩, hf, hlo⟩ := C
  exact fun H locs ls hP hS hL => lv_ldc2 hx hb hown (hts _ hw) hd (K H locs ls hP hS hL)
theorem z_get (C : zC X cc own nL d) {Cn : String} {T : u_T} {N ci k j index : Nat} {fs : List Value} {v : Value} (hcl : zCl[ci]? = some (Cn, T, N)) (hin : ∀ w ∈ u_ws Cn T N, w ∈ zW) (hr : 0 < zrows k) (hz : zct (zXE X) k 0 (zi σ k 0) (zj σ k 0) = .inr (ci, fs)) (hj : j < N) (hw : Cond.fieldLink own index Cn (T j).2.1 (T j).2.2.1 ∈ zW) (hC : (T j).1 = Cn) (hv : fs[j]? = some v) (hd : decode cc pc = .ok (.getfield index, 3)) (K : zV X (pc + 3) lv (v :: st) σ) : zV X pc lv (.ref ((zXE X).1 k 0) :: st) σ := by
  obtain ⟨p, l, e, R, s, m, args, below, meth, c, ⟨nc, ns⟩, Qf, A, E, nX⟩ := X
  obtain ⟨hx, hb, ⟨hnX, hml⟩, hown, hts, hK, hD, hN, ⟨hc, hs⟩, hf, hlo⟩ := C
  refine fun H locs ls hP hS hL => va_get (C := Cn) (T := T) (N := N) (ci := ci) (fs := fs) hx hb hts hin hown hK hP (zoff k + 0) ?_ hcl j hj (hts _ hw) (fun x h => by rw [hC] at h; exact h) hv hd (K H locs ls hP hS hL)
  rw [zws_get hr]
  exact congrArg (fun e => some (E.1 k 0, e)) hz
theorem z_put (C : zC X cc own nL d) {Cn : String} {T : u_T} {N ci k j index : Nat} {fs : List Value} {v : Value} {ty : FieldType} (σ' : zS) (hcl : zCl[ci]? = some (Cn, T, N)) (hin : ∀ w ∈ u_ws Cn T N, w ∈ zW) (ty0 : Nat → FieldType) (hty : ∀ k, k < N → parseFieldDescriptor (T k).2.2.1 = some (ty0 k)) (hnm : ∀ a, a < N → ∀ b, b < N → a ≠ b → (T a).2.1 ≠ (T b).2.1) (hr : 0 < zrows k) (hz : zct (zXE X) k 0 (zi σ k 0) (zj σ k 0) = .inr (ci, fs)) (hj : j < N) (hw : Cond.fieldLink own index Cn (T j).2.1 (T j).2.2.1 ∈ zW) (hC : (T j).1 = Cn) (hfin : (T j).2.2.2 = false) (hde : parseFieldDescriptor (T j).2.2.1 = some ty) (hnr : narrow ty v = v) (hfit : fits ty v = true) (hlen : j < fs.length) (hz' : zct (zXE X) k 0 (zi σ' k 0) (zj σ' k 0) = .inr (ci, fs.set j v)) (hag : zag σ σ' k 0) (hd : decode cc pc = .ok (.putfield index, 3)) (K : zV X (pc + 3) lv st σ') : zV X pc lv (v :: .ref ((zXE X).1 k 0) :: st) σ := by
  obtain ⟨p, l, e, R, s, m, args, below, meth, c, ⟨nc, ns⟩, Qf, A, E, nX⟩ := X
  obtain ⟨hx, hb, ⟨hnX, hml⟩, hown, hts, hK, hD, hN, ⟨hc, hs⟩, hf, hlo⟩ := C
  refine fun H locs ls hP hS hL => va_put (C := Cn) (T := T) (N := N) (ci := ci) (fs := fs) (ty := ty) hx hb hts hin ty0 hty hnm hown hK hP (hD σ) hS (zoff k + 0) ?_ hcl j hj (hts _ hw) (fun x h => by rw [hC] at h; exact h) hfin hde hnr hfit hlen hd (fun H1 locs1 hP1 _ hS1 => K H1 locs1 ls ?_ hS1 hL)
  · rw [zws_get hr]
    exact congrArg (fun e => some (E.1 k 0, e)) hz
  · have q := zws_set (E := E) hr hag
    rw [show zct E k 0 (zi σ' k 0) (zj σ' k 0) = .inr (ci, fs.set j v) from hz'] at q
    rw [← q]
    exact hP1
theorem z_getN (C : zC X cc own nL d) {Cn : String} {T : u_T} {N ci k j index : Nat} {host : String} {fs : List Value} {v : Value} (hcl : zCl[ci]? = some (Cn, T, N)) (hin : ∀ w ∈ u_ws Cn T N, w ∈ zW) (hr : 0 < zrows k) (hz : zct (zXE X) k 0 (zi σ k 0) (zj σ k 0) = .inr (ci, fs)) (hj : j < N) (hw : Cond.fieldLinkNest own index Cn (T j).2.1 (T j).2.2.1 host ∈ zNst) (hC : (T j).1 = Cn) (hv : fs[j]? = some v) (hd : decode cc pc = .ok (.getfield index, 3)) (K : zV X (pc + 3) lv (v :: st) σ) : zV X pc lv (.ref ((zXE X).1 k 0) :: st) σ := by
  obtain ⟨p, l, e, R, s, m, args, below, meth, c, ⟨nc, ns⟩, Qf, A, E, nX⟩ := X
  obtain ⟨hx, hb, ⟨hnX, hml⟩, hown, hts, hK, hD, hN, ⟨hc, hs⟩, hf, hlo⟩ := C
  refine fun H locs ls hP hS hL => va_getN (C := Cn) (T := T) (N := N) (ci := ci) (fs := fs) hx hb hts hin hown hK hP (zoff k + 0) ?_ hcl j hj (va_Nw.use (zNst_on _ hw) (hN _ hw)) (fun x h => by rw [hC] at h; exact h) hv hd (K H locs ls hP hS hL)
  rw [zws_get hr]
  exact congrArg (fun e => some (E.1 k 0, e)) hz
theorem z_putN (C : zC X cc own nL d) {Cn : String} {T : u_T} {N ci k j index : Nat} {host : String} {fs : List Value} {v : Value} {ty : FieldType} (σ' : zS) (hcl : zCl[ci]? = some (Cn, T, N)) (hin : ∀ w ∈ u_ws Cn T N, w ∈ zW) (ty0 : Nat → FieldType) (hty : ∀ k, k < N → parseFieldDescriptor (T k).2.2.1 = some (ty0 k)) (hnm : ∀ a, a < N → ∀ b, b < N → a ≠ b → (T a).2.1 ≠ (T b).2.1) (hr : 0 < zrows k) (hz : zct (zXE X) k 0 (zi σ k 0) (zj σ k 0) = .inr (ci, fs)) (hj : j < N) (hw : Cond.fieldLinkNest own index Cn (T j).2.1 (T j).2.2.1 host ∈ zNst) (hC : (T j).1 = Cn) (hfin : (T j).2.2.2 = false) (hde : parseFieldDescriptor (T j).2.2.1 = some ty) (hnr : narrow ty v = v) (hfit : fits ty v = true) (hlen : j < fs.length) (hz' : zct (zXE X) k 0 (zi σ' k 0) (zj σ' k 0) = .inr (ci, fs.set j v)) (hag : zag σ σ' k 0) (hd : decode cc pc = .ok (.putfield index, 3)) (K : zV X (pc + 3) lv st σ') : zV X pc lv (v :: .ref ((zXE X).1 k 0) :: st) σ := by
  obtain ⟨p, l, e, R, s, m, args, below, meth, c, ⟨nc, ns⟩, Qf, A, E, nX⟩ := X
  obtain ⟨hx, hb, ⟨hnX, hml⟩, hown, hts, hK, hD, hN, ⟨hc, hs⟩, hf, hlo⟩ := C
  refine fun H locs ls hP hS hL => va_putN (C := Cn) (T := T) (N := N) (ci := ci) (fs := fs) (ty := ty) hx hb hts hin ty0 hty hnm hown hK hP (hD σ) hS (zoff k + 0) ?_ hcl j hj (va_Nw.use (zNst_on _ hw) (hN _ hw)) (fun x h => by rw [hC] at h; exact h) hfin hde hnr hfit hlen hd (fun H1 locs1 hP1 _ hS1 => K H1 locs1 ls ?_ hS1 hL)
  · rw [zws_get hr]
    exact congrArg (fun e => some (E.1 k 0, e)) hz
  · have q := zws_set (E := E) hr hag
    rw [show zct E k 0 (zi σ' k 0) (zj σ' k 0) = .inr (ci, fs.set j v) from hz'] at q
    rw [← q]
    exact hP1
def zIA (k n t : Nat) : Prop := ∀ (E : zE) (r : Nat) (f : Nat → Int32) (g : Nat → Int64), zct E k r f g = .inl (E.2.2 t, n, .inl f)
def zJA (k n : Nat) : Prop := ∀ (E : zE) (r : Nat) (f : Nat → Int32) (g : Nat → Int64), zct E k r f g = .inl (E.2.2 1, n, .inr (.inl g))
def zRA (k n k' t : Nat) : Prop := ∀ (E : zE) (r : Nat) (f : Nat → Int32) (g : Nat → Int64), zct E k r f g = .inl (E.2.2 t, n, .inr (.inr (.inr (.inr (fun i => if i < n then some (E.1 k' i) else none)))))
theorem zin_lt {i : Int32} {n : Nat} (h : vp_in i n) : i.toNatClampNeg < n := Nat.not_le.mp fun q => h (Or.inr q)
theorem z_iald (C : zC X cc own nL d) {k n r : Nat} (hk : zIA k n 0) (hr : r < zrows k) {i : Int32} (j : Nat) (hi : i.toNatClampNeg = j) (hin : vp_in i n) (hd : decode cc pc = .ok (.iaload, 1)) (K : zV X (pc + 1) lv (.int (zi σ k r j) :: st) σ) : zV X pc lv (.int i :: .ref ((zXE X).1 k r) :: st) σ := by
  obtain ⟨p, l, e, R, s, m, args, below, meth, c, ⟨nc, ns⟩, Qf, A, E, nX⟩ := X
  obtain ⟨hx, hb, ⟨hnX, hml⟩, hown, hts, hK, hD, hN, ⟨hc, hs⟩, hf, hlo⟩ := C
  subst hi
  exact fun H locs ls hP hS hL => va_iald hx hb hK hP (zoff k + r) 0 (by rw [zws_get hr]; exact congrArg (fun e => some (E.1 k r, e)) (hk E r _ _)) rfl hin hd (K H locs ls hP hS hL)
theorem z_zald (C : zC X cc own nL d) {k n r : Nat} (hk : zIA k n 2) (hr : r < zrows k) {i : Int32} (j : Nat) (hi : i.toNatClampNeg = j) (hin : vp_in i n) (hd : decode cc pc = .ok (.baload, 1)) (K : zV X (pc + 1) lv (.int (zi σ k r j) :: st) σ) : zV X pc lv (.int i :: .ref ((zXE X).1 k r) :: st) σ := by
  obtain ⟨p, l, e, R, s, m, args, below, meth, c, ⟨nc, ns⟩, Qf, A, E, nX⟩ := X
  obtain ⟨hx, hb, ⟨hnX, hml⟩, hown, hts, hK, hD, hN, ⟨hc, hs⟩, hf, hlo⟩ := C
  subst hi
  exact fun H locs ls hP hS hL => va_zald hx hb hK hP (zoff k + r) 2 (by rw [zws_get hr]; exact congrArg (fun e => some (E.1 k r, e)) (hk E r _ _)) rfl hin hd (K H locs ls hP hS hL)
theorem z_lald (C : zC X cc own nL d) {k n r : Nat} (hk : zJA k n) (hr : r < zrows k) {i : Int32} (j : Nat) (hi : i.toNatClampNeg = j) (hin : vp_in i n) (hd : decode cc pc = .ok (.laload, 1)) (K : zV X (pc + 1) lv (.long (zj σ k r j) :: st) σ) : zV X pc lv (.int i :: .ref ((zXE X).1 k r) :: st) σ := by
  obtain ⟨p, l, e, R, s, m, args, below, meth, c, ⟨nc, ns⟩, Qf, A, E, nX⟩ := X
  obtain ⟨hx, hb, ⟨hnX, hml⟩, hown, hts, hK, hD, hN, ⟨hc, hs⟩, hf, hlo⟩ := C
  subst hi
  exact fun H locs ls hP hS hL => va_lald hx hb hK hP (zoff k + r) 1 (by rw [zws_get hr]; exact congrArg (fun e => some (E.1 k r, e)) (hk E r _ _)) rfl hin hd (K H locs ls hP hS hL)
theorem z_iast (C : zC X cc own nL d) {k n r : Nat} (hk : zIA k n 0) (hr : r < zrows k) {i : Int32} {x : Int32} (j : Nat) (hi : i.toNatClampNeg = j) (hin : vp_in i n) (hd : decode cc pc = .ok (.iastore, 1)) (K : zV X (pc + 1) lv st (zsi σ k r j x)) : zV X pc lv (.int x :: .int i :: .ref ((zXE X).1 k r) :: st) σ := by
  obtain ⟨p, l, e, R, s, m, args, below, meth, c, ⟨nc, ns⟩, Qf, A, E, nX⟩ := X
  obtain ⟨hx, hb, ⟨hnX, hml⟩, hown, hts, hK, hD, hN, ⟨hc, hs⟩, hf, hlo⟩ := C
  subst hi
  refine fun H locs ls hP hS hL => va_iast hx hb hK hP (hD σ) hS (zoff k + r) 0 (by rw [zws_get hr]; exact congrArg (fun e => some (E.1 k r, e)) (hk E r _ _)) rfl hin hd (fun H1 locs1 hP1 _ hS1 => K H1 locs1 ls ?_ hS1 hL)
  have q := zws_set (E := E) hr (zag_ci (σ := σ) (k := k) (r := r) (f := upd (zi σ k r) i.toNatClampNeg x))
  rw [hk, zi_ci, if_pos ⟨rfl, rfl⟩] at q
  unfold zsi
  rw [← q]
  exact hP1
theorem z_zast (C : zC X cc own nL d) {k n r : Nat} (hk : zIA k n 2) (hr : r < zrows k) {i : Int32} {x : Int32} (j : Nat) (hi : i.toNatClampNeg = j) (hin : vp_in i n) (hd : decode cc pc = .ok (.bastore, 1)) (K : zV X (pc + 1) lv st (zsi σ k r j (vp_nar .boolean x))) : zV X pc lv (.int x :: .int i :: .ref ((zXE X).1 k r) :: st) σ := by
  obtain ⟨p, l, e, R, s, m, args, below, meth, c, ⟨nc, ns⟩, Qf, A, E, nX⟩ := X
  obtain ⟨hx, hb, ⟨hnX, hml⟩, hown, hts, hK, hD, hN, ⟨hc, hs⟩, hf, hlo⟩ := C
  subst hi
  refine fun H locs ls hP hS hL => va_zast hx hb hK hP (hD σ) hS (zoff k + r) 2 (by rw [zws_get hr]; exact congrArg (fun e => some (E.1 k r, e)) (hk E r _ _)) rfl hin hd (fun H1 locs1 hP1 _ hS1 => K H1 locs1 ls ?_ hS1 hL)
  have q := zws_set (E := E) hr (zag_ci (σ := σ) (k := k) (r := r) (f := upd (zi σ k r) i.toNatClampNeg (vp_nar .boolean x)))
  rw [hk, zi_ci, if_pos ⟨rfl, rfl⟩] at q
  unfold zsi
  rw [← q]
  exact hP1
theorem z_last (C : zC X cc own nL d) {k n r : Nat} (hk : zJA k n) (hr : r < zrows k) {i : Int32} {x : Int64} (j : Nat) (hi : i.toNatClampNeg = j) (hin : vp_in i n) (hd : decode cc pc = .ok (.lastore, 1)) (K : zV X (pc + 1) lv st (zsj σ k r j x)) : zV X pc lv (.long x :: .int i :: .ref ((zXE X).1 k r) :: st) σ := by
  obtain ⟨p, l, e, R, s, m, args, below, meth, c, ⟨nc, ns⟩, Qf, A, E, nX⟩ := X
  obtain ⟨hx, hb, ⟨hnX, hml⟩, hown, hts, hK, hD, hN, ⟨hc, hs⟩, hf, hlo⟩ := C
  subst hi
  refine fun H locs ls hP hS hL => va_last hx hb hK hP (hD σ) hS (zoff k + r) 1 (by rw [zws_get hr]; exact congrArg (fun e => some (E.1 k r, e)) (hk E r _ _)) rfl hin hd (fun H1 locs1 hP1 _ hS1 => K H1 locs1 ls ?_ hS1 hL)
  have q := zws_set (E := E) hr (zag_cj (σ := σ) (k := k) (r := r) (g := vp_updL (zj σ k r) i.toNatClampNeg x))
  rw [hk, zj_cj, if_pos ⟨rfl, rfl⟩] at q
  unfold zsj
  rw [← q]
  exact hP1
theorem z_aald (C : zC X cc own nL d) {k n k' t : Nat} {ty : FieldType} (hk : zRA k n k' t) (hr : 0 < zrows k) (ht : (zTy (zXE X))[t]? = some ((zXE X).2.2 t, .array ty)) {i : Int32} (j : Nat) (hi : i.toNatClampNeg = j) (hin : vp_in i n) (hd : decode cc pc = .ok (.aaload, 1)) (K : zV X (pc + 1) lv (.ref ((zXE X).1 k' j) :: st) σ) : zV X pc lv (.int i :: .ref ((zXE X).1 k 0) :: st) σ := by
  obtain ⟨p, l, e, R, s, m, args, below, meth, c, ⟨nc, ns⟩, Qf, A, E, nX⟩ := X
  obtain ⟨hx, hb, ⟨hnX, hml⟩, hown, hts, hK, hD, hN, ⟨hc, hs⟩, hf, hlo⟩ := C
  subst hi
  have hlt := zin_lt hin
  refine fun H locs ls hP hS hL => ?_
  have ha : (zws E σ)[zoff k + 0]? = some (E.1 k 0, .inl (E.2.2 t, n, .inr (.inr (.inr (.inr (fun i => if i < n then some (E.1 k' i) else none)))))) := by rw [zws_get hr]; exact congrArg (fun e => some (E.1 k 0, e)) (hk E 0 _ _)
  refine W.aald (v := va_rf (if i.toNatClampNeg < n then some (E.1 k' i.toNatClampNeg) else none)) (ty := .array ty) hx hb (hP _ _ ha) ((hK.2 t _ ht).1 n (fun j => va_rf (if j < n then some (E.1 k' j) else none))) rfl (fun q => by cases q) (by show ¬ (i < 0 ∨ (arrV _ _ _).slots.size ≤ _); rw [arrV_size]; exact hin) (by show (arrV _ _ _).slots[_]? = _; rw [arrV_read _ _ hlt]) rfl rfl hd ?_
  rw [if_pos hlt]
  exact K H locs ls hP hS hL
theorem z_alen (C : zC X cc own nL d) {k n r : Nat} {t : Nat} {a : vp_A} {ty : FieldType} (hk : zct (zXE X) k r (zi σ k r) (zj σ k r) = .inl ((zXE X).2.2 t, a)) (hn : a.1 = n) (hr : r < zrows k) (ht : (zTy (zXE X))[t]? = some ((zXE X).2.2 t, ty)) {v : Int32} (hv : Int32.ofNat n = v) (hd : decode cc pc = .ok (.arraylength, 1)) (K : zV X (pc + 1) lv (.int v :: st) σ) : zV X pc lv (.ref ((zXE X).1 k r) :: st) σ := by
  obtain ⟨p, l, e, R, s, m, args, below, meth, c, ⟨nc, ns⟩, Qf, A, E, nX⟩ := X
  obtain ⟨hx, hb, ⟨hnX, hml⟩, hown, hts, hK, hD, hN, ⟨hc, hs⟩, hf, hlo⟩ := C
  subst hn
  exact fun H locs ls hP hS hL => va_alen hx hb hK hP (zoff k + r) t (by rw [zws_get hr]; exact congrArg (fun e => some (E.1 k r, e)) hk) ht hv hd (K H locs ls hP hS hL)
theorem z_copyi (C : zC X cc own nL d) {k0 n0 r0 k1 n1 r1 index : Nat} (hd1 : 1 ≤ d) (hk0 : zIA k0 n0 0) (hr0 : r0 < zrows k0) (hk1 : zIA k1 n1 0) (hr1 : r1 < zrows k1) (hl : Cond.methodLink own index arraycopyName ∈ zW) (hcat : (st.map fun v => v.category).sum ≤ 8) {sp dp n : Int32} (h : (¬ sp < 0 ∧ ¬ dp < 0 ∧ ¬ n < 0) ∧ sp.toNatClampNeg + n.toNatClampNeg ≤ n0 ∧ dp.toNatClampNeg + n.toNatClampNeg ≤ n1) (hd : decode cc pc = .ok (.invokestatic index, 3)) (K : zV X (pc + 3) lv st (zci σ k1 r1 (va_cpy (zi σ k0 r0) (zi σ k1 r1) sp.toNatClampNeg dp.toNatClampNeg n.toNatClampNeg))) : zV X pc lv (.int n :: .int dp :: .ref ((zXE X).1 k1 r1) :: .int sp :: .ref ((zXE X).1 k0 r0) :: st) σ := by
  obtain ⟨p, l, e, R, s, m, args, below, meth, c, ⟨nc, ns⟩, Qf, A, E, nX⟩ := X
  obtain ⟨hx, hb, ⟨hnX, hml⟩, hown, hts, hK, hD, hN, ⟨hc, hs⟩, hf, hlo⟩ := C
  refine fun H locs ls hP hS hL => va_copyi hx hb (by rw [hml, ← hnX]; exact hL.1.symm) hown (hts _ hl) (hts _ kw_copy.1) (hts _ kw_copy.2.1) (hts _ kw_copy.2.2) hK hP (hD σ) hS (zoff k0 + r0) (zoff k1 + r1) 0 0 (by rw [zws_get hr0]; exact congrArg (fun e => some (E.1 k0 r0, e)) (hk0 E r0 _ _)) (by rw [zws_get hr1]; exact congrArg (fun e => some (E.1 k1 r1, e)) (hk1 E r1 _ _)) rfl rfl rfl h.1.1 h.1.2.1 h.1.2.2 h.2.1 h.2.2 (fun _ _ => rfl) (Nat.le_trans hd1 hf) (Nat.le_trans ?_ hlo) hd (fun H1 locs1 hP1 _ hS1 => K H1 locs1 ls ?_ hS1 hL)
  · have : nativeFrameWords "java/lang/System" "arraycopy" 5 + 11 ≤ 32 := by decide +kernel
    omega
  · have q := zws_set (E := E) hr1 (zag_ci (σ := σ) (k := k1) (r := r1) (f := va_cpy (zi σ k0 r0) (zi σ k1 r1) sp.toNatClampNeg dp.toNatClampNeg n.toNatClampNeg))
    rw [hk1, zi_ci, if_pos ⟨rfl, rfl⟩] at q
    rw [← q]
    exact hP1
theorem z_copyl (C : zC X cc own nL d) {k0 n0 r0 k1 n1 r1 index : Nat} (hd1 : 1 ≤ d) (hk0 : zJA k0 n0) (hr0 : r0 < zrows k0) (hk1 : zJA k1 n1) (hr1 : r1 < zrows k1) (hl : Cond.methodLink own index arraycopyName ∈ zW) (hcat : (st.map fun v => v.category).sum ≤ 8) {sp dp n : Int32} (h : (¬ sp < 0 ∧ ¬ dp < 0 ∧ ¬ n < 0) ∧ sp.toNatClampNeg + n.toNatClampNeg ≤ n0 ∧ dp.toNatClampNeg + n.toNatClampNeg ≤ n1) (hd : decode cc pc = .ok (.invokestatic index, 3)) (K : zV X (pc + 3) lv st (zcj σ k1 r1 (va_cpy (zj σ k0 r0) (zj σ k1 r1) sp.toNatClampNeg dp.toNatClampNeg n.toNatClampNeg))) : zV X pc lv (.int n :: .int dp :: .ref ((zXE X).1 k1 r1) :: .int sp :: .ref ((zXE X).1 k0 r0) :: st) σ := by
  obtain ⟨p, l, e, R, s, m, args, below, meth, c, ⟨nc, ns⟩, Qf, A, E, nX⟩ := X
  obtain ⟨hx, hb, ⟨hnX, hml⟩, hown, hts, hK, hD, hN, ⟨hc, hs⟩, hf, hlo⟩ := C
  refine fun H locs ls hP hS hL => va_copyl hx hb (by rw [hml, ← hnX]; exact hL.1.symm) hown (hts _ hl) (hts _ kw_copy.1) (hts _ kw_copy.2.1) (hts _ kw_copy.2.2) hK hP (hD σ) hS (zoff k0 + r0) (zoff k1 + r1) 1 1 (by rw [zws_get hr0]; exact congrArg (fun e => some (E.1 k0 r0, e)) (hk0 E r0 _ _)) (by rw [zws_get hr1]; exact congrArg (fun e => some (E.1 k1 r1, e)) (hk1 E r1 _ _)) rfl rfl rfl h.1.1 h.1.2.1 h.1.2.2 h.2.1 h.2.2 (fun _ _ => rfl) (Nat.le_trans hd1 hf) (Nat.le_trans ?_ hlo) hd (fun H1 locs1 hP1 _ hS1 => K H1 locs1 ls ?_ hS1 hL)
  · have : nativeFrameWords "java/lang/System" "arraycopy" 5 + 11 ≤ 32 := by decide +kernel
    omega
  · have q := zws_set (E := E) hr1 (zag_cj (σ := σ) (k := k1) (r := r1) (g := va_cpy (zj σ k0 r0) (zj σ k1 r1) sp.toNatClampNeg dp.toNatClampNeg n.toNatClampNeg))
    rw [hk1, zj_cj, if_pos ⟨rfl, rfl⟩] at q
    rw [← q]
    exact hP1
theorem z_mmax (C : zC X cc own nL d) {index : Nat} {x y : Int32} (hd1 : 1 ≤ d) (hl : Cond.methodLink own index Lib.Math.max.name ∈ zW) (hcat : (st.map fun v => v.category).sum ≤ 8) (hd : decode cc pc = .ok (.invokestatic index, 3)) (K : zV X (pc + 3) lv (.int (if x < y then y else x) :: st) σ) : zV X pc lv (.int y :: .int x :: st) σ := by
  obtain ⟨p, l, e, R, s, m, args, below, meth, c, ⟨nc, ns⟩, Qf, A, E, nX⟩ := X
  obtain ⟨hx, hb, ⟨hnX, hml⟩, hown, hts, hK, hD, hN, ⟨hc, hs⟩, hf, hlo⟩ := C
  refine fun H locs ls hP hS hL => va_mmax hx hb (by rw [hml, ← hnX]; exact hL.1.symm) hown (hts _ hl) (hts _ kw_mmax.1) (hts _ kw_mmax.2.1) (hts _ kw_mmax.2.2) (Nat.le_trans hd1 hf) (Nat.le_trans ?_ hlo) hc hs hd (K H locs ls hP hS hL)
  omega
theorem z_mmin (C : zC X cc own nL d) {index : Nat} {x y : Int32} (hd1 : 1 ≤ d) (hl : Cond.methodLink own index Lib.Math.min.name ∈ zW) (hcat : (st.map fun v => v.category).sum ≤ 8) (hd : decode cc pc = .ok (.invokestatic index, 3)) (K : zV X (pc + 3) lv (.int (if y < x then y else x) :: st) σ) : zV X pc lv (.int y :: .int x :: st) σ := by
  obtain ⟨p, l, e, R, s, m, args, below, meth, c, ⟨nc, ns⟩, Qf, A, E, nX⟩ := X
  obtain ⟨hx, hb, ⟨hnX, hml⟩, hown, hts, hK, hD, hN, ⟨hc, hs⟩, hf, hlo⟩ := C
  refine fun H locs ls hP hS hL => va_mmin hx hb (by rw [hml, ← hnX]; exact hL.1.symm) hown (hts _ hl) (hts _ kw_mmin.1) (hts _ kw_mmin.2.1) (hts _ kw_mmin.2.2) (Nat.le_trans hd1 hf) (Nat.le_trans ?_ hlo) hc hs hd (K H locs ls hP hS hL)
  omega
theorem z_mmaxl (C : zC X cc own nL d) {index : Nat} {x y : Int64} (hd1 : 1 ≤ d) (hl : Cond.methodLink own index Lib.MathLoose.max_long.x ∈ zW) (hcat : (st.map fun v => v.category).sum ≤ 8) (hd : decode cc pc = .ok (.invokestatic index, 3)) (K : zV X (pc + 3) lv (.long (if y < x then x else y) :: st) σ) : zV X pc lv (.long y :: .long x :: st) σ := by
  obtain ⟨p, l, e, R, s, m, args, below, meth, c, ⟨nc, ns⟩, Qf, A, E, nX⟩ := X
  obtain ⟨hx, hb, ⟨hnX, hml⟩, hown, hts, hK, hD, hN, ⟨hc, hs⟩, hf, hlo⟩ := C
  refine fun H locs ls hP hS hL => va_mmax_long hx hb (by rw [hml, ← hnX]; exact hL.1.symm) hown (hts _ hl) (hts _ kw_mmaxl.1) (hts _ kw_mmaxl.2.1) (hts _ kw_mmaxl.2.2) (Nat.le_trans hd1 hf) (Nat.le_trans ?_ hlo) hc hs hd (K H locs ls hP hS hL)
  omega
theorem z_mabsl (C : zC X cc own nL d) {index : Nat} {x : Int64} (hd1 : 1 ≤ d) (hl : Cond.methodLink own index Lib.MathLoose.abs_long.x ∈ zW) (hcat : (st.map fun v => v.category).sum ≤ 8) (hd : decode cc pc = .ok (.invokestatic index, 3)) (K : zV X (pc + 3) lv (.long (if 0 < x then x else -x) :: st) σ) : zV X pc lv (.long x :: st) σ := by
  obtain ⟨p, l, e, R, s, m, args, below, meth, c, ⟨nc, ns⟩, Qf, A, E, nX⟩ := X
  obtain ⟨hx, hb, ⟨hnX, hml⟩, hown, hts, hK, hD, hN, ⟨hc, hs⟩, hf, hlo⟩ := C
  refine fun H locs ls hP hS hL => va_mabs_long hx hb (by rw [hml, ← hnX]; exact hL.1.symm) hown (hts _ hl) (hts _ kw_mabsl.1) (hts _ kw_mabsl.2.1) (hts _ kw_mabsl.2.2) (Nat.le_trans hd1 hf) (Nat.le_trans ?_ hlo) hc hs hd (K H locs ls hP hS hL)
  omega
theorem z_ireturn (C : zC X cc own nL d) {Q : Option Value → zS → Prop} {v : Int32} (hR : zR X (some .int) Q) (hd : decode cc pc = .ok (.ireturn, 1)) (hq : Q (some (.int v)) σ) : zV X pc lv [.int v] σ := by
  obtain ⟨p, l, e, R, s, m, args, below, meth, c, ⟨nc, ns⟩, Qf, A, E, nX⟩ := X
  obtain ⟨hx, hb, ⟨hnX, hml⟩, hown, hts, hK, hD, hN, ⟨hc, hs⟩, hf, hlo⟩ := C
  obtain ⟨hr, hlocks, rfl, hA⟩ := hR
  subst hA
  exact fun H locs ls hP hS hL => W.iret hx hb hr (fun t ht hW => ⟨⟨some (.int v), σ, rfl, hq, by rw [ht]; exact hP⟩, hS.F ht⟩) hS.2.2 hd
theorem z_lreturn (C : zC X cc own nL d) {Q : Option Value → zS → Prop} {v : Int64} (hR : zR X (some .long) Q) (hd : decode cc pc = .ok (.lreturn, 1)) (hq : Q (some (.long v)) σ) : zV X pc lv [.long v] σ := by
  obtain ⟨p, l, e, R, s, m, args, below, meth, c, ⟨nc, ns⟩, Qf, A, E, nX⟩ := X
  obtain ⟨hx, hb, ⟨hnX, hml⟩, hown, hts, hK, hD, hN, ⟨hc, hs⟩, hf, hlo⟩ := C
  obtain ⟨hr, hlocks, rfl, hA⟩ := hR
  subst hA
  exact fun H locs ls hP hS hL => W.lret hx hb hr (fun t ht hW => ⟨⟨some (.long v), σ, rfl, hq, by rw [ht]; exact hP⟩, hS.F ht⟩) hS.2.2 hd
theorem z_zreturn (C : zC X cc own nL d) {Q : Option Value → zS → Prop} {v : Int32} (hR : zR X (some .boolean) Q) (hd : decode cc pc = .ok (.ireturn, 1)) (h01 : v = 0 ∨ v = 1) (hq : Q (some (.int v)) σ) : zV X pc lv [.int v] σ := by
  obtain ⟨p, l, e, R, s, m, args, below, meth, c, ⟨nc, ns⟩, Qf, A, E, nX⟩ := X
  obtain ⟨hx, hb, ⟨hnX, hml⟩, hown, hts, hK, hD, hN, ⟨hc, hs⟩, hf, hlo⟩ := C
  obtain ⟨hr, hlocks, rfl, hA⟩ := hR
  subst hA
  exact fun H locs ls hP hS hL => W.zret hx hb hr (by rcases h01 with rfl | rfl <;> rfl) (fun t ht hW => ⟨⟨some (.int v), σ, rfl, hq, by rw [ht]; exact hP⟩, hS.F ht⟩) hS.2.2 hd
theorem z_vreturn (C : zC X cc own nL d) {Q : Option Value → zS → Prop} (hR : zR X none Q) (hd : decode cc pc = .ok (.return_, 1)) (hq : Q none σ) : zV X pc lv [] σ := by
  obtain ⟨p, l, e, R, s, m, args, below, meth, c, ⟨nc, ns⟩, Qf, A, E, nX⟩ := X
  obtain ⟨hx, hb, ⟨hnX, hml⟩, hown, hts, hK, hD, hN, ⟨hc, hs⟩, hf, hlo⟩ := C
  obtain ⟨hr, hlocks, rfl, hA⟩ := hR
  subst hA
  exact fun H locs ls hP hS hL => W.vret hx hb hr (fun t ht hW => ⟨⟨none, σ, rfl, hq, by rw [ht]; exact hP⟩, hS.F ht⟩) hS.2.2 hd
/-- what the tables say of a method that is called -/
def zMw (y : MethodName) (bytes : ByteArray) (maxL : Nat) (ret : Option FieldType) (n : Nat) : Prop := Cond.code y bytes maxL ret ∈ zW ∧ Cond.initialized y.cls ∈ zW ∧ (y.cls ≠ "java/lang/invoke/MethodHandle" ∧ y.cls ≠ "java/lang/invoke/VarHandle" ∧ (parseMethodDescriptor y.desc).map (fun d => d.parameters.length) = some n) ∧ maxL ≤ 21
def zMv (y : MethodName) (C : String) : Prop := Cond.instanceMethod y ∈ zW ∧ Cond.selects C y y ∈ zW
theorem z_goes {p : Program} {l : Launch} {e : Env} {R : Room} {s : State} {m : MethodId} {args : Array Value} {below : List Frame} {meth : Method} {c : Code} {H : Heap} {locs : List Loc} {nc ns : Nat} {Qf : State → Prop} {E : zE} {A : Nat → Prop} {a : Array Value} {ls : Array Slot} {rest st0 : List Value} {Q : Option Value → zS → Prop}
    (hD : ∀ σ : zS, va_D A (zws E σ)) (hS : va_S A s.heap H locs) (hr : va_Run p l e R s m args below meth c H locs nc ns 0 0 (F0 m pc ls st0) rest (zQc E Q a) (zAd E))
    (kk : ∀ (v : Option Value) (σ' : zS) (H1 : Heap) (locs1 : List Loc), Q v σ' → va_P E.2.1 zCl (zws E σ') H1 → va_S A s.heap H1 locs1 → W p l e R s m args below meth c H1 locs1 nc ns Qf (F0 m (pc + 3) ls (v.toList ++ rest))) : W p l e R s m args below meth c H locs nc ns Qf (F0 m pc ls st0) := by
  intro T hT X
  obtain ⟨v, st₀, t, T', L, h0, X', hL, e1, e2, ⟨⟨v', σ', hv, hq, hP⟩, hz, hk⟩, st⟩ := hr T hT X
  cases hv
  rw [h0] at hz hk
  have hA : ∀ q, zAd E q → A q := fun q h => zAd_of (hD σ') h
  obtain ⟨t2, a1, b1⟩ := kk v σ' T'.heap (locs ++ L) hq (by rw [e1]; exact hP)
    ⟨Nat.le_trans hS.1 (by rw [e1]; exact hz), fun q h1 h2 => by rw [e1, hk q (Nat.lt_of_lt_of_le h1 hS.1) (fun z => h2 (hA q z))]; exact hS.2.1 q h1 h2, fun q hq => by
      rcases List.mem_append.mp hq with h | h
      · exact hS.2.2 q h
      · exact hA _ (hL q h)⟩ T' rfl X'
  exact ⟨t2, st t2 a1, b1⟩
theorem z_callV (C : zC X cc own nL d) {Cn : String} {k index n maxL d' : Nat} {y : MethodName} {bytes : ByteArray} {ret : Option FieldType} {Q : Option Value → zS → Prop} {As rest : List Value} (hdd : d' + 1 ≤ d) (M : zMw y bytes maxL ret n) (Mv : zMv y Cn) (hl : Cond.methodLink own index y ∈ zW) (ob : zOb k Cn) (hT : zT (zXl X) d' (zXE X) y bytes maxL ret (.ref ((zXE X).1 k 0) :: As) σ Q) (hn : As.length = n) (hst : st = As.reverse ++ .ref ((zXE X).1 k 0) :: rest) (hcat : (rest.map fun v => v.category).sum ≤ 8) (hd : decode cc pc = .ok (.invokevirtual index, 3)) (K : ∀ (v : Option Value) (σ' : zS), Q v σ' → zV X (pc + 3) lv (v.toList ++ rest) σ') : zV X pc lv st σ := by
  obtain ⟨p, l, e, R, s, m, args, below, meth, c, ⟨nc, ns⟩, Qf, A, E, nX⟩ := X
  obtain ⟨hx, hb, ⟨hnX, hml⟩, hown, hts, hK, hD, hN, ⟨hc, hs⟩, hf, hlo⟩ := C
  subst hst
  obtain ⟨hr, ci, T, N, hcl, hzz⟩ := ob
  obtain ⟨fs, hz⟩ := hzz E (zi σ k 0) (zj σ k 0)
  refine fun H locs ls hP hS hL => z_goes hD hS (va_runV (C := Cn) (As := As) (rest := rest) (nL := nX) ⟨hx, hb, hml.trans hnX.symm, hown, hts⟩ hT ⟨callB_of n hts (zgoodC M.1) rfl rfl rfl (hts _ M.2.1) (hts _ hl) M.2.2.1 ⟨Nat.le_trans hdd hf, Nat.le_trans ?_ hlo⟩, hts _ Mv.1, hts _ Mv.2⟩ ⟨zPc_blind, va_recv hK hP hcl (he := (by rw [zws_get hr]; exact congrArg (fun e => some (E.1 k 0, e)) hz : (zws E σ)[zoff k + 0]? = some (E.1 k 0, .inr (ci, fs)))), fun U hU hW => ⟨rfl, by rw [hU]; exact hP, va_K.moved hW.alike hK, zNst_warm hW hN, fun σ' => zD_self (hD σ')⟩⟩ rfl hn hL.1 rfl (lv_room hcat) hd ⟨hc, hs⟩) (fun v σ' H1 locs1 hq hP1 hS1 => K v σ' hq H1 locs1 ls hP1 hS1 hL)
  have := M.2.2.2
  show 8 + (maxL + 11) + 40 * d' ≤ 40 * d
  omega
theorem z_callS (C : zC X cc own nL d) {index n maxL d' : Nat} {y : MethodName} {bytes : ByteArray} {ret : Option FieldType} {Q : Option Value → zS → Prop} {As rest : List Value} (hdd : d' + 1 ≤ d) (M : zMw y bytes maxL ret n) (Ms : Cond.static y ∈ zW) (hl : Cond.methodLink own index y ∈ zW) (hT : zT (zXl X) d' (zXE X) y bytes maxL ret As σ Q) (hn : As.length = n) (hst : st = As.reverse ++ rest) (hcat : (rest.map fun v => v.category).sum ≤ 8) (hd : decode cc pc = .ok (.invokestatic index, 3)) (K : ∀ (v : Option Value) (σ' : zS), Q v σ' → zV X (pc + 3) lv (v.toList ++ rest) σ') : zV X pc lv st σ := by
  obtain ⟨p, l, e, R, s, m, args, below, meth, c, ⟨nc, ns⟩, Qf, A, E, nX⟩ := X
  obtain ⟨hx, hb, ⟨hnX, hml⟩, hown, hts, hK, hD, hN, ⟨hc, hs⟩, hf, hlo⟩ := C
  subst hst
  refine fun H locs ls hP hS hL => z_goes hD hS (va_runS (As := As) (rest := rest) (nL := nX) ⟨hx, hb, hml.trans hnX.symm, hown, hts⟩ hT ⟨callB_of n hts (zgoodC M.1) rfl rfl rfl (hts _ M.2.1) (hts _ hl) M.2.2.1 ⟨Nat.le_trans hdd hf, Nat.le_trans ?_ hlo⟩, hts _ Ms⟩ ⟨zPc_blind, fun U hU hW => ⟨rfl, by rw [hU]; exact hP, va_K.moved hW.alike hK, zNst_warm hW hN, fun σ' => zD_self (hD σ')⟩⟩ rfl hn hL.1 rfl (lv_room hcat) hd ⟨hc, hs⟩) (fun v σ' H1 locs1 hq hP1 hS1 => K v σ' hq H1 locs1 ls hP1 hS1 hL)
  have := M.2.2.2
  show 8 + (maxL + 11) + 40 * d' ≤ 40 * d
  omega
theorem z_callVN (C : zC X cc own nL d) {Cn : String} {k index n maxL d' : Nat} {host : String} {y : MethodName} {bytes : ByteArray} {ret : Option FieldType} {Q : Option Value → zS → Prop} {As rest : List Value} (hdd : d' + 1 ≤ d) (M : zMw y bytes maxL ret n) (Mv : zMv y Cn) (hl : Cond.methodLinkNest own index y host ∈ zNst) (ob : zOb k Cn) (hT : zT (zXl X) d' (zXE X) y bytes maxL ret (.ref ((zXE X).1 k 0) :: As) σ Q) (hn : As.length = n) (hst : st = As.reverse ++ .ref ((zXE X).1 k 0) :: rest) (hcat : (rest.map fun v => v.category).sum ≤ 8) (hd : decode cc pc = .ok (.invokevirtual index, 3)) (K : ∀ (v : Option Value) (σ' : zS), Q v σ' → zV X (pc + 3) lv (v.toList ++ rest) σ') : zV X pc lv st σ := by
  obtain ⟨p, l, e, R, s, m, args, below, meth, c, ⟨nc, ns⟩, Qf, A, E, nX⟩ := X
  obtain ⟨hx, hb, ⟨hnX, hml⟩, hown, hts, hK, hD, hN, ⟨hc, hs⟩, hf, hlo⟩ := C
  subst hst
  obtain ⟨hr, ci, T, N, hcl, hzz⟩ := ob
  obtain ⟨fs, hz⟩ := hzz E (zi σ k 0) (zj σ k 0)
  refine fun H locs ls hP hS hL => z_goes hD hS (va_runVN (C := Cn) (As := As) (rest := rest) (nL := nX) ⟨hx, hb, hml.trans hnX.symm, hown, hts⟩ hT ⟨va_cnB n hts (zgoodC M.1) rfl rfl rfl (hN _ hl) (hts _ M.2.1) M.2.2.1 ⟨Nat.le_trans hdd hf, Nat.le_trans ?_ hlo⟩, hts _ Mv.1, hts _ Mv.2⟩ ⟨zPc_blind, va_recv hK hP hcl (he := (by rw [zws_get hr]; exact congrArg (fun e => some (E.1 k 0, e)) hz : (zws E σ)[zoff k + 0]? = some (E.1 k 0, .inr (ci, fs)))), fun U hU hW => ⟨rfl, by rw [hU]; exact hP, va_K.moved hW.alike hK, zNst_warm hW hN, fun σ' => zD_self (hD σ')⟩⟩ rfl hn hL.1 rfl (lv_room hcat) hd ⟨hc, hs⟩) (fun v σ' H1 locs1 hq hP1 hS1 => K v σ' hq H1 locs1 ls hP1 hS1 hL)
  have := M.2.2.2
  show 8 + (maxL + 11) + 40 * d' ≤ 40 * d
  omega
theorem z_callSN (C : zC X cc own nL d) {index n maxL d' : Nat} {host : String} {y : MethodName} {bytes : ByteArray} {ret : Option FieldType} {Q : Option Value → zS → Prop} {As rest : List Value} (hdd : d' + 1 ≤ d) (M : zMw y bytes maxL ret n) (Ms : Cond.static y ∈ zW) (hl : Cond.methodLinkNest own index y host ∈ zNst) (hT : zT (zXl X) d' (zXE X) y bytes maxL ret As σ Q) (hn : As.length = n) (hst : st = As.reverse ++ rest) (hcat : (rest.map fun v => v.category).sum ≤ 8) (hd : decode cc pc = .ok (.invokestatic index, 3)) (K : ∀ (v : Option Value) (σ' : zS), Q v σ' → zV X (pc + 3) lv (v.toList ++ rest) σ') : zV X pc lv st σ := by
  obtain ⟨p, l, e, R, s, m, args, below, meth, c, ⟨nc, ns⟩, Qf, A, E, nX⟩ := X
  obtain ⟨hx, hb, ⟨hnX, hml⟩, hown, hts, hK, hD, hN, ⟨hc, hs⟩, hf, hlo⟩ := C
  subst hst
  refine fun H locs ls hP hS hL => z_goes hD hS (va_runSN (As := As) (rest := rest) (nL := nX) ⟨hx, hb, hml.trans hnX.symm, hown, hts⟩ hT ⟨va_cnB n hts (zgoodC M.1) rfl rfl rfl (hN _ hl) (hts _ M.2.1) M.2.2.1 ⟨Nat.le_trans hdd hf, Nat.le_trans ?_ hlo⟩, hts _ Ms, trivial⟩ ⟨zPc_blind, fun U hU hW => ⟨rfl, by rw [hU]; exact hP, va_K.moved hW.alike hK, zNst_warm hW hN, fun σ' => zD_self (hD σ')⟩⟩ rfl hn hL.1 rfl (lv_room hcat) hd ⟨hc, hs⟩) (fun v σ' H1 locs1 hq hP1 hS1 => K v σ' hq H1 locs1 ls hP1 hS1 hL)
  have := M.2.2.2
  show 8 + (maxL + 11) + 40 * d' ≤ 40 * d
  omega
theorem z_ki {Q : Int32 → zS → Prop} {rest : List Value} (K : ∀ (r : Int32) (σ' : zS), Q r σ' → zV X pc lv (.int r :: rest) σ') : ∀ (v : Option Value) (σ' : zS), zQi Q v σ' → zV X pc lv (v.toList ++ rest) σ' := by
  rintro v σ' ⟨r, rfl, h⟩
  exact K r σ' h
theorem z_kb {Q : Int32 → zS → Prop} {rest : List Value} (K : ∀ (r : Int32) (σ' : zS), (r = 0 ∨ r = 1) → Q r σ' → zV X pc lv (.int r :: rest) σ') : ∀ (v : Option Value) (σ' : zS), zQb Q v σ' → zV X pc lv (v.toList ++ rest) σ' := by
  rintro v σ' ⟨r, rfl, h1, h⟩
  exact K r σ' h1 h
theorem z_kl {Q : Int64 → zS → Prop} {rest : List Value} (K : ∀ (r : Int64) (σ' : zS), Q r σ' → zV X pc lv (.long r :: rest) σ') : ∀ (v : Option Value) (σ' : zS), zQl Q v σ' → zV X pc lv (v.toList ++ rest) σ' := by
  rintro v σ' ⟨r, rfl, h⟩
  exact K r σ' h
theorem z_kv {Q : zS → Prop} {rest : List Value} (K : ∀ (σ' : zS), Q σ' → zV X pc lv rest σ') : ∀ (v : Option Value) (σ' : zS), zQv Q v σ' → zV X pc lv (v.toList ++ rest) σ' := by
  rintro v σ' ⟨rfl, h⟩
  exact K σ' h
end ZROWS

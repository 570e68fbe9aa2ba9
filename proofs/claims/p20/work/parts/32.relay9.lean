/-! ===== BEST RELAY, of the reference: it comes back ===== -/
/-- the first m + 1 TOWNS of the way are TOWNS -/
def WV (s : zS) (m : Nat) : Prop := ∀ i : Nat, i ≤ m → 0 ≤ (zi s 68 0 i).toInt ∧ (zi s 68 0 i).toInt < 10
/-- where a best one was found its bottom is not 0 -/
def BB (s : zS) : Prop := ¬ zi s 54 0 26 = 0 → ¬ zj s 54 0 31 = 0
def C4 (i : Nat) : Prop := i = 26 ∨ i = 28 ∨ i = 29
def KT9 (k : Nat) : Prop := k = 69 ∨ k = 70 ∨ k = 71
def tfx (s s' : zS) : Prop := zfx (fun k => KT9 k ∨ k = 54) s s' ∧ ∀ i, ¬ C4 i → zi s' 54 0 i = zi s 54 0 i
theorem tfx_rf {s : zS} : tfx s s := ⟨zfx_rf, fun _ _ => rfl⟩
theorem tfx_tr {s s1 s2 : zS} (h1 : tfx s s1) (h2 : tfx s1 s2) : tfx s s2 := ⟨zfx_tr h1.1 h2.1, fun i hi => (h2.2 i hi).trans (h1.2 i hi)⟩
theorem KT_54 {k : Nat} (h : KT9 k) : ¬ k = 54 := by unfold KT9 at h; omega
theorem tfx_si {s s' : zS} {k r i : Nat} {v : Int32} (h : tfx s s') (hk : KT9 k) : tfx s (zsi s' k r i v) :=
  ⟨zfx_si h.1 (Or.inl hk), fun j hj => by rw [zi_sir _ _ _ _ _ _ _ (fun q => KT_54 hk q.1.symm)]; exact h.2 j hj⟩
theorem tfx_54 {s s' : zS} {i : Nat} {v : Int32} (h : tfx s s') (hi : C4 i) : tfx s (zsi s' 54 0 i v) :=
  ⟨zfx_si h.1 (Or.inr rfl), fun j hj => by rw [zi_si, if_neg (fun q : 54 = 54 ∧ 0 = 0 ∧ j = i => hj (q.2.2 ▸ hi))]; exact h.2 j hj⟩
theorem tfx_sj {s s' : zS} {r i : Nat} {v : Int64} (h : tfx s s') : tfx s (zsj s' 54 r i v) :=
  ⟨zfx_sj h.1 (Or.inr rfl), fun j hj => by rw [zi_sj]; exact h.2 j hj⟩
theorem mfx_tf {s s' s2 : zS} (h : mfx s s') (ht : tfx s' s2) : mfx s s2 :=
  ⟨zfx_tr h.1 (zfx_mo ht.1 (fun k q => q.elim (fun z => Or.inl (by unfold KT9 at z; unfold KM; omega)) Or.inr)), fun j hj => by
    rw [ht.2 j (fun q => by unfold C4 at q; unfold C3 at hj; omega)]
    exact h.2 j hj⟩
theorem WV_fr {s s' : zS} {m : Nat} (h : WV s m) (ht : tfx s s') : WV s' m := by
  unfold WV at h ⊢
  rw [(ht.1 68 (by unfold KT9; omega) 0).1]
  exact h
theorem B9_tf {s s' : zS} (h : B9 s) (ht : tfx s s') : B9 s' := by
  have k : ∀ k, ¬ (KT9 k ∨ k = 54) → zi s' k 0 = zi s k 0 := fun k hk => (ht.1 k hk 0).1
  unfold B9 zB9 zL9 at h ⊢
  rw [ht.2 7 (by unfold C4; omega), ht.2 34 (by unfold C4; omega), k 63 (by unfold KT9; omega), k 64 (by unfold KT9; omega), k 65 (by unfold KT9; omega), k 67 (by unfold KT9; omega)]
  exact h
theorem W_isAhead {a b : Int32} {m : Nat} {s : zS} {Q : Int32 → zS → Prop} (hm : m ≤ 3) (em : zi s 54 0 25 = nI m) (h0 : Q 0 s) (h1 : Q 1 s) : Wp_X9_isAhead a b s Q := by
  unfold Wp_X9_isAhead
  intro P55 P160 h55 h160
  have second : ∀ (n i : Nat), i + n = m → P160 (nI i) s := by
    intro n
    induction n with
    | zero =>
      intro i hi
      apply h160
      rw [em]
      exact ⟨fun _ => h0, fun g => absurd (nI_le (show m ≤ i by omega) (by omega)) g⟩
    | succ n ih =>
      intro i hi
      apply h160
      rw [em, nI_1]
      have ii : vp_in (nI i) 3 := nat_in (by omega) (by omega)
      exact ⟨fun g => absurd g (nI_ge (by omega) (by omega)), fun _ => ⟨ii, ii, fun _ => ih (i + 1) (by omega), fun _ => ⟨ii, ii, fun _ => h0, fun _ => h1⟩⟩⟩
  have sec0 : P160 0 s := second m 0 (by omega)
  have first : ∀ (n i : Nat), i + n = 4 → P55 (nI i) s := by
    intro n
    induction n with
    | zero =>
      intro i hi
      apply h55
      obtain rfl : i = 4 := by omega
      exact ⟨fun _ => sec0, fun g => absurd (by decide) g⟩
    | succ n ih =>
      intro i hi
      apply h55
      rw [nI_1]
      have ii : vp_in (nI i) 4 := nat_in (by omega) (by omega)
      exact ⟨fun g => absurd g (nI_nlt (a := 3) (b := i) (by omega) (by omega)), fun _ => ⟨fun _ => ⟨fun _ => sec0, fun _ => h1⟩, fun _ => ⟨fun _ => h0, fun _ => ⟨ii, ii, fun _ => ih (i + 1) (by omega), fun _ => ⟨ii, ii, fun _ => h0, fun _ => h1⟩⟩⟩⟩⟩
  exact ⟨fun _ => ⟨fun _ => ⟨fun _ => first 3 1 (by omega), fun _ => ⟨fun _ => h0, fun _ => h1⟩⟩, fun _ => ⟨fun _ => h0, fun _ => h1⟩⟩, fun _ => h1⟩
theorem four : ∀ l : Nat, l < 64 → nI l / 4 = nI (l / 4) ∧ (1 : Int32) + (nI l - nI l / 4 * 4) = nI (1 + l % 4) := by decide +kernel
theorem fours : ∀ m : Nat, m ≤ 3 → ((nI 1 * 4) = nI 4 ∧ nI 4 * 4 = nI 16 ∧ nI 16 * 4 = nI 64) := by
  intro m _
  exact ⟨by decide, by decide, by decide⟩
theorem W_tryWay {a b : Int32} {m : Nat} {s : zS} {Q : zS → Prop} (hm : m ≤ 3) (em : zi s 54 0 25 = nI m) (hw : WV s m) (hB : B9 s) (hbb : BB s) (hQ : ∀ s' : zS, tfx s s' → BB s' → Q s') : Wp_X9_tryWay a b s Q := by
  unfold Wp_X9_tryWay
  intro P5 P82 P106 P132 P355 P387 h5 h82 h106 h132 h355 h387
  have k69 : KT9 69 := Or.inl rfl
  have k70 : KT9 70 := Or.inr (Or.inl rfl)
  have k71 : KT9 71 := Or.inr (Or.inr rfl)
  have e25 : ∀ s' : zS, tfx s s' → zi s' 54 0 25 = nI m := fun s' ht => by rw [ht.2 25 (by unfold C4; omega)]; exact em
  have iat : ∀ (s' : zS), tfx s s' → ∀ i j : Nat, i ≤ m → j ≤ m → vp_in ((10 : Int32) * zi s' 68 0 i + zi s' 68 0 j) 100 := fun s' ht i j hi hj => by
    have w := WV_fr hw ht
    exact in_at (w i hi).1 (w i hi).2 (w j hj).1 (w j hj).2
  -- BB stays where the cells that it speaks of do
  have bbk : ∀ (s1 s2 : zS), BB s1 → zi s2 54 0 26 = zi s1 54 0 26 → zj s2 54 0 = zj s1 54 0 → BB s2 := fun s1 s2 h1 e1 e2 => by
    unfold BB at h1 ⊢
    rw [e1, e2]
    exact h1
  -- the loop over all doubles, c of all still to come
  have main : ∀ (A : Nat), A ≤ 64 → ∀ (c i : Nat) (v3 : Int32) (s' : zS), i + c = A → tfx s s' → BB s' → P106 v3 (nI A) (nI i) s' := by
    intro A hA c
    induction c with
    | zero =>
      intro i v3 s' hi ht hb
      apply h106
      exact ⟨fun _ => hQ s' ht hb, fun g => absurd (nI_le (show A ≤ i by omega) (by omega)) g⟩
    | succ c ihc =>
      intro i v3 s' hi ht hb
      have nx : ∀ s2 : zS, tfx s s2 → BB s2 → P106 v3 (nI A) (nI i + 1) s2 := fun s2 t2 b2 => by
        rw [nI_1]
        exact ihc (i + 1) v3 s2 (by omega) t2 b2
      have times : ∀ (n k : Nat) (s2 : zS), k + n = m → tfx s s2 → BB s2 → P387 v3 (nI A) (nI i) (nI k) s2 := by
        intro n
        induction n with
        | zero =>
          intro k s2 hk t2 b2
          apply h387
          rw [e25 s2 t2]
          exact ⟨fun _ => nx s2 t2 b2, fun g => absurd (nI_le (show m ≤ k by omega) (by omega)) g⟩
        | succ n ih =>
          intro k s2 hk t2 b2
          apply h387
          rw [e25 s2 t2, nI_1 k]
          have ik : vp_in (nI k) 3 := nat_in (by omega) (by omega)
          refine ⟨fun g => absurd g (nI_ge (by omega) (by omega)), fun _ => ⟨ik, ik, ?_⟩⟩
          rintro _ rfl
          exact ih (k + 1) _ (by omega) (tfx_si t2 k71) (bbk s2 _ b2 (by rw [zi_sir _ _ _ _ _ _ _ (by omega)]) (by rw [zj_si]))
      have ways : ∀ (n k : Nat) (s2 : zS), k + n = m + 1 → tfx s s2 → BB s2 → P355 v3 (nI A) (nI i) (nI k) s2 := by
        intro n
        induction n with
        | zero =>
          intro k s2 hk t2 b2
          apply h355
          rw [e25 s2 t2]
          exact ⟨fun _ => times m 0 s2 (by omega) t2 b2, fun g => absurd (nI_lt (show m < k by omega) (by omega)) g⟩
        | succ n ih =>
          intro k s2 hk t2 b2
          apply h355
          rw [e25 s2 t2, nI_1 k]
          have ik : vp_in (nI k) 4 := nat_in (by omega) (by omega)
          refine ⟨fun g => absurd g (nI_nlt (by omega) (by omega)), fun _ => ⟨ik, ik, ?_⟩⟩
          rintro _ rfl
          exact ih (k + 1) _ (by omega) (tfx_si t2 k70) (bbk s2 _ b2 (by rw [zi_sir _ _ _ _ _ _ _ (by omega)]) (by rw [zj_si]))
      -- one number of doubles for each ROAD
      have weigh : ∀ (n k l j : Nat) (v7 : Int32) (v8 : Int64) (v12 : Int32) (s2 : zS), k + n = m → l < 64 → j ≤ 4 * k → tfx s s2 → BB s2 → P132 v3 (nI A) (nI i) (nI l) v7 v8 (p10 j) v12 (nI k) s2 := by
        intro n
        induction n with
        | zero =>
          intro k l j v7 v8 v12 s2 hk hl hj t2 b2
          apply h132
          rw [e25 s2 t2]
          refine ⟨fun _ => ⟨fun _ => nx s2 t2 b2, fun _ => ⟨fun _ => nx s2 t2 b2, fun _ => ?_⟩⟩, fun g => absurd (nI_le (show m ≤ k by omega) (by omega)) g⟩
          refine W_isAhead hm (e25 s2 t2) ⟨nz0, fun _ => nx s2 t2 b2⟩ ⟨fun _ => ?_, nz1⟩
          rintro _ rfl _ rfl _ rfl _ rfl _ rfl
          refine ways (m + 1) 0 _ (by omega) (tfx_sj (tfx_sj (tfx_54 (tfx_54 (tfx_54 t2 (by unfold C4; omega)) (by unfold C4; omega)) (by unfold C4; omega)))) ?_
          intro _
          rw [zj_sj, if_pos ⟨rfl, rfl, rfl⟩]
          exact p10_nz j (by omega)
        | succ n ih =>
          intro k l j v7 v8 v12 s2 hk hl hj t2 b2
          apply h132
          have ik : vp_in (nI k) 3 := nat_in (by omega) (by omega)
          have ik4 : vp_in (nI k) 4 := nat_in (by omega) (by omega)
          have ik5 : vp_in (nI (k + 1)) 4 := nat_in (by omega) (by omega)
          obtain ⟨f1, f2⟩ := four l hl
          have r4 : l % 4 < 4 := Nat.mod_lt _ (by omega)
          have d4 : l / 4 < 64 := by omega
          rw [e25 s2 t2, f2, f1, nI_1 k]
          refine ⟨fun g => absurd g (nI_ge (by omega) (by omega)), fun _ => ⟨ik, ?_⟩⟩
          rintro _ rfl
          rintro _ rfl
          rw [nI_clamp (by omega), nI_clamp (by omega)]
          refine ⟨ik, ?_⟩
          have t3 : tfx s (zsi s2 69 0 k (nI (1 + l % 4))) := tfx_si t2 k69
          have b3 : BB (zsi s2 69 0 k (nI (1 + l % 4))) := bbk s2 _ b2 (by rw [zi_sir _ _ _ _ _ _ _ (by omega)]) (by rw [zj_si])
          have e69 : zi (zsi s2 69 0 k (nI (1 + l % 4))) 69 0 k = nI (1 + l % 4) := by rw [zi_si, if_pos ⟨rfl, rfl, rfl⟩]
          generalize zsi s2 69 0 k (nI (1 + l % 4)) = s3 at t3 b3 e69
          rintro _ rfl
          have ia := iat s3 t3 k (k + 1) (by omega) (by omega)
          -- the SURETY so far, whatever can be
          have rest : ∀ c : Int32, (vp_in (nI k) 3 ∧ Wp_X9_power (10 : Int32) (zi s3 69 0 k) s3 (fun r17 s18 => (vp_in (nI k) 4 ∧ (vp_in (nI (k + 1)) 4 ∧ Wp_X9_at (zi s18 68 0 k) (zi s18 68 0 (k + 1)) s18 (fun r19 s20 => (vp_in r19 100 ∧ (vp_in (nI k) 3 ∧ Wp_X9_power (zi s20 59 0 (Int32.toNatClampNeg r19)) (zi s20 69 0 k) s20 (fun r21 s22 => ∀ y23 : Int64, y23 = (v8 * (r17 - r21)) → (vp_in (nI k) 3 ∧ Wp_X9_power (10 : Int32) (zi s22 69 0 k) s22 (fun r24 s25 => ∀ y26 : Int64, y26 = (p10 j * r24) → P132 v3 (nI A) (nI i) (nI (l / 4)) (v7 + zi s3 69 0 k) y23 y26 c (nI (k + 1)) s25)))))))))) := by
            intro c
            refine ⟨ik, W_power9 (fun _ => ⟨ik4, ik5, ?_⟩)⟩
            unfold Wp_X9_at
            refine ⟨ia, ik, W_power9 (fun _ => ?_)⟩
            rintro _ rfl
            refine ⟨ik, ?_⟩
            rw [e69]
            refine W_pow10 (by omega) ?_
            rintro _ rfl
            rw [p10_add]
            exact ih (k + 1) (l / 4) _ _ _ _ s3 (by omega) d4 (by omega) t3 b3
          exact ⟨fun _ => rest 0, fun _ => ⟨ik5, ik4, W_count9 (B9_tf hB t3) ⟨ik, fun _ => rest 0, fun _ => rest 1⟩⟩⟩
      apply h106
      exact ⟨fun g => absurd g (nI_ge (by omega) (by omega)), fun _ => weigh m 0 i 0 0 1 1 s' (by omega) (by omega) (by omega) ht hb⟩
  -- 4 to the number of ROADS
  have pow : ∀ (n k A : Nat) (v3 : Int32) (s' : zS), k + n = m → A = 4 ^ k → tfx s s' → BB s' → P82 v3 (nI A) (nI k) s' := by
    intro n
    induction n with
    | zero =>
      intro k A v3 s' hk hA ht hb
      apply h82
      rw [e25 s' ht]
      obtain rfl : k = m := by omega
      have : 4 ^ k ≤ 4 ^ 3 := Nat.pow_le_pow_right (by omega) hm
      exact ⟨fun _ => main A (by omega) A 0 v3 s' (by omega) ht hb, fun g => absurd (Int32.le_refl _) g⟩
    | succ n ih =>
      intro k A v3 s' hk hA ht hb
      apply h82
      rw [e25 s' ht, nI_1]
      refine ⟨fun g => absurd g (nI_ge (by omega) (by omega)), fun _ => ?_⟩
      rintro _ rfl
      rw [show (4 : Int32) = nI 4 from rfl, pk_mul]
      exact ih (k + 1) (A * 4) v3 s' (by omega) (by rw [hA, Nat.pow_succ]) ht hb
  have sum : ∀ (n k : Nat) (v3 : Int32) (s' : zS), k + n = m → tfx s s' → BB s' → P5 v3 (nI k) s' := by
    intro n
    induction n with
    | zero =>
      intro k v3 s' hk ht hb
      apply h5
      rw [e25 s' ht]
      exact ⟨fun _ => pow m 0 1 v3 s' (by omega) rfl ht hb, fun g => absurd (nI_le (show m ≤ k by omega) (by omega)) g⟩
    | succ n ih =>
      intro k v3 s' hk ht hb
      apply h5
      have ik4 : vp_in (nI k) 4 := nat_in (by omega) (by omega)
      have ik5 : vp_in (nI (k + 1)) 4 := nat_in (by omega) (by omega)
      have ia := iat s' ht k (k + 1) (by omega) (by omega)
      unfold Wp_X9_at
      rw [e25 s' ht, nI_1, nI_clamp (by omega), nI_clamp (by omega)]
      refine ⟨fun g => absurd g (nI_ge (by omega) (by omega)), fun _ => ⟨ik4, ik5, ia, fun _ => ⟨ik4, ik5, ia, ?_⟩, fun _ => hQ s' ht hb⟩⟩
      rintro _ rfl
      exact ih (k + 1) _ s' (by omega) ht hb
  exact sum m 0 0 s (by omega) tfx_rf hbb
theorem W_tells9 {a b : Int64} {s : zS} {Q : Int32 → zS → Prop} (hb : ¬ b = 0) (hQ : ∀ (r : Int32) (s' : zS), mfx s s' → Q r s') : Wp_X9_tells a b s Q := W_tells hb hQ
theorem S9_relay {a b c d : Int32} {s : zS} {Q : Int32 → zS → Prop} (h : MI s) (hQ : ∀ (r : Int32) (s' : zS), MI s' → MF s s' → Q r s') : Wp_X9_relay a b c d s Q := by
  unfold Wp_X9_relay
  intro P70 P124 P219 P248 h70 h124 h219 h248
  have bad : ∀ r : Int32, Wp_X9_refuse r s (fun r1 s1 => Q r1 s1) := fun r => rfq h hQ mfx_rf
  refine W_tn h.1 (fun _ => ⟨fun _ => bad 1, nz0⟩) (fun g1 g2 g3 => ⟨nz1, fun _ => ?_⟩)
  refine W_tn h.1 (fun _ => ⟨fun _ => bad 1, nz0⟩) (fun g4 g5 g6 => ⟨nz1, fun _ => ⟨fun _ => bad 1, fun _ => ?_⟩⟩)
  refine W_sh ⟨nz0, fun _ => bad 1⟩ ⟨fun _ => ?_, nz1⟩
  obtain ⟨T, hT1, eT⟩ := n_of (a := zi s 54 0 6) (n := 10) h.1.1 h.1.2
  have e6 : ∀ s' : zS, mfx s s' → zi s' 54 0 6 = nI T := fun s' hm => by rw [hm.2 6 (by unfold C3; omega)]; exact eT
  have c25 : ¬ C3 25 := by unfold C3; omega
  have c26 : ¬ C3 26 := by unfold C3; omega
  have c27 : ¬ C3 27 := by unfold C3; omega
  have k68 : KM 68 := km 68 (by omega)
  have k72 : KM 72 := km 72 (by omega)
  have k73 : KM 73 := km 73 (by omega)
  -- what holds in the loops: the first two of the way are TOWNS
  have tw : ∀ (m : Nat) (s1 : zS) (G : zS → Prop), m ≤ 3 → mfx s s1 → zi s1 54 0 25 = nI m → WV s1 m → BB s1 → (∀ s2 : zS, mfx s s2 → WV s2 m → BB s2 → G s2) → Wp_X9_tryWay c d s1 G := fun m s1 G hm hf em hw hb hG =>
    W_tryWay hm em hw (MI_fx h hf).2.1 hb (fun s2 t2 b2 => hG s2 (mfx_tf hf t2) (WV_fr hw t2) b2)
  -- the end: what was found is told
  have fin : ∀ s1 : zS, mfx s s1 → ¬ zj s1 54 0 31 = 0 → P248 0 s1 := by
    intro s1 hf hb
    have key : ∀ (n k : Nat) (s' : zS), k + n = 3 → mfx s s' → ¬ zj s' 54 0 31 = 0 → P248 (nI k) s' := by
      intro n
      induction n with
      | zero =>
        intro k s' hk hf' hb'
        apply h248
        obtain rfl : k = 3 := by omega
        exact ⟨fun _ => W_tells hb' (fun r s2 hf2 => fin9 h hQ (mfx_tr hf' hf2)), fun g => absurd (Int32.le_refl _) g⟩
      | succ n ih =>
        intro k s' hk hf' hb'
        apply h248
        have ik : vp_in (nI k) 3 := nat_in (by omega) (by omega)
        refine ⟨fun g => absurd g (nI_ge (a := k) (b := 3) (by omega) (by omega)), fun _ => ⟨ik, ik, ?_⟩⟩
        rintro _ rfl
        rw [nI_1]
        exact ih (k + 1) _ (by omega) (mfx_si hf' k73) (by rw [zj_si]; exact hb')
    exact key 3 0 s1 (by omega) hf hb
  have fin4 : ∀ s1 : zS, mfx s s1 → ¬ zj s1 54 0 31 = 0 → P219 0 s1 := by
    intro s1 hf hb
    have key : ∀ (n k : Nat) (s' : zS), k + n = 4 → mfx s s' → ¬ zj s' 54 0 31 = 0 → P219 (nI k) s' := by
      intro n
      induction n with
      | zero =>
        intro k s' hk hf' hb'
        apply h219
        obtain rfl : k = 4 := by omega
        exact ⟨fun _ => fin s' hf' hb', fun g => absurd (Int32.le_refl _) g⟩
      | succ n ih =>
        intro k s' hk hf' hb'
        apply h219
        have ik : vp_in (nI k) 4 := nat_in (by omega) (by omega)
        refine ⟨fun g => absurd g (nI_ge (a := k) (b := 4) (by omega) (by omega)), fun _ => ⟨ik, ik, ?_⟩⟩
        rintro _ rfl
        rw [nI_1]
        exact ih (k + 1) _ (by omega) (mfx_si hf' k72) (by rw [zj_si]; exact hb')
    exact key 4 0 s1 (by omega) hf hb
  have outer : ∀ (n x : Nat) (s1 : zS), x + n = T → mfx s s1 → WV s1 0 → BB s1 → P70 (nI x) s1 := by
    intro n
    induction n with
    | zero =>
      intro x s1 hx hf hw hb
      apply h70
      rw [e6 s1 hf]
      refine ⟨fun _ => ⟨fun ne => ?_, fun _ => rfq h hQ hf⟩, fun g => absurd (nI_le (show T ≤ x by omega) (by omega)) g⟩
      rintro _ rfl
      exact fin4 _ (mfx_54 hf c27) (by rw [zj_si]; exact hb ne)
    | succ n ihx =>
      intro x s1 hx hf hw hb
      have nx : ∀ s2 : zS, mfx s s2 → WV s2 0 → BB s2 → P70 (nI x + 1) s2 := fun s2 f2 w2 b2 => by
        rw [nI_1]
        exact ihx (x + 1) s2 (by omega) f2 w2 b2
      have inner : ∀ (n y : Nat) (s1 : zS), y + n = T → mfx s s1 → WV s1 1 → BB s1 → P124 (nI x) (nI y) s1 := by
        intro n
        induction n with
        | zero =>
          intro y s1 hy hf hw hb
          apply h124
          rw [e6 s1 hf]
          exact ⟨fun _ => nx s1 hf (fun i hi => hw i (by omega)) hb, fun g => absurd (nI_le (show T ≤ y by omega) (by omega)) g⟩
        | succ n ihy =>
          intro y s1 hy hf hw hb
          apply h124
          rw [e6 s1 hf, nI_1 y]
          have ny : ∀ s2 : zS, mfx s s2 → WV s2 1 → BB s2 → P124 (nI x) (nI (y + 1)) s2 := fun s2 f2 w2 b2 => ihy (y + 1) s2 (by omega) f2 w2 b2
          refine ⟨fun g => absurd g (nI_ge (by omega) (by omega)), fun _ => ⟨fun _ => ny s1 hf hw hb, fun _ => ⟨fun _ => ny s1 hf hw hb, fun _ => ⟨fun _ => ?_, fun _ => ny s1 hf hw hb⟩⟩⟩⟩
          rintro _ rfl _ rfl _ rfl
          refine tw 3 _ _ (by omega) (mfx_si (mfx_si (mfx_54 hf c25) k68) k68) ?_ ?_ ?_ (fun s2 f2 w2 b2 => ny s2 f2 (fun i hi => w2 i (by omega)) b2)
          · rw [zi_sir _ _ _ _ _ _ _ (by omega), zi_sir _ _ _ _ _ _ _ (by omega), zi_si, if_pos ⟨rfl, rfl, rfl⟩]
            rfl
          · intro i hi
            rw [zi_sig, zi_sig, zi_sir _ _ _ _ _ _ _ (by omega)]
            by_cases e3 : i = 3
            · rw [e3, upd_at]
              exact ⟨g4, g6⟩
            · rw [upd_ne e3]
              by_cases e2 : i = 2
              · rw [e2, upd_at, nI_toInt (by omega)]
                omega
              · rw [upd_ne e2]
                exact hw i (by omega)
          · unfold BB at hb ⊢
            rw [zj_si, zj_si, zj_si, zi_sir _ _ _ _ _ _ _ (by omega), zi_sir _ _ _ _ _ _ _ (by omega), zi_si, if_neg (by omega)]
            exact hb
      apply h70
      rw [e6 s1 hf]
      refine ⟨fun g => absurd g (nI_ge (by omega) (by omega)), fun _ => ⟨fun _ => nx s1 hf hw hb, fun _ => ⟨fun _ => ?_, fun _ => nx s1 hf hw hb⟩⟩⟩
      rintro _ rfl _ rfl _ rfl
      refine tw 2 _ _ (by omega) (mfx_si (mfx_si (mfx_54 hf c25) k68) k68) ?_ ?_ ?_ (fun s2 f2 w2 b2 => inner T 0 s2 (by omega) f2 (fun i hi => w2 i (by omega)) b2)
      · rw [zi_sir _ _ _ _ _ _ _ (by omega), zi_sir _ _ _ _ _ _ _ (by omega), zi_si, if_pos ⟨rfl, rfl, rfl⟩]
        rfl
      · intro i hi
        rw [zi_sig, zi_sig, zi_sir _ _ _ _ _ _ _ (by omega)]
        by_cases e3 : i = 2
        · rw [e3, upd_at]
          exact ⟨g4, g6⟩
        · rw [upd_ne e3]
          by_cases e2 : i = 1
          · rw [e2, upd_at, nI_toInt (by omega)]
            omega
          · rw [upd_ne e2]
            exact hw i (by omega)
      · unfold BB at hb ⊢
        rw [zj_si, zj_si, zj_si, zi_sir _ _ _ _ _ _ _ (by omega), zi_sir _ _ _ _ _ _ _ (by omega), zi_si, if_neg (by omega)]
        exact hb
  rintro _ rfl _ rfl _ rfl _ rfl
  refine tw 1 _ _ (by omega) (mfx_si (mfx_54 (mfx_si (mfx_54 mfx_rf c26) k68) c25) k68) ?_ ?_ ?_ (fun s2 f2 w2 b2 => outer T 0 s2 (by omega) f2 (fun i hi => w2 i (by omega)) b2)
  · rw [zi_sir _ _ _ _ _ _ _ (by omega), zi_si, if_pos ⟨rfl, rfl, rfl⟩]
    rfl
  · intro i hi
    rw [zi_sig, zi_sir _ _ _ _ _ _ _ (by omega), zi_sig]
    by_cases e3 : i = 1
    · rw [e3, upd_at]
      exact ⟨g4, g6⟩
    · rw [upd_ne e3]
      obtain rfl : i = 0 := by omega
      rw [upd_at]
      exact ⟨g1, g3⟩
  · intro q
    exfalso
    apply q
    rw [zi_sir _ _ _ _ _ _ _ (by omega), zi_si, if_neg (by omega), zi_sir _ _ _ _ _ _ _ (by omega), zi_si, if_pos ⟨rfl, rfl, rfl⟩]

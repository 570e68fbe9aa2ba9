/-! ===== bring: who goes where, of the reference ===== -/
def KB (k : Nat) : Prop := k = 74 ∨ k = 75
theorem KB_KM {k : Nat} (h : KB k) : KM k := by unfold KB at h; unfold KM; omega
def vM (s : zS) (t h x : Int32) : Int64 := if x = 0 then 0 else (((100000 : Int64) * x.toInt64) * ((zi s 62 0 (Int32.toNatClampNeg (10 * t + h))).toInt64)) - (((((x + (6 : Int32)) - (1 : Int32)) / (6 : Int32)).toInt64) * ((zi s 60 0 (Int32.toNatClampNeg (10 * h + t))).toInt64))
theorem W_value9 {t h x : Int32} {s : zS} {Q : Int64 → zS → Prop} (i1 : vp_in ((10 : Int32) * t + h) 100) (i2 : vp_in ((10 : Int32) * h + t) 100) (hQ : Q (vM s t h x) s) : Wp_X9_value t h x s Q := by
  unfold Wp_X9_value Wp_X9_at
  unfold vM at hQ
  refine ⟨fun ne => ⟨i1, i2, ?_⟩, fun e => ?_⟩
  · rw [if_neg ne] at hQ
    exact hQ
  · rw [if_pos e] at hQ
    exact hQ
theorem lkM_fr {s s' : zS} (hf : zfx KB s s') (t h : Int32) : lkM s' t h = lkM s t h := by
  have k : ∀ k, ¬ KB k → zi s' k 0 = zi s k 0 := fun k hk => (hf k hk 0).1
  unfold lkM cM zB9
  rw [k 61 (by unfold KB; omega), k 63 (by unfold KB; omega), k 65 (by unfold KB; omega), k 64 (by unfold KB; omega), k 54 (by unfold KB; omega)]
theorem vM_fr {s s' : zS} (hf : zfx KB s s') (t h x : Int32) : vM s' t h x = vM s t h x := by
  have k : ∀ k, ¬ KB k → zi s' k 0 = zi s k 0 := fun k hk => (hf k hk 0).1
  unfold vM
  rw [k 62 (by unfold KB; omega), k 60 (by unfold KB; omega)]
theorem ni61 : (61 : Int32) = nI 61 := rfl
theorem n_at61 {a b : Nat} : (61 : Int32) * nI a + nI b = nI (61 * a + b) := by rw [ni61, pk_mul, nI_add]
/-- what is best for TOWN t with l left is brought by some x -/
def AT (g : Nat → Int64) (V : Nat → Nat → Int64) (lk : Nat → Int32) (t l : Nat) : Prop := ∃ x : Nat, x ≤ l ∧ (x : Int) ≤ (lk t).toInt ∧ V t x + g (61 * (t + 1) + l - x) = g (61 * t + l)
theorem AT_fr {g : Nat → Int64} {V : Nat → Nat → Int64} {lk : Nat → Int32} {t l j : Nat} {v : Int64} (hj : j < 61 * t) (hl : l ≤ 60) (h : AT g V lk t l) : AT (vp_updL g j v) V lk t l := by
  obtain ⟨x, h1, h2, h3⟩ := h
  refine ⟨x, h1, h2, ?_⟩
  unfold vp_updL
  rw [if_neg (by omega), if_neg (by omega)]
  exact h3
theorem B9_fr {s s' : zS} (h : B9 s) (hf : zfx KB s s') : B9 s' := by
  have k : ∀ k, ¬ KB k → zi s' k 0 = zi s k 0 := fun k hk => (hf k hk 0).1
  unfold B9 zB9 zL9 at h ⊢
  rw [k 54 (by unfold KB; omega), k 63 (by unfold KB; omega), k 64 (by unfold KB; omega), k 65 (by unfold KB; omega), k 67 (by unfold KB; omega)]
  exact h
theorem nI_pm (i : Nat) (h : i < 1000) : nI i + (-1) = nI i - 1 := by
  apply Int32.toInt_inj.mp
  rw [it_add (by rw [nI_toInt (by omega), it_m1]; omega) (by rw [nI_toInt (by omega), it_m1]; omega), it_sub (by rw [nI_toInt (by omega), it_1]; omega) (by rw [nI_toInt (by omega), it_1]; omega), it_m1, it_1]
  omega
theorem W_bring {h : Nat} {s : zS} {Q : Int64 → zS → Prop} (hh : h < 10) (hT : T9 s) (hB : B9 s) (hQ : ∀ (r : Int64) (s' : zS), zfx KB s s' → Q r s') : Wp_X9_bring (nI h) s Q := by
  unfold Wp_X9_bring
  intro P9 P42 P57 P82 P166 P188 h9 h42 h57 h82 h166 h188
  have k74 : KB 74 := Or.inl rfl
  have k75 : KB 75 := Or.inr rfl
  obtain ⟨T, hT1, eT⟩ := n_of (a := zi s 54 0 6) (n := 10) hT.1 hT.2
  have t54 : ∀ s' : zS, zfx KB s s' → zi s' 54 0 6 = nI T := fun s' hf => by rw [(hf 54 (by unfold KB; omega) 0).1]; exact eT
  have hA := cM_le hB (nI h) (nI h)
  refine W_count9 hB ?_
  generalize cM s (nI h) (nI h) = A at hA
  have i1 : ∀ t, t < 10 → vp_in ((10 : Int32) * nI t + nI h) 100 := fun t ht => by rw [n_at]; exact nat_in (by omega) (by omega)
  have i2 : ∀ t, t < 10 → vp_in ((10 : Int32) * nI h + nI t) 100 := fun t ht => by rw [n_at]; exact nat_in (by omega) (by omega)
  generalize hV : (fun t x : Nat => vM s (nI t) (nI h) (nI x)) = V
  generalize hlk : (fun t : Nat => lkM s (nI t) (nI h)) = lk
  have eV : ∀ (s' : zS), zfx KB s s' → ∀ t x : Nat, vM s' (nI t) (nI h) (nI x) = V t x := fun s' hf t x => by rw [vM_fr hf, ← hV]
  have elk : ∀ (s' : zS), zfx KB s s' → ∀ t : Nat, lkM s' (nI t) (nI h) = lk t := fun s' hf t => by rw [lkM_fr hf, ← hlk]
  have lk0 : ∀ t : Nat, 0 ≤ (lk t).toInt := fun t => by rw [← hlk]; exact lk_nn _ _ _
  have V0 : ∀ t : Nat, V t 0 = 0 := fun t => by
    rw [← hV]
    show vM s (nI t) (nI h) (nI 0) = 0
    unfold vM
    rw [if_pos nI_0]
  -- the way back: who goes
  have third : ∀ (n t l : Nat) (s' : zS), t + n = T → l ≤ A → zfx KB s s' → (∀ t', t' < T → ∀ l', l' ≤ A → AT (zj s' 74 0) V lk t' l') → P166 (nI A) (nI l) (nI t) s' := by
    intro n
    induction n with
    | zero =>
      intro t l s' ht hl hf hat
      apply h166
      rw [t54 s' hf]
      exact ⟨fun _ => ⟨nat_in (by omega) (by omega), hQ _ s' hf⟩, fun g => absurd (nI_le (show T ≤ t by omega) (by omega)) g⟩
    | succ n ih =>
      intro t l s' ht hl hf hat
      apply h166
      rw [t54 s' hf]
      refine ⟨fun g => absurd g (nI_ge (by omega) (by omega)), fun _ => W_lackOf9 (B9_fr hB hf) (i1 t (by omega)) ?_⟩
      rintro _ rfl
      rw [elk s' hf t]
      obtain ⟨x0, hx0, hx1, hx2⟩ := hat t (by omega) l hl
      have down : ∀ x : Nat, x0 ≤ x → x ≤ l → P188 (nI A) (nI l) (nI t) (nI x) s' := by
        intro x
        induction x with
        | zero =>
          intro g1 g2
          apply h188
          refine W_value9 (i1 t (by omega)) (i2 t (by omega)) ?_
          rw [nI_1, n_at61, n_at61, nI_subN (by omega) (by omega), nI_clamp (by omega), nI_clamp (by omega), eV s' hf t 0]
          obtain rfl : x0 = 0 := by omega
          refine ⟨nat_in (by omega) (by omega), nat_in (by omega) (by omega), fun _ => ⟨nat_in (by omega) (by omega), ?_⟩, fun g => absurd hx2 g⟩
          rintro _ rfl _ rfl
          rw [nI_subN (by omega) (by omega)]
          exact ih (t + 1) (l - 0) _ (by omega) (by omega) (zfx_si hf k75) (fun t' ht' l' hl' => by rw [zj_si]; exact hat t' ht' l' hl')
        | succ x ihx =>
          intro g1 g2
          apply h188
          refine W_value9 (i1 t (by omega)) (i2 t (by omega)) ?_
          rw [nI_1, n_at61, n_at61, nI_subN (by omega) (by omega), nI_clamp (by omega), nI_clamp (by omega), eV s' hf t (x + 1)]
          refine ⟨nat_in (by omega) (by omega), nat_in (by omega) (by omega), fun _ => ⟨nat_in (by omega) (by omega), ?_⟩, fun g => ?_⟩
          · rintro _ rfl _ rfl
            rw [nI_subN (by omega) (by omega)]
            exact ih (t + 1) (l - (x + 1)) _ (by omega) (by omega) (zfx_si hf k75) (fun t' ht' l' hl' => by rw [zj_si]; exact hat t' ht' l' hl')
          · rw [nI_m1 x (by omega)]
            refine ihx ?_ (by omega)
            rcases Nat.lt_or_ge x0 (x + 1) with q | q
            · omega
            · exfalso
              obtain rfl : x0 = x + 1 := by omega
              exact g hx2
      have lkt := lk0 t
      by_cases q : nI l < lk t
      · rw [if_pos q]
        exact down l hx0 (Nat.le_refl l)
      · rw [if_neg q]
        rw [it_lt, nI_toInt (by omega)] at q
        obtain ⟨x1, hx3, ex1⟩ := n_of (a := lk t) (n := l) lkt (by omega)
        rw [ex1, nI_toInt (by omega)] at hx1
        rw [ex1]
        exact down x1 (by omega) hx3
  -- TOWN by TOWN from the last one
  have second : ∀ (t : Nat) (s' : zS), t ≤ T → zfx KB s s' → (∀ t', t ≤ t' → t' < T → ∀ l', l' ≤ A → AT (zj s' 74 0) V lk t' l') → P42 (nI A) (nI t - 1) s' := by
    intro t
    induction t with
    | zero =>
      intro s' ht hf hat
      apply h42
      exact ⟨fun _ => third T 0 A s' (by omega) (Nat.le_refl A) hf (fun t' ht' => hat t' (by omega) ht'), fun g => absurd (by decide) g⟩
    | succ t iht =>
      intro s' ht hf hat
      rw [nI_pred]
      apply h42
      refine ⟨fun g => absurd g (nI_pos (by omega)), fun _ => W_lackOf9 (B9_fr hB hf) (i1 t (by omega)) ?_⟩
      rw [elk s' hf t]
      have row : ∀ (n l : Nat) (s2 : zS), l + n = A + 1 → zfx KB s s2 → (∀ t', t + 1 ≤ t' → t' < T → ∀ l', l' ≤ A → AT (zj s2 74 0) V lk t' l') → (∀ l', l' < l → AT (zj s2 74 0) V lk t l') → P57 (nI A) (nI t) (lk t) (nI l) s2 := by
        intro n
        induction n with
        | zero =>
          intro l s2 hl hf2 hat2 hrow
          apply h57
          refine ⟨fun _ => ?_, fun g => absurd (nI_lt (show A < l by omega) (by omega)) g⟩
          rw [nI_pm t (by omega)]
          refine iht s2 (by omega) hf2 (fun t' h1 h2 l' hl' => ?_)
          by_cases e : t' = t
          · rw [e]
            exact hrow l' (by omega)
          · exact hat2 t' (by omega) h2 l' hl'
        | succ n ihn =>
          intro l s2 hl hf2 hat2 hrow
          apply h57
          refine ⟨fun g => absurd g (nI_nlt (by omega) (by omega)), fun _ => ?_⟩
          rw [nI_1, n_at61, nI_clamp (by omega)]
          refine ⟨nat_in (by omega) (by omega), ?_⟩
          rintro _ rfl
          -- the end of the inner loop: the best stands
          have put : ∀ v : Int64, (∃ x : Nat, x ≤ l ∧ (x : Int) ≤ (lk t).toInt ∧ V t x + zj s2 74 0 (61 * (t + 1) + l - x) = v) → (vp_in (((61 : Int32) * nI t) + nI l) 671 ∧ ∀ s8 : zS, s8 = zsj s2 74 0 (Int32.toNatClampNeg (((61 : Int32) * nI t) + nI l)) v → P57 (nI A) (nI t) (lk t) (nI l + 1) s8) := by
            rintro v ⟨x, hx1, hx2, hx3⟩
            rw [n_at61, nI_clamp (by omega), nI_1]
            refine ⟨nat_in (by omega) (by omega), ?_⟩
            rintro _ rfl
            refine ihn (l + 1) _ (by omega) (zfx_sj hf2 k74) (fun t' h1 h2 l' hl' => ?_) (fun l' hl' => ?_)
            · rw [zj_sjg]
              exact AT_fr (by omega) (by omega) (hat2 t' h1 h2 l' hl')
            · rw [zj_sjg]
              by_cases e : l' = l
              · rw [e]
                refine ⟨x, hx1, hx2, ?_⟩
                unfold vp_updL
                rw [if_neg (by omega), if_pos rfl]
                exact hx3
              · obtain ⟨y, hy1, hy2, hy3⟩ := hrow l' (by omega)
                refine ⟨y, hy1, hy2, ?_⟩
                unfold vp_updL
                rw [if_neg (by omega), if_neg (by omega)]
                exact hy3
          have inner : ∀ (m x : Nat) (v : Int64), x + m = l + 1 → 1 ≤ x → (∃ y : Nat, y ≤ l ∧ (y : Int) ≤ (lk t).toInt ∧ V t y + zj s2 74 0 (61 * (t + 1) + l - y) = v) → P82 (nI A) (nI t) (lk t) (nI l) v (nI x) s2 := by
            intro m
            induction m with
            | zero =>
              intro x v hx h1 hv
              apply h82
              exact ⟨fun _ => put v hv, fun _ => ⟨fun _ => put v hv, fun g => absurd (nI_lt (show l < x by omega) (by omega)) g⟩⟩
            | succ m ihm =>
              intro x v hx h1 hv
              apply h82
              refine ⟨fun _ => put v hv, fun g => ⟨fun _ => put v hv, fun _ => W_value9 (i1 t (by omega)) (i2 t (by omega)) ?_⟩⟩
              rw [it_lt, nI_toInt (by omega)] at g
              rw [nI_1, nI_1, n_at61, nI_subN (by omega) (by omega), nI_clamp (by omega), eV s2 hf2 t x]
              refine ⟨nat_in (by omega) (by omega), ?_⟩
              rintro _ rfl
              refine ihm (x + 1) _ (by omega) (by omega) ?_
              split
              · exact hv
              · exact ⟨x, by omega, by omega, rfl⟩
          refine inner l 1 _ (by omega) (by omega) ⟨0, by omega, lk0 t, ?_⟩
          rw [V0, Int64.zero_add, Nat.sub_zero]
      exact row (A + 1) 0 s' (by omega) hf hat (fun l' hl' => absurd hl' (Nat.not_lt_zero l'))
  have first : ∀ (n i : Nat) (s' : zS), i + n = A + 1 → zfx KB s s' → P9 (nI A) (nI i) s' := by
    intro n
    induction n with
    | zero =>
      intro i s' hi hf
      apply h9
      rw [t54 s' hf]
      refine ⟨fun _ => ?_, fun g => absurd (nI_lt (show A < i by omega) (by omega)) g⟩
      rintro _ rfl
      exact second T s' (Nat.le_refl T) hf (fun t' h1 h2 => absurd h2 (by omega))
    | succ n ih =>
      intro i s' hi hf
      apply h9
      rw [t54 s' hf, n_at61]
      refine ⟨fun g => absurd g (nI_nlt (by omega) (by omega)), fun _ => ⟨nat_in (by omega) (by omega), ?_⟩⟩
      rintro _ rfl
      rw [nI_1]
      exact ih (i + 1) _ (by omega) (zfx_sj hf k74)
  exact first (A + 1) 0 s (by omega) zfx_rf
theorem bring_mf {s s' s2 : zS} (h : mfx s s') (hz : zfx KB s' s2) : mfx s s2 := mfx_zf h hz (fun _ => KB_KM)
theorem S9_carrying {a : Int32} {s : zS} {Q : Int32 → zS → Prop} (h : MI s) (hQ : ∀ (r : Int32) (s' : zS), MI s' → MF s s' → Q r s') : Wp_X9_carrying a s Q := by
  unfold Wp_X9_carrying Wp_X9_at
  intro P hP
  refine W_tn h.1 (fun _ => ⟨nz0, fun _ => rfq h hQ mfx_rf⟩) (fun g1 g2 g3 => ⟨fun _ => ?_, nz1⟩)
  obtain ⟨j, hj, rfl⟩ := n_ofl (a := a) (n := 10) g1 g3
  rintro _ rfl
  have h1 := MI_fx h (s09 (v := 0))
  refine W_bring hj h1.1 h1.2.1 (fun r s' hf => ?_)
  have hm := bring_mf s09 hf
  obtain ⟨T, hT1, eT⟩ := n_of (a := zi s 54 0 6) (n := 10) h.1.1 h.1.2
  have e6 : zi s' 54 0 6 = nI T := by rw [hm.2 6 (by unfold C3; omega)]; exact eT
  have key : ∀ (n i : Nat) (v : Int32), i + n = T → P v (nI i) s' := by
    intro n
    induction n with
    | zero =>
      intro i v hi
      apply hP
      rw [e6]
      exact ⟨fun _ => fin9 h hQ hm, fun g => absurd (nI_le (show T ≤ i by omega) (by omega)) g⟩
    | succ n ih =>
      intro i v hi
      apply hP
      rw [e6, n_at]
      refine ⟨fun g => absurd g (nI_ge (by omega) (by omega)), fun _ => ⟨nat_in (by omega) (by omega), nat_in (by omega) (by omega), ?_⟩⟩
      rintro _ rfl
      rw [nI_1]
      exact ih (i + 1) _ (by omega)
  exact key T 0 0 (by omega)
theorem S9_fares {a : Int32} {s : zS} {Q : Int32 → zS → Prop} (h : MI s) (hQ : ∀ (r : Int32) (s' : zS), MI s' → MF s s' → Q r s') : Wp_X9_fares a s Q := by
  unfold Wp_X9_fares Wp_X9_at
  intro P hP
  refine W_tn h.1 (fun _ => ⟨nz0, fun _ => rfq h hQ mfx_rf⟩) (fun g1 g2 g3 => ⟨fun _ => ?_, nz1⟩)
  obtain ⟨j, hj, rfl⟩ := n_ofl (a := a) (n := 10) g1 g3
  rintro _ rfl
  have h1 := MI_fx h (s09 (v := 0))
  refine W_bring hj h1.1 h1.2.1 (fun r s' hf => ?_)
  have hm := bring_mf s09 hf
  obtain ⟨T, hT1, eT⟩ := n_of (a := zi s 54 0 6) (n := 10) h.1.1 h.1.2
  have e6 : zi s' 54 0 6 = nI T := by rw [hm.2 6 (by unfold C3; omega)]; exact eT
  have key : ∀ (n i : Nat) (v : Int32), i + n = T → P v (nI i) s' := by
    intro n
    induction n with
    | zero =>
      intro i v hi
      apply hP
      rw [e6]
      exact ⟨fun _ => fin9 h hQ hm, fun g => absurd (nI_le (show T ≤ i by omega) (by omega)) g⟩
    | succ n ih =>
      intro i v hi
      apply hP
      rw [e6, n_at]
      refine ⟨fun g => absurd g (nI_ge (by omega) (by omega)), fun _ => ⟨nat_in (by omega) (by omega), nat_in (by omega) (by omega), ?_⟩⟩
      rintro _ rfl
      rw [nI_1]
      exact ih (i + 1) _ (by omega)
  exact key T 0 0 (by omega)
theorem S9_carried {a b : Int32} {s : zS} {Q : Int32 → zS → Prop} (h : MI s) (hQ : ∀ (r : Int32) (s' : zS), MI s' → MF s s' → Q r s') : Wp_X9_carried a b s Q := by
  unfold Wp_X9_carried
  have bad : ∀ r : Int32, Wp_X9_refuse r s (fun r1 s1 => Q r1 s1) := fun r => rfq h hQ mfx_rf
  refine W_tn h.1 (fun _ => ⟨fun _ => bad 1, nz0⟩) (fun g1 g2 g3 => ⟨nz1, fun _ => ?_⟩)
  refine W_tn h.1 (fun _ => ⟨fun _ => bad 1, nz0⟩) (fun g4 g5 g6 => ⟨nz1, fun _ => ⟨fun _ => ?_, fun _ => bad 1⟩⟩)
  obtain ⟨j, hj, rfl⟩ := n_ofl (a := a) (n := 10) g1 g3
  rintro _ rfl
  have h1 := MI_fx h (s09 (v := 0))
  exact W_bring hj h1.1 h1.2.1 (fun r s' hf => ⟨in_of g4 g6, fin9 h hQ (bring_mf s09 hf)⟩)
/-- what send changes: where BIRDS are -/
def KS (k : Nat) : Prop := KM k ∨ k = 64
theorem MI_64 {s s' : zS} (h : MI s) (hf : zfx (fun k => KS k ∨ k = 54) s s') (hc : ∀ i, C3 i → zi s' 54 0 i = zi s 54 0 i) (h64 : ∀ b : Nat, (b : Int) < zB9 s → 0 ≤ (zi s' 64 0 b).toInt ∧ (zi s' 64 0 b).toInt < 10) : MI s' := by
  have hk : ∀ k, (k = 56 ∨ k = 63 ∨ k = 65 ∨ k = 67 ∨ k = 76 ∨ k = 83 ∨ k = 85) → zi s' k 0 = zi s k 0 := fun k hk => (hf k (fun q => by unfold KS KM at q; omega) 0).1
  have h6 := hc 6 (by unfold C3; omega)
  have h7 := hc 7 (by unfold C3; omega)
  have h34 := hc 34 (by unfold C3; omega)
  unfold MI T9 B9 S9L R9 L9 zB9 zL9 at h ⊢
  unfold zB9 at h64
  rw [hk 56 (by omega), hk 63 (by omega), hk 65 (by omega), hk 67 (by omega), hk 76 (by omega), hk 83 (by omega), hk 85 (by omega), h6, h7, h34]
  exact ⟨h.1, ⟨h.2.1.1, fun b hb => ⟨(h.2.1.2 b hb).1, h64 b hb, (h.2.1.2 b hb).2.2⟩⟩, h.2.2⟩
theorem S9_send {a : Int32} {s : zS} {Q : Int32 → zS → Prop} (h : MI s) (hQ : ∀ (r : Int32) (s' : zS), MI s' → MF s s' → Q r s') : Wp_X9_send a s Q := by
  unfold Wp_X9_send
  intro P31 P43 h31 h43
  refine W_tn h.1 (fun _ => ⟨nz0, fun _ => rfq h hQ mfx_rf⟩) (fun g1 g2 g3 => ⟨fun _ => ?_, nz1⟩)
  obtain ⟨j, hj, rfl⟩ := n_ofl (a := a) (n := 10) g1 g3
  rintro _ rfl
  have h1 := MI_fx h (s09 (v := 0))
  refine W_bring hj h1.1 h1.2.1 (fun r s1 hf1 => ?_)
  have hm := bring_mf s09 hf1
  obtain ⟨T, hT1, eT⟩ := n_of (a := zi s 54 0 6) (n := 10) h.1.1 h.1.2
  obtain ⟨N, hN1, eN⟩ := n_of (a := zi s 54 0 7) (n := 60) h.2.1.1.1 h.2.1.1.2
  have c1 : zfx (fun k => KS k ∨ k = 54) s s1 := zfx_mo hm.1 (fun k hk => hk.elim (fun q => Or.inl (Or.inl q)) Or.inr)
  have b1 : ∀ b : Nat, (b : Int) < zB9 s → 0 ≤ (zi s1 64 0 b).toInt ∧ (zi s1 64 0 b).toInt < 10 := fun b hb => by
    rw [(hm.1 64 (by unfold KM; omega) 0).1]
    exact (h.2.1.2 b hb).2.1
  -- the state in the loops: cells 54, 64, 75 alone change
  have key : ∀ (n t : Nat) (v : Int32) (s' : zS), t + n = T → zfx (fun k => KS k ∨ k = 54) s s' → (∀ i, C3 i → zi s' 54 0 i = zi s 54 0 i) → (∀ b : Nat, (b : Int) < zB9 s → 0 ≤ (zi s' 64 0 b).toInt ∧ (zi s' 64 0 b).toInt < 10) → P31 v (nI t) s' := by
    intro n
    induction n with
    | zero =>
      intro t v s' ht hf hc hw
      apply h31
      have e6 : zi s' 54 0 6 = nI T := by rw [hc 6 (by unfold C3; omega)]; exact eT
      rw [e6]
      exact ⟨fun _ => hQ _ s' (MI_64 h hf hc hw) ⟨zfx_mo hf (fun k hk => by unfold KS KM at hk; omega), hc 6 (by unfold C3; omega), hc 7 (by unfold C3; omega)⟩, fun g => absurd (nI_le (show T ≤ t by omega) (by omega)) g⟩
    | succ n ih =>
      intro t v s' ht hf hc hw
      have inner : ∀ (m b : Nat) (v : Int32) (s2 : zS), b + m = N → zfx (fun k => KS k ∨ k = 54) s s2 → (∀ i, C3 i → zi s2 54 0 i = zi s 54 0 i) → (∀ b : Nat, (b : Int) < zB9 s → 0 ≤ (zi s2 64 0 b).toInt ∧ (zi s2 64 0 b).toInt < 10) → P43 v (nI t) (nI b) s2 := by
        intro m
        induction m with
        | zero =>
          intro b v s2 hb hf2 hc2 hw2
          apply h43
          have e7 : zi s2 54 0 7 = nI N := by rw [hc2 7 (by unfold C3; omega)]; exact eN
          rw [e7, nI_1]
          exact ⟨fun _ => ih (t + 1) v s2 (by omega) hf2 hc2 hw2, fun g => absurd (nI_le (show N ≤ b by omega) (by omega)) g⟩
        | succ m ihm =>
          intro b v s2 hb hf2 hc2 hw2
          apply h43
          have e7 : zi s2 54 0 7 = nI N := by rw [hc2 7 (by unfold C3; omega)]; exact eN
          rw [e7, nI_1, nI_1]
          have it' : vp_in (nI t) 10 := nat_in (by omega) (by omega)
          have ib : vp_in (nI b) 60 := nat_in (by omega) (by omega)
          have nx : P43 v (nI t) (nI (b + 1)) s2 := ihm (b + 1) v s2 (by omega) hf2 hc2 hw2
          refine ⟨fun g => absurd g (nI_ge (by omega) (by omega)), fun _ => ⟨it', fun _ => ih (t + 1) v s2 (by omega) hf2 hc2 hw2, fun _ => ⟨ib, fun _ => nx, fun _ => ⟨ib, fun _ => nx, fun _ => ⟨ib, fun _ => ⟨ib, ?_⟩, fun _ => nx⟩⟩⟩⟩⟩
          rintro _ rfl
          refine ⟨it', it', ?_⟩
          rintro _ rfl
          rw [nI_clamp (by omega), nI_clamp (by omega)]
          refine ihm (b + 1) _ _ (by omega) (zfx_si (zfx_si hf2 (Or.inl (Or.inr rfl))) (Or.inl (Or.inl (km 75 (by omega))))) (fun i hi => ?_) (fun b' hb' => ?_)
          · rw [zi_sir _ _ _ _ _ _ _ (by omega), zi_sir _ _ _ _ _ _ _ (by omega)]
            exact hc2 i hi
          · rw [zi_sir _ _ _ _ _ _ _ (by omega), zi_si]
            by_cases e : b' = b
            · rw [if_pos ⟨rfl, rfl, e⟩, nI_toInt (by omega)]
              omega
            · rw [if_neg (fun q => e q.2.2)]
              exact hw2 b' hb'
      apply h31
      have e6 : zi s' 54 0 6 = nI T := by rw [hc 6 (by unfold C3; omega)]; exact eT
      rw [e6]
      exact ⟨fun g => absurd g (nI_ge (by omega) (by omega)), fun _ => inner N 0 v s' (by omega) hf hc hw⟩
  exact key T 0 0 s1 (by omega) c1 hm.2 b1

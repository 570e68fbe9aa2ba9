/-! ===== TRAYS, side by side: those that change ===== -/
theorem inv_frK {s : zS} {v : Int32} : zfx KE s (zsi s 0 0 8 v) := zfx_mo s0 (fun _ => KI_KE)
theorem zj6_sjg (s : zS) (t i : Nat) (v : Int64) (x j : Nat) : zj (zsj s 6 t i v) 6 x j = if x = t ∧ j = i then v else zj s 6 x j := by
  rw [zj_sj]
  by_cases e : x = t ∧ j = i
  · rw [if_pos ⟨rfl, e.1, e.2⟩, if_pos e]
  · rw [if_neg (fun q => e q.2), if_neg e]
theorem P_write {a b : Int32} {v : Int64} {s : zS} {B : Prop → Prop} {R : Int32 → Int32 → zS → Prop} (hB : ∀ p : Prop, p → B p) (h : Inv s) (hR : ∀ (r : Int32) (s2 : zS), Inv s2 → R r r s2) : Wp_X8_write a b v s (fun r s1 => B (Wp_X9_write a b v s1 (fun r2 s2 => R r r2 s2))) := by
  refine S8_write (L8_of h.1) (fun g r => hB _ ?_) (fun t i ht hi ea eb g => hB _ ?_)
  · have i1 : Inv (zsi s 0 0 8 r) := inv_s0 h
    refine S9_write i1.2.1.2.2.2.2 (fun _ r2 => hR _ _ (inv_s9 i1)) (fun t i ht hi ea eb g2 => absurd ?_ g)
    have q := (PO_iff i1.2.2 a b).mpr g2
    unfold PO8 at q ⊢
    rw [zi_sir _ _ _ _ _ 3 0 (by omega), zi_sir _ _ _ _ _ 4 0 (by omega)] at q
    exact q
  · generalize hs1 : zsj (zsi s 0 0 8 0) 6 t i (cutv v (zi s 3 0 t)) = s1
    have f1 : zfx (fun k => k = 0 ∨ k = 6) s s1 := by rw [← hs1]; exact zfx_sj (zfx1 (Or.inl rfl)) (Or.inr rfl)
    have x6 : ∀ x j : Nat, zj s1 6 x j = if x = t ∧ j = i then cutv v (zi s 3 0 t) else zj s 6 x j := fun x j => by rw [← hs1, zj6_sjg, zj_si]
    have m1 : MI s1 := MI_8 (fun k hk q => by omega) h.2.1 f1
    obtain ⟨t3, j3, m, ht3, ea3, eb3, hjm, hm, em, hn⟩ := g
    obtain rfl := nI_t (by omega) (by omega) (ea.symm.trans ea3)
    obtain rfl := nI_t (by omega) (by omega) (eb.symm.trans eb3)
    have y := RT_y h.2.2 ht hn
    have q9 : PO9 s1 a b := ⟨t, i, m, ht, ea, eb, hjm, hm, by rw [(f1 56 (by omega) 0).1]; exact y.2.1.trans em⟩
    refine S9_write m1.2.2.2.2 (fun g2 => absurd q9 g2) (fun t2 j ht2 hj ea2 eb2 g2 => hR _ _ ?_)
    obtain rfl := nI_t (by omega) (by omega) (ea.symm.trans ea2)
    obtain rfl := nI_t (by omega) (by omega) (eb.symm.trans eb2)
    rw [(f1 55 (by omega) 0).1, y.1]
    refine inv_s9 ?_
    generalize hs2 : zsj s1 57 0 (60 * t + i) (cutv v (zi s 3 0 t)) = s2
    have f2 : zfx (fun k => k = 57) s1 s2 := by rw [← hs2]; exact zfx_sj zfx_rf rfl
    have x57 : ∀ j : Nat, zj s2 57 0 j = if j = 60 * t + i then cutv v (zi s 3 0 t) else zj s 57 0 j := fun j => by
      rw [← hs2, zj_sj, (f1 57 (by omega) 0).2]
      by_cases e : j = 60 * t + i
      · rw [if_pos ⟨rfl, rfl, e⟩, if_pos e]
      · rw [if_neg (fun q => e q.2.2), if_neg e]
    have f : zfx (fun k => k = 0 ∨ k = 6 ∨ k = 57) s s2 := zfx_tr (zfx_mo f1 (fun k hk => by omega)) (zfx_mo f2 (fun k hk => by omega))
    refine ⟨CI_fr (fun k hk q => by omega) h.1 f, MI_g h.2.1 (fun k hk => (f k (by omega) 0).1) (fun i _ => by rw [(f 54 (by omega) 0).1]), ?_⟩
    have r0 := h.2.2
    unfold RR RT at r0 ⊢
    rw [(f 54 (by omega) 0).1, (f 7 (by omega) 0).1, (f 14 (by omega) 0).1, (f 3 (by omega) 0).1, (f 4 (by omega) 0).1, (f 55 (by omega) 0).1, (f 56 (by omega) 0).1]
    refine ⟨r0.1, r0.2.1, fun x hx => ?_⟩
    rcases r0.2.2 x hx with q | q
    · exact Or.inl q
    · refine Or.inr ⟨q.1, q.2.1, q.2.2.1, q.2.2.2.1, fun j hj => ?_⟩
      have l8 := (L8_of h.1 x hx).2
      rw [x57, (f2 6 (by omega) x).2, x6]
      by_cases e : x = t ∧ j = i
      · rw [if_pos e, if_pos (by rw [e.1, e.2])]
      · rw [if_neg e, if_neg (by omega)]
        exact q.2.2.2.2 j hj
theorem P_pour {a b c d e : Int32} {s : zS} {B : Prop → Prop} {R : Int32 → Int32 → zS → Prop} (hB : ∀ p : Prop, p → B p) (h : Inv s) (hR : ∀ (r : Int32) (s2 : zS), Inv s2 → R r r s2) : Wp_X8_pour a b c d e s (fun r s1 => B (Wp_X9_pour a b c d e s1 (fun r2 s2 => R r r2 s2))) := by
  refine S8_pour (L8_of h.1) (fun g r => hB _ ?_) (fun t p u q n ht hu hp hq ea eb ec ed ee g => hB _ ?_)
  · have i1 : Inv (zsi s 0 0 8 r) := inv_s0 h
    refine S9_pour i1.2.1.2.2.2.2 (fun _ r2 => hR _ _ (inv_s9 i1)) (fun t p u q n ht hu hp hq ea eb ec ed ee g2 => absurd ?_ g)
    have q := (QO_iff i1.2.2 a b c d e).mpr g2
    unfold QO8 at q ⊢
    rw [zi_sir _ _ _ _ _ 3 0 (by omega), zi_sir _ _ _ _ _ 4 0 (by omega)] at q
    exact q
  · generalize hs1 : zcj (zsi s 0 0 8 0) 6 u (va_cpy (zj s 6 t) (zj s 6 u) p q n) = s1
    have f1 : zfx (fun k => k = 0 ∨ k = 6) s s1 := by rw [← hs1]; exact zfx_cj (zfx1 (Or.inl rfl)) (Or.inr rfl)
    have x6 : ∀ x : Nat, zj s1 6 x = if x = u then va_cpy (zj s 6 t) (zj s 6 u) p q n else zj s 6 x := fun x => by
      rw [← hs1, zj_cj]
      by_cases e : x = u
      · rw [if_pos ⟨rfl, e⟩, if_pos e]
      · rw [if_neg (fun q => e q.2), if_neg e, zj_si]
    have m1 : MI s1 := MI_8 (fun k hk q => by omega) h.2.1 f1
    have q9 : QO9 s1 a b c d e := by
      have q := (QO_iff h.2.2 a b c d e).mp g
      unfold QO9 at q ⊢
      rw [(f1 55 (by omega) 0).1, (f1 56 (by omega) 0).1]
      exact q
    obtain ⟨t3, p3, u3, q3, n3, k1, k2, ht3, hu3, ea3, eb3, ec3, ed3, ee3, n1, n2, es, e1, e2, hk1, hk2, hx1, hx2⟩ := g
    obtain rfl := nI_t (by omega) (by omega) (ea.symm.trans ea3)
    obtain rfl := nI_t (by omega) (by omega) (eb.symm.trans eb3)
    obtain rfl := nI_t (by omega) (by omega) (ec.symm.trans ec3)
    obtain rfl := nI_t (by omega) (by omega) (ed.symm.trans ed3)
    obtain rfl := nI_t (by omega) (by omega) (ee.symm.trans ee3)
    have y1 := RT_y h.2.2 ht n1
    refine S9_pour m1.2.2.2.2 (fun g2 => absurd q9 g2) (fun t2 p2 u2 q2 n2' ht2 hu2 hp2 hq2 ea2 eb2 ec2 ed2 ee2 g2 s' z1 z2 z3 => hR _ _ (inv_s9 ?_))
    obtain rfl := nI_t (by omega) (by omega) (ea.symm.trans ea2)
    obtain rfl := nI_t (by omega) (by omega) (eb.symm.trans eb2)
    obtain rfl := nI_t (by omega) (by omega) (ec.symm.trans ec2)
    obtain rfl := nI_t (by omega) (by omega) (ed.symm.trans ed2)
    obtain rfl := nI_t (by omega) (by omega) (ee.symm.trans ee2)
    have f2 : zfx (fun k => k = 57) s1 s' := fun k hk r => ⟨z1 k r, z2 k r (fun q => hk q.1)⟩
    have f : zfx (fun k => k = 0 ∨ k = 6 ∨ k = 57) s s' := zfx_tr (zfx_mo f1 (fun k hk => by omega)) (zfx_mo f2 (fun k hk => by omega))
    refine ⟨CI_fr (fun k hk q => by omega) h.1 f, MI_g h.2.1 (fun k hk => (f k (by omega) 0).1) (fun i _ => by rw [(f 54 (by omega) 0).1]), ?_⟩
    have r0 := h.2.2
    unfold RR RT at r0 ⊢
    rw [(f 54 (by omega) 0).1, (f 7 (by omega) 0).1, (f 14 (by omega) 0).1, (f 3 (by omega) 0).1, (f 4 (by omega) 0).1, (f 55 (by omega) 0).1, (f 56 (by omega) 0).1]
    refine ⟨r0.1, r0.2.1, fun x hx => ?_⟩
    rcases r0.2.2 x hx with w | w
    · exact Or.inl w
    · refine Or.inr ⟨w.1, w.2.1, w.2.2.1, w.2.2.2.1, fun j hj => ?_⟩
      have l8 := (L8_of h.1 x hx).2
      rw [z3, (f1 57 (by omega) 0).2, (f2 6 (by omega) x).2, x6]
      by_cases ex : x = u
      · rw [if_pos ex]
        by_cases ei : q ≤ j ∧ j < q + n
        · rw [pk_cpy_in ei.1 ei.2, if_pos (by omega)]
          have k := y1.2.2 (p + (j - q)) (by rw [e1, nI_toInt (by omega)]; omega)
          rw [← k]
          congr 1
          omega
        · rw [pk_cpy_out (by omega), if_neg (by omega), ← ex]
          exact w.2.2.2.2 j hj
      · rw [if_neg ex, if_neg (by omega)]
        exact w.2.2.2.2 j hj
theorem P_tray {a b c : Int32} {s : zS} {B : Prop → Prop} {R : Int32 → Int32 → zS → Prop} (hB : ∀ p : Prop, p → B p) (h : Inv s) (hR : ∀ (r : Int32) (s2 : zS), Inv s2 → R r r s2) : Wp_X8_tray a b c s (fun r s1 => B (Wp_X9_tray a b c s1 (fun r2 s2 => R r r2 s2))) := by
  refine W8_tray (fun g => hB _ ?_) (fun t ht ea hb0 hb3 hc0 hc60 s1 z1 z2 z3 => hB _ ?_)
  · have i1 : Inv (zsi s 0 0 8 1) := inv_s0 h
    refine W9_tray (fun _ => hR _ _ (inv_s9 i1)) (fun t m ht hm ea ec hb0 hb3 s' _ _ _ _ => absurd ?_ g)
    rw [ea, ec, nI_toInt (by omega), nI_toInt (by omega)]
    omega
  · refine W9_tray (fun g => absurd ?_ g) (fun t2 m ht2 hm ea2 ec hb0 hb3 s2 w1 w2 w3 w4 => hR _ _ ?_)
    · rw [ea, nI_toInt (by omega)]
      omega
    obtain rfl := nI_t (by omega) (by omega) (ea.symm.trans ea2)
    have hk1 : ∀ k : Nat, ¬ (k = 0 ∨ k = 3 ∨ k = 4) → ∀ r, zi s1 k r = zi s k r := fun k hk r => by
      rw [z3, zi_sir _ _ _ _ _ _ _ (by omega), zi_sir _ _ _ _ _ _ _ (by omega), zi_sir _ _ _ _ _ _ _ (by omega)]
    have a3 : zi s1 3 0 = upd (zi s 3 0) t b := by rw [z3, zi_sir _ _ _ _ _ _ _ (by omega), zi_sig, zi_sir _ _ _ _ _ _ _ (by omega)]
    have a4 : zi s1 4 0 = upd (zi s 4 0) t c := by rw [z3, zi_sig, zi_sir _ _ _ _ _ _ _ (by omega), zi_sir _ _ _ _ _ _ _ (by omega)]
    have hk2 : ∀ k : Nat, ¬ (k = 55 ∨ k = 56) → ∀ r, zi s2 k r = zi s1 k r := fun k hk r => by
      rw [w4, zi_sir _ _ _ _ _ _ _ (by omega), zi_sir _ _ _ _ _ _ _ (by omega)]
    have a55 : zi s2 55 0 = upd (zi s 55 0) t b := by rw [w4, zi_sir _ _ _ _ _ _ _ (by omega), zi_sig, hk1 55 (by omega)]
    have a56 : zi s2 56 0 = upd (zi s 56 0) t c := by rw [w4, zi_sig, zi_sir _ _ _ _ _ _ _ (by omega), hk1 56 (by omega)]
    generalize hs3 : zsi s2 54 0 0 0 = s3
    have f3 : mfx s2 s3 := by rw [← hs3]; exact s09
    have hk : ∀ k : Nat, ¬ (k = 0 ∨ k = 3 ∨ k = 4 ∨ k = 54 ∨ k = 55 ∨ k = 56) → ∀ r, zi s3 k r = zi s k r := fun k hk r => by
      rw [← hs3, zi_sir _ _ _ _ _ _ _ (by omega), hk2 k (by omega), hk1 k (by omega)]
    have b3 : zi s3 3 0 = upd (zi s 3 0) t b := by rw [← hs3, zi_sir _ _ _ _ _ _ _ (by omega), hk2 3 (by omega), a3]
    have b4 : zi s3 4 0 = upd (zi s 4 0) t c := by rw [← hs3, zi_sir _ _ _ _ _ _ _ (by omega), hk2 4 (by omega), a4]
    have b55 : zi s3 55 0 = upd (zi s 55 0) t b := by rw [← hs3, zi_sir _ _ _ _ _ _ _ (by omega), a55]
    have b56 : zi s3 56 0 = upd (zi s 56 0) t c := by rw [← hs3, zi_sir _ _ _ _ _ _ _ (by omega), a56]
    have b54 : C3eq s s3 := fun i hi => by
      rw [← hs3, zi_si, if_neg (fun q : 54 = 54 ∧ 0 = 0 ∧ i = 0 => c0 (q.2.2 ▸ hi)), hk2 54 (by omega), hk1 54 (by omega)]
    have b6 : ∀ x : Nat, zj s3 6 x = zj s1 6 x := fun x => by rw [← hs3, zj_si, w3 6 x (by omega)]
    have b57 : zj s3 57 0 = zj s2 57 0 := by rw [← hs3, zj_si]
    have c57 : zj s1 57 0 = zj s 57 0 := z2 57 0 (by omega)
    refine ⟨?_, ?_, ?_⟩
    · have h1 := h.1
      unfold CI BI LI zNb zLc at h1 ⊢
      rw [hk 7 (by omega), hk 14 (by omega), hk 15 (by omega), hk 16 (by omega), hk 17 (by omega), hk 19 (by omega), hk 38 (by omega), hk 39 (by omega), hk 49 (by omega), b4]
      refine ⟨h1.1, ⟨h1.2.1.1, h1.2.1.2.1, fun x y hx hy => ?_⟩, h1.2.2.1, h1.2.2.2.1, fun x hx => ?_⟩
      · rw [hk 21 (by omega)]
        exact h1.2.1.2.2 x y hx hy
      · by_cases e : x = t
        · rw [e, upd_at]
          exact ⟨hc0, hc60⟩
        · rw [upd_ne e]
          exact h1.2.2.2.2 x hx
    · have h1 := h.2.1
      have h6 := b54 6 (by unfold C3; omega)
      have h7 := b54 7 (by unfold C3; omega)
      have h34 := b54 34 (by unfold C3; omega)
      unfold MI T9 B9 S9L R9 L9 zB9 zL9 at h1 ⊢
      rw [b56, hk 63 (by omega), hk 64 (by omega), hk 65 (by omega), hk 67 (by omega), hk 76 (by omega), hk 83 (by omega), hk 85 (by omega), h6, h7, h34]
      refine ⟨h1.1, h1.2.1, h1.2.2.1, h1.2.2.2.1, fun x hx => ?_⟩
      by_cases e : x = t
      · rw [e, upd_at]
        exact Or.inr ⟨hc0, hc60⟩
      · rw [upd_ne e]
        exact h1.2.2.2.2 x hx
    · have r0 := h.2.2
      unfold RR RT at r0 ⊢
      rw [b54 6 (by unfold C3; omega), b54 7 (by unfold C3; omega), hk 7 (by omega), hk 14 (by omega), b3, b4, b55, b56, b57]
      refine ⟨r0.1, r0.2.1, fun x hx => ?_⟩
      rw [b6 x]
      by_cases e : x = t
      · subst e
        rw [upd_at, upd_at, upd_at, upd_at]
        refine Or.inr ⟨fun q => ?_, fun q => ?_, rfl, rfl, fun j hj => ?_⟩
        · rw [q, it_m1] at hb0
          omega
        · rw [q, it_m1] at hc0
          omega
        · rw [ec, nI_toInt (by omega)] at hj
          rw [w1 j (by omega), z1 j (by omega)]
      · rw [upd_ne e, upd_ne e, upd_ne e, upd_ne e]
        rcases r0.2.2 x hx with w | w
        · exact Or.inl w
        · refine Or.inr ⟨w.1, w.2.1, w.2.2.1, w.2.2.2.1, fun j hj => ?_⟩
          have l8 := (L8_of h.1 x hx).2
          rw [w2 _ (by omega), c57, z2 6 x (by omega)]
          exact w.2.2.2.2 j hj

/-! ===== class and reference side by side ===== -/
/-- a TRAY: missing in both, or the same sort, length and numbers -/
def RT (s : zS) (t : Nat) : Prop := (zi s 3 0 t = -1 ∧ zi s 56 0 t = -1) ∨ (¬ zi s 3 0 t = -1 ∧ ¬ zi s 56 0 t = -1 ∧ zi s 55 0 t = zi s 3 0 t ∧ zi s 56 0 t = zi s 4 0 t ∧ ∀ i : Nat, (i : Int) < (zi s 4 0 t).toInt → zj s 57 0 (60 * t + i) = zj s 6 t i)
def RR (s : zS) : Prop := zi s 54 0 6 = zi s 7 0 0 ∧ zi s 54 0 7 = zi s 14 0 0 ∧ ∀ t : Nat, t < 4 → RT s t
def Inv (s : zS) : Prop := CI s ∧ MI s ∧ RR s
theorem RR_g {s s' : zS} (h : RR s) (h6 : zi s' 54 0 6 = zi s 54 0 6) (h7 : zi s' 54 0 7 = zi s 54 0 7) (e7 : zi s' 7 0 0 = zi s 7 0 0) (e14 : zi s' 14 0 0 = zi s 14 0 0) (k3 : zi s' 3 0 = zi s 3 0) (k4 : zi s' 4 0 = zi s 4 0) (k55 : zi s' 55 0 = zi s 55 0) (k56 : zi s' 56 0 = zi s 56 0) (k6 : ∀ t, zj s' 6 t = zj s 6 t) (k57 : zj s' 57 0 = zj s 57 0) : RR s' := by
  unfold RR RT at h ⊢
  rw [h6, h7, e7, e14, k3, k4, k55, k56, k57]
  refine ⟨h.1, h.2.1, fun t ht => ?_⟩
  rw [k6 t]
  exact h.2.2 t ht
theorem KE_54 {k : Nat} (h : 54 ≤ k) : ¬ KE k := fun q => by unfold KE at q; omega
theorem MI_8 {K : Nat → Prop} {s s' : zS} (hK : ∀ k, 54 ≤ k → ¬ K k) (h : MI s) (hf : zfx K s s') : MI s' :=
  MI_g h (fun k hk => (hf k (hK k (by omega)) 0).1) (fun i _ => by rw [(hf 54 (hK 54 (by omega)) 0).1])
theorem CI_9 {K : Nat → Prop} {s s' : zS} (hK : ∀ k, k < 54 → ¬ K k) (h : CI s) (hf : zfx K s s') : CI s' :=
  CI_fr (fun k hk => hK k (by omega)) h hf
theorem nKE {k : Nat} (h : k = 3 ∨ k = 4 ∨ k = 6 ∨ k = 7 ∨ k = 14 ∨ k = 54 ∨ k = 55 ∨ k = 56 ∨ k = 57) : ¬ KE k := fun q => by unfold KE at q; omega
theorem inv8 {s s' : zS} (h : Inv s) (hc : CI s') (hf : zfx KE s s') : Inv s' := by
  refine ⟨hc, MI_8 (fun k => KE_54) h.2.1 hf, RR_g h.2.2 ?_ ?_ ?_ ?_ (hf 3 (nKE (by omega)) 0).1 (hf 4 (nKE (by omega)) 0).1 (hf 55 (nKE (by omega)) 0).1 (hf 56 (nKE (by omega)) 0).1 (fun t => (hf 6 (nKE (by omega)) t).2) (hf 57 (nKE (by omega)) 0).2⟩
  · rw [(hf 54 (nKE (by omega)) 0).1]
  · rw [(hf 54 (nKE (by omega)) 0).1]
  · rw [(hf 7 (nKE (by omega)) 0).1]
  · rw [(hf 14 (nKE (by omega)) 0).1]
theorem inv9 {s s' : zS} (h : Inv s) (hm : MI s') (hf : MF s s') : Inv s' := by
  obtain ⟨f, f6, f7⟩ := hf
  refine ⟨CI_9 (fun k hk q => by omega) h.1 f, hm, RR_g h.2.2 f6 f7 ?_ ?_ (f 3 (by omega) 0).1 (f 4 (by omega) 0).1 (f 55 (by omega) 0).1 (f 56 (by omega) 0).1 (fun t => (f 6 (by omega) t).2) (f 57 (by omega) 0).2⟩
  · rw [(f 7 (by omega) 0).1]
  · rw [(f 14 (by omega) 0).1]
theorem inv_s0 {s : zS} {v : Int32} (h : Inv s) : Inv (zsi s 0 0 8 v) := inv8 h (CI_KI h.1 s0) (zfx_mo s0 (fun _ => KI_KE))
theorem inv_s9 {s : zS} {v : Int32} (h : Inv s) : Inv (zsi s 54 0 0 v) := inv9 h (MI_fx h.2.1 s09) (MF_of s09)
/-! ===== the calls that are compared ===== -/
theorem P_fare {a b c : Int32} {s : zS} {B : Prop → Prop} {R : Int32 → Int32 → zS → Prop} (hB : ∀ p : Prop, p → B p) (h : Inv s) (hR : ∀ (r : Int32) (s2 : zS), Inv s2 → R r r s2) : Wp_X8_fare a b c s (fun r s1 => B (Wp_X9_fare a b c s1 (fun r2 s2 => R r r2 s2))) := by
  have tw : ∀ s1 : zS, zfx KE s s1 → (Two9 s1 a b ↔ Two s a b) := fun s1 f => by
    unfold Two9 Two
    rw [(f 54 (nKE (by omega)) 0).1, h.2.2.1]
    have := h.1.1.2
    constructor
    · rintro ⟨x1, x2, x3, x4, x5⟩
      exact ⟨x1, x2, by omega, x3, x4, by omega, x5⟩
    · rintro ⟨x1, x2, -, x3, x4, -, x5⟩
      exact ⟨x1, x2, x3, x4, x5⟩
  refine S8_fare h.1 (fun g s1 c1 f1 => hB _ ?_) (fun g s1 c1 f1 => hB _ ?_)
  · exact S9_fare (inv8 h c1 f1).2.1 (fun _ s2 m2 f2 => hR 0 s2 (inv9 (inv8 h c1 f1) m2 f2)) (fun g2 => absurd ⟨(tw s1 f1).mp g2.1, g2.2⟩ g)
  · exact S9_fare (inv8 h c1 f1).2.1 (fun g2 => absurd ⟨(tw s1 f1).mpr g.1, g.2⟩ g2) (fun _ s2 m2 f2 => hR 1 s2 (inv9 (inv8 h c1 f1) m2 f2))
theorem P_want {a b c d : Int32} {s : zS} {B : Prop → Prop} {R : Int32 → Int32 → zS → Prop} (hB : ∀ p : Prop, p → B p) (h : Inv s) (hR : ∀ (r : Int32) (s2 : zS), Inv s2 → R r r s2) : Wp_X8_want a b c d s (fun r s1 => B (Wp_X9_want a b c d s1 (fun r2 s2 => R r r2 s2))) := by
  have tw : ∀ s1 : zS, zfx KE s s1 → (Two9 s1 a b ↔ Two s a b) := fun s1 f => by
    unfold Two9 Two
    rw [(f 54 (nKE (by omega)) 0).1, h.2.2.1]
    have := h.1.1.2
    constructor
    · rintro ⟨x1, x2, x3, x4, x5⟩
      exact ⟨x1, x2, by omega, x3, x4, by omega, x5⟩
    · rintro ⟨x1, x2, -, x3, x4, -, x5⟩
      exact ⟨x1, x2, x3, x4, x5⟩
  refine S8_want h.1 (fun g s1 c1 f1 => hB _ ?_) (fun g s1 c1 f1 => hB _ ?_)
  · exact S9_want (inv8 h c1 f1).2.1 (fun _ s2 m2 f2 => hR 0 s2 (inv9 (inv8 h c1 f1) m2 f2)) (fun g2 => absurd ⟨(tw s1 f1).mp g2.1, g2.2⟩ g)
  · exact S9_want (inv8 h c1 f1).2.1 (fun g2 => absurd ⟨(tw s1 f1).mpr g.1, g.2⟩ g2) (fun _ s2 m2 f2 => hR 1 s2 (inv9 (inv8 h c1 f1) m2 f2))
theorem P_town {s : zS} {B : Prop → Prop} {R : Int32 → Int32 → zS → Prop} (hB : ∀ p : Prop, p → B p) (h : Inv s) (hR : ∀ (r : Int32) (s2 : zS), Inv s2 → R r r s2) : Wp_X8_town s (fun r s1 => B (Wp_X9_town s1 (fun r2 s2 => R r r2 s2))) := by
  obtain ⟨t, ht, et⟩ := n_of (a := zi s 7 0 0) (n := 10) h.1.1.1 h.1.1.2
  have et9 : zi s 54 0 6 = nI t := h.2.2.1.trans et
  refine S8_town t ht et h.1 (fun g s1 c1 f1 => hB _ ?_) (fun g s1 c1 f1 e1 => hB _ ?_)
  · have i1 := inv8 h c1 f1
    refine W9_town t ht (by rw [(f1 54 (nKE (by omega)) 0).1]; exact et9) (fun _ => hR _ _ (inv_s9 i1)) (fun g2 => absurd g2 (by omega))
  · have hK : ∀ k, 54 ≤ k → ¬ (KE k ∨ k = 7) := fun k hk q => q.elim (KE_54 hk) (by omega)
    have nK : ∀ k, (k = 3 ∨ k = 4 ∨ k = 6 ∨ k = 14) → ¬ (KE k ∨ k = 7) := fun k hk q => q.elim (nKE (by omega)) (by omega)
    have m1 := MI_8 hK h.2.1 f1
    refine W9_town t ht (by rw [(f1 54 (hK 54 (by omega)) 0).1]; exact et9) (fun q => absurd q (by omega)) (fun _ s' fs => hR _ _ ?_)
    generalize hs2 : zsi (zsi s' 54 0 6 (nI (t + 1))) 54 0 0 0 = s2
    have f2 : zfx (fun k => k = 54 ∨ k = 58 ∨ k = 60) s1 s2 := by rw [← hs2]; exact zfx_si (zfx_si (zfx_mo fs (fun k hk => by omega)) (by omega)) (by omega)
    have x6 : zi s2 54 0 6 = nI (t + 1) := by rw [← hs2, zi_si, if_neg (by omega), zi_si, if_pos ⟨rfl, rfl, rfl⟩]
    have x7 : zi s2 54 0 7 = zi s 54 0 7 := by rw [← hs2, zi_si, if_neg (by omega), zi_si, if_neg (by omega), (fs 54 (by omega) 0).1, (f1 54 (hK 54 (by omega)) 0).1]
    have x34 : zi s2 54 0 34 = zi s1 54 0 34 := by rw [← hs2, zi_si, if_neg (by omega), zi_si, if_neg (by omega), (fs 54 (by omega) 0).1]
    have x7' : zi s2 54 0 7 = zi s1 54 0 7 := by rw [x7, (f1 54 (hK 54 (by omega)) 0).1]
    refine ⟨CI_9 (fun k hk q => by omega) c1 f2, ?_, ?_⟩
    · have hk : ∀ k, ¬ (k = 54 ∨ k = 58 ∨ k = 60) → zi s2 k 0 = zi s1 k 0 := fun k hk => (f2 k hk 0).1
      unfold MI T9 B9 S9L R9 L9 zB9 zL9 at m1 ⊢
      rw [hk 56 (by omega), hk 63 (by omega), hk 64 (by omega), hk 65 (by omega), hk 67 (by omega), hk 76 (by omega), hk 83 (by omega), hk 85 (by omega), x6, x7', x34, nI_toInt (by omega)]
      exact ⟨by omega, m1.2⟩
    · have r0 := h.2.2
      unfold RR RT at r0 ⊢
      rw [x6, x7, (f2 7 (by omega) 0).1, e1, (f2 14 (by omega) 0).1, (f1 14 (nK 14 (by omega)) 0).1, (f2 3 (by omega) 0).1, (f1 3 (nK 3 (by omega)) 0).1, (f2 4 (by omega) 0).1, (f1 4 (nK 4 (by omega)) 0).1, (f2 55 (by omega) 0).1, (f1 55 (hK 55 (by omega)) 0).1, (f2 56 (by omega) 0).1, (f1 56 (hK 56 (by omega)) 0).1, (f2 57 (by omega) 0).2, (f1 57 (hK 57 (by omega)) 0).2]
      refine ⟨rfl, r0.2.1, fun x hx => ?_⟩
      rw [(f2 6 (by omega) x).2, (f1 6 (nK 6 (by omega)) x).2]
      exact r0.2.2 x hx
theorem P_bird {a : Int32} {s : zS} {B : Prop → Prop} {R : Int32 → Int32 → zS → Prop} (hB : ∀ p : Prop, p → B p) (h : Inv s) (hR : ∀ (r : Int32) (s2 : zS), Inv s2 → R r r s2) : Wp_X8_bird a s (fun r s1 => B (Wp_X9_bird a s1 (fun r2 s2 => R r r2 s2))) := by
  obtain ⟨n, hn, en⟩ := n_of (a := zi s 14 0 0) (n := 60) h.1.2.1.1.1 h.1.2.1.1.2
  have en9 : zi s 54 0 7 = nI n := h.2.2.2.1.trans en
  refine S8_bird n hn en h.1 (fun g s1 c1 f1 => hB _ ?_) (fun g1 g2 g3 s1 c1 f1 e1 => hB _ ?_)
  · have i1 := inv8 h c1 f1
    have e54 := (f1 54 (nKE (by omega)) 0).1
    refine S9_bird n hn (by rw [e54]; exact en9) i1.2.1 (fun _ s2 m2 f2 => hR _ _ (inv9 i1 m2 f2)) (fun q1 q2 q3 => absurd ⟨q1, ?_, q3⟩ g)
    rw [e54, h.2.2.1] at q2
    exact q2
  · have hK : ∀ k, 54 ≤ k → ¬ (KE k ∨ k = 14) := fun k hk q => q.elim (KE_54 hk) (by omega)
    have nK : ∀ k, (k = 3 ∨ k = 4 ∨ k = 6 ∨ k = 7) → ¬ (KE k ∨ k = 14) := fun k hk q => q.elim (nKE (by omega)) (by omega)
    have m1 := MI_8 hK h.2.1 f1
    have e54 := (f1 54 (hK 54 (by omega)) 0).1
    refine S9_bird n hn (by rw [e54]; exact en9) m1 (fun q => absurd ⟨g1, by rw [e54, h.2.2.1]; exact g2, g3⟩ q) (fun _ _ _ s2 m2 f2 x6 x7 => hR _ _ ⟨CI_9 (fun k hk q => by omega) c1 f2, m2, ?_⟩)
    have r0 := h.2.2
    unfold RR RT at r0 ⊢
    rw [x6, x7, e54, (f2 14 (by omega) 0).1, e1, (f2 7 (by omega) 0).1, (f1 7 (nK 7 (by omega)) 0).1, (f2 3 (by omega) 0).1, (f1 3 (nK 3 (by omega)) 0).1, (f2 4 (by omega) 0).1, (f1 4 (nK 4 (by omega)) 0).1, (f2 55 (by omega) 0).1, (f1 55 (hK 55 (by omega)) 0).1, (f2 56 (by omega) 0).1, (f1 56 (hK 56 (by omega)) 0).1, (f2 57 (by omega) 0).2, (f1 57 (hK 57 (by omega)) 0).2]
    refine ⟨r0.1, rfl, fun x hx => ?_⟩
    rw [(f2 6 (by omega) x).2, (f1 6 (nK 6 (by omega)) x).2]
    exact r0.2.2 x hx
/-! ===== TRAYS, side by side ===== -/
theorem RT_p {s : zS} (h : RR s) {t : Nat} (ht : t < 4) : (¬ zi s 3 0 t = -1 ↔ ¬ zi s 56 0 t = -1) := by
  rcases h.2.2 t ht with q | q
  · rw [q.1, q.2]
  · exact ⟨fun _ => q.2.1, fun _ => q.1⟩
theorem RT_y {s : zS} (h : RR s) {t : Nat} (ht : t < 4) (hn : ¬ zi s 3 0 t = -1) : zi s 55 0 t = zi s 3 0 t ∧ zi s 56 0 t = zi s 4 0 t ∧ ∀ i : Nat, (i : Int) < (zi s 4 0 t).toInt → zj s 57 0 (60 * t + i) = zj s 6 t i := by
  rcases h.2.2 t ht with q | q
  · exact absurd q.1 hn
  · exact q.2.2
theorem nm1 {m : Nat} (hm : m ≤ 60) {x : Int32} (e : x = nI m) : ¬ x = -1 := fun q => m1_no2 (show m < 1000 by omega) (q.symm.trans e)
theorem PO_iff {s : zS} (h : RR s) (a b : Int32) : PO8 s a b ↔ PO9 s a b := by
  constructor
  · rintro ⟨t, i, m, ht, ea, eb, hi, hm, em, hn⟩
    exact ⟨t, i, m, ht, ea, eb, hi, hm, (RT_y h ht hn).2.1.trans em⟩
  · rintro ⟨t, i, m, ht, ea, eb, hi, hm, em⟩
    have hn : ¬ zi s 3 0 t = -1 := (RT_p h ht).mpr (nm1 hm em)
    exact ⟨t, i, m, ht, ea, eb, hi, hm, (RT_y h ht hn).2.1.symm.trans em, hn⟩
theorem QO_iff {s : zS} (h : RR s) (a b c d e : Int32) : QO8 s a b c d e ↔ QO9 s a b c d e := by
  constructor
  · rintro ⟨t, p, u, q, n, m1, m2, ht, hu, ea, eb, ec, ed, ee, n1, n2, es, e1, e2, hm⟩
    exact ⟨t, p, u, q, n, m1, m2, ht, hu, ea, eb, ec, ed, ee, by rw [(RT_y h ht n1).1, (RT_y h hu n2).1]; exact es, (RT_y h ht n1).2.1.trans e1, (RT_y h hu n2).2.1.trans e2, hm⟩
  · rintro ⟨t, p, u, q, n, m1, m2, ht, hu, ea, eb, ec, ed, ee, es, e1, e2, hm1, hm2, hx⟩
    have n1 : ¬ zi s 3 0 t = -1 := (RT_p h ht).mpr (nm1 hm1 e1)
    have n2 : ¬ zi s 3 0 u = -1 := (RT_p h hu).mpr (nm1 hm2 e2)
    exact ⟨t, p, u, q, n, m1, m2, ht, hu, ea, eb, ec, ed, ee, n1, n2, by rw [← (RT_y h ht n1).1, ← (RT_y h hu n2).1]; exact es, (RT_y h ht n1).2.1.symm.trans e1, (RT_y h hu n2).2.1.symm.trans e2, hm1, hm2, hx⟩
theorem P_read {a b : Int32} {s : zS} {B : Prop → Prop} {R : Int64 → Int64 → zS → Prop} (hB : ∀ p : Prop, p → B p) (h : Inv s) (hR : ∀ (r : Int64) (s2 : zS), Inv s2 → R r r s2) : Wp_X8_read a b s (fun r s1 => B (Wp_X9_read a b s1 (fun r2 s2 => R r r2 s2))) := by
  refine S8_read (L8_of h.1) (fun g r => hB _ ?_) (fun t i ht hi ea eb g => hB _ ?_)
  · have i1 : Inv (zsi s 0 0 8 r) := inv_s0 h
    refine S9_read i1.2.1.2.2.2.2 (fun _ r2 => hR _ _ (inv_s9 i1)) (fun t i ht hi ea eb g2 => absurd ?_ g)
    have q := (PO_iff i1.2.2 a b).mpr g2
    unfold PO8 at q ⊢
    rw [zi_sir _ _ _ _ _ 3 0 (by omega), zi_sir _ _ _ _ _ 4 0 (by omega)] at q
    exact q
  · have i1 : Inv (zsi s 0 0 8 0) := inv_s0 h
    have q1 : PO8 (zsi s 0 0 8 0) a b := by
      unfold PO8 at g ⊢
      rw [zi_sir _ _ _ _ _ 3 0 (by omega), zi_sir _ _ _ _ _ 4 0 (by omega)]
      exact g
    refine S9_read i1.2.1.2.2.2.2 (fun g2 => absurd ((PO_iff i1.2.2 a b).mp q1) g2) (fun t2 j ht2 hj ea2 eb2 g2 => ?_)
    obtain rfl := nI_t (by omega) (by omega) (ea.symm.trans ea2)
    obtain rfl := nI_t (by omega) (by omega) (eb.symm.trans eb2)
    obtain ⟨t3, j, m, ht3, ea3, eb3, hjm, hm, em, hn⟩ := g
    obtain rfl := nI_t (by omega) (by omega) (ea.symm.trans ea3)
    obtain rfl := nI_t (by omega) (by omega) (eb.symm.trans eb3)
    have e := (RT_y h.2.2 ht hn).2.2 i (by rw [em, nI_toInt (by omega)]; omega)
    rw [zj_si, e]
    exact hR _ _ (inv_s9 i1)

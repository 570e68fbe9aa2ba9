/-! ===== the start, the loop ===== -/
theorem inv_0 {g : Nat → Nat → Int32} (hg : zg0 g) : Inv (zs0 g) := by
  have z : (0 : Int32).toInt = 0 := rfl
  refine ⟨⟨⟨Int.le_refl 0, show (0 : Int) ≤ 10 by omega⟩, ⟨⟨Int.le_refl 0, show (0 : Int) ≤ 60 by omega⟩, fun b hb => ?_, fun x y hx hy => rfl⟩, ⟨⟨Int.le_refl 0, show (0 : Int) ≤ 40 by omega⟩, fun b hb => ?_, fun l hl => ?_⟩, fun t ht => ⟨Int.le_refl 0, show (0 : Int) ≤ 10 by omega⟩, fun t ht => ⟨Int.le_refl 0, show (0 : Int) ≤ 60 by omega⟩⟩, ⟨⟨Int.le_refl 0, show (0 : Int) ≤ 10 by omega⟩, ⟨⟨Int.le_refl 0, show (0 : Int) ≤ 60 by omega⟩, fun b hb => ?_⟩, ⟨⟨Int.le_refl 0, show (0 : Int) ≤ 40 by omega⟩, fun l hl => ?_⟩, fun t ht => ⟨⟨Int.le_refl 0, show (0 : Int) ≤ 10 by omega⟩, fun i hi => ?_⟩, fun t ht => ?_⟩, rfl, rfl, fun t ht => Or.inl ⟨hg.1 t ht, ?_⟩⟩
  · exfalso
    have q : (b : Int) < 0 := hb
    omega
  · exfalso
    have q : (b : Int) < 0 := hb
    omega
  · exfalso
    have q : (l : Int) < 0 := hl
    omega
  · exfalso
    have q : (b : Int) < 0 := hb
    omega
  · exfalso
    have q : (l : Int) < 0 := hl
    omega
  · exfalso
    have q : (i : Int) + 1 < 0 := hi
    omega
  · left
    match t, ht with
    | 0, _ => rfl
    | 1, _ => rfl
    | 2, _ => rfl
    | 3, _ => rfl
  · match t, ht with
    | 0, _ => rfl
    | 1, _ => rfl
    | 2, _ => rfl
    | 3, _ => rfl
set_option maxHeartbeats 4000000 in
theorem law_main {L : Nat} (hL : L ≤ 3072) {xs : Nat → Int32} {g : Nat → Nat → Int32} (hg : zg0 g) : Wp_law L xs (zs0 g) := by
  unfold Wp_law
  intro P18 hP
  have key : ∀ (n j : Nat) (s : zS), L ≤ 6 * j + n → 6 * j ≤ L + 6 → Inv s → P18 (nI (6 * j)) s := by
    intro n
    induction n with
    | zero =>
      intro j s hn hj hi
      apply hP
      refine ⟨fun _ => rfl, fun hc => ?_⟩
      exfalso
      apply hc
      have e := nI_toInt (n := L) (by omega)
      have e2 : (nI L - 6).toInt = (L : Int) - 6 := by rw [it_sub (by rw [e, it_6]; omega) (by rw [e, it_6]; omega), e, it_6]
      rw [it_lt, e2, nI_toInt (by omega)]
      omega
    | succ n ih =>
      intro j s hn hj hi
      apply hP
      refine ⟨fun _ => rfl, fun hc => ?_⟩
      have hj6 : 6 * j + 6 ≤ L := by
        rcases Nat.lt_or_ge L (6 * j + 6) with q | q
        · exfalso
          apply hc
          have e := nI_toInt (n := L) (by omega)
          have e2 : (nI L - 6).toInt = (L : Int) - 6 := by rw [it_sub (by rw [e, it_6]; omega) (by rw [e, it_6]; omega), e, it_6]
          rw [it_lt, e2, nI_toInt (by omega)]
          omega
        · exact q
      clear hc
      have hE : ∀ s' : zS, Inv s' → P18 (nI (6 * j) + 6) s' := fun s' hs => by
        rw [show (6 : Int32) = nI 6 from rfl, nI_add]
        exact ih (j + 1) s' (by omega) (by omega) hs
      have v0 : vp_in (nI (6 * j)) L := vp_in_nI (by omega) (by omega)
      have vk : ∀ k : Nat, k < 6 → vp_in (nI (6 * j) + nI k) L := fun k hk => by
        rw [nI_add]
        exact vp_in_nI (by omega) (by omega)
      have v1 : vp_in (nI (6 * j) + 1) L := vk 1 (by omega)
      have v2 : vp_in (nI (6 * j) + 2) L := vk 2 (by omega)
      have v3 : vp_in (nI (6 * j) + 3) L := vk 3 (by omega)
      have v4 : vp_in (nI (6 * j) + 4) L := vk 4 (by omega)
      have v5 : vp_in (nI (6 * j) + 5) L := vk 5 (by omega)
      clear hP ih
      refine ⟨v0, ?_⟩
      have c_status : Wp_X8_status s (fun r s1 => Wp_X9_status s1 (fun r2 s2 => P18 (nI (6 * j) + 6) s2)) := hE s hi
      refine ⟨fun _ => c_status, ?_⟩
      have c_top : Wp_X8_top s (fun r s1 => Wp_X9_top s1 (fun r2 s2 => P18 (nI (6 * j) + 6) s2)) := hE s hi
      refine ⟨fun _ => c_top, ?_⟩
      have c_bottom : Wp_X8_bottom s (fun r s1 => Wp_X9_bottom s1 (fun r2 s2 => P18 (nI (6 * j) + 6) s2)) := hE s hi
      refine ⟨fun _ => c_bottom, ?_⟩
      refine ⟨fun _ => ⟨v1, v2, v3, P_tray (B := fun p : Prop => vp_in (nI (6 * j) + 1) L ∧ (vp_in (nI (6 * j) + 2) L ∧ (vp_in (nI (6 * j) + 3) L ∧ (p)))) (fun p hp => ⟨v1, v2, v3, hp⟩) hi (fun r s2 hs => hE s2 hs)⟩, ?_⟩
      refine ⟨fun _ => ⟨v1, v2, v3, v4, P_write (B := fun p : Prop => vp_in (nI (6 * j) + 1) L ∧ (vp_in (nI (6 * j) + 2) L ∧ (vp_in (nI (6 * j) + 3) L ∧ (vp_in (nI (6 * j) + 4) L ∧ (p))))) (fun p hp => ⟨v1, v2, v3, v4, hp⟩) hi (fun r s2 hs => hE s2 hs)⟩, ?_⟩
      refine ⟨fun _ => ⟨v1, v2, P_read (B := fun p : Prop => vp_in (nI (6 * j) + 1) L ∧ (vp_in (nI (6 * j) + 2) L ∧ (p))) (fun p hp => ⟨v1, v2, hp⟩) hi (fun r s2 hs => hE s2 hs)⟩, ?_⟩
      refine ⟨fun _ => ⟨v1, v2, v3, v4, v5, P_pour (B := fun p : Prop => vp_in (nI (6 * j) + 1) L ∧ (vp_in (nI (6 * j) + 2) L ∧ (vp_in (nI (6 * j) + 3) L ∧ (vp_in (nI (6 * j) + 4) L ∧ (vp_in (nI (6 * j) + 5) L ∧ (p)))))) (fun p hp => ⟨v1, v2, v3, v4, v5, hp⟩) hi (fun r s2 hs => hE s2 hs)⟩, ?_⟩
      refine ⟨fun _ => P_town (B := fun p : Prop => p) (fun p hp => hp) hi (fun r s2 hs => hE s2 hs), ?_⟩
      refine ⟨fun _ => ⟨v1, v2, v3, v4, S8_road hi.1 (fun r s1 c1 f1 => ⟨v1, v2, v3, v4, S9_road (inv8 hi c1 f1).2.1 (fun r2 s2 m2 f2 => hE s2 (inv9 (inv8 hi c1 f1) m2 f2))⟩)⟩, ?_⟩
      refine ⟨fun _ => ⟨v1, v2, v3, P_fare (B := fun p : Prop => vp_in (nI (6 * j) + 1) L ∧ (vp_in (nI (6 * j) + 2) L ∧ (vp_in (nI (6 * j) + 3) L ∧ (p)))) (fun p hp => ⟨v1, v2, v3, hp⟩) hi (fun r s2 hs => hE s2 hs)⟩, ?_⟩
      refine ⟨fun _ => ⟨v1, P_bird (B := fun p : Prop => vp_in (nI (6 * j) + 1) L ∧ (p)) (fun p hp => ⟨v1, hp⟩) hi (fun r s2 hs => hE s2 hs)⟩, ?_⟩
      refine ⟨fun _ => ⟨v1, v2, S8_carry hi.1 (fun r s1 c1 f1 => ⟨v1, v2, S9_carry (inv8 hi c1 f1).2.1 (fun r2 s2 m2 f2 => hE s2 (inv9 (inv8 hi c1 f1) m2 f2))⟩)⟩, ?_⟩
      refine ⟨fun _ => ⟨v1, v2, S8_told hi.1 (fun r s1 c1 f1 => ⟨v1, v2, S9_told (inv8 hi c1 f1).2.1 (fun r2 s2 m2 f2 => hE s2 (inv9 (inv8 hi c1 f1) m2 f2))⟩)⟩, ?_⟩
      refine ⟨fun _ => ⟨v1, v2, S8_waits hi.1 (fun r s1 c1 f1 => ⟨v1, v2, S9_waits (inv8 hi c1 f1).2.1 (fun r2 s2 m2 f2 => hE s2 (inv9 (inv8 hi c1 f1) m2 f2))⟩)⟩, ?_⟩
      refine ⟨fun _ => ⟨v1, v2, v3, S8_sure hi.1 (fun r s1 c1 f1 => ⟨v1, v2, v3, S9_sure (inv8 hi c1 f1).2.1 (fun r2 s2 m2 f2 => hE s2 (inv9 (inv8 hi c1 f1) m2 f2))⟩)⟩, ?_⟩
      refine ⟨fun _ => ⟨v1, v2, v3, v4, S8_doubles hi.1 (fun r s1 c1 f1 => ⟨v1, v2, v3, v4, S9_doubles (inv8 hi c1 f1).2.1 (fun r2 s2 m2 f2 => hE s2 (inv9 (inv8 hi c1 f1) m2 f2))⟩)⟩, ?_⟩
      refine ⟨fun _ => ⟨v1, v2, v3, v4, S8_relay hi.1 (fun r s1 c1 f1 => ⟨v1, v2, v3, v4, S9_relay (inv8 hi c1 f1).2.1 (fun r2 s2 m2 f2 => hE s2 (inv9 (inv8 hi c1 f1) m2 f2))⟩)⟩, ?_⟩
      refine ⟨fun _ => ⟨v1, v2, S8_leg hi.1 (fun r s1 c1 f1 => ⟨v1, v2, S9_leg (inv8 hi c1 f1).2.1 (fun r2 s2 m2 f2 => hE s2 (inv9 (inv8 hi c1 f1) m2 f2))⟩)⟩, ?_⟩
      refine ⟨fun _ => ⟨v1, v2, v3, v4, P_want (B := fun p : Prop => vp_in (nI (6 * j) + 1) L ∧ (vp_in (nI (6 * j) + 2) L ∧ (vp_in (nI (6 * j) + 3) L ∧ (vp_in (nI (6 * j) + 4) L ∧ (p))))) (fun p hp => ⟨v1, v2, v3, v4, hp⟩) hi (fun r s2 hs => ⟨fun _ => hE s2 hs, fun q => absurd rfl q⟩)⟩, ?_⟩
      refine ⟨fun _ => ⟨v1, v2, S8_lack hi.1 (fun r s1 c1 f1 => ⟨v1, v2, S9_lack (inv8 hi c1 f1).2.1 (fun r2 s2 m2 f2 => hE s2 (inv9 (inv8 hi c1 f1) m2 f2))⟩)⟩, ?_⟩
      refine ⟨fun _ => ⟨v1, S8_carrying hi.1 (fun r s1 c1 f1 => ⟨v1, S9_carrying (inv8 hi c1 f1).2.1 (fun r2 s2 m2 f2 => hE s2 (inv9 (inv8 hi c1 f1) m2 f2))⟩)⟩, ?_⟩
      refine ⟨fun _ => ⟨v1, v2, S8_carried hi.1 (fun r s1 c1 f1 => ⟨v1, v2, S9_carried (inv8 hi c1 f1).2.1 (fun r2 s2 m2 f2 => hE s2 (inv9 (inv8 hi c1 f1) m2 f2))⟩)⟩, ?_⟩
      refine ⟨fun _ => ⟨v1, S8_fares hi.1 (fun r s1 c1 f1 => ⟨v1, S9_fares (inv8 hi c1 f1).2.1 (fun r2 s2 m2 f2 => hE s2 (inv9 (inv8 hi c1 f1) m2 f2))⟩)⟩, ?_⟩
      refine ⟨fun _ => ⟨v1, S8_send hi.1 (fun r s1 c1 f1 => ⟨v1, S9_send (inv8 hi c1 f1).2.1 (fun r2 s2 m2 f2 => hE s2 (inv9 (inv8 hi c1 f1) m2 f2))⟩)⟩, ?_⟩
      refine ⟨fun _ => ⟨v1, v2, v3, v4, S8_letter hi.1 (fun r s1 c1 f1 => ⟨v1, v2, v3, v4, S9_letter (inv8 hi c1 f1).2.1 (fun r2 s2 m2 f2 => hE s2 (inv9 (inv8 hi c1 f1) m2 f2))⟩)⟩, ?_⟩
      refine ⟨fun _ => ⟨v1, v2, v3, S8_fly hi.1 (fun r s1 c1 f1 => ⟨v1, v2, v3, S9_fly (inv8 hi c1 f1).2.1 (fun r2 s2 m2 f2 => hE s2 (inv9 (inv8 hi c1 f1) m2 f2))⟩)⟩, ?_⟩
      refine ⟨fun _ => ⟨v1, v2, v3, v4, S8_comes hi.1 (fun r s1 c1 f1 => ⟨v1, v2, v3, v4, S9_comes (inv8 hi c1 f1).2.1 (fun r2 s2 m2 f2 => hE s2 (inv9 (inv8 hi c1 f1) m2 f2))⟩)⟩, ?_⟩
      refine ⟨fun _ => ⟨v1, v2, S8_lose hi.1 (fun r s1 c1 f1 => ⟨v1, v2, S9_lose (inv8 hi c1 f1).2.1 (fun r2 s2 m2 f2 => hE s2 (inv9 (inv8 hi c1 f1) m2 f2))⟩)⟩, ?_⟩
      refine ⟨fun _ => ⟨v1, v2, S8_knows hi.1 (fun r s1 c1 f1 => ⟨v1, v2, S9_knows (inv8 hi c1 f1).2.1 (fun r2 s2 m2 f2 => hE s2 (inv9 (inv8 hi c1 f1) m2 f2))⟩)⟩, ?_⟩
      refine ⟨fun _ => ⟨v1, v2, v3, S8_joined hi.1 (fun r s1 c1 f1 => ⟨v1, v2, v3, S9_joined (inv8 hi c1 f1).2.1 (fun r2 s2 m2 f2 => hE s2 (inv9 (inv8 hi c1 f1) m2 f2))⟩)⟩, ?_⟩
      refine ⟨fun _ => ⟨v1, v2, S8_copies hi.1 (fun r s1 c1 f1 => ⟨v1, v2, S9_copies (inv8 hi c1 f1).2.1 (fun r2 s2 m2 f2 => hE s2 (inv9 (inv8 hi c1 f1) m2 f2))⟩)⟩, ?_⟩
      refine ⟨fun _ => ⟨v1, v2, v3, S8_reading hi.1 (fun r s1 c1 f1 => ⟨v1, v2, v3, S9_reading (inv8 hi c1 f1).2.1 (fun r2 s2 m2 f2 => hE s2 (inv9 (inv8 hi c1 f1) m2 f2))⟩)⟩, ?_⟩
      refine ⟨fun _ => ⟨v1, v2, S8_right hi.1 (fun r s1 c1 f1 => ⟨v1, v2, S9_right (inv8 hi c1 f1).2.1 (fun r2 s2 m2 f2 => hE s2 (inv9 (inv8 hi c1 f1) m2 f2))⟩)⟩, ?_⟩
      exact fun _ => hE s hi
  exact key L 0 (zs0 g) (by omega) (by omega) (inv_0 hg)
theorem whole_start {p : Program} {e : Env} {s : State} {m : MethodId} {below : List Frame} {meth : Method} {c : Code} (l : Launch) (hflags : l.flags = flags0) {b L : Nat} {xs : Nat → Int32} (hL : L ≤ 3072) (C0 : lw_At p s m meth c b L xs) : W p l e room_1 s m #[Value.ref b] below meth c s.heap [] 0 0 (lw_Z below #[Value.ref b] s) (entryFrame m ([Value.ref b] : List Value).toArray 4) := law_start l C0 (fun g hg => law_main hL hg)

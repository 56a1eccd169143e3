/-! why a row of moves is refused: the class -/
def mvS (tg : Nat → Int) (c mv : Nat) : Prop := mv < 2 ^ c ∧ ∀ t, t < c → (mv.testBit t = true ↔ tg t ≠ -9)
def stS (pl tg : Nat → Int) (c s9 st : Nat) : Prop := st < 2048 ∧ ∀ f, f < 11 → (st.testBit f = true ↔ s9.testBit f = true ∨ ∃ u, u < c ∧ tg u ≠ -9 ∧ pl u ≠ -9 ∧ (tg u = (f : Int) ∨ pl u = (f : Int)))
def whyM (fx pl tg : Nat → Int) (c : Nat) (sw r : Int) : Prop :=
  (r = -1 ∧ ¬ (0 ≤ sw ∧ sw < 2048)) ∨ ∃ s9 : Nat, (sw = (s9 : Int) ∧ s9 < 2048) ∧ ((r = -3 ∧ ∃ t, t < c ∧ tg t ≠ -9 ∧ (fx t = 1 ∨ pl t = -9)) ∨ ((∀ t, t < c → tg t ≠ -9 → fx t = 0 ∧ pl t ≠ -9) ∧ ∃ mv st : Nat, mvS tg c mv ∧ stS pl tg c s9 st ∧ ((r = -6 ∧ (6 < cnt mv ∨ 5 < cnt st)) ∨ (r = 0 ∧ cnt mv ≤ 6 ∧ cnt st ≤ 5))))
theorem mvS_uniq {tg tg' : Nat → Int} {c mv mv' : Nat} (e : ∀ t, t < c → tg' t = tg t) (h : mvS tg c mv) (h' : mvS tg' c mv') : mv' = mv := by
  apply Nat.eq_of_testBit_eq
  intro t
  by_cases q : t < c
  · have a := h.2 t q
    have b := h'.2 t q
    rw [e t q, ← a] at b
    exact Bool.eq_iff_iff.mpr b
  · rw [tb_lt h.1 (by omega), tb_lt h'.1 (by omega)]
theorem stS_uniq {pl tg pl' tg' : Nat → Int} {c s9 st st' : Nat} (e : ∀ t, t < c → pl' t = pl t ∧ tg' t = tg t) (h : stS pl tg c s9 st) (h' : stS pl' tg' c s9 st') : st' = st := by
  apply Nat.eq_of_testBit_eq
  intro f
  by_cases q : f < 11
  · have a := h.2 f q
    have b := h'.2 f q
    have ee : (∃ u, u < c ∧ tg' u ≠ -9 ∧ pl' u ≠ -9 ∧ (tg' u = (f : Int) ∨ pl' u = (f : Int))) ↔ ∃ u, u < c ∧ tg u ≠ -9 ∧ pl u ≠ -9 ∧ (tg u = (f : Int) ∨ pl u = (f : Int)) := by
      constructor
      · rintro ⟨u, u1, u2⟩
        rw [(e u u1).1, (e u u1).2] at u2
        exact ⟨u, u1, u2⟩
      · rintro ⟨u, u1, u2⟩
        rw [← (e u u1).1, ← (e u u1).2] at u2
        exact ⟨u, u1, u2⟩
    rw [ee, ← a] at b
    exact Bool.eq_iff_iff.mpr b
  · have k1 : st < 2 ^ 11 := h.1
    have k2 : st' < 2 ^ 11 := h'.1
    rw [tb_lt k1 (by omega), tb_lt k2 (by omega)]
theorem whyM_uniq {fx pl tg fx' pl' tg' : Nat → Int} {c : Nat} {sw r r' : Int} (e : ∀ t, t < c → fx' t = fx t ∧ pl' t = pl t ∧ tg' t = tg t) (h : whyM fx pl tg c sw r) (h' : whyM fx' pl' tg' c sw r') : r' = r := by
  rcases h with ⟨h1, h2⟩ | ⟨s9, h1, h2⟩ <;> rcases h' with ⟨k1, k2⟩ | ⟨s8, k1, k2⟩
  · omega
  · exact absurd ⟨by omega, by omega⟩ h2
  · exact absurd ⟨by omega, by omega⟩ k2
  · obtain rfl : s9 = s8 := by omega
    rcases h2 with ⟨h2, t, a1, a2, a3⟩ | ⟨h2, mv, st, a1, a2, a3⟩ <;> rcases k2 with ⟨k2, u, b1, b2, b3⟩ | ⟨k2, mv', st', b1, b2, b3⟩
    · omega
    · have q := e t a1
      have := k2 t a1 (by omega)
      omega
    · have q := e u b1
      have := h2 u b1 (by omega)
      omega
    · obtain rfl := mvS_uniq (fun t ht => (e t ht).2.2) a1 b1
      obtain rfl := stS_uniq (fun t ht => (e t ht).2) a2 b2
      omega
theorem sp_whyNoMoving {P : PP} {d n c : Nat} {FI A L : Nat → Nat → Int} {X : SX} {Q : Option AV → S2 → Prop} (hI : cI n FI A) (hc : FI 6 8 = (c : Int)) {sw : Int} (hsw : inR sw) (hq : ∀ r : Int, whyM (fun t => A (20 + t) 5) (fun t => A (20 + t) 4) (fun t => A (20 + t) 6) c sw r → Q (some (vi r)) (FI, A, L, X)) : WP2 P M_F_whyNoMoving (d + 1) 0 [some (vr 5), some (vi sw), none, none, none] [] (FI, A, L, X) Q := by
  have hcc := hI.1
  obtain ⟨lf, uf⟩ := id hsw
  have hp16 : 2 ^ c ≤ 2 ^ 16 := Nat.pow_le_pow_right (by omega) (by omega)
  have m1 := iMask (n := 11) (by omega) hsw
  rw [show (-(2 ^ 11 : Nat) : Int) = -2048 from rfl, show ((2 ^ 11 : Nat) : Int) = 2048 from rfl] at m1
  refine WP_n 3 rfl ?_
  refine WP_ifeq rfl rfl (iAnd_inR _ _) (fun h3 => ?_) (fun h3 => ?_)
  · have n1 := m1.mp h3
    obtain ⟨s9, rfl⟩ : ∃ s9 : Nat, sw = (s9 : Int) := ⟨sw.toNat, by omega⟩
    have hz : ∀ r : Int, _ → Q (some (vi r)) (FI, A, L, X) := fun r q => hq r (Or.inr ⟨s9, ⟨rfl, by omega⟩, q⟩)
    refine WP_n 1 rfl ?_
    refine WP2_getf rfl rfl rfl rfl rfl ?_
    refine WP2_callV 0 ok_M_H_targetedTeams rfl rfl rfl rfl rfl rfl (Nat.le_of_ble_eq_true rfl) (Nat.le_of_ble_eq_true rfl) rfl rfl ?_
    refine sp_targetedTeams hI hc (fun mv hmv0 hmv => ?_)
    refine WP_n 3 rfl ?_
    refine WP2_getf rfl rfl rfl rfl rfl ?_
    refine WP2_callV 0 ok_M_H_fixedTeams rfl rfl rfl rfl rfl rfl (Nat.le_of_ble_eq_true rfl) (Nat.le_of_ble_eq_true rfl) rfl rfl ?_
    refine sp_fixedTeams hI hc (fun fxs hfx0 hfx => ?_)
    refine WP_n 1 rfl ?_
    refine WP2_getf rfl rfl rfl rfl rfl ?_
    refine WP2_callV 0 ok_M_H_standingTeams rfl rfl rfl rfl rfl rfl (Nat.le_of_ble_eq_true rfl) (Nat.le_of_ble_eq_true rfl) rfl rfl ?_
    refine sp_standingTeams hI hc (fun sts hst0 hst => ?_)
    have hor := Nat.or_lt_two_pow hfx0 hst0
    refine WP_n 2 rfl ?_
    rw [iOr_n (by omega) (by omega), iAnd_n (by omega)]
    have az := and_zero' (a := mv) (b := fxs ||| sts) (c := c) (by omega)
    have kk := @Nat.and_le_left mv (fxs ||| sts)
    have hbad : (mv &&& (fxs ||| sts) = 0) ↔ ∀ t, t < c → A (20 + t) 6 ≠ -9 → A (20 + t) 5 = 0 ∧ A (20 + t) 4 ≠ -9 := by
      rw [az]
      constructor
      · intro q t ht h1
        have hq9 := hI.2.2.2.1 t (by omega)
        unfold cTm at hq9
        have z := q t ht ((hmv t ht).mpr h1)
        rw [Nat.testBit_or, Bool.or_eq_true, hfx t ht, hst t ht] at z
        omega
      · intro q t ht h1 h2
        have z := q t ht ((hmv t ht).mp h1)
        rw [Nat.testBit_or, Bool.or_eq_true, hfx t ht, hst t ht] at h2
        omega
    by_cases hzero : mv &&& (fxs ||| sts) = 0
    · rw [hzero]
      refine WP_ifeq rfl rfl ⟨by decide, by decide⟩  (fun h19 => ?_) (fun h19 => absurd (by decide) h19)
      refine WP_n 2 rfl ?_
      refine WP2_getf rfl rfl rfl rfl rfl ?_
      refine WP2_callV 0 ok_M_H_floorsOfMovers rfl rfl rfl rfl rfl rfl (Nat.le_of_ble_eq_true rfl) (Nat.le_of_ble_eq_true rfl) rfl rfl ?_
      refine sp_floorsOfMovers hI hc (fun fm hfm0 hfm => ?_)
      have hlt : s9 ||| fm < 2 ^ 11 := Nat.or_lt_two_pow (by omega) (by omega)
      have hM : mvS (fun t => A (20 + t) 6) c mv := ⟨by omega, hmv⟩
      have hS : stS (fun t => A (20 + t) 4) (fun t => A (20 + t) 6) c s9 (s9 ||| fm) := ⟨hlt, fun f hf => by rw [Nat.testBit_or, Bool.or_eq_true, hfm f hf]⟩
      have kf := cnt_bd (s9 ||| fm)
      have kt := cnt_bd mv
      refine WP_n 1 rfl ?_
      rw [iOr_n (by omega) (by omega)]
      refine WP_n 2 rfl ?_
      refine WP2_callS 1 ok_J_bitCount rfl rfl rfl rfl rfl rfl rfl (Nat.le_of_ble_eq_true rfl) (Nat.le_of_ble_eq_true rfl) ?_
      refine sp_bitCount (by omega) ?_
      rw [show sumN (fun k => (bitN mv k : Int)) 16 = cnt mv from rfl]
      refine WP_n 1 rfl ?_
      refine WP_icmpgt rfl rfl ⟨by omega, by omega⟩ ⟨by omega, by omega⟩ (fun h31 => ?_) (fun h31 => ?_)
      · refine WP_n 4 rfl ?_
        refine WP_ifeq rfl rfl ⟨by decide, by decide⟩  (fun h41 => absurd h41 (by decide)) (fun h41 => ?_)
        refine WP_n 2 rfl ?_
        exact WP_iret rfl rfl rfl ⟨_, rfl, hz _ (Or.inr ⟨hbad.mp hzero, mv, _, hM, hS, Or.inl ⟨rfl, by omega⟩⟩)⟩
      · refine WP_n 1 rfl ?_
        refine WP2_callS 1 ok_J_bitCount rfl rfl rfl rfl rfl rfl rfl (Nat.le_of_ble_eq_true rfl) (Nat.le_of_ble_eq_true rfl) ?_
        refine sp_bitCount (by omega) ?_
        rw [show sumN (fun k => (bitN (s9 ||| fm) k : Int)) 16 = cnt (s9 ||| fm) from rfl]
        refine WP_n 1 rfl ?_
        refine WP_icmple rfl rfl ⟨by omega, by omega⟩ ⟨by omega, by omega⟩ (fun h35 => ?_) (fun h35 => ?_)
        · refine WP_n 3 rfl ?_
          refine WP_ifeq rfl rfl ⟨by decide, by decide⟩  (fun h41 => ?_) (fun h41 => absurd (by decide) h41)
          refine WP_n 1 rfl ?_
          exact WP_iret rfl rfl rfl ⟨_, rfl, hz _ (Or.inr ⟨hbad.mp hzero, mv, _, hM, hS, Or.inr ⟨rfl, by omega, by omega⟩⟩)⟩
        · refine WP_n 4 rfl ?_
          refine WP_ifeq rfl rfl ⟨by decide, by decide⟩  (fun h41 => absurd h41 (by decide)) (fun h41 => ?_)
          refine WP_n 2 rfl ?_
          exact WP_iret rfl rfl rfl ⟨_, rfl, hz _ (Or.inr ⟨hbad.mp hzero, mv, _, hM, hS, Or.inl ⟨rfl, by omega⟩⟩)⟩
    · have hex : ∃ t, t < c ∧ A (20 + t) 6 ≠ -9 ∧ (A (20 + t) 5 = 1 ∨ A (20 + t) 4 = -9) := by
        refine Classical.byContradiction (fun q => hzero (hbad.mpr (fun t ht h1 => ?_)))
        have hq9 := hI.2.2.2.1 t (by omega)
        unfold cTm at hq9
        have : ¬ (A (20 + t) 5 = 1 ∨ A (20 + t) 4 = -9) := fun w => q ⟨t, ht, h1, w⟩
        omega
      refine WP_ifeq rfl rfl ⟨by omega, by omega⟩ (fun h19 => absurd h19 (by omega)) (fun h19 => ?_)
      refine WP_n 1 rfl ?_
      exact WP_iret rfl rfl rfl ⟨_, rfl, hz _ (Or.inl ⟨rfl, hex⟩)⟩
  · refine WP_n 1 rfl ?_
    exact WP_iret rfl rfl rfl ⟨_, rfl, hq _ (Or.inl ⟨rfl, fun q => h3 (m1.mpr q)⟩)⟩

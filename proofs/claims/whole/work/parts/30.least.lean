/-! least, both sides -/
theorem cmpI_le {x y : Int} : cmpI x y ≤ 0 ↔ x ≤ y := by
  unfold cmpI
  split
  · omega
  · split <;> omega
def gdL (r : Nat → Int) (s : Int) (n : Nat) : Prop := tlS r n (20 - n) * 1000 ≤ s * 1073741824
theorem gdL_mono {r : Nat → Int} (h : ∀ j, 0 ≤ r j) {s : Int} {a b : Nat} (hab : a ≤ b) (hb : b ≤ 20) (g : gdL r s a) : gdL r s b := by
  have := tlS_mono h hab hb
  unfold gdL at *
  omega
theorem sp_leastOfSpread {P : PP} {d : Nat} {FI A L : Nat → Nat → Int} {X : SX} {Q : Option AV → S2 → Prop} {r : Nat → Int} (hL : ∀ j, j < 21 → L 161 j = r j) (nn : ∀ j, 0 ≤ r j) (sm : ∀ n, sumN r n ≤ 1073741824) {s : Int} (hs : 0 ≤ s ∧ s ≤ 1000) (hq : ∀ N : Nat, N ≤ 20 → (∀ m, m < N → ¬ gdL r s m) → (N = 20 ∨ gdL r s N) → Q (some (vi (N : Int))) (FI, A, L, X)) : WP2 P M_C_leastOfSpread (d + 1) 0 [some (vr 160), some (vi s), none] [] (FI, A, L, X) Q := by
  refine WP_n 2 rfl ?_
  suffices hh : ∀ N, N ≤ 20 → (∀ m, m < N → ¬ gdL r s m) → WP2 P M_C_leastOfSpread (d + 1) 2 [some (vr 160), some (vi s), some (vi (N : Int))] [] (FI, A, L, X) Q from hh 0 (by omega) (fun m hm => absurd hm (by omega))
  refine up_to (P := fun N => (∀ m, m < N → ¬ gdL r s m) → WP2 P M_C_leastOfSpread (d + 1) 2 [some (vr 160), some (vi s), some (vi (N : Int))] [] (FI, A, L, X) Q) 20 ?_ ?_
  · intro hb
    refine WP_n 2 rfl ?_
    refine WP_icmpge rfl rfl ⟨by omega, by omega⟩ ⟨by omega, by omega⟩ (fun h4 => ?_) (fun h4 => absurd h4 (by omega))
    refine WP_n 1 rfl ?_
    exact WP_iret rfl rfl rfl ⟨_, rfl, hq 20 (by omega) hb (Or.inl rfl)⟩
  · intro N hN ih hb
    have htl := tlS_bd nn sm N (20 - N)
    refine WP_n 2 rfl ?_
    refine WP_icmpge rfl rfl ⟨by omega, by omega⟩ ⟨by omega, by omega⟩ (fun h4 => absurd h4 (by omega)) (fun h4 => ?_)
    refine WP_n 2 rfl ?_
    refine WP2_callV 1 ok_M_C_moreThan rfl rfl rfl rfl rfl rfl (Nat.le_of_ble_eq_true rfl) (Nat.le_of_ble_eq_true rfl) rfl rfl ?_
    refine sp_moreThan hL (by omega) ?_
    refine WP_i2l rfl ⟨by omega, by omega⟩ rfl ?_
    refine WP2_ldc2w (x := 1000) rfl rfl rfl ?_
    refine WP_n 2 rfl ?_
    refine WP_i2l rfl ⟨by omega, by omega⟩ rfl ?_
    refine WP2_ldc2w (x := 1073741824) rfl rfl rfl ?_
    refine WP_n 1 rfl ?_
    refine WP_lcmp rfl ⟨by omega, by omega⟩ ⟨by omega, by omega⟩ rfl ?_
    refine WP_ifle rfl rfl (cmpI_R _ _) (fun h16 => ?_) (fun h16 => ?_)
    · refine WP_n 1 rfl ?_
      exact WP_iret rfl rfl rfl ⟨_, rfl, hq N (by omega) hb (Or.inr (by have q := cmpI_le.mp h16; unfold gdL; omega))⟩
    · refine WP_n 2 rfl ?_
      exact ih (lt_s hb (fun g => h16 (cmpI_le.mpr (by unfold gdL at g; omega))))
theorem sp_leastDesks {P : PP} {d n : Nat} {FI A L : Nat → Nat → Int} {X : SX} {Q : Option AV → S2 → Prop} (hI : cI n FI A) {T told : Nat} (hT : T < 16) (htold : A (20 + T) 7 = (told : Int)) {s : Int} (hs : 0 ≤ s ∧ s ≤ 1000) (hq : ∀ (M : Nat) (L' : Nat → Nat → Int), M ≤ 20 → (∀ e, e < 5 → M = 20 ∨ gdL (rowP (A (88 + T)) (A (105 + T)) e told) s M) → (∀ m, m < M → ∃ e, e < 5 ∧ ¬ gdL (rowP (A (88 + T)) (A (105 + T)) e told) s m) → Q (some (vi (M : Int))) (FI, A, L', X)) : WP2 P M_C_leastDesks (d + 2) 0 [some (vr 160), some (vi (T : Int)), some (vi s), none, none] [] (FI, A, L, X) Q := by
  have htm := hI.2.2.2.1 T hT
  unfold cTm at htm
  have hsu : ∀ q, q < told → 0 ≤ A (105 + T) q ∧ A (105 + T) q ≤ 64 := fun q hq => by
    have hpp := hI.2.2.2.2.2.1 T q hT (by omega)
    unfold cPp at hpp
    omega
  refine WP_n 4 rfl ?_
  suffices hh : ∀ D, D ≤ 5 → ∀ (M : Nat) (L' : Nat → Nat → Int), M ≤ 20 → (∀ e, e < D → M = 20 ∨ gdL (rowP (A (88 + T)) (A (105 + T)) e told) s M) → (∀ m, m < M → ∃ e, e < D ∧ ¬ gdL (rowP (A (88 + T)) (A (105 + T)) e told) s m) → WP2 P M_C_leastDesks (d + 2) 4 [some (vr 160), some (vi (T : Int)), some (vi s), some (vi (M : Int)), some (vi (D : Int))] [] (FI, A, L', X) Q from hh 0 (by omega) 0 L (by omega) (fun e he => absurd he (by omega)) (fun m hm => absurd hm (by omega))
  refine up_to (P := fun D => ∀ (M : Nat) (L' : Nat → Nat → Int), M ≤ 20 → (∀ e, e < D → M = 20 ∨ gdL (rowP (A (88 + T)) (A (105 + T)) e told) s M) → (∀ m, m < M → ∃ e, e < D ∧ ¬ gdL (rowP (A (88 + T)) (A (105 + T)) e told) s m) → WP2 P M_C_leastDesks (d + 2) 4 [some (vr 160), some (vi (T : Int)), some (vi s), some (vi (M : Int)), some (vi (D : Int))] [] (FI, A, L', X) Q) 5 ?_ ?_
  · intro M L' hM hg hb
    refine WP_n 2 rfl ?_
    refine WP_icmpge rfl rfl ⟨by omega, by omega⟩ ⟨by omega, by omega⟩ (fun h6 => ?_) (fun h6 => absurd h6 (by omega))
    refine WP_n 1 rfl ?_
    exact WP_iret rfl rfl rfl ⟨_, rfl, hq M L' hM hg hb⟩
  · intro D hD ih M L' hM hg hb
    refine WP_n 2 rfl ?_
    refine WP_icmpge rfl rfl ⟨by omega, by omega⟩ ⟨by omega, by omega⟩ (fun h6 => absurd h6 (by omega)) (fun h6 => ?_)
    refine WP_n 3 rfl ?_
    refine WP2_callV 2 ok_M_C_spread rfl rfl rfl rfl rfl rfl (Nat.le_of_ble_eq_true rfl) (Nat.le_of_ble_eq_true rfl) rfl rfl ?_
    refine sp_spread hI (by omega) (by omega) htold (fun L2 hL2 => ?_)
    refine WP_n 3 rfl ?_
    refine WP2_callV 1 ok_M_C_leastOfSpread rfl rfl rfl rfl rfl rfl (Nat.le_of_ble_eq_true rfl) (Nat.le_of_ble_eq_true rfl) rfl rfl ?_
    refine sp_leastOfSpread hL2 (fun j => rowP_nn told hsu j) (fun k => rowP_sum told hsu k) hs (fun N hN hNb hNg => ?_)
    refine WP_max rfl rfl rfl rfl rfl (Nat.le_of_ble_eq_true rfl) ⟨by omega, by omega⟩ ⟨by omega, by omega⟩ ?_
    by_cases hMN : (M : Int) < (N : Int)
    · rw [if_pos hMN]
      refine WP_n 3 rfl ?_
      refine ih N L2 hN (fun e he => ?_) (fun m hm => ?_)
      · by_cases q : e = D
        · rw [q]
          exact hNg
        · rcases hg e (by omega) with z | z
          · exact Or.inl (by omega)
          · exact Or.inr (gdL_mono (fun j => rowP_nn told hsu j) (by omega) hN z)
      · exact ⟨D, by omega, hNb m hm⟩
    · rw [if_neg hMN]
      refine WP_n 3 rfl ?_
      refine ih M L2 hM (fun e he => ?_) (fun m hm => ?_)
      · by_cases q : e = D
        · rw [q]
          rcases hNg with z | z
          · exact Or.inl (by omega)
          · exact Or.inr (gdL_mono (fun j => rowP_nn told hsu j) (by omega) hM z)
        · exact hg e (by omega)
      · obtain ⟨e, he, z⟩ := hb m hm
        exact ⟨e, by omega, z⟩
theorem sp_F_least {P : PP} {d n c : Nat} {FI A L : Nat → Nat → Int} {X : SX} {Q : Option AV → S2 → Prop} (hI : cI n FI A) (hc : FI 6 8 = (c : Int)) {t s : Int} (ht : inR t) (hs : inR s) (r1 : (t < 0 ∨ (c : Int) ≤ t) → Q (some (vi (-1))) (FI, rfC A 1, L, X)) (r4 : (0 ≤ t ∧ t < (c : Int) ∧ s < 0) → Q (some (vi (-4))) (FI, rfC A 4, L, X)) (r6 : (0 ≤ t ∧ t < (c : Int) ∧ 1000 < s) → Q (some (vi (-6))) (FI, rfC A 6, L, X)) (ok : ∀ T told : Nat, t = (T : Int) ∧ T < c ∧ 0 ≤ s ∧ s ≤ 1000 ∧ A (20 + T) 7 = (told : Int) → ∀ (M : Nat) (L' : Nat → Nat → Int), M ≤ 20 → (∀ e, e < 5 → M = 20 ∨ gdL (rowP (A (88 + T)) (A (105 + T)) e told) s M) → (∀ m, m < M → ∃ e, e < 5 ∧ ¬ gdL (rowP (A (88 + T)) (A (105 + T)) e told) s m) → Q (some (vi (M : Int))) (FI, A, L', X)) : WP2 P M_F_least (d + 3) 0 [some (vr 5), some (vi t), some (vi s)] [] (FI, A, L, X) Q := by
  have hcc := hI.1
  obtain ⟨ls, us⟩ := id hs
  refine WP_n 2 rfl ?_
  refine WP2_callV 1 ok_M_F_noTeam rfl rfl rfl rfl rfl rfl (Nat.le_of_ble_eq_true rfl) (Nat.le_of_ble_eq_true rfl) rfl rfl ?_
  refine sp_noTeam ht ⟨by omega, by omega⟩ (fun hTt => ?_) (fun hTt hTtb => ?_)
  · refine WP_ifeq rfl rfl ⟨by decide, by decide⟩  (fun h3 => absurd h3 (by decide)) (fun h3 => ?_)
    refine WP_n 2 rfl ?_
    refine WP2_callV 1 ok_M_F_refuse rfl rfl rfl rfl rfl rfl (Nat.le_of_ble_eq_true rfl) (Nat.le_of_ble_eq_true rfl) rfl rfl ?_
    refine sp_refuse (k := 1) rfl (by omega) ?_
    exact WP_iret rfl rfl rfl ⟨_, rfl, r1 (by omega)⟩
  · refine WP_ifeq rfl rfl ⟨by decide, by decide⟩  (fun h3 => ?_) (fun h3 => absurd (by decide) h3)
    refine WP_n 1 rfl ?_
    refine WP_ifge rfl rfl ⟨by omega, by omega⟩ (fun h9 => ?_) (fun h9 => ?_)
    · refine WP_n 2 rfl ?_
      refine WP_icmple rfl rfl ⟨by omega, by omega⟩ ⟨by omega, by omega⟩ (fun h16 => ?_) (fun h16 => ?_)
      · obtain ⟨T, rfl⟩ : ∃ T : Nat, t = (T : Int) := ⟨t.toNat, by omega⟩
        have htm := hI.2.2.2.1 T (by omega)
        unfold cTm at htm
        obtain ⟨told, htold⟩ : ∃ told : Nat, A (20 + T) 7 = (told : Int) := ⟨(A (20 + T) 7).toNat, by omega⟩
        refine WP_n 1 rfl ?_
        refine WP2_getf rfl rfl rfl rfl rfl ?_
        refine WP_n 2 rfl ?_
        refine WP2_callV 2 ok_M_C_leastDesks rfl rfl rfl rfl rfl rfl (Nat.le_of_ble_eq_true rfl) (Nat.le_of_ble_eq_true rfl) rfl rfl ?_
        refine sp_leastDesks hI (by omega) htold (by omega) (fun M L2 h1 h2 h3 => ?_)
        exact WP_iret rfl rfl rfl ⟨_, rfl, ok T told (by omega) M L2 h1 h2 h3⟩
      · refine WP_n 2 rfl ?_
        refine WP2_callV 1 ok_M_F_refuse rfl rfl rfl rfl rfl rfl (Nat.le_of_ble_eq_true rfl) (Nat.le_of_ble_eq_true rfl) rfl rfl ?_
        refine sp_refuse (k := 6) rfl (by omega) ?_
        exact WP_iret rfl rfl rfl ⟨_, rfl, r6 (by omega)⟩
    · refine WP_n 2 rfl ?_
      refine WP2_callV 1 ok_M_F_refuse rfl rfl rfl rfl rfl rfl (Nat.le_of_ble_eq_true rfl) (Nat.le_of_ble_eq_true rfl) rfl rfl ?_
      refine sp_refuse (k := 4) rfl (by omega) ?_
      exact WP_iret rfl rfl rfl ⟨_, rfl, r4 (by omega)⟩
theorem sp_G_least {P : PP} {d n c : Nat} {FI A L : Nat → Nat → Int} {X : SX} {Q : Option AV → S2 → Prop} (hI : mI n FI A) (hc : FI 165 0 = (c : Int)) {t s : Int} (ht : inR t) (hs : inR s) (r1 : (t < 0 ∨ (c : Int) ≤ t) → Q (some (vi (-1))) (FI, rfG A 1, L, X)) (r4 : (0 ≤ t ∧ t < (c : Int) ∧ s < 0) → Q (some (vi (-4))) (FI, rfG A 4, L, X)) (r6 : (0 ≤ t ∧ t < (c : Int) ∧ 1000 < s) → Q (some (vi (-6))) (FI, rfG A 6, L, X)) (ok : ∀ T told : Nat, t = (T : Int) ∧ T < c ∧ 0 ≤ s ∧ s ≤ 1000 ∧ A 176 T = (told : Int) → ∀ (M : Nat) (L' : Nat → Nat → Int), M ≤ 20 → (∀ e, e < 5 → M = 20 ∨ gdL (rowP (fun p => A 182 (20 * T + p)) (fun p => A 183 (20 * T + p)) e told) s M) → (∀ m, m < M → ∃ e, e < 5 ∧ ¬ gdL (rowP (fun p => A 182 (20 * T + p)) (fun p => A 183 (20 * T + p)) e told) s m) → Q (some (vi (M : Int))) (FI, A, L', X)) : WP2 P M_G_least (d + 2) 0 [some (vr 165), some (vi t), some (vi s), none, none, none] [] (FI, A, L, X) Q := by
  have hcc := hI.2.1
  obtain ⟨ls, us⟩ := id hs
  refine WP_n 2 rfl ?_
  refine WP2_callV 1 ok_M_G_isTeam rfl rfl rfl rfl rfl rfl (Nat.le_of_ble_eq_true rfl) (Nat.le_of_ble_eq_true rfl) rfl rfl ?_
  refine sp_isTeam ht ⟨by omega, by omega⟩ (fun hTt => ?_) (fun hTt hTtb => ?_)
  · refine WP_ifne rfl rfl ⟨by decide, by decide⟩  (fun h3 => absurd h3 (by decide)) (fun h3 => ?_)
    refine WP_n 2 rfl ?_
    refine WP2_callV 1 ok_M_G_no rfl rfl rfl rfl rfl rfl (Nat.le_of_ble_eq_true rfl) (Nat.le_of_ble_eq_true rfl) rfl rfl ?_
    refine sp_no (k := 1) rfl (by omega) ?_
    exact WP_iret rfl rfl rfl ⟨_, rfl, r1 (by omega)⟩
  · refine WP_ifne rfl rfl ⟨by decide, by decide⟩  (fun h3 => ?_) (fun h3 => absurd (by decide) h3)
    refine WP_n 1 rfl ?_
    refine WP_ifge rfl rfl ⟨by omega, by omega⟩ (fun h9 => ?_) (fun h9 => ?_)
    · refine WP_n 2 rfl ?_
      refine WP_icmple rfl rfl ⟨by omega, by omega⟩ ⟨by omega, by omega⟩ (fun h16 => ?_) (fun h16 => ?_)
      · obtain ⟨T, rfl⟩ : ∃ T : Nat, t = (T : Int) := ⟨t.toNat, by omega⟩
        have htm := hI.2.2.2.2.1 T (by omega)
        unfold mTm at htm
        obtain ⟨told, htold⟩ : ∃ told : Nat, A 176 T = (told : Int) := ⟨(A 176 T).toNat, by omega⟩
        have hsu : ∀ q, q < told → 0 ≤ (fun p => A 183 (20 * T + p)) q ∧ (fun p => A 183 (20 * T + p)) q ≤ 64 := fun q hq => by
          have hpp := hI.2.2.2.2.2.2.1 (20 * T + q) (by omega)
          unfold mPp at hpp
          show 0 ≤ A 183 (20 * T + q) ∧ A 183 (20 * T + q) ≤ 64
          omega
        refine WP_n 2 rfl ?_
        suffices hh : ∀ N, N ≤ 20 → ∀ L0 : Nat → Nat → Int, (∀ m, m < N → ∃ e, e < 5 ∧ ¬ gdL (rowP (fun p => A 182 (20 * T + p)) (fun p => A 183 (20 * T + p)) e told) s m) → WP2 P M_G_least (d + 2) 23 [some (vr 165), some (vi (T : Int)), some (vi s), some (vi (N : Int)), none, none] [] (FI, A, L0, X) Q from hh 0 (by omega) L (fun m hm => absurd hm (by omega))
        refine up_to (P := fun N => ∀ L0 : Nat → Nat → Int, (∀ m, m < N → ∃ e, e < 5 ∧ ¬ gdL (rowP (fun p => A 182 (20 * T + p)) (fun p => A 183 (20 * T + p)) e told) s m) → WP2 P M_G_least (d + 2) 23 [some (vr 165), some (vi (T : Int)), some (vi s), some (vi (N : Int)), none, none] [] (FI, A, L0, X) Q) 20 ?_ ?_
        · intro L0 hb
          refine WP_n 2 rfl ?_
          refine WP_icmpge rfl rfl ⟨by omega, by omega⟩ ⟨by omega, by omega⟩ (fun h25 => ?_) (fun h25 => absurd h25 (by omega))
          refine WP_n 1 rfl ?_
          exact WP_iret rfl rfl rfl ⟨_, rfl, ok T told (by omega) 20 L0 (by omega) (fun e he => Or.inl rfl) hb⟩
        · intro N hN ih L0 hb
          refine WP_n 2 rfl ?_
          refine WP_icmpge rfl rfl ⟨by omega, by omega⟩ ⟨by omega, by omega⟩ (fun h25 => absurd h25 (by omega)) (fun h25 => ?_)
          refine WP_n 4 rfl ?_
          suffices hh : ∀ D, D ≤ 5 → ∀ (z : Int) (L' : Nat → Nat → Int), ((z = 1 ∧ ∀ e, e < D → gdL (rowP (fun p => A 182 (20 * T + p)) (fun p => A 183 (20 * T + p)) e told) s N) ∨ (z = 0 ∧ ∃ e, e < D ∧ ¬ gdL (rowP (fun p => A 182 (20 * T + p)) (fun p => A 183 (20 * T + p)) e told) s N)) → WP2 P M_G_least (d + 2) 30 [some (vr 165), some (vi (T : Int)), some (vi s), some (vi (N : Int)), some (vi z), some (vi (D : Int))] [] (FI, A, L', X) Q from hh 0 (by omega) 1 L0 (Or.inl ⟨rfl, fun e he => absurd he (by omega)⟩)
          refine up_to (P := fun D => ∀ (z : Int) (L' : Nat → Nat → Int), ((z = 1 ∧ ∀ e, e < D → gdL (rowP (fun p => A 182 (20 * T + p)) (fun p => A 183 (20 * T + p)) e told) s N) ∨ (z = 0 ∧ ∃ e, e < D ∧ ¬ gdL (rowP (fun p => A 182 (20 * T + p)) (fun p => A 183 (20 * T + p)) e told) s N)) → WP2 P M_G_least (d + 2) 30 [some (vr 165), some (vi (T : Int)), some (vi s), some (vi (N : Int)), some (vi z), some (vi (D : Int))] [] (FI, A, L', X) Q) 5 ?_ ?_
          · intro z L' hz
            refine WP_n 2 rfl ?_
            refine WP_icmpge rfl rfl ⟨by omega, by omega⟩ ⟨by omega, by omega⟩ (fun h32 => ?_) (fun h32 => absurd h32 (by omega))
            refine WP_n 1 rfl ?_
            refine WP_ifeq rfl rfl ⟨by omega, by omega⟩ (fun h51 => ?_) (fun h51 => ?_)
            · refine WP_n 2 rfl ?_
              exact WP2_kill 4 (WP2_kill 5 (ih L' (lt_s hb (by
                rcases hz with q | q
                · exact absurd q.1 (by omega)
                · exact q.2))))
            · refine WP_n 1 rfl ?_
              exact WP_iret rfl rfl rfl ⟨_, rfl, ok T told (by omega) N L' (by omega) (fun e he => Or.inr (by
                rcases hz with q | q
                · exact q.2 e he
                · exact absurd q.1 (by omega))) hb⟩
          · intro D hD ih2 z L' hz
            refine WP_n 2 rfl ?_
            refine WP_icmpge rfl rfl ⟨by omega, by omega⟩ ⟨by omega, by omega⟩ (fun h32 => absurd h32 (by omega)) (fun h32 => ?_)
            refine WP_n 4 rfl ?_
            refine WP2_callV 3 ok_M_G_lacks rfl rfl rfl rfl rfl rfl (Nat.le_of_ble_eq_true rfl) (Nat.le_of_ble_eq_true rfl) rfl rfl ?_
            refine sp_lacks hI (T := T) (D := D) (N := N) (by omega) (by omega) (by omega) htold (fun L2 => ?_)
            have htl := tlS_bd (r := (rowP (fun p => A 182 (20 * T + p)) (fun p => A 183 (20 * T + p)) D told)) (fun j => rowP_nn told hsu j) (fun k => rowP_sum told hsu k) N (20 - N)
            refine WP2_ldc2w (x := 1000) rfl rfl rfl ?_
            refine WP_n 2 rfl ?_
            refine WP_i2l rfl ⟨by omega, by omega⟩ rfl ?_
            refine WP2_ldc2w (x := 1073741824) rfl rfl rfl ?_
            refine WP_n 1 rfl ?_
            refine WP_lcmp rfl ⟨by omega, by omega⟩ ⟨by omega, by omega⟩ rfl ?_
            refine WP_ifle rfl rfl (cmpI_R _ _) (fun h45 => ?_) (fun h45 => ?_)
            · refine WP_n 2 rfl ?_
              refine ih2 z L2 ?_
              have q := cmpI_le.mp h45
              rcases hz with w | w
              · refine Or.inl ⟨w.1, lt_s w.2 ?_⟩
                unfold gdL
                omega
              · obtain ⟨w1, e, he, w2⟩ := w
                exact Or.inr ⟨w1, e, by omega, w2⟩
            · refine WP_n 4 rfl ?_
              exact ih2 0 L2 (Or.inr ⟨rfl, D, by omega, fun g => h45 (cmpI_le.mpr (by unfold gdL at g; omega))⟩)
      · refine WP_n 2 rfl ?_
        refine WP2_callV 1 ok_M_G_no rfl rfl rfl rfl rfl rfl (Nat.le_of_ble_eq_true rfl) (Nat.le_of_ble_eq_true rfl) rfl rfl ?_
        refine sp_no (k := 6) rfl (by omega) ?_
        exact WP_iret rfl rfl rfl ⟨_, rfl, r6 (by omega)⟩
    · refine WP_n 2 rfl ?_
      refine WP2_callV 1 ok_M_G_no rfl rfl rfl rfl rfl rfl (Nat.le_of_ble_eq_true rfl) (Nat.le_of_ble_eq_true rfl) rfl rfl ?_
      refine sp_no (k := 4) rfl (by omega) ?_
      exact WP_iret rfl rfl rfl ⟨_, rfl, r4 (by omega)⟩
theorem pr_least {P : PP} {n : Nat} {FI A L : Nat → Nat → Int} {X : SX} (h : INV P n FI A X) (hn : n < 512) {t s : Int} (ht : inR t) (hs : inR s) : PAIR P n (FI, A, L, X) M_F_least [some (vr 5), some (vi t), some (vi s)] M_G_least [some (vr 165), some (vi t), some (vi s), none, none, none] := by
  intro d
  have hm := h.mI
  have hn5 := h.1
  have hcI := h.2.1
  have hG := h.2.2.1
  have hk1 := hcI.1
  have g1 := hG.1
  obtain ⟨c, hc⟩ : ∃ c : Nat, FI 6 8 = (c : Int) := ⟨(FI 6 8).toNat, by omega⟩
  have hc2 : FI 165 0 = (c : Int) := by rw [g1]; exact hc
  refine sp_F_least hcI hc ht hs (fun c1 => ?_) (fun c1 => ?_) (fun c1 => ?_) (fun T told c1 M L1 a1 a2 a3 => ?_)
  · refine ⟨_, rfl, ?_⟩
    refine sp_G_least (hm.up (by omega)) hc2 ht hs (fun c2 => ?_) (fun c2 => ?_) (fun c2 => ?_) (fun T' told' c2 M' L2 b1 b2 b3 => ?_)
    · exact ⟨rfl, INV_ref h hn (by omega)⟩
    · exfalso; omega
    · exfalso; omega
    · exfalso; omega
  · refine ⟨_, rfl, ?_⟩
    refine sp_G_least (hm.up (by omega)) hc2 ht hs (fun c2 => ?_) (fun c2 => ?_) (fun c2 => ?_) (fun T' told' c2 M' L2 b1 b2 b3 => ?_)
    · exfalso; omega
    · exact ⟨rfl, INV_ref h hn (by omega)⟩
    · exfalso; omega
    · exfalso; omega
  · refine ⟨_, rfl, ?_⟩
    refine sp_G_least (hm.up (by omega)) hc2 ht hs (fun c2 => ?_) (fun c2 => ?_) (fun c2 => ?_) (fun T' told' c2 M' L2 b1 b2 b3 => ?_)
    · exfalso; omega
    · exfalso; omega
    · exact ⟨rfl, INV_ref h hn (by omega)⟩
    · exfalso; omega
  · refine ⟨_, rfl, ?_⟩
    refine sp_G_least hm hc2 ht hs (fun c2 => ?_) (fun c2 => ?_) (fun c2 => ?_) (fun T' told' c2 M' L2 b1 b2 b3 => ?_)
    · exfalso; omega
    · exfalso; omega
    · exfalso; omega
    · obtain rfl : T = T' := by omega
      have hp := (hG.2.2.2.1 T (by omega)).2.1
      obtain rfl : told = told' := by omega
      have htm := hcI.2.2.2.1 T (by omega)
      unfold cTm at htm
      have er : ∀ e, rowP (fun p => A 182 (20 * T + p)) (fun p => A 183 (20 * T + p)) e told = rowP (A (88 + T)) (A (105 + T)) e told := fun e => rowP_congr told (fun q hq => by
        have r := hG.2.2.2.2.2.1 T q (by omega) (by omega)
        exact ⟨r.1, r.2.1⟩)
      have eM : M' = M := by
        rcases Nat.lt_trichotomy M' M with q | q | q
        · obtain ⟨e, he, z⟩ := a3 M' q
          have w := b2 e he
          rw [er] at w
          rcases w with w | w
          · omega
          · exact absurd w z
        · exact q
        · obtain ⟨e, he, z⟩ := b3 M q
          rw [er] at z
          rcases a2 e he with w | w
          · omega
          · exact absurd w z
      exact ⟨by rw [eM], h.next hn⟩

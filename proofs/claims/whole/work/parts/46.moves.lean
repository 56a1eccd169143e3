/-! sets of teams and floors for the moves -/
theorem sp_standingTeams {P : PP} {d n c : Nat} {FI A L : Nat → Nat → Int} {X : SX} {Q : Option AV → S2 → Prop} (hI : cI n FI A) (hc : FI 6 8 = (c : Int)) (hq : ∀ s : Nat, s < 2 ^ c → (∀ t, t < c → (s.testBit t = true ↔ A (20 + t) 4 = -9)) → Q (some (vi (s : Int))) (FI, A, L, X)) : WP2 P M_H_standingTeams (d) 0 [some (vr 6), none, none] [] (FI, A, L, X) Q := by
  have hcc := hI.1
  refine WP_n 4 rfl ?_
  suffices hh : ∀ t, t ≤ c → ∀ s : Nat, s < 2 ^ t → (∀ u, u < t → (s.testBit u = true ↔ A (20 + u) 4 = -9)) → WP2 P M_H_standingTeams d 4 [some (vr 6), some (vi (s : Int)), some (vi (t : Int))] [] (FI, A, L, X) Q from hh 0 (by omega) 0 (by omega) (fun g hg => absurd hg (by omega))
  refine up_to (P := fun t => ∀ s : Nat, s < 2 ^ t → (∀ u, u < t → (s.testBit u = true ↔ A (20 + u) 4 = -9)) → WP2 P M_H_standingTeams d 4 [some (vr 6), some (vi (s : Int)), some (vi (t : Int))] [] (FI, A, L, X) Q) c ?_ ?_
  · intro s hs hb
    refine WP_n 2 rfl ?_
    refine WP2_getf rfl rfl rfl rfl rfl ?_
    refine WP_icmpge rfl rfl ⟨by omega, by omega⟩ ⟨by omega, by omega⟩ (fun h7 => ?_) (fun h7 => absurd h7 (by omega))
    refine WP_n 1 rfl ?_
    exact WP_iret rfl rfl rfl ⟨_, rfl, hq s hs hb⟩
  · intro t ht ih s hs hb
    have hq9 := hI.2.2.2.1 t (by omega)
    unfold cTm at hq9
    have hp : 2 ^ t ≤ 2 ^ 15 := Nat.pow_le_pow_right (by omega) (by omega)
    have hp2 := Nat.pow_succ 2 t
    refine WP_n 2 rfl ?_
    refine WP2_getf rfl rfl rfl rfl rfl ?_
    refine WP_icmpge rfl rfl ⟨by omega, by omega⟩ ⟨by omega, by omega⟩ (fun h7 => absurd h7 (by omega)) (fun h7 => ?_)
    refine WP_n 2 rfl ?_
    refine WP2_getf rfl rfl rfl rfl rfl ?_
    refine WP_n 1 rfl ?_
    refine WP2_aald (b := 20) (j := t) (n := 16) rfl rfl rfl rfl rfl (by omega) (by omega) ?_
    refine WP_n 1 rfl ?_
    refine WP2_iald (j := 4) rfl rfl (ia_tm (by omega)) (by omega) (by omega) (by omega) ?_
    refine WP_n 1 rfl ?_
    refine WP_icmpne rfl rfl ⟨by omega, by omega⟩ ⟨by omega, by omega⟩ (fun h16 => ?_) (fun h16 => ?_)
    · refine WP_n 2 rfl ?_
      rw [or_zero' (by omega)]
      refine WP_n 3 rfl ?_
      exact ih s (by omega) (lt_s hb (by rw [tb_lt hs (by omega)]; constructor <;> intro q <;> first | exact absurd q (by decide) | omega))
    · refine WP_n 5 rfl ?_
      rw [or_pow hs (by omega)]
      refine WP_n 3 rfl ?_
      exact ih (s + 2 ^ t) (by omega) (lt_s (fun g hg => by rw [tb_lo hs hg]; exact hb g hg) (by rw [tb_hi hs]; constructor <;> intro q <;> first | rfl | omega))
theorem sp_targetedTeams {P : PP} {d n c : Nat} {FI A L : Nat → Nat → Int} {X : SX} {Q : Option AV → S2 → Prop} (hI : cI n FI A) (hc : FI 6 8 = (c : Int)) (hq : ∀ s : Nat, s < 2 ^ c → (∀ t, t < c → (s.testBit t = true ↔ A (20 + t) 6 ≠ -9)) → Q (some (vi (s : Int))) (FI, A, L, X)) : WP2 P M_H_targetedTeams (d) 0 [some (vr 6), none, none] [] (FI, A, L, X) Q := by
  have hcc := hI.1
  refine WP_n 4 rfl ?_
  suffices hh : ∀ t, t ≤ c → ∀ s : Nat, s < 2 ^ t → (∀ u, u < t → (s.testBit u = true ↔ A (20 + u) 6 ≠ -9)) → WP2 P M_H_targetedTeams d 4 [some (vr 6), some (vi (s : Int)), some (vi (t : Int))] [] (FI, A, L, X) Q from hh 0 (by omega) 0 (by omega) (fun g hg => absurd hg (by omega))
  refine up_to (P := fun t => ∀ s : Nat, s < 2 ^ t → (∀ u, u < t → (s.testBit u = true ↔ A (20 + u) 6 ≠ -9)) → WP2 P M_H_targetedTeams d 4 [some (vr 6), some (vi (s : Int)), some (vi (t : Int))] [] (FI, A, L, X) Q) c ?_ ?_
  · intro s hs hb
    refine WP_n 2 rfl ?_
    refine WP2_getf rfl rfl rfl rfl rfl ?_
    refine WP_icmpge rfl rfl ⟨by omega, by omega⟩ ⟨by omega, by omega⟩ (fun h7 => ?_) (fun h7 => absurd h7 (by omega))
    refine WP_n 1 rfl ?_
    exact WP_iret rfl rfl rfl ⟨_, rfl, hq s hs hb⟩
  · intro t ht ih s hs hb
    have hq9 := hI.2.2.2.1 t (by omega)
    unfold cTm at hq9
    have hp : 2 ^ t ≤ 2 ^ 15 := Nat.pow_le_pow_right (by omega) (by omega)
    have hp2 := Nat.pow_succ 2 t
    refine WP_n 2 rfl ?_
    refine WP2_getf rfl rfl rfl rfl rfl ?_
    refine WP_icmpge rfl rfl ⟨by omega, by omega⟩ ⟨by omega, by omega⟩ (fun h7 => absurd h7 (by omega)) (fun h7 => ?_)
    refine WP_n 2 rfl ?_
    refine WP2_getf rfl rfl rfl rfl rfl ?_
    refine WP_n 1 rfl ?_
    refine WP2_aald (b := 20) (j := t) (n := 16) rfl rfl rfl rfl rfl (by omega) (by omega) ?_
    refine WP_n 1 rfl ?_
    refine WP2_iald (j := 6) rfl rfl (ia_tm (by omega)) (by omega) (by omega) (by omega) ?_
    refine WP_n 1 rfl ?_
    refine WP_icmpne rfl rfl ⟨by omega, by omega⟩ ⟨by omega, by omega⟩ (fun h16 => ?_) (fun h16 => ?_)
    · refine WP_n 4 rfl ?_
      rw [or_pow hs (by omega)]
      refine WP_n 3 rfl ?_
      exact ih (s + 2 ^ t) (by omega) (lt_s (fun g hg => by rw [tb_lo hs hg]; exact hb g hg) (by rw [tb_hi hs]; constructor <;> intro q <;> first | rfl | omega))
    · refine WP_n 3 rfl ?_
      rw [or_zero' (by omega)]
      refine WP_n 3 rfl ?_
      exact ih s (by omega) (lt_s hb (by rw [tb_lt hs (by omega)]; constructor <;> intro q <;> first | exact absurd q (by decide) | omega))
theorem sp_floorsOfMovers {P : PP} {d n c : Nat} {FI A L : Nat → Nat → Int} {X : SX} {Q : Option AV → S2 → Prop} (hI : cI n FI A) (hc : FI 6 8 = (c : Int)) (hq : ∀ s : Nat, s < 2048 → (∀ f, f < 11 → (s.testBit f = true ↔ ∃ u, u < c ∧ A (20 + u) 6 ≠ -9 ∧ A (20 + u) 4 ≠ -9 ∧ (A (20 + u) 6 = (f : Int) ∨ A (20 + u) 4 = (f : Int)))) → Q (some (vi (s : Int))) (FI, A, L, X)) : WP2 P M_H_floorsOfMovers (d) 0 [some (vr 6), none, none] [] (FI, A, L, X) Q := by
  have hcc := hI.1
  refine WP_n 4 rfl ?_
  suffices hh : ∀ t, t ≤ c → ∀ s : Nat, s < 2048 → (∀ f, f < 11 → (s.testBit f = true ↔ ∃ u, u < t ∧ A (20 + u) 6 ≠ -9 ∧ A (20 + u) 4 ≠ -9 ∧ (A (20 + u) 6 = (f : Int) ∨ A (20 + u) 4 = (f : Int)))) → WP2 P M_H_floorsOfMovers d 4 [some (vr 6), some (vi (s : Int)), some (vi (t : Int))] [] (FI, A, L, X) Q from hh 0 (by omega) 0 (by omega) (fun f hf => by
    rw [Nat.zero_testBit]
    constructor
    · intro q
      exact absurd q (by decide)
    · rintro ⟨u, u1, _⟩
      omega)
  refine up_to (P := fun t => ∀ s : Nat, s < 2048 → (∀ f, f < 11 → (s.testBit f = true ↔ ∃ u, u < t ∧ A (20 + u) 6 ≠ -9 ∧ A (20 + u) 4 ≠ -9 ∧ (A (20 + u) 6 = (f : Int) ∨ A (20 + u) 4 = (f : Int)))) → WP2 P M_H_floorsOfMovers d 4 [some (vr 6), some (vi (s : Int)), some (vi (t : Int))] [] (FI, A, L, X) Q) c ?_ ?_
  · intro s hs hb
    refine WP_n 2 rfl ?_
    refine WP2_getf rfl rfl rfl rfl rfl ?_
    refine WP_icmpge rfl rfl ⟨by omega, by omega⟩ ⟨by omega, by omega⟩ (fun h7 => ?_) (fun h7 => absurd h7 (by omega))
    refine WP_n 1 rfl ?_
    exact WP_iret rfl rfl rfl ⟨_, rfl, hq s hs hb⟩
  · intro t ht ih s hs hb
    have hq9 := hI.2.2.2.1 t (by omega)
    unfold cTm at hq9
    refine WP_n 2 rfl ?_
    refine WP2_getf rfl rfl rfl rfl rfl ?_
    refine WP_icmpge rfl rfl ⟨by omega, by omega⟩ ⟨by omega, by omega⟩ (fun h7 => absurd h7 (by omega)) (fun h7 => ?_)
    refine WP_n 1 rfl ?_
    refine WP2_getf rfl rfl rfl rfl rfl ?_
    refine WP_n 1 rfl ?_
    refine WP2_aald (b := 20) (j := t) (n := 16) rfl rfl rfl rfl rfl (by omega) (by omega) ?_
    refine WP_n 1 rfl ?_
    refine WP2_iald (j := 6) rfl rfl (ia_tm (by omega)) (by omega) (by omega) (by omega) ?_
    refine WP_n 1 rfl ?_
    refine WP_icmpeq rfl rfl ⟨by omega, by omega⟩ ⟨by omega, by omega⟩ (fun h15 => ?_) (fun h15 => ?_)
    · refine WP_n 2 rfl ?_
      refine ih s hs (fun f hf => ?_)
      rw [hb f hf]
      constructor
      · rintro ⟨u, u1, u2⟩
        exact ⟨u, by omega, u2⟩
      · rintro ⟨u, u1, u2, u3, u4⟩
        refine ⟨u, ?_, u2, u3, u4⟩
        by_cases e : u = t
        · rw [e] at u2 u3
          omega
        · omega
    · refine WP_n 1 rfl ?_
      refine WP2_getf rfl rfl rfl rfl rfl ?_
      refine WP_n 1 rfl ?_
      refine WP2_aald (b := 20) (j := t) (n := 16) rfl rfl rfl rfl rfl (by omega) (by omega) ?_
      refine WP_n 1 rfl ?_
      refine WP2_iald (j := 4) rfl rfl (ia_tm (by omega)) (by omega) (by omega) (by omega) ?_
      refine WP_n 1 rfl ?_
      refine WP_icmpeq rfl rfl ⟨by omega, by omega⟩ ⟨by omega, by omega⟩ (fun h23 => ?_) (fun h23 => ?_)
      · refine WP_n 2 rfl ?_
        refine ih s hs (fun f hf => ?_)
        rw [hb f hf]
        constructor
        · rintro ⟨u, u1, u2⟩
          exact ⟨u, by omega, u2⟩
        · rintro ⟨u, u1, u2, u3, u4⟩
          refine ⟨u, ?_, u2, u3, u4⟩
          by_cases e : u = t
          · rw [e] at u2 u3
            omega
          · omega
      · obtain ⟨g9, hg⟩ : ∃ g9 : Nat, A (20 + t) 6 = (g9 : Int) := ⟨(A (20 + t) 6).toNat, by omega⟩
        obtain ⟨p9, hp⟩ : ∃ p9 : Nat, A (20 + t) 4 = (p9 : Int) := ⟨(A (20 + t) 4).toNat, by omega⟩
        have g1 : (2 : Nat) ^ g9 < 2 ^ 11 := Nat.pow_lt_pow_right (by omega) (by omega)
        have p1 : (2 : Nat) ^ p9 < 2 ^ 11 := Nat.pow_lt_pow_right (by omega) (by omega)
        have hgp : 2 ^ g9 ||| 2 ^ p9 < 2 ^ 11 := Nat.or_lt_two_pow g1 p1
        have hlt : s ||| (2 ^ g9 ||| 2 ^ p9) < 2 ^ 11 := Nat.or_lt_two_pow (by omega) hgp
        refine WP_n 3 rfl ?_
        refine WP2_getf rfl rfl rfl rfl rfl ?_
        refine WP_n 1 rfl ?_
        refine WP2_aald (b := 20) (j := t) (n := 16) rfl rfl rfl rfl rfl (by omega) (by omega) ?_
        refine WP_n 1 rfl ?_
        refine WP2_iald (j := 6) rfl rfl (ia_tm (by omega)) (by omega) (by omega) (by omega) ?_
        refine WP_n 3 rfl ?_
        refine WP2_getf rfl rfl rfl rfl rfl ?_
        refine WP_n 1 rfl ?_
        refine WP2_aald (b := 20) (j := t) (n := 16) rfl rfl rfl rfl rfl (by omega) (by omega) ?_
        refine WP_n 1 rfl ?_
        refine WP2_iald (j := 4) rfl rfl (ia_tm (by omega)) (by omega) (by omega) (by omega) ?_
        refine WP_n 3 rfl ?_
        rw [hg, hp]
        rw [show iShl 1 (g9 : Int) = ((2 ^ g9 : Nat) : Int) from (iShl_n (a := 1) (by omega) (by omega)).trans (by rw [Nat.one_mul]), show iShl 1 (p9 : Int) = ((2 ^ p9 : Nat) : Int) from (iShl_n (a := 1) (by omega) (by omega)).trans (by rw [Nat.one_mul])]
        rw [iOr_n (by omega) (by omega), iOr_n (by omega) (by omega)]
        refine WP_n 3 rfl ?_
        refine ih (s ||| (2 ^ g9 ||| 2 ^ p9)) hlt (fun f hf => ?_)
        rw [Nat.testBit_or, Nat.testBit_or, Nat.testBit_two_pow, Nat.testBit_two_pow]
        rw [Bool.or_eq_true, Bool.or_eq_true, decide_eq_true_eq, decide_eq_true_eq, hb f hf]
        constructor
        · rintro (⟨u, u1, u2⟩ | u | u)
          · exact ⟨u, by omega, u2⟩
          · exact ⟨t, by omega, by omega, by omega, Or.inl (by omega)⟩
          · exact ⟨t, by omega, by omega, by omega, Or.inr (by omega)⟩
        · rintro ⟨u, u1, u2, u3, u4⟩
          by_cases e : u = t
          · rw [e] at u4
            rcases u4 with u4 | u4
            · exact Or.inr (Or.inl (by omega))
            · exact Or.inr (Or.inr (by omega))
          · exact Or.inl ⟨u, by omega, u2, u3, u4⟩

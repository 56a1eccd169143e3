/-! moves of the class: stateBy -/
theorem sp_stateBy {P : PP} {d : Nat} {FI A L : Nat → Nat → Int} {X : SX} {Q : Option AV → S2 → Prop} {n : Nat} {FI0 A0 : Nat → Nat → Int} {c mv st K S : Nat} (hh : HM n FI0 A0 c mv st K S) (hS : MSt FI0 A0 c mv st K S FI A) {W : Nat} (hW : W = 4 ∨ W = 6) {dg : Nat → Nat} (hdg : ∀ m, m < K → dg m < S ∧ A0 (20 + nth mv m) W = (nth st (dg m) : Int)) (hq : Q (some (vi (stN dg K : Int))) (FI, A, L, X)) : WP2 P M_V_stateBy d 0 [some (vr 152), some (vi (W : Int)), none, none, none] [] (FI, A, L, X) Q := by
  have hc16 := hh.c
  have hK6 := hh.2.2.2.2.2.1
  have hS5 := hh.2.2.2.2.2.2.2
  have hKm := hh.2.2.2.2.1
  have f9 := hS.2.1.1
  have f10 := hS.2.1.2
  have hI := hh.1.off hS.1
  refine WP_n 4 rfl ?_
  refine up_to (P := fun m => WP2 P M_V_stateBy d 4 [some (vr 152), some (vi (W : Int)), some (vi (stN dg m : Int)), some (vi (m : Int)), none] [] (FI, A, L, X) Q) K ?_ ?_ 0 (by omega)
  · refine WP_n 2 rfl ?_
    refine WP2_getf rfl rfl rfl rfl rfl ?_
    refine WP_icmpge rfl rfl ⟨by omega, by omega⟩ ⟨by omega, by omega⟩ (fun h7 => ?_) (fun h7 => absurd h7 (by omega))
    refine WP_n 1 rfl ?_
    exact WP_iret rfl rfl rfl ⟨_, rfl, hq⟩
  · intro m hm ih
    refine WP_n 2 rfl ?_
    refine WP2_getf rfl rfl rfl rfl rfl ?_
    refine WP_icmpge rfl rfl ⟨by omega, by omega⟩ ⟨by omega, by omega⟩ (fun h7 => absurd h7 (by omega)) (fun h7 => ?_)
    refine WP_n 2 rfl ?_
    have hT := hh.T (i := m) (by omega)
    have hg := hdg m hm
    have hpow := PWt_pow m (by omega)
    have hb5 : stN dg m < 5 ^ m := stN_lt m (fun j hj => by have := (hdg j (by omega)).1; omega)
    have hp6 : 5 ^ m ≤ 5 ^ 5 := Nat.pow_le_pow_right (by omega) (by omega)
    suffices hw : ∀ s, s ≤ S → WP2 P M_V_stateBy d 10 [some (vr 152), some (vi (W : Int)), some (vi ((stN dg m : Nat) + (if dg m < s then (dg m * 5 ^ m : Nat) else 0 : Nat) : Int)), some (vi (m : Int)), some (vi (s : Int))] [] (FI, A, L, X) Q by
      have z := hw 0 (by omega)
      rw [if_neg (by omega)] at z
      exact z
    refine up_to (P := fun s => WP2 P M_V_stateBy d 10 [some (vr 152), some (vi (W : Int)), some (vi ((stN dg m : Nat) + (if dg m < s then (dg m * 5 ^ m : Nat) else 0 : Nat) : Int)), some (vi (m : Int)), some (vi (s : Int))] [] (FI, A, L, X) Q) S ?_ ?_
    · rw [if_pos hg.1]
      refine WP_n 2 rfl ?_
      refine WP2_getf rfl rfl rfl rfl rfl ?_
      refine WP_icmpge rfl rfl ⟨by omega, by omega⟩ ⟨by omega, by omega⟩ (fun h13 => ?_) (fun h13 => absurd h13 (by omega))
      refine WP_n 2 rfl ?_
      exact WP2_kill 4 ih
    · intro s hs ih2
      have hF := hh.F hs
      have e153 := hS.2.2.1 m (by omega)
      have e154 := hS.2.2.2.1 s hs
      have hg2 := hg.2
      have hg11 := hh.F hg.1
      have ef : A (20 + nth mv m) W = A0 (20 + nth mv m) W := hS.1.2.2 _ _ (by omega)
      refine WP_n 2 rfl ?_
      refine WP2_getf rfl rfl rfl rfl rfl ?_
      refine WP_icmpge rfl rfl ⟨by omega, by omega⟩ ⟨by omega, by omega⟩ (fun h13 => absurd h13 (by omega)) (fun h13 => ?_)
      refine WP_n 1 rfl ?_
      refine WP2_getf rfl rfl rfl rfl rfl ?_
      refine WP_n 1 rfl ?_
      refine WP2_iald (j := s) rfl rfl (ia_lit (n := 5) rfl rfl (by omega)) (by omega) (by omega) (by omega) ?_
      refine WP_n 1 rfl ?_
      refine WP2_getf rfl rfl rfl rfl rfl ?_
      refine WP2_getf rfl rfl rfl rfl rfl ?_
      refine WP_n 1 rfl ?_
      refine WP2_getf rfl rfl rfl rfl rfl ?_
      refine WP_n 1 rfl ?_
      refine WP2_iald (j := m) rfl rfl (ia_lit (n := 6) rfl rfl (by omega)) (by omega) (by omega) (by omega) ?_
      refine WP2_aald (b := 20) (j := (nth mv m)) (n := 16) rfl rfl rfl rfl rfl (by omega) (by omega) ?_
      refine WP_n 1 rfl ?_
      refine WP2_iald (j := W) rfl rfl (ia_tm (by omega)) (by omega) (by omega) (by omega) ?_
      refine WP_icmpne rfl rfl ⟨by omega, by omega⟩ ⟨by omega, by omega⟩ (fun h28 => ?_) (fun h28 => ?_)
      · refine WP_n 2 rfl ?_
        have hne : dg m ≠ s := fun e => h28 (by rw [e154, ef, ← e]; exact hg.2.symm)
        rw [show (if dg m < s + 1 then (dg m * 5 ^ m : Nat) else 0 : Nat) = (if dg m < s then (dg m * 5 ^ m : Nat) else 0 : Nat) from by
          by_cases q : dg m < s
          · rw [if_pos q, if_pos (by omega)]
          · rw [if_neg q, if_neg (by omega)]] at ih2
        exact ih2
      · refine WP_n 2 rfl ?_
        refine WP2_gets (x := 4) rfl rfl rfl ?_
        refine WP_n 1 rfl ?_
        refine WP2_ialds (j := m) rfl rfl (ia_lit (n := 7) rfl rfl (by omega)) (by omega) (by omega) (by omega) ?_
        refine WP_n 5 rfl ?_
        have he : nth st s = nth st (dg m) := by
          have := hg.2
          omega
        have hes : s = dg m := nth_inj (by have := hh.2.2.2.2.2.2.1; omega) (by have := hh.2.2.2.2.2.2.1; have := hg.1; omega) he
        rw [if_pos (by omega)] at ih2
        rw [if_neg (by omega)]
        rw [show ((stN dg m : Nat) : Int) + ((0 : Nat) : Int) + (s : Int) * st5 P 4 m = ((stN dg m : Nat) : Int) + ((dg m * 5 ^ m : Nat) : Int) from by
          rw [show st5 P 4 m = PWt m from rfl, hpow, hes]
          rw [Int.natCast_mul]
          omega]
        exact ih2

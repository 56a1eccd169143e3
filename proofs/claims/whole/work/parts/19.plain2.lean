/-! floor, team, fix, two, person, teamOf -/
theorem sp_F_floor {P : PP} {d n : Nat} {FI A L : Nat → Nat → Int} {X : SX} {Q : Option AV → S2 → Prop} {f w v : Int} (hf : inR f) (hw : inR w) (hv : inR v) (hI : cI n FI A) (hn5 : n ≤ 512) (r1 : (f < 0 ∨ 11 ≤ f) → Q (some (vi (-1))) (FI, rfC A 1, L, X)) (r2 : (0 ≤ f ∧ f < 11 ∧ (w < 0 ∨ 4 ≤ w)) → Q (some (vi (-2))) (FI, rfC A 2, L, X)) (r4 : (0 ≤ f ∧ f < 11 ∧ 0 ≤ w ∧ w < 4 ∧ v < 0) → Q (some (vi (-4))) (FI, rfC A 4, L, X)) (r6 : (0 ≤ f ∧ f < 11 ∧ ∃ W : Nat, w = (W : Int) ∧ W < 4 ∧ 0 ≤ v ∧ FMt W < v) → Q (some (vi (-6))) (FI, rfC A 6, L, X)) (ok : ∀ F W : Nat, (f = (F : Int) ∧ F < 11 ∧ w = (W : Int) ∧ W < 4 ∧ 0 ≤ v ∧ v ≤ FMt W) → Q (some (vi (A (8 + F) W))) (FI, up2 A (8 + F) W v, L, X)) : WP2 P M_F_floor (d + 2) 0 [some (vr 5), some (vi f), some (vi w), some (vi v)] [] (FI, A, L, X) Q := by
  obtain ⟨lf, uf⟩ := id hf
  obtain ⟨lw, uw⟩ := id hw
  obtain ⟨lv, uv⟩ := id hv
  have hcc := hI.1
  refine WP_n 1 rfl ?_
  refine WP2_callS 1 ok_M_F_noFloor rfl rfl rfl rfl rfl rfl rfl (Nat.le_of_ble_eq_true rfl) (Nat.le_of_ble_eq_true rfl) ?_
  refine sp_noFloor hf (fun hF => ?_) (fun hF hFb => ?_)
  · refine WP_ifeq rfl rfl ⟨by decide, by decide⟩  (fun h2 => absurd h2 (by decide)) (fun h2 => ?_)
    refine WP_n 2 rfl ?_
    refine WP2_callV 1 ok_M_F_refuse rfl rfl rfl rfl rfl rfl (Nat.le_of_ble_eq_true rfl) (Nat.le_of_ble_eq_true rfl) rfl rfl ?_
    refine sp_refuse (k := 1) rfl (by omega) ?_
    exact WP_iret rfl rfl rfl ⟨_, rfl, r1 (by omega)⟩
  · refine WP_ifeq rfl rfl ⟨by decide, by decide⟩  (fun h2 => ?_) (fun h2 => absurd (by decide) h2)
    refine WP_n 1 rfl ?_
    refine WP_iflt rfl rfl ⟨by omega, by omega⟩ (fun h8 => ?_) (fun h8 => ?_)
    · refine WP_n 2 rfl ?_
      refine WP2_callV 1 ok_M_F_refuse rfl rfl rfl rfl rfl rfl (Nat.le_of_ble_eq_true rfl) (Nat.le_of_ble_eq_true rfl) rfl rfl ?_
      refine sp_refuse (k := 2) rfl (by omega) ?_
      exact WP_iret rfl rfl rfl ⟨_, rfl, r2 (by omega)⟩
    · refine WP_n 1 rfl ?_
      refine WP2_gets (x := 2) rfl rfl rfl ?_
      refine WP2_alen rfl rfl (ia_lit (n := 4) rfl rfl (by omega)) ?_
      refine WP_icmplt rfl rfl ⟨by omega, by omega⟩ ⟨by omega, by omega⟩ (fun h12 => ?_) (fun h12 => ?_)
      · obtain ⟨W, rfl⟩ : ∃ W : Nat, w = (W : Int) := ⟨w.toNat, by omega⟩
        refine WP_n 1 rfl ?_
        refine WP_ifge rfl rfl ⟨by omega, by omega⟩ (fun h18 => ?_) (fun h18 => ?_)
        · refine WP_n 1 rfl ?_
          refine WP2_gets (x := 2) rfl rfl rfl ?_
          refine WP_n 1 rfl ?_
          refine WP2_ialds (j := W) rfl rfl (ia_lit (n := 4) rfl rfl (by omega)) (by omega) (by omega) (by omega) ?_
          refine WP_icmple rfl rfl ⟨by omega, by omega⟩ (FMt_R W (by omega)) (fun h27 => ?_) (fun h27 => ?_)
          · obtain ⟨F, rfl⟩ : ∃ F : Nat, f = (F : Int) := ⟨f.toNat, by omega⟩
            refine WP_n 1 rfl ?_
            refine WP2_getf rfl rfl rfl rfl rfl ?_
            refine WP2_getf rfl rfl rfl rfl rfl ?_
            refine WP_n 1 rfl ?_
            refine WP2_aald (b := 8) (j := F) (n := 11) rfl rfl rfl rfl rfl (by omega) (by omega) ?_
            refine WP_n 2 rfl ?_
            refine WP2_callS 3 ok_M_F_exchange rfl rfl rfl rfl rfl rfl rfl (Nat.le_of_ble_eq_true rfl) (Nat.le_of_ble_eq_true rfl) ?_
            refine sp_exchange (ia_fl (by omega)) (by omega) rfl (by omega) (by omega) ?_
            exact WP_iret rfl rfl rfl ⟨_, rfl, ok F W ⟨rfl, by omega, rfl, by omega, by omega, h27⟩⟩
          · refine WP_n 2 rfl ?_
            refine WP2_callV 1 ok_M_F_refuse rfl rfl rfl rfl rfl rfl (Nat.le_of_ble_eq_true rfl) (Nat.le_of_ble_eq_true rfl) rfl rfl ?_
            refine sp_refuse (k := 6) rfl (by omega) ?_
            exact WP_iret rfl rfl rfl ⟨_, rfl, r6 ⟨by omega, by omega, W, rfl, by omega, by omega, Int.not_le.mp h27⟩⟩
        · refine WP_n 2 rfl ?_
          refine WP2_callV 1 ok_M_F_refuse rfl rfl rfl rfl rfl rfl (Nat.le_of_ble_eq_true rfl) (Nat.le_of_ble_eq_true rfl) rfl rfl ?_
          refine sp_refuse (k := 4) rfl (by omega) ?_
          exact WP_iret rfl rfl rfl ⟨_, rfl, r4 (by omega)⟩
      · refine WP_n 2 rfl ?_
        refine WP2_callV 1 ok_M_F_refuse rfl rfl rfl rfl rfl rfl (Nat.le_of_ble_eq_true rfl) (Nat.le_of_ble_eq_true rfl) rfl rfl ?_
        refine sp_refuse (k := 2) rfl (by omega) ?_
        exact WP_iret rfl rfl rfl ⟨_, rfl, r2 (by omega)⟩
theorem sp_G_floor {P : PP} {d n : Nat} {FI A L : Nat → Nat → Int} {X : SX} {Q : Option AV → S2 → Prop} {f w v : Int} (hf : inR f) (hw : inR w) (hv : inR v) (hI : mI n FI A) (r1 : (f < 0 ∨ 11 ≤ f) → Q (some (vi (-1))) (FI, rfG A 1, L, X)) (r2 : (0 ≤ f ∧ f < 11 ∧ (w < 0 ∨ 4 ≤ w)) → Q (some (vi (-2))) (FI, rfG A 2, L, X)) (r4 : (0 ≤ f ∧ f < 11 ∧ 0 ≤ w ∧ w < 4 ∧ v < 0) → Q (some (vi (-4))) (FI, rfG A 4, L, X)) (r6 : (0 ≤ f ∧ f < 11 ∧ ∃ W : Nat, w = (W : Int) ∧ W < 4 ∧ 0 ≤ v ∧ FMt W < v) → Q (some (vi (-6))) (FI, rfG A 6, L, X)) (ok : ∀ F W : Nat, (f = (F : Int) ∧ F < 11 ∧ w = (W : Int) ∧ W < 4 ∧ 0 ≤ v ∧ v ≤ FMt W) → Q (some (vi (A (166 + W) F))) (FI, up2 A (166 + W) F v, L, X)) : WP2 P M_G_floor (d + 2) 0 [some (vr 165), some (vi f), some (vi w), some (vi v), none] [] (FI, A, L, X) Q := by
  obtain ⟨lf, uf⟩ := id hf
  obtain ⟨lw, uw⟩ := id hw
  obtain ⟨lv, uv⟩ := id hv
  have hcc := hI.2.1
  refine WP_n 1 rfl ?_
  refine WP2_callS 1 ok_M_G_isFloor rfl rfl rfl rfl rfl rfl rfl (Nat.le_of_ble_eq_true rfl) (Nat.le_of_ble_eq_true rfl) ?_
  refine sp_isFloor hf (fun hF => ?_) (fun hF hF2 => ?_)
  · refine WP_ifne rfl rfl ⟨by decide, by decide⟩  (fun h2 => absurd h2 (by decide)) (fun h2 => ?_)
    refine WP_n 2 rfl ?_
    refine WP2_callV 1 ok_M_G_no rfl rfl rfl rfl rfl rfl (Nat.le_of_ble_eq_true rfl) (Nat.le_of_ble_eq_true rfl) rfl rfl ?_
    refine sp_no (k := 1) rfl (by omega) ?_
    exact WP_iret rfl rfl rfl ⟨_, rfl, r1 (by omega)⟩
  · obtain ⟨F, rfl⟩ : ∃ F : Nat, f = (F : Int) := ⟨f.toNat, by omega⟩
    refine WP_ifne rfl rfl ⟨by decide, by decide⟩  (fun h2 => ?_) (fun h2 => absurd (by decide) h2)
    refine WP_n 1 rfl ?_
    refine WP_iflt rfl rfl ⟨by omega, by omega⟩ (fun h8 => ?_) (fun h8 => ?_)
    · refine WP_n 2 rfl ?_
      refine WP2_callV 1 ok_M_G_no rfl rfl rfl rfl rfl rfl (Nat.le_of_ble_eq_true rfl) (Nat.le_of_ble_eq_true rfl) rfl rfl ?_
      refine sp_no (k := 2) rfl (by omega) ?_
      exact WP_iret rfl rfl rfl ⟨_, rfl, r2 (by omega)⟩
    · refine WP_n 2 rfl ?_
      refine WP_icmple rfl rfl ⟨by omega, by omega⟩ ⟨by omega, by omega⟩ (fun h11 => ?_) (fun h11 => ?_)
      · refine WP_n 1 rfl ?_
        refine WP_ifge rfl rfl ⟨by omega, by omega⟩ (fun h17 => ?_) (fun h17 => ?_)
        · obtain ⟨W, rfl⟩ : ∃ W : Nat, w = (W : Int) := ⟨w.toNat, by omega⟩
          rcases (show W = 0 ∨ W = 1 ∨ W = 2 ∨ W = 3 by omega) with rfl | rfl | rfl | rfl
          · refine WP_n 2 rfl ?_
            refine WP_ifne rfl rfl ⟨by decide, by decide⟩  (fun h24 => absurd h24 (by decide)) (fun h24 => ?_)
            refine WP_n 2 rfl ?_
            refine WP_icmple rfl rfl ⟨by omega, by omega⟩ ⟨by omega, by omega⟩ (fun h38 => ?_) (fun h38 => ?_)
            · refine WP_n 1 rfl ?_
              refine WP_ifne rfl rfl ⟨by decide, by decide⟩  (fun h44 => absurd h44 (by decide)) (fun h44 => ?_)
              refine WP_n 1 rfl ?_
              refine WP2_getf rfl rfl rfl rfl rfl ?_
              refine WP_n 1 rfl ?_
              refine WP2_iald (j := F) rfl rfl (ia_lit (n := 11) rfl rfl (by omega)) (by omega) (by omega) (by omega) ?_
              refine WP_n 3 rfl ?_
              refine WP_ifne rfl rfl ⟨by decide, by decide⟩  (fun h72 => absurd h72 (by decide)) (fun h72 => ?_)
              refine WP_n 1 rfl ?_
              refine WP2_getf rfl rfl rfl rfl rfl ?_
              refine WP_n 2 rfl ?_
              refine WP2_iast (j := F) rfl rfl (ia_lit (n := 11) rfl rfl (by omega)) (by omega) (by omega) (by omega) ?_
              refine WP_n 2 rfl ?_
              exact WP_iret rfl rfl rfl ⟨_, rfl, ok F 0 ⟨rfl, by omega, rfl, by omega, by omega, by simp [FMt]; omega⟩⟩
            · refine WP_n 2 rfl ?_
              refine WP2_callV 1 ok_M_G_no rfl rfl rfl rfl rfl rfl (Nat.le_of_ble_eq_true rfl) (Nat.le_of_ble_eq_true rfl) rfl rfl ?_
              refine sp_no (k := 6) rfl (by omega) ?_
              exact WP_iret rfl rfl rfl ⟨_, rfl, r6 ⟨by omega, by omega, 0, rfl, by omega, by omega, by simp [FMt]; omega⟩⟩
          · refine WP_n 2 rfl ?_
            refine WP_ifne rfl rfl ⟨by decide, by decide⟩  (fun h24 => ?_) (fun h24 => absurd (by decide) h24)
            refine WP_n 2 rfl ?_
            refine WP_icmpne rfl rfl ⟨by decide, by decide⟩ ⟨by decide, by decide⟩  (fun h29 => absurd h29 (by decide)) (fun h29 => ?_)
            refine WP_n 2 rfl ?_
            refine WP_icmple rfl rfl ⟨by omega, by omega⟩ ⟨by omega, by omega⟩ (fun h38 => ?_) (fun h38 => ?_)
            · refine WP_n 1 rfl ?_
              refine WP_ifne rfl rfl ⟨by decide, by decide⟩  (fun h44 => ?_) (fun h44 => absurd (by decide) h44)
              refine WP_n 2 rfl ?_
              refine WP_icmpne rfl rfl ⟨by decide, by decide⟩ ⟨by decide, by decide⟩  (fun h52 => absurd h52 (by decide)) (fun h52 => ?_)
              refine WP_n 1 rfl ?_
              refine WP2_getf rfl rfl rfl rfl rfl ?_
              refine WP_n 1 rfl ?_
              refine WP2_iald (j := F) rfl rfl (ia_lit (n := 11) rfl rfl (by omega)) (by omega) (by omega) (by omega) ?_
              refine WP_n 3 rfl ?_
              refine WP_ifne rfl rfl ⟨by decide, by decide⟩  (fun h72 => ?_) (fun h72 => absurd (by decide) h72)
              refine WP_n 2 rfl ?_
              refine WP_icmpne rfl rfl ⟨by decide, by decide⟩ ⟨by decide, by decide⟩  (fun h81 => absurd h81 (by decide)) (fun h81 => ?_)
              refine WP_n 1 rfl ?_
              refine WP2_getf rfl rfl rfl rfl rfl ?_
              refine WP_n 2 rfl ?_
              refine WP2_iast (j := F) rfl rfl (ia_lit (n := 11) rfl rfl (by omega)) (by omega) (by omega) (by omega) ?_
              refine WP_n 2 rfl ?_
              exact WP_iret rfl rfl rfl ⟨_, rfl, ok F 1 ⟨rfl, by omega, rfl, by omega, by omega, by simp [FMt]; omega⟩⟩
            · refine WP_n 2 rfl ?_
              refine WP2_callV 1 ok_M_G_no rfl rfl rfl rfl rfl rfl (Nat.le_of_ble_eq_true rfl) (Nat.le_of_ble_eq_true rfl) rfl rfl ?_
              refine sp_no (k := 6) rfl (by omega) ?_
              exact WP_iret rfl rfl rfl ⟨_, rfl, r6 ⟨by omega, by omega, 1, rfl, by omega, by omega, by simp [FMt]; omega⟩⟩
          · refine WP_n 2 rfl ?_
            refine WP_ifne rfl rfl ⟨by decide, by decide⟩  (fun h24 => ?_) (fun h24 => absurd (by decide) h24)
            refine WP_n 2 rfl ?_
            refine WP_icmpne rfl rfl ⟨by decide, by decide⟩ ⟨by decide, by decide⟩  (fun h29 => ?_) (fun h29 => absurd (by decide) h29)
            refine WP_n 2 rfl ?_
            refine WP_icmpne rfl rfl ⟨by decide, by decide⟩ ⟨by decide, by decide⟩  (fun h34 => absurd h34 (by decide)) (fun h34 => ?_)
            refine WP_n 2 rfl ?_
            refine WP_icmple rfl rfl ⟨by omega, by omega⟩ ⟨by omega, by omega⟩ (fun h38 => ?_) (fun h38 => ?_)
            · refine WP_n 1 rfl ?_
              refine WP_ifne rfl rfl ⟨by decide, by decide⟩  (fun h44 => ?_) (fun h44 => absurd (by decide) h44)
              refine WP_n 2 rfl ?_
              refine WP_icmpne rfl rfl ⟨by decide, by decide⟩ ⟨by decide, by decide⟩  (fun h52 => ?_) (fun h52 => absurd (by decide) h52)
              refine WP_n 2 rfl ?_
              refine WP_icmpne rfl rfl ⟨by decide, by decide⟩ ⟨by decide, by decide⟩  (fun h60 => absurd h60 (by decide)) (fun h60 => ?_)
              refine WP_n 1 rfl ?_
              refine WP2_getf rfl rfl rfl rfl rfl ?_
              refine WP_n 1 rfl ?_
              refine WP2_iald (j := F) rfl rfl (ia_lit (n := 11) rfl rfl (by omega)) (by omega) (by omega) (by omega) ?_
              refine WP_n 3 rfl ?_
              refine WP_ifne rfl rfl ⟨by decide, by decide⟩  (fun h72 => ?_) (fun h72 => absurd (by decide) h72)
              refine WP_n 2 rfl ?_
              refine WP_icmpne rfl rfl ⟨by decide, by decide⟩ ⟨by decide, by decide⟩  (fun h81 => ?_) (fun h81 => absurd (by decide) h81)
              refine WP_n 2 rfl ?_
              refine WP_icmpne rfl rfl ⟨by decide, by decide⟩ ⟨by decide, by decide⟩  (fun h90 => absurd h90 (by decide)) (fun h90 => ?_)
              refine WP_n 1 rfl ?_
              refine WP2_getf rfl rfl rfl rfl rfl ?_
              refine WP_n 2 rfl ?_
              refine WP2_iast (j := F) rfl rfl (ia_lit (n := 11) rfl rfl (by omega)) (by omega) (by omega) (by omega) ?_
              refine WP_n 2 rfl ?_
              exact WP_iret rfl rfl rfl ⟨_, rfl, ok F 2 ⟨rfl, by omega, rfl, by omega, by omega, by simp [FMt]; omega⟩⟩
            · refine WP_n 2 rfl ?_
              refine WP2_callV 1 ok_M_G_no rfl rfl rfl rfl rfl rfl (Nat.le_of_ble_eq_true rfl) (Nat.le_of_ble_eq_true rfl) rfl rfl ?_
              refine sp_no (k := 6) rfl (by omega) ?_
              exact WP_iret rfl rfl rfl ⟨_, rfl, r6 ⟨by omega, by omega, 2, rfl, by omega, by omega, by simp [FMt]; omega⟩⟩
          · refine WP_n 2 rfl ?_
            refine WP_ifne rfl rfl ⟨by decide, by decide⟩  (fun h24 => ?_) (fun h24 => absurd (by decide) h24)
            refine WP_n 2 rfl ?_
            refine WP_icmpne rfl rfl ⟨by decide, by decide⟩ ⟨by decide, by decide⟩  (fun h29 => ?_) (fun h29 => absurd (by decide) h29)
            refine WP_n 2 rfl ?_
            refine WP_icmpne rfl rfl ⟨by decide, by decide⟩ ⟨by decide, by decide⟩  (fun h34 => ?_) (fun h34 => absurd (by decide) h34)
            refine WP_n 1 rfl ?_
            refine WP_icmple rfl rfl ⟨by omega, by omega⟩ ⟨by omega, by omega⟩ (fun h38 => ?_) (fun h38 => ?_)
            · refine WP_n 1 rfl ?_
              refine WP_ifne rfl rfl ⟨by decide, by decide⟩  (fun h44 => ?_) (fun h44 => absurd (by decide) h44)
              refine WP_n 2 rfl ?_
              refine WP_icmpne rfl rfl ⟨by decide, by decide⟩ ⟨by decide, by decide⟩  (fun h52 => ?_) (fun h52 => absurd (by decide) h52)
              refine WP_n 2 rfl ?_
              refine WP_icmpne rfl rfl ⟨by decide, by decide⟩ ⟨by decide, by decide⟩  (fun h60 => ?_) (fun h60 => absurd (by decide) h60)
              refine WP_n 1 rfl ?_
              refine WP2_getf rfl rfl rfl rfl rfl ?_
              refine WP_n 1 rfl ?_
              refine WP2_iald (j := F) rfl rfl (ia_lit (n := 11) rfl rfl (by omega)) (by omega) (by omega) (by omega) ?_
              refine WP_n 2 rfl ?_
              refine WP_ifne rfl rfl ⟨by decide, by decide⟩  (fun h72 => ?_) (fun h72 => absurd (by decide) h72)
              refine WP_n 2 rfl ?_
              refine WP_icmpne rfl rfl ⟨by decide, by decide⟩ ⟨by decide, by decide⟩  (fun h81 => ?_) (fun h81 => absurd (by decide) h81)
              refine WP_n 2 rfl ?_
              refine WP_icmpne rfl rfl ⟨by decide, by decide⟩ ⟨by decide, by decide⟩  (fun h90 => ?_) (fun h90 => absurd (by decide) h90)
              refine WP_n 1 rfl ?_
              refine WP2_getf rfl rfl rfl rfl rfl ?_
              refine WP_n 2 rfl ?_
              refine WP2_iast (j := F) rfl rfl (ia_lit (n := 11) rfl rfl (by omega)) (by omega) (by omega) (by omega) ?_
              refine WP_n 1 rfl ?_
              exact WP_iret rfl rfl rfl ⟨_, rfl, ok F 3 ⟨rfl, by omega, rfl, by omega, by omega, by simp [FMt]; omega⟩⟩
            · refine WP_n 2 rfl ?_
              refine WP2_callV 1 ok_M_G_no rfl rfl rfl rfl rfl rfl (Nat.le_of_ble_eq_true rfl) (Nat.le_of_ble_eq_true rfl) rfl rfl ?_
              refine sp_no (k := 6) rfl (by omega) ?_
              exact WP_iret rfl rfl rfl ⟨_, rfl, r6 ⟨by omega, by omega, 3, rfl, by omega, by omega, by simp [FMt]; omega⟩⟩
        · refine WP_n 2 rfl ?_
          refine WP2_callV 1 ok_M_G_no rfl rfl rfl rfl rfl rfl (Nat.le_of_ble_eq_true rfl) (Nat.le_of_ble_eq_true rfl) rfl rfl ?_
          refine sp_no (k := 4) rfl (by omega) ?_
          exact WP_iret rfl rfl rfl ⟨_, rfl, r4 (by omega)⟩
      · refine WP_n 2 rfl ?_
        refine WP2_callV 1 ok_M_G_no rfl rfl rfl rfl rfl rfl (Nat.le_of_ble_eq_true rfl) (Nat.le_of_ble_eq_true rfl) rfl rfl ?_
        refine sp_no (k := 2) rfl (by omega) ?_
        exact WP_iret rfl rfl rfl ⟨_, rfl, r2 (by omega)⟩
theorem pr_floor {P : PP} {n : Nat} {FI A L : Nat → Nat → Int} {X : SX} (h : INV P n FI A X) (hn : n < 512) {f w v : Int} (hf : inR f) (hw : inR w) (hv : inR v) : PAIR P n (FI, A, L, X) M_F_floor [some (vr 5), some (vi f), some (vi w), some (vi v)] M_G_floor [some (vr 165), some (vi f), some (vi w), some (vi v), none] := by
  intro d
  have hm := h.mI
  have hn5 := h.1
  have hcI := h.2.1
  refine sp_F_floor hf hw hv hcI hn5 (fun c1 => ?_) (fun c1 => ?_) (fun c1 => ?_) (fun c1 => ?_) (fun F W c1 => ?_)
  · refine ⟨_, rfl, ?_⟩
    refine sp_G_floor hf hw hv (hm.up (by omega)) (fun c2 => ?_) (fun c2 => ?_) (fun c2 => ?_) (fun c2 => ?_) (fun F' W' c2 => ?_)
    · exact ⟨rfl, INV_ref h hn (by omega)⟩
    all_goals (exfalso; omega)
  · refine ⟨_, rfl, ?_⟩
    refine sp_G_floor hf hw hv (hm.up (by omega)) (fun c2 => ?_) (fun c2 => ?_) (fun c2 => ?_) (fun c2 => ?_) (fun F' W' c2 => ?_)
    · exfalso; omega
    · exact ⟨rfl, INV_ref h hn (by omega)⟩
    · exfalso; omega
    · obtain ⟨-, -, W', e, q, -⟩ := c2
      exfalso; omega
    · exfalso; omega
  · refine ⟨_, rfl, ?_⟩
    refine sp_G_floor hf hw hv (hm.up (by omega)) (fun c2 => ?_) (fun c2 => ?_) (fun c2 => ?_) (fun c2 => ?_) (fun F' W' c2 => ?_)
    · exfalso; omega
    · exfalso; omega
    · exact ⟨rfl, INV_ref h hn (by omega)⟩
    · obtain ⟨-, -, W', e, q, q2, -⟩ := c2
      exfalso; omega
    · exfalso; omega
  · obtain ⟨q1, q2, W, rfl, q3, q4, q5⟩ := c1
    refine ⟨_, rfl, ?_⟩
    refine sp_G_floor hf hw hv (hm.up (by omega)) (fun c2 => ?_) (fun c2 => ?_) (fun c2 => ?_) (fun c2 => ?_) (fun F' W' c2 => ?_)
    · exfalso; omega
    · exfalso; omega
    · exfalso; omega
    · exact ⟨rfl, INV_ref h hn (by omega)⟩
    · obtain rfl : W = W' := by omega
      exfalso; omega
  · refine ⟨_, rfl, ?_⟩
    refine sp_G_floor hf hw hv (hm.up (by omega)) (fun c2 => ?_) (fun c2 => ?_) (fun c2 => ?_) (fun c2 => ?_) (fun F' W' c2 => ?_)
    · exfalso; omega
    · exfalso; omega
    · exfalso; omega
    · obtain ⟨-, -, W', e, q, q2, q3⟩ := c2
      obtain rfl : W = W' := by omega
      exfalso; omega
    · obtain rfl : W = W' := by omega
      obtain rfl : F = F' := by omega
      refine ⟨?_, INV_floor h hn (by omega) (by omega) (by omega) (by omega)⟩
      have g := h.2.2.1.2.2.1 F (by omega)
      unfold gFl at g
      rw [up2_ne (by omega)]
      rcases (show W = 0 ∨ W = 1 ∨ W = 2 ∨ W = 3 by omega) with rfl | rfl | rfl | rfl
      · rw [g.1]
      · rw [g.2.1]
      · rw [g.2.2.1]
      · rw [g.2.2.2]
theorem sp_F_fix {P : PP} {d n : Nat} {FI A L : Nat → Nat → Int} {X : SX} {Q : Option AV → S2 → Prop} {t b : Int} (ht : inR t) (hb : b = 0 ∨ b = 1) (hI : cI n FI A) (hn5 : n ≤ 512) (r1 : ((t < 0 ∨ FI 6 8 ≤ t)) → Q (some (vi (-1))) (FI, rfC A 1, L, X)) (ok : ∀ T : Nat, (t = (T : Int) ∧ (T : Int) < FI 6 8 ∧ (b = 0 ∨ b = 1)) → Q (some (vi (if A (20 + T) 5 = b then 0 else 1))) (FI, up2 A (20 + T) 5 b, L, X)) : WP2 P M_F_fix (d + 2) 0 [some (vr 5), some (vi t), some (vi b), none] [] (FI, A, L, X) Q := by
  obtain ⟨lt, ut⟩ := id ht
  have hcc := hI.1
  refine WP_n 2 rfl ?_
  refine WP2_callV 1 ok_M_F_noTeam rfl rfl rfl rfl rfl rfl (Nat.le_of_ble_eq_true rfl) (Nat.le_of_ble_eq_true rfl) rfl rfl ?_
  refine sp_noTeam ht ⟨by omega, by omega⟩ (fun hTt => ?_) (fun hTt hTtb => ?_)
  · refine WP_ifeq rfl rfl ⟨by decide, by decide⟩  (fun h3 => absurd h3 (by decide)) (fun h3 => ?_)
    refine WP_n 2 rfl ?_
    refine WP2_callV 1 ok_M_F_refuse rfl rfl rfl rfl rfl rfl (Nat.le_of_ble_eq_true rfl) (Nat.le_of_ble_eq_true rfl) rfl rfl ?_
    refine sp_refuse (k := 1) rfl (by omega) ?_
    exact WP_iret rfl rfl rfl ⟨_, rfl, r1 (by omega)⟩
  · refine WP_ifeq rfl rfl ⟨by decide, by decide⟩  (fun h3 => ?_) (fun h3 => absurd (by decide) h3)
    obtain ⟨T, rfl⟩ : ∃ T : Nat, t = (T : Int) := ⟨t.toNat, by omega⟩
    have hq := hI.2.2.2.1 T (by omega)
    unfold cTm at hq
    have ok := ok T (by omega)
    refine WP_n 1 rfl ?_
    refine WP_ifeq rfl rfl ⟨by omega, by omega⟩ (fun h9 => ?_) (fun h9 => ?_)
    · obtain rfl : b = 0 := by omega
      refine WP_n 3 rfl ?_
      refine WP2_getf rfl rfl rfl rfl rfl ?_
      refine WP2_getf rfl rfl rfl rfl rfl ?_
      refine WP_n 1 rfl ?_
      refine WP2_aald (b := 20) (j := T) (n := 16) rfl rfl rfl rfl rfl (by omega) (by omega) ?_
      refine WP_n 2 rfl ?_
      refine WP2_callS 3 ok_M_F_exchange rfl rfl rfl rfl rfl rfl rfl (Nat.le_of_ble_eq_true rfl) (Nat.le_of_ble_eq_true rfl) ?_
      refine sp_exchange (j := 5) (ia_tm (by omega)) (by omega) rfl (by omega) (by omega) ?_
      refine WP_n 1 rfl ?_
      refine WP_icmpne rfl rfl ⟨by omega, by omega⟩ ⟨by omega, by omega⟩ (fun h23 => ?_) (fun h23 => ?_)
      · refine WP_n 1 rfl ?_
        refine WP_iret rfl rfl rfl ⟨_, rfl, ?_⟩
        rw [if_neg (by omega)] at ok
        exact ok
      · refine WP_n 2 rfl ?_
        refine WP_iret rfl rfl rfl ⟨_, rfl, ?_⟩
        rw [if_pos (by omega)] at ok
        exact ok
    · obtain rfl : b = 1 := by omega
      refine WP_n 4 rfl ?_
      refine WP2_getf rfl rfl rfl rfl rfl ?_
      refine WP2_getf rfl rfl rfl rfl rfl ?_
      refine WP_n 1 rfl ?_
      refine WP2_aald (b := 20) (j := T) (n := 16) rfl rfl rfl rfl rfl (by omega) (by omega) ?_
      refine WP_n 2 rfl ?_
      refine WP2_callS 3 ok_M_F_exchange rfl rfl rfl rfl rfl rfl rfl (Nat.le_of_ble_eq_true rfl) (Nat.le_of_ble_eq_true rfl) ?_
      refine sp_exchange (j := 5) (ia_tm (by omega)) (by omega) rfl (by omega) (by omega) ?_
      refine WP_n 1 rfl ?_
      refine WP_icmpne rfl rfl ⟨by omega, by omega⟩ ⟨by omega, by omega⟩ (fun h23 => ?_) (fun h23 => ?_)
      · refine WP_n 1 rfl ?_
        refine WP_iret rfl rfl rfl ⟨_, rfl, ?_⟩
        rw [if_neg (by omega)] at ok
        exact ok
      · refine WP_n 2 rfl ?_
        refine WP_iret rfl rfl rfl ⟨_, rfl, ?_⟩
        rw [if_pos (by omega)] at ok
        exact ok
theorem sp_G_fix {P : PP} {d n : Nat} {FI A L : Nat → Nat → Int} {X : SX} {Q : Option AV → S2 → Prop} {t b : Int} (ht : inR t) (hb : b = 0 ∨ b = 1) (hI : mI n FI A) (r1 : ((t < 0 ∨ FI 165 0 ≤ t)) → Q (some (vi (-1))) (FI, rfG A 1, L, X)) (ok : ∀ T : Nat, (t = (T : Int) ∧ (T : Int) < FI 165 0 ∧ (b = 0 ∨ b = 1)) → Q (some (vi (if A 178 T = b then 0 else 1))) (FI, (if A 178 T = b then A else up2 A 178 T b), L, X)) : WP2 P M_G_fix (d + 2) 0 [some (vr 165), some (vi t), some (vi b)] [] (FI, A, L, X) Q := by
  obtain ⟨lt, ut⟩ := id ht
  have hcc := hI.2.1
  refine WP_n 2 rfl ?_
  refine WP2_callV 1 ok_M_G_isTeam rfl rfl rfl rfl rfl rfl (Nat.le_of_ble_eq_true rfl) (Nat.le_of_ble_eq_true rfl) rfl rfl ?_
  refine sp_isTeam ht ⟨by omega, by omega⟩ (fun hTt => ?_) (fun hTt hTtb => ?_)
  · refine WP_ifne rfl rfl ⟨by decide, by decide⟩  (fun h3 => absurd h3 (by decide)) (fun h3 => ?_)
    refine WP_n 2 rfl ?_
    refine WP2_callV 1 ok_M_G_no rfl rfl rfl rfl rfl rfl (Nat.le_of_ble_eq_true rfl) (Nat.le_of_ble_eq_true rfl) rfl rfl ?_
    refine sp_no (k := 1) rfl (by omega) ?_
    exact WP_iret rfl rfl rfl ⟨_, rfl, r1 (by omega)⟩
  · refine WP_ifne rfl rfl ⟨by decide, by decide⟩  (fun h3 => ?_) (fun h3 => absurd (by decide) h3)
    obtain ⟨T, rfl⟩ : ∃ T : Nat, t = (T : Int) := ⟨t.toNat, by omega⟩
    have hq := hI.2.2.2.2.1 T (by omega)
    unfold mTm at hq
    have ok := ok T (by omega)
    refine WP_n 1 rfl ?_
    refine WP2_getf rfl rfl rfl rfl rfl ?_
    refine WP_n 1 rfl ?_
    refine WP2_zald (j := T) rfl rfl rfl (by omega) (by omega) ?_
    refine WP_n 1 rfl ?_
    refine WP_icmpne rfl rfl ⟨by omega, by omega⟩ ⟨by omega, by omega⟩ (fun h13 => ?_) (fun h13 => ?_)
    · refine WP_n 1 rfl ?_
      refine WP2_getf rfl rfl rfl rfl rfl ?_
      refine WP_n 2 rfl ?_
      refine WP2_zast (j := T) rfl rfl (by omega) (by omega) (by omega) ?_
      refine WP_n 1 rfl ?_
      refine WP_iret rfl rfl rfl ⟨_, rfl, ?_⟩
      rw [if_neg (by omega), if_neg (by omega)] at ok
      exact ok
    · refine WP_n 1 rfl ?_
      refine WP_iret rfl rfl rfl ⟨_, rfl, ?_⟩
      rw [if_pos (by omega), if_pos (by omega)] at ok
      exact ok
theorem pr_fix {P : PP} {n : Nat} {FI A L : Nat → Nat → Int} {X : SX} (h : INV P n FI A X) (hn : n < 512) {t b : Int} (ht : inR t) (hb : b = 0 ∨ b = 1) : PAIR P n (FI, A, L, X) M_F_fix [some (vr 5), some (vi t), some (vi b), none] M_G_fix [some (vr 165), some (vi t), some (vi b)] := by
  intro d
  have hm := h.mI
  have hn5 := h.1
  have hcI := h.2.1
  have hk1 := hcI.1
  have g1 := h.2.2.1.1
  obtain ⟨lt, ut⟩ := id ht
  refine sp_F_fix ht hb hcI hn5 (fun c1 => ?_) (fun T c1 => ?_)
  · refine ⟨_, rfl, ?_⟩
    refine sp_G_fix ht hb (hm.up (by omega)) (fun c2 => ?_) (fun T' c2 => ?_)
    · exact ⟨rfl, INV_ref h hn (by omega)⟩
    · exfalso; omega
  · refine ⟨_, rfl, ?_⟩
    refine sp_G_fix ht hb (hm.up (by omega)) (fun c2 => ?_) (fun T' c2 => ?_)
    · exfalso; omega
    · obtain rfl : T = T' := by omega
      have gf : A 178 T = A (20 + T) 5 := (h.2.2.1.2.2.2.1 T (by omega)).2.2.2
      rw [up2_ne (by omega), gf]
      refine ⟨rfl, ?_⟩
      have hI := INV_fix h hn (T := T) (v := b) (by omega) (by omega) (by omega)
      by_cases e : A (20 + T) 5 = b
      · rw [if_pos e]
        have e2 : up2 (up2 A (20 + T) 5 b) 178 T b = up2 A (20 + T) 5 b := by
          funext a j
          by_cases q : a = 178 ∧ j = T
          · obtain ⟨rfl, rfl⟩ := q
            rw [up2_same, up2_ne (by omega), gf, e]
          · exact up2_ne (by omega)
        rw [e2] at hI
        exact hI
      · rw [if_neg e]
        exact hI
theorem sp_F_team {P : PP} {d n : Nat} {FI A L : Nat → Nat → Int} {X : SX} {Q : Option AV → S2 → Prop} {s9 e9 l9 b9 : Int} (hs9 : inR s9) (he9 : inR e9) (hl9 : inR l9) (hb9 : inR b9) (hI : cI n FI A) (hn5 : n ≤ 512) (r4 : (s9 < 1 ∨ e9 < 0 ∨ l9 < 0 ∨ b9 < 0) → Q (some (vi (-4))) (FI, rfC A 4, L, X)) (r6 : (¬ (s9 < 1 ∨ e9 < 0 ∨ l9 < 0 ∨ b9 < 0) ∧ (60 < s9 ∨ 7 < e9 ∨ 9 < l9 ∨ 9 < b9 ∨ FI 6 8 = 16)) → Q (some (vi (-6))) (FI, rfC A 6, L, X)) (ok : ∀ T : Nat, (1 ≤ s9 ∧ s9 ≤ 60 ∧ 0 ≤ e9 ∧ e9 ≤ 7 ∧ 0 ≤ l9 ∧ l9 ≤ 9 ∧ 0 ≤ b9 ∧ b9 ≤ 9 ∧ FI 6 8 = (T : Int) ∧ T < 16) → Q (some (vi ((T : Int)))) (up2 FI 6 8 ((T : Int) + 1), up2 (up2 (up2 (up2 A (20 + T) 0 s9) (20 + T) 1 e9) (20 + T) 2 l9) (20 + T) 3 b9, L, X)) : WP2 P M_F_team (d + 2) 0 [some (vr 5), some (vi s9), some (vi e9), some (vi l9), some (vi b9), none, none] [] (FI, A, L, X) Q := by
  obtain ⟨ls9, us9⟩ := id hs9
  obtain ⟨le9, ue9⟩ := id he9
  obtain ⟨ll9, ul9⟩ := id hl9
  obtain ⟨lb9, ub9⟩ := id hb9
  have hcc := hI.1
  refine WP_n 2 rfl ?_
  refine WP_icmplt rfl rfl ⟨by omega, by omega⟩ ⟨by omega, by omega⟩ (fun h2 => ?_) (fun h2 => ?_)
  · refine WP_n 2 rfl ?_
    refine WP2_callV 1 ok_M_F_refuse rfl rfl rfl rfl rfl rfl (Nat.le_of_ble_eq_true rfl) (Nat.le_of_ble_eq_true rfl) rfl rfl ?_
    refine sp_refuse (k := 4) rfl (by omega) ?_
    exact WP_iret rfl rfl rfl ⟨_, rfl, r4 (by omega)⟩
  · refine WP_n 1 rfl ?_
    refine WP_iflt rfl rfl ⟨by omega, by omega⟩ (fun h4 => ?_) (fun h4 => ?_)
    · refine WP_n 2 rfl ?_
      refine WP2_callV 1 ok_M_F_refuse rfl rfl rfl rfl rfl rfl (Nat.le_of_ble_eq_true rfl) (Nat.le_of_ble_eq_true rfl) rfl rfl ?_
      refine sp_refuse (k := 4) rfl (by omega) ?_
      exact WP_iret rfl rfl rfl ⟨_, rfl, r4 (by omega)⟩
    · refine WP_n 1 rfl ?_
      refine WP_iflt rfl rfl ⟨by omega, by omega⟩ (fun h6 => ?_) (fun h6 => ?_)
      · refine WP_n 2 rfl ?_
        refine WP2_callV 1 ok_M_F_refuse rfl rfl rfl rfl rfl rfl (Nat.le_of_ble_eq_true rfl) (Nat.le_of_ble_eq_true rfl) rfl rfl ?_
        refine sp_refuse (k := 4) rfl (by omega) ?_
        exact WP_iret rfl rfl rfl ⟨_, rfl, r4 (by omega)⟩
      · refine WP_n 1 rfl ?_
        refine WP_ifge rfl rfl ⟨by omega, by omega⟩ (fun h8 => ?_) (fun h8 => ?_)
        · refine WP_n 2 rfl ?_
          refine WP_icmpgt rfl rfl ⟨by omega, by omega⟩ ⟨by omega, by omega⟩ (fun h15 => ?_) (fun h15 => ?_)
          · refine WP_n 2 rfl ?_
            refine WP2_callV 1 ok_M_F_refuse rfl rfl rfl rfl rfl rfl (Nat.le_of_ble_eq_true rfl) (Nat.le_of_ble_eq_true rfl) rfl rfl ?_
            refine sp_refuse (k := 6) rfl (by omega) ?_
            exact WP_iret rfl rfl rfl ⟨_, rfl, r6 (by omega)⟩
          · refine WP_n 2 rfl ?_
            refine WP_icmpgt rfl rfl ⟨by omega, by omega⟩ ⟨by omega, by omega⟩ (fun h18 => ?_) (fun h18 => ?_)
            · refine WP_n 2 rfl ?_
              refine WP2_callV 1 ok_M_F_refuse rfl rfl rfl rfl rfl rfl (Nat.le_of_ble_eq_true rfl) (Nat.le_of_ble_eq_true rfl) rfl rfl ?_
              refine sp_refuse (k := 6) rfl (by omega) ?_
              exact WP_iret rfl rfl rfl ⟨_, rfl, r6 (by omega)⟩
            · refine WP_n 2 rfl ?_
              refine WP_icmpgt rfl rfl ⟨by omega, by omega⟩ ⟨by omega, by omega⟩ (fun h21 => ?_) (fun h21 => ?_)
              · refine WP_n 2 rfl ?_
                refine WP2_callV 1 ok_M_F_refuse rfl rfl rfl rfl rfl rfl (Nat.le_of_ble_eq_true rfl) (Nat.le_of_ble_eq_true rfl) rfl rfl ?_
                refine sp_refuse (k := 6) rfl (by omega) ?_
                exact WP_iret rfl rfl rfl ⟨_, rfl, r6 (by omega)⟩
              · refine WP_n 2 rfl ?_
                refine WP_icmple rfl rfl ⟨by omega, by omega⟩ ⟨by omega, by omega⟩ (fun h24 => ?_) (fun h24 => ?_)
                · refine WP_n 1 rfl ?_
                  refine WP2_getf rfl rfl rfl rfl rfl ?_
                  refine WP2_getf rfl rfl rfl rfl rfl ?_
                  refine WP_n 1 rfl ?_
                  refine WP_icmplt rfl rfl ⟨by omega, by omega⟩ ⟨by omega, by omega⟩ (fun h33 => ?_) (fun h33 => ?_)
                  · obtain ⟨T, hT⟩ : ∃ T : Nat, FI 6 8 = (T : Int) := ⟨(FI 6 8).toNat, by omega⟩
                    refine WP_n 1 rfl ?_
                    refine WP2_getf rfl rfl rfl rfl rfl ?_
                    refine WP2_getf rfl rfl rfl rfl rfl ?_
                    rw [hT]
                    refine WP_n 2 rfl ?_
                    refine WP2_getf rfl rfl rfl rfl rfl ?_
                    refine WP_n 1 rfl ?_
                    refine WP2_getf rfl rfl rfl rfl rfl ?_
                    rw [hT]
                    refine WP_n 2 rfl ?_
                    refine WP2_putk (k := 8) rfl rfl rfl rfl rfl rfl (by exact trivial) ?_
                    refine WP_n 1 rfl ?_
                    refine WP2_getf rfl rfl rfl rfl rfl ?_
                    refine WP2_getf rfl rfl rfl rfl rfl ?_
                    refine WP_n 1 rfl ?_
                    refine WP2_aald (b := 20) (j := T) (n := 16) rfl rfl rfl rfl rfl (by omega) (by omega) ?_
                    refine WP_n 4 rfl ?_
                    refine WP2_iast (j := 0) rfl rfl (ia_tm (by omega)) (by omega) (by omega) (by omega) ?_
                    refine WP_n 3 rfl ?_
                    refine WP2_iast (j := 1) rfl rfl (ia_tm (by omega)) (by omega) (by omega) (by omega) ?_
                    refine WP_n 3 rfl ?_
                    refine WP2_iast (j := 2) rfl rfl (ia_tm (by omega)) (by omega) (by omega) (by omega) ?_
                    refine WP_n 3 rfl ?_
                    refine WP2_iast (j := 3) rfl rfl (ia_tm (by omega)) (by omega) (by omega) (by omega) ?_
                    refine WP_n 1 rfl ?_
                    exact WP_iret rfl rfl rfl ⟨_, rfl, ok T (by omega)⟩
                  · refine WP_n 2 rfl ?_
                    refine WP2_callV 1 ok_M_F_refuse rfl rfl rfl rfl rfl rfl (Nat.le_of_ble_eq_true rfl) (Nat.le_of_ble_eq_true rfl) rfl rfl ?_
                    refine sp_refuse (k := 6) rfl (by omega) ?_
                    exact WP_iret rfl rfl rfl ⟨_, rfl, r6 (by omega)⟩
                · refine WP_n 2 rfl ?_
                  refine WP2_callV 1 ok_M_F_refuse rfl rfl rfl rfl rfl rfl (Nat.le_of_ble_eq_true rfl) (Nat.le_of_ble_eq_true rfl) rfl rfl ?_
                  refine sp_refuse (k := 6) rfl (by omega) ?_
                  exact WP_iret rfl rfl rfl ⟨_, rfl, r6 (by omega)⟩
        · refine WP_n 2 rfl ?_
          refine WP2_callV 1 ok_M_F_refuse rfl rfl rfl rfl rfl rfl (Nat.le_of_ble_eq_true rfl) (Nat.le_of_ble_eq_true rfl) rfl rfl ?_
          refine sp_refuse (k := 4) rfl (by omega) ?_
          exact WP_iret rfl rfl rfl ⟨_, rfl, r4 (by omega)⟩
theorem sp_G_team {P : PP} {d n : Nat} {FI A L : Nat → Nat → Int} {X : SX} {Q : Option AV → S2 → Prop} {s9 e9 l9 b9 : Int} (hs9 : inR s9) (he9 : inR e9) (hl9 : inR l9) (hb9 : inR b9) (hI : mI n FI A) (r4 : (s9 < 1 ∨ e9 < 0 ∨ l9 < 0 ∨ b9 < 0) → Q (some (vi (-4))) (FI, rfG A 4, L, X)) (r6 : (¬ (s9 < 1 ∨ e9 < 0 ∨ l9 < 0 ∨ b9 < 0) ∧ (60 < s9 ∨ 7 < e9 ∨ 9 < l9 ∨ 9 < b9 ∨ FI 165 0 = 16)) → Q (some (vi (-6))) (FI, rfG A 6, L, X)) (ok : ∀ T : Nat, (1 ≤ s9 ∧ s9 ≤ 60 ∧ 0 ≤ e9 ∧ e9 ≤ 7 ∧ 0 ≤ l9 ∧ l9 ≤ 9 ∧ 0 ≤ b9 ∧ b9 ≤ 9 ∧ FI 165 0 = (T : Int) ∧ T < 16) → Q (some (vi ((T : Int)))) (up2 FI 165 0 ((T : Int) + 1), up2 (up2 (up2 (up2 (up2 (up2 A 170 T s9) 171 T e9) 172 T l9) 173 T b9) 174 T (-9)) 175 T (-9), L, X)) : WP2 P M_G_team (d + 2) 0 [some (vr 165), some (vi s9), some (vi e9), some (vi l9), some (vi b9)] [] (FI, A, L, X) Q := by
  obtain ⟨ls9, us9⟩ := id hs9
  obtain ⟨le9, ue9⟩ := id he9
  obtain ⟨ll9, ul9⟩ := id hl9
  obtain ⟨lb9, ub9⟩ := id hb9
  have hcc := hI.2.1
  refine WP_n 2 rfl ?_
  refine WP_icmplt rfl rfl ⟨by omega, by omega⟩ ⟨by omega, by omega⟩ (fun h2 => ?_) (fun h2 => ?_)
  · refine WP_n 2 rfl ?_
    refine WP2_callV 1 ok_M_G_no rfl rfl rfl rfl rfl rfl (Nat.le_of_ble_eq_true rfl) (Nat.le_of_ble_eq_true rfl) rfl rfl ?_
    refine sp_no (k := 4) rfl (by omega) ?_
    exact WP_iret rfl rfl rfl ⟨_, rfl, r4 (by omega)⟩
  · refine WP_n 1 rfl ?_
    refine WP_iflt rfl rfl ⟨by omega, by omega⟩ (fun h4 => ?_) (fun h4 => ?_)
    · refine WP_n 2 rfl ?_
      refine WP2_callV 1 ok_M_G_no rfl rfl rfl rfl rfl rfl (Nat.le_of_ble_eq_true rfl) (Nat.le_of_ble_eq_true rfl) rfl rfl ?_
      refine sp_no (k := 4) rfl (by omega) ?_
      exact WP_iret rfl rfl rfl ⟨_, rfl, r4 (by omega)⟩
    · refine WP_n 1 rfl ?_
      refine WP_iflt rfl rfl ⟨by omega, by omega⟩ (fun h6 => ?_) (fun h6 => ?_)
      · refine WP_n 2 rfl ?_
        refine WP2_callV 1 ok_M_G_no rfl rfl rfl rfl rfl rfl (Nat.le_of_ble_eq_true rfl) (Nat.le_of_ble_eq_true rfl) rfl rfl ?_
        refine sp_no (k := 4) rfl (by omega) ?_
        exact WP_iret rfl rfl rfl ⟨_, rfl, r4 (by omega)⟩
      · refine WP_n 1 rfl ?_
        refine WP_ifge rfl rfl ⟨by omega, by omega⟩ (fun h8 => ?_) (fun h8 => ?_)
        · refine WP_n 2 rfl ?_
          refine WP_icmpgt rfl rfl ⟨by omega, by omega⟩ ⟨by omega, by omega⟩ (fun h15 => ?_) (fun h15 => ?_)
          · refine WP_n 2 rfl ?_
            refine WP2_callV 1 ok_M_G_no rfl rfl rfl rfl rfl rfl (Nat.le_of_ble_eq_true rfl) (Nat.le_of_ble_eq_true rfl) rfl rfl ?_
            refine sp_no (k := 6) rfl (by omega) ?_
            exact WP_iret rfl rfl rfl ⟨_, rfl, r6 (by omega)⟩
          · refine WP_n 2 rfl ?_
            refine WP_icmpgt rfl rfl ⟨by omega, by omega⟩ ⟨by omega, by omega⟩ (fun h18 => ?_) (fun h18 => ?_)
            · refine WP_n 2 rfl ?_
              refine WP2_callV 1 ok_M_G_no rfl rfl rfl rfl rfl rfl (Nat.le_of_ble_eq_true rfl) (Nat.le_of_ble_eq_true rfl) rfl rfl ?_
              refine sp_no (k := 6) rfl (by omega) ?_
              exact WP_iret rfl rfl rfl ⟨_, rfl, r6 (by omega)⟩
            · refine WP_n 2 rfl ?_
              refine WP_icmpgt rfl rfl ⟨by omega, by omega⟩ ⟨by omega, by omega⟩ (fun h21 => ?_) (fun h21 => ?_)
              · refine WP_n 2 rfl ?_
                refine WP2_callV 1 ok_M_G_no rfl rfl rfl rfl rfl rfl (Nat.le_of_ble_eq_true rfl) (Nat.le_of_ble_eq_true rfl) rfl rfl ?_
                refine sp_no (k := 6) rfl (by omega) ?_
                exact WP_iret rfl rfl rfl ⟨_, rfl, r6 (by omega)⟩
              · refine WP_n 2 rfl ?_
                refine WP_icmpgt rfl rfl ⟨by omega, by omega⟩ ⟨by omega, by omega⟩ (fun h24 => ?_) (fun h24 => ?_)
                · refine WP_n 2 rfl ?_
                  refine WP2_callV 1 ok_M_G_no rfl rfl rfl rfl rfl rfl (Nat.le_of_ble_eq_true rfl) (Nat.le_of_ble_eq_true rfl) rfl rfl ?_
                  refine sp_no (k := 6) rfl (by omega) ?_
                  exact WP_iret rfl rfl rfl ⟨_, rfl, r6 (by omega)⟩
                · refine WP_n 1 rfl ?_
                  refine WP2_getf rfl rfl rfl rfl rfl ?_
                  refine WP_n 1 rfl ?_
                  refine WP_icmpne rfl rfl ⟨by omega, by omega⟩ ⟨by omega, by omega⟩ (fun h28 => ?_) (fun h28 => ?_)
                  · obtain ⟨T, hT⟩ : ∃ T : Nat, FI 165 0 = (T : Int) := ⟨(FI 165 0).toNat, by omega⟩
                    refine WP_n 1 rfl ?_
                    refine WP2_getf rfl rfl rfl rfl rfl ?_
                    refine WP_n 1 rfl ?_
                    refine WP2_getf rfl rfl rfl rfl rfl ?_
                    rw [hT]
                    refine WP_n 1 rfl ?_
                    refine WP2_iast (j := T) rfl rfl (ia_lit (n := 16) rfl rfl (by omega)) (by omega) (by omega) (by omega) ?_
                    refine WP_n 1 rfl ?_
                    refine WP2_getf rfl rfl rfl rfl rfl ?_
                    refine WP_n 1 rfl ?_
                    refine WP2_getf rfl rfl rfl rfl rfl ?_
                    rw [hT]
                    refine WP_n 1 rfl ?_
                    refine WP2_iast (j := T) rfl rfl (ia_lit (n := 16) rfl rfl (by omega)) (by omega) (by omega) (by omega) ?_
                    refine WP_n 1 rfl ?_
                    refine WP2_getf rfl rfl rfl rfl rfl ?_
                    refine WP_n 1 rfl ?_
                    refine WP2_getf rfl rfl rfl rfl rfl ?_
                    rw [hT]
                    refine WP_n 1 rfl ?_
                    refine WP2_iast (j := T) rfl rfl (ia_lit (n := 16) rfl rfl (by omega)) (by omega) (by omega) (by omega) ?_
                    refine WP_n 1 rfl ?_
                    refine WP2_getf rfl rfl rfl rfl rfl ?_
                    refine WP_n 1 rfl ?_
                    refine WP2_getf rfl rfl rfl rfl rfl ?_
                    rw [hT]
                    refine WP_n 1 rfl ?_
                    refine WP2_iast (j := T) rfl rfl (ia_lit (n := 16) rfl rfl (by omega)) (by omega) (by omega) (by omega) ?_
                    refine WP_n 1 rfl ?_
                    refine WP2_getf rfl rfl rfl rfl rfl ?_
                    refine WP_n 1 rfl ?_
                    refine WP2_getf rfl rfl rfl rfl rfl ?_
                    rw [hT]
                    refine WP_n 1 rfl ?_
                    refine WP2_iast (j := T) rfl rfl (ia_lit (n := 16) rfl rfl (by omega)) (by omega) (by omega) (by omega) ?_
                    refine WP_n 1 rfl ?_
                    refine WP2_getf rfl rfl rfl rfl rfl ?_
                    refine WP_n 1 rfl ?_
                    refine WP2_getf rfl rfl rfl rfl rfl ?_
                    rw [hT]
                    refine WP_n 1 rfl ?_
                    refine WP2_iast (j := T) rfl rfl (ia_lit (n := 16) rfl rfl (by omega)) (by omega) (by omega) (by omega) ?_
                    refine WP_n 2 rfl ?_
                    refine WP2_getf rfl rfl rfl rfl rfl ?_
                    rw [hT]
                    refine WP_n 3 rfl ?_
                    refine WP2_putk (k := 0) rfl rfl rfl rfl rfl rfl (by exact trivial) ?_
                    exact WP_iret rfl rfl rfl ⟨_, rfl, ok T (by omega)⟩
                  · refine WP_n 2 rfl ?_
                    refine WP2_callV 1 ok_M_G_no rfl rfl rfl rfl rfl rfl (Nat.le_of_ble_eq_true rfl) (Nat.le_of_ble_eq_true rfl) rfl rfl ?_
                    refine sp_no (k := 6) rfl (by omega) ?_
                    exact WP_iret rfl rfl rfl ⟨_, rfl, r6 (by omega)⟩
        · refine WP_n 2 rfl ?_
          refine WP2_callV 1 ok_M_G_no rfl rfl rfl rfl rfl rfl (Nat.le_of_ble_eq_true rfl) (Nat.le_of_ble_eq_true rfl) rfl rfl ?_
          refine sp_no (k := 4) rfl (by omega) ?_
          exact WP_iret rfl rfl rfl ⟨_, rfl, r4 (by omega)⟩
theorem pr_team {P : PP} {n : Nat} {FI A L : Nat → Nat → Int} {X : SX} (h : INV P n FI A X) (hn : n < 512) {s9 e9 l9 b9 : Int} (hs9 : inR s9) (he9 : inR e9) (hl9 : inR l9) (hb9 : inR b9) : PAIR P n (FI, A, L, X) M_F_team [some (vr 5), some (vi s9), some (vi e9), some (vi l9), some (vi b9), none, none] M_G_team [some (vr 165), some (vi s9), some (vi e9), some (vi l9), some (vi b9)] := by
  intro d
  have hm := h.mI
  have hn5 := h.1
  have hcI := h.2.1
  have hk1 := hcI.1
  have g1 := h.2.2.1.1
  obtain ⟨ls9, us9⟩ := id hs9
  obtain ⟨le9, ue9⟩ := id he9
  obtain ⟨ll9, ul9⟩ := id hl9
  obtain ⟨lb9, ub9⟩ := id hb9
  refine sp_F_team hs9 he9 hl9 hb9 hcI hn5 (fun c1 => ?_) (fun c1 => ?_) (fun T c1 => ?_)
  · refine ⟨_, rfl, ?_⟩
    refine sp_G_team hs9 he9 hl9 hb9 (hm.up (by omega)) (fun c2 => ?_) (fun c2 => ?_) (fun T' c2 => ?_)
    · exact ⟨rfl, INV_ref h hn (by omega)⟩
    · exfalso; omega
    · exfalso; omega
  · refine ⟨_, rfl, ?_⟩
    refine sp_G_team hs9 he9 hl9 hb9 (hm.up (by omega)) (fun c2 => ?_) (fun c2 => ?_) (fun T' c2 => ?_)
    · exfalso; omega
    · exact ⟨rfl, INV_ref h hn (by omega)⟩
    · exfalso; omega
  · refine ⟨_, rfl, ?_⟩
    have eF : up2 FI 6 8 ((T : Int) + 1) 165 0 = FI 165 0 := up2_ne (by omega)
    refine sp_G_team hs9 he9 hl9 hb9 ((((((hm.upF (by omega)).up (by omega)).up (by omega)).up (by omega)).up (by omega))) (fun c2 => ?_) (fun c2 => ?_) (fun T' c2 => ?_)
    · exfalso; omega
    · exfalso; omega
    · obtain rfl : T = T' := by omega
      exact ⟨rfl, INV_team h hn (by omega) (by omega) (by omega) (by omega) (by omega) (by omega)⟩
theorem sp_F_person {P : PP} {d n : Nat} {FI A L : Nat → Nat → Int} {X : SX} {Q : Option AV → S2 → Prop} {t o s9 : Int} (ht : inR t) (ho : inR o) (hs9 : inR s9) (hI : cI n FI A) (hn5 : n ≤ 512) (r1 : ((t < 0 ∨ FI 6 8 ≤ t)) → Q (some (vi (-1))) (FI, rfC A 1, L, X)) (r4 : (0 ≤ t ∧ t < FI 6 8 ∧ (o < 0 ∨ s9 < 0)) → Q (some (vi (-4))) (FI, rfC A 4, L, X)) (r6 : (∃ T : Nat, t = (T : Int) ∧ (T : Int) < FI 6 8 ∧ 0 ≤ o ∧ 0 ≤ s9 ∧ (31 < o ∨ 64 < s9 ∨ A (20 + T) 7 = 20)) → Q (some (vi (-6))) (FI, rfC A 6, L, X)) (ok : ∀ T q9 : Nat, (t = (T : Int) ∧ (T : Int) < FI 6 8 ∧ 0 ≤ o ∧ o ≤ 31 ∧ 0 ≤ s9 ∧ s9 ≤ 64 ∧ q9 < 20 ∧ A (20 + T) 7 = (q9 : Int)) → Q (some (vi ((q9 : Int)))) (FI, up2 (up2 (up2 A (88 + T) q9 o) (105 + T) q9 s9) (20 + T) 7 ((q9 : Int) + 1), L, X)) : WP2 P M_F_person (d + 2) 0 [some (vr 5), some (vi t), some (vi o), some (vi s9), none] [] (FI, A, L, X) Q := by
  obtain ⟨lt, ut⟩ := id ht
  obtain ⟨lo, uo⟩ := id ho
  obtain ⟨ls9, us9⟩ := id hs9
  have hcc := hI.1
  refine WP_n 2 rfl ?_
  refine WP2_callV 1 ok_M_F_noTeam rfl rfl rfl rfl rfl rfl (Nat.le_of_ble_eq_true rfl) (Nat.le_of_ble_eq_true rfl) rfl rfl ?_
  refine sp_noTeam ht ⟨by omega, by omega⟩ (fun hTt => ?_) (fun hTt hTtb => ?_)
  · refine WP_ifeq rfl rfl ⟨by decide, by decide⟩  (fun h3 => absurd h3 (by decide)) (fun h3 => ?_)
    refine WP_n 2 rfl ?_
    refine WP2_callV 1 ok_M_F_refuse rfl rfl rfl rfl rfl rfl (Nat.le_of_ble_eq_true rfl) (Nat.le_of_ble_eq_true rfl) rfl rfl ?_
    refine sp_refuse (k := 1) rfl (by omega) ?_
    exact WP_iret rfl rfl rfl ⟨_, rfl, r1 (by omega)⟩
  · refine WP_ifeq rfl rfl ⟨by decide, by decide⟩  (fun h3 => ?_) (fun h3 => absurd (by decide) h3)
    refine WP_n 1 rfl ?_
    refine WP_iflt rfl rfl ⟨by omega, by omega⟩ (fun h9 => ?_) (fun h9 => ?_)
    · refine WP_n 2 rfl ?_
      refine WP2_callV 1 ok_M_F_refuse rfl rfl rfl rfl rfl rfl (Nat.le_of_ble_eq_true rfl) (Nat.le_of_ble_eq_true rfl) rfl rfl ?_
      refine sp_refuse (k := 4) rfl (by omega) ?_
      exact WP_iret rfl rfl rfl ⟨_, rfl, r4 (by omega)⟩
    · refine WP_n 1 rfl ?_
      refine WP_ifge rfl rfl ⟨by omega, by omega⟩ (fun h11 => ?_) (fun h11 => ?_)
      · obtain ⟨T, rfl⟩ : ∃ T : Nat, t = (T : Int) := ⟨t.toNat, by omega⟩
        have hq := hI.2.2.2.1 T (by omega)
        unfold cTm at hq
        obtain ⟨q9, hq9⟩ : ∃ q : Nat, A (20 + T) 7 = (q : Int) := ⟨(A (20 + T) 7).toNat, by omega⟩
        refine WP_n 1 rfl ?_
        refine WP2_getf rfl rfl rfl rfl rfl ?_
        refine WP2_getf rfl rfl rfl rfl rfl ?_
        refine WP_n 1 rfl ?_
        refine WP2_aald (b := 20) (j := T) (n := 16) rfl rfl rfl rfl rfl (by omega) (by omega) ?_
        refine WP_n 1 rfl ?_
        refine WP2_iald (j := 7) rfl rfl (ia_tm (by omega)) (by omega) (by omega) (by omega) ?_
        rw [hq9]
        refine WP_n 3 rfl ?_
        refine WP_icmpgt rfl rfl ⟨by omega, by omega⟩ ⟨by omega, by omega⟩ (fun h26 => ?_) (fun h26 => ?_)
        · refine WP_n 2 rfl ?_
          refine WP2_callV 1 ok_M_F_refuse rfl rfl rfl rfl rfl rfl (Nat.le_of_ble_eq_true rfl) (Nat.le_of_ble_eq_true rfl) rfl rfl ?_
          refine sp_refuse (k := 6) rfl (by omega) ?_
          exact WP_iret rfl rfl rfl ⟨_, rfl, r6 ⟨T, by omega⟩⟩
        · refine WP_n 2 rfl ?_
          refine WP_icmpgt rfl rfl ⟨by omega, by omega⟩ ⟨by omega, by omega⟩ (fun h29 => ?_) (fun h29 => ?_)
          · refine WP_n 2 rfl ?_
            refine WP2_callV 1 ok_M_F_refuse rfl rfl rfl rfl rfl rfl (Nat.le_of_ble_eq_true rfl) (Nat.le_of_ble_eq_true rfl) rfl rfl ?_
            refine sp_refuse (k := 6) rfl (by omega) ?_
            exact WP_iret rfl rfl rfl ⟨_, rfl, r6 ⟨T, by omega⟩⟩
          · refine WP_n 2 rfl ?_
            refine WP_icmplt rfl rfl ⟨by omega, by omega⟩ ⟨by omega, by omega⟩ (fun h32 => ?_) (fun h32 => ?_)
            · refine WP_n 1 rfl ?_
              refine WP2_getf rfl rfl rfl rfl rfl ?_
              refine WP2_getf rfl rfl rfl rfl rfl ?_
              refine WP_n 1 rfl ?_
              refine WP2_aald (b := 88) (j := T) (n := 16) rfl rfl rfl rfl rfl (by omega) (by omega) ?_
              refine WP_n 2 rfl ?_
              refine WP2_iast (j := q9) rfl rfl (ia_hm (by omega)) (by omega) (by omega) (by omega) ?_
              refine WP_n 1 rfl ?_
              refine WP2_getf rfl rfl rfl rfl rfl ?_
              refine WP2_getf rfl rfl rfl rfl rfl ?_
              refine WP_n 1 rfl ?_
              refine WP2_aald (b := 105) (j := T) (n := 16) rfl rfl rfl rfl rfl (by omega) (by omega) ?_
              refine WP_n 2 rfl ?_
              refine WP2_iast (j := q9) rfl rfl (ia_su (by omega)) (by omega) (by omega) (by omega) ?_
              refine WP_n 1 rfl ?_
              refine WP2_getf rfl rfl rfl rfl rfl ?_
              refine WP2_getf rfl rfl rfl rfl rfl ?_
              refine WP_n 1 rfl ?_
              refine WP2_aald (b := 20) (j := T) (n := 16) rfl rfl rfl rfl rfl (by omega) (by omega) ?_
              refine WP_n 4 rfl ?_
              refine WP2_iast (j := 7) rfl rfl (ia_tm (by omega)) (by omega) (by omega) (by omega) ?_
              refine WP_n 1 rfl ?_
              exact WP_iret rfl rfl rfl ⟨_, rfl, ok T q9 (by omega)⟩
            · refine WP_n 2 rfl ?_
              refine WP2_callV 1 ok_M_F_refuse rfl rfl rfl rfl rfl rfl (Nat.le_of_ble_eq_true rfl) (Nat.le_of_ble_eq_true rfl) rfl rfl ?_
              refine sp_refuse (k := 6) rfl (by omega) ?_
              exact WP_iret rfl rfl rfl ⟨_, rfl, r6 ⟨T, by omega⟩⟩
      · refine WP_n 2 rfl ?_
        refine WP2_callV 1 ok_M_F_refuse rfl rfl rfl rfl rfl rfl (Nat.le_of_ble_eq_true rfl) (Nat.le_of_ble_eq_true rfl) rfl rfl ?_
        refine sp_refuse (k := 4) rfl (by omega) ?_
        exact WP_iret rfl rfl rfl ⟨_, rfl, r4 (by omega)⟩
theorem sp_G_person {P : PP} {d n : Nat} {FI A L : Nat → Nat → Int} {X : SX} {Q : Option AV → S2 → Prop} {t o s9 : Int} (ht : inR t) (ho : inR o) (hs9 : inR s9) (hI : mI n FI A) (r1 : ((t < 0 ∨ FI 165 0 ≤ t)) → Q (some (vi (-1))) (FI, rfG A 1, L, X)) (r4 : (0 ≤ t ∧ t < FI 165 0 ∧ (o < 0 ∨ s9 < 0)) → Q (some (vi (-4))) (FI, rfG A 4, L, X)) (r6 : (∃ T : Nat, t = (T : Int) ∧ (T : Int) < FI 165 0 ∧ 0 ≤ o ∧ 0 ≤ s9 ∧ (31 < o ∨ 64 < s9 ∨ A 176 T = 20)) → Q (some (vi (-6))) (FI, rfG A 6, L, X)) (ok : ∀ T q9 : Nat, (t = (T : Int) ∧ (T : Int) < FI 165 0 ∧ 0 ≤ o ∧ o ≤ 31 ∧ 0 ≤ s9 ∧ s9 ≤ 64 ∧ q9 < 20 ∧ A 176 T = (q9 : Int)) → Q (some (vi ((q9 : Int)))) (FI, up2 (up2 (up2 A 182 (20 * T + q9) o) 183 (20 * T + q9) s9) 176 T ((q9 : Int) + 1), L, X)) : WP2 P M_G_person (d + 2) 0 [some (vr 165), some (vi t), some (vi o), some (vi s9)] [] (FI, A, L, X) Q := by
  obtain ⟨lt, ut⟩ := id ht
  obtain ⟨lo, uo⟩ := id ho
  obtain ⟨ls9, us9⟩ := id hs9
  have hcc := hI.2.1
  refine WP_n 2 rfl ?_
  refine WP2_callV 1 ok_M_G_isTeam rfl rfl rfl rfl rfl rfl (Nat.le_of_ble_eq_true rfl) (Nat.le_of_ble_eq_true rfl) rfl rfl ?_
  refine sp_isTeam ht ⟨by omega, by omega⟩ (fun hTt => ?_) (fun hTt hTtb => ?_)
  · refine WP_ifne rfl rfl ⟨by decide, by decide⟩  (fun h3 => absurd h3 (by decide)) (fun h3 => ?_)
    refine WP_n 2 rfl ?_
    refine WP2_callV 1 ok_M_G_no rfl rfl rfl rfl rfl rfl (Nat.le_of_ble_eq_true rfl) (Nat.le_of_ble_eq_true rfl) rfl rfl ?_
    refine sp_no (k := 1) rfl (by omega) ?_
    exact WP_iret rfl rfl rfl ⟨_, rfl, r1 (by omega)⟩
  · refine WP_ifne rfl rfl ⟨by decide, by decide⟩  (fun h3 => ?_) (fun h3 => absurd (by decide) h3)
    refine WP_n 1 rfl ?_
    refine WP_iflt rfl rfl ⟨by omega, by omega⟩ (fun h9 => ?_) (fun h9 => ?_)
    · refine WP_n 2 rfl ?_
      refine WP2_callV 1 ok_M_G_no rfl rfl rfl rfl rfl rfl (Nat.le_of_ble_eq_true rfl) (Nat.le_of_ble_eq_true rfl) rfl rfl ?_
      refine sp_no (k := 4) rfl (by omega) ?_
      exact WP_iret rfl rfl rfl ⟨_, rfl, r4 (by omega)⟩
    · refine WP_n 1 rfl ?_
      refine WP_ifge rfl rfl ⟨by omega, by omega⟩ (fun h11 => ?_) (fun h11 => ?_)
      · obtain ⟨T, rfl⟩ : ∃ T : Nat, t = (T : Int) := ⟨t.toNat, by omega⟩
        have hq := hI.2.2.2.2.1 T (by omega)
        unfold mTm at hq
        obtain ⟨q9, hq9⟩ : ∃ q : Nat, A 176 T = (q : Int) := ⟨(A 176 T).toNat, by omega⟩
        refine WP_n 2 rfl ?_
        refine WP_icmpgt rfl rfl ⟨by omega, by omega⟩ ⟨by omega, by omega⟩ (fun h18 => ?_) (fun h18 => ?_)
        · refine WP_n 2 rfl ?_
          refine WP2_callV 1 ok_M_G_no rfl rfl rfl rfl rfl rfl (Nat.le_of_ble_eq_true rfl) (Nat.le_of_ble_eq_true rfl) rfl rfl ?_
          refine sp_no (k := 6) rfl (by omega) ?_
          exact WP_iret rfl rfl rfl ⟨_, rfl, r6 ⟨T, by omega⟩⟩
        · refine WP_n 2 rfl ?_
          refine WP_icmpgt rfl rfl ⟨by omega, by omega⟩ ⟨by omega, by omega⟩ (fun h21 => ?_) (fun h21 => ?_)
          · refine WP_n 2 rfl ?_
            refine WP2_callV 1 ok_M_G_no rfl rfl rfl rfl rfl rfl (Nat.le_of_ble_eq_true rfl) (Nat.le_of_ble_eq_true rfl) rfl rfl ?_
            refine sp_no (k := 6) rfl (by omega) ?_
            exact WP_iret rfl rfl rfl ⟨_, rfl, r6 ⟨T, by omega⟩⟩
          · refine WP_n 1 rfl ?_
            refine WP2_getf rfl rfl rfl rfl rfl ?_
            refine WP_n 1 rfl ?_
            refine WP2_iald (j := T) rfl rfl (ia_lit (n := 16) rfl rfl (by omega)) (by omega) (by omega) (by omega) ?_
            refine WP_n 1 rfl ?_
            refine WP_icmpne rfl rfl ⟨by omega, by omega⟩ ⟨by omega, by omega⟩ (fun h27 => ?_) (fun h27 => ?_)
            · refine WP_n 1 rfl ?_
              refine WP2_getf rfl rfl rfl rfl rfl ?_
              refine WP_n 4 rfl ?_
              refine WP2_getf rfl rfl rfl rfl rfl ?_
              refine WP_n 1 rfl ?_
              refine WP2_iald (j := T) rfl rfl (ia_lit (n := 16) rfl rfl (by omega)) (by omega) (by omega) (by omega) ?_
              rw [hq9]
              refine WP_n 2 rfl ?_
              refine WP2_iast (j := (20 * T + q9)) rfl rfl (ia_lit (n := 320) rfl rfl (by omega)) (by omega) (by omega) (by omega) ?_
              refine WP_n 1 rfl ?_
              refine WP2_getf rfl rfl rfl rfl rfl ?_
              refine WP_n 4 rfl ?_
              refine WP2_getf rfl rfl rfl rfl rfl ?_
              refine WP_n 1 rfl ?_
              refine WP2_iald (j := T) rfl rfl (ia_lit (n := 16) rfl rfl (by omega)) (by omega) (by omega) (by omega) ?_
              rw [up2_ne (by omega), hq9]
              refine WP_n 2 rfl ?_
              refine WP2_iast (j := (20 * T + q9)) rfl rfl (ia_lit (n := 320) rfl rfl (by omega)) (by omega) (by omega) (by omega) ?_
              refine WP_n 1 rfl ?_
              refine WP2_getf rfl rfl rfl rfl rfl ?_
              refine WP_n 2 rfl ?_
              refine WP2_iald (j := T) rfl rfl (ia_lit (n := 16) rfl rfl (by omega)) (by omega) (by omega) (by omega) ?_
              rw [up2_ne (by omega), up2_ne (by omega), hq9]
              refine WP_n 3 rfl ?_
              refine WP2_iast (j := T) rfl rfl (ia_lit (n := 16) rfl rfl (by omega)) (by omega) (by omega) (by omega) ?_
              exact WP_iret rfl rfl rfl ⟨_, rfl, ok T q9 (by omega)⟩
            · refine WP_n 2 rfl ?_
              refine WP2_callV 1 ok_M_G_no rfl rfl rfl rfl rfl rfl (Nat.le_of_ble_eq_true rfl) (Nat.le_of_ble_eq_true rfl) rfl rfl ?_
              refine sp_no (k := 6) rfl (by omega) ?_
              exact WP_iret rfl rfl rfl ⟨_, rfl, r6 ⟨T, by omega⟩⟩
      · refine WP_n 2 rfl ?_
        refine WP2_callV 1 ok_M_G_no rfl rfl rfl rfl rfl rfl (Nat.le_of_ble_eq_true rfl) (Nat.le_of_ble_eq_true rfl) rfl rfl ?_
        refine sp_no (k := 4) rfl (by omega) ?_
        exact WP_iret rfl rfl rfl ⟨_, rfl, r4 (by omega)⟩
theorem pr_person {P : PP} {n : Nat} {FI A L : Nat → Nat → Int} {X : SX} (h : INV P n FI A X) (hn : n < 512) {t o s9 : Int} (ht : inR t) (ho : inR o) (hs9 : inR s9) : PAIR P n (FI, A, L, X) M_F_person [some (vr 5), some (vi t), some (vi o), some (vi s9), none] M_G_person [some (vr 165), some (vi t), some (vi o), some (vi s9)] := by
  intro d
  have hm := h.mI
  have hn5 := h.1
  have hcI := h.2.1
  have hk1 := hcI.1
  have g1 := h.2.2.1.1
  have gp : ∀ T, T < 16 → A 176 T = A (20 + T) 7 := fun T hT => (h.2.2.1.2.2.2.1 T hT).2.1
  refine sp_F_person ht ho hs9 hcI hn5 (fun c1 => ?_) (fun c1 => ?_) (fun c1 => ?_) (fun T q9 c1 => ?_)
  · refine ⟨_, rfl, ?_⟩
    refine sp_G_person ht ho hs9 (hm.up (by omega)) (fun c2 => ?_) (fun c2 => ?_) (fun c2 => ?_) (fun T' q9' c2 => ?_)
    · exact ⟨rfl, INV_ref h hn (by omega)⟩
    · exfalso; omega
    · obtain ⟨T', c2⟩ := c2
      exfalso; omega
    · exfalso; omega
  · refine ⟨_, rfl, ?_⟩
    refine sp_G_person ht ho hs9 (hm.up (by omega)) (fun c2 => ?_) (fun c2 => ?_) (fun c2 => ?_) (fun T' q9' c2 => ?_)
    · exfalso; omega
    · exact ⟨rfl, INV_ref h hn (by omega)⟩
    · obtain ⟨T', c2⟩ := c2
      exfalso; omega
    · exfalso; omega
  · obtain ⟨T, c1⟩ := c1
    have e := gp T (by omega)
    refine ⟨_, rfl, ?_⟩
    refine sp_G_person ht ho hs9 (hm.up (by omega)) (fun c2 => ?_) (fun c2 => ?_) (fun c2 => ?_) (fun T' q9' c2 => ?_)
    · exfalso; omega
    · exfalso; omega
    · exact ⟨rfl, INV_ref h hn (by omega)⟩
    · obtain rfl : T = T' := by omega
      simp (disch := omega) only [up2_ne] at c2
      exfalso; omega
  · have e := gp T (by omega)
    have hq := hcI.2.2.2.1 T (by omega)
    unfold cTm at hq
    refine ⟨_, rfl, ?_⟩
    refine sp_G_person ht ho hs9 (((hm.up (by omega)).up (by omega)).up (by omega)) (fun c2 => ?_) (fun c2 => ?_) (fun c2 => ?_) (fun T' q9' c2 => ?_)
    · exfalso; omega
    · exfalso; omega
    · obtain ⟨T', c2⟩ := c2
      obtain rfl : T = T' := by omega
      simp (disch := omega) only [up2_ne] at c2
      exfalso; omega
    · obtain rfl : T = T' := by omega
      simp (disch := omega) only [up2_ne] at c2
      obtain rfl : q9 = q9' := by omega
      exact ⟨rfl, INV_person h hn (by omega) (by omega) (by omega) (by omega) (by omega) (by omega)⟩
def tbO (W : Nat) : Nat := cond (W == 0) 36 (cond (W == 1) 53 70)
theorem sp_tableOf {P : PP} {d : Nat} {S : S2} {Q : Option AV → S2 → Prop} {W : Nat} (hW : W < 3) (hq : Q (some (vr (tbO W))) S) : WP2 P M_H_tableOf d 0 [some (vr 6), some (vi (W : Int))] [] S Q := by
  obtain ⟨FI, A, L, X⟩ := S
  rcases (show W = 0 ∨ W = 1 ∨ W = 2 by omega) with rfl | rfl | rfl
  · refine WP_n 1 rfl ?_
    refine WP_ifne rfl rfl ⟨by decide, by decide⟩  (fun h1 => absurd h1 (by decide)) (fun h1 => ?_)
    refine WP_n 1 rfl ?_
    refine WP2_getf rfl rfl rfl rfl rfl ?_
    exact WP_aret rfl rfl rfl ⟨_, rfl, hq⟩
  · refine WP_n 1 rfl ?_
    refine WP_ifne rfl rfl ⟨by decide, by decide⟩  (fun h1 => ?_) (fun h1 => absurd (by decide) h1)
    refine WP_n 2 rfl ?_
    refine WP_icmpne rfl rfl ⟨by decide, by decide⟩ ⟨by decide, by decide⟩  (fun h7 => absurd h7 (by decide)) (fun h7 => ?_)
    refine WP_n 1 rfl ?_
    refine WP2_getf rfl rfl rfl rfl rfl ?_
    refine WP_n 1 rfl ?_
    exact WP_aret rfl rfl rfl ⟨_, rfl, hq⟩
  · refine WP_n 1 rfl ?_
    refine WP_ifne rfl rfl ⟨by decide, by decide⟩  (fun h1 => ?_) (fun h1 => absurd (by decide) h1)
    refine WP_n 2 rfl ?_
    refine WP_icmpne rfl rfl ⟨by decide, by decide⟩ ⟨by decide, by decide⟩  (fun h7 => ?_) (fun h7 => absurd (by decide) h7)
    refine WP_n 1 rfl ?_
    refine WP2_getf rfl rfl rfl rfl rfl ?_
    exact WP_aret rfl rfl rfl ⟨_, rfl, hq⟩
theorem sp_F_two {P : PP} {d n : Nat} {FI A L : Nat → Nat → Int} {X : SX} {Q : Option AV → S2 → Prop} {a b w v : Int} (ha : inR a) (hb : inR b) (hw : inR w) (hv : inR v) (hI : cI n FI A) (hn5 : n ≤ 512) (r1 : ((a < 0 ∨ FI 6 8 ≤ a) ∨ (b < 0 ∨ FI 6 8 ≤ b) ∨ a = b) → Q (some (vi (-1))) (FI, rfC A 1, L, X)) (r2 : (0 ≤ a ∧ a < FI 6 8 ∧ 0 ≤ b ∧ b < FI 6 8 ∧ a ≠ b ∧ (w < 0 ∨ 3 ≤ w)) → Q (some (vi (-2))) (FI, rfC A 2, L, X)) (r4 : (0 ≤ a ∧ a < FI 6 8 ∧ 0 ≤ b ∧ b < FI 6 8 ∧ a ≠ b ∧ 0 ≤ w ∧ w < 3 ∧ v < 0) → Q (some (vi (-4))) (FI, rfC A 4, L, X)) (r6 : ((0 ≤ a ∧ a < FI 6 8 ∧ 0 ≤ b ∧ b < FI 6 8 ∧ a ≠ b) ∧ ∃ W : Nat, w = (W : Int) ∧ W < 3 ∧ 0 ≤ v ∧ TMt W < v) → Q (some (vi (-6))) (FI, rfC A 6, L, X)) (ok : ∀ a9 b9 W : Nat, (a = (a9 : Int) ∧ b = (b9 : Int) ∧ (a9 : Int) < FI 6 8 ∧ (b9 : Int) < FI 6 8 ∧ a9 ≠ b9 ∧ w = (W : Int) ∧ W < 3 ∧ 0 ≤ v ∧ v ≤ TMt W) → Q (some (vi (up2 A (tbO W + 1 + a9) b9 v (tbO W + 1 + b9) a9))) (FI, up2 (up2 A (tbO W + 1 + a9) b9 v) (tbO W + 1 + b9) a9 v, L, X)) : WP2 P M_F_two (d + 2) 0 [some (vr 5), some (vi a), some (vi b), some (vi w), some (vi v), none] [] (FI, A, L, X) Q := by
  obtain ⟨la, ua⟩ := id ha
  obtain ⟨lb, ub⟩ := id hb
  obtain ⟨lw, uw⟩ := id hw
  obtain ⟨lv, uv⟩ := id hv
  have hcc := hI.1
  refine WP_n 2 rfl ?_
  refine WP2_callV 1 ok_M_F_noTeam rfl rfl rfl rfl rfl rfl (Nat.le_of_ble_eq_true rfl) (Nat.le_of_ble_eq_true rfl) rfl rfl ?_
  refine sp_noTeam ha ⟨by omega, by omega⟩ (fun hTa => ?_) (fun hTa hTab => ?_)
  · refine WP_ifne rfl rfl ⟨by decide, by decide⟩  (fun h3 => ?_) (fun h3 => absurd (by decide) h3)
    refine WP_n 2 rfl ?_
    refine WP2_callV 1 ok_M_F_refuse rfl rfl rfl rfl rfl rfl (Nat.le_of_ble_eq_true rfl) (Nat.le_of_ble_eq_true rfl) rfl rfl ?_
    refine sp_refuse (k := 1) rfl (by omega) ?_
    exact WP_iret rfl rfl rfl ⟨_, rfl, r1 (by omega)⟩
  · refine WP_ifne rfl rfl ⟨by decide, by decide⟩  (fun h3 => absurd h3 (by decide)) (fun h3 => ?_)
    refine WP_n 2 rfl ?_
    refine WP2_callV 1 ok_M_F_noTeam rfl rfl rfl rfl rfl rfl (Nat.le_of_ble_eq_true rfl) (Nat.le_of_ble_eq_true rfl) rfl rfl ?_
    refine sp_noTeam hb ⟨by omega, by omega⟩ (fun hTb => ?_) (fun hTb hTbb => ?_)
    · refine WP_ifne rfl rfl ⟨by decide, by decide⟩  (fun h7 => ?_) (fun h7 => absurd (by decide) h7)
      refine WP_n 2 rfl ?_
      refine WP2_callV 1 ok_M_F_refuse rfl rfl rfl rfl rfl rfl (Nat.le_of_ble_eq_true rfl) (Nat.le_of_ble_eq_true rfl) rfl rfl ?_
      refine sp_refuse (k := 1) rfl (by omega) ?_
      exact WP_iret rfl rfl rfl ⟨_, rfl, r1 (by omega)⟩
    · refine WP_ifne rfl rfl ⟨by decide, by decide⟩  (fun h7 => absurd h7 (by decide)) (fun h7 => ?_)
      refine WP_n 2 rfl ?_
      refine WP_icmpne rfl rfl ⟨by omega, by omega⟩ ⟨by omega, by omega⟩ (fun h10 => ?_) (fun h10 => ?_)
      · obtain ⟨a9, rfl⟩ : ∃ a9 : Nat, a = (a9 : Int) := ⟨a.toNat, by omega⟩
        obtain ⟨b9, rfl⟩ : ∃ b9 : Nat, b = (b9 : Int) := ⟨b.toNat, by omega⟩
        refine WP_n 1 rfl ?_
        refine WP_iflt rfl rfl ⟨by omega, by omega⟩ (fun h16 => ?_) (fun h16 => ?_)
        · refine WP_n 2 rfl ?_
          refine WP2_callV 1 ok_M_F_refuse rfl rfl rfl rfl rfl rfl (Nat.le_of_ble_eq_true rfl) (Nat.le_of_ble_eq_true rfl) rfl rfl ?_
          refine sp_refuse (k := 2) rfl (by omega) ?_
          exact WP_iret rfl rfl rfl ⟨_, rfl, r2 (by omega)⟩
        · refine WP_n 1 rfl ?_
          refine WP2_gets (x := 3) rfl rfl rfl ?_
          refine WP2_alen rfl rfl (ia_lit (n := 3) rfl rfl (by omega)) ?_
          refine WP_icmplt rfl rfl ⟨by omega, by omega⟩ ⟨by omega, by omega⟩ (fun h20 => ?_) (fun h20 => ?_)
          · obtain ⟨W, rfl⟩ : ∃ W : Nat, w = (W : Int) := ⟨w.toNat, by omega⟩
            refine WP_n 1 rfl ?_
            refine WP_ifge rfl rfl ⟨by omega, by omega⟩ (fun h26 => ?_) (fun h26 => ?_)
            · refine WP_n 1 rfl ?_
              refine WP2_gets (x := 3) rfl rfl rfl ?_
              refine WP_n 1 rfl ?_
              refine WP2_ialds (j := W) rfl rfl (ia_lit (n := 3) rfl rfl (by omega)) (by omega) (by omega) (by omega) ?_
              refine WP_icmple rfl rfl ⟨by omega, by omega⟩ (TMt_R W (by omega)) (fun h35 => ?_) (fun h35 => ?_)
              · rcases (show W = 0 ∨ W = 1 ∨ W = 2 by omega) with rfl | rfl | rfl
                · refine WP_n 1 rfl ?_
                  refine WP2_getf rfl rfl rfl rfl rfl ?_
                  refine WP_n 1 rfl ?_
                  refine WP2_callV 1 ok_M_H_tableOf rfl rfl rfl rfl rfl rfl (Nat.le_of_ble_eq_true rfl) (Nat.le_of_ble_eq_true rfl) rfl rfl ?_
                  refine sp_tableOf (W := 0) (by omega) ?_
                  refine WP_n 3 rfl ?_
                  refine WP2_aald (b := 37) (j := a9) (n := 16) rfl rfl rfl rfl rfl (by omega) (by omega) ?_
                  refine WP_n 2 rfl ?_
                  refine WP2_callS 3 ok_M_F_exchange rfl rfl rfl rfl rfl rfl rfl (Nat.le_of_ble_eq_true rfl) (Nat.le_of_ble_eq_true rfl) ?_
                  refine sp_exchange (ia_vs (by omega)) (by omega) rfl (by omega) (by omega) ?_
                  refine WP_n 3 rfl ?_
                  refine WP2_aald (b := 37) (j := b9) (n := 16) rfl rfl rfl rfl rfl (by omega) (by omega) ?_
                  refine WP_n 2 rfl ?_
                  refine WP2_callS 3 ok_M_F_exchange rfl rfl rfl rfl rfl rfl rfl (Nat.le_of_ble_eq_true rfl) (Nat.le_of_ble_eq_true rfl) ?_
                  refine sp_exchange (ia_vs (by omega)) (by omega) rfl (by omega) (by omega) ?_
                  exact WP_iret rfl rfl rfl ⟨_, rfl, ok a9 b9 0 ⟨rfl, rfl, by omega, by omega, by omega, rfl, by omega, by omega, h35⟩⟩
                · refine WP_n 1 rfl ?_
                  refine WP2_getf rfl rfl rfl rfl rfl ?_
                  refine WP_n 1 rfl ?_
                  refine WP2_callV 1 ok_M_H_tableOf rfl rfl rfl rfl rfl rfl (Nat.le_of_ble_eq_true rfl) (Nat.le_of_ble_eq_true rfl) rfl rfl ?_
                  refine sp_tableOf (W := 1) (by omega) ?_
                  refine WP_n 3 rfl ?_
                  refine WP2_aald (b := 54) (j := a9) (n := 16) rfl rfl rfl rfl rfl (by omega) (by omega) ?_
                  refine WP_n 2 rfl ?_
                  refine WP2_callS 3 ok_M_F_exchange rfl rfl rfl rfl rfl rfl rfl (Nat.le_of_ble_eq_true rfl) (Nat.le_of_ble_eq_true rfl) ?_
                  refine sp_exchange (ia_br (by omega)) (by omega) rfl (by omega) (by omega) ?_
                  refine WP_n 3 rfl ?_
                  refine WP2_aald (b := 54) (j := b9) (n := 16) rfl rfl rfl rfl rfl (by omega) (by omega) ?_
                  refine WP_n 2 rfl ?_
                  refine WP2_callS 3 ok_M_F_exchange rfl rfl rfl rfl rfl rfl rfl (Nat.le_of_ble_eq_true rfl) (Nat.le_of_ble_eq_true rfl) ?_
                  refine sp_exchange (ia_br (by omega)) (by omega) rfl (by omega) (by omega) ?_
                  exact WP_iret rfl rfl rfl ⟨_, rfl, ok a9 b9 1 ⟨rfl, rfl, by omega, by omega, by omega, rfl, by omega, by omega, h35⟩⟩
                · refine WP_n 1 rfl ?_
                  refine WP2_getf rfl rfl rfl rfl rfl ?_
                  refine WP_n 1 rfl ?_
                  refine WP2_callV 1 ok_M_H_tableOf rfl rfl rfl rfl rfl rfl (Nat.le_of_ble_eq_true rfl) (Nat.le_of_ble_eq_true rfl) rfl rfl ?_
                  refine sp_tableOf (W := 2) (by omega) ?_
                  refine WP_n 3 rfl ?_
                  refine WP2_aald (b := 71) (j := a9) (n := 16) rfl rfl rfl rfl rfl (by omega) (by omega) ?_
                  refine WP_n 2 rfl ?_
                  refine WP2_callS 3 ok_M_F_exchange rfl rfl rfl rfl rfl rfl rfl (Nat.le_of_ble_eq_true rfl) (Nat.le_of_ble_eq_true rfl) ?_
                  refine sp_exchange (ia_nr (by omega)) (by omega) rfl (by omega) (by omega) ?_
                  refine WP_n 3 rfl ?_
                  refine WP2_aald (b := 71) (j := b9) (n := 16) rfl rfl rfl rfl rfl (by omega) (by omega) ?_
                  refine WP_n 2 rfl ?_
                  refine WP2_callS 3 ok_M_F_exchange rfl rfl rfl rfl rfl rfl rfl (Nat.le_of_ble_eq_true rfl) (Nat.le_of_ble_eq_true rfl) ?_
                  refine sp_exchange (ia_nr (by omega)) (by omega) rfl (by omega) (by omega) ?_
                  exact WP_iret rfl rfl rfl ⟨_, rfl, ok a9 b9 2 ⟨rfl, rfl, by omega, by omega, by omega, rfl, by omega, by omega, h35⟩⟩
              · refine WP_n 2 rfl ?_
                refine WP2_callV 1 ok_M_F_refuse rfl rfl rfl rfl rfl rfl (Nat.le_of_ble_eq_true rfl) (Nat.le_of_ble_eq_true rfl) rfl rfl ?_
                refine sp_refuse (k := 6) rfl (by omega) ?_
                exact WP_iret rfl rfl rfl ⟨_, rfl, r6 ⟨by omega, W, by omega, by omega, by omega, Int.not_le.mp h35⟩⟩
            · refine WP_n 2 rfl ?_
              refine WP2_callV 1 ok_M_F_refuse rfl rfl rfl rfl rfl rfl (Nat.le_of_ble_eq_true rfl) (Nat.le_of_ble_eq_true rfl) rfl rfl ?_
              refine sp_refuse (k := 4) rfl (by omega) ?_
              exact WP_iret rfl rfl rfl ⟨_, rfl, r4 (by omega)⟩
          · refine WP_n 2 rfl ?_
            refine WP2_callV 1 ok_M_F_refuse rfl rfl rfl rfl rfl rfl (Nat.le_of_ble_eq_true rfl) (Nat.le_of_ble_eq_true rfl) rfl rfl ?_
            refine sp_refuse (k := 2) rfl (by omega) ?_
            exact WP_iret rfl rfl rfl ⟨_, rfl, r2 (by omega)⟩
      · refine WP_n 2 rfl ?_
        refine WP2_callV 1 ok_M_F_refuse rfl rfl rfl rfl rfl rfl (Nat.le_of_ble_eq_true rfl) (Nat.le_of_ble_eq_true rfl) rfl rfl ?_
        refine sp_refuse (k := 1) rfl (by omega) ?_
        exact WP_iret rfl rfl rfl ⟨_, rfl, r1 (by omega)⟩
theorem sp_G_two {P : PP} {d n : Nat} {FI A L : Nat → Nat → Int} {X : SX} {Q : Option AV → S2 → Prop} {a b w v : Int} (ha : inR a) (hb : inR b) (hw : inR w) (hv : inR v) (hI : mI n FI A) (r1 : ((a < 0 ∨ FI 165 0 ≤ a) ∨ (b < 0 ∨ FI 165 0 ≤ b) ∨ a = b) → Q (some (vi (-1))) (FI, rfG A 1, L, X)) (r2 : (0 ≤ a ∧ a < FI 165 0 ∧ 0 ≤ b ∧ b < FI 165 0 ∧ a ≠ b ∧ (w < 0 ∨ 3 ≤ w)) → Q (some (vi (-2))) (FI, rfG A 2, L, X)) (r4 : (0 ≤ a ∧ a < FI 165 0 ∧ 0 ≤ b ∧ b < FI 165 0 ∧ a ≠ b ∧ 0 ≤ w ∧ w < 3 ∧ v < 0) → Q (some (vi (-4))) (FI, rfG A 4, L, X)) (r6 : ((0 ≤ a ∧ a < FI 165 0 ∧ 0 ≤ b ∧ b < FI 165 0 ∧ a ≠ b) ∧ ∃ W : Nat, w = (W : Int) ∧ W < 3 ∧ 0 ≤ v ∧ TMt W < v) → Q (some (vi (-6))) (FI, rfG A 6, L, X)) (ok : ∀ a9 b9 W : Nat, (a = (a9 : Int) ∧ b = (b9 : Int) ∧ (a9 : Int) < FI 165 0 ∧ (b9 : Int) < FI 165 0 ∧ a9 ≠ b9 ∧ w = (W : Int) ∧ W < 3 ∧ 0 ≤ v ∧ v ≤ TMt W) → Q (some (vi (A (179 + W) (16 * a9 + b9)))) (FI, up2 (up2 A (179 + W) (16 * a9 + b9) v) (179 + W) (16 * b9 + a9) v, L, X)) : WP2 P M_G_two (d + 2) 0 [some (vr 165), some (vi a), some (vi b), some (vi w), some (vi v), none, none] [] (FI, A, L, X) Q := by
  obtain ⟨la, ua⟩ := id ha
  obtain ⟨lb, ub⟩ := id hb
  obtain ⟨lw, uw⟩ := id hw
  obtain ⟨lv, uv⟩ := id hv
  have hcc := hI.2.1
  refine WP_n 2 rfl ?_
  refine WP2_callV 1 ok_M_G_isTeam rfl rfl rfl rfl rfl rfl (Nat.le_of_ble_eq_true rfl) (Nat.le_of_ble_eq_true rfl) rfl rfl ?_
  refine sp_isTeam ha ⟨by omega, by omega⟩ (fun hTa => ?_) (fun hTa hTab => ?_)
  · refine WP_ifeq rfl rfl ⟨by decide, by decide⟩  (fun h3 => ?_) (fun h3 => absurd (by decide) h3)
    refine WP_n 2 rfl ?_
    refine WP2_callV 1 ok_M_G_no rfl rfl rfl rfl rfl rfl (Nat.le_of_ble_eq_true rfl) (Nat.le_of_ble_eq_true rfl) rfl rfl ?_
    refine sp_no (k := 1) rfl (by omega) ?_
    exact WP_iret rfl rfl rfl ⟨_, rfl, r1 (by omega)⟩
  · refine WP_ifeq rfl rfl ⟨by decide, by decide⟩  (fun h3 => absurd h3 (by decide)) (fun h3 => ?_)
    refine WP_n 2 rfl ?_
    refine WP2_callV 1 ok_M_G_isTeam rfl rfl rfl rfl rfl rfl (Nat.le_of_ble_eq_true rfl) (Nat.le_of_ble_eq_true rfl) rfl rfl ?_
    refine sp_isTeam hb ⟨by omega, by omega⟩ (fun hTb => ?_) (fun hTb hTbb => ?_)
    · refine WP_ifeq rfl rfl ⟨by decide, by decide⟩  (fun h7 => ?_) (fun h7 => absurd (by decide) h7)
      refine WP_n 2 rfl ?_
      refine WP2_callV 1 ok_M_G_no rfl rfl rfl rfl rfl rfl (Nat.le_of_ble_eq_true rfl) (Nat.le_of_ble_eq_true rfl) rfl rfl ?_
      refine sp_no (k := 1) rfl (by omega) ?_
      exact WP_iret rfl rfl rfl ⟨_, rfl, r1 (by omega)⟩
    · refine WP_ifeq rfl rfl ⟨by decide, by decide⟩  (fun h7 => absurd h7 (by decide)) (fun h7 => ?_)
      refine WP_n 2 rfl ?_
      refine WP_icmpne rfl rfl ⟨by omega, by omega⟩ ⟨by omega, by omega⟩ (fun h10 => ?_) (fun h10 => ?_)
      · obtain ⟨a9, rfl⟩ : ∃ a9 : Nat, a = (a9 : Int) := ⟨a.toNat, by omega⟩
        obtain ⟨b9, rfl⟩ : ∃ b9 : Nat, b = (b9 : Int) := ⟨b.toNat, by omega⟩
        refine WP_n 1 rfl ?_
        refine WP_iflt rfl rfl ⟨by omega, by omega⟩ (fun h16 => ?_) (fun h16 => ?_)
        · refine WP_n 2 rfl ?_
          refine WP2_callV 1 ok_M_G_no rfl rfl rfl rfl rfl rfl (Nat.le_of_ble_eq_true rfl) (Nat.le_of_ble_eq_true rfl) rfl rfl ?_
          refine sp_no (k := 2) rfl (by omega) ?_
          exact WP_iret rfl rfl rfl ⟨_, rfl, r2 (by omega)⟩
        · refine WP_n 2 rfl ?_
          refine WP_icmple rfl rfl ⟨by omega, by omega⟩ ⟨by omega, by omega⟩ (fun h19 => ?_) (fun h19 => ?_)
          · refine WP_n 1 rfl ?_
            refine WP_ifge rfl rfl ⟨by omega, by omega⟩ (fun h25 => ?_) (fun h25 => ?_)
            · obtain ⟨W, rfl⟩ : ∃ W : Nat, w = (W : Int) := ⟨w.toNat, by omega⟩
              rcases (show W = 0 ∨ W = 1 ∨ W = 2 by omega) with rfl | rfl | rfl
              · refine WP_n 2 rfl ?_
                refine WP_ifne rfl rfl ⟨by decide, by decide⟩  (fun h32 => absurd h32 (by decide)) (fun h32 => ?_)
                refine WP_n 2 rfl ?_
                refine WP_icmple rfl rfl ⟨by omega, by omega⟩ ⟨by omega, by omega⟩ (fun h36 => ?_) (fun h36 => ?_)
                · refine WP_n 1 rfl ?_
                  refine WP_ifne rfl rfl ⟨by decide, by decide⟩  (fun h42 => absurd h42 (by decide)) (fun h42 => ?_)
                  refine WP_n 1 rfl ?_
                  refine WP2_getf rfl rfl rfl rfl rfl ?_
                  refine WP_n 8 rfl ?_
                  refine WP2_iald (j := ((16 * a9) + b9)) rfl rfl (ia_lit (n := 256) rfl rfl (by omega)) (by omega) (by omega) (by omega) ?_
                  refine WP_n 8 rfl ?_
                  refine WP2_iast (j := ((16 * a9) + b9)) rfl rfl (ia_lit (n := 256) rfl rfl (by omega)) (by omega) (by omega) (by omega) ?_
                  refine WP_n 7 rfl ?_
                  refine WP2_iast (j := ((16 * b9) + a9)) rfl rfl (ia_lit (n := 256) rfl rfl (by omega)) (by omega) (by omega) (by omega) ?_
                  refine WP_n 1 rfl ?_
                  exact WP_iret rfl rfl rfl ⟨_, rfl, ok a9 b9 0 ⟨rfl, rfl, by omega, by omega, by omega, rfl, by omega, by omega, by simp [TMt]; omega⟩⟩
                · refine WP_n 2 rfl ?_
                  refine WP2_callV 1 ok_M_G_no rfl rfl rfl rfl rfl rfl (Nat.le_of_ble_eq_true rfl) (Nat.le_of_ble_eq_true rfl) rfl rfl ?_
                  refine sp_no (k := 6) rfl (by omega) ?_
                  exact WP_iret rfl rfl rfl ⟨_, rfl, r6 ⟨by omega, 0, rfl, by omega, by omega, by simp [TMt]; omega⟩⟩
              · refine WP_n 2 rfl ?_
                refine WP_ifne rfl rfl ⟨by decide, by decide⟩  (fun h32 => ?_) (fun h32 => absurd (by decide) h32)
                refine WP_n 1 rfl ?_
                refine WP_icmple rfl rfl ⟨by omega, by omega⟩ ⟨by omega, by omega⟩ (fun h36 => ?_) (fun h36 => ?_)
                · refine WP_n 1 rfl ?_
                  refine WP_ifne rfl rfl ⟨by decide, by decide⟩  (fun h42 => ?_) (fun h42 => absurd (by decide) h42)
                  refine WP_n 2 rfl ?_
                  refine WP_icmpne rfl rfl ⟨by decide, by decide⟩ ⟨by decide, by decide⟩  (fun h48 => absurd h48 (by decide)) (fun h48 => ?_)
                  refine WP_n 1 rfl ?_
                  refine WP2_getf rfl rfl rfl rfl rfl ?_
                  refine WP_n 8 rfl ?_
                  refine WP2_iald (j := ((16 * a9) + b9)) rfl rfl (ia_lit (n := 256) rfl rfl (by omega)) (by omega) (by omega) (by omega) ?_
                  refine WP_n 8 rfl ?_
                  refine WP2_iast (j := ((16 * a9) + b9)) rfl rfl (ia_lit (n := 256) rfl rfl (by omega)) (by omega) (by omega) (by omega) ?_
                  refine WP_n 7 rfl ?_
                  refine WP2_iast (j := ((16 * b9) + a9)) rfl rfl (ia_lit (n := 256) rfl rfl (by omega)) (by omega) (by omega) (by omega) ?_
                  refine WP_n 1 rfl ?_
                  exact WP_iret rfl rfl rfl ⟨_, rfl, ok a9 b9 1 ⟨rfl, rfl, by omega, by omega, by omega, rfl, by omega, by omega, by simp [TMt]; omega⟩⟩
                · refine WP_n 2 rfl ?_
                  refine WP2_callV 1 ok_M_G_no rfl rfl rfl rfl rfl rfl (Nat.le_of_ble_eq_true rfl) (Nat.le_of_ble_eq_true rfl) rfl rfl ?_
                  refine sp_no (k := 6) rfl (by omega) ?_
                  exact WP_iret rfl rfl rfl ⟨_, rfl, r6 ⟨by omega, 1, rfl, by omega, by omega, by simp [TMt]; omega⟩⟩
              · refine WP_n 2 rfl ?_
                refine WP_ifne rfl rfl ⟨by decide, by decide⟩  (fun h32 => ?_) (fun h32 => absurd (by decide) h32)
                refine WP_n 1 rfl ?_
                refine WP_icmple rfl rfl ⟨by omega, by omega⟩ ⟨by omega, by omega⟩ (fun h36 => ?_) (fun h36 => ?_)
                · refine WP_n 1 rfl ?_
                  refine WP_ifne rfl rfl ⟨by decide, by decide⟩  (fun h42 => ?_) (fun h42 => absurd (by decide) h42)
                  refine WP_n 2 rfl ?_
                  refine WP_icmpne rfl rfl ⟨by decide, by decide⟩ ⟨by decide, by decide⟩  (fun h48 => ?_) (fun h48 => absurd (by decide) h48)
                  refine WP_n 1 rfl ?_
                  refine WP2_getf rfl rfl rfl rfl rfl ?_
                  refine WP_n 7 rfl ?_
                  refine WP2_iald (j := ((16 * a9) + b9)) rfl rfl (ia_lit (n := 256) rfl rfl (by omega)) (by omega) (by omega) (by omega) ?_
                  refine WP_n 8 rfl ?_
                  refine WP2_iast (j := ((16 * a9) + b9)) rfl rfl (ia_lit (n := 256) rfl rfl (by omega)) (by omega) (by omega) (by omega) ?_
                  refine WP_n 7 rfl ?_
                  refine WP2_iast (j := ((16 * b9) + a9)) rfl rfl (ia_lit (n := 256) rfl rfl (by omega)) (by omega) (by omega) (by omega) ?_
                  refine WP_n 1 rfl ?_
                  exact WP_iret rfl rfl rfl ⟨_, rfl, ok a9 b9 2 ⟨rfl, rfl, by omega, by omega, by omega, rfl, by omega, by omega, by simp [TMt]; omega⟩⟩
                · refine WP_n 2 rfl ?_
                  refine WP2_callV 1 ok_M_G_no rfl rfl rfl rfl rfl rfl (Nat.le_of_ble_eq_true rfl) (Nat.le_of_ble_eq_true rfl) rfl rfl ?_
                  refine sp_no (k := 6) rfl (by omega) ?_
                  exact WP_iret rfl rfl rfl ⟨_, rfl, r6 ⟨by omega, 2, rfl, by omega, by omega, by simp [TMt]; omega⟩⟩
            · refine WP_n 2 rfl ?_
              refine WP2_callV 1 ok_M_G_no rfl rfl rfl rfl rfl rfl (Nat.le_of_ble_eq_true rfl) (Nat.le_of_ble_eq_true rfl) rfl rfl ?_
              refine sp_no (k := 4) rfl (by omega) ?_
              exact WP_iret rfl rfl rfl ⟨_, rfl, r4 (by omega)⟩
          · refine WP_n 2 rfl ?_
            refine WP2_callV 1 ok_M_G_no rfl rfl rfl rfl rfl rfl (Nat.le_of_ble_eq_true rfl) (Nat.le_of_ble_eq_true rfl) rfl rfl ?_
            refine sp_no (k := 2) rfl (by omega) ?_
            exact WP_iret rfl rfl rfl ⟨_, rfl, r2 (by omega)⟩
      · refine WP_n 2 rfl ?_
        refine WP2_callV 1 ok_M_G_no rfl rfl rfl rfl rfl rfl (Nat.le_of_ble_eq_true rfl) (Nat.le_of_ble_eq_true rfl) rfl rfl ?_
        refine sp_no (k := 1) rfl (by omega) ?_
        exact WP_iret rfl rfl rfl ⟨_, rfl, r1 (by omega)⟩

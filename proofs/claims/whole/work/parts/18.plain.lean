/-! the plain methods of the class: what each answers, by cases -/
theorem sp_F_floor {P : PP} {d : Nat} {FI A L : Nat → Nat → Int} {X : SX} {Q : Option AV → S2 → Prop} {f w v : Int} (hf : inR f) (hw : inR w) (hv : inR v) (r1 : (f < 0 ∨ 11 ≤ f) → Q (some (vi (-1))) (FI, rfC A 1, L, X)) (r2 : 0 ≤ f → f < 11 → (w < 0 ∨ 4 ≤ w) → Q (some (vi (-2))) (FI, rfC A 2, L, X)) (r4 : 0 ≤ f → f < 11 → 0 ≤ w → w < 4 → v < 0 → Q (some (vi (-4))) (FI, rfC A 4, L, X)) (r6 : ∀ W : Nat, 0 ≤ f → f < 11 → w = W → W < 4 → 0 ≤ v → FMt W < v → Q (some (vi (-6))) (FI, rfC A 6, L, X)) (ok : ∀ F W : Nat, f = F → F < 11 → w = W → W < 4 → 0 ≤ v → v ≤ FMt W → Q (some (vi (A (8 + F) W))) (FI, up2 A (8 + F) W v, L, X)) : WP2 P M_F_floor (d + 1) 0 [some (vr 5), some (vi f), some (vi w), some (vi v)] [] (FI, A, L, X) Q := by
  refine WP_n 1 rfl ?_
  refine WP2_callS 1 ok_M_F_noFloor rfl rfl rfl rfl rfl rfl rfl (Nat.le_of_ble_eq_true rfl) (Nat.le_of_ble_eq_true rfl) ?_
  refine sp_noFloor hf (fun hF => ?_) (fun hF hF2 => ?_)
  · refine WP_ifeq rfl rfl ⟨by decide, by decide⟩  (fun h2 => absurd h2 (by decide)) (fun h2 => ?_)
    refine WP_n 2 rfl ?_
    refine WP2_callV 1 ok_M_F_refuse rfl rfl rfl rfl rfl rfl (Nat.le_of_ble_eq_true rfl) (Nat.le_of_ble_eq_true rfl) rfl rfl ?_
    refine sp_refuse (k := 1) rfl (by omega) ?_
    exact WP_iret rfl rfl rfl ⟨_, rfl, r1 hF⟩
  · refine WP_ifeq rfl rfl ⟨by decide, by decide⟩  (fun h2 => ?_) (fun h2 => absurd (by decide) h2)
    refine WP_n 1 rfl ?_
    refine WP_iflt rfl rfl hw (fun h8 => ?_) (fun h8 => ?_)
    · refine WP_n 2 rfl ?_
      refine WP2_callV 1 ok_M_F_refuse rfl rfl rfl rfl rfl rfl (Nat.le_of_ble_eq_true rfl) (Nat.le_of_ble_eq_true rfl) rfl rfl ?_
      refine sp_refuse (k := 2) rfl (by omega) ?_
      exact WP_iret rfl rfl rfl ⟨_, rfl, r2 (by omega) (by omega) (Or.inl h8)⟩
    · refine WP_n 1 rfl ?_
      refine WP2_gets (x := 2) rfl rfl rfl ?_
      refine WP2_alen (a := 2) rfl rfl (ia_lit (n := 4) rfl rfl (by omega)) ?_
      refine WP_icmplt rfl rfl hw ⟨by omega, by omega⟩ (fun h12 => ?_) (fun h12 => ?_)
      · obtain ⟨W, rfl⟩ : ∃ W : Nat, w = (W : Int) := ⟨w.toNat, by omega⟩
        refine WP_n 1 rfl ?_
        refine WP_ifge rfl rfl hv (fun h18 => ?_) (fun h18 => ?_)
        · refine WP_n 1 rfl ?_
          refine WP2_gets (x := 2) rfl rfl rfl ?_
          refine WP_n 1 rfl ?_
          refine WP2_ialds (j := W) rfl rfl (ia_lit (n := 4) rfl rfl (by omega)) (by omega) (by omega) (by omega) ?_
          refine WP_icmple rfl rfl hv (FMt_R W (by omega)) (fun h27 => ?_) (fun h27 => ?_)
          · obtain ⟨F, rfl⟩ : ∃ F : Nat, f = (F : Int) := ⟨f.toNat, by omega⟩
            refine WP_n 1 rfl ?_
            refine WP2_getf rfl rfl rfl rfl rfl ?_
            refine WP2_getf rfl rfl rfl rfl rfl ?_
            refine WP_n 1 rfl ?_
            refine WP2_aald (b := 8) (j := F) (n := 11) rfl rfl rfl rfl rfl (by omega) (by omega) ?_
            refine WP_n 2 rfl ?_
            refine WP2_callS 3 ok_M_F_exchange rfl rfl rfl rfl rfl rfl rfl (Nat.le_of_ble_eq_true rfl) (Nat.le_of_ble_eq_true rfl) ?_
            refine sp_exchange (ia_fl (by omega)) (by omega) rfl (by omega) (by omega) ?_
            exact WP_iret rfl rfl rfl ⟨_, rfl, ok F W rfl (by omega) rfl (by omega) (by omega) h27⟩
          · refine WP_n 2 rfl ?_
            refine WP2_callV 1 ok_M_F_refuse rfl rfl rfl rfl rfl rfl (Nat.le_of_ble_eq_true rfl) (Nat.le_of_ble_eq_true rfl) rfl rfl ?_
            refine sp_refuse (k := 6) rfl (by omega) ?_
            exact WP_iret rfl rfl rfl ⟨_, rfl, r6 W (by omega) (by omega) rfl (by omega) (by omega) (Int.not_le.mp h27)⟩
        · refine WP_n 2 rfl ?_
          refine WP2_callV 1 ok_M_F_refuse rfl rfl rfl rfl rfl rfl (Nat.le_of_ble_eq_true rfl) (Nat.le_of_ble_eq_true rfl) rfl rfl ?_
          refine sp_refuse (k := 4) rfl (by omega) ?_
          exact WP_iret rfl rfl rfl ⟨_, rfl, r4 (by omega) (by omega) (by omega) (by omega) (by omega)⟩
      · refine WP_n 2 rfl ?_
        refine WP2_callV 1 ok_M_F_refuse rfl rfl rfl rfl rfl rfl (Nat.le_of_ble_eq_true rfl) (Nat.le_of_ble_eq_true rfl) rfl rfl ?_
        refine sp_refuse (k := 2) rfl (by omega) ?_
        exact WP_iret rfl rfl rfl ⟨_, rfl, r2 (by omega) (by omega) (Or.inr (by omega))⟩
theorem sp_G_floor {P : PP} {d : Nat} {FI A L : Nat → Nat → Int} {X : SX} {Q : Option AV → S2 → Prop} {f w v : Int} (hf : inR f) (hw : inR w) (hv : inR v) (r1 : (f < 0 ∨ 11 ≤ f) → Q (some (vi (-1))) (FI, rfG A 1, L, X)) (r2 : 0 ≤ f → f < 11 → (w < 0 ∨ 4 ≤ w) → Q (some (vi (-2))) (FI, rfG A 2, L, X)) (r4 : 0 ≤ f → f < 11 → 0 ≤ w → w < 4 → v < 0 → Q (some (vi (-4))) (FI, rfG A 4, L, X)) (r6 : ∀ W : Nat, 0 ≤ f → f < 11 → w = W → W < 4 → 0 ≤ v → FMt W < v → Q (some (vi (-6))) (FI, rfG A 6, L, X)) (ok : ∀ F W : Nat, f = F → F < 11 → w = W → W < 4 → 0 ≤ v → v ≤ FMt W → Q (some (vi (A (166 + W) F))) (FI, up2 A (166 + W) F v, L, X)) : WP2 P M_G_floor (d + 1) 0 [some (vr 165), some (vi f), some (vi w), some (vi v), none] [] (FI, A, L, X) Q := by
  refine WP_n 1 rfl ?_
  refine WP2_callS 1 ok_M_G_isFloor rfl rfl rfl rfl rfl rfl rfl (Nat.le_of_ble_eq_true rfl) (Nat.le_of_ble_eq_true rfl) ?_
  refine sp_isFloor hf (fun hF => ?_) (fun hF hF2 => ?_)
  · refine WP_ifne rfl rfl ⟨by decide, by decide⟩  (fun h2 => absurd h2 (by decide)) (fun h2 => ?_)
    refine WP_n 2 rfl ?_
    refine WP2_callV 1 ok_M_G_no rfl rfl rfl rfl rfl rfl (Nat.le_of_ble_eq_true rfl) (Nat.le_of_ble_eq_true rfl) rfl rfl ?_
    refine sp_no (k := 1) rfl (by omega) ?_
    exact WP_iret rfl rfl rfl ⟨_, rfl, r1 hF⟩
  · obtain ⟨F, rfl⟩ : ∃ F : Nat, f = (F : Int) := ⟨f.toNat, by omega⟩
    refine WP_ifne rfl rfl ⟨by decide, by decide⟩  (fun h2 => ?_) (fun h2 => absurd (by decide) h2)
    refine WP_n 1 rfl ?_
    refine WP_iflt rfl rfl hw (fun h8 => ?_) (fun h8 => ?_)
    · refine WP_n 2 rfl ?_
      refine WP2_callV 1 ok_M_G_no rfl rfl rfl rfl rfl rfl (Nat.le_of_ble_eq_true rfl) (Nat.le_of_ble_eq_true rfl) rfl rfl ?_
      refine sp_no (k := 2) rfl (by omega) ?_
      exact WP_iret rfl rfl rfl ⟨_, rfl, r2 (by omega) (by omega) (Or.inl h8)⟩
    · refine WP_n 2 rfl ?_
      refine WP_icmple rfl rfl hw ⟨by omega, by omega⟩ (fun h11 => ?_) (fun h11 => ?_)
      · refine WP_n 1 rfl ?_
        refine WP_ifge rfl rfl hv (fun h17 => ?_) (fun h17 => ?_)
        · obtain ⟨W, rfl⟩ : ∃ W : Nat, w = (W : Int) := ⟨w.toNat, by omega⟩
          have hW : W < 4 := by omega
          rcases (show W = 0 ∨ W = 1 ∨ W = 2 ∨ W = 3 by omega) with rfl | rfl | rfl | rfl
          · refine WP_n 2 rfl ?_
            refine WP_ifne rfl rfl ⟨by decide, by decide⟩  (fun h24 => absurd h24 (by decide)) (fun h24 => ?_)
            refine WP_n 2 rfl ?_
            refine WP_icmple rfl rfl hv ⟨by omega, by omega⟩ (fun h38 => ?_) (fun h38 => ?_)
            · refine WP_n 1 rfl ?_
              refine WP_ifne rfl rfl ⟨by decide, by decide⟩  (fun h44 => absurd h44 (by decide)) (fun h44 => ?_)
              refine WP_n 1 rfl ?_
              refine WP2_getf rfl rfl rfl rfl rfl ?_
              refine WP_n 1 rfl ?_
              refine WP2_iald (j := F) rfl rfl (ia_lit (n := 11) rfl rfl (by omega)) (by omega) (by omega) (by omega) ?_
              refine WP_n 3 rfl ?_
              refine WP_ifne rfl rfl ⟨by decide, by decide⟩  (fun h72 => absurd h72 (by decide)) (fun h72 => ?_)
              refine WP_n 1 rfl ?_
              refine WP2_getf rfl rfl rfl rfl rfl ?_
              refine WP_n 2 rfl ?_
              refine WP2_iast (j := F) rfl rfl (ia_lit (n := 11) rfl rfl (by omega)) (by omega) (by omega) (by omega) ?_
              refine WP_n 2 rfl ?_
              exact WP_iret rfl rfl rfl ⟨_, rfl, ok F 0 rfl (by omega) rfl (by omega) (by omega) (by simp [FMt]; omega)⟩
            · refine WP_n 2 rfl ?_
              refine WP2_callV 1 ok_M_G_no rfl rfl rfl rfl rfl rfl (Nat.le_of_ble_eq_true rfl) (Nat.le_of_ble_eq_true rfl) rfl rfl ?_
              refine sp_no (k := 6) rfl (by omega) ?_
              exact WP_iret rfl rfl rfl ⟨_, rfl, r6 0 (by omega) (by omega) rfl (by omega) (by omega) (by simp [FMt]; omega)⟩
          · refine WP_n 2 rfl ?_
            refine WP_ifne rfl rfl ⟨by decide, by decide⟩  (fun h24 => ?_) (fun h24 => absurd (by decide) h24)
            refine WP_n 2 rfl ?_
            refine WP_icmpne rfl rfl ⟨by decide, by decide⟩ ⟨by decide, by decide⟩  (fun h29 => absurd h29 (by decide)) (fun h29 => ?_)
            refine WP_n 2 rfl ?_
            refine WP_icmple rfl rfl hv ⟨by omega, by omega⟩ (fun h38 => ?_) (fun h38 => ?_)
            · refine WP_n 1 rfl ?_
              refine WP_ifne rfl rfl ⟨by decide, by decide⟩  (fun h44 => ?_) (fun h44 => absurd (by decide) h44)
              refine WP_n 2 rfl ?_
              refine WP_icmpne rfl rfl ⟨by decide, by decide⟩ ⟨by decide, by decide⟩  (fun h52 => absurd h52 (by decide)) (fun h52 => ?_)
              refine WP_n 1 rfl ?_
              refine WP2_getf rfl rfl rfl rfl rfl ?_
              refine WP_n 1 rfl ?_
              refine WP2_iald (j := F) rfl rfl (ia_lit (n := 11) rfl rfl (by omega)) (by omega) (by omega) (by omega) ?_
              refine WP_n 3 rfl ?_
              refine WP_ifne rfl rfl ⟨by decide, by decide⟩  (fun h72 => ?_) (fun h72 => absurd (by decide) h72)
              refine WP_n 2 rfl ?_
              refine WP_icmpne rfl rfl ⟨by decide, by decide⟩ ⟨by decide, by decide⟩  (fun h81 => absurd h81 (by decide)) (fun h81 => ?_)
              refine WP_n 1 rfl ?_
              refine WP2_getf rfl rfl rfl rfl rfl ?_
              refine WP_n 2 rfl ?_
              refine WP2_iast (j := F) rfl rfl (ia_lit (n := 11) rfl rfl (by omega)) (by omega) (by omega) (by omega) ?_
              refine WP_n 2 rfl ?_
              exact WP_iret rfl rfl rfl ⟨_, rfl, ok F 1 rfl (by omega) rfl (by omega) (by omega) (by simp [FMt]; omega)⟩
            · refine WP_n 2 rfl ?_
              refine WP2_callV 1 ok_M_G_no rfl rfl rfl rfl rfl rfl (Nat.le_of_ble_eq_true rfl) (Nat.le_of_ble_eq_true rfl) rfl rfl ?_
              refine sp_no (k := 6) rfl (by omega) ?_
              exact WP_iret rfl rfl rfl ⟨_, rfl, r6 1 (by omega) (by omega) rfl (by omega) (by omega) (by simp [FMt]; omega)⟩
          · refine WP_n 2 rfl ?_
            refine WP_ifne rfl rfl ⟨by decide, by decide⟩  (fun h24 => ?_) (fun h24 => absurd (by decide) h24)
            refine WP_n 2 rfl ?_
            refine WP_icmpne rfl rfl ⟨by decide, by decide⟩ ⟨by decide, by decide⟩  (fun h29 => ?_) (fun h29 => absurd (by decide) h29)
            refine WP_n 2 rfl ?_
            refine WP_icmpne rfl rfl ⟨by decide, by decide⟩ ⟨by decide, by decide⟩  (fun h34 => absurd h34 (by decide)) (fun h34 => ?_)
            refine WP_n 2 rfl ?_
            refine WP_icmple rfl rfl hv ⟨by omega, by omega⟩ (fun h38 => ?_) (fun h38 => ?_)
            · refine WP_n 1 rfl ?_
              refine WP_ifne rfl rfl ⟨by decide, by decide⟩  (fun h44 => ?_) (fun h44 => absurd (by decide) h44)
              refine WP_n 2 rfl ?_
              refine WP_icmpne rfl rfl ⟨by decide, by decide⟩ ⟨by decide, by decide⟩  (fun h52 => ?_) (fun h52 => absurd (by decide) h52)
              refine WP_n 2 rfl ?_
              refine WP_icmpne rfl rfl ⟨by decide, by decide⟩ ⟨by decide, by decide⟩  (fun h60 => absurd h60 (by decide)) (fun h60 => ?_)
              refine WP_n 1 rfl ?_
              refine WP2_getf rfl rfl rfl rfl rfl ?_
              refine WP_n 1 rfl ?_
              refine WP2_iald (j := F) rfl rfl (ia_lit (n := 11) rfl rfl (by omega)) (by omega) (by omega) (by omega) ?_
              refine WP_n 3 rfl ?_
              refine WP_ifne rfl rfl ⟨by decide, by decide⟩  (fun h72 => ?_) (fun h72 => absurd (by decide) h72)
              refine WP_n 2 rfl ?_
              refine WP_icmpne rfl rfl ⟨by decide, by decide⟩ ⟨by decide, by decide⟩  (fun h81 => ?_) (fun h81 => absurd (by decide) h81)
              refine WP_n 2 rfl ?_
              refine WP_icmpne rfl rfl ⟨by decide, by decide⟩ ⟨by decide, by decide⟩  (fun h90 => absurd h90 (by decide)) (fun h90 => ?_)
              refine WP_n 1 rfl ?_
              refine WP2_getf rfl rfl rfl rfl rfl ?_
              refine WP_n 2 rfl ?_
              refine WP2_iast (j := F) rfl rfl (ia_lit (n := 11) rfl rfl (by omega)) (by omega) (by omega) (by omega) ?_
              refine WP_n 2 rfl ?_
              exact WP_iret rfl rfl rfl ⟨_, rfl, ok F 2 rfl (by omega) rfl (by omega) (by omega) (by simp [FMt]; omega)⟩
            · refine WP_n 2 rfl ?_
              refine WP2_callV 1 ok_M_G_no rfl rfl rfl rfl rfl rfl (Nat.le_of_ble_eq_true rfl) (Nat.le_of_ble_eq_true rfl) rfl rfl ?_
              refine sp_no (k := 6) rfl (by omega) ?_
              exact WP_iret rfl rfl rfl ⟨_, rfl, r6 2 (by omega) (by omega) rfl (by omega) (by omega) (by simp [FMt]; omega)⟩
          · refine WP_n 2 rfl ?_
            refine WP_ifne rfl rfl ⟨by decide, by decide⟩  (fun h24 => ?_) (fun h24 => absurd (by decide) h24)
            refine WP_n 2 rfl ?_
            refine WP_icmpne rfl rfl ⟨by decide, by decide⟩ ⟨by decide, by decide⟩  (fun h29 => ?_) (fun h29 => absurd (by decide) h29)
            refine WP_n 2 rfl ?_
            refine WP_icmpne rfl rfl ⟨by decide, by decide⟩ ⟨by decide, by decide⟩  (fun h34 => ?_) (fun h34 => absurd (by decide) h34)
            refine WP_n 1 rfl ?_
            refine WP_icmple rfl rfl hv ⟨by omega, by omega⟩ (fun h38 => ?_) (fun h38 => ?_)
            · refine WP_n 1 rfl ?_
              refine WP_ifne rfl rfl ⟨by decide, by decide⟩  (fun h44 => ?_) (fun h44 => absurd (by decide) h44)
              refine WP_n 2 rfl ?_
              refine WP_icmpne rfl rfl ⟨by decide, by decide⟩ ⟨by decide, by decide⟩  (fun h52 => ?_) (fun h52 => absurd (by decide) h52)
              refine WP_n 2 rfl ?_
              refine WP_icmpne rfl rfl ⟨by decide, by decide⟩ ⟨by decide, by decide⟩  (fun h60 => ?_) (fun h60 => absurd (by decide) h60)
              refine WP_n 1 rfl ?_
              refine WP2_getf rfl rfl rfl rfl rfl ?_
              refine WP_n 1 rfl ?_
              refine WP2_iald (j := F) rfl rfl (ia_lit (n := 11) rfl rfl (by omega)) (by omega) (by omega) (by omega) ?_
              refine WP_n 2 rfl ?_
              refine WP_ifne rfl rfl ⟨by decide, by decide⟩  (fun h72 => ?_) (fun h72 => absurd (by decide) h72)
              refine WP_n 2 rfl ?_
              refine WP_icmpne rfl rfl ⟨by decide, by decide⟩ ⟨by decide, by decide⟩  (fun h81 => ?_) (fun h81 => absurd (by decide) h81)
              refine WP_n 2 rfl ?_
              refine WP_icmpne rfl rfl ⟨by decide, by decide⟩ ⟨by decide, by decide⟩  (fun h90 => ?_) (fun h90 => absurd (by decide) h90)
              refine WP_n 1 rfl ?_
              refine WP2_getf rfl rfl rfl rfl rfl ?_
              refine WP_n 2 rfl ?_
              refine WP2_iast (j := F) rfl rfl (ia_lit (n := 11) rfl rfl (by omega)) (by omega) (by omega) (by omega) ?_
              refine WP_n 1 rfl ?_
              exact WP_iret rfl rfl rfl ⟨_, rfl, ok F 3 rfl (by omega) rfl (by omega) (by omega) (by simp [FMt]; omega)⟩
            · refine WP_n 2 rfl ?_
              refine WP2_callV 1 ok_M_G_no rfl rfl rfl rfl rfl rfl (Nat.le_of_ble_eq_true rfl) (Nat.le_of_ble_eq_true rfl) rfl rfl ?_
              refine sp_no (k := 6) rfl (by omega) ?_
              exact WP_iret rfl rfl rfl ⟨_, rfl, r6 3 (by omega) (by omega) rfl (by omega) (by omega) (by simp [FMt]; omega)⟩
        · refine WP_n 2 rfl ?_
          refine WP2_callV 1 ok_M_G_no rfl rfl rfl rfl rfl rfl (Nat.le_of_ble_eq_true rfl) (Nat.le_of_ble_eq_true rfl) rfl rfl ?_
          refine sp_no (k := 4) rfl (by omega) ?_
          exact WP_iret rfl rfl rfl ⟨_, rfl, r4 (by omega) (by omega) (by omega) (by omega) (by omega)⟩
      · refine WP_n 2 rfl ?_
        refine WP2_callV 1 ok_M_G_no rfl rfl rfl rfl rfl rfl (Nat.le_of_ble_eq_true rfl) (Nat.le_of_ble_eq_true rfl) rfl rfl ?_
        refine sp_no (k := 2) rfl (by omega) ?_
        exact WP_iret rfl rfl rfl ⟨_, rfl, r2 (by omega) (by omega) (Or.inr (by omega))⟩

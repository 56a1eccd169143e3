/-! the plain methods: what the class answers, what the reference answers, by cases -/
theorem sp_F_size {P : PP} {d n : Nat} {FI A L : Nat → Nat → Int} {X : SX} {Q : Option AV → S2 → Prop} {t v : Int} (ht : inR t) (hv : inR v) (hI : cI n FI A) (hn5 : n ≤ 512) (r1 : ((t < 0 ∨ FI 6 8 ≤ t)) → Q (some (vi (-1))) (FI, rfC A 1, L, X)) (r4 : (0 ≤ t ∧ t < FI 6 8 ∧ v < 1) → Q (some (vi (-4))) (FI, rfC A 4, L, X)) (r6 : (0 ≤ t ∧ t < FI 6 8 ∧ 60 < v) → Q (some (vi (-6))) (FI, rfC A 6, L, X)) (ok : ∀ T : Nat, (t = (T : Int) ∧ (T : Int) < FI 6 8 ∧ 1 ≤ v ∧ v ≤ 60) → Q (some (vi (A (20 + T) 0))) (FI, up2 A (20 + T) 0 v, L, X)) : WP2 P M_F_size (d + 2) 0 [some (vr 5), some (vi t), some (vi v)] [] (FI, A, L, X) Q := by
  obtain ⟨lt, ut⟩ := id ht
  obtain ⟨lv, uv⟩ := id hv
  have hcc := hI.1
  refine WP_n 2 rfl ?_
  refine WP2_callV 1 ok_M_F_noTeam rfl rfl rfl rfl rfl rfl (Nat.le_of_ble_eq_true rfl) (Nat.le_of_ble_eq_true rfl) rfl rfl ?_
  refine sp_noTeam ht ⟨by omega, by omega⟩ (fun hTt => ?_) (fun hTt hTtb => ?_)
  · refine WP_ifeq rfl rfl ⟨by decide, by decide⟩  (fun h3 => absurd h3 (by decide)) (fun h3 => ?_)
    refine WP_n 2 rfl ?_
    refine WP2_callV 1 ok_M_F_refuse rfl rfl rfl rfl rfl rfl (Nat.le_of_ble_eq_true rfl) (Nat.le_of_ble_eq_true rfl) rfl rfl ?_
    refine sp_refuse (k := 1) rfl (by omega) ?_
    exact WP_iret rfl rfl rfl ⟨_, rfl, r1 (by omega)⟩
  · refine WP_ifeq rfl rfl ⟨by decide, by decide⟩  (fun h3 => ?_) (fun h3 => absurd (by decide) h3)
    refine WP_n 2 rfl ?_
    refine WP_icmpge rfl rfl ⟨by omega, by omega⟩ ⟨by omega, by omega⟩ (fun h10 => ?_) (fun h10 => ?_)
    · refine WP_n 2 rfl ?_
      refine WP_icmple rfl rfl ⟨by omega, by omega⟩ ⟨by omega, by omega⟩ (fun h17 => ?_) (fun h17 => ?_)
      · obtain ⟨T, rfl⟩ : ∃ T : Nat, t = (T : Int) := ⟨t.toNat, by omega⟩
        refine WP_n 1 rfl ?_
        refine WP2_getf rfl rfl rfl rfl rfl ?_
        refine WP2_getf rfl rfl rfl rfl rfl ?_
        refine WP_n 1 rfl ?_
        refine WP2_aald (b := 20) (j := T) (n := 16) rfl rfl rfl rfl rfl (by omega) (by omega) ?_
        refine WP_n 2 rfl ?_
        refine WP2_callS 3 ok_M_F_exchange rfl rfl rfl rfl rfl rfl rfl (Nat.le_of_ble_eq_true rfl) (Nat.le_of_ble_eq_true rfl) ?_
        refine sp_exchange (j := 0) (ia_tm (by omega)) (by omega) rfl (by omega) (by omega) ?_
        exact WP_iret rfl rfl rfl ⟨_, rfl, ok T (by omega)⟩
      · refine WP_n 2 rfl ?_
        refine WP2_callV 1 ok_M_F_refuse rfl rfl rfl rfl rfl rfl (Nat.le_of_ble_eq_true rfl) (Nat.le_of_ble_eq_true rfl) rfl rfl ?_
        refine sp_refuse (k := 6) rfl (by omega) ?_
        exact WP_iret rfl rfl rfl ⟨_, rfl, r6 (by omega)⟩
    · refine WP_n 2 rfl ?_
      refine WP2_callV 1 ok_M_F_refuse rfl rfl rfl rfl rfl rfl (Nat.le_of_ble_eq_true rfl) (Nat.le_of_ble_eq_true rfl) rfl rfl ?_
      refine sp_refuse (k := 4) rfl (by omega) ?_
      exact WP_iret rfl rfl rfl ⟨_, rfl, r4 (by omega)⟩
theorem sp_G_size {P : PP} {d n : Nat} {FI A L : Nat → Nat → Int} {X : SX} {Q : Option AV → S2 → Prop} {t v : Int} (ht : inR t) (hv : inR v) (hI : mI n FI A) (r1 : ((t < 0 ∨ FI 165 0 ≤ t)) → Q (some (vi (-1))) (FI, rfG A 1, L, X)) (r4 : (0 ≤ t ∧ t < FI 165 0 ∧ v < 1) → Q (some (vi (-4))) (FI, rfG A 4, L, X)) (r6 : (0 ≤ t ∧ t < FI 165 0 ∧ 60 < v) → Q (some (vi (-6))) (FI, rfG A 6, L, X)) (ok : ∀ T : Nat, (t = (T : Int) ∧ (T : Int) < FI 165 0 ∧ 1 ≤ v ∧ v ≤ 60) → Q (some (vi (A 170 T))) (FI, up2 A 170 T v, L, X)) : WP2 P M_G_size (d + 2) 0 [some (vr 165), some (vi t), some (vi v), none] [] (FI, A, L, X) Q := by
  obtain ⟨lt, ut⟩ := id ht
  obtain ⟨lv, uv⟩ := id hv
  have hcc := hI.2.1
  refine WP_n 2 rfl ?_
  refine WP2_callV 1 ok_M_G_isTeam rfl rfl rfl rfl rfl rfl (Nat.le_of_ble_eq_true rfl) (Nat.le_of_ble_eq_true rfl) rfl rfl ?_
  refine sp_isTeam ht ⟨by omega, by omega⟩ (fun hTt => ?_) (fun hTt hTtb => ?_)
  · refine WP_ifne rfl rfl ⟨by decide, by decide⟩  (fun h3 => absurd h3 (by decide)) (fun h3 => ?_)
    refine WP_n 2 rfl ?_
    refine WP2_callV 1 ok_M_G_no rfl rfl rfl rfl rfl rfl (Nat.le_of_ble_eq_true rfl) (Nat.le_of_ble_eq_true rfl) rfl rfl ?_
    refine sp_no (k := 1) rfl (by omega) ?_
    exact WP_iret rfl rfl rfl ⟨_, rfl, r1 (by omega)⟩
  · refine WP_ifne rfl rfl ⟨by decide, by decide⟩  (fun h3 => ?_) (fun h3 => absurd (by decide) h3)
    refine WP_n 2 rfl ?_
    refine WP_icmpge rfl rfl ⟨by omega, by omega⟩ ⟨by omega, by omega⟩ (fun h10 => ?_) (fun h10 => ?_)
    · refine WP_n 2 rfl ?_
      refine WP_icmple rfl rfl ⟨by omega, by omega⟩ ⟨by omega, by omega⟩ (fun h17 => ?_) (fun h17 => ?_)
      · obtain ⟨T, rfl⟩ : ∃ T : Nat, t = (T : Int) := ⟨t.toNat, by omega⟩
        refine WP_n 1 rfl ?_
        refine WP2_getf rfl rfl rfl rfl rfl ?_
        refine WP_n 1 rfl ?_
        refine WP2_iald (j := T) rfl rfl (ia_lit (n := 16) rfl rfl (by omega)) (by omega) (by omega) (by omega) ?_
        refine WP_n 2 rfl ?_
        refine WP2_getf rfl rfl rfl rfl rfl ?_
        refine WP_n 2 rfl ?_
        refine WP2_iast (j := T) rfl rfl (ia_lit (n := 16) rfl rfl (by omega)) (by omega) (by omega) (by omega) ?_
        refine WP_n 1 rfl ?_
        exact WP_iret rfl rfl rfl ⟨_, rfl, ok T (by omega)⟩
      · refine WP_n 2 rfl ?_
        refine WP2_callV 1 ok_M_G_no rfl rfl rfl rfl rfl rfl (Nat.le_of_ble_eq_true rfl) (Nat.le_of_ble_eq_true rfl) rfl rfl ?_
        refine sp_no (k := 6) rfl (by omega) ?_
        exact WP_iret rfl rfl rfl ⟨_, rfl, r6 (by omega)⟩
    · refine WP_n 2 rfl ?_
      refine WP2_callV 1 ok_M_G_no rfl rfl rfl rfl rfl rfl (Nat.le_of_ble_eq_true rfl) (Nat.le_of_ble_eq_true rfl) rfl rfl ?_
      refine sp_no (k := 4) rfl (by omega) ?_
      exact WP_iret rfl rfl rfl ⟨_, rfl, r4 (by omega)⟩
theorem pr_size {P : PP} {n : Nat} {FI A L : Nat → Nat → Int} {X : SX} (h : INV P n FI A X) (hn : n < 512) {t v : Int} (ht : inR t) (hv : inR v) : PAIR P n (FI, A, L, X) M_F_size [some (vr 5), some (vi t), some (vi v)] M_G_size [some (vr 165), some (vi t), some (vi v), none] := by
  intro d
  have hm := h.mI
  have hn5 := h.1
  have hcI := h.2.1
  have hk1 := hcI.1
  have g1 := h.2.2.1.1
  obtain ⟨lt, ut⟩ := id ht
  obtain ⟨lv, uv⟩ := id hv
  refine sp_F_size ht hv hcI hn5 (fun c1 => ?_) (fun c1 => ?_) (fun c1 => ?_) (fun T c1 => ?_)
  · refine ⟨_, rfl, ?_⟩
    refine sp_G_size ht hv (hm.up (by omega)) (fun c2 => ?_) (fun c2 => ?_) (fun c2 => ?_) (fun T' c2 => ?_)
    · exact ⟨rfl, INV_ref h hn (by omega)⟩
    · exfalso; omega
    · exfalso; omega
    · exfalso; omega
  · refine ⟨_, rfl, ?_⟩
    refine sp_G_size ht hv (hm.up (by omega)) (fun c2 => ?_) (fun c2 => ?_) (fun c2 => ?_) (fun T' c2 => ?_)
    · exfalso; omega
    · exact ⟨rfl, INV_ref h hn (by omega)⟩
    · exfalso; omega
    · exfalso; omega
  · refine ⟨_, rfl, ?_⟩
    refine sp_G_size ht hv (hm.up (by omega)) (fun c2 => ?_) (fun c2 => ?_) (fun c2 => ?_) (fun T' c2 => ?_)
    · exfalso; omega
    · exfalso; omega
    · exact ⟨rfl, INV_ref h hn (by omega)⟩
    · exfalso; omega
  · refine ⟨_, rfl, ?_⟩
    refine sp_G_size ht hv (hm.up (by omega)) (fun c2 => ?_) (fun c2 => ?_) (fun c2 => ?_) (fun T' c2 => ?_)
    · exfalso; omega
    · exfalso; omega
    · exfalso; omega
    · obtain rfl : T = T' := by omega
      refine ⟨?_, INV_size h hn (by omega) (by omega) (by omega)⟩
      simp (disch := omega) only [up2_ne]
      rw [(((h.2.2.1.2.2.2.1 T (by omega)).1 (by omega)).1)]
theorem sp_F_sit {P : PP} {d n : Nat} {FI A L : Nat → Nat → Int} {X : SX} {Q : Option AV → S2 → Prop} {t f : Int} (ht : inR t) (hf : inR f) (hI : cI n FI A) (hn5 : n ≤ 512) (r1 : ((t < 0 ∨ FI 6 8 ≤ t) ∨ (f ≠ -9 ∧ (f < 0 ∨ 11 ≤ f))) → Q (some (vi (-1))) (FI, rfC A 1, L, X)) (r3 : (∃ T : Nat, t = (T : Int) ∧ (T : Int) < FI 6 8 ∧ (f = -9 ∨ (0 ≤ f ∧ f < 11)) ∧ A (20 + T) 5 = 1) → Q (some (vi (-3))) (FI, rfC A 3, L, X)) (ok : ∀ T : Nat, (t = (T : Int) ∧ (T : Int) < FI 6 8 ∧ (f = -9 ∨ (0 ≤ f ∧ f < 11)) ∧ A (20 + T) 5 = 0) → Q (some (vi (A (20 + T) 4))) (FI, up2 A (20 + T) 4 f, L, X)) : WP2 P M_F_sit (d + 2) 0 [some (vr 5), some (vi t), some (vi f)] [] (FI, A, L, X) Q := by
  obtain ⟨lt, ut⟩ := id ht
  obtain ⟨lf, uf⟩ := id hf
  have hcc := hI.1
  refine WP_n 2 rfl ?_
  refine WP2_callV 1 ok_M_F_noTeam rfl rfl rfl rfl rfl rfl (Nat.le_of_ble_eq_true rfl) (Nat.le_of_ble_eq_true rfl) rfl rfl ?_
  refine sp_noTeam ht ⟨by omega, by omega⟩ (fun hTt => ?_) (fun hTt hTtb => ?_)
  · refine WP_ifne rfl rfl ⟨by decide, by decide⟩  (fun h3 => ?_) (fun h3 => absurd (by decide) h3)
    refine WP_n 2 rfl ?_
    refine WP2_callV 1 ok_M_F_refuse rfl rfl rfl rfl rfl rfl (Nat.le_of_ble_eq_true rfl) (Nat.le_of_ble_eq_true rfl) rfl rfl ?_
    refine sp_refuse (k := 1) rfl (by omega) ?_
    exact WP_iret rfl rfl rfl ⟨_, rfl, r1 (by omega)⟩
  · refine WP_ifne rfl rfl ⟨by decide, by decide⟩  (fun h3 => absurd h3 (by decide)) (fun h3 => ?_)
    refine WP_n 2 rfl ?_
    refine WP_icmpeq rfl rfl ⟨by omega, by omega⟩ ⟨by omega, by omega⟩ (fun h6 => ?_) (fun h6 => ?_)
    · obtain ⟨T, rfl⟩ : ∃ T : Nat, t = (T : Int) := ⟨t.toNat, by omega⟩
      have hq := hI.2.2.2.1 T (by omega)
      unfold cTm at hq
      refine WP_n 1 rfl ?_
      refine WP2_getf rfl rfl rfl rfl rfl ?_
      refine WP2_getf rfl rfl rfl rfl rfl ?_
      refine WP_n 1 rfl ?_
      refine WP2_aald (b := 20) (j := T) (n := 16) rfl rfl rfl rfl rfl (by omega) (by omega) ?_
      refine WP_n 1 rfl ?_
      refine WP2_iald (j := 5) rfl rfl (ia_tm (by omega)) (by omega) (by omega) (by omega) ?_
      refine WP_n 1 rfl ?_
      refine WP_icmpne rfl rfl ⟨by omega, by omega⟩ ⟨by omega, by omega⟩ (fun h22 => ?_) (fun h22 => ?_)
      · refine WP_n 1 rfl ?_
        refine WP2_getf rfl rfl rfl rfl rfl ?_
        refine WP2_getf rfl rfl rfl rfl rfl ?_
        refine WP_n 1 rfl ?_
        refine WP2_aald (b := 20) (j := T) (n := 16) rfl rfl rfl rfl rfl (by omega) (by omega) ?_
        refine WP_n 2 rfl ?_
        refine WP2_callS 3 ok_M_F_exchange rfl rfl rfl rfl rfl rfl rfl (Nat.le_of_ble_eq_true rfl) (Nat.le_of_ble_eq_true rfl) ?_
        refine sp_exchange (j := 4) (ia_tm (by omega)) (by omega) rfl (by omega) (by omega) ?_
        exact WP_iret rfl rfl rfl ⟨_, rfl, ok T (by omega)⟩
      · refine WP_n 2 rfl ?_
        refine WP2_callV 1 ok_M_F_refuse rfl rfl rfl rfl rfl rfl (Nat.le_of_ble_eq_true rfl) (Nat.le_of_ble_eq_true rfl) rfl rfl ?_
        refine sp_refuse (k := 3) rfl (by omega) ?_
        exact WP_iret rfl rfl rfl ⟨_, rfl, r3 ⟨T, by omega⟩⟩
    · refine WP_n 1 rfl ?_
      refine WP2_callS 1 ok_M_F_noFloor rfl rfl rfl rfl rfl rfl rfl (Nat.le_of_ble_eq_true rfl) (Nat.le_of_ble_eq_true rfl) ?_
      refine sp_noFloor hf (fun hF => ?_) (fun hF hFb => ?_)
      · refine WP_ifeq rfl rfl ⟨by decide, by decide⟩  (fun h9 => absurd h9 (by decide)) (fun h9 => ?_)
        refine WP_n 2 rfl ?_
        refine WP2_callV 1 ok_M_F_refuse rfl rfl rfl rfl rfl rfl (Nat.le_of_ble_eq_true rfl) (Nat.le_of_ble_eq_true rfl) rfl rfl ?_
        refine sp_refuse (k := 1) rfl (by omega) ?_
        exact WP_iret rfl rfl rfl ⟨_, rfl, r1 (by omega)⟩
      · refine WP_ifeq rfl rfl ⟨by decide, by decide⟩  (fun h9 => ?_) (fun h9 => absurd (by decide) h9)
        obtain ⟨T, rfl⟩ : ∃ T : Nat, t = (T : Int) := ⟨t.toNat, by omega⟩
        have hq := hI.2.2.2.1 T (by omega)
        unfold cTm at hq
        refine WP_n 1 rfl ?_
        refine WP2_getf rfl rfl rfl rfl rfl ?_
        refine WP2_getf rfl rfl rfl rfl rfl ?_
        refine WP_n 1 rfl ?_
        refine WP2_aald (b := 20) (j := T) (n := 16) rfl rfl rfl rfl rfl (by omega) (by omega) ?_
        refine WP_n 1 rfl ?_
        refine WP2_iald (j := 5) rfl rfl (ia_tm (by omega)) (by omega) (by omega) (by omega) ?_
        refine WP_n 1 rfl ?_
        refine WP_icmpne rfl rfl ⟨by omega, by omega⟩ ⟨by omega, by omega⟩ (fun h22 => ?_) (fun h22 => ?_)
        · refine WP_n 1 rfl ?_
          refine WP2_getf rfl rfl rfl rfl rfl ?_
          refine WP2_getf rfl rfl rfl rfl rfl ?_
          refine WP_n 1 rfl ?_
          refine WP2_aald (b := 20) (j := T) (n := 16) rfl rfl rfl rfl rfl (by omega) (by omega) ?_
          refine WP_n 2 rfl ?_
          refine WP2_callS 3 ok_M_F_exchange rfl rfl rfl rfl rfl rfl rfl (Nat.le_of_ble_eq_true rfl) (Nat.le_of_ble_eq_true rfl) ?_
          refine sp_exchange (j := 4) (ia_tm (by omega)) (by omega) rfl (by omega) (by omega) ?_
          exact WP_iret rfl rfl rfl ⟨_, rfl, ok T (by omega)⟩
        · refine WP_n 2 rfl ?_
          refine WP2_callV 1 ok_M_F_refuse rfl rfl rfl rfl rfl rfl (Nat.le_of_ble_eq_true rfl) (Nat.le_of_ble_eq_true rfl) rfl rfl ?_
          refine sp_refuse (k := 3) rfl (by omega) ?_
          exact WP_iret rfl rfl rfl ⟨_, rfl, r3 ⟨T, by omega⟩⟩
theorem sp_G_sit {P : PP} {d n : Nat} {FI A L : Nat → Nat → Int} {X : SX} {Q : Option AV → S2 → Prop} {t f : Int} (ht : inR t) (hf : inR f) (hI : mI n FI A) (r1 : ((t < 0 ∨ FI 165 0 ≤ t) ∨ (f ≠ -9 ∧ (f < 0 ∨ 11 ≤ f))) → Q (some (vi (-1))) (FI, rfG A 1, L, X)) (r3 : (∃ T : Nat, t = (T : Int) ∧ (T : Int) < FI 165 0 ∧ (f = -9 ∨ (0 ≤ f ∧ f < 11)) ∧ A 178 T = 1) → Q (some (vi (-3))) (FI, rfG A 3, L, X)) (ok : ∀ T : Nat, (t = (T : Int) ∧ (T : Int) < FI 165 0 ∧ (f = -9 ∨ (0 ≤ f ∧ f < 11)) ∧ A 178 T = 0) → Q (some (vi (A 174 T))) (FI, up2 A 174 T f, L, X)) : WP2 P M_G_sit (d + 2) 0 [some (vr 165), some (vi t), some (vi f), none] [] (FI, A, L, X) Q := by
  obtain ⟨lt, ut⟩ := id ht
  obtain ⟨lf, uf⟩ := id hf
  have hcc := hI.2.1
  refine WP_n 2 rfl ?_
  refine WP2_callV 1 ok_M_G_isTeam rfl rfl rfl rfl rfl rfl (Nat.le_of_ble_eq_true rfl) (Nat.le_of_ble_eq_true rfl) rfl rfl ?_
  refine sp_isTeam ht ⟨by omega, by omega⟩ (fun hTt => ?_) (fun hTt hTtb => ?_)
  · refine WP_ifeq rfl rfl ⟨by decide, by decide⟩  (fun h3 => ?_) (fun h3 => absurd (by decide) h3)
    refine WP_n 2 rfl ?_
    refine WP2_callV 1 ok_M_G_no rfl rfl rfl rfl rfl rfl (Nat.le_of_ble_eq_true rfl) (Nat.le_of_ble_eq_true rfl) rfl rfl ?_
    refine sp_no (k := 1) rfl (by omega) ?_
    exact WP_iret rfl rfl rfl ⟨_, rfl, r1 (by omega)⟩
  · refine WP_ifeq rfl rfl ⟨by decide, by decide⟩  (fun h3 => absurd h3 (by decide)) (fun h3 => ?_)
    refine WP_n 2 rfl ?_
    refine WP_icmpeq rfl rfl ⟨by omega, by omega⟩ ⟨by omega, by omega⟩ (fun h6 => ?_) (fun h6 => ?_)
    · obtain ⟨T, rfl⟩ : ∃ T : Nat, t = (T : Int) := ⟨t.toNat, by omega⟩
      have hq := hI.2.2.2.2.1 T (by omega)
      unfold mTm at hq
      refine WP_n 1 rfl ?_
      refine WP2_getf rfl rfl rfl rfl rfl ?_
      refine WP_n 1 rfl ?_
      refine WP2_zald (j := T) rfl rfl rfl (by omega) (by omega) ?_
      refine WP_ifeq rfl rfl ⟨by omega, by omega⟩ (fun h18 => ?_) (fun h18 => ?_)
      · refine WP_n 1 rfl ?_
        refine WP2_getf rfl rfl rfl rfl rfl ?_
        refine WP_n 1 rfl ?_
        refine WP2_iald (j := T) rfl rfl (ia_lit (n := 16) rfl rfl (by omega)) (by omega) (by omega) (by omega) ?_
        refine WP_n 2 rfl ?_
        refine WP2_getf rfl rfl rfl rfl rfl ?_
        refine WP_n 2 rfl ?_
        refine WP2_iast (j := T) rfl rfl (ia_lit (n := 16) rfl rfl (by omega)) (by omega) (by omega) (by omega) ?_
        refine WP_n 1 rfl ?_
        exact WP_iret rfl rfl rfl ⟨_, rfl, ok T (by omega)⟩
      · refine WP_n 2 rfl ?_
        refine WP2_callV 1 ok_M_G_no rfl rfl rfl rfl rfl rfl (Nat.le_of_ble_eq_true rfl) (Nat.le_of_ble_eq_true rfl) rfl rfl ?_
        refine sp_no (k := 3) rfl (by omega) ?_
        exact WP_iret rfl rfl rfl ⟨_, rfl, r3 ⟨T, by omega⟩⟩
    · refine WP_n 1 rfl ?_
      refine WP2_callS 1 ok_M_G_isFloor rfl rfl rfl rfl rfl rfl rfl (Nat.le_of_ble_eq_true rfl) (Nat.le_of_ble_eq_true rfl) ?_
      refine sp_isFloor hf (fun hF => ?_) (fun hF hFb => ?_)
      · refine WP_ifne rfl rfl ⟨by decide, by decide⟩  (fun h9 => absurd h9 (by decide)) (fun h9 => ?_)
        refine WP_n 2 rfl ?_
        refine WP2_callV 1 ok_M_G_no rfl rfl rfl rfl rfl rfl (Nat.le_of_ble_eq_true rfl) (Nat.le_of_ble_eq_true rfl) rfl rfl ?_
        refine sp_no (k := 1) rfl (by omega) ?_
        exact WP_iret rfl rfl rfl ⟨_, rfl, r1 (by omega)⟩
      · refine WP_ifne rfl rfl ⟨by decide, by decide⟩  (fun h9 => ?_) (fun h9 => absurd (by decide) h9)
        obtain ⟨T, rfl⟩ : ∃ T : Nat, t = (T : Int) := ⟨t.toNat, by omega⟩
        have hq := hI.2.2.2.2.1 T (by omega)
        unfold mTm at hq
        refine WP_n 1 rfl ?_
        refine WP2_getf rfl rfl rfl rfl rfl ?_
        refine WP_n 1 rfl ?_
        refine WP2_zald (j := T) rfl rfl rfl (by omega) (by omega) ?_
        refine WP_ifeq rfl rfl ⟨by omega, by omega⟩ (fun h18 => ?_) (fun h18 => ?_)
        · refine WP_n 1 rfl ?_
          refine WP2_getf rfl rfl rfl rfl rfl ?_
          refine WP_n 1 rfl ?_
          refine WP2_iald (j := T) rfl rfl (ia_lit (n := 16) rfl rfl (by omega)) (by omega) (by omega) (by omega) ?_
          refine WP_n 2 rfl ?_
          refine WP2_getf rfl rfl rfl rfl rfl ?_
          refine WP_n 2 rfl ?_
          refine WP2_iast (j := T) rfl rfl (ia_lit (n := 16) rfl rfl (by omega)) (by omega) (by omega) (by omega) ?_
          refine WP_n 1 rfl ?_
          exact WP_iret rfl rfl rfl ⟨_, rfl, ok T (by omega)⟩
        · refine WP_n 2 rfl ?_
          refine WP2_callV 1 ok_M_G_no rfl rfl rfl rfl rfl rfl (Nat.le_of_ble_eq_true rfl) (Nat.le_of_ble_eq_true rfl) rfl rfl ?_
          refine sp_no (k := 3) rfl (by omega) ?_
          exact WP_iret rfl rfl rfl ⟨_, rfl, r3 ⟨T, by omega⟩⟩
theorem pr_sit {P : PP} {n : Nat} {FI A L : Nat → Nat → Int} {X : SX} (h : INV P n FI A X) (hn : n < 512) {t f : Int} (ht : inR t) (hf : inR f) : PAIR P n (FI, A, L, X) M_F_sit [some (vr 5), some (vi t), some (vi f)] M_G_sit [some (vr 165), some (vi t), some (vi f), none] := by
  intro d
  have hm := h.mI
  have hn5 := h.1
  have hcI := h.2.1
  have g1 := h.2.2.1.1
  have gf : ∀ T, T < 16 → A 178 T = A (20 + T) 5 := fun T hT => (h.2.2.1.2.2.2.1 T hT).2.2.2
  obtain ⟨lt, ut⟩ := id ht
  obtain ⟨lf, uf⟩ := id hf
  have hk1 := hcI.1
  refine sp_F_sit ht hf hcI hn5 (fun c1 => ?_) (fun c1 => ?_) (fun T c1 => ?_)
  · refine ⟨_, rfl, ?_⟩
    refine sp_G_sit ht hf (hm.up (by omega)) (fun c2 => ?_) (fun c2 => ?_) (fun T' c2 => ?_)
    · exact ⟨rfl, INV_ref h hn (by omega)⟩
    · obtain ⟨T, c2⟩ := c2
      exfalso; omega
    · exfalso; omega
  · obtain ⟨T, c1⟩ := c1
    refine ⟨_, rfl, ?_⟩
    have e := gf T (by omega)
    refine sp_G_sit ht hf (hm.up (by omega)) (fun c2 => ?_) (fun c2 => ?_) (fun T' c2 => ?_)
    · exfalso; omega
    · exact ⟨rfl, INV_ref h hn (by omega)⟩
    · obtain rfl : T = T' := by omega
      simp (disch := omega) only [up2_ne] at c2
      exfalso; omega
  · have e := gf T (by omega)
    refine ⟨_, rfl, ?_⟩
    refine sp_G_sit ht hf (hm.up (by omega)) (fun c2 => ?_) (fun c2 => ?_) (fun T' c2 => ?_)
    · exfalso; omega
    · obtain ⟨T', c2⟩ := c2
      obtain rfl : T = T' := by omega
      simp (disch := omega) only [up2_ne] at c2
      exfalso; omega
    · obtain rfl : T = T' := by omega
      refine ⟨?_, INV_sit h hn (by omega) (by omega) (by omega)⟩
      simp (disch := omega) only [up2_ne]
      rw [(((h.2.2.1.2.2.2.1 T (by omega)).1 (by omega)).2.2.2.2.1)]
theorem sp_F_target {P : PP} {d n : Nat} {FI A L : Nat → Nat → Int} {X : SX} {Q : Option AV → S2 → Prop} {t f : Int} (ht : inR t) (hf : inR f) (hI : cI n FI A) (hn5 : n ≤ 512) (r1 : ((t < 0 ∨ FI 6 8 ≤ t) ∨ (f ≠ -9 ∧ (f < 0 ∨ 11 ≤ f))) → Q (some (vi (-1))) (FI, rfC A 1, L, X)) (ok : ∀ T : Nat, (t = (T : Int) ∧ (T : Int) < FI 6 8 ∧ (f = -9 ∨ (0 ≤ f ∧ f < 11))) → Q (some (vi (A (20 + T) 6))) (FI, up2 A (20 + T) 6 f, L, X)) : WP2 P M_F_target (d + 2) 0 [some (vr 5), some (vi t), some (vi f)] [] (FI, A, L, X) Q := by
  obtain ⟨lt, ut⟩ := id ht
  obtain ⟨lf, uf⟩ := id hf
  have hcc := hI.1
  refine WP_n 2 rfl ?_
  refine WP2_callV 1 ok_M_F_noTeam rfl rfl rfl rfl rfl rfl (Nat.le_of_ble_eq_true rfl) (Nat.le_of_ble_eq_true rfl) rfl rfl ?_
  refine sp_noTeam ht ⟨by omega, by omega⟩ (fun hTt => ?_) (fun hTt hTtb => ?_)
  · refine WP_ifne rfl rfl ⟨by decide, by decide⟩  (fun h3 => ?_) (fun h3 => absurd (by decide) h3)
    refine WP_n 2 rfl ?_
    refine WP2_callV 1 ok_M_F_refuse rfl rfl rfl rfl rfl rfl (Nat.le_of_ble_eq_true rfl) (Nat.le_of_ble_eq_true rfl) rfl rfl ?_
    refine sp_refuse (k := 1) rfl (by omega) ?_
    exact WP_iret rfl rfl rfl ⟨_, rfl, r1 (by omega)⟩
  · refine WP_ifne rfl rfl ⟨by decide, by decide⟩  (fun h3 => absurd h3 (by decide)) (fun h3 => ?_)
    refine WP_n 2 rfl ?_
    refine WP_icmpeq rfl rfl ⟨by omega, by omega⟩ ⟨by omega, by omega⟩ (fun h6 => ?_) (fun h6 => ?_)
    · obtain ⟨T, rfl⟩ : ∃ T : Nat, t = (T : Int) := ⟨t.toNat, by omega⟩
      refine WP_n 1 rfl ?_
      refine WP2_getf rfl rfl rfl rfl rfl ?_
      refine WP2_getf rfl rfl rfl rfl rfl ?_
      refine WP_n 1 rfl ?_
      refine WP2_aald (b := 20) (j := T) (n := 16) rfl rfl rfl rfl rfl (by omega) (by omega) ?_
      refine WP_n 2 rfl ?_
      refine WP2_callS 3 ok_M_F_exchange rfl rfl rfl rfl rfl rfl rfl (Nat.le_of_ble_eq_true rfl) (Nat.le_of_ble_eq_true rfl) ?_
      refine sp_exchange (j := 6) (ia_tm (by omega)) (by omega) rfl (by omega) (by omega) ?_
      exact WP_iret rfl rfl rfl ⟨_, rfl, ok T (by omega)⟩
    · refine WP_n 1 rfl ?_
      refine WP2_callS 1 ok_M_F_noFloor rfl rfl rfl rfl rfl rfl rfl (Nat.le_of_ble_eq_true rfl) (Nat.le_of_ble_eq_true rfl) ?_
      refine sp_noFloor hf (fun hF => ?_) (fun hF hFb => ?_)
      · refine WP_ifeq rfl rfl ⟨by decide, by decide⟩  (fun h9 => absurd h9 (by decide)) (fun h9 => ?_)
        refine WP_n 2 rfl ?_
        refine WP2_callV 1 ok_M_F_refuse rfl rfl rfl rfl rfl rfl (Nat.le_of_ble_eq_true rfl) (Nat.le_of_ble_eq_true rfl) rfl rfl ?_
        refine sp_refuse (k := 1) rfl (by omega) ?_
        exact WP_iret rfl rfl rfl ⟨_, rfl, r1 (by omega)⟩
      · refine WP_ifeq rfl rfl ⟨by decide, by decide⟩  (fun h9 => ?_) (fun h9 => absurd (by decide) h9)
        obtain ⟨T, rfl⟩ : ∃ T : Nat, t = (T : Int) := ⟨t.toNat, by omega⟩
        refine WP_n 1 rfl ?_
        refine WP2_getf rfl rfl rfl rfl rfl ?_
        refine WP2_getf rfl rfl rfl rfl rfl ?_
        refine WP_n 1 rfl ?_
        refine WP2_aald (b := 20) (j := T) (n := 16) rfl rfl rfl rfl rfl (by omega) (by omega) ?_
        refine WP_n 2 rfl ?_
        refine WP2_callS 3 ok_M_F_exchange rfl rfl rfl rfl rfl rfl rfl (Nat.le_of_ble_eq_true rfl) (Nat.le_of_ble_eq_true rfl) ?_
        refine sp_exchange (j := 6) (ia_tm (by omega)) (by omega) rfl (by omega) (by omega) ?_
        exact WP_iret rfl rfl rfl ⟨_, rfl, ok T (by omega)⟩
theorem sp_G_target {P : PP} {d n : Nat} {FI A L : Nat → Nat → Int} {X : SX} {Q : Option AV → S2 → Prop} {t f : Int} (ht : inR t) (hf : inR f) (hI : mI n FI A) (r1 : ((t < 0 ∨ FI 165 0 ≤ t) ∨ (f ≠ -9 ∧ (f < 0 ∨ 11 ≤ f))) → Q (some (vi (-1))) (FI, rfG A 1, L, X)) (ok : ∀ T : Nat, (t = (T : Int) ∧ (T : Int) < FI 165 0 ∧ (f = -9 ∨ (0 ≤ f ∧ f < 11))) → Q (some (vi (A 175 T))) (FI, up2 A 175 T f, L, X)) : WP2 P M_G_target (d + 2) 0 [some (vr 165), some (vi t), some (vi f), none] [] (FI, A, L, X) Q := by
  obtain ⟨lt, ut⟩ := id ht
  obtain ⟨lf, uf⟩ := id hf
  have hcc := hI.2.1
  refine WP_n 2 rfl ?_
  refine WP2_callV 1 ok_M_G_isTeam rfl rfl rfl rfl rfl rfl (Nat.le_of_ble_eq_true rfl) (Nat.le_of_ble_eq_true rfl) rfl rfl ?_
  refine sp_isTeam ht ⟨by omega, by omega⟩ (fun hTt => ?_) (fun hTt hTtb => ?_)
  · refine WP_ifeq rfl rfl ⟨by decide, by decide⟩  (fun h3 => ?_) (fun h3 => absurd (by decide) h3)
    refine WP_n 2 rfl ?_
    refine WP2_callV 1 ok_M_G_no rfl rfl rfl rfl rfl rfl (Nat.le_of_ble_eq_true rfl) (Nat.le_of_ble_eq_true rfl) rfl rfl ?_
    refine sp_no (k := 1) rfl (by omega) ?_
    exact WP_iret rfl rfl rfl ⟨_, rfl, r1 (by omega)⟩
  · refine WP_ifeq rfl rfl ⟨by decide, by decide⟩  (fun h3 => absurd h3 (by decide)) (fun h3 => ?_)
    refine WP_n 2 rfl ?_
    refine WP_icmpeq rfl rfl ⟨by omega, by omega⟩ ⟨by omega, by omega⟩ (fun h6 => ?_) (fun h6 => ?_)
    · obtain ⟨T, rfl⟩ : ∃ T : Nat, t = (T : Int) := ⟨t.toNat, by omega⟩
      refine WP_n 1 rfl ?_
      refine WP2_getf rfl rfl rfl rfl rfl ?_
      refine WP_n 1 rfl ?_
      refine WP2_iald (j := T) rfl rfl (ia_lit (n := 16) rfl rfl (by omega)) (by omega) (by omega) (by omega) ?_
      refine WP_n 2 rfl ?_
      refine WP2_getf rfl rfl rfl rfl rfl ?_
      refine WP_n 2 rfl ?_
      refine WP2_iast (j := T) rfl rfl (ia_lit (n := 16) rfl rfl (by omega)) (by omega) (by omega) (by omega) ?_
      refine WP_n 1 rfl ?_
      exact WP_iret rfl rfl rfl ⟨_, rfl, ok T (by omega)⟩
    · refine WP_n 1 rfl ?_
      refine WP2_callS 1 ok_M_G_isFloor rfl rfl rfl rfl rfl rfl rfl (Nat.le_of_ble_eq_true rfl) (Nat.le_of_ble_eq_true rfl) ?_
      refine sp_isFloor hf (fun hF => ?_) (fun hF hFb => ?_)
      · refine WP_ifne rfl rfl ⟨by decide, by decide⟩  (fun h9 => absurd h9 (by decide)) (fun h9 => ?_)
        refine WP_n 2 rfl ?_
        refine WP2_callV 1 ok_M_G_no rfl rfl rfl rfl rfl rfl (Nat.le_of_ble_eq_true rfl) (Nat.le_of_ble_eq_true rfl) rfl rfl ?_
        refine sp_no (k := 1) rfl (by omega) ?_
        exact WP_iret rfl rfl rfl ⟨_, rfl, r1 (by omega)⟩
      · refine WP_ifne rfl rfl ⟨by decide, by decide⟩  (fun h9 => ?_) (fun h9 => absurd (by decide) h9)
        obtain ⟨T, rfl⟩ : ∃ T : Nat, t = (T : Int) := ⟨t.toNat, by omega⟩
        refine WP_n 1 rfl ?_
        refine WP2_getf rfl rfl rfl rfl rfl ?_
        refine WP_n 1 rfl ?_
        refine WP2_iald (j := T) rfl rfl (ia_lit (n := 16) rfl rfl (by omega)) (by omega) (by omega) (by omega) ?_
        refine WP_n 2 rfl ?_
        refine WP2_getf rfl rfl rfl rfl rfl ?_
        refine WP_n 2 rfl ?_
        refine WP2_iast (j := T) rfl rfl (ia_lit (n := 16) rfl rfl (by omega)) (by omega) (by omega) (by omega) ?_
        refine WP_n 1 rfl ?_
        exact WP_iret rfl rfl rfl ⟨_, rfl, ok T (by omega)⟩
theorem pr_target {P : PP} {n : Nat} {FI A L : Nat → Nat → Int} {X : SX} (h : INV P n FI A X) (hn : n < 512) {t f : Int} (ht : inR t) (hf : inR f) : PAIR P n (FI, A, L, X) M_F_target [some (vr 5), some (vi t), some (vi f)] M_G_target [some (vr 165), some (vi t), some (vi f), none] := by
  intro d
  have hm := h.mI
  have hn5 := h.1
  have hcI := h.2.1
  have hk1 := hcI.1
  have g1 := h.2.2.1.1
  obtain ⟨lt, ut⟩ := id ht
  obtain ⟨lf, uf⟩ := id hf
  refine sp_F_target ht hf hcI hn5 (fun c1 => ?_) (fun T c1 => ?_)
  · refine ⟨_, rfl, ?_⟩
    refine sp_G_target ht hf (hm.up (by omega)) (fun c2 => ?_) (fun T' c2 => ?_)
    · exact ⟨rfl, INV_ref h hn (by omega)⟩
    · exfalso; omega
  · refine ⟨_, rfl, ?_⟩
    refine sp_G_target ht hf (hm.up (by omega)) (fun c2 => ?_) (fun T' c2 => ?_)
    · exfalso; omega
    · obtain rfl : T = T' := by omega
      refine ⟨?_, INV_target h hn (by omega) (by omega) (by omega)⟩
      simp (disch := omega) only [up2_ne]
      rw [(((h.2.2.1.2.2.2.1 T (by omega)).1 (by omega)).2.2.2.2.2)]
theorem sp_F_lift {P : PP} {d n : Nat} {FI A L : Nat → Nat → Int} {X : SX} {Q : Option AV → S2 → Prop} {v : Int} (hv : inR v) (hI : cI n FI A) (hn5 : n ≤ 512) (r4 : (v < 1) → Q (some (vi (-4))) (FI, rfC A 4, L, X)) (r6 : (9 < v) → Q (some (vi (-6))) (FI, rfC A 6, L, X)) (ok : (1 ≤ v ∧ v ≤ 9) → Q (some (vi (FI 6 9))) (up2 FI 6 9 v, A, L, X)) : WP2 P M_F_lift (d + 2) 0 [some (vr 5), some (vi v), none] [] (FI, A, L, X) Q := by
  obtain ⟨lv, uv⟩ := id hv
  have hcc := hI.1
  refine WP_n 2 rfl ?_
  refine WP_icmpge rfl rfl ⟨by omega, by omega⟩ ⟨by omega, by omega⟩ (fun h2 => ?_) (fun h2 => ?_)
  · refine WP_n 2 rfl ?_
    refine WP_icmple rfl rfl ⟨by omega, by omega⟩ ⟨by omega, by omega⟩ (fun h9 => ?_) (fun h9 => ?_)
    · refine WP_n 1 rfl ?_
      refine WP2_getf rfl rfl rfl rfl rfl ?_
      refine WP2_getf rfl rfl rfl rfl rfl ?_
      refine WP_n 2 rfl ?_
      refine WP2_getf rfl rfl rfl rfl rfl ?_
      refine WP_n 1 rfl ?_
      refine WP2_putk (k := 9) rfl rfl rfl rfl rfl rfl (by exact trivial) ?_
      refine WP_n 1 rfl ?_
      exact WP_iret rfl rfl rfl ⟨_, rfl, ok (by omega)⟩
    · refine WP_n 2 rfl ?_
      refine WP2_callV 1 ok_M_F_refuse rfl rfl rfl rfl rfl rfl (Nat.le_of_ble_eq_true rfl) (Nat.le_of_ble_eq_true rfl) rfl rfl ?_
      refine sp_refuse (k := 6) rfl (by omega) ?_
      exact WP_iret rfl rfl rfl ⟨_, rfl, r6 (by omega)⟩
  · refine WP_n 2 rfl ?_
    refine WP2_callV 1 ok_M_F_refuse rfl rfl rfl rfl rfl rfl (Nat.le_of_ble_eq_true rfl) (Nat.le_of_ble_eq_true rfl) rfl rfl ?_
    refine sp_refuse (k := 4) rfl (by omega) ?_
    exact WP_iret rfl rfl rfl ⟨_, rfl, r4 (by omega)⟩
theorem sp_G_lift {P : PP} {d n : Nat} {FI A L : Nat → Nat → Int} {X : SX} {Q : Option AV → S2 → Prop} {v : Int} (hv : inR v) (hI : mI n FI A) (r4 : (v < 1) → Q (some (vi (-4))) (FI, rfG A 4, L, X)) (r6 : (9 < v) → Q (some (vi (-6))) (FI, rfG A 6, L, X)) (ok : (1 ≤ v ∧ v ≤ 9) → Q (some (vi (FI 165 1))) (up2 FI 165 1 v, A, L, X)) : WP2 P M_G_lift (d + 2) 0 [some (vr 165), some (vi v), none] [] (FI, A, L, X) Q := by
  obtain ⟨lv, uv⟩ := id hv
  have hcc := hI.2.1
  refine WP_n 2 rfl ?_
  refine WP_icmpge rfl rfl ⟨by omega, by omega⟩ ⟨by omega, by omega⟩ (fun h2 => ?_) (fun h2 => ?_)
  · refine WP_n 2 rfl ?_
    refine WP_icmple rfl rfl ⟨by omega, by omega⟩ ⟨by omega, by omega⟩ (fun h9 => ?_) (fun h9 => ?_)
    · refine WP_n 1 rfl ?_
      refine WP2_getf rfl rfl rfl rfl rfl ?_
      refine WP_n 3 rfl ?_
      refine WP2_putk (k := 1) rfl rfl rfl rfl rfl rfl (by exact trivial) ?_
      refine WP_n 1 rfl ?_
      exact WP_iret rfl rfl rfl ⟨_, rfl, ok (by omega)⟩
    · refine WP_n 2 rfl ?_
      refine WP2_callV 1 ok_M_G_no rfl rfl rfl rfl rfl rfl (Nat.le_of_ble_eq_true rfl) (Nat.le_of_ble_eq_true rfl) rfl rfl ?_
      refine sp_no (k := 6) rfl (by omega) ?_
      exact WP_iret rfl rfl rfl ⟨_, rfl, r6 (by omega)⟩
  · refine WP_n 2 rfl ?_
    refine WP2_callV 1 ok_M_G_no rfl rfl rfl rfl rfl rfl (Nat.le_of_ble_eq_true rfl) (Nat.le_of_ble_eq_true rfl) rfl rfl ?_
    refine sp_no (k := 4) rfl (by omega) ?_
    exact WP_iret rfl rfl rfl ⟨_, rfl, r4 (by omega)⟩
theorem pr_lift {P : PP} {n : Nat} {FI A L : Nat → Nat → Int} {X : SX} (h : INV P n FI A X) (hn : n < 512) {v : Int} (hv : inR v) : PAIR P n (FI, A, L, X) M_F_lift [some (vr 5), some (vi v), none] M_G_lift [some (vr 165), some (vi v), none] := by
  intro d
  have hm := h.mI
  have hn5 := h.1
  have hcI := h.2.1
  have hk1 := hcI.1
  have g1 := h.2.2.1.1
  obtain ⟨lv, uv⟩ := id hv
  refine sp_F_lift hv hcI hn5 (fun c1 => ?_) (fun c1 => ?_) (fun c1 => ?_)
  · refine ⟨_, rfl, ?_⟩
    refine sp_G_lift hv (hm.up (by omega)) (fun c2 => ?_) (fun c2 => ?_) (fun c2 => ?_)
    · exact ⟨rfl, INV_ref h hn (by omega)⟩
    · exfalso; omega
    · exfalso; omega
  · refine ⟨_, rfl, ?_⟩
    refine sp_G_lift hv (hm.up (by omega)) (fun c2 => ?_) (fun c2 => ?_) (fun c2 => ?_)
    · exfalso; omega
    · exact ⟨rfl, INV_ref h hn (by omega)⟩
    · exfalso; omega
  · refine ⟨_, rfl, ?_⟩
    refine sp_G_lift hv (hm.upF (by omega)) (fun c2 => ?_) (fun c2 => ?_) (fun c2 => ?_)
    · exfalso; omega
    · exfalso; omega
    · refine ⟨?_, INV_lift h hn c1⟩
      simp (disch := omega) only [up2_ne]
      rw [h.2.2.1.2.1]
theorem sp_F_grow {P : PP} {d n : Nat} {FI A L : Nat → Nat → Int} {X : SX} {Q : Option AV → S2 → Prop} {t q v : Int} (ht : inR t) (hq : inR q) (hv : inR v) (hI : cI n FI A) (hn5 : n ≤ 512) (r1 : ((t < 0 ∨ FI 6 8 ≤ t) ∨ (q < 0 ∨ 20 ≤ q)) → Q (some (vi (-1))) (FI, rfC A 1, L, X)) (r4 : (0 ≤ t ∧ t < FI 6 8 ∧ 0 ≤ q ∧ q < 20 ∧ v < -1) → Q (some (vi (-4))) (FI, rfC A 4, L, X)) (r6 : (0 ≤ t ∧ t < FI 6 8 ∧ 0 ≤ q ∧ q < 20 ∧ 200 < v) → Q (some (vi (-6))) (FI, rfC A 6, L, X)) (ok : ∀ T q9 : Nat, (t = (T : Int) ∧ (T : Int) < FI 6 8 ∧ q = (q9 : Int) ∧ q9 < 20 ∧ -1 ≤ v ∧ v ≤ 200) → Q (some (vi (1))) (FI, up2 A (122 + T) q9 v, L, X)) : WP2 P M_F_grow (d + 2) 0 [some (vr 5), some (vi t), some (vi q), some (vi v)] [] (FI, A, L, X) Q := by
  obtain ⟨lt, ut⟩ := id ht
  obtain ⟨lq, uq⟩ := id hq
  obtain ⟨lv, uv⟩ := id hv
  have hcc := hI.1
  refine WP_n 2 rfl ?_
  refine WP2_callV 1 ok_M_F_noTeam rfl rfl rfl rfl rfl rfl (Nat.le_of_ble_eq_true rfl) (Nat.le_of_ble_eq_true rfl) rfl rfl ?_
  refine sp_noTeam ht ⟨by omega, by omega⟩ (fun hTt => ?_) (fun hTt hTtb => ?_)
  · refine WP_ifne rfl rfl ⟨by decide, by decide⟩  (fun h3 => ?_) (fun h3 => absurd (by decide) h3)
    refine WP_n 2 rfl ?_
    refine WP2_callV 1 ok_M_F_refuse rfl rfl rfl rfl rfl rfl (Nat.le_of_ble_eq_true rfl) (Nat.le_of_ble_eq_true rfl) rfl rfl ?_
    refine sp_refuse (k := 1) rfl (by omega) ?_
    exact WP_iret rfl rfl rfl ⟨_, rfl, r1 (by omega)⟩
  · refine WP_ifne rfl rfl ⟨by decide, by decide⟩  (fun h3 => absurd h3 (by decide)) (fun h3 => ?_)
    refine WP_n 1 rfl ?_
    refine WP2_callS 1 ok_M_F_noQuarter rfl rfl rfl rfl rfl rfl rfl (Nat.le_of_ble_eq_true rfl) (Nat.le_of_ble_eq_true rfl) ?_
    refine sp_noQuarter hq (fun hQ => ?_) (fun hQ hQb => ?_)
    · refine WP_ifeq rfl rfl ⟨by decide, by decide⟩  (fun h6 => absurd h6 (by decide)) (fun h6 => ?_)
      refine WP_n 2 rfl ?_
      refine WP2_callV 1 ok_M_F_refuse rfl rfl rfl rfl rfl rfl (Nat.le_of_ble_eq_true rfl) (Nat.le_of_ble_eq_true rfl) rfl rfl ?_
      refine sp_refuse (k := 1) rfl (by omega) ?_
      exact WP_iret rfl rfl rfl ⟨_, rfl, r1 (by omega)⟩
    · refine WP_ifeq rfl rfl ⟨by decide, by decide⟩  (fun h6 => ?_) (fun h6 => absurd (by decide) h6)
      refine WP_n 2 rfl ?_
      refine WP_icmpge rfl rfl ⟨by omega, by omega⟩ ⟨by omega, by omega⟩ (fun h13 => ?_) (fun h13 => ?_)
      · refine WP_n 2 rfl ?_
        refine WP_icmple rfl rfl ⟨by omega, by omega⟩ ⟨by omega, by omega⟩ (fun h20 => ?_) (fun h20 => ?_)
        · obtain ⟨T, rfl⟩ : ∃ T : Nat, t = (T : Int) := ⟨t.toNat, by omega⟩
          obtain ⟨q9, rfl⟩ : ∃ q9 : Nat, q = (q9 : Int) := ⟨q.toNat, by omega⟩
          refine WP_n 1 rfl ?_
          refine WP2_getf rfl rfl rfl rfl rfl ?_
          refine WP2_getf rfl rfl rfl rfl rfl ?_
          refine WP_n 1 rfl ?_
          refine WP2_aald (b := 122) (j := T) (n := 16) rfl rfl rfl rfl rfl (by omega) (by omega) ?_
          refine WP_n 2 rfl ?_
          refine WP2_iast (j := q9) rfl rfl (ia_gw (by omega)) (by omega) (by omega) (by omega) ?_
          refine WP_n 1 rfl ?_
          exact WP_iret rfl rfl rfl ⟨_, rfl, ok T q9 (by omega)⟩
        · refine WP_n 2 rfl ?_
          refine WP2_callV 1 ok_M_F_refuse rfl rfl rfl rfl rfl rfl (Nat.le_of_ble_eq_true rfl) (Nat.le_of_ble_eq_true rfl) rfl rfl ?_
          refine sp_refuse (k := 6) rfl (by omega) ?_
          exact WP_iret rfl rfl rfl ⟨_, rfl, r6 (by omega)⟩
      · refine WP_n 2 rfl ?_
        refine WP2_callV 1 ok_M_F_refuse rfl rfl rfl rfl rfl rfl (Nat.le_of_ble_eq_true rfl) (Nat.le_of_ble_eq_true rfl) rfl rfl ?_
        refine sp_refuse (k := 4) rfl (by omega) ?_
        exact WP_iret rfl rfl rfl ⟨_, rfl, r4 (by omega)⟩
theorem sp_G_grow {P : PP} {d n : Nat} {FI A L : Nat → Nat → Int} {X : SX} {Q : Option AV → S2 → Prop} {t q v : Int} (ht : inR t) (hq : inR q) (hv : inR v) (hI : mI n FI A) (r1 : ((t < 0 ∨ FI 165 0 ≤ t) ∨ (q < 0 ∨ 20 ≤ q)) → Q (some (vi (-1))) (FI, rfG A 1, L, X)) (r4 : (0 ≤ t ∧ t < FI 165 0 ∧ 0 ≤ q ∧ q < 20 ∧ v < -1) → Q (some (vi (-4))) (FI, rfG A 4, L, X)) (r6 : (0 ≤ t ∧ t < FI 165 0 ∧ 0 ≤ q ∧ q < 20 ∧ 200 < v) → Q (some (vi (-6))) (FI, rfG A 6, L, X)) (ok : ∀ T q9 : Nat, (t = (T : Int) ∧ (T : Int) < FI 165 0 ∧ q = (q9 : Int) ∧ q9 < 20 ∧ -1 ≤ v ∧ v ≤ 200) → Q (some (vi (1))) (FI, up2 A 184 (20 * T + q9) v, L, X)) : WP2 P M_G_grow (d + 2) 0 [some (vr 165), some (vi t), some (vi q), some (vi v)] [] (FI, A, L, X) Q := by
  obtain ⟨lt, ut⟩ := id ht
  obtain ⟨lq, uq⟩ := id hq
  obtain ⟨lv, uv⟩ := id hv
  have hcc := hI.2.1
  refine WP_n 2 rfl ?_
  refine WP2_callV 1 ok_M_G_isTeam rfl rfl rfl rfl rfl rfl (Nat.le_of_ble_eq_true rfl) (Nat.le_of_ble_eq_true rfl) rfl rfl ?_
  refine sp_isTeam ht ⟨by omega, by omega⟩ (fun hTt => ?_) (fun hTt hTtb => ?_)
  · refine WP_ifeq rfl rfl ⟨by decide, by decide⟩  (fun h3 => ?_) (fun h3 => absurd (by decide) h3)
    refine WP_n 2 rfl ?_
    refine WP2_callV 1 ok_M_G_no rfl rfl rfl rfl rfl rfl (Nat.le_of_ble_eq_true rfl) (Nat.le_of_ble_eq_true rfl) rfl rfl ?_
    refine sp_no (k := 1) rfl (by omega) ?_
    exact WP_iret rfl rfl rfl ⟨_, rfl, r1 (by omega)⟩
  · refine WP_ifeq rfl rfl ⟨by decide, by decide⟩  (fun h3 => absurd h3 (by decide)) (fun h3 => ?_)
    refine WP_n 1 rfl ?_
    refine WP_iflt rfl rfl ⟨by omega, by omega⟩ (fun h5 => ?_) (fun h5 => ?_)
    · refine WP_n 2 rfl ?_
      refine WP2_callV 1 ok_M_G_no rfl rfl rfl rfl rfl rfl (Nat.le_of_ble_eq_true rfl) (Nat.le_of_ble_eq_true rfl) rfl rfl ?_
      refine sp_no (k := 1) rfl (by omega) ?_
      exact WP_iret rfl rfl rfl ⟨_, rfl, r1 (by omega)⟩
    · refine WP_n 2 rfl ?_
      refine WP_icmple rfl rfl ⟨by omega, by omega⟩ ⟨by omega, by omega⟩ (fun h8 => ?_) (fun h8 => ?_)
      · refine WP_n 2 rfl ?_
        refine WP_icmpge rfl rfl ⟨by omega, by omega⟩ ⟨by omega, by omega⟩ (fun h15 => ?_) (fun h15 => ?_)
        · refine WP_n 2 rfl ?_
          refine WP_icmple rfl rfl ⟨by omega, by omega⟩ ⟨by omega, by omega⟩ (fun h22 => ?_) (fun h22 => ?_)
          · obtain ⟨T, rfl⟩ : ∃ T : Nat, t = (T : Int) := ⟨t.toNat, by omega⟩
            obtain ⟨q9, rfl⟩ : ∃ q9 : Nat, q = (q9 : Int) := ⟨q.toNat, by omega⟩
            refine WP_n 1 rfl ?_
            refine WP2_getf rfl rfl rfl rfl rfl ?_
            refine WP_n 6 rfl ?_
            refine WP2_iast (j := ((20 * T) + q9)) rfl rfl (ia_lit (n := 320) rfl rfl (by omega)) (by omega) (by omega) (by omega) ?_
            refine WP_n 1 rfl ?_
            exact WP_iret rfl rfl rfl ⟨_, rfl, ok T q9 (by omega)⟩
          · refine WP_n 2 rfl ?_
            refine WP2_callV 1 ok_M_G_no rfl rfl rfl rfl rfl rfl (Nat.le_of_ble_eq_true rfl) (Nat.le_of_ble_eq_true rfl) rfl rfl ?_
            refine sp_no (k := 6) rfl (by omega) ?_
            exact WP_iret rfl rfl rfl ⟨_, rfl, r6 (by omega)⟩
        · refine WP_n 2 rfl ?_
          refine WP2_callV 1 ok_M_G_no rfl rfl rfl rfl rfl rfl (Nat.le_of_ble_eq_true rfl) (Nat.le_of_ble_eq_true rfl) rfl rfl ?_
          refine sp_no (k := 4) rfl (by omega) ?_
          exact WP_iret rfl rfl rfl ⟨_, rfl, r4 (by omega)⟩
      · refine WP_n 2 rfl ?_
        refine WP2_callV 1 ok_M_G_no rfl rfl rfl rfl rfl rfl (Nat.le_of_ble_eq_true rfl) (Nat.le_of_ble_eq_true rfl) rfl rfl ?_
        refine sp_no (k := 1) rfl (by omega) ?_
        exact WP_iret rfl rfl rfl ⟨_, rfl, r1 (by omega)⟩
theorem pr_grow {P : PP} {n : Nat} {FI A L : Nat → Nat → Int} {X : SX} (h : INV P n FI A X) (hn : n < 512) {t q v : Int} (ht : inR t) (hq : inR q) (hv : inR v) : PAIR P n (FI, A, L, X) M_F_grow [some (vr 5), some (vi t), some (vi q), some (vi v)] M_G_grow [some (vr 165), some (vi t), some (vi q), some (vi v)] := by
  intro d
  have hm := h.mI
  have hn5 := h.1
  have hcI := h.2.1
  have hk1 := hcI.1
  have g1 := h.2.2.1.1
  obtain ⟨lt, ut⟩ := id ht
  obtain ⟨lq, uq⟩ := id hq
  obtain ⟨lv, uv⟩ := id hv
  refine sp_F_grow ht hq hv hcI hn5 (fun c1 => ?_) (fun c1 => ?_) (fun c1 => ?_) (fun T q9 c1 => ?_)
  · refine ⟨_, rfl, ?_⟩
    refine sp_G_grow ht hq hv (hm.up (by omega)) (fun c2 => ?_) (fun c2 => ?_) (fun c2 => ?_) (fun T' q9' c2 => ?_)
    · exact ⟨rfl, INV_ref h hn (by omega)⟩
    · exfalso; omega
    · exfalso; omega
    · exfalso; omega
  · refine ⟨_, rfl, ?_⟩
    refine sp_G_grow ht hq hv (hm.up (by omega)) (fun c2 => ?_) (fun c2 => ?_) (fun c2 => ?_) (fun T' q9' c2 => ?_)
    · exfalso; omega
    · exact ⟨rfl, INV_ref h hn (by omega)⟩
    · exfalso; omega
    · exfalso; omega
  · refine ⟨_, rfl, ?_⟩
    refine sp_G_grow ht hq hv (hm.up (by omega)) (fun c2 => ?_) (fun c2 => ?_) (fun c2 => ?_) (fun T' q9' c2 => ?_)
    · exfalso; omega
    · exfalso; omega
    · exact ⟨rfl, INV_ref h hn (by omega)⟩
    · exfalso; omega
  · refine ⟨_, rfl, ?_⟩
    refine sp_G_grow ht hq hv (hm.up (by omega)) (fun c2 => ?_) (fun c2 => ?_) (fun c2 => ?_) (fun T' q9' c2 => ?_)
    · exfalso; omega
    · exfalso; omega
    · exfalso; omega
    · obtain rfl : T = T' := by omega
      obtain rfl : q9 = q9' := by omega
      exact ⟨rfl, INV_grow h hn (by omega) (by omega) (by omega)⟩

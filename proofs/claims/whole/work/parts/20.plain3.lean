/-! two and teamOf, both sides -/
theorem pr_two {P : PP} {n : Nat} {FI A L : Nat → Nat → Int} {X : SX} (h : INV P n FI A X) (hn : n < 512) {a b w v : Int} (ha : inR a) (hb : inR b) (hw : inR w) (hv : inR v) : PAIR P n (FI, A, L, X) M_F_two [some (vr 5), some (vi a), some (vi b), some (vi w), some (vi v), none] M_G_two [some (vr 165), some (vi a), some (vi b), some (vi w), some (vi v), none, none] := by
  intro d
  have hm := h.mI
  have hn5 := h.1
  have hcI := h.2.1
  have hk1 := hcI.1
  have g1 := h.2.2.1.1
  refine sp_F_two ha hb hw hv hcI hn5 (fun c1 => ?_) (fun c1 => ?_) (fun c1 => ?_) (fun c1 => ?_) (fun a9 b9 W c1 => ?_)
  · refine ⟨_, rfl, ?_⟩
    refine sp_G_two ha hb hw hv (hm.up (by omega)) (fun c2 => ?_) (fun c2 => ?_) (fun c2 => ?_) (fun c2 => ?_) (fun a9' b9' W' c2 => ?_)
    · exact ⟨rfl, INV_ref h hn (by omega)⟩
    · exfalso; omega
    · exfalso; omega
    · obtain ⟨c20, W', c21, c22, c23, c24⟩ := c2
      exfalso; omega
    · exfalso; omega
  · refine ⟨_, rfl, ?_⟩
    refine sp_G_two ha hb hw hv (hm.up (by omega)) (fun c2 => ?_) (fun c2 => ?_) (fun c2 => ?_) (fun c2 => ?_) (fun a9' b9' W' c2 => ?_)
    · exfalso; omega
    · exact ⟨rfl, INV_ref h hn (by omega)⟩
    · exfalso; omega
    · obtain ⟨c20, W', c21, c22, c23, c24⟩ := c2
      exfalso; omega
    · exfalso; omega
  · refine ⟨_, rfl, ?_⟩
    refine sp_G_two ha hb hw hv (hm.up (by omega)) (fun c2 => ?_) (fun c2 => ?_) (fun c2 => ?_) (fun c2 => ?_) (fun a9' b9' W' c2 => ?_)
    · exfalso; omega
    · exfalso; omega
    · exact ⟨rfl, INV_ref h hn (by omega)⟩
    · obtain ⟨c20, W', c21, c22, c23, c24⟩ := c2
      exfalso; omega
    · exfalso; omega
  · obtain ⟨q0, W, q1, q2, q3, q4⟩ := c1
    refine ⟨_, rfl, ?_⟩
    refine sp_G_two ha hb hw hv (hm.up (by omega)) (fun c2 => ?_) (fun c2 => ?_) (fun c2 => ?_) (fun c2 => ?_) (fun a9' b9' W' c2 => ?_)
    · exfalso; omega
    · exfalso; omega
    · exfalso; omega
    · exact ⟨rfl, INV_ref h hn (by omega)⟩
    · obtain rfl : W = W' := by omega
      exfalso; omega
  · obtain ⟨q1, q2, q3, q4, q5, q6, q7, q8, q9⟩ := c1
    refine ⟨_, rfl, ?_⟩
    have hu : tbO W < 100 := by rcases (show W = 0 ∨ W = 1 ∨ W = 2 by omega) with rfl | rfl | rfl <;> decide
    refine sp_G_two ha hb hw hv ((hm.up (by omega)).up (by omega)) (fun c2 => ?_) (fun c2 => ?_) (fun c2 => ?_) (fun c2 => ?_) (fun a9' b9' W' c2 => ?_)
    · exfalso; omega
    · exfalso; omega
    · exfalso; omega
    · obtain ⟨c20, W', c21, c22, c23, c24⟩ := c2
      obtain rfl : W = W' := by omega
      exfalso; omega
    · obtain ⟨z1, z2, z3, z4, z5, z6, z7, z8, z9⟩ := c2
      obtain rfl : a9 = a9' := by omega
      obtain rfl : b9 = b9' := by omega
      obtain rfl : W = W' := by omega
      have k5 := hcI.2.2.2.2.1 a9 b9 (by omega) (by omega)
      have g5 := h.2.2.1.2.2.2.2.1 a9 b9 (by omega) (by omega)
      unfold cTw at k5
      unfold gTw at g5
      rcases (show W = 0 ∨ W = 1 ∨ W = 2 by omega) with rfl | rfl | rfl
      · have e : tbO 0 + 1 = 37 := rfl
        rw [e]
        simp only [TMt, List.getD_cons_zero, List.getD_cons_succ] at q9
        refine ⟨?_, INV_two0 h hn (by omega) (by omega) (by omega) (by omega)⟩
        simp (disch := omega) only [up2_ne]
        have : A (179 + 0) (16 * a9 + b9) = A (37 + b9) a9 := by
          show A 179 (16 * a9 + b9) = _
          omega
        rw [this]
      · have e : tbO 1 + 1 = 54 := rfl
        rw [e]
        simp only [TMt, List.getD_cons_zero, List.getD_cons_succ] at q9
        refine ⟨?_, INV_two1 h hn (by omega) (by omega) (by omega) (by omega)⟩
        simp (disch := omega) only [up2_ne]
        have : A (179 + 1) (16 * a9 + b9) = A (54 + b9) a9 := by
          show A 180 (16 * a9 + b9) = _
          omega
        rw [this]
      · have e : tbO 2 + 1 = 71 := rfl
        rw [e]
        simp only [TMt, List.getD_cons_zero, List.getD_cons_succ] at q9
        refine ⟨?_, INV_two2 h hn (by omega) (by omega) (by omega) (by omega)⟩
        simp (disch := omega) only [up2_ne]
        have : A (179 + 2) (16 * a9 + b9) = A (71 + b9) a9 := by
          show A 181 (16 * a9 + b9) = _
          omega
        rw [this]
def mfa (W : Nat) : Nat := [170, 171, 172, 173, 174, 178, 175, 176, 177].getD W 0
theorem sp_F_teamOf {P : PP} {d n : Nat} {FI A L : Nat → Nat → Int} {X : SX} {Q : Option AV → S2 → Prop} {t w : Int} (ht : inR t) (hw : inR w) (hI : cI n FI A) (hn5 : n ≤ 512) (r1 : ((t < 0 ∨ FI 6 8 ≤ t)) → Q (some (vi (-1))) (FI, rfC A 1, L, X)) (r2 : (0 ≤ t ∧ t < FI 6 8 ∧ (w < 0 ∨ 9 ≤ w)) → Q (some (vi (-2))) (FI, rfC A 2, L, X)) (ok : ∀ T W : Nat, (t = (T : Int) ∧ (T : Int) < FI 6 8 ∧ w = (W : Int) ∧ W < 9) → Q (some (vi (A (20 + T) W))) (FI, A, L, X)) : WP2 P M_F_teamOf (d + 2) 0 [some (vr 5), some (vi t), some (vi w)] [] (FI, A, L, X) Q := by
  obtain ⟨lt, ut⟩ := id ht
  obtain ⟨lw, uw⟩ := id hw
  have hcc := hI.1
  refine WP_n 2 rfl ?_
  refine WP2_callV 1 ok_M_F_noTeam rfl rfl rfl rfl rfl rfl (Nat.le_of_ble_eq_true rfl) (Nat.le_of_ble_eq_true rfl) rfl rfl ?_
  refine sp_noTeam ht ⟨by omega, by omega⟩ (fun hTt => ?_) (fun hTt hTtb => ?_)
  · refine WP_ifeq rfl rfl ⟨by decide, by decide⟩  (fun h3 => absurd h3 (by decide)) (fun h3 => ?_)
    refine WP_n 2 rfl ?_
    refine WP2_callV 1 ok_M_F_refuse rfl rfl rfl rfl rfl rfl (Nat.le_of_ble_eq_true rfl) (Nat.le_of_ble_eq_true rfl) rfl rfl ?_
    refine sp_refuse (k := 1) rfl (by omega) ?_
    exact WP_iret rfl rfl rfl ⟨_, rfl, r1 (by omega)⟩
  · refine WP_ifeq rfl rfl ⟨by decide, by decide⟩  (fun h3 => ?_) (fun h3 => absurd (by decide) h3)
    refine WP_n 1 rfl ?_
    refine WP_iflt rfl rfl ⟨by omega, by omega⟩ (fun h9 => ?_) (fun h9 => ?_)
    · refine WP_n 2 rfl ?_
      refine WP2_callV 1 ok_M_F_refuse rfl rfl rfl rfl rfl rfl (Nat.le_of_ble_eq_true rfl) (Nat.le_of_ble_eq_true rfl) rfl rfl ?_
      refine sp_refuse (k := 2) rfl (by omega) ?_
      exact WP_iret rfl rfl rfl ⟨_, rfl, r2 (by omega)⟩
    · refine WP_n 2 rfl ?_
      refine WP_icmplt rfl rfl ⟨by omega, by omega⟩ ⟨by omega, by omega⟩ (fun h12 => ?_) (fun h12 => ?_)
      · obtain ⟨T, rfl⟩ : ∃ T : Nat, t = (T : Int) := ⟨t.toNat, by omega⟩
        obtain ⟨W, rfl⟩ : ∃ W : Nat, w = (W : Int) := ⟨w.toNat, by omega⟩
        refine WP_n 1 rfl ?_
        refine WP2_getf rfl rfl rfl rfl rfl ?_
        refine WP2_getf rfl rfl rfl rfl rfl ?_
        refine WP_n 1 rfl ?_
        refine WP2_aald (b := 20) (j := T) (n := 16) rfl rfl rfl rfl rfl (by omega) (by omega) ?_
        refine WP_n 1 rfl ?_
        refine WP2_iald (j := W) rfl rfl (ia_tm (by omega)) (by omega) (by omega) (by omega) ?_
        exact WP_iret rfl rfl rfl ⟨_, rfl, ok T W (by omega)⟩
      · refine WP_n 2 rfl ?_
        refine WP2_callV 1 ok_M_F_refuse rfl rfl rfl rfl rfl rfl (Nat.le_of_ble_eq_true rfl) (Nat.le_of_ble_eq_true rfl) rfl rfl ?_
        refine sp_refuse (k := 2) rfl (by omega) ?_
        exact WP_iret rfl rfl rfl ⟨_, rfl, r2 (by omega)⟩
theorem sp_G_teamOf {P : PP} {d n : Nat} {FI A L : Nat → Nat → Int} {X : SX} {Q : Option AV → S2 → Prop} {t w : Int} (ht : inR t) (hw : inR w) (hI : mI n FI A) (r1 : ((t < 0 ∨ FI 165 0 ≤ t)) → Q (some (vi (-1))) (FI, rfG A 1, L, X)) (r2 : (0 ≤ t ∧ t < FI 165 0 ∧ (w < 0 ∨ 9 ≤ w)) → Q (some (vi (-2))) (FI, rfG A 2, L, X)) (ok : ∀ T W : Nat, (t = (T : Int) ∧ (T : Int) < FI 165 0 ∧ w = (W : Int) ∧ W < 9) → Q (some (vi (A (mfa W) T))) (FI, A, L, X)) : WP2 P M_G_teamOf (d + 2) 0 [some (vr 165), some (vi t), some (vi w)] [] (FI, A, L, X) Q := by
  obtain ⟨lt, ut⟩ := id ht
  obtain ⟨lw, uw⟩ := id hw
  have hcc := hI.2.1
  refine WP_n 2 rfl ?_
  refine WP2_callV 1 ok_M_G_isTeam rfl rfl rfl rfl rfl rfl (Nat.le_of_ble_eq_true rfl) (Nat.le_of_ble_eq_true rfl) rfl rfl ?_
  refine sp_isTeam ht ⟨by omega, by omega⟩ (fun hTt => ?_) (fun hTt hTtb => ?_)
  · refine WP_ifne rfl rfl ⟨by decide, by decide⟩  (fun h3 => absurd h3 (by decide)) (fun h3 => ?_)
    refine WP_n 2 rfl ?_
    refine WP2_callV 1 ok_M_G_no rfl rfl rfl rfl rfl rfl (Nat.le_of_ble_eq_true rfl) (Nat.le_of_ble_eq_true rfl) rfl rfl ?_
    refine sp_no (k := 1) rfl (by omega) ?_
    exact WP_iret rfl rfl rfl ⟨_, rfl, r1 (by omega)⟩
  · refine WP_ifne rfl rfl ⟨by decide, by decide⟩  (fun h3 => ?_) (fun h3 => absurd (by decide) h3)
    obtain ⟨T, rfl⟩ : ∃ T : Nat, t = (T : Int) := ⟨t.toNat, by omega⟩
    have hq := hI.2.2.2.2.1 T (by omega)
    unfold mTm at hq
    by_cases hw9 : w < 0 ∨ 9 ≤ w
    · refine WP_n 1 rfl ?_
      refine WP_tsOut (tgt := 59) rfl rfl ⟨by omega, by omega⟩ (by omega) rfl ?_
      refine WP_n 2 rfl ?_
      refine WP2_callV 1 ok_M_G_no rfl rfl rfl rfl rfl rfl (Nat.le_of_ble_eq_true rfl) (Nat.le_of_ble_eq_true rfl) rfl rfl ?_
      refine sp_no (k := 2) rfl (by omega) ?_
      exact WP_iret rfl rfl rfl ⟨_, rfl, r2 (by omega)⟩
    · obtain ⟨W, rfl⟩ : ∃ W : Nat, w = (W : Int) := ⟨w.toNat, by omega⟩
      rcases (show W = 0 ∨ W = 1 ∨ W = 2 ∨ W = 3 ∨ W = 4 ∨ W = 5 ∨ W = 6 ∨ W = 7 ∨ W = 8 by omega) with rfl | rfl | rfl | rfl | rfl | rfl | rfl | rfl | rfl
      · refine WP_n 1 rfl ?_
        refine WP_tsIn (tgt := 10) rfl rfl ⟨by decide, by decide⟩ (by decide) (by decide) rfl rfl ?_
        refine WP_n 1 rfl ?_
        refine WP2_getf rfl rfl rfl rfl rfl ?_
        refine WP_n 1 rfl ?_
        refine WP2_iald (j := T) rfl rfl (ia_lit (n := 16) rfl rfl (by omega)) (by omega) (by omega) (by omega) ?_
        exact WP_iret rfl rfl rfl ⟨_, rfl, ok T 0 (by omega)⟩
      · refine WP_n 1 rfl ?_
        refine WP_tsIn (tgt := 15) rfl rfl ⟨by decide, by decide⟩ (by decide) (by decide) rfl rfl ?_
        refine WP_n 1 rfl ?_
        refine WP2_getf rfl rfl rfl rfl rfl ?_
        refine WP_n 1 rfl ?_
        refine WP2_iald (j := T) rfl rfl (ia_lit (n := 16) rfl rfl (by omega)) (by omega) (by omega) (by omega) ?_
        exact WP_iret rfl rfl rfl ⟨_, rfl, ok T 1 (by omega)⟩
      · refine WP_n 1 rfl ?_
        refine WP_tsIn (tgt := 20) rfl rfl ⟨by decide, by decide⟩ (by decide) (by decide) rfl rfl ?_
        refine WP_n 1 rfl ?_
        refine WP2_getf rfl rfl rfl rfl rfl ?_
        refine WP_n 1 rfl ?_
        refine WP2_iald (j := T) rfl rfl (ia_lit (n := 16) rfl rfl (by omega)) (by omega) (by omega) (by omega) ?_
        exact WP_iret rfl rfl rfl ⟨_, rfl, ok T 2 (by omega)⟩
      · refine WP_n 1 rfl ?_
        refine WP_tsIn (tgt := 25) rfl rfl ⟨by decide, by decide⟩ (by decide) (by decide) rfl rfl ?_
        refine WP_n 1 rfl ?_
        refine WP2_getf rfl rfl rfl rfl rfl ?_
        refine WP_n 1 rfl ?_
        refine WP2_iald (j := T) rfl rfl (ia_lit (n := 16) rfl rfl (by omega)) (by omega) (by omega) (by omega) ?_
        exact WP_iret rfl rfl rfl ⟨_, rfl, ok T 3 (by omega)⟩
      · refine WP_n 1 rfl ?_
        refine WP_tsIn (tgt := 30) rfl rfl ⟨by decide, by decide⟩ (by decide) (by decide) rfl rfl ?_
        refine WP_n 1 rfl ?_
        refine WP2_getf rfl rfl rfl rfl rfl ?_
        refine WP_n 1 rfl ?_
        refine WP2_iald (j := T) rfl rfl (ia_lit (n := 16) rfl rfl (by omega)) (by omega) (by omega) (by omega) ?_
        exact WP_iret rfl rfl rfl ⟨_, rfl, ok T 4 (by omega)⟩
      · refine WP_n 1 rfl ?_
        refine WP_tsIn (tgt := 35) rfl rfl ⟨by decide, by decide⟩ (by decide) (by decide) rfl rfl ?_
        refine WP_n 1 rfl ?_
        refine WP2_getf rfl rfl rfl rfl rfl ?_
        refine WP_n 1 rfl ?_
        refine WP2_zald (j := T) rfl rfl rfl (by omega) (by omega) ?_
        refine WP_ifeq rfl rfl ⟨by omega, by omega⟩ (fun h39 => ?_) (fun h39 => ?_)
        · refine WP_n 1 rfl ?_
          refine WP_iret rfl rfl rfl ⟨_, rfl, ?_⟩
          have ok := ok T 5 (by omega)
          have e : A 178 T = 0 := by omega
          have e2 : A (mfa 5) T = 0 := e
          rw [e2] at ok
          exact ok
        · refine WP_n 2 rfl ?_
          refine WP_iret rfl rfl rfl ⟨_, rfl, ?_⟩
          have ok := ok T 5 (by omega)
          have e : A 178 T = 1 := by omega
          have e2 : A (mfa 5) T = 1 := e
          rw [e2] at ok
          exact ok
      · refine WP_n 1 rfl ?_
        refine WP_tsIn (tgt := 44) rfl rfl ⟨by decide, by decide⟩ (by decide) (by decide) rfl rfl ?_
        refine WP_n 1 rfl ?_
        refine WP2_getf rfl rfl rfl rfl rfl ?_
        refine WP_n 1 rfl ?_
        refine WP2_iald (j := T) rfl rfl (ia_lit (n := 16) rfl rfl (by omega)) (by omega) (by omega) (by omega) ?_
        exact WP_iret rfl rfl rfl ⟨_, rfl, ok T 6 (by omega)⟩
      · refine WP_n 1 rfl ?_
        refine WP_tsIn (tgt := 49) rfl rfl ⟨by decide, by decide⟩ (by decide) (by decide) rfl rfl ?_
        refine WP_n 1 rfl ?_
        refine WP2_getf rfl rfl rfl rfl rfl ?_
        refine WP_n 1 rfl ?_
        refine WP2_iald (j := T) rfl rfl (ia_lit (n := 16) rfl rfl (by omega)) (by omega) (by omega) (by omega) ?_
        exact WP_iret rfl rfl rfl ⟨_, rfl, ok T 7 (by omega)⟩
      · refine WP_n 1 rfl ?_
        refine WP_tsIn (tgt := 54) rfl rfl ⟨by decide, by decide⟩ (by decide) (by decide) rfl rfl ?_
        refine WP_n 1 rfl ?_
        refine WP2_getf rfl rfl rfl rfl rfl ?_
        refine WP_n 1 rfl ?_
        refine WP2_iald (j := T) rfl rfl (ia_lit (n := 16) rfl rfl (by omega)) (by omega) (by omega) (by omega) ?_
        exact WP_iret rfl rfl rfl ⟨_, rfl, ok T 8 (by omega)⟩
theorem pr_teamOf {P : PP} {n : Nat} {FI A L : Nat → Nat → Int} {X : SX} (h : INV P n FI A X) (hn : n < 512) {t w : Int} (ht : inR t) (hw : inR w) : PAIR P n (FI, A, L, X) M_F_teamOf [some (vr 5), some (vi t), some (vi w)] M_G_teamOf [some (vr 165), some (vi t), some (vi w)] := by
  intro d
  have hm := h.mI
  have hn5 := h.1
  have hcI := h.2.1
  have hk1 := hcI.1
  have g1 := h.2.2.1.1
  obtain ⟨lt, ut⟩ := id ht
  obtain ⟨lw, uw⟩ := id hw
  refine sp_F_teamOf ht hw hcI hn5 (fun c1 => ?_) (fun c1 => ?_) (fun T W c1 => ?_)
  · refine ⟨_, rfl, ?_⟩
    refine sp_G_teamOf ht hw (hm.up (by omega)) (fun c2 => ?_) (fun c2 => ?_) (fun T' W' c2 => ?_)
    · exact ⟨rfl, INV_ref h hn (by omega)⟩
    · exfalso; omega
    · exfalso; omega
  · refine ⟨_, rfl, ?_⟩
    refine sp_G_teamOf ht hw (hm.up (by omega)) (fun c2 => ?_) (fun c2 => ?_) (fun T' W' c2 => ?_)
    · exfalso; omega
    · exact ⟨rfl, INV_ref h hn (by omega)⟩
    · exfalso; omega
  · refine ⟨_, rfl, ?_⟩
    refine sp_G_teamOf ht hw hm (fun c2 => ?_) (fun c2 => ?_) (fun T' W' c2 => ?_)
    · exfalso; omega
    · exfalso; omega
    · obtain rfl : T = T' := by omega
      obtain rfl : W = W' := by omega
      refine ⟨?_, h.next hn⟩
      have g := h.2.2.1.2.2.2.1 T (by omega)
      unfold gTm at g
      rcases (show W = 0 ∨ W = 1 ∨ W = 2 ∨ W = 3 ∨ W = 4 ∨ W = 5 ∨ W = 6 ∨ W = 7 ∨ W = 8 by omega) with rfl | rfl | rfl | rfl | rfl | rfl | rfl | rfl | rfl
      · show some (vi (A 170 T)) = some (vi (A (20 + T) 0))
        rw [show A 170 T = A (20 + T) 0 by omega]
      · show some (vi (A 171 T)) = some (vi (A (20 + T) 1))
        rw [show A 171 T = A (20 + T) 1 by omega]
      · show some (vi (A 172 T)) = some (vi (A (20 + T) 2))
        rw [show A 172 T = A (20 + T) 2 by omega]
      · show some (vi (A 173 T)) = some (vi (A (20 + T) 3))
        rw [show A 173 T = A (20 + T) 3 by omega]
      · show some (vi (A 174 T)) = some (vi (A (20 + T) 4))
        rw [show A 174 T = A (20 + T) 4 by omega]
      · show some (vi (A 178 T)) = some (vi (A (20 + T) 5))
        rw [show A 178 T = A (20 + T) 5 by omega]
      · show some (vi (A 175 T)) = some (vi (A (20 + T) 6))
        rw [show A 175 T = A (20 + T) 6 by omega]
      · show some (vi (A 176 T)) = some (vi (A (20 + T) 7))
        rw [show A 176 T = A (20 + T) 7 by omega]
      · show some (vi (A 177 T)) = some (vi (A (20 + T) 8))
        rw [show A 177 T = A (20 + T) 8 by omega]

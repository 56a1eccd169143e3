/-! sizeIn and turn, both sides -/
def fore (g : Nat → Int) (s : Int) : Nat → Int
  | 0 => s
  | k + 1 => if g k = -1 then fore g s k else g k
theorem fore_congr {g g' : Nat → Int} {s s' : Int} (hs : s = s') : ∀ k, (∀ j, j < k → g j = g' j) → fore g s k = fore g' s' k
  | 0, _ => hs
  | k + 1, h => by
    show (if _ then _ else _) = (if _ then _ else _)
    rw [h k (by omega), fore_congr hs k (fun j hj => h j (by omega))]
theorem fore_bd {g : Nat → Int} {s : Int} (hs : 0 ≤ s ∧ s ≤ 200) : ∀ k, (∀ j, j < k → -1 ≤ g j ∧ g j ≤ 200) → 0 ≤ fore g s k ∧ fore g s k ≤ 200
  | 0, _ => hs
  | k + 1, h => by
    have h1 := h k (by omega)
    have h2 := fore_bd hs k (fun j hj => h j (by omega))
    by_cases e : g k = -1
    · rw [show fore g s (k + 1) = fore g s k from if_pos e]
      exact h2
    · rw [show fore g s (k + 1) = g k from if_neg e]
      omega
theorem mulB {x y a b : Int} (h0 : 0 ≤ x) (h1 : x ≤ a) (h2 : 0 ≤ y) (h3 : y ≤ b) : 0 ≤ x * y ∧ x * y ≤ a * b :=
  ⟨Int.mul_nonneg h0 h2, Int.mul_le_mul h1 h3 h2 (by omega)⟩
theorem down_to {P : Nat → Prop} (h0 : P 0) (hs : ∀ t, P t → P (t + 1)) : ∀ t, P t
  | 0 => h0
  | t + 1 => hs t (down_to h0 hs t)
theorem sp_foretold {P : PP} {d n : Nat} {FI A L : Nat → Nat → Int} {X : SX} {Q : Option AV → S2 → Prop} (hI : cI n FI A) {T q9 : Nat} (hT : T < 16) (hq9 : q9 < 20) (hq : Q (some (vi (fore (A (122 + T)) (A (20 + T) 0) (q9 + 1)))) (FI, A, L, X)) : WP2 P M_H_foretold (d) 0 [some (vr 6), some (vi (T : Int)), some (vi (q9 : Int)), none] [] (FI, A, L, X) Q := by
  suffices hh : ∀ k : Nat, k ≤ q9 + 1 → Q (some (vi (fore (A (122 + T)) (A (20 + T) 0) k))) (FI, A, L, X) → WP2 P M_H_foretold d 2 [some (vr 6), some (vi (T : Int)), some (vi (q9 : Int)), some (vi ((k : Int) - 1))] [] (FI, A, L, X) Q by
    have := hh (q9 + 1) (by omega) hq
    rw [show ((q9 + 1 : Nat) : Int) - 1 = (q9 : Int) by omega] at this
    exact WP_n 2 rfl this
  intro k
  induction k with
  | zero =>
    intro _ hq
    refine WP_n 1 rfl ?_
    refine WP_iflt rfl rfl ⟨by omega, by omega⟩ (fun h3 => ?_) (fun h3 => absurd h3 (by omega))
    refine WP_n 1 rfl ?_
    refine WP2_getf rfl rfl rfl rfl rfl ?_
    refine WP_n 1 rfl ?_
    refine WP2_aald (b := 20) (j := T) (n := 16) rfl rfl rfl rfl rfl (by omega) (by omega) ?_
    refine WP_n 1 rfl ?_
    refine WP2_iald (j := 0) rfl rfl (ia_tm (by omega)) (by omega) (by omega) (by omega) ?_
    exact WP_iret rfl rfl rfl ⟨_, rfl, hq⟩
  | succ k ih =>
    intro hk hq
    have hp := hI.2.2.2.2.2.1 T k hT (by omega)
    unfold cPp at hp
    rw [show ((k + 1 : Nat) : Int) - 1 = (k : Int) by omega]
    refine WP_n 1 rfl ?_
    refine WP_iflt rfl rfl ⟨by omega, by omega⟩ (fun h3 => absurd h3 (by omega)) (fun h3 => ?_)
    refine WP_n 1 rfl ?_
    refine WP2_getf rfl rfl rfl rfl rfl ?_
    refine WP_n 1 rfl ?_
    refine WP2_aald (b := 122) (j := T) (n := 16) rfl rfl rfl rfl rfl (by omega) (by omega) ?_
    refine WP_n 1 rfl ?_
    refine WP2_iald (j := k) rfl rfl (ia_gw (by omega)) (by omega) (by omega) (by omega) ?_
    refine WP_n 1 rfl ?_
    refine WP_icmpeq rfl rfl ⟨by omega, by omega⟩ ⟨by omega, by omega⟩ (fun h11 => ?_) (fun h11 => ?_)
    · refine WP_n 2 rfl ?_
      exact ih (by omega) (by
        have e : fore (A (122 + T)) (A (20 + T) 0) (k + 1) = fore (A (122 + T)) (A (20 + T) 0) k := if_pos (show A (122 + T) k = -1 by omega)
        rw [e] at hq
        exact hq)
    · refine WP_n 1 rfl ?_
      refine WP2_getf rfl rfl rfl rfl rfl ?_
      refine WP_n 1 rfl ?_
      refine WP2_aald (b := 122) (j := T) (n := 16) rfl rfl rfl rfl rfl (by omega) (by omega) ?_
      refine WP_n 1 rfl ?_
      refine WP2_iald (j := k) rfl rfl (ia_gw (by omega)) (by omega) (by omega) (by omega) ?_
      exact WP_iret rfl rfl rfl ⟨_, rfl, (by
        have e : fore (A (122 + T)) (A (20 + T) 0) (k + 1) = A (122 + T) k := if_neg (show ¬ A (122 + T) k = -1 by omega)
        rw [e] at hq
        exact hq)⟩
theorem sp_sizeAt {P : PP} {d n : Nat} {FI A L : Nat → Nat → Int} {X : SX} {Q : Option AV → S2 → Prop} (hI : mI n FI A) {T q9 : Nat} (hT : T < 16) (hq9 : q9 < 20) (hq : Q (some (vi (fore (fun j => A 184 (20 * T + j)) (A 170 T) (q9 + 1)))) (FI, A, L, X)) : WP2 P M_G_sizeAt (d) 0 [some (vr 165), some (vi (T : Int)), some (vi (q9 : Int)), none] [] (FI, A, L, X) Q := by
  suffices hh : ∀ k : Nat, k ≤ q9 + 1 → Q (some (vi (fore (fun j => A 184 (20 * T + j)) (A 170 T) k))) (FI, A, L, X) → WP2 P M_G_sizeAt d 2 [some (vr 165), some (vi (T : Int)), some (vi (q9 : Int)), some (vi ((k : Int) - 1))] [] (FI, A, L, X) Q by
    have := hh (q9 + 1) (by omega) hq
    rw [show ((q9 + 1 : Nat) : Int) - 1 = (q9 : Int) by omega] at this
    exact WP_n 2 rfl this
  intro k
  induction k with
  | zero =>
    intro _ hq
    refine WP_n 1 rfl ?_
    refine WP_iflt rfl rfl ⟨by omega, by omega⟩ (fun h3 => ?_) (fun h3 => absurd h3 (by omega))
    refine WP_n 1 rfl ?_
    refine WP2_getf rfl rfl rfl rfl rfl ?_
    refine WP_n 1 rfl ?_
    refine WP2_iald (j := T) rfl rfl (ia_lit (n := 16) rfl rfl (by omega)) (by omega) (by omega) (by omega) ?_
    exact WP_iret rfl rfl rfl ⟨_, rfl, hq⟩
  | succ k ih =>
    intro hk hq
    have hp := hI.2.2.2.2.2.2.1 (20 * T + k) (by omega)
    unfold mPp at hp
    rw [show ((k + 1 : Nat) : Int) - 1 = (k : Int) by omega]
    refine WP_n 1 rfl ?_
    refine WP_iflt rfl rfl ⟨by omega, by omega⟩ (fun h3 => absurd h3 (by omega)) (fun h3 => ?_)
    refine WP_n 1 rfl ?_
    refine WP2_getf rfl rfl rfl rfl rfl ?_
    refine WP_n 5 rfl ?_
    refine WP2_iald (j := ((20 * T) + k)) rfl rfl (ia_lit (n := 320) rfl rfl (by omega)) (by omega) (by omega) (by omega) ?_
    refine WP_iflt rfl rfl ⟨by omega, by omega⟩ (fun h12 => ?_) (fun h12 => ?_)
    · refine WP_n 2 rfl ?_
      exact ih (by omega) (by
        have e : fore (fun j => A 184 (20 * T + j)) (A 170 T) (k + 1) = fore (fun j => A 184 (20 * T + j)) (A 170 T) k := if_pos (show A 184 (20 * T + k) = -1 by omega)
        rw [e] at hq
        exact hq)
    · refine WP_n 1 rfl ?_
      refine WP2_getf rfl rfl rfl rfl rfl ?_
      refine WP_n 5 rfl ?_
      refine WP2_iald (j := ((20 * T) + k)) rfl rfl (ia_lit (n := 320) rfl rfl (by omega)) (by omega) (by omega) (by omega) ?_
      exact WP_iret rfl rfl rfl ⟨_, rfl, (by
        have e : fore (fun j => A 184 (20 * T + j)) (A 170 T) (k + 1) = A 184 (20 * T + k) := if_neg (show ¬ A 184 (20 * T + k) = -1 by omega)
        rw [e] at hq
        exact hq)⟩
theorem sp_F_sizeIn {P : PP} {d n : Nat} {FI A L : Nat → Nat → Int} {X : SX} {Q : Option AV → S2 → Prop} {t q : Int} (ht : inR t) (hq : inR q) (hI : cI n FI A) (hn5 : n ≤ 512) (r1 : ((t < 0 ∨ FI 6 8 ≤ t) ∨ (q < 0 ∨ 20 ≤ q)) → Q (some (vi (-1))) (FI, rfC A 1, L, X)) (ok : ∀ T q9 : Nat, (t = (T : Int) ∧ (T : Int) < FI 6 8 ∧ q = (q9 : Int) ∧ q9 < 20) → Q (some (vi (fore (A (122 + T)) (A (20 + T) 0) (q9 + 1)))) (FI, A, L, X)) : WP2 P M_F_sizeIn (d + 2) 0 [some (vr 5), some (vi t), some (vi q)] [] (FI, A, L, X) Q := by
  obtain ⟨lt, ut⟩ := id ht
  obtain ⟨lq, uq⟩ := id hq
  have hcc := hI.1
  refine WP_n 2 rfl ?_
  refine WP2_callV 1 ok_M_F_noTeam rfl rfl rfl rfl rfl rfl (Nat.le_of_ble_eq_true rfl) (Nat.le_of_ble_eq_true rfl) rfl rfl ?_
  refine sp_noTeam ht ⟨by omega, by omega⟩ (fun hTt => ?_) (fun hTt hTtb => ?_)
  · refine WP_ifne rfl rfl ⟨by decide, by decide⟩  (fun h3 => ?_) (fun h3 => absurd (by decide) h3)
    refine WP_n 2 rfl ?_
    refine WP2_callV 1 ok_M_F_refuse rfl rfl rfl rfl rfl rfl (Nat.le_of_ble_eq_true rfl) (Nat.le_of_ble_eq_true rfl) rfl rfl ?_
    refine sp_refuse (k := 1) rfl (by omega) ?_
    exact WP_iret rfl rfl rfl ⟨_, rfl, r1 (by omega)⟩
  · refine WP_ifne rfl rfl ⟨by decide, by decide⟩  (fun h3 => absurd h3 (by decide)) (fun h3 => ?_)
    refine WP_n 1 rfl ?_
    refine WP2_callS 1 ok_M_F_noQuarter rfl rfl rfl rfl rfl rfl rfl (Nat.le_of_ble_eq_true rfl) (Nat.le_of_ble_eq_true rfl) ?_
    refine sp_noQuarter hq (fun hQ => ?_) (fun hQ hQb => ?_)
    · refine WP_ifeq rfl rfl ⟨by decide, by decide⟩  (fun h6 => absurd h6 (by decide)) (fun h6 => ?_)
      refine WP_n 2 rfl ?_
      refine WP2_callV 1 ok_M_F_refuse rfl rfl rfl rfl rfl rfl (Nat.le_of_ble_eq_true rfl) (Nat.le_of_ble_eq_true rfl) rfl rfl ?_
      refine sp_refuse (k := 1) rfl (by omega) ?_
      exact WP_iret rfl rfl rfl ⟨_, rfl, r1 (by omega)⟩
    · refine WP_ifeq rfl rfl ⟨by decide, by decide⟩  (fun h6 => ?_) (fun h6 => absurd (by decide) h6)
      obtain ⟨T, rfl⟩ : ∃ T : Nat, t = (T : Int) := ⟨t.toNat, by omega⟩
      obtain ⟨q9, rfl⟩ : ∃ q9 : Nat, q = (q9 : Int) := ⟨q.toNat, by omega⟩
      refine WP_n 1 rfl ?_
      refine WP2_getf rfl rfl rfl rfl rfl ?_
      refine WP_n 2 rfl ?_
      refine WP2_callV 2 ok_M_H_foretold rfl rfl rfl rfl rfl rfl (Nat.le_of_ble_eq_true rfl) (Nat.le_of_ble_eq_true rfl) rfl rfl ?_
      refine sp_foretold hI (by omega) (by omega) ?_
      exact WP_iret rfl rfl rfl ⟨_, rfl, ok T q9 (by omega)⟩
theorem sp_G_sizeIn {P : PP} {d n : Nat} {FI A L : Nat → Nat → Int} {X : SX} {Q : Option AV → S2 → Prop} {t q : Int} (ht : inR t) (hq : inR q) (hI : mI n FI A) (r1 : ((t < 0 ∨ FI 165 0 ≤ t) ∨ (q < 0 ∨ 20 ≤ q)) → Q (some (vi (-1))) (FI, rfG A 1, L, X)) (ok : ∀ T q9 : Nat, (t = (T : Int) ∧ (T : Int) < FI 165 0 ∧ q = (q9 : Int) ∧ q9 < 20) → Q (some (vi (fore (fun j => A 184 (20 * T + j)) (A 170 T) (q9 + 1)))) (FI, A, L, X)) : WP2 P M_G_sizeIn (d + 2) 0 [some (vr 165), some (vi t), some (vi q)] [] (FI, A, L, X) Q := by
  obtain ⟨lt, ut⟩ := id ht
  obtain ⟨lq, uq⟩ := id hq
  have hcc := hI.2.1
  refine WP_n 2 rfl ?_
  refine WP2_callV 1 ok_M_G_isTeam rfl rfl rfl rfl rfl rfl (Nat.le_of_ble_eq_true rfl) (Nat.le_of_ble_eq_true rfl) rfl rfl ?_
  refine sp_isTeam ht ⟨by omega, by omega⟩ (fun hTt => ?_) (fun hTt hTtb => ?_)
  · refine WP_ifeq rfl rfl ⟨by decide, by decide⟩  (fun h3 => ?_) (fun h3 => absurd (by decide) h3)
    refine WP_n 2 rfl ?_
    refine WP2_callV 1 ok_M_G_no rfl rfl rfl rfl rfl rfl (Nat.le_of_ble_eq_true rfl) (Nat.le_of_ble_eq_true rfl) rfl rfl ?_
    refine sp_no (k := 1) rfl (by omega) ?_
    exact WP_iret rfl rfl rfl ⟨_, rfl, r1 (by omega)⟩
  · refine WP_ifeq rfl rfl ⟨by decide, by decide⟩  (fun h3 => absurd h3 (by decide)) (fun h3 => ?_)
    refine WP_n 1 rfl ?_
    refine WP_iflt rfl rfl ⟨by omega, by omega⟩ (fun h5 => ?_) (fun h5 => ?_)
    · refine WP_n 2 rfl ?_
      refine WP2_callV 1 ok_M_G_no rfl rfl rfl rfl rfl rfl (Nat.le_of_ble_eq_true rfl) (Nat.le_of_ble_eq_true rfl) rfl rfl ?_
      refine sp_no (k := 1) rfl (by omega) ?_
      exact WP_iret rfl rfl rfl ⟨_, rfl, r1 (by omega)⟩
    · refine WP_n 2 rfl ?_
      refine WP_icmpge rfl rfl ⟨by omega, by omega⟩ ⟨by omega, by omega⟩ (fun h8 => ?_) (fun h8 => ?_)
      · refine WP_n 2 rfl ?_
        refine WP2_callV 1 ok_M_G_no rfl rfl rfl rfl rfl rfl (Nat.le_of_ble_eq_true rfl) (Nat.le_of_ble_eq_true rfl) rfl rfl ?_
        refine sp_no (k := 1) rfl (by omega) ?_
        exact WP_iret rfl rfl rfl ⟨_, rfl, r1 (by omega)⟩
      · obtain ⟨T, rfl⟩ : ∃ T : Nat, t = (T : Int) := ⟨t.toNat, by omega⟩
        obtain ⟨q9, rfl⟩ : ∃ q9 : Nat, q = (q9 : Int) := ⟨q.toNat, by omega⟩
        refine WP_n 3 rfl ?_
        refine WP2_callV 2 ok_M_G_sizeAt rfl rfl rfl rfl rfl rfl (Nat.le_of_ble_eq_true rfl) (Nat.le_of_ble_eq_true rfl) rfl rfl ?_
        refine sp_sizeAt hI (by omega) (by omega) ?_
        refine WP_n 1 rfl ?_
        exact WP_iret rfl rfl rfl ⟨_, rfl, ok T q9 (by omega)⟩
theorem pr_sizeIn {P : PP} {n : Nat} {FI A L : Nat → Nat → Int} {X : SX} (h : INV P n FI A X) (hn : n < 512) {t q : Int} (ht : inR t) (hq : inR q) : PAIR P n (FI, A, L, X) M_F_sizeIn [some (vr 5), some (vi t), some (vi q)] M_G_sizeIn [some (vr 165), some (vi t), some (vi q)] := by
  intro d
  have hm := h.mI
  have hn5 := h.1
  have hcI := h.2.1
  have hk1 := hcI.1
  have g1 := h.2.2.1.1
  obtain ⟨lt, ut⟩ := id ht
  obtain ⟨lq, uq⟩ := id hq
  refine sp_F_sizeIn ht hq hcI hn5 (fun c1 => ?_) (fun T q9 c1 => ?_)
  · refine ⟨_, rfl, ?_⟩
    refine sp_G_sizeIn ht hq (hm.up (by omega)) (fun c2 => ?_) (fun T' q9' c2 => ?_)
    · exact ⟨rfl, INV_ref h hn (by omega)⟩
    · exfalso; omega
  · refine ⟨_, rfl, ?_⟩
    refine sp_G_sizeIn ht hq hm (fun c2 => ?_) (fun T' q9' c2 => ?_)
    · exfalso; omega
    · obtain rfl : T = T' := by omega
      obtain rfl : q9 = q9' := by omega
      refine ⟨congrArg (fun z => some (vi z)) (fore_congr ?_ _ (fun j hj => ?_)), h.next hn⟩
      · have g := h.2.2.1.2.2.2.1 T (by omega)
        unfold gTm at g
        omega
      · exact (h.2.2.1.2.2.2.2.2.1 T j (by omega) (by omega)).2.2
def nxW (pl tu sz : Nat → Int) (F : Int) : Nat → Int
  | 0 => -9
  | t + 1 => if pl t = F ∧ (nxW pl tu sz F t = -9 ∨ tu t * sz (nxW pl tu sz F t).toNat < tu (nxW pl tu sz F t).toNat * sz t) then (t : Int) else nxW pl tu sz F t
theorem nxW_T {pl tu sz : Nat → Int} {F : Int} {t : Nat} (h : pl t = F ∧ (nxW pl tu sz F t = -9 ∨ tu t * sz (nxW pl tu sz F t).toNat < tu (nxW pl tu sz F t).toNat * sz t)) : nxW pl tu sz F (t + 1) = (t : Int) := if_pos h
theorem nxW_F {pl tu sz : Nat → Int} {F : Int} {t : Nat} (h : ¬ (pl t = F ∧ (nxW pl tu sz F t = -9 ∨ tu t * sz (nxW pl tu sz F t).toNat < tu (nxW pl tu sz F t).toNat * sz t))) : nxW pl tu sz F (t + 1) = nxW pl tu sz F t := if_neg h
theorem nxW_bd (pl tu sz : Nat → Int) (F : Int) : ∀ t, nxW pl tu sz F t = -9 ∨ (0 ≤ nxW pl tu sz F t ∧ nxW pl tu sz F t < t)
  | 0 => Or.inl rfl
  | t + 1 => by
    have h := nxW_bd pl tu sz F t
    by_cases e : pl t = F ∧ (nxW pl tu sz F t = -9 ∨ tu t * sz (nxW pl tu sz F t).toNat < tu (nxW pl tu sz F t).toNat * sz t)
    · rw [nxW_T e]
      omega
    · rw [nxW_F e]
      omega
theorem nxW_congr {pl tu sz pl' tu' sz' : Nat → Int} {F : Int} : ∀ c, (∀ t, t < c → pl t = pl' t ∧ tu t = tu' t ∧ sz t = sz' t) → nxW pl tu sz F c = nxW pl' tu' sz' F c
  | 0, _ => rfl
  | c + 1, h => by
    have e := nxW_congr (F := F) c (fun t ht => h t (by omega))
    show (if _ then _ else _) = (if _ then _ else _)
    have b := nxW_bd pl' tu' sz' F c
    rw [e, (h c (by omega)).1, (h c (by omega)).2.1, (h c (by omega)).2.2]
    rcases b with b | b
    · simp only [b, true_or]
    · rw [(h (nxW pl' tu' sz' F c).toNat (by omega)).2.1, (h (nxW pl' tu' sz' F c).toNat (by omega)).2.2]
theorem sp_hadLess {P : PP} {d n : Nat} {FI A L : Nat → Nat → Int} {X : SX} {Q : Option AV → S2 → Prop} (hI : cI n FI A) (hn : n ≤ 512) {a b : Nat} (ha : a < 16) (hb : b < 16) (h1 : A (20 + a) 8 * A (20 + b) 0 < A (20 + b) 8 * A (20 + a) 0 → Q (some (vi 1)) (FI, A, L, X)) (h0 : ¬ A (20 + a) 8 * A (20 + b) 0 < A (20 + b) 8 * A (20 + a) 0 → Q (some (vi 0)) (FI, A, L, X)) : WP2 P M_H_hadLess (d) 0 [some (vr 6), some (vi (a : Int)), some (vi (b : Int))] [] (FI, A, L, X) Q := by
  have hqa := hI.2.2.2.1 a ha
  have hqb := hI.2.2.2.1 b hb
  unfold cTm at hqa hqb
  have m1 := mulB (x := A (20 + a) 8) (y := A (20 + b) 0) (a := 512) (b := 60) (by omega) (by omega) (by omega) (by omega)
  have m2 := mulB (x := A (20 + b) 8) (y := A (20 + a) 0) (a := 512) (b := 60) (by omega) (by omega) (by omega) (by omega)
  refine WP_n 1 rfl ?_
  refine WP2_getf rfl rfl rfl rfl rfl ?_
  refine WP_n 1 rfl ?_
  refine WP2_aald (b := 20) (j := a) (n := 16) rfl rfl rfl rfl rfl (by omega) (by omega) ?_
  refine WP_n 1 rfl ?_
  refine WP2_iald (j := 8) rfl rfl (ia_tm (by omega)) (by omega) (by omega) (by omega) ?_
  refine WP_n 1 rfl ?_
  refine WP2_getf rfl rfl rfl rfl rfl ?_
  refine WP_n 1 rfl ?_
  refine WP2_aald (b := 20) (j := b) (n := 16) rfl rfl rfl rfl rfl (by omega) (by omega) ?_
  refine WP_n 1 rfl ?_
  refine WP2_iald (j := 0) rfl rfl (ia_tm (by omega)) (by omega) (by omega) (by omega) ?_
  refine WP_n 2 rfl ?_
  refine WP2_getf rfl rfl rfl rfl rfl ?_
  refine WP_n 1 rfl ?_
  refine WP2_aald (b := 20) (j := b) (n := 16) rfl rfl rfl rfl rfl (by omega) (by omega) ?_
  refine WP_n 1 rfl ?_
  refine WP2_iald (j := 8) rfl rfl (ia_tm (by omega)) (by omega) (by omega) (by omega) ?_
  refine WP_n 1 rfl ?_
  refine WP2_getf rfl rfl rfl rfl rfl ?_
  refine WP_n 1 rfl ?_
  refine WP2_aald (b := 20) (j := a) (n := 16) rfl rfl rfl rfl rfl (by omega) (by omega) ?_
  refine WP_n 1 rfl ?_
  refine WP2_iald (j := 0) rfl rfl (ia_tm (by omega)) (by omega) (by omega) (by omega) ?_
  refine WP_n 1 rfl ?_
  refine WP_icmpge rfl rfl ⟨by omega, by omega⟩ ⟨by omega, by omega⟩ (fun h26 => ?_) (fun h26 => ?_)
  · refine WP_n 1 rfl ?_
    exact WP_zret rfl rfl rfl (Or.inl rfl) ⟨_, rfl, h0 (by omega)⟩
  · refine WP_n 2 rfl ?_
    exact WP_zret rfl rfl rfl (Or.inr rfl) ⟨_, rfl, h1 (by omega)⟩
theorem sp_nextAtWindow {P : PP} {d n c : Nat} {FI A L : Nat → Nat → Int} {X : SX} {Q : Option AV → S2 → Prop} (hI : cI n FI A) (hc : FI 6 8 = (c : Int)) (hn : n ≤ 512) {F : Nat} (hF : F < 11) (hq : Q (some (vi (nxW (fun t => A (20 + t) 4) (fun t => A (20 + t) 8) (fun t => A (20 + t) 0) (F : Int) c))) (FI, A, L, X)) : WP2 P M_H_nextAtWindow (d + 1) 0 [some (vr 6), some (vi (F : Int)), none, none] [] (FI, A, L, X) Q := by
  have hcc := hI.1
  refine WP_n 4 rfl ?_
  suffices hh : ∀ t, t ≤ c → ∀ z, z = nxW (fun t => A (20 + t) 4) (fun t => A (20 + t) 8) (fun t => A (20 + t) 0) (F : Int) t → WP2 P M_H_nextAtWindow (d + 1) 4 [some (vr 6), some (vi (F : Int)), some (vi z), some (vi (t : Int))] [] (FI, A, L, X) Q from hh 0 (by omega) (-9) rfl
  refine up_to (P := fun t => ∀ z, z = nxW (fun t => A (20 + t) 4) (fun t => A (20 + t) 8) (fun t => A (20 + t) 0) (F : Int) t → WP2 P M_H_nextAtWindow (d + 1) 4 [some (vr 6), some (vi (F : Int)), some (vi z), some (vi (t : Int))] [] (FI, A, L, X) Q) c ?_ ?_
  · rintro z rfl
    have hbd := nxW_bd (fun t => A (20 + t) 4) (fun t => A (20 + t) 8) (fun t => A (20 + t) 0) (F : Int) c
    refine WP_n 2 rfl ?_
    refine WP2_getf rfl rfl rfl rfl rfl ?_
    refine WP_icmpge rfl rfl ⟨by omega, by omega⟩ ⟨by omega, by omega⟩ (fun h7 => ?_) (fun h7 => absurd h7 (by omega))
    refine WP_n 1 rfl ?_
    exact WP_iret rfl rfl rfl ⟨_, rfl, hq⟩
  · rintro t ht ih z rfl
    have hbd := nxW_bd (fun t => A (20 + t) 4) (fun t => A (20 + t) 8) (fun t => A (20 + t) 0) (F : Int) t
    have hq := hI.2.2.2.1 t (by omega)
    unfold cTm at hq
    by_cases hz : nxW (fun t => A (20 + t) 4) (fun t => A (20 + t) 8) (fun t => A (20 + t) 0) (F : Int) t = -9
    · rw [hz]
      refine WP_n 2 rfl ?_
      refine WP2_getf rfl rfl rfl rfl rfl ?_
      refine WP_icmpge rfl rfl ⟨by omega, by omega⟩ ⟨by omega, by omega⟩ (fun h7 => absurd h7 (by omega)) (fun h7 => ?_)
      refine WP_n 1 rfl ?_
      refine WP2_getf rfl rfl rfl rfl rfl ?_
      refine WP_n 1 rfl ?_
      refine WP2_aald (b := 20) (j := t) (n := 16) rfl rfl rfl rfl rfl (by omega) (by omega) ?_
      refine WP_n 1 rfl ?_
      refine WP2_iald (j := 4) rfl rfl (ia_tm (by omega)) (by omega) (by omega) (by omega) ?_
      refine WP_n 1 rfl ?_
      refine WP_icmpne rfl rfl ⟨by omega, by omega⟩ ⟨by omega, by omega⟩ (fun h15 => ?_) (fun h15 => ?_)
      · refine WP_n 2 rfl ?_
        exact ih _ (by rw [nxW_F (fun q => by omega), hz])
      · refine WP_n 2 rfl ?_
        refine WP_icmpeq rfl rfl ⟨by decide, by decide⟩ ⟨by decide, by decide⟩  (fun h18 => ?_) (fun h18 => absurd (by decide) h18)
        refine WP_n 4 rfl ?_
        exact ih _ (by rw [nxW_T ⟨by omega, Or.inl hz⟩])
    · obtain ⟨b, hb⟩ : ∃ b : Nat, nxW (fun t => A (20 + t) 4) (fun t => A (20 + t) 8) (fun t => A (20 + t) 0) (F : Int) t = (b : Int) := ⟨(nxW (fun t => A (20 + t) 4) (fun t => A (20 + t) 8) (fun t => A (20 + t) 0) (F : Int) t).toNat, by omega⟩
      have hbn : (nxW (fun t => A (20 + t) 4) (fun t => A (20 + t) 8) (fun t => A (20 + t) 0) (F : Int) t).toNat = b := by omega
      have hqb := hI.2.2.2.1 b (by omega)
      unfold cTm at hqb
      rw [hb]
      refine WP_n 2 rfl ?_
      refine WP2_getf rfl rfl rfl rfl rfl ?_
      refine WP_icmpge rfl rfl ⟨by omega, by omega⟩ ⟨by omega, by omega⟩ (fun h7 => absurd h7 (by omega)) (fun h7 => ?_)
      refine WP_n 1 rfl ?_
      refine WP2_getf rfl rfl rfl rfl rfl ?_
      refine WP_n 1 rfl ?_
      refine WP2_aald (b := 20) (j := t) (n := 16) rfl rfl rfl rfl rfl (by omega) (by omega) ?_
      refine WP_n 1 rfl ?_
      refine WP2_iald (j := 4) rfl rfl (ia_tm (by omega)) (by omega) (by omega) (by omega) ?_
      refine WP_n 1 rfl ?_
      refine WP_icmpne rfl rfl ⟨by omega, by omega⟩ ⟨by omega, by omega⟩ (fun h15 => ?_) (fun h15 => ?_)
      · refine WP_n 2 rfl ?_
        exact ih _ (by rw [nxW_F (pl := fun t => A (20 + t) 4) (fun q => h15 q.1), hb])
      · refine WP_n 2 rfl ?_
        refine WP_icmpeq rfl rfl ⟨by omega, by omega⟩ ⟨by omega, by omega⟩ (fun h18 => absurd h18 (by omega)) (fun h18 => ?_)
        refine WP_n 3 rfl ?_
        refine WP2_callV 2 ok_M_H_hadLess rfl rfl rfl rfl rfl rfl (Nat.le_of_ble_eq_true rfl) (Nat.le_of_ble_eq_true rfl) rfl rfl ?_
        refine sp_hadLess hI hn (by omega) (by omega) (fun hL => ?_) (fun hL => ?_)
        · refine WP_ifeq rfl rfl ⟨by decide, by decide⟩  (fun h23 => absurd h23 (by decide)) (fun h23 => ?_)
          refine WP_n 4 rfl ?_
          exact ih _ (by rw [nxW_T ⟨by omega, Or.inr (by rw [hbn]; exact hL)⟩])
        · refine WP_ifeq rfl rfl ⟨by decide, by decide⟩  (fun h23 => ?_) (fun h23 => absurd (by decide) h23)
          refine WP_n 2 rfl ?_
          exact ih _ (by rw [nxW_F (fun q => by rw [hbn] at q; rcases q.2 with q | q; exact hz q; exact hL q), hb])
theorem sp_F_turn {P : PP} {d n c : Nat} {FI A L : Nat → Nat → Int} {X : SX} {Q : Option AV → S2 → Prop} (hI : cI n FI A) (hc : FI 6 8 = (c : Int)) (hn : n ≤ 512) {f : Int} (hf : inR f) (r1 : (f < 0 ∨ 11 ≤ f) → Q (some (vi (-1))) (FI, rfC A 1, L, X)) (r3 : ∀ F : Nat, f = (F : Int) ∧ F < 11 → (iAnd (A (8 + F) 1) 2 = 0 ∨ nxW (fun t => A (20 + t) 4) (fun t => A (20 + t) 8) (fun t => A (20 + t) 0) (F : Int) c = -9) → Q (some (vi (-3))) (FI, rfC A 3, L, X)) (ok : ∀ F T : Nat, f = (F : Int) ∧ F < 11 ∧ T < c → ¬ iAnd (A (8 + F) 1) 2 = 0 → nxW (fun t => A (20 + t) 4) (fun t => A (20 + t) 8) (fun t => A (20 + t) 0) (F : Int) c = (T : Int) → Q (some (vi (T : Int))) (FI, up2 A (20 + T) 8 (A (20 + T) 8 + 1), L, X)) : WP2 P M_F_turn (d + 2) 0 [some (vr 5), some (vi f), none] [] (FI, A, L, X) Q := by
  have hcc := hI.1
  refine WP_n 1 rfl ?_
  refine WP2_callS 1 ok_M_F_noFloor rfl rfl rfl rfl rfl rfl rfl (Nat.le_of_ble_eq_true rfl) (Nat.le_of_ble_eq_true rfl) ?_
  refine sp_noFloor hf (fun hF => ?_) (fun hF hFb => ?_)
  · refine WP_ifeq rfl rfl ⟨by decide, by decide⟩  (fun h2 => absurd h2 (by decide)) (fun h2 => ?_)
    refine WP_n 2 rfl ?_
    refine WP2_callV 1 ok_M_F_refuse rfl rfl rfl rfl rfl rfl (Nat.le_of_ble_eq_true rfl) (Nat.le_of_ble_eq_true rfl) rfl rfl ?_
    refine sp_refuse (k := 1) rfl (by omega) ?_
    exact WP_iret rfl rfl rfl ⟨_, rfl, r1 (by omega)⟩
  · refine WP_ifeq rfl rfl ⟨by decide, by decide⟩  (fun h2 => ?_) (fun h2 => absurd (by decide) h2)
    obtain ⟨F, rfl⟩ : ∃ F : Nat, f = (F : Int) := ⟨f.toNat, by omega⟩
    have hfl := hI.2.2.1 F (by omega)
    unfold cFl at hfl
    refine WP_n 1 rfl ?_
    refine WP2_getf rfl rfl rfl rfl rfl ?_
    refine WP2_getf rfl rfl rfl rfl rfl ?_
    refine WP_n 1 rfl ?_
    refine WP2_aald (b := 8) (j := F) (n := 11) rfl rfl rfl rfl rfl (by omega) (by omega) ?_
    refine WP_n 1 rfl ?_
    refine WP2_iald (j := 1) rfl rfl (ia_fl (by omega)) (by omega) (by omega) (by omega) ?_
    refine WP_n 2 rfl ?_
    refine WP_ifne rfl rfl (iAnd_inR _ _) (fun h16 => ?_) (fun h16 => ?_)
    · refine WP_n 1 rfl ?_
      refine WP2_getf rfl rfl rfl rfl rfl ?_
      refine WP_n 1 rfl ?_
      refine WP2_callV 1 ok_M_H_nextAtWindow rfl rfl rfl rfl rfl rfl (Nat.le_of_ble_eq_true rfl) (Nat.le_of_ble_eq_true rfl) rfl rfl ?_
      refine sp_nextAtWindow hI hc hn (F := F) (by omega) ?_
      have hbd := nxW_bd (fun t => A (20 + t) 4) (fun t => A (20 + t) 8) (fun t => A (20 + t) 0) (F : Int) c
      by_cases hz : nxW (fun t => A (20 + t) 4) (fun t => A (20 + t) 8) (fun t => A (20 + t) 0) (F : Int) c = -9
      · rw [hz]
        refine WP_n 3 rfl ?_
        refine WP_icmpne rfl rfl ⟨by decide, by decide⟩ ⟨by decide, by decide⟩  (fun h28 => absurd h28 (by decide)) (fun h28 => ?_)
        refine WP_n 2 rfl ?_
        refine WP2_callV 1 ok_M_F_refuse rfl rfl rfl rfl rfl rfl (Nat.le_of_ble_eq_true rfl) (Nat.le_of_ble_eq_true rfl) rfl rfl ?_
        refine sp_refuse (k := 3) rfl (by omega) ?_
        exact WP_iret rfl rfl rfl ⟨_, rfl, r3 F (by omega) (Or.inr hz)⟩
      · obtain ⟨T, hT⟩ : ∃ T : Nat, nxW (fun t => A (20 + t) 4) (fun t => A (20 + t) 8) (fun t => A (20 + t) 0) (F : Int) c = (T : Int) := ⟨(nxW (fun t => A (20 + t) 4) (fun t => A (20 + t) 8) (fun t => A (20 + t) 0) (F : Int) c).toNat, by omega⟩
        have hqT := hI.2.2.2.1 T (by omega)
        unfold cTm at hqT
        rw [hT]
        refine WP_n 3 rfl ?_
        refine WP_icmpne rfl rfl ⟨by omega, by omega⟩ ⟨by omega, by omega⟩ (fun h28 => ?_) (fun h28 => absurd h28 (by omega))
        refine WP_n 1 rfl ?_
        refine WP2_getf rfl rfl rfl rfl rfl ?_
        refine WP2_getf rfl rfl rfl rfl rfl ?_
        refine WP_n 1 rfl ?_
        refine WP2_aald (b := 20) (j := T) (n := 16) rfl rfl rfl rfl rfl (by omega) (by omega) ?_
        refine WP_n 2 rfl ?_
        refine WP2_iald (j := 8) rfl rfl (ia_tm (by omega)) (by omega) (by omega) (by omega) ?_
        refine WP_n 2 rfl ?_
        refine WP2_iast (j := 8) rfl rfl (ia_tm (by omega)) (by omega) (by omega) (by omega) ?_
        refine WP_n 1 rfl ?_
        exact WP_iret rfl rfl rfl ⟨_, rfl, ok F T (by omega) h16 hT⟩
    · refine WP_n 2 rfl ?_
      refine WP2_callV 1 ok_M_F_refuse rfl rfl rfl rfl rfl rfl (Nat.le_of_ble_eq_true rfl) (Nat.le_of_ble_eq_true rfl) rfl rfl ?_
      refine sp_refuse (k := 3) rfl (by omega) ?_
      exact WP_iret rfl rfl rfl ⟨_, rfl, r3 F (by omega) (Or.inl (by omega))⟩
theorem sp_G_turn {P : PP} {d n c : Nat} {FI A L : Nat → Nat → Int} {X : SX} {Q : Option AV → S2 → Prop} (hI : mI n FI A) (hc : FI 165 0 = (c : Int)) {f : Int} (hf : inR f) (r1 : (f < 0 ∨ 11 ≤ f) → Q (some (vi (-1))) (FI, rfG A 1, L, X)) (r3 : ∀ F : Nat, f = (F : Int) ∧ F < 11 → (iAnd (A 167 F) 2 = 0 ∨ nxW (A 174) (A 177) (A 170) (F : Int) c = -9) → Q (some (vi (-3))) (FI, rfG A 3, L, X)) (ok : ∀ F T : Nat, f = (F : Int) ∧ F < 11 ∧ T < c → ¬ iAnd (A 167 F) 2 = 0 → nxW (A 174) (A 177) (A 170) (F : Int) c = (T : Int) → Q (some (vi (T : Int))) (FI, up2 A 177 T (A 177 T + 1), L, X)) : WP2 P M_G_turn (d + 2) 0 [some (vr 165), some (vi f), none, none] [] (FI, A, L, X) Q := by
  have hcc := hI.2.1
  refine WP_n 1 rfl ?_
  refine WP2_callS 1 ok_M_G_isFloor rfl rfl rfl rfl rfl rfl rfl (Nat.le_of_ble_eq_true rfl) (Nat.le_of_ble_eq_true rfl) ?_
  refine sp_isFloor hf (fun hF => ?_) (fun hF hFb => ?_)
  · refine WP_ifne rfl rfl ⟨by decide, by decide⟩  (fun h2 => absurd h2 (by decide)) (fun h2 => ?_)
    refine WP_n 2 rfl ?_
    refine WP2_callV 1 ok_M_G_no rfl rfl rfl rfl rfl rfl (Nat.le_of_ble_eq_true rfl) (Nat.le_of_ble_eq_true rfl) rfl rfl ?_
    refine sp_no (k := 1) rfl (by omega) ?_
    exact WP_iret rfl rfl rfl ⟨_, rfl, r1 (by omega)⟩
  · refine WP_ifne rfl rfl ⟨by decide, by decide⟩  (fun h2 => ?_) (fun h2 => absurd (by decide) h2)
    obtain ⟨F, rfl⟩ : ∃ F : Nat, f = (F : Int) := ⟨f.toNat, by omega⟩
    have hfl := hI.2.2.2.1 F (by omega)
    unfold mFl at hfl
    refine WP_n 4 rfl ?_
    suffices hh : ∀ t, t ≤ c → ∀ z, z = nxW (A 174) (A 177) (A 170) (F : Int) t → WP2 P M_G_turn (d + 2) 11 [some (vr 165), some (vi (F : Int)), some (vi z), some (vi (t : Int))] [] (FI, A, L, X) Q from hh 0 (by omega) (-9) rfl
    refine up_to (P := fun t => ∀ z, z = nxW (A 174) (A 177) (A 170) (F : Int) t → WP2 P M_G_turn (d + 2) 11 [some (vr 165), some (vi (F : Int)), some (vi z), some (vi (t : Int))] [] (FI, A, L, X) Q) c ?_ ?_
    · rintro z rfl
      have hbd := nxW_bd (A 174) (A 177) (A 170) (F : Int) c
      refine WP_n 2 rfl ?_
      refine WP2_getf rfl rfl rfl rfl rfl ?_
      refine WP_icmpge rfl rfl ⟨by omega, by omega⟩ ⟨by omega, by omega⟩ (fun h14 => ?_) (fun h14 => absurd h14 (by omega))
      refine WP_n 1 rfl ?_
      refine WP2_getf rfl rfl rfl rfl rfl ?_
      refine WP_n 1 rfl ?_
      refine WP2_iald (j := F) rfl rfl (ia_lit (n := 11) rfl rfl (by omega)) (by omega) (by omega) (by omega) ?_
      refine WP_n 2 rfl ?_
      refine WP_ifeq rfl rfl (iAnd_inR _ _) (fun h53 => ?_) (fun h53 => ?_)
      · refine WP_n 2 rfl ?_
        refine WP2_callV 1 ok_M_G_no rfl rfl rfl rfl rfl rfl (Nat.le_of_ble_eq_true rfl) (Nat.le_of_ble_eq_true rfl) rfl rfl ?_
        refine sp_no (k := 3) rfl (by omega) ?_
        exact WP_iret rfl rfl rfl ⟨_, rfl, r3 F (by omega) (Or.inl h53)⟩
      · by_cases hz : nxW (A 174) (A 177) (A 170) (F : Int) c = -9
        · rw [hz]
          refine WP_n 2 rfl ?_
          refine WP_icmpne rfl rfl ⟨by decide, by decide⟩ ⟨by decide, by decide⟩  (fun h56 => absurd h56 (by decide)) (fun h56 => ?_)
          refine WP_n 2 rfl ?_
          refine WP2_callV 1 ok_M_G_no rfl rfl rfl rfl rfl rfl (Nat.le_of_ble_eq_true rfl) (Nat.le_of_ble_eq_true rfl) rfl rfl ?_
          refine sp_no (k := 3) rfl (by omega) ?_
          exact WP_iret rfl rfl rfl ⟨_, rfl, r3 F (by omega) (Or.inr hz)⟩
        · obtain ⟨T, hT⟩ : ∃ T : Nat, nxW (A 174) (A 177) (A 170) (F : Int) c = (T : Int) := ⟨(nxW (A 174) (A 177) (A 170) (F : Int) c).toNat, by omega⟩
          have hqT := hI.2.2.2.2.1 T (by omega)
          unfold mTm at hqT
          rw [hT]
          refine WP_n 2 rfl ?_
          refine WP_icmpne rfl rfl ⟨by omega, by omega⟩ ⟨by omega, by omega⟩ (fun h56 => ?_) (fun h56 => absurd h56 (by omega))
          refine WP_n 1 rfl ?_
          refine WP2_getf rfl rfl rfl rfl rfl ?_
          refine WP_n 2 rfl ?_
          refine WP2_iald (j := T) rfl rfl (ia_lit (n := 16) rfl rfl (by omega)) (by omega) (by omega) (by omega) ?_
          refine WP_n 2 rfl ?_
          refine WP2_iast (j := T) rfl rfl (ia_lit (n := 16) rfl rfl (by omega)) (by omega) (by omega) (by omega) ?_
          refine WP_n 1 rfl ?_
          exact WP_iret rfl rfl rfl ⟨_, rfl, ok F T (by omega) h53 hT⟩
    · rintro t ht ih z rfl
      have hbd := nxW_bd (A 174) (A 177) (A 170) (F : Int) t
      have hq := hI.2.2.2.2.1 t (by omega)
      unfold mTm at hq
      by_cases hz : nxW (A 174) (A 177) (A 170) (F : Int) t = -9
      · rw [hz]
        refine WP_n 2 rfl ?_
        refine WP2_getf rfl rfl rfl rfl rfl ?_
        refine WP_icmpge rfl rfl ⟨by omega, by omega⟩ ⟨by omega, by omega⟩ (fun h14 => absurd h14 (by omega)) (fun h14 => ?_)
        refine WP_n 1 rfl ?_
        refine WP2_getf rfl rfl rfl rfl rfl ?_
        refine WP_n 1 rfl ?_
        refine WP2_iald (j := t) rfl rfl (ia_lit (n := 16) rfl rfl (by omega)) (by omega) (by omega) (by omega) ?_
        refine WP_n 1 rfl ?_
        refine WP_icmpne rfl rfl ⟨by omega, by omega⟩ ⟨by omega, by omega⟩ (fun h20 => ?_) (fun h20 => ?_)
        · refine WP_n 2 rfl ?_
          exact ih _ (by rw [nxW_F (fun q => by omega), hz])
        · refine WP_n 2 rfl ?_
          refine WP_icmpeq rfl rfl ⟨by decide, by decide⟩ ⟨by decide, by decide⟩  (fun h23 => ?_) (fun h23 => absurd (by decide) h23)
          refine WP_n 4 rfl ?_
          exact ih _ (by rw [nxW_T ⟨by omega, Or.inl hz⟩])
      · obtain ⟨b, hb⟩ : ∃ b : Nat, nxW (A 174) (A 177) (A 170) (F : Int) t = (b : Int) := ⟨(nxW (A 174) (A 177) (A 170) (F : Int) t).toNat, by omega⟩
        have hbn : (nxW (A 174) (A 177) (A 170) (F : Int) t).toNat = b := by omega
        have hqb := hI.2.2.2.2.1 b (by omega)
        unfold mTm at hqb
        rw [hb]
        refine WP_n 2 rfl ?_
        refine WP2_getf rfl rfl rfl rfl rfl ?_
        refine WP_icmpge rfl rfl ⟨by omega, by omega⟩ ⟨by omega, by omega⟩ (fun h14 => absurd h14 (by omega)) (fun h14 => ?_)
        refine WP_n 1 rfl ?_
        refine WP2_getf rfl rfl rfl rfl rfl ?_
        refine WP_n 1 rfl ?_
        refine WP2_iald (j := t) rfl rfl (ia_lit (n := 16) rfl rfl (by omega)) (by omega) (by omega) (by omega) ?_
        refine WP_n 1 rfl ?_
        refine WP_icmpne rfl rfl ⟨by omega, by omega⟩ ⟨by omega, by omega⟩ (fun h20 => ?_) (fun h20 => ?_)
        · refine WP_n 2 rfl ?_
          exact ih _ (by rw [nxW_F (fun q => h20 q.1), hb])
        · refine WP_n 2 rfl ?_
          refine WP_icmpeq rfl rfl ⟨by omega, by omega⟩ ⟨by omega, by omega⟩ (fun h23 => absurd h23 (by omega)) (fun h23 => ?_)
          refine WP_n 1 rfl ?_
          refine WP2_getf rfl rfl rfl rfl rfl ?_
          refine WP_n 1 rfl ?_
          refine WP2_iald (j := t) rfl rfl (ia_lit (n := 16) rfl rfl (by omega)) (by omega) (by omega) (by omega) ?_
          refine WP_n 1 rfl ?_
          refine WP2_getf rfl rfl rfl rfl rfl ?_
          refine WP_n 1 rfl ?_
          refine WP2_iald (j := b) rfl rfl (ia_lit (n := 16) rfl rfl (by omega)) (by omega) (by omega) (by omega) ?_
          refine WP_n 2 rfl ?_
          refine WP2_getf rfl rfl rfl rfl rfl ?_
          refine WP_n 1 rfl ?_
          refine WP2_iald (j := b) rfl rfl (ia_lit (n := 16) rfl rfl (by omega)) (by omega) (by omega) (by omega) ?_
          refine WP_n 1 rfl ?_
          refine WP2_getf rfl rfl rfl rfl rfl ?_
          refine WP_n 1 rfl ?_
          refine WP2_iald (j := t) rfl rfl (ia_lit (n := 16) rfl rfl (by omega)) (by omega) (by omega) (by omega) ?_
          refine WP_n 1 rfl ?_
          have hnn := hI.1
          have m1 := mulB (x := A 177 t) (y := A 170 b) (a := 512) (b := 60) (by omega) (by omega) (by omega) (by omega)
          have m2 := mulB (x := A 177 b) (y := A 170 t) (a := 512) (b := 60) (by omega) (by omega) (by omega) (by omega)
          refine WP_icmpge rfl rfl ⟨by omega, by omega⟩ ⟨by omega, by omega⟩ (fun h42 => ?_) (fun h42 => ?_)
          · refine WP_n 2 rfl ?_
            exact ih _ (by rw [nxW_F (fun q => by rw [hbn] at q; rcases q.2 with q | q; exact hz q; omega), hb])
          · refine WP_n 4 rfl ?_
            exact ih _ (by rw [nxW_T ⟨by omega, Or.inr (by rw [hbn]; omega)⟩])
theorem pr_turn {P : PP} {n : Nat} {FI A L : Nat → Nat → Int} {X : SX} (h : INV P n FI A X) (hn : n < 512) {f : Int} (hf : inR f) : PAIR P n (FI, A, L, X) M_F_turn [some (vr 5), some (vi f), none] M_G_turn [some (vr 165), some (vi f), none, none] := by
  intro d
  have hm := h.mI
  have hn5 := h.1
  have hcI := h.2.1
  have hk1 := hcI.1
  have g1 := h.2.2.1.1
  obtain ⟨c, hc⟩ : ∃ c : Nat, FI 6 8 = (c : Int) := ⟨(FI 6 8).toNat, by omega⟩
  have hc2 : FI 165 0 = (c : Int) := by rw [g1]; exact hc
  have ek : ∀ F, F < 11 → A 167 F = A (8 + F) 1 := fun F hF => (h.2.2.1.2.2.1 F hF).2.1
  have et : ∀ t, t < 16 → A 177 t = A (20 + t) 8 := fun t ht => (h.2.2.1.2.2.2.1 t ht).2.2.1
  have en : ∀ F : Nat, nxW (A 174) (A 177) (A 170) (F : Int) c = nxW (fun t => A (20 + t) 4) (fun t => A (20 + t) 8) (fun t => A (20 + t) 0) (F : Int) c := fun F => nxW_congr c (fun t ht => by
    have g := h.2.2.1.2.2.2.1 t (by omega)
    unfold gTm at g
    omega)
  refine sp_F_turn hcI hc hn5 hf (fun c1 => ?_) (fun F c1 c1' => ?_) (fun F T c1 c1' c1'' => ?_)
  · refine ⟨_, rfl, ?_⟩
    refine sp_G_turn (hm.up (by omega)) hc2 hf (fun c2 => ?_) (fun F' c2 c2' => ?_) (fun F' T' c2 c2' c2'' => ?_)
    · exact ⟨rfl, INV_ref h hn (by omega)⟩
    · exfalso; omega
    · exfalso; omega
  · refine ⟨_, rfl, ?_⟩
    refine sp_G_turn (hm.up (by omega)) hc2 hf (fun c2 => ?_) (fun F' c2 c2' => ?_) (fun F' T' c2 c2' c2'' => ?_)
    · exfalso; omega
    · exact ⟨rfl, INV_ref h hn (by omega)⟩
    · obtain rfl : F = F' := by omega
      have e := en F
      rw [nxW_congr (pl' := A 174) (tu' := A 177) (sz' := A 170) c (fun t ht => ⟨up2_ne (by omega), up2_ne (by omega), up2_ne (by omega)⟩)] at c2''
      rw [up2_ne (by omega), ek F (by omega)] at c2'
      rcases c1' with q | q
      · exact absurd q c2'
      · exfalso; omega
  · refine ⟨_, rfl, ?_⟩
    have e := en F
    refine sp_G_turn (hm.up (by omega)) hc2 hf (fun c2 => ?_) (fun F' c2 c2' => ?_) (fun F' T' c2 c2' c2'' => ?_)
    · exfalso; omega
    · obtain rfl : F = F' := by omega
      rw [nxW_congr (pl' := A 174) (tu' := A 177) (sz' := A 170) c (fun t ht => ⟨up2_ne (by omega), up2_ne (by omega), up2_ne (by omega)⟩)] at c2'
      rw [up2_ne (by omega), ek F (by omega)] at c2'
      rcases c2' with q | q
      · exact absurd q c1'
      · exfalso; omega
    · obtain rfl : F = F' := by omega
      rw [nxW_congr (pl' := A 174) (tu' := A 177) (sz' := A 170) c (fun t ht => ⟨up2_ne (by omega), up2_ne (by omega), up2_ne (by omega)⟩)] at c2''
      obtain rfl : T = T' := by omega
      refine ⟨rfl, ?_⟩
      show INV P (n + 1) FI (up2 _ 177 T (up2 A (20 + T) 8 _ 177 T + 1)) X
      rw [up2_ne (a := 20 + T) (by omega), et T (by omega)]
      have q := hcI.2.2.2.1 T (by omega)
      unfold cTm at q
      exact INV_turn h hn (by omega) (by omega) (by omega)

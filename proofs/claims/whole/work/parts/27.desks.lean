/-! desks, both sides -/
theorem bitN_1 {s k : Nat} (h : s.testBit k = true) : bitN s k = 1 := by rw [bitN_tb, h]; rfl
theorem bitN_0 {s k : Nat} (h : s.testBit k = false) : bitN s k = 0 := by rw [bitN_tb, h]; rfl
def come (g : Nat → Int) (d : Nat) (p : Nat) : Int := sumN (fun p => 1 - (bitN (g p).toNat d : Int)) p
theorem come_s {g : Nat → Int} {d p s : Nat} (h : g p = (s : Int)) : come g d (p + 1) = come g d p + (1 - (bitN s d : Int)) := by
  show come g d p + (1 - (bitN (g p).toNat d : Int)) = _
  rw [h]
  rfl
theorem come_bd {g : Nat → Int} {d : Nat} (p : Nat) : 0 ≤ come g d p ∧ come g d p ≤ p := by
  have := sumN_bd (f := fun p => 1 - (bitN (g p).toNat d : Int)) (lo := 0) (hi := 1) p (fun k _ => by
    have := bitN_le (g k).toNat d
    omega)
  unfold come
  omega
def maxN (f : Nat → Int) : Nat → Int
  | 0 => 0
  | n + 1 => if maxN f n < f n then f n else maxN f n
theorem maxN_bd {f : Nat → Int} {hi : Int} (h0 : 0 ≤ hi) : ∀ n, (∀ k, k < n → f k ≤ hi) → 0 ≤ maxN f n ∧ maxN f n ≤ hi
  | 0, _ => ⟨Int.le_refl 0, h0⟩
  | n + 1, h => by
    have h1 := maxN_bd h0 n (fun k hk => h k (by omega))
    have h2 := h n (by omega)
    by_cases e : maxN f n < f n
    · rw [show maxN f (n + 1) = f n from if_pos e]
      omega
    · rw [show maxN f (n + 1) = maxN f n from if_neg e]
      omega
theorem maxN_congr {f g : Nat → Int} : ∀ n, (∀ k, k < n → f k = g k) → maxN f n = maxN g n
  | 0, _ => rfl
  | n + 1, h => by
    show (if _ then _ else _) = (if _ then _ else _)
    rw [maxN_congr n (fun k hk => h k (by omega)), h n (by omega)]
theorem sp_mostComing {P : PP} {d n : Nat} {FI A L : Nat → Nat → Int} {X : SX} {Q : Option AV → S2 → Prop} (hI : cI n FI A) {T told : Nat} (hT : T < 16) (htold : A (20 + T) 7 = (told : Int)) (hq : Q (some (vi (maxN (fun d => come (A (88 + T)) d told) 5))) (FI, A, L, X)) : WP2 P M_C_mostComing (d + 1) 0 [some (vr 160), some (vi (T : Int)), none, none, none, none] [] (FI, A, L, X) Q := by
  have htm := hI.2.2.2.1 T hT
  unfold cTm at htm
  refine WP_n 4 rfl ?_
  refine up_to (P := fun d9 => WP2 P M_C_mostComing (d + 1) 4 [some (vr 160), some (vi (T : Int)), some (vi (maxN (fun d => come (A (88 + T)) d told) d9)), some (vi (d9 : Int)), none, none] [] (FI, A, L, X) Q) 5 ?_ ?_ 0 (by omega)
  · have hmb := maxN_bd (f := fun d => come (A (88 + T)) d told) (hi := 20) (by omega) 5 (fun k _ => by have := come_bd (g := (A (88 + T))) (d := k) told; show come (A (88 + T)) k told ≤ 20; omega)
    refine WP_n 2 rfl ?_
    refine WP_icmpge rfl rfl ⟨by omega, by omega⟩ ⟨by omega, by omega⟩ (fun h6 => ?_) (fun h6 => absurd h6 (by omega))
    refine WP_n 1 rfl ?_
    exact WP_iret rfl rfl rfl ⟨_, rfl, hq⟩
  · intro d9 hd ih
    refine WP_n 2 rfl ?_
    refine WP_icmpge rfl rfl ⟨by omega, by omega⟩ ⟨by omega, by omega⟩ (fun h6 => absurd h6 (by omega)) (fun h6 => ?_)
    refine WP_n 4 rfl ?_
    have hmb := maxN_bd (f := fun d => come (A (88 + T)) d told) (hi := 20) (by omega) d9 (fun k _ => by have := come_bd (g := (A (88 + T))) (d := k) told; show come (A (88 + T)) k told ≤ 20; omega)
    refine up_to (P := fun p => WP2 P M_C_mostComing (d + 1) 11 [some (vr 160), some (vi (T : Int)), some (vi (maxN (fun d => come (A (88 + T)) d told) d9)), some (vi (d9 : Int)), some (vi (come (A (88 + T)) d9 p)), some (vi (p : Int))] [] (FI, A, L, X) Q) told ?_ ?_ 0 (by omega)
    · have hcb := come_bd (g := (A (88 + T))) (d := d9) told
      refine WP_n 2 rfl ?_
      refine WP2_getf rfl rfl rfl rfl rfl ?_
      refine WP2_getf rfl rfl rfl rfl rfl ?_
      refine WP_n 1 rfl ?_
      refine WP2_aald (b := 20) (j := T) (n := 16) rfl rfl rfl rfl rfl (by omega) (by omega) ?_
      refine WP_n 1 rfl ?_
      refine WP2_iald (j := 7) rfl rfl (ia_tm (by omega)) (by omega) (by omega) (by omega) ?_
      refine WP_icmpge rfl rfl ⟨by omega, by omega⟩ ⟨by omega, by omega⟩ (fun h19 => ?_) (fun h19 => absurd h19 (by omega))
      refine WP_n 2 rfl ?_
      refine WP_max rfl rfl rfl rfl rfl (Nat.le_of_ble_eq_true rfl) ⟨by omega, by omega⟩ ⟨by omega, by omega⟩ ?_
      refine WP_n 3 rfl ?_
      exact WP2_kill 4 (WP2_kill 5 ih)
    · intro p hp ihp
      have hcb := come_bd (g := (A (88 + T))) (d := d9) p
      have hpp := hI.2.2.2.2.2.1 T p hT (by omega)
      unfold cPp at hpp
      obtain ⟨s, hs⟩ : ∃ s : Nat, A (88 + T) p = (s : Int) := ⟨(A (88 + T) p).toNat, by omega⟩
      rw [come_s (g := (A (88 + T))) (s := s) hs] at ihp
      refine WP_n 2 rfl ?_
      refine WP2_getf rfl rfl rfl rfl rfl ?_
      refine WP2_getf rfl rfl rfl rfl rfl ?_
      refine WP_n 1 rfl ?_
      refine WP2_aald (b := 20) (j := T) (n := 16) rfl rfl rfl rfl rfl (by omega) (by omega) ?_
      refine WP_n 1 rfl ?_
      refine WP2_iald (j := 7) rfl rfl (ia_tm (by omega)) (by omega) (by omega) (by omega) ?_
      refine WP_icmpge rfl rfl ⟨by omega, by omega⟩ ⟨by omega, by omega⟩ (fun h19 => absurd h19 (by omega)) (fun h19 => ?_)
      refine WP_n 2 rfl ?_
      refine WP2_getf rfl rfl rfl rfl rfl ?_
      refine WP2_getf rfl rfl rfl rfl rfl ?_
      refine WP_n 1 rfl ?_
      refine WP2_aald (b := 88) (j := T) (n := 16) rfl rfl rfl rfl rfl (by omega) (by omega) ?_
      refine WP_n 1 rfl ?_
      refine WP2_iald (j := p) rfl rfl (ia_hm (by omega)) (by omega) (by omega) (by omega) ?_
      refine WP_n 1 rfl ?_
      refine WP2_callN 2 ok_M_F_holds rfl rfl rfl rfl rfl rfl rfl (Nat.le_of_ble_eq_true rfl) (Nat.le_of_ble_eq_true rfl) ?_
      rw [hs]
      refine sp_holds (by omega) (by omega) (fun hB => ?_) (fun hB => ?_)
      · refine WP_ifeq rfl rfl ⟨by decide, by decide⟩  (fun h30 => absurd h30 (by decide)) (fun h30 => ?_)
        refine WP_n 6 rfl ?_
        rw [bitN_1 hB] at ihp
        exact ihp
      · refine WP_ifeq rfl rfl ⟨by decide, by decide⟩  (fun h30 => ?_) (fun h30 => absurd (by decide) h30)
        refine WP_n 5 rfl ?_
        rw [bitN_0 hB] at ihp
        exact ihp
theorem sp_F_desks {P : PP} {d n : Nat} {FI A L : Nat → Nat → Int} {X : SX} {Q : Option AV → S2 → Prop} {t : Int} (ht : inR t) (hI : cI n FI A) (hn5 : n ≤ 512) (r1 : ((t < 0 ∨ FI 6 8 ≤ t)) → Q (some (vi (-1))) (FI, rfC A 1, L, X)) (ok : ∀ T told : Nat, (t = (T : Int) ∧ (T : Int) < FI 6 8 ∧ A (20 + T) 7 = (told : Int)) → Q (some (vi (maxN (fun d => come (A (88 + T)) d told) 5))) (FI, A, L, X)) : WP2 P M_F_desks (d + 2) 0 [some (vr 5), some (vi t)] [] (FI, A, L, X) Q := by
  obtain ⟨lt, ut⟩ := id ht
  have hcc := hI.1
  refine WP_n 2 rfl ?_
  refine WP2_callV 1 ok_M_F_noTeam rfl rfl rfl rfl rfl rfl (Nat.le_of_ble_eq_true rfl) (Nat.le_of_ble_eq_true rfl) rfl rfl ?_
  refine sp_noTeam ht ⟨by omega, by omega⟩ (fun hTt => ?_) (fun hTt hTtb => ?_)
  · refine WP_ifeq rfl rfl ⟨by decide, by decide⟩  (fun h3 => absurd h3 (by decide)) (fun h3 => ?_)
    refine WP_n 2 rfl ?_
    refine WP2_callV 1 ok_M_F_refuse rfl rfl rfl rfl rfl rfl (Nat.le_of_ble_eq_true rfl) (Nat.le_of_ble_eq_true rfl) rfl rfl ?_
    refine sp_refuse (k := 1) rfl (by omega) ?_
    exact WP_iret rfl rfl rfl ⟨_, rfl, r1 (by omega)⟩
  · refine WP_ifeq rfl rfl ⟨by decide, by decide⟩  (fun h3 => ?_) (fun h3 => absurd (by decide) h3)
    obtain ⟨T, rfl⟩ : ∃ T : Nat, t = (T : Int) := ⟨t.toNat, by omega⟩
    have htm := hI.2.2.2.1 T (by omega)
    unfold cTm at htm
    obtain ⟨told, htold⟩ : ∃ told : Nat, A (20 + T) 7 = (told : Int) := ⟨(A (20 + T) 7).toNat, by omega⟩
    refine WP_n 1 rfl ?_
    refine WP2_getf rfl rfl rfl rfl rfl ?_
    refine WP_n 1 rfl ?_
    refine WP2_callV 1 ok_M_C_mostComing rfl rfl rfl rfl rfl rfl (Nat.le_of_ble_eq_true rfl) (Nat.le_of_ble_eq_true rfl) rfl rfl ?_
    refine sp_mostComing hI (by omega) htold ?_
    exact WP_iret rfl rfl rfl ⟨_, rfl, ok T told (by omega)⟩
theorem sp_G_desks {P : PP} {d n : Nat} {FI A L : Nat → Nat → Int} {X : SX} {Q : Option AV → S2 → Prop} {t : Int} (ht : inR t) (hI : mI n FI A) (r1 : ((t < 0 ∨ FI 165 0 ≤ t)) → Q (some (vi (-1))) (FI, rfG A 1, L, X)) (ok : ∀ T told : Nat, (t = (T : Int) ∧ (T : Int) < FI 165 0 ∧ A 176 T = (told : Int)) → Q (some (vi (maxN (fun d => come (fun p => A 182 (20 * T + p)) d told) 5))) (FI, A, L, X)) : WP2 P M_G_desks (d + 2) 0 [some (vr 165), some (vi t), none, none, none, none] [] (FI, A, L, X) Q := by
  obtain ⟨lt, ut⟩ := id ht
  have hcc := hI.2.1
  refine WP_n 2 rfl ?_
  refine WP2_callV 1 ok_M_G_isTeam rfl rfl rfl rfl rfl rfl (Nat.le_of_ble_eq_true rfl) (Nat.le_of_ble_eq_true rfl) rfl rfl ?_
  refine sp_isTeam ht ⟨by omega, by omega⟩ (fun hTt => ?_) (fun hTt hTtb => ?_)
  · refine WP_ifne rfl rfl ⟨by decide, by decide⟩  (fun h3 => absurd h3 (by decide)) (fun h3 => ?_)
    refine WP_n 2 rfl ?_
    refine WP2_callV 1 ok_M_G_no rfl rfl rfl rfl rfl rfl (Nat.le_of_ble_eq_true rfl) (Nat.le_of_ble_eq_true rfl) rfl rfl ?_
    refine sp_no (k := 1) rfl (by omega) ?_
    exact WP_iret rfl rfl rfl ⟨_, rfl, r1 (by omega)⟩
  · refine WP_ifne rfl rfl ⟨by decide, by decide⟩  (fun h3 => ?_) (fun h3 => absurd (by decide) h3)
    obtain ⟨T, rfl⟩ : ∃ T : Nat, t = (T : Int) := ⟨t.toNat, by omega⟩
    have hT : T < 16 := by omega
    have htm := hI.2.2.2.2.1 T hT
    unfold mTm at htm
    obtain ⟨told, htold⟩ : ∃ told : Nat, A 176 T = (told : Int) := ⟨(A 176 T).toNat, by omega⟩
    have ok := fun T' q => ok T' told q
    refine WP_n 4 rfl ?_
    refine up_to (P := fun d9 => WP2 P M_G_desks (d + 2) 12 [some (vr 165), some (vi (T : Int)), some (vi (maxN (fun d => come (fun p => A 182 (20 * T + p)) d told) d9)), some (vi (d9 : Int)), none, none] [] (FI, A, L, X) Q) 5 ?_ ?_ 0 (by omega)
    · have hmb := maxN_bd (f := fun d => come (fun p => A 182 (20 * T + p)) d told) (hi := 20) (by omega) 5 (fun k _ => by have := come_bd (g := (fun p => A 182 (20 * T + p))) (d := k) told; show come (fun p => A 182 (20 * T + p)) k told ≤ 20; omega)
      refine WP_n 2 rfl ?_
      refine WP_icmpge rfl rfl ⟨by omega, by omega⟩ ⟨by omega, by omega⟩ (fun h14 => ?_) (fun h14 => absurd h14 (by omega))
      refine WP_n 1 rfl ?_
      exact WP_iret rfl rfl rfl ⟨_, rfl, ok T (by omega)⟩
    · intro d9 hd ih
      refine WP_n 2 rfl ?_
      refine WP_icmpge rfl rfl ⟨by omega, by omega⟩ ⟨by omega, by omega⟩ (fun h14 => absurd h14 (by omega)) (fun h14 => ?_)
      refine WP_n 4 rfl ?_
      have hmb := maxN_bd (f := fun d => come (fun p => A 182 (20 * T + p)) d told) (hi := 20) (by omega) d9 (fun k _ => by have := come_bd (g := (fun p => A 182 (20 * T + p))) (d := k) told; show come (fun p => A 182 (20 * T + p)) k told ≤ 20; omega)
      refine up_to (P := fun p => WP2 P M_G_desks (d + 2) 19 [some (vr 165), some (vi (T : Int)), some (vi (maxN (fun d => come (fun p => A 182 (20 * T + p)) d told) d9)), some (vi (d9 : Int)), some (vi (come (fun p => A 182 (20 * T + p)) d9 p)), some (vi (p : Int))] [] (FI, A, L, X) Q) told ?_ ?_ 0 (by omega)
      · have hcb := come_bd (g := (fun p => A 182 (20 * T + p))) (d := d9) told
        refine WP_n 2 rfl ?_
        refine WP2_getf rfl rfl rfl rfl rfl ?_
        refine WP_n 1 rfl ?_
        refine WP2_iald (j := T) rfl rfl (ia_lit (n := 16) rfl rfl (by omega)) (by omega) (by omega) (by omega) ?_
        refine WP_icmpge rfl rfl ⟨by omega, by omega⟩ ⟨by omega, by omega⟩ (fun h24 => ?_) (fun h24 => absurd h24 (by omega))
        refine WP_n 2 rfl ?_
        refine WP_icmple rfl rfl ⟨by omega, by omega⟩ ⟨by omega, by omega⟩ (fun h43 => ?_) (fun h43 => ?_)
        · refine WP_n 2 rfl ?_
          exact WP2_kill 4 (WP2_kill 5 (by rw [show maxN (fun d => come (fun p => A 182 (20 * T + p)) d told) (d9 + 1) = maxN (fun d => come (fun p => A 182 (20 * T + p)) d told) d9 from if_neg (show ¬ maxN (fun d => come (fun p => A 182 (20 * T + p)) d told) d9 < come (fun p => A 182 (20 * T + p)) d9 told by omega)] at ih; exact ih))
        · refine WP_n 4 rfl ?_
          exact WP2_kill 4 (WP2_kill 5 (by rw [show maxN (fun d => come (fun p => A 182 (20 * T + p)) d told) (d9 + 1) = come (fun p => A 182 (20 * T + p)) d9 told from if_pos (show maxN (fun d => come (fun p => A 182 (20 * T + p)) d told) d9 < come (fun p => A 182 (20 * T + p)) d9 told by omega)] at ih; exact ih))
      · intro p hp ihp
        have hcb := come_bd (g := (fun p => A 182 (20 * T + p))) (d := d9) p
        have hpp := hI.2.2.2.2.2.2.1 (20 * T + p) (by omega)
        unfold mPp at hpp
        obtain ⟨s, hs⟩ : ∃ s : Nat, A 182 (20 * T + p) = (s : Int) := ⟨(A 182 (20 * T + p)).toNat, by omega⟩
        rw [come_s (g := (fun p => A 182 (20 * T + p))) (s := s) hs] at ihp
        refine WP_n 2 rfl ?_
        refine WP2_getf rfl rfl rfl rfl rfl ?_
        refine WP_n 1 rfl ?_
        refine WP2_iald (j := T) rfl rfl (ia_lit (n := 16) rfl rfl (by omega)) (by omega) (by omega) (by omega) ?_
        refine WP_icmpge rfl rfl ⟨by omega, by omega⟩ ⟨by omega, by omega⟩ (fun h24 => absurd h24 (by omega)) (fun h24 => ?_)
        refine WP_n 1 rfl ?_
        refine WP2_getf rfl rfl rfl rfl rfl ?_
        refine WP_n 5 rfl ?_
        refine WP2_iald (j := ((20 * T) + p)) rfl rfl (ia_lit (n := 320) rfl rfl (by omega)) (by omega) (by omega) (by omega) ?_
        refine WP_n 4 rfl ?_
        rw [hs, iBit (by omega) (by omega)]
        have hbl := bitN_le s d9
        refine WP_ifne rfl rfl ⟨by omega, by omega⟩ (fun h37 => ?_) (fun h37 => ?_)
        · refine WP_n 2 rfl ?_
          rw [show (bitN s d9 : Int) = 1 by omega] at ihp
          rw [show come (fun p => A 182 (20 * T + p)) d9 p + (1 - 1) = come (fun p => A 182 (20 * T + p)) d9 p by omega] at ihp
          exact ihp
        · refine WP_n 3 rfl ?_
          rw [show (bitN s d9 : Int) = 0 by omega] at ihp
          exact ihp
theorem pr_desks {P : PP} {n : Nat} {FI A L : Nat → Nat → Int} {X : SX} (h : INV P n FI A X) (hn : n < 512) {t : Int} (ht : inR t) : PAIR P n (FI, A, L, X) M_F_desks [some (vr 5), some (vi t)] M_G_desks [some (vr 165), some (vi t), none, none, none, none] := by
  intro d
  have hm := h.mI
  have hn5 := h.1
  have hcI := h.2.1
  have hk1 := hcI.1
  have g1 := h.2.2.1.1
  obtain ⟨lt, ut⟩ := id ht
  refine sp_F_desks ht hcI hn5 (fun c1 => ?_) (fun T told c1 => ?_)
  · refine ⟨_, rfl, ?_⟩
    refine sp_G_desks ht (hm.up (by omega)) (fun c2 => ?_) (fun T' told' c2 => ?_)
    · exact ⟨rfl, INV_ref h hn (by omega)⟩
    · exfalso; omega
  · refine ⟨_, rfl, ?_⟩
    refine sp_G_desks ht hm (fun c2 => ?_) (fun T' told' c2 => ?_)
    · exfalso; omega
    · obtain rfl : T = T' := by omega
      have hp := (h.2.2.1.2.2.2.1 T (by omega)).2.1
      obtain rfl : told = told' := by omega
      have htm := hcI.2.2.2.1 T (by omega)
      unfold cTm at htm
      refine ⟨congrArg (fun z => some (vi z)) (maxN_congr 5 (fun d9 _ => sumN_congr told (fun p hp => ?_))), h.next hn⟩
      show 1 - (bitN (A 182 (20 * T + p)).toNat d9 : Int) = 1 - (bitN (A (88 + T) p).toNat d9 : Int)
      rw [(h.2.2.1.2.2.2.2.2.1 T p (by omega) (by omega)).1]

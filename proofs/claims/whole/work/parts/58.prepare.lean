/-! moves of the class: prepare -/
theorem sp_prepare {P : PP} {d : Nat} {FI A L : Nat → Nat → Int} {X : SX} {Q : Option AV → S2 → Prop} {n : Nat} {c mv st K S s9 : Nat} (hh : HM n FI A c mv st K S) (hM : mvS (fun t => A (20 + t) 6) c mv) (hSt : stS (fun t => A (20 + t) 4) (fun t => A (20 + t) 6) c s9 st) (hs9 : s9 < 2048) (hx : xI P X) (hq : ∀ (F1 B : Nat → Nat → Int) (X1 : SX) (len : Nat), MSt FI A c mv st K S F1 B → xI P X1 → XO P X1 len → 5 ^ K ≤ len → (∀ x, x < 5 ^ K → B X1.2.2.1 x = -1) → Q none (F1, B, L, X1)) : WP2 P M_V_prepare (d + 2) 0 [some (vr 152), some (vi (s9 : Int)), none, none] [] (FI, A, L, X) Q := by
  have hI := hh.1
  have hc := hh.2.1
  have hc16 := hh.c
  have hp16 : 2 ^ c ≤ 2 ^ 16 := Nat.pow_le_pow_right (by omega) hc16
  have hm16 := hh.2.2.1
  have hst11 := hh.2.2.2.1
  have hK := hh.2.2.2.2.1
  have hK6 := hh.2.2.2.2.2.1
  have hS := hh.2.2.2.2.2.2.1
  have hS5 := hh.2.2.2.2.2.2.2
  have hpK : 5 ^ K ≤ 5 ^ 6 := Nat.pow_le_pow_right (by omega) hK6
  have hK0 : (0 : Int) ≤ ((5 ^ K : Nat) : Int) := Int.natCast_nonneg _
  refine WP_n 1 rfl ?_
  refine WP2_getf rfl rfl rfl rfl rfl ?_
  refine WP2_callV 0 ok_M_H_targetedTeams rfl rfl rfl rfl rfl rfl (Nat.le_of_ble_eq_true rfl) (Nat.le_of_ble_eq_true rfl) rfl rfl ?_
  refine sp_targetedTeams hI hc (fun mv2 hmv0 hmv => ?_)
  have emv : mv = mv2 := (mvS_uniq (fun _ _ => rfl) hM ⟨hmv0, hmv⟩).symm
  subst emv
  refine WP_n 4 rfl ?_
  refine WP2_getf rfl rfl rfl rfl rfl ?_
  refine WP2_callN 2 ok_M_F_list rfl rfl rfl rfl rfl rfl rfl (Nat.le_of_ble_eq_true rfl) (Nat.le_of_ble_eq_true rfl) ?_
  refine sp_list (s := mv) (by omega) (ia_lit (n := 6) rfl rfl (by omega)) (by omega) (by omega) (by omega) (fun A1 a1 a2 => ?_)
  rw [← hK]
  refine WP2_putk (k := 9) rfl rfl rfl rfl rfl rfl (by exact trivial) ?_
  refine WP_n 3 rfl ?_
  refine WP2_getf rfl rfl rfl rfl rfl ?_
  refine WP2_callV 0 ok_M_H_floorsOfMovers rfl rfl rfl rfl rfl rfl (Nat.le_of_ble_eq_true rfl) (Nat.le_of_ble_eq_true rfl) rfl rfl ?_
  have s1 : SAME FI A (up2 FI 152 9 (K : Int)) A1 := ⟨⟨up2_ne (by omega), up2_ne (by omega), up2_ne (by omega), up2_ne (by omega)⟩, a1 _ _ (by omega), fun a j q => a1 a j (by omega)⟩
  refine sp_floorsOfMovers (hI.off s1) (s1.1.1.trans hc) (fun fm hfm0 hfm => ?_)
  have hlt : s9 ||| fm < 2 ^ 11 := Nat.or_lt_two_pow (by omega) (by omega)
  have est : s9 ||| fm = st := stS_uniq (pl' := fun t => A1 (20 + t) 4) (tg' := fun t => A1 (20 + t) 6) (fun t ht => ⟨a1 _ _ (by omega), a1 _ _ (by omega)⟩) hSt ⟨hlt, fun f hf => by rw [Nat.testBit_or, Bool.or_eq_true, hfm f hf]⟩
  refine WP_n 1 rfl ?_
  rw [iOr_n (by omega) (by omega), est]
  refine WP_n 1 rfl ?_
  refine WP2_getf rfl rfl rfl rfl rfl ?_
  refine WP2_callN 2 ok_M_F_list rfl rfl rfl rfl rfl rfl rfl (Nat.le_of_ble_eq_true rfl) (Nat.le_of_ble_eq_true rfl) ?_
  refine sp_list (s := st) (by omega) (ia_lit (n := 5) rfl rfl (by omega)) (by omega) (by omega) (by omega) (fun A2 a3 a4 => ?_)
  rw [← hS]
  refine WP2_putk (k := 10) rfl rfl rfl rfl rfl rfl (by exact trivial) ?_
  refine WP_n 2 rfl ?_
  have s2 : SAME FI A (up2 (up2 FI 152 9 (K : Int)) 152 10 (S : Int)) A2 := (SAME.upF s1 (by omega)).trans ⟨⟨rfl, rfl, rfl, rfl⟩, a3 _ _ (by omega), fun a j q => a3 a j (by omega)⟩
  have e9 : (up2 (up2 FI 152 9 (K : Int)) 152 10 (S : Int)) 152 9 = (K : Int) := by rw [up2_ne (by omega), up2_same]
  have e10 : (up2 (up2 FI 152 9 (K : Int)) 152 10 (S : Int)) 152 10 = (S : Int) := up2_same
  have hMM : ∀ B : Nat → Nat → Int, (∀ a j, a ≠ 155 → a < 158 ∨ (163 ≤ a ∧ a ≤ 185) → B a j = A2 a j) → (∀ s', s' < S → B 155 s' = frM A c mv st s') → MSt FI A c mv st K S (up2 (up2 FI 152 9 (K : Int)) 152 10 (S : Int)) B := fun B b1 b2 =>
    ⟨s2.trans ⟨⟨rfl, rfl, rfl, rfl⟩, b1 _ _ (by omega) (by omega), fun a j q => b1 a j (by omega) (by omega)⟩, ⟨e9, e10⟩, fun i hi => by rw [b1 _ _ (by omega) (by omega), a3 _ _ (by omega)]; exact a2 i (by omega), fun s hs => by rw [b1 _ _ (by omega) (by omega)]; exact a4 s (by omega), b2⟩
  generalize hF2 : (up2 (up2 FI 152 9 (K : Int)) 152 10 (S : Int)) = F2 at s2 e9 e10 hMM ⊢
  have fin : ∀ (B : Nat → Nat → Int) (X1 : SX) (len : Nat), MSt FI A c mv st K S F2 B → xI P X1 → XO P X1 len → 5 ^ K ≤ len → WP2 P M_V_prepare (d + 2) 58 [some (vr 152), some (vi (s9 : Int)), some (vi (mv : Int)), some (vi ((5 ^ K : Nat) : Int))] [] (F2, B, L, X1) Q := fun B X1 len hB hx1 hXO hl => by
    have hXO' := hXO
    obtain ⟨HA_ml, HA_qu, x3, x4, x5, x6⟩ := hXO
    refine WP_n 1 rfl ?_
    refine WP2_getf rfl rfl rfl rfl rfl ?_
    refine WP_n 3 rfl ?_
    refine WP2_callS 4 ok_J_fillR rfl rfl rfl rfl rfl rfl rfl (Nat.le_of_ble_eq_true rfl) (Nat.le_of_ble_eq_true rfl) ?_
    refine sp_fillR (B := X1.2.2.1) (len := len) (N := 5 ^ K) (v := -1) HA_ml (by omega) hl x6 (fun B2 c1 c2 => ?_)
    exact WP_vret rfl rfl rfl ⟨_, rfl, hq F2 B2 X1 len (hB.up hK6 hS5 (fun a j q => c1 a j (by omega)) (fun _ _ _ => rfl)) hx1 hXO' hl c2⟩
  suffices hw : ∀ s, s ≤ S → ∀ B : Nat → Nat → Int, (∀ a j, a ≠ 155 → B a j = A2 a j) → (∀ s', s' < s → B 155 s' = frM A c mv st s') → WP2 P M_V_prepare (d + 2) 22 [some (vr 152), some (vi (s9 : Int)), some (vi (mv : Int)), some (vi (s : Int))] [] (F2, B, L, X) Q from hw 0 (by omega) A2 (fun _ _ _ => rfl) (fun s hs => absurd hs (by omega))
  refine up_to (P := fun s => ∀ B : Nat → Nat → Int, (∀ a j, a ≠ 155 → B a j = A2 a j) → (∀ s', s' < s → B 155 s' = frM A c mv st s') → WP2 P M_V_prepare (d + 2) 22 [some (vr 152), some (vi (s9 : Int)), some (vi (mv : Int)), some (vi (s : Int))] [] (F2, B, L, X) Q) S ?_ ?_
  · intro B b1 b2
    obtain ⟨k, len, k1, k2, HA_ml, HA_qu, k5, k6, k7, k8, k9⟩ := hx
    have hl6 : 5 ^ k ≤ 5 ^ 6 := Nat.pow_le_pow_right (by omega) k1
    refine WP_n 2 rfl ?_
    refine WP2_getf rfl rfl rfl rfl rfl ?_
    refine WP_icmpge rfl rfl ⟨by omega, by omega⟩ ⟨by omega, by omega⟩ (fun h25 => ?_) (fun h25 => absurd h25 (by omega))
    refine WP2_gets (x := 4) rfl rfl rfl ?_
    refine WP_n 1 rfl ?_
    refine WP2_getf rfl rfl rfl rfl rfl ?_
    refine WP2_ialds (j := K) rfl rfl (ia_lit (n := 7) rfl rfl (by omega)) (by omega) (by omega) (by omega) ?_
    rw [show st5 P 4 K = PWt K from rfl, PWt_pow K (by omega)]
    refine WP_n 2 rfl ?_
    refine WP2_getf rfl rfl rfl rfl rfl ?_
    refine WP2_alen rfl rfl (HA_ml) ?_
    refine WP_n 1 rfl ?_
    refine WP_icmpge rfl rfl ⟨by omega, by omega⟩ ⟨by omega, by omega⟩ (fun h49 => ?_) (fun h49 => ?_)
    · exact fin B X len (hMM B (fun a j q _ => b1 a j q) b2) ⟨k, len, k1, k2, HA_ml, HA_qu, k5, k6, k7, k8, k9⟩ ⟨HA_ml, HA_qu, k5, k6, k7, by omega⟩ (by omega)
    · refine WP_n 2 rfl ?_
      refine WP2_newi (n := 5 ^ K) rfl rfl rfl (by omega) ?_
      refine WP2_putml rfl rfl rfl rfl rfl (by exact trivial) ?_
      refine WP_n 2 rfl ?_
      refine WP2_newi (n := 5 ^ K) rfl rfl rfl (by omega) ?_
      refine WP2_putqu rfl rfl rfl rfl rfl (by exact trivial) ?_
      have hkK : k < K := by
        refine Nat.lt_of_not_le (fun w => ?_)
        have := Nat.pow_le_pow_right (show 0 < 5 by omega) w
        omega
      have e5 : 5 ^ K = 5 ^ (K - 1) * 5 := by rw [← Nat.pow_succ, show (K - 1).succ = K by omega]
      have e6 : 5 ^ k ≤ 5 ^ (K - 1) := Nat.pow_le_pow_right (by omega) (by omega)
      have i1 : isIA P (X.1 + 1 + 1, X.2.1 + 5 ^ K + 5 ^ K, 193 + X.1, 193 + (X.1 + 1), fun a => if a = 193 + (X.1 + 1) then 5 ^ K else if a = 193 + X.1 then 5 ^ K else X.2.2.2.2 a) (193 + X.1) (5 ^ K) := ⟨kd_big (by omega), by
        rw [iL_big (by omega)]
        show (if 193 + X.1 = 193 + (X.1 + 1) then 5 ^ K else if 193 + X.1 = 193 + X.1 then 5 ^ K else X.2.2.2.2 (193 + X.1)) = 5 ^ K
        rw [if_neg (by omega), if_pos rfl], by show 193 + X.1 < 193 + (X.1 + 1 + 1); omega⟩
      have i2 : isIA P (X.1 + 1 + 1, X.2.1 + 5 ^ K + 5 ^ K, 193 + X.1, 193 + (X.1 + 1), fun a => if a = 193 + (X.1 + 1) then 5 ^ K else if a = 193 + X.1 then 5 ^ K else X.2.2.2.2 a) (193 + (X.1 + 1)) (5 ^ K) := ⟨kd_big (by omega), by
        rw [iL_big (by omega)]
        show (if 193 + (X.1 + 1) = 193 + (X.1 + 1) then 5 ^ K else if 193 + (X.1 + 1) = 193 + X.1 then 5 ^ K else X.2.2.2.2 (193 + (X.1 + 1))) = 5 ^ K
        rw [if_pos rfl], by show 193 + (X.1 + 1) < 193 + (X.1 + 1 + 1); omega⟩
      refine fin _ (X.1 + 1 + 1, X.2.1 + 5 ^ K + 5 ^ K, 193 + X.1, 193 + (X.1 + 1), fun a => if a = 193 + (X.1 + 1) then 5 ^ K else if a = 193 + X.1 then 5 ^ K else X.2.2.2.2 a) (5 ^ K) (hMM _ (fun a j q q2 => ?_) (fun s' hs' => ?_)) ⟨K, 5 ^ K, hK6, rfl, i1, i2, Or.inr (by show 193 ≤ 193 + X.1; omega), Or.inr (by show 193 ≤ 193 + (X.1 + 1); omega), by show 193 + X.1 ≠ 193 + (X.1 + 1); omega, by show X.1 + 1 + 1 ≤ 2 * K; omega, by show X.2.1 + 5 ^ K + 5 ^ K ≤ 100000 + 4 * 5 ^ K; omega⟩ ⟨i1, i2, Or.inr (by show 193 ≤ 193 + X.1; omega), Or.inr (by show 193 ≤ 193 + (X.1 + 1); omega), by show 193 + X.1 ≠ 193 + (X.1 + 1); omega, by omega⟩ (Nat.le_refl _)
      · show (if a = 193 + (X.1 + 1) then 0 else if a = 193 + X.1 then 0 else B a j) = A2 a j
        rw [if_neg (by omega), if_neg (by omega)]
        exact b1 a j q
      · show (if 155 = 193 + (X.1 + 1) then 0 else if 155 = 193 + X.1 then 0 else B 155 s') = frM A c mv st s'
        rw [if_neg (by omega), if_neg (by omega)]
        exact b2 s' hs'
  · intro s hs ih B b1 b2
    have hF := hh.F hs
    have e154 : B 154 s = (nth st s : Int) := (b1 _ _ (by omega)).trans (a4 s (by omega))
    have sB : SAME FI A F2 B := s2.trans ⟨⟨rfl, rfl, rfl, rfl⟩, b1 _ _ (by omega), fun a j q => b1 a j (by omega)⟩
    refine WP_n 2 rfl ?_
    refine WP2_getf rfl rfl rfl rfl rfl ?_
    refine WP_icmpge rfl rfl ⟨by omega, by omega⟩ ⟨by omega, by omega⟩ (fun h25 => absurd h25 (by omega)) (fun h25 => ?_)
    refine WP_n 1 rfl ?_
    refine WP2_getf rfl rfl rfl rfl rfl ?_
    refine WP_n 2 rfl ?_
    refine WP2_getf rfl rfl rfl rfl rfl ?_
    refine WP_n 1 rfl ?_
    refine WP2_getf rfl rfl rfl rfl rfl ?_
    refine WP_n 1 rfl ?_
    refine WP2_iald (j := s) rfl rfl (ia_lit (n := 5) rfl rfl (by omega)) (by omega) (by omega) (by omega) ?_
    rw [e154]
    refine WP_n 1 rfl ?_
    refine WP2_callV 2 ok_M_H_freeSeats rfl rfl rfl rfl rfl rfl (Nat.le_of_ble_eq_true rfl) (Nat.le_of_ble_eq_true rfl) rfl rfl ?_
    refine sp_freeSeats (hI.off sB) (sB.1.1.trans hc) (F := nth st s) (s := mv) hF (by omega) ?_
    rw [occ_pw]
    refine WP2_iast (j := s) rfl rfl (ia_lit (n := 5) rfl rfl (by omega)) (by omega) (by omega) (by omega) ?_
    refine WP_n 2 rfl ?_
    refine ih _ (fun a j q => ?_) (fun s' hs' => ?_)
    · rw [up2_ne (Or.inl q)]
      exact b1 a j q
    · by_cases z : s' = s
      · rw [z, up2_same, sB.2.2 _ _ (by omega), occ_off sB hc16 (fun t ht => by unfold pw; rw [sB.2.2 _ _ (by omega)])]
        rfl
      · rw [up2_ne (Or.inr z)]
        exact b2 s' (by omega)

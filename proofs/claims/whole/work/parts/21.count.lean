/-! sums over the teams; count, free -/
theorem sp_teamsWith {P : PP} {d n c : Nat} {FI A L : Nat → Nat → Int} {X : SX} {Q : Option AV → S2 → Prop} (hI : cI n FI A) (hc : FI 6 8 = (c : Int)) {K : Nat} {v : Int} (hK : K < 9) (hv : inR v) (hR : ∀ t, t < 16 → inR (A (20 + t) K)) (hq : Q (some (vi (sumN (fun t => if A (20 + t) K = v then (1 : Int) else 0) c))) (FI, A, L, X)) : WP2 P M_H_teamsWith (d) 0 [some (vr 6), some (vi (K : Int)), some (vi v), none, none] [] (FI, A, L, X) Q := by
  have hcc := hI.1
  refine WP_n 4 rfl ?_
  refine up_to (P := fun t => WP2 P M_H_teamsWith d 4 [some (vr 6), some (vi (K : Int)), some (vi v), some (vi (sumN (fun t => if A (20 + t) K = v then (1 : Int) else 0) t)), some (vi (t : Int))] [] (FI, A, L, X) Q) c ?_ ?_ 0 (by omega)
  · refine WP_n 2 rfl ?_
    refine WP2_getf rfl rfl rfl rfl rfl ?_
    refine WP_icmpge rfl rfl ⟨by omega, by omega⟩ ⟨by omega, by omega⟩ (fun h7 => ?_) (fun h7 => absurd h7 (by omega))
    refine WP_n 1 rfl ?_
    exact WP_iret rfl rfl rfl ⟨_, rfl, hq⟩
  · intro t ht ih
    have hr := hR t (by omega)
    refine WP_n 2 rfl ?_
    refine WP2_getf rfl rfl rfl rfl rfl ?_
    refine WP_icmpge rfl rfl ⟨by omega, by omega⟩ ⟨by omega, by omega⟩ (fun h7 => absurd h7 (by omega)) (fun h7 => ?_)
    refine WP_n 1 rfl ?_
    refine WP2_getf rfl rfl rfl rfl rfl ?_
    refine WP_n 1 rfl ?_
    refine WP2_aald (b := 20) (j := t) (n := 16) rfl rfl rfl rfl rfl (by omega) (by omega) ?_
    refine WP_n 1 rfl ?_
    refine WP2_iald (j := K) rfl rfl (ia_tm (by omega)) (by omega) (by omega) (by omega) ?_
    refine WP_n 1 rfl ?_
    refine WP_icmpne rfl rfl hr hv (fun h15 => ?_) (fun h15 => ?_)
    · refine WP_n 2 rfl ?_
      have e : sumN (fun t => if A (20 + t) K = v then (1 : Int) else 0) (t + 1) = sumN (fun t => if A (20 + t) K = v then (1 : Int) else 0) t := by
        show sumN (fun t => if A (20 + t) K = v then (1 : Int) else 0) t + (if _ then _ else _) = _
        rw [if_neg h15]
        omega
      rw [e] at ih
      exact ih
    · refine WP_n 3 rfl ?_
      have e : sumN (fun t => if A (20 + t) K = v then (1 : Int) else 0) (t + 1) = sumN (fun t => if A (20 + t) K = v then (1 : Int) else 0) t + 1 := by
        show sumN (fun t => if A (20 + t) K = v then (1 : Int) else 0) t + (if _ then _ else _) = _
        rw [if_pos (by omega)]
      rw [e] at ih
      exact ih
theorem sp_twosIn {P : PP} {d n c : Nat} {FI A L : Nat → Nat → Int} {X : SX} {Q : Option AV → S2 → Prop} (hI : cI n FI A) (hc : FI 6 8 = (c : Int)) {W : Nat} (hW : W < 3) (hq : Q (some (vi (sumN (fun a => sumN (fun b => A (tbO W + 1 + a) b) a) c))) (FI, A, L, X)) : WP2 P M_H_twosIn (d + 1) 0 [some (vr 6), some (vi (W : Int)), none, none, none, none] [] (FI, A, L, X) Q := by
  have hcc := hI.1
  refine WP_n 2 rfl ?_
  refine WP2_callV 1 ok_M_H_tableOf rfl rfl rfl rfl rfl rfl (Nat.le_of_ble_eq_true rfl) (Nat.le_of_ble_eq_true rfl) rfl rfl ?_
  refine sp_tableOf hW ?_
  refine WP_n 5 rfl ?_
  have hbo : kd (tbO W) = 3 ∧ rL (tbO W) = 16 := by rcases (show W = 0 ∨ W = 1 ∨ W = 2 by omega) with rfl | rfl | rfl <;> exact ⟨rfl, rfl⟩
  have hia : ∀ a, a < 16 → isIA P X (tbO W + 1 + a) 16 := by
    intro a ha
    rcases (show W = 0 ∨ W = 1 ∨ W = 2 by omega) with rfl | rfl | rfl
    · exact ia_vs ha
    · exact ia_br ha
    · exact ia_nr ha
  have hbd : ∀ a b, a < 16 → b < 16 → 0 ≤ A (tbO W + 1 + a) b ∧ A (tbO W + 1 + a) b ≤ 99 := by
    intro a b ha hb
    have hq := hI.2.2.2.2.1 a b ha hb
    unfold cTw at hq
    rcases (show W = 0 ∨ W = 1 ∨ W = 2 by omega) with rfl | rfl | rfl
    · show 0 ≤ A (37 + a) b ∧ A (37 + a) b ≤ 99
      omega
    · show 0 ≤ A (54 + a) b ∧ A (54 + a) b ≤ 99
      omega
    · show 0 ≤ A (71 + a) b ∧ A (71 + a) b ≤ 99
      omega
  generalize tbO W = B at *
  have hB5 := kd_lt (a := B) (by rw [hbo.1]; decide)
  have hbi : ∀ a, a < 16 → ∀ k, k ≤ a → 0 ≤ sumN (fun b => A (B + 1 + a) b) k ∧ sumN (fun b => A (B + 1 + a) b) k ≤ 1600 := fun a ha k hk => by
    have := sumN_bd (f := fun b => A (B + 1 + a) b) (lo := 0) (hi := 99) k (fun b hb => hbd a b ha (by omega))
    omega
  have hbo2 : ∀ k, k ≤ 16 → 0 ≤ sumN (fun a => sumN (fun b => A (B + 1 + a) b) a) k ∧ sumN (fun a => sumN (fun b => A (B + 1 + a) b) a) k ≤ 25600 := fun k hk => by
    have := sumN_bd (f := (fun a => sumN (fun b => A (B + 1 + a) b) a)) (lo := 0) (hi := 1600) k (fun a ha => hbi a (by omega) a (by omega))
    omega
  refine up_to (P := fun a => WP2 P M_H_twosIn (d + 1) 8 [some (vr 6), some (vi (W : Int)), some (vr B), some (vi (sumN (fun a => sumN (fun b => A (B + 1 + a) b) a) a)), some (vi (a : Int)), none] [] (FI, A, L, X) Q) c ?_ ?_ 0 (by omega)
  · have hz := hbo2 c (by omega)
    refine WP_n 2 rfl ?_
    refine WP2_getf rfl rfl rfl rfl rfl ?_
    refine WP_icmpge rfl rfl ⟨by omega, by omega⟩ ⟨by omega, by omega⟩ (fun h11 => ?_) (fun h11 => absurd h11 (by omega))
    refine WP_n 1 rfl ?_
    exact WP_iret rfl rfl rfl ⟨_, rfl, hq⟩
  · intro a ha ih
    have hz := hbo2 a (by omega)
    have hz0 := hbo2 (a + 1) (by omega)
    refine WP_n 2 rfl ?_
    refine WP2_getf rfl rfl rfl rfl rfl ?_
    refine WP_icmpge rfl rfl ⟨by omega, by omega⟩ ⟨by omega, by omega⟩ (fun h11 => absurd h11 (by omega)) (fun h11 => ?_)
    refine WP_n 2 rfl ?_
    rw [show sumN (fun a => sumN (fun b => A (B + 1 + a) b) a) a = sumN (fun a => sumN (fun b => A (B + 1 + a) b) a) a + sumN (fun b => A (B + 1 + a) b) 0 from (Int.add_zero _).symm]
    refine up_to (P := fun b => WP2 P M_H_twosIn (d + 1) 14 [some (vr 6), some (vi (W : Int)), some (vr B), some (vi (sumN (fun a => sumN (fun b => A (B + 1 + a) b) a) a + sumN (fun b => A (B + 1 + a) b) b)), some (vi (a : Int)), some (vi (b : Int))] [] (FI, A, L, X) Q) a ?_ ?_ 0 (by omega)
    · refine WP_n 2 rfl ?_
      refine WP_icmpge rfl rfl ⟨by omega, by omega⟩ ⟨by omega, by omega⟩ (fun h16 => ?_) (fun h16 => absurd h16 (by omega))
      refine WP_n 2 rfl ?_
      exact WP2_kill 5 ih
    · intro b hb ihb
      have hz1 := hbi a (by omega) b (by omega)
      have hz2 := hbi a (by omega) (b + 1) (by omega)
      have hz3 := hbd a b (by omega) (by omega)
      have ez : sumN (fun a => sumN (fun b => A (B + 1 + a) b) a) a + sumN (fun b => A (B + 1 + a) b) b + A (B + 1 + a) b = sumN (fun a => sumN (fun b => A (B + 1 + a) b) a) a + sumN (fun b => A (B + 1 + a) b) (b + 1) := Int.add_assoc _ _ _
      refine WP_n 2 rfl ?_
      refine WP_icmpge rfl rfl ⟨by omega, by omega⟩ ⟨by omega, by omega⟩ (fun h16 => absurd h16 (by omega)) (fun h16 => ?_)
      refine WP_n 3 rfl ?_
      refine WP2_aald (b := B + 1) (j := a) (n := 16) rfl rfl hbo.1 rfl hbo.2 (by omega) (by omega) ?_
      refine WP_n 1 rfl ?_
      refine WP2_iald (j := b) rfl rfl (hia a (by omega)) (by omega) (by omega) (by omega) ?_
      refine WP_n 4 rfl ?_
      rw [ez]
      exact ihb
theorem sp_G_twos {P : PP} {d n c : Nat} {FI A L : Nat → Nat → Int} {X : SX} {Q : Option AV → S2 → Prop} (hI : mI n FI A) (hc : FI 165 0 = (c : Int)) {B : Nat} (hb5 : 5 ≤ B) (hia : isIA P X B 256) (hbd0 : ∀ j, j < 256 → 0 ≤ A B j ∧ A B j ≤ 99) (hq : Q (some (vi (sumN (fun a => sumN (fun b => A B (16 * a + b)) a) c))) (FI, A, L, X)) : WP2 P M_G_twos (d) 0 [some (vr 165), some (vr B), none, none, none] [] (FI, A, L, X) Q := by
  have hcc := hI.2.1
  have hbd : ∀ a b, a < 16 → b < 16 → 0 ≤ A B (16 * a + b) ∧ A B (16 * a + b) ≤ 99 := fun a b ha hb => hbd0 _ (by omega)
  refine WP_n 4 rfl ?_
  have hbi : ∀ a, a < 16 → ∀ k, k ≤ a → 0 ≤ sumN (fun b => A B (16 * a + b)) k ∧ sumN (fun b => A B (16 * a + b)) k ≤ 1600 := fun a ha k hk => by
    have := sumN_bd (f := fun b => A B (16 * a + b)) (lo := 0) (hi := 99) k (fun b hb => hbd a b ha (by omega))
    omega
  have hbo2 : ∀ k, k ≤ 16 → 0 ≤ sumN (fun a => sumN (fun b => A B (16 * a + b)) a) k ∧ sumN (fun a => sumN (fun b => A B (16 * a + b)) a) k ≤ 25600 := fun k hk => by
    have := sumN_bd (f := (fun a => sumN (fun b => A B (16 * a + b)) a)) (lo := 0) (hi := 1600) k (fun a ha => hbi a (by omega) a (by omega))
    omega
  refine up_to (P := fun a => WP2 P M_G_twos (d) 4 [some (vr 165), some (vr B), some (vi (sumN (fun a => sumN (fun b => A B (16 * a + b)) a) a)), some (vi (a : Int)), none] [] (FI, A, L, X) Q) c ?_ ?_ 0 (by omega)
  · have hz := hbo2 c (by omega)
    refine WP_n 2 rfl ?_
    refine WP2_getf rfl rfl rfl rfl rfl ?_
    refine WP_icmpge rfl rfl ⟨by omega, by omega⟩ ⟨by omega, by omega⟩ (fun h7 => ?_) (fun h7 => absurd h7 (by omega))
    refine WP_n 1 rfl ?_
    exact WP_iret rfl rfl rfl ⟨_, rfl, hq⟩
  · intro a ha ih
    have hz := hbo2 a (by omega)
    have hz0 := hbo2 (a + 1) (by omega)
    refine WP_n 2 rfl ?_
    refine WP2_getf rfl rfl rfl rfl rfl ?_
    refine WP_icmpge rfl rfl ⟨by omega, by omega⟩ ⟨by omega, by omega⟩ (fun h7 => absurd h7 (by omega)) (fun h7 => ?_)
    refine WP_n 2 rfl ?_
    rw [show sumN (fun a => sumN (fun b => A B (16 * a + b)) a) a = sumN (fun a => sumN (fun b => A B (16 * a + b)) a) a + sumN (fun b => A B (16 * a + b)) 0 from (Int.add_zero _).symm]
    refine up_to (P := fun b => WP2 P M_G_twos (d) 10 [some (vr 165), some (vr B), some (vi (sumN (fun a => sumN (fun b => A B (16 * a + b)) a) a + sumN (fun b => A B (16 * a + b)) b)), some (vi (a : Int)), some (vi (b : Int))] [] (FI, A, L, X) Q) a ?_ ?_ 0 (by omega)
    · refine WP_n 2 rfl ?_
      refine WP_icmpge rfl rfl ⟨by omega, by omega⟩ ⟨by omega, by omega⟩ (fun h12 => ?_) (fun h12 => absurd h12 (by omega))
      refine WP_n 2 rfl ?_
      exact WP2_kill 4 ih
    · intro b hb ihb
      have hz1 := hbi a (by omega) b (by omega)
      have hz2 := hbi a (by omega) (b + 1) (by omega)
      have hz3 := hbd a b (by omega) (by omega)
      have ez : sumN (fun a => sumN (fun b => A B (16 * a + b)) a) a + sumN (fun b => A B (16 * a + b)) b + A B (16 * a + b) = sumN (fun a => sumN (fun b => A B (16 * a + b)) a) a + sumN (fun b => A B (16 * a + b)) (b + 1) := Int.add_assoc _ _ _
      refine WP_n 2 rfl ?_
      refine WP_icmpge rfl rfl ⟨by omega, by omega⟩ ⟨by omega, by omega⟩ (fun h16 => absurd h16 (by omega)) (fun h16 => ?_)
      refine WP_n 7 rfl ?_
      refine WP2_iald (j := 16 * a + b) rfl rfl hia hb5 (by omega) (by omega) ?_
      refine WP_n 4 rfl ?_
      rw [ez]
      exact ihb
theorem sp_peopleTold {P : PP} {d n c : Nat} {FI A L : Nat → Nat → Int} {X : SX} {Q : Option AV → S2 → Prop} (hI : cI n FI A) (hc : FI 6 8 = (c : Int)) (hq : Q (some (vi (sumN (fun t => A (20 + t) 7) c))) (FI, A, L, X)) : WP2 P M_H_peopleTold (d) 0 [some (vr 6), none, none] [] (FI, A, L, X) Q := by
  have hcc := hI.1
  refine WP_n 4 rfl ?_
  refine up_to (P := fun t => WP2 P M_H_peopleTold d 4 [some (vr 6), some (vi (sumN (fun t => A (20 + t) 7) t)), some (vi (t : Int))] [] (FI, A, L, X) Q) c ?_ ?_ 0 (by omega)
  · refine WP_n 2 rfl ?_
    refine WP2_getf rfl rfl rfl rfl rfl ?_
    refine WP_icmpge rfl rfl ⟨by omega, by omega⟩ ⟨by omega, by omega⟩ (fun h7 => ?_) (fun h7 => absurd h7 (by omega))
    refine WP_n 1 rfl ?_
    exact WP_iret rfl rfl rfl ⟨_, rfl, hq⟩
  · intro t ht ih
    refine WP_n 2 rfl ?_
    refine WP2_getf rfl rfl rfl rfl rfl ?_
    refine WP_icmpge rfl rfl ⟨by omega, by omega⟩ ⟨by omega, by omega⟩ (fun h7 => absurd h7 (by omega)) (fun h7 => ?_)
    refine WP_n 2 rfl ?_
    refine WP2_getf rfl rfl rfl rfl rfl ?_
    refine WP_n 1 rfl ?_
    refine WP2_aald (b := 20) (j := t) (n := 16) rfl rfl rfl rfl rfl (by omega) (by omega) ?_
    refine WP_n 1 rfl ?_
    refine WP2_iald (j := 7) rfl rfl (ia_tm (by omega)) (by omega) (by omega) (by omega) ?_
    refine WP_n 4 rfl ?_
    exact ih
theorem sp_F_count {P : PP} {d n c : Nat} {FI A L : Nat → Nat → Int} {X : SX} {Q : Option AV → S2 → Prop} (hI : cI n FI A) (hc : FI 6 8 = (c : Int)) {w : Int} (hw : inR w) (q0 : w = 0 → Q (some (vi (FI 6 8))) (FI, A, L, X)) (q1 : w = 1 → Q (some (vi (FI 6 8 - sumN (fun t => if A (20 + t) 4 = -9 then (1 : Int) else 0) c))) (FI, A, L, X)) (q2 : w = 2 → Q (some (vi (sumN (fun t => if A (20 + t) 5 = 1 then (1 : Int) else 0) c))) (FI, A, L, X)) (q3 : w = 3 → Q (some (vi (sumN (fun a => sumN (fun b => A (54 + a) b) a) c))) (FI, A, L, X)) (q4 : w = 4 → Q (some (vi (sumN (fun a => sumN (fun b => A (71 + a) b) a) c))) (FI, A, L, X)) (q5 : w = 5 → Q (some (vi (FI 6 8 - sumN (fun t => if A (20 + t) 6 = -9 then (1 : Int) else 0) c))) (FI, A, L, X)) (q6 : w = 6 → Q (some (vi (sumN (fun t => A (20 + t) 7) c))) (FI, A, L, X)) (qr : ∀ k : Nat, w = (k : Int) + 10 ∧ 1 ≤ k ∧ k < 7 → Q (some (vi (A 164 k))) (FI, A, L, X)) (qn : (w < 0 ∨ 6 < w) ∧ ¬ (10 < w ∧ w ≤ 16) → Q (some (vi (-9))) (FI, A, L, X)) : WP2 P M_F_count (d + 2) 0 [some (vr 5), some (vi w)] [] (FI, A, L, X) Q := by
  have hcc := hI.1
  obtain ⟨lw, uw⟩ := id hw
  by_cases hr : 10 < w ∧ w ≤ 16
  · obtain ⟨k, hk⟩ : ∃ k : Nat, w = (k : Int) + 10 := ⟨(w - 10).toNat, by omega⟩
    refine WP_n 2 rfl ?_
    refine WP_icmple rfl rfl ⟨by omega, by omega⟩ ⟨by omega, by omega⟩ (fun h2 => absurd h2 (by omega)) (fun h2 => ?_)
    refine WP_n 2 rfl ?_
    refine WP_icmpgt rfl rfl ⟨by omega, by omega⟩ ⟨by omega, by omega⟩ (fun h5 => absurd h5 (by omega)) (fun h5 => ?_)
    refine WP_n 1 rfl ?_
    refine WP2_getf rfl rfl rfl rfl rfl ?_
    refine WP_n 3 rfl ?_
    refine WP2_iald (j := k) rfl rfl (ia_lit (n := 7) rfl rfl (by omega)) (by omega) (by omega) (by omega) ?_
    exact WP_iret rfl rfl rfl ⟨_, rfl, qr k (by omega)⟩
  · by_cases hs : 0 ≤ w ∧ w ≤ 6
    · rcases (show w = 0 ∨ w = 1 ∨ w = 2 ∨ w = 3 ∨ w = 4 ∨ w = 5 ∨ w = 6 by omega) with rfl | rfl | rfl | rfl | rfl | rfl | rfl
      · refine WP_n 2 rfl ?_
        refine WP_icmple rfl rfl ⟨by decide, by decide⟩ ⟨by decide, by decide⟩  (fun h2 => ?_) (fun h2 => absurd (by decide) h2)
        refine WP_n 1 rfl ?_
        refine WP_tsIn (tgt := 15) rfl rfl ⟨by decide, by decide⟩ (by decide) (by decide) rfl rfl ?_
        refine WP_n 1 rfl ?_
        refine WP2_getf rfl rfl rfl rfl rfl ?_
        refine WP2_getf rfl rfl rfl rfl rfl ?_
        exact WP_iret rfl rfl rfl ⟨_, rfl, q0 rfl⟩
      · refine WP_n 2 rfl ?_
        refine WP_icmple rfl rfl ⟨by decide, by decide⟩ ⟨by decide, by decide⟩  (fun h2 => ?_) (fun h2 => absurd (by decide) h2)
        refine WP_n 1 rfl ?_
        refine WP_tsIn (tgt := 19) rfl rfl ⟨by decide, by decide⟩ (by decide) (by decide) rfl rfl ?_
        refine WP_n 1 rfl ?_
        refine WP2_getf rfl rfl rfl rfl rfl ?_
        refine WP2_getf rfl rfl rfl rfl rfl ?_
        refine WP_n 1 rfl ?_
        refine WP2_getf rfl rfl rfl rfl rfl ?_
        refine WP_n 2 rfl ?_
        refine WP2_callV 2 ok_M_H_teamsWith rfl rfl rfl rfl rfl rfl (Nat.le_of_ble_eq_true rfl) (Nat.le_of_ble_eq_true rfl) rfl rfl ?_
        refine sp_teamsWith hI hc (K := 4) (by omega) ⟨by omega, by omega⟩ (fun t ht => by have hq := hI.2.2.2.1 t ht; unfold cTm at hq; exact ⟨by omega, by omega⟩) ?_
        refine WP_n 1 rfl ?_
        exact WP_iret rfl rfl rfl ⟨_, rfl, q1 rfl⟩
      · refine WP_n 2 rfl ?_
        refine WP_icmple rfl rfl ⟨by decide, by decide⟩ ⟨by decide, by decide⟩  (fun h2 => ?_) (fun h2 => absurd (by decide) h2)
        refine WP_n 1 rfl ?_
        refine WP_tsIn (tgt := 29) rfl rfl ⟨by decide, by decide⟩ (by decide) (by decide) rfl rfl ?_
        refine WP_n 1 rfl ?_
        refine WP2_getf rfl rfl rfl rfl rfl ?_
        refine WP_n 2 rfl ?_
        refine WP2_callV 2 ok_M_H_teamsWith rfl rfl rfl rfl rfl rfl (Nat.le_of_ble_eq_true rfl) (Nat.le_of_ble_eq_true rfl) rfl rfl ?_
        refine sp_teamsWith hI hc (K := 5) (by omega) ⟨by omega, by omega⟩ (fun t ht => by have hq := hI.2.2.2.1 t ht; unfold cTm at hq; exact ⟨by omega, by omega⟩) ?_
        exact WP_iret rfl rfl rfl ⟨_, rfl, q2 rfl⟩
      · refine WP_n 2 rfl ?_
        refine WP_icmple rfl rfl ⟨by decide, by decide⟩ ⟨by decide, by decide⟩  (fun h2 => ?_) (fun h2 => absurd (by decide) h2)
        refine WP_n 1 rfl ?_
        refine WP_tsIn (tgt := 35) rfl rfl ⟨by decide, by decide⟩ (by decide) (by decide) rfl rfl ?_
        refine WP_n 1 rfl ?_
        refine WP2_getf rfl rfl rfl rfl rfl ?_
        refine WP_n 1 rfl ?_
        refine WP2_callV 1 ok_M_H_twosIn rfl rfl rfl rfl rfl rfl (Nat.le_of_ble_eq_true rfl) (Nat.le_of_ble_eq_true rfl) rfl rfl ?_
        refine sp_twosIn hI hc (W := 1) (by omega) ?_
        exact WP_iret rfl rfl rfl ⟨_, rfl, q3 rfl⟩
      · refine WP_n 2 rfl ?_
        refine WP_icmple rfl rfl ⟨by decide, by decide⟩ ⟨by decide, by decide⟩  (fun h2 => ?_) (fun h2 => absurd (by decide) h2)
        refine WP_n 1 rfl ?_
        refine WP_tsIn (tgt := 40) rfl rfl ⟨by decide, by decide⟩ (by decide) (by decide) rfl rfl ?_
        refine WP_n 1 rfl ?_
        refine WP2_getf rfl rfl rfl rfl rfl ?_
        refine WP_n 1 rfl ?_
        refine WP2_callV 1 ok_M_H_twosIn rfl rfl rfl rfl rfl rfl (Nat.le_of_ble_eq_true rfl) (Nat.le_of_ble_eq_true rfl) rfl rfl ?_
        refine sp_twosIn hI hc (W := 2) (by omega) ?_
        exact WP_iret rfl rfl rfl ⟨_, rfl, q4 rfl⟩
      · refine WP_n 2 rfl ?_
        refine WP_icmple rfl rfl ⟨by decide, by decide⟩ ⟨by decide, by decide⟩  (fun h2 => ?_) (fun h2 => absurd (by decide) h2)
        refine WP_n 1 rfl ?_
        refine WP_tsIn (tgt := 45) rfl rfl ⟨by decide, by decide⟩ (by decide) (by decide) rfl rfl ?_
        refine WP_n 1 rfl ?_
        refine WP2_getf rfl rfl rfl rfl rfl ?_
        refine WP2_getf rfl rfl rfl rfl rfl ?_
        refine WP_n 1 rfl ?_
        refine WP2_getf rfl rfl rfl rfl rfl ?_
        refine WP_n 2 rfl ?_
        refine WP2_callV 2 ok_M_H_teamsWith rfl rfl rfl rfl rfl rfl (Nat.le_of_ble_eq_true rfl) (Nat.le_of_ble_eq_true rfl) rfl rfl ?_
        refine sp_teamsWith hI hc (K := 6) (by omega) ⟨by omega, by omega⟩ (fun t ht => by have hq := hI.2.2.2.1 t ht; unfold cTm at hq; exact ⟨by omega, by omega⟩) ?_
        refine WP_n 1 rfl ?_
        exact WP_iret rfl rfl rfl ⟨_, rfl, q5 rfl⟩
      · refine WP_n 2 rfl ?_
        refine WP_icmple rfl rfl ⟨by decide, by decide⟩ ⟨by decide, by decide⟩  (fun h2 => ?_) (fun h2 => absurd (by decide) h2)
        refine WP_n 1 rfl ?_
        refine WP_tsIn (tgt := 55) rfl rfl ⟨by decide, by decide⟩ (by decide) (by decide) rfl rfl ?_
        refine WP_n 1 rfl ?_
        refine WP2_getf rfl rfl rfl rfl rfl ?_
        refine WP2_callV 0 ok_M_H_peopleTold rfl rfl rfl rfl rfl rfl (Nat.le_of_ble_eq_true rfl) (Nat.le_of_ble_eq_true rfl) rfl rfl ?_
        refine sp_peopleTold hI hc ?_
        exact WP_iret rfl rfl rfl ⟨_, rfl, q6 rfl⟩
    · refine WP_n 2 rfl ?_
      refine WP_icmple rfl rfl ⟨by omega, by omega⟩ ⟨by omega, by omega⟩ (fun h2 => ?_) (fun h2 => ?_)
      · refine WP_n 1 rfl ?_
        refine WP_tsOut (tgt := 59) rfl rfl ⟨by omega, by omega⟩ (by omega) rfl ?_
        refine WP_n 1 rfl ?_
        exact WP_iret rfl rfl rfl ⟨_, rfl, qn (by omega)⟩
      · refine WP_n 2 rfl ?_
        refine WP_icmpgt rfl rfl ⟨by omega, by omega⟩ ⟨by omega, by omega⟩ (fun h5 => ?_) (fun h5 => absurd h5 (by omega))
        refine WP_n 1 rfl ?_
        refine WP_tsOut (tgt := 59) rfl rfl ⟨by omega, by omega⟩ (by omega) rfl ?_
        refine WP_n 1 rfl ?_
        exact WP_iret rfl rfl rfl ⟨_, rfl, qn (by omega)⟩

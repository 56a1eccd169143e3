/-! walked, and fit and walked of the reference -/
theorem sp_walk {P : PP} {d n c : Nat} {FI A L : Nat → Nat → Int} {X : SX} {Q : Option AV → S2 → Prop} (hI : cI n FI A) (hc : FI 6 8 = (c : Int)) {s : Nat} (hs : s < 2147483648) (hq : Q (some (vi (walkP A (pw A s) c))) (FI, A, L, X)) : WP2 P M_H_walk (d + 2) 0 [some (vr 6), some (vi (s : Int)), none, none, none] [] (FI, A, L, X) Q := by
  have hcc := hI.1
  have hpl : ∀ t, t < c → pw A s t = -9 ∨ (0 ≤ pw A s t ∧ pw A s t < 11) := fun t ht => by
    have hq := hI.2.2.2.1 t (by omega)
    unfold cTm at hq
    unfold pw
    split <;> omega
  have hbi : ∀ a, a < c → ∀ k, k ≤ a → 0 ≤ sumN (fun b => wk2 A (pw A s) a b) k ∧ sumN (fun b => wk2 A (pw A s) a b) k ≤ 16000 := fun a ha k hk => by
    have := sumN_bd (f := fun b => wk2 A (pw A s) a b) (lo := 0) (hi := 990) k (fun b hb => by
      have hw := hI.2.2.2.2.1 a b (by omega) (by omega)
      unfold cTw at hw
      exact wk2_bd (by omega) (hpl a (by omega)) (hpl b (by omega)))
    omega
  have hbo : ∀ k, k ≤ c → 0 ≤ sumN (fun a => sumN (fun b => wk2 A (pw A s) a b) a) k ∧ sumN (fun a => sumN (fun b => wk2 A (pw A s) a b) a) k ≤ 256000 := fun k hk => by
    have := sumN_bd (f := (fun a => sumN (fun b => wk2 A (pw A s) a b) a)) (lo := 0) (hi := 16000) k (fun a ha => hbi a (by omega) a (by omega))
    omega
  refine WP_n 4 rfl ?_
  refine up_to (P := fun a => WP2 P M_H_walk (d + 2) 4 [some (vr 6), some (vi (s : Int)), some (vi (sumN (fun a => sumN (fun b => wk2 A (pw A s) a b) a) a)), some (vi (a : Int)), none] [] (FI, A, L, X) Q) c ?_ ?_ 0 (by omega)
  · have hz := hbo c (by omega)
    refine WP_n 2 rfl ?_
    refine WP2_getf rfl rfl rfl rfl rfl ?_
    refine WP_icmpge rfl rfl ⟨by omega, by omega⟩ ⟨by omega, by omega⟩ (fun h7 => ?_) (fun h7 => absurd h7 (by omega))
    refine WP_n 1 rfl ?_
    exact WP_iret rfl rfl rfl ⟨_, rfl, hq⟩
  · intro a ha ih
    have hz := hbo a (by omega)
    have hz0 := hbo (a + 1) (by omega)
    have hqa := hI.2.2.2.1 a (by omega)
    unfold cTm at hqa
    refine WP_n 2 rfl ?_
    refine WP2_getf rfl rfl rfl rfl rfl ?_
    refine WP_icmpge rfl rfl ⟨by omega, by omega⟩ ⟨by omega, by omega⟩ (fun h7 => absurd h7 (by omega)) (fun h7 => ?_)
    refine WP_n 2 rfl ?_
    by_cases hS0 : pw A s a = -9
    · have e0 : sumN (fun a => sumN (fun b => wk2 A (pw A s) a b) a) (a + 1) = sumN (fun a => sumN (fun b => wk2 A (pw A s) a b) a) a := by
        show sumN (fun a => sumN (fun b => wk2 A (pw A s) a b) a) a + sumN (fun b => wk2 A (pw A s) a b) a = _
        rw [show sumN (fun b => wk2 A (pw A s) a b) a = sumN (fun _ => 0) a from sumN_congr a (fun b hb => by unfold wk2; rw [if_neg (fun q => q.1 hS0)])]
        have := sumN_bd (f := fun _ => 0) (lo := 0) (hi := 0) a (fun _ _ => ⟨Int.le_refl _, Int.le_refl _⟩)
        omega
      rw [e0] at ih
      by_cases ha0 : a = 0
      · subst ha0
        refine WP_n 2 rfl ?_
        refine WP_icmpge rfl rfl ⟨by omega, by omega⟩ ⟨by omega, by omega⟩ (fun h12 => ?_) (fun h12 => absurd h12 (by omega))
        refine WP_n 2 rfl ?_
        exact WP2_kill 4 ih
      · refine WP_n 2 rfl ?_
        refine WP_icmpge rfl rfl ⟨by omega, by omega⟩ ⟨by omega, by omega⟩ (fun h12 => absurd h12 (by omega)) (fun h12 => ?_)
        refine WP_n 3 rfl ?_
        refine WP2_callV 2 ok_M_H_stays rfl rfl rfl rfl rfl rfl (Nat.le_of_ble_eq_true rfl) (Nat.le_of_ble_eq_true rfl) rfl rfl ?_
        refine sp_stays hI hc (by omega) hs (fun hS => absurd hS0 hS) (fun hS => ?_)
        refine WP_ifeq rfl rfl ⟨by decide, by decide⟩  (fun h17 => ?_) (fun h17 => absurd (by decide) h17)
        refine WP_n 2 rfl ?_
        exact WP2_kill 4 ih
    · have hS2 := pw_ne hS0
      rw [show sumN (fun a => sumN (fun b => wk2 A (pw A s) a b) a) a = sumN (fun a => sumN (fun b => wk2 A (pw A s) a b) a) a + sumN (fun b => wk2 A (pw A s) a b) 0 from (Int.add_zero _).symm]
      refine up_to (P := fun b => WP2 P M_H_walk (d + 2) 10 [some (vr 6), some (vi (s : Int)), some (vi (sumN (fun a => sumN (fun b => wk2 A (pw A s) a b) a) a + sumN (fun b => wk2 A (pw A s) a b) b)), some (vi (a : Int)), some (vi (b : Int))] [] (FI, A, L, X) Q) a ?_ ?_ 0 (by omega)
      · refine WP_n 2 rfl ?_
        refine WP_icmpge rfl rfl ⟨by omega, by omega⟩ ⟨by omega, by omega⟩ (fun h12 => ?_) (fun h12 => absurd h12 (by omega))
        refine WP_n 2 rfl ?_
        exact WP2_kill 4 ih
      · intro b hb ihb
        have hz1 := hbi a (by omega) b (by omega)
        have hz2 := hbi a (by omega) (b + 1) (by omega)
        have hqb := hI.2.2.2.1 b (by omega)
        unfold cTm at hqb
        have hqw := hI.2.2.2.2.1 a b (by omega) (by omega)
        unfold cTw at hqw
        refine WP_n 2 rfl ?_
        refine WP_icmpge rfl rfl ⟨by omega, by omega⟩ ⟨by omega, by omega⟩ (fun h12 => absurd h12 (by omega)) (fun h12 => ?_)
        refine WP_n 3 rfl ?_
        refine WP2_callV 2 ok_M_H_stays rfl rfl rfl rfl rfl rfl (Nat.le_of_ble_eq_true rfl) (Nat.le_of_ble_eq_true rfl) rfl rfl ?_
        refine sp_stays hI hc (by omega) hs (fun hS => ?_) (fun hS => absurd hS hS0)
        refine WP_ifeq rfl rfl ⟨by decide, by decide⟩  (fun h17 => absurd h17 (by decide)) (fun h17 => ?_)
        refine WP_n 3 rfl ?_
        refine WP2_callV 2 ok_M_H_stays rfl rfl rfl rfl rfl rfl (Nat.le_of_ble_eq_true rfl) (Nat.le_of_ble_eq_true rfl) rfl rfl ?_
        refine sp_stays hI hc (by omega) hs (fun hT => ?_) (fun hT => ?_)
        · have hT2 := pw_ne hT
          refine WP_ifeq rfl rfl ⟨by decide, by decide⟩  (fun h22 => absurd h22 (by decide)) (fun h22 => ?_)
          refine WP_n 4 rfl ?_
          refine WP2_getf rfl rfl rfl rfl rfl ?_
          refine WP_n 1 rfl ?_
          refine WP2_aald (b := 20) (j := a) (n := 16) rfl rfl rfl rfl rfl (by omega) (by omega) ?_
          refine WP_n 1 rfl ?_
          refine WP2_iald (j := 4) rfl rfl (ia_tm (by omega)) (by omega) (by omega) (by omega) ?_
          refine WP_n 2 rfl ?_
          refine WP2_getf rfl rfl rfl rfl rfl ?_
          refine WP_n 1 rfl ?_
          refine WP2_aald (b := 20) (j := b) (n := 16) rfl rfl rfl rfl rfl (by omega) (by omega) ?_
          refine WP_n 1 rfl ?_
          refine WP2_iald (j := 4) rfl rfl (ia_tm (by omega)) (by omega) (by omega) (by omega) ?_
          refine WP2_callV 4 ok_M_H_walkBetween rfl rfl rfl rfl rfl rfl (Nat.le_of_ble_eq_true rfl) (Nat.le_of_ble_eq_true rfl) rfl rfl ?_
          refine sp_walkBetween hI hc (by omega) (by omega) (by omega) (by omega) ?_
          refine WP_n 4 rfl ?_
          have ez : sumN (fun a => sumN (fun b => wk2 A (pw A s) a b) a) a + sumN (fun b => wk2 A (pw A s) a b) (b + 1) = sumN (fun a => sumN (fun b => wk2 A (pw A s) a b) a) a + sumN (fun b => wk2 A (pw A s) a b) b + A (37 + a) b * absd (A (20 + a) 4) (A (20 + b) 4) := by
            show _ + (sumN (fun b => wk2 A (pw A s) a b) b + wk2 A (pw A s) a b) = _
            rw [show wk2 A (pw A s) a b = A (37 + a) b * absd (A (20 + a) 4) (A (20 + b) 4) from by unfold wk2; rw [if_pos ⟨hS0, hT⟩, hS2.1, hT2.1]]
            omega
          rw [ez] at ihb
          exact ihb
        · refine WP_ifeq rfl rfl ⟨by decide, by decide⟩  (fun h22 => ?_) (fun h22 => absurd (by decide) h22)
          refine WP_n 2 rfl ?_
          have ez : sumN (fun b => wk2 A (pw A s) a b) (b + 1) = sumN (fun b => wk2 A (pw A s) a b) b := by
            show sumN (fun b => wk2 A (pw A s) a b) b + wk2 A (pw A s) a b = _
            rw [show wk2 A (pw A s) a b = 0 from by unfold wk2; rw [if_neg (fun q => q.2 hT)]]
            omega
          rw [ez] at ihb
          exact ihb
theorem sp_F_fit {P : PP} {d n c : Nat} {FI A L : Nat → Nat → Int} {X : SX} {Q : Option AV → S2 → Prop} (hI : cI n FI A) (hc : FI 6 8 = (c : Int)) (h1 : FIT A c (pw A 0) → Q (some (vi 1)) (FI, A, L, X)) (h0 : ¬ FIT A c (pw A 0) → Q (some (vi 0)) (FI, A, L, X)) : WP2 P M_F_fit (d + 4) 0 [some (vr 5)] [] (FI, A, L, X) Q := by
  refine WP_n 1 rfl ?_
  refine WP2_getf rfl rfl rfl rfl rfl ?_
  refine WP_n 1 rfl ?_
  refine WP2_callV 1 ok_M_H_isFit rfl rfl rfl rfl rfl rfl (Nat.le_of_ble_eq_true rfl) (Nat.le_of_ble_eq_true rfl) rfl rfl ?_
  refine sp_isFit hI hc (s := 0) (by omega) (fun hB => ?_) (fun hB => ?_)
  · refine WP_ifeq rfl rfl ⟨by decide, by decide⟩  (fun h4 => absurd h4 (by decide)) (fun h4 => ?_)
    refine WP_n 2 rfl ?_
    exact WP_iret rfl rfl rfl ⟨_, rfl, h1 hB⟩
  · refine WP_ifeq rfl rfl ⟨by decide, by decide⟩  (fun h4 => ?_) (fun h4 => absurd (by decide) h4)
    refine WP_n 1 rfl ?_
    exact WP_iret rfl rfl rfl ⟨_, rfl, h0 hB⟩
theorem sp_F_walked {P : PP} {d n c : Nat} {FI A L : Nat → Nat → Int} {X : SX} {Q : Option AV → S2 → Prop} (hI : cI n FI A) (hc : FI 6 8 = (c : Int)) (hq : Q (some (vi (walkP A (pw A 0) c * FI 6 9))) (FI, A, L, X)) : WP2 P M_F_walked (d + 3) 0 [some (vr 5)] [] (FI, A, L, X) Q := by
  refine WP_n 1 rfl ?_
  refine WP2_getf rfl rfl rfl rfl rfl ?_
  refine WP_n 1 rfl ?_
  refine WP2_callV 1 ok_M_H_walk rfl rfl rfl rfl rfl rfl (Nat.le_of_ble_eq_true rfl) (Nat.le_of_ble_eq_true rfl) rfl rfl ?_
  refine sp_walk hI hc (s := 0) (by omega) ?_
  refine WP_n 1 rfl ?_
  refine WP2_getf rfl rfl rfl rfl rfl ?_
  refine WP2_getf rfl rfl rfl rfl rfl ?_
  refine WP_n 1 rfl ?_
  exact WP_iret rfl rfl rfl ⟨_, rfl, hq⟩
theorem sp_G_walks {P : PP} {d n c : Nat} {FI A FIg Ag L : Nat → Nat → Int} {X : SX} {Q : Option AV → S2 → Prop} (hI : cI n FIg Ag) (hG : gX FI A FIg Ag) (hc : FIg 6 8 = (c : Int)) {B : Nat} (hB5 : 5 ≤ B) (hBA : isIA P X B 16) (hpl : ∀ t, t < c → A B t = -9 ∨ (0 ≤ A B t ∧ A B t < 11)) (hq : Q (some (vi (walkP Ag (A B) c * FIg 6 9))) (FI, A, L, X)) : WP2 P M_G_walks (d + 1) 0 [some (vr 165), some (vr B), none, none, none] [] (FI, A, L, X) Q := by
  have hcc := hI.1
  have g1 := hG.1
  have hbi : ∀ a, a < c → ∀ k, k ≤ a → 0 ≤ sumN (fun b => wk2 Ag (A B) a b) k ∧ sumN (fun b => wk2 Ag (A B) a b) k ≤ 16000 := fun a ha k hk => by
    have := sumN_bd (f := fun b => wk2 Ag (A B) a b) (lo := 0) (hi := 990) k (fun b hb => by
      have hw := hI.2.2.2.2.1 a b (by omega) (by omega)
      unfold cTw at hw
      exact wk2_bd (by omega) (hpl a (by omega)) (hpl b (by omega)))
    omega
  have hbo : ∀ k, k ≤ c → 0 ≤ sumN (fun a => sumN (fun b => wk2 Ag (A B) a b) a) k ∧ sumN (fun a => sumN (fun b => wk2 Ag (A B) a b) a) k ≤ 256000 := fun k hk => by
    have := sumN_bd (f := (fun a => sumN (fun b => wk2 Ag (A B) a b) a)) (lo := 0) (hi := 16000) k (fun a ha => hbi a (by omega) a (by omega))
    omega
  have g2 := hG.2.1
  refine WP_n 4 rfl ?_
  refine up_to (P := fun a => WP2 P M_G_walks (d + 1) 4 [some (vr 165), some (vr B), some (vi (sumN (fun a => sumN (fun b => wk2 Ag (A B) a b) a) a)), some (vi (a : Int)), none] [] (FI, A, L, X) Q) c ?_ ?_ 0 (by omega)
  · have hz := hbo c (by omega)
    have hq : Q (some (vi (sumN (fun a => sumN (fun b => wk2 Ag (A B) a b) a) c * FI 165 1))) (FI, A, L, X) := by rw [g2]; exact hq
    refine WP_n 2 rfl ?_
    refine WP2_getf rfl rfl rfl rfl rfl ?_
    refine WP_icmpge rfl rfl ⟨by omega, by omega⟩ ⟨by omega, by omega⟩ (fun h7 => ?_) (fun h7 => absurd h7 (by omega))
    refine WP_n 2 rfl ?_
    refine WP2_getf rfl rfl rfl rfl rfl ?_
    refine WP_n 1 rfl ?_
    exact WP_iret rfl rfl rfl ⟨_, rfl, hq⟩
  · intro a ha ih
    have hz := hbo a (by omega)
    have hz0 := hbo (a + 1) (by omega)
    have hpa := hpl a ha
    refine WP_n 2 rfl ?_
    refine WP2_getf rfl rfl rfl rfl rfl ?_
    refine WP_icmpge rfl rfl ⟨by omega, by omega⟩ ⟨by omega, by omega⟩ (fun h7 => absurd h7 (by omega)) (fun h7 => ?_)
    refine WP_n 2 rfl ?_
    rw [show sumN (fun a => sumN (fun b => wk2 Ag (A B) a b) a) a = sumN (fun a => sumN (fun b => wk2 Ag (A B) a b) a) a + sumN (fun b => wk2 Ag (A B) a b) 0 from (Int.add_zero _).symm]
    refine up_to (P := fun b => WP2 P M_G_walks (d + 1) 10 [some (vr 165), some (vr B), some (vi (sumN (fun a => sumN (fun b => wk2 Ag (A B) a b) a) a + sumN (fun b => wk2 Ag (A B) a b) b)), some (vi (a : Int)), some (vi (b : Int))] [] (FI, A, L, X) Q) a ?_ ?_ 0 (by omega)
    · refine WP_n 2 rfl ?_
      refine WP_icmpge rfl rfl ⟨by omega, by omega⟩ ⟨by omega, by omega⟩ (fun h12 => ?_) (fun h12 => absurd h12 (by omega))
      refine WP_n 2 rfl ?_
      exact WP2_kill 4 ih
    · intro b hb ihb
      have hz1 := hbi a (by omega) b (by omega)
      have hz2 := hbi a (by omega) (b + 1) (by omega)
      have hpb := hpl b (by omega)
      have hqw := hI.2.2.2.2.1 a b (by omega) (by omega)
      unfold cTw at hqw
      have gw := (hG.2.2.2.2.1 a b (by omega) (by omega)).1
      have eZ : (A B a = -9 ∨ A B b = -9) → sumN (fun b => wk2 Ag (A B) a b) (b + 1) = sumN (fun b => wk2 Ag (A B) a b) b := fun h9 => by
        show sumN (fun b => wk2 Ag (A B) a b) b + wk2 Ag (A B) a b = _
        rw [show wk2 Ag (A B) a b = 0 from by unfold wk2; rw [if_neg (fun q => by omega)]]
        omega
      refine WP_n 2 rfl ?_
      refine WP_icmpge rfl rfl ⟨by omega, by omega⟩ ⟨by omega, by omega⟩ (fun h12 => absurd h12 (by omega)) (fun h12 => ?_)
      refine WP_n 2 rfl ?_
      refine WP2_iald (j := a) rfl rfl (hBA) (by omega) (by omega) (by omega) ?_
      refine WP_n 1 rfl ?_
      refine WP_icmpeq rfl rfl ⟨by omega, by omega⟩ ⟨by omega, by omega⟩ (fun h17 => ?_) (fun h17 => ?_)
      · refine WP_n 2 rfl ?_
        rw [eZ (Or.inl h17)] at ihb
        exact ihb
      · refine WP_n 2 rfl ?_
        refine WP2_iald (j := b) rfl rfl (hBA) (by omega) (by omega) (by omega) ?_
        refine WP_n 1 rfl ?_
        refine WP_icmpeq rfl rfl ⟨by omega, by omega⟩ ⟨by omega, by omega⟩ (fun h22 => ?_) (fun h22 => ?_)
        · refine WP_n 2 rfl ?_
          rw [eZ (Or.inr h22)] at ihb
          exact ihb
        · refine WP_n 2 rfl ?_
          refine WP2_getf rfl rfl rfl rfl rfl ?_
          refine WP_n 5 rfl ?_
          refine WP2_iald (j := ((16 * a) + b)) rfl rfl (ia_lit (n := 256) rfl rfl (by omega)) (by omega) (by omega) (by omega) ?_
          refine WP_n 2 rfl ?_
          refine WP2_iald (j := a) rfl rfl (hBA) (by omega) (by omega) (by omega) ?_
          refine WP_n 2 rfl ?_
          refine WP2_iald (j := b) rfl rfl (hBA) (by omega) (by omega) (by omega) ?_
          refine WP2_callS 2 ok_M_G_apart rfl rfl rfl rfl rfl rfl rfl (Nat.le_of_ble_eq_true rfl) (Nat.le_of_ble_eq_true rfl) ?_
          refine sp_apart ⟨by omega, by omega⟩ ⟨by omega, by omega⟩ ?_
          refine WP_n 5 rfl ?_
          have ez : sumN (fun a => sumN (fun b => wk2 Ag (A B) a b) a) a + sumN (fun b => wk2 Ag (A B) a b) (b + 1) = sumN (fun a => sumN (fun b => wk2 Ag (A B) a b) a) a + sumN (fun b => wk2 Ag (A B) a b) b + A 179 (16 * a + b) * absd (A B a) (A B b) := by
            show _ + (sumN (fun b => wk2 Ag (A B) a b) b + wk2 Ag (A B) a b) = _
            rw [show wk2 Ag (A B) a b = A 179 (16 * a + b) * absd (A B a) (A B b) from by unfold wk2; rw [if_pos ⟨h17, h22⟩, gw]]
            omega
          rw [ez] at ihb
          exact ihb

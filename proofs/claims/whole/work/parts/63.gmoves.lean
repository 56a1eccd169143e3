/-! moves of the reference: the first move -/
theorem sp_G_moves {P : PP} {d : Nat} {FI A L : Nat → Nat → Int} {X : SX} {Q : Option AV → S2 → Prop} {c mv st K S : Nat} {fr sz : Nat → Int} (hr : RM FI A c mv st K S fr sz) {g : Nat → Nat} {x j D : Nat} (hx : x < 5 ^ K) (hv : ∀ m, m < K → gd (fun i => K - 1 - i) x m < S) (hMK : MK (Rn fr sz K S g (fun i => K - 1 - i)) (5 ^ K) (-9) (A 190) D) (hbd : ∀ y, y < 5 ^ K → A 190 y = -9 ∨ (0 ≤ A 190 y ∧ A 190 y < 16000)) (hj : j < D) (hmx : A 190 x = (j : Int) + 1) (hq : ∀ (F1 : Nat → Nat → Int) (m s : Nat), FST fr sz K S g (gd (fun i => K - 1 - i) x) j m s → (∀ a k, ¬ (a = 165 ∧ (k = 35 ∨ k = 36)) → F1 a k = FI a k) → F1 165 35 = (m : Int) → F1 165 36 = (s : Int) → Q (some (vi (upx x (K - 1 - m) s : Int))) (F1, A, L, X)) : WP2 P M_G_moves (d + 3) 0 [some (vr 165), some (vi (x : Int)), none, none, none] [] (FI, A, L, X) Q := by
  have hK6 := hr.K6
  have hS5 := hr.S5
  have f31 := hr.2.1.2.1
  have f32 := hr.2.1.2.2
  have hpK : 5 ^ K ≤ 5 ^ 6 := Nat.pow_le_pow_right (by omega) hK6
  refine WP_n 2 rfl ?_
  have hxm : mD fr sz K S g (j + 1) (gd (fun i => K - 1 - i) x) := by
    obtain ⟨k, k1, k2, k3⟩ := hMK.1 x hx (by omega)
    obtain rfl : k = j + 1 := by omega
    exact ⟨k2.2, fun i hi => k3 i ⟨hv, hi⟩⟩
  suffices hw : ∀ m, m ≤ K → (∀ m' s', m' < m → ¬ STP fr sz K S g (gd (fun i => K - 1 - i) x) j m' s') → WP2 P M_G_moves (d + 3) 2 [some (vr 165), some (vi (x : Int)), some (vi (m : Int)), none, none] [] (FI, A, L, X) Q from hw 0 (by omega) (fun m' s' hm' => absurd hm' (by omega))
  refine up_to (P := fun m => (∀ m' s', m' < m → ¬ STP fr sz K S g (gd (fun i => K - 1 - i) x) j m' s') → WP2 P M_G_moves (d + 3) 2 [some (vr 165), some (vi (x : Int)), some (vi (m : Int)), none, none] [] (FI, A, L, X) Q) K ?_ ?_
  · intro hno
    obtain ⟨m, s, hst⟩ := STP.ex hxm
    exact absurd hst (hno m s hst.1)
  · intro m hm ih hno
    refine WP_n 2 rfl ?_
    refine WP2_getf rfl rfl rfl rfl rfl ?_
    refine WP_icmpge rfl rfl ⟨by omega, by omega⟩ ⟨by omega, by omega⟩ (fun h5 => absurd h5 (by omega)) (fun h5 => ?_)
    refine WP_n 2 rfl ?_
    suffices hw2 : ∀ s, s ≤ S → (∀ s', s' < s → ¬ STP fr sz K S g (gd (fun i => K - 1 - i) x) j m s') → WP2 P M_G_moves (d + 3) 8 [some (vr 165), some (vi (x : Int)), some (vi (m : Int)), some (vi (s : Int)), none] [] (FI, A, L, X) Q from hw2 0 (by omega) (fun s' hs' => absurd hs' (by omega))
    refine up_to (P := fun s => (∀ s', s' < s → ¬ STP fr sz K S g (gd (fun i => K - 1 - i) x) j m s') → WP2 P M_G_moves (d + 3) 8 [some (vr 165), some (vi (x : Int)), some (vi (m : Int)), some (vi (s : Int)), none] [] (FI, A, L, X) Q) S ?_ ?_
    · intro hns
      refine WP_n 2 rfl ?_
      refine WP2_getf rfl rfl rfl rfl rfl ?_
      refine WP_icmpge rfl rfl ⟨by omega, by omega⟩ ⟨by omega, by omega⟩ (fun h11 => ?_) (fun h11 => absurd h11 (by omega))
      refine WP_n 2 rfl ?_
      refine WP2_kill 3 (ih (fun m' s' hm' => ?_))
      by_cases z : m' = m
      · rw [z]
        intro w
        exact hns s' w.2.1 w
      · exact hno m' s' (by omega)
    · intro s hs ih2 hns
      have ux := upx_ok hx (show K - 1 - m < K by omega) (show s < 5 by omega)
      have ub := hbd _ ux.1
      have ubx := hbd x hx
      refine WP_n 2 rfl ?_
      refine WP2_getf rfl rfl rfl rfl rfl ?_
      refine WP_icmpge rfl rfl ⟨by omega, by omega⟩ ⟨by omega, by omega⟩ (fun h11 => absurd h11 (by omega)) (fun h11 => ?_)
      refine WP_n 4 rfl ?_
      refine WP2_callV 3 ok_M_G_goes rfl rfl rfl rfl rfl rfl (Nat.le_of_ble_eq_true rfl) (Nat.le_of_ble_eq_true rfl) rfl rfl ?_
      refine sp_G_goes hr hx hm hs (fun hgn hgf => ?_) (fun hgo => ?_)
      · refine WP_ifne rfl rfl ⟨by decide, by decide⟩  (fun h17 => ?_) (fun h17 => absurd (by decide) h17)
        refine WP_n 4 rfl ?_
        refine WP2_callV 3 ok_M_G_with rfl rfl rfl rfl rfl rfl (Nat.le_of_ble_eq_true rfl) (Nat.le_of_ble_eq_true rfl) rfl rfl ?_
        refine sp_G_with hr.2.1.2.1 hK6 hx hm (by omega) ?_
        refine WP_n 2 rfl ?_
        refine WP2_getf rfl rfl rfl rfl rfl ?_
        refine WP_n 1 rfl ?_
        refine WP2_iald (j := upx x (K - 1 - m) s) rfl rfl (ia_lit (n := 15625) rfl rfl (by omega)) (by omega) (by omega) (by omega) ?_
        refine WP_n 1 rfl ?_
        refine WP2_getf rfl rfl rfl rfl rfl ?_
        refine WP_n 1 rfl ?_
        refine WP2_iald (j := x) rfl rfl (ia_lit (n := 15625) rfl rfl (by omega)) (by omega) (by omega) (by omega) ?_
        refine WP_n 2 rfl ?_
        refine WP_icmpeq rfl rfl ⟨by omega, by omega⟩ ⟨by omega, by omega⟩ (fun h35 => ?_) (fun h35 => ?_)
        · refine WP_n 2 rfl ?_
          refine WP2_putk (k := 35) rfl rfl rfl rfl rfl rfl (by exact trivial) ?_
          refine WP_n 2 rfl ?_
          refine WP2_putk (k := 36) rfl rfl rfl rfl rfl rfl (by exact trivial) ?_
          refine WP_n 1 rfl ?_
          refine WP_iret rfl rfl rfl ⟨_, rfl, ?_⟩
          have hmj : A 190 (upx x (K - 1 - m) s) = (j : Int) := by omega
          have hst := (STP.mk (e := fun i => K - 1 - i) (by omega) rfl hS5 (PMk K) hMK hx hv hj hm hs hgn hgf).mp hmj
          exact hq _ m s ⟨hst, fun m' s' w => by
            rcases w with w | ⟨w1, w2⟩
            · exact hno m' s' w
            · rw [w1]
              exact hns s' w2⟩ (fun a k w => by rw [up2_ne (by omega), up2_ne (by omega)]) (by rw [up2_ne (by omega), up2_same]) up2_same
        · refine WP_n 3 rfl ?_
          refine WP2_kill 4 (ih2 (fun s' hs' => ?_))
          by_cases z : s' = s
          · rw [z]
            intro w
            have e : A 190 (upx x (K - 1 - m) s) = (j : Int) := (STP.mk (e := fun i => K - 1 - i) (by omega) rfl hS5 (PMk K) hMK hx hv hj hm hs w.2.2.1 w.2.2.2.1).mpr w
            exact h35 (by omega)
          · exact hns s' (by omega)
      · refine WP_ifne rfl rfl ⟨by decide, by decide⟩  (fun h17 => absurd h17 (by decide)) (fun h17 => ?_)
        refine WP_n 3 rfl ?_
        refine (ih2 (fun s' hs' => ?_))
        by_cases z : s' = s
        · rw [z]
          intro w
          exact hgo ⟨w.2.2.1, w.2.2.2.1⟩
        · exact hns s' (by omega)

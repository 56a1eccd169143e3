/-! moves of the class: the first move, following -/
theorem FST.congr {fr sz : Nat → Int} {K S : Nat} {g d d' : Nat → Nat} {j m s : Nat} (h : ∀ i, i < K → d i = d' i) (a : FST fr sz K S g d j m s) : FST fr sz K S g d' j m s := ⟨a.1.congr h, fun m' s' w q => a.2 m' s' w (q.congr (fun i hi => (h i hi).symm))⟩
theorem WLK.congr {fr sz : Nat → Int} {K S : Nat} {g : Nat → Nat} : ∀ (i D : Nat) {d d' : Nat → Nat} {m s : Nat}, (∀ i, i < K → d i = d' i) → WLK fr sz K S g i D d m s → WLK fr sz K S g i D d' m s
  | 0, D, d, d', m, s, h, a => FST.congr h a
  | i + 1, D, d, d', m, s, h, ⟨m1, s1, a1, a2⟩ => ⟨m1, s1, a1.congr h, WLK.congr i (D - 1) (updD_congr h m1 s1) a2⟩
theorem upx_self {x m : Nat} : upx x m (dc x m) = x := by
  have := dc_le (x := x) (p := m)
  unfold upx
  omega
theorem MK.congr {R : Nat → Nat → Prop} {N : Nat} {un : Int} {m m' : Nat → Int} {D : Nat} (h : MK R N un m D) (e : ∀ x, x < N → m' x = m x) : MK R N un m' D := ⟨fun x hx => by rw [e x hx]; exact h.1 x hx, fun k x hx hk hr => by rw [e x hx]; exact h.2 k x hx hk hr⟩
theorem sp_afterFirstMove {P : PP} {d : Nat} {FI A L : Nat → Nat → Int} {X : SX} {Q : Option AV → S2 → Prop} {n0 : Nat} {FI0 A0 : Nat → Nat → Int} {c mv st K S : Nat} (hh : HM n0 FI0 A0 c mv st K S) (hS : MSt FI0 A0 c mv st K S FI A) {g : Nat → Nat} {x j len D : Nat} (hX : XO P X len) (hlen : 5 ^ K ≤ len) (hx : x < 5 ^ K) (hv : ∀ m, m < K → gd (fun m => m) x m < S) (hMK : MK (Rn (frM A0 c mv st) (szM A0 mv) K S g (fun m => m)) (5 ^ K) (-1) (A X.2.2.1) D) (hbd : ∀ y, y < 5 ^ K → -1 ≤ A X.2.2.1 y ∧ A X.2.2.1 y ≤ 60000) (hj : j < D) (hmx : A X.2.2.1 x = (j : Int) + 1) (hq : ∀ (F1 B : Nat → Nat → Int) (m s : Nat), FST (frM A0 c mv st) (szM A0 mv) K S g (gd (fun m => m) x) j m s → (∀ a k, ¬ (a = 152 ∧ (k = 11 ∨ k = 12)) → F1 a k = FI a k) → F1 152 11 = (nth mv m : Int) → F1 152 12 = (nth st s : Int) → (∀ a i, a ≠ 156 → a ≠ 157 → B a i = A a i) → Q (some (vi (upx x m s : Int))) (F1, B, L, X)) : WP2 P M_V_afterFirstMove (d + 2) 0 [some (vr 152), some (vi (x : Int)), none, none, none, none] [] (FI, A, L, X) Q := by
  have hK6 := hh.2.2.2.2.2.1
  have hS5 := hh.2.2.2.2.2.2.2
  have hpK : 5 ^ K ≤ 5 ^ 6 := Nat.pow_le_pow_right (by omega) hK6
  obtain ⟨HA_ml, HA_qu, x3, x4, x5, x6⟩ := id hX
  have f9 := hS.2.1.1
  have f10 := hS.2.1.2
  refine WP_n 2 rfl ?_
  refine WP2_callV 1 ok_M_V_open rfl rfl rfl rfl rfl rfl (Nat.le_of_ble_eq_true rfl) (Nat.le_of_ble_eq_true rfl) rfl rfl ?_
  refine sp_open hh hS hx (fun B o1 o2 o3 => ?_)
  refine WP_n 2 rfl ?_
  have b5 : ∀ s, s < S → B 157 s = freD (frM A0 c mv st) (szM A0 mv) K (dc x) s := fun s hs => by
    rw [o3 s (by omega), hS.2.2.2.2 s hs]
    rfl
  have emx : B X.2.2.1 x = A X.2.2.1 x := o1 _ _ (by omega) (by omega)
  have hxm : mD (frM A0 c mv st) (szM A0 mv) K S g (j + 1) (gd (fun m => m) x) := by
    obtain ⟨k, k1, k2, k3⟩ := hMK.1 x hx (by omega)
    obtain rfl : k = j + 1 := by omega
    exact ⟨k2.2, fun i hi => k3 i ⟨hv, hi⟩⟩
  suffices hw : ∀ m, m ≤ K → (∀ m' s', m' < m → ¬ STP (frM A0 c mv st) (szM A0 mv) K S g (gd (fun m => m) x) j m' s') → WP2 P M_V_afterFirstMove (d + 2) 5 [some (vr 152), some (vi (x : Int)), some (vi (m : Int)), none, none, none] [] (FI, B, L, X) Q from hw 0 (by omega) (fun m' s' hm' => absurd hm' (by omega))
  refine up_to (P := fun m => (∀ m' s', m' < m → ¬ STP (frM A0 c mv st) (szM A0 mv) K S g (gd (fun m => m) x) j m' s') → WP2 P M_V_afterFirstMove (d + 2) 5 [some (vr 152), some (vi (x : Int)), some (vi (m : Int)), none, none, none] [] (FI, B, L, X) Q) K ?_ ?_
  · intro hno
    obtain ⟨m, s, hst⟩ := STP.ex hxm
    exact absurd hst (hno m s hst.1)
  · intro m hm ih hno
    have e156 := o2 m hm
    have hT := hh.T hm
    have e153 : B 153 m = (nth mv m : Int) := (o1 _ _ (by omega) (by omega)).trans (hS.2.2.1 m hm)
    have esz : B (20 + nth mv m) 0 = szM A0 mv m := (o1 _ _ (by omega) (by omega)).trans (hS.1.2.2 _ _ (by omega))
    have hsz : 0 ≤ szM A0 mv m ∧ szM A0 mv m ≤ 60 := by
      have q := hh.1.2.2.2.1 _ hT.2
      unfold cTm at q
      unfold szM
      omega
    refine WP_n 2 rfl ?_
    refine WP2_getf rfl rfl rfl rfl rfl ?_
    refine WP_icmpge rfl rfl ⟨by omega, by omega⟩ ⟨by omega, by omega⟩ (fun h8 => absurd h8 (by omega)) (fun h8 => ?_)
    refine WP_n 2 rfl ?_
    suffices hw2 : ∀ s, s ≤ S → (∀ s', s' < s → ¬ STP (frM A0 c mv st) (szM A0 mv) K S g (gd (fun m => m) x) j m s') → WP2 P M_V_afterFirstMove (d + 2) 11 [some (vr 152), some (vi (x : Int)), some (vi (m : Int)), some (vi (s : Int)), none, none] [] (FI, B, L, X) Q from hw2 0 (by omega) (fun s' hs' => absurd hs' (by omega))
    refine up_to (P := fun s => (∀ s', s' < s → ¬ STP (frM A0 c mv st) (szM A0 mv) K S g (gd (fun m => m) x) j m s') → WP2 P M_V_afterFirstMove (d + 2) 11 [some (vr 152), some (vi (x : Int)), some (vi (m : Int)), some (vi (s : Int)), none, none] [] (FI, B, L, X) Q) S ?_ ?_
    · intro hns
      refine WP_n 2 rfl ?_
      refine WP2_getf rfl rfl rfl rfl rfl ?_
      refine WP_icmpge rfl rfl ⟨by omega, by omega⟩ ⟨by omega, by omega⟩ (fun h14 => ?_) (fun h14 => absurd h14 (by omega))
      refine WP_n 2 rfl ?_
      refine WP2_kill 3 (ih (fun m' s' hm' => ?_))
      by_cases z : m' = m
      · rw [z]
        intro w
        exact hns s' w.2.1 w
      · exact hno m' s' (by omega)
    · intro s hs ih2 hns
      have ux := upx_ok hx (show m < K from hm) (show s < 5 by omega)
      have ub := hbd _ ux.1
      have ubx := hbd x hx
      have o157 := b5 s hs
      have fbd := freD_bd hh (dc x) hs (Nat.le_refl K)
      have e154 : B 154 s = (nth st s : Int) := (o1 _ _ (by omega) (by omega)).trans (hS.2.2.2.1 s hs)
      have eml : B X.2.2.1 (upx x m s) = A X.2.2.1 (upx x m s) := o1 _ _ (by omega) (by omega)
      refine WP_n 2 rfl ?_
      refine WP2_getf rfl rfl rfl rfl rfl ?_
      refine WP_icmpge rfl rfl ⟨by omega, by omega⟩ ⟨by omega, by omega⟩ (fun h14 => absurd h14 (by omega)) (fun h14 => ?_)
      refine WP_n 3 rfl ?_
      refine WP2_getf rfl rfl rfl rfl rfl ?_
      refine WP_n 1 rfl ?_
      refine WP2_iald (j := m) rfl rfl (ia_lit (n := 6) rfl rfl (by omega)) (by omega) (by omega) (by omega) ?_
      refine WP_n 1 rfl ?_
      refine WP2_gets (x := 4) rfl rfl rfl ?_
      refine WP_n 1 rfl ?_
      refine WP2_ialds (j := m) rfl rfl (ia_lit (n := 7) rfl rfl (by omega)) (by omega) (by omega) (by omega) ?_
      refine WP_n 2 rfl ?_
      rw [e156, show st5 P 4 m = PWt m from rfl, PWt_pow m (by omega), show (x : Int) + ((s : Int) - (dc x m : Int)) * ((5 ^ m : Nat) : Int) = ((upx x m s : Nat) : Int) from by
        have := dc_le (x := x) (p := m)
        rw [Int.sub_mul, ← Int.natCast_mul, ← Int.natCast_mul]
        unfold upx
        omega]
      refine WP_n 2 rfl ?_
      refine WP2_getf rfl rfl rfl rfl rfl ?_
      refine WP_n 1 rfl ?_
      refine WP2_iald (j := (upx x m s)) rfl rfl (HA_ml) (by omega) (by omega) (by omega) ?_
      refine WP_n 1 rfl ?_
      refine WP2_getf rfl rfl rfl rfl rfl ?_
      refine WP_n 1 rfl ?_
      refine WP2_iald (j := x) rfl rfl (HA_ml) (by omega) (by omega) (by omega) ?_
      refine WP_n 2 rfl ?_
      refine WP_icmpne rfl rfl ⟨by omega, by omega⟩ ⟨by omega, by omega⟩ (fun h38 => ?_) (fun h38 => ?_)
      · refine WP_n 3 rfl ?_
        refine WP_ifeq rfl rfl ⟨by decide, by decide⟩  (fun h44 => ?_) (fun h44 => absurd (by decide) h44)
        refine WP_n 2 rfl ?_
        refine WP2_kill 4 (WP2_kill 5 (ih2 (fun s' hs' => ?_)))
        by_cases z : s' = s
        · rw [z]
          intro w
          have := (STP.mk (by omega) rfl hS5 ⟨fun i hi => hi, fun i hi => rfl⟩ hMK hx hv hj hm hs w.2.2.1 w.2.2.2.1).mpr w
          exact h38 (by rw [eml, emx]; have e : A X.2.2.1 (upx x m s) = (j : Int) := this; omega)
        · exact hns s' (by omega)
      · refine WP_n 4 rfl ?_
        refine WP_ifeq rfl rfl ⟨by decide, by decide⟩  (fun h44 => absurd h44 (by decide)) (fun h44 => ?_)
        refine WP_n 1 rfl ?_
        refine WP2_getf rfl rfl rfl rfl rfl ?_
        refine WP_n 1 rfl ?_
        refine WP2_iald (j := s) rfl rfl (ia_lit (n := 5) rfl rfl (by omega)) (by omega) (by omega) (by omega) ?_
        refine WP_n 1 rfl ?_
        refine WP2_getf rfl rfl rfl rfl rfl ?_
        refine WP2_getf rfl rfl rfl rfl rfl ?_
        refine WP_n 1 rfl ?_
        refine WP2_getf rfl rfl rfl rfl rfl ?_
        refine WP_n 1 rfl ?_
        refine WP2_iald (j := m) rfl rfl (ia_lit (n := 6) rfl rfl (by omega)) (by omega) (by omega) (by omega) ?_
        refine WP2_aald (b := 20) (j := (nth mv m)) (n := 16) rfl rfl rfl rfl rfl (by omega) (by omega) ?_
        refine WP_n 1 rfl ?_
        refine WP2_iald (j := 0) rfl rfl (ia_tm (by omega)) (by omega) (by omega) (by omega) ?_
        refine WP_icmplt rfl rfl ⟨by omega, by omega⟩ ⟨by omega, by omega⟩ (fun h59 => ?_) (fun h59 => ?_)
        · refine WP_n 2 rfl ?_
          refine WP2_kill 4 (WP2_kill 5 (ih2 (fun s' hs' => ?_)))
          by_cases z : s' = s
          · rw [z]
            intro w
            have e : szM A0 mv m ≤ freD (frM A0 c mv st) (szM A0 mv) K (dc x) s := w.2.2.2.1
            omega
          · exact hns s' (by omega)
        · refine WP_n 2 rfl ?_
          refine WP2_getf rfl rfl rfl rfl rfl ?_
          refine WP_n 1 rfl ?_
          refine WP2_iald (j := m) rfl rfl (ia_lit (n := 6) rfl rfl (by omega)) (by omega) (by omega) (by omega) ?_
          refine WP2_putk (k := 11) rfl rfl rfl rfl rfl rfl (by exact trivial) ?_
          refine WP_n 2 rfl ?_
          refine WP2_getf rfl rfl rfl rfl rfl ?_
          refine WP_n 1 rfl ?_
          refine WP2_iald (j := s) rfl rfl (ia_lit (n := 5) rfl rfl (by omega)) (by omega) (by omega) (by omega) ?_
          refine WP2_putk (k := 12) rfl rfl rfl rfl rfl rfl (by exact trivial) ?_
          refine WP_n 1 rfl ?_
          refine WP_iret rfl rfl rfl ⟨_, rfl, ?_⟩
          have hmj : A X.2.2.1 (upx x m s) = (j : Int) := by omega
          have hsn : s ≠ dc x m := fun w => by
            rw [w, upx_self] at hmj
            omega
          have hst := (STP.mk (by omega) rfl hS5 ⟨fun i hi => hi, fun i hi => rfl⟩ hMK hx hv hj hm hs hsn (by show szM A0 mv m ≤ freD (frM A0 c mv st) (szM A0 mv) K (dc x) s; omega)).mp hmj
          exact hq _ B m s ⟨hst, fun m' s' w => by
            rcases w with w | ⟨w1, w2⟩
            · exact hno m' s' w
            · rw [w1]
              exact hns s' w2⟩ (fun a k w => by rw [up2_ne (by omega), up2_ne (by omega)]) (by rw [up2_ne (by omega), up2_same]; exact e153) (by rw [up2_same]; exact e154) o1
theorem sp_followTo {P : PP} {d : Nat} {FI A L : Nat → Nat → Int} {X : SX} {Q : Option AV → S2 → Prop} {n0 : Nat} {FI0 A0 : Nat → Nat → Int} {c mv st K S : Nat} (hh : HM n0 FI0 A0 c mv st K S) (hS : MSt FI0 A0 c mv st K S FI A) {g dgP : Nat → Nat} {i len D : Nat} (hP : ∀ m, m < K → dgP m < S ∧ A0 (20 + nth mv m) 4 = (nth st (dgP m) : Int)) (hX : XO P X len) (hlen : 5 ^ K ≤ len) (hMK : MK (Rn (frM A0 c mv st) (szM A0 mv) K S g (fun m => m)) (5 ^ K) (-1) (A X.2.2.1) D) (hbd : ∀ y, y < 5 ^ K → -1 ≤ A X.2.2.1 y ∧ A X.2.2.1 y ≤ 60000) (hD : A X.2.2.1 (stN dgP K) = (D : Int)) (hiD : i < D) (hq : ∀ (m s : Nat) (F2 B2 : Nat → Nat → Int), WLK (frM A0 c mv st) (szM A0 mv) K S g i D dgP m s → MSt FI0 A0 c mv st K S F2 B2 → F2 152 11 = (nth mv m : Int) → F2 152 12 = (nth st s : Int) → Q none (F2, B2, L, X)) (hD6 : D < 16000) : WP2 P M_V_followTo (d + 3) 0 [some (vr 152), some (vi (i : Int)), none, none] [] (FI, A, L, X) Q := by
  have hK6 := hh.2.2.2.2.2.1
  have hS5 := hh.2.2.2.2.2.2.2
  have hpK : 5 ^ K ≤ 5 ^ 6 := Nat.pow_le_pow_right (by omega) hK6
  obtain ⟨HA_ml, HA_qu, x3, x4, x5, x6⟩ := id hX
  have hs0 : stN dgP K < 5 ^ K := stN_lt K (fun m hm => by have := (hP m hm).1; omega)
  have hs1 : ∀ m, m < K → gd (fun m => m) (stN dgP K) m = dgP m := stN_dig K (fun m hm => by have := (hP m hm).1; omega)
  refine WP_n 2 rfl ?_
  refine WP2_callV 1 ok_M_V_stateBy rfl rfl rfl rfl rfl rfl (Nat.le_of_ble_eq_true rfl) (Nat.le_of_ble_eq_true rfl) rfl rfl ?_
  refine sp_stateBy (W := 4) hh hS (Or.inl rfl) hP ?_
  refine WP_n 3 rfl ?_
  suffices hw : ∀ (r t x D1 : Nat) (F1 B : Nat → Nat → Int), t + r = i → x < 5 ^ K → (∀ m, m < K → gd (fun m => m) x m < S) → A X.2.2.1 x = (D1 : Int) → r < D1 → D1 ≤ D → MSt FI0 A0 c mv st K S F1 B → (∀ y, B X.2.2.1 y = A X.2.2.1 y) → (∀ (m s : Nat) (F2 B2 : Nat → Nat → Int), WLK (frM A0 c mv st) (szM A0 mv) K S g r D1 (gd (fun m => m) x) m s → MSt FI0 A0 c mv st K S F2 B2 → F2 152 11 = (nth mv m : Int) → F2 152 12 = (nth st s : Int) → Q none (F2, B2, L, X)) → WP2 P M_V_followTo (d + 3) 6 [some (vr 152), some (vi (i : Int)), some (vi (x : Int)), some (vi (t : Int))] [] (F1, B, L, X) Q from hw i 0 (stN dgP K) D FI A (by omega) hs0 (fun m hm => by rw [hs1 m hm]; exact (hP m hm).1) hD hiD (Nat.le_refl _) hS (fun _ => rfl) (fun m s F2 B2 w => hq m s F2 B2 (WLK.congr i D hs1 w))
  intro r
  induction r with
  | zero =>
    intro t x D1 F1 B ht hx1 hv1 hmx hr hD1 hMS hme hQ
    refine WP_n 2 rfl ?_
    refine WP_icmpgt rfl rfl ⟨by omega, by omega⟩ ⟨by omega, by omega⟩ (fun h8 => absurd h8 (by omega)) (fun h8 => ?_)
    have hmr := hbd x hx1
    have hme1 := hme x
    refine WP_n 1 rfl ?_
    refine WP2_getf rfl rfl rfl rfl rfl ?_
    refine WP_n 1 rfl ?_
    refine WP2_iald (j := x) rfl rfl (HA_ml) (by omega) (by omega) (by omega) ?_
    refine WP_ifle rfl rfl ⟨by omega, by omega⟩ (fun h13 => absurd h13 (by omega)) (fun h13 => ?_)
    refine WP_n 2 rfl ?_
    refine WP2_callV 1 ok_M_V_afterFirstMove rfl rfl rfl rfl rfl rfl (Nat.le_of_ble_eq_true rfl) (Nat.le_of_ble_eq_true rfl) rfl rfl ?_
    refine sp_afterFirstMove (j := D1 - 1) (D := D1) hh hMS hX hlen hx1 hv1 (MK.congr ⟨hMK.1, fun k x hx hk => hMK.2 k x hx (by omega)⟩ (fun y _ => hme y)) (fun y hy => by rw [hme y]; exact hbd y hy) (by omega) (by rw [hme, hmx]; omega) (fun F2 B2 m s hf f1 f2 f3 b1 => ?_)
    have hM2 : MSt FI0 A0 c mv st K S F2 B2 := hMS.up hK6 hS5 (fun a j q => b1 a j (by omega) (by omega)) (fun a j q => f1 a j (by omega))
    refine WP_n 3 rfl ?_
    refine WP_n 2 rfl ?_
    refine WP_icmpgt rfl rfl ⟨by omega, by omega⟩ ⟨by omega, by omega⟩ (fun h8 => ?_) (fun h8 => absurd h8 (by omega))
    exact WP_vret rfl rfl rfl ⟨_, rfl, hQ m s F2 B2 hf hM2 f2 f3⟩
  | succ r ihr =>
    intro t x D1 F1 B ht hx1 hv1 hmx hr hD1 hMS hme hQ
    refine WP_n 2 rfl ?_
    refine WP_icmpgt rfl rfl ⟨by omega, by omega⟩ ⟨by omega, by omega⟩ (fun h8 => absurd h8 (by omega)) (fun h8 => ?_)
    have hmr := hbd x hx1
    have hme1 := hme x
    refine WP_n 1 rfl ?_
    refine WP2_getf rfl rfl rfl rfl rfl ?_
    refine WP_n 1 rfl ?_
    refine WP2_iald (j := x) rfl rfl (HA_ml) (by omega) (by omega) (by omega) ?_
    refine WP_ifle rfl rfl ⟨by omega, by omega⟩ (fun h13 => absurd h13 (by omega)) (fun h13 => ?_)
    refine WP_n 2 rfl ?_
    refine WP2_callV 1 ok_M_V_afterFirstMove rfl rfl rfl rfl rfl rfl (Nat.le_of_ble_eq_true rfl) (Nat.le_of_ble_eq_true rfl) rfl rfl ?_
    refine sp_afterFirstMove (j := D1 - 1) (D := D1) hh hMS hX hlen hx1 hv1 (MK.congr ⟨hMK.1, fun k x hx hk => hMK.2 k x hx (by omega)⟩ (fun y _ => hme y)) (fun y hy => by rw [hme y]; exact hbd y hy) (by omega) (by rw [hme, hmx]; omega) (fun F2 B2 m s hf f1 f2 f3 b1 => ?_)
    have hM2 : MSt FI0 A0 c mv st K S F2 B2 := hMS.up hK6 hS5 (fun a j q => b1 a j (by omega) (by omega)) (fun a j q => f1 a j (by omega))
    refine WP_n 3 rfl ?_
    have hst := hf.1
    have g1 := gd_upx (e := fun m => m) (s := s) ⟨fun i hi => hi, fun i hi => rfl⟩ hx1 hst.1 (by have := hst.2.1; omega)
    refine ihr (t + 1) (upx x m s) (D1 - 1) F2 B2 (by omega) (upx_ok hx1 hst.1 (by have := hst.2.1; omega)).1 (fun q hq => ?_) ?_ (by omega) (by omega) hM2 (fun y => by rw [b1 _ _ (by omega) (by omega)]; exact hme y) (fun m' s' F3 B3 w1 w2 w3 w4 => hQ m' s' F3 B3 ⟨m, s, hf, WLK.congr r (D1 - 1) g1 w1⟩ w2 w3 w4)
    · rw [g1 q hq]
      unfold updD
      split
      · exact hst.2.1
      · exact hv1 q hq
    · exact (STP.mk (e := fun m => m) (by omega) rfl hS5 ⟨fun i hi => hi, fun i hi => rfl⟩ hMK hx1 hv1 (by omega) hst.1 hst.2.1 hst.2.2.1 hst.2.2.2.1).mpr hst

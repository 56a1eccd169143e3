/-! weekends, move and go: the class -/
theorem whyM_neg {fx pl tg : Nat → Int} {c : Nat} {sw r : Int} (h : whyM fx pl tg c sw r) : r = 0 ∨ ∃ k : Nat, r = -(k : Int) ∧ 1 ≤ k ∧ k ≤ 6 := by
  rcases h with ⟨h, _⟩ | ⟨s9, _, ⟨h, _⟩ | ⟨_, mv, st, _, _, ⟨h, _⟩ | ⟨h, _⟩⟩⟩
  · exact Or.inr ⟨1, by omega, by omega⟩
  · exact Or.inr ⟨3, by omega, by omega⟩
  · exact Or.inr ⟨6, by omega, by omega⟩
  · exact Or.inl h
def CDa (n : Nat) (FI A : Nat → Nat → Int) (c : Nat) (sw : Int) (s9 mv st : Nat) : Prop := (sw = (s9 : Int) ∧ s9 < 2048) ∧ mvS (fun t => A (20 + t) 6) c mv ∧ stS (fun t => A (20 + t) 4) (fun t => A (20 + t) 6) c s9 st ∧ (∀ t, t < c → A (20 + t) 6 ≠ -9 → A (20 + t) 4 ≠ -9) ∧ HM n FI A c mv st (pcR mv 16) (pcR st 16)
theorem whyM_0 {n : Nat} {FI A : Nat → Nat → Int} (hI : cI n FI A) {c : Nat} (hc : FI 6 8 = (c : Int)) {fx : Nat → Int} {sw : Int} (h : whyM fx (fun t => A (20 + t) 4) (fun t => A (20 + t) 6) c sw 0) : ∃ s9 mv st : Nat, CDa n FI A c sw s9 mv st := by
  rcases h with ⟨h, _⟩ | ⟨s9, h1, ⟨h, _⟩ | ⟨h2, mv, st, h3, h4, ⟨h, _⟩ | ⟨h, h5, h6⟩⟩⟩
  · omega
  · omega
  · omega
  · rw [cnt_pcR] at h5 h6
    exact ⟨s9, mv, st, h1, h3, h4, fun t ht q => (h2 t ht q).2, hI, hc, h3.1, h4.1, rfl, by omega, rfl, by omega⟩
def dP (A : Nat → Nat → Int) (mv st : Nat) : Nat → Nat := dgF (fun t => A (20 + t) 4) mv st
def dT (A : Nat → Nat → Int) (mv st : Nat) : Nat → Nat := dgF (fun t => A (20 + t) 6) mv st
theorem CDa.dg {n : Nat} {FI A : Nat → Nat → Int} {c : Nat} {sw : Int} {s9 mv st : Nat} (h : CDa n FI A c sw s9 mv st) : ∀ m, m < pcR mv 16 → (dP A mv st m < pcR st 16 ∧ A (20 + nth mv m) 4 = (nth st (dP A mv st m) : Int)) ∧ dT A mv st m < pcR st 16 ∧ A (20 + nth mv m) 6 = (nth st (dT A mv st m) : Int) := by
  intro m hm
  have hc := h.2.2.2.2.c
  exact dgF_ok hc h.2.1 h.2.2.1 h.2.2.2.1 (fun t ht => by
    have q := h.2.2.2.2.1.2.2.2.1 t (by omega)
    unfold cTm at q
    exact ⟨by omega, by omega⟩) hm
def DSc (A : Nat → Nat → Int) (c mv st : Nat) (r : Int) : Prop := DST (frM A c mv st) (szM A mv) (pcR mv 16) (pcR st 16) (dT A mv st) (dP A mv st) r
def WLc (A : Nat → Nat → Int) (c mv st i D m s : Nat) : Prop := WLK (frM A c mv st) (szM A mv) (pcR mv 16) (pcR st 16) (dT A mv st) i D (dP A mv st) m s
theorem sp_F_weekends {P : PP} {d n c : Nat} {FI A L : Nat → Nat → Int} {X : SX} {Q : Option AV → S2 → Prop} (hI : cI n FI A) (hc : FI 6 8 = (c : Int)) (hx : xI P X) {sw : Int} (hsw : inR sw) (no : ∀ k : Nat, 1 ≤ k ∧ k ≤ 6 → whyM (fun t => A (20 + t) 5) (fun t => A (20 + t) 4) (fun t => A (20 + t) 6) c sw (-(k : Int)) → Q (some (vi (-(k : Int)))) (FI, rfC A k, L, X)) (ok : ∀ (s9 mv st : Nat) (r : Int) (F1 B : Nat → Nat → Int) (X1 : SX), whyM (fun t => A (20 + t) 5) (fun t => A (20 + t) 4) (fun t => A (20 + t) 6) c sw 0 → CDa n FI A c sw s9 mv st → SAME FI A F1 B → xI P X1 → DSc A c mv st r → Q (some (vi r)) (F1, B, L, X1)) : WP2 P M_F_weekends (d + 4) 0 [some (vr 5), some (vi sw), none] [] (FI, A, L, X) Q := by
  refine WP_n 2 rfl ?_
  refine WP2_callV 1 ok_M_F_whyNoMoving rfl rfl rfl rfl rfl rfl (Nat.le_of_ble_eq_true rfl) (Nat.le_of_ble_eq_true rfl) rfl rfl ?_
  refine sp_whyNoMoving hI hc hsw (fun r hr => ?_)
  rcases whyM_neg hr with h0 | ⟨k, hk, hk1⟩
  · subst h0
    obtain ⟨s9, mv, st, hd⟩ := whyM_0 hI hc hr
    obtain rfl := hd.1.1
    refine WP_n 2 rfl ?_
    refine WP_ifeq rfl rfl ⟨by decide, by decide⟩  (fun h5 => ?_) (fun h5 => absurd (by decide) h5)
    refine WP_n 1 rfl ?_
    refine WP2_getf rfl rfl rfl rfl rfl ?_
    refine WP_n 1 rfl ?_
    refine WP2_callV 1 ok_M_V_search rfl rfl rfl rfl rfl rfl (Nat.le_of_ble_eq_true rfl) (Nat.le_of_ble_eq_true rfl) rfl rfl ?_
    refine sp_V_search hd.2.2.2.2 hd.2.1 hd.2.2.1 hd.1.2 hx (fun m hm => (hd.dg m hm).1) (fun m hm => (hd.dg m hm).2) (fun r F1 B X1 len hMS hx1 hXO hlen hD hDM => ?_)
    have hDr : r = -9 ∨ (0 ≤ r ∧ r < 16000) := by
      rcases hD with q | ⟨D, q, _⟩
      · exact Or.inl q.1
      · have := hDM D q
        omega
    exact WP_iret rfl rfl rfl ⟨_, rfl, ok s9 mv st r F1 B X1 hr hd hMS.1 hx1 hD⟩
  · subst hk
    refine WP_n 2 rfl ?_
    refine WP_ifeq rfl rfl ⟨by omega, by omega⟩ (fun h5 => absurd h5 (by omega)) (fun h5 => ?_)
    refine WP_n 2 rfl ?_
    refine WP2_callV 1 ok_M_F_refuse rfl rfl rfl rfl rfl rfl (Nat.le_of_ble_eq_true rfl) (Nat.le_of_ble_eq_true rfl) rfl rfl ?_
    refine sp_refuse (k := k) rfl hk1 ?_
    exact WP_iret rfl rfl rfl ⟨_, rfl, no k hk1 hr⟩
theorem sp_F_move {P : PP} {d n c : Nat} {FI A L : Nat → Nat → Int} {X : SX} {Q : Option AV → S2 → Prop} (hI : cI n FI A) (hc : FI 6 8 = (c : Int)) (hx : xI P X) {sw : Int} (hsw : inR sw) {i w : Int} (hi : inR i) (hw : inR w) (no : ∀ k : Nat, 1 ≤ k ∧ k ≤ 6 → whyM (fun t => A (20 + t) 5) (fun t => A (20 + t) 4) (fun t => A (20 + t) 6) c sw (-(k : Int)) → Q (some (vi (-(k : Int)))) (FI, rfC A k, L, X)) (w2 : whyM (fun t => A (20 + t) 5) (fun t => A (20 + t) 4) (fun t => A (20 + t) 6) c sw 0 → ¬ (0 ≤ w ∧ w ≤ 1) → Q (some (vi (-2))) (FI, rfC A 2, L, X)) (r9 : ∀ (s9 mv st : Nat) (r : Int) (F1 B : Nat → Nat → Int) (X1 : SX), whyM (fun t => A (20 + t) 5) (fun t => A (20 + t) 4) (fun t => A (20 + t) 6) c sw 0 → CDa n FI A c sw s9 mv st → SAME FI A F1 B → xI P X1 → DSc A c mv st r → 0 ≤ w ∧ w ≤ 1 → ¬ (0 ≤ i ∧ i < r) → Q (some (vi (-9))) (F1, B, L, X1)) (ok : ∀ (s9 mv st D i9 m s : Nat) (F1 B : Nat → Nat → Int) (X1 : SX), whyM (fun t => A (20 + t) 5) (fun t => A (20 + t) 4) (fun t => A (20 + t) 6) c sw 0 → CDa n FI A c sw s9 mv st → SAME FI A F1 B → xI P X1 → DSc A c mv st (D : Int) → 0 ≤ w ∧ w ≤ 1 → i = (i9 : Int) → i9 < D → WLc A c mv st i9 D m s → Q (some (vi (if w = 0 then (nth mv m : Int) else (nth st s : Int)))) (F1, B, L, X1)) : WP2 P M_F_move (d + 4) 0 [some (vr 5), some (vi sw), some (vi i), some (vi w), none, none] [] (FI, A, L, X) Q := by
  obtain ⟨lw, uw⟩ := id hw
  obtain ⟨li, ui⟩ := id hi
  refine WP_n 2 rfl ?_
  refine WP2_callV 1 ok_M_F_whyNoMoving rfl rfl rfl rfl rfl rfl (Nat.le_of_ble_eq_true rfl) (Nat.le_of_ble_eq_true rfl) rfl rfl ?_
  refine sp_whyNoMoving hI hc hsw (fun r hr => ?_)
  rcases whyM_neg hr with h0 | ⟨k, hk, hk1⟩
  · subst h0
    obtain ⟨s9, mv, st, hd⟩ := whyM_0 hI hc hr
    obtain rfl := hd.1.1
    refine WP_n 2 rfl ?_
    refine WP_ifeq rfl rfl ⟨by decide, by decide⟩  (fun h5 => ?_) (fun h5 => absurd (by decide) h5)
    refine WP_n 1 rfl ?_
    refine WP_iflt rfl rfl ⟨by omega, by omega⟩ (fun h11 => ?_) (fun h11 => ?_)
    · refine WP_n 2 rfl ?_
      refine WP2_callV 1 ok_M_F_refuse rfl rfl rfl rfl rfl rfl (Nat.le_of_ble_eq_true rfl) (Nat.le_of_ble_eq_true rfl) rfl rfl ?_
      refine sp_refuse (k := 2) rfl (by omega) ?_
      exact WP_iret rfl rfl rfl ⟨_, rfl, w2 hr (by omega)⟩
    · refine WP_n 2 rfl ?_
      refine WP_icmple rfl rfl ⟨by omega, by omega⟩ ⟨by omega, by omega⟩ (fun h14 => ?_) (fun h14 => ?_)
      · refine WP_n 1 rfl ?_
        refine WP2_getf rfl rfl rfl rfl rfl ?_
        refine WP_n 1 rfl ?_
        refine WP2_callV 1 ok_M_V_search rfl rfl rfl rfl rfl rfl (Nat.le_of_ble_eq_true rfl) (Nat.le_of_ble_eq_true rfl) rfl rfl ?_
        refine sp_V_search hd.2.2.2.2 hd.2.1 hd.2.2.1 hd.1.2 hx (fun m hm => (hd.dg m hm).1) (fun m hm => (hd.dg m hm).2) (fun r F1 B X1 len hMS hx1 hXO hlen hD hDM => ?_)
        have hDr : r = -9 ∨ (0 ≤ r ∧ r < 16000) := by
          rcases hD with q | ⟨D, q, _⟩
          · exact Or.inl q.1
          · have := hDM D q
            omega
        refine WP_n 2 rfl ?_
        refine WP_iflt rfl rfl ⟨by omega, by omega⟩ (fun h25 => ?_) (fun h25 => ?_)
        · refine WP_n 1 rfl ?_
          exact WP_iret rfl rfl rfl ⟨_, rfl, r9 s9 mv st r F1 B X1 hr hd hMS.1 hx1 hD (by omega) (by omega)⟩
        · refine WP_n 2 rfl ?_
          refine WP_icmplt rfl rfl ⟨by omega, by omega⟩ ⟨by omega, by omega⟩ (fun h28 => ?_) (fun h28 => ?_)
          · obtain ⟨i9, rfl⟩ : ∃ i9 : Nat, i = (i9 : Int) := ⟨i.toNat, by omega⟩
            obtain ⟨D, rfl⟩ : ∃ D : Nat, r = (D : Int) := ⟨r.toNat, by omega⟩
            have hz := hDM D rfl
            have hiD : i9 < D := by omega
            refine WP_n 1 rfl ?_
            refine WP2_getf rfl rfl rfl rfl rfl ?_
            refine WP_n 1 rfl ?_
            refine WP2_callV 1 ok_M_V_followTo rfl rfl rfl rfl rfl rfl (Nat.le_of_ble_eq_true rfl) (Nat.le_of_ble_eq_true rfl) rfl rfl ?_
            refine sp_followTo hd.2.2.2.2 hMS (fun m hm => (hd.dg m hm).1) hXO hlen hz.2.2.1 hz.2.2.2 hz.2.1 hiD (fun m s F2 B2 hW hM2 e11 e12 => ?_) hz.1
            refine WP_n 1 rfl ?_
            refine WP_ifne rfl rfl ⟨by omega, by omega⟩ (fun h36 => ?_) (fun h36 => ?_)
            · refine WP_n 1 rfl ?_
              refine WP2_getf rfl rfl rfl rfl rfl ?_
              refine WP2_getf rfl rfl rfl rfl rfl ?_
              refine WP_iret rfl rfl rfl ⟨_, rfl, ?_⟩
              have z := ok s9 mv st D i9 m s F2 B2 X1 hr hd hM2.1 hx1 hD (by omega) rfl hiD hW
              rw [if_neg (by omega)] at z
              rw [e12]
              exact z
            · refine WP_n 1 rfl ?_
              refine WP2_getf rfl rfl rfl rfl rfl ?_
              refine WP2_getf rfl rfl rfl rfl rfl ?_
              refine WP_n 1 rfl ?_
              refine WP_iret rfl rfl rfl ⟨_, rfl, ?_⟩
              have z := ok s9 mv st D i9 m s F2 B2 X1 hr hd hM2.1 hx1 hD (by omega) rfl hiD hW
              rw [if_pos (by omega)] at z
              rw [e11]
              exact z
          · refine WP_n 1 rfl ?_
            exact WP_iret rfl rfl rfl ⟨_, rfl, r9 s9 mv st r F1 B X1 hr hd hMS.1 hx1 hD (by omega) (by omega)⟩
      · refine WP_n 2 rfl ?_
        refine WP2_callV 1 ok_M_F_refuse rfl rfl rfl rfl rfl rfl (Nat.le_of_ble_eq_true rfl) (Nat.le_of_ble_eq_true rfl) rfl rfl ?_
        refine sp_refuse (k := 2) rfl (by omega) ?_
        exact WP_iret rfl rfl rfl ⟨_, rfl, w2 hr (by omega)⟩
  · subst hk
    refine WP_n 2 rfl ?_
    refine WP_ifeq rfl rfl ⟨by omega, by omega⟩ (fun h5 => absurd h5 (by omega)) (fun h5 => ?_)
    refine WP_n 2 rfl ?_
    refine WP2_callV 1 ok_M_F_refuse rfl rfl rfl rfl rfl rfl (Nat.le_of_ble_eq_true rfl) (Nat.le_of_ble_eq_true rfl) rfl rfl ?_
    refine sp_refuse (k := k) rfl hk1 ?_
    exact WP_iret rfl rfl rfl ⟨_, rfl, no k hk1 hr⟩
theorem sp_takeTargets {P : PP} {d n c : Nat} {FI A L : Nat → Nat → Int} {X : SX} {Q : Option AV → S2 → Prop} (hI : cI n FI A) (hc : FI 6 8 = (c : Int)) (hq : ∀ B : Nat → Nat → Int, (∀ a j, ¬ (20 ≤ a ∧ a < 20 + c ∧ (j = 4 ∨ j = 6)) → B a j = A a j) → (∀ u, u < c → B (20 + u) 4 = (if A (20 + u) 6 = -9 then A (20 + u) 4 else A (20 + u) 6) ∧ B (20 + u) 6 = -9) → Q none (FI, B, L, X)) : WP2 P M_H_takeTargets (d) 0 [some (vr 6), none] [] (FI, A, L, X) Q := by
  have hcc := hI.1
  refine WP_n 2 rfl ?_
  refine (show ∀ t, t ≤ c → ∀ B : Nat → Nat → Int, (∀ a j, ¬ (20 ≤ a ∧ a < 20 + t ∧ (j = 4 ∨ j = 6)) → B a j = A a j) → (∀ u, u < t → B (20 + u) 4 = (if A (20 + u) 6 = -9 then A (20 + u) 4 else A (20 + u) 6) ∧ B (20 + u) 6 = -9) → WP2 P M_H_takeTargets d 2 [some (vr 6), some (vi (t : Int))] [] (FI, B, L, X) Q from ?_) 0 (by omega) A (fun _ _ _ => rfl) (fun u hu => absurd hu (by omega))
  refine up_to (P := fun t => ∀ B : Nat → Nat → Int, (∀ a j, ¬ (20 ≤ a ∧ a < 20 + t ∧ (j = 4 ∨ j = 6)) → B a j = A a j) → (∀ u, u < t → B (20 + u) 4 = (if A (20 + u) 6 = -9 then A (20 + u) 4 else A (20 + u) 6) ∧ B (20 + u) 6 = -9) → WP2 P M_H_takeTargets d 2 [some (vr 6), some (vi (t : Int))] [] (FI, B, L, X) Q) c ?_ ?_
  · intro B b1 b2
    refine WP_n 2 rfl ?_
    refine WP2_getf rfl rfl rfl rfl rfl ?_
    refine WP_icmpge rfl rfl ⟨by omega, by omega⟩ ⟨by omega, by omega⟩ (fun h5 => ?_) (fun h5 => absurd h5 (by omega))
    exact WP_vret rfl rfl rfl ⟨_, rfl, hq B b1 b2⟩
  · intro t ht ih B b1 b2
    have hq9 := hI.2.2.2.1 t (by omega)
    unfold cTm at hq9
    have e6 : B (20 + t) 6 = A (20 + t) 6 := b1 _ _ (by omega)
    have e4 : B (20 + t) 4 = A (20 + t) 4 := b1 _ _ (by omega)
    refine WP_n 2 rfl ?_
    refine WP2_getf rfl rfl rfl rfl rfl ?_
    refine WP_icmpge rfl rfl ⟨by omega, by omega⟩ ⟨by omega, by omega⟩ (fun h5 => absurd h5 (by omega)) (fun h5 => ?_)
    refine WP_n 1 rfl ?_
    refine WP2_getf rfl rfl rfl rfl rfl ?_
    refine WP_n 1 rfl ?_
    refine WP2_aald (b := 20) (j := t) (n := 16) rfl rfl rfl rfl rfl (by omega) (by omega) ?_
    refine WP_n 1 rfl ?_
    refine WP2_iald (j := 6) rfl rfl (ia_tm (by omega)) (by omega) (by omega) (by omega) ?_
    refine WP_n 1 rfl ?_
    refine WP_icmpeq rfl rfl ⟨by omega, by omega⟩ ⟨by omega, by omega⟩ (fun h13 => ?_) (fun h13 => ?_)
    · refine WP_n 2 rfl ?_
      refine ih B (fun a j q => b1 a j (by omega)) (fun u hu => ?_)
      by_cases e : u = t
      · rw [e, if_pos (by omega), e4, e6]
        omega
      · exact b2 u (by omega)
    · refine WP_n 1 rfl ?_
      refine WP2_getf rfl rfl rfl rfl rfl ?_
      refine WP_n 1 rfl ?_
      refine WP2_aald (b := 20) (j := t) (n := 16) rfl rfl rfl rfl rfl (by omega) (by omega) ?_
      refine WP_n 2 rfl ?_
      refine WP2_getf rfl rfl rfl rfl rfl ?_
      refine WP_n 1 rfl ?_
      refine WP2_aald (b := 20) (j := t) (n := 16) rfl rfl rfl rfl rfl (by omega) (by omega) ?_
      refine WP_n 1 rfl ?_
      refine WP2_iald (j := 6) rfl rfl (ia_tm (by omega)) (by omega) (by omega) (by omega) ?_
      refine WP2_iast (j := 4) rfl rfl (ia_tm (by omega)) (by omega) (by omega) (by omega) ?_
      refine WP_n 1 rfl ?_
      refine WP2_getf rfl rfl rfl rfl rfl ?_
      refine WP_n 1 rfl ?_
      refine WP2_aald (b := 20) (j := t) (n := 16) rfl rfl rfl rfl rfl (by omega) (by omega) ?_
      refine WP_n 2 rfl ?_
      refine WP2_iast (j := 6) rfl rfl (ia_tm (by omega)) (by omega) (by omega) (by omega) ?_
      refine WP_n 2 rfl ?_
      refine ih _ (fun a j q => by rw [up2_ne (by omega), up2_ne (by omega)]; exact b1 a j (by omega)) (fun u hu => ?_)
      by_cases e : u = t
      · rw [e, if_neg (by omega), up2_ne (by omega), up2_same, up2_same, e6]
        exact ⟨rfl, rfl⟩
      · rw [up2_ne (by omega), up2_ne (by omega), up2_ne (by omega), up2_ne (by omega)]
        exact b2 u (by omega)
theorem sp_F_go {P : PP} {d n c : Nat} {FI A L : Nat → Nat → Int} {X : SX} {Q : Option AV → S2 → Prop} (hI : cI n FI A) (hc : FI 6 8 = (c : Int)) (hx : xI P X) {sw : Int} (hsw : inR sw) (no : ∀ k : Nat, 1 ≤ k ∧ k ≤ 6 → whyM (fun t => A (20 + t) 5) (fun t => A (20 + t) 4) (fun t => A (20 + t) 6) c sw (-(k : Int)) → Q (some (vi (-(k : Int)))) (FI, rfC A k, L, X)) (r3 : ∀ (s9 mv st : Nat) (F1 B : Nat → Nat → Int) (X1 : SX), whyM (fun t => A (20 + t) 5) (fun t => A (20 + t) 4) (fun t => A (20 + t) 6) c sw 0 → CDa n FI A c sw s9 mv st → SAME FI A F1 B → xI P X1 → DSc A c mv st (-9) → Q (some (vi (-3))) (F1, rfC B 3, L, X1)) (ok : ∀ (s9 mv st : Nat) (r : Int) (F1 B B2 : Nat → Nat → Int) (X1 : SX), whyM (fun t => A (20 + t) 5) (fun t => A (20 + t) 4) (fun t => A (20 + t) 6) c sw 0 → CDa n FI A c sw s9 mv st → SAME FI A F1 B → xI P X1 → DSc A c mv st r → r ≠ -9 → (∀ a j, ¬ (20 ≤ a ∧ a < 20 + c ∧ (j = 4 ∨ j = 6)) → B2 a j = B a j) → (∀ u, u < c → B2 (20 + u) 4 = (if A (20 + u) 6 = -9 then A (20 + u) 4 else A (20 + u) 6) ∧ B2 (20 + u) 6 = -9) → Q (some (vi r)) (F1, B2, L, X1)) : WP2 P M_F_go (d + 4) 0 [some (vr 5), some (vi sw), none, none] [] (FI, A, L, X) Q := by
  refine WP_n 2 rfl ?_
  refine WP2_callV 1 ok_M_F_whyNoMoving rfl rfl rfl rfl rfl rfl (Nat.le_of_ble_eq_true rfl) (Nat.le_of_ble_eq_true rfl) rfl rfl ?_
  refine sp_whyNoMoving hI hc hsw (fun r hr => ?_)
  rcases whyM_neg hr with h0 | ⟨k, hk, hk1⟩
  · subst h0
    obtain ⟨s9, mv, st, hd⟩ := whyM_0 hI hc hr
    obtain rfl := hd.1.1
    refine WP_n 2 rfl ?_
    refine WP_ifeq rfl rfl ⟨by decide, by decide⟩  (fun h5 => ?_) (fun h5 => absurd (by decide) h5)
    refine WP_n 1 rfl ?_
    refine WP2_getf rfl rfl rfl rfl rfl ?_
    refine WP_n 1 rfl ?_
    refine WP2_callV 1 ok_M_V_search rfl rfl rfl rfl rfl rfl (Nat.le_of_ble_eq_true rfl) (Nat.le_of_ble_eq_true rfl) rfl rfl ?_
    refine sp_V_search hd.2.2.2.2 hd.2.1 hd.2.2.1 hd.1.2 hx (fun m hm => (hd.dg m hm).1) (fun m hm => (hd.dg m hm).2) (fun r F1 B X1 len hMS hx1 hXO hlen hD hDM => ?_)
    have hDr : r = -9 ∨ (0 ≤ r ∧ r < 16000) := by
      rcases hD with q | ⟨D, q, _⟩
      · exact Or.inl q.1
      · have := hDM D q
        omega
    refine WP_n 3 rfl ?_
    refine WP_icmpne rfl rfl ⟨by omega, by omega⟩ ⟨by omega, by omega⟩ (fun h17 => ?_) (fun h17 => ?_)
    · refine WP_n 1 rfl ?_
      refine WP2_getf rfl rfl rfl rfl rfl ?_
      refine WP2_callV 0 ok_M_H_takeTargets rfl rfl rfl rfl rfl rfl (Nat.le_of_ble_eq_true rfl) (Nat.le_of_ble_eq_true rfl) rfl rfl ?_
      refine sp_takeTargets (hI.off hMS.1) (hMS.1.1.1.trans hc) (fun B2 b1 b2 => ?_)
      refine WP_n 1 rfl ?_
      refine WP_iret rfl rfl rfl ⟨_, rfl, ?_⟩
      have hc16 := hd.2.2.2.2.c
      exact ok s9 mv st r F1 B B2 X1 hr hd hMS.1 hx1 hD h17 b1 (fun u hu => by
        have z := b2 u hu
        rw [hMS.1.2.2 (20 + u) 6 (by omega), hMS.1.2.2 (20 + u) 4 (by omega)] at z
        exact z)
    · refine WP_n 2 rfl ?_
      refine WP2_callV 1 ok_M_F_refuse rfl rfl rfl rfl rfl rfl (Nat.le_of_ble_eq_true rfl) (Nat.le_of_ble_eq_true rfl) rfl rfl ?_
      refine sp_refuse (k := 3) rfl (by omega) ?_
      refine WP_iret rfl rfl rfl ⟨_, rfl, ?_⟩
      obtain rfl : r = -9 := by omega
      exact r3 s9 mv st F1 B X1 hr hd hMS.1 hx1 hD
  · subst hk
    refine WP_n 2 rfl ?_
    refine WP_ifeq rfl rfl ⟨by omega, by omega⟩ (fun h5 => absurd h5 (by omega)) (fun h5 => ?_)
    refine WP_n 2 rfl ?_
    refine WP2_callV 1 ok_M_F_refuse rfl rfl rfl rfl rfl rfl (Nat.le_of_ble_eq_true rfl) (Nat.le_of_ble_eq_true rfl) rfl rfl ?_
    refine sp_refuse (k := k) rfl hk1 ?_
    exact WP_iret rfl rfl rfl ⟨_, rfl, no k hk1 hr⟩

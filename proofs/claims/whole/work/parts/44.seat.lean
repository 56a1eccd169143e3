/-! seat: both sides -/
theorem sp_takeBest {P : PP} {d : Nat} {FI A L : Nat → Nat → Int} {X : SX} {Q : Option AV → S2 → Prop} {ts nn : Nat} (hn7 : nn ≤ 7) (hnt : nn = pcR ts 16) (h7 : FI 138 7 = (nn : Int)) (h139 : ∀ i, i < nn → A 139 i = (nth ts i : Int)) (hq : ∀ B : Nat → Nat → Int, (∀ e, e < nn → B (20 + nth ts e) 4 = A 151 e) → (∀ a j, ¬ (j = 4 ∧ ∃ e, e < nn ∧ a = 20 + nth ts e) → B a j = A a j) → Q none (FI, B, L, X)) : WP2 P M_S_takeBest (d) 0 [some (vr 138), none] [] (FI, A, L, X) Q := by
  refine WP_n 2 rfl ?_
  suffices hh : ∀ i, i ≤ nn → ∀ B : Nat → Nat → Int, (∀ e, e < i → B (20 + nth ts e) 4 = A 151 e) → (∀ a j, ¬ (j = 4 ∧ ∃ e, e < i ∧ a = 20 + nth ts e) → B a j = A a j) → WP2 P M_S_takeBest d 2 [some (vr 138), some (vi (i : Int))] [] (FI, B, L, X) Q from hh 0 (by omega) A (fun e he => absurd he (by omega)) (fun _ _ _ => rfl)
  refine up_to (P := fun i => ∀ B : Nat → Nat → Int, (∀ e, e < i → B (20 + nth ts e) 4 = A 151 e) → (∀ a j, ¬ (j = 4 ∧ ∃ e, e < i ∧ a = 20 + nth ts e) → B a j = A a j) → WP2 P M_S_takeBest d 2 [some (vr 138), some (vi (i : Int))] [] (FI, B, L, X) Q) nn ?_ ?_
  · intro B b1 b2
    refine WP_n 2 rfl ?_
    refine WP2_getf rfl rfl rfl rfl rfl ?_
    refine WP_icmpge rfl rfl ⟨by omega, by omega⟩ ⟨by omega, by omega⟩ (fun h5 => ?_) (fun h5 => absurd h5 (by omega))
    exact WP_vret rfl rfl rfl ⟨_, rfl, hq B b1 b2⟩
  · intro i hi ih B b1 b2
    have hok := nth_ok (s := ts) (i := i) (by omega)
    have hle : ∀ e, e < i → nth ts e < 16 := fun e he => (nth_ok (by omega)).2.2
    have e39 : B 139 i = (nth ts i : Int) := (b2 139 i (fun q => by
      obtain ⟨q1, e, q2, q3⟩ := q
      have := hle e q2
      omega)).trans (h139 i hi)
    have e51 : B 151 i = A 151 i := b2 151 i (fun q => by
      obtain ⟨q1, e, q2, q3⟩ := q
      have := hle e q2
      omega)
    refine WP_n 2 rfl ?_
    refine WP2_getf rfl rfl rfl rfl rfl ?_
    refine WP_icmpge rfl rfl ⟨by omega, by omega⟩ ⟨by omega, by omega⟩ (fun h5 => absurd h5 (by omega)) (fun h5 => ?_)
    refine WP_n 1 rfl ?_
    refine WP2_getf rfl rfl rfl rfl rfl ?_
    refine WP2_getf rfl rfl rfl rfl rfl ?_
    refine WP_n 1 rfl ?_
    refine WP2_getf rfl rfl rfl rfl rfl ?_
    refine WP_n 1 rfl ?_
    refine WP2_iald (j := i) rfl rfl (ia_lit (n := 7) rfl rfl (by omega)) (by omega) (by omega) (by omega) ?_
    refine WP2_aald (b := 20) (j := (nth ts i)) (n := 16) rfl rfl rfl rfl rfl (by omega) (by omega) ?_
    refine WP_n 2 rfl ?_
    refine WP2_getf rfl rfl rfl rfl rfl ?_
    refine WP_n 1 rfl ?_
    refine WP2_iald (j := i) rfl rfl (ia_lit (n := 7) rfl rfl (by omega)) (by omega) (by omega) (by omega) ?_
    refine WP2_iast (j := 4) rfl rfl (ia_tm (by omega)) (by omega) (by omega) (by omega) ?_
    refine WP_n 2 rfl ?_
    refine ih _ (fun e he => ?_) (fun a j q => ?_)
    · by_cases z : e = i
      · rw [z, up2_same, e51]
      · have hne : nth ts e ≠ nth ts i := fun w => z (nth_inj (by omega) (by omega) w)
        rw [up2_ne (by omega)]
        exact b1 e (by omega)
    · rw [up2_ne (by
        by_cases z : a = 20 + nth ts i
        · exact Or.inr (fun w => q ⟨w, i, by omega, z⟩)
        · exact Or.inl z)]
      exact b2 a j (fun w => q ⟨w.1, w.2.choose, by have := w.2.choose_spec; omega, w.2.choose_spec.2⟩)
theorem sp_F_seat {P : PP} {d n c : Nat} {FI A L : Nat → Nat → Int} {X : SX} {Q : Option AV → S2 → Prop} (hI : cI n FI A) (hc : FI 6 8 = (c : Int)) {fl ts : Int} (hfl : inR fl) (hts : inR ts) (no : ∀ k : Nat, 1 ≤ k ∧ k ≤ 6 → whyS (fun t => A (20 + t) 5) c fl ts 0 (-(k : Int)) → Q (some (vi (-(k : Int)))) (FI, rfC A k, L, X))(r3 : ∀ (f9 t9 : Nat) (FI' A' : Nat → Nat → Int), whyS (fun t => A (20 + t) 5) c fl ts 0 0 → fl = (f9 : Int) → ts = (t9 : Int) → HH n FI A c t9 f9 (pcR t9 16) (pcR f9 16) → SAME FI A FI' A' → BJ (fun w => FIT A c (plW A t9 f9 (pcR f9 16) (pcR t9 16) w)) (fun w => walkP A (plW A t9 f9 (pcR f9 16) (pcR t9 16) w) c) (fun w => chg A t9 f9 (pcR f9 16) (pcR t9 16) w) ((pcR f9 16) ^ (pcR t9 16)) (FI' 138 9) (FI' 138 10) (FI' 138 11) (fun b => ∀ i, i < (pcR t9 16) → A' 151 i = (nth f9 (dig (pcR f9 16) (pcR t9 16) b i) : Int)) → FI' 138 9 = 0 → Q (some (vi (-3))) (FI', rfC A' 3, L, X)) (ok : ∀ (f9 t9 : Nat) (FI' A' B : Nat → Nat → Int), whyS (fun t => A (20 + t) 5) c fl ts 0 0 → fl = (f9 : Int) → ts = (t9 : Int) → HH n FI A c t9 f9 (pcR t9 16) (pcR f9 16) → SAME FI A FI' A' → BJ (fun w => FIT A c (plW A t9 f9 (pcR f9 16) (pcR t9 16) w)) (fun w => walkP A (plW A t9 f9 (pcR f9 16) (pcR t9 16) w) c) (fun w => chg A t9 f9 (pcR f9 16) (pcR t9 16) w) ((pcR f9 16) ^ (pcR t9 16)) (FI' 138 9) (FI' 138 10) (FI' 138 11) (fun b => ∀ i, i < (pcR t9 16) → A' 151 i = (nth f9 (dig (pcR f9 16) (pcR t9 16) b i) : Int)) → FI' 138 9 = 1 → (∀ e, e < pcR t9 16 → B (20 + nth t9 e) 4 = A' 151 e) → (∀ a j, ¬ (j = 4 ∧ ∃ e, e < pcR t9 16 ∧ a = 20 + nth t9 e) → B a j = A' a j) → Q (some (vi (FI' 138 11))) (FI', B, L, X)) : WP2 P M_F_seat (d + 16) 0 [some (vr 5), some (vi fl), some (vi ts), none] [] (FI, A, L, X) Q := by
  refine WP_n 4 rfl ?_
  refine WP2_callV 3 ok_M_F_whyNoSeating rfl rfl rfl rfl rfl rfl (Nat.le_of_ble_eq_true rfl) (Nat.le_of_ble_eq_true rfl) rfl rfl ?_
  refine sp_whyNoSeating hI hc hfl hts ⟨by decide, by decide⟩ (fun r hr => ?_)
  rcases whyS_neg hr with h0 | ⟨k, hk, hk1⟩
  · subst h0
    obtain ⟨f9, t9, rfl, rfl, hw9, hh⟩ := whyS_0 hI hc hr
    refine WP_n 2 rfl ?_
    refine WP_ifeq rfl rfl ⟨by decide, by decide⟩  (fun h7 => ?_) (fun h7 => absurd (by decide) h7)
    refine WP_n 1 rfl ?_
    refine WP2_getf rfl rfl rfl rfl rfl ?_
    refine WP_n 2 rfl ?_
    refine WP2_callV 2 ok_M_S_search rfl rfl rfl rfl rfl rfl (Nat.le_of_ble_eq_true rfl) (Nat.le_of_ble_eq_true rfl) rfl rfl ?_
    refine sp_S_search hh (fun FI1 A1 hs h7 h139 hJ => ?_)
    have hz01 : FI1 138 9 = 0 ∨ FI1 138 9 = 1 := by
      rcases hJ with q | q
      · exact Or.inl q.1
      · exact Or.inr q.1
    refine WP_n 1 rfl ?_
    refine WP2_getf rfl rfl rfl rfl rfl ?_
    refine WP2_getf rfl rfl rfl rfl rfl ?_
    refine WP_ifne rfl rfl ⟨by omega, by omega⟩ (fun h20 => ?_) (fun h20 => ?_)
    · refine WP_n 1 rfl ?_
      refine WP2_getf rfl rfl rfl rfl rfl ?_
      refine WP2_callV 0 ok_M_S_takeBest rfl rfl rfl rfl rfl rfl (Nat.le_of_ble_eq_true rfl) (Nat.le_of_ble_eq_true rfl) rfl rfl ?_
      refine sp_takeBest hh.2.2.2.2.1 rfl h7 h139 (fun B b1 b2 => ?_)
      refine WP_n 1 rfl ?_
      refine WP2_getf rfl rfl rfl rfl rfl ?_
      refine WP2_getf rfl rfl rfl rfl rfl ?_
      exact WP_iret rfl rfl rfl ⟨_, rfl, ok f9 t9 FI1 A1 B hr rfl rfl hh hs hJ (by omega) b1 b2⟩
    · refine WP_n 2 rfl ?_
      refine WP2_callV 1 ok_M_F_refuse rfl rfl rfl rfl rfl rfl (Nat.le_of_ble_eq_true rfl) (Nat.le_of_ble_eq_true rfl) rfl rfl ?_
      refine sp_refuse (k := 3) rfl (by omega) ?_
      exact WP_iret rfl rfl rfl ⟨_, rfl, r3 f9 t9 FI1 A1 hr rfl rfl hh hs hJ (by omega)⟩
  · subst hk
    refine WP_n 2 rfl ?_
    refine WP_ifeq rfl rfl ⟨by omega, by omega⟩ (fun h7 => absurd h7 (by omega)) (fun h7 => ?_)
    refine WP_n 2 rfl ?_
    refine WP2_callV 1 ok_M_F_refuse rfl rfl rfl rfl rfl rfl (Nat.le_of_ble_eq_true rfl) (Nat.le_of_ble_eq_true rfl) rfl rfl ?_
    refine sp_refuse (k := k) rfl hk1 ?_
    exact WP_iret rfl rfl rfl ⟨_, rfl, no k hk1 hr⟩
theorem sp_G_seat {P : PP} {d n c : Nat} {FI A L : Nat → Nat → Int} {X : SX} {Q : Option AV → S2 → Prop} (hI : mI n FI A) (hc : FI 165 0 = (c : Int)) {fl ts : Int} (hfl : inR fl) (hts : inR ts) {FIg Ag : Nat → Nat → Int} (hX : whyS (A 178) c fl ts 0 0 → cI n FIg Ag ∧ FIg 6 8 = (c : Int) ∧ gX FI A FIg Ag) (no : ∀ k : Nat, 1 ≤ k ∧ k ≤ 6 → whyS (A 178) c fl ts 0 (-(k : Int)) → Q (some (vi (-(k : Int)))) (FI, rfG A k, L, X))(r3 : ∀ (f9 t9 : Nat) (z : Int) (FI' A' : Nat → Nat → Int), whyS (A 178) c fl ts 0 0 → fl = (f9 : Int) → ts = (t9 : Int) → HH n FIg Ag c t9 f9 (pcR t9 16) (pcR f9 16) → SAME FI A FI' A' → BJ (fun w => FIT Ag c (plW Ag t9 f9 (pcR f9 16) (pcR t9 16) w)) (fun w => walkP Ag (plW Ag t9 f9 (pcR f9 16) (pcR t9 16) w) c * FIg 6 9) (fun w => chg Ag t9 f9 (pcR f9 16) (pcR t9 16) w) ((pcR f9 16) ^ (pcR t9 16)) z (FI' 165 29) (FI' 165 30) (fun b => ∀ t, t < c → A' 187 t = plW Ag t9 f9 (pcR f9 16) (pcR t9 16) b t) → z = 0 → Q (some (vi (-3))) (FI', rfG A' 3, L, X)) (ok : ∀ (f9 t9 : Nat) (z : Int) (FI' A' B : Nat → Nat → Int), whyS (A 178) c fl ts 0 0 → fl = (f9 : Int) → ts = (t9 : Int) → HH n FIg Ag c t9 f9 (pcR t9 16) (pcR f9 16) → SAME FI A FI' A' → BJ (fun w => FIT Ag c (plW Ag t9 f9 (pcR f9 16) (pcR t9 16) w)) (fun w => walkP Ag (plW Ag t9 f9 (pcR f9 16) (pcR t9 16) w) c * FIg 6 9) (fun w => chg Ag t9 f9 (pcR f9 16) (pcR t9 16) w) ((pcR f9 16) ^ (pcR t9 16)) z (FI' 165 29) (FI' 165 30) (fun b => ∀ t, t < c → A' 187 t = plW Ag t9 f9 (pcR f9 16) (pcR t9 16) b t) → z = 1 → (∀ t, t < c → B 174 t = A' 187 t) → (∀ a j, ¬ (a = 174 ∧ j < c) → B a j = A' a j) → Q (some (vi (FI' 165 30))) (FI', B, L, X)) : WP2 P M_G_seat (d + 16) 0 [some (vr 165), some (vi fl), some (vi ts), none, none] [] (FI, A, L, X) Q := by
  refine WP_n 4 rfl ?_
  refine WP2_callV 3 ok_M_G_refuses rfl rfl rfl rfl rfl rfl (Nat.le_of_ble_eq_true rfl) (Nat.le_of_ble_eq_true rfl) rfl rfl ?_
  refine sp_G_refuses hI hc hfl hts ⟨by decide, by decide⟩ (fun r hr => ?_)
  rcases whyS_neg hr with h0 | ⟨k, hk, hk1⟩
  · subst h0
    obtain ⟨hIc, hcc, hG⟩ := hX hr
    obtain ⟨f9, t9, rfl, rfl, hw9, hh⟩ := whyS_0 hIc hcc hr
    refine WP_n 2 rfl ?_
    refine WP_ifeq rfl rfl ⟨by decide, by decide⟩  (fun h7 => ?_) (fun h7 => absurd (by decide) h7)
    refine WP_n 3 rfl ?_
    refine WP2_callV 2 ok_M_G_seats rfl rfl rfl rfl rfl rfl (Nat.le_of_ble_eq_true rfl) (Nat.le_of_ble_eq_true rfl) rfl rfl ?_
    refine sp_G_seats hh hG (fun z FI1 A1 hs hJ => ?_)
    have hz01 : z = 0 ∨ z = 1 := by
      rcases hJ with q | q
      · exact Or.inl q.1
      · exact Or.inr q.1
    refine WP_ifne rfl rfl ⟨by omega, by omega⟩ (fun h16 => ?_) (fun h16 => ?_)
    · refine WP_n 2 rfl ?_
      have hc1 : FI1 165 0 = (c : Int) := hs.1.2.2.1.trans hc
      have hc16 := hh.c
      suffices hw : ∀ t, t ≤ c → ∀ B : Nat → Nat → Int, (∀ u, u < t → B 174 u = A1 187 u) → (∀ a j, ¬ (a = 174 ∧ j < t) → B a j = A1 a j) → WP2 P M_G_seat (d + 16) 23 [some (vr 165), some (vi (f9 : Int)), some (vi (t9 : Int)), some (vi 0), some (vi (t : Int))] [] (FI1, B, L, X) Q from hw 0 (by omega) A1 (fun u hu => absurd hu (by omega)) (fun _ _ _ => rfl)
      refine up_to (P := fun t => ∀ B : Nat → Nat → Int, (∀ u, u < t → B 174 u = A1 187 u) → (∀ a j, ¬ (a = 174 ∧ j < t) → B a j = A1 a j) → WP2 P M_G_seat (d + 16) 23 [some (vr 165), some (vi (f9 : Int)), some (vi (t9 : Int)), some (vi 0), some (vi (t : Int))] [] (FI1, B, L, X) Q) c ?_ ?_
      · intro B b1 b2
        refine WP_n 2 rfl ?_
        refine WP2_getf rfl rfl rfl rfl rfl ?_
        refine WP_icmpge rfl rfl ⟨by omega, by omega⟩ ⟨by omega, by omega⟩ (fun h26 => ?_) (fun h26 => absurd h26 (by omega))
        refine WP_n 1 rfl ?_
        refine WP2_getf rfl rfl rfl rfl rfl ?_
        exact WP_iret rfl rfl rfl ⟨_, rfl, ok f9 t9 z FI1 A1 B hr rfl rfl hh hs hJ (by omega) b1 b2⟩
      · intro t ht ih B b1 b2
        have e87 : B 187 t = A1 187 t := b2 187 t (by omega)
        refine WP_n 2 rfl ?_
        refine WP2_getf rfl rfl rfl rfl rfl ?_
        refine WP_icmpge rfl rfl ⟨by omega, by omega⟩ ⟨by omega, by omega⟩ (fun h26 => absurd h26 (by omega)) (fun h26 => ?_)
        refine WP_n 1 rfl ?_
        refine WP2_getf rfl rfl rfl rfl rfl ?_
        refine WP_n 2 rfl ?_
        refine WP2_getf rfl rfl rfl rfl rfl ?_
        refine WP_n 1 rfl ?_
        refine WP2_iald (j := t) rfl rfl (ia_lit (n := 16) rfl rfl (by omega)) (by omega) (by omega) (by omega) ?_
        refine WP2_iast (j := t) rfl rfl (ia_lit (n := 16) rfl rfl (by omega)) (by omega) (by omega) (by omega) ?_
        refine WP_n 2 rfl ?_
        refine ih _ (fun u hu => ?_) (fun a j q => ?_)
        · by_cases w : u = t
          · rw [w, up2_same, e87]
          · rw [up2_ne (by omega)]
            exact b1 u (by omega)
        · rw [up2_ne (by omega)]
          exact b2 a j (by omega)
    · refine WP_n 2 rfl ?_
      refine WP2_callV 1 ok_M_G_no rfl rfl rfl rfl rfl rfl (Nat.le_of_ble_eq_true rfl) (Nat.le_of_ble_eq_true rfl) rfl rfl ?_
      refine sp_no (k := 3) rfl (by omega) ?_
      exact WP_iret rfl rfl rfl ⟨_, rfl, r3 f9 t9 z FI1 A1 hr rfl rfl hh hs hJ (by omega)⟩
  · subst hk
    refine WP_n 2 rfl ?_
    refine WP_ifeq rfl rfl ⟨by omega, by omega⟩ (fun h7 => absurd h7 (by omega)) (fun h7 => ?_)
    refine WP_n 2 rfl ?_
    refine WP2_callV 1 ok_M_G_no rfl rfl rfl rfl rfl rfl (Nat.le_of_ble_eq_true rfl) (Nat.le_of_ble_eq_true rfl) rfl rfl ?_
    refine sp_no (k := k) rfl hk1 ?_
    exact WP_iret rfl rfl rfl ⟨_, rfl, no k hk1 hr⟩
theorem SAME.refG {FI A FI' A' : Nat → Nat → Int} (h : SAME FI A FI' A') {k : Nat} : SAME FI (rfG A k) FI' (rfG A' k) := by
  refine ⟨h.1, ?_, fun a j q => ?_⟩
  · have e1 : rfG A' k 163 11 = A' 163 11 := up2_ne (by omega)
    have e2 : rfG A k 163 11 = A 163 11 := up2_ne (by omega)
    rw [e1, e2]
    exact h.2.1
  · by_cases e : a = 185 ∧ j = k
    · obtain ⟨rfl, rfl⟩ := e
      have e1 : rfG A' j 185 j = A' 185 j + 1 := up2_same
      have e2 : rfG A j 185 j = A 185 j + 1 := up2_same
      rw [e1, e2, h.2.2 185 j q]
    · have e1 : rfG A' k a j = A' a j := up2_ne (by omega)
      have e2 : rfG A k a j = A a j := up2_ne (by omega)
      rw [e1, e2]
      exact h.2.2 a j q

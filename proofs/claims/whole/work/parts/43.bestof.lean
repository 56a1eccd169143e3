/-! bestOf: both sides -/
theorem sp_bestFloorOf {P : PP} {d : Nat} {FI A L : Nat → Nat → Int} {X : SX} {Q : Option AV → S2 → Prop} {ts nn : Nat} (hn7 : nn ≤ 7) (hnt : nn = pcR ts 16) (h7 : FI 138 7 = (nn : Int)) (h139 : ∀ i, i < nn → A 139 i = (nth ts i : Int)) {T : Nat} (hT : T < 16) (hb : ts.testBit T = true) (hq : Q (some (vi (A 151 (pcR ts T)))) (FI, A, L, X)) : WP2 P M_S_bestFloorOf (d) 0 [some (vr 138), some (vi (T : Int)), none] [] (FI, A, L, X) Q := by
  have hl := pcR_lt hb hT
  have hx := nth_ix hT hb
  refine WP_n 2 rfl ?_
  suffices hh : ∀ i, i ≤ nn → i ≤ pcR ts T → WP2 P M_S_bestFloorOf d 2 [some (vr 138), some (vi (T : Int)), some (vi (i : Int))] [] (FI, A, L, X) Q from hh 0 (by omega) (by omega)
  refine up_to (P := fun i => i ≤ pcR ts T → WP2 P M_S_bestFloorOf d 2 [some (vr 138), some (vi (T : Int)), some (vi (i : Int))] [] (FI, A, L, X) Q) nn ?_ ?_
  · intro q
    exfalso
    omega
  · intro i hi ih hle
    have e := h139 i hi
    have hok := nth_ok (s := ts) (i := i) (by omega)
    refine WP_n 2 rfl ?_
    refine WP2_getf rfl rfl rfl rfl rfl ?_
    refine WP_icmpge rfl rfl ⟨by omega, by omega⟩ ⟨by omega, by omega⟩ (fun h5 => absurd h5 (by omega)) (fun h5 => ?_)
    refine WP_n 1 rfl ?_
    refine WP2_getf rfl rfl rfl rfl rfl ?_
    refine WP_n 1 rfl ?_
    refine WP2_iald (j := i) rfl rfl (ia_lit (n := 7) rfl rfl (by omega)) (by omega) (by omega) (by omega) ?_
    refine WP_n 1 rfl ?_
    refine WP_icmpne rfl rfl ⟨by omega, by omega⟩ ⟨by omega, by omega⟩ (fun h11 => ?_) (fun h11 => ?_)
    · refine WP_n 2 rfl ?_
      refine ih ?_
      have : i ≠ pcR ts T := fun q => by
        have e2 : nth ts i = T := by rw [q]; exact hx
        omega
      omega
    · refine WP_n 1 rfl ?_
      refine WP2_getf rfl rfl rfl rfl rfl ?_
      refine WP_n 1 rfl ?_
      refine WP2_iald (j := i) rfl rfl (ia_lit (n := 7) rfl rfl (by omega)) (by omega) (by omega) (by omega) ?_
      exact WP_iret rfl rfl rfl ⟨_, rfl, (by
        have : nth ts i = T := by omega
        rw [this] at hok
        rw [hok.2.1] at hq
        exact hq)⟩
theorem sp_F_bestOf {P : PP} {d n c : Nat} {FI A L : Nat → Nat → Int} {X : SX} {Q : Option AV → S2 → Prop} (hI : cI n FI A) (hc : FI 6 8 = (c : Int)) {fl ts t : Int} (hfl : inR fl) (hts : inR ts) (ht : inR t) (no : ∀ k : Nat, 1 ≤ k ∧ k ≤ 6 → whyS (fun t => A (20 + t) 5) c fl ts 0 (-(k : Int)) → Q (some (vi (-(k : Int)))) (FI, rfC A k, L, X)) (r1 : ∀ t9 : Nat, whyS (fun t => A (20 + t) 5) c fl ts 0 0 → ts = (t9 : Int) → ¬ (∃ T : Nat, t = (T : Int) ∧ T < c ∧ t9.testBit T = true) → Q (some (vi (-1))) (FI, rfC A 1, L, X)) (ok : ∀ (f9 t9 T : Nat) (r : Int) (FI' A' : Nat → Nat → Int), whyS (fun t => A (20 + t) 5) c fl ts 0 0 → fl = (f9 : Int) → ts = (t9 : Int) → t = (T : Int) → T < c ∧ t9.testBit T = true → HH n FI A c t9 f9 (pcR t9 16) (pcR f9 16) → SAME FI A FI' A' → BJ (fun w => FIT A c (plW A t9 f9 (pcR f9 16) (pcR t9 16) w)) (fun w => walkP A (plW A t9 f9 (pcR f9 16) (pcR t9 16) w) c) (fun w => chg A t9 f9 (pcR f9 16) (pcR t9 16) w) ((pcR f9 16) ^ (pcR t9 16)) (FI' 138 9) (FI' 138 10) (FI' 138 11) (fun b => ∀ i, i < (pcR t9 16) → A' 151 i = (nth f9 (dig (pcR f9 16) (pcR t9 16) b i) : Int)) → ((FI' 138 9 = 0 ∧ r = -9) ∨ (FI' 138 9 = 1 ∧ r = A' 151 (pcR t9 T))) → Q (some (vi r)) (FI', A', L, X)) : WP2 P M_F_bestOf (d + 16) 0 [some (vr 5), some (vi fl), some (vi ts), some (vi t), none] [] (FI, A, L, X) Q := by
  refine WP_n 4 rfl ?_
  refine WP2_callV 3 ok_M_F_whyNoSeating rfl rfl rfl rfl rfl rfl (Nat.le_of_ble_eq_true rfl) (Nat.le_of_ble_eq_true rfl) rfl rfl ?_
  refine sp_whyNoSeating hI hc hfl hts ⟨by decide, by decide⟩ (fun r hr => ?_)
  rcases whyS_neg hr with h0 | ⟨k, hk, hk1⟩
  · subst h0
    obtain ⟨f9, t9, rfl, rfl, hw9, hh⟩ := whyS_0 hI hc hr
    have hcx := hh.c
    have hp16 : 2 ^ c ≤ 2 ^ 16 := Nat.pow_le_pow_right (by omega) hcx
    have ht9 := hh.2.2.1
    have hcI := hI.1
    refine WP_n 2 rfl ?_
    refine WP_ifeq rfl rfl ⟨by decide, by decide⟩  (fun h7 => ?_) (fun h7 => absurd (by decide) h7)
    refine WP_n 2 rfl ?_
    refine WP2_callV 1 ok_M_F_noTeam rfl rfl rfl rfl rfl rfl (Nat.le_of_ble_eq_true rfl) (Nat.le_of_ble_eq_true rfl) rfl rfl ?_
    refine sp_noTeam ht ⟨by omega, by omega⟩ (fun hTt => ?_) (fun hTt hTtb => ?_)
    · refine WP_ifne rfl rfl ⟨by decide, by decide⟩  (fun h15 => ?_) (fun h15 => absurd (by decide) h15)
      refine WP_n 2 rfl ?_
      refine WP2_callV 1 ok_M_F_refuse rfl rfl rfl rfl rfl rfl (Nat.le_of_ble_eq_true rfl) (Nat.le_of_ble_eq_true rfl) rfl rfl ?_
      refine sp_refuse (k := 1) rfl (by omega) ?_
      exact WP_iret rfl rfl rfl ⟨_, rfl, r1 t9 hr rfl (fun ⟨T, q⟩ => by omega)⟩
    · refine WP_ifne rfl rfl ⟨by decide, by decide⟩  (fun h15 => absurd h15 (by decide)) (fun h15 => ?_)
      obtain ⟨T, rfl⟩ : ∃ T : Nat, t = (T : Int) := ⟨t.toNat, by omega⟩
      refine WP_n 2 rfl ?_
      refine WP2_callS 2 ok_M_F_holds rfl rfl rfl rfl rfl rfl rfl (Nat.le_of_ble_eq_true rfl) (Nat.le_of_ble_eq_true rfl) ?_
      refine sp_holds (by omega) (by omega) (fun hB => ?_) (fun hB => ?_)
      · refine WP_ifne rfl rfl ⟨by decide, by decide⟩  (fun h19 => ?_) (fun h19 => absurd (by decide) h19)
        refine WP_n 1 rfl ?_
        refine WP2_getf rfl rfl rfl rfl rfl ?_
        refine WP_n 2 rfl ?_
        refine WP2_callV 2 ok_M_S_search rfl rfl rfl rfl rfl rfl (Nat.le_of_ble_eq_true rfl) (Nat.le_of_ble_eq_true rfl) rfl rfl ?_
        refine sp_S_search hh (fun FI1 A1 hs h7 h139 hJ => ?_)
        have hz01 : FI1 138 9 = 0 ∨ FI1 138 9 = 1 := by
          rcases hJ with q | q
          · exact Or.inl q.1
          · exact Or.inr q.1
        refine WP_n 1 rfl ?_
        refine WP2_getf rfl rfl rfl rfl rfl ?_
        refine WP2_getf rfl rfl rfl rfl rfl ?_
        refine WP_ifeq rfl rfl ⟨by omega, by omega⟩ (fun h32 => ?_) (fun h32 => ?_)
        · refine WP_n 1 rfl ?_
          exact WP_iret rfl rfl rfl ⟨_, rfl, ok f9 t9 T _ FI1 A1 hr rfl rfl rfl ⟨by omega, hB⟩ hh hs hJ (Or.inl ⟨by omega, rfl⟩)⟩
        · refine WP_n 1 rfl ?_
          refine WP2_getf rfl rfl rfl rfl rfl ?_
          refine WP_n 1 rfl ?_
          refine WP2_callV 1 ok_M_S_bestFloorOf rfl rfl rfl rfl rfl rfl (Nat.le_of_ble_eq_true rfl) (Nat.le_of_ble_eq_true rfl) rfl rfl ?_
          refine sp_bestFloorOf hh.2.2.2.2.1 rfl h7 h139 (by omega) hB ?_
          refine WP_n 1 rfl ?_
          exact WP_iret rfl rfl rfl ⟨_, rfl, ok f9 t9 T _ FI1 A1 hr rfl rfl rfl ⟨by omega, hB⟩ hh hs hJ (Or.inr ⟨by omega, rfl⟩)⟩
      · refine WP_ifne rfl rfl ⟨by decide, by decide⟩  (fun h19 => absurd h19 (by decide)) (fun h19 => ?_)
        refine WP_n 2 rfl ?_
        refine WP2_callV 1 ok_M_F_refuse rfl rfl rfl rfl rfl rfl (Nat.le_of_ble_eq_true rfl) (Nat.le_of_ble_eq_true rfl) rfl rfl ?_
        refine sp_refuse (k := 1) rfl (by omega) ?_
        exact WP_iret rfl rfl rfl ⟨_, rfl, r1 t9 hr rfl (fun ⟨T', q⟩ => by obtain rfl : T = T' := (by omega); rw [hB] at q; exact absurd q.2.2 (by decide))⟩
  · subst hk
    refine WP_n 2 rfl ?_
    refine WP_ifeq rfl rfl ⟨by omega, by omega⟩ (fun h7 => absurd h7 (by omega)) (fun h7 => ?_)
    refine WP_n 2 rfl ?_
    refine WP2_callV 1 ok_M_F_refuse rfl rfl rfl rfl rfl rfl (Nat.le_of_ble_eq_true rfl) (Nat.le_of_ble_eq_true rfl) rfl rfl ?_
    refine sp_refuse (k := k) rfl hk1 ?_
    exact WP_iret rfl rfl rfl ⟨_, rfl, no k hk1 hr⟩
theorem sp_G_bestOf {P : PP} {d n c : Nat} {FI A L : Nat → Nat → Int} {X : SX} {Q : Option AV → S2 → Prop} (hI : mI n FI A) (hc : FI 165 0 = (c : Int)) {fl ts t : Int} (hfl : inR fl) (hts : inR ts) (ht : inR t) {FIg Ag : Nat → Nat → Int} (hX : whyS (A 178) c fl ts 0 0 → cI n FIg Ag ∧ FIg 6 8 = (c : Int) ∧ gX FI A FIg Ag) (no : ∀ k : Nat, 1 ≤ k ∧ k ≤ 6 → whyS (A 178) c fl ts 0 (-(k : Int)) → Q (some (vi (-(k : Int)))) (FI, rfG A k, L, X)) (r1 : ∀ t9 : Nat, whyS (A 178) c fl ts 0 0 → ts = (t9 : Int) → ¬ (∃ T : Nat, t = (T : Int) ∧ T < c ∧ t9.testBit T = true) → Q (some (vi (-1))) (FI, rfG A 1, L, X)) (ok : ∀ (f9 t9 T : Nat) (r z : Int) (FI' A' : Nat → Nat → Int), whyS (A 178) c fl ts 0 0 → fl = (f9 : Int) → ts = (t9 : Int) → t = (T : Int) → T < c ∧ t9.testBit T = true → HH n FIg Ag c t9 f9 (pcR t9 16) (pcR f9 16) → SAME FI A FI' A' → BJ (fun w => FIT Ag c (plW Ag t9 f9 (pcR f9 16) (pcR t9 16) w)) (fun w => walkP Ag (plW Ag t9 f9 (pcR f9 16) (pcR t9 16) w) c * FIg 6 9) (fun w => chg Ag t9 f9 (pcR f9 16) (pcR t9 16) w) ((pcR f9 16) ^ (pcR t9 16)) z (FI' 165 29) (FI' 165 30) (fun b => ∀ t, t < c → A' 187 t = plW Ag t9 f9 (pcR f9 16) (pcR t9 16) b t) → ((z = 0 ∧ r = -9) ∨ (z = 1 ∧ r = A' 187 T)) → Q (some (vi r)) (FI', A', L, X)) : WP2 P M_G_bestOf (d + 16) 0 [some (vr 165), some (vi fl), some (vi ts), some (vi t), none] [] (FI, A, L, X) Q := by
  have hcI := hI.2.1
  refine WP_n 4 rfl ?_
  refine WP2_callV 3 ok_M_G_refuses rfl rfl rfl rfl rfl rfl (Nat.le_of_ble_eq_true rfl) (Nat.le_of_ble_eq_true rfl) rfl rfl ?_
  refine sp_G_refuses hI hc hfl hts ⟨by decide, by decide⟩ (fun r hr => ?_)
  rcases whyS_neg hr with h0 | ⟨k, hk, hk1⟩
  · subst h0
    obtain ⟨hIc, hcc, hG⟩ := hX hr
    obtain ⟨f9, t9, rfl, rfl, hw9, hh⟩ := whyS_0 hIc hcc hr
    have hcx := hh.c
    have hp16 : 2 ^ c ≤ 2 ^ 16 := Nat.pow_le_pow_right (by omega) hcx
    have ht9 := hh.2.2.1
    refine WP_n 2 rfl ?_
    refine WP_ifeq rfl rfl ⟨by decide, by decide⟩  (fun h7 => ?_) (fun h7 => absurd (by decide) h7)
    refine WP_n 2 rfl ?_
    refine WP2_callV 1 ok_M_G_isTeam rfl rfl rfl rfl rfl rfl (Nat.le_of_ble_eq_true rfl) (Nat.le_of_ble_eq_true rfl) rfl rfl ?_
    refine sp_isTeam ht ⟨by omega, by omega⟩ (fun hTt => ?_) (fun hTt hTtb => ?_)
    · refine WP_ifeq rfl rfl ⟨by decide, by decide⟩  (fun h15 => ?_) (fun h15 => absurd (by decide) h15)
      refine WP_n 2 rfl ?_
      refine WP2_callV 1 ok_M_G_no rfl rfl rfl rfl rfl rfl (Nat.le_of_ble_eq_true rfl) (Nat.le_of_ble_eq_true rfl) rfl rfl ?_
      refine sp_no (k := 1) rfl (by omega) ?_
      exact WP_iret rfl rfl rfl ⟨_, rfl, r1 t9 hr rfl (fun ⟨T, q⟩ => by omega)⟩
    · refine WP_ifeq rfl rfl ⟨by decide, by decide⟩  (fun h15 => absurd h15 (by decide)) (fun h15 => ?_)
      obtain ⟨T, rfl⟩ : ∃ T : Nat, t = (T : Int) := ⟨t.toNat, by omega⟩
      refine WP_n 5 rfl ?_
      rw [iBit (by omega) (by omega)]
      have hbl := bitN_le t9 T
      refine WP_ifne rfl rfl ⟨by omega, by omega⟩ (fun h21 => ?_) (fun h21 => ?_)
      · have hB : t9.testBit T = true := by
          cases hb : t9.testBit T
          · rw [bitN_0 hb] at h21
            exact absurd rfl h21
          · rfl
        refine WP_n 3 rfl ?_
        refine WP2_callV 2 ok_M_G_seats rfl rfl rfl rfl rfl rfl (Nat.le_of_ble_eq_true rfl) (Nat.le_of_ble_eq_true rfl) rfl rfl ?_
        refine sp_G_seats hh hG (fun z FI1 A1 hs hJ => ?_)
        have hz01 : z = 0 ∨ z = 1 := by
          rcases hJ with q | q
          · exact Or.inl q.1
          · exact Or.inr q.1
        refine WP_ifeq rfl rfl ⟨by omega, by omega⟩ (fun h30 => ?_) (fun h30 => ?_)
        · refine WP_n 1 rfl ?_
          exact WP_iret rfl rfl rfl ⟨_, rfl, ok f9 t9 T _ z FI1 A1 hr rfl rfl rfl ⟨by omega, hB⟩ hh hs hJ (Or.inl ⟨by omega, rfl⟩)⟩
        · refine WP_n 1 rfl ?_
          refine WP2_getf rfl rfl rfl rfl rfl ?_
          refine WP_n 1 rfl ?_
          refine WP2_iald (j := T) rfl rfl (ia_lit (n := 16) rfl rfl (by omega)) (by omega) (by omega) (by omega) ?_
          refine WP_n 1 rfl ?_
          exact WP_iret rfl rfl rfl ⟨_, rfl, ok f9 t9 T _ z FI1 A1 hr rfl rfl rfl ⟨by omega, hB⟩ hh hs hJ (Or.inr ⟨by omega, rfl⟩)⟩
      · refine WP_n 2 rfl ?_
        refine WP2_callV 1 ok_M_G_no rfl rfl rfl rfl rfl rfl (Nat.le_of_ble_eq_true rfl) (Nat.le_of_ble_eq_true rfl) rfl rfl ?_
        refine sp_no (k := 1) rfl (by omega) ?_
        exact WP_iret rfl rfl rfl ⟨_, rfl, r1 t9 hr rfl (fun ⟨T', q⟩ => by obtain rfl : T = T' := (by omega); rw [bitN_1 q.2.2] at h21; exact h21 (by decide))⟩
  · subst hk
    refine WP_n 2 rfl ?_
    refine WP_ifeq rfl rfl ⟨by omega, by omega⟩ (fun h7 => absurd h7 (by omega)) (fun h7 => ?_)
    refine WP_n 2 rfl ?_
    refine WP2_callV 1 ok_M_G_no rfl rfl rfl rfl rfl rfl (Nat.le_of_ble_eq_true rfl) (Nat.le_of_ble_eq_true rfl) rfl rfl ?_
    refine sp_no (k := k) rfl hk1 ?_
    exact WP_iret rfl rfl rfl ⟨_, rfl, no k hk1 hr⟩
theorem mI.succ {n : Nat} {FI A : Nat → Nat → Int} (h : mI n FI A) (hn : n < 512) : mI (n + 1) FI A := by
  obtain ⟨h0, h1, h2, h3, h4, h5, h6, h7⟩ := h
  refine ⟨by omega, h1, h2, h3, fun t ht => ?_, h5, h6, fun k hk => ?_⟩
  · have := h4 t ht
    unfold mTm at *
    omega
  · have := h7 k hk
    omega
theorem pr_bestOf {P : PP} {n : Nat} {FI A L : Nat → Nat → Int} {X : SX} (h : INV P n FI A X) (hn : n < 512) {fl ts t : Int} (hfl : inR fl) (hts : inR ts) (ht : inR t) : PAIR P n (FI, A, L, X) M_F_bestOf [some (vr 5), some (vi fl), some (vi ts), some (vi t), none] M_G_bestOf [some (vr 165), some (vi fl), some (vi ts), some (vi t), none] := by
  intro d
  have hm := h.mI
  have hn5 := h.1
  have hcI := h.2.1
  have hG := h.2.2.1
  have hk1 := hcI.1
  have g1 := hG.1
  obtain ⟨c, hc⟩ : ∃ c : Nat, FI 6 8 = (c : Int) := ⟨(FI 6 8).toNat, by omega⟩
  have hc2 : FI 165 0 = (c : Int) := by rw [g1]; exact hc
  have efx : ∀ t, t < c → A 178 t = A (20 + t) 5 := fun t ht => (hG.2.2.2.1 t (by omega)).2.2.2
  have efr : ∀ k t, t < c → rfC A k 178 t = A (20 + t) 5 := fun k t ht => by
    have e : rfC A k 178 t = A 178 t := up2_ne (by omega)
    rw [e]; exact efx t ht
  refine sp_F_bestOf hcI hc hfl hts ht (fun k hk hy => ?_) (fun t9 hy e2 hnt => ?_) (fun f9 t9 T r FI1 A1 hy e1 e2 e3 hT hh hs hJ hr => ?_)
  · refine ⟨_, rfl, ?_⟩
    refine sp_G_bestOf (FIg := FI) (Ag := A) (hm.up (by omega)) hc2 hfl hts ht (fun q => ?_) (fun k' hk' hy' => ?_) (fun t9' hy' e2' hnt' => ?_) (fun f9 t9 T r z FI2 A2 hy' e1' e2' e3' hT' hh' hs' hJ' hr' => ?_)
    · have := whyS_uniq (efr k) hy q
      omega
    · have := whyS_uniq (efr k) hy hy'
      obtain rfl : k' = k := by omega
      exact ⟨rfl, INV_ref h hn (by omega)⟩
    · have := whyS_uniq (efr k) hy hy'
      omega
    · have := whyS_uniq (efr k) hy hy'
      omega
  · refine ⟨_, rfl, ?_⟩
    refine sp_G_bestOf (FIg := FI) (Ag := A) (hm.up (by omega)) hc2 hfl hts ht (fun q => ⟨hcI, hc, hG.x.off ⟨rfl, rfl⟩ (fun a j q => up2_ne (by omega))⟩) (fun k' hk' hy' => ?_) (fun t9' hy' e2' hnt' => ?_) (fun f9 t9' T r z FI2 A2 hy' e1' e2' e3' hT' hh' hs' hJ' hr' => ?_)
    · have := whyS_uniq (efr 1) hy hy'
      omega
    · exact ⟨rfl, INV_ref h hn (by omega)⟩
    · obtain rfl : t9' = t9 := by omega
      exact absurd ⟨T, e3', hT'⟩ hnt
  · refine ⟨_, rfl, ?_⟩
    have h' := h.off hs
    have ef : ∀ t, t < c → A1 178 t = A (20 + t) 5 := fun t ht => by rw [hs.2.2 178 t (by omega)]; exact efx t ht
    refine sp_G_bestOf (FIg := FI) (Ag := A) h'.mI (hs.1.2.2.1.trans hc2) hfl hts ht (fun q => ⟨hcI, hc, hG.x.off ⟨hs.1.2.2.1, hs.1.2.2.2⟩ (fun a j q => hs.2.2 a j (by omega))⟩) (fun k' hk' hy' => ?_) (fun t9' hy' e2' hnt' => ?_) (fun f9' t9' T' r' z FI2 A2 hy' e1' e2' e3' hT' hh' hs' hJ' hr' => ?_)
    · have := whyS_uniq ef hy hy'
      omega
    · obtain rfl : t9' = t9 := by omega
      exact absurd ⟨T, e3, hT⟩ hnt'
    · obtain rfl : f9' = f9 := by omega
      obtain rfl : t9' = t9 := by omega
      obtain rfl : T' = T := by omega
      have hl := hcI.2.1
      have u := BJ.uniq (hJ.scale (l := FI 6 9) hl.1) hJ'
      refine ⟨congrArg (fun z => some (vi z)) ?_, (h'.off hs').next hn⟩
      rcases u with ⟨u1, u2⟩ | ⟨u1, u2, u3, u4, b, u5, u6, u7, u8, u9⟩
      · omega
      · have hx := hh.idx (by have := hh.c; omega) hT.2
        have a1 := u8 (pcR t9' T') hx.1
        have a2 := u9 T' hT.1
        unfold plW at a2
        rw [if_pos hT.2, if_pos hx.1] at a2
        omega

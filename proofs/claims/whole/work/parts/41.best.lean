/-! best, bestOf, seat: both sides -/
theorem pcR_pos {s : Nat} (h0 : 1 ≤ s) (h : s < 2 ^ 16) : 0 < pcR s 16 := by
  refine Nat.pos_of_ne_zero (fun q => ?_)
  have : s = 0 := by
    apply Nat.eq_of_testBit_eq
    intro t
    rw [Nat.zero_testBit]
    by_cases ht : t < 16
    · cases hb : s.testBit t
      · rfl
      · have := pcR_lt hb ht
        omega
    · exact tb_lt h (by omega)
  omega
theorem whyS_neg {fx : Nat → Int} {c : Nat} {fl ts w r : Int} (h : whyS fx c fl ts w r) : r = 0 ∨ ∃ k : Nat, r = -(k : Int) ∧ 1 ≤ k ∧ k ≤ 6 := by
  rcases h with ⟨h, _⟩ | ⟨f9, t9, _, ⟨h, _⟩ | ⟨_, ⟨h, _⟩ | ⟨_, ⟨h, _⟩ | ⟨h, _⟩⟩⟩⟩
  · exact Or.inr ⟨1, by omega, by omega, by omega⟩
  · exact Or.inr ⟨2, by omega, by omega, by omega⟩
  · exact Or.inr ⟨3, by omega, by omega, by omega⟩
  · exact Or.inr ⟨6, by omega, by omega, by omega⟩
  · exact Or.inl h
theorem whyS_0 {n : Nat} {FI A : Nat → Nat → Int} (hI : cI n FI A) {c : Nat} (hc : FI 6 8 = (c : Int)) {fx : Nat → Int} {fl ts w : Int} (h : whyS fx c fl ts w 0) : ∃ f9 t9 : Nat, fl = (f9 : Int) ∧ ts = (t9 : Int) ∧ (0 ≤ w ∧ w ≤ 1) ∧ HH n FI A c t9 f9 (pcR t9 16) (pcR f9 16) := by
  have hcc := hI.1
  rcases h with ⟨h, _⟩ | ⟨f9, t9, h1, ⟨h, _⟩ | ⟨hw, ⟨h, _⟩ | ⟨_, ⟨h, _⟩ | ⟨h, h2, h3⟩⟩⟩⟩
  · omega
  · omega
  · omega
  · omega
  · rw [cnt_pcR] at h2 h3
    exact ⟨f9, t9, h1.1, h1.2.1, hw, hI, hc, h1.2.2.2.2.2, rfl, by omega, h1.2.2.2.1, rfl, by omega, pcR_pos h1.2.2.1 (by omega)⟩
theorem INV_pt {P : PP} {n : Nat} {FI A FI' A' : Nat → Nat → Int} {X : SX} (h : INV P n FI A X) (hn : n < 512) {c : Nat} (hc : FI 6 8 = (c : Int)) (pv tv : Nat → Int) (hp : ∀ t, t < c → (pv t = -9 ∨ (0 ≤ pv t ∧ pv t < 11)) ∧ (tv t = -9 ∨ (0 ≤ tv t ∧ tv t < 11))) (hf : FI' 6 8 = FI 6 8 ∧ FI' 6 9 = FI 6 9 ∧ FI' 165 0 = FI 165 0 ∧ FI' 165 1 = FI 165 1) (h63 : A' 163 11 = A 163 11) (ho : ∀ a j, (a ≤ 137 ∨ (164 ≤ a ∧ a ≤ 185)) → ¬ (20 ≤ a ∧ a < 36 ∧ (j = 4 ∨ j = 6)) → a ≠ 174 ∧ a ≠ 175 → A' a j = A a j) (h1 : ∀ t, t < c → A' (20 + t) 4 = pv t ∧ A' (20 + t) 6 = tv t) (h2 : ∀ t, c ≤ t → t < 16 → A' (20 + t) 4 = A (20 + t) 4 ∧ A' (20 + t) 6 = A (20 + t) 6) (h3 : ∀ t, t < c → A' 174 t = pv t ∧ A' 175 t = tv t) : INV P (n + 1) FI' A' X := by
  obtain ⟨h0, ⟨k1, k2, k3, k4, k5, k6, k7⟩, ⟨g1, g2, g3, g4, g5, g6, g7⟩, hx⟩ := h
  obtain ⟨s1, s2, s3, s4⟩ := hf
  refine ⟨hn, ⟨by rw [s1]; exact k1, by rw [s2]; exact k2, fun f hf => ?_, fun t ht => ?_, fun a b ha hb => ?_, fun t p ht hp9 => ?_, fun j hj => ?_⟩, ⟨by rw [s1, s3]; exact g1, by rw [s2, s4]; exact g2, fun f hf => ?_, fun t ht => ?_, fun a b ha hb => ?_, fun t p ht hp9 => ?_, fun j hj => ?_⟩, hx⟩
  · have := k3 f hf
    unfold cFl at *
    simp (disch := omega) only [ho]
    exact this
  · have q := k4 t ht
    rw [s1]
    have o0 := ho (20 + t) 0 (by omega) (by omega) (by omega)
    have o1 := ho (20 + t) 1 (by omega) (by omega) (by omega)
    have o2 := ho (20 + t) 2 (by omega) (by omega) (by omega)
    have o3 := ho (20 + t) 3 (by omega) (by omega) (by omega)
    have o5 := ho (20 + t) 5 (by omega) (by omega) (by omega)
    have o7 := ho (20 + t) 7 (by omega) (by omega) (by omega)
    have o8 := ho (20 + t) 8 (by omega) (by omega) (by omega)
    unfold cTm at *
    by_cases e : t < c
    · have a1 := h1 t e
      have a2 := hp t e
      omega
    · have a1 := h2 t (by omega) ht
      omega
  · have := k5 a b ha hb
    unfold cTw at *
    simp (disch := omega) only [ho]
    exact this
  · have := k6 t p ht hp9
    unfold cPp at *
    simp (disch := omega) only [ho]
    exact this
  · have := k7 j hj
    have := ho 164 j (by omega) (by omega) (by omega)
    omega
  · have := g3 f hf
    unfold gFl at *
    simp (disch := omega) only [ho]
    exact this
  · have q := g4 t ht
    rw [s1]
    have o0 := ho (20 + t) 0 (by omega) (by omega) (by omega)
    have o1 := ho (20 + t) 1 (by omega) (by omega) (by omega)
    have o2 := ho (20 + t) 2 (by omega) (by omega) (by omega)
    have o3 := ho (20 + t) 3 (by omega) (by omega) (by omega)
    have o5 := ho (20 + t) 5 (by omega) (by omega) (by omega)
    have o7 := ho (20 + t) 7 (by omega) (by omega) (by omega)
    have o8 := ho (20 + t) 8 (by omega) (by omega) (by omega)
    have m0 := ho 170 t (by omega) (by omega) (by omega)
    have m1 := ho 171 t (by omega) (by omega) (by omega)
    have m2 := ho 172 t (by omega) (by omega) (by omega)
    have m3 := ho 173 t (by omega) (by omega) (by omega)
    have m6 := ho 176 t (by omega) (by omega) (by omega)
    have m7 := ho 177 t (by omega) (by omega) (by omega)
    have m8 := ho 178 t (by omega) (by omega) (by omega)
    unfold gTm at *
    by_cases e : t < c
    · have a1 := h1 t e
      have a3 := h3 t e
      omega
    · omega
  · have := g5 a b ha hb
    unfold gTw at *
    simp (disch := omega) only [ho]
    exact this
  · have := g6 t p ht hp9
    unfold gPp at *
    simp (disch := omega) only [ho]
    exact this
  · have := g7 j hj
    have := ho 164 j (by omega) (by omega) (by omega)
    have := ho 185 j (by omega) (by omega) (by omega)
    omega
theorem sp_F_best {P : PP} {d n c : Nat} {FI A L : Nat → Nat → Int} {X : SX} {Q : Option AV → S2 → Prop} (hI : cI n FI A) (hc : FI 6 8 = (c : Int)) {fl ts w : Int} (hfl : inR fl) (hts : inR ts) (hw : inR w) (no : ∀ k : Nat, 1 ≤ k ∧ k ≤ 6 → whyS (fun t => A (20 + t) 5) c fl ts w (-(k : Int)) → Q (some (vi (-(k : Int)))) (FI, rfC A k, L, X)) (ok : ∀ (f9 t9 : Nat) (r : Int) (FI' A' : Nat → Nat → Int), whyS (fun t => A (20 + t) 5) c fl ts w 0 → fl = (f9 : Int) → ts = (t9 : Int) → 0 ≤ w ∧ w ≤ 1 → HH n FI A c t9 f9 (pcR t9 16) (pcR f9 16) → SAME FI A FI' A' → BJ (fun w => FIT A c (plW A t9 f9 (pcR f9 16) (pcR t9 16) w)) (fun w => walkP A (plW A t9 f9 (pcR f9 16) (pcR t9 16) w) c) (fun w => chg A t9 f9 (pcR f9 16) (pcR t9 16) w) ((pcR f9 16) ^ (pcR t9 16)) (FI' 138 9) (FI' 138 10) (FI' 138 11) (fun b => ∀ i, i < (pcR t9 16) → A' 151 i = (nth f9 (dig (pcR f9 16) (pcR t9 16) b i) : Int)) → ((FI' 138 9 = 0 ∧ r = -9) ∨ (FI' 138 9 = 1 ∧ ((w = 0 ∧ r = FI' 138 10 * FI 6 9) ∨ (w = 1 ∧ r = FI' 138 11)))) → Q (some (vi r)) (FI', A', L, X)) : WP2 P M_F_best (d + 16) 0 [some (vr 5), some (vi fl), some (vi ts), some (vi w), none] [] (FI, A, L, X) Q := by
  obtain ⟨lw, uw⟩ := id hw
  refine WP_n 4 rfl ?_
  refine WP2_callV 3 ok_M_F_whyNoSeating rfl rfl rfl rfl rfl rfl (Nat.le_of_ble_eq_true rfl) (Nat.le_of_ble_eq_true rfl) rfl rfl ?_
  refine sp_whyNoSeating hI hc hfl hts hw (fun r hr => ?_)
  rcases whyS_neg hr with h0 | ⟨k, hk, hk1⟩
  · subst h0
    obtain ⟨f9, t9, rfl, rfl, hw9, hh⟩ := whyS_0 hI hc hr
    refine WP_n 2 rfl ?_
    refine WP_ifeq rfl rfl ⟨by decide, by decide⟩  (fun h7 => ?_) (fun h7 => absurd (by decide) h7)
    refine WP_n 1 rfl ?_
    refine WP2_getf rfl rfl rfl rfl rfl ?_
    refine WP_n 2 rfl ?_
    refine WP2_callV 2 ok_M_S_search rfl rfl rfl rfl rfl rfl (Nat.le_of_ble_eq_true rfl) (Nat.le_of_ble_eq_true rfl) rfl rfl ?_
    refine sp_S_search hh (fun FI1 A1 hs h7 h139 hJ => ?_)
    have hz01 : FI1 138 9 = 0 ∨ FI1 138 9 = 1 := by
      rcases hJ with q | q
      · exact Or.inl q.1
      · exact Or.inr q.1
    refine WP_n 1 rfl ?_
    refine WP2_getf rfl rfl rfl rfl rfl ?_
    refine WP2_getf rfl rfl rfl rfl rfl ?_
    refine WP_ifne rfl rfl ⟨by omega, by omega⟩ (fun h20 => ?_) (fun h20 => ?_)
    · refine WP_n 1 rfl ?_
      refine WP_ifne rfl rfl ⟨by omega, by omega⟩ (fun h24 => ?_) (fun h24 => ?_)
      · refine WP_n 1 rfl ?_
        refine WP2_getf rfl rfl rfl rfl rfl ?_
        refine WP2_getf rfl rfl rfl rfl rfl ?_
        exact WP_iret rfl rfl rfl ⟨_, rfl, ok f9 t9 _ FI1 A1 hr rfl rfl hw9 hh hs hJ (Or.inr ⟨by omega, Or.inr ⟨by omega, rfl⟩⟩)⟩
      · refine WP_n 1 rfl ?_
        refine WP2_getf rfl rfl rfl rfl rfl ?_
        refine WP2_getf rfl rfl rfl rfl rfl ?_
        refine WP_n 1 rfl ?_
        refine WP2_getf rfl rfl rfl rfl rfl ?_
        refine WP2_getf rfl rfl rfl rfl rfl ?_
        refine WP_n 2 rfl ?_
        exact WP_iret rfl rfl rfl ⟨_, rfl, ok f9 t9 _ FI1 A1 hr rfl rfl hw9 hh hs hJ (Or.inr ⟨by omega, Or.inl ⟨by omega, by rw [hs.1.2.1]⟩⟩)⟩
    · refine WP_n 1 rfl ?_
      exact WP_iret rfl rfl rfl ⟨_, rfl, ok f9 t9 _ FI1 A1 hr rfl rfl hw9 hh hs hJ (Or.inl ⟨by omega, rfl⟩)⟩
  · subst hk
    refine WP_n 2 rfl ?_
    refine WP_ifeq rfl rfl ⟨by omega, by omega⟩ (fun h7 => absurd h7 (by omega)) (fun h7 => ?_)
    refine WP_n 2 rfl ?_
    refine WP2_callV 1 ok_M_F_refuse rfl rfl rfl rfl rfl rfl (Nat.le_of_ble_eq_true rfl) (Nat.le_of_ble_eq_true rfl) rfl rfl ?_
    refine sp_refuse (k := k) rfl hk1 ?_
    exact WP_iret rfl rfl rfl ⟨_, rfl, no k hk1 hr⟩
theorem sp_G_best {P : PP} {d n c : Nat} {FI A L : Nat → Nat → Int} {X : SX} {Q : Option AV → S2 → Prop} (hI : mI n FI A) (hc : FI 165 0 = (c : Int)) {fl ts w : Int} (hfl : inR fl) (hts : inR ts) (hw : inR w) {FIg Ag : Nat → Nat → Int} (hX : whyS (A 178) c fl ts w 0 → cI n FIg Ag ∧ FIg 6 8 = (c : Int) ∧ gX FI A FIg Ag) (no : ∀ k : Nat, 1 ≤ k ∧ k ≤ 6 → whyS (A 178) c fl ts w (-(k : Int)) → Q (some (vi (-(k : Int)))) (FI, rfG A k, L, X)) (ok : ∀ (f9 t9 : Nat) (r z : Int) (FI' A' : Nat → Nat → Int), whyS (A 178) c fl ts w 0 → fl = (f9 : Int) → ts = (t9 : Int) → 0 ≤ w ∧ w ≤ 1 → HH n FIg Ag c t9 f9 (pcR t9 16) (pcR f9 16) → SAME FI A FI' A' → BJ (fun w => FIT Ag c (plW Ag t9 f9 (pcR f9 16) (pcR t9 16) w)) (fun w => walkP Ag (plW Ag t9 f9 (pcR f9 16) (pcR t9 16) w) c * FIg 6 9) (fun w => chg Ag t9 f9 (pcR f9 16) (pcR t9 16) w) ((pcR f9 16) ^ (pcR t9 16)) z (FI' 165 29) (FI' 165 30) (fun b => ∀ t, t < c → A' 187 t = plW Ag t9 f9 (pcR f9 16) (pcR t9 16) b t) → ((z = 0 ∧ r = -9) ∨ (z = 1 ∧ ((w = 0 ∧ r = FI' 165 29) ∨ (w = 1 ∧ r = FI' 165 30)))) → Q (some (vi r)) (FI', A', L, X)) : WP2 P M_G_best (d + 16) 0 [some (vr 165), some (vi fl), some (vi ts), some (vi w), none] [] (FI, A, L, X) Q := by
  obtain ⟨lw, uw⟩ := id hw
  refine WP_n 4 rfl ?_
  refine WP2_callV 3 ok_M_G_refuses rfl rfl rfl rfl rfl rfl (Nat.le_of_ble_eq_true rfl) (Nat.le_of_ble_eq_true rfl) rfl rfl ?_
  refine sp_G_refuses hI hc hfl hts hw (fun r hr => ?_)
  rcases whyS_neg hr with h0 | ⟨k, hk, hk1⟩
  · subst h0
    obtain ⟨hIc, hcc, hG⟩ := hX hr
    obtain ⟨f9, t9, rfl, rfl, hw9, hh⟩ := whyS_0 hIc hcc hr
    refine WP_n 2 rfl ?_
    refine WP_ifeq rfl rfl ⟨by decide, by decide⟩  (fun h7 => ?_) (fun h7 => absurd (by decide) h7)
    refine WP_n 3 rfl ?_
    refine WP2_callV 2 ok_M_G_seats rfl rfl rfl rfl rfl rfl (Nat.le_of_ble_eq_true rfl) (Nat.le_of_ble_eq_true rfl) rfl rfl ?_
    refine sp_G_seats hh hG (fun z FI1 A1 hs hJ => ?_)
    have hz01 : z = 0 ∨ z = 1 := by
      rcases hJ with q | q
      · exact Or.inl q.1
      · exact Or.inr q.1
    refine WP_ifne rfl rfl ⟨by omega, by omega⟩ (fun h16 => ?_) (fun h16 => ?_)
    · refine WP_n 1 rfl ?_
      refine WP_ifne rfl rfl ⟨by omega, by omega⟩ (fun h20 => ?_) (fun h20 => ?_)
      · refine WP_n 1 rfl ?_
        refine WP2_getf rfl rfl rfl rfl rfl ?_
        exact WP_iret rfl rfl rfl ⟨_, rfl, ok f9 t9 _ z FI1 A1 hr rfl rfl hw9 hh hs hJ (Or.inr ⟨by omega, Or.inr ⟨by omega, rfl⟩⟩)⟩
      · refine WP_n 1 rfl ?_
        refine WP2_getf rfl rfl rfl rfl rfl ?_
        refine WP_n 1 rfl ?_
        exact WP_iret rfl rfl rfl ⟨_, rfl, ok f9 t9 _ z FI1 A1 hr rfl rfl hw9 hh hs hJ (Or.inr ⟨by omega, Or.inl ⟨by omega, rfl⟩⟩)⟩
    · refine WP_n 1 rfl ?_
      exact WP_iret rfl rfl rfl ⟨_, rfl, ok f9 t9 _ z FI1 A1 hr rfl rfl hw9 hh hs hJ (Or.inl ⟨by omega, rfl⟩)⟩
  · subst hk
    refine WP_n 2 rfl ?_
    refine WP_ifeq rfl rfl ⟨by omega, by omega⟩ (fun h7 => absurd h7 (by omega)) (fun h7 => ?_)
    refine WP_n 2 rfl ?_
    refine WP2_callV 1 ok_M_G_no rfl rfl rfl rfl rfl rfl (Nat.le_of_ble_eq_true rfl) (Nat.le_of_ble_eq_true rfl) rfl rfl ?_
    refine sp_no (k := k) rfl hk1 ?_
    exact WP_iret rfl rfl rfl ⟨_, rfl, no k hk1 hr⟩

/-! weekends, move and go: the reference -/
theorem mk_RM {n : Nat} {FI A FIg Ag F1 B : Nat → Nat → Int} {c mv st s9 : Nat} {sw : Int} (hIg : cI n FIg Ag) (hcg : FIg 6 8 = (c : Int)) (hX : gX FI A FIg Ag) (hc : FI 165 0 = (c : Int)) (fo : (∀ a k, ¬ (a = 165 ∧ 31 ≤ k) → F1 a k = FI a k)) (bo : (∀ a j, a ≠ 188 → a ≠ 189 → B a j = A a j)) (hsw : sw = (s9 : Int) ∧ s9 < 2048) (hM : mvS (A 175) c mv) (hS : stS (A 174) (A 175) c s9 st) (hal : ∀ t, t < c → A 175 t ≠ -9 → A 178 t = 0 ∧ A 174 t ≠ -9) (hK6 : pcR mv 16 ≤ 6) (hS5 : pcR st 16 ≤ 5) (f31 : F1 165 31 = (pcR mv 16 : Int)) (f32 : F1 165 32 = (pcR st 16 : Int)) (b8 : ∀ i, i < pcR mv 16 → B 188 i = (nth mv i : Int)) (b9 : ∀ i, i < pcR st 16 → B 189 i = (nth st i : Int)) : RM F1 B c mv st (pcR mv 16) (pcR st 16) (frM Ag c mv st) (szM Ag mv) ∧ CDa n FIg Ag c sw s9 mv st := by
  have hc16 : c ≤ 16 := by
    have := hIg.1
    omega
  have gT : ∀ t, t < c → A 170 t = Ag (20 + t) 0 ∧ A 174 t = Ag (20 + t) 4 ∧ A 175 t = Ag (20 + t) 6 := fun t ht => by
    have g := hX.2.2.2.1 t (by omega)
    unfold gTmX at g
    have := g.1 (by omega)
    omega
  have e : ∀ a j, 166 ≤ a → a ≤ 187 → B a j = A a j := fun a j _ _ => bo a j (by omega) (by omega)
  have ht : ∀ i, i < pcR mv 16 → nth mv i < c := fun i hi => tb_lt16 hM.1 (nth_ok hi).1
  have hf : ∀ s, s < pcR st 16 → nth st s < 11 := fun s hs => tb_lt16 (c := 11) (by have := hS.1; omega) (nth_ok hs).1
  refine ⟨⟨⟨hc16, hM.1, hS.1, rfl, hK6, rfl, hS5⟩, ⟨(fo _ _ (by omega)).trans hc, f31, f32⟩, b8, b9, fun t h => ?_, fun f h => ?_, fun i hi => ?_, fun s hs => ?_⟩, hsw, ?_, ?_, fun t h q => ?_, hIg, hcg, hM.1, hS.1, rfl, hK6, rfl, hS5⟩
  · rw [e 170 t (by omega) (by omega), e 174 t (by omega) (by omega), (gT t h).1, (gT t h).2.1]
    have q := hIg.2.2.2.1 t (by omega)
    unfold cTm at q
    omega
  · rw [e 166 f (by omega) (by omega), (hX.2.2.1 f h).1]
    exact (hIg.2.2.1 f h).1
  · rw [e 170 _ (by omega) (by omega)]
    exact (gT _ (ht i hi)).1
  · unfold frM
    rw [e 166 _ (by omega) (by omega), (hX.2.2.1 _ (hf s hs)).1, ← occ_pw]
    refine congrArg (fun z => Ag (8 + nth st s) 0 - z) (sumN_congr c (fun t h => ?_))
    rw [e 170 t (by omega) (by omega), e 174 t (by omega) (by omega), (gT t h).1, (gT t h).2.1]
    by_cases w : Ag (20 + t) 4 = (nth st s : Int) ∧ mv.testBit t = false
    · rw [if_pos w, if_pos ⟨w.2, w.1⟩]
    · rw [if_neg w, if_neg (fun q => w ⟨q.2, q.1⟩)]
  · exact ⟨hM.1, fun t h => by show mv.testBit t = true ↔ Ag (20 + t) 6 ≠ -9; rw [← (gT t h).2.2]; exact hM.2 t h⟩
  · refine ⟨hS.1, fun f h => ?_⟩
    rw [hS.2 f h]
    constructor
    · rintro (q | ⟨u, u1, u2⟩)
      · exact Or.inl q
      · rw [(gT u u1).2.1, (gT u u1).2.2] at u2
        exact Or.inr ⟨u, u1, u2⟩
    · rintro (q | ⟨u, u1, u2⟩)
      · exact Or.inl q
      · dsimp only at u2
        rw [← (gT u u1).2.1, ← (gT u u1).2.2] at u2
        exact Or.inr ⟨u, u1, u2⟩
  · rw [← (gT t h).2.1]
    exact (hal t h (by rw [(gT t h).2.2]; exact q)).2
theorem dgX {FI A FIg Ag : Nat → Nat → Int} {c mv st m : Nat} (hX : gX FI A FIg Ag) (hcg : FIg 6 8 = (c : Int)) (hc16 : c ≤ 16) (hm : mv < 2 ^ c) (h : m < pcR mv 16) : dgF (A 174) mv st m = dP Ag mv st m ∧ dgF (A 175) mv st m = dT Ag mv st m := by
  have ht := tb_lt16 hm (nth_ok h).1
  have g := hX.2.2.2.1 (nth mv m) (by omega)
  unfold gTmX at g
  have g2 := g.1 (by omega)
  unfold dP dT dgF
  rw [g2.2.2.2.2.1, g2.2.2.2.2.2]
  exact ⟨rfl, rfl⟩
theorem MK.dst {fr sz : Nat → Int} {K S : Nat} {g e d : Nat → Nat} {ml : Nat → Int} {y : Nat} (h : ∀ D, MK (Rn fr sz K S g e) (5 ^ K) (-9) ml D) (hy : y < 5 ^ K) (hd : ∀ m, m < K → gd e y m = d m) (hv : ∀ m, m < K → d m < S) : DST fr sz K S g d (ml y) := by
  have hR : ∀ j, RchF fr sz K S g j d → Rn fr sz K S g e j y := fun j hj => ⟨fun m hm => by rw [hd m hm]; exact hv m hm, RchF_congr j (fun m hm => (hd m hm).symm) hj⟩
  by_cases w : ml y = -9
  · exact Or.inl ⟨w, fun k hk => (h (k + 1)).2 k y hy (by omega) (hR k hk) w⟩
  · obtain ⟨k, k1, k2, k3⟩ := (h 0).1 y hy w
    exact Or.inr ⟨k, k1, RchF_congr k hd k2.2, fun j hj => k3 j (hR j hj)⟩
theorem WLK.rg {fr sz : Nat → Int} {K S : Nat} {g : Nat → Nat} : ∀ (i D : Nat) {d : Nat → Nat} {m s : Nat}, WLK fr sz K S g i D d m s → m < K ∧ s < S
  | 0, D, d, m, s, a => ⟨a.1.1, a.1.2.1⟩
  | i + 1, D, d, m, s, ⟨m1, s1, a1, a2⟩ => WLK.rg i (D - 1) a2
theorem sp_G_weekends {P : PP} {d n c : Nat} {FI A L : Nat → Nat → Int} {X : SX} {Q : Option AV → S2 → Prop} (hI : mI n FI A) (hc : FI 165 0 = (c : Int)) {FIg Ag : Nat → Nat → Int} (hIg : cI n FIg Ag) (hcg : FIg 6 8 = (c : Int)) (hX : gX FI A FIg Ag) {sw : Int} (hsw : inR sw) (no : ∀ (k : Nat) (F1 B : Nat → Nat → Int), 1 ≤ k ∧ k ≤ 6 → whyM (A 178) (A 174) (A 175) c sw (-(k : Int)) → SAME FI A F1 B → Q (some (vi (-(k : Int)))) (F1, rfG B k, L, X)) (ok : ∀ (s9 mv st : Nat) (r : Int) (F1 B : Nat → Nat → Int), whyM (A 178) (A 174) (A 175) c sw 0 → CDa n FIg Ag c sw s9 mv st → SAME FI A F1 B → DSc Ag c mv st r → Q (some (vi r)) (F1, B, L, X)) : WP2 P M_G_weekends (d + 4) 0 [some (vr 165), some (vi sw), none] [] (FI, A, L, X) Q := by
  refine WP_n 2 rfl ?_
  refine WP2_callV 1 ok_M_G_refuses1 rfl rfl rfl rfl rfl rfl (Nat.le_of_ble_eq_true rfl) (Nat.le_of_ble_eq_true rfl) rfl rfl ?_
  refine sp_G_refuses1 hI hc hsw (fun r F1 B hr fo bo hdd => ?_)
  have hs1 : SAME FI A F1 B := ⟨⟨fo _ _ (by omega), fo _ _ (by omega), fo _ _ (by omega), fo _ _ (by omega)⟩, bo _ _ (by omega) (by omega), fun a j q => bo a j (by omega) (by omega)⟩
  rcases whyM_neg hr with h0 | ⟨k, hk, hk1⟩
  · subst h0
    obtain ⟨s9, mv, st, e9, hM, hS, hal, hK6, hS5, f31, f32, b8, b9, y0, g0, f33, f34, y5, g5, hy0, hg0⟩ := hdd rfl
    obtain ⟨hrm, hd⟩ := mk_RM (sw := sw) hIg hcg hX hc fo bo e9 hM hS hal hK6 hS5 f31 f32 b8 b9
    have hc16 := hrm.1.1
    have hy1 : ∀ m, m < pcR mv 16 → gd (fun i => pcR mv 16 - 1 - i) y0 m = dP Ag mv st m := fun m hm => (hy0 m hm).trans (dgX hX hcg hc16 hM.1 hm).1
    have hg1 : ∀ m, m < pcR mv 16 → gd (fun i => pcR mv 16 - 1 - i) g0 m = dT Ag mv st m := fun m hm => (hg0 m hm).trans (dgX hX hcg hc16 hM.1 hm).2
    have hpK : 5 ^ (pcR mv 16) ≤ 5 ^ 6 := Nat.pow_le_pow_right (by omega) hK6
    obtain rfl := e9.1
    refine WP_n 2 rfl ?_
    refine WP_ifeq rfl rfl ⟨by decide, by decide⟩  (fun h5 => ?_) (fun h5 => absurd (by decide) h5)
    refine WP_n 1 rfl ?_
    refine WP2_callV 0 ok_M_G_measures rfl rfl rfl rfl rfl rfl (Nat.le_of_ble_eq_true rfl) (Nat.le_of_ble_eq_true rfl) rfl rfl ?_
    refine sp_G_measures hrm f34 g5 hg1 (fun m hm => (hd.dg m hm).2.1) (fun B2 o1 hMK hbd => ?_)
    have hs2 : SAME FI A F1 B2 := hs1.trans ⟨⟨rfl, rfl, rfl, rfl⟩, o1 _ _ (by omega) (by omega), fun a j q => o1 a j (by omega) (by omega)⟩
    have hDS : DSc Ag c mv st (B2 190 y0) := MK.dst hMK y5 hy1 (fun m hm => (hd.dg m hm).1.1)
    have hby := hbd y0 y5
    refine WP_n 1 rfl ?_
    refine WP2_getf rfl rfl rfl rfl rfl ?_
    refine WP_n 1 rfl ?_
    refine WP2_getf rfl rfl rfl rfl rfl ?_
    refine WP2_iald (j := y0) rfl rfl (ia_lit (n := 15625) rfl rfl (by omega)) (by omega) (by omega) (by omega) ?_
    exact WP_iret rfl rfl rfl ⟨_, rfl, ok s9 mv st _ F1 B2 hr hd hs2 hDS⟩
  · subst hk
    refine WP_n 2 rfl ?_
    refine WP_ifeq rfl rfl ⟨by omega, by omega⟩ (fun h5 => absurd h5 (by omega)) (fun h5 => ?_)
    refine WP_n 2 rfl ?_
    refine WP2_callV 1 ok_M_G_no rfl rfl rfl rfl rfl rfl (Nat.le_of_ble_eq_true rfl) (Nat.le_of_ble_eq_true rfl) rfl rfl ?_
    refine sp_no (k := k) rfl hk1 ?_
    exact WP_iret rfl rfl rfl ⟨_, rfl, no k F1 B hk1 hr hs1⟩
theorem sp_G_move {P : PP} {d n c : Nat} {FI A L : Nat → Nat → Int} {X : SX} {Q : Option AV → S2 → Prop} (hI : mI n FI A) (hc : FI 165 0 = (c : Int)) {FIg Ag : Nat → Nat → Int} (hIg : cI n FIg Ag) (hcg : FIg 6 8 = (c : Int)) (hX : gX FI A FIg Ag) {sw : Int} (hsw : inR sw) {i w : Int} (hi : inR i) (hw : inR w) (no : ∀ (k : Nat) (F1 B : Nat → Nat → Int), 1 ≤ k ∧ k ≤ 6 → whyM (A 178) (A 174) (A 175) c sw (-(k : Int)) → SAME FI A F1 B → Q (some (vi (-(k : Int)))) (F1, rfG B k, L, X)) (w2 : ∀ (F1 B : Nat → Nat → Int), whyM (A 178) (A 174) (A 175) c sw 0 → ¬ (0 ≤ w ∧ w ≤ 1) → SAME FI A F1 B → Q (some (vi (-2))) (F1, rfG B 2, L, X)) (r9 : ∀ (s9 mv st : Nat) (r : Int) (F1 B : Nat → Nat → Int), whyM (A 178) (A 174) (A 175) c sw 0 → CDa n FIg Ag c sw s9 mv st → SAME FI A F1 B → DSc Ag c mv st r → 0 ≤ w ∧ w ≤ 1 → ¬ (0 ≤ i ∧ i < r) → Q (some (vi (-9))) (F1, B, L, X)) (ok : ∀ (s9 mv st D i9 m s : Nat) (F1 B : Nat → Nat → Int), whyM (A 178) (A 174) (A 175) c sw 0 → CDa n FIg Ag c sw s9 mv st → SAME FI A F1 B → DSc Ag c mv st (D : Int) → 0 ≤ w ∧ w ≤ 1 → i = (i9 : Int) → i9 < D → WLc Ag c mv st i9 D m s → Q (some (vi (if w = 0 then (nth mv m : Int) else (nth st s : Int)))) (F1, B, L, X)) : WP2 P M_G_move (d + 4) 0 [some (vr 165), some (vi sw), some (vi i), some (vi w), none, none, none] [] (FI, A, L, X) Q := by
  obtain ⟨lw, uw⟩ := id hw
  obtain ⟨li, ui⟩ := id hi
  refine WP_n 2 rfl ?_
  refine WP2_callV 1 ok_M_G_refuses1 rfl rfl rfl rfl rfl rfl (Nat.le_of_ble_eq_true rfl) (Nat.le_of_ble_eq_true rfl) rfl rfl ?_
  refine sp_G_refuses1 hI hc hsw (fun r F1 B hr fo bo hdd => ?_)
  have hs1 : SAME FI A F1 B := ⟨⟨fo _ _ (by omega), fo _ _ (by omega), fo _ _ (by omega), fo _ _ (by omega)⟩, bo _ _ (by omega) (by omega), fun a j q => bo a j (by omega) (by omega)⟩
  rcases whyM_neg hr with h0 | ⟨k, hk, hk1⟩
  · subst h0
    obtain ⟨s9, mv, st, e9, hM, hS, hal, hK6, hS5, f31, f32, b8, b9, y0, g0, f33, f34, y5, g5, hy0, hg0⟩ := hdd rfl
    obtain ⟨hrm, hd⟩ := mk_RM (sw := sw) hIg hcg hX hc fo bo e9 hM hS hal hK6 hS5 f31 f32 b8 b9
    have hc16 := hrm.1.1
    have hy1 : ∀ m, m < pcR mv 16 → gd (fun i => pcR mv 16 - 1 - i) y0 m = dP Ag mv st m := fun m hm => (hy0 m hm).trans (dgX hX hcg hc16 hM.1 hm).1
    have hg1 : ∀ m, m < pcR mv 16 → gd (fun i => pcR mv 16 - 1 - i) g0 m = dT Ag mv st m := fun m hm => (hg0 m hm).trans (dgX hX hcg hc16 hM.1 hm).2
    have hpK : 5 ^ (pcR mv 16) ≤ 5 ^ 6 := Nat.pow_le_pow_right (by omega) hK6
    obtain rfl := e9.1
    refine WP_n 2 rfl ?_
    refine WP_ifeq rfl rfl ⟨by decide, by decide⟩  (fun h5 => ?_) (fun h5 => absurd (by decide) h5)
    refine WP_n 1 rfl ?_
    refine WP_iflt rfl rfl ⟨by omega, by omega⟩ (fun h11 => ?_) (fun h11 => ?_)
    · refine WP_n 2 rfl ?_
      refine WP2_callV 1 ok_M_G_no rfl rfl rfl rfl rfl rfl (Nat.le_of_ble_eq_true rfl) (Nat.le_of_ble_eq_true rfl) rfl rfl ?_
      refine sp_no (k := 2) rfl (by omega) ?_
      exact WP_iret rfl rfl rfl ⟨_, rfl, w2 F1 B hr (by omega) hs1⟩
    · refine WP_n 2 rfl ?_
      refine WP_icmple rfl rfl ⟨by omega, by omega⟩ ⟨by omega, by omega⟩ (fun h14 => ?_) (fun h14 => ?_)
      · refine WP_n 1 rfl ?_
        refine WP2_callV 0 ok_M_G_measures rfl rfl rfl rfl rfl rfl (Nat.le_of_ble_eq_true rfl) (Nat.le_of_ble_eq_true rfl) rfl rfl ?_
        refine sp_G_measures hrm f34 g5 hg1 (fun m hm => (hd.dg m hm).2.1) (fun B2 o1 hMK hbd => ?_)
        have hs2 : SAME FI A F1 B2 := hs1.trans ⟨⟨rfl, rfl, rfl, rfl⟩, o1 _ _ (by omega) (by omega), fun a j q => o1 a j (by omega) (by omega)⟩
        have hDS : DSc Ag c mv st (B2 190 y0) := MK.dst hMK y5 hy1 (fun m hm => (hd.dg m hm).1.1)
        have hby := hbd y0 y5
        refine WP_n 1 rfl ?_
        refine WP_iflt rfl rfl ⟨by omega, by omega⟩ (fun h22 => ?_) (fun h22 => ?_)
        · refine WP_n 1 rfl ?_
          exact WP_iret rfl rfl rfl ⟨_, rfl, r9 s9 mv st _ F1 B2 hr hd hs2 hDS (by omega) (by omega)⟩
        · refine WP_n 2 rfl ?_
          refine WP2_getf rfl rfl rfl rfl rfl ?_
          refine WP_n 1 rfl ?_
          refine WP2_getf rfl rfl rfl rfl rfl ?_
          refine WP2_iald (j := y0) rfl rfl (ia_lit (n := 15625) rfl rfl (by omega)) (by omega) (by omega) (by omega) ?_
          refine WP_icmplt rfl rfl ⟨by omega, by omega⟩ ⟨by omega, by omega⟩ (fun h29 => ?_) (fun h29 => ?_)
          · obtain ⟨i9, rfl⟩ : ∃ i9 : Nat, i = (i9 : Int) := ⟨i.toNat, by omega⟩
            obtain ⟨D, hDe⟩ : ∃ D : Nat, B2 190 y0 = (D : Int) := ⟨(B2 190 y0).toNat, by omega⟩
            rw [hDe] at hDS
            have hiD : i9 < D := by omega
            refine WP_n 1 rfl ?_
            refine WP2_getf rfl rfl rfl rfl rfl ?_
            refine WP_n 3 rfl ?_
            have hrm2 := hrm.off ⟨rfl, rfl, rfl⟩ (fun a j _ _ => o1 a j (by omega) (by omega))
            have gen : ∀ (r t x D1 : Nat) (F2 : Nat → Nat → Int), t + r = i9 → x < 5 ^ (pcR mv 16) → (∀ m, m < pcR mv 16 → gd (fun i => pcR mv 16 - 1 - i) x m < pcR st 16) → B2 190 x = (D1 : Int) → r < D1 → (∀ a k, ¬ (a = 165 ∧ (k = 35 ∨ k = 36)) → F2 a k = F1 a k) → (∀ (m s : Nat) (F3 : Nat → Nat → Int), WLK (frM Ag c mv st) (szM Ag mv) (pcR mv 16) (pcR st 16) (dT Ag mv st) r D1 (gd (fun i => pcR mv 16 - 1 - i) x) m s → (∀ a k, ¬ (a = 165 ∧ (k = 35 ∨ k = 36)) → F3 a k = F1 a k) → F3 165 35 = (m : Int) → F3 165 36 = (s : Int) → WP2 P M_G_move (d + 4) 46 [some (vr 165), some (vi (s9 : Int)), some (vi (i9 : Int)), some (vi w), some (vi 0), none, none] [] (F3, B2, L, X) Q) → WP2 P M_G_move (d + 4) 37 [some (vr 165), some (vi (s9 : Int)), some (vi (i9 : Int)), some (vi w), some (vi 0), some (vi (x : Int)), some (vi (t : Int))] [] (F2, B2, L, X) Q := by
              intro r
              induction r with
              | zero =>
                intro t x D1 F2 ht hx1 hv1 hmx hr1 fo2 hQ
                refine WP_n 2 rfl ?_
                refine WP_icmpgt rfl rfl ⟨by omega, by omega⟩ ⟨by omega, by omega⟩ (fun h39 => absurd h39 (by omega)) (fun h39 => ?_)
                refine WP_n 2 rfl ?_
                refine WP2_callV 1 ok_M_G_moves rfl rfl rfl rfl rfl rfl (Nat.le_of_ble_eq_true rfl) (Nat.le_of_ble_eq_true rfl) rfl rfl ?_
                refine sp_G_moves (j := D1 - 1) (D := D1) (hrm2.off ⟨fo2 _ _ (by omega), fo2 _ _ (by omega), fo2 _ _ (by omega)⟩ (fun _ _ _ _ => rfl)) hx1 hv1 (hMK D1) hbd (by omega) (by omega) (fun F3 m s hf f1 f2 f3 => ?_)
                have fo3 : ∀ a k, ¬ (a = 165 ∧ (k = 35 ∨ k = 36)) → F3 a k = F1 a k := fun a k q => (f1 a k q).trans (fo2 a k q)
                refine WP_n 3 rfl ?_
                refine WP_n 2 rfl ?_
                refine WP_icmpgt rfl rfl ⟨by omega, by omega⟩ ⟨by omega, by omega⟩ (fun h39 => ?_) (fun h39 => absurd h39 (by omega))
                exact WP2_kill 5 (WP2_kill 6 (hQ m s F3 hf fo3 f2 f3))
              | succ r ihr =>
                intro t x D1 F2 ht hx1 hv1 hmx hr1 fo2 hQ
                refine WP_n 2 rfl ?_
                refine WP_icmpgt rfl rfl ⟨by omega, by omega⟩ ⟨by omega, by omega⟩ (fun h39 => absurd h39 (by omega)) (fun h39 => ?_)
                refine WP_n 2 rfl ?_
                refine WP2_callV 1 ok_M_G_moves rfl rfl rfl rfl rfl rfl (Nat.le_of_ble_eq_true rfl) (Nat.le_of_ble_eq_true rfl) rfl rfl ?_
                refine sp_G_moves (j := D1 - 1) (D := D1) (hrm2.off ⟨fo2 _ _ (by omega), fo2 _ _ (by omega), fo2 _ _ (by omega)⟩ (fun _ _ _ _ => rfl)) hx1 hv1 (hMK D1) hbd (by omega) (by omega) (fun F3 m s hf f1 f2 f3 => ?_)
                have fo3 : ∀ a k, ¬ (a = 165 ∧ (k = 35 ∨ k = 36)) → F3 a k = F1 a k := fun a k q => (f1 a k q).trans (fo2 a k q)
                refine WP_n 3 rfl ?_
                have hst := hf.1
                have g1 := gd_upx (e := (fun i => pcR mv 16 - 1 - i)) (s := s) (PMk (pcR mv 16)) hx1 hst.1 (by have := hst.2.1; omega)
                refine ihr (t + 1) (upx x (pcR mv 16 - 1 - m) s) (D1 - 1) F3 (by omega) (upx_ok hx1 (show pcR mv 16 - 1 - m < pcR mv 16 by have := hst.1; omega) (by have := hst.2.1; omega)).1 (fun q hq => ?_) ?_ (by omega) fo3 (fun m' s' F4 w1 w2 w3 w4 => hQ m' s' F4 ⟨m, s, hf, WLK.congr r (D1 - 1) g1 w1⟩ w2 w3 w4)
                · rw [g1 q hq]
                  unfold updD
                  split
                  · exact hst.2.1
                  · exact hv1 q hq
                · exact (STP.mk (e := (fun i => pcR mv 16 - 1 - i)) (by omega) rfl hS5 (PMk (pcR mv 16)) (hMK D1) hx1 hv1 (by omega) hst.1 hst.2.1 hst.2.2.1 hst.2.2.2.1).mpr hst
            rw [f33]
            refine gen i9 0 y0 D F1 (by omega) y5 (fun m hm => by rw [hy1 m hm]; exact (hd.dg m hm).1.1) hDe hiD (fun _ _ _ => rfl) (fun m s F3 hW0 fo3 e35 e36 => ?_)
            have hW : WLc Ag c mv st i9 D m s := WLK.congr i9 D hy1 hW0
            have hms := WLK.rg i9 D hW
            have e88 : B2 188 m = (nth mv m : Int) := (o1 _ _ (by omega) (by omega)).trans (b8 m hms.1)
            have e89 : B2 189 s = (nth st s : Int) := (o1 _ _ (by omega) (by omega)).trans (b9 s hms.2)
            refine WP_n 1 rfl ?_
            refine WP_ifne rfl rfl ⟨by omega, by omega⟩ (fun h47 => ?_) (fun h47 => ?_)
            · refine WP_n 1 rfl ?_
              refine WP2_getf rfl rfl rfl rfl rfl ?_
              refine WP_n 1 rfl ?_
              refine WP2_getf rfl rfl rfl rfl rfl ?_
              refine WP2_iald (j := s) rfl rfl (ia_lit (n := 11) rfl rfl (by omega)) (by omega) (by omega) (by omega) ?_
              refine WP_iret rfl rfl rfl ⟨_, rfl, ?_⟩
              have z := ok s9 mv st D i9 m s F3 B2 hr hd (hs2.trans ⟨⟨fo3 _ _ (by omega), fo3 _ _ (by omega), fo3 _ _ (by omega), fo3 _ _ (by omega)⟩, rfl, fun _ _ _ => rfl⟩) hDS (by omega) rfl hiD hW
              rw [if_neg (by omega)] at z
              rw [e89]
              exact z
            · refine WP_n 1 rfl ?_
              refine WP2_getf rfl rfl rfl rfl rfl ?_
              refine WP_n 1 rfl ?_
              refine WP2_getf rfl rfl rfl rfl rfl ?_
              refine WP2_iald (j := m) rfl rfl (ia_lit (n := 16) rfl rfl (by omega)) (by omega) (by omega) (by omega) ?_
              refine WP_n 1 rfl ?_
              refine WP_iret rfl rfl rfl ⟨_, rfl, ?_⟩
              have z := ok s9 mv st D i9 m s F3 B2 hr hd (hs2.trans ⟨⟨fo3 _ _ (by omega), fo3 _ _ (by omega), fo3 _ _ (by omega), fo3 _ _ (by omega)⟩, rfl, fun _ _ _ => rfl⟩) hDS (by omega) rfl hiD hW
              rw [if_pos (by omega)] at z
              rw [e88]
              exact z
          · refine WP_n 1 rfl ?_
            exact WP_iret rfl rfl rfl ⟨_, rfl, r9 s9 mv st _ F1 B2 hr hd hs2 hDS (by omega) (by omega)⟩
      · refine WP_n 2 rfl ?_
        refine WP2_callV 1 ok_M_G_no rfl rfl rfl rfl rfl rfl (Nat.le_of_ble_eq_true rfl) (Nat.le_of_ble_eq_true rfl) rfl rfl ?_
        refine sp_no (k := 2) rfl (by omega) ?_
        exact WP_iret rfl rfl rfl ⟨_, rfl, w2 F1 B hr (by omega) hs1⟩
  · subst hk
    refine WP_n 2 rfl ?_
    refine WP_ifeq rfl rfl ⟨by omega, by omega⟩ (fun h5 => absurd h5 (by omega)) (fun h5 => ?_)
    refine WP_n 2 rfl ?_
    refine WP2_callV 1 ok_M_G_no rfl rfl rfl rfl rfl rfl (Nat.le_of_ble_eq_true rfl) (Nat.le_of_ble_eq_true rfl) rfl rfl ?_
    refine sp_no (k := k) rfl hk1 ?_
    exact WP_iret rfl rfl rfl ⟨_, rfl, no k F1 B hk1 hr hs1⟩
theorem sp_G_go {P : PP} {d n c : Nat} {FI A L : Nat → Nat → Int} {X : SX} {Q : Option AV → S2 → Prop} (hI : mI n FI A) (hc : FI 165 0 = (c : Int)) {FIg Ag : Nat → Nat → Int} (hIg : cI n FIg Ag) (hcg : FIg 6 8 = (c : Int)) (hX : gX FI A FIg Ag) {sw : Int} (hsw : inR sw) (no : ∀ (k : Nat) (F1 B : Nat → Nat → Int), 1 ≤ k ∧ k ≤ 6 → whyM (A 178) (A 174) (A 175) c sw (-(k : Int)) → SAME FI A F1 B → Q (some (vi (-(k : Int)))) (F1, rfG B k, L, X)) (r3 : ∀ (s9 mv st : Nat) (F1 B : Nat → Nat → Int), whyM (A 178) (A 174) (A 175) c sw 0 → CDa n FIg Ag c sw s9 mv st → SAME FI A F1 B → DSc Ag c mv st (-9) → Q (some (vi (-3))) (F1, rfG B 3, L, X)) (ok : ∀ (s9 mv st : Nat) (r : Int) (F1 B B2 : Nat → Nat → Int), whyM (A 178) (A 174) (A 175) c sw 0 → CDa n FIg Ag c sw s9 mv st → SAME FI A F1 B → DSc Ag c mv st r → r ≠ -9 → (∀ a j, ¬ ((a = 174 ∨ a = 175) ∧ j < c) → B2 a j = B a j) → (∀ u, u < c → B2 174 u = (if A 175 u = -9 then A 174 u else A 175 u) ∧ B2 175 u = -9) → Q (some (vi r)) (F1, B2, L, X)) : WP2 P M_G_go (d + 4) 0 [some (vr 165), some (vi sw), none, none] [] (FI, A, L, X) Q := by
  refine WP_n 2 rfl ?_
  refine WP2_callV 1 ok_M_G_refuses1 rfl rfl rfl rfl rfl rfl (Nat.le_of_ble_eq_true rfl) (Nat.le_of_ble_eq_true rfl) rfl rfl ?_
  refine sp_G_refuses1 hI hc hsw (fun r F1 B hr fo bo hdd => ?_)
  have hs1 : SAME FI A F1 B := ⟨⟨fo _ _ (by omega), fo _ _ (by omega), fo _ _ (by omega), fo _ _ (by omega)⟩, bo _ _ (by omega) (by omega), fun a j q => bo a j (by omega) (by omega)⟩
  rcases whyM_neg hr with h0 | ⟨k, hk, hk1⟩
  · subst h0
    obtain ⟨s9, mv, st, e9, hM, hS, hal, hK6, hS5, f31, f32, b8, b9, y0, g0, f33, f34, y5, g5, hy0, hg0⟩ := hdd rfl
    obtain ⟨hrm, hd⟩ := mk_RM (sw := sw) hIg hcg hX hc fo bo e9 hM hS hal hK6 hS5 f31 f32 b8 b9
    have hc16 := hrm.1.1
    have hy1 : ∀ m, m < pcR mv 16 → gd (fun i => pcR mv 16 - 1 - i) y0 m = dP Ag mv st m := fun m hm => (hy0 m hm).trans (dgX hX hcg hc16 hM.1 hm).1
    have hg1 : ∀ m, m < pcR mv 16 → gd (fun i => pcR mv 16 - 1 - i) g0 m = dT Ag mv st m := fun m hm => (hg0 m hm).trans (dgX hX hcg hc16 hM.1 hm).2
    have hpK : 5 ^ (pcR mv 16) ≤ 5 ^ 6 := Nat.pow_le_pow_right (by omega) hK6
    obtain rfl := e9.1
    refine WP_n 2 rfl ?_
    refine WP_ifeq rfl rfl ⟨by decide, by decide⟩  (fun h5 => ?_) (fun h5 => absurd (by decide) h5)
    refine WP_n 1 rfl ?_
    refine WP2_callV 0 ok_M_G_measures rfl rfl rfl rfl rfl rfl (Nat.le_of_ble_eq_true rfl) (Nat.le_of_ble_eq_true rfl) rfl rfl ?_
    refine sp_G_measures hrm f34 g5 hg1 (fun m hm => (hd.dg m hm).2.1) (fun B2 o1 hMK hbd => ?_)
    have hs2 : SAME FI A F1 B2 := hs1.trans ⟨⟨rfl, rfl, rfl, rfl⟩, o1 _ _ (by omega) (by omega), fun a j q => o1 a j (by omega) (by omega)⟩
    have hDS : DSc Ag c mv st (B2 190 y0) := MK.dst hMK y5 hy1 (fun m hm => (hd.dg m hm).1.1)
    have hby := hbd y0 y5
    refine WP_n 1 rfl ?_
    refine WP2_getf rfl rfl rfl rfl rfl ?_
    refine WP_n 1 rfl ?_
    refine WP2_getf rfl rfl rfl rfl rfl ?_
    refine WP2_iald (j := y0) rfl rfl (ia_lit (n := 15625) rfl rfl (by omega)) (by omega) (by omega) (by omega) ?_
    refine WP_n 1 rfl ?_
    refine WP_icmpne rfl rfl ⟨by omega, by omega⟩ ⟨by omega, by omega⟩ (fun h18 => ?_) (fun h18 => ?_)
    · refine WP_n 2 rfl ?_
      refine (show ∀ i, i ≤ pcR mv 16 → ∀ B3 : Nat → Nat → Int, (∀ a j, a ≠ 174 → B3 a j = B2 a j) → (∀ k, k < i → B3 174 (nth mv k) = A 175 (nth mv k)) → (∀ t, (∀ k, k < i → t ≠ nth mv k) → B3 174 t = B2 174 t) → WP2 P M_G_go (d + 4) 25 [some (vr 165), some (vi (s9 : Int)), some (vi 0), some (vi (i : Int))] [] (F1, B3, L, X) Q from ?_) 0 (by omega) B2 (fun _ _ _ => rfl) (fun k hk => absurd hk (by omega)) (fun _ _ => rfl)
      refine up_to (P := fun i => ∀ B3 : Nat → Nat → Int, (∀ a j, a ≠ 174 → B3 a j = B2 a j) → (∀ k, k < i → B3 174 (nth mv k) = A 175 (nth mv k)) → (∀ t, (∀ k, k < i → t ≠ nth mv k) → B3 174 t = B2 174 t) → WP2 P M_G_go (d + 4) 25 [some (vr 165), some (vi (s9 : Int)), some (vi 0), some (vi (i : Int))] [] (F1, B3, L, X) Q) (pcR mv 16) ?_ ?_
      · intro B3 c1 c2 c3
        refine WP_n 2 rfl ?_
        refine WP2_getf rfl rfl rfl rfl rfl ?_
        refine WP_icmpge rfl rfl ⟨by omega, by omega⟩ ⟨by omega, by omega⟩ (fun h28 => ?_) (fun h28 => absurd h28 (by omega))
        refine WP_n 2 rfl ?_
        refine (show ∀ t, t ≤ c → ∀ B4 : Nat → Nat → Int, (∀ a j, ¬ (a = 175 ∧ j < t) → B4 a j = B3 a j) → (∀ u, u < t → B4 175 u = -9) → WP2 P M_G_go (d + 4) 47 [some (vr 165), some (vi (s9 : Int)), some (vi 0), some (vi (t : Int))] [] (F1, B4, L, X) Q from ?_) 0 (by omega) B3 (fun _ _ _ => rfl) (fun u hu => absurd hu (by omega))
        have f0 : F1 165 0 = (c : Int) := hrm.2.1.1
        refine up_to (P := fun t => ∀ B4 : Nat → Nat → Int, (∀ a j, ¬ (a = 175 ∧ j < t) → B4 a j = B3 a j) → (∀ u, u < t → B4 175 u = -9) → WP2 P M_G_go (d + 4) 47 [some (vr 165), some (vi (s9 : Int)), some (vi 0), some (vi (t : Int))] [] (F1, B4, L, X) Q) c ?_ ?_
        · intro B4 d1 d2
          refine WP_n 2 rfl ?_
          refine WP2_getf rfl rfl rfl rfl rfl ?_
          refine WP_icmpge rfl rfl ⟨by omega, by omega⟩ ⟨by omega, by omega⟩ (fun h50 => ?_) (fun h50 => absurd h50 (by omega))
          refine WP_n 1 rfl ?_
          refine WP2_getf rfl rfl rfl rfl rfl ?_
          refine WP_n 1 rfl ?_
          refine WP2_getf rfl rfl rfl rfl rfl ?_
          refine WP2_iald (j := y0) rfl rfl (ia_lit (n := 15625) rfl rfl (by omega)) (by omega) (by omega) (by omega) ?_
          refine WP_iret rfl rfl rfl ⟨_, rfl, ?_⟩
          rw [show B4 190 y0 = B2 190 y0 from (d1 _ _ (by omega)).trans (c1 _ _ (by omega))]
          have hnt : ∀ k, k < pcR mv 16 → nth mv k < c := fun k hk => tb_lt16 hM.1 (nth_ok hk).1
          refine ok s9 mv st _ F1 B2 B4 hr hd hs2 hDS h18 (fun a j q => ?_) (fun u hu => ⟨?_, d2 u hu⟩)
          · rw [d1 a j (by omega)]
            by_cases e : a = 174
            · rw [e]
              refine c3 j (fun k hk => ?_)
              have := hnt k hk
              omega
            · exact c1 a j e
          · rw [d1 _ _ (by omega)]
            by_cases w : A 175 u = -9
            · rw [if_pos w, c3 u (fun k hk e => by
                have z := (hM.2 u hu).mp (by rw [e]; exact (nth_ok hk).1)
                exact z w)]
              rw [o1 _ _ (by omega) (by omega)]
              exact bo _ _ (by omega) (by omega)
            · have hb := (hM.2 u hu).mpr w
              have z := c2 (pcR mv u) (pcR_lt hb (by omega))
              rw [nth_ix (by omega) hb] at z
              rw [if_neg w]
              exact z
        · intro t ht ih2 B4 d1 d2
          refine WP_n 2 rfl ?_
          refine WP2_getf rfl rfl rfl rfl rfl ?_
          refine WP_icmpge rfl rfl ⟨by omega, by omega⟩ ⟨by omega, by omega⟩ (fun h50 => absurd h50 (by omega)) (fun h50 => ?_)
          refine WP_n 1 rfl ?_
          refine WP2_getf rfl rfl rfl rfl rfl ?_
          refine WP_n 2 rfl ?_
          refine WP2_iast (j := t) rfl rfl (ia_lit (n := 16) rfl rfl (by omega)) (by omega) (by omega) (by omega) ?_
          refine WP_n 2 rfl ?_
          refine ih2 _ (fun a j q => by rw [up2_ne (by omega)]; exact d1 a j (by omega)) (fun u hu => ?_)
          by_cases e : u = t
          · rw [e, up2_same]
          · rw [up2_ne (by omega)]
            exact d2 u (by omega)
      · intro i hi ih B3 c1 c2 c3
        have hti := tb_lt16 hM.1 (nth_ok hi).1
        have e88 : B3 188 i = (nth mv i : Int) := ((c1 _ _ (by omega)).trans (o1 _ _ (by omega) (by omega))).trans (b8 i hi)
        have e75 : B3 175 (nth mv i) = A 175 (nth mv i) := ((c1 _ _ (by omega)).trans (o1 _ _ (by omega) (by omega))).trans (bo _ _ (by omega) (by omega))
        refine WP_n 2 rfl ?_
        refine WP2_getf rfl rfl rfl rfl rfl ?_
        refine WP_icmpge rfl rfl ⟨by omega, by omega⟩ ⟨by omega, by omega⟩ (fun h28 => absurd h28 (by omega)) (fun h28 => ?_)
        refine WP_n 1 rfl ?_
        refine WP2_getf rfl rfl rfl rfl rfl ?_
        refine WP_n 1 rfl ?_
        refine WP2_getf rfl rfl rfl rfl rfl ?_
        refine WP_n 1 rfl ?_
        refine WP2_iald (j := i) rfl rfl (ia_lit (n := 16) rfl rfl (by omega)) (by omega) (by omega) (by omega) ?_
        refine WP_n 1 rfl ?_
        refine WP2_getf rfl rfl rfl rfl rfl ?_
        refine WP_n 1 rfl ?_
        refine WP2_getf rfl rfl rfl rfl rfl ?_
        refine WP_n 1 rfl ?_
        refine WP2_iald (j := i) rfl rfl (ia_lit (n := 16) rfl rfl (by omega)) (by omega) (by omega) (by omega) ?_
        refine WP2_iald (j := (nth mv i)) rfl rfl (ia_lit (n := 16) rfl rfl (by omega)) (by omega) (by omega) (by omega) ?_
        refine WP2_iast (j := (nth mv i)) rfl rfl (ia_lit (n := 16) rfl rfl (by omega)) (by omega) (by omega) (by omega) ?_
        refine WP_n 2 rfl ?_
        rw [e75]
        refine ih _ (fun a j q => by rw [up2_ne (Or.inl q)]; exact c1 a j q) (fun k hk => ?_) (fun t ht => ?_)
        · by_cases e : k = i
          · rw [e, up2_same]
          · rw [up2_ne (Or.inr (fun q => e (nth_inj (by omega) hi q)))]
            exact c2 k (by omega)
        · rw [up2_ne (Or.inr (ht i (by omega)))]
          exact c3 t (fun k hk => ht k (by omega))
    · refine WP_n 2 rfl ?_
      refine WP2_callV 1 ok_M_G_no rfl rfl rfl rfl rfl rfl (Nat.le_of_ble_eq_true rfl) (Nat.le_of_ble_eq_true rfl) rfl rfl ?_
      refine sp_no (k := 3) rfl (by omega) ?_
      refine WP_iret rfl rfl rfl ⟨_, rfl, ?_⟩
      have h18' : B2 190 y0 = -9 := by omega
      rw [h18'] at hDS
      exact r3 s9 mv st F1 B2 hr hd hs2 hDS
  · subst hk
    refine WP_n 2 rfl ?_
    refine WP_ifeq rfl rfl ⟨by omega, by omega⟩ (fun h5 => absurd h5 (by omega)) (fun h5 => ?_)
    refine WP_n 2 rfl ?_
    refine WP2_callV 1 ok_M_G_no rfl rfl rfl rfl rfl rfl (Nat.le_of_ble_eq_true rfl) (Nat.le_of_ble_eq_true rfl) rfl rfl ?_
    refine sp_no (k := k) rfl hk1 ?_
    exact WP_iret rfl rfl rfl ⟨_, rfl, no k F1 B hk1 hr hs1⟩

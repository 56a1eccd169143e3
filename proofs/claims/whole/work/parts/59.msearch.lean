/-! moves of the class: search -/
theorem sp_V_search {P : PP} {d : Nat} {FI A L : Nat → Nat → Int} {X : SX} {Q : Option AV → S2 → Prop} {n : Nat} {c mv st K S s9 : Nat} (hh : HM n FI A c mv st K S) (hM : mvS (fun t => A (20 + t) 6) c mv) (hSt : stS (fun t => A (20 + t) 4) (fun t => A (20 + t) 6) c s9 st) (hs9 : s9 < 2048) (hx : xI P X) {dgP dgT : Nat → Nat} (hP : ∀ m, m < K → dgP m < S ∧ A (20 + nth mv m) 4 = (nth st (dgP m) : Int)) (hT : ∀ m, m < K → dgT m < S ∧ A (20 + nth mv m) 6 = (nth st (dgT m) : Int)) (hq : ∀ (r : Int) (F1 B : Nat → Nat → Int) (X1 : SX) (len : Nat), MSt FI A c mv st K S F1 B → xI P X1 → XO P X1 len → 5 ^ K ≤ len → DST (frM A c mv st) (szM A mv) K S dgT dgP r → (∀ D : Nat, r = (D : Int) → D < 16000 ∧ B X1.2.2.1 (stN dgP K) = (D : Int) ∧ MK (Rn (frM A c mv st) (szM A mv) K S dgT (fun m => m)) (5 ^ K) (-1) (B X1.2.2.1) D ∧ ∀ y, y < 5 ^ K → -1 ≤ B X1.2.2.1 y ∧ B X1.2.2.1 y ≤ 60000) → Q (some (vi r)) (F1, B, L, X1)) : WP2 P M_V_search (d + 3) 0 [some (vr 152), some (vi (s9 : Int)), none, none, none] [] (FI, A, L, X) Q := by
  have hK6 := hh.2.2.2.2.2.1
  have hS5 := hh.2.2.2.2.2.2.2
  have hpK : 5 ^ K ≤ 5 ^ 6 := Nat.pow_le_pow_right (by omega) hK6
  have hK0 : (0 : Int) ≤ ((5 ^ K : Nat) : Int) := Int.natCast_nonneg _
  have he : PM (fun m => m) K := ⟨fun i hi => hi, fun i hi => rfl⟩
  have hs0 : stN dgP K < 5 ^ K := stN_lt K (fun m hm => by have := (hP m hm).1; omega)
  have hs1 : ∀ m, m < K → gd (fun m => m) (stN dgP K) m = dgP m := stN_dig K (fun m hm => by have := (hP m hm).1; omega)
  have hg0 : stN dgT K < 5 ^ K := stN_lt K (fun m hm => by have := (hT m hm).1; omega)
  have hg1 : ∀ m, m < K → gd (fun m => m) (stN dgT K) m = dgT m := stN_dig K (fun m hm => by have := (hT m hm).1; omega)
  have hR := Rn.zero (fr := frM A c mv st) (sz := szM A mv) he hg0 hg1 (fun m hm => (hT m hm).1)
  have hR0 : ∀ x y, x < 5 ^ K → y < 5 ^ K → (Rn (frM A c mv st) (szM A mv) K S dgT (fun m => m)) 0 x → (Rn (frM A c mv st) (szM A mv) K S dgT (fun m => m)) 0 y → x = y := fun x y hx hy a b => by rw [(hR x hx).mp a, (hR y hy).mp b]
  refine WP_n 2 rfl ?_
  refine WP2_callV 1 ok_M_V_prepare rfl rfl rfl rfl rfl rfl (Nat.le_of_ble_eq_true rfl) (Nat.le_of_ble_eq_true rfl) rfl rfl ?_
  refine sp_prepare hh hM hSt hs9 hx (fun F1 B X1 len hMS hx1 hXO hlen hml => ?_)
  have f9 := hMS.2.1.1
  obtain ⟨HA_ml, HA_qu, x3, x4, x5, x6⟩ := id hXO
  refine WP2_gets (x := 4) rfl rfl rfl ?_
  refine WP_n 1 rfl ?_
  refine WP2_getf rfl rfl rfl rfl rfl ?_
  refine WP2_ialds (j := K) rfl rfl (ia_lit (n := 7) rfl rfl (by omega)) (by omega) (by omega) (by omega) ?_
  rw [show st5 P 4 K = PWt K from rfl, PWt_pow K (by omega)]
  refine WP_n 3 rfl ?_
  refine WP2_callV 1 ok_M_V_stateBy rfl rfl rfl rfl rfl rfl (Nat.le_of_ble_eq_true rfl) (Nat.le_of_ble_eq_true rfl) rfl rfl ?_
  refine sp_stateBy (W := 4) hh hMS (Or.inl rfl) hP ?_
  refine WP_n 3 rfl ?_
  refine WP2_putk (k := 8) rfl rfl rfl rfl rfl rfl (by exact trivial) ?_
  refine WP_n 3 rfl ?_
  refine WP2_callV 1 ok_M_V_stateBy rfl rfl rfl rfl rfl rfl (Nat.le_of_ble_eq_true rfl) (Nat.le_of_ble_eq_true rfl) rfl rfl ?_
  refine sp_stateBy (W := 6) hh (hMS.up hK6 hS5 (fun _ _ _ => rfl) (fun a k q => up2_ne (by omega))) (Or.inr rfl) hT ?_
  refine WP_n 1 rfl ?_
  refine WP2_callV 2 ok_M_V_enqueue rfl rfl rfl rfl rfl rfl (Nat.le_of_ble_eq_true rfl) (Nat.le_of_ble_eq_true rfl) rfl rfl ?_
  refine sp_enqueue (x := stN dgT K) (k := 0) (lf := 0) hXO (by omega) (by rw [hml _ hg0]; omega) up2_same (fun _ => by omega) (fun hu => absurd (hml _ hg0) hu) (fun hu => ?_)
  refine WP_n 2 rfl ?_
  have fin : ∀ (h : Nat) (F1 B : Nat → Nat → Int) (k : Nat), MSt FI A c mv st K S F1 B → QB (Rn (frM A c mv st) (szM A mv) K S dgT (fun m => m)) (En (frM A c mv st) (szM A mv) K S (fun m => m)) (5 ^ K) (-1) (B X1.2.2.1) (B X1.2.2.2.1) k h → F1 152 8 = (k : Int) → (k ≤ h ∨ B X1.2.2.1 (stN dgP K) ≠ -1) → WP2 P M_V_search (d + 3) 44 [some (vr 152), some (vi (s9 : Int)), some (vi ((5 ^ K : Nat) : Int)), some (vi (stN dgP K : Int)), some (vi (h : Int))] [] (F1, B, L, X1) Q := fun h F1 B k hMS hB hk hex => by
    have hbd := hB.bd (by omega) hs0
    have hmg : B X1.2.2.1 (stN dgT K) ≠ -1 := by
      have h0 := (hB.1.2.2.2.1 _ (hB.1.1 0 hB.2.2.2.1) (by show B X1.2.2.1 (B X1.2.2.2.1 0).toNat ≠ -1; rw [hB.2.2.1]; omega))
      obtain ⟨j, j1, j2, j3⟩ := h0
      have e0 : B X1.2.2.1 (B X1.2.2.2.1 0).toNat = (j : Int) := j1
      rw [hB.2.2.1] at e0
      obtain rfl : j = 0 := by omega
      have := (hR _ (hB.1.1 0 hB.2.2.2.1)).mp j2
      rw [← this]
      show B X1.2.2.1 (B X1.2.2.2.1 0).toNat ≠ -1
      rw [hB.2.2.1]
      omega
    have hle := hB.1.2.2.2.2.2.2.2.2
    refine WP_n 1 rfl ?_
    refine WP2_getf rfl rfl rfl rfl rfl ?_
    refine WP_n 1 rfl ?_
    refine WP2_iald (j := stN dgP K) rfl rfl (HA_ml) (by omega) (by omega) (by omega) ?_
    refine WP_n 1 rfl ?_
    refine WP_icmpne rfl rfl ⟨by omega, by omega⟩ ⟨by omega, by omega⟩ (fun h49 => ?_) (fun h49 => ?_)
    · refine WP_n 1 rfl ?_
      refine WP2_getf rfl rfl rfl rfl rfl ?_
      refine WP_n 1 rfl ?_
      refine WP2_iald (j := stN dgP K) rfl rfl (HA_ml) (by omega) (by omega) (by omega) ?_
      refine WP_iret rfl rfl rfl ⟨_, rfl, ?_⟩
      obtain ⟨D, d1, d2, d3⟩ := hB.1.2.2.2.1 _ hs0 h49
      have hDst : mD (frM A c mv st) (szM A mv) K S dgT D dgP := ⟨RchF_congr D hs1 d2.2, fun j hj => d3 j ⟨fun m hm => by rw [hs1 m hm]; exact (hP m hm).1, RchF_congr j (fun m hm => (hs1 m hm).symm) hj⟩⟩
      refine hq _ F1 B X1 len hMS hx1 hXO hlen (Or.inr ⟨D, d1, hDst⟩) (fun D' e => ?_)
      obtain rfl : D' = D := by omega
      refine ⟨by omega, d1, ?_, fun y hy => by have z := hB.bd (by omega) hy; omega⟩
      by_cases w : h < k
      · exact MK.of hB.1 w hs0 d1 (by omega)
      · obtain rfl : h = k := by omega
        exact MK.fin hB.1 hg0 hR hmg (Rn.dn hS5 he)
    · refine WP_n 2 rfl ?_
      refine WP_iret rfl rfl rfl ⟨_, rfl, ?_⟩
      obtain rfl : h = k := by omega
      have hd := hB.1.done hg0 hR hmg (Rn.dn hS5 he)
      refine hq _ F1 B X1 len hMS hx1 hXO hlen (Or.inl ⟨rfl, fun j hj => ?_⟩) (fun D e => absurd e (by omega))
      exact hd j _ hs0 ⟨fun m hm => by rw [hs1 m hm]; exact (hP m hm).1, RchF_congr j (fun m hm => (hs1 m hm).symm) hj⟩ (by omega)
  suffices hw : ∀ h, h ≤ 5 ^ K → ∀ (F1 B : Nat → Nat → Int) (k : Nat), MSt FI A c mv st K S F1 B → QB (Rn (frM A c mv st) (szM A mv) K S dgT (fun m => m)) (En (frM A c mv st) (szM A mv) K S (fun m => m)) (5 ^ K) (-1) (B X1.2.2.1) (B X1.2.2.2.1) k h → F1 152 8 = (k : Int) → WP2 P M_V_search (d + 3) 23 [some (vr 152), some (vi (s9 : Int)), some (vi ((5 ^ K : Nat) : Int)), some (vi (stN dgP K : Int)), some (vi (h : Int))] [] (F1, B, L, X1) Q from hw 0 (by omega) _ _ 1 (hMS.up hK6 hS5 (fun a j q => by rw [up2_ne (by omega), up2_ne (by omega)]) (fun a j q => by rw [up2_ne (by omega), up2_ne (by omega)])) (QB.start (by omega) hg0 hR up2_same (fun x hx => ?_)) up2_same
  · rw [up2_ne (by omega)]
    by_cases w : x = stN dgT K
    · rw [if_pos w, up2_eq ⟨rfl, w⟩]
      rfl
    · rw [if_neg w, up2_ne (Or.inr w)]
      exact hml x hx
  clear hml f9 hMS F1 B hu
  refine up_to (P := fun h => ∀ (F1 B : Nat → Nat → Int) (k : Nat), MSt FI A c mv st K S F1 B → QB (Rn (frM A c mv st) (szM A mv) K S dgT (fun m => m)) (En (frM A c mv st) (szM A mv) K S (fun m => m)) (5 ^ K) (-1) (B X1.2.2.1) (B X1.2.2.2.1) k h → F1 152 8 = (k : Int) → WP2 P M_V_search (d + 3) 23 [some (vr 152), some (vi (s9 : Int)), some (vi ((5 ^ K : Nat) : Int)), some (vi (stN dgP K : Int)), some (vi (h : Int))] [] (F1, B, L, X1) Q) (5 ^ K) ?_ ?_
  · intro F1 B k hMS hB hk
    have hle := hB.1.le
    refine WP_n 2 rfl ?_
    refine WP_icmpge rfl rfl ⟨by omega, by omega⟩ ⟨by omega, by omega⟩ (fun h25 => ?_) (fun h25 => absurd h25 (by omega))
    exact fin (5 ^ K) F1 B k hMS hB hk (Or.inl hle)
  · intro h hh5 ih F1 B k hMS hB hk
    have hle := hB.1.le
    have hbd := hB.bd (by omega) hs0
    refine WP_n 2 rfl ?_
    refine WP_icmpge rfl rfl ⟨by omega, by omega⟩ ⟨by omega, by omega⟩ (fun h25 => absurd h25 (by omega)) (fun h25 => ?_)
    refine WP_n 2 rfl ?_
    refine WP2_getf rfl rfl rfl rfl rfl ?_
    refine WP_icmpge rfl rfl ⟨by omega, by omega⟩ ⟨by omega, by omega⟩ (fun h29 => ?_) (fun h29 => ?_)
    · exact fin h F1 B k hMS hB hk (Or.inl (by omega))
    · refine WP_n 1 rfl ?_
      refine WP2_getf rfl rfl rfl rfl rfl ?_
      refine WP_n 1 rfl ?_
      refine WP2_iald (j := stN dgP K) rfl rfl (HA_ml) (by omega) (by omega) (by omega) ?_
      refine WP_n 1 rfl ?_
      refine WP_icmpne rfl rfl ⟨by omega, by omega⟩ ⟨by omega, by omega⟩ (fun h35 => ?_) (fun h35 => ?_)
      · exact fin h F1 B k hMS hB hk (Or.inr h35)
      · obtain ⟨y, hqe⟩ : ∃ y : Nat, B X1.2.2.2.1 h = (y : Int) := ⟨(B X1.2.2.2.1 h).toNat, by have := hB.2.1 h (by omega); omega⟩
        have hqN : y < 5 ^ K := by
          have z : (B X1.2.2.2.1 h).toNat < 5 ^ K := hB.1.1 h (by omega)
          rw [hqe] at z
          exact z
        refine WP_n 2 rfl ?_
        refine WP2_getf rfl rfl rfl rfl rfl ?_
        refine WP_n 1 rfl ?_
        refine WP2_iald (j := h) rfl rfl (HA_qu) (by omega) (by omega) (by omega) ?_
        rw [hqe]
        refine WP2_callV 1 ok_M_V_enqueueBefore rfl rfl rfl rfl rfl rfl (Nat.le_of_ble_eq_true rfl) (Nat.le_of_ble_eq_true rfl) rfl rfl ?_
        refine sp_enqueueBefore hh hMS hXO hlen hqN hB hk (by omega) hqe hR0 (fun F2 B2 k2 m1 m2 m3 => ?_)
        refine WP_n 2 rfl ?_
        exact ih _ _ k2 m1 m2 m3

/-! lack and least, both sides -/
def stP (s : Int) (r : Nat → Int) (j : Nat) : Int := (r j * (64 - s) + (if 0 < j then r (j - 1) * s else 0)) / 64
def rowP (hm su : Nat → Int) (d : Nat) : Nat → Nat → Int
  | 0 => fun j => if j = 0 then 1073741824 else 0
  | p + 1 => if bitN (hm p).toNat d = 1 then rowP hm su d p else stP (su p) (rowP hm su d p)
def tlS (r : Nat → Int) (n m : Nat) : Int := sumN (fun i => r (n + 1 + i)) m
theorem sumN_nn {f : Nat → Int} : ∀ n, (∀ t, t < n → 0 ≤ f t) → 0 ≤ sumN f n
  | 0, _ => Int.le_refl 0
  | n + 1, h => by
    have := sumN_nn n (fun t ht => h t (by omega))
    have := h n (by omega)
    show 0 ≤ sumN f n + f n
    omega
theorem sumN_le_s {f : Nat → Int} {a b : Nat} (hab : a ≤ b) (h : ∀ t, t < b → 0 ≤ f t) : sumN f a ≤ sumN f b := by
  induction b with
  | zero => rw [show a = 0 by omega]; exact Int.le_refl _
  | succ b ih =>
    by_cases e : a = b + 1
    · rw [e]; exact Int.le_refl _
    · have := ih (by omega) (fun t ht => h t (by omega))
      have := h b (by omega)
      show sumN f a ≤ sumN f b + f b
      omega
theorem sumN_add {f : Nat → Int} (a : Nat) : ∀ m, sumN f (a + m) = sumN f a + sumN (fun i => f (a + i)) m
  | 0 => (Int.add_zero _).symm
  | m + 1 => by
    show sumN f (a + m) + f (a + m) = sumN f a + (sumN (fun i => f (a + i)) m + f (a + m))
    rw [sumN_add a m, Int.add_assoc]
theorem div64 (x : Int) : 64 * (x / 64) ≤ x ∧ (0 ≤ x → 0 ≤ x / 64) := by omega
theorem stP_sum {s : Int} {r : Nat → Int} : ∀ n, 64 * sumN (stP s r) (n + 1) ≤ (64 - s) * sumN r (n + 1) + s * sumN r n
  | 0 => by
    show 64 * (0 + stP s r 0) ≤ (64 - s) * (0 + r 0) + s * 0
    unfold stP
    rw [if_neg (by omega)]
    have h := (div64 (r 0 * (64 - s) + 0)).1
    rw [Int.mul_comm (64 - s) _, Int.zero_add, Int.zero_add]
    omega
  | n + 1 => by
    have ih := stP_sum (s := s) (r := r) n
    show 64 * (sumN (stP s r) (n + 1) + stP s r (n + 1)) ≤ (64 - s) * (sumN r (n + 1) + r (n + 1)) + s * (sumN r n + r n)
    have e : stP s r (n + 1) = (r (n + 1) * (64 - s) + r n * s) / 64 := by
      unfold stP
      rw [if_pos (by omega)]
      rfl
    have h := (div64 (r (n + 1) * (64 - s) + r n * s)).1
    rw [e, Int.mul_add, Int.mul_add, Int.mul_add s]
    rw [Int.mul_comm (64 - s) (r (n + 1)), Int.mul_comm s (r n)]
    omega
theorem stP_nn {s : Int} {r : Nat → Int} (h0 : 0 ≤ s ∧ s ≤ 64) (h : ∀ j, 0 ≤ r j) (j : Nat) : 0 ≤ stP s r j := by
  unfold stP
  refine (div64 _).2 ?_
  have a1 := Int.mul_nonneg (h j) (by omega : 0 ≤ 64 - s)
  have a2 := Int.mul_nonneg (h (j - 1)) h0.1
  split <;> omega
theorem rowP_nn {hm su : Nat → Int} {d : Nat} : ∀ p, (∀ q, q < p → 0 ≤ su q ∧ su q ≤ 64) → ∀ j, 0 ≤ rowP hm su d p j
  | 0, _, j => by
    show 0 ≤ (if j = 0 then _ else _)
    split <;> omega
  | p + 1, h, j => by
    have ih := rowP_nn (hm := hm) (d := d) p (fun q hq => h q (by omega))
    by_cases e : bitN (hm p).toNat d = 1
    · rw [show rowP hm su d (p + 1) = rowP hm su d p from if_pos e]
      exact ih j
    · rw [show rowP hm su d (p + 1) = stP (su p) (rowP hm su d p) from if_neg e]
      exact stP_nn (h p (by omega)) ih j
theorem rowP_sum {hm su : Nat → Int} {d : Nat} : ∀ p, (∀ q, q < p → 0 ≤ su q ∧ su q ≤ 64) → ∀ n, sumN (rowP hm su d p) n ≤ 1073741824
  | 0, _, n => by
    have : ∀ n, sumN (rowP hm su d 0) n ≤ 1073741824 ∧ (n = 0 → sumN (rowP hm su d 0) n = 0) := by
      intro n
      induction n with
      | zero => exact ⟨by show (0 : Int) ≤ _; omega, fun _ => rfl⟩
      | succ n ih =>
        refine ⟨?_, fun q => absurd q (by omega)⟩
        show sumN (rowP hm su d 0) n + (if n = 0 then 1073741824 else 0) ≤ 1073741824
        split
        · rw [ih.2 (by omega)]; omega
        · omega
    exact (this n).1
  | p + 1, h, n => by
    have ih := rowP_sum (hm := hm) (d := d) p (fun q hq => h q (by omega))
    have nn := rowP_nn (hm := hm) (su := su) (d := d) p (fun q hq => h q (by omega))
    by_cases e : bitN (hm p).toNat d = 1
    · rw [show rowP hm su d (p + 1) = rowP hm su d p from if_pos e]
      exact ih n
    · rw [show rowP hm su d (p + 1) = stP (su p) (rowP hm su d p) from if_neg e]
      cases n with
      | zero => show (0 : Int) ≤ _; omega
      | succ n =>
        have hs := h p (by omega)
        have k := stP_sum (s := su p) (r := rowP hm su d p) n
        have i1 := ih (n + 1)
        have i2 := ih n
        have m1 := Int.mul_le_mul_of_nonneg_left i1 (by omega : 0 ≤ 64 - su p)
        have m2 := Int.mul_le_mul_of_nonneg_left i2 hs.1
        have e3 : (64 - su p) * 1073741824 + su p * 1073741824 = 64 * 1073741824 := by omega
        omega
theorem rowP_hi {hm su : Nat → Int} {d : Nat} : ∀ p j, p < j → rowP hm su d p j = 0
  | 0, j, h => if_neg (by omega)
  | p + 1, j, h => by
    have i1 := rowP_hi (hm := hm) (su := su) (d := d) p j (by omega)
    have i2 := rowP_hi (hm := hm) (su := su) (d := d) p (j - 1) (by omega)
    by_cases e : bitN (hm p).toNat d = 1
    · rw [show rowP hm su d (p + 1) = rowP hm su d p from if_pos e]
      exact i1
    · rw [show rowP hm su d (p + 1) = stP (su p) (rowP hm su d p) from if_neg e]
      unfold stP
      rw [i1, i2, if_pos (by omega)]
      simp
theorem rowP_le {hm su : Nat → Int} {d : Nat} (p : Nat) (h : ∀ q, q < p → 0 ≤ su q ∧ su q ≤ 64) (j : Nat) : rowP hm su d p j ≤ 1073741824 := by
  have h1 := sumN_ge (f := rowP hm su d p) (T := j) (j + 1) (fun t _ => rowP_nn p h t) (by omega)
  have h2 := rowP_sum (hm := hm) (d := d) p h (j + 1)
  omega
theorem rowP_congr {hm su hm' su' : Nat → Int} {d : Nat} : ∀ p, (∀ q, q < p → hm q = hm' q ∧ su q = su' q) → rowP hm su d p = rowP hm' su' d p
  | 0, _ => rfl
  | p + 1, h => by
    show (if _ then _ else _) = (if _ then _ else _)
    rw [(h p (by omega)).1, (h p (by omega)).2, rowP_congr p (fun q hq => h q (by omega))]
theorem tlS_bd {r : Nat → Int} (h : ∀ j, 0 ≤ r j) (hs : ∀ n, sumN r n ≤ 1073741824) (n m : Nat) : 0 ≤ tlS r n m ∧ tlS r n m ≤ 1073741824 := by
  have e := sumN_add (f := r) (n + 1) m
  have a := hs (n + 1 + m)
  have b := sumN_nn (f := r) (n + 1) (fun t _ => h t)
  have c := sumN_nn (f := fun i => r (n + 1 + i)) m (fun t _ => h _)
  unfold tlS
  omega
theorem tlS_mono {r : Nat → Int} (h : ∀ j, 0 ≤ r j) {a b : Nat} (hab : a ≤ b) (hb : b ≤ 20) : tlS r b (20 - b) ≤ tlS r a (20 - a) := by
  have e1 := sumN_add (f := r) (a + 1) (20 - a)
  have e2 := sumN_add (f := r) (b + 1) (20 - b)
  rw [show a + 1 + (20 - a) = 21 by omega] at e1
  rw [show b + 1 + (20 - b) = 21 by omega] at e2
  have := sumN_le_s (f := r) (a := a + 1) (b := b + 1) (by omega) (fun t _ => h t)
  unfold tlS
  omega
theorem sp_fillL {P : PP} {d : Nat} {FI A L : Nat → Nat → Int} {X : SX} {Q : Option AV → S2 → Prop} {v : Int} (hq : ∀ L' : Nat → Nat → Int, (∀ j, j < 21 → L' 161 j = v) → Q none (FI, A, L', X)) : WP2 P J_fillL (d) 0 [some (vr 161), some (vl v), none, none, none] [] (FI, A, L, X) Q := by
  refine WP_n 3 rfl ?_
  refine WP2_alenl rfl rfl rfl ?_
  refine WP_n 1 rfl ?_
  suffices hh : ∀ k, k ≤ 21 → ∀ L' : Nat → Nat → Int, (∀ j, j < k → L' 161 j = v) → WP2 P J_fillL d 5 [some (vr 161), some (vl v), none, some (vi (k : Int)), some (vi 21)] [] (FI, A, L', X) Q from hh 0 (by omega) L (fun j hj => absurd hj (by omega))
  refine up_to (P := fun k => ∀ L' : Nat → Nat → Int, (∀ j, j < k → L' 161 j = v) → WP2 P J_fillL d 5 [some (vr 161), some (vl v), none, some (vi (k : Int)), some (vi 21)] [] (FI, A, L', X) Q) 21 ?_ ?_
  · intro L' hL
    refine WP_n 2 rfl ?_
    refine WP_icmpge rfl rfl ⟨by omega, by omega⟩ ⟨by omega, by omega⟩ (fun h7 => ?_) (fun h7 => absurd h7 (by omega))
    exact WP_vret rfl rfl rfl ⟨_, rfl, hq L' hL⟩
  · intro k hk ih L' hL
    refine WP_n 2 rfl ?_
    refine WP_icmpge rfl rfl ⟨by omega, by omega⟩ ⟨by omega, by omega⟩ (fun h7 => absurd h7 (by omega)) (fun h7 => ?_)
    refine WP_n 3 rfl ?_
    refine WP2_last (j := k) (n := 21) rfl rfl rfl rfl (by omega) (by omega) ?_
    refine WP_n 2 rfl ?_
    exact ih _ (fun j hj => by
      by_cases e : j = k
      · exact up2_eq ⟨rfl, e⟩
      · rw [up2_ne (by omega)]
        exact hL j (by omega))
theorem sp_addPerson {P : PP} {d : Nat} {FI A L : Nat → Nat → Int} {X : SX} {Q : Option AV → S2 → Prop} (hr : ∀ j, j < 21 → 0 ≤ L 161 j ∧ L 161 j ≤ 1073741824) {s : Int} (hs : 0 ≤ s ∧ s ≤ 64) (hq : ∀ L' : Nat → Nat → Int, (∀ j, j < 21 → L' 161 j = stP s (L 161) j) → Q none (FI, A, L', X)) : WP2 P M_C_addPerson (d) 0 [some (vr 160), some (vi s), none, none, none] [] (FI, A, L, X) Q := by
  suffices hh : ∀ k : Nat, k ≤ 21 → ∀ L' : Nat → Nat → Int, (∀ j, j < k → L' 161 j = L 161 j) → (∀ j, k ≤ j → j < 21 → L' 161 j = stP s (L 161) j) → WP2 P M_C_addPerson d 2 [some (vr 160), some (vi s), some (vi ((k : Int) - 1)), none, none] [] (FI, A, L', X) Q from WP_n 2 rfl (hh 21 (by omega) L (fun j _ => rfl) (fun j h1 h2 => absurd h1 (by omega)))
  intro k
  induction k with
  | zero =>
    intro _ L' hlo hhi
    refine WP_n 1 rfl ?_
    refine WP_iflt rfl rfl ⟨by omega, by omega⟩ (fun h3 => ?_) (fun h3 => absurd h3 (by omega))
    exact WP_vret rfl rfl rfl ⟨_, rfl, hq L' (fun j hj => hhi j (by omega) hj)⟩
  | succ k ih =>
    intro hk L' hlo hhi
    rw [show ((k + 1 : Nat) : Int) - 1 = (k : Int) by omega]
    have h1 := hr k (by omega)
    have e1 := hlo k (by omega)
    have m1 := mulB (x := L 161 k) (y := 64 - s) (a := 1073741824) (b := 64) (by omega) (by omega) (by omega) (by omega)
    refine WP_n 1 rfl ?_
    refine WP_iflt rfl rfl ⟨by omega, by omega⟩ (fun h3 => absurd h3 (by omega)) (fun h3 => ?_)
    refine WP_n 1 rfl ?_
    refine WP_ifle rfl rfl ⟨by omega, by omega⟩ (fun h5 => ?_) (fun h5 => ?_)
    · refine WP_n 3 rfl ?_
      refine WP2_getf rfl rfl rfl rfl rfl ?_
      refine WP_n 2 rfl ?_
      refine WP2_getf rfl rfl rfl rfl rfl ?_
      refine WP_n 1 rfl ?_
      refine WP2_lald (j := k) (n := 21) rfl rfl rfl rfl (by omega) (by omega) ?_
      rw [e1]
      refine WP_n 3 rfl ?_
      refine WP_i2l rfl ⟨by omega, by omega⟩ rfl ?_
      refine WP_n 3 rfl ?_
      refine WP2_ldc2w (x := 64) rfl rfl rfl ?_
      refine WP_ldiv rfl (by omega) (by omega) (by omega) (by omega) rfl ?_
      refine WP2_last (j := k) (n := 21) rfl rfl rfl rfl (by omega) (by omega) ?_
      refine WP_n 2 rfl ?_
      have est : stP s (L 161) k = (L 161 k * (64 - s) + 0) / 64 := by
        unfold stP
        rw [if_neg (by omega)]
      refine WP2_kill 3 (ih (by omega) _ (fun j hj => by rw [up2_ne (by omega)]; exact hlo j (by omega)) (fun j hj hj2 => ?_))
      by_cases e : j = k
      · rw [e, est]
        exact up2_eq ⟨rfl, rfl⟩
      · rw [up2_ne (by omega)]
        exact hhi j (by omega) hj2
    · have h2 := hr (k - 1) (by omega)
      have e2 := hlo (k - 1) (by omega)
      have m2 := mulB (x := L 161 (k - 1)) (y := s) (a := 1073741824) (b := 64) (by omega) (by omega) (by omega) (by omega)
      refine WP_n 1 rfl ?_
      refine WP2_getf rfl rfl rfl rfl rfl ?_
      refine WP_n 3 rfl ?_
      refine WP2_lald (j := (k - 1)) (n := 21) rfl rfl rfl rfl (by omega) (by omega) ?_
      rw [e2]
      refine WP_n 1 rfl ?_
      refine WP_i2l rfl ⟨by omega, by omega⟩ rfl ?_
      refine WP_n 4 rfl ?_
      refine WP2_getf rfl rfl rfl rfl rfl ?_
      refine WP_n 2 rfl ?_
      refine WP2_getf rfl rfl rfl rfl rfl ?_
      refine WP_n 1 rfl ?_
      refine WP2_lald (j := k) (n := 21) rfl rfl rfl rfl (by omega) (by omega) ?_
      rw [e1]
      refine WP_n 3 rfl ?_
      refine WP_i2l rfl ⟨by omega, by omega⟩ rfl ?_
      refine WP_n 3 rfl ?_
      refine WP2_ldc2w (x := 64) rfl rfl rfl ?_
      refine WP_ldiv rfl (by omega) (by omega) (by omega) (by omega) rfl ?_
      refine WP2_last (j := k) (n := 21) rfl rfl rfl rfl (by omega) (by omega) ?_
      refine WP_n 2 rfl ?_
      have est : stP s (L 161) k = (L 161 k * (64 - s) + L 161 (k - 1) * s) / 64 := by
        unfold stP
        rw [if_pos (by omega)]
      refine WP2_kill 3 (ih (by omega) _ (fun j hj => by rw [up2_ne (by omega)]; exact hlo j (by omega)) (fun j hj hj2 => ?_))
      by_cases e : j = k
      · rw [e, est]
        exact up2_eq ⟨rfl, rfl⟩
      · rw [up2_ne (by omega)]
        exact hhi j (by omega) hj2
theorem sp_spread {P : PP} {d n : Nat} {FI A L : Nat → Nat → Int} {X : SX} {Q : Option AV → S2 → Prop} (hI : cI n FI A) {T told D : Nat} (hT : T < 16) (hD : D < 5) (htold : A (20 + T) 7 = (told : Int)) (hq : ∀ L' : Nat → Nat → Int, (∀ j, j < 21 → L' 161 j = rowP (A (88 + T)) (A (105 + T)) D told j) → Q none (FI, A, L', X)) : WP2 P M_C_spread (d + 1) 0 [some (vr 160), some (vi (T : Int)), some (vi (D : Int)), none] [] (FI, A, L, X) Q := by
  have htm := hI.2.2.2.1 T hT
  unfold cTm at htm
  have hsu : ∀ q, q < told → 0 ≤ A (105 + T) q ∧ A (105 + T) q ≤ 64 := fun q hq => by
    have hpp := hI.2.2.2.2.2.1 T q hT (by omega)
    unfold cPp at hpp
    omega
  refine WP_n 1 rfl ?_
  refine WP2_getf rfl rfl rfl rfl rfl ?_
  refine WP_n 1 rfl ?_
  refine WP2_callS 2 ok_J_fillL rfl rfl rfl rfl rfl rfl rfl (Nat.le_of_ble_eq_true rfl) (Nat.le_of_ble_eq_true rfl) ?_
  refine sp_fillL (fun L0 hL0 => ?_)
  refine WP_n 1 rfl ?_
  refine WP2_getf rfl rfl rfl rfl rfl ?_
  refine WP_n 1 rfl ?_
  refine WP2_ldc2w (x := 1073741824) rfl rfl rfl ?_
  refine WP2_last (j := 0) (n := 21) rfl rfl rfl rfl (by omega) (by omega) ?_
  refine WP_n 2 rfl ?_
  suffices hh : ∀ p, p ≤ told → ∀ L' : Nat → Nat → Int, (∀ j, j < 21 → L' 161 j = rowP (A (88 + T)) (A (105 + T)) D p j) → WP2 P M_C_spread (d + 1) 11 [some (vr 160), some (vi (T : Int)), some (vi (D : Int)), some (vi (p : Int))] [] (FI, A, L', X) Q from hh 0 (by omega) _ (fun j hj => by
    show _ = (if j = 0 then _ else _)
    by_cases e : j = 0
    · rw [if_pos e]
      exact up2_eq ⟨rfl, e⟩
    · rw [if_neg e, up2_ne (by omega)]
      exact hL0 j hj)
  refine up_to (P := fun p => ∀ L' : Nat → Nat → Int, (∀ j, j < 21 → L' 161 j = rowP (A (88 + T)) (A (105 + T)) D p j) → WP2 P M_C_spread (d + 1) 11 [some (vr 160), some (vi (T : Int)), some (vi (D : Int)), some (vi (p : Int))] [] (FI, A, L', X) Q) told ?_ ?_
  · intro L' hL
    refine WP_n 2 rfl ?_
    refine WP2_getf rfl rfl rfl rfl rfl ?_
    refine WP2_getf rfl rfl rfl rfl rfl ?_
    refine WP_n 1 rfl ?_
    refine WP2_aald (b := 20) (j := T) (n := 16) rfl rfl rfl rfl rfl (by omega) (by omega) ?_
    refine WP_n 1 rfl ?_
    refine WP2_iald (j := 7) rfl rfl (ia_tm (by omega)) (by omega) (by omega) (by omega) ?_
    refine WP_icmpge rfl rfl ⟨by omega, by omega⟩ ⟨by omega, by omega⟩ (fun h19 => ?_) (fun h19 => absurd h19 (by omega))
    exact WP_vret rfl rfl rfl ⟨_, rfl, hq L' hL⟩
  · intro p hp ih L' hL
    have hpp := hI.2.2.2.2.2.1 T p hT (by omega)
    unfold cPp at hpp
    obtain ⟨s, hs⟩ : ∃ s : Nat, A (88 + T) p = (s : Int) := ⟨(A (88 + T) p).toNat, by omega⟩
    have hsn : (A (88 + T) p).toNat = s := by omega
    refine WP_n 2 rfl ?_
    refine WP2_getf rfl rfl rfl rfl rfl ?_
    refine WP2_getf rfl rfl rfl rfl rfl ?_
    refine WP_n 1 rfl ?_
    refine WP2_aald (b := 20) (j := T) (n := 16) rfl rfl rfl rfl rfl (by omega) (by omega) ?_
    refine WP_n 1 rfl ?_
    refine WP2_iald (j := 7) rfl rfl (ia_tm (by omega)) (by omega) (by omega) (by omega) ?_
    refine WP_icmpge rfl rfl ⟨by omega, by omega⟩ ⟨by omega, by omega⟩ (fun h19 => absurd h19 (by omega)) (fun h19 => ?_)
    refine WP_n 1 rfl ?_
    refine WP2_getf rfl rfl rfl rfl rfl ?_
    refine WP2_getf rfl rfl rfl rfl rfl ?_
    refine WP_n 1 rfl ?_
    refine WP2_aald (b := 88) (j := T) (n := 16) rfl rfl rfl rfl rfl (by omega) (by omega) ?_
    refine WP_n 1 rfl ?_
    refine WP2_iald (j := p) rfl rfl (ia_hm (by omega)) (by omega) (by omega) (by omega) ?_
    refine WP_n 1 rfl ?_
    refine WP2_callN 2 ok_M_F_holds rfl rfl rfl rfl rfl rfl rfl (Nat.le_of_ble_eq_true rfl) (Nat.le_of_ble_eq_true rfl) ?_
    rw [hs]
    refine sp_holds (by omega) (by omega) (fun hB => ?_) (fun hB => ?_)
    · refine WP_ifne rfl rfl ⟨by decide, by decide⟩  (fun h29 => ?_) (fun h29 => absurd (by decide) h29)
      refine WP_n 2 rfl ?_
      exact ih _ (fun j hj => by rw [hL j hj, show rowP (A (88 + T)) (A (105 + T)) D (p + 1) = rowP (A (88 + T)) (A (105 + T)) D p from if_pos (by rw [hsn]; exact bitN_1 hB)])
    · refine WP_ifne rfl rfl ⟨by decide, by decide⟩  (fun h29 => absurd h29 (by decide)) (fun h29 => ?_)
      refine WP_n 2 rfl ?_
      refine WP2_getf rfl rfl rfl rfl rfl ?_
      refine WP2_getf rfl rfl rfl rfl rfl ?_
      refine WP_n 1 rfl ?_
      refine WP2_aald (b := 105) (j := T) (n := 16) rfl rfl rfl rfl rfl (by omega) (by omega) ?_
      refine WP_n 1 rfl ?_
      refine WP2_iald (j := p) rfl rfl (ia_su (by omega)) (by omega) (by omega) (by omega) ?_
      refine WP2_callV 1 ok_M_C_addPerson rfl rfl rfl rfl rfl rfl (Nat.le_of_ble_eq_true rfl) (Nat.le_of_ble_eq_true rfl) rfl rfl ?_
      refine sp_addPerson (fun j hj => ?_) (by omega) (fun L2 hL2 => ?_)
      · rw [hL j hj]
        exact ⟨rowP_nn p (fun q hq => hsu q (by omega)) j, rowP_le p (fun q hq => hsu q (by omega)) j⟩
      refine WP_n 2 rfl ?_
      exact ih _ (fun j hj => by
        rw [hL2 j hj, show rowP (A (88 + T)) (A (105 + T)) D (p + 1) = stP (A (105 + T) p) (rowP (A (88 + T)) (A (105 + T)) D p) from if_neg (by rw [hsn, bitN_0 hB]; decide)]
        unfold stP
        rw [hL j hj, hL (j - 1) (by omega)])
theorem sp_moreThan {P : PP} {d : Nat} {FI A L : Nat → Nat → Int} {X : SX} {Q : Option AV → S2 → Prop} {r : Nat → Int} (hL : ∀ j, j < 21 → L 161 j = r j) {N : Nat} (hN : N ≤ 20) (hq : Q (some (vi (tlS r N (20 - N)))) (FI, A, L, X)) : WP2 P M_C_moreThan (d) 0 [some (vr 160), some (vi (N : Int)), none, none, none] [] (FI, A, L, X) Q := by
  refine WP_n 6 rfl ?_
  refine up_to (P := fun i => WP2 P M_C_moreThan d 6 [some (vr 160), some (vi (N : Int)), some (vl (tlS r N i)), none, some (vi ((N : Int) + 1 + (i : Int)))] [] (FI, A, L, X) Q) (20 - N) ?_ ?_ 0 (by omega)
  · refine WP_n 2 rfl ?_
    refine WP_icmpgt rfl rfl ⟨by omega, by omega⟩ ⟨by omega, by omega⟩ (fun h8 => ?_) (fun h8 => absurd h8 (by omega))
    refine WP_n 2 rfl ?_
    exact WP_iret rfl rfl rfl ⟨_, rfl, hq⟩
  · intro i hi ih
    refine WP_n 2 rfl ?_
    refine WP_icmpgt rfl rfl ⟨by omega, by omega⟩ ⟨by omega, by omega⟩ (fun h8 => absurd h8 (by omega)) (fun h8 => ?_)
    refine WP_n 2 rfl ?_
    refine WP2_getf rfl rfl rfl rfl rfl ?_
    refine WP_n 1 rfl ?_
    refine WP2_lald (j := (N + 1 + i)) (n := 21) rfl rfl rfl rfl (by omega) (by omega) ?_
    rw [hL _ (by omega)]
    refine WP_n 4 rfl ?_
    exact ih
theorem sp_F_lack {P : PP} {d n c : Nat} {FI A L : Nat → Nat → Int} {X : SX} {Q : Option AV → S2 → Prop} (hI : cI n FI A) (hc : FI 6 8 = (c : Int)) {t m w : Int} (ht : inR t) (hm : inR m) (hw : inR w) (r1 : (t < 0 ∨ (c : Int) ≤ t ∨ w < 0 ∨ 5 ≤ w) → Q (some (vi (-1))) (FI, rfC A 1, L, X)) (r4 : (0 ≤ t ∧ t < (c : Int) ∧ 0 ≤ w ∧ w < 5 ∧ m < 0) → Q (some (vi (-4))) (FI, rfC A 4, L, X)) (r6 : (0 ≤ t ∧ t < (c : Int) ∧ 0 ≤ w ∧ w < 5 ∧ 20 < m) → Q (some (vi (-6))) (FI, rfC A 6, L, X)) (ok : ∀ T D N told : Nat, t = (T : Int) ∧ T < c ∧ w = (D : Int) ∧ D < 5 ∧ m = (N : Int) ∧ N ≤ 20 ∧ A (20 + T) 7 = (told : Int) → ∀ L' : Nat → Nat → Int, Q (some (vi (tlS (rowP (A (88 + T)) (A (105 + T)) D told) N (20 - N)))) (FI, A, L', X)) : WP2 P M_F_lack (d + 2) 0 [some (vr 5), some (vi t), some (vi m), some (vi w)] [] (FI, A, L, X) Q := by
  have hcc := hI.1
  obtain ⟨lm, um⟩ := id hm
  obtain ⟨lw, uw⟩ := id hw
  refine WP_n 2 rfl ?_
  refine WP2_callV 1 ok_M_F_noTeam rfl rfl rfl rfl rfl rfl (Nat.le_of_ble_eq_true rfl) (Nat.le_of_ble_eq_true rfl) rfl rfl ?_
  refine sp_noTeam ht ⟨by omega, by omega⟩ (fun hTt => ?_) (fun hTt hTtb => ?_)
  · refine WP_ifne rfl rfl ⟨by decide, by decide⟩  (fun h3 => ?_) (fun h3 => absurd (by decide) h3)
    refine WP_n 2 rfl ?_
    refine WP2_callV 1 ok_M_F_refuse rfl rfl rfl rfl rfl rfl (Nat.le_of_ble_eq_true rfl) (Nat.le_of_ble_eq_true rfl) rfl rfl ?_
    refine sp_refuse (k := 1) rfl (by omega) ?_
    exact WP_iret rfl rfl rfl ⟨_, rfl, r1 (by omega)⟩
  · refine WP_ifne rfl rfl ⟨by decide, by decide⟩  (fun h3 => absurd h3 (by decide)) (fun h3 => ?_)
    refine WP_n 1 rfl ?_
    refine WP_iflt rfl rfl ⟨by omega, by omega⟩ (fun h5 => ?_) (fun h5 => ?_)
    · refine WP_n 2 rfl ?_
      refine WP2_callV 1 ok_M_F_refuse rfl rfl rfl rfl rfl rfl (Nat.le_of_ble_eq_true rfl) (Nat.le_of_ble_eq_true rfl) rfl rfl ?_
      refine sp_refuse (k := 1) rfl (by omega) ?_
      exact WP_iret rfl rfl rfl ⟨_, rfl, r1 (by omega)⟩
    · refine WP_n 2 rfl ?_
      refine WP_icmplt rfl rfl ⟨by omega, by omega⟩ ⟨by omega, by omega⟩ (fun h8 => ?_) (fun h8 => ?_)
      · refine WP_n 1 rfl ?_
        refine WP_ifge rfl rfl ⟨by omega, by omega⟩ (fun h14 => ?_) (fun h14 => ?_)
        · refine WP_n 2 rfl ?_
          refine WP_icmple rfl rfl ⟨by omega, by omega⟩ ⟨by omega, by omega⟩ (fun h21 => ?_) (fun h21 => ?_)
          · obtain ⟨T, rfl⟩ : ∃ T : Nat, t = (T : Int) := ⟨t.toNat, by omega⟩
            obtain ⟨D, rfl⟩ : ∃ D : Nat, w = (D : Int) := ⟨w.toNat, by omega⟩
            obtain ⟨N, rfl⟩ : ∃ N : Nat, m = (N : Int) := ⟨m.toNat, by omega⟩
            have htm := hI.2.2.2.1 T (by omega)
            unfold cTm at htm
            obtain ⟨told, htold⟩ : ∃ told : Nat, A (20 + T) 7 = (told : Int) := ⟨(A (20 + T) 7).toNat, by omega⟩
            refine WP_n 1 rfl ?_
            refine WP2_getf rfl rfl rfl rfl rfl ?_
            refine WP_n 2 rfl ?_
            refine WP2_callV 2 ok_M_C_spread rfl rfl rfl rfl rfl rfl (Nat.le_of_ble_eq_true rfl) (Nat.le_of_ble_eq_true rfl) rfl rfl ?_
            refine sp_spread hI (by omega) (by omega) htold (fun L2 hL2 => ?_)
            refine WP_n 1 rfl ?_
            refine WP2_getf rfl rfl rfl rfl rfl ?_
            refine WP_n 1 rfl ?_
            refine WP2_callV 1 ok_M_C_moreThan rfl rfl rfl rfl rfl rfl (Nat.le_of_ble_eq_true rfl) (Nat.le_of_ble_eq_true rfl) rfl rfl ?_
            refine sp_moreThan hL2 (by omega) ?_
            exact WP_iret rfl rfl rfl ⟨_, rfl, ok T D N told (by omega) L2⟩
          · refine WP_n 2 rfl ?_
            refine WP2_callV 1 ok_M_F_refuse rfl rfl rfl rfl rfl rfl (Nat.le_of_ble_eq_true rfl) (Nat.le_of_ble_eq_true rfl) rfl rfl ?_
            refine sp_refuse (k := 6) rfl (by omega) ?_
            exact WP_iret rfl rfl rfl ⟨_, rfl, r6 (by omega)⟩
        · refine WP_n 2 rfl ?_
          refine WP2_callV 1 ok_M_F_refuse rfl rfl rfl rfl rfl rfl (Nat.le_of_ble_eq_true rfl) (Nat.le_of_ble_eq_true rfl) rfl rfl ?_
          refine sp_refuse (k := 4) rfl (by omega) ?_
          exact WP_iret rfl rfl rfl ⟨_, rfl, r4 (by omega)⟩
      · refine WP_n 2 rfl ?_
        refine WP2_callV 1 ok_M_F_refuse rfl rfl rfl rfl rfl rfl (Nat.le_of_ble_eq_true rfl) (Nat.le_of_ble_eq_true rfl) rfl rfl ?_
        refine sp_refuse (k := 1) rfl (by omega) ?_
        exact WP_iret rfl rfl rfl ⟨_, rfl, r1 (by omega)⟩
theorem sp_lacks {P : PP} {d n : Nat} {FI A L : Nat → Nat → Int} {X : SX} {Q : Option AV → S2 → Prop} (hI : mI n FI A) {T told D N : Nat} (hT : T < 16) (hD : D < 5) (hN : N ≤ 20) (htold : A 176 T = (told : Int)) (hq : ∀ L' : Nat → Nat → Int, Q (some (vl (tlS (rowP (fun p => A 182 (20 * T + p)) (fun p => A 183 (20 * T + p)) D told) N (20 - N)))) (FI, A, L', X)) : WP2 P M_G_lacks (d + 1) 0 [some (vr 165), some (vi (T : Int)), some (vi (N : Int)), some (vi (D : Int)), none, none, none] [] (FI, A, L, X) Q := by
  have htm := hI.2.2.2.2.1 T hT
  unfold mTm at htm
  have hsu : ∀ q, q < told → 0 ≤ (fun p => A 183 (20 * T + p)) q ∧ (fun p => A 183 (20 * T + p)) q ≤ 64 := fun q hq => by
    have hpp := hI.2.2.2.2.2.2.1 (20 * T + q) (by omega)
    unfold mPp at hpp
    show 0 ≤ A 183 (20 * T + q) ∧ A 183 (20 * T + q) ≤ 64
    omega
  refine WP_n 2 rfl ?_
  suffices hh : ∀ k, k ≤ 22 → ∀ L' : Nat → Nat → Int, (∀ j, j < k → L' 192 j = 0) → WP2 P M_G_lacks (d + 1) 2 [some (vr 165), some (vi (T : Int)), some (vi (N : Int)), some (vi (D : Int)), some (vi (k : Int)), none, none] [] (FI, A, L', X) Q from hh 0 (by omega) L (fun j hj => absurd hj (by omega))
  refine up_to (P := fun k => ∀ L' : Nat → Nat → Int, (∀ j, j < k → L' 192 j = 0) → WP2 P M_G_lacks (d + 1) 2 [some (vr 165), some (vi (T : Int)), some (vi (N : Int)), some (vi (D : Int)), some (vi (k : Int)), none, none] [] (FI, A, L', X) Q) 22 ?_ ?_
  · intro L0 hL0
    refine WP_n 2 rfl ?_
    refine WP_icmpge rfl rfl ⟨by omega, by omega⟩ ⟨by omega, by omega⟩ (fun h4 => ?_) (fun h4 => absurd h4 (by omega))
    refine WP_n 1 rfl ?_
    refine WP2_getf rfl rfl rfl rfl rfl ?_
    refine WP_n 1 rfl ?_
    refine WP2_ldc2w (x := 1073741824) rfl rfl rfl ?_
    refine WP2_last (j := 0) (n := 22) rfl rfl rfl rfl (by omega) (by omega) ?_
    refine WP_n 2 rfl ?_
    suffices hh : ∀ p, p ≤ told → ∀ L' : Nat → Nat → Int, (∀ j, j < 22 → L' 192 j = rowP (fun p => A 182 (20 * T + p)) (fun p => A 183 (20 * T + p)) D p j) → WP2 P M_G_lacks (d + 1) 19 [some (vr 165), some (vi (T : Int)), some (vi (N : Int)), some (vi (D : Int)), some (vi (p : Int)), none, none] [] (FI, A, L', X) Q from hh 0 (by omega) _ (fun j hj => by
      show _ = (if j = 0 then _ else _)
      by_cases e : j = 0
      · rw [if_pos e]
        exact up2_eq ⟨rfl, e⟩
      · rw [if_neg e, up2_ne (by omega)]
        exact hL0 j hj)
    refine up_to (P := fun p => ∀ L' : Nat → Nat → Int, (∀ j, j < 22 → L' 192 j = rowP (fun p => A 182 (20 * T + p)) (fun p => A 183 (20 * T + p)) D p j) → WP2 P M_G_lacks (d + 1) 19 [some (vr 165), some (vi (T : Int)), some (vi (N : Int)), some (vi (D : Int)), some (vi (p : Int)), none, none] [] (FI, A, L', X) Q) told ?_ ?_
    · intro L' hL
      refine WP_n 2 rfl ?_
      refine WP2_getf rfl rfl rfl rfl rfl ?_
      refine WP_n 1 rfl ?_
      refine WP2_iald (j := T) rfl rfl (ia_lit (n := 16) rfl rfl (by omega)) (by omega) (by omega) (by omega) ?_
      refine WP_icmpge rfl rfl ⟨by omega, by omega⟩ ⟨by omega, by omega⟩ (fun h24 => ?_) (fun h24 => absurd h24 (by omega))
      refine WP_n 6 rfl ?_
      refine up_to (P := fun i => WP2 P M_G_lacks (d + 1) 92 [some (vr 165), some (vi (T : Int)), some (vi (N : Int)), some (vi (D : Int)), some (vl (tlS (rowP (fun p => A 182 (20 * T + p)) (fun p => A 183 (20 * T + p)) D told) N i)), none, some (vi ((N : Int) + 1 + (i : Int)))] [] (FI, A, L', X) Q) (21 - N) ?_ ?_ 0 (by omega)
      · have e : tlS (rowP (fun p => A 182 (20 * T + p)) (fun p => A 183 (20 * T + p)) D told) N (21 - N) = tlS (rowP (fun p => A 182 (20 * T + p)) (fun p => A 183 (20 * T + p)) D told) N (20 - N) := by
          rw [show 21 - N = (20 - N) + 1 by omega]
          show tlS (rowP (fun p => A 182 (20 * T + p)) (fun p => A 183 (20 * T + p)) D told) N (20 - N) + rowP (fun p => A 182 (20 * T + p)) (fun p => A 183 (20 * T + p)) D told (N + 1 + (20 - N)) = _
          rw [rowP_hi told _ (by omega)]
          omega
        rw [e]
        refine WP_n 2 rfl ?_
        refine WP_icmpge rfl rfl ⟨by omega, by omega⟩ ⟨by omega, by omega⟩ (fun h94 => ?_) (fun h94 => absurd h94 (by omega))
        refine WP_n 1 rfl ?_
        exact WP_lret rfl rfl rfl ⟨_, rfl, hq L'⟩
      · intro i hi ih
        refine WP_n 2 rfl ?_
        refine WP_icmpge rfl rfl ⟨by omega, by omega⟩ ⟨by omega, by omega⟩ (fun h94 => absurd h94 (by omega)) (fun h94 => ?_)
        refine WP_n 2 rfl ?_
        refine WP2_getf rfl rfl rfl rfl rfl ?_
        refine WP_n 1 rfl ?_
        refine WP2_lald (j := (N + 1 + i)) (n := 22) rfl rfl rfl rfl (by omega) (by omega) ?_
        rw [hL _ (by omega)]
        refine WP_n 4 rfl ?_
        exact ih
    · intro p hp ih L' hL
      have hpp := hI.2.2.2.2.2.2.1 (20 * T + p) (by omega)
      unfold mPp at hpp
      obtain ⟨s, hs⟩ : ∃ s : Nat, A 182 (20 * T + p) = (s : Int) := ⟨(A 182 (20 * T + p)).toNat, by omega⟩
      have hsn : (A 182 (20 * T + p)).toNat = s := by omega
      refine WP_n 2 rfl ?_
      refine WP2_getf rfl rfl rfl rfl rfl ?_
      refine WP_n 1 rfl ?_
      refine WP2_iald (j := T) rfl rfl (ia_lit (n := 16) rfl rfl (by omega)) (by omega) (by omega) (by omega) ?_
      refine WP_icmpge rfl rfl ⟨by omega, by omega⟩ ⟨by omega, by omega⟩ (fun h24 => absurd h24 (by omega)) (fun h24 => ?_)
      refine WP_n 1 rfl ?_
      refine WP2_getf rfl rfl rfl rfl rfl ?_
      refine WP_n 5 rfl ?_
      refine WP2_iald (j := ((20 * T) + p)) rfl rfl (ia_lit (n := 320) rfl rfl (by omega)) (by omega) (by omega) (by omega) ?_
      refine WP_n 4 rfl ?_
      rw [hs, iBit (by omega) (by omega)]
      have hbl := bitN_le s D
      refine WP_n 1 rfl ?_
      refine WP_icmpne rfl rfl ⟨by omega, by omega⟩ ⟨by omega, by omega⟩ (fun h38 => ?_) (fun h38 => ?_)
      · refine WP_n 1 rfl ?_
        refine WP2_getf rfl rfl rfl rfl rfl ?_
        refine WP_n 5 rfl ?_
        refine WP2_iald (j := ((20 * T) + p)) rfl rfl (ia_lit (n := 320) rfl rfl (by omega)) (by omega) (by omega) (by omega) ?_
        obtain ⟨R, hR⟩ : ∃ R : Nat → Int, R = rowP (fun p => A 182 (20 * T + p)) (fun p => A 183 (20 * T + p)) D p := ⟨_, rfl⟩
        have hRb : ∀ j, 0 ≤ R j ∧ R j ≤ 1073741824 := fun j => by
          rw [hR]
          exact ⟨rowP_nn p (fun q hq => hsu q (by omega)) j, rowP_le p (fun q hq => hsu q (by omega)) j⟩
        rw [← hR] at hL
        have hst : rowP (fun p => A 182 (20 * T + p)) (fun p => A 183 (20 * T + p)) D (p + 1) = stP (A 183 (20 * T + p)) R := by
          rw [hR]
          exact if_neg (by show ¬ bitN (A 182 (20 * T + p)).toNat D = 1; rw [hsn]; omega)
        rw [hst] at ih
        obtain ⟨s, hs0⟩ : ∃ s : Int, s = A 183 (20 * T + p) := ⟨_, rfl⟩
        rw [← hs0] at hpp ih ⊢
        suffices hh : ∀ k : Nat, k ≤ 22 → ∀ L2 : Nat → Nat → Int, (∀ j, j < k → L2 192 j = R j) → (∀ j, k ≤ j → j < 22 → L2 192 j = stP s R j) → WP2 P M_G_lacks (d + 1) 51 [some (vr 165), some (vi (T : Int)), some (vi (N : Int)), some (vi (D : Int)), some (vi (p : Int)), some (vi s), some (vi ((k : Int) - 1))] [] (FI, A, L2, X) Q from WP_n 3 rfl (hh 22 (by omega) L' (fun j hj => hL j hj) (fun j h1 h2 => absurd h1 (by omega)))
        intro k
        induction k with
        | zero =>
          intro _ L2 hlo hhi
          refine WP_n 1 rfl ?_
          refine WP_iflt rfl rfl ⟨by omega, by omega⟩ (fun h52 => ?_) (fun h52 => absurd h52 (by omega))
          refine WP_n 2 rfl ?_
          exact WP2_kill 5 (WP2_kill 6 (ih L2 (fun j hj => hhi j (by omega) hj)))
        | succ k ihk =>
          intro hk L2 hlo hhi
          rw [show ((k + 1 : Nat) : Int) - 1 = (k : Int) by omega]
          have h1 := hRb k
          have e1 := hlo k (by omega)
          have m1 := mulB (x := R k) (y := 64 - s) (a := 1073741824) (b := 64) (by omega) (by omega) (by omega) (by omega)
          refine WP_n 1 rfl ?_
          refine WP_iflt rfl rfl ⟨by omega, by omega⟩ (fun h52 => absurd h52 (by omega)) (fun h52 => ?_)
          refine WP_n 1 rfl ?_
          refine WP2_getf rfl rfl rfl rfl rfl ?_
          refine WP_n 2 rfl ?_
          refine WP2_getf rfl rfl rfl rfl rfl ?_
          refine WP_n 1 rfl ?_
          refine WP2_lald (j := k) (n := 22) rfl rfl rfl rfl (by omega) (by omega) ?_
          rw [e1]
          refine WP_n 3 rfl ?_
          refine WP_i2l rfl ⟨by omega, by omega⟩ rfl ?_
          refine WP_n 2 rfl ?_
          refine WP_ifle rfl rfl ⟨by omega, by omega⟩ (fun h66 => ?_) (fun h66 => ?_)
          · refine WP_n 2 rfl ?_
            refine WP2_ldc2w (x := 64) rfl rfl rfl ?_
            refine WP_ldiv rfl (by omega) (by omega) (by omega) (by omega) rfl ?_
            refine WP2_last (j := k) (n := 22) rfl rfl rfl rfl (by omega) (by omega) ?_
            refine WP_n 2 rfl ?_
            have est : stP s R k = (R k * (64 - s) + 0) / 64 := by
              unfold stP
              rw [if_neg (by omega)]
            refine (ihk (by omega) _ (fun j hj => by rw [up2_ne (by omega)]; exact hlo j (by omega)) (fun j hj hj2 => ?_))
            by_cases e : j = k
            · rw [e, est]
              exact up2_eq ⟨rfl, rfl⟩
            · rw [up2_ne (by omega)]
              exact hhi j (by omega) hj2
          · have h2 := hRb (k - 1)
            have e2 := hlo (k - 1) (by omega)
            have m2 := mulB (x := R (k - 1)) (y := s) (a := 1073741824) (b := 64) (by omega) (by omega) (by omega) (by omega)
            refine WP_n 1 rfl ?_
            refine WP2_getf rfl rfl rfl rfl rfl ?_
            refine WP_n 3 rfl ?_
            refine WP2_lald (j := (k - 1)) (n := 22) rfl rfl rfl rfl (by omega) (by omega) ?_
            rw [e2]
            refine WP_n 1 rfl ?_
            refine WP_i2l rfl ⟨by omega, by omega⟩ rfl ?_
            refine WP_n 3 rfl ?_
            refine WP2_ldc2w (x := 64) rfl rfl rfl ?_
            refine WP_ldiv rfl (by omega) (by omega) (by omega) (by omega) rfl ?_
            refine WP2_last (j := k) (n := 22) rfl rfl rfl rfl (by omega) (by omega) ?_
            refine WP_n 2 rfl ?_
            have est : stP s R k = (R k * (64 - s) + R (k - 1) * s) / 64 := by
              unfold stP
              rw [if_pos (by omega)]
            refine (ihk (by omega) _ (fun j hj => by rw [up2_ne (by omega)]; exact hlo j (by omega)) (fun j hj hj2 => ?_))
            by_cases e : j = k
            · rw [e, est]
              exact up2_eq ⟨rfl, rfl⟩
            · rw [up2_ne (by omega)]
              exact hhi j (by omega) hj2
      · refine WP_n 3 rfl ?_
        exact ih _ (fun j hj => by rw [hL j hj, show rowP (fun p => A 182 (20 * T + p)) (fun p => A 183 (20 * T + p)) D (p + 1) = rowP (fun p => A 182 (20 * T + p)) (fun p => A 183 (20 * T + p)) D p from if_pos (by show bitN (A 182 (20 * T + p)).toNat D = 1; rw [hsn]; omega)])
  · intro k hk ih L' hL
    refine WP_n 2 rfl ?_
    refine WP_icmpge rfl rfl ⟨by omega, by omega⟩ ⟨by omega, by omega⟩ (fun h4 => absurd h4 (by omega)) (fun h4 => ?_)
    refine WP_n 1 rfl ?_
    refine WP2_getf rfl rfl rfl rfl rfl ?_
    refine WP_n 2 rfl ?_
    refine WP2_last (j := k) (n := 22) rfl rfl rfl rfl (by omega) (by omega) ?_
    refine WP_n 2 rfl ?_
    exact ih _ (fun j hj => by
      by_cases e : j = k
      · exact up2_eq ⟨rfl, e⟩
      · rw [up2_ne (by omega)]
        exact hL j (by omega))
theorem sp_G_lack {P : PP} {d n c : Nat} {FI A L : Nat → Nat → Int} {X : SX} {Q : Option AV → S2 → Prop} (hI : mI n FI A) (hc : FI 165 0 = (c : Int)) {t m w : Int} (ht : inR t) (hm : inR m) (hw : inR w) (r1 : (t < 0 ∨ (c : Int) ≤ t ∨ w < 0 ∨ 5 ≤ w) → Q (some (vi (-1))) (FI, rfG A 1, L, X)) (r4 : (0 ≤ t ∧ t < (c : Int) ∧ 0 ≤ w ∧ w < 5 ∧ m < 0) → Q (some (vi (-4))) (FI, rfG A 4, L, X)) (r6 : (0 ≤ t ∧ t < (c : Int) ∧ 0 ≤ w ∧ w < 5 ∧ 20 < m) → Q (some (vi (-6))) (FI, rfG A 6, L, X)) (ok : ∀ T D N told : Nat, t = (T : Int) ∧ T < c ∧ w = (D : Int) ∧ D < 5 ∧ m = (N : Int) ∧ N ≤ 20 ∧ A 176 T = (told : Int) → ∀ L' : Nat → Nat → Int, Q (some (vi (tlS (rowP (fun p => A 182 (20 * T + p)) (fun p => A 183 (20 * T + p)) D told) N (20 - N)))) (FI, A, L', X)) : WP2 P M_G_lack (d + 2) 0 [some (vr 165), some (vi t), some (vi m), some (vi w)] [] (FI, A, L, X) Q := by
  have hcc := hI.2.1
  obtain ⟨lm, um⟩ := id hm
  obtain ⟨lw, uw⟩ := id hw
  refine WP_n 2 rfl ?_
  refine WP2_callV 1 ok_M_G_isTeam rfl rfl rfl rfl rfl rfl (Nat.le_of_ble_eq_true rfl) (Nat.le_of_ble_eq_true rfl) rfl rfl ?_
  refine sp_isTeam ht ⟨by omega, by omega⟩ (fun hTt => ?_) (fun hTt hTtb => ?_)
  · refine WP_ifeq rfl rfl ⟨by decide, by decide⟩  (fun h3 => ?_) (fun h3 => absurd (by decide) h3)
    refine WP_n 2 rfl ?_
    refine WP2_callV 1 ok_M_G_no rfl rfl rfl rfl rfl rfl (Nat.le_of_ble_eq_true rfl) (Nat.le_of_ble_eq_true rfl) rfl rfl ?_
    refine sp_no (k := 1) rfl (by omega) ?_
    exact WP_iret rfl rfl rfl ⟨_, rfl, r1 (by omega)⟩
  · refine WP_ifeq rfl rfl ⟨by decide, by decide⟩  (fun h3 => absurd h3 (by decide)) (fun h3 => ?_)
    refine WP_n 1 rfl ?_
    refine WP_iflt rfl rfl ⟨by omega, by omega⟩ (fun h5 => ?_) (fun h5 => ?_)
    · refine WP_n 2 rfl ?_
      refine WP2_callV 1 ok_M_G_no rfl rfl rfl rfl rfl rfl (Nat.le_of_ble_eq_true rfl) (Nat.le_of_ble_eq_true rfl) rfl rfl ?_
      refine sp_no (k := 1) rfl (by omega) ?_
      exact WP_iret rfl rfl rfl ⟨_, rfl, r1 (by omega)⟩
    · refine WP_n 2 rfl ?_
      refine WP_icmple rfl rfl ⟨by omega, by omega⟩ ⟨by omega, by omega⟩ (fun h8 => ?_) (fun h8 => ?_)
      · refine WP_n 1 rfl ?_
        refine WP_ifge rfl rfl ⟨by omega, by omega⟩ (fun h14 => ?_) (fun h14 => ?_)
        · refine WP_n 2 rfl ?_
          refine WP_icmple rfl rfl ⟨by omega, by omega⟩ ⟨by omega, by omega⟩ (fun h21 => ?_) (fun h21 => ?_)
          · obtain ⟨T, rfl⟩ : ∃ T : Nat, t = (T : Int) := ⟨t.toNat, by omega⟩
            obtain ⟨D, rfl⟩ : ∃ D : Nat, w = (D : Int) := ⟨w.toNat, by omega⟩
            obtain ⟨N, rfl⟩ : ∃ N : Nat, m = (N : Int) := ⟨m.toNat, by omega⟩
            have htm := hI.2.2.2.2.1 T (by omega)
            unfold mTm at htm
            obtain ⟨told, htold⟩ : ∃ told : Nat, A 176 T = (told : Int) := ⟨(A 176 T).toNat, by omega⟩
            refine WP_n 4 rfl ?_
            refine WP2_callV 3 ok_M_G_lacks rfl rfl rfl rfl rfl rfl (Nat.le_of_ble_eq_true rfl) (Nat.le_of_ble_eq_true rfl) rfl rfl ?_
            refine sp_lacks hI (T := T) (D := D) (N := N) (by omega) (by omega) (by omega) htold (fun L2 => ?_)
            refine WP_n 1 rfl ?_
            exact WP_iret rfl rfl rfl ⟨_, rfl, ok T D N told (by omega) L2⟩
          · refine WP_n 2 rfl ?_
            refine WP2_callV 1 ok_M_G_no rfl rfl rfl rfl rfl rfl (Nat.le_of_ble_eq_true rfl) (Nat.le_of_ble_eq_true rfl) rfl rfl ?_
            refine sp_no (k := 6) rfl (by omega) ?_
            exact WP_iret rfl rfl rfl ⟨_, rfl, r6 (by omega)⟩
        · refine WP_n 2 rfl ?_
          refine WP2_callV 1 ok_M_G_no rfl rfl rfl rfl rfl rfl (Nat.le_of_ble_eq_true rfl) (Nat.le_of_ble_eq_true rfl) rfl rfl ?_
          refine sp_no (k := 4) rfl (by omega) ?_
          exact WP_iret rfl rfl rfl ⟨_, rfl, r4 (by omega)⟩
      · refine WP_n 2 rfl ?_
        refine WP2_callV 1 ok_M_G_no rfl rfl rfl rfl rfl rfl (Nat.le_of_ble_eq_true rfl) (Nat.le_of_ble_eq_true rfl) rfl rfl ?_
        refine sp_no (k := 1) rfl (by omega) ?_
        exact WP_iret rfl rfl rfl ⟨_, rfl, r1 (by omega)⟩
theorem pr_lack {P : PP} {n : Nat} {FI A L : Nat → Nat → Int} {X : SX} (h : INV P n FI A X) (hn : n < 512) {t m w : Int} (ht : inR t) (hm9 : inR m) (hw : inR w) : PAIR P n (FI, A, L, X) M_F_lack [some (vr 5), some (vi t), some (vi m), some (vi w)] M_G_lack [some (vr 165), some (vi t), some (vi m), some (vi w)] := by
  intro d
  have hm := h.mI
  have hn5 := h.1
  have hcI := h.2.1
  have hG := h.2.2.1
  have hk1 := hcI.1
  have g1 := hG.1
  obtain ⟨c, hc⟩ : ∃ c : Nat, FI 6 8 = (c : Int) := ⟨(FI 6 8).toNat, by omega⟩
  have hc2 : FI 165 0 = (c : Int) := by rw [g1]; exact hc
  refine sp_F_lack hcI hc ht hm9 hw (fun c1 => ?_) (fun c1 => ?_) (fun c1 => ?_) (fun T D N told c1 L1 => ?_)
  · refine ⟨_, rfl, ?_⟩
    refine sp_G_lack (hm.up (by omega)) hc2 ht hm9 hw (fun c2 => ?_) (fun c2 => ?_) (fun c2 => ?_) (fun T' D' N' told' c2 L2 => ?_)
    · exact ⟨rfl, INV_ref h hn (by omega)⟩
    · exfalso; omega
    · exfalso; omega
    · exfalso; omega
  · refine ⟨_, rfl, ?_⟩
    refine sp_G_lack (hm.up (by omega)) hc2 ht hm9 hw (fun c2 => ?_) (fun c2 => ?_) (fun c2 => ?_) (fun T' D' N' told' c2 L2 => ?_)
    · exfalso; omega
    · exact ⟨rfl, INV_ref h hn (by omega)⟩
    · exfalso; omega
    · exfalso; omega
  · refine ⟨_, rfl, ?_⟩
    refine sp_G_lack (hm.up (by omega)) hc2 ht hm9 hw (fun c2 => ?_) (fun c2 => ?_) (fun c2 => ?_) (fun T' D' N' told' c2 L2 => ?_)
    · exfalso; omega
    · exfalso; omega
    · exact ⟨rfl, INV_ref h hn (by omega)⟩
    · exfalso; omega
  · refine ⟨_, rfl, ?_⟩
    refine sp_G_lack hm hc2 ht hm9 hw (fun c2 => ?_) (fun c2 => ?_) (fun c2 => ?_) (fun T' D' N' told' c2 L2 => ?_)
    · exfalso; omega
    · exfalso; omega
    · exfalso; omega
    · obtain rfl : T = T' := by omega
      obtain rfl : D = D' := by omega
      obtain rfl : N = N' := by omega
      have hp := (hG.2.2.2.1 T (by omega)).2.1
      obtain rfl : told = told' := by omega
      have htm := hcI.2.2.2.1 T (by omega)
      unfold cTm at htm
      refine ⟨?_, h.next hn⟩
      rw [rowP_congr (hm' := A (88 + T)) (su' := A (105 + T)) told (fun q hq => ?_)]
      have r := hG.2.2.2.2.2.1 T q (by omega) (by omega)
      exact ⟨r.1, r.2.1⟩

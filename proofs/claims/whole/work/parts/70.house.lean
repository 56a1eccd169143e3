/-! the constructor of House -/
theorem sp_fillE {P : PP} {d : Nat} {FI A : Nat → Nat → Int} {k s o a n : Nat} {c5 co : AC} {Q : Option AV → Hp → Prop} {v : Int} (hA : isIA P X0 a n) (hn : n ≤ 1000) (ha : a < k) (ha5 : 5 < a) (ho : a ≠ o) (hq : ∀ A' : Nat → Nat → Int, (∀ x j, x ≠ a → A' x j = A x j) → (∀ j, j < n → A' a j = v) → Q none (EH P FI A' k s c5 o co)) : WP J_fill d 0 [some (vr a), some (vi v), none, none] [] (EH P FI A k s c5 o co) Q := by
  refine WP_n 3 rfl ?_
  refine WE_alen rfl rfl hA ha (by omega) ho ?_
  refine WP_n 1 rfl ?_
  suffices hw : ∀ j, j ≤ n → ∀ A' : Nat → Nat → Int, (∀ x j, x ≠ a → A' x j = A x j) → (∀ i, i < j → A' a i = v) → WP J_fill d 5 [some (vr a), some (vi v), some (vi (j : Int)), some (vi (n : Int))] [] (EH P FI A' k s c5 o co) Q from hw 0 (by omega) A (fun _ _ _ => rfl) (fun i hi => absurd hi (by omega))
  refine up_to (P := fun j => ∀ A' : Nat → Nat → Int, (∀ x j, x ≠ a → A' x j = A x j) → (∀ i, i < j → A' a i = v) → WP J_fill d 5 [some (vr a), some (vi v), some (vi (j : Int)), some (vi (n : Int))] [] (EH P FI A' k s c5 o co) Q) n ?_ ?_
  · intro A' b1 b2
    refine WP_n 2 rfl ?_
    refine WP_icmpge rfl rfl ⟨by omega, by omega⟩ ⟨by omega, by omega⟩ (fun h7 => ?_) (fun h7 => absurd h7 (by omega))
    exact WP_vret rfl rfl rfl (hq A' b1 b2)
  · intro j hj ih A' b1 b2
    refine WP_n 2 rfl ?_
    refine WP_icmpge rfl rfl ⟨by omega, by omega⟩ ⟨by omega, by omega⟩ (fun h7 => absurd h7 (by omega)) (fun h7 => ?_)
    refine WP_n 3 rfl ?_
    refine WE_iast (j := j) rfl rfl hA ha ha5 ho rfl hj ?_
    refine WP_n 2 rfl ?_
    refine ih _ (fun x i hx => by rw [up2_ne (Or.inl hx)]; exact b1 x i hx) (fun i hi => ?_)
    by_cases e : i = j
    · rw [e, up2_same]
    · rw [up2_ne (Or.inr e)]
      exact b2 i (by omega)
def HA (A : Nat → Nat → Int) : Prop := (∀ g j, g < 11 → j < 4 → A (8 + g) j = FFt j) ∧ (∀ u, u < 16 → A (20 + u) 4 = -9 ∧ A (20 + u) 6 = -9) ∧ (∀ u p, u < 16 → p < 20 → A (122 + u) p = -1) ∧ ∀ a j, ¬ (8 ≤ a ∧ a < 19) → ¬ (20 ≤ a ∧ a < 36 ∧ (j = 4 ∨ j = 6)) → ¬ (122 ≤ a ∧ a < 138) → A a j = 0
theorem sp_H_init {P : PP} {d : Nat} {c5 : AC} {Q : Option AV → Hp → Prop} (hq : ∀ A1 : Nat → Nat → Int, HA A1 → Q none (EH P FIi A1 138 2055 c5 6 (cc2 P FIi A1 L0 X0 6))) : WP M_H_init (d + 2) 0 [some (vr 6), none] [] (EH P FIi (fun _ _ => 0) 7 16 c5 6 (.inl (1, nfs 1 10))) Q := by
  refine WP_n 1 rfl ?_
  refine WP_oinit rfl rfl rfl rfl (Nat.le_of_ble_eq_true rfl) ?_
  refine WP_n 2 rfl ?_
  refine WP_gets rfl rfl ?_
  refine WE_alen (a := 2) rfl rfl (ia_lit  (n := 4) rfl rfl (by omega)) (by omega) (by omega) (by omega) ?_
  refine WE_mna (N := 11) (K := 4) (k' := 19) (s' := 71) rfl rfl rfl rfl rfl rfl (by omega) (by omega) rfl rfl (by omega) (by omega) (by omega) rfl (fun b j q => rfl) ?_
  refine WE_putF rfl rfl rfl rfl rfl rfl (by first | exact trivial | exact Or.inl rfl) (by omega) (by omega) ?_
  refine WP_n 3 rfl ?_
  refine WE_mna (N := 16) (K := 9) (k' := 36) (s' := 231) rfl rfl rfl rfl rfl rfl (by omega) (by omega) rfl rfl (by omega) (by omega) (by omega) rfl (fun b j q => rfl) ?_
  refine WE_putF rfl rfl rfl rfl rfl rfl (by first | exact trivial | exact Or.inl rfl) (by omega) (by omega) ?_
  refine WP_n 3 rfl ?_
  refine WE_mna (N := 16) (K := 16) (k' := 53) (s' := 503) rfl rfl rfl rfl rfl rfl (by omega) (by omega) rfl rfl (by omega) (by omega) (by omega) rfl (fun b j q => rfl) ?_
  refine WE_putF rfl rfl rfl rfl rfl rfl (by first | exact trivial | exact Or.inl rfl) (by omega) (by omega) ?_
  refine WP_n 3 rfl ?_
  refine WE_mna (N := 16) (K := 16) (k' := 70) (s' := 775) rfl rfl rfl rfl rfl rfl (by omega) (by omega) rfl rfl (by omega) (by omega) (by omega) rfl (fun b j q => rfl) ?_
  refine WE_putF rfl rfl rfl rfl rfl rfl (by first | exact trivial | exact Or.inl rfl) (by omega) (by omega) ?_
  refine WP_n 3 rfl ?_
  refine WE_mna (N := 16) (K := 16) (k' := 87) (s' := 1047) rfl rfl rfl rfl rfl rfl (by omega) (by omega) rfl rfl (by omega) (by omega) (by omega) rfl (fun b j q => rfl) ?_
  refine WE_putF rfl rfl rfl rfl rfl rfl (by first | exact trivial | exact Or.inl rfl) (by omega) (by omega) ?_
  refine WP_n 3 rfl ?_
  refine WE_mna (N := 16) (K := 20) (k' := 104) (s' := 1383) rfl rfl rfl rfl rfl rfl (by omega) (by omega) rfl rfl (by omega) (by omega) (by omega) rfl (fun b j q => rfl) ?_
  refine WE_putF rfl rfl rfl rfl rfl rfl (by first | exact trivial | exact Or.inl rfl) (by omega) (by omega) ?_
  refine WP_n 3 rfl ?_
  refine WE_mna (N := 16) (K := 20) (k' := 121) (s' := 1719) rfl rfl rfl rfl rfl rfl (by omega) (by omega) rfl rfl (by omega) (by omega) (by omega) rfl (fun b j q => rfl) ?_
  refine WE_putF rfl rfl rfl rfl rfl rfl (by first | exact trivial | exact Or.inl rfl) (by omega) (by omega) ?_
  refine WP_n 3 rfl ?_
  refine WE_mna (N := 16) (K := 20) (k' := 138) (s' := 2055) rfl rfl rfl rfl rfl rfl (by omega) (by omega) rfl rfl (by omega) (by omega) (by omega) rfl (fun b j q => rfl) ?_
  refine WE_putF rfl rfl rfl rfl rfl rfl (by first | exact trivial | exact Or.inl rfl) (by omega) (by omega) ?_
  refine WP_n 2 rfl ?_
  refine WE_putf rfl rfl rfl rfl (by first | exact trivial | exact Or.inl rfl) (by omega) (by omega) ?_
  refine WP_n 2 rfl ?_
  refine WE_putf rfl rfl rfl rfl (by first | exact trivial | exact Or.inl rfl) (by omega) (by omega) ?_
  refine WP_n 2 rfl ?_
  suffices hw : ∀ f, f ≤ 11 → ∀ A : Nat → Nat → Int, (∀ g j, g < f → j < 4 → A (8 + g) j = FFt j) → (∀ a j, ¬ (8 ≤ a ∧ a < 8 + f) → A a j = 0) → WP M_H_init (d + 2) 51 [some (vr 6), some (vi (f : Int))] [] (EH P FIi A 138 2055 c5 6 (.inl (1, [vr 7, vr 19, vr 36, vr 53, vr 70, vr 87, vr 104, vr 121, vi 0, vi 1]))) Q from hw 0 (by omega) (fun _ _ => 0) (fun g j hg => absurd hg (by omega)) (fun _ _ _ => rfl)
  refine up_to (P := fun f => ∀ A : Nat → Nat → Int, (∀ g j, g < f → j < 4 → A (8 + g) j = FFt j) → (∀ a j, ¬ (8 ≤ a ∧ a < 8 + f) → A a j = 0) → WP M_H_init (d + 2) 51 [some (vr 6), some (vi (f : Int))] [] (EH P FIi A 138 2055 c5 6 (.inl (1, [vr 7, vr 19, vr 36, vr 53, vr 70, vr 87, vr 104, vr 121, vi 0, vi 1]))) Q) 11 ?_ ?_
  · intro A a1 a2
    refine WP_n 2 rfl ?_
    refine WP_icmpge rfl rfl ⟨by omega, by omega⟩ ⟨by omega, by omega⟩ (fun h53 => ?_) (fun h53 => absurd h53 (by omega))
    refine WP_n 2 rfl ?_
    suffices hw : ∀ t, t ≤ 16 → ∀ A : Nat → Nat → Int, (∀ g j, g < 11 → j < 4 → A (8 + g) j = FFt j) → (∀ u, u < t → A (20 + u) 4 = -9 ∧ A (20 + u) 6 = -9) → (∀ u p, u < t → p < 20 → A (122 + u) p = -1) → (∀ a j, ¬ (8 ≤ a ∧ a < 19) → ¬ (20 ≤ a ∧ a < 20 + t ∧ (j = 4 ∨ j = 6)) → ¬ (122 ≤ a ∧ a < 122 + t) → A a j = 0) → WP M_H_init (d + 2) 68 [some (vr 6), some (vi (t : Int))] [] (EH P FIi A 138 2055 c5 6 (.inl (1, [vr 7, vr 19, vr 36, vr 53, vr 70, vr 87, vr 104, vr 121, vi 0, vi 1]))) Q from hw 0 (by omega) A (fun g j hg hj => a1 g j hg hj) (fun u hu => absurd hu (by omega)) (fun u p hu => absurd hu (by omega)) (fun a j q _ _ => a2 a j (by omega))
    clear a1 a2 A
    refine up_to (P := fun t => ∀ A : Nat → Nat → Int, (∀ g j, g < 11 → j < 4 → A (8 + g) j = FFt j) → (∀ u, u < t → A (20 + u) 4 = -9 ∧ A (20 + u) 6 = -9) → (∀ u p, u < t → p < 20 → A (122 + u) p = -1) → (∀ a j, ¬ (8 ≤ a ∧ a < 19) → ¬ (20 ≤ a ∧ a < 20 + t ∧ (j = 4 ∨ j = 6)) → ¬ (122 ≤ a ∧ a < 122 + t) → A a j = 0) → WP M_H_init (d + 2) 68 [some (vr 6), some (vi (t : Int))] [] (EH P FIi A 138 2055 c5 6 (.inl (1, [vr 7, vr 19, vr 36, vr 53, vr 70, vr 87, vr 104, vr 121, vi 0, vi 1]))) Q) 16 ?_ ?_
    · intro A a1 a2 a3 a4
      refine WP_n 2 rfl ?_
      refine WP_icmpge rfl rfl ⟨by omega, by omega⟩ ⟨by omega, by omega⟩ (fun h70 => ?_) (fun h70 => absurd h70 (by omega))
      exact WP_vret rfl rfl rfl (hq A ⟨a1, a2, a3, fun a j q1 q2 q3 => a4 a j q1 (by omega) (by omega)⟩)
    · intro t ht ih A a1 a2 a3 a4
      refine WP_n 2 rfl ?_
      refine WP_icmpge rfl rfl ⟨by omega, by omega⟩ ⟨by omega, by omega⟩ (fun h70 => absurd h70 (by omega)) (fun h70 => ?_)
      refine WP_n 1 rfl ?_
      refine WE_geto rfl rfl rfl rfl (by omega) (by omega) ?_
      refine WP_n 1 rfl ?_
      refine WE_aald (j := t) (n := 16) rfl rfl rfl rfl (by omega) (by omega) (by omega) rfl ht ?_
      refine WP_n 2 rfl ?_
      refine WE_iast (j := 4) rfl rfl (ia_tm ht) (by omega) (by omega) (by omega) rfl (by omega) ?_
      refine WP_n 1 rfl ?_
      refine WE_geto rfl rfl rfl rfl (by omega) (by omega) ?_
      refine WP_n 1 rfl ?_
      refine WE_aald (j := t) (n := 16) rfl rfl rfl rfl (by omega) (by omega) (by omega) rfl ht ?_
      refine WP_n 2 rfl ?_
      refine WE_iast (j := 6) rfl rfl (ia_tm ht) (by omega) (by omega) (by omega) rfl (by omega) ?_
      refine WP_n 1 rfl ?_
      refine WE_geto rfl rfl rfl rfl (by omega) (by omega) ?_
      refine WP_n 1 rfl ?_
      refine WE_aald (j := t) (n := 16) rfl rfl rfl rfl (by omega) (by omega) (by omega) rfl ht ?_
      refine WP_n 1 rfl ?_
      refine WP_callS 2 ok_J_fill rfl rfl rfl rfl rfl rfl rfl (Nat.le_of_ble_eq_true rfl) (Nat.le_of_ble_eq_true rfl) ?_
      refine sp_fillE (n := 20) (ia_gw ht) (by omega) (by omega) (by omega) (by omega) (fun A' b1 b2 => ?_)
      refine WP_n 2 rfl ?_
      have e0 : ∀ x j, x ≠ 121 + 1 + t → ¬ (x = 19 + 1 + t ∧ (j = 4 ∨ j = 6)) → A' x j = A x j := fun x j q1 q2 => by
        rw [b1 x j q1, up2_ne (by omega), up2_ne (by omega)]
      refine ih A' (fun g j hg hj => by rw [e0 _ _ (by omega) (by omega)]; exact a1 g j hg hj) (fun u hu => ?_) (fun u p hu hp => ?_) (fun a j q1 q2 q3 => by rw [e0 _ _ (by omega) (by omega)]; exact a4 a j q1 (by omega) (by omega))
      · by_cases e : u = t
        · rw [e, b1 _ _ (by omega), b1 _ _ (by omega), up2_ne (by omega), up2_eq (by omega), up2_eq (by omega)]
          exact ⟨rfl, rfl⟩
        · rw [e0 _ _ (by omega) (by omega), e0 _ _ (by omega) (by omega)]
          exact a2 u (by omega)
      · by_cases e : u = t
        · rw [e, show 122 + t = 121 + 1 + t by omega]
          exact b2 p hp
        · rw [e0 _ _ (by omega) (by omega)]
          exact a3 u p (by omega) hp
  · intro f hf ih A a1 a2
    refine WP_n 2 rfl ?_
    refine WP_icmpge rfl rfl ⟨by omega, by omega⟩ ⟨by omega, by omega⟩ (fun h53 => absurd h53 (by omega)) (fun h53 => ?_)
    refine WP_gets rfl rfl ?_
    refine WP_n 2 rfl ?_
    refine WE_geto rfl rfl rfl rfl (by omega) (by omega) ?_
    refine WP_n 1 rfl ?_
    refine WE_aald (j := f) (n := 11) rfl rfl rfl rfl (by omega) (by omega) (by omega) rfl hf ?_
    refine WP_n 1 rfl ?_
    refine WP_gets rfl rfl ?_
    refine WE_alen (a := 1) rfl rfl (ia_lit (n := 4) rfl rfl (by omega)) (by omega) (by omega) (by omega) ?_
    refine WE_copy (a := 1) (b := 7 + 1 + f) (N := 4) rfl rfl rfl rfl rfl (Nat.le_of_ble_eq_true rfl) (ia_lit (n := 4) rfl rfl (by omega)) (ia_fl hf) (by omega) (by omega) (by omega) (by omega) (by omega) rfl (by omega) (by omega) ?_
    refine WP_n 2 rfl ?_
    refine ih _ (fun g j hg hj => ?_) (fun a j q => ?_)
    · show (if _ then _ else _) = _
      by_cases e : g = f
      · rw [if_pos ⟨by omega, hj⟩]
        rfl
      · rw [if_neg (by omega)]
        exact a1 g j (by omega) hj
    · show (if _ then _ else _) = _
      rw [if_neg (by omega)]
      exact a2 a j (by omega)

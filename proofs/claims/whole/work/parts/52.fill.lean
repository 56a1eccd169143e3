/-! a stretch of a row filled -/
theorem sp_rangeCheck {P : PP} {d : Nat} {FI A L : Nat → Nat → Int} {X : SX} {Q : Option AV → S2 → Prop} {len N : Nat} (h1 : N ≤ len) (h2 : len ≤ 60000) (hq : Q none (FI, A, L, X)) : WP2 P J_rangeCheck (d) 0 [some (vi (len : Int)), some (vi 0), some (vi (N : Int))] [] (FI, A, L, X) Q := by
  refine WP_n 2 rfl ?_
  refine WP_icmple rfl rfl ⟨by omega, by omega⟩ ⟨by omega, by omega⟩ (fun h2 => ?_) (fun h2 => absurd h2 (by omega))
  refine WP_n 1 rfl ?_
  refine WP_ifge rfl rfl ⟨by decide, by decide⟩  (fun h22 => ?_) (fun h22 => absurd (by decide) h22)
  refine WP_n 2 rfl ?_
  refine WP_icmple rfl rfl ⟨by omega, by omega⟩ ⟨by omega, by omega⟩ (fun h30 => ?_) (fun h30 => absurd h30 (by omega))
  exact WP_vret rfl rfl rfl ⟨_, rfl, hq⟩
theorem sp_fillR {P : PP} {d : Nat} {FI A L : Nat → Nat → Int} {X : SX} {Q : Option AV → S2 → Prop} {B len N : Nat} {v : Int} (hB : isIA P X B len) (hB5 : 5 ≤ B) (h1 : N ≤ len) (h2 : len ≤ 60000) (hq : ∀ A' : Nat → Nat → Int, (∀ a j, a ≠ B → A' a j = A a j) → (∀ j, j < N → A' B j = v) → Q none (FI, A', L, X)) : WP2 P J_fillR (d + 1) 0 [some (vr B), some (vi 0), some (vi (N : Int)), some (vi v), none] [] (FI, A, L, X) Q := by
  refine WP_n 1 rfl ?_
  refine WP2_alen rfl rfl (hB) ?_
  refine WP_n 2 rfl ?_
  refine WP2_callS 3 ok_J_rangeCheck rfl rfl rfl rfl rfl rfl rfl (Nat.le_of_ble_eq_true rfl) (Nat.le_of_ble_eq_true rfl) ?_
  refine sp_rangeCheck h1 h2 ?_
  refine WP_n 2 rfl ?_
  suffices hh : ∀ k, k ≤ N → ∀ A' : Nat → Nat → Int, (∀ a j, a ≠ B → A' a j = A a j) → (∀ j, j < k → A' B j = v) → WP2 P J_fillR (d + 1) 7 [some (vr B), some (vi 0), some (vi (N : Int)), some (vi v), some (vi (k : Int))] [] (FI, A', L, X) Q from hh 0 (by omega) A (fun _ _ _ => rfl) (fun j hj => absurd hj (by omega))
  refine up_to (P := fun k => ∀ A' : Nat → Nat → Int, (∀ a j, a ≠ B → A' a j = A a j) → (∀ j, j < k → A' B j = v) → WP2 P J_fillR (d + 1) 7 [some (vr B), some (vi 0), some (vi (N : Int)), some (vi v), some (vi (k : Int))] [] (FI, A', L, X) Q) N ?_ ?_
  · intro A' a1 a2
    refine WP_n 2 rfl ?_
    refine WP_icmpge rfl rfl ⟨by omega, by omega⟩ ⟨by omega, by omega⟩ (fun h9 => ?_) (fun h9 => absurd h9 (by omega))
    exact WP_vret rfl rfl rfl ⟨_, rfl, hq A' a1 a2⟩
  · intro k hk ih A' a1 a2
    refine WP_n 2 rfl ?_
    refine WP_icmpge rfl rfl ⟨by omega, by omega⟩ ⟨by omega, by omega⟩ (fun h9 => absurd h9 (by omega)) (fun h9 => ?_)
    refine WP_n 3 rfl ?_
    refine WP2_iast (j := k) rfl rfl (hB) (by omega) (by omega) (by omega) ?_
    refine WP_n 2 rfl ?_
    exact ih _ (fun a j q => by rw [up2_ne (by omega)]; exact a1 a j q) (fun j hj => by
      by_cases e : j = k
      · rw [e, up2_same]
      · rw [up2_ne (by omega)]
        exact a2 j (by omega))

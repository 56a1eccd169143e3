/-! the search for the fewest moves: start and end -/
theorem BI.start {R E : Nat → Nat → Prop} {N : Nat} {un : Int} {ml : Nat → Int} {q : Nat → Nat} {g : Nat} (hun : un < 0) (hg : g < N) (hR : ∀ x, x < N → (R 0 x ↔ x = g)) (hq : q 0 = g) (hm : ∀ x, x < N → ml x = if x = g then 0 else un) : BI R E N un ml q 1 0 := by
  have hmg : ml g = 0 := by rw [hm g hg, if_pos rfl]
  refine ⟨fun i hi => ?_, fun x hx => ?_, fun i j hi hj _ => by omega, fun x hx hu => ?_, fun i j hij hj => ?_, fun _ j hj => ?_, fun _ k x hx hk hr => ?_, fun i hi => absurd hi (by omega), by omega⟩
  · rw [show i = 0 by omega, hq]; exact hg
  · rw [hm x hx]
    by_cases e : x = g
    · rw [if_pos e]
      exact ⟨fun _ => ⟨0, by omega, by rw [hq, e]⟩, fun _ => by omega⟩
    · rw [if_neg e]
      constructor
      · intro w
        exact absurd rfl w
      · rintro ⟨i, i1, i2⟩
        rw [show i = 0 by omega, hq] at i2
        exact absurd i2.symm e
  · rw [hm x hx] at hu ⊢
    by_cases e : x = g
    · rw [if_pos e]
      exact ⟨0, rfl, (hR x hx).mpr e, fun j _ => by omega⟩
    · rw [if_neg e] at hu
      exact absurd rfl hu
  · rw [show i = 0 by omega, show j = 0 by omega]
    exact Int.le_refl _
  · rw [show j = 0 by omega]
    omega
  · rw [hq, hmg] at hk
    obtain rfl : k = 0 := by omega
    rw [(hR x hx).mp hr, hmg]
    omega
theorem BI.done {R E : Nat → Nat → Prop} {N : Nat} {un : Int} {ml : Nat → Int} {q : Nat → Nat} {n : Nat} {g : Nat} (b : BI R E N un ml q n n) (hg : g < N) (hR : ∀ x, x < N → (R 0 x ↔ x = g)) (hmg : ml g ≠ un) (hRE : ∀ x k, x < N → R (k + 1) x → ∃ y, y < N ∧ E x y ∧ R k y) : ∀ k x, x < N → R k x → ml x ≠ un := by
  intro k
  induction k with
  | zero =>
    intro x hx hr
    rw [(hR x hx).mp hr]
    exact hmg
  | succ k ih =>
    intro x hx hr
    obtain ⟨y, y1, y2, y3⟩ := hRE x k hx hr
    obtain ⟨i, i1, i2⟩ := (b.2.1 y y1).mp (ih y y1 y3)
    exact (b.2.2.2.2.2.2.2.1 i i1 x hx (by rw [i2]; exact y2)).1
theorem BI.room {R E : Nat → Nat → Prop} {N : Nat} {un : Int} {ml : Nat → Int} {q : Nat → Nat} {n h : Nat} (b : BI R E N un ml q n h) {x : Nat} (hx : x < N) (hu : ml x = un) : n < N := by
  have hne : ∀ i, i < n → q i ≠ x := fun i hi e => (b.2.1 x hx).mpr ⟨i, hi, e⟩ hu
  have := pigeon (n + 1) N (fun i => if i = n then x else q i) (fun i hi => by
    by_cases e : i = n
    · rw [if_pos e]; exact hx
    · rw [if_neg e]; exact b.1 i (by omega)) (fun i j hi hj e => by
    by_cases e1 : i = n <;> by_cases e2 : j = n
    · omega
    · rw [if_pos e1, if_neg e2] at e
      exact absurd e.symm (hne j (by omega))
    · rw [if_neg e1, if_pos e2] at e
      exact absurd e (hne i (by omega))
    · rw [if_neg e1, if_neg e2] at e
      exact b.2.2.1 i j (by omega) (by omega) e)
  omega

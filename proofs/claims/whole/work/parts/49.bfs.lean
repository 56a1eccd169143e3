/-! the search for the fewest moves, abstractly -/
def BI (R E : Nat → Nat → Prop) (N : Nat) (un : Int) (ml : Nat → Int) (q : Nat → Nat) (n h : Nat) : Prop :=
  (∀ i, i < n → q i < N) ∧ (∀ x, x < N → (ml x ≠ un ↔ ∃ i, i < n ∧ q i = x)) ∧ (∀ i j, i < n → j < n → q i = q j → i = j) ∧ (∀ x, x < N → ml x ≠ un → ∃ k : Nat, ml x = (k : Int) ∧ R k x ∧ ∀ j, R j x → k ≤ j) ∧ (∀ i j, i ≤ j → j < n → ml (q i) ≤ ml (q j)) ∧ (h < n → ∀ j, j < n → ml (q j) ≤ ml (q h) + 1) ∧ (h < n → ∀ (k x : Nat), x < N → (k : Int) ≤ ml (q h) → R k x → ml x ≠ un) ∧ (∀ i, i < h → ∀ x, x < N → E x (q i) → ml x ≠ un ∧ ml x ≤ ml (q i) + 1) ∧ h ≤ n
theorem BI.mark {R E : Nat → Nat → Prop} {N : Nat} {un : Int} {ml : Nat → Int} {q : Nat → Nat} {n h : Nat} (hun : un < 0) (b : BI R E N un ml q n h) (hRE : ∀ x y k, x < N → y < N → E x y → R k y → R (k + 1) x) (hh : h < n) {x : Nat} (hx : x < N) (hu : ml x = un) (he : E x (q h)) : BI R E N un (fun y => if y = x then ml (q h) + 1 else ml y) (fun i => if i = n then x else q i) (n + 1) h := by
  obtain ⟨b1, b2, b3, b4, b5, b6, b7, b8, b9⟩ := b
  have hqh := b1 h hh
  have hmh : ml (q h) ≠ un := (b2 _ hqh).mpr ⟨h, hh, rfl⟩
  obtain ⟨k0, k1, k2, k3⟩ := b4 _ hqh hmh
  have hne : ∀ i, i < n → q i ≠ x := fun i hi e => by
    have := (b2 x hx).mpr ⟨i, hi, e⟩
    exact this hu
  have mq : ∀ i, i < n → (if q i = x then ml (q h) + 1 else ml (q i)) = ml (q i) := fun i hi => if_neg (hne i hi)
  have nq : ∀ i, i < n → (if i = n then x else q i) = q i := fun i hi => if_neg (by omega)
  unfold BI
  dsimp only
  refine ⟨fun i hi => ?_, fun y hy => ?_, fun i j hi hj e => ?_, fun y hy hm => ?_, fun i j hij hj => ?_, fun _ j hj => ?_, fun _ k y hy hk hr => ?_, fun i hi y hy hey => ?_, by omega⟩
  · by_cases e : i = n
    · rw [if_pos e]; exact hx
    · rw [if_neg e]; exact b1 i (by omega)
  · by_cases e : y = x
    · rw [if_pos e]
      refine ⟨fun _ => ⟨n, by omega, by rw [if_pos rfl, e]⟩, fun _ => by omega⟩
    · rw [if_neg e, b2 y hy]
      constructor
      · rintro ⟨i, h1, h2⟩
        exact ⟨i, by omega, by rw [if_neg (by omega)]; exact h2⟩
      · rintro ⟨i, h1, h2⟩
        by_cases w : i = n
        · rw [if_pos w] at h2
          exact absurd h2.symm e
        · rw [if_neg w] at h2
          exact ⟨i, by omega, h2⟩
  · by_cases e1 : i = n <;> by_cases e2 : j = n
    · omega
    · rw [if_pos e1, if_neg e2] at e
      exact absurd e.symm (hne j (by omega))
    · rw [if_neg e1, if_pos e2] at e
      exact absurd e (hne i (by omega))
    · rw [if_neg e1, if_neg e2] at e
      exact b3 i j (by omega) (by omega) e
  · by_cases e : y = x
    · rw [if_pos e] at hm ⊢
      refine ⟨k0 + 1, by omega, by rw [e]; exact hRE x (q h) k0 hx hqh he k2, fun j hj => ?_⟩
      refine Nat.lt_of_not_le (fun w => ?_)
      rw [e] at hj
      exact b7 hh j x hx (by omega) hj hu
    · rw [if_neg e] at hm ⊢
      exact b4 y hy hm
  · by_cases e2 : j = n
    · by_cases e1 : i = n
      · rw [e1, e2]
        exact Int.le_refl _
      · rw [nq i (by omega), mq i (by omega), if_pos e2, if_pos rfl]
        exact b6 hh i (by omega)
    · rw [nq i (by omega), nq j (by omega), mq i (by omega), mq j (by omega)]
      exact b5 i j hij (by omega)
  · rw [nq h hh, mq h hh]
    by_cases e2 : j = n
    · rw [if_pos e2, if_pos rfl]
      exact Int.le_refl _
    · rw [nq j (by omega), mq j (by omega)]
      exact b6 hh j (by omega)
  · rw [nq h hh, mq h hh] at hk
    by_cases e : y = x
    · rw [if_pos e]; omega
    · rw [if_neg e]
      exact b7 hh k y hy hk hr
  · rw [nq i (by omega)] at hey ⊢
    rw [mq i (by omega)]
    have z := b8 i hi y hy hey
    by_cases e : y = x
    · rw [e] at z
      exact absurd hu z.1
    · rw [if_neg e]
      exact z
theorem BI.next {R E : Nat → Nat → Prop} {N : Nat} {un : Int} {ml : Nat → Int} {q : Nat → Nat} {n h : Nat} (b : BI R E N un ml q n h) (hRE : ∀ x k, x < N → R (k + 1) x → ∃ y, y < N ∧ E x y ∧ R k y) (hR0 : ∀ x y, x < N → y < N → R 0 x → R 0 y → x = y) (hq0 : 0 < n → ml (q 0) = 0) (hh : h < n) (ha : ∀ x, x < N → E x (q h) → ml x ≠ un) : BI R E N un ml q n (h + 1) := by
  obtain ⟨b1, b2, b3, b4, b5, b6, b7, b8, b9⟩ := b
  have hmk : ∀ i, i < n → ∃ k : Nat, ml (q i) = (k : Int) ∧ R k (q i) ∧ ∀ j, R j (q i) → k ≤ j := fun i hi => b4 _ (b1 i hi) ((b2 _ (b1 i hi)).mpr ⟨i, hi, rfl⟩)
  have hle : ∀ i, i < h + 1 → ∀ x, x < N → E x (q i) → ml x ≠ un ∧ ml x ≤ ml (q i) + 1 := fun i hi x hx hex => by
    by_cases e : i = h
    · rw [e] at hex ⊢
      have z := ha x hx hex
      obtain ⟨j, j1, j2⟩ := (b2 x hx).mp z
      exact ⟨z, by rw [← j2]; exact b6 hh j j1⟩
    · exact b8 i (by omega) x hx hex
  refine ⟨b1, b2, b3, b4, b5, fun h1 j hj => ?_, fun h1 k x hx hk hr => ?_, hle, by omega⟩
  · have := b6 hh j hj
    have := b5 h (h + 1) (by omega) h1
    omega
  · obtain ⟨k0, k1, k2, k3⟩ := hmk h hh
    by_cases w : (k : Int) ≤ ml (q h)
    · exact b7 hh k x hx w hr
    · have := b6 hh (h + 1) h1
      obtain ⟨k', rfl⟩ : ∃ k', k = k' + 1 := ⟨k - 1, by omega⟩
      obtain ⟨y, y1, y2, y3⟩ := hRE x k' hx hr
      have z := b7 hh k' y y1 (by omega) y3
      obtain ⟨i, i1, i2⟩ := (b2 y y1).mp z
      have hi : i < h + 1 := by
        refine Nat.lt_of_not_le (fun w2 => ?_)
        have m1 := b5 (h + 1) i w2 i1
        obtain ⟨j0, j1, j2, j3⟩ := hmk i i1
        rw [i2] at j3 j1
        have := j3 k' y3
        rw [i2] at m1
        omega
      exact (hle i hi x hx (by rw [i2]; exact y2)).1

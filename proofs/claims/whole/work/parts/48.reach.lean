/-! moves, abstractly -/
def updD (d : Nat → Nat) (i s : Nat) : Nat → Nat := fun j => if j = i then s else d j
def freD (fr sz : Nat → Int) (K : Nat) (d : Nat → Nat) (s : Nat) : Int := fr s - sumN (fun j => if d j = s then sz j else 0) K
def RchF (fr sz : Nat → Int) (K S : Nat) (g : Nat → Nat) : Nat → (Nat → Nat) → Prop
  | 0, d => ∀ i, i < K → d i = g i
  | k + 1, d => ∃ i s, i < K ∧ s < S ∧ s ≠ d i ∧ sz i ≤ freD fr sz K d s ∧ RchF fr sz K S g k (updD d i s)
theorem freD_congr {fr sz : Nat → Int} {K : Nat} {d e : Nat → Nat} (h : ∀ i, i < K → d i = e i) (s : Nat) : freD fr sz K d s = freD fr sz K e s := by
  unfold freD
  rw [sumN_congr K (fun j hj => by rw [h j hj])]
theorem RchF_congr {fr sz : Nat → Int} {K S : Nat} {g : Nat → Nat} : ∀ (k : Nat) {d e : Nat → Nat}, (∀ i, i < K → d i = e i) → RchF fr sz K S g k d → RchF fr sz K S g k e
  | 0, d, e, h, r => fun i hi => by rw [← h i hi]; exact r i hi
  | k + 1, d, e, h, ⟨i, s, h1, h2, h3, h4, h5⟩ => ⟨i, s, h1, h2, by rw [← h i h1]; exact h3, by rw [← freD_congr h s]; exact h4, RchF_congr k (fun j hj => by
      unfold updD
      split
      · rfl
      · exact h j hj) h5⟩
theorem freD_upd {fr sz : Nat → Int} {K : Nat} {d : Nat → Nat} {i s : Nat} (hi : i < K) (hs : s ≠ d i) : freD fr sz K (updD d i s) s = freD fr sz K d s - sz i := by
  have z := sumN_ins (g := fun j => if d j = s then sz j else 0) (g' := fun j => if updD d i s j = s then sz j else 0) (T := i) K hi (fun t ht h2 => by
    unfold updD
    rw [if_neg h2])
  unfold freD
  rw [z]
  rw [if_neg (show ¬ d i = s by omega), if_pos (show updD d i s i = s from if_pos rfl)]
  omega
theorem pigeon : ∀ (n N : Nat) (q : Nat → Nat), (∀ i, i < n → q i < N) → (∀ i j, i < n → j < n → q i = q j → i = j) → n ≤ N
  | 0, _, _, _, _ => by omega
  | n + 1, 0, q, h, _ => absurd (h 0 (by omega)) (by omega)
  | n + 1, N + 1, q, h, hi => by
    have key := pigeon n N (fun i => if q i = N then q n else q i) (fun i hin => by
      have h1 := h i (by omega)
      have h2 := h n (by omega)
      by_cases e : q i = N
      · rw [if_pos e]
        have : q n ≠ N := fun w => by
          have := hi i n (by omega) (by omega) (by omega)
          omega
        omega
      · rw [if_neg e]
        omega) (fun i j hin hjn e => by
      by_cases e1 : q i = N <;> by_cases e2 : q j = N
      · exact hi i j (by omega) (by omega) (by omega)
      · rw [if_pos e1, if_neg e2] at e
        have := hi n j (by omega) (by omega) e
        omega
      · rw [if_neg e1, if_pos e2] at e
        have := hi i n (by omega) (by omega) e
        omega
      · rw [if_neg e1, if_neg e2] at e
        exact hi i j (by omega) (by omega) e)
    omega

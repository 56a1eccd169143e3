/-! moves of the class: states by numbers -/
def HM (n : Nat) (FI A : Nat → Nat → Int) (c mv st K S : Nat) : Prop := cI n FI A ∧ FI 6 8 = (c : Int) ∧ mv < 2 ^ c ∧ st < 2048 ∧ K = pcR mv 16 ∧ K ≤ 6 ∧ S = pcR st 16 ∧ S ≤ 5
def szM (A : Nat → Nat → Int) (mv i : Nat) : Int := A (20 + nth mv i) 0
def frM (A : Nat → Nat → Int) (c mv st s : Nat) : Int := A (8 + nth st s) 0 - occ A (pw A mv) (nth st s) c
def MSt (FI0 A0 : Nat → Nat → Int) (c mv st K S : Nat) (FI A : Nat → Nat → Int) : Prop := SAME FI0 A0 FI A ∧ (FI 152 9 = (K : Int) ∧ FI 152 10 = (S : Int)) ∧ (∀ i, i < K → A 153 i = (nth mv i : Int)) ∧ (∀ s, s < S → A 154 s = (nth st s : Int)) ∧ ∀ s, s < S → A 155 s = frM A0 c mv st s
theorem HM.T {n : Nat} {FI A : Nat → Nat → Int} {c mv st K S : Nat} (h : HM n FI A c mv st K S) {i : Nat} (hi : i < K) : nth mv i < c ∧ nth mv i < 16 := by
  have a := nth_ok (s := mv) (i := i) (by have := h.2.2.2.2.1; omega)
  exact ⟨tb_lt16 h.2.2.1 a.1, a.2.2⟩
theorem HM.F {n : Nat} {FI A : Nat → Nat → Int} {c mv st K S : Nat} (h : HM n FI A c mv st K S) {s : Nat} (hs : s < S) : nth st s < 11 := by
  have a := nth_ok (s := st) (i := s) (by have := h.2.2.2.2.2.2.1; omega)
  exact tb_lt16 (c := 11) (by have := h.2.2.2.1; omega) a.1
theorem HM.c {n : Nat} {FI A : Nat → Nat → Int} {c mv st K S : Nat} (h : HM n FI A c mv st K S) : c ≤ 16 := by
  have := h.1.1
  have := h.2.1
  omega
theorem PWt_pow : ∀ m, m < 7 → PWt m = ((5 ^ m : Nat) : Int) := by
  intro m hm
  match m, hm with
  | 0, _ => rfl
  | 1, _ => rfl
  | 2, _ => rfl
  | 3, _ => rfl
  | 4, _ => rfl
  | 5, _ => rfl
  | 6, _ => rfl
def sumM (f : Nat → Nat) : Nat → Nat
  | 0 => 0
  | n + 1 => sumM f n + f n
def stN (dg : Nat → Nat) (k : Nat) : Nat := sumM (fun m => dg m * 5 ^ m) k
theorem stN_lt {dg : Nat → Nat} : ∀ k, (∀ m, m < k → dg m < 5) → stN dg k < 5 ^ k
  | 0, _ => by show 0 < 1; omega
  | k + 1, h => by
    have i := stN_lt k (fun m hm => h m (by omega))
    have d := h k (by omega)
    show stN dg k + dg k * 5 ^ k < 5 ^ (k + 1)
    rw [Nat.pow_succ]
    have := Nat.mul_le_mul_right (5 ^ k) (show dg k ≤ 4 by omega)
    omega
theorem stN_dig {dg : Nat → Nat} : ∀ k, (∀ m, m < k → dg m < 5) → ∀ m, m < k → stN dg k / 5 ^ m % 5 = dg m
  | 0, _, m, hm => absurd hm (by omega)
  | k + 1, h, m, hm => by
    have lt := stN_lt k (fun m hm => h m (by omega))
    have d := h k (by omega)
    show (stN dg k + dg k * 5 ^ k) / 5 ^ m % 5 = dg m
    by_cases e : m = k
    · rw [e, Nat.add_mul_div_right _ _ (Nat.pow_pos (by omega)), Nat.div_eq_of_lt lt, Nat.zero_add, Nat.mod_eq_of_lt d]
    · have ih := stN_dig k (fun m hm => h m (by omega)) m (by omega)
      have e1 : dg k * 5 ^ k = (dg k * 5 ^ (k - m - 1) * 5) * 5 ^ m := by
        rw [Nat.mul_assoc, Nat.mul_assoc, ← Nat.pow_succ', ← Nat.pow_add, show (k - m - 1) + (m + 1) = k by omega]
      rw [e1, Nat.add_mul_div_right _ _ (Nat.pow_pos (by omega)), Nat.add_mul_mod_self_right]
      exact ih
theorem stN_ext {x k : Nat} : x < 5 ^ k → stN (fun m => x / 5 ^ m % 5) k = x := by
  induction k generalizing x with
  | zero => intro h; show 0 = x; rw [Nat.pow_zero] at h; omega
  | succ k ih =>
    intro h
    show stN (fun m => x / 5 ^ m % 5) k + x / 5 ^ k % 5 * 5 ^ k = x
    have hp : 0 < 5 ^ k := Nat.pow_pos (by omega)
    have e : stN (fun m => x / 5 ^ m % 5) k = stN (fun m => x % 5 ^ k / 5 ^ m % 5) k := by
      have : ∀ j, j ≤ k → stN (fun m => x / 5 ^ m % 5) j = stN (fun m => x % 5 ^ k / 5 ^ m % 5) j := by
        intro j
        induction j with
        | zero => intro _; rfl
        | succ j ihj =>
          intro hj
          show stN _ j + x / 5 ^ j % 5 * 5 ^ j = stN _ j + x % 5 ^ k / 5 ^ j % 5 * 5 ^ j
          rw [ihj (by omega)]
          have hx := Nat.div_add_mod x (5 ^ k)
          have e2 : x / 5 ^ j % 5 = x % 5 ^ k / 5 ^ j % 5 := by
            have e1 : 5 ^ k * (x / 5 ^ k) = (x / 5 ^ k * 5 ^ (k - j - 1) * 5) * 5 ^ j := by
              rw [Nat.mul_comm, Nat.mul_assoc, Nat.mul_assoc, ← Nat.pow_succ', ← Nat.pow_add, show (k - j - 1) + (j + 1) = k by omega]
            have : x = x % 5 ^ k + (x / 5 ^ k * 5 ^ (k - j - 1) * 5) * 5 ^ j := by omega
            conv => lhs; rw [this]
            rw [Nat.add_mul_div_right _ _ (Nat.pow_pos (by omega)), Nat.add_mul_mod_self_right]
          rw [e2]
      exact this k (by omega)
    rw [e, ih (Nat.mod_lt _ hp)]
    rw [Nat.pow_succ] at h
    have hq : x / 5 ^ k < 5 := by
      rw [Nat.div_lt_iff_lt_mul hp]
      omega
    rw [Nat.mod_eq_of_lt hq]
    have hx := Nat.div_add_mod x (5 ^ k)
    rw [Nat.mul_comm] at hx
    omega

/-! the count of bits -/
def pcR (s : Nat) : Nat → Nat
  | 0 => 0
  | k + 1 => pcR s k + s / 2 ^ k % 2
theorem pcR_sum (s : Nat) : ∀ n, sumN (fun k => (bitN s k : Int)) n = (pcR s n : Int)
  | 0 => rfl
  | n + 1 => by
    show sumN (fun k => (bitN s k : Int)) n + (bitN s n : Int) = _
    rw [pcR_sum s n]
    unfold bitN
    show _ = ((pcR s n + s / 2 ^ n % 2 : Nat) : Int)
    omega
def b1 (s : Nat) : Nat := s - (s / 2 ^ 1 &&& 1431655765)
def b2 (x : Nat) : Nat := (x &&& 858993459) + (x / 2 ^ 2 &&& 858993459)
def b3 (x : Nat) : Nat := (x + x / 2 ^ 4) &&& 252645135
def b4 (x : Nat) : Nat := x + x / 2 ^ 8
def b5 (x : Nat) : Nat := x + x / 2 ^ 16
theorem land256 {a b m n : Nat} (hb : b < 256) (hn : n < 256) : (256 * a + b) &&& (256 * m + n) = 256 * (a &&& m) + (b &&& n) := by
  have hbn : b &&& n < 2 ^ 8 := Nat.and_lt_two_pow _ hn
  apply Nat.eq_of_testBit_eq
  intro i
  rw [Nat.testBit_and, show 256 = 2 ^ 8 from rfl, Nat.testBit_two_pow_mul_add a hb, Nat.testBit_two_pow_mul_add m hn, Nat.testBit_two_pow_mul_add (a &&& m) hbn]
  split
  · rw [Nat.testBit_and]
  · rw [Nat.testBit_and]
theorem b1_d1 : ∀ x, x < 256 → x / 2 &&& 5592405 = x / 2 &&& 85 ∧ x / 2 &&& 1431655765 = x / 2 &&& 85 := by decide +kernel
theorem b1_d2 : ∀ y, y < 2 → ∀ x, x < 256 → (128 * y + x / 2) &&& 85 = x / 2 &&& 85 := by decide +kernel
theorem b2_d1 : ∀ x, x < 256 → (x / 4 &&& 3355443 = x / 4 &&& 51 ∧ x / 4 &&& 858993459 = x / 4 &&& 51) ∧ x &&& 3355443 = x &&& 51 ∧ x &&& 858993459 = x &&& 51 := by decide +kernel
theorem b2_d2 : ∀ y, y < 4 → ∀ x, x < 256 → (64 * y + x / 4) &&& 51 = x / 4 &&& 51 := by decide +kernel
theorem b3_d1 : ∀ x, x < 256 → (x + x / 16) &&& 986895 = (x + x / 16) &&& 252645135 := by decide +kernel
theorem b3_d2 : ∀ y, y < 5 → ∀ x, x < 69 → (16 * y + x + x / 16) &&& 15 = (x + x / 16) &&& 252645135 := by decide +kernel
theorem b8_d : ∀ x, x < 256 → b1 x < 256 ∧ b2 (b1 x) < 69 ∧ b2 (b1 x) % 16 < 5 ∧ b3 (b2 (b1 x)) = pcR x 8 ∧ pcR x 8 < 9 := by decide +kernel
theorem b1_s {a b : Nat} (ha : a < 256) (hb : b < 256) : b1 (256 * a + b) = 256 * b1 a + b1 b := by
  unfold b1
  have e1 : (256 * a + b) / 2 ^ 1 = 256 * (a / 2) + (128 * (a % 2) + b / 2) := by omega
  have e2 : 1431655765 = 256 * 5592405 + 85 := rfl
  rw [show (256 * a + b) / 2 ^ 1 &&& 1431655765 = 256 * (a / 2 &&& 85) + (b / 2 &&& 85) by
    rw [e1, e2, land256 (by omega) (by omega), (b1_d1 a ha).1, b1_d2 (a % 2) (by omega) b hb]]
  have h1 := @Nat.and_le_left (a / 2) 85
  have h2 := @Nat.and_le_left (b / 2) 85
  rw [show a / 2 ^ 1 = a / 2 from rfl, show b / 2 ^ 1 = b / 2 from rfl, (b1_d1 a ha).2, (b1_d1 b hb).2]
  omega
theorem b2_s {a b : Nat} (ha : a < 256) (hb : b < 256) : b2 (256 * a + b) = 256 * b2 a + b2 b := by
  unfold b2
  have e1 : (256 * a + b) / 2 ^ 2 = 256 * (a / 4) + (64 * (a % 4) + b / 4) := by omega
  have e2 : 858993459 = 256 * 3355443 + 51 := rfl
  rw [show (256 * a + b) / 2 ^ 2 &&& 858993459 = 256 * (a / 4 &&& 51) + (b / 4 &&& 51) by
    rw [e1, e2, land256 (by omega) (by omega), (b2_d1 a ha).1.1, b2_d2 (a % 4) (by omega) b hb]]
  rw [show (256 * a + b) &&& 858993459 = 256 * (a &&& 51) + (b &&& 51) by
    rw [e2, land256 (by omega) (by omega), (b2_d1 a ha).2.1]]
  rw [show a / 2 ^ 2 = a / 4 from rfl, show b / 2 ^ 2 = b / 4 from rfl, (b2_d1 a ha).1.2, (b2_d1 b hb).1.2, (b2_d1 a ha).2.2, (b2_d1 b hb).2.2]
  omega
theorem b3_s {a b : Nat} (ha : a < 256) (ha5 : a % 16 < 5) (hb : b < 69) : b3 (256 * a + b) = 256 * b3 a + b3 b := by
  unfold b3
  have e1 : 256 * a + b + (256 * a + b) / 2 ^ 4 = 256 * (a + a / 16) + (16 * (a % 16) + b + b / 16) := by omega
  have e2 : 252645135 = 256 * 986895 + 15 := rfl
  rw [show (256 * a + b + (256 * a + b) / 2 ^ 4) &&& 252645135 = 256 * ((a + a / 16) &&& 986895) + ((16 * (a % 16) + b + b / 16) &&& 15) by
    rw [e1, e2, land256 (by omega) (by omega)]]
  rw [b3_d1 a ha, b3_d2 (a % 16) ha5 b hb]
theorem pcR_s {a b : Nat} (hb : b < 256) : pcR (256 * a + b) 16 = pcR a 8 + pcR b 8 := by
  have lo : ∀ k, k < 8 → (256 * a + b) / 2 ^ k % 2 = b / 2 ^ k % 2 := by
    intro k hk
    rcases (show k = 0 ∨ k = 1 ∨ k = 2 ∨ k = 3 ∨ k = 4 ∨ k = 5 ∨ k = 6 ∨ k = 7 by omega) with rfl | rfl | rfl | rfl | rfl | rfl | rfl | rfl <;> omega
  have hi : ∀ k, (256 * a + b) / 2 ^ (k + 8) % 2 = a / 2 ^ k % 2 := by
    intro k
    rw [Nat.pow_add, Nat.mul_comm (2 ^ k), ← Nat.div_div_eq_div_mul, show (256 * a + b) / 2 ^ 8 = a by omega]
  have h1 : ∀ n, n ≤ 8 → pcR (256 * a + b) n = pcR b n := by
    intro n
    induction n with
    | zero => intro _; rfl
    | succ n ih =>
      intro hn
      show pcR (256 * a + b) n + _ = pcR b n + _
      rw [ih (by omega), lo n (by omega)]
  have h2 : ∀ n, pcR (256 * a + b) (n + 8) = pcR a n + pcR b 8 := by
    intro n
    induction n with
    | zero => rw [Nat.zero_add, h1 8 (by omega)]; show pcR b 8 = 0 + pcR b 8; omega
    | succ n ih =>
      rw [show n + 1 + 8 = (n + 8) + 1 by omega]
      show pcR (256 * a + b) (n + 8) + (256 * a + b) / 2 ^ (n + 8) % 2 = pcR a n + a / 2 ^ n % 2 + pcR b 8
      rw [ih, hi n]
      omega
  exact h2 8
theorem bc_eq {s : Nat} (hs : s < 65536) : b5 (b4 (b3 (b2 (b1 s)))) &&& 63 = pcR s 16 := by
  obtain ⟨a, b, rfl, ha, hb⟩ : ∃ a b, s = 256 * a + b ∧ a < 256 ∧ b < 256 := ⟨s / 256, s % 256, by omega, by omega, by omega⟩
  have da := b8_d a ha
  have db := b8_d b hb
  rw [b1_s ha hb, b2_s da.1 db.1, b3_s (by omega) da.2.2.1 db.2.1, pcR_s hb, da.2.2.2.1, db.2.2.2.1]
  unfold b5 b4
  rw [show 63 = 2 ^ 6 - 1 from rfl, Nat.and_two_pow_sub_one_eq_mod]
  have ga := da.2.2.2.2
  have gb := db.2.2.2.2
  generalize pcR a 8 = h at *
  generalize pcR b 8 = l at *
  clear da db
  rw [show (256 * h + l) / 2 ^ 8 = h by omega, show (256 * h + l + h) / 2 ^ 16 = 0 by omega]
  omega
theorem sp_bitCount {P : PP} {d : Nat} {FI A L : Nat → Nat → Int} {X : SX} {Q : Option AV → S2 → Prop} {s : Nat} (hs : s < 65536) (hq : Q (some (vi (sumN (fun k => (bitN s k : Int)) 16))) (FI, A, L, X)) : WP2 P J_bitCount (d) 0 [some (vi (s : Int))] [] (FI, A, L, X) Q := by
  have k1 : b1 s < 65536 := by unfold b1; omega
  have k2 : b2 (b1 s) < 131072 := by
    unfold b2
    have h1 := @Nat.and_le_left (b1 s) 858993459
    have h2 := @Nat.and_le_left (b1 s / 2 ^ 2) 858993459
    omega
  have k3 : b3 (b2 (b1 s)) < 262144 := by
    unfold b3
    have h1 := @Nat.and_le_left (b2 (b1 s) + b2 (b1 s) / 2 ^ 4) 252645135
    omega
  have k4 : b4 (b3 (b2 (b1 s))) < 524288 := by unfold b4; omega
  have k5 : b5 (b4 (b3 (b2 (b1 s)))) < 1048576 := by unfold b5; omega
  have e1 : (s : Int) - iAnd (iUsh (s : Int) 1) 1431655765 = (b1 s : Int) := by
    rw [show iUsh (s : Int) 1 = ((s / 2 ^ 1 : Nat) : Int) from iUsh_n (k := 1) (by omega) (by omega)]
    rw [show iAnd ((s / 2 ^ 1 : Nat) : Int) 1431655765 = ((s / 2 ^ 1 &&& 1431655765 : Nat) : Int) from iAnd_n (b := 1431655765) (by omega)]
    have h1 := @Nat.and_le_left (s / 2 ^ 1) 1431655765
    unfold b1
    omega
  have e2 : ∀ x : Nat, x < 65536 → iAnd (x : Int) 858993459 + iAnd (iUsh (x : Int) 2) 858993459 = (b2 x : Int) := by
    intro x hx
    rw [show iUsh (x : Int) 2 = ((x / 2 ^ 2 : Nat) : Int) from iUsh_n (k := 2) (by omega) (by omega)]
    rw [show iAnd ((x / 2 ^ 2 : Nat) : Int) 858993459 = ((x / 2 ^ 2 &&& 858993459 : Nat) : Int) from iAnd_n (b := 858993459) (by omega)]
    rw [show iAnd (x : Int) 858993459 = ((x &&& 858993459 : Nat) : Int) from iAnd_n (b := 858993459) (by omega)]
    unfold b2
    omega
  have e3 : ∀ x : Nat, x < 131072 → iAnd ((x : Int) + iUsh (x : Int) 4) 252645135 = (b3 x : Int) := by
    intro x hx
    rw [show iUsh (x : Int) 4 = ((x / 2 ^ 4 : Nat) : Int) from iUsh_n (k := 4) (by omega) (by omega)]
    rw [show (x : Int) + ((x / 2 ^ 4 : Nat) : Int) = ((x + x / 2 ^ 4 : Nat) : Int) by omega]
    exact iAnd_n (b := 252645135) (by omega)
  have e4 : ∀ x : Nat, x < 262144 → (x : Int) + iUsh (x : Int) 8 = (b4 x : Int) := by
    intro x hx
    rw [show iUsh (x : Int) 8 = ((x / 2 ^ 8 : Nat) : Int) from iUsh_n (k := 8) (by omega) (by omega)]
    unfold b4
    omega
  have e5 : ∀ x : Nat, x < 524288 → (x : Int) + iUsh (x : Int) 16 = (b5 x : Int) := by
    intro x hx
    rw [show iUsh (x : Int) 16 = ((x / 2 ^ 16 : Nat) : Int) from iUsh_n (k := 16) (by omega) (by omega)]
    unfold b5
    omega
  have e6 : ∀ x : Nat, x < 1048576 → iAnd (x : Int) 63 = ((x &&& 63 : Nat) : Int) := fun x hx => iAnd_n (b := 63) (by omega)
  rw [pcR_sum, ← bc_eq hs, ← e6 _ k5] at hq
  refine WP_n 4 rfl ?_
  refine WP2_ldcw (x := 1431655765) rfl rfl rfl ?_
  refine WP_n 3 rfl ?_
  rw [e1]
  refine WP_n 1 rfl ?_
  refine WP2_ldcw (x := 858993459) rfl rfl rfl ?_
  refine WP_n 4 rfl ?_
  refine WP2_ldcw (x := 858993459) rfl rfl rfl ?_
  refine WP_n 3 rfl ?_
  rw [e2 _ k1]
  refine WP_n 5 rfl ?_
  refine WP2_ldcw (x := 252645135) rfl rfl rfl ?_
  refine WP_n 2 rfl ?_
  rw [e3 _ k2]
  refine WP_n 6 rfl ?_
  rw [e4 _ k3]
  refine WP_n 6 rfl ?_
  rw [e5 _ k4]
  refine WP_n 3 rfl ?_
  exact WP_iret rfl rfl rfl ⟨_, rfl, hq⟩

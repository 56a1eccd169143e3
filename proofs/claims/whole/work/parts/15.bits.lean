/-! bits of small naturals -/
theorem b_and (a b : Nat) : Int32.ofNat a &&& Int32.ofNat b = Int32.ofNat (a &&& b) := by
  apply Int32.toBitVec.inj
  simp only [Int32.toBitVec_and, Int32.toBitVec_ofNat']
  exact (BitVec.ofNat_and ..).symm
theorem b_or (a b : Nat) : Int32.ofNat a ||| Int32.ofNat b = Int32.ofNat (a ||| b) := by
  apply Int32.toBitVec.inj
  simp only [Int32.toBitVec_or, Int32.toBitVec_ofNat']
  exact (BitVec.ofNat_or ..).symm
theorem b_sl : ∀ n, n < 32 → ((Int32.ofNat n &&& 31).toBitVec.smod 32).toNat = n := by decide +kernel
theorem b_ul : ∀ n, n < 32 → (((Int32.ofNat n).toUInt32 &&& Int32.toUInt32 31).toBitVec % 32).toNat = n := by decide +kernel
theorem b_toInt {n : Nat} (h : n < 2147483648) : (Int32.ofNat n).toInt = (n : Int) := Int32.toInt_ofNat_of_lt (by omega)
theorem iAnd_n {a b : Nat} (ha : a < 2147483648) : iAnd (a : Int) (b : Int) = ((a &&& b : Nat) : Int) := by
  unfold iAnd
  rw [Int32.ofInt_eq_ofNat, Int32.ofInt_eq_ofNat, b_and, b_toInt]
  exact Nat.lt_of_le_of_lt Nat.and_le_left ha
theorem iOr_n {a b : Nat} (ha : a < 2 ^ 31) (hb : b < 2 ^ 31) : iOr (a : Int) (b : Int) = ((a ||| b : Nat) : Int) := by
  unfold iOr
  rw [Int32.ofInt_eq_ofNat, Int32.ofInt_eq_ofNat, b_or, b_toInt]
  have := Nat.or_lt_two_pow ha hb
  omega
theorem iShl_n {a k : Nat} (hk : k < 31) (h : a * 2 ^ k < 2147483648) : iShl (a : Int) (k : Int) = ((a * 2 ^ k : Nat) : Int) := by
  unfold iShl
  rw [Int32.ofInt_eq_ofNat, Int32.ofInt_eq_ofNat]
  have e := pk_shlN (n := a) (Int32.ofNat k &&& 31) k (b_sl k (by omega)) (by omega)
  unfold nI at e
  rw [e, b_toInt h]
theorem iShr_n {a k : Nat} (hk : k < 32) (h : a < 2147483648) : iShr (a : Int) (k : Int) = ((a / 2 ^ k : Nat) : Int) := by
  unfold iShr
  rw [Int32.ofInt_eq_ofNat, Int32.ofInt_eq_ofNat]
  have e := pk_shrN (n := a) (by omega) (Int32.ofNat k &&& 31) k (b_sl k hk)
  unfold nI at e
  rw [e, b_toInt]
  exact Nat.lt_of_le_of_lt (Nat.div_le_self a _) h
theorem iUsh_n {a k : Nat} (hk : k < 32) (h : a < 2147483648) : iUsh (a : Int) (k : Int) = ((a / 2 ^ k : Nat) : Int) := by
  unfold iUsh
  rw [Int32.ofInt_eq_ofNat, Int32.ofInt_eq_ofNat]
  have e := pk_ushrN (n := a) (by omega) (Int32.ofNat k) k (b_ul k hk)
  unfold nI at e
  rw [e, b_toInt]
  exact Nat.lt_of_le_of_lt (Nat.div_le_self a _) h
def bitN (s k : Nat) : Nat := s / 2 ^ k % 2
theorem bitN_tb (s k : Nat) : bitN s k = if s.testBit k then 1 else 0 := by
  unfold bitN
  rw [Nat.testBit_eq_decide_div_mod_eq]
  have : s / 2 ^ k % 2 = 0 ∨ s / 2 ^ k % 2 = 1 := by omega
  rcases this with h | h <;> rw [h] <;> rfl
theorem bitN_le (s k : Nat) : bitN s k ≤ 1 := by unfold bitN; omega
theorem iBit {s k : Nat} (hk : k < 32) (h : s < 2147483648) : iAnd (iShr (s : Int) (k : Int)) 1 = (bitN s k : Int) := by
  rw [iShr_n hk h]
  have := iAnd_n (a := s / 2 ^ k) (b := 1) (Nat.lt_of_le_of_lt (Nat.div_le_self s _) h)
  rw [show ((1 : Nat) : Int) = 1 from rfl] at this
  rw [this, Nat.and_one_is_mod]
  rfl
theorem b_mask : ∀ n, n < 17 → ∀ i, i < 32 → (Int32.ofInt (-(2 ^ n : Nat))).toBitVec.getLsbD i = decide (n ≤ i) := by decide +kernel
theorem b_maskx : ∀ n, n < 17 → (Int32.ofInt ((2 ^ n : Nat) - 1 : Int) ^^^ Int32.ofInt (-1)) = Int32.ofInt (-(2 ^ n : Nat)) := by decide +kernel
theorem b_nat (x : Int) (hx : inR x) : (Int32.ofInt x).toBitVec.toNat = if 0 ≤ x then x.toNat else (x + 4294967296).toNat := by
  have h := i32_toInt hx
  have h2 : (Int32.ofInt x).toBitVec.toInt = x := h
  rw [BitVec.toInt_eq_toNat_cond] at h2
  obtain ⟨h3, h4⟩ := hx
  have h5 := (Int32.ofInt x).toBitVec.isLt
  split at h2 <;> split <;> omega
theorem iMask {n : Nat} (hn : n < 17) {x : Int} (hx : inR x) : iAnd x (-(2 ^ n : Nat)) = 0 ↔ 0 ≤ x ∧ x < (2 ^ n : Nat) := by
  have hp : 2 ^ n ≤ 65536 := by
    have := Nat.pow_le_pow_right (n := 2) (by omega) (show n ≤ 16 by omega)
    omega
  have key : iAnd x (-(2 ^ n : Nat)) = 0 ↔ (Int32.ofInt x).toBitVec.toNat < 2 ^ n := by
    unfold iAnd
    have e0 : (0 : Int) = (0 : Int32).toInt := rfl
    rw [e0, Int32.toInt_inj, ← Int32.toBitVec_inj]
    rw [Int32.toBitVec_and]
    constructor
    · intro h
      apply Nat.lt_pow_two_of_testBit
      intro i hi
      by_cases h32 : i < 32
      · have h1 := congrArg (fun v => v.getLsbD i) h
        simp only [BitVec.getLsbD_and, b_mask n hn i h32] at h1
        have h2 : (0 : Int32).toBitVec.getLsbD i = false := by simp
        rw [h2, decide_eq_true (by omega : n ≤ i), Bool.and_true] at h1
        exact h1
      · exact BitVec.getLsbD_of_ge _ _ (by omega)
    · intro h
      apply BitVec.eq_of_getLsbD_eq
      intro i hi
      rw [BitVec.getLsbD_and, b_mask n hn i hi]
      have h2 : (0 : Int32).toBitVec.getLsbD i = false := by simp
      rw [h2]
      by_cases hni : n ≤ i
      · have : (Int32.ofInt x).toBitVec.getLsbD i = false := by
          apply Nat.testBit_lt_two_pow
          exact Nat.lt_of_lt_of_le h (Nat.pow_le_pow_right (by omega) hni)
        rw [this]; rfl
      · rw [decide_eq_false hni, Bool.and_false]
  rw [key, b_nat x hx]
  obtain ⟨h3, h4⟩ := hx
  split <;> omega
theorem iMaskX {n : Nat} (hn : n < 17) {x : Int} (hx : inR x) : iAnd x (iXor ((2 ^ n : Nat) - 1 : Int) (-1)) = 0 ↔ 0 ≤ x ∧ x < (2 ^ n : Nat) := by
  have e : iXor ((2 ^ n : Nat) - 1 : Int) (-1) = -(2 ^ n : Nat) := by
    unfold iXor
    rw [b_maskx n hn, i32_toInt]
    have h1 := Nat.pow_le_pow_right (n := 2) (by omega) (show n ≤ 16 by omega)
    have h2 := Nat.two_pow_pos n
    generalize 2 ^ n = N at h1 h2
    exact ⟨by omega, by omega⟩
  rw [e, iMask hn hx]
theorem iAnd_inR (x y : Int) : inR (iAnd x y) := by
  unfold iAnd
  exact ⟨by have := (Int32.ofInt x &&& Int32.ofInt y).le_toInt; omega, by have := (Int32.ofInt x &&& Int32.ofInt y).toInt_lt; omega⟩
/-! loops that count up -/
theorem up_to {P : Nat → Prop} (N : Nat) (hN : P N) (hs : ∀ t, t < N → P (t + 1) → P t) : ∀ t, t ≤ N → P t := by
  intro t ht
  obtain ⟨k, rfl⟩ : ∃ k, N = t + k := ⟨N - t, by omega⟩
  induction k generalizing t with
  | zero => exact hN
  | succ k ih =>
    refine hs t (by omega) (ih (t + 1) ?_ ?_ (by omega))
    · rw [show t + 1 + k = t + (k + 1) by omega]; exact hN
    · intro u hu hp
      exact hs u (by omega) hp
def sumN (f : Nat → Int) : Nat → Int
  | 0 => 0
  | n + 1 => sumN f n + f n
theorem sumN_congr {f g : Nat → Int} : ∀ n, (∀ k, k < n → f k = g k) → sumN f n = sumN g n
  | 0, _ => rfl
  | n + 1, h => by
    show sumN f n + f n = sumN g n + g n
    rw [sumN_congr n (fun k hk => h k (by omega)), h n (by omega)]
theorem sumN_bd {f : Nat → Int} {lo hi : Int} : ∀ n, (∀ k, k < n → lo ≤ f k ∧ f k ≤ hi) → n * lo ≤ sumN f n ∧ sumN f n ≤ n * hi
  | 0, _ => by simp [sumN]
  | n + 1, h => by
    have h1 := sumN_bd n (fun k hk => h k (by omega))
    have h2 := h n (by omega)
    show (↑(n + 1)) * lo ≤ sumN f n + f n ∧ sumN f n + f n ≤ (↑(n + 1)) * hi
    have e1 : ((n + 1 : Nat) : Int) * lo = n * lo + lo := by rw [Int.natCast_add, Int.add_mul]; simp
    have e2 : ((n + 1 : Nat) : Int) * hi = n * hi + hi := by rw [Int.natCast_add, Int.add_mul]; simp
    rw [e1, e2]
    omega

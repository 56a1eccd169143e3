/-! what scratch does not touch; sets of floors and their order -/
def SAME (FI A FI' A' : Nat → Nat → Int) : Prop := (FI' 6 8 = FI 6 8 ∧ FI' 6 9 = FI 6 9 ∧ FI' 165 0 = FI 165 0 ∧ FI' 165 1 = FI 165 1) ∧ A' 163 11 = A 163 11 ∧ ∀ a j, (a ≤ 137 ∨ (164 ≤ a ∧ a ≤ 185)) → A' a j = A a j
theorem SAME.refl (FI A : Nat → Nat → Int) : SAME FI A FI A := ⟨⟨rfl, rfl, rfl, rfl⟩, rfl, fun _ _ _ => rfl⟩
theorem SAME.trans {FI A FI1 A1 FI2 A2 : Nat → Nat → Int} (h : SAME FI A FI1 A1) (k : SAME FI1 A1 FI2 A2) : SAME FI A FI2 A2 :=
  ⟨⟨k.1.1.trans h.1.1, k.1.2.1.trans h.1.2.1, k.1.2.2.1.trans h.1.2.2.1, k.1.2.2.2.trans h.1.2.2.2⟩, k.2.1.trans h.2.1, fun a j q => (k.2.2 a j q).trans (h.2.2 a j q)⟩
theorem SAME.up {FI A FI1 A1 : Nat → Nat → Int} (h : SAME FI A FI1 A1) {a j : Nat} {x : Int} (ha : 138 ≤ a ∧ a ≠ 163 ∧ (a < 164 ∨ 185 < a)) : SAME FI A FI1 (up2 A1 a j x) :=
  ⟨h.1, by rw [up2_ne (by omega)]; exact h.2.1, fun b k q => by rw [up2_ne (by omega)]; exact h.2.2 b k q⟩
theorem SAME.up163 {FI A FI1 A1 : Nat → Nat → Int} (h : SAME FI A FI1 A1) {j : Nat} {x : Int} (hj : j < 11) : SAME FI A FI1 (up2 A1 163 j x) :=
  ⟨h.1, by rw [up2_ne (by omega)]; exact h.2.1, fun b k q => by rw [up2_ne (by omega)]; exact h.2.2 b k q⟩
theorem SAME.upF {FI A FI1 A1 : Nat → Nat → Int} (h : SAME FI A FI1 A1) {a j : Nat} {x : Int} (ha : a ≠ 6 ∧ (a = 165 → 2 ≤ j)) : SAME FI A (up2 FI1 a j x) A1 := by
  refine ⟨⟨?_, ?_, ?_, ?_⟩, h.2⟩
  · rw [up2_ne (by omega)]; exact h.1.1
  · rw [up2_ne (by omega)]; exact h.1.2.1
  · rw [up2_ne (by omega)]; exact h.1.2.2.1
  · rw [up2_ne (by omega)]; exact h.1.2.2.2
theorem cI.off {n : Nat} {FI A FI' A' : Nat → Nat → Int} (h : cI n FI A) (s : SAME FI A FI' A') : cI n FI' A' := by
  obtain ⟨k1, k2, k3, k4, k5, k6, k7⟩ := h
  obtain ⟨⟨s1, s2, s3, s4⟩, s5, ha⟩ := s
  refine ⟨by rw [s1]; exact k1, by rw [s2]; exact k2, fun f hf => ?_, fun t ht => ?_, fun a b ha9 hb => ?_, fun t p ht hp => ?_, fun j hj => ?_⟩
  · have := k3 f hf
    unfold cFl at *
    simp (disch := omega) only [ha]
    exact this
  · have := k4 t ht
    unfold cTm at *
    simp (disch := omega) only [ha, s1]
    exact this
  · have := k5 a b ha9 hb
    unfold cTw at *
    simp (disch := omega) only [ha]
    exact this
  · have := k6 t p ht hp
    unfold cPp at *
    simp (disch := omega) only [ha]
    exact this
  · have := k7 j hj
    rw [s5, ha 164 j (by omega)]
    exact this
theorem gI9.off {FI A FI' A' : Nat → Nat → Int} (h : gI9 FI A) (s : SAME FI A FI' A') : gI9 FI' A' := by
  obtain ⟨k1, k2, k3, k4, k5, k6, k7⟩ := h
  obtain ⟨⟨s1, s2, s3, s4⟩, s5, ha⟩ := s
  refine ⟨by rw [s1, s3]; exact k1, by rw [s2, s4]; exact k2, fun f hf => ?_, fun t ht => ?_, fun a b ha9 hb => ?_, fun t p ht hp => ?_, fun j hj => ?_⟩
  · have := k3 f hf
    unfold gFl at *
    simp (disch := omega) only [ha]
    exact this
  · have := k4 t ht
    unfold gTm at *
    simp (disch := omega) only [ha, s1]
    exact this
  · have := k5 a b ha9 hb
    unfold gTw at *
    simp (disch := omega) only [ha]
    exact this
  · have := k6 t p ht hp
    unfold gPp at *
    simp (disch := omega) only [ha]
    exact this
  · have := k7 j hj
    rw [ha 185 j (by omega), ha 164 j (by omega)]
    exact this
theorem gI8.off {FI A FI' A' : Nat → Nat → Int} (h : gI8 FI A) (s : SAME FI A FI' A') : gI8 FI' A' := by
  obtain ⟨k1, k2, k3, k4, k5, k6⟩ := h
  obtain ⟨⟨s1, s2, s3, s4⟩, s5, ha⟩ := s
  refine ⟨by rw [s1, s3]; exact k1, by rw [s2, s4]; exact k2, fun f hf => ?_, fun t ht => ?_, fun a b ha9 hb => ?_, fun t p ht hp => ?_⟩
  · have := k3 f hf
    unfold gFl at *
    simp (disch := omega) only [ha]
    exact this
  · have := k4 t ht
    unfold gTm at *
    simp (disch := omega) only [ha, s1]
    exact this
  · have := k5 a b ha9 hb
    unfold gTw at *
    simp (disch := omega) only [ha]
    exact this
  · have := k6 t p ht hp
    unfold gPp at *
    simp (disch := omega) only [ha]
    exact this
theorem INV.off {P : PP} {n : Nat} {FI A FI' A' : Nat → Nat → Int} {X : SX} (h : INV P n FI A X) (s : SAME FI A FI' A') : INV P n FI' A' X := ⟨h.1, h.2.1.off s, h.2.2.1.off s, h.2.2.2⟩
theorem or_pow {s f : Nat} (hs : s < 2 ^ f) (hf : f < 30) : iOr (s : Int) (iShl 1 (f : Int)) = ((s + 2 ^ f : Nat) : Int) := by
  have hp : 2 ^ f < 2 ^ 30 := Nat.pow_lt_pow_right (by omega) hf
  rw [show iShl 1 (f : Int) = ((1 * 2 ^ f : Nat) : Int) from iShl_n (a := 1) (by omega) (by omega)]
  rw [iOr_n (by omega) (by omega)]
  have h := Nat.two_pow_add_eq_or_of_lt hs 1
  rw [Nat.or_comm, Nat.one_mul]
  rw [Nat.mul_one] at h
  rw [← h, Nat.add_comm]
theorem or_zero' {s : Nat} (hs : s < 2 ^ 30) : iOr (s : Int) 0 = (s : Int) := by
  have := iOr_n (a := s) (b := 0) (by omega) (by omega)
  rw [Nat.or_zero] at this
  exact this
theorem tb_hi {s f : Nat} (hs : s < 2 ^ f) : (s + 2 ^ f).testBit f = true := by
  have h := Nat.testBit_two_pow_mul_add 1 hs f
  rw [Nat.mul_one, if_neg (by omega), Nat.sub_self] at h
  rw [Nat.add_comm, h]
  rfl
theorem tb_lo {s f g : Nat} (hs : s < 2 ^ f) (hg : g < f) : (s + 2 ^ f).testBit g = s.testBit g := by
  have h := Nat.testBit_two_pow_mul_add 1 hs g
  rw [Nat.mul_one, if_pos hg] at h
  rw [Nat.add_comm, h]
theorem tb_mod {s f g : Nat} (hg : g < f) : (s % 2 ^ f).testBit g = s.testBit g := by
  rw [Nat.testBit_mod_two_pow]
  simp [hg]
theorem tb_lt {s f g : Nat} (hs : s < 2 ^ f) (hg : f ≤ g) : s.testBit g = false := Nat.testBit_lt_two_pow (Nat.lt_of_lt_of_le hs (Nat.pow_le_pow_right (by omega) hg))
def rmS (S : Nat → Int) (s k : Nat) : Int := sumN (fun f => if s.testBit f then S f else 0) k
def cnt (s : Nat) : Int := sumN (fun k => (bitN s k : Int)) 16
def okF (S : Nat → Int) (hset : Nat) (need : Int) (s : Nat) : Prop := (∀ f, f < 11 → s.testBit f = true → hset.testBit f = true) ∧ need ≤ rmS S s 11
def leK (C : Nat → Int) (b s : Nat) : Prop := rmS C b 11 < rmS C s 11 ∨ (rmS C b 11 = rmS C s 11 ∧ (cnt b < cnt s ∨ (cnt b = cnt s ∧ b ≤ s)))
def JK (S C : Nat → Int) (hset : Nat) (need z x y : Int) (D : Nat → Prop) : Prop := (x = -9 ∧ y = z ∧ ∀ s, s < 2048 → D s → ¬ okF S hset need s) ∨ ∃ b : Nat, x = (b : Int) ∧ b < 2048 ∧ okF S hset need b ∧ y = rmS C b 11 ∧ ∀ s, s < 2048 → D s → okF S hset need s → leK C b s
def bet (C : Nat → Int) (x y : Int) (s : Nat) : Prop := x = -9 ∨ rmS C s 11 < y ∨ (rmS C s 11 = y ∧ (cnt s < cnt x.toNat ∨ (cnt s = cnt x.toNat ∧ (s : Int) < x)))
theorem JK.mono {S C : Nat → Int} {hset : Nat} {need z x y : Int} {D D' : Nat → Prop} (h : JK S C hset need z x y D) (m : ∀ s, s < 2048 → D' s → okF S hset need s → D s) : JK S C hset need z x y D' := by
  rcases h with ⟨h1, h2, h3⟩ | ⟨b, h1, h2, h3, h4, h5⟩
  · exact Or.inl ⟨h1, h2, fun s hs hd ho => h3 s hs (m s hs hd ho) ho⟩
  · exact Or.inr ⟨b, h1, h2, h3, h4, fun s hs hd ho => h5 s hs (m s hs hd ho) ho⟩
theorem JK.dear {S C : Nat → Int} {hset : Nat} {need z x y : Int} {D E : Nat → Prop} (h : JK S C hset need z x y D) (hx : x ≠ -9) (m : ∀ s, s < 2048 → E s → y < rmS C s 11) : JK S C hset need z x y (fun s => D s ∨ E s) := by
  rcases h with ⟨h1, h2, h3⟩ | ⟨b, h1, h2, h3, h4, h5⟩
  · exact absurd h1 hx
  · refine Or.inr ⟨b, h1, h2, h3, h4, fun s hs hd ho => ?_⟩
    rcases hd with hd | hd
    · exact h5 s hs hd ho
    · have := m s hs hd
      exact Or.inl (by omega)
theorem JK.put {S C : Nat → Int} {hset : Nat} {need z x y : Int} {D E : Nat → Prop} (h : JK S C hset need z x y D) {t : Nat} (ht : t < 2048) (ho : okF S hset need t) (hb : bet C x y t) (m : ∀ s, s < 2048 → E s → okF S hset need s → leK C t s) : JK S C hset need z (t : Int) (rmS C t 11) (fun s => D s ∨ E s) := by
  refine Or.inr ⟨t, rfl, ht, ho, rfl, fun s hs hd hos => ?_⟩
  rcases hd with hd | hd
  · rcases h with ⟨h1, h2, h3⟩ | ⟨b, h1, h2, h3, h4, h5⟩
    · exact absurd hos (h3 s hs hd)
    · have q := h5 s hs hd hos
      unfold bet at hb
      unfold leK at *
      rw [h1, h4] at hb
      rw [Int.toNat_natCast] at hb
      omega
  · exact m s hs hd hos
theorem JK.stay {S C : Nat → Int} {hset : Nat} {need z x y : Int} {D E : Nat → Prop} (h : JK S C hset need z x y D) {t : Nat} (hb : ¬ bet C x y t) (m : ∀ s, s < 2048 → E s → okF S hset need s → leK C t s) : JK S C hset need z x y (fun s => D s ∨ E s) := by
  rcases h with ⟨h1, h2, h3⟩ | ⟨b, h1, h2, h3, h4, h5⟩
  · exact absurd (Or.inl h1) hb
  · refine Or.inr ⟨b, h1, h2, h3, h4, fun s hs hd ho => ?_⟩
    rcases hd with hd | hd
    · exact h5 s hs hd ho
    · have q := m s hs hd ho
      unfold bet at hb
      unfold leK at *
      rw [h1, h4] at hb
      rw [Int.toNat_natCast] at hb
      omega
theorem JK.uniq {S C : Nat → Int} {hset : Nat} {need z z' x y x' y' : Int} (h : JK S C hset need z x y (fun _ => True)) (h' : JK S C hset need z' x' y' (fun _ => True)) : (x = -9 ∧ x' = -9 ∧ y = z) ∨ (x ≠ -9 ∧ x' = x ∧ y' = y) := by
  rcases h with ⟨h1, h2, h3⟩ | ⟨b, h1, h2, h3, h4, h5⟩ <;> rcases h' with ⟨k1, k2, k3⟩ | ⟨e, k1, k2, k3, k4, k5⟩
  · exact Or.inl ⟨h1, k1, h2⟩
  · exact absurd k3 (h3 e k2 trivial)
  · exact absurd h3 (k3 b h2 trivial)
  · have a1 := h5 e k2 trivial k3
    have a2 := k5 b h2 trivial h3
    unfold leK at a1 a2
    have : b = e := by omega
    subst this
    exact Or.inr ⟨by omega, by omega, by omega⟩
theorem rmS_bd {S : Nat → Int} {hi : Int} (h0 : 0 ≤ hi) (s k : Nat) (h : ∀ f, f < k → 0 ≤ S f ∧ S f ≤ hi) : 0 ≤ rmS S s k ∧ rmS S s k ≤ k * hi := by
  have := sumN_bd (f := fun f => if s.testBit f then S f else 0) (lo := 0) (hi := hi) k (fun f hf => by have := h f hf; split <;> omega)
  unfold rmS
  omega
theorem rmS_lo {S : Nat → Int} {s t f : Nat} (h : s % 2 ^ f = t) : rmS S t f = rmS S s f := sumN_congr f (fun g hg => by rw [← h, tb_mod hg])
theorem rmS_up {S : Nat → Int} {s f k : Nat} (hfk : f ≤ k) (h : ∀ f, f < k → 0 ≤ S f) : rmS S s f ≤ rmS S s k := sumN_le_s hfk (fun t ht => by have := h t ht; split <;> omega)
theorem rmS_hi {S : Nat → Int} {s f : Nat} (hs : s < 2 ^ f) : ∀ k, f ≤ k → rmS S s k = rmS S s f := by
  intro k hk
  induction k with
  | zero => rw [show f = 0 by omega]
  | succ k ih =>
    by_cases e : f = k + 1
    · rw [e]
    · show rmS S s k + (if s.testBit k then S k else 0) = _
      rw [ih (by omega), tb_lt hs (by omega)]
      simp
theorem rmS_held {S : Nat → Int} {hset s f : Nat} (h0 : ∀ f, f < 11 → 0 ≤ S f) (hh : ∀ f, f < 11 → s.testBit f = true → hset.testBit f = true) : ∀ k, k ≤ 11 → f ≤ k → rmS S s k - rmS S s f ≤ rmS S hset k - rmS S hset f := by
  intro k
  induction k with
  | zero => intro _ h; rw [show f = 0 by omega]; omega
  | succ k ih =>
    intro hk hf
    by_cases e : f = k + 1
    · rw [e]; omega
    · have i := ih (by omega) (by omega)
      have z := h0 k (by omega)
      show rmS S s k + (if s.testBit k then S k else 0) - _ ≤ rmS S hset k + (if hset.testBit k then S k else 0) - _
      by_cases q : s.testBit k = true
      · rw [if_pos q, if_pos (hh k (by omega) q)]; omega
      · rw [if_neg q]; split <;> omega
theorem cnt_mod {s f : Nat} : cnt (s % 2 ^ f) ≤ cnt s := by
  have : ∀ n, sumN (fun k => (bitN (s % 2 ^ f) k : Int)) n ≤ sumN (fun k => (bitN s k : Int)) n := by
    intro n
    induction n with
    | zero => exact Int.le_refl _
    | succ n ih =>
      show sumN _ n + _ ≤ sumN _ n + _
      have : bitN (s % 2 ^ f) n ≤ bitN s n := by
        by_cases q : n < f
        · rw [bitN_tb, bitN_tb, tb_mod q]; exact Nat.le_refl _
        · rw [bitN_0 (tb_lt (Nat.mod_lt _ (Nat.two_pow_pos f)) (by omega))]; omega
      dsimp only
      omega
  exact this 16
theorem ext_le {S C : Nat → Int} {s t f : Nat} (hf : f ≤ 11) (hC : ∀ f, f < 11 → 0 ≤ C f) (h : s % 2 ^ f = t) : rmS C t 11 ≤ rmS C s 11 ∧ cnt t ≤ cnt s ∧ t ≤ s := by
  have ht : t < 2 ^ f := by rw [← h]; exact Nat.mod_lt _ (Nat.two_pow_pos f)
  refine ⟨?_, ?_, ?_⟩
  · rw [rmS_hi ht 11 hf, rmS_lo h]
    exact rmS_up hf hC
  · rw [← h]; exact cnt_mod
  · rw [← h]; exact Nat.mod_le _ _
theorem ext_split {s t f : Nat} (h : s % 2 ^ f = t) : s % 2 ^ (f + 1) = t ∨ s % 2 ^ (f + 1) = t + 2 ^ f := by
  rw [Nat.mod_pow_succ, h]
  have : s / 2 ^ f % 2 = 0 ∨ s / 2 ^ f % 2 = 1 := by omega
  rcases this with q | q <;> rw [q]
  · exact Or.inl (by omega)
  · exact Or.inr (by omega)

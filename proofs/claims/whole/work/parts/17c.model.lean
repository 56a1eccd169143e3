/-! the ranges of the reference's own rows -/
def mTm (n : Nat) (c : Int) (A : Nat → Nat → Int) (t : Nat) : Prop := ((t : Int) < c → (1 ≤ A 170 t ∧ A 170 t ≤ 60) ∧ (0 ≤ A 171 t ∧ A 171 t ≤ 7) ∧ (0 ≤ A 172 t ∧ A 172 t ≤ 9) ∧ (0 ≤ A 173 t ∧ A 173 t ≤ 9) ∧ (A 174 t = -9 ∨ (0 ≤ A 174 t ∧ A 174 t < 11)) ∧ (A 175 t = -9 ∨ (0 ≤ A 175 t ∧ A 175 t < 11))) ∧ (0 ≤ A 176 t ∧ A 176 t ≤ 20) ∧ (0 ≤ A 177 t ∧ A 177 t ≤ n) ∧ (A 178 t = 0 ∨ A 178 t = 1)
def mFl (A : Nat → Nat → Int) (f : Nat) : Prop := (0 ≤ A 166 f ∧ A 166 f ≤ 300) ∧ (0 ≤ A 167 f ∧ A 167 f ≤ 7) ∧ (0 ≤ A 168 f ∧ A 168 f ≤ 999) ∧ (0 ≤ A 169 f ∧ A 169 f ≤ 19)
def mTw (A : Nat → Nat → Int) (j : Nat) : Prop := (0 ≤ A 179 j ∧ A 179 j ≤ 99) ∧ (A 180 j = 0 ∨ A 180 j = 1) ∧ (A 181 j = 0 ∨ A 181 j = 1)
def mPp (A : Nat → Nat → Int) (j : Nat) : Prop := (0 ≤ A 182 j ∧ A 182 j ≤ 31) ∧ (0 ≤ A 183 j ∧ A 183 j ≤ 64) ∧ (-1 ≤ A 184 j ∧ A 184 j ≤ 200)
def mI (n : Nat) (FI A : Nat → Nat → Int) : Prop := n ≤ 512 ∧ (0 ≤ FI 165 0 ∧ FI 165 0 ≤ 16) ∧ (1 ≤ FI 165 1 ∧ FI 165 1 ≤ 9) ∧ (∀ f, f < 11 → mFl A f) ∧ (∀ t, t < 16 → mTm n (FI 165 0) A t) ∧ (∀ j, j < 256 → mTw A j) ∧ (∀ j, j < 320 → mPp A j) ∧ ∀ k, k < 7 → 0 ≤ A 185 k ∧ A 185 k ≤ n
theorem INV.mI {P : PP} {n : Nat} {FI A : Nat → Nat → Int} {X : SX} (h : INV P n FI A X) : mI n FI A := by
  obtain ⟨h0, ⟨k1, k2, k3, k4, k5, k6, k7⟩, ⟨g1, g2, g3, g4, g5, g6, g7⟩, hx⟩ := h
  refine ⟨h0, by rw [g1]; exact k1, by rw [g2]; exact k2, fun f hf => ?_, fun t ht => ?_, fun j hj => ?_, fun j hj => ?_, fun k hk => ?_⟩
  · have q := k3 f hf
    have r := g3 f hf
    unfold cFl at q
    unfold gFl at r
    unfold mFl
    omega
  · have q := k4 t ht
    have r := g4 t ht
    unfold cTm at q
    unfold gTm at r
    unfold mTm
    rw [g1]
    omega
  · have q := k5 (j / 16) (j % 16) (by omega) (by omega)
    have r := g5 (j / 16) (j % 16) (by omega) (by omega)
    unfold cTw at q
    unfold gTw at r
    unfold mTw
    rw [show 16 * (j / 16) + j % 16 = j by omega] at r
    omega
  · have q := k6 (j / 20) (j % 20) (by omega) (by omega)
    have r := g6 (j / 20) (j % 20) (by omega) (by omega)
    unfold cPp at q
    unfold gPp at r
    unfold mPp
    rw [show 20 * (j / 20) + j % 20 = j by omega] at r
    omega
  · have q := k7 k hk
    have r := g7 k hk
    omega
theorem mI.off {n : Nat} {FI A FI' A' : Nat → Nat → Int} (h : mI n FI A) (hf : ∀ k, FI' 165 k = FI 165 k) (ha : ∀ a j, 165 ≤ a → A' a j = A a j) : mI n FI' A' := by
  obtain ⟨h0, h1, h2, h3, h4, h5, h6, h7⟩ := h
  refine ⟨h0, by rw [hf]; exact h1, by rw [hf]; exact h2, fun f hf9 => ?_, fun t ht => ?_, fun j hj => ?_, fun j hj => ?_, fun k hk => ?_⟩
  · have q := h3 f hf9
    unfold mFl at *
    simp (disch := omega) only [ha]
    exact q
  · have q := h4 t ht
    unfold mTm at *
    simp (disch := omega) only [ha, hf]
    exact q
  · have q := h5 j hj
    unfold mTw at *
    simp (disch := omega) only [ha]
    exact q
  · have q := h6 j hj
    unfold mPp at *
    simp (disch := omega) only [ha]
    exact q
  · rw [ha 185 k (by omega)]
    exact h7 k hk
theorem mI.up {n : Nat} {FI A : Nat → Nat → Int} (h : mI n FI A) {a j : Nat} {x : Int} (ha : a < 165) : mI n FI (up2 A a j x) := h.off (fun _ => rfl) (fun b k hb => up2_ne (by omega))
theorem mI.upF {n : Nat} {FI A : Nat → Nat → Int} (h : mI n FI A) {a j : Nat} {x : Int} (ha : a ≠ 165) : mI n (up2 FI a j x) A := h.off (fun k => up2_ne (by omega)) (fun _ _ _ => rfl)

/-! the reference's rows equal the class's, the refusals' counts left out -/
def gI8 (FI A : Nat → Nat → Int) : Prop := FI 165 0 = FI 6 8 ∧ FI 165 1 = FI 6 9 ∧ (∀ f, f < 11 → gFl A f) ∧ (∀ t, t < 16 → gTm (FI 6 8) A t) ∧ (∀ a b, a < 16 → b < 16 → gTw A a b) ∧ ∀ t p, t < 16 → p < 20 → gPp A t p
theorem gI9.e8 {FI A : Nat → Nat → Int} (h : gI9 FI A) : gI8 FI A := ⟨h.1, h.2.1, h.2.2.1, h.2.2.2.1, h.2.2.2.2.1, h.2.2.2.2.2.1⟩
theorem gI8.ref {FI A : Nat → Nat → Int} (h : gI8 FI A) {k : Nat} : gI8 FI (rfC A k) := by
  obtain ⟨g1, g2, g3, g4, g5, g6⟩ := h
  refine ⟨g1, g2, fun f hf => ?_, fun t ht => ?_, fun a b ha hb => ?_, fun t p ht hp => ?_⟩
  · have := g3 f hf
    unfold gFl at *
    simp (disch := omega) only [up2_ne]
    exact this
  · have := g4 t ht
    unfold gTm at *
    simp (disch := omega) only [up2_ne]
    exact this
  · have := g5 a b ha hb
    unfold gTw at *
    simp (disch := omega) only [up2_ne]
    exact this
  · have := g6 t p ht hp
    unfold gPp at *
    simp (disch := omega) only [up2_ne]
    exact this
theorem cI.ref {n : Nat} {FI A : Nat → Nat → Int} (h : cI n FI A) {k : Nat} (hk : k < 7) : cI (n + 1) FI (rfC A k) := by
  obtain ⟨k1, k2, k3, k4, k5, k6, k7⟩ := h
  refine ⟨k1, k2, fun f hf => ?_, fun t ht => cTm_mono (Nat.le_succ n) ?_, fun a b ha hb => ?_, fun t p ht hp => ?_, fun j hj => ?_⟩
  · have := k3 f hf
    unfold cFl at *
    simp (disch := omega) only [up2_ne]
    exact this
  · have := k4 t ht
    unfold cTm at *
    simp (disch := omega) only [up2_ne]
    exact this
  · have := k5 a b ha hb
    unfold cTw at *
    simp (disch := omega) only [up2_ne]
    exact this
  · have := k6 t p ht hp
    unfold cPp at *
    simp (disch := omega) only [up2_ne]
    exact this
  · have h1 := k7 j hj
    have h2 := k7 k hk
    by_cases e : j = k
    · subst e
      have e1 : rfC A j 164 j = A 164 j + 1 := up2_same
      have e2 : rfC A j 163 11 = A 163 11 := up2_ne (by omega)
      omega
    · have e1 : rfC A k 164 j = A 164 j := up2_ne (by omega)
      have e2 : rfC A k 163 11 = A 163 11 := up2_ne (by omega)
      omega
def gFlX (A Ag : Nat → Nat → Int) (f : Nat) : Prop := A 166 f = Ag (8 + f) 0 ∧ A 167 f = Ag (8 + f) 1 ∧ A 168 f = Ag (8 + f) 2 ∧ A 169 f = Ag (8 + f) 3
def gTmX (c : Int) (A Ag : Nat → Nat → Int) (t : Nat) : Prop := ((t : Int) < c → A 170 t = Ag (20 + t) 0 ∧ A 171 t = Ag (20 + t) 1 ∧ A 172 t = Ag (20 + t) 2 ∧ A 173 t = Ag (20 + t) 3 ∧ A 174 t = Ag (20 + t) 4 ∧ A 175 t = Ag (20 + t) 6) ∧ A 176 t = Ag (20 + t) 7 ∧ A 177 t = Ag (20 + t) 8 ∧ A 178 t = Ag (20 + t) 5
def gTwX (A Ag : Nat → Nat → Int) (a b : Nat) : Prop := A 179 (16 * a + b) = Ag (37 + a) b ∧ A 180 (16 * a + b) = Ag (54 + a) b ∧ A 181 (16 * a + b) = Ag (71 + a) b
def gPpX (A Ag : Nat → Nat → Int) (t p : Nat) : Prop := A 182 (20 * t + p) = Ag (88 + t) p ∧ A 183 (20 * t + p) = Ag (105 + t) p ∧ A 184 (20 * t + p) = Ag (122 + t) p
def gX (FI A FIg Ag : Nat → Nat → Int) : Prop := FI 165 0 = FIg 6 8 ∧ FI 165 1 = FIg 6 9 ∧ (∀ f, f < 11 → gFlX A Ag f) ∧ (∀ t, t < 16 → gTmX (FIg 6 8) A Ag t) ∧ (∀ a b, a < 16 → b < 16 → gTwX A Ag a b) ∧ ∀ t p, t < 16 → p < 20 → gPpX A Ag t p
theorem gI9.x {FI A : Nat → Nat → Int} (h : gI9 FI A) : gX FI A FI A := ⟨h.1, h.2.1, h.2.2.1, h.2.2.2.1, h.2.2.2.2.1, h.2.2.2.2.2.1⟩
theorem gX.off {FI A FIg Ag FI' A' : Nat → Nat → Int} (h : gX FI A FIg Ag) (hf : FI' 165 0 = FI 165 0 ∧ FI' 165 1 = FI 165 1) (ha : ∀ a j, 166 ≤ a ∧ a ≤ 184 → A' a j = A a j) : gX FI' A' FIg Ag := by
  obtain ⟨g1, g2, g3, g4, g5, g6⟩ := h
  refine ⟨by rw [hf.1]; exact g1, by rw [hf.2]; exact g2, fun f hf => ?_, fun t ht => ?_, fun a b ha9 hb => ?_, fun t p ht hp => ?_⟩
  · have := g3 f hf
    unfold gFlX at *
    simp (disch := omega) only [ha]
    exact this
  · have := g4 t ht
    unfold gTmX at *
    simp (disch := omega) only [ha]
    exact this
  · have := g5 a b ha9 hb
    unfold gTwX at *
    simp (disch := omega) only [ha]
    exact this
  · have := g6 t p ht hp
    unfold gPpX at *
    simp (disch := omega) only [ha]
    exact this

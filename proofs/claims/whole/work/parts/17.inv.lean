/-! what holds between two calls: the class's numbers in their ranges, the reference's equal to them -/
def cFl (A : Nat → Nat → Int) (f : Nat) : Prop := (0 ≤ A (8 + f) 0 ∧ A (8 + f) 0 ≤ 300) ∧ (0 ≤ A (8 + f) 1 ∧ A (8 + f) 1 ≤ 7) ∧ (0 ≤ A (8 + f) 2 ∧ A (8 + f) 2 ≤ 999) ∧ (0 ≤ A (8 + f) 3 ∧ A (8 + f) 3 ≤ 19)
def cTm (n : Nat) (c : Int) (A : Nat → Nat → Int) (t : Nat) : Prop := (0 ≤ A (20 + t) 0 ∧ A (20 + t) 0 ≤ 60) ∧ ((t : Int) < c → 1 ≤ A (20 + t) 0) ∧ (0 ≤ A (20 + t) 1 ∧ A (20 + t) 1 ≤ 7) ∧ (0 ≤ A (20 + t) 2 ∧ A (20 + t) 2 ≤ 9) ∧ (0 ≤ A (20 + t) 3 ∧ A (20 + t) 3 ≤ 9) ∧ (A (20 + t) 4 = -9 ∨ (0 ≤ A (20 + t) 4 ∧ A (20 + t) 4 < 11)) ∧ (A (20 + t) 5 = 0 ∨ A (20 + t) 5 = 1) ∧ (A (20 + t) 6 = -9 ∨ (0 ≤ A (20 + t) 6 ∧ A (20 + t) 6 < 11)) ∧ (0 ≤ A (20 + t) 7 ∧ A (20 + t) 7 ≤ 20) ∧ (0 ≤ A (20 + t) 8 ∧ A (20 + t) 8 ≤ n) ∧ (c ≤ (t : Int) → A (20 + t) 4 = -9 ∧ A (20 + t) 5 = 0 ∧ A (20 + t) 6 = -9 ∧ A (20 + t) 7 = 0 ∧ A (20 + t) 8 = 0)
def cTw (A : Nat → Nat → Int) (a b : Nat) : Prop := (0 ≤ A (37 + a) b ∧ A (37 + a) b ≤ 99 ∧ A (37 + a) b = A (37 + b) a) ∧ ((A (54 + a) b = 0 ∨ A (54 + a) b = 1) ∧ A (54 + a) b = A (54 + b) a) ∧ ((A (71 + a) b = 0 ∨ A (71 + a) b = 1) ∧ A (71 + a) b = A (71 + b) a)
def cPp (A : Nat → Nat → Int) (t p : Nat) : Prop := (0 ≤ A (88 + t) p ∧ A (88 + t) p ≤ 31) ∧ (0 ≤ A (105 + t) p ∧ A (105 + t) p ≤ 64) ∧ (-1 ≤ A (122 + t) p ∧ A (122 + t) p ≤ 200)
def cI (n : Nat) (FI A : Nat → Nat → Int) : Prop := (0 ≤ FI 6 8 ∧ FI 6 8 ≤ 16) ∧ (1 ≤ FI 6 9 ∧ FI 6 9 ≤ 9) ∧ (∀ f, f < 11 → cFl A f) ∧ (∀ t, t < 16 → cTm n (FI 6 8) A t) ∧ (∀ a b, a < 16 → b < 16 → cTw A a b) ∧ (∀ t p, t < 16 → p < 20 → cPp A t p) ∧ ∀ k, k < 7 → (0 ≤ A 164 k ∧ A 164 k ≤ n) ∧ A 163 11 = 0
def gFl (A : Nat → Nat → Int) (f : Nat) : Prop := A 166 f = A (8 + f) 0 ∧ A 167 f = A (8 + f) 1 ∧ A 168 f = A (8 + f) 2 ∧ A 169 f = A (8 + f) 3
def gTm (c : Int) (A : Nat → Nat → Int) (t : Nat) : Prop := ((t : Int) < c → A 170 t = A (20 + t) 0 ∧ A 171 t = A (20 + t) 1 ∧ A 172 t = A (20 + t) 2 ∧ A 173 t = A (20 + t) 3 ∧ A 174 t = A (20 + t) 4 ∧ A 175 t = A (20 + t) 6) ∧ A 176 t = A (20 + t) 7 ∧ A 177 t = A (20 + t) 8 ∧ A 178 t = A (20 + t) 5
def gTw (A : Nat → Nat → Int) (a b : Nat) : Prop := A 179 (16 * a + b) = A (37 + a) b ∧ A 180 (16 * a + b) = A (54 + a) b ∧ A 181 (16 * a + b) = A (71 + a) b
def gPp (A : Nat → Nat → Int) (t p : Nat) : Prop := A 182 (20 * t + p) = A (88 + t) p ∧ A 183 (20 * t + p) = A (105 + t) p ∧ A 184 (20 * t + p) = A (122 + t) p
def gI9 (FI A : Nat → Nat → Int) : Prop := FI 165 0 = FI 6 8 ∧ FI 165 1 = FI 6 9 ∧ (∀ f, f < 11 → gFl A f) ∧ (∀ t, t < 16 → gTm (FI 6 8) A t) ∧ (∀ a b, a < 16 → b < 16 → gTw A a b) ∧ (∀ t p, t < 16 → p < 20 → gPp A t p) ∧ ∀ k, k < 7 → A 185 k = A 164 k
def xI (P : PP) (X : SX) : Prop := ∃ k len : Nat, k ≤ 6 ∧ len = 5 ^ k ∧ isIA P X X.2.2.1 len ∧ isIA P X X.2.2.2.1 len ∧ (X.2.2.1 = 158 ∨ 193 ≤ X.2.2.1) ∧ (X.2.2.2.1 = 159 ∨ 193 ≤ X.2.2.2.1) ∧ X.2.2.1 ≠ X.2.2.2.1 ∧ X.1 ≤ 2 * k ∧ X.2.1 ≤ 100000 + 4 * 5 ^ k
def INV (P : PP) (n : Nat) (FI A : Nat → Nat → Int) (X : SX) : Prop := n ≤ 512 ∧ cI n FI A ∧ gI9 FI A ∧ xI P X
def INVS (P : PP) (n : Nat) (S : S2) : Prop := INV P n S.1 S.2.1 S.2.2.2
theorem up2_ne {A : Nat → Nat → Int} {a j b k : Nat} {x : Int} (h : b ≠ a ∨ k ≠ j) : up2 A a j x b k = A b k := by
  unfold up2
  rw [if_neg (fun q => by omega)]
theorem up2_eq {A : Nat → Nat → Int} {a j b k : Nat} {x : Int} (h : b = a ∧ k = j) : up2 A a j x b k = x := by
  unfold up2
  rw [if_pos h]
theorem up2_same {A : Nat → Nat → Int} {a j : Nat} {x : Int} : up2 A a j x a j = x := up2_eq ⟨rfl, rfl⟩
theorem cTm_mono {n n' : Nat} (h : n ≤ n') {c : Int} {A : Nat → Nat → Int} {t : Nat} (k : cTm n c A t) : cTm n' c A t := by
  unfold cTm at *
  omega
theorem cI_mono {n n' : Nat} (h : n ≤ n') {FI A : Nat → Nat → Int} (k : cI n FI A) : cI n' FI A := by
  obtain ⟨k1, k2, k3, k4, k5, k6, k7⟩ := k
  exact ⟨k1, k2, k3, fun t ht => cTm_mono h (k4 t ht), k5, k6, fun q hq => by have := k7 q hq; omega⟩
theorem INV.next {P : PP} {n : Nat} {FI A : Nat → Nat → Int} {X : SX} (h : INV P n FI A X) (hn : n < 512) : INV P (n + 1) FI A X := ⟨hn, cI_mono (by omega) h.2.1, h.2.2⟩
abbrev rfC (A : Nat → Nat → Int) (k : Nat) : Nat → Nat → Int := up2 A 164 k (A 164 k + 1)
abbrev rfG (A : Nat → Nat → Int) (k : Nat) : Nat → Nat → Int := up2 A 185 k (A 185 k + 1)
theorem INV_ref {P : PP} {n : Nat} {FI A : Nat → Nat → Int} {X : SX} (h : INV P n FI A X) (hn : n < 512) {k : Nat} (hk : k < 7) : INV P (n + 1) FI (rfG (rfC A k) k) X := by
  obtain ⟨h0, ⟨k1, k2, k3, k4, k5, k6, k7⟩, ⟨g1, g2, g3, g4, g5, g6, g7⟩, hx⟩ := h
  refine ⟨hn, ⟨k1, k2, fun f hf => ?_, fun t ht => cTm_mono (Nat.le_succ n) ?_, fun a b ha hb => ?_, fun t p ht hp => ?_, fun j hj => ?_⟩, ⟨g1, g2, fun f hf => ?_, fun t ht => ?_, fun a b ha hb => ?_, fun t p ht hp => ?_, fun j hj => ?_⟩, hx⟩
  · have := k3 f hf
    unfold cFl at *
    simp (disch := omega) only [up2_ne]
    exact this
  · have := k4 t ht
    unfold cTm at *
    simp (disch := omega) only [up2_ne]
    exact this
  · have := k5 a b ha hb
    unfold cTw at *
    simp (disch := omega) only [up2_ne]
    exact this
  · have := k6 t p ht hp
    unfold cPp at *
    simp (disch := omega) only [up2_ne]
    exact this
  · have h1 := k7 j hj
    have h2 := k7 k hk
    simp (disch := omega) only [up2_ne]
    by_cases e : j = k
    · subst e
      simp only [rfC, up2_same]
      omega
    · simp (disch := omega) only [up2_ne]
      omega
  · have := g3 f hf
    unfold gFl at *
    simp (disch := omega) only [up2_ne]
    exact this
  · have := g4 t ht
    unfold gTm at *
    simp (disch := omega) only [up2_ne]
    exact this
  · have := g5 a b ha hb
    unfold gTw at *
    simp (disch := omega) only [up2_ne]
    exact this
  · have := g6 t p ht hp
    unfold gPp at *
    simp (disch := omega) only [up2_ne]
    exact this
  · have h1 := g7 j hj
    have h2 := g7 k hk
    by_cases e : j = k
    · subst e
      simp (disch := omega) only [up2_same, up2_ne]
      omega
    · simp (disch := omega) only [up2_ne]
      exact h1
def PAIR (P : PP) (n : Nat) (S : S2) (Mc : Mth) (lc : LV) (Mg : Mth) (lg : LV) : Prop := ∀ d : Nat, WP2 P Mc (d + 30) 0 lc [] S (fun v S1 => ∃ r : Int, v = some (vi r) ∧ WP2 P Mg (d + 30) 0 lg [] S1 (fun v2 S2 => v2 = some (vi r) ∧ INVS P (n + 1) S2))
theorem FMt_R : ∀ W, W < 4 → inR (FMt W) := by
  intro W hW
  match W, hW with
  | 0, _ => exact ⟨by decide, by decide⟩
  | 1, _ => exact ⟨by decide, by decide⟩
  | 2, _ => exact ⟨by decide, by decide⟩
  | 3, _ => exact ⟨by decide, by decide⟩
theorem TMt_R : ∀ W, W < 3 → inR (TMt W) := by
  intro W hW
  match W, hW with
  | 0, _ => exact ⟨by decide, by decide⟩
  | 1, _ => exact ⟨by decide, by decide⟩
  | 2, _ => exact ⟨by decide, by decide⟩

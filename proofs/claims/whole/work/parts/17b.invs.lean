/-! INV under each paired change -/
theorem INV_size {P : PP} {n : Nat} {FI A : Nat → Nat → Int} {X : SX} (h : INV P n FI A X) (hn : n < 512) {T : Nat} {v : Int} (hT : T < 16) (hc : (T : Int) < FI 6 8) (hv : 1 ≤ v ∧ v ≤ 60) : INV P (n + 1) FI (up2 (up2 A (20 + T) 0 v) 170 T v) X := by
  obtain ⟨h0, ⟨k1, k2, k3, k4, k5, k6, k7⟩, ⟨g1, g2, g3, g4, g5, g6, g7⟩, hx⟩ := h
  refine ⟨hn, ⟨k1, k2, fun f hf => ?_, fun t ht => ?_, fun a b ha hb => ?_, fun t p ht hp => ?_, fun j hj => ?_⟩, ⟨g1, g2, fun f hf => ?_, fun t ht => ?_, fun a b ha hb => ?_, fun t p ht hp => ?_, fun j hj => ?_⟩, hx⟩
  · have q := k3 f hf
    unfold cFl at *
    simp (disch := omega) only [up2_ne]
    omega
  · have q := k4 t ht
    unfold cTm at *
    by_cases e : t = T
    · subst e
      simp (disch := omega) only [up2_ne, up2_eq, true_and, and_true, implies_true]
      omega
    · simp (disch := omega) only [up2_ne]
      omega
  · have q := k5 a b ha hb
    unfold cTw at *
    simp (disch := omega) only [up2_ne]
    omega
  · have q := k6 t p ht hp
    unfold cPp at *
    simp (disch := omega) only [up2_ne]
    omega
  · have q := k7 j hj
    simp (disch := omega) only [up2_ne]
    omega
  · have q := g3 f hf
    unfold gFl at *
    simp (disch := omega) only [up2_ne]
    omega
  · have q := g4 t ht
    unfold gTm at *
    by_cases e : t = T
    · subst e
      simp (disch := omega) only [up2_ne, up2_eq, true_and, and_true, implies_true]
      omega
    · simp (disch := omega) only [up2_ne]
      omega
  · have q := g5 a b ha hb
    unfold gTw at *
    simp (disch := omega) only [up2_ne]
    omega
  · have q := g6 t p ht hp
    unfold gPp at *
    simp (disch := omega) only [up2_ne]
    omega
  · have q := g7 j hj
    simp (disch := omega) only [up2_ne]
    omega

theorem INV_sit {P : PP} {n : Nat} {FI A : Nat → Nat → Int} {X : SX} (h : INV P n FI A X) (hn : n < 512) {T : Nat} {v : Int} (hT : T < 16) (hc : (T : Int) < FI 6 8) (hv : v = -9 ∨ (0 ≤ v ∧ v < 11)) : INV P (n + 1) FI (up2 (up2 A (20 + T) 4 v) 174 T v) X := by
  obtain ⟨h0, ⟨k1, k2, k3, k4, k5, k6, k7⟩, ⟨g1, g2, g3, g4, g5, g6, g7⟩, hx⟩ := h
  refine ⟨hn, ⟨k1, k2, fun f hf => ?_, fun t ht => ?_, fun a b ha hb => ?_, fun t p ht hp => ?_, fun j hj => ?_⟩, ⟨g1, g2, fun f hf => ?_, fun t ht => ?_, fun a b ha hb => ?_, fun t p ht hp => ?_, fun j hj => ?_⟩, hx⟩
  · have q := k3 f hf
    unfold cFl at *
    simp (disch := omega) only [up2_ne]
    omega
  · have q := k4 t ht
    unfold cTm at *
    by_cases e : t = T
    · subst e
      simp (disch := omega) only [up2_ne, up2_eq, true_and, and_true, implies_true]
      omega
    · simp (disch := omega) only [up2_ne]
      omega
  · have q := k5 a b ha hb
    unfold cTw at *
    simp (disch := omega) only [up2_ne]
    omega
  · have q := k6 t p ht hp
    unfold cPp at *
    simp (disch := omega) only [up2_ne]
    omega
  · have q := k7 j hj
    simp (disch := omega) only [up2_ne]
    omega
  · have q := g3 f hf
    unfold gFl at *
    simp (disch := omega) only [up2_ne]
    omega
  · have q := g4 t ht
    unfold gTm at *
    by_cases e : t = T
    · subst e
      simp (disch := omega) only [up2_ne, up2_eq, true_and, and_true, implies_true]
      omega
    · simp (disch := omega) only [up2_ne]
      omega
  · have q := g5 a b ha hb
    unfold gTw at *
    simp (disch := omega) only [up2_ne]
    omega
  · have q := g6 t p ht hp
    unfold gPp at *
    simp (disch := omega) only [up2_ne]
    omega
  · have q := g7 j hj
    simp (disch := omega) only [up2_ne]
    omega

theorem INV_fix {P : PP} {n : Nat} {FI A : Nat → Nat → Int} {X : SX} (h : INV P n FI A X) (hn : n < 512) {T : Nat} {v : Int} (hT : T < 16) (hc : (T : Int) < FI 6 8) (hv : v = 0 ∨ v = 1) : INV P (n + 1) FI (up2 (up2 A (20 + T) 5 v) 178 T v) X := by
  obtain ⟨h0, ⟨k1, k2, k3, k4, k5, k6, k7⟩, ⟨g1, g2, g3, g4, g5, g6, g7⟩, hx⟩ := h
  refine ⟨hn, ⟨k1, k2, fun f hf => ?_, fun t ht => ?_, fun a b ha hb => ?_, fun t p ht hp => ?_, fun j hj => ?_⟩, ⟨g1, g2, fun f hf => ?_, fun t ht => ?_, fun a b ha hb => ?_, fun t p ht hp => ?_, fun j hj => ?_⟩, hx⟩
  · have q := k3 f hf
    unfold cFl at *
    simp (disch := omega) only [up2_ne]
    omega
  · have q := k4 t ht
    unfold cTm at *
    by_cases e : t = T
    · subst e
      simp (disch := omega) only [up2_ne, up2_eq, true_and, and_true, implies_true]
      omega
    · simp (disch := omega) only [up2_ne]
      omega
  · have q := k5 a b ha hb
    unfold cTw at *
    simp (disch := omega) only [up2_ne]
    omega
  · have q := k6 t p ht hp
    unfold cPp at *
    simp (disch := omega) only [up2_ne]
    omega
  · have q := k7 j hj
    simp (disch := omega) only [up2_ne]
    omega
  · have q := g3 f hf
    unfold gFl at *
    simp (disch := omega) only [up2_ne]
    omega
  · have q := g4 t ht
    unfold gTm at *
    by_cases e : t = T
    · subst e
      simp (disch := omega) only [up2_ne, up2_eq, true_and, and_true, implies_true]
      omega
    · simp (disch := omega) only [up2_ne]
      omega
  · have q := g5 a b ha hb
    unfold gTw at *
    simp (disch := omega) only [up2_ne]
    omega
  · have q := g6 t p ht hp
    unfold gPp at *
    simp (disch := omega) only [up2_ne]
    omega
  · have q := g7 j hj
    simp (disch := omega) only [up2_ne]
    omega

theorem INV_target {P : PP} {n : Nat} {FI A : Nat → Nat → Int} {X : SX} (h : INV P n FI A X) (hn : n < 512) {T : Nat} {v : Int} (hT : T < 16) (hc : (T : Int) < FI 6 8) (hv : v = -9 ∨ (0 ≤ v ∧ v < 11)) : INV P (n + 1) FI (up2 (up2 A (20 + T) 6 v) 175 T v) X := by
  obtain ⟨h0, ⟨k1, k2, k3, k4, k5, k6, k7⟩, ⟨g1, g2, g3, g4, g5, g6, g7⟩, hx⟩ := h
  refine ⟨hn, ⟨k1, k2, fun f hf => ?_, fun t ht => ?_, fun a b ha hb => ?_, fun t p ht hp => ?_, fun j hj => ?_⟩, ⟨g1, g2, fun f hf => ?_, fun t ht => ?_, fun a b ha hb => ?_, fun t p ht hp => ?_, fun j hj => ?_⟩, hx⟩
  · have q := k3 f hf
    unfold cFl at *
    simp (disch := omega) only [up2_ne]
    omega
  · have q := k4 t ht
    unfold cTm at *
    by_cases e : t = T
    · subst e
      simp (disch := omega) only [up2_ne, up2_eq, true_and, and_true, implies_true]
      omega
    · simp (disch := omega) only [up2_ne]
      omega
  · have q := k5 a b ha hb
    unfold cTw at *
    simp (disch := omega) only [up2_ne]
    omega
  · have q := k6 t p ht hp
    unfold cPp at *
    simp (disch := omega) only [up2_ne]
    omega
  · have q := k7 j hj
    simp (disch := omega) only [up2_ne]
    omega
  · have q := g3 f hf
    unfold gFl at *
    simp (disch := omega) only [up2_ne]
    omega
  · have q := g4 t ht
    unfold gTm at *
    by_cases e : t = T
    · subst e
      simp (disch := omega) only [up2_ne, up2_eq, true_and, and_true, implies_true]
      omega
    · simp (disch := omega) only [up2_ne]
      omega
  · have q := g5 a b ha hb
    unfold gTw at *
    simp (disch := omega) only [up2_ne]
    omega
  · have q := g6 t p ht hp
    unfold gPp at *
    simp (disch := omega) only [up2_ne]
    omega
  · have q := g7 j hj
    simp (disch := omega) only [up2_ne]
    omega

theorem INV_turn {P : PP} {n : Nat} {FI A : Nat → Nat → Int} {X : SX} (h : INV P n FI A X) (hn : n < 512) {T : Nat} {v : Int} (hT : T < 16) (hc : (T : Int) < FI 6 8) (hv : 0 ≤ v ∧ v ≤ n + 1) : INV P (n + 1) FI (up2 (up2 A (20 + T) 8 v) 177 T v) X := by
  obtain ⟨h0, ⟨k1, k2, k3, k4, k5, k6, k7⟩, ⟨g1, g2, g3, g4, g5, g6, g7⟩, hx⟩ := h
  refine ⟨hn, ⟨k1, k2, fun f hf => ?_, fun t ht => ?_, fun a b ha hb => ?_, fun t p ht hp => ?_, fun j hj => ?_⟩, ⟨g1, g2, fun f hf => ?_, fun t ht => ?_, fun a b ha hb => ?_, fun t p ht hp => ?_, fun j hj => ?_⟩, hx⟩
  · have q := k3 f hf
    unfold cFl at *
    simp (disch := omega) only [up2_ne]
    omega
  · have q := k4 t ht
    unfold cTm at *
    by_cases e : t = T
    · subst e
      simp (disch := omega) only [up2_ne, up2_eq, true_and, and_true, implies_true]
      omega
    · simp (disch := omega) only [up2_ne]
      omega
  · have q := k5 a b ha hb
    unfold cTw at *
    simp (disch := omega) only [up2_ne]
    omega
  · have q := k6 t p ht hp
    unfold cPp at *
    simp (disch := omega) only [up2_ne]
    omega
  · have q := k7 j hj
    simp (disch := omega) only [up2_ne]
    omega
  · have q := g3 f hf
    unfold gFl at *
    simp (disch := omega) only [up2_ne]
    omega
  · have q := g4 t ht
    unfold gTm at *
    by_cases e : t = T
    · subst e
      simp (disch := omega) only [up2_ne, up2_eq, true_and, and_true, implies_true]
      omega
    · simp (disch := omega) only [up2_ne]
      omega
  · have q := g5 a b ha hb
    unfold gTw at *
    simp (disch := omega) only [up2_ne]
    omega
  · have q := g6 t p ht hp
    unfold gPp at *
    simp (disch := omega) only [up2_ne]
    omega
  · have q := g7 j hj
    simp (disch := omega) only [up2_ne]
    omega

theorem INV_floor {P : PP} {n : Nat} {FI A : Nat → Nat → Int} {X : SX} (h : INV P n FI A X) (hn : n < 512) {F W : Nat} {v : Int} (hF : F < 11) (hW : W < 4) (hv : 0 ≤ v) (hv2 : v ≤ FMt W) : INV P (n + 1) FI (up2 (up2 A (8 + F) W v) (166 + W) F v) X := by
  obtain ⟨h0, ⟨k1, k2, k3, k4, k5, k6, k7⟩, ⟨g1, g2, g3, g4, g5, g6, g7⟩, hx⟩ := h
  refine ⟨hn, ⟨k1, k2, fun f hf => ?_, fun t ht => ?_, fun a b ha hb => ?_, fun t p ht hp => ?_, fun j hj => ?_⟩, ⟨g1, g2, fun f hf => ?_, fun t ht => ?_, fun a b ha hb => ?_, fun t p ht hp => ?_, fun j hj => ?_⟩, hx⟩
  · have q := k3 f hf
    unfold cFl at *
    rcases (show W = 0 ∨ W = 1 ∨ W = 2 ∨ W = 3 by omega) with rfl | rfl | rfl | rfl
    · by_cases e : f = F
      · subst e
        simp (disch := omega) only [up2_ne, up2_eq, true_and, and_true, implies_true]
        simp only [FMt, List.getD_cons_zero, List.getD_cons_succ] at hv2
        omega
      · simp (disch := omega) only [up2_ne]
        omega
    · by_cases e : f = F
      · subst e
        simp (disch := omega) only [up2_ne, up2_eq, true_and, and_true, implies_true]
        simp only [FMt, List.getD_cons_zero, List.getD_cons_succ] at hv2
        omega
      · simp (disch := omega) only [up2_ne]
        omega
    · by_cases e : f = F
      · subst e
        simp (disch := omega) only [up2_ne, up2_eq, true_and, and_true, implies_true]
        simp only [FMt, List.getD_cons_zero, List.getD_cons_succ] at hv2
        omega
      · simp (disch := omega) only [up2_ne]
        omega
    · by_cases e : f = F
      · subst e
        simp (disch := omega) only [up2_ne, up2_eq, true_and, and_true, implies_true]
        simp only [FMt, List.getD_cons_zero, List.getD_cons_succ] at hv2
        omega
      · simp (disch := omega) only [up2_ne]
        omega
  · have q := k4 t ht
    unfold cTm at *
    simp (disch := omega) only [up2_ne]
    omega
  · have q := k5 a b ha hb
    unfold cTw at *
    simp (disch := omega) only [up2_ne]
    omega
  · have q := k6 t p ht hp
    unfold cPp at *
    simp (disch := omega) only [up2_ne]
    omega
  · have q := k7 j hj
    simp (disch := omega) only [up2_ne]
    omega
  · have q := g3 f hf
    unfold gFl at *
    rcases (show W = 0 ∨ W = 1 ∨ W = 2 ∨ W = 3 by omega) with rfl | rfl | rfl | rfl
    · by_cases e : f = F
      · subst e
        simp (disch := omega) only [up2_ne, up2_eq, true_and, and_true, implies_true]
        simp only [FMt, List.getD_cons_zero, List.getD_cons_succ] at hv2
        omega
      · simp (disch := omega) only [up2_ne]
        omega
    · by_cases e : f = F
      · subst e
        simp (disch := omega) only [up2_ne, up2_eq, true_and, and_true, implies_true]
        simp only [FMt, List.getD_cons_zero, List.getD_cons_succ] at hv2
        omega
      · simp (disch := omega) only [up2_ne]
        omega
    · by_cases e : f = F
      · subst e
        simp (disch := omega) only [up2_ne, up2_eq, true_and, and_true, implies_true]
        simp only [FMt, List.getD_cons_zero, List.getD_cons_succ] at hv2
        omega
      · simp (disch := omega) only [up2_ne]
        omega
    · by_cases e : f = F
      · subst e
        simp (disch := omega) only [up2_ne, up2_eq, true_and, and_true, implies_true]
        simp only [FMt, List.getD_cons_zero, List.getD_cons_succ] at hv2
        omega
      · simp (disch := omega) only [up2_ne]
        omega
  · have q := g4 t ht
    unfold gTm at *
    simp (disch := omega) only [up2_ne]
    omega
  · have q := g5 a b ha hb
    unfold gTw at *
    simp (disch := omega) only [up2_ne]
    omega
  · have q := g6 t p ht hp
    unfold gPp at *
    simp (disch := omega) only [up2_ne]
    omega
  · have q := g7 j hj
    simp (disch := omega) only [up2_ne]
    omega

theorem INV_lift {P : PP} {n : Nat} {FI A : Nat → Nat → Int} {X : SX} (h : INV P n FI A X) (hn : n < 512) {v : Int} (hv : 1 ≤ v ∧ v ≤ 9) : INV P (n + 1) (up2 (up2 FI 6 9 v) 165 1 v) A X := by
  have h := h.next hn
  obtain ⟨h0, ⟨k1, k2, k3, k4, k5, k6, k7⟩, ⟨g1, g2, g3, g4, g5, g6, g7⟩, hx⟩ := h
  have e8 : up2 (up2 FI 6 9 v) 165 1 v 6 8 = FI 6 8 := by simp (disch := omega) only [up2_ne]
  have e9 : up2 (up2 FI 6 9 v) 165 1 v 6 9 = v := by simp (disch := omega) only [up2_ne, up2_eq, true_and, and_true, implies_true]
  have e0 : up2 (up2 FI 6 9 v) 165 1 v 165 0 = FI 165 0 := by simp (disch := omega) only [up2_ne]
  have e1 : up2 (up2 FI 6 9 v) 165 1 v 165 1 = v := up2_same
  refine ⟨h0, ⟨by rw [e8]; exact k1, by rw [e9]; exact hv, k3, by rw [e8]; exact k4, k5, k6, k7⟩, ⟨by rw [e0, e8]; exact g1, by rw [e1, e9], g3, by rw [e8]; exact g4, g5, g6, g7⟩, hx⟩
theorem INV_grow {P : PP} {n : Nat} {FI A : Nat → Nat → Int} {X : SX} (h : INV P n FI A X) (hn : n < 512) {T q9 : Nat} {v : Int} (hT : T < 16) (hq9 : q9 < 20) (hv : -1 ≤ v ∧ v ≤ 200) : INV P (n + 1) FI (up2 (up2 A (122 + T) q9 v) 184 (20 * T + q9) v) X := by
  obtain ⟨h0, ⟨k1, k2, k3, k4, k5, k6, k7⟩, ⟨g1, g2, g3, g4, g5, g6, g7⟩, hx⟩ := h
  refine ⟨hn, ⟨k1, k2, fun f hf => ?_, fun t ht => ?_, fun a b ha hb => ?_, fun t p ht hp => ?_, fun j hj => ?_⟩, ⟨g1, g2, fun f hf => ?_, fun t ht => ?_, fun a b ha hb => ?_, fun t p ht hp => ?_, fun j hj => ?_⟩, hx⟩
  · have q := k3 f hf
    unfold cFl at *
    simp (disch := omega) only [up2_ne]
    omega
  · have q := k4 t ht
    unfold cTm at *
    simp (disch := omega) only [up2_ne]
    omega
  · have q := k5 a b ha hb
    unfold cTw at *
    simp (disch := omega) only [up2_ne]
    omega
  · have q := k6 t p ht hp
    unfold cPp at *
    by_cases e : t = T ∧ p = q9
    · obtain ⟨rfl, rfl⟩ := e
      simp (disch := omega) only [up2_ne, up2_eq, true_and, and_true, implies_true]
      omega
    · simp (disch := omega) only [up2_ne]
      omega
  · have q := k7 j hj
    simp (disch := omega) only [up2_ne]
    omega
  · have q := g3 f hf
    unfold gFl at *
    simp (disch := omega) only [up2_ne]
    omega
  · have q := g4 t ht
    unfold gTm at *
    simp (disch := omega) only [up2_ne]
    omega
  · have q := g5 a b ha hb
    unfold gTw at *
    simp (disch := omega) only [up2_ne]
    omega
  · have q := g6 t p ht hp
    unfold gPp at *
    by_cases e : t = T ∧ p = q9
    · obtain ⟨rfl, rfl⟩ := e
      simp (disch := omega) only [up2_ne, up2_eq, true_and, and_true, implies_true]
      omega
    · simp (disch := omega) only [up2_ne]
      omega
  · have q := g7 j hj
    simp (disch := omega) only [up2_ne]
    omega

theorem INV_person {P : PP} {n : Nat} {FI A : Nat → Nat → Int} {X : SX} (h : INV P n FI A X) (hn : n < 512) {T q9 : Nat} {v w : Int} (hT : T < 16) (hc : (T : Int) < FI 6 8) (hq9 : q9 < 20) (hq8 : A (20 + T) 7 = q9) (hv : 0 ≤ v ∧ v ≤ 31) (hw : 0 ≤ w ∧ w ≤ 64) : INV P (n + 1) FI (up2 (up2 (up2 (up2 (up2 (up2 A (88 + T) q9 v) (105 + T) q9 w) (20 + T) 7 (q9 + 1)) 182 (20 * T + q9) v) 183 (20 * T + q9) w) 176 T (q9 + 1)) X := by
  obtain ⟨h0, ⟨k1, k2, k3, k4, k5, k6, k7⟩, ⟨g1, g2, g3, g4, g5, g6, g7⟩, hx⟩ := h
  refine ⟨hn, ⟨k1, k2, fun f hf => ?_, fun t ht => ?_, fun a b ha hb => ?_, fun t p ht hp => ?_, fun j hj => ?_⟩, ⟨g1, g2, fun f hf => ?_, fun t ht => ?_, fun a b ha hb => ?_, fun t p ht hp => ?_, fun j hj => ?_⟩, hx⟩
  · have q := k3 f hf
    unfold cFl at *
    simp (disch := omega) only [up2_ne]
    omega
  · have q := k4 t ht
    unfold cTm at *
    by_cases e : t = T
    · subst e
      simp (disch := omega) only [up2_ne, up2_eq, true_and, and_true, implies_true]
      omega
    · simp (disch := omega) only [up2_ne]
      omega
  · have q := k5 a b ha hb
    unfold cTw at *
    simp (disch := omega) only [up2_ne]
    omega
  · have q := k6 t p ht hp
    unfold cPp at *
    by_cases e : t = T ∧ p = q9
    · obtain ⟨rfl, rfl⟩ := e
      simp (disch := omega) only [up2_ne, up2_eq, true_and, and_true, implies_true]
      omega
    · simp (disch := omega) only [up2_ne]
      omega
  · have q := k7 j hj
    simp (disch := omega) only [up2_ne]
    omega
  · have q := g3 f hf
    unfold gFl at *
    simp (disch := omega) only [up2_ne]
    omega
  · have q := g4 t ht
    unfold gTm at *
    by_cases e : t = T
    · subst e
      simp (disch := omega) only [up2_ne, up2_eq, true_and, and_true, implies_true]
      omega
    · simp (disch := omega) only [up2_ne]
      omega
  · have q := g5 a b ha hb
    unfold gTw at *
    simp (disch := omega) only [up2_ne]
    omega
  · have q := g6 t p ht hp
    unfold gPp at *
    by_cases e : t = T ∧ p = q9
    · obtain ⟨rfl, rfl⟩ := e
      simp (disch := omega) only [up2_ne, up2_eq, true_and, and_true, implies_true]
      omega
    · simp (disch := omega) only [up2_ne]
      omega
  · have q := g7 j hj
    simp (disch := omega) only [up2_ne]
    omega

theorem INV_two0 {P : PP} {n : Nat} {FI A : Nat → Nat → Int} {X : SX} (h : INV P n FI A X) (hn : n < 512) {a9 b9 : Nat} {v : Int} (ha9 : a9 < 16) (hb9 : b9 < 16) (hab : a9 ≠ b9) (hv : 0 ≤ v ∧ v ≤ 99) : INV P (n + 1) FI (up2 (up2 (up2 (up2 A (37 + a9) b9 v) (37 + b9) a9 v) 179 (16 * a9 + b9) v) 179 (16 * b9 + a9) v) X := by
  obtain ⟨h0, ⟨k1, k2, k3, k4, k5, k6, k7⟩, ⟨g1, g2, g3, g4, g5, g6, g7⟩, hx⟩ := h
  refine ⟨hn, ⟨k1, k2, fun f hf => ?_, fun t ht => ?_, fun a b ha hb => ?_, fun t p ht hp => ?_, fun j hj => ?_⟩, ⟨g1, g2, fun f hf => ?_, fun t ht => ?_, fun a b ha hb => ?_, fun t p ht hp => ?_, fun j hj => ?_⟩, hx⟩
  · have q := k3 f hf
    unfold cFl at *
    simp (disch := omega) only [up2_ne]
    omega
  · have q := k4 t ht
    unfold cTm at *
    simp (disch := omega) only [up2_ne]
    omega
  · have q := k5 a b ha hb
    unfold cTw at *
    by_cases e : (a = a9 ∧ b = b9) ∨ (a = b9 ∧ b = a9)
    · rcases e with ⟨rfl, rfl⟩ | ⟨rfl, rfl⟩ <;> simp (disch := omega) only [up2_ne, up2_eq, true_and, and_true, implies_true] <;> omega
    · simp (disch := omega) only [up2_ne]
      omega
  · have q := k6 t p ht hp
    unfold cPp at *
    simp (disch := omega) only [up2_ne]
    omega
  · have q := k7 j hj
    simp (disch := omega) only [up2_ne]
    omega
  · have q := g3 f hf
    unfold gFl at *
    simp (disch := omega) only [up2_ne]
    omega
  · have q := g4 t ht
    unfold gTm at *
    simp (disch := omega) only [up2_ne]
    omega
  · have q := g5 a b ha hb
    unfold gTw at *
    by_cases e : (a = a9 ∧ b = b9) ∨ (a = b9 ∧ b = a9)
    · rcases e with ⟨rfl, rfl⟩ | ⟨rfl, rfl⟩ <;> simp (disch := omega) only [up2_ne, up2_eq, true_and, and_true, implies_true] <;> omega
    · simp (disch := omega) only [up2_ne]
      omega
  · have q := g6 t p ht hp
    unfold gPp at *
    simp (disch := omega) only [up2_ne]
    omega
  · have q := g7 j hj
    simp (disch := omega) only [up2_ne]
    omega

theorem INV_two1 {P : PP} {n : Nat} {FI A : Nat → Nat → Int} {X : SX} (h : INV P n FI A X) (hn : n < 512) {a9 b9 : Nat} {v : Int} (ha9 : a9 < 16) (hb9 : b9 < 16) (hab : a9 ≠ b9) (hv : v = 0 ∨ v = 1) : INV P (n + 1) FI (up2 (up2 (up2 (up2 A (54 + a9) b9 v) (54 + b9) a9 v) 180 (16 * a9 + b9) v) 180 (16 * b9 + a9) v) X := by
  obtain ⟨h0, ⟨k1, k2, k3, k4, k5, k6, k7⟩, ⟨g1, g2, g3, g4, g5, g6, g7⟩, hx⟩ := h
  refine ⟨hn, ⟨k1, k2, fun f hf => ?_, fun t ht => ?_, fun a b ha hb => ?_, fun t p ht hp => ?_, fun j hj => ?_⟩, ⟨g1, g2, fun f hf => ?_, fun t ht => ?_, fun a b ha hb => ?_, fun t p ht hp => ?_, fun j hj => ?_⟩, hx⟩
  · have q := k3 f hf
    unfold cFl at *
    simp (disch := omega) only [up2_ne]
    omega
  · have q := k4 t ht
    unfold cTm at *
    simp (disch := omega) only [up2_ne]
    omega
  · have q := k5 a b ha hb
    unfold cTw at *
    by_cases e : (a = a9 ∧ b = b9) ∨ (a = b9 ∧ b = a9)
    · rcases e with ⟨rfl, rfl⟩ | ⟨rfl, rfl⟩ <;> simp (disch := omega) only [up2_ne, up2_eq, true_and, and_true, implies_true] <;> omega
    · simp (disch := omega) only [up2_ne]
      omega
  · have q := k6 t p ht hp
    unfold cPp at *
    simp (disch := omega) only [up2_ne]
    omega
  · have q := k7 j hj
    simp (disch := omega) only [up2_ne]
    omega
  · have q := g3 f hf
    unfold gFl at *
    simp (disch := omega) only [up2_ne]
    omega
  · have q := g4 t ht
    unfold gTm at *
    simp (disch := omega) only [up2_ne]
    omega
  · have q := g5 a b ha hb
    unfold gTw at *
    by_cases e : (a = a9 ∧ b = b9) ∨ (a = b9 ∧ b = a9)
    · rcases e with ⟨rfl, rfl⟩ | ⟨rfl, rfl⟩ <;> simp (disch := omega) only [up2_ne, up2_eq, true_and, and_true, implies_true] <;> omega
    · simp (disch := omega) only [up2_ne]
      omega
  · have q := g6 t p ht hp
    unfold gPp at *
    simp (disch := omega) only [up2_ne]
    omega
  · have q := g7 j hj
    simp (disch := omega) only [up2_ne]
    omega

theorem INV_two2 {P : PP} {n : Nat} {FI A : Nat → Nat → Int} {X : SX} (h : INV P n FI A X) (hn : n < 512) {a9 b9 : Nat} {v : Int} (ha9 : a9 < 16) (hb9 : b9 < 16) (hab : a9 ≠ b9) (hv : v = 0 ∨ v = 1) : INV P (n + 1) FI (up2 (up2 (up2 (up2 A (71 + a9) b9 v) (71 + b9) a9 v) 181 (16 * a9 + b9) v) 181 (16 * b9 + a9) v) X := by
  obtain ⟨h0, ⟨k1, k2, k3, k4, k5, k6, k7⟩, ⟨g1, g2, g3, g4, g5, g6, g7⟩, hx⟩ := h
  refine ⟨hn, ⟨k1, k2, fun f hf => ?_, fun t ht => ?_, fun a b ha hb => ?_, fun t p ht hp => ?_, fun j hj => ?_⟩, ⟨g1, g2, fun f hf => ?_, fun t ht => ?_, fun a b ha hb => ?_, fun t p ht hp => ?_, fun j hj => ?_⟩, hx⟩
  · have q := k3 f hf
    unfold cFl at *
    simp (disch := omega) only [up2_ne]
    omega
  · have q := k4 t ht
    unfold cTm at *
    simp (disch := omega) only [up2_ne]
    omega
  · have q := k5 a b ha hb
    unfold cTw at *
    by_cases e : (a = a9 ∧ b = b9) ∨ (a = b9 ∧ b = a9)
    · rcases e with ⟨rfl, rfl⟩ | ⟨rfl, rfl⟩ <;> simp (disch := omega) only [up2_ne, up2_eq, true_and, and_true, implies_true] <;> omega
    · simp (disch := omega) only [up2_ne]
      omega
  · have q := k6 t p ht hp
    unfold cPp at *
    simp (disch := omega) only [up2_ne]
    omega
  · have q := k7 j hj
    simp (disch := omega) only [up2_ne]
    omega
  · have q := g3 f hf
    unfold gFl at *
    simp (disch := omega) only [up2_ne]
    omega
  · have q := g4 t ht
    unfold gTm at *
    simp (disch := omega) only [up2_ne]
    omega
  · have q := g5 a b ha hb
    unfold gTw at *
    by_cases e : (a = a9 ∧ b = b9) ∨ (a = b9 ∧ b = a9)
    · rcases e with ⟨rfl, rfl⟩ | ⟨rfl, rfl⟩ <;> simp (disch := omega) only [up2_ne, up2_eq, true_and, and_true, implies_true] <;> omega
    · simp (disch := omega) only [up2_ne]
      omega
  · have q := g6 t p ht hp
    unfold gPp at *
    simp (disch := omega) only [up2_ne]
    omega
  · have q := g7 j hj
    simp (disch := omega) only [up2_ne]
    omega

theorem INV_team {P : PP} {n : Nat} {FI A : Nat → Nat → Int} {X : SX} (h : INV P n FI A X) (hn : n < 512) {T : Nat} {s9 e9 l9 b9 : Int} (hT : T < 16) (hc : FI 6 8 = T) (hs : 1 ≤ s9 ∧ s9 ≤ 60) (he : 0 ≤ e9 ∧ e9 ≤ 7) (hl : 0 ≤ l9 ∧ l9 ≤ 9) (hb9 : 0 ≤ b9 ∧ b9 ≤ 9) : INV P (n + 1) (up2 (up2 FI 6 8 (T + 1)) 165 0 (T + 1)) (up2 (up2 (up2 (up2 (up2 (up2 (up2 (up2 (up2 (up2 A (20 + T) 0 s9) (20 + T) 1 e9) (20 + T) 2 l9) (20 + T) 3 b9) 170 T s9) 171 T e9) 172 T l9) 173 T b9) 174 T (-9)) 175 T (-9)) X := by
  obtain ⟨h0, ⟨k1, k2, k3, k4, k5, k6, k7⟩, ⟨g1, g2, g3, g4, g5, g6, g7⟩, hx⟩ := h
  refine ⟨hn, ⟨(by simp (disch := omega) only [up2_ne, up2_eq, true_and, and_true, implies_true]; omega), (by simp (disch := omega) only [up2_ne]; exact k2), fun f hf => ?_, fun t ht => ?_, fun a b ha hb => ?_, fun t p ht hp => ?_, fun j hj => ?_⟩, ⟨(by simp (disch := omega) only [up2_ne, up2_eq, true_and, and_true, implies_true]), (by simp (disch := omega) only [up2_ne]; exact g2), fun f hf => ?_, fun t ht => ?_, fun a b ha hb => ?_, fun t p ht hp => ?_, fun j hj => ?_⟩, hx⟩
  · have q := k3 f hf
    unfold cFl at *
    simp (disch := omega) only [up2_ne]
    omega
  · have q := k4 t ht
    unfold cTm at *
    have e8 : up2 (up2 FI 6 8 (T + 1)) 165 0 (T + 1) 6 8 = T + 1 := by simp (disch := omega) only [up2_ne, up2_eq, true_and, and_true, implies_true]
    rw [e8]
    by_cases e : t = T
    · subst e
      simp (disch := omega) only [up2_ne, up2_eq, true_and, and_true, implies_true]
      omega
    · simp (disch := omega) only [up2_ne, up2_eq, true_and, and_true, implies_true]
      omega
  · have q := k5 a b ha hb
    unfold cTw at *
    simp (disch := omega) only [up2_ne]
    omega
  · have q := k6 t p ht hp
    unfold cPp at *
    simp (disch := omega) only [up2_ne]
    omega
  · have q := k7 j hj
    simp (disch := omega) only [up2_ne]
    omega
  · have q := g3 f hf
    unfold gFl at *
    simp (disch := omega) only [up2_ne]
    omega
  · have q := g4 t ht
    unfold gTm at *
    have e8 : up2 (up2 FI 6 8 (T + 1)) 165 0 (T + 1) 6 8 = T + 1 := by simp (disch := omega) only [up2_ne, up2_eq, true_and, and_true, implies_true]
    have q4 := k4 t ht
    unfold cTm at q4
    rw [e8]
    by_cases e : t = T
    · subst e
      simp (disch := omega) only [up2_ne, up2_eq, true_and, and_true, implies_true]
      omega
    · simp (disch := omega) only [up2_ne, up2_eq, true_and, and_true, implies_true]
      omega
  · have q := g5 a b ha hb
    unfold gTw at *
    simp (disch := omega) only [up2_ne]
    omega
  · have q := g6 t p ht hp
    unfold gPp at *
    simp (disch := omega) only [up2_ne]
    omega
  · have q := g7 j hj
    simp (disch := omega) only [up2_ne]
    omega


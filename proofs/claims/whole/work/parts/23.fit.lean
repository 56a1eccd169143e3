/-! fit and walked: the words, and the class -/
def absd (x y : Int) : Int := if 0 ≤ x - y then x - y else -(x - y)
def pw (A : Nat → Nat → Int) (s : Nat) (t : Nat) : Int := if s.testBit t then -9 else A (20 + t) 4
def occ (A : Nat → Nat → Int) (pl : Nat → Int) (f : Nat) (n : Nat) : Int := sumN (fun t => if pl t = (f : Int) then A (20 + t) 0 else 0) n
def suitsP (A : Nat → Nat → Int) (F t : Nat) : Prop := iAnd (A (8 + F) 1) (A (20 + t) 1) = A (20 + t) 1
def agrP (A : Nat → Nat → Int) (a : Nat) (x : Int) (b : Nat) (y : Int) : Prop := ¬ (A (71 + a) b = 1 ∧ 1 < absd x y) ∧ (x = y → A (54 + a) b = 0 ∧ A (20 + a) 2 ≤ A (20 + b) 3 ∧ A (20 + b) 2 ≤ A (20 + a) 3)
def fitT (A : Nat → Nat → Int) (pl : Nat → Int) (a : Nat) : Prop := pl a ≠ -9 → suitsP A (pl a).toNat a ∧ ∀ b, b < a → pl b ≠ -9 → agrP A a (pl a) b (pl b)
def FIT (A : Nat → Nat → Int) (c : Nat) (pl : Nat → Int) : Prop := (∀ f, f < 11 → occ A pl f c ≤ A (8 + f) 0) ∧ ∀ a, a < c → fitT A pl a
def wk2 (A : Nat → Nat → Int) (pl : Nat → Int) (a b : Nat) : Int := if pl a ≠ -9 ∧ pl b ≠ -9 then A (37 + a) b * absd (pl a) (pl b) else 0
def walkP (A : Nat → Nat → Int) (pl : Nat → Int) (c : Nat) : Int := sumN (fun a => sumN (fun b => wk2 A pl a b) a) c
theorem absd_bd {x y : Int} (hx : 0 ≤ x ∧ x < 11) (hy : 0 ≤ y ∧ y < 11) : 0 ≤ absd x y ∧ absd x y ≤ 10 := by
  unfold absd
  split <;> omega
theorem suits7 : ∀ x, x < 8 → ∀ y, y < 8 → (iAnd ((x : Nat) : Int) (iXor ((y : Nat) : Int) (-1)) = 0 ↔ iAnd ((y : Nat) : Int) ((x : Nat) : Int) = ((x : Nat) : Int)) := by decide +kernel
theorem pw_ne {A : Nat → Nat → Int} {s t : Nat} (h : pw A s t ≠ -9) : pw A s t = A (20 + t) 4 ∧ s.testBit t = false ∧ A (20 + t) 4 ≠ -9 := by
  unfold pw at *
  cases hb : s.testBit t
  · rw [hb] at h
    exact ⟨rfl, rfl, h⟩
  · rw [hb] at h
    exact absurd rfl h
theorem pw_eq {A : Nat → Nat → Int} {s t : Nat} (h : s.testBit t = false) : pw A s t = A (20 + t) 4 := by unfold pw; rw [h]; rfl
theorem pw_in {A : Nat → Nat → Int} {s t : Nat} (h : s.testBit t = true) : pw A s t = -9 := by unfold pw; rw [h]; rfl
theorem wk2_bd {A : Nat → Nat → Int} {pl : Nat → Int} {a b : Nat} (hv : 0 ≤ A (37 + a) b ∧ A (37 + a) b ≤ 99) (ha : pl a = -9 ∨ (0 ≤ pl a ∧ pl a < 11)) (hb : pl b = -9 ∨ (0 ≤ pl b ∧ pl b < 11)) : 0 ≤ wk2 A pl a b ∧ wk2 A pl a b ≤ 990 := by
  unfold wk2
  split
  · rename_i h
    have h1 := absd_bd (x := pl a) (y := pl b) (by omega) (by omega)
    exact ⟨Int.mul_nonneg hv.1 h1.1, Int.le_trans (Int.mul_le_mul hv.2 h1.2 h1.1 (by omega)) (by omega)⟩
  · omega
theorem sp_stays {P : PP} {d n c : Nat} {FI A L : Nat → Nat → Int} {X : SX} {Q : Option AV → S2 → Prop} (hI : cI n FI A) (hc : FI 6 8 = (c : Int)) {T s : Nat} (hT : T < 16) (hs : s < 2147483648) (h1 : pw A s T ≠ -9 → Q (some (vi 1)) (FI, A, L, X)) (h0 : pw A s T = -9 → Q (some (vi 0)) (FI, A, L, X)) : WP2 P M_H_stays (d + 1) 0 [some (vr 6), some (vi (T : Int)), some (vi (s : Int))] [] (FI, A, L, X) Q := by
  have hq := hI.2.2.2.1 T hT
  unfold cTm at hq
  refine WP_n 1 rfl ?_
  refine WP2_getf rfl rfl rfl rfl rfl ?_
  refine WP_n 1 rfl ?_
  refine WP2_aald (b := 20) (j := T) (n := 16) rfl rfl rfl rfl rfl (by omega) (by omega) ?_
  refine WP_n 1 rfl ?_
  refine WP2_iald (j := 4) rfl rfl (ia_tm (by omega)) (by omega) (by omega) (by omega) ?_
  refine WP_n 1 rfl ?_
  refine WP_icmpeq rfl rfl ⟨by omega, by omega⟩ ⟨by omega, by omega⟩ (fun h7 => ?_) (fun h7 => ?_)
  · refine WP_n 1 rfl ?_
    exact WP_zret rfl rfl rfl (Or.inl rfl) ⟨_, rfl, h0 (by unfold pw; split <;> omega)⟩
  · refine WP_n 2 rfl ?_
    refine WP2_callN 2 ok_M_F_holds rfl rfl rfl rfl rfl rfl rfl (Nat.le_of_ble_eq_true rfl) (Nat.le_of_ble_eq_true rfl) ?_
    refine sp_holds hs (by omega) (fun hB => ?_) (fun hB => ?_)
    · refine WP_ifne rfl rfl ⟨by decide, by decide⟩  (fun h11 => ?_) (fun h11 => absurd (by decide) h11)
      refine WP_n 1 rfl ?_
      exact WP_zret rfl rfl rfl (Or.inl rfl) ⟨_, rfl, h0 (pw_in hB)⟩
    · refine WP_ifne rfl rfl ⟨by decide, by decide⟩  (fun h11 => absurd h11 (by decide)) (fun h11 => ?_)
      refine WP_n 2 rfl ?_
      exact WP_zret rfl rfl rfl (Or.inr rfl) ⟨_, rfl, h1 (by rw [pw_eq hB]; exact h7)⟩
theorem sp_suits {P : PP} {d n c : Nat} {FI A L : Nat → Nat → Int} {X : SX} {Q : Option AV → S2 → Prop} (hI : cI n FI A) (hc : FI 6 8 = (c : Int)) {F T : Nat} (hF : F < 11) (hT : T < 16) (h1 : suitsP A F T → Q (some (vi 1)) (FI, A, L, X)) (h0 : ¬ suitsP A F T → Q (some (vi 0)) (FI, A, L, X)) : WP2 P M_H_suits (d) 0 [some (vr 6), some (vi (F : Int)), some (vi (T : Int))] [] (FI, A, L, X) Q := by
  have hq := hI.2.2.2.1 T hT
  unfold cTm at hq
  have hf := hI.2.2.1 F hF
  unfold cFl at hf
  obtain ⟨x, hx⟩ : ∃ x : Nat, A (20 + T) 1 = (x : Int) := ⟨(A (20 + T) 1).toNat, by omega⟩
  obtain ⟨y, hy⟩ : ∃ y : Nat, A (8 + F) 1 = (y : Int) := ⟨(A (8 + F) 1).toNat, by omega⟩
  have key := suits7 x (by omega) y (by omega)
  unfold suitsP at h1 h0
  rw [hx, hy] at h1 h0
  refine WP_n 1 rfl ?_
  refine WP2_getf rfl rfl rfl rfl rfl ?_
  refine WP_n 1 rfl ?_
  refine WP2_aald (b := 20) (j := T) (n := 16) rfl rfl rfl rfl rfl (by omega) (by omega) ?_
  refine WP_n 1 rfl ?_
  refine WP2_iald (j := 1) rfl rfl (ia_tm (by omega)) (by omega) (by omega) (by omega) ?_
  refine WP_n 1 rfl ?_
  refine WP2_getf rfl rfl rfl rfl rfl ?_
  refine WP_n 1 rfl ?_
  refine WP2_aald (b := 8) (j := F) (n := 11) rfl rfl rfl rfl rfl (by omega) (by omega) ?_
  refine WP_n 1 rfl ?_
  refine WP2_iald (j := 1) rfl rfl (ia_fl (by omega)) (by omega) (by omega) (by omega) ?_
  rw [hx, hy]
  refine WP_n 3 rfl ?_
  refine WP_ifne rfl rfl (iAnd_inR _ _) (fun h15 => ?_) (fun h15 => ?_)
  · refine WP_n 1 rfl ?_
    exact WP_zret rfl rfl rfl (Or.inl rfl) ⟨_, rfl, h0 (fun q => h15 (key.mpr q))⟩
  · refine WP_n 2 rfl ?_
    exact WP_zret rfl rfl rfl (Or.inr rfl) ⟨_, rfl, h1 (key.mp (by omega))⟩
theorem sp_walkBetween {P : PP} {d n c : Nat} {FI A L : Nat → Nat → Int} {X : SX} {Q : Option AV → S2 → Prop} (hI : cI n FI A) (hc : FI 6 8 = (c : Int)) {a b : Nat} {x y : Int} (ha : a < 16) (hb : b < 16) (hx : 0 ≤ x ∧ x < 11) (hy : 0 ≤ y ∧ y < 11) (hq : Q (some (vi (A (37 + a) b * absd x y))) (FI, A, L, X)) : WP2 P M_H_walkBetween (d + 1) 0 [some (vr 6), some (vi (a : Int)), some (vi x), some (vi (b : Int)), some (vi y)] [] (FI, A, L, X) Q := by
  refine WP_n 1 rfl ?_
  refine WP2_getf rfl rfl rfl rfl rfl ?_
  refine WP_n 1 rfl ?_
  refine WP2_aald (b := 37) (j := a) (n := 16) rfl rfl rfl rfl rfl (by omega) (by omega) ?_
  refine WP_n 1 rfl ?_
  refine WP2_iald (j := b) rfl rfl (ia_vs (by omega)) (by omega) (by omega) (by omega) ?_
  refine WP_n 3 rfl ?_
  refine WP_abs rfl rfl rfl rfl rfl (Nat.le_of_ble_eq_true rfl) (by omega) (by omega) ?_
  refine WP_n 1 rfl ?_
  exact WP_iret rfl rfl rfl ⟨_, rfl, hq⟩
theorem sp_agree {P : PP} {d n c : Nat} {FI A L : Nat → Nat → Int} {X : SX} {Q : Option AV → S2 → Prop} (hI : cI n FI A) (hc : FI 6 8 = (c : Int)) {a b : Nat} {x y : Int} (ha : a < 16) (hb : b < 16) (hx : 0 ≤ x ∧ x < 11) (hy : 0 ≤ y ∧ y < 11) (h1 : agrP A a x b y → Q (some (vi 1)) (FI, A, L, X)) (h0 : ¬ agrP A a x b y → Q (some (vi 0)) (FI, A, L, X)) : WP2 P M_H_agree (d + 1) 0 [some (vr 6), some (vi (a : Int)), some (vi x), some (vi (b : Int)), some (vi y)] [] (FI, A, L, X) Q := by
  have hqa := hI.2.2.2.1 a ha
  have hqb := hI.2.2.2.1 b hb
  have hqw := hI.2.2.2.2.1 a b ha hb
  unfold cTm at hqa hqb
  unfold cTw at hqw
  have hab := absd_bd hx hy
  have ead : (if 0 ≤ x - y then x - y else -(x - y)) = absd x y := rfl
  refine WP_n 1 rfl ?_
  refine WP2_getf rfl rfl rfl rfl rfl ?_
  refine WP_n 1 rfl ?_
  refine WP2_aald (b := 71) (j := a) (n := 16) rfl rfl rfl rfl rfl (by omega) (by omega) ?_
  refine WP_n 1 rfl ?_
  refine WP2_iald (j := b) rfl rfl (ia_nr (by omega)) (by omega) (by omega) (by omega) ?_
  refine WP_n 1 rfl ?_
  refine WP_icmpne rfl rfl ⟨by omega, by omega⟩ ⟨by omega, by omega⟩ (fun h7 => ?_) (fun h7 => ?_)
  · refine WP_n 2 rfl ?_
    refine WP_icmpeq rfl rfl ⟨by omega, by omega⟩ ⟨by omega, by omega⟩ (fun h18 => ?_) (fun h18 => ?_)
    · refine WP_n 1 rfl ?_
      refine WP2_getf rfl rfl rfl rfl rfl ?_
      refine WP_n 1 rfl ?_
      refine WP2_aald (b := 54) (j := a) (n := 16) rfl rfl rfl rfl rfl (by omega) (by omega) ?_
      refine WP_n 1 rfl ?_
      refine WP2_iald (j := b) rfl rfl (ia_br (by omega)) (by omega) (by omega) (by omega) ?_
      refine WP_ifne rfl rfl ⟨by omega, by omega⟩ (fun h27 => ?_) (fun h27 => ?_)
      · refine WP_n 1 rfl ?_
        exact WP_zret rfl rfl rfl (Or.inl rfl) ⟨_, rfl, h0 (fun q => h27 (q.2 h18).1)⟩
      · refine WP_n 1 rfl ?_
        refine WP2_getf rfl rfl rfl rfl rfl ?_
        refine WP_n 1 rfl ?_
        refine WP2_aald (b := 20) (j := a) (n := 16) rfl rfl rfl rfl rfl (by omega) (by omega) ?_
        refine WP_n 1 rfl ?_
        refine WP2_iald (j := 2) rfl rfl (ia_tm (by omega)) (by omega) (by omega) (by omega) ?_
        refine WP_n 1 rfl ?_
        refine WP2_getf rfl rfl rfl rfl rfl ?_
        refine WP_n 1 rfl ?_
        refine WP2_aald (b := 20) (j := b) (n := 16) rfl rfl rfl rfl rfl (by omega) (by omega) ?_
        refine WP_n 1 rfl ?_
        refine WP2_iald (j := 3) rfl rfl (ia_tm (by omega)) (by omega) (by omega) (by omega) ?_
        refine WP_icmpgt rfl rfl ⟨by omega, by omega⟩ ⟨by omega, by omega⟩ (fun h40 => ?_) (fun h40 => ?_)
        · refine WP_n 1 rfl ?_
          exact WP_zret rfl rfl rfl (Or.inl rfl) ⟨_, rfl, h0 (fun q => by have := (q.2 h18).2.1; omega)⟩
        · refine WP_n 1 rfl ?_
          refine WP2_getf rfl rfl rfl rfl rfl ?_
          refine WP_n 1 rfl ?_
          refine WP2_aald (b := 20) (j := b) (n := 16) rfl rfl rfl rfl rfl (by omega) (by omega) ?_
          refine WP_n 1 rfl ?_
          refine WP2_iald (j := 2) rfl rfl (ia_tm (by omega)) (by omega) (by omega) (by omega) ?_
          refine WP_n 1 rfl ?_
          refine WP2_getf rfl rfl rfl rfl rfl ?_
          refine WP_n 1 rfl ?_
          refine WP2_aald (b := 20) (j := a) (n := 16) rfl rfl rfl rfl rfl (by omega) (by omega) ?_
          refine WP_n 1 rfl ?_
          refine WP2_iald (j := 3) rfl rfl (ia_tm (by omega)) (by omega) (by omega) (by omega) ?_
          refine WP_icmpgt rfl rfl ⟨by omega, by omega⟩ ⟨by omega, by omega⟩ (fun h53 => ?_) (fun h53 => ?_)
          · refine WP_n 1 rfl ?_
            exact WP_zret rfl rfl rfl (Or.inl rfl) ⟨_, rfl, h0 (fun q => by have := (q.2 h18).2.2; omega)⟩
          · refine WP_n 2 rfl ?_
            exact WP_zret rfl rfl rfl (Or.inr rfl) ⟨_, rfl, h1 ⟨fun q => h7 q.1, fun e => ⟨by omega, by omega, by omega⟩⟩⟩
    · refine WP_n 1 rfl ?_
      exact WP_zret rfl rfl rfl (Or.inr rfl) ⟨_, rfl, h1 ⟨fun q => h7 q.1, fun e => absurd e h18⟩⟩
  · refine WP_n 3 rfl ?_
    refine WP_abs rfl rfl rfl rfl rfl (Nat.le_of_ble_eq_true rfl) (by omega) (by omega) ?_
    rw [ead]
    refine WP_n 1 rfl ?_
    refine WP_icmple rfl rfl ⟨by omega, by omega⟩ ⟨by omega, by omega⟩ (fun h13 => ?_) (fun h13 => ?_)
    · refine WP_n 2 rfl ?_
      refine WP_icmpeq rfl rfl ⟨by omega, by omega⟩ ⟨by omega, by omega⟩ (fun h18 => ?_) (fun h18 => ?_)
      · refine WP_n 1 rfl ?_
        refine WP2_getf rfl rfl rfl rfl rfl ?_
        refine WP_n 1 rfl ?_
        refine WP2_aald (b := 54) (j := a) (n := 16) rfl rfl rfl rfl rfl (by omega) (by omega) ?_
        refine WP_n 1 rfl ?_
        refine WP2_iald (j := b) rfl rfl (ia_br (by omega)) (by omega) (by omega) (by omega) ?_
        refine WP_ifne rfl rfl ⟨by omega, by omega⟩ (fun h27 => ?_) (fun h27 => ?_)
        · refine WP_n 1 rfl ?_
          exact WP_zret rfl rfl rfl (Or.inl rfl) ⟨_, rfl, h0 (fun q => h27 (q.2 h18).1)⟩
        · refine WP_n 1 rfl ?_
          refine WP2_getf rfl rfl rfl rfl rfl ?_
          refine WP_n 1 rfl ?_
          refine WP2_aald (b := 20) (j := a) (n := 16) rfl rfl rfl rfl rfl (by omega) (by omega) ?_
          refine WP_n 1 rfl ?_
          refine WP2_iald (j := 2) rfl rfl (ia_tm (by omega)) (by omega) (by omega) (by omega) ?_
          refine WP_n 1 rfl ?_
          refine WP2_getf rfl rfl rfl rfl rfl ?_
          refine WP_n 1 rfl ?_
          refine WP2_aald (b := 20) (j := b) (n := 16) rfl rfl rfl rfl rfl (by omega) (by omega) ?_
          refine WP_n 1 rfl ?_
          refine WP2_iald (j := 3) rfl rfl (ia_tm (by omega)) (by omega) (by omega) (by omega) ?_
          refine WP_icmpgt rfl rfl ⟨by omega, by omega⟩ ⟨by omega, by omega⟩ (fun h40 => ?_) (fun h40 => ?_)
          · refine WP_n 1 rfl ?_
            exact WP_zret rfl rfl rfl (Or.inl rfl) ⟨_, rfl, h0 (fun q => by have := (q.2 h18).2.1; omega)⟩
          · refine WP_n 1 rfl ?_
            refine WP2_getf rfl rfl rfl rfl rfl ?_
            refine WP_n 1 rfl ?_
            refine WP2_aald (b := 20) (j := b) (n := 16) rfl rfl rfl rfl rfl (by omega) (by omega) ?_
            refine WP_n 1 rfl ?_
            refine WP2_iald (j := 2) rfl rfl (ia_tm (by omega)) (by omega) (by omega) (by omega) ?_
            refine WP_n 1 rfl ?_
            refine WP2_getf rfl rfl rfl rfl rfl ?_
            refine WP_n 1 rfl ?_
            refine WP2_aald (b := 20) (j := a) (n := 16) rfl rfl rfl rfl rfl (by omega) (by omega) ?_
            refine WP_n 1 rfl ?_
            refine WP2_iald (j := 3) rfl rfl (ia_tm (by omega)) (by omega) (by omega) (by omega) ?_
            refine WP_icmpgt rfl rfl ⟨by omega, by omega⟩ ⟨by omega, by omega⟩ (fun h53 => ?_) (fun h53 => ?_)
            · refine WP_n 1 rfl ?_
              exact WP_zret rfl rfl rfl (Or.inl rfl) ⟨_, rfl, h0 (fun q => by have := (q.2 h18).2.2; omega)⟩
            · refine WP_n 2 rfl ?_
              exact WP_zret rfl rfl rfl (Or.inr rfl) ⟨_, rfl, h1 ⟨fun q => by omega, fun e => ⟨by omega, by omega, by omega⟩⟩⟩
      · refine WP_n 1 rfl ?_
        exact WP_zret rfl rfl rfl (Or.inr rfl) ⟨_, rfl, h1 ⟨fun q => by omega, fun e => absurd e h18⟩⟩
    · refine WP_n 1 rfl ?_
      exact WP_zret rfl rfl rfl (Or.inl rfl) ⟨_, rfl, h0 (fun q => q.1 ⟨by omega, by omega⟩)⟩
theorem sp_agreesE {P : PP} {d n c : Nat} {FI A L : Nat → Nat → Int} {X : SX} {Q : Option AV → S2 → Prop} (hI : cI n FI A) (hc : FI 6 8 = (c : Int)) {a s : Nat} (ha : a < c) (hs : s < 2147483648) (hpa : pw A s a ≠ -9) (h1 : (∀ b, b < a → pw A s b ≠ -9 → agrP A a (pw A s a) b (pw A s b)) → Q (some (vi 1)) (FI, A, L, X)) (h0 : ¬ (∀ b, b < a → pw A s b ≠ -9 → agrP A a (pw A s a) b (pw A s b)) → Q (some (vi 0)) (FI, A, L, X)) : WP2 P M_H_agreesWithEarlier (d + 2) 0 [some (vr 6), some (vi (a : Int)), some (vi (s : Int)), none] [] (FI, A, L, X) Q := by
  have hcc := hI.1
  have hqa := hI.2.2.2.1 a (by omega)
  unfold cTm at hqa
  have hpa2 := pw_ne hpa
  refine WP_n 2 rfl ?_
  suffices hh : ∀ t, t ≤ a → (∀ b, b < t → pw A s b ≠ -9 → agrP A a (pw A s a) b (pw A s b)) → WP2 P M_H_agreesWithEarlier (d + 2) 2 [some (vr 6), some (vi (a : Int)), some (vi (s : Int)), some (vi (t : Int))] [] (FI, A, L, X) Q from hh 0 (by omega) (fun b hb => absurd hb (by omega))
  refine up_to (P := fun t => (∀ b, b < t → pw A s b ≠ -9 → agrP A a (pw A s a) b (pw A s b)) → WP2 P M_H_agreesWithEarlier (d + 2) 2 [some (vr 6), some (vi (a : Int)), some (vi (s : Int)), some (vi (t : Int))] [] (FI, A, L, X) Q) a ?_ ?_
  · intro hall
    refine WP_n 2 rfl ?_
    refine WP_icmpge rfl rfl ⟨by omega, by omega⟩ ⟨by omega, by omega⟩ (fun h4 => ?_) (fun h4 => absurd h4 (by omega))
    refine WP_n 1 rfl ?_
    exact WP_zret rfl rfl rfl (Or.inr rfl) ⟨_, rfl, h1 hall⟩
  · intro t ht ih hall
    have hqt := hI.2.2.2.1 t (by omega)
    unfold cTm at hqt
    refine WP_n 2 rfl ?_
    refine WP_icmpge rfl rfl ⟨by omega, by omega⟩ ⟨by omega, by omega⟩ (fun h4 => absurd h4 (by omega)) (fun h4 => ?_)
    refine WP_n 3 rfl ?_
    refine WP2_callV 2 ok_M_H_stays rfl rfl rfl rfl rfl rfl (Nat.le_of_ble_eq_true rfl) (Nat.le_of_ble_eq_true rfl) rfl rfl ?_
    refine sp_stays hI hc (by omega) hs (fun hS => ?_) (fun hS => ?_)
    · have hS2 := pw_ne hS
      refine WP_ifeq rfl rfl ⟨by decide, by decide⟩  (fun h9 => absurd h9 (by decide)) (fun h9 => ?_)
      refine WP_n 3 rfl ?_
      refine WP2_getf rfl rfl rfl rfl rfl ?_
      refine WP_n 1 rfl ?_
      refine WP2_aald (b := 20) (j := a) (n := 16) rfl rfl rfl rfl rfl (by omega) (by omega) ?_
      refine WP_n 1 rfl ?_
      refine WP2_iald (j := 4) rfl rfl (ia_tm (by omega)) (by omega) (by omega) (by omega) ?_
      refine WP_n 2 rfl ?_
      refine WP2_getf rfl rfl rfl rfl rfl ?_
      refine WP_n 1 rfl ?_
      refine WP2_aald (b := 20) (j := t) (n := 16) rfl rfl rfl rfl rfl (by omega) (by omega) ?_
      refine WP_n 1 rfl ?_
      refine WP2_iald (j := 4) rfl rfl (ia_tm (by omega)) (by omega) (by omega) (by omega) ?_
      refine WP2_callV 4 ok_M_H_agree rfl rfl rfl rfl rfl rfl (Nat.le_of_ble_eq_true rfl) (Nat.le_of_ble_eq_true rfl) rfl rfl ?_
      refine sp_agree hI hc (by omega) (by omega) (by omega) (by omega) (fun hA => ?_) (fun hA => ?_)
      · refine WP_ifne rfl rfl ⟨by decide, by decide⟩  (fun h26 => ?_) (fun h26 => absurd (by decide) h26)
        refine WP_n 2 rfl ?_
        exact ih (lt_s hall (fun _ => by rw [hpa2.1, hS2.1]; exact hA))
      · refine WP_ifne rfl rfl ⟨by decide, by decide⟩  (fun h26 => absurd h26 (by decide)) (fun h26 => ?_)
        refine WP_n 1 rfl ?_
        exact WP_zret rfl rfl rfl (Or.inl rfl) ⟨_, rfl, h0 (fun q => hA (by have := q t ht hS; rw [hpa2.1, hS2.1] at this; exact this))⟩
    · refine WP_ifeq rfl rfl ⟨by decide, by decide⟩  (fun h9 => ?_) (fun h9 => absurd (by decide) h9)
      refine WP_n 2 rfl ?_
      exact ih (lt_s hall (fun q => absurd hS q))
theorem occ_pw (A : Nat → Nat → Int) (s F c : Nat) : sumN (fun t => if A (20 + t) 4 = (F : Int) ∧ s.testBit t = false then A (20 + t) 0 else 0) c = occ A (pw A s) F c := by
  unfold occ
  refine sumN_congr c (fun t ht => ?_)
  unfold pw
  cases hb : s.testBit t
  · simp
  · simp
theorem sp_isFit {P : PP} {d n c : Nat} {FI A L : Nat → Nat → Int} {X : SX} {Q : Option AV → S2 → Prop} (hI : cI n FI A) (hc : FI 6 8 = (c : Int)) {s : Nat} (hs : s < 2147483648) (h1 : FIT A c (pw A s) → Q (some (vi 1)) (FI, A, L, X)) (h0 : ¬ FIT A c (pw A s) → Q (some (vi 0)) (FI, A, L, X)) : WP2 P M_H_isFit (d + 3) 0 [some (vr 6), some (vi (s : Int)), none] [] (FI, A, L, X) Q := by
  have hcc := hI.1
  have hocc : ∀ F, F < 11 → 0 ≤ occ A (pw A s) F c ∧ occ A (pw A s) F c ≤ 960 := by
    intro F hF
    have := sumN_bd (f := fun t => if pw A s t = (F : Int) then A (20 + t) 0 else 0) (lo := 0) (hi := 60) c (fun t ht => by
      have hq := hI.2.2.2.1 t (by omega)
      unfold cTm at hq
      split <;> omega)
    unfold occ
    omega
  refine WP_n 2 rfl ?_
  suffices hh : ∀ F, F ≤ 11 → (∀ f, f < F → occ A (pw A s) f c ≤ A (8 + f) 0) → WP2 P M_H_isFit (d + 3) 2 [some (vr 6), some (vi (s : Int)), some (vi (F : Int))] [] (FI, A, L, X) Q from hh 0 (by omega) (fun b hb => absurd hb (by omega))
  refine up_to (P := fun F => (∀ f, f < F → occ A (pw A s) f c ≤ A (8 + f) 0) → WP2 P M_H_isFit (d + 3) 2 [some (vr 6), some (vi (s : Int)), some (vi (F : Int))] [] (FI, A, L, X) Q) 11 ?_ ?_
  · intro hall
    refine WP_n 2 rfl ?_
    refine WP_icmpge rfl rfl ⟨by omega, by omega⟩ ⟨by omega, by omega⟩ (fun h4 => ?_) (fun h4 => absurd h4 (by omega))
    refine WP_n 2 rfl ?_
    suffices hh : ∀ t, t ≤ c → (∀ a, a < t → fitT A (pw A s) a) → WP2 P M_H_isFit (d + 3) 16 [some (vr 6), some (vi (s : Int)), some (vi (t : Int))] [] (FI, A, L, X) Q from hh 0 (by omega) (fun b hb => absurd hb (by omega))
    refine up_to (P := fun t => (∀ a, a < t → fitT A (pw A s) a) → WP2 P M_H_isFit (d + 3) 16 [some (vr 6), some (vi (s : Int)), some (vi (t : Int))] [] (FI, A, L, X) Q) c ?_ ?_
    · intro hall2
      refine WP_n 2 rfl ?_
      refine WP2_getf rfl rfl rfl rfl rfl ?_
      refine WP_icmpge rfl rfl ⟨by omega, by omega⟩ ⟨by omega, by omega⟩ (fun h19 => ?_) (fun h19 => absurd h19 (by omega))
      refine WP_n 1 rfl ?_
      exact WP_zret rfl rfl rfl (Or.inr rfl) ⟨_, rfl, h1 ⟨hall, hall2⟩⟩
    · intro t ht ih hall2
      have hqt := hI.2.2.2.1 t (by omega)
      unfold cTm at hqt
      refine WP_n 2 rfl ?_
      refine WP2_getf rfl rfl rfl rfl rfl ?_
      refine WP_icmpge rfl rfl ⟨by omega, by omega⟩ ⟨by omega, by omega⟩ (fun h19 => absurd h19 (by omega)) (fun h19 => ?_)
      refine WP_n 3 rfl ?_
      refine WP2_callV 2 ok_M_H_stays rfl rfl rfl rfl rfl rfl (Nat.le_of_ble_eq_true rfl) (Nat.le_of_ble_eq_true rfl) rfl rfl ?_
      refine sp_stays hI hc (by omega) hs (fun hS => ?_) (fun hS => ?_)
      · have hS2 := pw_ne hS
        obtain ⟨F, hF⟩ : ∃ F : Nat, A (20 + t) 4 = (F : Int) := ⟨(A (20 + t) 4).toNat, by omega⟩
        have hFn : (pw A s t).toNat = F := by rw [hS2.1, hF]; rfl
        refine WP_ifeq rfl rfl ⟨by decide, by decide⟩  (fun h24 => absurd h24 (by decide)) (fun h24 => ?_)
        refine WP_n 2 rfl ?_
        refine WP2_getf rfl rfl rfl rfl rfl ?_
        refine WP_n 1 rfl ?_
        refine WP2_aald (b := 20) (j := t) (n := 16) rfl rfl rfl rfl rfl (by omega) (by omega) ?_
        refine WP_n 1 rfl ?_
        refine WP2_iald (j := 4) rfl rfl (ia_tm (by omega)) (by omega) (by omega) (by omega) ?_
        refine WP_n 1 rfl ?_
        refine WP2_callV 2 ok_M_H_suits rfl rfl rfl rfl rfl rfl (Nat.le_of_ble_eq_true rfl) (Nat.le_of_ble_eq_true rfl) rfl rfl ?_
        rw [hF]
        refine sp_suits hI hc (by omega) (by omega) (fun hU => ?_) (fun hU => ?_)
        · refine WP_ifeq rfl rfl ⟨by decide, by decide⟩  (fun h34 => absurd h34 (by decide)) (fun h34 => ?_)
          refine WP_n 3 rfl ?_
          refine WP2_callV 2 ok_M_H_agreesWithEarlier rfl rfl rfl rfl rfl rfl (Nat.le_of_ble_eq_true rfl) (Nat.le_of_ble_eq_true rfl) rfl rfl ?_
          refine sp_agreesE hI hc ht hs hS (fun hA => ?_) (fun hA => ?_)
          · refine WP_ifne rfl rfl ⟨by decide, by decide⟩  (fun h39 => ?_) (fun h39 => absurd (by decide) h39)
            refine WP_n 2 rfl ?_
            exact ih (lt_s hall2 (fun _ => ⟨by rw [hFn]; exact hU, hA⟩))
          · refine WP_ifne rfl rfl ⟨by decide, by decide⟩  (fun h39 => absurd h39 (by decide)) (fun h39 => ?_)
            refine WP_n 1 rfl ?_
            exact WP_zret rfl rfl rfl (Or.inl rfl) ⟨_, rfl, h0 (fun q => hA (q.2 t ht hS).2)⟩
        · refine WP_ifeq rfl rfl ⟨by decide, by decide⟩  (fun h34 => ?_) (fun h34 => absurd (by decide) h34)
          refine WP_n 1 rfl ?_
          exact WP_zret rfl rfl rfl (Or.inl rfl) ⟨_, rfl, h0 (fun q => hU (by have := (q.2 t ht hS).1; rw [hFn] at this; exact this))⟩
      · refine WP_ifeq rfl rfl ⟨by decide, by decide⟩  (fun h24 => ?_) (fun h24 => absurd (by decide) h24)
        refine WP_n 2 rfl ?_
        exact ih (lt_s hall2 (fun q => absurd hS q))
  · intro F hF ih hall
    have hfl := hI.2.2.1 F hF
    unfold cFl at hfl
    have ho := hocc F hF
    refine WP_n 2 rfl ?_
    refine WP_icmpge rfl rfl ⟨by omega, by omega⟩ ⟨by omega, by omega⟩ (fun h4 => absurd h4 (by omega)) (fun h4 => ?_)
    refine WP_n 3 rfl ?_
    refine WP2_callV 2 ok_M_H_freeSeats rfl rfl rfl rfl rfl rfl (Nat.le_of_ble_eq_true rfl) (Nat.le_of_ble_eq_true rfl) rfl rfl ?_
    refine sp_freeSeats hI hc (by omega) hs ?_
    rw [occ_pw]
    refine WP_ifge rfl rfl ⟨by omega, by omega⟩ (fun h9 => ?_) (fun h9 => ?_)
    · refine WP_n 2 rfl ?_
      exact ih (lt_s hall (by omega))
    · refine WP_n 1 rfl ?_
      exact WP_zret rfl rfl rfl (Or.inl rfl) ⟨_, rfl, h0 (fun q => by have := q.1 F hF; omega)⟩

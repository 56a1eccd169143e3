/-! kept: the class -/
def OffK (FI FI' : Nat → Nat → Int) : Prop := ∀ a k, ¬ (a = 162 ∧ (k = 4 ∨ k = 5)) → FI' a k = FI a k
theorem cnt_bd (s : Nat) : 0 ≤ cnt s ∧ cnt s ≤ 16 := by
  have := sumN_bd (f := fun k => (bitN s k : Int)) (lo := 0) (hi := 1) 16 (fun k _ => by have := bitN_le s k; omega)
  unfold cnt
  omega
theorem sp_isSmaller {P : PP} {d : Nat} {FI A L : Nat → Nat → Int} {X : SX} {Q : Option AV → S2 → Prop} {s b : Nat} (hs : s < 2048) (hb : FI 162 4 = (b : Int)) (hb2 : b < 2048) (h1 : (cnt s < cnt b ∨ (cnt s = cnt b ∧ s < b)) → Q (some (vi 1)) (FI, A, L, X)) (h0 : ¬ (cnt s < cnt b ∨ (cnt s = cnt b ∧ s < b)) → Q (some (vi 0)) (FI, A, L, X)) : WP2 P M_L_isSmaller (d + 1) 0 [some (vr 162), some (vi (s : Int)), none] [] (FI, A, L, X) Q := by
  have k1 := cnt_bd s
  have k2 := cnt_bd b
  refine WP_n 1 rfl ?_
  refine WP2_callS 1 ok_J_bitCount rfl rfl rfl rfl rfl rfl rfl (Nat.le_of_ble_eq_true rfl) (Nat.le_of_ble_eq_true rfl) ?_
  refine sp_bitCount (by omega) ?_
  rw [show sumN (fun k => (bitN s k : Int)) 16 = cnt s from rfl]
  refine WP_n 1 rfl ?_
  refine WP2_getf rfl rfl rfl rfl rfl ?_
  refine WP2_callS 1 ok_J_bitCount rfl rfl rfl rfl rfl rfl rfl (Nat.le_of_ble_eq_true rfl) (Nat.le_of_ble_eq_true rfl) ?_
  rw [hb]
  refine sp_bitCount (by omega) ?_
  rw [show sumN (fun k => (bitN b k : Int)) 16 = cnt b from rfl]
  refine WP_n 3 rfl ?_
  refine WP_iflt rfl rfl ⟨by omega, by omega⟩ (fun h8 => ?_) (fun h8 => ?_)
  · refine WP_n 2 rfl ?_
    exact WP_zret rfl rfl rfl (Or.inr rfl) ⟨_, rfl, h1 (by omega)⟩
  · refine WP_n 1 rfl ?_
    refine WP_ifne rfl rfl ⟨by omega, by omega⟩ (fun h10 => ?_) (fun h10 => ?_)
    · refine WP_n 1 rfl ?_
      exact WP_zret rfl rfl rfl (Or.inl rfl) ⟨_, rfl, h0 (by omega)⟩
    · refine WP_n 2 rfl ?_
      refine WP2_getf rfl rfl rfl rfl rfl ?_
      refine WP_icmpge rfl rfl ⟨by omega, by omega⟩ ⟨by omega, by omega⟩ (fun h14 => ?_) (fun h14 => ?_)
      · refine WP_n 1 rfl ?_
        exact WP_zret rfl rfl rfl (Or.inl rfl) ⟨_, rfl, h0 (by omega)⟩
      · refine WP_n 2 rfl ?_
        exact WP_zret rfl rfl rfl (Or.inr rfl) ⟨_, rfl, h1 (by omega)⟩
theorem sp_keep {P : PP} {d : Nat} {FI A L : Nat → Nat → Int} {X : SX} {Q : Option AV → S2 → Prop} {C : Nat → Int} {s : Nat} (hs : s < 2048) {pr : Int} (hpr : pr = rmS C s 11) (hpb : 0 ≤ pr ∧ pr ≤ 10000000) (hx : FI 162 4 = -9 ∨ ∃ b : Nat, FI 162 4 = (b : Int) ∧ b < 2048 ∧ 0 ≤ FI 162 5 ∧ FI 162 5 ≤ 10000000) (h1 : bet C (FI 162 4) (FI 162 5) s → Q none (up2 (up2 FI 162 4 (s : Int)) 162 5 pr, A, L, X)) (h0 : ¬ bet C (FI 162 4) (FI 162 5) s → Q none (FI, A, L, X)) : WP2 P M_L_keepIfBetter (d + 2) 0 [some (vr 162), some (vi (s : Int)), some (vi pr)] [] (FI, A, L, X) Q := by
  unfold bet at h1 h0
  rw [← hpr] at h1 h0
  rcases hx with hx | ⟨b, hb, hb2, hb3⟩
  · refine WP_n 1 rfl ?_
    refine WP2_getf rfl rfl rfl rfl rfl ?_
    refine WP_n 1 rfl ?_
    refine WP_icmpeq rfl rfl ⟨by omega, by omega⟩ ⟨by omega, by omega⟩ (fun h3 => ?_) (fun h3 => absurd h3 (by omega))
    refine WP_n 2 rfl ?_
    refine WP2_putk (k := 4) rfl rfl rfl rfl rfl rfl (by exact trivial) ?_
    refine WP_n 2 rfl ?_
    refine WP2_putk (k := 5) rfl rfl rfl rfl rfl rfl (by exact trivial) ?_
    exact WP_vret rfl rfl rfl ⟨_, rfl, h1 (Or.inl hx)⟩
  · have hbn : (FI 162 4).toNat = b := by omega
    rw [hbn] at h1 h0
    refine WP_n 1 rfl ?_
    refine WP2_getf rfl rfl rfl rfl rfl ?_
    refine WP_n 1 rfl ?_
    refine WP_icmpeq rfl rfl ⟨by omega, by omega⟩ ⟨by omega, by omega⟩ (fun h3 => absurd h3 (by omega)) (fun h3 => ?_)
    refine WP_n 2 rfl ?_
    refine WP2_getf rfl rfl rfl rfl rfl ?_
    refine WP_icmplt rfl rfl ⟨by omega, by omega⟩ ⟨by omega, by omega⟩ (fun h7 => ?_) (fun h7 => ?_)
    · refine WP_n 2 rfl ?_
      refine WP2_putk (k := 4) rfl rfl rfl rfl rfl rfl (by exact trivial) ?_
      refine WP_n 2 rfl ?_
      refine WP2_putk (k := 5) rfl rfl rfl rfl rfl rfl (by exact trivial) ?_
      exact WP_vret rfl rfl rfl ⟨_, rfl, h1 (Or.inr (Or.inl (by omega)))⟩
    · refine WP_n 2 rfl ?_
      refine WP2_getf rfl rfl rfl rfl rfl ?_
      refine WP_icmpne rfl rfl ⟨by omega, by omega⟩ ⟨by omega, by omega⟩ (fun h11 => ?_) (fun h11 => ?_)
      · exact WP_vret rfl rfl rfl ⟨_, rfl, h0 (by omega)⟩
      · refine WP_n 2 rfl ?_
        refine WP2_callV 1 ok_M_L_isSmaller rfl rfl rfl rfl rfl rfl (Nat.le_of_ble_eq_true rfl) (Nat.le_of_ble_eq_true rfl) rfl rfl ?_
        refine sp_isSmaller hs hb hb2 (fun hS => ?_) (fun hS => ?_)
        · refine WP_ifeq rfl rfl ⟨by decide, by decide⟩  (fun h15 => absurd h15 (by decide)) (fun h15 => ?_)
          refine WP_n 2 rfl ?_
          refine WP2_putk (k := 4) rfl rfl rfl rfl rfl rfl (by exact trivial) ?_
          refine WP_n 2 rfl ?_
          refine WP2_putk (k := 5) rfl rfl rfl rfl rfl rfl (by exact trivial) ?_
          exact WP_vret rfl rfl rfl ⟨_, rfl, h1 (by omega)⟩
        · refine WP_ifeq rfl rfl ⟨by decide, by decide⟩  (fun h15 => ?_) (fun h15 => absurd (by decide) h15)
          exact WP_vret rfl rfl rfl ⟨_, rfl, h0 (by omega)⟩
theorem sp_seatsNeeded {P : PP} {d n c : Nat} {FI A L : Nat → Nat → Int} {X : SX} {Q : Option AV → S2 → Prop} (hI : cI n FI A) (hc : FI 6 8 = (c : Int)) {q9 : Nat} (hq9 : q9 < 20) (hq : Q (some (vi (sumN (fun t => fore (A (122 + t)) (A (20 + t) 0) (q9 + 1)) c))) (FI, A, L, X)) : WP2 P M_L_seatsNeeded (d + 1) 0 [some (vr 162), some (vi (q9 : Int)), none, none] [] (FI, A, L, X) Q := by
  have hcc := hI.1
  refine WP_n 4 rfl ?_
  refine up_to (P := fun t => WP2 P M_L_seatsNeeded (d + 1) 4 [some (vr 162), some (vi (q9 : Int)), some (vi (sumN (fun t => fore (A (122 + t)) (A (20 + t) 0) (q9 + 1)) t)), some (vi (t : Int))] [] (FI, A, L, X) Q) c ?_ ?_ 0 (by omega)
  · refine WP_n 2 rfl ?_
    refine WP2_getf rfl rfl rfl rfl rfl ?_
    refine WP2_getf rfl rfl rfl rfl rfl ?_
    refine WP_icmpge rfl rfl ⟨by omega, by omega⟩ ⟨by omega, by omega⟩ (fun h8 => ?_) (fun h8 => absurd h8 (by omega))
    refine WP_n 1 rfl ?_
    exact WP_iret rfl rfl rfl ⟨_, rfl, hq⟩
  · intro t ht ih
    refine WP_n 2 rfl ?_
    refine WP2_getf rfl rfl rfl rfl rfl ?_
    refine WP2_getf rfl rfl rfl rfl rfl ?_
    refine WP_icmpge rfl rfl ⟨by omega, by omega⟩ ⟨by omega, by omega⟩ (fun h8 => absurd h8 (by omega)) (fun h8 => ?_)
    refine WP_n 2 rfl ?_
    refine WP2_getf rfl rfl rfl rfl rfl ?_
    refine WP_n 2 rfl ?_
    refine WP2_callV 2 ok_M_H_foretold rfl rfl rfl rfl rfl rfl (Nat.le_of_ble_eq_true rfl) (Nat.le_of_ble_eq_true rfl) rfl rfl ?_
    refine sp_foretold hI (by omega) hq9 ?_
    refine WP_n 4 rfl ?_
    exact ih
theorem sp_heldFloors {P : PP} {d n : Nat} {FI A L : Nat → Nat → Int} {X : SX} {Q : Option AV → S2 → Prop} (hI : cI n FI A) {q9 : Nat} (hq9 : q9 < 20) (hq : ∀ hs : Nat, hs < 2048 → (∀ f, f < 11 → (hs.testBit f = true ↔ (q9 : Int) ≤ A (8 + f) 3)) → Q (some (vi (hs : Int))) (FI, A, L, X)) : WP2 P M_L_heldFloors (d) 0 [some (vr 162), some (vi (q9 : Int)), none, none] [] (FI, A, L, X) Q := by
  refine WP_n 4 rfl ?_
  suffices hh : ∀ f, f ≤ 11 → ∀ s : Nat, s < 2 ^ f → (∀ g, g < f → (s.testBit g = true ↔ (q9 : Int) ≤ A (8 + g) 3)) → WP2 P M_L_heldFloors d 4 [some (vr 162), some (vi (q9 : Int)), some (vi (s : Int)), some (vi (f : Int))] [] (FI, A, L, X) Q from hh 0 (by omega) 0 (by omega) (fun g hg => absurd hg (by omega))
  refine up_to (P := fun f => ∀ s : Nat, s < 2 ^ f → (∀ g, g < f → (s.testBit g = true ↔ (q9 : Int) ≤ A (8 + g) 3)) → WP2 P M_L_heldFloors d 4 [some (vr 162), some (vi (q9 : Int)), some (vi (s : Int)), some (vi (f : Int))] [] (FI, A, L, X) Q) 11 ?_ ?_
  · intro s hs hb
    refine WP_n 2 rfl ?_
    refine WP_icmpge rfl rfl ⟨by omega, by omega⟩ ⟨by omega, by omega⟩ (fun h6 => ?_) (fun h6 => absurd h6 (by omega))
    refine WP_n 1 rfl ?_
    exact WP_iret rfl rfl rfl ⟨_, rfl, hq s (by omega) hb⟩
  · intro f hf ih s hs hb
    have hfl := hI.2.2.1 f hf
    unfold cFl at hfl
    have hp : 2 ^ f ≤ 2 ^ 10 := Nat.pow_le_pow_right (by omega) (by omega)
    have hp2 := Nat.pow_succ 2 f
    refine WP_n 2 rfl ?_
    refine WP_icmpge rfl rfl ⟨by omega, by omega⟩ ⟨by omega, by omega⟩ (fun h6 => absurd h6 (by omega)) (fun h6 => ?_)
    refine WP_n 2 rfl ?_
    refine WP2_getf rfl rfl rfl rfl rfl ?_
    refine WP2_getf rfl rfl rfl rfl rfl ?_
    refine WP_n 1 rfl ?_
    refine WP2_aald (b := 8) (j := f) (n := 11) rfl rfl rfl rfl rfl (by omega) (by omega) ?_
    refine WP_n 1 rfl ?_
    refine WP2_iald (j := 3) rfl rfl (ia_fl (by omega)) (by omega) (by omega) (by omega) ?_
    refine WP_n 1 rfl ?_
    refine WP_icmplt rfl rfl ⟨by omega, by omega⟩ ⟨by omega, by omega⟩ (fun h16 => ?_) (fun h16 => ?_)
    · refine WP_n 2 rfl ?_
      rw [or_zero' (by omega)]
      refine WP_n 3 rfl ?_
      exact ih s (by omega) (lt_s hb (by rw [tb_lt hs (by omega)]; constructor <;> intro q <;> first | exact absurd q (by decide) | omega))
    · refine WP_n 5 rfl ?_
      rw [or_pow hs (by omega)]
      refine WP_n 3 rfl ?_
      exact ih (s + 2 ^ f) (by omega) (lt_s (fun g hg => by rw [tb_lo hs hg]; exact hb g hg) (by rw [tb_hi hs]; constructor <;> intro q <;> first | rfl | omega))
theorem sp_addFrom {P : PP} {d hset : Nat} {need : Int} {A L : Nat → Nat → Int} {X : SX} {Q : Option AV → S2 → Prop} (hA : ∀ g, g ≤ 11 → A 163 g = rmS (fun f => A (8 + f) 0) hset 11 - rmS (fun f => A (8 + f) 0) hset g) (hh : hset < 2048) (hneed : 0 ≤ need ∧ need ≤ 4000) (hfl : ∀ f, f < 11 → (0 ≤ A (8 + f) 0 ∧ A (8 + f) 0 ≤ 300) ∧ (0 ≤ A (8 + f) 2 ∧ A (8 + f) 2 ≤ 999)) : ∀ (k f : Nat), f + k = 11 → ∀ (FI : Nat → Nat → Int) (s : Nat) (se pr : Int) (D : Nat → Prop) (Q : Option AV → S2 → Prop), s < 2 ^ f → se = rmS (fun f => A (8 + f) 0) s f → pr = rmS (fun f => A (8 + f) 0 * A (8 + f) 2) s f → (∀ g, g < f → s.testBit g = true → hset.testBit g = true) → FI 162 2 = (hset : Int) → FI 162 3 = need → JK (fun f => A (8 + f) 0) (fun f => A (8 + f) 0 * A (8 + f) 2) hset need (-9) (FI 162 4) (FI 162 5) (D) → (∀ FI' : Nat → Nat → Int, OffK FI FI' → JK (fun f => A (8 + f) 0) (fun f => A (8 + f) 0 * A (8 + f) 2) hset need (-9) (FI' 162 4) (FI' 162 5) (fun u => D u ∨ u % 2 ^ f = s) → Q none (FI', A, L, X)) → WP2 P M_L_addFrom (d + k + 3) 0 [some (vr 162), some (vi (f : Int)), some (vi (s : Int)), some (vi se), some (vi pr), none, none] [] (FI, A, L, X) Q := by
  have hC : ∀ f, f < 11 → 0 ≤ (fun f => A (8 + f) 0 * A (8 + f) 2) f ∧ (fun f => A (8 + f) 0 * A (8 + f) 2) f ≤ 299700 := fun f hf => by
    have := hfl f hf
    exact mulB (x := A (8 + f) 0) (y := A (8 + f) 2) (a := 300) (b := 999) (by omega) (by omega) (by omega) (by omega)
  have hS : ∀ f, f < 11 → 0 ≤ (fun f => A (8 + f) 0) f ∧ (fun f => A (8 + f) 0) f ≤ 300 := fun f hf => (hfl f hf).1
  have hC0 : ∀ f, f < 11 → 0 ≤ (fun f => A (8 + f) 0 * A (8 + f) 2) f := fun f hf => (hC f hf).1
  have hS0 : ∀ f, f < 11 → 0 ≤ (fun f => A (8 + f) 0) f := fun f hf => (hS f hf).1
  intro k
  induction k with
  | zero =>
    intro f hfk FI s se pr D Q hs hse hpr hheld hf2 hf3 hJ hq
    have hp11 : 2 ^ f ≤ 2 ^ 11 := Nat.pow_le_pow_right (by omega) (by omega)
    have bS := rmS_bd (S := (fun f => A (8 + f) 0)) (hi := 300) (by omega) s f (fun g hg => hS g (by omega))
    have bC := rmS_bd (S := (fun f => A (8 + f) 0 * A (8 + f) 2)) (hi := 299700) (by omega) s f (fun g hg => hC g (by omega))
    have e11 := rmS_hi (S := (fun f => A (8 + f) 0)) hs 11 (by omega)
    have c11 := rmS_hi (S := (fun f => A (8 + f) 0 * A (8 + f) 2)) hs 11 (by omega)
    have bH := rmS_bd (S := (fun f => A (8 + f) 0)) (hi := 300) (by omega) hset 11 hS
    have bH2 := rmS_up (S := (fun f => A (8 + f) 0)) (s := hset) (f := f) (k := 11) (by omega) hS0
    have bH3 := rmS_bd (S := (fun f => A (8 + f) 0)) (hi := 300) (by omega) hset f (fun g hg => hS g (by omega))
    have hx : FI 162 4 = -9 ∨ ∃ b : Nat, FI 162 4 = (b : Int) ∧ b < 2048 ∧ 0 ≤ FI 162 5 ∧ FI 162 5 ≤ 10000000 := by
      rcases hJ with q | ⟨b, q1, q2, q3, q4, q5⟩
      · exact Or.inl q.1
      · have := rmS_bd (S := (fun f => A (8 + f) 0 * A (8 + f) 2)) (hi := 299700) (by omega) b 11 hC
        exact Or.inr ⟨b, q1, q2, by omega, by omega⟩
    have hxr : inR (FI 162 4) := by
      rcases hx with q | ⟨b, q1, q2, q3, q4⟩ <;> exact ⟨by omega, by omega⟩
    have hF0 := hA f (by omega)
    have hfle : (f : Int) ≤ 11 := by omega
    have bS2 : se ≤ 3300 := by
      have : (f : Int) * 300 ≤ 11 * 300 := by omega
      omega
    have bC2 : pr ≤ 3296700 := by
      have : (f : Int) * 299700 ≤ 11 * 299700 := by omega
      omega
    have hext : ∀ u, u % 2 ^ f = s → rmS (fun f => A (8 + f) 0 * A (8 + f) 2) s 11 ≤ rmS (fun f => A (8 + f) 0 * A (8 + f) 2) u 11 ∧ cnt s ≤ cnt u ∧ s ≤ u := fun u hu => ext_le (S := (fun f => A (8 + f) 0)) (by omega) hC0 hu
    have hleK : ∀ u, u < 2048 → u % 2 ^ f = s → okF (fun f => A (8 + f) 0) hset need u → leK (fun f => A (8 + f) 0 * A (8 + f) 2) s u := fun u _ hu _ => by
      have := hext u hu
      unfold leK
      omega
    refine WP_n 2 rfl ?_
    refine WP2_getf rfl rfl rfl rfl rfl ?_
    refine WP_icmplt rfl rfl ⟨by omega, by omega⟩ ⟨by omega, by omega⟩ (fun h3 => ?_) (fun h3 => ?_)
    · refine WP_n 1 rfl ?_
      refine WP2_getf rfl rfl rfl rfl rfl ?_
      refine WP_n 1 rfl ?_
      refine WP_icmpeq rfl rfl hxr ⟨by omega, by omega⟩ (fun h12 => ?_) (fun h12 => ?_)
      · refine WP_n 4 rfl ?_
        refine WP_icmpge rfl rfl ⟨by omega, by omega⟩ ⟨by omega, by omega⟩ (fun h23 => ?_) (fun h23 => absurd h23 (by omega))
        exact WP_vret rfl rfl rfl ⟨_, rfl, hq _ (fun a k hak => rfl) (hJ.mono (fun u hu hd ho => by
          rcases hd with q | q
          · exact q
          · rw [show f = 11 by omega, Nat.mod_eq_of_lt (by omega)] at q
            rw [q] at ho
            exact absurd ho.2 (by omega)))⟩
      · obtain ⟨b, q1, q2, q3, q4⟩ := hx.resolve_left h12
        refine WP_n 2 rfl ?_
        refine WP2_getf rfl rfl rfl rfl rfl ?_
        refine WP_icmple rfl rfl ⟨by omega, by omega⟩ ⟨by omega, by omega⟩ (fun h16 => ?_) (fun h16 => ?_)
        · refine WP_n 4 rfl ?_
          refine WP_icmpge rfl rfl ⟨by omega, by omega⟩ ⟨by omega, by omega⟩ (fun h23 => ?_) (fun h23 => absurd h23 (by omega))
          exact WP_vret rfl rfl rfl ⟨_, rfl, hq _ (fun a k hak => rfl) (hJ.mono (fun u hu hd ho => by
            rcases hd with q | q
            · exact q
            · rw [show f = 11 by omega, Nat.mod_eq_of_lt (by omega)] at q
              rw [q] at ho
              exact absurd ho.2 (by omega)))⟩
        · refine WP_n 5 rfl ?_
          refine WP_icmpge rfl rfl ⟨by omega, by omega⟩ ⟨by omega, by omega⟩ (fun h23 => ?_) (fun h23 => absurd h23 (by omega))
          exact WP_vret rfl rfl rfl ⟨_, rfl, hq _ (fun a k hak => rfl) (hJ.mono (fun u hu hd ho => by
            rcases hd with q | q
            · exact q
            · rw [show f = 11 by omega, Nat.mod_eq_of_lt (by omega)] at q
              rw [q] at ho
              exact absurd ho.2 (by omega)))⟩
    · refine WP_n 3 rfl ?_
      refine WP2_callV 2 ok_M_L_keepIfBetter rfl rfl rfl rfl rfl rfl (Nat.le_of_ble_eq_true rfl) (Nat.le_of_ble_eq_true rfl) rfl rfl ?_
      refine sp_keep (C := (fun f => A (8 + f) 0 * A (8 + f) 2)) (by omega) (by omega) (by omega) hx (fun hB => ?_) (fun hB => ?_)
      · refine WP_vret rfl rfl rfl ⟨_, rfl, ?_⟩
        refine hq _ (fun a k hak => ?_) ?_
        · rw [up2_ne (by omega), up2_ne (by omega)]
        · rw [up2_ne (by omega), up2_same, up2_same, hpr, ← c11]
          refine hJ.put (by omega) ⟨fun g hg hb => ?_, by omega⟩ hB hleK
          by_cases q : g < f
          · exact hheld g q hb
          · rw [tb_lt hs (by omega)] at hb
            exact absurd hb (by decide)
      · refine WP_vret rfl rfl rfl ⟨_, rfl, ?_⟩
        exact hq _ (fun a k hak => rfl) (hJ.stay hB hleK)
  | succ k ih =>
    intro f hfk FI s se pr D Q hs hse hpr hheld hf2 hf3 hJ hq
    have hp11 : 2 ^ f ≤ 2 ^ 11 := Nat.pow_le_pow_right (by omega) (by omega)
    have bS := rmS_bd (S := (fun f => A (8 + f) 0)) (hi := 300) (by omega) s f (fun g hg => hS g (by omega))
    have bC := rmS_bd (S := (fun f => A (8 + f) 0 * A (8 + f) 2)) (hi := 299700) (by omega) s f (fun g hg => hC g (by omega))
    have e11 := rmS_hi (S := (fun f => A (8 + f) 0)) hs 11 (by omega)
    have c11 := rmS_hi (S := (fun f => A (8 + f) 0 * A (8 + f) 2)) hs 11 (by omega)
    have bH := rmS_bd (S := (fun f => A (8 + f) 0)) (hi := 300) (by omega) hset 11 hS
    have bH2 := rmS_up (S := (fun f => A (8 + f) 0)) (s := hset) (f := f) (k := 11) (by omega) hS0
    have bH3 := rmS_bd (S := (fun f => A (8 + f) 0)) (hi := 300) (by omega) hset f (fun g hg => hS g (by omega))
    have hx : FI 162 4 = -9 ∨ ∃ b : Nat, FI 162 4 = (b : Int) ∧ b < 2048 ∧ 0 ≤ FI 162 5 ∧ FI 162 5 ≤ 10000000 := by
      rcases hJ with q | ⟨b, q1, q2, q3, q4, q5⟩
      · exact Or.inl q.1
      · have := rmS_bd (S := (fun f => A (8 + f) 0 * A (8 + f) 2)) (hi := 299700) (by omega) b 11 hC
        exact Or.inr ⟨b, q1, q2, by omega, by omega⟩
    have hxr : inR (FI 162 4) := by
      rcases hx with q | ⟨b, q1, q2, q3, q4⟩ <;> exact ⟨by omega, by omega⟩
    have hF0 := hA f (by omega)
    have hfle : (f : Int) ≤ 11 := by omega
    have bS2 : se ≤ 3300 := by
      have : (f : Int) * 300 ≤ 11 * 300 := by omega
      omega
    have bC2 : pr ≤ 3296700 := by
      have : (f : Int) * 299700 ≤ 11 * 299700 := by omega
      omega
    have hext : ∀ u, u % 2 ^ f = s → rmS (fun f => A (8 + f) 0 * A (8 + f) 2) s 11 ≤ rmS (fun f => A (8 + f) 0 * A (8 + f) 2) u 11 ∧ cnt s ≤ cnt u ∧ s ≤ u := fun u hu => ext_le (S := (fun f => A (8 + f) 0)) (by omega) hC0 hu
    have hleK : ∀ u, u < 2048 → u % 2 ^ f = s → okF (fun f => A (8 + f) 0) hset need u → leK (fun f => A (8 + f) 0 * A (8 + f) 2) s u := fun u _ hu _ => by
      have := hext u hu
      unfold leK
      omega
    have hp2 := Nat.pow_succ 2 f
    have hff := hfl f (by omega)
    refine WP_n 2 rfl ?_
    refine WP2_getf rfl rfl rfl rfl rfl ?_
    refine WP_icmplt rfl rfl ⟨by omega, by omega⟩ ⟨by omega, by omega⟩ (fun h3 => ?_) (fun h3 => ?_)
    · refine WP_n 1 rfl ?_
      refine WP2_getf rfl rfl rfl rfl rfl ?_
      refine WP_n 1 rfl ?_
      refine WP_icmpeq rfl rfl hxr ⟨by omega, by omega⟩ (fun h12 => ?_) (fun h12 => ?_)
      · refine WP_n 4 rfl ?_
        refine WP_icmpge rfl rfl ⟨by omega, by omega⟩ ⟨by omega, by omega⟩ (fun h23 => absurd h23 (by omega)) (fun h23 => ?_)
        refine WP_n 1 rfl ?_
        refine WP_ifne rfl rfl ⟨by decide, by decide⟩  (fun h25 => absurd h25 (by decide)) (fun h25 => ?_)
        refine WP_n 2 rfl ?_
        refine WP2_getf rfl rfl rfl rfl rfl ?_
        refine WP_n 1 rfl ?_
        refine WP2_iald (j := f) rfl rfl (ia_lit (n := 12) rfl rfl (by omega)) (by omega) (by omega) (by omega) ?_
        refine WP_n 2 rfl ?_
        refine WP2_getf rfl rfl rfl rfl rfl ?_
        refine WP_icmpge rfl rfl ⟨by omega, by omega⟩ ⟨by omega, by omega⟩ (fun h34 => ?_) (fun h34 => ?_)
        · refine WP_n 1 rfl ?_
          refine WP2_getf rfl rfl rfl rfl rfl ?_
          refine WP_n 1 rfl ?_
          refine WP2_callN 2 ok_M_F_holds rfl rfl rfl rfl rfl rfl rfl (Nat.le_of_ble_eq_true rfl) (Nat.le_of_ble_eq_true rfl) ?_
          rw [hf2]
          refine sp_holds (by omega) (by omega) (fun hB => ?_) (fun hB => ?_)
          · refine WP_ifeq rfl rfl ⟨by decide, by decide⟩  (fun h40 => absurd h40 (by decide)) (fun h40 => ?_)
            refine WP_n 1 rfl ?_
            refine WP2_getf rfl rfl rfl rfl rfl ?_
            refine WP2_getf rfl rfl rfl rfl rfl ?_
            refine WP_n 1 rfl ?_
            refine WP2_aald (b := 8) (j := f) (n := 11) rfl rfl rfl rfl rfl (by omega) (by omega) ?_
            refine WP_n 9 rfl ?_
            refine WP_n 1 rfl ?_
            rw [or_pow hs (by omega)]
            refine WP_n 3 rfl ?_
            refine WP2_iald (j := 0) rfl rfl (ia_fl (by omega)) (by omega) (by omega) (by omega) ?_
            refine WP_n 4 rfl ?_
            refine WP2_iald (j := 0) rfl rfl (ia_fl (by omega)) (by omega) (by omega) (by omega) ?_
            refine WP_n 2 rfl ?_
            refine WP2_iald (j := 2) rfl rfl (ia_fl (by omega)) (by omega) (by omega) (by omega) ?_
            refine WP_n 2 rfl ?_
            refine WP2_callV 4 ok_M_L_addFrom rfl rfl rfl rfl rfl rfl (Nat.le_of_ble_eq_true rfl) (Nat.le_of_ble_eq_true rfl) rfl rfl ?_
            refine ih (f + 1) (by omega) _ (s + 2 ^ f) _ _ D _ (by omega) (by
              show _ = rmS (fun f => A (8 + f) 0) (s + 2 ^ f) f + (if _ then _ else _)
              rw [tb_hi hs, if_pos rfl, ← rmS_lo (S := (fun f => A (8 + f) 0)) (s := s + 2 ^ f) (t := s) (f := f) (by rw [Nat.add_mod_right, Nat.mod_eq_of_lt hs]), ← hse]) (by
              show _ = rmS (fun f => A (8 + f) 0 * A (8 + f) 2) (s + 2 ^ f) f + (if _ then _ else _)
              rw [tb_hi hs, if_pos rfl, ← rmS_lo (S := (fun f => A (8 + f) 0 * A (8 + f) 2)) (s := s + 2 ^ f) (t := s) (f := f) (by rw [Nat.add_mod_right, Nat.mod_eq_of_lt hs]), ← hpr]) (fun g hg hb => by
              by_cases q : g = f
              · rw [q]; exact hB
              · rw [tb_lo hs (by omega)] at hb
                exact hheld g (by omega) hb) hf2 hf3 hJ (fun FI1 ho1 hJ1 => ?_)
            have h21 : FI1 162 2 = (hset : Int) := (ho1 162 2 (by omega)).trans hf2
            have h31 : FI1 162 3 = need := (ho1 162 3 (by omega)).trans hf3
            refine WP_n 7 rfl ?_
            refine WP2_callV 4 ok_M_L_addFrom rfl rfl rfl rfl rfl rfl (Nat.le_of_ble_eq_true rfl) (Nat.le_of_ble_eq_true rfl) rfl rfl ?_
            refine ih (f + 1) (by omega) _ s _ _ (fun u => D u ∨ u % 2 ^ (f + 1) = s + 2 ^ f) _ (by omega) (by
              show _ = rmS (fun f => A (8 + f) 0) s f + (if _ then _ else _)
              rw [tb_lt hs (by omega), ← hse]
              simp) (by
              show _ = rmS (fun f => A (8 + f) 0 * A (8 + f) 2) s f + (if _ then _ else _)
              rw [tb_lt hs (by omega), ← hpr]
              simp) (fun g hg hb => by
              by_cases q : g = f
              · rw [q, tb_lt hs (by omega)] at hb
                exact absurd hb (by decide)
              · exact hheld g (by omega) hb) h21 h31 hJ1 (fun FI2 ho2 hJ2 => ?_)
            refine WP_vret rfl rfl rfl ⟨_, rfl, ?_⟩
            refine hq _ (fun a k hak => (ho2 a k hak).trans (ho1 a k hak)) (hJ2.mono (fun u hu hd ho => ?_))
            rcases hd with q | q
            · exact Or.inl (Or.inl q)
            · rcases ext_split q with z | z
              · exact Or.inr z
              · exact Or.inl (Or.inr z)
          · refine WP_ifeq rfl rfl ⟨by decide, by decide⟩  (fun h40 => ?_) (fun h40 => absurd (by decide) h40)
            refine WP_n 7 rfl ?_
            refine WP2_callV 4 ok_M_L_addFrom rfl rfl rfl rfl rfl rfl (Nat.le_of_ble_eq_true rfl) (Nat.le_of_ble_eq_true rfl) rfl rfl ?_
            refine ih (f + 1) (by omega) _ s _ _ D _ (by omega) (by
              show _ = rmS (fun f => A (8 + f) 0) s f + (if _ then _ else _)
              rw [tb_lt hs (by omega), ← hse]
              simp) (by
              show _ = rmS (fun f => A (8 + f) 0 * A (8 + f) 2) s f + (if _ then _ else _)
              rw [tb_lt hs (by omega), ← hpr]
              simp) (fun g hg hb => by
              by_cases q : g = f
              · rw [q, tb_lt hs (by omega)] at hb
                exact absurd hb (by decide)
              · exact hheld g (by omega) hb) hf2 hf3 hJ (fun FI2 ho2 hJ2 => ?_)
            refine WP_vret rfl rfl rfl ⟨_, rfl, ?_⟩
            refine hq _ ho2 (hJ2.mono (fun u hu hd ho => ?_))
            rcases hd with q | q
            · exact Or.inl q
            · rcases ext_split q with z | z
              · exact Or.inr z
              · have w := ho.1 f (by omega) (by rw [← tb_mod (f := f + 1) (by omega), z]; exact tb_hi hs)
                rw [hB] at w
                exact absurd w (by decide)
        · exact WP_vret rfl rfl rfl ⟨_, rfl, hq _ (fun a k hak => rfl) (hJ.mono (fun u hu hd ho => by
            rcases hd with q | q
            · exact q
            · have z := rmS_held (S := (fun f => A (8 + f) 0)) (f := f) hS0 ho.1 11 (by omega) (by omega)
              rw [← rmS_lo q] at z
              exact absurd ho.2 (by omega)))⟩
      · obtain ⟨b, q1, q2, q3, q4⟩ := hx.resolve_left h12
        refine WP_n 2 rfl ?_
        refine WP2_getf rfl rfl rfl rfl rfl ?_
        refine WP_icmple rfl rfl ⟨by omega, by omega⟩ ⟨by omega, by omega⟩ (fun h16 => ?_) (fun h16 => ?_)
        · refine WP_n 4 rfl ?_
          refine WP_icmpge rfl rfl ⟨by omega, by omega⟩ ⟨by omega, by omega⟩ (fun h23 => absurd h23 (by omega)) (fun h23 => ?_)
          refine WP_n 1 rfl ?_
          refine WP_ifne rfl rfl ⟨by decide, by decide⟩  (fun h25 => absurd h25 (by decide)) (fun h25 => ?_)
          refine WP_n 2 rfl ?_
          refine WP2_getf rfl rfl rfl rfl rfl ?_
          refine WP_n 1 rfl ?_
          refine WP2_iald (j := f) rfl rfl (ia_lit (n := 12) rfl rfl (by omega)) (by omega) (by omega) (by omega) ?_
          refine WP_n 2 rfl ?_
          refine WP2_getf rfl rfl rfl rfl rfl ?_
          refine WP_icmpge rfl rfl ⟨by omega, by omega⟩ ⟨by omega, by omega⟩ (fun h34 => ?_) (fun h34 => ?_)
          · refine WP_n 1 rfl ?_
            refine WP2_getf rfl rfl rfl rfl rfl ?_
            refine WP_n 1 rfl ?_
            refine WP2_callN 2 ok_M_F_holds rfl rfl rfl rfl rfl rfl rfl (Nat.le_of_ble_eq_true rfl) (Nat.le_of_ble_eq_true rfl) ?_
            rw [hf2]
            refine sp_holds (by omega) (by omega) (fun hB => ?_) (fun hB => ?_)
            · refine WP_ifeq rfl rfl ⟨by decide, by decide⟩  (fun h40 => absurd h40 (by decide)) (fun h40 => ?_)
              refine WP_n 1 rfl ?_
              refine WP2_getf rfl rfl rfl rfl rfl ?_
              refine WP2_getf rfl rfl rfl rfl rfl ?_
              refine WP_n 1 rfl ?_
              refine WP2_aald (b := 8) (j := f) (n := 11) rfl rfl rfl rfl rfl (by omega) (by omega) ?_
              refine WP_n 9 rfl ?_
              refine WP_n 1 rfl ?_
              rw [or_pow hs (by omega)]
              refine WP_n 3 rfl ?_
              refine WP2_iald (j := 0) rfl rfl (ia_fl (by omega)) (by omega) (by omega) (by omega) ?_
              refine WP_n 4 rfl ?_
              refine WP2_iald (j := 0) rfl rfl (ia_fl (by omega)) (by omega) (by omega) (by omega) ?_
              refine WP_n 2 rfl ?_
              refine WP2_iald (j := 2) rfl rfl (ia_fl (by omega)) (by omega) (by omega) (by omega) ?_
              refine WP_n 2 rfl ?_
              refine WP2_callV 4 ok_M_L_addFrom rfl rfl rfl rfl rfl rfl (Nat.le_of_ble_eq_true rfl) (Nat.le_of_ble_eq_true rfl) rfl rfl ?_
              refine ih (f + 1) (by omega) _ (s + 2 ^ f) _ _ D _ (by omega) (by
                show _ = rmS (fun f => A (8 + f) 0) (s + 2 ^ f) f + (if _ then _ else _)
                rw [tb_hi hs, if_pos rfl, ← rmS_lo (S := (fun f => A (8 + f) 0)) (s := s + 2 ^ f) (t := s) (f := f) (by rw [Nat.add_mod_right, Nat.mod_eq_of_lt hs]), ← hse]) (by
                show _ = rmS (fun f => A (8 + f) 0 * A (8 + f) 2) (s + 2 ^ f) f + (if _ then _ else _)
                rw [tb_hi hs, if_pos rfl, ← rmS_lo (S := (fun f => A (8 + f) 0 * A (8 + f) 2)) (s := s + 2 ^ f) (t := s) (f := f) (by rw [Nat.add_mod_right, Nat.mod_eq_of_lt hs]), ← hpr]) (fun g hg hb => by
                by_cases q : g = f
                · rw [q]; exact hB
                · rw [tb_lo hs (by omega)] at hb
                  exact hheld g (by omega) hb) hf2 hf3 hJ (fun FI1 ho1 hJ1 => ?_)
              have h21 : FI1 162 2 = (hset : Int) := (ho1 162 2 (by omega)).trans hf2
              have h31 : FI1 162 3 = need := (ho1 162 3 (by omega)).trans hf3
              refine WP_n 7 rfl ?_
              refine WP2_callV 4 ok_M_L_addFrom rfl rfl rfl rfl rfl rfl (Nat.le_of_ble_eq_true rfl) (Nat.le_of_ble_eq_true rfl) rfl rfl ?_
              refine ih (f + 1) (by omega) _ s _ _ (fun u => D u ∨ u % 2 ^ (f + 1) = s + 2 ^ f) _ (by omega) (by
                show _ = rmS (fun f => A (8 + f) 0) s f + (if _ then _ else _)
                rw [tb_lt hs (by omega), ← hse]
                simp) (by
                show _ = rmS (fun f => A (8 + f) 0 * A (8 + f) 2) s f + (if _ then _ else _)
                rw [tb_lt hs (by omega), ← hpr]
                simp) (fun g hg hb => by
                by_cases q : g = f
                · rw [q, tb_lt hs (by omega)] at hb
                  exact absurd hb (by decide)
                · exact hheld g (by omega) hb) h21 h31 hJ1 (fun FI2 ho2 hJ2 => ?_)
              refine WP_vret rfl rfl rfl ⟨_, rfl, ?_⟩
              refine hq _ (fun a k hak => (ho2 a k hak).trans (ho1 a k hak)) (hJ2.mono (fun u hu hd ho => ?_))
              rcases hd with q | q
              · exact Or.inl (Or.inl q)
              · rcases ext_split q with z | z
                · exact Or.inr z
                · exact Or.inl (Or.inr z)
            · refine WP_ifeq rfl rfl ⟨by decide, by decide⟩  (fun h40 => ?_) (fun h40 => absurd (by decide) h40)
              refine WP_n 7 rfl ?_
              refine WP2_callV 4 ok_M_L_addFrom rfl rfl rfl rfl rfl rfl (Nat.le_of_ble_eq_true rfl) (Nat.le_of_ble_eq_true rfl) rfl rfl ?_
              refine ih (f + 1) (by omega) _ s _ _ D _ (by omega) (by
                show _ = rmS (fun f => A (8 + f) 0) s f + (if _ then _ else _)
                rw [tb_lt hs (by omega), ← hse]
                simp) (by
                show _ = rmS (fun f => A (8 + f) 0 * A (8 + f) 2) s f + (if _ then _ else _)
                rw [tb_lt hs (by omega), ← hpr]
                simp) (fun g hg hb => by
                by_cases q : g = f
                · rw [q, tb_lt hs (by omega)] at hb
                  exact absurd hb (by decide)
                · exact hheld g (by omega) hb) hf2 hf3 hJ (fun FI2 ho2 hJ2 => ?_)
              refine WP_vret rfl rfl rfl ⟨_, rfl, ?_⟩
              refine hq _ ho2 (hJ2.mono (fun u hu hd ho => ?_))
              rcases hd with q | q
              · exact Or.inl q
              · rcases ext_split q with z | z
                · exact Or.inr z
                · have w := ho.1 f (by omega) (by rw [← tb_mod (f := f + 1) (by omega), z]; exact tb_hi hs)
                  rw [hB] at w
                  exact absurd w (by decide)
          · exact WP_vret rfl rfl rfl ⟨_, rfl, hq _ (fun a k hak => rfl) (hJ.mono (fun u hu hd ho => by
              rcases hd with q | q
              · exact q
              · have z := rmS_held (S := (fun f => A (8 + f) 0)) (f := f) hS0 ho.1 11 (by omega) (by omega)
                rw [← rmS_lo q] at z
                exact absurd ho.2 (by omega)))⟩
        · refine WP_n 5 rfl ?_
          refine WP_icmpge rfl rfl ⟨by omega, by omega⟩ ⟨by omega, by omega⟩ (fun h23 => absurd h23 (by omega)) (fun h23 => ?_)
          refine WP_n 1 rfl ?_
          refine WP_ifne rfl rfl ⟨by decide, by decide⟩  (fun h25 => ?_) (fun h25 => absurd (by decide) h25)
          exact WP_vret rfl rfl rfl ⟨_, rfl, hq _ (fun a k hak => rfl) (hJ.dear h12 (fun u _ hu => by have := hext u hu; omega))⟩
    · refine WP_n 3 rfl ?_
      refine WP2_callV 2 ok_M_L_keepIfBetter rfl rfl rfl rfl rfl rfl (Nat.le_of_ble_eq_true rfl) (Nat.le_of_ble_eq_true rfl) rfl rfl ?_
      refine sp_keep (C := (fun f => A (8 + f) 0 * A (8 + f) 2)) (by omega) (by omega) (by omega) hx (fun hB => ?_) (fun hB => ?_)
      · refine WP_vret rfl rfl rfl ⟨_, rfl, ?_⟩
        refine hq _ (fun a k hak => ?_) ?_
        · rw [up2_ne (by omega), up2_ne (by omega)]
        · rw [up2_ne (by omega), up2_same, up2_same, hpr, ← c11]
          refine hJ.put (by omega) ⟨fun g hg hb => ?_, by omega⟩ hB hleK
          by_cases q : g < f
          · exact hheld g q hb
          · rw [tb_lt hs (by omega)] at hb
            exact absurd hb (by decide)
      · refine WP_vret rfl rfl rfl ⟨_, rfl, ?_⟩
        exact hq _ (fun a k hak => rfl) (hJ.stay hB hleK)
theorem sp_L_search {P : PP} {d n c : Nat} {FI A L : Nat → Nat → Int} {X : SX} {Q : Option AV → S2 → Prop} (hI : cI n FI A) (hc : FI 6 8 = (c : Int)) {q9 : Nat} (hq9 : q9 < 20) (hq : ∀ (hset : Nat) (FI' A' : Nat → Nat → Int), hset < 2048 → (∀ f, f < 11 → (hset.testBit f = true ↔ (q9 : Int) ≤ A (8 + f) 3)) → SAME FI A FI' A' → JK (fun f => A (8 + f) 0) (fun f => A (8 + f) 0 * A (8 + f) 2) hset (sumN (fun t => fore (A (122 + t)) (A (20 + t) 0) (q9 + 1)) c) (-9) (FI' 162 4) (FI' 162 5) (fun _ => True) → Q none (FI', A', L, X)) : WP2 P M_L_search (d + 15) 0 [some (vr 162), some (vi (q9 : Int)), none] [] (FI, A, L, X) Q := by
  have hcc := hI.1
  have hnb : 0 ≤ sumN (fun t => fore (A (122 + t)) (A (20 + t) 0) (q9 + 1)) c ∧ sumN (fun t => fore (A (122 + t)) (A (20 + t) 0) (q9 + 1)) c ≤ 4000 := by
    have := sumN_bd (f := (fun t => fore (A (122 + t)) (A (20 + t) 0) (q9 + 1))) (lo := 0) (hi := 200) c (fun t ht => by
      have q := hI.2.2.2.1 t (by omega)
      unfold cTm at q
      exact fore_bd (by omega) _ (fun j hj => by
        have r := hI.2.2.2.2.2.1 t j (by omega) (by omega)
        unfold cPp at r
        omega))
    omega
  refine WP_n 2 rfl ?_
  refine WP2_putk (k := 4) rfl rfl rfl rfl rfl rfl (by exact trivial) ?_
  refine WP_n 2 rfl ?_
  refine WP2_putk (k := 5) rfl rfl rfl rfl rfl rfl (by exact trivial) ?_
  refine WP_n 3 rfl ?_
  refine WP2_callV 1 ok_M_L_seatsNeeded rfl rfl rfl rfl rfl rfl (Nat.le_of_ble_eq_true rfl) (Nat.le_of_ble_eq_true rfl) rfl rfl ?_
  have s1 : SAME FI A (up2 (up2 FI 162 4 (-9)) 162 5 (-9)) A := ((SAME.refl FI A).upF (by omega)).upF (by omega)
  have hI1 := hI.off s1
  refine sp_seatsNeeded hI1 (s1.1.1.trans hc) hq9 ?_
  refine WP2_putk (k := 3) rfl rfl rfl rfl rfl rfl (by exact trivial) ?_
  refine WP_n 3 rfl ?_
  refine WP2_callV 1 ok_M_L_heldFloors rfl rfl rfl rfl rfl rfl (Nat.le_of_ble_eq_true rfl) (Nat.le_of_ble_eq_true rfl) rfl rfl ?_
  have s2 := s1.upF (a := 162) (j := 3) (x := sumN (fun t => fore (A (122 + t)) (A (20 + t) 0) (q9 + 1)) c) (by omega)
  refine sp_heldFloors (hI.off s2) hq9 (fun hset hh htb => ?_)
  have s3 := s2.upF (a := 162) (j := 2) (x := (hset : Int)) (by omega)
  refine WP2_putk (k := 2) rfl rfl rfl rfl rfl rfl (by exact trivial) ?_
  refine WP_n 2 rfl ?_
  obtain ⟨FI3, hFI3⟩ : ∃ F, F = up2 (up2 (up2 (up2 FI 162 4 (-9)) 162 5 (-9)) 162 3 (sumN (fun t => fore (A (122 + t)) (A (20 + t) 0) (q9 + 1)) c)) 162 2 (hset : Int) := ⟨_, rfl⟩
  rw [← hFI3] at s3
  have f2 : FI3 162 2 = (hset : Int) := by rw [hFI3]; exact up2_same
  have f3 : FI3 162 3 = sumN (fun t => fore (A (122 + t)) (A (20 + t) 0) (q9 + 1)) c := by rw [hFI3, up2_ne (by omega)]; exact up2_same
  have f5 : FI3 162 5 = -9 := by rw [hFI3, up2_ne (by omega), up2_ne (by omega)]; exact up2_same
  have f4 : FI3 162 4 = -9 := by rw [hFI3, up2_ne (by omega), up2_ne (by omega), up2_ne (by omega)]; exact up2_same
  suffices hw : ∀ k : Nat, k ≤ 11 → ∀ A' : Nat → Nat → Int, SAME FI A FI3 A' → (∀ g, k ≤ g → g ≤ 11 → A' 163 g = rmS (fun f => A (8 + f) 0) hset 11 - rmS (fun f => A (8 + f) 0) hset g) → WP2 P M_L_search (d + 15) 18 [some (vr 162), some (vi (q9 : Int)), some (vi ((k : Int) - 1))] [] (FI3, A', L, X) Q by
    have z := hw 11 (by omega) A s3 (fun g h1 h2 => by
      rw [show g = 11 by omega, ((hI.2.2.2.2.2.2 0 (by omega)).2)]
      omega)
    rw [hFI3] at z
    exact z
  intro k
  induction k with
  | zero =>
    intro _ A' hs hg
    have eA : ∀ f, f < 11 → A' (8 + f) 0 = A (8 + f) 0 ∧ A' (8 + f) 2 = A (8 + f) 2 := fun f hf => ⟨hs.2.2 _ _ (by omega), hs.2.2 _ _ (by omega)⟩
    have eS : ∀ s k, k ≤ 11 → rmS (fun f => A' (8 + f) 0) s k = rmS (fun f => A (8 + f) 0) s k := fun s k hk => sumN_congr k (fun f hf => by dsimp only; rw [(eA f (by omega)).1])
    have eC : ∀ s k, k ≤ 11 → rmS (fun f => A' (8 + f) 0 * A' (8 + f) 2) s k = rmS (fun f => A (8 + f) 0 * A (8 + f) 2) s k := fun s k hk => sumN_congr k (fun f hf => by dsimp only; rw [(eA f (by omega)).1, (eA f (by omega)).2])
    refine WP_n 1 rfl ?_
    refine WP_iflt rfl rfl ⟨by omega, by omega⟩ (fun h19 => ?_) (fun h19 => absurd h19 (by omega))
    refine WP_n 5 rfl ?_
    refine WP2_callV 4 ok_M_L_addFrom rfl rfl rfl rfl rfl rfl (Nat.le_of_ble_eq_true rfl) (Nat.le_of_ble_eq_true rfl) rfl rfl ?_
    refine sp_addFrom (d := d) (hset := hset) (need := sumN (fun t => fore (A (122 + t)) (A (20 + t) 0) (q9 + 1)) c) (Q := Q) (fun g hg' => by rw [hg g (by omega) hg', eS _ _ (by omega), eS _ _ hg']) hh hnb (fun f hf => by
        have r := hI.2.2.1 f hf
        unfold cFl at r
        rw [(eA f hf).1, (eA f hf).2]
        omega) 11 0 rfl FI3 0 0 0 (fun _ => False) _ (by omega) rfl rfl (fun g hg => absurd hg (by omega)) f2 f3 (Or.inl ⟨f4, f5, fun s _ h => absurd h (fun q => q)⟩) (fun FI4 ho hJ => ?_)
    have s4 : SAME FI A FI4 A' := hs.trans ⟨⟨ho _ _ (by omega), ho _ _ (by omega), ho _ _ (by omega), ho _ _ (by omega)⟩, rfl, fun _ _ _ => rfl⟩
    refine WP_vret rfl rfl rfl ⟨_, rfl, ?_⟩
    refine hq hset FI4 A' hh htb s4 ?_
    have eo : ∀ u, okF (fun f => A' (8 + f) 0) hset (sumN (fun t => fore (A (122 + t)) (A (20 + t) 0) (q9 + 1)) c) u ↔ okF (fun f => A (8 + f) 0) hset (sumN (fun t => fore (A (122 + t)) (A (20 + t) 0) (q9 + 1)) c) u := fun u => by unfold okF; rw [eS _ _ (by omega)]
    rcases hJ with ⟨q1, q2, q3⟩ | ⟨b, q1, q2, q3, q4, q5⟩
    · exact Or.inl ⟨q1, q2, fun s hs9 _ ho9 => q3 s hs9 (Or.inr (by omega)) ((eo s).mpr ho9)⟩
    · refine Or.inr ⟨b, q1, q2, (eo b).mp q3, by rw [q4, eC _ _ (by omega)], fun s hs9 _ ho9 => ?_⟩
      have z := q5 s hs9 (Or.inr (by omega)) ((eo s).mpr ho9)
      unfold leK at z ⊢
      rw [eC _ _ (by omega), eC _ _ (by omega)] at z
      exact z
  | succ k ih =>
    intro hk A' hs hg
    rw [show ((k + 1 : Nat) : Int) - 1 = (k : Int) by omega]
    have e8 : A' (8 + k) 0 = A (8 + k) 0 := hs.2.2 _ _ (by omega)
    have hgk := hg (k + 1) (by omega) (by omega)
    refine WP_n 1 rfl ?_
    refine WP_iflt rfl rfl ⟨by omega, by omega⟩ (fun h19 => absurd h19 (by omega)) (fun h19 => ?_)
    refine WP_n 1 rfl ?_
    refine WP2_getf rfl rfl rfl rfl rfl ?_
    refine WP_n 2 rfl ?_
    refine WP2_getf rfl rfl rfl rfl rfl ?_
    refine WP_n 3 rfl ?_
    refine WP2_iald (j := (k + 1)) rfl rfl (ia_lit (n := 12) rfl rfl (by omega)) (by omega) (by omega) (by omega) ?_
    refine WP_n 1 rfl ?_
    refine WP2_getf rfl rfl rfl rfl rfl ?_
    refine WP_n 1 rfl ?_
    refine WP2_callN 2 ok_M_F_holds rfl rfl rfl rfl rfl rfl rfl (Nat.le_of_ble_eq_true rfl) (Nat.le_of_ble_eq_true rfl) ?_
    rw [f2]
    refine sp_holds (by omega) (by omega) (fun hB => ?_) (fun hB => ?_)
    · refine WP_ifeq rfl rfl ⟨by decide, by decide⟩  (fun h33 => absurd h33 (by decide)) (fun h33 => ?_)
      refine WP_n 1 rfl ?_
      refine WP2_getf rfl rfl rfl rfl rfl ?_
      refine WP2_getf rfl rfl rfl rfl rfl ?_
      refine WP_n 1 rfl ?_
      refine WP2_aald (b := 8) (j := k) (n := 11) rfl rfl rfl rfl rfl (by omega) (by omega) ?_
      refine WP_n 1 rfl ?_
      refine WP2_iald (j := 0) rfl rfl (ia_fl (by omega)) (by omega) (by omega) (by omega) ?_
      refine WP_n 2 rfl ?_
      refine WP2_iast (j := k) rfl rfl (ia_lit (n := 12) rfl rfl (by omega)) (by omega) (by omega) (by omega) ?_
      refine WP_n 2 rfl ?_
      refine ih (by omega) _ (hs.up163 (by omega)) (fun g h1 h2 => ?_)
      by_cases e : g = k
      · rw [e, up2_same, hgk, e8]
        show _ = rmS (fun f => A (8 + f) 0) hset 11 - rmS (fun f => A (8 + f) 0) hset k
        have : rmS (fun f => A (8 + f) 0) hset (k + 1) = rmS (fun f => A (8 + f) 0) hset k + A (8 + k) 0 := by
          show rmS (fun f => A (8 + f) 0) hset k + (if _ then _ else _) = _
          rw [if_pos hB]
        omega
      · rw [up2_ne (by omega)]
        exact hg g (by omega) h2
    · refine WP_ifeq rfl rfl ⟨by decide, by decide⟩  (fun h33 => ?_) (fun h33 => absurd (by decide) h33)
      refine WP_n 2 rfl ?_
      refine WP2_iast (j := k) rfl rfl (ia_lit (n := 12) rfl rfl (by omega)) (by omega) (by omega) (by omega) ?_
      refine WP_n 2 rfl ?_
      refine ih (by omega) _ (hs.up163 (by omega)) (fun g h1 h2 => ?_)
      by_cases e : g = k
      · rw [e, up2_same, hgk]
        have : rmS (fun f => A (8 + f) 0) hset (k + 1) = rmS (fun f => A (8 + f) 0) hset k := by
          show rmS (fun f => A (8 + f) 0) hset k + (if _ then _ else _) = _
          rw [hB]
          simp
        show _ - _ + 0 = _
        omega
      · rw [up2_ne (by omega)]
        exact hg g (by omega) h2
theorem sp_F_kept {P : PP} {d n c : Nat} {FI A L : Nat → Nat → Int} {X : SX} {Q : Option AV → S2 → Prop} (hI : cI n FI A) (hc : FI 6 8 = (c : Int)) {q w : Int} (hq0 : inR q) (hw : inR w) (r1 : (q < 0 ∨ 20 ≤ q) → Q (some (vi (-1))) (FI, rfC A 1, L, X)) (r2 : (0 ≤ q ∧ q < 20 ∧ (w < 0 ∨ 1 < w)) → Q (some (vi (-2))) (FI, rfC A 2, L, X)) (ok : ∀ (q9 hset : Nat) (FI' A' : Nat → Nat → Int), q = (q9 : Int) ∧ q9 < 20 ∧ 0 ≤ w ∧ w ≤ 1 → hset < 2048 → (∀ f, f < 11 → (hset.testBit f = true ↔ (q9 : Int) ≤ A (8 + f) 3)) → SAME FI A FI' A' → JK (fun f => A (8 + f) 0) (fun f => A (8 + f) 0 * A (8 + f) 2) hset (sumN (fun t => fore (A (122 + t)) (A (20 + t) 0) (q9 + 1)) c) (-9) (FI' 162 4) (FI' 162 5) (fun _ => True) → Q (some (vi (if w = 0 then FI' 162 4 else FI' 162 5))) (FI', A', L, X)) : WP2 P M_F_kept (d + 16) 0 [some (vr 5), some (vi q), some (vi w)] [] (FI, A, L, X) Q := by
  obtain ⟨lw, uw⟩ := id hw
  refine WP_n 1 rfl ?_
  refine WP2_callS 1 ok_M_F_noQuarter rfl rfl rfl rfl rfl rfl rfl (Nat.le_of_ble_eq_true rfl) (Nat.le_of_ble_eq_true rfl) ?_
  refine sp_noQuarter hq0 (fun hQ => ?_) (fun hQ hQb => ?_)
  · refine WP_ifeq rfl rfl ⟨by decide, by decide⟩  (fun h2 => absurd h2 (by decide)) (fun h2 => ?_)
    refine WP_n 2 rfl ?_
    refine WP2_callV 1 ok_M_F_refuse rfl rfl rfl rfl rfl rfl (Nat.le_of_ble_eq_true rfl) (Nat.le_of_ble_eq_true rfl) rfl rfl ?_
    refine sp_refuse (k := 1) rfl (by omega) ?_
    exact WP_iret rfl rfl rfl ⟨_, rfl, r1 (by omega)⟩
  · refine WP_ifeq rfl rfl ⟨by decide, by decide⟩  (fun h2 => ?_) (fun h2 => absurd (by decide) h2)
    refine WP_n 1 rfl ?_
    refine WP_iflt rfl rfl ⟨by omega, by omega⟩ (fun h8 => ?_) (fun h8 => ?_)
    · refine WP_n 2 rfl ?_
      refine WP2_callV 1 ok_M_F_refuse rfl rfl rfl rfl rfl rfl (Nat.le_of_ble_eq_true rfl) (Nat.le_of_ble_eq_true rfl) rfl rfl ?_
      refine sp_refuse (k := 2) rfl (by omega) ?_
      exact WP_iret rfl rfl rfl ⟨_, rfl, r2 (by omega)⟩
    · refine WP_n 2 rfl ?_
      refine WP_icmple rfl rfl ⟨by omega, by omega⟩ ⟨by omega, by omega⟩ (fun h11 => ?_) (fun h11 => ?_)
      · obtain ⟨q9, rfl⟩ : ∃ q9 : Nat, q = (q9 : Int) := ⟨q.toNat, by omega⟩
        have ok := fun hset FI1 A1 => ok q9 hset FI1 A1 (by omega)
        refine WP_n 1 rfl ?_
        refine WP2_getf rfl rfl rfl rfl rfl ?_
        refine WP_n 1 rfl ?_
        refine WP2_callV 1 ok_M_L_search rfl rfl rfl rfl rfl rfl (Nat.le_of_ble_eq_true rfl) (Nat.le_of_ble_eq_true rfl) rfl rfl ?_
        refine sp_L_search hI hc (q9 := q9) (by omega) (fun hset FI1 A1 hh htb hs hJ => ?_)
        refine WP_n 1 rfl ?_
        refine WP_ifne rfl rfl ⟨by omega, by omega⟩ (fun h21 => ?_) (fun h21 => ?_)
        · refine WP_n 1 rfl ?_
          refine WP2_getf rfl rfl rfl rfl rfl ?_
          refine WP2_getf rfl rfl rfl rfl rfl ?_
          exact WP_iret rfl rfl rfl ⟨_, rfl, (by have z := ok hset FI1 A1 hh htb hs hJ; rw [if_neg h21] at z; exact z)⟩
        · refine WP_n 1 rfl ?_
          refine WP2_getf rfl rfl rfl rfl rfl ?_
          refine WP2_getf rfl rfl rfl rfl rfl ?_
          refine WP_n 1 rfl ?_
          exact WP_iret rfl rfl rfl ⟨_, rfl, (by have z := ok hset FI1 A1 hh htb hs hJ; rw [if_pos (by omega)] at z; exact z)⟩
      · refine WP_n 2 rfl ?_
        refine WP2_callV 1 ok_M_F_refuse rfl rfl rfl rfl rfl rfl (Nat.le_of_ble_eq_true rfl) (Nat.le_of_ble_eq_true rfl) rfl rfl ?_
        refine sp_refuse (k := 2) rfl (by omega) ?_
        exact WP_iret rfl rfl rfl ⟨_, rfl, r2 (by omega)⟩

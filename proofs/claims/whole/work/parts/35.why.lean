/-! sets as rows; why a seating is refused -/
theorem pcR_t {s t : Nat} (h : s.testBit t = true) : pcR s (t + 1) = pcR s t + 1 := by
  show pcR s t + bitN s t = _
  rw [bitN_1 h]
theorem pcR_f {s t : Nat} (h : s.testBit t = false) : pcR s (t + 1) = pcR s t := by
  show pcR s t + bitN s t = _
  rw [bitN_0 h]
  rfl
theorem pcR_mono {s : Nat} : ∀ {a b : Nat}, a ≤ b → pcR s a ≤ pcR s b := by
  intro a b hab
  induction b with
  | zero => rw [show a = 0 by omega]; exact Nat.le_refl _
  | succ b ih =>
    by_cases e : a = b + 1
    · rw [e]; exact Nat.le_refl _
    · have := ih (by omega)
      show _ ≤ pcR s b + _
      omega
theorem pcR_lt {s a b : Nat} (h : s.testBit a = true) (hab : a < b) : pcR s a < pcR s b := by
  have h1 := pcR_t h
  have h2 := pcR_mono (s := s) (show a + 1 ≤ b by omega)
  omega
theorem pcR_inj {s a b : Nat} (ha : s.testBit a = true) (hb : s.testBit b = true) (h : pcR s a = pcR s b) : a = b := by
  rcases Nat.lt_trichotomy a b with q | q | q
  · have := pcR_lt ha q; omega
  · exact q
  · have := pcR_lt hb q; omega
theorem cnt_pcR (s : Nat) : cnt s = (pcR s 16 : Int) := pcR_sum s 16
def nthR (s i : Nat) : Nat → Nat
  | 0 => 0
  | k + 1 => if s.testBit k = true ∧ pcR s k = i then k else nthR s i k
abbrev nth (s i : Nat) : Nat := nthR s i 16
theorem nth_ix {s t : Nat} (ht : t < 16) (h : s.testBit t = true) : nth s (pcR s t) = t := by
  have : ∀ k, t < k → nthR s (pcR s t) k = t := by
    intro k
    induction k with
    | zero => intro q; omega
    | succ k ih =>
      intro q
      by_cases e : s.testBit k = true ∧ pcR s k = pcR s t
      · rw [show nthR s (pcR s t) (k + 1) = k from if_pos e]
        exact pcR_inj e.1 h e.2
      · rw [show nthR s (pcR s t) (k + 1) = nthR s (pcR s t) k from if_neg e]
        refine ih ?_
        by_cases z : t = k
        · exact absurd ⟨z ▸ h, by rw [z]⟩ e
        · omega
  exact this 16 ht
theorem nth_ok {s i : Nat} (hi : i < pcR s 16) : s.testBit (nth s i) = true ∧ pcR s (nth s i) = i ∧ nth s i < 16 := by
  have : ∀ k, i < pcR s k → ∃ t, t < k ∧ s.testBit t = true ∧ pcR s t = i := by
    intro k
    induction k with
    | zero => intro q; exact absurd q (by show ¬ i < 0; omega)
    | succ k ih =>
      intro q
      by_cases z : i < pcR s k
      · obtain ⟨t, h1, h2⟩ := ih z
        exact ⟨t, by omega, h2⟩
      · cases hb : s.testBit k
        · rw [pcR_f hb] at q
          omega
        · rw [pcR_t hb] at q
          exact ⟨k, by omega, hb, by omega⟩
  obtain ⟨t, h1, h2, h3⟩ := this 16 hi
  rw [← h3, nth_ix h1 h2]
  exact ⟨h2, rfl, h1⟩
theorem nth_inj {s i j : Nat} (hi : i < pcR s 16) (hj : j < pcR s 16) (h : nth s i = nth s j) : i = j := by
  have a := (nth_ok hi).2.1
  have b := (nth_ok hj).2.1
  rw [h] at a
  omega
theorem tb_lt16 {s t c : Nat} (hs : s < 2 ^ c) (h : s.testBit t = true) : t < c := by
  rcases Nat.lt_or_ge t c with q | q
  · exact q
  · rw [tb_lt hs q] at h
    exact absurd h (by decide)
def whyS (fx : Nat → Int) (c : Nat) (fl ts w r : Int) : Prop :=
  (r = -1 ∧ ¬ (1 ≤ fl ∧ fl < 2048 ∧ 1 ≤ ts ∧ ts < (2 ^ c : Nat))) ∨ ∃ f9 t9 : Nat, (fl = (f9 : Int) ∧ ts = (t9 : Int) ∧ 1 ≤ f9 ∧ f9 < 2048 ∧ 1 ≤ t9 ∧ t9 < 2 ^ c) ∧ ((r = -2 ∧ (w < 0 ∨ 1 < w)) ∨ ((0 ≤ w ∧ w ≤ 1) ∧ ((r = -3 ∧ ∃ t, t < c ∧ t9.testBit t = true ∧ fx t = 1) ∨ ((∀ t, t < c → t9.testBit t = true → fx t = 0) ∧ ((r = -6 ∧ (4 < cnt f9 ∨ 7 < cnt t9)) ∨ (r = 0 ∧ cnt f9 ≤ 4 ∧ cnt t9 ≤ 7))))))
theorem whyS_uniq {fx fx' : Nat → Int} {c : Nat} {fl ts w r r' : Int} (e : ∀ t, t < c → fx' t = fx t) (h : whyS fx c fl ts w r) (h' : whyS fx' c fl ts w r') : r' = r := by
  rcases h with ⟨h1, h2⟩ | ⟨f9, t9, h1, h2⟩ <;> rcases h' with ⟨k1, k2⟩ | ⟨f8, t8, k1, k2⟩
  · omega
  · exact absurd ⟨by omega, by omega, by omega, by omega⟩ h2
  · exact absurd ⟨by omega, by omega, by omega, by omega⟩ k2
  · obtain rfl : f9 = f8 := by omega
    obtain rfl : t9 = t8 := by omega
    rcases h2 with h2 | ⟨h2, h3⟩ <;> rcases k2 with k2 | ⟨k2, k3⟩
    · omega
    · omega
    · omega
    · rcases h3 with ⟨h3, t, a1, a2, a3⟩ | ⟨h3, h4⟩ <;> rcases k3 with ⟨k3, u, b1, b2, b3⟩ | ⟨k3, k4⟩
      · omega
      · have := k3 t a1 a2
        have := e t a1
        omega
      · have := h3 u b1 b2
        have := e u b1
        omega
      · omega
theorem sp_list {P : PP} {d : Nat} {FI A L : Nat → Nat → Int} {X : SX} {Q : Option AV → S2 → Prop} {s : Nat} (hs : s < 65536) {B len : Nat} (hB : isIA P X B len) (hB5 : 5 ≤ B) (hl : len ≤ 1000) (hc : pcR s 16 ≤ len) (hq : ∀ A' : Nat → Nat → Int, (∀ a j, a ≠ B → A' a j = A a j) → (∀ i, i < pcR s 16 → A' B i = (nth s i : Int)) → Q (some (vi (pcR s 16 : Int))) (FI, A', L, X)) : WP2 P M_F_list (d + 1) 0 [some (vi (s : Int)), some (vr B), none, none] [] (FI, A, L, X) Q := by
  refine WP_n 4 rfl ?_
  suffices hh : ∀ t, t ≤ 16 → ∀ A' : Nat → Nat → Int, (∀ a j, a ≠ B → A' a j = A a j) → (∀ i, i < pcR s t → A' B i = (nth s i : Int)) → WP2 P M_F_list (d + 1) 4 [some (vi (s : Int)), some (vr B), some (vi (pcR s t : Int)), some (vi (t : Int))] [] (FI, A', L, X) Q from hh 0 (by omega) A (fun _ _ _ => rfl) (fun i hi => absurd hi (by show ¬ i < 0; omega))
  refine up_to (P := fun t => ∀ A' : Nat → Nat → Int, (∀ a j, a ≠ B → A' a j = A a j) → (∀ i, i < pcR s t → A' B i = (nth s i : Int)) → WP2 P M_F_list (d + 1) 4 [some (vi (s : Int)), some (vr B), some (vi (pcR s t : Int)), some (vi (t : Int))] [] (FI, A', L, X) Q) 16 ?_ ?_
  · intro A' h1 h2
    refine WP_n 2 rfl ?_
    refine WP_icmpge rfl rfl ⟨by omega, by omega⟩ ⟨by omega, by omega⟩ (fun h6 => ?_) (fun h6 => absurd h6 (by omega))
    refine WP_n 1 rfl ?_
    exact WP_iret rfl rfl rfl ⟨_, rfl, hq A' h1 h2⟩
  · intro t ht ih A' h1 h2
    have hm := pcR_mono (s := s) (show t ≤ 16 by omega)
    refine WP_n 2 rfl ?_
    refine WP_icmpge rfl rfl ⟨by omega, by omega⟩ ⟨by omega, by omega⟩ (fun h6 => absurd h6 (by omega)) (fun h6 => ?_)
    refine WP_n 2 rfl ?_
    refine WP2_alen rfl rfl (hB) ?_
    refine WP_icmpge rfl rfl ⟨by omega, by omega⟩ ⟨by omega, by omega⟩ (fun h10 => ?_) (fun h10 => ?_)
    · refine WP_n 1 rfl ?_
      exact WP_iret rfl rfl rfl ⟨_, rfl, (by
        have e : pcR s 16 = pcR s t := by omega
        have z := hq A' h1 (fun i hi => h2 i (by omega))
        rw [e] at z
        exact z)⟩
    · refine WP_n 2 rfl ?_
      refine WP2_callS 2 ok_M_F_holds rfl rfl rfl rfl rfl rfl rfl (Nat.le_of_ble_eq_true rfl) (Nat.le_of_ble_eq_true rfl) ?_
      refine sp_holds (by omega) (by omega) (fun hb => ?_) (fun hb => ?_)
      · refine WP_ifeq rfl rfl ⟨by decide, by decide⟩  (fun h14 => absurd h14 (by decide)) (fun h14 => ?_)
        have hl2 := pcR_lt hb ht
        refine WP_n 3 rfl ?_
        refine WP2_iast (j := (pcR s t)) rfl rfl (hB) (by omega) (by omega) (by omega) ?_
        refine WP_n 3 rfl ?_
        refine (by
          have z := ih (up2 A' B (pcR s t) (t : Int)) (fun a j ha => by rw [up2_ne (by omega)]; exact h1 a j ha) (fun i hi => ?_)
          · rw [pcR_t hb] at z
            exact z
          · rw [pcR_t hb] at hi
            by_cases e : i = pcR s t
            · rw [e, up2_same, nth_ix ht hb]
            · rw [up2_ne (by omega)]
              exact h2 i (by omega))
      · refine WP_ifeq rfl rfl ⟨by decide, by decide⟩  (fun h14 => ?_) (fun h14 => absurd (by decide) h14)
        refine WP_n 2 rfl ?_
        have z := ih A' h1 (fun i hi => h2 i (by rw [pcR_f hb] at hi; exact hi))
        rw [pcR_f hb] at z
        exact z
theorem sp_fixedTeams {P : PP} {d n c : Nat} {FI A L : Nat → Nat → Int} {X : SX} {Q : Option AV → S2 → Prop} (hI : cI n FI A) (hc : FI 6 8 = (c : Int)) (hq : ∀ s : Nat, s < 2 ^ c → (∀ t, t < c → (s.testBit t = true ↔ A (20 + t) 5 = 1)) → Q (some (vi (s : Int))) (FI, A, L, X)) : WP2 P M_H_fixedTeams (d) 0 [some (vr 6), none, none] [] (FI, A, L, X) Q := by
  have hcc := hI.1
  refine WP_n 4 rfl ?_
  suffices hh : ∀ t, t ≤ c → ∀ s : Nat, s < 2 ^ t → (∀ u, u < t → (s.testBit u = true ↔ A (20 + u) 5 = 1)) → WP2 P M_H_fixedTeams d 4 [some (vr 6), some (vi (s : Int)), some (vi (t : Int))] [] (FI, A, L, X) Q from hh 0 (by omega) 0 (by omega) (fun g hg => absurd hg (by omega))
  refine up_to (P := fun t => ∀ s : Nat, s < 2 ^ t → (∀ u, u < t → (s.testBit u = true ↔ A (20 + u) 5 = 1)) → WP2 P M_H_fixedTeams d 4 [some (vr 6), some (vi (s : Int)), some (vi (t : Int))] [] (FI, A, L, X) Q) c ?_ ?_
  · intro s hs hb
    refine WP_n 2 rfl ?_
    refine WP2_getf rfl rfl rfl rfl rfl ?_
    refine WP_icmpge rfl rfl ⟨by omega, by omega⟩ ⟨by omega, by omega⟩ (fun h7 => ?_) (fun h7 => absurd h7 (by omega))
    refine WP_n 1 rfl ?_
    exact WP_iret rfl rfl rfl ⟨_, rfl, hq s hs hb⟩
  · intro t ht ih s hs hb
    have hq9 := hI.2.2.2.1 t (by omega)
    unfold cTm at hq9
    have hp : 2 ^ t ≤ 2 ^ 15 := Nat.pow_le_pow_right (by omega) (by omega)
    have hp2 := Nat.pow_succ 2 t
    refine WP_n 2 rfl ?_
    refine WP2_getf rfl rfl rfl rfl rfl ?_
    refine WP_icmpge rfl rfl ⟨by omega, by omega⟩ ⟨by omega, by omega⟩ (fun h7 => absurd h7 (by omega)) (fun h7 => ?_)
    refine WP_n 2 rfl ?_
    refine WP2_getf rfl rfl rfl rfl rfl ?_
    refine WP_n 1 rfl ?_
    refine WP2_aald (b := 20) (j := t) (n := 16) rfl rfl rfl rfl rfl (by omega) (by omega) ?_
    refine WP_n 1 rfl ?_
    refine WP2_iald (j := 5) rfl rfl (ia_tm (by omega)) (by omega) (by omega) (by omega) ?_
    refine WP_n 3 rfl ?_
    rcases (show A (20 + t) 5 = 0 ∨ A (20 + t) 5 = 1 by omega) with e | e
    · rw [e, show iShl 0 (t : Int) = 0 from (iShl_n (a := 0) (k := t) (by omega) (by omega)).trans (by rw [Nat.zero_mul]; rfl), or_zero' (by omega)]
      refine WP_n 3 rfl ?_
      exact ih s (by omega) (lt_s hb (by rw [tb_lt hs (by omega), e]; decide))
    · rw [e, or_pow hs (by omega)]
      refine WP_n 3 rfl ?_
      exact ih (s + 2 ^ t) (by omega) (lt_s (fun g hg => by rw [tb_lo hs hg]; exact hb g hg) (by rw [tb_hi hs, e]; decide))
theorem and_zero' {a b c : Nat} (ha : a < 2 ^ c) : a &&& b = 0 ↔ ∀ t, t < c → a.testBit t = true → ¬ b.testBit t = true := by
  constructor
  · intro h t ht h1 h2
    have := congrArg (fun x => x.testBit t) h
    simp only [Nat.testBit_and, h1, h2, Nat.zero_testBit] at this
    exact absurd this (by decide)
  · intro h
    apply Nat.eq_of_testBit_eq
    intro t
    rw [Nat.testBit_and, Nat.zero_testBit]
    by_cases q : t < c
    · cases h1 : a.testBit t
      · rfl
      · have := h t q h1
        cases h2 : b.testBit t
        · rfl
        · exact absurd h2 this
    · rw [tb_lt ha (by omega)]
      rfl
theorem sp_whyNoSeating {P : PP} {d n c : Nat} {FI A L : Nat → Nat → Int} {X : SX} {Q : Option AV → S2 → Prop} (hI : cI n FI A) (hc : FI 6 8 = (c : Int)) {fl ts w : Int} (hfl : inR fl) (hts : inR ts) (hw : inR w) (hq : ∀ r : Int, whyS (fun t => A (20 + t) 5) c fl ts w r → Q (some (vi r)) (FI, A, L, X)) : WP2 P M_F_whyNoSeating (d + 1) 0 [some (vr 5), some (vi fl), some (vi ts), some (vi w), none, none] [] (FI, A, L, X) Q := by
  have hcc := hI.1
  obtain ⟨lf, uf⟩ := id hfl
  obtain ⟨lt, ut⟩ := id hts
  obtain ⟨lw, uw⟩ := id hw
  have hp16 : 2 ^ c ≤ 2 ^ 16 := Nat.pow_le_pow_right (by omega) (by omega)
  have hp0 := Nat.two_pow_pos c
  have e1 : iShl 1 (c : Int) = ((2 ^ c : Nat) : Int) := by
    have := iShl_n (a := 1) (k := c) (by omega) (by omega)
    rw [Nat.one_mul] at this
    exact this
  have m1 := iMask (n := 11) (by omega) hfl
  have m2 := iMaskX (n := c) (by omega) hts
  rw [show (-(2 ^ 11 : Nat) : Int) = -2048 from rfl, show ((2 ^ 11 : Nat) : Int) = 2048 from rfl] at m1
  refine WP_n 2 rfl ?_
  refine WP2_getf rfl rfl rfl rfl rfl ?_
  refine WP2_getf rfl rfl rfl rfl rfl ?_
  rw [hc]
  refine WP_n 3 rfl ?_
  rw [e1]
  refine WP_n 2 rfl ?_
  refine WP_ifeq rfl rfl ⟨by omega, by omega⟩ (fun h9 => ?_) (fun h9 => ?_)
  · refine WP_n 1 rfl ?_
    exact WP_iret rfl rfl rfl ⟨_, rfl, hq _ (Or.inl ⟨rfl, fun q => by omega⟩)⟩
  · refine WP_n 3 rfl ?_
    refine WP_ifeq rfl rfl (iAnd_inR _ _) (fun h13 => ?_) (fun h13 => ?_)
    · refine WP_n 1 rfl ?_
      refine WP_ifeq rfl rfl ⟨by omega, by omega⟩ (fun h17 => ?_) (fun h17 => ?_)
      · refine WP_n 1 rfl ?_
        exact WP_iret rfl rfl rfl ⟨_, rfl, hq _ (Or.inl ⟨rfl, fun q => by omega⟩)⟩
      · refine WP_n 5 rfl ?_
        refine WP_ifeq rfl rfl (iAnd_inR _ _) (fun h23 => ?_) (fun h23 => ?_)
        · have n1 := m1.mp h13
          have n2 := m2.mp h23
          obtain ⟨f9, rfl⟩ : ∃ f9 : Nat, fl = (f9 : Int) := ⟨fl.toNat, by omega⟩
          obtain ⟨t9, rfl⟩ : ∃ t9 : Nat, ts = (t9 : Int) := ⟨ts.toNat, by omega⟩
          have hz : ∀ r : Int, _ → Q (some (vi r)) (FI, A, L, X) := fun r q => hq r (Or.inr ⟨f9, t9, ⟨rfl, rfl, by omega, by omega, by omega, by omega⟩, q⟩)
          have kf := cnt_bd f9
          have kt := cnt_bd t9
          refine WP_n 1 rfl ?_
          refine WP_iflt rfl rfl ⟨by omega, by omega⟩ (fun h27 => ?_) (fun h27 => ?_)
          · refine WP_n 1 rfl ?_
            exact WP_iret rfl rfl rfl ⟨_, rfl, hz _ (Or.inl ⟨rfl, by omega⟩)⟩
          · refine WP_n 2 rfl ?_
            refine WP_icmple rfl rfl ⟨by omega, by omega⟩ ⟨by omega, by omega⟩ (fun h30 => ?_) (fun h30 => ?_)
            · refine WP_n 2 rfl ?_
              refine WP2_getf rfl rfl rfl rfl rfl ?_
              refine WP2_callV 0 ok_M_H_fixedTeams rfl rfl rfl rfl rfl rfl (Nat.le_of_ble_eq_true rfl) (Nat.le_of_ble_eq_true rfl) rfl rfl ?_
              refine sp_fixedTeams hI hc (fun s hs hb => ?_)
              have az := and_zero' (a := t9) (b := s) (c := c) (by omega)
              have kk := @Nat.and_le_left t9 s
              refine WP_n 1 rfl ?_
              rw [iAnd_n (by omega)]
              have hfx : (t9 &&& s = 0) ↔ ∀ t, t < c → t9.testBit t = true → A (20 + t) 5 = 0 := by
                rw [az]
                constructor
                · intro q t ht h1
                  have hq9 := hI.2.2.2.1 t (by omega)
                  unfold cTm at hq9
                  have z := q t ht h1
                  rw [hb t ht] at z
                  omega
                · intro q t ht h1 h2
                  have z := q t ht h1
                  rw [hb t ht] at h2
                  omega
              by_cases hzero : t9 &&& s = 0
              · rw [hzero]
                refine WP_ifeq rfl rfl ⟨by decide, by decide⟩  (fun h38 => ?_) (fun h38 => absurd (by decide) h38)
                refine WP_n 1 rfl ?_
                refine WP2_callS 1 ok_J_bitCount rfl rfl rfl rfl rfl rfl rfl (Nat.le_of_ble_eq_true rfl) (Nat.le_of_ble_eq_true rfl) ?_
                refine sp_bitCount (by omega) ?_
                rw [show sumN (fun k => (bitN f9 k : Int)) 16 = cnt f9 from rfl]
                refine WP_n 1 rfl ?_
                refine WP_icmpgt rfl rfl ⟨by omega, by omega⟩ ⟨by omega, by omega⟩ (fun h44 => ?_) (fun h44 => ?_)
                · refine WP_n 4 rfl ?_
                  refine WP_ifeq rfl rfl ⟨by decide, by decide⟩  (fun h54 => absurd h54 (by decide)) (fun h54 => ?_)
                  refine WP_n 2 rfl ?_
                  exact WP_iret rfl rfl rfl ⟨_, rfl, hz _ (Or.inr ⟨by omega, Or.inr ⟨hfx.mp hzero, Or.inl ⟨rfl, by omega⟩⟩⟩)⟩
                · refine WP_n 1 rfl ?_
                  refine WP2_callS 1 ok_J_bitCount rfl rfl rfl rfl rfl rfl rfl (Nat.le_of_ble_eq_true rfl) (Nat.le_of_ble_eq_true rfl) ?_
                  refine sp_bitCount (by omega) ?_
                  rw [show sumN (fun k => (bitN t9 k : Int)) 16 = cnt t9 from rfl]
                  refine WP_n 1 rfl ?_
                  refine WP_icmple rfl rfl ⟨by omega, by omega⟩ ⟨by omega, by omega⟩ (fun h48 => ?_) (fun h48 => ?_)
                  · refine WP_n 3 rfl ?_
                    refine WP_ifeq rfl rfl ⟨by decide, by decide⟩  (fun h54 => ?_) (fun h54 => absurd (by decide) h54)
                    refine WP_n 1 rfl ?_
                    exact WP_iret rfl rfl rfl ⟨_, rfl, hz _ (Or.inr ⟨by omega, Or.inr ⟨hfx.mp hzero, Or.inr ⟨rfl, by omega, by omega⟩⟩⟩)⟩
                  · refine WP_n 4 rfl ?_
                    refine WP_ifeq rfl rfl ⟨by decide, by decide⟩  (fun h54 => absurd h54 (by decide)) (fun h54 => ?_)
                    refine WP_n 2 rfl ?_
                    exact WP_iret rfl rfl rfl ⟨_, rfl, hz _ (Or.inr ⟨by omega, Or.inr ⟨hfx.mp hzero, Or.inl ⟨rfl, by omega⟩⟩⟩)⟩
              · have hex : ∃ t, t < c ∧ t9.testBit t = true ∧ A (20 + t) 5 = 1 := by
                  refine Classical.byContradiction (fun q => hzero (hfx.mpr (fun t ht h1 => ?_)))
                  have hq9 := hI.2.2.2.1 t (by omega)
                  unfold cTm at hq9
                  rcases (show A (20 + t) 5 = 0 ∨ A (20 + t) 5 = 1 by omega) with e | e
                  · exact e
                  · exact absurd ⟨t, ht, h1, e⟩ q
                refine WP_ifeq rfl rfl ⟨by omega, by omega⟩ (fun h38 => absurd h38 (by omega)) (fun h38 => ?_)
                refine WP_n 1 rfl ?_
                exact WP_iret rfl rfl rfl ⟨_, rfl, hz _ (Or.inr ⟨by omega, Or.inl ⟨rfl, hex⟩⟩)⟩
            · refine WP_n 1 rfl ?_
              exact WP_iret rfl rfl rfl ⟨_, rfl, hz _ (Or.inl ⟨rfl, by omega⟩)⟩
        · refine WP_n 1 rfl ?_
          exact WP_iret rfl rfl rfl ⟨_, rfl, hq _ (Or.inl ⟨rfl, fun q => h23 (m2.mpr (by omega))⟩)⟩
    · refine WP_n 1 rfl ?_
      exact WP_iret rfl rfl rfl ⟨_, rfl, hq _ (Or.inl ⟨rfl, fun q => h13 (m1.mpr (by omega))⟩)⟩
theorem sp_G_refuses {P : PP} {d n c : Nat} {FI A L : Nat → Nat → Int} {X : SX} {Q : Option AV → S2 → Prop} (hI : mI n FI A) (hc : FI 165 0 = (c : Int)) {fl ts w : Int} (hfl : inR fl) (hts : inR ts) (hw : inR w) (hq : ∀ r : Int, whyS (A 178) c fl ts w r → Q (some (vi r)) (FI, A, L, X)) : WP2 P M_G_refuses (d + 1) 0 [some (vr 165), some (vi fl), some (vi ts), some (vi w), none] [] (FI, A, L, X) Q := by
  have hcc := hI.2.1
  obtain ⟨lf, uf⟩ := id hfl
  obtain ⟨lt, ut⟩ := id hts
  obtain ⟨lw, uw⟩ := id hw
  have hp16 : 2 ^ c ≤ 2 ^ 16 := Nat.pow_le_pow_right (by omega) (by omega)
  have hp0 := Nat.two_pow_pos c
  have e1 : iShl 1 (c : Int) = ((2 ^ c : Nat) : Int) := by
    have := iShl_n (a := 1) (k := c) (by omega) (by omega)
    rw [Nat.one_mul] at this
    exact this
  refine WP_n 2 rfl ?_
  refine WP_icmplt rfl rfl ⟨by omega, by omega⟩ ⟨by omega, by omega⟩ (fun h2 => ?_) (fun h2 => ?_)
  · refine WP_n 1 rfl ?_
    exact WP_iret rfl rfl rfl ⟨_, rfl, hq _ (Or.inl ⟨rfl, fun q => by omega⟩)⟩
  · refine WP_n 2 rfl ?_
    refine WP_icmpge rfl rfl ⟨by omega, by omega⟩ ⟨by omega, by omega⟩ (fun h5 => ?_) (fun h5 => ?_)
    · refine WP_n 1 rfl ?_
      exact WP_iret rfl rfl rfl ⟨_, rfl, hq _ (Or.inl ⟨rfl, fun q => by omega⟩)⟩
    · refine WP_n 2 rfl ?_
      refine WP_icmplt rfl rfl ⟨by omega, by omega⟩ ⟨by omega, by omega⟩ (fun h8 => ?_) (fun h8 => ?_)
      · refine WP_n 1 rfl ?_
        exact WP_iret rfl rfl rfl ⟨_, rfl, hq _ (Or.inl ⟨rfl, fun q => by omega⟩)⟩
      · refine WP_n 3 rfl ?_
        refine WP2_getf rfl rfl rfl rfl rfl ?_
        rw [hc]
        refine WP_n 1 rfl ?_
        rw [e1]
        refine WP_icmplt rfl rfl ⟨by omega, by omega⟩ ⟨by omega, by omega⟩ (fun h14 => ?_) (fun h14 => ?_)
        · obtain ⟨f9, rfl⟩ : ∃ f9 : Nat, fl = (f9 : Int) := ⟨fl.toNat, by omega⟩
          obtain ⟨t9, rfl⟩ : ∃ t9 : Nat, ts = (t9 : Int) := ⟨ts.toNat, by omega⟩
          have hz : ∀ r : Int, _ → Q (some (vi r)) (FI, A, L, X) := fun r q => hq r (Or.inr ⟨f9, t9, ⟨rfl, rfl, by omega, by omega, by omega, by omega⟩, q⟩)
          have kf := cnt_bd f9
          have kt := cnt_bd t9
          refine WP_n 1 rfl ?_
          refine WP_iflt rfl rfl ⟨by omega, by omega⟩ (fun h18 => ?_) (fun h18 => ?_)
          · refine WP_n 1 rfl ?_
            exact WP_iret rfl rfl rfl ⟨_, rfl, hz _ (Or.inl ⟨rfl, by omega⟩)⟩
          · refine WP_n 2 rfl ?_
            refine WP_icmple rfl rfl ⟨by omega, by omega⟩ ⟨by omega, by omega⟩ (fun h21 => ?_) (fun h21 => ?_)
            · refine WP_n 2 rfl ?_
              suffices hh : ∀ t, t ≤ c → (∀ u, u < t → t9.testBit u = true → A 178 u = 0) → WP2 P M_G_refuses (d + 1) 26 [some (vr 165), some (vi (f9 : Int)), some (vi (t9 : Int)), some (vi w), some (vi (t : Int))] [] (FI, A, L, X) Q from hh 0 (by omega) (fun u hu => absurd hu (by omega))
              refine up_to (P := fun t => (∀ u, u < t → t9.testBit u = true → A 178 u = 0) → WP2 P M_G_refuses (d + 1) 26 [some (vr 165), some (vi (f9 : Int)), some (vi (t9 : Int)), some (vi w), some (vi (t : Int))] [] (FI, A, L, X) Q) c ?_ ?_
              · intro hall
                refine WP_n 2 rfl ?_
                refine WP2_getf rfl rfl rfl rfl rfl ?_
                refine WP_icmpge rfl rfl ⟨by omega, by omega⟩ ⟨by omega, by omega⟩ (fun h29 => ?_) (fun h29 => absurd h29 (by omega))
                refine WP_n 1 rfl ?_
                refine WP2_callS 1 ok_M_G_bits rfl rfl rfl rfl rfl rfl rfl (Nat.le_of_ble_eq_true rfl) (Nat.le_of_ble_eq_true rfl) ?_
                refine sp_bits (by omega) ?_
                rw [show sumN (fun k => (bitN f9 k : Int)) 16 = cnt f9 from rfl]
                refine WP_n 1 rfl ?_
                refine WP_icmpgt rfl rfl ⟨by omega, by omega⟩ ⟨by omega, by omega⟩ (fun h49 => ?_) (fun h49 => ?_)
                · refine WP_n 2 rfl ?_
                  exact WP_iret rfl rfl rfl ⟨_, rfl, hz _ (Or.inr ⟨by omega, Or.inr ⟨hall, Or.inl ⟨rfl, by omega⟩⟩⟩)⟩
                · refine WP_n 1 rfl ?_
                  refine WP2_callS 1 ok_M_G_bits rfl rfl rfl rfl rfl rfl rfl (Nat.le_of_ble_eq_true rfl) (Nat.le_of_ble_eq_true rfl) ?_
                  refine sp_bits (by omega) ?_
                  rw [show sumN (fun k => (bitN t9 k : Int)) 16 = cnt t9 from rfl]
                  refine WP_n 1 rfl ?_
                  refine WP_icmple rfl rfl ⟨by omega, by omega⟩ ⟨by omega, by omega⟩ (fun h53 => ?_) (fun h53 => ?_)
                  · refine WP_n 1 rfl ?_
                    exact WP_iret rfl rfl rfl ⟨_, rfl, hz _ (Or.inr ⟨by omega, Or.inr ⟨hall, Or.inr ⟨rfl, by omega, by omega⟩⟩⟩)⟩
                  · refine WP_n 2 rfl ?_
                    exact WP_iret rfl rfl rfl ⟨_, rfl, hz _ (Or.inr ⟨by omega, Or.inr ⟨hall, Or.inl ⟨rfl, by omega⟩⟩⟩)⟩
              · intro t ht ih hall
                have hq9 := hI.2.2.2.2.1 t (by omega)
                unfold mTm at hq9
                refine WP_n 2 rfl ?_
                refine WP2_getf rfl rfl rfl rfl rfl ?_
                refine WP_icmpge rfl rfl ⟨by omega, by omega⟩ ⟨by omega, by omega⟩ (fun h29 => absurd h29 (by omega)) (fun h29 => ?_)
                refine WP_n 5 rfl ?_
                rw [iBit (by omega) (by omega), bitN_tb]
                refine WP_n 1 rfl ?_
                refine WP_icmpne rfl rfl (by split <;> exact ⟨by decide, by decide⟩) ⟨by omega, by omega⟩ (fun h36 => ?_) (fun h36 => ?_)
                · refine WP_n 2 rfl ?_
                  refine ih (lt_s hall (fun q => absurd ?_ h36))
                  rw [q]
                  rfl
                · refine WP_n 1 rfl ?_
                  refine WP2_getf rfl rfl rfl rfl rfl ?_
                  refine WP_n 1 rfl ?_
                  refine WP2_zald (j := t) rfl rfl rfl (by omega) (by omega) ?_
                  refine WP_ifeq rfl rfl ⟨by omega, by omega⟩ (fun h41 => ?_) (fun h41 => ?_)
                  · refine WP_n 2 rfl ?_
                    exact ih (lt_s hall (fun q => h41))
                  · refine WP_n 1 rfl ?_
                    exact WP_iret rfl rfl rfl ⟨_, rfl, hz _ (Or.inr ⟨by omega, Or.inl ⟨rfl, t, ht, by
                      cases hb : t9.testBit t
                      · rw [hb] at h36
                        exact absurd (by decide) h36
                      · rfl, by omega⟩⟩)⟩
            · refine WP_n 1 rfl ?_
              exact WP_iret rfl rfl rfl ⟨_, rfl, hz _ (Or.inl ⟨rfl, by omega⟩)⟩
        · refine WP_n 1 rfl ?_
          exact WP_iret rfl rfl rfl ⟨_, rfl, hq _ (Or.inl ⟨rfl, fun q => by omega⟩)⟩

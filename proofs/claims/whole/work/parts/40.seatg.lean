/-! the search for a seating: the reference -/
def RSt (FIs As A0 : Nat → Nat → Int) (c ts fs nn m : Nat) (FI A : Nat → Nat → Int) : Prop := SAME FIs As FI A ∧ (∀ i, i < nn → A 188 i = (nth ts i : Int)) ∧ (∀ o, o < m → A 189 o = (nth fs o : Int)) ∧ ∀ t, t < c → ts.testBit t = false → A 186 t = A0 (20 + t) 4
theorem dig_dn {m n w i : Nat} (hi : i < n) : dig m n w i = w / m ^ (n - 1 - i) % m := rfl
theorem HH.idx {n : Nat} {FI A : Nat → Nat → Int} {c ts fs nn m : Nat} (h : HH n FI A c ts fs nn m) {t : Nat} (ht : t < 16) (hb : ts.testBit t = true) : pcR ts t < nn ∧ nth ts (pcR ts t) = t := ⟨by have := h.2.2.2.1; rw [this]; exact pcR_lt hb ht, nth_ix ht hb⟩
theorem pcR_hi {s f : Nat} (hs : s < 2 ^ f) : ∀ k, f ≤ k → pcR s k = pcR s f := by
  intro k hk
  induction k with
  | zero => rw [show f = 0 by omega]
  | succ k ih =>
    by_cases e : f = k + 1
    · rw [e]
    · rw [pcR_f (tb_lt hs (by omega)), ih (by omega)]
theorem RSt.up {FIs As A0 : Nat → Nat → Int} {c ts fs nn m : Nat} {FI A : Nat → Nat → Int} (h : RSt FIs As A0 c ts fs nn m FI A) {j : Nat} {x : Int} (ha : ts.testBit j = true) : RSt FIs As A0 c ts fs nn m FI (up2 A 186 j x) :=
  ⟨h.1.up (by omega), fun i hi => by rw [up2_ne (by omega)]; exact h.2.1 i hi, fun o ho => by rw [up2_ne (by omega)]; exact h.2.2.1 o ho, fun t ht hb => by
    have : t ≠ j := fun e => by rw [e, ha] at hb; exact absurd hb (by decide)
    rw [up2_ne (by omega)]
    exact h.2.2.2 t ht hb⟩
theorem RSt.up7 {FIs As A0 : Nat → Nat → Int} {c ts fs nn m : Nat} {FI A : Nat → Nat → Int} (h : RSt FIs As A0 c ts fs nn m FI A) {j : Nat} {x : Int} : RSt FIs As A0 c ts fs nn m FI (up2 A 187 j x) :=
  ⟨h.1.up (by omega), fun i hi => by rw [up2_ne (by omega)]; exact h.2.1 i hi, fun o ho => by rw [up2_ne (by omega)]; exact h.2.2.1 o ho, fun t ht hb => by
    rw [up2_ne (by omega)]
    exact h.2.2.2 t ht hb⟩
theorem RSt.upF {FIs As A0 : Nat → Nat → Int} {c ts fs nn m : Nat} {FI A : Nat → Nat → Int} (h : RSt FIs As A0 c ts fs nn m FI A) {j : Nat} {x : Int} (hj : 2 ≤ j) : RSt FIs As A0 c ts fs nn m (up2 FI 165 j x) A := ⟨h.1.upF (by omega), h.2⟩
theorem mulcmp {x y l : Int} (hl : 1 ≤ l) : (x * l < y * l ↔ x < y) ∧ (x * l = y * l ↔ x = y) := by
  refine ⟨⟨fun h => Int.lt_of_mul_lt_mul_right h (by omega), fun h => Int.mul_lt_mul_of_pos_right h (by omega)⟩, ⟨fun h => Int.eq_of_mul_eq_mul_right (by omega) h, fun h => by rw [h]⟩⟩
theorem BJ.scale {FT : Nat → Prop} {WK CH : Nat → Int} {N : Nat} {fd wk ch l : Int} {bp : Nat → Prop} (hl : 1 ≤ l) (h : BJ FT WK CH N fd wk ch bp) : BJ FT (fun w => WK w * l) CH N fd (wk * l) ch bp := by
  rcases h with h | ⟨h1, b, h2, h3, h4, h5, h6, h7⟩
  · exact Or.inl h
  · refine Or.inr ⟨h1, b, h2, h3, by rw [h4], h5, h6, fun w hw hf => ?_⟩
    have z := h7 w hw hf
    unfold leS at *
    dsimp only
    rw [(mulcmp hl).1, (mulcmp hl).2]
    exact z
theorem sp_G_seats {P : PP} {d : Nat} {L : Nat → Nat → Int} {X : SX} {Q : Option AV → S2 → Prop} {FIs As : Nat → Nat → Int} {n : Nat} {FI0 A0 : Nat → Nat → Int} {c ts fs nn m : Nat} (hh : HH n FI0 A0 c ts fs nn m) (hG : gX FIs As FI0 A0) (hq : ∀ (z : Int) (FI' A' : Nat → Nat → Int), SAME FIs As FI' A' → BJ (fun w => FIT A0 c (plW A0 ts fs m nn w)) (fun w => walkP A0 (plW A0 ts fs m nn w) c * FI0 6 9) (fun w => chg A0 ts fs m nn w) (m ^ nn) z (FI' 165 29) (FI' 165 30) (fun b => ∀ t, t < c → A' 187 t = plW A0 ts fs m nn b t) → Q (some (vi z)) (FI', A', L, X)) : WP2 P M_G_seats (d + 2) 0 [some (vr 165), some (vi (fs : Int)), some (vi (ts : Int)), none, none, none, none, none, none, none, none, none] [] (FIs, As, L, X) Q := by
  have hc16 := hh.c
  have hnn := hh.2.2.2.2.1
  have hnt := hh.2.2.2.1
  have hm4 := hh.2.2.2.2.2.2.2.1
  have hm0 := hh.2.2.2.2.2.2.2.2
  have hmt := hh.2.2.2.2.2.2.1
  have hf11 := hh.2.2.2.2.2.1
  have htc := hh.2.2.1
  have hp16 : 2 ^ c ≤ 2 ^ 16 := Nat.pow_le_pow_right (by omega) hc16
  have g1 := hG.1
  have hl9 := hh.1.2.1
  have hcc : FIs 165 0 = (c : Int) := by rw [g1]; exact hh.2.1
  have hpw : m ^ nn ≤ 16384 := by
    have h1 := Nat.pow_le_pow_left hm4 nn
    have h2 := Nat.pow_le_pow_right (n := 4) (by omega) hnn
    omega
  refine WP_n 6 rfl ?_
  suffices hw : ∀ f, f ≤ 11 → ∀ B : Nat → Nat → Int, SAME FIs As FIs B → (∀ i, i < pcR fs f → B 189 i = (nth fs i : Int)) → WP2 P M_G_seats (d + 2) 6 [some (vr 165), some (vi (fs : Int)), some (vi (ts : Int)), some (vi ((pcR fs f : Int))), some (vi (0)), some (vi ((f : Int))), none, none, none, none, none, none] [] (FIs, B, L, X) Q from hw 0 (by omega) As (SAME.refl _ _) (fun i hi => absurd hi (by show ¬ i < 0; omega))
  refine up_to (P := fun f => ∀ B : Nat → Nat → Int, SAME FIs As FIs B → (∀ i, i < pcR fs f → B 189 i = (nth fs i : Int)) → WP2 P M_G_seats (d + 2) 6 [some (vr 165), some (vi (fs : Int)), some (vi (ts : Int)), some (vi ((pcR fs f : Int))), some (vi (0)), some (vi ((f : Int))), none, none, none, none, none, none] [] (FIs, B, L, X) Q) 11 ?_ ?_
  · intro A1 s1 p1
    have em : pcR fs 11 = m := by rw [hmt]; exact (pcR_hi (f := 11) (by omega) 16 (by omega)).symm
    rw [em] at p1 ⊢
    refine WP_n 2 rfl ?_
    refine WP_icmpge rfl rfl ⟨by omega, by omega⟩ ⟨by omega, by omega⟩ (fun h8 => ?_) (fun h8 => absurd h8 (by omega))
    refine WP_n 2 rfl ?_
    suffices hw : ∀ t, t ≤ c → ∀ B : Nat → Nat → Int, SAME FIs As FIs B → (∀ o, o < m → B 189 o = (nth fs o : Int)) → (∀ i, i < pcR ts t → B 188 i = (nth ts i : Int)) → (∀ u, u < t → B 186 u = A0 (20 + u) 4) → WP2 P M_G_seats (d + 2) 26 [some (vr 165), some (vi (fs : Int)), some (vi (ts : Int)), some (vi ((m : Int))), some (vi ((pcR ts t : Int))), some (vi ((t : Int))), none, none, none, none, none, none] [] (FIs, B, L, X) Q from hw 0 (by omega) A1 s1 p1 (fun i hi => absurd hi (by show ¬ i < 0; omega)) (fun u hu => absurd hu (by omega))
    refine up_to (P := fun t => ∀ B : Nat → Nat → Int, SAME FIs As FIs B → (∀ o, o < m → B 189 o = (nth fs o : Int)) → (∀ i, i < pcR ts t → B 188 i = (nth ts i : Int)) → (∀ u, u < t → B 186 u = A0 (20 + u) 4) → WP2 P M_G_seats (d + 2) 26 [some (vr 165), some (vi (fs : Int)), some (vi (ts : Int)), some (vi ((m : Int))), some (vi ((pcR ts t : Int))), some (vi ((t : Int))), none, none, none, none, none, none] [] (FIs, B, L, X) Q) c ?_ ?_
    · intro A2 s2 p2 q2 t2
      have enn : pcR ts c = nn := by rw [hnt]; exact (pcR_hi htc 16 hc16).symm
      rw [enn] at q2 ⊢
      have r2 : RSt FIs As A0 c ts fs nn m FIs A2 := ⟨s2, q2, p2, fun t ht _ => t2 t ht⟩
      refine WP_n 2 rfl ?_
      refine WP2_getf rfl rfl rfl rfl rfl ?_
      refine WP_icmpge rfl rfl ⟨by omega, by omega⟩ ⟨by omega, by omega⟩ (fun h29 => ?_) (fun h29 => absurd h29 (by omega))
      refine WP_n 4 rfl ?_
      refine up_to (P := fun i => WP2 P M_G_seats (d + 2) 57 [some (vr 165), some (vi (fs : Int)), some (vi (ts : Int)), some (vi ((m : Int))), some (vi ((nn : Int))), some (vi (((m ^ i : Nat) : Int))), some (vi ((i : Int))), none, none, none, none, none] [] (FIs, A2, L, X) Q) nn ?_ ?_ 0 (by omega)
      · refine WP_n 2 rfl ?_
        refine WP_icmpge rfl rfl ⟨by omega, by omega⟩ ⟨by omega, by omega⟩ (fun h59 => ?_) (fun h59 => absurd h59 (by omega))
        refine WP_n 4 rfl ?_
        suffices hw : ∀ w, w ≤ m ^ nn → ∀ (z : Int) (FI1 A1 : Nat → Nat → Int), RSt FIs As A0 c ts fs nn m FI1 A1 → BJ (fun w => FIT A0 c (plW A0 ts fs m nn w)) (fun w => walkP A0 (plW A0 ts fs m nn w) c * FI0 6 9) (fun w => chg A0 ts fs m nn w) (w) z (FI1 165 29) (FI1 165 30) (fun b => ∀ t, t < c → A1 187 t = plW A0 ts fs m nn b t) → WP2 P M_G_seats (d + 2) 70 [some (vr 165), some (vi (fs : Int)), some (vi (ts : Int)), some (vi ((m : Int))), some (vi ((nn : Int))), some (vi (((m ^ nn : Nat) : Int))), some (vi (z)), some (vi ((w : Int))), none, none, none, none] [] (FI1, A1, L, X) Q from hw 0 (by omega) 0 FIs A2 r2 (Or.inl ⟨rfl, fun w hw => absurd hw (by omega)⟩)
        refine up_to (P := fun w => ∀ (z : Int) (FI1 A1 : Nat → Nat → Int), RSt FIs As A0 c ts fs nn m FI1 A1 → BJ (fun w => FIT A0 c (plW A0 ts fs m nn w)) (fun w => walkP A0 (plW A0 ts fs m nn w) c * FI0 6 9) (fun w => chg A0 ts fs m nn w) (w) z (FI1 165 29) (FI1 165 30) (fun b => ∀ t, t < c → A1 187 t = plW A0 ts fs m nn b t) → WP2 P M_G_seats (d + 2) 70 [some (vr 165), some (vi (fs : Int)), some (vi (ts : Int)), some (vi ((m : Int))), some (vi ((nn : Int))), some (vi (((m ^ nn : Nat) : Int))), some (vi (z)), some (vi ((w : Int))), none, none, none, none] [] (FI1, A1, L, X) Q) (m ^ nn) ?_ ?_
        · intro z FI1 A1 hR1 hJ
          have hz01 : z = 0 ∨ z = 1 := by
            rcases hJ with r | r
            · exact Or.inl r.1
            · exact Or.inr r.1
          refine WP_n 2 rfl ?_
          refine WP_icmpge rfl rfl ⟨by omega, by omega⟩ ⟨by omega, by omega⟩ (fun h72 => ?_) (fun h72 => absurd h72 (by omega))
          refine WP_n 1 rfl ?_
          exact WP_zret rfl rfl rfl (by omega) ⟨_, rfl, hq z FI1 A1 hR1.1 hJ⟩
        · intro w hw ih z FI1 A1 hR1 hJ
          have hlr : ¬ z = 0 → inR (FI1 165 29) := fun q => by
            rcases hJ with r | ⟨r, b, r1, r2, r3, r4, r5, r6⟩
            · exact absurd r.1 q
            · have b1 := walkP_bd hh.1 hh.2.1 (hh.rg nn b) c (by omega)
              have b3 := mulB (x := walkP A0 (plW A0 ts fs m nn b) c) (y := FI0 6 9) (a := 253440) (b := 9) (by omega) (by omega) (by omega) (by omega)
              dsimp only at r3
              rw [r3]
              exact ⟨by omega, by omega⟩
          have hcr : ¬ z = 0 → inR (FI1 165 30) := fun q => by
            rcases hJ with r | ⟨r, b, r1, r2, r3, r4, r5, r6⟩
            · exact absurd r.1 q
            · have b2 := chg_bd (A := A0) (ts := ts) (fs := fs) (m := m) (k := nn) (p := b)
              dsimp only at r4
              rw [r4]
              exact ⟨by omega, by omega⟩
          have hz01 : z = 0 ∨ z = 1 := by
            rcases hJ with r | r
            · exact Or.inl r.1
            · exact Or.inr r.1
          have bw1 := walkP_bd hh.1 hh.2.1 (hh.rg nn w) c (by omega)
          have bw := mulB (x := walkP A0 (plW A0 ts fs m nn w) c) (y := FI0 6 9) (a := 253440) (b := 9) (by omega) (by omega) (by omega) (by omega)
          have bch := chg_bd (A := A0) (ts := ts) (fs := fs) (m := m) (k := nn) (p := w)
          suffices hw2 : ∀ k : Nat, k ≤ nn → ∀ B : Nat → Nat → Int, RSt FIs As A0 c ts fs nn m FI1 B → (∀ i, k ≤ i → i < nn → B 186 (nth ts i) = (nth fs (dig m nn w i) : Int)) → (∀ t, B 187 t = A1 187 t) → WP2 P M_G_seats (d + 2) 81 [some (vr 165), some (vi (fs : Int)), some (vi (ts : Int)), some (vi ((m : Int))), some (vi ((nn : Int))), some (vi (((m ^ nn : Nat) : Int))), some (vi (z)), some (vi ((w : Int))), some (vi (((w / m ^ (nn - k) : Nat) : Int))), some (vi ((chg A0 ts fs m nn w) - sumN (fun i => if A0 (20 + nth ts i) 4 = (nth fs (dig m nn w i) : Int) then (0 : Int) else 1) k)), some (vi ((k : Int) - 1)), none] [] (FI1, B, L, X) Q by
            have z9 := hw2 nn (by omega) A1 hR1 (fun i h1 h2 => absurd h1 (by omega)) (fun _ => rfl)
            rw [Nat.sub_self, Nat.pow_zero, Nat.div_one, show (chg A0 ts fs m nn w) - sumN (fun i => if A0 (20 + nth ts i) 4 = (nth fs (dig m nn w i) : Int) then (0 : Int) else 1) nn = 0 from Int.sub_self _] at z9
            refine WP_n 2 rfl ?_
            refine WP_icmpge rfl rfl ⟨by omega, by omega⟩ ⟨by omega, by omega⟩ (fun h72 => absurd h72 (by omega)) (fun h72 => ?_)
            refine WP_n 8 rfl ?_
            exact z9
          intro k
          induction k with
          | zero =>
            intro _ A2 hR2 hd h187
            have hpl2 : ∀ t, t < c → A2 186 t = plW A0 ts fs m nn w t := fun t ht => by
              cases hb : ts.testBit t
              · rw [hR2.2.2.2 t ht hb]
                unfold plW
                rw [hb]
                rfl
              · have hx := hh.idx (by omega) hb
                have z9 := hd (pcR ts t) (by omega) hx.1
                rw [hx.2] at z9
                rw [z9]
                unfold plW
                rw [if_pos hb, if_pos hx.1]
            have hJ2 : BJ (fun w => FIT A0 c (plW A0 ts fs m nn w)) (fun w => walkP A0 (plW A0 ts fs m nn w) c * FI0 6 9) (fun w => chg A0 ts fs m nn w) (w) z (FI1 165 29) (FI1 165 30) (fun b => ∀ t, t < c → A2 187 t = plW A0 ts fs m nn b t) := by
              simp only [h187]
              exact hJ
            rw [show (chg A0 ts fs m nn w) - sumN (fun i => if A0 (20 + nth ts i) 4 = (nth fs (dig m nn w i) : Int) then (0 : Int) else 1) 0 = (chg A0 ts fs m nn w) from Int.sub_zero _]
            have fitp : (z = 0 ∨ (walkP A0 (plW A0 ts fs m nn w) c * FI0 6 9) < FI1 165 29 ∨ ((walkP A0 (plW A0 ts fs m nn w) c * FI0 6 9) = FI1 165 29 ∧ (chg A0 ts fs m nn w) < FI1 165 30)) → WP2 P M_G_seats (d + 2) 138 [some (vr 165), some (vi (fs : Int)), some (vi (ts : Int)), some (vi ((m : Int))), some (vi ((nn : Int))), some (vi (((m ^ nn : Nat) : Int))), some (vi (z)), some (vi ((w : Int))), some (vi (((w / m ^ (nn - 0) : Nat) : Int))), some (vi ((chg A0 ts fs m nn w))), some (vi ((walkP A0 (plW A0 ts fs m nn w) c * FI0 6 9))), none] [] (FI1, A2, L, X) Q := by
              intro hbet
              refine WP_n 2 rfl ?_
              refine WP2_getf rfl rfl rfl rfl rfl ?_
              refine WP2_callV 1 ok_M_G_isFit rfl rfl rfl rfl rfl rfl (Nat.le_of_ble_eq_true rfl) (Nat.le_of_ble_eq_true rfl) rfl rfl ?_
              refine sp_G_isFit hh.1 (hG.off ⟨hR2.1.1.2.2.1, hR2.1.1.2.2.2⟩ (fun a j q => hR2.1.2.2 a j (by omega))) hh.2.1 (B := 186) (by omega) (ia_lit (n := 16) rfl rfl (by omega)) (fun t ht => by rw [hpl2 t ht]; exact hh.rg nn w t ht) (fun hFit => ?_) (fun hFit => ?_)
              all_goals rw [FIT_congr hpl2] at hFit
              · refine WP_ifne rfl rfl ⟨by decide, by decide⟩  (fun h142 => ?_) (fun h142 => absurd (by decide) h142)
                refine WP_n 4 rfl ?_
                refine WP2_putk (k := 29) rfl rfl rfl rfl rfl rfl (by exact trivial) ?_
                refine WP_n 2 rfl ?_
                refine WP2_putk (k := 30) rfl rfl rfl rfl rfl rfl (by exact trivial) ?_
                refine WP_n 2 rfl ?_
                obtain ⟨FI5, hFI5⟩ : ∃ F, F = up2 (up2 FI1 165 29 (walkP A0 (plW A0 ts fs m nn w) c * FI0 6 9)) 165 30 (chg A0 ts fs m nn w) := ⟨_, rfl⟩
                rw [← hFI5]
                have h29 : FI5 165 29 = (walkP A0 (plW A0 ts fs m nn w) c * FI0 6 9) := by rw [hFI5, up2_ne (by omega)]; exact up2_same
                have h30 : FI5 165 30 = (chg A0 ts fs m nn w) := by rw [hFI5]; exact up2_same
                have hR5 : RSt FIs As A0 c ts fs nn m FI5 A2 := by rw [hFI5]; exact (hR2.upF (by omega)).upF (by omega)
                suffices hf : ∀ t, t ≤ c → ∀ B : Nat → Nat → Int, RSt FIs As A0 c ts fs nn m FI5 B → (∀ u, u < c → B 186 u = plW A0 ts fs m nn w u) → (∀ u, u < t → B 187 u = plW A0 ts fs m nn w u) → WP2 P M_G_seats (d + 2) 154 [some (vr 165), some (vi (fs : Int)), some (vi (ts : Int)), some (vi ((m : Int))), some (vi ((nn : Int))), some (vi (((m ^ nn : Nat) : Int))), some (vi (1)), some (vi ((w : Int))), none, some (vi ((chg A0 ts fs m nn w))), some (vi ((walkP A0 (plW A0 ts fs m nn w) c * FI0 6 9))), some (vi ((t : Int)))] [] (FI5, B, L, X) Q from WP2_kill 8 (hf 0 (by omega) A2 hR5 hpl2 (fun u hu => absurd hu (by omega)))
                refine up_to (P := fun t => ∀ B : Nat → Nat → Int, RSt FIs As A0 c ts fs nn m FI5 B → (∀ u, u < c → B 186 u = plW A0 ts fs m nn w u) → (∀ u, u < t → B 187 u = plW A0 ts fs m nn w u) → WP2 P M_G_seats (d + 2) 154 [some (vr 165), some (vi (fs : Int)), some (vi (ts : Int)), some (vi ((m : Int))), some (vi ((nn : Int))), some (vi (((m ^ nn : Nat) : Int))), some (vi (1)), some (vi ((w : Int))), none, some (vi ((chg A0 ts fs m nn w))), some (vi ((walkP A0 (plW A0 ts fs m nn w) c * FI0 6 9))), some (vi ((t : Int)))] [] (FI5, B, L, X) Q) c ?_ ?_
                · intro B r1 r2 r3
                  have hcB : FI5 165 0 = (c : Int) := hR5.1.1.2.2.1.trans hcc
                  refine WP_n 2 rfl ?_
                  refine WP2_getf rfl rfl rfl rfl rfl ?_
                  refine WP_icmpge rfl rfl ⟨by omega, by omega⟩ ⟨by omega, by omega⟩ (fun h157 => ?_) (fun h157 => absurd h157 (by omega))
                  refine WP_n 2 rfl ?_
                  refine WP2_kill 9 (WP2_kill 10 (WP2_kill 11 (ih 1 FI5 B r1 ?_)))
                  rw [h29, h30]
                  exact hJ.put hFit hbet (fun t ht => r3 t ht)
                · intro t ht ih2 B r1 r2 r3
                  have hcB : FI5 165 0 = (c : Int) := hR5.1.1.2.2.1.trans hcc
                  refine WP_n 2 rfl ?_
                  refine WP2_getf rfl rfl rfl rfl rfl ?_
                  refine WP_icmpge rfl rfl ⟨by omega, by omega⟩ ⟨by omega, by omega⟩ (fun h157 => absurd h157 (by omega)) (fun h157 => ?_)
                  refine WP_n 1 rfl ?_
                  refine WP2_getf rfl rfl rfl rfl rfl ?_
                  refine WP_n 2 rfl ?_
                  refine WP2_getf rfl rfl rfl rfl rfl ?_
                  refine WP_n 1 rfl ?_
                  refine WP2_iald (j := t) rfl rfl (ia_lit (n := 16) rfl rfl (by omega)) (by omega) (by omega) (by omega) ?_
                  refine WP2_iast (j := t) rfl rfl (ia_lit (n := 16) rfl rfl (by omega)) (by omega) (by omega) (by omega) ?_
                  refine WP_n 2 rfl ?_
                  exact ih2 _ r1.up7 (fun u hu => by rw [up2_ne (by omega)]; exact r2 u hu) (fun u hu => by
                    by_cases q : u = t
                    · rw [q, up2_same]
                      exact r2 t ht
                    · rw [up2_ne (by omega)]
                      exact r3 u (by omega))
              · refine WP_ifne rfl rfl ⟨by decide, by decide⟩  (fun h142 => absurd h142 (by decide)) (fun h142 => ?_)
                refine WP_n 1 rfl ?_
                refine WP_n 2 rfl ?_
                refine WP2_kill 8 (WP2_kill 9 (WP2_kill 10 (ih z FI1 A2 hR2 (hJ2.skip (by omega) (fun u h1 h2 hf => ?_)))))
                obtain rfl : u = w := by omega
                exact absurd hf hFit
            refine WP_n 1 rfl ?_
            refine WP_iflt rfl rfl ⟨by omega, by omega⟩ (fun h82 => ?_) (fun h82 => absurd h82 (by omega))
            refine WP_n 2 rfl ?_
            refine WP2_getf rfl rfl rfl rfl rfl ?_
            refine WP2_callV 1 ok_M_G_walks rfl rfl rfl rfl rfl rfl (Nat.le_of_ble_eq_true rfl) (Nat.le_of_ble_eq_true rfl) rfl rfl ?_
            refine sp_G_walks hh.1 (hG.off ⟨hR2.1.1.2.2.1, hR2.1.1.2.2.2⟩ (fun a j q => hR2.1.2.2 a j (by omega))) hh.2.1 (B := 186) (by omega) (ia_lit (n := 16) rfl rfl (by omega)) (fun t ht => by rw [hpl2 t ht]; exact hh.rg nn w t ht) ?_
            rw [walkP_congr hpl2]
            refine WP_n 2 rfl ?_
            refine WP_ifeq rfl rfl ⟨by omega, by omega⟩ (fun h124 => ?_) (fun h124 => ?_)
            · exact fitp (Or.inl h124)
            · refine WP_n 2 rfl ?_
              refine WP2_getf rfl rfl rfl rfl rfl ?_
              refine WP_icmpgt rfl rfl ⟨by omega, by omega⟩ (hlr h124) (fun h128 => ?_) (fun h128 => ?_)
              · refine WP_n 2 rfl ?_
                refine WP2_kill 8 (WP2_kill 9 (WP2_kill 10 (ih z FI1 A2 hR2 (hJ2.skip (by omega) (fun u h1 h2 hf => ?_)))))
                obtain rfl : u = w := by omega
                exact ⟨by omega, Or.inl (by omega)⟩
              · refine WP_n 2 rfl ?_
                refine WP2_getf rfl rfl rfl rfl rfl ?_
                refine WP_icmpne rfl rfl ⟨by omega, by omega⟩ (hlr h124) (fun h132 => ?_) (fun h132 => ?_)
                · exact fitp (Or.inr (Or.inl (by omega)))
                · refine WP_n 2 rfl ?_
                  refine WP2_getf rfl rfl rfl rfl rfl ?_
                  refine WP_icmplt rfl rfl ⟨by omega, by omega⟩ (hcr h124) (fun h136 => ?_) (fun h136 => ?_)
                  · exact fitp (Or.inr (Or.inr ⟨by omega, h136⟩))
                  · refine WP_n 1 rfl ?_
                    refine WP_n 2 rfl ?_
                    refine WP2_kill 8 (WP2_kill 9 (WP2_kill 10 (ih z FI1 A2 hR2 (hJ2.skip (by omega) (fun u h1 h2 hf => ?_)))))
                    obtain rfl : u = w := by omega
                    exact ⟨by omega, Or.inr ⟨by omega, by omega⟩⟩
          | succ k ihk =>
            intro hk B hR hd h187
            rw [show ((k + 1 : Nat) : Int) - 1 = (k : Int) by omega]
            have hT := hh.T (k := k) (by omega)
            have hdl : w / m ^ (nn - (k + 1)) % m < m := Nat.mod_lt _ hm0
            have hwl : w / m ^ (nn - (k + 1)) ≤ w := Nat.div_le_self _ _
            have hwn : (0 : Int) ≤ ((w / m ^ (nn - (k + 1)) : Nat) : Int) := Int.natCast_nonneg _
            have hqT := hh.1.2.2.2.1 (nth ts k) hT.2
            unfold cTm at hqT
            have hdiv : ((w / m ^ (nn - (k + 1)) : Nat) : Int) / (m : Int) = ((w / m ^ (nn - k) : Nat) : Int) := by
              rw [show ((w / m ^ (nn - (k + 1)) : Nat) : Int) / (m : Int) = ((w / m ^ (nn - (k + 1)) / m : Nat) : Int) from rfl, Nat.div_div_eq_div_mul, ← Nat.pow_succ, show (nn - (k + 1)).succ = nn - k by omega]
            have e88a := hR.2.1 k (by omega)
            refine WP_n 1 rfl ?_
            refine WP_iflt rfl rfl ⟨by omega, by omega⟩ (fun h82 => absurd h82 (by omega)) (fun h82 => ?_)
            refine WP_n 1 rfl ?_
            refine WP2_getf rfl rfl rfl rfl rfl ?_
            refine WP_n 1 rfl ?_
            refine WP2_getf rfl rfl rfl rfl rfl ?_
            refine WP_n 1 rfl ?_
            refine WP2_iald (j := k) rfl rfl (ia_lit (n := 16) rfl rfl (by omega)) (by omega) (by omega) (by omega) ?_
            refine WP_n 1 rfl ?_
            refine WP2_getf rfl rfl rfl rfl rfl ?_
            refine WP_n 2 rfl ?_
            refine WP_irem rfl (by omega) (by omega) (by omega) (by omega) rfl ?_
            refine WP2_iald (j := ((w / m ^ (nn - (k + 1))) % m)) rfl rfl (ia_lit (n := 11) rfl rfl (by omega)) (by omega) (by omega) (by omega) ?_
            refine WP2_iast (j := (nth ts k)) rfl rfl (ia_lit (n := 16) rfl rfl (by omega)) (by omega) (by omega) (by omega) ?_
            obtain ⟨A3, hA3⟩ : ∃ A3, A3 = (up2 B 186 (nth ts k) (B 189 (w / m ^ (nn - (k + 1)) % m))) := ⟨_, rfl⟩
            rw [← hA3]
            have hR3 : RSt FIs As A0 c ts fs nn m FI1 A3 := by rw [hA3]; exact hR.up (nth_ok (by omega)).1
            have eD : w / m ^ (nn - (k + 1)) % m = dig m nn w k := by unfold dig; rw [show nn - 1 - k = nn - (k + 1) by omega]
            have e86 : A3 186 (nth ts k) = (nth fs (dig m nn w k) : Int) := by rw [hA3, up2_same, hR.2.2.1 _ hdl, eD]
            have e88 := hR3.2.1 k (by omega)
            have e74 : A3 174 (nth ts k) = A0 (20 + nth ts k) 4 := by
              rw [hR3.1.2.2 174 _ (by omega)]
              have g := hG.2.2.2.1 (nth ts k) hT.2
              have hcq := hh.2.1
              unfold gTmX at g
              omega
            have hFk := hh.F (o := dig m nn w k) (by rw [← eD]; exact hdl)
            refine WP_n 2 rfl ?_
            refine WP_idiv rfl (by omega) (by omega) (by omega) (by omega) rfl ?_
            refine WP_n 2 rfl ?_
            refine WP2_getf rfl rfl rfl rfl rfl ?_
            refine WP_n 1 rfl ?_
            refine WP2_getf rfl rfl rfl rfl rfl ?_
            refine WP_n 1 rfl ?_
            refine WP2_iald (j := k) rfl rfl (ia_lit (n := 16) rfl rfl (by omega)) (by omega) (by omega) (by omega) ?_
            refine WP2_iald (j := (nth ts k)) rfl rfl (ia_lit (n := 16) rfl rfl (by omega)) (by omega) (by omega) (by omega) ?_
            refine WP_n 1 rfl ?_
            refine WP2_getf rfl rfl rfl rfl rfl ?_
            refine WP_n 1 rfl ?_
            refine WP2_getf rfl rfl rfl rfl rfl ?_
            refine WP_n 1 rfl ?_
            refine WP2_iald (j := k) rfl rfl (ia_lit (n := 16) rfl rfl (by omega)) (by omega) (by omega) (by omega) ?_
            refine WP2_iald (j := (nth ts k)) rfl rfl (ia_lit (n := 16) rfl rfl (by omega)) (by omega) (by omega) (by omega) ?_
            refine WP_icmpeq rfl rfl ⟨by omega, by omega⟩ ⟨by omega, by omega⟩ (fun h114 => ?_) (fun h114 => ?_)
            · refine WP_n 2 rfl ?_
              have es : (chg A0 ts fs m nn w) - sumN (fun i => if A0 (20 + nth ts i) 4 = (nth fs (dig m nn w i) : Int) then (0 : Int) else 1) k = (chg A0 ts fs m nn w) - sumN (fun i => if A0 (20 + nth ts i) 4 = (nth fs (dig m nn w i) : Int) then (0 : Int) else 1) (k + 1) := by
                show _ = _ - (sumN (fun i => if A0 (20 + nth ts i) 4 = (nth fs (dig m nn w i) : Int) then (0 : Int) else 1) k + (if _ then _ else _))
                rw [if_pos (by omega)]
                omega
              have z9 := ihk (by omega) A3 hR3 (fun i h1 h2 => by
                by_cases q : i = k
                · rw [q]; exact e86
                · rw [hA3, up2_ne (by
                    have : nth ts i ≠ nth ts k := fun e => q (nth_inj (by omega) (by omega) e)
                    omega)]
                  exact hd i (by omega) h2) (fun t => by rw [hA3, up2_ne (by omega)]; exact h187 t)
              rw [es, ← hdiv] at z9
              exact z9
            · refine WP_n 3 rfl ?_
              have es : (chg A0 ts fs m nn w) - sumN (fun i => if A0 (20 + nth ts i) 4 = (nth fs (dig m nn w i) : Int) then (0 : Int) else 1) k = (chg A0 ts fs m nn w) - sumN (fun i => if A0 (20 + nth ts i) 4 = (nth fs (dig m nn w i) : Int) then (0 : Int) else 1) (k + 1) + 1 := by
                show _ = _ - (sumN (fun i => if A0 (20 + nth ts i) 4 = (nth fs (dig m nn w i) : Int) then (0 : Int) else 1) k + (if _ then _ else _)) + 1
                rw [if_neg (by omega)]
                omega
              have z9 := ihk (by omega) A3 hR3 (fun i h1 h2 => by
                by_cases q : i = k
                · rw [q]; exact e86
                · rw [hA3, up2_ne (by
                    have : nth ts i ≠ nth ts k := fun e => q (nth_inj (by omega) (by omega) e)
                    omega)]
                  exact hd i (by omega) h2) (fun t => by rw [hA3, up2_ne (by omega)]; exact h187 t)
              rw [es, ← hdiv] at z9
              exact z9
      · intro i hi ih
        rw [Nat.pow_succ] at ih
        refine WP_n 2 rfl ?_
        refine WP_icmpge rfl rfl ⟨by omega, by omega⟩ ⟨by omega, by omega⟩ (fun h59 => absurd h59 (by omega)) (fun h59 => ?_)
        refine WP_n 6 rfl ?_
        exact ih
    · intro t ht ih B s2 p2 q2 t2
      have e74 : B 174 t = A0 (20 + t) 4 := by
        rw [s2.2.2 174 t (by omega)]
        have g := hG.2.2.2.1 t (by omega)
        have hcq := hh.2.1
        unfold gTmX at g
        omega
      have hm5 := pcR_mono (s := ts) (show t ≤ 16 by omega)
      refine WP_n 2 rfl ?_
      refine WP2_getf rfl rfl rfl rfl rfl ?_
      refine WP_icmpge rfl rfl ⟨by omega, by omega⟩ ⟨by omega, by omega⟩ (fun h29 => absurd h29 (by omega)) (fun h29 => ?_)
      refine WP_n 1 rfl ?_
      refine WP2_getf rfl rfl rfl rfl rfl ?_
      refine WP_n 2 rfl ?_
      refine WP2_getf rfl rfl rfl rfl rfl ?_
      refine WP_n 1 rfl ?_
      refine WP2_iald (j := t) rfl rfl (ia_lit (n := 16) rfl rfl (by omega)) (by omega) (by omega) (by omega) ?_
      refine WP2_iast (j := t) rfl rfl (ia_lit (n := 16) rfl rfl (by omega)) (by omega) (by omega) (by omega) ?_
      refine WP_n 5 rfl ?_
      rw [iBit (by omega) (by omega), bitN_tb]
      refine WP_n 1 rfl ?_
      refine WP_icmpne rfl rfl (by split <;> exact ⟨by decide, by decide⟩) ⟨by omega, by omega⟩ (fun h44 => ?_) (fun h44 => ?_)
      · refine WP_n 2 rfl ?_
        have hb : ts.testBit t = false := by
          cases hb : ts.testBit t
          · rfl
          · rw [hb] at h44
            exact absurd rfl h44
        have z9 := ih (up2 B 186 t (B 174 t)) (s2.up (by omega)) (fun o ho => by rw [up2_ne (by omega)]; exact p2 o ho) (fun i hi => by rw [up2_ne (by omega)]; exact q2 i (by rw [pcR_f hb] at hi; exact hi)) (fun u hu => by
          by_cases q : u = t
          · rw [q, up2_same]; exact e74
          · rw [up2_ne (by omega)]
            exact t2 u (by omega))
        rw [pcR_f hb] at z9
        exact z9
      · have hb : ts.testBit t = true := by
          cases hb : ts.testBit t
          · rw [hb] at h44
            exact absurd (by decide) h44
          · rfl
        have hl2 := pcR_lt hb (show t < 16 by omega)
        refine WP_n 1 rfl ?_
        refine WP2_getf rfl rfl rfl rfl rfl ?_
        refine WP_n 3 rfl ?_
        refine WP2_iast (j := (pcR ts t)) rfl rfl (ia_lit (n := 16) rfl rfl (by omega)) (by omega) (by omega) (by omega) ?_
        refine WP_n 2 rfl ?_
        have z9 := ih (up2 (up2 B 186 t (B 174 t)) 188 (pcR ts t) (t : Int)) ((s2.up (by omega)).up (by omega)) (fun o ho => by rw [up2_ne (by omega), up2_ne (by omega)]; exact p2 o ho) (fun i hi => by
          rw [pcR_t hb] at hi
          by_cases q : i = pcR ts t
          · rw [q, up2_same, nth_ix (by omega) hb]
          · rw [up2_ne (by omega), up2_ne (by omega)]
            exact q2 i (by omega)) (fun u hu => by
          rw [up2_ne (by omega)]
          by_cases q : u = t
          · rw [q, up2_same]; exact e74
          · rw [up2_ne (by omega)]
            exact t2 u (by omega))
        rw [pcR_t hb] at z9
        exact z9
  · intro f hf ih B s1 p1
    have hm5 := pcR_mono (s := fs) (show f ≤ 16 by omega)
    refine WP_n 2 rfl ?_
    refine WP_icmpge rfl rfl ⟨by omega, by omega⟩ ⟨by omega, by omega⟩ (fun h8 => absurd h8 (by omega)) (fun h8 => ?_)
    refine WP_n 5 rfl ?_
    rw [iBit (by omega) (by omega), bitN_tb]
    refine WP_n 1 rfl ?_
    refine WP_icmpne rfl rfl (by split <;> exact ⟨by decide, by decide⟩) ⟨by omega, by omega⟩ (fun h15 => ?_) (fun h15 => ?_)
    · refine WP_n 2 rfl ?_
      have hb : fs.testBit f = false := by
        cases hb : fs.testBit f
        · rfl
        · rw [hb] at h15
          exact absurd rfl h15
      have z9 := ih B s1 (fun i hi => p1 i (by rw [pcR_f hb] at hi; exact hi))
      rw [pcR_f hb] at z9
      exact z9
    · have hb : fs.testBit f = true := by
        cases hb : fs.testBit f
        · rw [hb] at h15
          exact absurd (by decide) h15
        · rfl
      have hl2 := pcR_lt hb (show f < 16 by omega)
      refine WP_n 1 rfl ?_
      refine WP2_getf rfl rfl rfl rfl rfl ?_
      refine WP_n 3 rfl ?_
      refine WP2_iast (j := (pcR fs f)) rfl rfl (ia_lit (n := 11) rfl rfl (by omega)) (by omega) (by omega) (by omega) ?_
      refine WP_n 2 rfl ?_
      have z9 := ih (up2 B 189 (pcR fs f) (f : Int)) (s1.up (by omega)) (fun i hi => by
        rw [pcR_t hb] at hi
        by_cases q : i = pcR fs f
        · rw [q, up2_same, nth_ix (by omega) hb]
        · rw [up2_ne (by omega)]
          exact p1 i (by omega))
      rw [pcR_t hb] at z9
      exact z9

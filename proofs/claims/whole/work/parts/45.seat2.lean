/-! seat: together -/
theorem pr_seat {P : PP} {n : Nat} {FI A L : Nat → Nat → Int} {X : SX} (h : INV P n FI A X) (hn : n < 512) {fl ts : Int} (hfl : inR fl) (hts : inR ts) : PAIR P n (FI, A, L, X) M_F_seat [some (vr 5), some (vi fl), some (vi ts), none] M_G_seat [some (vr 165), some (vi fl), some (vi ts), none, none] := by
  intro d
  have hm := h.mI
  have hn5 := h.1
  have hcI := h.2.1
  have hG := h.2.2.1
  have hk1 := hcI.1
  have g1 := hG.1
  obtain ⟨c, hc⟩ : ∃ c : Nat, FI 6 8 = (c : Int) := ⟨(FI 6 8).toNat, by omega⟩
  have hc2 : FI 165 0 = (c : Int) := by rw [g1]; exact hc
  have efx : ∀ t, t < c → A 178 t = A (20 + t) 5 := fun t ht => (hG.2.2.2.1 t (by omega)).2.2.2
  have hl := hcI.2.1
  refine sp_F_seat hcI hc hfl hts (fun k hk hy => ?_) (fun f9 t9 FI1 A1 hy e1 e2 hh hs hJ hz => ?_) (fun f9 t9 FI1 A1 B hy e1 e2 hh hs hJ hz b1 b2 => ?_)
  · refine ⟨_, rfl, ?_⟩
    have ef : ∀ t, t < c → rfC A k 178 t = A (20 + t) 5 := fun t ht => by
      have e : rfC A k 178 t = A 178 t := up2_ne (by omega)
      rw [e]; exact efx t ht
    refine sp_G_seat (FIg := FI) (Ag := A) (hm.up (by omega)) hc2 hfl hts (fun q => ?_) (fun k' hk' hy' => ?_) (fun f9 t9 z FI2 A2 hy' e1' e2' hh' hs' hJ' hz' => ?_) (fun f9 t9 z FI2 A2 B2 hy' e1' e2' hh' hs' hJ' hz' b1' b2' => ?_)
    · have := whyS_uniq ef hy q
      omega
    · have := whyS_uniq ef hy hy'
      obtain rfl : k' = k := by omega
      exact ⟨rfl, INV_ref h hn (by omega)⟩
    · have := whyS_uniq ef hy hy'
      omega
    · have := whyS_uniq ef hy hy'
      omega
  · refine ⟨_, rfl, ?_⟩
    have h' := h.off hs
    have ef : ∀ t, t < c → rfC A1 3 178 t = A (20 + t) 5 := fun t ht => by
      have e : rfC A1 3 178 t = A1 178 t := up2_ne (by omega)
      rw [e, hs.2.2 178 t (by omega)]; exact efx t ht
    refine sp_G_seat (FIg := FI) (Ag := A) (h'.mI.up (by omega)) (hs.1.2.2.1.trans hc2) hfl hts (fun q => ⟨hcI, hc, hG.x.off ⟨hs.1.2.2.1, hs.1.2.2.2⟩ (fun a j q => (up2_ne (by omega)).trans (hs.2.2 a j (by omega)))⟩) (fun k' hk' hy' => ?_) (fun f9' t9' z FI2 A2 hy' e1' e2' hh' hs' hJ' hz' => ?_) (fun f9' t9' z FI2 A2 B2 hy' e1' e2' hh' hs' hJ' hz' b1' b2' => ?_)
    · have := whyS_uniq ef hy hy'
      omega
    · exact ⟨rfl, (INV_ref h' hn (by omega)).off hs'.refG⟩
    · obtain rfl : f9' = f9 := by omega
      obtain rfl : t9' = t9 := by omega
      have u := BJ.uniq (hJ.scale (l := FI 6 9) hl.1) hJ'
      rcases u with ⟨u1, u2⟩ | ⟨u1, u2⟩ <;> omega
  · refine ⟨_, rfl, ?_⟩
    have h' := h.off hs
    have hc16 := hh.c
    have htc := hh.2.2.1
    have hn16 : ∀ e, e < pcR t9 16 → nth t9 e < 16 := fun e he => (nth_ok he).2.2
    have bo : ∀ a j, ¬ (20 ≤ a ∧ a < 36 ∧ j = 4) → B a j = A1 a j := fun a j q => b2 a j (fun w => by
      obtain ⟨w1, e, w2, w3⟩ := w
      have := hn16 e w2
      omega)
    have ef : ∀ t, t < c → B 178 t = A (20 + t) 5 := fun t ht => by
      rw [bo 178 t (by omega), hs.2.2 178 t (by omega)]; exact efx t ht
    refine sp_G_seat (FIg := FI) (Ag := A) (h'.mI.off (fun _ => rfl) (fun a j q => bo a j (by omega))) (hs.1.2.2.1.trans hc2) hfl hts (fun q => ⟨hcI, hc, hG.x.off ⟨hs.1.2.2.1, hs.1.2.2.2⟩ (fun a j q => (bo a j (by omega)).trans (hs.2.2 a j (by omega)))⟩) (fun k' hk' hy' => ?_) (fun f9' t9' z FI2 A2 hy' e1' e2' hh' hs' hJ' hz' => ?_) (fun f9' t9' z FI2 A2 B2 hy' e1' e2' hh' hs' hJ' hz' b1' b2' => ?_)
    · have := whyS_uniq ef hy hy'
      omega
    · obtain rfl : f9' = f9 := by omega
      obtain rfl : t9' = t9 := by omega
      have u := BJ.uniq (hJ.scale (l := FI 6 9) hl.1) hJ'
      rcases u with ⟨u1, u2⟩ | ⟨u1, u2, _⟩ <;> omega
    · obtain rfl : f9' = f9 := by omega
      obtain rfl : t9' = t9 := by omega
      have u := BJ.uniq (hJ.scale (l := FI 6 9) hl.1) hJ'
      rcases u with ⟨u1, u2⟩ | ⟨u1, u2, u3, u4, b, u5, u6, u7, u8, u9⟩
      · omega
      · refine ⟨congrArg (fun z => some (vi z)) u4, ?_⟩
        have lo : ∀ a j, (a ≤ 137 ∨ (164 ≤ a ∧ a ≤ 185)) → ¬ (20 ≤ a ∧ a < 36 ∧ j = 4) → a ≠ 174 → B2 a j = A a j := fun a j q1 q2 q3 => by
          rw [b2' a j (by omega), hs'.2.2 a j q1, bo a j q2]
          exact hs.2.2 a j q1
        show INV P (n + 1) FI2 B2 X
        refine INV_pt h hn hc (fun t => plW A t9' f9' (pcR f9' 16) (pcR t9' 16) b t) (fun t => A (20 + t) 6) (fun t ht => ?_) ⟨hs'.1.1.trans hs.1.1, hs'.1.2.1.trans hs.1.2.1, hs'.1.2.2.1.trans hs.1.2.2.1, hs'.1.2.2.2.trans hs.1.2.2.2⟩ ?_ (fun a j q1 q2 q3 => lo a j q1 (by omega) (by omega)) (fun t ht => ⟨?_, lo (20 + t) 6 (by omega) (by omega) (by omega)⟩) (fun t ht1 ht2 => ⟨?_, lo (20 + t) 6 (by omega) (by omega) (by omega)⟩) (fun t ht => ⟨?_, ?_⟩)
        · have q := hcI.2.2.2.1 t (by omega)
          unfold cTm at q
          exact ⟨hh.rg _ b t ht, by omega⟩
        · rw [b2' 163 11 (by omega), hs'.2.1, bo 163 11 (by omega)]
          exact hs.2.1
        · rw [b2' (20 + t) 4 (by omega), hs'.2.2 (20 + t) 4 (by omega)]
          cases hb : t9'.testBit t
          · rw [b2 (20 + t) 4 (fun w => by
              obtain ⟨w1, e, w2, w3⟩ := w
              have w4 := (nth_ok w2).1
              rw [show nth t9' e = t by omega, hb] at w4
              exact absurd w4 (by decide)), hs.2.2 (20 + t) 4 (by omega)]
            unfold plW
            rw [hb]
            rfl
          · have hx := hh.idx (by omega) hb
            have a1 := b1 (pcR t9' t) hx.1
            rw [hx.2] at a1
            rw [a1, u8 (pcR t9' t) hx.1]
            unfold plW
            rw [if_pos hb, if_pos hx.1]
        · rw [b2' (20 + t) 4 (by omega), hs'.2.2 (20 + t) 4 (by omega), b2 (20 + t) 4 (fun w => by
              obtain ⟨w1, e, w2, w3⟩ := w
              have w4 := (nth_ok w2).1
              rw [show nth t9' e = t by omega, tb_lt htc ht1] at w4
              exact absurd w4 (by decide))]
          exact hs.2.2 (20 + t) 4 (by omega)
        · rw [b1' t ht]
          exact u9 t ht
        · rw [lo 175 t (by omega) (by omega) (by omega)]
          have g := hG.2.2.2.1 t (by omega)
          unfold gTm at g
          omega

/-! best: both sides -/
theorem BJ.congr {FT FT' : Nat → Prop} {WK WK' CH CH' : Nat → Int} {N : Nat} {fd wk ch : Int} {bp bp' : Nat → Prop} (h : BJ FT WK CH N fd wk ch bp) (e : ∀ w, (FT w ↔ FT' w) ∧ WK w = WK' w ∧ CH w = CH' w ∧ (bp w → bp' w)) : BJ FT' WK' CH' N fd wk ch bp' := by
  rcases h with ⟨h1, h2⟩ | ⟨h1, b, h2, h3, h4, h5, h6, h7⟩
  · exact Or.inl ⟨h1, fun w hw q => h2 w hw ((e w).1.mpr q)⟩
  · refine Or.inr ⟨h1, b, h2, (e b).1.mp h3, by rw [h4, (e b).2.1], by rw [h5, (e b).2.2.1], (e b).2.2.2 h6, fun w hw hf => ?_⟩
    have z := h7 w hw ((e w).1.mpr hf)
    unfold leS at *
    rw [(e b).2.1, (e w).2.1, (e b).2.2.1, (e w).2.2.1] at z
    exact z
theorem plW_off {FI A FI' A' : Nat → Nat → Int} (s : SAME FI A FI' A') {ts fs m k p t : Nat} (ht : t < 16) : plW A' ts fs m k p t = plW A ts fs m k p t := by
  unfold plW
  rw [s.2.2 (20 + t) 4 (by omega)]
theorem BJG_off {n : Nat} {FI A FI1 A1 : Nat → Nat → Int} {c ts fs nn m : Nat} (hh : HH n FI A c ts fs nn m) (s : SAME FI A FI1 A1) {N : Nat} {z x y : Int} {G : Nat → Int} (h : BJ (fun w => FIT A1 c (plW A1 ts fs m nn w)) (fun w => walkP A1 (plW A1 ts fs m nn w) c * FI1 6 9) (fun w => chg A1 ts fs m nn w) N z x y (fun b => ∀ t, t < c → G t = plW A1 ts fs m nn b t)) : BJ (fun w => FIT A c (plW A ts fs m nn w)) (fun w => walkP A (plW A ts fs m nn w) c * FI 6 9) (fun w => chg A ts fs m nn w) N z x y (fun b => ∀ t, t < c → G t = plW A ts fs m nn b t) := by
  have hc := hh.c
  refine h.congr (fun w => ⟨FIT_off s hc (fun t ht => plW_off s (by omega)) (hh.rg nn w), ?_, ?_, fun q t ht => ?_⟩)
  · rw [walkP_off s hc (fun t ht => plW_off s (by omega)), s.1.2.1]
  · refine sumN_congr nn (fun i hi => ?_)
    have hT := hh.T hi
    rw [s.2.2 (20 + nth ts i) 4 (by omega)]
  · rw [q t ht]
    exact plW_off s (by omega)
theorem pr_best {P : PP} {n : Nat} {FI A L : Nat → Nat → Int} {X : SX} (h : INV P n FI A X) (hn : n < 512) {fl ts w : Int} (hfl : inR fl) (hts : inR ts) (hw : inR w) : PAIR P n (FI, A, L, X) M_F_best [some (vr 5), some (vi fl), some (vi ts), some (vi w), none] M_G_best [some (vr 165), some (vi fl), some (vi ts), some (vi w), none] := by
  intro d
  have hm := h.mI
  have hn5 := h.1
  have hcI := h.2.1
  have hG := h.2.2.1
  have hk1 := hcI.1
  have g1 := hG.1
  obtain ⟨c, hc⟩ : ∃ c : Nat, FI 6 8 = (c : Int) := ⟨(FI 6 8).toNat, by omega⟩
  have hc2 : FI 165 0 = (c : Int) := by rw [g1]; exact hc
  have efx : ∀ t, t < c → A 178 t = A (20 + t) 5 := fun t ht => (hG.2.2.2.1 t (by omega)).2.2.2
  refine sp_F_best hcI hc hfl hts hw (fun k hk hy => ?_) (fun f9 t9 r FI1 A1 hy e1 e2 hw9 hh hs hJ hr => ?_)
  · refine ⟨_, rfl, ?_⟩
    have ef : ∀ t, t < c → rfC A k 178 t = A (20 + t) 5 := fun t ht => by
      have e : rfC A k 178 t = A 178 t := up2_ne (by omega)
      rw [e]; exact efx t ht
    refine sp_G_best (FIg := FI) (Ag := A) (hm.up (by omega)) hc2 hfl hts hw (fun q => ?_) (fun k' hk' hy' => ?_) (fun f9 t9 r z FI2 A2 hy' e1' e2' hw9' hh' hs' hJ' hr' => ?_)
    · have := whyS_uniq ef hy q
      omega
    · have := whyS_uniq ef hy hy'
      obtain rfl : k' = k := by omega
      exact ⟨rfl, INV_ref h hn (by omega)⟩
    · have := whyS_uniq ef hy hy'
      omega
  · refine ⟨_, rfl, ?_⟩
    have h' := h.off hs
    have ef : ∀ t, t < c → A1 178 t = A (20 + t) 5 := fun t ht => by rw [hs.2.2 178 t (by omega)]; exact efx t ht
    refine sp_G_best (FIg := FI) (Ag := A) h'.mI (hs.1.2.2.1.trans hc2) hfl hts hw (fun q => ⟨hcI, hc, hG.x.off ⟨hs.1.2.2.1, hs.1.2.2.2⟩ (fun a j q => hs.2.2 a j (by omega))⟩) (fun k' hk' hy' => ?_) (fun f9' t9' r' z FI2 A2 hy' e1' e2' hw9' hh' hs' hJ' hr' => ?_)
    · have := whyS_uniq ef hy hy'
      omega
    · obtain rfl : f9' = f9 := by omega
      obtain rfl : t9' = t9 := by omega
      have hl := hcI.2.1
      have u := BJ.uniq (hJ.scale (l := FI 6 9) hl.1) hJ'
      refine ⟨congrArg (fun z => some (vi z)) ?_, (h'.off hs').next hn⟩
      rcases u with ⟨u1, u2⟩ | ⟨u1, u2, u3, u4, b, u5⟩
      · omega
      · omega

/-! weekends, move and go: together -/
theorem INV.x {P : PP} {n : Nat} {FI A : Nat → Nat → Int} {X X1 : SX} (h : INV P n FI A X) (k : xI P X1) : INV P n FI A X1 := ⟨h.1, h.2.1, h.2.2.1, k⟩
theorem CDa.uniq {n : Nat} {FI A : Nat → Nat → Int} {c : Nat} {sw : Int} {s9 mv st s9' mv' st' : Nat} (a : CDa n FI A c sw s9 mv st) (b : CDa n FI A c sw s9' mv' st') : mv' = mv ∧ st' = st := by
  obtain rfl : s9' = s9 := by
    have := a.1
    have := b.1
    omega
  exact ⟨mvS_uniq (fun _ _ => rfl) a.2.1 b.2.1, stS_uniq (fun _ _ => ⟨rfl, rfl⟩) a.2.2.1 b.2.2.1⟩
theorem pr_weekends {P : PP} {n : Nat} {FI A L : Nat → Nat → Int} {X : SX} (h : INV P n FI A X) (hn : n < 512) {sw : Int} (hsw : inR sw) : PAIR P n (FI, A, L, X) M_F_weekends [some (vr 5), some (vi sw), none] M_G_weekends [some (vr 165), some (vi sw), none] := by
  intro d
  have hm := h.mI
  have hn5 := h.1
  have hcI := h.2.1
  have hG := h.2.2.1
  have hk1 := hcI.1
  have g1 := hG.1
  obtain ⟨c, hc⟩ : ∃ c : Nat, FI 6 8 = (c : Int) := ⟨(FI 6 8).toNat, by omega⟩
  have hc2 : FI 165 0 = (c : Int) := by rw [g1]; exact hc
  have efx : ∀ t, t < c → A 178 t = A (20 + t) 5 ∧ A 174 t = A (20 + t) 4 ∧ A 175 t = A (20 + t) 6 := fun t ht => by
    have g := hG.2.2.2.1 t (by omega)
    unfold gTm at g
    have := g.1 (by omega)
    omega
  refine sp_F_weekends hcI hc h.2.2.2 hsw (fun k hk hy => ?_) (fun s9 mv st r F1 B X1 hy hd hs hx1 hD => ?_)
  · refine ⟨_, rfl, ?_⟩
    have ef : ∀ t, t < c → rfC A k 178 t = A (20 + t) 5 ∧ rfC A k 174 t = A (20 + t) 4 ∧ rfC A k 175 t = A (20 + t) 6 := fun t ht => by
      rw [show rfC A k 178 t = A 178 t from up2_ne (by omega), show rfC A k 174 t = A 174 t from up2_ne (by omega), show rfC A k 175 t = A 175 t from up2_ne (by omega)]
      exact efx t ht
    refine sp_G_weekends (FIg := FI) (Ag := A) (hm.up (by omega)) hc2 hcI hc (hG.x.off ⟨rfl, rfl⟩ (fun a j q => up2_ne (by omega))) hsw (fun k' F2 B2 hk' hy' hs' => ?_) (fun s9' mv' st' r' F2 B2 hy' hd' hs' hD' => ?_)
    · have := whyM_uniq ef hy hy'
      obtain rfl : k' = k := by omega
      exact ⟨rfl, (INV_ref h hn (by omega)).off hs'.refG⟩
    · have := whyM_uniq ef hy hy'
      omega
  · refine ⟨_, rfl, ?_⟩
    have h' := h.off hs
    have ef : ∀ t, t < c → B 178 t = A (20 + t) 5 ∧ B 174 t = A (20 + t) 4 ∧ B 175 t = A (20 + t) 6 := fun t ht => by
      rw [show B 178 t = A 178 t from hs.2.2 _ _ (by omega), show B 174 t = A 174 t from hs.2.2 _ _ (by omega), show B 175 t = A 175 t from hs.2.2 _ _ (by omega)]
      exact efx t ht
    refine sp_G_weekends (FIg := FI) (Ag := A) h'.mI (hs.1.2.2.1.trans hc2) hcI hc (hG.x.off ⟨hs.1.2.2.1, hs.1.2.2.2⟩ (fun a j q => hs.2.2 a j (by omega))) hsw (fun k' F2 B2 hk' hy' hs' => ?_) (fun s9' mv' st' r' F2 B2 hy' hd' hs' hD' => ?_)
    · have := whyM_uniq ef hy hy'
      omega
    · obtain ⟨e1, e2⟩ := hd.uniq hd'
      subst e1 e2
      exact ⟨congrArg (fun z => some (vi z)) (DST.uniq (fun _ _ => rfl) hD hD'), ((h'.off hs').x hx1).next hn⟩
theorem pr_move {P : PP} {n : Nat} {FI A L : Nat → Nat → Int} {X : SX} (h : INV P n FI A X) (hn : n < 512) {sw i w : Int} (hsw : inR sw) (hi : inR i) (hw : inR w) : PAIR P n (FI, A, L, X) M_F_move [some (vr 5), some (vi sw), some (vi i), some (vi w), none, none] M_G_move [some (vr 165), some (vi sw), some (vi i), some (vi w), none, none, none] := by
  intro d
  have hm := h.mI
  have hn5 := h.1
  have hcI := h.2.1
  have hG := h.2.2.1
  have hk1 := hcI.1
  have g1 := hG.1
  obtain ⟨c, hc⟩ : ∃ c : Nat, FI 6 8 = (c : Int) := ⟨(FI 6 8).toNat, by omega⟩
  have hc2 : FI 165 0 = (c : Int) := by rw [g1]; exact hc
  have efx : ∀ t, t < c → A 178 t = A (20 + t) 5 ∧ A 174 t = A (20 + t) 4 ∧ A 175 t = A (20 + t) 6 := fun t ht => by
    have g := hG.2.2.2.1 t (by omega)
    unfold gTm at g
    have := g.1 (by omega)
    omega
  refine sp_F_move hcI hc h.2.2.2 hsw hi hw (fun k hk hy => ?_) (fun hy hw1 => ?_) (fun s9 mv st r F1 B X1 hy hd hs hx1 hD hw1 hi1 => ?_) (fun s9 mv st D i9 m s F1 B X1 hy hd hs hx1 hD hw1 hi1 hiD hW => ?_)
  · refine ⟨_, rfl, ?_⟩
    have ef : ∀ t, t < c → rfC A k 178 t = A (20 + t) 5 ∧ rfC A k 174 t = A (20 + t) 4 ∧ rfC A k 175 t = A (20 + t) 6 := fun t ht => by
      rw [show rfC A k 178 t = A 178 t from up2_ne (by omega), show rfC A k 174 t = A 174 t from up2_ne (by omega), show rfC A k 175 t = A 175 t from up2_ne (by omega)]
      exact efx t ht
    refine sp_G_move (FIg := FI) (Ag := A) (hm.up (by omega)) hc2 hcI hc (hG.x.off ⟨rfl, rfl⟩ (fun a j q => up2_ne (by omega))) hsw hi hw (fun k' F2 B2 hk' hy' hs' => ?_) (fun F2 B2 hy' hw' hs' => ?_) (fun s9' mv' st' r' F2 B2 hy' hd' hs' hD' hw' hi' => ?_) (fun s9' mv' st' D' i9' m' s' F2 B2 hy' hd' hs' hD' hw' hi' hiD' hW' => ?_)
    · have := whyM_uniq ef hy hy'
      obtain rfl : k' = k := by omega
      exact ⟨rfl, (INV_ref h hn (by omega)).off hs'.refG⟩
    · have := whyM_uniq ef hy hy'
      omega
    · have := whyM_uniq ef hy hy'
      omega
    · have := whyM_uniq ef hy hy'
      omega
  · refine ⟨_, rfl, ?_⟩
    have ef : ∀ t, t < c → rfC A 2 178 t = A (20 + t) 5 ∧ rfC A 2 174 t = A (20 + t) 4 ∧ rfC A 2 175 t = A (20 + t) 6 := fun t ht => by
      rw [show rfC A 2 178 t = A 178 t from up2_ne (by omega), show rfC A 2 174 t = A 174 t from up2_ne (by omega), show rfC A 2 175 t = A 175 t from up2_ne (by omega)]
      exact efx t ht
    refine sp_G_move (FIg := FI) (Ag := A) (hm.up (by omega)) hc2 hcI hc (hG.x.off ⟨rfl, rfl⟩ (fun a j q => up2_ne (by omega))) hsw hi hw (fun k' F2 B2 hk' hy' hs' => ?_) (fun F2 B2 hy' hw' hs' => ?_) (fun s9' mv' st' r' F2 B2 hy' hd' hs' hD' hw' hi' => ?_) (fun s9' mv' st' D' i9' m' s' F2 B2 hy' hd' hs' hD' hw' hi' hiD' hW' => ?_)
    · have := whyM_uniq ef hy hy'
      omega
    · exact ⟨rfl, (INV_ref h hn (by omega)).off hs'.refG⟩
    · exact absurd hw' hw1
    · exact absurd hw' hw1
  · refine ⟨_, rfl, ?_⟩
    have h' := h.off hs
    have ef : ∀ t, t < c → B 178 t = A (20 + t) 5 ∧ B 174 t = A (20 + t) 4 ∧ B 175 t = A (20 + t) 6 := fun t ht => by
      rw [show B 178 t = A 178 t from hs.2.2 _ _ (by omega), show B 174 t = A 174 t from hs.2.2 _ _ (by omega), show B 175 t = A 175 t from hs.2.2 _ _ (by omega)]
      exact efx t ht
    refine sp_G_move (FIg := FI) (Ag := A) h'.mI (hs.1.2.2.1.trans hc2) hcI hc (hG.x.off ⟨hs.1.2.2.1, hs.1.2.2.2⟩ (fun a j q => hs.2.2 a j (by omega))) hsw hi hw (fun k' F2 B2 hk' hy' hs' => ?_) (fun F2 B2 hy' hw' hs' => ?_) (fun s9' mv' st' r' F2 B2 hy' hd' hs' hD' hw' hi' => ?_) (fun s9' mv' st' D' i9' m' s' F2 B2 hy' hd' hs' hD' hw' hi' hiD' hW' => ?_)
    · have := whyM_uniq ef hy hy'
      omega
    · exact absurd hw1 hw'
    · exact ⟨rfl, ((h'.off hs').x hx1).next hn⟩
    · obtain ⟨e1, e2⟩ := hd.uniq hd'
      subst e1 e2
      have := DST.uniq (fun _ _ => rfl) hD hD'
      exact absurd ⟨by omega, by omega⟩ hi1
  · refine ⟨_, rfl, ?_⟩
    have h' := h.off hs
    have ef : ∀ t, t < c → B 178 t = A (20 + t) 5 ∧ B 174 t = A (20 + t) 4 ∧ B 175 t = A (20 + t) 6 := fun t ht => by
      rw [show B 178 t = A 178 t from hs.2.2 _ _ (by omega), show B 174 t = A 174 t from hs.2.2 _ _ (by omega), show B 175 t = A 175 t from hs.2.2 _ _ (by omega)]
      exact efx t ht
    refine sp_G_move (FIg := FI) (Ag := A) h'.mI (hs.1.2.2.1.trans hc2) hcI hc (hG.x.off ⟨hs.1.2.2.1, hs.1.2.2.2⟩ (fun a j q => hs.2.2 a j (by omega))) hsw hi hw (fun k' F2 B2 hk' hy' hs' => ?_) (fun F2 B2 hy' hw' hs' => ?_) (fun s9' mv' st' r' F2 B2 hy' hd' hs' hD' hw' hi' => ?_) (fun s9' mv' st' D' i9' m' s' F2 B2 hy' hd' hs' hD' hw' hi' hiD' hW' => ?_)
    · have := whyM_uniq ef hy hy'
      omega
    · exact absurd hw1 hw'
    · obtain ⟨e1, e2⟩ := hd.uniq hd'
      subst e1 e2
      have := DST.uniq (fun _ _ => rfl) hD hD'
      exact absurd ⟨by omega, by omega⟩ hi'
    · obtain ⟨e1, e2⟩ := hd.uniq hd'
      subst e1 e2
      have := DST.uniq (fun _ _ => rfl) hD hD'
      obtain rfl : D' = D := by omega
      obtain rfl : i9' = i9 := by omega
      obtain ⟨e3, e4⟩ := WLK.uniq i9' D' (fun _ _ => rfl) hW hW'
      subst e3 e4
      exact ⟨rfl, ((h'.off hs').x hx1).next hn⟩
theorem pr_go {P : PP} {n : Nat} {FI A L : Nat → Nat → Int} {X : SX} (h : INV P n FI A X) (hn : n < 512) {sw : Int} (hsw : inR sw) : PAIR P n (FI, A, L, X) M_F_go [some (vr 5), some (vi sw), none, none] M_G_go [some (vr 165), some (vi sw), none, none] := by
  intro d
  have hm := h.mI
  have hn5 := h.1
  have hcI := h.2.1
  have hG := h.2.2.1
  have hk1 := hcI.1
  have g1 := hG.1
  obtain ⟨c, hc⟩ : ∃ c : Nat, FI 6 8 = (c : Int) := ⟨(FI 6 8).toNat, by omega⟩
  have hc2 : FI 165 0 = (c : Int) := by rw [g1]; exact hc
  have efx : ∀ t, t < c → A 178 t = A (20 + t) 5 ∧ A 174 t = A (20 + t) 4 ∧ A 175 t = A (20 + t) 6 := fun t ht => by
    have g := hG.2.2.2.1 t (by omega)
    unfold gTm at g
    have := g.1 (by omega)
    omega
  refine sp_F_go hcI hc h.2.2.2 hsw (fun k hk hy => ?_) (fun s9 mv st F1 B X1 hy hd hs hx1 hD => ?_) (fun s9 mv st r F1 B B2 X1 hy hd hs hx1 hD hr b1 b2 => ?_)
  · refine ⟨_, rfl, ?_⟩
    have ef : ∀ t, t < c → rfC A k 178 t = A (20 + t) 5 ∧ rfC A k 174 t = A (20 + t) 4 ∧ rfC A k 175 t = A (20 + t) 6 := fun t ht => by
      rw [show rfC A k 178 t = A 178 t from up2_ne (by omega), show rfC A k 174 t = A 174 t from up2_ne (by omega), show rfC A k 175 t = A 175 t from up2_ne (by omega)]
      exact efx t ht
    refine sp_G_go (FIg := FI) (Ag := A) (hm.up (by omega)) hc2 hcI hc (hG.x.off ⟨rfl, rfl⟩ (fun a j q => up2_ne (by omega))) hsw (fun k' F2 B3 hk' hy' hs' => ?_) (fun s9' mv' st' F2 B3 hy' hd' hs' hD' => ?_) (fun s9' mv' st' r' F2 B3 B4 hy' hd' hs' hD' hr' c1 c2 => ?_)
    · have := whyM_uniq ef hy hy'
      obtain rfl : k' = k := by omega
      exact ⟨rfl, (INV_ref h hn (by omega)).off hs'.refG⟩
    · have := whyM_uniq ef hy hy'
      omega
    · have := whyM_uniq ef hy hy'
      omega
  · refine ⟨_, rfl, ?_⟩
    have h' := h.off hs
    have ef : ∀ t, t < c → rfC B 3 178 t = A (20 + t) 5 ∧ rfC B 3 174 t = A (20 + t) 4 ∧ rfC B 3 175 t = A (20 + t) 6 := fun t ht => by
      rw [show rfC B 3 178 t = A 178 t from (up2_ne (by omega)).trans (hs.2.2 _ _ (by omega)), show rfC B 3 174 t = A 174 t from (up2_ne (by omega)).trans (hs.2.2 _ _ (by omega)), show rfC B 3 175 t = A 175 t from (up2_ne (by omega)).trans (hs.2.2 _ _ (by omega))]
      exact efx t ht
    refine sp_G_go (FIg := FI) (Ag := A) (h'.mI.up (by omega)) (hs.1.2.2.1.trans hc2) hcI hc (hG.x.off ⟨hs.1.2.2.1, hs.1.2.2.2⟩ (fun a j q => (up2_ne (by omega)).trans (hs.2.2 a j (by omega)))) hsw (fun k' F2 B3 hk' hy' hs' => ?_) (fun s9' mv' st' F2 B3 hy' hd' hs' hD' => ?_) (fun s9' mv' st' r' F2 B3 B4 hy' hd' hs' hD' hr' c1 c2 => ?_)
    · have := whyM_uniq ef hy hy'
      omega
    · exact ⟨rfl, ((INV_ref h' hn (by omega)).off hs'.refG).x hx1⟩
    · obtain ⟨e1, e2⟩ := hd.uniq hd'
      subst e1 e2
      exact absurd (DST.uniq (fun _ _ => rfl) hD hD') hr'
  · refine ⟨_, rfl, ?_⟩
    have h' := h.off hs
    have hc16 := hd.2.2.2.2.c
    have ef : ∀ t, t < c → B2 178 t = A (20 + t) 5 ∧ B2 174 t = A (20 + t) 4 ∧ B2 175 t = A (20 + t) 6 := fun t ht => by
      rw [show B2 178 t = A 178 t from (b1 _ _ (by omega)).trans (hs.2.2 _ _ (by omega)), show B2 174 t = A 174 t from (b1 _ _ (by omega)).trans (hs.2.2 _ _ (by omega)), show B2 175 t = A 175 t from (b1 _ _ (by omega)).trans (hs.2.2 _ _ (by omega))]
      exact efx t ht
    refine sp_G_go (FIg := FI) (Ag := A) (h'.mI.off (fun _ => rfl) (fun a j q => b1 a j (by omega))) (hs.1.2.2.1.trans hc2) hcI hc (hG.x.off ⟨hs.1.2.2.1, hs.1.2.2.2⟩ (fun a j q => (b1 a j (by omega)).trans (hs.2.2 a j (by omega)))) hsw (fun k' F2 B3 hk' hy' hs' => ?_) (fun s9' mv' st' F2 B3 hy' hd' hs' hD' => ?_) (fun s9' mv' st' r' F2 B3 B4 hy' hd' hs' hD' hr' c1 c2 => ?_)
    · have := whyM_uniq ef hy hy'
      omega
    · obtain ⟨e1, e2⟩ := hd.uniq hd'
      subst e1 e2
      exact absurd (DST.uniq (fun _ _ => rfl) hD' hD) hr
    · obtain ⟨e1, e2⟩ := hd.uniq hd'
      subst e1 e2
      refine ⟨congrArg (fun z => some (vi z)) (DST.uniq (fun _ _ => rfl) hD hD'), ?_⟩
      have lo : ∀ a j, (a ≤ 137 ∨ (164 ≤ a ∧ a ≤ 185)) → ¬ (20 ≤ a ∧ a < 20 + c ∧ (j = 4 ∨ j = 6)) → ¬ ((a = 174 ∨ a = 175) ∧ j < c) → B4 a j = A a j := fun a j q1 q2 q3 => by
        rw [c1 a j q3, hs'.2.2 a j q1, b1 a j q2]
        exact hs.2.2 a j q1
      have z : INV P (n + 1) F2 B4 X := by
        refine INV_pt h hn hc (fun t => if A (20 + t) 6 = -9 then A (20 + t) 4 else A (20 + t) 6) (fun _ => -9) (fun t ht => ?_) ⟨hs'.1.1.trans hs.1.1, hs'.1.2.1.trans hs.1.2.1, hs'.1.2.2.1.trans hs.1.2.2.1, hs'.1.2.2.2.trans hs.1.2.2.2⟩ ?_ (fun a j q1 q2 q3 => lo a j q1 (by omega) (by omega)) (fun t ht => ?_) (fun t ht1 ht2 => ⟨lo _ _ (by omega) (by omega) (by omega), lo _ _ (by omega) (by omega) (by omega)⟩) (fun t ht => ?_)
        · have q := hcI.2.2.2.1 t (by omega)
          unfold cTm at q
          refine ⟨?_, Or.inl rfl⟩
          split <;> omega
        · rw [c1 163 11 (by omega), hs'.2.1, b1 163 11 (by omega)]
          exact hs.2.1
        · have q := b2 t ht
          rw [c1 _ _ (by omega), c1 _ _ (by omega), hs'.2.2 _ _ (by omega), hs'.2.2 _ _ (by omega)]
          exact q
        · have q := c2 t ht
          have e := ef t ht
          rw [e.2.1, e.2.2] at q
          exact q
      exact z.x hx1

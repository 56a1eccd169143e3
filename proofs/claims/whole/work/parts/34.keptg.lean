/-! kept: the reference, both sides -/
theorem JK.congr {S C S' C' : Nat → Int} {hset : Nat} {need z x y : Int} {D : Nat → Prop} (h : JK S C hset need z x y D) (e : ∀ f, f < 11 → S f = S' f ∧ C f = C' f) : JK S' C' hset need z x y D := by
  have eS : ∀ s, rmS S s 11 = rmS S' s 11 := fun s => sumN_congr 11 (fun f hf => by rw [(e f hf).1])
  have eC : ∀ s, rmS C s 11 = rmS C' s 11 := fun s => sumN_congr 11 (fun f hf => by rw [(e f hf).2])
  have eo : ∀ u, okF S hset need u ↔ okF S' hset need u := fun u => by unfold okF; rw [eS]
  rcases h with ⟨q1, q2, q3⟩ | ⟨b, q1, q2, q3, q4, q5⟩
  · exact Or.inl ⟨q1, q2, fun s hs9 hd ho9 => q3 s hs9 hd ((eo s).mpr ho9)⟩
  · refine Or.inr ⟨b, q1, q2, (eo b).mp q3, by rw [q4, eC], fun s hs9 hd ho9 => ?_⟩
    have z := q5 s hs9 hd ((eo s).mpr ho9)
    unfold leK at z ⊢
    rw [eC, eC] at z
    exact z
theorem sp_G_kept_no {P : PP} {d : Nat} {FI A L : Nat → Nat → Int} {X : SX} {Q : Option AV → S2 → Prop} {q w : Int} (hq0 : inR q) (hw : inR w) (hno : (q < 0 ∨ 20 ≤ q) ∨ (w < 0 ∨ 1 < w)) (r1 : (q < 0 ∨ 20 ≤ q) → Q (some (vi (-1))) (FI, rfG A 1, L, X)) (r2 : (0 ≤ q ∧ q < 20 ∧ (w < 0 ∨ 1 < w)) → Q (some (vi (-2))) (FI, rfG A 2, L, X)) : WP2 P M_G_kept (d + 1) 0 [some (vr 165), some (vi q), some (vi w), none, none, none, none, none, none, none, none] [] (FI, A, L, X) Q := by
  obtain ⟨lw, uw⟩ := id hw
  obtain ⟨lq, uq⟩ := id hq0
  refine WP_n 1 rfl ?_
  refine WP_iflt rfl rfl ⟨by omega, by omega⟩ (fun h1 => ?_) (fun h1 => ?_)
  · refine WP_n 2 rfl ?_
    refine WP2_callV 1 ok_M_G_no rfl rfl rfl rfl rfl rfl (Nat.le_of_ble_eq_true rfl) (Nat.le_of_ble_eq_true rfl) rfl rfl ?_
    refine sp_no (k := 1) rfl (by omega) ?_
    exact WP_iret rfl rfl rfl ⟨_, rfl, r1 (by omega)⟩
  · refine WP_n 2 rfl ?_
    refine WP_icmple rfl rfl ⟨by omega, by omega⟩ ⟨by omega, by omega⟩ (fun h4 => ?_) (fun h4 => ?_)
    · refine WP_n 1 rfl ?_
      refine WP_iflt rfl rfl ⟨by omega, by omega⟩ (fun h10 => ?_) (fun h10 => ?_)
      · refine WP_n 2 rfl ?_
        refine WP2_callV 1 ok_M_G_no rfl rfl rfl rfl rfl rfl (Nat.le_of_ble_eq_true rfl) (Nat.le_of_ble_eq_true rfl) rfl rfl ?_
        refine sp_no (k := 2) rfl (by omega) ?_
        exact WP_iret rfl rfl rfl ⟨_, rfl, r2 (by omega)⟩
      · refine WP_n 2 rfl ?_
        refine WP_icmple rfl rfl ⟨by omega, by omega⟩ ⟨by omega, by omega⟩ (fun h13 => absurd h13 (by omega)) (fun h13 => ?_)
        refine WP_n 2 rfl ?_
        refine WP2_callV 1 ok_M_G_no rfl rfl rfl rfl rfl rfl (Nat.le_of_ble_eq_true rfl) (Nat.le_of_ble_eq_true rfl) rfl rfl ?_
        refine sp_no (k := 2) rfl (by omega) ?_
        exact WP_iret rfl rfl rfl ⟨_, rfl, r2 (by omega)⟩
    · refine WP_n 2 rfl ?_
      refine WP2_callV 1 ok_M_G_no rfl rfl rfl rfl rfl rfl (Nat.le_of_ble_eq_true rfl) (Nat.le_of_ble_eq_true rfl) rfl rfl ?_
      refine sp_no (k := 1) rfl (by omega) ?_
      exact WP_iret rfl rfl rfl ⟨_, rfl, r1 (by omega)⟩
theorem sp_G_kept {P : PP} {d n c : Nat} {FI A L : Nat → Nat → Int} {X : SX} {Q : Option AV → S2 → Prop} (hI : mI n FI A) (hc : FI 165 0 = (c : Int)) {q9 hset : Nat} {w : Int} (hq9 : q9 < 20) (hw : 0 ≤ w ∧ w ≤ 1) (hH : ∀ f, f < 11 → (hset.testBit f = true ↔ (q9 : Int) ≤ A 169 f)) (ok : ∀ x y r : Int, JK (A 166) (fun f => A 166 f * A 168 f) hset (sumN (fun t => fore (fun j => A 184 (20 * t + j)) (A 170 t) (q9 + 1)) c) 0 x y (fun _ => True) → ((x = -9 ∧ r = -9) ∨ (x ≠ -9 ∧ ((w = 0 ∧ r = x) ∨ (w = 1 ∧ r = y)))) → Q (some (vi r)) (FI, A, L, X)) : WP2 P M_G_kept (d + 1) 0 [some (vr 165), some (vi (q9 : Int)), some (vi w), none, none, none, none, none, none, none, none] [] (FI, A, L, X) Q := by
  have hcc := hI.2.1
  have hS : ∀ f, f < 11 → 0 ≤ (A 166) f ∧ (A 166) f ≤ 300 := fun f hf => by
    have := hI.2.2.2.1 f hf
    unfold mFl at this
    omega
  have hC : ∀ f, f < 11 → 0 ≤ (fun f => A 166 f * A 168 f) f ∧ (fun f => A 166 f * A 168 f) f ≤ 299700 := fun f hf => by
    have := hI.2.2.2.1 f hf
    unfold mFl at this
    exact mulB (x := A 166 f) (y := A 168 f) (a := 300) (b := 999) (by omega) (by omega) (by omega) (by omega)
  have hnb : 0 ≤ sumN (fun t => fore (fun j => A 184 (20 * t + j)) (A 170 t) (q9 + 1)) c ∧ sumN (fun t => fore (fun j => A 184 (20 * t + j)) (A 170 t) (q9 + 1)) c ≤ 4000 := by
    have := sumN_bd (f := (fun t => fore (fun j => A 184 (20 * t + j)) (A 170 t) (q9 + 1))) (lo := 0) (hi := 200) c (fun t ht => by
      have q := hI.2.2.2.2.1 t (by omega)
      unfold mTm at q
      exact fore_bd (by omega) _ (fun j hj => by
        have r := hI.2.2.2.2.2.2.1 (20 * t + j) (by omega)
        unfold mPp at r
        show -1 ≤ A 184 (20 * t + j) ∧ A 184 (20 * t + j) ≤ 200
        omega))
    omega
  refine WP_n 1 rfl ?_
  refine WP_iflt rfl rfl ⟨by omega, by omega⟩ (fun h1 => absurd h1 (by omega)) (fun h1 => ?_)
  refine WP_n 2 rfl ?_
  refine WP_icmple rfl rfl ⟨by omega, by omega⟩ ⟨by omega, by omega⟩ (fun h4 => ?_) (fun h4 => absurd h4 (by omega))
  refine WP_n 1 rfl ?_
  refine WP_iflt rfl rfl ⟨by omega, by omega⟩ (fun h10 => absurd h10 (by omega)) (fun h10 => ?_)
  refine WP_n 2 rfl ?_
  refine WP_icmple rfl rfl ⟨by omega, by omega⟩ ⟨by omega, by omega⟩ (fun h13 => ?_) (fun h13 => absurd h13 (by omega))
  refine WP_n 4 rfl ?_
  refine up_to (P := fun t => WP2 P M_G_kept (d + 1) 22 [some (vr 165), some (vi (q9 : Int)), some (vi w), some (vi (sumN (fun t => fore (fun j => A 184 (20 * t + j)) (A 170 t) (q9 + 1)) t)), some (vi (t : Int)), none, none, none, none, none, none] [] (FI, A, L, X) Q) c ?_ ?_ 0 (by omega)
  · refine WP_n 2 rfl ?_
    refine WP2_getf rfl rfl rfl rfl rfl ?_
    refine WP_icmpge rfl rfl ⟨by omega, by omega⟩ ⟨by omega, by omega⟩ (fun h25 => ?_) (fun h25 => absurd h25 (by omega))
    generalize sumN (fun t => fore (fun j => A 184 (20 * t + j)) (A 170 t) (q9 + 1)) c = need at hnb ok ⊢
    refine WP_n 6 rfl ?_
    suffices hh : ∀ s, s ≤ 2048 → ∀ x y : Int, JK (A 166) (fun f => A 166 f * A 168 f) hset need 0 x y (fun u => u < s) → (x = -9 ∨ x < (s : Int)) → WP2 P M_G_kept (d + 1) 41 [some (vr 165), some (vi (q9 : Int)), some (vi w), some (vi need), some (vi x), some (vi y), some (vi (s : Int)), none, none, none, none] [] (FI, A, L, X) Q from hh 0 (by omega) (-9) 0 (Or.inl ⟨rfl, rfl, fun s _ h => absurd h (by omega)⟩) (Or.inl rfl)
    refine up_to (P := fun s => ∀ x y : Int, JK (A 166) (fun f => A 166 f * A 168 f) hset need 0 x y (fun u => u < s) → (x = -9 ∨ x < (s : Int)) → WP2 P M_G_kept (d + 1) 41 [some (vr 165), some (vi (q9 : Int)), some (vi w), some (vi need), some (vi x), some (vi y), some (vi (s : Int)), none, none, none, none] [] (FI, A, L, X) Q) 2048 ?_ ?_
    · intro x y hJ hxs
      have hxr : inR x := by
        rcases hJ with q | ⟨b, q1, q2, q3, q4, q5⟩
        · exact ⟨by omega, by omega⟩
        · exact ⟨by omega, by omega⟩
      have hJ9 : JK (A 166) (fun f => A 166 f * A 168 f) hset need 0 x y (fun _ => True) := hJ.mono (fun u hu _ _ => hu)
      refine WP_n 2 rfl ?_
      refine WP_icmpge rfl rfl ⟨by omega, by omega⟩ ⟨by omega, by omega⟩ (fun h43 => ?_) (fun h43 => absurd h43 (by omega))
      refine WP_n 2 rfl ?_
      refine WP_icmpne rfl rfl hxr ⟨by omega, by omega⟩ (fun h123 => ?_) (fun h123 => ?_)
      · refine WP_n 1 rfl ?_
        refine WP_ifne rfl rfl ⟨by omega, by omega⟩ (fun h127 => ?_) (fun h127 => ?_)
        · refine WP_n 1 rfl ?_
          exact WP_iret rfl rfl rfl ⟨_, rfl, ok x y _ hJ9 (Or.inr ⟨h123, Or.inr ⟨by omega, rfl⟩⟩)⟩
        · refine WP_n 2 rfl ?_
          exact WP_iret rfl rfl rfl ⟨_, rfl, ok x y _ hJ9 (Or.inr ⟨h123, Or.inl ⟨by omega, rfl⟩⟩)⟩
      · refine WP_n 2 rfl ?_
        exact WP_iret rfl rfl rfl ⟨_, rfl, ok x y _ hJ9 (Or.inl ⟨by omega, rfl⟩)⟩
    · intro s hs ih x y hJ hxs
      have hxs1 : x = -9 ∨ x < ((s + 1 : Nat) : Int) := by omega
      have hx : x = -9 ∨ ∃ b : Nat, x = (b : Int) ∧ b < s ∧ y = rmS (fun f => A 166 f * A 168 f) b 11 := by
        rcases hJ with q | ⟨b, q1, q2, q3, q4, q5⟩
        · exact Or.inl q.1
        · refine Or.inr ⟨b, q1, ?_, q4⟩
          omega
      have hyr : inR y := by
        rcases hJ with q | ⟨b, q1, q2, q3, q4, q5⟩
        · exact ⟨by omega, by omega⟩
        · have := rmS_bd (S := (fun f => A 166 f * A 168 f)) (hi := 299700) (by omega) b 11 hC
          exact ⟨by omega, by omega⟩
      have hxr : inR x := by
        rcases hx with q | ⟨b, q1, q2, q3⟩ <;> exact ⟨by omega, by omega⟩
      refine WP_n 2 rfl ?_
      refine WP_icmpge rfl rfl ⟨by omega, by omega⟩ ⟨by omega, by omega⟩ (fun h43 => absurd h43 (by omega)) (fun h43 => ?_)
      refine WP_n 8 rfl ?_
      have fin : ∀ x' y' rr cc zz : Int, JK (A 166) (fun f => A 166 f * A 168 f) hset need 0 x' y' (fun u => u < s + 1) → (x' = -9 ∨ x' < ((s + 1 : Nat) : Int)) → WP2 P M_G_kept (d + 1) 119 [some (vr 165), some (vi (q9 : Int)), some (vi w), some (vi need), some (vi x'), some (vi y'), some (vi (s : Int)), some (vi rr), some (vi cc), some (vi zz), some (vi 11)] [] (FI, A, L, X) Q := fun x' y' rr cc zz hj hj9 => WP_n 2 rfl (WP2_kill 7 (WP2_kill 8 (WP2_kill 9 (WP2_kill 10 (ih x' y' hj hj9)))))
      suffices hh : ∀ f, f ≤ 11 → ∀ z : Int, ((z = 1 ∧ ∀ g, g < f → s.testBit g = true → hset.testBit g = true) ∨ (z = 0 ∧ ∃ g, g < f ∧ s.testBit g = true ∧ ¬ hset.testBit g = true)) → WP2 P M_G_kept (d + 1) 52 [some (vr 165), some (vi (q9 : Int)), some (vi w), some (vi need), some (vi x), some (vi y), some (vi (s : Int)), some (vi (rmS (A 166) s f)), some (vi (rmS (fun f => A 166 f * A 168 f) s f)), some (vi z), some (vi (f : Int))] [] (FI, A, L, X) Q from hh 0 (by omega) 1 (Or.inl ⟨rfl, fun g hg => absurd hg (by omega)⟩)
      refine up_to (P := fun f => ∀ z : Int, ((z = 1 ∧ ∀ g, g < f → s.testBit g = true → hset.testBit g = true) ∨ (z = 0 ∧ ∃ g, g < f ∧ s.testBit g = true ∧ ¬ hset.testBit g = true)) → WP2 P M_G_kept (d + 1) 52 [some (vr 165), some (vi (q9 : Int)), some (vi w), some (vi need), some (vi x), some (vi y), some (vi (s : Int)), some (vi (rmS (A 166) s f)), some (vi (rmS (fun f => A 166 f * A 168 f) s f)), some (vi z), some (vi (f : Int))] [] (FI, A, L, X) Q) 11 ?_ ?_
      · intro z hz
        have fin := fun x' y' => fin x' y' (rmS (A 166) s 11) (rmS (fun f => A 166 f * A 168 f) s 11) z
        have hall : ¬ z = 0 → ∀ g, g < 11 → s.testBit g = true → hset.testBit g = true := fun q => by
          rcases hz with z1 | z1
          · exact z1.2
          · exact absurd z1.1 q
        have bS := rmS_bd (S := (A 166)) (hi := 300) (by omega) s 11 hS
        have bC := rmS_bd (S := (fun f => A 166 f * A 168 f)) (hi := 299700) (by omega) s 11 hC
        refine WP_n 2 rfl ?_
        refine WP_icmpge rfl rfl ⟨by omega, by omega⟩ ⟨by omega, by omega⟩ (fun h54 => ?_) (fun h54 => absurd h54 (by omega))
        refine WP_n 1 rfl ?_
        refine WP_ifeq rfl rfl ⟨by omega, by omega⟩ (fun h96 => ?_) (fun h96 => ?_)
        · exact fin _ _ (hJ.mono (fun u hu hd ho => by
            by_cases e : u = s
            · rw [e] at ho
              exact absurd ho (fun q => by
                rcases hz with z1 | z1
                · exact absurd z1.1 (by omega)
                · obtain ⟨g, g1, g2, g3⟩ := z1.2
                  exact g3 (q.1 g g1 g2))
            · show u < s
              omega)) hxs1
        · refine WP_n 2 rfl ?_
          refine WP_icmpge rfl rfl ⟨by omega, by omega⟩ ⟨by omega, by omega⟩ (fun h99 => ?_) (fun h99 => ?_)
          · refine WP_n 2 rfl ?_
            refine WP_icmpeq rfl rfl hxr ⟨by omega, by omega⟩ (fun h103 => ?_) (fun h103 => ?_)
            · refine WP_n 4 rfl ?_
              exact fin _ _ ((hJ.put (t := s) (E := fun u => u = s) (by omega) ⟨hall (by omega), by omega⟩ (Or.inl h103) (fun u _ e _ => by rw [e]; unfold leK; omega)).mono (fun u hu hd ho => by by_cases e : u = s; exact Or.inr e; exact Or.inl (by omega))) (Or.inr (by omega))
            · refine WP_n 2 rfl ?_
              refine WP_icmplt rfl rfl ⟨by omega, by omega⟩ hyr (fun h106 => ?_) (fun h106 => ?_)
              · refine WP_n 4 rfl ?_
                exact fin _ _ ((hJ.put (t := s) (E := fun u => u = s) (by omega) ⟨hall (by omega), by omega⟩ (Or.inr (Or.inl (by omega))) (fun u _ e _ => by rw [e]; unfold leK; omega)).mono (fun u hu hd ho => by by_cases e : u = s; exact Or.inr e; exact Or.inl (by omega))) (Or.inr (by omega))
              · refine WP_n 2 rfl ?_
                refine WP_icmpne rfl rfl ⟨by omega, by omega⟩ hyr (fun h109 => ?_) (fun h109 => ?_)
                · obtain ⟨b, b1, b2, b3⟩ := hx.resolve_left h103
                  exact fin _ _ ((hJ.stay (t := s) (E := fun u => u = s) (fun q => by unfold bet at q; omega) (fun u _ e _ => by rw [e]; unfold leK; omega)).mono (fun u hu hd ho => by by_cases e : u = s; exact Or.inr e; exact Or.inl (by omega))) hxs1
                · refine WP_n 1 rfl ?_
                  refine WP2_callS 1 ok_M_G_bits rfl rfl rfl rfl rfl rfl rfl (Nat.le_of_ble_eq_true rfl) (Nat.le_of_ble_eq_true rfl) ?_
                  refine sp_bits (by omega) ?_
                  rw [show sumN (fun k => (bitN s k : Int)) 16 = cnt s from rfl]
                  have k1 := cnt_bd s
                  refine WP_n 1 rfl ?_
                  refine WP2_callS 1 ok_M_G_bits rfl rfl rfl rfl rfl rfl rfl (Nat.le_of_ble_eq_true rfl) (Nat.le_of_ble_eq_true rfl) ?_
                  obtain ⟨b, b1, b2, b3⟩ := hx.resolve_left h103
                  rw [b1]
                  refine sp_bits (by omega) ?_
                  rw [show sumN (fun k => (bitN b k : Int)) 16 = cnt b from rfl]
                  have k2 := cnt_bd b
                  have hbn : x.toNat = b := by omega
                  refine WP_icmpge rfl rfl ⟨by omega, by omega⟩ ⟨by omega, by omega⟩ (fun h114 => ?_) (fun h114 => ?_)
                  · rw [← b1]
                    exact fin _ _ ((hJ.stay (t := s) (E := fun u => u = s) (fun q => by unfold bet at q; rw [hbn] at q; omega) (fun u _ e _ => by rw [e]; unfold leK; omega)).mono (fun u hu hd ho => by by_cases e : u = s; exact Or.inr e; exact Or.inl (by omega))) hxs1
                  · refine WP_n 4 rfl ?_
                    exact fin _ _ ((hJ.put (t := s) (E := fun u => u = s) (by omega) ⟨hall (by omega), by omega⟩ (Or.inr (Or.inr ⟨by omega, Or.inl (by rw [hbn]; omega)⟩)) (fun u _ e _ => by rw [e]; unfold leK; omega)).mono (fun u hu hd ho => by by_cases e : u = s; exact Or.inr e; exact Or.inl (by omega))) (Or.inr (by omega))
          · refine WP_n 1 rfl ?_
            exact fin _ _ (hJ.mono (fun u hu hd ho => by
              by_cases e : u = s
              · rw [e] at ho
                exact absurd ho (fun q => absurd q.2 (by omega))
              · show u < s
                omega)) hxs1
      · intro f hf ih2 z hz
        have hfl := hI.2.2.2.1 f (by omega)
        unfold mFl at hfl
        have next : ∀ z' : Int, ((z' = 1 ∧ ∀ g, g < (f + 1) → s.testBit g = true → hset.testBit g = true) ∨ (z' = 0 ∧ ∃ g, g < (f + 1) ∧ s.testBit g = true ∧ ¬ hset.testBit g = true)) → WP2 P M_G_kept (d + 1) 93 [some (vr 165), some (vi (q9 : Int)), some (vi w), some (vi need), some (vi x), some (vi y), some (vi (s : Int)), some (vi (rmS (A 166) s (f + 1))), some (vi (rmS (fun f => A 166 f * A 168 f) s (f + 1))), some (vi z'), some (vi (f : Int))] [] (FI, A, L, X) Q := fun z' h => WP_n 2 rfl (ih2 z' h)
        refine WP_n 2 rfl ?_
        refine WP_icmpge rfl rfl ⟨by omega, by omega⟩ ⟨by omega, by omega⟩ (fun h54 => absurd h54 (by omega)) (fun h54 => ?_)
        refine WP_n 5 rfl ?_
        rw [iBit (by omega) (by omega)]
        have hbl := bitN_le s f
        refine WP_ifne rfl rfl ⟨by omega, by omega⟩ (fun h60 => ?_) (fun h60 => ?_)
        · refine WP_n 1 rfl ?_
          refine WP_ifeq rfl rfl ⟨by omega, by omega⟩ (fun h63 => ?_) (fun h63 => ?_)
          · refine WP_n 4 rfl ?_
            refine WP2_getf rfl rfl rfl rfl rfl ?_
            refine WP_n 1 rfl ?_
            refine WP2_iald (j := f) rfl rfl (ia_lit (n := 11) rfl rfl (by omega)) (by omega) (by omega) (by omega) ?_
            refine WP_n 4 rfl ?_
            refine WP2_getf rfl rfl rfl rfl rfl ?_
            refine WP_n 1 rfl ?_
            refine WP2_iald (j := f) rfl rfl (ia_lit (n := 11) rfl rfl (by omega)) (by omega) (by omega) (by omega) ?_
            refine WP_n 1 rfl ?_
            refine WP2_getf rfl rfl rfl rfl rfl ?_
            refine WP_n 1 rfl ?_
            refine WP2_iald (j := f) rfl rfl (ia_lit (n := 11) rfl rfl (by omega)) (by omega) (by omega) (by omega) ?_
            refine WP_n 3 rfl ?_
            have hbt : s.testBit f = true := by
              cases hb : s.testBit f
              · rw [bitN_0 hb] at h60
                exact absurd rfl h60
              · rfl
            rw [show (rmS (A 166) s (f + 1)) = (rmS (A 166) s f) + A 166 f by show (rmS (A 166) s f) + (if _ then _ else _) = _; rw [if_pos hbt], show (rmS (fun f => A 166 f * A 168 f) s (f + 1)) = (rmS (fun f => A 166 f * A 168 f) s f) + A 166 f * A 168 f by show (rmS (fun f => A 166 f * A 168 f) s f) + (if _ then _ else _) = _; rw [if_pos hbt]] at next
            refine next 0 (Or.inr ⟨rfl, ?_⟩)
            rcases hz with z1 | z1
            · exact absurd z1.1 (by omega)
            · obtain ⟨g, g1, g2, g3⟩ := z1.2
              exact ⟨g, by omega, g2, g3⟩
          · refine WP_n 1 rfl ?_
            refine WP2_getf rfl rfl rfl rfl rfl ?_
            refine WP_n 1 rfl ?_
            refine WP2_iald (j := f) rfl rfl (ia_lit (n := 11) rfl rfl (by omega)) (by omega) (by omega) (by omega) ?_
            refine WP_n 1 rfl ?_
            refine WP_icmplt rfl rfl ⟨by omega, by omega⟩ ⟨by omega, by omega⟩ (fun h69 => ?_) (fun h69 => ?_)
            · refine WP_n 4 rfl ?_
              refine WP2_getf rfl rfl rfl rfl rfl ?_
              refine WP_n 1 rfl ?_
              refine WP2_iald (j := f) rfl rfl (ia_lit (n := 11) rfl rfl (by omega)) (by omega) (by omega) (by omega) ?_
              refine WP_n 4 rfl ?_
              refine WP2_getf rfl rfl rfl rfl rfl ?_
              refine WP_n 1 rfl ?_
              refine WP2_iald (j := f) rfl rfl (ia_lit (n := 11) rfl rfl (by omega)) (by omega) (by omega) (by omega) ?_
              refine WP_n 1 rfl ?_
              refine WP2_getf rfl rfl rfl rfl rfl ?_
              refine WP_n 1 rfl ?_
              refine WP2_iald (j := f) rfl rfl (ia_lit (n := 11) rfl rfl (by omega)) (by omega) (by omega) (by omega) ?_
              refine WP_n 3 rfl ?_
              have hbt : s.testBit f = true := by
                cases hb : s.testBit f
                · rw [bitN_0 hb] at h60
                  exact absurd rfl h60
                · rfl
              rw [show (rmS (A 166) s (f + 1)) = (rmS (A 166) s f) + A 166 f by show (rmS (A 166) s f) + (if _ then _ else _) = _; rw [if_pos hbt], show (rmS (fun f => A 166 f * A 168 f) s (f + 1)) = (rmS (fun f => A 166 f * A 168 f) s f) + A 166 f * A 168 f by show (rmS (fun f => A 166 f * A 168 f) s f) + (if _ then _ else _) = _; rw [if_pos hbt]] at next
              exact next 0 (Or.inr ⟨rfl, f, by omega, hbt, fun q => absurd ((hH f (by omega)).mp q) (by omega)⟩)
            · refine WP_n 5 rfl ?_
              refine WP2_getf rfl rfl rfl rfl rfl ?_
              refine WP_n 1 rfl ?_
              refine WP2_iald (j := f) rfl rfl (ia_lit (n := 11) rfl rfl (by omega)) (by omega) (by omega) (by omega) ?_
              refine WP_n 4 rfl ?_
              refine WP2_getf rfl rfl rfl rfl rfl ?_
              refine WP_n 1 rfl ?_
              refine WP2_iald (j := f) rfl rfl (ia_lit (n := 11) rfl rfl (by omega)) (by omega) (by omega) (by omega) ?_
              refine WP_n 1 rfl ?_
              refine WP2_getf rfl rfl rfl rfl rfl ?_
              refine WP_n 1 rfl ?_
              refine WP2_iald (j := f) rfl rfl (ia_lit (n := 11) rfl rfl (by omega)) (by omega) (by omega) (by omega) ?_
              refine WP_n 3 rfl ?_
              have hbt : s.testBit f = true := by
                cases hb : s.testBit f
                · rw [bitN_0 hb] at h60
                  exact absurd rfl h60
                · rfl
              rw [show (rmS (A 166) s (f + 1)) = (rmS (A 166) s f) + A 166 f by show (rmS (A 166) s f) + (if _ then _ else _) = _; rw [if_pos hbt], show (rmS (fun f => A 166 f * A 168 f) s (f + 1)) = (rmS (fun f => A 166 f * A 168 f) s f) + A 166 f * A 168 f by show (rmS (fun f => A 166 f * A 168 f) s f) + (if _ then _ else _) = _; rw [if_pos hbt]] at next
              refine next 1 (Or.inl ⟨rfl, lt_s ?_ (fun _ => (hH f (by omega)).mpr (by omega))⟩)
              rcases hz with z1 | z1
              · exact z1.2
              · exact absurd z1.1 h63
        · refine WP_n 1 rfl ?_
          have hbt : s.testBit f = false := by
            cases hb : s.testBit f
            · rfl
            · rw [bitN_1 hb] at h60
              exact absurd (by decide) h60
          rw [show (rmS (A 166) s (f + 1)) = (rmS (A 166) s f) by show (rmS (A 166) s f) + (if _ then _ else _) = _; rw [hbt]; simp, show (rmS (fun f => A 166 f * A 168 f) s (f + 1)) = (rmS (fun f => A 166 f * A 168 f) s f) by show (rmS (fun f => A 166 f * A 168 f) s f) + (if _ then _ else _) = _; rw [hbt]; simp] at next
          refine next z ?_
          rcases hz with z1 | z1
          · exact Or.inl ⟨z1.1, lt_s z1.2 (fun q => absurd (hbt.symm.trans q) (by decide))⟩
          · obtain ⟨z2, g, g1, g2, g3⟩ := z1
            exact Or.inr ⟨z2, g, by omega, g2, g3⟩
  · intro t ht ih
    refine WP_n 2 rfl ?_
    refine WP2_getf rfl rfl rfl rfl rfl ?_
    refine WP_icmpge rfl rfl ⟨by omega, by omega⟩ ⟨by omega, by omega⟩ (fun h25 => absurd h25 (by omega)) (fun h25 => ?_)
    refine WP_n 4 rfl ?_
    refine WP2_callV 2 ok_M_G_sizeAt rfl rfl rfl rfl rfl rfl (Nat.le_of_ble_eq_true rfl) (Nat.le_of_ble_eq_true rfl) rfl rfl ?_
    refine sp_sizeAt hI (by omega) hq9 ?_
    refine WP_n 4 rfl ?_
    exact ih
theorem pr_kept {P : PP} {n : Nat} {FI A L : Nat → Nat → Int} {X : SX} (h : INV P n FI A X) (hn : n < 512) {q w : Int} (hq0 : inR q) (hw : inR w) : PAIR P n (FI, A, L, X) M_F_kept [some (vr 5), some (vi q), some (vi w)] M_G_kept [some (vr 165), some (vi q), some (vi w), none, none, none, none, none, none, none, none] := by
  intro d
  have hm := h.mI
  have hn5 := h.1
  have hcI := h.2.1
  have hG := h.2.2.1
  have hk1 := hcI.1
  have g1 := hG.1
  obtain ⟨c, hc⟩ : ∃ c : Nat, FI 6 8 = (c : Int) := ⟨(FI 6 8).toNat, by omega⟩
  have hc2 : FI 165 0 = (c : Int) := by rw [g1]; exact hc
  refine sp_F_kept hcI hc hq0 hw (fun c1 => ?_) (fun c1 => ?_) (fun q9 hset FI' A' c1 hh htb hs hJ => ?_)
  · refine ⟨_, rfl, ?_⟩
    refine sp_G_kept_no hq0 hw (Or.inl c1) (fun c2 => ?_) (fun c2 => ?_)
    · exact ⟨rfl, INV_ref h hn (by omega)⟩
    · exfalso; omega
  · refine ⟨_, rfl, ?_⟩
    refine sp_G_kept_no hq0 hw (Or.inr c1.2.2) (fun c2 => ?_) (fun c2 => ?_)
    · exfalso; omega
    · exact ⟨rfl, INV_ref h hn (by omega)⟩
  · refine ⟨_, rfl, ?_⟩
    obtain ⟨c11, c12, c13, c14⟩ := c1
    subst c11
    have h' := h.off hs
    have eA : ∀ f, f < 11 → A' 166 f = A (8 + f) 0 ∧ A' 168 f = A (8 + f) 2 ∧ A' 169 f = A (8 + f) 3 := fun f hf => by
      have g := hG.2.2.1 f hf
      unfold gFl at g
      rw [hs.2.2 166 f (by omega), hs.2.2 168 f (by omega), hs.2.2 169 f (by omega)]
      omega
    have en : sumN (fun t => fore (fun j => A' 184 (20 * t + j)) (A' 170 t) (q9 + 1)) c = sumN (fun t => fore (A (122 + t)) (A (20 + t) 0) (q9 + 1)) c := sumN_congr c (fun t ht => fore_congr (by
      have g := hG.2.2.2.1 t (by omega)
      unfold gTm at g
      rw [hs.2.2 170 t (by omega)]
      omega) _ (fun j hj => by
        rw [hs.2.2 184 _ (by omega)]
        exact (hG.2.2.2.2.2.1 t j (by omega) (by omega)).2.2))
    refine sp_G_kept (hset := hset) h'.mI (hs.1.2.2.1.trans hc2) c12 ⟨c13, c14⟩ (fun f hf => by rw [(eA f hf).2.2]; exact htb f hf) (fun x y r hJ2 hr => ?_)
    rw [en] at hJ2
    have u := JK.uniq hJ (hJ2.congr (S' := (fun f => A (8 + f) 0)) (C' := (fun f => A (8 + f) 0 * A (8 + f) 2)) (fun f hf => ⟨(eA f hf).1, by rw [(eA f hf).1, (eA f hf).2.1]⟩))
    refine ⟨congrArg (fun z => some (vi z)) ?_, h'.next hn⟩
    split <;> omega

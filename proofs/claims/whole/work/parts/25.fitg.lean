/-! fit of the reference; fit and walked, both sides -/
def gPP (A : Nat → Nat → Int) (pl : Nat → Int) (a b : Nat) : Prop := ¬ (A (71 + a) b = 1 ∧ 1 < absd (pl a) (pl b)) ∧ (pl a = pl b → A (54 + a) b ≠ 1 ∧ A (20 + b) 2 ≤ A (20 + a) 3)
def mfT (A : Nat → Nat → Int) (pl : Nat → Int) (c a : Nat) : Prop := pl a ≠ -9 → suitsP A (pl a).toNat a ∧ ∀ b, b < c → b ≠ a → pl b ≠ -9 → gPP A pl a b
theorem absd_sym (x y : Int) : absd x y = absd y x := by
  unfold absd
  split <;> split <;> omega
theorem FIT_iff {n : Nat} {FI A : Nat → Nat → Int} {c : Nat} (hI : cI n FI A) (hc : FI 6 8 = (c : Int)) (pl : Nat → Int) : FIT A c pl ↔ (∀ f, f < 11 → occ A pl f c ≤ A (8 + f) 0) ∧ ∀ a, a < c → mfT A pl c a := by
  have hcc := hI.1
  constructor
  · rintro ⟨h1, h2⟩
    refine ⟨h1, fun a ha hpa => ⟨(h2 a ha hpa).1, fun b hb hba hpb => ?_⟩⟩
    have hw := hI.2.2.2.2.1 a b (by omega) (by omega)
    unfold cTw at hw
    rcases Nat.lt_or_ge b a with q | q
    · have z := (h2 a ha hpa).2 b q hpb
      unfold agrP at z
      refine ⟨z.1, fun e => ?_⟩
      have := z.2 e
      omega
    · have z := (h2 b hb hpb).2 a (by omega) hpa
      unfold agrP at z
      refine ⟨fun e => z.1 ⟨by omega, by rw [absd_sym]; exact e.2⟩, fun e => ?_⟩
      have := z.2 e.symm
      omega
  · rintro ⟨h1, h2⟩
    refine ⟨h1, fun a ha hpa => ⟨(h2 a ha hpa).1, fun b hb hpb => ?_⟩⟩
    have hw := hI.2.2.2.2.1 a b (by omega) (by omega)
    unfold cTw at hw
    have z1 := (h2 a ha hpa).2 b (by omega) (by omega) hpb
    have z2 := (h2 b (by omega) hpb).2 a ha (by omega) hpa
    unfold gPP at z1 z2
    refine ⟨z1.1, fun e => ?_⟩
    have e1 := z1.2 e
    have e2 := z2.2 e.symm
    omega
theorem sp_G_isFit {P : PP} {d n c : Nat} {FI A FIg Ag L : Nat → Nat → Int} {X : SX} {Q : Option AV → S2 → Prop} (hI : cI n FIg Ag) (hG : gX FI A FIg Ag) (hc : FIg 6 8 = (c : Int)) {B : Nat} (hB5 : 5 ≤ B) (hBA : isIA P X B 16) (hpl : ∀ t, t < c → A B t = -9 ∨ (0 ≤ A B t ∧ A B t < 11)) (h1 : FIT Ag c (A B) → Q (some (vi 1)) (FI, A, L, X)) (h0 : ¬ FIT Ag c (A B) → Q (some (vi 0)) (FI, A, L, X)) : WP2 P M_G_isFit (d + 1) 0 [some (vr 165), some (vr B), none, none, none] [] (FI, A, L, X) Q := by
  have hcc := hI.1
  have g1 := hG.1
  have hocc : ∀ F : Nat, ∀ k, k ≤ c → 0 ≤ sumN (fun t => if A B t = (F : Int) then Ag (20 + t) 0 else 0) k ∧ sumN (fun t => if A B t = (F : Int) then Ag (20 + t) 0 else 0) k ≤ 960 := by
    intro F k hk
    have := sumN_bd (f := fun t => if A B t = (F : Int) then Ag (20 + t) 0 else 0) (lo := 0) (hi := 60) k (fun t ht => by
      have hq := hI.2.2.2.1 t (by omega)
      unfold cTm at hq
      split <;> omega)
    omega
  rw [FIT_iff hI hc] at h1 h0
  refine WP_n 2 rfl ?_
  suffices hh : ∀ F, F ≤ 11 → (∀ f, f < F → occ Ag (A B) f c ≤ Ag (8 + f) 0) → WP2 P M_G_isFit (d + 1) 2 [some (vr 165), some (vr B), some (vi (F : Int)), none, none] [] (FI, A, L, X) Q from hh 0 (by omega) (fun b hb => absurd hb (by omega))
  refine up_to (P := fun F => (∀ f, f < F → occ Ag (A B) f c ≤ Ag (8 + f) 0) → WP2 P M_G_isFit (d + 1) 2 [some (vr 165), some (vr B), some (vi (F : Int)), none, none] [] (FI, A, L, X) Q) 11 ?_ ?_
  · intro hall
    refine WP_n 2 rfl ?_
    refine WP_icmpge rfl rfl ⟨by omega, by omega⟩ ⟨by omega, by omega⟩ (fun h4 => ?_) (fun h4 => absurd h4 (by omega))
    refine WP_n 2 rfl ?_
    suffices hh : ∀ t, t ≤ c → (∀ a, a < t → mfT Ag (A B) c a) → WP2 P M_G_isFit (d + 1) 39 [some (vr 165), some (vr B), some (vi (t : Int)), none, none] [] (FI, A, L, X) Q from hh 0 (by omega) (fun b hb => absurd hb (by omega))
    refine up_to (P := fun t => (∀ a, a < t → mfT Ag (A B) c a) → WP2 P M_G_isFit (d + 1) 39 [some (vr 165), some (vr B), some (vi (t : Int)), none, none] [] (FI, A, L, X) Q) c ?_ ?_
    · intro hall2
      refine WP_n 2 rfl ?_
      refine WP2_getf rfl rfl rfl rfl rfl ?_
      refine WP_icmpge rfl rfl ⟨by omega, by omega⟩ ⟨by omega, by omega⟩ (fun h42 => ?_) (fun h42 => absurd h42 (by omega))
      refine WP_n 1 rfl ?_
      exact WP_zret rfl rfl rfl (Or.inr rfl) ⟨_, rfl, h1 ⟨hall, hall2⟩⟩
    · intro a ha ih hall2
      have hqa := hI.2.2.2.1 a (by omega)
      unfold cTm at hqa
      have hga := hG.2.2.2.1 a (by omega)
      unfold gTmX at hga
      have hpa := hpl a ha
      refine WP_n 2 rfl ?_
      refine WP2_getf rfl rfl rfl rfl rfl ?_
      refine WP_icmpge rfl rfl ⟨by omega, by omega⟩ ⟨by omega, by omega⟩ (fun h42 => absurd h42 (by omega)) (fun h42 => ?_)
      refine WP_n 2 rfl ?_
      refine WP2_iald (j := a) rfl rfl (hBA) (by omega) (by omega) (by omega) ?_
      refine WP_n 1 rfl ?_
      refine WP_icmpne rfl rfl ⟨by omega, by omega⟩ ⟨by omega, by omega⟩ (fun h47 => ?_) (fun h47 => ?_)
      · obtain ⟨F, hF⟩ : ∃ F : Nat, A B a = (F : Int) := ⟨(A B a).toNat, by omega⟩
        have hFn : (A B a).toNat = F := by rw [hF]; rfl
        have hfl := hI.2.2.1 F (by omega)
        unfold cFl at hfl
        have hgf := (hG.2.2.1 F (by omega)).2.1
        have hsu : suitsP Ag (A B a).toNat a ↔ iAnd (A 167 F) (A 171 a) = A 171 a := by
          unfold suitsP
          rw [hFn, hgf, show A 171 a = Ag (20 + a) 1 by omega]
        refine WP_n 1 rfl ?_
        refine WP2_getf rfl rfl rfl rfl rfl ?_
        refine WP_n 2 rfl ?_
        refine WP2_iald (j := a) rfl rfl (hBA) (by omega) (by omega) (by omega) ?_
        rw [hF]
        refine WP2_iald (j := F) rfl rfl (ia_lit (n := 11) rfl rfl (by omega)) (by omega) (by omega) (by omega) ?_
        refine WP_n 1 rfl ?_
        refine WP2_getf rfl rfl rfl rfl rfl ?_
        refine WP_n 1 rfl ?_
        refine WP2_iald (j := a) rfl rfl (ia_lit (n := 16) rfl rfl (by omega)) (by omega) (by omega) (by omega) ?_
        refine WP_n 2 rfl ?_
        refine WP2_getf rfl rfl rfl rfl rfl ?_
        refine WP_n 1 rfl ?_
        refine WP2_iald (j := a) rfl rfl (ia_lit (n := 16) rfl rfl (by omega)) (by omega) (by omega) (by omega) ?_
        refine WP_icmpeq rfl rfl (iAnd_inR _ _) ⟨by omega, by omega⟩ (fun h64 => ?_) (fun h64 => ?_)
        · refine WP_n 2 rfl ?_
          have hsu2 := hsu.mpr h64
          suffices hh : ∀ t, t ≤ c → (∀ b, b < t → b ≠ a → A B b ≠ -9 → gPP Ag (A B) a b) → WP2 P M_G_isFit (d + 1) 69 [some (vr 165), some (vr B), some (vi (a : Int)), some (vi (t : Int)), none] [] (FI, A, L, X) Q from hh 0 (by omega) (fun b hb => absurd hb (by omega))
          refine up_to (P := fun t => (∀ b, b < t → b ≠ a → A B b ≠ -9 → gPP Ag (A B) a b) → WP2 P M_G_isFit (d + 1) 69 [some (vr 165), some (vr B), some (vi (a : Int)), some (vi (t : Int)), none] [] (FI, A, L, X) Q) c ?_ ?_
          · intro hall3
            refine WP_n 2 rfl ?_
            refine WP2_getf rfl rfl rfl rfl rfl ?_
            refine WP_icmpge rfl rfl ⟨by omega, by omega⟩ ⟨by omega, by omega⟩ (fun h72 => ?_) (fun h72 => absurd h72 (by omega))
            refine WP_n 2 rfl ?_
            exact WP2_kill 3 (ih (lt_s hall2 (fun _ => ⟨hsu2, hall3⟩)))
          · intro b hb ihb hall3
            have hqb := hI.2.2.2.1 b (by omega)
            unfold cTm at hqb
            have hgb := hG.2.2.2.1 b (by omega)
            unfold gTmX at hgb
            have hpb := hpl b hb
            have hw := hI.2.2.2.2.1 a b (by omega) (by omega)
            unfold cTw at hw
            have hgw := hG.2.2.2.2.1 a b (by omega) (by omega)
            unfold gTwX at hgw
            have ead : (if 0 ≤ A B a - A B b then A B a - A B b else -(A B a - A B b)) = absd (A B a) (A B b) := rfl
            refine WP_n 2 rfl ?_
            refine WP2_getf rfl rfl rfl rfl rfl ?_
            refine WP_icmpge rfl rfl ⟨by omega, by omega⟩ ⟨by omega, by omega⟩ (fun h72 => absurd h72 (by omega)) (fun h72 => ?_)
            refine WP_n 2 rfl ?_
            refine WP_icmpeq rfl rfl ⟨by omega, by omega⟩ ⟨by omega, by omega⟩ (fun h75 => ?_) (fun h75 => ?_)
            · refine WP_n 2 rfl ?_
              exact ihb (lt_s hall3 (fun q1 q2 => ⟨fun q => by omega, fun e => ⟨by omega, by omega⟩⟩))
            · refine WP_n 2 rfl ?_
              refine WP2_iald (j := b) rfl rfl (hBA) (by omega) (by omega) (by omega) ?_
              refine WP_n 1 rfl ?_
              refine WP_icmpne rfl rfl ⟨by omega, by omega⟩ ⟨by omega, by omega⟩ (fun h80 => ?_) (fun h80 => ?_)
              · refine WP_n 1 rfl ?_
                refine WP2_getf rfl rfl rfl rfl rfl ?_
                refine WP_n 5 rfl ?_
                refine WP2_iald (j := ((16 * a) + b)) rfl rfl (ia_lit (n := 256) rfl rfl (by omega)) (by omega) (by omega) (by omega) ?_
                refine WP_n 1 rfl ?_
                refine WP_icmpne rfl rfl ⟨by omega, by omega⟩ ⟨by omega, by omega⟩ (fun h91 => ?_) (fun h91 => ?_)
                · refine WP_n 2 rfl ?_
                  refine WP2_iald (j := a) rfl rfl (hBA) (by omega) (by omega) (by omega) ?_
                  refine WP_n 2 rfl ?_
                  refine WP2_iald (j := b) rfl rfl (hBA) (by omega) (by omega) (by omega) ?_
                  refine WP_icmpne rfl rfl ⟨by omega, by omega⟩ ⟨by omega, by omega⟩ (fun h109 => ?_) (fun h109 => ?_)
                  · refine WP_n 2 rfl ?_
                    exact ihb (lt_s hall3 (fun q1 q2 => ⟨fun q => by omega, fun e => ⟨by omega, by omega⟩⟩))
                  · refine WP_n 1 rfl ?_
                    refine WP2_getf rfl rfl rfl rfl rfl ?_
                    refine WP_n 5 rfl ?_
                    refine WP2_iald (j := ((16 * a) + b)) rfl rfl (ia_lit (n := 256) rfl rfl (by omega)) (by omega) (by omega) (by omega) ?_
                    refine WP_n 1 rfl ?_
                    refine WP_icmpeq rfl rfl ⟨by omega, by omega⟩ ⟨by omega, by omega⟩ (fun h119 => ?_) (fun h119 => ?_)
                    · refine WP_n 1 rfl ?_
                      exact WP_zret rfl rfl rfl (Or.inl rfl) ⟨_, rfl, h0 (fun q => by have z := ((q.2 a ha (by omega)).2 b hb (by omega) (by omega)).2 (by omega); omega)⟩
                    · refine WP_n 1 rfl ?_
                      refine WP2_getf rfl rfl rfl rfl rfl ?_
                      refine WP_n 1 rfl ?_
                      refine WP2_iald (j := b) rfl rfl (ia_lit (n := 16) rfl rfl (by omega)) (by omega) (by omega) (by omega) ?_
                      refine WP_n 1 rfl ?_
                      refine WP2_getf rfl rfl rfl rfl rfl ?_
                      refine WP_n 1 rfl ?_
                      refine WP2_iald (j := a) rfl rfl (ia_lit (n := 16) rfl rfl (by omega)) (by omega) (by omega) (by omega) ?_
                      refine WP_icmple rfl rfl ⟨by omega, by omega⟩ ⟨by omega, by omega⟩ (fun h128 => ?_) (fun h128 => ?_)
                      · refine WP_n 2 rfl ?_
                        exact ihb (lt_s hall3 (fun q1 q2 => ⟨fun q => by omega, fun e => ⟨by omega, by omega⟩⟩))
                      · refine WP_n 1 rfl ?_
                        exact WP_zret rfl rfl rfl (Or.inl rfl) ⟨_, rfl, h0 (fun q => by have z := ((q.2 a ha (by omega)).2 b hb (by omega) (by omega)).2 (by omega); omega)⟩
                · refine WP_n 2 rfl ?_
                  refine WP2_iald (j := a) rfl rfl (hBA) (by omega) (by omega) (by omega) ?_
                  refine WP_n 2 rfl ?_
                  refine WP2_iald (j := b) rfl rfl (hBA) (by omega) (by omega) (by omega) ?_
                  refine WP2_callS 2 ok_M_G_apart rfl rfl rfl rfl rfl rfl rfl (Nat.le_of_ble_eq_true rfl) (Nat.le_of_ble_eq_true rfl) ?_
                  refine sp_apart ⟨by omega, by omega⟩ ⟨by omega, by omega⟩ ?_
                  rw [ead]
                  have habs := absd_bd (x := A B a) (y := A B b) (by omega) (by omega)
                  refine WP_n 1 rfl ?_
                  refine WP_icmple rfl rfl ⟨by omega, by omega⟩ ⟨by omega, by omega⟩ (fun h100 => ?_) (fun h100 => ?_)
                  · refine WP_n 2 rfl ?_
                    refine WP2_iald (j := a) rfl rfl (hBA) (by omega) (by omega) (by omega) ?_
                    refine WP_n 2 rfl ?_
                    refine WP2_iald (j := b) rfl rfl (hBA) (by omega) (by omega) (by omega) ?_
                    refine WP_icmpne rfl rfl ⟨by omega, by omega⟩ ⟨by omega, by omega⟩ (fun h109 => ?_) (fun h109 => ?_)
                    · refine WP_n 2 rfl ?_
                      exact ihb (lt_s hall3 (fun q1 q2 => ⟨fun q => by omega, fun e => ⟨by omega, by omega⟩⟩))
                    · refine WP_n 1 rfl ?_
                      refine WP2_getf rfl rfl rfl rfl rfl ?_
                      refine WP_n 5 rfl ?_
                      refine WP2_iald (j := ((16 * a) + b)) rfl rfl (ia_lit (n := 256) rfl rfl (by omega)) (by omega) (by omega) (by omega) ?_
                      refine WP_n 1 rfl ?_
                      refine WP_icmpeq rfl rfl ⟨by omega, by omega⟩ ⟨by omega, by omega⟩ (fun h119 => ?_) (fun h119 => ?_)
                      · refine WP_n 1 rfl ?_
                        exact WP_zret rfl rfl rfl (Or.inl rfl) ⟨_, rfl, h0 (fun q => by have z := ((q.2 a ha (by omega)).2 b hb (by omega) (by omega)).2 (by omega); omega)⟩
                      · refine WP_n 1 rfl ?_
                        refine WP2_getf rfl rfl rfl rfl rfl ?_
                        refine WP_n 1 rfl ?_
                        refine WP2_iald (j := b) rfl rfl (ia_lit (n := 16) rfl rfl (by omega)) (by omega) (by omega) (by omega) ?_
                        refine WP_n 1 rfl ?_
                        refine WP2_getf rfl rfl rfl rfl rfl ?_
                        refine WP_n 1 rfl ?_
                        refine WP2_iald (j := a) rfl rfl (ia_lit (n := 16) rfl rfl (by omega)) (by omega) (by omega) (by omega) ?_
                        refine WP_icmple rfl rfl ⟨by omega, by omega⟩ ⟨by omega, by omega⟩ (fun h128 => ?_) (fun h128 => ?_)
                        · refine WP_n 2 rfl ?_
                          exact ihb (lt_s hall3 (fun q1 q2 => ⟨fun q => by omega, fun e => ⟨by omega, by omega⟩⟩))
                        · refine WP_n 1 rfl ?_
                          exact WP_zret rfl rfl rfl (Or.inl rfl) ⟨_, rfl, h0 (fun q => by have z := ((q.2 a ha (by omega)).2 b hb (by omega) (by omega)).2 (by omega); omega)⟩
                  · refine WP_n 1 rfl ?_
                    exact WP_zret rfl rfl rfl (Or.inl rfl) ⟨_, rfl, h0 (fun q => ((q.2 a ha (by omega)).2 b hb (by omega) (by omega)).1 ⟨by omega, by omega⟩)⟩
              · refine WP_n 3 rfl ?_
                exact ihb (lt_s hall3 (fun q1 q2 => ⟨fun q => by omega, fun e => ⟨by omega, by omega⟩⟩))
        · refine WP_n 1 rfl ?_
          exact WP_zret rfl rfl rfl (Or.inl rfl) ⟨_, rfl, h0 (fun q => h64 (hsu.mp (q.2 a ha (by omega)).1))⟩
      · refine WP_n 3 rfl ?_
        exact WP2_kill 3 (ih (lt_s hall2 (fun q => absurd (by omega) q)))
  · intro F hF ih hall
    have hfl := hI.2.2.1 F hF
    unfold cFl at hfl
    have hgf := (hG.2.2.1 F hF).1
    refine WP_n 2 rfl ?_
    refine WP_icmpge rfl rfl ⟨by omega, by omega⟩ ⟨by omega, by omega⟩ (fun h4 => absurd h4 (by omega)) (fun h4 => ?_)
    refine WP_n 4 rfl ?_
    refine up_to (P := fun t => WP2 P M_G_isFit (d + 1) 9 [some (vr 165), some (vr B), some (vi (F : Int)), some (vi (sumN (fun t => if A B t = (F : Int) then Ag (20 + t) 0 else 0) t)), some (vi (t : Int))] [] (FI, A, L, X) Q) c ?_ ?_ 0 (by omega)
    · have hz := hocc F c (by omega)
      refine WP_n 2 rfl ?_
      refine WP2_getf rfl rfl rfl rfl rfl ?_
      refine WP_icmpge rfl rfl ⟨by omega, by omega⟩ ⟨by omega, by omega⟩ (fun h12 => ?_) (fun h12 => absurd h12 (by omega))
      refine WP_n 2 rfl ?_
      refine WP2_getf rfl rfl rfl rfl rfl ?_
      refine WP_n 1 rfl ?_
      refine WP2_iald (j := F) rfl rfl (ia_lit (n := 11) rfl rfl (by omega)) (by omega) (by omega) (by omega) ?_
      refine WP_icmple rfl rfl ⟨by omega, by omega⟩ ⟨by omega, by omega⟩ (fun h32 => ?_) (fun h32 => ?_)
      · refine WP_n 2 rfl ?_
        exact WP2_kill 3 (WP2_kill 4 (ih (lt_s hall (by show sumN _ c ≤ _; omega))))
      · refine WP_n 1 rfl ?_
        exact WP_zret rfl rfl rfl (Or.inl rfl) ⟨_, rfl, h0 (fun q => absurd (q.1 F hF) (by show ¬ (sumN _ c ≤ _); omega))⟩
    · intro t ht iht
      have hqt := hI.2.2.2.1 t (by omega)
      unfold cTm at hqt
      have hgt := hG.2.2.2.1 t (by omega)
      unfold gTmX at hgt
      have hpt := hpl t ht
      have hz := hocc F t (by omega)
      refine WP_n 2 rfl ?_
      refine WP2_getf rfl rfl rfl rfl rfl ?_
      refine WP_icmpge rfl rfl ⟨by omega, by omega⟩ ⟨by omega, by omega⟩ (fun h12 => absurd h12 (by omega)) (fun h12 => ?_)
      refine WP_n 2 rfl ?_
      refine WP2_iald (j := t) rfl rfl (hBA) (by omega) (by omega) (by omega) ?_
      refine WP_n 1 rfl ?_
      refine WP_icmpne rfl rfl ⟨by omega, by omega⟩ ⟨by omega, by omega⟩ (fun h17 => ?_) (fun h17 => ?_)
      · refine WP_n 2 rfl ?_
        have e : sumN (fun t => if A B t = (F : Int) then Ag (20 + t) 0 else 0) (t + 1) = sumN (fun t => if A B t = (F : Int) then Ag (20 + t) 0 else 0) t := by
          show sumN (fun t => if A B t = (F : Int) then Ag (20 + t) 0 else 0) t + (if _ then _ else _) = _
          rw [if_neg h17]
          omega
        rw [e] at iht
        exact iht
      · refine WP_n 2 rfl ?_
        refine WP2_getf rfl rfl rfl rfl rfl ?_
        refine WP_n 1 rfl ?_
        refine WP2_iald (j := t) rfl rfl (ia_lit (n := 16) rfl rfl (by omega)) (by omega) (by omega) (by omega) ?_
        refine WP_n 4 rfl ?_
        have e : sumN (fun t => if A B t = (F : Int) then Ag (20 + t) 0 else 0) (t + 1) = sumN (fun t => if A B t = (F : Int) then Ag (20 + t) 0 else 0) t + A 170 t := by
          show sumN (fun t => if A B t = (F : Int) then Ag (20 + t) 0 else 0) t + (if _ then _ else _) = _
          rw [if_pos (by omega)]
          omega
        rw [e] at iht
        exact iht
theorem FIT_congr {A : Nat → Nat → Int} {c : Nat} {p q : Nat → Int} (h : ∀ t, t < c → p t = q t) : FIT A c p ↔ FIT A c q := by
  have key : ∀ {p q : Nat → Int}, (∀ t, t < c → p t = q t) → FIT A c p → FIT A c q := by
    intro p q h ⟨h1, h2⟩
    refine ⟨fun f hf => ?_, fun a ha hpa => ?_⟩
    · have e : occ A q f c = occ A p f c := sumN_congr c (fun t ht => by rw [h t ht])
      rw [e]
      exact h1 f hf
    · rw [← h a ha] at hpa ⊢
      refine ⟨(h2 a ha hpa).1, fun b hb hpb => ?_⟩
      rw [← h b (by omega)] at hpb ⊢
      exact (h2 a ha hpa).2 b hb hpb
  exact ⟨key h, key (fun t ht => (h t ht).symm)⟩
theorem walkP_congr {A : Nat → Nat → Int} {c : Nat} {p q : Nat → Int} (h : ∀ t, t < c → p t = q t) : walkP A p c = walkP A q c := by
  refine sumN_congr c (fun a ha => sumN_congr a (fun b hb => ?_))
  unfold wk2
  rw [h a ha, h b (by omega)]
theorem sp_G_fit {P : PP} {d n c : Nat} {FI A FIg Ag L : Nat → Nat → Int} {X : SX} {Q : Option AV → S2 → Prop} (hI : cI n FIg Ag) (hG : gX FI A FIg Ag) (hc : FIg 6 8 = (c : Int)) (hpl : ∀ t, t < c → A 174 t = -9 ∨ (0 ≤ A 174 t ∧ A 174 t < 11)) (h1 : FIT Ag c (A 174) → Q (some (vi 1)) (FI, A, L, X)) (h0 : ¬ FIT Ag c (A 174) → Q (some (vi 0)) (FI, A, L, X)) : WP2 P M_G_fit (d + 2) 0 [some (vr 165)] [] (FI, A, L, X) Q := by
  refine WP_n 2 rfl ?_
  refine WP2_getf rfl rfl rfl rfl rfl ?_
  refine WP2_callV 1 ok_M_G_isFit rfl rfl rfl rfl rfl rfl (Nat.le_of_ble_eq_true rfl) (Nat.le_of_ble_eq_true rfl) rfl rfl ?_
  refine sp_G_isFit hI hG hc (B := 174) (by omega) (ia_lit (n := 16) rfl rfl (by omega)) hpl (fun hB => ?_) (fun hB => ?_)
  · refine WP_ifeq rfl rfl ⟨by decide, by decide⟩  (fun h4 => absurd h4 (by decide)) (fun h4 => ?_)
    refine WP_n 2 rfl ?_
    exact WP_iret rfl rfl rfl ⟨_, rfl, h1 hB⟩
  · refine WP_ifeq rfl rfl ⟨by decide, by decide⟩  (fun h4 => ?_) (fun h4 => absurd (by decide) h4)
    refine WP_n 1 rfl ?_
    exact WP_iret rfl rfl rfl ⟨_, rfl, h0 hB⟩
theorem sp_G_walked {P : PP} {d n c : Nat} {FI A FIg Ag L : Nat → Nat → Int} {X : SX} {Q : Option AV → S2 → Prop} (hI : cI n FIg Ag) (hG : gX FI A FIg Ag) (hc : FIg 6 8 = (c : Int)) (hpl : ∀ t, t < c → A 174 t = -9 ∨ (0 ≤ A 174 t ∧ A 174 t < 11)) (hq : Q (some (vi (walkP Ag (A 174) c * FIg 6 9))) (FI, A, L, X)) : WP2 P M_G_walked (d + 2) 0 [some (vr 165)] [] (FI, A, L, X) Q := by
  refine WP_n 2 rfl ?_
  refine WP2_getf rfl rfl rfl rfl rfl ?_
  refine WP2_callV 1 ok_M_G_walks rfl rfl rfl rfl rfl rfl (Nat.le_of_ble_eq_true rfl) (Nat.le_of_ble_eq_true rfl) rfl rfl ?_
  refine sp_G_walks hI hG hc (B := 174) (by omega) (ia_lit (n := 16) rfl rfl (by omega)) hpl ?_
  exact WP_iret rfl rfl rfl ⟨_, rfl, hq⟩
theorem pr_fit {P : PP} {n : Nat} {FI A L : Nat → Nat → Int} {X : SX} (h : INV P n FI A X) (hn : n < 512) : PAIR P n (FI, A, L, X) M_F_fit [some (vr 5)] M_G_fit [some (vr 165)] := by
  intro d
  have hcI := h.2.1
  have hG := h.2.2.1
  have hk1 := hcI.1
  have g1 := hG.1
  obtain ⟨c, hc⟩ : ∃ c : Nat, FI 6 8 = (c : Int) := ⟨(FI 6 8).toNat, by omega⟩
  have hpl : ∀ t, t < c → A 174 t = -9 ∨ (0 ≤ A 174 t ∧ A 174 t < 11) := fun t ht => by
    have q := hcI.2.2.2.1 t (by omega)
    have r := hG.2.2.2.1 t (by omega)
    unfold cTm at q
    unfold gTm at r
    omega
  have epl : ∀ t, t < c → A 174 t = pw A 0 t := fun t ht => by
    have r := hG.2.2.2.1 t (by omega)
    unfold gTm at r
    rw [pw_eq (by simp)]
    omega
  refine sp_F_fit hcI hc (fun c1 => ?_) (fun c1 => ?_)
  · refine ⟨_, rfl, ?_⟩
    refine sp_G_fit hcI hG.x hc hpl (fun c2 => ?_) (fun c2 => ?_)
    · exact ⟨rfl, h.next hn⟩
    · exact absurd ((FIT_congr epl).mpr c1) c2
  · refine ⟨_, rfl, ?_⟩
    refine sp_G_fit hcI hG.x hc hpl (fun c2 => ?_) (fun c2 => ?_)
    · exact absurd ((FIT_congr epl).mp c2) c1
    · exact ⟨rfl, h.next hn⟩
theorem pr_walked {P : PP} {n : Nat} {FI A L : Nat → Nat → Int} {X : SX} (h : INV P n FI A X) (hn : n < 512) : PAIR P n (FI, A, L, X) M_F_walked [some (vr 5)] M_G_walked [some (vr 165)] := by
  intro d
  have hcI := h.2.1
  have hG := h.2.2.1
  have hk1 := hcI.1
  have g1 := hG.1
  obtain ⟨c, hc⟩ : ∃ c : Nat, FI 6 8 = (c : Int) := ⟨(FI 6 8).toNat, by omega⟩
  have hpl : ∀ t, t < c → A 174 t = -9 ∨ (0 ≤ A 174 t ∧ A 174 t < 11) := fun t ht => by
    have q := hcI.2.2.2.1 t (by omega)
    have r := hG.2.2.2.1 t (by omega)
    unfold cTm at q
    unfold gTm at r
    omega
  have epl : ∀ t, t < c → A 174 t = pw A 0 t := fun t ht => by
    have r := hG.2.2.2.1 t (by omega)
    unfold gTm at r
    rw [pw_eq (by simp)]
    omega
  refine sp_F_walked hcI hc ?_
  refine ⟨_, rfl, ?_⟩
  refine sp_G_walked hcI hG.x hc hpl ?_
  exact ⟨by rw [walkP_congr epl], h.next hn⟩

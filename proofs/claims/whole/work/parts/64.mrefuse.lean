/-! moves of the reference: refuses -/
def dgF (pl : Nat → Int) (mv st m : Nat) : Nat := pcR st (pl (nth mv m)).toNat
theorem exBits (p : Nat → Prop) : ∀ c : Nat, ∃ s : Nat, s < 2 ^ c ∧ ∀ t, t < c → (s.testBit t = true ↔ p t)
  | 0 => ⟨0, by omega, fun t ht => absurd ht (by omega)⟩
  | c + 1 => by
    obtain ⟨s, h1, h2⟩ := exBits p c
    have h3 := Nat.pow_succ 2 c
    by_cases w : p c
    · refine ⟨s + 2 ^ c, by omega, fun t ht => ?_⟩
      by_cases e : t = c
      · rw [e, tb_hi h1]
        exact ⟨fun _ => w, fun _ => rfl⟩
      · rw [tb_lo h1 (by omega)]
        exact h2 t (by omega)
    · refine ⟨s, by omega, fun t ht => ?_⟩
      by_cases e : t = c
      · rw [e, tb_lt h1 (Nat.le_refl c)]
        exact ⟨fun q => absurd q (by decide), fun q => absurd q w⟩
      · exact h2 t (by omega)
theorem pcR_sub {a b : Nat} : ∀ k, (∀ f, f < k → a.testBit f = true → b.testBit f = true) → pcR a k ≤ pcR b k
  | 0, _ => Nat.le_refl _
  | k + 1, h => by
    have ih := pcR_sub k (fun f hf => h f (by omega))
    by_cases w : a.testBit k = true
    · rw [pcR_t w, pcR_t (h k (by omega) w)]
      omega
    · rw [pcR_f (by revert w; cases a.testBit k <;> decide)]
      have := pcR_mono (s := b) (show k ≤ k + 1 by omega)
      omega
theorem dgF_ok {pl tg : Nat → Int} {c s9 mv st m : Nat} (hc : c ≤ 16) (hM : mvS tg c mv) (hS : stS pl tg c s9 st) (ha : ∀ t, t < c → tg t ≠ -9 → pl t ≠ -9) (hp : ∀ t, t < c → (pl t = -9 ∨ (0 ≤ pl t ∧ pl t < 11)) ∧ (tg t = -9 ∨ (0 ≤ tg t ∧ tg t < 11))) (hm : m < pcR mv 16) : (dgF pl mv st m < pcR st 16 ∧ pl (nth mv m) = (nth st (dgF pl mv st m) : Int)) ∧ dgF tg mv st m < pcR st 16 ∧ tg (nth mv m) = (nth st (dgF tg mv st m) : Int) := by
  have ok := nth_ok hm
  have htc := tb_lt16 hM.1 ok.1
  have h1 := (hM.2 _ htc).mp ok.1
  have h2 := ha _ htc h1
  have h3 := hp _ htc
  unfold dgF
  have b1 : st.testBit (pl (nth mv m)).toNat = true := (hS.2 _ (by omega)).mpr (Or.inr ⟨_, htc, h1, h2, Or.inr (by omega)⟩)
  have b2 : st.testBit (tg (nth mv m)).toNat = true := (hS.2 _ (by omega)).mpr (Or.inr ⟨_, htc, h1, h2, Or.inl (by omega)⟩)
  have i1 := nth_ix (by omega) b1
  have i2 := nth_ix (by omega) b2
  rw [i1, i2]
  exact ⟨⟨pcR_lt b1 (by omega), by omega⟩, pcR_lt b2 (by omega), by omega⟩
theorem dc_mul {y d m : Nat} (hd : d < 5) : dc (y * 5 + d) (m + 1) = dc y m := by
  unfold dc
  rw [Nat.pow_succ, Nat.mul_comm (5 ^ m) 5, ← Nat.div_div_eq_div_mul, show (y * 5 + d) / 5 = y by omega]
theorem dc_mul0 {y d : Nat} (hd : d < 5) : dc (y * 5 + d) 0 = d := by
  unfold dc
  rw [Nat.pow_zero, Nat.div_one]
  omega
theorem pcR_le (s : Nat) : ∀ k, pcR s k ≤ k
  | 0 => Nat.le_refl _
  | k + 1 => by
    have := pcR_le s k
    by_cases w : s.testBit k = true
    · rw [pcR_t w]; omega
    · rw [pcR_f (by revert w; cases s.testBit k <;> decide)]; omega
theorem sp_G_refuses1 {P : PP} {d : Nat} {FI A L : Nat → Nat → Int} {X : SX} {Q : Option AV → S2 → Prop} {n c : Nat} (hI : mI n FI A) (hc : FI 165 0 = (c : Int)) {sw : Int} (hsw : inR sw) (hq : ∀ (r : Int) (F1 B : Nat → Nat → Int), whyM (A 178) (A 174) (A 175) c sw r → (∀ a k, ¬ (a = 165 ∧ 31 ≤ k) → F1 a k = FI a k) → (∀ a j, a ≠ 188 → a ≠ 189 → B a j = A a j) → (r = 0 → (∃ s9 mv st : Nat, (sw = (s9 : Int) ∧ s9 < 2048) ∧ mvS (A 175) c mv ∧ stS (A 174) (A 175) c s9 st ∧ (∀ t, t < c → A 175 t ≠ -9 → A 178 t = 0 ∧ A 174 t ≠ -9) ∧ pcR mv 16 ≤ 6 ∧ pcR st 16 ≤ 5 ∧ F1 165 31 = (pcR mv 16 : Int) ∧ F1 165 32 = (pcR st 16 : Int) ∧ (∀ i, i < pcR mv 16 → B 188 i = (nth mv i : Int)) ∧ (∀ i, i < pcR st 16 → B 189 i = (nth st i : Int)) ∧ ∃ y0 g0 : Nat, F1 165 33 = (y0 : Int) ∧ F1 165 34 = (g0 : Int) ∧ y0 < 5 ^ pcR mv 16 ∧ g0 < 5 ^ pcR mv 16 ∧ (∀ m, m < pcR mv 16 → gd (fun i => pcR mv 16 - 1 - i) y0 m = dgF (A 174) mv st m) ∧ ∀ m, m < pcR mv 16 → gd (fun i => pcR mv 16 - 1 - i) g0 m = dgF (A 175) mv st m)) → Q (some (vi r)) (F1, B, L, X)) : WP2 P M_G_refuses1 (d + 1) 0 [some (vr 165), some (vi sw), none, none] [] (FI, A, L, X) Q := by
  have hk1 := hI.2.1
  have hc16 : c ≤ 16 := by omega
  obtain ⟨lf, uf⟩ := id hsw
  refine WP_n 1 rfl ?_
  refine WP_iflt rfl rfl ⟨by omega, by omega⟩ (fun h1 => ?_) (fun h1 => ?_)
  · refine WP_n 1 rfl ?_
    exact WP_iret rfl rfl rfl ⟨_, rfl, hq _ FI A (Or.inl ⟨rfl, by omega⟩) (fun _ _ _ => rfl) (fun _ _ _ _ => rfl) (fun q => absurd q (by omega))⟩
  · refine WP_n 2 rfl ?_
    refine WP_icmplt rfl rfl ⟨by omega, by omega⟩ ⟨by omega, by omega⟩ (fun h4 => ?_) (fun h4 => ?_)
    · obtain ⟨s9, rfl⟩ : ∃ s9 : Nat, sw = (s9 : Int) := ⟨sw.toNat, by omega⟩
      obtain ⟨mv, hM⟩ : ∃ mv, mvS (A 175) c mv := exBits (fun t => A 175 t ≠ -9) c
      have hKc : pcR mv c = pcR mv 16 := (pcR_top hM.1 16 hc16).symm
      have hpt : ∀ t, t < c → (A 174 t = -9 ∨ (0 ≤ A 174 t ∧ A 174 t < 11)) ∧ (A 175 t = -9 ∨ (0 ≤ A 175 t ∧ A 175 t < 11)) := fun t ht => by
        have hq9 := hI.2.2.2.2.1 t (by omega)
        unfold mTm at hq9
        have := hq9.1 (by omega)
        omega
      have rest : ∀ (F1 B : Nat → Nat → Int) (st : Nat), (∀ a k, ¬ (a = 165 ∧ 31 ≤ k) → F1 a k = FI a k) → F1 165 31 = (pcR mv 16 : Int) → (∀ a j, a ≠ 188 → a ≠ 189 → B a j = A a j) → (∀ i, i < pcR mv 16 → B 188 i = (nth mv i : Int)) → st < 2048 → stS (A 174) (A 175) c s9 st → (∀ w, w < c → A 175 w ≠ -9 → A 178 w = 0 ∧ A 174 w ≠ -9) → pcR mv 16 ≤ 6 → cnt st ≤ 5 → WP2 P M_G_refuses1 (d + 1) 84 [some (vr 165), some (vi (s9 : Int)), some (vi (st : Int)), some (vi (c : Int))] [] (F1, B, L, X) Q := by
        intro F1 B st fo f31 bo bl hu hS hal hK6 hc5
        have hS5 : pcR st 16 ≤ 5 := by
          rw [cnt_pcR] at hc5
          omega
        have hS11 : pcR st 11 = pcR st 16 := (pcR_top (s := st) (c := 11) hu 16 (by omega)).symm
        refine WP_n 2 rfl ?_
        refine WP2_putk (k := 32) rfl rfl rfl rfl rfl rfl (by exact trivial) ?_
        refine WP_n 2 rfl ?_
        refine (show ∀ f, f ≤ 11 → ∀ (F2 B2 : Nat → Nat → Int), (∀ a k, ¬ (a = 165 ∧ 31 ≤ k) → F2 a k = FI a k) → F2 165 31 = (pcR mv 16 : Int) → F2 165 32 = (pcR st f : Int) → (∀ a j, a ≠ 188 → a ≠ 189 → B2 a j = A a j) → (∀ i, i < pcR mv 16 → B2 188 i = (nth mv i : Int)) → (∀ i, i < pcR st f → B2 189 i = (nth st i : Int)) → WP2 P M_G_refuses1 (d + 1) 89 [some (vr 165), some (vi (s9 : Int)), some (vi (st : Int)), some (vi (f : Int))] [] (F2, B2, L, X) Q from ?_) 0 (by omega) _ B (fun a k q => by rw [up2_ne (by omega)]; exact fo a k q) (by rw [up2_ne (by omega)]; exact f31) (up2_same.trans rfl) bo bl (fun i hi => absurd hi (by show ¬ i < 0; omega))
        clear f31 fo bo bl B
        refine up_to (P := fun f => ∀ (F2 B2 : Nat → Nat → Int), (∀ a k, ¬ (a = 165 ∧ 31 ≤ k) → F2 a k = FI a k) → F2 165 31 = (pcR mv 16 : Int) → F2 165 32 = (pcR st f : Int) → (∀ a j, a ≠ 188 → a ≠ 189 → B2 a j = A a j) → (∀ i, i < pcR mv 16 → B2 188 i = (nth mv i : Int)) → (∀ i, i < pcR st f → B2 189 i = (nth st i : Int)) → WP2 P M_G_refuses1 (d + 1) 89 [some (vr 165), some (vi (s9 : Int)), some (vi (st : Int)), some (vi (f : Int))] [] (F2, B2, L, X) Q) 11 ?_ ?_
        · intro F2 B2 fo2 f31 f32 bo2 bl188 bl2
          refine WP_n 2 rfl ?_
          refine WP_icmpge rfl rfl ⟨by omega, by omega⟩ ⟨by omega, by omega⟩ (fun h91 => ?_) (fun h91 => absurd h91 (by omega))
          refine WP_n 2 rfl ?_
          refine WP2_putk (k := 33) rfl rfl rfl rfl rfl rfl (by exact trivial) ?_
          refine WP_n 2 rfl ?_
          refine WP2_putk (k := 34) rfl rfl rfl rfl rfl rfl (by exact trivial) ?_
          refine WP_n 2 rfl ?_
          refine (show ∀ i, i ≤ pcR mv 16 → ∀ (F3 : Nat → Nat → Int) (y g : Nat), (∀ a k, ¬ (a = 165 ∧ 31 ≤ k) → F3 a k = FI a k) → F3 165 31 = (pcR mv 16 : Int) → F3 165 32 = (pcR st 16 : Int) → F3 165 33 = (y : Int) → F3 165 34 = (g : Int) → y < 5 ^ i → g < 5 ^ i → (∀ m, m < i → dc y (i - 1 - m) = dgF (A 174) mv st m) → (∀ m, m < i → dc g (i - 1 - m) = dgF (A 175) mv st m) → WP2 P M_G_refuses1 (d + 1) 120 [some (vr 165), some (vi (s9 : Int)), some (vi (st : Int)), some (vi (i : Int))] [] (F3, B2, L, X) Q from ?_) 0 (by omega) _ 0 0 (fun a k q => by rw [up2_ne (by omega), up2_ne (by omega)]; exact fo2 a k q) (by rw [up2_ne (by omega), up2_ne (by omega)]; exact f31) (by rw [up2_ne (by omega), up2_ne (by omega)]; exact f32.trans (by rw [hS11])) (by rw [up2_ne (by omega), up2_same]; rfl) (up2_same.trans rfl) (by rw [Nat.pow_zero]; omega) (by rw [Nat.pow_zero]; omega) (fun m hm => absurd hm (by omega)) (fun m hm => absurd hm (by omega))
          have b9 : ∀ i, i < pcR st 16 → B2 189 i = (nth st i : Int) := fun i hi => bl2 i (by rw [hS11]; exact hi)
          clear f31 f32 fo2 bl2
          refine up_to (P := fun i => ∀ (F3 : Nat → Nat → Int) (y g : Nat), (∀ a k, ¬ (a = 165 ∧ 31 ≤ k) → F3 a k = FI a k) → F3 165 31 = (pcR mv 16 : Int) → F3 165 32 = (pcR st 16 : Int) → F3 165 33 = (y : Int) → F3 165 34 = (g : Int) → y < 5 ^ i → g < 5 ^ i → (∀ m, m < i → dc y (i - 1 - m) = dgF (A 174) mv st m) → (∀ m, m < i → dc g (i - 1 - m) = dgF (A 175) mv st m) → WP2 P M_G_refuses1 (d + 1) 120 [some (vr 165), some (vi (s9 : Int)), some (vi (st : Int)), some (vi (i : Int))] [] (F3, B2, L, X) Q) (pcR mv 16) ?_ ?_
          · intro F3 y g f3o f31 f32 f33 f34 y5 g5 hy hg
            refine WP_n 2 rfl ?_
            refine WP2_getf rfl rfl rfl rfl rfl ?_
            refine WP_icmpge rfl rfl ⟨by omega, by omega⟩ ⟨by omega, by omega⟩ (fun h123 => ?_) (fun h123 => absurd h123 (by omega))
            refine WP_n 1 rfl ?_
            exact WP_iret rfl rfl rfl ⟨_, rfl, hq _ F3 B2 (Or.inr ⟨s9, ⟨rfl, by omega⟩, Or.inr ⟨hal, mv, st, hM, hS, Or.inr ⟨rfl, by rw [cnt_pcR]; omega, hc5⟩⟩⟩) f3o bo2 (fun _ => ⟨s9, mv, st, ⟨rfl, by omega⟩, hM, hS, hal, hK6, hS5, f31, f32, bl188, b9, y, g, f33, f34, y5, g5, hy, hg⟩)⟩
          · intro i hi ih F3 y g f3o f31 f32 f33 f34 y5 g5 hy hg
            have hd := dgF_ok hc16 hM hS (fun t ht q => (hal t ht q).2) hpt hi
            have htc := tb_lt16 hM.1 (nth_ok hi).1
            have ei := bl188 i hi
            have e174 : B2 174 (nth mv i) = A 174 (nth mv i) := bo2 _ _ (by omega) (by omega)
            have e175 : B2 175 (nth mv i) = A 175 (nth mv i) := bo2 _ _ (by omega) (by omega)
            have hF174 : nth st (dgF (A 174) mv st i) < 11 := by have := hpt _ htc; omega
            have hF175 : nth st (dgF (A 175) mv st i) < 11 := by have := hpt _ htc; omega
            refine WP_n 2 rfl ?_
            refine WP2_getf rfl rfl rfl rfl rfl ?_
            refine WP_icmpge rfl rfl ⟨by omega, by omega⟩ ⟨by omega, by omega⟩ (fun h123 => absurd h123 (by omega)) (fun h123 => ?_)
            refine WP_n 2 rfl ?_
            refine WP2_getf rfl rfl rfl rfl rfl ?_
            refine WP_n 4 rfl ?_
            refine WP2_getf rfl rfl rfl rfl rfl ?_
            refine WP_n 1 rfl ?_
            refine WP2_getf rfl rfl rfl rfl rfl ?_
            refine WP_n 1 rfl ?_
            refine WP2_iald (j := i) rfl rfl (ia_lit (n := 16) rfl rfl (by omega)) (by omega) (by omega) (by omega) ?_
            refine WP2_iald (j := (nth mv i)) rfl rfl (ia_lit (n := 16) rfl rfl (by omega)) (by omega) (by omega) (by omega) ?_
            rw [e174, hd.1.2]
            refine WP2_callV 1 ok_M_G_spot rfl rfl rfl rfl rfl rfl (Nat.le_of_ble_eq_true rfl) (Nat.le_of_ble_eq_true rfl) rfl rfl ?_
            refine sp_G_spot (S := pcR st 16) (st := st) (s := dgF (A 174) mv st i) (by exact f32) hS5 rfl (by omega) b9 (by omega) rfl hF174 ?_
            refine WP_n 1 rfl ?_
            refine WP2_putk (k := 33) rfl rfl rfl rfl rfl rfl (by exact trivial) ?_
            refine WP_n 2 rfl ?_
            refine WP2_getf rfl rfl rfl rfl rfl ?_
            refine WP_n 4 rfl ?_
            refine WP2_getf rfl rfl rfl rfl rfl ?_
            refine WP_n 1 rfl ?_
            refine WP2_getf rfl rfl rfl rfl rfl ?_
            refine WP_n 1 rfl ?_
            refine WP2_iald (j := i) rfl rfl (ia_lit (n := 16) rfl rfl (by omega)) (by omega) (by omega) (by omega) ?_
            refine WP2_iald (j := (nth mv i)) rfl rfl (ia_lit (n := 16) rfl rfl (by omega)) (by omega) (by omega) (by omega) ?_
            rw [e175, hd.2.2]
            refine WP2_callV 1 ok_M_G_spot rfl rfl rfl rfl rfl rfl (Nat.le_of_ble_eq_true rfl) (Nat.le_of_ble_eq_true rfl) rfl rfl ?_
            refine sp_G_spot (S := pcR st 16) (st := st) (s := dgF (A 175) mv st i) (by rw [up2_ne (by omega)]; exact f32) hS5 rfl (by omega) b9 (by omega) rfl hF175 ?_
            refine WP_n 1 rfl ?_
            refine WP2_putk (k := 34) rfl rfl rfl rfl rfl rfl (by exact trivial) ?_
            refine WP_n 2 rfl ?_
            rw [show F3 165 33 * 5 + (dgF (A 174) mv st i : Int) = ((y * 5 + dgF (A 174) mv st i : Nat) : Int) by omega, show up2 F3 165 33 ((y * 5 + dgF (A 174) mv st i : Nat) : Int) 165 34 * 5 + (dgF (A 175) mv st i : Int) = ((g * 5 + dgF (A 175) mv st i : Nat) : Int) by rw [up2_ne (by omega)]; omega]
            refine ih _ (y * 5 + dgF (A 174) mv st i) (g * 5 + dgF (A 175) mv st i) (fun a k q => by rw [up2_ne (by omega), up2_ne (by omega)]; exact f3o a k q) (by rw [up2_ne (by omega), up2_ne (by omega)]; exact f31) (by rw [up2_ne (by omega), up2_ne (by omega)]; exact f32) (by rw [up2_ne (by omega), up2_same]) up2_same (by rw [Nat.pow_succ]; omega) (by rw [Nat.pow_succ]; omega) (fun m hm => by
              by_cases e : m = i
              · rw [e, show i + 1 - 1 - i = 0 by omega]
                exact dc_mul0 (by omega)
              · rw [show i + 1 - 1 - m = (i - 1 - m) + 1 by omega, dc_mul (by omega)]
                exact hy m (by omega)) (fun m hm => by
              by_cases e : m = i
              · rw [e, show i + 1 - 1 - i = 0 by omega]
                exact dc_mul0 (by omega)
              · rw [show i + 1 - 1 - m = (i - 1 - m) + 1 by omega, dc_mul (by omega)]
                exact hg m (by omega))
        · intro f hf ih F2 B2 fo2 f31 f32 bo2 bl188 bl2
          have hp11 := pcR_mono (s := st) (show f ≤ 11 by omega)
          by_cases htb : st.testBit f = true
          · have hb1 := bitN_1 htb
            have hlt9 := pcR_lt htb hf
            refine WP_n 2 rfl ?_
            refine WP_icmpge rfl rfl ⟨by omega, by omega⟩ ⟨by omega, by omega⟩ (fun h91 => absurd h91 (by omega)) (fun h91 => ?_)
            refine WP_n 5 rfl ?_
            rw [iBit (by omega) (by omega), hb1]
            refine WP_n 1 rfl ?_
            refine WP_icmpne rfl rfl ⟨by omega, by omega⟩ ⟨by omega, by omega⟩ (fun h98 => absurd h98 (by omega)) (fun h98 => ?_)
            refine WP_n 1 rfl ?_
            refine WP2_getf rfl rfl rfl rfl rfl ?_
            refine WP_n 2 rfl ?_
            refine WP2_getf rfl rfl rfl rfl rfl ?_
            refine WP_n 3 rfl ?_
            refine WP2_putk (k := 32) rfl rfl rfl rfl rfl rfl (by exact trivial) ?_
            refine WP_n 1 rfl ?_
            refine WP2_iast (j := (pcR st f)) rfl rfl (ia_lit (n := 11) rfl rfl (by omega)) (by omega) (by omega) (by omega) ?_
            refine WP_n 2 rfl ?_
            rw [pcR_t htb] at ih
            refine ih _ _ (fun a k q => by rw [up2_ne (by omega)]; exact fo2 a k q) (by rw [up2_ne (by omega)]; exact f31) (by rw [up2_same]; omega) (fun a j q1 q2 => by rw [up2_ne (by omega)]; exact bo2 a j q1 q2) (fun i hi => by rw [up2_ne (by omega)]; exact bl188 i hi) (fun i hi => ?_)
            by_cases e : i = pcR st f
            · rw [e, up2_eq ⟨rfl, by omega⟩, nth_ix (by omega) htb]
            · rw [up2_ne (by omega)]
              exact bl2 i (by omega)
          · have htf : st.testBit f = false := by revert htb; cases st.testBit f <;> decide
            have hb0 := bitN_0 htf
            refine WP_n 2 rfl ?_
            refine WP_icmpge rfl rfl ⟨by omega, by omega⟩ ⟨by omega, by omega⟩ (fun h91 => absurd h91 (by omega)) (fun h91 => ?_)
            refine WP_n 5 rfl ?_
            rw [iBit (by omega) (by omega), hb0]
            refine WP_n 1 rfl ?_
            refine WP_icmpne rfl rfl ⟨by omega, by omega⟩ ⟨by omega, by omega⟩ (fun h98 => ?_) (fun h98 => absurd h98 (by omega))
            refine WP_n 2 rfl ?_
            rw [pcR_f htf] at ih
            exact ih F2 B2 fo2 f31 f32 bo2 bl188 bl2
      refine WP_n 4 rfl ?_
      refine WP2_putk (k := 31) rfl rfl rfl rfl rfl rfl (by exact trivial) ?_
      refine WP_n 2 rfl ?_
      refine (show ∀ t, t ≤ c → ∀ (F1 B : Nat → Nat → Int) (u : Nat), (∀ a k, ¬ (a = 165 ∧ 31 ≤ k) → F1 a k = FI a k) → F1 165 31 = (pcR mv t : Int) → (∀ a j, a ≠ 188 → a ≠ 189 → B a j = A a j) → (∀ i, i < pcR mv t → B 188 i = (nth mv i : Int)) → u < 2048 → (∀ f, f < 11 → (u.testBit f = true ↔ s9.testBit f = true ∨ ∃ w, w < t ∧ A 175 w ≠ -9 ∧ A 174 w ≠ -9 ∧ (A 175 w = (f : Int) ∨ A 174 w = (f : Int)))) → (∀ w, w < t → A 175 w ≠ -9 → A 178 w = 0 ∧ A 174 w ≠ -9) → WP2 P M_G_refuses1 (d + 1) 14 [some (vr 165), some (vi (s9 : Int)), some (vi (u : Int)), some (vi (t : Int))] [] (F1, B, L, X) Q from ?_) 0 (by omega) _ A s9 (fun a k q => up2_ne (by omega)) (up2_same.trans rfl) (fun _ _ _ _ => rfl) (fun i hi => absurd hi (by show ¬ i < 0; omega)) (by omega) (fun f hf => ⟨fun q => Or.inl q, fun q => by
        rcases q with q | ⟨w, w1, _⟩
        · exact q
        · omega⟩) (fun w hw => absurd hw (by omega))
      refine up_to (P := fun t => ∀ (F1 B : Nat → Nat → Int) (u : Nat), (∀ a k, ¬ (a = 165 ∧ 31 ≤ k) → F1 a k = FI a k) → F1 165 31 = (pcR mv t : Int) → (∀ a j, a ≠ 188 → a ≠ 189 → B a j = A a j) → (∀ i, i < pcR mv t → B 188 i = (nth mv i : Int)) → u < 2048 → (∀ f, f < 11 → (u.testBit f = true ↔ s9.testBit f = true ∨ ∃ w, w < t ∧ A 175 w ≠ -9 ∧ A 174 w ≠ -9 ∧ (A 175 w = (f : Int) ∨ A 174 w = (f : Int)))) → (∀ w, w < t → A 175 w ≠ -9 → A 178 w = 0 ∧ A 174 w ≠ -9) → WP2 P M_G_refuses1 (d + 1) 14 [some (vr 165), some (vi (s9 : Int)), some (vi (u : Int)), some (vi (t : Int))] [] (F1, B, L, X) Q) c ?_ ?_
      · intro F1 B u fo f31 bo bl hu hb hal
        have f0 : F1 165 0 = (c : Int) := (fo _ _ (by omega)).trans hc
        have hS : stS (A 174) (A 175) c s9 u := ⟨hu, hb⟩
        have k1 := cnt_bd u
        have k2 := cnt_bd s9
        have k3 := cnt_bd mv
        rw [hKc] at f31
        have ek := cnt_pcR mv
        have hsub : cnt s9 ≤ cnt u := by
          rw [cnt_pcR, cnt_pcR]
          have := pcR_sub (a := s9) (b := u) 16 (fun f hf q => by
            have f11 := tb_lt16 (c := 11) (show s9 < 2 ^ 11 by omega) q
            exact (hb f f11).mpr (Or.inl q))
          omega
        have hu0 : pcR mv 16 = 0 → cnt u ≤ cnt s9 := fun h0 => by
          rw [cnt_pcR, cnt_pcR]
          have := pcR_sub (a := u) (b := s9) 16 (fun f hf q => by
            have f11 := tb_lt16 (c := 11) (show u < 2 ^ 11 by omega) q
            rcases (hb f f11).mp q with z | ⟨w, w1, w2, _⟩
            · exact z
            · have := pcR_lt ((hM.2 w w1).mpr w2) (show w < 16 by omega)
              omega)
          omega
        refine WP_n 2 rfl ?_
        refine WP2_getf rfl rfl rfl rfl rfl ?_
        refine WP_icmpge rfl rfl ⟨by omega, by omega⟩ ⟨by omega, by omega⟩ (fun h17 => ?_) (fun h17 => absurd h17 (by omega))
        refine WP_n 1 rfl ?_
        refine WP2_getf rfl rfl rfl rfl rfl ?_
        refine WP_n 1 rfl ?_
        refine WP_icmpgt rfl rfl ⟨by omega, by omega⟩ ⟨by omega, by omega⟩ (fun h70 => ?_) (fun h70 => ?_)
        · refine WP_n 1 rfl ?_
          refine WP_iret rfl rfl rfl ⟨_, rfl, ?_⟩
          exact hq _ F1 B (Or.inr ⟨s9, ⟨rfl, by omega⟩, Or.inr ⟨hal, mv, u, hM, hS, Or.inl ⟨rfl, Or.inl (by omega)⟩⟩⟩) fo bo (fun q => absurd q (by omega))
        · refine WP_n 1 rfl ?_
          refine WP2_getf rfl rfl rfl rfl rfl ?_
          refine WP_ifle rfl rfl ⟨by omega, by omega⟩ (fun h73 => ?_) (fun h73 => ?_)
          · refine WP_n 1 rfl ?_
            refine WP2_callS 1 ok_M_G_bits rfl rfl rfl rfl rfl rfl rfl (Nat.le_of_ble_eq_true rfl) (Nat.le_of_ble_eq_true rfl) ?_
            refine sp_bits (s := s9) (by omega) ?_
            rw [show sumN (fun k => (bitN s9 k : Int)) 16 = cnt s9 from rfl]
            refine WP_n 1 rfl ?_
            refine WP_icmple rfl rfl ⟨by omega, by omega⟩ ⟨by omega, by omega⟩ (fun h81 => ?_) (fun h81 => ?_)
            · exact rest F1 B u fo f31 bo (fun i hi => bl i (by rw [hKc]; exact hi)) hu hS hal (by omega) (by have := hu0 (by omega); omega)
            · refine WP_n 1 rfl ?_
              refine WP_iret rfl rfl rfl ⟨_, rfl, ?_⟩
              exact hq _ F1 B (Or.inr ⟨s9, ⟨rfl, by omega⟩, Or.inr ⟨hal, mv, u, hM, hS, Or.inl ⟨rfl, Or.inr (by omega)⟩⟩⟩) fo bo (fun q => absurd q (by omega))
          · refine WP_n 1 rfl ?_
            refine WP2_callS 1 ok_M_G_bits rfl rfl rfl rfl rfl rfl rfl (Nat.le_of_ble_eq_true rfl) (Nat.le_of_ble_eq_true rfl) ?_
            refine sp_bits (s := u) (by omega) ?_
            rw [show sumN (fun k => (bitN u k : Int)) 16 = cnt u from rfl]
            refine WP_n 1 rfl ?_
            refine WP_icmpgt rfl rfl ⟨by omega, by omega⟩ ⟨by omega, by omega⟩ (fun h77 => ?_) (fun h77 => ?_)
            · refine WP_n 1 rfl ?_
              refine WP_iret rfl rfl rfl ⟨_, rfl, ?_⟩
              exact hq _ F1 B (Or.inr ⟨s9, ⟨rfl, by omega⟩, Or.inr ⟨hal, mv, u, hM, hS, Or.inl ⟨rfl, Or.inr (by omega)⟩⟩⟩) fo bo (fun q => absurd q (by omega))
            · refine WP_n 1 rfl ?_
              refine WP2_callS 1 ok_M_G_bits rfl rfl rfl rfl rfl rfl rfl (Nat.le_of_ble_eq_true rfl) (Nat.le_of_ble_eq_true rfl) ?_
              refine sp_bits (s := s9) (by omega) ?_
              rw [show sumN (fun k => (bitN s9 k : Int)) 16 = cnt s9 from rfl]
              refine WP_n 1 rfl ?_
              refine WP_icmple rfl rfl ⟨by omega, by omega⟩ ⟨by omega, by omega⟩ (fun h81 => ?_) (fun h81 => ?_)
              · exact rest F1 B u fo f31 bo (fun i hi => bl i (by rw [hKc]; exact hi)) hu hS hal (by omega) (by omega)
              · refine WP_n 1 rfl ?_
                refine WP_iret rfl rfl rfl ⟨_, rfl, ?_⟩
                exact hq _ F1 B (Or.inr ⟨s9, ⟨rfl, by omega⟩, Or.inr ⟨hal, mv, u, hM, hS, Or.inl ⟨rfl, Or.inr (by omega)⟩⟩⟩) fo bo (fun q => absurd q (by omega))
      · intro t ht ih F1 B u fo f31 bo bl hu hb hal
        have f0 : F1 165 0 = (c : Int) := (fo _ _ (by omega)).trans hc
        have hq9 := hI.2.2.2.2.1 t (by omega)
        unfold mTm at hq9
        have hq8 := hq9.1 (by omega)
        have e175 : B 175 t = A 175 t := bo _ _ (by omega) (by omega)
        have e174 : B 174 t = A 174 t := bo _ _ (by omega) (by omega)
        have e178 : B 178 t = A 178 t := bo _ _ (by omega) (by omega)
        have hp16 : pcR mv t ≤ t := pcR_le mv t
        refine WP_n 2 rfl ?_
        refine WP2_getf rfl rfl rfl rfl rfl ?_
        refine WP_icmpge rfl rfl ⟨by omega, by omega⟩ ⟨by omega, by omega⟩ (fun h17 => absurd h17 (by omega)) (fun h17 => ?_)
        refine WP_n 1 rfl ?_
        refine WP2_getf rfl rfl rfl rfl rfl ?_
        refine WP_n 1 rfl ?_
        refine WP2_iald (j := t) rfl rfl (ia_lit (n := 16) rfl rfl (by omega)) (by omega) (by omega) (by omega) ?_
        refine WP_n 1 rfl ?_
        refine WP_icmpne rfl rfl ⟨by omega, by omega⟩ ⟨by omega, by omega⟩ (fun h23 => ?_) (fun h23 => ?_)
        · refine WP_n 1 rfl ?_
          refine WP2_getf rfl rfl rfl rfl rfl ?_
          refine WP_n 1 rfl ?_
          refine WP2_zald (j := t) rfl rfl rfl (by omega) (by omega) ?_
          refine WP_ifne rfl rfl ⟨by omega, by omega⟩ (fun h29 => ?_) (fun h29 => ?_)
          · refine WP_n 1 rfl ?_
            refine WP_iret rfl rfl rfl ⟨_, rfl, ?_⟩
            exact hq _ F1 B (Or.inr ⟨s9, ⟨rfl, by omega⟩, Or.inl ⟨rfl, t, ht, by omega, by omega⟩⟩) fo bo (fun q => absurd q (by omega))
          · refine WP_n 1 rfl ?_
            refine WP2_getf rfl rfl rfl rfl rfl ?_
            refine WP_n 1 rfl ?_
            refine WP2_iald (j := t) rfl rfl (ia_lit (n := 16) rfl rfl (by omega)) (by omega) (by omega) (by omega) ?_
            refine WP_n 1 rfl ?_
            refine WP_icmpne rfl rfl ⟨by omega, by omega⟩ ⟨by omega, by omega⟩ (fun h35 => ?_) (fun h35 => ?_)
            · obtain ⟨g9, hg⟩ : ∃ g9 : Nat, A 175 t = (g9 : Int) := ⟨(A 175 t).toNat, by omega⟩
              obtain ⟨p9, hp⟩ : ∃ p9 : Nat, A 174 t = (p9 : Int) := ⟨(A 174 t).toNat, by omega⟩
              have g1 : (2 : Nat) ^ g9 < 2 ^ 11 := Nat.pow_lt_pow_right (by omega) (by omega)
              have p1 : (2 : Nat) ^ p9 < 2 ^ 11 := Nat.pow_lt_pow_right (by omega) (by omega)
              have hgp : 2 ^ g9 ||| 2 ^ p9 < 2 ^ 11 := Nat.or_lt_two_pow g1 p1
              have hlt : u ||| (2 ^ g9 ||| 2 ^ p9) < 2 ^ 11 := Nat.or_lt_two_pow (by omega) hgp
              refine WP_n 3 rfl ?_
              refine WP2_getf rfl rfl rfl rfl rfl ?_
              refine WP_n 1 rfl ?_
              refine WP2_iald (j := t) rfl rfl (ia_lit (n := 16) rfl rfl (by omega)) (by omega) (by omega) (by omega) ?_
              refine WP_n 3 rfl ?_
              refine WP2_getf rfl rfl rfl rfl rfl ?_
              refine WP_n 1 rfl ?_
              refine WP2_iald (j := t) rfl rfl (ia_lit (n := 16) rfl rfl (by omega)) (by omega) (by omega) (by omega) ?_
              refine WP_n 3 rfl ?_
              rw [e175, e174, hg, hp]
              rw [show iShl 1 (g9 : Int) = ((2 ^ g9 : Nat) : Int) from (iShl_n (a := 1) (by omega) (by omega)).trans (by rw [Nat.one_mul]), show iShl 1 (p9 : Int) = ((2 ^ p9 : Nat) : Int) from (iShl_n (a := 1) (by omega) (by omega)).trans (by rw [Nat.one_mul])]
              rw [iOr_n (by omega) (by omega), iOr_n (by omega) (by omega)]
              refine WP_n 2 rfl ?_
              refine WP2_getf rfl rfl rfl rfl rfl ?_
              refine WP_n 2 rfl ?_
              refine WP2_getf rfl rfl rfl rfl rfl ?_
              refine WP_n 3 rfl ?_
              refine WP2_putk (k := 31) rfl rfl rfl rfl rfl rfl (by exact trivial) ?_
              refine WP_n 1 rfl ?_
              refine WP2_iast (j := (pcR mv t)) rfl rfl (ia_lit (n := 16) rfl rfl (by omega)) (by omega) (by omega) (by omega) ?_
              refine WP_n 2 rfl ?_
              have hbt : mv.testBit t = true := (hM.2 t ht).mpr (by omega)
              rw [pcR_t hbt] at ih
              refine ih _ _ (u ||| (2 ^ g9 ||| 2 ^ p9)) (fun a k q => by rw [up2_ne (by omega)]; exact fo a k q) (by rw [up2_same]; omega) (fun a j q1 q2 => by rw [up2_ne (by omega)]; exact bo a j q1 q2) (fun i hi => ?_) hlt (fun f hf => ?_) (fun w hw h1 => ?_)
              · by_cases e : i = pcR mv t
                · rw [e, up2_eq ⟨rfl, by omega⟩, nth_ix (by omega) hbt]
                · rw [up2_ne (by omega)]
                  exact bl i (by omega)
              · rw [Nat.testBit_or, Nat.testBit_or, Nat.testBit_two_pow, Nat.testBit_two_pow]
                rw [Bool.or_eq_true, Bool.or_eq_true, decide_eq_true_eq, decide_eq_true_eq, hb f hf]
                constructor
                · rintro ((q | ⟨w, w1, w2⟩) | q | q)
                  · exact Or.inl q
                  · exact Or.inr ⟨w, by omega, w2⟩
                  · exact Or.inr ⟨t, by omega, by omega, by omega, Or.inl (by omega)⟩
                  · exact Or.inr ⟨t, by omega, by omega, by omega, Or.inr (by omega)⟩
                · rintro (q | ⟨w, w1, w2, w3, w4⟩)
                  · exact Or.inl (Or.inl q)
                  · by_cases e : w = t
                    · rw [e] at w4
                      rcases w4 with w4 | w4
                      · exact Or.inr (Or.inl (by omega))
                      · exact Or.inr (Or.inr (by omega))
                    · exact Or.inl (Or.inr ⟨w, by omega, w2, w3, w4⟩)
              · by_cases e : w = t
                · rw [e]
                  omega
                · exact hal w (by omega) h1
            · refine WP_n 1 rfl ?_
              refine WP_iret rfl rfl rfl ⟨_, rfl, ?_⟩
              exact hq _ F1 B (Or.inr ⟨s9, ⟨rfl, by omega⟩, Or.inl ⟨rfl, t, ht, by omega, by omega⟩⟩) fo bo (fun q => absurd q (by omega))
        · refine WP_n 3 rfl ?_
          have hbf : mv.testBit t = false := by
            cases hz : mv.testBit t
            · rfl
            · exact absurd ((hM.2 t ht).mp hz) (by omega)
          rw [pcR_f hbf] at ih
          refine ih F1 B u fo f31 bo bl hu (fun f hf => ?_) (fun w hw h1 => ?_)
          · rw [hb f hf]
            constructor
            · rintro (q | ⟨w, w1, w2⟩)
              · exact Or.inl q
              · exact Or.inr ⟨w, by omega, w2⟩
            · rintro (q | ⟨w, w1, w2, w3⟩)
              · exact Or.inl q
              · refine Or.inr ⟨w, ?_, w2, w3⟩
                by_cases e : w = t
                · rw [e] at w2
                  omega
                · omega
          · by_cases e : w = t
            · rw [e] at h1
              omega
            · exact hal w (by omega) h1
    · refine WP_n 1 rfl ?_
      exact WP_iret rfl rfl rfl ⟨_, rfl, hq _ FI A (Or.inl ⟨rfl, by omega⟩) (fun _ _ _ => rfl) (fun _ _ _ _ => rfl) (fun q => absurd q (by omega))⟩

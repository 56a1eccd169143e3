/-! moves of the reference: goes, measures -/
theorem RM.bd {FI A : Nat → Nat → Int} {c mv st K S : Nat} {fr sz : Nat → Int} (h : RM FI A c mv st K S fr sz) (d : Nat → Nat) {s : Nat} (hs : s < S) : -2000 ≤ freD fr sz K d s ∧ freD fr sz K d s ≤ 300 := by
  have f := h.2.2.2.2.2.1 (nth st s) (h.F hs)
  have hK6 := h.K6
  have hc16 := h.1.1
  have b := sumN_bd (f := fun j => if d j = s then sz j else 0) (lo := 0) (hi := 60) K (fun j hj => by
    have t := h.T hj
    have q := h.2.2.2.2.1 _ t.1
    have e := h.2.2.2.2.2.2.1 j hj
    split
    · omega
    · omega)
  have b2 := sumN_bd (f := fun t => if mv.testBit t = false ∧ A 174 t = (nth st s : Int) then A 170 t else 0) (lo := 0) (hi := 60) c (fun j hj => by
    have q := h.2.2.2.2.1 _ hj
    split
    · omega
    · omega)
  unfold freD
  rw [h.2.2.2.2.2.2.2 s hs]
  omega
theorem sp_G_goes {P : PP} {d : Nat} {FI A L : Nat → Nat → Int} {X : SX} {Q : Option AV → S2 → Prop} {c mv st K S : Nat} {fr sz : Nat → Int} (hr : RM FI A c mv st K S fr sz) {x i s : Nat} (hx : x < 5 ^ K) (hi : i < K) (hs : s < S) (k1 : s ≠ gd (fun i => K - 1 - i) x i → sz i ≤ freD fr sz K (gd (fun i => K - 1 - i) x) s → Q (some (vi 1)) (FI, A, L, X)) (k0 : ¬ (s ≠ gd (fun i => K - 1 - i) x i ∧ sz i ≤ freD fr sz K (gd (fun i => K - 1 - i) x) s) → Q (some (vi 0)) (FI, A, L, X)) : WP2 P M_G_goes (d + 2) 0 [some (vr 165), some (vi (x : Int)), some (vi (i : Int)), some (vi (s : Int))] [] (FI, A, L, X) Q := by
  have hK6 := hr.K6
  have hS5 := hr.S5
  have hT := hr.T hi
  have e8 := hr.2.2.1 i hi
  have q := hr.2.2.2.2.1 _ hT.1
  have e7 := hr.2.2.2.2.2.2.1 i hi
  have hbd := hr.bd (gd (fun i => K - 1 - i) x) hs
  have hd5 : dc x (K - 1 - i) < 5 := dc_lt
  refine WP_n 3 rfl ?_
  refine WP2_callV 2 ok_M_G_digit rfl rfl rfl rfl rfl rfl (Nat.le_of_ble_eq_true rfl) (Nat.le_of_ble_eq_true rfl) rfl rfl ?_
  refine sp_G_digit hr.2.1.2.1 hK6 hx hi ?_
  refine WP_n 1 rfl ?_
  refine WP_icmpeq rfl rfl ⟨by omega, by omega⟩ ⟨by omega, by omega⟩ (fun h5 => ?_) (fun h5 => ?_)
  · refine WP_n 1 rfl ?_
    exact WP_zret rfl rfl rfl (Or.inl rfl) ⟨_, rfl, k0 (fun w => w.1 (show s = dc x (K - 1 - i) by omega))⟩
  · refine WP_n 3 rfl ?_
    refine WP2_callV 2 ok_M_G_freeIn rfl rfl rfl rfl rfl rfl (Nat.le_of_ble_eq_true rfl) (Nat.le_of_ble_eq_true rfl) rfl rfl ?_
    refine sp_G_freeIn hr hx hs ?_
    refine WP_n 1 rfl ?_
    refine WP2_getf rfl rfl rfl rfl rfl ?_
    refine WP_n 1 rfl ?_
    refine WP2_getf rfl rfl rfl rfl rfl ?_
    refine WP_n 1 rfl ?_
    refine WP2_iald (j := i) rfl rfl (ia_lit (n := 16) rfl rfl (by omega)) (by omega) (by omega) (by omega) ?_
    refine WP2_iald (j := (nth mv i)) rfl rfl (ia_lit (n := 16) rfl rfl (by omega)) (by omega) (by omega) (by omega) ?_
    refine WP_icmplt rfl rfl ⟨by omega, by omega⟩ ⟨by omega, by omega⟩ (fun h17 => ?_) (fun h17 => ?_)
    · refine WP_n 1 rfl ?_
      exact WP_zret rfl rfl rfl (Or.inl rfl) ⟨_, rfl, k0 (fun w => by have := w.2; omega)⟩
    · refine WP_n 2 rfl ?_
      exact WP_zret rfl rfl rfl (Or.inr rfl) ⟨_, rfl, k1 (fun w => by have w2 : s = dc x (K - 1 - i) := w; omega) (by omega)⟩
theorem sp_G_measures {P : PP} {d : Nat} {FI A L : Nat → Nat → Int} {X : SX} {Q : Option AV → S2 → Prop} {c mv st K S : Nat} {fr sz : Nat → Int} (hr : RM FI A c mv st K S fr sz) {dgT : Nat → Nat} {g0 : Nat} (f34 : FI 165 34 = (g0 : Int)) (hg0 : g0 < 5 ^ K) (hg1 : ∀ m, m < K → gd (fun i => K - 1 - i) g0 m = dgT m) (hgS : ∀ m, m < K → dgT m < S) (hq : ∀ B : Nat → Nat → Int, (∀ a j, a ≠ 190 → a ≠ 191 → B a j = A a j) → (∀ D, MK (Rn fr sz K S dgT (fun i => K - 1 - i)) (5 ^ K) (-9) (B 190) D) → (∀ y, y < 5 ^ K → B 190 y = -9 ∨ (0 ≤ B 190 y ∧ B 190 y < 16000)) → Q none (FI, B, L, X)) : WP2 P M_G_measures (d + 3) 0 [some (vr 165), none, none, none, none, none, none, none] [] (FI, A, L, X) Q := by
  have hK6 := hr.K6
  have hS5 := hr.S5
  have f31 := hr.2.1.2.1
  have f32 := hr.2.1.2.2
  have hpK : 5 ^ K ≤ 5 ^ 6 := Nat.pow_le_pow_right (by omega) hK6
  have hK0 : (0 : Int) ≤ ((5 ^ K : Nat) : Int) := Int.natCast_nonneg _
  have hR := Rn.zero (fr := fr) (sz := sz) (PMk K) hg0 hg1 hgS
  have hR0 : ∀ x y, x < 5 ^ K → y < 5 ^ K → (Rn fr sz K S dgT (fun i => K - 1 - i)) 0 x → (Rn fr sz K S dgT (fun i => K - 1 - i)) 0 y → x = y := fun x y hx hy a b => by rw [(hR x hx).mp a, (hR y hy).mp b]
  refine WP_n 4 rfl ?_
  suffices hw : ∀ i, i ≤ K → WP2 P M_G_measures (d + 3) 4 [some (vr 165), some (vi ((5 ^ i : Nat) : Int)), some (vi (i : Int)), none, none, none, none, none] [] (FI, A, L, X) Q from hw 0 (by omega)
  refine up_to (P := fun i => WP2 P M_G_measures (d + 3) 4 [some (vr 165), some (vi ((5 ^ i : Nat) : Int)), some (vi (i : Int)), none, none, none, none, none] [] (FI, A, L, X) Q) K ?_ ?_
  rotate_left
  · intro i hi ih
    rw [show ((5 ^ (i + 1) : Nat) : Int) = ((5 ^ i : Nat) : Int) * 5 from by rw [Nat.pow_succ, Int.natCast_mul]; rfl] at ih
    refine WP_n 2 rfl ?_
    refine WP2_getf rfl rfl rfl rfl rfl ?_
    refine WP_icmpge rfl rfl ⟨by omega, by omega⟩ ⟨by omega, by omega⟩ (fun h7 => absurd h7 (by omega)) (fun h7 => ?_)
    refine WP_n 6 rfl ?_
    exact ih
  refine WP_n 2 rfl ?_
  refine WP2_getf rfl rfl rfl rfl rfl ?_
  refine WP_icmpge rfl rfl ⟨by omega, by omega⟩ ⟨by omega, by omega⟩ (fun h7 => ?_) (fun h7 => absurd h7 (by omega))
  refine WP_n 2 rfl ?_
  suffices hw : ∀ y, y ≤ 5 ^ K → ∀ B : Nat → Nat → Int, (∀ a j, a ≠ 190 → a ≠ 191 → B a j = A a j) → (∀ z, z < y → B 190 z = -9) → WP2 P M_G_measures (d + 3) 16 [some (vr 165), some (vi ((5 ^ K : Nat) : Int)), some (vi (y : Int)), none, none, none, none, none] [] (FI, B, L, X) Q from hw 0 (by omega) A (fun _ _ _ _ => rfl) (fun z hz => absurd hz (by omega))
  refine up_to (P := fun y => ∀ B : Nat → Nat → Int, (∀ a j, a ≠ 190 → a ≠ 191 → B a j = A a j) → (∀ z, z < y → B 190 z = -9) → WP2 P M_G_measures (d + 3) 16 [some (vr 165), some (vi ((5 ^ K : Nat) : Int)), some (vi (y : Int)), none, none, none, none, none] [] (FI, B, L, X) Q) (5 ^ K) ?_ ?_
  rotate_left
  · intro y hy ih B ho hz
    refine WP_n 2 rfl ?_
    refine WP_icmpge rfl rfl ⟨by omega, by omega⟩ ⟨by omega, by omega⟩ (fun h18 => absurd h18 (by omega)) (fun h18 => ?_)
    refine WP_n 1 rfl ?_
    refine WP2_getf rfl rfl rfl rfl rfl ?_
    refine WP_n 2 rfl ?_
    refine WP2_iast (j := y) rfl rfl (ia_lit (n := 15625) rfl rfl (by omega)) (by omega) (by omega) (by omega) ?_
    refine WP_n 2 rfl ?_
    refine ih _ (fun a j q1 q2 => by rw [up2_ne (by omega)]; exact ho a j q1 q2) (fun z hz2 => ?_)
    by_cases w : z = y
    · rw [w, up2_same]
    · rw [up2_ne (Or.inr w)]
      exact hz z (by omega)
  intro B ho hz
  refine WP_n 2 rfl ?_
  refine WP_icmpge rfl rfl ⟨by omega, by omega⟩ ⟨by omega, by omega⟩ (fun h18 => ?_) (fun h18 => absurd h18 (by omega))
  refine WP_n 3 rfl ?_
  refine WP2_getf rfl rfl rfl rfl rfl ?_
  refine WP_n 1 rfl ?_
  refine WP2_getf rfl rfl rfl rfl rfl ?_
  refine WP_n 1 rfl ?_
  refine WP2_iast (j := g0) rfl rfl (ia_lit (n := 15625) rfl rfl (by omega)) (by omega) (by omega) (by omega) ?_
  refine WP_n 1 rfl ?_
  refine WP2_getf rfl rfl rfl rfl rfl ?_
  refine WP_n 3 rfl ?_
  refine WP2_getf rfl rfl rfl rfl rfl ?_
  refine WP2_iast (j := 0) rfl rfl (ia_lit (n := 15625) rfl rfl (by omega)) (by omega) (by omega) (by omega) ?_
  refine WP_n 2 rfl ?_
  suffices hw : ∀ h, h ≤ 5 ^ K → ∀ (B : Nat → Nat → Int) (k : Nat), (∀ a j, a ≠ 190 → a ≠ 191 → B a j = A a j) → QB (Rn fr sz K S dgT (fun i => K - 1 - i)) (En fr sz K S (fun i => K - 1 - i)) (5 ^ K) (-9) (B 190) (B 191) k h → WP2 P M_G_measures (d + 3) 43 [some (vr 165), some (vi ((5 ^ K : Nat) : Int)), some (vi (k : Int)), some (vi (h : Int)), none, none, none, none] [] (FI, B, L, X) Q from hw 0 (by omega) _ 1 (fun a j q1 q2 => by rw [up2_ne (by omega), up2_ne (by omega)]; exact ho a j q1 q2) (QB.start (by omega) hg0 hR (up2_same.trans f34) (fun x hx => ?_))
  · rw [up2_ne (by omega)]
    by_cases w : x = g0
    · rw [if_pos w, up2_eq ⟨rfl, w⟩]
    · rw [if_neg w, up2_ne (Or.inr w)]
      exact hz x hx
  clear hz ho B
  have fin : ∀ (B : Nat → Nat → Int) (k h : Nat), (∀ a j, a ≠ 190 → a ≠ 191 → B a j = A a j) → QB (Rn fr sz K S dgT (fun i => K - 1 - i)) (En fr sz K S (fun i => K - 1 - i)) (5 ^ K) (-9) (B 190) (B 191) k h → k ≤ h → Q none (FI, B, L, X) := fun B k h ho hB hkh => by
    have hle := hB.1.2.2.2.2.2.2.2.2
    obtain rfl : h = k := by omega
    have hmg : B 190 g0 ≠ -9 := by
      have h0 := (hB.1.2.2.2.1 _ (hB.1.1 0 hB.2.2.2.1) (by show B 190 (B 191 0).toNat ≠ -9; rw [hB.2.2.1]; omega))
      obtain ⟨j, j1, j2, j3⟩ := h0
      have e0 : B 190 (B 191 0).toNat = (j : Int) := j1
      rw [hB.2.2.1] at e0
      obtain rfl : j = 0 := by omega
      have := (hR _ (hB.1.1 0 hB.2.2.2.1)).mp j2
      rw [← this]
      show B 190 (B 191 0).toNat ≠ -9
      rw [hB.2.2.1]
      omega
    exact hq B ho (fun D => MK.fin hB.1 hg0 hR hmg (Rn.dn hS5 (PMk K))) (fun y hy => by have z := hB.bd (by omega) hy; omega)
  refine up_to (P := fun h => ∀ (B : Nat → Nat → Int) (k : Nat), (∀ a j, a ≠ 190 → a ≠ 191 → B a j = A a j) → QB (Rn fr sz K S dgT (fun i => K - 1 - i)) (En fr sz K S (fun i => K - 1 - i)) (5 ^ K) (-9) (B 190) (B 191) k h → WP2 P M_G_measures (d + 3) 43 [some (vr 165), some (vi ((5 ^ K : Nat) : Int)), some (vi (k : Int)), some (vi (h : Int)), none, none, none, none] [] (FI, B, L, X) Q) (5 ^ K) ?_ ?_
  · intro B k ho hB
    have hle := hB.1.le
    refine WP_n 2 rfl ?_
    refine WP_icmpge rfl rfl ⟨by omega, by omega⟩ ⟨by omega, by omega⟩ (fun h45 => ?_) (fun h45 => absurd h45 (by omega))
    exact WP_vret rfl rfl rfl ⟨_, rfl, fin B k _ ho hB (by omega)⟩
  · intro h hh5 ihh B k ho hB
    have hle := hB.1.le
    by_cases hkh : k ≤ h
    · refine WP_n 2 rfl ?_
      refine WP_icmpge rfl rfl ⟨by omega, by omega⟩ ⟨by omega, by omega⟩ (fun h45 => ?_) (fun h45 => absurd h45 (by omega))
      exact WP_vret rfl rfl rfl ⟨_, rfl, fin B k _ ho hB hkh⟩
    · refine WP_n 2 rfl ?_
      refine WP_icmpge rfl rfl ⟨by omega, by omega⟩ ⟨by omega, by omega⟩ (fun h45 => absurd h45 (by omega)) (fun h45 => ?_)
      have hqN : (B 191 h).toNat < 5 ^ K := hB.1.1 h (by omega)
      obtain ⟨x, hqx⟩ : ∃ x : Nat, B 191 h = (x : Int) := ⟨(B 191 h).toNat, by have := hB.2.1 h (by omega); omega⟩
      have hx : x < 5 ^ K := by rw [hqx] at hqN; exact hqN
      have hhk : h < k := by omega
      obtain ⟨j0, j1, j2, j3⟩ := hB.1.2.2.2.1 x hx ((hB.1.2.1 x hx).mpr ⟨h, hhk, by show (B 191 h).toNat = x; omega⟩)
      have hvx := j2.1
      obtain ⟨lf, hlf⟩ : ∃ lf : Nat, B 190 x + 1 = (lf : Int) := ⟨j0 + 1, by omega⟩
      refine WP_n 1 rfl ?_
      refine WP2_getf rfl rfl rfl rfl rfl ?_
      refine WP_n 1 rfl ?_
      refine WP2_iald (j := h) rfl rfl (ia_lit (n := 15625) rfl rfl (by omega)) (by omega) (by omega) (by omega) ?_
      rw [hqx]
      refine WP_n 3 rfl ?_
      suffices hw2 : ∀ i, i ≤ K → ∀ (B : Nat → Nat → Int) (k : Nat), (∀ a j, a ≠ 190 → a ≠ 191 → B a j = A a j) → QB (Rn fr sz K S dgT (fun i => K - 1 - i)) (En fr sz K S (fun i => K - 1 - i)) (5 ^ K) (-9) (B 190) (B 191) k h → h < k → B 191 h = (x : Int) → B 190 x + 1 = (lf : Int) → (∀ u s, u < i → s < S → s ≠ gd (fun i => K - 1 - i) x u → 0 ≤ freD fr sz K (gd (fun i => K - 1 - i) x) (gd (fun i => K - 1 - i) x u) → B 190 (upx x (K - 1 - u) s) ≠ -9) → WP2 P M_G_measures (d + 3) 53 [some (vr 165), some (vi ((5 ^ K : Nat) : Int)), some (vi (k : Int)), some (vi (h : Int)), some (vi (x : Int)), some (vi (i : Int)), none, none] [] (FI, B, L, X) Q from hw2 0 (by omega) B k ho hB hhk hqx hlf (fun i s hi => absurd hi (by omega))
      clear hlf hqx hhk hB ho h45 hqN j1 hle hkh B k
      refine up_to (P := fun i => ∀ (B : Nat → Nat → Int) (k : Nat), (∀ a j, a ≠ 190 → a ≠ 191 → B a j = A a j) → QB (Rn fr sz K S dgT (fun i => K - 1 - i)) (En fr sz K S (fun i => K - 1 - i)) (5 ^ K) (-9) (B 190) (B 191) k h → h < k → B 191 h = (x : Int) → B 190 x + 1 = (lf : Int) → (∀ u s, u < i → s < S → s ≠ gd (fun i => K - 1 - i) x u → 0 ≤ freD fr sz K (gd (fun i => K - 1 - i) x) (gd (fun i => K - 1 - i) x u) → B 190 (upx x (K - 1 - u) s) ≠ -9) → WP2 P M_G_measures (d + 3) 53 [some (vr 165), some (vi ((5 ^ K : Nat) : Int)), some (vi (k : Int)), some (vi (h : Int)), some (vi (x : Int)), some (vi (i : Int)), none, none] [] (FI, B, L, X) Q) K ?_ ?_
      · intro B k ho hB hhk hqx hlf hcv
        refine WP_n 2 rfl ?_
        refine WP2_getf rfl rfl rfl rfl rfl ?_
        refine WP_icmpge rfl rfl ⟨by omega, by omega⟩ ⟨by omega, by omega⟩ (fun h56 => ?_) (fun h56 => absurd h56 (by omega))
        refine WP_n 2 rfl ?_
        refine WP2_kill 4 (WP2_kill 5 (ihh B k ho (hB.nx (Rn.dn hS5 (PMk K)) hR0 hhk (fun y hy he => ?_))))
        rw [show (B 191 h).toNat = x by omega] at he
        obtain ⟨i, s, i1, i2, i3, i4, i5⟩ := En.cov hS5 (PMk K) hy hvx he
        rw [i4]
        exact hcv i s i1 i2 i3 i5
      · intro i hi ih B k ho hB hhk hqx hlf hcv
        have hdc : dc x (K - 1 - i) < 5 := dc_lt
        refine WP_n 2 rfl ?_
        refine WP2_getf rfl rfl rfl rfl rfl ?_
        refine WP_icmpge rfl rfl ⟨by omega, by omega⟩ ⟨by omega, by omega⟩ (fun h56 => absurd h56 (by omega)) (fun h56 => ?_)
        refine WP_n 2 rfl ?_
        suffices hw3 : ∀ p, p ≤ S → ∀ (B : Nat → Nat → Int) (k : Nat), (∀ a j, a ≠ 190 → a ≠ 191 → B a j = A a j) → QB (Rn fr sz K S dgT (fun i => K - 1 - i)) (En fr sz K S (fun i => K - 1 - i)) (5 ^ K) (-9) (B 190) (B 191) k h → h < k → B 191 h = (x : Int) → B 190 x + 1 = (lf : Int) → (∀ u s, u < i → s < S → s ≠ gd (fun i => K - 1 - i) x u → 0 ≤ freD fr sz K (gd (fun i => K - 1 - i) x) (gd (fun i => K - 1 - i) x u) → B 190 (upx x (K - 1 - u) s) ≠ -9) → (∀ s, s < p → s ≠ gd (fun i => K - 1 - i) x i → 0 ≤ freD fr sz K (gd (fun i => K - 1 - i) x) (gd (fun i => K - 1 - i) x i) → B 190 (upx x (K - 1 - i) s) ≠ -9) → WP2 P M_G_measures (d + 3) 59 [some (vr 165), some (vi ((5 ^ K : Nat) : Int)), some (vi (k : Int)), some (vi (h : Int)), some (vi (x : Int)), some (vi (i : Int)), some (vi (p : Int)), none] [] (FI, B, L, X) Q from hw3 0 (by omega) B k ho hB hhk hqx hlf hcv (fun s hs => absurd hs (by omega))
        clear hcv hlf hqx hhk hB ho B k hdc
        refine up_to (P := fun p => ∀ (B : Nat → Nat → Int) (k : Nat), (∀ a j, a ≠ 190 → a ≠ 191 → B a j = A a j) → QB (Rn fr sz K S dgT (fun i => K - 1 - i)) (En fr sz K S (fun i => K - 1 - i)) (5 ^ K) (-9) (B 190) (B 191) k h → h < k → B 191 h = (x : Int) → B 190 x + 1 = (lf : Int) → (∀ u s, u < i → s < S → s ≠ gd (fun i => K - 1 - i) x u → 0 ≤ freD fr sz K (gd (fun i => K - 1 - i) x) (gd (fun i => K - 1 - i) x u) → B 190 (upx x (K - 1 - u) s) ≠ -9) → (∀ s, s < p → s ≠ gd (fun i => K - 1 - i) x i → 0 ≤ freD fr sz K (gd (fun i => K - 1 - i) x) (gd (fun i => K - 1 - i) x i) → B 190 (upx x (K - 1 - i) s) ≠ -9) → WP2 P M_G_measures (d + 3) 59 [some (vr 165), some (vi ((5 ^ K : Nat) : Int)), some (vi (k : Int)), some (vi (h : Int)), some (vi (x : Int)), some (vi (i : Int)), some (vi (p : Int)), none] [] (FI, B, L, X) Q) S ?_ ?_
        · intro B k ho hB hhk hqx hlf hcv hcs
          refine WP_n 2 rfl ?_
          refine WP2_getf rfl rfl rfl rfl rfl ?_
          refine WP_icmpge rfl rfl ⟨by omega, by omega⟩ ⟨by omega, by omega⟩ (fun h62 => ?_) (fun h62 => absurd h62 (by omega))
          refine WP_n 2 rfl ?_
          refine WP2_kill 6 (ih B k ho hB hhk hqx hlf (fun i' s hi' hs hne hfr => ?_))
          by_cases z : i' = i
          · rw [z] at hne hfr ⊢
            exact hcs s hs hne hfr
          · exact hcv i' s (by omega) hs hne hfr
        · intro p hp ih3 B k ho hB hhk hqx hlf hcv hcs
          have ux := upx_ok hx (show K - 1 - i < K by omega) (show p < 5 by omega)
          have g1 := gd_upx (s := p) (PMk K) hx hi (by omega)
          have hrB := hr.off ⟨rfl, rfl, rfl⟩ (fun a j _ _ => ho a j (by omega) (by omega))
          have hm1 := hB.bd (by omega) ux.1
          have hdS : dc x (K - 1 - i) < S := hvx i hi
          have hroom : B 190 (upx x (K - 1 - i) p) = -9 → k < 5 ^ K := fun hu => hB.1.room ux.1 hu
          refine WP_n 2 rfl ?_
          refine WP2_getf rfl rfl rfl rfl rfl ?_
          refine WP_icmpge rfl rfl ⟨by omega, by omega⟩ ⟨by omega, by omega⟩ (fun h62 => absurd h62 (by omega)) (fun h62 => ?_)
          refine WP_n 4 rfl ?_
          refine WP2_callV 2 ok_M_G_digit rfl rfl rfl rfl rfl rfl (Nat.le_of_ble_eq_true rfl) (Nat.le_of_ble_eq_true rfl) rfl rfl ?_
          refine sp_G_digit hr.2.1.2.1 hK6 hx hi ?_
          refine WP_icmpne rfl rfl ⟨by omega, by omega⟩ ⟨by omega, by omega⟩ (fun h68 => ?_) (fun h68 => ?_)
          · refine WP_n 4 rfl ?_
            refine WP2_callV 3 ok_M_G_with rfl rfl rfl rfl rfl rfl (Nat.le_of_ble_eq_true rfl) (Nat.le_of_ble_eq_true rfl) rfl rfl ?_
            refine sp_G_with hr.2.1.2.1 hK6 hx hi (by omega) ?_
            refine WP_n 2 rfl ?_
            refine WP2_getf rfl rfl rfl rfl rfl ?_
            refine WP_n 1 rfl ?_
            refine WP2_iald (j := upx x (K - 1 - i) p) rfl rfl (ia_lit (n := 15625) rfl rfl (by omega)) (by omega) (by omega) (by omega) ?_
            refine WP_n 1 rfl ?_
            refine WP_icmpne rfl rfl ⟨by omega, by omega⟩ ⟨by omega, by omega⟩ (fun h81 => ?_) (fun h81 => ?_)
            · refine WP_n 2 rfl ?_
              refine WP2_kill 7 (ih3 B k ho hB hhk hqx hlf hcv (fun s hs hne hfr => ?_))
              by_cases z : s = p
              · rw [z] at hne ⊢
                exact h81
              · exact hcs s (by omega) hne hfr
            · refine WP_n 6 rfl ?_
              refine WP2_callV 2 ok_M_G_digit rfl rfl rfl rfl rfl rfl (Nat.le_of_ble_eq_true rfl) (Nat.le_of_ble_eq_true rfl) rfl rfl ?_
              refine sp_G_digit hr.2.1.2.1 hK6 hx hi ?_
              refine WP2_callV 3 ok_M_G_goes rfl rfl rfl rfl rfl rfl (Nat.le_of_ble_eq_true rfl) (Nat.le_of_ble_eq_true rfl) rfl rfl ?_
              refine sp_G_goes hrB ux.1 hi hdS (fun hgn hgf => ?_) (fun hgo => ?_)
              · refine WP_ifne rfl rfl ⟨by decide, by decide⟩  (fun h90 => ?_) (fun h90 => absurd (by decide) h90)
                have hrm := hroom (by omega)
                refine WP_n 1 rfl ?_
                refine WP2_getf rfl rfl rfl rfl rfl ?_
                refine WP_n 2 rfl ?_
                refine WP2_getf rfl rfl rfl rfl rfl ?_
                refine WP_n 1 rfl ?_
                refine WP2_iald (j := x) rfl rfl (ia_lit (n := 15625) rfl rfl (by omega)) (by omega) (by omega) (by omega) ?_
                refine WP_n 2 rfl ?_
                refine WP2_iast (j := upx x (K - 1 - i) p) rfl rfl (ia_lit (n := 15625) rfl rfl (by omega)) (by omega) (by omega) (by omega) ?_
                refine WP_n 1 rfl ?_
                refine WP2_getf rfl rfl rfl rfl rfl ?_
                refine WP_n 3 rfl ?_
                refine WP2_iast (j := k) rfl rfl (ia_lit (n := 15625) rfl rfl (by omega)) (by omega) (by omega) (by omega) ?_
                refine WP_n 2 rfl ?_
                have hne : p ≠ gd (fun i => K - 1 - i) x i := fun w => h68 (show (p : Int) = (dc x (K - 1 - i) : Int) by rw [show dc x (K - 1 - i) = p from w.symm])
                have h0 := (En.mk hS5 (PMk K) hx hvx hi hp hne).mp hgf
                have hE := En.mk2 (fr := fr) (sz := sz) hS5 (PMk K) hx hvx hi hp hne h0
                have hxk : (B 191 h).toNat = x := by omega
                have hnx : upx x (K - 1 - i) p ≠ x := fun w => by rw [w] at h81; exact absurd h81 (by omega)
                refine WP2_kill 7 (ih3 _ (k + 1) (fun a j q1 q2 => by rw [up2_ne (by omega), up2_ne (by omega)]; exact ho a j q1 q2) (hB.mark (x := upx x (K - 1 - i) p) (by omega) (En.up hS5 (PMk K)) hhk ux.1 (by omega) (by rw [hxk]; exact hE) (fun y hy => ?_) (fun j hj => ?_)) (by omega) (by rw [up2_ne (by omega), up2_ne (by omega)]; exact hqx) (by rw [up2_ne (by omega), up2_ne (by omega)]; exact hlf) (fun i' s hi' hs hne2 hfr => ?_) (fun s hs hne2 hfr => ?_))
                · rw [up2_ne (by omega), hxk]
                  by_cases z : y = upx x (K - 1 - i) p
                  · rw [if_pos z, up2_eq ⟨rfl, z⟩]
                  · rw [if_neg z, up2_ne (Or.inr z)]
                · by_cases z : j = k
                  · rw [if_pos z, up2_eq ⟨rfl, z⟩]
                  · rw [if_neg z, up2_ne (Or.inr z), up2_ne (by omega)]
                · rw [up2_ne (by omega)]
                  by_cases z : upx x (K - 1 - i') s = upx x (K - 1 - i) p
                  · rw [up2_eq ⟨rfl, z⟩]; omega
                  · rw [up2_ne (Or.inr z)]
                    exact hcv i' s hi' hs hne2 hfr
                · rw [up2_ne (by omega)]
                  by_cases z : upx x (K - 1 - i) s = upx x (K - 1 - i) p
                  · rw [up2_eq ⟨rfl, z⟩]; omega
                  · rw [up2_ne (Or.inr z)]
                    refine hcs s ?_ hne2 hfr
                    by_cases w : s = p
                    · exact absurd (by rw [w]) z
                    · omega
              · refine WP_ifne rfl rfl ⟨by decide, by decide⟩  (fun h90 => absurd h90 (by decide)) (fun h90 => ?_)
                refine WP_n 3 rfl ?_
                refine WP2_kill 7 (ih3 B k ho hB hhk hqx hlf hcv (fun s hs hne hfr => ?_))
                by_cases z : s = p
                · rw [z] at hne ⊢
                  exact absurd ⟨by
                    rw [g1 i hi]
                    show gd (fun i => K - 1 - i) x i ≠ (if i = i then p else gd (fun i => K - 1 - i) x i)
                    rw [if_pos rfl]
                    omega, (En.mk hS5 (PMk K) hx hvx hi hp hne).mpr hfr⟩ hgo
                · exact hcs s (by omega) hne hfr
          · refine WP_n 3 rfl ?_
            refine (ih3 B k ho hB hhk hqx hlf hcv (fun s hs hne hfr => ?_))
            by_cases z : s = p
            · rw [z] at hne ⊢
              exact absurd (show p = dc x (K - 1 - i) by omega) hne
            · exact hcs s (by omega) hne hfr

/-! moves of the class: enqueueBefore -/
theorem sp_enqueueBefore {P : PP} {d : Nat} {FI A L : Nat → Nat → Int} {X : SX} {Q : Option AV → S2 → Prop} {n0 : Nat} {FI0 A0 : Nat → Nat → Int} {c mv st K S : Nat} (hh : HM n0 FI0 A0 c mv st K S) (hS : MSt FI0 A0 c mv st K S FI A) {g : Nat → Nat} {x k h len : Nat} (hX : XO P X len) (hlen : 5 ^ K ≤ len) (hx : x < 5 ^ K) (hB : QB (Rn (frM A0 c mv st) (szM A0 mv) K S g (fun m => m)) (En (frM A0 c mv st) (szM A0 mv) K S (fun m => m)) (5 ^ K) (-1) (A X.2.2.1) (A X.2.2.2.1) k h) (hk : FI 152 8 = (k : Int)) (hhk : h < k) (hqx : A X.2.2.2.1 h = (x : Int)) (hR0 : ∀ x y, x < 5 ^ K → y < 5 ^ K → (Rn (frM A0 c mv st) (szM A0 mv) K S g (fun m => m)) 0 x → (Rn (frM A0 c mv st) (szM A0 mv) K S g (fun m => m)) 0 y → x = y) (hq : ∀ (F1 B : Nat → Nat → Int) (k : Nat), MSt FI0 A0 c mv st K S F1 B → QB (Rn (frM A0 c mv st) (szM A0 mv) K S g (fun m => m)) (En (frM A0 c mv st) (szM A0 mv) K S (fun m => m)) (5 ^ K) (-1) (B X.2.2.1) (B X.2.2.2.1) k (h + 1) → F1 152 8 = (k : Int) → Q none (F1, B, L, X)) : WP2 P M_V_enqueueBefore (d + 2) 0 [some (vr 152), some (vi (x : Int)), none, none, none, none] [] (FI, A, L, X) Q := by
  have hK6 := hh.2.2.2.2.2.1
  have hS5 := hh.2.2.2.2.2.2.2
  have hK6' : 5 ^ K ≤ 5 ^ 6 := Nat.pow_le_pow_right (by omega) hK6
  have hXO := hX
  obtain ⟨HA_ml, HA_qu, x3, x4, x5, x6⟩ := hX
  have hmr : ∀ (B : Nat → Nat → Int) (k h : Nat), QB (Rn (frM A0 c mv st) (szM A0 mv) K S g (fun m => m)) (En (frM A0 c mv st) (szM A0 mv) K S (fun m => m)) (5 ^ K) (-1) (B X.2.2.1) (B X.2.2.2.1) k h → ∀ y, y < 5 ^ K → -1 ≤ B X.2.2.1 y ∧ B X.2.2.1 y ≤ 60000 := fun B k h hB y hy => by
    have z := hB.bd (by omega) hy
    have z2 : ((5 ^ K : Nat) : Int) ≤ 15625 := by omega
    omega
  have hvx : ∀ m, m < K → gd (fun m => m) x m < S := by
    obtain ⟨j, j1, j2, j3⟩ := hB.1.2.2.2.1 x hx ((hB.1.2.1 x hx).mpr ⟨h, hhk, by show (A X.2.2.2.1 h).toNat = x; omega⟩)
    exact j2.1
  have hm0 : 0 ≤ A X.2.2.1 x := by
    obtain ⟨j, j1, j2, j3⟩ := hB.1.2.2.2.1 x hx ((hB.1.2.1 x hx).mpr ⟨h, hhk, by show (A X.2.2.2.1 h).toNat = x; omega⟩)
    omega
  obtain ⟨lf, hlf⟩ : ∃ lf : Nat, A X.2.2.1 x + 1 = (lf : Int) := ⟨(A X.2.2.1 x + 1).toNat, by omega⟩
  refine WP_n 2 rfl ?_
  refine WP2_callV 1 ok_M_V_open rfl rfl rfl rfl rfl rfl (Nat.le_of_ble_eq_true rfl) (Nat.le_of_ble_eq_true rfl) rfl rfl ?_
  refine sp_open hh hS hx (fun B o1 o2 o3 => ?_)
  refine WP_n 1 rfl ?_
  refine WP2_getf rfl rfl rfl rfl rfl ?_
  refine WP_n 1 rfl ?_
  refine WP2_iald (j := x) rfl rfl (HA_ml) (by omega) (by omega) (by omega) ?_
  refine WP_n 5 rfl ?_
  have b5 : ∀ s, s < S → B 157 s = freD (frM A0 c mv st) (szM A0 mv) K (dc x) s := fun s hs => by
    rw [o3 s (by omega), hS.2.2.2.2 s hs]
    rfl
  rw [o1 _ _ (by omega) (by omega), hlf]
  suffices hw : ∀ m, m ≤ K → ∀ (F1 B : Nat → Nat → Int) (k : Nat), MSt FI0 A0 c mv st K S F1 B → QB (Rn (frM A0 c mv st) (szM A0 mv) K S g (fun m => m)) (En (frM A0 c mv st) (szM A0 mv) K S (fun m => m)) (5 ^ K) (-1) (B X.2.2.1) (B X.2.2.2.1) k h → F1 152 8 = (k : Int) → ((∀ i, i < K → B 156 i = (dc x i : Int)) ∧ ∀ s, s < S → B 157 s = freD (frM A0 c mv st) (szM A0 mv) K (dc x) s) → h < k → (B X.2.2.2.1 h = (x : Int)) → (B X.2.2.1 x + 1 = (lf : Int)) → (∀ i s, i < m → s < S → 0 ≤ freD (frM A0 c mv st) (szM A0 mv) K (dc x) (dc x i) → B X.2.2.1 (upx x i s) ≠ -1) → WP2 P M_V_enqueueBefore (d + 2) 12 [some (vr 152), some (vi (x : Int)), some (vi (lf : Int)), some (vi (m : Int)), none, none] [] (F1, B, L, X) Q from hw 0 (by omega) FI B k (hS.up hK6 hS5 (fun a j q => o1 a j (by omega) (by omega)) (fun _ _ _ => rfl)) (hB.congr (fun y _ => o1 _ _ (by omega) (by omega)) (fun y _ => o1 _ _ (by omega) (by omega))) hk ⟨o2, b5⟩ hhk (by rw [o1 _ _ (by omega) (by omega)]; exact hqx) (by rw [o1 _ _ (by omega) (by omega)]; exact hlf) (fun i s hi => absurd hi (by omega))
  clear b5 o1 o2 o3 hk hlf hqx hhk hm0 hB hS B
  refine up_to (P := fun m => ∀ (F1 B : Nat → Nat → Int) (k : Nat), MSt FI0 A0 c mv st K S F1 B → QB (Rn (frM A0 c mv st) (szM A0 mv) K S g (fun m => m)) (En (frM A0 c mv st) (szM A0 mv) K S (fun m => m)) (5 ^ K) (-1) (B X.2.2.1) (B X.2.2.2.1) k h → F1 152 8 = (k : Int) → ((∀ i, i < K → B 156 i = (dc x i : Int)) ∧ ∀ s, s < S → B 157 s = freD (frM A0 c mv st) (szM A0 mv) K (dc x) s) → h < k → (B X.2.2.2.1 h = (x : Int)) → (B X.2.2.1 x + 1 = (lf : Int)) → (∀ i s, i < m → s < S → 0 ≤ freD (frM A0 c mv st) (szM A0 mv) K (dc x) (dc x i) → B X.2.2.1 (upx x i s) ≠ -1) → WP2 P M_V_enqueueBefore (d + 2) 12 [some (vr 152), some (vi (x : Int)), some (vi (lf : Int)), some (vi (m : Int)), none, none] [] (F1, B, L, X) Q) K ?_ ?_
  · intro F1 B k hM hB hk bo hhk hqx hlf hcv
    have fK := hM.2.1.1
    refine WP_n 2 rfl ?_
    refine WP2_getf rfl rfl rfl rfl rfl ?_
    refine WP_icmpge rfl rfl ⟨by omega, by omega⟩ ⟨by omega, by omega⟩ (fun h15 => ?_) (fun h15 => absurd h15 (by omega))
    refine WP_vret rfl rfl rfl ⟨_, rfl, ?_⟩
    refine hq F1 B k hM (hB.nx (Rn.dn hS5 ⟨fun i hi => hi, fun i hi => rfl⟩) hR0 hhk (fun y hy he => ?_)) hk
    have hxk : (B X.2.2.2.1 h).toNat = x := by omega
    rw [hxk] at he
    obtain ⟨i, s, i1, i2, i3, i4, i5⟩ := En.cov hS5 ⟨fun i hi => hi, fun i hi => rfl⟩ hy hvx he
    rw [i4]
    exact hcv i s i1 i2 i5
  · intro m hm ih F1 B k hM hB hk bo hhk hqx hlf hcv
    have fK := hM.2.1.1
    have fS := hM.2.1.2
    have hI := hh.1
    obtain ⟨b4, b5⟩ := bo
    have hvm : dc x m < S := hvx m hm
    have e156 := b4 m hm
    have e157 := b5 _ hvm
    have fbd := freD_bd hh (dc x) hvm (Nat.le_refl K)
    refine WP_n 2 rfl ?_
    refine WP2_getf rfl rfl rfl rfl rfl ?_
    refine WP_icmpge rfl rfl ⟨by omega, by omega⟩ ⟨by omega, by omega⟩ (fun h15 => absurd h15 (by omega)) (fun h15 => ?_)
    refine WP_n 1 rfl ?_
    refine WP2_getf rfl rfl rfl rfl rfl ?_
    refine WP_n 1 rfl ?_
    refine WP2_getf rfl rfl rfl rfl rfl ?_
    refine WP_n 1 rfl ?_
    refine WP2_iald (j := m) rfl rfl (ia_lit (n := 6) rfl rfl (by omega)) (by omega) (by omega) (by omega) ?_
    refine WP2_iald (j := (dc x m)) rfl rfl (ia_lit (n := 5) rfl rfl (by omega)) (by omega) (by omega) (by omega) ?_
    refine WP_iflt rfl rfl ⟨by omega, by omega⟩ (fun h23 => ?_) (fun h23 => ?_)
    · refine WP_n 2 rfl ?_
      refine ih F1 B k hM hB hk ⟨b4, b5⟩ hhk hqx hlf (fun i s hi hs hf => ?_)
      by_cases z : i = m
      · rw [z] at hf
        exact absurd hf (by omega)
      · exact hcv i s (by omega) hs hf
    · have hfr : 0 ≤ freD (frM A0 c mv st) (szM A0 mv) K (gd (fun m => m) x) (gd (fun m => m) x m) := by
        show 0 ≤ freD (frM A0 c mv st) (szM A0 mv) K (dc x) (dc x m)
        omega
      refine WP_n 2 rfl ?_
      refine WP2_getf rfl rfl rfl rfl rfl ?_
      refine WP_n 1 rfl ?_
      refine WP2_iald (j := m) rfl rfl (ia_lit (n := 6) rfl rfl (by omega)) (by omega) (by omega) (by omega) ?_
      refine WP2_gets (x := 4) rfl rfl rfl ?_
      refine WP_n 1 rfl ?_
      refine WP2_ialds (j := m) rfl rfl (ia_lit (n := 7) rfl rfl (by omega)) (by omega) (by omega) (by omega) ?_
      refine WP_n 5 rfl ?_
      rw [b4 m hm, show st5 P 4 m = PWt m from rfl, PWt_pow m (by omega), show (x : Int) - (dc x m : Int) * ((5 ^ m : Nat) : Int) = ((x - dc x m * 5 ^ m : Nat) : Int) from by
        have := dc_le (x := x) (p := m)
        rw [← Int.natCast_mul]
        omega]
      refine (show ∀ s, s ≤ S → ∀ (F1 B : Nat → Nat → Int) (k : Nat), MSt FI0 A0 c mv st K S F1 B → QB (Rn (frM A0 c mv st) (szM A0 mv) K S g (fun m => m)) (En (frM A0 c mv st) (szM A0 mv) K S (fun m => m)) (5 ^ K) (-1) (B X.2.2.1) (B X.2.2.2.1) k h → F1 152 8 = (k : Int) → ((∀ i, i < K → B 156 i = (dc x i : Int)) ∧ ∀ s, s < S → B 157 s = freD (frM A0 c mv st) (szM A0 mv) K (dc x) s) → h < k → (B X.2.2.2.1 h = (x : Int)) → (B X.2.2.1 x + 1 = (lf : Int)) → (∀ i s, i < m → s < S → 0 ≤ freD (frM A0 c mv st) (szM A0 mv) K (dc x) (dc x i) → B X.2.2.1 (upx x i s) ≠ -1) → (∀ s', s' < s → B X.2.2.1 (upx x m s') ≠ -1) → WP2 P M_V_enqueueBefore (d + 2) 37 [some (vr 152), some (vi (x : Int)), some (vi (lf : Int)), some (vi (m : Int)), some (vi ((x - dc x m * 5 ^ m : Nat) : Int)), some (vi (s : Int))] [] (F1, B, L, X) Q from ?_) 0 (by omega) F1 B k hM hB hk ⟨b4, b5⟩ hhk hqx hlf hcv (fun s' hs' => absurd hs' (by omega))
      clear hlf hcv hqx hhk b4 b5 hk hB hM fK fS hI
      clear h15 h23
      refine up_to (P := fun s => ∀ (F1 B : Nat → Nat → Int) (k : Nat), MSt FI0 A0 c mv st K S F1 B → QB (Rn (frM A0 c mv st) (szM A0 mv) K S g (fun m => m)) (En (frM A0 c mv st) (szM A0 mv) K S (fun m => m)) (5 ^ K) (-1) (B X.2.2.1) (B X.2.2.2.1) k h → F1 152 8 = (k : Int) → ((∀ i, i < K → B 156 i = (dc x i : Int)) ∧ ∀ s, s < S → B 157 s = freD (frM A0 c mv st) (szM A0 mv) K (dc x) s) → h < k → (B X.2.2.2.1 h = (x : Int)) → (B X.2.2.1 x + 1 = (lf : Int)) → (∀ i s, i < m → s < S → 0 ≤ freD (frM A0 c mv st) (szM A0 mv) K (dc x) (dc x i) → B X.2.2.1 (upx x i s) ≠ -1) → (∀ s', s' < s → B X.2.2.1 (upx x m s') ≠ -1) → WP2 P M_V_enqueueBefore (d + 2) 37 [some (vr 152), some (vi (x : Int)), some (vi (lf : Int)), some (vi (m : Int)), some (vi ((x - dc x m * 5 ^ m : Nat) : Int)), some (vi (s : Int))] [] (F1, B, L, X) Q) S ?_ ?_
      · intro F1 B k hM hB hk bo hhk hqx hlf hcv hcs
        have fS := hM.2.1.2
        refine WP_n 2 rfl ?_
        refine WP2_getf rfl rfl rfl rfl rfl ?_
        refine WP_icmpge rfl rfl ⟨by omega, by omega⟩ ⟨by omega, by omega⟩ (fun h40 => ?_) (fun h40 => absurd h40 (by omega))
        refine WP_n 2 rfl ?_
        refine WP2_kill 4 (WP2_kill 5 (ih F1 B k hM hB hk bo hhk hqx hlf (fun i s hi hs hf => ?_)))
        by_cases z : i = m
        · rw [z]
          exact hcs s hs
        · exact hcv i s (by omega) hs hf
      · intro s hs ih2 F1 B k hM hB hk bo hhk hqx hlf hcv hcs
        have fS := hM.2.1.2
        have ux := upx_ok hx (show m < K from hm) (show s < 5 by omega)
        have hmx : -1 ≤ B X.2.2.1 (upx x m s) ∧ B X.2.2.1 (upx x m s) ≤ 60000 := hmr _ _ _ hB _ ux.1
        refine WP_n 2 rfl ?_
        refine WP2_getf rfl rfl rfl rfl rfl ?_
        refine WP_icmpge rfl rfl ⟨by omega, by omega⟩ ⟨by omega, by omega⟩ (fun h40 => absurd h40 (by omega)) (fun h40 => ?_)
        refine WP_n 3 rfl ?_
        refine WP2_gets (x := 4) rfl rfl rfl ?_
        refine WP_n 1 rfl ?_
        refine WP2_ialds (j := m) rfl rfl (ia_lit (n := 7) rfl rfl (by omega)) (by omega) (by omega) (by omega) ?_
        refine WP_n 2 rfl ?_
        rw [show st5 P 4 m = PWt m from rfl, PWt_pow m (by omega), show ((x - dc x m * 5 ^ m : Nat) : Int) + (s : Int) * ((5 ^ m : Nat) : Int) = ((upx x m s : Nat) : Int) from by
          rw [← Int.natCast_mul, ← Int.natCast_add]
          rfl]
        refine WP_n 1 rfl ?_
        refine WP2_callV 2 ok_M_V_enqueue rfl rfl rfl rfl rfl rfl (Nat.le_of_ble_eq_true rfl) (Nat.le_of_ble_eq_true rfl) rfl rfl ?_
        refine sp_enqueue (x := upx x m s) (k := k) hXO (by omega) hmx hk (fun hu => by have := hB.1.room ux.1 hu; omega) (fun hu => ?_) (fun hu => ?_)
        · refine WP_n 2 rfl ?_
          refine ih2 F1 B k hM hB hk bo hhk hqx hlf hcv (fun s' hs' => ?_)
          by_cases z : s' = s
          · rw [z]
            exact hu
          · exact hcs s' (by omega)
        · refine WP_n 2 rfl ?_
          have hxk : (B X.2.2.2.1 h).toNat = x := by omega
          have hmk : B X.2.2.1 x ≠ -1 := (hB.1.2.1 x hx).mpr ⟨h, hhk, hxk⟩
          have hne : upx x m s ≠ x := fun w => hmk (by rw [← w]; exact hu)
          have hsn : s ≠ dc x m := fun w => hne (by
            rw [w]
            have := upx_back (e := fun m => m) (i := m) (s := dc x m) ⟨fun i hi => hi, fun i hi => rfl⟩ hx hm dc_lt
            have := dc_le (x := x) (p := m)
            unfold upx
            omega)
          have hE := En.mk2 (fr := frM A0 c mv st) (sz := szM A0 mv) (e := fun m => m) hS5 ⟨fun i hi => hi, fun i hi => rfl⟩ hx hvx hm hs hsn hfr
          have hnl := hB.1.room ux.1 hu
          refine ih2 _ _ (k + 1) (hM.up hK6 hS5 (fun a j q => by rw [up2_ne (by omega), up2_ne (by omega)]) (fun a j q => up2_ne (by omega))) (hB.mark (x := upx x m s) (by omega) (En.up hS5 ⟨fun i hi => hi, fun i hi => rfl⟩) hhk ux.1 hu (by rw [hxk]; exact hE) (fun y hy => ?_) (fun i hi => ?_)) (by rw [up2_same]; omega) ⟨fun i hi => by rw [up2_ne (by omega), up2_ne (by omega)]; exact bo.1 i hi, fun i hi => by rw [up2_ne (by omega), up2_ne (by omega)]; exact bo.2 i hi⟩ (by omega) (by rw [up2_ne (by omega), up2_ne (by omega)]; exact hqx) (by rw [up2_ne (by omega), up2_ne (by omega)]; exact hlf) (fun i s' hi hs' hf => ?_) (fun s' hs' => ?_)
          · rw [up2_ne (by omega), hxk]
            by_cases z : y = upx x m s
            · rw [if_pos z, up2_eq ⟨rfl, z⟩]; omega
            · rw [if_neg z, up2_ne (Or.inr z)]
          · by_cases z : i = k
            · rw [if_pos z, up2_eq ⟨rfl, z⟩]
            · rw [if_neg z, up2_ne (Or.inr z), up2_ne (by omega)]
          · rw [up2_ne (by omega)]
            by_cases z : upx x i s' = upx x m s
            · rw [up2_eq ⟨rfl, z⟩]; omega
            · rw [up2_ne (Or.inr z)]
              exact hcv i s' hi hs' hf
          · rw [up2_ne (by omega)]
            by_cases z : upx x m s' = upx x m s
            · rw [up2_eq ⟨rfl, z⟩]; omega
            · rw [up2_ne (Or.inr z)]
              refine hcs s' ?_
              by_cases w : s' = s
              · exact absurd (by rw [w]) z
              · omega

/-! moves of the class: open, enqueue, enqueueBefore -/
def XO (P : PP) (X : SX) (len : Nat) : Prop := isIA P X X.2.2.1 len ∧ isIA P X X.2.2.2.1 len ∧ (X.2.2.1 = 158 ∨ 193 ≤ X.2.2.1) ∧ (X.2.2.2.1 = 159 ∨ 193 ≤ X.2.2.2.1) ∧ X.2.2.1 ≠ X.2.2.2.1 ∧ len ≤ 60000
theorem MSt.up {FI0 A0 FI A FI' A' : Nat → Nat → Int} {c mv st K S : Nat} (hK : K ≤ 6) (hS5 : S ≤ 5) (h : MSt FI0 A0 c mv st K S FI A) (ha : ∀ a j, (a ≤ 155 ∨ (163 ≤ a ∧ a ≤ 185)) → A' a j = A a j) (hf : ∀ a k, ¬ (a = 152 ∧ (k = 8 ∨ 11 ≤ k)) → FI' a k = FI a k) : MSt FI0 A0 c mv st K S FI' A' := by
  obtain ⟨h1, h2, h3, h4, h5⟩ := h
  refine ⟨h1.trans ⟨⟨hf _ _ (by omega), hf _ _ (by omega), hf _ _ (by omega), hf _ _ (by omega)⟩, ha _ _ (by omega), fun a j q => ha a j (by omega)⟩, ⟨(hf _ _ (by omega)).trans h2.1, (hf _ _ (by omega)).trans h2.2⟩, fun i hi => (ha _ _ (by omega)).trans (h3 i hi), fun s hs => (ha _ _ (by omega)).trans (h4 s hs), fun s hs => (ha _ _ (by omega)).trans (h5 s hs)⟩
def QB (R E : Nat → Nat → Prop) (N : Nat) (un : Int) (m q : Nat → Int) (n h : Nat) : Prop := BI R E N un m (fun i => (q i).toNat) n h ∧ (∀ i, i < n → 0 ≤ q i) ∧ m (q 0).toNat = 0 ∧ 0 < n ∧ ∀ i, i < n → m (q i).toNat ≤ (i : Int)
theorem QB.congr {R E : Nat → Nat → Prop} {N : Nat} {un : Int} {m q m' q' : Nat → Int} {n h : Nat} (b : QB R E N un m q n h) (hm : ∀ x, x < N → m' x = m x) (hq : ∀ i, i < n → q' i = q i) : QB R E N un m' q' n h := by
  have b0 := b.1.1 0 b.2.2.2.1
  refine ⟨b.1.congr hm (fun i hi => by rw [hq i hi]), fun i hi => by rw [hq i hi]; exact b.2.1 i hi, ?_, b.2.2.2.1, fun i hi => ?_⟩
  · rw [hq 0 b.2.2.2.1, hm _ b0]
    exact b.2.2.1
  · rw [hq i hi, hm _ (b.1.1 i hi)]
    exact b.2.2.2.2 i hi
theorem QB.mark {R E : Nat → Nat → Prop} {N : Nat} {un : Int} {m q m' q' : Nat → Int} {n h : Nat} (hun : un < 0) (b : QB R E N un m q n h) (hRE : ∀ x y k, x < N → y < N → E x y → R k y → R (k + 1) x) (hh : h < n) {x : Nat} (hx : x < N) (hu : m x = un) (he : E x (q h).toNat) (hm : ∀ y, y < N → m' y = if y = x then m (q h).toNat + 1 else m y) (hq : ∀ i, i < n + 1 → q' i = if i = n then (x : Int) else q i) : QB R E N un m' q' (n + 1) h := by
  have z := b.1.mark hun hRE hh hx hu he
  have hq0 : q' 0 = q 0 := by
    rw [hq 0 (by omega), if_neg (by have := b.2.2.2.1; omega)]
  have b0 := b.1.1 0 b.2.2.2.1
  refine ⟨z.congr hm (fun i hi => ?_), fun i hi => ?_, ?_, by omega, fun i hi => ?_⟩
  · rw [hq i hi]
    by_cases w : i = n
    · rw [if_pos w, if_pos w]; omega
    · rw [if_neg w, if_neg w]
  · rw [hq i hi]
    by_cases w : i = n
    · rw [if_pos w]; omega
    · rw [if_neg w]; exact b.2.1 i (by omega)
  · rw [hq0, hm _ b0, if_neg (fun w => by
      have w2 : (q 0).toNat = x := w
      rw [← w2, b.2.2.1] at hu
      omega)]
    exact b.2.2.1
  · rw [hq i hi]
    by_cases w : i = n
    · rw [if_pos w, show ((x : Int)).toNat = x by omega, hm x hx, if_pos rfl]
      have := b.2.2.2.2 h hh
      omega
    · rw [if_neg w, hm _ (b.1.1 i (by omega)), if_neg (fun w2 => (b.1.2.1 x hx).mpr ⟨i, by omega, w2⟩ hu)]
      exact b.2.2.2.2 i (by omega)
theorem QB.bd {R E : Nat → Nat → Prop} {N : Nat} {un : Int} {m q : Nat → Int} {n h : Nat} (hun : un < 0) (b : QB R E N un m q n h) {y : Nat} (hy : y < N) : m y = un ∨ (0 ≤ m y ∧ m y < N) := by
  by_cases w : m y = un
  · exact Or.inl w
  · obtain ⟨i, i1, i2⟩ := (b.1.2.1 y hy).mp w
    obtain ⟨j, j1, _⟩ := b.1.2.2.2.1 y hy w
    have w9 := b.2.2.2.2 i i1
    have w8 := b.1.le
    have i3 : (q i).toNat = y := i2
    rw [i3] at w9
    omega
theorem QB.nx {R E : Nat → Nat → Prop} {N : Nat} {un : Int} {m q : Nat → Int} {n h : Nat} (b : QB R E N un m q n h) (hRE : ∀ x k, x < N → R (k + 1) x → ∃ y, y < N ∧ E x y ∧ R k y) (hR0 : ∀ x y, x < N → y < N → R 0 x → R 0 y → x = y) (hh : h < n) (ha : ∀ x, x < N → E x (q h).toNat → m x ≠ un) : QB R E N un m q n (h + 1) := ⟨b.1.next hRE hR0 (fun _ => b.2.2.1) hh ha, b.2⟩
theorem QB.start {R E : Nat → Nat → Prop} {N : Nat} {un : Int} {m q : Nat → Int} {g : Nat} (hun : un < 0) (hg : g < N) (hR : ∀ x, x < N → (R 0 x ↔ x = g)) (hq : q 0 = (g : Int)) (hm : ∀ x, x < N → m x = if x = g then 0 else un) : QB R E N un m q 1 0 := by
  have e : (q 0).toNat = g := by omega
  have em : m g = 0 := by rw [hm g hg, if_pos rfl]
  refine ⟨BI.start hun hg hR e hm, fun i hi => ?_, by rw [e]; exact em, by omega, fun i hi => ?_⟩
  · rw [show i = 0 by omega]; omega
  · rw [show i = 0 by omega, e]; omega
theorem freD_bd {n : Nat} {FI A : Nat → Nat → Int} {c mv st K S : Nat} (hh : HM n FI A c mv st K S) (d : Nat → Nat) {s : Nat} (hs : s < S) {k : Nat} (hk : k ≤ K) : -2000 ≤ freD (frM A c mv st) (szM A mv) k d s ∧ freD (frM A c mv st) (szM A mv) k d s ≤ 300 := by
  have o := occ_bd hh.1 hh.2.1 (pw A mv) (nth st s)
  have f := hh.1.2.2.1 (nth st s) (hh.F hs)
  unfold cFl at f
  have hK6 := hh.2.2.2.2.2.1
  have b := sumN_bd (f := fun j => if d j = s then szM A mv j else 0) (lo := 0) (hi := 60) k (fun j hj => by
    have t := hh.T (i := j) (by omega)
    have q := hh.1.2.2.2.1 _ t.2
    unfold cTm at q
    unfold szM
    split
    · omega
    · omega)
  unfold freD frM
  omega
theorem sp_open {P : PP} {d : Nat} {FI A L : Nat → Nat → Int} {X : SX} {Q : Option AV → S2 → Prop} {n0 : Nat} {FI0 A0 : Nat → Nat → Int} {c mv st K S : Nat} (hh : HM n0 FI0 A0 c mv st K S) (hS : MSt FI0 A0 c mv st K S FI A) {x : Nat} (hx : x < 5 ^ K) (hq : ∀ B : Nat → Nat → Int, (∀ a j, a ≠ 156 → a ≠ 157 → B a j = A a j) → (∀ i, i < K → B 156 i = (dc x i : Int)) → (∀ s, s < 5 → B 157 s = A 155 s - sumN (fun j => if dc x j = s then szM A0 mv j else 0) K) → Q none (FI, B, L, X)) : WP2 P M_V_open (d + 1) 0 [some (vr 152), some (vi (x : Int)), none, none] [] (FI, A, L, X) Q := by
  have hK6 := hh.2.2.2.2.2.1
  have f9 := hS.2.1.1
  have hx2 : 5 ^ K ≤ 5 ^ 6 := Nat.pow_le_pow_right (by omega) hK6
  refine WP_n 1 rfl ?_
  refine WP2_getf rfl rfl rfl rfl rfl ?_
  refine WP_n 2 rfl ?_
  refine WP2_getf rfl rfl rfl rfl rfl ?_
  refine WP_n 2 rfl ?_
  refine WP2_copy0 (N := 5) rfl rfl rfl rfl rfl (Nat.le_of_ble_eq_true rfl) (ia_lit (n := 5) rfl rfl (by omega)) (ia_lit (n := 5) rfl rfl (by omega)) (by omega) (by omega) rfl (by omega) (by omega) ?_
  refine WP_n 4 rfl ?_
  suffices hw : ∀ m, m ≤ K → ∀ B : Nat → Nat → Int, (∀ a j, a ≠ 156 → a ≠ 157 → B a j = A a j) → (∀ i, i < m → B 156 i = (dc x i : Int)) → (∀ s, s < 5 → B 157 s = A 155 s - sumN (fun j => if dc x j = s then szM A0 mv j else 0) m) → WP2 P M_V_open (d + 1) 12 [some (vr 152), some (vi (x : Int)), some (vi ((x / 5 ^ m : Nat) : Int)), some (vi (m : Int))] [] (FI, B, L, X) Q by
    have z := hw 0 (by omega) (upC A 155 157 5) (fun a j _ h2 => upC_ne (Or.inl h2)) (fun i hi => absurd hi (by omega)) (fun s hs => by rw [upC_eq hs]; show _ = _ - (0 : Int); omega)
    rw [show x / 5 ^ 0 = x from by rw [Nat.pow_zero, Nat.div_one]] at z
    exact z
  refine up_to (P := fun m => ∀ B : Nat → Nat → Int, (∀ a j, a ≠ 156 → a ≠ 157 → B a j = A a j) → (∀ i, i < m → B 156 i = (dc x i : Int)) → (∀ s, s < 5 → B 157 s = A 155 s - sumN (fun j => if dc x j = s then szM A0 mv j else 0) m) → WP2 P M_V_open (d + 1) 12 [some (vr 152), some (vi (x : Int)), some (vi ((x / 5 ^ m : Nat) : Int)), some (vi (m : Int))] [] (FI, B, L, X) Q) K ?_ ?_
  · intro B b1 b2 b3
    refine WP_n 2 rfl ?_
    refine WP2_getf rfl rfl rfl rfl rfl ?_
    refine WP_icmpge rfl rfl ⟨by omega, by omega⟩ ⟨by omega, by omega⟩ (fun h15 => ?_) (fun h15 => absurd h15 (by omega))
    exact WP_vret rfl rfl rfl ⟨_, rfl, hq B b1 b2 b3⟩
  · intro m hm ih B b1 b2 b3
    have hT := hh.T (i := m) hm
    have e153 : B 153 m = (nth mv m : Int) := (b1 153 m (by omega) (by omega)).trans (hS.2.2.1 m hm)
    have esz : B (20 + nth mv m) 0 = szM A0 mv m := (b1 _ _ (by omega) (by omega)).trans (hS.1.2.2 _ _ (by omega))
    obtain ⟨w, hw⟩ : ∃ w, w = x / 5 ^ m := ⟨_, rfl⟩
    have hwx : w ≤ x := by rw [hw]; exact Nat.div_le_self _ _
    have hdc : dc x m = w % 5 := by rw [hw]; rfl
    have hdl : w % 5 < 5 := Nat.mod_lt _ (by omega)
    have hnx : x / 5 ^ (m + 1) = w / 5 := by rw [hw, Nat.div_div_eq_div_mul, Nat.pow_succ]
    rw [← hw]
    refine WP_n 2 rfl ?_
    refine WP2_getf rfl rfl rfl rfl rfl ?_
    refine WP_icmpge rfl rfl ⟨by omega, by omega⟩ ⟨by omega, by omega⟩ (fun h15 => absurd h15 (by omega)) (fun h15 => ?_)
    refine WP_n 1 rfl ?_
    refine WP2_getf rfl rfl rfl rfl rfl ?_
    refine WP_n 3 rfl ?_
    refine WP_irem rfl (by omega) (by omega) (by omega) (by omega) rfl ?_
    refine WP2_iast (j := m) rfl rfl (ia_lit (n := 6) rfl rfl (by omega)) (by omega) (by omega) (by omega) ?_
    refine WP_n 2 rfl ?_
    refine WP_idiv rfl (by omega) (by omega) (by omega) (by omega) rfl ?_
    refine WP_n 2 rfl ?_
    refine WP2_getf rfl rfl rfl rfl rfl ?_
    refine WP_n 1 rfl ?_
    refine WP2_getf rfl rfl rfl rfl rfl ?_
    refine WP_n 1 rfl ?_
    refine WP2_iald (j := m) rfl rfl (ia_lit (n := 6) rfl rfl (by omega)) (by omega) (by omega) (by omega) ?_
    rw [up2_same, show (w : Int) % 5 = ((w % 5 : Nat) : Int) from by omega]
    refine WP_n 1 rfl ?_
    refine WP2_iald (j := (w % 5)) rfl rfl (ia_lit (n := 5) rfl rfl (by omega)) (by omega) (by omega) (by omega) ?_
    rw [up2_ne (by omega)]
    refine WP_n 1 rfl ?_
    refine WP2_getf rfl rfl rfl rfl rfl ?_
    refine WP2_getf rfl rfl rfl rfl rfl ?_
    refine WP_n 1 rfl ?_
    refine WP2_getf rfl rfl rfl rfl rfl ?_
    refine WP_n 1 rfl ?_
    refine WP2_iald (j := m) rfl rfl (ia_lit (n := 6) rfl rfl (by omega)) (by omega) (by omega) (by omega) ?_
    rw [up2_ne (by omega)]
    refine WP2_aald (b := 20) (j := (nth mv m)) (n := 16) rfl rfl rfl rfl rfl (by omega) (by omega) ?_
    refine WP_n 1 rfl ?_
    refine WP2_iald (j := 0) rfl rfl (ia_tm (by omega)) (by omega) (by omega) (by omega) ?_
    rw [up2_ne (by omega)]
    refine WP_n 1 rfl ?_
    refine WP2_iast (j := (w % 5)) rfl rfl (ia_lit (n := 5) rfl rfl (by omega)) (by omega) (by omega) (by omega) ?_
    refine WP_n 2 rfl ?_
    rw [hnx] at ih
    rw [show (w : Int) / 5 = ((w / 5 : Nat) : Int) from by omega]
    refine ih _ (fun a j h1 h2 => ?_) (fun i hi => ?_) (fun s hs => ?_)
    · rw [up2_ne (by omega), up2_ne (by omega)]
      exact b1 a j h1 h2
    · by_cases z : i = m
      · rw [z, up2_ne (by omega), up2_same, hdc]
      · rw [up2_ne (by omega), up2_ne (by omega)]
        exact b2 i (by omega)
    · show _ = A 155 s - (sumN _ m + (if dc x m = s then szM A0 mv m else 0))
      by_cases z : dc x m = s
      · rw [if_pos z, up2_eq (by omega), esz, b3 _ hdl, show w % 5 = s by omega]
        omega
      · rw [if_neg z, up2_ne (by omega), up2_ne (by omega), b3 s hs]
        omega
theorem sp_enqueue {P : PP} {d : Nat} {FI A L : Nat → Nat → Int} {X : SX} {Q : Option AV → S2 → Prop} {x k len lf : Nat} (hX : XO P X len) (hx : x < len) (hr : -1 ≤ A X.2.2.1 x ∧ A X.2.2.1 x ≤ 60000) (hn : FI 152 8 = (k : Int)) (hn2 : A X.2.2.1 x = -1 → k < len) (k1 : A X.2.2.1 x ≠ -1 → Q none (FI, A, L, X)) (k2 : A X.2.2.1 x = -1 → Q none (up2 FI 152 8 ((k : Int) + 1), up2 (up2 A X.2.2.1 x (lf : Int)) X.2.2.2.1 k (x : Int), L, X)) : WP2 P M_V_enqueue d 0 [some (vr 152), some (vi (x : Int)), some (vi (lf : Int))] [] (FI, A, L, X) Q := by
  obtain ⟨HA_ml, HA_qu, x3, x4, x5, x6⟩ := hX
  refine WP_n 1 rfl ?_
  refine WP2_getf rfl rfl rfl rfl rfl ?_
  refine WP_n 1 rfl ?_
  refine WP2_iald (j := x) rfl rfl (HA_ml) (by omega) (by omega) (by omega) ?_
  refine WP_n 1 rfl ?_
  refine WP_icmpne rfl rfl ⟨by omega, by omega⟩ ⟨by omega, by omega⟩ (fun h5 => ?_) (fun h5 => ?_)
  · exact WP_vret rfl rfl rfl ⟨_, rfl, k1 h5⟩
  · have hkl := hn2 (by omega)
    refine WP_n 1 rfl ?_
    refine WP2_getf rfl rfl rfl rfl rfl ?_
    refine WP_n 1 rfl ?_
    refine WP2_getf rfl rfl rfl rfl rfl ?_
    refine WP2_alen rfl rfl (HA_qu) ?_
    refine WP_icmpge rfl rfl ⟨by omega, by omega⟩ ⟨by omega, by omega⟩ (fun h11 => absurd h11 (by omega)) (fun h11 => ?_)
    refine WP_n 1 rfl ?_
    refine WP2_getf rfl rfl rfl rfl rfl ?_
    refine WP_n 2 rfl ?_
    refine WP2_iast (j := x) rfl rfl (HA_ml) (by omega) (by omega) (by omega) ?_
    refine WP_n 1 rfl ?_
    refine WP2_getf rfl rfl rfl rfl rfl ?_
    refine WP_n 1 rfl ?_
    refine WP2_getf rfl rfl rfl rfl rfl ?_
    refine WP_n 1 rfl ?_
    refine WP2_iast (j := k) rfl rfl (HA_qu) (by omega) (by omega) (by omega) ?_
    refine WP_n 2 rfl ?_
    refine WP2_getf rfl rfl rfl rfl rfl ?_
    refine WP_n 2 rfl ?_
    refine WP2_putk (k := 8) rfl rfl rfl rfl rfl rfl (by exact trivial) ?_
    exact WP_vret rfl rfl rfl ⟨_, rfl, by rw [hn]; exact k2 (by omega)⟩

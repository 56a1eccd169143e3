/-! moves: states as numbers, and the steps -/
def dc (x m : Nat) : Nat := x / 5 ^ m % 5
def upx (x p s : Nat) : Nat := x - dc x p * 5 ^ p + s * 5 ^ p
theorem stN_congr {d e : Nat → Nat} : ∀ k, (∀ m, m < k → d m = e m) → stN d k = stN e k
  | 0, _ => rfl
  | k + 1, h => by
    show stN d k + d k * 5 ^ k = stN e k + e k * 5 ^ k
    rw [stN_congr k (fun m hm => h m (by omega)), h k (by omega)]
theorem stN_upd {d : Nat → Nat} {p s : Nat} : ∀ k, p < k → stN (updD d p s) k + d p * 5 ^ p = stN d k + s * 5 ^ p
  | 0, h => absurd h (by omega)
  | k + 1, h => by
    show stN (updD d p s) k + updD d p s k * 5 ^ k + d p * 5 ^ p = stN d k + d k * 5 ^ k + s * 5 ^ p
    by_cases e : p = k
    · subst e
      rw [stN_congr (d := updD d p s) (e := d) p (fun m hm => if_neg (by omega)), show updD d p s p = s from if_pos rfl]
      omega
    · have z := stN_upd (d := d) (p := p) (s := s) k (by omega)
      rw [show updD d p s k = d k from if_neg (by omega)]
      omega
theorem dc_lt {x m : Nat} : dc x m < 5 := Nat.mod_lt _ (by omega)
theorem dc_le {x p : Nat} : dc x p * 5 ^ p ≤ x := Nat.le_trans (Nat.mul_le_mul_right _ (Nat.mod_le _ _)) (Nat.div_mul_le_self x (5 ^ p))
theorem dc_ext {x y K : Nat} (hx : x < 5 ^ K) (hy : y < 5 ^ K) (h : ∀ m, m < K → dc x m = dc y m) : x = y := by
  rw [← stN_ext hx, ← stN_ext hy]
  exact stN_congr K h
theorem upx_ok {x K p s : Nat} (hx : x < 5 ^ K) (hp : p < K) (hs : s < 5) : upx x p s < 5 ^ K ∧ ∀ m, m < K → dc (upx x p s) m = updD (dc x) p s m := by
  have h5 : ∀ m, m < K → updD (dc x) p s m < 5 := fun m _ => by
    unfold updD
    split
    · exact hs
    · exact dc_lt
  have e : upx x p s = stN (updD (dc x) p s) K := by
    have z := stN_upd (d := dc x) (p := p) (s := s) K hp
    have e2 : stN (dc x) K = x := stN_ext hx
    have := dc_le (x := x) (p := p)
    unfold upx
    omega
  rw [e]
  exact ⟨stN_lt K h5, stN_dig K h5⟩
def PM (e : Nat → Nat) (K : Nat) : Prop := (∀ i, i < K → e i < K) ∧ ∀ i, i < K → e (e i) = i
def gd (e : Nat → Nat) (x : Nat) : Nat → Nat := fun m => dc x (e m)
theorem gd_upx {e : Nat → Nat} {x K i s : Nat} (he : PM e K) (hx : x < 5 ^ K) (hi : i < K) (hs : s < 5) : ∀ m, m < K → gd e (upx x (e i) s) m = updD (gd e x) i s m := by
  intro m hm
  show dc (upx x (e i) s) (e m) = _
  rw [(upx_ok hx (he.1 i hi) hs).2 _ (he.1 m hm)]
  unfold updD
  by_cases w : m = i
  · rw [if_pos (by rw [w]), if_pos w]
  · rw [if_neg (fun q => w (by rw [← he.2 m hm, q, he.2 i hi])), if_neg w]
    rfl
theorem gd_ext {e : Nat → Nat} {x y K : Nat} (he : PM e K) (hx : x < 5 ^ K) (hy : y < 5 ^ K) (h : ∀ m, m < K → gd e x m = gd e y m) : x = y := by
  refine dc_ext hx hy (fun m hm => ?_)
  have z := h (e m) (he.1 m hm)
  unfold gd at z
  rw [he.2 m hm] at z
  exact z
theorem upx_back {e : Nat → Nat} {x K i s : Nat} (he : PM e K) (hx : x < 5 ^ K) (hi : i < K) (hs : s < 5) : upx (upx x (e i) s) (e i) (dc x (e i)) = x := by
  have h1 := upx_ok hx (he.1 i hi) hs
  have h2 := upx_ok h1.1 (he.1 i hi) (dc_lt (x := x) (m := e i))
  refine dc_ext h2.1 hx (fun m hm => ?_)
  rw [h2.2 m hm]
  unfold updD
  by_cases w : m = e i
  · rw [if_pos w, w]
  · rw [if_neg w, h1.2 m hm]
    exact if_neg w
def Rn (fr sz : Nat → Int) (K S : Nat) (g e : Nat → Nat) (k x : Nat) : Prop := (∀ m, m < K → gd e x m < S) ∧ RchF fr sz K S g k (gd e x)
def En (fr sz : Nat → Int) (K S : Nat) (e : Nat → Nat) (x y : Nat) : Prop := (∀ m, m < K → gd e x m < S) ∧ ∃ i s, i < K ∧ s < S ∧ s ≠ gd e x i ∧ sz i ≤ freD fr sz K (gd e x) s ∧ y = upx x (e i) s
theorem En.up {fr sz : Nat → Int} {K S : Nat} {g e : Nat → Nat} (hS : S ≤ 5) (he : PM e K) : ∀ x y k, x < 5 ^ K → y < 5 ^ K → En fr sz K S e x y → Rn fr sz K S g e k y → Rn fr sz K S g e (k + 1) x := by
  intro x y k hx hy h r
  obtain ⟨h0, i, s, h1, h2, h3, h4, h5⟩ := h
  refine ⟨h0, i, s, h1, h2, h3, h4, RchF_congr k (fun m hm => ?_) r.2⟩
  rw [h5]
  exact gd_upx he hx h1 (by omega) m hm
theorem Rn.dn {fr sz : Nat → Int} {K S : Nat} {g e : Nat → Nat} (hS : S ≤ 5) (he : PM e K) : ∀ x k, x < 5 ^ K → Rn fr sz K S g e (k + 1) x → ∃ y, y < 5 ^ K ∧ En fr sz K S e x y ∧ Rn fr sz K S g e k y := by
  intro x k hx h
  obtain ⟨h0, i, s, h1, h2, h3, h4, h5⟩ := h
  have g1 := gd_upx (s := s) he hx h1 (by omega)
  refine ⟨upx x (e i) s, (upx_ok hx (he.1 i h1) (by omega)).1, ⟨h0, i, s, h1, h2, h3, h4, rfl⟩, fun m hm => ?_, RchF_congr k (fun m hm => (g1 m hm).symm) h5⟩
  rw [g1 m hm]
  unfold updD
  split
  · exact h2
  · exact h0 m hm
theorem Rn.zero {fr sz : Nat → Int} {K S : Nat} {g e : Nat → Nat} (he : PM e K) {gN : Nat} (hg : gN < 5 ^ K) (hgd : ∀ m, m < K → gd e gN m = g m) (hgS : ∀ m, m < K → g m < S) : ∀ x, x < 5 ^ K → (Rn fr sz K S g e 0 x ↔ x = gN) := by
  intro x hx
  constructor
  · intro h
    exact gd_ext he hx hg (fun m hm => by rw [hgd m hm]; exact h.2 m hm)
  · intro h
    rw [h]
    exact ⟨fun m hm => by rw [hgd m hm]; exact hgS m hm, fun m hm => hgd m hm⟩
theorem En.mk {fr sz : Nat → Int} {K S : Nat} {e : Nat → Nat} (hS : S ≤ 5) (he : PM e K) {y i s : Nat} (hy : y < 5 ^ K) (hv : ∀ m, m < K → gd e y m < S) (hi : i < K) (hs : s < S) (hne : s ≠ gd e y i) : sz i ≤ freD fr sz K (gd e (upx y (e i) s)) (gd e y i) ↔ 0 ≤ freD fr sz K (gd e y) (gd e y i) := by
  have g1 := gd_upx (s := s) he hy hi (by omega)
  have z := freD_upd (fr := fr) (sz := sz) (d := gd e (upx y (e i) s)) (i := i) (s := gd e y i) hi (by rw [g1 i hi, show updD (gd e y) i s i = s from if_pos rfl]; omega)
  rw [freD_congr (e := gd e y) (fun m hm => by
    by_cases w : m = i
    · rw [show updD (gd e (upx y (e i) s)) i (gd e y i) m = gd e y i from if_pos w, w]
    · rw [show updD (gd e (upx y (e i) s)) i (gd e y i) m = gd e (upx y (e i) s) m from if_neg w, g1 m hm]
      exact if_neg w)] at z
  omega
theorem En.mk2 {fr sz : Nat → Int} {K S : Nat} {e : Nat → Nat} (hS : S ≤ 5) (he : PM e K) {y i s : Nat} (hy : y < 5 ^ K) (hv : ∀ m, m < K → gd e y m < S) (hi : i < K) (hs : s < S) (hne : s ≠ gd e y i) (h0 : 0 ≤ freD fr sz K (gd e y) (gd e y i)) : En fr sz K S e (upx y (e i) s) y := by
  have g1 := gd_upx (s := s) he hy hi (by omega)
  refine ⟨fun m hm => ?_, i, gd e y i, hi, hv i hi, ?_, (En.mk hS he hy hv hi hs hne).mpr h0, (upx_back he hy hi (by omega)).symm⟩
  · rw [g1 m hm]
    unfold updD
    split
    · exact hs
    · exact hv m hm
  · rw [g1 i hi, show updD (gd e y) i s i = s from if_pos rfl]
    omega
theorem En.cov {fr sz : Nat → Int} {K S : Nat} {e : Nat → Nat} (hS : S ≤ 5) (he : PM e K) {x y : Nat} (hx : x < 5 ^ K) (hv : ∀ m, m < K → gd e y m < S) (h : En fr sz K S e x y) : ∃ i s, i < K ∧ s < S ∧ s ≠ gd e y i ∧ x = upx y (e i) s ∧ 0 ≤ freD fr sz K (gd e y) (gd e y i) := by
  obtain ⟨h0, i, s, h1, h2, h3, h4, h5⟩ := h
  have g1 := gd_upx (s := s) he hx h1 (by omega)
  have hy : y < 5 ^ K := by rw [h5]; exact (upx_ok hx (he.1 i h1) (by omega)).1
  have e1 : gd e y i = s := by rw [h5, g1 i h1]; exact if_pos rfl
  have hb : x = upx y (e i) (gd e x i) := by
    have := upx_back (s := s) he hx h1 (by omega)
    rw [← h5] at this
    exact this.symm
  refine ⟨i, gd e x i, h1, h0 i h1, by rw [e1]; omega, hb, ?_⟩
  refine (En.mk hS he hy hv h1 (h0 i h1) (by rw [e1]; omega)).mp ?_
  rw [← hb, e1]
  exact h4
def MK (R : Nat → Nat → Prop) (N : Nat) (un : Int) (ml : Nat → Int) (D : Nat) : Prop := (∀ x, x < N → ml x ≠ un → ∃ k : Nat, ml x = (k : Int) ∧ R k x ∧ ∀ j, R j x → k ≤ j) ∧ ∀ k x, x < N → k < D → R k x → ml x ≠ un
def mD (fr sz : Nat → Int) (K S : Nat) (g : Nat → Nat) (k : Nat) (d : Nat → Nat) : Prop := RchF fr sz K S g k d ∧ ∀ j, RchF fr sz K S g j d → k ≤ j
def DST (fr sz : Nat → Int) (K S : Nat) (g d : Nat → Nat) (r : Int) : Prop := (r = -9 ∧ ∀ k, ¬ RchF fr sz K S g k d) ∨ ∃ k : Nat, r = (k : Int) ∧ mD fr sz K S g k d
theorem mD.congr {fr sz : Nat → Int} {K S : Nat} {g : Nat → Nat} {k : Nat} {d d' : Nat → Nat} (h : ∀ i, i < K → d i = d' i) (m : mD fr sz K S g k d) : mD fr sz K S g k d' := ⟨RchF_congr k h m.1, fun j hj => m.2 j (RchF_congr j (fun i hi => (h i hi).symm) hj)⟩
theorem DST.uniq {fr sz : Nat → Int} {K S : Nat} {g d d' : Nat → Nat} {r r' : Int} (h : ∀ i, i < K → d i = d' i) (a : DST fr sz K S g d r) (b : DST fr sz K S g d' r') : r' = r := by
  rcases a with ⟨a1, a2⟩ | ⟨k, a1, a2⟩ <;> rcases b with ⟨b1, b2⟩ | ⟨k', b1, b2⟩
  · omega
  · exact absurd (RchF_congr k' (fun i hi => (h i hi).symm) b2.1) (a2 k')
  · exact absurd (RchF_congr k h a2.1) (b2 k)
  · have := (a2.congr h).2 k' b2.1
    have := b2.2 k (a2.congr h).1
    omega
def STP (fr sz : Nat → Int) (K S : Nat) (g d : Nat → Nat) (j m s : Nat) : Prop := m < K ∧ s < S ∧ s ≠ d m ∧ sz m ≤ freD fr sz K d s ∧ mD fr sz K S g j (updD d m s)
theorem updD_congr {K : Nat} {d d' : Nat → Nat} (h : ∀ i, i < K → d i = d' i) (m s : Nat) : ∀ i, i < K → updD d m s i = updD d' m s i := by
  intro i hi
  unfold updD
  split
  · rfl
  · exact h i hi
theorem STP.congr {fr sz : Nat → Int} {K S : Nat} {g d d' : Nat → Nat} {j m s : Nat} (h : ∀ i, i < K → d i = d' i) (a : STP fr sz K S g d j m s) : STP fr sz K S g d' j m s := by
  obtain ⟨a1, a2, a3, a4, a5⟩ := a
  exact ⟨a1, a2, by rw [← h m a1]; exact a3, by rw [← freD_congr h s]; exact a4, a5.congr (updD_congr h m s)⟩
def FST (fr sz : Nat → Int) (K S : Nat) (g d : Nat → Nat) (j m s : Nat) : Prop := STP fr sz K S g d j m s ∧ ∀ m' s', (m' < m ∨ (m' = m ∧ s' < s)) → ¬ STP fr sz K S g d j m' s'
theorem FST.uniq {fr sz : Nat → Int} {K S : Nat} {g d d' : Nat → Nat} {j m s m' s' : Nat} (h : ∀ i, i < K → d i = d' i) (a : FST fr sz K S g d j m s) (b : FST fr sz K S g d' j m' s') : m' = m ∧ s' = s := by
  have h' : ∀ i, i < K → d' i = d i := fun i hi => (h i hi).symm
  have n1 : ¬ (m' < m ∨ (m' = m ∧ s' < s)) := fun w => a.2 m' s' w (b.1.congr h')
  have n2 : ¬ (m < m' ∨ (m = m' ∧ s < s')) := fun w => b.2 m s w (a.1.congr h)
  omega
def WLK (fr sz : Nat → Int) (K S : Nat) (g : Nat → Nat) : Nat → Nat → (Nat → Nat) → Nat → Nat → Prop
  | 0, D, d, m, s => FST fr sz K S g d (D - 1) m s
  | i + 1, D, d, m, s => ∃ m1 s1, FST fr sz K S g d (D - 1) m1 s1 ∧ WLK fr sz K S g i (D - 1) (updD d m1 s1) m s
theorem WLK.uniq {fr sz : Nat → Int} {K S : Nat} {g : Nat → Nat} : ∀ (i D : Nat) {d d' : Nat → Nat} {m s m' s' : Nat}, (∀ i, i < K → d i = d' i) → WLK fr sz K S g i D d m s → WLK fr sz K S g i D d' m' s' → m' = m ∧ s' = s
  | 0, D, d, d', m, s, m', s', h, a, b => FST.uniq h a b
  | i + 1, D, d, d', m, s, m', s', h, ⟨m1, s1, a1, a2⟩, ⟨m2, s2, b1, b2⟩ => by
    obtain ⟨e1, e2⟩ := FST.uniq h a1 b1
    subst e1 e2
    exact WLK.uniq i (D - 1) (updD_congr h m2 s2) a2 b2
theorem STP.ex {fr sz : Nat → Int} {K S : Nat} {g d : Nat → Nat} {j : Nat} (h : mD fr sz K S g (j + 1) d) : ∃ m s, STP fr sz K S g d j m s := by
  obtain ⟨⟨i, s, h1, h2, h3, h4, h5⟩, h6⟩ := h
  refine ⟨i, s, h1, h2, h3, h4, h5, fun k hk => ?_⟩
  have := h6 (k + 1) ⟨i, s, h1, h2, h3, h4, hk⟩
  omega
theorem STP.mk {fr sz : Nat → Int} {K S N : Nat} {g e : Nat → Nat} {un : Int} {ml : Nat → Int} {D x : Nat} (hun : un < 0) (hN : N = 5 ^ K) (hS : S ≤ 5) (he : PM e K) (hM : MK (Rn fr sz K S g e) N un ml D) (hx : x < N) (hv : ∀ m, m < K → gd e x m < S) {j m s : Nat} (hj : j < D) (hm : m < K) (hs : s < S) (hne : s ≠ gd e x m) (hf : sz m ≤ freD fr sz K (gd e x) s) : ml (upx x (e m) s) = (j : Int) ↔ STP fr sz K S g (gd e x) j m s := by
  subst hN
  have g1 := gd_upx (s := s) he hx hm (by omega)
  have hy := (upx_ok hx (he.1 m hm) (show s < 5 by omega)).1
  have hv2 : ∀ i, i < K → gd e (upx x (e m) s) i < S := fun i hi => by
    rw [g1 i hi]
    unfold updD
    split
    · exact hs
    · exact hv i hi
  constructor
  · intro h
    obtain ⟨k, k1, k2, k3⟩ := hM.1 _ hy (by omega)
    obtain rfl : k = j := by omega
    exact ⟨hm, hs, hne, hf, RchF_congr k g1 k2.2, fun i hi => k3 i ⟨hv2, RchF_congr i (fun q hq => (g1 q hq).symm) hi⟩⟩
  · intro h
    have r : Rn fr sz K S g e j (upx x (e m) s) := ⟨hv2, RchF_congr j (fun q hq => (g1 q hq).symm) h.2.2.2.2.1⟩
    obtain ⟨k, k1, k2, k3⟩ := hM.1 _ hy (hM.2 j _ hy hj r)
    have := k3 j r
    have := h.2.2.2.2.2 k (RchF_congr k g1 k2.2)
    omega
theorem BI.congr {R E : Nat → Nat → Prop} {N : Nat} {un : Int} {ml ml' : Nat → Int} {q q' : Nat → Nat} {n h : Nat} (b : BI R E N un ml q n h) (hm : ∀ x, x < N → ml' x = ml x) (hq : ∀ i, i < n → q' i = q i) : BI R E N un ml' q' n h := by
  obtain ⟨b1, b2, b3, b4, b5, b6, b7, b8, b9⟩ := b
  have mq : ∀ i, i < n → ml' (q' i) = ml (q i) := fun i hi => by rw [hq i hi, hm _ (b1 i hi)]
  refine ⟨fun i hi => by rw [hq i hi]; exact b1 i hi, fun x hx => ?_, fun i j hi hj w => ?_, fun x hx w => ?_, fun i j hij hj => ?_, fun w j hj => ?_, fun w k x hx hk hr => ?_, fun i hi x hx hex => ?_, b9⟩
  · rw [hm x hx, b2 x hx]
    constructor
    · rintro ⟨i, i1, i2⟩
      exact ⟨i, i1, by rw [hq i i1]; exact i2⟩
    · rintro ⟨i, i1, i2⟩
      exact ⟨i, i1, by rw [← hq i i1]; exact i2⟩
  · rw [hq i hi, hq j hj] at w
    exact b3 i j hi hj w
  · rw [hm x hx] at w ⊢
    exact b4 x hx w
  · rw [mq i (by omega), mq j hj]
    exact b5 i j hij hj
  · rw [mq j hj, mq h w]
    exact b6 w j hj
  · rw [mq h w] at hk
    rw [hm x hx]
    exact b7 w k x hx hk hr
  · rw [hq i (by omega)] at hex
    rw [hm x hx, mq i (by omega)]
    exact b8 i hi x hx hex
theorem BI.le {R E : Nat → Nat → Prop} {N : Nat} {un : Int} {ml : Nat → Int} {q : Nat → Nat} {n h : Nat} (b : BI R E N un ml q n h) : n ≤ N := pigeon n N q b.1 b.2.2.1
theorem MK.of {R E : Nat → Nat → Prop} {N : Nat} {un : Int} {ml : Nat → Int} {q : Nat → Nat} {n h x D : Nat} (b : BI R E N un ml q n h) (hh : h < n) (hx : x < N) (hD : ml x = (D : Int)) (hun : un < 0) : MK R N un ml D := by
  refine ⟨b.2.2.2.1, fun k y hy hk hr => ?_⟩
  obtain ⟨i, i1, i2⟩ := (b.2.1 x hx).mp (by omega)
  have := b.2.2.2.2.2.1 hh i i1
  rw [i2] at this
  exact b.2.2.2.2.2.2.1 hh k y hy (by omega) hr
theorem MK.fin {R E : Nat → Nat → Prop} {N : Nat} {un : Int} {ml : Nat → Int} {q : Nat → Nat} {n g D : Nat} (b : BI R E N un ml q n n) (hg : g < N) (hR : ∀ x, x < N → (R 0 x ↔ x = g)) (hmg : ml g ≠ un) (hRE : ∀ x k, x < N → R (k + 1) x → ∃ y, y < N ∧ E x y ∧ R k y) : MK R N un ml D :=
  ⟨b.2.2.2.1, fun k x hx _ hr => b.done hg hR hmg hRE k x hx hr⟩

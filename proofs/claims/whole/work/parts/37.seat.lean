/-! the search for a seating: what the class computes on the way -/
def upC (A : Nat → Nat → Int) (a b N : Nat) : Nat → Nat → Int := fun x j => if x = b ∧ j < N then A a j else A x j
theorem upC_ne {A : Nat → Nat → Int} {a b N x j : Nat} (h : x ≠ b ∨ N ≤ j) : upC A a b N x j = A x j := by
  unfold upC
  rw [if_neg (fun q => by omega)]
theorem upC_eq {A : Nat → Nat → Int} {a b N j : Nat} (h : j < N) : upC A a b N b j = A a j := by
  unfold upC
  rw [if_pos ⟨rfl, h⟩]
theorem WP2_copy0 {P : PP} {M : Mth} {d ip : Nat} {ls : LV} {st : List AV} {FI A L : Nat → Nat → Int} {X : SX} {Q : Option AV → S2 → Prop} {en : Ent} (he : (mT M)[ip]? = some en) {i a b n0 n1 N : Nat} {z : Int} (hi : eI en = .invokestatic i) (hw : (eW en == 99999) = false) (hny : (eY en == 1) = false) (hy : NM[eX en]? = some arraycopyName) (hs8 : (st.map ac).sum ≤ 8) (hA : isIA P X a n0) (hB : isIA P X b n1) (ha5 : 5 ≤ a) (hb5 : 5 ≤ b) (hz : z = (N : Int)) (hN0 : N ≤ n0) (hN1 : N ≤ n1) (k : WP2 P M (d + 1) (eN en) ls st (FI, upC A a b N, L, X) Q) : WP2 P M (d + 1) ip ls (vi z :: vi 0 :: vr b :: vi 0 :: vr a :: st) (FI, A, L, X) Q := by
  subst hz
  refine WP_copy he hi hw hny hy hs8 (cc2_int hA) hA.2.2 (cc2_int hB) hB.2.2 hb5 (by omega) (by omega) (by omega) (by omega) (by omega) (fun j _ => ⟨_, rfl⟩) ?_
  have e : setC (H2 P (FI, A, L, X)) b (.inr (.int, n1, fun j => if (0 : Int).toNat ≤ j ∧ j < (0 : Int).toNat + (N : Int).toNat then vi (cont P A a ((0 : Int).toNat + (j - (0 : Int).toNat))) else vi (cont P A b j))) = H2 P (FI, upC A a b N, L, X) := by
    unfold setC H2
    refine congrArg (fun f => (193 + X.1, X.2.1, f)) (funext fun x => ?_)
    by_cases e : x = b
    · subst e
      show (if x = x then _ else _) = cc2 P FI (upC A a x N) L X x
      rw [if_pos rfl, cc2_int hB]
      refine congrArg (fun f => Sum.inr (FieldType.int, n1, f)) (funext fun j => ?_)
      rw [cont_own hb5, cont_own ha5, cont_own hb5]
      by_cases q : j < N
      · rw [if_pos (by omega), upC_eq q, show (0 : Int).toNat + (j - (0 : Int).toNat) = j by omega]
      · rw [if_neg (by omega), upC_ne (by omega)]
    · show (if x = b then _ else cc2 P FI A L X x) = cc2 P FI (upC A a b N) L X x
      rw [if_neg e]
      have eu : ∀ k, upC A a b N x k = A x k := fun k => upC_ne (Or.inl e)
      unfold cc2 cont
      simp only [eu]
  unfold WP2 at k
  rw [← e] at k
  exact k
theorem agrP_off {FI A FI' A' : Nat → Nat → Int} (s : SAME FI A FI' A') {T u : Nat} (hT : T < 16) (hu : u < 16) (x y : Int) : agrP A' T x u y ↔ agrP A T x u y := by
  unfold agrP
  rw [s.2.2 (71 + T) u (by omega), s.2.2 (54 + T) u (by omega), s.2.2 (20 + T) 2 (by omega), s.2.2 (20 + T) 3 (by omega), s.2.2 (20 + u) 2 (by omega), s.2.2 (20 + u) 3 (by omega)]
theorem suitsP_off {FI A FI' A' : Nat → Nat → Int} (s : SAME FI A FI' A') {T F : Nat} (hT : T < 16) (hF : F < 11) : suitsP A' F T ↔ suitsP A F T := by
  unfold suitsP
  rw [s.2.2 (8 + F) 1 (by omega), s.2.2 (20 + T) 1 (by omega)]
def HH (n : Nat) (FI A : Nat → Nat → Int) (c ts fs nn m : Nat) : Prop := cI n FI A ∧ FI 6 8 = (c : Int) ∧ ts < 2 ^ c ∧ nn = pcR ts 16 ∧ nn ≤ 7 ∧ fs < 2048 ∧ m = pcR fs 16 ∧ m ≤ 4 ∧ 0 < m
theorem HH.T {n : Nat} {FI A : Nat → Nat → Int} {c ts fs nn m : Nat} (h : HH n FI A c ts fs nn m) {k : Nat} (hk : k < nn) : nth ts k < c ∧ nth ts k < 16 := by
  have a := nth_ok (s := ts) (i := k) (by have := h.2.2.2.1; omega)
  exact ⟨tb_lt16 h.2.2.1 a.1, a.2.2⟩
theorem HH.F {n : Nat} {FI A : Nat → Nat → Int} {c ts fs nn m : Nat} (h : HH n FI A c ts fs nn m) {o : Nat} (ho : o < m) : nth fs o < 11 := by
  have a := nth_ok (s := fs) (i := o) (by have := h.2.2.2.2.2.2.1; omega)
  exact tb_lt16 (c := 11) (by have := h.2.2.2.2.2.1; omega) a.1
theorem HH.c {n : Nat} {FI A : Nat → Nat → Int} {c ts fs nn m : Nat} (h : HH n FI A c ts fs nn m) : c ≤ 16 := by
  have := h.1.1
  have := h.2.1
  omega
theorem HH.rg {n : Nat} {FI A : Nat → Nat → Int} {c ts fs nn m : Nat} (h : HH n FI A c ts fs nn m) (k p : Nat) : ∀ t, t < c → plW A ts fs m k p t = -9 ∨ (0 ≤ plW A ts fs m k p t ∧ plW A ts fs m k p t < 11) := fun t ht => by
  have := h.c
  have q := h.1.2.2.2.1 t (by omega)
  unfold cTm at q
  exact plW_rg (by omega) h.2.2.2.2.2.1 h.2.2.2.2.2.2.1 h.2.2.2.2.2.2.2.2
theorem HH.ins {n : Nat} {FI A : Nat → Nat → Int} {c ts fs nn m : Nat} (h : HH n FI A c ts fs nn m) {k p o : Nat} (hk : k < nn) (ho : o < m) :
    (FIT A c (plW A ts fs m (k + 1) (p * m + o)) ↔ FIT A c (plW A ts fs m k p) ∧ occ A (plW A ts fs m k p) (nth fs o) c + A (20 + nth ts k) 0 ≤ A (8 + nth fs o) 0 ∧ agT A c (nth ts k) (nth fs o) (plW A ts fs m k p)) ∧ walkP A (plW A ts fs m (k + 1) (p * m + o)) c = walkP A (plW A ts fs m k p) c + wkS A c (nth ts k) (nth fs o) (plW A ts fs m k p) := by
  have hc := h.c
  have hk' : k < pcR ts 16 := by have := h.2.2.2.1; omega
  have h0 := plW_T0 (A := A) (fs := fs) (m := m) (p := p) hk'
  have h1 := plW_T1 (A := A) (fs := fs) (p := p) hk' ho
  have he : ∀ t, t < c → t ≠ nth ts k → plW A ts fs m (k + 1) (p * m + o) t = plW A ts fs m k p t := fun t ht q => plW_ne (by omega) ho q
  exact ⟨FIT_ins h.1 h.2.1 (h.T hk).1 h0 h1 he (h.F ho), walkP_ins h.1 h.2.1 (h.T hk).1 h0 h1 he⟩
theorem HH.ext {n : Nat} {FI A : Nat → Nat → Int} {c ts fs nn m : Nat} (h : HH n FI A c ts fs nn m) {k : Nat} : ∀ j w, k + j ≤ nn → (FIT A c (plW A ts fs m (k + j) w) → FIT A c (plW A ts fs m k (w / m ^ j))) ∧ walkP A (plW A ts fs m k (w / m ^ j)) c ≤ walkP A (plW A ts fs m (k + j) w) c ∧ chg A ts fs m k (w / m ^ j) ≤ chg A ts fs m (k + j) w
  | 0, w, _ => by
    rw [Nat.pow_zero, Nat.div_one]
    exact ⟨fun q => q, Int.le_refl _, Int.le_refl _⟩
  | j + 1, w, hj => by
    have hm := h.2.2.2.2.2.2.2.2
    have i := HH.ext h (k := k) j (w / m) (by omega)
    have ho : w % m < m := Nat.mod_lt _ hm
    have s := h.ins (k := k + j) (p := w / m) (o := w % m) (by omega) ho
    have cs := chg_s (A := A) (ts := ts) (fs := fs) (k := k + j) (p := w / m) ho
    have ew : w / m * m + w % m = w := by rw [Nat.mul_comm]; exact Nat.div_add_mod w m
    rw [ew] at s cs
    have ed : w / m ^ (j + 1) = w / m / m ^ j := by rw [Nat.pow_succ, Nat.mul_comm, Nat.div_div_eq_div_mul]
    rw [ed, show k + (j + 1) = k + j + 1 by omega]
    have wb := wkS_bd h.1 h.2.1 (h.T (k := k + j) (by omega)).2 (h.F ho) (h.rg (k + j) (w / m)) c (by omega)
    refine ⟨fun q => i.1 (s.1.mp q).1, by rw [s.2]; have := i.2.1; omega, ?_⟩
    rw [cs]
    have := i.2.2
    split <;> omega
def wv (A : Nat → Nat → Int) (c T F : Nat) (pl : Nat → Int) (v : Int) : Prop := (agT A c T F pl ∧ v = wkS A c T F pl) ∨ (¬ agT A c T F pl ∧ v = -9)
def SSt (FI0 A0 : Nat → Nat → Int) (c ts fs nn m : Nat) (FI A : Nat → Nat → Int) : Prop := SAME FI0 A0 FI A ∧ (FI 138 7 = (nn : Int) ∧ FI 138 8 = (m : Int)) ∧ (∀ i, i < nn → A 139 i = (nth ts i : Int)) ∧ (∀ o, o < m → A 140 o = (nth fs o : Int)) ∧ ∀ i o, i < nn → o < m → wv A0 c (nth ts i) (nth fs o) (pw A0 ts) (A (143 + i) o)
theorem SSt.upA {FI0 A0 : Nat → Nat → Int} {c ts fs nn m : Nat} {FI A : Nat → Nat → Int} (h : SSt FI0 A0 c ts fs nn m FI A) (hn : nn ≤ 7) {a j : Nat} {x : Int} (ha : a = 141 ∨ a = 150 ∨ a = 151) : SSt FI0 A0 c ts fs nn m FI (up2 A a j x) :=
  ⟨h.1.up (by omega), h.2.1, fun i hi => by rw [up2_ne (by omega)]; exact h.2.2.1 i hi, fun o ho => by rw [up2_ne (by omega)]; exact h.2.2.2.1 o ho, fun i o hi ho => by rw [up2_ne (by omega)]; exact h.2.2.2.2 i o hi ho⟩
theorem SSt.upF {FI0 A0 : Nat → Nat → Int} {c ts fs nn m : Nat} {FI A : Nat → Nat → Int} (h : SSt FI0 A0 c ts fs nn m FI A) {j : Nat} {x : Int} (hj : 9 ≤ j) : SSt FI0 A0 c ts fs nn m (up2 FI 138 j x) A :=
  ⟨h.1.upF (by omega), ⟨by rw [up2_ne (by omega)]; exact h.2.1.1, by rw [up2_ne (by omega)]; exact h.2.1.2⟩, h.2.2⟩
theorem SSt.upC {FI0 A0 : Nat → Nat → Int} {c ts fs nn m : Nat} {FI A : Nat → Nat → Int} (h : SSt FI0 A0 c ts fs nn m FI A) (hn : nn ≤ 7) {N : Nat} : SSt FI0 A0 c ts fs nn m FI (upC A 150 151 N) :=
  ⟨⟨h.1.1, by rw [upC_ne (by omega)]; exact h.1.2.1, fun a j q => by rw [upC_ne (by omega)]; exact h.1.2.2 a j q⟩, h.2.1, fun i hi => by rw [upC_ne (by omega)]; exact h.2.2.1 i hi, fun o ho => by rw [upC_ne (by omega)]; exact h.2.2.2.1 o ho, fun i o hi ho => by rw [upC_ne (by omega)]; exact h.2.2.2.2 i o hi ho⟩
theorem sp_walkAS {P : PP} {d n c : Nat} {FI A L : Nat → Nat → Int} {X : SX} {Q : Option AV → S2 → Prop} (hI : cI n FI A) (hc : FI 6 8 = (c : Int)) {T F s : Nat} (hT : T < 16) (hF : F < 11) (hs : s < 2147483648) (hq : ∀ v : Int, wv A c T F (pw A s) v → Q (some (vi v)) (FI, A, L, X)) : WP2 P M_S_walkAmongStaying (d + 2) 0 [some (vr 138), some (vi (T : Int)), some (vi (F : Int)), some (vi (s : Int)), none, none, none] [] (FI, A, L, X) Q := by
  have hcc := hI.1
  refine WP_n 1 rfl ?_
  refine WP2_getf rfl rfl rfl rfl rfl ?_
  refine WP_n 2 rfl ?_
  refine WP2_callV 2 ok_M_H_suits rfl rfl rfl rfl rfl rfl (Nat.le_of_ble_eq_true rfl) (Nat.le_of_ble_eq_true rfl) rfl rfl ?_
  refine sp_suits hI hc hF hT (fun hS => ?_) (fun hS => ?_)
  · refine WP_ifne rfl rfl ⟨by decide, by decide⟩  (fun h5 => ?_) (fun h5 => absurd (by decide) h5)
    refine WP_n 4 rfl ?_
    have hpl : ∀ t, t < c → pw A s t = -9 ∨ (0 ≤ pw A s t ∧ pw A s t < 11) := fun t ht => by
      have q := hI.2.2.2.1 t (by omega)
      unfold cTm at q
      unfold pw
      split <;> omega
    suffices hh : ∀ u, u ≤ c → (∀ v, v < u → pw A s v ≠ -9 → agrP A T (F : Int) v (pw A s v)) → WP2 P M_S_walkAmongStaying (d + 2) 12 [some (vr 138), some (vi (T : Int)), some (vi (F : Int)), some (vi (s : Int)), some (vi (wkS A u T F (pw A s))), some (vi (u : Int)), none] [] (FI, A, L, X) Q from hh 0 (by omega) (fun v hv => absurd hv (by omega))
    refine up_to (P := fun u => (∀ v, v < u → pw A s v ≠ -9 → agrP A T (F : Int) v (pw A s v)) → WP2 P M_S_walkAmongStaying (d + 2) 12 [some (vr 138), some (vi (T : Int)), some (vi (F : Int)), some (vi (s : Int)), some (vi (wkS A u T F (pw A s))), some (vi (u : Int)), none] [] (FI, A, L, X) Q) c ?_ ?_
    · intro hall
      refine WP_n 2 rfl ?_
      refine WP2_getf rfl rfl rfl rfl rfl ?_
      refine WP2_getf rfl rfl rfl rfl rfl ?_
      refine WP_icmpge rfl rfl ⟨by omega, by omega⟩ ⟨by omega, by omega⟩ (fun h16 => ?_) (fun h16 => absurd h16 (by omega))
      refine WP_n 1 rfl ?_
      exact WP_iret rfl rfl rfl ⟨_, rfl, hq _ (Or.inl ⟨⟨hS, hall⟩, rfl⟩)⟩
    · intro u hu ih hall
      have hqu := hI.2.2.2.1 u (by omega)
      unfold cTm at hqu
      have hwb := wkS_bd hI hc hT hF hpl u (by omega)
      refine WP_n 2 rfl ?_
      refine WP2_getf rfl rfl rfl rfl rfl ?_
      refine WP2_getf rfl rfl rfl rfl rfl ?_
      refine WP_icmpge rfl rfl ⟨by omega, by omega⟩ ⟨by omega, by omega⟩ (fun h16 => absurd h16 (by omega)) (fun h16 => ?_)
      refine WP_n 1 rfl ?_
      refine WP2_getf rfl rfl rfl rfl rfl ?_
      refine WP_n 2 rfl ?_
      refine WP2_callV 2 ok_M_H_stays rfl rfl rfl rfl rfl rfl (Nat.le_of_ble_eq_true rfl) (Nat.le_of_ble_eq_true rfl) rfl rfl ?_
      refine sp_stays hI hc (by omega) hs (fun hY => ?_) (fun hY => ?_)
      · refine WP_ifeq rfl rfl ⟨by decide, by decide⟩  (fun h22 => absurd h22 (by decide)) (fun h22 => ?_)
        refine WP_n 1 rfl ?_
        refine WP2_getf rfl rfl rfl rfl rfl ?_
        refine WP2_getf rfl rfl rfl rfl rfl ?_
        refine WP_n 1 rfl ?_
        refine WP2_aald (b := 20) (j := u) (n := 16) rfl rfl rfl rfl rfl (by omega) (by omega) ?_
        refine WP_n 1 rfl ?_
        refine WP2_iald (j := 4) rfl rfl (ia_tm (by omega)) (by omega) (by omega) (by omega) ?_
        refine WP_n 1 rfl ?_
        refine WP_n 1 rfl ?_
        refine WP2_getf rfl rfl rfl rfl rfl ?_
        refine WP_n 4 rfl ?_
        refine WP2_callV 4 ok_M_H_agree rfl rfl rfl rfl rfl rfl (Nat.le_of_ble_eq_true rfl) (Nat.le_of_ble_eq_true rfl) rfl rfl ?_
        have hpu := pw_ne hY
        rw [← hpu.1]
        have hpr := hpl u hu
        refine sp_agree hI hc hT (by omega) (by omega) (by omega) (fun hA => ?_) (fun hA => ?_)
        · refine WP_ifne rfl rfl ⟨by decide, by decide⟩  (fun h38 => ?_) (fun h38 => absurd (by decide) h38)
          refine WP_n 2 rfl ?_
          refine WP2_getf rfl rfl rfl rfl rfl ?_
          refine WP_n 4 rfl ?_
          refine WP2_callV 4 ok_M_H_walkBetween rfl rfl rfl rfl rfl rfl (Nat.le_of_ble_eq_true rfl) (Nat.le_of_ble_eq_true rfl) rfl rfl ?_
          refine sp_walkBetween hI hc hT (by omega) (by omega) (by omega) ?_
          refine WP_n 4 rfl ?_
          have e : wkS A (u + 1) T F (pw A s) = wkS A u T F (pw A s) + A (37 + T) u * absd (F : Int) (pw A s u) := by
            show wkS A u T F (pw A s) + (if _ then _ else _) = _
            rw [if_pos hY]
          have z := ih (lt_s hall (fun _ => hA))
          rw [e] at z
          exact WP2_kill 6 z
        · refine WP_ifne rfl rfl ⟨by decide, by decide⟩  (fun h38 => absurd h38 (by decide)) (fun h38 => ?_)
          refine WP_n 1 rfl ?_
          exact WP_iret rfl rfl rfl ⟨_, rfl, hq _ (Or.inr ⟨fun q => hA (q.2 u hu hY), rfl⟩)⟩
      · refine WP_ifeq rfl rfl ⟨by decide, by decide⟩  (fun h22 => ?_) (fun h22 => absurd (by decide) h22)
        refine WP_n 2 rfl ?_
        have e : wkS A (u + 1) T F (pw A s) = wkS A u T F (pw A s) := by
          show wkS A u T F (pw A s) + (if _ then _ else _) = _
          rw [if_neg (fun q => q hY)]
          omega
        have z := ih (lt_s hall (fun q => absurd hY q))
        rw [e] at z
        exact z
  · refine WP_ifne rfl rfl ⟨by decide, by decide⟩  (fun h5 => absurd h5 (by decide)) (fun h5 => ?_)
    refine WP_n 1 rfl ?_
    exact WP_iret rfl rfl rfl ⟨_, rfl, hq _ (Or.inr ⟨fun q => hS q.1, rfl⟩)⟩
theorem sp_isBetter {P : PP} {d : Nat} {FI A L : Nat → Nat → Int} {X : SX} {Q : Option AV → S2 → Prop} {w ch : Int} (hw : inR w) (hch : inR ch) (h1 : inR (FI 138 10)) (h2 : inR (FI 138 11)) (ht : (w < FI 138 10 ∨ (w = FI 138 10 ∧ ch < FI 138 11)) → Q (some (vi 1)) (FI, A, L, X)) (hf : ¬ (w < FI 138 10 ∨ (w = FI 138 10 ∧ ch < FI 138 11)) → Q (some (vi 0)) (FI, A, L, X)) : WP2 P M_S_isBetter (d) 0 [some (vr 138), some (vi w), some (vi ch)] [] (FI, A, L, X) Q := by
  refine WP_n 2 rfl ?_
  refine WP2_getf rfl rfl rfl rfl rfl ?_
  refine WP_icmplt rfl rfl hw h1 (fun h3 => ?_) (fun h3 => ?_)
  · refine WP_n 2 rfl ?_
    exact WP_zret rfl rfl rfl (Or.inr rfl) ⟨_, rfl, ht (by omega)⟩
  · refine WP_n 2 rfl ?_
    refine WP2_getf rfl rfl rfl rfl rfl ?_
    refine WP_icmpne rfl rfl hw h1 (fun h7 => ?_) (fun h7 => ?_)
    · refine WP_n 1 rfl ?_
      exact WP_zret rfl rfl rfl (Or.inl rfl) ⟨_, rfl, hf (by omega)⟩
    · refine WP_n 2 rfl ?_
      refine WP2_getf rfl rfl rfl rfl rfl ?_
      refine WP_icmpge rfl rfl hch h2 (fun h11 => ?_) (fun h11 => ?_)
      · refine WP_n 1 rfl ?_
        exact WP_zret rfl rfl rfl (Or.inl rfl) ⟨_, rfl, hf (by omega)⟩
      · refine WP_n 2 rfl ?_
        exact WP_zret rfl rfl rfl (Or.inr rfl) ⟨_, rfl, ht (by omega)⟩

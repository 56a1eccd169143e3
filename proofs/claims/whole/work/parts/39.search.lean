/-! the search for a seating: the class, whole -/
theorem occ_off {FI A FI' A' : Nat → Nat → Int} (s : SAME FI A FI' A') {c f : Nat} (hc : c ≤ 16) {pl pl' : Nat → Int} (e : ∀ t, t < c → pl' t = pl t) : occ A' pl' f c = occ A pl f c := sumN_congr c (fun t ht => by rw [e t ht, s.2.2 (20 + t) 0 (by omega)])
theorem wkS_off {FI A FI' A' : Nat → Nat → Int} (s : SAME FI A FI' A') {c T F : Nat} (hT : T < 16) {pl pl' : Nat → Int} (e : ∀ t, t < c → pl' t = pl t) : wkS A' c T F pl' = wkS A c T F pl := sumN_congr c (fun t ht => by rw [e t ht, s.2.2 (37 + T) t (by omega)])
theorem agT_off {FI A FI' A' : Nat → Nat → Int} (s : SAME FI A FI' A') {c T F : Nat} (hc : c ≤ 16) (hT : T < 16) (hF : F < 11) {pl pl' : Nat → Int} (e : ∀ t, t < c → pl' t = pl t) : agT A' c T F pl' ↔ agT A c T F pl := by
  unfold agT
  rw [suitsP_off s hT hF]
  constructor
  · rintro ⟨a, b⟩
    refine ⟨a, fun u hu hp => ?_⟩
    have z := b u hu (by rw [e u hu]; exact hp)
    rw [agrP_off s hT (by omega), e u hu] at z
    exact z
  · rintro ⟨a, b⟩
    refine ⟨a, fun u hu hp => ?_⟩
    rw [agrP_off s hT (by omega), e u hu]
    exact b u hu (by rw [← e u hu]; exact hp)
theorem walkP_off {FI A FI' A' : Nat → Nat → Int} (s : SAME FI A FI' A') {c : Nat} (hc : c ≤ 16) {pl pl' : Nat → Int} (e : ∀ t, t < c → pl' t = pl t) : walkP A' pl' c = walkP A pl c := sumN_congr c (fun a ha => sumN_congr a (fun b hb => by
  unfold wk2
  rw [e a ha, e b (by omega), s.2.2 (37 + a) b (by omega)]))
theorem FIT_off {FI A FI' A' : Nat → Nat → Int} (s : SAME FI A FI' A') {c : Nat} (hc : c ≤ 16) {pl pl' : Nat → Int} (e : ∀ t, t < c → pl' t = pl t) (hr : ∀ t, t < c → pl t = -9 ∨ (0 ≤ pl t ∧ pl t < 11)) : FIT A' c pl' ↔ FIT A c pl := by
  unfold FIT
  have e1 : (∀ f, f < 11 → occ A' pl' f c ≤ A' (8 + f) 0) ↔ ∀ f, f < 11 → occ A pl f c ≤ A (8 + f) 0 := by
    constructor
    · intro h f hf
      have := h f hf
      rw [occ_off s hc e, s.2.2 (8 + f) 0 (by omega)] at this
      exact this
    · intro h f hf
      rw [occ_off s hc e, s.2.2 (8 + f) 0 (by omega)]
      exact h f hf
  have e2 : ∀ a, a < c → (fitT A' pl' a ↔ fitT A pl a) := by
    intro a ha
    have hra := hr a ha
    unfold fitT
    rw [e a ha]
    constructor
    · intro h hp
      have z := h hp
      refine ⟨(suitsP_off s (by omega) (by omega)).mp z.1, fun b hb hpb => ?_⟩
      have y := z.2 b hb (by rw [e b (by omega)]; exact hpb)
      rw [e b (by omega), agrP_off s (by omega) (by omega)] at y
      exact y
    · intro h hp
      have z := h hp
      refine ⟨(suitsP_off s (by omega) (by omega)).mpr z.1, fun b hb hpb => ?_⟩
      rw [e b (by omega)] at hpb ⊢
      rw [agrP_off s (by omega) (by omega)]
      exact z.2 b hb hpb
  rw [e1]
  constructor
  · rintro ⟨a, b⟩
    exact ⟨a, fun x hx => (e2 x hx).mp (b x hx)⟩
  · rintro ⟨a, b⟩
    exact ⟨a, fun x hx => (e2 x hx).mpr (b x hx)⟩
theorem pw_off {FI A FI' A' : Nat → Nat → Int} (s : SAME FI A FI' A') {ts t : Nat} (ht : t < 16) : pw A' ts t = pw A ts t := by
  unfold pw
  rw [s.2.2 (20 + t) 4 (by omega)]
theorem wv_off {FI A FI' A' : Nat → Nat → Int} (s : SAME FI A FI' A') {c T F : Nat} (hc : c ≤ 16) (hT : T < 16) (hF : F < 11) {pl pl' : Nat → Int} (e : ∀ t, t < c → pl' t = pl t) {v : Int} (h : wv A' c T F pl' v) : wv A c T F pl v := by
  unfold wv at *
  rw [agT_off s hc hT hF e, wkS_off s hT e] at h
  exact h
theorem sp_S_search {P : PP} {d : Nat} {L : Nat → Nat → Int} {X : SX} {Q : Option AV → S2 → Prop} {n : Nat} {FI0 A0 : Nat → Nat → Int} {c ts fs nn m : Nat} (hh : HH n FI0 A0 c ts fs nn m) (hq : ∀ FI' A' : Nat → Nat → Int, SAME FI0 A0 FI' A' → FI' 138 7 = (nn : Int) → (∀ i, i < nn → A' 139 i = (nth ts i : Int)) → BJ (fun w => FIT A0 c (plW A0 ts fs m nn w)) (fun w => walkP A0 (plW A0 ts fs m nn w) c) (fun w => chg A0 ts fs m nn w) (m ^ nn) (FI' 138 9) (FI' 138 10) (FI' 138 11) (fun b => ∀ i, i < nn → A' 151 i = (nth fs (dig m nn b i) : Int)) → Q none (FI', A', L, X)) : WP2 P M_S_search (d + 15) 0 [some (vr 138), some (vi (fs : Int)), some (vi (ts : Int)), none, none] [] (FI0, A0, L, X) Q := by
  have hc16 := hh.c
  have hnn := hh.2.2.2.2.1
  have hnt := hh.2.2.2.1
  have hm4 := hh.2.2.2.2.2.2.2.1
  have hm0 := hh.2.2.2.2.2.2.2.2
  have hmt := hh.2.2.2.2.2.2.1
  have hf11 := hh.2.2.2.2.2.1
  have htc := hh.2.2.1
  have hp16 : 2 ^ c ≤ 2 ^ 16 := Nat.pow_le_pow_right (by omega) hc16
  have hrg : ∀ t, t < c → pw A0 ts t = -9 ∨ (0 ≤ pw A0 ts t ∧ pw A0 ts t < 11) := fun t ht => by
    have z := hh.rg 0 0 t ht
    rw [plW_0] at z
    exact z
  have hnofit : ¬ FIT A0 c (pw A0 ts) → ∀ w, w < m ^ nn → ¬ FIT A0 c (plW A0 ts fs m nn w) := fun q w _ hf => by
    have z := (hh.ext (k := 0) nn w (by omega)).1
    rw [Nat.zero_add] at z
    exact q ((FIT_congr (fun t _ => plW_0 t)).mp (z hf))
  refine WP_n 2 rfl ?_
  refine WP2_putk (k := 9) rfl rfl rfl rfl rfl rfl (by exact Or.inl rfl) ?_
  refine WP_n 3 rfl ?_
  refine WP2_getf rfl rfl rfl rfl rfl ?_
  refine WP2_callN 2 ok_M_F_list rfl rfl rfl rfl rfl rfl rfl (Nat.le_of_ble_eq_true rfl) (Nat.le_of_ble_eq_true rfl) ?_
  refine sp_list (s := ts) (by omega) (B := 139) (ia_lit (n := 7) rfl rfl (by omega)) (by omega) (by omega) (by omega) (fun A1 a1 a2 => ?_)
  have s1 : SAME FI0 A0 (up2 FI0 138 9 0) A1 := ((SAME.refl FI0 A0).upF (by omega)).trans ⟨⟨rfl, rfl, rfl, rfl⟩, a1 _ _ (by omega), fun a j q => a1 a j (by omega)⟩
  rw [← hnt] at a2 ⊢
  refine WP2_putk (k := 7) rfl rfl rfl rfl rfl rfl (by exact trivial) ?_
  refine WP_n 3 rfl ?_
  refine WP2_getf rfl rfl rfl rfl rfl ?_
  refine WP2_callN 2 ok_M_F_list rfl rfl rfl rfl rfl rfl rfl (Nat.le_of_ble_eq_true rfl) (Nat.le_of_ble_eq_true rfl) ?_
  refine sp_list (s := fs) (by omega) (B := 140) (ia_lit (n := 4) rfl rfl (by omega)) (by omega) (by omega) (by omega) (fun A2 c1 c2 => ?_)
  have s2 : SAME FI0 A0 (up2 (up2 FI0 138 9 0) 138 7 (nn : Int)) A2 := (s1.upF (by omega)).trans ⟨⟨rfl, rfl, rfl, rfl⟩, c1 _ _ (by omega), fun a j q => c1 a j (by omega)⟩
  rw [← hmt] at c2 ⊢
  refine WP2_putk (k := 8) rfl rfl rfl rfl rfl rfl (by exact trivial) ?_
  refine WP_n 1 rfl ?_
  refine WP2_getf rfl rfl rfl rfl rfl ?_
  refine WP_n 1 rfl ?_
  refine WP2_callV 1 ok_M_H_isFit rfl rfl rfl rfl rfl rfl (Nat.le_of_ble_eq_true rfl) (Nat.le_of_ble_eq_true rfl) rfl rfl ?_
  have s3 := s2.upF (a := 138) (j := 8) (x := (m : Int)) (by omega)
  obtain ⟨FI3, hFI3⟩ : ∃ F, F = up2 (up2 (up2 FI0 138 9 0) 138 7 (nn : Int)) 138 8 (m : Int) := ⟨_, rfl⟩
  rw [← hFI3] at s3 ⊢
  have f7 : FI3 138 7 = (nn : Int) := by rw [hFI3, up2_ne (by omega)]; exact up2_same
  have f8 : FI3 138 8 = (m : Int) := by rw [hFI3]; exact up2_same
  have f9 : FI3 138 9 = 0 := by rw [hFI3, up2_ne (by omega), up2_ne (by omega)]; exact up2_same
  have g139 : ∀ i, i < nn → A2 139 i = (nth ts i : Int) := fun i hi => by rw [c1 139 i (by omega)]; exact a2 i hi
  have g140 := c2
  refine sp_isFit (hh.1.off s3) (s3.1.1.trans hh.2.1) (by omega) (fun hFit => ?_) (fun hFit => ?_)
  all_goals rw [FIT_off s3 hc16 (fun t ht => pw_off s3 (by omega)) hrg] at hFit
  · refine WP_ifne rfl rfl ⟨by decide, by decide⟩  (fun h19 => ?_) (fun h19 => absurd (by decide) h19)
    refine WP_n 2 rfl ?_
    suffices hw : ∀ o, o ≤ m → ∀ B : Nat → Nat → Int, SAME FI0 A0 FI3 B → (∀ i, i < nn → B 139 i = (nth ts i : Int)) → (∀ o, o < m → B 140 o = (nth fs o : Int)) → (∀ o', o' < o → B 141 o' = A0 (8 + nth fs o') 0 - occ A0 (pw A0 ts) (nth fs o') c) → (∀ i o', i < nn → o' < o → wv A0 c (nth ts i) (nth fs o') (pw A0 ts) (B (143 + i) o')) → WP2 P M_S_search (d + 15) 23 [some (vr 138), some (vi (fs : Int)), some (vi (ts : Int)), some (vi (o : Int)), none] [] (FI3, B, L, X) Q from hw 0 (by omega) _ s3 g139 g140 (fun o' ho' => absurd ho' (by omega)) (fun i o' hi ho' => absurd ho' (by omega))
    refine up_to (P := fun o => ∀ B : Nat → Nat → Int, SAME FI0 A0 FI3 B → (∀ i, i < nn → B 139 i = (nth ts i : Int)) → (∀ o, o < m → B 140 o = (nth fs o : Int)) → (∀ o', o' < o → B 141 o' = A0 (8 + nth fs o') 0 - occ A0 (pw A0 ts) (nth fs o') c) → (∀ i o', i < nn → o' < o → wv A0 c (nth ts i) (nth fs o') (pw A0 ts) (B (143 + i) o')) → WP2 P M_S_search (d + 15) 23 [some (vr 138), some (vi (fs : Int)), some (vi (ts : Int)), some (vi (o : Int)), none] [] (FI3, B, L, X) Q) m ?_ ?_
    · intro B b1 b2 b3 b4 b5
      refine WP_n 2 rfl ?_
      refine WP2_getf rfl rfl rfl rfl rfl ?_
      refine WP_icmpge rfl rfl ⟨by omega, by omega⟩ ⟨by omega, by omega⟩ (fun h26 => ?_) (fun h26 => absurd h26 (by omega))
      refine WP_n 3 rfl ?_
      refine WP2_getf rfl rfl rfl rfl rfl ?_
      refine WP_n 1 rfl ?_
      refine WP2_callV 1 ok_M_H_walk rfl rfl rfl rfl rfl rfl (Nat.le_of_ble_eq_true rfl) (Nat.le_of_ble_eq_true rfl) rfl rfl ?_
      refine sp_walk (hh.1.off b1) (b1.1.1.trans hh.2.1) (by omega) ?_
      rw [walkP_off b1 hc16 (pl := plW A0 ts fs m 0 0) (fun t ht => by rw [plW_0]; exact pw_off b1 (by omega))]
      refine WP_n 1 rfl ?_
      refine WP2_callV 3 ok_M_S_placeFrom rfl rfl rfl rfl rfl rfl (Nat.le_of_ble_eq_true rfl) (Nat.le_of_ble_eq_true rfl) rfl rfl ?_
      refine WP2_deep (d := d + nn + 4) (by omega) (sp_placeFrom hh nn 0 (by omega) FI3 B 0 _ ⟨b1, ⟨f7, f8⟩, b2, b3, b5⟩ (fun i hi => absurd hi (by omega)) (fun o ho => ?_) ((FIT_congr (fun t _ => plW_0 t)).mpr hFit) ?_ (fun FI4 B4 h1 h2 h3 h4 => ?_))
      · rw [b4 o ho]
        congr 1
      · rw [Nat.zero_mul]
        exact Or.inl ⟨f9, fun w hw => absurd hw (by omega)⟩
      · refine WP_vret rfl rfl rfl ⟨_, rfl, ?_⟩
        rw [Nat.zero_add, Nat.one_mul] at h4
        exact hq FI4 B4 h1.1 h1.2.1.1 h1.2.2.1 h4
    · intro o ho ih B b1 b2 b3 b4 b5
      refine WP_n 2 rfl ?_
      refine WP2_getf rfl rfl rfl rfl rfl ?_
      refine WP_icmpge rfl rfl ⟨by omega, by omega⟩ ⟨by omega, by omega⟩ (fun h26 => absurd h26 (by omega)) (fun h26 => ?_)
      refine WP_n 1 rfl ?_
      refine WP2_getf rfl rfl rfl rfl rfl ?_
      refine WP_n 2 rfl ?_
      refine WP2_getf rfl rfl rfl rfl rfl ?_
      refine WP_n 1 rfl ?_
      refine WP2_getf rfl rfl rfl rfl rfl ?_
      refine WP_n 1 rfl ?_
      refine WP2_iald (j := o) rfl rfl (ia_lit (n := 4) rfl rfl (by omega)) (by omega) (by omega) (by omega) ?_
      refine WP_n 1 rfl ?_
      refine WP2_callV 2 ok_M_H_freeSeats rfl rfl rfl rfl rfl rfl (Nat.le_of_ble_eq_true rfl) (Nat.le_of_ble_eq_true rfl) rfl rfl ?_
      rw [b3 o ho]
      refine sp_freeSeats (hh.1.off b1) (b1.1.1.trans hh.2.1) (hh.F ho) (by omega) ?_
      refine WP2_iast (j := o) rfl rfl (ia_lit (n := 4) rfl rfl (by omega)) (by omega) (by omega) (by omega) ?_
      refine WP_n 2 rfl ?_
      suffices hw2 : ∀ e, e ≤ nn → ∀ B : Nat → Nat → Int, SAME FI0 A0 FI3 B → (∀ i, i < nn → B 139 i = (nth ts i : Int)) → (∀ o, o < m → B 140 o = (nth fs o : Int)) → (∀ o', o' < o + 1 → B 141 o' = A0 (8 + nth fs o') 0 - occ A0 (pw A0 ts) (nth fs o') c) → (∀ i o', i < nn → o' < o → wv A0 c (nth ts i) (nth fs o') (pw A0 ts) (B (143 + i) o')) → (∀ i, i < e → wv A0 c (nth ts i) (nth fs o) (pw A0 ts) (B (143 + i) o)) → WP2 P M_S_search (d + 15) 41 [some (vr 138), some (vi (fs : Int)), some (vi (ts : Int)), some (vi (o : Int)), some (vi (e : Int))] [] (FI3, B, L, X) Q from hw2 0 (by omega) _ (b1.up (by omega)) (fun i hi => by rw [up2_ne (by omega)]; exact b2 i hi) (fun o' ho' => by rw [up2_ne (by omega)]; exact b3 o' ho') (fun o' ho' => by
          by_cases q : o' = o
          · have hFo := hh.F ho
            rw [q, up2_same, occ_pw, b1.2.2 _ _ (by omega), occ_off b1 hc16 (fun t ht => pw_off b1 (by omega))]
          · rw [up2_ne (by omega)]
            exact b4 o' (by omega)) (fun i o' hi ho' => by rw [up2_ne (by omega)]; exact b5 i o' hi ho') (fun i hi => absurd hi (by omega))
      refine up_to (P := fun e => ∀ B : Nat → Nat → Int, SAME FI0 A0 FI3 B → (∀ i, i < nn → B 139 i = (nth ts i : Int)) → (∀ o, o < m → B 140 o = (nth fs o : Int)) → (∀ o', o' < o + 1 → B 141 o' = A0 (8 + nth fs o') 0 - occ A0 (pw A0 ts) (nth fs o') c) → (∀ i o', i < nn → o' < o → wv A0 c (nth ts i) (nth fs o') (pw A0 ts) (B (143 + i) o')) → (∀ i, i < e → wv A0 c (nth ts i) (nth fs o) (pw A0 ts) (B (143 + i) o)) → WP2 P M_S_search (d + 15) 41 [some (vr 138), some (vi (fs : Int)), some (vi (ts : Int)), some (vi (o : Int)), some (vi (e : Int))] [] (FI3, B, L, X) Q) nn ?_ ?_
      · intro B b1 b2 b3 b4 b5 b6
        refine WP_n 2 rfl ?_
        refine WP2_getf rfl rfl rfl rfl rfl ?_
        refine WP_icmpge rfl rfl ⟨by omega, by omega⟩ ⟨by omega, by omega⟩ (fun h44 => ?_) (fun h44 => absurd h44 (by omega))
        refine WP_n 2 rfl ?_
        refine WP2_kill 4 (ih B b1 b2 b3 b4 (fun i o' hi ho' => ?_))
        by_cases q : o' = o
        · rw [q]
          exact b6 i hi
        · exact b5 i o' hi (by omega)
      · intro e he ih2 B b1 b2 b3 b4 b5 b6
        refine WP_n 2 rfl ?_
        refine WP2_getf rfl rfl rfl rfl rfl ?_
        refine WP_icmpge rfl rfl ⟨by omega, by omega⟩ ⟨by omega, by omega⟩ (fun h44 => absurd h44 (by omega)) (fun h44 => ?_)
        refine WP_n 1 rfl ?_
        refine WP2_getf rfl rfl rfl rfl rfl ?_
        refine WP_n 1 rfl ?_
        refine WP2_aald (b := 143) (j := e) (n := 7) rfl rfl rfl rfl rfl (by omega) (by omega) ?_
        refine WP_n 3 rfl ?_
        refine WP2_getf rfl rfl rfl rfl rfl ?_
        refine WP_n 1 rfl ?_
        refine WP2_iald (j := e) rfl rfl (ia_lit (n := 7) rfl rfl (by omega)) (by omega) (by omega) (by omega) ?_
        refine WP_n 1 rfl ?_
        refine WP2_getf rfl rfl rfl rfl rfl ?_
        refine WP_n 1 rfl ?_
        refine WP2_iald (j := o) rfl rfl (ia_lit (n := 4) rfl rfl (by omega)) (by omega) (by omega) (by omega) ?_
        refine WP_n 1 rfl ?_
        refine WP2_callV 3 ok_M_S_walkAmongStaying rfl rfl rfl rfl rfl rfl (Nat.le_of_ble_eq_true rfl) (Nat.le_of_ble_eq_true rfl) rfl rfl ?_
        rw [b2 e (by omega), b3 o ho]
        have hI2 := hh.1.off b1
        refine sp_walkAS hI2 (b1.1.1.trans hh.2.1) (hh.T (k := e) (by omega)).2 (hh.F ho) (by omega) (fun v hv => ?_)
        have hv := wv_off b1 hc16 (hh.T (k := e) (by omega)).2 (hh.F ho) (fun t ht => pw_off b1 (by omega)) hv
        refine WP2_iast (j := o) rfl rfl (ia_ws (by omega)) (by omega) (by omega) (by omega) ?_
        refine WP_n 2 rfl ?_
        refine ih2 _ (b1.up (by omega)) (fun i hi => by rw [up2_ne (by omega)]; exact b2 i hi) (fun o' ho' => by rw [up2_ne (by omega)]; exact b3 o' ho') (fun o' ho' => by rw [up2_ne (by omega)]; exact b4 o' ho') (fun i o' hi ho' => by rw [up2_ne (by omega)]; exact b5 i o' hi ho') (fun i hi => ?_)
        by_cases q : i = e
        · rw [q, up2_same]
          exact hv
        · rw [up2_ne (by omega)]
          exact b6 i (by omega)
  · refine WP_ifne rfl rfl ⟨by decide, by decide⟩  (fun h19 => absurd h19 (by decide)) (fun h19 => ?_)
    exact WP_vret rfl rfl rfl ⟨_, rfl, hq _ _ s3 f7 g139 (Or.inl ⟨f9, hnofit hFit⟩)⟩

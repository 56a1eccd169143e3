/-! small methods of the class and of the reference -/
theorem WP2_putk {P : PP} {M : Mth} {d ip : Nat} {ls : LV} {st : List AV} {FI A L : Nat → Nat → Int} {X : SX} {Q : Option AV → S2 → Prop} {en : Ent} (he : (mT M)[ip]? = some en) {i a k : Nat} {x : Int} (hi : eI en = .putfield i) (hk : eY en = k) (hf : isI a k = true) (hx : cOf a = eX en) (hfin : (((vwCl[eX en]?).getD ("", TX0, 0)).2.1 (eY en)).2.2.2 = false) (hv : fok (clT (eX en) (eY en)) (vi x)) (kk : WP2 P M d (eN en) ls st (up2 FI a k x, A, L, X) Q) : WP2 P M d ip ls (vi x :: vr a :: st) (FI, A, L, X) Q := by
  subst hk
  exact WP2_putf he hi hf hx hfin hv kk
theorem WP2_gets {P : PP} {M : Mth} {d ip : Nat} {ls : LV} {st : List AV} {S : S2} {Q : Option AV → S2 → Prop} {en : Ent} (he : (mT M)[ip]? = some en) {i x : Nat} (hi : eI en = .getstatic i) (hx : eX en = x) (k : WP2 P M d (eN en) ls (vr x :: st) S Q) : WP2 P M d ip ls st S Q := by
  subst hx
  exact WP_gets he hi k
theorem WP2_ldcw {P : PP} {M : Mth} {d ip : Nat} {ls : LV} {st : List AV} {S : S2} {Q : Option AV → S2 → Prop} {en : Ent} (he : (mT M)[ip]? = some en) {i : Nat} {x : Int} (hi : eI en = .ldc_w i) (hx : (eX en : Int) = x) (k : WP2 P M d (eN en) ls (vi x :: st) S Q) : WP2 P M d ip ls st S Q := by
  subst hx
  exact WP_ldc_w he hi k
theorem WP2_ldc2w {P : PP} {M : Mth} {d ip : Nat} {ls : LV} {st : List AV} {S : S2} {Q : Option AV → S2 → Prop} {en : Ent} (he : (mT M)[ip]? = some en) {i : Nat} {x : Int} (hi : eI en = .ldc2_w i) (hx : (eX en : Int) = x) (k : WP2 P M d (eN en) ls (vl x :: st) S Q) : WP2 P M d ip ls st S Q := by
  subst hx
  exact WP_ldc2_w he hi k
theorem sp_noFloor {P : PP} {d : Nat} {FI A L : Nat → Nat → Int} {X : SX} {Q : Option AV → S2 → Prop} {f : Int} (hf : inR f) (h1 : (f < 0 ∨ 11 ≤ f) → Q (some (vi 1)) (FI, A, L, X)) (h0 : 0 ≤ f → f < 11 → Q (some (vi 0)) (FI, A, L, X)) : WP2 P M_F_noFloor d 0 [some (vi f)] [] (FI, A, L, X) Q := by
  refine WP_n 1 rfl ?_
  refine WP_iflt rfl rfl hf (fun h9 => ?_) (fun h9 => ?_)
  · refine WP_n 2 rfl ?_
    exact WP_zret rfl rfl rfl (Or.inr rfl) ⟨_, rfl, h1 (Or.inl h9)⟩
  · refine WP_n 2 rfl ?_
    refine WP_icmplt rfl rfl hf ⟨by omega, by omega⟩ (fun h4 => ?_) (fun h4 => ?_)
    · refine WP_n 1 rfl ?_
      exact WP_zret rfl rfl rfl (Or.inl rfl) ⟨_, rfl, h0 (by omega) (by omega)⟩
    · refine WP_n 2 rfl ?_
      exact WP_zret rfl rfl rfl (Or.inr rfl) ⟨_, rfl, h1 (Or.inr (by omega))⟩
theorem sp_noQuarter {P : PP} {d : Nat} {FI A L : Nat → Nat → Int} {X : SX} {Q : Option AV → S2 → Prop} {f : Int} (hf : inR f) (h1 : (f < 0 ∨ 20 ≤ f) → Q (some (vi 1)) (FI, A, L, X)) (h0 : 0 ≤ f → f < 20 → Q (some (vi 0)) (FI, A, L, X)) : WP2 P M_F_noQuarter d 0 [some (vi f)] [] (FI, A, L, X) Q := by
  refine WP_n 1 rfl ?_
  refine WP_iflt rfl rfl hf (fun h9 => ?_) (fun h9 => ?_)
  · refine WP_n 2 rfl ?_
    exact WP_zret rfl rfl rfl (Or.inr rfl) ⟨_, rfl, h1 (Or.inl h9)⟩
  · refine WP_n 2 rfl ?_
    refine WP_icmplt rfl rfl hf ⟨by omega, by omega⟩ (fun h4 => ?_) (fun h4 => ?_)
    · refine WP_n 1 rfl ?_
      exact WP_zret rfl rfl rfl (Or.inl rfl) ⟨_, rfl, h0 (by omega) (by omega)⟩
    · refine WP_n 2 rfl ?_
      exact WP_zret rfl rfl rfl (Or.inr rfl) ⟨_, rfl, h1 (Or.inr (by omega))⟩
theorem sp_noTeam {P : PP} {d : Nat} {FI A L : Nat → Nat → Int} {X : SX} {Q : Option AV → S2 → Prop} {f : Int} (hf : inR f) (hc : inR (FI 6 8)) (h1 : (f < 0 ∨ FI 6 8 ≤ f) → Q (some (vi 1)) (FI, A, L, X)) (h0 : 0 ≤ f → f < FI 6 8 → Q (some (vi 0)) (FI, A, L, X)) : WP2 P M_F_noTeam d 0 [some (vr 5), some (vi f)] [] (FI, A, L, X) Q := by
  refine WP_n 1 rfl ?_
  refine WP_iflt rfl rfl hf (fun h9 => ?_) (fun h9 => ?_)
  · refine WP_n 2 rfl ?_
    exact WP_zret rfl rfl rfl (Or.inr rfl) ⟨_, rfl, h1 (Or.inl h9)⟩
  · refine WP_n 2 rfl ?_
    refine WP2_getf rfl rfl rfl rfl rfl ?_
    refine WP2_getf rfl rfl rfl rfl rfl ?_
    refine WP_icmplt rfl rfl hf hc (fun h6 => ?_) (fun h6 => ?_)
    · refine WP_n 1 rfl ?_
      exact WP_zret rfl rfl rfl (Or.inl rfl) ⟨_, rfl, h0 (by omega) (by omega)⟩
    · refine WP_n 2 rfl ?_
      exact WP_zret rfl rfl rfl (Or.inr rfl) ⟨_, rfl, h1 (Or.inr (by omega))⟩
theorem sp_isFloor {P : PP} {d : Nat} {FI A L : Nat → Nat → Int} {X : SX} {Q : Option AV → S2 → Prop} {f : Int} (hf : inR f) (h0 : (f < 0 ∨ 11 ≤ f) → Q (some (vi 0)) (FI, A, L, X)) (h1 : 0 ≤ f → f < 11 → Q (some (vi 1)) (FI, A, L, X)) : WP2 P M_G_isFloor d 0 [some (vi f)] [] (FI, A, L, X) Q := by
  refine WP_n 1 rfl ?_
  refine WP_iflt rfl rfl hf (fun h9 => ?_) (fun h9 => ?_)
  · refine WP_n 1 rfl ?_
    exact WP_zret rfl rfl rfl (Or.inl rfl) ⟨_, rfl, h0 (Or.inl h9)⟩
  · refine WP_n 2 rfl ?_
    refine WP_icmpge rfl rfl hf ⟨by omega, by omega⟩ (fun h4 => ?_) (fun h4 => ?_)
    · refine WP_n 1 rfl ?_
      exact WP_zret rfl rfl rfl (Or.inl rfl) ⟨_, rfl, h0 (Or.inr (by omega))⟩
    · refine WP_n 2 rfl ?_
      exact WP_zret rfl rfl rfl (Or.inr rfl) ⟨_, rfl, h1 (by omega) (by omega)⟩
theorem sp_isTeam {P : PP} {d : Nat} {FI A L : Nat → Nat → Int} {X : SX} {Q : Option AV → S2 → Prop} {f : Int} (hf : inR f) (hc : inR (FI 165 0)) (h0 : (f < 0 ∨ FI 165 0 ≤ f) → Q (some (vi 0)) (FI, A, L, X)) (h1 : 0 ≤ f → f < FI 165 0 → Q (some (vi 1)) (FI, A, L, X)) : WP2 P M_G_isTeam d 0 [some (vr 165), some (vi f)] [] (FI, A, L, X) Q := by
  refine WP_n 1 rfl ?_
  refine WP_iflt rfl rfl hf (fun h9 => ?_) (fun h9 => ?_)
  · refine WP_n 1 rfl ?_
    exact WP_zret rfl rfl rfl (Or.inl rfl) ⟨_, rfl, h0 (Or.inl h9)⟩
  · refine WP_n 2 rfl ?_
    refine WP2_getf rfl rfl rfl rfl rfl ?_
    refine WP_icmpge rfl rfl hf hc (fun h5 => ?_) (fun h5 => ?_)
    · refine WP_n 1 rfl ?_
      exact WP_zret rfl rfl rfl (Or.inl rfl) ⟨_, rfl, h0 (Or.inr (by omega))⟩
    · refine WP_n 2 rfl ?_
      exact WP_zret rfl rfl rfl (Or.inr rfl) ⟨_, rfl, h1 (by omega) (by omega)⟩
theorem sp_refuse {P : PP} {d : Nat} {FI A L : Nat → Nat → Int} {X : SX} {Q : Option AV → S2 → Prop} {k : Nat} {z : Int} (hz : z = -(k : Int)) (hk : 1 ≤ k ∧ k ≤ 6) (hq : Q (some (vi z)) (FI, up2 A 164 k (A 164 k + 1), L, X)) : WP2 P M_F_refuse d 0 [some (vr 5), some (vi z)] [] (FI, A, L, X) Q := by
  subst hz
  refine WP_n 1 rfl ?_
  refine WP_ifge rfl rfl ⟨by omega, by omega⟩ (fun h1 => absurd h1 (by omega)) (fun h1 => ?_)
  refine WP_n 3 rfl ?_
  refine WP_icmpgt rfl rfl ⟨by omega, by omega⟩ ⟨by omega, by omega⟩ (fun h5 => absurd h5 (by omega)) (fun h5 => ?_)
  refine WP_n 1 rfl ?_
  refine WP2_getf rfl rfl rfl rfl rfl ?_
  refine WP_n 3 rfl ?_
  refine WP2_iald (j := k) rfl rfl (ia_lit (n := 7) rfl rfl (by omega)) (by omega) (by omega) (by omega) ?_
  refine WP_n 2 rfl ?_
  refine WP2_iast (j := k) rfl rfl (ia_lit (n := 7) rfl rfl (by omega)) (by omega) (by omega) (by omega) ?_
  refine WP_n 1 rfl ?_
  exact WP_iret rfl rfl rfl ⟨_, rfl, hq⟩
theorem sp_no {P : PP} {d : Nat} {FI A L : Nat → Nat → Int} {X : SX} {Q : Option AV → S2 → Prop} {k : Nat} {z : Int} (hz : z = -(k : Int)) (hk : 1 ≤ k ∧ k ≤ 6) (hq : Q (some (vi z)) (FI, up2 A 185 k (A 185 k + 1), L, X)) : WP2 P M_G_no d 0 [some (vr 165), some (vi z)] [] (FI, A, L, X) Q := by
  subst hz
  refine WP_n 1 rfl ?_
  refine WP2_getf rfl rfl rfl rfl rfl ?_
  refine WP_n 3 rfl ?_
  refine WP2_iald (j := k) rfl rfl (ia_lit (n := 7) rfl rfl (by omega)) (by omega) (by omega) (by omega) ?_
  refine WP_n 2 rfl ?_
  refine WP2_iast (j := k) rfl rfl (ia_lit (n := 7) rfl rfl (by omega)) (by omega) (by omega) (by omega) ?_
  refine WP_n 1 rfl ?_
  exact WP_iret rfl rfl rfl ⟨_, rfl, hq⟩
theorem sp_exchange {P : PP} {d : Nat} {FI A L : Nat → Nat → Int} {X : SX} {Q : Option AV → S2 → Prop} {a n j : Nat} {i v : Int} (hA : isIA P X a n) (ha5 : 5 ≤ a) (hj : i = (j : Int)) (hjn : j < n) (hn : n ≤ 1000) (hq : Q (some (vi (A a j))) (FI, up2 A a j v, L, X)) : WP2 P M_F_exchange d 0 [some (vr a), some (vi i), some (vi v), none] [] (FI, A, L, X) Q := by
  subst hj
  refine WP_n 1 rfl ?_
  refine WP_iflt rfl rfl ⟨by omega, by omega⟩ (fun h1 => absurd h1 (by omega)) (fun h1 => ?_)
  refine WP_n 2 rfl ?_
  refine WP2_alen rfl rfl (hA) ?_
  refine WP_icmplt rfl rfl ⟨by omega, by omega⟩ ⟨by omega, by omega⟩ (fun h5 => ?_) (fun h5 => absurd h5 (by omega))
  refine WP_n 2 rfl ?_
  refine WP2_iald (j := j) rfl rfl (hA) (by omega) (by omega) (by omega) ?_
  refine WP_n 4 rfl ?_
  refine WP2_iast (j := j) rfl rfl (hA) (by omega) (by omega) (by omega) ?_
  refine WP_n 1 rfl ?_
  exact WP_iret rfl rfl rfl ⟨_, rfl, hq⟩
theorem sp_holds {P : PP} {d : Nat} {FI A L : Nat → Nat → Int} {X : SX} {Q : Option AV → S2 → Prop} {s k : Nat} (hs : s < 2147483648) (hk : k < 32) (h1 : s.testBit k = true → Q (some (vi 1)) (FI, A, L, X)) (h0 : s.testBit k = false → Q (some (vi 0)) (FI, A, L, X)) : WP2 P M_F_holds d 0 [some (vi (s : Int)), some (vi (k : Int))] [] (FI, A, L, X) Q := by
  refine WP_n 6 rfl ?_
  rw [iBit hk hs, bitN_tb]
  cases hb : s.testBit k
  · refine WP_icmpne rfl rfl ⟨by decide, by decide⟩ ⟨by decide, by decide⟩ (fun h => ?_) (fun h => absurd (by decide) h)
    refine WP_n 1 rfl ?_
    exact WP_zret rfl rfl rfl (Or.inl rfl) ⟨_, rfl, h0 hb⟩
  · refine WP_icmpne rfl rfl ⟨by decide, by decide⟩ ⟨by decide, by decide⟩ (fun h => absurd (by decide) h) (fun h => ?_)
    refine WP_n 2 rfl ?_
    exact WP_zret rfl rfl rfl (Or.inr rfl) ⟨_, rfl, h1 hb⟩
theorem sp_apart {P : PP} {d : Nat} {FI A L : Nat → Nat → Int} {X : SX} {Q : Option AV → S2 → Prop} {x y : Int} (hx : inR x) (hy : inR y) (hq : Q (some (vi (if 0 ≤ x - y then x - y else -(x - y)))) (FI, A, L, X)) : WP2 P M_G_apart d 0 [some (vi x), some (vi y)] [] (FI, A, L, X) Q := by
  refine WP_n 2 rfl ?_
  refine WP_icmpge rfl rfl hx hy (fun h2 => ?_) (fun h2 => ?_)
  · refine WP_n 3 rfl ?_
    refine WP_iret rfl rfl rfl ⟨_, rfl, ?_⟩
    rw [if_pos (by omega)] at hq
    exact hq
  · refine WP_n 4 rfl ?_
    refine WP_iret rfl rfl rfl ⟨_, rfl, ?_⟩
    rw [if_neg (by omega), show -(x - y) = y - x by omega] at hq
    exact hq
theorem sp_bits {P : PP} {d : Nat} {FI A L : Nat → Nat → Int} {X : SX} {Q : Option AV → S2 → Prop} {s : Nat} (hs : s < 2147483648) (hq : Q (some (vi (sumN (fun k => (bitN s k : Int)) 16))) (FI, A, L, X)) : WP2 P M_G_bits d 0 [some (vi (s : Int)), none, none] [] (FI, A, L, X) Q := by
  refine WP_n 4 rfl ?_
  refine up_to (P := fun t => WP2 P M_G_bits d 4 [some (vi (s : Int)), some (vi (sumN (fun k => (bitN s k : Int)) t)), some (vi (t : Int))] [] (FI, A, L, X) Q) 16 ?_ ?_ 0 (by omega)
  · refine WP_n 2 rfl ?_
    refine WP_icmpge rfl rfl ⟨by omega, by omega⟩ ⟨by omega, by omega⟩ (fun h6 => ?_) (fun h6 => absurd h6 (by omega))
    refine WP_n 1 rfl ?_
    exact WP_iret rfl rfl rfl ⟨_, rfl, hq⟩
  · intro t ht ih
    have hb := sumN_bd (f := fun k => (bitN s k : Int)) (lo := 0) (hi := 1) t (fun k _ => ⟨by omega, by have := bitN_le s k; omega⟩)
    refine WP_n 2 rfl ?_
    refine WP_icmpge rfl rfl ⟨by omega, by omega⟩ ⟨by omega, by omega⟩ (fun h => absurd h (by omega)) (fun h => ?_)
    refine WP_n 6 rfl ?_
    rw [iBit (by omega) hs]
    refine WP_n 4 rfl ?_
    exact ih

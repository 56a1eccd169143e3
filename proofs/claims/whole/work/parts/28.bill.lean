/-! bill, both sides -/
theorem cmpI_R (x y : Int) : inR (cmpI x y) := by
  unfold cmpI inR
  split
  · omega
  · split <;> omega
theorem cmpI_gt {x y : Int} : cmpI x y > 0 ↔ y < x := by
  unfold cmpI
  split
  · omega
  · split <;> omega
theorem cmpI_eq {x y : Int} : cmpI x y = 0 ↔ x = y := by
  unfold cmpI
  split
  · omega
  · split <;> omega
theorem sumN_ge {f : Nat → Int} {T : Nat} : ∀ c, (∀ t, t < c → 0 ≤ f t) → T < c → f T ≤ sumN f c
  | 0, _, h => absurd h (by omega)
  | c + 1, h0, h => by
    show f T ≤ sumN f c + f c
    have hc := h0 c (by omega)
    by_cases e : T = c
    · subst e
      have := sumN_bd (f := f) (lo := 0) (hi := sumN f T) 0 (fun k hk => absurd hk (by omega))
      have hs : 0 ≤ sumN f T := by
        have z : ∀ n, (∀ t, t < n → 0 ≤ f t) → 0 ≤ sumN f n := by
          intro n
          induction n with
          | zero => intro _; exact Int.le_refl 0
          | succ n ih => intro hz; have := ih (fun t ht => hz t (by omega)); have := hz n (by omega); show 0 ≤ sumN f n + f n; omega
        exact z T (fun t ht => h0 t (by omega))
      omega
    · have := sumN_ge (f := f) (T := T) c (fun t ht => h0 t (by omega)) (by omega)
      omega
def bAll (pl sz : Nat → Int) (F : Int) (c : Nat) : Int := sumN (fun t => if pl t = F then sz t else 0) c
def bCo (pl sz : Nat → Int) (F pr al : Int) (k : Nat) : Int := sumN (fun u => if pl u = F then pr * sz u / al else 0) k
def bAh (pl sz : Nat → Int) (F pr al : Int) (T k : Nat) : Int := sumN (fun u => if pl u = F ∧ (pr * sz T % al < pr * sz u % al ∨ (pr * sz u % al = pr * sz T % al ∧ u < T)) then 1 else 0) k
def BLv (pl sz : Nat → Int) (F pr al : Int) (c T : Nat) : Int := pr * sz T / al + (if bAh pl sz F pr al T c < pr - bCo pl sz F pr al c then 1 else 0)
theorem bAll_bd {pl sz : Nat → Int} {F : Int} {c T : Nat} (hz : ∀ t, t < c → 1 ≤ sz t ∧ sz t ≤ 60) (hT : T < c) (hF : pl T = F) (hc : c ≤ 16) : 1 ≤ bAll pl sz F c ∧ bAll pl sz F c ≤ 960 := by
  unfold bAll
  have h1 := sumN_ge (f := fun t => if pl t = F then sz t else 0) (T := T) c (fun t ht => by have := hz t ht; split <;> omega) hT
  have h2 := sumN_bd (f := fun t => if pl t = F then sz t else 0) (lo := 0) (hi := 60) c (fun t ht => by have := hz t ht; split <;> omega)
  rw [if_pos hF] at h1
  have := hz T hT
  omega
theorem bq_bd {pr s al : Int} (h1 : 0 ≤ pr) (h2 : pr ≤ 299700) (h3 : 0 ≤ s) (h4 : s ≤ 60) (h5 : 1 ≤ al) : (0 ≤ pr * s ∧ pr * s ≤ 17982000) ∧ (0 ≤ pr * s / al ∧ pr * s / al ≤ 17982000) ∧ (0 ≤ pr * s % al ∧ pr * s % al < al) := by
  have m := mulB h1 h2 h3 h4
  have a1 := Int.ediv_nonneg m.1 (by omega : 0 ≤ al)
  have a2 := Int.ediv_le_self al m.1
  have a3 := Int.emod_nonneg (pr * s) (by omega : al ≠ 0)
  have a4 := Int.emod_lt_of_pos (pr * s) (by omega : 0 < al)
  omega
theorem bCo_bd {pl sz : Nat → Int} {F pr al : Int} (h1 : 0 ≤ pr) (h2 : pr ≤ 299700) (h5 : 1 ≤ al) (k : Nat) (hk : k ≤ 16) (hz : ∀ t, t < k → 1 ≤ sz t ∧ sz t ≤ 60) : 0 ≤ bCo pl sz F pr al k ∧ bCo pl sz F pr al k ≤ 287712000 := by
  unfold bCo
  have h := sumN_bd (f := fun u => if pl u = F then pr * sz u / al else 0) (lo := 0) (hi := 17982000) k (fun t ht => by
    have := hz t ht
    have := bq_bd h1 h2 (by omega : 0 ≤ sz t) (by omega) h5
    split <;> omega)
  omega
theorem bAh_bd {pl sz : Nat → Int} {F pr al : Int} {T : Nat} (k : Nat) (hk : k ≤ 16) : 0 ≤ bAh pl sz F pr al T k ∧ bAh pl sz F pr al T k ≤ 16 := by
  unfold bAh
  have h := sumN_bd (f := fun u => if pl u = F ∧ (pr * sz T % al < pr * sz u % al ∨ (pr * sz u % al = pr * sz T % al ∧ u < T)) then (1 : Int) else 0) (lo := 0) (hi := 1) k (fun t ht => by split <;> omega)
  omega
theorem bCo_T {pl sz : Nat → Int} {F pr al : Int} {u : Nat} (h : pl u = F) : bCo pl sz F pr al (u + 1) = bCo pl sz F pr al u + pr * sz u / al := by
  show bCo pl sz F pr al u + (if _ then _ else _) = _
  rw [if_pos h]
theorem bCo_F {pl sz : Nat → Int} {F pr al : Int} {u : Nat} (h : ¬ pl u = F) : bCo pl sz F pr al (u + 1) = bCo pl sz F pr al u := by
  show bCo pl sz F pr al u + (if _ then _ else _) = _
  rw [if_neg h]
  omega
theorem bAh_T {pl sz : Nat → Int} {F pr al : Int} {T u : Nat} (h : pl u = F ∧ (pr * sz T % al < pr * sz u % al ∨ (pr * sz u % al = pr * sz T % al ∧ u < T))) : bAh pl sz F pr al T (u + 1) = bAh pl sz F pr al T u + 1 := by
  show bAh pl sz F pr al T u + (if _ then _ else _) = _
  rw [if_pos h]
theorem bAh_F {pl sz : Nat → Int} {F pr al : Int} {T u : Nat} (h : ¬ (pl u = F ∧ (pr * sz T % al < pr * sz u % al ∨ (pr * sz u % al = pr * sz T % al ∧ u < T)))) : bAh pl sz F pr al T (u + 1) = bAh pl sz F pr al T u := by
  show bAh pl sz F pr al T u + (if _ then _ else _) = _
  rw [if_neg h]
  omega
theorem BLv_congr {pl sz pl' sz' : Nat → Int} {F pr al : Int} {c T : Nat} (hT : T < c) (h : ∀ t, t < c → pl t = pl' t ∧ sz t = sz' t) : BLv pl sz F pr al c T = BLv pl' sz' F pr al c T := by
  unfold BLv
  have e1 : bCo pl sz F pr al c = bCo pl' sz' F pr al c := sumN_congr c (fun t ht => by rw [(h t ht).1, (h t ht).2])
  have e2 : bAh pl sz F pr al T c = bAh pl' sz' F pr al T c := sumN_congr c (fun t ht => by rw [(h t ht).1, (h t ht).2, (h T hT).2])
  rw [e1, e2, (h T hT).2]
theorem sp_shareOf {P : PP} {d n c : Nat} {FI A L : Nat → Nat → Int} {X : SX} {Q : Option AV → S2 → Prop} (hI : cI n FI A) (hc : FI 6 8 = (c : Int)) {T F : Nat} (hT : T < c) (hF : F < 11) (hpl : A (20 + T) 4 = (F : Int)) (hq : Q (some (vi (BLv (fun t => A (20 + t) 4) (fun t => A (20 + t) 0) (F : Int) (A (8 + F) 0 * A (8 + F) 2) (bAll (fun t => A (20 + t) 4) (fun t => A (20 + t) 0) (F : Int) c) c T))) (FI, A, L, X)) : WP2 P M_H_shareOf (d + 2) 0 [some (vr 6), some (vi (T : Int)), none, none, none, none, none, none, none, none] [] (FI, A, L, X) Q := by
  have hcc := hI.1
  have hsz : ∀ t, t < c → 1 ≤ (fun t => A (20 + t) 0) t ∧ (fun t => A (20 + t) 0) t ≤ 60 := fun t ht => by
    have q := hI.2.2.2.1 t (by omega)
    unfold cTm at q
    show 1 ≤ A (20 + t) 0 ∧ A (20 + t) 0 ≤ 60
    omega
  have hal1 := bAll_bd (pl := (fun t => A (20 + t) 4)) (sz := (fun t => A (20 + t) 0)) (F := (F : Int)) hsz hT hpl (by omega)
  have hfl := hI.2.2.1 F hF
  unfold cFl at hfl
  have hpr := mulB (x := A (8 + F) 0) (y := A (8 + F) 2) (a := 300) (b := 999) (by omega) (by omega) (by omega) (by omega)
  have hqT := hI.2.2.2.1 T (by omega)
  unfold cTm at hqT
  refine WP_n 1 rfl ?_
  refine WP2_getf rfl rfl rfl rfl rfl ?_
  refine WP_n 1 rfl ?_
  refine WP2_aald (b := 20) (j := T) (n := 16) rfl rfl rfl rfl rfl (by omega) (by omega) ?_
  refine WP_n 1 rfl ?_
  refine WP2_iald (j := 4) rfl rfl (ia_tm (by omega)) (by omega) (by omega) (by omega) ?_
  rw [hpl]
  refine WP_n 1 rfl ?_
  refine WP_n 1 rfl ?_
  refine WP2_getf rfl rfl rfl rfl rfl ?_
  refine WP_n 1 rfl ?_
  refine WP2_aald (b := 8) (j := F) (n := 11) rfl rfl rfl rfl rfl (by omega) (by omega) ?_
  refine WP_n 1 rfl ?_
  refine WP2_iald (j := 0) rfl rfl (ia_fl (by omega)) (by omega) (by omega) (by omega) ?_
  refine WP_n 1 rfl ?_
  refine WP2_getf rfl rfl rfl rfl rfl ?_
  refine WP_n 1 rfl ?_
  refine WP2_aald (b := 8) (j := F) (n := 11) rfl rfl rfl rfl rfl (by omega) (by omega) ?_
  refine WP_n 1 rfl ?_
  refine WP2_iald (j := 2) rfl rfl (ia_fl (by omega)) (by omega) (by omega) (by omega) ?_
  refine WP_n 3 rfl ?_
  refine WP2_getf rfl rfl rfl rfl rfl ?_
  refine WP_n 1 rfl ?_
  refine WP2_aald (b := 8) (j := F) (n := 11) rfl rfl rfl rfl rfl (by omega) (by omega) ?_
  refine WP_n 1 rfl ?_
  refine WP2_iald (j := 0) rfl rfl (ia_fl (by omega)) (by omega) (by omega) (by omega) ?_
  refine WP_n 3 rfl ?_
  refine WP2_callV 2 ok_M_H_freeSeats rfl rfl rfl rfl rfl rfl (Nat.le_of_ble_eq_true rfl) (Nat.le_of_ble_eq_true rfl) rfl rfl ?_
  refine sp_freeSeats hI hc (F := F) (s := 0) (by omega) (by omega) ?_
  have hal : A (8 + F) 0 - (A (8 + F) 0 - sumN (fun t => if A (20 + t) 4 = (F : Int) ∧ (0 : Nat).testBit t = false then A (20 + t) 0 else 0) c) = bAll (fun t => A (20 + t) 4) (fun t => A (20 + t) 0) (F : Int) c := by
    rw [show sumN (fun t => if A (20 + t) 4 = (F : Int) ∧ (0 : Nat).testBit t = false then A (20 + t) 0 else 0) c = bAll (fun t => A (20 + t) 4) (fun t => A (20 + t) 0) (F : Int) c from sumN_congr c (fun t ht => by
      by_cases e : A (20 + t) 4 = (F : Int)
      · rw [if_pos e, if_pos ⟨e, by simp⟩]
      · rw [if_neg e, if_neg (fun q => e q.1)])]
    omega
  refine WP_n 1 rfl ?_
  rw [hal]
  clear hal
  generalize bAll (fun t => A (20 + t) 4) (fun t => A (20 + t) 0) (F : Int) c = al at hal1 hq ⊢
  generalize (A (8 + F) 0 * A (8 + F) 2) = pr at hpr hq ⊢
  have hbT := bq_bd (pr := pr) (s := A (20 + T) 0) (al := al) (by omega) (by omega) (by omega) (by omega) (by omega)
  refine WP_n 3 rfl ?_
  refine WP_icmpge rfl rfl ⟨by omega, by omega⟩ ⟨by omega, by omega⟩ (fun h35 => ?_) (fun h35 => absurd h35 (by omega))
  refine WP_n 2 rfl ?_
  refine WP2_getf rfl rfl rfl rfl rfl ?_
  refine WP_n 1 rfl ?_
  refine WP2_aald (b := 20) (j := T) (n := 16) rfl rfl rfl rfl rfl (by omega) (by omega) ?_
  refine WP_n 1 rfl ?_
  refine WP2_iald (j := 0) rfl rfl (ia_tm (by omega)) (by omega) (by omega) (by omega) ?_
  refine WP_n 2 rfl ?_
  refine WP_irem rfl (by omega) (by omega) (by omega) (by omega) rfl ?_
  refine WP_n 7 rfl ?_
  have key : WP2 P M_H_shareOf (d + 2) 55 [some (vr 6), some (vi (T : Int)), some (vi (F : Int)), some (vi pr), some (vi al), some (vi (pr * A (20 + T) 0 % al)), some (vi (pr - bCo (fun t => A (20 + t) 4) (fun t => A (20 + t) 0) (F : Int) pr al 0)), some (vi (bAh (fun t => A (20 + t) 4) (fun t => A (20 + t) 0) (F : Int) pr al T 0)), some (vi ((0 : Nat) : Int)), none] [] (FI, A, L, X) Q := by
    refine up_to (P := fun u => WP2 P M_H_shareOf (d + 2) 55 [some (vr 6), some (vi (T : Int)), some (vi (F : Int)), some (vi pr), some (vi al), some (vi (pr * A (20 + T) 0 % al)), some (vi (pr - bCo (fun t => A (20 + t) 4) (fun t => A (20 + t) 0) (F : Int) pr al u)), some (vi (bAh (fun t => A (20 + t) 4) (fun t => A (20 + t) 0) (F : Int) pr al T u)), some (vi (u : Int)), none] [] (FI, A, L, X) Q) c ?_ ?_ 0 (by omega)
    · have hcu := bCo_bd (pl := (fun t => A (20 + t) 4)) (sz := (fun t => A (20 + t) 0)) (F := (F : Int)) (pr := pr) (al := al) (by omega) (by omega) (by omega) c (by omega) (fun t ht => hsz t (by omega))
      have hau := bAh_bd (pl := (fun t => A (20 + t) 4)) (sz := (fun t => A (20 + t) 0)) (F := (F : Int)) (pr := pr) (al := al) (T := T) c (by omega)
      refine WP_n 2 rfl ?_
      refine WP2_getf rfl rfl rfl rfl rfl ?_
      refine WP_icmpge rfl rfl ⟨by omega, by omega⟩ ⟨by omega, by omega⟩ (fun h58 => ?_) (fun h58 => absurd h58 (by omega))
      refine WP_n 2 rfl ?_
      refine WP2_getf rfl rfl rfl rfl rfl ?_
      refine WP_n 1 rfl ?_
      refine WP2_aald (b := 20) (j := T) (n := 16) rfl rfl rfl rfl rfl (by omega) (by omega) ?_
      refine WP_n 1 rfl ?_
      refine WP2_iald (j := 0) rfl rfl (ia_tm (by omega)) (by omega) (by omega) (by omega) ?_
      refine WP_n 2 rfl ?_
      refine WP_idiv rfl (by omega) (by omega) (by omega) (by omega) rfl ?_
      refine WP_n 2 rfl ?_
      refine WP_icmpge rfl rfl ⟨by omega, by omega⟩ ⟨by omega, by omega⟩ (fun h120 => ?_) (fun h120 => ?_)
      · refine WP_n 2 rfl ?_
        exact WP_iret rfl rfl rfl ⟨_, rfl, (by
          unfold BLv at hq
          rw [if_neg (by omega)] at hq
          exact hq)⟩
      · refine WP_n 3 rfl ?_
        exact WP_iret rfl rfl rfl ⟨_, rfl, (by
          unfold BLv at hq
          rw [if_pos (by omega)] at hq
          exact hq)⟩
    · intro u hu ih
      have hqu := hI.2.2.2.1 u (by omega)
      unfold cTm at hqu
      have hbu := bq_bd (pr := pr) (s := A (20 + u) 0) (al := al) (by omega) (by omega) (by omega) (by omega) (by omega)
      have hcu := bCo_bd (pl := (fun t => A (20 + t) 4)) (sz := (fun t => A (20 + t) 0)) (F := (F : Int)) (pr := pr) (al := al) (by omega) (by omega) (by omega) u (by omega) (fun t ht => hsz t (by omega))
      have hau := bAh_bd (pl := (fun t => A (20 + t) 4)) (sz := (fun t => A (20 + t) 0)) (F := (F : Int)) (pr := pr) (al := al) (T := T) u (by omega)
      refine WP_n 2 rfl ?_
      refine WP2_getf rfl rfl rfl rfl rfl ?_
      refine WP_icmpge rfl rfl ⟨by omega, by omega⟩ ⟨by omega, by omega⟩ (fun h58 => absurd h58 (by omega)) (fun h58 => ?_)
      refine WP_n 1 rfl ?_
      refine WP2_getf rfl rfl rfl rfl rfl ?_
      refine WP_n 1 rfl ?_
      refine WP2_aald (b := 20) (j := u) (n := 16) rfl rfl rfl rfl rfl (by omega) (by omega) ?_
      refine WP_n 1 rfl ?_
      refine WP2_iald (j := 4) rfl rfl (ia_tm (by omega)) (by omega) (by omega) (by omega) ?_
      refine WP_n 1 rfl ?_
      refine WP_icmpne rfl rfl ⟨by omega, by omega⟩ ⟨by omega, by omega⟩ (fun h66 => ?_) (fun h66 => ?_)
      · refine WP_n 2 rfl ?_
        rw [bCo_F (pl := (fun t => A (20 + t) 4)) h66, bAh_F (pl := (fun t => A (20 + t) 4)) (fun q => h66 q.1)] at ih
        exact WP2_kill 9 ih
      · refine WP_n 3 rfl ?_
        refine WP2_getf rfl rfl rfl rfl rfl ?_
        refine WP_n 1 rfl ?_
        refine WP2_aald (b := 20) (j := u) (n := 16) rfl rfl rfl rfl rfl (by omega) (by omega) ?_
        refine WP_n 1 rfl ?_
        refine WP2_iald (j := 0) rfl rfl (ia_tm (by omega)) (by omega) (by omega) (by omega) ?_
        refine WP_n 2 rfl ?_
        refine WP_idiv rfl (by omega) (by omega) (by omega) (by omega) rfl ?_
        refine WP_n 4 rfl ?_
        refine WP2_getf rfl rfl rfl rfl rfl ?_
        refine WP_n 1 rfl ?_
        refine WP2_aald (b := 20) (j := u) (n := 16) rfl rfl rfl rfl rfl (by omega) (by omega) ?_
        refine WP_n 1 rfl ?_
        refine WP2_iald (j := 0) rfl rfl (ia_tm (by omega)) (by omega) (by omega) (by omega) ?_
        refine WP_n 2 rfl ?_
        refine WP_irem rfl (by omega) (by omega) (by omega) (by omega) rfl ?_
        refine WP_n 4 rfl ?_
        refine WP_icmpgt rfl rfl ⟨by omega, by omega⟩ ⟨by omega, by omega⟩ (fun h94 => ?_) (fun h94 => ?_)
        · refine WP_n 6 rfl ?_
          rw [bCo_T (pl := (fun t => A (20 + t) 4)) (show A (20 + u) 4 = (F : Int) by omega), bAh_T (pl := (fun t => A (20 + t) 4)) (sz := (fun t => A (20 + t) 0)) ⟨show A (20 + u) 4 = (F : Int) by omega, Or.inl (show pr * A (20 + T) 0 % al < pr * A (20 + u) 0 % al by omega)⟩, ← Int.sub_sub] at ih
          exact WP2_kill 9 ih
        · refine WP_n 2 rfl ?_
          refine WP_icmpne rfl rfl ⟨by omega, by omega⟩ ⟨by omega, by omega⟩ (fun h97 => ?_) (fun h97 => ?_)
          · refine WP_n 5 rfl ?_
            rw [bCo_T (pl := (fun t => A (20 + t) 4)) (show A (20 + u) 4 = (F : Int) by omega), bAh_F (pl := (fun t => A (20 + t) 4)) (sz := (fun t => A (20 + t) 0)) (fun q => by have q2 : pr * A (20 + T) 0 % al < pr * A (20 + u) 0 % al ∨ (pr * A (20 + u) 0 % al = pr * A (20 + T) 0 % al ∧ u < T) := q.2; omega), ← Int.sub_sub] at ih
            rw [show bAh (fun t => A (20 + t) 4) (fun t => A (20 + t) 0) (F : Int) pr al T u = bAh (fun t => A (20 + t) 4) (fun t => A (20 + t) 0) (F : Int) pr al T u + 0 by omega] at ih
            exact WP2_kill 9 ih
          · refine WP_n 2 rfl ?_
            refine WP_icmpge rfl rfl ⟨by omega, by omega⟩ ⟨by omega, by omega⟩ (fun h100 => ?_) (fun h100 => ?_)
            · refine WP_n 5 rfl ?_
              rw [bCo_T (pl := (fun t => A (20 + t) 4)) (show A (20 + u) 4 = (F : Int) by omega), bAh_F (pl := (fun t => A (20 + t) 4)) (sz := (fun t => A (20 + t) 0)) (fun q => by have q2 : pr * A (20 + T) 0 % al < pr * A (20 + u) 0 % al ∨ (pr * A (20 + u) 0 % al = pr * A (20 + T) 0 % al ∧ u < T) := q.2; omega), ← Int.sub_sub] at ih
              rw [show bAh (fun t => A (20 + t) 4) (fun t => A (20 + t) 0) (F : Int) pr al T u = bAh (fun t => A (20 + t) 4) (fun t => A (20 + t) 0) (F : Int) pr al T u + 0 by omega] at ih
              exact WP2_kill 9 ih
            · refine WP_n 6 rfl ?_
              rw [bCo_T (pl := (fun t => A (20 + t) 4)) (show A (20 + u) 4 = (F : Int) by omega), bAh_T (pl := (fun t => A (20 + t) 4)) (sz := (fun t => A (20 + t) 0)) ⟨show A (20 + u) 4 = (F : Int) by omega, Or.inr (show pr * A (20 + u) 0 % al = pr * A (20 + T) 0 % al ∧ u < T by omega)⟩, ← Int.sub_sub] at ih
              exact WP2_kill 9 ih
  rw [show pr - bCo (fun t => A (20 + t) 4) (fun t => A (20 + t) 0) (F : Int) pr al 0 = pr from Int.sub_zero pr] at key
  exact key
theorem sp_F_bill {P : PP} {d n c : Nat} {FI A L : Nat → Nat → Int} {X : SX} {Q : Option AV → S2 → Prop} (hI : cI n FI A) (hc : FI 6 8 = (c : Int)) {t : Int} (ht : inR t) (r1 : (t < 0 ∨ (c : Int) ≤ t) → Q (some (vi (-1))) (FI, rfC A 1, L, X)) (r0 : ∀ T : Nat, t = (T : Int) ∧ T < c ∧ A (20 + T) 4 = -9 → Q (some (vi 0)) (FI, A, L, X)) (ok : ∀ T F : Nat, t = (T : Int) ∧ T < c ∧ A (20 + T) 4 = (F : Int) ∧ F < 11 → Q (some (vi (BLv (fun t => A (20 + t) 4) (fun t => A (20 + t) 0) (F : Int) (A (8 + F) 0 * A (8 + F) 2) (bAll (fun t => A (20 + t) 4) (fun t => A (20 + t) 0) (F : Int) c) c T))) (FI, A, L, X)) : WP2 P M_F_bill (d + 3) 0 [some (vr 5), some (vi t)] [] (FI, A, L, X) Q := by
  have hcc := hI.1
  refine WP_n 2 rfl ?_
  refine WP2_callV 1 ok_M_F_noTeam rfl rfl rfl rfl rfl rfl (Nat.le_of_ble_eq_true rfl) (Nat.le_of_ble_eq_true rfl) rfl rfl ?_
  refine sp_noTeam ht ⟨by omega, by omega⟩ (fun hTt => ?_) (fun hTt hTtb => ?_)
  · refine WP_ifeq rfl rfl ⟨by decide, by decide⟩  (fun h3 => absurd h3 (by decide)) (fun h3 => ?_)
    refine WP_n 2 rfl ?_
    refine WP2_callV 1 ok_M_F_refuse rfl rfl rfl rfl rfl rfl (Nat.le_of_ble_eq_true rfl) (Nat.le_of_ble_eq_true rfl) rfl rfl ?_
    refine sp_refuse (k := 1) rfl (by omega) ?_
    exact WP_iret rfl rfl rfl ⟨_, rfl, r1 (by omega)⟩
  · refine WP_ifeq rfl rfl ⟨by decide, by decide⟩  (fun h3 => ?_) (fun h3 => absurd (by decide) h3)
    obtain ⟨T, rfl⟩ : ∃ T : Nat, t = (T : Int) := ⟨t.toNat, by omega⟩
    have hqT := hI.2.2.2.1 T (by omega)
    unfold cTm at hqT
    refine WP_n 1 rfl ?_
    refine WP2_getf rfl rfl rfl rfl rfl ?_
    refine WP2_getf rfl rfl rfl rfl rfl ?_
    refine WP_n 1 rfl ?_
    refine WP2_aald (b := 20) (j := T) (n := 16) rfl rfl rfl rfl rfl (by omega) (by omega) ?_
    refine WP_n 1 rfl ?_
    refine WP2_iald (j := 4) rfl rfl (ia_tm (by omega)) (by omega) (by omega) (by omega) ?_
    refine WP_n 1 rfl ?_
    refine WP_icmpne rfl rfl ⟨by omega, by omega⟩ ⟨by omega, by omega⟩ (fun h16 => ?_) (fun h16 => ?_)
    · obtain ⟨F, hF⟩ : ∃ F : Nat, A (20 + T) 4 = (F : Int) := ⟨(A (20 + T) 4).toNat, by omega⟩
      refine WP_n 1 rfl ?_
      refine WP2_getf rfl rfl rfl rfl rfl ?_
      refine WP_n 1 rfl ?_
      refine WP2_callV 1 ok_M_H_shareOf rfl rfl rfl rfl rfl rfl (Nat.le_of_ble_eq_true rfl) (Nat.le_of_ble_eq_true rfl) rfl rfl ?_
      refine sp_shareOf hI hc (T := T) (F := F) (by omega) (by omega) hF ?_
      exact WP_iret rfl rfl rfl ⟨_, rfl, ok T F (by omega)⟩
    · refine WP_n 2 rfl ?_
      exact WP_iret rfl rfl rfl ⟨_, rfl, r0 T (by omega)⟩
theorem sp_part {P : PP} {d : Nat} {FI A L : Nat → Nat → Int} {X : SX} {Q : Option AV → S2 → Prop} {pr al : Int} {K : Nat} (hK : K < 16) (h1 : 0 ≤ pr ∧ pr ≤ 299700) (h2 : 0 ≤ A 170 K ∧ A 170 K ≤ 60) (h3 : 1 ≤ al ∧ al ≤ 960) (hq : Q (some (vi (pr * A 170 K / al))) (FI, A, L, X)) : WP2 P M_G_part (d) 0 [some (vr 165), some (vi pr), some (vi (K : Int)), some (vi al)] [] (FI, A, L, X) Q := by
  have hb := bq_bd (pr := pr) (s := A 170 K) (al := al) (by omega) (by omega) (by omega) (by omega) (by omega)
  refine WP_n 1 rfl ?_
  refine WP_i2l rfl ⟨by omega, by omega⟩ rfl ?_
  refine WP_n 1 rfl ?_
  refine WP2_getf rfl rfl rfl rfl rfl ?_
  refine WP_n 1 rfl ?_
  refine WP2_iald (j := K) rfl rfl (ia_lit (n := 16) rfl rfl (by omega)) (by omega) (by omega) (by omega) ?_
  refine WP_i2l rfl ⟨by omega, by omega⟩ rfl ?_
  refine WP_n 2 rfl ?_
  refine WP_i2l rfl ⟨by omega, by omega⟩ rfl ?_
  refine WP_ldiv rfl (by omega) (by omega) (by omega) (by omega) rfl ?_
  refine WP_n 1 rfl ?_
  exact WP_iret rfl rfl rfl ⟨_, rfl, hq⟩
theorem sp_rest {P : PP} {d : Nat} {FI A L : Nat → Nat → Int} {X : SX} {Q : Option AV → S2 → Prop} {pr al : Int} {K : Nat} (hK : K < 16) (h1 : 0 ≤ pr ∧ pr ≤ 299700) (h2 : 0 ≤ A 170 K ∧ A 170 K ≤ 60) (h3 : 1 ≤ al ∧ al ≤ 960) (hq : Q (some (vl (pr * A 170 K % al))) (FI, A, L, X)) : WP2 P M_G_rest (d) 0 [some (vr 165), some (vi pr), some (vi (K : Int)), some (vi al)] [] (FI, A, L, X) Q := by
  have hb := bq_bd (pr := pr) (s := A 170 K) (al := al) (by omega) (by omega) (by omega) (by omega) (by omega)
  refine WP_n 1 rfl ?_
  refine WP_i2l rfl ⟨by omega, by omega⟩ rfl ?_
  refine WP_n 1 rfl ?_
  refine WP2_getf rfl rfl rfl rfl rfl ?_
  refine WP_n 1 rfl ?_
  refine WP2_iald (j := K) rfl rfl (ia_lit (n := 16) rfl rfl (by omega)) (by omega) (by omega) (by omega) ?_
  refine WP_i2l rfl ⟨by omega, by omega⟩ rfl ?_
  refine WP_n 2 rfl ?_
  refine WP_i2l rfl ⟨by omega, by omega⟩ rfl ?_
  refine WP_lrem rfl (by omega) (by omega) (by omega) (by omega) rfl ?_
  exact WP_lret rfl rfl rfl ⟨_, rfl, hq⟩
theorem sp_G_bill {P : PP} {d n c : Nat} {FI A L : Nat → Nat → Int} {X : SX} {Q : Option AV → S2 → Prop} (hI : mI n FI A) (hc : FI 165 0 = (c : Int)) {t : Int} (ht : inR t) (r1 : (t < 0 ∨ (c : Int) ≤ t) → Q (some (vi (-1))) (FI, rfG A 1, L, X)) (r0 : ∀ T : Nat, t = (T : Int) ∧ T < c ∧ A 174 T = -9 → Q (some (vi 0)) (FI, A, L, X)) (ok : ∀ T F : Nat, t = (T : Int) ∧ T < c ∧ A 174 T = (F : Int) ∧ F < 11 → Q (some (vi (BLv (A 174) (A 170) (F : Int) (A 166 F * A 168 F) (bAll (A 174) (A 170) (F : Int) c) c T))) (FI, A, L, X)) : WP2 P M_G_bill (d + 2) 0 [some (vr 165), some (vi t), none, none, none, none, none, none, none, none, none, none] [] (FI, A, L, X) Q := by
  have hcc := hI.2.1
  refine WP_n 2 rfl ?_
  refine WP2_callV 1 ok_M_G_isTeam rfl rfl rfl rfl rfl rfl (Nat.le_of_ble_eq_true rfl) (Nat.le_of_ble_eq_true rfl) rfl rfl ?_
  refine sp_isTeam ht ⟨by omega, by omega⟩ (fun hTt => ?_) (fun hTt hTtb => ?_)
  · refine WP_ifne rfl rfl ⟨by decide, by decide⟩  (fun h3 => absurd h3 (by decide)) (fun h3 => ?_)
    refine WP_n 2 rfl ?_
    refine WP2_callV 1 ok_M_G_no rfl rfl rfl rfl rfl rfl (Nat.le_of_ble_eq_true rfl) (Nat.le_of_ble_eq_true rfl) rfl rfl ?_
    refine sp_no (k := 1) rfl (by omega) ?_
    exact WP_iret rfl rfl rfl ⟨_, rfl, r1 (by omega)⟩
  · refine WP_ifne rfl rfl ⟨by decide, by decide⟩  (fun h3 => ?_) (fun h3 => absurd (by decide) h3)
    obtain ⟨T, rfl⟩ : ∃ T : Nat, t = (T : Int) := ⟨t.toNat, by omega⟩
    have hqT0 := hI.2.2.2.2.1 T (by omega)
    unfold mTm at hqT0
    refine WP_n 1 rfl ?_
    refine WP2_getf rfl rfl rfl rfl rfl ?_
    refine WP_n 1 rfl ?_
    refine WP2_iald (j := T) rfl rfl (ia_lit (n := 16) rfl rfl (by omega)) (by omega) (by omega) (by omega) ?_
    refine WP_n 3 rfl ?_
    refine WP_icmpne rfl rfl ⟨by omega, by omega⟩ ⟨by omega, by omega⟩ (fun h15 => ?_) (fun h15 => ?_)
    · obtain ⟨F, hF⟩ : ∃ F : Nat, A 174 T = (F : Int) := ⟨(A 174 T).toNat, by omega⟩
      rw [hF]
      have hsz : ∀ t, t < c → 1 ≤ (A 170) t ∧ (A 170) t ≤ 60 := fun t ht => by
        have q := hI.2.2.2.2.1 t (by omega)
        unfold mTm at q
        show 1 ≤ A 170 t ∧ A 170 t ≤ 60
        omega
      have hal1 := bAll_bd (pl := (A 174)) (sz := (A 170)) (F := (F : Int)) hsz (T := T) (by omega) hF (by omega)
      have hfl := hI.2.2.2.1 F (by omega)
      unfold mFl at hfl
      have hpr := mulB (x := A 166 F) (y := A 168 F) (a := 300) (b := 999) (by omega) (by omega) (by omega) (by omega)
      have hqT := hI.2.2.2.2.1 T (by omega)
      unfold mTm at hqT
      refine WP_n 4 rfl ?_
      have hbs : ∀ k, k ≤ c → 0 ≤ bAll (A 174) (A 170) (F : Int) k ∧ bAll (A 174) (A 170) (F : Int) k ≤ 960 := fun k hk => by
        have := sumN_bd (f := fun t => if A 174 t = (F : Int) then A 170 t else 0) (lo := 0) (hi := 60) k (fun t ht => by have := hsz t (by omega); split <;> omega)
        unfold bAll
        omega
      refine up_to (P := fun u => WP2 P M_G_bill (d + 2) 22 [some (vr 165), some (vi (T : Int)), some (vi (F : Int)), some (vi (bAll (A 174) (A 170) (F : Int) u)), some (vi (u : Int)), none, none, none, none, none, none, none] [] (FI, A, L, X) Q) c ?_ ?_ 0 (by omega)
      · refine WP_n 2 rfl ?_
        refine WP2_getf rfl rfl rfl rfl rfl ?_
        refine WP_icmpge rfl rfl ⟨by omega, by omega⟩ ⟨by omega, by omega⟩ (fun h25 => ?_) (fun h25 => absurd h25 (by omega))
        refine WP_n 1 rfl ?_
        refine WP2_getf rfl rfl rfl rfl rfl ?_
        refine WP_n 1 rfl ?_
        refine WP2_iald (j := F) rfl rfl (ia_lit (n := 11) rfl rfl (by omega)) (by omega) (by omega) (by omega) ?_
        refine WP_n 1 rfl ?_
        refine WP2_getf rfl rfl rfl rfl rfl ?_
        refine WP_n 1 rfl ?_
        refine WP2_iald (j := F) rfl rfl (ia_lit (n := 11) rfl rfl (by omega)) (by omega) (by omega) (by omega) ?_
        refine WP_n 1 rfl ?_
        have ok := ok T F (by omega)
        generalize bAll (A 174) (A 170) (F : Int) c = al at hal1 ok ⊢
        generalize (A 166 F * A 168 F) = pr at hpr ok ⊢
        have hbT := bq_bd (pr := pr) (s := A 170 T) (al := al) (by omega) (by omega) (by omega) (by omega) (by omega)
        refine WP_n 7 rfl ?_
        have key : WP2 P M_G_bill (d + 2) 57 [some (vr 165), some (vi (T : Int)), some (vi (F : Int)), some (vi al), some (vi pr), some (vi (pr - bCo (A 174) (A 170) (F : Int) pr al 0)), some (vi (bAh (A 174) (A 170) (F : Int) pr al T 0)), some (vi ((0 : Nat) : Int)), none, none, none, none] [] (FI, A, L, X) Q := by
          refine up_to (P := fun u => WP2 P M_G_bill (d + 2) 57 [some (vr 165), some (vi (T : Int)), some (vi (F : Int)), some (vi al), some (vi pr), some (vi (pr - bCo (A 174) (A 170) (F : Int) pr al u)), some (vi (bAh (A 174) (A 170) (F : Int) pr al T u)), some (vi (u : Int)), none, none, none, none] [] (FI, A, L, X) Q) c ?_ ?_ 0 (by omega)
          · have hcu := bCo_bd (pl := A 174) (sz := A 170) (F := (F : Int)) (pr := pr) (al := al) (by omega) (by omega) (by omega) c (by omega) (fun t ht => hsz t (by omega))
            have hau := bAh_bd (pl := A 174) (sz := A 170) (F := (F : Int)) (pr := pr) (al := al) (T := T) c (by omega)
            refine WP_n 2 rfl ?_
            refine WP2_getf rfl rfl rfl rfl rfl ?_
            refine WP_icmpge rfl rfl ⟨by omega, by omega⟩ ⟨by omega, by omega⟩ (fun h60 => ?_) (fun h60 => absurd h60 (by omega))
            refine WP_n 4 rfl ?_
            refine WP2_callV 3 ok_M_G_part rfl rfl rfl rfl rfl rfl (Nat.le_of_ble_eq_true rfl) (Nat.le_of_ble_eq_true rfl) rfl rfl ?_
            refine sp_part (by omega) (by omega) (by omega) (by omega) ?_
            refine WP_n 2 rfl ?_
            refine WP_icmpge rfl rfl ⟨by omega, by omega⟩ ⟨by omega, by omega⟩ (fun h109 => ?_) (fun h109 => ?_)
            · refine WP_n 2 rfl ?_
              exact WP_iret rfl rfl rfl ⟨_, rfl, (by
                unfold BLv at ok
                rw [if_neg (by omega)] at ok
                exact ok)⟩
            · refine WP_n 3 rfl ?_
              exact WP_iret rfl rfl rfl ⟨_, rfl, (by
                unfold BLv at ok
                rw [if_pos (by omega)] at ok
                exact ok)⟩
          · intro u hu ih
            have hqu := hI.2.2.2.2.1 u (by omega)
            unfold mTm at hqu
            have hbu := bq_bd (pr := pr) (s := A 170 u) (al := al) (by omega) (by omega) (by omega) (by omega) (by omega)
            have hcu := bCo_bd (pl := (A 174)) (sz := (A 170)) (F := (F : Int)) (pr := pr) (al := al) (by omega) (by omega) (by omega) u (by omega) (fun t ht => hsz t (by omega))
            have hau := bAh_bd (pl := (A 174)) (sz := (A 170)) (F := (F : Int)) (pr := pr) (al := al) (T := T) u (by omega)
            refine WP_n 2 rfl ?_
            refine WP2_getf rfl rfl rfl rfl rfl ?_
            refine WP_icmpge rfl rfl ⟨by omega, by omega⟩ ⟨by omega, by omega⟩ (fun h60 => absurd h60 (by omega)) (fun h60 => ?_)
            refine WP_n 1 rfl ?_
            refine WP2_getf rfl rfl rfl rfl rfl ?_
            refine WP_n 1 rfl ?_
            refine WP2_iald (j := u) rfl rfl (ia_lit (n := 16) rfl rfl (by omega)) (by omega) (by omega) (by omega) ?_
            refine WP_n 1 rfl ?_
            refine WP_icmpeq rfl rfl ⟨by omega, by omega⟩ ⟨by omega, by omega⟩ (fun h66 => ?_) (fun h66 => ?_)
            · refine WP_n 5 rfl ?_
              refine WP2_callV 3 ok_M_G_part rfl rfl rfl rfl rfl rfl (Nat.le_of_ble_eq_true rfl) (Nat.le_of_ble_eq_true rfl) rfl rfl ?_
              refine sp_part (by omega) (by omega) (by omega) (by omega) ?_
              refine WP_n 6 rfl ?_
              refine WP2_callV 3 ok_M_G_rest rfl rfl rfl rfl rfl rfl (Nat.le_of_ble_eq_true rfl) (Nat.le_of_ble_eq_true rfl) rfl rfl ?_
              refine sp_rest (by omega) (by omega) (by omega) (by omega) ?_
              refine WP_n 5 rfl ?_
              refine WP2_callV 3 ok_M_G_rest rfl rfl rfl rfl rfl rfl (Nat.le_of_ble_eq_true rfl) (Nat.le_of_ble_eq_true rfl) rfl rfl ?_
              refine sp_rest (by omega) (by omega) (by omega) (by omega) ?_
              refine WP_n 3 rfl ?_
              refine WP_lcmp rfl ⟨by omega, by omega⟩ ⟨by omega, by omega⟩ rfl ?_
              refine WP_ifgt rfl rfl (cmpI_R _ _) (fun h91 => ?_) (fun h91 => ?_)
              · refine WP_n 3 rfl ?_
                have q91 := cmpI_gt.mp h91
                rw [bCo_T (pl := A 174) (by omega), bAh_T (pl := A 174) (sz := A 170) ⟨by omega, Or.inl (by omega)⟩, ← Int.sub_sub] at ih
                exact WP2_kill 8 (WP2_kill 10 ih)
              · refine WP_n 2 rfl ?_
                refine WP_lcmp rfl ⟨by omega, by omega⟩ ⟨by omega, by omega⟩ rfl ?_
                refine WP_ifne rfl rfl (cmpI_R _ _) (fun h95 => ?_) (fun h95 => ?_)
                · refine WP_n 2 rfl ?_
                  have q91 : ¬ (pr * A 170 T % al < pr * A 170 u % al) := fun q => h91 (cmpI_gt.mpr q)
                  have q95 : ¬ (pr * A 170 u % al = pr * A 170 T % al) := fun q => h95 (cmpI_eq.mpr q)
                  rw [bCo_T (pl := A 174) (by omega), bAh_F (pl := A 174) (sz := A 170) (fun q => by have q2 := q.2; omega), ← Int.sub_sub] at ih
                  exact WP2_kill 8 (WP2_kill 10 ih)
                · refine WP_n 2 rfl ?_
                  refine WP_icmpge rfl rfl ⟨by omega, by omega⟩ ⟨by omega, by omega⟩ (fun h98 => ?_) (fun h98 => ?_)
                  · refine WP_n 2 rfl ?_
                    have q91 : ¬ (pr * A 170 T % al < pr * A 170 u % al) := fun q => h91 (cmpI_gt.mpr q)
                    have q95 := cmpI_eq.mp (by omega : cmpI (pr * A 170 u % al) (pr * A 170 T % al) = 0)
                    rw [bCo_T (pl := A 174) (by omega), bAh_F (pl := A 174) (sz := A 170) (fun q => by have q2 := q.2; omega), ← Int.sub_sub] at ih
                    exact WP2_kill 8 (WP2_kill 10 ih)
                  · refine WP_n 3 rfl ?_
                    have q91 : ¬ (pr * A 170 T % al < pr * A 170 u % al) := fun q => h91 (cmpI_gt.mpr q)
                    have q95 := cmpI_eq.mp (by omega : cmpI (pr * A 170 u % al) (pr * A 170 T % al) = 0)
                    rw [bCo_T (pl := A 174) (by omega), bAh_T (pl := A 174) (sz := A 170) ⟨by omega, Or.inr (by omega)⟩, ← Int.sub_sub] at ih
                    exact WP2_kill 8 (WP2_kill 10 ih)
            · refine WP_n 3 rfl ?_
              rw [bCo_F (pl := A 174) (by omega), bAh_F (pl := A 174) (fun q => absurd q.1 (by omega))] at ih
              exact ih
        rw [show pr - bCo (A 174) (A 170) (F : Int) pr al 0 = pr from Int.sub_zero pr] at key
        exact key
      · intro u hu ih
        have hqu := hI.2.2.2.2.1 u (by omega)
        unfold mTm at hqu
        have hb := hbs u (by omega)
        refine WP_n 2 rfl ?_
        refine WP2_getf rfl rfl rfl rfl rfl ?_
        refine WP_icmpge rfl rfl ⟨by omega, by omega⟩ ⟨by omega, by omega⟩ (fun h25 => absurd h25 (by omega)) (fun h25 => ?_)
        refine WP_n 1 rfl ?_
        refine WP2_getf rfl rfl rfl rfl rfl ?_
        refine WP_n 1 rfl ?_
        refine WP2_iald (j := u) rfl rfl (ia_lit (n := 16) rfl rfl (by omega)) (by omega) (by omega) (by omega) ?_
        refine WP_n 1 rfl ?_
        refine WP_icmpne rfl rfl ⟨by omega, by omega⟩ ⟨by omega, by omega⟩ (fun h31 => ?_) (fun h31 => ?_)
        · refine WP_n 2 rfl ?_
          have e : bAll (A 174) (A 170) (F : Int) (u + 1) = bAll (A 174) (A 170) (F : Int) u := by
            show bAll (A 174) (A 170) (F : Int) u + (if _ then _ else _) = _
            rw [if_neg h31]
            omega
          rw [e] at ih
          exact ih
        · refine WP_n 2 rfl ?_
          refine WP2_getf rfl rfl rfl rfl rfl ?_
          refine WP_n 1 rfl ?_
          refine WP2_iald (j := u) rfl rfl (ia_lit (n := 16) rfl rfl (by omega)) (by omega) (by omega) (by omega) ?_
          refine WP_n 4 rfl ?_
          have e : bAll (A 174) (A 170) (F : Int) (u + 1) = bAll (A 174) (A 170) (F : Int) u + A 170 u := by
            show bAll (A 174) (A 170) (F : Int) u + (if _ then _ else _) = _
            rw [if_pos (by omega)]
          rw [e] at ih
          exact ih
    · refine WP_n 1 rfl ?_
      exact WP_iret rfl rfl rfl ⟨_, rfl, r0 T (by omega)⟩
theorem pr_bill {P : PP} {n : Nat} {FI A L : Nat → Nat → Int} {X : SX} (h : INV P n FI A X) (hn : n < 512) {t : Int} (ht : inR t) : PAIR P n (FI, A, L, X) M_F_bill [some (vr 5), some (vi t)] M_G_bill [some (vr 165), some (vi t), none, none, none, none, none, none, none, none, none, none] := by
  intro d
  have hm := h.mI
  have hn5 := h.1
  have hcI := h.2.1
  have hG := h.2.2.1
  have hk1 := hcI.1
  have g1 := hG.1
  obtain ⟨c, hc⟩ : ∃ c : Nat, FI 6 8 = (c : Int) := ⟨(FI 6 8).toNat, by omega⟩
  have hc2 : FI 165 0 = (c : Int) := by rw [g1]; exact hc
  refine sp_F_bill hcI hc ht (fun c1 => ?_) (fun T c1 => ?_) (fun T F c1 => ?_)
  · refine ⟨_, rfl, ?_⟩
    refine sp_G_bill (hm.up (by omega)) hc2 ht (fun c2 => ?_) (fun T' c2 => ?_) (fun T' F' c2 => ?_)
    · exact ⟨rfl, INV_ref h hn (by omega)⟩
    · exfalso; omega
    · exfalso; omega
  · refine ⟨_, rfl, ?_⟩
    have q := hG.2.2.2.1 T (by omega)
    unfold gTm at q
    refine sp_G_bill hm hc2 ht (fun c2 => ?_) (fun T' c2 => ?_) (fun T' F' c2 => ?_)
    · exfalso; omega
    · exact ⟨rfl, h.next hn⟩
    · obtain rfl : T = T' := by omega
      exfalso; omega
  · refine ⟨_, rfl, ?_⟩
    have q := hG.2.2.2.1 T (by omega)
    unfold gTm at q
    refine sp_G_bill hm hc2 ht (fun c2 => ?_) (fun T' c2 => ?_) (fun T' F' c2 => ?_)
    · exfalso; omega
    · obtain rfl : T = T' := by omega
      exfalso; omega
    · obtain rfl : T = T' := by omega
      obtain rfl : F = F' := by omega
      have ht9 : ∀ t, t < c → A 174 t = A (20 + t) 4 ∧ A 170 t = A (20 + t) 0 := fun t ht => by
        have r := hG.2.2.2.1 t (by omega)
        unfold gTm at r
        omega
      have gf := hG.2.2.1 F (by omega)
      unfold gFl at gf
      have ea : bAll (A 174) (A 170) (F : Int) c = bAll (fun t => A (20 + t) 4) (fun t => A (20 + t) 0) (F : Int) c := sumN_congr c (fun t ht => by rw [(ht9 t ht).1, (ht9 t ht).2])
      refine ⟨congrArg (fun z => some (vi z)) ?_, h.next hn⟩
      rw [ea, gf.1, gf.2.2.1]
      exact BLv_congr (by omega) ht9

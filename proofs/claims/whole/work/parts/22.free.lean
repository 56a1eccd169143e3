/-! count and free, both sides -/
theorem sumN_split (p : Nat → Prop) [DecidablePred p] : ∀ n, sumN (fun t => if p t then (1 : Int) else 0) n + sumN (fun t => if p t then (0 : Int) else 1) n = n
  | 0 => rfl
  | n + 1 => by
    have ih := sumN_split p n
    show sumN _ n + _ + (sumN _ n + _) = _
    dsimp only
    by_cases h : p n
    · rw [if_pos h, if_pos h]; omega
    · rw [if_neg h, if_neg h]; omega
theorem sp_G_count {P : PP} {d n c : Nat} {FI A L : Nat → Nat → Int} {X : SX} {Q : Option AV → S2 → Prop} (hI : mI n FI A) (hc : FI 165 0 = (c : Int)) {w : Int} (hw : inR w) (q0 : w = 0 → Q (some (vi (FI 165 0))) (FI, A, L, X)) (q1 : w = 1 → Q (some (vi (sumN (fun t => if A 174 t = -9 then (0 : Int) else 1) c))) (FI, A, L, X)) (q2 : w = 2 → Q (some (vi (sumN (fun t => if A 178 t = 0 then (0 : Int) else 1) c))) (FI, A, L, X)) (q3 : w = 3 → Q (some (vi (sumN (fun a => sumN (fun b => A 180 (16 * a + b)) a) c))) (FI, A, L, X)) (q4 : w = 4 → Q (some (vi (sumN (fun a => sumN (fun b => A 181 (16 * a + b)) a) c))) (FI, A, L, X)) (q5 : w = 5 → Q (some (vi (sumN (fun t => if A 175 t = -9 then (0 : Int) else 1) c))) (FI, A, L, X)) (q6 : w = 6 → Q (some (vi (sumN (fun t => A 176 t) c))) (FI, A, L, X)) (qr : ∀ k : Nat, w = (k : Int) + 10 ∧ 1 ≤ k ∧ k < 7 → Q (some (vi (A 185 k))) (FI, A, L, X)) (qn : (w < 0 ∨ 6 < w) ∧ ¬ (10 < w ∧ w ≤ 16) → Q (some (vi (-9))) (FI, A, L, X)) : WP2 P M_G_count (d + 1) 0 [some (vr 165), some (vi w), none, none] [] (FI, A, L, X) Q := by
  have hcc := hI.2.1
  obtain ⟨lw, uw⟩ := id hw
  by_cases hr : 10 < w ∧ w ≤ 16
  · obtain ⟨k, hk⟩ : ∃ k : Nat, w = (k : Int) + 10 := ⟨(w - 10).toNat, by omega⟩
    refine WP_n 2 rfl ?_
    refine WP_icmple rfl rfl ⟨by omega, by omega⟩ ⟨by omega, by omega⟩ (fun h2 => absurd h2 (by omega)) (fun h2 => ?_)
    refine WP_n 2 rfl ?_
    refine WP_icmpge rfl rfl ⟨by omega, by omega⟩ ⟨by omega, by omega⟩ (fun h5 => absurd h5 (by omega)) (fun h5 => ?_)
    refine WP_n 1 rfl ?_
    refine WP2_getf rfl rfl rfl rfl rfl ?_
    refine WP_n 3 rfl ?_
    refine WP2_iald (j := k) rfl rfl (ia_lit (n := 7) rfl rfl (by omega)) (by omega) (by omega) (by omega) ?_
    exact WP_iret rfl rfl rfl ⟨_, rfl, qr k (by omega)⟩
  · by_cases hs : 0 ≤ w ∧ w ≤ 6
    · rcases (show w = 0 ∨ w = 1 ∨ w = 2 ∨ w = 3 ∨ w = 4 ∨ w = 5 ∨ w = 6 by omega) with rfl | rfl | rfl | rfl | rfl | rfl | rfl
      · refine WP_n 2 rfl ?_
        refine WP_icmple rfl rfl ⟨by decide, by decide⟩ ⟨by decide, by decide⟩  (fun h2 => ?_) (fun h2 => absurd (by decide) h2)
        refine WP_n 3 rfl ?_
        refine WP_tsIn (tgt := 17) rfl rfl ⟨by decide, by decide⟩ (by decide) (by decide) rfl rfl ?_
        refine WP_n 1 rfl ?_
        refine WP2_getf rfl rfl rfl rfl rfl ?_
        exact WP_iret rfl rfl rfl ⟨_, rfl, q0 rfl⟩
      · refine WP_n 2 rfl ?_
        refine WP_icmple rfl rfl ⟨by decide, by decide⟩ ⟨by decide, by decide⟩  (fun h2 => ?_) (fun h2 => absurd (by decide) h2)
        refine WP_n 3 rfl ?_
        refine WP_tsIn (tgt := 20) rfl rfl ⟨by decide, by decide⟩ (by decide) (by decide) rfl rfl ?_
        refine WP_n 2 rfl ?_
        refine up_to (P := fun t => WP2 P M_G_count (d + 1) 22 [some (vr 165), some (vi 1), some (vi (sumN (fun t => if A 174 t = -9 then (0 : Int) else 1) t)), some (vi (t : Int))] [] (FI, A, L, X) Q) c ?_ ?_ 0 (by omega)
        · refine WP_n 2 rfl ?_
          refine WP2_getf rfl rfl rfl rfl rfl ?_
          refine WP_icmpge rfl rfl ⟨by omega, by omega⟩ ⟨by omega, by omega⟩ (fun h25 => ?_) (fun h25 => absurd h25 (by omega))
          refine WP_n 1 rfl ?_
          exact WP_iret rfl rfl rfl ⟨_, rfl, q1 rfl⟩
        · intro t ht ih
          have hq := hI.2.2.2.2.1 t (by omega)
          unfold mTm at hq
          have hb := sumN_bd (f := (fun t => if A 174 t = -9 then (0 : Int) else 1)) (lo := 0) (hi := 1) t (fun k hk => by split <;> omega)
          refine WP_n 2 rfl ?_
          refine WP2_getf rfl rfl rfl rfl rfl ?_
          refine WP_icmpge rfl rfl ⟨by omega, by omega⟩ ⟨by omega, by omega⟩ (fun h25 => absurd h25 (by omega)) (fun h25 => ?_)
          refine WP_n 1 rfl ?_
          refine WP2_getf rfl rfl rfl rfl rfl ?_
          refine WP_n 1 rfl ?_
          refine WP2_iald (j := t) rfl rfl (ia_lit (n := 16) rfl rfl (by omega)) (by omega) (by omega) (by omega) ?_
          refine WP_n 1 rfl ?_
          refine WP_icmpeq rfl rfl ⟨by omega, by omega⟩ ⟨by omega, by omega⟩ (fun h31 => ?_) (fun h31 => ?_)
          · refine WP_n 2 rfl ?_
            have e : sumN (fun t => if A 174 t = -9 then (0 : Int) else 1) (t + 1) = sumN (fun t => if A 174 t = -9 then (0 : Int) else 1) t := by
              show sumN (fun t => if A 174 t = -9 then (0 : Int) else 1) t + (if _ then _ else _) = _
              rw [if_pos h31]
              omega
            rw [e] at ih
            exact ih
          · refine WP_n 3 rfl ?_
            have e : sumN (fun t => if A 174 t = -9 then (0 : Int) else 1) (t + 1) = sumN (fun t => if A 174 t = -9 then (0 : Int) else 1) t + 1 := by
              show sumN (fun t => if A 174 t = -9 then (0 : Int) else 1) t + (if _ then _ else _) = _
              rw [if_neg h31]
            rw [e] at ih
            exact ih
      · refine WP_n 2 rfl ?_
        refine WP_icmple rfl rfl ⟨by decide, by decide⟩ ⟨by decide, by decide⟩  (fun h2 => ?_) (fun h2 => absurd (by decide) h2)
        refine WP_n 3 rfl ?_
        refine WP_tsIn (tgt := 37) rfl rfl ⟨by decide, by decide⟩ (by decide) (by decide) rfl rfl ?_
        refine WP_n 2 rfl ?_
        refine up_to (P := fun t => WP2 P M_G_count (d + 1) 39 [some (vr 165), some (vi 2), some (vi (sumN (fun t => if A 178 t = 0 then (0 : Int) else 1) t)), some (vi (t : Int))] [] (FI, A, L, X) Q) c ?_ ?_ 0 (by omega)
        · refine WP_n 2 rfl ?_
          refine WP2_getf rfl rfl rfl rfl rfl ?_
          refine WP_icmpge rfl rfl ⟨by omega, by omega⟩ ⟨by omega, by omega⟩ (fun h42 => ?_) (fun h42 => absurd h42 (by omega))
          refine WP_n 1 rfl ?_
          exact WP_iret rfl rfl rfl ⟨_, rfl, q2 rfl⟩
        · intro t ht ih
          have hq := hI.2.2.2.2.1 t (by omega)
          unfold mTm at hq
          have hb := sumN_bd (f := (fun t => if A 178 t = 0 then (0 : Int) else 1)) (lo := 0) (hi := 1) t (fun k hk => by split <;> omega)
          refine WP_n 2 rfl ?_
          refine WP2_getf rfl rfl rfl rfl rfl ?_
          refine WP_icmpge rfl rfl ⟨by omega, by omega⟩ ⟨by omega, by omega⟩ (fun h42 => absurd h42 (by omega)) (fun h42 => ?_)
          refine WP_n 1 rfl ?_
          refine WP2_getf rfl rfl rfl rfl rfl ?_
          refine WP_n 1 rfl ?_
          refine WP2_zald (j := t) rfl rfl rfl (by omega) (by omega) ?_
          refine WP_ifeq rfl rfl ⟨by omega, by omega⟩ (fun h47 => ?_) (fun h47 => ?_)
          · refine WP_n 2 rfl ?_
            have e : sumN (fun t => if A 178 t = 0 then (0 : Int) else 1) (t + 1) = sumN (fun t => if A 178 t = 0 then (0 : Int) else 1) t := by
              show sumN (fun t => if A 178 t = 0 then (0 : Int) else 1) t + (if _ then _ else _) = _
              rw [if_pos h47]
              omega
            rw [e] at ih
            exact ih
          · refine WP_n 3 rfl ?_
            have e : sumN (fun t => if A 178 t = 0 then (0 : Int) else 1) (t + 1) = sumN (fun t => if A 178 t = 0 then (0 : Int) else 1) t + 1 := by
              show sumN (fun t => if A 178 t = 0 then (0 : Int) else 1) t + (if _ then _ else _) = _
              rw [if_neg h47]
            rw [e] at ih
            exact ih
      · refine WP_n 2 rfl ?_
        refine WP_icmple rfl rfl ⟨by decide, by decide⟩ ⟨by decide, by decide⟩  (fun h2 => ?_) (fun h2 => absurd (by decide) h2)
        refine WP_n 3 rfl ?_
        refine WP_tsIn (tgt := 53) rfl rfl ⟨by decide, by decide⟩ (by decide) (by decide) rfl rfl ?_
        refine WP_n 2 rfl ?_
        refine WP2_getf rfl rfl rfl rfl rfl ?_
        refine WP2_callV 1 ok_M_G_twos rfl rfl rfl rfl rfl rfl (Nat.le_of_ble_eq_true rfl) (Nat.le_of_ble_eq_true rfl) rfl rfl ?_
        refine sp_G_twos hI hc (B := 180) (by omega) (ia_lit (n := 256) rfl rfl (by omega)) (fun j hj => by have hq := hI.2.2.2.2.2.1 j hj; unfold mTw at hq; omega) ?_
        exact WP_iret rfl rfl rfl ⟨_, rfl, q3 rfl⟩
      · refine WP_n 2 rfl ?_
        refine WP_icmple rfl rfl ⟨by decide, by decide⟩ ⟨by decide, by decide⟩  (fun h2 => ?_) (fun h2 => absurd (by decide) h2)
        refine WP_n 3 rfl ?_
        refine WP_tsIn (tgt := 58) rfl rfl ⟨by decide, by decide⟩ (by decide) (by decide) rfl rfl ?_
        refine WP_n 2 rfl ?_
        refine WP2_getf rfl rfl rfl rfl rfl ?_
        refine WP2_callV 1 ok_M_G_twos rfl rfl rfl rfl rfl rfl (Nat.le_of_ble_eq_true rfl) (Nat.le_of_ble_eq_true rfl) rfl rfl ?_
        refine sp_G_twos hI hc (B := 181) (by omega) (ia_lit (n := 256) rfl rfl (by omega)) (fun j hj => by have hq := hI.2.2.2.2.2.1 j hj; unfold mTw at hq; omega) ?_
        exact WP_iret rfl rfl rfl ⟨_, rfl, q4 rfl⟩
      · refine WP_n 2 rfl ?_
        refine WP_icmple rfl rfl ⟨by decide, by decide⟩ ⟨by decide, by decide⟩  (fun h2 => ?_) (fun h2 => absurd (by decide) h2)
        refine WP_n 3 rfl ?_
        refine WP_tsIn (tgt := 63) rfl rfl ⟨by decide, by decide⟩ (by decide) (by decide) rfl rfl ?_
        refine WP_n 2 rfl ?_
        refine up_to (P := fun t => WP2 P M_G_count (d + 1) 65 [some (vr 165), some (vi 5), some (vi (sumN (fun t => if A 175 t = -9 then (0 : Int) else 1) t)), some (vi (t : Int))] [] (FI, A, L, X) Q) c ?_ ?_ 0 (by omega)
        · refine WP_n 2 rfl ?_
          refine WP2_getf rfl rfl rfl rfl rfl ?_
          refine WP_icmpge rfl rfl ⟨by omega, by omega⟩ ⟨by omega, by omega⟩ (fun h68 => ?_) (fun h68 => absurd h68 (by omega))
          refine WP_n 1 rfl ?_
          exact WP_iret rfl rfl rfl ⟨_, rfl, q5 rfl⟩
        · intro t ht ih
          have hq := hI.2.2.2.2.1 t (by omega)
          unfold mTm at hq
          have hb := sumN_bd (f := (fun t => if A 175 t = -9 then (0 : Int) else 1)) (lo := 0) (hi := 1) t (fun k hk => by split <;> omega)
          refine WP_n 2 rfl ?_
          refine WP2_getf rfl rfl rfl rfl rfl ?_
          refine WP_icmpge rfl rfl ⟨by omega, by omega⟩ ⟨by omega, by omega⟩ (fun h68 => absurd h68 (by omega)) (fun h68 => ?_)
          refine WP_n 1 rfl ?_
          refine WP2_getf rfl rfl rfl rfl rfl ?_
          refine WP_n 1 rfl ?_
          refine WP2_iald (j := t) rfl rfl (ia_lit (n := 16) rfl rfl (by omega)) (by omega) (by omega) (by omega) ?_
          refine WP_n 1 rfl ?_
          refine WP_icmpeq rfl rfl ⟨by omega, by omega⟩ ⟨by omega, by omega⟩ (fun h74 => ?_) (fun h74 => ?_)
          · refine WP_n 2 rfl ?_
            have e : sumN (fun t => if A 175 t = -9 then (0 : Int) else 1) (t + 1) = sumN (fun t => if A 175 t = -9 then (0 : Int) else 1) t := by
              show sumN (fun t => if A 175 t = -9 then (0 : Int) else 1) t + (if _ then _ else _) = _
              rw [if_pos h74]
              omega
            rw [e] at ih
            exact ih
          · refine WP_n 3 rfl ?_
            have e : sumN (fun t => if A 175 t = -9 then (0 : Int) else 1) (t + 1) = sumN (fun t => if A 175 t = -9 then (0 : Int) else 1) t + 1 := by
              show sumN (fun t => if A 175 t = -9 then (0 : Int) else 1) t + (if _ then _ else _) = _
              rw [if_neg h74]
            rw [e] at ih
            exact ih
      · refine WP_n 2 rfl ?_
        refine WP_icmple rfl rfl ⟨by decide, by decide⟩ ⟨by decide, by decide⟩  (fun h2 => ?_) (fun h2 => absurd (by decide) h2)
        refine WP_n 3 rfl ?_
        refine WP_tsIn (tgt := 80) rfl rfl ⟨by decide, by decide⟩ (by decide) (by decide) rfl rfl ?_
        refine WP_n 2 rfl ?_
        refine up_to (P := fun t => WP2 P M_G_count (d + 1) 82 [some (vr 165), some (vi 6), some (vi (sumN (fun t => A 176 t) t)), some (vi (t : Int))] [] (FI, A, L, X) Q) c ?_ ?_ 0 (by omega)
        · refine WP_n 2 rfl ?_
          refine WP2_getf rfl rfl rfl rfl rfl ?_
          refine WP_icmpge rfl rfl ⟨by omega, by omega⟩ ⟨by omega, by omega⟩ (fun h85 => ?_) (fun h85 => absurd h85 (by omega))
          refine WP_n 1 rfl ?_
          exact WP_iret rfl rfl rfl ⟨_, rfl, q6 rfl⟩
        · intro t ht ih
          refine WP_n 2 rfl ?_
          refine WP2_getf rfl rfl rfl rfl rfl ?_
          refine WP_icmpge rfl rfl ⟨by omega, by omega⟩ ⟨by omega, by omega⟩ (fun h85 => absurd h85 (by omega)) (fun h85 => ?_)
          refine WP_n 2 rfl ?_
          refine WP2_getf rfl rfl rfl rfl rfl ?_
          refine WP_n 1 rfl ?_
          refine WP2_iald (j := t) rfl rfl (ia_lit (n := 16) rfl rfl (by omega)) (by omega) (by omega) (by omega) ?_
          refine WP_n 4 rfl ?_
          exact ih
    · refine WP_n 2 rfl ?_
      refine WP_icmple rfl rfl ⟨by omega, by omega⟩ ⟨by omega, by omega⟩ (fun h2 => ?_) (fun h2 => ?_)
      · refine WP_n 3 rfl ?_
        refine WP_tsOut (tgt := 97) rfl rfl ⟨by omega, by omega⟩ (by omega) rfl ?_
        refine WP_n 1 rfl ?_
        exact WP_iret rfl rfl rfl ⟨_, rfl, qn (by omega)⟩
      · refine WP_n 2 rfl ?_
        refine WP_icmpge rfl rfl ⟨by omega, by omega⟩ ⟨by omega, by omega⟩ (fun h5 => ?_) (fun h5 => absurd h5 (by omega))
        refine WP_n 3 rfl ?_
        refine WP_tsOut (tgt := 97) rfl rfl ⟨by omega, by omega⟩ (by omega) rfl ?_
        refine WP_n 1 rfl ?_
        exact WP_iret rfl rfl rfl ⟨_, rfl, qn (by omega)⟩
theorem pr_count {P : PP} {n : Nat} {FI A L : Nat → Nat → Int} {X : SX} (h : INV P n FI A X) (hn : n < 512) {w : Int} (hw : inR w) : PAIR P n (FI, A, L, X) M_F_count [some (vr 5), some (vi w)] M_G_count [some (vr 165), some (vi w), none, none] := by
  intro d
  have hm := h.mI
  have hcI := h.2.1
  have hk1 := hcI.1
  have g1 := h.2.2.1.1
  obtain ⟨c, hc⟩ : ∃ c : Nat, FI 6 8 = (c : Int) := ⟨(FI 6 8).toNat, by omega⟩
  have hc2 : FI 165 0 = (c : Int) := by rw [g1]; exact hc
  have gt := fun t (ht : t < c) => h.2.2.1.2.2.2.1 t (by omega)
  have ct := fun t (ht : t < c) => hcI.2.2.2.1 t (by omega)
  refine sp_F_count hcI hc hw (fun c1 => ?_) (fun c1 => ?_) (fun c1 => ?_) (fun c1 => ?_) (fun c1 => ?_) (fun c1 => ?_) (fun c1 => ?_) (fun k c1 => ?_) (fun c1 => ?_)
  · refine ⟨_, rfl, ?_⟩
    refine sp_G_count hm hc2 hw (fun c2 => ?_) (fun c2 => ?_) (fun c2 => ?_) (fun c2 => ?_) (fun c2 => ?_) (fun c2 => ?_) (fun c2 => ?_) (fun k' c2 => ?_) (fun c2 => ?_)
    · exact ⟨by rw [g1], h.next hn⟩
    · exfalso; omega
    · exfalso; omega
    · exfalso; omega
    · exfalso; omega
    · exfalso; omega
    · exfalso; omega
    · exfalso; omega
    · exfalso; omega
  · refine ⟨_, rfl, ?_⟩
    refine sp_G_count hm hc2 hw (fun c2 => ?_) (fun c2 => ?_) (fun c2 => ?_) (fun c2 => ?_) (fun c2 => ?_) (fun c2 => ?_) (fun c2 => ?_) (fun k' c2 => ?_) (fun c2 => ?_)
    · exfalso; omega
    · have e := sumN_split (fun t => A (20 + t) 4 = -9) c
      have e2 : sumN (fun t => if A 174 t = -9 then (0 : Int) else 1) c = sumN (fun t => if A (20 + t) 4 = -9 then (0 : Int) else 1) c := sumN_congr c (fun t ht => by have q := gt t ht; unfold gTm at q; rw [show A 174 t = A (20 + t) 4 by omega])
      refine ⟨congrArg (fun z => some (vi z)) ?_, h.next hn⟩
      omega
    · exfalso; omega
    · exfalso; omega
    · exfalso; omega
    · exfalso; omega
    · exfalso; omega
    · exfalso; omega
    · exfalso; omega
  · refine ⟨_, rfl, ?_⟩
    refine sp_G_count hm hc2 hw (fun c2 => ?_) (fun c2 => ?_) (fun c2 => ?_) (fun c2 => ?_) (fun c2 => ?_) (fun c2 => ?_) (fun c2 => ?_) (fun k' c2 => ?_) (fun c2 => ?_)
    · exfalso; omega
    · exfalso; omega
    · have e2 : sumN (fun t => if A 178 t = 0 then (0 : Int) else 1) c = sumN (fun t => if A (20 + t) 5 = 1 then (1 : Int) else 0) c := sumN_congr c (fun t ht => by have q := gt t ht; have r := ct t ht; unfold gTm at q; unfold cTm at r; split <;> split <;> omega)
      exact ⟨by rw [e2], h.next hn⟩
    · exfalso; omega
    · exfalso; omega
    · exfalso; omega
    · exfalso; omega
    · exfalso; omega
    · exfalso; omega
  · refine ⟨_, rfl, ?_⟩
    refine sp_G_count hm hc2 hw (fun c2 => ?_) (fun c2 => ?_) (fun c2 => ?_) (fun c2 => ?_) (fun c2 => ?_) (fun c2 => ?_) (fun c2 => ?_) (fun k' c2 => ?_) (fun c2 => ?_)
    · exfalso; omega
    · exfalso; omega
    · exfalso; omega
    · have e2 : sumN (fun a => sumN (fun b => A 180 (16 * a + b)) a) c = sumN (fun a => sumN (fun b => A (54 + a) b) a) c := sumN_congr c (fun a ha => sumN_congr a (fun b hb => (h.2.2.1.2.2.2.2.1 a b (by omega) (by omega)).2.1))
      exact ⟨by rw [e2], h.next hn⟩
    · exfalso; omega
    · exfalso; omega
    · exfalso; omega
    · exfalso; omega
    · exfalso; omega
  · refine ⟨_, rfl, ?_⟩
    refine sp_G_count hm hc2 hw (fun c2 => ?_) (fun c2 => ?_) (fun c2 => ?_) (fun c2 => ?_) (fun c2 => ?_) (fun c2 => ?_) (fun c2 => ?_) (fun k' c2 => ?_) (fun c2 => ?_)
    · exfalso; omega
    · exfalso; omega
    · exfalso; omega
    · exfalso; omega
    · have e2 : sumN (fun a => sumN (fun b => A 181 (16 * a + b)) a) c = sumN (fun a => sumN (fun b => A (71 + a) b) a) c := sumN_congr c (fun a ha => sumN_congr a (fun b hb => (h.2.2.1.2.2.2.2.1 a b (by omega) (by omega)).2.2))
      exact ⟨by rw [e2], h.next hn⟩
    · exfalso; omega
    · exfalso; omega
    · exfalso; omega
    · exfalso; omega
  · refine ⟨_, rfl, ?_⟩
    refine sp_G_count hm hc2 hw (fun c2 => ?_) (fun c2 => ?_) (fun c2 => ?_) (fun c2 => ?_) (fun c2 => ?_) (fun c2 => ?_) (fun c2 => ?_) (fun k' c2 => ?_) (fun c2 => ?_)
    · exfalso; omega
    · exfalso; omega
    · exfalso; omega
    · exfalso; omega
    · exfalso; omega
    · have e := sumN_split (fun t => A (20 + t) 6 = -9) c
      have e2 : sumN (fun t => if A 175 t = -9 then (0 : Int) else 1) c = sumN (fun t => if A (20 + t) 6 = -9 then (0 : Int) else 1) c := sumN_congr c (fun t ht => by have q := gt t ht; unfold gTm at q; rw [show A 175 t = A (20 + t) 6 by omega])
      refine ⟨congrArg (fun z => some (vi z)) ?_, h.next hn⟩
      omega
    · exfalso; omega
    · exfalso; omega
    · exfalso; omega
  · refine ⟨_, rfl, ?_⟩
    refine sp_G_count hm hc2 hw (fun c2 => ?_) (fun c2 => ?_) (fun c2 => ?_) (fun c2 => ?_) (fun c2 => ?_) (fun c2 => ?_) (fun c2 => ?_) (fun k' c2 => ?_) (fun c2 => ?_)
    · exfalso; omega
    · exfalso; omega
    · exfalso; omega
    · exfalso; omega
    · exfalso; omega
    · exfalso; omega
    · have e2 : sumN (fun t => A 176 t) c = sumN (fun t => A (20 + t) 7) c := sumN_congr c (fun t ht => (gt t ht).2.1)
      exact ⟨by rw [e2], h.next hn⟩
    · exfalso; omega
    · exfalso; omega
  · refine ⟨_, rfl, ?_⟩
    refine sp_G_count hm hc2 hw (fun c2 => ?_) (fun c2 => ?_) (fun c2 => ?_) (fun c2 => ?_) (fun c2 => ?_) (fun c2 => ?_) (fun c2 => ?_) (fun k' c2 => ?_) (fun c2 => ?_)
    · exfalso; omega
    · exfalso; omega
    · exfalso; omega
    · exfalso; omega
    · exfalso; omega
    · exfalso; omega
    · exfalso; omega
    · obtain rfl : k = k' := by omega
      exact ⟨by rw [h.2.2.1.2.2.2.2.2.2 k (by omega)], h.next hn⟩
    · exfalso; omega
  · refine ⟨_, rfl, ?_⟩
    refine sp_G_count hm hc2 hw (fun c2 => ?_) (fun c2 => ?_) (fun c2 => ?_) (fun c2 => ?_) (fun c2 => ?_) (fun c2 => ?_) (fun c2 => ?_) (fun k' c2 => ?_) (fun c2 => ?_)
    · exfalso; omega
    · exfalso; omega
    · exfalso; omega
    · exfalso; omega
    · exfalso; omega
    · exfalso; omega
    · exfalso; omega
    · exfalso; omega
    · exact ⟨rfl, h.next hn⟩
theorem sp_freeSeats {P : PP} {d n c : Nat} {FI A L : Nat → Nat → Int} {X : SX} {Q : Option AV → S2 → Prop} (hI : cI n FI A) (hc : FI 6 8 = (c : Int)) {F s : Nat} (hF : F < 11) (hs : s < 2147483648) (hq : Q (some (vi (A (8 + F) 0 - sumN (fun t => if A (20 + t) 4 = (F : Int) ∧ s.testBit t = false then A (20 + t) 0 else 0) c))) (FI, A, L, X)) : WP2 P M_H_freeSeats (d + 1) 0 [some (vr 6), some (vi (F : Int)), some (vi (s : Int)), none, none] [] (FI, A, L, X) Q := by
  have hcc := hI.1
  have hfl := hI.2.2.1 F hF
  unfold cFl at hfl
  refine WP_n 1 rfl ?_
  refine WP2_getf rfl rfl rfl rfl rfl ?_
  refine WP_n 1 rfl ?_
  refine WP2_aald (b := 8) (j := F) (n := 11) rfl rfl rfl rfl rfl (by omega) (by omega) ?_
  refine WP_n 1 rfl ?_
  refine WP2_iald (j := 0) rfl rfl (ia_fl (by omega)) (by omega) (by omega) (by omega) ?_
  refine WP_n 3 rfl ?_
  rw [show A (8 + F) 0 = A (8 + F) 0 - sumN (fun t => if A (20 + t) 4 = (F : Int) ∧ s.testBit t = false then A (20 + t) 0 else 0) 0 from (Int.sub_zero _).symm]
  refine up_to (P := fun t => WP2 P M_H_freeSeats (d + 1) 9 [some (vr 6), some (vi (F : Int)), some (vi (s : Int)), some (vi (A (8 + F) 0 - sumN (fun t => if A (20 + t) 4 = (F : Int) ∧ s.testBit t = false then A (20 + t) 0 else 0) t)), some (vi (t : Int))] [] (FI, A, L, X) Q) c ?_ ?_ 0 (by omega)
  · refine WP_n 2 rfl ?_
    refine WP2_getf rfl rfl rfl rfl rfl ?_
    refine WP_icmpge rfl rfl ⟨by omega, by omega⟩ ⟨by omega, by omega⟩ (fun h12 => ?_) (fun h12 => absurd h12 (by omega))
    refine WP_n 1 rfl ?_
    exact WP_iret rfl rfl rfl ⟨_, rfl, hq⟩
  · intro t ht ih
    have hq := hI.2.2.2.1 t (by omega)
    unfold cTm at hq
    refine WP_n 2 rfl ?_
    refine WP2_getf rfl rfl rfl rfl rfl ?_
    refine WP_icmpge rfl rfl ⟨by omega, by omega⟩ ⟨by omega, by omega⟩ (fun h12 => absurd h12 (by omega)) (fun h12 => ?_)
    refine WP_n 1 rfl ?_
    refine WP2_getf rfl rfl rfl rfl rfl ?_
    refine WP_n 1 rfl ?_
    refine WP2_aald (b := 20) (j := t) (n := 16) rfl rfl rfl rfl rfl (by omega) (by omega) ?_
    refine WP_n 1 rfl ?_
    refine WP2_iald (j := 4) rfl rfl (ia_tm (by omega)) (by omega) (by omega) (by omega) ?_
    refine WP_n 1 rfl ?_
    refine WP_icmpne rfl rfl ⟨by omega, by omega⟩ ⟨by omega, by omega⟩ (fun h20 => ?_) (fun h20 => ?_)
    · refine WP_n 2 rfl ?_
      have e : sumN (fun t => if A (20 + t) 4 = (F : Int) ∧ s.testBit t = false then A (20 + t) 0 else 0) (t + 1) = sumN (fun t => if A (20 + t) 4 = (F : Int) ∧ s.testBit t = false then A (20 + t) 0 else 0) t := by
        show sumN (fun t => if A (20 + t) 4 = (F : Int) ∧ s.testBit t = false then A (20 + t) 0 else 0) t + (if _ then _ else _) = _
        rw [if_neg (fun q => h20 q.1)]
        omega
      rw [e] at ih
      exact ih
    · refine WP_n 2 rfl ?_
      refine WP2_callN 2 ok_M_F_holds rfl rfl rfl rfl rfl rfl rfl (Nat.le_of_ble_eq_true rfl) (Nat.le_of_ble_eq_true rfl) ?_
      refine sp_holds hs (by omega) (fun hB => ?_) (fun hB => ?_)
      · refine WP_ifne rfl rfl ⟨by decide, by decide⟩  (fun h24 => ?_) (fun h24 => absurd (by decide) h24)
        refine WP_n 2 rfl ?_
        have e : sumN (fun t => if A (20 + t) 4 = (F : Int) ∧ s.testBit t = false then A (20 + t) 0 else 0) (t + 1) = sumN (fun t => if A (20 + t) 4 = (F : Int) ∧ s.testBit t = false then A (20 + t) 0 else 0) t := by
          show sumN (fun t => if A (20 + t) 4 = (F : Int) ∧ s.testBit t = false then A (20 + t) 0 else 0) t + (if _ then _ else _) = _
          rw [if_neg (fun q => by rw [hB] at q; exact absurd q.2 (by decide))]
          omega
        rw [e] at ih
        exact ih
      · refine WP_ifne rfl rfl ⟨by decide, by decide⟩  (fun h24 => absurd h24 (by decide)) (fun h24 => ?_)
        refine WP_n 2 rfl ?_
        refine WP2_getf rfl rfl rfl rfl rfl ?_
        refine WP_n 1 rfl ?_
        refine WP2_aald (b := 20) (j := t) (n := 16) rfl rfl rfl rfl rfl (by omega) (by omega) ?_
        refine WP_n 1 rfl ?_
        refine WP2_iald (j := 0) rfl rfl (ia_tm (by omega)) (by omega) (by omega) (by omega) ?_
        refine WP_n 4 rfl ?_
        have e : A (8 + F) 0 - sumN (fun t => if A (20 + t) 4 = (F : Int) ∧ s.testBit t = false then A (20 + t) 0 else 0) (t + 1) = A (8 + F) 0 - sumN (fun t => if A (20 + t) 4 = (F : Int) ∧ s.testBit t = false then A (20 + t) 0 else 0) t - A (20 + t) 0 := by
          show _ - (sumN (fun t => if A (20 + t) 4 = (F : Int) ∧ s.testBit t = false then A (20 + t) 0 else 0) t + (if _ then _ else _)) = _
          rw [if_pos ⟨by omega, hB⟩]
          omega
        rw [e] at ih
        exact ih
theorem sp_F_free {P : PP} {d n c : Nat} {FI A L : Nat → Nat → Int} {X : SX} {Q : Option AV → S2 → Prop} (hI : cI n FI A) (hc : FI 6 8 = (c : Int)) {f : Int} (hf : inR f) (r1 : (f < 0 ∨ 11 ≤ f) → Q (some (vi (-1))) (FI, rfC A 1, L, X)) (ok : ∀ F : Nat, f = (F : Int) ∧ F < 11 → Q (some (vi (A (8 + F) 0 - sumN (fun t => if A (20 + t) 4 = (F : Int) ∧ (0 : Nat).testBit t = false then A (20 + t) 0 else 0) c + 10000))) (FI, A, L, X)) : WP2 P M_F_free (d + 2) 0 [some (vr 5), some (vi f)] [] (FI, A, L, X) Q := by
  refine WP_n 1 rfl ?_
  refine WP2_callS 1 ok_M_F_noFloor rfl rfl rfl rfl rfl rfl rfl (Nat.le_of_ble_eq_true rfl) (Nat.le_of_ble_eq_true rfl) ?_
  refine sp_noFloor hf (fun hF => ?_) (fun hF hFb => ?_)
  · refine WP_ifeq rfl rfl ⟨by decide, by decide⟩  (fun h2 => absurd h2 (by decide)) (fun h2 => ?_)
    refine WP_n 2 rfl ?_
    refine WP2_callV 1 ok_M_F_refuse rfl rfl rfl rfl rfl rfl (Nat.le_of_ble_eq_true rfl) (Nat.le_of_ble_eq_true rfl) rfl rfl ?_
    refine sp_refuse (k := 1) rfl (by omega) ?_
    exact WP_iret rfl rfl rfl ⟨_, rfl, r1 (by omega)⟩
  · refine WP_ifeq rfl rfl ⟨by decide, by decide⟩  (fun h2 => ?_) (fun h2 => absurd (by decide) h2)
    obtain ⟨F, rfl⟩ : ∃ F : Nat, f = (F : Int) := ⟨f.toNat, by omega⟩
    refine WP_n 1 rfl ?_
    refine WP2_getf rfl rfl rfl rfl rfl ?_
    refine WP_n 2 rfl ?_
    refine WP2_callV 2 ok_M_H_freeSeats rfl rfl rfl rfl rfl rfl (Nat.le_of_ble_eq_true rfl) (Nat.le_of_ble_eq_true rfl) rfl rfl ?_
    refine sp_freeSeats hI hc (s := 0) (by omega) (by omega) ?_
    refine WP_n 2 rfl ?_
    exact WP_iret rfl rfl rfl ⟨_, rfl, ok F (by omega)⟩
theorem sp_G_free {P : PP} {d n c : Nat} {FI A L : Nat → Nat → Int} {X : SX} {Q : Option AV → S2 → Prop} (hI : mI n FI A) (hc : FI 165 0 = (c : Int)) {f : Int} (hf : inR f) (r1 : (f < 0 ∨ 11 ≤ f) → Q (some (vi (-1))) (FI, rfG A 1, L, X)) (ok : ∀ F : Nat, f = (F : Int) ∧ F < 11 → Q (some (vi (10000 + A 166 F - sumN (fun t => if A 174 t = (F : Int) then A 170 t else 0) c))) (FI, A, L, X)) : WP2 P M_G_free (d + 2) 0 [some (vr 165), some (vi f), none, none] [] (FI, A, L, X) Q := by
  have hcc := hI.2.1
  refine WP_n 1 rfl ?_
  refine WP2_callS 1 ok_M_G_isFloor rfl rfl rfl rfl rfl rfl rfl (Nat.le_of_ble_eq_true rfl) (Nat.le_of_ble_eq_true rfl) ?_
  refine sp_isFloor hf (fun hF => ?_) (fun hF hFb => ?_)
  · refine WP_ifne rfl rfl ⟨by decide, by decide⟩  (fun h2 => absurd h2 (by decide)) (fun h2 => ?_)
    refine WP_n 2 rfl ?_
    refine WP2_callV 1 ok_M_G_no rfl rfl rfl rfl rfl rfl (Nat.le_of_ble_eq_true rfl) (Nat.le_of_ble_eq_true rfl) rfl rfl ?_
    refine sp_no (k := 1) rfl (by omega) ?_
    exact WP_iret rfl rfl rfl ⟨_, rfl, r1 (by omega)⟩
  · refine WP_ifne rfl rfl ⟨by decide, by decide⟩  (fun h2 => ?_) (fun h2 => absurd (by decide) h2)
    obtain ⟨F, rfl⟩ : ∃ F : Nat, f = (F : Int) := ⟨f.toNat, by omega⟩
    have hfl := hI.2.2.2.1 F (by omega)
    unfold mFl at hfl
    refine WP_n 2 rfl ?_
    refine WP2_getf rfl rfl rfl rfl rfl ?_
    refine WP_n 1 rfl ?_
    refine WP2_iald (j := F) rfl rfl (ia_lit (n := 11) rfl rfl (by omega)) (by omega) (by omega) (by omega) ?_
    refine WP_n 4 rfl ?_
    rw [show 10000 + A 166 F = 10000 + A 166 F - sumN (fun t => if A 174 t = (F : Int) then A 170 t else 0) 0 from (Int.sub_zero _).symm]
    refine up_to (P := fun t => WP2 P M_G_free (d + 2) 16 [some (vr 165), some (vi (F : Int)), some (vi (10000 + A 166 F - sumN (fun t => if A 174 t = (F : Int) then A 170 t else 0) t)), some (vi (t : Int))] [] (FI, A, L, X) Q) c ?_ ?_ 0 (by omega)
    · refine WP_n 2 rfl ?_
      refine WP2_getf rfl rfl rfl rfl rfl ?_
      refine WP_icmpge rfl rfl ⟨by omega, by omega⟩ ⟨by omega, by omega⟩ (fun h19 => ?_) (fun h19 => absurd h19 (by omega))
      refine WP_n 1 rfl ?_
      exact WP_iret rfl rfl rfl ⟨_, rfl, ok F (by omega)⟩
    · intro t ht ih
      have hq := hI.2.2.2.2.1 t (by omega)
      unfold mTm at hq
      refine WP_n 2 rfl ?_
      refine WP2_getf rfl rfl rfl rfl rfl ?_
      refine WP_icmpge rfl rfl ⟨by omega, by omega⟩ ⟨by omega, by omega⟩ (fun h19 => absurd h19 (by omega)) (fun h19 => ?_)
      refine WP_n 1 rfl ?_
      refine WP2_getf rfl rfl rfl rfl rfl ?_
      refine WP_n 1 rfl ?_
      refine WP2_iald (j := t) rfl rfl (ia_lit (n := 16) rfl rfl (by omega)) (by omega) (by omega) (by omega) ?_
      refine WP_n 1 rfl ?_
      refine WP_icmpne rfl rfl ⟨by omega, by omega⟩ ⟨by omega, by omega⟩ (fun h25 => ?_) (fun h25 => ?_)
      · refine WP_n 2 rfl ?_
        have e : sumN (fun t => if A 174 t = (F : Int) then A 170 t else 0) (t + 1) = sumN (fun t => if A 174 t = (F : Int) then A 170 t else 0) t := by
          show sumN (fun t => if A 174 t = (F : Int) then A 170 t else 0) t + (if _ then _ else _) = _
          rw [if_neg h25]
          omega
        rw [e] at ih
        exact ih
      · refine WP_n 2 rfl ?_
        refine WP2_getf rfl rfl rfl rfl rfl ?_
        refine WP_n 1 rfl ?_
        refine WP2_iald (j := t) rfl rfl (ia_lit (n := 16) rfl rfl (by omega)) (by omega) (by omega) (by omega) ?_
        refine WP_n 4 rfl ?_
        have e : 10000 + A 166 F - sumN (fun t => if A 174 t = (F : Int) then A 170 t else 0) (t + 1) = 10000 + A 166 F - sumN (fun t => if A 174 t = (F : Int) then A 170 t else 0) t - A 170 t := by
          show _ - (sumN (fun t => if A 174 t = (F : Int) then A 170 t else 0) t + (if _ then _ else _)) = _
          rw [if_pos (by omega)]
          omega
        rw [e] at ih
        exact ih
theorem pr_free {P : PP} {n : Nat} {FI A L : Nat → Nat → Int} {X : SX} (h : INV P n FI A X) (hn : n < 512) {f : Int} (hf : inR f) : PAIR P n (FI, A, L, X) M_F_free [some (vr 5), some (vi f)] M_G_free [some (vr 165), some (vi f), none, none] := by
  intro d
  have hm := h.mI
  have hcI := h.2.1
  have hk1 := hcI.1
  have g1 := h.2.2.1.1
  obtain ⟨c, hc⟩ : ∃ c : Nat, FI 6 8 = (c : Int) := ⟨(FI 6 8).toNat, by omega⟩
  have hc2 : FI 165 0 = (c : Int) := by rw [g1]; exact hc
  refine sp_F_free hcI hc hf (fun c1 => ?_) (fun F c1 => ?_)
  · refine ⟨_, rfl, ?_⟩
    refine sp_G_free (hm.up (by omega)) hc2 hf (fun c2 => ?_) (fun F' c2 => ?_)
    · exact ⟨rfl, INV_ref h hn (by omega)⟩
    · exfalso; omega
  · refine ⟨_, rfl, ?_⟩
    refine sp_G_free hm hc2 hf (fun c2 => ?_) (fun F' c2 => ?_)
    · exfalso; omega
    · obtain rfl : F = F' := by omega
      have gf := h.2.2.1.2.2.1 F (by omega)
      unfold gFl at gf
      have e2 : sumN (fun t => if A 174 t = (F : Int) then A 170 t else 0) c = sumN (fun t => if A (20 + t) 4 = (F : Int) ∧ (0 : Nat).testBit t = false then A (20 + t) 0 else 0) c := sumN_congr c (fun t ht => by
        have q := h.2.2.1.2.2.2.1 t (by omega)
        unfold gTm at q
        skip
        rw [show A 174 t = A (20 + t) 4 by omega, show A 170 t = A (20 + t) 0 by omega]
        by_cases e : A (20 + t) 4 = (F : Int)
        · rw [if_pos e, if_pos ⟨e, by simp⟩]
        · rw [if_neg e, if_neg (fun q => e q.1)])
      refine ⟨congrArg (fun z => some (vi z)) ?_, h.next hn⟩
      rw [e2, gf.1]
      omega

/-! the law: its loop, its run -/
theorem iAnd31 (z : Int) : ∃ k : Nat, iAnd z 31 = (k : Int) ∧ k < 32 := by
  have h : ((Int32.ofInt z &&& Int32.ofInt 31).toBitVec).toNat ≤ 31 := by
    rw [Int32.toBitVec_and, BitVec.toNat_and]
    exact Nat.le_trans Nat.and_le_right (by decide)
  refine ⟨((Int32.ofInt z &&& Int32.ofInt 31).toBitVec).toNat, ?_, by omega⟩
  unfold iAnd
  show ((Int32.ofInt z &&& Int32.ofInt 31).toBitVec).toInt = _
  rw [BitVec.toInt_eq_toNat_of_lt (by omega)]
theorem INV_0 {P : PP} {A B : Nat → Nat → Int} {s : Nat} (hs : s ≤ 100000) (hA : HA A) (h1 : ∀ a j, a ≠ 166 → a ≠ 168 → a ≠ 169 → a ≠ 184 → B a j = A a j) (h2 : ∀ g, g < 11 → B 166 g = 40 ∧ B 168 g = 10 ∧ B 169 g = 19) (h3 : ∀ j, j < 320 → B 184 j = -1) : INV P 0 FIi B (0, s, 158, 159, fun _ => 0) := by
  have z : ∀ a j, ¬ (8 ≤ a ∧ a < 19) → ¬ (20 ≤ a ∧ a < 36 ∧ (j = 4 ∨ j = 6)) → ¬ (122 ≤ a ∧ a < 138) → a ≠ 166 → a ≠ 168 → a ≠ 169 → a ≠ 184 → B a j = 0 := fun a j q1 q2 q3 q4 q5 q6 q7 => (h1 a j q4 q5 q6 q7).trans (hA.2.2.2 a j q1 q2 q3)
  have fl : ∀ f, f < 11 → B (8 + f) 0 = 40 ∧ B (8 + f) 1 = 0 ∧ B (8 + f) 2 = 10 ∧ B (8 + f) 3 = 19 := fun f hf => by
    refine ⟨?_, ?_, ?_, ?_⟩
    · rw [h1 _ _ (by omega) (by omega) (by omega) (by omega), hA.1 f 0 hf (by omega)]; rfl
    · rw [h1 _ _ (by omega) (by omega) (by omega) (by omega), hA.1 f 1 hf (by omega)]; rfl
    · rw [h1 _ _ (by omega) (by omega) (by omega) (by omega), hA.1 f 2 hf (by omega)]; rfl
    · rw [h1 _ _ (by omega) (by omega) (by omega) (by omega), hA.1 f 3 hf (by omega)]; rfl
  have f8 : FIi 6 8 = 0 := rfl
  have f9 : FIi 6 9 = 1 := rfl
  have g0 : FIi 165 0 = 0 := rfl
  have g1 : FIi 165 1 = 1 := rfl
  refine ⟨by omega, ⟨by omega, by omega, fun f hf => ?_, fun t ht => ?_, fun a b ha hb => ?_, fun t p ht hp => ?_, fun k hk => ?_⟩, ⟨by omega, by omega, fun f hf => ?_, fun t ht => ?_, fun a b ha hb => ?_, fun t p ht hp => ?_, fun k hk => ?_⟩, 0, 1, by omega, rfl, ia_lit rfl rfl (by show 158 < 193 + 0; omega), ia_lit rfl rfl (by show 159 < 193 + 0; omega), Or.inl rfl, Or.inl rfl, by show (158 : Nat) ≠ 159; omega, by show 0 ≤ 2 * 0; omega, by show s ≤ 100000 + 4 * 5 ^ 0; omega⟩
  · have q := fl f hf
    unfold cFl
    omega
  · have q := hA.2.1 t ht
    unfold cTm
    rw [z (20 + t) 0 (by omega) (by omega) (by omega) (by omega) (by omega) (by omega) (by omega), z (20 + t) 1 (by omega) (by omega) (by omega) (by omega) (by omega) (by omega) (by omega), z (20 + t) 2 (by omega) (by omega) (by omega) (by omega) (by omega) (by omega) (by omega), z (20 + t) 3 (by omega) (by omega) (by omega) (by omega) (by omega) (by omega) (by omega), z (20 + t) 5 (by omega) (by omega) (by omega) (by omega) (by omega) (by omega) (by omega), z (20 + t) 7 (by omega) (by omega) (by omega) (by omega) (by omega) (by omega) (by omega), z (20 + t) 8 (by omega) (by omega) (by omega) (by omega) (by omega) (by omega) (by omega), h1 (20 + t) 4 (by omega) (by omega) (by omega) (by omega), h1 (20 + t) 6 (by omega) (by omega) (by omega) (by omega), q.1, q.2, f8]
    omega
  · unfold cTw
    rw [z (37 + a) b (by omega) (by omega) (by omega) (by omega) (by omega) (by omega) (by omega), z (37 + b) a (by omega) (by omega) (by omega) (by omega) (by omega) (by omega) (by omega), z (54 + a) b (by omega) (by omega) (by omega) (by omega) (by omega) (by omega) (by omega), z (54 + b) a (by omega) (by omega) (by omega) (by omega) (by omega) (by omega) (by omega), z (71 + a) b (by omega) (by omega) (by omega) (by omega) (by omega) (by omega) (by omega), z (71 + b) a (by omega) (by omega) (by omega) (by omega) (by omega) (by omega) (by omega)]
    omega
  · unfold cPp
    rw [z (88 + t) p (by omega) (by omega) (by omega) (by omega) (by omega) (by omega) (by omega), z (105 + t) p (by omega) (by omega) (by omega) (by omega) (by omega) (by omega) (by omega), h1 (122 + t) p (by omega) (by omega) (by omega) (by omega), hA.2.2.1 t p ht hp]
    omega
  · rw [z 164 k (by omega) (by omega) (by omega) (by omega) (by omega) (by omega) (by omega), z 163 11 (by omega) (by omega) (by omega) (by omega) (by omega) (by omega) (by omega)]
    omega
  · have q := fl f hf
    have q2 := h2 f hf
    have q3 := z 167 f (by omega) (by omega) (by omega) (by omega) (by omega) (by omega) (by omega)
    unfold gFl
    omega
  · unfold gTm
    rw [z (20 + t) 7 (by omega) (by omega) (by omega) (by omega) (by omega) (by omega) (by omega), z (20 + t) 8 (by omega) (by omega) (by omega) (by omega) (by omega) (by omega) (by omega), z (20 + t) 5 (by omega) (by omega) (by omega) (by omega) (by omega) (by omega) (by omega), z 176 t (by omega) (by omega) (by omega) (by omega) (by omega) (by omega) (by omega), z 177 t (by omega) (by omega) (by omega) (by omega) (by omega) (by omega) (by omega), z 178 t (by omega) (by omega) (by omega) (by omega) (by omega) (by omega) (by omega), f8]
    exact ⟨fun q => absurd q (by omega), rfl, rfl, rfl⟩
  · unfold gTw
    rw [z (37 + a) b (by omega) (by omega) (by omega) (by omega) (by omega) (by omega) (by omega), z (54 + a) b (by omega) (by omega) (by omega) (by omega) (by omega) (by omega) (by omega), z (71 + a) b (by omega) (by omega) (by omega) (by omega) (by omega) (by omega) (by omega), z 179 _ (by omega) (by omega) (by omega) (by omega) (by omega) (by omega) (by omega), z 180 _ (by omega) (by omega) (by omega) (by omega) (by omega) (by omega) (by omega), z 181 _ (by omega) (by omega) (by omega) (by omega) (by omega) (by omega) (by omega)]
    exact ⟨rfl, rfl, rfl⟩
  · unfold gPp
    rw [z (88 + t) p (by omega) (by omega) (by omega) (by omega) (by omega) (by omega) (by omega), z (105 + t) p (by omega) (by omega) (by omega) (by omega) (by omega) (by omega) (by omega), h1 (122 + t) p (by omega) (by omega) (by omega) (by omega), hA.2.2.1 t p ht hp, z 182 _ (by omega) (by omega) (by omega) (by omega) (by omega) (by omega) (by omega), z 183 _ (by omega) (by omega) (by omega) (by omega) (by omega) (by omega) (by omega), h3 _ (by omega)]
    exact ⟨rfl, rfl, rfl⟩
  · rw [z 185 k (by omega) (by omega) (by omega) (by omega) (by omega) (by omega) (by omega), z 164 k (by omega) (by omega) (by omega) (by omega) (by omega) (by omega) (by omega)]
set_option maxRecDepth 8000 in
set_option maxHeartbeats 4000000 in
theorem law_loop {P : PP} {d : Nat} (hP : ∀ j, inR (st5 P 0 j)) (hL : P.1 ≤ 2560) : ∀ n, n ≤ P.1 / 5 → ∀ S, INVS P n S → WP2 P M_law (d + 31) 10 [some (vr 0), some (vr 5), some (vr 165), some (vi ((5 * n : Nat) : Int))] [] S (fun v S => v = some (vi 1) ∧ S.2.2.2.1 ≤ 12 ∧ S.2.2.2.2.1 ≤ 162500) := by
  refine up_to (P := fun n => ∀ S, INVS P n S → WP2 P M_law (d + 31) 10 [some (vr 0), some (vr 5), some (vr 165), some (vi ((5 * n : Nat) : Int))] [] S (fun v S => v = some (vi 1) ∧ S.2.2.2.1 ≤ 12 ∧ S.2.2.2.2.1 ≤ 162500)) (P.1 / 5) ?_ ?_
  · intro S h
    obtain ⟨FI, A, L, X⟩ := S
    have hx : X.1 ≤ 12 ∧ X.2.1 ≤ 162500 := by
      obtain ⟨k, len, k1, k2, k3, k4, k5, k6, k7, k8, k9⟩ := h.2.2.2
      have := Nat.pow_le_pow_right (show 0 < 5 by omega) k1
      dsimp only at k8 k9
      exact ⟨by omega, by omega⟩
    refine WP_n 2 rfl ?_
    refine WP2_alen rfl rfl (ia_lit (n := P.1) rfl rfl (by omega)) ?_
    refine WP_n 2 rfl ?_
    refine WP_icmpgt rfl rfl ⟨by omega, by omega⟩ ⟨by omega, by omega⟩ (fun h15 => ?_) (fun h15 => absurd h15 (by omega))
    refine WP_n 1 rfl ?_
    exact WP_zret rfl rfl rfl (Or.inr rfl) ⟨_, rfl, ⟨rfl, hx⟩⟩
  · intro n hn5 ih S h
    obtain ⟨FI, A, L, X⟩ := S
    have hn : n < 512 := by omega
    refine WP_n 2 rfl ?_
    refine WP2_alen rfl rfl (ia_lit (n := P.1) rfl rfl (by omega)) ?_
    refine WP_n 2 rfl ?_
    refine WP_icmpgt rfl rfl ⟨by omega, by omega⟩ ⟨by omega, by omega⟩ (fun h15 => absurd h15 (by omega)) (fun h15 => ?_)
    refine WP_n 2 rfl ?_
    refine WP2_ialds (j := (5 * n)) rfl rfl (ia_lit (n := P.1) rfl rfl (by omega)) (by omega) (by omega) (by omega) ?_
    refine WP_n 2 rfl ?_
    obtain ⟨k, hk, hk32⟩ := iAnd31 (st5 P 0 (5 * n))
    rw [hk]
    have kont : ∀ S3, INVS P (n + 1) S3 → WP2 P M_law (d + 31) 776 [some (vr 0), some (vr 5), some (vr 165), some (vi ((5 * n : Nat) : Int))] [] S3 (fun v S => v = some (vi 1) ∧ S.2.2.2.1 ≤ 12 ∧ S.2.2.2.2.1 ≤ 162500) := fun S3 h3 => by
      refine WP_n 2 rfl ?_
      have z := ih S3 h3
      rw [show ((5 * (n + 1) : Nat) : Int) = ((5 * n : Nat) : Int) + 5 by omega] at z
      exact z
    clear hk ih
    match k, hk32 with
    | 0, _ =>
      show WP2 P M_law (d + 31) 21 [some (vr 0), some (vr 5), some (vr 165), some (vi ((5 * n : Nat) : Int))] [vi 0] (FI, A, L, X) _
      refine WP_tsIn (tgt := 22) rfl rfl ⟨by decide, by decide⟩ (by decide) (by decide) rfl rfl ?_
      exact law_0 h hn (by omega) hP kont
    | 1, _ =>
      show WP2 P M_law (d + 31) 21 [some (vr 0), some (vr 5), some (vr 165), some (vi ((5 * n : Nat) : Int))] [vi 1] (FI, A, L, X) _
      refine WP_tsIn (tgt := 59) rfl rfl ⟨by decide, by decide⟩ (by decide) (by decide) rfl rfl ?_
      exact law_1 h hn (by omega) hP kont
    | 2, _ =>
      show WP2 P M_law (d + 31) 21 [some (vr 0), some (vr 5), some (vr 165), some (vi ((5 * n : Nat) : Int))] [vi 2] (FI, A, L, X) _
      refine WP_tsIn (tgt := 106) rfl rfl ⟨by decide, by decide⟩ (by decide) (by decide) rfl rfl ?_
      exact law_2 h hn (by omega) hP kont
    | 3, _ =>
      show WP2 P M_law (d + 31) 21 [some (vr 0), some (vr 5), some (vr 165), some (vi ((5 * n : Nat) : Int))] [vi 3] (FI, A, L, X) _
      refine WP_tsIn (tgt := 133) rfl rfl ⟨by decide, by decide⟩ (by decide) (by decide) rfl rfl ?_
      exact law_3 h hn (by omega) hP kont
    | 4, _ =>
      show WP2 P M_law (d + 31) 21 [some (vr 0), some (vr 5), some (vr 165), some (vi ((5 * n : Nat) : Int))] [vi 4] (FI, A, L, X) _
      refine WP_tsIn (tgt := 160) rfl rfl ⟨by decide, by decide⟩ (by decide) (by decide) rfl rfl ?_
      exact law_4 h hn (by omega) hP kont
    | 5, _ =>
      show WP2 P M_law (d + 31) 21 [some (vr 0), some (vr 5), some (vr 165), some (vi ((5 * n : Nat) : Int))] [vi 5] (FI, A, L, X) _
      refine WP_tsIn (tgt := 195) rfl rfl ⟨by decide, by decide⟩ (by decide) (by decide) rfl rfl ?_
      exact law_5 h hn (by omega) hP kont
    | 6, _ =>
      show WP2 P M_law (d + 31) 21 [some (vr 0), some (vr 5), some (vr 165), some (vi ((5 * n : Nat) : Int))] [vi 6] (FI, A, L, X) _
      refine WP_tsIn (tgt := 242) rfl rfl ⟨by decide, by decide⟩ (by decide) (by decide) rfl rfl ?_
      exact law_6 h hn (by omega) hP kont
    | 7, _ =>
      show WP2 P M_law (d + 31) 21 [some (vr 0), some (vr 5), some (vr 165), some (vi ((5 * n : Nat) : Int))] [vi 7] (FI, A, L, X) _
      refine WP_tsIn (tgt := 249) rfl rfl ⟨by decide, by decide⟩ (by decide) (by decide) rfl rfl ?_
      exact law_7 h hn (by omega) hP kont
    | 8, _ =>
      show WP2 P M_law (d + 31) 21 [some (vr 0), some (vr 5), some (vr 165), some (vi ((5 * n : Nat) : Int))] [vi 8] (FI, A, L, X) _
      refine WP_tsIn (tgt := 266) rfl rfl ⟨by decide, by decide⟩ (by decide) (by decide) rfl rfl ?_
      exact law_8 h hn (by omega) hP kont
    | 9, _ =>
      show WP2 P M_law (d + 31) 21 [some (vr 0), some (vr 5), some (vr 165), some (vi ((5 * n : Nat) : Int))] [vi 9] (FI, A, L, X) _
      refine WP_tsIn (tgt := 273) rfl rfl ⟨by decide, by decide⟩ (by decide) (by decide) rfl rfl ?_
      exact law_9 h hn (by omega) hP kont
    | 10, _ =>
      show WP2 P M_law (d + 31) 21 [some (vr 0), some (vr 5), some (vr 165), some (vi ((5 * n : Nat) : Int))] [vi 10] (FI, A, L, X) _
      refine WP_tsIn (tgt := 310) rfl rfl ⟨by decide, by decide⟩ (by decide) (by decide) rfl rfl ?_
      exact law_10 h hn (by omega) hP kont
    | 11, _ =>
      show WP2 P M_law (d + 31) 21 [some (vr 0), some (vr 5), some (vr 165), some (vi ((5 * n : Nat) : Int))] [vi 11] (FI, A, L, X) _
      refine WP_tsIn (tgt := 347) rfl rfl ⟨by decide, by decide⟩ (by decide) (by decide) rfl rfl ?_
      exact law_11 h hn (by omega) hP kont
    | 12, _ =>
      show WP2 P M_law (d + 31) 21 [some (vr 0), some (vr 5), some (vr 165), some (vi ((5 * n : Nat) : Int))] [vi 12] (FI, A, L, X) _
      refine WP_tsIn (tgt := 374) rfl rfl ⟨by decide, by decide⟩ (by decide) (by decide) rfl rfl ?_
      exact law_12 h hn (by omega) hP kont
    | 13, _ =>
      show WP2 P M_law (d + 31) 21 [some (vr 0), some (vr 5), some (vr 165), some (vi ((5 * n : Nat) : Int))] [vi 13] (FI, A, L, X) _
      refine WP_tsIn (tgt := 401) rfl rfl ⟨by decide, by decide⟩ (by decide) (by decide) rfl rfl ?_
      exact law_13 h hn (by omega) hP kont
    | 14, _ =>
      show WP2 P M_law (d + 31) 21 [some (vr 0), some (vr 5), some (vr 165), some (vi ((5 * n : Nat) : Int))] [vi 14] (FI, A, L, X) _
      refine WP_tsIn (tgt := 418) rfl rfl ⟨by decide, by decide⟩ (by decide) (by decide) rfl rfl ?_
      exact law_14 h hn (by omega) hP kont
    | 15, _ =>
      show WP2 P M_law (d + 31) 21 [some (vr 0), some (vr 5), some (vr 165), some (vi ((5 * n : Nat) : Int))] [vi 15] (FI, A, L, X) _
      refine WP_tsIn (tgt := 455) rfl rfl ⟨by decide, by decide⟩ (by decide) (by decide) rfl rfl ?_
      exact law_15 h hn (by omega) hP kont
    | 16, _ =>
      show WP2 P M_law (d + 31) 21 [some (vr 0), some (vr 5), some (vr 165), some (vi ((5 * n : Nat) : Int))] [vi 16] (FI, A, L, X) _
      refine WP_tsIn (tgt := 472) rfl rfl ⟨by decide, by decide⟩ (by decide) (by decide) rfl rfl ?_
      exact law_16 h hn (by omega) hP kont
    | 17, _ =>
      show WP2 P M_law (d + 31) 21 [some (vr 0), some (vr 5), some (vr 165), some (vi ((5 * n : Nat) : Int))] [vi 17] (FI, A, L, X) _
      refine WP_tsIn (tgt := 509) rfl rfl ⟨by decide, by decide⟩ (by decide) (by decide) rfl rfl ?_
      exact law_17 h hn (by omega) hP kont
    | 18, _ =>
      show WP2 P M_law (d + 31) 21 [some (vr 0), some (vr 5), some (vr 165), some (vi ((5 * n : Nat) : Int))] [vi 18] (FI, A, L, X) _
      refine WP_tsIn (tgt := 526) rfl rfl ⟨by decide, by decide⟩ (by decide) (by decide) rfl rfl ?_
      exact law_18 h hn (by omega) hP kont
    | 19, _ =>
      show WP2 P M_law (d + 31) 21 [some (vr 0), some (vr 5), some (vr 165), some (vi ((5 * n : Nat) : Int))] [vi 19] (FI, A, L, X) _
      refine WP_tsIn (tgt := 563) rfl rfl ⟨by decide, by decide⟩ (by decide) (by decide) rfl rfl ?_
      exact law_19 h hn (by omega) hP kont
    | 20, _ =>
      show WP2 P M_law (d + 31) 21 [some (vr 0), some (vr 5), some (vr 165), some (vi ((5 * n : Nat) : Int))] [vi 20] (FI, A, L, X) _
      refine WP_tsIn (tgt := 590) rfl rfl ⟨by decide, by decide⟩ (by decide) (by decide) rfl rfl ?_
      exact law_20 h hn (by omega) hP kont
    | 21, _ =>
      show WP2 P M_law (d + 31) 21 [some (vr 0), some (vr 5), some (vr 165), some (vi ((5 * n : Nat) : Int))] [vi 21] (FI, A, L, X) _
      refine WP_tsIn (tgt := 627) rfl rfl ⟨by decide, by decide⟩ (by decide) (by decide) rfl rfl ?_
      exact law_21 h hn (by omega) hP kont
    | 22, _ =>
      show WP2 P M_law (d + 31) 21 [some (vr 0), some (vr 5), some (vr 165), some (vi ((5 * n : Nat) : Int))] [vi 22] (FI, A, L, X) _
      refine WP_tsIn (tgt := 654) rfl rfl ⟨by decide, by decide⟩ (by decide) (by decide) rfl rfl ?_
      exact law_22 h hn (by omega) hP kont
    | 23, _ =>
      show WP2 P M_law (d + 31) 21 [some (vr 0), some (vr 5), some (vr 165), some (vi ((5 * n : Nat) : Int))] [vi 23] (FI, A, L, X) _
      refine WP_tsIn (tgt := 681) rfl rfl ⟨by decide, by decide⟩ (by decide) (by decide) rfl rfl ?_
      exact law_23 h hn (by omega) hP kont
    | 24, _ =>
      show WP2 P M_law (d + 31) 21 [some (vr 0), some (vr 5), some (vr 165), some (vi ((5 * n : Nat) : Int))] [vi 24] (FI, A, L, X) _
      refine WP_tsIn (tgt := 698) rfl rfl ⟨by decide, by decide⟩ (by decide) (by decide) rfl rfl ?_
      exact law_24 h hn (by omega) hP kont
    | 25, _ =>
      show WP2 P M_law (d + 31) 21 [some (vr 0), some (vr 5), some (vr 165), some (vi ((5 * n : Nat) : Int))] [vi 25] (FI, A, L, X) _
      refine WP_tsIn (tgt := 715) rfl rfl ⟨by decide, by decide⟩ (by decide) (by decide) rfl rfl ?_
      exact law_25 h hn (by omega) hP kont
    | 26, _ =>
      show WP2 P M_law (d + 31) 21 [some (vr 0), some (vr 5), some (vr 165), some (vi ((5 * n : Nat) : Int))] [vi 26] (FI, A, L, X) _
      refine WP_tsIn (tgt := 742) rfl rfl ⟨by decide, by decide⟩ (by decide) (by decide) rfl rfl ?_
      exact law_26 h hn (by omega) hP kont
    | 27, _ =>
      show WP2 P M_law (d + 31) 21 [some (vr 0), some (vr 5), some (vr 165), some (vi ((5 * n : Nat) : Int))] [vi 27] (FI, A, L, X) _
      refine WP_tsIn (tgt := 759) rfl rfl ⟨by decide, by decide⟩ (by decide) (by decide) rfl rfl ?_
      exact law_27 h hn (by omega) hP kont
    | k + 28, hk2 =>
      refine WP_tsOut (tgt := 776) rfl rfl ⟨by omega, by omega⟩ (by omega) rfl ?_
      exact kont (FI, A, L, X) (INV.next h hn)
set_option maxRecDepth 8000 in
theorem law_run {P : PP} {d : Nat} (hP : ∀ j, inR (st5 P 0 j)) (hL : P.1 ≤ 2560) : WP M_law (d + 31) 0 [some (vr 0), none, none, none] [] (5, 0, cc2 P FIi (fun _ _ => 0) L0 X0) (fun v h' => v = some (vi 1) ∧ h'.1 ≤ 205 ∧ h'.2.1 ≤ 162500) := by
  refine WP_new (n := 6) rfl rfl rfl rfl ?_
  refine WP_cong (h1 := EH P FIi (fun _ _ => 0) 6 6 (.inl (5, nfs 5 6)) 5 (.inl (0, []))) rfl rfl (fun a ha => ?_) ?_
  · show (if a = 5 then _ else if a = 5 then _ else cc2 P FIi (fun _ _ => 0) L0 X0 a) = (if a = 5 then _ else cc2 P FIi (fun _ _ => 0) L0 X0 a)
    by_cases e : a = 5
    · rw [if_pos e, if_pos e]
      rfl
    · rw [if_neg e, if_neg e, if_neg e]
  refine WP_n 1 rfl ?_
  refine WP_callI 0 ok_M_F_init rfl rfl rfl rfl rfl rfl (Nat.le_of_ble_eq_true rfl) (Nat.le_of_ble_eq_true rfl) ?_
  refine sp_F_init (fun A1 hA => ?_)
  refine WP_n 1 rfl ?_
  refine WE_new (n := 37) (k' := 166) (s' := 2258) rfl rfl rfl rfl rfl rfl (by omega) (Or.inr rfl) ?_
  refine WP_n 1 rfl ?_
  refine WP_callI 0 ok_M_G_init rfl rfl rfl rfl rfl rfl (Nat.le_of_ble_eq_true rfl) (Nat.le_of_ble_eq_true rfl) ?_
  refine sp_G_init (fun a j q => hA.2.2.2 a j (by omega) (by omega) (by omega)) (fun B b1 b2 b3 => ?_)
  refine WP_cong (h1 := H2 P (FIi, B, L0, (0, 35512, 158, 159, fun _ => 0))) rfl rfl (fun a ha => ?_) ?_
  · show cc2 P FIi B L0 (0, 35512, 158, 159, fun _ => 0) a = (if a = 5 then cc2 P FIi A1 L0 X0 5 else if a = 165 then cc2 P FIi B L0 X0 165 else cc2 P FIi B L0 X0 a)
    by_cases e : a = 5
    · rw [if_pos e, e]
      rfl
    · rw [if_neg e]
      by_cases e2 : a = 165
      · rw [if_pos e2, e2]
        rfl
      · rw [if_neg e2]
        rfl
  refine WP_n 3 rfl ?_
  refine WP.mono (law_loop (P := P) (d := d) hP hL 0 (by omega) (FIi, B, L0, (0, 35512, 158, 159, fun _ => 0)) (INV_0 (by omega) hA b1 b2 b3)) (fun v h' hv => ?_)
  obtain ⟨S, e, h1, h2, h3⟩ := hv
  subst e
  exact ⟨h1, by show 193 + S.2.2.2.1 ≤ 205; omega, h3⟩

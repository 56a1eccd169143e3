/-! moves of the reference: spot, digit, with, freeIn, goes -/
def RM (FI A : Nat → Nat → Int) (c mv st K S : Nat) (fr sz : Nat → Int) : Prop := (c ≤ 16 ∧ mv < 2 ^ c ∧ st < 2048 ∧ K = pcR mv 16 ∧ K ≤ 6 ∧ S = pcR st 16 ∧ S ≤ 5) ∧ (FI 165 0 = (c : Int) ∧ FI 165 31 = (K : Int) ∧ FI 165 32 = (S : Int)) ∧ (∀ i, i < K → A 188 i = (nth mv i : Int)) ∧ (∀ s, s < S → A 189 s = (nth st s : Int)) ∧ (∀ t, t < c → (0 ≤ A 170 t ∧ A 170 t ≤ 60) ∧ -9 ≤ A 174 t ∧ A 174 t ≤ 10) ∧ (∀ f, f < 11 → 0 ≤ A 166 f ∧ A 166 f ≤ 300) ∧ (∀ i, i < K → A 170 (nth mv i) = sz i) ∧ ∀ s, s < S → fr s = A 166 (nth st s) - sumN (fun t => if mv.testBit t = false ∧ A 174 t = (nth st s : Int) then A 170 t else 0) c
theorem RM.off {FI A FI' A' : Nat → Nat → Int} {c mv st K S : Nat} {fr sz : Nat → Int} (h : RM FI A c mv st K S fr sz) (hf : FI' 165 0 = FI 165 0 ∧ FI' 165 31 = FI 165 31 ∧ FI' 165 32 = FI 165 32) (ha : ∀ a j, 166 ≤ a → a ≤ 189 → A' a j = A a j) : RM FI' A' c mv st K S fr sz := by
  obtain ⟨h1, h2, h3, h4, h5, h6, h7, h8⟩ := h
  refine ⟨h1, ⟨hf.1.trans h2.1, hf.2.1.trans h2.2.1, hf.2.2.trans h2.2.2⟩, fun i hi => (ha _ _ (by omega) (by omega)).trans (h3 i hi), fun i hi => (ha _ _ (by omega) (by omega)).trans (h4 i hi), fun t ht => ?_, fun f hf => ?_, fun i hi => (ha _ _ (by omega) (by omega)).trans (h7 i hi), fun s hs => ?_⟩
  · rw [ha 170 t (by omega) (by omega), ha 174 t (by omega) (by omega)]
    exact h5 t ht
  · rw [ha 166 f (by omega) (by omega)]
    exact h6 f hf
  · rw [h8 s hs, ha 166 _ (by omega) (by omega)]
    exact congrArg (fun z => A 166 (nth st s) - z) (sumN_congr c (fun t ht => by rw [ha 170 t (by omega) (by omega), ha 174 t (by omega) (by omega)]))
theorem RM.T {FI A : Nat → Nat → Int} {c mv st K S : Nat} {fr sz : Nat → Int} (h : RM FI A c mv st K S fr sz) {i : Nat} (hi : i < K) : nth mv i < c ∧ nth mv i < 16 := by
  have a := nth_ok (s := mv) (i := i) (by have := h.1.2.2.2.1; omega)
  exact ⟨tb_lt16 h.1.2.1 a.1, a.2.2⟩
theorem RM.F {FI A : Nat → Nat → Int} {c mv st K S : Nat} {fr sz : Nat → Int} (h : RM FI A c mv st K S fr sz) {s : Nat} (hs : s < S) : nth st s < 11 := by
  have a := nth_ok (s := st) (i := s) (by have := h.1.2.2.2.2.2.1; omega)
  exact tb_lt16 (c := 11) (by have := h.1.2.2.1; omega) a.1
theorem RM.S5 {FI A : Nat → Nat → Int} {c mv st K S : Nat} {fr sz : Nat → Int} (h : RM FI A c mv st K S fr sz) : S ≤ 5 := h.1.2.2.2.2.2.2
theorem RM.K6 {FI A : Nat → Nat → Int} {c mv st K S : Nat} {fr sz : Nat → Int} (h : RM FI A c mv st K S fr sz) : K ≤ 6 := h.1.2.2.2.2.1
theorem PMk (K : Nat) : PM (fun i => K - 1 - i) K := ⟨fun i hi => by show K - 1 - i < K; omega, fun i hi => by show K - 1 - (K - 1 - i) = i; omega⟩
theorem pcR_top {s c : Nat} (h : s < 2 ^ c) : ∀ k, c ≤ k → pcR s k = pcR s c := by
  intro k
  induction k with
  | zero => intro q; rw [show c = 0 by omega]
  | succ k ih =>
    intro q
    by_cases e : c = k + 1
    · rw [e]
    · rw [pcR_f (tb_lt h (by omega))]
      exact ih (by omega)
theorem sumN_rank {s : Nat} {f : Nat → Int} : ∀ c, sumN (fun t => if s.testBit t = true then f (pcR s t) else 0) c = sumN f (pcR s c)
  | 0 => rfl
  | c + 1 => by
    show sumN _ c + (if s.testBit c = true then f (pcR s c) else 0) = _
    rw [sumN_rank c]
    by_cases w : s.testBit c = true
    · rw [if_pos w, pcR_t w]
      rfl
    · rw [if_neg w, pcR_f (by revert w; cases s.testBit c <;> decide)]
      omega
theorem sumN_add2 {f g h : Nat → Int} : ∀ c, (∀ t, t < c → h t = f t + g t) → sumN h c = sumN f c + sumN g c
  | 0, _ => rfl
  | c + 1, e => by
    show sumN h c + h c = sumN f c + f c + (sumN g c + g c)
    rw [sumN_add2 c (fun t ht => e t (by omega)), e c (by omega)]
    omega
theorem sp_G_spot {P : PP} {d : Nat} {FI A L : Nat → Nat → Int} {X : SX} {Q : Option AV → S2 → Prop} {S st : Nat} (hS : FI 165 32 = (S : Int)) (hS5 : S ≤ 5) (hSt : S = pcR st 16) (hst : st < 2048) (h9 : ∀ s, s < S → A 189 s = (nth st s : Int)) {s F : Nat} (hs : s < S) (hF : F = nth st s) (hF9 : F < 11) (hq : Q (some (vi (s : Int))) (FI, A, L, X)) : WP2 P M_G_spot d 0 [some (vr 165), some (vi (F : Int)), none] [] (FI, A, L, X) Q := by
  refine WP_n 2 rfl ?_
  suffices hw : ∀ k, k ≤ S → k ≤ s → WP2 P M_G_spot d 2 [some (vr 165), some (vi (F : Int)), some (vi (k : Int))] [] (FI, A, L, X) Q from hw 0 (by omega) (by omega)
  refine up_to (P := fun k => k ≤ s → WP2 P M_G_spot d 2 [some (vr 165), some (vi (F : Int)), some (vi (k : Int))] [] (FI, A, L, X) Q) S ?_ ?_
  · intro w
    omega
  · intro k hk ih hks
    have e := h9 k hk
    have hok := nth_ok (s := st) (i := k) (by omega)
    refine WP_n 2 rfl ?_
    refine WP2_getf rfl rfl rfl rfl rfl ?_
    refine WP_icmpge rfl rfl ⟨by omega, by omega⟩ ⟨by omega, by omega⟩ (fun h5 => absurd h5 (by omega)) (fun h5 => ?_)
    refine WP_n 1 rfl ?_
    refine WP2_getf rfl rfl rfl rfl rfl ?_
    refine WP_n 1 rfl ?_
    refine WP2_iald (j := k) rfl rfl (ia_lit (n := 11) rfl rfl (by omega)) (by omega) (by omega) (by omega) ?_
    refine WP_n 1 rfl ?_
    refine WP_icmpne rfl rfl ⟨by omega, by omega⟩ ⟨by omega, by omega⟩ (fun h11 => ?_) (fun h11 => ?_)
    · refine WP_n 2 rfl ?_
      refine ih ?_
      by_cases z : k = s
      · exact absurd (by rw [e, hF, z]) h11
      · omega
    · refine WP_n 1 rfl ?_
      refine WP_iret rfl rfl rfl ⟨_, rfl, ?_⟩
      have z : k = s := nth_inj (s := st) (by omega) (by omega) (by omega)
      rw [z]
      exact hq
theorem sp_G_digit {P : PP} {d : Nat} {FI A L : Nat → Nat → Int} {X : SX} {Q : Option AV → S2 → Prop} {K : Nat} (hK : FI 165 31 = (K : Int)) (hK6 : K ≤ 6) {x i : Nat} (hx : x < 5 ^ K) (hi : i < K) (hq : Q (some (vi (dc x (K - 1 - i) : Int))) (FI, A, L, X)) : WP2 P M_G_digit d 0 [some (vr 165), some (vi (x : Int)), some (vi (i : Int)), none, none] [] (FI, A, L, X) Q := by
  have hpK : 5 ^ K ≤ 5 ^ 6 := Nat.pow_le_pow_right (by omega) hK6
  refine WP_n 3 rfl ?_
  refine WP2_getf rfl rfl rfl rfl rfl ?_
  refine WP_n 3 rfl ?_
  suffices hw : ∀ j, j ≤ K - 1 - i → WP2 P M_G_digit d 7 [some (vr 165), some (vi (x : Int)), some (vi (i : Int)), some (vi ((x / 5 ^ j : Nat) : Int)), some (vi ((K : Int) - 1 - (j : Int)))] [] (FI, A, L, X) Q by
    have z := hw 0 (by omega)
    rw [Nat.pow_zero, Nat.div_one, show (K : Int) - 1 - ((0 : Nat) : Int) = (K : Int) - 1 by omega] at z
    rw [hK]
    exact z
  refine up_to (P := fun j => WP2 P M_G_digit d 7 [some (vr 165), some (vi (x : Int)), some (vi (i : Int)), some (vi ((x / 5 ^ j : Nat) : Int)), some (vi ((K : Int) - 1 - (j : Int)))] [] (FI, A, L, X) Q) (K - 1 - i) ?_ ?_
  · obtain ⟨w, hw⟩ : ∃ w, w = x / 5 ^ (K - 1 - i) := ⟨_, rfl⟩
    have hwx : w ≤ x := by rw [hw]; exact Nat.div_le_self _ _
    have hdc : dc x (K - 1 - i) = w % 5 := by rw [hw]; rfl
    rw [← hw]
    refine WP_n 2 rfl ?_
    refine WP_icmple rfl rfl ⟨by omega, by omega⟩ ⟨by omega, by omega⟩ (fun h9 => ?_) (fun h9 => absurd h9 (by omega))
    refine WP_n 2 rfl ?_
    refine WP_irem rfl (by omega) (by omega) (by omega) (by omega) rfl ?_
    refine WP_iret rfl rfl rfl ⟨_, rfl, ?_⟩
    rw [show (w : Int) % 5 = ((w % 5 : Nat) : Int) by omega, ← hdc]
    exact hq
  · intro j hj ih
    obtain ⟨w, hw⟩ : ∃ w, w = x / 5 ^ j := ⟨_, rfl⟩
    have hwx : w ≤ x := by rw [hw]; exact Nat.div_le_self _ _
    rw [← hw]
    rw [show x / 5 ^ (j + 1) = w / 5 from by rw [hw, Nat.div_div_eq_div_mul, Nat.pow_succ], show (K : Int) - 1 - ((j + 1 : Nat) : Int) = (K : Int) - 1 - (j : Int) + -1 by omega] at ih
    refine WP_n 2 rfl ?_
    refine WP_icmple rfl rfl ⟨by omega, by omega⟩ ⟨by omega, by omega⟩ (fun h9 => absurd h9 (by omega)) (fun h9 => ?_)
    refine WP_n 2 rfl ?_
    refine WP_idiv rfl (by omega) (by omega) (by omega) (by omega) rfl ?_
    refine WP_n 3 rfl ?_
    rw [show ((w / 5 : Nat) : Int) = (w : Int) / 5 from by omega] at ih
    exact ih
theorem sp_G_with {P : PP} {d : Nat} {FI A L : Nat → Nat → Int} {X : SX} {Q : Option AV → S2 → Prop} {K : Nat} (hK : FI 165 31 = (K : Int)) (hK6 : K ≤ 6) {x i s : Nat} (hx : x < 5 ^ K) (hi : i < K) (hs : s < 5) (hq : Q (some (vi (upx x (K - 1 - i) s : Int))) (FI, A, L, X)) : WP2 P M_G_with (d + 1) 0 [some (vr 165), some (vi (x : Int)), some (vi (i : Int)), some (vi (s : Int)), none, none] [] (FI, A, L, X) Q := by
  have hpK : 5 ^ K ≤ 5 ^ 6 := Nat.pow_le_pow_right (by omega) hK6
  refine WP_n 3 rfl ?_
  refine WP2_getf rfl rfl rfl rfl rfl ?_
  refine WP_n 3 rfl ?_
  suffices hw : ∀ j, j ≤ K - 1 - i → WP2 P M_G_with (d + 1) 7 [some (vr 165), some (vi (x : Int)), some (vi (i : Int)), some (vi (s : Int)), some (vi ((5 ^ j : Nat) : Int)), some (vi ((K : Int) - 1 - (j : Int)))] [] (FI, A, L, X) Q by
    have z := hw 0 (by omega)
    rw [Nat.pow_zero, show (K : Int) - 1 - ((0 : Nat) : Int) = (K : Int) - 1 by omega] at z
    rw [hK]
    exact z
  refine up_to (P := fun j => WP2 P M_G_with (d + 1) 7 [some (vr 165), some (vi (x : Int)), some (vi (i : Int)), some (vi (s : Int)), some (vi ((5 ^ j : Nat) : Int)), some (vi ((K : Int) - 1 - (j : Int)))] [] (FI, A, L, X) Q) (K - 1 - i) ?_ ?_
  · refine WP_n 2 rfl ?_
    refine WP_icmple rfl rfl ⟨by omega, by omega⟩ ⟨by omega, by omega⟩ (fun h9 => ?_) (fun h9 => absurd h9 (by omega))
    refine WP_n 5 rfl ?_
    refine WP2_callV 2 ok_M_G_digit rfl rfl rfl rfl rfl rfl (Nat.le_of_ble_eq_true rfl) (Nat.le_of_ble_eq_true rfl) rfl rfl ?_
    refine sp_G_digit hK hK6 hx hi ?_
    refine WP_n 4 rfl ?_
    refine WP_iret rfl rfl rfl ⟨_, rfl, ?_⟩
    rw [show (x : Int) + ((s : Int) - (dc x (K - 1 - i) : Int)) * ((5 ^ (K - 1 - i) : Nat) : Int) = ((upx x (K - 1 - i) s : Nat) : Int) from by
      have := dc_le (x := x) (p := K - 1 - i)
      rw [Int.sub_mul, ← Int.natCast_mul, ← Int.natCast_mul]
      unfold upx
      omega]
    exact hq
  · intro j hj ih
    rw [show ((5 ^ (j + 1) : Nat) : Int) = ((5 ^ j : Nat) : Int) * 5 from by rw [Nat.pow_succ, Int.natCast_mul]; rfl, show (K : Int) - 1 - ((j + 1 : Nat) : Int) = (K : Int) - 1 - (j : Int) + -1 by omega] at ih
    refine WP_n 2 rfl ?_
    refine WP_icmple rfl rfl ⟨by omega, by omega⟩ ⟨by omega, by omega⟩ (fun h9 => absurd h9 (by omega)) (fun h9 => ?_)
    refine WP_n 6 rfl ?_
    exact ih
theorem sp_G_freeIn {P : PP} {d : Nat} {FI A L : Nat → Nat → Int} {X : SX} {Q : Option AV → S2 → Prop} {c mv st K S : Nat} {fr sz : Nat → Int} (hr : RM FI A c mv st K S fr sz) {x s : Nat} (hx : x < 5 ^ K) (hs : s < S) (hq : Q (some (vi (freD fr sz K (gd (fun i => K - 1 - i) x) s))) (FI, A, L, X)) : WP2 P M_G_freeIn (d + 1) 0 [some (vr 165), some (vi (x : Int)), some (vi (s : Int)), none, none, none] [] (FI, A, L, X) Q := by
  have hK6 := hr.K6
  have hS5 := hr.S5
  have hc16 := hr.1.1
  have hF := hr.F hs
  have e9 := hr.2.2.2.1 s hs
  have hb := hr.2.2.2.2.2.1 _ hF
  have f0 := hr.2.1.1
  have f31 := hr.2.1.2.1
  have hpK : 5 ^ K ≤ 5 ^ 6 := Nat.pow_le_pow_right (by omega) hK6
  refine WP_n 1 rfl ?_
  refine WP2_getf rfl rfl rfl rfl rfl ?_
  refine WP_n 1 rfl ?_
  refine WP2_getf rfl rfl rfl rfl rfl ?_
  refine WP_n 1 rfl ?_
  refine WP2_iald (j := s) rfl rfl (ia_lit (n := 11) rfl rfl (by omega)) (by omega) (by omega) (by omega) ?_
  refine WP2_iald (j := (nth st s)) rfl rfl (ia_lit (n := 11) rfl rfl (by omega)) (by omega) (by omega) (by omega) ?_
  refine WP_n 3 rfl ?_
  suffices hw : ∀ t, t ≤ c → WP2 P M_G_freeIn (d + 1) 10 [some (vr 165), some (vi (x : Int)), some (vi (s : Int)), some (vi (A 166 (nth st s) - sumN (fun t => if (if mv.testBit t = true then dc x (K - 1 - pcR mv t) = s else A 174 t = (nth st s : Int)) then A 170 t else 0) t)), some (vi (t : Int)), none] [] (FI, A, L, X) Q by
    have z := hw 0 (by omega)
    rw [show A 166 (nth st s) - sumN (fun t => if (if mv.testBit t = true then dc x (K - 1 - pcR mv t) = s else A 174 t = (nth st s : Int)) then A 170 t else 0) 0 = A 166 (nth st s) from Int.sub_zero _] at z
    exact z
  refine up_to (P := fun t => WP2 P M_G_freeIn (d + 1) 10 [some (vr 165), some (vi (x : Int)), some (vi (s : Int)), some (vi (A 166 (nth st s) - sumN (fun t => if (if mv.testBit t = true then dc x (K - 1 - pcR mv t) = s else A 174 t = (nth st s : Int)) then A 170 t else 0) t)), some (vi (t : Int)), none] [] (FI, A, L, X) Q) c ?_ ?_
  · refine WP_n 2 rfl ?_
    refine WP2_getf rfl rfl rfl rfl rfl ?_
    refine WP_icmpge rfl rfl ⟨by omega, by omega⟩ ⟨by omega, by omega⟩ (fun h13 => ?_) (fun h13 => absurd h13 (by omega))
    refine WP_n 1 rfl ?_
    refine WP_iret rfl rfl rfl ⟨_, rfl, ?_⟩
    have e1 : sumN (fun t => if (if mv.testBit t = true then dc x (K - 1 - pcR mv t) = s else A 174 t = (nth st s : Int)) then A 170 t else 0) c = sumN (fun t => if mv.testBit t = false ∧ A 174 t = (nth st s : Int) then A 170 t else 0) c + sumN (fun t => if mv.testBit t = true then (fun j => if dc x (K - 1 - j) = s then sz j else 0) (pcR mv t) else 0) c := by
      refine sumN_add2 c (fun t ht => ?_)
      dsimp only
      by_cases w : mv.testBit t = true
      · have hpt : pcR mv t < K := by
          rw [hr.1.2.2.2.1]
          exact pcR_lt w (by omega)
        have e7 := hr.2.2.2.2.2.2.1 _ hpt
        rw [nth_ix (by omega) w] at e7
        rw [if_pos (c := mv.testBit t = true) (t := if dc x (K - 1 - pcR mv t) = s then sz (pcR mv t) else 0) w, if_neg (show ¬ (mv.testBit t = false ∧ A 174 t = (nth st s : Int)) from fun q => by rw [w] at q; exact absurd q.1 (by decide))]
        by_cases q : dc x (K - 1 - pcR mv t) = s
        · rw [if_pos (show (if mv.testBit t = true then dc x (K - 1 - pcR mv t) = s else A 174 t = (nth st s : Int)) from by rw [if_pos w]; exact q), if_pos q, e7]
          omega
        · rw [if_neg (show ¬ (if mv.testBit t = true then dc x (K - 1 - pcR mv t) = s else A 174 t = (nth st s : Int)) from by rw [if_pos w]; exact q), if_neg q]
          omega
      · have w2 : mv.testBit t = false := by revert w; cases mv.testBit t <;> decide
        rw [if_neg (c := mv.testBit t = true) (t := if dc x (K - 1 - pcR mv t) = s then sz (pcR mv t) else 0) w]
        by_cases q : A 174 t = (nth st s : Int)
        · rw [if_pos (show (if mv.testBit t = true then dc x (K - 1 - pcR mv t) = s else A 174 t = (nth st s : Int)) from by rw [if_neg w]; exact q), if_pos ⟨w2, q⟩]
          omega
        · rw [if_neg (show ¬ (if mv.testBit t = true then dc x (K - 1 - pcR mv t) = s else A 174 t = (nth st s : Int)) from by rw [if_neg w]; exact q), if_neg (fun z => q z.2)]
          omega
    have e3 := sumN_rank (s := mv) (f := fun j => if dc x (K - 1 - j) = s then sz j else 0) c
    rw [show pcR mv c = K from (hr.1.2.2.2.1.trans (pcR_top hr.1.2.1 16 hc16)).symm] at e3
    replace e1 := e1.trans (congrArg (fun z => sumN (fun t => if mv.testBit t = false ∧ A 174 t = (nth st s : Int) then A 170 t else 0) c + z) e3)
    rw [e1, show A 166 (nth st s) - (sumN (fun t => if mv.testBit t = false ∧ A 174 t = (nth st s : Int) then A 170 t else 0) c + sumN (fun j => if dc x (K - 1 - j) = s then sz j else 0) K) = freD fr sz K (gd (fun i => K - 1 - i) x) s from by
      unfold freD
      rw [hr.2.2.2.2.2.2.2 s hs]
      show _ = _ - sumN (fun j => if dc x (K - 1 - j) = s then sz j else 0) K
      omega]
    exact hq
  · intro t ht ih
    have h5 := hr.2.2.2.2.1 t ht
    refine WP_n 2 rfl ?_
    refine WP2_getf rfl rfl rfl rfl rfl ?_
    refine WP_icmpge rfl rfl ⟨by omega, by omega⟩ ⟨by omega, by omega⟩ (fun h13 => absurd h13 (by omega)) (fun h13 => ?_)
    refine WP_n 2 rfl ?_
    by_cases htb : mv.testBit t = true
    · have hpt : pcR mv t < K := by
        rw [hr.1.2.2.2.1]
        exact pcR_lt htb (by omega)
      have hd5 : dc x (K - 1 - pcR mv t) < 5 := dc_lt
      suffices hw2 : ∀ i, i ≤ pcR mv t → WP2 P M_G_freeIn (d + 1) 16 [some (vr 165), some (vi (x : Int)), some (vi (s : Int)), some (vi (A 166 (nth st s) - sumN (fun t => if (if mv.testBit t = true then dc x (K - 1 - pcR mv t) = s else A 174 t = (nth st s : Int)) then A 170 t else 0) t)), some (vi (t : Int)), some (vi (i : Int))] [] (FI, A, L, X) Q from hw2 0 (by omega)
      refine up_to (P := fun i => WP2 P M_G_freeIn (d + 1) 16 [some (vr 165), some (vi (x : Int)), some (vi (s : Int)), some (vi (A 166 (nth st s) - sumN (fun t => if (if mv.testBit t = true then dc x (K - 1 - pcR mv t) = s else A 174 t = (nth st s : Int)) then A 170 t else 0) t)), some (vi (t : Int)), some (vi (i : Int))] [] (FI, A, L, X) Q) (pcR mv t) ?_ ?_
      · have e8 := hr.2.2.1 _ hpt
        rw [nth_ix (by omega) htb] at e8
        refine WP_n 2 rfl ?_
        refine WP2_getf rfl rfl rfl rfl rfl ?_
        refine WP_icmpge rfl rfl ⟨by omega, by omega⟩ ⟨by omega, by omega⟩ (fun h19 => absurd h19 (by omega)) (fun h19 => ?_)
        refine WP_n 1 rfl ?_
        refine WP2_getf rfl rfl rfl rfl rfl ?_
        refine WP_n 1 rfl ?_
        refine WP2_iald (j := pcR mv t) rfl rfl (ia_lit (n := 16) rfl rfl (by omega)) (by omega) (by omega) (by omega) ?_
        refine WP_n 1 rfl ?_
        refine WP_icmpeq rfl rfl ⟨by omega, by omega⟩ ⟨by omega, by omega⟩ (fun h25 => ?_) (fun h25 => absurd h25 (by omega))
        refine WP_n 2 rfl ?_
        refine WP2_getf rfl rfl rfl rfl rfl ?_
        refine WP_icmpge rfl rfl ⟨by omega, by omega⟩ ⟨by omega, by omega⟩ (fun h31 => absurd h31 (by omega)) (fun h31 => ?_)
        refine WP_n 3 rfl ?_
        refine WP2_callV 2 ok_M_G_digit rfl rfl rfl rfl rfl rfl (Nat.le_of_ble_eq_true rfl) (Nat.le_of_ble_eq_true rfl) rfl rfl ?_
        refine sp_G_digit hr.2.1.2.1 hK6 hx hpt ?_
        refine WP_n 1 rfl ?_
        refine WP_icmpne rfl rfl ⟨by omega, by omega⟩ ⟨by omega, by omega⟩ (fun h37 => ?_) (fun h37 => ?_)
        · refine WP_n 2 rfl ?_
          show WP2 P M_G_freeIn (d + 1) 10 _ [] _ Q
          refine WP2_kill 5 ?_
          have e9 : sumN (fun t => if (if mv.testBit t = true then dc x (K - 1 - pcR mv t) = s else A 174 t = (nth st s : Int)) then A 170 t else 0) (t + 1) = sumN (fun t => if (if mv.testBit t = true then dc x (K - 1 - pcR mv t) = s else A 174 t = (nth st s : Int)) then A 170 t else 0) t + 0 := by
            show sumN (fun t => if (if mv.testBit t = true then dc x (K - 1 - pcR mv t) = s else A 174 t = (nth st s : Int)) then A 170 t else 0) t + (if (if mv.testBit t = true then dc x (K - 1 - pcR mv t) = s else A 174 t = (nth st s : Int)) then A 170 t else 0) = _
            rw [if_neg (by rw [if_pos htb]; omega)]
          rw [e9] at ih
          rw [show A 166 (nth st s) - (sumN (fun t => if (if mv.testBit t = true then dc x (K - 1 - pcR mv t) = s else A 174 t = (nth st s : Int)) then A 170 t else 0) t + 0) = A 166 (nth st s) - sumN (fun t => if (if mv.testBit t = true then dc x (K - 1 - pcR mv t) = s else A 174 t = (nth st s : Int)) then A 170 t else 0) t by omega] at ih
          exact ih
        · refine WP_n 3 rfl ?_
          refine WP2_getf rfl rfl rfl rfl rfl ?_
          refine WP_n 1 rfl ?_
          refine WP2_iald (j := t) rfl rfl (ia_lit (n := 16) rfl rfl (by omega)) (by omega) (by omega) (by omega) ?_
          refine WP_n 4 rfl ?_
          show WP2 P M_G_freeIn (d + 1) 10 _ [] _ Q
          refine WP2_kill 5 ?_
          have e9 : sumN (fun t => if (if mv.testBit t = true then dc x (K - 1 - pcR mv t) = s else A 174 t = (nth st s : Int)) then A 170 t else 0) (t + 1) = sumN (fun t => if (if mv.testBit t = true then dc x (K - 1 - pcR mv t) = s else A 174 t = (nth st s : Int)) then A 170 t else 0) t + A 170 t := by
            show sumN (fun t => if (if mv.testBit t = true then dc x (K - 1 - pcR mv t) = s else A 174 t = (nth st s : Int)) then A 170 t else 0) t + (if (if mv.testBit t = true then dc x (K - 1 - pcR mv t) = s else A 174 t = (nth st s : Int)) then A 170 t else 0) = _
            rw [if_pos (by rw [if_pos htb]; omega)]
          rw [e9] at ih
          rw [show A 166 (nth st s) - (sumN (fun t => if (if mv.testBit t = true then dc x (K - 1 - pcR mv t) = s else A 174 t = (nth st s : Int)) then A 170 t else 0) t + A 170 t) = A 166 (nth st s) - sumN (fun t => if (if mv.testBit t = true then dc x (K - 1 - pcR mv t) = s else A 174 t = (nth st s : Int)) then A 170 t else 0) t - A 170 t by omega] at ih
          exact ih
      · intro i hi ih2
        have e8 := hr.2.2.1 i (by omega)
        have hT := hr.T (i := i) (by omega)
        have hne : nth mv i ≠ t := fun w => by
          have q := (nth_ok (s := mv) (i := i) (by have := hr.1.2.2.2.1; omega)).2.1
          rw [w] at q
          omega
        refine WP_n 2 rfl ?_
        refine WP2_getf rfl rfl rfl rfl rfl ?_
        refine WP_icmpge rfl rfl ⟨by omega, by omega⟩ ⟨by omega, by omega⟩ (fun h19 => absurd h19 (by omega)) (fun h19 => ?_)
        refine WP_n 1 rfl ?_
        refine WP2_getf rfl rfl rfl rfl rfl ?_
        refine WP_n 1 rfl ?_
        refine WP2_iald (j := i) rfl rfl (ia_lit (n := 16) rfl rfl (by omega)) (by omega) (by omega) (by omega) ?_
        refine WP_n 1 rfl ?_
        refine WP_icmpeq rfl rfl ⟨by omega, by omega⟩ ⟨by omega, by omega⟩ (fun h25 => absurd h25 (by omega)) (fun h25 => ?_)
        refine WP_n 2 rfl ?_
        exact ih2
    · suffices hw2 : ∀ i, i ≤ K → WP2 P M_G_freeIn (d + 1) 16 [some (vr 165), some (vi (x : Int)), some (vi (s : Int)), some (vi (A 166 (nth st s) - sumN (fun t => if (if mv.testBit t = true then dc x (K - 1 - pcR mv t) = s else A 174 t = (nth st s : Int)) then A 170 t else 0) t)), some (vi (t : Int)), some (vi (i : Int))] [] (FI, A, L, X) Q from hw2 0 (by omega)
      refine up_to (P := fun i => WP2 P M_G_freeIn (d + 1) 16 [some (vr 165), some (vi (x : Int)), some (vi (s : Int)), some (vi (A 166 (nth st s) - sumN (fun t => if (if mv.testBit t = true then dc x (K - 1 - pcR mv t) = s else A 174 t = (nth st s : Int)) then A 170 t else 0) t)), some (vi (t : Int)), some (vi (i : Int))] [] (FI, A, L, X) Q) K ?_ ?_
      · refine WP_n 2 rfl ?_
        refine WP2_getf rfl rfl rfl rfl rfl ?_
        refine WP_icmpge rfl rfl ⟨by omega, by omega⟩ ⟨by omega, by omega⟩ (fun h19 => ?_) (fun h19 => absurd h19 (by omega))
        refine WP_n 2 rfl ?_
        refine WP2_getf rfl rfl rfl rfl rfl ?_
        refine WP_icmpge rfl rfl ⟨by omega, by omega⟩ ⟨by omega, by omega⟩ (fun h31 => ?_) (fun h31 => absurd h31 (by omega))
        refine WP_n 1 rfl ?_
        refine WP2_getf rfl rfl rfl rfl rfl ?_
        refine WP_n 1 rfl ?_
        refine WP2_iald (j := t) rfl rfl (ia_lit (n := 16) rfl rfl (by omega)) (by omega) (by omega) (by omega) ?_
        refine WP_n 1 rfl ?_
        refine WP2_getf rfl rfl rfl rfl rfl ?_
        refine WP_n 1 rfl ?_
        refine WP2_iald (j := s) rfl rfl (ia_lit (n := 11) rfl rfl (by omega)) (by omega) (by omega) (by omega) ?_
        refine WP_icmpne rfl rfl ⟨by omega, by omega⟩ ⟨by omega, by omega⟩ (fun h47 => ?_) (fun h47 => ?_)
        · refine WP_n 2 rfl ?_
          show WP2 P M_G_freeIn (d + 1) 10 _ [] _ Q
          refine WP2_kill 5 ?_
          have e9 : sumN (fun t => if (if mv.testBit t = true then dc x (K - 1 - pcR mv t) = s else A 174 t = (nth st s : Int)) then A 170 t else 0) (t + 1) = sumN (fun t => if (if mv.testBit t = true then dc x (K - 1 - pcR mv t) = s else A 174 t = (nth st s : Int)) then A 170 t else 0) t + 0 := by
            show sumN (fun t => if (if mv.testBit t = true then dc x (K - 1 - pcR mv t) = s else A 174 t = (nth st s : Int)) then A 170 t else 0) t + (if (if mv.testBit t = true then dc x (K - 1 - pcR mv t) = s else A 174 t = (nth st s : Int)) then A 170 t else 0) = _
            rw [if_neg (by rw [if_neg htb]; omega)]
          rw [e9] at ih
          rw [show A 166 (nth st s) - (sumN (fun t => if (if mv.testBit t = true then dc x (K - 1 - pcR mv t) = s else A 174 t = (nth st s : Int)) then A 170 t else 0) t + 0) = A 166 (nth st s) - sumN (fun t => if (if mv.testBit t = true then dc x (K - 1 - pcR mv t) = s else A 174 t = (nth st s : Int)) then A 170 t else 0) t by omega] at ih
          exact ih
        · refine WP_n 2 rfl ?_
          refine WP2_getf rfl rfl rfl rfl rfl ?_
          refine WP_n 1 rfl ?_
          refine WP2_iald (j := t) rfl rfl (ia_lit (n := 16) rfl rfl (by omega)) (by omega) (by omega) (by omega) ?_
          refine WP_n 4 rfl ?_
          show WP2 P M_G_freeIn (d + 1) 10 _ [] _ Q
          refine WP2_kill 5 ?_
          have e9 : sumN (fun t => if (if mv.testBit t = true then dc x (K - 1 - pcR mv t) = s else A 174 t = (nth st s : Int)) then A 170 t else 0) (t + 1) = sumN (fun t => if (if mv.testBit t = true then dc x (K - 1 - pcR mv t) = s else A 174 t = (nth st s : Int)) then A 170 t else 0) t + A 170 t := by
            show sumN (fun t => if (if mv.testBit t = true then dc x (K - 1 - pcR mv t) = s else A 174 t = (nth st s : Int)) then A 170 t else 0) t + (if (if mv.testBit t = true then dc x (K - 1 - pcR mv t) = s else A 174 t = (nth st s : Int)) then A 170 t else 0) = _
            rw [if_pos (by rw [if_neg htb]; omega)]
          rw [e9] at ih
          rw [show A 166 (nth st s) - (sumN (fun t => if (if mv.testBit t = true then dc x (K - 1 - pcR mv t) = s else A 174 t = (nth st s : Int)) then A 170 t else 0) t + A 170 t) = A 166 (nth st s) - sumN (fun t => if (if mv.testBit t = true then dc x (K - 1 - pcR mv t) = s else A 174 t = (nth st s : Int)) then A 170 t else 0) t - A 170 t by omega] at ih
          exact ih
      · intro i hi ih2
        have e8 := hr.2.2.1 i hi
        have hT := hr.T hi
        have hne : nth mv i ≠ t := fun w => htb (by
          have q := (nth_ok (s := mv) (i := i) (by have := hr.1.2.2.2.1; omega)).1
          rw [w] at q
          exact q)
        refine WP_n 2 rfl ?_
        refine WP2_getf rfl rfl rfl rfl rfl ?_
        refine WP_icmpge rfl rfl ⟨by omega, by omega⟩ ⟨by omega, by omega⟩ (fun h19 => absurd h19 (by omega)) (fun h19 => ?_)
        refine WP_n 1 rfl ?_
        refine WP2_getf rfl rfl rfl rfl rfl ?_
        refine WP_n 1 rfl ?_
        refine WP2_iald (j := i) rfl rfl (ia_lit (n := 16) rfl rfl (by omega)) (by omega) (by omega) (by omega) ?_
        refine WP_n 1 rfl ?_
        refine WP_icmpeq rfl rfl ⟨by omega, by omega⟩ ⟨by omega, by omega⟩ (fun h25 => absurd h25 (by omega)) (fun h25 => ?_)
        refine WP_n 2 rfl ?_
        exact ih2

/-! partial seatings -/
def agT (A : Nat → Nat → Int) (c T F : Nat) (pl : Nat → Int) : Prop := suitsP A F T ∧ ∀ u, u < c → pl u ≠ -9 → agrP A T (F : Int) u (pl u)
def wkS (A : Nat → Nat → Int) (c T F : Nat) (pl : Nat → Int) : Int := sumN (fun u => if pl u ≠ -9 then A (37 + T) u * absd (F : Int) (pl u) else 0) c
theorem sumN_ins {g g' : Nat → Int} {T : Nat} : ∀ c, T < c → (∀ t, t < c → t ≠ T → g' t = g t) → sumN g' c = sumN g c - g T + g' T
  | 0, h, _ => absurd h (by omega)
  | c + 1, h, he => by
    show sumN g' c + g' c = sumN g c + g c - g T + g' T
    by_cases e : T = c
    · subst e
      rw [sumN_congr T (fun t ht => he t (by omega) (by omega))]
      omega
    · rw [sumN_ins c (by omega) (fun t ht h2 => he t (by omega) h2), he c (by omega) (by omega)]
      omega
theorem agrP_iff {n : Nat} {FI A : Nat → Nat → Int} (hI : cI n FI A) {T u : Nat} (hT : T < 16) (hu : u < 16) {pl : Nat → Int} : agrP A T (pl T) u (pl u) ↔ gPP A pl T u ∧ gPP A pl u T := by
  have h1 := hI.2.2.2.2.1 T u hT hu
  unfold cTw at h1
  unfold agrP gPP
  rw [absd_sym (pl u) (pl T)]
  constructor
  · rintro ⟨a, b⟩
    refine ⟨⟨a, fun e => ?_⟩, ⟨fun e => a ⟨by omega, e.2⟩, fun e => ?_⟩⟩
    · have := b e
      omega
    · have := b e.symm
      omega
  · rintro ⟨⟨a, b⟩, ⟨_, b2⟩⟩
    refine ⟨a, fun e => ?_⟩
    have := b e
    have := b2 e.symm
    omega
theorem FIT_ins {n : Nat} {FI A : Nat → Nat → Int} {c : Nat} (hI : cI n FI A) (hc : FI 6 8 = (c : Int)) {pl pl' : Nat → Int} {T F : Nat} (hT : T < c) (h0 : pl T = -9) (h1 : pl' T = (F : Int)) (he : ∀ t, t < c → t ≠ T → pl' t = pl t) (hF : F < 11) : FIT A c pl' ↔ FIT A c pl ∧ occ A pl F c + A (20 + T) 0 ≤ A (8 + F) 0 ∧ agT A c T F pl := by
  have hcc := hI.1
  have hqT := hI.2.2.2.1 T (by omega)
  unfold cTm at hqT
  have eo : ∀ f : Nat, occ A pl' f c = occ A pl f c + (if f = F then A (20 + T) 0 else 0) := fun f => by
    have z := sumN_ins (g := fun t => if pl t = (f : Int) then A (20 + t) 0 else 0) (g' := fun t => if pl' t = (f : Int) then A (20 + t) 0 else 0) c hT (fun t ht h2 => by rw [he t ht h2])
    unfold occ
    rw [z]
    rw [if_neg (show ¬ pl T = (f : Int) by omega), h1]
    by_cases e : f = F
    · rw [if_pos e, if_pos (by omega)]; omega
    · rw [if_neg e, if_neg (by omega)]; omega
  have hne : ∀ u, u < c → pl u ≠ -9 → u ≠ T := fun u hu q e => q (by rw [e]; exact h0)
  have gcong : ∀ a b, a < c → b < c → a ≠ T → b ≠ T → (gPP A pl' a b ↔ gPP A pl a b) := fun a b ha hb q1 q2 => by
    unfold gPP
    rw [he a ha q1, he b hb q2]
  rw [FIT_iff hI hc, FIT_iff hI hc]
  constructor
  · rintro ⟨a1, a2⟩
    refine ⟨⟨fun f hf => ?_, fun a ha hpa => ?_⟩, ?_, ?_, fun u hu hpu => ?_⟩
    · have := a1 f hf
      rw [eo f] at this
      split at this <;> omega
    · have q := hne a ha hpa
      have z := a2 a ha (by rw [he a ha q]; exact hpa)
      rw [he a ha q] at z
      refine ⟨z.1, fun b hb hba hpb => ?_⟩
      have q2 := hne b hb hpb
      exact (gcong a b ha hb q q2).mp (z.2 b hb hba (by rw [he b hb q2]; exact hpb))
    · have := a1 F hF
      rw [eo F, if_pos rfl] at this
      exact this
    · have z := (a2 T hT (by rw [h1]; omega)).1
      rw [h1] at z
      exact z
    · have q := hne u hu hpu
      have hpu' : pl' u ≠ -9 := by rw [he u hu q]; exact hpu
      have z1 := (a2 T hT (by rw [h1]; omega)).2 u hu q hpu'
      have z2 := (a2 u hu hpu').2 T hT (fun e => q e.symm) (by rw [h1]; omega)
      have z := (agrP_iff hI (by omega) (by omega)).mpr ⟨z1, z2⟩
      rw [h1, he u hu q] at z
      exact z
  · rintro ⟨⟨a1, a2⟩, a3, a4, a5⟩
    have ag : ∀ u, u < c → u ≠ T → pl' u ≠ -9 → gPP A pl' T u ∧ gPP A pl' u T := fun u hu q hpu => by
      have z := a5 u hu (by rw [← he u hu q]; exact hpu)
      rw [← h1, ← he u hu q] at z
      exact (agrP_iff hI (by omega) (by omega)).mp z
    refine ⟨fun f hf => ?_, fun a ha hpa => ?_⟩
    · rw [eo f]
      have := a1 f hf
      by_cases e : f = F
      · rw [if_pos e, e]; exact a3
      · rw [if_neg e]; omega
    · by_cases e : a = T
      · rw [e]
        refine ⟨by rw [h1]; exact a4, fun b hb hba hpb => (ag b hb hba hpb).1⟩
      · have hpa' : pl a ≠ -9 := by rw [← he a ha e]; exact hpa
        have z := a2 a ha hpa'
        refine ⟨by rw [he a ha e]; exact z.1, fun b hb hba hpb => ?_⟩
        by_cases e2 : b = T
        · rw [e2]
          exact (ag a ha e hpa).2
        · exact (gcong a b ha hb e e2).mpr (z.2 b hb hba (by rw [← he b hb e2]; exact hpb))
theorem walkP_ins {n : Nat} {FI A : Nat → Nat → Int} {c : Nat} (hI : cI n FI A) (hc : FI 6 8 = (c : Int)) {pl pl' : Nat → Int} {T F : Nat} (hT : T < c) (h0 : pl T = -9) (h1 : pl' T = (F : Int)) (he : ∀ t, t < c → t ≠ T → pl' t = pl t) : walkP A pl' c = walkP A pl c + wkS A c T F pl := by
  have hcc := hI.1
  have hz : ∀ b, wk2 A pl T b = 0 := fun b => if_neg (fun q => q.1 h0)
  have key : ∀ k, k ≤ c → walkP A pl' k = walkP A pl k + (if T < k then wkS A k T F pl else 0) := by
    intro k
    induction k with
    | zero => intro _; rfl
    | succ k ih =>
      intro hk
      have i := ih (by omega)
      show walkP A pl' k + sumN (fun b => wk2 A pl' k b) k = walkP A pl k + sumN (fun b => wk2 A pl k b) k + _
      rcases Nat.lt_trichotomy T k with q | q | q
      · have z := sumN_ins (g := fun b => wk2 A pl k b) (g' := fun b => wk2 A pl' k b) (T := T) k q (fun t ht h2 => by unfold wk2; rw [he k (by omega) (by omega), he t (by omega) h2])
        have zT : wk2 A pl k T = 0 := if_neg (fun r => r.2 h0)
        have sy := (hI.2.2.2.2.1 T k (by omega) (by omega)).1.2.2
        have zT' : wk2 A pl' k T = if pl k ≠ -9 then A (37 + T) k * absd (F : Int) (pl k) else 0 := by
          unfold wk2
          rw [he k (by omega) (by omega), h1, ← sy, absd_sym]
          by_cases r : pl k ≠ -9
          · rw [if_pos r, if_pos ⟨r, by omega⟩]
          · rw [if_neg r, if_neg (fun w => r w.1)]
        rw [z, if_pos (by omega)]
        rw [if_pos q] at i
        show _ = _ + (wkS A k T F pl + _)
        dsimp only at zT zT' ⊢
        rw [zT, zT', i]
        omega
      · subst q
        rw [if_neg (by omega)] at i
        rw [if_pos (by omega), i]
        have e1 : sumN (fun b => wk2 A pl T b) T = 0 := by
          rw [sumN_congr (g := fun _ => 0) T (fun b _ => hz b)]
          have : ∀ n, sumN (fun _ => (0 : Int)) n = 0 := by
            intro n
            induction n with
            | zero => rfl
            | succ n ih => show sumN _ n + 0 = 0; rw [ih]; rfl
          exact this T
        have e2 : sumN (fun b => wk2 A pl' T b) T = wkS A T T F pl := sumN_congr T (fun b hb => by
          unfold wk2
          rw [h1, he b (by omega) (by omega)]
          by_cases r : pl b ≠ -9
          · rw [if_pos r, if_pos ⟨by omega, r⟩]
          · rw [if_neg r, if_neg (fun w => r w.2)])
        rw [e1, e2]
        show _ = _ + (wkS A T T F pl + (if pl T ≠ -9 then _ else 0))
        rw [if_neg (fun r => r h0)]
        omega
      · rw [if_neg (by omega)] at i ⊢
        rw [i, sumN_congr (f := fun b => wk2 A pl' k b) (g := fun b => wk2 A pl k b) k (fun b hb => by unfold wk2; rw [he k (by omega) (by omega), he b (by omega) (by omega)])]
        omega
  have := key c (by omega)
  rw [if_pos hT] at this
  exact this
theorem wkS_ins {A : Nat → Nat → Int} {c T F U : Nat} {G : Nat} {pl pl' : Nat → Int} (hU : U < c) (h0 : pl U = -9) (h1 : pl' U = (G : Int)) (he : ∀ t, t < c → t ≠ U → pl' t = pl t) : wkS A c T F pl' = wkS A c T F pl + A (37 + T) U * absd (F : Int) (G : Int) := by
  have z := sumN_ins (g := fun u => if pl u ≠ -9 then A (37 + T) u * absd (F : Int) (pl u) else 0) (g' := fun u => if pl' u ≠ -9 then A (37 + T) u * absd (F : Int) (pl' u) else 0) c hU (fun t ht h2 => by rw [he t ht h2])
  unfold wkS
  rw [z]
  rw [h0, h1, if_neg (by omega), if_pos (by omega)]
  omega
theorem agT_ins {A : Nat → Nat → Int} {c T F U : Nat} {G : Nat} {pl pl' : Nat → Int} (hU : U < c) (h0 : pl U = -9) (h1 : pl' U = (G : Int)) (he : ∀ t, t < c → t ≠ U → pl' t = pl t) : agT A c T F pl' ↔ agT A c T F pl ∧ agrP A T (F : Int) U (G : Int) := by
  constructor
  · rintro ⟨a, b⟩
    refine ⟨⟨a, fun u hu hp => ?_⟩, ?_⟩
    · have q : u ≠ U := fun e => hp (by rw [e]; exact h0)
      have z := b u hu (by rw [he u hu q]; exact hp)
      rw [he u hu q] at z
      exact z
    · have z := b U hU (by rw [h1]; omega)
      rw [h1] at z
      exact z
  · rintro ⟨⟨a, b⟩, d⟩
    refine ⟨a, fun u hu hp => ?_⟩
    by_cases q : u = U
    · rw [q, h1]; exact d
    · rw [he u hu q] at hp ⊢
      exact b u hu hp
theorem wkS_bd {n : Nat} {FI A : Nat → Nat → Int} {c : Nat} (hI : cI n FI A) (hc : FI 6 8 = (c : Int)) {T F : Nat} (hT : T < 16) (hF : F < 11) {pl : Nat → Int} (hpl : ∀ t, t < c → pl t = -9 ∨ (0 ≤ pl t ∧ pl t < 11)) (k : Nat) (hk : k ≤ c) : 0 ≤ wkS A k T F pl ∧ wkS A k T F pl ≤ 15840 := by
  have hcc := hI.1
  have := sumN_bd (f := fun u => if pl u ≠ -9 then A (37 + T) u * absd (F : Int) (pl u) else 0) (lo := 0) (hi := 990) k (fun u hu => by
    have h1 := hI.2.2.2.2.1 T u hT (by omega)
    unfold cTw at h1
    have h2 := hpl u (by omega)
    split
    · have h3 := absd_bd (x := (F : Int)) (y := pl u) (by omega) (by omega)
      have := mulB (x := A (37 + T) u) (y := absd (F : Int) (pl u)) (a := 99) (b := 10) (by omega) (by omega) (by omega) (by omega)
      omega
    · omega)
  unfold wkS
  omega
def dig (m k p i : Nat) : Nat := p / m ^ (k - 1 - i) % m
theorem dig_lo {m k p o i : Nat} (ho : o < m) (hi : i < k) : dig m (k + 1) (p * m + o) i = dig m k p i := by
  unfold dig
  rw [show k + 1 - 1 - i = (k - 1 - i) + 1 by omega, Nat.pow_succ, Nat.mul_comm (m ^ (k - 1 - i)) m, ← Nat.div_div_eq_div_mul, Nat.mul_comm p m, Nat.mul_add_div (by omega), Nat.div_eq_of_lt ho, Nat.add_zero]
theorem dig_hi {m k p o : Nat} (ho : o < m) : dig m (k + 1) (p * m + o) k = o := by
  unfold dig
  rw [show k + 1 - 1 - k = 0 by omega, Nat.pow_zero, Nat.div_one, Nat.mul_comm p m, Nat.mul_add_mod, Nat.mod_eq_of_lt ho]
theorem dig_lt {m k p i : Nat} (hm : 0 < m) : dig m k p i < m := Nat.mod_lt _ hm
def plW (A : Nat → Nat → Int) (ts fs m k p t : Nat) : Int := if ts.testBit t = true then (if pcR ts t < k then (nth fs (dig m k p (pcR ts t)) : Int) else -9) else A (20 + t) 4
theorem plW_0 {A : Nat → Nat → Int} {ts fs m p : Nat} (t : Nat) : plW A ts fs m 0 p t = pw A ts t := by
  unfold plW pw
  cases ts.testBit t
  · rfl
  · rw [if_pos rfl, if_pos rfl, if_neg (by omega)]
theorem plW_T0 {A : Nat → Nat → Int} {ts fs m k p : Nat} (hk : k < pcR ts 16) : plW A ts fs m k p (nth ts k) = -9 := by
  have h := nth_ok hk
  unfold plW
  rw [if_pos h.1, h.2.1, if_neg (by omega)]
theorem plW_T1 {A : Nat → Nat → Int} {ts fs m k p o : Nat} (hk : k < pcR ts 16) (ho : o < m) : plW A ts fs m (k + 1) (p * m + o) (nth ts k) = (nth fs o : Int) := by
  have h := nth_ok hk
  unfold plW
  rw [if_pos h.1, h.2.1, if_pos (by omega), dig_hi ho]
theorem plW_ne {A : Nat → Nat → Int} {ts fs m k p o t : Nat} (ht : t < 16) (ho : o < m) (hne : t ≠ nth ts k) : plW A ts fs m (k + 1) (p * m + o) t = plW A ts fs m k p t := by
  unfold plW
  cases hb : ts.testBit t
  · rfl
  · rw [if_pos rfl, if_pos rfl]
    have : pcR ts t ≠ k := fun e => hne (by rw [← e, nth_ix ht hb])
    by_cases q : pcR ts t < k
    · rw [if_pos (by omega), if_pos q, dig_lo ho q]
    · rw [if_neg (by omega), if_neg q]
theorem plW_rg {A : Nat → Nat → Int} {ts fs m k p t : Nat} (hA : A (20 + t) 4 = -9 ∨ (0 ≤ A (20 + t) 4 ∧ A (20 + t) 4 < 11)) (hf : fs < 2048) (hm : m = pcR fs 16) (hm0 : 0 < m) : plW A ts fs m k p t = -9 ∨ (0 ≤ plW A ts fs m k p t ∧ plW A ts fs m k p t < 11) := by
  unfold plW
  split
  · split
    · have h := nth_ok (s := fs) (i := dig m k p (pcR ts t)) (by rw [← hm]; exact dig_lt hm0)
      have := tb_lt16 (c := 11) (by omega) h.1
      omega
    · exact Or.inl rfl
  · exact hA
def chg (A : Nat → Nat → Int) (ts fs m k p : Nat) : Int := sumN (fun i => if A (20 + nth ts i) 4 = (nth fs (dig m k p i) : Int) then 0 else 1) k
theorem chg_s {A : Nat → Nat → Int} {ts fs m k p o : Nat} (ho : o < m) : chg A ts fs m (k + 1) (p * m + o) = chg A ts fs m k p + (if A (20 + nth ts k) 4 = (nth fs o : Int) then 0 else 1) := by
  show sumN _ k + _ = _
  dsimp only
  rw [dig_hi ho]
  congr 1
  exact sumN_congr k (fun i hi => by rw [dig_lo ho hi])
theorem chg_bd {A : Nat → Nat → Int} {ts fs m k p : Nat} : 0 ≤ chg A ts fs m k p ∧ chg A ts fs m k p ≤ k := by
  have := sumN_bd (f := fun i => if A (20 + nth ts i) 4 = (nth fs (dig m k p i) : Int) then (0 : Int) else 1) (lo := 0) (hi := 1) k (fun i _ => by split <;> omega)
  unfold chg
  omega
def leS (WK CH : Nat → Int) (b w : Nat) : Prop := WK b < WK w ∨ (WK b = WK w ∧ (CH b < CH w ∨ (CH b = CH w ∧ b ≤ w)))
def BJ (FT : Nat → Prop) (WK CH : Nat → Int) (N : Nat) (fd wk ch : Int) (bp : Nat → Prop) : Prop := (fd = 0 ∧ ∀ w, w < N → ¬ FT w) ∨ (fd = 1 ∧ ∃ b, b < N ∧ FT b ∧ wk = WK b ∧ ch = CH b ∧ bp b ∧ ∀ w, w < N → FT w → leS WK CH b w)
theorem BJ.skip {FT : Nat → Prop} {WK CH : Nat → Int} {N N' : Nat} {fd wk ch : Int} {bp : Nat → Prop} (h : BJ FT WK CH N fd wk ch bp) (hN : N ≤ N') (m : ∀ w, N ≤ w → w < N' → FT w → fd = 1 ∧ (wk < WK w ∨ (wk = WK w ∧ ch ≤ CH w))) : BJ FT WK CH N' fd wk ch bp := by
  rcases h with ⟨h1, h2⟩ | ⟨h1, b, h2, h3, h4, h5, h6, h7⟩
  · refine Or.inl ⟨h1, fun w hw hf => ?_⟩
    by_cases q : w < N
    · exact h2 w q hf
    · have := (m w (by omega) hw hf).1
      omega
  · refine Or.inr ⟨h1, b, by omega, h3, h4, h5, h6, fun w hw hf => ?_⟩
    by_cases q : w < N
    · exact h7 w q hf
    · have := (m w (by omega) hw hf).2
      unfold leS
      omega
theorem BJ.put {FT : Nat → Prop} {WK CH : Nat → Int} {N : Nat} {fd wk ch : Int} {bp bp' : Nat → Prop} (h : BJ FT WK CH N fd wk ch bp) (hf : FT N) (hb : fd = 0 ∨ WK N < wk ∨ (WK N = wk ∧ CH N < ch)) (hp : bp' N) : BJ FT WK CH (N + 1) 1 (WK N) (CH N) bp' := by
  refine Or.inr ⟨rfl, N, by omega, hf, rfl, rfl, hp, fun w hw hw2 => ?_⟩
  by_cases q : w = N
  · subst q
    unfold leS
    omega
  · rcases h with ⟨h1, h2⟩ | ⟨h1, b, h2, h3, h4, h5, h6, h7⟩
    · exact absurd hw2 (h2 w (by omega))
    · have z := h7 w (by omega) hw2
      unfold leS at *
      omega
theorem BJ.uniq {FT : Nat → Prop} {WK CH : Nat → Int} {N : Nat} {fd wk ch fd' wk' ch' : Int} {bp bp' : Nat → Prop} (h : BJ FT WK CH N fd wk ch bp) (h' : BJ FT WK CH N fd' wk' ch' bp') : (fd = 0 ∧ fd' = 0) ∨ (fd = 1 ∧ fd' = 1 ∧ wk' = wk ∧ ch' = ch ∧ ∃ b, b < N ∧ wk = WK b ∧ ch = CH b ∧ bp b ∧ bp' b) := by
  rcases h with ⟨h1, h2⟩ | ⟨h1, b, h2, h3, h4, h5, h6, h7⟩ <;> rcases h' with ⟨k1, k2⟩ | ⟨k1, e, k2, k3, k4, k5, k6, k7⟩
  · exact Or.inl ⟨h1, k1⟩
  · exact absurd k3 (h2 e k2)
  · exact absurd h3 (k2 b h2)
  · have a1 := h7 e k2 k3
    have a2 := k7 b h2 h3
    unfold leS at a1 a2
    obtain rfl : b = e := by omega
    exact Or.inr ⟨h1, k1, by omega, by omega, b, h2, h4, h5, h6, k6⟩

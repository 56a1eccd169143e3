/-! the search for a seating: the class -/
theorem sp_walkAP {P : PP} {d : Nat} {FI A L : Nat → Nat → Int} {X : SX} {Q : Option AV → S2 → Prop} {n : Nat} {FI0 A0 : Nat → Nat → Int} {c ts fs nn m : Nat} (hh : HH n FI0 A0 c ts fs nn m) (hS : SSt FI0 A0 c ts fs nn m FI A) {k o p : Nat} (hk : k < nn) (ho : o < m) (hTr : ∀ i, i < k → A 150 i = (nth fs (dig m k p i) : Int)) (hq : ∀ v : Int, wv A0 c (nth ts k) (nth fs o) (plW A0 ts fs m k (p)) v → Q (some (vi v)) (FI, A, L, X)) : WP2 P M_S_walkAmongPlaced (d + 2) 0 [some (vr 138), some (vi (k : Int)), some (vi (o : Int)), none, none] [] (FI, A, L, X) Q := by
  have hI := hh.1.off hS.1
  have hc : FI 6 8 = (c : Int) := hS.1.1.1.trans hh.2.1
  have hT := hh.T hk
  have hF := hh.F ho
  have hc16 := hh.c
  have hnn := hh.2.2.2.2.1
  have hm4 := hh.2.2.2.2.2.2.2.1
  have hk16 : ∀ e, e < k → e < pcR ts 16 := fun e he => by have := hh.2.2.2.1; omega
  have eD : ∀ e, e < k → p / m ^ (k - (e + 1)) = p / m ^ (k - e) * m + dig m k p e := fun e he => by
    unfold dig
    rw [show k - 1 - e = k - (e + 1) by omega]
    have := Nat.div_add_mod (p / m ^ (k - (e + 1))) m
    rw [Nat.div_div_eq_div_mul, ← Nat.pow_succ, show (k - (e + 1)).succ = k - e by omega, Nat.mul_comm] at this
    exact this.symm
  have hdl : ∀ e, dig m k p e < m := fun e => dig_lt hh.2.2.2.2.2.2.2.2
  have i0 : ∀ e, e < k → (plW A0 ts fs m e (p / m ^ (k - e))) (nth ts e) = -9 := fun e he => plW_T0 (hk16 e he)
  have i1 : ∀ e, e < k → (plW A0 ts fs m (e + 1) (p / m ^ (k - (e + 1)))) (nth ts e) = (nth fs (dig m k p e) : Int) := fun e he => by rw [eD e he]; exact plW_T1 (hk16 e he) (hdl e)
  have i2 : ∀ e, e < k → ∀ t, t < c → t ≠ nth ts e → (plW A0 ts fs m (e + 1) (p / m ^ (k - (e + 1)))) t = (plW A0 ts fs m e (p / m ^ (k - e))) t := fun e he t ht q => by rw [eD e he]; exact plW_ne (by omega) (hdl e) q
  have hU : ∀ e, e < k → nth ts e < c ∧ nth ts e < 16 := fun e he => hh.T (by omega)
  have aI : ∀ e, e < k → (agT A0 c (nth ts k) (nth fs o) (plW A0 ts fs m (e + 1) (p / m ^ (k - (e + 1)))) ↔ agT A0 c (nth ts k) (nth fs o) (plW A0 ts fs m e (p / m ^ (k - e))) ∧ agrP A0 (nth ts k) ((nth fs o) : Int) (nth ts e) (nth fs (dig m k p e) : Int)) := fun e he => agT_ins (hU e he).1 (i0 e he) (i1 e he) (i2 e he)
  have wI : ∀ e, e < k → wkS A0 c (nth ts k) (nth fs o) (plW A0 ts fs m (e + 1) (p / m ^ (k - (e + 1)))) = wkS A0 c (nth ts k) (nth fs o) (plW A0 ts fs m e (p / m ^ (k - e))) + A0 (37 + (nth ts k)) (nth ts e) * absd ((nth fs o) : Int) (nth fs (dig m k p e) : Int) := fun e he => wkS_ins (hU e he).1 (i0 e he) (i1 e he) (i2 e he)
  have eK : p / m ^ (k - k) = p := by rw [Nat.sub_self, Nat.pow_zero, Nat.div_one]
  have hdown : ∀ e, e ≤ k → agT A0 c (nth ts k) (nth fs o) (plW A0 ts fs m k (p)) → agT A0 c (nth ts k) (nth fs o) (plW A0 ts fs m e (p / m ^ (k - e))) := by
    refine up_to (P := fun e => agT A0 c (nth ts k) (nth fs o) (plW A0 ts fs m k (p)) → agT A0 c (nth ts k) (nth fs o) (plW A0 ts fs m e (p / m ^ (k - e)))) k (fun q => by rw [eK]; exact q) (fun e he ih q => ((aI e he).mp (ih q)).1)
  have hv0 := hS.2.2.2.2 k o hk ho
  have h00 : wv A0 c (nth ts k) (nth fs o) (plW A0 ts fs m 0 (p / m ^ (k - 0))) (A (143 + k) o) := by
    have e : (plW A0 ts fs m 0 (p / m ^ (k - 0))) = pw A0 ts := funext fun t => plW_0 t
    rw [e]
    exact hv0
  have hwr : ∀ e v, wv A0 c (nth ts k) (nth fs o) (plW A0 ts fs m e (p / m ^ (k - e))) v → inR v := fun e v q => by
    rcases q with q | q
    · have := wkS_bd hh.1 hh.2.1 hT.2 hF (hh.rg e (p / m ^ (k - e))) c (by omega)
      exact ⟨by omega, by omega⟩
    · exact ⟨by omega, by omega⟩
  have hoc := hS.2.2.1 k hk
  have hof := hS.2.2.2.1 o ho
  refine WP_n 1 rfl ?_
  refine WP2_getf rfl rfl rfl rfl rfl ?_
  refine WP_n 1 rfl ?_
  refine WP2_aald (b := 143) (j := k) (n := 7) rfl rfl rfl rfl rfl (by omega) (by omega) ?_
  refine WP_n 1 rfl ?_
  refine WP2_iald (j := o) rfl rfl (ia_ws (by omega)) (by omega) (by omega) (by omega) ?_
  refine WP_n 3 rfl ?_
  suffices hw : ∀ e, e ≤ k → ∀ v : Int, wv A0 c (nth ts k) (nth fs o) (plW A0 ts fs m e (p / m ^ (k - e))) v → WP2 P M_S_walkAmongPlaced (d + 2) 9 [some (vr 138), some (vi (k : Int)), some (vi (o : Int)), some (vi v), some (vi (e : Int))] [] (FI, A, L, X) Q from hw 0 (by omega) _ h00
  refine up_to (P := fun e => ∀ v : Int, wv A0 c (nth ts k) (nth fs o) (plW A0 ts fs m e (p / m ^ (k - e))) v → WP2 P M_S_walkAmongPlaced (d + 2) 9 [some (vr 138), some (vi (k : Int)), some (vi (o : Int)), some (vi v), some (vi (e : Int))] [] (FI, A, L, X) Q) k ?_ ?_
  · intro v hv
    rw [eK] at hv
    refine WP_n 2 rfl ?_
    refine WP_icmpge rfl rfl ⟨by omega, by omega⟩ ⟨by omega, by omega⟩ (fun h11 => ?_) (fun h11 => absurd h11 (by omega))
    refine WP_n 1 rfl ?_
    exact WP_iret rfl rfl rfl ⟨_, rfl, hq v hv⟩
  · intro e he ih v hv
    have hvr := hwr e v hv
    have hUe := hU e he
    have hoe := hS.2.2.1 e (by omega)
    have htr := hTr e he
    have hFe := hh.F (hdl e)
    refine WP_n 2 rfl ?_
    refine WP_icmpge rfl rfl ⟨by omega, by omega⟩ ⟨by omega, by omega⟩ (fun h11 => absurd h11 (by omega)) (fun h11 => ?_)
    refine WP_n 2 rfl ?_
    refine WP_icmpeq rfl rfl hvr ⟨by omega, by omega⟩ (fun h14 => ?_) (fun h14 => ?_)
    · refine WP_n 1 rfl ?_
      refine WP_iret rfl rfl rfl ⟨_, rfl, hq v (Or.inr ⟨fun q => ?_, h14⟩)⟩
      rcases hv with r | r
      · have := wkS_bd hh.1 hh.2.1 hT.2 hF (hh.rg e (p / m ^ (k - e))) c (by omega)
        omega
      · exact r.1 (hdown e (by omega) q)
    · refine WP_n 1 rfl ?_
      refine WP2_getf rfl rfl rfl rfl rfl ?_
      refine WP_n 1 rfl ?_
      refine WP2_getf rfl rfl rfl rfl rfl ?_
      refine WP_n 1 rfl ?_
      refine WP2_iald (j := k) rfl rfl (ia_lit (n := 7) rfl rfl (by omega)) (by omega) (by omega) (by omega) ?_
      refine WP_n 1 rfl ?_
      refine WP2_getf rfl rfl rfl rfl rfl ?_
      refine WP_n 1 rfl ?_
      refine WP2_iald (j := o) rfl rfl (ia_lit (n := 4) rfl rfl (by omega)) (by omega) (by omega) (by omega) ?_
      refine WP_n 1 rfl ?_
      refine WP2_getf rfl rfl rfl rfl rfl ?_
      refine WP_n 1 rfl ?_
      refine WP2_iald (j := e) rfl rfl (ia_lit (n := 7) rfl rfl (by omega)) (by omega) (by omega) (by omega) ?_
      refine WP_n 1 rfl ?_
      refine WP2_getf rfl rfl rfl rfl rfl ?_
      refine WP_n 1 rfl ?_
      refine WP2_iald (j := e) rfl rfl (ia_lit (n := 7) rfl rfl (by omega)) (by omega) (by omega) (by omega) ?_
      refine WP2_callV 4 ok_M_H_agree rfl rfl rfl rfl rfl rfl (Nat.le_of_ble_eq_true rfl) (Nat.le_of_ble_eq_true rfl) rfl rfl ?_
      rw [hoc, hof, hoe, htr]
      refine sp_agree hI hc hT.2 hUe.2 (by omega) (by omega) (fun hA => ?_) (fun hA => ?_)
      all_goals rw [agrP_off hS.1 hT.2 hUe.2] at hA
      · refine WP_ifeq rfl rfl ⟨by decide, by decide⟩  (fun h34 => absurd h34 (by decide)) (fun h34 => ?_)
        refine WP_n 2 rfl ?_
        refine WP2_getf rfl rfl rfl rfl rfl ?_
        refine WP_n 1 rfl ?_
        refine WP2_getf rfl rfl rfl rfl rfl ?_
        refine WP_n 1 rfl ?_
        refine WP2_iald (j := k) rfl rfl (ia_lit (n := 7) rfl rfl (by omega)) (by omega) (by omega) (by omega) ?_
        refine WP_n 1 rfl ?_
        refine WP2_getf rfl rfl rfl rfl rfl ?_
        refine WP_n 1 rfl ?_
        refine WP2_iald (j := o) rfl rfl (ia_lit (n := 4) rfl rfl (by omega)) (by omega) (by omega) (by omega) ?_
        refine WP_n 1 rfl ?_
        refine WP2_getf rfl rfl rfl rfl rfl ?_
        refine WP_n 1 rfl ?_
        refine WP2_iald (j := e) rfl rfl (ia_lit (n := 7) rfl rfl (by omega)) (by omega) (by omega) (by omega) ?_
        refine WP_n 1 rfl ?_
        refine WP2_getf rfl rfl rfl rfl rfl ?_
        refine WP_n 1 rfl ?_
        refine WP2_iald (j := e) rfl rfl (ia_lit (n := 7) rfl rfl (by omega)) (by omega) (by omega) (by omega) ?_
        refine WP2_callV 4 ok_M_H_walkBetween rfl rfl rfl rfl rfl rfl (Nat.le_of_ble_eq_true rfl) (Nat.le_of_ble_eq_true rfl) rfl rfl ?_
        rw [hoc, hof, hoe, htr]
        refine sp_walkBetween hI hc hT.2 hUe.2 (by omega) (by omega) ?_
        rw [hS.1.2.2 _ _ (by omega)]
        refine WP_n 5 rfl ?_
        have hag := hv.resolve_right (fun q => h14 q.2)
        have z := ih (v + A0 (37 + (nth ts k)) (nth ts e) * absd ((nth fs o) : Int) (nth fs (dig m k p e) : Int)) (Or.inl ⟨(aI e he).mpr ⟨hag.1, hA⟩, by rw [wI e he, hag.2]⟩)
        exact z
      · refine WP_ifeq rfl rfl ⟨by decide, by decide⟩  (fun h34 => ?_) (fun h34 => absurd (by decide) h34)
        refine WP_n 4 rfl ?_
        exact ih (-9) (Or.inr ⟨fun q => hA ((aI e he).mp q).2, rfl⟩)
theorem walkP_bd {n : Nat} {FI A : Nat → Nat → Int} {c : Nat} (hI : cI n FI A) (hc : FI 6 8 = (c : Int)) {pl : Nat → Int} (hpl : ∀ t, t < c → pl t = -9 ∨ (0 ≤ pl t ∧ pl t < 11)) (k : Nat) (hk : k ≤ c) : 0 ≤ walkP A pl k ∧ walkP A pl k ≤ 253440 := by
  have hcc := hI.1
  have h1 : ∀ a, a < k → 0 ≤ sumN (fun b => wk2 A pl a b) a ∧ sumN (fun b => wk2 A pl a b) a ≤ 15840 := fun a ha => by
    have := sumN_bd (f := fun b => wk2 A pl a b) (lo := 0) (hi := 990) a (fun b hb => by
      have h1 := hI.2.2.2.2.1 a b (by omega) (by omega)
      unfold cTw at h1
      exact wk2_bd (by omega) (hpl a (by omega)) (hpl b (by omega)))
    omega
  have := sumN_bd (f := fun a => sumN (fun b => wk2 A pl a b) a) (lo := 0) (hi := 15840) k h1
  unfold walkP
  omega
theorem occ_bd {n : Nat} {FI A : Nat → Nat → Int} {c : Nat} (hI : cI n FI A) (hc : FI 6 8 = (c : Int)) (pl : Nat → Int) (f : Nat) : 0 ≤ occ A pl f c ∧ occ A pl f c ≤ 960 := by
  have hcc := hI.1
  have := sumN_bd (f := fun t => if pl t = (f : Int) then A (20 + t) 0 else 0) (lo := 0) (hi := 60) c (fun t ht => by
    have q := hI.2.2.2.1 t (by omega)
    unfold cTm at q
    split <;> omega)
  unfold occ
  omega
theorem occ_ins {A : Nat → Nat → Int} {c : Nat} {pl pl' : Nat → Int} {T F : Nat} (hT : T < c) (h0 : pl T = -9) (h1 : pl' T = (F : Int)) (he : ∀ t, t < c → t ≠ T → pl' t = pl t) (f : Nat) : occ A pl' f c = occ A pl f c + (if f = F then A (20 + T) 0 else 0) := by
  have z := sumN_ins (g := fun t => if pl t = (f : Int) then A (20 + t) 0 else 0) (g' := fun t => if pl' t = (f : Int) then A (20 + t) 0 else 0) c hT (fun t ht h2 => by rw [he t ht h2])
  unfold occ
  rw [z]
  rw [if_neg (show ¬ pl T = (f : Int) by omega), h1]
  by_cases e : f = F
  · rw [if_pos e, if_pos (by omega)]; omega
  · rw [if_neg e, if_neg (by omega)]; omega
theorem sp_placeFrom {P : PP} {d : Nat} {L : Nat → Nat → Int} {X : SX} {n : Nat} {FI0 A0 : Nat → Nat → Int} {c ts fs nn m : Nat} (hh : HH n FI0 A0 c ts fs nn m) : ∀ (j k : Nat), k + j = nn → ∀ (FI A : Nat → Nat → Int) (p : Nat) (Q : Option AV → S2 → Prop), SSt FI0 A0 c ts fs nn m FI A → (∀ i, i < k → A 150 i = (nth fs (dig m k p i) : Int)) → (∀ o, o < m → A 141 o = A0 (8 + nth fs o) 0 - occ A0 (plW A0 ts fs m k p) (nth fs o) c) → FIT A0 c (plW A0 ts fs m k p) → BJ (fun w => FIT A0 c (plW A0 ts fs m nn w)) (fun w => walkP A0 (plW A0 ts fs m nn w) c) (fun w => chg A0 ts fs m nn w) (p * m ^ j) (FI 138 9) (FI 138 10) (FI 138 11) (fun b => ∀ i, i < nn → A 151 i = (nth fs (dig m nn b i) : Int)) → (∀ FI' A' : Nat → Nat → Int, SSt FI0 A0 c ts fs nn m FI' A' → (∀ i, i < k → A' 150 i = A 150 i) → (∀ o, o < m → A' 141 o = A 141 o) → BJ (fun w => FIT A0 c (plW A0 ts fs m nn w)) (fun w => walkP A0 (plW A0 ts fs m nn w) c) (fun w => chg A0 ts fs m nn w) ((p + 1) * m ^ j) (FI' 138 9) (FI' 138 10) (FI' 138 11) (fun b => ∀ i, i < nn → A' 151 i = (nth fs (dig m nn b i) : Int)) → Q none (FI', A', L, X)) → WP2 P M_S_placeFrom (d + j + 4) 0 [some (vr 138), some (vi (k : Int)), some (vi (walkP A0 (plW A0 ts fs m k p) c)), some (vi (chg A0 ts fs m k p)), none, none, none] [] (FI, A, L, X) Q := by
  have hc16 := hh.c
  have hnn := hh.2.2.2.2.1
  have hm4 := hh.2.2.2.2.2.2.2.1
  have hm0 := hh.2.2.2.2.2.2.2.2
  intro j
  induction j with
  | zero =>
    intro k hkj FI A p Q hS hTr hSp hF hJ hq
    have bw := walkP_bd hh.1 hh.2.1 (hh.rg k p) c (by omega)
    have bc := chg_bd (A := A0) (ts := ts) (fs := fs) (m := m) (k := k) (p := p)
    have hfd : FI 138 9 = 0 ∨ FI 138 9 = 1 := by
      rcases hJ with q | q
      · exact Or.inl q.1
      · exact Or.inr q.1
    have hfr : FI 138 9 = 1 → (0 ≤ FI 138 10 ∧ FI 138 10 ≤ 253440) ∧ (0 ≤ FI 138 11 ∧ FI 138 11 ≤ 7) := fun q => by
      rcases hJ with r | ⟨r, b, r1, r2, r3, r4, r5, r6⟩
      · omega
      · have b1 := walkP_bd hh.1 hh.2.1 (hh.rg nn b) c (by omega)
        have b2 := chg_bd (A := A0) (ts := ts) (fs := fs) (m := m) (k := nn) (p := b)
        dsimp only at r3 r4
        omega
    have hN : p * m ^ 0 ≤ (p + 1) * m ^ 0 := Nat.mul_le_mul_right _ (by omega)
    have hex : ∀ w, p * m ^ 0 ≤ w → w < (p + 1) * m ^ 0 → FIT A0 c (plW A0 ts fs m nn w) → (walkP A0 (plW A0 ts fs m k p) c) ≤ walkP A0 (plW A0 ts fs m nn w) c ∧ (chg A0 ts fs m k p) ≤ chg A0 ts fs m nn w := fun w h1 h2 _ => by
      have e : w / m ^ 0 = p := Nat.div_eq_of_lt_le h1 h2
      have z := hh.ext (k := k) 0 w (by omega)
      rw [e, show k + 0 = nn by omega] at z
      exact z.2
    refine WP_n 1 rfl ?_
    refine WP2_getf rfl rfl rfl rfl rfl ?_
    refine WP_ifeq rfl rfl ⟨by omega, by omega⟩ (fun h2 => ?_) (fun h2 => ?_)
    · have hcn := hS.2.1.1
      refine WP_n 2 rfl ?_
      refine WP2_getf rfl rfl rfl rfl rfl ?_
      refine WP_icmplt rfl rfl ⟨by omega, by omega⟩ ⟨by omega, by omega⟩ (fun h12 => absurd h12 (by omega)) (fun h12 => ?_)
      refine WP_n 2 rfl ?_
      refine WP2_putk (k := 9) rfl rfl rfl rfl rfl rfl (by exact Or.inr rfl) ?_
      refine WP_n 2 rfl ?_
      refine WP2_putk (k := 10) rfl rfl rfl rfl rfl rfl (by exact trivial) ?_
      refine WP_n 2 rfl ?_
      refine WP2_putk (k := 11) rfl rfl rfl rfl rfl rfl (by exact trivial) ?_
      refine WP_n 1 rfl ?_
      refine WP2_getf rfl rfl rfl rfl rfl ?_
      refine WP_n 2 rfl ?_
      refine WP2_getf rfl rfl rfl rfl rfl ?_
      refine WP_n 2 rfl ?_
      refine WP2_copy0 (N := 7) rfl rfl rfl rfl rfl (Nat.le_of_ble_eq_true rfl) (ia_lit (n := 7) rfl rfl (by omega)) (ia_lit (n := 7) rfl rfl (by omega)) (by omega) (by omega) rfl (by omega) (by omega) ?_
      exact WP_vret rfl rfl rfl ⟨_, rfl, hq _ _ (((hS.upF (j := 9) (by omega)).upF (j := 10) (by omega)).upF (j := 11) (by omega) |>.upC hnn) (fun i hi => upC_ne (by omega)) (fun o ho => upC_ne (by omega)) (by
        have e1 : p * m ^ 0 = p := by rw [Nat.pow_zero, Nat.mul_one]
        have e2 : (p + 1) * m ^ 0 = p + 1 := by rw [Nat.pow_zero, Nat.mul_one]
        have ek : k = nn := by omega
        subst ek
        rw [e1] at hJ
        rw [e2, up2_ne (by omega), up2_ne (by omega), up2_same, up2_ne (by omega), up2_same, up2_same]
        exact hJ.put hF (by omega) (fun i hi => by rw [upC_eq (by omega)]; exact hTr i hi))⟩
    · refine WP_n 3 rfl ?_
      refine WP2_callV 2 ok_M_S_isBetter rfl rfl rfl rfl rfl rfl (Nat.le_of_ble_eq_true rfl) (Nat.le_of_ble_eq_true rfl) rfl rfl ?_
      refine sp_isBetter ⟨by omega, by omega⟩ ⟨by omega, by omega⟩ ⟨by have := hfr (by omega); omega, by have := hfr (by omega); omega⟩ ⟨by have := hfr (by omega); omega, by have := hfr (by omega); omega⟩ (fun hB => ?_) (fun hB => ?_)
      · refine WP_ifne rfl rfl ⟨by decide, by decide⟩  (fun h7 => ?_) (fun h7 => absurd (by decide) h7)
        have hcn := hS.2.1.1
        refine WP_n 2 rfl ?_
        refine WP2_getf rfl rfl rfl rfl rfl ?_
        refine WP_icmplt rfl rfl ⟨by omega, by omega⟩ ⟨by omega, by omega⟩ (fun h12 => absurd h12 (by omega)) (fun h12 => ?_)
        refine WP_n 2 rfl ?_
        refine WP2_putk (k := 9) rfl rfl rfl rfl rfl rfl (by exact Or.inr rfl) ?_
        refine WP_n 2 rfl ?_
        refine WP2_putk (k := 10) rfl rfl rfl rfl rfl rfl (by exact trivial) ?_
        refine WP_n 2 rfl ?_
        refine WP2_putk (k := 11) rfl rfl rfl rfl rfl rfl (by exact trivial) ?_
        refine WP_n 1 rfl ?_
        refine WP2_getf rfl rfl rfl rfl rfl ?_
        refine WP_n 2 rfl ?_
        refine WP2_getf rfl rfl rfl rfl rfl ?_
        refine WP_n 2 rfl ?_
        refine WP2_copy0 (N := 7) rfl rfl rfl rfl rfl (Nat.le_of_ble_eq_true rfl) (ia_lit (n := 7) rfl rfl (by omega)) (ia_lit (n := 7) rfl rfl (by omega)) (by omega) (by omega) rfl (by omega) (by omega) ?_
        exact WP_vret rfl rfl rfl ⟨_, rfl, hq _ _ (((hS.upF (j := 9) (by omega)).upF (j := 10) (by omega)).upF (j := 11) (by omega) |>.upC hnn) (fun i hi => upC_ne (by omega)) (fun o ho => upC_ne (by omega)) (by
          have e1 : p * m ^ 0 = p := by rw [Nat.pow_zero, Nat.mul_one]
          have e2 : (p + 1) * m ^ 0 = p + 1 := by rw [Nat.pow_zero, Nat.mul_one]
          have ek : k = nn := by omega
          subst ek
          rw [e1] at hJ
          rw [e2, up2_ne (by omega), up2_ne (by omega), up2_same, up2_ne (by omega), up2_same, up2_same]
          exact hJ.put hF (by omega) (fun i hi => by rw [upC_eq (by omega)]; exact hTr i hi))⟩
      · refine WP_ifne rfl rfl ⟨by decide, by decide⟩  (fun h7 => absurd h7 (by decide)) (fun h7 => ?_)
        exact WP_vret rfl rfl rfl ⟨_, rfl, hq FI A hS (fun _ _ => rfl) (fun _ _ => rfl) (hJ.skip hN (fun w h1 h2 hf => by
          have z := hex w h1 h2 hf
          have y := hfr (by omega)
          refine ⟨by omega, ?_⟩
          omega))⟩
  | succ j ih =>
    intro k hkj FI A p Q hS hTr hSp hF hJ hq
    have bw := walkP_bd hh.1 hh.2.1 (hh.rg k p) c (by omega)
    have bc := chg_bd (A := A0) (ts := ts) (fs := fs) (m := m) (k := k) (p := p)
    have hfd : FI 138 9 = 0 ∨ FI 138 9 = 1 := by
      rcases hJ with q | q
      · exact Or.inl q.1
      · exact Or.inr q.1
    have hfr : FI 138 9 = 1 → (0 ≤ FI 138 10 ∧ FI 138 10 ≤ 253440) ∧ (0 ≤ FI 138 11 ∧ FI 138 11 ≤ 7) := fun q => by
      rcases hJ with r | ⟨r, b, r1, r2, r3, r4, r5, r6⟩
      · omega
      · have b1 := walkP_bd hh.1 hh.2.1 (hh.rg nn b) c (by omega)
        have b2 := chg_bd (A := A0) (ts := ts) (fs := fs) (m := m) (k := nn) (p := b)
        dsimp only at r3 r4
        omega
    have hN : p * m ^ (j + 1) ≤ (p + 1) * m ^ (j + 1) := Nat.mul_le_mul_right _ (by omega)
    have hex : ∀ w, p * m ^ (j + 1) ≤ w → w < (p + 1) * m ^ (j + 1) → FIT A0 c (plW A0 ts fs m nn w) → (walkP A0 (plW A0 ts fs m k p) c) ≤ walkP A0 (plW A0 ts fs m nn w) c ∧ (chg A0 ts fs m k p) ≤ chg A0 ts fs m nn w := fun w h1 h2 _ => by
      have e : w / m ^ (j + 1) = p := Nat.div_eq_of_lt_le h1 h2
      have z := hh.ext (k := k) (j + 1) w (by omega)
      rw [e, show k + (j + 1) = nn by omega] at z
      exact z.2
    refine WP_n 1 rfl ?_
    refine WP2_getf rfl rfl rfl rfl rfl ?_
    refine WP_ifeq rfl rfl ⟨by omega, by omega⟩ (fun h2 => ?_) (fun h2 => ?_)
    · have hcn := hS.2.1.1
      refine WP_n 2 rfl ?_
      refine WP2_getf rfl rfl rfl rfl rfl ?_
      refine WP_icmplt rfl rfl ⟨by omega, by omega⟩ ⟨by omega, by omega⟩ (fun h12 => ?_) (fun h12 => absurd h12 (by omega))
      have hT := hh.T (k := k) (by omega)
      have hk16 : k < pcR ts 16 := by have := hh.2.2.2.1; omega
      have hoc9 := hS.2.2.1 k (by omega)
      have hqT := hh.1.2.2.2.1 (nth ts k) hT.2
      unfold cTm at hqT
      refine WP_n 1 rfl ?_
      refine WP2_getf rfl rfl rfl rfl rfl ?_
      refine WP2_getf rfl rfl rfl rfl rfl ?_
      refine WP_n 1 rfl ?_
      refine WP2_getf rfl rfl rfl rfl rfl ?_
      refine WP_n 1 rfl ?_
      refine WP2_iald (j := k) rfl rfl (ia_lit (n := 7) rfl rfl (by omega)) (by omega) (by omega) (by omega) ?_
      refine WP2_aald (b := 20) (j := (nth ts k)) (n := 16) rfl rfl rfl rfl rfl (by omega) (by omega) ?_
      refine WP_n 3 rfl ?_
      suffices hw : ∀ o, o ≤ m → ∀ FI1 A1 : Nat → Nat → Int, SSt FI0 A0 c ts fs nn m FI1 A1 → (∀ i, i < k → A1 150 i = A 150 i) → (∀ o, o < m → A1 141 o = A 141 o) → BJ (fun w => FIT A0 c (plW A0 ts fs m nn w)) (fun w => walkP A0 (plW A0 ts fs m nn w) c) (fun w => chg A0 ts fs m nn w) ((p * m + o) * m ^ j) (FI1 138 9) (FI1 138 10) (FI1 138 11) (fun b => ∀ i, i < nn → A1 151 i = (nth fs (dig m nn b i) : Int)) → WP2 P M_S_placeFrom (d + (j + 1) + 4) 42 [some (vr 138), some (vi (k : Int)), some (vi (walkP A0 (plW A0 ts fs m k p) c)), some (vi (chg A0 ts fs m k p)), some (vr (20 + nth ts k)), some (vi (o : Int)), none] [] (FI1, A1, L, X) Q from hw 0 (by omega) FI A hS (fun _ _ => rfl) (fun _ _ => rfl) (by
        rw [Nat.add_zero, Nat.mul_assoc, ← Nat.pow_succ']
        exact hJ)
      refine up_to (P := fun o => ∀ FI1 A1 : Nat → Nat → Int, SSt FI0 A0 c ts fs nn m FI1 A1 → (∀ i, i < k → A1 150 i = A 150 i) → (∀ o, o < m → A1 141 o = A 141 o) → BJ (fun w => FIT A0 c (plW A0 ts fs m nn w)) (fun w => walkP A0 (plW A0 ts fs m nn w) c) (fun w => chg A0 ts fs m nn w) ((p * m + o) * m ^ j) (FI1 138 9) (FI1 138 10) (FI1 138 11) (fun b => ∀ i, i < nn → A1 151 i = (nth fs (dig m nn b i) : Int)) → WP2 P M_S_placeFrom (d + (j + 1) + 4) 42 [some (vr 138), some (vi (k : Int)), some (vi (walkP A0 (plW A0 ts fs m k p) c)), some (vi (chg A0 ts fs m k p)), some (vr (20 + nth ts k)), some (vi (o : Int)), none] [] (FI1, A1, L, X) Q) m ?_ ?_
      · intro FI1 A1 hS1 hT1 hP1 hJ1
        have hof1 := hS1.2.1.2
        refine WP_n 2 rfl ?_
        refine WP2_getf rfl rfl rfl rfl rfl ?_
        refine WP_icmpge rfl rfl ⟨by omega, by omega⟩ ⟨by omega, by omega⟩ (fun h45 => ?_) (fun h45 => absurd h45 (by omega))
        exact WP_vret rfl rfl rfl ⟨_, rfl, hq FI1 A1 hS1 hT1 hP1 (by
          rw [show (p + 1) * m ^ (j + 1) = (p * m + m) * m ^ j by rw [Nat.pow_succ, Nat.mul_comm (m ^ j) m, ← Nat.mul_assoc, Nat.add_mul, Nat.one_mul]]
          exact hJ1)⟩
      · intro o ho ih2 FI1 A1 hS1 hT1 hP1 hJ1
        have nxt : ∀ FI1 A1 : Nat → Nat → Int, SSt FI0 A0 c ts fs nn m FI1 A1 → (∀ i, i < k → A1 150 i = A 150 i) → (∀ o, o < m → A1 141 o = A 141 o) → BJ (fun w => FIT A0 c (plW A0 ts fs m nn w)) (fun w => walkP A0 (plW A0 ts fs m nn w) c) (fun w => chg A0 ts fs m nn w) ((p * m + (o + 1)) * m ^ j) (FI1 138 9) (FI1 138 10) (FI1 138 11) (fun b => ∀ i, i < nn → A1 151 i = (nth fs (dig m nn b i) : Int)) → WP2 P M_S_placeFrom (d + (j + 1) + 4) 113 [some (vr 138), some (vi (k : Int)), some (vi (walkP A0 (plW A0 ts fs m k p) c)), some (vi (chg A0 ts fs m k p)), some (vr (20 + nth ts k)), some (vi (o : Int)), none] [] (FI1, A1, L, X) Q := fun F1 B1 h1 h2 h3 h4 => WP_n 2 rfl (ih2 F1 B1 h1 h2 h3 h4)
        have hof1 := hS1.2.1.2
        have hof := hS1.2.2.2.1 o ho
        have hFo := hh.F ho
        have hfl := hh.1.2.2.1 (nth fs o) hFo
        unfold cFl at hfl
        have hsp := hSp o ho
        have hsp1 := hP1 o ho
        have hoc := hF.1 (nth fs o) hFo
        have hob := occ_bd hh.1 hh.2.1 (plW A0 ts fs m k p) (nth fs o)
        have esz : A1 (20 + nth ts k) 0 = A0 (20 + nth ts k) 0 := hS1.1.2.2 _ _ (by omega)
        have hins := hh.ins (k := k) (p := p) (o := o) (by omega) ho
        refine WP_n 2 rfl ?_
        refine WP2_getf rfl rfl rfl rfl rfl ?_
        refine WP_icmpge rfl rfl ⟨by omega, by omega⟩ ⟨by omega, by omega⟩ (fun h45 => absurd h45 (by omega)) (fun h45 => ?_)
        refine WP_n 1 rfl ?_
        refine WP2_getf rfl rfl rfl rfl rfl ?_
        refine WP_n 1 rfl ?_
        refine WP2_iald (j := o) rfl rfl (ia_lit (n := 4) rfl rfl (by omega)) (by omega) (by omega) (by omega) ?_
        refine WP_n 2 rfl ?_
        refine WP2_iald (j := 0) rfl rfl (ia_tm (by omega)) (by omega) (by omega) (by omega) ?_
        refine WP_icmpge rfl rfl ⟨by omega, by omega⟩ ⟨by omega, by omega⟩ (fun h53 => ?_) (fun h53 => ?_)
        · refine WP_n 3 rfl ?_
          refine WP2_callV 2 ok_M_S_walkAmongPlaced rfl rfl rfl rfl rfl rfl (Nat.le_of_ble_eq_true rfl) (Nat.le_of_ble_eq_true rfl) rfl rfl ?_
          refine sp_walkAP hh hS1 (p := p) (by omega) ho (fun i hi => (hT1 i hi).trans (hTr i hi)) (fun more hv => ?_)
          have hmr : inR more := by
            rcases hv with q | q
            · have := wkS_bd hh.1 hh.2.1 hT.2 hFo (hh.rg k p) c (by omega)
              exact ⟨by omega, by omega⟩
            · exact ⟨by omega, by omega⟩
          refine WP_n 3 rfl ?_
          refine WP_icmpeq rfl rfl hmr ⟨by omega, by omega⟩ (fun h63 => ?_) (fun h63 => ?_)
          · refine WP2_kill 6 (nxt FI1 A1 hS1 hT1 hP1 (hJ1.skip (by rw [show p * m + (o + 1) = (p * m + o) + 1 by omega]; exact Nat.mul_le_mul_right _ (by omega)) (fun w h1 h2 hf => absurd hf (fun hf => ?_))))
            have e : w / m ^ j = p * m + o := Nat.div_eq_of_lt_le h1 (by rw [show p * m + o + 1 = p * m + (o + 1) by omega]; exact h2)
            have z := (hh.ext (k := k + 1) j w (by omega)).1
            rw [e, show k + 1 + j = nn by omega] at z
            have y := hins.1.mp (z hf)
            rcases hv with q | q
            · have := wkS_bd hh.1 hh.2.1 hT.2 hFo (hh.rg k p) c (by omega)
              omega
            · exact q.1 y.2.2
          · refine WP_n 1 rfl ?_
            refine WP2_getf rfl rfl rfl rfl rfl ?_
            refine WP_n 2 rfl ?_
            refine WP2_getf rfl rfl rfl rfl rfl ?_
            refine WP_n 1 rfl ?_
            refine WP2_iald (j := o) rfl rfl (ia_lit (n := 4) rfl rfl (by omega)) (by omega) (by omega) (by omega) ?_
            refine WP2_iast (j := k) rfl rfl (ia_lit (n := 7) rfl rfl (by omega)) (by omega) (by omega) (by omega) ?_
            refine WP_n 1 rfl ?_
            refine WP2_getf rfl rfl rfl rfl rfl ?_
            refine WP_n 2 rfl ?_
            refine WP2_iald (j := o) rfl rfl (ia_lit (n := 4) rfl rfl (by omega)) (by omega) (by omega) (by omega) ?_
            refine WP_n 2 rfl ?_
            refine WP2_iald (j := 0) rfl rfl (ia_tm (by omega)) (by omega) (by omega) (by omega) ?_
            refine WP_n 1 rfl ?_
            refine WP2_iast (j := o) rfl rfl (ia_lit (n := 4) rfl rfl (by omega)) (by omega) (by omega) (by omega) ?_
            have hag := hv.resolve_right (fun q => h63 q.2)
            have hfit : FIT A0 c (plW A0 ts fs m (k + 1) (p * m + o)) := hins.1.mpr ⟨hF, by omega, hag.1⟩
            obtain ⟨A2, hA2⟩ : ∃ A2, A2 = (up2 (up2 A1 150 k (A1 140 o)) 141 o (up2 A1 150 k (A1 140 o) 141 o - up2 A1 150 k (A1 140 o) (20 + nth ts k) 0)) := ⟨_, rfl⟩
            rw [← hA2]
            have hS2 : SSt FI0 A0 c ts fs nn m FI1 A2 := by rw [hA2]; exact (hS1.upA hnn (by omega)).upA hnn (by omega)
            have hT2 : ∀ i, i < k + 1 → A2 150 i = (nth fs (dig m (k + 1) (p * m + o) i) : Int) := fun i hi => by
              rw [hA2, up2_ne (by omega)]
              by_cases e : i = k
              · rw [e, up2_same, dig_hi ho]
                exact hof
              · rw [up2_ne (by omega), dig_lo ho (by omega), hT1 i (by omega)]
                exact hTr i (by omega)
            have hP2 : ∀ o', o' < m → A2 141 o' = A0 (8 + nth fs o') 0 - occ A0 (plW A0 ts fs m (k + 1) (p * m + o)) (nth fs o') c := fun o' ho' => by
              have eo := occ_ins (A := A0) hT.1 (plW_T0 (A := A0) (fs := fs) (m := m) (p := p) hk16) (plW_T1 (A := A0) (fs := fs) (p := p) hk16 ho) (fun t ht q => plW_ne (by omega) ho q) (nth fs o')
              rw [eo, hA2]
              by_cases e : o' = o
              · subst e
                rw [up2_same, up2_ne (by omega), up2_ne (by omega), if_pos rfl]
                omega
              · have hne : nth fs o' ≠ nth fs o := fun q => e (nth_inj (by have := hh.2.2.2.2.2.2.1; omega) (by have := hh.2.2.2.2.2.2.1; omega) q)
                rw [up2_ne (by omega), up2_ne (by omega), if_neg hne, hP1 o' ho', hSp o' ho']
                omega
            have hJ2 : BJ (fun w => FIT A0 c (plW A0 ts fs m nn w)) (fun w => walkP A0 (plW A0 ts fs m nn w) c) (fun w => chg A0 ts fs m nn w) ((p * m + o) * m ^ j) (FI1 138 9) (FI1 138 10) (FI1 138 11) (fun b => ∀ i, i < nn → A2 151 i = (nth fs (dig m nn b i) : Int)) := by
              have e : ∀ i, A2 151 i = A1 151 i := fun i => by rw [hA2, up2_ne (by omega), up2_ne (by omega)]
              simp only [e]
              exact hJ1
            have e4 : A2 (20 + nth ts k) 4 = A0 (20 + nth ts k) 4 := hS2.1.2.2 _ _ (by omega)
            have e140 : A2 140 o = (nth fs o : Int) := hS2.2.2.2.1 o ho
            have ecs := chg_s (A := A0) (ts := ts) (fs := fs) (m := m) (k := k) (p := p) ho
            refine WP_n 10 rfl ?_
            refine WP2_iald (j := 4) rfl rfl (ia_tm (by omega)) (by omega) (by omega) (by omega) ?_
            refine WP_n 1 rfl ?_
            refine WP2_getf rfl rfl rfl rfl rfl ?_
            refine WP_n 1 rfl ?_
            refine WP2_iald (j := o) rfl rfl (ia_lit (n := 4) rfl rfl (by omega)) (by omega) (by omega) (by omega) ?_
            refine WP_icmpne rfl rfl ⟨by omega, by omega⟩ ⟨by omega, by omega⟩ (fun h97 => ?_) (fun h97 => ?_)
            · refine WP_n 2 rfl ?_
              refine WP2_callV 3 ok_M_S_placeFrom rfl rfl rfl rfl rfl rfl (Nat.le_of_ble_eq_true rfl) (Nat.le_of_ble_eq_true rfl) rfl rfl ?_
              rw [show (walkP A0 (plW A0 ts fs m k p) c) + more = walkP A0 (plW A0 ts fs m (k + 1) (p * m + o)) c by rw [hins.2, hag.2], show (chg A0 ts fs m k p) + 1 = chg A0 ts fs m (k + 1) (p * m + o) by rw [ecs, if_neg (by omega)]]
              refine ih (k + 1) (by omega) FI1 A2 (p * m + o) _ hS2 hT2 hP2 hfit hJ2 (fun FI3 A3 hS3 hT3 hP3 hJ3 => ?_)
              have e30 : A3 (20 + nth ts k) 0 = A0 (20 + nth ts k) 0 := hS3.1.2.2 _ _ (by omega)
              refine WP_n 1 rfl ?_
              refine WP2_getf rfl rfl rfl rfl rfl ?_
              refine WP_n 2 rfl ?_
              refine WP2_iald (j := o) rfl rfl (ia_lit (n := 4) rfl rfl (by omega)) (by omega) (by omega) (by omega) ?_
              refine WP_n 2 rfl ?_
              refine WP2_iald (j := 0) rfl rfl (ia_tm (by omega)) (by omega) (by omega) (by omega) ?_
              refine WP_n 1 rfl ?_
              refine WP2_iast (j := o) rfl rfl (ia_lit (n := 4) rfl rfl (by omega)) (by omega) (by omega) (by omega) ?_
              refine WP2_kill 6 (nxt FI3 (up2 A3 141 o (A3 141 o + A3 (20 + nth ts k) 0)) (hS3.upA hnn (by omega)) (fun i hi => ?_) (fun o' ho' => ?_) ?_)
              · rw [up2_ne (by omega), hT3 i (by omega), hA2, up2_ne (by omega), up2_ne (by omega)]
                exact hT1 i hi
              · by_cases e : o' = o
                · subst e
                  rw [up2_same, hP3 o' ho', hA2, up2_same, up2_ne (by omega), up2_ne (by omega), e30]
                  have := hP1 o' ho'
                  omega
                · rw [up2_ne (by omega), hP3 o' ho', hA2, up2_ne (by omega), up2_ne (by omega)]
                  exact hP1 o' ho'
              · have e : ∀ i, up2 A3 141 o (A3 141 o + A3 (20 + nth ts k) 0) 151 i = A3 151 i := fun i => up2_ne (by omega)
                simp only [e]
                rw [show p * m + (o + 1) = p * m + o + 1 by omega]
                exact hJ3
            · refine WP_n 3 rfl ?_
              refine WP2_callV 3 ok_M_S_placeFrom rfl rfl rfl rfl rfl rfl (Nat.le_of_ble_eq_true rfl) (Nat.le_of_ble_eq_true rfl) rfl rfl ?_
              rw [show (walkP A0 (plW A0 ts fs m k p) c) + more = walkP A0 (plW A0 ts fs m (k + 1) (p * m + o)) c by rw [hins.2, hag.2], show (chg A0 ts fs m k p) + 0 = chg A0 ts fs m (k + 1) (p * m + o) by rw [ecs, if_pos (by omega)]]
              refine ih (k + 1) (by omega) FI1 A2 (p * m + o) _ hS2 hT2 hP2 hfit hJ2 (fun FI3 A3 hS3 hT3 hP3 hJ3 => ?_)
              have e30 : A3 (20 + nth ts k) 0 = A0 (20 + nth ts k) 0 := hS3.1.2.2 _ _ (by omega)
              refine WP_n 1 rfl ?_
              refine WP2_getf rfl rfl rfl rfl rfl ?_
              refine WP_n 2 rfl ?_
              refine WP2_iald (j := o) rfl rfl (ia_lit (n := 4) rfl rfl (by omega)) (by omega) (by omega) (by omega) ?_
              refine WP_n 2 rfl ?_
              refine WP2_iald (j := 0) rfl rfl (ia_tm (by omega)) (by omega) (by omega) (by omega) ?_
              refine WP_n 1 rfl ?_
              refine WP2_iast (j := o) rfl rfl (ia_lit (n := 4) rfl rfl (by omega)) (by omega) (by omega) (by omega) ?_
              refine WP2_kill 6 (nxt FI3 (up2 A3 141 o (A3 141 o + A3 (20 + nth ts k) 0)) (hS3.upA hnn (by omega)) (fun i hi => ?_) (fun o' ho' => ?_) ?_)
              · rw [up2_ne (by omega), hT3 i (by omega), hA2, up2_ne (by omega), up2_ne (by omega)]
                exact hT1 i hi
              · by_cases e : o' = o
                · subst e
                  rw [up2_same, hP3 o' ho', hA2, up2_same, up2_ne (by omega), up2_ne (by omega), e30]
                  have := hP1 o' ho'
                  omega
                · rw [up2_ne (by omega), hP3 o' ho', hA2, up2_ne (by omega), up2_ne (by omega)]
                  exact hP1 o' ho'
              · have e : ∀ i, up2 A3 141 o (A3 141 o + A3 (20 + nth ts k) 0) 151 i = A3 151 i := fun i => up2_ne (by omega)
                simp only [e]
                rw [show p * m + (o + 1) = p * m + o + 1 by omega]
                exact hJ3
        · refine WP_n 5 rfl ?_
          refine WP_icmpeq rfl rfl ⟨by decide, by decide⟩ ⟨by decide, by decide⟩  (fun h63 => ?_) (fun h63 => absurd (by decide) h63)
          refine WP2_kill 6 (nxt FI1 A1 hS1 hT1 hP1 (hJ1.skip (by rw [show p * m + (o + 1) = (p * m + o) + 1 by omega]; exact Nat.mul_le_mul_right _ (by omega)) (fun w h1 h2 hf => absurd hf (fun hf => ?_))))
          have e : w / m ^ j = p * m + o := Nat.div_eq_of_lt_le h1 (by rw [show p * m + o + 1 = p * m + (o + 1) by omega]; exact h2)
          have z := (hh.ext (k := k + 1) j w (by omega)).1
          rw [e, show k + 1 + j = nn by omega] at z
          have y := hins.1.mp (z hf)
          omega
    · refine WP_n 3 rfl ?_
      refine WP2_callV 2 ok_M_S_isBetter rfl rfl rfl rfl rfl rfl (Nat.le_of_ble_eq_true rfl) (Nat.le_of_ble_eq_true rfl) rfl rfl ?_
      refine sp_isBetter ⟨by omega, by omega⟩ ⟨by omega, by omega⟩ ⟨by have := hfr (by omega); omega, by have := hfr (by omega); omega⟩ ⟨by have := hfr (by omega); omega, by have := hfr (by omega); omega⟩ (fun hB => ?_) (fun hB => ?_)
      · refine WP_ifne rfl rfl ⟨by decide, by decide⟩  (fun h7 => ?_) (fun h7 => absurd (by decide) h7)
        have hcn := hS.2.1.1
        refine WP_n 2 rfl ?_
        refine WP2_getf rfl rfl rfl rfl rfl ?_
        refine WP_icmplt rfl rfl ⟨by omega, by omega⟩ ⟨by omega, by omega⟩ (fun h12 => ?_) (fun h12 => absurd h12 (by omega))
        have hT := hh.T (k := k) (by omega)
        have hk16 : k < pcR ts 16 := by have := hh.2.2.2.1; omega
        have hoc9 := hS.2.2.1 k (by omega)
        have hqT := hh.1.2.2.2.1 (nth ts k) hT.2
        unfold cTm at hqT
        refine WP_n 1 rfl ?_
        refine WP2_getf rfl rfl rfl rfl rfl ?_
        refine WP2_getf rfl rfl rfl rfl rfl ?_
        refine WP_n 1 rfl ?_
        refine WP2_getf rfl rfl rfl rfl rfl ?_
        refine WP_n 1 rfl ?_
        refine WP2_iald (j := k) rfl rfl (ia_lit (n := 7) rfl rfl (by omega)) (by omega) (by omega) (by omega) ?_
        refine WP2_aald (b := 20) (j := (nth ts k)) (n := 16) rfl rfl rfl rfl rfl (by omega) (by omega) ?_
        refine WP_n 3 rfl ?_
        suffices hw : ∀ o, o ≤ m → ∀ FI1 A1 : Nat → Nat → Int, SSt FI0 A0 c ts fs nn m FI1 A1 → (∀ i, i < k → A1 150 i = A 150 i) → (∀ o, o < m → A1 141 o = A 141 o) → BJ (fun w => FIT A0 c (plW A0 ts fs m nn w)) (fun w => walkP A0 (plW A0 ts fs m nn w) c) (fun w => chg A0 ts fs m nn w) ((p * m + o) * m ^ j) (FI1 138 9) (FI1 138 10) (FI1 138 11) (fun b => ∀ i, i < nn → A1 151 i = (nth fs (dig m nn b i) : Int)) → WP2 P M_S_placeFrom (d + (j + 1) + 4) 42 [some (vr 138), some (vi (k : Int)), some (vi (walkP A0 (plW A0 ts fs m k p) c)), some (vi (chg A0 ts fs m k p)), some (vr (20 + nth ts k)), some (vi (o : Int)), none] [] (FI1, A1, L, X) Q from hw 0 (by omega) FI A hS (fun _ _ => rfl) (fun _ _ => rfl) (by
          rw [Nat.add_zero, Nat.mul_assoc, ← Nat.pow_succ']
          exact hJ)
        refine up_to (P := fun o => ∀ FI1 A1 : Nat → Nat → Int, SSt FI0 A0 c ts fs nn m FI1 A1 → (∀ i, i < k → A1 150 i = A 150 i) → (∀ o, o < m → A1 141 o = A 141 o) → BJ (fun w => FIT A0 c (plW A0 ts fs m nn w)) (fun w => walkP A0 (plW A0 ts fs m nn w) c) (fun w => chg A0 ts fs m nn w) ((p * m + o) * m ^ j) (FI1 138 9) (FI1 138 10) (FI1 138 11) (fun b => ∀ i, i < nn → A1 151 i = (nth fs (dig m nn b i) : Int)) → WP2 P M_S_placeFrom (d + (j + 1) + 4) 42 [some (vr 138), some (vi (k : Int)), some (vi (walkP A0 (plW A0 ts fs m k p) c)), some (vi (chg A0 ts fs m k p)), some (vr (20 + nth ts k)), some (vi (o : Int)), none] [] (FI1, A1, L, X) Q) m ?_ ?_
        · intro FI1 A1 hS1 hT1 hP1 hJ1
          have hof1 := hS1.2.1.2
          refine WP_n 2 rfl ?_
          refine WP2_getf rfl rfl rfl rfl rfl ?_
          refine WP_icmpge rfl rfl ⟨by omega, by omega⟩ ⟨by omega, by omega⟩ (fun h45 => ?_) (fun h45 => absurd h45 (by omega))
          exact WP_vret rfl rfl rfl ⟨_, rfl, hq FI1 A1 hS1 hT1 hP1 (by
            rw [show (p + 1) * m ^ (j + 1) = (p * m + m) * m ^ j by rw [Nat.pow_succ, Nat.mul_comm (m ^ j) m, ← Nat.mul_assoc, Nat.add_mul, Nat.one_mul]]
            exact hJ1)⟩
        · intro o ho ih2 FI1 A1 hS1 hT1 hP1 hJ1
          have nxt : ∀ FI1 A1 : Nat → Nat → Int, SSt FI0 A0 c ts fs nn m FI1 A1 → (∀ i, i < k → A1 150 i = A 150 i) → (∀ o, o < m → A1 141 o = A 141 o) → BJ (fun w => FIT A0 c (plW A0 ts fs m nn w)) (fun w => walkP A0 (plW A0 ts fs m nn w) c) (fun w => chg A0 ts fs m nn w) ((p * m + (o + 1)) * m ^ j) (FI1 138 9) (FI1 138 10) (FI1 138 11) (fun b => ∀ i, i < nn → A1 151 i = (nth fs (dig m nn b i) : Int)) → WP2 P M_S_placeFrom (d + (j + 1) + 4) 113 [some (vr 138), some (vi (k : Int)), some (vi (walkP A0 (plW A0 ts fs m k p) c)), some (vi (chg A0 ts fs m k p)), some (vr (20 + nth ts k)), some (vi (o : Int)), none] [] (FI1, A1, L, X) Q := fun F1 B1 h1 h2 h3 h4 => WP_n 2 rfl (ih2 F1 B1 h1 h2 h3 h4)
          have hof1 := hS1.2.1.2
          have hof := hS1.2.2.2.1 o ho
          have hFo := hh.F ho
          have hfl := hh.1.2.2.1 (nth fs o) hFo
          unfold cFl at hfl
          have hsp := hSp o ho
          have hsp1 := hP1 o ho
          have hoc := hF.1 (nth fs o) hFo
          have hob := occ_bd hh.1 hh.2.1 (plW A0 ts fs m k p) (nth fs o)
          have esz : A1 (20 + nth ts k) 0 = A0 (20 + nth ts k) 0 := hS1.1.2.2 _ _ (by omega)
          have hins := hh.ins (k := k) (p := p) (o := o) (by omega) ho
          refine WP_n 2 rfl ?_
          refine WP2_getf rfl rfl rfl rfl rfl ?_
          refine WP_icmpge rfl rfl ⟨by omega, by omega⟩ ⟨by omega, by omega⟩ (fun h45 => absurd h45 (by omega)) (fun h45 => ?_)
          refine WP_n 1 rfl ?_
          refine WP2_getf rfl rfl rfl rfl rfl ?_
          refine WP_n 1 rfl ?_
          refine WP2_iald (j := o) rfl rfl (ia_lit (n := 4) rfl rfl (by omega)) (by omega) (by omega) (by omega) ?_
          refine WP_n 2 rfl ?_
          refine WP2_iald (j := 0) rfl rfl (ia_tm (by omega)) (by omega) (by omega) (by omega) ?_
          refine WP_icmpge rfl rfl ⟨by omega, by omega⟩ ⟨by omega, by omega⟩ (fun h53 => ?_) (fun h53 => ?_)
          · refine WP_n 3 rfl ?_
            refine WP2_callV 2 ok_M_S_walkAmongPlaced rfl rfl rfl rfl rfl rfl (Nat.le_of_ble_eq_true rfl) (Nat.le_of_ble_eq_true rfl) rfl rfl ?_
            refine sp_walkAP hh hS1 (p := p) (by omega) ho (fun i hi => (hT1 i hi).trans (hTr i hi)) (fun more hv => ?_)
            have hmr : inR more := by
              rcases hv with q | q
              · have := wkS_bd hh.1 hh.2.1 hT.2 hFo (hh.rg k p) c (by omega)
                exact ⟨by omega, by omega⟩
              · exact ⟨by omega, by omega⟩
            refine WP_n 3 rfl ?_
            refine WP_icmpeq rfl rfl hmr ⟨by omega, by omega⟩ (fun h63 => ?_) (fun h63 => ?_)
            · refine WP2_kill 6 (nxt FI1 A1 hS1 hT1 hP1 (hJ1.skip (by rw [show p * m + (o + 1) = (p * m + o) + 1 by omega]; exact Nat.mul_le_mul_right _ (by omega)) (fun w h1 h2 hf => absurd hf (fun hf => ?_))))
              have e : w / m ^ j = p * m + o := Nat.div_eq_of_lt_le h1 (by rw [show p * m + o + 1 = p * m + (o + 1) by omega]; exact h2)
              have z := (hh.ext (k := k + 1) j w (by omega)).1
              rw [e, show k + 1 + j = nn by omega] at z
              have y := hins.1.mp (z hf)
              rcases hv with q | q
              · have := wkS_bd hh.1 hh.2.1 hT.2 hFo (hh.rg k p) c (by omega)
                omega
              · exact q.1 y.2.2
            · refine WP_n 1 rfl ?_
              refine WP2_getf rfl rfl rfl rfl rfl ?_
              refine WP_n 2 rfl ?_
              refine WP2_getf rfl rfl rfl rfl rfl ?_
              refine WP_n 1 rfl ?_
              refine WP2_iald (j := o) rfl rfl (ia_lit (n := 4) rfl rfl (by omega)) (by omega) (by omega) (by omega) ?_
              refine WP2_iast (j := k) rfl rfl (ia_lit (n := 7) rfl rfl (by omega)) (by omega) (by omega) (by omega) ?_
              refine WP_n 1 rfl ?_
              refine WP2_getf rfl rfl rfl rfl rfl ?_
              refine WP_n 2 rfl ?_
              refine WP2_iald (j := o) rfl rfl (ia_lit (n := 4) rfl rfl (by omega)) (by omega) (by omega) (by omega) ?_
              refine WP_n 2 rfl ?_
              refine WP2_iald (j := 0) rfl rfl (ia_tm (by omega)) (by omega) (by omega) (by omega) ?_
              refine WP_n 1 rfl ?_
              refine WP2_iast (j := o) rfl rfl (ia_lit (n := 4) rfl rfl (by omega)) (by omega) (by omega) (by omega) ?_
              have hag := hv.resolve_right (fun q => h63 q.2)
              have hfit : FIT A0 c (plW A0 ts fs m (k + 1) (p * m + o)) := hins.1.mpr ⟨hF, by omega, hag.1⟩
              obtain ⟨A2, hA2⟩ : ∃ A2, A2 = (up2 (up2 A1 150 k (A1 140 o)) 141 o (up2 A1 150 k (A1 140 o) 141 o - up2 A1 150 k (A1 140 o) (20 + nth ts k) 0)) := ⟨_, rfl⟩
              rw [← hA2]
              have hS2 : SSt FI0 A0 c ts fs nn m FI1 A2 := by rw [hA2]; exact (hS1.upA hnn (by omega)).upA hnn (by omega)
              have hT2 : ∀ i, i < k + 1 → A2 150 i = (nth fs (dig m (k + 1) (p * m + o) i) : Int) := fun i hi => by
                rw [hA2, up2_ne (by omega)]
                by_cases e : i = k
                · rw [e, up2_same, dig_hi ho]
                  exact hof
                · rw [up2_ne (by omega), dig_lo ho (by omega), hT1 i (by omega)]
                  exact hTr i (by omega)
              have hP2 : ∀ o', o' < m → A2 141 o' = A0 (8 + nth fs o') 0 - occ A0 (plW A0 ts fs m (k + 1) (p * m + o)) (nth fs o') c := fun o' ho' => by
                have eo := occ_ins (A := A0) hT.1 (plW_T0 (A := A0) (fs := fs) (m := m) (p := p) hk16) (plW_T1 (A := A0) (fs := fs) (p := p) hk16 ho) (fun t ht q => plW_ne (by omega) ho q) (nth fs o')
                rw [eo, hA2]
                by_cases e : o' = o
                · subst e
                  rw [up2_same, up2_ne (by omega), up2_ne (by omega), if_pos rfl]
                  omega
                · have hne : nth fs o' ≠ nth fs o := fun q => e (nth_inj (by have := hh.2.2.2.2.2.2.1; omega) (by have := hh.2.2.2.2.2.2.1; omega) q)
                  rw [up2_ne (by omega), up2_ne (by omega), if_neg hne, hP1 o' ho', hSp o' ho']
                  omega
              have hJ2 : BJ (fun w => FIT A0 c (plW A0 ts fs m nn w)) (fun w => walkP A0 (plW A0 ts fs m nn w) c) (fun w => chg A0 ts fs m nn w) ((p * m + o) * m ^ j) (FI1 138 9) (FI1 138 10) (FI1 138 11) (fun b => ∀ i, i < nn → A2 151 i = (nth fs (dig m nn b i) : Int)) := by
                have e : ∀ i, A2 151 i = A1 151 i := fun i => by rw [hA2, up2_ne (by omega), up2_ne (by omega)]
                simp only [e]
                exact hJ1
              have e4 : A2 (20 + nth ts k) 4 = A0 (20 + nth ts k) 4 := hS2.1.2.2 _ _ (by omega)
              have e140 : A2 140 o = (nth fs o : Int) := hS2.2.2.2.1 o ho
              have ecs := chg_s (A := A0) (ts := ts) (fs := fs) (m := m) (k := k) (p := p) ho
              refine WP_n 10 rfl ?_
              refine WP2_iald (j := 4) rfl rfl (ia_tm (by omega)) (by omega) (by omega) (by omega) ?_
              refine WP_n 1 rfl ?_
              refine WP2_getf rfl rfl rfl rfl rfl ?_
              refine WP_n 1 rfl ?_
              refine WP2_iald (j := o) rfl rfl (ia_lit (n := 4) rfl rfl (by omega)) (by omega) (by omega) (by omega) ?_
              refine WP_icmpne rfl rfl ⟨by omega, by omega⟩ ⟨by omega, by omega⟩ (fun h97 => ?_) (fun h97 => ?_)
              · refine WP_n 2 rfl ?_
                refine WP2_callV 3 ok_M_S_placeFrom rfl rfl rfl rfl rfl rfl (Nat.le_of_ble_eq_true rfl) (Nat.le_of_ble_eq_true rfl) rfl rfl ?_
                rw [show (walkP A0 (plW A0 ts fs m k p) c) + more = walkP A0 (plW A0 ts fs m (k + 1) (p * m + o)) c by rw [hins.2, hag.2], show (chg A0 ts fs m k p) + 1 = chg A0 ts fs m (k + 1) (p * m + o) by rw [ecs, if_neg (by omega)]]
                refine ih (k + 1) (by omega) FI1 A2 (p * m + o) _ hS2 hT2 hP2 hfit hJ2 (fun FI3 A3 hS3 hT3 hP3 hJ3 => ?_)
                have e30 : A3 (20 + nth ts k) 0 = A0 (20 + nth ts k) 0 := hS3.1.2.2 _ _ (by omega)
                refine WP_n 1 rfl ?_
                refine WP2_getf rfl rfl rfl rfl rfl ?_
                refine WP_n 2 rfl ?_
                refine WP2_iald (j := o) rfl rfl (ia_lit (n := 4) rfl rfl (by omega)) (by omega) (by omega) (by omega) ?_
                refine WP_n 2 rfl ?_
                refine WP2_iald (j := 0) rfl rfl (ia_tm (by omega)) (by omega) (by omega) (by omega) ?_
                refine WP_n 1 rfl ?_
                refine WP2_iast (j := o) rfl rfl (ia_lit (n := 4) rfl rfl (by omega)) (by omega) (by omega) (by omega) ?_
                refine WP2_kill 6 (nxt FI3 (up2 A3 141 o (A3 141 o + A3 (20 + nth ts k) 0)) (hS3.upA hnn (by omega)) (fun i hi => ?_) (fun o' ho' => ?_) ?_)
                · rw [up2_ne (by omega), hT3 i (by omega), hA2, up2_ne (by omega), up2_ne (by omega)]
                  exact hT1 i hi
                · by_cases e : o' = o
                  · subst e
                    rw [up2_same, hP3 o' ho', hA2, up2_same, up2_ne (by omega), up2_ne (by omega), e30]
                    have := hP1 o' ho'
                    omega
                  · rw [up2_ne (by omega), hP3 o' ho', hA2, up2_ne (by omega), up2_ne (by omega)]
                    exact hP1 o' ho'
                · have e : ∀ i, up2 A3 141 o (A3 141 o + A3 (20 + nth ts k) 0) 151 i = A3 151 i := fun i => up2_ne (by omega)
                  simp only [e]
                  rw [show p * m + (o + 1) = p * m + o + 1 by omega]
                  exact hJ3
              · refine WP_n 3 rfl ?_
                refine WP2_callV 3 ok_M_S_placeFrom rfl rfl rfl rfl rfl rfl (Nat.le_of_ble_eq_true rfl) (Nat.le_of_ble_eq_true rfl) rfl rfl ?_
                rw [show (walkP A0 (plW A0 ts fs m k p) c) + more = walkP A0 (plW A0 ts fs m (k + 1) (p * m + o)) c by rw [hins.2, hag.2], show (chg A0 ts fs m k p) + 0 = chg A0 ts fs m (k + 1) (p * m + o) by rw [ecs, if_pos (by omega)]]
                refine ih (k + 1) (by omega) FI1 A2 (p * m + o) _ hS2 hT2 hP2 hfit hJ2 (fun FI3 A3 hS3 hT3 hP3 hJ3 => ?_)
                have e30 : A3 (20 + nth ts k) 0 = A0 (20 + nth ts k) 0 := hS3.1.2.2 _ _ (by omega)
                refine WP_n 1 rfl ?_
                refine WP2_getf rfl rfl rfl rfl rfl ?_
                refine WP_n 2 rfl ?_
                refine WP2_iald (j := o) rfl rfl (ia_lit (n := 4) rfl rfl (by omega)) (by omega) (by omega) (by omega) ?_
                refine WP_n 2 rfl ?_
                refine WP2_iald (j := 0) rfl rfl (ia_tm (by omega)) (by omega) (by omega) (by omega) ?_
                refine WP_n 1 rfl ?_
                refine WP2_iast (j := o) rfl rfl (ia_lit (n := 4) rfl rfl (by omega)) (by omega) (by omega) (by omega) ?_
                refine WP2_kill 6 (nxt FI3 (up2 A3 141 o (A3 141 o + A3 (20 + nth ts k) 0)) (hS3.upA hnn (by omega)) (fun i hi => ?_) (fun o' ho' => ?_) ?_)
                · rw [up2_ne (by omega), hT3 i (by omega), hA2, up2_ne (by omega), up2_ne (by omega)]
                  exact hT1 i hi
                · by_cases e : o' = o
                  · subst e
                    rw [up2_same, hP3 o' ho', hA2, up2_same, up2_ne (by omega), up2_ne (by omega), e30]
                    have := hP1 o' ho'
                    omega
                  · rw [up2_ne (by omega), hP3 o' ho', hA2, up2_ne (by omega), up2_ne (by omega)]
                    exact hP1 o' ho'
                · have e : ∀ i, up2 A3 141 o (A3 141 o + A3 (20 + nth ts k) 0) 151 i = A3 151 i := fun i => up2_ne (by omega)
                  simp only [e]
                  rw [show p * m + (o + 1) = p * m + o + 1 by omega]
                  exact hJ3
          · refine WP_n 5 rfl ?_
            refine WP_icmpeq rfl rfl ⟨by decide, by decide⟩ ⟨by decide, by decide⟩  (fun h63 => ?_) (fun h63 => absurd (by decide) h63)
            refine WP2_kill 6 (nxt FI1 A1 hS1 hT1 hP1 (hJ1.skip (by rw [show p * m + (o + 1) = (p * m + o) + 1 by omega]; exact Nat.mul_le_mul_right _ (by omega)) (fun w h1 h2 hf => absurd hf (fun hf => ?_))))
            have e : w / m ^ j = p * m + o := Nat.div_eq_of_lt_le h1 (by rw [show p * m + o + 1 = p * m + (o + 1) by omega]; exact h2)
            have z := (hh.ext (k := k + 1) j w (by omega)).1
            rw [e, show k + 1 + j = nn by omega] at z
            have y := hins.1.mp (z hf)
            omega
      · refine WP_ifne rfl rfl ⟨by decide, by decide⟩  (fun h7 => absurd h7 (by decide)) (fun h7 => ?_)
        exact WP_vret rfl rfl rfl ⟨_, rfl, hq FI A hS (fun _ _ => rfl) (fun _ _ => rfl) (hJ.skip hN (fun w h1 h2 hf => by
          have z := hex w h1 h2 hf
          have y := hfr (by omega)
          refine ⟨by omega, ?_⟩
          omega))⟩

/-! made rows on the settled heap -/
def newX (X : SX) (n : Nat) : SX := (X.1 + 1, X.2.1 + n, X.2.2.1, X.2.2.2.1, fun a => if a = 193 + X.1 then n else X.2.2.2.2 a)
def newA (A : Nat → Nat → Int) (X : SX) : Nat → Nat → Int := fun a j => if a = 193 + X.1 then 0 else A a j
theorem kd_big {a : Nat} (h : 193 ≤ a) : kd a = 0 := by
  refine Classical.byContradiction (fun q => ?_)
  have := kd_lt q
  omega
theorem iL_big {n a : Nat} {dl : Nat → Nat} (h : 193 ≤ a) : iL n dl a = dl a := by
  unfold iL
  have : Nat.blt a 193 = false := Bool.eq_false_iff.mpr (by rw [ne_eq, Nat.blt_eq]; omega)
  rw [this]
  rfl
theorem iL_lo {n a : Nat} {dl dl' : Nat → Nat} (h : a < 193) : iL n dl a = iL n dl' a := by
  unfold iL
  have : Nat.blt a 193 = true := by rw [Nat.blt_eq]; exact h
  rw [this]
  rfl
theorem WP2_newi {P : PP} {M : Mth} {d ip : Nat} {ls : LV} {st : List AV} {FI A L : Nat → Nat → Int} {X : SX} {Q : Option AV → S2 → Prop} {en : Ent} (he : (mT M)[ip]? = some en) {i : Int} {n : Nat} (hi : eI en = .newarray .int) (hn : i = (n : Int)) (h1 : n ≤ 60000) (k : WP2 P M d (eN en) ls (vr (193 + X.1) :: st) (FI, newA A X, L, newX X n) Q) : WP2 P M d ip ls (vi i :: st) (FI, A, L, X) Q := by
  subst hn
  refine WP_newa he hi rfl rfl (by omega) (by omega) h1 ?_
  have e : addC (H2 P (FI, A, L, X)) n (.inr (.int, n, fun _ => dfl .int)) = H2 P (FI, newA A X, L, newX X n) := by
    unfold addC H2
    refine congrArg (fun f => (193 + (X.1 + 1), X.2.1 + n, f)) (funext fun b => ?_)
    by_cases e : b = 193 + X.1
    · subst e
      show (if 193 + X.1 = 193 + X.1 then _ else _) = cc2 P FI (newA A X) L (newX X n) (193 + X.1)
      rw [if_pos rfl, cc2_int (n := n) ⟨kd_big (by omega), by rw [iL_big (by omega)]; exact if_pos rfl, by show 193 + X.1 < 193 + (X.1 + 1); omega⟩]
      refine congrArg (fun f => Sum.inr (FieldType.int, n, f)) (funext fun j => ?_)
      rw [cont_own (by omega), show newA A X (193 + X.1) j = 0 from if_pos rfl]
      rfl
    · show (if b = 193 + X.1 then _ else cc2 P FI A L X b) = cc2 P FI (newA A X) L (newX X n) b
      rw [if_neg e]
      have eu : ∀ j, newA A X b j = A b j := fun j => if_neg e
      have el : iL P.1 (newX X n).2.2.2.2 b = iL P.1 X.2.2.2.2 b := by
        by_cases w : b < 193
        · exact iL_lo w
        · rw [iL_big (by omega), iL_big (by omega)]
          exact if_neg e
      unfold cc2 cont
      simp only [eu, el]
      rfl
  unfold WP2 at k
  rw [← e] at k
  exact k

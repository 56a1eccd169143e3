/-! Math.abs, Math.max -/
theorem WP_abs {M : Mth} {d ip : Nat} {ls : LV} {st : List AV} {h : Hp} {Q : Option AV → Hp → Prop} {en : Ent} (he : (mT M)[ip]? = some en) {i : Nat} {x : Int} (hi : eI en = .invokestatic i) (hw : (eW en == 99999) = false) (hny : (eY en == 1) = false) (hy : NM[eX en]? = some Lib.Math.abs.name) (hs8 : (st.map ac).sum ≤ 8) (h1 : -2147483648 < x) (h2 : x ≤ 2147483647) (k : WP M (d + 1) (eN en) ls (vi (if 0 ≤ x then x else -x) :: st) h Q) : WP M (d + 1) ip ls (vi x :: st) h Q := by
  obtain ⟨v, h', ⟨a1, b1, k⟩, hq⟩ := k
  refine ⟨v, h', ⟨a1, b1, fun p l e R s m args below meth c U0 a0 D pre cx H locs n0 s0 Qf LS hR hlo9 hn hs hl hc1 hc2 hret => ?_⟩, hq⟩
  have cx0 := cx
  obtain ⟨⟨hg, hK, hpre, hZ⟩, hx, hb, hml, hr, hlk, hnm, hown, hW, hfr, hlo, hok⟩ := cx
  obtain ⟨hbp, hd, hlen, hnx, hxx⟩ := hok.at he
  unfold okX at hxx
  rw [hi] at hd hlen hnx hxx
  have hlen := hlen rfl
  have hnx := hnx rfl
  rw [hlen] at hd hnx
  rw [hbp]
  have hal := hW.alike
  dsimp only at hxx
  rw [hw, hy, hny, Bool.false_or] at hxx
  have hxx := of_decide_eq_true hxx
  refine va_mabs (x := Int32.ofInt x) hx hb (by rw [hml]; exact hl.1.symm) hown (wd hg hW hxx rfl) (wd hg hW (i := 359) (by decide +kernel) rfl) (wd hg hW (i := 52) (by decide +kernel) rfl) (wd hg hW (i := 360) (w := Cond.code Lib.Math.abs.name Lib.Math.abs.code 1 (some .int)) (by decide +kernel) rfl) (by omega) (by rw [acs]; omega) (by omega) (by omega) hd ?_
  have ev : (if 0 ≤ Int32.ofInt x then Int32.ofInt x else 0 - Int32.ofInt x) = Int32.ofInt (if 0 ≤ x then x else -x) := by
    have e0 : (0 : Int32) = Int32.ofInt 0 := rfl
    have hiff := i32_le (x := 0) (y := x) inR0 ⟨by omega, h2⟩
    by_cases hx0 : 0 ≤ x
    · rw [e0, if_pos (hiff.mpr hx0), if_pos hx0]
    · rw [e0, if_neg (fun q => hx0 (hiff.mp q)), if_neg hx0, o_sub, Int.zero_sub]
  rw [ev]
  have k9 := k p l e R s m args below meth c U0 a0 D pre cx0 H locs n0 s0 Qf LS hR hlo9 hn hs hl hc1 hc2 hret
  rw [hnx] at k9
  exact k9
theorem WP_max {M : Mth} {d ip : Nat} {ls : LV} {st : List AV} {h : Hp} {Q : Option AV → Hp → Prop} {en : Ent} (he : (mT M)[ip]? = some en) {i : Nat} {x y : Int} (hi : eI en = .invokestatic i) (hw : (eW en == 99999) = false) (hny : (eY en == 1) = false) (hy : NM[eX en]? = some Lib.Math.max.name) (hs8 : (st.map ac).sum ≤ 8) (h1 : inR x) (h2 : inR y) (k : WP M (d + 1) (eN en) ls (vi (if x < y then y else x) :: st) h Q) : WP M (d + 1) ip ls (vi y :: vi x :: st) h Q := by
  obtain ⟨v, h', ⟨a1, b1, k⟩, hq⟩ := k
  refine ⟨v, h', ⟨a1, b1, fun p l e R s m args below meth c U0 a0 D pre cx H locs n0 s0 Qf LS hR hlo9 hn hs hl hc1 hc2 hret => ?_⟩, hq⟩
  have cx0 := cx
  obtain ⟨⟨hg, hK, hpre, hZ⟩, hx, hb, hml, hr, hlk, hnm, hown, hW, hfr, hlo, hok⟩ := cx
  obtain ⟨hbp, hd, hlen, hnx, hxx⟩ := hok.at he
  unfold okX at hxx
  rw [hi] at hd hlen hnx hxx
  have hlen := hlen rfl
  have hnx := hnx rfl
  rw [hlen] at hd hnx
  rw [hbp]
  have hal := hW.alike
  dsimp only at hxx
  rw [hw, hy, hny, Bool.false_or] at hxx
  have hxx := of_decide_eq_true hxx
  refine va_mmax (x := Int32.ofInt x) (y := Int32.ofInt y) hx hb (by rw [hml]; exact hl.1.symm) hown (wd hg hW hxx rfl) (wd hg hW (i := 538) (by decide +kernel) rfl) (wd hg hW (i := 52) (by decide +kernel) rfl) (wd hg hW (i := 539) (w := Cond.code Lib.Math.max.name Lib.Math.max.code 2 (some .int)) (by decide +kernel) rfl) (by omega) (by rw [acs]; omega) (by omega) (by omega) hd ?_
  have ev : (if Int32.ofInt x < Int32.ofInt y then Int32.ofInt y else Int32.ofInt x) = Int32.ofInt (if x < y then y else x) := by
    have hiff := i32_lt h1 h2
    by_cases hx0 : x < y
    · rw [if_pos (hiff.mpr hx0), if_pos hx0]
    · rw [if_neg (fun q => hx0 (hiff.mp q)), if_neg hx0]
  rw [ev]
  have k9 := k p l e R s m args below meth c U0 a0 D pre cx0 H locs n0 s0 Qf LS hR hlo9 hn hs hl hc1 hc2 hret
  rw [hnx] at k9
  exact k9

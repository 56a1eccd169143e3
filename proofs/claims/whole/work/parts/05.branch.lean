/-! numbers in range; branches, divisions, long numbers, constants, returns -/
theorem i32_toInt {x : Int} (h : inR x) : (Int32.ofInt x).toInt = x := Int32.toInt_ofInt_of_le (by have := h.1; omega) (by have := h.2; omega)
theorem i32_lt {x y : Int} (hx : inR x) (hy : inR y) : Int32.ofInt x < Int32.ofInt y ↔ x < y := by rw [Int32.lt_iff_toInt_lt, i32_toInt hx, i32_toInt hy]
theorem i32_le {x y : Int} (hx : inR x) (hy : inR y) : Int32.ofInt x ≤ Int32.ofInt y ↔ x ≤ y := by rw [Int32.le_iff_toInt_le, i32_toInt hx, i32_toInt hy]
theorem i32_eq {x y : Int} (hx : inR x) (hy : inR y) : Int32.ofInt x = Int32.ofInt y ↔ x = y := by rw [← Int32.toInt_inj, i32_toInt hx, i32_toInt hy]
theorem inR0 : inR 0 := ⟨by decide, by decide⟩
def inL (x : Int) : Prop := -9223372036854775808 ≤ x ∧ x ≤ 9223372036854775807
theorem i64_toInt {x : Int} (h : inL x) : (Int64.ofInt x).toInt = x := Int64.toInt_ofInt_of_le (by have := h.1; omega) (by have := h.2; omega)
theorem i32_nat {x : Int} (h0 : 0 ≤ x) (h : x ≤ 2147483647) : (Int32.ofInt x).toNatClampNeg = x.toNat := by
  show (Int32.ofInt x).toInt.toNat = x.toNat
  rw [i32_toInt ⟨by omega, h⟩]
theorem i32_nn {x : Int} (h0 : 0 ≤ x) (h : x ≤ 2147483647) : ¬ Int32.ofInt x < 0 := by
  have e : (0 : Int32) = Int32.ofInt 0 := rfl
  rw [e, i32_lt ⟨by omega, h⟩ inR0]
  omega
theorem i32_div {x y : Int} (h0 : 0 ≤ x) (h1 : x ≤ 2147483647) (h2 : 0 < y) (h3 : y ≤ 2147483647) : Int32.ofInt x / Int32.ofInt y = Int32.ofInt (x / y) := by
  have e : x / y = x.tdiv y := (Int.tdiv_eq_ediv_of_nonneg h0).symm
  have hb : 0 ≤ x / y ∧ x / y ≤ x := ⟨Int.ediv_nonneg h0 (by omega), Int.ediv_le_self y h0⟩
  apply Int32.toInt_inj.mp
  rw [Int32.toInt_div_of_ne_right, i32_toInt ⟨by omega, h1⟩, i32_toInt ⟨by omega, h3⟩, i32_toInt ⟨by omega, by omega⟩, e]
  intro q
  have e2 : (-1 : Int32) = Int32.ofInt (-1) := rfl
  rw [e2, i32_eq ⟨by omega, h3⟩ ⟨by decide, by decide⟩] at q
  omega
theorem i32_rem {x y : Int} (h0 : 0 ≤ x) (h1 : x ≤ 2147483647) (h2 : 0 < y) (h3 : y ≤ 2147483647) : Int32.ofInt x - Int32.ofInt x / Int32.ofInt y * Int32.ofInt y = Int32.ofInt (x % y) := by
  rw [i32_div h0 h1 h2 h3, o_mul, o_sub]
  congr 1
  rw [Int.emod_def, Int.mul_comm]
theorem i64_div {x y : Int} (h0 : 0 ≤ x) (h1 : x ≤ 9223372036854775807) (h2 : 0 < y) (h3 : y ≤ 9223372036854775807) : Int64.ofInt x / Int64.ofInt y = Int64.ofInt (x / y) := by
  have e : x / y = x.tdiv y := (Int.tdiv_eq_ediv_of_nonneg h0).symm
  have hb : 0 ≤ x / y ∧ x / y ≤ x := ⟨Int.ediv_nonneg h0 (by omega), Int.ediv_le_self y h0⟩
  apply Int64.toInt_inj.mp
  rw [Int64.toInt_div_of_ne_right, i64_toInt ⟨by omega, h1⟩, i64_toInt ⟨by omega, h3⟩, i64_toInt ⟨by omega, by omega⟩, e]
  intro q
  have e2 : (-1 : Int64) = Int64.ofInt (-1) := rfl
  rw [e2, ← Int64.toInt_inj, i64_toInt ⟨by omega, h3⟩, i64_toInt ⟨by decide, by decide⟩] at q
  omega
theorem i64_rem {x y : Int} (h0 : 0 ≤ x) (h1 : x ≤ 9223372036854775807) (h2 : 0 < y) (h3 : y ≤ 9223372036854775807) : Int64.ofInt x - Int64.ofInt x / Int64.ofInt y * Int64.ofInt y = Int64.ofInt (x % y) := by
  rw [i64_div h0 h1 h2 h3, q_mul, q_sub]
  congr 1
  rw [Int.emod_def, Int.mul_comm]
theorem i64_of {x : Int} (h : inR x) : (Int32.ofInt x).toInt64 = Int64.ofInt x := Int32.toInt64_ofInt (by have := h.1; show -2147483648 ≤ x; omega) (by have := h.2; show x ≤ 2147483647; omega)
def cmpI (x y : Int) : Int := if y < x then 1 else if x = y then 0 else -1
theorem i64_cmp {x y : Int} (hx : inL x) (hy : inL y) : lg_cmp (Int64.ofInt x) (Int64.ofInt y) = Int32.ofInt (cmpI x y) := by
  have h1 : (Int64.ofInt x > Int64.ofInt y) ↔ y < x := by show Int64.ofInt y < Int64.ofInt x ↔ _; rw [Int64.lt_iff_toInt_lt, i64_toInt hx, i64_toInt hy]
  have h2 : (Int64.ofInt x = Int64.ofInt y) ↔ x = y := by rw [← Int64.toInt_inj, i64_toInt hx, i64_toInt hy]
  unfold lg_cmp cmpI
  by_cases a : y < x
  · rw [if_pos (h1.mpr a), if_pos a]; rfl
  · rw [if_neg (fun q => a (h1.mp q)), if_neg a]
    by_cases b : x = y
    · rw [if_pos (h2.mpr b), if_pos b]; rfl
    · rw [if_neg (fun q => b (h2.mp q)), if_neg b]; rfl

theorem WP_br {M : Mth} {d ip i1 i2 : Nat} {ls : LV} {st st' : List AV} {h : Hp} {Q : Option AV → Hp → Prop} {cnd : Prop}
    (H1 : ∀ (p : Program) (l : Launch) (e : Env) (R : Room) (s : State) (m : MethodId) (args : Array Value) (below : List Frame) (meth : Method) (c : Code) (U0 : State) (a0 : Array Value) (D : va_G) (pre : Nat → Nat), CX M d p l e R s m args below meth c U0 a0 D pre → ∀ (H : Heap) (locs : List Loc) (cells slots : Nat) (Qf : State → Prop) (LS : Array Slot), lvR (sg U0 pre) LS (mL M) ls → (cnd → W p l e R s m args below meth c H locs cells slots Qf (F0 m (bp M i1) LS (st'.map (cv (sg U0 pre))))) → (¬ cnd → W p l e R s m args below meth c H locs cells slots Qf (F0 m (bp M i2) LS (st'.map (cv (sg U0 pre))))) → W p l e R s m args below meth c H locs cells slots Qf (F0 m (bp M ip) LS (st.map (cv (sg U0 pre)))))
    (kt : cnd → WP M d i1 ls st' h Q) (kf : ¬ cnd → WP M d i2 ls st' h Q) : WP M d ip ls st h Q := by
  by_cases hc : cnd
  · exact WP_pure (fun p l e R s m args below meth c U0 a0 D pre cx H locs cells slots Qf LS _ hl k => H1 p l e R s m args below meth c U0 a0 D pre cx H locs cells slots Qf LS hl (fun _ => k LS hl) (fun q => absurd hc q)) (kt hc)
  · exact WP_pure (fun p l e R s m args below meth c U0 a0 D pre cx H locs cells slots Qf LS _ hl k => H1 p l e R s m args below meth c U0 a0 D pre cx H locs cells slots Qf LS hl (fun q => absurd q hc) (fun _ => k LS hl)) (kf hc)
theorem WP_ifeq {M : Mth} {d ip : Nat} {ls : LV} {st : List AV} {h : Hp} {Q : Option AV → Hp → Prop} {en : Ent} (he : (mT M)[ip]? = some en) {o : Int} (hi : eI en = .ifCond .eq o) {x : Int} (h1 : inR x) (kt : x = 0 → WP M d (eX en) ls st h Q) (kf : ¬ (x = 0) → WP M d (eN en) ls st h Q) : WP M d ip ls (vi x :: st) h Q := by
  refine WP_br (fun p l e R s m args below meth c U0 a0 D pre cx H locs cells slots Qf LS hl kt kf => ?_) kt kf
  obtain ⟨⟨hg, hK, hpre, hZ⟩, hx, hb, hml, hr, hlk, hnm, hown, hW, hfr, hlo, hok⟩ := cx
  obtain ⟨hbp, hd, hlen, hnx, hxx⟩ := hok.at he
  unfold okX at hxx
  rw [hi] at hd hlen hnx hxx
  have hlen := hlen rfl
  have hnx := hnx rfl
  rw [hlen] at hd hnx
  rw [hbp]
  rw [hnx] at kf
  exact lv_if_eq (x := Int32.ofInt x) hx hb hd (of_decide_eq_true hxx) (fun q => kt ((i32_eq h1 inR0).mp q)) (fun q => kf (fun z => q ((i32_eq h1 inR0).mpr z)))
theorem WP_icmpeq {M : Mth} {d ip : Nat} {ls : LV} {st : List AV} {h : Hp} {Q : Option AV → Hp → Prop} {en : Ent} (he : (mT M)[ip]? = some en) {o : Int} (hi : eI en = .if_icmp .eq o) {x y : Int} (h1 : inR x) (h2 : inR y) (kt : x = y → WP M d (eX en) ls st h Q) (kf : ¬ (x = y) → WP M d (eN en) ls st h Q) : WP M d ip ls (vi y :: vi x :: st) h Q := by
  refine WP_br (fun p l e R s m args below meth c U0 a0 D pre cx H locs cells slots Qf LS hl kt kf => ?_) kt kf
  obtain ⟨⟨hg, hK, hpre, hZ⟩, hx, hb, hml, hr, hlk, hnm, hown, hW, hfr, hlo, hok⟩ := cx
  obtain ⟨hbp, hd, hlen, hnx, hxx⟩ := hok.at he
  unfold okX at hxx
  rw [hi] at hd hlen hnx hxx
  have hlen := hlen rfl
  have hnx := hnx rfl
  rw [hlen] at hd hnx
  rw [hbp]
  rw [hnx] at kf
  exact lv_icmp_eq (x := Int32.ofInt x) (y := Int32.ofInt y) hx hb hd (of_decide_eq_true hxx) (fun q => kt ((i32_eq h1 h2).mp q)) (fun q => kf (fun z => q ((i32_eq h1 h2).mpr z)))
theorem WP_ifne {M : Mth} {d ip : Nat} {ls : LV} {st : List AV} {h : Hp} {Q : Option AV → Hp → Prop} {en : Ent} (he : (mT M)[ip]? = some en) {o : Int} (hi : eI en = .ifCond .ne o) {x : Int} (h1 : inR x) (kt : x ≠ 0 → WP M d (eX en) ls st h Q) (kf : ¬ (x ≠ 0) → WP M d (eN en) ls st h Q) : WP M d ip ls (vi x :: st) h Q := by
  refine WP_br (fun p l e R s m args below meth c U0 a0 D pre cx H locs cells slots Qf LS hl kt kf => ?_) kt kf
  obtain ⟨⟨hg, hK, hpre, hZ⟩, hx, hb, hml, hr, hlk, hnm, hown, hW, hfr, hlo, hok⟩ := cx
  obtain ⟨hbp, hd, hlen, hnx, hxx⟩ := hok.at he
  unfold okX at hxx
  rw [hi] at hd hlen hnx hxx
  have hlen := hlen rfl
  have hnx := hnx rfl
  rw [hlen] at hd hnx
  rw [hbp]
  rw [hnx] at kf
  exact lv_if_ne (x := Int32.ofInt x) hx hb hd (of_decide_eq_true hxx) (fun q => kt (fun z => q ((i32_eq h1 inR0).mpr z))) (fun q => kf (fun z => z ((i32_eq h1 inR0).mp q)))
theorem WP_icmpne {M : Mth} {d ip : Nat} {ls : LV} {st : List AV} {h : Hp} {Q : Option AV → Hp → Prop} {en : Ent} (he : (mT M)[ip]? = some en) {o : Int} (hi : eI en = .if_icmp .ne o) {x y : Int} (h1 : inR x) (h2 : inR y) (kt : x ≠ y → WP M d (eX en) ls st h Q) (kf : ¬ (x ≠ y) → WP M d (eN en) ls st h Q) : WP M d ip ls (vi y :: vi x :: st) h Q := by
  refine WP_br (fun p l e R s m args below meth c U0 a0 D pre cx H locs cells slots Qf LS hl kt kf => ?_) kt kf
  obtain ⟨⟨hg, hK, hpre, hZ⟩, hx, hb, hml, hr, hlk, hnm, hown, hW, hfr, hlo, hok⟩ := cx
  obtain ⟨hbp, hd, hlen, hnx, hxx⟩ := hok.at he
  unfold okX at hxx
  rw [hi] at hd hlen hnx hxx
  have hlen := hlen rfl
  have hnx := hnx rfl
  rw [hlen] at hd hnx
  rw [hbp]
  rw [hnx] at kf
  exact lv_icmp_ne (x := Int32.ofInt x) (y := Int32.ofInt y) hx hb hd (of_decide_eq_true hxx) (fun q => kt (fun z => q ((i32_eq h1 h2).mpr z))) (fun q => kf (fun z => z ((i32_eq h1 h2).mp q)))
theorem WP_iflt {M : Mth} {d ip : Nat} {ls : LV} {st : List AV} {h : Hp} {Q : Option AV → Hp → Prop} {en : Ent} (he : (mT M)[ip]? = some en) {o : Int} (hi : eI en = .ifCond .lt o) {x : Int} (h1 : inR x) (kt : x < 0 → WP M d (eX en) ls st h Q) (kf : ¬ (x < 0) → WP M d (eN en) ls st h Q) : WP M d ip ls (vi x :: st) h Q := by
  refine WP_br (fun p l e R s m args below meth c U0 a0 D pre cx H locs cells slots Qf LS hl kt kf => ?_) kt kf
  obtain ⟨⟨hg, hK, hpre, hZ⟩, hx, hb, hml, hr, hlk, hnm, hown, hW, hfr, hlo, hok⟩ := cx
  obtain ⟨hbp, hd, hlen, hnx, hxx⟩ := hok.at he
  unfold okX at hxx
  rw [hi] at hd hlen hnx hxx
  have hlen := hlen rfl
  have hnx := hnx rfl
  rw [hlen] at hd hnx
  rw [hbp]
  rw [hnx] at kf
  exact lv_if_lt (x := Int32.ofInt x) hx hb hd (of_decide_eq_true hxx) (fun q => kt ((i32_lt h1 inR0).mp q)) (fun q => kf (fun z => q ((i32_lt h1 inR0).mpr z)))
theorem WP_icmplt {M : Mth} {d ip : Nat} {ls : LV} {st : List AV} {h : Hp} {Q : Option AV → Hp → Prop} {en : Ent} (he : (mT M)[ip]? = some en) {o : Int} (hi : eI en = .if_icmp .lt o) {x y : Int} (h1 : inR x) (h2 : inR y) (kt : x < y → WP M d (eX en) ls st h Q) (kf : ¬ (x < y) → WP M d (eN en) ls st h Q) : WP M d ip ls (vi y :: vi x :: st) h Q := by
  refine WP_br (fun p l e R s m args below meth c U0 a0 D pre cx H locs cells slots Qf LS hl kt kf => ?_) kt kf
  obtain ⟨⟨hg, hK, hpre, hZ⟩, hx, hb, hml, hr, hlk, hnm, hown, hW, hfr, hlo, hok⟩ := cx
  obtain ⟨hbp, hd, hlen, hnx, hxx⟩ := hok.at he
  unfold okX at hxx
  rw [hi] at hd hlen hnx hxx
  have hlen := hlen rfl
  have hnx := hnx rfl
  rw [hlen] at hd hnx
  rw [hbp]
  rw [hnx] at kf
  exact lv_icmp_lt (x := Int32.ofInt x) (y := Int32.ofInt y) hx hb hd (of_decide_eq_true hxx) (fun q => kt ((i32_lt h1 h2).mp q)) (fun q => kf (fun z => q ((i32_lt h1 h2).mpr z)))
theorem WP_ifge {M : Mth} {d ip : Nat} {ls : LV} {st : List AV} {h : Hp} {Q : Option AV → Hp → Prop} {en : Ent} (he : (mT M)[ip]? = some en) {o : Int} (hi : eI en = .ifCond .ge o) {x : Int} (h1 : inR x) (kt : 0 ≤ x → WP M d (eX en) ls st h Q) (kf : ¬ (0 ≤ x) → WP M d (eN en) ls st h Q) : WP M d ip ls (vi x :: st) h Q := by
  refine WP_br (fun p l e R s m args below meth c U0 a0 D pre cx H locs cells slots Qf LS hl kt kf => ?_) kt kf
  obtain ⟨⟨hg, hK, hpre, hZ⟩, hx, hb, hml, hr, hlk, hnm, hown, hW, hfr, hlo, hok⟩ := cx
  obtain ⟨hbp, hd, hlen, hnx, hxx⟩ := hok.at he
  unfold okX at hxx
  rw [hi] at hd hlen hnx hxx
  have hlen := hlen rfl
  have hnx := hnx rfl
  rw [hlen] at hd hnx
  rw [hbp]
  rw [hnx] at kf
  exact lv_if_ge (x := Int32.ofInt x) hx hb hd (of_decide_eq_true hxx) (fun q => kt ((i32_le inR0 h1).mp q)) (fun q => kf (fun z => q ((i32_le inR0 h1).mpr z)))
theorem WP_icmpge {M : Mth} {d ip : Nat} {ls : LV} {st : List AV} {h : Hp} {Q : Option AV → Hp → Prop} {en : Ent} (he : (mT M)[ip]? = some en) {o : Int} (hi : eI en = .if_icmp .ge o) {x y : Int} (h1 : inR x) (h2 : inR y) (kt : y ≤ x → WP M d (eX en) ls st h Q) (kf : ¬ (y ≤ x) → WP M d (eN en) ls st h Q) : WP M d ip ls (vi y :: vi x :: st) h Q := by
  refine WP_br (fun p l e R s m args below meth c U0 a0 D pre cx H locs cells slots Qf LS hl kt kf => ?_) kt kf
  obtain ⟨⟨hg, hK, hpre, hZ⟩, hx, hb, hml, hr, hlk, hnm, hown, hW, hfr, hlo, hok⟩ := cx
  obtain ⟨hbp, hd, hlen, hnx, hxx⟩ := hok.at he
  unfold okX at hxx
  rw [hi] at hd hlen hnx hxx
  have hlen := hlen rfl
  have hnx := hnx rfl
  rw [hlen] at hd hnx
  rw [hbp]
  rw [hnx] at kf
  exact lv_icmp_ge (x := Int32.ofInt x) (y := Int32.ofInt y) hx hb hd (of_decide_eq_true hxx) (fun q => kt ((i32_le h2 h1).mp q)) (fun q => kf (fun z => q ((i32_le h2 h1).mpr z)))
theorem WP_ifgt {M : Mth} {d ip : Nat} {ls : LV} {st : List AV} {h : Hp} {Q : Option AV → Hp → Prop} {en : Ent} (he : (mT M)[ip]? = some en) {o : Int} (hi : eI en = .ifCond .gt o) {x : Int} (h1 : inR x) (kt : 0 < x → WP M d (eX en) ls st h Q) (kf : ¬ (0 < x) → WP M d (eN en) ls st h Q) : WP M d ip ls (vi x :: st) h Q := by
  refine WP_br (fun p l e R s m args below meth c U0 a0 D pre cx H locs cells slots Qf LS hl kt kf => ?_) kt kf
  obtain ⟨⟨hg, hK, hpre, hZ⟩, hx, hb, hml, hr, hlk, hnm, hown, hW, hfr, hlo, hok⟩ := cx
  obtain ⟨hbp, hd, hlen, hnx, hxx⟩ := hok.at he
  unfold okX at hxx
  rw [hi] at hd hlen hnx hxx
  have hlen := hlen rfl
  have hnx := hnx rfl
  rw [hlen] at hd hnx
  rw [hbp]
  rw [hnx] at kf
  exact lv_if_gt (x := Int32.ofInt x) hx hb hd (of_decide_eq_true hxx) (fun q => kt ((i32_lt inR0 h1).mp q)) (fun q => kf (fun z => q ((i32_lt inR0 h1).mpr z)))
theorem WP_icmpgt {M : Mth} {d ip : Nat} {ls : LV} {st : List AV} {h : Hp} {Q : Option AV → Hp → Prop} {en : Ent} (he : (mT M)[ip]? = some en) {o : Int} (hi : eI en = .if_icmp .gt o) {x y : Int} (h1 : inR x) (h2 : inR y) (kt : y < x → WP M d (eX en) ls st h Q) (kf : ¬ (y < x) → WP M d (eN en) ls st h Q) : WP M d ip ls (vi y :: vi x :: st) h Q := by
  refine WP_br (fun p l e R s m args below meth c U0 a0 D pre cx H locs cells slots Qf LS hl kt kf => ?_) kt kf
  obtain ⟨⟨hg, hK, hpre, hZ⟩, hx, hb, hml, hr, hlk, hnm, hown, hW, hfr, hlo, hok⟩ := cx
  obtain ⟨hbp, hd, hlen, hnx, hxx⟩ := hok.at he
  unfold okX at hxx
  rw [hi] at hd hlen hnx hxx
  have hlen := hlen rfl
  have hnx := hnx rfl
  rw [hlen] at hd hnx
  rw [hbp]
  rw [hnx] at kf
  exact lv_icmp_gt (x := Int32.ofInt x) (y := Int32.ofInt y) hx hb hd (of_decide_eq_true hxx) (fun q => kt ((i32_lt h2 h1).mp q)) (fun q => kf (fun z => q ((i32_lt h2 h1).mpr z)))
theorem WP_ifle {M : Mth} {d ip : Nat} {ls : LV} {st : List AV} {h : Hp} {Q : Option AV → Hp → Prop} {en : Ent} (he : (mT M)[ip]? = some en) {o : Int} (hi : eI en = .ifCond .le o) {x : Int} (h1 : inR x) (kt : x ≤ 0 → WP M d (eX en) ls st h Q) (kf : ¬ (x ≤ 0) → WP M d (eN en) ls st h Q) : WP M d ip ls (vi x :: st) h Q := by
  refine WP_br (fun p l e R s m args below meth c U0 a0 D pre cx H locs cells slots Qf LS hl kt kf => ?_) kt kf
  obtain ⟨⟨hg, hK, hpre, hZ⟩, hx, hb, hml, hr, hlk, hnm, hown, hW, hfr, hlo, hok⟩ := cx
  obtain ⟨hbp, hd, hlen, hnx, hxx⟩ := hok.at he
  unfold okX at hxx
  rw [hi] at hd hlen hnx hxx
  have hlen := hlen rfl
  have hnx := hnx rfl
  rw [hlen] at hd hnx
  rw [hbp]
  rw [hnx] at kf
  exact lv_if_le (x := Int32.ofInt x) hx hb hd (of_decide_eq_true hxx) (fun q => kt ((i32_le h1 inR0).mp q)) (fun q => kf (fun z => q ((i32_le h1 inR0).mpr z)))
theorem WP_icmple {M : Mth} {d ip : Nat} {ls : LV} {st : List AV} {h : Hp} {Q : Option AV → Hp → Prop} {en : Ent} (he : (mT M)[ip]? = some en) {o : Int} (hi : eI en = .if_icmp .le o) {x y : Int} (h1 : inR x) (h2 : inR y) (kt : x ≤ y → WP M d (eX en) ls st h Q) (kf : ¬ (x ≤ y) → WP M d (eN en) ls st h Q) : WP M d ip ls (vi y :: vi x :: st) h Q := by
  refine WP_br (fun p l e R s m args below meth c U0 a0 D pre cx H locs cells slots Qf LS hl kt kf => ?_) kt kf
  obtain ⟨⟨hg, hK, hpre, hZ⟩, hx, hb, hml, hr, hlk, hnm, hown, hW, hfr, hlo, hok⟩ := cx
  obtain ⟨hbp, hd, hlen, hnx, hxx⟩ := hok.at he
  unfold okX at hxx
  rw [hi] at hd hlen hnx hxx
  have hlen := hlen rfl
  have hnx := hnx rfl
  rw [hlen] at hd hnx
  rw [hbp]
  rw [hnx] at kf
  exact lv_icmp_le (x := Int32.ofInt x) (y := Int32.ofInt y) hx hb hd (of_decide_eq_true hxx) (fun q => kt ((i32_le h1 h2).mp q)) (fun q => kf (fun z => q ((i32_le h1 h2).mpr z)))
theorem WP_idiv {M : Mth} {d ip : Nat} {ls : LV} {st : List AV} {h : Hp} {Q : Option AV → Hp → Prop} {en : Ent} (he : (mT M)[ip]? = some en) {x y : Int} (h0 : 0 ≤ x) (h1 : x ≤ 2147483647) (h2 : 0 < y) (h3 : y ≤ 2147483647) (hi : eI en = .idiv) (k : WP M d (eN en) ls (vi (x / y) :: st) h Q) : WP M d ip ls (vi y :: vi x :: st) h Q := by
  refine WP_pure (fun p l e R s m args below meth c U0 a0 D pre cx H locs cells slots Qf LS _ hl k => ?_) k
  obtain ⟨⟨hg, hK, hpre, hZ⟩, hx, hb, hml, hr, hlk, hnm, hown, hW, hfr, hlo, hok⟩ := cx
  obtain ⟨hbp, hd, hlen, hnx, hxx⟩ := hok.at he
  unfold okX at hxx
  rw [hi] at hd hlen hnx hxx
  have hlen := hlen rfl
  have hnx := hnx rfl
  rw [hlen] at hd hnx
  rw [hbp]
  rw [hnx] at k
  refine lv_idiv (x := Int32.ofInt x) (y := Int32.ofInt y) hx hb hd (fun q => by
    have e0 : (0 : Int32) = Int32.ofInt 0 := rfl
    rw [e0, i32_eq ⟨by omega, h3⟩ inR0] at q
    omega) ?_
  rw [i32_div h0 h1 h2 h3]
  exact k LS hl
theorem WP_irem {M : Mth} {d ip : Nat} {ls : LV} {st : List AV} {h : Hp} {Q : Option AV → Hp → Prop} {en : Ent} (he : (mT M)[ip]? = some en) {x y : Int} (h0 : 0 ≤ x) (h1 : x ≤ 2147483647) (h2 : 0 < y) (h3 : y ≤ 2147483647) (hi : eI en = .irem) (k : WP M d (eN en) ls (vi (x % y) :: st) h Q) : WP M d ip ls (vi y :: vi x :: st) h Q := by
  refine WP_pure (fun p l e R s m args below meth c U0 a0 D pre cx H locs cells slots Qf LS _ hl k => ?_) k
  obtain ⟨⟨hg, hK, hpre, hZ⟩, hx, hb, hml, hr, hlk, hnm, hown, hW, hfr, hlo, hok⟩ := cx
  obtain ⟨hbp, hd, hlen, hnx, hxx⟩ := hok.at he
  unfold okX at hxx
  rw [hi] at hd hlen hnx hxx
  have hlen := hlen rfl
  have hnx := hnx rfl
  rw [hlen] at hd hnx
  rw [hbp]
  rw [hnx] at k
  refine lv_irem (x := Int32.ofInt x) (y := Int32.ofInt y) hx hb hd (fun q => by
    have e0 : (0 : Int32) = Int32.ofInt 0 := rfl
    rw [e0, i32_eq ⟨by omega, h3⟩ inR0] at q
    omega) ?_
  rw [i32_rem h0 h1 h2 h3]
  exact k LS hl
theorem WP_ldiv {M : Mth} {d ip : Nat} {ls : LV} {st : List AV} {h : Hp} {Q : Option AV → Hp → Prop} {en : Ent} (he : (mT M)[ip]? = some en) {x y : Int} (h0 : 0 ≤ x) (h1 : x ≤ 9223372036854775807) (h2 : 0 < y) (h3 : y ≤ 9223372036854775807) (hi : eI en = .ldiv) (k : WP M d (eN en) ls (vl (x / y) :: st) h Q) : WP M d ip ls (vl y :: vl x :: st) h Q := by
  refine WP_pure (fun p l e R s m args below meth c U0 a0 D pre cx H locs cells slots Qf LS _ hl k => ?_) k
  obtain ⟨⟨hg, hK, hpre, hZ⟩, hx, hb, hml, hr, hlk, hnm, hown, hW, hfr, hlo, hok⟩ := cx
  obtain ⟨hbp, hd, hlen, hnx, hxx⟩ := hok.at he
  unfold okX at hxx
  rw [hi] at hd hlen hnx hxx
  have hlen := hlen rfl
  have hnx := hnx rfl
  rw [hlen] at hd hnx
  rw [hbp]
  rw [hnx] at k
  refine lv_ldiv (x := Int64.ofInt x) (y := Int64.ofInt y) hx hb hd (fun q => by
    have e0 : (0 : Int64) = Int64.ofInt 0 := rfl
    rw [e0, ← Int64.toInt_inj, i64_toInt ⟨by omega, h3⟩, i64_toInt ⟨by decide, by decide⟩] at q
    omega) ?_
  rw [i64_div h0 h1 h2 h3]
  exact k LS hl
theorem WP_lrem {M : Mth} {d ip : Nat} {ls : LV} {st : List AV} {h : Hp} {Q : Option AV → Hp → Prop} {en : Ent} (he : (mT M)[ip]? = some en) {x y : Int} (h0 : 0 ≤ x) (h1 : x ≤ 9223372036854775807) (h2 : 0 < y) (h3 : y ≤ 9223372036854775807) (hi : eI en = .lrem) (k : WP M d (eN en) ls (vl (x % y) :: st) h Q) : WP M d ip ls (vl y :: vl x :: st) h Q := by
  refine WP_pure (fun p l e R s m args below meth c U0 a0 D pre cx H locs cells slots Qf LS _ hl k => ?_) k
  obtain ⟨⟨hg, hK, hpre, hZ⟩, hx, hb, hml, hr, hlk, hnm, hown, hW, hfr, hlo, hok⟩ := cx
  obtain ⟨hbp, hd, hlen, hnx, hxx⟩ := hok.at he
  unfold okX at hxx
  rw [hi] at hd hlen hnx hxx
  have hlen := hlen rfl
  have hnx := hnx rfl
  rw [hlen] at hd hnx
  rw [hbp]
  rw [hnx] at k
  refine lv_lrem (x := Int64.ofInt x) (y := Int64.ofInt y) hx hb hd (fun q => by
    have e0 : (0 : Int64) = Int64.ofInt 0 := rfl
    rw [e0, ← Int64.toInt_inj, i64_toInt ⟨by omega, h3⟩, i64_toInt ⟨by decide, by decide⟩] at q
    omega) ?_
  rw [i64_rem h0 h1 h2 h3]
  exact k LS hl
theorem WP_i2l {M : Mth} {d ip : Nat} {ls : LV} {st : List AV} {h : Hp} {Q : Option AV → Hp → Prop} {en : Ent} (he : (mT M)[ip]? = some en) {x : Int} (h1 : inR x) (hi : eI en = .i2l) (k : WP M d (eN en) ls (vl x :: st) h Q) : WP M d ip ls (vi x :: st) h Q := by
  refine WP_pure (fun p l e R s m args below meth c U0 a0 D pre cx H locs cells slots Qf LS _ hl k => ?_) k
  obtain ⟨⟨hg, hK, hpre, hZ⟩, hx, hb, hml, hr, hlk, hnm, hown, hW, hfr, hlo, hok⟩ := cx
  obtain ⟨hbp, hd, hlen, hnx, hxx⟩ := hok.at he
  unfold okX at hxx
  rw [hi] at hd hlen hnx hxx
  have hlen := hlen rfl
  have hnx := hnx rfl
  rw [hlen] at hd hnx
  rw [hbp]
  rw [hnx] at k
  exact lv_i2l (x := Int32.ofInt x) hx hb hd (i64_of h1) (k LS hl)
theorem WP_lcmp {M : Mth} {d ip : Nat} {ls : LV} {st : List AV} {h : Hp} {Q : Option AV → Hp → Prop} {en : Ent} (he : (mT M)[ip]? = some en) {x y : Int} (h1 : inL x) (h2 : inL y) (hi : eI en = .lcmp) (k : WP M d (eN en) ls (vi (cmpI x y) :: st) h Q) : WP M d ip ls (vl y :: vl x :: st) h Q := by
  refine WP_pure (fun p l e R s m args below meth c U0 a0 D pre cx H locs cells slots Qf LS _ hl k => ?_) k
  obtain ⟨⟨hg, hK, hpre, hZ⟩, hx, hb, hml, hr, hlk, hnm, hown, hW, hfr, hlo, hok⟩ := cx
  obtain ⟨hbp, hd, hlen, hnx, hxx⟩ := hok.at he
  unfold okX at hxx
  rw [hi] at hd hlen hnx hxx
  have hlen := hlen rfl
  have hnx := hnx rfl
  rw [hlen] at hd hnx
  rw [hbp]
  rw [hnx] at k
  refine W.lcmp (x := Int64.ofInt x) (y := Int64.ofInt y) hx hb hd ?_
  rw [i64_cmp h1 h2]
  exact k LS hl
theorem WP_ldc_w {M : Mth} {d ip : Nat} {ls : LV} {st : List AV} {h : Hp} {Q : Option AV → Hp → Prop} {en : Ent} (he : (mT M)[ip]? = some en) {i : Nat} (hi : eI en = .ldc_w i) (k : WP M d (eN en) ls (vi (eX en : Int) :: st) h Q) : WP M d ip ls (st) h Q := by
  refine WP_pure (fun p l e R s m args below meth c U0 a0 D pre cx H locs cells slots Qf LS _ hl k => ?_) k
  obtain ⟨⟨hg, hK, hpre, hZ⟩, hx, hb, hml, hr, hlk, hnm, hown, hW, hfr, hlo, hok⟩ := cx
  obtain ⟨hbp, hd, hlen, hnx, hxx⟩ := hok.at he
  unfold okX at hxx
  rw [hi] at hd hlen hnx hxx
  have hlen := hlen rfl
  have hnx := hnx rfl
  rw [hlen] at hd hnx
  rw [hbp]
  rw [hnx] at k
  exact lv_ldcw hx hb hown (wd hg hW (of_decide_eq_true hxx) rfl) hd (k LS hl)
theorem WP_ldc2_w {M : Mth} {d ip : Nat} {ls : LV} {st : List AV} {h : Hp} {Q : Option AV → Hp → Prop} {en : Ent} (he : (mT M)[ip]? = some en) {i : Nat} (hi : eI en = .ldc2_w i) (k : WP M d (eN en) ls (vl (eX en : Int) :: st) h Q) : WP M d ip ls (st) h Q := by
  refine WP_pure (fun p l e R s m args below meth c U0 a0 D pre cx H locs cells slots Qf LS _ hl k => ?_) k
  obtain ⟨⟨hg, hK, hpre, hZ⟩, hx, hb, hml, hr, hlk, hnm, hown, hW, hfr, hlo, hok⟩ := cx
  obtain ⟨hbp, hd, hlen, hnx, hxx⟩ := hok.at he
  unfold okX at hxx
  rw [hi] at hd hlen hnx hxx
  have hlen := hlen rfl
  have hnx := hnx rfl
  rw [hlen] at hd hnx
  rw [hbp]
  rw [hnx] at k
  exact lv_ldc2 hx hb hown (wd hg hW (of_decide_eq_true hxx) rfl) hd (k LS hl)
theorem WP_tsIn {M : Mth} {d ip : Nat} {ls : LV} {st : List AV} {h : Hp} {Q : Option AV → Hp → Prop} {en : Ent} (he : (mT M)[ip]? = some en) {dflt lo hj : Int} {offs : Array Int} (hi : eI en = .tableswitch dflt lo hj offs) {x off : Int} {tgt : Nat} (hx : inR x) (h1 : lo ≤ x) (h2 : x ≤ hj) (ho : offs[(x - lo).toNat]? = some off) (ht : (ePc en : Int) + off = (bp M tgt : Int)) (k : WP M d tgt ls st h Q) : WP M d ip ls (vi x :: st) h Q := by
  refine WP_pure (fun p l e R s m args below meth c U0 a0 D pre cx H locs cells slots Qf LS _ hl k => ?_) k
  obtain ⟨⟨hg, hK, hpre, hZ⟩, hx9, hb, hml, hr, hlk, hnm, hown, hW, hfr, hlo, hok⟩ := cx
  obtain ⟨hbp, hd, hlen, hnx, hxx⟩ := hok.at he
  rw [hi] at hd
  rw [hbp]
  exact lv_tableIn (x := Int32.ofInt x) hx9 hb hd (by rw [i32_toInt hx]; omega) (by rw [i32_toInt hx]; omega) (by rw [i32_toInt hx]; exact ho) ht (k LS hl)
theorem WP_tsOut {M : Mth} {d ip : Nat} {ls : LV} {st : List AV} {h : Hp} {Q : Option AV → Hp → Prop} {en : Ent} (he : (mT M)[ip]? = some en) {dflt lo hj : Int} {offs : Array Int} (hi : eI en = .tableswitch dflt lo hj offs) {x : Int} {tgt : Nat} (hx : inR x) (h1 : x < lo ∨ hj < x) (ht : (ePc en : Int) + dflt = (bp M tgt : Int)) (k : WP M d tgt ls st h Q) : WP M d ip ls (vi x :: st) h Q := by
  refine WP_pure (fun p l e R s m args below meth c U0 a0 D pre cx H locs cells slots Qf LS _ hl k => ?_) k
  obtain ⟨⟨hg, hK, hpre, hZ⟩, hx9, hb, hml, hr, hlk, hnm, hown, hW, hfr, hlo, hok⟩ := cx
  obtain ⟨hbp, hd, hlen, hnx, hxx⟩ := hok.at he
  rw [hi] at hd
  rw [hbp]
  exact lv_tableOut (x := Int32.ofInt x) hx9 hb hd (by rw [i32_toInt hx]; exact h1) ht (k LS hl)
theorem WP_iret {M : Mth} {d ip : Nat} {ls : LV} {h : Hp} {Q : Option AV → Hp → Prop} {en : Ent} (he : (mT M)[ip]? = some en) (hi : eI en = .ireturn) {x : Int} (hm : mR M = some .int) (hq : Q (some (vi x)) h) : WP M d ip ls [vi x] h Q := by
  refine ⟨some (vi x), h, ⟨Nat.le_refl _, Nat.le_refl _, fun p l e R s m args below meth c U0 a0 D pre cx H locs n0 s0 Qf LS hR hlo hn hs hl hc1 hc2 hret => ?_⟩, hq⟩
  obtain ⟨hbp, hd, hlen, hnx, hxx⟩ := cx.2.2.2.2.2.2.2.2.2.2.2.at he
  rw [hi] at hd hlen
  rw [hlen rfl] at hd
  refine hret H locs (bp M ip) LS hR hlo ?_
  rw [hbp]
  exact ⟨hd, Or.inl hm⟩
theorem WP_zret {M : Mth} {d ip : Nat} {ls : LV} {h : Hp} {Q : Option AV → Hp → Prop} {en : Ent} (he : (mT M)[ip]? = some en) (hi : eI en = .ireturn) {x : Int} (hm : mR M = some .boolean) (hz : x = 0 ∨ x = 1) (hq : Q (some (vi x)) h) : WP M d ip ls [vi x] h Q := by
  refine ⟨some (vi x), h, ⟨Nat.le_refl _, Nat.le_refl _, fun p l e R s m args below meth c U0 a0 D pre cx H locs n0 s0 Qf LS hR hlo hn hs hl hc1 hc2 hret => ?_⟩, hq⟩
  obtain ⟨hbp, hd, hlen, hnx, hxx⟩ := cx.2.2.2.2.2.2.2.2.2.2.2.at he
  rw [hi] at hd hlen
  rw [hlen rfl] at hd
  refine hret H locs (bp M ip) LS hR hlo ?_
  rw [hbp]
  exact ⟨hd, Or.inr ⟨hm, hz⟩⟩
theorem WP_lret {M : Mth} {d ip : Nat} {ls : LV} {h : Hp} {Q : Option AV → Hp → Prop} {en : Ent} (he : (mT M)[ip]? = some en) (hi : eI en = .lreturn) {x : Int} (hm : mR M = some .long) (hq : Q (some (vl x)) h) : WP M d ip ls [vl x] h Q := by
  refine ⟨some (vl x), h, ⟨Nat.le_refl _, Nat.le_refl _, fun p l e R s m args below meth c U0 a0 D pre cx H locs n0 s0 Qf LS hR hlo hn hs hl hc1 hc2 hret => ?_⟩, hq⟩
  obtain ⟨hbp, hd, hlen, hnx, hxx⟩ := cx.2.2.2.2.2.2.2.2.2.2.2.at he
  rw [hi] at hd hlen
  rw [hlen rfl] at hd
  refine hret H locs (bp M ip) LS hR hlo ?_
  rw [hbp]
  exact ⟨hd, hm⟩
theorem WP_aret {M : Mth} {d ip : Nat} {ls : LV} {h : Hp} {Q : Option AV → Hp → Prop} {en : Ent} (he : (mT M)[ip]? = some en) (hi : eI en = .areturn) {x : Nat} {t : FieldType} (hm : mR M = some (.array t)) (hq : Q (some (vr x)) h) : WP M d ip ls [vr x] h Q := by
  refine ⟨some (vr x), h, ⟨Nat.le_refl _, Nat.le_refl _, fun p l e R s m args below meth c U0 a0 D pre cx H locs n0 s0 Qf LS hR hlo hn hs hl hc1 hc2 hret => ?_⟩, hq⟩
  obtain ⟨hbp, hd, hlen, hnx, hxx⟩ := cx.2.2.2.2.2.2.2.2.2.2.2.at he
  rw [hi] at hd hlen
  rw [hlen rfl] at hd
  refine hret H locs (bp M ip) LS hR hlo ?_
  rw [hbp]
  exact ⟨hd, t, hm⟩
theorem WP_vret {M : Mth} {d ip : Nat} {ls : LV} {h : Hp} {Q : Option AV → Hp → Prop} {en : Ent} (he : (mT M)[ip]? = some en) (hi : eI en = .return_) (hm : mR M = none) (hq : Q (none) h) : WP M d ip ls [] h Q := by
  refine ⟨none, h, ⟨Nat.le_refl _, Nat.le_refl _, fun p l e R s m args below meth c U0 a0 D pre cx H locs n0 s0 Qf LS hR hlo hn hs hl hc1 hc2 hret => ?_⟩, hq⟩
  obtain ⟨hbp, hd, hlen, hnx, hxx⟩ := cx.2.2.2.2.2.2.2.2.2.2.2.at he
  rw [hi] at hd hlen
  rw [hlen rfl] at hd
  refine hret H locs (bp M ip) LS hR hlo ?_
  rw [hbp]
  exact ⟨hd, hm⟩

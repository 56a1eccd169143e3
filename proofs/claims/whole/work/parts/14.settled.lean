/-! THE SETTLED HEAP: every object and row that the two constructors make, at its number; what changes: numbers in fields (FI), in rows (A), in long rows (L), and the two rows of Moving that may be made anew (ml, qu; rows from 193 on, of lengths dl) -/
abbrev SX : Type := Nat × Nat × Nat × Nat × (Nat → Nat)
abbrev S2 : Type := (Nat → Nat → Int) × (Nat → Nat → Int) × (Nat → Nat → Int) × SX
abbrev PP : Type := Nat × (Nat → Int)
def up2 (A : Nat → Nat → Int) (a j : Nat) (x : Int) : Nat → Nat → Int := fun b k => if b = a ∧ k = j then x else A b k
def kd (a : Nat) : Nat := cond (a == 5 || a == 6 || a == 138 || a == 152 || a == 160 || a == 162 || a == 165) 1 (cond (a == 161 || a == 192) 2 (cond (a == 7 || a == 19 || a == 36 || a == 53 || a == 70 || a == 87 || a == 104 || a == 121 || a == 142) 3 (cond (a == 178) 4 0)))
def cOf (a : Nat) : Nat := cond (a == 5) 5 (cond (a == 6) 1 (cond (a == 138) 4 (cond (a == 152) 3 (cond (a == 160) 0 (cond (a == 162) 2 (cond (a == 165) 6 (0)))))))
def flds (FI : Nat → Nat → Int) (ml qu : Nat) (a : Nat) : List AV := cond (a == 5) [vr 6, vr 138, vr 152, vr 160, vr 162, vr 164] (
  cond (a == 6) [vr 7, vr 19, vr 36, vr 53, vr 70, vr 87, vr 104, vr 121, vi (FI 6 8), vi (FI 6 9)] (
  cond (a == 138) [vr 6, vr 139, vr 140, vr 141, vr 142, vr 150, vr 151, vi (FI 138 7), vi (FI 138 8), vi (FI 138 9), vi (FI 138 10), vi (FI 138 11)] (
  cond (a == 152) [vr 6, vr 153, vr 154, vr 155, vr 156, vr 157, vr ml, vr qu, vi (FI 152 8), vi (FI 152 9), vi (FI 152 10), vi (FI 152 11), vi (FI 152 12)] (
  cond (a == 160) [vr 6, vr 161] (
  cond (a == 162) [vr 6, vr 163, vi (FI 162 2), vi (FI 162 3), vi (FI 162 4), vi (FI 162 5)] (
  cond (a == 165) [vi (FI 165 0), vi (FI 165 1), vr 166, vr 167, vr 168, vr 169, vr 170, vr 171, vr 172, vr 173, vr 174, vr 175, vr 176, vr 177, vr 178, vr 179, vr 180, vr 181, vr 182, vr 183, vr 184, vr 185, vr 186, vr 187, vr 188, vr 189, vr 190, vr 191, vr 192, vi (FI 165 29), vi (FI 165 30), vi (FI 165 31), vi (FI 165 32), vi (FI 165 33), vi (FI 165 34), vi (FI 165 35), vi (FI 165 36)] (
  [])))))))
def tl (n : Nat) (a : Nat) : Nat := cond (Nat.blt a 5) (cond (a == 0) n (cond (a == 4) 7 (cond (a == 3) 3 4))) (cond (Nat.blt a 19) 4 (cond (Nat.blt a 36) 9 (cond (Nat.blt a 87) 16 (cond (Nat.blt a 138) 20 (cond (Nat.blt a 152) (cond (Nat.blt a 140) 7 (cond (Nat.blt a 150) 4 7)) (cond (Nat.blt a 165) (cond (Nat.blt a 154) 6 (cond (Nat.blt a 156) 5 (cond (Nat.blt a 157) 6 (cond (Nat.blt a 158) 5 (cond (Nat.blt a 160) 1 (cond (Nat.blt a 164) 12 7)))))) (cond (Nat.blt a 170) 11 (cond (Nat.blt a 179) 16 (cond (Nat.blt a 182) 256 (cond (Nat.blt a 185) 320 (cond (Nat.blt a 186) 7 (cond (Nat.blt a 189) 16 (cond (Nat.blt a 190) 11 15625)))))))))))))
def iL (n : Nat) (dl : Nat → Nat) (a : Nat) : Nat := cond (Nat.blt a 193) (tl n a) (dl a)
def rL (a : Nat) : Nat := cond (a == 7) 11 (cond (a == 142) 7 16)
def lL (a : Nat) : Nat := cond (a == 161) 21 22
def FFt (j : Nat) : Int := [40, 0, 10, 19].getD j 0
def FMt (j : Nat) : Int := [300, 7, 999, 19].getD j 0
def TMt (j : Nat) : Int := [99, 1, 1].getD j 0
def PWt (j : Nat) : Int := [1, 5, 25, 125, 625, 3125, 15625].getD j 0
def st5 (P : PP) (a j : Nat) : Int := cond (a == 0) (P.2 j) (cond (a == 1) (FFt j) (cond (a == 2) (FMt j) (cond (a == 3) (TMt j) (PWt j))))
def cont (P : PP) (A : Nat → Nat → Int) (a j : Nat) : Int := cond (Nat.blt a 5) (st5 P a j) (A a j)
def cc2 (P : PP) (FI A L : Nat → Nat → Int) (X : SX) (a : Nat) : AC := match kd a with
  | 1 => .inl (cOf a, flds FI X.2.2.1 X.2.2.2.1 a)
  | 2 => .inr (.long, lL a, fun j => vl (L a j))
  | 3 => .inr (.array .int, rL a, fun j => vr (a + 1 + j))
  | 4 => .inr (.boolean, 16, fun j => vi (A a j))
  | _ => .inr (.int, iL P.1 X.2.2.2.2 a, fun j => vi (cont P A a j))
def H2 (P : PP) (S : S2) : Hp := (193 + S.2.2.2.1, S.2.2.2.2.1, cc2 P S.1 S.2.1 S.2.2.1 S.2.2.2)
def WP2 (P : PP) (M : Mth) (d ip : Nat) (ls : LV) (st : List AV) (S : S2) (Q : Option AV → S2 → Prop) : Prop := WP M d ip ls st (H2 P S) (fun v h' => ∃ S', h' = H2 P S' ∧ Q v S')
theorem WP2.mono {P : PP} {M : Mth} {d ip : Nat} {ls : LV} {st : List AV} {S : S2} {Q Q' : Option AV → S2 → Prop} (k : WP2 P M d ip ls st S Q) (hq : ∀ v S', Q v S' → Q' v S') : WP2 P M d ip ls st S Q' := WP.mono k (fun v h' ⟨S', e, q⟩ => ⟨S', e, hq v S' q⟩)
def isIA (P : PP) (X : SX) (a n : Nat) : Prop := kd a = 0 ∧ iL P.1 X.2.2.2.2 a = n ∧ a < 193 + X.1
theorem cc2_obj {P : PP} {FI A L : Nat → Nat → Int} {X : SX} {a : Nat} (h : kd a = 1) : cc2 P FI A L X a = .inl (cOf a, flds FI X.2.2.1 X.2.2.2.1 a) := by unfold cc2; rw [h]; rfl
theorem cc2_int {P : PP} {FI A L : Nat → Nat → Int} {X : SX} {a n : Nat} (h : isIA P X a n) : cc2 P FI A L X a = .inr (.int, n, fun j => vi (cont P A a j)) := by unfold cc2; rw [h.1, ← h.2.1]; rfl
theorem cc2_lng {P : PP} {FI A L : Nat → Nat → Int} {X : SX} {a : Nat} (h : kd a = 2) : cc2 P FI A L X a = .inr (.long, lL a, fun j => vl (L a j)) := by unfold cc2; rw [h]; rfl
theorem cc2_ref {P : PP} {FI A L : Nat → Nat → Int} {X : SX} {a : Nat} (h : kd a = 3) : cc2 P FI A L X a = .inr (.array .int, rL a, fun j => vr (a + 1 + j)) := by unfold cc2; rw [h]; rfl
theorem cc2_bol {P : PP} {FI A L : Nat → Nat → Int} {X : SX} {a : Nat} (h : kd a = 4) : cc2 P FI A L X a = .inr (.boolean, 16, fun j => vi (A a j)) := by unfold cc2; rw [h]; rfl
theorem cont_own {P : PP} {A : Nat → Nat → Int} {a j : Nat} (h : 5 ≤ a) : cont P A a j = A a j := by
  unfold cont
  have : Nat.blt a 5 = false := Bool.eq_false_iff.mpr (by rw [ne_eq, Nat.blt_eq]; omega)
  rw [this]; rfl
theorem kd_lt {a : Nat} (h : kd a ≠ 0) : 5 ≤ a ∧ a < 193 := by
  unfold kd at h
  simp only [cond_eq_ite, Bool.or_eq_true, beq_iff_eq] at h
  split at h
  · omega
  · split at h
    · omega
    · split at h
      · omega
      · split at h
        · omega
        · exact absurd rfl h
theorem WP2_getf {P : PP} {M : Mth} {d ip : Nat} {ls : LV} {st : List AV} {FI A L : Nat → Nat → Int} {X : SX} {Q : Option AV → S2 → Prop} {en : Ent} (he : (mT M)[ip]? = some en) {i a : Nat} {v : AV} (hi : eI en = .getfield i) (hk : kd a = 1) (hx : cOf a = eX en) (hv : (flds FI X.2.2.1 X.2.2.2.1 a)[eY en]? = some v) (k : WP2 P M d (eN en) ls (v :: st) (FI, A, L, X) Q) : WP2 P M d ip ls (vr a :: st) (FI, A, L, X) Q :=
  WP_getf he hi (by rw [← hx]; exact cc2_obj hk) (by have := kd_lt (a := a) (by omega); show a < 193 + X.1; omega) hv k
theorem WP2_iald {P : PP} {M : Mth} {d ip : Nat} {ls : LV} {st : List AV} {FI A L : Nat → Nat → Int} {X : SX} {Q : Option AV → S2 → Prop} {en : Ent} (he : (mT M)[ip]? = some en) {a n j : Nat} {i : Int} (hi : eI en = .iaload) (hA : isIA P X a n) (ha5 : 5 ≤ a) (hj : i = (j : Int)) (h1 : j < n) (k : WP2 P M d (eN en) ls (vi (A a j) :: st) (FI, A, L, X) Q) : WP2 P M d ip ls (vi i :: vr a :: st) (FI, A, L, X) Q := by
  subst hj
  refine WP_iald he hi (cc2_int hA) hA.2.2 (by omega) (by omega) ?_
  rw [cont_own ha5]
  exact k
theorem WP2_ialds {P : PP} {M : Mth} {d ip : Nat} {ls : LV} {st : List AV} {FI A L : Nat → Nat → Int} {X : SX} {Q : Option AV → S2 → Prop} {en : Ent} (he : (mT M)[ip]? = some en) {a n j : Nat} {i : Int} (hi : eI en = .iaload) (hA : isIA P X a n) (ha5 : a < 5) (hj : i = (j : Int)) (h1 : j < n) (k : WP2 P M d (eN en) ls (vi (st5 P a j) :: st) (FI, A, L, X) Q) : WP2 P M d ip ls (vi i :: vr a :: st) (FI, A, L, X) Q := by
  subst hj
  refine WP_iald he hi (cc2_int hA) hA.2.2 (by omega) (by omega) ?_
  have e : cont P A a j = st5 P a j := by
    unfold cont
    have : Nat.blt a 5 = true := by rw [Nat.blt_eq]; exact ha5
    rw [this]; rfl
  show WP2 P M d (eN en) ls (vi (cont P A a j) :: st) (FI, A, L, X) Q
  rw [e]
  exact k
theorem WP2_alen {P : PP} {M : Mth} {d ip : Nat} {ls : LV} {st : List AV} {FI A L : Nat → Nat → Int} {X : SX} {Q : Option AV → S2 → Prop} {en : Ent} (he : (mT M)[ip]? = some en) {a n : Nat} (hi : eI en = .arraylength) (hA : isIA P X a n) (k : WP2 P M d (eN en) ls (vi (n : Int) :: st) (FI, A, L, X) Q) : WP2 P M d ip ls (vr a :: st) (FI, A, L, X) Q := WP_alen he hi (cc2_int hA) hA.2.2 k
theorem WP2_alenl {P : PP} {M : Mth} {d ip : Nat} {ls : LV} {st : List AV} {FI A L : Nat → Nat → Int} {X : SX} {Q : Option AV → S2 → Prop} {en : Ent} (he : (mT M)[ip]? = some en) {a : Nat} (hi : eI en = .arraylength) (hk : kd a = 2) (k : WP2 P M d (eN en) ls (vi (lL a : Int) :: st) (FI, A, L, X) Q) : WP2 P M d ip ls (vr a :: st) (FI, A, L, X) Q := WP_alen he hi (cc2_lng hk) (by have := kd_lt (a := a) (by omega); show a < 193 + X.1; omega) k
theorem WP2_zald {P : PP} {M : Mth} {d ip : Nat} {ls : LV} {st : List AV} {FI A L : Nat → Nat → Int} {X : SX} {Q : Option AV → S2 → Prop} {en : Ent} (he : (mT M)[ip]? = some en) {a j : Nat} {i : Int} (hi : eI en = .baload) (hk : kd a = 4) (hj : i = (j : Int)) (h1 : j < 16) (k : WP2 P M d (eN en) ls (vi (A a j) :: st) (FI, A, L, X) Q) : WP2 P M d ip ls (vi i :: vr a :: st) (FI, A, L, X) Q := by
  subst hj
  exact WP_zald he hi (cc2_bol hk) (by have := kd_lt (a := a) (by omega); show a < 193 + X.1; omega) (by omega) (by omega) k
theorem WP2_lald {P : PP} {M : Mth} {d ip : Nat} {ls : LV} {st : List AV} {FI A L : Nat → Nat → Int} {X : SX} {Q : Option AV → S2 → Prop} {en : Ent} (he : (mT M)[ip]? = some en) {a j n : Nat} {i : Int} (hi : eI en = .laload) (hk : kd a = 2) (hn : lL a = n) (hj : i = (j : Int)) (h1 : j < n) (k : WP2 P M d (eN en) ls (vl (L a j) :: st) (FI, A, L, X) Q) : WP2 P M d ip ls (vi i :: vr a :: st) (FI, A, L, X) Q := by
  subst hj
  exact WP_lald he hi (cc2_lng hk) (by have := kd_lt (a := a) (by omega); show a < 193 + X.1; omega) (by omega) (by omega) k
theorem WP2_aald {P : PP} {M : Mth} {d ip : Nat} {ls : LV} {st : List AV} {FI A L : Nat → Nat → Int} {X : SX} {Q : Option AV → S2 → Prop} {en : Ent} (he : (mT M)[ip]? = some en) {a b j n : Nat} {i : Int} (hi : eI en = .aaload) (hk : kd a = 3) (hb : a + 1 = b) (hn : rL a = n) (hj : i = (j : Int)) (h1 : j < n) (k : WP2 P M d (eN en) ls (vr (b + j) :: st) (FI, A, L, X) Q) : WP2 P M d ip ls (vi i :: vr a :: st) (FI, A, L, X) Q := by
  subst hj
  subst hb
  exact WP_aald he hi (cc2_ref hk) (by have := kd_lt (a := a) (by omega); show a < 193 + X.1; omega) (by omega) (by omega) k
theorem cc2_upA {P : PP} {FI A L : Nat → Nat → Int} {X : SX} {a n j : Nat} {x : Int} (hA : isIA P X a n) (ha5 : 5 ≤ a) : setC (H2 P (FI, A, L, X)) a (.inr (.int, n, fun k => if k = j then vi x else vi (cont P A a k))) = H2 P (FI, up2 A a j x, L, X) := by
  unfold setC H2
  refine congrArg (fun f => (193 + X.1, X.2.1, f)) (funext fun b => ?_)
  by_cases e : b = a
  · subst e
    show (if b = b then _ else _) = cc2 P FI (up2 A b j x) L X b
    rw [if_pos rfl, cc2_int hA]
    refine congrArg (fun f => Sum.inr (FieldType.int, n, f)) (funext fun k => ?_)
    rw [cont_own ha5, cont_own ha5]
    unfold up2
    by_cases ek : k = j
    · rw [if_pos ek, if_pos ⟨rfl, ek⟩]
    · rw [if_neg ek, if_neg (fun q => ek q.2)]
  · show (if b = a then _ else cc2 P FI A L X b) = cc2 P FI (up2 A a j x) L X b
    rw [if_neg e]
    have eu : ∀ k, up2 A a j x b k = A b k := fun k => by unfold up2; rw [if_neg (fun q => e q.1)]
    unfold cc2 cont
    simp only [eu]
theorem WP2_iast {P : PP} {M : Mth} {d ip : Nat} {ls : LV} {st : List AV} {FI A L : Nat → Nat → Int} {X : SX} {Q : Option AV → S2 → Prop} {en : Ent} (he : (mT M)[ip]? = some en) {a n j : Nat} {i x : Int} (hi : eI en = .iastore) (hA : isIA P X a n) (ha5 : 5 ≤ a) (hj : i = (j : Int)) (h1 : j < n) (k : WP2 P M d (eN en) ls st (FI, up2 A a j x, L, X) Q) : WP2 P M d ip ls (vi x :: vi i :: vr a :: st) (FI, A, L, X) Q := by
  subst hj
  refine WP_iast he hi (cc2_int hA) hA.2.2 ha5 (by omega) (by omega) ?_
  have e := cc2_upA (FI := FI) (A := A) (L := L) (j := j) (x := x) hA ha5
  unfold WP2 at k
  rw [← e] at k
  exact k
theorem WP2_zast {P : PP} {M : Mth} {d ip : Nat} {ls : LV} {st : List AV} {FI A L : Nat → Nat → Int} {X : SX} {Q : Option AV → S2 → Prop} {en : Ent} (he : (mT M)[ip]? = some en) {j : Nat} {i x : Int} (hi : eI en = .bastore) (hj : i = (j : Int)) (h1 : j < 16) (hz : x = 0 ∨ x = 1) (k : WP2 P M d (eN en) ls st (FI, up2 A 178 j x, L, X) Q) : WP2 P M d ip ls (vi x :: vi i :: vr 178 :: st) (FI, A, L, X) Q := by
  subst hj
  refine WP_zast he hi (cc2_bol (P := P) (FI := FI) (A := A) (L := L) (X := X) (a := 178) (by rfl)) (by show 178 < 193 + X.1; omega) (by omega) (by omega) (by omega) hz ?_
  have e : setC (H2 P (FI, A, L, X)) 178 (.inr (.boolean, 16, fun k => if k = j then vi x else vi (A 178 k))) = H2 P (FI, up2 A 178 j x, L, X) := by
    unfold setC H2
    refine congrArg (fun f => (193 + X.1, X.2.1, f)) (funext fun b => ?_)
    by_cases e : b = 178
    · subst e
      show (if 178 = 178 then _ else _) = cc2 P FI (up2 A 178 j x) L X 178
      rw [if_pos rfl, cc2_bol rfl]
      refine congrArg (fun f => Sum.inr (FieldType.boolean, 16, f)) (funext fun k => ?_)
      unfold up2
      by_cases ek : k = j
      · rw [if_pos ek, if_pos ⟨rfl, ek⟩]
      · rw [if_neg ek, if_neg (fun q => ek q.2)]
    · show (if b = 178 then _ else cc2 P FI A L X b) = cc2 P FI (up2 A 178 j x) L X b
      rw [if_neg e]
      have eu : ∀ k, up2 A 178 j x b k = A b k := fun k => by unfold up2; rw [if_neg (fun q => e q.1)]
      unfold cc2 cont
      simp only [eu]
  unfold WP2 at k
  rw [← e] at k
  exact k
theorem WP2_last {P : PP} {M : Mth} {d ip : Nat} {ls : LV} {st : List AV} {FI A L : Nat → Nat → Int} {X : SX} {Q : Option AV → S2 → Prop} {en : Ent} (he : (mT M)[ip]? = some en) {a j n : Nat} {i x : Int} (hi : eI en = .lastore) (hk : kd a = 2) (hn : lL a = n) (hj : i = (j : Int)) (h1 : j < n) (k : WP2 P M d (eN en) ls st (FI, A, up2 L a j x, X) Q) : WP2 P M d ip ls (vl x :: vi i :: vr a :: st) (FI, A, L, X) Q := by
  subst hj
  have hlt := kd_lt (a := a) (by omega)
  refine WP_last he hi (cc2_lng hk) (by show a < 193 + X.1; omega) hlt.1 (by omega) (by omega) ?_
  have e : setC (H2 P (FI, A, L, X)) a (.inr (.long, lL a, fun k => if k = j then vl x else vl (L a k))) = H2 P (FI, A, up2 L a j x, X) := by
    unfold setC H2
    refine congrArg (fun f => (193 + X.1, X.2.1, f)) (funext fun b => ?_)
    by_cases e : b = a
    · subst e
      show (if b = b then _ else _) = cc2 P FI A (up2 L b j x) X b
      rw [if_pos rfl, cc2_lng hk]
      refine congrArg (fun f => Sum.inr (FieldType.long, lL b, f)) (funext fun k => ?_)
      unfold up2
      by_cases ek : k = j
      · rw [if_pos ek, if_pos ⟨rfl, ek⟩]
      · rw [if_neg ek, if_neg (fun q => ek q.2)]
    · show (if b = a then _ else cc2 P FI A L X b) = cc2 P FI A (up2 L a j x) X b
      rw [if_neg e]
      have eu : ∀ k, up2 L a j x b k = L b k := fun k => by unfold up2; rw [if_neg (fun q => e q.1)]
      unfold cc2
      simp only [eu]
  unfold WP2 at k
  rw [← e] at k
  exact k
def isI (a k : Nat) : Bool := (a == 6 && (k == 8 || k == 9)) || (a == 138 && (k == 7 || k == 8 || k == 9 || k == 10 || k == 11)) || (a == 152 && (k == 8 || k == 9 || k == 10 || k == 11 || k == 12)) || (a == 162 && (k == 2 || k == 3 || k == 4 || k == 5)) || (a == 165 && (k == 0 || k == 1 || k == 29 || k == 30 || k == 31 || k == 32 || k == 33 || k == 34 || k == 35 || k == 36))
theorem flds_up {FI : Nat → Nat → Int} {ml qu a k : Nat} {x : Int} (h : isI a k = true) : (flds FI ml qu a).set k (vi x) = flds (up2 FI a k x) ml qu a := by
  unfold isI at h
  simp only [Bool.or_eq_true, Bool.and_eq_true, beq_iff_eq, or_assoc] at h
  rcases h with ⟨rfl, rfl | rfl⟩ | ⟨rfl, rfl | rfl | rfl | rfl | rfl⟩ | ⟨rfl, rfl | rfl | rfl | rfl | rfl⟩ | ⟨rfl, rfl | rfl | rfl | rfl⟩ | ⟨rfl, rfl | rfl | rfl | rfl | rfl | rfl | rfl | rfl | rfl | rfl⟩ <;> simp [flds, up2]
theorem flds_ne {FI : Nat → Nat → Int} {ml qu a b k : Nat} {x : Int} (h : b ≠ a) : flds (up2 FI a k x) ml qu b = flds FI ml qu b := by
  have e : ∀ j, up2 FI a k x b j = FI b j := fun j => by unfold up2; rw [if_neg (fun q => h q.1)]
  unfold flds
  simp only [cond_eq_ite, beq_iff_eq]
  repeat (split; · rename_i hb; subst hb; simp only [e])
  rfl
theorem fldsF {FI : Nat → Nat → Int} {ml qu a k : Nat} (h : isI a k = true) : kd a = 1 := by
  unfold isI at h
  simp only [Bool.or_eq_true, Bool.and_eq_true, beq_iff_eq, or_assoc] at h
  rcases h with ⟨rfl, -⟩ | ⟨rfl, -⟩ | ⟨rfl, -⟩ | ⟨rfl, -⟩ | ⟨rfl, -⟩ <;> rfl
theorem WP2_putf {P : PP} {M : Mth} {d ip : Nat} {ls : LV} {st : List AV} {FI A L : Nat → Nat → Int} {X : SX} {Q : Option AV → S2 → Prop} {en : Ent} (he : (mT M)[ip]? = some en) {i a : Nat} {x : Int} (hi : eI en = .putfield i) (hf : isI a (eY en) = true) (hx : cOf a = eX en) (hfin : (((vwCl[eX en]?).getD ("", TX0, 0)).2.1 (eY en)).2.2.2 = false) (hv : fok (clT (eX en) (eY en)) (vi x)) (k : WP2 P M d (eN en) ls st (up2 FI a (eY en) x, A, L, X) Q) : WP2 P M d ip ls (vi x :: vr a :: st) (FI, A, L, X) Q := by
  have hk := fldsF (FI := FI) (ml := 0) (qu := 0) hf
  have hlt := kd_lt (a := a) (by omega)
  refine WP_putf he hi (by rw [← hx]; exact cc2_obj hk) (by show a < 193 + X.1; omega) hlt.1 hfin hv ?_
  have e : setC (H2 P (FI, A, L, X)) a (.inl (eX en, (flds FI X.2.2.1 X.2.2.2.1 a).set (eY en) (vi x))) = H2 P (up2 FI a (eY en) x, A, L, X) := by
    unfold setC H2
    refine congrArg (fun f => (193 + X.1, X.2.1, f)) (funext fun b => ?_)
    by_cases e : b = a
    · subst e
      show (if b = b then _ else _) = cc2 P (up2 FI b (eY en) x) A L X b
      rw [if_pos rfl, cc2_obj hk, flds_up hf, hx]
    · show (if b = a then _ else cc2 P FI A L X b) = cc2 P (up2 FI a (eY en) x) A L X b
      rw [if_neg e]
      unfold cc2
      simp only [flds_ne e]
  unfold WP2 at k
  rw [← e] at k
  exact k
theorem WP2_callV {P : PP} {M M' : Mth} {d ip : Nat} {ls : LV} {stk st : List AV} {S : S2} {Q : Option AV → S2 → Prop} {en : Ent} (n : Nat) (hok' : OKV M' n) (he : (mT M)[ip]? = some en) {i : Nat} (hi : eI en = .invokevirtual i) (hw : (eW en == 99999) = false) (hy : NM[eX en]? = some (mY M')) (hnl : (stk.take n).length = n) {a : Nat} (hst : stk = (stk.take n) ++ vr a :: st) (hs8 : (st.map ac).sum ≤ 8) (hlenA : (argl (vr a :: (stk.take n).reverse)).length ≤ mL M') (hk : kd a = 1) (hcl : ((vwCl[cOf a]?).getD ("", TX0, 0)).1 = (mY M').cls) (k : WP2 P M' d 0 (ent M' (vr a :: (stk.take n).reverse)) [] S (fun v1 S1 => WP2 P M (d + 1) (eN en) ls (pushR v1 st) S1 Q)) : WP2 P M (d + 1) ip ls stk S Q :=
  WP_callV n hok' he hi hw hy hnl hst hs8 hlenA (cc2_obj hk) (by have := kd_lt (a := a) (by omega); show a < 193 + S.2.2.2.1; omega) hcl (WP.mono k (fun v1 h1 ⟨S1, e1, q1⟩ => by rw [e1]; exact q1))
theorem WP2_callS {P : PP} {M M' : Mth} {d ip : Nat} {ls : LV} {stk st : List AV} {S : S2} {Q : Option AV → S2 → Prop} {en : Ent} (n : Nat) (hok' : OKS M' n) (he : (mT M)[ip]? = some en) {i : Nat} (hi : eI en = .invokestatic i) (hw : (eW en == 99999) = false) (hny : (eY en == 1) = false) (hy : NM[eX en]? = some (mY M')) (hnl : (stk.take n).length = n) (hst : stk = (stk.take n) ++ st) (hs8 : (st.map ac).sum ≤ 8) (hlenA : (argl ((stk.take n).reverse)).length ≤ mL M') (k : WP2 P M' d 0 (ent M' ((stk.take n).reverse)) [] S (fun v1 S1 => WP2 P M (d + 1) (eN en) ls (pushR v1 st) S1 Q)) : WP2 P M (d + 1) ip ls stk S Q :=
  WP_callS n hok' he hi hw hny hy hnl hst hs8 hlenA (WP.mono k (fun v1 h1 ⟨S1, e1, q1⟩ => by rw [e1]; exact q1))
theorem WP2_callN {P : PP} {M M' : Mth} {d ip : Nat} {ls : LV} {stk st : List AV} {S : S2} {Q : Option AV → S2 → Prop} {en : Ent} (n : Nat) (hok' : OKS M' n) (he : (mT M)[ip]? = some en) {i : Nat} (hi : eI en = .invokestatic i) (hw : (eW en == 99999) = false) (hny : (eY en == 1) = true) (hy : NM[eX en]? = some (mY M')) (hnl : (stk.take n).length = n) (hst : stk = (stk.take n) ++ st) (hs8 : (st.map ac).sum ≤ 8) (hlenA : (argl ((stk.take n).reverse)).length ≤ mL M') (k : WP2 P M' d 0 (ent M' ((stk.take n).reverse)) [] S (fun v1 S1 => WP2 P M (d + 1) (eN en) ls (pushR v1 st) S1 Q)) : WP2 P M (d + 1) ip ls stk S Q :=
  WP_callN n hok' he hi hw hny hy hnl hst hs8 hlenA (WP.mono k (fun v1 h1 ⟨S1, e1, q1⟩ => by rw [e1]; exact q1))
theorem ia_lit {P : PP} {X : SX} {a n : Nat} (h1 : kd a = 0) (h2 : iL P.1 X.2.2.2.2 a = n) (h3 : a < 193 + X.1) : isIA P X a n := ⟨h1, h2, h3⟩
theorem ia_fl {P : PP} {X : SX} {t : Nat} (h : t < 11) : isIA P X (8 + t) 4 := by
  refine ⟨?_, ?_, by omega⟩
  · unfold kd
    simp only [cond_eq_ite, Bool.or_eq_true, beq_iff_eq]
    repeat (first | rw [if_neg (by omega)] | rfl)
  · unfold iL tl
    simp only [cond_eq_ite, Nat.blt_eq, beq_iff_eq]
    repeat (first | rw [if_neg (by omega)] | rw [if_pos (by omega)])
theorem ia_tm {P : PP} {X : SX} {t : Nat} (h : t < 16) : isIA P X (20 + t) 9 := by
  refine ⟨?_, ?_, by omega⟩
  · unfold kd
    simp only [cond_eq_ite, Bool.or_eq_true, beq_iff_eq]
    repeat (first | rw [if_neg (by omega)] | rfl)
  · unfold iL tl
    simp only [cond_eq_ite, Nat.blt_eq, beq_iff_eq]
    repeat (first | rw [if_neg (by omega)] | rw [if_pos (by omega)])
theorem ia_vs {P : PP} {X : SX} {t : Nat} (h : t < 16) : isIA P X (37 + t) 16 := by
  refine ⟨?_, ?_, by omega⟩
  · unfold kd
    simp only [cond_eq_ite, Bool.or_eq_true, beq_iff_eq]
    repeat (first | rw [if_neg (by omega)] | rfl)
  · unfold iL tl
    simp only [cond_eq_ite, Nat.blt_eq, beq_iff_eq]
    repeat (first | rw [if_neg (by omega)] | rw [if_pos (by omega)])
theorem ia_br {P : PP} {X : SX} {t : Nat} (h : t < 16) : isIA P X (54 + t) 16 := by
  refine ⟨?_, ?_, by omega⟩
  · unfold kd
    simp only [cond_eq_ite, Bool.or_eq_true, beq_iff_eq]
    repeat (first | rw [if_neg (by omega)] | rfl)
  · unfold iL tl
    simp only [cond_eq_ite, Nat.blt_eq, beq_iff_eq]
    repeat (first | rw [if_neg (by omega)] | rw [if_pos (by omega)])
theorem ia_nr {P : PP} {X : SX} {t : Nat} (h : t < 16) : isIA P X (71 + t) 16 := by
  refine ⟨?_, ?_, by omega⟩
  · unfold kd
    simp only [cond_eq_ite, Bool.or_eq_true, beq_iff_eq]
    repeat (first | rw [if_neg (by omega)] | rfl)
  · unfold iL tl
    simp only [cond_eq_ite, Nat.blt_eq, beq_iff_eq]
    repeat (first | rw [if_neg (by omega)] | rw [if_pos (by omega)])
theorem ia_hm {P : PP} {X : SX} {t : Nat} (h : t < 16) : isIA P X (88 + t) 20 := by
  refine ⟨?_, ?_, by omega⟩
  · unfold kd
    simp only [cond_eq_ite, Bool.or_eq_true, beq_iff_eq]
    repeat (first | rw [if_neg (by omega)] | rfl)
  · unfold iL tl
    simp only [cond_eq_ite, Nat.blt_eq, beq_iff_eq]
    repeat (first | rw [if_neg (by omega)] | rw [if_pos (by omega)])
theorem ia_su {P : PP} {X : SX} {t : Nat} (h : t < 16) : isIA P X (105 + t) 20 := by
  refine ⟨?_, ?_, by omega⟩
  · unfold kd
    simp only [cond_eq_ite, Bool.or_eq_true, beq_iff_eq]
    repeat (first | rw [if_neg (by omega)] | rfl)
  · unfold iL tl
    simp only [cond_eq_ite, Nat.blt_eq, beq_iff_eq]
    repeat (first | rw [if_neg (by omega)] | rw [if_pos (by omega)])
theorem ia_gw {P : PP} {X : SX} {t : Nat} (h : t < 16) : isIA P X (122 + t) 20 := by
  refine ⟨?_, ?_, by omega⟩
  · unfold kd
    simp only [cond_eq_ite, Bool.or_eq_true, beq_iff_eq]
    repeat (first | rw [if_neg (by omega)] | rfl)
  · unfold iL tl
    simp only [cond_eq_ite, Nat.blt_eq, beq_iff_eq]
    repeat (first | rw [if_neg (by omega)] | rw [if_pos (by omega)])
theorem ia_ws {P : PP} {X : SX} {t : Nat} (h : t < 7) : isIA P X (143 + t) 4 := by
  refine ⟨?_, ?_, by omega⟩
  · unfold kd
    simp only [cond_eq_ite, Bool.or_eq_true, beq_iff_eq]
    repeat (first | rw [if_neg (by omega)] | rfl)
  · unfold iL tl
    simp only [cond_eq_ite, Nat.blt_eq, beq_iff_eq]
    repeat (first | rw [if_neg (by omega)] | rw [if_pos (by omega)])

/-! THE ABSTRACT MACHINE'S WORDS: values with whole numbers, cells by numbers, a judgement WP over a method's table -/
def inR (x : Int) : Prop := -2147483648 ≤ x ∧ x ≤ 2147483647
abbrev AV : Type := Int ⊕ Int ⊕ Option Nat
abbrev vi (z : Int) : AV := .inl z
abbrev vl (z : Int) : AV := .inr (.inl z)
abbrev vr (a : Nat) : AV := .inr (.inr (some a))
abbrev vn : AV := .inr (.inr none)
def cv (f : Nat → Nat) : AV → Value
  | .inl z => .int (Int32.ofInt z)
  | .inr (.inl z) => .long (Int64.ofInt z)
  | .inr (.inr (some a)) => .ref (f a)
  | .inr (.inr none) => .null
def ac : AV → Nat
  | .inr (.inl _) => 2
  | _ => 1
theorem cv_cat (f : Nat → Nat) (v : AV) : (cv f v).category = ac v := by
  rcases v with z | z | z
  · rfl
  · rfl
  · cases z <;> rfl
abbrev LV : Type := List (Option AV)
def l1 : Option AV → Option AV
  | some (.inr (.inl _)) => none
  | x => x
def lput : LV → Nat → Option AV → LV
  | [], _, _ => []
  | _ :: r, 0, v => v :: r
  | [x], 1, _ => [l1 x]
  | x :: _ :: r, 1, v => l1 x :: v :: r
  | x :: r, k + 2, v => x :: lput r (k + 1) v
def lputL (ls : LV) (k : Nat) (v : AV) : LV := (lput ls k (some v)).set (k + 1) none
theorem l1_spec {x : Option AV} {v : AV} (h : l1 x = some v) : x = some v ∧ ac v ≠ 2 := by
  rcases x with - | (z | z | z)
  · cases h
  · cases h; exact ⟨rfl, Nat.noConfusion ∘ Nat.succ.inj⟩
  · cases h
  · cases h; exact ⟨rfl, Nat.noConfusion ∘ Nat.succ.inj⟩
theorem lput_spec : ∀ (ls : LV) (i : Nat) (w : Option AV) (k : Nat) (v : AV), (lput ls i w)[k]? = some (some v) → (k = i ∧ w = some v) ∨ (k ≠ i ∧ ls[k]? = some (some v) ∧ ¬ (k + 1 = i ∧ ac v = 2))
  | [], i, w, k, v, h => by simp [lput] at h
  | x :: r, 0, w, k, v, h => by
    cases k with
    | zero => simp [lput] at h; exact Or.inl ⟨rfl, h⟩
    | succ k => simp [lput] at h; exact Or.inr ⟨by omega, by simpa using h, by omega⟩
  | [x], 1, w, k, v, h => by
    cases k with
    | zero =>
      have h1 : l1 x = some v := by simpa [lput] using h
      obtain ⟨e, hc⟩ := l1_spec h1
      exact Or.inr ⟨by omega, by simp [e], fun q => hc q.2⟩
    | succ k => simp [lput] at h
  | x :: y :: r, 1, w, k, v, h => by
    match k with
    | 0 =>
      have h1 : l1 x = some v := by simpa [lput] using h
      obtain ⟨e, hc⟩ := l1_spec h1
      exact Or.inr ⟨by omega, by simp [e], fun q => hc q.2⟩
    | 1 => exact Or.inl ⟨rfl, by simpa [lput] using h⟩
    | k + 2 => exact Or.inr ⟨by omega, by simpa [lput] using h, by omega⟩
  | x :: r, i + 2, w, k, v, h => by
    cases k with
    | zero => exact Or.inr ⟨by omega, by simpa [lput] using h, by omega⟩
    | succ k =>
      have h1 : (lput r (i + 1) w)[k]? = some (some v) := by simpa [lput] using h
      rcases lput_spec r (i + 1) w k v h1 with ⟨a, b⟩ | ⟨a, b, c⟩
      · exact Or.inl ⟨by omega, b⟩
      · exact Or.inr ⟨by omega, by simpa using b, fun q => c ⟨by omega, q.2⟩⟩

theorem lputL_spec (ls : LV) (i : Nat) (w : AV) (k : Nat) (v : AV) (h : (lputL ls i w)[k]? = some (some v)) : (k = i ∧ w = v) ∨ (k ≠ i ∧ k ≠ i + 1 ∧ ls[k]? = some (some v) ∧ ¬ (k + 1 = i ∧ ac v = 2)) := by
  unfold lputL at h
  rw [List.getElem?_set] at h
  by_cases e : i + 1 = k
  · rw [if_pos e] at h
    split at h <;> simp at h
  · rw [if_neg e] at h
    rcases lput_spec _ _ _ _ _ h with ⟨a, b⟩ | ⟨a, b, c⟩
    · exact Or.inl ⟨a, Option.some.inj b⟩
    · exact Or.inr ⟨a, fun q => e q.symm, b, c⟩
def lvR (f : Nat → Nat) (LS : Array Slot) (n : Nat) (ls : LV) : Prop := LS.size = n ∧ lv_wf LS ∧ ∀ (k : Nat) (v : AV), ls[k]? = some (some v) → LS[k]? = some (.val (cv f v))
def lvp (f : Nat → Nat) : Nat → LV → List (Nat × Value)
  | _, [] => []
  | k, none :: r => lvp f (k + 1) r
  | k, some v :: r => (k, cv f v) :: lvp f (k + 1) r
theorem lvp_mem {f : Nat → Nat} : ∀ (ls : LV) (k0 : Nat) (q : Nat × Value), q ∈ lvp f k0 ls ↔ ∃ (j : Nat) (v : AV), ls[j]? = some (some v) ∧ q = (k0 + j, cv f v)
  | [], k0, q => by simp [lvp]
  | none :: r, k0, q => by
    rw [lvp, lvp_mem r (k0 + 1) q]
    constructor
    · rintro ⟨j, v, h, e⟩
      exact ⟨j + 1, v, by simpa using h, by rw [e]; congr 1; omega⟩
    · rintro ⟨j, v, h, e⟩
      cases j with
      | zero => simp at h
      | succ j => exact ⟨j, v, by simpa using h, by rw [e]; congr 1; omega⟩
  | some x :: r, k0, q => by
    rw [lvp, List.mem_cons, lvp_mem r (k0 + 1) q]
    constructor
    · rintro (rfl | ⟨j, v, h, e⟩)
      · exact ⟨0, x, by simp, by simp⟩
      · exact ⟨j + 1, v, by simpa using h, by rw [e]; congr 1; omega⟩
    · rintro ⟨j, v, h, e⟩
      cases j with
      | zero =>
        simp at h
        subst h
        exact Or.inl (by simpa using e)
      | succ j => exact Or.inr ⟨j, v, by simpa using h, by rw [e]; congr 1; omega⟩
theorem lvR.has {f : Nat → Nat} {LS : Array Slot} {n : Nat} {ls : LV} (h : lvR f LS n ls) : lv_has LS n (lvp f 0 ls) := by
  refine ⟨h.1, h.2.1, fun q hq => ?_⟩
  obtain ⟨j, v, hj, rfl⟩ := (lvp_mem ls 0 q).mp hq
  simpa using h.2.2 j v hj
theorem lvR.put {f : Nat → Nat} {LS' : Array Slot} {n : Nat} {ls : LV} {i : Nat} {w : AV} (h : lv_has LS' n ((i, cv f w) :: (lvp f 0 ls).filter (fun q => !(q.1 == i) && !(q.1 + 1 == i && q.2.category == 2)))) : lvR f LS' n (lput ls i (some w)) := by
  refine ⟨h.1, h.2.1, fun k v hk => ?_⟩
  rcases lput_spec _ _ _ _ _ hk with ⟨rfl, e⟩ | ⟨a, b, c⟩
  · cases e
    exact h.2.2 (k, cv f w) List.mem_cons_self
  · refine h.2.2 (k, cv f v) (List.mem_cons_of_mem _ (List.mem_filter.mpr ⟨(lvp_mem ls 0 _).mpr ⟨k, v, b, by simp⟩, ?_⟩))
    rw [cv_cat]
    simp only [Bool.and_eq_true, Bool.not_eq_true', beq_eq_false_iff_ne, ne_eq, Bool.and_eq_false_imp, beq_iff_eq]
    exact ⟨a, fun q r => c ⟨q, r⟩⟩
theorem lvR.putL {f : Nat → Nat} {LS' : Array Slot} {n : Nat} {ls : LV} {i : Nat} {w : AV} (h : lv_has LS' n ((i, cv f w) :: (lvp f 0 ls).filter (fun q => !(q.1 == i) && (!(q.1 == i + 1) && !(q.1 + 1 == i && q.2.category == 2))))) : lvR f LS' n (lputL ls i w) := by
  refine ⟨h.1, h.2.1, fun k v hk => ?_⟩
  rcases lputL_spec _ _ _ _ _ hk with ⟨rfl, e⟩ | ⟨a, a2, b, c⟩
  · cases e
    exact h.2.2 (k, cv f w) List.mem_cons_self
  · refine h.2.2 (k, cv f v) (List.mem_cons_of_mem _ (List.mem_filter.mpr ⟨(lvp_mem ls 0 _).mpr ⟨k, v, b, by simp⟩, ?_⟩))
    rw [cv_cat]
    simp only [Bool.and_eq_true, Bool.not_eq_true', beq_eq_false_iff_ne, ne_eq, Bool.and_eq_false_imp, beq_iff_eq]
    exact ⟨a, a2, fun q r => c ⟨q, r⟩⟩
/-! bits, as functions of whole numbers -/
def iAnd (x y : Int) : Int := (Int32.ofInt x &&& Int32.ofInt y).toInt
def iOr (x y : Int) : Int := (Int32.ofInt x ||| Int32.ofInt y).toInt
def iXor (x y : Int) : Int := (Int32.ofInt x ^^^ Int32.ofInt y).toInt
def iShl (x y : Int) : Int := (Int32.ofInt x <<< (Int32.ofInt y &&& 31)).toInt
def iShr (x y : Int) : Int := (Int32.ofInt x >>> (Int32.ofInt y &&& 31)).toInt
def iUsh (x y : Int) : Int := ((Int32.ofInt x).toUInt32 >>> ((Int32.ofInt y).toUInt32 &&& Int32.toUInt32 31)).toInt32.toInt
/-- what an instruction that touches neither heap nor course does -/
def st1 (ls : LV) : Instr → List AV → Option (LV × List AV)
  | .iconst n, st => some (ls, vi n :: st)
  | .bipush n, st => some (ls, vi n :: st)
  | .sipush n, st => some (ls, vi n :: st)
  | .lconst n, st => some (ls, vl (n.val : Int) :: st)
  | .iload k, st => match ls[k]? with
    | some (some (.inl x)) => some (ls, vi x :: st)
    | _ => none
  | .iload_n k, st => match ls[k.val]? with
    | some (some (.inl x)) => some (ls, vi x :: st)
    | _ => none
  | .lload k, st => match ls[k]? with
    | some (some (.inr (.inl x))) => some (ls, vl x :: st)
    | _ => none
  | .lload_n k, st => match ls[k.val]? with
    | some (some (.inr (.inl x))) => some (ls, vl x :: st)
    | _ => none
  | .aload k, st => match ls[k]? with
    | some (some (.inr (.inr (some a)))) => some (ls, vr a :: st)
    | _ => none
  | .aload_n k, st => match ls[k.val]? with
    | some (some (.inr (.inr (some a)))) => some (ls, vr a :: st)
    | _ => none
  | .istore k, .inl x :: st => some (lput ls k (some (vi x)), st)
  | .istore_n k, .inl x :: st => some (lput ls k.val (some (vi x)), st)
  | .lstore k, .inr (.inl x) :: st => some (lputL ls k (vl x), st)
  | .lstore_n k, .inr (.inl x) :: st => some (lputL ls k.val (vl x), st)
  | .astore k, .inr (.inr (some a)) :: st => some (lput ls k (some (vr a)), st)
  | .astore_n k, .inr (.inr (some a)) :: st => some (lput ls k.val (some (vr a)), st)
  | .iinc k n, st => match ls[k]? with
    | some (some (.inl x)) => some (lput ls k (some (vi (x + n))), st)
    | _ => none
  | .iadd, .inl y :: .inl x :: st => some (ls, vi (x + y) :: st)
  | .isub, .inl y :: .inl x :: st => some (ls, vi (x - y) :: st)
  | .imul, .inl y :: .inl x :: st => some (ls, vi (x * y) :: st)
  | .ineg, .inl x :: st => some (ls, vi (-x) :: st)
  | .iand, .inl y :: .inl x :: st => some (ls, vi (iAnd x y) :: st)
  | .ior, .inl y :: .inl x :: st => some (ls, vi (iOr x y) :: st)
  | .ixor, .inl y :: .inl x :: st => some (ls, vi (iXor x y) :: st)
  | .ishl, .inl y :: .inl x :: st => some (ls, vi (iShl x y) :: st)
  | .ishr, .inl y :: .inl x :: st => some (ls, vi (iShr x y) :: st)
  | .iushr, .inl y :: .inl x :: st => some (ls, vi (iUsh x y) :: st)
  | .ladd, .inr (.inl y) :: .inr (.inl x) :: st => some (ls, vl (x + y) :: st)
  | .lsub, .inr (.inl y) :: .inr (.inl x) :: st => some (ls, vl (x - y) :: st)
  | .lmul, .inr (.inl y) :: .inr (.inl x) :: st => some (ls, vl (x * y) :: st)
  | .l2i, .inr (.inl x) :: st => some (ls, vi x :: st)
  | .pop, v :: st => match ac v with
    | 1 => some (ls, st)
    | _ => none
  | .dup, v :: st => match ac v with
    | 1 => some (ls, v :: v :: st)
    | _ => none
  | .dup_x1, v :: u :: st => match ac v, ac u with
    | 1, 1 => some (ls, v :: u :: v :: st)
    | _, _ => none
  | .dup_x2, v :: u :: t :: st => match ac v, ac u, ac t with
    | 1, 1, 1 => some (ls, v :: u :: t :: v :: st)
    | _, _, _ => none
  | .dup2, v :: u :: st => match ac v, ac u with
    | 1, 1 => some (ls, v :: u :: v :: u :: st)
    | _, _ => none
  | _, _ => none

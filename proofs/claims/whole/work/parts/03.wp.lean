/-! THE JUDGEMENT: cells by numbers (0 the script, 1 .. 4 the static arrays, from 5 on what was made, in its order) -/
abbrev AC : Type := (Nat × List AV) ⊕ (FieldType × Nat × (Nat → AV))
abbrev Hp : Type := Nat × Nat × (Nat → AC)
def mY (M : Mth) : MethodName := M.1
def mC (M : Mth) : ByteArray := M.2.1
def mL (M : Mth) : Nat := M.2.2.1
def mR (M : Mth) : Option FieldType := M.2.2.2.1
def mT (M : Mth) : List Ent := M.2.2.2.2.1
def mK (M : Mth) (i : Nat) : Nat := M.2.2.2.2.2.getD i 99999
def ePc (e : Ent) : Nat := e.1
def eI (e : Ent) : Instr := e.2.1
def eL (e : Ent) : Nat := e.2.2.1
def eN (e : Ent) : Nat := e.2.2.2.1
def eX (e : Ent) : Nat := e.2.2.2.2.1
def eY (e : Ent) : Nat := e.2.2.2.2.2.1
def eW (e : Ent) : Nat := e.2.2.2.2.2.2
def bp (M : Mth) (ip : Nat) : Nat := match (mT M)[ip]? with
  | some e => ePc e
  | none => 0
def sN : Nat → String × String × String
  | 1 => ("FloorPlans", "FLOOR_FIRST", "[I")
  | 2 => ("FloorPlans", "FLOOR_MOST", "[I")
  | 3 => ("FloorPlans", "TWO_MOST", "[I")
  | _ => ("FloorPlans$Moving", "POWERS", "[I")
def lenI : Instr → Nat
  | .bipush _ => 2
  | .iload _ => 2
  | .lload _ => 2
  | .aload _ => 2
  | .istore _ => 2
  | .lstore _ => 2
  | .astore _ => 2
  | .newarray _ => 2
  | .ldc _ => 2
  | .sipush _ => 3
  | .ldc_w _ => 3
  | .ldc2_w _ => 3
  | .iinc _ _ => 3
  | .ifCond _ _ => 3
  | .if_icmp _ _ => 3
  | .goto _ => 3
  | .getstatic _ => 3
  | .getfield _ => 3
  | .putfield _ => 3
  | .invokevirtual _ => 3
  | .invokespecial _ => 3
  | .invokestatic _ => 3
  | .new _ => 3
  | .multianewarray _ _ => 4
  | _ => 1
def isSw : Instr → Bool
  | .tableswitch _ _ _ _ => true
  | _ => false
def noFall : Instr → Bool
  | .tableswitch _ _ _ _ => true
  | .goto _ => true
  | .ireturn => true
  | .lreturn => true
  | .areturn => true
  | .return_ => true
  | .athrow => true
  | _ => false
def okX (M : Mth) (e : Ent) : Bool := match eI e with
  | .bipush n => decide ((Int8.ofInt n).toInt32 = Int32.ofInt n)
  | .sipush n => decide ((Int16.ofInt n).toInt32 = Int32.ofInt n)
  | .istore k => decide (k < mL M)
  | .astore k => decide (k < mL M)
  | .lstore k => decide (k + 1 < mL M)
  | .istore_n k => decide (k.val < mL M)
  | .astore_n k => decide (k.val < mL M)
  | .lstore_n k => decide (k.val + 1 < mL M)
  | .iinc k _ => decide (k < mL M)
  | .ifCond _ o => decide ((ePc e : Int) + o = (bp M (eX e) : Int))
  | .if_icmp _ o => decide ((ePc e : Int) + o = (bp M (eX e) : Int))
  | .goto o => decide ((ePc e : Int) + o = (bp M (eX e) : Int))
  | .getfield i => match vwCl[eX e]? with
    | some q => decide (eY e < q.2.2) && decide ((q.2.1 (eY e)).1 = q.1) && decide (lw_tbl[eW e]? = some (.fieldLink (mY M).cls i q.1 (q.2.1 (eY e)).2.1 (q.2.1 (eY e)).2.2.1))
    | none => false
  | .putfield i => match vwCl[eX e]? with
    | some q => decide (eY e < q.2.2) && decide ((q.2.1 (eY e)).1 = q.1) && decide (lw_tbl[eW e]? = some (.fieldLink (mY M).cls i q.1 (q.2.1 (eY e)).2.1 (q.2.1 (eY e)).2.2.1))
    | none => false
  | .getstatic i => decide (1 ≤ eX e) && decide (eX e < 5) && (decide (lw_tbl[eW e]? = some (.fieldLink (mY M).cls i (sN (eX e)).1 (sN (eX e)).2.1 (sN (eX e)).2.2)) || decide (lw_tbl[eW e]? = some (.fieldLinkNest (mY M).cls i (sN (eX e)).1 (sN (eX e)).2.1 (sN (eX e)).2.2 "FloorPlans")))
  | .new i => eW e == 99999 || (match vwCl[eX e]? with
    | some q => decide (lw_tbl[eW e]? = some (.classLink (mY M).cls i q.1))
    | none => false)
  | .newarray t => decide (lw_tbl[eW e]? = some (.arrayClass (newarray.typeOf t)))
  | .multianewarray i n => decide (n = 2) && decide (lw_tbl[eW e]? = some (.classLink (mY M).cls i "[[I"))
  | .ldc_w i => decide (lw_tbl[eW e]? = some (.constant (mY M).cls i (Int32.ofInt (eX e))))
  | .ldc2_w i => decide (lw_tbl[eW e]? = some (.constantLong (mY M).cls i (Int64.ofInt (eX e))))
  | .invokevirtual i => eW e == 99999 || (match NM[eX e]? with
    | some y => decide (lw_tbl[eW e]? = some (.methodLink (mY M).cls i y))
    | none => false)
  | .invokespecial i => eW e == 99999 || (match NM[eX e]? with
    | some y => decide (lw_tbl[eW e]? = some (.methodLink (mY M).cls i y))
    | none => false)
  | .invokestatic i => eW e == 99999 || (match NM[eX e]? with
    | some y => if eY e == 1 then decide (lw_tbl[eW e]? = some (.methodLinkNest (mY M).cls i y "FloorPlans")) else decide (lw_tbl[eW e]? = some (.methodLink (mY M).cls i y))
    | none => false)
  | _ => true
def okE (M : Mth) (e : Ent) : Bool := decide (decode (mC M) (ePc e) = .ok (eI e, eL e)) && (isSw (eI e) || decide (eL e = lenI (eI e))) && (noFall (eI e) || decide (bp M (eN e) = ePc e + eL e)) && okX M e
def MOK (M : Mth) : Prop := (mT M).all (okE M) = true
theorem MOK.at {M : Mth} (h : MOK M) {ip : Nat} {e : Ent} (he : (mT M)[ip]? = some e) : bp M ip = ePc e ∧ decode (mC M) (ePc e) = .ok (eI e, eL e) ∧ (isSw (eI e) = false → eL e = lenI (eI e)) ∧ (noFall (eI e) = false → bp M (eN e) = ePc e + eL e) ∧ okX M e = true := by
  have h1 := List.all_eq_true.mp h e (List.mem_of_getElem? he)
  unfold okE at h1
  simp only [Bool.and_eq_true, decide_eq_true_eq, Bool.or_eq_true] at h1
  obtain ⟨⟨⟨a, b⟩, c⟩, d⟩ := h1
  refine ⟨by unfold bp; rw [he], a, fun q => ?_, fun q => ?_, d⟩
  · rcases b with b | b
    · rw [q] at b; cases b
    · exact b
  · rcases c with c | c
    · rw [q] at c; cases c
    · exact c
def sg (U0 : State) (pre : Nat → Nat) (a : Nat) : Nat := if a < 5 then pre a else U0.heap.size + (a - 5)
def cellAt (U0 : State) (D : va_G) (f : Nat → Nat) (q : Nat) (H : Heap) : AC → Prop
  | .inl (ci, fs) => ∃ r : vw_C, vwCl[ci]? = some r ∧ fs.length = r.2.2 ∧ t_OB q (D.1 ci) r.2.2 (D.2 ci) H (vp_V (fs.map (cv f)))
  | .inr (ty, n, g) => ∃ cell : Cell, H[q]? = some cell ∧ U0.isArrayOf cell ty ∧ cell.vm ≠ .unknown ∧ cell.slots.size = n ∧ n ≤ 2147483647 ∧ ∀ j : Nat, j < n → cell.slots[j]? = some (cv f (g j))
def Rel (U0 : State) (D : va_G) (pre : Nat → Nat) (h : Hp) (H : Heap) : Prop := H.size + 5 = U0.heap.size + h.1 ∧ 5 ≤ h.1 ∧ (∀ q : Nat, q < U0.heap.size → H[q]? = U0.heap[q]?) ∧ ∀ a : Nat, a < h.1 → cellAt U0 D (sg U0 pre) (sg U0 pre a) H (h.2.2 a)
def GF (U0 : State) (a0 : Array Value) (D : va_G) (pre : Nat → Nat) : Prop := (∀ w ∈ lw_tbl, w.before a0 U0 = true) ∧ va_K D vwCl [] U0 ∧ (∀ k, k < 5 → pre k < U0.heap.size) ∧ ∀ k, 1 ≤ k → k < 5 → va_Z (sN k).1 (sN k).2.1 (sN k).2.2 (.ref (pre k)) (fun q => U0.heap.size ≤ q) U0 U0.heap
def CX (M : Mth) (d : Nat) (p : Program) (l : Launch) (e : Env) (R : Room) (s : State) (m : MethodId) (args : Array Value) (below : List Frame) (meth : Method) (c : Code) (U0 : State) (a0 : Array Value) (D : va_G) (pre : Nat → Nat) : Prop :=
  GF U0 a0 D pre ∧ p.tables.exec = Jvm.exec ∧ c.code = mC M ∧ c.maxLocals = mL M ∧ meth.sig.returnType = mR M ∧ meth.locks = false ∧ meth.name = (mY M).name ∧ s.vm.findClass (mY M).cls = some m.cls ∧ U0.WarmedH s.vm ∧ d ≤ R.frames ∧ 60 * d ≤ R.locals ∧ MOK M
def rtA (M : Mth) (pc : Nat) : Option AV → Prop
  | none => decode (mC M) pc = .ok (.return_, 1) ∧ mR M = none
  | some (.inl x) => decode (mC M) pc = .ok (.ireturn, 1) ∧ (mR M = some .int ∨ (mR M = some .boolean ∧ (x = 0 ∨ x = 1)))
  | some (.inr (.inl _)) => decode (mC M) pc = .ok (.lreturn, 1) ∧ mR M = some .long
  | some (.inr (.inr (some _))) => decode (mC M) pc = .ok (.areturn, 1) ∧ ∃ t, mR M = some (.array t)
  | some (.inr (.inr none)) => False
def J (M : Mth) (d ip : Nat) (ls : LV) (st : List AV) (h : Hp) (v : Option AV) (h' : Hp) : Prop :=
  h.1 ≤ h'.1 ∧ h.2.1 ≤ h'.2.1 ∧
  ∀ (p : Program) (l : Launch) (e : Env) (R : Room) (s : State) (m : MethodId) (args : Array Value) (below : List Frame) (meth : Method) (c : Code) (U0 : State) (a0 : Array Value) (D : va_G) (pre : Nat → Nat), CX M d p l e R s m args below meth c U0 a0 D pre →
  ∀ (H : Heap) (locs : List Loc) (n0 s0 : Nat) (Qf : State → Prop) (LS : Array Slot), Rel U0 D pre h H → (∀ q ∈ locs, U0.heap.size ≤ q.base) → n0 ≤ h.1 → s0 ≤ h.2.1 → lvR (sg U0 pre) LS (mL M) ls → h'.1 - n0 ≤ R.cells → h'.2.1 - s0 ≤ R.slots →
  (∀ (H1 : Heap) (locs1 : List Loc) (pc1 : Nat) (LS1 : Array Slot), Rel U0 D pre h' H1 → (∀ q ∈ locs1, U0.heap.size ≤ q.base) → rtA M pc1 v → W p l e R s m args below meth c H1 locs1 (h'.1 - n0) (h'.2.1 - s0) Qf (F0 m pc1 LS1 ((v.map (cv (sg U0 pre))).toList))) →
  W p l e R s m args below meth c H locs (h.1 - n0) (h.2.1 - s0) Qf (F0 m (bp M ip) LS (st.map (cv (sg U0 pre))))
def WP (M : Mth) (d ip : Nat) (ls : LV) (st : List AV) (h : Hp) (Q : Option AV → Hp → Prop) : Prop := ∃ (v : Option AV) (h' : Hp), J M d ip ls st h v h' ∧ Q v h'
theorem WP.mono {M : Mth} {d ip : Nat} {ls : LV} {st : List AV} {h : Hp} {Q Q' : Option AV → Hp → Prop} (k : WP M d ip ls st h Q) (hq : ∀ v h', Q v h' → Q' v h') : WP M d ip ls st h Q' := by
  obtain ⟨v, h', a, b⟩ := k
  exact ⟨v, h', a, hq v h' b⟩
/-- an instruction that leaves the heap alone -/
theorem J_pure {M : Mth} {d ip ip' : Nat} {ls ls' : LV} {st st' : List AV} {h h' : Hp} {v : Option AV}
    (H1 : ∀ (p : Program) (l : Launch) (e : Env) (R : Room) (s : State) (m : MethodId) (args : Array Value) (below : List Frame) (meth : Method) (c : Code) (U0 : State) (a0 : Array Value) (D : va_G) (pre : Nat → Nat), CX M d p l e R s m args below meth c U0 a0 D pre → ∀ (H : Heap) (locs : List Loc) (cells slots : Nat) (Qf : State → Prop) (LS : Array Slot), Rel U0 D pre h H → lvR (sg U0 pre) LS (mL M) ls → (∀ LS' : Array Slot, lvR (sg U0 pre) LS' (mL M) ls' → W p l e R s m args below meth c H locs cells slots Qf (F0 m (bp M ip') LS' (st'.map (cv (sg U0 pre))))) → W p l e R s m args below meth c H locs cells slots Qf (F0 m (bp M ip) LS (st.map (cv (sg U0 pre)))))
    (k : J M d ip' ls' st' h v h') : J M d ip ls st h v h' := by
  obtain ⟨a, b, k⟩ := k
  refine ⟨a, b, fun p l e R s m args below meth c U0 a0 D pre cx H locs n0 s0 Qf LS hR hlo hn hs hl hc1 hc2 hret => ?_⟩
  refine H1 p l e R s m args below meth c U0 a0 D pre cx H locs _ _ Qf LS hR hl (fun LS' hl' => ?_)
  exact k p l e R s m args below meth c U0 a0 D pre cx H locs n0 s0 Qf LS' hR hlo hn hs hl' hc1 hc2 hret
theorem WP_pure {M : Mth} {d ip ip' : Nat} {ls ls' : LV} {st st' : List AV} {h : Hp} {Q : Option AV → Hp → Prop}
    (H1 : ∀ (p : Program) (l : Launch) (e : Env) (R : Room) (s : State) (m : MethodId) (args : Array Value) (below : List Frame) (meth : Method) (c : Code) (U0 : State) (a0 : Array Value) (D : va_G) (pre : Nat → Nat), CX M d p l e R s m args below meth c U0 a0 D pre → ∀ (H : Heap) (locs : List Loc) (cells slots : Nat) (Qf : State → Prop) (LS : Array Slot), Rel U0 D pre h H → lvR (sg U0 pre) LS (mL M) ls → (∀ LS' : Array Slot, lvR (sg U0 pre) LS' (mL M) ls' → W p l e R s m args below meth c H locs cells slots Qf (F0 m (bp M ip') LS' (st'.map (cv (sg U0 pre))))) → W p l e R s m args below meth c H locs cells slots Qf (F0 m (bp M ip) LS (st.map (cv (sg U0 pre)))))
    (k : WP M d ip' ls' st' h Q) : WP M d ip ls st h Q := by
  obtain ⟨v, h', a, b⟩ := k
  exact ⟨v, h', J_pure H1 a, b⟩
theorem wd {U0 s : State} {a0 args : Array Value} (hg : ∀ w ∈ lw_tbl, w.before a0 U0 = true) (hW : U0.WarmedH s.vm) {i : Nat} {w : Cond} (hi : lw_tbl[i]? = some w) (hgood : goodWord w = true) : w.before args s = true := word_at hW (good_of_word hgood) (hg w (List.mem_of_getElem? hi))

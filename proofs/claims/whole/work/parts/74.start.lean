/-! THE CLAIM OUT OF ONE WALK OF THE LAW'S BODY. Your part is whole_start (and what it stands on); all else here is the same for every law, but numbers. -/
def R_law : String := "FloorPlansLaw"
def lw_P (b : Addr) (xs : List Int32) (args : Array Value) (s : State) : Prop := args = #[.ref b] ∧ s.IntsAt b xs ∧ xs.length ≤ 2560 ∧ (Jvm.Cond.and given_1 narrow_1).before args s = true
def lw_Q (_ : Array Value) (s : State) (o : Outcome) (t : State) : Prop := o = .returned (some (.int 1)) ∧ Framed s o t [] 600000 7302250
def lw_Z (below : List Frame) (a : Array Value) (s : State) : State → Prop := fun t => ∃ o, t.status = .running ∧ Ended t below o ∧ lw_Q a s o t
/-- the law's own end, with 1 on the stack, nothing written that was there before, its room as the claim has it -/
theorem lw_ret {p : Program} {l : Launch} {e : Env} {s : State} {m : MethodId} {below : List Frame} {meth : Method} {c : Code} {b : Nat} (hx : p.tables.exec = Jvm.exec) (hb : c.code = code) (hr : meth.sig.returnType = ret) (hlocks : meth.locks = false) {pc : Nat} {H : Heap} {ls : Array Slot} (hdg : decode code pc = .ok (.ireturn, 1)) : W p l e room_1 s m #[Value.ref b] below meth c H [] 600000 7302250 (lw_Z below #[Value.ref b] s) (F0 m pc ls [.int 1]) := by
  intro T hT X
  obtain ⟨fs, hret, hrun, hended, hW, hframe⟩ := X.leave (v := some (.int 1)) (hlocks := hlocks) (fun h => by rw [hr] at h; cases h)
  have hmeth' : T.vm.method? m = some meth := X.method'
  refine ⟨T.setFrames fs, ?_, .returned (some (.int 1)), hrun, hended, rfl, ⟨_, rfl⟩, hW, hframe⟩
  jvm_step X.here [X.here.top, hx, hb, hdg, hmeth', hr, ret, narrow_b1]
  (try refine ⟨rfl, ?_⟩); (try refine ⟨rfl, ?_⟩)
  first | (intro acts; rw [hret _ acts rfl rfl rfl]) | rw [hret _ _ rfl rfl rfl]
  exact Steps.refl _
/-- what holds at the law's entry: the machine, the code, the tables' words (any of lw_tbl by 'hts w (by decide +kernel)'), the script of L ints xs at the cell b, what the Statement gives of the start (any of its parts by flat_of_before) -/
def lw_At (p : Program) (s : State) (m : MethodId) (meth : Method) (c : Code) (b L : Nat) (xs : Nat → Int32) : Prop :=
  p.tables.exec = Jvm.exec ∧ c.code = code ∧ meth.sig.returnType = ret ∧ c.maxLocals = 4 ∧ s.vm.findClass R_law = some m.cls ∧ (∀ w ∈ lw_tbl, w.before #[Value.ref b] s = true) ∧ va_X b L xs s s.heap ∧ b < s.heap.size ∧ meth.locks = false ∧ (Jvm.Cond.and given_1 narrow_1).before #[Value.ref b] s = true ∧ meth.name = (mY M_law).name
theorem st_of {args : Array Value} {s : State} {C n : String} {N : Nat} {v : Nat → Int} (hN : N < 2 ^ 31) (harr : (Cond.arrayOf (.static C n "[I") .int).before args s = true) (hlen : (Cond.eq (.length (.static C n "[I")) (.int (Int32.ofNat N))).before args s = true) (hel : ∀ j, j < N → (Cond.eq (.elem (.static C n "[I") (.int (Int32.ofNat j))) (.int (Int32.ofInt (v j)))).before args s = true) (hl : (Cond.laysStatic C n "[I").before args s = true) (hini : (Cond.initialized C).before args s = true) : ∃ t : Nat, va_Z C n "[I" (.ref t) (fun q => s.heap.size ≤ q) s s.heap ∧ t < s.heap.size ∧ ∃ cell : Cell, s.heap[t]? = some cell ∧ s.isArrayOf cell .int ∧ cell.vm ≠ .unknown ∧ cell.slots.size = N ∧ N ≤ 2147483647 ∧ ∀ j : Nat, j < N → cell.slots[j]? = some (.int (Int32.ofInt (v j))) := by
  have hv := va_eqt hlen
  obtain ⟨t, ht, cell, h1, h2, h3, h4, h5, h6, h7⟩ := va_Tof (A := fun q => s.heap.size ≤ q) (f := fun j => .int (Int32.ofInt (v j))) hN harr hv (fun j hj => va_eqt (hel j hj)) (fun a ha => by show ¬ s.heap.size ≤ a; omega)
  obtain ⟨t2, cell2, ht2, harr2, -⟩ := Term.length_spec hv
  cases ht.symm.trans ht2
  obtain ⟨hcell2, -, -, -⟩ := State.arrayAt?_spec harr2
  cases h1.symm.trans hcell2
  have hsz : cell.slots.size < 2 ^ 31 := by
    simp only [Term.eval, Option.bind_eq_bind] at hv
    simp only [Term.eval, Option.bind_eq_bind] at ht
    rw [ht] at hv
    simp only [Option.bind_some, harr2] at hv
    by_cases hlt : cell.slots.size < 2147483648
    · exact hlt
    · simp [hlt] at hv
  have e : cell.slots.size = N := by
    have q : (Int32.ofNat cell.slots.size).toInt = (Int32.ofNat N).toInt := congrArg Int32.toInt h5
    rw [Int32.toInt_ofNat_small hsz, Int32.toInt_ofNat_small hN] at q
    omega
  exact ⟨t, va_Zref hl hini ht (fun a ha => by show ¬ s.heap.size ≤ a; omega), (Array.getElem?_eq_some_iff.mp h1).1, cell, h1, h2, h3, e, by omega, h6⟩
theorem pre_at {b t1 t2 t3 t4 : Nat} : ∀ k, k < 5 → (if k = 0 then b else if k = 1 then t1 else if k = 2 then t2 else if k = 3 then t3 else t4) = [b, t1, t2, t3, t4].getD k 0 := by
  intro k hk
  match k, hk with
  | 0, _ => rfl
  | 1, _ => rfl
  | 2, _ => rfl
  | 3, _ => rfl
  | 4, _ => rfl
set_option maxRecDepth 8000 in
set_option maxHeartbeats 4000000 in
theorem whole_start {p : Program} {e : Env} {s : State} {m : MethodId} {below : List Frame} {meth : Method} {c : Code} (l : Launch) {b L : Nat} {xs : Nat → Int32} (hL : L ≤ 2560) (C0 : lw_At p s m meth c b L xs) : W p l e room_1 s m #[Value.ref b] below meth c s.heap [] 0 0 (lw_Z below #[Value.ref b] s) (entryFrame m ([Value.ref b] : List Value).toArray 4) := by
  obtain ⟨hexec, hcode, hret, hml, hown, hts, hX, hbl, hlk, hgv, hnm⟩ := C0
  have hs := flat_of_before _ hgv
  have hex : ∀ ci : Nat, ∃ y : ClassId × (Nat → Nat), ∀ q : vw_C, vwCl[ci]? = some q → u_Kn s q.1 q.2.1 q.2.2 y.1 y.2 := by
    intro ci
    cases hq : vwCl[ci]? with
    | none => exact ⟨(m.cls, fun _ => 0), fun q h => by cases h⟩
    | some q =>
      obtain ⟨k1, k2, k3⟩ := clOK ci q hq
      obtain ⟨cC, iS, h⟩ := u_known (ws := lw_tbl) hts (fun w hw => (k1 w hw).1) (hts _ (List.mem_of_getElem? (clNew ci q hq).1))
      exact ⟨(cC, iS), fun q' h' => by cases h'; exact h⟩
  obtain ⟨f, hf⟩ := Classical.axiomOfChoice hex
  obtain ⟨t1, z1, l1, c1⟩ := st_of (C := "FloorPlans") (n := "FLOOR_FIRST") (N := 4) (v := FFt) (by omega) (hs _ (by decide +kernel)) (hs _ (by decide +kernel)) (fun j hj => by
    match j, hj with
    | 0, _ => exact hs _ (by decide +kernel)
    | 1, _ => exact hs _ (by decide +kernel)
    | 2, _ => exact hs _ (by decide +kernel)
    | 3, _ => exact hs _ (by decide +kernel)) (hts _ (by decide +kernel)) (hts _ (by decide +kernel))
  obtain ⟨t2, z2, l2, c2⟩ := st_of (C := "FloorPlans") (n := "FLOOR_MOST") (N := 4) (v := FMt) (by omega) (hs _ (by decide +kernel)) (hs _ (by decide +kernel)) (fun j hj => by
    match j, hj with
    | 0, _ => exact hs _ (by decide +kernel)
    | 1, _ => exact hs _ (by decide +kernel)
    | 2, _ => exact hs _ (by decide +kernel)
    | 3, _ => exact hs _ (by decide +kernel)) (hts _ (by decide +kernel)) (hts _ (by decide +kernel))
  obtain ⟨t3, z3, l3, c3⟩ := st_of (C := "FloorPlans") (n := "TWO_MOST") (N := 3) (v := TMt) (by omega) (hs _ (by decide +kernel)) (hs _ (by decide +kernel)) (fun j hj => by
    match j, hj with
    | 0, _ => exact hs _ (by decide +kernel)
    | 1, _ => exact hs _ (by decide +kernel)
    | 2, _ => exact hs _ (by decide +kernel)) (hts _ (by decide +kernel)) (hts _ (by decide +kernel))
  obtain ⟨t4, z4, l4, c4⟩ := st_of (C := "FloorPlans$Moving") (n := "POWERS") (N := 7) (v := PWt) (by omega) (hs _ (by decide +kernel)) (hs _ (by decide +kernel)) (fun j hj => by
    match j, hj with
    | 0, _ => exact hs _ (by decide +kernel)
    | 1, _ => exact hs _ (by decide +kernel)
    | 2, _ => exact hs _ (by decide +kernel)
    | 3, _ => exact hs _ (by decide +kernel)
    | 4, _ => exact hs _ (by decide +kernel)
    | 5, _ => exact hs _ (by decide +kernel)
    | 6, _ => exact hs _ (by decide +kernel)) (hts _ (by decide +kernel)) (hts _ (by decide +kernel))
  obtain ⟨pre, hpre⟩ : ∃ pre : Nat → Nat, pre = fun k => if k = 0 then b else if k = 1 then t1 else if k = 2 then t2 else if k = 3 then t3 else t4 := ⟨_, rfl⟩
  have p0 : pre 0 = b := by rw [hpre]; rfl
  have p1 : pre 1 = t1 := by rw [hpre]; rfl
  have p2 : pre 2 = t2 := by rw [hpre]; rfl
  have p3 : pre 3 = t3 := by rw [hpre]; rfl
  have p4 : pre 4 = t4 := by rw [hpre]; rfl
  have hG : GF s #[Value.ref b] (fun c => (f c).1, fun c => (f c).2) pre := by
    refine ⟨hts, ⟨fun c q hq => hf c q hq, fun k q hk => by cases hk⟩, fun k hk => ?_, fun k h1 h5 => ?_⟩
    · match k, hk with
      | 0, _ => rw [p0]; exact hbl
      | 1, _ => rw [p1]; exact l1
      | 2, _ => rw [p2]; exact l2
      | 3, _ => rw [p3]; exact l3
      | 4, _ => rw [p4]; exact l4
    · match k, h1, h5 with
      | 1, _, _ => rw [p1]; exact z1
      | 2, _, _ => rw [p2]; exact z2
      | 3, _, _ => rw [p3]; exact z3
      | 4, _, _ => rw [p4]; exact z4
  obtain ⟨PX, hPX⟩ : ∃ PX : PP, PX = (L, fun j => (xs j).toInt) := ⟨_, rfl⟩
  have hP1 : PX.1 = L := by rw [hPX]
  have hP2 : ∀ j, st5 PX 0 j = (xs j).toInt := fun j => by rw [hPX]; rfl
  have hR : Rel s (fun c => (f c).1, fun c => (f c).2) pre (5, 0, cc2 PX FIi (fun _ _ => 0) L0 X0) s.heap := by
    refine ⟨rfl, Nat.le_refl _, fun q _ => rfl, fun a ha => ?_⟩
    have e : sg s pre a = pre a := if_pos ha
    rw [e]
    have ha5 : a < 5 := ha
    match a, ha5 with
    | 0, _ =>
      show cellAt s _ _ (pre 0) s.heap (cc2 PX FIi (fun _ _ => 0) L0 X0 0)
      rw [cc2_int (P := PX) (X := X0) (a := 0) (n := L) ⟨rfl, hP1, by show 0 < 193 + 0; omega⟩, p0]
      obtain ⟨scr, x1, x2, x3, x4, x5⟩ := hX
      refine ⟨scr, x1, x2, x3, x4, by omega, fun j hj => ?_⟩
      rw [x5 j hj]
      show some (Value.int (xs j)) = some (Value.int (Int32.ofInt (st5 PX 0 j)))
      rw [hP2, Int32.ofInt_toInt]
    | 1, _ =>
      show cellAt s _ _ (pre 1) s.heap (cc2 PX FIi (fun _ _ => 0) L0 X0 1)
      rw [cc2_int (P := PX) (X := X0) (a := 1) (n := 4) ⟨rfl, rfl, by show 1 < 193 + 0; omega⟩, p1]
      exact c1
    | 2, _ =>
      show cellAt s _ _ (pre 2) s.heap (cc2 PX FIi (fun _ _ => 0) L0 X0 2)
      rw [cc2_int (P := PX) (X := X0) (a := 2) (n := 4) ⟨rfl, rfl, by show 2 < 193 + 0; omega⟩, p2]
      exact c2
    | 3, _ =>
      show cellAt s _ _ (pre 3) s.heap (cc2 PX FIi (fun _ _ => 0) L0 X0 3)
      rw [cc2_int (P := PX) (X := X0) (a := 3) (n := 3) ⟨rfl, rfl, by show 3 < 193 + 0; omega⟩, p3]
      exact c3
    | 4, _ =>
      show cellAt s _ _ (pre 4) s.heap (cc2 PX FIi (fun _ _ => 0) L0 X0 4)
      rw [cc2_int (P := PX) (X := X0) (a := 4) (n := 7) ⟨rfl, rfl, by show 4 < 193 + 0; omega⟩, p4]
      exact c4
  obtain ⟨v, h', ⟨a1, a2, j⟩, hv, hc1, hc2⟩ := law_run (P := PX) (d := 0) (fun j => by
    rw [hP2]
    have q1 := Int32.le_toInt (xs j)
    have q2 := Int32.toInt_lt (xs j)
    exact ⟨by omega, by omega⟩) (by omega)
  subst hv
  have cx : CX M_law (0 + 31) p l e room_1 s m #[Value.ref b] below meth c s #[Value.ref b] (fun c => (f c).1, fun c => (f c).2) pre := ⟨hG, hexec, hcode, hml, hret, hlk, hnm, hown, State.WarmedH.refl _, by show 0 + 31 ≤ 2048; omega, by show 60 * (0 + 31) ≤ 84000; omega, ok_M_law⟩
  have ea : [vr 0].map (cv (sg s pre)) = [Value.ref b] := by
    show [Value.ref (sg s pre 0)] = [Value.ref b]
    rw [show sg s pre 0 = pre 0 from rfl, p0]
  rw [lg_entry_eq]
  have hl := ent_lvR (sg s pre) M_law [vr 0] (Nat.le_of_ble_eq_true rfl)
  rw [ea] at hl
  have k9 := j p l e room_1 s m #[Value.ref b] below meth c s #[Value.ref b] (fun c => (f c).1, fun c => (f c).2) pre cx s.heap [] 5 0 (lw_Z below #[Value.ref b] s) _ hR (fun q hq => by cases hq) (Nat.le_refl _) (Nat.le_refl _) hl (by show h'.1 - 5 ≤ 600000; omega) (by show h'.2.1 - 0 ≤ 7302250; omega) (fun H1 locs1 pc1 LS1 hR1 hlo1 hrt => ?_)
  · exact k9
  · refine va_forget hlo1 ?_
    refine W.widen (k := 600000) (n := 7302250) (by omega) (by omega) ?_
    exact lw_ret hexec hcode hret hlk hrt.1

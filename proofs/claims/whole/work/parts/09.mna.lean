/-! new int[N][K] as a rule -/
def addG (h : Hp) (N K : Nat) : Hp := (h.1 + 1 + N, h.2.1 + N + N * K, fun b => if b = h.1 then .inr (.array .int, N, fun j => vr (h.1 + 1 + j)) else if h.1 < b ∧ b < h.1 + 1 + N then .inr (.int, K, fun _ => vi 0) else h.2.2 b)
theorem WP_mna {M : Mth} {d ip : Nat} {ls : LV} {st : List AV} {h : Hp} {Q : Option AV → Hp → Prop} {en : Ent} (he : (mT M)[ip]? = some en) {i : Nat} {x y : Int} {N K : Nat} (hi : eI en = .multianewarray i 2) (hx0 : 0 ≤ x) (hy0 : 0 ≤ y) (hN : x.toNat = N) (hK9 : y.toNat = K) (h1 : N ≤ 1000) (h2 : K ≤ 1000) (k : WP M d (eN en) ls (vr h.1 :: st) (addG h N K) Q) : WP M d ip ls (vi y :: vi x :: st) h Q := by
  obtain ⟨v, h', ⟨a1, b1, k⟩, hq⟩ := k
  have a2 : h.1 + 1 + N ≤ h'.1 := a1
  have b2 : h.2.1 + N + N * K ≤ h'.2.1 := b1
  refine ⟨v, h', ⟨by omega, by omega, fun p l e R s m args below meth c U0 a0 D pre cx H locs n0 s0 Qf LS hR hlo9 hn hs hl hc1 hc2 hret => ?_⟩, hq⟩
  have cx0 := cx
  obtain ⟨⟨hg, hK, hpre, hZ⟩, hx, hb, hml, hr, hlk, hnm, hown, hW, hfr, hlo, hok⟩ := cx
  obtain ⟨hbp, hd, hlen, hnx, hxx⟩ := hok.at he
  unfold okX at hxx
  rw [hi] at hd hlen hnx hxx
  have hlen := hlen rfl
  have hnx := hnx rfl
  rw [hlen] at hd hnx
  rw [hbp]
  have hal := hW.alike
  simp only [Bool.and_eq_true, decide_eq_true_eq] at hxx
  obtain ⟨-, hxx⟩ := hxx
  have jN : (Int32.ofInt x).toNatClampNeg = N := by rw [i32_nat hx0 (by omega)]; exact hN
  have jK : (Int32.ofInt y).toNatClampNeg = K := by rw [i32_nat hy0 (by omega)]; exact hK9
  have hov : (Cond.arrayOver (.array .int)).before a0 U0 = true := hg _ (List.mem_of_getElem? (i := 71) (by decide +kernel))
  obtain ⟨comp, cA, kA, v1, -, v3, v4, v5⟩ := arrayOverA_spec hov
  have hac : (Cond.arrayClass .int).before a0 U0 = true := hg _ (List.mem_of_getElem? (i := 126) (by decide +kernel))
  obtain ⟨comp', kC, cc, w1, w2, w3⟩ := Cond.arrayClass_spec hac
  have ecomp : comp' = comp := Option.some.inj (w1.symm.trans v1)
  subst ecomp
  obtain ⟨kA1, hkA1, heA⟩ := hal.2.2 _ _ v3
  obtain ⟨kC1, hkC1, heC⟩ := hal.2.2 _ _ w2
  intro T hT X
  obtain ⟨vm1, hwm, X', step⟩ := gMake X hx hown (wd hg hW hxx rfl) (cA := cA) (comp := comp') (by rw [hal.findClass]; exact v5) hkA1 (by rw [heA]; exact v4) hkC1 (by rw [heC]; exact w3) (g := F0 m (ePc en) LS ((vi y :: vi x :: st).map (cv (sg U0 pre)))) rfl (by rw [hb]; exact hd) (n := Int32.ofInt x) (k := Int32.ofInt y) (rest := st.map (cv (sg U0 pre))) rfl (i32_nn hx0 (by omega)) (i32_nn hy0 (by omega)) (by rw [jN]; exact h1) (by rw [jK]; exact h2) (by rw [jN]; omega) (by rw [jN, jK]; omega)
  rw [jN, jK] at X' step
  have hT1 : (T.setVm vm1).heap = H := hT
  obtain ⟨f1, f2, -, -⟩ := gF_at (T.setVm vm1) cA comp' N K (.int 0) N
  have f3 := fun (a : Nat) (ha : a < (T.setVm vm1).heap.size) => gF_old (T.setVm vm1) cA comp' N K (.int 0) (a := a) ha N
  have f4 := gF_row (T.setVm vm1) cA comp' N K (.int 0) N
  generalize hF : gF (T.setVm vm1) cA comp' N K (.int 0) N = F at X' step f1 f2 f3 f4
  rw [hT1] at f1 f2 f3 f4
  have hsn := hR.sgn
  have hrel : Rel U0 D pre (addG h N K) F.heap := by
    obtain ⟨r1, r2, r3, r4⟩ := hR
    refine ⟨by rw [f1]; show H.size + 1 + N + 5 = U0.heap.size + (h.1 + 1 + N); omega, by show 5 ≤ h.1 + 1 + N; omega, fun q hq => ?_, fun b hb9 => ?_⟩
    · rw [f3 q (by omega)]
      exact r3 q hq
    · have hb9 : b < h.1 + 1 + N := hb9
      show cellAt U0 D (sg U0 pre) (sg U0 pre b) F.heap (if b = h.1 then .inr (.array .int, N, fun j => vr (h.1 + 1 + j)) else if h.1 < b ∧ b < h.1 + 1 + N then .inr (.int, K, fun _ => vi 0) else h.2.2 b)
      have esg : ∀ j : Nat, sg U0 pre (h.1 + j) = H.size + j := fun j => by
        unfold sg
        rw [if_neg (by omega)]
        omega
      by_cases e1 : b = h.1
      · rw [if_pos e1, e1, hsn]
        refine ⟨_, f2, ⟨(fun q hq9 => by cases hq9), kA, v3, comp', v4⟩, (fun q => by cases q), by unfold gO; rw [arrV_size], by omega, fun j hj => ?_⟩
        unfold gO
        rw [arrV_read _ _ hj, if_pos hj]
        show some (Value.ref _) = some (Value.ref (sg U0 pre (h.1 + 1 + j)))
        rw [show h.1 + 1 + j = h.1 + (1 + j) by omega, esg]
        exact congrArg (fun q => some (Value.ref q)) (Nat.add_assoc H.size 1 j)
      · rw [if_neg e1]
        by_cases e2 : h.1 < b ∧ b < h.1 + 1 + N
        · rw [if_pos e2]
          obtain ⟨j, rfl⟩ : ∃ j, b = h.1 + (1 + j) := ⟨b - h.1 - 1, by omega⟩
          rw [esg]
          refine ⟨_, by rw [show H.size + (1 + j) = H.size + 1 + j by omega]; exact f4 j (by omega), ⟨(fun q hq9 => by cases hq9), kC, w2, cc, w3⟩, (fun q => by cases q), by unfold gI; rw [arrV_size], by omega, fun j2 hj2 => ?_⟩
          unfold gI
          rw [arrV_read _ _ hj2]
          rfl
        · rw [if_neg e2]
          have hb8 : b < h.1 := by omega
          exact (r4 b hb8).kept (f3 _ (r4 b hb8).lt)
  have hlo8 : ∀ q ∈ locs ++ (List.range N).map (fun j => (⟨T.heap.size, j⟩ : Loc)), U0.heap.size ≤ q.base := fun q hq => by
    rcases List.mem_append.mp hq with z | z
    · exact hlo9 q z
    · obtain ⟨w, -, hw9⟩ := List.mem_map.mp z
      rw [← hw9]
      show U0.heap.size ≤ T.heap.size
      rw [hT]
      have := hR.1
      have := hR.2.1
      omega
  have k9 := k p l e R s m args below meth c U0 a0 D pre cx0 F.heap _ n0 s0 Qf LS hrel hlo8 (by show n0 ≤ h.1 + 1 + N; omega) (by show s0 ≤ h.2.1 + N + N * K; omega) hl hc1 hc2 hret
  have e5 : (addG h N K).1 - n0 = h.1 - n0 + 1 + N := by show h.1 + 1 + N - n0 = _; omega
  have e6 : (addG h N K).2.1 - s0 = h.2.1 - s0 + N + N * K := by show h.2.1 + N + N * K - s0 = _; omega
  rw [e5, e6, hnx] at k9
  obtain ⟨t, b1, b2⟩ := k9 F rfl X'
  refine ⟨t, step t ?_, b2⟩
  have e9 : cv (sg U0 pre) (vr h.1) = .ref H.size := congrArg Value.ref hsn
  rw [List.map_cons, e9] at b1
  rw [hT]
  exact b1

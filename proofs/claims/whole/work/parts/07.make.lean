/-! what is made: objects, rows, grids; copies; the first constructor of all -/
def clN : Nat → Nat × Nat
  | 0 => (223, 49)
  | 1 => (63, 44)
  | 2 => (237, 50)
  | 3 => (175, 48)
  | 4 => (128, 47)
  | 5 => (55, 43)
  | _ => (669, 51)
theorem clNew (ci : Nat) (q : vw_C) (h : vwCl[ci]? = some q) : lw_tbl[(clN ci).1]? = some (.instantiable q.1 q.2.2) ∧ lw_tbl[(clN ci).2]? = some (.initialized q.1) := by
  match ci, h with
  | 0, h => cases h; exact ⟨by decide +kernel, by decide +kernel⟩
  | 1, h => cases h; exact ⟨by decide +kernel, by decide +kernel⟩
  | 2, h => cases h; exact ⟨by decide +kernel, by decide +kernel⟩
  | 3, h => cases h; exact ⟨by decide +kernel, by decide +kernel⟩
  | 4, h => cases h; exact ⟨by decide +kernel, by decide +kernel⟩
  | 5, h => cases h; exact ⟨by decide +kernel, by decide +kernel⟩
  | 6, h => cases h; exact ⟨by decide +kernel, by decide +kernel⟩
  | k + 7, h => simp [vwCl] at h
def dfl : FieldType → AV
  | .long => vl 0
  | .object _ => vn
  | .array _ => vn
  | _ => vi 0
def dfok : FieldType → Bool
  | .float => false
  | .double => false
  | _ => true
theorem dfl_cv (f : Nat → Nat) (ty : FieldType) (h : dfok ty = true) : cv f (dfl ty) = defaultValue ty := by cases ty <;> first | rfl | cases h
def nfs (ci n : Nat) : List AV := (List.range n).map fun j => dfl (clT ci j)
theorem clD (ci : Nat) (q : vw_C) (h : vwCl[ci]? = some q) : ∀ j, j < q.2.2 → dfok (clT ci j) = true := by
  match ci, h with
  | 0, h => cases h; decide +kernel
  | 1, h => cases h; decide +kernel
  | 2, h => cases h; decide +kernel
  | 3, h => cases h; decide +kernel
  | 4, h => cases h; decide +kernel
  | 5, h => cases h; decide +kernel
  | 6, h => cases h; decide +kernel
  | k + 7, h => simp [vwCl] at h
theorem WP_new {M : Mth} {d ip : Nat} {ls : LV} {st : List AV} {h : Hp} {Q : Option AV → Hp → Prop} {en : Ent} (he : (mT M)[ip]? = some en) {i n : Nat} (hi : eI en = .new i) (hw : (eW en == 99999) = false) (hn : ((vwCl[eX en]?).getD ("", TX0, 0)).2.2 = n) (k : WP M d (eN en) ls (vr h.1 :: st) (addC h n (.inl (eX en, nfs (eX en) n))) Q) : WP M d ip ls st h Q := by
  refine WP_ad n (fun p l e R s m args below meth c U0 a0 D pre cx H locs cells slots Qf LS hR hl hcells hslots k => ?_) k
  obtain ⟨⟨hg, hK, hpre, hZ⟩, hx, hb, hml, hr, hlk, hnm, hown, hW, hfr, hlo, hok⟩ := cx
  obtain ⟨hbp, hd, hlen, hnx, hxx⟩ := hok.at he
  unfold okX at hxx
  rw [hi] at hd hlen hnx hxx
  have hlen := hlen rfl
  have hnx := hnx rfl
  rw [hlen] at hd hnx
  rw [hbp]
  have hal := hW.alike
  rw [hnx] at k
  dsimp only at hxx
  rw [hw, Bool.false_or] at hxx
  split at hxx
  · rename_i q hq
    have hxx := of_decide_eq_true hxx
    rw [hq] at hn
    have hn : q.2.2 = n := hn
    subst hn
    obtain ⟨c1, c2, c3⟩ := clOK _ _ hq
    obtain ⟨n1, n2⟩ := clNew _ _ hq
    have hts : ∀ w ∈ u_ws q.1 q.2.1 q.2.2, w.before args s = true := fun w hw => word_at hW (good_of_word (c1 w hw).2) (hg w (c1 w hw).1)
    have hKs := va_K.moved hal hK
    have hKn := hKs.1 _ _ hq
    refine W.newcK hx hb hown (wd hg hW hxx rfl) (wd hg hW n1 rfl) (wd hg hW n2 rfl) rfl hd hcells hslots hKn.2.1 rfl fun H1 kC hkC e1 z1 o1 => ?_
    have k9 := k H1 (by
      rw [hR.sgn]
      refine ⟨q, hq, by simp [nfs], (u_born (clT (eX en)) hts (fun _ z => z) hKn hkC e1 c2).to (fun j hj => ?_)⟩
      rw [← dfl_cv (sg U0 pre) _ (clD _ _ hq j hj)]
      simp [vp_V, nfs, hj]) z1 o1
    have e9 : cv (sg U0 pre) (vr h.1) = .ref H.size := congrArg Value.ref hR.sgn
    rw [List.map_cons, e9] at k9
    exact k9
  · cases hxx
theorem WP_newa {M : Mth} {d ip : Nat} {ls : LV} {st : List AV} {h : Hp} {Q : Option AV → Hp → Prop} {en : Ent} (he : (mT M)[ip]? = some en) {t : ArrayType} {ty : FieldType} {i : Int} {n : Nat} (hi : eI en = .newarray t) (hty : newarray.typeOf t = ty) (hdo : dfok ty = true) (h0 : 0 ≤ i) (hn : i.toNat = n) (h1 : n ≤ 60000) (k : WP M d (eN en) ls (vr h.1 :: st) (addC h n (.inr (ty, n, fun _ => dfl ty))) Q) : WP M d ip ls (vi i :: st) h Q := by
  refine WP_ad n (fun p l e R s m args below meth c U0 a0 D pre cx H locs cells slots Qf LS hR hl hcells hslots k => ?_) k
  obtain ⟨⟨hg, hK, hpre, hZ⟩, hx, hb, hml, hr, hlk, hnm, hown, hW, hfr, hlo, hok⟩ := cx
  obtain ⟨hbp, hd, hlen, hnx, hxx⟩ := hok.at he
  unfold okX at hxx
  rw [hi] at hd hlen hnx hxx
  have hlen := hlen rfl
  have hnx := hnx rfl
  rw [hlen] at hd hnx
  rw [hbp]
  have hal := hW.alike
  rw [hnx] at k
  have hxx := of_decide_eq_true hxx
  have hj : (Int32.ofInt i).toNatClampNeg = n := by rw [i32_nat h0 (by omega)]; exact hn
  have hbytes : n * componentBytes (newarray.typeOf t) ≤ 536870912 := by
    have : componentBytes (newarray.typeOf t) ≤ 8 := by cases (newarray.typeOf t) <;> simp [componentBytes]
    have := Nat.mul_le_mul h1 this
    omega
  refine W.newaK (n := Int32.ofInt i) (N := n) hx hb (wd hg hW hxx rfl) rfl hd rfl (i32_nn h0 (by omega)) hj hbytes hcells hslots rfl fun H1 cA e1 z1 o1 hA => ?_
  have k9 := k H1 (by
    rw [hR.sgn]
    refine ⟨_, e1, by rw [← hty]; exact State.isArrayOf_alike hal.symm (hA _ _), (fun z => by cases z), arrV_size _ _ _, by omega, fun j hj => ?_⟩
    rw [arrV_read _ _ hj, hty, dfl_cv _ _ hdo]) z1 o1
  have e9 : cv (sg U0 pre) (vr h.1) = .ref H.size := congrArg Value.ref hR.sgn
  rw [List.map_cons, e9] at k9
  exact k9
theorem WP_oinit {M : Mth} {d ip : Nat} {ls : LV} {st : List AV} {h : Hp} {Q : Option AV → Hp → Prop} {en : Ent} (he : (mT M)[ip]? = some en) {i a : Nat} (hi : eI en = .invokespecial i) (hw : (eW en == 99999) = false) (hy : NM[eX en]? = some objectInit) (hs8 : (st.map ac).sum ≤ 8) (k : WP M (d + 1) (eN en) ls st h Q) : WP M (d + 1) ip ls (vr a :: st) h Q := by
  refine WP_pure (fun p l e R s m args below meth c U0 a0 D pre cx H locs cells slots Qf LS hR hl k => ?_) k
  obtain ⟨⟨hg, hK, hpre, hZ⟩, hx, hb, hml, hr, hlk, hnm, hown, hW, hfr, hlo, hok⟩ := cx
  obtain ⟨hbp, hd, hlen, hnx, hxx⟩ := hok.at he
  unfold okX at hxx
  rw [hi] at hd hlen hnx hxx
  have hlen := hlen rfl
  have hnx := hnx rfl
  rw [hlen] at hd hnx
  rw [hbp]
  have hal := hW.alike
  rw [hnx] at k
  dsimp only at hxx
  rw [hw, hy, Bool.false_or] at hxx
  have hxx := of_decide_eq_true hxx
  have ecat : ((st.map (cv (sg U0 pre))).map fun v => v.category).sum = (st.map ac).sum := by
    rw [List.map_map]
    congr 1
    apply List.map_congr_left
    intro v _
    exact cv_cat _ v
  refine W.objInit hx hb hown (wd hg hW hxx rfl) (wd hg hW (i := 60) (by decide +kernel) rfl) (wd hg hW (i := 61) (w := Cond.code objectInit ⟨#[0xb1]⟩ 1 none) (by decide +kernel) rfl) rfl (by rw [hml]; exact hl.1) rfl hd (by omega) ?_ (k LS hl)
  show 2 * 0 + ((st.map (cv (sg U0 pre))).map fun v => v.category).sum + 12 ≤ R.locals
  rw [ecat]
  omega
theorem nfw : nativeFrameWords "java/lang/System" "arraycopy" 5 + 11 ≤ 52 := by decide
theorem WP_copy {M : Mth} {d ip : Nat} {ls : LV} {st : List AV} {h : Hp} {Q : Option AV → Hp → Prop} {en : Ent} (he : (mT M)[ip]? = some en) {i a b n0 n1 : Nat} {sp dp n : Int} {f g : Nat → AV} (hi : eI en = .invokestatic i) (hw : (eW en == 99999) = false) (hny : (eY en == 1) = false) (hy : NM[eX en]? = some arraycopyName) (hs8 : (st.map ac).sum ≤ 8) (hca : h.2.2 a = .inr (.int, n0, f)) (haN : a < h.1) (hcb : h.2.2 b = .inr (.int, n1, g)) (hbN : b < h.1) (ha5 : 5 ≤ b) (h1 : 0 ≤ sp) (h2 : 0 ≤ dp) (h3 : 0 ≤ n) (h4 : sp + n ≤ n0) (h5 : dp + n ≤ n1) (hf : ∀ j, j < n0 → ∃ z, f j = vi z)
    (k : WP M (d + 1) (eN en) ls st (setC h b (.inr (.int, n1, fun j => if dp.toNat ≤ j ∧ j < dp.toNat + n.toNat then f (sp.toNat + (j - dp.toNat)) else g j))) Q) : WP M (d + 1) ip ls (vi n :: vi dp :: vr b :: vi sp :: vr a :: st) h Q := by
  refine WP_wr (fun p l e R s m args below meth c U0 a0 D pre cx H locs cells slots Qf LS hR hl k => ?_) ha5 k
  obtain ⟨⟨hg, hK, hpre, hZ⟩, hx, hb, hml, hr, hlk, hnm, hown, hW, hfr, hlo, hok⟩ := cx
  obtain ⟨hbp, hd, hlen, hnx, hxx⟩ := hok.at he
  unfold okX at hxx
  rw [hi] at hd hlen hnx hxx
  have hlen := hlen rfl
  have hnx := hnx rfl
  rw [hlen] at hd hnx
  rw [hbp]
  have hal := hW.alike
  rw [hnx] at k
  dsimp only at hxx
  rw [hw, hy, hny, Bool.false_or] at hxx
  have hxx := of_decide_eq_true hxx
  have hca := hca ▸ hR.2.2.2 a haN
  have hcb := hcb ▸ hR.2.2.2 b hbN
  obtain ⟨cs, q1, q2, q3, q4, q5, q6⟩ := hca
  obtain ⟨cd, r1, r2, r3, r4, r5, r6⟩ := hcb
  have hlk : (Cond.methodLink (mY M).cls i arraycopyName).before args s = true := wd hg hW hxx rfl
  obtain ⟨q7, ks, hks, scm, hsk⟩ := State.isArrayOf_alike hal q2
  obtain ⟨r7, kd, hkd, dcm, hdk⟩ := State.isArrayOf_alike hal r2
  have ecat : ((st.map (cv (sg U0 pre))).map fun v => v.category).sum = (st.map ac).sum := by
    rw [List.map_map]
    congr 1
    apply List.map_congr_left
    intro v _
    exact cv_cat _ v
  have j1 : (Int32.ofInt sp).toNatClampNeg = sp.toNat := i32_nat h1 (by omega)
  have j2 : (Int32.ofInt dp).toNatClampNeg = dp.toNat := i32_nat h2 (by omega)
  have j3 : (Int32.ofInt n).toNatClampNeg = n.toNat := i32_nat h3 (by omega)
  have t1 : (Int32.ofInt sp).toInt = sp := i32_toInt ⟨by omega, by omega⟩
  have t2 : (Int32.ofInt dp).toInt = dp := i32_toInt ⟨by omega, by omega⟩
  have t3 : (Int32.ofInt n).toInt = n := i32_toInt ⟨by omega, by omega⟩
  have hval : ∀ j, j < n.toNat → cs.slots.getD (sp.toNat + j) .null = cv (sg U0 pre) (f (sp.toNat + j)) := fun j hj => by
    rw [Array.getD_eq_getD_getElem?, q6 _ (by omega)]
    rfl
  intro T hT X
  obtain ⟨vm', X', step⟩ := X.arraycopy hx hown hlk (wd hg hW (i := 76) (by decide +kernel) rfl) (wd hg hW (i := 75) (by decide +kernel) rfl) (wd hg hW (i := 45) (by decide +kernel) rfl) (src := sg U0 pre a) (dst := sg U0 pre b) (cs := cs) (cd := cd) (srcPos := Int32.ofInt sp) (destPos := Int32.ofInt dp) (n := Int32.ofInt n) (by rw [hT]; exact q1) (by rw [hT]; exact r1)
    q7 r7 q3 r3 hks hkd hsk hdk rfl (i32_nn h1 (by omega)) (i32_nn h2 (by omega)) (i32_nn h3 (by omega))
    (by rw [t1, t3, q4]; omega) (by rw [t2, t3, r4]; omega)
    (fun vm₁ _ j hj => by
      rw [j3] at hj
      rw [j1, hval j hj]
      obtain ⟨z, ez⟩ := hf (sp.toNat + j) (by omega)
      rw [ez]
      exact ⟨rfl, trivial⟩)
    (g := F0 m (ePc en) LS ((vi n :: vi dp :: vr b :: vi sp :: vr a :: st).map (cv (sg U0 pre)))) rfl (by rw [hml]; exact hl.1) (rest := st.map (cv (sg U0 pre))) rfl (by rw [hb]; exact hd) (by omega) (by
      show 2 * 0 + ((st.map (cv (sg U0 pre))).map fun v => v.category).sum + _ ≤ R.locals
      rw [ecat]
      have := nfw
      omega)
  have hl9 : sg U0 pre b < H.size := (Array.getElem?_eq_some_iff.mp r1).1
  have hheap : ((T.setVm vm').setCell (sg U0 pre b) (copied cs cd (Int32.ofInt sp) (Int32.ofInt dp) (Int32.ofInt n))).heap = H.setIfInBounds (sg U0 pre b) (copied cs cd (Int32.ofInt sp) (Int32.ofInt dp) (Int32.ofInt n)) := by rw [← hT]; rfl
  have hst : ∀ j, j < n1 → (copied cs cd (Int32.ofInt sp) (Int32.ofInt dp) (Int32.ofInt n)).slots[j]? = some (cv (sg U0 pre) (if dp.toNat ≤ j ∧ j < dp.toNat + n.toNat then f (sp.toNat + (j - dp.toNat)) else g j)) := by
    intro j hj
    have elen : (cs.stretch (Int32.ofInt sp).toNatClampNeg (Int32.ofInt n).toNatClampNeg).length = n.toNat := by rw [j3]; simp [Cell.stretch]
    show (cd.storeRun (Int32.ofInt dp).toNatClampNeg (cs.stretch (Int32.ofInt sp).toNatClampNeg (Int32.ofInt n).toNatClampNeg)).slots[j]? = _
    rw [Cell.storeRun_get _ _ _ _ (by rw [elen, j2, r4]; omega), elen, j2]
    by_cases hj2 : dp.toNat ≤ j ∧ j < dp.toNat + n.toNat
    · rw [if_pos hj2, if_pos hj2]
      unfold Cell.stretch
      rw [j1, j3, List.getElem?_map, List.getElem?_range (by omega)]
      exact congrArg some (hval (j - dp.toNat) (by omega))
    · rw [if_neg hj2, if_neg hj2]
      exact r6 j hj
  have hcc : (copied cs cd (Int32.ofInt sp) (Int32.ofInt dp) (Int32.ofInt n)).cls = cd.cls ∧ (copied cs cd (Int32.ofInt sp) (Int32.ofInt dp) (Int32.ofInt n)).vm = cd.vm ∧ (copied cs cd (Int32.ofInt sp) (Int32.ofInt dp) (Int32.ofInt n)).slots.size = cd.slots.size := by
    obtain ⟨w1, w2, w3, -, -⟩ := cd.storeRun_facts (Int32.ofInt dp).toNatClampNeg (cs.stretch (Int32.ofInt sp).toNatClampNeg (Int32.ofInt n).toNatClampNeg)
    exact ⟨w1, w2, w3⟩
  obtain ⟨t, b1, b2⟩ := k (H.setIfInBounds (sg U0 pre b) (copied cs cd (Int32.ofInt sp) (Int32.ofInt dp) (Int32.ofInt n))) _ ⟨copied cs cd (Int32.ofInt sp) (Int32.ofInt dp) (Int32.ofInt n), by simp [Array.getElem?_setIfInBounds, hl9], ⟨by rw [hcc.2.1]; exact r2.1, by rw [hcc.1]; exact r2.2⟩, by rw [hcc.2.1]; exact r3, by rw [hcc.2.2]; exact r4, r5, hst⟩ (by simp) (fun q hq => by simp [Array.getElem?_setIfInBounds, Ne.symm hq]) (fun q hq => by
      rcases List.mem_append.mp hq with z | z
      · exact Or.inl z
      · obtain ⟨w, -, hw9⟩ := List.mem_map.mp z
        exact Or.inr (by rw [← hw9])) _ hheap X'
  exact ⟨t, step t b1, b2⟩

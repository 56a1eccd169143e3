/-! the heap: reads, writes, what is made -/
theorem lyX0 : (wsX00.all fun w => decide (w ∈ lw_tbl) && goodWord w) = true := by decide +kernel
theorem lyX1 : (wsX10.all fun w => decide (w ∈ lw_tbl) && goodWord w) = true := by decide +kernel
theorem lyX2 : (wsX20.all fun w => decide (w ∈ lw_tbl) && goodWord w) = true := by decide +kernel
theorem lyX3 : (wsX30.all fun w => decide (w ∈ lw_tbl) && goodWord w) = true := by decide +kernel
theorem lyX4 : (wsX40.all fun w => decide (w ∈ lw_tbl) && goodWord w) = true := by decide +kernel
theorem lyX5 : (wsX50.all fun w => decide (w ∈ lw_tbl) && goodWord w) = true := by decide +kernel
theorem lyX6 : (wsX60.all fun w => decide (w ∈ lw_tbl) && goodWord w) = true := by decide +kernel
def clT : Nat → Nat → FieldType
  | 0 => tyX0
  | 1 => tyX1
  | 2 => tyX2
  | 3 => tyX3
  | 4 => tyX4
  | 5 => tyX5
  | _ => tyX6
theorem ly_of {C : String} {T : u_T} {N : Nat} (h : ((u_ws C T N).all fun w => decide (w ∈ lw_tbl) && goodWord w) = true) : ∀ w ∈ u_ws C T N, w ∈ lw_tbl ∧ goodWord w = true := fun w hw => by
  have h1 := List.all_eq_true.mp h w hw
  simp only [Bool.and_eq_true, decide_eq_true_eq] at h1
  exact h1
theorem clOK (ci : Nat) (q : vw_C) (h : vwCl[ci]? = some q) : (∀ w ∈ u_ws q.1 q.2.1 q.2.2, w ∈ lw_tbl ∧ goodWord w = true) ∧ (∀ k, k < q.2.2 → parseFieldDescriptor (q.2.1 k).2.2.1 = some (clT ci k)) ∧ ∀ a, a < q.2.2 → ∀ b, b < q.2.2 → a ≠ b → (q.2.1 a).2.1 ≠ (q.2.1 b).2.1 := by
  match ci, h with
  | 0, h => cases h; exact ⟨ly_of lyX0, tyX0_ok, nmX0⟩
  | 1, h => cases h; exact ⟨ly_of lyX1, tyX1_ok, nmX1⟩
  | 2, h => cases h; exact ⟨ly_of lyX2, tyX2_ok, nmX2⟩
  | 3, h => cases h; exact ⟨ly_of lyX3, tyX3_ok, nmX3⟩
  | 4, h => cases h; exact ⟨ly_of lyX4, tyX4_ok, nmX4⟩
  | 5, h => cases h; exact ⟨ly_of lyX5, tyX5_ok, nmX5⟩
  | 6, h => cases h; exact ⟨ly_of lyX6, tyX6_ok, nmX6⟩
  | k + 7, h => simp [vwCl] at h
theorem cellAt.kept {U0 : State} {D : va_G} {f : Nat → Nat} {q : Nat} {H H1 : Heap} {c : AC} (h : cellAt U0 D f q H c) (hq : H1[q]? = H[q]?) : cellAt U0 D f q H1 c := by
  rcases c with ⟨ci, fs⟩ | ⟨ty, n, g⟩
  · obtain ⟨r, h1, h2, h3⟩ := h
    exact ⟨r, h1, h2, h3.kept hq⟩
  · obtain ⟨cell, h1, h2⟩ := h
    exact ⟨cell, hq.trans h1, h2⟩
theorem cellAt.lt {U0 : State} {D : va_G} {f : Nat → Nat} {q : Nat} {H : Heap} {c : AC} (h : cellAt U0 D f q H c) : q < H.size := by
  rcases c with ⟨ci, fs⟩ | ⟨ty, n, g⟩
  · obtain ⟨r, h1, h2, cell, h3, h4⟩ := h
    exact (Array.getElem?_eq_some_iff.mp h3).1
  · obtain ⟨cell, h1, h2⟩ := h
    exact (Array.getElem?_eq_some_iff.mp h1).1
def setC (h : Hp) (a : Nat) (c : AC) : Hp := (h.1, h.2.1, fun b => if b = a then c else h.2.2 b)
def addC (h : Hp) (n : Nat) (c : AC) : Hp := (h.1 + 1, h.2.1 + n, fun b => if b = h.1 then c else h.2.2 b)
theorem sg_ne {U0 : State} {pre : Nat → Nat} (hp : ∀ k, k < 5 → pre k < U0.heap.size) {a b : Nat} (ha : 5 ≤ a) (hab : b ≠ a) : sg U0 pre b ≠ sg U0 pre a := by
  unfold sg
  rw [if_neg (by omega : ¬ a < 5)]
  by_cases hb : b < 5
  · rw [if_pos hb]
    have := hp b hb
    omega
  · rw [if_neg hb]
    omega
theorem sg_own {U0 : State} {pre : Nat → Nat} {a : Nat} (ha : 5 ≤ a) : U0.heap.size ≤ sg U0 pre a := by
  unfold sg
  rw [if_neg (by omega : ¬ a < 5)]
  omega
theorem Rel.set {U0 : State} {D : va_G} {pre : Nat → Nat} {h : Hp} {H H1 : Heap} (hR : Rel U0 D pre h H) (hp : ∀ k, k < 5 → pre k < U0.heap.size) {a : Nat} (ha : 5 ≤ a) {c : AC} (h1 : cellAt U0 D (sg U0 pre) (sg U0 pre a) H1 c) (h2 : H1.size = H.size) (h3 : ∀ q, q ≠ sg U0 pre a → H1[q]? = H[q]?) : Rel U0 D pre (setC h a c) H1 := by
  obtain ⟨r1, r2, r3, r4⟩ := hR
  refine ⟨by rw [h2]; exact r1, r2, fun q hq => ?_, fun b hb => ?_⟩
  · rw [h3 q (by have := sg_own (U0 := U0) (pre := pre) ha; omega)]
    exact r3 q hq
  · show cellAt U0 D (sg U0 pre) (sg U0 pre b) H1 (if b = a then c else h.2.2 b)
    by_cases e : b = a
    · rw [if_pos e, e]; exact h1
    · rw [if_neg e]
      exact (r4 b hb).kept (h3 _ (sg_ne hp ha e))
theorem Rel.sgn {U0 : State} {D : va_G} {pre : Nat → Nat} {h : Hp} {H : Heap} (hR : Rel U0 D pre h H) : sg U0 pre h.1 = H.size := by
  obtain ⟨r1, r2, r3, r4⟩ := hR
  unfold sg
  rw [if_neg (by omega)]
  omega
theorem Rel.add {U0 : State} {D : va_G} {pre : Nat → Nat} {h : Hp} {H H1 : Heap} (hR : Rel U0 D pre h H) {c : AC} (n : Nat) (h1 : cellAt U0 D (sg U0 pre) (sg U0 pre h.1) H1 c) (h2 : H1.size = H.size + 1) (h3 : ∀ q, q < H.size → H1[q]? = H[q]?) : Rel U0 D pre (addC h n c) H1 := by
  have hs := hR.sgn
  obtain ⟨r1, r2, r3, r4⟩ := hR
  refine ⟨by rw [h2]; show H.size + 1 + 5 = U0.heap.size + (h.1 + 1); omega, by show 5 ≤ h.1 + 1; omega, fun q hq => ?_, fun b hb => ?_⟩
  · rw [h3 q (by omega)]
    exact r3 q hq
  · show cellAt U0 D (sg U0 pre) (sg U0 pre b) H1 (if b = h.1 then c else h.2.2 b)
    by_cases e : b = h.1
    · rw [if_pos e, e]; exact h1
    · rw [if_neg e]
      have hb' : b < h.1 := by have : b < h.1 + 1 := hb; omega
      exact (r4 b hb').kept (h3 _ (r4 b hb').lt)
/-- a write into one cell of the run's own -/
theorem WP_wr {M : Mth} {d ip ip' : Nat} {ls : LV} {st st' : List AV} {h : Hp} {Q : Option AV → Hp → Prop} {a : Nat} {c' : AC}
    (H1 : ∀ (p : Program) (l : Launch) (e : Env) (R : Room) (s : State) (m : MethodId) (args : Array Value) (below : List Frame) (meth : Method) (c : Code) (U0 : State) (a0 : Array Value) (D : va_G) (pre : Nat → Nat), CX M d p l e R s m args below meth c U0 a0 D pre → ∀ (H : Heap) (locs : List Loc) (cells slots : Nat) (Qf : State → Prop) (LS : Array Slot), Rel U0 D pre h H → lvR (sg U0 pre) LS (mL M) ls → (∀ (H' : Heap) (locs' : List Loc), cellAt U0 D (sg U0 pre) (sg U0 pre a) H' c' → H'.size = H.size → (∀ q, q ≠ sg U0 pre a → H'[q]? = H[q]?) → (∀ q ∈ locs', q ∈ locs ∨ q.base = sg U0 pre a) → W p l e R s m args below meth c H' locs' cells slots Qf (F0 m (bp M ip') LS (st'.map (cv (sg U0 pre))))) → W p l e R s m args below meth c H locs cells slots Qf (F0 m (bp M ip) LS (st.map (cv (sg U0 pre)))))
    (ha : 5 ≤ a) (k : WP M d ip' ls st' (setC h a c') Q) : WP M d ip ls st h Q := by
  obtain ⟨v, h', ⟨a1, b1, k⟩, hq⟩ := k
  refine ⟨v, h', ⟨a1, b1, fun p l e R s m args below meth c U0 a0 D pre cx H locs n0 s0 Qf LS hR hlo hn hs hl hc1 hc2 hret => ?_⟩, hq⟩
  refine H1 p l e R s m args below meth c U0 a0 D pre cx H locs _ _ Qf LS hR hl (fun H' locs' e1 e2 e3 e4 => ?_)
  refine k p l e R s m args below meth c U0 a0 D pre cx H' locs' n0 s0 Qf LS (hR.set cx.1.2.2.1 ha e1 e2 e3) (fun q hq => ?_) hn hs hl hc1 hc2 hret
  rcases e4 q hq with h | h
  · exact hlo q h
  · rw [h]; exact sg_own ha
/-- one cell more -/
theorem WP_ad {M : Mth} {d ip ip' : Nat} {ls : LV} {st st' : List AV} {h : Hp} {Q : Option AV → Hp → Prop} {c' : AC} (n : Nat)
    (H1 : ∀ (p : Program) (l : Launch) (e : Env) (R : Room) (s : State) (m : MethodId) (args : Array Value) (below : List Frame) (meth : Method) (c : Code) (U0 : State) (a0 : Array Value) (D : va_G) (pre : Nat → Nat), CX M d p l e R s m args below meth c U0 a0 D pre → ∀ (H : Heap) (locs : List Loc) (cells slots : Nat) (Qf : State → Prop) (LS : Array Slot), Rel U0 D pre h H → lvR (sg U0 pre) LS (mL M) ls → cells + 1 ≤ R.cells → slots + n ≤ R.slots → (∀ (H' : Heap), cellAt U0 D (sg U0 pre) (sg U0 pre h.1) H' c' → H'.size = H.size + 1 → (∀ q, q < H.size → H'[q]? = H[q]?) → W p l e R s m args below meth c H' locs (cells + 1) (slots + n) Qf (F0 m (bp M ip') LS (st'.map (cv (sg U0 pre))))) → W p l e R s m args below meth c H locs cells slots Qf (F0 m (bp M ip) LS (st.map (cv (sg U0 pre)))))
    (k : WP M d ip' ls st' (addC h n c') Q) : WP M d ip ls st h Q := by
  obtain ⟨v, h', ⟨a1, b1, k⟩, hq⟩ := k
  have a2 : h.1 + 1 ≤ h'.1 := a1
  have b2 : h.2.1 + n ≤ h'.2.1 := b1
  refine ⟨v, h', ⟨by omega, by omega, fun p l e R s m args below meth c U0 a0 D pre cx H locs n0 s0 Qf LS hR hlo hn hs hl hc1 hc2 hret => ?_⟩, hq⟩
  refine H1 p l e R s m args below meth c U0 a0 D pre cx H locs _ _ Qf LS hR hl (by omega) (by omega) (fun H' e1 e2 e3 => ?_)
  have e5 : h.1 - n0 + 1 = h.1 + 1 - n0 := by omega
  have e6 : h.2.1 - s0 + n = h.2.1 + n - s0 := by omega
  rw [e5, e6]
  exact k p l e R s m args below meth c U0 a0 D pre cx H' locs n0 s0 Qf LS (hR.add n e1 e2 e3) hlo (by show n0 ≤ h.1 + 1; omega) (by show s0 ≤ h.2.1 + n; omega) hl hc1 hc2 hret
theorem WP_getf {M : Mth} {d ip : Nat} {ls : LV} {st : List AV} {h : Hp} {Q : Option AV → Hp → Prop} {en : Ent} (he : (mT M)[ip]? = some en) {i a : Nat} {fs : List AV} {v : AV} (hi : eI en = .getfield i) (hc : h.2.2 a = .inl (eX en, fs)) (ha : a < h.1) (hv : fs[eY en]? = some v) (k : WP M d (eN en) ls (v :: st) h Q) : WP M d ip ls (vr a :: st) h Q := by
  refine WP_pure (fun p l e R s m args below meth c U0 a0 D pre cx H locs cells slots Qf LS hR hl k => ?_) k
  obtain ⟨⟨hg, hK, hpre, hZ⟩, hx, hb, hml, hr, hlk, hnm, hown, hW, hfr, hlo, hok⟩ := cx
  obtain ⟨hbp, hd, hlen, hnx, hxx⟩ := hok.at he
  unfold okX at hxx
  rw [hi] at hd hlen hnx hxx
  have hlen := hlen rfl
  have hnx := hnx rfl
  rw [hlen] at hd hnx
  rw [hbp]
  have hal := hW.alike
  rw [hnx] at k
  dsimp only at hxx
  split at hxx
  · rename_i q hq
    simp only [Bool.and_eq_true, decide_eq_true_eq] at hxx
    obtain ⟨⟨hy, hcl⟩, hlw⟩ := hxx
    have hca := hR.2.2.2 a ha
    rw [hc] at hca
    obtain ⟨r, hr1, hr2, cell, q1, q2, q3, q4⟩ := hca
    have er : r = q := Option.some.inj (hr1.symm.trans hq)
    subst er
    obtain ⟨c1, c2, c3⟩ := clOK _ _ hq
    have hts : ∀ w ∈ u_ws r.1 r.2.1 r.2.2, w.before args s = true := fun w hw => word_at hW (good_of_word (c1 w hw).2) (hg w (c1 w hw).1)
    have hKs := va_K.moved hal hK
    obtain ⟨hS, hfc, kC, hkC, hkind⟩ := hKs.1 _ _ hq
    obtain ⟨cf, kf, fi, f, hfi, hsl⟩ := hS _ hy
    have hlink := wd (args := args) hg hW hlw rfl
    have hfx : s.fieldFound? r.1 (r.2.1 (eY en)).2.1 (r.2.1 (eY en)).2.2.1 = some (cf, kf, fi, f) := by rw [← hcl]; exact hfi
    refine W.getf hx hb hown hlink hfx (u_facts hfc hkC (u_lays hts (fun _ z => z) hy) hfi).1 q1 (by rw [q3]; exact fun z => by cases z) (v := cv (sg U0 pre) v) ?_ rfl rfl hd (k LS hl)
    rw [hsl, q4 _ hy]
    simp [vp_V, hv]
  · cases hxx
def fok : FieldType → AV → Prop
  | .int, .inl _ => True
  | .boolean, .inl x => x = 0 ∨ x = 1
  | .object _, .inr (.inr (some _)) => True
  | .array _, .inr (.inr (some _)) => True
  | _, _ => False
theorem fok_n (f : Nat → Nat) {ty : FieldType} {v : AV} (h : fok ty v) : narrow ty (cv f v) = cv f v ∧ fits ty (cv f v) = true := by
  unfold fok at h
  split at h
  · exact ⟨rfl, rfl⟩
  · rcases h with rfl | rfl
    · exact ⟨by show narrow .boolean (.int (Int32.ofInt 0)) = .int (Int32.ofInt 0); decide, by show fits .boolean (.int (Int32.ofInt 0)) = true; decide⟩
    · exact ⟨by show narrow .boolean (.int (Int32.ofInt 1)) = .int (Int32.ofInt 1); decide, by show fits .boolean (.int (Int32.ofInt 1)) = true; decide⟩
  · exact ⟨rfl, rfl⟩
  · exact ⟨rfl, rfl⟩
  · exact h.elim
theorem WP_putf {M : Mth} {d ip : Nat} {ls : LV} {st : List AV} {h : Hp} {Q : Option AV → Hp → Prop} {en : Ent} (he : (mT M)[ip]? = some en) {i a : Nat} {fs : List AV} {v : AV} (hi : eI en = .putfield i) (hc : h.2.2 a = .inl (eX en, fs)) (ha : a < h.1) (ha5 : 5 ≤ a) (hfin : (((vwCl[eX en]?).getD ("", TX0, 0)).2.1 (eY en)).2.2.2 = false) (hv : fok (clT (eX en) (eY en)) v) (k : WP M d (eN en) ls st (setC h a (.inl (eX en, fs.set (eY en) v))) Q) : WP M d ip ls (v :: vr a :: st) h Q := by
  refine WP_wr (fun p l e R s m args below meth c U0 a0 D pre cx H locs cells slots Qf LS hR hl k => ?_) ha5 k
  obtain ⟨⟨hg, hK, hpre, hZ⟩, hx, hb, hml, hr, hlk, hnm, hown, hW, hfr, hlo, hok⟩ := cx
  obtain ⟨hbp, hd, hlen, hnx, hxx⟩ := hok.at he
  unfold okX at hxx
  rw [hi] at hd hlen hnx hxx
  have hlen := hlen rfl
  have hnx := hnx rfl
  rw [hlen] at hd hnx
  rw [hbp]
  have hal := hW.alike
  rw [hnx] at k
  dsimp only at hxx
  split at hxx
  · rename_i q hq
    simp only [Bool.and_eq_true, decide_eq_true_eq] at hxx
    obtain ⟨⟨hy, hcl⟩, hlw⟩ := hxx
    have hca := hR.2.2.2 a ha
    rw [hc] at hca
    obtain ⟨r, hr1, hr2, cell, q1, q2, q3, q4⟩ := hca
    have er : r = q := Option.some.inj (hr1.symm.trans hq)
    subst er
    obtain ⟨c1, c2, c3⟩ := clOK _ _ hq
    have hts : ∀ w ∈ u_ws r.1 r.2.1 r.2.2, w.before args s = true := fun w hw => word_at hW (good_of_word (c1 w hw).2) (hg w (c1 w hw).1)
    have hKs := va_K.moved hal hK
    obtain ⟨hS, hfc, kC, hkC, hkind⟩ := hKs.1 _ _ hq
    obtain ⟨cf, kf, fi, f, hfi, hsl⟩ := hS _ hy
    have hlink := wd (args := args) hg hW hlw rfl
    have hfx : s.fieldFound? r.1 (r.2.1 (eY en)).2.1 (r.2.1 (eY en)).2.2.1 = some (cf, kf, fi, f) := by rw [← hcl]; exact hfi
    have hap := va_apart (own := (mY M).cls) hts (fun _ z => z) (clT (eX en)) c2 c3 hKs hq
    have hlay := hts _ (u_in_lay (C := r.1) (T := r.2.1) hy)
    unfold u_lay at hlay
    have hfin : (r.2.1 (eY en)).2.2.2 = false := by
      rw [hq] at hfin
      exact hfin
    rw [if_neg (by rw [hfin]; decide)] at hlay
    have hst := (u_facts hfc hkC (u_lays hts (fun _ z => z) hy) hfi).1
    have h6 := u_store hfc hkC hkind hlay hfi (c2 _ hy) (fok_n (sg U0 pre) hv).1 (fok_n (sg U0 pre) hv).2
    refine W.putK hx hb (f := f) ⟨hown, hlink, ⟨_, _, _, hfx⟩, hst⟩ (by rw [q2]; exact h6) q1 q3 (by rw [hsl]; exact k2_hasslot (q4 _ hy)) rfl rfl hd fun H' e1 e2 e3 => ?_
    rw [hsl] at e1
    refine k H' _ ⟨r, hr1, by rw [List.length_set]; exact hr2, t_OB.to (V := updV (vp_V (fs.map (cv (sg U0 pre)))) (eY en) (cv (sg U0 pre) v)) ⟨_, e1, q2, q3, t_set q4 hap hy _⟩ (fun j _ => ?_)⟩ e2 e3 (fun q hq => ?_)
    · rw [vp_updV_set (by rw [List.length_map, hr2]; exact hy), List.map_set]
    · rcases List.mem_append.mp hq with z | z
      · exact Or.inl z
      · exact Or.inr (by rw [List.mem_singleton.mp z])
  · cases hxx
theorem WP_putF {M : Mth} {d ip : Nat} {ls : LV} {st : List AV} {h : Hp} {Q : Option AV → Hp → Prop} {en : Ent} (he : (mT M)[ip]? = some en) {i a : Nat} {fs : List AV} {v : AV} (hi : eI en = .putfield i) (hc : h.2.2 a = .inl (eX en, fs)) (ha : a < h.1) (ha5 : 5 ≤ a) (hfin : (((vwCl[eX en]?).getD ("", TX0, 0)).2.1 (eY en)).2.2.2 = true) (hin2 : (mY M).name = "<init>") (hdecl : (mY M).cls = ((vwCl[eX en]?).getD ("", TX0, 0)).1) (hv : fok (clT (eX en) (eY en)) v) (k : WP M d (eN en) ls st (setC h a (.inl (eX en, fs.set (eY en) v))) Q) : WP M d ip ls (v :: vr a :: st) h Q := by
  refine WP_wr (fun p l e R s m args below meth c U0 a0 D pre cx H locs cells slots Qf LS hR hl k => ?_) ha5 k
  obtain ⟨⟨hg, hK, hpre, hZ⟩, hx, hb, hml, hr, hlk, hnm, hown, hW, hfr, hlo, hok⟩ := cx
  obtain ⟨hbp, hd, hlen, hnx, hxx⟩ := hok.at he
  unfold okX at hxx
  rw [hi] at hd hlen hnx hxx
  have hlen := hlen rfl
  have hnx := hnx rfl
  rw [hlen] at hd hnx
  rw [hbp]
  have hal := hW.alike
  rw [hnx] at k
  dsimp only at hxx
  split at hxx
  · rename_i q hq
    simp only [Bool.and_eq_true, decide_eq_true_eq] at hxx
    obtain ⟨⟨hy, hcl⟩, hlw⟩ := hxx
    have hca := hR.2.2.2 a ha
    rw [hc] at hca
    obtain ⟨r, hr1, hr2, cell, q1, q2, q3, q4⟩ := hca
    have er : r = q := Option.some.inj (hr1.symm.trans hq)
    subst er
    obtain ⟨c1, c2, c3⟩ := clOK _ _ hq
    have hts : ∀ w ∈ u_ws r.1 r.2.1 r.2.2, w.before args s = true := fun w hw => word_at hW (good_of_word (c1 w hw).2) (hg w (c1 w hw).1)
    have hKs := va_K.moved hal hK
    obtain ⟨hS, hfc, kC, hkC, hkind⟩ := hKs.1 _ _ hq
    obtain ⟨cf, kf, fi, f, hfi, hsl⟩ := hS _ hy
    have hlink := wd (args := args) hg hW hlw rfl
    have hfx : s.fieldFound? r.1 (r.2.1 (eY en)).2.1 (r.2.1 (eY en)).2.2.1 = some (cf, kf, fi, f) := by rw [← hcl]; exact hfi
    have hap := va_apart (own := (mY M).cls) hts (fun _ z => z) (clT (eX en)) c2 c3 hKs hq
    have hlay := hts _ (u_in_lay (C := r.1) (T := r.2.1) hy)
    unfold u_lay at hlay
    have hfin : (r.2.1 (eY en)).2.2.2 = true := by
      rw [hq] at hfin
      exact hfin
    rw [if_pos hfin] at hlay
    have hst := (u_facts hfc hkC (u_lays hts (fun _ z => z) hy) hfi).1
    have hdecl : (r.2.1 (eY en)).1 = (mY M).cls := by
      rw [hq] at hdecl
      rw [hcl, hdecl]
      rfl
    have hcf : m.cls = cf := by
      obtain ⟨_, _, c', _, _, _, -, -, hf', -, -, -, hown2, -⟩ := Cond.laysFinal_spec hlay
      have e1 : c' = cf := by have := hfi.symm.trans hf'; simp at this; exact this.1.symm
      rw [hdecl] at hown2
      rw [← e1]; exact Option.some.inj (hown.symm.trans hown2)
    have h6 := u_fits hfc hkC hkind (Or.inr hlay) hfi (c2 _ hy) (fok_n (sg U0 pre) hv).1 (fok_n (sg U0 pre) hv).2
    refine W.putFinK hx hb hown hlink hfx hst hcf (hnm.trans hin2) (by rw [q2]; exact h6) q1 q3 (by rw [hsl]; exact k2_hasslot (q4 _ hy)) rfl rfl hd fun H' e1 e2 e3 => ?_
    rw [hsl] at e1
    refine k H' _ ⟨r, hr1, by rw [List.length_set]; exact hr2, t_OB.to (V := updV (vp_V (fs.map (cv (sg U0 pre)))) (eY en) (cv (sg U0 pre) v)) ⟨_, e1, q2, q3, t_set q4 hap hy _⟩ (fun j _ => ?_)⟩ e2 e3 (fun q hq => ?_)
    · rw [vp_updV_set (by rw [List.length_map, hr2]; exact hy), List.map_set]
    · rcases List.mem_append.mp hq with z | z
      · exact Or.inl z
      · exact Or.inr (by rw [List.mem_singleton.mp z])
  · cases hxx
theorem WP_iald {M : Mth} {d ip : Nat} {ls : LV} {st : List AV} {h : Hp} {Q : Option AV → Hp → Prop} {en : Ent} (he : (mT M)[ip]? = some en) {a n : Nat} {i : Int} {g : Nat → AV} (hi : eI en = .iaload) (hc : h.2.2 a = .inr (.int, n, g)) (ha : a < h.1) (h0 : 0 ≤ i) (h1 : i < n) (k : WP M d (eN en) ls (g i.toNat :: st) h Q) : WP M d ip ls (vi i :: vr a :: st) h Q := by
  refine WP_pure (fun p l e R s m args below meth c U0 a0 D pre cx H locs cells slots Qf LS hR hl k => ?_) k
  obtain ⟨⟨hg, hK, hpre, hZ⟩, hx, hb, hml, hr, hlk, hnm, hown, hW, hfr, hlo, hok⟩ := cx
  obtain ⟨hbp, hd, hlen, hnx, hxx⟩ := hok.at he
  unfold okX at hxx
  rw [hi] at hd hlen hnx hxx
  have hlen := hlen rfl
  have hnx := hnx rfl
  rw [hlen] at hd hnx
  rw [hbp]
  have hal := hW.alike
  rw [hnx] at k
  have hca := hR.2.2.2 a ha
  rw [hc] at hca
  obtain ⟨cell, q1, q2, q3, q4, q5, q6⟩ := hca
  have q2 := State.isArrayOf_alike hal q2
  have hj : (Int32.ofInt i).toNatClampNeg = i.toNat := i32_nat h0 (by omega)
  have hin : ¬ (Int32.ofInt i < 0 ∨ cell.slots.size ≤ (Int32.ofInt i).toNatClampNeg) := by
    rw [hj, q4]
    rintro (z | z)
    · exact i32_nn h0 (by omega) z
    · omega
  exact W.iald hx hb q1 q2 q3 hin (by rw [hj]; exact q6 i.toNat (by omega)) rfl rfl hd (k LS hl)
theorem WP_zald {M : Mth} {d ip : Nat} {ls : LV} {st : List AV} {h : Hp} {Q : Option AV → Hp → Prop} {en : Ent} (he : (mT M)[ip]? = some en) {a n : Nat} {i : Int} {g : Nat → AV} (hi : eI en = .baload) (hc : h.2.2 a = .inr (.boolean, n, g)) (ha : a < h.1) (h0 : 0 ≤ i) (h1 : i < n) (k : WP M d (eN en) ls (g i.toNat :: st) h Q) : WP M d ip ls (vi i :: vr a :: st) h Q := by
  refine WP_pure (fun p l e R s m args below meth c U0 a0 D pre cx H locs cells slots Qf LS hR hl k => ?_) k
  obtain ⟨⟨hg, hK, hpre, hZ⟩, hx, hb, hml, hr, hlk, hnm, hown, hW, hfr, hlo, hok⟩ := cx
  obtain ⟨hbp, hd, hlen, hnx, hxx⟩ := hok.at he
  unfold okX at hxx
  rw [hi] at hd hlen hnx hxx
  have hlen := hlen rfl
  have hnx := hnx rfl
  rw [hlen] at hd hnx
  rw [hbp]
  have hal := hW.alike
  rw [hnx] at k
  have hca := hR.2.2.2 a ha
  rw [hc] at hca
  obtain ⟨cell, q1, q2, q3, q4, q5, q6⟩ := hca
  have q2 := State.isArrayOf_alike hal q2
  have hj : (Int32.ofInt i).toNatClampNeg = i.toNat := i32_nat h0 (by omega)
  have hin : ¬ (Int32.ofInt i < 0 ∨ cell.slots.size ≤ (Int32.ofInt i).toNatClampNeg) := by
    rw [hj, q4]
    rintro (z | z)
    · exact i32_nn h0 (by omega) z
    · omega
  exact W.zald hx hb q1 q2 q3 hin (by rw [hj]; exact q6 i.toNat (by omega)) rfl rfl hd (k LS hl)
theorem WP_lald {M : Mth} {d ip : Nat} {ls : LV} {st : List AV} {h : Hp} {Q : Option AV → Hp → Prop} {en : Ent} (he : (mT M)[ip]? = some en) {a n : Nat} {i : Int} {g : Nat → AV} (hi : eI en = .laload) (hc : h.2.2 a = .inr (.long, n, g)) (ha : a < h.1) (h0 : 0 ≤ i) (h1 : i < n) (k : WP M d (eN en) ls (g i.toNat :: st) h Q) : WP M d ip ls (vi i :: vr a :: st) h Q := by
  refine WP_pure (fun p l e R s m args below meth c U0 a0 D pre cx H locs cells slots Qf LS hR hl k => ?_) k
  obtain ⟨⟨hg, hK, hpre, hZ⟩, hx, hb, hml, hr, hlk, hnm, hown, hW, hfr, hlo, hok⟩ := cx
  obtain ⟨hbp, hd, hlen, hnx, hxx⟩ := hok.at he
  unfold okX at hxx
  rw [hi] at hd hlen hnx hxx
  have hlen := hlen rfl
  have hnx := hnx rfl
  rw [hlen] at hd hnx
  rw [hbp]
  have hal := hW.alike
  rw [hnx] at k
  have hca := hR.2.2.2 a ha
  rw [hc] at hca
  obtain ⟨cell, q1, q2, q3, q4, q5, q6⟩ := hca
  have q2 := State.isArrayOf_alike hal q2
  have hj : (Int32.ofInt i).toNatClampNeg = i.toNat := i32_nat h0 (by omega)
  have hin : ¬ (Int32.ofInt i < 0 ∨ cell.slots.size ≤ (Int32.ofInt i).toNatClampNeg) := by
    rw [hj, q4]
    rintro (z | z)
    · exact i32_nn h0 (by omega) z
    · omega
  exact W.lald hx hb q1 q2 q3 hin (by rw [hj]; exact q6 i.toNat (by omega)) rfl rfl hd (k LS hl)
theorem WP_aald {M : Mth} {d ip : Nat} {ls : LV} {st : List AV} {h : Hp} {Q : Option AV → Hp → Prop} {en : Ent} (he : (mT M)[ip]? = some en) {a n : Nat} {i : Int} {g : Nat → AV} (hi : eI en = .aaload) (hc : h.2.2 a = .inr ((.array .int), n, g)) (ha : a < h.1) (h0 : 0 ≤ i) (h1 : i < n) (k : WP M d (eN en) ls (g i.toNat :: st) h Q) : WP M d ip ls (vi i :: vr a :: st) h Q := by
  refine WP_pure (fun p l e R s m args below meth c U0 a0 D pre cx H locs cells slots Qf LS hR hl k => ?_) k
  obtain ⟨⟨hg, hK, hpre, hZ⟩, hx, hb, hml, hr, hlk, hnm, hown, hW, hfr, hlo, hok⟩ := cx
  obtain ⟨hbp, hd, hlen, hnx, hxx⟩ := hok.at he
  unfold okX at hxx
  rw [hi] at hd hlen hnx hxx
  have hlen := hlen rfl
  have hnx := hnx rfl
  rw [hlen] at hd hnx
  rw [hbp]
  have hal := hW.alike
  rw [hnx] at k
  have hca := hR.2.2.2 a ha
  rw [hc] at hca
  obtain ⟨cell, q1, q2, q3, q4, q5, q6⟩ := hca
  have q2 := State.isArrayOf_alike hal q2
  have hj : (Int32.ofInt i).toNatClampNeg = i.toNat := i32_nat h0 (by omega)
  have hin : ¬ (Int32.ofInt i < 0 ∨ cell.slots.size ≤ (Int32.ofInt i).toNatClampNeg) := by
    rw [hj, q4]
    rintro (z | z)
    · exact i32_nn h0 (by omega) z
    · omega
  exact W.aald (ty := .array .int) hx hb q1 q2 rfl q3 hin (by rw [hj]; exact q6 i.toNat (by omega)) rfl rfl hd (k LS hl)
theorem WP_alen {M : Mth} {d ip : Nat} {ls : LV} {st : List AV} {h : Hp} {Q : Option AV → Hp → Prop} {en : Ent} (he : (mT M)[ip]? = some en) {a n : Nat} {ty : FieldType} {g : Nat → AV} (hi : eI en = .arraylength) (hc : h.2.2 a = .inr (ty, n, g)) (ha : a < h.1) (k : WP M d (eN en) ls (vi (n : Int) :: st) h Q) : WP M d ip ls (vr a :: st) h Q := by
  refine WP_pure (fun p l e R s m args below meth c U0 a0 D pre cx H locs cells slots Qf LS hR hl k => ?_) k
  obtain ⟨⟨hg, hK, hpre, hZ⟩, hx, hb, hml, hr, hlk, hnm, hown, hW, hfr, hlo, hok⟩ := cx
  obtain ⟨hbp, hd, hlen, hnx, hxx⟩ := hok.at he
  unfold okX at hxx
  rw [hi] at hd hlen hnx hxx
  have hlen := hlen rfl
  have hnx := hnx rfl
  rw [hlen] at hd hnx
  rw [hbp]
  have hal := hW.alike
  rw [hnx] at k
  have hca := hR.2.2.2 a ha
  rw [hc] at hca
  obtain ⟨cell, q1, q2, q3, q4, q5, q6⟩ := hca
  exact W.alen (n := Int32.ofInt (n : Int)) hx hb q1 (State.isArrayOf_alike hal q2) (by rw [q4]; exact Int32.ofInt_eq_ofNat.symm) rfl rfl hd (k LS hl)
theorem WP_iast {M : Mth} {d ip : Nat} {ls : LV} {st : List AV} {h : Hp} {Q : Option AV → Hp → Prop} {en : Ent} (he : (mT M)[ip]? = some en) {a n : Nat} {i x : Int} {g : Nat → AV} (hi : eI en = .iastore) (hc : h.2.2 a = .inr (.int, n, g)) (ha : a < h.1) (ha5 : 5 ≤ a) (h0 : 0 ≤ i) (h1 : i < n) (k : WP M d (eN en) ls st (setC h a (.inr (.int, n, fun j => if j = i.toNat then vi x else g j))) Q) : WP M d ip ls (vi x :: vi i :: vr a :: st) h Q := by
  refine WP_wr (fun p l e R s m args below meth c U0 a0 D pre cx H locs cells slots Qf LS hR hl k => ?_) ha5 k
  obtain ⟨⟨hg, hK, hpre, hZ⟩, hx, hb, hml, hr, hlk, hnm, hown, hW, hfr, hlo, hok⟩ := cx
  obtain ⟨hbp, hd, hlen, hnx, hxx⟩ := hok.at he
  unfold okX at hxx
  rw [hi] at hd hlen hnx hxx
  have hlen := hlen rfl
  have hnx := hnx rfl
  rw [hlen] at hd hnx
  rw [hbp]
  have hal := hW.alike
  rw [hnx] at k
  have hca := hR.2.2.2 a ha
  rw [hc] at hca
  obtain ⟨cell, q1, q2, q3, q4, q5, q6⟩ := hca
  have q2' := q2
  have q2 := State.isArrayOf_alike hal q2
  have hj : (Int32.ofInt i).toNatClampNeg = i.toNat := i32_nat h0 (by omega)
  have hin : ¬ (Int32.ofInt i < 0 ∨ cell.slots.size ≤ (Int32.ofInt i).toNatClampNeg) := by
    rw [hj, q4]
    rintro (z | z)
    · exact i32_nn h0 (by omega) z
    · omega
  refine W.iast (x := Int32.ofInt x) hx hb q1 q2 q3 hin rfl rfl hd fun H' e1 e2 e3 => ?_
  rw [hj] at e1
  refine k H' _ ⟨_, e1, q2', q3, by simpa [Cell.setSlot] using q4, q5, fun j hjn => ?_⟩ e2 e3 (fun q hq => ?_)
  · simp only [Cell.setSlot, Array.getElem?_setIfInBounds]
    by_cases e : j = i.toNat
    · subst e
      rw [if_pos rfl, if_pos rfl, if_pos (by rw [q4]; exact hjn)]
      rfl
    · rw [if_neg (fun z => e z.symm), if_neg e]
      exact q6 j hjn
  · rcases List.mem_append.mp hq with z | z
    · exact Or.inl z
    · exact Or.inr (by rw [List.mem_singleton.mp z])
theorem WP_zast {M : Mth} {d ip : Nat} {ls : LV} {st : List AV} {h : Hp} {Q : Option AV → Hp → Prop} {en : Ent} (he : (mT M)[ip]? = some en) {a n : Nat} {i x : Int} {g : Nat → AV} (hi : eI en = .bastore) (hc : h.2.2 a = .inr (.boolean, n, g)) (ha : a < h.1) (ha5 : 5 ≤ a) (h0 : 0 ≤ i) (h1 : i < n) (hz : x = 0 ∨ x = 1) (k : WP M d (eN en) ls st (setC h a (.inr (.boolean, n, fun j => if j = i.toNat then vi x else g j))) Q) : WP M d ip ls (vi x :: vi i :: vr a :: st) h Q := by
  refine WP_wr (fun p l e R s m args below meth c U0 a0 D pre cx H locs cells slots Qf LS hR hl k => ?_) ha5 k
  obtain ⟨⟨hg, hK, hpre, hZ⟩, hx, hb, hml, hr, hlk, hnm, hown, hW, hfr, hlo, hok⟩ := cx
  obtain ⟨hbp, hd, hlen, hnx, hxx⟩ := hok.at he
  unfold okX at hxx
  rw [hi] at hd hlen hnx hxx
  have hlen := hlen rfl
  have hnx := hnx rfl
  rw [hlen] at hd hnx
  rw [hbp]
  have hal := hW.alike
  rw [hnx] at k
  have hca := hR.2.2.2 a ha
  rw [hc] at hca
  obtain ⟨cell, q1, q2, q3, q4, q5, q6⟩ := hca
  have q2' := q2
  have q2 := State.isArrayOf_alike hal q2
  have hj : (Int32.ofInt i).toNatClampNeg = i.toNat := i32_nat h0 (by omega)
  have hin : ¬ (Int32.ofInt i < 0 ∨ cell.slots.size ≤ (Int32.ofInt i).toNatClampNeg) := by
    rw [hj, q4]
    rintro (z | z)
    · exact i32_nn h0 (by omega) z
    · omega
  refine W.zast (x := Int32.ofInt x) hx hb q1 q2 q3 hin rfl rfl hd fun H' e1 e2 e3 => ?_
  rw [hj] at e1
  refine k H' _ ⟨_, e1, q2', q3, by simpa [Cell.setSlot] using q4, q5, fun j hjn => ?_⟩ e2 e3 (fun q hq => ?_)
  · simp only [Cell.setSlot, Array.getElem?_setIfInBounds]
    by_cases e : j = i.toNat
    · subst e
      rw [if_pos rfl, if_pos rfl, if_pos (by rw [q4]; exact hjn)]
      rw [(fok_n (sg U0 pre) (ty := .boolean) (v := vi x) hz).1.symm]
      rfl
    · rw [if_neg (fun z => e z.symm), if_neg e]
      exact q6 j hjn
  · rcases List.mem_append.mp hq with z | z
    · exact Or.inl z
    · exact Or.inr (by rw [List.mem_singleton.mp z])
theorem WP_last {M : Mth} {d ip : Nat} {ls : LV} {st : List AV} {h : Hp} {Q : Option AV → Hp → Prop} {en : Ent} (he : (mT M)[ip]? = some en) {a n : Nat} {i x : Int} {g : Nat → AV} (hi : eI en = .lastore) (hc : h.2.2 a = .inr (.long, n, g)) (ha : a < h.1) (ha5 : 5 ≤ a) (h0 : 0 ≤ i) (h1 : i < n) (k : WP M d (eN en) ls st (setC h a (.inr (.long, n, fun j => if j = i.toNat then vl x else g j))) Q) : WP M d ip ls (vl x :: vi i :: vr a :: st) h Q := by
  refine WP_wr (fun p l e R s m args below meth c U0 a0 D pre cx H locs cells slots Qf LS hR hl k => ?_) ha5 k
  obtain ⟨⟨hg, hK, hpre, hZ⟩, hx, hb, hml, hr, hlk, hnm, hown, hW, hfr, hlo, hok⟩ := cx
  obtain ⟨hbp, hd, hlen, hnx, hxx⟩ := hok.at he
  unfold okX at hxx
  rw [hi] at hd hlen hnx hxx
  have hlen := hlen rfl
  have hnx := hnx rfl
  rw [hlen] at hd hnx
  rw [hbp]
  have hal := hW.alike
  rw [hnx] at k
  have hca := hR.2.2.2 a ha
  rw [hc] at hca
  obtain ⟨cell, q1, q2, q3, q4, q5, q6⟩ := hca
  have q2' := q2
  have q2 := State.isArrayOf_alike hal q2
  have hj : (Int32.ofInt i).toNatClampNeg = i.toNat := i32_nat h0 (by omega)
  have hin : ¬ (Int32.ofInt i < 0 ∨ cell.slots.size ≤ (Int32.ofInt i).toNatClampNeg) := by
    rw [hj, q4]
    rintro (z | z)
    · exact i32_nn h0 (by omega) z
    · omega
  refine W.last (x := Int64.ofInt x) hx hb q1 q2 q3 hin rfl rfl hd fun H' e1 e2 e3 => ?_
  rw [hj] at e1
  refine k H' _ ⟨_, e1, q2', q3, by simpa [Cell.setSlot] using q4, q5, fun j hjn => ?_⟩ e2 e3 (fun q hq => ?_)
  · simp only [Cell.setSlot, Array.getElem?_setIfInBounds]
    by_cases e : j = i.toNat
    · subst e
      rw [if_pos rfl, if_pos rfl, if_pos (by rw [q4]; exact hjn)]
      rfl
    · rw [if_neg (fun z => e z.symm), if_neg e]
      exact q6 j hjn
  · rcases List.mem_append.mp hq with z | z
    · exact Or.inl z
    · exact Or.inr (by rw [List.mem_singleton.mp z])
theorem WP_gets {M : Mth} {d ip : Nat} {ls : LV} {st : List AV} {h : Hp} {Q : Option AV → Hp → Prop} {en : Ent} (he : (mT M)[ip]? = some en) {i : Nat} (hi : eI en = .getstatic i) (k : WP M d (eN en) ls (vr (eX en) :: st) h Q) : WP M d ip ls st h Q := by
  refine WP_pure (fun p l e R s m args below meth c U0 a0 D pre cx H locs cells slots Qf LS hR hl k => ?_) k
  obtain ⟨⟨hg, hK, hpre, hZ⟩, hx, hb, hml, hr, hlk, hnm, hown, hW, hfr, hlo, hok⟩ := cx
  obtain ⟨hbp, hd, hlen, hnx, hxx⟩ := hok.at he
  unfold okX at hxx
  rw [hi] at hd hlen hnx hxx
  have hlen := hlen rfl
  have hnx := hnx rfl
  rw [hlen] at hd hnx
  rw [hbp]
  have hal := hW.alike
  rw [hnx] at k
  simp only [Bool.and_eq_true, Bool.or_eq_true, decide_eq_true_eq] at hxx
  obtain ⟨⟨x1, x2⟩, x3⟩ := hxx
  obtain ⟨cf, kf, fi, f, a, cell, z1, z2, z3, z4, z5, z6, z7, z8⟩ := va_Z.moved hal (hZ _ x1 x2)
  have hlt : a < U0.heap.size := (Array.getElem?_eq_some_iff.mp z5).1
  have hcl : H[a]? = some cell := by rw [hR.2.2.1 a hlt]; exact z5
  have ev : cv (sg U0 pre) (vr (eX en)) = .ref (pre (eX en)) := by
    show Value.ref (sg U0 pre (eX en)) = _
    unfold sg
    rw [if_pos x2]
  have k9 := k LS hl
  rw [List.map_cons, ev] at k9
  rcases x3 with x3 | x3
  · exact W.gets hx hb hown (wd hg hW x3 rfl) z1 z2 z3 z4 hcl (fun q => by rw [q] at z6; cases z6) z7 rfl hd k9
  · have hn : va_Nw (.fieldLinkNest (mY M).cls i (sN (eX en)).1 (sN (eX en)).2.1 (sN (eX en)).2.2 "FloorPlans") s := va_Nw.warmF hW (va_Nw.of rfl (hg _ (List.mem_of_getElem? x3)))
    exact va_WgetsN hx hb hown (va_Nw.use rfl hn) z1 z2 z3 z4 hcl (fun q => by rw [q] at z6; cases z6) z7 rfl hd k9

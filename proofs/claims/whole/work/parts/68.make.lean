/-! a heap in the making -/
theorem WP_cong {M : Mth} {d ip : Nat} {ls : LV} {st : List AV} {h h1 : Hp} {Q : Option AV → Hp → Prop} (e1 : h1.1 = h.1) (e2 : h1.2.1 = h.2.1) (e3 : ∀ a, a < h.1 → h1.2.2 a = h.2.2 a) (k : WP M d ip ls st h1 Q) : WP M d ip ls st h Q := by
  obtain ⟨v, h', ⟨a, b, j⟩, q⟩ := k
  refine ⟨v, h', ⟨by omega, by omega, fun p l e R s m args below meth c U0 a0 D pre cx H locs n0 s0 Qf LS hR hlo hn hs hl hc1 hc2 hret => ?_⟩, q⟩
  rw [← e1, ← e2]
  refine j p l e R s m args below meth c U0 a0 D pre cx H locs n0 s0 Qf LS ⟨by rw [e1]; exact hR.1, by rw [e1]; exact hR.2.1, hR.2.2.1, fun x hx => ?_⟩ hlo (by rw [e1]; exact hn) (by rw [e2]; exact hs) hl hc1 hc2 hret
  rw [e1] at hx
  rw [e3 x hx]
  exact hR.2.2.2 x hx
abbrev L0 : Nat → Nat → Int := fun _ _ => 0
abbrev X0 : SX := (0, 0, 158, 159, fun _ => 0)
def EH (P : PP) (FI A : Nat → Nat → Int) (k s : Nat) (c5 : AC) (o : Nat) (co : AC) : Hp := (k, s, fun b => if b = 5 then c5 else if b = o then co else cc2 P FI A L0 X0 b)
theorem EH_5 {P : PP} {FI A : Nat → Nat → Int} {k s o : Nat} {c5 co : AC} : (EH P FI A k s c5 o co).2.2 5 = c5 := by
  show (if (5 : Nat) = 5 then c5 else if (5 : Nat) = o then co else cc2 P FI A L0 X0 5) = c5
  rw [if_pos rfl]
theorem EH_o {P : PP} {FI A : Nat → Nat → Int} {k s o : Nat} {c5 co : AC} (h : o ≠ 5) : (EH P FI A k s c5 o co).2.2 o = co := by
  show (if o = 5 then c5 else if o = o then co else cc2 P FI A L0 X0 o) = co
  rw [if_neg h, if_pos rfl]
theorem EH_a {P : PP} {FI A : Nat → Nat → Int} {k s o a : Nat} {c5 co : AC} (h : a ≠ 5) (h2 : a ≠ o) : (EH P FI A k s c5 o co).2.2 a = cc2 P FI A L0 X0 a := by
  show (if a = 5 then c5 else if a = o then co else cc2 P FI A L0 X0 a) = _
  rw [if_neg h, if_neg h2]
theorem WE_newi {M : Mth} {d ip : Nat} {ls : LV} {st : List AV} {Q : Option AV → Hp → Prop} {P : PP} {FI A : Nat → Nat → Int} {k s o : Nat} {c5 co : AC} {en : Ent} (he : (mT M)[ip]? = some en) {i : Int} {n k' s' : Nat} (hi : eI en = .newarray .int) (hn : i = (n : Int)) (hk' : k + 1 = k') (hs' : s + n = s') (h5 : 5 < k) (ho : o < k) (hA : isIA P X0 k n) (hz : ∀ j, A k j = 0) (h1 : n ≤ 60000) (kk : WP M d (eN en) ls (vr k :: st) (EH P FI A k' s' c5 o co) Q) : WP M d ip ls (vi i :: st) (EH P FI A k s c5 o co) Q := by
  subst hn hk' hs'
  refine WP_newa he hi rfl rfl (by omega) (by omega) h1 ?_
  refine WP_cong (h1 := EH P FI A (k + 1) (s + n) c5 o co) rfl rfl (fun a ha => ?_) kk
  by_cases e : a = k
  · subst e
    rw [EH_a (by omega) (by omega), cc2_int hA]
    show _ = (if a = a then _ else _)
    rw [if_pos rfl]
    refine congrArg (fun f => Sum.inr (FieldType.int, n, f)) (funext fun j => ?_)
    rw [cont_own (by omega), hz]
    rfl
  · show _ = (if a = k then _ else _)
    rw [if_neg e]
    rfl
theorem WE_newl {M : Mth} {d ip : Nat} {ls : LV} {st : List AV} {Q : Option AV → Hp → Prop} {P : PP} {FI A : Nat → Nat → Int} {k s o : Nat} {c5 co : AC} {en : Ent} (he : (mT M)[ip]? = some en) {i : Int} {n k' s' : Nat} (hi : eI en = .newarray .long) (hn : i = (n : Int)) (hk' : k + 1 = k') (hs' : s + n = s') (h5 : 5 < k) (ho : o < k) (hA : kd k = 2) (hl : lL k = n) (h1 : n ≤ 60000) (kk : WP M d (eN en) ls (vr k :: st) (EH P FI A k' s' c5 o co) Q) : WP M d ip ls (vi i :: st) (EH P FI A k s c5 o co) Q := by
  subst hn hk' hs'
  refine WP_newa he hi rfl rfl (by omega) (by omega) h1 ?_
  refine WP_cong (h1 := EH P FI A (k + 1) (s + n) c5 o co) rfl rfl (fun a ha => ?_) kk
  by_cases e : a = k
  · subst e
    rw [EH_a (by omega) (by omega), cc2_lng hA, hl]
    show _ = (if a = a then _ else _)
    rw [if_pos rfl]
    rfl
  · show _ = (if a = k then _ else _)
    rw [if_neg e]
    rfl
theorem WE_newz {M : Mth} {d ip : Nat} {ls : LV} {st : List AV} {Q : Option AV → Hp → Prop} {P : PP} {FI A : Nat → Nat → Int} {k s o : Nat} {c5 co : AC} {en : Ent} (he : (mT M)[ip]? = some en) {i : Int} {k' s' : Nat} (hi : eI en = .newarray .boolean) (hn : i = 16) (hk' : k + 1 = k') (hs' : s + 16 = s') (h5 : 5 < k) (ho : o < k) (hA : kd k = 4) (hz : ∀ j, A k j = 0) (kk : WP M d (eN en) ls (vr k :: st) (EH P FI A k' s' c5 o co) Q) : WP M d ip ls (vi i :: st) (EH P FI A k s c5 o co) Q := by
  subst hn hk' hs'
  refine WP_newa (n := 16) he hi rfl rfl (by omega) (by omega) (by omega) ?_
  refine WP_cong (h1 := EH P FI A (k + 1) (s + 16) c5 o co) rfl rfl (fun a ha => ?_) kk
  by_cases e : a = k
  · subst e
    rw [EH_a (by omega) (by omega), cc2_bol hA]
    show _ = (if a = a then _ else _)
    rw [if_pos rfl]
    refine congrArg (fun f => Sum.inr (FieldType.boolean, 16, f)) (funext fun j => ?_)
    rw [hz]
    rfl
  · show _ = (if a = k then _ else _)
    rw [if_neg e]
    rfl
theorem iL_0 {n a : Nat} {dl : Nat → Nat} (h : 1 ≤ a) : iL n dl a = iL 0 dl a := by
  unfold iL tl
  have : (a == 0) = false := by rw [beq_eq_false_iff_ne]; omega
  rw [this]
  rfl
theorem WE_mna {M : Mth} {d ip : Nat} {ls : LV} {st : List AV} {Q : Option AV → Hp → Prop} {P : PP} {FI A : Nat → Nat → Int} {k s o : Nat} {c5 co : AC} {en : Ent} (he : (mT M)[ip]? = some en) {i : Nat} {x y : Int} {N K k' s' : Nat} (hi : eI en = .multianewarray i 2) (hx : x = (N : Int)) (hy : y = (K : Int)) (hk' : k + 1 + N = k') (hs' : s + N + N * K = s') (h5 : 5 < k) (ho : o < k) (hA : kd k = 3) (hr : rL k = N) (hN : N ≤ 1000) (hK : K ≤ 1000) (h193 : k + N < 193) (hrow : (List.range N).all (fun j => kd (k + 1 + j) == 0 && iL 0 (fun _ => 0) (k + 1 + j) == K) = true) (hz : ∀ b j, k < b → A b j = 0) (kk : WP M d (eN en) ls (vr k :: st) (EH P FI A k' s' c5 o co) Q) : WP M d ip ls (vi y :: vi x :: st) (EH P FI A k s c5 o co) Q := by
  subst hx hy hk' hs'
  refine WP_mna he hi (by omega) (by omega) (by omega) (by omega) hN hK ?_
  refine WP_cong (h1 := EH P FI A (k + 1 + N) (s + N + N * K) c5 o co) rfl rfl (fun a ha => ?_) kk
  by_cases e : a = k
  · subst e
    rw [EH_a (by omega) (by omega), cc2_ref hA, hr]
    show _ = (if a = a then _ else _)
    rw [if_pos rfl]
    rfl
  · by_cases e2 : k < a
    · have ha2 : a < k + 1 + N := ha
      have hj := List.all_eq_true.mp hrow (a - k - 1) (List.mem_range.mpr (by omega))
      rw [show k + 1 + (a - k - 1) = a by omega, Bool.and_eq_true, beq_iff_eq, beq_iff_eq] at hj
      rw [EH_a (by omega) (by omega), cc2_int (n := K) ⟨hj.1, by rw [iL_0 (by omega)]; exact hj.2, by show a < 193 + 0; omega⟩]
      show _ = (if a = k then _ else if k < a ∧ a < k + 1 + N then _ else _)
      rw [if_neg e, if_pos ⟨e2, ha2⟩]
      refine congrArg (fun f => Sum.inr (FieldType.int, K, f)) (funext fun j => ?_)
      rw [cont_own (by omega), hz a j e2]
    · show _ = (if a = k then _ else if k < a ∧ a < k + 1 + N then _ else _)
      rw [if_neg e, if_neg (fun q => e2 q.1)]
      rfl
theorem WE_new {M : Mth} {d ip : Nat} {ls : LV} {st : List AV} {Q : Option AV → Hp → Prop} {P : PP} {FI A : Nat → Nat → Int} {k s o : Nat} {c5 co : AC} {en : Ent} (he : (mT M)[ip]? = some en) {i n k' s' : Nat} (hi : eI en = .new i) (hw : (eW en == 99999) = false) (hn : ((vwCl[eX en]?).getD ("", TX0, 0)).2.2 = n) (hk' : k + 1 = k') (hs' : s + n = s') (h5 : 5 < k) (hco : o = 5 ∨ co = cc2 P FI A L0 X0 o) (kk : WP M d (eN en) ls (vr k :: st) (EH P FI A k' s' c5 k (.inl (eX en, nfs (eX en) n))) Q) : WP M d ip ls st (EH P FI A k s c5 o co) Q := by
  subst hk' hs'
  refine WP_new he hi hw hn ?_
  refine WP_cong (h1 := EH P FI A (k + 1) (s + n) c5 k (.inl (eX en, nfs (eX en) n))) rfl rfl (fun a ha => ?_) kk
  by_cases e : a = k
  · subst e
    rw [EH_o (by omega)]
    show _ = (if a = a then _ else _)
    rw [if_pos rfl]
  · show (if a = 5 then c5 else if a = k then _ else cc2 P FI A L0 X0 a) = (if a = k then _ else if a = 5 then c5 else if a = o then co else cc2 P FI A L0 X0 a)
    rw [if_neg e, if_neg e]
    by_cases e5 : a = 5
    · rw [if_pos e5, if_pos e5]
    · rw [if_neg e5, if_neg e5]
      by_cases eo : a = o
      · rw [if_pos eo]
        rcases hco with q | q
        · omega
        · rw [q, eo]
      · rw [if_neg eo]
theorem EH_set5 {P : PP} {FI A : Nat → Nat → Int} {k s o : Nat} {c5 co c : AC} : setC (EH P FI A k s c5 o co) 5 c = EH P FI A k s c o co := by
  unfold setC EH
  refine congrArg (fun f => (k, s, f)) (funext fun b => ?_)
  show (if b = 5 then c else if b = 5 then c5 else _) = (if b = 5 then c else _)
  by_cases e : b = 5
  · rw [if_pos e, if_pos e]
  · rw [if_neg e, if_neg e, if_neg e]
theorem EH_seto {P : PP} {FI A : Nat → Nat → Int} {k s o : Nat} {c5 co c : AC} (h : o ≠ 5) : setC (EH P FI A k s c5 o co) o c = EH P FI A k s c5 o c := by
  unfold setC EH
  refine congrArg (fun f => (k, s, f)) (funext fun b => ?_)
  show (if b = o then c else if b = 5 then c5 else if b = o then co else _) = (if b = 5 then c5 else if b = o then c else _)
  by_cases e : b = o
  · rw [if_pos e, if_neg (by omega), if_pos e]
  · rw [if_neg e, if_neg e, if_neg e]
theorem EH_setA {P : PP} {FI A A' : Nat → Nat → Int} {k s o a n : Nat} {c5 co : AC} {f : Nat → AV} (h : a ≠ 5) (h2 : a ≠ o) (h5 : 5 ≤ a) (hA : isIA P X0 a n) (hf : ∀ j, f j = vi (A' a j)) (ho : ∀ b j, b ≠ a → A' b j = A b j) : setC (EH P FI A k s c5 o co) a (.inr (.int, n, f)) = EH P FI A' k s c5 o co := by
  unfold setC EH
  refine congrArg (fun f => (k, s, f)) (funext fun b => ?_)
  show (if b = a then _ else if b = 5 then c5 else if b = o then co else _) = (if b = 5 then c5 else if b = o then co else _)
  by_cases e : b = a
  · subst e
    rw [if_pos rfl, if_neg h, if_neg h2, cc2_int hA]
    refine congrArg (fun f => Sum.inr (FieldType.int, n, f)) (funext fun j => ?_)
    rw [hf, cont_own h5]
  · rw [if_neg e]
    by_cases e5 : b = 5
    · rw [if_pos e5, if_pos e5]
    · rw [if_neg e5, if_neg e5]
      by_cases eo : b = o
      · rw [if_pos eo, if_pos eo]
      · rw [if_neg eo, if_neg eo]
        unfold cc2 cont
        simp only [ho b _ e]
theorem WE_put5 {M : Mth} {d ip : Nat} {ls : LV} {st : List AV} {Q : Option AV → Hp → Prop} {P : PP} {FI A : Nat → Nat → Int} {k s o : Nat} {co : AC} {en : Ent} (he : (mT M)[ip]? = some en) {i : Nat} {fs : List AV} {v : AV} (hi : eI en = .putfield i) (hx : eX en = 5) (hfin : (((vwCl[eX en]?).getD ("", TX0, 0)).2.1 (eY en)).2.2.2 = true) (hin2 : (mY M).name = "<init>") (hdecl : (mY M).cls = ((vwCl[eX en]?).getD ("", TX0, 0)).1) (hv : fok (clT (eX en) (eY en)) v) (hk : 5 < k) (kk : WP M d (eN en) ls st (EH P FI A k s (.inl (5, fs.set (eY en) v)) o co) Q) : WP M d ip ls (v :: vr 5 :: st) (EH P FI A k s (.inl (5, fs)) o co) Q := by
  refine WP_putF (fs := fs) he hi (by rw [hx]; exact EH_5) hk (by omega) hfin hin2 hdecl hv ?_
  rw [EH_set5, hx]
  exact kk
theorem WE_putF {M : Mth} {d ip : Nat} {ls : LV} {st : List AV} {Q : Option AV → Hp → Prop} {P : PP} {FI A : Nat → Nat → Int} {k s o : Nat} {c5 : AC} {en : Ent} (he : (mT M)[ip]? = some en) {i ci : Nat} {fs : List AV} {v : AV} (hi : eI en = .putfield i) (hx : eX en = ci) (hfin : (((vwCl[eX en]?).getD ("", TX0, 0)).2.1 (eY en)).2.2.2 = true) (hin2 : (mY M).name = "<init>") (hdecl : (mY M).cls = ((vwCl[eX en]?).getD ("", TX0, 0)).1) (hv : fok (clT (eX en) (eY en)) v) (ho : o < k) (ho5 : 5 < o) (kk : WP M d (eN en) ls st (EH P FI A k s c5 o (.inl (ci, fs.set (eY en) v))) Q) : WP M d ip ls (v :: vr o :: st) (EH P FI A k s c5 o (.inl (ci, fs))) Q := by
  refine WP_putF (fs := fs) he hi (by rw [hx]; exact EH_o (by omega)) ho (by omega) hfin hin2 hdecl hv ?_
  rw [EH_seto (by omega), hx]
  exact kk
theorem WE_putf {M : Mth} {d ip : Nat} {ls : LV} {st : List AV} {Q : Option AV → Hp → Prop} {P : PP} {FI A : Nat → Nat → Int} {k s o : Nat} {c5 : AC} {en : Ent} (he : (mT M)[ip]? = some en) {i ci : Nat} {fs : List AV} {v : AV} (hi : eI en = .putfield i) (hx : eX en = ci) (hfin : (((vwCl[eX en]?).getD ("", TX0, 0)).2.1 (eY en)).2.2.2 = false) (hv : fok (clT (eX en) (eY en)) v) (ho : o < k) (ho5 : 5 < o) (kk : WP M d (eN en) ls st (EH P FI A k s c5 o (.inl (ci, fs.set (eY en) v))) Q) : WP M d ip ls (v :: vr o :: st) (EH P FI A k s c5 o (.inl (ci, fs))) Q := by
  refine WP_putf (fs := fs) he hi (by rw [hx]; exact EH_o (by omega)) ho (by omega) hfin hv ?_
  rw [EH_seto (by omega), hx]
  exact kk
theorem WE_get5 {M : Mth} {d ip : Nat} {ls : LV} {st : List AV} {Q : Option AV → Hp → Prop} {P : PP} {FI A : Nat → Nat → Int} {k s o : Nat} {co : AC} {en : Ent} (he : (mT M)[ip]? = some en) {i : Nat} {fs : List AV} {v : AV} (hi : eI en = .getfield i) (hx : eX en = 5) (hv : fs[eY en]? = some v) (hk : 5 < k) (kk : WP M d (eN en) ls (v :: st) (EH P FI A k s (.inl (5, fs)) o co) Q) : WP M d ip ls (vr 5 :: st) (EH P FI A k s (.inl (5, fs)) o co) Q :=
  WP_getf he hi (by rw [hx]; exact EH_5) hk hv kk
theorem WE_geto {M : Mth} {d ip : Nat} {ls : LV} {st : List AV} {Q : Option AV → Hp → Prop} {P : PP} {FI A : Nat → Nat → Int} {k s o : Nat} {c5 : AC} {en : Ent} (he : (mT M)[ip]? = some en) {i ci : Nat} {fs : List AV} {v : AV} (hi : eI en = .getfield i) (hx : eX en = ci) (hv : fs[eY en]? = some v) (ho : o < k) (ho5 : 5 < o) (kk : WP M d (eN en) ls (v :: st) (EH P FI A k s c5 o (.inl (ci, fs))) Q) : WP M d ip ls (vr o :: st) (EH P FI A k s c5 o (.inl (ci, fs))) Q :=
  WP_getf he hi (by rw [hx]; exact EH_o (by omega)) ho hv kk
theorem WE_aald {M : Mth} {d ip : Nat} {ls : LV} {st : List AV} {Q : Option AV → Hp → Prop} {P : PP} {FI A : Nat → Nat → Int} {k s o : Nat} {c5 co : AC} {en : Ent} (he : (mT M)[ip]? = some en) {a n j : Nat} {i : Int} (hi : eI en = .aaload) (hA : kd a = 3) (hr : rL a = n) (ha : a < k) (h5 : a ≠ 5) (ho : a ≠ o) (hj : i = (j : Int)) (h1 : j < n) (kk : WP M d (eN en) ls (vr (a + 1 + j) :: st) (EH P FI A k s c5 o co) Q) : WP M d ip ls (vi i :: vr a :: st) (EH P FI A k s c5 o co) Q := by
  subst hj
  exact WP_aald he hi ((EH_a h5 ho).trans ((cc2_ref hA).trans (by rw [hr]))) ha (by omega) (by omega) kk
theorem WE_alen {M : Mth} {d ip : Nat} {ls : LV} {st : List AV} {Q : Option AV → Hp → Prop} {P : PP} {FI A : Nat → Nat → Int} {k s o : Nat} {c5 co : AC} {en : Ent} (he : (mT M)[ip]? = some en) {a n : Nat} (hi : eI en = .arraylength) (hA : isIA P X0 a n) (ha : a < k) (h5 : a ≠ 5) (ho : a ≠ o) (kk : WP M d (eN en) ls (vi (n : Int) :: st) (EH P FI A k s c5 o co) Q) : WP M d ip ls (vr a :: st) (EH P FI A k s c5 o co) Q :=
  WP_alen he hi ((EH_a h5 ho).trans (cc2_int hA)) ha kk
theorem WE_iast {M : Mth} {d ip : Nat} {ls : LV} {st : List AV} {Q : Option AV → Hp → Prop} {P : PP} {FI A : Nat → Nat → Int} {k s o : Nat} {c5 co : AC} {en : Ent} (he : (mT M)[ip]? = some en) {a n j : Nat} {i x : Int} (hi : eI en = .iastore) (hA : isIA P X0 a n) (ha : a < k) (ha5 : 5 < a) (ho : a ≠ o) (hj : i = (j : Int)) (h1 : j < n) (kk : WP M d (eN en) ls st (EH P FI (up2 A a j x) k s c5 o co) Q) : WP M d ip ls (vi x :: vi i :: vr a :: st) (EH P FI A k s c5 o co) Q := by
  subst hj
  refine WP_iast he hi ((EH_a (by omega) ho).trans (cc2_int hA)) ha (by omega) (by omega) (by omega) ?_
  rw [EH_setA (A' := up2 A a j x) (by omega) ho (by omega) hA (fun q => ?_) (fun b q hb => up2_ne (Or.inl hb))]
  · exact kk
  · by_cases e : q = j
    · rw [if_pos (by omega), e, up2_same]
    · rw [if_neg (by omega), up2_ne (Or.inr e), cont_own (by omega)]
theorem WE_copy {M : Mth} {d ip : Nat} {ls : LV} {st : List AV} {Q : Option AV → Hp → Prop} {P : PP} {FI A : Nat → Nat → Int} {k s o : Nat} {c5 co : AC} {en : Ent} (he : (mT M)[ip]? = some en) {i a b n0 n1 N : Nat} {z : Int} (hi : eI en = .invokestatic i) (hw : (eW en == 99999) = false) (hny : (eY en == 1) = false) (hy : NM[eX en]? = some arraycopyName) (hs8 : (st.map ac).sum ≤ 8) (hA : isIA P X0 a n0) (hB : isIA P X0 b n1) (ha : a < 5) (hb5 : 5 < b) (hbk : b < k) (ho5 : 5 ≤ o) (hob : b ≠ o) (hz : z = (N : Int)) (hN0 : N ≤ n0) (hN1 : N ≤ n1) (kk : WP M (d + 1) (eN en) ls st (EH P FI (fun x j => if x = b ∧ j < N then st5 P a j else A x j) k s c5 o co) Q) : WP M (d + 1) ip ls (vi z :: vi 0 :: vr b :: vi 0 :: vr a :: st) (EH P FI A k s c5 o co) Q := by
  subst hz
  refine WP_copy he hi hw hny hy hs8 ((EH_a (by omega) (by omega)).trans (cc2_int hA)) (by show a < k; omega) ((EH_a (by omega) hob).trans (cc2_int hB)) hbk (by omega) (by omega) (by omega) (by omega) (by omega) (by omega) (fun j _ => ⟨_, rfl⟩) ?_
  rw [EH_setA (A' := fun x j => if x = b ∧ j < N then st5 P a j else A x j) (by omega) hob (by omega) hB (fun q => ?_) (fun x q hx => if_neg (fun w => hx w.1))]
  · exact kk
  · by_cases e : q < N
    · rw [if_pos (by omega), if_pos ⟨rfl, e⟩]
      unfold cont
      rw [show Nat.blt a 5 = true from by rw [Nat.blt_eq]; exact ha, show (0 : Int).toNat + (q - (0 : Int).toNat) = q by omega]
      rfl
    · rw [if_neg (by omega), if_neg (fun w => e w.2), cont_own (by omega)]

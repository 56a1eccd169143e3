/-! calls: a method's run from its entry is a contract of the kit; a call is a run of the callee, then the rest -/
def argl : List AV → LV
  | [] => []
  | v :: r => match ac v with
    | 2 => some v :: none :: argl r
    | _ => some v :: argl r
def ent (M : Mth) (as : List AV) : LV := argl as ++ List.replicate (mL M - (argl as).length) none
theorem argl_at (f : Nat → Nat) : ∀ (as : List AV) (i0 k : Nat) (v : AV), (argl as)[k]? = some (some v) → (i0 + k, cv f v) ∈ lv_args i0 (as.map (cv f))
  | [], i0, k, v, h => by simp [argl] at h
  | w :: r, i0, k, v, h => by
    rw [List.map_cons]
    unfold lv_args
    rw [cv_cat]
    unfold argl at h
    split at h
    · rename_i e
      rw [if_pos e]
      match k, h with
      | 0, h => simp at h; subst h; exact List.mem_cons_self
      | 1, h => simp at h
      | k + 2, h =>
        have h1 : (argl r)[k]? = some (some v) := by simpa using h
        have := argl_at f r (i0 + 2) k v h1
        rw [show i0 + (k + 2) = i0 + 2 + k by omega]
        exact List.mem_cons_of_mem _ this
    · rename_i e
      have e2 : ¬ ac w = 2 := fun q => e q
      rw [if_neg e2]
      match k, h with
      | 0, h => simp at h; subst h; exact List.mem_cons_self
      | k + 1, h =>
        have h1 : (argl r)[k]? = some (some v) := by simpa using h
        have := argl_at f r (i0 + 1) k v h1
        rw [show i0 + (k + 1) = i0 + 1 + k by omega]
        exact List.mem_cons_of_mem _ this
theorem argl_len (f : Nat → Nat) : ∀ (as : List AV), (lg_sl (as.map (cv f))).length = (argl as).length
  | [] => rfl
  | w :: r => by
    have ih := argl_len f r
    have e1 : (lg_sl ((w :: r).map (cv f))).length = (if ac w = 2 then 2 else 1) + (lg_sl (r.map (cv f))).length := by
      unfold lg_sl
      rw [List.map_cons, List.flatMap_cons, List.length_append, cv_cat]
      split <;> rfl
    have e2 : (argl (w :: r)).length = (if ac w = 2 then 2 else 1) + (argl r).length := by
      show (match ac w with
        | 2 => some w :: none :: argl r
        | _ => some w :: argl r).length = _
      split
      · rename_i e
        rw [if_pos e]; simp; omega
      · rename_i e
        rw [if_neg (fun q => e q)]; simp; omega
    rw [e1, e2, ih]
theorem ent_lvR (f : Nat → Nat) (M : Mth) (as : List AV) (hlen : (argl as).length ≤ mL M) : lvR f ((lg_sl (as.map (cv f)) ++ List.replicate (mL M - (lg_sl (as.map (cv f))).length) Slot.unset).toArray) (mL M) (ent M as) := by
  have h := lv_entry (as.map (cv f)) (n := mL M) (by rw [argl_len]; exact hlen)
  refine ⟨h.1, h.2.1, fun k v hk => ?_⟩
  unfold ent at hk
  by_cases hk2 : k < (argl as).length
  · rw [List.getElem?_append_left hk2] at hk
    have := h.2.2 _ (argl_at f as 0 k v hk)
    simpa using this
  · rw [List.getElem?_append_right (by omega), List.getElem?_replicate] at hk
    split at hk <;> cases hk
def okC (M : Mth) : Bool := decide (lw_tbl[mK M 0]? = some (.code (mY M) (mC M) (mL M) (mR M))) && decide (lw_tbl[mK M 1]? = some (.initialized (mY M).cls)) && decide ((mY M).cls ≠ "java/lang/invoke/MethodHandle") && decide ((mY M).cls ≠ "java/lang/invoke/VarHandle") && plainName (mY M).cls && decide (mL M ≤ 41) && decide (bp M 0 = 0)
def okV (M : Mth) : Bool := decide (lw_tbl[mK M 2]? = some (.instanceMethod (mY M))) && decide (lw_tbl[mK M 3]? = some (.selects (mY M).cls (mY M) (mY M)))
def okS (M : Mth) : Bool := decide (lw_tbl[mK M 4]? = some (.static (mY M)))
def okI (M : Mth) : Bool := decide (lw_tbl[mK M 2]? = some (.instanceMethod (mY M))) && decide ((mY M).name = "<init>") && decide (mR M = none)
def nar (M : Mth) : Nat := match parseMethodDescriptor (mY M).desc with
  | some d => d.parameters.length
  | none => 0
def OKV (M : Mth) (n : Nat) : Prop := MOK M ∧ okC M = true ∧ okV M = true ∧ (parseMethodDescriptor (mY M).desc).map (fun d => d.parameters.length) = some n
def OKS (M : Mth) (n : Nat) : Prop := MOK M ∧ okC M = true ∧ okS M = true ∧ (parseMethodDescriptor (mY M).desc).map (fun d => d.parameters.length) = some n
def OKI (M : Mth) (n : Nat) : Prop := MOK M ∧ okC M = true ∧ okI M = true ∧ (parseMethodDescriptor (mY M).desc).map (fun d => d.parameters.length) = some n
def Pc9 (U0 : State) (D : va_G) (pre : Nat → Nat) (as : List AV) (h : Hp) : Array Value → State → Prop := fun vs U => vs = (as.map (cv (sg U0 pre))).toArray ∧ Rel U0 D pre h U.heap ∧ U0.WarmedH U.vm
def Qc9 (U0 : State) (D : va_G) (pre : Nat → Nat) (v : Option AV) (h' : Hp) : Array Value → State → Outcome → State → Prop := fun _ _ o t => o = .returned (v.map (cv (sg U0 pre))) ∧ Rel U0 D pre h' t.heap
theorem J_Met {M : Mth} (hM : MOK M) (hC : okC M = true) {d : Nat} {as : List AV} (hlen : (argl as).length ≤ mL M) {h h' : Hp} {v : Option AV} (k : J M d 0 (ent M as) [] h v h') (l : Launch) {U0 : State} {a0 : Array Value} {D : va_G} {pre : Nat → Nat} (hG : GF U0 a0 D pre) :
    Met l (mY M) [.code (mY M) (mC M) (mL M) (mR M)] { frames := d, cells := h'.1 - h.1, slots := h'.2.1 - h.2.1, locals := 60 * d } (Pc9 U0 D pre as h) (Qc9 U0 D pre v h') (h'.1 - h.1) (h'.2.1 - h.2.1) (fun q => U0.heap.size ≤ q) := by
  unfold okC at hC
  simp only [Bool.and_eq_true, decide_eq_true_eq] at hC
  obtain ⟨⟨⟨⟨⟨⟨c1, c2⟩, c3⟩, c4⟩, c5⟩, c6⟩, c7⟩ := hC
  refine Met.ofW (cc := mC M) (maxL := mL M) (ret := mR M) c5 rfl ?_
  intro p e s m args below meth c s₁ B hml hv
  obtain ⟨rfl, hR, hW⟩ := hv
  have cx : CX M d p l e (headSpec [.code (mY M) (mC M) (mL M) (mR M)] { frames := d, cells := h'.1 - h.1, slots := h'.2.1 - h.2.1, locals := 60 * d }).room s m ((as.map (cv (sg U0 pre))).toArray) below meth c U0 a0 D pre :=
    ⟨hG, B.exec, B.bytes, hml, B.returns, B.notSynchronized, (name_of_methodNamed B.named B.method).1, findClass_of_methodNamed B.named, hW, Nat.le_refl _, Nat.le_refl _, hM⟩
  rw [lg_entry_eq]
  have k9 := k.2.2 p l e _ s m _ below meth c U0 a0 D pre cx s.heap [] h.1 h.2.1 (MQ below (Qc9 U0 D pre v h') ((as.map (cv (sg U0 pre))).toArray) s (h'.1 - h.1) (h'.2.1 - h.2.1) (fun q => U0.heap.size ≤ q)) _ hR (fun q hq => by cases hq) (Nat.le_refl _) (Nat.le_refl _) (ent_lvR (sg U0 pre) M as hlen) (Nat.le_refl _) (Nat.le_refl _) (fun H1 locs1 pc1 LS1 hR1 hlo1 hrt => ?_)
  · rw [c7, Nat.sub_self, Nat.sub_self] at k9
    exact k9
  · have hx := B.exec
    have hb := B.bytes
    have hr := B.returns
    have hlocks := B.notSynchronized
    rcases v with - | (x | x | (- | x))
    · obtain ⟨r1, r2⟩ := hrt
      exact W.vret hx hb (hr.trans r2) (fun t ht _ => ⟨rfl, by rw [ht]; exact hR1⟩) hlo1 r1
    · obtain ⟨r1, r2 | ⟨r2, r3⟩⟩ := hrt
      · exact W.iret hx hb (hr.trans r2) (fun t ht _ => ⟨rfl, by rw [ht]; exact hR1⟩) hlo1 r1
      · exact W.zret (ty := .boolean) hx hb (hr.trans r2) (fok_n (sg U0 pre) (ty := .boolean) (v := vi x) r3).1 (fun t ht _ => ⟨rfl, by rw [ht]; exact hR1⟩) hlo1 r1
    · obtain ⟨r1, r2⟩ := hrt
      exact W.lret hx hb (hr.trans r2) (fun t ht _ => ⟨rfl, by rw [ht]; exact hR1⟩) hlo1 r1
    · exact hrt.elim
    · obtain ⟨r1, t9, r2⟩ := hrt
      exact W.aret hx hb (hr.trans r2) (Or.inr ⟨t9, rfl⟩) (Or.inr ⟨_, rfl⟩) (fun t ht _ => ⟨rfl, by rw [ht]; exact hR1⟩) hlo1 r1
theorem Pc9_blind (U0 : State) (D : va_G) (pre : Nat → Nat) (as : List AV) (h : Hp) : FrameBlind (Pc9 U0 D pre as h) := fun a U g mk q => ⟨q.1, q.2.1, q.2.2⟩
theorem W_run {p : Program} {l : Launch} {e : Env} {R : Room} {s : State} {m : MethodId} {args : Array Value} {below : List Frame} {meth : Method} {c : Code} {H : Heap} {locs : List Loc} {cells slots mc ms : Nat} {Q : State → Prop} {pc : Nat} {LS : Array Slot} {st0 rest : List Value} {U0 : State} {D : va_G} {pre : Nat → Nat} {v : Option AV} {h' : Hp} {ar : Array Value}
    (hr : va_Run p l e R s m args below meth c H locs cells slots mc ms (F0 m pc LS st0) rest (Qc9 U0 D pre v h' ar) (fun q => U0.heap.size ≤ q))
    (kk : ∀ (H1 : Heap) (L : List Loc), Rel U0 D pre h' H1 → (∀ q ∈ L, U0.heap.size ≤ q.base) → W p l e R s m args below meth c H1 (locs ++ L) (cells + mc) (slots + ms) Q (F0 m (pc + 3) LS ((v.map (cv (sg U0 pre))).toList ++ rest))) : W p l e R s m args below meth c H locs cells slots Q (F0 m pc LS st0) := by
  intro T hT X
  obtain ⟨v1, st₀, t, T', L, h0, X', hL, e1, e2, ⟨hv, hrel⟩, st⟩ := hr T hT X
  cases hv
  obtain ⟨t2, a1, b1⟩ := kk T'.heap L (by rw [e1]; exact hrel) hL T' rfl X'
  exact ⟨t2, st t2 a1, b1⟩
def pushR : Option AV → List AV → List AV
  | none, st => st
  | some v, st => v :: st
theorem pushR_map (f : Nat → Nat) (v : Option AV) (st : List AV) : (pushR v st).map (cv f) = (v.map (cv f)).toList ++ st.map (cv f) := by cases v <;> rfl
theorem acs (f : Nat → Nat) (st : List AV) : ((st.map (cv f)).map fun v => v.category).sum = (st.map ac).sum := by
  rw [List.map_map]
  congr 1
  apply List.map_congr_left
  intro v _
  exact cv_cat f v
theorem WP_callV {M M' : Mth} {d ip : Nat} {ls : LV} {stk st : List AV} {h : Hp} {Q : Option AV → Hp → Prop} {en : Ent} (n : Nat) (hok' : OKV M' n) (he : (mT M)[ip]? = some en) {i : Nat} (hi : eI en = .invokevirtual i) (hw : (eW en == 99999) = false) (hy : NM[eX en]? = some (mY M')) (hnl : (stk.take n).length = n) {a : Nat} (hst : stk = (stk.take n) ++ vr a :: st) (hs8 : (st.map ac).sum ≤ 8) (hlenA : (argl (vr a :: (stk.take n).reverse)).length ≤ mL M') {ci : Nat} {fs : List AV} (hc : h.2.2 a = .inl (ci, fs)) (ha : a < h.1) (hcl : ((vwCl[ci]?).getD ("", TX0, 0)).1 = (mY M').cls) (k : WP M' d 0 (ent M' (vr a :: (stk.take n).reverse)) [] h (fun v1 h1 => WP M (d + 1) (eN en) ls (pushR v1 st) h1 Q)) : WP M (d + 1) ip ls stk h Q := by
  obtain ⟨v1, h1, kJ, ⟨v, h', ⟨a2, b2, k⟩, hq⟩⟩ := k
  have a1 := kJ.1
  have b1 := kJ.2.1
  refine ⟨v, h', ⟨by omega, by omega, fun p l e R s m args below meth c U0 a0 D pre cx H locs n0 s0 Qf LS hR hlo9 hn hs hl hc1 hc2 hret => ?_⟩, hq⟩
  have cx0 := cx
  have hG := cx.1
  obtain ⟨⟨hg, hK, hpre, hZ⟩, hx, hb, hml, hr, hlk, hnm, hown, hW, hfr, hlo, hok⟩ := cx
  obtain ⟨hbp, hd, hlen, hnx, hxx⟩ := hok.at he
  unfold okX at hxx
  rw [hi] at hd hlen hnx hxx
  have hlen := hlen rfl
  have hnx := hnx rfl
  rw [hlen] at hd hnx
  rw [hbp]
  have hal := hW.alike
  dsimp only at hxx
  rw [hw, hy, Bool.false_or] at hxx
  have hxx := of_decide_eq_true hxx
  obtain ⟨hM', hC', hV', hn'⟩ := hok'
  have hMet := J_Met hM' hC' hlenA kJ l hG
  have hC2 := hC'
  unfold okC at hC2
  simp only [Bool.and_eq_true, decide_eq_true_eq] at hC2
  obtain ⟨⟨⟨⟨⟨⟨c1, c2⟩, c3⟩, c4⟩, c5⟩, c6⟩, c7⟩ := hC2
  unfold okV at hV'
  simp only [Bool.and_eq_true, decide_eq_true_eq] at hV'
  have hsig : ∀ sig, parseMethodDescriptor (mY M').desc = some sig → n = sig.parameters.length := fun sig hs9 => by
    rw [hs9] at hn'
    exact (Option.some.inj hn').symm
  have hws : ∀ w ∈ [Cond.code (mY M') (mC M') (mL M') (mR M')], ∀ (a' : Array Value) (U : State), s.WarmedH U.vm → w.before a' U = true := fun w hw9 a' U hWU => by
    rw [List.mem_singleton.mp hw9]
    exact wd hg (State.WarmedH.trans hW hWU) c1 rfl
  have hroom : ({ frames := d, cells := h1.1 - h.1, slots := h1.2.1 - h.2.1, locals := 60 * d } : Room).frames + 1 ≤ R.frames ∧ 8 + (mL M' + 11) + ({ frames := d, cells := h1.1 - h.1, slots := h1.2.1 - h.2.1, locals := 60 * d } : Room).locals ≤ R.locals := ⟨by show d + 1 ≤ R.frames; omega, by show 8 + (mL M' + 11) + 60 * d ≤ R.locals; omega⟩
  have estk : stk.map (cv (sg U0 pre)) = (((stk.take n).reverse).map (cv (sg U0 pre))).reverse ++ Value.ref (sg U0 pre a) :: st.map (cv (sg U0 pre)) := by
    rw [List.map_reverse, List.reverse_reverse]
    conv => lhs; rw [hst]
    rw [List.map_append]
    rfl
  rw [estk]
  have hca := hR.2.2.2 a ha
  rw [hc] at hca
  obtain ⟨r, hr1, hr2, cell, q1, q2, q3, q4⟩ := hca
  have hKs := va_K.moved hal hK
  obtain ⟨hS, hfc, kC, hkC, hkind⟩ := hKs.1 _ _ hr1
  rw [hr1] at hcl
  have hcl : r.1 = (mY M').cls := hcl
  refine W_run (va_runV (Ts := []) (As := ((stk.take n).reverse).map (cv (sg U0 pre))) (rest := st.map (cv (sg U0 pre))) (C := (mY M').cls) ⟨hx, hb, hml, hown, fun w hw9 => by cases hw9⟩ hMet ⟨⟨rfl, rfl, hroom.1, hroom.2, hws, List.mem_singleton.mpr rfl, wd hg hW c1 rfl, wd hg hW c2 rfl, ⟨c3, c4⟩, hsig, wd hg hW hxx rfl⟩, wd hg hW hV'.1 rfl, wd hg hW hV'.2 rfl⟩ ⟨Pc9_blind _ _ _ _ _, ⟨cell, q1, by rw [q3]; rfl, by rw [← hcl, q2]; exact hfc⟩, (fun U hU hWU => ⟨rfl, by rw [hU]; exact hR, State.WarmedH.trans hW hWU⟩)⟩ rfl (by rw [List.length_map, List.length_reverse]; exact hnl) hl.1 rfl (lv_room (by rw [acs]; exact hs8)) hd ⟨by omega, by omega⟩) (fun H1 L hR1 hL => ?_)
  have k9 := k p l e R s m args below meth c U0 a0 D pre cx0 H1 (locs ++ L) n0 s0 Qf LS hR1 (fun q hq => (List.mem_append.mp hq).elim (hlo9 q) (hL q)) (by omega) (by omega) hl hc1 hc2 hret
  rw [hnx, pushR_map] at k9
  have e5 : h1.1 - n0 = h.1 - n0 + (h1.1 - h.1) := by omega
  have e6 : h1.2.1 - s0 = h.2.1 - s0 + (h1.2.1 - h.2.1) := by omega
  rw [e5, e6] at k9
  exact k9
theorem WP_callI {M M' : Mth} {d ip : Nat} {ls : LV} {stk st : List AV} {h : Hp} {Q : Option AV → Hp → Prop} {en : Ent} (n : Nat) (hok' : OKI M' n) (he : (mT M)[ip]? = some en) {i : Nat} (hi : eI en = .invokespecial i) (hw : (eW en == 99999) = false) (hy : NM[eX en]? = some (mY M')) (hnl : (stk.take n).length = n) {a : Nat} (hst : stk = (stk.take n) ++ vr a :: st) (hs8 : (st.map ac).sum ≤ 8) (hlenA : (argl (vr a :: (stk.take n).reverse)).length ≤ mL M') (k : WP M' d 0 (ent M' (vr a :: (stk.take n).reverse)) [] h (fun v1 h1 => WP M (d + 1) (eN en) ls (pushR v1 st) h1 Q)) : WP M (d + 1) ip ls stk h Q := by
  obtain ⟨v1, h1, kJ, ⟨v, h', ⟨a2, b2, k⟩, hq⟩⟩ := k
  have a1 := kJ.1
  have b1 := kJ.2.1
  refine ⟨v, h', ⟨by omega, by omega, fun p l e R s m args below meth c U0 a0 D pre cx H locs n0 s0 Qf LS hR hlo9 hn hs hl hc1 hc2 hret => ?_⟩, hq⟩
  have cx0 := cx
  have hG := cx.1
  obtain ⟨⟨hg, hK, hpre, hZ⟩, hx, hb, hml, hr, hlk, hnm, hown, hW, hfr, hlo, hok⟩ := cx
  obtain ⟨hbp, hd, hlen, hnx, hxx⟩ := hok.at he
  unfold okX at hxx
  rw [hi] at hd hlen hnx hxx
  have hlen := hlen rfl
  have hnx := hnx rfl
  rw [hlen] at hd hnx
  rw [hbp]
  have hal := hW.alike
  dsimp only at hxx
  rw [hw, hy, Bool.false_or] at hxx
  have hxx := of_decide_eq_true hxx
  obtain ⟨hM', hC', hV', hn'⟩ := hok'
  have hMet := J_Met hM' hC' hlenA kJ l hG
  have hC2 := hC'
  unfold okC at hC2
  simp only [Bool.and_eq_true, decide_eq_true_eq] at hC2
  obtain ⟨⟨⟨⟨⟨⟨c1, c2⟩, c3⟩, c4⟩, c5⟩, c6⟩, c7⟩ := hC2
  unfold okI at hV'
  simp only [Bool.and_eq_true, decide_eq_true_eq] at hV'
  have hsig : ∀ sig, parseMethodDescriptor (mY M').desc = some sig → n = sig.parameters.length := fun sig hs9 => by
    rw [hs9] at hn'
    exact (Option.some.inj hn').symm
  have hws : ∀ w ∈ [Cond.code (mY M') (mC M') (mL M') (mR M')], ∀ (a' : Array Value) (U : State), s.WarmedH U.vm → w.before a' U = true := fun w hw9 a' U hWU => by
    rw [List.mem_singleton.mp hw9]
    exact wd hg (State.WarmedH.trans hW hWU) c1 rfl
  have hroom : ({ frames := d, cells := h1.1 - h.1, slots := h1.2.1 - h.2.1, locals := 60 * d } : Room).frames + 1 ≤ R.frames ∧ 8 + (mL M' + 11) + ({ frames := d, cells := h1.1 - h.1, slots := h1.2.1 - h.2.1, locals := 60 * d } : Room).locals ≤ R.locals := ⟨by show d + 1 ≤ R.frames; omega, by show 8 + (mL M' + 11) + 60 * d ≤ R.locals; omega⟩
  have estk : stk.map (cv (sg U0 pre)) = (((stk.take n).reverse).map (cv (sg U0 pre))).reverse ++ Value.ref (sg U0 pre a) :: st.map (cv (sg U0 pre)) := by
    rw [List.map_reverse, List.reverse_reverse]
    conv => lhs; rw [hst]
    rw [List.map_append]
    rfl
  rw [estk]
  have hmr : mR M' = none := hV'.2
  rw [hmr] at hMet hws c1
  refine W_run (va_runI (Ts := []) (b := sg U0 pre a) (As := ((stk.take n).reverse).map (cv (sg U0 pre))) (rest := st.map (cv (sg U0 pre))) ⟨hx, hb, hml, hown, fun w hw9 => by cases hw9⟩ hMet ⟨⟨rfl, rfl, hroom.1, hroom.2, hws, List.mem_singleton.mpr rfl, wd hg hW c1 rfl, wd hg hW c2 rfl, ⟨c3, c4⟩, hsig, wd hg hW hxx rfl⟩, hV'.1.2, wd hg hW hV'.1.1 rfl⟩ ⟨Pc9_blind _ _ _ _ _, (fun U hU hWU => ⟨rfl, by rw [hU]; exact hR, State.WarmedH.trans hW hWU⟩)⟩ rfl (by rw [List.length_map, List.length_reverse]; exact hnl) hl.1 rfl (lv_room (by rw [acs]; exact hs8)) hd ⟨by omega, by omega⟩) (fun H1 L hR1 hL => ?_)
  have k9 := k p l e R s m args below meth c U0 a0 D pre cx0 H1 (locs ++ L) n0 s0 Qf LS hR1 (fun q hq => (List.mem_append.mp hq).elim (hlo9 q) (hL q)) (by omega) (by omega) hl hc1 hc2 hret
  rw [hnx, pushR_map] at k9
  have e5 : h1.1 - n0 = h.1 - n0 + (h1.1 - h.1) := by omega
  have e6 : h1.2.1 - s0 = h.2.1 - s0 + (h1.2.1 - h.2.1) := by omega
  rw [e5, e6] at k9
  exact k9
theorem WP_callS {M M' : Mth} {d ip : Nat} {ls : LV} {stk st : List AV} {h : Hp} {Q : Option AV → Hp → Prop} {en : Ent} (n : Nat) (hok' : OKS M' n) (he : (mT M)[ip]? = some en) {i : Nat} (hi : eI en = .invokestatic i) (hw : (eW en == 99999) = false) (hny : (eY en == 1) = false) (hy : NM[eX en]? = some (mY M')) (hnl : (stk.take n).length = n) (hst : stk = (stk.take n) ++ st) (hs8 : (st.map ac).sum ≤ 8) (hlenA : (argl ((stk.take n).reverse)).length ≤ mL M') (k : WP M' d 0 (ent M' ((stk.take n).reverse)) [] h (fun v1 h1 => WP M (d + 1) (eN en) ls (pushR v1 st) h1 Q)) : WP M (d + 1) ip ls stk h Q := by
  obtain ⟨v1, h1, kJ, ⟨v, h', ⟨a2, b2, k⟩, hq⟩⟩ := k
  have a1 := kJ.1
  have b1 := kJ.2.1
  refine ⟨v, h', ⟨by omega, by omega, fun p l e R s m args below meth c U0 a0 D pre cx H locs n0 s0 Qf LS hR hlo9 hn hs hl hc1 hc2 hret => ?_⟩, hq⟩
  have cx0 := cx
  have hG := cx.1
  obtain ⟨⟨hg, hK, hpre, hZ⟩, hx, hb, hml, hr, hlk, hnm, hown, hW, hfr, hlo, hok⟩ := cx
  obtain ⟨hbp, hd, hlen, hnx, hxx⟩ := hok.at he
  unfold okX at hxx
  rw [hi] at hd hlen hnx hxx
  have hlen := hlen rfl
  have hnx := hnx rfl
  rw [hlen] at hd hnx
  rw [hbp]
  have hal := hW.alike
  dsimp only at hxx
  rw [hw, hy, hny, Bool.false_or] at hxx
  have hxx := of_decide_eq_true hxx
  obtain ⟨hM', hC', hV', hn'⟩ := hok'
  have hMet := J_Met hM' hC' hlenA kJ l hG
  have hC2 := hC'
  unfold okC at hC2
  simp only [Bool.and_eq_true, decide_eq_true_eq] at hC2
  obtain ⟨⟨⟨⟨⟨⟨c1, c2⟩, c3⟩, c4⟩, c5⟩, c6⟩, c7⟩ := hC2
  unfold okS at hV'
  simp only [Bool.and_eq_true, decide_eq_true_eq] at hV'
  have hsig : ∀ sig, parseMethodDescriptor (mY M').desc = some sig → n = sig.parameters.length := fun sig hs9 => by
    rw [hs9] at hn'
    exact (Option.some.inj hn').symm
  have hws : ∀ w ∈ [Cond.code (mY M') (mC M') (mL M') (mR M')], ∀ (a' : Array Value) (U : State), s.WarmedH U.vm → w.before a' U = true := fun w hw9 a' U hWU => by
    rw [List.mem_singleton.mp hw9]
    exact wd hg (State.WarmedH.trans hW hWU) c1 rfl
  have hroom : ({ frames := d, cells := h1.1 - h.1, slots := h1.2.1 - h.2.1, locals := 60 * d } : Room).frames + 1 ≤ R.frames ∧ 8 + (mL M' + 11) + ({ frames := d, cells := h1.1 - h.1, slots := h1.2.1 - h.2.1, locals := 60 * d } : Room).locals ≤ R.locals := ⟨by show d + 1 ≤ R.frames; omega, by show 8 + (mL M' + 11) + 60 * d ≤ R.locals; omega⟩
  have estk : stk.map (cv (sg U0 pre)) = (((stk.take n).reverse).map (cv (sg U0 pre))).reverse ++ st.map (cv (sg U0 pre)) := by
    rw [List.map_reverse, List.reverse_reverse]
    conv => lhs; rw [hst]
    rw [List.map_append]
  rw [estk]
  refine W_run (va_runS (Ts := []) (As := ((stk.take n).reverse).map (cv (sg U0 pre))) (rest := st.map (cv (sg U0 pre))) ⟨hx, hb, hml, hown, fun w hw9 => by cases hw9⟩ hMet ⟨⟨rfl, rfl, hroom.1, hroom.2, hws, List.mem_singleton.mpr rfl, wd hg hW c1 rfl, wd hg hW c2 rfl, ⟨c3, c4⟩, hsig, wd hg hW hxx rfl⟩, wd hg hW hV' rfl⟩ ⟨Pc9_blind _ _ _ _ _, (fun U hU hWU => ⟨rfl, by rw [hU]; exact hR, State.WarmedH.trans hW hWU⟩)⟩ rfl (by rw [List.length_map, List.length_reverse]; exact hnl) hl.1 rfl (lv_room (by rw [acs]; exact hs8)) hd ⟨by omega, by omega⟩) (fun H1 L hR1 hL => ?_)
  have k9 := k p l e R s m args below meth c U0 a0 D pre cx0 H1 (locs ++ L) n0 s0 Qf LS hR1 (fun q hq => (List.mem_append.mp hq).elim (hlo9 q) (hL q)) (by omega) (by omega) hl hc1 hc2 hret
  rw [hnx, pushR_map] at k9
  have e5 : h1.1 - n0 = h.1 - n0 + (h1.1 - h.1) := by omega
  have e6 : h1.2.1 - s0 = h.2.1 - s0 + (h1.2.1 - h.2.1) := by omega
  rw [e5, e6] at k9
  exact k9
theorem WP_callN {M M' : Mth} {d ip : Nat} {ls : LV} {stk st : List AV} {h : Hp} {Q : Option AV → Hp → Prop} {en : Ent} (n : Nat) (hok' : OKS M' n) (he : (mT M)[ip]? = some en) {i : Nat} (hi : eI en = .invokestatic i) (hw : (eW en == 99999) = false) (hny : (eY en == 1) = true) (hy : NM[eX en]? = some (mY M')) (hnl : (stk.take n).length = n) (hst : stk = (stk.take n) ++ st) (hs8 : (st.map ac).sum ≤ 8) (hlenA : (argl ((stk.take n).reverse)).length ≤ mL M') (k : WP M' d 0 (ent M' ((stk.take n).reverse)) [] h (fun v1 h1 => WP M (d + 1) (eN en) ls (pushR v1 st) h1 Q)) : WP M (d + 1) ip ls stk h Q := by
  obtain ⟨v1, h1, kJ, ⟨v, h', ⟨a2, b2, k⟩, hq⟩⟩ := k
  have a1 := kJ.1
  have b1 := kJ.2.1
  refine ⟨v, h', ⟨by omega, by omega, fun p l e R s m args below meth c U0 a0 D pre cx H locs n0 s0 Qf LS hR hlo9 hn hs hl hc1 hc2 hret => ?_⟩, hq⟩
  have cx0 := cx
  have hG := cx.1
  obtain ⟨⟨hg, hK, hpre, hZ⟩, hx, hb, hml, hr, hlk, hnm, hown, hW, hfr, hlo, hok⟩ := cx
  obtain ⟨hbp, hd, hlen, hnx, hxx⟩ := hok.at he
  unfold okX at hxx
  rw [hi] at hd hlen hnx hxx
  have hlen := hlen rfl
  have hnx := hnx rfl
  rw [hlen] at hd hnx
  rw [hbp]
  have hal := hW.alike
  dsimp only at hxx
  rw [hw, hy, hny, Bool.false_or] at hxx
  have hxx := of_decide_eq_true hxx
  obtain ⟨hM', hC', hV', hn'⟩ := hok'
  have hMet := J_Met hM' hC' hlenA kJ l hG
  have hC2 := hC'
  unfold okC at hC2
  simp only [Bool.and_eq_true, decide_eq_true_eq] at hC2
  obtain ⟨⟨⟨⟨⟨⟨c1, c2⟩, c3⟩, c4⟩, c5⟩, c6⟩, c7⟩ := hC2
  unfold okS at hV'
  simp only [Bool.and_eq_true, decide_eq_true_eq] at hV'
  have hsig : ∀ sig, parseMethodDescriptor (mY M').desc = some sig → n = sig.parameters.length := fun sig hs9 => by
    rw [hs9] at hn'
    exact (Option.some.inj hn').symm
  have hws : ∀ w ∈ [Cond.code (mY M') (mC M') (mL M') (mR M')], ∀ (a' : Array Value) (U : State), s.WarmedH U.vm → w.before a' U = true := fun w hw9 a' U hWU => by
    rw [List.mem_singleton.mp hw9]
    exact wd hg (State.WarmedH.trans hW hWU) c1 rfl
  have hroom : ({ frames := d, cells := h1.1 - h.1, slots := h1.2.1 - h.2.1, locals := 60 * d } : Room).frames + 1 ≤ R.frames ∧ 8 + (mL M' + 11) + ({ frames := d, cells := h1.1 - h.1, slots := h1.2.1 - h.2.1, locals := 60 * d } : Room).locals ≤ R.locals := ⟨by show d + 1 ≤ R.frames; omega, by show 8 + (mL M' + 11) + 60 * d ≤ R.locals; omega⟩
  have estk : stk.map (cv (sg U0 pre)) = (((stk.take n).reverse).map (cv (sg U0 pre))).reverse ++ st.map (cv (sg U0 pre)) := by
    rw [List.map_reverse, List.reverse_reverse]
    conv => lhs; rw [hst]
    rw [List.map_append]
  rw [estk]
  have hnw : va_Nw (.methodLinkNest (mY M).cls i (mY M') "FloorPlans") s := va_Nw.warmM hW (va_Nw.of rfl (hg _ (List.mem_of_getElem? hxx)))
  refine W_run (va_runSN (Ts := []) (As := ((stk.take n).reverse).map (cv (sg U0 pre))) (rest := st.map (cv (sg U0 pre))) (host := "FloorPlans") ⟨hx, hb, hml, hown, fun w hw9 => by cases hw9⟩ hMet ⟨⟨⟨rfl, rfl, hroom.1, hroom.2, hws, List.mem_singleton.mpr rfl⟩, wd hg hW c1 rfl, wd hg hW c2 rfl, ⟨c3, c4⟩, hsig, va_Nw.use rfl hnw⟩, wd hg hW hV' rfl, trivial⟩ ⟨Pc9_blind _ _ _ _ _, (fun U hU hWU => ⟨rfl, by rw [hU]; exact hR, State.WarmedH.trans hW hWU⟩)⟩ rfl (by rw [List.length_map, List.length_reverse]; exact hnl) hl.1 rfl (lv_room (by rw [acs]; exact hs8)) hd ⟨by omega, by omega⟩) (fun H1 L hR1 hL => ?_)
  have k9 := k p l e R s m args below meth c U0 a0 D pre cx0 H1 (locs ++ L) n0 s0 Qf LS hR1 (fun q hq => (List.mem_append.mp hq).elim (hlo9 q) (hL q)) (by omega) (by omega) hl hc1 hc2 hret
  rw [hnx, pushR_map] at k9
  have e5 : h1.1 - n0 = h.1 - n0 + (h1.1 - h.1) := by omega
  have e6 : h1.2.1 - s0 = h.2.1 - s0 + (h1.2.1 - h.2.1) := by omega
  rw [e5, e6] at k9
  exact k9

/-! instructions that touch neither heap nor course -/
theorem o_add (a b : Int) : Int32.ofInt a + Int32.ofInt b = Int32.ofInt (a + b) := (Int32.ofInt_add a b).symm
theorem o_sub (a b : Int) : Int32.ofInt a - Int32.ofInt b = Int32.ofInt (a - b) := (Int32.ofInt_sub a b).symm
theorem o_mul (a b : Int) : Int32.ofInt a * Int32.ofInt b = Int32.ofInt (a * b) := (Int32.ofInt_mul a b).symm
theorem o_neg (a : Int) : -Int32.ofInt a = Int32.ofInt (-a) := (Int32.ofInt_neg a).symm
theorem o_and (a b : Int) : Int32.ofInt a &&& Int32.ofInt b = Int32.ofInt (iAnd a b) := (Int32.ofInt_toInt _).symm
theorem o_or (a b : Int) : Int32.ofInt a ||| Int32.ofInt b = Int32.ofInt (iOr a b) := (Int32.ofInt_toInt _).symm
theorem o_xor (a b : Int) : Int32.ofInt a ^^^ Int32.ofInt b = Int32.ofInt (iXor a b) := (Int32.ofInt_toInt _).symm
theorem o_shl (a b : Int) : Int32.ofInt a <<< (Int32.ofInt b &&& 31) = Int32.ofInt (iShl a b) := (Int32.ofInt_toInt _).symm
theorem o_shr (a b : Int) : Int32.ofInt a >>> (Int32.ofInt b &&& 31) = Int32.ofInt (iShr a b) := (Int32.ofInt_toInt _).symm
theorem o_ush (a b : Int) : ((Int32.ofInt a).toUInt32 >>> ((Int32.ofInt b).toUInt32 &&& Int32.toUInt32 31)).toInt32 = Int32.ofInt (iUsh a b) := (Int32.ofInt_toInt _).symm
theorem q_add (a b : Int) : Int64.ofInt a + Int64.ofInt b = Int64.ofInt (a + b) := (Int64.ofInt_add a b).symm
theorem q_sub (a b : Int) : Int64.ofInt a - Int64.ofInt b = Int64.ofInt (a - b) := (Int64.ofInt_sub a b).symm
theorem q_mul (a b : Int) : Int64.ofInt a * Int64.ofInt b = Int64.ofInt (a * b) := (Int64.ofInt_mul a b).symm

theorem S_iconst {M : Mth} {d ip : Nat} {p : Program} {l : Launch} {e : Env} {R : Room} {s : State} {m : MethodId} {args : Array Value} {below : List Frame} {meth : Method} {c : Code} {U0 : State} {a0 : Array Value} {D : va_G} {pre : Nat → Nat} (cx : CX M d p l e R s m args below meth c U0 a0 D pre) {en : Ent} (he : (mT M)[ip]? = some en) {ls : LV} {st : List AV} {H : Heap} {locs : List Loc} {cells slots : Nat} {Qf : State → Prop} {LS : Array Slot} (hl : lvR (sg U0 pre) LS (mL M) ls) {n : Int} (hi : eI en = .iconst n) (k : ∀ LS' : Array Slot, lvR (sg U0 pre) LS' (mL M) (ls) → W p l e R s m args below meth c H locs cells slots Qf (F0 m (bp M (eN en)) LS' ((vi n :: st).map (cv (sg U0 pre))))) : W p l e R s m args below meth c H locs cells slots Qf (F0 m (bp M ip) LS ((st).map (cv (sg U0 pre)))) := by
  obtain ⟨⟨hg, hK, hpre, hZ⟩, hx, hb, hml, hr, hlk, hnm, hown, hW, hfr, hlo, hok⟩ := cx
  obtain ⟨hbp, hd, hlen, hnx, hxx⟩ := hok.at he
  unfold okX at hxx
  rw [hi] at hd hlen hnx hxx
  have hlen := hlen rfl
  have hnx := hnx rfl
  rw [hlen] at hd hnx
  rw [hbp]
  rw [hnx] at k
  exact lv_iconst hx hb hd rfl (k LS hl)
theorem S_bipush {M : Mth} {d ip : Nat} {p : Program} {l : Launch} {e : Env} {R : Room} {s : State} {m : MethodId} {args : Array Value} {below : List Frame} {meth : Method} {c : Code} {U0 : State} {a0 : Array Value} {D : va_G} {pre : Nat → Nat} (cx : CX M d p l e R s m args below meth c U0 a0 D pre) {en : Ent} (he : (mT M)[ip]? = some en) {ls : LV} {st : List AV} {H : Heap} {locs : List Loc} {cells slots : Nat} {Qf : State → Prop} {LS : Array Slot} (hl : lvR (sg U0 pre) LS (mL M) ls) {n : Int} (hi : eI en = .bipush n) (k : ∀ LS' : Array Slot, lvR (sg U0 pre) LS' (mL M) (ls) → W p l e R s m args below meth c H locs cells slots Qf (F0 m (bp M (eN en)) LS' ((vi n :: st).map (cv (sg U0 pre))))) : W p l e R s m args below meth c H locs cells slots Qf (F0 m (bp M ip) LS ((st).map (cv (sg U0 pre)))) := by
  obtain ⟨⟨hg, hK, hpre, hZ⟩, hx, hb, hml, hr, hlk, hnm, hown, hW, hfr, hlo, hok⟩ := cx
  obtain ⟨hbp, hd, hlen, hnx, hxx⟩ := hok.at he
  unfold okX at hxx
  rw [hi] at hd hlen hnx hxx
  have hlen := hlen rfl
  have hnx := hnx rfl
  rw [hlen] at hd hnx
  rw [hbp]
  rw [hnx] at k
  exact lv_bipush hx hb hd (of_decide_eq_true hxx) (k LS hl)
theorem S_sipush {M : Mth} {d ip : Nat} {p : Program} {l : Launch} {e : Env} {R : Room} {s : State} {m : MethodId} {args : Array Value} {below : List Frame} {meth : Method} {c : Code} {U0 : State} {a0 : Array Value} {D : va_G} {pre : Nat → Nat} (cx : CX M d p l e R s m args below meth c U0 a0 D pre) {en : Ent} (he : (mT M)[ip]? = some en) {ls : LV} {st : List AV} {H : Heap} {locs : List Loc} {cells slots : Nat} {Qf : State → Prop} {LS : Array Slot} (hl : lvR (sg U0 pre) LS (mL M) ls) {n : Int} (hi : eI en = .sipush n) (k : ∀ LS' : Array Slot, lvR (sg U0 pre) LS' (mL M) (ls) → W p l e R s m args below meth c H locs cells slots Qf (F0 m (bp M (eN en)) LS' ((vi n :: st).map (cv (sg U0 pre))))) : W p l e R s m args below meth c H locs cells slots Qf (F0 m (bp M ip) LS ((st).map (cv (sg U0 pre)))) := by
  obtain ⟨⟨hg, hK, hpre, hZ⟩, hx, hb, hml, hr, hlk, hnm, hown, hW, hfr, hlo, hok⟩ := cx
  obtain ⟨hbp, hd, hlen, hnx, hxx⟩ := hok.at he
  unfold okX at hxx
  rw [hi] at hd hlen hnx hxx
  have hlen := hlen rfl
  have hnx := hnx rfl
  rw [hlen] at hd hnx
  rw [hbp]
  rw [hnx] at k
  exact lv_sipush hx hb hd (of_decide_eq_true hxx) (k LS hl)
theorem S_lconst {M : Mth} {d ip : Nat} {p : Program} {l : Launch} {e : Env} {R : Room} {s : State} {m : MethodId} {args : Array Value} {below : List Frame} {meth : Method} {c : Code} {U0 : State} {a0 : Array Value} {D : va_G} {pre : Nat → Nat} (cx : CX M d p l e R s m args below meth c U0 a0 D pre) {en : Ent} (he : (mT M)[ip]? = some en) {ls : LV} {st : List AV} {H : Heap} {locs : List Loc} {cells slots : Nat} {Qf : State → Prop} {LS : Array Slot} (hl : lvR (sg U0 pre) LS (mL M) ls) {n : Fin 2} (hi : eI en = .lconst n) (k : ∀ LS' : Array Slot, lvR (sg U0 pre) LS' (mL M) (ls) → W p l e R s m args below meth c H locs cells slots Qf (F0 m (bp M (eN en)) LS' ((vl (n.val : Int) :: st).map (cv (sg U0 pre))))) : W p l e R s m args below meth c H locs cells slots Qf (F0 m (bp M ip) LS ((st).map (cv (sg U0 pre)))) := by
  obtain ⟨⟨hg, hK, hpre, hZ⟩, hx, hb, hml, hr, hlk, hnm, hown, hW, hfr, hlo, hok⟩ := cx
  obtain ⟨hbp, hd, hlen, hnx, hxx⟩ := hok.at he
  unfold okX at hxx
  rw [hi] at hd hlen hnx hxx
  have hlen := hlen rfl
  have hnx := hnx rfl
  rw [hlen] at hd hnx
  rw [hbp]
  rw [hnx] at k
  exact lv_lconst hx hb hd Int64.ofInt_eq_ofNat.symm (k LS hl)
theorem S_iload {M : Mth} {d ip : Nat} {p : Program} {l : Launch} {e : Env} {R : Room} {s : State} {m : MethodId} {args : Array Value} {below : List Frame} {meth : Method} {c : Code} {U0 : State} {a0 : Array Value} {D : va_G} {pre : Nat → Nat} (cx : CX M d p l e R s m args below meth c U0 a0 D pre) {en : Ent} (he : (mT M)[ip]? = some en) {ls : LV} {st : List AV} {H : Heap} {locs : List Loc} {cells slots : Nat} {Qf : State → Prop} {LS : Array Slot} (hl : lvR (sg U0 pre) LS (mL M) ls) {k0 : Nat} {x : Int} (hv : ls[k0]? = some (some (vi x))) (hi : eI en = .iload k0) (k : ∀ LS' : Array Slot, lvR (sg U0 pre) LS' (mL M) (ls) → W p l e R s m args below meth c H locs cells slots Qf (F0 m (bp M (eN en)) LS' ((vi x :: st).map (cv (sg U0 pre))))) : W p l e R s m args below meth c H locs cells slots Qf (F0 m (bp M ip) LS ((st).map (cv (sg U0 pre)))) := by
  obtain ⟨⟨hg, hK, hpre, hZ⟩, hx, hb, hml, hr, hlk, hnm, hown, hW, hfr, hlo, hok⟩ := cx
  obtain ⟨hbp, hd, hlen, hnx, hxx⟩ := hok.at he
  unfold okX at hxx
  rw [hi] at hd hlen hnx hxx
  have hlen := hlen rfl
  have hnx := hnx rfl
  rw [hlen] at hd hnx
  rw [hbp]
  rw [hnx] at k
  exact lv_iload hx hb hd (hl.2.2 k0 _ hv) (k LS hl)
theorem S_iload_n {M : Mth} {d ip : Nat} {p : Program} {l : Launch} {e : Env} {R : Room} {s : State} {m : MethodId} {args : Array Value} {below : List Frame} {meth : Method} {c : Code} {U0 : State} {a0 : Array Value} {D : va_G} {pre : Nat → Nat} (cx : CX M d p l e R s m args below meth c U0 a0 D pre) {en : Ent} (he : (mT M)[ip]? = some en) {ls : LV} {st : List AV} {H : Heap} {locs : List Loc} {cells slots : Nat} {Qf : State → Prop} {LS : Array Slot} (hl : lvR (sg U0 pre) LS (mL M) ls) {k0 : Fin 4} {x : Int} (hv : ls[k0.val]? = some (some (vi x))) (hi : eI en = .iload_n k0) (k : ∀ LS' : Array Slot, lvR (sg U0 pre) LS' (mL M) (ls) → W p l e R s m args below meth c H locs cells slots Qf (F0 m (bp M (eN en)) LS' ((vi x :: st).map (cv (sg U0 pre))))) : W p l e R s m args below meth c H locs cells slots Qf (F0 m (bp M ip) LS ((st).map (cv (sg U0 pre)))) := by
  obtain ⟨⟨hg, hK, hpre, hZ⟩, hx, hb, hml, hr, hlk, hnm, hown, hW, hfr, hlo, hok⟩ := cx
  obtain ⟨hbp, hd, hlen, hnx, hxx⟩ := hok.at he
  unfold okX at hxx
  rw [hi] at hd hlen hnx hxx
  have hlen := hlen rfl
  have hnx := hnx rfl
  rw [hlen] at hd hnx
  rw [hbp]
  rw [hnx] at k
  exact lv_iload_n hx hb hd rfl (hl.2.2 k0.val _ hv) (k LS hl)
theorem S_istore {M : Mth} {d ip : Nat} {p : Program} {l : Launch} {e : Env} {R : Room} {s : State} {m : MethodId} {args : Array Value} {below : List Frame} {meth : Method} {c : Code} {U0 : State} {a0 : Array Value} {D : va_G} {pre : Nat → Nat} (cx : CX M d p l e R s m args below meth c U0 a0 D pre) {en : Ent} (he : (mT M)[ip]? = some en) {ls : LV} {st : List AV} {H : Heap} {locs : List Loc} {cells slots : Nat} {Qf : State → Prop} {LS : Array Slot} (hl : lvR (sg U0 pre) LS (mL M) ls) {k0 : Nat} {x : Int} (hi : eI en = .istore k0) (k : ∀ LS' : Array Slot, lvR (sg U0 pre) LS' (mL M) (lput ls k0 (some (vi x))) → W p l e R s m args below meth c H locs cells slots Qf (F0 m (bp M (eN en)) LS' ((st).map (cv (sg U0 pre))))) : W p l e R s m args below meth c H locs cells slots Qf (F0 m (bp M ip) LS ((vi x :: st).map (cv (sg U0 pre)))) := by
  obtain ⟨⟨hg, hK, hpre, hZ⟩, hx, hb, hml, hr, hlk, hnm, hown, hW, hfr, hlo, hok⟩ := cx
  obtain ⟨hbp, hd, hlen, hnx, hxx⟩ := hok.at he
  unfold okX at hxx
  rw [hi] at hd hlen hnx hxx
  have hlen := hlen rfl
  have hnx := hnx rfl
  rw [hlen] at hd hnx
  rw [hbp]
  rw [hnx] at k
  exact lv_istore hx hb hd hl.has (of_decide_eq_true hxx) rfl (fun LS' h9 => k LS' (lvR.put (w := vi x) h9))
theorem S_istore_n {M : Mth} {d ip : Nat} {p : Program} {l : Launch} {e : Env} {R : Room} {s : State} {m : MethodId} {args : Array Value} {below : List Frame} {meth : Method} {c : Code} {U0 : State} {a0 : Array Value} {D : va_G} {pre : Nat → Nat} (cx : CX M d p l e R s m args below meth c U0 a0 D pre) {en : Ent} (he : (mT M)[ip]? = some en) {ls : LV} {st : List AV} {H : Heap} {locs : List Loc} {cells slots : Nat} {Qf : State → Prop} {LS : Array Slot} (hl : lvR (sg U0 pre) LS (mL M) ls) {k0 : Fin 4} {x : Int} (hi : eI en = .istore_n k0) (k : ∀ LS' : Array Slot, lvR (sg U0 pre) LS' (mL M) (lput ls k0.val (some (vi x))) → W p l e R s m args below meth c H locs cells slots Qf (F0 m (bp M (eN en)) LS' ((st).map (cv (sg U0 pre))))) : W p l e R s m args below meth c H locs cells slots Qf (F0 m (bp M ip) LS ((vi x :: st).map (cv (sg U0 pre)))) := by
  obtain ⟨⟨hg, hK, hpre, hZ⟩, hx, hb, hml, hr, hlk, hnm, hown, hW, hfr, hlo, hok⟩ := cx
  obtain ⟨hbp, hd, hlen, hnx, hxx⟩ := hok.at he
  unfold okX at hxx
  rw [hi] at hd hlen hnx hxx
  have hlen := hlen rfl
  have hnx := hnx rfl
  rw [hlen] at hd hnx
  rw [hbp]
  rw [hnx] at k
  exact lv_istore_n hx hb hd rfl hl.has (of_decide_eq_true hxx) rfl (fun LS' h9 => k LS' (lvR.put (w := vi x) h9))
theorem S_lload {M : Mth} {d ip : Nat} {p : Program} {l : Launch} {e : Env} {R : Room} {s : State} {m : MethodId} {args : Array Value} {below : List Frame} {meth : Method} {c : Code} {U0 : State} {a0 : Array Value} {D : va_G} {pre : Nat → Nat} (cx : CX M d p l e R s m args below meth c U0 a0 D pre) {en : Ent} (he : (mT M)[ip]? = some en) {ls : LV} {st : List AV} {H : Heap} {locs : List Loc} {cells slots : Nat} {Qf : State → Prop} {LS : Array Slot} (hl : lvR (sg U0 pre) LS (mL M) ls) {k0 : Nat} {x : Int} (hv : ls[k0]? = some (some (vl x))) (hi : eI en = .lload k0) (k : ∀ LS' : Array Slot, lvR (sg U0 pre) LS' (mL M) (ls) → W p l e R s m args below meth c H locs cells slots Qf (F0 m (bp M (eN en)) LS' ((vl x :: st).map (cv (sg U0 pre))))) : W p l e R s m args below meth c H locs cells slots Qf (F0 m (bp M ip) LS ((st).map (cv (sg U0 pre)))) := by
  obtain ⟨⟨hg, hK, hpre, hZ⟩, hx, hb, hml, hr, hlk, hnm, hown, hW, hfr, hlo, hok⟩ := cx
  obtain ⟨hbp, hd, hlen, hnx, hxx⟩ := hok.at he
  unfold okX at hxx
  rw [hi] at hd hlen hnx hxx
  have hlen := hlen rfl
  have hnx := hnx rfl
  rw [hlen] at hd hnx
  rw [hbp]
  rw [hnx] at k
  exact lv_lload hx hb hd (hl.2.2 k0 _ hv) (k LS hl)
theorem S_lload_n {M : Mth} {d ip : Nat} {p : Program} {l : Launch} {e : Env} {R : Room} {s : State} {m : MethodId} {args : Array Value} {below : List Frame} {meth : Method} {c : Code} {U0 : State} {a0 : Array Value} {D : va_G} {pre : Nat → Nat} (cx : CX M d p l e R s m args below meth c U0 a0 D pre) {en : Ent} (he : (mT M)[ip]? = some en) {ls : LV} {st : List AV} {H : Heap} {locs : List Loc} {cells slots : Nat} {Qf : State → Prop} {LS : Array Slot} (hl : lvR (sg U0 pre) LS (mL M) ls) {k0 : Fin 4} {x : Int} (hv : ls[k0.val]? = some (some (vl x))) (hi : eI en = .lload_n k0) (k : ∀ LS' : Array Slot, lvR (sg U0 pre) LS' (mL M) (ls) → W p l e R s m args below meth c H locs cells slots Qf (F0 m (bp M (eN en)) LS' ((vl x :: st).map (cv (sg U0 pre))))) : W p l e R s m args below meth c H locs cells slots Qf (F0 m (bp M ip) LS ((st).map (cv (sg U0 pre)))) := by
  obtain ⟨⟨hg, hK, hpre, hZ⟩, hx, hb, hml, hr, hlk, hnm, hown, hW, hfr, hlo, hok⟩ := cx
  obtain ⟨hbp, hd, hlen, hnx, hxx⟩ := hok.at he
  unfold okX at hxx
  rw [hi] at hd hlen hnx hxx
  have hlen := hlen rfl
  have hnx := hnx rfl
  rw [hlen] at hd hnx
  rw [hbp]
  rw [hnx] at k
  exact lv_lload_n hx hb hd rfl (hl.2.2 k0.val _ hv) (k LS hl)
theorem S_lstore {M : Mth} {d ip : Nat} {p : Program} {l : Launch} {e : Env} {R : Room} {s : State} {m : MethodId} {args : Array Value} {below : List Frame} {meth : Method} {c : Code} {U0 : State} {a0 : Array Value} {D : va_G} {pre : Nat → Nat} (cx : CX M d p l e R s m args below meth c U0 a0 D pre) {en : Ent} (he : (mT M)[ip]? = some en) {ls : LV} {st : List AV} {H : Heap} {locs : List Loc} {cells slots : Nat} {Qf : State → Prop} {LS : Array Slot} (hl : lvR (sg U0 pre) LS (mL M) ls) {k0 : Nat} {x : Int} (hi : eI en = .lstore k0) (k : ∀ LS' : Array Slot, lvR (sg U0 pre) LS' (mL M) (lputL ls k0 (vl x)) → W p l e R s m args below meth c H locs cells slots Qf (F0 m (bp M (eN en)) LS' ((st).map (cv (sg U0 pre))))) : W p l e R s m args below meth c H locs cells slots Qf (F0 m (bp M ip) LS ((vl x :: st).map (cv (sg U0 pre)))) := by
  obtain ⟨⟨hg, hK, hpre, hZ⟩, hx, hb, hml, hr, hlk, hnm, hown, hW, hfr, hlo, hok⟩ := cx
  obtain ⟨hbp, hd, hlen, hnx, hxx⟩ := hok.at he
  unfold okX at hxx
  rw [hi] at hd hlen hnx hxx
  have hlen := hlen rfl
  have hnx := hnx rfl
  rw [hlen] at hd hnx
  rw [hbp]
  rw [hnx] at k
  exact lv_lstore hx hb hd hl.has (of_decide_eq_true hxx) rfl (fun LS' h9 => k LS' (lvR.putL (w := vl x) h9))
theorem S_lstore_n {M : Mth} {d ip : Nat} {p : Program} {l : Launch} {e : Env} {R : Room} {s : State} {m : MethodId} {args : Array Value} {below : List Frame} {meth : Method} {c : Code} {U0 : State} {a0 : Array Value} {D : va_G} {pre : Nat → Nat} (cx : CX M d p l e R s m args below meth c U0 a0 D pre) {en : Ent} (he : (mT M)[ip]? = some en) {ls : LV} {st : List AV} {H : Heap} {locs : List Loc} {cells slots : Nat} {Qf : State → Prop} {LS : Array Slot} (hl : lvR (sg U0 pre) LS (mL M) ls) {k0 : Fin 4} {x : Int} (hi : eI en = .lstore_n k0) (k : ∀ LS' : Array Slot, lvR (sg U0 pre) LS' (mL M) (lputL ls k0.val (vl x)) → W p l e R s m args below meth c H locs cells slots Qf (F0 m (bp M (eN en)) LS' ((st).map (cv (sg U0 pre))))) : W p l e R s m args below meth c H locs cells slots Qf (F0 m (bp M ip) LS ((vl x :: st).map (cv (sg U0 pre)))) := by
  obtain ⟨⟨hg, hK, hpre, hZ⟩, hx, hb, hml, hr, hlk, hnm, hown, hW, hfr, hlo, hok⟩ := cx
  obtain ⟨hbp, hd, hlen, hnx, hxx⟩ := hok.at he
  unfold okX at hxx
  rw [hi] at hd hlen hnx hxx
  have hlen := hlen rfl
  have hnx := hnx rfl
  rw [hlen] at hd hnx
  rw [hbp]
  rw [hnx] at k
  exact lv_lstore_n hx hb hd rfl hl.has (of_decide_eq_true hxx) rfl (fun LS' h9 => k LS' (lvR.putL (w := vl x) h9))
theorem S_aload {M : Mth} {d ip : Nat} {p : Program} {l : Launch} {e : Env} {R : Room} {s : State} {m : MethodId} {args : Array Value} {below : List Frame} {meth : Method} {c : Code} {U0 : State} {a0 : Array Value} {D : va_G} {pre : Nat → Nat} (cx : CX M d p l e R s m args below meth c U0 a0 D pre) {en : Ent} (he : (mT M)[ip]? = some en) {ls : LV} {st : List AV} {H : Heap} {locs : List Loc} {cells slots : Nat} {Qf : State → Prop} {LS : Array Slot} (hl : lvR (sg U0 pre) LS (mL M) ls) {k0 : Nat} {x : Nat} (hv : ls[k0]? = some (some (vr x))) (hi : eI en = .aload k0) (k : ∀ LS' : Array Slot, lvR (sg U0 pre) LS' (mL M) (ls) → W p l e R s m args below meth c H locs cells slots Qf (F0 m (bp M (eN en)) LS' ((vr x :: st).map (cv (sg U0 pre))))) : W p l e R s m args below meth c H locs cells slots Qf (F0 m (bp M ip) LS ((st).map (cv (sg U0 pre)))) := by
  obtain ⟨⟨hg, hK, hpre, hZ⟩, hx, hb, hml, hr, hlk, hnm, hown, hW, hfr, hlo, hok⟩ := cx
  obtain ⟨hbp, hd, hlen, hnx, hxx⟩ := hok.at he
  unfold okX at hxx
  rw [hi] at hd hlen hnx hxx
  have hlen := hlen rfl
  have hnx := hnx rfl
  rw [hlen] at hd hnx
  rw [hbp]
  rw [hnx] at k
  exact lv_aload hx hb hd (hl.2.2 k0 _ hv) (k LS hl)
theorem S_aload_n {M : Mth} {d ip : Nat} {p : Program} {l : Launch} {e : Env} {R : Room} {s : State} {m : MethodId} {args : Array Value} {below : List Frame} {meth : Method} {c : Code} {U0 : State} {a0 : Array Value} {D : va_G} {pre : Nat → Nat} (cx : CX M d p l e R s m args below meth c U0 a0 D pre) {en : Ent} (he : (mT M)[ip]? = some en) {ls : LV} {st : List AV} {H : Heap} {locs : List Loc} {cells slots : Nat} {Qf : State → Prop} {LS : Array Slot} (hl : lvR (sg U0 pre) LS (mL M) ls) {k0 : Fin 4} {x : Nat} (hv : ls[k0.val]? = some (some (vr x))) (hi : eI en = .aload_n k0) (k : ∀ LS' : Array Slot, lvR (sg U0 pre) LS' (mL M) (ls) → W p l e R s m args below meth c H locs cells slots Qf (F0 m (bp M (eN en)) LS' ((vr x :: st).map (cv (sg U0 pre))))) : W p l e R s m args below meth c H locs cells slots Qf (F0 m (bp M ip) LS ((st).map (cv (sg U0 pre)))) := by
  obtain ⟨⟨hg, hK, hpre, hZ⟩, hx, hb, hml, hr, hlk, hnm, hown, hW, hfr, hlo, hok⟩ := cx
  obtain ⟨hbp, hd, hlen, hnx, hxx⟩ := hok.at he
  unfold okX at hxx
  rw [hi] at hd hlen hnx hxx
  have hlen := hlen rfl
  have hnx := hnx rfl
  rw [hlen] at hd hnx
  rw [hbp]
  rw [hnx] at k
  exact lv_aload_n hx hb hd rfl (hl.2.2 k0.val _ hv) (k LS hl)
theorem S_astore {M : Mth} {d ip : Nat} {p : Program} {l : Launch} {e : Env} {R : Room} {s : State} {m : MethodId} {args : Array Value} {below : List Frame} {meth : Method} {c : Code} {U0 : State} {a0 : Array Value} {D : va_G} {pre : Nat → Nat} (cx : CX M d p l e R s m args below meth c U0 a0 D pre) {en : Ent} (he : (mT M)[ip]? = some en) {ls : LV} {st : List AV} {H : Heap} {locs : List Loc} {cells slots : Nat} {Qf : State → Prop} {LS : Array Slot} (hl : lvR (sg U0 pre) LS (mL M) ls) {k0 : Nat} {x : Nat} (hi : eI en = .astore k0) (k : ∀ LS' : Array Slot, lvR (sg U0 pre) LS' (mL M) (lput ls k0 (some (vr x))) → W p l e R s m args below meth c H locs cells slots Qf (F0 m (bp M (eN en)) LS' ((st).map (cv (sg U0 pre))))) : W p l e R s m args below meth c H locs cells slots Qf (F0 m (bp M ip) LS ((vr x :: st).map (cv (sg U0 pre)))) := by
  obtain ⟨⟨hg, hK, hpre, hZ⟩, hx, hb, hml, hr, hlk, hnm, hown, hW, hfr, hlo, hok⟩ := cx
  obtain ⟨hbp, hd, hlen, hnx, hxx⟩ := hok.at he
  unfold okX at hxx
  rw [hi] at hd hlen hnx hxx
  have hlen := hlen rfl
  have hnx := hnx rfl
  rw [hlen] at hd hnx
  rw [hbp]
  rw [hnx] at k
  exact lv_astore hx hb hd hl.has (of_decide_eq_true hxx) rfl (fun LS' h9 => k LS' (lvR.put (w := vr x) h9))
theorem S_astore_n {M : Mth} {d ip : Nat} {p : Program} {l : Launch} {e : Env} {R : Room} {s : State} {m : MethodId} {args : Array Value} {below : List Frame} {meth : Method} {c : Code} {U0 : State} {a0 : Array Value} {D : va_G} {pre : Nat → Nat} (cx : CX M d p l e R s m args below meth c U0 a0 D pre) {en : Ent} (he : (mT M)[ip]? = some en) {ls : LV} {st : List AV} {H : Heap} {locs : List Loc} {cells slots : Nat} {Qf : State → Prop} {LS : Array Slot} (hl : lvR (sg U0 pre) LS (mL M) ls) {k0 : Fin 4} {x : Nat} (hi : eI en = .astore_n k0) (k : ∀ LS' : Array Slot, lvR (sg U0 pre) LS' (mL M) (lput ls k0.val (some (vr x))) → W p l e R s m args below meth c H locs cells slots Qf (F0 m (bp M (eN en)) LS' ((st).map (cv (sg U0 pre))))) : W p l e R s m args below meth c H locs cells slots Qf (F0 m (bp M ip) LS ((vr x :: st).map (cv (sg U0 pre)))) := by
  obtain ⟨⟨hg, hK, hpre, hZ⟩, hx, hb, hml, hr, hlk, hnm, hown, hW, hfr, hlo, hok⟩ := cx
  obtain ⟨hbp, hd, hlen, hnx, hxx⟩ := hok.at he
  unfold okX at hxx
  rw [hi] at hd hlen hnx hxx
  have hlen := hlen rfl
  have hnx := hnx rfl
  rw [hlen] at hd hnx
  rw [hbp]
  rw [hnx] at k
  exact lv_astore_n hx hb hd rfl hl.has (of_decide_eq_true hxx) rfl (fun LS' h9 => k LS' (lvR.put (w := vr x) h9))
theorem S_iinc {M : Mth} {d ip : Nat} {p : Program} {l : Launch} {e : Env} {R : Room} {s : State} {m : MethodId} {args : Array Value} {below : List Frame} {meth : Method} {c : Code} {U0 : State} {a0 : Array Value} {D : va_G} {pre : Nat → Nat} (cx : CX M d p l e R s m args below meth c U0 a0 D pre) {en : Ent} (he : (mT M)[ip]? = some en) {ls : LV} {st : List AV} {H : Heap} {locs : List Loc} {cells slots : Nat} {Qf : State → Prop} {LS : Array Slot} (hl : lvR (sg U0 pre) LS (mL M) ls) {k0 : Nat} {n x : Int} (hv : ls[k0]? = some (some (vi x))) (hi : eI en = .iinc k0 n) (k : ∀ LS' : Array Slot, lvR (sg U0 pre) LS' (mL M) (lput ls k0 (some (vi (x + n)))) → W p l e R s m args below meth c H locs cells slots Qf (F0 m (bp M (eN en)) LS' ((st).map (cv (sg U0 pre))))) : W p l e R s m args below meth c H locs cells slots Qf (F0 m (bp M ip) LS ((st).map (cv (sg U0 pre)))) := by
  obtain ⟨⟨hg, hK, hpre, hZ⟩, hx, hb, hml, hr, hlk, hnm, hown, hW, hfr, hlo, hok⟩ := cx
  obtain ⟨hbp, hd, hlen, hnx, hxx⟩ := hok.at he
  unfold okX at hxx
  rw [hi] at hd hlen hnx hxx
  have hlen := hlen rfl
  have hnx := hnx rfl
  rw [hlen] at hd hnx
  rw [hbp]
  rw [hnx] at k
  obtain ⟨j, hj⟩ := List.getElem?_of_mem ((lvp_mem (f := sg U0 pre) ls 0 (k0, cv (sg U0 pre) (vi x))).mpr ⟨k0, vi x, hv, by simp⟩)
  exact lv_iinc hx hb hd hl.has (k := j) hj (v := Int32.ofInt (x + n)) (o_add x n) (of_decide_eq_true hxx) rfl (fun LS' h9 => k LS' (lvR.put (w := vi (x + n)) h9))
theorem S_iadd {M : Mth} {d ip : Nat} {p : Program} {l : Launch} {e : Env} {R : Room} {s : State} {m : MethodId} {args : Array Value} {below : List Frame} {meth : Method} {c : Code} {U0 : State} {a0 : Array Value} {D : va_G} {pre : Nat → Nat} (cx : CX M d p l e R s m args below meth c U0 a0 D pre) {en : Ent} (he : (mT M)[ip]? = some en) {ls : LV} {st : List AV} {H : Heap} {locs : List Loc} {cells slots : Nat} {Qf : State → Prop} {LS : Array Slot} (hl : lvR (sg U0 pre) LS (mL M) ls) {x y : Int} (hi : eI en = .iadd) (k : ∀ LS' : Array Slot, lvR (sg U0 pre) LS' (mL M) (ls) → W p l e R s m args below meth c H locs cells slots Qf (F0 m (bp M (eN en)) LS' ((vi (x + y) :: st).map (cv (sg U0 pre))))) : W p l e R s m args below meth c H locs cells slots Qf (F0 m (bp M ip) LS ((vi y :: vi x :: st).map (cv (sg U0 pre)))) := by
  obtain ⟨⟨hg, hK, hpre, hZ⟩, hx, hb, hml, hr, hlk, hnm, hown, hW, hfr, hlo, hok⟩ := cx
  obtain ⟨hbp, hd, hlen, hnx, hxx⟩ := hok.at he
  unfold okX at hxx
  rw [hi] at hd hlen hnx hxx
  have hlen := hlen rfl
  have hnx := hnx rfl
  rw [hlen] at hd hnx
  rw [hbp]
  rw [hnx] at k
  refine lv_iadd (x := Int32.ofInt x) (y := Int32.ofInt y) hx hb hd ?_
  rw [o_add x y]
  exact k LS hl
theorem S_isub {M : Mth} {d ip : Nat} {p : Program} {l : Launch} {e : Env} {R : Room} {s : State} {m : MethodId} {args : Array Value} {below : List Frame} {meth : Method} {c : Code} {U0 : State} {a0 : Array Value} {D : va_G} {pre : Nat → Nat} (cx : CX M d p l e R s m args below meth c U0 a0 D pre) {en : Ent} (he : (mT M)[ip]? = some en) {ls : LV} {st : List AV} {H : Heap} {locs : List Loc} {cells slots : Nat} {Qf : State → Prop} {LS : Array Slot} (hl : lvR (sg U0 pre) LS (mL M) ls) {x y : Int} (hi : eI en = .isub) (k : ∀ LS' : Array Slot, lvR (sg U0 pre) LS' (mL M) (ls) → W p l e R s m args below meth c H locs cells slots Qf (F0 m (bp M (eN en)) LS' ((vi (x - y) :: st).map (cv (sg U0 pre))))) : W p l e R s m args below meth c H locs cells slots Qf (F0 m (bp M ip) LS ((vi y :: vi x :: st).map (cv (sg U0 pre)))) := by
  obtain ⟨⟨hg, hK, hpre, hZ⟩, hx, hb, hml, hr, hlk, hnm, hown, hW, hfr, hlo, hok⟩ := cx
  obtain ⟨hbp, hd, hlen, hnx, hxx⟩ := hok.at he
  unfold okX at hxx
  rw [hi] at hd hlen hnx hxx
  have hlen := hlen rfl
  have hnx := hnx rfl
  rw [hlen] at hd hnx
  rw [hbp]
  rw [hnx] at k
  refine lv_isub (x := Int32.ofInt x) (y := Int32.ofInt y) hx hb hd ?_
  rw [o_sub x y]
  exact k LS hl
theorem S_imul {M : Mth} {d ip : Nat} {p : Program} {l : Launch} {e : Env} {R : Room} {s : State} {m : MethodId} {args : Array Value} {below : List Frame} {meth : Method} {c : Code} {U0 : State} {a0 : Array Value} {D : va_G} {pre : Nat → Nat} (cx : CX M d p l e R s m args below meth c U0 a0 D pre) {en : Ent} (he : (mT M)[ip]? = some en) {ls : LV} {st : List AV} {H : Heap} {locs : List Loc} {cells slots : Nat} {Qf : State → Prop} {LS : Array Slot} (hl : lvR (sg U0 pre) LS (mL M) ls) {x y : Int} (hi : eI en = .imul) (k : ∀ LS' : Array Slot, lvR (sg U0 pre) LS' (mL M) (ls) → W p l e R s m args below meth c H locs cells slots Qf (F0 m (bp M (eN en)) LS' ((vi (x * y) :: st).map (cv (sg U0 pre))))) : W p l e R s m args below meth c H locs cells slots Qf (F0 m (bp M ip) LS ((vi y :: vi x :: st).map (cv (sg U0 pre)))) := by
  obtain ⟨⟨hg, hK, hpre, hZ⟩, hx, hb, hml, hr, hlk, hnm, hown, hW, hfr, hlo, hok⟩ := cx
  obtain ⟨hbp, hd, hlen, hnx, hxx⟩ := hok.at he
  unfold okX at hxx
  rw [hi] at hd hlen hnx hxx
  have hlen := hlen rfl
  have hnx := hnx rfl
  rw [hlen] at hd hnx
  rw [hbp]
  rw [hnx] at k
  refine lv_imul (x := Int32.ofInt x) (y := Int32.ofInt y) hx hb hd ?_
  rw [o_mul x y]
  exact k LS hl
theorem S_iand {M : Mth} {d ip : Nat} {p : Program} {l : Launch} {e : Env} {R : Room} {s : State} {m : MethodId} {args : Array Value} {below : List Frame} {meth : Method} {c : Code} {U0 : State} {a0 : Array Value} {D : va_G} {pre : Nat → Nat} (cx : CX M d p l e R s m args below meth c U0 a0 D pre) {en : Ent} (he : (mT M)[ip]? = some en) {ls : LV} {st : List AV} {H : Heap} {locs : List Loc} {cells slots : Nat} {Qf : State → Prop} {LS : Array Slot} (hl : lvR (sg U0 pre) LS (mL M) ls) {x y : Int} (hi : eI en = .iand) (k : ∀ LS' : Array Slot, lvR (sg U0 pre) LS' (mL M) (ls) → W p l e R s m args below meth c H locs cells slots Qf (F0 m (bp M (eN en)) LS' ((vi (iAnd x y) :: st).map (cv (sg U0 pre))))) : W p l e R s m args below meth c H locs cells slots Qf (F0 m (bp M ip) LS ((vi y :: vi x :: st).map (cv (sg U0 pre)))) := by
  obtain ⟨⟨hg, hK, hpre, hZ⟩, hx, hb, hml, hr, hlk, hnm, hown, hW, hfr, hlo, hok⟩ := cx
  obtain ⟨hbp, hd, hlen, hnx, hxx⟩ := hok.at he
  unfold okX at hxx
  rw [hi] at hd hlen hnx hxx
  have hlen := hlen rfl
  have hnx := hnx rfl
  rw [hlen] at hd hnx
  rw [hbp]
  rw [hnx] at k
  refine lv_iand (x := Int32.ofInt x) (y := Int32.ofInt y) hx hb hd ?_
  rw [o_and x y]
  exact k LS hl
theorem S_ior {M : Mth} {d ip : Nat} {p : Program} {l : Launch} {e : Env} {R : Room} {s : State} {m : MethodId} {args : Array Value} {below : List Frame} {meth : Method} {c : Code} {U0 : State} {a0 : Array Value} {D : va_G} {pre : Nat → Nat} (cx : CX M d p l e R s m args below meth c U0 a0 D pre) {en : Ent} (he : (mT M)[ip]? = some en) {ls : LV} {st : List AV} {H : Heap} {locs : List Loc} {cells slots : Nat} {Qf : State → Prop} {LS : Array Slot} (hl : lvR (sg U0 pre) LS (mL M) ls) {x y : Int} (hi : eI en = .ior) (k : ∀ LS' : Array Slot, lvR (sg U0 pre) LS' (mL M) (ls) → W p l e R s m args below meth c H locs cells slots Qf (F0 m (bp M (eN en)) LS' ((vi (iOr x y) :: st).map (cv (sg U0 pre))))) : W p l e R s m args below meth c H locs cells slots Qf (F0 m (bp M ip) LS ((vi y :: vi x :: st).map (cv (sg U0 pre)))) := by
  obtain ⟨⟨hg, hK, hpre, hZ⟩, hx, hb, hml, hr, hlk, hnm, hown, hW, hfr, hlo, hok⟩ := cx
  obtain ⟨hbp, hd, hlen, hnx, hxx⟩ := hok.at he
  unfold okX at hxx
  rw [hi] at hd hlen hnx hxx
  have hlen := hlen rfl
  have hnx := hnx rfl
  rw [hlen] at hd hnx
  rw [hbp]
  rw [hnx] at k
  refine lv_ior (x := Int32.ofInt x) (y := Int32.ofInt y) hx hb hd ?_
  rw [o_or x y]
  exact k LS hl
theorem S_ixor {M : Mth} {d ip : Nat} {p : Program} {l : Launch} {e : Env} {R : Room} {s : State} {m : MethodId} {args : Array Value} {below : List Frame} {meth : Method} {c : Code} {U0 : State} {a0 : Array Value} {D : va_G} {pre : Nat → Nat} (cx : CX M d p l e R s m args below meth c U0 a0 D pre) {en : Ent} (he : (mT M)[ip]? = some en) {ls : LV} {st : List AV} {H : Heap} {locs : List Loc} {cells slots : Nat} {Qf : State → Prop} {LS : Array Slot} (hl : lvR (sg U0 pre) LS (mL M) ls) {x y : Int} (hi : eI en = .ixor) (k : ∀ LS' : Array Slot, lvR (sg U0 pre) LS' (mL M) (ls) → W p l e R s m args below meth c H locs cells slots Qf (F0 m (bp M (eN en)) LS' ((vi (iXor x y) :: st).map (cv (sg U0 pre))))) : W p l e R s m args below meth c H locs cells slots Qf (F0 m (bp M ip) LS ((vi y :: vi x :: st).map (cv (sg U0 pre)))) := by
  obtain ⟨⟨hg, hK, hpre, hZ⟩, hx, hb, hml, hr, hlk, hnm, hown, hW, hfr, hlo, hok⟩ := cx
  obtain ⟨hbp, hd, hlen, hnx, hxx⟩ := hok.at he
  unfold okX at hxx
  rw [hi] at hd hlen hnx hxx
  have hlen := hlen rfl
  have hnx := hnx rfl
  rw [hlen] at hd hnx
  rw [hbp]
  rw [hnx] at k
  refine lv_ixor (x := Int32.ofInt x) (y := Int32.ofInt y) hx hb hd ?_
  rw [o_xor x y]
  exact k LS hl
theorem S_ishl {M : Mth} {d ip : Nat} {p : Program} {l : Launch} {e : Env} {R : Room} {s : State} {m : MethodId} {args : Array Value} {below : List Frame} {meth : Method} {c : Code} {U0 : State} {a0 : Array Value} {D : va_G} {pre : Nat → Nat} (cx : CX M d p l e R s m args below meth c U0 a0 D pre) {en : Ent} (he : (mT M)[ip]? = some en) {ls : LV} {st : List AV} {H : Heap} {locs : List Loc} {cells slots : Nat} {Qf : State → Prop} {LS : Array Slot} (hl : lvR (sg U0 pre) LS (mL M) ls) {x y : Int} (hi : eI en = .ishl) (k : ∀ LS' : Array Slot, lvR (sg U0 pre) LS' (mL M) (ls) → W p l e R s m args below meth c H locs cells slots Qf (F0 m (bp M (eN en)) LS' ((vi (iShl x y) :: st).map (cv (sg U0 pre))))) : W p l e R s m args below meth c H locs cells slots Qf (F0 m (bp M ip) LS ((vi y :: vi x :: st).map (cv (sg U0 pre)))) := by
  obtain ⟨⟨hg, hK, hpre, hZ⟩, hx, hb, hml, hr, hlk, hnm, hown, hW, hfr, hlo, hok⟩ := cx
  obtain ⟨hbp, hd, hlen, hnx, hxx⟩ := hok.at he
  unfold okX at hxx
  rw [hi] at hd hlen hnx hxx
  have hlen := hlen rfl
  have hnx := hnx rfl
  rw [hlen] at hd hnx
  rw [hbp]
  rw [hnx] at k
  refine lv_ishl (x := Int32.ofInt x) (y := Int32.ofInt y) hx hb hd ?_
  rw [o_shl x y]
  exact k LS hl
theorem S_ishr {M : Mth} {d ip : Nat} {p : Program} {l : Launch} {e : Env} {R : Room} {s : State} {m : MethodId} {args : Array Value} {below : List Frame} {meth : Method} {c : Code} {U0 : State} {a0 : Array Value} {D : va_G} {pre : Nat → Nat} (cx : CX M d p l e R s m args below meth c U0 a0 D pre) {en : Ent} (he : (mT M)[ip]? = some en) {ls : LV} {st : List AV} {H : Heap} {locs : List Loc} {cells slots : Nat} {Qf : State → Prop} {LS : Array Slot} (hl : lvR (sg U0 pre) LS (mL M) ls) {x y : Int} (hi : eI en = .ishr) (k : ∀ LS' : Array Slot, lvR (sg U0 pre) LS' (mL M) (ls) → W p l e R s m args below meth c H locs cells slots Qf (F0 m (bp M (eN en)) LS' ((vi (iShr x y) :: st).map (cv (sg U0 pre))))) : W p l e R s m args below meth c H locs cells slots Qf (F0 m (bp M ip) LS ((vi y :: vi x :: st).map (cv (sg U0 pre)))) := by
  obtain ⟨⟨hg, hK, hpre, hZ⟩, hx, hb, hml, hr, hlk, hnm, hown, hW, hfr, hlo, hok⟩ := cx
  obtain ⟨hbp, hd, hlen, hnx, hxx⟩ := hok.at he
  unfold okX at hxx
  rw [hi] at hd hlen hnx hxx
  have hlen := hlen rfl
  have hnx := hnx rfl
  rw [hlen] at hd hnx
  rw [hbp]
  rw [hnx] at k
  refine lv_ishr (x := Int32.ofInt x) (y := Int32.ofInt y) hx hb hd ?_
  rw [o_shr x y]
  exact k LS hl
theorem S_iushr {M : Mth} {d ip : Nat} {p : Program} {l : Launch} {e : Env} {R : Room} {s : State} {m : MethodId} {args : Array Value} {below : List Frame} {meth : Method} {c : Code} {U0 : State} {a0 : Array Value} {D : va_G} {pre : Nat → Nat} (cx : CX M d p l e R s m args below meth c U0 a0 D pre) {en : Ent} (he : (mT M)[ip]? = some en) {ls : LV} {st : List AV} {H : Heap} {locs : List Loc} {cells slots : Nat} {Qf : State → Prop} {LS : Array Slot} (hl : lvR (sg U0 pre) LS (mL M) ls) {x y : Int} (hi : eI en = .iushr) (k : ∀ LS' : Array Slot, lvR (sg U0 pre) LS' (mL M) (ls) → W p l e R s m args below meth c H locs cells slots Qf (F0 m (bp M (eN en)) LS' ((vi (iUsh x y) :: st).map (cv (sg U0 pre))))) : W p l e R s m args below meth c H locs cells slots Qf (F0 m (bp M ip) LS ((vi y :: vi x :: st).map (cv (sg U0 pre)))) := by
  obtain ⟨⟨hg, hK, hpre, hZ⟩, hx, hb, hml, hr, hlk, hnm, hown, hW, hfr, hlo, hok⟩ := cx
  obtain ⟨hbp, hd, hlen, hnx, hxx⟩ := hok.at he
  unfold okX at hxx
  rw [hi] at hd hlen hnx hxx
  have hlen := hlen rfl
  have hnx := hnx rfl
  rw [hlen] at hd hnx
  rw [hbp]
  rw [hnx] at k
  exact lv_iushr (x := Int32.ofInt x) (y := Int32.ofInt y) hx hb hd (o_ush x y) (k LS hl)
theorem S_ladd {M : Mth} {d ip : Nat} {p : Program} {l : Launch} {e : Env} {R : Room} {s : State} {m : MethodId} {args : Array Value} {below : List Frame} {meth : Method} {c : Code} {U0 : State} {a0 : Array Value} {D : va_G} {pre : Nat → Nat} (cx : CX M d p l e R s m args below meth c U0 a0 D pre) {en : Ent} (he : (mT M)[ip]? = some en) {ls : LV} {st : List AV} {H : Heap} {locs : List Loc} {cells slots : Nat} {Qf : State → Prop} {LS : Array Slot} (hl : lvR (sg U0 pre) LS (mL M) ls) {x y : Int} (hi : eI en = .ladd) (k : ∀ LS' : Array Slot, lvR (sg U0 pre) LS' (mL M) (ls) → W p l e R s m args below meth c H locs cells slots Qf (F0 m (bp M (eN en)) LS' ((vl (x + y) :: st).map (cv (sg U0 pre))))) : W p l e R s m args below meth c H locs cells slots Qf (F0 m (bp M ip) LS ((vl y :: vl x :: st).map (cv (sg U0 pre)))) := by
  obtain ⟨⟨hg, hK, hpre, hZ⟩, hx, hb, hml, hr, hlk, hnm, hown, hW, hfr, hlo, hok⟩ := cx
  obtain ⟨hbp, hd, hlen, hnx, hxx⟩ := hok.at he
  unfold okX at hxx
  rw [hi] at hd hlen hnx hxx
  have hlen := hlen rfl
  have hnx := hnx rfl
  rw [hlen] at hd hnx
  rw [hbp]
  rw [hnx] at k
  refine lv_ladd (x := Int64.ofInt x) (y := Int64.ofInt y) hx hb hd ?_
  rw [q_add x y]
  exact k LS hl
theorem S_lsub {M : Mth} {d ip : Nat} {p : Program} {l : Launch} {e : Env} {R : Room} {s : State} {m : MethodId} {args : Array Value} {below : List Frame} {meth : Method} {c : Code} {U0 : State} {a0 : Array Value} {D : va_G} {pre : Nat → Nat} (cx : CX M d p l e R s m args below meth c U0 a0 D pre) {en : Ent} (he : (mT M)[ip]? = some en) {ls : LV} {st : List AV} {H : Heap} {locs : List Loc} {cells slots : Nat} {Qf : State → Prop} {LS : Array Slot} (hl : lvR (sg U0 pre) LS (mL M) ls) {x y : Int} (hi : eI en = .lsub) (k : ∀ LS' : Array Slot, lvR (sg U0 pre) LS' (mL M) (ls) → W p l e R s m args below meth c H locs cells slots Qf (F0 m (bp M (eN en)) LS' ((vl (x - y) :: st).map (cv (sg U0 pre))))) : W p l e R s m args below meth c H locs cells slots Qf (F0 m (bp M ip) LS ((vl y :: vl x :: st).map (cv (sg U0 pre)))) := by
  obtain ⟨⟨hg, hK, hpre, hZ⟩, hx, hb, hml, hr, hlk, hnm, hown, hW, hfr, hlo, hok⟩ := cx
  obtain ⟨hbp, hd, hlen, hnx, hxx⟩ := hok.at he
  unfold okX at hxx
  rw [hi] at hd hlen hnx hxx
  have hlen := hlen rfl
  have hnx := hnx rfl
  rw [hlen] at hd hnx
  rw [hbp]
  rw [hnx] at k
  refine lv_lsub (x := Int64.ofInt x) (y := Int64.ofInt y) hx hb hd ?_
  rw [q_sub x y]
  exact k LS hl
theorem S_lmul {M : Mth} {d ip : Nat} {p : Program} {l : Launch} {e : Env} {R : Room} {s : State} {m : MethodId} {args : Array Value} {below : List Frame} {meth : Method} {c : Code} {U0 : State} {a0 : Array Value} {D : va_G} {pre : Nat → Nat} (cx : CX M d p l e R s m args below meth c U0 a0 D pre) {en : Ent} (he : (mT M)[ip]? = some en) {ls : LV} {st : List AV} {H : Heap} {locs : List Loc} {cells slots : Nat} {Qf : State → Prop} {LS : Array Slot} (hl : lvR (sg U0 pre) LS (mL M) ls) {x y : Int} (hi : eI en = .lmul) (k : ∀ LS' : Array Slot, lvR (sg U0 pre) LS' (mL M) (ls) → W p l e R s m args below meth c H locs cells slots Qf (F0 m (bp M (eN en)) LS' ((vl (x * y) :: st).map (cv (sg U0 pre))))) : W p l e R s m args below meth c H locs cells slots Qf (F0 m (bp M ip) LS ((vl y :: vl x :: st).map (cv (sg U0 pre)))) := by
  obtain ⟨⟨hg, hK, hpre, hZ⟩, hx, hb, hml, hr, hlk, hnm, hown, hW, hfr, hlo, hok⟩ := cx
  obtain ⟨hbp, hd, hlen, hnx, hxx⟩ := hok.at he
  unfold okX at hxx
  rw [hi] at hd hlen hnx hxx
  have hlen := hlen rfl
  have hnx := hnx rfl
  rw [hlen] at hd hnx
  rw [hbp]
  rw [hnx] at k
  refine lv_lmul (x := Int64.ofInt x) (y := Int64.ofInt y) hx hb hd ?_
  rw [q_mul x y]
  exact k LS hl
theorem S_ineg {M : Mth} {d ip : Nat} {p : Program} {l : Launch} {e : Env} {R : Room} {s : State} {m : MethodId} {args : Array Value} {below : List Frame} {meth : Method} {c : Code} {U0 : State} {a0 : Array Value} {D : va_G} {pre : Nat → Nat} (cx : CX M d p l e R s m args below meth c U0 a0 D pre) {en : Ent} (he : (mT M)[ip]? = some en) {ls : LV} {st : List AV} {H : Heap} {locs : List Loc} {cells slots : Nat} {Qf : State → Prop} {LS : Array Slot} (hl : lvR (sg U0 pre) LS (mL M) ls) {x : Int} (hi : eI en = .ineg) (k : ∀ LS' : Array Slot, lvR (sg U0 pre) LS' (mL M) (ls) → W p l e R s m args below meth c H locs cells slots Qf (F0 m (bp M (eN en)) LS' ((vi (-x) :: st).map (cv (sg U0 pre))))) : W p l e R s m args below meth c H locs cells slots Qf (F0 m (bp M ip) LS ((vi x :: st).map (cv (sg U0 pre)))) := by
  obtain ⟨⟨hg, hK, hpre, hZ⟩, hx, hb, hml, hr, hlk, hnm, hown, hW, hfr, hlo, hok⟩ := cx
  obtain ⟨hbp, hd, hlen, hnx, hxx⟩ := hok.at he
  unfold okX at hxx
  rw [hi] at hd hlen hnx hxx
  have hlen := hlen rfl
  have hnx := hnx rfl
  rw [hlen] at hd hnx
  rw [hbp]
  rw [hnx] at k
  refine lv_ineg (x := Int32.ofInt x) hx hb hd ?_
  rw [o_neg x]
  exact k LS hl
theorem S_l2i {M : Mth} {d ip : Nat} {p : Program} {l : Launch} {e : Env} {R : Room} {s : State} {m : MethodId} {args : Array Value} {below : List Frame} {meth : Method} {c : Code} {U0 : State} {a0 : Array Value} {D : va_G} {pre : Nat → Nat} (cx : CX M d p l e R s m args below meth c U0 a0 D pre) {en : Ent} (he : (mT M)[ip]? = some en) {ls : LV} {st : List AV} {H : Heap} {locs : List Loc} {cells slots : Nat} {Qf : State → Prop} {LS : Array Slot} (hl : lvR (sg U0 pre) LS (mL M) ls) {x : Int} (hi : eI en = .l2i) (k : ∀ LS' : Array Slot, lvR (sg U0 pre) LS' (mL M) (ls) → W p l e R s m args below meth c H locs cells slots Qf (F0 m (bp M (eN en)) LS' ((vi x :: st).map (cv (sg U0 pre))))) : W p l e R s m args below meth c H locs cells slots Qf (F0 m (bp M ip) LS ((vl x :: st).map (cv (sg U0 pre)))) := by
  obtain ⟨⟨hg, hK, hpre, hZ⟩, hx, hb, hml, hr, hlk, hnm, hown, hW, hfr, hlo, hok⟩ := cx
  obtain ⟨hbp, hd, hlen, hnx, hxx⟩ := hok.at he
  unfold okX at hxx
  rw [hi] at hd hlen hnx hxx
  have hlen := hlen rfl
  have hnx := hnx rfl
  rw [hlen] at hd hnx
  rw [hbp]
  rw [hnx] at k
  exact lv_l2i (x := Int64.ofInt x) hx hb hd (by simp) (k LS hl)
theorem S_pop {M : Mth} {d ip : Nat} {p : Program} {l : Launch} {e : Env} {R : Room} {s : State} {m : MethodId} {args : Array Value} {below : List Frame} {meth : Method} {c : Code} {U0 : State} {a0 : Array Value} {D : va_G} {pre : Nat → Nat} (cx : CX M d p l e R s m args below meth c U0 a0 D pre) {en : Ent} (he : (mT M)[ip]? = some en) {ls : LV} {st : List AV} {H : Heap} {locs : List Loc} {cells slots : Nat} {Qf : State → Prop} {LS : Array Slot} (hl : lvR (sg U0 pre) LS (mL M) ls) {v : AV} (hv : ac v = 1) (hi : eI en = .pop) (k : ∀ LS' : Array Slot, lvR (sg U0 pre) LS' (mL M) (ls) → W p l e R s m args below meth c H locs cells slots Qf (F0 m (bp M (eN en)) LS' ((st).map (cv (sg U0 pre))))) : W p l e R s m args below meth c H locs cells slots Qf (F0 m (bp M ip) LS ((v :: st).map (cv (sg U0 pre)))) := by
  obtain ⟨⟨hg, hK, hpre, hZ⟩, hx, hb, hml, hr, hlk, hnm, hown, hW, hfr, hlo, hok⟩ := cx
  obtain ⟨hbp, hd, hlen, hnx, hxx⟩ := hok.at he
  unfold okX at hxx
  rw [hi] at hd hlen hnx hxx
  have hlen := hlen rfl
  have hnx := hnx rfl
  rw [hlen] at hd hnx
  rw [hbp]
  rw [hnx] at k
  exact lv_pop hx hb hd (by rw [cv_cat]; exact hv) (k LS hl)
theorem S_dup {M : Mth} {d ip : Nat} {p : Program} {l : Launch} {e : Env} {R : Room} {s : State} {m : MethodId} {args : Array Value} {below : List Frame} {meth : Method} {c : Code} {U0 : State} {a0 : Array Value} {D : va_G} {pre : Nat → Nat} (cx : CX M d p l e R s m args below meth c U0 a0 D pre) {en : Ent} (he : (mT M)[ip]? = some en) {ls : LV} {st : List AV} {H : Heap} {locs : List Loc} {cells slots : Nat} {Qf : State → Prop} {LS : Array Slot} (hl : lvR (sg U0 pre) LS (mL M) ls) {v : AV} (hv : ac v = 1) (hi : eI en = .dup) (k : ∀ LS' : Array Slot, lvR (sg U0 pre) LS' (mL M) (ls) → W p l e R s m args below meth c H locs cells slots Qf (F0 m (bp M (eN en)) LS' ((v :: v :: st).map (cv (sg U0 pre))))) : W p l e R s m args below meth c H locs cells slots Qf (F0 m (bp M ip) LS ((v :: st).map (cv (sg U0 pre)))) := by
  obtain ⟨⟨hg, hK, hpre, hZ⟩, hx, hb, hml, hr, hlk, hnm, hown, hW, hfr, hlo, hok⟩ := cx
  obtain ⟨hbp, hd, hlen, hnx, hxx⟩ := hok.at he
  unfold okX at hxx
  rw [hi] at hd hlen hnx hxx
  have hlen := hlen rfl
  have hnx := hnx rfl
  rw [hlen] at hd hnx
  rw [hbp]
  rw [hnx] at k
  exact lv_dup hx hb hd (by rw [cv_cat]; exact hv) (k LS hl)
theorem S_dup_x1 {M : Mth} {d ip : Nat} {p : Program} {l : Launch} {e : Env} {R : Room} {s : State} {m : MethodId} {args : Array Value} {below : List Frame} {meth : Method} {c : Code} {U0 : State} {a0 : Array Value} {D : va_G} {pre : Nat → Nat} (cx : CX M d p l e R s m args below meth c U0 a0 D pre) {en : Ent} (he : (mT M)[ip]? = some en) {ls : LV} {st : List AV} {H : Heap} {locs : List Loc} {cells slots : Nat} {Qf : State → Prop} {LS : Array Slot} (hl : lvR (sg U0 pre) LS (mL M) ls) {v u : AV} (hv : ac v = 1) (hu : ac u = 1) (hi : eI en = .dup_x1) (k : ∀ LS' : Array Slot, lvR (sg U0 pre) LS' (mL M) (ls) → W p l e R s m args below meth c H locs cells slots Qf (F0 m (bp M (eN en)) LS' ((v :: u :: v :: st).map (cv (sg U0 pre))))) : W p l e R s m args below meth c H locs cells slots Qf (F0 m (bp M ip) LS ((v :: u :: st).map (cv (sg U0 pre)))) := by
  obtain ⟨⟨hg, hK, hpre, hZ⟩, hx, hb, hml, hr, hlk, hnm, hown, hW, hfr, hlo, hok⟩ := cx
  obtain ⟨hbp, hd, hlen, hnx, hxx⟩ := hok.at he
  unfold okX at hxx
  rw [hi] at hd hlen hnx hxx
  have hlen := hlen rfl
  have hnx := hnx rfl
  rw [hlen] at hd hnx
  rw [hbp]
  rw [hnx] at k
  exact lv_dup_x1 hx hb hd (by rw [cv_cat]; exact hv) (by rw [cv_cat]; exact hu) (k LS hl)
theorem S_dup_x2 {M : Mth} {d ip : Nat} {p : Program} {l : Launch} {e : Env} {R : Room} {s : State} {m : MethodId} {args : Array Value} {below : List Frame} {meth : Method} {c : Code} {U0 : State} {a0 : Array Value} {D : va_G} {pre : Nat → Nat} (cx : CX M d p l e R s m args below meth c U0 a0 D pre) {en : Ent} (he : (mT M)[ip]? = some en) {ls : LV} {st : List AV} {H : Heap} {locs : List Loc} {cells slots : Nat} {Qf : State → Prop} {LS : Array Slot} (hl : lvR (sg U0 pre) LS (mL M) ls) {v u t : AV} (hv : ac v = 1) (hu : ac u = 1) (ht : ac t = 1) (hi : eI en = .dup_x2) (k : ∀ LS' : Array Slot, lvR (sg U0 pre) LS' (mL M) (ls) → W p l e R s m args below meth c H locs cells slots Qf (F0 m (bp M (eN en)) LS' ((v :: u :: t :: v :: st).map (cv (sg U0 pre))))) : W p l e R s m args below meth c H locs cells slots Qf (F0 m (bp M ip) LS ((v :: u :: t :: st).map (cv (sg U0 pre)))) := by
  obtain ⟨⟨hg, hK, hpre, hZ⟩, hx, hb, hml, hr, hlk, hnm, hown, hW, hfr, hlo, hok⟩ := cx
  obtain ⟨hbp, hd, hlen, hnx, hxx⟩ := hok.at he
  unfold okX at hxx
  rw [hi] at hd hlen hnx hxx
  have hlen := hlen rfl
  have hnx := hnx rfl
  rw [hlen] at hd hnx
  rw [hbp]
  rw [hnx] at k
  exact lv_dup_x2 hx hb hd (by rw [cv_cat]; exact hv) (by rw [cv_cat]; exact hu) (by rw [cv_cat]; exact ht) (k LS hl)
theorem S_dup2 {M : Mth} {d ip : Nat} {p : Program} {l : Launch} {e : Env} {R : Room} {s : State} {m : MethodId} {args : Array Value} {below : List Frame} {meth : Method} {c : Code} {U0 : State} {a0 : Array Value} {D : va_G} {pre : Nat → Nat} (cx : CX M d p l e R s m args below meth c U0 a0 D pre) {en : Ent} (he : (mT M)[ip]? = some en) {ls : LV} {st : List AV} {H : Heap} {locs : List Loc} {cells slots : Nat} {Qf : State → Prop} {LS : Array Slot} (hl : lvR (sg U0 pre) LS (mL M) ls) {v u : AV} (hv : ac v = 1) (hu : ac u = 1) (hi : eI en = .dup2) (k : ∀ LS' : Array Slot, lvR (sg U0 pre) LS' (mL M) (ls) → W p l e R s m args below meth c H locs cells slots Qf (F0 m (bp M (eN en)) LS' ((v :: u :: v :: u :: st).map (cv (sg U0 pre))))) : W p l e R s m args below meth c H locs cells slots Qf (F0 m (bp M ip) LS ((v :: u :: st).map (cv (sg U0 pre)))) := by
  obtain ⟨⟨hg, hK, hpre, hZ⟩, hx, hb, hml, hr, hlk, hnm, hown, hW, hfr, hlo, hok⟩ := cx
  obtain ⟨hbp, hd, hlen, hnx, hxx⟩ := hok.at he
  unfold okX at hxx
  rw [hi] at hd hlen hnx hxx
  have hlen := hlen rfl
  have hnx := hnx rfl
  rw [hlen] at hd hnx
  rw [hbp]
  rw [hnx] at k
  exact lv_dup2_11 hx hb hd (by rw [cv_cat]; exact hv) (by rw [cv_cat]; exact hu) (k LS hl)
theorem st1_W {M : Mth} {d ip : Nat} {p : Program} {l : Launch} {e : Env} {R : Room} {s : State} {m : MethodId} {args : Array Value} {below : List Frame} {meth : Method} {c : Code} {U0 : State} {a0 : Array Value} {D : va_G} {pre : Nat → Nat} (cx : CX M d p l e R s m args below meth c U0 a0 D pre) {en : Ent} (he : (mT M)[ip]? = some en) {ls : LV} {st : List AV} {H : Heap} {locs : List Loc} {cells slots : Nat} {Qf : State → Prop} {LS : Array Slot} (hl : lvR (sg U0 pre) LS (mL M) ls) {ls' : LV} {st' : List AV} (hs : st1 ls (eI en) st = some (ls', st')) (k : ∀ LS' : Array Slot, lvR (sg U0 pre) LS' (mL M) ls' → W p l e R s m args below meth c H locs cells slots Qf (F0 m (bp M (eN en)) LS' (st'.map (cv (sg U0 pre))))) : W p l e R s m args below meth c H locs cells slots Qf (F0 m (bp M ip) LS (st.map (cv (sg U0 pre)))) := by
  generalize hI : eI en = ins at hs
  unfold st1 at hs
  split at hs
  · cases hs
    exact S_iconst cx he hl hI k
  · cases hs
    exact S_bipush cx he hl hI k
  · cases hs
    exact S_sipush cx he hl hI k
  · cases hs
    exact S_lconst cx he hl hI k
  · split at hs
    · rename_i hv
      cases hs
      exact S_iload cx he hl hv hI k
    · cases hs
  · split at hs
    · rename_i hv
      cases hs
      exact S_iload_n cx he hl hv hI k
    · cases hs
  · split at hs
    · rename_i hv
      cases hs
      exact S_lload cx he hl hv hI k
    · cases hs
  · split at hs
    · rename_i hv
      cases hs
      exact S_lload_n cx he hl hv hI k
    · cases hs
  · split at hs
    · rename_i hv
      cases hs
      exact S_aload cx he hl hv hI k
    · cases hs
  · split at hs
    · rename_i hv
      cases hs
      exact S_aload_n cx he hl hv hI k
    · cases hs
  · cases hs
    exact S_istore cx he hl hI k
  · cases hs
    exact S_istore_n cx he hl hI k
  · cases hs
    exact S_lstore cx he hl hI k
  · cases hs
    exact S_lstore_n cx he hl hI k
  · cases hs
    exact S_astore cx he hl hI k
  · cases hs
    exact S_astore_n cx he hl hI k
  · split at hs
    · rename_i hv
      cases hs
      exact S_iinc cx he hl hv hI k
    · cases hs
  · cases hs
    exact S_iadd cx he hl hI k
  · cases hs
    exact S_isub cx he hl hI k
  · cases hs
    exact S_imul cx he hl hI k
  · cases hs
    exact S_ineg cx he hl hI k
  · cases hs
    exact S_iand cx he hl hI k
  · cases hs
    exact S_ior cx he hl hI k
  · cases hs
    exact S_ixor cx he hl hI k
  · cases hs
    exact S_ishl cx he hl hI k
  · cases hs
    exact S_ishr cx he hl hI k
  · cases hs
    exact S_iushr cx he hl hI k
  · cases hs
    exact S_ladd cx he hl hI k
  · cases hs
    exact S_lsub cx he hl hI k
  · cases hs
    exact S_lmul cx he hl hI k
  · cases hs
    exact S_l2i cx he hl hI k
  · split at hs
    · rename_i hv
      cases hs
      exact S_pop cx he hl hv hI k
    · cases hs
  · split at hs
    · rename_i hv
      cases hs
      exact S_dup cx he hl hv hI k
    · cases hs
  · split at hs
    · rename_i hv hu
      cases hs
      exact S_dup_x1 cx he hl hv hu hI k
    · cases hs
  · split at hs
    · rename_i hv hu ht
      cases hs
      exact S_dup_x2 cx he hl hv hu ht hI k
    · cases hs
  · split at hs
    · rename_i hv hu
      cases hs
      exact S_dup2 cx he hl hv hu hI k
    · cases hs
  · cases hs
theorem WP_s {M : Mth} {d ip : Nat} {ls ls' : LV} {st st' : List AV} {h : Hp} {Q : Option AV → Hp → Prop} {en : Ent} (he : (mT M)[ip]? = some en) (hs : st1 ls (eI en) st = some (ls', st')) (k : WP M d (eN en) ls' st' h Q) : WP M d ip ls st h Q :=
  WP_pure (fun p l e R s m args below meth c U0 a0 D pre cx H locs cells slots Qf LS _ hl k => st1_W cx he hl hs k) k
theorem WP_goto {M : Mth} {d ip : Nat} {ls : LV} {st : List AV} {h : Hp} {Q : Option AV → Hp → Prop} {en : Ent} {o : Int} (he : (mT M)[ip]? = some en) (hi : eI en = .goto o) (k : WP M d (eX en) ls st h Q) : WP M d ip ls st h Q := by
  refine WP_pure (fun p l e R s m args below meth c U0 a0 D pre cx H locs cells slots Qf LS _ hl k => ?_) k
  obtain ⟨⟨hg, hK, hpre, hZ⟩, hx, hb, hml, hr, hlk, hnm, hown, hW, hfr, hlo, hok⟩ := cx
  obtain ⟨hbp, hd, hlen, hnx, hxx⟩ := hok.at he
  unfold okX at hxx
  rw [hi] at hd hlen hnx hxx
  rw [hlen rfl] at hd
  rw [hbp]
  exact lv_goto hx hb hd (of_decide_eq_true hxx) (k LS hl)
/-- runs n instructions of these, and gotos -/
def ex (M : Mth) : Nat → Nat → LV → List AV → Option (Nat × LV × List AV)
  | 0, ip, ls, st => some (ip, ls, st)
  | n + 1, ip, ls, st => match (mT M)[ip]? with
    | none => none
    | some e => match eI e with
      | .goto _ => ex M n (eX e) ls st
      | i => match st1 ls i st with
        | some (ls', st') => ex M n (eN e) ls' st'
        | none => none
theorem WP_n {M : Mth} {d : Nat} {h : Hp} {Q : Option AV → Hp → Prop} : ∀ (n : Nat) {ip ip' : Nat} {ls ls' : LV} {st st' : List AV}, ex M n ip ls st = some (ip', ls', st') → WP M d ip' ls' st' h Q → WP M d ip ls st h Q
  | 0, ip, ip', ls, ls', st, st', he, k => by
    cases he
    exact k
  | n + 1, ip, ip', ls, ls', st, st', he, k => by
    unfold ex at he
    split at he
    · cases he
    · rename_i e h1
      split at he
      · rename_i o h2
        exact WP_goto h1 h2 (WP_n n he k)
      · split at he
        · rename_i ls1 st1 h3
          exact WP_s h1 h3 (WP_n n he k)
        · cases he

/-! the rows of moves put into their fields -/
theorem WP2_putml {P : PP} {M : Mth} {d ip : Nat} {ls : LV} {st : List AV} {FI A L : Nat → Nat → Int} {X : SX} {Q : Option AV → S2 → Prop} {en : Ent} (he : (mT M)[ip]? = some en) {i w : Nat} (hi : eI en = .putfield i) (hx : eX en = 3) (hy : eY en = 6) (hfin : (((vwCl[eX en]?).getD ("", TX0, 0)).2.1 (eY en)).2.2.2 = false) (hv : fok (clT (eX en) (eY en)) (vr w)) (k : WP2 P M d (eN en) ls st (FI, A, L, (X.1, X.2.1, w, X.2.2.2.1, X.2.2.2.2)) Q) : WP2 P M d ip ls (vr w :: vr 152 :: st) (FI, A, L, X) Q := by
  refine WP_putf he hi (by rw [hx]; exact cc2_obj (P := P) (FI := FI) (A := A) (L := L) (X := X) (a := 152) rfl) (by show 152 < 193 + X.1; omega) (by omega) hfin hv ?_
  have e : setC (H2 P (FI, A, L, X)) 152 (.inl (eX en, (flds FI X.2.2.1 X.2.2.2.1 152).set (eY en) (vr w))) = H2 P (FI, A, L, (X.1, X.2.1, w, X.2.2.2.1, X.2.2.2.2)) := by
    rw [hx, hy]
    unfold setC H2
    refine congrArg (fun f => (193 + X.1, X.2.1, f)) (funext fun b => ?_)
    by_cases e : b = 152
    · subst e
      show (if 152 = 152 then _ else _) = cc2 P FI A L (X.1, X.2.1, w, X.2.2.2.1, X.2.2.2.2) 152
      rw [if_pos rfl, cc2_obj rfl]
      rfl
    · show (if b = 152 then _ else cc2 P FI A L X b) = cc2 P FI A L (X.1, X.2.1, w, X.2.2.2.1, X.2.2.2.2) b
      rw [if_neg e]
      have ef : flds FI w X.2.2.2.1 b = flds FI X.2.2.1 X.2.2.2.1 b := by
        unfold flds
        rw [show (b == 152) = false from beq_false_of_ne e]
        rfl
      unfold cc2
      simp only [ef]
  unfold WP2 at k
  rw [← e] at k
  exact k
theorem WP2_putqu {P : PP} {M : Mth} {d ip : Nat} {ls : LV} {st : List AV} {FI A L : Nat → Nat → Int} {X : SX} {Q : Option AV → S2 → Prop} {en : Ent} (he : (mT M)[ip]? = some en) {i w : Nat} (hi : eI en = .putfield i) (hx : eX en = 3) (hy : eY en = 7) (hfin : (((vwCl[eX en]?).getD ("", TX0, 0)).2.1 (eY en)).2.2.2 = false) (hv : fok (clT (eX en) (eY en)) (vr w)) (k : WP2 P M d (eN en) ls st (FI, A, L, (X.1, X.2.1, X.2.2.1, w, X.2.2.2.2)) Q) : WP2 P M d ip ls (vr w :: vr 152 :: st) (FI, A, L, X) Q := by
  refine WP_putf he hi (by rw [hx]; exact cc2_obj (P := P) (FI := FI) (A := A) (L := L) (X := X) (a := 152) rfl) (by show 152 < 193 + X.1; omega) (by omega) hfin hv ?_
  have e : setC (H2 P (FI, A, L, X)) 152 (.inl (eX en, (flds FI X.2.2.1 X.2.2.2.1 152).set (eY en) (vr w))) = H2 P (FI, A, L, (X.1, X.2.1, X.2.2.1, w, X.2.2.2.2)) := by
    rw [hx, hy]
    unfold setC H2
    refine congrArg (fun f => (193 + X.1, X.2.1, f)) (funext fun b => ?_)
    by_cases e : b = 152
    · subst e
      show (if 152 = 152 then _ else _) = cc2 P FI A L (X.1, X.2.1, X.2.2.1, w, X.2.2.2.2) 152
      rw [if_pos rfl, cc2_obj rfl]
      rfl
    · show (if b = 152 then _ else cc2 P FI A L X b) = cc2 P FI A L (X.1, X.2.1, X.2.2.1, w, X.2.2.2.2) b
      rw [if_neg e]
      have ef : flds FI X.2.2.1 w b = flds FI X.2.2.1 X.2.2.2.1 b := by
        unfold flds
        rw [show (b == 152) = false from beq_false_of_ne e]
        rfl
      unfold cc2
      simp only [ef]
  unfold WP2 at k
  rw [← e] at k
  exact k

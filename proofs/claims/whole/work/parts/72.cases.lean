/-! the law: its cases -/
theorem WP_same {M : Mth} {d ip : Nat} {ls : LV} {st : List AV} {h : Hp} {Q : Option AV → Hp → Prop} {en : Ent} (he : (mT M)[ip]? = some en) {o : Int} (hi : eI en = .if_icmp .eq o) {x : Int} (k : WP M d (eX en) ls st h Q) : WP M d ip ls (vi x :: vi x :: st) h Q := by
  refine WP_br (cnd := True) (i2 := eN en) (fun p l e R s m args below meth c U0 a0 D pre cx H locs cells slots Qf LS hl kt kf => ?_) (fun _ => k) (fun q => absurd trivial q)
  obtain ⟨⟨hg, hK, hpre, hZ⟩, hx, hb, hml, hr, hlk, hnm, hown, hW, hfr, hlo, hok⟩ := cx
  obtain ⟨hbp, hd, hlen, hnx, hxx⟩ := hok.at he
  unfold okX at hxx
  rw [hi] at hd hlen hnx hxx
  have hlen := hlen rfl
  have hnx := hnx rfl
  rw [hlen] at hd hnx
  rw [hbp]
  rw [hnx] at kf
  exact lv_icmp_eq (x := Int32.ofInt x) (y := Int32.ofInt x) hx hb hd (of_decide_eq_true hxx) (fun q => kt trivial) (fun q => absurd rfl q)
set_option maxRecDepth 8000 in
theorem law_0 {P : PP} {d n : Nat} {FI A L : Nat → Nat → Int} {X : SX} {Q : Option AV → S2 → Prop} (h : INV P n FI A X) (hn : n < 512) (hl : 5 * n + 5 ≤ P.1) (hP : ∀ j, inR (st5 P 0 j)) (kont : ∀ S3, INVS P (n + 1) S3 → WP2 P M_law (d + 31) 776 [some (vr 0), some (vr 5), some (vr 165), some (vi ((5 * n : Nat) : Int))] [] S3 Q) : WP2 P M_law (d + 31) 22 [some (vr 0), some (vr 5), some (vr 165), some (vi ((5 * n : Nat) : Int))] [] (FI, A, L, X) Q := by
  refine WP_n 5 rfl ?_
  refine WP2_ialds (j := ((5 * n) + 1)) rfl rfl (ia_lit (n := P.1) rfl rfl (by omega)) (by omega) (by omega) (by omega) ?_
  refine WP_n 4 rfl ?_
  refine WP2_ialds (j := ((5 * n) + 2)) rfl rfl (ia_lit (n := P.1) rfl rfl (by omega)) (by omega) (by omega) (by omega) ?_
  refine WP_n 4 rfl ?_
  refine WP2_ialds (j := ((5 * n) + 3)) rfl rfl (ia_lit (n := P.1) rfl rfl (by omega)) (by omega) (by omega) (by omega) ?_
  refine WP2_callV 3 ok_M_F_floor rfl rfl rfl rfl rfl rfl (Nat.le_of_ble_eq_true rfl) (Nat.le_of_ble_eq_true rfl) rfl rfl ?_
  refine WP2.mono (pr_floor h hn (hP _) (hP _) (hP _) d) (fun v S1 hS1 => ?_)
  obtain ⟨r, hv, hg⟩ := hS1
  subst hv
  obtain ⟨FI1, A1, L1, X1⟩ := S1
  refine WP_n 5 rfl ?_
  refine WP2_ialds (j := ((5 * n) + 1)) rfl rfl (ia_lit (n := P.1) rfl rfl (by omega)) (by omega) (by omega) (by omega) ?_
  refine WP_n 4 rfl ?_
  refine WP2_ialds (j := ((5 * n) + 2)) rfl rfl (ia_lit (n := P.1) rfl rfl (by omega)) (by omega) (by omega) (by omega) ?_
  refine WP_n 4 rfl ?_
  refine WP2_ialds (j := ((5 * n) + 3)) rfl rfl (ia_lit (n := P.1) rfl rfl (by omega)) (by omega) (by omega) (by omega) ?_
  refine WP2_callV 3 ok_M_G_floor rfl rfl rfl rfl rfl rfl (Nat.le_of_ble_eq_true rfl) (Nat.le_of_ble_eq_true rfl) rfl rfl ?_
  refine WP2.mono hg (fun v2 S3 hS2 => ?_)
  obtain ⟨hv2, hinv2⟩ := hS2
  subst hv2
  refine WP_same rfl rfl ?_
  exact kont S3 hinv2
set_option maxRecDepth 8000 in
theorem law_1 {P : PP} {d n : Nat} {FI A L : Nat → Nat → Int} {X : SX} {Q : Option AV → S2 → Prop} (h : INV P n FI A X) (hn : n < 512) (hl : 5 * n + 5 ≤ P.1) (hP : ∀ j, inR (st5 P 0 j)) (kont : ∀ S3, INVS P (n + 1) S3 → WP2 P M_law (d + 31) 776 [some (vr 0), some (vr 5), some (vr 165), some (vi ((5 * n : Nat) : Int))] [] S3 Q) : WP2 P M_law (d + 31) 59 [some (vr 0), some (vr 5), some (vr 165), some (vi ((5 * n : Nat) : Int))] [] (FI, A, L, X) Q := by
  refine WP_n 5 rfl ?_
  refine WP2_ialds (j := ((5 * n) + 1)) rfl rfl (ia_lit (n := P.1) rfl rfl (by omega)) (by omega) (by omega) (by omega) ?_
  refine WP_n 4 rfl ?_
  refine WP2_ialds (j := ((5 * n) + 2)) rfl rfl (ia_lit (n := P.1) rfl rfl (by omega)) (by omega) (by omega) (by omega) ?_
  refine WP_n 4 rfl ?_
  refine WP2_ialds (j := ((5 * n) + 3)) rfl rfl (ia_lit (n := P.1) rfl rfl (by omega)) (by omega) (by omega) (by omega) ?_
  refine WP_n 4 rfl ?_
  refine WP2_ialds (j := ((5 * n) + 4)) rfl rfl (ia_lit (n := P.1) rfl rfl (by omega)) (by omega) (by omega) (by omega) ?_
  refine WP2_callV 4 ok_M_F_team rfl rfl rfl rfl rfl rfl (Nat.le_of_ble_eq_true rfl) (Nat.le_of_ble_eq_true rfl) rfl rfl ?_
  refine WP2.mono (pr_team h hn (hP _) (hP _) (hP _) (hP _) d) (fun v S1 hS1 => ?_)
  obtain ⟨r, hv, hg⟩ := hS1
  subst hv
  obtain ⟨FI1, A1, L1, X1⟩ := S1
  refine WP_n 5 rfl ?_
  refine WP2_ialds (j := ((5 * n) + 1)) rfl rfl (ia_lit (n := P.1) rfl rfl (by omega)) (by omega) (by omega) (by omega) ?_
  refine WP_n 4 rfl ?_
  refine WP2_ialds (j := ((5 * n) + 2)) rfl rfl (ia_lit (n := P.1) rfl rfl (by omega)) (by omega) (by omega) (by omega) ?_
  refine WP_n 4 rfl ?_
  refine WP2_ialds (j := ((5 * n) + 3)) rfl rfl (ia_lit (n := P.1) rfl rfl (by omega)) (by omega) (by omega) (by omega) ?_
  refine WP_n 4 rfl ?_
  refine WP2_ialds (j := ((5 * n) + 4)) rfl rfl (ia_lit (n := P.1) rfl rfl (by omega)) (by omega) (by omega) (by omega) ?_
  refine WP2_callV 4 ok_M_G_team rfl rfl rfl rfl rfl rfl (Nat.le_of_ble_eq_true rfl) (Nat.le_of_ble_eq_true rfl) rfl rfl ?_
  refine WP2.mono hg (fun v2 S3 hS2 => ?_)
  obtain ⟨hv2, hinv2⟩ := hS2
  subst hv2
  refine WP_same rfl rfl ?_
  exact kont S3 hinv2
set_option maxRecDepth 8000 in
theorem law_2 {P : PP} {d n : Nat} {FI A L : Nat → Nat → Int} {X : SX} {Q : Option AV → S2 → Prop} (h : INV P n FI A X) (hn : n < 512) (hl : 5 * n + 5 ≤ P.1) (hP : ∀ j, inR (st5 P 0 j)) (kont : ∀ S3, INVS P (n + 1) S3 → WP2 P M_law (d + 31) 776 [some (vr 0), some (vr 5), some (vr 165), some (vi ((5 * n : Nat) : Int))] [] S3 Q) : WP2 P M_law (d + 31) 106 [some (vr 0), some (vr 5), some (vr 165), some (vi ((5 * n : Nat) : Int))] [] (FI, A, L, X) Q := by
  refine WP_n 5 rfl ?_
  refine WP2_ialds (j := ((5 * n) + 1)) rfl rfl (ia_lit (n := P.1) rfl rfl (by omega)) (by omega) (by omega) (by omega) ?_
  refine WP_n 4 rfl ?_
  refine WP2_ialds (j := ((5 * n) + 2)) rfl rfl (ia_lit (n := P.1) rfl rfl (by omega)) (by omega) (by omega) (by omega) ?_
  refine WP2_callV 2 ok_M_F_size rfl rfl rfl rfl rfl rfl (Nat.le_of_ble_eq_true rfl) (Nat.le_of_ble_eq_true rfl) rfl rfl ?_
  refine WP2.mono (pr_size h hn (hP _) (hP _) d) (fun v S1 hS1 => ?_)
  obtain ⟨r, hv, hg⟩ := hS1
  subst hv
  obtain ⟨FI1, A1, L1, X1⟩ := S1
  refine WP_n 5 rfl ?_
  refine WP2_ialds (j := ((5 * n) + 1)) rfl rfl (ia_lit (n := P.1) rfl rfl (by omega)) (by omega) (by omega) (by omega) ?_
  refine WP_n 4 rfl ?_
  refine WP2_ialds (j := ((5 * n) + 2)) rfl rfl (ia_lit (n := P.1) rfl rfl (by omega)) (by omega) (by omega) (by omega) ?_
  refine WP2_callV 2 ok_M_G_size rfl rfl rfl rfl rfl rfl (Nat.le_of_ble_eq_true rfl) (Nat.le_of_ble_eq_true rfl) rfl rfl ?_
  refine WP2.mono hg (fun v2 S3 hS2 => ?_)
  obtain ⟨hv2, hinv2⟩ := hS2
  subst hv2
  refine WP_same rfl rfl ?_
  exact kont S3 hinv2
set_option maxRecDepth 8000 in
theorem law_3 {P : PP} {d n : Nat} {FI A L : Nat → Nat → Int} {X : SX} {Q : Option AV → S2 → Prop} (h : INV P n FI A X) (hn : n < 512) (hl : 5 * n + 5 ≤ P.1) (hP : ∀ j, inR (st5 P 0 j)) (kont : ∀ S3, INVS P (n + 1) S3 → WP2 P M_law (d + 31) 776 [some (vr 0), some (vr 5), some (vr 165), some (vi ((5 * n : Nat) : Int))] [] S3 Q) : WP2 P M_law (d + 31) 133 [some (vr 0), some (vr 5), some (vr 165), some (vi ((5 * n : Nat) : Int))] [] (FI, A, L, X) Q := by
  refine WP_n 5 rfl ?_
  refine WP2_ialds (j := ((5 * n) + 1)) rfl rfl (ia_lit (n := P.1) rfl rfl (by omega)) (by omega) (by omega) (by omega) ?_
  refine WP_n 4 rfl ?_
  refine WP2_ialds (j := ((5 * n) + 2)) rfl rfl (ia_lit (n := P.1) rfl rfl (by omega)) (by omega) (by omega) (by omega) ?_
  refine WP2_callV 2 ok_M_F_sit rfl rfl rfl rfl rfl rfl (Nat.le_of_ble_eq_true rfl) (Nat.le_of_ble_eq_true rfl) rfl rfl ?_
  refine WP2.mono (pr_sit h hn (hP _) (hP _) d) (fun v S1 hS1 => ?_)
  obtain ⟨r, hv, hg⟩ := hS1
  subst hv
  obtain ⟨FI1, A1, L1, X1⟩ := S1
  refine WP_n 5 rfl ?_
  refine WP2_ialds (j := ((5 * n) + 1)) rfl rfl (ia_lit (n := P.1) rfl rfl (by omega)) (by omega) (by omega) (by omega) ?_
  refine WP_n 4 rfl ?_
  refine WP2_ialds (j := ((5 * n) + 2)) rfl rfl (ia_lit (n := P.1) rfl rfl (by omega)) (by omega) (by omega) (by omega) ?_
  refine WP2_callV 2 ok_M_G_sit rfl rfl rfl rfl rfl rfl (Nat.le_of_ble_eq_true rfl) (Nat.le_of_ble_eq_true rfl) rfl rfl ?_
  refine WP2.mono hg (fun v2 S3 hS2 => ?_)
  obtain ⟨hv2, hinv2⟩ := hS2
  subst hv2
  refine WP_same rfl rfl ?_
  exact kont S3 hinv2
set_option maxRecDepth 8000 in
theorem law_4 {P : PP} {d n : Nat} {FI A L : Nat → Nat → Int} {X : SX} {Q : Option AV → S2 → Prop} (h : INV P n FI A X) (hn : n < 512) (hl : 5 * n + 5 ≤ P.1) (hP : ∀ j, inR (st5 P 0 j)) (kont : ∀ S3, INVS P (n + 1) S3 → WP2 P M_law (d + 31) 776 [some (vr 0), some (vr 5), some (vr 165), some (vi ((5 * n : Nat) : Int))] [] S3 Q) : WP2 P M_law (d + 31) 160 [some (vr 0), some (vr 5), some (vr 165), some (vi ((5 * n : Nat) : Int))] [] (FI, A, L, X) Q := by
  by_cases hb : st5 P 0 (5 * n + 2) = 0
  · refine WP_n 5 rfl ?_
    refine WP2_ialds (j := ((5 * n) + 1)) rfl rfl (ia_lit (n := P.1) rfl rfl (by omega)) (by omega) (by omega) (by omega) ?_
    refine WP_n 4 rfl ?_
    refine WP2_ialds (j := ((5 * n) + 2)) rfl rfl (ia_lit (n := P.1) rfl rfl (by omega)) (by omega) (by omega) (by omega) ?_
    refine WP_ifeq rfl rfl (hP _) (fun h171 => ?_) (fun h171 => absurd hb h171)
    refine WP_n 1 rfl ?_
    refine WP2_callV 2 ok_M_F_fix rfl rfl rfl rfl rfl rfl (Nat.le_of_ble_eq_true rfl) (Nat.le_of_ble_eq_true rfl) rfl rfl ?_
    refine WP2.mono (pr_fix h hn (hP _) (Or.inl rfl) d) (fun v S1 hS1 => ?_)
    obtain ⟨r, hv, hg⟩ := hS1
    subst hv
    obtain ⟨FI1, A1, L1, X1⟩ := S1
    refine WP_n 5 rfl ?_
    refine WP2_ialds (j := ((5 * n) + 1)) rfl rfl (ia_lit (n := P.1) rfl rfl (by omega)) (by omega) (by omega) (by omega) ?_
    refine WP_n 4 rfl ?_
    refine WP2_ialds (j := ((5 * n) + 2)) rfl rfl (ia_lit (n := P.1) rfl rfl (by omega)) (by omega) (by omega) (by omega) ?_
    refine WP_ifeq rfl rfl (hP _) (fun h187 => ?_) (fun h187 => absurd hb h187)
    refine WP_n 1 rfl ?_
    refine WP2_callV 2 ok_M_G_fix rfl rfl rfl rfl rfl rfl (Nat.le_of_ble_eq_true rfl) (Nat.le_of_ble_eq_true rfl) rfl rfl ?_
    refine WP2.mono hg (fun v2 S3 hS2 => ?_)
    obtain ⟨hv2, hinv2⟩ := hS2
    subst hv2
    refine WP_same rfl rfl ?_
    exact kont S3 hinv2
  · refine WP_n 5 rfl ?_
    refine WP2_ialds (j := ((5 * n) + 1)) rfl rfl (ia_lit (n := P.1) rfl rfl (by omega)) (by omega) (by omega) (by omega) ?_
    refine WP_n 4 rfl ?_
    refine WP2_ialds (j := ((5 * n) + 2)) rfl rfl (ia_lit (n := P.1) rfl rfl (by omega)) (by omega) (by omega) (by omega) ?_
    refine WP_ifeq rfl rfl (hP _) (fun h171 => absurd h171 hb) (fun h171 => ?_)
    refine WP_n 2 rfl ?_
    refine WP2_callV 2 ok_M_F_fix rfl rfl rfl rfl rfl rfl (Nat.le_of_ble_eq_true rfl) (Nat.le_of_ble_eq_true rfl) rfl rfl ?_
    refine WP2.mono (pr_fix h hn (hP _) (Or.inr rfl) d) (fun v S1 hS1 => ?_)
    obtain ⟨r, hv, hg⟩ := hS1
    subst hv
    obtain ⟨FI1, A1, L1, X1⟩ := S1
    refine WP_n 5 rfl ?_
    refine WP2_ialds (j := ((5 * n) + 1)) rfl rfl (ia_lit (n := P.1) rfl rfl (by omega)) (by omega) (by omega) (by omega) ?_
    refine WP_n 4 rfl ?_
    refine WP2_ialds (j := ((5 * n) + 2)) rfl rfl (ia_lit (n := P.1) rfl rfl (by omega)) (by omega) (by omega) (by omega) ?_
    refine WP_ifeq rfl rfl (hP _) (fun h187 => absurd h187 hb) (fun h187 => ?_)
    refine WP_n 2 rfl ?_
    refine WP2_callV 2 ok_M_G_fix rfl rfl rfl rfl rfl rfl (Nat.le_of_ble_eq_true rfl) (Nat.le_of_ble_eq_true rfl) rfl rfl ?_
    refine WP2.mono hg (fun v2 S3 hS2 => ?_)
    obtain ⟨hv2, hinv2⟩ := hS2
    subst hv2
    refine WP_same rfl rfl ?_
    exact kont S3 hinv2
set_option maxRecDepth 8000 in
theorem law_5 {P : PP} {d n : Nat} {FI A L : Nat → Nat → Int} {X : SX} {Q : Option AV → S2 → Prop} (h : INV P n FI A X) (hn : n < 512) (hl : 5 * n + 5 ≤ P.1) (hP : ∀ j, inR (st5 P 0 j)) (kont : ∀ S3, INVS P (n + 1) S3 → WP2 P M_law (d + 31) 776 [some (vr 0), some (vr 5), some (vr 165), some (vi ((5 * n : Nat) : Int))] [] S3 Q) : WP2 P M_law (d + 31) 195 [some (vr 0), some (vr 5), some (vr 165), some (vi ((5 * n : Nat) : Int))] [] (FI, A, L, X) Q := by
  refine WP_n 5 rfl ?_
  refine WP2_ialds (j := ((5 * n) + 1)) rfl rfl (ia_lit (n := P.1) rfl rfl (by omega)) (by omega) (by omega) (by omega) ?_
  refine WP_n 4 rfl ?_
  refine WP2_ialds (j := ((5 * n) + 2)) rfl rfl (ia_lit (n := P.1) rfl rfl (by omega)) (by omega) (by omega) (by omega) ?_
  refine WP_n 4 rfl ?_
  refine WP2_ialds (j := ((5 * n) + 3)) rfl rfl (ia_lit (n := P.1) rfl rfl (by omega)) (by omega) (by omega) (by omega) ?_
  refine WP_n 4 rfl ?_
  refine WP2_ialds (j := ((5 * n) + 4)) rfl rfl (ia_lit (n := P.1) rfl rfl (by omega)) (by omega) (by omega) (by omega) ?_
  refine WP2_callV 4 ok_M_F_two rfl rfl rfl rfl rfl rfl (Nat.le_of_ble_eq_true rfl) (Nat.le_of_ble_eq_true rfl) rfl rfl ?_
  refine WP2.mono (pr_two h hn (hP _) (hP _) (hP _) (hP _) d) (fun v S1 hS1 => ?_)
  obtain ⟨r, hv, hg⟩ := hS1
  subst hv
  obtain ⟨FI1, A1, L1, X1⟩ := S1
  refine WP_n 5 rfl ?_
  refine WP2_ialds (j := ((5 * n) + 1)) rfl rfl (ia_lit (n := P.1) rfl rfl (by omega)) (by omega) (by omega) (by omega) ?_
  refine WP_n 4 rfl ?_
  refine WP2_ialds (j := ((5 * n) + 2)) rfl rfl (ia_lit (n := P.1) rfl rfl (by omega)) (by omega) (by omega) (by omega) ?_
  refine WP_n 4 rfl ?_
  refine WP2_ialds (j := ((5 * n) + 3)) rfl rfl (ia_lit (n := P.1) rfl rfl (by omega)) (by omega) (by omega) (by omega) ?_
  refine WP_n 4 rfl ?_
  refine WP2_ialds (j := ((5 * n) + 4)) rfl rfl (ia_lit (n := P.1) rfl rfl (by omega)) (by omega) (by omega) (by omega) ?_
  refine WP2_callV 4 ok_M_G_two rfl rfl rfl rfl rfl rfl (Nat.le_of_ble_eq_true rfl) (Nat.le_of_ble_eq_true rfl) rfl rfl ?_
  refine WP2.mono hg (fun v2 S3 hS2 => ?_)
  obtain ⟨hv2, hinv2⟩ := hS2
  subst hv2
  refine WP_same rfl rfl ?_
  exact kont S3 hinv2
set_option maxRecDepth 8000 in
theorem law_6 {P : PP} {d n : Nat} {FI A L : Nat → Nat → Int} {X : SX} {Q : Option AV → S2 → Prop} (h : INV P n FI A X) (hn : n < 512) (hl : 5 * n + 5 ≤ P.1) (hP : ∀ j, inR (st5 P 0 j)) (kont : ∀ S3, INVS P (n + 1) S3 → WP2 P M_law (d + 31) 776 [some (vr 0), some (vr 5), some (vr 165), some (vi ((5 * n : Nat) : Int))] [] S3 Q) : WP2 P M_law (d + 31) 242 [some (vr 0), some (vr 5), some (vr 165), some (vi ((5 * n : Nat) : Int))] [] (FI, A, L, X) Q := by
  refine WP_n 1 rfl ?_
  refine WP2_callV 0 ok_M_F_fit rfl rfl rfl rfl rfl rfl (Nat.le_of_ble_eq_true rfl) (Nat.le_of_ble_eq_true rfl) rfl rfl ?_
  refine WP2.mono (pr_fit h hn d) (fun v S1 hS1 => ?_)
  obtain ⟨r, hv, hg⟩ := hS1
  subst hv
  obtain ⟨FI1, A1, L1, X1⟩ := S1
  refine WP_n 1 rfl ?_
  refine WP2_callV 0 ok_M_G_fit rfl rfl rfl rfl rfl rfl (Nat.le_of_ble_eq_true rfl) (Nat.le_of_ble_eq_true rfl) rfl rfl ?_
  refine WP2.mono hg (fun v2 S3 hS2 => ?_)
  obtain ⟨hv2, hinv2⟩ := hS2
  subst hv2
  refine WP_same rfl rfl ?_
  exact kont S3 hinv2
set_option maxRecDepth 8000 in
theorem law_7 {P : PP} {d n : Nat} {FI A L : Nat → Nat → Int} {X : SX} {Q : Option AV → S2 → Prop} (h : INV P n FI A X) (hn : n < 512) (hl : 5 * n + 5 ≤ P.1) (hP : ∀ j, inR (st5 P 0 j)) (kont : ∀ S3, INVS P (n + 1) S3 → WP2 P M_law (d + 31) 776 [some (vr 0), some (vr 5), some (vr 165), some (vi ((5 * n : Nat) : Int))] [] S3 Q) : WP2 P M_law (d + 31) 249 [some (vr 0), some (vr 5), some (vr 165), some (vi ((5 * n : Nat) : Int))] [] (FI, A, L, X) Q := by
  refine WP_n 5 rfl ?_
  refine WP2_ialds (j := ((5 * n) + 1)) rfl rfl (ia_lit (n := P.1) rfl rfl (by omega)) (by omega) (by omega) (by omega) ?_
  refine WP2_callV 1 ok_M_F_lift rfl rfl rfl rfl rfl rfl (Nat.le_of_ble_eq_true rfl) (Nat.le_of_ble_eq_true rfl) rfl rfl ?_
  refine WP2.mono (pr_lift h hn (hP _) d) (fun v S1 hS1 => ?_)
  obtain ⟨r, hv, hg⟩ := hS1
  subst hv
  obtain ⟨FI1, A1, L1, X1⟩ := S1
  refine WP_n 5 rfl ?_
  refine WP2_ialds (j := ((5 * n) + 1)) rfl rfl (ia_lit (n := P.1) rfl rfl (by omega)) (by omega) (by omega) (by omega) ?_
  refine WP2_callV 1 ok_M_G_lift rfl rfl rfl rfl rfl rfl (Nat.le_of_ble_eq_true rfl) (Nat.le_of_ble_eq_true rfl) rfl rfl ?_
  refine WP2.mono hg (fun v2 S3 hS2 => ?_)
  obtain ⟨hv2, hinv2⟩ := hS2
  subst hv2
  refine WP_same rfl rfl ?_
  exact kont S3 hinv2
set_option maxRecDepth 8000 in
theorem law_8 {P : PP} {d n : Nat} {FI A L : Nat → Nat → Int} {X : SX} {Q : Option AV → S2 → Prop} (h : INV P n FI A X) (hn : n < 512) (hl : 5 * n + 5 ≤ P.1) (hP : ∀ j, inR (st5 P 0 j)) (kont : ∀ S3, INVS P (n + 1) S3 → WP2 P M_law (d + 31) 776 [some (vr 0), some (vr 5), some (vr 165), some (vi ((5 * n : Nat) : Int))] [] S3 Q) : WP2 P M_law (d + 31) 266 [some (vr 0), some (vr 5), some (vr 165), some (vi ((5 * n : Nat) : Int))] [] (FI, A, L, X) Q := by
  refine WP_n 1 rfl ?_
  refine WP2_callV 0 ok_M_F_walked rfl rfl rfl rfl rfl rfl (Nat.le_of_ble_eq_true rfl) (Nat.le_of_ble_eq_true rfl) rfl rfl ?_
  refine WP2.mono (pr_walked h hn d) (fun v S1 hS1 => ?_)
  obtain ⟨r, hv, hg⟩ := hS1
  subst hv
  obtain ⟨FI1, A1, L1, X1⟩ := S1
  refine WP_n 1 rfl ?_
  refine WP2_callV 0 ok_M_G_walked rfl rfl rfl rfl rfl rfl (Nat.le_of_ble_eq_true rfl) (Nat.le_of_ble_eq_true rfl) rfl rfl ?_
  refine WP2.mono hg (fun v2 S3 hS2 => ?_)
  obtain ⟨hv2, hinv2⟩ := hS2
  subst hv2
  refine WP_same rfl rfl ?_
  exact kont S3 hinv2
set_option maxRecDepth 8000 in
theorem law_9 {P : PP} {d n : Nat} {FI A L : Nat → Nat → Int} {X : SX} {Q : Option AV → S2 → Prop} (h : INV P n FI A X) (hn : n < 512) (hl : 5 * n + 5 ≤ P.1) (hP : ∀ j, inR (st5 P 0 j)) (kont : ∀ S3, INVS P (n + 1) S3 → WP2 P M_law (d + 31) 776 [some (vr 0), some (vr 5), some (vr 165), some (vi ((5 * n : Nat) : Int))] [] S3 Q) : WP2 P M_law (d + 31) 273 [some (vr 0), some (vr 5), some (vr 165), some (vi ((5 * n : Nat) : Int))] [] (FI, A, L, X) Q := by
  refine WP_n 5 rfl ?_
  refine WP2_ialds (j := ((5 * n) + 1)) rfl rfl (ia_lit (n := P.1) rfl rfl (by omega)) (by omega) (by omega) (by omega) ?_
  refine WP_n 4 rfl ?_
  refine WP2_ialds (j := ((5 * n) + 2)) rfl rfl (ia_lit (n := P.1) rfl rfl (by omega)) (by omega) (by omega) (by omega) ?_
  refine WP_n 4 rfl ?_
  refine WP2_ialds (j := ((5 * n) + 3)) rfl rfl (ia_lit (n := P.1) rfl rfl (by omega)) (by omega) (by omega) (by omega) ?_
  refine WP2_callV 3 ok_M_F_best rfl rfl rfl rfl rfl rfl (Nat.le_of_ble_eq_true rfl) (Nat.le_of_ble_eq_true rfl) rfl rfl ?_
  refine WP2.mono (pr_best h hn (hP _) (hP _) (hP _) d) (fun v S1 hS1 => ?_)
  obtain ⟨r, hv, hg⟩ := hS1
  subst hv
  obtain ⟨FI1, A1, L1, X1⟩ := S1
  refine WP_n 5 rfl ?_
  refine WP2_ialds (j := ((5 * n) + 1)) rfl rfl (ia_lit (n := P.1) rfl rfl (by omega)) (by omega) (by omega) (by omega) ?_
  refine WP_n 4 rfl ?_
  refine WP2_ialds (j := ((5 * n) + 2)) rfl rfl (ia_lit (n := P.1) rfl rfl (by omega)) (by omega) (by omega) (by omega) ?_
  refine WP_n 4 rfl ?_
  refine WP2_ialds (j := ((5 * n) + 3)) rfl rfl (ia_lit (n := P.1) rfl rfl (by omega)) (by omega) (by omega) (by omega) ?_
  refine WP2_callV 3 ok_M_G_best rfl rfl rfl rfl rfl rfl (Nat.le_of_ble_eq_true rfl) (Nat.le_of_ble_eq_true rfl) rfl rfl ?_
  refine WP2.mono hg (fun v2 S3 hS2 => ?_)
  obtain ⟨hv2, hinv2⟩ := hS2
  subst hv2
  refine WP_same rfl rfl ?_
  exact kont S3 hinv2
set_option maxRecDepth 8000 in
theorem law_10 {P : PP} {d n : Nat} {FI A L : Nat → Nat → Int} {X : SX} {Q : Option AV → S2 → Prop} (h : INV P n FI A X) (hn : n < 512) (hl : 5 * n + 5 ≤ P.1) (hP : ∀ j, inR (st5 P 0 j)) (kont : ∀ S3, INVS P (n + 1) S3 → WP2 P M_law (d + 31) 776 [some (vr 0), some (vr 5), some (vr 165), some (vi ((5 * n : Nat) : Int))] [] S3 Q) : WP2 P M_law (d + 31) 310 [some (vr 0), some (vr 5), some (vr 165), some (vi ((5 * n : Nat) : Int))] [] (FI, A, L, X) Q := by
  refine WP_n 5 rfl ?_
  refine WP2_ialds (j := ((5 * n) + 1)) rfl rfl (ia_lit (n := P.1) rfl rfl (by omega)) (by omega) (by omega) (by omega) ?_
  refine WP_n 4 rfl ?_
  refine WP2_ialds (j := ((5 * n) + 2)) rfl rfl (ia_lit (n := P.1) rfl rfl (by omega)) (by omega) (by omega) (by omega) ?_
  refine WP_n 4 rfl ?_
  refine WP2_ialds (j := ((5 * n) + 3)) rfl rfl (ia_lit (n := P.1) rfl rfl (by omega)) (by omega) (by omega) (by omega) ?_
  refine WP2_callV 3 ok_M_F_bestOf rfl rfl rfl rfl rfl rfl (Nat.le_of_ble_eq_true rfl) (Nat.le_of_ble_eq_true rfl) rfl rfl ?_
  refine WP2.mono (pr_bestOf h hn (hP _) (hP _) (hP _) d) (fun v S1 hS1 => ?_)
  obtain ⟨r, hv, hg⟩ := hS1
  subst hv
  obtain ⟨FI1, A1, L1, X1⟩ := S1
  refine WP_n 5 rfl ?_
  refine WP2_ialds (j := ((5 * n) + 1)) rfl rfl (ia_lit (n := P.1) rfl rfl (by omega)) (by omega) (by omega) (by omega) ?_
  refine WP_n 4 rfl ?_
  refine WP2_ialds (j := ((5 * n) + 2)) rfl rfl (ia_lit (n := P.1) rfl rfl (by omega)) (by omega) (by omega) (by omega) ?_
  refine WP_n 4 rfl ?_
  refine WP2_ialds (j := ((5 * n) + 3)) rfl rfl (ia_lit (n := P.1) rfl rfl (by omega)) (by omega) (by omega) (by omega) ?_
  refine WP2_callV 3 ok_M_G_bestOf rfl rfl rfl rfl rfl rfl (Nat.le_of_ble_eq_true rfl) (Nat.le_of_ble_eq_true rfl) rfl rfl ?_
  refine WP2.mono hg (fun v2 S3 hS2 => ?_)
  obtain ⟨hv2, hinv2⟩ := hS2
  subst hv2
  refine WP_same rfl rfl ?_
  exact kont S3 hinv2
set_option maxRecDepth 8000 in
theorem law_11 {P : PP} {d n : Nat} {FI A L : Nat → Nat → Int} {X : SX} {Q : Option AV → S2 → Prop} (h : INV P n FI A X) (hn : n < 512) (hl : 5 * n + 5 ≤ P.1) (hP : ∀ j, inR (st5 P 0 j)) (kont : ∀ S3, INVS P (n + 1) S3 → WP2 P M_law (d + 31) 776 [some (vr 0), some (vr 5), some (vr 165), some (vi ((5 * n : Nat) : Int))] [] S3 Q) : WP2 P M_law (d + 31) 347 [some (vr 0), some (vr 5), some (vr 165), some (vi ((5 * n : Nat) : Int))] [] (FI, A, L, X) Q := by
  refine WP_n 5 rfl ?_
  refine WP2_ialds (j := ((5 * n) + 1)) rfl rfl (ia_lit (n := P.1) rfl rfl (by omega)) (by omega) (by omega) (by omega) ?_
  refine WP_n 4 rfl ?_
  refine WP2_ialds (j := ((5 * n) + 2)) rfl rfl (ia_lit (n := P.1) rfl rfl (by omega)) (by omega) (by omega) (by omega) ?_
  refine WP2_callV 2 ok_M_F_seat rfl rfl rfl rfl rfl rfl (Nat.le_of_ble_eq_true rfl) (Nat.le_of_ble_eq_true rfl) rfl rfl ?_
  refine WP2.mono (pr_seat h hn (hP _) (hP _) d) (fun v S1 hS1 => ?_)
  obtain ⟨r, hv, hg⟩ := hS1
  subst hv
  obtain ⟨FI1, A1, L1, X1⟩ := S1
  refine WP_n 5 rfl ?_
  refine WP2_ialds (j := ((5 * n) + 1)) rfl rfl (ia_lit (n := P.1) rfl rfl (by omega)) (by omega) (by omega) (by omega) ?_
  refine WP_n 4 rfl ?_
  refine WP2_ialds (j := ((5 * n) + 2)) rfl rfl (ia_lit (n := P.1) rfl rfl (by omega)) (by omega) (by omega) (by omega) ?_
  refine WP2_callV 2 ok_M_G_seat rfl rfl rfl rfl rfl rfl (Nat.le_of_ble_eq_true rfl) (Nat.le_of_ble_eq_true rfl) rfl rfl ?_
  refine WP2.mono hg (fun v2 S3 hS2 => ?_)
  obtain ⟨hv2, hinv2⟩ := hS2
  subst hv2
  refine WP_same rfl rfl ?_
  exact kont S3 hinv2
set_option maxRecDepth 8000 in
theorem law_12 {P : PP} {d n : Nat} {FI A L : Nat → Nat → Int} {X : SX} {Q : Option AV → S2 → Prop} (h : INV P n FI A X) (hn : n < 512) (hl : 5 * n + 5 ≤ P.1) (hP : ∀ j, inR (st5 P 0 j)) (kont : ∀ S3, INVS P (n + 1) S3 → WP2 P M_law (d + 31) 776 [some (vr 0), some (vr 5), some (vr 165), some (vi ((5 * n : Nat) : Int))] [] S3 Q) : WP2 P M_law (d + 31) 374 [some (vr 0), some (vr 5), some (vr 165), some (vi ((5 * n : Nat) : Int))] [] (FI, A, L, X) Q := by
  refine WP_n 5 rfl ?_
  refine WP2_ialds (j := ((5 * n) + 1)) rfl rfl (ia_lit (n := P.1) rfl rfl (by omega)) (by omega) (by omega) (by omega) ?_
  refine WP_n 4 rfl ?_
  refine WP2_ialds (j := ((5 * n) + 2)) rfl rfl (ia_lit (n := P.1) rfl rfl (by omega)) (by omega) (by omega) (by omega) ?_
  refine WP2_callV 2 ok_M_F_target rfl rfl rfl rfl rfl rfl (Nat.le_of_ble_eq_true rfl) (Nat.le_of_ble_eq_true rfl) rfl rfl ?_
  refine WP2.mono (pr_target h hn (hP _) (hP _) d) (fun v S1 hS1 => ?_)
  obtain ⟨r, hv, hg⟩ := hS1
  subst hv
  obtain ⟨FI1, A1, L1, X1⟩ := S1
  refine WP_n 5 rfl ?_
  refine WP2_ialds (j := ((5 * n) + 1)) rfl rfl (ia_lit (n := P.1) rfl rfl (by omega)) (by omega) (by omega) (by omega) ?_
  refine WP_n 4 rfl ?_
  refine WP2_ialds (j := ((5 * n) + 2)) rfl rfl (ia_lit (n := P.1) rfl rfl (by omega)) (by omega) (by omega) (by omega) ?_
  refine WP2_callV 2 ok_M_G_target rfl rfl rfl rfl rfl rfl (Nat.le_of_ble_eq_true rfl) (Nat.le_of_ble_eq_true rfl) rfl rfl ?_
  refine WP2.mono hg (fun v2 S3 hS2 => ?_)
  obtain ⟨hv2, hinv2⟩ := hS2
  subst hv2
  refine WP_same rfl rfl ?_
  exact kont S3 hinv2
set_option maxRecDepth 8000 in
theorem law_13 {P : PP} {d n : Nat} {FI A L : Nat → Nat → Int} {X : SX} {Q : Option AV → S2 → Prop} (h : INV P n FI A X) (hn : n < 512) (hl : 5 * n + 5 ≤ P.1) (hP : ∀ j, inR (st5 P 0 j)) (kont : ∀ S3, INVS P (n + 1) S3 → WP2 P M_law (d + 31) 776 [some (vr 0), some (vr 5), some (vr 165), some (vi ((5 * n : Nat) : Int))] [] S3 Q) : WP2 P M_law (d + 31) 401 [some (vr 0), some (vr 5), some (vr 165), some (vi ((5 * n : Nat) : Int))] [] (FI, A, L, X) Q := by
  refine WP_n 5 rfl ?_
  refine WP2_ialds (j := ((5 * n) + 1)) rfl rfl (ia_lit (n := P.1) rfl rfl (by omega)) (by omega) (by omega) (by omega) ?_
  refine WP2_callV 1 ok_M_F_weekends rfl rfl rfl rfl rfl rfl (Nat.le_of_ble_eq_true rfl) (Nat.le_of_ble_eq_true rfl) rfl rfl ?_
  refine WP2.mono (pr_weekends h hn (hP _) d) (fun v S1 hS1 => ?_)
  obtain ⟨r, hv, hg⟩ := hS1
  subst hv
  obtain ⟨FI1, A1, L1, X1⟩ := S1
  refine WP_n 5 rfl ?_
  refine WP2_ialds (j := ((5 * n) + 1)) rfl rfl (ia_lit (n := P.1) rfl rfl (by omega)) (by omega) (by omega) (by omega) ?_
  refine WP2_callV 1 ok_M_G_weekends rfl rfl rfl rfl rfl rfl (Nat.le_of_ble_eq_true rfl) (Nat.le_of_ble_eq_true rfl) rfl rfl ?_
  refine WP2.mono hg (fun v2 S3 hS2 => ?_)
  obtain ⟨hv2, hinv2⟩ := hS2
  subst hv2
  refine WP_same rfl rfl ?_
  exact kont S3 hinv2
set_option maxRecDepth 8000 in
theorem law_14 {P : PP} {d n : Nat} {FI A L : Nat → Nat → Int} {X : SX} {Q : Option AV → S2 → Prop} (h : INV P n FI A X) (hn : n < 512) (hl : 5 * n + 5 ≤ P.1) (hP : ∀ j, inR (st5 P 0 j)) (kont : ∀ S3, INVS P (n + 1) S3 → WP2 P M_law (d + 31) 776 [some (vr 0), some (vr 5), some (vr 165), some (vi ((5 * n : Nat) : Int))] [] S3 Q) : WP2 P M_law (d + 31) 418 [some (vr 0), some (vr 5), some (vr 165), some (vi ((5 * n : Nat) : Int))] [] (FI, A, L, X) Q := by
  refine WP_n 5 rfl ?_
  refine WP2_ialds (j := ((5 * n) + 1)) rfl rfl (ia_lit (n := P.1) rfl rfl (by omega)) (by omega) (by omega) (by omega) ?_
  refine WP_n 4 rfl ?_
  refine WP2_ialds (j := ((5 * n) + 2)) rfl rfl (ia_lit (n := P.1) rfl rfl (by omega)) (by omega) (by omega) (by omega) ?_
  refine WP_n 4 rfl ?_
  refine WP2_ialds (j := ((5 * n) + 3)) rfl rfl (ia_lit (n := P.1) rfl rfl (by omega)) (by omega) (by omega) (by omega) ?_
  refine WP2_callV 3 ok_M_F_move rfl rfl rfl rfl rfl rfl (Nat.le_of_ble_eq_true rfl) (Nat.le_of_ble_eq_true rfl) rfl rfl ?_
  refine WP2.mono (pr_move h hn (hP _) (hP _) (hP _) d) (fun v S1 hS1 => ?_)
  obtain ⟨r, hv, hg⟩ := hS1
  subst hv
  obtain ⟨FI1, A1, L1, X1⟩ := S1
  refine WP_n 5 rfl ?_
  refine WP2_ialds (j := ((5 * n) + 1)) rfl rfl (ia_lit (n := P.1) rfl rfl (by omega)) (by omega) (by omega) (by omega) ?_
  refine WP_n 4 rfl ?_
  refine WP2_ialds (j := ((5 * n) + 2)) rfl rfl (ia_lit (n := P.1) rfl rfl (by omega)) (by omega) (by omega) (by omega) ?_
  refine WP_n 4 rfl ?_
  refine WP2_ialds (j := ((5 * n) + 3)) rfl rfl (ia_lit (n := P.1) rfl rfl (by omega)) (by omega) (by omega) (by omega) ?_
  refine WP2_callV 3 ok_M_G_move rfl rfl rfl rfl rfl rfl (Nat.le_of_ble_eq_true rfl) (Nat.le_of_ble_eq_true rfl) rfl rfl ?_
  refine WP2.mono hg (fun v2 S3 hS2 => ?_)
  obtain ⟨hv2, hinv2⟩ := hS2
  subst hv2
  refine WP_same rfl rfl ?_
  exact kont S3 hinv2
set_option maxRecDepth 8000 in
theorem law_15 {P : PP} {d n : Nat} {FI A L : Nat → Nat → Int} {X : SX} {Q : Option AV → S2 → Prop} (h : INV P n FI A X) (hn : n < 512) (hl : 5 * n + 5 ≤ P.1) (hP : ∀ j, inR (st5 P 0 j)) (kont : ∀ S3, INVS P (n + 1) S3 → WP2 P M_law (d + 31) 776 [some (vr 0), some (vr 5), some (vr 165), some (vi ((5 * n : Nat) : Int))] [] S3 Q) : WP2 P M_law (d + 31) 455 [some (vr 0), some (vr 5), some (vr 165), some (vi ((5 * n : Nat) : Int))] [] (FI, A, L, X) Q := by
  refine WP_n 5 rfl ?_
  refine WP2_ialds (j := ((5 * n) + 1)) rfl rfl (ia_lit (n := P.1) rfl rfl (by omega)) (by omega) (by omega) (by omega) ?_
  refine WP2_callV 1 ok_M_F_go rfl rfl rfl rfl rfl rfl (Nat.le_of_ble_eq_true rfl) (Nat.le_of_ble_eq_true rfl) rfl rfl ?_
  refine WP2.mono (pr_go h hn (hP _) d) (fun v S1 hS1 => ?_)
  obtain ⟨r, hv, hg⟩ := hS1
  subst hv
  obtain ⟨FI1, A1, L1, X1⟩ := S1
  refine WP_n 5 rfl ?_
  refine WP2_ialds (j := ((5 * n) + 1)) rfl rfl (ia_lit (n := P.1) rfl rfl (by omega)) (by omega) (by omega) (by omega) ?_
  refine WP2_callV 1 ok_M_G_go rfl rfl rfl rfl rfl rfl (Nat.le_of_ble_eq_true rfl) (Nat.le_of_ble_eq_true rfl) rfl rfl ?_
  refine WP2.mono hg (fun v2 S3 hS2 => ?_)
  obtain ⟨hv2, hinv2⟩ := hS2
  subst hv2
  refine WP_same rfl rfl ?_
  exact kont S3 hinv2
set_option maxRecDepth 8000 in
theorem law_16 {P : PP} {d n : Nat} {FI A L : Nat → Nat → Int} {X : SX} {Q : Option AV → S2 → Prop} (h : INV P n FI A X) (hn : n < 512) (hl : 5 * n + 5 ≤ P.1) (hP : ∀ j, inR (st5 P 0 j)) (kont : ∀ S3, INVS P (n + 1) S3 → WP2 P M_law (d + 31) 776 [some (vr 0), some (vr 5), some (vr 165), some (vi ((5 * n : Nat) : Int))] [] S3 Q) : WP2 P M_law (d + 31) 472 [some (vr 0), some (vr 5), some (vr 165), some (vi ((5 * n : Nat) : Int))] [] (FI, A, L, X) Q := by
  refine WP_n 5 rfl ?_
  refine WP2_ialds (j := ((5 * n) + 1)) rfl rfl (ia_lit (n := P.1) rfl rfl (by omega)) (by omega) (by omega) (by omega) ?_
  refine WP_n 4 rfl ?_
  refine WP2_ialds (j := ((5 * n) + 2)) rfl rfl (ia_lit (n := P.1) rfl rfl (by omega)) (by omega) (by omega) (by omega) ?_
  refine WP_n 4 rfl ?_
  refine WP2_ialds (j := ((5 * n) + 3)) rfl rfl (ia_lit (n := P.1) rfl rfl (by omega)) (by omega) (by omega) (by omega) ?_
  refine WP2_callV 3 ok_M_F_person rfl rfl rfl rfl rfl rfl (Nat.le_of_ble_eq_true rfl) (Nat.le_of_ble_eq_true rfl) rfl rfl ?_
  refine WP2.mono (pr_person h hn (hP _) (hP _) (hP _) d) (fun v S1 hS1 => ?_)
  obtain ⟨r, hv, hg⟩ := hS1
  subst hv
  obtain ⟨FI1, A1, L1, X1⟩ := S1
  refine WP_n 5 rfl ?_
  refine WP2_ialds (j := ((5 * n) + 1)) rfl rfl (ia_lit (n := P.1) rfl rfl (by omega)) (by omega) (by omega) (by omega) ?_
  refine WP_n 4 rfl ?_
  refine WP2_ialds (j := ((5 * n) + 2)) rfl rfl (ia_lit (n := P.1) rfl rfl (by omega)) (by omega) (by omega) (by omega) ?_
  refine WP_n 4 rfl ?_
  refine WP2_ialds (j := ((5 * n) + 3)) rfl rfl (ia_lit (n := P.1) rfl rfl (by omega)) (by omega) (by omega) (by omega) ?_
  refine WP2_callV 3 ok_M_G_person rfl rfl rfl rfl rfl rfl (Nat.le_of_ble_eq_true rfl) (Nat.le_of_ble_eq_true rfl) rfl rfl ?_
  refine WP2.mono hg (fun v2 S3 hS2 => ?_)
  obtain ⟨hv2, hinv2⟩ := hS2
  subst hv2
  refine WP_same rfl rfl ?_
  exact kont S3 hinv2
set_option maxRecDepth 8000 in
theorem law_17 {P : PP} {d n : Nat} {FI A L : Nat → Nat → Int} {X : SX} {Q : Option AV → S2 → Prop} (h : INV P n FI A X) (hn : n < 512) (hl : 5 * n + 5 ≤ P.1) (hP : ∀ j, inR (st5 P 0 j)) (kont : ∀ S3, INVS P (n + 1) S3 → WP2 P M_law (d + 31) 776 [some (vr 0), some (vr 5), some (vr 165), some (vi ((5 * n : Nat) : Int))] [] S3 Q) : WP2 P M_law (d + 31) 509 [some (vr 0), some (vr 5), some (vr 165), some (vi ((5 * n : Nat) : Int))] [] (FI, A, L, X) Q := by
  refine WP_n 5 rfl ?_
  refine WP2_ialds (j := ((5 * n) + 1)) rfl rfl (ia_lit (n := P.1) rfl rfl (by omega)) (by omega) (by omega) (by omega) ?_
  refine WP2_callV 1 ok_M_F_desks rfl rfl rfl rfl rfl rfl (Nat.le_of_ble_eq_true rfl) (Nat.le_of_ble_eq_true rfl) rfl rfl ?_
  refine WP2.mono (pr_desks h hn (hP _) d) (fun v S1 hS1 => ?_)
  obtain ⟨r, hv, hg⟩ := hS1
  subst hv
  obtain ⟨FI1, A1, L1, X1⟩ := S1
  refine WP_n 5 rfl ?_
  refine WP2_ialds (j := ((5 * n) + 1)) rfl rfl (ia_lit (n := P.1) rfl rfl (by omega)) (by omega) (by omega) (by omega) ?_
  refine WP2_callV 1 ok_M_G_desks rfl rfl rfl rfl rfl rfl (Nat.le_of_ble_eq_true rfl) (Nat.le_of_ble_eq_true rfl) rfl rfl ?_
  refine WP2.mono hg (fun v2 S3 hS2 => ?_)
  obtain ⟨hv2, hinv2⟩ := hS2
  subst hv2
  refine WP_same rfl rfl ?_
  exact kont S3 hinv2
set_option maxRecDepth 8000 in
theorem law_18 {P : PP} {d n : Nat} {FI A L : Nat → Nat → Int} {X : SX} {Q : Option AV → S2 → Prop} (h : INV P n FI A X) (hn : n < 512) (hl : 5 * n + 5 ≤ P.1) (hP : ∀ j, inR (st5 P 0 j)) (kont : ∀ S3, INVS P (n + 1) S3 → WP2 P M_law (d + 31) 776 [some (vr 0), some (vr 5), some (vr 165), some (vi ((5 * n : Nat) : Int))] [] S3 Q) : WP2 P M_law (d + 31) 526 [some (vr 0), some (vr 5), some (vr 165), some (vi ((5 * n : Nat) : Int))] [] (FI, A, L, X) Q := by
  refine WP_n 5 rfl ?_
  refine WP2_ialds (j := ((5 * n) + 1)) rfl rfl (ia_lit (n := P.1) rfl rfl (by omega)) (by omega) (by omega) (by omega) ?_
  refine WP_n 4 rfl ?_
  refine WP2_ialds (j := ((5 * n) + 2)) rfl rfl (ia_lit (n := P.1) rfl rfl (by omega)) (by omega) (by omega) (by omega) ?_
  refine WP_n 4 rfl ?_
  refine WP2_ialds (j := ((5 * n) + 3)) rfl rfl (ia_lit (n := P.1) rfl rfl (by omega)) (by omega) (by omega) (by omega) ?_
  refine WP2_callV 3 ok_M_F_lack rfl rfl rfl rfl rfl rfl (Nat.le_of_ble_eq_true rfl) (Nat.le_of_ble_eq_true rfl) rfl rfl ?_
  refine WP2.mono (pr_lack h hn (hP _) (hP _) (hP _) d) (fun v S1 hS1 => ?_)
  obtain ⟨r, hv, hg⟩ := hS1
  subst hv
  obtain ⟨FI1, A1, L1, X1⟩ := S1
  refine WP_n 5 rfl ?_
  refine WP2_ialds (j := ((5 * n) + 1)) rfl rfl (ia_lit (n := P.1) rfl rfl (by omega)) (by omega) (by omega) (by omega) ?_
  refine WP_n 4 rfl ?_
  refine WP2_ialds (j := ((5 * n) + 2)) rfl rfl (ia_lit (n := P.1) rfl rfl (by omega)) (by omega) (by omega) (by omega) ?_
  refine WP_n 4 rfl ?_
  refine WP2_ialds (j := ((5 * n) + 3)) rfl rfl (ia_lit (n := P.1) rfl rfl (by omega)) (by omega) (by omega) (by omega) ?_
  refine WP2_callV 3 ok_M_G_lack rfl rfl rfl rfl rfl rfl (Nat.le_of_ble_eq_true rfl) (Nat.le_of_ble_eq_true rfl) rfl rfl ?_
  refine WP2.mono hg (fun v2 S3 hS2 => ?_)
  obtain ⟨hv2, hinv2⟩ := hS2
  subst hv2
  refine WP_same rfl rfl ?_
  exact kont S3 hinv2
set_option maxRecDepth 8000 in
theorem law_19 {P : PP} {d n : Nat} {FI A L : Nat → Nat → Int} {X : SX} {Q : Option AV → S2 → Prop} (h : INV P n FI A X) (hn : n < 512) (hl : 5 * n + 5 ≤ P.1) (hP : ∀ j, inR (st5 P 0 j)) (kont : ∀ S3, INVS P (n + 1) S3 → WP2 P M_law (d + 31) 776 [some (vr 0), some (vr 5), some (vr 165), some (vi ((5 * n : Nat) : Int))] [] S3 Q) : WP2 P M_law (d + 31) 563 [some (vr 0), some (vr 5), some (vr 165), some (vi ((5 * n : Nat) : Int))] [] (FI, A, L, X) Q := by
  refine WP_n 5 rfl ?_
  refine WP2_ialds (j := ((5 * n) + 1)) rfl rfl (ia_lit (n := P.1) rfl rfl (by omega)) (by omega) (by omega) (by omega) ?_
  refine WP_n 4 rfl ?_
  refine WP2_ialds (j := ((5 * n) + 2)) rfl rfl (ia_lit (n := P.1) rfl rfl (by omega)) (by omega) (by omega) (by omega) ?_
  refine WP2_callV 2 ok_M_F_least rfl rfl rfl rfl rfl rfl (Nat.le_of_ble_eq_true rfl) (Nat.le_of_ble_eq_true rfl) rfl rfl ?_
  refine WP2.mono (pr_least h hn (hP _) (hP _) d) (fun v S1 hS1 => ?_)
  obtain ⟨r, hv, hg⟩ := hS1
  subst hv
  obtain ⟨FI1, A1, L1, X1⟩ := S1
  refine WP_n 5 rfl ?_
  refine WP2_ialds (j := ((5 * n) + 1)) rfl rfl (ia_lit (n := P.1) rfl rfl (by omega)) (by omega) (by omega) (by omega) ?_
  refine WP_n 4 rfl ?_
  refine WP2_ialds (j := ((5 * n) + 2)) rfl rfl (ia_lit (n := P.1) rfl rfl (by omega)) (by omega) (by omega) (by omega) ?_
  refine WP2_callV 2 ok_M_G_least rfl rfl rfl rfl rfl rfl (Nat.le_of_ble_eq_true rfl) (Nat.le_of_ble_eq_true rfl) rfl rfl ?_
  refine WP2.mono hg (fun v2 S3 hS2 => ?_)
  obtain ⟨hv2, hinv2⟩ := hS2
  subst hv2
  refine WP_same rfl rfl ?_
  exact kont S3 hinv2
set_option maxRecDepth 8000 in
theorem law_20 {P : PP} {d n : Nat} {FI A L : Nat → Nat → Int} {X : SX} {Q : Option AV → S2 → Prop} (h : INV P n FI A X) (hn : n < 512) (hl : 5 * n + 5 ≤ P.1) (hP : ∀ j, inR (st5 P 0 j)) (kont : ∀ S3, INVS P (n + 1) S3 → WP2 P M_law (d + 31) 776 [some (vr 0), some (vr 5), some (vr 165), some (vi ((5 * n : Nat) : Int))] [] S3 Q) : WP2 P M_law (d + 31) 590 [some (vr 0), some (vr 5), some (vr 165), some (vi ((5 * n : Nat) : Int))] [] (FI, A, L, X) Q := by
  refine WP_n 5 rfl ?_
  refine WP2_ialds (j := ((5 * n) + 1)) rfl rfl (ia_lit (n := P.1) rfl rfl (by omega)) (by omega) (by omega) (by omega) ?_
  refine WP_n 4 rfl ?_
  refine WP2_ialds (j := ((5 * n) + 2)) rfl rfl (ia_lit (n := P.1) rfl rfl (by omega)) (by omega) (by omega) (by omega) ?_
  refine WP_n 4 rfl ?_
  refine WP2_ialds (j := ((5 * n) + 3)) rfl rfl (ia_lit (n := P.1) rfl rfl (by omega)) (by omega) (by omega) (by omega) ?_
  refine WP2_callV 3 ok_M_F_grow rfl rfl rfl rfl rfl rfl (Nat.le_of_ble_eq_true rfl) (Nat.le_of_ble_eq_true rfl) rfl rfl ?_
  refine WP2.mono (pr_grow h hn (hP _) (hP _) (hP _) d) (fun v S1 hS1 => ?_)
  obtain ⟨r, hv, hg⟩ := hS1
  subst hv
  obtain ⟨FI1, A1, L1, X1⟩ := S1
  refine WP_n 5 rfl ?_
  refine WP2_ialds (j := ((5 * n) + 1)) rfl rfl (ia_lit (n := P.1) rfl rfl (by omega)) (by omega) (by omega) (by omega) ?_
  refine WP_n 4 rfl ?_
  refine WP2_ialds (j := ((5 * n) + 2)) rfl rfl (ia_lit (n := P.1) rfl rfl (by omega)) (by omega) (by omega) (by omega) ?_
  refine WP_n 4 rfl ?_
  refine WP2_ialds (j := ((5 * n) + 3)) rfl rfl (ia_lit (n := P.1) rfl rfl (by omega)) (by omega) (by omega) (by omega) ?_
  refine WP2_callV 3 ok_M_G_grow rfl rfl rfl rfl rfl rfl (Nat.le_of_ble_eq_true rfl) (Nat.le_of_ble_eq_true rfl) rfl rfl ?_
  refine WP2.mono hg (fun v2 S3 hS2 => ?_)
  obtain ⟨hv2, hinv2⟩ := hS2
  subst hv2
  refine WP_same rfl rfl ?_
  exact kont S3 hinv2
set_option maxRecDepth 8000 in
theorem law_21 {P : PP} {d n : Nat} {FI A L : Nat → Nat → Int} {X : SX} {Q : Option AV → S2 → Prop} (h : INV P n FI A X) (hn : n < 512) (hl : 5 * n + 5 ≤ P.1) (hP : ∀ j, inR (st5 P 0 j)) (kont : ∀ S3, INVS P (n + 1) S3 → WP2 P M_law (d + 31) 776 [some (vr 0), some (vr 5), some (vr 165), some (vi ((5 * n : Nat) : Int))] [] S3 Q) : WP2 P M_law (d + 31) 627 [some (vr 0), some (vr 5), some (vr 165), some (vi ((5 * n : Nat) : Int))] [] (FI, A, L, X) Q := by
  refine WP_n 5 rfl ?_
  refine WP2_ialds (j := ((5 * n) + 1)) rfl rfl (ia_lit (n := P.1) rfl rfl (by omega)) (by omega) (by omega) (by omega) ?_
  refine WP_n 4 rfl ?_
  refine WP2_ialds (j := ((5 * n) + 2)) rfl rfl (ia_lit (n := P.1) rfl rfl (by omega)) (by omega) (by omega) (by omega) ?_
  refine WP2_callV 2 ok_M_F_sizeIn rfl rfl rfl rfl rfl rfl (Nat.le_of_ble_eq_true rfl) (Nat.le_of_ble_eq_true rfl) rfl rfl ?_
  refine WP2.mono (pr_sizeIn h hn (hP _) (hP _) d) (fun v S1 hS1 => ?_)
  obtain ⟨r, hv, hg⟩ := hS1
  subst hv
  obtain ⟨FI1, A1, L1, X1⟩ := S1
  refine WP_n 5 rfl ?_
  refine WP2_ialds (j := ((5 * n) + 1)) rfl rfl (ia_lit (n := P.1) rfl rfl (by omega)) (by omega) (by omega) (by omega) ?_
  refine WP_n 4 rfl ?_
  refine WP2_ialds (j := ((5 * n) + 2)) rfl rfl (ia_lit (n := P.1) rfl rfl (by omega)) (by omega) (by omega) (by omega) ?_
  refine WP2_callV 2 ok_M_G_sizeIn rfl rfl rfl rfl rfl rfl (Nat.le_of_ble_eq_true rfl) (Nat.le_of_ble_eq_true rfl) rfl rfl ?_
  refine WP2.mono hg (fun v2 S3 hS2 => ?_)
  obtain ⟨hv2, hinv2⟩ := hS2
  subst hv2
  refine WP_same rfl rfl ?_
  exact kont S3 hinv2
set_option maxRecDepth 8000 in
theorem law_22 {P : PP} {d n : Nat} {FI A L : Nat → Nat → Int} {X : SX} {Q : Option AV → S2 → Prop} (h : INV P n FI A X) (hn : n < 512) (hl : 5 * n + 5 ≤ P.1) (hP : ∀ j, inR (st5 P 0 j)) (kont : ∀ S3, INVS P (n + 1) S3 → WP2 P M_law (d + 31) 776 [some (vr 0), some (vr 5), some (vr 165), some (vi ((5 * n : Nat) : Int))] [] S3 Q) : WP2 P M_law (d + 31) 654 [some (vr 0), some (vr 5), some (vr 165), some (vi ((5 * n : Nat) : Int))] [] (FI, A, L, X) Q := by
  refine WP_n 5 rfl ?_
  refine WP2_ialds (j := ((5 * n) + 1)) rfl rfl (ia_lit (n := P.1) rfl rfl (by omega)) (by omega) (by omega) (by omega) ?_
  refine WP_n 4 rfl ?_
  refine WP2_ialds (j := ((5 * n) + 2)) rfl rfl (ia_lit (n := P.1) rfl rfl (by omega)) (by omega) (by omega) (by omega) ?_
  refine WP2_callV 2 ok_M_F_kept rfl rfl rfl rfl rfl rfl (Nat.le_of_ble_eq_true rfl) (Nat.le_of_ble_eq_true rfl) rfl rfl ?_
  refine WP2.mono (pr_kept h hn (hP _) (hP _) d) (fun v S1 hS1 => ?_)
  obtain ⟨r, hv, hg⟩ := hS1
  subst hv
  obtain ⟨FI1, A1, L1, X1⟩ := S1
  refine WP_n 5 rfl ?_
  refine WP2_ialds (j := ((5 * n) + 1)) rfl rfl (ia_lit (n := P.1) rfl rfl (by omega)) (by omega) (by omega) (by omega) ?_
  refine WP_n 4 rfl ?_
  refine WP2_ialds (j := ((5 * n) + 2)) rfl rfl (ia_lit (n := P.1) rfl rfl (by omega)) (by omega) (by omega) (by omega) ?_
  refine WP2_callV 2 ok_M_G_kept rfl rfl rfl rfl rfl rfl (Nat.le_of_ble_eq_true rfl) (Nat.le_of_ble_eq_true rfl) rfl rfl ?_
  refine WP2.mono hg (fun v2 S3 hS2 => ?_)
  obtain ⟨hv2, hinv2⟩ := hS2
  subst hv2
  refine WP_same rfl rfl ?_
  exact kont S3 hinv2
set_option maxRecDepth 8000 in
theorem law_23 {P : PP} {d n : Nat} {FI A L : Nat → Nat → Int} {X : SX} {Q : Option AV → S2 → Prop} (h : INV P n FI A X) (hn : n < 512) (hl : 5 * n + 5 ≤ P.1) (hP : ∀ j, inR (st5 P 0 j)) (kont : ∀ S3, INVS P (n + 1) S3 → WP2 P M_law (d + 31) 776 [some (vr 0), some (vr 5), some (vr 165), some (vi ((5 * n : Nat) : Int))] [] S3 Q) : WP2 P M_law (d + 31) 681 [some (vr 0), some (vr 5), some (vr 165), some (vi ((5 * n : Nat) : Int))] [] (FI, A, L, X) Q := by
  refine WP_n 5 rfl ?_
  refine WP2_ialds (j := ((5 * n) + 1)) rfl rfl (ia_lit (n := P.1) rfl rfl (by omega)) (by omega) (by omega) (by omega) ?_
  refine WP2_callV 1 ok_M_F_bill rfl rfl rfl rfl rfl rfl (Nat.le_of_ble_eq_true rfl) (Nat.le_of_ble_eq_true rfl) rfl rfl ?_
  refine WP2.mono (pr_bill h hn (hP _) d) (fun v S1 hS1 => ?_)
  obtain ⟨r, hv, hg⟩ := hS1
  subst hv
  obtain ⟨FI1, A1, L1, X1⟩ := S1
  refine WP_n 5 rfl ?_
  refine WP2_ialds (j := ((5 * n) + 1)) rfl rfl (ia_lit (n := P.1) rfl rfl (by omega)) (by omega) (by omega) (by omega) ?_
  refine WP2_callV 1 ok_M_G_bill rfl rfl rfl rfl rfl rfl (Nat.le_of_ble_eq_true rfl) (Nat.le_of_ble_eq_true rfl) rfl rfl ?_
  refine WP2.mono hg (fun v2 S3 hS2 => ?_)
  obtain ⟨hv2, hinv2⟩ := hS2
  subst hv2
  refine WP_same rfl rfl ?_
  exact kont S3 hinv2
set_option maxRecDepth 8000 in
theorem law_24 {P : PP} {d n : Nat} {FI A L : Nat → Nat → Int} {X : SX} {Q : Option AV → S2 → Prop} (h : INV P n FI A X) (hn : n < 512) (hl : 5 * n + 5 ≤ P.1) (hP : ∀ j, inR (st5 P 0 j)) (kont : ∀ S3, INVS P (n + 1) S3 → WP2 P M_law (d + 31) 776 [some (vr 0), some (vr 5), some (vr 165), some (vi ((5 * n : Nat) : Int))] [] S3 Q) : WP2 P M_law (d + 31) 698 [some (vr 0), some (vr 5), some (vr 165), some (vi ((5 * n : Nat) : Int))] [] (FI, A, L, X) Q := by
  refine WP_n 5 rfl ?_
  refine WP2_ialds (j := ((5 * n) + 1)) rfl rfl (ia_lit (n := P.1) rfl rfl (by omega)) (by omega) (by omega) (by omega) ?_
  refine WP2_callV 1 ok_M_F_turn rfl rfl rfl rfl rfl rfl (Nat.le_of_ble_eq_true rfl) (Nat.le_of_ble_eq_true rfl) rfl rfl ?_
  refine WP2.mono (pr_turn h hn (hP _) d) (fun v S1 hS1 => ?_)
  obtain ⟨r, hv, hg⟩ := hS1
  subst hv
  obtain ⟨FI1, A1, L1, X1⟩ := S1
  refine WP_n 5 rfl ?_
  refine WP2_ialds (j := ((5 * n) + 1)) rfl rfl (ia_lit (n := P.1) rfl rfl (by omega)) (by omega) (by omega) (by omega) ?_
  refine WP2_callV 1 ok_M_G_turn rfl rfl rfl rfl rfl rfl (Nat.le_of_ble_eq_true rfl) (Nat.le_of_ble_eq_true rfl) rfl rfl ?_
  refine WP2.mono hg (fun v2 S3 hS2 => ?_)
  obtain ⟨hv2, hinv2⟩ := hS2
  subst hv2
  refine WP_same rfl rfl ?_
  exact kont S3 hinv2
set_option maxRecDepth 8000 in
theorem law_25 {P : PP} {d n : Nat} {FI A L : Nat → Nat → Int} {X : SX} {Q : Option AV → S2 → Prop} (h : INV P n FI A X) (hn : n < 512) (hl : 5 * n + 5 ≤ P.1) (hP : ∀ j, inR (st5 P 0 j)) (kont : ∀ S3, INVS P (n + 1) S3 → WP2 P M_law (d + 31) 776 [some (vr 0), some (vr 5), some (vr 165), some (vi ((5 * n : Nat) : Int))] [] S3 Q) : WP2 P M_law (d + 31) 715 [some (vr 0), some (vr 5), some (vr 165), some (vi ((5 * n : Nat) : Int))] [] (FI, A, L, X) Q := by
  refine WP_n 5 rfl ?_
  refine WP2_ialds (j := ((5 * n) + 1)) rfl rfl (ia_lit (n := P.1) rfl rfl (by omega)) (by omega) (by omega) (by omega) ?_
  refine WP_n 4 rfl ?_
  refine WP2_ialds (j := ((5 * n) + 2)) rfl rfl (ia_lit (n := P.1) rfl rfl (by omega)) (by omega) (by omega) (by omega) ?_
  refine WP2_callV 2 ok_M_F_teamOf rfl rfl rfl rfl rfl rfl (Nat.le_of_ble_eq_true rfl) (Nat.le_of_ble_eq_true rfl) rfl rfl ?_
  refine WP2.mono (pr_teamOf h hn (hP _) (hP _) d) (fun v S1 hS1 => ?_)
  obtain ⟨r, hv, hg⟩ := hS1
  subst hv
  obtain ⟨FI1, A1, L1, X1⟩ := S1
  refine WP_n 5 rfl ?_
  refine WP2_ialds (j := ((5 * n) + 1)) rfl rfl (ia_lit (n := P.1) rfl rfl (by omega)) (by omega) (by omega) (by omega) ?_
  refine WP_n 4 rfl ?_
  refine WP2_ialds (j := ((5 * n) + 2)) rfl rfl (ia_lit (n := P.1) rfl rfl (by omega)) (by omega) (by omega) (by omega) ?_
  refine WP2_callV 2 ok_M_G_teamOf rfl rfl rfl rfl rfl rfl (Nat.le_of_ble_eq_true rfl) (Nat.le_of_ble_eq_true rfl) rfl rfl ?_
  refine WP2.mono hg (fun v2 S3 hS2 => ?_)
  obtain ⟨hv2, hinv2⟩ := hS2
  subst hv2
  refine WP_same rfl rfl ?_
  exact kont S3 hinv2
set_option maxRecDepth 8000 in
theorem law_26 {P : PP} {d n : Nat} {FI A L : Nat → Nat → Int} {X : SX} {Q : Option AV → S2 → Prop} (h : INV P n FI A X) (hn : n < 512) (hl : 5 * n + 5 ≤ P.1) (hP : ∀ j, inR (st5 P 0 j)) (kont : ∀ S3, INVS P (n + 1) S3 → WP2 P M_law (d + 31) 776 [some (vr 0), some (vr 5), some (vr 165), some (vi ((5 * n : Nat) : Int))] [] S3 Q) : WP2 P M_law (d + 31) 742 [some (vr 0), some (vr 5), some (vr 165), some (vi ((5 * n : Nat) : Int))] [] (FI, A, L, X) Q := by
  refine WP_n 5 rfl ?_
  refine WP2_ialds (j := ((5 * n) + 1)) rfl rfl (ia_lit (n := P.1) rfl rfl (by omega)) (by omega) (by omega) (by omega) ?_
  refine WP2_callV 1 ok_M_F_free rfl rfl rfl rfl rfl rfl (Nat.le_of_ble_eq_true rfl) (Nat.le_of_ble_eq_true rfl) rfl rfl ?_
  refine WP2.mono (pr_free h hn (hP _) d) (fun v S1 hS1 => ?_)
  obtain ⟨r, hv, hg⟩ := hS1
  subst hv
  obtain ⟨FI1, A1, L1, X1⟩ := S1
  refine WP_n 5 rfl ?_
  refine WP2_ialds (j := ((5 * n) + 1)) rfl rfl (ia_lit (n := P.1) rfl rfl (by omega)) (by omega) (by omega) (by omega) ?_
  refine WP2_callV 1 ok_M_G_free rfl rfl rfl rfl rfl rfl (Nat.le_of_ble_eq_true rfl) (Nat.le_of_ble_eq_true rfl) rfl rfl ?_
  refine WP2.mono hg (fun v2 S3 hS2 => ?_)
  obtain ⟨hv2, hinv2⟩ := hS2
  subst hv2
  refine WP_same rfl rfl ?_
  exact kont S3 hinv2
set_option maxRecDepth 8000 in
theorem law_27 {P : PP} {d n : Nat} {FI A L : Nat → Nat → Int} {X : SX} {Q : Option AV → S2 → Prop} (h : INV P n FI A X) (hn : n < 512) (hl : 5 * n + 5 ≤ P.1) (hP : ∀ j, inR (st5 P 0 j)) (kont : ∀ S3, INVS P (n + 1) S3 → WP2 P M_law (d + 31) 776 [some (vr 0), some (vr 5), some (vr 165), some (vi ((5 * n : Nat) : Int))] [] S3 Q) : WP2 P M_law (d + 31) 759 [some (vr 0), some (vr 5), some (vr 165), some (vi ((5 * n : Nat) : Int))] [] (FI, A, L, X) Q := by
  refine WP_n 5 rfl ?_
  refine WP2_ialds (j := ((5 * n) + 1)) rfl rfl (ia_lit (n := P.1) rfl rfl (by omega)) (by omega) (by omega) (by omega) ?_
  refine WP2_callV 1 ok_M_F_count rfl rfl rfl rfl rfl rfl (Nat.le_of_ble_eq_true rfl) (Nat.le_of_ble_eq_true rfl) rfl rfl ?_
  refine WP2.mono (pr_count h hn (hP _) d) (fun v S1 hS1 => ?_)
  obtain ⟨r, hv, hg⟩ := hS1
  subst hv
  obtain ⟨FI1, A1, L1, X1⟩ := S1
  refine WP_n 5 rfl ?_
  refine WP2_ialds (j := ((5 * n) + 1)) rfl rfl (ia_lit (n := P.1) rfl rfl (by omega)) (by omega) (by omega) (by omega) ?_
  refine WP2_callV 1 ok_M_G_count rfl rfl rfl rfl rfl rfl (Nat.le_of_ble_eq_true rfl) (Nat.le_of_ble_eq_true rfl) rfl rfl ?_
  refine WP2.mono hg (fun v2 S3 hS2 => ?_)
  obtain ⟨hv2, hinv2⟩ := hS2
  subst hv2
  refine WP_same rfl rfl ?_
  exact kont S3 hinv2

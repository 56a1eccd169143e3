/-! the small constructors -/
def FIi (a k : Nat) : Int := cond ((a == 6 && k == 9) || (a == 165 && k == 1)) 1 (cond ((a == 152 && Nat.ble 11 k) || (a == 162 && Nat.ble 4 k)) (-9) 0)
theorem sp_S_init {P : PP} {d : Nat} {A : Nat → Nat → Int} {c5 : AC} {Q : Option AV → Hp → Prop} (hz : ∀ a j, 138 ≤ a → A a j = 0) (hq : Q none (EH P FIi A 152 2131 c5 138 (cc2 P FIi A L0 X0 138))) : WP M_S_init (d + 1) 0 [some (vr 138), some (vr 6)] [] (EH P FIi A 139 2067 c5 138 (.inl (4, nfs 4 12))) Q := by
  refine WP_n 1 rfl ?_
  refine WP_oinit rfl rfl rfl rfl (Nat.le_of_ble_eq_true rfl) ?_
  refine WP_n 2 rfl ?_
  refine WE_newi (n := 7) (k' := 140) (s' := 2074) rfl rfl rfl rfl rfl (by omega) (by omega) (ia_lit rfl rfl (by omega)) (fun j => hz 139 j (by omega)) (by omega) ?_
  refine WE_putF rfl rfl rfl rfl rfl rfl (by first | exact trivial | exact Or.inl rfl) (by omega) (by omega) ?_
  refine WP_n 2 rfl ?_
  refine WE_newi (n := 4) (k' := 141) (s' := 2078) rfl rfl rfl rfl rfl (by omega) (by omega) (ia_lit rfl rfl (by omega)) (fun j => hz 140 j (by omega)) (by omega) ?_
  refine WE_putF rfl rfl rfl rfl rfl rfl (by first | exact trivial | exact Or.inl rfl) (by omega) (by omega) ?_
  refine WP_n 2 rfl ?_
  refine WE_newi (n := 4) (k' := 142) (s' := 2082) rfl rfl rfl rfl rfl (by omega) (by omega) (ia_lit rfl rfl (by omega)) (fun j => hz 141 j (by omega)) (by omega) ?_
  refine WE_putF rfl rfl rfl rfl rfl rfl (by first | exact trivial | exact Or.inl rfl) (by omega) (by omega) ?_
  refine WP_n 3 rfl ?_
  refine WE_mna (N := 7) (K := 4) (k' := 150) (s' := 2117) rfl rfl rfl rfl rfl rfl (by omega) (by omega) rfl rfl (by omega) (by omega) (by omega) rfl (fun b j q => hz b j (by omega)) ?_
  refine WE_putF rfl rfl rfl rfl rfl rfl (by first | exact trivial | exact Or.inl rfl) (by omega) (by omega) ?_
  refine WP_n 2 rfl ?_
  refine WE_newi (n := 7) (k' := 151) (s' := 2124) rfl rfl rfl rfl rfl (by omega) (by omega) (ia_lit rfl rfl (by omega)) (fun j => hz 150 j (by omega)) (by omega) ?_
  refine WE_putF rfl rfl rfl rfl rfl rfl (by first | exact trivial | exact Or.inl rfl) (by omega) (by omega) ?_
  refine WP_n 2 rfl ?_
  refine WE_newi (n := 7) (k' := 152) (s' := 2131) rfl rfl rfl rfl rfl (by omega) (by omega) (ia_lit rfl rfl (by omega)) (fun j => hz 151 j (by omega)) (by omega) ?_
  refine WE_putF rfl rfl rfl rfl rfl rfl (by first | exact trivial | exact Or.inl rfl) (by omega) (by omega) ?_
  refine WP_n 2 rfl ?_
  refine WE_putf rfl rfl rfl rfl (by first | exact trivial | exact Or.inl rfl) (by omega) (by omega) ?_
  refine WP_n 2 rfl ?_
  refine WE_putf rfl rfl rfl rfl (by first | exact trivial | exact Or.inl rfl) (by omega) (by omega) ?_
  refine WP_n 2 rfl ?_
  refine WE_putf rfl rfl rfl rfl (by first | exact trivial | exact Or.inl rfl) (by omega) (by omega) ?_
  refine WP_n 2 rfl ?_
  refine WE_putf rfl rfl rfl rfl (by first | exact trivial | exact Or.inl rfl) (by omega) (by omega) ?_
  refine WP_n 2 rfl ?_
  refine WE_putf rfl rfl rfl rfl (by first | exact trivial | exact Or.inl rfl) (by omega) (by omega) ?_
  refine WP_n 2 rfl ?_
  refine WE_putF rfl rfl rfl rfl rfl rfl (by first | exact trivial | exact Or.inl rfl) (by omega) (by omega) ?_
  exact WP_vret rfl rfl rfl hq
theorem sp_V_init {P : PP} {d : Nat} {A : Nat → Nat → Int} {c5 : AC} {Q : Option AV → Hp → Prop} (hz : ∀ a j, 138 ≤ a → A a j = 0) (hq : Q none (EH P FIi A 160 2173 c5 152 (cc2 P FIi A L0 X0 152))) : WP M_V_init (d + 1) 0 [some (vr 152), some (vr 6)] [] (EH P FIi A 153 2144 c5 152 (.inl (3, nfs 3 13))) Q := by
  refine WP_n 1 rfl ?_
  refine WP_oinit rfl rfl rfl rfl (Nat.le_of_ble_eq_true rfl) ?_
  refine WP_n 2 rfl ?_
  refine WE_newi (n := 6) (k' := 154) (s' := 2150) rfl rfl rfl rfl rfl (by omega) (by omega) (ia_lit rfl rfl (by omega)) (fun j => hz 153 j (by omega)) (by omega) ?_
  refine WE_putF rfl rfl rfl rfl rfl rfl (by first | exact trivial | exact Or.inl rfl) (by omega) (by omega) ?_
  refine WP_n 2 rfl ?_
  refine WE_newi (n := 5) (k' := 155) (s' := 2155) rfl rfl rfl rfl rfl (by omega) (by omega) (ia_lit rfl rfl (by omega)) (fun j => hz 154 j (by omega)) (by omega) ?_
  refine WE_putF rfl rfl rfl rfl rfl rfl (by first | exact trivial | exact Or.inl rfl) (by omega) (by omega) ?_
  refine WP_n 2 rfl ?_
  refine WE_newi (n := 5) (k' := 156) (s' := 2160) rfl rfl rfl rfl rfl (by omega) (by omega) (ia_lit rfl rfl (by omega)) (fun j => hz 155 j (by omega)) (by omega) ?_
  refine WE_putF rfl rfl rfl rfl rfl rfl (by first | exact trivial | exact Or.inl rfl) (by omega) (by omega) ?_
  refine WP_n 2 rfl ?_
  refine WE_newi (n := 6) (k' := 157) (s' := 2166) rfl rfl rfl rfl rfl (by omega) (by omega) (ia_lit rfl rfl (by omega)) (fun j => hz 156 j (by omega)) (by omega) ?_
  refine WE_putF rfl rfl rfl rfl rfl rfl (by first | exact trivial | exact Or.inl rfl) (by omega) (by omega) ?_
  refine WP_n 2 rfl ?_
  refine WE_newi (n := 5) (k' := 158) (s' := 2171) rfl rfl rfl rfl rfl (by omega) (by omega) (ia_lit rfl rfl (by omega)) (fun j => hz 157 j (by omega)) (by omega) ?_
  refine WE_putF rfl rfl rfl rfl rfl rfl (by first | exact trivial | exact Or.inl rfl) (by omega) (by omega) ?_
  refine WP_n 2 rfl ?_
  refine WE_newi (n := 1) (k' := 159) (s' := 2172) rfl rfl rfl rfl rfl (by omega) (by omega) (ia_lit rfl rfl (by omega)) (fun j => hz 158 j (by omega)) (by omega) ?_
  refine WE_putf rfl rfl rfl rfl (by first | exact trivial | exact Or.inl rfl) (by omega) (by omega) ?_
  refine WP_n 2 rfl ?_
  refine WE_newi (n := 1) (k' := 160) (s' := 2173) rfl rfl rfl rfl rfl (by omega) (by omega) (ia_lit rfl rfl (by omega)) (fun j => hz 159 j (by omega)) (by omega) ?_
  refine WE_putf rfl rfl rfl rfl (by first | exact trivial | exact Or.inl rfl) (by omega) (by omega) ?_
  refine WP_n 2 rfl ?_
  refine WE_putf rfl rfl rfl rfl (by first | exact trivial | exact Or.inl rfl) (by omega) (by omega) ?_
  refine WP_n 2 rfl ?_
  refine WE_putf rfl rfl rfl rfl (by first | exact trivial | exact Or.inl rfl) (by omega) (by omega) ?_
  refine WP_n 2 rfl ?_
  refine WE_putf rfl rfl rfl rfl (by first | exact trivial | exact Or.inl rfl) (by omega) (by omega) ?_
  refine WP_n 2 rfl ?_
  refine WE_putf rfl rfl rfl rfl (by first | exact trivial | exact Or.inl rfl) (by omega) (by omega) ?_
  refine WP_n 2 rfl ?_
  refine WE_putf rfl rfl rfl rfl (by first | exact trivial | exact Or.inl rfl) (by omega) (by omega) ?_
  refine WP_n 2 rfl ?_
  refine WE_putF rfl rfl rfl rfl rfl rfl (by first | exact trivial | exact Or.inl rfl) (by omega) (by omega) ?_
  exact WP_vret rfl rfl rfl hq
theorem sp_C_init {P : PP} {d : Nat} {A : Nat → Nat → Int} {c5 : AC} {Q : Option AV → Hp → Prop} (hz : ∀ a j, 138 ≤ a → A a j = 0) (hq : Q none (EH P FIi A 162 2196 c5 160 (cc2 P FIi A L0 X0 160))) : WP M_C_init (d + 1) 0 [some (vr 160), some (vr 6)] [] (EH P FIi A 161 2175 c5 160 (.inl (0, nfs 0 2))) Q := by
  refine WP_n 1 rfl ?_
  refine WP_oinit rfl rfl rfl rfl (Nat.le_of_ble_eq_true rfl) ?_
  refine WP_n 2 rfl ?_
  refine WE_newl (n := 21) (k' := 162) (s' := 2196) rfl rfl rfl rfl rfl (by omega) (by omega) rfl rfl (by omega) ?_
  refine WE_putF rfl rfl rfl rfl rfl rfl (by first | exact trivial | exact Or.inl rfl) (by omega) (by omega) ?_
  refine WP_n 2 rfl ?_
  refine WE_putF rfl rfl rfl rfl rfl rfl (by first | exact trivial | exact Or.inl rfl) (by omega) (by omega) ?_
  exact WP_vret rfl rfl rfl hq
theorem sp_L_init {P : PP} {d : Nat} {A : Nat → Nat → Int} {c5 : AC} {Q : Option AV → Hp → Prop} (hz : ∀ a j, 138 ≤ a → A a j = 0) (hq : Q none (EH P FIi A 164 2214 c5 162 (cc2 P FIi A L0 X0 162))) : WP M_L_init (d + 1) 0 [some (vr 162), some (vr 6)] [] (EH P FIi A 163 2202 c5 162 (.inl (2, nfs 2 6))) Q := by
  refine WP_n 1 rfl ?_
  refine WP_oinit rfl rfl rfl rfl (Nat.le_of_ble_eq_true rfl) ?_
  refine WP_n 2 rfl ?_
  refine WE_newi (n := 12) (k' := 164) (s' := 2214) rfl rfl rfl rfl rfl (by omega) (by omega) (ia_lit rfl rfl (by omega)) (fun j => hz 163 j (by omega)) (by omega) ?_
  refine WE_putF rfl rfl rfl rfl rfl rfl (by first | exact trivial | exact Or.inl rfl) (by omega) (by omega) ?_
  refine WP_n 2 rfl ?_
  refine WE_putf rfl rfl rfl rfl (by first | exact trivial | exact Or.inl rfl) (by omega) (by omega) ?_
  refine WP_n 2 rfl ?_
  refine WE_putf rfl rfl rfl rfl (by first | exact trivial | exact Or.inl rfl) (by omega) (by omega) ?_
  refine WP_n 2 rfl ?_
  refine WE_putf rfl rfl rfl rfl (by first | exact trivial | exact Or.inl rfl) (by omega) (by omega) ?_
  refine WP_n 2 rfl ?_
  refine WE_putf rfl rfl rfl rfl (by first | exact trivial | exact Or.inl rfl) (by omega) (by omega) ?_
  refine WP_n 2 rfl ?_
  refine WE_putF rfl rfl rfl rfl rfl rfl (by first | exact trivial | exact Or.inl rfl) (by omega) (by omega) ?_
  exact WP_vret rfl rfl rfl hq

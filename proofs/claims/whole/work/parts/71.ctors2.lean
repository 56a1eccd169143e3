/-! the constructors of the class and of the reference -/
theorem sp_F_init {P : PP} {d : Nat} {co : AC} {Q : Option AV → Hp → Prop} (hq : ∀ A1 : Nat → Nat → Int, HA A1 → Q none (EH P FIi A1 165 2221 (cc2 P FIi A1 L0 X0 5) 162 (cc2 P FIi A1 L0 X0 162))) : WP M_F_init (d + 3) 0 [some (vr 5)] [] (EH P FIi (fun _ _ => 0) 6 6 (.inl (5, nfs 5 6)) 5 co) Q := by
  refine WP_n 1 rfl ?_
  refine WP_oinit rfl rfl rfl rfl (Nat.le_of_ble_eq_true rfl) ?_
  refine WP_n 1 rfl ?_
  refine WE_new (n := 10) (k' := 7) (s' := 16) rfl rfl rfl rfl rfl rfl (by omega) (Or.inl rfl) ?_
  refine WP_n 1 rfl ?_
  refine WP_callI 0 ok_M_H_init rfl rfl rfl rfl rfl rfl (Nat.le_of_ble_eq_true rfl) (Nat.le_of_ble_eq_true rfl) ?_
  refine sp_H_init (fun A1 hA => ?_)
  have hz : ∀ a j, 138 ≤ a → A1 a j = 0 := fun a j q => hA.2.2.2 a j (by omega) (by omega) (by omega)
  refine WE_put5 rfl rfl rfl rfl rfl rfl (by first | exact trivial | exact Or.inl rfl) (by omega) ?_
  refine WP_n 1 rfl ?_
  refine WE_new (n := 12) (k' := 139) (s' := 2067) rfl rfl rfl rfl rfl rfl (by omega) (Or.inr rfl) ?_
  refine WP_n 2 rfl ?_
  refine WE_get5 rfl rfl rfl rfl (by omega) ?_
  refine WP_callI 1 ok_M_S_init rfl rfl rfl rfl rfl rfl (Nat.le_of_ble_eq_true rfl) (Nat.le_of_ble_eq_true rfl) ?_
  refine sp_S_init hz ?_
  refine WE_put5 rfl rfl rfl rfl rfl rfl (by first | exact trivial | exact Or.inl rfl) (by omega) ?_
  refine WP_n 1 rfl ?_
  refine WE_new (n := 13) (k' := 153) (s' := 2144) rfl rfl rfl rfl rfl rfl (by omega) (Or.inr rfl) ?_
  refine WP_n 2 rfl ?_
  refine WE_get5 rfl rfl rfl rfl (by omega) ?_
  refine WP_callI 1 ok_M_V_init rfl rfl rfl rfl rfl rfl (Nat.le_of_ble_eq_true rfl) (Nat.le_of_ble_eq_true rfl) ?_
  refine sp_V_init hz ?_
  refine WE_put5 rfl rfl rfl rfl rfl rfl (by first | exact trivial | exact Or.inl rfl) (by omega) ?_
  refine WP_n 1 rfl ?_
  refine WE_new (n := 2) (k' := 161) (s' := 2175) rfl rfl rfl rfl rfl rfl (by omega) (Or.inr rfl) ?_
  refine WP_n 2 rfl ?_
  refine WE_get5 rfl rfl rfl rfl (by omega) ?_
  refine WP_callI 1 ok_M_C_init rfl rfl rfl rfl rfl rfl (Nat.le_of_ble_eq_true rfl) (Nat.le_of_ble_eq_true rfl) ?_
  refine sp_C_init hz ?_
  refine WE_put5 rfl rfl rfl rfl rfl rfl (by first | exact trivial | exact Or.inl rfl) (by omega) ?_
  refine WP_n 1 rfl ?_
  refine WE_new (n := 6) (k' := 163) (s' := 2202) rfl rfl rfl rfl rfl rfl (by omega) (Or.inr rfl) ?_
  refine WP_n 2 rfl ?_
  refine WE_get5 rfl rfl rfl rfl (by omega) ?_
  refine WP_callI 1 ok_M_L_init rfl rfl rfl rfl rfl rfl (Nat.le_of_ble_eq_true rfl) (Nat.le_of_ble_eq_true rfl) ?_
  refine sp_L_init hz ?_
  refine WE_put5 rfl rfl rfl rfl rfl rfl (by first | exact trivial | exact Or.inl rfl) (by omega) ?_
  refine WP_n 2 rfl ?_
  refine WE_newi (n := 7) (k' := 165) (s' := 2221) rfl rfl rfl rfl rfl (by omega) (by omega) (ia_lit rfl rfl (by omega)) (fun j => hz 164 j (by omega)) (by omega) ?_
  refine WE_put5 rfl rfl rfl rfl rfl rfl (by first | exact trivial | exact Or.inl rfl) (by omega) ?_
  exact WP_vret rfl rfl rfl (hq A1 hA)
theorem sp_G_init {P : PP} {d : Nat} {A : Nat → Nat → Int} {c5 : AC} {Q : Option AV → Hp → Prop} (hz : ∀ a j, 138 ≤ a → A a j = 0) (hq : ∀ B : Nat → Nat → Int, (∀ a j, a ≠ 166 → a ≠ 168 → a ≠ 169 → a ≠ 184 → B a j = A a j) → (∀ g, g < 11 → B 166 g = 40 ∧ B 168 g = 10 ∧ B 169 g = 19) → (∀ j, j < 320 → B 184 j = -1) → Q none (EH P FIi B 193 35512 c5 165 (cc2 P FIi B L0 X0 165))) : WP M_G_init (d + 1) 0 [some (vr 165), none] [] (EH P FIi A 166 2258 c5 165 (.inl (6, nfs 6 37))) Q := by
  refine WP_n 1 rfl ?_
  refine WP_oinit rfl rfl rfl rfl (Nat.le_of_ble_eq_true rfl) ?_
  refine WP_n 2 rfl ?_
  refine WE_putf rfl rfl rfl rfl (by first | exact trivial | exact Or.inl rfl) (by omega) (by omega) ?_
  refine WP_n 2 rfl ?_
  refine WE_newi (n := 11) (k' := 167) (s' := 2269) rfl rfl rfl rfl rfl (by omega) (by omega) (ia_lit rfl rfl (by omega)) (fun j => hz 166 j (by omega)) (by omega) ?_
  refine WE_putF rfl rfl rfl rfl rfl rfl (by first | exact trivial | exact Or.inl rfl) (by omega) (by omega) ?_
  refine WP_n 2 rfl ?_
  refine WE_newi (n := 11) (k' := 168) (s' := 2280) rfl rfl rfl rfl rfl (by omega) (by omega) (ia_lit rfl rfl (by omega)) (fun j => hz 167 j (by omega)) (by omega) ?_
  refine WE_putF rfl rfl rfl rfl rfl rfl (by first | exact trivial | exact Or.inl rfl) (by omega) (by omega) ?_
  refine WP_n 2 rfl ?_
  refine WE_newi (n := 11) (k' := 169) (s' := 2291) rfl rfl rfl rfl rfl (by omega) (by omega) (ia_lit rfl rfl (by omega)) (fun j => hz 168 j (by omega)) (by omega) ?_
  refine WE_putF rfl rfl rfl rfl rfl rfl (by first | exact trivial | exact Or.inl rfl) (by omega) (by omega) ?_
  refine WP_n 2 rfl ?_
  refine WE_newi (n := 11) (k' := 170) (s' := 2302) rfl rfl rfl rfl rfl (by omega) (by omega) (ia_lit rfl rfl (by omega)) (fun j => hz 169 j (by omega)) (by omega) ?_
  refine WE_putF rfl rfl rfl rfl rfl rfl (by first | exact trivial | exact Or.inl rfl) (by omega) (by omega) ?_
  refine WP_n 2 rfl ?_
  refine WE_newi (n := 16) (k' := 171) (s' := 2318) rfl rfl rfl rfl rfl (by omega) (by omega) (ia_lit rfl rfl (by omega)) (fun j => hz 170 j (by omega)) (by omega) ?_
  refine WE_putF rfl rfl rfl rfl rfl rfl (by first | exact trivial | exact Or.inl rfl) (by omega) (by omega) ?_
  refine WP_n 2 rfl ?_
  refine WE_newi (n := 16) (k' := 172) (s' := 2334) rfl rfl rfl rfl rfl (by omega) (by omega) (ia_lit rfl rfl (by omega)) (fun j => hz 171 j (by omega)) (by omega) ?_
  refine WE_putF rfl rfl rfl rfl rfl rfl (by first | exact trivial | exact Or.inl rfl) (by omega) (by omega) ?_
  refine WP_n 2 rfl ?_
  refine WE_newi (n := 16) (k' := 173) (s' := 2350) rfl rfl rfl rfl rfl (by omega) (by omega) (ia_lit rfl rfl (by omega)) (fun j => hz 172 j (by omega)) (by omega) ?_
  refine WE_putF rfl rfl rfl rfl rfl rfl (by first | exact trivial | exact Or.inl rfl) (by omega) (by omega) ?_
  refine WP_n 2 rfl ?_
  refine WE_newi (n := 16) (k' := 174) (s' := 2366) rfl rfl rfl rfl rfl (by omega) (by omega) (ia_lit rfl rfl (by omega)) (fun j => hz 173 j (by omega)) (by omega) ?_
  refine WE_putF rfl rfl rfl rfl rfl rfl (by first | exact trivial | exact Or.inl rfl) (by omega) (by omega) ?_
  refine WP_n 2 rfl ?_
  refine WE_newi (n := 16) (k' := 175) (s' := 2382) rfl rfl rfl rfl rfl (by omega) (by omega) (ia_lit rfl rfl (by omega)) (fun j => hz 174 j (by omega)) (by omega) ?_
  refine WE_putF rfl rfl rfl rfl rfl rfl (by first | exact trivial | exact Or.inl rfl) (by omega) (by omega) ?_
  refine WP_n 2 rfl ?_
  refine WE_newi (n := 16) (k' := 176) (s' := 2398) rfl rfl rfl rfl rfl (by omega) (by omega) (ia_lit rfl rfl (by omega)) (fun j => hz 175 j (by omega)) (by omega) ?_
  refine WE_putF rfl rfl rfl rfl rfl rfl (by first | exact trivial | exact Or.inl rfl) (by omega) (by omega) ?_
  refine WP_n 2 rfl ?_
  refine WE_newi (n := 16) (k' := 177) (s' := 2414) rfl rfl rfl rfl rfl (by omega) (by omega) (ia_lit rfl rfl (by omega)) (fun j => hz 176 j (by omega)) (by omega) ?_
  refine WE_putF rfl rfl rfl rfl rfl rfl (by first | exact trivial | exact Or.inl rfl) (by omega) (by omega) ?_
  refine WP_n 2 rfl ?_
  refine WE_newi (n := 16) (k' := 178) (s' := 2430) rfl rfl rfl rfl rfl (by omega) (by omega) (ia_lit rfl rfl (by omega)) (fun j => hz 177 j (by omega)) (by omega) ?_
  refine WE_putF rfl rfl rfl rfl rfl rfl (by first | exact trivial | exact Or.inl rfl) (by omega) (by omega) ?_
  refine WP_n 2 rfl ?_
  refine WE_newz (k' := 179) (s' := 2446) rfl rfl rfl rfl rfl (by omega) (by omega) rfl (fun j => hz 178 j (by omega)) ?_
  refine WE_putF rfl rfl rfl rfl rfl rfl (by first | exact trivial | exact Or.inl rfl) (by omega) (by omega) ?_
  refine WP_n 2 rfl ?_
  refine WE_newi (n := 256) (k' := 180) (s' := 2702) rfl rfl rfl rfl rfl (by omega) (by omega) (ia_lit rfl rfl (by omega)) (fun j => hz 179 j (by omega)) (by omega) ?_
  refine WE_putF rfl rfl rfl rfl rfl rfl (by first | exact trivial | exact Or.inl rfl) (by omega) (by omega) ?_
  refine WP_n 2 rfl ?_
  refine WE_newi (n := 256) (k' := 181) (s' := 2958) rfl rfl rfl rfl rfl (by omega) (by omega) (ia_lit rfl rfl (by omega)) (fun j => hz 180 j (by omega)) (by omega) ?_
  refine WE_putF rfl rfl rfl rfl rfl rfl (by first | exact trivial | exact Or.inl rfl) (by omega) (by omega) ?_
  refine WP_n 2 rfl ?_
  refine WE_newi (n := 256) (k' := 182) (s' := 3214) rfl rfl rfl rfl rfl (by omega) (by omega) (ia_lit rfl rfl (by omega)) (fun j => hz 181 j (by omega)) (by omega) ?_
  refine WE_putF rfl rfl rfl rfl rfl rfl (by first | exact trivial | exact Or.inl rfl) (by omega) (by omega) ?_
  refine WP_n 2 rfl ?_
  refine WE_newi (n := 320) (k' := 183) (s' := 3534) rfl rfl rfl rfl rfl (by omega) (by omega) (ia_lit rfl rfl (by omega)) (fun j => hz 182 j (by omega)) (by omega) ?_
  refine WE_putF rfl rfl rfl rfl rfl rfl (by first | exact trivial | exact Or.inl rfl) (by omega) (by omega) ?_
  refine WP_n 2 rfl ?_
  refine WE_newi (n := 320) (k' := 184) (s' := 3854) rfl rfl rfl rfl rfl (by omega) (by omega) (ia_lit rfl rfl (by omega)) (fun j => hz 183 j (by omega)) (by omega) ?_
  refine WE_putF rfl rfl rfl rfl rfl rfl (by first | exact trivial | exact Or.inl rfl) (by omega) (by omega) ?_
  refine WP_n 2 rfl ?_
  refine WE_newi (n := 320) (k' := 185) (s' := 4174) rfl rfl rfl rfl rfl (by omega) (by omega) (ia_lit rfl rfl (by omega)) (fun j => hz 184 j (by omega)) (by omega) ?_
  refine WE_putF rfl rfl rfl rfl rfl rfl (by first | exact trivial | exact Or.inl rfl) (by omega) (by omega) ?_
  refine WP_n 2 rfl ?_
  refine WE_newi (n := 7) (k' := 186) (s' := 4181) rfl rfl rfl rfl rfl (by omega) (by omega) (ia_lit rfl rfl (by omega)) (fun j => hz 185 j (by omega)) (by omega) ?_
  refine WE_putF rfl rfl rfl rfl rfl rfl (by first | exact trivial | exact Or.inl rfl) (by omega) (by omega) ?_
  refine WP_n 2 rfl ?_
  refine WE_newi (n := 16) (k' := 187) (s' := 4197) rfl rfl rfl rfl rfl (by omega) (by omega) (ia_lit rfl rfl (by omega)) (fun j => hz 186 j (by omega)) (by omega) ?_
  refine WE_putF rfl rfl rfl rfl rfl rfl (by first | exact trivial | exact Or.inl rfl) (by omega) (by omega) ?_
  refine WP_n 2 rfl ?_
  refine WE_newi (n := 16) (k' := 188) (s' := 4213) rfl rfl rfl rfl rfl (by omega) (by omega) (ia_lit rfl rfl (by omega)) (fun j => hz 187 j (by omega)) (by omega) ?_
  refine WE_putF rfl rfl rfl rfl rfl rfl (by first | exact trivial | exact Or.inl rfl) (by omega) (by omega) ?_
  refine WP_n 2 rfl ?_
  refine WE_newi (n := 16) (k' := 189) (s' := 4229) rfl rfl rfl rfl rfl (by omega) (by omega) (ia_lit rfl rfl (by omega)) (fun j => hz 188 j (by omega)) (by omega) ?_
  refine WE_putF rfl rfl rfl rfl rfl rfl (by first | exact trivial | exact Or.inl rfl) (by omega) (by omega) ?_
  refine WP_n 2 rfl ?_
  refine WE_newi (n := 11) (k' := 190) (s' := 4240) rfl rfl rfl rfl rfl (by omega) (by omega) (ia_lit rfl rfl (by omega)) (fun j => hz 189 j (by omega)) (by omega) ?_
  refine WE_putF rfl rfl rfl rfl rfl rfl (by first | exact trivial | exact Or.inl rfl) (by omega) (by omega) ?_
  refine WP_n 2 rfl ?_
  refine WE_newi (n := 15625) (k' := 191) (s' := 19865) rfl rfl rfl rfl rfl (by omega) (by omega) (ia_lit rfl rfl (by omega)) (fun j => hz 190 j (by omega)) (by omega) ?_
  refine WE_putF rfl rfl rfl rfl rfl rfl (by first | exact trivial | exact Or.inl rfl) (by omega) (by omega) ?_
  refine WP_n 2 rfl ?_
  refine WE_newi (n := 15625) (k' := 192) (s' := 35490) rfl rfl rfl rfl rfl (by omega) (by omega) (ia_lit rfl rfl (by omega)) (fun j => hz 191 j (by omega)) (by omega) ?_
  refine WE_putF rfl rfl rfl rfl rfl rfl (by first | exact trivial | exact Or.inl rfl) (by omega) (by omega) ?_
  refine WP_n 2 rfl ?_
  refine WE_newl (n := 22) (k' := 193) (s' := 35512) rfl rfl rfl rfl rfl (by omega) (by omega) rfl rfl (by omega) ?_
  refine WE_putF rfl rfl rfl rfl rfl rfl (by first | exact trivial | exact Or.inl rfl) (by omega) (by omega) ?_
  refine WP_n 2 rfl ?_
  suffices hw : ∀ f, f ≤ 11 → ∀ B : Nat → Nat → Int, (∀ a j, a ≠ 166 → a ≠ 168 → a ≠ 169 → B a j = A a j) → (∀ g, g < f → B 166 g = 40 ∧ B 168 g = 10 ∧ B 169 g = 19) → (∀ j, B 167 j = 0) → WP M_G_init (d + 1) 115 [some (vr 165), some (vi (f : Int))] [] (EH P FIi B 193 35512 c5 165 (.inl (6, [vi 0, vi 1, vr 166, vr 167, vr 168, vr 169, vr 170, vr 171, vr 172, vr 173, vr 174, vr 175, vr 176, vr 177, vr 178, vr 179, vr 180, vr 181, vr 182, vr 183, vr 184, vr 185, vr 186, vr 187, vr 188, vr 189, vr 190, vr 191, vr 192, vi 0, vi 0, vi 0, vi 0, vi 0, vi 0, vi 0, vi 0]))) Q from hw 0 (by omega) A (fun _ _ _ _ _ => rfl) (fun g hg => absurd hg (by omega)) (fun j => hz _ _ (by omega))
  refine up_to (P := fun f => ∀ B : Nat → Nat → Int, (∀ a j, a ≠ 166 → a ≠ 168 → a ≠ 169 → B a j = A a j) → (∀ g, g < f → B 166 g = 40 ∧ B 168 g = 10 ∧ B 169 g = 19) → (∀ j, B 167 j = 0) → WP M_G_init (d + 1) 115 [some (vr 165), some (vi (f : Int))] [] (EH P FIi B 193 35512 c5 165 (.inl (6, [vi 0, vi 1, vr 166, vr 167, vr 168, vr 169, vr 170, vr 171, vr 172, vr 173, vr 174, vr 175, vr 176, vr 177, vr 178, vr 179, vr 180, vr 181, vr 182, vr 183, vr 184, vr 185, vr 186, vr 187, vr 188, vr 189, vr 190, vr 191, vr 192, vi 0, vi 0, vi 0, vi 0, vi 0, vi 0, vi 0, vi 0]))) Q) 11 ?_ ?_
  · intro B b1 b2 b3
    refine WP_n 2 rfl ?_
    refine WP_icmpge rfl rfl ⟨by omega, by omega⟩ ⟨by omega, by omega⟩ (fun h1 => ?_) (fun h1 => absurd h1 (by omega))
    refine WP_n 2 rfl ?_
    suffices hw : ∀ f, f ≤ 320 → ∀ C : Nat → Nat → Int, (∀ a j, a ≠ 184 → C a j = B a j) → (∀ g, g < f → C 184 g = -1) → WP M_G_init (d + 1) 137 [some (vr 165), some (vi (f : Int))] [] (EH P FIi C 193 35512 c5 165 (.inl (6, [vi 0, vi 1, vr 166, vr 167, vr 168, vr 169, vr 170, vr 171, vr 172, vr 173, vr 174, vr 175, vr 176, vr 177, vr 178, vr 179, vr 180, vr 181, vr 182, vr 183, vr 184, vr 185, vr 186, vr 187, vr 188, vr 189, vr 190, vr 191, vr 192, vi 0, vi 0, vi 0, vi 0, vi 0, vi 0, vi 0, vi 0]))) Q from hw 0 (by omega) B (fun _ _ _ => rfl) (fun g hg => absurd hg (by omega))
    refine up_to (P := fun f => ∀ C : Nat → Nat → Int, (∀ a j, a ≠ 184 → C a j = B a j) → (∀ g, g < f → C 184 g = -1) → WP M_G_init (d + 1) 137 [some (vr 165), some (vi (f : Int))] [] (EH P FIi C 193 35512 c5 165 (.inl (6, [vi 0, vi 1, vr 166, vr 167, vr 168, vr 169, vr 170, vr 171, vr 172, vr 173, vr 174, vr 175, vr 176, vr 177, vr 178, vr 179, vr 180, vr 181, vr 182, vr 183, vr 184, vr 185, vr 186, vr 187, vr 188, vr 189, vr 190, vr 191, vr 192, vi 0, vi 0, vi 0, vi 0, vi 0, vi 0, vi 0, vi 0]))) Q) 320 ?_ ?_
    · intro C c1 c2
      refine WP_n 2 rfl ?_
      refine WP_icmpge rfl rfl ⟨by omega, by omega⟩ ⟨by omega, by omega⟩ (fun h2 => ?_) (fun h2 => absurd h2 (by omega))
      exact WP_vret rfl rfl rfl (hq C (fun a j q1 q2 q3 q4 => (c1 a j q4).trans (b1 a j q1 q2 q3)) (fun g hg => by rw [c1 _ _ (by omega), c1 _ _ (by omega), c1 _ _ (by omega)]; exact b2 g hg) c2)
    · intro f hf ih C c1 c2
      refine WP_n 2 rfl ?_
      refine WP_icmpge rfl rfl ⟨by omega, by omega⟩ ⟨by omega, by omega⟩ (fun h2 => absurd h2 (by omega)) (fun h2 => ?_)
      refine WP_n 1 rfl ?_
      refine WE_geto rfl rfl rfl rfl (by omega) (by omega) ?_
      refine WP_n 2 rfl ?_
      refine WE_iast (a := 184) (n := 320) (j := f) rfl rfl (ia_lit rfl rfl (by omega)) (by omega) (by omega) (by omega) rfl (by omega) ?_
      refine WP_n 2 rfl ?_
      refine ih _ (fun a j q => by rw [up2_ne (Or.inl q)]; exact c1 a j q) (fun g hg => ?_)
      by_cases e : g = f
      · rw [e, up2_same]
      · rw [up2_ne (Or.inr e)]
        exact c2 g (by omega)
  · intro f hf ih B b1 b2 b3
    refine WP_n 2 rfl ?_
    refine WP_icmpge rfl rfl ⟨by omega, by omega⟩ ⟨by omega, by omega⟩ (fun h1 => absurd h1 (by omega)) (fun h1 => ?_)
    refine WP_n 1 rfl ?_
    refine WE_geto rfl rfl rfl rfl (by omega) (by omega) ?_
    refine WP_n 2 rfl ?_
    refine WE_iast (a := 166) (n := 11) (j := f) rfl rfl (ia_lit rfl rfl (by omega)) (by omega) (by omega) (by omega) rfl (by omega) ?_
    refine WP_n 1 rfl ?_
    refine WE_geto rfl rfl rfl rfl (by omega) (by omega) ?_
    refine WP_n 2 rfl ?_
    refine WE_iast (a := 168) (n := 11) (j := f) rfl rfl (ia_lit rfl rfl (by omega)) (by omega) (by omega) (by omega) rfl (by omega) ?_
    refine WP_n 1 rfl ?_
    refine WE_geto rfl rfl rfl rfl (by omega) (by omega) ?_
    refine WP_n 2 rfl ?_
    refine WE_iast (a := 169) (n := 11) (j := f) rfl rfl (ia_lit rfl rfl (by omega)) (by omega) (by omega) (by omega) rfl (by omega) ?_
    refine WP_n 2 rfl ?_
    refine ih _ (fun a j q1 q2 q3 => by rw [up2_ne (Or.inl q3), up2_ne (Or.inl q2), up2_ne (Or.inl q1)]; exact b1 a j q1 q2 q3) (fun g hg => ?_) (fun j => by rw [up2_ne (by omega), up2_ne (by omega), up2_ne (by omega)]; exact b3 j)
    by_cases e : g = f
    · rw [e, up2_ne (by omega), up2_ne (by omega), up2_same, up2_ne (by omega), up2_same, up2_same]
      exact ⟨rfl, rfl, rfl⟩
    · rw [up2_ne (by omega), up2_ne (by omega), up2_ne (by omega), up2_ne (by omega), up2_ne (by omega), up2_ne (by omega), up2_ne (by omega), up2_ne (by omega), up2_ne (by omega)]
      exact b2 g (by omega)

/-! a local that is no longer looked at -/
theorem lvR.kill {f : Nat → Nat} {LS : Array Slot} {n : Nat} {ls : LV} (k : Nat) (h : lvR f LS n ls) : lvR f LS n (ls.set k none) := by
  refine ⟨h.1, h.2.1, fun j v hj => ?_⟩
  rw [List.getElem?_set] at hj
  split at hj
  · split at hj <;> simp at hj
  · exact h.2.2 j v hj
theorem WP_kill {M : Mth} {d ip : Nat} {ls : LV} {st : List AV} {h : Hp} {Q : Option AV → Hp → Prop} (k : Nat) (w : WP M d ip (ls.set k none) st h Q) : WP M d ip ls st h Q := by
  obtain ⟨v, h', ⟨a, b, j⟩, hq⟩ := w
  refine ⟨v, h', ⟨a, b, fun p l e R s m args below meth c U0 a0 D pre cx H locs n0 s0 Qf LS hR hlo hn hs hl hc1 hc2 hret => ?_⟩, hq⟩
  exact j p l e R s m args below meth c U0 a0 D pre cx H locs n0 s0 Qf LS hR hlo hn hs (hl.kill k) hc1 hc2 hret
theorem WP2_kill {P : PP} {M : Mth} {d ip : Nat} {ls : LV} {st : List AV} {S : S2} {Q : Option AV → S2 → Prop} (k : Nat) (w : WP2 P M d ip (ls.set k none) st S Q) : WP2 P M d ip ls st S Q := WP_kill k w
theorem WP_deep {M : Mth} {d d' ip : Nat} {ls : LV} {st : List AV} {h : Hp} {Q : Option AV → Hp → Prop} (hd : d ≤ d') (w : WP M d ip ls st h Q) : WP M d' ip ls st h Q := by
  obtain ⟨v, h', ⟨a, b, j⟩, hq⟩ := w
  refine ⟨v, h', ⟨a, b, fun p l e R s m args below meth c U0 a0 D pre cx H locs n0 s0 Qf LS hR hlo hn hs hl hc1 hc2 hret => ?_⟩, hq⟩
  obtain ⟨hG, hx, hb, hml, hr, hlk, hnm, hown, hW, hfr, hlo9, hok⟩ := cx
  exact j p l e R s m args below meth c U0 a0 D pre ⟨hG, hx, hb, hml, hr, hlk, hnm, hown, hW, by omega, by omega, hok⟩ H locs n0 s0 Qf LS hR hlo hn hs hl hc1 hc2 hret
theorem WP2_deep {P : PP} {M : Mth} {d d' ip : Nat} {ls : LV} {st : List AV} {S : S2} {Q : Option AV → S2 → Prop} (hd : d ≤ d') (w : WP2 P M d ip ls st S Q) : WP2 P M d' ip ls st S Q := WP_deep hd w

/-! the law's table, piece by piece -/
theorem all_chunks {p : Ent → Bool} : ∀ (n : Nat) (l : List Ent), l.length ≤ 40 * n → (∀ i, i < n → ((l.drop (40 * i)).take 40).all p = true) → l.all p = true
  | 0, l, hl, _ => by
    have : l = [] := List.eq_nil_of_length_eq_zero (by omega)
    rw [this]; rfl
  | n + 1, l, hl, h => by
    have h0 : (l.take 40).all p = true := by simpa using h 0 (by omega)
    have h1 : (l.drop 40).all p = true := all_chunks n (l.drop 40) (by rw [List.length_drop]; omega) (fun i hi => by
      have := h (i + 1) (by omega)
      rw [List.drop_drop, show 40 + 40 * i = 40 * (i + 1) by omega]
      exact this)
    rw [← List.take_append_drop 40 l, List.all_append, h0, h1]
    rfl
theorem ok_law_0 : (((mT M_law).drop (40 * 0)).take 40).all (okE M_law) = true := by decide +kernel
theorem ok_law_1 : (((mT M_law).drop (40 * 1)).take 40).all (okE M_law) = true := by decide +kernel
theorem ok_law_2 : (((mT M_law).drop (40 * 2)).take 40).all (okE M_law) = true := by decide +kernel
theorem ok_law_3 : (((mT M_law).drop (40 * 3)).take 40).all (okE M_law) = true := by decide +kernel
theorem ok_law_4 : (((mT M_law).drop (40 * 4)).take 40).all (okE M_law) = true := by decide +kernel
theorem ok_law_5 : (((mT M_law).drop (40 * 5)).take 40).all (okE M_law) = true := by decide +kernel
theorem ok_law_6 : (((mT M_law).drop (40 * 6)).take 40).all (okE M_law) = true := by decide +kernel
theorem ok_law_7 : (((mT M_law).drop (40 * 7)).take 40).all (okE M_law) = true := by decide +kernel
theorem ok_law_8 : (((mT M_law).drop (40 * 8)).take 40).all (okE M_law) = true := by decide +kernel
theorem ok_law_9 : (((mT M_law).drop (40 * 9)).take 40).all (okE M_law) = true := by decide +kernel
theorem ok_law_10 : (((mT M_law).drop (40 * 10)).take 40).all (okE M_law) = true := by decide +kernel
theorem ok_law_11 : (((mT M_law).drop (40 * 11)).take 40).all (okE M_law) = true := by decide +kernel
theorem ok_law_12 : (((mT M_law).drop (40 * 12)).take 40).all (okE M_law) = true := by decide +kernel
theorem ok_law_13 : (((mT M_law).drop (40 * 13)).take 40).all (okE M_law) = true := by decide +kernel
theorem ok_law_14 : (((mT M_law).drop (40 * 14)).take 40).all (okE M_law) = true := by decide +kernel
theorem ok_law_15 : (((mT M_law).drop (40 * 15)).take 40).all (okE M_law) = true := by decide +kernel
theorem ok_law_16 : (((mT M_law).drop (40 * 16)).take 40).all (okE M_law) = true := by decide +kernel
theorem ok_law_17 : (((mT M_law).drop (40 * 17)).take 40).all (okE M_law) = true := by decide +kernel
theorem ok_law_18 : (((mT M_law).drop (40 * 18)).take 40).all (okE M_law) = true := by decide +kernel
theorem ok_law_19 : (((mT M_law).drop (40 * 19)).take 40).all (okE M_law) = true := by decide +kernel
theorem ok_M_law : MOK M_law := by
  unfold MOK
  refine all_chunks 20 _ (by decide +kernel) (fun i hi => ?_)
  match i, hi with
  | 0, _ => exact ok_law_0
  | 1, _ => exact ok_law_1
  | 2, _ => exact ok_law_2
  | 3, _ => exact ok_law_3
  | 4, _ => exact ok_law_4
  | 5, _ => exact ok_law_5
  | 6, _ => exact ok_law_6
  | 7, _ => exact ok_law_7
  | 8, _ => exact ok_law_8
  | 9, _ => exact ok_law_9
  | 10, _ => exact ok_law_10
  | 11, _ => exact ok_law_11
  | 12, _ => exact ok_law_12
  | 13, _ => exact ok_law_13
  | 14, _ => exact ok_law_14
  | 15, _ => exact ok_law_15
  | 16, _ => exact ok_law_16
  | 17, _ => exact ok_law_17
  | 18, _ => exact ok_law_18
  | 19, _ => exact ok_law_19
  | k + 20, hi => exact absurd hi (by omega)

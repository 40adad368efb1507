/-! a list that an array holds, and a list written into an array -/
def sf_Hd (a : Nat → Int32) (b : Nat) (l : List Int32) : Prop := ∀ i x, l[i]? = some x → a (b + i) = x
def sf_ap (a : Nat → Int32) (b : Nat) (l : List Int32) : Nat → Int32 := fun j => if b ≤ j ∧ j < b + l.length then l.getD (j - b) 0 else a j
theorem sf_lt {l : List Int32} {i : Nat} {x : Int32} (h : l[i]? = some x) : i < l.length := by
  obtain ⟨h', _⟩ := List.getElem?_eq_some_iff.mp h
  exact h'
theorem sf_ex {l : List Int32} {i : Nat} (h : i < l.length) : ∃ x, l[i]? = some x := ⟨l[i], List.getElem?_eq_some_iff.mpr ⟨h, rfl⟩⟩
theorem sf_Hd_nil (a : Nat → Int32) (b : Nat) : sf_Hd a b [] := by
  intro i x h
  have := sf_lt h
  exact absurd this (Nat.not_lt_zero i)
theorem sf_ap_nil (a : Nat → Int32) (b : Nat) : sf_ap a b [] = a := by
  funext j
  unfold sf_ap
  rw [if_neg]
  intro h
  have : j < b + 0 := h.2
  omega
theorem sf_ap_out {a : Nat → Int32} {b j : Nat} {l : List Int32} (h : j < b ∨ b + l.length ≤ j) : sf_ap a b l j = a j := by
  unfold sf_ap
  rw [if_neg (by omega)]
theorem sf_ap_in (a : Nat → Int32) {b i : Nat} {l : List Int32} {x : Int32} (h : l[i]? = some x) : sf_ap a b l (b + i) = x := by
  have hi := sf_lt h
  unfold sf_ap
  rw [if_pos ⟨by omega, by omega⟩, Nat.add_sub_cancel_left, List.getD_eq_getElem?_getD, h]
  rfl
theorem sf_ap_hd (a : Nat → Int32) (b : Nat) (l : List Int32) : sf_Hd (sf_ap a b l) b l := fun _ _ h => sf_ap_in a h
theorem sf_ap_snoc (a : Nat → Int32) (b : Nat) (l : List Int32) (v : Int32) : upd (sf_ap a b l) (b + l.length) v = sf_ap a b (l ++ [v]) := by
  funext j
  unfold upd
  by_cases e : j = b + l.length
  · rw [if_pos e, e]
    exact (sf_ap_in a (l := l ++ [v]) (by rw [List.getElem?_append_right (Nat.le_refl _), Nat.sub_self]; rfl)).symm
  · rw [if_neg e]
    have hl : (l ++ [v]).length = l.length + 1 := by rw [List.length_append]; rfl
    by_cases h : j < b ∨ b + l.length ≤ j
    · rw [sf_ap_out h, sf_ap_out (by omega)]
    · obtain ⟨i, rfl⟩ : ∃ i, j = b + i := ⟨j - b, by omega⟩
      obtain ⟨x, hx⟩ := sf_ex (l := l) (i := i) (by omega)
      rw [sf_ap_in a hx, sf_ap_in a (l := l ++ [v]) (x := x) (by rw [List.getElem?_append_left (sf_lt hx)]; exact hx)]
theorem sf_Hd_sub {a : Nat → Int32} {b : Nat} {l m r : List Int32} (h : sf_Hd a b (l ++ m ++ r)) : sf_Hd a (b + l.length) m := by
  intro i x hx
  have hi := sf_lt hx
  rw [Nat.add_assoc]
  refine h (l.length + i) x ?_
  rw [List.getElem?_append_left (by rw [List.length_append]; omega), List.getElem?_append_right (by omega), Nat.add_sub_cancel_left]
  exact hx
theorem sf_Hd_app {a : Nat → Int32} {b : Nat} {l m : List Int32} (h : sf_Hd a b l) (h' : sf_Hd a (b + l.length) m) : sf_Hd a b (l ++ m) := by
  intro i x hx
  by_cases hi : i < l.length
  · rw [List.getElem?_append_left hi] at hx
    exact h i x hx
  · rw [List.getElem?_append_right (by omega)] at hx
    have := h' (i - l.length) x hx
    rw [show b + l.length + (i - l.length) = b + i from by omega] at this
    exact this
theorem sf_Hd_eq {a a' : Nat → Int32} {b : Nat} {l : List Int32} (h : sf_Hd a b l) (e : ∀ i, i < l.length → a' (b + i) = a (b + i)) : sf_Hd a' b l := by
  intro i x hx
  rw [e i (sf_lt hx)]
  exact h i x hx
theorem sf_take_s {l : List Int32} {i : Nat} {v : Int32} (h : l[i]? = some v) : l.take (i + 1) = l.take i ++ [v] := by
  rw [List.take_add_one, h]; rfl
theorem sf_take_all (l : List Int32) : l.take l.length = l := List.take_of_length_le (Nat.le_refl _)

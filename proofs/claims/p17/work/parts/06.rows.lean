/-! rows of the component: written lists, their starts -/
theorem sf_ap_ap (a : Nat → Int32) (b : Nat) (l m : List Int32) : sf_ap (sf_ap a b l) (b + l.length) m = sf_ap a b (l ++ m) := by
  funext j
  have hl : (l ++ m).length = l.length + m.length := List.length_append
  by_cases h1 : j < b
  · rw [sf_ap_out (Or.inl (by omega)), sf_ap_out (Or.inl h1), sf_ap_out (Or.inl h1)]
  · obtain ⟨i, rfl⟩ : ∃ i, j = b + i := ⟨j - b, by omega⟩
    by_cases h2 : i < l.length
    · obtain ⟨x, hx⟩ := sf_ex h2
      rw [sf_ap_out (Or.inl (by omega)), sf_ap_in a hx, sf_ap_in a (l := l ++ m) (x := x) (by rw [List.getElem?_append_left h2]; exact hx)]
    · by_cases h3 : i < l.length + m.length
      · obtain ⟨x, hx⟩ := sf_ex (l := m) (i := i - l.length) (by omega)
        have e := sf_ap_in (sf_ap a b l) (b := b + l.length) hx
        rw [show b + l.length + (i - l.length) = b + i from by omega] at e
        rw [e, sf_ap_in a (l := l ++ m) (x := x) (by rw [List.getElem?_append_right (by omega)]; exact hx)]
      · rw [sf_ap_out (by omega), sf_ap_out (by omega), sf_ap_out (by omega)]
/-- the lists ahead of list e, one behind the other -/
def sf_P (E : List Int32) (f : Int32 → List Int32) (e : Nat) : List Int32 := (E.take e).flatMap f
theorem sf_P_0 (E : List Int32) (f : Int32 → List Int32) : sf_P E f 0 = [] := rfl
theorem sf_P_s {E : List Int32} {f : Int32 → List Int32} {e : Nat} {x : Int32} (h : E[e]? = some x) : sf_P E f (e + 1) = sf_P E f e ++ f x := by
  unfold sf_P
  rw [sf_take_s h, List.flatMap_append, List.flatMap_cons, List.flatMap_nil, List.append_nil]
theorem sf_P_all (E : List Int32) (f : Int32 → List Int32) : sf_P E f E.length = E.flatMap f := by
  unfold sf_P
  rw [sf_take_all]
theorem sf_P_split (E : List Int32) (f : Int32 → List Int32) (e : Nat) : E.flatMap f = sf_P E f e ++ (E.drop e).flatMap f := by
  unfold sf_P
  rw [← List.flatMap_append, List.take_append_drop]
theorem sf_P_le (E : List Int32) (f : Int32 → List Int32) (e : Nat) : (sf_P E f e).length ≤ (E.flatMap f).length := by
  rw [sf_P_split E f e, List.length_append]; omega
theorem sf_P_split2 {E : List Int32} {f : Int32 → List Int32} {e : Nat} {x : Int32} (h : E[e]? = some x) : E.flatMap f = sf_P E f e ++ f x ++ (E.drop (e + 1)).flatMap f := by
  rw [← sf_P_s h]
  exact sf_P_split E f (e + 1)
/-- the starts of the lists up to list e -/
def sf_S (E : List Int32) (f : Int32 → List Int32) : Nat → List Int32
  | 0 => [0]
  | e + 1 => sf_S E f e ++ [nI (sf_P E f (e + 1)).length]
theorem sf_S_len (E : List Int32) (f : Int32 → List Int32) : ∀ e, (sf_S E f e).length = e + 1 := by
  intro e
  induction e with
  | zero => rfl
  | succ e ih => rw [sf_S, List.length_append, ih]; rfl
theorem sf_S_get (E : List Int32) (f : Int32 → List Int32) : ∀ e i, i ≤ e → (sf_S E f e)[i]? = some (nI (sf_P E f i).length) := by
  intro e
  induction e with
  | zero =>
    intro i h
    have : i = 0 := by omega
    subst this
    rfl
  | succ e ih =>
    intro i h
    rw [sf_S]
    by_cases h2 : i = e + 1
    · rw [h2, List.getElem?_append_right (by rw [sf_S_len]; omega), sf_S_len, Nat.sub_self]; rfl
    · rw [List.getElem?_append_left (by rw [sf_S_len]; omega)]
      exact ih i (by omega)
/-- row q as it stands when its node has been evaluated -/
def sf_XR (vs ss ts : Nat → Int32) (E : List Int32) (f : Int32 → List Int32) (q : Nat) : Prop :=
  ts (q + 1) = nI (E.flatMap f).length ∧ sf_Hd vs ((q + 1) * 256) (E.flatMap f) ∧ ∀ e, e ≤ E.length → ss ((q + 1) * 256 + e) = nI (sf_P E f e).length
theorem sf_XR_list {vs ss ts : Nat → Int32} {E : List Int32} {f : Int32 → List Int32} {q e : Nat} {x : Int32} (h : sf_XR vs ss ts E f q) (he : E[e]? = some x) :
    ss ((q + 1) * 256 + e) = nI (sf_P E f e).length ∧ ss ((q + 1) * 256 + e + 1) = nI ((sf_P E f e).length + (f x).length) ∧ sf_Hd vs ((q + 1) * 256 + (sf_P E f e).length) (f x) := by
  have hl := sf_lt he
  refine ⟨h.2.2 e (by omega), ?_, ?_⟩
  · rw [Nat.add_assoc, h.2.2 (e + 1) (by omega), sf_P_s he, List.length_append]
  · have := h.2.1
    rw [sf_P_split2 he] at this
    exact sf_Hd_sub this
/-- the inner lists of an outer list stand one behind the other -/
theorem sf_P_cat {E : List Int32} {f g : Int32 → List Int32} {e : Nat} : sf_P (E.flatMap f) g (sf_P E f e).length = (sf_P E f e).flatMap g := by
  unfold sf_P
  have : (E.flatMap f).take ((E.take e).flatMap f).length = (E.take e).flatMap f := by
    have := sf_P_split E f e
    unfold sf_P at this
    rw [this]
    exact List.take_left
  rw [this]
theorem sf_P_cat_s {E : List Int32} {f g : Int32 → List Int32} {e : Nat} {x : Int32} (h : E[e]? = some x) : (sf_P E f (e + 1)).flatMap g = (sf_P E f e).flatMap g ++ (f x).flatMap g := by
  rw [sf_P_s h, List.flatMap_append]
theorem sf_XR_fr {vs ss ts vs' ss' ts' : Nat → Int32} {E : List Int32} {f : Int32 → List Int32} {q : Nat} (h : sf_XR vs ss ts E f q) (hl : (E.flatMap f).length < 256) (hE : E.length < 256) (e1 : ∀ j, j < (q + 2) * 256 → vs' j = vs j) (e2 : ∀ j, j < (q + 2) * 256 → ss' j = ss j) (e3 : ts' (q + 1) = ts (q + 1)) : sf_XR vs' ss' ts' E f q := by
  refine ⟨e3.trans h.1, sf_Hd_eq h.2.1 (fun i hi => e1 _ (by omega)), fun e he => ?_⟩
  rw [e2 _ (by omega)]
  exact h.2.2 e he

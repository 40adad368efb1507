/-! the component's rows, node by node -/
def sf_XI (sc : Nat → Nat) (L : Nat → Int32 → List Int32) (ro : Nat → List Int32) (p : Nat) (vs ss ts : Nat → Int32) : Prop :=
  ts 0 = 1 ∧ vs 0 = 0 ∧ ∀ q, q < p → sf_XR vs ss ts (sf_E ro (sc q)) (L q) q
section XI
variable {n : Nat} {K st sc : Nat → Nat} {A B : Nat → Int32} {L : Nat → Int32 → List Int32} {ro : Nat → List Int32}
theorem sf_XI_E (hr : sf_Rw n sc L ro) {p s : Nat} {vs ss ts : Nat → Int32} (hp : p ≤ n) (h : sf_XI sc L ro p vs ss ts) (hs : s ≤ p) : ts s = nI (sf_E ro s).length ∧ sf_Hd vs (s * 256) (sf_E ro s) := by
  cases s with
  | zero =>
    refine ⟨h.1, fun i x hx => ?_⟩
    have hi := sf_lt hx
    have : i = 0 := by
      have : i < 1 := hi
      omega
    subst this
    have e : (0 : Int32) = x := Option.some.inj hx
    rw [← e]
    exact h.2.1
  | succ q =>
    have g := h.2.2 q (by omega)
    have e : sf_E ro (q + 1) = (sf_E ro (sc q)).flatMap (L q) := hr q (by omega)
    rw [e]
    exact ⟨g.1, g.2.1⟩
theorem sf_XI_fr {p : Nat} {vs ss ts vs' ss' ts' : Nat → Int32} (hB : ∀ q, q < p → ((sf_E ro (sc q)).flatMap (L q)).length ≤ 216) (hE : ∀ q, q < p → (sf_E ro (sc q)).length ≤ 216) (h : sf_XI sc L ro p vs ss ts) (e1 : ∀ j, j < (p + 1) * 256 → vs' j = vs j) (e2 : ∀ j, j < (p + 1) * 256 → ss' j = ss j) (e3 : ∀ j, j ≤ p → ts' j = ts j) : sf_XI sc L ro p vs' ss' ts' := by
  refine ⟨(e3 0 (by omega)).trans h.1, (e1 0 (by omega)).trans h.2.1, fun q hq => ?_⟩
  have b1 := hB q hq
  have b2 := hE q hq
  exact sf_XR_fr (h.2.2 q hq) (by omega) (by omega) (fun j hj => e1 j (by omega)) (fun j hj => e2 j (by omega)) (e3 _ (by omega))
theorem sf_XI_ap {p : Nat} {vs ss ts : Nat → Int32} {l l' : List Int32} {v : Int32} (hB : ∀ q, q < p → ((sf_E ro (sc q)).flatMap (L q)).length ≤ 216) (hE : ∀ q, q < p → (sf_E ro (sc q)).length ≤ 216) (h : sf_XI sc L ro p vs ss ts) : sf_XI sc L ro p (sf_ap vs ((p + 1) * 256) l) (sf_ap ss ((p + 1) * 256) l') (upd ts (p + 1) v) :=
  sf_XI_fr hB hE h (fun j hj => sf_ap_out (Or.inl hj)) (fun j hj => sf_ap_out (Or.inl hj)) (fun j hj => pk_un (by omega))
theorem sf_XI_step {p : Nat} {vs ss ts : Nat → Int32} (hB : ∀ q, q < p → ((sf_E ro (sc q)).flatMap (L q)).length ≤ 216) (hE : ∀ q, q < p → (sf_E ro (sc q)).length ≤ 216) (h : sf_XI sc L ro p vs ss ts) : sf_XI sc L ro (p + 1) (sf_ap vs ((p + 1) * 256) (sf_P (sf_E ro (sc p)) (L p) (sf_E ro (sc p)).length)) (sf_ap ss ((p + 1) * 256) (sf_S (sf_E ro (sc p)) (L p) (sf_E ro (sc p)).length)) (upd ts (p + 1) (nI (sf_P (sf_E ro (sc p)) (L p) (sf_E ro (sc p)).length).length)) := by
  have g := sf_XI_ap (l := sf_P (sf_E ro (sc p)) (L p) (sf_E ro (sc p)).length) (l' := sf_S (sf_E ro (sc p)) (L p) (sf_E ro (sc p)).length) (v := nI (sf_P (sf_E ro (sc p)) (L p) (sf_E ro (sc p)).length).length) hB hE h
  refine ⟨g.1, g.2.1, fun q hq => ?_⟩
  by_cases e : q = p
  · subst e
    refine ⟨?_, ?_, fun e he => ?_⟩
    · rw [pk_us, sf_P_all]
    · rw [sf_P_all]; exact sf_ap_hd _ _ _
    · exact sf_ap_in _ (sf_S_get _ _ _ _ he)
  · exact g.2.2 q (by omega)
theorem sf_XI_list {p q e : Nat} {x : Int32} {vs ss ts : Nat → Int32} (h : sf_XI sc L ro p vs ss ts) (hB : ((sf_E ro (sc q)).flatMap (L q)).length ≤ 216) (hq : q < p) (he : (sf_E ro (sc q))[e]? = some x) :
    ∃ s, s + (L q x).length ≤ 216 ∧ ss ((q + 1) * 256 + e) = nI s ∧ ss ((q + 1) * 256 + e + 1) = nI (s + (L q x).length) ∧ sf_Hd vs ((q + 1) * 256 + s) (L q x) := by
  obtain ⟨g1, g2, g3⟩ := sf_XR_list (h.2.2 q hq) he
  refine ⟨_, ?_, g1, g2, g3⟩
  have e2 := sf_P_split2 (f := L q) he
  rw [e2, List.length_append, List.length_append] at hB
  omega
theorem sf_XI_cat (hr : sf_Rw n sc L ro) {p c a e : Nat} {x : Int32} {vs ss ts : Nat → Int32} (hp : p ≤ n) (h : sf_XI sc L ro p vs ss ts) (hc : c < p) (ha : a < p) (hsc : sc c = a + 1) (hBa : ((sf_E ro (sc a)).flatMap (L a)).length ≤ 216) (hBc : ((sf_E ro (sc c)).flatMap (L c)).length ≤ 216) (he : (sf_E ro (sc a))[e]? = some x) :
    ∃ s0 s1 t, s0 ≤ 216 ∧ s1 ≤ 216 ∧ t + ((L a x).flatMap (L c)).length ≤ 216 ∧ ss ((a + 1) * 256 + e) = nI s0 ∧ ss ((a + 1) * 256 + e + 1) = nI s1 ∧ ss ((c + 1) * 256 + s0) = nI t ∧ ss ((c + 1) * 256 + s1) = nI (t + ((L a x).flatMap (L c)).length) ∧ sf_Hd vs ((c + 1) * 256 + t) ((L a x).flatMap (L c)) := by
  have xa := h.2.2 a ha
  have xc := h.2.2 c hc
  have eE : sf_E ro (sc c) = (sf_E ro (sc a)).flatMap (L a) := by
    rw [hsc]
    exact hr a (by omega)
  rw [eE] at xc hBc
  obtain ⟨g1, g2, g3⟩ := sf_XR_list xa he
  have l0 := sf_P_le (sf_E ro (sc a)) (L a) e
  have l1 := sf_P_le (sf_E ro (sc a)) (L a) (e + 1)
  have es := sf_P_s (f := L a) he
  have es' := congrArg List.length es
  rw [List.length_append] at es'
  have c0 := xc.2.2 _ l0
  have c1 := xc.2.2 _ l1
  rw [sf_P_cat] at c0 c1
  rw [sf_P_cat_s he, List.length_append] at c1
  have sp : ((sf_E ro (sc a)).flatMap (L a)).flatMap (L c) = (sf_P (sf_E ro (sc a)) (L a) e).flatMap (L c) ++ (L a x).flatMap (L c) ++ ((List.drop (e + 1) (sf_E ro (sc a))).flatMap (L a)).flatMap (L c) := by
    rw [sf_P_split2 (f := L a) he, List.flatMap_append, List.flatMap_append]
  have hd := xc.2.1
  rw [sp] at hd hBc
  rw [List.length_append, List.length_append] at hBc
  refine ⟨_, (sf_P (sf_E ro (sc a)) (L a) (e + 1)).length, _, by omega, by omega, ?_, g1, ?_, c0, ?_, sf_Hd_sub hd⟩
  · omega
  · rw [g2, es']
  · exact c1
end XI

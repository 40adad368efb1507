/-! the component's adders: each writes one list behind the row -/
theorem sf_ap_s2 {a : Nat → Int32} {b d i : Nat} {l m : List Int32} {v : Int32} (hl : l.length = i) (hm : m = l ++ [v]) : upd (sf_ap a (b + d) l) (b + (d + i)) v = sf_ap a (b + d) m := by
  subst hl hm
  rw [← Nat.add_assoc]
  exact sf_ap_snoc a (b + d) l v
theorem sf_tl {l : List Int32} {i : Nat} (h : i ≤ l.length) : (l.take i).length = i := by
  rw [List.length_take]; omega
theorem sf_take_min (l : List Int32) (n : Nat) : l.take (min n l.length) = l.take n := by
  by_cases h : n ≤ l.length
  · rw [Nat.min_eq_left h]
  · rw [Nat.min_eq_right (by omega), sf_take_all, List.take_of_length_le (by omega)]
theorem sf_drop_min (l : List Int32) (n : Nat) : l.drop (min n l.length) = l.drop n := by
  by_cases h : n ≤ l.length
  · rw [Nat.min_eq_left h]
  · rw [Nat.min_eq_right (by omega), List.drop_of_length_le (Nat.le_refl _), List.drop_of_length_le (by omega)]
theorem sf_Hd_take {a : Nat → Int32} {b n : Nat} {l : List Int32} (h : sf_Hd a b l) : sf_Hd a b (l.take n) := by
  intro i x hx
  have hi := sf_lt hx
  rw [List.length_take] at hi
  rw [List.getElem?_take_of_lt (by omega)] at hx
  exact h i x hx
theorem sf_Hd_drop {a : Nat → Int32} {b n : Nat} {l : List Int32} (h : sf_Hd a b l) : sf_Hd a (b + n) (l.drop n) := by
  intro i x hx
  rw [List.getElem?_drop] at hx
  rw [Nat.add_assoc]
  exact h (n + i) x hx
section XA
variable {xh xn xd xr xl : Int32} {ki op ar lo so sz cc on vs ss ts re : Nat → Int32}
theorem xu_map_l {post : St2 → Prop} {c d s : Nat} {l : List Int32} (hq : c + 1 < 17) (hs : s + l.length ≤ 216) (hd : d + l.length ≤ 216) (hl : sf_Hd vs (c * 256 + s) l)
    (h : post (xh, xn, xd, xr, xl, ki, op, ar, lo, so, sz, cc, on, sf_ap vs ((c + 1) * 256 + d) (l.map (sf_un (op (c + 1)) (ar (c + 1)))), ss, upd ts (c + 1) (nI (d + l.length)), re)) :
    ∀ k i, i + k = l.length → wX_addMapped_30 post (nI (c + 1)) (nI (c * 256)) (nI (s + l.length)) (k + 1) (nI (s + i)) xh xn xd xr xl ki op ar lo so sz cc on (sf_ap vs ((c + 1) * 256 + d) ((l.take i).map (sf_un (op (c + 1)) (ar (c + 1))))) ss (upd ts (c + 1) (nI (d + i))) re := by
  intro k
  induction k with
  | zero =>
    intro i hi
    have : i = l.length := by omega
    subst this
    rw [sf_take_all]
    exact br_t (nI_le (Nat.le_refl _) (by omega)) h
  | succ k ih =>
    intro i hi
    obtain ⟨v, hv⟩ := sf_ex (l := l) (i := i) (by omega)
    have hin : vp_in (nI (c + 1)) 17 := vp_in_nI hq (by decide)
    have e1 : (nI (c + 1)).toNatClampNeg = c + 1 := nI_clamp (by omega)
    have e2 : nI (c * 256) + nI (s + i) = nI (c * 256 + (s + i)) := nI_add _ _
    have e3 : (nI (c * 256 + (s + i))).toNatClampNeg = c * 256 + (s + i) := nI_clamp (by omega)
    have e4 : sf_ap vs ((c + 1) * 256 + d) ((l.take i).map (sf_un (op (c + 1)) (ar (c + 1)))) (c * 256 + (s + i)) = v := by
      rw [sf_ap_out (by omega), ← Nat.add_assoc]; exact hl i v hv
    refine br_f (nI_ge (by omega) (by omega)) ⟨hin, pk_in (c * 256 + (s + i)) 4352 (by omega) e2, hin, ?_⟩
    rw [e1, e2, e3, e4]
    refine xu_unary (xu_append hq (d := d + i) (by omega) pk_us (nm_r (nI_1 (s + i)) ?_))
    rw [sf_ap_s2 (i := i) (m := (l.take (i + 1)).map (sf_un (op (c + 1)) (ar (c + 1)))) (by rw [List.length_map, sf_tl (by omega)]) (by rw [sf_take_s hv, List.map_append]; rfl), sn_upd_upd]
    exact ih (i + 1) (by omega)
theorem xu_map {post : St2 → Prop} {c d s e : Nat} {l : List Int32} (hq : c + 1 < 17) (he : e + 1 < 256) (hs : s + l.length ≤ 216) (hd : d + l.length ≤ 216) (h0 : ss (c * 256 + e) = nI s) (h1 : ss (c * 256 + e + 1) = nI (s + l.length)) (hl : sf_Hd vs (c * 256 + s) l) (ht : ts (c + 1) = nI d)
    (h : post (xh, xn, xd, xr, xl, ki, op, ar, lo, so, sz, cc, on, sf_ap vs ((c + 1) * 256 + d) (l.map (sf_un (op (c + 1)) (ar (c + 1)))), ss, upd ts (c + 1) (nI (d + l.length)), re)) : wpX_addMapped post (xh, xn, xd, xr, xl, ki, op, ar, lo, so, sz, cc, on, vs, ss, ts, re) (nI (c + 1)) (nI e) := by
  have e1 : (nI (c + 1) - 1) * 256 = nI (c * 256) := by rw [nI_pred, show (256 : Int32) = nI 256 from rfl, pk_mul]
  have e2 : nI (c * 256) + nI e = nI (c * 256 + e) := nI_add _ _
  have e3 : (nI (c * 256 + e)).toNatClampNeg = c * 256 + e := nI_clamp (by omega)
  have e4 : (nI (c * 256 + e + 1)).toNatClampNeg = c * 256 + e + 1 := nI_clamp (by omega)
  refine nm_r e1 ⟨pk_in (c * 256 + e + 1) 4352 (by omega) (by rw [e2, nI_1]), nm_r (by rw [e2, nI_1, e4, h1]) ⟨pk_in (c * 256 + e) 4352 (by omega) e2, nm_r (by rw [e2, e3, h0]) ⟨l.length + 1, ?_⟩⟩⟩
  have := xu_map_l hq hs hd hl h l.length 0 (by omega)
  rw [List.take_zero, List.map_nil, sf_ap_nil, Nat.add_zero s, Nat.add_zero d, sn_upd_self ht] at this
  exact this
theorem xu_filter_l {post : St2 → Prop} {c d s : Nat} {l : List Int32} (hq : c + 1 < 17) (hs : s + l.length ≤ 216) (hd : d + (l.filter (sf_pr (op (c + 1)) (ar (c + 1)))).length ≤ 216) (hl : sf_Hd vs (c * 256 + s) l)
    (h : post (xh, xn, xd, xr, xl, ki, op, ar, lo, so, sz, cc, on, sf_ap vs ((c + 1) * 256 + d) (l.filter (sf_pr (op (c + 1)) (ar (c + 1)))), ss, upd ts (c + 1) (nI (d + (l.filter (sf_pr (op (c + 1)) (ar (c + 1)))).length)), re)) :
    ∀ k i, i + k = l.length → wX_addFiltered_30 post (nI (c + 1)) (nI (c * 256)) (nI (s + l.length)) (k + 1) (nI (s + i)) xh xn xd xr xl ki op ar lo so sz cc on (sf_ap vs ((c + 1) * 256 + d) ((l.take i).filter (sf_pr (op (c + 1)) (ar (c + 1))))) ss (upd ts (c + 1) (nI (d + ((l.take i).filter (sf_pr (op (c + 1)) (ar (c + 1)))).length))) re := by
  intro k
  induction k with
  | zero =>
    intro i hi
    have : i = l.length := by omega
    subst this
    rw [sf_take_all]
    exact br_t (nI_le (Nat.le_refl _) (by omega)) h
  | succ k ih =>
    intro i hi
    obtain ⟨v, hv⟩ := sf_ex (l := l) (i := i) (by omega)
    have hin : vp_in (nI (c + 1)) 17 := vp_in_nI hq (by decide)
    have e1 : (nI (c + 1)).toNatClampNeg = c + 1 := nI_clamp (by omega)
    have e2 : nI (c * 256) + nI (s + i) = nI (c * 256 + (s + i)) := nI_add _ _
    have e3 : (nI (c * 256 + (s + i))).toNatClampNeg = c * 256 + (s + i) := nI_clamp (by omega)
    have e4 : sf_ap vs ((c + 1) * 256 + d) ((l.take i).filter (sf_pr (op (c + 1)) (ar (c + 1)))) (c * 256 + (s + i)) = v := by
      rw [sf_ap_out (by omega), ← Nat.add_assoc]; exact hl i v hv
    have hvi : vp_in (nI (c * 256) + nI (s + i)) 4352 := pk_in (c * 256 + (s + i)) 4352 (by omega) e2
    have es : (l.take (i + 1)).filter (sf_pr (op (c + 1)) (ar (c + 1))) = (l.take i).filter (sf_pr (op (c + 1)) (ar (c + 1))) ++ (if sf_pr (op (c + 1)) (ar (c + 1)) v = true then [v] else []) := by
      rw [sf_take_s hv, List.filter_append]
      by_cases hp : sf_pr (op (c + 1)) (ar (c + 1)) v = true
      · rw [if_pos hp, List.filter_cons_of_pos hp]; rfl
      · rw [if_neg hp, List.filter_cons_of_neg hp]; rfl
    have hle : ((l.take (i + 1)).filter (sf_pr (op (c + 1)) (ar (c + 1)))).length ≤ (l.filter (sf_pr (op (c + 1)) (ar (c + 1)))).length := by
      have := congrArg (fun m => (m.filter (sf_pr (op (c + 1)) (ar (c + 1)))).length) (List.take_append_drop (i + 1) l)
      simp only [List.filter_append, List.length_append] at this
      omega
    refine br_f (nI_ge (by omega) (by omega)) ⟨hin, hvi, hin, ?_⟩
    have ihs := ih (i + 1) (by omega)
    by_cases hp : sf_pr (op (c + 1)) (ar (c + 1)) v = true
    · rw [if_pos hp] at es
      have el : ((l.take (i + 1)).filter (sf_pr (op (c + 1)) (ar (c + 1)))).length = ((l.take i).filter (sf_pr (op (c + 1)) (ar (c + 1)))).length + 1 := by
        rw [es, List.length_append]; rfl
      rw [e1, e2, e3, e4]
      refine xu_holds ?_
      rw [hp]
      refine br_f (show ¬ xu_b true = 0 from by decide) ⟨e2 ▸ hvi, xu_append hq (d := d + ((l.take i).filter (sf_pr (op (c + 1)) (ar (c + 1)))).length) (by omega) pk_us (nm_r (nI_1 (s + i)) ?_)⟩
      rw [sf_ap_s2 rfl es, sn_upd_upd]
      rw [el] at ihs
      exact ihs
    · rw [if_neg hp, List.append_nil] at es
      rw [e1, e2, e3, e4]
      refine xu_holds ?_
      rw [Bool.eq_false_iff.mpr hp]
      refine br_t (show xu_b false = 0 from by decide) (nm_r (nI_1 (s + i)) ?_)
      rw [es] at ihs
      exact ihs
theorem xu_filter {post : St2 → Prop} {c d s e : Nat} {l : List Int32} (hq : c + 1 < 17) (he : e + 1 < 256) (hs : s + l.length ≤ 216) (hd : d + (l.filter (sf_pr (op (c + 1)) (ar (c + 1)))).length ≤ 216) (h0 : ss (c * 256 + e) = nI s) (h1 : ss (c * 256 + e + 1) = nI (s + l.length)) (hl : sf_Hd vs (c * 256 + s) l) (ht : ts (c + 1) = nI d)
    (h : post (xh, xn, xd, xr, xl, ki, op, ar, lo, so, sz, cc, on, sf_ap vs ((c + 1) * 256 + d) (l.filter (sf_pr (op (c + 1)) (ar (c + 1)))), ss, upd ts (c + 1) (nI (d + (l.filter (sf_pr (op (c + 1)) (ar (c + 1)))).length)), re)) : wpX_addFiltered post (xh, xn, xd, xr, xl, ki, op, ar, lo, so, sz, cc, on, vs, ss, ts, re) (nI (c + 1)) (nI e) := by
  have e1 : (nI (c + 1) - 1) * 256 = nI (c * 256) := by rw [nI_pred, show (256 : Int32) = nI 256 from rfl, pk_mul]
  have e2 : nI (c * 256) + nI e = nI (c * 256 + e) := nI_add _ _
  have e3 : (nI (c * 256 + e)).toNatClampNeg = c * 256 + e := nI_clamp (by omega)
  have e4 : (nI (c * 256 + e + 1)).toNatClampNeg = c * 256 + e + 1 := nI_clamp (by omega)
  refine nm_r e1 ⟨pk_in (c * 256 + e + 1) 4352 (by omega) (by rw [e2, nI_1]), nm_r (by rw [e2, nI_1, e4, h1]) ⟨pk_in (c * 256 + e) 4352 (by omega) e2, nm_r (by rw [e2, e3, h0]) ⟨l.length + 1, ?_⟩⟩⟩
  have := xu_filter_l hq hs hd hl h l.length 0 (by omega)
  rw [List.take_zero, List.filter_nil, sf_ap_nil, Nat.add_zero s, List.length_nil, Nat.add_zero d, sn_upd_self ht] at this
  exact this
theorem xu_slice_l {post : St2 → Prop} {c d s : Nat} {l : List Int32} (hq : c + 1 < 17) (hs : s + l.length ≤ 216) (hd : d + l.length ≤ 216) (hl : sf_Hd vs (c * 256 + s) l)
    (h : post (xh, xn, xd, xr, xl, ki, op, ar, lo, so, sz, cc, on, sf_ap vs ((c + 1) * 256 + d) l, ss, upd ts (c + 1) (nI (d + l.length)), re)) :
    ∀ k i, i + k = l.length → wX_addSlice_12 post (nI (c + 1)) (nI (s + l.length)) (nI (c * 256)) (k + 1) (nI (s + i)) xh xn xd xr xl ki op ar lo so sz cc on (sf_ap vs ((c + 1) * 256 + d) (l.take i)) ss (upd ts (c + 1) (nI (d + i))) re := by
  intro k
  induction k with
  | zero =>
    intro i hi
    have : i = l.length := by omega
    subst this
    rw [sf_take_all]
    exact br_t (nI_le (Nat.le_refl _) (by omega)) h
  | succ k ih =>
    intro i hi
    obtain ⟨v, hv⟩ := sf_ex (l := l) (i := i) (by omega)
    have e2 : nI (c * 256) + nI (s + i) = nI (c * 256 + (s + i)) := nI_add _ _
    have e3 : (nI (c * 256 + (s + i))).toNatClampNeg = c * 256 + (s + i) := nI_clamp (by omega)
    have e4 : sf_ap vs ((c + 1) * 256 + d) (l.take i) (c * 256 + (s + i)) = v := by
      rw [sf_ap_out (by omega), ← Nat.add_assoc]; exact hl i v hv
    refine br_f (nI_ge (by omega) (by omega)) ⟨pk_in (c * 256 + (s + i)) 4352 (by omega) e2, ?_⟩
    rw [e2, e3, e4]
    refine xu_append hq (d := d + i) (by omega) pk_us (nm_r (nI_1 (s + i)) ?_)
    rw [sf_ap_s2 (i := i) (m := l.take (i + 1)) (sf_tl (by omega)) (sf_take_s hv), sn_upd_upd]
    exact ih (i + 1) (by omega)
theorem xu_slice {post : St2 → Prop} {c d s t : Nat} {l : List Int32} (hq : c + 1 < 17) (hs : s + l.length ≤ 216) (et : t = s + l.length) (hd : d + l.length ≤ 216) (hl : sf_Hd vs (c * 256 + s) l) (ht : ts (c + 1) = nI d)
    (h : post (xh, xn, xd, xr, xl, ki, op, ar, lo, so, sz, cc, on, sf_ap vs ((c + 1) * 256 + d) l, ss, upd ts (c + 1) (nI (d + l.length)), re)) : wpX_addSlice post (xh, xn, xd, xr, xl, ki, op, ar, lo, so, sz, cc, on, vs, ss, ts, re) (nI (c + 1)) (nI s) (nI t) := by
  subst et
  have e1 : (nI (c + 1) - 1) * 256 = nI (c * 256) := by rw [nI_pred, show (256 : Int32) = nI 256 from rfl, pk_mul]
  refine nm_r e1 ⟨l.length + 1, ?_⟩
  have := xu_slice_l hq hs hd hl h l.length 0 (by omega)
  rw [List.take_zero, sf_ap_nil, Nat.add_zero s, Nat.add_zero d, sn_upd_self ht] at this
  exact this
theorem xu_take {post : St2 → Prop} {c d s e : Nat} {l : List Int32} (hq : c + 1 < 17) (he : e + 1 < 256) (hs : s + l.length ≤ 216) (hd : d + (l.take (ar (c + 1)).toNatClampNeg).length ≤ 216) (h0 : ss (c * 256 + e) = nI s) (h1 : ss (c * 256 + e + 1) = nI (s + l.length)) (hl : sf_Hd vs (c * 256 + s) l) (ht : ts (c + 1) = nI d)
    (h : post (xh, xn, xd, xr, xl, ki, op, ar, lo, so, sz, cc, on, sf_ap vs ((c + 1) * 256 + d) (l.take (ar (c + 1)).toNatClampNeg), ss, upd ts (c + 1) (nI (d + (l.take (ar (c + 1)).toNatClampNeg).length)), re)) : wpX_addTaken post (xh, xn, xd, xr, xl, ki, op, ar, lo, so, sz, cc, on, vs, ss, ts, re) (nI (c + 1)) (nI e) := by
  have e1 : (nI (c + 1) - 1) * 256 = nI (c * 256) := by rw [nI_pred, show (256 : Int32) = nI 256 from rfl, pk_mul]
  have e2 : nI (c * 256) + nI e = nI (c * 256 + e) := nI_add _ _
  have e3 : (nI (c * 256 + e)).toNatClampNeg = c * 256 + e := nI_clamp (by omega)
  have e4 : (nI (c * 256 + e + 1)).toNatClampNeg = c * 256 + e + 1 := nI_clamp (by omega)
  have e5 : (nI (c + 1)).toNatClampNeg = c + 1 := nI_clamp (by omega)
  have e6 : nI (s + l.length) - nI s = nI l.length := sn_sub (by omega)
  refine nm_r e1 ⟨pk_in (c * 256 + e) 4352 (by omega) e2, nm_r (e' := nI s) (by rw [e2, e3, h0]) ⟨vp_in_nI hq (by decide), pk_in (c * 256 + e + 1) 4352 (by omega) (by rw [e2, nI_1]), ?_⟩⟩
  rw [e2, nI_1, e4, h1, e5, e6]
  refine xu_clamp (by omega) ?_
  rw [nI_add]
  rw [← sf_take_min] at h hd
  have hml : (l.take (min (ar (c + 1)).toNatClampNeg l.length)).length = min (ar (c + 1)).toNatClampNeg l.length := sf_tl (Nat.min_le_right _ _)
  have hmm := Nat.min_le_right (ar (c + 1)).toNatClampNeg l.length
  exact xu_slice hq (l := l.take (min (ar (c + 1)).toNatClampNeg l.length)) (by omega) (by rw [hml]) hd (sf_Hd_take hl) ht h
theorem xu_drop {post : St2 → Prop} {c d s e : Nat} {l : List Int32} (hq : c + 1 < 17) (he : e + 1 < 256) (hs : s + l.length ≤ 216) (hd : d + (l.drop (ar (c + 1)).toNatClampNeg).length ≤ 216) (h0 : ss (c * 256 + e) = nI s) (h1 : ss (c * 256 + e + 1) = nI (s + l.length)) (hl : sf_Hd vs (c * 256 + s) l) (ht : ts (c + 1) = nI d)
    (h : post (xh, xn, xd, xr, xl, ki, op, ar, lo, so, sz, cc, on, sf_ap vs ((c + 1) * 256 + d) (l.drop (ar (c + 1)).toNatClampNeg), ss, upd ts (c + 1) (nI (d + (l.drop (ar (c + 1)).toNatClampNeg).length)), re)) : wpX_addDropped post (xh, xn, xd, xr, xl, ki, op, ar, lo, so, sz, cc, on, vs, ss, ts, re) (nI (c + 1)) (nI e) := by
  have e1 : (nI (c + 1) - 1) * 256 = nI (c * 256) := by rw [nI_pred, show (256 : Int32) = nI 256 from rfl, pk_mul]
  have e2 : nI (c * 256) + nI e = nI (c * 256 + e) := nI_add _ _
  have e3 : (nI (c * 256 + e)).toNatClampNeg = c * 256 + e := nI_clamp (by omega)
  have e4 : (nI (c * 256 + e + 1)).toNatClampNeg = c * 256 + e + 1 := nI_clamp (by omega)
  have e5 : (nI (c + 1)).toNatClampNeg = c + 1 := nI_clamp (by omega)
  have e6 : nI (s + l.length) - nI s = nI l.length := sn_sub (by omega)
  refine nm_r e1 ⟨pk_in (c * 256 + e) 4352 (by omega) e2, nm_r (e' := nI s) (by rw [e2, e3, h0]) ⟨pk_in (c * 256 + e + 1) 4352 (by omega) (by rw [e2, nI_1]), nm_r (e' := nI (s + l.length)) (by rw [e2, nI_1, e4, h1]) ⟨vp_in_nI hq (by decide), ?_⟩⟩⟩
  rw [e5, e6]
  refine xu_clamp (by omega) ?_
  rw [nI_add]
  rw [← sf_drop_min] at h hd
  have hml : (l.drop (min (ar (c + 1)).toNatClampNeg l.length)).length = l.length - min (ar (c + 1)).toNatClampNeg l.length := List.length_drop
  have hmm := Nat.min_le_right (ar (c + 1)).toNatClampNeg l.length
  refine xu_slice hq (l := l.drop (min (ar (c + 1)).toNatClampNeg l.length)) (by omega) (by omega) hd ?_ ht h
  rw [← Nat.add_assoc]
  exact sf_Hd_drop hl
theorem xu_scan_l {post : St2 → Prop} {c d s : Nat} {a : Int32} {l : List Int32} (hq : c + 1 < 17) (hs : s + l.length ≤ 216) (hd : d + l.length ≤ 216) (hl : sf_Hd vs (c * 256 + s) l)
    (h : post (xh, xn, xd, xr, xl, ki, op, ar, lo, so, sz, cc, on, sf_ap vs ((c + 1) * 256 + d) (sf_scan (op (c + 1)) a l), ss, upd ts (c + 1) (nI (d + l.length)), re)) :
    ∀ k i, i + k = l.length → wX_addScanned_38 post (nI (c + 1)) (nI (c * 256)) (nI (s + l.length)) (k + 1) (sf_fold (op (c + 1)) a (l.take i)) (nI (s + i)) xh xn xd xr xl ki op ar lo so sz cc on (sf_ap vs ((c + 1) * 256 + d) (sf_scan (op (c + 1)) a (l.take i))) ss (upd ts (c + 1) (nI (d + i))) re := by
  intro k
  induction k with
  | zero =>
    intro i hi
    have : i = l.length := by omega
    subst this
    rw [sf_take_all]
    exact br_t (nI_le (Nat.le_refl _) (by omega)) h
  | succ k ih =>
    intro i hi
    obtain ⟨v, hv⟩ := sf_ex (l := l) (i := i) (by omega)
    have hin : vp_in (nI (c + 1)) 17 := vp_in_nI hq (by decide)
    have e1 : (nI (c + 1)).toNatClampNeg = c + 1 := nI_clamp (by omega)
    have e2 : nI (c * 256) + nI (s + i) = nI (c * 256 + (s + i)) := nI_add _ _
    have e3 : (nI (c * 256 + (s + i))).toNatClampNeg = c * 256 + (s + i) := nI_clamp (by omega)
    have e4 : sf_ap vs ((c + 1) * 256 + d) (sf_scan (op (c + 1)) a (l.take i)) (c * 256 + (s + i)) = v := by
      rw [sf_ap_out (by omega), ← Nat.add_assoc]; exact hl i v hv
    refine br_f (nI_ge (by omega) (by omega)) ⟨hin, pk_in (c * 256 + (s + i)) 4352 (by omega) e2, ?_⟩
    rw [e1, e2, e3, e4]
    refine xu_binary (xu_append hq (d := d + i) (by omega) pk_us (nm_r (nI_1 (s + i)) ?_))
    rw [sf_ap_s2 (i := i) (m := sf_scan (op (c + 1)) a (l.take (i + 1))) (by rw [sf_scan_len, sf_tl (by omega)]) (by rw [sf_take_s hv, sf_scan_snoc]), sn_upd_upd]
    have := ih (i + 1) (by omega)
    rw [show sf_fold (op (c + 1)) a (l.take (i + 1)) = sf_bi (op (c + 1)) (sf_fold (op (c + 1)) a (l.take i)) v from by rw [sf_take_s hv, sf_fold_snoc]] at this
    exact this
theorem xu_scan {post : St2 → Prop} {c d s e : Nat} {l : List Int32} (hq : c + 1 < 17) (he : e + 1 < 256) (hs : s + l.length ≤ 216) (hd : d + l.length ≤ 216) (h0 : ss (c * 256 + e) = nI s) (h1 : ss (c * 256 + e + 1) = nI (s + l.length)) (hl : sf_Hd vs (c * 256 + s) l) (ht : ts (c + 1) = nI d)
    (h : post (xh, xn, xd, xr, xl, ki, op, ar, lo, so, sz, cc, on, sf_ap vs ((c + 1) * 256 + d) (sf_scan (op (c + 1)) (ar (c + 1)) l), ss, upd ts (c + 1) (nI (d + l.length)), re)) : wpX_addScanned post (xh, xn, xd, xr, xl, ki, op, ar, lo, so, sz, cc, on, vs, ss, ts, re) (nI (c + 1)) (nI e) := by
  have e1 : (nI (c + 1) - 1) * 256 = nI (c * 256) := by rw [nI_pred, show (256 : Int32) = nI 256 from rfl, pk_mul]
  have e2 : nI (c * 256) + nI e = nI (c * 256 + e) := nI_add _ _
  have e3 : (nI (c * 256 + e)).toNatClampNeg = c * 256 + e := nI_clamp (by omega)
  have e4 : (nI (c * 256 + e + 1)).toNatClampNeg = c * 256 + e + 1 := nI_clamp (by omega)
  have e5 : (nI (c + 1)).toNatClampNeg = c + 1 := nI_clamp (by omega)
  refine nm_r e1 ⟨pk_in (c * 256 + e + 1) 4352 (by omega) (by rw [e2, nI_1]), nm_r (by rw [e2, nI_1, e4, h1]) ⟨vp_in_nI hq (by decide), nm_r (by rw [e5]) ⟨pk_in (c * 256 + e) 4352 (by omega) e2, nm_r (by rw [e2, e3, h0]) ⟨l.length + 1, ?_⟩⟩⟩⟩
  have := xu_scan_l hq hs hd hl h l.length 0 (by omega)
  rw [List.take_zero, show sf_fold (op (c + 1)) (ar (c + 1)) [] = ar (c + 1) from rfl, show sf_scan (op (c + 1)) (ar (c + 1)) [] = [] from rfl, sf_ap_nil, Nat.add_zero s, Nat.add_zero d, sn_upd_self ht] at this
  exact this
theorem xu_zip_l {post : St2 → Prop} {a c d s t n : Nat} {m l : List Int32} (hq : c + 1 < 17) (ha : a < c + 1) (hs : s + m.length ≤ 216) (hs' : t + l.length ≤ 216) (hn : n = min m.length l.length) (hd : d + n ≤ 216) (hm : sf_Hd vs (a * 256 + s) m) (hl : sf_Hd vs (c * 256 + t) l)
    (h : post (xh, xn, xd, xr, xl, ki, op, ar, lo, so, sz, cc, on, sf_ap vs ((c + 1) * 256 + d) (List.zipWith (sf_bi (op (c + 1))) m l), ss, upd ts (c + 1) (nI (d + n)), re)) :
    ∀ k i, i + k = n → wX_addZipped_91 post (nI (c + 1)) (nI (a * 256)) (nI (c * 256)) (nI s) (nI t) (nI n) (k + 1) (nI i) xh xn xd xr xl ki op ar lo so sz cc on (sf_ap vs ((c + 1) * 256 + d) (List.zipWith (sf_bi (op (c + 1))) (m.take i) (l.take i))) ss (upd ts (c + 1) (nI (d + i))) re := by
  have h1 : n ≤ m.length := by omega
  have h2 : n ≤ l.length := by omega
  intro k
  induction k with
  | zero =>
    intro i hi
    have : i = n := by omega
    subst this
    have ez : List.zipWith (sf_bi (op (c + 1))) (m.take i) (l.take i) = List.zipWith (sf_bi (op (c + 1))) m l := by
      rw [← List.take_zipWith, List.take_of_length_le (by rw [List.length_zipWith]; omega)]
    rw [ez]
    exact br_t (nI_le (Nat.le_refl _) (by omega)) h
  | succ k ih =>
    intro i hi
    obtain ⟨v, hv⟩ := sf_ex (l := l) (i := i) (by omega)
    obtain ⟨u, hu⟩ := sf_ex (l := m) (i := i) (by omega)
    have hin : vp_in (nI (c + 1)) 17 := vp_in_nI hq (by decide)
    have e1 : (nI (c + 1)).toNatClampNeg = c + 1 := nI_clamp (by omega)
    have e2 : nI (c * 256) + nI t + nI i = nI (c * 256 + t + i) := by rw [nI_add, nI_add]
    have e3 : (nI (c * 256 + t + i)).toNatClampNeg = c * 256 + t + i := nI_clamp (by omega)
    have e4 : sf_ap vs ((c + 1) * 256 + d) (List.zipWith (sf_bi (op (c + 1))) (m.take i) (l.take i)) (c * 256 + t + i) = v := by
      rw [sf_ap_out (by omega)]; exact hl i v hv
    have f2 : nI (a * 256) + nI s + nI i = nI (a * 256 + s + i) := by rw [nI_add, nI_add]
    have f3 : (nI (a * 256 + s + i)).toNatClampNeg = a * 256 + s + i := nI_clamp (by omega)
    have f4 : sf_ap vs ((c + 1) * 256 + d) (List.zipWith (sf_bi (op (c + 1))) (m.take i) (l.take i)) (a * 256 + s + i) = u := by
      rw [sf_ap_out (by omega)]; exact hm i u hu
    refine br_f (nI_ge (by omega) (by omega)) ⟨hin, pk_in (a * 256 + s + i) 4352 (by omega) f2, pk_in (c * 256 + t + i) 4352 (by omega) e2, ?_⟩
    rw [e1, f2, f3, f4, e2, e3, e4]
    refine xu_binary (xu_append hq (d := d + i) (by omega) pk_us (nm_r (nI_1 i) ?_))
    rw [sf_ap_s2 (i := i) (m := List.zipWith (sf_bi (op (c + 1))) (m.take (i + 1)) (l.take (i + 1))) (by rw [List.length_zipWith, sf_tl (by omega), sf_tl (by omega)]; omega) (by rw [sf_take_s hv, sf_take_s hu, List.zipWith_append (by rw [sf_tl (by omega), sf_tl (by omega)])]; rfl), sn_upd_upd]
    exact ih (i + 1) (by omega)
theorem xu_zip {post : St2 → Prop} {a c d s t e : Nat} {m l : List Int32} (hq : c + 1 < 17) (ha : a < c + 1) (he : e + 1 < 256) (hs : s + m.length ≤ 216) (hs' : t + l.length ≤ 216) (hd : d + (List.zipWith (sf_bi (op (c + 1))) m l).length ≤ 216) (hlo : lo (c + 1) = nI a) (g0 : ss (a * 256 + e) = nI s) (g1 : ss (a * 256 + e + 1) = nI (s + m.length)) (h0 : ss (c * 256 + e) = nI t) (h1 : ss (c * 256 + e + 1) = nI (t + l.length)) (hm : sf_Hd vs (a * 256 + s) m) (hl : sf_Hd vs (c * 256 + t) l) (ht : ts (c + 1) = nI d)
    (h : post (xh, xn, xd, xr, xl, ki, op, ar, lo, so, sz, cc, on, sf_ap vs ((c + 1) * 256 + d) (List.zipWith (sf_bi (op (c + 1))) m l), ss, upd ts (c + 1) (nI (d + (List.zipWith (sf_bi (op (c + 1))) m l).length)), re)) : wpX_addZipped post (xh, xn, xd, xr, xl, ki, op, ar, lo, so, sz, cc, on, vs, ss, ts, re) (nI (c + 1)) (nI e) := by
  have e1 : (nI (c + 1) - 1) * 256 = nI (c * 256) := by rw [nI_pred, show (256 : Int32) = nI 256 from rfl, pk_mul]
  have e5 : (nI (c + 1)).toNatClampNeg = c + 1 := nI_clamp (by omega)
  have e0 : lo (nI (c + 1)).toNatClampNeg * 256 = nI (a * 256) := by rw [e5, hlo, show (256 : Int32) = nI 256 from rfl, pk_mul]
  have e2 : nI (c * 256) + nI e = nI (c * 256 + e) := nI_add _ _
  have e3 : (nI (c * 256 + e)).toNatClampNeg = c * 256 + e := nI_clamp (by omega)
  have e4 : (nI (c * 256 + e + 1)).toNatClampNeg = c * 256 + e + 1 := nI_clamp (by omega)
  have f2 : nI (a * 256) + nI e = nI (a * 256 + e) := nI_add _ _
  have f3 : (nI (a * 256 + e)).toNatClampNeg = a * 256 + e := nI_clamp (by omega)
  have f4 : (nI (a * 256 + e + 1)).toNatClampNeg = a * 256 + e + 1 := nI_clamp (by omega)
  have e6 : nI (t + l.length) - nI t = nI l.length := sn_sub (by omega)
  have f6 : nI (s + m.length) - nI s = nI m.length := sn_sub (by omega)
  rw [List.length_zipWith] at hd h
  refine And.intro (vp_in_nI hq (by decide)) (nm_r e0 (nm_r e1 ⟨pk_in (a * 256 + e) 4352 (by omega) f2, nm_r (e' := nI s) (by rw [f2, f3, g0]) ⟨pk_in (c * 256 + e) 4352 (by omega) e2, nm_r (e' := nI t) (by rw [e2, e3, h0]) ⟨pk_in (a * 256 + e + 1) 4352 (by omega) (by rw [f2, nI_1]), nm_r (e' := nI m.length) (by rw [f2, nI_1, f4, g1, f6]) ⟨pk_in (c * 256 + e + 1) 4352 (by omega) (by rw [e2, nI_1]), nm_r (e' := nI l.length) (by rw [e2, nI_1, e4, h1, e6]) ?_⟩⟩⟩⟩))
  have key : ∀ n, n = min m.length l.length → ∃ n91 : Nat, wX_addZipped_91 post (nI (c + 1)) (nI (a * 256)) (nI (c * 256)) (nI s) (nI t) (nI n) n91 0 xh xn xd xr xl ki op ar lo so sz cc on vs ss ts re := by
    intro n hn
    refine ⟨n + 1, ?_⟩
    have := xu_zip_l (post := post) (d := d) hq ha hs hs' hn (by omega) hm hl (by rw [hn]; exact h) n 0 (by omega)
    rw [List.take_zero, List.take_zero, List.zipWith_nil_left, sf_ap_nil, Nat.add_zero d, sn_upd_self ht] at this
    exact this
  refine ⟨fun z => ?_, fun z => ?_⟩
  · have := (nI_leI (by omega) (by omega)).mp z
    exact key _ (by omega)
  · have : ¬ l.length ≤ m.length := fun g => z ((nI_leI (by omega) (by omega)).mpr g)
    exact key _ (by omega)
theorem xu_cat {post : St2 → Prop} {a c d s0 s1 t e : Nat} {l : List Int32} (hq : c + 1 < 17) (ha : a < c + 1) (he : e + 1 < 256) (hs0 : s0 ≤ 216) (hs1 : s1 ≤ 216) (hs : t + l.length ≤ 216) (hd : d + l.length ≤ 216) (hlo : lo (c + 1) = nI a) (g0 : ss (a * 256 + e) = nI s0) (g1 : ss (a * 256 + e + 1) = nI s1) (h0 : ss (c * 256 + s0) = nI t) (h1 : ss (c * 256 + s1) = nI (t + l.length)) (hl : sf_Hd vs (c * 256 + t) l) (ht : ts (c + 1) = nI d)
    (h : post (xh, xn, xd, xr, xl, ki, op, ar, lo, so, sz, cc, on, sf_ap vs ((c + 1) * 256 + d) l, ss, upd ts (c + 1) (nI (d + l.length)), re)) : wpX_addConcatenated post (xh, xn, xd, xr, xl, ki, op, ar, lo, so, sz, cc, on, vs, ss, ts, re) (nI (c + 1)) (nI e) := by
  have e1 : (nI (c + 1) - 1) * 256 = nI (c * 256) := by rw [nI_pred, show (256 : Int32) = nI 256 from rfl, pk_mul]
  have e5 : (nI (c + 1)).toNatClampNeg = c + 1 := nI_clamp (by omega)
  have e0 : lo (nI (c + 1)).toNatClampNeg * 256 = nI (a * 256) := by rw [e5, hlo, show (256 : Int32) = nI 256 from rfl, pk_mul]
  have f2 : nI (a * 256) + nI e = nI (a * 256 + e) := nI_add _ _
  have f3 : (nI (a * 256 + e)).toNatClampNeg = a * 256 + e := nI_clamp (by omega)
  have f4 : (nI (a * 256 + e + 1)).toNatClampNeg = a * 256 + e + 1 := nI_clamp (by omega)
  have i0 : nI (c * 256) + ss (nI (a * 256) + nI e).toNatClampNeg = nI (c * 256 + s0) := by rw [f2, f3, g0, nI_add]
  have i1 : nI (c * 256) + ss (nI (a * 256) + nI e + 1).toNatClampNeg = nI (c * 256 + s1) := by rw [f2, nI_1, f4, g1, nI_add]
  have j0 : (nI (c * 256 + s0)).toNatClampNeg = c * 256 + s0 := nI_clamp (by omega)
  have j1 : (nI (c * 256 + s1)).toNatClampNeg = c * 256 + s1 := nI_clamp (by omega)
  refine And.intro (vp_in_nI hq (by decide)) (nm_r e0 (nm_r e1 ⟨pk_in (a * 256 + e) 4352 (by omega) f2, pk_in (c * 256 + s0) 4352 (by omega) i0, nm_r (e' := nI t) (by rw [i0, j0, h0]) ⟨pk_in (a * 256 + e + 1) 4352 (by omega) (by rw [f2, nI_1]), pk_in (c * 256 + s1) 4352 (by omega) i1, nm_r (e' := nI (t + l.length)) (by rw [i1, j1, h1]) ?_⟩⟩))
  exact xu_slice hq hs rfl hd hl ht h
end XA

/-! the reference's primitives and its loops over one node -/
theorem sf_ap_s3 {a : Nat → Int32} {b i : Nat} {l m : List Int32} {v : Int32} (hl : l.length = i) (hm : m = l ++ [v]) : upd (sf_ap a b l) (b + i) v = sf_ap a b m := by
  subst hl hm
  exact sf_ap_snoc a b l v
section YP
variable {yh yn yo ye yc : Int32} {kd pa pb yt bi ln sl cj ac ov : Nat → Int32}
theorem yu_216 (q d : Nat) : nI q * 216 + nI d = nI (q * 216 + d) := by
  rw [show (216 : Int32) = nI 216 from rfl, pk_mul, nI_add]
theorem yu_cell {post : Int32 → Prop} {q i : Nat} {v : Int32} (hq : q < 16) (hi : i < 216) (hv : sl (q * 216 + i) = v) (h : post v) : wpY_cell post (yh, yn, yo, ye, yc, kd, pa, pb, yt, bi, ln, sl, cj, ac, ov) (nI q) (nI i) := by
  have e := yu_216 q i
  have e2 : (nI (q * 216 + i)).toNatClampNeg = q * 216 + i := nI_clamp (by omega)
  refine br_f (nI_pos (by omega)) (br_f (nI_ge (b := 16) hq (by decide)) (br_f (nI_pos (by omega)) (br_t (nI_lt (b := 216) hi (by decide)) ⟨pk_in (q * 216 + i) 3456 (by omega) e, ?_⟩)))
  rw [e, e2, hv]
  exact h
theorem yu_put {post : SY → Prop} {q i : Nat} {v : Int32} (hq : q < 16) (hi : i < 216) (h : post (yh, yn, yo, ye, yc, kd, pa, pb, yt, bi, ln, upd sl (q * 216 + i) v, cj, ac, ov)) : wpY_put post (yh, yn, yo, ye, yc, kd, pa, pb, yt, bi, ln, sl, cj, ac, ov) (nI q) (nI i) v := by
  have e := yu_216 q i
  have e2 : (nI (q * 216 + i)).toNatClampNeg = q * 216 + i := nI_clamp (by omega)
  exact br_f (nI_pos (by omega)) (br_f (nI_ge (b := 16) hq (by decide)) (br_f (nI_pos (by omega)) (br_t (nI_lt (b := 216) hi (by decide)) ⟨pk_in (q * 216 + i) 3456 (by omega) e, nm_r (e' := upd sl (q * 216 + i) v) (by rw [e, e2]) h⟩)))
theorem yu_lenOf {post : Int32 → Prop} {q : Nat} {v : Int32} (hq : q < 16) (hv : ln q = v) (h : post v) : wpY_lenOf post (yh, yn, yo, ye, yc, kd, pa, pb, yt, bi, ln, sl, cj, ac, ov) (nI q) := by
  have e : (nI q).toNatClampNeg = q := nI_clamp (by omega)
  refine br_f (nI_pos (by omega)) (br_t (nI_lt (b := 16) hq (by decide)) ⟨vp_in_nI hq (by decide), ?_⟩)
  rw [e, hv]
  exact h
theorem yu_lenP {post : Int32 → Prop} {p : Nat} (hp : p < 16) (h : ∀ r, post r) : wpY_lenOf post (yh, yn, yo, ye, yc, kd, pa, pb, yt, bi, ln, sl, cj, ac, ov) (nI p - 1) := by
  cases p with
  | zero => exact br_t (by decide) (h 0)
  | succ c =>
    rw [nI_pred]
    exact yu_lenOf (by omega) rfl (h _)
theorem yu_unary {post : Int32 → Prop} {o x k : Int32} (h : post (sf_un o k x)) : wpY_unary post (yh, yn, yo, ye, yc, kd, pa, pb, yt, bi, ln, sl, cj, ac, ov) o k x := by
  unfold sf_un at h
  have g0 := xu_if h
  refine And.intro g0.1 (fun e => ?_)
  have g1 := xu_if (g0.2 e)
  refine ⟨g1.1, fun e => ?_⟩
  have g2 := xu_if (g1.2 e)
  refine ⟨g2.1, fun e => ?_⟩
  have g3 := xu_if (g2.2 e)
  refine ⟨fun z => ⟨(xu_if (g3.1 z)).1, fun w => ⟨w, (xu_if (g3.1 z)).2 w⟩⟩, fun e => ?_⟩
  have g4 := xu_if (g3.2 e)
  refine ⟨fun z => ⟨(xu_if (g4.1 z)).1, fun w => ⟨w, (xu_if (g4.1 z)).2 w⟩⟩, fun e => ?_⟩
  have g5 := xu_if (g4.2 e)
  refine ⟨fun z => xu_if (g5.1 z), fun e => ?_⟩
  have g6 := xu_if (g5.2 e)
  refine ⟨fun z => xu_if (g6.1 z), fun e => ?_⟩
  exact xu_if (g6.2 e)
theorem yu_binary {post : Int32 → Prop} {o x k : Int32} (h : post (sf_bi o x k)) : wpY_binary post (yh, yn, yo, ye, yc, kd, pa, pb, yt, bi, ln, sl, cj, ac, ov) o x k := by
  unfold sf_bi at h
  have g0 := xu_if h
  refine And.intro g0.1 (fun e => ?_)
  have g1 := xu_if (g0.2 e)
  refine ⟨g1.1, fun e => ?_⟩
  have g2 := xu_if (g1.2 e)
  refine ⟨g2.1, fun e => ?_⟩
  have g3 := xu_if (g2.2 e)
  refine ⟨fun z => xu_if (g3.1 z), fun e => ?_⟩
  have g4 := xu_if (g3.2 e)
  refine ⟨fun z => xu_if (g4.1 z), fun e => ?_⟩
  exact xu_if (g4.2 e)
theorem yu_pred {post : Int32 → Prop} {o x k : Int32} (h : post (xu_b (sf_pr o k x))) : wpY_pred post (yh, yn, yo, ye, yc, kd, pa, pb, yt, bi, ln, sl, cj, ac, ov) o k x := by
  have h2 : ¬ (2 : Int32) = 0 := by decide
  unfold sf_pr at h
  have g0 := xu_if (p := fun b => post (xu_b b)) h
  refine And.intro (fun z => ⟨h2, xu_dec (g0.1 z)⟩) (fun e => ?_)
  have g1 := xu_if (p := fun b => post (xu_b b)) (g0.2 e)
  refine ⟨fun z => ⟨h2, xu_decn (g1.1 z)⟩, fun e => ?_⟩
  have g2 := xu_if (p := fun b => post (xu_b b)) (g1.2 e)
  refine ⟨fun z => xu_decn (g2.1 z), fun e => ?_⟩
  have g3 := xu_if (p := fun b => post (xu_b b)) (g2.2 e)
  refine ⟨fun z => xu_decn (g3.1 z), fun e => ?_⟩
  have g4 := xu_if (p := fun b => post (xu_b b)) (g3.2 e)
  refine ⟨fun z => xu_dec (g4.1 z), fun e => ?_⟩
  have g5 := xu_if (p := fun b => post (xu_b b)) (g4.2 e)
  exact ⟨fun z => xu_decn (g5.1 z), fun w => xu_dec2 (g5.2 w)⟩
/-! one node's loops -/
theorem ye_range_l {post : SY → Prop} {p b : Nat} (hp : p < 16) (hb : b ≤ 6) (eb : pb p = nI b) (h : post (yh, yn, yo, ye, yc, kd, pa, pb, yt, bi, upd ln p (nI b), sf_ap sl (p * 216) (sf_run (pa p) b), cj, ac, ov)) :
    ∀ k i, i + k = b → wY_evalNode_28 post (nI p) (k + 1) (nI i) yh yn yo ye yc kd pa pb yt bi ln (sf_ap sl (p * 216) (sf_run (pa p) i)) cj ac ov := by
  have e1 : (nI p).toNatClampNeg = p := nI_clamp (by omega)
  have hin : vp_in (nI p) 16 := vp_in_nI hp (by decide)
  intro k
  induction k with
  | zero =>
    intro i hi
    have : i = b := by omega
    subst this
    exact And.intro hin (br_t (by rw [e1, eb]; exact nI_le (Nat.le_refl _) (by omega)) (And.intro hin (nm_r (e' := nI i) (by rw [e1, eb]) ⟨hin, nm_r (e' := upd ln p (nI i)) (by rw [e1]) h⟩)))
  | succ k ih =>
    intro i hi
    refine And.intro hin (br_f (by rw [e1, eb]; exact nI_ge (by omega) (by omega)) (br_f (nI_ge (b := 6) (by omega) (by decide)) ⟨hin, ?_⟩))
    rw [e1]
    refine yu_put hp (by omega) (nm_r (nI_1 i) ?_)
    rw [sf_ap_s3 (i := i) (m := sf_run (pa p) (i + 1)) (sf_run_len _ _) rfl]
    exact ih (i + 1) (by omega)
theorem ye_inner_l {post : SY → Prop} {p l : Nat} {x : Int32} (hp : p < 16) (hl : l ≤ 6) (h : post (yh, yn, yo, ye, yc, kd, pa, pb, yt, bi, upd ln p (nI l), sf_ap sl (p * 216) (sf_run (x + pa p) l), cj, ac, ov)) :
    ∀ k i, i + k = l → wY_evalNode_170 post (nI p) x (nI l) (k + 1) (nI i) yh yn yo ye yc kd pa pb yt bi ln (sf_ap sl (p * 216) (sf_run (x + pa p) i)) cj ac ov := by
  have e1 : (nI p).toNatClampNeg = p := nI_clamp (by omega)
  have hin : vp_in (nI p) 16 := vp_in_nI hp (by decide)
  intro k
  induction k with
  | zero =>
    intro i hi
    have : i = l := by omega
    subst this
    exact br_t (nI_le (Nat.le_refl _) (by omega)) (And.intro hin (nm_r (e' := upd ln p (nI i)) (by rw [e1]) h))
  | succ k ih =>
    intro i hi
    refine br_f (nI_ge (by omega) (by omega)) (br_f (nI_ge (b := 7) (by omega) (by decide)) ⟨hin, ?_⟩)
    rw [e1]
    refine yu_put hp (by omega) (nm_r (nI_1 i) ?_)
    rw [sf_ap_s3 (i := i) (m := sf_run (x + pa p) (i + 1)) (sf_run_len _ _) rfl]
    exact ih (i + 1) (by omega)
theorem ye_inner {post : SY → Prop} {p b : Nat} {x : Int32} (hp : p < 16) (hb : b ≤ 6) (eb : pb p = nI b) (h : post (yh, yn, yo, ye, yc, kd, pa, pb, yt, bi, upd ln p (nI (sf_il (nI b) x)), sf_ap sl (p * 216) (sf_run (x + pa p) (sf_il (nI b) x)), cj, ac, ov)) : wY_evalNode_135 post (nI p) x yh yn yo ye yc kd pa pb yt bi ln sl cj ac ov := by
  have e1 : (nI p).toNatClampNeg = p := nI_clamp (by omega)
  have hin : vp_in (nI p) 16 := vp_in_nI hp (by decide)
  have hz : ¬ nI b + 1 = 0 := by rw [nI_1]; exact nI_ne0 (by omega) (by omega)
  have hl := sf_il_b hb x
  have := ye_inner_l hp hl.1 h (sf_il (nI b) x) 0 (by omega)
  rw [show sf_run (x + pa p) 0 = [] from rfl, sf_ap_nil] at this
  exact And.intro hin (nm_r (e' := nI b + 1) (by rw [e1, eb]) (br_t (by rw [nI_1]; exact nI_le (a := 1) (by omega) (by omega)) (And.intro hz (And.intro hz (nm_r (e' := nI (sf_il (nI b) x)) hl.2 ⟨sf_il (nI b) x + 1, this⟩)))))
theorem ye_map_l {post : SY → Prop} {p c : Nat} {l : List Int32} (hp : p < 16) (hc : c < p) (hl : l.length ≤ 216) (hd : sf_Hd sl (c * 216) l) (h : post (yh, yn, yo, ye, yc, kd, pa, pb, yt, bi, upd ln p (nI l.length), sf_ap sl (p * 216) (l.map (sf_un (pa p) (pb p))), cj, ac, ov)) :
    ∀ k i, i + k = l.length → wY_evalNode_224 post (nI p) (nI c) (nI l.length) (k + 1) (nI i) yh yn yo ye yc kd pa pb yt bi ln (sf_ap sl (p * 216) ((l.take i).map (sf_un (pa p) (pb p)))) cj ac ov := by
  have e1 : (nI p).toNatClampNeg = p := nI_clamp (by omega)
  have hin : vp_in (nI p) 16 := vp_in_nI hp (by decide)
  intro k
  induction k with
  | zero =>
    intro i hi
    have : i = l.length := by omega
    subst this
    rw [sf_take_all]
    exact br_t (nI_le (Nat.le_refl _) (by omega)) (And.intro hin (nm_r (e' := upd ln p (nI l.length)) (by rw [e1]) h))
  | succ k ih =>
    intro i hi
    obtain ⟨v, hv⟩ := sf_ex (l := l) (i := i) (by omega)
    refine br_f (nI_ge (by omega) (by omega)) (br_f (nI_ge (b := 216) (by omega) (by decide)) (yu_cell (v := v) (by omega) (by omega) (by rw [sf_ap_out (by omega)]; exact hd i v hv) ⟨hin, hin, ?_⟩))
    rw [e1]
    refine yu_unary (yu_put hp (by omega) (nm_r (nI_1 i) ?_))
    rw [sf_ap_s3 (i := i) (m := (l.take (i + 1)).map (sf_un (pa p) (pb p))) (by rw [List.length_map, sf_tl (by omega)]) (by rw [sf_take_s hv, List.map_append]; rfl)]
    exact ih (i + 1) (by omega)
theorem ye_filter_l {post : SY → Prop} {p c : Nat} {l : List Int32} (hp : p < 16) (hc : c < p) (hl : l.length ≤ 216) (hd : sf_Hd sl (c * 216) l) (h : post (yh, yn, yo, ye, yc, kd, pa, pb, yt, bi, upd ln p (nI (l.filter (sf_pr (pa p) (pb p))).length), sf_ap sl (p * 216) (l.filter (sf_pr (pa p) (pb p))), cj, ac, ov)) :
    ∀ k i, i + k = l.length → wY_evalNode_298 post (nI p) (nI c) (nI l.length) (k + 1) (nI ((l.take i).filter (sf_pr (pa p) (pb p))).length) (nI i) yh yn yo ye yc kd pa pb yt bi ln (sf_ap sl (p * 216) ((l.take i).filter (sf_pr (pa p) (pb p)))) cj ac ov := by
  have e1 : (nI p).toNatClampNeg = p := nI_clamp (by omega)
  have hin : vp_in (nI p) 16 := vp_in_nI hp (by decide)
  intro k
  induction k with
  | zero =>
    intro i hi
    have : i = l.length := by omega
    subst this
    rw [sf_take_all]
    exact br_t (nI_le (Nat.le_refl _) (by omega)) (And.intro hin (nm_r (e' := upd ln p (nI (l.filter (sf_pr (pa p) (pb p))).length)) (by rw [e1]) h))
  | succ k ih =>
    intro i hi
    obtain ⟨v, hv⟩ := sf_ex (l := l) (i := i) (by omega)
    have hle : ((l.take i).filter (sf_pr (pa p) (pb p))).length ≤ i := by
      have := List.length_filter_le (sf_pr (pa p) (pb p)) (l.take i)
      rw [sf_tl (by omega)] at this
      exact this
    have es : (l.take (i + 1)).filter (sf_pr (pa p) (pb p)) = (l.take i).filter (sf_pr (pa p) (pb p)) ++ (if sf_pr (pa p) (pb p) v = true then [v] else []) := by
      rw [sf_take_s hv, List.filter_append]
      by_cases hq : sf_pr (pa p) (pb p) v = true
      · rw [if_pos hq, List.filter_cons_of_pos hq]; rfl
      · rw [if_neg hq, List.filter_cons_of_neg hq]; rfl
    have ihs := ih (i + 1) (by omega)
    refine br_f (nI_ge (by omega) (by omega)) (br_f (nI_ge (b := 216) (by omega) (by decide)) (yu_cell (v := v) (by omega) (by omega) (by rw [sf_ap_out (by omega)]; exact hd i v hv) ⟨hin, hin, ?_⟩))
    rw [e1]
    refine yu_pred ?_
    by_cases hq : sf_pr (pa p) (pb p) v = true
    · rw [if_pos hq] at es
      rw [hq]
      refine br_f (show ¬ xu_b true = 0 from by decide) (yu_put hp (by omega) (nm_r (nI_1 _) (nm_r (nI_1 i) ?_)))
      rw [sf_ap_s3 rfl es]
      rw [show ((l.take (i + 1)).filter (sf_pr (pa p) (pb p))).length = ((l.take i).filter (sf_pr (pa p) (pb p))).length + 1 from by rw [es, List.length_append]; rfl] at ihs
      exact ihs
    · rw [if_neg hq, List.append_nil] at es
      rw [Bool.eq_false_iff.mpr hq]
      refine br_t (show xu_b false = 0 from by decide) (nm_r (nI_1 i) ?_)
      rw [es] at ihs
      exact ihs
theorem ye_take_l {post : SY → Prop} {p c : Nat} {l : List Int32} (hp : p < 16) (hc : c < p) (hl : l.length ≤ 216) (hd : sf_Hd sl (c * 216) l) (h : post (yh, yn, yo, ye, yc, kd, pa, pb, yt, bi, upd ln p (nI l.length), sf_ap sl (p * 216) l, cj, ac, ov)) :
    ∀ k i, i + k = l.length → wY_evalNode_404 post (nI p) (nI c) (nI l.length) (k + 1) (nI i) yh yn yo ye yc kd pa pb yt bi ln (sf_ap sl (p * 216) (l.take i)) cj ac ov := by
  have e1 : (nI p).toNatClampNeg = p := nI_clamp (by omega)
  have hin : vp_in (nI p) 16 := vp_in_nI hp (by decide)
  intro k
  induction k with
  | zero =>
    intro i hi
    have : i = l.length := by omega
    subst this
    rw [sf_take_all]
    exact br_t (nI_le (Nat.le_refl _) (by omega)) (And.intro hin (nm_r (e' := upd ln p (nI l.length)) (by rw [e1]) h))
  | succ k ih =>
    intro i hi
    obtain ⟨v, hv⟩ := sf_ex (l := l) (i := i) (by omega)
    refine br_f (nI_ge (by omega) (by omega)) (br_f (nI_ge (b := 216) (by omega) (by decide)) (yu_cell (v := v) (by omega) (by omega) (by rw [sf_ap_out (by omega)]; exact hd i v hv) ?_))
    refine yu_put hp (by omega) (nm_r (nI_1 i) ?_)
    rw [sf_ap_s3 (i := i) (m := l.take (i + 1)) (sf_tl (by omega)) (sf_take_s hv)]
    exact ih (i + 1) (by omega)
theorem ye_take {post : SY → Prop} {p c t : Nat} {l : List Int32} (hp : p < 16) (hc : c < p) (hl : l.length ≤ 216) (ht : t < 2 ^ 31) (hd : sf_Hd sl (c * 216) l) (h : post (yh, yn, yo, ye, yc, kd, pa, pb, yt, bi, upd ln p (nI (l.take t).length), sf_ap sl (p * 216) (l.take t), cj, ac, ov)) : wY_evalNode_388 post (nI p) (nI c) (nI l.length) (nI t) yh yn yo ye yc kd pa pb yt bi ln sl cj ac ov := by
  have hlt : (l.take t).length = min t l.length := List.length_take
  have := ye_take_l hp hc (by omega) (sf_Hd_take hd) h (l.take t).length 0 (by omega)
  rw [List.take_zero, sf_ap_nil] at this
  refine pk_le t l.length (fun g => ?_) (fun g => ?_)
  · rw [hlt, Nat.min_eq_left g] at this
    exact ⟨_, this⟩
  · rw [hlt, Nat.min_eq_right (by omega)] at this
    exact ⟨_, this⟩
theorem ye_drop_l {post : SY → Prop} {p c t : Nat} {l : List Int32} (hp : p < 16) (hc : c < p) (hl : l.length ≤ 216) (ht : t ≤ l.length) (hd : sf_Hd sl (c * 216) l) (h : post (yh, yn, yo, ye, yc, kd, pa, pb, yt, bi, upd ln p (nI (l.drop t).length), sf_ap sl (p * 216) (l.drop t), cj, ac, ov)) :
    ∀ k i, t + i + k = l.length → wY_evalNode_491 post (nI p) (nI c) (nI l.length) (nI t) (k + 1) (nI (t + i)) yh yn yo ye yc kd pa pb yt bi ln (sf_ap sl (p * 216) ((l.drop t).take i)) cj ac ov := by
  have e1 : (nI p).toNatClampNeg = p := nI_clamp (by omega)
  have hin : vp_in (nI p) 16 := vp_in_nI hp (by decide)
  have hlt : (l.drop t).length = l.length - t := List.length_drop
  intro k
  induction k with
  | zero =>
    intro i hi
    have e : (l.drop t).take i = l.drop t := List.take_of_length_le (by omega)
    rw [e]
    exact br_t (nI_le (by omega) (by omega)) (nm_r (e' := nI (l.drop t).length) (sn_sub (by omega)) ⟨hin, nm_r (e' := upd ln p (nI (l.drop t).length)) (by rw [e1]) h⟩)
  | succ k ih =>
    intro i hi
    obtain ⟨v, hv⟩ := sf_ex (l := l) (i := t + i) (by omega)
    have hv' : (l.drop t)[i]? = some v := by rw [List.getElem?_drop]; exact hv
    refine br_f (nI_ge (by omega) (by omega)) (br_f (nI_ge (b := 216) (by omega) (by decide)) (yu_cell (v := v) (by omega) (by omega) (by rw [sf_ap_out (by omega)]; exact hd (t + i) v hv) ?_))
    rw [sn_sub (c := i) (Nat.add_comm t i)]
    refine yu_put hp (by omega) (nm_r (nI_1 (t + i)) ?_)
    rw [sf_ap_s3 (i := i) (m := (l.drop t).take (i + 1)) (sf_tl (by omega)) (sf_take_s hv')]
    exact ih (i + 1) (by omega)
theorem ye_drop {post : SY → Prop} {p c t : Nat} {l : List Int32} (hp : p < 16) (hc : c < p) (hl : l.length ≤ 216) (ht : t < 2 ^ 31) (hd : sf_Hd sl (c * 216) l) (h : post (yh, yn, yo, ye, yc, kd, pa, pb, yt, bi, upd ln p (nI (l.drop t).length), sf_ap sl (p * 216) (l.drop t), cj, ac, ov)) : wY_evalNode_474 post (nI p) (nI c) (nI l.length) (nI t) yh yn yo ye yc kd pa pb yt bi ln sl cj ac ov := by
  rw [← sf_drop_min] at h
  have := ye_drop_l hp hc hl (Nat.min_le_right _ _) hd h (l.length - min t l.length) 0 (by omega)
  rw [List.take_zero, sf_ap_nil, Nat.add_zero (min t l.length)] at this
  refine pk_le t l.length (fun g => ?_) (fun g => ?_)
  · rw [Nat.min_eq_left g] at this
    exact ⟨_, this⟩
  · rw [Nat.min_eq_right (by omega)] at this
    exact ⟨_, this⟩
theorem ye_scan_l {post : SY → Prop} {p c : Nat} {a : Int32} {l : List Int32} (hp : p < 16) (hc : c < p) (hl : l.length ≤ 216) (hd : sf_Hd sl (c * 216) l) (h : post (yh, yn, yo, ye, yc, kd, pa, pb, yt, bi, upd ln p (nI l.length), sf_ap sl (p * 216) (sf_scan (pa p) a l), cj, ac, ov)) :
    ∀ k i, i + k = l.length → wY_evalNode_560 post (nI p) (nI c) (nI l.length) (k + 1) (sf_fold (pa p) a (l.take i)) (nI i) yh yn yo ye yc kd pa pb yt bi ln (sf_ap sl (p * 216) (sf_scan (pa p) a (l.take i))) cj ac ov := by
  have e1 : (nI p).toNatClampNeg = p := nI_clamp (by omega)
  have hin : vp_in (nI p) 16 := vp_in_nI hp (by decide)
  intro k
  induction k with
  | zero =>
    intro i hi
    have : i = l.length := by omega
    subst this
    rw [sf_take_all]
    exact br_t (nI_le (Nat.le_refl _) (by omega)) (And.intro hin (nm_r (e' := upd ln p (nI l.length)) (by rw [e1]) h))
  | succ k ih =>
    intro i hi
    obtain ⟨v, hv⟩ := sf_ex (l := l) (i := i) (by omega)
    refine br_f (nI_ge (by omega) (by omega)) (br_f (nI_ge (b := 216) (by omega) (by decide)) (yu_cell (v := v) (by omega) (by omega) (by rw [sf_ap_out (by omega)]; exact hd i v hv) ⟨hin, ?_⟩))
    rw [e1]
    refine yu_binary (yu_put hp (by omega) (nm_r (nI_1 i) ?_))
    rw [sf_ap_s3 (i := i) (m := sf_scan (pa p) a (l.take (i + 1))) (by rw [sf_scan_len, sf_tl (by omega)]) (by rw [sf_take_s hv, sf_scan_snoc])]
    have := ih (i + 1) (by omega)
    rw [show sf_fold (pa p) a (l.take (i + 1)) = sf_bi (pa p) (sf_fold (pa p) a (l.take i)) v from by rw [sf_take_s hv, sf_fold_snoc]] at this
    exact this
theorem ye_zip_l {post : SY → Prop} {p a c n : Nat} {m l : List Int32} (hp : p < 16) (ha : a < p) (hc : c < p) (hm' : m.length ≤ 216) (hl : l.length ≤ 216) (hn : n = min m.length l.length) (hm : sf_Hd sl (a * 216) m) (hd : sf_Hd sl (c * 216) l) (h : post (yh, yn, yo, ye, yc, kd, pa, pb, yt, bi, upd ln p (nI n), sf_ap sl (p * 216) (List.zipWith (sf_bi (pa p)) m l), cj, ac, ov)) :
    ∀ k i, i + k = n → wY_evalNode_665 post (nI p) (nI c) (nI n) (nI a) (k + 1) (nI i) yh yn yo ye yc kd pa pb yt bi ln (sf_ap sl (p * 216) (List.zipWith (sf_bi (pa p)) (m.take i) (l.take i))) cj ac ov := by
  have e1 : (nI p).toNatClampNeg = p := nI_clamp (by omega)
  have hin : vp_in (nI p) 16 := vp_in_nI hp (by decide)
  intro k
  induction k with
  | zero =>
    intro i hi
    have : i = n := by omega
    subst this
    have ez : List.zipWith (sf_bi (pa p)) (m.take i) (l.take i) = List.zipWith (sf_bi (pa p)) m l := by
      rw [← List.take_zipWith, List.take_of_length_le (by rw [List.length_zipWith]; omega)]
    rw [ez]
    exact br_t (nI_le (Nat.le_refl _) (by omega)) (And.intro hin (nm_r (e' := upd ln p (nI i)) (by rw [e1]) h))
  | succ k ih =>
    intro i hi
    obtain ⟨v, hv⟩ := sf_ex (l := l) (i := i) (by omega)
    obtain ⟨u, hu⟩ := sf_ex (l := m) (i := i) (by omega)
    refine br_f (nI_ge (by omega) (by omega)) (br_f (nI_ge (b := 216) (by omega) (by decide)) (yu_cell (v := u) (by omega) (by omega) (by rw [sf_ap_out (by omega)]; exact hm i u hu) (yu_cell (v := v) (by omega) (by omega) (by rw [sf_ap_out (by omega)]; exact hd i v hv) ⟨hin, ?_⟩)))
    rw [e1]
    refine yu_binary (yu_put hp (by omega) (nm_r (nI_1 i) ?_))
    rw [sf_ap_s3 (i := i) (m := List.zipWith (sf_bi (pa p)) (m.take (i + 1)) (l.take (i + 1))) (by rw [List.length_zipWith, sf_tl (by omega), sf_tl (by omega)]; omega) (by rw [sf_take_s hv, sf_take_s hu, List.zipWith_append (by rw [sf_tl (by omega), sf_tl (by omega)])]; rfl)]
    exact ih (i + 1) (by omega)
end YP

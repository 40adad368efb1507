/-! the reference: a node, a concatMap's step -/
def ye_H (n : Nat) (K st sc : Nat → Nat) (L : Nat → Int32 → List Int32) (kd pa pb yt bi : Nat → Int32) : Prop :=
  n ≤ 16 ∧ sf_WF n K st ∧ sf_Sp n K pa pb st L ∧ sf_scp n K st sc ∧ sf_src n K pb ∧ sf_lim n K st ∧ ∀ p, p < n → sf_YN n kd yt bi K st sc p
theorem sn_toI {v : Int32} (h : 0 ≤ v) : v = nI v.toNatClampNeg := by
  obtain ⟨j, hj, rfl⟩ := nI_of (x := v) (Int32.not_lt.mpr h)
  rw [nI_clamp hj]
section YE
variable {yh yn yo ye yc : Int32} {kd pa pb yt bi ln sl cj ac ov : Nat → Int32} {n : Nat} {K st sc : Nat → Nat} {L : Nat → Int32 → List Int32}
theorem ye_k8 {p : Nat} (w : sf_WF n K st) (hp : p < n) : K p ≤ 8 := by
  rcases w p hp with ⟨k, _⟩ | ⟨_, k, _⟩ | ⟨_, k, _⟩ <;> omega
theorem ye_pos (w : sf_WF n K st) {d : Nat} (hd : d + 1 < n) (k : 7 ≤ K (d + 1)) : ∃ a, st d = a + 1 ∧ a + 1 ≤ d := by
  have := sf_st_le w d (by omega)
  rcases w (d + 1) hd with ⟨k, _⟩ | ⟨_, k, _⟩ | ⟨_, _, _, h2, _⟩
  · omega
  · omega
  · rw [Nat.add_sub_cancel] at h2
    exact ⟨st d - 1, by omega, by omega⟩
theorem ye_len (H : ye_H n K st sc L kd pa pb yt bi) {p : Nat} (hp : p < n) (x : Int32) : (L p x).length ≤ 216 :=
  Nat.le_trans (sf_Llen H.2.1 H.2.2.1 H.2.2.2.2.2.1 H.2.2.2.2.1 p hp x) (sf_216 (sf_g3 K st p))
theorem ye_node {post : SY → Prop} {p : Nat} {x : Int32} (H : ye_H n K st sc L kd pa pb yt bi) (hp : p < n) (hk : K p ≠ 8)
    (hc : 2 ≤ K p → ln (p - 1) = nI (L (p - 1) x).length ∧ sf_Hd sl ((p - 1) * 216) (L (p - 1) x))
    (hz : K p = 7 → ln (st (p - 1) - 1) = nI (L (st (p - 1) - 1) x).length ∧ sf_Hd sl ((st (p - 1) - 1) * 216) (L (st (p - 1) - 1) x))
    (he : sf_Env n K st sc p x sl cj) (h : post (yh, yn, yo, ye, yc, kd, pa, pb, yt, bi, upd ln p (nI (L p x).length), sf_ap sl (p * 216) (L p x), cj, ac, ov)) : wpY_evalNode post (yh, yn, yo, ye, yc, kd, pa, pb, yt, bi, ln, sl, cj, ac, ov) (nI p) := by
  have H' := H
  obtain ⟨H1, H2, H3, H4, H5, H6, H7⟩ := H
  obtain ⟨N1, N2, N3⟩ := H7 p hp
  have hin : vp_in (nI p) 16 := vp_in_nI (by omega) (by decide)
  have e1 : (nI p).toNatClampNeg = p := nI_clamp (by omega)
  have hk8 := ye_k8 H2 hp
  refine And.intro hin (nm_r (e' := nI (K p)) (by rw [e1, N1]) (nm_e ?_))
  by_cases k0 : K p = 0
  · obtain ⟨b, hb, eb⟩ := H5 p hp (by omega)
    rw [sf_L0 H3 hp k0, eb, nI_clamp (by omega), sf_run_len] at h
    refine yu_lenP (by omega) (fun r => ?_)
    rw [k0]
    refine br_t rfl ⟨b + 1, ?_⟩
    have := ye_range_l (by omega) hb eb h b 0 (by omega)
    rw [show sf_run (pa p) 0 = [] from rfl, sf_ap_nil] at this
    exact this
  by_cases k1 : K p = 1
  · obtain ⟨b, hb, eb⟩ := H5 p hp (by omega)
    rw [sf_L1 H3 hp k1, eb, sf_run_len] at h
    refine yu_lenP (by omega) (fun r => ?_)
    rw [k1]
    refine br_f (by decide) (br_t rfl ⟨hin, ?_⟩)
    rw [e1]
    rcases N3 k1 with ⟨g1, g2⟩ | ⟨d, g1, g2, g3, g4⟩
    · rw [g2]
      have hx := he.1 g1
      rw [hx] at h
      exact nm_e (br_t (by decide) (ye_inner (by omega) hb eb h))
    · rw [g4]
      obtain ⟨a, ea, hac⟩ := ye_pos H2 g1 (by omega)
      obtain ⟨j, hj, ej, es⟩ := he.2 d g1 g2 g3
      have f1 : nI (d + 1) - 1 = nI d := nI_pred d
      have f2 : (nI d).toNatClampNeg = d := nI_clamp (by omega)
      have f3 : (nI (d + 1)).toNatClampNeg = d + 1 := nI_clamp (by omega)
      have f4 : yt (nI (d + 1) - 1).toNatClampNeg - 1 = nI a := by rw [f1, f2, (H7 d (by omega)).2.1, ea, nI_pred]
      rw [← g3, ea, Nat.add_sub_cancel] at es
      refine nm_e (br_f (nI_nle (by omega) (by omega)) (br_f (nI_ge (b := 16) (by omega) (by decide)) ⟨pk_in d 16 (by omega) f1, nm_r (e' := nI a) f4 ⟨vp_in_nI (by omega) (by decide), ?_⟩⟩))
      rw [f3, ej]
      exact yu_cell (by omega) hj es (ye_inner (by omega) hb eb h)
  obtain ⟨c, rfl⟩ : ∃ c, p = c + 1 := by
    rcases H2 p hp with ⟨k, _⟩ | ⟨_, _, k, _⟩ | ⟨_, _, k, _⟩
    · omega
    · exact ⟨p - 1, by omega⟩
    · exact ⟨p - 1, by omega⟩
  obtain ⟨c1, c2⟩ := hc (by omega)
  rw [Nat.add_sub_cancel] at c1 c2
  have hlen := ye_len H' (p := c) (by omega) x
  rw [nI_pred]
  refine yu_lenOf (by omega) c1 ?_
  by_cases k2 : K (c + 1) = 2
  · rw [sf_L2 H3 hp k2, List.length_map] at h
    rw [k2]
    refine br_f (by decide) (br_f (by decide) (br_t rfl ⟨(L c x).length + 1, ?_⟩))
    have := ye_map_l (by omega) (by omega) hlen c2 h (L c x).length 0 (by omega)
    rw [List.take_zero, List.map_nil, sf_ap_nil] at this
    exact this
  by_cases k3 : K (c + 1) = 3
  · rw [sf_L3 H3 hp k3] at h
    rw [k3]
    refine br_f (by decide) (br_f (by decide) (br_f (by decide) (br_t rfl ⟨(L c x).length + 1, ?_⟩)))
    have := ye_filter_l (by omega) (by omega) hlen c2 h (L c x).length 0 (by omega)
    rw [List.take_zero, List.filter_nil, sf_ap_nil] at this
    exact this
  by_cases k4 : K (c + 1) = 4
  · rw [sf_L4 H3 hp k4] at h
    rw [k4]
    refine br_f (by decide) (br_f (by decide) (br_f (by decide) (br_f (by decide) (br_t rfl ⟨hin, ?_⟩))))
    rw [e1]
    refine ⟨fun z => ⟨hin, ?_⟩, fun z => ?_⟩
    · have hlt := Int32.toNatClampNeg_lt (pa (c + 1))
      have := ye_take (by omega) (by omega) hlen hlt c2 h
      rw [← sn_toI z] at this
      exact this
    · rw [sn_cl_neg (Int32.not_le.mp z)] at h
      exact ye_take (by omega) (by omega) hlen (by decide) c2 h
  by_cases k5 : K (c + 1) = 5
  · rw [sf_L5 H3 hp k5] at h
    rw [k5]
    refine br_f (by decide) (br_f (by decide) (br_f (by decide) (br_f (by decide) (br_f (by decide) (br_t rfl ⟨hin, ?_⟩)))))
    rw [e1]
    refine ⟨fun z => ⟨hin, ?_⟩, fun z => ?_⟩
    · have hlt := Int32.toNatClampNeg_lt (pa (c + 1))
      have := ye_drop (by omega) (by omega) hlen hlt c2 h
      rw [← sn_toI z] at this
      exact this
    · rw [sn_cl_neg (Int32.not_le.mp z)] at h
      exact ye_drop (by omega) (by omega) hlen (by decide) c2 h
  by_cases k6 : K (c + 1) = 6
  · rw [sf_L6 H3 hp k6, sf_scan_len] at h
    rw [k6]
    refine br_f (by decide) (br_f (by decide) (br_f (by decide) (br_f (by decide) (br_f (by decide) (br_f (by decide) (br_t rfl ⟨hin, nm_r (e' := pb (c + 1)) (by rw [e1]) ⟨(L c x).length + 1, ?_⟩⟩))))))
    have := ye_scan_l (by omega) (by omega) hlen c2 h (L c x).length 0 (by omega)
    rw [List.take_zero, show sf_scan (pa (c + 1)) (pb (c + 1)) [] = [] from rfl, show sf_fold (pa (c + 1)) (pb (c + 1)) [] = pb (c + 1) from rfl, sf_ap_nil] at this
    exact this
  · have k7 : K (c + 1) = 7 := by omega
    obtain ⟨a, ea, hac⟩ := ye_pos H2 hp (by omega)
    obtain ⟨z1, z2⟩ := hz k7
    rw [Nat.add_sub_cancel, ea, Nat.add_sub_cancel] at z1 z2
    have hlena := ye_len H' (p := a) (by omega) x
    have f2 : (nI c).toNatClampNeg = c := nI_clamp (by omega)
    rw [sf_L7 H3 hp k7 ea] at h
    rw [List.length_zipWith] at h
    rw [k7]
    refine br_f (by decide) (br_f (by decide) (br_f (by decide) (br_f (by decide) (br_f (by decide) (br_f (by decide) (br_f (by decide) (br_t rfl ⟨vp_in_nI (by omega) (by decide), nm_r (e' := nI a) (by rw [f2, (H7 c (by omega)).2.1, ea, nI_pred]) (yu_lenOf (by omega) z1 ?_)⟩)))))))
    have key : ∀ m, m = min (L a x).length (L c x).length → ∃ n665 : Nat, wY_evalNode_665 post (nI (c + 1)) (nI c) (nI m) (nI a) n665 0 yh yn yo ye yc kd pa pb yt bi ln sl cj ac ov := by
      intro m hm
      refine ⟨m + 1, ?_⟩
      have := ye_zip_l (post := post) (p := c + 1) (by omega) (by omega) (by omega) hlena hlen hm z2 c2 (by rw [hm]; exact h) m 0 (by omega)
      rw [List.take_zero, List.take_zero, List.zipWith_nil_left, sf_ap_nil] at this
      exact this
    exact pk_le (L c x).length (L a x).length (fun g => key _ (by omega)) (fun g => key _ (by omega))
/-! finding the concatMap that begins at a place -/
theorem ye_find_l {post : Int32 → Prop} {p : Nat} (H : ye_H n K st sc L kd pa pb yt bi) (en : yn = nI n) (hp : p < n) (h0 : (∀ d, d + 1 < n → K (d + 1) = 8 → st d ≠ p) → post (-1)) (h1 : ∀ d, d + 1 < n → K (d + 1) = 8 → st d = p → post (nI (d + 1))) :
    ∀ k i, p < i → i + k = n → (∀ d, d + 1 < i → K (d + 1) = 8 → st d ≠ p) → wY_findConcat_4 post (nI p) yh yn yo ye yc kd pa pb yt bi ln sl cj ac ov (k + 1) (nI i) := by
  obtain ⟨H1, H2, H3, H4, H5, H6, H7⟩ := H
  intro k
  induction k with
  | zero =>
    intro i hi hk hno
    have : i = n := by omega
    subst this
    exact br_t (by rw [en]; exact nI_le (Nat.le_refl _) (by omega)) (h0 hno)
  | succ k ih =>
    intro i hi hk hno
    have e1 : (nI i).toNatClampNeg = i := nI_clamp (by omega)
    have hin : vp_in (nI i) 16 := vp_in_nI (by omega) (by decide)
    have hk8 := ye_k8 H2 (p := i) (by omega)
    obtain ⟨c, rfl⟩ : ∃ c, i = c + 1 := ⟨i - 1, by omega⟩
    refine br_f (by rw [en]; exact nI_ge (by omega) (by omega)) (br_f (nI_ge (b := 16) (by omega) (by decide)) ⟨hin, ?_⟩)
    rw [e1, (H7 (c + 1) (by omega)).1]
    refine pk_eq (K (c + 1)) 8 (fun k8 => ?_) (fun k8 => nm_r (nI_1 (c + 1)) (ih (c + 1 + 1) (by omega) (by omega) (fun d hd kd => ?_)))
    · have e2 : nI (c + 1) - 1 = nI c := nI_pred c
      have e3 : (nI c).toNatClampNeg = c := nI_clamp (by omega)
      have hst := sf_st_le H2 c (by omega)
      refine ⟨pk_in c 16 (by omega) e2, ?_⟩
      rw [e2, e3, (H7 c (by omega)).2.1]
      refine pk_eq (st c) p (fun g => h1 c (by omega) k8 g) (fun g => nm_r (nI_1 (c + 1)) (ih (c + 1 + 1) (by omega) (by omega) (fun d hd kd => ?_)))
      by_cases ed : d = c
      · rw [ed]; exact g
      · exact hno d (by omega) kd
    · by_cases ed : d = c
      · rw [ed] at kd; exact (k8 kd).elim
      · exact hno d (by omega) kd
theorem ye_find {post : Int32 → Prop} {p : Nat} (H : ye_H n K st sc L kd pa pb yt bi) (en : yn = nI n) (hp : p < n) (h0 : (∀ d, d + 1 < n → K (d + 1) = 8 → st d ≠ p) → post (-1)) (h1 : ∀ d, d + 1 < n → K (d + 1) = 8 → st d = p → post (nI (d + 1))) : wpY_findConcat post (yh, yn, yo, ye, yc, kd, pa, pb, yt, bi, ln, sl, cj, ac, ov) (nI p) := by
  have H2 := H.2.1
  refine nm_r (nI_1 p) ⟨n - (p + 1) + 1, ye_find_l H en hp h0 h1 (n - (p + 1)) (p + 1) (by omega) (by omega) (fun d hd kd e => ?_)⟩
  obtain ⟨a, ea, hac⟩ := ye_pos H2 (d := d) (by omega) (by omega)
  have := sf_st_le H2 d (by omega)
  omega
/-! one step of a concatMap -/
theorem ye_step_l {post : Int32 → SY → Prop} {c a e : Nat} {l : List Int32} (hc : c + 1 < 16) (hl : e + l.length ≤ 216) (h1 : ln c = nI l.length) (hd : sf_Hd sl (c * 216) l)
    (h : wY_stepConcat_87 post (nI (c + 1)) (nI (a + 1)) (nI a) yh yn yo ye yc kd pa pb yt bi (upd ln (c + 1) (nI (e + l.length))) (sf_ap sl ((c + 1) * 216 + e) l) cj ac ov) :
    ∀ k i, i + k = l.length → wY_stepConcat_19 post (nI (c + 1)) (nI c) (nI (a + 1)) (nI a) (k + 1) (nI i) yh yn yo ye yc kd pa pb yt bi (upd ln (c + 1) (nI (e + i))) (sf_ap sl ((c + 1) * 216 + e) (l.take i)) cj ac ov := by
  have e1 : (nI (c + 1)).toNatClampNeg = c + 1 := nI_clamp (by omega)
  have hin : vp_in (nI (c + 1)) 16 := vp_in_nI hc (by decide)
  intro k
  induction k with
  | zero =>
    intro i hi
    have : i = l.length := by omega
    subst this
    rw [sf_take_all]
    rw [wY_stepConcat_19]
    exact yu_lenOf (q := c) (v := nI l.length) (by omega) (by rw [pk_un (by omega)]; exact h1) (br_t (nI_le (Nat.le_refl _) (by omega)) h)
  | succ k ih =>
    intro i hi
    obtain ⟨v, hv⟩ := sf_ex (l := l) (i := i) (by omega)
    rw [wY_stepConcat_19]
    refine yu_lenOf (q := c) (v := nI l.length) (by omega) (by rw [pk_un (by omega)]; exact h1) (br_f (nI_ge (by omega) (by omega)) (br_f (nI_ge (b := 216) (by omega) (by decide)) ⟨hin, ?_⟩))
    rw [e1, pk_us]
    refine br_f (nI_ge (b := 216) (by omega) (by decide)) (yu_cell (v := v) (by omega) (by omega) (by rw [sf_ap_out (by omega)]; exact hd i v hv) ⟨hin, yu_put hc (by omega) ⟨hin, hin, nm_r (e' := upd ln (c + 1) (nI (e + (i + 1)))) (by rw [pk_us, nI_1, sn_upd_upd]; rfl) (nm_r (nI_1 i) ?_)⟩⟩)
    rw [sf_ap_s2 (i := i) (m := l.take (i + 1)) (sf_tl (by omega)) (sf_take_s hv)]
    exact ih (i + 1) (by omega)
theorem ye_step {post : Int32 → SY → Prop} {c a e j m : Nat} {l : List Int32} (hc : c + 1 < 16) (ha : a < c) (hl : e + l.length ≤ 216) (h0 : yt c = nI (a + 1)) (h1 : ln c = nI l.length) (hd : sf_Hd sl (c * 216) l) (h2 : ln (c + 1) = nI e) (hj : cj (c + 1) = nI j) (hm : ln a = nI m) (hm' : m ≤ 216) (hjm : j + 1 ≤ m)
    (hA : j + 1 < m → post (nI (a + 1)) (yh, yn, yo, ye, yc, kd, pa, pb, yt, bi, upd ln (c + 1) (nI (e + l.length)), sf_ap sl ((c + 1) * 216 + e) l, upd cj (c + 1) (nI (j + 1)), ac, ov))
    (hB : j + 1 = m → post (nI (c + 2)) (yh, yn, yo, ye, yc + nI (e + l.length), kd, pa, pb, yt, bi, upd ln (c + 1) (nI (e + l.length)), sf_ap sl ((c + 1) * 216 + e) l, upd cj (c + 1) (nI (j + 1)), upd ac (c + 1) 0, ov)) : wpY_stepConcat post (yh, yn, yo, ye, yc, kd, pa, pb, yt, bi, ln, sl, cj, ac, ov) (nI (c + 1)) := by
  have e1 : (nI (c + 1)).toNatClampNeg = c + 1 := nI_clamp (by omega)
  have e2 : (nI c).toNatClampNeg = c := nI_clamp (by omega)
  have hin : vp_in (nI (c + 1)) 16 := vp_in_nI hc (by decide)
  have hfin : wY_stepConcat_87 post (nI (c + 1)) (nI (a + 1)) (nI a) yh yn yo ye yc kd pa pb yt bi (upd ln (c + 1) (nI (e + l.length))) (sf_ap sl ((c + 1) * 216 + e) l) cj ac ov := by
    refine And.intro hin (And.intro hin (nm_r (e' := upd cj (c + 1) (nI (j + 1))) (by rw [e1, hj, nI_1]) ⟨hin, yu_lenOf (v := nI m) (by omega) (by rw [pk_un (by omega)]; exact hm) ?_⟩))
    rw [e1, pk_us]
    refine pk_le m (j + 1) (fun g => ⟨hin, nm_r (e' := upd ac (c + 1) 0) rfl ⟨hin, nm_r (e' := yc + nI (e + l.length)) ?_ ?_⟩⟩) (fun g => ?_)
    · rw [pk_us]
    · rw [nI_1]
      exact hB (by omega)
    · exact hA (by omega)
  have key := ye_step_l hc hl h1 hd hfin l.length 0 (by omega)
  rw [List.take_zero, sf_ap_nil, Nat.add_zero e, sn_upd_self h2] at key
  exact nm_r (nI_pred c) ⟨vp_in_nI (by omega) (by decide), nm_r (e' := nI (a + 1)) (by rw [e2, h0]) (nm_r (nI_pred a) ⟨l.length + 1, key⟩)⟩
end YE
